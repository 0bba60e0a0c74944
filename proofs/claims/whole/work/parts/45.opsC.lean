/-! ===== the class's functions ===== -/
theorem eachOfOne_C {f o g : Nat} {μ : Mem} {A : Arr} {c : Int32} (hw : ∀ a ν, f_X3_workAlone c a ν = some (one f a)) (hg : g ≠ o) (hA : GA μ g A) (hW : WA A) : CT o μ (s_one f A) (f_X3_eachOfOne c g o μ) := by
  obtain ⟨μ1, h1, h2, h3⟩ := shapeLike_eq hg hA hW
  have hA1 := h2.ga hg hA
  have hs : pr A.2.1 A.1 ≤ 48 := hW.2.2
  unfold f_X3_eachOfOne
  rw [h1, bB_o]
  refine Cloop' (fun n (s : Int32) ν => f_X3_eachOfOne_L7 (fun μ => some (.ok (), μ)) c g o n s ν) nI h2.fg h3 hs ?_ ?_
  · intro n ν h4
    simp only [f_X3_eachOfOne_L7, h4, nle_t (Nat.le_refl _) (show pr A.2.1 A.1 < 2 ^ 31 by omega), if_true]
  · intro n k ν hk h4 h5
    have h6 := (h5.ga hg hA1).2.2.2 k hk
    simp only [f_X3_eachOfOne_L7, h4, nle_f hk (show pr A.2.1 A.1 < 2 ^ 31 by omega), if_false, ig_t (show k < 48 by omega) (by omega), nI_clamp (show k < 2 ^ 31 by omega), h6, hw, lt, ← nI_succ]
    cases one f (A.2.2 k) <;> rfl
theorem workAlone_0 (a : Int32) (μ : Mem) : f_X3_workAlone 45 a μ = some (one 0 a) := by
  unfold f_X3_workAlone
  rw [if_pos rfl, fit_eq, bT_id]; rfl
theorem workAlone_1 (a : Int32) (μ : Mem) : f_X3_workAlone 124 a μ = some (one 1 a) := by
  unfold f_X3_workAlone one
  rw [if_neg (by decide), if_pos rfl]
  simp only [jn, fit_eq, bT_id]
  by_cases h : 0 ≤ a
  · simp only [if_pos h]
  · simp only [if_neg h]
theorem workAlone_2 (a : Int32) (μ : Mem) : f_X3_workAlone 42 a μ = some (one 2 a) := by
  unfold f_X3_workAlone one
  rw [if_neg (by decide), if_neg (by decide)]
  by_cases h : a ≤ 0
  · simp only [if_pos h]
    by_cases h2 : 0 ≤ a
    · simp only [if_pos h2]
    · simp only [if_neg h2]
  · simp only [if_neg h]
theorem CT_stop {o e : Nat} {μ : Mem} : CT o μ (.error e) (some (.error e, μ)) := ⟨.error e, μ, rfl, Fg.refl, rfl⟩
theorem CT_stop' {o e : Nat} {μ μ' : Mem} (h : Fg o μ μ') : CT o μ (.error e) (some (.error e, μ')) := ⟨.error e, μ', rfl, h, rfl⟩
/-- the out Grid is a scalar yet -/
def G0 (μ : Mem) (o : Nat) : Prop := μ 20 o 2 = nI 0 ∧ μ 20 o 3 = nI 1
theorem G0.gs {μ : Mem} {o : Nat} (h : G0 μ o) (L : Nat → Nat) : GS μ o 0 L := ⟨h.1, h.2, fun k hk => by omega⟩
theorem nle_iff {a b : Nat} (ha : a < 2 ^ 31) (hb : b < 2 ^ 31) : (nI a ≤ nI b) = (a ≤ b) := propext (nI_leI ha hb)
theorem nlt_iff {a b : Nat} (ha : a < 2 ^ 31) (hb : b < 2 ^ 31) : (nI a < nI b) = (a < b) := propext (nI_ltI ha hb)
theorem neq_iff {a b : Nat} (ha : a < 2 ^ 31) (hb : b < 2 ^ 31) : (nI a = nI b) = (a = b) := propext (nI_eq ha hb)
theorem i_nlt (x : Int32) : (0 ≤ x) = ¬ (x < 0) := by
  rw [Int32.lt_iff_toInt_lt, Int32.le_iff_toInt_le]; exact propext (by omega)
theorem upTo_C {o g : Nat} {μ : Mem} {A : Arr} (hg : g ≠ o) (h0 : G0 μ o) (hA : GA μ g A) (hW : WA A) : CT o μ (s_up A) (f_X4_upTo g o μ) := by
  have hw1 := hW.1
  have hw2 := hW.2.2
  unfold f_X4_upTo s_up
  simp only [hA.1, hA.2.1, il1, il0, nle_iff (show A.1 < 2 ^ 31 by omega) (show 1 < 2 ^ 31 by omega), neq_iff (show sz A < 2 ^ 31 by omega) (show 1 < 2 ^ 31 by omega), ig_t (show 0 < 48 by omega) (show 48 < 2 ^ 31 by omega), nI_clamp (show 0 < 2 ^ 31 by omega)]
  by_cases c1 : 1 < A.1
  · rw [if_pos c1, if_neg (show ¬ A.1 ≤ 1 by omega)]; exact CT_stop
  · rw [if_neg c1, if_pos (show A.1 ≤ 1 by omega)]
    by_cases c2 : sz A = 1
    · rw [if_pos c2, if_pos c2]
      have h1 : μ 22 g 0 = A.2.2 0 := hA.2.2.2 0 (by omega)
      simp only [h1, ← il0, i_nlt]
      by_cases c3 : A.2.2 0 < 0
      · rw [if_pos c3, if_neg (by simpa using c3)]; exact CT_stop
      · rw [if_neg c3, if_pos c3]
        obtain ⟨n, hn, e⟩ := nI_of c3
        rw [e, nI_clamp hn]
        by_cases c4 : n ≤ 48
        · have hp : pr (fun _ => n) 1 = n := by simp [pr]
          have hok : okS 1 (fun _ => n) := ⟨fun k _ => c4, by rw [hp]; exact c4⟩
          obtain ⟨μ1, h2, h3, h4⟩ := addAxis_ok (h0.gs (fun _ => n)) (by omega) rfl c4
          rw [mk, if_pos hok]
          rw [h2, bB_o]
          refine Cloop' (fun n (s : Int32) ν => f_X4_upTo_L61 (fun μ => some (.ok (), μ)) o n s ν) nI h3.fg h4 hok.2 ?_ ?_
          · intro n' ν h5
            rw [hp] at h5 ⊢
            simp only [f_X4_upTo_L61, h5, nle_t (Nat.le_refl _) (show n < 2 ^ 31 by omega), if_true]
          · intro n' k ν hk h5 h6
            rw [hp] at h5 hk
            simp only [f_X4_upTo_L61, h5, nle_f hk (show n < 2 ^ 31 by omega), if_false, ig_t (show k < 48 by omega) (by omega), nI_clamp (show k < 2 ^ 31 by omega), lt, ← nI_succ]
        · have hok : ¬ okS 1 (fun _ => n) := fun q => c4 (q.1 0 (by omega))
          rw [mk, if_neg hok, addAxis_err (by rw [il48, nle_iff (by omega) (by omega)]; exact c4), bB_e]
          exact CT_stop
    · rw [if_neg c2, if_neg c2]; exact CT_stop
