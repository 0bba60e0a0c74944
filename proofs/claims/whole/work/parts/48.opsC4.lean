theorem dm1 {i j m : Nat} (h : j < m) : (i * m + j) / m = i ∧ (i * m + j) % m = j := by
  have hm : 0 < m := by omega
  constructor
  · rw [Nat.mul_comm, Nat.mul_add_div hm, Nat.div_eq_of_lt h, Nat.add_zero]
  · rw [Nat.mul_comm, Nat.mul_add_mod, Nat.mod_eq_of_lt h]
theorem dmS {k m : Nat} (h : 0 < m) : (k % m + 1 = m ∧ (k + 1) / m = k / m + 1 ∧ (k + 1) % m = 0) ∨ (k % m + 1 < m ∧ (k + 1) / m = k / m ∧ (k + 1) % m = k % m + 1) := by
  have h1 := Nat.div_add_mod k m
  have h2 := Nat.mod_lt k h
  rw [Nat.mul_comm] at h1
  by_cases c : k % m + 1 = m
  · left
    have h3 : k + 1 = (k / m + 1) * m + 0 := by rw [Nat.succ_mul]; omega
    have h4 := dm1 (i := k / m + 1) h
    rw [← h3] at h4
    exact ⟨c, h4.1, h4.2⟩
  · right
    have h3 : k + 1 = k / m * m + (k % m + 1) := by omega
    have h4 := dm1 (i := k / m) (show k % m + 1 < m by omega)
    rw [← h3] at h4
    exact ⟨by omega, h4.1, h4.2⟩
theorem mul_in {i j n m : Nat} (hi : i < n) (hj : j < m) : i * m + j < n * m := by
  have : (i + 1) * m ≤ n * m := Nat.mul_le_mul_right m hi
  rw [Nat.succ_mul] at this
  omega
theorem outer_C {f o g1 g2 : Nat} (hf : f < 10) {μ : Mem} {A B : Arr} (hg1 : g1 ≠ o) (hg2 : g2 ≠ o) (h0 : G0 μ o) (hA : GA μ g1 A) (hWA : WA A) (hB : GA μ g2 B) (hWB : WA B) : CT o μ (s_outer f A B) (f_X3_outer (sg f) g1 g2 o μ) := by
  have h1 := hWA.1
  have h2 := hWB.1
  have h1s := hWA.2.2
  have h2s := hWB.2.2
  unfold f_X3_outer s_outer
  simp only [hA.1, hB.1, nI_add, il3, nle_iff (show A.1 + B.1 < 2 ^ 31 by omega) (show 3 < 2 ^ 31 by omega)]
  by_cases c : A.1 + B.1 ≤ 3
  · rw [if_pos c, if_pos c]
    have hL1 : ∀ j, j < A.1 → cat A.1 A.2.1 B.2.1 j = A.2.1 j := fun j hj => by simp [cat, hj]
    have hL2 : ∀ j, cat A.1 A.2.1 B.2.1 (A.1 + j) = B.2.1 j := fun j => by simp only [cat]; rw [if_neg (by omega), Nat.add_sub_cancel_left]
    have hL : ∀ k, k < A.1 + B.1 → cat A.1 A.2.1 B.2.1 k ≤ 48 := fun k hk => by
      by_cases q : k < A.1
      · rw [hL1 k q]; exact hWA.2.1 k q
      · have := hL2 (k - A.1)
        rw [show A.1 + (k - A.1) = k by omega] at this
        rw [this]; exact hWB.2.1 _ (by omega)
    have hp : pr (cat A.1 A.2.1 B.2.1) (A.1 + B.1) = sz A * sz B := pr_cat _ _ _ _
    obtain ⟨μ1, h3, h4, h5⟩ := addAxesOf_eq (a := 0) (b := A.1) hg1 (h0.gs (cat A.1 A.2.1 B.2.1)) (by omega) (by omega) (by omega) (fun j _ hj => by
      rw [Nat.zero_add, Nat.sub_zero, hL1 j hj]; exact ⟨hA.2.2.1 j hj, hWA.2.1 j hj⟩)
    rw [Nat.zero_add, Nat.sub_zero] at h5
    have hB1 := h4.ga hg2 hB
    obtain ⟨μ2, h6, h7, h8⟩ := addAxesOf_eq (a := 0) (b := B.1) hg2 h5 (by omega) (by omega) (by omega) (fun j _ hj => by
      rw [Nat.sub_zero, hL2 j]; exact ⟨hB1.2.2.1 j hj, hWB.2.1 j hj⟩)
    rw [Nat.sub_zero] at h8
    have hA2 := h7.ga hg1 (h4.ga hg1 hA)
    have hB2 := h7.ga hg2 hB1
    have hb : pr (cat A.1 A.2.1 B.2.1) (A.1 + B.1) ≤ 110592 := pr_le c hL
    rw [il0, h3, bB_o, hB1.1, h6, bB_o, endAxes_eq h8 (by omega)]
    unfold mk
    by_cases c2 : pr (cat A.1 A.2.1 B.2.1) (A.1 + B.1) ≤ 48
    · rw [if_pos ((okS_iff hL).mpr c2), if_pos c2, bT_o]
      have hF : Fg o μ μ2 := (h4.trans h7).fg
      generalize hFF : (fun k => num f (A.2.2 (k / sz B)) (B.2.2 (k % sz B))) = F
      refine lp0 (fun n (s : Int32 × Int32 × Mem) => f_X3_outer_L51 (fun μ => some (.ok (), μ)) (sg f) g1 g2 o n s.1 s.2.1 s.2.2) (CT o μ (mkA (A.1 + B.1) (cat A.1 A.2.1 B.2.1) F)) (sz A)
        (fun i s => s.1 = nI (i * sz B) ∧ s.2.1 = nI i ∧ CI o μ2 F (i * sz B) s.2.2) (nI 0, nI 0, μ2) 1000 (by omega) ⟨by simp, rfl, by rw [Nat.zero_mul]; exact CI_0⟩ ?_ ?_
      · rintro n ⟨x, y, ν⟩ ⟨e1, e2, e3⟩
        dsimp only at e1 e2 e3 ⊢
        subst e1 e2
        have e4 := (e3.ga hg1 hA2).2.1
        simp only [f_X3_outer_L51, e4, nle_t (Nat.le_refl _) (show sz A < 2 ^ 31 by omega), if_true]
        exact CT_end hF h8 (by rw [hp]; exact e3)
      · rintro n i ⟨x, y, ν⟩ hi hn ⟨e1, e2, e3⟩
        dsimp only at e1 e2 e3 ⊢
        subst e1 e2
        have e4 := (e3.ga hg1 hA2).2.1
        simp only [f_X3_outer_L51, e4, nle_f hi (show sz A < 2 ^ 31 by omega), if_false]
        refine lp0 (fun n' (t : Int32 × Int32 × Mem) => f_X3_outer_L63 (fun (a4_31 : Int32) (μ_32 : Mem) =>
            lt (nI i + (1 : Int32)) fun x_33 => f_X3_outer_L51 (fun μ => some (.ok (), μ)) (sg f) g1 g2 o n a4_31 x_33 μ_32) (sg f) g1 g2 o (nI i) n' t.1 t.2.1 t.2.2)
          (fun x => (∃ s' : Int32 × Int32 × Mem, (s'.1 = nI ((i + 1) * sz B) ∧ s'.2.1 = nI (i + 1) ∧ CI o μ2 F ((i + 1) * sz B) s'.2.2) ∧ x = f_X3_outer_L51 (fun μ => some (.ok (), μ)) (sg f) g1 g2 o n s'.1 s'.2.1 s'.2.2) ∨ CT o μ (mkA (A.1 + B.1) (cat A.1 A.2.1 B.2.1) F) x) (sz B)
          (fun j t => t.1 = nI (i * sz B + j) ∧ t.2.1 = nI j ∧ CI o μ2 F (i * sz B + j) t.2.2) (nI (i * sz B), nI 0, ν) 1000 (by omega) ⟨rfl, rfl, e3⟩ ?_ ?_
        · rintro n' ⟨x, y, ν'⟩ ⟨d1, d2, d3⟩
          dsimp only at d1 d2 d3 ⊢
          subst d1 d2
          have d4 := (d3.ga hg2 hB2).2.1
          left
          refine ⟨(nI (i * sz B + sz B), nI (i + 1), ν'), ⟨by rw [Nat.succ_mul], rfl, by rw [Nat.succ_mul]; exact d3⟩, ?_⟩
          simp only [f_X3_outer_L63, d4, nle_t (Nat.le_refl _) (show sz B < 2 ^ 31 by omega), if_true, lt, ← nI_succ]
        · rintro n' j ⟨x, y, ν'⟩ hj hn' ⟨d1, d2, d3⟩
          dsimp only at d1 d2 d3 ⊢
          subst d1 d2
          have d4 := (d3.ga hg2 hB2).2.1
          have d5 := (d3.ga hg1 hA2).2.2.2 i hi
          have d6 := (d3.ga hg2 hB2).2.2.2 j hj
          have d7 := mul_in hi hj
          have d8 : F (i * sz B + j) = num f (A.2.2 i) (B.2.2 j) := by
            rw [← hFF]; dsimp only; rw [(dm1 hj).1, (dm1 hj).2]
          simp only [f_X3_outer_L63, d4, nle_f hj (show sz B < 2 ^ 31 by omega), if_false, ig_t (show i < 48 by omega) (show 48 < 2 ^ 31 by omega), ig_t (show j < 48 by omega) (show 48 < 2 ^ 31 by omega), nI_clamp (show i < 2 ^ 31 by omega), nI_clamp (show j < 2 ^ 31 by omega), d5, d6, work_eq hf]
          cases hq : num f (A.2.2 i) (B.2.2 j) with
          | error e =>
            right
            right
            rw [bT_e]
            exact CT_err hF d3 (by omega) (by rw [d8, hq])
          | ok v =>
            left
            refine ⟨(nI (i * sz B + j + 1), nI (j + 1), sto ν' 22 o (i * sz B + j) v), ⟨rfl, rfl, CI_s d3 (d8.trans hq)⟩, ?_⟩
            simp only [bT_o, ig_t (show i * sz B + j < 48 by omega) (show 48 < 2 ^ 31 by omega), nI_clamp (show i * sz B + j < 2 ^ 31 by omega), lt, ← nI_succ]
    · rw [if_neg (fun q => c2 ((okS_iff hL).mp q)), if_neg c2, bT_e]
      exact CT_stop' (h4.trans h7).fg
  · rw [if_neg c, if_neg c]; exact CT_stop
