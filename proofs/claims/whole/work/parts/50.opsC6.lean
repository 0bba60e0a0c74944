theorem nn_of {x : Int32} (h : 0 ≤ x) : x = nI x.toNatClampNeg ∧ x.toNatClampNeg < 2 ^ 31 := by
  rw [i_nlt] at h
  obtain ⟨j, h1, h2⟩ := nI_of h
  rw [h2, nI_clamp h1]
  exact ⟨rfl, h1⟩
theorem resh_26 {g1 g2 o : Nat} {μ : Mem} {A : Arr} {κ : Unit → Option (Except Nat Unit × Mem)} (T : Option (Except Nat Unit × Mem) → Prop) (hA : GA μ g1 A) (hW : WA A)
    (hp : (∀ k, k < sz A → 0 ≤ A.2.2 k) → T (κ ())) (hn : ¬ (∀ k, k < sz A → 0 ≤ A.2.2 k) → T (some (.error 2, μ))) : T (f_X4_reshape_L26 κ g1 g2 o μ 1000 0) := by
  rw [il0]
  have h1 := hW.2.2
  refine lp0 (fun n (s : Int32) => f_X4_reshape_L26 κ g1 g2 o μ n s) T (sz A) (fun i s => s = nI i ∧ ∀ k, k < i → 0 ≤ A.2.2 k) (nI 0) 1000 (by omega) ⟨rfl, fun k hk => by omega⟩ ?_ ?_
  · rintro n s ⟨rfl, h3⟩
    simp only [f_X4_reshape_L26, hA.2.1, nle_t (Nat.le_refl _) (show sz A < 2 ^ 31 by omega), if_true]
    exact hp h3
  · rintro n i s hi hn' ⟨rfl, h3⟩
    simp only [f_X4_reshape_L26, hA.2.1, nle_f hi (show sz A < 2 ^ 31 by omega), if_false, ig_t (show i < 48 by omega) (show 48 < 2 ^ 31 by omega), nI_clamp (show i < 2 ^ 31 by omega), hA.2.2.2 i hi, lt, ← nI_succ]
    by_cases c : 0 ≤ A.2.2 i
    · left
      refine ⟨nI (i + 1), ⟨rfl, fun k hk => ?_⟩, by rw [if_pos c]⟩
      by_cases q : k = i
      · rw [q]; exact c
      · exact h3 k (by omega)
    · right
      rw [if_neg c]
      exact hn (fun q => c (q i hi))
theorem resh_59 {g1 g2 o : Nat} {μ : Mem} {A : Arr} {κ : Mem → Option (Except Nat Unit × Mem)} (T : Option (Except Nat Unit × Mem) → Prop) (hg : g1 ≠ o) (h0 : G0 μ o) (hA : GA μ g1 A) (h3 : sz A ≤ 3) (hp : ∀ k, k < sz A → 0 ≤ A.2.2 k)
    (hend : ∀ ν, Fs o μ ν → GS ν o (sz A) (aL A) → (∀ k, k < sz A → (A.2.2 k).toNatClampNeg ≤ 48) → T (κ ν))
    (herr : ∀ ν, Fs o μ ν → ¬ okS (sz A) (aL A) → T (some (.error 1, ν))) : T (f_X4_reshape_L59 κ g1 g2 o 1000 0 μ) := by
  rw [il0]
  refine lp0 (fun n (s : Int32 × Mem) => f_X4_reshape_L59 κ g1 g2 o n s.1 s.2) T (sz A) (fun i s => s.1 = nI i ∧ Fs o μ s.2 ∧ GS s.2 o i (aL A) ∧ ∀ k, k < i → (A.2.2 k).toNatClampNeg ≤ 48) (nI 0, μ) 1000 (by omega) ⟨rfl, Fs.refl, h0.gs _, fun k hk => by omega⟩ ?_ ?_
  · rintro n ⟨x, ν⟩ ⟨e1, e2, e3, e4⟩
    dsimp only at e1 e2 e3 e4 ⊢
    subst e1
    have e5 := (e2.ga hg hA).2.1
    simp only [f_X4_reshape_L59, e5, nle_t (Nat.le_refl _) (show sz A < 2 ^ 31 by omega), if_true]
    exact hend ν e2 e3 e4
  · rintro n i ⟨x, ν⟩ hi hn' ⟨e1, e2, e3, e4⟩
    dsimp only at e1 e2 e3 e4 ⊢
    subst e1
    have e5 := (e2.ga hg hA).2.1
    have e6 := (e2.ga hg hA).2.2.2 i hi
    obtain ⟨e7, e8⟩ := nn_of (hp i hi)
    simp only [f_X4_reshape_L59, e5, nle_f hi (show sz A < 2 ^ 31 by omega), if_false, ig_t (show i < 48 by omega) (show 48 < 2 ^ 31 by omega), nI_clamp (show i < 2 ^ 31 by omega), e6]
    by_cases c : (A.2.2 i).toNatClampNeg ≤ 48
    · obtain ⟨ν', d1, d2, d3⟩ := addAxis_ok e3 (by omega) rfl c
      left
      refine ⟨(nI (i + 1), ν'), ⟨rfl, e2.trans d2, d3, fun k hk => ?_⟩, ?_⟩
      · by_cases q : k = i
        · rw [q]; exact c
        · exact e4 k (by omega)
      · rw [show aL A i = (A.2.2 i).toNatClampNeg from rfl, ← e7] at d1
        simp only [d1, bB_o, lt, ← nI_succ]
    · right
      rw [addAxis_err (by rw [e7, il48, nle_iff e8 (by omega)]; exact c), bB_e]
      exact herr ν e2 (fun q => c (q.1 i hi))
theorem reshape_C {o g1 g2 : Nat} {μ : Mem} {A B : Arr} (hg1 : g1 ≠ o) (hg2 : g2 ≠ o) (h0 : G0 μ o) (hA : GA μ g1 A) (hWA : WA A) (hB : GA μ g2 B) (hWB : WA B) : CT o μ (s_resh A B) (f_X4_reshape g1 g2 o μ) := by
  have h1 := hWA.1
  have h1s := hWA.2.2
  have h2s := hWB.2.2
  unfold f_X4_reshape s_resh
  simp only [hA.1, hA.2.1, il1, il3, nlt_iff (show 1 < 2 ^ 31 by omega) (show A.1 < 2 ^ 31 by omega), nle_iff (show sz A < 2 ^ 31 by omega) (show 3 < 2 ^ 31 by omega)]
  by_cases c1 : 1 < A.1
  · rw [if_pos c1, if_pos (Or.inl c1)]; exact CT_stop
  rw [if_neg c1]
  by_cases c2 : 3 < sz A
  · rw [if_neg (show ¬ sz A ≤ 3 by omega), if_pos (Or.inr c2)]; exact CT_stop
  rw [if_pos (show sz A ≤ 3 by omega), if_neg (show ¬ (1 < A.1 ∨ 3 < sz A) by omega)]
  refine resh_26 _ hA hWA (fun c3 => ?_) (fun c3 => ?_)
  rotate_left
  · rw [if_neg c3]; exact CT_stop
  rw [if_pos c3]
  refine resh_59 _ hg1 h0 hA (by omega) c3 (fun ν e1 e2 e3 => ?_) (fun ν e1 e2 => ?_)
  rotate_left
  · rw [if_neg e2]; exact CT_stop' e1.fg
  have e3' : ∀ k, k < sz A → aL A k ≤ 48 := e3
  have hb : pr (aL A) (sz A) ≤ 110592 := pr_le (by omega) e3'
  rw [endAxes_eq e2 (by omega)]
  by_cases c4 : pr (aL A) (sz A) ≤ 48
  rotate_left
  · rw [if_neg (fun q => c4 ((okS_iff e3').mp q)), if_neg c4, bT_e]; exact CT_stop' e1.fg
  rw [if_pos ((okS_iff e3').mpr c4), if_pos c4, bT_o]
  have hB1 := e1.ga hg2 hB
  have e4 : ν 20 o 3 = nI (pr (aL A) (sz A)) := e2.2.1
  simp only [jn, hB1.2.1, e4, nle_iff (show pr (aL A) (sz A) < 2 ^ 31 by omega) (show 0 < 2 ^ 31 by omega), neq_iff (show sz B < 2 ^ 31 by omega) (show 0 < 2 ^ 31 by omega), il0]
  have hloop : ¬ (sz B = 0 ∧ 0 < pr (aL A) (sz A)) → CT o μ (mkA (sz A) (aL A) (fun k => .ok (B.2.2 (k % sz B)))) (f_X4_reshape_L114 (fun (μ_31 : Mem) => some (.ok (), μ_31)) g2 o 1000 (nI 0) (nI 0) ν) := by
    intro c5
    suffices h : CT o μ (mkA (sz A) (aL A) (fun k => .ok (B.2.2 (k % sz B)))) (f_X4_reshape_L114 (fun (μ_31 : Mem) => some (.ok (), μ_31)) g2 o 1000 (nI (0 % sz B)) (nI 0) ν) by
      rw [Nat.zero_mod] at h
      exact h
    refine Cloop' (fun n (s : Int32 × Int32) ν => f_X4_reshape_L114 (fun μ => some (.ok (), μ)) g2 o n s.1 s.2 ν) (fun k => (nI (k % sz B), nI k)) e1.fg e2 c4 ?_ ?_
    · intro n ν' h6
      simp only [f_X4_reshape_L114, h6, nle_t (Nat.le_refl _) (show pr (aL A) (sz A) < 2 ^ 31 by omega), if_true]
    · intro n k ν' hk h6 h7
      have hm0 : 0 < sz B := by omega
      have hmod := Nat.mod_lt k hm0
      have h8 := (h7.ga hg2 hB1).2.2.2 (k % sz B) hmod
      have h9 := (h7.ga hg2 hB1).2.1
      simp only [f_X4_reshape_L114, h6, nle_f hk (show pr (aL A) (sz A) < 2 ^ 31 by omega), if_false, ig_t (show k % sz B < 48 by omega) (show 48 < 2 ^ 31 by omega), ig_t (show k < 48 by omega) (show 48 < 2 ^ 31 by omega), nI_clamp (show k < 2 ^ 31 by omega), nI_clamp (show k % sz B < 2 ^ 31 by omega), h8, lt, jn, ← nI_succ, sto_k (show 20 ≠ 22 by omega), h9, neq_iff (show k % sz B + 1 < 2 ^ 31 by omega) (show sz B < 2 ^ 31 by omega)]
      rcases dmS (k := k) hm0 with ⟨q1, q2, q3⟩ | ⟨q1, q2, q3⟩
      · rw [if_pos q1, q3, il0]
      · rw [if_neg (by omega), q3]
  by_cases c5 : sz B = 0 ∧ 0 < pr (aL A) (sz A)
  · rw [if_pos c5, if_pos c5.1, if_neg (show ¬ pr (aL A) (sz A) ≤ 0 by omega)]
    exact CT_stop' e1.fg
  · rw [if_neg c5]
    by_cases c6 : sz B = 0
    · rw [if_pos c6, if_pos (show pr (aL A) (sz A) ≤ 0 by omega)]; exact hloop c5
    · rw [if_neg c6]; exact hloop c5
