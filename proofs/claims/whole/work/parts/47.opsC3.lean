theorem needSame_eq {g1 g2 : Nat} {μ : Mem} {A B : Arr} (hA : GA μ g1 A) (hWA : WA A) (hB : GA μ g2 B) (hWB : WA B) : f_X3_needSameShape g1 g2 μ = some (if A.1 = B.1 then (if ∀ k, k < A.1 → A.2.1 k = B.2.1 k then .ok () else .error 3) else .error 4) := by
  have h1 := hWA.1
  have h2 := hWB.1
  unfold f_X3_needSameShape
  simp only [hA.1, hB.1, neq_iff (show A.1 < 2 ^ 31 by omega) (show B.1 < 2 ^ 31 by omega)]
  by_cases c : A.1 = B.1
  · rw [if_pos c, if_pos c]
    refine lp0 (fun n (s : Int32) => f_X3_needSameShape_L21 (fun _ => some (.ok ())) g1 g2 μ n s) (fun x => x = some (if ∀ k, k < A.1 → A.2.1 k = B.2.1 k then .ok () else .error 3)) A.1
      (fun i s => s = nI i ∧ ∀ k, k < i → A.2.1 k = B.2.1 k) 0 1000 (by omega) ⟨rfl, fun k hk => by omega⟩ ?_ ?_
    · rintro n s ⟨rfl, h3⟩
      rw [if_pos h3]
      simp only [f_X3_needSameShape_L21, hA.1, nle_t (Nat.le_refl _) (show A.1 < 2 ^ 31 by omega), if_true]
    · rintro n i s hi hn ⟨rfl, h3⟩
      have e1 := hA.2.2.1 i hi
      have e2 := hB.2.2.1 i (by omega)
      have b1 := hWA.2.1 i hi
      have b2 := hWB.2.1 i (by omega)
      simp only [f_X3_needSameShape_L21, hA.1, nle_f hi (show A.1 < 2 ^ 31 by omega), if_false, ig_t (show i < 3 by omega) (show 3 < 2 ^ 31 by omega), nI_clamp (show i < 2 ^ 31 by omega), e1, e2, neq_iff (show A.2.1 i < 2 ^ 31 by omega) (show B.2.1 i < 2 ^ 31 by omega), lt, ← nI_succ]
      by_cases c2 : A.2.1 i = B.2.1 i
      · left
        refine ⟨nI (i + 1), ⟨rfl, fun k hk => ?_⟩, by rw [if_pos c2]⟩
        by_cases hk2 : k = i
        · rw [hk2]; exact c2
        · exact h3 k (by omega)
      · right
        rw [if_neg c2, if_neg (fun q => c2 (q i hi))]
  · rw [if_neg c, if_neg c]
theorem sz_0 {A : Arr} (h : A.1 = 0) : sz A = 1 := by simp [sz, h, pr]
theorem each_C {f o g1 g2 : Nat} (hf : f < 10) {μ : Mem} {A B : Arr} (hg1 : g1 ≠ o) (hg2 : g2 ≠ o) (hA : GA μ g1 A) (hWA : WA A) (hB : GA μ g2 B) (hWB : WA B) : CT o μ (s_each f A B) (f_X3_each (sg f) g1 g2 o μ) := by
  have h1 := hWA.1
  have h2 := hWB.1
  -- the part behind the shapes' comparison
  have key : (A.1 = 0 ∨ B.1 = 0 ∨ (A.1 = B.1 ∧ ∀ k, k < A.1 → A.2.1 k = B.2.1 k)) → CT o μ (s_each0 f A B) (bP (f_X1_isScalar g1 μ) fun v_3 =>
     jn (fun (g_4 : Nat) =>
      bB (f_X1_shapeLike o g_4 μ) (fun e_8 μ_7 => some (.error e_8, μ_7)) fun u_6 μ_7 =>
      f_X3_each_L38 (fun (μ_22 : Mem) => some (.ok (), μ_22)) (sg f) g1 g2 o 1000 (0 : Int32) μ_7) fun j_5 =>
     if v_3 = 0 then (j_5 g1) else j_5 g2) := by
    intro hc
    rw [isScalar_eq hA hWA, bP_s]
    have loop : ∀ (g : Nat) (C : Arr), g ≠ o → GA μ g C → WA C → (∀ k, k < sz C → (k < sz A ∨ A.1 = 0) ∧ (k < sz B ∨ B.1 = 0)) → CT o μ (mkA C.1 C.2.1 (fun k => num f (sel A k) (sel B k))) (bB (f_X1_shapeLike o g μ) (fun e_8 μ_7 => some (.error e_8, μ_7)) fun u_6 μ_7 =>
        f_X3_each_L38 (fun (μ_22 : Mem) => some (.ok (), μ_22)) (sg f) g1 g2 o 1000 (0 : Int32) μ_7) := by
      intro g C hg hC hWC hk0
      obtain ⟨μ1, h3, h4, h5⟩ := shapeLike_eq hg hC hWC
      have hA1 := h4.ga hg1 hA
      have hB1 := h4.ga hg2 hB
      have hs : pr C.2.1 C.1 ≤ 48 := hWC.2.2
      rw [h3, bB_o]
      refine Cloop' (fun n (s : Int32) ν => f_X3_each_L38 (fun μ => some (.ok (), μ)) (sg f) g1 g2 o n s ν) nI h4.fg h5 hs ?_ ?_
      · intro n ν h6
        simp only [f_X3_each_L38, h6, nle_t (Nat.le_refl _) (show pr C.2.1 C.1 < 2 ^ 31 by omega), if_true]
      · intro n k ν hk h6 h7
        have hk1 := hk0 k hk
        have e1 := cellFor_eq (h7.ga hg1 hA1) hWA hk1.1
        have e2 := cellFor_eq (h7.ga hg2 hB1) hWB hk1.2
        simp only [f_X3_each_L38, h6, nle_f hk (show pr C.2.1 C.1 < 2 ^ 31 by omega), if_false, e1, e2, bP_s, work_eq hf, ig_t (show k < 48 by omega) (show 48 < 2 ^ 31 by omega), nI_clamp (show k < 2 ^ 31 by omega), lt, ← nI_succ, sel]
        cases num f (A.2.2 (if A.1 = 0 then 0 else k)) (B.2.2 (if B.1 = 0 then 0 else k)) <;> rfl
    unfold s_each0
    by_cases c : A.1 = 0
    · simp only [jn, if_pos c]
      rw [if_neg (by decide)]
      exact loop g2 B hg2 hB hWB (fun k hk => ⟨Or.inr c, Or.inl hk⟩)
    · simp only [jn, if_neg c]
      rw [if_pos trivial]
      refine loop g1 A hg1 hA hWA (fun k hk => ⟨Or.inl hk, ?_⟩)
      rcases hc with hc | hc | ⟨hc, hd⟩
      · exact absurd hc c
      · exact Or.inr hc
      · left
        have : sz A = sz B := by
          unfold sz
          rw [← hc]
          exact pr_congr hd
        omega
  unfold f_X3_each
  simp only [jn] at key ⊢
  have i0 : ¬ (1 : Int32) = 0 := by decide
  by_cases c : A.1 = 0
  · have e1 : f_X1_isScalar g1 μ = some 1 := by rw [isScalar_eq hA hWA, if_pos c]
    have hS : s_each f A B = s_each0 f A B := by unfold s_each; rw [if_pos (Or.inl c)]
    rw [hS]
    have k1 := key (Or.inl c)
    rw [e1, bP_s] at k1 ⊢
    rw [if_neg i0] at k1 ⊢
    rw [bP_s, if_neg i0]
    exact k1
  · have e1 : f_X1_isScalar g1 μ = some 0 := by rw [isScalar_eq hA hWA, if_neg c]
    by_cases c2 : B.1 = 0
    · have e2 : f_X1_isScalar g2 μ = some 1 := by rw [isScalar_eq hB hWB, if_pos c2]
      have hS : s_each f A B = s_each0 f A B := by unfold s_each; rw [if_pos (Or.inr c2)]
      rw [hS]
      have k1 := key (Or.inr (Or.inl c2))
      rw [e1, bP_s, if_pos rfl] at k1
      rw [e1, bP_s, if_pos rfl, e2, bP_s, if_neg i0, bP_s, if_pos rfl]
      exact k1
    · have e2 : f_X1_isScalar g2 μ = some 0 := by rw [isScalar_eq hB hWB, if_neg c2]
      unfold s_each
      rw [if_neg (show ¬ (A.1 = 0 ∨ B.1 = 0) by omega), e1, bP_s, if_pos rfl, e2, bP_s, if_pos rfl, needSame_eq hA hWA hB hWB]
      by_cases c3 : A.1 = B.1
      · rw [if_pos c3, if_pos c3]
        by_cases c4 : ∀ k, k < A.1 → A.2.1 k = B.2.1 k
        · rw [if_pos c4, if_pos c4, bT_o]
          have k1 := key (Or.inr (Or.inr ⟨c3, c4⟩))
          rw [e1] at k1
          exact k1
        · rw [if_neg c4, if_neg c4, bT_e]; exact CT_stop
      · rw [if_neg c3, if_neg c3, bT_e]; exact CT_stop
