theorem CI_17 {o k j : Nat} {μ0 μ : Mem} {F : Nat → Except Nat Int32} {v : Int32} (h : CI o μ0 F k μ) : CI o μ0 F k (sto μ 17 0 j v) := by
  refine ⟨fun q i hq => ?_, fun q hq => ?_⟩
  · rw [sto_k (by omega)]; exact h.1 q i hq
  · rw [sto_k (by omega)]; exact h.2 q hq
theorem inner_row {f g o g1 g2 w m k : Nat} {A B : Arr} {μ2 ν : Mem} {G F : Nat → Except Nat Int32} {κ : Mem → Option (Except Nat Unit × Mem)} (T : Option (Except Nat Unit × Mem) → Prop) (hgg : g < 10) (hg1 : g1 ≠ o) (hg2 : g2 ≠ o) (hA : GA μ2 g1 A) (hB : GA μ2 g2 B) (h1s : sz A ≤ 48) (h2s : sz B ≤ 48) (hin : k / m * w + w ≤ sz A) (hw : w ≤ 48) (hin2 : ∀ j, j < w → j * m + k % m < sz B) (hG : ∀ j, j < w → num g (A.2.2 (k / m * w + j)) (B.2.2 (j * m + k % m)) = G j) (e2 : CI o μ2 F k ν)
    (hend : ∀ ν', CI o μ2 F k ν' → (∀ q, q < w → G q = .ok (ν' 17 0 q)) → T (κ ν'))
    (herr : ∀ e ν' j, CI o μ2 F k ν' → j < w → (∀ q, q < j → G q = .ok (ν' 17 0 q)) → G j = .error e → T (some (.error e, ν'))) :
    T (f_X3_inner_L122 κ (sg f) (sg g) g1 g2 o 17 0 (nI w) (nI m) (nI (k / m)) (nI (k % m)) (nI k) 1000 (nI 0) ν) := by
  refine lp0 (fun n' (t : Int32 × Mem) => f_X3_inner_L122 κ (sg f) (sg g) g1 g2 o 17 0 (nI w) (nI m) (nI (k / m)) (nI (k % m)) (nI k) n' t.1 t.2) T w
    (fun j t => t.1 = nI j ∧ CI o μ2 F k t.2 ∧ ∀ q, q < j → G q = .ok (t.2 17 0 q)) (nI 0, ν) 1000 (by omega) ⟨rfl, e2, fun q hq => by omega⟩ ?_ ?_
  · rintro n' ⟨x, ν'⟩ ⟨d1, d2, d3⟩
    dsimp only at d1 d2 d3 ⊢
    subst d1
    simp only [f_X3_inner_L122, nle_t (Nat.le_refl _) (show w < 2 ^ 31 by omega), if_true]
    exact hend ν' d2 d3
  · rintro n' j ⟨x, ν'⟩ hj hn' ⟨d1, d2, d3⟩
    dsimp only at d1 d2 d3 ⊢
    subst d1
    have j1 := hin2 j hj
    have j2 := (d2.ga hg1 hA).2.2.2 (k / m * w + j) (by omega)
    have j3 := (d2.ga hg2 hB).2.2.2 (j * m + k % m) j1
    simp only [f_X3_inner_L122, nle_f hj (show w < 2 ^ 31 by omega), if_false, pk_mul, nI_add, ig_t (show k / m * w + j < 48 by omega) (show 48 < 2 ^ 31 by omega), ig_t (show j * m + k % m < 48 by omega) (show 48 < 2 ^ 31 by omega), nI_clamp (show k / m * w + j < 2 ^ 31 by omega), nI_clamp (show j * m + k % m < 2 ^ 31 by omega), j2, j3, work_eq hgg, hG j hj]
    cases hq : G j with
    | error e =>
      right
      rw [bT_e]
      exact herr e ν' j d2 hj d3 hq
    | ok v =>
      left
      refine ⟨(nI (j + 1), sto ν' 17 0 j v), ⟨rfl, CI_17 d2, fun i hi => ?_⟩, ?_⟩
      · dsimp only
        by_cases q : i = j
        · subst q; rw [sto_e]; exact hq
        · rw [sto_j q]; exact d3 i (by omega)
      · simp only [bT_o, ig_t (show j < 48 by omega) (show 48 < 2 ^ 31 by omega), nI_clamp (show j < 2 ^ 31 by omega), lt, ← nI_succ]
theorem inner_C {f g o g1 g2 : Nat} (hf : f < 10) (hgg : g < 10) {μ : Mem} {A B : Arr} (hg1 : g1 ≠ o) (hg2 : g2 ≠ o) (h0 : G0 μ o) (hA : GA μ g1 A) (hWA : WA A) (hB : GA μ g2 B) (hWB : WA B) : CT o μ (s_inner f g A B) (f_X3_inner (sg f) (sg g) g1 g2 o 17 0 μ) := by
  have h1 := hWA.1
  have h2 := hWB.1
  have h1s := hWA.2.2
  have h2s := hWB.2.2
  have i0 : ¬ (1 : Int32) = 0 := by decide
  unfold f_X3_inner s_inner
  by_cases c1 : A.1 = 0
  · rw [if_pos (Or.inl c1), isScalar_eq hA hWA, if_pos c1, bP_s, if_neg i0]; exact CT_stop
  rw [isScalar_eq hA hWA, if_neg c1, bP_s, if_pos rfl]
  by_cases c2 : B.1 = 0
  · rw [if_pos (Or.inr (Or.inl c2)), isScalar_eq hB hWB, if_pos c2, bP_s, if_neg i0]; exact CT_stop
  rw [isScalar_eq hB hWB, if_neg c2, bP_s, if_pos rfl]
  simp only [hA.1, hB.1, nI_add, il5, nle_iff (show A.1 + B.1 < 2 ^ 31 by omega) (show 5 < 2 ^ 31 by omega)]
  by_cases c3 : 5 < A.1 + B.1
  · rw [if_pos (Or.inr (Or.inr c3)), if_neg (show ¬ A.1 + B.1 ≤ 5 by omega)]; exact CT_stop
  rw [if_neg (show ¬ (A.1 = 0 ∨ B.1 = 0 ∨ 5 < A.1 + B.1) by omega), if_pos (show A.1 + B.1 ≤ 5 by omega), rowLength_eq hA hWA, bP_s]
  have hw := WA_wd hWA
  have hB0 := hB.2.2.1 0 (by omega)
  have hB48 := hWB.2.1 0 (by omega)
  simp only [il0, ig_t (show 0 < 3 by omega) (show 3 < 2 ^ 31 by omega), nI_clamp (show 0 < 2 ^ 31 by omega), hB0, neq_iff (show wd A < 2 ^ 31 by omega) (show B.2.1 0 < 2 ^ 31 by omega)]
  by_cases c4 : wd A = B.2.1 0
  rotate_left
  · rw [if_neg c4, if_neg c4]; exact CT_stop
  rw [if_pos c4, if_pos c4]
  -- the lengths
  generalize hLL : cat (A.1 - 1) A.2.1 (tl B.2.1) = L
  have hL1 : ∀ j, j < A.1 - 1 → L j = A.2.1 j := fun j hj => by rw [← hLL]; simp [cat, hj]
  have hL2 : ∀ j, L (A.1 - 1 + j) = B.2.1 (j + 1) := fun j => by rw [← hLL]; simp only [cat]; rw [if_neg (by omega), Nat.add_sub_cancel_left]; rfl
  have hL : ∀ k, k < A.1 - 1 + (B.1 - 1) → L k ≤ 48 := fun k hk => by
    by_cases q : k < A.1 - 1
    · rw [hL1 k q]; exact hWA.2.1 k (by omega)
    · have := hL2 (k - (A.1 - 1))
      rw [show A.1 - 1 + (k - (A.1 - 1)) = k by omega] at this
      rw [this]; exact hWB.2.1 _ (by omega)
  generalize hm : pr (tl B.2.1) (B.1 - 1) = m
  have hp : pr L (A.1 - 1 + (B.1 - 1)) = rws A * m := by rw [← hLL, ← hm]; exact pr_cat _ _ _ _
  have hsB : sz B = wd A * m := by
    unfold sz
    rw [show B.1 = B.1 - 1 + 1 by omega, pr_tl, c4, ← hm]
  rw [il1, pk_sub (show 1 ≤ A.1 by omega)]
  obtain ⟨μ1, h3, h4, h5⟩ := addAxesOf_eq (a := 0) (b := A.1 - 1) hg1 (h0.gs L) (by omega) (by omega) (by omega) (fun j _ hj => by
    rw [Nat.zero_add, Nat.sub_zero, hL1 j hj]; exact ⟨hA.2.2.1 j (by omega), hWA.2.1 j (by omega)⟩)
  rw [Nat.zero_add, Nat.sub_zero] at h5
  have hB1 := h4.ga hg2 hB
  obtain ⟨μ2, h6, h7, h8⟩ := addAxesOf_eq (a := 1) (b := B.1) hg2 h5 (by omega) (by omega) (by omega) (fun j hj1 hj => by
    rw [hL2 (j - 1), show j - 1 + 1 = j by omega]; exact ⟨hB1.2.2.1 j hj, hWB.2.1 j hj⟩)
  have hA2 := h7.ga hg1 (h4.ga hg1 hA)
  have hB2 := h7.ga hg2 hB1
  have hb : pr L (A.1 - 1 + (B.1 - 1)) ≤ 110592 := pr_le (by omega) hL
  rw [h3, bB_o, hB1.1, h6, bB_o, endAxes_eq h8 (by omega)]
  unfold mk
  by_cases c5 : pr L (A.1 - 1 + (B.1 - 1)) ≤ 48
  rotate_left
  · rw [if_neg (fun q => c5 ((okS_iff hL).mp q)), if_neg c5, bT_e]
    exact CT_stop' (h4.trans h7).fg
  rw [if_pos ((okS_iff hL).mpr c5), if_pos c5, bT_o, hB2.1, ← il1, span_eq h2 (by omega) hB2.2.2.1, bP_s, hm]
  have hF : Fg o μ μ2 := (h4.trans h7).fg
  suffices h : CT o μ (mkA (A.1 - 1 + (B.1 - 1)) L (inE f g A B (wd A) m)) (f_X3_inner_L109 (fun μ => some (.ok (), μ)) (sg f) (sg g) g1 g2 o 17 0 (nI (wd A)) (nI m) 1000 (nI (0 / m)) (nI (0 % m)) (nI 0) μ2) by
    rw [Nat.zero_div, Nat.zero_mod] at h
    exact h
  refine Cloop (fun n (s : Int32 × Int32 × Int32) ν => f_X3_inner_L109 (fun μ => some (.ok (), μ)) (sg f) (sg g) g1 g2 o 17 0 (nI (wd A)) (nI m) n s.1 s.2.1 s.2.2 ν) (fun k => (nI (k / m), nI (k % m), nI k)) hF h8 c5 ?_ ?_
  · intro n ν e1
    simp only [f_X3_inner_L109, e1, nle_t (Nat.le_refl _) (show pr L (A.1 - 1 + (B.1 - 1)) < 2 ^ 31 by omega), if_true]
  · intro n k ν hk e1 e2
    have hk2 : k < rws A * m := by rw [← hp]; exact hk
    have hm0 : 0 < m := by
      rcases Nat.eq_zero_or_pos m with q | q
      · rw [q] at hk2; omega
      · exact q
    have hkm : k / m < rws A := Nat.div_lt_of_lt_mul (by rw [Nat.mul_comm]; exact hk2)
    have hkr := row_in hkm
    have hmb : m ≤ rws A * m := Nat.le_mul_of_pos_left m (Nat.lt_of_le_of_lt (Nat.zero_le _) hkm)
    have hmod := Nat.mod_lt k hm0
    have hdl := Nat.div_le_self k m
    simp only [f_X3_inner_L109, e1, nle_f hk (show pr L (A.1 - 1 + (B.1 - 1)) < 2 ^ 31 by omega), if_false]
    generalize hG : (fun j => num g (A.2.2 (k / m * wd A + j)) (B.2.2 (j * m + k % m))) = G
    have hFk : inE f g A B (wd A) m k = match fe G (wd A) with
        | some e => .error e
        | none => fo f (fun j => vl (G j)) (wd A) := by rw [← hG]; rfl
    rw [hFk]
    refine inner_row (fun x => ∃ ν', CI o μ2 (inE f g A B (wd A) m) k ν' ∧ x = match (match fe G (wd A) with
        | some e => .error e
        | none => fo f (fun j => vl (G j)) (wd A) : Except Nat Int32) with
      | .error e => some (.error e, ν')
      | .ok v => f_X3_inner_L109 (fun μ => some (.ok (), μ)) (sg f) (sg g) g1 g2 o 17 0 (nI (wd A)) (nI m) n (nI ((k + 1) / m)) (nI ((k + 1) % m)) (nI (k + 1)) (sto ν' 22 o k v)) hgg hg1 hg2 (A := A) (B := B) (G := G) (k := k) (m := m) (w := wd A) (ν := ν) (μ2 := μ2) (F := inE f g A B (wd A) m) hA2 hB2 h1s h2s (by omega) hw (fun j hj => by rw [hsB]; exact mul_in hj hmod) (fun j _ => by rw [← hG]) e2 ?_ ?_
    · intro ν' d2 d3
      refine ⟨ν', d2, ?_⟩
      rw [fe_ok (fun j hj => ⟨_, d3 j hj⟩)]
      dsimp only
      have d4 : fo f (fun j => ν' 17 0 (0 + j)) (wd A) = fo f (fun j => vl (G j)) (wd A) := fo_congr (fun j hj => by rw [d3 j hj, Nat.zero_add]; rfl)
      simp only [il0, fold_eq hf (show 0 + wd A ≤ 48 by omega), d4]
      cases fo f (fun j => vl (G j)) (wd A) with
      | error e => rfl
      | ok v =>
        simp only [bT_o, ig_t (show k < 48 by omega) (show 48 < 2 ^ 31 by omega), nI_clamp (show k < 2 ^ 31 by omega), lt, jn, ← nI_succ, neq_iff (show k % m + 1 < 2 ^ 31 by omega) (show m < 2 ^ 31 by omega)]
        rcases dmS (k := k) hm0 with ⟨q1, q2, q3⟩ | ⟨q1, q2, q3⟩
        · rw [if_pos q1, q2, q3]
        · rw [if_neg (by omega), q2, q3]
    · intro e ν' j d2 hj d3 hq
      refine ⟨ν', d2, ?_⟩
      rw [fe_at (fun i hi => ⟨_, d3 i hi⟩) hq hj]
