theorem pick_C {o g1 g2 : Nat} {μ : Mem} {A B : Arr} (hg1 : g1 ≠ o) (hg2 : g2 ≠ o) (h0 : G0 μ o) (hA : GA μ g1 A) (hWA : WA A) (hB : GA μ g2 B) (hWB : WA B) : CT o μ (s_pick A B) (f_X4_pick g1 g2 o μ) := by
  have h1 := hWA.1
  have h2 := hWB.1
  have h1s := hWA.2.2
  have h2s := hWB.2.2
  have i0 : ¬ (1 : Int32) = 0 := by decide
  unfold f_X4_pick s_pick
  by_cases c1 : B.1 = 0
  · rw [if_pos (Or.inl c1), isScalar_eq hB hWB, if_pos c1, bP_s, if_neg i0]; exact CT_stop
  rw [isScalar_eq hB hWB, if_neg c1, bP_s, if_pos rfl]
  simp only [hA.1, hB.1, nI_add, il4, nle_iff (show A.1 + B.1 < 2 ^ 31 by omega) (show 4 < 2 ^ 31 by omega)]
  by_cases c2 : 4 < A.1 + B.1
  · rw [if_pos (Or.inr c2), if_neg (show ¬ A.1 + B.1 ≤ 4 by omega)]; exact CT_stop
  rw [if_neg (show ¬ (B.1 = 0 ∨ 4 < A.1 + B.1) by omega), if_pos (show A.1 + B.1 ≤ 4 by omega)]
  generalize hLL : cat A.1 A.2.1 (tl B.2.1) = L
  have hL1 : ∀ j, j < A.1 → L j = A.2.1 j := fun j hj => by rw [← hLL]; simp [cat, hj]
  have hL2 : ∀ j, L (A.1 + j) = B.2.1 (j + 1) := fun j => by rw [← hLL]; simp only [cat]; rw [if_neg (by omega), Nat.add_sub_cancel_left]; rfl
  have hL : ∀ k, k < A.1 + (B.1 - 1) → L k ≤ 48 := fun k hk => by
    by_cases q : k < A.1
    · rw [hL1 k q]; exact hWA.2.1 k (by omega)
    · have := hL2 (k - A.1)
      rw [show A.1 + (k - A.1) = k by omega] at this
      rw [this]; exact hWB.2.1 _ (by omega)
  generalize hm : pr (tl B.2.1) (B.1 - 1) = m
  have hp : pr L (A.1 + (B.1 - 1)) = sz A * m := by rw [← hLL, ← hm]; exact pr_cat _ _ _ _
  have hsB : sz B = B.2.1 0 * m := by
    unfold sz
    rw [show B.1 = B.1 - 1 + 1 by omega, pr_tl, ← hm]
  have hB48 := hWB.2.1 0 (by omega)
  obtain ⟨μ1, h3, h4, h5⟩ := addAxesOf_eq (a := 0) (b := A.1) hg1 (h0.gs L) (by omega) (by omega) (by omega) (fun j _ hj => by
    rw [Nat.zero_add, Nat.sub_zero, hL1 j hj]; exact ⟨hA.2.2.1 j (by omega), hWA.2.1 j (by omega)⟩)
  rw [Nat.zero_add, Nat.sub_zero] at h5
  have hB1 := h4.ga hg2 hB
  obtain ⟨μ2, h6, h7, h8⟩ := addAxesOf_eq (a := 1) (b := B.1) hg2 h5 (by omega) (by omega) (by omega) (fun j hj1 hj => by
    rw [hL2 (j - 1), show j - 1 + 1 = j by omega]; exact ⟨hB1.2.2.1 j hj, hWB.2.1 j hj⟩)
  have hA2 := h7.ga hg1 (h4.ga hg1 hA)
  have hB2 := h7.ga hg2 hB1
  have hb : pr L (A.1 + (B.1 - 1)) ≤ 110592 := pr_le (by omega) hL
  have hF : Fg o μ μ2 := (h4.trans h7).fg
  have e1 : f_X1_addAxesOf o g1 0 (nI A.1) μ = some (.ok (), μ1) := h3
  have e2 : f_X1_addAxesOf o g2 1 (nI B.1) μ1 = some (.ok (), μ2) := h6
  rw [e1, bB_o, hB1.1, e2, bB_o, endAxes_eq h8 (by omega)]
  by_cases c3 : pr L (A.1 + (B.1 - 1)) ≤ 48
  rotate_left
  · rw [if_neg (fun q => c3 ((okS_iff hL).mp q)), if_neg c3, bT_e]
    exact CT_stop' hF
  rw [if_pos ((okS_iff hL).mpr c3), if_pos c3, bT_o, hB2.1, span_eq h2 (by omega) hB2.2.2.1, bP_s, hm]
  generalize hFF : (fun k => (Except.ok (B.2.2 ((A.2.2 (k / m)).toNatClampNeg * m + k % m)) : Except Nat Int32)) = F
  rw [il0]
  refine lp0 (fun n (s : Int32 × Mem) => f_X4_pick_L65 (fun μ => some (.ok (), μ)) g1 g2 o (nI m) n s.1 s.2) (CT o μ (if ∀ k, k < sz A → 0 ≤ A.2.2 k ∧ A.2.2 k < nI (B.2.1 0) then mkA (A.1 + (B.1 - 1)) L F else .error 5)) (sz A)
    (fun k s => s.1 = nI k ∧ CI o μ2 F (k * m) s.2 ∧ ∀ j, j < k → 0 ≤ A.2.2 j ∧ A.2.2 j < nI (B.2.1 0)) (nI 0, μ2) 1000 (by omega) ⟨rfl, by rw [Nat.zero_mul]; exact CI_0, fun j hj => by omega⟩ ?_ ?_
  · rintro n ⟨x, ν⟩ ⟨d1, d2, d3⟩
    dsimp only at d1 d2 d3 ⊢
    subst d1
    have d4 := (d2.ga hg1 hA2).2.1
    rw [if_pos d3]
    simp only [f_X4_pick_L65, d4, nle_t (Nat.le_refl _) (show sz A < 2 ^ 31 by omega), if_true]
    exact CT_end hF h8 (by rw [hp]; exact d2)
  · rintro n k ⟨x, ν⟩ hk hn ⟨d1, d2, d3⟩
    dsimp only at d1 d2 d3 ⊢
    subst d1
    have d4 := (d2.ga hg1 hA2).2.1
    have d5 := (d2.ga hg1 hA2).2.2.2 k hk
    have d6 := (d2.ga hg2 hB2).2.2.1 0 (by omega)
    simp only [f_X4_pick_L65, d4, nle_f hk (show sz A < 2 ^ 31 by omega), if_false, ig_t (show k < 48 by omega) (show 48 < 2 ^ 31 by omega), nI_clamp (show k < 2 ^ 31 by omega), d5, lt, il0, ig_t (show 0 < 3 by omega) (show 3 < 2 ^ 31 by omega), nI_clamp (show 0 < 2 ^ 31 by omega), d6]
    rw [← il0]
    by_cases c4 : A.2.2 k < 0
    · right
      rw [if_pos c4, if_neg (fun q => by have := (q k hk).1; rw [i_nlt] at this; exact this c4)]
      exact CT_stop' (hF.trans d2.fg)
    · rw [if_neg c4]
      by_cases c5 : A.2.2 k < nI (B.2.1 0)
      rotate_left
      · right
        rw [if_neg c5, if_neg (fun q => c5 (q k hk).2)]
        exact CT_stop' (hF.trans d2.fg)
      · left
        rw [if_pos c5]
        obtain ⟨y1, y2⟩ := nn_of (x := A.2.2 k) (by rw [i_nlt]; exact c4)
        generalize hxi : (A.2.2 k).toNatClampNeg = xi at *
        have hxl : xi < B.2.1 0 := by rw [y1, nlt_iff y2 (by omega)] at c5; exact c5
        have b1 : xi * m + m ≤ 48 := by
          have : (xi + 1) * m ≤ B.2.1 0 * m := Nat.mul_le_mul_right m hxl
          rw [Nat.succ_mul] at this
          omega
        have b2 : k * m + m ≤ 48 := by
          have : (k + 1) * m ≤ sz A * m := Nat.mul_le_mul_right m hk
          rw [Nat.succ_mul] at this
          omega
        rw [y1, pk_mul, pk_mul, cpok_t b1 b2 (by omega) (by omega), nI_clamp (by omega), nI_clamp (by omega), nI_clamp (by omega)]
        refine ⟨(nI (k + 1), stf ν 22 o (va_cpy (ν 22 g2) (ν 22 o) (xi * m) (k * m) m)), ⟨rfl, ⟨fun q i hq => ?_, fun j hj => ?_⟩, fun j hj => ?_⟩, ?_⟩
        · dsimp only
          by_cases q1 : q = 22
          · rw [stf_i (by omega)]; exact d2.1 q i hq
          · rw [stf_k q1]; exact d2.1 q i hq
        · dsimp only
          rw [stf_e]
          rw [Nat.succ_mul] at hj
          by_cases q1 : j < k * m
          · rw [pk_cpy_out (Or.inl q1)]; exact d2.2 j q1
          · rw [pk_cpy_in (by omega) (by omega), ← hFF]
            have q2 : j - k * m < m := by omega
            have q3 := dm1 (i := k) q2
            rw [show k * m + (j - k * m) = j by omega] at q3
            dsimp only
            rw [q3.1, q3.2, hxi]
            rw [(d2.ga hg2 hB2).2.2.2 (xi * m + (j - k * m)) (by rw [hsB]; exact mul_in hxl q2)]
        · by_cases q1 : j = k
          · rw [q1]; exact ⟨by rw [i_nlt]; exact c4, c5⟩
          · exact d3 j (by omega)
        · simp only [← nI_succ]
/-! turning the axes -/
theorem turn_sz {A : Arr} (hW : WA A) : sz A = pln A * lns A * wd A := by
  have h := hW.1
  unfold sz pln lns wd
  rcases (show A.1 = 0 ∨ A.1 = 1 ∨ A.1 = 2 ∨ A.1 = 3 by omega) with h | h | h | h <;> rw [h] <;> simp [pr]
theorem turn_pr {A : Arr} (hW : WA A) : pr (fun k => A.2.1 (A.1 - 1 - k)) A.1 = sz A := by
  have h := hW.1
  unfold sz
  rcases (show A.1 = 0 ∨ A.1 = 1 ∨ A.1 = 2 ∨ A.1 = 3 by omega) with h | h | h | h <;> rw [h] <;> simp [pr]
  · rw [Nat.mul_comm]
  · rw [Nat.mul_comm (A.2.1 2), Nat.mul_comm (A.2.1 1 * A.2.1 2) (A.2.1 0), Nat.mul_assoc]
theorem turn_7 {g o : Nat} {μ : Mem} {A : Arr} {κ : Mem → Option (Except Nat Unit × Mem)} (T : Option (Except Nat Unit × Mem) → Prop) (hg : g ≠ o) (h0 : G0 μ o) (hA : GA μ g A) (hW : WA A)
    (hend : ∀ ν, Fs o μ ν → GS ν o A.1 (fun k => A.2.1 (A.1 - 1 - k)) → T (κ ν)) : T (f_X4_turnAxes_L7 κ g o 1000 (nI A.1 - 1) μ) := by
  have h1 := hW.1
  refine lp0 (fun n (s : Int32 × Mem) => f_X4_turnAxes_L7 κ g o n s.1 s.2) T A.1 (fun i s => s.1 = nI (A.1 - i) - 1 ∧ Fs o μ s.2 ∧ GS s.2 o i (fun k => A.2.1 (A.1 - 1 - k))) (nI A.1 - 1, μ) 1000 (by omega) ⟨rfl, Fs.refl, h0.gs _⟩ ?_ ?_
  · rintro n ⟨x, ν⟩ ⟨e1, e2, e3⟩
    dsimp only at e1 e2 e3 ⊢
    rw [Nat.sub_self] at e1
    subst e1
    have : nI 0 - 1 < 0 := by decide
    simp only [f_X4_turnAxes_L7, if_pos this]
    exact hend ν e2 e3
  · rintro n i ⟨x, ν⟩ hi hn' ⟨e1, e2, e3⟩
    dsimp only at e1 e2 e3 ⊢
    have e4 : x = nI (A.1 - 1 - i) := by
      rw [e1, il1, pk_sub (by omega)]
      congr 1
      omega
    have e5 : x + (-1) = nI (A.1 - (i + 1)) - 1 := by
      rw [e4, ← Int32.sub_eq_add_neg]
      congr 2
      omega
    have e6 := (e2.ga hg hA).2.2.1 (A.1 - 1 - i) (by omega)
    obtain ⟨ν', d1, d2, d3⟩ := addAxis_ok e3 (by omega) rfl (hW.2.1 _ (by omega))
    left
    refine ⟨(nI (A.1 - (i + 1)) - 1, ν'), ⟨rfl, e2.trans d2, d3⟩, ?_⟩
    rw [e4]
    simp only [f_X4_turnAxes_L7, if_neg (nI_pos (show A.1 - 1 - i < 2 ^ 31 by omega)), ig_t (show A.1 - 1 - i < 3 by omega) (show 3 < 2 ^ 31 by omega), nI_clamp (show A.1 - 1 - i < 2 ^ 31 by omega), e6, d1, bB_o, lt]
    rw [← e4, e5]
section TURN
variable {g o : Nat} {μ1 : Mem} {A : Arr} {F : Nat → Except Nat Int32} {p l c : Nat}
theorem turn_101 {κ : Int32 → Mem → Option (Except Nat Unit × Mem)} (T : Option (Except Nat Unit × Mem) → Prop) (hg : g ≠ o) (hA : GA μ1 g A) (hs : sz A = p * l * c) (h48 : sz A ≤ 48) (hp : p ≤ 48) (hF : F = fun k => .ok (A.2.2 ((k % p * l + k / p % l) * c + k / p / l))) {col line : Nat} (hc : col < c) (hl : line < l) {ν : Mem} (e : CI o μ1 F ((col * l + line) * p) ν)
    (hend : ∀ ν', CI o μ1 F ((col * l + line) * p + p) ν' → T (κ (nI ((col * l + line) * p + p)) ν')) : T (f_X4_turnAxes_L101 κ g o (nI p) (nI l) (nI c) (nI col) (nI line) 1000 (nI ((col * l + line) * p)) (nI 0) ν) := by
  refine lp0 (fun n (s : Int32 × Int32 × Mem) => f_X4_turnAxes_L101 κ g o (nI p) (nI l) (nI c) (nI col) (nI line) n s.1 s.2.1 s.2.2) T p (fun i s => s.1 = nI ((col * l + line) * p + i) ∧ s.2.1 = nI i ∧ CI o μ1 F ((col * l + line) * p + i) s.2.2) (nI ((col * l + line) * p), nI 0, ν) 1000 (by omega) ⟨rfl, rfl, e⟩ ?_ ?_
  · rintro n ⟨x, y, ν'⟩ ⟨e1, e2, e3⟩
    dsimp only at e1 e2 e3 ⊢
    subst e1 e2
    simp only [f_X4_turnAxes_L101, nle_t (Nat.le_refl _) (show p < 2 ^ 31 by omega), if_true]
    exact hend ν' e3
  · rintro n i ⟨x, y, ν'⟩ hi hn' ⟨e1, e2, e3⟩
    dsimp only at e1 e2 e3 ⊢
    subst e1 e2
    have q1 : i * l + line < p * l := mul_in hi hl
    have q2 : (i * l + line) * c + col < p * l * c := mul_in q1 hc
    have q3 : col * l + line < c * l := mul_in hc hl
    have q4 : (col * l + line) * p + i < c * l * p := mul_in q3 hi
    have q5 : c * l * p = sz A := by rw [hs, Nat.mul_comm c l, Nat.mul_assoc, Nat.mul_comm c p, ← Nat.mul_assoc, Nat.mul_comm l p]
    have q6 := (e3.ga hg hA).2.2.2 ((i * l + line) * c + col) (by omega)
    have q7 : F ((col * l + line) * p + i) = .ok (A.2.2 ((i * l + line) * c + col)) := by
      rw [hF]; dsimp only
      rw [(dm1 hi).1, (dm1 hi).2, (dm1 hl).1, (dm1 hl).2]
    left
    refine ⟨(nI ((col * l + line) * p + i + 1), nI (i + 1), sto ν' 22 o ((col * l + line) * p + i) (A.2.2 ((i * l + line) * c + col))), ⟨rfl, rfl, CI_s e3 q7⟩, ?_⟩
    simp only [f_X4_turnAxes_L101, nle_f hi (show p < 2 ^ 31 by omega), if_false, pk_mul, nI_add, ig_t (show (i * l + line) * c + col < 48 by omega) (show 48 < 2 ^ 31 by omega), ig_t (show (col * l + line) * p + i < 48 by omega) (show 48 < 2 ^ 31 by omega), nI_clamp (show (i * l + line) * c + col < 2 ^ 31 by omega), nI_clamp (show (col * l + line) * p + i < 2 ^ 31 by omega), q6, lt, ← nI_succ]
theorem turn_92 {κ : Int32 → Mem → Option (Except Nat Unit × Mem)} (T : Option (Except Nat Unit × Mem) → Prop) (hg : g ≠ o) (hA : GA μ1 g A) (hs : sz A = p * l * c) (h48 : sz A ≤ 48) (hp : p ≤ 48) (hl48 : l ≤ 48) (hF : F = fun k => .ok (A.2.2 ((k % p * l + k / p % l) * c + k / p / l))) {col : Nat} (hc : col < c) {ν : Mem} (e : CI o μ1 F (col * l * p) ν)
    (hend : ∀ ν', CI o μ1 F ((col + 1) * l * p) ν' → T (κ (nI ((col + 1) * l * p)) ν')) : T (f_X4_turnAxes_L92 κ g o (nI p) (nI l) (nI c) (nI col) 1000 (nI (col * l * p)) (nI 0) ν) := by
  refine lp0 (fun n (s : Int32 × Int32 × Mem) => f_X4_turnAxes_L92 κ g o (nI p) (nI l) (nI c) (nI col) n s.1 s.2.1 s.2.2) T l (fun i s => s.1 = nI ((col * l + i) * p) ∧ s.2.1 = nI i ∧ CI o μ1 F ((col * l + i) * p) s.2.2) (nI (col * l * p), nI 0, ν) 1000 (by omega) ⟨rfl, rfl, e⟩ ?_ ?_
  · rintro n ⟨x, y, ν'⟩ ⟨e1, e2, e3⟩
    dsimp only at e1 e2 e3 ⊢
    subst e1 e2
    simp only [f_X4_turnAxes_L92, nle_t (Nat.le_refl _) (show l < 2 ^ 31 by omega), if_true]
    rw [← Nat.succ_mul] at e3 ⊢
    exact hend ν' e3
  · rintro n i ⟨x, y, ν'⟩ hi hn' ⟨e1, e2, e3⟩
    dsimp only at e1 e2 e3 ⊢
    subst e1 e2
    simp only [f_X4_turnAxes_L92, nle_f hi (show l < 2 ^ 31 by omega), if_false, il0]
    refine turn_101 (fun x => (∃ s' : Int32 × Int32 × Mem, (s'.1 = nI ((col * l + (i + 1)) * p) ∧ s'.2.1 = nI (i + 1) ∧ CI o μ1 F ((col * l + (i + 1)) * p) s'.2.2) ∧ x = f_X4_turnAxes_L92 κ g o (nI p) (nI l) (nI c) (nI col) n s'.1 s'.2.1 s'.2.2) ∨ T x) hg hA hs h48 hp hF hc hi e3 (fun ν2 e4 => ?_)
    left
    rw [← Nat.succ_mul] at e4 ⊢
    exact ⟨(nI ((col * l + (i + 1)) * p), nI (i + 1), ν2), ⟨rfl, rfl, e4⟩, by simp only [lt, ← nI_succ]; rfl⟩
theorem turn_82 (T : Option (Except Nat Unit × Mem) → Prop) {κ : Mem → Option (Except Nat Unit × Mem)} (hg : g ≠ o) (hA : GA μ1 g A) (hs : sz A = p * l * c) (h48 : sz A ≤ 48) (hp : p ≤ 48) (hl48 : l ≤ 48) (hc48 : c ≤ 48) (hF : F = fun k => .ok (A.2.2 ((k % p * l + k / p % l) * c + k / p / l)))
    (hend : ∀ ν', CI o μ1 F (c * l * p) ν' → T (κ ν')) : T (f_X4_turnAxes_L82 κ g o (nI p) (nI l) (nI c) 1000 (nI 0) (nI 0) μ1) := by
  refine lp0 (fun n (s : Int32 × Int32 × Mem) => f_X4_turnAxes_L82 κ g o (nI p) (nI l) (nI c) n s.1 s.2.1 s.2.2) T c (fun i s => s.1 = nI (i * l * p) ∧ s.2.1 = nI i ∧ CI o μ1 F (i * l * p) s.2.2) (nI 0, nI 0, μ1) 1000 (by omega) ⟨by simp, rfl, by simp only [Nat.zero_mul]; exact CI_0⟩ ?_ ?_
  · rintro n ⟨x, y, ν'⟩ ⟨e1, e2, e3⟩
    dsimp only at e1 e2 e3 ⊢
    subst e1 e2
    simp only [f_X4_turnAxes_L82, nle_t (Nat.le_refl _) (show c < 2 ^ 31 by omega), if_true]
    exact hend ν' e3
  · rintro n i ⟨x, y, ν'⟩ hi hn' ⟨e1, e2, e3⟩
    dsimp only at e1 e2 e3 ⊢
    subst e1 e2
    simp only [f_X4_turnAxes_L82, nle_f hi (show c < 2 ^ 31 by omega), if_false, il0]
    refine turn_92 (fun x => (∃ s' : Int32 × Int32 × Mem, (s'.1 = nI ((i + 1) * l * p) ∧ s'.2.1 = nI (i + 1) ∧ CI o μ1 F ((i + 1) * l * p) s'.2.2) ∧ x = f_X4_turnAxes_L82 κ g o (nI p) (nI l) (nI c) n s'.1 s'.2.1 s'.2.2) ∨ T x) hg hA hs h48 hp hl48 hF hi e3 (fun ν2 e4 => ?_)
    left
    exact ⟨(nI ((i + 1) * l * p), nI (i + 1), ν2), ⟨rfl, rfl, e4⟩, by simp only [lt, ← nI_succ]⟩
end TURN
theorem turnAxes_C {o g : Nat} {μ : Mem} {A : Arr} (hg : g ≠ o) (h0 : G0 μ o) (hA : GA μ g A) (hW : WA A) : CT o μ (s_turn A) (f_X4_turnAxes g o μ) := by
  have h1 := hW.1
  have h48 := hW.2.2
  unfold f_X4_turnAxes s_turn
  rw [hA.1]
  refine turn_7 _ hg h0 hA hW (fun ν e1 e2 => ?_)
  have hA1 := e1.ga hg hA
  have hp : pln A ≤ 48 := by unfold pln; split; omega; exact hW.2.1 _ (by omega)
  have hl : lns A ≤ 48 := by unfold lns; split; omega; exact hW.2.1 _ (by omega)
  have key : CT o μ (mkA A.1 (fun k => A.2.1 (A.1 - 1 - k)) (fun k => .ok (A.2.2 ((k % pln A * lns A + k / pln A % lns A) * wd A + k / pln A / lns A)))) (f_X4_turnAxes_L82 (fun (μ_58 : Mem) => some (.ok (), μ_58)) g o (nI (pln A)) (nI (lns A)) (nI (wd A)) 1000 (nI 0) (nI 0) ν) := by
    refine turn_82 _ hg hA1 (turn_sz hW) h48 hp hl (WA_wd hW) rfl (fun ν' e3 => ?_)
    refine CT_end e1.fg e2 ?_
    rw [turn_pr hW, turn_sz hW, Nat.mul_comm (pln A), Nat.mul_comm, ← Nat.mul_assoc]
    exact e3
  have r0 := rowLength_eq hA1 hW
  simp only [jn, hA1.1, il2, il3, il0, nle_iff (show 2 < 2 ^ 31 by omega) (show A.1 < 2 ^ 31 by omega), nle_iff (show 3 < 2 ^ 31 by omega) (show A.1 < 2 ^ 31 by omega), r0, bP_s]
  by_cases c1 : A.1 < 3
  · rw [if_neg (show ¬ 3 ≤ A.1 by omega)]
    rw [show nI (pln A) = (1 : Int32) by unfold pln; rw [if_pos c1]; exact il1.symm] at key
    by_cases c2 : A.1 < 2
    · rw [if_neg (show ¬ 2 ≤ A.1 by omega)]
      rw [show nI (lns A) = (1 : Int32) by unfold lns; rw [if_pos c2]; exact il1.symm] at key
      exact key
    · rw [if_pos (show 2 ≤ A.1 by omega), pk_sub (by omega), ig_t (by omega) (by omega), nI_clamp (by omega), hA1.2.2.1 _ (by omega)]
      rw [show nI (lns A) = nI (A.2.1 (A.1 - 2)) by unfold lns; rw [if_neg c2]] at key
      exact key
  · rw [if_pos (show 3 ≤ A.1 by omega), ig_t (by omega) (by omega), nI_clamp (by omega), hA1.2.2.1 _ (by omega), if_pos (show 2 ≤ A.1 by omega), pk_sub (by omega), ig_t (by omega) (by omega), nI_clamp (by omega), hA1.2.2.1 _ (by omega)]
    rw [show nI (pln A) = nI (A.2.1 0) by unfold pln; rw [if_neg c1], show nI (lns A) = nI (A.2.1 (A.1 - 2)) by unfold lns; rw [if_neg (by omega)]] at key
    exact key
