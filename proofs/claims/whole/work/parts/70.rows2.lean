/-- a row of numbers, both sides -/
theorem rows_eq {t : Nat → Nat} {tn k : Nat} {μC0 μM0 : Mem} {I : Nat → Itm} {dp wn tg cC cM : Int32} {κC κM : Mem → Option (Int32 × Mem)} (h : okT t tn) (hTC : TXC t tn μC0) (hTM : TXM t tn μM0) :
    ∀ r a a' nc N μC μM τ τ' n n', tn - a ≤ r → a ≤ tn → a' ≤ a → sk t tn a' = a → CP μC0 μC I N a k nc dp wn tg → MP μM0 μM I N a' k nc → τ ≤ a → τ' ≤ nc → NB t tn a nc → r < n → r < n' →
    (∃ μC' μM', f_X5_readNumbers_L7 κC cC n (nI τ) μC = some (0, μC') ∧ f_X8_row_L7 κM cM n' (nI τ') μM = some (0, μM') ∧ FPc μC0 μC' ∧ FPm μM0 μM') ∨
    ∃ μC' μM' N' a2 a2' nc2, f_X5_readNumbers_L7 κC cC n (nI τ) μC = κC μC' ∧ f_X8_row_L7 κM cM n' (nI τ') μM = κM μM' ∧ CP μC0 μC' I N' a2 k nc2 dp wn tg ∧ MP μM0 μM' I N' a2' k nc2 ∧ sk t tn a2' = a2 ∧ a2' ≤ a2 ∧ a2 ≤ tn ∧ a ≤ a2 ∧ nc ≤ nc2 ∧ (dgu (cd t tn a) → nc < nc2 ∧ a < a2) ∧ NB t tn a2 nc2 := by
  have h1 := h.1
  have i10 : ¬ (1 : Int32) = 0 := by decide
  intro r
  induction r with
  | zero =>
    intro a a' nc N μC μM τ τ' n n' q1 q2 q3 q4 hC hM q5 q6 hNB q7 q8
    obtain ⟨n, rfl⟩ : ∃ q, n = q + 1 := ⟨n - 1, by omega⟩
    obtain ⟨n', rfl⟩ : ∃ q, n' = q + 1 := ⟨n' - 1, by omega⟩
    have hnc : nc ≤ 100 := by unfold NB at hNB; omega
    have hc0 : cd t tn a = 0 := (cd_0 h).mpr (by omega)
    have hTμ := hM.1.tx hTM
    have hTν := hC.1.tx hTC
    right
    refine ⟨μC, sto μM 30 0 11 (nI a), N, a, a, nc, ?_, ?_, hC, MP_pos hM a, ?_, Nat.le_refl _, q2, Nat.le_refl _, Nat.le_refl _, ?_, hNB⟩
    · simp only [f_X5_readNumbers_L7, hC.2.1, codeAt_eq h hTν (show a < 2 ^ 31 by omega), bP_s, hc0, digC_eq (show 0 < 256 by omega), jn]
      rw [if_neg (show ¬ dig 0 = true by decide), if_pos rfl, if_neg (show ¬ nI 0 = 95 by decide), ite_self]
    · simp only [f_X8_row_L7, il101, nle_f (show τ' < 101 by omega) (show 101 < 2 ^ 31 by omega), if_false, ahead_eq h hTμ (show a' ≤ 1000 by omega) hM.2.1, q4, bW_s, hc0, digM_eq (show 0 < 256 by omega), bP_s, jn]
      rw [if_neg (show ¬ dig 0 = true by decide), if_pos rfl, if_neg (show ¬ nI 0 = 95 by decide)]
    · exact sk_id (by rw [hc0]; omega)
    · intro q; rw [hc0] at q; unfold dgu dig at q; simp at q
  | succ r ih =>
    intro a a' nc N μC μM τ τ' n n' q1 q2 q3 q4 hC hM q5 q6 hNB q7 q8
    obtain ⟨n, rfl⟩ : ∃ q, n = q + 1 := ⟨n - 1, by omega⟩
    obtain ⟨n', rfl⟩ : ∃ q, n' = q + 1 := ⟨n' - 1, by omega⟩
    have hnc : nc ≤ 100 := by unfold NB at hNB; omega
    have hTμ := hM.1.tx hTM
    have hTν := hC.1.tx hTC
    have hc := cd_lt (a := a) h
    by_cases hd : dgu (cd t tn a)
    · -- a number stands here
      have ha : a < tn := by
        have : ¬ cd t tn a = 0 := by
          intro q; rw [q] at hd; unfold dgu dig at hd; simp at hd
        rw [cd_0 h] at this
        omega
      have h2n : 2 * nc ≤ a := by
        unfold NB at hNB
        rcases hNB with q | q
        · exact q
        · exact absurd hd q.2
      have hge := nE_ge (t := t) (tn := tn) (a := a)
      obtain ⟨b, μ9, r1, r2, r3⟩ := readNumber_eq h hTC hC (by omega) (by omega)
      have r4 := rowM_num (κ := κM) (cM := cM) (n := n') h hTM hM (by omega) q4 (by omega) (show τ' < 101 by omega) (by omega) hd
      have eC : f_X5_readNumbers_L7 κC cC (n + 1) (nI τ) μC = (bW (f_X5_readNumber μC) fun v_8 μ_9 => if v_8 = 0 then (some ((0 : Int32), μ_9)) else bW (f_X5_skipBlanks μ_9) fun u_10 μ_11 => lt (nI τ + (1 : Int32)) fun x_12 => f_X5_readNumbers_L7 κC cC n x_12 μ_11) := by
        simp only [f_X5_readNumbers_L7, il200, nle_f (show τ < 200 by omega) (show 200 < 2 ^ 31 by omega), if_false, hC.2.1, codeAt_eq h hTν (show a < 2 ^ 31 by omega), bP_s, digC_eq hc, jn]
        by_cases c : dig (cd t tn a) = true
        · rw [if_pos c, if_neg i10]
        · have c2 : cd t tn a = 95 := by
            rcases hd with q | q
            · exact absurd q c
            · exact q
          rw [if_neg c, if_pos rfl, if_pos (by rw [c2]; decide)]
      rw [eC, r1, bW_s]
      by_cases hok : nOk t tn a
      · have hb : b = 1 := by
          rcases r3 with q | q
          · exact q.1
          · exact absurd hok q.2
        have hm : ∃ μ', f_X8_row_L7 κM cM (n' + 1) (nI τ') μM = f_X8_row_L7 κM cM n' (nI (τ' + 1)) μ' ∧ MP μM0 μ' I (upN N nc (nX t tn a)) (nE t tn a) k (nc + 1) := by
          rcases r4 with q | q
          · exact q.2
          · exact absurd hok q.1
        obtain ⟨μM', m1, m2⟩ := hm
        rw [hb, if_neg i10, skip_eq h (r2.1.tx hTC) (by omega) r2.2.1, bW_s, m1]
        simp only [lt, ← nI_succ]
        have hEt : nE t tn a ≤ tn := ndf_le h 9 (nA t tn a) 0 (by unfold nA; split <;> omega)
        have hs1 := sk_ge (t := t) (tn := tn) (a := nE t tn a)
        have hs2 := sk_le h hEt
        have hgt : a < nE t tn a := by have := hok.1; omega
        have hNB2 : NB t tn (sk t tn (nE t tn a)) (nc + 1) := by
          by_cases c : sk t tn (nE t tn a) = nE t tn a
          · rw [c]
            by_cases c2 : 2 * (nc + 1) ≤ nE t tn a
            · exact Or.inl c2
            · refine Or.inr ⟨by omega, ?_⟩
              rintro (q | q)
              · exact hok.2.1 q
              · exact hok.2.2 q
          · exact Or.inl (by omega)
        rcases ih (sk t tn (nE t tn a)) (nE t tn a) (nc + 1) (upN N nc (nX t tn a)) _ μM' (τ + 1) (τ' + 1) n n' (by omega) hs2 hs1 rfl (CP_pos r2 _) m2 (by omega) (by omega) hNB2 (by omega) (by omega) with ⟨x1, x2, x3, x4, x5, x6⟩ | ⟨x1, x2, x3, x4, x5, x6, y1, y2, y3, y4, y5, y6, y7, y8, y9, y10, y11⟩
        · exact Or.inl ⟨x1, x2, x3, x4, x5, x6⟩
        · exact Or.inr ⟨x1, x2, x3, x4, x5, x6, y1, y2, y3, y4, y5, y6, y7, by omega, by omega, fun _ => ⟨by omega, by omega⟩, y11⟩
      · have hb : b = 0 := by
          rcases r3 with q | q
          · exact absurd q.2 hok
          · exact q.1
        have hm : ∃ μ', f_X8_row_L7 κM cM (n' + 1) (nI τ') μM = some (0, μ') ∧ FPm μM0 μ' := by
          rcases r4 with q | q
          · exact absurd q.1 hok
          · exact q.2
        obtain ⟨μM', m1, m2⟩ := hm
        left
        rw [hb, if_pos rfl, m1]
        exact ⟨μ9, μM', rfl, rfl, r2.1, m2⟩
    · right
      have hd1 : ¬ dig (cd t tn a) = true := fun q => hd (Or.inl q)
      have hd2 : ¬ cd t tn a = 95 := fun q => hd (Or.inr q)
      refine ⟨μC, sto μM 30 0 11 (nI a), N, a, a, nc, ?_, ?_, hC, MP_pos hM a, ?_, Nat.le_refl _, q2, Nat.le_refl _, Nat.le_refl _, fun q => absurd q hd, hNB⟩
      · simp only [f_X5_readNumbers_L7, hC.2.1, codeAt_eq h hTν (show a < 2 ^ 31 by omega), bP_s, digC_eq hc, jn, il95, neq_iff (show cd t tn a < 2 ^ 31 by omega) (show 95 < 2 ^ 31 by omega)]
        rw [if_neg hd1, if_pos rfl, if_neg hd2, ite_self]
      · simp only [f_X8_row_L7, il101, nle_f (show τ' < 101 by omega) (show 101 < 2 ^ 31 by omega), if_false, ahead_eq h hTμ (show a' ≤ 1000 by omega) hM.2.1, q4, bW_s, digM_eq hc, bP_s, jn, il95, neq_iff (show cd t tn a < 2 ^ 31 by omega) (show 95 < 2 ^ 31 by omega)]
        rw [if_neg hd1, if_pos rfl, if_neg hd2]
      · rw [← q4]; exact sk_sk h
/-- the state of reading between items: w a term is wanted, d depth -/
def QS (t : Nat → Nat) (tn : Nat) (μC0 μM0 : Mem) (tg : Int32) (I : Nat → Itm) (N : Nat → Int32) (a a' k nc d : Nat) (w : Bool) (μC μM : Mem) : Prop :=
  CP μC0 μC I N a k nc (nI d) (if w = true then 1 else 0) tg ∧ MP μM0 μM I N a' k nc ∧ sk t tn a' = a ∧ a' ≤ a ∧ a ≤ tn ∧ k ≤ a ∧ NB t tn a nc ∧ ∀ j, j < k → okI nc (I j)
theorem okI_mono {nc nc' : Nat} {i : Itm} (h : nc ≤ nc') (hi : okI nc i) : okI nc' i := by
  unfold okI at hi ⊢
  split at hi
  all_goals first | exact hi | (constructor <;> omega)
theorem okI_up {nc nc' k : Nat} {I : Nat → Itm} {i : Itm} (h : nc ≤ nc') (hI : ∀ j, j < k → okI nc (I j)) (hi : okI nc' i) : ∀ j, j < k + 1 → okI nc' (upI I k i j) := by
  intro j hj
  unfold upI
  by_cases c : j = k
  · rw [if_pos c]; exact hi
  · rw [if_neg c]; exact okI_mono h (hI j (by omega))
/-- numbers, as a term: both sides -/
theorem numbers_eq {t : Nat → Nat} {tn a a' k nc d : Nat} {μC0 μM0 μC μM : Mem} {tg : Int32} {I : Nat → Itm} {N : Nat → Int32} (h : okT t tn) (hTC : TXC t tn μC0) (hTM : TXM t tn μM0) (hQ : QS t tn μC0 μM0 tg I N a a' k nc d true μC μM) (hd : dgu (cd t tn a)) :
    (∃ μC' μM', f_X5_readNumbers μC = some (0, μC') ∧ f_X8_row μM = some (0, μM') ∧ FPc μC0 μC' ∧ FPm μM0 μM') ∨
    ∃ μC' μM' N' a2 a2' nc2, f_X5_readNumbers μC = some (1, μC') ∧ f_X8_row μM = some (1, μM') ∧ a < a2 ∧ QS t tn μC0 μM0 tg (upI I k (0, nc, nc2 - nc)) N' a2 a2' (k + 1) nc2 d false μC' μM' ∧ nc < nc2 := by
  obtain ⟨hC, hM, q1, q2, q3, q4, q5, q6⟩ := hQ
  have h1 := h.1
  have ha : a < tn := by
    have : ¬ cd t tn a = 0 := by
      intro q; rw [q] at hd; unfold dgu dig at hd; simp at hd
    rw [cd_0 h] at this
    omega
  unfold f_X5_readNumbers f_X8_row
  rw [hC.2.2.2.1, hM.2.2.2.1]
  simp only [lt]
  rw [il0]
  rcases rows_eq (κC := fun (μ_15 : Mem) =>
     gd (inb (μ_15 1 0 8) 200) <|
     gd (inb (sto μ_15 5 0 ((μ_15 1 0 8)).toNatClampNeg (nI nc) 1 0 8) 200) <|
     bW (f_X5_addStep (nI 0) (sto (sto μ_15 5 0 ((μ_15 1 0 8)).toNatClampNeg (nI nc)) 6 0 ((sto μ_15 5 0 ((μ_15 1 0 8)).toNatClampNeg (nI nc) 1 0 8)).toNatClampNeg ((sto μ_15 5 0 ((μ_15 1 0 8)).toNatClampNeg (nI nc) 1 0 9) - nI nc))) fun u_18 μ_19 =>
     some ((1 : Int32), sto μ_19 1 0 13 (nI 0))) (κM := fun (μ_38 : Mem) => bW (f_X8_add (nI 0) (nI nc) ((μ_38 30 0 10) - nI nc) μ_38) fun u_39 μ_40 => some ((1 : Int32), μ_40)) (cC := nI nc) (cM := nI nc) h hTC hTM (tn - a) a a' nc N μC μM 0 0 1000 1000 (by omega) q3 q2 q1 hC hM (by omega) (by omega) q5 (by omega) (by omega) with ⟨x1, x2, x3, x4, x5, x6⟩ | ⟨x1, x2, x3, x4, x5, x6, y1, y2, y3, y4, y5, y6, y7, y8, y9, y10, y11⟩
  · rw [x3, x4]
    exact Or.inl ⟨x1, x2, rfl, rfl, x5, x6⟩
  · rw [y1, y2]
    right
    obtain ⟨z1, z2⟩ := y10 hd
    have hk : k < 200 := by omega
    have e1 : x1 1 0 8 = nI k := y3.2.2.1
    have e2 : sto x1 5 0 k (nI nc) 1 0 8 = nI k := by rw [sto_k (by omega)]; exact e1
    have e3 : sto x1 5 0 k (nI nc) 1 0 9 = nI x6 := by rw [sto_k (by omega)]; exact y3.2.2.2.1
    have e4 : sto (sto x1 5 0 k (nI nc)) 6 0 k (nI (x6 - nc)) 1 0 8 = nI k := by rw [sto_k (by omega)]; exact e2
    have e5 : x2 30 0 10 = nI x6 := y4.2.2.2.1
    obtain ⟨μ40, m1, m2⟩ := addM_eq y4 (by omega) 0 nc (x6 - nc)
    simp only [e1, e2, e3, e5, nI_clamp (show k < 2 ^ 31 by omega), ig_t hk (show 200 < 2 ^ 31 by omega), pk_sub (show nc ≤ x6 by omega), m1, bW_s, f_X5_addStep, e4, lt, ← nI_succ]
    have e6 : sto (sto (sto x1 5 0 k (nI nc)) 6 0 k (nI (x6 - nc))) 4 0 k (nI 0) 1 0 8 = nI k := by rw [sto_k (by omega)]; exact e4
    simp only [e6, ← nI_succ]
    refine ⟨_, μ40, x3, x4, x5, x6, rfl, rfl, z2, ⟨?_, m2, y5, y6, y7, by omega, y11, okI_up y9 q6 ?_⟩, z1⟩
    · have := CP_wan (CP_add (μ' := sto (sto (sto (sto x1 5 0 k (nI nc)) 6 0 k (nI (x6 - nc))) 4 0 k (nI 0)) 1 0 8 (nI (k + 1))) (i := (0, nc, x6 - nc)) y3 (fun q i j hq => by rw [sto_nj (by omega), sto_nj (by omega), sto_nj (by omega), sto_nj (by omega)]) sto_e (by
        unfold CIt
        refine ⟨?_, ?_, ?_⟩
        · rw [sto_k (by omega), sto_e]; exact nI_0
        · rw [sto_k (by omega), sto_k (by omega), sto_k (by omega), sto_e]
        · rw [sto_k (by omega), sto_k (by omega), sto_e])) (nI 0)
      exact this
    · show 1 ≤ x6 - nc ∧ nc + (x6 - nc) ≤ x6
      omega
