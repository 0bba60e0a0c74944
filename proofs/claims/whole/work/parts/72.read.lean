def bI (w : Bool) : Int32 := if w = true then 1 else 0
def RD (t : Nat → Nat) (tn : Nat) (μC0 μM0 : Mem) (tg : Int32) (I : Nat → Itm) (N : Nat → Int32) (a a' k nc : Nat) (d : Nat → Nat) (w : Nat → Bool) (μC μM : Mem) : Prop :=
  QS t tn μC0 μM0 tg I N a a' k nc (d k) (w k) μC μM ∧ (∀ j, j < k → okG (I j) (w j) (w (j + 1)) (d j) (d (j + 1))) ∧ (∀ j, j ≤ k → d j ≤ 6) ∧ w 0 = true ∧ d 0 = 0
theorem RD_next {t : Nat → Nat} {tn a a' k nc nc' p p' dn : Nat} {μC0 μM0 μC μM μC1 μM1 : Mem} {tg : Int32} {I : Nat → Itm} {N N' : Nat → Int32} {d : Nat → Nat} {w : Nat → Bool} {i : Itm} {wn : Bool} (h : okT t tn) (hR : RD t tn μC0 μM0 tg I N a a' k nc d w μC μM) (hC : CP μC0 μC1 (upI I k i) N' p (k + 1) nc' (nI dn) (bI wn) tg) (hM : MP μM0 μM1 (upI I k i) N' p' (k + 1) nc') (hsk : sk t tn p = sk t tn p') (hap : a < p) (hpt : p ≤ tn) (hnc : nc ≤ nc') (hNB : NB t tn (sk t tn p) nc') (hi : okI nc' i) (hG : okG i (w k) wn (d k) dn) (hdn : dn ≤ 6) :
    ∃ d' w', RD t tn μC0 μM0 tg (upI I k i) N' (sk t tn p) p' (k + 1) nc' d' w' (sto μC1 1 0 11 (nI (sk t tn p))) μM1 ∧ d' (k + 1) = dn ∧ w' (k + 1) = wn := by
  obtain ⟨⟨q1, q2, q3, q4, q5, q6, q7, q8⟩, r1, r2, r3, r4⟩ := hR
  refine ⟨(fun j => if j = k + 1 then dn else d j), (fun j => if j = k + 1 then wn else w j), ⟨⟨?_, hM, hsk.symm, ?_, sk_le h hpt, ?_, hNB, okI_up hnc q8 hi⟩, fun j hj => ?_, fun j hj => ?_, ?_, ?_⟩, by simp, by simp⟩
  · have := CP_pos hC (sk t tn p)
    simpa [bI] using this
  · rw [hsk]; exact sk_ge
  · have := sk_ge (t := t) (tn := tn) (a := p); omega
  · by_cases c : j = k
    · subst c
      have e1 : (fun q => if q = j + 1 then wn else w q) j = w j := by simp
      have e2 : (fun q => if q = j + 1 then dn else d q) j = d j := by simp
      have e3 : upI I j i j = i := by unfold upI; rw [if_pos rfl]
      rw [e1, e2, e3]
      simpa using hG
    · have e3 : upI I k i j = I j := by unfold upI; rw [if_neg c]
      rw [e3]
      simp only [if_neg (show ¬ j = k + 1 by omega), if_neg (show ¬ j + 1 = k + 1 by omega)]
      exact r1 j (by omega)
  · by_cases c : j = k + 1
    · simp only [if_pos c]; exact hdn
    · simp only [if_neg c]; exact r2 j (by omega)
  · simp only [if_neg (show ¬ 0 = k + 1 by omega)]; exact r3
  · simp only [if_neg (show ¬ 0 = k + 1 by omega)]; exact r4
/-- how reading ends, on both sides -/
def RO (μC0 μM0 : Mem) (tg : Int32) (x y : Option (Int32 × Mem)) : Prop := ∃ b μC μM, x = some (b, μC) ∧ y = some (b, μM) ∧ FPc μC0 μC ∧ FPm μM0 μM ∧ (b = 0 ∨ (b = 1 ∧ μC 1 0 10 = tg ∧ ∃ (I : Nat → Itm) (N : Nat → Int32) (k nc : Nat) (d : Nat → Nat) (w : Nat → Bool), SI I k nc N μC μM ∧ (∀ j, j < k → okG (I j) (w j) (w (j + 1)) (d j) (d (j + 1))) ∧ (∀ j, j ≤ k → d j ≤ 6) ∧ w 0 = true ∧ d 0 = 0 ∧ w k = false ∧ d k = 0 ∧ μC 1 0 8 = nI k ∧ μM 30 0 9 = nI k))
def kC (μ_20 : Mem) : Option (Int32 × Mem) := jn (fun (_ : Unit) => some ((0 : Int32), μ_20)) fun j_21 => if (μ_20 1 0 13) = 0 then (if (μ_20 1 0 12) = 0 then (some ((1 : Int32), μ_20)) else j_21 ()) else j_21 ()
def kM (μ_39 : Mem) : Option (Int32 × Mem) := some ((0 : Int32), μ_39)
/-- one item more, or both say no -/
def ST (t : Nat → Nat) (tn : Nat) (μC0 μM0 : Mem) (tg : Int32) (a τ τ' n n' : Nat) (x y : Option (Int32 × Mem)) : Prop :=
  (∃ μC μM, x = some (0, μC) ∧ y = some (0, μM) ∧ FPc μC0 μC ∧ FPm μM0 μM) ∨
  ∃ (μC μM : Mem) (I : Nat → Itm) (N : Nat → Int32) (a2 a2' k nc : Nat) (d : Nat → Nat) (w : Nat → Bool), x = f_X5_read_L31 kC n (nI (τ + 1)) μC ∧ y = f_X8_read_L6 kM n' (nI (d k)) (bI (w k)) (nI (τ' + 1)) μM ∧ a < a2 ∧ RD t tn μC0 μM0 tg I N a2 a2' k nc d w μC μM
theorem isb_v {α : Type} {b : Int32} {o : Option α} (h : b = 0 ∨ b = 1) : gd (isb b) o = o := by rcases h with rfl | rfl <;> rfl
set_option maxHeartbeats 4000000 in
theorem read_step {t : Nat → Nat} {tn a a' k nc τ τ' n n' : Nat} {μC0 μM0 μC μM : Mem} {tg : Int32} {I : Nat → Itm} {N : Nat → Int32} {d : Nat → Nat} {w : Nat → Bool} (h : okT t tn) (hTC : TXC t tn μC0) (hTM : TXM t tn μM0) (hR : RD t tn μC0 μM0 tg I N a a' k nc d w μC μM) (ha : a < tn) (hτ : τ ≤ a) (hτ' : τ' ≤ a) : ST t tn μC0 μM0 tg a τ τ' n n' (f_X5_read_L31 kC (n + 1) (nI τ) μC) (f_X8_read_L6 kM (n' + 1) (nI (d k)) (bI (w k)) (nI τ') μM) := by
  have h1 := h.1
  have hR0 := hR
  obtain ⟨⟨hC, hM, q3, q4, q5, q6, q7, q8⟩, r1, r2, r3, r4⟩ := hR
  have hTν := hC.1.tx hTC
  have hTμ := hM.1.tx hTM
  have hc := cd_lt (a := a) h
  have hc0 : ¬ cd t tn a = 0 := by rw [cd_0 h]; omega
  have hk : k < 200 := by omega
  have hdk := r2 k (Nat.le_refl _)
  have i10 : ¬ (1 : Int32) = 0 := by decide
  have hC1 := CP_pos hC (a + 1)
  have hM1 := MP_pos hM a
  have hM2 := MP_pos hM (a + 1)
  have h2n : 2 * nc ≤ a + 1 := by unfold NB at q7; omega
  -- the class's loop, its body
  have eC : f_X5_read_L31 kC (n + 1) (nI τ) μC = (if w k = false then (bW (f_X5_readBehindTerm μC) fun v_15 μ_16 => if v_15 = 0 then (some ((0 : Int32), μ_16)) else bW (f_X5_skipBlanks μ_16) fun u_12 μ_13 => f_X5_read_L31 kC n (nI (τ + 1)) μ_13)
      else bW (f_X5_readStart μC) fun v_17 μ_18 => if v_17 = 0 then (some ((0 : Int32), μ_18)) else bW (f_X5_skipBlanks μ_18) fun u_12 μ_13 => f_X5_read_L31 kC n (nI (τ + 1)) μ_13) := by
    simp only [f_X5_read_L31, il200, nle_f (show τ < 200 by omega) (show 200 < 2 ^ 31 by omega), if_false, hTν.1, hC.2.1, nle_f ha (show tn < 2 ^ 31 by omega), jn, lt, ← nI_succ, hC.2.2.2.2.2.1]
    cases hw : w k with
    | true => simp only [if_true, if_neg i10]; rfl
    | false => simp
  -- the reference's loop, its beginning
  have eM : f_X8_read_L6 kM (n' + 1) (nI (d k)) (bI (w k)) (nI τ') μM = (if w k = false then
      (if cd t tn a = 41 then
       (if 0 ≤ nI (d k) - 1 then (bW (f_X8_add (nI 3) (nI 0) (nI 0) (sto μM 30 0 11 (nI (a + 1)))) fun u_18 μ_19 => f_X8_read_L6 kM n' (nI (d k) - 1) 0 (nI (τ' + 1)) μ_19)
        else some ((0 : Int32), (sto μM 30 0 11 (nI (a + 1)))))
       else
       bW (f_X8_two (sto μM 30 0 11 (nI a))) fun v_12 μ_13 => if 0 ≤ v_12 then (bW (f_X8_add (nI 4) v_12 (nI 0) μ_13) fun u_14 μ_15 => f_X8_read_L6 kM n' (nI (d k)) (1 : Int32) (nI (τ' + 1)) μ_15) else some ((0 : Int32), μ_13))
      else if dgu (cd t tn a) then (bW (f_X8_row (sto μM 30 0 11 (nI a))) fun v_22 μ_23 => if v_22 = 0 then (some ((0 : Int32), μ_23)) else f_X8_read_L6 kM n' (nI (d k)) (0 : Int32) (nI (τ' + 1)) μ_23)
      else if 65 ≤ cd t tn a ∧ cd t tn a ≤ 72 then (bW (f_X8_add (nI 1) (nI (cd t tn a - 65)) (nI 0) (sto μM 30 0 11 (nI (a + 1)))) fun u_36 μ_37 => f_X8_read_L6 kM n' (nI (d k)) (0 : Int32) (nI (τ' + 1)) μ_37)
      else if cd t tn a = 40 then
       (if nI (d k) + 1 ≤ (6 : Int32) then (bW (f_X8_add (nI 2) (nI 0) (nI 0) (sto μM 30 0 11 (nI (a + 1)))) fun u_33 μ_34 => f_X8_read_L6 kM n' (nI (d k) + 1) 1 (nI (τ' + 1)) μ_34) else some ((0 : Int32), (sto μM 30 0 11 (nI (a + 1)))))
      else
      bW (f_X8_one (sto μM 30 0 11 (nI a))) fun v_27 μ_28 => if 0 ≤ v_27 then (bW (f_X8_add (nI 5) v_27 (nI 0) μ_28) fun u_29 μ_30 => f_X8_read_L6 kM n' (nI (d k)) 1 (nI (τ' + 1)) μ_30) else some ((0 : Int32), μ_28)) := by
    simp only [f_X8_read_L6, il201, nle_f (show τ' < 201 by omega) (show 201 < 2 ^ 31 by omega), if_false, ahead_eq h hTμ (show a' ≤ 1000 by omega) hM.2.1, q3, bW_s, jn, lt, sto_e, sto_sto, ← nI_succ, digM_eq hc, bP_s]
    rw [if_neg (show ¬ nI (cd t tn a) = 0 from nI_ne0 (by omega) (by omega))]
    cases hw : w k with
    | false =>
      simp only [bI, Bool.false_eq_true, if_false, if_true, il41, neq_iff (show cd t tn a < 2 ^ 31 by omega) (show 41 < 2 ^ 31 by omega), il3, il4, il0]
    | true =>
      simp only [bI, if_true, Bool.true_eq_false, if_false, if_neg i10, il95, il65, il72, il40, neq_iff (show cd t tn a < 2 ^ 31 by omega) (show 95 < 2 ^ 31 by omega), neq_iff (show cd t tn a < 2 ^ 31 by omega) (show 40 < 2 ^ 31 by omega), nlt_iff (show cd t tn a < 2 ^ 31 by omega) (show 65 < 2 ^ 31 by omega), nlt_iff (show 72 < 2 ^ 31 by omega) (show cd t tn a < 2 ^ 31 by omega)]
      by_cases c1 : dig (cd t tn a) = true
      · rw [if_pos c1, if_neg i10, if_pos (Or.inl c1)]
      · rw [if_neg c1, if_pos rfl]
        by_cases c2 : cd t tn a = 95
        · rw [if_pos c2, if_pos (Or.inr c2)]
        · rw [if_neg c2, if_neg (show ¬ dgu (cd t tn a) from fun q => q.elim c1 c2)]
          by_cases c3 : cd t tn a < 65
          · rw [if_pos c3, if_neg (show ¬ (65 ≤ cd t tn a ∧ cd t tn a ≤ 72) by omega)]
            simp only [il1, il2, il5, il0]
          · rw [if_neg c3]
            by_cases c4 : 72 < cd t tn a
            · rw [if_pos c4, if_neg (show ¬ (65 ≤ cd t tn a ∧ cd t tn a ≤ 72) by omega)]
              simp only [il1, il2, il5, il0]
            · rw [if_neg c4, if_pos (show 65 ≤ cd t tn a ∧ cd t tn a ≤ 72 by omega), pk_sub (by omega)]
              simp only [il1, il0]
  rw [eC, eM]
  -- going on
  have go : ∀ {p p' nc' dn : Nat} {wn : Bool} {i : Itm} {N' : Nat → Int32} {μC1 μM1 : Mem} (x y : Option (Int32 × Mem)), CP μC0 μC1 (upI I k i) N' p (k + 1) nc' (nI dn) (bI wn) tg → MP μM0 μM1 (upI I k i) N' p' (k + 1) nc' → sk t tn p = sk t tn p' → a < p → p ≤ tn → nc ≤ nc' → NB t tn (sk t tn p) nc' → okI nc' i → okG i (w k) wn (d k) dn → dn ≤ 6 →
      x = (bW (f_X5_skipBlanks μC1) fun u_12 μ_13 => f_X5_read_L31 kC n (nI (τ + 1)) μ_13) → y = f_X8_read_L6 kM n' (nI dn) (bI wn) (nI (τ' + 1)) μM1 → ST t tn μC0 μM0 tg a τ τ' n n' x y := by
    intro p p' nc' dn wn i N' μC1 μM1 x y g1 g2 g3 g4 g5 g6 g7 g8 g9 g10 hx hy
    obtain ⟨d', w', z1, z2, z3⟩ := RD_next h hR0 g1 g2 g3 g4 g5 g6 g7 g8 g9 g10
    right
    have hs := sk_ge (t := t) (tn := tn) (a := p)
    refine ⟨_, _, _, _, _, _, _, _, d', w', ?_, ?_, by omega, z1⟩
    · rw [hx, skip_eq h (g1.1.tx hTC) (by omega) g1.2.1, bW_s]
    · rw [hy, z2, z3]
  have nbp : ∀ p, a < p → NB t tn (sk t tn p) nc := fun p hp => by
    have := sk_ge (t := t) (tn := tn) (a := p)
    exact Or.inl (by omega)
  have bt : bI true = 1 := rfl
  have bf : bI false = 0 := rfl
  cases hw : w k with
  | false =>
    rw [if_pos rfl, if_pos rfl]
    rw [hw] at hC hC1
    unfold f_X5_readBehindTerm
    simp only [hC.2.1, codeAt_eq h hTν (show a < 2 ^ 31 by omega), bP_s, lt, ← nI_succ, il41, neq_iff (show cd t tn a < 2 ^ 31 by omega) (show 41 < 2 ^ 31 by omega)]
    by_cases c1 : cd t tn a = 41
    · rw [if_pos c1, if_pos c1, hC1.2.2.2.2.1]
      have hC2 := CP_dep hC1 (nI (d k) - 1)
      rw [addStep_eq hC2 hk 3, bW_s]
      have e12 : sto (sto (sto (sto μC 1 0 11 (nI (a + 1))) 1 0 12 (nI (d k) - 1)) 4 0 k 3) 1 0 8 (nI (k + 1)) 1 0 12 = nI (d k) - 1 := by rw [sto_j (by omega), sto_k (by omega), sto_e]
      rw [e12]
      have hCa : ∀ x : Int32, CP μC0 (sto μC 1 0 11 (nI (a + 1))) I N (a + 1) k nc x 0 tg → True := fun _ _ => trivial
      have hadd := CP_add (i := (3, 0, 0)) (μ' := sto (sto (sto (sto μC 1 0 11 (nI (a + 1))) 1 0 12 (nI (d k) - 1)) 4 0 k 3) 1 0 8 (nI (k + 1))) hC2 (fun q i j hq => by rw [sto_nj (by omega), sto_nj (by omega)]) sto_e (by show _ = _; rw [sto_k (by omega), sto_e])
      by_cases c2 : d k = 0
      · rw [c2, if_pos (show nI 0 - 1 < 0 by decide), if_neg (show ¬ (0 : Int32) ≤ nI 0 - 1 by decide), bW_s, if_pos rfl]
        left
        rw [c2] at hadd
        exact ⟨_, _, rfl, rfl, hadd.1, hM2.1⟩
      · have e1 : nI (d k) - 1 = nI (d k - 1) := by rw [il1, pk_sub (by omega)]
        obtain ⟨μ19, m1, m2⟩ := addM_eq hM2 (by omega) 3 0 0
        rw [e1] at hadd ⊢
        rw [if_neg (nI_pos (by omega)), if_pos (nI_pos' (by omega)), bW_s, if_neg i10, m1, bW_s]
        refine go _ _ hadd m2 rfl (by omega) (by omega) (Nat.le_refl _) (nbp _ (by omega)) trivial ?_ (by omega) rfl ?_
        · rw [hw]; show _ ∧ _ ∧ _; exact ⟨rfl, rfl, by omega⟩
        · rfl
    · rw [if_neg c1, if_neg c1]
      have hC2 := CP_wan hC1 1
      have hMs : sk t tn a = a := by rw [← q3]; exact sk_sk h
      rcases two_eq h hTC hTM hC2 hM1 hMs (Nat.le_refl _) ha hk with ⟨μC', μM', u1, u2, u3, u4⟩ | ⟨μC', μM', f, p, p', u1, u2, u3, u4, u5, u6, u7, u8, u9, u10⟩
      · rw [u1, bW_s, isb_0, bW_s, if_pos rfl, u2, bW_s, if_neg (show ¬ (0 : Int32) ≤ -1 by decide)]
        exact Or.inl ⟨_, _, rfl, rfl, u3, u4⟩
      · have hf : f < 200 := by unfold ok2 at u3; omega
        obtain ⟨μ19, m1, m2⟩ := addM_eq u5 (by omega) 4 f 0
        rw [u1, bW_s, isb_1, bW_s, if_neg i10, u2, bW_s, if_pos (nI_pos' (by omega)), m1, bW_s]
        refine go (wn := true) _ _ u4 m2 u6 u7 u9 (Nat.le_refl _) (nbp _ u7) u3 ?_ hdk rfl rfl
        rw [hw]; show _ ∧ _ ∧ _; exact ⟨rfl, rfl, rfl⟩
  | true =>
    rw [if_neg (by simp), if_neg (by simp)]
    rw [hw] at hC hC1
    have hQt : QS t tn μC0 μM0 tg I N a a k nc (d k) true μC (sto μM 30 0 11 (nI a)) := ⟨hC, hM1, by rw [← q3]; exact sk_sk h, Nat.le_refl _, q5, q6, q7, q8⟩
    unfold f_X5_readStart
    simp only [hC.2.1, codeAt_eq h hTν (show a < 2 ^ 31 by omega), bP_s, digC_eq hc, jn, lt, ← nI_succ, il95, il40, neq_iff (show cd t tn a < 2 ^ 31 by omega) (show 95 < 2 ^ 31 by omega), neq_iff (show cd t tn a < 2 ^ 31 by omega) (show 40 < 2 ^ 31 by omega), nameC_eq hc]
    by_cases c0 : dgu (cd t tn a)
    · rw [if_pos c0]
      have eN : (if (if dig (cd t tn a) = true then (1 : Int32) else 0) = 0 then if cd t tn a = 95 then bW (f_X5_readNumbers μC) fun v_4 μ_5 => gd (isb v_4) (some (v_4, μ_5)) else
          if cd t tn a = 40 then bW (f_X5_addStep 2 (sto (sto μC 1 0 11 (nI (a + 1))) 1 0 12 (sto μC 1 0 11 (nI (a + 1)) 1 0 12 + 1))) fun u_15 μ_16 => if 6 < μ_16 1 0 12 then some (0, μ_16) else some (1, μ_16)
          else if (if 65 ≤ cd t tn a ∧ cd t tn a < 73 then (1 : Int32) else 0) = 0 then bW (f_X5_readFunctionOfOne (nI (cd t tn a)) (sto μC 1 0 11 (nI (a + 1)))) fun v_8 μ_9 => gd (isb v_8) (some (v_8, μ_9))
          else gd (inb (sto μC 1 0 11 (nI (a + 1)) 1 0 8) 200) (bW (f_X5_addStep 1 (sto (sto μC 1 0 11 (nI (a + 1))) 5 0 (sto μC 1 0 11 (nI (a + 1)) 1 0 8).toNatClampNeg (nI (cd t tn a) - 65))) fun u_11 μ_12 => some (1, sto μ_12 1 0 13 0))
          else bW (f_X5_readNumbers μC) fun v_4 μ_5 => gd (isb v_4) (some (v_4, μ_5))) = bW (f_X5_readNumbers μC) fun v_4 μ_5 => gd (isb v_4) (some (v_4, μ_5)) := by
        by_cases c1 : dig (cd t tn a) = true
        · rw [if_pos c1, if_neg i10]
        · rw [if_neg c1, if_pos rfl, if_pos (c0.resolve_left c1)]
      rw [eN]
      rcases numbers_eq h hTC hTM hQt c0 with ⟨μC', μM', u1, u2, u3, u4⟩ | ⟨μC', μM', N', a2, a2', nc2, u1, u2, u3, u4, u5⟩
      · rw [u1, bW_s, isb_0, bW_s, if_pos rfl, u2, bW_s, if_pos rfl]
        exact Or.inl ⟨_, _, rfl, rfl, u3, u4⟩
      · rw [u1, bW_s, isb_1, bW_s, if_neg i10, u2, bW_s, if_neg i10]
        obtain ⟨v1, v2, v3, v4, v5, v6, v7, v8⟩ := u4
        have hs2 : sk t tn a2 = a2 := by rw [← v3]; exact sk_sk h
        refine go (wn := false) _ _ v1 v2 (by rw [hs2, v3]) u3 v5 (by omega) (by rw [hs2]; exact v7) ?_ ?_ hdk rfl rfl
        · show 1 ≤ nc2 - nc ∧ nc + (nc2 - nc) ≤ nc2; omega
        · rw [hw]; show _ ∧ _ ∧ _; exact ⟨rfl, rfl, rfl⟩
    · have d1 : ¬ dig (cd t tn a) = true := fun q => c0 (Or.inl q)
      have d2 : ¬ cd t tn a = 95 := fun q => c0 (Or.inr q)
      rw [if_neg c0, if_neg d1, if_pos rfl, if_neg d2]
      by_cases c1 : cd t tn a = 40
      · rw [if_neg (show ¬ (65 ≤ cd t tn a ∧ cd t tn a ≤ 72) by omega), if_pos c1, if_pos c1, hC1.2.2.2.2.1]
        have hC2 := CP_dep hC1 (nI (d k) + 1)
        rw [addStep_eq hC2 hk 2, bW_s]
        have e12 : sto (sto (sto (sto μC 1 0 11 (nI (a + 1))) 1 0 12 (nI (d k) + 1)) 4 0 k 2) 1 0 8 (nI (k + 1)) 1 0 12 = nI (d k) + 1 := by rw [sto_j (by omega), sto_k (by omega), sto_e]
        have hadd := CP_add (i := (2, 0, 0)) (μ' := sto (sto (sto (sto μC 1 0 11 (nI (a + 1))) 1 0 12 (nI (d k) + 1)) 4 0 k 2) 1 0 8 (nI (k + 1))) hC2 (fun q i j hq => by rw [sto_nj (by omega), sto_nj (by omega)]) sto_e (by show _ = _; rw [sto_k (by omega), sto_e])
        rw [e12]
        rw [← nI_succ] at hadd ⊢
        simp only [il6, nlt_iff (show 6 < 2 ^ 31 by omega) (show d k + 1 < 2 ^ 31 by omega), nle_iff (show d k + 1 < 2 ^ 31 by omega) (show 6 < 2 ^ 31 by omega)]
        by_cases c2 : 6 < d k + 1
        · rw [if_pos c2, if_neg (show ¬ d k + 1 ≤ 6 by omega), bW_s, if_pos rfl]
          exact Or.inl ⟨_, _, rfl, rfl, hadd.1, hM2.1⟩
        · obtain ⟨μ19, m1, m2⟩ := addM_eq hM2 (by omega) 2 0 0
          rw [if_neg c2, if_pos (show d k + 1 ≤ 6 by omega), bW_s, if_neg i10, m1, bW_s]
          refine go (wn := true) _ _ hadd m2 rfl (by omega) (by omega) (Nat.le_refl _) (nbp _ (by omega)) trivial ?_ (by omega) rfl rfl
          rw [hw]; show _ ∧ _ ∧ _; exact ⟨rfl, rfl, rfl⟩
      · rw [if_neg c1]
        by_cases c2 : 65 ≤ cd t tn a ∧ cd t tn a < 73
        · have e8 : sto μC 1 0 11 (nI (a + 1)) 1 0 8 = nI k := hC1.2.2.1
          rw [if_pos c2, if_neg i10, if_pos (show 65 ≤ cd t tn a ∧ cd t tn a ≤ 72 by omega), e8, ig_t hk (by omega), nI_clamp (by omega), il65, pk_sub (by omega)]
          have e81 : sto (sto μC 1 0 11 (nI (a + 1))) 5 0 k (nI (cd t tn a - 65)) 1 0 8 = nI k := by rw [sto_k (by omega)]; exact e8
          have eA : f_X5_addStep 1 (sto (sto μC 1 0 11 (nI (a + 1))) 5 0 k (nI (cd t tn a - 65))) = some ((), sto (sto (sto (sto μC 1 0 11 (nI (a + 1))) 5 0 k (nI (cd t tn a - 65))) 4 0 k 1) 1 0 8 (nI (k + 1))) := by
            unfold f_X5_addStep
            have e82 : sto (sto (sto μC 1 0 11 (nI (a + 1))) 5 0 k (nI (cd t tn a - 65))) 4 0 k 1 1 0 8 = nI k := by rw [sto_k (by omega)]; exact e81
            simp only [e81, nI_clamp (show k < 2 ^ 31 by omega), ig_t hk (show 200 < 2 ^ 31 by omega), lt, e82, ← nI_succ]
          rw [eA, bW_s, bW_s, if_neg i10]
          have hadd := CP_wan (CP_add (i := (1, cd t tn a - 65, 0)) (μ' := sto (sto (sto (sto μC 1 0 11 (nI (a + 1))) 5 0 k (nI (cd t tn a - 65))) 4 0 k 1) 1 0 8 (nI (k + 1))) hC1 (fun q i j hq => by rw [sto_nj (by omega), sto_nj (by omega), sto_nj (by omega)]) sto_e (by
            show _ ∧ _
            exact ⟨by rw [sto_k (by omega), sto_e], by rw [sto_k (by omega), sto_k (by omega), sto_e]⟩)) 0
          obtain ⟨μ19, m1, m2⟩ := addM_eq hM2 (by omega) 1 (cd t tn a - 65) 0
          rw [m1, bW_s]
          refine go (wn := false) _ _ hadd m2 rfl (by omega) (by omega) (Nat.le_refl _) (nbp _ (by omega)) ?_ ?_ hdk rfl rfl
          · show cd t tn a - 65 < 8; omega
          · rw [hw]; show _ ∧ _ ∧ _; exact ⟨rfl, rfl, rfl⟩
        · rw [if_neg c2, if_pos rfl, if_neg (show ¬ (65 ≤ cd t tn a ∧ cd t tn a ≤ 72) by omega), if_neg c1]
          have hMs : sk t tn a = a := by rw [← q3]; exact sk_sk h
          rcases one_eq h hTC hTM hC hM1 hMs (Nat.le_refl _) ha hk with ⟨μC', μM', u1, u2, u3, u4⟩ | ⟨μC', μM', f, p, p', u1, u2, u3, u4, u5, u6, u7, u8, u9, u10⟩
          · rw [u1, bW_s, isb_0, bW_s, if_pos rfl, u2, bW_s, if_neg (show ¬ (0 : Int32) ≤ -1 by decide)]
            exact Or.inl ⟨_, _, rfl, rfl, u3, u4⟩
          · obtain ⟨μ19, m1, m2⟩ := addM_eq u5 (by omega) 5 f 0
            rw [u1, bW_s, isb_1, bW_s, if_neg i10, u2, bW_s, if_pos (nI_pos' (by omega)), m1, bW_s]
            refine go (wn := true) _ _ u4 m2 u6 u7 u9 (Nat.le_refl _) (nbp _ u7) u3 ?_ hdk rfl rfl
            rw [hw]; show _ ∧ _ ∧ _; exact ⟨rfl, rfl, rfl⟩
