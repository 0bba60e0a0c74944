/-! ===== the evaluation's loop ===== -/
theorem evM_flt {κ : Mem → Option (Unit × Mem)} {c a2 a3 : Int32} {m : Nat} {μ : Mem} (h : ¬ μ 30 0 16 = 0) : f_X8_evaluate_L26 κ c (m + 1) a2 a3 μ = κ μ := by
  simp only [f_X8_evaluate_L26, if_neg h, ite_self]
def RS (I : Nat → Itm) (n : Nat) (μC0 μM0 : Mem) (κC : Mem → Option (Except Nat Nat × Mem)) (κM : Mem → Option (Unit × Mem)) (x : Option (Except Nat Nat × Mem)) (y : Option (Unit × Mem)) : Prop :=
  (∃ μC μM, EVs I n μC0 μM0 0 true μC μM ∧ x = κC μC ∧ y = κM μM) ∨ ∃ e μC μM, ER μC0 μM0 e μC μM ∧ x = some (.error e, μC) ∧ y = κM μM
theorem pred_m1 (k : Nat) : nI k + (-1) = nI k - 1 := by rw [Int32.sub_eq_add_neg]
/-- the reference's loop, an item taken -/
theorem evM_unf {κ : Mem → Option (Unit × Mem)} {m k lev : Nat} {μ : Mem} {i : Itm} (hk : k < 201) (h0 : μ 30 0 16 = 0) (hi : MIt μ k i) (h6 : i.1 < 6) : f_X8_evaluate_L26 κ (nI 0) (m + 1) (nI lev) (nI k) μ =
    (if i.1 < 2 then (bW (f_X8_term (nI k) μ) fun v_29 μ_30 => if v_29 = 0 then (f_X8_evaluate_L26 κ (nI 0) m (nI lev) (nI k - 1) μ_30) else bW (f_X8_arrive (nI lev) μ_30) fun u_31 μ_32 => f_X8_evaluate_L26 κ (nI 0) m (nI lev) (nI k - 1) μ_32)
    else if i.1 = 3 then (gd (inb (nI (lev + 1)) 8) <| f_X8_evaluate_L26 κ (nI 0) m (nI (lev + 1)) (nI k - 1) (sto μ 40 0 (nI (lev + 1)).toNatClampNeg 0))
    else if i.1 = 2 then (bW (f_X8_copy (nI lev) (nI 7) μ) fun u_22 μ_23 => bW (f_X8_arrive (nI lev - 1) μ_23) fun u_25 μ_26 => f_X8_evaluate_L26 κ (nI 0) m (nI lev - 1) (nI k - 1) μ_26)
    else if i.1 = 4 then (gd (inb (nI lev) 8) <| gd (inb (nI lev) 8) <| f_X8_evaluate_L26 κ (nI 0) m (nI lev) (nI k - 1) (sto (sto μ 40 0 (nI lev).toNatClampNeg 1) 41 0 (nI lev).toNatClampNeg (nI i.2.1)))
    else bW (f_X8_copy (nI lev) (nI 19) μ) fun u_13 μ_14 => bW (f_X8_single (μ_14 36 0 k) μ_14) fun v_15 μ_16 => if v_15 = 0 then (f_X8_evaluate_L26 κ (nI 0) m (nI lev) (nI k - 1) μ_16) else bW (f_X8_copy (nI 8) (nI lev) μ_16) fun u_17 μ_18 => f_X8_evaluate_L26 κ (nI 0) m (nI lev) (nI k - 1) (sto μ_18 30 0 18 ((μ_18 30 0 18) + 1))) := by
  have h36 : ∀ x : Int32, sto μ 40 0 (nI lev).toNatClampNeg x 36 0 k = nI i.2.1 := fun x => by rw [sto_k (by omega)]; exact hi.2.1
  simp only [f_X8_evaluate_L26, nlt_f (Nat.zero_le k) (show k < 2 ^ 31 by omega), if_false, if_pos h0, ig_t hk (show 201 < 2 ^ 31 by omega), nI_clamp (show k < 2 ^ 31 by omega), hi.1, jn, lt, ← nI_succ, pred_m1, bz, b1, h36]
  simp only [il2, il3, il4, il7, il8, il19, nle_iff (show 2 < 2 ^ 31 by omega) (show i.1 < 2 ^ 31 by omega), neq_iff (show i.1 < 2 ^ 31 by omega) (show 3 < 2 ^ 31 by omega), neq_iff (show i.1 < 2 ^ 31 by omega) (show 2 < 2 ^ 31 by omega), neq_iff (show i.1 < 2 ^ 31 by omega) (show 4 < 2 ^ 31 by omega)]
  by_cases c : i.1 < 2
  · rw [if_pos c, if_neg (show ¬ 2 ≤ i.1 by omega)]
  · rw [if_neg c, if_pos (show 2 ≤ i.1 by omega)]
/-- the class's loop, a step taken -/
theorem evC_unf {κ : Mem → Option (Except Nat Nat × Mem)} {m k : Nat} {μ : Mem} (hk : k < 200) : f_X0_evaluate_L29 κ (m + 1) (nI k) μ = (if μ 4 0 k = 4 then (bB (f_X0_workOnOne (nI k) μ) (fun e_20 μ_19 => some (.error e_20, μ_19)) fun u_18 μ_19 => f_X0_evaluate_L29 κ m (nI k - 1) μ_19)
    else bB (f_X0_endsTerm (nI k) μ) (fun e_13 μ_12 => some (.error e_13, μ_12)) fun v_11 μ_12 => if v_11 = 0 then (f_X0_evaluate_L29 κ m (nI k - 1) μ_12) else XC (fun μ => f_X0_evaluate_L29 κ m (nI k - 1) μ) μ_12) := by
  simp only [f_X0_evaluate_L29, if_neg (nI_pos (show k < 2 ^ 31 by omega)), ig_t hk (show 200 < 2 ^ 31 by omega), nI_clamp (show k < 2 ^ 31 by omega), jn, lt, pred_m1, XC]
theorem TC_frame {p : Nat → Nat} {q h : Nat} {μ μ' : Mem} (hp : PM p q) (hh : h < 8) (hf : ∀ k i, k ≠ 14 ∧ k ≠ 17 ∧ (k < 20 ∨ 22 < k ∨ i ≠ p h) → μ' k i = μ k i) : FE μ μ' := fun k i hk => hf k i (by have := hp.1 h hh; omega)
/-- a term (numbers or a name), on both sides -/
theorem eval_term {I : Nat → Itm} {n nc lev : Nat} {N : Nat → Int32} {μC0 μM0 μC μM : Mem} {p : Nat → Nat} {q : Nat} {v : Nat → Bool} {wt : Nat → Nat} {S : Except Nat Arr} {xC : Option (Except Nat Int32 × Mem)} {xM : Option (Int32 × Mem)} {FC : Mem → Option (Except Nat Nat × Mem)} {FM : Mem → Option (Unit × Mem)} {R : Option (Except Nat Nat × Mem) → Option (Unit × Mem) → Prop} (hSI : SI I n nc N μC0 μM0) (hl : lev ≤ 6) (hPM : PM p q) (hCB : CB μC p q (cnt v (lev + 1))) (h5 : μC 14 0 5 = nI lev) (hEb : EVb I n lev μC μM p v wt) (hEg : EVg μC0 μM0 μC μM) (hb0 : wt lev = 0 → v lev = false) (hh8 : cnt v (lev + 1) < 8) (hTC : TC p q (cnt v (lev + 1)) μC S xC) (hTM : TM μM S xM) (hSW : ∀ A, S = .ok A → WA A) (hSe : ∀ e, S = .error e → eok e)
    (hok : ∀ μC' μM', EVs I n μC0 μM0 lev true μC' μM' → R (FC μC') (FM μM')) (hbad : ∀ e μC' μM', ER μC0 μM0 e μC' μM' → ∀ x y, x = some (.error e, μC') → y = FM μM' → R x y) :
    R (bB xC (fun e_13 μ_12 => some (.error e_13, μ_12)) fun v_11 μ_12 => if v_11 = 0 then (FC μ_12) else XC FC μ_12) (bW xM fun v_29 μ_30 => if v_29 = 0 then (FM μ_30) else bW (f_X8_arrive (nI lev) μ_30) fun u_31 μ_32 => FM μ_32) := by
  obtain ⟨r, μC1, a1, a2, a3, a4⟩ := hTC
  obtain ⟨b, μM1, b1, b2, b3⟩ := hTM
  subst a1 b1
  obtain ⟨g1, g2, g3, g4⟩ := hEg
  have hFE := TC_frame hPM hh8 a2
  have hFM : FEm μM μM1 := fun k i j hk => b2 k i j (by omega)
  have hcl := cnt_le v (lev + 1)
  rw [bW_s]
  cases S with
  | error e =>
    dsimp only at a4 b3
    obtain ⟨rfl, a5⟩ := a4
    rw [bB_e, b3.1, if_pos rfl]
    exact hbad e μC1 μM1 ⟨hSe e rfl, g1.trans hFE, g2.trans hFM, b3.2, by rw [a3 6 (by omega), b2 30 0 18 (by omega)]; exact g4, p, q, _, hPM, a5⟩ _ _ rfl rfl
  | ok A =>
    dsimp only at a4 b3
    obtain ⟨rfl, a5, a6⟩ := a4
    obtain ⟨rfl, b4, b5⟩ := b3
    rw [bB_o, if_neg (show ¬ (1 : Int32) = 0 by decide), if_neg (show ¬ (1 : Int32) = 0 by decide)]
    have hph := hPM.1 (cnt v (lev + 1)) hh8
    have hEVA : EVA I n μC0 μM0 lev A μC1 μM1 := by
      refine ⟨p, q, v, wt, hPM, a5, by rw [a3 5 (by omega)]; exact h5, ⟨fun e he => ?_, fun e he hve => ?_, hEb.2.2⟩, ⟨g1.trans hFE, g2.trans hFM, b4, by rw [a3 6 (by omega), b2 30 0 18 (by omega)]; exact g4⟩, hb0, a6, hSW A rfl, b5⟩
      · rw [a2 16 0 (by omega), b2 40 0 e (by omega), b2 41 0 e (by omega)]
        exact hEb.1 e he
      · obtain ⟨D, d1, d2, d3⟩ := hEb.2.1 e he hve
        have hlt := cnt_lt (v := v) (show e < lev + 1 by omega) hve
        have hne : p (cnt v e) ≠ p (cnt v (lev + 1)) := fun hq => by
          have := hPM.2.1 _ _ (by omega) hh8 hq
          omega
        have w1 := d1.1
        have w2 := d1.2.2
        refine ⟨D, d1, ?_, ?_⟩
        · exact ⟨by rw [a2 20 _ (by omega)]; exact d2.1, by rw [a2 20 _ (by omega)]; exact d2.2.1, fun k hk => by rw [a2 21 _ (by omega)]; exact d2.2.2.1 k hk, fun k hk => by rw [a2 22 _ (by omega)]; exact d2.2.2.2 k hk⟩
        · exact ⟨by rw [b2 32 0 _ (by omega)]; exact d3.1, fun k hk => by rw [b2 33 0 _ (by omega)]; exact d3.2.1 k hk, fun k hk => by rw [b2 34 0 _ (by omega)]; exact d3.2.2 k hk⟩
    rcases arrive_step hSI hl hEVA FC with ⟨μC', μM', c1, c2, c3⟩ | ⟨e, μC', μM', c1, c2, c3⟩
    · rw [c1, c2, bW_s]; exact hok μC' μM' c3
    · rw [c1, c2, bW_s]; exact hbad e μC' μM' c3 _ _ rfl rfl
theorem eval_loop {I : Nat → Itm} {n nc : Nat} {N : Nat → Int32} {μC0 μM0 : Mem} {d : Nat → Nat} {w : Nat → Bool} {κC : Mem → Option (Except Nat Nat × Mem)} {κM : Mem → Option (Unit × Mem)} (hSI : SI I n nc N μC0 μM0) (hNR : NR μC0 μM0) (hG : ∀ k, k < n → okG (I k) (w k) (w (k + 1)) (d k) (d (k + 1))) (hd : ∀ k, k ≤ n → d k ≤ 6) (hw0 : w 0 = true) (hd0 : d 0 = 0) :
    ∀ k, k ≤ n → ∀ μC μM m m', EVs I n μC0 μM0 (d k) (w k) μC μM → k < m → k < m' → RS I n μC0 μM0 κC κM (f_X0_evaluate_L29 κC m (nI k - 1) μC) (f_X8_evaluate_L26 κM (nI 0) m' (nI (d k)) (nI k - 1) μM) := by
  intro k
  induction k with
  | zero =>
    intro _ μC μM m m' hEV hm hm'
    obtain ⟨m, rfl⟩ : ∃ q, m = q + 1 := ⟨m - 1, by omega⟩
    obtain ⟨m', rfl⟩ : ∃ q, m' = q + 1 := ⟨m' - 1, by omega⟩
    rw [hw0, hd0] at hEV
    left
    refine ⟨μC, μM, hEV, ?_, ?_⟩
    · simp only [f_X0_evaluate_L29, if_pos (show nI 0 - 1 < 0 by decide)]
    · simp only [f_X8_evaluate_L26, if_pos (show nI 0 - 1 < nI 0 by decide)]
  | succ k ih =>
    intro hkn μC μM m m' hEV hm hm'
    obtain ⟨m, rfl⟩ : ∃ q, m = q + 1 := ⟨m - 1, by omega⟩
    obtain ⟨m', rfl⟩ : ∃ q, m' = q + 2 := ⟨m' - 2, by omega⟩
    have hn := hSI.1
    rw [show nI (k + 1) - 1 = nI k from nI_pred k]
    have hGk := hG k (by omega)
    have ihk := ih (by omega)
    have hdk1 := hd (k + 1) hkn
    have hdk := hd k (by omega)
    -- a fault ends both
    have bad : ∀ e μC' μM' (a2 : Int32), ER μC0 μM0 e μC' μM' → ∀ x y, x = some (.error e, μC') → y = f_X8_evaluate_L26 κM (nI 0) (m' + 1) a2 (nI k - 1) μM' → RS I n μC0 μM0 κC κM x y := by
      intro e μC' μM' a2 hER x y hx hy
      right
      refine ⟨e, μC', μM', hER, hx, ?_⟩
      rw [hy]
      exact evM_flt (by rw [hER.2.2.2.1]; exact eok_ne hER.1)
    obtain ⟨p, q, v, wt, hPM, hCB, h5, hEb, hEg, hb1, hb0⟩ := hEV
    have hEg' := hEg
    obtain ⟨g1, g2, g3, g4⟩ := hEg
    have hSI' := hSI.keep g1 g2
    have hNR' := hNR.keep g1 g2
    obtain ⟨i1, i2, i3⟩ := hSI'.2.2.1 k (by omega)
    have h6 : (I k).1 < 6 := by
      unfold okI at i3
      rcases hq : (I k).1 with _ | _ | _ | _ | _ | _ | _
      all_goals first | omega | (rw [hq] at i3; exact i3.elim)
    rw [evC_unf (by omega), evM_unf (i := I k) (by omega) g3 i2 h6]
    have hcl := cnt_le v (d (k + 1))
    have hcl1 := cnt_le v (d (k + 1) + 1)
    unfold CIt at i1
    unfold okI at i3
    unfold okG at hGk
    rcases (show (I k).1 = 0 ∨ (I k).1 = 1 ∨ (I k).1 = 2 ∨ (I k).1 = 3 ∨ (I k).1 = 4 ∨ (I k).1 = 5 by omega) with hI | hI | hI | hI | hI | hI
    all_goals rw [hI] at i1 i3 hGk
    all_goals simp only at i1 i3 hGk
    · -- numbers
      obtain ⟨q1, q2, q3⟩ := hGk
      have hh8 : cnt v (d (k + 1) + 1) < 8 := by omega
      have hnc := hSI.2.1
      have hTC := nums_C (N := N) (k := k) (by omega) hh8 hPM hCB i1.1 i1.2.1 i1.2.2 i3.1 (by omega) (fun j hj => (hSI'.2.2.2 j (by omega)).1)
      have hTM := nums_M (N := N) (k := k) (μ := μM) (by omega) (by rw [i2.1, hI]) i2.2.1 (i2.2.2 hI) i3.1 (by omega) (fun j hj => (hSI'.2.2.2 j (by omega)).2) g3
      rw [if_neg (show ¬ μC 4 0 k = 4 by rw [i1.1]; decide), if_pos (show (I k).1 < 2 by omega)]
      refine eval_term hSI hdk1 hPM hCB h5 hEb hEg' (hb0 q2) hh8 hTC hTM (fun A hS => ?_) (fun e hS => ?_) (fun μC' μM' hE => ?_) (fun e μC' μM' hE x y hx hy => bad e μC' μM' _ hE x y hx hy)
      · split at hS
        · cases hS; exact numsA_W i3.1 (by omega)
        · cases hS
      · split at hS
        · cases hS
        · cases hS; unfold eok; omega
      · rw [q3] at hE ⊢
        exact ihk μC' μM' m (m' + 1) (by rw [q1]; exact hE) (by omega) (by omega)
    · -- a name
      obtain ⟨q1, q2, q3⟩ := hGk
      have hh8 : cnt v (d (k + 1) + 1) < 8 := by omega
      have hTC := name_C (k := k) (by omega) hh8 hPM hCB i3 i1.1 i1.2
      have hTM := name_M (k := k) (μ := μM) (by omega) i3 (by rw [i2.1, hI]) i2.2.1 g3
      rw [if_neg (show ¬ μC 4 0 k = 4 by rw [i1.1]; decide), if_pos (show (I k).1 < 2 by omega)]
      have go : ∀ S, TC p q (cnt v (d (k + 1) + 1)) μC S (f_X0_endsTerm (nI k) μC) → TM μM S (f_X8_term (nI k) μM) → (∀ A, S = .ok A → WA A) → (∀ e, S = .error e → eok e) → RS I n μC0 μM0 κC κM (bB (f_X0_endsTerm (nI k) μC) (fun e_13 μ_12 => some (.error e_13, μ_12)) fun v_11 μ_12 => if v_11 = 0 then (f_X0_evaluate_L29 κC m (nI k - 1) μ_12) else XC (fun μ => f_X0_evaluate_L29 κC m (nI k - 1) μ) μ_12) (bW (f_X8_term (nI k) μM) fun v_29 μ_30 => if v_29 = 0 then (f_X8_evaluate_L26 κM (nI 0) (m' + 1) (nI (d (k + 1))) (nI k - 1) μ_30) else bW (f_X8_arrive (nI (d (k + 1))) μ_30) fun u_31 μ_32 => f_X8_evaluate_L26 κM (nI 0) (m' + 1) (nI (d (k + 1))) (nI k - 1) μ_32) := by
        intro S hTC hTM hS1 hS2
        refine eval_term hSI hdk1 hPM hCB h5 hEb hEg' (hb0 q2) hh8 hTC hTM hS1 hS2 (fun μC' μM' hE => ?_) (fun e μC' μM' hE x y hx hy => bad e μC' μM' _ hE x y hx hy)
        rw [q3] at hE ⊢
        exact ihk μC' μM' m (m' + 1) (by rw [q1]; exact hE) (by omega) (by omega)
      rcases hNR' _ i3 with ⟨n1, n2⟩ | ⟨n1, A, n2, n3, n4⟩
      · exact go _ (hTC.1 n1) (hTM.1 n2) (fun A q => by cases q) (fun e q => by cases q; unfold eok; omega)
      · exact go _ (hTC.2 A n1 n2 n3) (hTM.2 A n2 n4) (fun B q => by cases q; exact n2) (fun e q => by cases q)
    · -- (
      obtain ⟨q1, q2, q3⟩ := hGk
      obtain ⟨v1, v2⟩ := hb1 q2
      obtain ⟨A, A1, A2, A3⟩ := hEb.2.1 _ (Nat.le_refl _) v1
      have hc1 : cnt v (d (k + 1) + 1) = cnt v (d (k + 1)) + 1 := by simp [cnt, v1]
      have e0 : f_X0_endsTerm (nI k) μC = some (.ok 1, sto μC 14 0 5 (nI (d k))) := by
        unfold f_X0_endsTerm
        simp only [ig_t (show k < 200 by omega) (show 200 < 2 ^ 31 by omega), nI_clamp (show k < 2 ^ 31 by omega), i1, jn, lt, h5, q3, nI_pred]
        rw [if_neg (by decide), if_pos trivial]
      have e1 : nI (d (k + 1)) - 1 = nI (d k) := by rw [q3, nI_pred]
      obtain ⟨μM1, c1, c2, c3⟩ := mcopy_A (a := d (k + 1)) (b := 7) (by omega) (by omega) (by omega) A1 A3
      rw [if_neg (show ¬ μC 4 0 k = 4 by rw [i1]; decide), if_neg (show ¬ (I k).1 < 2 by omega), if_neg (show ¬ (I k).1 = 3 by omega), if_pos hI, e0, bB_o, if_neg (show ¬ (1 : Int32) = 0 by decide), c1, bW_s, e1]
      have hEVA : EVA I n μC0 μM0 (d k) A (sto μC 14 0 5 (nI (d k))) μM1 := by
        refine ⟨p, q, v, wt, hPM, ?_, sto_e, ⟨fun e he => ?_, fun e he hve => ?_, fun e he => hEb.2.2 e (by omega)⟩, ⟨fun kk i hk => ?_, g2.trans (c2.fe (by omega)), ?_, ?_⟩, hEb.2.2 (d k) (by omega), ?_, A1, c3⟩
        · rw [show cnt v (d k + 1) + 1 = cnt v (d (k + 1) + 1) by rw [hc1, q3]]
          exact ⟨by rw [sto_j (by omega)]; exact hCB.1, by rw [sto_j (by omega)]; exact hCB.2.1, fun j hj => by rw [sto_k (by omega)]; exact hCB.2.2 j hj⟩
        · rw [sto_k (by omega), c2 40 0 e (by omega), c2 41 0 e (by omega)]
          exact hEb.1 e (by omega)
        · obtain ⟨D, d1, d2, d3⟩ := hEb.2.1 e (by omega) hve
          refine ⟨D, d1, ?_, c2.sa (by omega) d1 d3⟩
          exact ⟨by rw [sto_k (by omega)]; exact d2.1, by rw [sto_k (by omega)]; exact d2.2.1, fun k hk => by rw [sto_k (by omega)]; exact d2.2.2.1 k hk, fun k hk => by rw [sto_k (by omega)]; exact d2.2.2.2 k hk⟩
        · rw [sto_k (by omega)]; exact g1 kk i hk
        · rw [c2 30 0 16 (by omega)]; exact g3
        · rw [sto_j (by omega), c2 30 0 18 (by omega)]; exact g4
        · rw [← q3]
          exact ⟨by rw [sto_k (by omega)]; exact A2.1, by rw [sto_k (by omega)]; exact A2.2.1, fun k hk => by rw [sto_k (by omega)]; exact A2.2.2.1 k hk, fun k hk => by rw [sto_k (by omega)]; exact A2.2.2.2 k hk⟩
      rcases arrive_step hSI hdk hEVA (fun μ => f_X0_evaluate_L29 κC m (nI k - 1) μ) with ⟨μC', μM', t1, t2, t3⟩ | ⟨e, μC', μM', t1, t2, t3⟩
      · rw [t1, t2, bW_s]
        exact ihk μC' μM' m (m' + 1) (by rw [q1]; exact t3) (by omega) (by omega)
      · rw [t1, t2, bW_s]
        exact bad e μC' μM' _ t3 _ _ rfl rfl
    · -- )
      obtain ⟨q1, q2, q3⟩ := hGk
      have e0 : f_X0_endsTerm (nI k) μC = some (.ok 0, sto (sto μC 14 0 5 (nI (d k))) 16 0 (d k) (-1)) := by
        unfold f_X0_endsTerm
        simp only [ig_t (show k < 200 by omega) (show 200 < 2 ^ 31 by omega), nI_clamp (show k < 2 ^ 31 by omega), i1, jn, lt, h5, ← nI_succ, ← q3, sto_e, ig_t (show d k < 7 by omega) (show 7 < 2 ^ 31 by omega), nI_clamp (show d k < 2 ^ 31 by omega)]
        rw [if_neg (by decide), if_neg (by decide), if_pos trivial]
      rw [if_neg (show ¬ μC 4 0 k = 4 by rw [i1]; decide), if_neg (show ¬ (I k).1 < 2 by omega), if_pos hI, e0, bB_o, if_pos rfl, ← q3, ig_t (show d k < 8 by omega) (by omega), nI_clamp (by omega)]
      refine ihk _ _ m (m' + 1) ?_ (by omega) (by omega)
      rw [q1]
      have hcn : ∀ e, e ≤ d k → cnt (fun e => if e = d k then false else v e) e = cnt v e := fun e he => cnt_congr (fun e' he' => by simp; omega)
      refine ⟨p, q, (fun e => if e = d k then false else v e), (fun e => if e = d k then 0 else wt e), hPM, ?_, ?_, ⟨fun e he => ⟨fun qq => ?_, fun jj qq => ?_⟩, fun e he hve => ?_, fun e he qq => ?_⟩, ⟨fun kk i hk => ?_, fun kk i j hk => ?_, ?_, ?_⟩, fun qq => (by cases qq), fun _ _ => (by simp)⟩
      · have : cnt (fun e => if e = d k then false else v e) (d k + 1) = cnt v (d (k + 1) + 1) := by
          rw [← q3]
          show cnt (fun e => if e = d k then false else v e) (d k) + _ = _
          rw [hcn _ (Nat.le_refl _)]
          simp
        rw [this]
        exact ⟨by rw [sto_k (by omega), sto_j (by omega)]; exact hCB.1, by rw [sto_k (by omega), sto_j (by omega)]; exact hCB.2.1, fun j hj => by rw [sto_k (by omega), sto_k (by omega)]; exact hCB.2.2 j hj⟩
      · rw [sto_k (by omega), sto_e]
      · by_cases c : e = d k
        · rw [c, sto_e, sto_e]; exact ⟨rfl, rfl⟩
        · simp only [if_neg c] at qq
          rw [sto_j c, sto_j c, sto_k (by omega)]
          exact (hEb.1 e (by omega)).1 qq
      · by_cases c : e = d k
        · simp only [if_pos c] at qq; cases qq
        · simp only [if_neg c] at qq ⊢
          rw [sto_j c, sto_j c, sto_k (by omega), sto_k (by omega)]
          exact (hEb.1 e (by omega)).2 jj qq
      · by_cases c : e = d k
        · simp only [if_pos c] at hve; cases hve
        · simp only [if_neg c] at hve
          rw [hcn e he]
          obtain ⟨D, d1, d2, d3⟩ := hEb.2.1 e (by omega) hve
          refine ⟨D, d1, ?_, ?_⟩
          · exact ⟨by rw [sto_k (by omega), sto_k (by omega)]; exact d2.1, by rw [sto_k (by omega), sto_k (by omega)]; exact d2.2.1, fun k hk => by rw [sto_k (by omega), sto_k (by omega)]; exact d2.2.2.1 k hk, fun k hk => by rw [sto_k (by omega), sto_k (by omega)]; exact d2.2.2.2 k hk⟩
          · exact ⟨by rw [sto_k (by omega)]; exact d3.1, fun k hk => by rw [sto_k (by omega)]; exact d3.2.1 k hk, fun k hk => by rw [sto_k (by omega)]; exact d3.2.2 k hk⟩
      · have c : ¬ e = d k := by omega
        simp only [if_neg c] at qq ⊢
        by_cases c2 : e = d (k + 1)
        · rw [c2]; rw [c2] at qq; exact hb0 q2 qq
        · exact hEb.2.2 e (by omega) qq
      · rw [sto_k (by omega), sto_k (by omega)]; exact g1 kk i hk
      · rw [sto_k (by omega)]; exact g2 kk i j hk
      · rw [sto_k (by omega)]; exact g3
      · rw [sto_k (by omega), sto_j (by omega), sto_k (by omega)]; exact g4
    · -- a function of two
      obtain ⟨q1, q2, q3⟩ := hGk
      obtain ⟨v1, v2⟩ := hb1 q2
      have e0 : f_X0_endsTerm (nI k) μC = some (.ok 0, sto μC 16 0 (d k) (nI k)) := by
        unfold f_X0_endsTerm
        simp only [ig_t (show k < 200 by omega) (show 200 < 2 ^ 31 by omega), nI_clamp (show k < 2 ^ 31 by omega), i1.1, jn, lt, h5, q3, ig_t (show d k < 7 by omega) (show 7 < 2 ^ 31 by omega), nI_clamp (show d k < 2 ^ 31 by omega)]
        rw [if_neg (by decide), if_neg (by decide), if_neg (by decide), if_pos trivial]
      rw [if_neg (show ¬ μC 4 0 k = 4 by rw [i1.1]; decide), if_neg (show ¬ (I k).1 < 2 by omega), if_neg (show ¬ (I k).1 = 3 by omega), if_neg (show ¬ (I k).1 = 2 by omega), if_pos hI, e0, bB_o, if_pos rfl, q3, ig_t (show d k < 8 by omega) (by omega), ig_t (show d k < 8 by omega) (by omega), nI_clamp (by omega)]
      rw [q3] at v1 v2 hCB h5 hEb
      refine ihk _ _ m (m' + 1) ?_ (by omega) (by omega)
      rw [q1]
      refine ⟨p, q, v, (fun e => if e = d k then k + 1 else wt e), hPM, ?_, ?_, ⟨fun e he => ⟨fun qq => ?_, fun jj qq => ?_⟩, fun e he hve => ?_, fun e he qq => ?_⟩, ⟨fun kk i hk => ?_, fun kk i j hk => ?_, ?_, ?_⟩, fun qq => (by cases qq), fun _ qq => (by simp at qq)⟩
      · exact ⟨by rw [sto_k (by omega)]; exact hCB.1, by rw [sto_k (by omega)]; exact hCB.2.1, fun j hj => by rw [sto_k (by omega)]; exact hCB.2.2 j hj⟩
      · rw [sto_k (by omega)]; exact h5
      · by_cases c : e = d k
        · simp only [if_pos c] at qq; cases qq
        · simp only [if_neg c] at qq
          rw [sto_j c, sto_k (by omega), sto_j c]
          exact (hEb.1 e he).1 qq
      · by_cases c : e = d k
        · simp only [if_pos c] at qq
          have : jj = k := by omega
          subst this
          rw [c, sto_e, sto_k (by omega), sto_e, sto_e]
          exact ⟨rfl, rfl, rfl, by omega, hI, v1⟩
        · simp only [if_neg c] at qq
          rw [sto_j c, sto_k (by omega), sto_j c, sto_j c, sto_k (by omega)]
          exact (hEb.1 e he).2 jj qq
      · obtain ⟨D, d1, d2, d3⟩ := hEb.2.1 e he hve
        refine ⟨D, d1, ?_, ?_⟩
        · exact ⟨by rw [sto_k (by omega)]; exact d2.1, by rw [sto_k (by omega)]; exact d2.2.1, fun k hk => by rw [sto_k (by omega)]; exact d2.2.2.1 k hk, fun k hk => by rw [sto_k (by omega)]; exact d2.2.2.2 k hk⟩
        · exact ⟨by rw [sto_k (by omega), sto_k (by omega)]; exact d3.1, fun k hk => by rw [sto_k (by omega), sto_k (by omega)]; exact d3.2.1 k hk, fun k hk => by rw [sto_k (by omega), sto_k (by omega)]; exact d3.2.2 k hk⟩
      · simp only [if_neg (show ¬ e = d k by omega)] at qq
        exact hEb.2.2 e he qq
      · rw [sto_k (by omega)]; exact g1 kk i hk
      · rw [sto_k (by omega), sto_k (by omega)]; exact g2 kk i j hk
      · rw [sto_k (by omega), sto_k (by omega)]; exact g3
      · rw [sto_k (by omega), sto_k (by omega), sto_k (by omega)]; exact g4
    · -- a function of one
      obtain ⟨q1, q2, q3⟩ := hGk
      obtain ⟨v1, v2⟩ := hb1 q2
      rw [q3] at v1 v2 hCB h5 hEb hcl hcl1
      obtain ⟨A, A1, A2, A3⟩ := hEb.2.1 _ (Nat.le_refl _) v1
      have hc1 : cnt v (d k + 1) = cnt v (d k) + 1 := by simp [cnt, v1]
      rw [hc1] at hCB
      have hh : cnt v (d k) < 8 := by omega
      obtain ⟨r, μ15, w1, w2, w3, w4⟩ := workOnOne_eq (k := k) i3 (by omega) hh hPM hCB i1.2.1 i1.2.2 A2 A1
      obtain ⟨μ14, c1, c2, c3⟩ := mcopy_A (a := d k) (b := 19) (by omega) (by omega) (by omega) A1 A3
      have f5 : μ14 30 0 16 = 0 := by rw [c2 30 0 16 (by omega)]; exact g3
      have f6 : μ14 36 0 k = nI (I k).2.1 := by rw [c2 36 0 k (by omega)]; exact i2.2.1
      have f8 : μ14 30 0 18 = μM 30 0 18 := c2 30 0 18 (by omega)
      obtain ⟨b, μ16, m1, m2, m3⟩ := single_M i3 A1 c3 f5
      rw [if_pos i1.1, if_neg (show ¬ (I k).1 < 2 by omega), if_neg (show ¬ (I k).1 = 3 by omega), if_neg (show ¬ (I k).1 = 2 by omega), if_neg (show ¬ (I k).1 = 4 by omega), w1, q3, c1, bW_s, f6, m1, bW_s]
      have hph := hPM.1 (cnt v (d k)) hh
      have hFE : FE μC μ15 := fun k i hk => w2 k i (by have := hPM.2.2; omega)
      cases hS : sp1 (I k).2.1 A with
      | error e =>
        rw [hS] at w4 m3
        dsimp only at w4 m3
        obtain ⟨rfl, ⟨h', w5⟩, w6⟩ := w4
        rw [m3.1, if_pos rfl, bB_e]
        exact bad e μ15 μ16 _ ⟨sp1_e hS, g1.trans hFE, g2.trans ((c2.fe (by omega)).trans m2.fe), m3.2, by rw [w6, m2 30 0 18 (by omega), f8]; exact g4, p, q, h', hPM, w5⟩ _ _ rfl rfl
      | ok C =>
        rw [hS] at w4 m3
        dsimp only at w4 m3
        obtain ⟨rfl, w5, w6, w7⟩ := w4
        obtain ⟨rfl, m4, m5⟩ := m3
        have hWC := sp1_W A1 hS
        obtain ⟨μ18, n1, n2, n3⟩ := mcopy_A (a := 8) (b := d k) (by omega) (by omega) (by omega) hWC m5
        rw [if_neg (show ¬ (1 : Int32) = 0 by decide), n1, bW_s, bB_o]
        refine ihk _ _ m (m' + 1) ?_ (by omega) (by omega)
        rw [q1]
        have hcn : ∀ e, e ≤ d k → v e = true → e ≠ d k → pu p (cnt v (d k)) q (cnt v e) = p (cnt v e) := fun e he hve hne => by
          have := cnt_lt (v := v) (show e < d k by omega) hve
          unfold pu; rw [if_neg (by omega)]
        refine ⟨pu p (cnt v (d k)) q, p (cnt v (d k)), v, wt, PM_pu hPM hh, ?_, w3.trans h5, ⟨fun e he => ?_, fun e he hve => ?_, hEb.2.2⟩, ⟨g1.trans hFE, g2.trans (fun kk i j hk => ?_), ?_, ?_⟩, fun _ => ⟨v1, v2⟩, fun qq => (by cases qq)⟩
        · rw [hc1]; exact w5
        · rw [w2 16 0 (by omega), sto_k (by omega), sto_k (by omega), n2 40 0 e (by omega), n2 41 0 e (by omega), m2 40 0 e (by omega), m2 41 0 e (by omega), c2 40 0 e (by omega), c2 41 0 e (by omega)]
          exact hEb.1 e he
        · by_cases c : e = d k
          · subst c
            refine ⟨C, hWC, ?_, ?_⟩
            · unfold pu; rw [if_pos rfl]; exact w6
            · exact ⟨by rw [sto_k (by omega)]; exact n3.1, fun k hk => by rw [sto_k (by omega)]; exact n3.2.1 k hk, fun k hk => by rw [sto_k (by omega)]; exact n3.2.2 k hk⟩
          · obtain ⟨D, b1, b2, b3⟩ := hEb.2.1 e he hve
            refine ⟨D, b1, ?_, ?_⟩
            · rw [hcn e he hve c]
              have hq : p (cnt v e) ≠ q := (hPM.1 (cnt v e) (by have := cnt_le v e; omega)).2.2
              exact ⟨by rw [w2 20 _ (by omega)]; exact b2.1, by rw [w2 20 _ (by omega)]; exact b2.2.1, fun k hk => by rw [w2 21 _ (by omega)]; exact b2.2.2.1 k hk, fun k hk => by rw [w2 22 _ (by omega)]; exact b2.2.2.2 k hk⟩
            · have t1 := n2.sa (by omega) b1 (m2.sa (by omega) b1 (c2.sa (by omega) b1 b3))
              exact ⟨by rw [sto_k (by omega)]; exact t1.1, fun k hk => by rw [sto_k (by omega)]; exact t1.2.1 k hk, fun k hk => by rw [sto_k (by omega)]; exact t1.2.2 k hk⟩
        · rw [sto_nj (by omega), n2 kk i j (by omega), m2 kk i j (by omega), c2 kk i j (by omega)]
        · rw [sto_j (by omega), n2 30 0 16 (by omega)]; exact m4
        · rw [sto_e, w7, n2 30 0 18 (by omega), m2 30 0 18 (by omega), f8, g4]
