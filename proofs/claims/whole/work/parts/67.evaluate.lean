/-- what an evaluation ends in, on both sides -/
def EVo (μC μM : Mem) (x : Option (Except Nat Nat × Mem)) (y : Option (Unit × Mem)) : Prop :=
  ∃ r μC' μM', x = some (r, μC') ∧ y = some ((), μM') ∧ FE μC μC' ∧ FEm μM μM' ∧ μC' 14 0 6 = μM' 30 0 18 ∧ (∃ p q h, PM p q ∧ CB μC' p q h) ∧
    ((∃ g A, r = .ok g ∧ 8 ≤ g ∧ g < 17 ∧ μM' 30 0 16 = 0 ∧ WA A ∧ GA μC' g A ∧ SA μM' 0 A) ∨ ∃ e, r = .error e ∧ eok e ∧ μM' 30 0 16 = nI e)
theorem evaluate_eq {I : Nat → Itm} {n nc : Nat} {N : Nat → Int32} {μC μM : Mem} {d : Nat → Nat} {w : Nat → Bool} (hSI : SI I n nc N μC μM) (hNR : NR μC μM) (hG : ∀ k, k < n → okG (I k) (w k) (w (k + 1)) (d k) (d (k + 1))) (hd : ∀ k, k ≤ n → d k ≤ 6) (hw0 : w 0 = true) (hd0 : d 0 = 0) (hwn : w n = false) (hdn : d n = 0) (hPM : ∃ p q h, PM p q ∧ CB μC p q h) (h8 : μC 1 0 8 = nI n) (h9 : μM 30 0 9 = nI n) : EVo μC μM (f_X0_evaluate μC) (f_X8_evaluate 0 μM) := by
  obtain ⟨p, q, h0, hP, hC⟩ := hPM
  have hn := hSI.1
  generalize hμC : sto (sto (sto (sto μC 14 0 4 0) 14 0 5 0) 14 0 6 0) 16 0 0 (-1) = μC1
  generalize hμM : sto (sto (sto μM 30 0 16 0) 30 0 18 0) 40 0 0 0 = μM1
  have f1 : FE μC μC1 := fun k i hk => by rw [← hμC, sto_k (by omega), sto_k (by omega), sto_k (by omega), sto_k (by omega)]
  have f2 : FEm μM μM1 := fun k i j hk => by rw [← hμM, sto_nj (by omega), sto_nj (by omega), sto_nj (by omega)]
  have e1 : f_X0_evaluate μC = f_X0_evaluate_L29 (fun (μ_22 : Mem) => gd (inb (0 : Int32) 8) <| lt ((μ_22 15 0 ((0 : Int32)).toNatClampNeg).toNatClampNeg) fun g_23 => gd (decide (g_23 < 18)) <| some (.ok g_23, μ_22)) 1000 (nI n - 1) μC1 := by
    unfold f_X0_evaluate
    have : sto (sto (sto (sto μC 14 0 4 0) 14 0 5 0) 14 0 6 0) 16 0 0 (-1) 1 0 8 = nI n := by
      rw [sto_k (by omega), sto_k (by omega), sto_k (by omega), sto_k (by omega)]; exact h8
    simp only [lt, ← hμC]
    rw [show (gd (inb 0 7) : Option (Except Nat Nat × Mem) → _) = gd (inb (nI 0) 7) from rfl, ig_t (by omega) (by omega)]
    rw [show (0 : Int32).toNatClampNeg = 0 from rfl, this]
  have e2 : f_X8_evaluate 0 μM = f_X8_evaluate_L26 (fun (μ_34 : Mem) => some ((), μ_34)) (nI 0) 1000 (nI 0) (nI n - 1) μM1 := by
    unfold f_X8_evaluate
    have : sto (sto (sto μM 30 0 16 0) 30 0 18 0) 40 0 0 0 30 0 9 = nI n := by
      rw [sto_k (by omega), sto_j (by omega), sto_j (by omega)]; exact h9
    simp only [lt, ← hμM, bz]
    rw [show (gd (inb 0 8) : Option (Unit × Mem) → _) = gd (inb (nI 0) 8) from rfl, ig_t (by omega) (by omega)]
    rw [show (0 : Int32).toNatClampNeg = 0 from rfl, this, il0]
  have hEV : EVs I n μC μM (d n) (w n) μC1 μM1 := by
    rw [hwn, hdn]
    refine ⟨p, q, (fun _ => false), (fun _ => 0), hP, ⟨?_, ?_, fun j hj => ?_⟩, ?_, ⟨fun e he => ⟨fun _ => ?_, fun j hj => (by cases hj)⟩, fun e he hve => (by cases hve), fun e he => (by omega)⟩, ⟨f1, f2, ?_, ?_⟩, fun qq => (by cases qq), fun _ _ => rfl⟩
    · rw [← hμC, sto_k (by omega), sto_j (by omega), sto_j (by omega), sto_j (by omega)]; exact hC.1
    · rw [← hμC, sto_k (by omega), sto_j (by omega), sto_j (by omega), sto_e]; rfl
    · rw [← hμC, sto_k (by omega), sto_k (by omega), sto_k (by omega), sto_k (by omega)]; exact hC.2.2 j hj
    · rw [← hμC, sto_k (by omega), sto_j (by omega), sto_e]; rfl
    · have : e = 0 := by omega
      subst this
      rw [← hμC, ← hμM, sto_e, sto_e]
      exact ⟨rfl, rfl⟩
    · rw [← hμM, sto_k (by omega), sto_j (by omega), sto_e]
    · rw [← hμC, ← hμM, sto_k (by omega), sto_e, sto_k (by omega), sto_e]
  have hl := eval_loop (κC := fun (μ_22 : Mem) => gd (inb (0 : Int32) 8) <| lt ((μ_22 15 0 ((0 : Int32)).toNatClampNeg).toNatClampNeg) fun g_23 => gd (decide (g_23 < 18)) <| some (.ok g_23, μ_22)) (κM := fun (μ_34 : Mem) => some ((), μ_34)) hSI hNR hG hd hw0 hd0 n (Nat.le_refl _) μC1 μM1 1000 1000 hEV (by omega) (by omega)
  rw [hdn] at hl
  rw [e1, e2]
  rcases hl with ⟨μC', μM', ⟨p', q', v, wt, a1, a2, a3, a4, a5, a6, a7⟩, x1, x2⟩ | ⟨e, μC', μM', a1, x1, x2⟩
  · rw [x1, x2]
    obtain ⟨v1, v2⟩ := a6 rfl
    obtain ⟨A, A1, A2, A3⟩ := a4.2.1 0 (Nat.le_refl _) v1
    have hp0 := a1.1 0 (by omega)
    have e3 : (gd (inb (0 : Int32) 8) <| lt ((μC' 15 0 ((0 : Int32)).toNatClampNeg).toNatClampNeg) fun g_23 => gd (decide (g_23 < 18)) <| (some (.ok g_23, μC') : Option (Except Nat Nat × Mem))) = some (.ok (p' 0), μC') := by
      rw [show (gd (inb 0 8) : Option (Except Nat Nat × Mem) → _) = gd (inb (nI 0) 8) from rfl, ig_t (by omega) (by omega)]
      rw [show (0 : Int32).toNatClampNeg = 0 from rfl, a2.2.2 0 (by omega), nI_clamp (by omega)]
      simp only [lt, gd_d (show p' 0 < 18 by omega)]
    exact ⟨.ok (p' 0), μC', μM', e3, rfl, a5.1, a5.2.1, a5.2.2.2, ⟨p', q', _, a1, a2⟩, Or.inl ⟨p' 0, A, rfl, hp0.1, hp0.2.1, a5.2.2.1, A1, A2, A3⟩⟩
  · obtain ⟨b1, b2, b3, b4, b5, b6⟩ := a1
    exact ⟨.error e, μC', μM', x1, x2, b2, b3, b5, b6, Or.inr ⟨e, rfl, b1, b4⟩⟩
