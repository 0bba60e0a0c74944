/-! ===== evaluation: both sides step by step ===== -/
def SI (I : Nat → Itm) (n nc : Nat) (N : Nat → Int32) (μC μM : Mem) : Prop := n ≤ 200 ∧ nc ≤ 100 ∧ (∀ k, k < n → CIt μC k (I k) ∧ MIt μM k (I k) ∧ okI nc (I k)) ∧ ∀ j, j < nc → μC 10 0 j = N j ∧ μM 38 0 j = N j
theorem SI.keep {I : Nat → Itm} {n nc : Nat} {N : Nat → Int32} {μC μM μC' μM' : Mem} (h : SI I n nc N μC μM) (hC : FE μC μC') (hM : FEm μM μM') : SI I n nc N μC' μM' :=
  ⟨h.1, h.2.1, fun k hk => ⟨(h.2.2.1 k hk).1.keep hC, (h.2.2.1 k hk).2.1.keep hM, (h.2.2.1 k hk).2.2⟩, fun j hj => by rw [hC 10 0 (by omega), hM 38 0 j (by omega)]; exact h.2.2.2 j hj⟩
/-- the depths -/
def EVb (I : Nat → Itm) (n lev : Nat) (μC μM : Mem) (p : Nat → Nat) (v : Nat → Bool) (wt : Nat → Nat) : Prop :=
  (∀ e, e ≤ lev → (wt e = 0 → μC 16 0 e = -1 ∧ μM 40 0 e = 0) ∧ ∀ j, wt e = j + 1 → μC 16 0 e = nI j ∧ μM 40 0 e = 1 ∧ μM 41 0 e = nI (I j).2.1 ∧ j < n ∧ (I j).1 = 4 ∧ v e = true)
  ∧ (∀ e, e ≤ lev → v e = true → ∃ A, WA A ∧ GA μC (p (cnt v e)) A ∧ SA μM e A)
  ∧ ∀ e, e < lev → wt e = 0 → v e = false
def EVg (μC0 μM0 μC μM : Mem) : Prop := FE μC0 μC ∧ FEm μM0 μM ∧ μM 30 0 16 = 0 ∧ μC 14 0 6 = μM 30 0 18
/-- before an item: b tells whether a value stands at this depth with nothing waiting -/
def EVs (I : Nat → Itm) (n : Nat) (μC0 μM0 : Mem) (lev : Nat) (b : Bool) (μC μM : Mem) : Prop :=
  ∃ p q v wt, PM p q ∧ CB μC p q (cnt v (lev + 1)) ∧ μC 14 0 5 = nI lev ∧ EVb I n lev μC μM p v wt ∧ EVg μC0 μM0 μC μM ∧ (b = true → v lev = true ∧ wt lev = 0) ∧ (b = false → wt lev = 0 → v lev = false)
/-- a term's value has come -/
def EVA (I : Nat → Itm) (n : Nat) (μC0 μM0 : Mem) (lev : Nat) (A : Arr) (μC μM : Mem) : Prop :=
  ∃ p q v wt, PM p q ∧ CB μC p q (cnt v (lev + 1) + 1) ∧ μC 14 0 5 = nI lev ∧ EVb I n lev μC μM p v wt ∧ EVg μC0 μM0 μC μM ∧ (wt lev = 0 → v lev = false) ∧ GA μC (p (cnt v (lev + 1))) A ∧ WA A ∧ SA μM 7 A
/-- a fault was met -/
def ER (μC0 μM0 : Mem) (e : Nat) (μC μM : Mem) : Prop := eok e ∧ FE μC0 μC ∧ FEm μM0 μM ∧ μM 30 0 16 = nI e ∧ μC 14 0 6 = μM 30 0 18 ∧ ∃ p q h, PM p q ∧ CB μC p q h
theorem eok_ne {e : Nat} (h : eok e) : ¬ nI e = 0 := nI_ne0 (by unfold eok at h; omega) (by unfold eok at h; omega)
/-- the class's step behind a whole term -/
def XC (j : Mem → Option (Except Nat Nat × Mem)) (μ : Mem) : Option (Except Nat Nat × Mem) :=
  gd (inb (μ 14 0 5) 7) <|
    if (μ 16 0 ((μ 14 0 5)).toNatClampNeg) = (-1 : Int32) then
    (j μ)
    else
    gd (inb (μ 14 0 5) 7) <|
    bB (f_X0_workOnTwo (μ 16 0 ((μ 14 0 5)).toNatClampNeg) μ) (fun e_16 μ_15 => some (.error e_16, μ_15)) fun u_14 μ_15 =>
    gd (inb (μ_15 14 0 5) 7) <|
    lt (sto μ_15 16 0 ((μ_15 14 0 5)).toNatClampNeg (-1 : Int32)) fun μ_17 =>
    j μ_17
theorem m1_ne {a : Nat} (h : a < 2 ^ 31) : ¬ nI a = -1 := by
  intro q
  have h1 := nI_pos' h
  rw [q] at h1
  exact absurd h1 (by decide)
theorem bz : vp_nar .boolean 0 = 0 := by decide
theorem b1 : vp_nar .boolean 1 = 1 := by decide
theorem arrive_step {I : Nat → Itm} {n nc lev : Nat} {N : Nat → Int32} {μC0 μM0 μC μM : Mem} {A : Arr} (hSI : SI I n nc N μC0 μM0) (hl : lev ≤ 6) (h : EVA I n μC0 μM0 lev A μC μM) (j : Mem → Option (Except Nat Nat × Mem)) :
    (∃ μC' μM', XC j μC = j μC' ∧ f_X8_arrive (nI lev) μM = some ((), μM') ∧ EVs I n μC0 μM0 lev true μC' μM') ∨ ∃ e μC' μM', XC j μC = some (.error e, μC') ∧ f_X8_arrive (nI lev) μM = some ((), μM') ∧ ER μC0 μM0 e μC' μM' := by
  obtain ⟨p, q, v, wt, hPM, hCB, h5, hEb, hEg, hwv, hGA, hWA, hSA⟩ := h
  obtain ⟨hE1, hE2, hE3⟩ := hEb
  obtain ⟨g1, g2, g3, g4⟩ := hEg
  have hcl := cnt_le v lev
  have hn := hSI.1
  unfold XC f_X8_arrive
  rw [h5, ig_t (show lev < 7 by omega) (by omega), nI_clamp (by omega), ig_t (show lev < 8 by omega) (by omega)]
  cases hw : wt lev with
  | zero =>
    obtain ⟨e1, e2⟩ := (hE1 lev (Nat.le_refl _)).1 hw
    have hv := hwv hw
    have hc1 : cnt v (lev + 1) = cnt v lev := by simp [cnt, hv]
    left
    obtain ⟨μM', c1, c2, c3⟩ := mcopy_A (a := 7) (b := lev) (by omega) (by omega) (by omega) hWA hSA
    rw [e1, if_pos rfl, e2, if_pos rfl, il7, c1, bW_s]
    refine ⟨μC, μM', rfl, rfl, p, q, (fun e => if e = lev then true else v e), wt, hPM, ?_, h5, ⟨fun e he => ⟨fun q => ?_, fun jj q => ?_⟩, fun e he hve => ?_, fun e he q => ?_⟩, ⟨g1, g2.trans (c2.fe (by omega)), ?_, ?_⟩, fun _ => ⟨by simp, hw⟩, fun q => by cases q⟩
    · have : cnt (fun e => if e = lev then true else v e) (lev + 1) = cnt v (lev + 1) + 1 := by
        simp only [cnt, hv]
        rw [cnt_congr (v' := v) (fun e he => by simp; omega)]
        simp
      rw [this]; exact hCB
    · have := (hE1 e he).1 q
      rw [c2 40 0 e (by omega)]; exact this
    · have := (hE1 e he).2 jj q
      rw [c2 40 0 e (by omega), c2 41 0 e (by omega)]
      refine ⟨this.1, this.2.1, this.2.2.1, this.2.2.2.1, this.2.2.2.2.1, ?_⟩
      by_cases c : e = lev
      · simp [c]
      · simp [c, this.2.2.2.2.2]
    · have hcn : cnt (fun e => if e = lev then true else v e) e = cnt v e := cnt_congr (fun e' he' => by simp; omega)
      rw [hcn]
      by_cases c : e = lev
      · rw [c]
        refine ⟨A, hWA, ?_, c3⟩
        rw [← hc1]; exact hGA
      · simp only [if_neg c] at hve
        obtain ⟨B, b1, b2, b3⟩ := hE2 e he hve
        exact ⟨B, b1, b2, c2.sa (by omega) b1 b3⟩
    · simp only [if_neg (show ¬ e = lev by omega)]
      exact hE3 e he q
    · rw [c2 30 0 16 (by omega)]; exact g3
    · rw [c2 30 0 18 (by omega)]; exact g4
  | succ j0 =>
    obtain ⟨e1, e2, e3, e4, e5, e6⟩ := (hE1 lev (Nat.le_refl _)).2 j0 hw
    have hc1 : cnt v (lev + 1) = cnt v lev + 1 := by simp [cnt, e6]
    rw [hc1] at hCB hGA
    obtain ⟨B, hWB, hGB, hSB⟩ := hE2 lev (Nat.le_refl _) e6
    have hSI' := hSI.keep g1 g2
    obtain ⟨i1, i2, i3⟩ := hSI'.2.2.1 j0 e4
    unfold CIt at i1
    unfold okI at i3
    rw [e5] at i1 i3
    have hWP := workOnTwo_eq (f := (I j0).2.1) (k := j0) (h := cnt v lev) i3 (by omega) (by omega) hPM hCB i1.2.1 i1.2.2.1 i1.2.2.2 hGA hWA hGB hWB
    obtain ⟨r, μ15, w1, w2, w3, w4⟩ := hWP
    have hne : ¬ μM 40 0 lev = 0 := by rw [e2]; decide
    rw [e1, if_neg (m1_ne (by omega)), w1, if_neg hne, ig_t (show lev < 7 by omega) (by omega), ig_t (show lev < 8 by omega) (by omega), bz]
    simp only [lt]
    -- the reference's side
    have s0 : SA (sto μM 40 0 lev 0) 7 A := ⟨by rw [sto_k (by omega)]; exact hSA.1, fun k hk => by rw [sto_k (by omega)]; exact hSA.2.1 k hk, fun k hk => by rw [sto_k (by omega)]; exact hSA.2.2 k hk⟩
    obtain ⟨μ3, c1, c2, c3⟩ := mcopy_A (a := 7) (b := 18) (by omega) (by omega) (by omega) hWA s0
    have s1 : SA (sto μM 40 0 lev 0) lev B := ⟨by rw [sto_k (by omega)]; exact hSB.1, fun k hk => by rw [sto_k (by omega)]; exact hSB.2.1 k hk, fun k hk => by rw [sto_k (by omega)]; exact hSB.2.2 k hk⟩
    have s2 := c2.sa (by omega) hWB s1
    obtain ⟨μ5, d1, d2, d3⟩ := mcopy_A (a := lev) (b := 19) (by omega) (by omega) (by omega) hWB s2
    have s3 := d2.sa (by omega) hWA c3
    have f5 : μ5 30 0 16 = 0 := by rw [d2 30 0 16 (by omega), c2 30 0 16 (by omega), sto_k (by omega)]; exact g3
    have f6 : μ5 41 0 lev = nI (I j0).2.1 := by rw [d2 41 0 lev (by omega), c2 41 0 lev (by omega), sto_k (by omega)]; exact e3
    have fr5 : FEm μM μ5 := fun k i jj hk => by rw [d2 k i jj (by omega), c2 k i jj (by omega), sto_k (by omega)]
    have f8 : μ5 30 0 18 = μM 30 0 18 := by rw [d2 30 0 18 (by omega), c2 30 0 18 (by omega), sto_k (by omega)]
    obtain ⟨b, μ7, m1, m2, m3⟩ := pair_M i3 hWA s3 hWB d3 f5
    rw [il7, il18, il19, c1, bW_s, d1, bW_s, ig_t (show lev < 8 by omega) (by omega), f6, m1, bW_s]
    have hph := hPM.1 (cnt v lev) (by omega)
    have hFE : FE μC μ15 := fun k i hk => w2 k i (by have := hPM.2.2; omega)
    cases hS : sp2 (I j0).2.1 A B with
    | error e =>
      rw [hS] at w4 m3
      dsimp only at w4 m3
      obtain ⟨rfl, ⟨h', w5⟩, w6⟩ := w4
      right
      rw [m3.1, if_pos rfl, bB_e]
      exact ⟨e, μ15, μ7, rfl, rfl, sp2_e hS, g1.trans hFE, g2.trans (fr5.trans m2.fe), m3.2, by rw [w6, m2 30 0 18 (by omega), f8]; exact g4, p, q, h', hPM, w5⟩
    | ok C =>
      rw [hS] at w4 m3
      dsimp only at w4 m3
      obtain ⟨rfl, w5, w6, w7⟩ := w4
      obtain ⟨rfl, m4, m5⟩ := m3
      have hWC := sp2_W hWA hWB hS
      obtain ⟨μ9, n1, n2, n3⟩ := mcopy_A (a := 8) (b := lev) (by omega) (by omega) (by omega) hWC m5
      left
      have w3' : μ15 14 0 5 = nI lev := w3.trans h5
      rw [if_neg (show ¬ (1 : Int32) = 0 by decide), il8, n1, bW_s, bB_o, w3', ig_t (show lev < 7 by omega) (by omega), nI_clamp (by omega)]
      have hcn : ∀ e, e ≤ lev → v e = true → e ≠ lev → pu p (cnt v lev) q (cnt v e) = p (cnt v e) := fun e he hve hne => by
        have := cnt_lt (v := v) (show e < lev by omega) hve
        unfold pu; rw [if_neg (by omega)]
      refine ⟨sto μ15 16 0 lev (-1), sto μ9 30 0 18 (μ9 30 0 18 + 1), rfl, rfl, pu p (cnt v lev) q, p (cnt v lev), v, (fun e => if e = lev then 0 else wt e), PM_pu hPM (by omega), ?_, ?_, ⟨fun e he => ⟨fun qq => ?_, fun jj qq => ?_⟩, fun e he hve => ?_, fun e he qq => ?_⟩, ⟨?_, ?_, ?_, ?_⟩, fun _ => ⟨e6, by simp⟩, fun qq => by cases qq⟩
      · rw [hc1]
        exact ⟨by rw [sto_k (by omega)]; exact w5.1, by rw [sto_k (by omega)]; exact w5.2.1, fun jj hjj => by rw [sto_k (by omega)]; exact w5.2.2 jj hjj⟩
      · rw [sto_k (by omega)]; exact w3'
      · by_cases c : e = lev
        · rw [c, sto_e, sto_k (by omega), n2 40 0 lev (by omega), m2 40 0 lev (by omega), d2 40 0 lev (by omega), c2 40 0 lev (by omega), sto_e]
          exact ⟨rfl, rfl⟩
        · simp only [if_neg c] at qq
          rw [sto_j c, sto_k (by omega), n2 40 0 e (by omega), m2 40 0 e (by omega), d2 40 0 e (by omega), c2 40 0 e (by omega), sto_j c, w2 16 0 (by omega)]
          exact (hE1 e he).1 qq
      · by_cases c : e = lev
        · simp only [if_pos c] at qq; cases qq
        · simp only [if_neg c] at qq
          rw [sto_j c, sto_k (by omega), n2 40 0 e (by omega), m2 40 0 e (by omega), d2 40 0 e (by omega), c2 40 0 e (by omega), sto_j c, w2 16 0 (by omega)]
          rw [sto_k (by omega), n2 41 0 e (by omega), m2 41 0 e (by omega), d2 41 0 e (by omega), c2 41 0 e (by omega), sto_k (by omega)]
          exact (hE1 e he).2 jj qq
      · by_cases c : e = lev
        · subst c
          refine ⟨C, hWC, ?_, ?_⟩
          · unfold pu; rw [if_pos rfl]
            refine ⟨by rw [sto_k (by omega)]; exact w6.1, by rw [sto_k (by omega)]; exact w6.2.1, fun k hk => by rw [sto_k (by omega)]; exact w6.2.2.1 k hk, fun k hk => by rw [sto_k (by omega)]; exact w6.2.2.2 k hk⟩
          · exact ⟨by rw [sto_k (by omega)]; exact n3.1, fun k hk => by rw [sto_k (by omega)]; exact n3.2.1 k hk, fun k hk => by rw [sto_k (by omega)]; exact n3.2.2 k hk⟩
        · obtain ⟨D, b1, b2, b3⟩ := hE2 e he hve
          refine ⟨D, b1, ?_, ?_⟩
          · rw [hcn e he hve c]
            have hq : p (cnt v e) ≠ q := (hPM.1 (cnt v e) (by have := cnt_le v e; omega)).2.2
            exact ⟨by rw [sto_k (by omega), w2 20 _ (by omega)]; exact b2.1, by rw [sto_k (by omega), w2 20 _ (by omega)]; exact b2.2.1, fun k hk => by rw [sto_k (by omega), w2 21 _ (by omega)]; exact b2.2.2.1 k hk, fun k hk => by rw [sto_k (by omega), w2 22 _ (by omega)]; exact b2.2.2.2 k hk⟩
          · have t0 : SA (sto μM 40 0 lev 0) e D := ⟨by rw [sto_k (by omega)]; exact b3.1, fun k hk => by rw [sto_k (by omega)]; exact b3.2.1 k hk, fun k hk => by rw [sto_k (by omega)]; exact b3.2.2 k hk⟩
            have t1 := n2.sa (by omega) b1 (m2.sa (by omega) b1 (d2.sa (by omega) b1 (c2.sa (by omega) b1 t0)))
            exact ⟨by rw [sto_k (by omega)]; exact t1.1, fun k hk => by rw [sto_k (by omega)]; exact t1.2.1 k hk, fun k hk => by rw [sto_k (by omega)]; exact t1.2.2 k hk⟩
      · simp only [if_neg (show ¬ e = lev by omega)] at qq
        exact hE3 e he qq
      · exact g1.trans (fun k i hk => by rw [sto_k (by omega)]; exact hFE k i hk)
      · refine g2.trans (fun k i jj hk => ?_)
        rw [sto_nj (by omega), n2 k i jj (by omega), m2 k i jj (by omega)]
        exact fr5 k i jj hk
      · rw [sto_j (by omega), n2 30 0 16 (by omega)]; exact m4
      · rw [sto_k (by omega), sto_e, w7, n2 30 0 18 (by omega), m2 30 0 18 (by omega), f8, g4]
