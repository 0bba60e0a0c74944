/-! ===== both sides between the calls ===== -/
def Inv (μC μM : Mem) : Prop := (∃ t tn, okT t tn ∧ TXC t tn μC ∧ TXM t tn μM) ∧ (∃ A, WA A ∧ GA μC 17 A ∧ SA μM 17 A) ∧ NR μC μM ∧ (∃ p q h, PM p q ∧ CB μC p q h) ∧ μC 14 0 6 = μM 30 0 18
theorem GAk {μ μ' : Mem} {g : Nat} {A : Arr} (h : ∀ k, 20 ≤ k ∧ k ≤ 22 → μ' k g = μ k g) (hA : GA μ g A) : GA μ' g A := by
  refine ⟨?_, ?_, fun k hk => ?_, fun k hk => ?_⟩
  · rw [h 20 (by omega)]; exact hA.1
  · rw [h 20 (by omega)]; exact hA.2.1
  · rw [h 21 (by omega)]; exact hA.2.2.1 k hk
  · rw [h 22 (by omega)]; exact hA.2.2.2 k hk
theorem SAk {μ μ' : Mem} {s : Nat} {A : Arr} (h1 : μ' 32 0 s = μ 32 0 s) (h2 : ∀ k, k < 3 → μ' 33 0 (3 * s + k) = μ 33 0 (3 * s + k)) (h3 : ∀ k, k < 48 → μ' 34 0 (48 * s + k) = μ 34 0 (48 * s + k)) (hW : WA A) (hA : SA μ s A) : SA μ' s A := by
  have w1 := hW.1
  have w2 := hW.2.2
  refine ⟨?_, fun k hk => ?_, fun k hk => ?_⟩
  · rw [h1]; exact hA.1
  · rw [h2 k (by omega)]; exact hA.2.1 k hk
  · rw [h3 k (by omega)]; exact hA.2.2 k hk
theorem CBk {μ μ' : Mem} {p : Nat → Nat} {q h : Nat} (h1 : μ' 14 0 = μ 14 0) (h2 : μ' 15 0 = μ 15 0) (hc : CB μ p q h) : CB μ' p q h := ⟨by rw [h1]; exact hc.1, by rw [h1]; exact hc.2.1, fun j hj => by rw [h2]; exact hc.2.2 j hj⟩
/-- what a call that only looks, or reading, leaves -/
def FQm (μ μ' : Mem) : Prop := ∀ k i j, k ≠ 35 ∧ k ≠ 36 ∧ k ≠ 37 ∧ k ≠ 38 ∧ (k ≠ 30 ∨ (j ≠ 9 ∧ j ≠ 10 ∧ j ≠ 11 ∧ j ≠ 17)) → μ' k i j = μ k i j
theorem FQm.of {μ μ' : Mem} {x : Int32} (h : FPm (sto μ 30 0 17 x) μ') : FQm μ μ' := fun k i j hk => by
  rw [h k i j (by omega), sto_nj (by omega)]
theorem FQm.th {μ : Mem} {x : Int32} : FQm μ (sto μ 30 0 17 x) := fun k i j hk => by rw [sto_nj (by omega)]
theorem NR.keep2 {μC μM μC' μM' : Mem} (h : NR μC μM) (hC : FPc μC μC') (hM : FQm μM μM') : NR μC' μM' := by
  intro a ha
  rcases h a ha with ⟨h1, h2⟩ | ⟨h1, A, h2, h3, h4⟩
  · left
    rw [hC 13 0 (by omega), hM 32 0 (9 + a) (by omega)]
    exact ⟨h1, h2⟩
  · right
    rw [hC 13 0 (by omega)]
    exact ⟨h1, A, h2, GAk (fun k hk => hC k a (by omega)) h3, SAk (hM 32 0 _ (by omega)) (fun k _ => hM 33 0 _ (by omega)) (fun k _ => hM 34 0 _ (by omega)) h2 h4⟩
theorem TXM.keep2 {t : Nat → Nat} {tn : Nat} {μ μ' : Mem} (h : FQm μ μ') (hT : TXM t tn μ) : TXM t tn μ' := ⟨by rw [h 30 0 1 (by omega)]; exact hT.1, fun j hj => by rw [h 31 0 j (by omega)]; exact hT.2 j hj⟩
theorem Inv.keep {μC μM μC' μM' : Mem} (h : Inv μC μM) (hC : FPc μC μC') (hM : FQm μM μM') : Inv μC' μM' := by
  obtain ⟨⟨t, tn, hT, hTC, hTM⟩, ⟨A, hA, hG, hS⟩, hN, ⟨p, q, hh, hp, hB⟩, hD⟩ := h
  refine ⟨⟨t, tn, hT, hC.tx hTC, hTM.keep2 hM⟩, ⟨A, hA, GAk (fun k hk => hC k 17 (by omega)) hG, SAk (hM 32 0 _ (by omega)) (fun k _ => hM 33 0 _ (by omega)) (fun k _ => hM 34 0 _ (by omega)) hA hS⟩, hN.keep2 hC hM, ⟨p, q, hh, hp, CBk (hC 14 0 (by omega)) (hC 15 0 (by omega)) hB⟩, ?_⟩
  rw [hC 14 0 (by omega), hM 30 0 18 (by omega)]
  exact hD
theorem FPc.refl {μ : Mem} : FPc μ μ := fun _ _ _ => rfl
theorem Inv.th {μC μM : Mem} {x : Int32} (h : Inv μC μM) : Inv μC (sto μM 30 0 17 x) := h.keep FPc.refl FQm.th
theorem nar1 : vp_nar .boolean (1 : Int32) = 1 := by decide
theorem nar0 : vp_nar .boolean (0 : Int32) = 0 := by decide
/-- the array of name j is put, in the class -/
theorem put_eq {j g : Nat} {μ : Mem} {A : Arr} (hj : j < 8) (hg : g ≠ j) (hA : GA μ g A) (hW : WA A) : ∃ μ', f_X2_put (nI j) g μ = some (.ok (), μ') ∧ (∀ k i, k ≠ 13 ∧ k ≠ 17 ∧ (k < 20 ∨ 22 < k ∨ i ≠ j) → μ' k i = μ k i) ∧ (∀ a, a ≠ j → μ' 13 0 a = μ 13 0 a) ∧ μ' 13 0 j = 1 ∧ GA μ' j A := by
  obtain ⟨μ1, h1, h2, h3⟩ := gcopy_eq (o := j) hg hA hW
  unfold f_X2_put
  simp only [ig_t hj (show 8 < 2 ^ 31 by omega), nI_clamp (show j < 2 ^ 31 by omega), lt, gd_d (show j < 18 by omega), h1, bB_o, nar1]
  refine ⟨_, rfl, fun k i hk => ?_, fun a ha => ?_, sto_e, GAk (fun k hk => ?_) h3⟩
  · rw [sto_k (by omega)]; exact h2 k i (by omega)
  · rw [sto_j ha, h2 13 0 (by omega)]
  · rw [sto_k (by omega)]
theorem run_eq {μC μM : Mem} (h : Inv μC μM) : ∃ r μC' v μM', f_X7_run μC = some (r, μC') ∧ f_X8_run μM = some (v, μM') ∧ Inv μC' μM' ∧ ((r = .ok v ∧ μM' 30 0 17 = 0) ∨ ∃ e, eok e ∧ r = .error e ∧ μM' 30 0 17 = nI e) := by
  have hI := h
  obtain ⟨⟨t, tn, hT, hTC, hTM⟩, ⟨A, hA, hG, hS⟩, hN, ⟨p, q, hh, hp, hB⟩, hD⟩ := h
  have i10 : ¬ (1 : Int32) = 0 := by decide
  obtain ⟨tg, μM5, x1, x2, b, μC2, μM7, y1, y2, y3, y4, y5⟩ := read_eq hT hTC (hTM.keep2 (FQm.th (x := 0)))
  have hQ := FQm.of y4
  have hI2 := hI.keep y3 hQ
  have t17 : μM7 30 0 17 = 0 := by rw [y4 30 0 17 (by omega), sto_e]
  unfold f_X7_run f_X8_run
  simp only [lt]
  rw [y1, bW_s, x1, bW_s, y2, bW_s]
  rcases y5 with hb | ⟨hb, htg, I, N, k, nc, d, w, hSI, hG2, hd, hw0, hd0, hwk, hdk, h8, h9⟩
  · rw [hb, if_pos rfl, if_pos rfl]
    exact ⟨_, _, _, _, rfl, rfl, hI2, Or.inl ⟨rfl, t17⟩⟩
  · rw [hb, if_neg i10, if_neg i10]
    obtain ⟨⟨t2, tn2, hT2, hTC2, hTM2⟩, ⟨A2, hA2, hG22, hS2⟩, hN2, hB2, hD2⟩ := hI2
    obtain ⟨r, μC4, μM9, e1, e2, f1, f2, hD4, ⟨p4, q4, h4, hp4, hB4⟩, hcase⟩ := evaluate_eq hSI hN2 hG2 hd hw0 hd0 hwk hdk hB2 h8 h9
    rw [e1, e2, bW_s]
    have hTC4 : TXC t2 tn2 μC4 := ⟨by rw [f1 2 0 (by omega)]; exact hTC2.1, fun j hj => by rw [f1 3 0 (by omega)]; exact hTC2.2 j hj⟩
    have hTM9 : TXM t2 tn2 μM9 := ⟨by rw [f2 30 0 1 (by omega)]; exact hTM2.1, fun j hj => by rw [f2 31 0 j (by omega)]; exact hTM2.2 j hj⟩
    have hN4 := hN2.keep f1 f2
    rcases hcase with ⟨g, A', hr, g8, g17, h16, hW', hG', hS'⟩ | ⟨e, hr, he, h16⟩
    · subst hr
      obtain ⟨μC7, c1, c2, c3⟩ := gcopy_eq (o := 17) (show g ≠ 17 by omega) hG' hW'
      have hS10 : SA (sto μM9 30 0 17 (μM9 30 0 16)) 0 A' := SAk (by rw [sto_k (by omega)]) (fun k _ => by rw [sto_k (by omega)]) (fun k _ => by rw [sto_k (by omega)]) hW' hS'
      generalize hμ10 : sto μM9 30 0 17 (μM9 30 0 16) = μ10 at *
      have k10 : ∀ k i j, k ≠ 30 ∨ j ≠ 17 → μ10 k i j = μM9 k i j := fun k i j hk => by rw [← hμ10, sto_nj (by omega)]
      have t10 : μ10 30 0 17 = 0 := by rw [← hμ10, sto_e]; exact h16
      obtain ⟨μM12, d1, d2, d3⟩ := mcopy_A (a := 0) (b := 17) (by omega) (by omega) (by omega) hW' hS10
      rw [bB_o, gd_d (show g < 18 by omega), c1, bB_o]
      rw [k10 30 0 16 (by omega), h16, if_pos (show (0 : Int32) ≤ 0 by decide)]
      rw [show (f_X8_copy 0 17 : Mem → _) = f_X8_copy (nI 0) (nI 17) from rfl, d1, bW_s]
      have tg7 : μC7 1 0 10 = tg := by rw [c2 1 0 (by omega), f1 1 0 (by omega)]; exact htg
      have tM12 : μM12 30 0 17 = 0 := by rw [d2 30 0 17 (by omega)]; exact t10
      have hTC7 : TXC t2 tn2 μC7 := ⟨by rw [c2 2 0 (by omega)]; exact hTC4.1, fun j hj => by rw [c2 3 0 (by omega)]; exact hTC4.2 j hj⟩
      have hTM12 : TXM t2 tn2 μM12 := ⟨by rw [d2 30 0 1 (by omega), k10 30 0 1 (by omega)]; exact hTM9.1, fun j hj => by rw [d2 31 0 j (by omega), k10 31 0 j (by omega)]; exact hTM9.2 j hj⟩
      have hN7 : NR μC7 μM12 := by
        intro a ha
        rcases hN4 a ha with ⟨z1, z2⟩ | ⟨z1, B, z2, z3, z4⟩
        · left
          rw [c2 13 0 (by omega), d2 32 0 (9 + a) (by omega), k10 32 0 (9 + a) (by omega)]
          exact ⟨z1, z2⟩
        · right
          rw [c2 13 0 (by omega)]
          exact ⟨z1, B, z2, GAk (fun k hk => c2 k a (by omega)) z3, SAk (by rw [d2 32 0 (9 + a) (by omega), k10 32 0 (9 + a) (by omega)]) (fun k _ => by rw [d2 33 0 _ (by omega), k10 33 0 _ (by omega)]) (fun k _ => by rw [d2 34 0 _ (by omega), k10 34 0 _ (by omega)]) z2 z4⟩
      have hB7 : CB μC7 p4 q4 h4 := CBk (c2 14 0 (by omega)) (c2 15 0 (by omega)) hB4
      have hD7 : μC7 14 0 6 = μM12 30 0 18 := by rw [c2 14 0 (by omega), d2 30 0 18 (by omega), k10 30 0 18 (by omega)]; exact hD4
      have z3 : μC7 20 17 3 = nI (sz A') := c3.2.1
      simp only [jn]
      rw [tg7]
      rcases x2 with rfl | ⟨j, hj, rfl⟩
      · rw [if_pos rfl, if_pos (show (-1 : Int32) < 0 by decide)]
        rw [show (f_X8_sizeOf 17 : Mem → _) = f_X8_sizeOf (nI 17) from rfl, sizeOf_eq (by omega) hW' d3, bP_s, z3]
        exact ⟨_, _, _, _, rfl, rfl, ⟨⟨t2, tn2, hT2, hTC7, hTM12⟩, ⟨A', hW', c3, d3⟩, hN7, ⟨p4, q4, h4, hp4, hB7⟩, hD7⟩, Or.inl ⟨rfl, tM12⟩⟩
      · have hG7 : GA μC7 g A' := GAk (fun k hk => c2 k g (by omega)) hG'
        obtain ⟨μC12, u1, u2, u3, u4, u5⟩ := put_eq hj (show g ≠ j by omega) hG7 hW'
        have hS12 : SA μM12 0 A' := SAk (d2 32 0 0 (by omega)) (fun k _ => d2 33 0 _ (by omega)) (fun k _ => d2 34 0 _ (by omega)) hW' hS10
        obtain ⟨μM17, v1, v2, v3⟩ := mcopy_A (a := 0) (b := 9 + j) (by omega) (by omega) (by omega) hW' hS12
        have hne : ¬ nI j = -1 := by
          intro q
          have := nI_pos (show j < 2 ^ 31 by omega)
          rw [q] at this
          exact this (by decide)
        have hS17 : SA μM17 17 A' := SAk (v2 32 0 17 (by omega)) (fun k _ => v2 33 0 _ (by omega)) (fun k _ => v2 34 0 _ (by omega)) hW' d3
        have hG17 : GA μC12 17 A' := GAk (fun k hk => u2 k 17 (by omega)) c3
        rw [if_neg hne, if_neg (nI_pos (by omega)), u1, bB_o]
        rw [il9, nI_add, show (f_X8_copy 0 (nI (9 + j)) : Mem → _) = f_X8_copy (nI 0) (nI (9 + j)) from rfl, v1, bW_s]
        rw [show (f_X8_sizeOf 17 : Mem → _) = f_X8_sizeOf (nI 17) from rfl, sizeOf_eq (by omega) hW' hS17, bP_s, hG17.2.1]
        refine ⟨_, _, _, _, rfl, rfl, ⟨⟨t2, tn2, hT2, ⟨by rw [u2 2 0 (by omega)]; exact hTC7.1, fun i hi => by rw [u2 3 0 (by omega)]; exact hTC7.2 i hi⟩, ⟨by rw [v2 30 0 1 (by omega)]; exact hTM12.1, fun i hi => by rw [v2 31 0 i (by omega)]; exact hTM12.2 i hi⟩⟩, ⟨A', hW', hG17, hS17⟩, ?_, ⟨p4, q4, h4, hp4, CBk (u2 14 0 (by omega)) (u2 15 0 (by omega)) hB7⟩, by rw [u2 14 0 (by omega), v2 30 0 18 (by omega)]; exact hD7⟩, Or.inl ⟨rfl, by rw [v2 30 0 17 (by omega)]; exact tM12⟩⟩
        intro a ha
        by_cases ca : a = j
        · right
          subst ca
          exact ⟨u4, A', hW', u5, v3⟩
        · rcases hN7 a ha with ⟨z1, z2⟩ | ⟨z1, B, z2, z3, z4⟩
          · left
            rw [u3 a ca, v2 32 0 (9 + a) (by omega)]
            exact ⟨z1, z2⟩
          · right
            rw [u3 a ca]
            exact ⟨z1, B, z2, GAk (fun k hk => u2 k a (by omega)) z3, SAk (v2 32 0 _ (by omega)) (fun k _ => v2 33 0 _ (by omega)) (fun k _ => v2 34 0 _ (by omega)) z2 z4⟩
    · subst hr
      have he' : 1 ≤ e ∧ e ≤ 6 := he
      generalize hμ10 : sto μM9 30 0 17 (μM9 30 0 16) = μ10
      have k10 : ∀ k i j, k ≠ 30 ∨ j ≠ 17 → μ10 k i j = μM9 k i j := fun k i j hk => by rw [← hμ10, sto_nj (by omega)]
      have t10 : μ10 30 0 17 = nI e := by rw [← hμ10, sto_e]; exact h16
      rw [bB_e, k10 30 0 16 (by omega), h16, if_neg (nI_nle (by omega) (by omega))]
      refine ⟨_, _, _, _, rfl, rfl, ⟨⟨t2, tn2, hT2, hTC4, ⟨by rw [k10 30 0 1 (by omega)]; exact hTM9.1, fun i hi => by rw [k10 31 0 i (by omega)]; exact hTM9.2 i hi⟩⟩, ⟨A2, hA2, f1.ga (by omega) hG22, ?_⟩, ?_, ⟨p4, q4, h4, hp4, hB4⟩, by rw [k10 30 0 18 (by omega)]; exact hD4⟩, Or.inr ⟨e, he, rfl, t10⟩⟩
      · exact SAk (k10 32 0 _ (by omega)) (fun k _ => k10 33 0 _ (by omega)) (fun k _ => k10 34 0 _ (by omega)) hA2 (f2.sa (by omega) hA2 hS2)
      · intro a ha
        rcases hN4 a ha with ⟨z1, z2⟩ | ⟨z1, B, z2, z3, z4⟩
        · left
          rw [k10 32 0 (9 + a) (by omega)]
          exact ⟨z1, z2⟩
        · right
          exact ⟨z1, B, z2, z3, SAk (k10 32 0 _ (by omega)) (fun k _ => k10 33 0 _ (by omega)) (fun k _ => k10 34 0 _ (by omega)) z2 z4⟩
