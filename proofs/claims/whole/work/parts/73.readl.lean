/-! ===== reading, to its end ===== -/
theorem read_end {t : Nat → Nat} {tn a a' k nc τ τ' n n' : Nat} {μC0 μM0 μC μM : Mem} {tg : Int32} {I : Nat → Itm} {N : Nat → Int32} {d : Nat → Nat} {w : Nat → Bool} (h : okT t tn) (hTC : TXC t tn μC0) (hTM : TXM t tn μM0) (hR : RD t tn μC0 μM0 tg I N a a' k nc d w μC μM) (ha : a = tn) (hτ' : τ' ≤ 200) : RO μC0 μM0 tg (f_X5_read_L31 kC (n + 1) (nI τ) μC) (f_X8_read_L6 kM (n' + 1) (nI (d k)) (bI (w k)) (nI τ') μM) := by
  have h1 := h.1
  obtain ⟨⟨hC, hM, q3, q4, q5, q6, q7, q8⟩, r1, r2, r3, r4⟩ := hR
  have hTν := hC.1.tx hTC
  have hTμ := hM.1.tx hTM
  have hc0 : cd t tn a = 0 := (cd_0 h).mpr (by omega)
  have hdk := r2 k (Nat.le_refl _)
  have eC : f_X5_read_L31 kC (n + 1) (nI τ) μC = kC μC := by
    simp only [f_X5_read_L31, hTν.1, hC.2.1, nle_t (show tn ≤ a by omega) (show a < 2 ^ 31 by omega), if_true, ite_self]
  have eM : f_X8_read_L6 kM (n' + 1) (nI (d k)) (bI (w k)) (nI τ') μM = (if bI (w k) = 0 then (if nI (d k) = 0 then some ((1 : Int32), sto μM 30 0 11 (nI a)) else some ((0 : Int32), sto μM 30 0 11 (nI a))) else some ((0 : Int32), sto μM 30 0 11 (nI a))) := by
    simp only [f_X8_read_L6, il201, nle_f (show τ' < 201 by omega) (show 201 < 2 ^ 31 by omega), if_false, ahead_eq h hTμ (show a' ≤ 1000 by omega) hM.2.1, q3, bW_s, hc0]
    rw [if_pos nI_0]
  have eK : kC μC = (if bI (w k) = 0 then (if nI (d k) = 0 then some ((1 : Int32), μC) else some ((0 : Int32), μC)) else some ((0 : Int32), μC)) := by
    unfold kC
    simp only [jn]
    rw [hC.2.2.2.2.2.1, hC.2.2.2.2.1]
    rfl
  have hM1 := MP_pos hM a
  rw [eC, eM, eK]
  cases hw : w k with
  | true =>
    rw [if_neg (show ¬ bI true = 0 by decide), if_neg (show ¬ bI true = 0 by decide)]
    exact ⟨0, _, _, rfl, rfl, hC.1, hM1.1, Or.inl rfl⟩
  | false =>
    rw [if_pos (show bI false = 0 from rfl), if_pos (show bI false = 0 from rfl)]
    by_cases c : d k = 0
    · rw [c, if_pos nI_0, if_pos nI_0]
      refine ⟨1, _, _, rfl, rfl, hC.1, hM1.1, Or.inr ⟨rfl, hC.2.2.2.2.2.2.1, I, N, k, nc, d, w, ⟨by omega, by unfold NB at q7; omega, fun j hj => ⟨hC.2.2.2.2.2.2.2.1 j hj, hM1.2.2.2.2.1 j hj, q8 j hj⟩, fun j hj => ⟨hC.2.2.2.2.2.2.2.2 j hj, hM1.2.2.2.2.2 j hj⟩⟩, r1, r2, r3, r4, hw, c, hC.2.2.1, hM1.2.2.1⟩⟩
    · rw [if_neg (nI_ne0 (show 0 < d k by omega) (show d k < 2 ^ 31 by omega)), if_neg (nI_ne0 (show 0 < d k by omega) (show d k < 2 ^ 31 by omega))]
      exact ⟨0, _, _, rfl, rfl, hC.1, hM1.1, Or.inl rfl⟩
theorem read_loop {t : Nat → Nat} {tn : Nat} {μC0 μM0 : Mem} {tg : Int32} (h : okT t tn) (hTC : TXC t tn μC0) (hTM : TXM t tn μM0) : ∀ (r a a' k nc : Nat) (I : Nat → Itm) (N : Nat → Int32) (d : Nat → Nat) (w : Nat → Bool) (μC μM : Mem) (τ τ' n n' : Nat), tn - a ≤ r → RD t tn μC0 μM0 tg I N a a' k nc d w μC μM → τ ≤ a → τ' ≤ a → r < n → r < n' → RO μC0 μM0 tg (f_X5_read_L31 kC n (nI τ) μC) (f_X8_read_L6 kM n' (nI (d k)) (bI (w k)) (nI τ') μM) := by
  have h1 := h.1
  intro r
  induction r with
  | zero =>
    intro a a' k nc I N d w μC μM τ τ' n n' q1 hR q2 q3 q4 q5
    obtain ⟨n, rfl⟩ : ∃ q, n = q + 1 := ⟨n - 1, by omega⟩
    obtain ⟨n', rfl⟩ : ∃ q, n' = q + 1 := ⟨n' - 1, by omega⟩
    have hat := hR.1.2.2.2.2.1
    exact read_end h hTC hTM hR (by omega) (by omega)
  | succ r ih =>
    intro a a' k nc I N d w μC μM τ τ' n n' q1 hR q2 q3 q4 q5
    obtain ⟨n, rfl⟩ : ∃ q, n = q + 1 := ⟨n - 1, by omega⟩
    obtain ⟨n', rfl⟩ : ∃ q, n' = q + 1 := ⟨n' - 1, by omega⟩
    have hat := hR.1.2.2.2.2.1
    by_cases c : a = tn
    · exact read_end h hTC hTM hR c (by omega)
    · rcases read_step (n := n) (n' := n') h hTC hTM hR (by omega) q2 q3 with ⟨μC', μM', x1, x2, x3, x4⟩ | ⟨μC', μM', I', N', a2, a2', k', nc', d', w', x1, x2, x3, x4⟩
      · rw [x1, x2]
        exact ⟨0, μC', μM', rfl, rfl, x3, x4, Or.inl rfl⟩
      · rw [x1, x2]
        exact ih a2 a2' k' nc' I' N' d' w' μC' μM' (τ + 1) (τ' + 1) n n' (by omega) x4 (by omega) (by omega) (by omega) (by omega)
/-! a name and a : at the beginning -/
def isT (t : Nat → Nat) (tn a b : Nat) : Prop := (65 ≤ cd t tn a ∧ cd t tn a < 73) ∧ cd t tn b = 58
theorem s_le {t : Nat → Nat} {tn a b : Nat} (h : okT t tn) (ha : sk t tn 0 = a) (hb : sk t tn (a + 1) = b) : a ≤ tn ∧ b ≤ tn + 1 ∧ (isT t tn a b → b < tn) := by
  have h0 : a ≤ tn := by rw [← ha]; exact sk_le h (Nat.zero_le _)
  have h1 : b ≤ tn + 1 := by
    by_cases c : a + 1 ≤ tn
    · have := sk_le h c
      omega
    · have : sk t tn (a + 1) = a + 1 := sk_id (by rw [(cd_0 h).mpr (by omega)]; omega)
      omega
  refine ⟨h0, h1, fun q => ?_⟩
  have : ¬ cd t tn b = 0 := by rw [q.2]; omega
  rw [cd_0 h] at this
  omega
theorem target_C {t : Nat → Nat} {tn k nc a b : Nat} {μ0 μ : Mem} {I : Nat → Itm} {N : Nat → Int32} {dp wn tg : Int32} (h : okT t tn) (ha : sk t tn 0 = a) (hb : sk t tn (a + 1) = b) (hTC : TXC t tn μ0) (hC : CP μ0 μ I N 0 k nc dp wn tg) :
    (isT t tn a b ∧ ∃ μ', f_X5_readTarget μ = some ((), μ') ∧ CP μ0 μ' I N (sk t tn (b + 1)) k nc dp wn (nI (cd t tn a - 65))) ∨ (¬ isT t tn a b ∧ ∃ μ', f_X5_readTarget μ = some ((), μ') ∧ CP μ0 μ' I N a k nc dp wn (-1)) := by
  have h1 := h.1
  obtain ⟨b0, b1, b2⟩ := s_le h ha hb
  have hC1 := CP_tgt hC (-1)
  have hT1 := hC1.1.tx hTC
  have hC2 := CP_pos hC1 a
  have hT2 := hC2.1.tx hTC
  have hC3 := CP_pos hC1 (a + 1)
  have hT3 := hC3.1.tx hTC
  have hC4 := CP_pos hC1 b
  have hT4 := hC4.1.tx hTC
  have hc := cd_lt (a := a) h
  have hc' := cd_lt (a := b) h
  have i10 : ¬ (1 : Int32) = 0 := by decide
  unfold f_X5_readTarget
  simp only [lt]
  rw [skip_eq h hT1 (by omega) hC1.2.1, bW_s, ha, sto_e, codeAt_eq h hT2 (by omega), bP_s]
  simp only [sto_sto, ← nI_succ]
  rw [skip_eq h hT3 (by omega) sto_e, bW_s, hb, nameC_eq hc, bP_s]
  simp only [sto_e, sto_sto, jn]
  by_cases c1 : 65 ≤ cd t tn a ∧ cd t tn a < 73
  · rw [if_pos c1, if_neg i10, codeAt_eq h hT4 (by omega), bP_s]
    simp only [il58, neq_iff (show cd t tn b < 2 ^ 31 by omega) (show 58 < 2 ^ 31 by omega)]
    by_cases c2 : cd t tn b = 58
    · left
      refine ⟨⟨c1, c2⟩, ?_⟩
      have b3 := b2 ⟨c1, c2⟩
      rw [if_pos c2, il65, pk_sub (by omega)]
      have hC5 := CP_pos (CP_tgt hC4 (nI (cd t tn a - 65))) (b + 1)
      have hT5 := hC5.1.tx hTC
      simp only [sto_j (show (11 : Nat) ≠ 10 by omega), sto_e, ← nI_succ]
      rw [skip_eq h hT5 (by omega) sto_e, bW_s]
      exact ⟨_, rfl, CP_pos hC5 _⟩
    · right
      refine ⟨fun q => c2 q.2, ?_⟩
      rw [if_neg c2]
      exact ⟨_, rfl, hC2⟩
  · right
    refine ⟨fun q => c1 q.1, ?_⟩
    rw [if_neg c1, if_pos rfl]
    exact ⟨_, rfl, hC2⟩
theorem target_M {t : Nat → Nat} {tn x k nc a b : Nat} {μ0 μ : Mem} {I : Nat → Itm} {N : Nat → Int32} (h : okT t tn) (ha : sk t tn 0 = a) (hb : sk t tn (a + 1) = b) (hTM : TXM t tn μ0) (hM : MP μ0 μ I N x k nc) :
    (isT t tn a b → ∃ μ', f_X8_target μ = some (nI (cd t tn a - 65), μ') ∧ MP μ0 μ' I N (b + 1) k nc) ∧ (¬ isT t tn a b → ∃ μ' a', f_X8_target μ = some (-1, μ') ∧ MP μ0 μ' I N a' k nc ∧ sk t tn a' = a ∧ a' ≤ a) := by
  have h1 := h.1
  obtain ⟨b0, b1, b2⟩ := s_le h ha hb
  have hM0 := MP_pos hM 0
  have hT0 := hM0.1.tx hTM
  have hM1 := MP_pos hM a
  have hM2 := MP_pos hM (a + 1)
  have hT2 := hM2.1.tx hTM
  have hc := cd_lt (a := a) h
  have hc' := cd_lt (a := b) h
  have hss : sk t tn a = a := by rw [← ha]; exact sk_sk h
  unfold f_X8_target
  simp only [lt, il0]
  rw [ahead_eq h hT0 (by omega) sto_e, bW_s, ha]
  simp only [sto_e, sto_sto, ← nI_succ, il65, il72, nlt_iff (show cd t tn a < 2 ^ 31 by omega) (show 65 < 2 ^ 31 by omega), nle_iff (show cd t tn a < 2 ^ 31 by omega) (show 72 < 2 ^ 31 by omega)]
  by_cases c1 : cd t tn a < 65
  · simp only [if_pos c1]
    exact ⟨fun q => absurd q.1.1 (by omega), fun _ => ⟨_, _, rfl, hM1, hss, Nat.le_refl _⟩⟩
  · simp only [if_neg c1]
    by_cases c2 : cd t tn a ≤ 72
    · simp only [if_pos c2]
      rw [ahead_eq h hT2 (by omega) sto_e, bW_s, hb]
      simp only [sto_e, sto_sto, ← nI_succ, il58, neq_iff (show cd t tn b < 2 ^ 31 by omega) (show 58 < 2 ^ 31 by omega)]
      by_cases c3 : cd t tn b = 58
      · simp only [if_pos c3]
        rw [pk_sub (show 65 ≤ cd t tn a by omega)]
        exact ⟨fun _ => ⟨_, rfl, MP_pos hM (b + 1)⟩, fun q => absurd ⟨⟨by omega, by omega⟩, c3⟩ q⟩
      · simp only [if_neg c3]
        exact ⟨fun q => absurd q.2 c3, fun _ => ⟨_, _, rfl, hM0, ha, Nat.zero_le _⟩⟩
    · simp only [if_neg c2]
      exact ⟨fun q => absurd q.1.2 (by omega), fun _ => ⟨_, _, rfl, hM1, hss, Nat.le_refl _⟩⟩
/-- the whole text is read, both sides -/
theorem read_eq {t : Nat → Nat} {tn : Nat} {μC μM : Mem} (h : okT t tn) (hTC : TXC t tn μC) (hTM : TXM t tn μM) : ∃ tg μM5, f_X8_target (sto (sto μM 30 0 9 0) 30 0 10 0) = some (tg, μM5) ∧ (tg = -1 ∨ ∃ j, j < 8 ∧ tg = nI j) ∧ RO μC μM tg (f_X5_read μC) (f_X8_read μM5) := by
  have h1 := h.1
  obtain ⟨a, ha⟩ : ∃ a, sk t tn 0 = a := ⟨_, rfl⟩
  obtain ⟨b, hb⟩ : ∃ b, sk t tn (a + 1) = b := ⟨_, rfl⟩
  obtain ⟨b0, b1, b2⟩ := s_le h ha hb
  generalize hμ5 : sto (sto (sto (sto (sto μC 1 0 11 0) 1 0 8 0) 1 0 9 0) 1 0 12 0) 1 0 13 1 = μ5
  generalize hμ3 : sto (sto μM 30 0 9 0) 30 0 10 0 = μ3
  have e1 : f_X5_read μC = bW (f_X5_readTarget μ5) fun _ μ7 => f_X5_read_L31 kC 1000 (nI 0) μ7 := by
    rw [← hμ5]; rfl
  have hC0 : CP μC μ5 (fun _ => (0, 0, 0)) (fun _ => 0) 0 0 0 (nI 0) 1 (μC 1 0 10) := by
    rw [← hμ5]
    refine ⟨fun q i hq => ?_, ?_, ?_, ?_, ?_, sto_e, ?_, fun j hj => by omega, fun j hj => by omega⟩
    · rw [sto_k hq.1, sto_k hq.1, sto_k hq.1, sto_k hq.1, sto_k hq.1]
    · rw [sto_j (by omega), sto_j (by omega), sto_j (by omega), sto_j (by omega), sto_e]; exact nI_0.symm
    · rw [sto_j (by omega), sto_j (by omega), sto_j (by omega), sto_e]; exact nI_0.symm
    · rw [sto_j (by omega), sto_j (by omega), sto_e]; exact nI_0.symm
    · rw [sto_j (by omega), sto_e]; exact nI_0.symm
    · rw [sto_j (by omega), sto_j (by omega), sto_j (by omega), sto_j (by omega), sto_j (by omega)]
  have hM0 : MP μM (sto μ3 30 0 11 (nI 0)) (fun _ => (0, 0, 0)) (fun _ => 0) 0 0 0 := by
    rw [← hμ3]
    refine ⟨fun q i j hq => ?_, sto_e, ?_, ?_, fun j hj => by omega, fun j hj => by omega⟩
    · rw [sto_nj (by omega), sto_nj (by omega), sto_nj (by omega)]
    · rw [sto_j (by omega), sto_j (by omega), sto_e]; exact nI_0.symm
    · rw [sto_j (by omega), sto_e]; exact nI_0.symm
  have eM0 : f_X8_target μ3 = f_X8_target (sto μ3 30 0 11 (nI 0)) := by
    unfold f_X8_target
    simp only [lt, il0, sto_sto]
  obtain ⟨m1, m2⟩ := target_M h ha hb hTM hM0
  have fin : ∀ (tg : Int32) (a a' : Nat) (μC' μM' : Mem), CP μC μC' (fun _ => (0, 0, 0)) (fun _ => 0) a 0 0 (nI 0) 1 tg → MP μM μM' (fun _ => (0, 0, 0)) (fun _ => 0) a' 0 0 → sk t tn a' = a → a' ≤ a → a ≤ tn → RO μC μM tg (f_X5_read_L31 kC 1000 (nI 0) μC') (f_X8_read μM') := by
    intro tg a a' μC' μM' hC hM q1 q2 q3
    have := read_loop (tg := tg) h hTC hTM tn a a' 0 0 (fun _ => (0, 0, 0)) (fun _ => 0) (fun _ => 0) (fun _ => true) μC' μM' 0 0 1000 1000 (by omega) ⟨⟨hC, hM, q1, q2, q3, Nat.zero_le _, Or.inl (by omega), fun j hj => by omega⟩, fun j hj => by omega, fun j hj => Nat.zero_le _, rfl, rfl⟩ (Nat.zero_le _) (Nat.zero_le _) (by omega) (by omega)
    exact this
  rw [e1, eM0]
  rcases target_C h ha hb hTC hC0 with ⟨hT, μC', x1, x2⟩ | ⟨hT, μC', x1, x2⟩
  · obtain ⟨μM', y1, y2⟩ := m1 hT
    have b3 := b2 hT
    have hge := sk_ge (t := t) (tn := tn) (a := b + 1)
    have hq := hT.1
    refine ⟨_, μM', y1, Or.inr ⟨_, ?_, rfl⟩, ?_⟩
    · omega
    · rw [x1, bW_s]
      exact fin _ _ _ _ _ x2 y2 rfl hge (sk_le h (by omega))
  · obtain ⟨μM', a', y1, y2, y3, y4⟩ := m2 hT
    refine ⟨_, μM', y1, Or.inl rfl, ?_⟩
    rw [x1, bW_s]
    exact fin _ _ _ _ _ x2 y2 y3 y4 b0
