/-! ===== the state of reading, on both sides ===== -/
def FPc (μ μ' : Mem) : Prop := ∀ k i, k ≠ 1 ∧ (k < 4 ∨ 10 < k) → μ' k i = μ k i
def FPm (μ μ' : Mem) : Prop := ∀ k i j, k ≠ 35 ∧ k ≠ 36 ∧ k ≠ 37 ∧ k ≠ 38 ∧ (k ≠ 30 ∨ (j ≠ 9 ∧ j ≠ 10 ∧ j ≠ 11)) → μ' k i j = μ k i j
theorem FPc.trans {μ μ1 μ2 : Mem} (h : FPc μ μ1) (h' : FPc μ1 μ2) : FPc μ μ2 := fun k i hk => (h' k i hk).trans (h k i hk)
theorem FPm.trans {μ μ1 μ2 : Mem} (h : FPm μ μ1) (h' : FPm μ1 μ2) : FPm μ μ2 := fun k i j hk => (h' k i j hk).trans (h k i j hk)
theorem FPc.tx {t : Nat → Nat} {tn : Nat} {μ μ' : Mem} (h : FPc μ μ') (hT : TXC t tn μ) : TXC t tn μ' := ⟨by rw [h 2 0 (by omega)]; exact hT.1, fun j hj => by rw [h 3 0 (by omega)]; exact hT.2 j hj⟩
theorem FPm.tx {t : Nat → Nat} {tn : Nat} {μ μ' : Mem} (h : FPm μ μ') (hT : TXM t tn μ) : TXM t tn μ' := ⟨by rw [h 30 0 1 (by omega)]; exact hT.1, fun j hj => by rw [h 31 0 j (by omega)]; exact hT.2 j hj⟩
def CP (μ0 μ : Mem) (I : Nat → Itm) (N : Nat → Int32) (a k nc : Nat) (dp wn tg : Int32) : Prop := FPc μ0 μ ∧ μ 1 0 11 = nI a ∧ μ 1 0 8 = nI k ∧ μ 1 0 9 = nI nc ∧ μ 1 0 12 = dp ∧ μ 1 0 13 = wn ∧ μ 1 0 10 = tg ∧ (∀ j, j < k → CIt μ j (I j)) ∧ ∀ j, j < nc → μ 10 0 j = N j
def MP (μ0 μ : Mem) (I : Nat → Itm) (N : Nat → Int32) (a k nc : Nat) : Prop := FPm μ0 μ ∧ μ 30 0 11 = nI a ∧ μ 30 0 9 = nI k ∧ μ 30 0 10 = nI nc ∧ (∀ j, j < k → MIt μ j (I j)) ∧ ∀ j, j < nc → μ 38 0 j = N j
theorem CIt_at {μ μ' : Mem} {k : Nat} {i : Itm} (h : ∀ q, 4 ≤ q → q < 10 → μ' q 0 k = μ q 0 k) (hi : CIt μ k i) : CIt μ' k i := by
  unfold CIt at hi ⊢
  rw [h 4 (by omega) (by omega), h 5 (by omega) (by omega), h 6 (by omega) (by omega), h 7 (by omega) (by omega), h 8 (by omega) (by omega), h 9 (by omega) (by omega)]
  exact hi
theorem MIt_at {μ μ' : Mem} {k : Nat} {i : Itm} (h : ∀ q, 35 ≤ q → q < 38 → μ' q 0 k = μ q 0 k) (hi : MIt μ k i) : MIt μ' k i := by
  unfold MIt at hi ⊢
  rw [h 35 (by omega) (by omega), h 36 (by omega) (by omega), h 37 (by omega) (by omega)]
  exact hi
section PST
variable {μ0 μ : Mem} {I : Nat → Itm} {N : Nat → Int32} {a k nc : Nat} {dp wn tg : Int32}
theorem CP_pos (h : CP μ0 μ I N a k nc dp wn tg) (a' : Nat) : CP μ0 (sto μ 1 0 11 (nI a')) I N a' k nc dp wn tg := by
  obtain ⟨h1, h2, h3, h4, h5, h6, h7, h8, h9⟩ := h
  exact ⟨fun q i hq => by rw [sto_k hq.1]; exact h1 q i hq, sto_e, by rw [sto_j (by omega)]; exact h3, by rw [sto_j (by omega)]; exact h4, by rw [sto_j (by omega)]; exact h5, by rw [sto_j (by omega)]; exact h6, by rw [sto_j (by omega)]; exact h7, fun j hj => CIt_at (fun q _ _ => by rw [sto_k (by omega)]) (h8 j hj), fun j hj => by rw [sto_k (by omega)]; exact h9 j hj⟩
theorem CP_dep (h : CP μ0 μ I N a k nc dp wn tg) (x : Int32) : CP μ0 (sto μ 1 0 12 x) I N a k nc x wn tg := by
  obtain ⟨h1, h2, h3, h4, h5, h6, h7, h8, h9⟩ := h
  exact ⟨fun q i hq => by rw [sto_k hq.1]; exact h1 q i hq, by rw [sto_j (by omega)]; exact h2, by rw [sto_j (by omega)]; exact h3, by rw [sto_j (by omega)]; exact h4, sto_e, by rw [sto_j (by omega)]; exact h6, by rw [sto_j (by omega)]; exact h7, fun j hj => CIt_at (fun q _ _ => by rw [sto_k (by omega)]) (h8 j hj), fun j hj => by rw [sto_k (by omega)]; exact h9 j hj⟩
theorem CP_wan (h : CP μ0 μ I N a k nc dp wn tg) (x : Int32) : CP μ0 (sto μ 1 0 13 x) I N a k nc dp x tg := by
  obtain ⟨h1, h2, h3, h4, h5, h6, h7, h8, h9⟩ := h
  exact ⟨fun q i hq => by rw [sto_k hq.1]; exact h1 q i hq, by rw [sto_j (by omega)]; exact h2, by rw [sto_j (by omega)]; exact h3, by rw [sto_j (by omega)]; exact h4, by rw [sto_j (by omega)]; exact h5, sto_e, by rw [sto_j (by omega)]; exact h7, fun j hj => CIt_at (fun q _ _ => by rw [sto_k (by omega)]) (h8 j hj), fun j hj => by rw [sto_k (by omega)]; exact h9 j hj⟩
theorem CP_tgt (h : CP μ0 μ I N a k nc dp wn tg) (x : Int32) : CP μ0 (sto μ 1 0 10 x) I N a k nc dp wn x := by
  obtain ⟨h1, h2, h3, h4, h5, h6, h7, h8, h9⟩ := h
  exact ⟨fun q i hq => by rw [sto_k hq.1]; exact h1 q i hq, by rw [sto_j (by omega)]; exact h2, by rw [sto_j (by omega)]; exact h3, by rw [sto_j (by omega)]; exact h4, by rw [sto_j (by omega)]; exact h5, by rw [sto_j (by omega)]; exact h6, sto_e, fun j hj => CIt_at (fun q _ _ => by rw [sto_k (by omega)]) (h8 j hj), fun j hj => by rw [sto_k (by omega)]; exact h9 j hj⟩
def upN (N : Nat → Int32) (nc : Nat) (x : Int32) : Nat → Int32 := fun j => if j = nc then x else N j
def upI (I : Nat → Itm) (k : Nat) (i : Itm) : Nat → Itm := fun j => if j = k then i else I j
theorem CP_num (h : CP μ0 μ I N a k nc dp wn tg) (x : Int32) : CP μ0 (sto (sto μ 10 0 nc x) 1 0 9 (nI (nc + 1))) I (upN N nc x) a k (nc + 1) dp wn tg := by
  obtain ⟨h1, h2, h3, h4, h5, h6, h7, h8, h9⟩ := h
  refine ⟨fun q i hq => by rw [sto_k hq.1, sto_k (by omega)]; exact h1 q i hq, by rw [sto_j (by omega), sto_k (by omega)]; exact h2, by rw [sto_j (by omega), sto_k (by omega)]; exact h3, sto_e, by rw [sto_j (by omega), sto_k (by omega)]; exact h5, by rw [sto_j (by omega), sto_k (by omega)]; exact h6, by rw [sto_j (by omega), sto_k (by omega)]; exact h7, fun j hj => CIt_at (fun q _ _ => by rw [sto_k (by omega), sto_k (by omega)]) (h8 j hj), fun j hj => ?_⟩
  rw [sto_k (by omega)]
  unfold upN
  by_cases c : j = nc
  · subst c; rw [sto_e, if_pos rfl]
  · rw [sto_j c, if_neg c]; exact h9 j (by omega)
theorem CP_add {μ' : Mem} {i : Itm} (h : CP μ0 μ I N a k nc dp wn tg) (hf : ∀ q i j, (q < 4 ∨ 9 < q ∨ j ≠ k) ∧ (q ≠ 1 ∨ j ≠ 8) → μ' q i j = μ q i j) (h8' : μ' 1 0 8 = nI (k + 1)) (hi : CIt μ' k i) : CP μ0 μ' (upI I k i) N a (k + 1) nc dp wn tg := by
  obtain ⟨h1, h2, h3, h4, h5, h6, h7, h8, h9⟩ := h
  refine ⟨fun q i hq => ?_, by rw [hf 1 0 11 (by omega)]; exact h2, h8', by rw [hf 1 0 9 (by omega)]; exact h4, by rw [hf 1 0 12 (by omega)]; exact h5, by rw [hf 1 0 13 (by omega)]; exact h6, by rw [hf 1 0 10 (by omega)]; exact h7, fun j hj => ?_, fun j hj => by rw [hf 10 0 j (by omega)]; exact h9 j hj⟩
  · rw [← h1 q i hq]
    funext j
    exact hf q i j (by omega)
  · unfold upI
    by_cases c : j = k
    · subst c; rw [if_pos rfl]; exact hi
    · rw [if_neg c]; exact CIt_at (fun q _ _ => hf q 0 j (by omega)) (h8 j (by omega))
theorem MP_pos (h : MP μ0 μ I N a k nc) (a' : Nat) : MP μ0 (sto μ 30 0 11 (nI a')) I N a' k nc := by
  obtain ⟨h1, h2, h3, h4, h5, h6⟩ := h
  exact ⟨fun q i j hq => by rw [sto_nj (by omega)]; exact h1 q i j hq, sto_e, by rw [sto_j (by omega)]; exact h3, by rw [sto_j (by omega)]; exact h4, fun j hj => MIt_at (fun q _ _ => by rw [sto_k (by omega)]) (h5 j hj), fun j hj => by rw [sto_k (by omega)]; exact h6 j hj⟩
theorem MP_num (h : MP μ0 μ I N a k nc) (x : Int32) : MP μ0 (sto (sto μ 38 0 nc x) 30 0 10 (nI (nc + 1))) I (upN N nc x) a k (nc + 1) := by
  obtain ⟨h1, h2, h3, h4, h5, h6⟩ := h
  refine ⟨fun q i j hq => by rw [sto_nj (by omega), sto_k (by omega)]; exact h1 q i j hq, by rw [sto_j (by omega), sto_k (by omega)]; exact h2, by rw [sto_j (by omega), sto_k (by omega)]; exact h3, sto_e, fun j hj => MIt_at (fun q _ _ => by rw [sto_k (by omega), sto_k (by omega)]) (h5 j hj), fun j hj => ?_⟩
  rw [sto_k (by omega)]
  unfold upN
  by_cases c : j = nc
  · subst c; rw [sto_e, if_pos rfl]
  · rw [sto_j c, if_neg c]; exact h6 j (by omega)
/-- the reference adds an item -/
theorem addM_eq (h : MP μ0 μ I N a k nc) (hk : k < 201) (x y z : Nat) : ∃ μ', f_X8_add (nI x) (nI y) (nI z) μ = some ((), μ') ∧ MP μ0 μ' (upI I k (x, y, z)) N a (k + 1) nc := by
  obtain ⟨h1, h2, h3, h4, h5, h6⟩ := h
  unfold f_X8_add
  have e1 : sto μ 35 0 k (nI x) 30 0 9 = nI k := by rw [sto_k (by omega)]; exact h3
  have e2 : sto (sto μ 35 0 k (nI x)) 36 0 k (nI y) 30 0 9 = nI k := by rw [sto_k (by omega)]; exact e1
  have e3 : sto (sto (sto μ 35 0 k (nI x)) 36 0 k (nI y)) 37 0 k (nI z) 30 0 9 = nI k := by rw [sto_k (by omega)]; exact e2
  simp only [h3, nI_clamp (show k < 2 ^ 31 by omega), ig_t hk (show 201 < 2 ^ 31 by omega), lt, e1, e2, e3, ← nI_succ]
  refine ⟨_, rfl, fun q i j hq => ?_, ?_, sto_e, ?_, fun j hj => ?_, fun j hj => ?_⟩
  · rw [sto_nj (by omega), sto_k (by omega), sto_k (by omega), sto_k (by omega)]; exact h1 q i j hq
  · rw [sto_j (by omega), sto_k (by omega), sto_k (by omega), sto_k (by omega)]; exact h2
  · rw [sto_j (by omega), sto_k (by omega), sto_k (by omega), sto_k (by omega)]; exact h4
  · unfold upI
    by_cases c : j = k
    · subst c
      rw [if_pos rfl]
      refine ⟨?_, ?_, fun _ => ?_⟩
      · rw [sto_k (by omega), sto_k (by omega), sto_k (by omega), sto_e]
      · rw [sto_k (by omega), sto_k (by omega), sto_e]
      · rw [sto_k (by omega), sto_e]
    · rw [if_neg c]
      refine MIt_at (fun q _ _ => ?_) (h5 j (by omega))
      rw [sto_k (by omega), sto_nj (by omega), sto_nj (by omega), sto_nj (by omega)]
  · rw [sto_k (by omega), sto_k (by omega), sto_k (by omega), sto_k (by omega)]; exact h6 j hj
/-- the class adds a step that has no signs -/
theorem addStep_eq (h : CP μ0 μ I N a k nc dp wn tg) (hk : k < 200) (x : Int32) : f_X5_addStep x μ = some ((), sto (sto μ 4 0 k x) 1 0 8 (nI (k + 1))) := by
  have h3 := h.2.2.1
  unfold f_X5_addStep
  have e1 : sto μ 4 0 k x 1 0 8 = nI k := by rw [sto_k (by omega)]; exact h3
  simp only [h3, nI_clamp (show k < 2 ^ 31 by omega), ig_t hk (show 200 < 2 ^ 31 by omega), lt, e1, ← nI_succ]
theorem charN {s : Nat} (h : s < 256) : vp_nar .char (nI s) = nI s := by
  unfold vp_nar
  rw [(pk_charN (show s < 65536 by omega)).1]
theorem addFunction_eq (h : CP μ0 μ I N a k nc dp wn tg) (hk : k < 200) (x : Int32) {s f g : Nat} (hs : s < 256) (hf : f < 256) (hg : g < 256) : f_X5_addFunction x (nI s) (nI f) (nI g) μ = some ((), sto (sto (sto (sto (sto μ 7 0 k (nI s)) 8 0 k (nI f)) 9 0 k (nI g)) 4 0 k x) 1 0 8 (nI (k + 1))) := by
  have h3 := h.2.2.1
  unfold f_X5_addFunction f_X5_addStep
  have e1 : sto μ 7 0 k (nI s) 1 0 8 = nI k := by rw [sto_k (by omega)]; exact h3
  have e2 : sto (sto μ 7 0 k (nI s)) 8 0 k (nI f) 1 0 8 = nI k := by rw [sto_k (by omega)]; exact e1
  have e3 : sto (sto (sto μ 7 0 k (nI s)) 8 0 k (nI f)) 9 0 k (nI g) 1 0 8 = nI k := by rw [sto_k (by omega)]; exact e2
  have e4 : sto (sto (sto (sto μ 7 0 k (nI s)) 8 0 k (nI f)) 9 0 k (nI g)) 4 0 k x 1 0 8 = nI k := by rw [sto_k (by omega)]; exact e3
  simp only [h3, charN hs, charN hf, charN hg, nI_clamp (show k < 2 ^ 31 by omega), ig_t hk (show 200 < 2 ^ 31 by omega), lt, e1, e2, e3, e4, ← nI_succ, bW_s]
end PST
/-! numbers in a row -/
abbrev dgu (c : Nat) : Prop := dig c = true ∨ c = 95
def NB (t : Nat → Nat) (tn a nc : Nat) : Prop := 2 * nc ≤ a ∨ (2 * nc = a + 1 ∧ ¬ dgu (cd t tn a))
def nA (t : Nat → Nat) (tn a : Nat) : Nat := if cd t tn a = 95 then a + 1 else a
def nV (t : Nat → Nat) (tn a : Nat) : Nat := (ndf t tn 9 (nA t tn a) 0).1
def nE (t : Nat → Nat) (tn a : Nat) : Nat := (ndf t tn 9 (nA t tn a) 0).2
def nX (t : Nat → Nat) (tn a : Nat) : Int32 := if cd t tn a = 95 then -(nI (nV t tn a)) else nI (nV t tn a)
abbrev nOk (t : Nat → Nat) (tn a : Nat) : Prop := nA t tn a < nE t tn a ∧ ¬ dig (cd t tn (nE t tn a)) = true ∧ ¬ cd t tn (nE t tn a) = 95
theorem nE_ge {t : Nat → Nat} {tn a : Nat} : nA t tn a ≤ nE t tn a ∧ a ≤ nA t tn a ∧ nA t tn a ≤ a + 1 ∧ nE t tn a ≤ a + 10 := by
  have h1 := ndf_ge t tn 9 (nA t tn a) 0
  have h2 : a ≤ nA t tn a ∧ nA t tn a ≤ a + 1 := by unfold nA; split <;> omega
  unfold nE
  omega
theorem num_tail {t : Nat → Nat} {tn e k nc dd : Nat} {μ0 ν : Mem} {I : Nat → Itm} {N : Nat → Int32} {dp wn tg x : Int32} (h : okT t tn) (hT : TXC t tn μ0) (hC : CP μ0 ν I N e k nc dp wn tg) (he : e < 2000) (hd : dd < 2000) (hnc : nc < 200) : ∃ b μ', (gd (inb (ν 1 0 9) 200) <|
      lt (sto ν 10 0 ((ν 1 0 9)).toNatClampNeg x) fun μ_24 =>
      lt (sto μ_24 1 0 9 ((μ_24 1 0 9) + (1 : Int32))) fun μ_25 =>
      if nI dd ≤ nI 0 then some (nI 0, μ_25) else
      bP (f_X6_codeAt (μ_25 1 0 11) μ_25) fun v_27 =>
      bP (f_X5_isDigit v_27 μ_25) fun v_28 =>
      if v_28 = nI 0 then
      (bP (f_X6_codeAt (μ_25 1 0 11) μ_25) fun v_29 => if v_29 = nI 95 then some (nI 0, μ_25) else some ((1 : Int32), μ_25))
      else some (nI 0, μ_25)) = some (b, μ') ∧ CP μ0 μ' I (upN N nc x) e k (nc + 1) dp wn tg ∧ ((b = 1 ∧ 0 < dd ∧ ¬ dig (cd t tn e) = true ∧ ¬ cd t tn e = 95) ∨ (b = 0 ∧ ¬ (0 < dd ∧ ¬ dig (cd t tn e) = true ∧ ¬ cd t tn e = 95))) := by
  have hC' := CP_num hC x
  have hT' := hC'.1.tx hT
  have e9 : sto ν 10 0 nc x 1 0 9 = nI nc := by rw [sto_k (by omega)]; exact hC.2.2.2.1
  have hc := cd_lt (a := e) h
  simp only [hC.2.2.2.1, nI_clamp (show nc < 2 ^ 31 by omega), ig_t hnc (show 200 < 2 ^ 31 by omega), lt, e9, ← nI_succ]
  generalize hm : sto (sto ν 10 0 nc x) 1 0 9 (nI (nc + 1)) = μ2 at *
  simp only [hC'.2.1, codeAt_eq h hT' (show e < 2 ^ 31 by omega), bP_s, digC_eq hc, nle_iff (show dd < 2 ^ 31 by omega) (show 0 < 2 ^ 31 by omega), neq_iff (show cd t tn e < 2 ^ 31 by omega) (show 95 < 2 ^ 31 by omega)]
  by_cases c1 : dd ≤ 0
  · rw [if_pos c1]
    exact ⟨0, μ2, rfl, hC', Or.inr ⟨rfl, fun q => by omega⟩⟩
  · rw [if_neg c1]
    by_cases c2 : dig (cd t tn e) = true
    · rw [if_pos c2, if_neg (show ¬ (1 : Int32) = nI 0 by decide)]
      exact ⟨0, μ2, rfl, hC', Or.inr ⟨rfl, fun q => q.2.1 c2⟩⟩
    · rw [if_neg c2, if_pos nI_0.symm]
      by_cases c3 : cd t tn e = 95
      · rw [if_pos c3]
        exact ⟨0, μ2, rfl, hC', Or.inr ⟨rfl, fun q => q.2.2 c3⟩⟩
      · rw [if_neg c3]
        exact ⟨1, μ2, rfl, hC', Or.inl ⟨rfl, by omega, c2, c3⟩⟩
theorem readNumber_eq {t : Nat → Nat} {tn a k nc : Nat} {μ0 μ : Mem} {I : Nat → Itm} {N : Nat → Int32} {dp wn tg : Int32} (h : okT t tn) (hT : TXC t tn μ0) (hC : CP μ0 μ I N a k nc dp wn tg) (ha : a < 1000) (hnc : nc < 200) : ∃ b μ', f_X5_readNumber μ = some (b, μ') ∧ CP μ0 μ' I (upN N nc (nX t tn a)) (nE t tn a) k (nc + 1) dp wn tg ∧ ((b = 1 ∧ nOk t tn a) ∨ (b = 0 ∧ ¬ nOk t tn a)) := by
  have hge := nE_ge (t := t) (tn := tn) (a := a)
  have hTμ := hC.1.tx hT
  have hc := cd_lt (a := a) h
  have i10 : ¬ (1 : Int32) = nI 0 := by decide
  unfold f_X5_readNumber
  rw [hC.2.1, codeAt_eq h hTμ (by omega), bP_s]
  by_cases c : cd t tn a = 95
  · have hA : nA t tn a = a + 1 := by unfold nA; rw [if_pos c]
    have hX : nX t tn a = -(nI (nV t tn a)) := by unfold nX; rw [if_pos c]
    have hC1 := CP_pos hC (nA t tn a)
    have hT1 := hC1.1.tx hT
    simp only [il95, neq_iff (show cd t tn a < 2 ^ 31 by omega) (show 95 < 2 ^ 31 by omega), if_pos c, jn, il0, if_neg i10, hC.2.1, ← nI_succ]
    rw [← hA]
    have e0 := fun K => numC_L (c1 := 1) h K 9 (nA t tn a) 0 0 1000 (sto μ 1 0 11 (nI (nA t tn a))) (by omega) (by omega) (by omega) hT1 sto_e
    simp only [lt]
    rw [e0]
    rw [sto_sto, hX]
    have := num_tail (x := -(nI (nV t tn a))) (dd := 0 + (nE t tn a - nA t tn a)) h hT (CP_pos hC (nE t tn a)) (by omega) (by omega) hnc
    have hiff : (0 < 0 + (nE t tn a - nA t tn a)) ↔ nA t tn a < nE t tn a := by omega
    rw [hiff] at this
    exact this
  · have hA : nA t tn a = a := by unfold nA; rw [if_neg c]
    have hX : nX t tn a = nI (nV t tn a) := by unfold nX; rw [if_neg c]
    simp only [il95, neq_iff (show cd t tn a < 2 ^ 31 by omega) (show 95 < 2 ^ 31 by omega), if_neg c, jn, il0, if_true, ← nI_succ]
    have e0 := fun K => numC_L (c1 := nI 0) h K 9 (nA t tn a) 0 0 1000 μ (by omega) (by omega) (by omega) hTμ (by rw [hA]; exact hC.2.1)
    rw [e0]
    rw [hX]
    have := num_tail (x := nI (nV t tn a)) (dd := 0 + (nE t tn a - nA t tn a)) h hT (CP_pos hC (nE t tn a)) (by omega) (by omega) hnc
    have hiff : (0 < 0 + (nE t tn a - nA t tn a)) ↔ nA t tn a < nE t tn a := by omega
    rw [hiff] at this
    exact this
/-- the reference's number, in its loop -/
theorem rowM_num {t : Nat → Nat} {tn a a' k nc τ n : Nat} {μ0 μ : Mem} {I : Nat → Itm} {N : Nat → Int32} {κ : Mem → Option (Int32 × Mem)} {cM : Int32} (h : okT t tn) (hT : TXM t tn μ0) (hM : MP μ0 μ I N a' k nc) (ha' : a' ≤ 1000) (hsk : sk t tn a' = a) (ha : a < 300) (hτ : τ < 101) (hnc : nc < 101) (hd : dgu (cd t tn a)) :
    (nOk t tn a ∧ ∃ μ', f_X8_row_L7 κ cM (n + 1) (nI τ) μ = f_X8_row_L7 κ cM n (nI (τ + 1)) μ' ∧ MP μ0 μ' I (upN N nc (nX t tn a)) (nE t tn a) k (nc + 1)) ∨ (¬ nOk t tn a ∧ ∃ μ', f_X8_row_L7 κ cM (n + 1) (nI τ) μ = some (0, μ') ∧ FPm μ0 μ') := by
  have hge := nE_ge (t := t) (tn := tn) (a := a)
  have hTμ := hM.1.tx hT
  have hc := cd_lt (a := a) h
  have h1 := h.1
  have i10 : ¬ (1 : Int32) = nI 0 := by decide
  have hM1 := MP_pos hM a
  have hT1 := hM1.1.tx hT
  -- behind the digits
  have tail : ∀ (x : Int32) (ν : Mem), MP μ0 ν I N (nE t tn a) k nc → x = nX t tn a → ∀ X, X = (if nI (0 + (nE t tn a - nA t tn a)) = nI 0 then some (nI 0, ν) else
        if (ν 30 0 1) ≤ (ν 30 0 11) then (gd (inb (ν 30 0 10) 101) <| f_X8_row_L7 κ cM n (nI (τ + 1)) (sto (sto ν 38 0 ((ν 30 0 10)).toNatClampNeg x) 30 0 10 ((sto ν 38 0 ((ν 30 0 10)).toNatClampNeg x 30 0 10) + 1)))
        else gd (inb (ν 30 0 11) 200) <| bP (f_X8_digit (ν 31 0 ((ν 30 0 11)).toNatClampNeg) ν) fun v_35 =>
        if v_35 = nI 0 then (gd (inb (ν 30 0 11) 200) <| if (ν 31 0 ((ν 30 0 11)).toNatClampNeg) = nI 95 then some (nI 0, ν) else (gd (inb (ν 30 0 10) 101) <| f_X8_row_L7 κ cM n (nI (τ + 1)) (sto (sto ν 38 0 ((ν 30 0 10)).toNatClampNeg x) 30 0 10 ((sto ν 38 0 ((ν 30 0 10)).toNatClampNeg x 30 0 10) + 1))))
        else some (nI 0, ν)) → (nOk t tn a ∧ ∃ μ', X = f_X8_row_L7 κ cM n (nI (τ + 1)) μ' ∧ MP μ0 μ' I (upN N nc (nX t tn a)) (nE t tn a) k (nc + 1)) ∨ (¬ nOk t tn a ∧ ∃ μ', X = some (0, μ') ∧ FPm μ0 μ') := by
    intro x ν hν hx X hX
    subst hx
    have hTν := hν.1.tx hT
    have e10 : sto ν 38 0 nc (nX t tn a) 30 0 10 = nI nc := by rw [sto_k (by omega)]; exact hν.2.2.2.1
    have hgood : (gd (inb (nI nc) 101) <| f_X8_row_L7 κ cM n (nI (τ + 1)) (sto (sto ν 38 0 nc (nX t tn a)) 30 0 10 (nI nc + 1))) = f_X8_row_L7 κ cM n (nI (τ + 1)) (sto (sto ν 38 0 nc (nX t tn a)) 30 0 10 (nI (nc + 1))) := by
      rw [ig_t hnc (by omega), ← nI_succ]
    simp only [hν.2.2.2.1, hν.2.1, hTν.1, nI_clamp (show nc < 2 ^ 31 by omega), e10, nle_iff (show tn < 2 ^ 31 by omega) (show nE t tn a < 2 ^ 31 by omega), neq_iff (show 0 + (nE t tn a - nA t tn a) < 2 ^ 31 by omega) (show 0 < 2 ^ 31 by omega), hgood] at hX
    by_cases c1 : nE t tn a = nA t tn a
    · rw [if_pos (by omega)] at hX
      exact Or.inr ⟨fun q => by have := q.1; omega, ν, hX, hν.1⟩
    · rw [if_neg (by omega)] at hX
      by_cases c2 : tn ≤ nE t tn a
      · rw [if_pos c2] at hX
        refine Or.inl ⟨⟨by omega, ?_, ?_⟩, _, hX, MP_num hν _⟩
        · rw [(cd_0 h).mpr c2]; decide
        · rw [(cd_0 h).mpr c2]; omega
      · have q5 : cd t tn (nE t tn a) = t (nE t tn a) := by unfold cd; rw [if_pos (by omega)]
        have hc2 := (h.2 (nE t tn a) (by omega)).2
        rw [if_neg c2, ig_t (by omega) (by omega), nI_clamp (by omega), hTν.2 _ (by omega), digM_eq hc2, bP_s] at hX
        by_cases c3 : dig (t (nE t tn a)) = true
        · rw [if_pos c3, if_neg i10] at hX
          exact Or.inr ⟨fun q => q.2.1 (by rw [q5]; exact c3), ν, hX, hν.1⟩
        · rw [if_neg c3, if_pos nI_0.symm, ig_t (by omega) (by omega)] at hX
          by_cases c4 : t (nE t tn a) = 95
          · rw [if_pos (by rw [c4])] at hX
            exact Or.inr ⟨fun q => q.2.2 (by rw [q5]; exact c4), ν, hX, hν.1⟩
          · rw [if_neg (by rw [neq_iff (by omega) (by omega)]; exact c4)] at hX
            exact Or.inl ⟨⟨by omega, by rw [q5]; exact c3, by rw [q5]; exact c4⟩, _, hX, MP_num hν _⟩
  by_cases c : cd t tn a = 95
  · have hA : nA t tn a = a + 1 := by unfold nA; rw [if_pos c]
    have hX : nX t tn a = -(nI (nV t tn a)) := by unfold nX; rw [if_pos c]
    have hC1 := MP_pos hM (nA t tn a)
    have hT1 := hC1.1.tx hT
    have hdig : ¬ dig (cd t tn a) = true := by rw [c]; decide
    have e0 := fun K => numM_L (c1 := cM) (c2 := nI τ) (c4 := 1) h K 9 (nA t tn a) 0 0 1000 (sto μ 30 0 11 (nI (nA t tn a))) (by omega) (by omega) (by omega) hT1 sto_e
    simp only [f_X8_row_L7, il101, nle_f hτ (show 101 < 2 ^ 31 by omega), if_false, ahead_eq h hTμ ha' hM.2.1, hsk, bW_s, digM_eq hc, bP_s, if_neg hdig, il95, neq_iff (show cd t tn a < 2 ^ 31 by omega) (show 95 < 2 ^ 31 by omega), if_pos c, jn, il0, if_true, if_neg i10, sto_e, ← nI_succ, lt, sto_sto]
    rw [← hA, e0, sto_sto]
    exact tail _ _ (MP_pos hM (nE t tn a)) hX.symm _ rfl
  · have hA : nA t tn a = a := by unfold nA; rw [if_neg c]
    have hX : nX t tn a = nI (nV t tn a) := by unfold nX; rw [if_neg c]
    have hdig : dig (cd t tn a) = true := by
      rcases hd with q | q
      · exact q
      · exact absurd q c
    have e0 := fun K => numM_L (c1 := cM) (c2 := nI τ) (c4 := nI 0) h K 9 (nA t tn a) 0 0 1000 (sto μ 30 0 11 (nI a)) (by omega) (by omega) (by omega) hT1 (by rw [hA]; exact sto_e)
    simp only [f_X8_row_L7, il101, nle_f hτ (show 101 < 2 ^ 31 by omega), if_false, ahead_eq h hTμ ha' hM.2.1, hsk, bW_s, digM_eq hc, bP_s, if_pos hdig, il95, neq_iff (show cd t tn a < 2 ^ 31 by omega) (show 95 < 2 ^ 31 by omega), if_neg c, jn, il0, if_true, if_neg i10, ← nI_succ, lt]
    rw [e0, sto_sto]
    exact tail _ _ (MP_pos hM (nE t tn a)) hX.symm _ rfl
