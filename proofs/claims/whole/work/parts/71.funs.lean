theorem CP_fun {μ0 μ : Mem} {I : Nat → Itm} {N : Nat → Int32} {a k nc s f g : Nat} {dp wn tg x : Int32} {i : Itm} (h : CP μ0 μ I N a k nc dp wn tg) (hi : ∀ μ' : Mem, μ' 4 0 k = x → μ' 7 0 k = nI s → μ' 8 0 k = nI f → μ' 9 0 k = nI g → CIt μ' k i) : CP μ0 (sto (sto (sto (sto (sto μ 7 0 k (nI s)) 8 0 k (nI f)) 9 0 k (nI g)) 4 0 k x) 1 0 8 (nI (k + 1))) (upI I k i) N a (k + 1) nc dp wn tg := by
  refine CP_add h (fun q i j hq => by rw [sto_nj (by omega), sto_nj (by omega), sto_nj (by omega), sto_nj (by omega), sto_nj (by omega)]) sto_e (hi _ ?_ ?_ ?_ ?_)
  · rw [sto_k (by omega), sto_e]
  · rw [sto_k (by omega), sto_k (by omega), sto_k (by omega), sto_k (by omega), sto_e]
  · rw [sto_k (by omega), sto_k (by omega), sto_k (by omega), sto_e]
  · rw [sto_k (by omega), sto_k (by omega), sto_e]
theorem FPc_fun {μ0 μ : Mem} {k : Nat} {s f g x y : Int32} (h : FPc μ0 μ) : FPc μ0 (sto (sto (sto (sto (sto μ 7 0 k s) 8 0 k f) 9 0 k g) 4 0 k x) 1 0 8 y) := fun q i hq => by
  rw [sto_k (by omega), sto_k (by omega), sto_k (by omega), sto_k (by omega), sto_k (by omega)]; exact h q i hq
theorem one_dec : ∀ c, c < 256 → ((kStr.getD 3 []).contains c = true ∨ (kStr.getD 1 []).contains c = true ↔ c = 45 ∨ c = 124 ∨ c = 42 ∨ c = 105 ∨ c = 114 ∨ c = 44 ∨ c = 116 ∨ c = 118) := by decide +kernel
theorem nf_one : ∀ c, c < 256 → sgl.contains c = true → ¬ (c = 105 ∨ c = 114 ∨ c = 44 ∨ c = 116 ∨ c = 118 ∨ c = 112) := by decide +kernel
theorem nf_in : sgl.contains 45 = true ∧ sgl.contains 124 = true ∧ sgl.contains 42 = true := by decide
theorem cit1 {f k c fm : Nat} (hs : sn1 f = c) (hf : fn1 f = fm) : ∀ μ' : Mem, μ' 4 0 k = 4 → μ' 7 0 k = nI c → μ' 8 0 k = nI fm → μ' 9 0 k = nI 0 → CIt μ' k (5, f, 0) := by
  intro μ' h1 h2 h3 _
  unfold CIt
  exact ⟨h1, by rw [h2, hs], by rw [h3, hf]⟩
theorem sn1_sg : ∀ f, f < 10 → sn1 f = sgl.getD f 0 ∧ fn1 f = 47 ∧ sn1 (10 + f) = sgl.getD f 0 ∧ fn1 (10 + f) = 92 := by decide
/-- a function of one argument, both sides -/
theorem one_eq {t : Nat → Nat} {tn a a' k nc : Nat} {μC0 μM0 μC μM : Mem} {dp wn tg : Int32} {I : Nat → Itm} {N : Nat → Int32} (h : okT t tn) (hTC : TXC t tn μC0) (hTM : TXM t tn μM0) (hC : CP μC0 μC I N a k nc dp wn tg) (hM : MP μM0 μM I N a' k nc) (hsk : sk t tn a' = a) (ha' : a' ≤ a) (ha : a < tn) (hk : k < 200) :
    (∃ μC' μM', f_X5_readFunctionOfOne (nI (cd t tn a)) (sto μC 1 0 11 (nI (a + 1))) = some (0, μC') ∧ f_X8_one μM = some (-1, μM') ∧ FPc μC0 μC' ∧ FPm μM0 μM') ∨
    ∃ μC' μM' f p p', f_X5_readFunctionOfOne (nI (cd t tn a)) (sto μC 1 0 11 (nI (a + 1))) = some (1, μC') ∧ f_X8_one μM = some (nI f, μM') ∧ f < 28 ∧ CP μC0 μC' (upI I k (5, f, 0)) N p (k + 1) nc dp wn tg ∧ MP μM0 μM' I N p' k nc ∧ sk t tn p = sk t tn p' ∧ a < p ∧ a < p' ∧ p ≤ tn ∧ p' ≤ tn := by
  have h1 := h.1
  have hc := cd_lt (a := a) h
  have hC1 := CP_pos hC (a + 1)
  have hC2 := CP_pos hC (sk t tn (a + 1))
  have hTν := hC1.1.tx hTC
  have hTν2 := hC2.1.tx hTC
  have hTμ := hM.1.tx hTM
  have hM1 := MP_pos hM a
  have hM2 := MP_pos hM (a + 1)
  have hM3 := MP_pos hM (sk t tn (a + 1))
  have hTμ2 := hM2.1.tx hTM
  have hs1 := sk_ge (t := t) (tn := tn) (a := a + 1)
  have hs2 := sk_le h (show a + 1 ≤ tn by omega)
  have hn := cd_lt (a := sk t tn (a + 1)) h
  have i10 : ¬ (1 : Int32) = 0 := by decide
  generalize hcc : cd t tn a = c at *
  generalize hbb : sk t tn (a + 1) = b at *
  have hsb : sk t tn b = b := by rw [← hbb]; exact sk_sk h
  -- the class's side
  have hCside : f_X5_readFunctionOfOne (nI c) (sto μC 1 0 11 (nI (a + 1))) = (if sgl.contains c = true ∧ (cd t tn b = 47 ∨ cd t tn b = 92) then some (1, sto (sto (sto (sto (sto (sto μC 1 0 11 (nI (b + 1))) 7 0 k (nI c)) 8 0 k (nI (cd t tn b))) 9 0 k (nI 0)) 4 0 k 4) 1 0 8 (nI (k + 1)))
      else some (if c = 45 ∨ c = 124 ∨ c = 42 ∨ c = 105 ∨ c = 114 ∨ c = 44 ∨ c = 116 ∨ c = 118 then 1 else 0, sto (sto (sto (sto (sto (sto μC 1 0 11 (nI b)) 7 0 k (nI c)) 8 0 k (nI 0)) 9 0 k (nI 0)) 4 0 k 4) 1 0 8 (nI (k + 1)))) := by
    unfold f_X5_readFunctionOfOne
    rw [skip_eq h hTν (by omega) sto_e, hbb, bW_s, sto_sto, hC2.2.1, codeAt_eq h hTν2 (by omega), bP_s, nfC_eq hc, bP_s]
    have e1 : f_X5_addFunction 4 (nI c) (nI (cd t tn b)) 0 (sto (sto μC 1 0 11 (nI b)) 1 0 11 (nI b + 1)) = some ((), sto (sto (sto (sto (sto (sto μC 1 0 11 (nI (b + 1))) 7 0 k (nI c)) 8 0 k (nI (cd t tn b))) 9 0 k (nI 0)) 4 0 k 4) 1 0 8 (nI (k + 1))) := by
      rw [sto_sto, ← nI_succ, il0]
      exact addFunction_eq (CP_pos hC (b + 1)) hk 4 hc hn (by omega)
    have e2 : f_X5_addFunction 4 (nI c) 0 0 (sto μC 1 0 11 (nI b)) = some ((), sto (sto (sto (sto (sto (sto μC 1 0 11 (nI b)) 7 0 k (nI c)) 8 0 k (nI 0)) 9 0 k (nI 0)) 4 0 k 4) 1 0 8 (nI (k + 1))) := by
      rw [il0]
      exact addFunction_eq hC2 hk 4 hc (by omega) (by omega)
    have alone : (bW (f_X5_addFunction (4 : Int32) (nI c) (0 : Int32) (0 : Int32) (sto μC 1 0 11 (nI b))) fun u_7 μ_8 =>
       bP (f_J0_indexOf_0f7a4 3 (nI c) μ_8) fun v_9 =>
       if 0 ≤ v_9 then some ((1 : Int32), μ_8) else bP (f_J0_indexOf_0f7a4 1 (nI c) μ_8) fun v_11 => if v_11 < 0 then some ((0 : Int32), μ_8) else some ((1 : Int32), μ_8)) = some (if c = 45 ∨ c = 124 ∨ c = 42 ∨ c = 105 ∨ c = 114 ∨ c = 44 ∨ c = 116 ∨ c = 118 then 1 else 0, sto (sto (sto (sto (sto (sto μC 1 0 11 (nI b)) 7 0 k (nI c)) 8 0 k (nI 0)) 9 0 k (nI 0)) 4 0 k 4) 1 0 8 (nI (k + 1))) := by
      rw [e2, bW_s]
      generalize sto (sto (sto (sto (sto (sto μC 1 0 11 (nI b)) 7 0 k (nI c)) 8 0 k (nI 0)) 9 0 k (nI 0)) 4 0 k 4) 1 0 8 (nI (k + 1)) = ν
      obtain ⟨v3, x1, x2⟩ := ix_eq (j := 3) (by omega) hc ν
      obtain ⟨v1, y1, y2⟩ := ix_eq (j := 1) (by omega) hc ν
      rw [x1, bP_s, y1, bP_s]
      have hdec := one_dec c hc
      by_cases c3 : (kStr.getD 3 []).contains c = true
      · rw [if_pos (by rw [i_nlt]; exact fun q => (x2.mp q) c3), if_pos (hdec.mp (Or.inl c3))]
      · rw [if_neg (by rw [i_nlt]; exact fun q => q (x2.mpr c3))]
        by_cases c1 : (kStr.getD 1 []).contains c = true
        · rw [if_neg (fun q => (y2.mp q) c1), if_pos (hdec.mp (Or.inr c1))]
        · rw [if_pos (y2.mpr c1), if_neg (fun q => by rcases hdec.mpr q with w | w; exact c3 w; exact c1 w)]
    simp only [jn, lt]
    by_cases c1 : sgl.contains c = true
    · rw [if_pos c1, if_neg i10]
      simp only [il47, il92, neq_iff (show cd t tn b < 2 ^ 31 by omega) (show 47 < 2 ^ 31 by omega), neq_iff (show cd t tn b < 2 ^ 31 by omega) (show 92 < 2 ^ 31 by omega), sto_e]
      by_cases c2 : cd t tn b = 47
      · rw [if_pos c2, if_pos ⟨c1, Or.inl c2⟩, e1, bW_s]
      · rw [if_neg c2]
        by_cases c3 : cd t tn b = 92
        · rw [if_pos c3, if_pos ⟨c1, Or.inr c3⟩, e1, bW_s]
        · rw [if_neg c3, if_neg (fun q => by rcases q.2 with w | w; exact c2 w; exact c3 w)]
          exact alone
    · rw [if_neg c1, if_pos rfl, if_neg (fun q => c1 q.1)]
      exact alone
  rw [hCside]
  -- the reference's side
  unfold f_X8_one
  rw [ahead_eq h hTμ (by omega) hM.2.1, hsk, hcc, bW_s, plain_eq hc, bP_s]
  simp only [lt, sto_e, ← nI_succ, sto_sto]
  by_cases c1 : sgl.contains c = true
  · obtain ⟨ix1, ix2⟩ := sgl_ix c hc c1
    obtain ⟨s1, s2, s3, s4⟩ := sn1_sg _ ix1
    rw [if_pos c1, if_neg (nI_pos (by omega)), ahead_eq h hTμ2 (by omega) sto_e, hbb, bW_s]
    simp only [jn, sto_e, sto_sto, ← nI_succ]
    simp only [il47, il92, il45, il124, il42, neq_iff (show cd t tn b < 2 ^ 31 by omega) (show 47 < 2 ^ 31 by omega), neq_iff (show cd t tn b < 2 ^ 31 by omega) (show 92 < 2 ^ 31 by omega), neq_iff (show c < 2 ^ 31 by omega) (show 45 < 2 ^ 31 by omega), neq_iff (show c < 2 ^ 31 by omega) (show 124 < 2 ^ 31 by omega), neq_iff (show c < 2 ^ 31 by omega) (show 42 < 2 ^ 31 by omega)]
    by_cases c2 : cd t tn b = 47
    · have hbt : b < tn := by
        have : ¬ cd t tn b = 0 := by omega
        rw [cd_0 h] at this; omega
      right
      rw [if_pos ⟨c1, Or.inl c2⟩, if_pos c2, if_pos c2]
      refine ⟨_, _, sgl.idxOf c, b + 1, b + 1, rfl, rfl, by omega, CP_fun (CP_pos hC (b + 1)) (cit1 (s1.trans ix2) (s2.trans c2.symm)), MP_pos hM (b + 1), rfl, by omega, by omega, by omega, by omega⟩
    · rw [if_neg c2]
      by_cases c3 : cd t tn b = 92
      · have hbt : b < tn := by
          have : ¬ cd t tn b = 0 := by omega
          rw [cd_0 h] at this; omega
        right
        rw [if_pos ⟨c1, Or.inr c3⟩, if_pos c3, if_neg c2, il10, nI_add]
        refine ⟨_, _, 10 + sgl.idxOf c, b + 1, b + 1, rfl, rfl, by omega, CP_fun (CP_pos hC (b + 1)) (cit1 (s3.trans ix2) (s4.trans c3.symm)), MP_pos hM (b + 1), rfl, by omega, by omega, by omega, by omega⟩
      · have hno : ¬ (sgl.contains c = true ∧ (cd t tn b = 47 ∨ cd t tn b = 92)) := fun q => by rcases q.2 with w | w; exact c2 w; exact c3 w
        rw [if_neg hno, if_neg c3]
        have hnf := nf_one c hc c1
        by_cases d1 : c = 45
        · right
          rw [if_pos (Or.inl d1), if_pos d1]
          exact ⟨_, _, 20, b, b, rfl, rfl, by omega, CP_fun hC2 (cit1 (d1.symm ▸ rfl) rfl), hM3, rfl, by omega, by omega, hs2, hs2⟩
        rw [if_neg d1]
        by_cases d2 : c = 124
        · right
          rw [if_pos (Or.inr (Or.inl d2)), if_pos d2]
          exact ⟨_, _, 21, b, b, rfl, rfl, by omega, CP_fun hC2 (cit1 (d2.symm ▸ rfl) rfl), hM3, rfl, by omega, by omega, hs2, hs2⟩
        rw [if_neg d2]
        by_cases d3 : c = 42
        · right
          rw [if_pos (Or.inr (Or.inr (Or.inl d3))), if_pos d3]
          exact ⟨_, _, 22, b, b, rfl, rfl, by omega, CP_fun hC2 (cit1 (d3.symm ▸ rfl) rfl), hM3, rfl, by omega, by omega, hs2, hs2⟩
        left
        rw [if_neg d3, if_neg (by omega)]
        exact ⟨_, _, rfl, rfl, FPc_fun hC2.1, hM3.1⟩
  · have hno : ¬ (sgl.contains c = true ∧ (cd t tn b = 47 ∨ cd t tn b = 92)) := fun q => c1 q.1
    rw [if_neg c1, if_pos (show (-1 : Int32) < 0 by decide), if_neg hno]
    simp only [il105, il114, il44, il116, il118, neq_iff (show c < 2 ^ 31 by omega) (show 105 < 2 ^ 31 by omega), neq_iff (show c < 2 ^ 31 by omega) (show 114 < 2 ^ 31 by omega), neq_iff (show c < 2 ^ 31 by omega) (show 44 < 2 ^ 31 by omega), neq_iff (show c < 2 ^ 31 by omega) (show 116 < 2 ^ 31 by omega), neq_iff (show c < 2 ^ 31 by omega) (show 118 < 2 ^ 31 by omega)]
    have n45 : ¬ c = 45 := fun q => c1 (by rw [q]; exact nf_in.1)
    have n124 : ¬ c = 124 := fun q => c1 (by rw [q]; exact nf_in.2.1)
    have n42 : ¬ c = 42 := fun q => c1 (by rw [q]; exact nf_in.2.2)
    have hskb : sk t tn b = sk t tn (a + 1) := by rw [hsb, hbb]
    by_cases d1 : c = 105
    · right
      rw [if_pos (by omega), if_pos d1]
      exact ⟨_, _, 23, b, a + 1, rfl, rfl, by omega, CP_fun hC2 (cit1 (d1.symm ▸ rfl) rfl), hM2, hskb, by omega, by omega, hs2, by omega⟩
    rw [if_neg d1]
    by_cases d2 : c = 114
    · right
      rw [if_pos (by omega), if_pos d2]
      exact ⟨_, _, 24, b, a + 1, rfl, rfl, by omega, CP_fun hC2 (cit1 (d2.symm ▸ rfl) rfl), hM2, hskb, by omega, by omega, hs2, by omega⟩
    rw [if_neg d2]
    by_cases d3 : c = 44
    · right
      rw [if_pos (by omega), if_pos d3]
      exact ⟨_, _, 25, b, a + 1, rfl, rfl, by omega, CP_fun hC2 (cit1 (d3.symm ▸ rfl) rfl), hM2, hskb, by omega, by omega, hs2, by omega⟩
    rw [if_neg d3]
    by_cases d4 : c = 116
    · right
      rw [if_pos (by omega), if_pos d4]
      exact ⟨_, _, 26, b, a + 1, rfl, rfl, by omega, CP_fun hC2 (cit1 (d4.symm ▸ rfl) rfl), hM2, hskb, by omega, by omega, hs2, by omega⟩
    rw [if_neg d4]
    by_cases d5 : c = 118
    · right
      rw [if_pos (by omega), if_pos d5]
      exact ⟨_, _, 27, b, a + 1, rfl, rfl, by omega, CP_fun hC2 (cit1 (d5.symm ▸ rfl) rfl), hM2, hskb, by omega, by omega, hs2, by omega⟩
    left
    rw [if_neg d5, if_neg (by omega)]
    exact ⟨_, _, rfl, rfl, FPc_fun hC2.1, hM2.1⟩
theorem cit2 {f k c fm g : Nat} (hs : sn2 f = c) (hf : fn2 f = fm) (hg : 100 ≤ f → gn2 f = g) : ∀ μ' : Mem, μ' 4 0 k = 5 → μ' 7 0 k = nI c → μ' 8 0 k = nI fm → μ' 9 0 k = nI g → CIt μ' k (4, f, 0) := by
  intro μ' h1 h2 h3 h4
  unfold CIt
  exact ⟨h1, by rw [h2, hs], by rw [h3, hf], fun q => by rw [h4, hg q]⟩
theorem sn2_sg : ∀ f, f < 10 → sn2 f = sgl.getD f 0 ∧ fn2 f = 0 ∧ sn2 (20 + f) = sgl.getD f 0 ∧ fn2 (20 + f) = 64 := by decide
theorem sn2_in : ∀ f, f < 10 → ∀ g, g < 10 → sn2 (100 + 10 * f + g) = sgl.getD f 0 ∧ fn2 (100 + 10 * f + g) = 46 ∧ gn2 (100 + 10 * f + g) = sgl.getD g 0 := by decide +kernel
theorem two_dec : ∀ c, c < 256 → ((kStr.getD 2 []).contains c = true ↔ c = 114 ∨ c = 44 ∨ c = 112) := by decide +kernel
/-- a function of two arguments, both sides -/
theorem two_eq {t : Nat → Nat} {tn a a' k nc : Nat} {μC0 μM0 μC μM : Mem} {dp wn tg : Int32} {I : Nat → Itm} {N : Nat → Int32} (h : okT t tn) (hTC : TXC t tn μC0) (hTM : TXM t tn μM0) (hC : CP μC0 μC I N (a + 1) k nc dp wn tg) (hM : MP μM0 μM I N a' k nc) (hsk : sk t tn a' = a) (ha' : a' ≤ a) (ha : a < tn) (hk : k < 200) :
    (∃ μC' μM', f_X5_readFunctionOfTwo (nI (cd t tn a)) μC = some (0, μC') ∧ f_X8_two μM = some (-1, μM') ∧ FPc μC0 μC' ∧ FPm μM0 μM') ∨
    ∃ μC' μM' f p p', f_X5_readFunctionOfTwo (nI (cd t tn a)) μC = some (1, μC') ∧ f_X8_two μM = some (nI f, μM') ∧ ok2 f ∧ CP μC0 μC' (upI I k (4, f, 0)) N p (k + 1) nc dp wn tg ∧ MP μM0 μM' I N p' k nc ∧ sk t tn p = sk t tn p' ∧ a < p ∧ a < p' ∧ p ≤ tn ∧ p' ≤ tn := by
  have h1 := h.1
  have hc := cd_lt (a := a) h
  have hTν := hC.1.tx hTC
  have hTμ := hM.1.tx hTM
  have hM2 := MP_pos hM (a + 1)
  have hTμ2 := hM2.1.tx hTM
  have hs1 := sk_ge (t := t) (tn := tn) (a := a + 1)
  have hs2 := sk_le h (show a + 1 ≤ tn by omega)
  have hn := cd_lt (a := sk t tn (a + 1)) h
  have i10 : ¬ (1 : Int32) = 0 := by decide
  generalize hcc : cd t tn a = c at *
  unfold f_X5_readFunctionOfTwo f_X8_two
  rw [nfC_eq hc, bP_s, ahead_eq h hTμ (by omega) hM.2.1, hsk, hcc, bW_s, plain_eq hc, bP_s]
  simp only [lt, sto_e, ← nI_succ, sto_sto]
  by_cases c1 : sgl.contains c = true
  rotate_left
  · -- r , p
    have e2 : f_X5_addFunction 5 (nI c) 0 0 μC = some ((), sto (sto (sto (sto (sto μC 7 0 k (nI c)) 8 0 k (nI 0)) 9 0 k (nI 0)) 4 0 k 5) 1 0 8 (nI (k + 1))) := by
      rw [il0]
      exact addFunction_eq hC hk 5 hc (by omega) (by omega)
    obtain ⟨v2, y1, y2⟩ := ix_eq (j := 2) (by omega) hc (sto (sto (sto (sto (sto μC 7 0 k (nI c)) 8 0 k (nI 0)) 9 0 k (nI 0)) 4 0 k 5) 1 0 8 (nI (k + 1)))
    have hdec := two_dec c hc
    rw [if_neg c1, if_pos rfl, e2, bW_s, y1, bP_s, if_neg c1, if_neg (show ¬ (0 : Int32) ≤ -1 by decide)]
    simp only [il114, il44, il112, neq_iff (show c < 2 ^ 31 by omega) (show 114 < 2 ^ 31 by omega), neq_iff (show c < 2 ^ 31 by omega) (show 44 < 2 ^ 31 by omega), neq_iff (show c < 2 ^ 31 by omega) (show 112 < 2 ^ 31 by omega)]
    by_cases d1 : c = 114
    · right
      rw [if_neg (fun q => (y2.mp q) (hdec.mpr (Or.inl d1))), if_pos d1]
      exact ⟨_, _, 30, a + 1, a + 1, rfl, rfl, by unfold ok2; omega, CP_fun hC (cit2 (d1.symm ▸ rfl) rfl (by omega)), hM2, rfl, by omega, by omega, by omega, by omega⟩
    rw [if_neg d1]
    by_cases d2 : c = 44
    · right
      rw [if_neg (fun q => (y2.mp q) (hdec.mpr (Or.inr (Or.inl d2)))), if_pos d2]
      exact ⟨_, _, 31, a + 1, a + 1, rfl, rfl, by unfold ok2; omega, CP_fun hC (cit2 (d2.symm ▸ rfl) rfl (by omega)), hM2, rfl, by omega, by omega, by omega, by omega⟩
    rw [if_neg d2]
    by_cases d3 : c = 112
    · right
      rw [if_neg (fun q => (y2.mp q) (hdec.mpr (Or.inr (Or.inr d3)))), if_pos d3]
      exact ⟨_, _, 32, a + 1, a + 1, rfl, rfl, by unfold ok2; omega, CP_fun hC (cit2 (d3.symm ▸ rfl) rfl (by omega)), hM2, rfl, by omega, by omega, by omega, by omega⟩
    left
    rw [if_neg d3, if_pos (y2.mpr (fun q => by have := hdec.mp q; omega))]
    exact ⟨_, _, rfl, rfl, FPc_fun hC.1, hM2.1⟩
  obtain ⟨ix1, ix2⟩ := sgl_ix c hc c1
  obtain ⟨s1, s2, s3, s4⟩ := sn2_sg _ ix1
  have hC2 := CP_pos hC (sk t tn (a + 1))
  have hTν2 := hC2.1.tx hTC
  have hM3 := MP_pos hM (sk t tn (a + 1))
  rw [if_pos c1, if_neg i10, skip_eq h hTν (by omega) hC.2.1, bW_s, sto_e, codeAt_eq h hTν2 (by omega), bP_s, if_pos c1, if_pos (nI_pos' (by omega)), ahead_eq h hTμ2 (by omega) sto_e, bW_s]
  have hsb : sk t tn (sk t tn (a + 1)) = sk t tn (a + 1) := sk_sk h
  generalize hbb : sk t tn (a + 1) = b at *
  simp only [jn, sto_e, sto_sto, ← nI_succ]
  simp only [il46, il64, neq_iff (show cd t tn b < 2 ^ 31 by omega) (show 46 < 2 ^ 31 by omega), neq_iff (show cd t tn b < 2 ^ 31 by omega) (show 64 < 2 ^ 31 by omega)]
  by_cases c2 : cd t tn b = 46
  · have hbt : b < tn := by
      have : ¬ cd t tn b = 0 := by omega
      rw [cd_0 h] at this; omega
    have hC3 := CP_pos hC (b + 1)
    have hTν3 := hC3.1.tx hTC
    have hM4 := MP_pos hM (b + 1)
    have hTμ4 := hM4.1.tx hTM
    have ht1 := sk_ge (t := t) (tn := tn) (a := b + 1)
    have ht2 := sk_le h (show b + 1 ≤ tn by omega)
    have hC4 := CP_pos hC (sk t tn (b + 1))
    have hTν4 := hC4.1.tx hTC
    have hn2 := cd_lt (a := sk t tn (b + 1)) h
    rw [if_pos c2, if_neg (show ¬ cd t tn b = 64 by omega), if_pos c2, skip_eq h hTν3 (by omega) sto_e, bW_s, ahead_eq h hTμ4 (by omega) sto_e, bW_s, plain_eq hn2, bP_s]
    simp only [sto_e, sto_sto, ← nI_succ]
    rw [codeAt_eq h hTν4 (by omega), bP_s]
    generalize hee : sk t tn (b + 1) = e at *
    generalize hgg : cd t tn e = g at *
    rw [addFunction_eq (CP_pos hC (e + 1)) hk 5 hc hn hn2, bW_s, nfC_eq hn2, bP_s]
    by_cases c3 : sgl.contains g = true
    · obtain ⟨jx1, jx2⟩ := sgl_ix g hn2 c3
      obtain ⟨u1, u2, u3⟩ := sn2_in _ ix1 _ jx1
      have het : e < tn := by
        have : ¬ cd t tn e = 0 := by
          rw [hgg]; intro q; rw [q] at c3; exact absurd c3 (by decide)
        rw [cd_0 h] at this; omega
      right
      rw [if_pos c3, isb_1, if_pos c3, if_pos (nI_pos' (by omega)), il100, il10, pk_mul, nI_add, nI_add]
      exact ⟨_, _, 100 + 10 * sgl.idxOf c + sgl.idxOf g, e + 1, e + 1, rfl, rfl, by unfold ok2; omega, CP_fun (CP_pos hC (e + 1)) (cit2 (u1.trans ix2) (u2.trans c2.symm) (fun _ => u3.trans jx2)), MP_pos hM (e + 1), rfl, by omega, by omega, by omega, by omega⟩
    · left
      rw [if_neg c3, isb_0, if_neg c3, if_neg (show ¬ (0 : Int32) ≤ -1 by decide)]
      exact ⟨_, _, rfl, rfl, FPc_fun (CP_pos hC (e + 1)).1, (MP_pos hM (e + 1)).1⟩
  · rw [if_neg c2]
    right
    by_cases c3 : cd t tn b = 64
    · have hbt : b < tn := by
        have : ¬ cd t tn b = 0 := by omega
        rw [cd_0 h] at this; omega
      rw [if_pos c3, if_pos c3, if_pos c3, il20, nI_add]
      rw [show (f_X5_addFunction 5 (nI c) (nI (cd t tn b)) 0 : Mem → _) = f_X5_addFunction 5 (nI c) (nI (cd t tn b)) (nI 0) from rfl, addFunction_eq (CP_pos hC (b + 1)) hk 5 hc hn (by omega), bW_s]
      exact ⟨_, _, 20 + sgl.idxOf c, b + 1, b + 1, rfl, rfl, by unfold ok2; omega, CP_fun (CP_pos hC (b + 1)) (cit2 (s3.trans ix2) (s4.trans c3.symm) (by omega)), MP_pos hM (b + 1), rfl, by omega, by omega, by omega, by omega⟩
    · rw [if_neg c3, if_neg c3, if_neg c3, if_neg c2]
      rw [show (f_X5_addFunction 5 (nI c) 0 0 : Mem → _) = f_X5_addFunction 5 (nI c) (nI 0) (nI 0) from rfl, addFunction_eq hC2 hk 5 hc (by omega) (by omega), bW_s]
      exact ⟨_, _, sgl.idxOf c, b, b, rfl, rfl, by unfold ok2; omega, CP_fun hC2 (cit2 (s1.trans ix2) s2 (by omega)), hM3, rfl, by omega, by omega, hs2, hs2⟩
