/-! ===== reading a text ===== -/
/-- the code at a place, 0 behind the end -/
def cd (t : Nat → Nat) (tn a : Nat) : Nat := if a < tn then t a else 0
def TXC (t : Nat → Nat) (tn : Nat) (μ : Mem) : Prop := μ 2 0 1 = nI tn ∧ ∀ j, j < tn → μ 3 0 j = nI (t j)
def TXM (t : Nat → Nat) (tn : Nat) (μ : Mem) : Prop := μ 30 0 1 = nI tn ∧ ∀ j, j < tn → μ 31 0 j = nI (t j)
def okT (t : Nat → Nat) (tn : Nat) : Prop := tn ≤ 200 ∧ ∀ j, j < tn → 1 ≤ t j ∧ t j < 256
theorem cd_lt {t : Nat → Nat} {tn a : Nat} (h : okT t tn) : cd t tn a < 256 := by
  unfold cd
  split
  · exact (h.2 a (by assumption)).2
  · omega
theorem cd_0 {t : Nat → Nat} {tn a : Nat} (h : okT t tn) : cd t tn a = 0 ↔ tn ≤ a := by
  unfold cd
  split
  · have := h.2 a (by assumption); omega
  · omega
theorem isc_t {x : Nat} {α : Type} {o : Option α} (h : x < 256) : gd (isc (nI x)) o = o := by
  have : isc (nI x) = true := by
    unfold isc
    rw [(pk_charN (show x < 65536 by omega)).1]
    simp
  rw [this]; rfl
theorem codeAt_eq {t : Nat → Nat} {tn a : Nat} {μ : Mem} (h : okT t tn) (hT : TXC t tn μ) (ha : a < 2 ^ 31) : f_X6_codeAt (nI a) μ = some (nI (cd t tn a)) := by
  have h1 := h.1
  unfold f_X6_codeAt cd
  simp only [jn, if_neg (nI_pos ha), hT.1, nle_iff (show tn < 2 ^ 31 by omega) ha]
  by_cases c : a < tn
  · rw [if_neg (show ¬ tn ≤ a by omega), if_pos c, ig_t (by omega) (by omega), nI_clamp ha, hT.2 a c, isc_t (h.2 a c).2]
  · rw [if_pos (show tn ≤ a by omega), if_neg c]; rfl
/-- blanks are gone over -/
def skf (t : Nat → Nat) (tn : Nat) : Nat → Nat → Nat
  | 0, a => a
  | f + 1, a => if cd t tn a = 32 then skf t tn f (a + 1) else a
def sk (t : Nat → Nat) (tn a : Nat) : Nat := skf t tn 200 a
theorem skf_ge (t : Nat → Nat) (tn : Nat) : ∀ f a, a ≤ skf t tn f a := by
  intro f
  induction f with
  | zero => intro a; exact Nat.le_refl _
  | succ f ih => intro a; simp only [skf]; split; have := ih (a + 1); omega; omega
theorem skf_le {t : Nat → Nat} {tn : Nat} (h : okT t tn) : ∀ f a, a ≤ tn → skf t tn f a ≤ tn := by
  intro f
  induction f with
  | zero => intro a ha; exact ha
  | succ f ih =>
    intro a ha
    simp only [skf]
    split
    · rename_i c
      refine ih (a + 1) ?_
      have : ¬ cd t tn a = 0 := by omega
      rw [cd_0 h] at this
      omega
    · exact ha
theorem skf_nb {t : Nat → Nat} {tn : Nat} (h : okT t tn) : ∀ f a, tn ≤ a + f → ¬ cd t tn (skf t tn f a) = 32 := by
  intro f
  induction f with
  | zero =>
    intro a ha
    have : cd t tn a = 0 := (cd_0 h).mpr (by omega)
    simp only [skf]; omega
  | succ f ih =>
    intro a ha
    simp only [skf]
    split
    · exact ih (a + 1) (by omega)
    · assumption
theorem sk_nb {t : Nat → Nat} {tn a : Nat} (h : okT t tn) : ¬ cd t tn (sk t tn a) = 32 := skf_nb h 200 a (by have := h.1; omega)
theorem sk_ge {t : Nat → Nat} {tn a : Nat} : a ≤ sk t tn a := skf_ge t tn 200 a
theorem sk_le {t : Nat → Nat} {tn a : Nat} (h : okT t tn) (ha : a ≤ tn) : sk t tn a ≤ tn := skf_le h 200 a ha
theorem skf_id {t : Nat → Nat} {tn a : Nat} (h : ¬ cd t tn a = 32) : ∀ f, skf t tn f a = a := by
  intro f
  cases f with
  | zero => rfl
  | succ f => simp only [skf, if_neg h]
theorem sk_id {t : Nat → Nat} {tn a : Nat} (h : ¬ cd t tn a = 32) : sk t tn a = a := skf_id h 200
theorem sk_sk {t : Nat → Nat} {tn a : Nat} (h : okT t tn) : sk t tn (sk t tn a) = sk t tn a := sk_id (sk_nb h)
theorem sto_sto {μ : Mem} {k i j : Nat} {x y : Int32} : sto (sto μ k i j x) k i j y = sto μ k i j y := by
  funext k' i' j'
  by_cases h : k' = k ∧ i' = i ∧ j' = j
  · obtain ⟨rfl, rfl, rfl⟩ := h
    rw [sto_e, sto_e]
  · rw [sto_nj (by omega), sto_nj (by omega), sto_nj (by omega)]
theorem sto_self {μ : Mem} {k i j : Nat} {x : Int32} (h : μ k i j = x) : sto μ k i j x = μ := by
  funext k' i' j'
  by_cases c : k' = k ∧ i' = i ∧ j' = j
  · obtain ⟨rfl, rfl, rfl⟩ := c
    rw [sto_e, h]
  · rw [sto_nj (by omega)]
theorem skip_L {t : Nat → Nat} {tn : Nat} (h : okT t tn) (κ : Mem → Option (Unit × Mem)) : ∀ f a n τ μ, f + τ = 200 → f < n → a + f < 2 ^ 31 → TXC t tn μ → μ 1 0 11 = nI a → f_X5_skipBlanks_L2 κ n (nI τ) μ = κ (sto μ 1 0 11 (nI (skf t tn f a))) := by
  intro f
  induction f with
  | zero =>
    intro a n τ μ h1 h2 h3 hT h4
    obtain ⟨n, rfl⟩ : ∃ q, n = q + 1 := ⟨n - 1, by omega⟩
    simp only [f_X5_skipBlanks_L2, il200, nle_t (show 200 ≤ τ by omega) (show τ < 2 ^ 31 by omega), if_true, skf]
    rw [sto_self h4]
  | succ f ih =>
    intro a n τ μ h1 h2 h3 hT h4
    obtain ⟨n, rfl⟩ : ∃ q, n = q + 1 := ⟨n - 1, by omega⟩
    have hc := cd_lt (a := a) h
    simp only [f_X5_skipBlanks_L2, il200, nle_f (show τ < 200 by omega) (show 200 < 2 ^ 31 by omega), if_false, h4, codeAt_eq h hT (show a < 2 ^ 31 by omega), bP_s, il32, neq_iff (show cd t tn a < 2 ^ 31 by omega) (show 32 < 2 ^ 31 by omega), lt, ← nI_succ, skf]
    by_cases c : cd t tn a = 32
    · rw [if_pos c, if_pos c, ih (a + 1) n (τ + 1) _ (by omega) (by omega) (by omega) ⟨by rw [sto_k (by omega)]; exact hT.1, fun j hj => by rw [sto_k (by omega)]; exact hT.2 j hj⟩ sto_e, sto_sto]
    · rw [if_neg c, if_neg c, sto_self h4]
theorem skip_eq {t : Nat → Nat} {tn a : Nat} {μ : Mem} (h : okT t tn) (hT : TXC t tn μ) (ha : a ≤ 1000) (h4 : μ 1 0 11 = nI a) : f_X5_skipBlanks μ = some ((), sto μ 1 0 11 (nI (sk t tn a))) := by
  unfold f_X5_skipBlanks sk
  rw [il0, skip_L h _ 200 a 1000 0 μ (by omega) (by omega) (by omega) hT h4]
/-- the reference's -/
theorem ahead_L {t : Nat → Nat} {tn : Nat} (h : okT t tn) (κ : Mem → Option (Int32 × Mem)) : ∀ f a n τ μ, f + τ = 200 → f < n → a + f < 2 ^ 31 → TXM t tn μ → μ 30 0 11 = nI a → f_X8_ahead_L2 κ n (nI τ) μ = κ (sto μ 30 0 11 (nI (skf t tn f a))) := by
  have h1 := h.1
  intro f
  induction f with
  | zero =>
    intro a n τ μ h1 h2 h3 hT h4
    obtain ⟨n, rfl⟩ : ∃ q, n = q + 1 := ⟨n - 1, by omega⟩
    simp only [f_X8_ahead_L2, il200, nle_t (show 200 ≤ τ by omega) (show τ < 2 ^ 31 by omega), if_true, skf]
    rw [sto_self h4]
  | succ f ih =>
    intro a n τ μ h1 h2 h3 hT h4
    obtain ⟨n, rfl⟩ : ∃ q, n = q + 1 := ⟨n - 1, by omega⟩
    simp only [f_X8_ahead_L2, il200, nle_f (show τ < 200 by omega) (show 200 < 2 ^ 31 by omega), if_false, h4, hT.1, nle_iff (show tn < 2 ^ 31 by omega) (show a < 2 ^ 31 by omega), lt, jn, ← nI_succ]
    -- a place that is no blank stays
    have stay : ∀ f' n' τ', f' + τ' = 200 → f' < n' → ¬ cd t tn a = 32 → f_X8_ahead_L2 κ n' (nI τ') μ = κ μ := by
      intro f'
      induction f' with
      | zero =>
        intro n' τ' q1 q2 q3
        obtain ⟨n', rfl⟩ : ∃ q, n' = q + 1 := ⟨n' - 1, by omega⟩
        simp only [f_X8_ahead_L2, il200, nle_t (show 200 ≤ τ' by omega) (show τ' < 2 ^ 31 by omega), if_true]
      | succ f' ih' =>
        intro n' τ' q1 q2 q3
        obtain ⟨n', rfl⟩ : ∃ q, n' = q + 1 := ⟨n' - 1, by omega⟩
        simp only [f_X8_ahead_L2, il200, nle_f (show τ' < 200 by omega) (show 200 < 2 ^ 31 by omega), if_false, h4, hT.1, nle_iff (show tn < 2 ^ 31 by omega) (show a < 2 ^ 31 by omega), lt, jn, ← nI_succ]
        by_cases c : tn ≤ a
        · rw [if_pos c]; exact ih' n' (τ' + 1) (by omega) (by omega) q3
        · have q4 : ¬ t a = 32 := by unfold cd at q3; rw [if_pos (by omega)] at q3; exact q3
          have := (h.2 a (by omega)).2
          rw [if_neg c, ig_t (by omega) (by omega), nI_clamp (by omega), hT.2 a (by omega), if_neg (by rw [il32, neq_iff (by omega) (by omega)]; exact q4)]
          exact ih' n' (τ' + 1) (by omega) (by omega) q3
    by_cases c : tn ≤ a
    · have q3 : ¬ cd t tn a = 32 := by rw [(cd_0 h).mpr c]; omega
      rw [if_pos c, stay f n (τ + 1) (by omega) (by omega) q3]
      simp only [skf, if_neg q3]
      rw [sto_self h4]
    · have := (h.2 a (by omega)).2
      have q5 : cd t tn a = t a := by unfold cd; rw [if_pos (by omega)]
      rw [if_neg c, ig_t (by omega) (by omega), nI_clamp (by omega), hT.2 a (by omega), il32]
      simp only [neq_iff (show t a < 2 ^ 31 by omega) (show 32 < 2 ^ 31 by omega), skf, q5]
      by_cases c2 : t a = 32
      · rw [if_pos c2, if_pos c2, ih (a + 1) n (τ + 1) _ (by omega) (by omega) (by omega) ⟨by rw [sto_j (by omega)]; exact hT.1, fun j hj => by rw [sto_k (by omega)]; exact hT.2 j hj⟩ sto_e, sto_sto]
      · rw [if_neg c2, if_neg c2, stay f n (τ + 1) (by omega) (by omega) (by rw [q5]; exact c2), sto_self h4]
theorem ahead_eq {t : Nat → Nat} {tn a : Nat} {μ : Mem} (h : okT t tn) (hT : TXM t tn μ) (ha : a ≤ 1000) (h4 : μ 30 0 11 = nI a) : f_X8_ahead μ = some (nI (cd t tn (sk t tn a)), sto μ 30 0 11 (nI (sk t tn a))) := by
  have h1 := h.1
  unfold f_X8_ahead
  rw [il0, ahead_L h _ 200 a 1000 0 μ (by omega) (by omega) (by omega) hT h4]
  have hb : sk t tn a ≤ 1200 := by
    by_cases c : a ≤ tn
    · have := sk_le h c; omega
    · have : sk t tn a = a := sk_id (by rw [(cd_0 h).mpr (by omega)]; omega)
      omega
  rw [show skf t tn 200 a = sk t tn a from rfl]
  generalize sk t tn a = b at *
  simp only [sto_j (show (1 : Nat) ≠ 11 by omega), hT.1, sto_e, nle_iff (show tn < 2 ^ 31 by omega) (show b < 2 ^ 31 by omega)]
  unfold cd
  by_cases c : tn ≤ b
  · rw [if_pos c, if_neg (by omega)]
  · rw [if_neg c, if_pos (by omega), ig_t (by omega) (by omega), nI_clamp (by omega), sto_k (by omega), hT.2 b (by omega)]
def dig (c : Nat) : Bool := decide (48 ≤ c ∧ c ≤ 57)
theorem digC_eq {c : Nat} {μ : Mem} (h : c < 256) : f_X5_isDigit (nI c) μ = some (if dig c = true then 1 else 0) := by
  unfold f_X5_isDigit dig
  simp only [jn, il48, il57, nlt_iff (show c < 2 ^ 31 by omega) (show 48 < 2 ^ 31 by omega), nlt_iff (show 57 < 2 ^ 31 by omega) (show c < 2 ^ 31 by omega), decide_eq_true_eq]
  by_cases c1 : c < 48
  · rw [if_pos c1, if_neg (by omega)]
  · rw [if_neg c1]
    by_cases c2 : 57 < c
    · rw [if_pos c2, if_neg (by omega)]
    · rw [if_neg c2, if_pos (by omega)]
theorem digM_eq {c : Nat} {μ : Mem} (h : c < 256) : f_X8_digit (nI c) μ = some (if dig c = true then 1 else 0) := by
  unfold f_X8_digit dig
  simp only [jn, il48, il57, nlt_iff (show c < 2 ^ 31 by omega) (show 48 < 2 ^ 31 by omega), nlt_iff (show 57 < 2 ^ 31 by omega) (show c < 2 ^ 31 by omega), decide_eq_true_eq]
  by_cases c1 : c < 48
  · rw [if_pos c1, if_neg (by omega)]
  · rw [if_neg c1]
    by_cases c2 : 57 < c
    · rw [if_pos c2, if_neg (by omega)]
    · rw [if_neg c2, if_pos (by omega)]
theorem nameC_eq {c : Nat} {μ : Mem} (h : c < 256) : f_X5_isName (nI c) μ = some (if 65 ≤ c ∧ c < 73 then 1 else 0) := by
  unfold f_X5_isName
  simp only [jn, il65, il73, nlt_iff (show c < 2 ^ 31 by omega) (show 65 < 2 ^ 31 by omega), nle_iff (show 73 < 2 ^ 31 by omega) (show c < 2 ^ 31 by omega)]
  by_cases c1 : c < 65
  · rw [if_pos c1, if_neg (by omega)]
  · rw [if_neg c1]
    by_cases c2 : 73 ≤ c
    · rw [if_pos c2, if_neg (by omega)]
    · rw [if_neg c2, if_pos (by omega)]
theorem nfC_eq {c : Nat} {μ : Mem} (h : c < 256) : f_X5_isNumberFunction (nI c) μ = some (if sgl.contains c = true then 1 else 0) := by
  obtain ⟨v, h1, h2⟩ := ix_eq (j := 0) (by omega) h μ
  unfold f_X5_isNumberFunction
  rw [h1, bP_s]
  have e : (kStr.getD 0 []) = sgl := rfl
  rw [e] at h2
  by_cases c1 : sgl.contains c = true
  · rw [if_pos c1, if_neg (fun q => (h2.mp q) c1)]
  · rw [if_neg c1, if_pos (h2.mpr c1)]
theorem plain_dec : ∀ c, c < 256 → f_X8_plain (nI c) (fun _ _ _ => 0) = some (if sgl.contains c = true then nI (sgl.idxOf c) else -1) := by decide +kernel
theorem plain_eq {c : Nat} {μ : Mem} (h : c < 256) : f_X8_plain (nI c) μ = some (if sgl.contains c = true then nI (sgl.idxOf c) else -1) := plain_dec c h
theorem sgl_ix : ∀ c, c < 256 → sgl.contains c = true → sgl.idxOf c < 10 ∧ sgl.getD (sgl.idxOf c) 0 = c := by decide +kernel
/-! a number's digits -/
def ndf (t : Nat → Nat) (tn : Nat) : Nat → Nat → Nat → Nat × Nat
  | 0, a, v => (v, a)
  | f + 1, a, v => if dig (cd t tn a) = true then ndf t tn f (a + 1) (10 * v + (cd t tn a - 48)) else (v, a)
theorem ndf_ge (t : Nat → Nat) (tn : Nat) : ∀ f a v, a ≤ (ndf t tn f a v).2 ∧ (ndf t tn f a v).2 ≤ a + f := by
  intro f
  induction f with
  | zero => intro a v; simp [ndf]
  | succ f ih => intro a v; simp only [ndf]; split; have := ih (a + 1) (10 * v + (cd t tn a - 48)); omega; simp
theorem ndf_le {t : Nat → Nat} {tn : Nat} (h : okT t tn) : ∀ f a v, a ≤ tn → (ndf t tn f a v).2 ≤ tn := by
  intro f
  induction f with
  | zero => intro a v ha; exact ha
  | succ f ih =>
    intro a v ha
    simp only [ndf]
    split
    · rename_i c
      refine ih (a + 1) _ ?_
      have : ¬ cd t tn a = 0 := by unfold dig at c; simp at c; omega
      rw [cd_0 h] at this
      omega
    · exact ha
theorem numC_L {t : Nat → Nat} {tn : Nat} (h : okT t tn) (κ : Int32 → Int32 → Mem → Option (Int32 × Mem)) {c1 : Int32} : ∀ f a v m n μ, f + m = 9 → f < n → a + f < 2 ^ 31 → TXC t tn μ → μ 1 0 11 = nI a → f_X5_readNumber_L40 κ c1 n (nI v) (nI m) μ = κ (nI (ndf t tn f a v).1) (nI (m + ((ndf t tn f a v).2 - a))) (sto μ 1 0 11 (nI (ndf t tn f a v).2)) := by
  intro f
  induction f with
  | zero =>
    intro a v m n μ h1 h2 h3 hT h4
    obtain ⟨n, rfl⟩ : ∃ q, n = q + 1 := ⟨n - 1, by omega⟩
    simp only [f_X5_readNumber_L40, il9, nle_t (show 9 ≤ m by omega) (show m < 2 ^ 31 by omega), if_true, ndf]
    rw [sto_self h4, Nat.sub_self, Nat.add_zero]
  | succ f ih =>
    intro a v m n μ h1 h2 h3 hT h4
    obtain ⟨n, rfl⟩ : ∃ q, n = q + 1 := ⟨n - 1, by omega⟩
    have hc := cd_lt (a := a) h
    simp only [f_X5_readNumber_L40, il9, nle_f (show m < 9 by omega) (show 9 < 2 ^ 31 by omega), if_false, h4, codeAt_eq h hT (show a < 2 ^ 31 by omega), bP_s, digC_eq hc, ndf]
    by_cases c : dig (cd t tn a) = true
    · have hd : 48 ≤ cd t tn a := by unfold dig at c; simp at c; omega
      rw [if_pos c, if_neg (by decide)]
      simp only [if_pos c, lt, il48, pk_sub hd, il10, pk_mul, nI_add, ← nI_succ]
      rw [ih (a + 1) _ (m + 1) n _ (by omega) (by omega) (by omega) ⟨by rw [sto_k (by omega)]; exact hT.1, fun j hj => by rw [sto_k (by omega)]; exact hT.2 j hj⟩ sto_e, sto_sto]
      have := (ndf_ge t tn f (a + 1) (10 * v + (cd t tn a - 48))).1
      congr 2
      omega
    · simp only [if_neg c, if_true]
      rw [sto_self h4, Nat.sub_self, Nat.add_zero]
theorem numM_L {t : Nat → Nat} {tn : Nat} (h : okT t tn) (κ : Int32 → Int32 → Mem → Option (Int32 × Mem)) {c1 c2 c4 : Int32} : ∀ f a v m n μ, f + m = 9 → f < n → a + f < 2 ^ 31 → TXM t tn μ → μ 30 0 11 = nI a → f_X8_row_L68 κ c1 c2 c4 n (nI v) (nI m) μ = κ (nI (ndf t tn f a v).1) (nI (m + ((ndf t tn f a v).2 - a))) (sto μ 30 0 11 (nI (ndf t tn f a v).2)) := by
  have h1 := h.1
  intro f
  induction f with
  | zero =>
    intro a v m n μ h1' h2 h3 hT h4
    obtain ⟨n, rfl⟩ : ∃ q, n = q + 1 := ⟨n - 1, by omega⟩
    simp only [f_X8_row_L68, h4, hT.1, nle_iff (show tn < 2 ^ 31 by omega) (show a < 2 ^ 31 by omega), ndf]
    rw [sto_self h4, Nat.sub_self, Nat.add_zero]
    by_cases c : tn ≤ a
    · rw [if_pos c]
    · have hc := (h.2 a (by omega)).2
      rw [if_neg c, ig_t (by omega) (by omega), nI_clamp (by omega), hT.2 a (by omega), digM_eq hc, bP_s]
      simp only [il9, nle_t (show 9 ≤ m by omega) (show m < 2 ^ 31 by omega), if_true, ite_self]
  | succ f ih =>
    intro a v m n μ h1' h2 h3 hT h4
    obtain ⟨n, rfl⟩ : ∃ q, n = q + 1 := ⟨n - 1, by omega⟩
    simp only [f_X8_row_L68, h4, hT.1, nle_iff (show tn < 2 ^ 31 by omega) (show a < 2 ^ 31 by omega), ndf]
    by_cases c : tn ≤ a
    · have q3 : ¬ dig (cd t tn a) = true := by rw [(cd_0 h).mpr c]; decide
      rw [if_pos c]
      simp only [if_neg q3]
      rw [sto_self h4, Nat.sub_self, Nat.add_zero]
    · have hc := (h.2 a (by omega)).2
      have q5 : cd t tn a = t a := by unfold cd; rw [if_pos (by omega)]
      rw [if_neg c, ig_t (by omega) (by omega), nI_clamp (by omega), hT.2 a (by omega), digM_eq hc, bP_s]
      simp only [q5, il9, nle_f (show m < 9 by omega) (show 9 < 2 ^ 31 by omega), if_false, ig_t (show a < 200 by omega) (show 200 < 2 ^ 31 by omega), lt]
      by_cases c2 : dig (t a) = true
      · have hd : 48 ≤ t a := by unfold dig at c2; simp at c2; omega
        rw [if_pos c2, if_neg (by decide)]
        simp only [if_pos c2, il48, il10, pk_mul, nI_add, pk_sub (show 48 ≤ 10 * v + t a by omega), ← nI_succ]
        rw [show 10 * v + t a - 48 = 10 * v + (t a - 48) by omega]
        rw [ih (a + 1) _ (m + 1) n _ (by omega) (by omega) (by omega) ⟨by rw [sto_j (by omega)]; exact hT.1, fun j hj => by rw [sto_k (by omega)]; exact hT.2 j hj⟩ sto_e, sto_sto]
        have := (ndf_ge t tn f (a + 1) (10 * v + (t a - 48))).1
        congr 2
        omega
      · simp only [if_neg c2, if_true]
        rw [sto_self h4, Nat.sub_self, Nat.add_zero]
