/-! ===== f/ : of the class, of the reference ===== -/
theorem fold_L {f : Nat} (hf : f < 10) {k i : Nat} {μ : Mem} {s : Nat} (κ : Int32 → Option (Except Nat Int32)) : ∀ (m n : Nat) (v : Int32), m < n → s + m ≤ 48 →
    f_X3_fold_L23 κ (sg f) k i (nI s) μ n v (nI m - 1) = match foL f (fun j => μ k i (s + j)) m v with
      | .error e => some (.error e)
      | .ok w => κ w := by
  intro m
  induction m with
  | zero =>
    intro n v h1 h2
    obtain ⟨n', rfl⟩ : ∃ n', n = n' + 1 := ⟨n - 1, by omega⟩
    have h3 : nI 0 - 1 < 0 := by decide
    simp only [f_X3_fold_L23, if_pos h3, foL]
  | succ m ih =>
    intro n v h1 h2
    obtain ⟨n', rfl⟩ : ∃ n', n = n' + 1 := ⟨n - 1, by omega⟩
    have e1 : nI (m + 1) - 1 = nI m := nI_pred m
    have e2 : nI m + (-1) = nI m - 1 := by rw [Int32.sub_eq_add_neg]
    rw [e1]
    simp only [f_X3_fold_L23, if_neg (nI_pos (show m < 2 ^ 31 by omega)), nI_add, ig_t (show s + m < 48 by omega) (by omega), nI_clamp (show s + m < 2 ^ 31 by omega), work_eq hf, lt, e2, foL]
    cases num f (μ k i (s + m)) v with
    | error e => rfl
    | ok w => exact ih n' w (by omega) (by omega)
theorem ofNothing_eq {f : Nat} (hf : f < 10) (μ : Mem) (R : Nat → Int32) : f_X3_ofNothing (sg f) μ = some (fo f R 0) := by
  obtain ⟨s0, s1, s2, s3, s4, s5, s6, s7, s8, s9⟩ := sg_vals
  rcases f10 hf with rfl | rfl | rfl | rfl | rfl | rfl | rfl | rfl | rfl | rfl
  · rw [s0]; rfl
  · rw [s1]; rfl
  · rw [s2]; rfl
  · rw [s3]; rfl
  · rw [s4]; rfl
  · rw [s5]; rfl
  · rw [s6]; rfl
  · rw [s7]; rfl
  · rw [s8]; rfl
  · rw [s9]; rfl
/-- the class's fold of n cells from s on -/
theorem fold_eq {f : Nat} (hf : f < 10) {k i : Nat} {μ : Mem} {s n : Nat} (h : s + n ≤ 48) : f_X3_fold (sg f) k i (nI s) (nI n) μ = some (fo f (fun j => μ k i (s + j)) n) := by
  cases n with
  | zero =>
    unfold f_X3_fold
    rw [if_pos nI_0, ofNothing_eq hf μ (fun j => μ k i (s + j)), bT_id]
  | succ n =>
    have e1 : nI s + nI (n + 1) - 1 = nI (s + n) := by rw [nI_add, ← Nat.add_assoc, nI_pred]
    have e2 : nI (n + 1) - 2 = nI n - 1 := by
      rw [show (2 : Int32) = 1 + 1 from rfl, ← Int32.sub_sub, nI_pred]
    unfold f_X3_fold
    simp only [if_neg (nI_ne0 (show 0 < n + 1 by omega) (by omega)), e1, e2, ig_t (show s + n < 48 by omega) (by omega), nI_clamp (show s + n < 2 ^ 31 by omega), lt]
    rw [fold_L hf _ n 1000 _ (by omega) (by omega)]
    simp only [fo]
    cases foL f (fun j => μ k i (s + j)) n (μ k i (s + n)) <;> rfl
/-! the reference's -/
theorem fm_42 {μ : Mem} {x : Except Nat Int32} {i : Nat} : fm μ x 42 i = μ 42 i := by
  cases x with
  | ok v => rfl
  | error e => exact sto_k (by omega)
theorem folded_L {f : Nat} (hf : f < 10) (κ : Int32 → Mem → Option (Int32 × Mem)) : ∀ (m n : Nat) (v : Int32) (μ : Mem), m < n → m ≤ 48 → μ 30 0 16 = 0 →
    ∃ w, f_X8_folded_L43 κ (nI f) n v (nI m - 1) μ = κ w (fm μ (foL f (μ 42 0) m v)) ∧ ∀ u, foL f (μ 42 0) m v = .ok u → w = u := by
  intro m
  induction m with
  | zero =>
    intro n v μ h1 h2 h3
    obtain ⟨n', rfl⟩ : ∃ n', n = n' + 1 := ⟨n - 1, by omega⟩
    have h4 : nI 0 - 1 < 0 := by decide
    refine ⟨v, ?_, fun u h => by cases h; rfl⟩
    simp only [f_X8_folded_L43, if_pos h4]
    rfl
  | succ m ih =>
    intro n v μ h1 h2 h3
    obtain ⟨n', rfl⟩ : ∃ n', n = n' + 1 := ⟨n - 1, by omega⟩
    have e1 : nI (m + 1) - 1 = nI m := nI_pred m
    have e2 : nI m + (-1) = nI m - 1 := by rw [Int32.sub_eq_add_neg]
    obtain ⟨w, h4, h5⟩ := number_eq hf (μ 42 0 m) v μ
    rw [e1]
    simp only [f_X8_folded_L43, if_neg (nI_pos (show m < 2 ^ 31 by omega)), if_pos h3, ig_t (show m < 49 by omega) (by omega), nI_clamp (show m < 2 ^ 31 by omega), h4, bW_s, lt, e2, foL]
    cases hq : num f (μ 42 0 m) v with
    | error e =>
      refine ⟨w, ?_, fun u h => by cases h⟩
      obtain ⟨n2, rfl⟩ : ∃ n2, n' = n2 + 1 := ⟨n' - 1, by omega⟩
      have h6 : ¬ nI e = 0 := by rcases num_err hq with rfl | rfl <;> decide
      by_cases h7 : nI m - 1 < 0
      · simp only [f_X8_folded_L43, if_pos h7]
      · simp only [f_X8_folded_L43, if_neg h7, fm, sto_e, if_neg h6]
    | ok u =>
      obtain ⟨w2, h6, h7⟩ := ih n' u μ (by omega) (by omega) h3
      have h8 := h5 u hq
      subst h8
      exact ⟨w2, h6, h7⟩
theorem folded_eq {f : Nat} (hf : f < 10) {μ : Mem} {n : Nat} (h : n ≤ 48) (h0 : μ 30 0 16 = 0) : Nr μ (fo f (μ 42 0) n) (f_X8_folded (nI f) (nI n) μ) := by
  cases n with
  | zero =>
    unfold f_X8_folded
    rw [if_pos nI_0]
    rcases f10 hf with rfl | rfl | rfl | rfl | rfl | rfl | rfl | rfl | rfl | rfl
    · exact Nr_ok μ 0
    · exact ⟨0, rfl, fun v h => by cases h⟩
    · exact Nr_ok μ 1
    all_goals exact ⟨0, rfl, fun v h => by cases h⟩
  | succ n =>
    have e2 : nI (n + 1) - 2 = nI n - 1 := by
      rw [show (2 : Int32) = 1 + 1 from rfl, ← Int32.sub_sub, nI_pred]
    unfold f_X8_folded
    obtain ⟨w, h1, h2⟩ := folded_L hf (fun v μ => some (v, μ)) n 1000 (μ 42 0 n) μ (by omega) (by omega) h0
    simp only [if_neg (nI_ne0 (show 0 < n + 1 by omega) (by omega)), nI_pred, e2, ig_t (show n < 49 by omega) (by omega), nI_clamp (show n < 2 ^ 31 by omega), lt]
    exact ⟨w, h1, h2⟩
