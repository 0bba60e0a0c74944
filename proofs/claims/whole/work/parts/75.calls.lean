/-! ===== the other calls, both sides ===== -/
section CLS
variable {μC μM : Mem}
theorem th_k {μ : Mem} {x : Int32} {k i j : Nat} (h : k ≠ 30 ∨ j ≠ 17) : sto μ 30 0 17 x k i j = μ k i j := sto_nj (by omega)
theorem th_SA {μ : Mem} {x : Int32} {s : Nat} {A : Arr} (hW : WA A) (h : SA μ s A) : SA (sto μ 30 0 17 x) s A := SAk (th_k (by omega)) (fun k _ => th_k (by omega)) (fun k _ => th_k (by omega)) hW h
theorem rank_eq (h : Inv μC μM) : ∃ v μM', f_X7_rank μC = some v ∧ f_X8_rank μM = some (v, μM') ∧ Inv μC μM' := by
  obtain ⟨A, hA, hG, hS⟩ := h.2.1
  unfold f_X7_rank f_X8_rank
  simp only [lt, il17, ig_t (show 17 < 20 by omega) (show 20 < 2 ^ 31 by omega), nI_clamp (show 17 < 2 ^ 31 by omega)]
  rw [th_k (by omega), hG.1, hS.1]
  exact ⟨_, _, rfl, rfl, h.th⟩
theorem axis_eq (x : Int32) (h : Inv μC μM) : ∃ v μM', f_X7_axis x μC = some v ∧ f_X8_axis x μM = some (v, μM') ∧ Inv μC μM' := by
  obtain ⟨A, hA, hG, hS⟩ := h.2.1
  have hS1 := th_SA (x := 0) hA hS
  have h3 := hA.1
  unfold f_X7_axis f_X8_axis
  simp only [lt, jn]
  by_cases c : x < 0
  · rw [if_pos c, if_pos c]
    exact ⟨_, _, rfl, rfl, h.th⟩
  · rw [if_neg c, if_neg c]
    obtain ⟨k, hk, rfl⟩ := nI_of c
    simp only [il17, ig_t (show 17 < 20 by omega) (show 20 < 2 ^ 31 by omega), nI_clamp (show 17 < 2 ^ 31 by omega), nI_clamp hk]
    rw [hG.1, hS1.1]
    simp only [nle_iff (show A.1 < 2 ^ 31 by omega) hk, nlt_iff hk (show A.1 < 2 ^ 31 by omega)]
    by_cases c2 : k < A.1
    · rw [if_neg (show ¬ A.1 ≤ k by omega), if_pos c2, ig_t (by omega) (by omega), axisOf_eq (by omega), bP_s, hG.2.2.1 k c2, hS1.2.1 k c2]
      exact ⟨_, _, rfl, rfl, h.th⟩
    · rw [if_pos (show A.1 ≤ k by omega), if_neg c2]
      exact ⟨_, _, rfl, rfl, h.th⟩
theorem size_eq (h : Inv μC μM) : ∃ v μM', f_X7_size μC = some v ∧ f_X8_size μM = some (v, μM') ∧ Inv μC μM' := by
  obtain ⟨A, hA, hG, hS⟩ := h.2.1
  have hS1 := th_SA (x := 0) hA hS
  unfold f_X7_size f_X8_size
  simp only [lt, il17]
  rw [sizeOf_eq (by omega) hA hS1, bP_s, hG.2.1]
  exact ⟨_, _, rfl, rfl, h.th⟩
theorem element_eq (x : Int32) (h : Inv μC μM) : ∃ v μM', f_X7_element x μC = some v ∧ f_X8_element x μM = some (v, μM') ∧ Inv μC μM' := by
  obtain ⟨A, hA, hG, hS⟩ := h.2.1
  have hS1 := th_SA (x := 0) hA hS
  have h3 := hA.2.2
  unfold f_X7_element f_X8_element
  simp only [lt, jn]
  by_cases c : x < 0
  · rw [if_pos c, if_pos c]
    exact ⟨_, _, rfl, rfl, h.th⟩
  · rw [if_neg c, if_neg c]
    obtain ⟨k, hk, rfl⟩ := nI_of c
    simp only [il17, nI_clamp hk]
    rw [sizeOf_eq (by omega) hA hS1, bP_s, hG.2.1]
    simp only [nle_iff (show sz A < 2 ^ 31 by omega) hk, nlt_iff hk (show sz A < 2 ^ 31 by omega)]
    by_cases c2 : k < sz A
    · rw [if_neg (show ¬ sz A ≤ k by omega), if_pos c2, ig_t (by omega) (by omega), get_eq (by omega), bP_s, hG.2.2.2 k c2, hS1.2.2 k c2]
      exact ⟨_, _, rfl, rfl, h.th⟩
    · rw [if_pos (show sz A ≤ k by omega), if_neg c2]
      exact ⟨_, _, rfl, rfl, h.th⟩
def smf (D : Nat → Int32) : Nat → Nat → Int64 → Int64
  | 0, _, v => v
  | f + 1, k, v => smf D f (k + 1) (v + (D k).toInt64)
theorem sumC_L {μ : Mem} {A : Arr} (hA : WA A) (hG : GA μ 17 A) : ∀ f k n v, f + k = sz A → f < n → f_X7_sum_L4 (fun a => some a) μ n v (nI k) = some (smf A.2.2 f k v) := by
  have h3 := hA.2.2
  intro f
  induction f with
  | zero =>
    intro k n v h1 h2
    obtain ⟨n, rfl⟩ : ∃ q, n = q + 1 := ⟨n - 1, by omega⟩
    simp only [f_X7_sum_L4, hG.2.1, nle_t (show sz A ≤ k by omega) (show k < 2 ^ 31 by omega), if_true, smf]
  | succ f ih =>
    intro k n v h1 h2
    obtain ⟨n, rfl⟩ : ∃ q, n = q + 1 := ⟨n - 1, by omega⟩
    simp only [f_X7_sum_L4, hG.2.1, nle_f (show k < sz A by omega) (show sz A < 2 ^ 31 by omega), if_false, ig_t (show k < 48 by omega) (show 48 < 2 ^ 31 by omega), nI_clamp (show k < 2 ^ 31 by omega), hG.2.2.2 k (by omega), lt, ← nI_succ, smf]
    exact ih (k + 1) n _ (by omega) (by omega)
theorem sumM_L {μ μ' : Mem} {A : Arr} (hA : WA A) (hS : SA μ 17 A) : ∀ f k n v, f + k = sz A → f < n → f_X8_sum_L9 (fun a => some (a, μ')) μ n v (nI k) = some (smf A.2.2 f k v, μ') := by
  have h3 := hA.2.2
  intro f
  induction f with
  | zero =>
    intro k n v h1 h2
    obtain ⟨n, rfl⟩ : ∃ q, n = q + 1 := ⟨n - 1, by omega⟩
    simp only [f_X8_sum_L9, il17, sizeOf_eq (show 17 < 20 by omega) hA hS, bP_s, nle_t (show sz A ≤ k by omega) (show k < 2 ^ 31 by omega), if_true, smf]
  | succ f ih =>
    intro k n v h1 h2
    obtain ⟨n, rfl⟩ : ∃ q, n = q + 1 := ⟨n - 1, by omega⟩
    simp only [f_X8_sum_L9, il17, sizeOf_eq (show 17 < 20 by omega) hA hS, bP_s, nle_f (show k < sz A by omega) (show sz A < 2 ^ 31 by omega), if_false, get_eq (show 48 * 17 + k < 960 by omega), hS.2.2 k (by omega), lt, ← nI_succ, smf]
    exact ih (k + 1) n _ (by omega) (by omega)
theorem sum_eq (h : Inv μC μM) : ∃ v μM', f_X7_sum μC = some v ∧ f_X8_sum μM = some (v, μM') ∧ Inv μC μM' := by
  obtain ⟨A, hA, hG, hS⟩ := h.2.1
  have hS1 := th_SA (x := 0) hA hS
  have h3 := hA.2.2
  refine ⟨smf A.2.2 (sz A) 0 0, sto μM 30 0 17 0, ?_, ?_, h.th⟩
  · unfold f_X7_sum
    rw [il0]
    exact sumC_L hA hG (sz A) 0 1000 0 (by omega) (by omega)
  · unfold f_X8_sum
    simp only [lt]
    have := sumM_L (μ' := sto μM 30 0 17 0) hA hS1 (sz A) 0 1000 0 (by omega) (by omega)
    exact this
theorem has_big {k : Nat} {μ : Mem} (hk : k < 2 ^ 31) (h8 : 8 ≤ k) : f_X2_has (nI k) μ = some 0 := by
  unfold f_X2_has
  simp only [jn, if_neg (nI_pos hk), il8, nle_t h8 hk, if_true]
theorem has_neg {x : Int32} {μ : Mem} (h : x < 0) : f_X2_has x μ = some 0 := by
  unfold f_X2_has
  simp only [jn, if_pos h]
theorem held_eq (x : Int32) (h : Inv μC μM) : ∃ v μM', f_X7_held x μC = some v ∧ f_X8_held x μM = some (v, μM') ∧ Inv μC μM' := by
  have hN := h.2.2.1
  have i10 : ¬ (1 : Int32) = 0 := by decide
  unfold f_X7_held f_X8_held
  simp only [lt, jn]
  by_cases c : x < 0
  · rw [if_pos c, has_neg c, bP_s, if_pos rfl]
    exact ⟨_, _, rfl, rfl, h.th⟩
  · rw [if_neg c]
    obtain ⟨k, hk, rfl⟩ := nI_of c
    simp only [il7, nlt_iff (show 7 < 2 ^ 31 by omega) hk]
    by_cases c2 : 7 < k
    · rw [if_pos c2, has_big hk (by omega), bP_s, if_pos rfl]
      exact ⟨_, _, rfl, rfl, h.th⟩
    · rw [if_neg c2, has_eq (by omega), bP_s, il9, nI_add, ig_t (by omega) (by omega), nI_clamp (by omega), nI_clamp (by omega), ig_t (by omega) (by omega), gd_d (by omega), th_k (by omega)]
      rcases hN k (by omega) with ⟨z1, z2⟩ | ⟨z1, B, z2, z3, z4⟩
      · rw [if_pos z1, if_pos rfl, z2, if_neg (show ¬ (0 : Int32) ≤ -1 by decide)]
        exact ⟨_, _, rfl, rfl, h.th⟩
      · have := z2.1
        rw [if_neg (show ¬ μC 13 0 k = 0 by rw [z1]; exact i10), if_neg i10, z4.1, if_pos (nI_pos' (by omega)), sizeOf_eq (by omega) z2 (th_SA z2 z4), bP_s, z3.2.1]
        exact ⟨_, _, rfl, rfl, h.th⟩
theorem forget_eq (x : Int32) (h : Inv μC μM) : ∃ v μC' μM', f_X7_forget x μC = some (v, μC') ∧ f_X8_forget x μM = some (v, μM') ∧ Inv μC' μM' ∧ (v = 0 ∨ v = 1) := by
  have hN := h.2.2.1
  have i10 : ¬ (1 : Int32) = 0 := by decide
  unfold f_X7_forget f_X8_forget
  simp only [lt]
  by_cases c : x < 0
  · rw [if_pos c, has_neg c, bP_s, if_pos rfl]
    exact ⟨_, _, _, rfl, rfl, h.th, Or.inl rfl⟩
  · rw [if_neg c]
    obtain ⟨k, hk, rfl⟩ := nI_of c
    simp only [il7, nlt_iff (show 7 < 2 ^ 31 by omega) hk]
    by_cases c2 : 7 < k
    · rw [if_pos c2, has_big hk (by omega), bP_s, if_pos rfl]
      exact ⟨_, _, _, rfl, rfl, h.th, Or.inl rfl⟩
    · rw [if_neg c2, has_eq (by omega), bP_s, il9, nI_add, ig_t (by omega) (by omega), nI_clamp (by omega), nI_clamp (by omega), ig_t (by omega) (by omega), ig_t (by omega) (by omega), nar0, th_k (by omega)]
      rcases hN k (by omega) with ⟨z1, z2⟩ | ⟨z1, B, z2, z3, z4⟩
      · rw [if_pos z1, if_pos rfl, z2, if_neg (show ¬ (0 : Int32) ≤ -1 by decide)]
        exact ⟨_, _, _, rfl, rfl, h.th, Or.inl rfl⟩
      · have := z2.1
        rw [if_neg (show ¬ μC 13 0 k = 0 by rw [z1]; exact i10), if_neg i10, z4.1, if_pos (nI_pos' (by omega))]
        refine ⟨_, _, _, rfl, rfl, ?_, Or.inr rfl⟩
        obtain ⟨⟨t, tn, hT, hTC, hTM⟩, ⟨A, hA, hG, hS⟩, -, ⟨p, q, hh, hp, hB⟩, hD⟩ := h
        refine ⟨⟨t, tn, hT, ⟨by rw [sto_k (by omega)]; exact hTC.1, fun j hj => by rw [sto_k (by omega)]; exact hTC.2 j hj⟩, ⟨by rw [sto_k (by omega), sto_j (by omega)]; exact hTM.1, fun j hj => by rw [sto_k (by omega), sto_k (by omega)]; exact hTM.2 j hj⟩⟩, ⟨A, hA, GAk (fun k' hk' => by rw [sto_k (by omega)]) hG, SAk (by rw [sto_j (by omega), sto_k (by omega)]) (fun k' _ => by rw [sto_k (by omega), sto_k (by omega)]) (fun k' _ => by rw [sto_k (by omega), sto_k (by omega)]) hA hS⟩, ?_, ⟨p, q, hh, hp, CBk (by rw [sto_k (by omega)]) (by rw [sto_k (by omega)]) hB⟩, by rw [sto_k (by omega), sto_k (by omega), sto_j (by omega)]; exact hD⟩
        intro a ha
        by_cases ca : a = k
        · left
          subst ca
          rw [sto_e, sto_e]
          exact ⟨rfl, rfl⟩
        · rw [sto_j ca, sto_j (show 9 + a ≠ 9 + k by omega), sto_k (by omega)]
          rcases hN a ha with ⟨z1, z2⟩ | ⟨z1, B, z2, z3, z4⟩
          · exact Or.inl ⟨z1, z2⟩
          · exact Or.inr ⟨z1, B, z2, GAk (fun k' hk' => by rw [sto_k (by omega)]) z3, SAk (by rw [sto_j (by omega), sto_k (by omega)]) (fun k' _ => by rw [sto_k (by omega), sto_k (by omega)]) (fun k' _ => by rw [sto_k (by omega), sto_k (by omega)]) z2 z4⟩
theorem done_eq (h : Inv μC μM) : ∃ v μM', f_X7_done μC = some v ∧ f_X8_done μM = some (v, μM') ∧ Inv μC μM' := by
  unfold f_X7_done f_X8_done
  simp only [lt]
  rw [th_k (by omega), h.2.2.2.2]
  exact ⟨_, _, rfl, rfl, h.th⟩
theorem clear_eq (h : Inv μC μM) : ∃ μC' μM', f_X7_clear μC = some ((), μC') ∧ f_X8_clear μM = some ((), μM') ∧ Inv μC' μM' := by
  unfold f_X7_clear f_X8_clear
  simp only [lt]
  refine ⟨_, _, rfl, rfl, ?_⟩
  obtain ⟨-, ⟨A, hA, hG, hS⟩, hN, ⟨p, q, hh, hp, hB⟩, hD⟩ := h
  refine ⟨⟨fun _ => 0, 0, ⟨by omega, fun j hj => by omega⟩, ⟨by rw [sto_e]; exact nI_0.symm, fun j hj => by omega⟩, ⟨by rw [sto_e]; exact nI_0.symm, fun j hj => by omega⟩⟩, ⟨A, hA, GAk (fun k' hk' => by rw [sto_k (by omega)]) hG, SAk (by rw [sto_k (by omega), sto_k (by omega)]) (fun k' _ => by rw [sto_k (by omega), sto_k (by omega)]) (fun k' _ => by rw [sto_k (by omega), sto_k (by omega)]) hA hS⟩, ?_, ⟨p, q, hh, hp, CBk (by rw [sto_k (by omega)]) (by rw [sto_k (by omega)]) hB⟩, by rw [sto_k (by omega), sto_j (by omega), sto_j (by omega)]; exact hD⟩
  intro a ha
  rw [sto_k (by omega), sto_k (by omega), sto_k (by omega)]
  rcases hN a ha with ⟨z1, z2⟩ | ⟨z1, B, z2, z3, z4⟩
  · exact Or.inl ⟨z1, z2⟩
  · exact Or.inr ⟨z1, B, z2, GAk (fun k' hk' => by rw [sto_k (by omega)]) z3, SAk (by rw [sto_k (by omega), sto_k (by omega)]) (fun k' _ => by rw [sto_k (by omega), sto_k (by omega)]) (fun k' _ => by rw [sto_k (by omega), sto_k (by omega)]) z2 z4⟩
/-! feed -/
abbrev byt (w : Int32) (k : Nat) : Int32 := (w >>> (((8 : Int32) * nI k) &&& 31)) &&& (255 : Int32)
theorem byt_n (x : Int32) : ∃ b : Nat, b < 256 ∧ x &&& (255 : Int32) = nI b := by
  refine ⟨(x.toBitVec &&& 255#32).toNat, ?_, ?_⟩
  · rw [BitVec.toNat_and]
    exact Nat.lt_of_le_of_lt Nat.and_le_right (by decide)
  · apply Int32.toBitVec_inj.mp
    rw [Int32.toBitVec_and]
    unfold nI
    rw [Int32.toBitVec_ofNat', BitVec.ofNat_toNat, BitVec.setWidth_eq]
    rfl
theorem byt_c : ∀ b, b < 256 → vp_nar .char ((nI b).toUInt32 % 65536).toInt32 = nI b := by decide +kernel
def ldf (w : Int32) : Nat → Nat → Nat
  | 0, k => k
  | f + 1, k => if byt w k = 0 then k else ldf w f (k + 1)
theorem ldf_b (w : Int32) : ∀ f k, k ≤ ldf w f k ∧ ldf w f k ≤ k + f ∧ ∀ j, k ≤ j → j < ldf w f k → ¬ byt w j = 0 := by
  intro f
  induction f with
  | zero => intro k; exact ⟨Nat.le_refl _, Nat.le_refl _, fun j h1 h2 => absurd h2 (by simp only [ldf]; omega)⟩
  | succ f ih =>
    intro k
    simp only [ldf]
    by_cases c : byt w k = 0
    · rw [if_pos c]
      exact ⟨Nat.le_refl _, by omega, fun j h1 h2 => by omega⟩
    · rw [if_neg c]
      obtain ⟨h1, h2, h3⟩ := ih (k + 1)
      refine ⟨by omega, by omega, fun j h4 h5 => ?_⟩
      by_cases cj : j = k
      · rw [cj]; exact c
      · exact h3 j (by omega) h5
theorem leadC {w : Int32} {μ : Mem} : ∀ f k n, f + k = 4 → f < n → f_X6_leadingCodes_L2 (fun (_ : Unit) => some (4 : Int32)) w μ n (nI k) = some (nI (ldf w f k)) := by
  intro f
  induction f with
  | zero =>
    intro k n h1 h2
    obtain ⟨n, rfl⟩ : ∃ q, n = q + 1 := ⟨n - 1, by omega⟩
    have : k = 4 := by omega
    subst this
    simp only [f_X6_leadingCodes_L2, il4, nle_t (Nat.le_refl 4) (show 4 < 2 ^ 31 by omega), if_true, ldf]
  | succ f ih =>
    intro k n h1 h2
    obtain ⟨n, rfl⟩ : ∃ q, n = q + 1 := ⟨n - 1, by omega⟩
    simp only [f_X6_leadingCodes_L2, il4, nle_f (show k < 4 by omega) (show 4 < 2 ^ 31 by omega), if_false, ldf, lt, ← nI_succ]
    by_cases c : byt w k = 0
    · rw [if_pos c, if_pos c]
    · rw [if_neg c, if_neg c]
      have := ih (k + 1) n (by omega) (by omega)
      rw [il4] at this
      exact this
theorem leadM' {w : Int32} {μ : Mem} {κ : Int32 → Option (Int32 × Mem)} : ∀ f k a n, f + k = 4 → f < n → a < k → f_X8_feed_L9 κ w μ n (nI a) (nI k) = κ (nI a) := by
  intro f
  induction f with
  | zero =>
    intro k a n h1 h2 h3
    obtain ⟨n, rfl⟩ : ∃ q, n = q + 1 := ⟨n - 1, by omega⟩
    simp only [f_X8_feed_L9, il4, nle_t (show 4 ≤ k by omega) (show k < 2 ^ 31 by omega), if_true]
  | succ f ih =>
    intro k a n h1 h2 h3
    obtain ⟨n, rfl⟩ : ∃ q, n = q + 1 := ⟨n - 1, by omega⟩
    simp only [f_X8_feed_L9, il4, nle_f (show k < 4 by omega) (show 4 < 2 ^ 31 by omega), if_false, jn, lt, ← nI_succ, neq_f (show a ≠ k by omega) (show a < 2 ^ 31 by omega) (show k < 2 ^ 31 by omega)]
    exact ih (k + 1) a n (by omega) (by omega) (by omega)
theorem leadM {w : Int32} {μ : Mem} {κ : Int32 → Option (Int32 × Mem)} : ∀ f k n, f + k = 4 → f < n → f_X8_feed_L9 κ w μ n (nI k) (nI k) = κ (nI (ldf w f k)) := by
  intro f
  induction f with
  | zero =>
    intro k n h1 h2
    obtain ⟨n, rfl⟩ : ∃ q, n = q + 1 := ⟨n - 1, by omega⟩
    simp only [f_X8_feed_L9, il4, nle_t (show 4 ≤ k by omega) (show k < 2 ^ 31 by omega), if_true, ldf]
  | succ f ih =>
    intro k n h1 h2
    obtain ⟨n, rfl⟩ : ∃ q, n = q + 1 := ⟨n - 1, by omega⟩
    simp only [f_X8_feed_L9, il4, nle_f (show k < 4 by omega) (show 4 < 2 ^ 31 by omega), if_false, jn, lt, ← nI_succ, if_true, ldf]
    by_cases c : byt w k = 0
    · rw [if_pos c, if_pos c]
      exact leadM' f (k + 1) k n (by omega) (by omega) (by omega)
    · rw [if_neg c, if_neg c]
      exact ih (k + 1) n (by omega) (by omega)
/-- the text with k codes of w behind it -/
def tx (t : Nat → Nat) (tn : Nat) (B : Nat → Nat) : Nat → Nat := fun j => if j < tn then t j else B (j - tn)
theorem appC_L {w : Int32} {B : Nat → Nat} {t : Nat → Nat} {tn m : Nat} {μ0 : Mem} {κ : Mem → Option (Int32 × Mem)} (hB : ∀ k, k < m → byt w k = nI (B k) ∧ B k < 256) (hm : tn + m ≤ 200) (hT : TXC t tn μ0) : ∀ f k n μ, f + k = m → f < n → (∀ q i, q ≠ 3 → μ q i = μ0 q i) → (∀ j, j < tn + k → μ 3 0 j = nI (tx t tn B j)) →
    ∃ μ', f_X6_append_L21 κ w (nI m) n (nI k) μ = κ μ' ∧ (∀ q i, q ≠ 3 → μ' q i = μ0 q i) ∧ ∀ j, j < tn + m → μ' 3 0 j = nI (tx t tn B j) := by
  intro f
  induction f with
  | zero =>
    intro k n μ h1 h2 h3 h4
    obtain ⟨n, rfl⟩ : ∃ q, n = q + 1 := ⟨n - 1, by omega⟩
    have : k = m := by omega
    subst this
    simp only [f_X6_append_L21, nle_t (Nat.le_refl k) (show k < 2 ^ 31 by omega), if_true]
    exact ⟨μ, rfl, h3, h4⟩
  | succ f ih =>
    intro k n μ h1 h2 h3 h4
    obtain ⟨n, rfl⟩ : ∃ q, n = q + 1 := ⟨n - 1, by omega⟩
    obtain ⟨hb1, hb2⟩ := hB k (by omega)
    have e1 : μ 2 0 1 = nI tn := by rw [h3 2 0 (by omega)]; exact hT.1
    simp only [f_X6_append_L21, nle_f (show k < m by omega) (show m < 2 ^ 31 by omega), if_false, e1, nI_add, ig_t (show tn + k < 200 by omega) (show 200 < 2 ^ 31 by omega), nI_clamp (show tn + k < 2 ^ 31 by omega), lt, ← nI_succ]
    rw [show ((w >>> (((8 : Int32) * nI k) &&& 31)) &&& (255 : Int32)) = nI (B k) from hb1, byt_c _ hb2]
    refine ih (k + 1) n _ (by omega) (by omega) (fun q i hq => by rw [sto_k hq]; exact h3 q i hq) (fun j hj => ?_)
    by_cases c : j = tn + k
    · rw [c, sto_e]
      unfold tx
      rw [if_neg (by omega), show tn + k - tn = k by omega]
    · rw [sto_j c]; exact h4 j (by omega)
theorem appM_L {w : Int32} {B : Nat → Nat} {t : Nat → Nat} {tn m : Nat} {μ0 : Mem} {κ : Mem → Option (Int32 × Mem)} (hB : ∀ k, k < m → byt w k = nI (B k) ∧ B k < 256) (hm : tn + m ≤ 200) (hT : TXM t tn μ0) : ∀ f k n μ, f + k = m → f < n → (∀ q i, q ≠ 31 → μ q i = μ0 q i) → (∀ j, j < tn + k → μ 31 0 j = nI (tx t tn B j)) →
    ∃ μ', f_X8_feed_L58 κ w (nI m) n (nI k) μ = κ μ' ∧ (∀ q i, q ≠ 31 → μ' q i = μ0 q i) ∧ ∀ j, j < tn + m → μ' 31 0 j = nI (tx t tn B j) := by
  intro f
  induction f with
  | zero =>
    intro k n μ h1 h2 h3 h4
    obtain ⟨n, rfl⟩ : ∃ q, n = q + 1 := ⟨n - 1, by omega⟩
    have : k = m := by omega
    subst this
    simp only [f_X8_feed_L58, nle_t (Nat.le_refl k) (show k < 2 ^ 31 by omega), if_true]
    exact ⟨μ, rfl, h3, h4⟩
  | succ f ih =>
    intro k n μ h1 h2 h3 h4
    obtain ⟨n, rfl⟩ : ∃ q, n = q + 1 := ⟨n - 1, by omega⟩
    obtain ⟨hb1, hb2⟩ := hB k (by omega)
    have e1 : μ 30 0 1 = nI tn := by rw [h3 30 0 (by omega)]; exact hT.1
    simp only [f_X8_feed_L58, nle_f (show k < m by omega) (show m < 2 ^ 31 by omega), if_false, e1, nI_add, ig_t (show tn + k < 200 by omega) (show 200 < 2 ^ 31 by omega), nI_clamp (show tn + k < 2 ^ 31 by omega), lt, ← nI_succ]
    rw [show ((w >>> (((8 : Int32) * nI k) &&& 31)) &&& (255 : Int32)) = nI (B k) from hb1]
    refine ih (k + 1) n _ (by omega) (by omega) (fun q i hq => by rw [sto_k hq]; exact h3 q i hq) (fun j hj => ?_)
    by_cases c : j = tn + k
    · rw [c, sto_e]
      unfold tx
      rw [if_neg (by omega), show tn + k - tn = k by omega]
    · rw [sto_j c]; exact h4 j (by omega)
theorem feed_eq (w : Int32) (h : Inv μC μM) : ∃ v μC' μM', f_X7_feed w μC = some (v, μC') ∧ f_X8_feed w μM = some (v, μM') ∧ Inv μC' μM' := by
  have hI := h
  obtain ⟨⟨t, tn, hT, hTC, hTM⟩, ⟨A, hA, hG, hS⟩, hN, ⟨p, q, hh, hp, hB⟩, hD⟩ := h
  have h1 := hT.1
  obtain ⟨l1, l2, l3⟩ := ldf_b w 4 0
  have eC : f_X6_leadingCodes w μC = some (nI (ldf w 4 0)) := by
    unfold f_X6_leadingCodes
    exact leadC 4 0 1000 (by omega) (by omega)
  generalize hm : ldf w 4 0 = m at *
  have hTM1 : TXM t tn (sto μM 30 0 17 0) := hTM.keep2 FQm.th
  have eM : f_X8_feed w μM = (if tn + m ≤ 200 then (f_X8_feed_L58 (fun (μ_19 : Mem) => some (nI m, sto μ_19 30 0 1 ((μ_19 30 0 1) + nI m))) w (nI m) 1000 (nI 0) (sto μM 30 0 17 0)) else some ((-1 : Int32), sto μM 30 0 17 0)) := by
    unfold f_X8_feed
    simp only [lt]
    have := leadM (w := w) (μ := sto μM 30 0 17 0) (κ := fun (a2_11 : Int32) => if ((sto μM 30 0 17 0 30 0 1) + a2_11) ≤ (200 : Int32) then (f_X8_feed_L58 (fun (μ_19 : Mem) => some (a2_11, sto μ_19 30 0 1 ((μ_19 30 0 1) + a2_11))) w a2_11 1000 (0 : Int32) (sto μM 30 0 17 0)) else some ((-1 : Int32), sto μM 30 0 17 0)) 4 0 1000 (by omega) (by omega)
    rw [nI_0] at this
    rw [this, hm, hTM1.1, nI_add, il200, nI_0]
    simp only [nle_iff (show tn + m < 2 ^ 31 by omega) (show 200 < 2 ^ 31 by omega)]
  have eC2 : f_X7_feed w μC = (if tn + m ≤ 200 then (f_X6_append_L21 (fun (μ_9 : Mem) => some (nI m, sto μ_9 2 0 1 ((μ_9 2 0 1) + nI m))) w (nI m) 1000 (nI 0) μC) else some ((-1 : Int32), μC)) := by
    unfold f_X7_feed f_X6_append
    rw [eC, bP_s, bW_id, hTC.1, nI_add, il200, nI_0]
    simp only [nle_iff (show tn + m < 2 ^ 31 by omega) (show 200 < 2 ^ 31 by omega), lt]
  rw [eM, eC2]
  by_cases c : tn + m ≤ 200
  · rw [if_pos c, if_pos c]
    have hex : ∀ k, ∃ b : Nat, b < 256 ∧ byt w k = nI b := fun k => byt_n _
    obtain ⟨B, hBB⟩ : ∃ B : Nat → Nat, ∀ k, B k < 256 ∧ byt w k = nI (B k) := ⟨fun k => (hex k).choose, fun k => (hex k).choose_spec⟩
    have hB1 : ∀ k, k < m → 1 ≤ B k := by
      intro k hk
      have h5 := l3 k (Nat.zero_le _) hk
      rw [(hBB k).2] at h5
      by_cases cz : B k = 0
      · exact absurd (by rw [cz]; exact nI_0) h5
      · omega
    obtain ⟨μ1, x1, x2, x3⟩ := appC_L (κ := fun (μ_9 : Mem) => some (nI m, sto μ_9 2 0 1 ((μ_9 2 0 1) + nI m))) (fun k _ => ⟨(hBB k).2, (hBB k).1⟩) c hTC m 0 1000 μC (by omega) (by omega) (fun _ _ _ => rfl) (fun j hj => by unfold tx; rw [if_pos (by omega)]; exact hTC.2 j (by omega))
    obtain ⟨μ2, y1, y2, y3⟩ := appM_L (κ := fun (μ_19 : Mem) => some (nI m, sto μ_19 30 0 1 ((μ_19 30 0 1) + nI m))) (fun k _ => ⟨(hBB k).2, (hBB k).1⟩) c hTM1 m 0 1000 (sto μM 30 0 17 0) (by omega) (by omega) (fun _ _ _ => rfl) (fun j hj => by unfold tx; rw [if_pos (by omega)]; exact hTM1.2 j (by omega))
    have z1 : μ1 2 0 1 = nI tn := by rw [x2 2 0 (by omega)]; exact hTC.1
    have z2 : μ2 30 0 1 = nI tn := by rw [y2 30 0 (by omega)]; exact hTM1.1
    rw [x1, y1, z1, z2, nI_add]
    have kC : ∀ k i, k ≠ 2 ∧ k ≠ 3 → sto μ1 2 0 1 (nI (tn + m)) k i = μC k i := fun k i hk => by rw [sto_k hk.1]; exact x2 k i hk.2
    have kM : ∀ k i j, k ≠ 31 ∧ (k ≠ 30 ∨ (j ≠ 1 ∧ j ≠ 17)) → sto μ2 30 0 1 (nI (tn + m)) k i j = μM k i j := fun k i j hk => by rw [sto_nj (by omega), y2 k i (by omega), th_k (by omega)]
    refine ⟨_, _, _, rfl, rfl, ⟨tx t tn B, tn + m, ⟨c, fun j hj => ?_⟩, ⟨sto_e, fun j hj => by rw [sto_k (by omega)]; exact x3 j hj⟩, ⟨sto_e, fun j hj => by rw [sto_k (by omega)]; exact y3 j hj⟩⟩, ⟨A, hA, GAk (fun k' hk' => kC k' 17 (by omega)) hG, SAk (kM 32 0 _ (by omega)) (fun k' _ => kM 33 0 _ (by omega)) (fun k' _ => kM 34 0 _ (by omega)) hA hS⟩, ?_, ⟨p, q, hh, hp, CBk (kC 14 0 (by omega)) (kC 15 0 (by omega)) hB⟩, by rw [kC 14 0 (by omega), kM 30 0 18 (by omega)]; exact hD⟩
    · unfold tx
      by_cases cj : j < tn
      · rw [if_pos cj]; exact hT.2 j cj
      · rw [if_neg cj]; exact ⟨hB1 _ (by omega), (hBB _).1⟩
    · intro a ha
      rw [kC 13 0 (by omega), kM 32 0 (9 + a) (by omega)]
      rcases hN a ha with ⟨z1, z2⟩ | ⟨z1, D, z2, z3, z4⟩
      · exact Or.inl ⟨z1, z2⟩
      · exact Or.inr ⟨z1, D, z2, GAk (fun k' hk' => kC k' a (by omega)) z3, SAk (kM 32 0 _ (by omega)) (fun k' _ => kM 33 0 _ (by omega)) (fun k' _ => kM 34 0 _ (by omega)) z2 z4⟩
  · rw [if_neg c, if_neg c]
    exact ⟨_, _, _, rfl, rfl, hI.th⟩
end CLS
