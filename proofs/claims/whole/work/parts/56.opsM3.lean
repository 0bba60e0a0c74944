theorem turn_111 {r b : Nat} {L : Nat → Nat} {μ : Mem} {κ : Int32 → Option (Int32 × Mem)} {c1 c3 c4 c5 c6 c7 c8 : Int32} (T : Option (Int32 × Mem) → Prop) (hr : r ≤ 3) (hb : b ≤ r) (h2 : ∀ k, k < r → μ 33 0 (57 + k) = nI (L k)) (hend : T (κ (nI (pr (fun i => L (b + i)) (r - b))))) : T (f_X8_turn_L111 κ c1 (nI r) c3 c4 c5 c6 c7 c8 μ 1000 (nI 1) (nI b)) := by
  refine lp0 (fun n (t : Int32 × Int32) => f_X8_turn_L111 κ c1 (nI r) c3 c4 c5 c6 c7 c8 μ n t.1 t.2) T (r - b) (fun i t => t.1 = nI (pr (fun i => L (b + i)) i) ∧ t.2 = nI (b + i)) (nI 1, nI b) 1000 (by omega) ⟨rfl, rfl⟩ ?_ ?_
  · rintro n ⟨x, y⟩ ⟨e1, e2⟩
    dsimp only at e1 e2 ⊢
    subst e1 e2
    simp only [f_X8_turn_L111, nle_t (show r ≤ b + (r - b) by omega) (show b + (r - b) < 2 ^ 31 by omega), if_true]
    exact hend
  · rintro n i ⟨x, y⟩ hi hn ⟨e1, e2⟩
    dsimp only at e1 e2 ⊢
    subst e1 e2
    left
    refine ⟨(nI (pr (fun i => L (b + i)) (i + 1)), nI (b + (i + 1))), ⟨rfl, rfl⟩, ?_⟩
    have e3 : μ 33 0 (3 * 19 + (b + i)) = nI (L (b + i)) := h2 (b + i) (by omega)
    simp only [f_X8_turn_L111, il19, nle_f (show b + i < r by omega) (show r < 2 ^ 31 by omega), if_false, axisOf_eq (show 3 * 19 + (b + i) < 60 by omega), bP_s, e3, pk_mul, lt, il1, nI_add, pr]
    rfl
/-- rest and place behind i steps -/
def tpl (L : Nat → Nat) (r k : Nat) : Nat → Nat × Nat
  | 0 => (k, 0)
  | i + 1 => ((tpl L r k i).1 / L i, (tpl L r k i).2 + (tpl L r k i).1 % L i * pr (fun t => L (i + 1 + t)) (r - (i + 1)))
theorem tpl_le (L : Nat → Nat) (r k : Nat) : ∀ i, (tpl L r k i).1 ≤ k := by
  intro i
  induction i with
  | zero => exact Nat.le_refl _
  | succ i ih => exact Nat.le_trans (Nat.div_le_self _ _) ih
theorem turn_71 {r k : Nat} {L : Nat → Nat} {μ : Mem} {κ : Int32 → Option (Int32 × Mem)} {c1 c3 c4 : Int32} (T : Option (Int32 × Mem) → Prop) (hr : r ≤ 3) (hk : k < 48) (hL : ∀ j, j < r → 0 < L j ∧ L j ≤ 48) (h2 : ∀ k, k < r → μ 33 0 (57 + k) = nI (L k)) (h3 : ∀ k, k < r → μ 33 0 (24 + k) = nI (L (r - 1 - k))) (hend : T (κ (nI (tpl L r k r).2))) : T (f_X8_turn_L71 κ c1 (nI r) c3 c4 μ 1000 (nI k) (nI 0) (nI r - 1)) := by
  refine lp0 (fun n (t : Int32 × Int32 × Int32) => f_X8_turn_L71 κ c1 (nI r) c3 c4 μ n t.1 t.2.1 t.2.2) T r (fun i t => t.1 = nI (tpl L r k i).1 ∧ t.2.1 = nI (tpl L r k i).2 ∧ t.2.2 = nI (r - i) - 1) (nI k, nI 0, nI r - 1) 1000 (by omega) ⟨rfl, rfl, rfl⟩ ?_ ?_
  · rintro n ⟨x, y, z⟩ ⟨e1, e2, e3⟩
    dsimp only at e1 e2 e3 ⊢
    rw [Nat.sub_self] at e3
    subst e1 e2 e3
    have : nI 0 - 1 < 0 := by decide
    simp only [f_X8_turn_L71, if_pos this]
    exact hend
  · rintro n i ⟨x, y, z⟩ hi hn ⟨e1, e2, e3⟩
    dsimp only at e1 e2 e3 ⊢
    have e4 : z = nI (r - 1 - i) := by
      rw [e3, il1, pk_sub (by omega)]
      congr 1
      omega
    have e5 : nI (r - 1 - i) + (-1) = nI (r - (i + 1)) - 1 := by
      rw [← Int32.sub_eq_add_neg]
      congr 2
      omega
    subst e1 e2
    rw [e4]
    have b1 := hL i hi
    have b2 := tpl_le L r k i
    have e6 : μ 33 0 (3 * 8 + (r - 1 - i)) = nI (L i) := by
      have := h3 (r - 1 - i) (by omega)
      rw [show r - 1 - (r - 1 - i) = i by omega] at this
      exact this
    have hnz : ∀ {α : Type} {o : Option α}, gd (nz (nI (L i))) o = o := by
      intro α o; rw [i_nz (nI_ne0 b1.1 (by omega))]; rfl
    simp only [f_X8_turn_L71, if_neg (nI_pos (show r - 1 - i < 2 ^ 31 by omega)), il8, axisOf_eq (show 3 * 8 + (r - 1 - i) < 60 by omega), bP_s, e6, hnz, pk_rem (show (tpl L r k i).1 < 2 ^ 31 by omega) b1.1 (show L i < 2 ^ 31 by omega), pk_div (show (tpl L r k i).1 < 2 ^ 31 by omega) b1.1 (show L i < 2 ^ 31 by omega), lt, pk_sub (show r - 1 - i ≤ r by omega), show r - (r - 1 - i) = i + 1 by omega, il1]
    refine turn_111 (fun x => (∃ s' : Int32 × Int32 × Int32, (s'.1 = nI (tpl L r k (i + 1)).1 ∧ s'.2.1 = nI (tpl L r k (i + 1)).2 ∧ s'.2.2 = nI (r - (i + 1)) - nI 1) ∧ x = f_X8_turn_L71 κ c1 (nI r) c3 c4 μ n s'.1 s'.2.1 s'.2.2) ∨ T x) hr (by omega) h2 ?_
    left
    refine ⟨(nI (tpl L r k (i + 1)).1, nI (tpl L r k (i + 1)).2, nI (r - (i + 1)) - nI 1), ⟨rfl, rfl, rfl⟩, ?_⟩
    have e7 : (tpl L r k i).1 / L i * L i ≤ (tpl L r k i).1 := Nat.div_mul_le_self _ _
    rw [← il1, e5, pk_mul, pk_sub e7, kmod, pk_mul, nI_add]
    rfl
theorem tpl_eq {A : Arr} (hW : WA A) {k : Nat} (hk : k < sz A) : (tpl A.2.1 A.1 k A.1).2 = (k % pln A * lns A + k / pln A % lns A) * wd A + k / pln A / lns A := by
  have h := hW.1
  have hs := turn_sz hW
  rw [hs] at hk
  have hk1 : k / pln A / lns A < wd A := by
    rw [Nat.div_div_eq_div_mul]
    exact Nat.div_lt_of_lt_mul hk
  unfold pln lns wd at *
  rcases (show A.1 = 0 ∨ A.1 = 1 ∨ A.1 = 2 ∨ A.1 = 3 by omega) with h | h | h | h <;> rw [h] at hk1 ⊢ <;> simp [tpl, pr] at hk1 ⊢
  · omega
  · rw [Nat.mod_eq_of_lt hk1]; simp [Nat.mod_one]
  · rw [Nat.mod_eq_of_lt hk1]; simp [Nat.mod_one]
  · rw [Nat.mod_eq_of_lt hk1, Nat.add_mul, Nat.mul_assoc]
theorem sz_pos {A : Arr} {k : Nat} (h : k < sz A) : ∀ j, j < A.1 → 0 < A.2.1 j := by
  have key : ∀ (L : Nat → Nat) (n : Nat), 0 < pr L n → ∀ j, j < n → 0 < L j := by
    intro L n
    induction n with
    | zero => intro _ j hj; omega
    | succ n ih =>
      intro h j hj
      simp only [pr] at h
      have h1 := Nat.pos_of_mul_pos_right h
      have h2 := Nat.pos_of_mul_pos_left h
      by_cases q : j = n
      · subst q; first | exact h1 | exact h2
      · first | exact ih h2 j (by omega) | exact ih h1 j (by omega)
  exact key A.2.1 A.1 (by unfold sz at h; omega)
theorem turn_16 {r : Nat} {L : Nat → Nat} {μ : Mem} {κ : Mem → Option (Int32 × Mem)} {c1 c3 : Int32} (T : Option (Int32 × Mem) → Prop) (hr : r ≤ 3) (h2 : ∀ k, k < r → μ 33 0 (57 + k) = nI (L k))
    (hend : ∀ ν, (∀ q i j, q ≠ 33 ∨ j < 24 ∨ 27 ≤ j → ν q i j = μ q i j) → (∀ k, k < r → ν 33 0 (24 + k) = nI (L (r - 1 - k))) → T (κ ν)) : T (f_X8_turn_L16 κ c1 (nI r) c3 1000 (nI 0) μ) := by
  refine lp0 (fun n (s : Int32 × Mem) => f_X8_turn_L16 κ c1 (nI r) c3 n s.1 s.2) T r (fun i s => s.1 = nI i ∧ (∀ q i j, q ≠ 33 ∨ j < 24 ∨ 27 ≤ j → s.2 q i j = μ q i j) ∧ ∀ k, k < i → s.2 33 0 (24 + k) = nI (L (r - 1 - k))) (nI 0, μ) 1000 (by omega) ⟨rfl, fun _ _ _ _ => rfl, fun k hk => by omega⟩ ?_ ?_
  · rintro n ⟨x, ν⟩ ⟨e1, e2, e3⟩
    dsimp only at e1 e2 e3 ⊢
    subst e1
    simp only [f_X8_turn_L16, nle_t (Nat.le_refl _) (show r < 2 ^ 31 by omega), if_true]
    exact hend ν e2 e3
  · rintro n i ⟨x, ν⟩ hi hn ⟨e1, e2, e3⟩
    dsimp only at e1 e2 e3 ⊢
    subst e1
    left
    have e4 : ν 33 0 (3 * 19 + (r - 1 - i)) = nI (L (r - 1 - i)) := by rw [e2 33 0 _ (by omega)]; exact h2 _ (by omega)
    refine ⟨(nI (i + 1), sto ν 33 0 (24 + i) (nI (L (r - 1 - i)))), ⟨rfl, fun q k j hq => ?_, fun k hk => ?_⟩, ?_⟩
    · dsimp only; rw [sto_nj (by omega)]; exact e2 q k j hq
    · dsimp only
      by_cases q : k = i
      · subst q; rw [sto_e]
      · rw [sto_j (by omega)]; exact e3 k (by omega)
    · simp only [f_X8_turn_L16, nle_f hi (show r < 2 ^ 31 by omega), if_false, il19, il24, il1, pk_sub (show 1 ≤ r by omega), pk_sub (show i ≤ r - 1 by omega), axisOf_eq (show 3 * 19 + (r - 1 - i) < 60 by omega), bP_s, e4, nI_add, ig_t (show 24 + i < 60 by omega) (show 60 < 2 ^ 31 by omega), nI_clamp (show 24 + i < 2 ^ 31 by omega), lt]
theorem turn_M {μ : Mem} {A : Arr} (hW : WA A) (hA : SA μ 19 A) (h0 : μ 30 0 16 = 0) : MT μ (s_turn A) (f_X8_turn (nI (sz A)) μ) := by
  have h1 := hW.1
  have h2 := hW.2.2
  obtain ⟨μ1, f1, f2, f3, f4⟩ := same_eq hW hA
  have hA1 := f2.sa (by omega) hW hA
  unfold f_X8_turn s_turn
  rw [il19, ig_t (by omega) (by omega), nI_clamp (by omega), hA.1]
  simp only [lt]
  rw [f1, bW_s, il0]
  refine turn_16 _ h1 hA1.2.1 (fun ν e1 e2 => ?_)
  have g1 : Fm μ1 ν := fun k i j hk => e1 k i j (by omega)
  have g2 := g1.sa (by omega) hW hA1
  have g3 : MS ν A.1 (fun k => A.2.1 (A.1 - 1 - k)) := ⟨by rw [e1 32 0 8 (by omega)]; exact f3.1, e2⟩
  have hp := turn_pr hW
  refine Mloop' (fun m (s : Int32) ν => f_X8_turn_L53 (fun (μ_58 : Mem) => gd (isb 1) <| some (1, μ_58)) (nI (sz A)) (nI A.1) 1 m s ν) nI (f2.trans g1) g3 h1 (by rw [e1 30 0 16 (by omega)]; exact f4.trans h0) (by rw [hp]; exact h2) ?_ ?_
  · intro m ν
    rw [hp]
    simp only [f_X8_turn_L53, nle_t (Nat.le_refl _) (show sz A < 2 ^ 31 by omega), if_true, isb_1]
  · intro m k ν' hk h5
    rw [hp] at hk
    have q1 := h5.sa (by omega) hW g2
    have q2 := tpl_eq hW hk
    have q3 : ∀ j, j < A.1 → 0 < A.2.1 j ∧ A.2.1 j ≤ 48 := fun j hj => ⟨sz_pos hk j hj, hW.2.1 j hj⟩
    have q4 : ∀ k, k < A.1 → ν' 33 0 (24 + k) = nI (A.2.1 (A.1 - 1 - k)) := fun k hk => by rw [h5.1 33 0 _ (by omega)]; exact e2 k hk
    simp only [f_X8_turn_L53, nle_f hk (show sz A < 2 ^ 31 by omega), if_false, lt, il0]
    refine turn_71 (fun x => x = f_X8_turn_L53 (fun (μ_58 : Mem) => gd (isb 1) <| some (1, μ_58)) (nI (sz A)) (nI A.1) 1 m (nI (k + 1)) (sto ν' 34 0 (384 + k) (A.2.2 ((k % pln A * lns A + k / pln A % lns A) * wd A + k / pln A / lns A)))) h1 (by omega) q3 q1.2.1 q4 ?_
    have q5 : (k % pln A * lns A + k / pln A % lns A) * wd A + k / pln A / lns A < sz A := by
      have hs := turn_sz hW
      have hk2 := hk
      rw [hs] at hk2
      have hk1 : k / pln A / lns A < wd A := by
        rw [Nat.div_div_eq_div_mul]
        exact Nat.div_lt_of_lt_mul hk2
      have hpos : 0 < pln A * lns A := by
        rcases Nat.eq_zero_or_pos (pln A * lns A) with q | q
        · rw [q] at hk2; omega
        · exact q
      have hp0 := Nat.pos_of_mul_pos_right hpos
      have hl0 := Nat.pos_of_mul_pos_left hpos
      rw [hs]
      exact mul_in (mul_in (Nat.mod_lt _ (by first | exact hp0 | exact hl0)) (Nat.mod_lt _ (by first | exact hl0 | exact hp0))) hk1
    rw [q2, il19, get_eq (by omega), bP_s, il8, set_eq (by omega), bW_s, nI_succ, show 48 * 19 = 912 from rfl]
    rw [show ν' 34 0 (912 + ((k % pln A * lns A + k / pln A % lns A) * wd A + k / pln A / lns A)) = _ from q1.2.2 _ q5]
theorem single_M {f : Nat} (hf : f < 28) {μ : Mem} {A : Arr} (hW : WA A) (hA : SA μ 19 A) (h0 : μ 30 0 16 = 0) : MT μ (sp1 f A) (f_X8_single (nI f) μ) := by
  have h1 := hW.1
  have sm : A.1 = 0 → ∀ S, S = mkA 0 A.2.1 (fun k => .ok (A.2.2 k)) → MT μ S (bW (f_X8_same μ) fun v_57 μ_58 => gd (isb v_57) <| some (v_57, μ_58)) := by
    intro hz S hS
    obtain ⟨μ1, f1, f2, f3, f4⟩ := same_eq hW hA
    rw [f1, bW_s, isb_1, hS, mkA_ok]
    refine ⟨1, μ1, rfl, f2, rfl, f4.trans h0, ?_, fun k hk => absurd hk (Nat.not_lt_zero k), fun k hk => ?_⟩
    · rw [f3.1, hz]
    · exact f3.2.2 k (by rw [sz_0 hz]; exact hk)
  have gI : ∀ (S : Except Nat Arr) (x : Option (Int32 × Mem)), MT μ S x → MT μ S (bW x fun v μ => gd (isb v) <| some (v, μ)) := by
    rintro S x ⟨b, μ', e1, e2, e3⟩
    subst e1
    rw [bW_s]
    have : gd (isb b) (some (b, μ')) = some (b, μ') := by
      cases S with
      | ok A => dsimp only at e3; rw [e3.1]; rfl
      | error e => dsimp only at e3; rw [e3.1]; rfl
    rw [this]
    exact ⟨b, μ', rfl, e2, e3⟩
  unfold f_X8_single sp1
  rw [il19, sizeOf_eq (by omega) hW hA, bP_s, ig_t (by omega) (by omega), nI_clamp (by omega), hA.1]
  simp only [lt, il10, il20, il23, il24, il25, il26, il0, nle_iff (show 10 < 2 ^ 31 by omega) (show f < 2 ^ 31 by omega), nle_iff (show 20 < 2 ^ 31 by omega) (show f < 2 ^ 31 by omega), nle_iff (show 23 < 2 ^ 31 by omega) (show f < 2 ^ 31 by omega), neq_iff (show f < 2 ^ 31 by omega) (show 23 < 2 ^ 31 by omega), neq_iff (show f < 2 ^ 31 by omega) (show 24 < 2 ^ 31 by omega), neq_iff (show f < 2 ^ 31 by omega) (show 25 < 2 ^ 31 by omega), neq_iff (show f < 2 ^ 31 by omega) (show 26 < 2 ^ 31 by omega), neq_iff (show A.1 < 2 ^ 31 by omega) (show 0 < 2 ^ 31 by omega)]
  by_cases c1 : f < 10
  · rw [if_pos c1, if_neg (show ¬ 10 ≤ f by omega)]
    by_cases c2 : A.1 = 0
    · rw [if_pos c2]
      refine sm c2 _ ?_
      unfold s_red mk
      have e1 : wd A = 1 := by unfold wd; rw [if_pos c2]
      rw [c2, if_pos ⟨fun k hk => by omega, by show (1 : Nat) ≤ 48; omega⟩, e1]
      congr 1
      funext k
      simp [fo, foL]
    · rw [if_neg c2]
      exact gI _ _ (reduce_M c1 hW (by omega) hA h0)
  rw [if_neg c1, if_pos (show 10 ≤ f by omega)]
  by_cases c2 : f < 20
  · rw [if_pos c2, if_neg (show ¬ 20 ≤ f by omega), pk_sub (by omega)]
    by_cases c3 : A.1 = 0
    · rw [if_pos c3]
      refine sm c3 _ ?_
      unfold s_scan
      have e1 : wd A = 1 := by unfold wd; rw [if_pos c3]
      rw [c3, e1]
      congr 1
      funext k
      simp [fo, foL, Nat.mod_one]
    · rw [if_neg c3]
      exact gI _ _ (scan_M (by omega) hW hA h0)
  rw [if_neg c2, if_pos (show 20 ≤ f by omega)]
  by_cases c3 : f < 23
  · rw [if_pos c3, if_neg (show ¬ 23 ≤ f by omega)]
    have := one_M (f := f - 20) (by omega) hW hA h0
    rw [show 20 + (f - 20) = f by omega] at this
    exact this
  rw [if_neg c3, if_pos (show 23 ≤ f by omega)]
  by_cases c4 : f = 23
  · rw [if_pos c4, if_pos c4]; exact gI _ _ (count_M hW hA h0)
  rw [if_neg c4, if_neg c4]
  by_cases c5 : f = 24
  · rw [if_pos c5, if_pos c5]; exact lens_M hW hA h0
  rw [if_neg c5, if_neg c5]
  by_cases c6 : f = 25
  · rw [if_pos c6, if_pos c6]; exact ravel_M hW hA h0
  rw [if_neg c6, if_neg c6]
  by_cases c7 : f = 26
  · rw [if_pos c7, if_pos c7]; exact gI _ _ (turn_M hW hA h0)
  rw [if_neg c7, if_neg c7]
  exact gI _ _ (reverse_M hW hA h0)
