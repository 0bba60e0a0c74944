/-! ===== terms ===== -/
def numsA (N : Nat → Int32) (c m : Nat) : Arr := (if m = 1 then 0 else 1, fun _ => m, fun j => N (c + j))
theorem numsA_sz {N : Nat → Int32} {c m : Nat} (hm : 1 ≤ m) : sz (numsA N c m) = m := by
  unfold sz numsA
  by_cases h : m = 1
  · simp [h, pr]
  · simp [h, pr]
theorem numsA_W {N : Nat → Int32} {c m : Nat} (hm : 1 ≤ m) (h48 : m ≤ 48) : WA (numsA N c m) := by
  refine ⟨?_, fun k _ => h48, by rw [numsA_sz hm]; exact h48⟩
  show (if m = 1 then 0 else 1) ≤ 3
  split <;> omega
def TC (p : Nat → Nat) (q h : Nat) (μ : Mem) (S : Except Nat Arr) (x : Option (Except Nat Int32 × Mem)) : Prop := ∃ r μ', x = some (r, μ') ∧ (∀ k i, k ≠ 14 ∧ k ≠ 17 ∧ (k < 20 ∨ 22 < k ∨ i ≠ p h) → μ' k i = μ k i) ∧ (∀ j, j ≠ 4 → μ' 14 0 j = μ 14 0 j) ∧ match S with
  | .ok A => r = .ok 1 ∧ CB μ' p q (h + 1) ∧ GA μ' (p h) A
  | .error e => r = .error e ∧ CB μ' p q h
def TM (μ : Mem) (S : Except Nat Arr) (x : Option (Int32 × Mem)) : Prop := ∃ b μ', x = some (b, μ') ∧ (∀ k i j, (k ≠ 30 ∨ j ≠ 16) ∧ (k ≠ 32 ∨ j ≠ 7) ∧ (k ≠ 33 ∨ j < 21 ∨ 24 ≤ j) ∧ (k ≠ 34 ∨ j < 336 ∨ 384 ≤ j) → μ' k i j = μ k i j) ∧ match S with
  | .ok A => b = 1 ∧ μ' 30 0 16 = 0 ∧ SA μ' 7 A
  | .error e => b = 0 ∧ μ' 30 0 16 = nI e
theorem nums_C {p : Nat → Nat} {q h k c m : Nat} {μ : Mem} {N : Nat → Int32} (hk : k < 200) (hh : h < 8) (hp : PM p q) (hc : CB μ p q h) (h4 : μ 4 0 k = 0) (h5 : μ 5 0 k = nI c) (h6 : μ 6 0 k = nI m) (hm : 1 ≤ m) (hcm : c + m ≤ 200) (hN : ∀ j, j < c + m → μ 10 0 j = N j) : TC p q h μ (if m ≤ 48 then .ok (numsA N c m) else .error 1) (f_X0_endsTerm (nI k) μ) := by
  have hph := hp.1 h hh
  have e0 : f_X0_endsTerm (nI k) μ = (bB (f_X0_pushNumbers (nI k) μ) (fun e_5 μ_4 => some (.error e_5, μ_4)) fun u_3 μ_4 => some (.ok (1 : Int32), μ_4)) := by
    unfold f_X0_endsTerm
    simp only [ig_t hk (show 200 < 2 ^ 31 by omega), nI_clamp (show k < 2 ^ 31 by omega), h4, jn]
    rw [if_neg (by decide), if_neg (by decide), if_neg (by decide), if_neg (by decide)]
  obtain ⟨μ1, r1, r2, r3⟩ := restart_eq (p h) μ (fun _ => m)
  rw [e0]
  unfold f_X0_pushNumbers
  simp only [ig_t hk (show 200 < 2 ^ 31 by omega), nI_clamp (show k < 2 ^ 31 by omega), h6, hc.2.1, ig_t hh (show 8 < 2 ^ 31 by omega), nI_clamp (show h < 2 ^ 31 by omega), hc.2.2 h hh, nI_clamp (show p h < 2 ^ 31 by omega), gd_d (show p h < 18 by omega), r1, bW_s, lt, jn, il1, nle_iff (show m < 2 ^ 31 by omega) (show 1 < 2 ^ 31 by omega)]
  -- from the axes on
  have fin : ∀ μ2, Fs (p h) μ μ2 → GS μ2 (p h) (numsA N c m).1 (fun _ => m) → m ≤ 48 → TC p q h μ (.ok (numsA N c m)) (bB (gd (cpok (μ2 5 0 k) 0 (nI m) 200 48)
      (some (Except.ok (), sto (stf μ2 22 (p h) (va_cpy (μ2 10 0) (μ2 22 (p h)) (μ2 5 0 k).toNatClampNeg (0 : Int32).toNatClampNeg (nI m).toNatClampNeg)) 14 0 4
          (stf μ2 22 (p h) (va_cpy (μ2 10 0) (μ2 22 (p h)) (μ2 5 0 k).toNatClampNeg (0 : Int32).toNatClampNeg (nI m).toNatClampNeg) 14 0 4 + nI 1)))) (fun e_5 μ_4 => some (Except.error e_5, μ_4)) fun u_3 μ_4 => some (Except.ok (nI 1), μ_4)) := by
    intro μ2 f1 f2 f3
    have g5 : μ2 5 0 k = nI c := by rw [f1 5 0 (by omega)]; exact h5
    rw [g5, il0, cpok_t (by omega) (by omega) (by omega) (by omega), nI_clamp (by omega), nI_clamp (by omega), nI_clamp (by omega), bB_o]
    refine ⟨_, _, rfl, fun k' i hk' => ?_, fun j hj => ?_, by rw [il1], ⟨?_, ?_, fun j hj => ?_⟩, ?_, ?_, fun j hj => ?_, fun j hj => ?_⟩
    · rw [sto_k hk'.1]
      by_cases c1 : k' = 22
      · rw [stf_i (by omega)]; exact f1 k' i (by omega)
      · rw [stf_k c1]; exact f1 k' i (by omega)
    · rw [sto_j hj, stf_k (by omega), f1 14 0 (by omega)]
    · rw [sto_j (by omega), stf_k (by omega), f1 14 0 (by omega)]; exact hc.1
    · rw [sto_e, stf_k (by omega), f1 14 0 (by omega), hc.2.1, nI_add]
    · rw [sto_k (by omega), stf_k (by omega), f1 15 0 (by omega)]; exact hc.2.2 j hj
    · rw [sto_k (by omega), stf_k (by omega)]; exact f2.1
    · rw [sto_k (by omega), stf_k (by omega)]; exact f2.2.1
    · rw [sto_k (by omega), stf_k (by omega)]; exact f2.2.2 j hj
    · rw [numsA_sz hm] at hj
      rw [sto_k (by omega), stf_e, pk_cpy_in (by omega) (by omega), f1 10 0 (by omega)]
      rw [show c + (j - 0) = c + j by omega, hN _ (by omega)]; rfl
  by_cases c1 : m ≤ 1
  · have m1 : m = 1 := by omega
    rw [if_pos c1, if_pos (show m ≤ 48 by omega)]
    refine fin μ1 r2 ?_ (by omega)
    have : (numsA N c m).1 = 0 := by show (if m = 1 then 0 else 1) = 0; rw [if_pos m1]
    rw [this]; exact r3
  · rw [if_neg c1]
    by_cases c2 : m ≤ 48
    · obtain ⟨μ2, a1, a2, a3⟩ := addAxis_ok r3 (by omega) rfl c2
      rw [a1, bB_o, if_pos c2]
      refine fin μ2 (r2.trans a2) ?_ c2
      have : (numsA N c m).1 = 1 := by show (if m = 1 then 0 else 1) = 1; rw [if_neg (by omega)]
      rw [this]; exact a3
    · rw [addAxis_err (by rw [il48, nle_iff (by omega) (by omega)]; exact c2), if_neg c2, bB_e, bB_e]
      exact ⟨_, μ1, rfl, fun k' i hk' => r2 k' i (by omega), fun j hj => by rw [r2 14 0 (by omega)], rfl, ⟨by rw [r2 14 0 (by omega)]; exact hc.1, by rw [r2 14 0 (by omega)]; exact hc.2.1, fun j hj => by rw [r2 15 0 (by omega)]; exact hc.2.2 j hj⟩⟩
theorem has_eq {a : Nat} {μ : Mem} (ha : a < 8) : f_X2_has (nI a) μ = some (if μ 13 0 a = 0 then 0 else 1) := by
  unfold f_X2_has
  simp only [jn, if_neg (nI_pos (show a < 2 ^ 31 by omega)), il8, nle_f ha (show 8 < 2 ^ 31 by omega), if_false, ig_t ha (show 8 < 2 ^ 31 by omega), nI_clamp (show a < 2 ^ 31 by omega)]
  split <;> rfl
theorem name_C {p : Nat → Nat} {q h k a : Nat} {μ : Mem} (hk : k < 200) (hh : h < 8) (hp : PM p q) (hc : CB μ p q h) (ha : a < 8) (h4 : μ 4 0 k = 1) (h5 : μ 5 0 k = nI a) : (μ 13 0 a = 0 → TC p q h μ (.error 6) (f_X0_endsTerm (nI k) μ)) ∧ (∀ A, μ 13 0 a = 1 → WA A → GA μ a A → TC p q h μ (.ok A) (f_X0_endsTerm (nI k) μ)) := by
  have hph := hp.1 h hh
  have e0 : f_X0_endsTerm (nI k) μ = bT (f_X2_find (nI a) μ) (fun e_8 => some (.error e_8, μ)) fun v_7 =>
      gd (decide (v_7 < 18)) <| bB (f_X1_copy (p h) v_7 μ) (fun e_11 μ_10 => some (.error e_11, μ_10)) fun u_9 μ_10 =>
      lt (sto μ_10 14 0 4 ((μ_10 14 0 4) + (1 : Int32))) fun μ_12 => some (.ok (1 : Int32), μ_12) := by
    unfold f_X0_endsTerm
    simp only [ig_t hk (show 200 < 2 ^ 31 by omega), nI_clamp (show k < 2 ^ 31 by omega), h4, h5, jn, if_true, hc.2.1, ig_t hh (show 8 < 2 ^ 31 by omega), nI_clamp (show h < 2 ^ 31 by omega), hc.2.2 h hh, nI_clamp (show p h < 2 ^ 31 by omega), gd_d (show p h < 18 by omega), lt]
  constructor
  · intro hn
    rw [e0]
    unfold f_X2_find
    rw [has_eq ha, bP_s, if_pos hn, if_pos rfl, bT_e]
    exact ⟨_, μ, rfl, fun _ _ _ => rfl, fun _ _ => rfl, rfl, hc⟩
  · intro A hn hW hA
    have i0 : ¬ (1 : Int32) = 0 := by decide
    obtain ⟨μ', g1, g2, g3⟩ := gcopy_eq (o := p h) (show a ≠ p h by omega) hA hW
    rw [e0]
    unfold f_X2_find
    rw [has_eq ha, bP_s, if_neg (show ¬ μ 13 0 a = 0 by rw [hn]; exact i0), if_neg i0, ig_t ha (by omega), nI_clamp (by omega)]
    simp only [lt, gd_d (show a < 18 by omega), bT_o]
    rw [g1, bB_o]
    refine ⟨_, _, rfl, fun k' i hk' => ?_, fun j hj => ?_, rfl, ⟨?_, ?_, fun j hj => ?_⟩, ?_, ?_, fun j hj => ?_, fun j hj => ?_⟩
    · rw [sto_k hk'.1]; exact g2 k' i (by omega)
    · rw [sto_j hj, g2 14 0 (by omega)]
    · rw [sto_j (by omega), g2 14 0 (by omega)]; exact hc.1
    · rw [sto_e, g2 14 0 (by omega), hc.2.1, nI_succ]
    · rw [sto_k (by omega), g2 15 0 (by omega)]; exact hc.2.2 j hj
    · rw [sto_k (by omega)]; exact g3.1
    · rw [sto_k (by omega)]; exact g3.2.1
    · rw [sto_k (by omega)]; exact g3.2.2.1 j hj
    · rw [sto_k (by omega)]; exact g3.2.2.2 j hj
/-! the reference's -/
theorem mterm_97 {k c m : Nat} {μ : Mem} {κ : Mem → Option (Int32 × Mem)} {N : Nat → Int32} (T : Option (Int32 × Mem) → Prop) (hk : k < 201) (hm : m ≤ 48) (hcm : c + m ≤ 101) (h6 : μ 36 0 k = nI c) (hN : ∀ j, j < c + m → μ 38 0 j = N j)
    (hend : ∀ ν, (∀ q i j, q ≠ 34 ∨ j < 336 ∨ 384 ≤ j → ν q i j = μ q i j) → (∀ j, j < m → ν 34 0 (336 + j) = N (c + j)) → T (κ ν)) : T (f_X8_term_L97 κ (nI k) (nI m) 1000 (nI 0) μ) := by
  refine lp0 (fun n (s : Int32 × Mem) => f_X8_term_L97 κ (nI k) (nI m) n s.1 s.2) T m (fun i s => s.1 = nI i ∧ (∀ q i j, q ≠ 34 ∨ j < 336 ∨ 384 ≤ j → s.2 q i j = μ q i j) ∧ ∀ j, j < i → s.2 34 0 (336 + j) = N (c + j)) (nI 0, μ) 1000 (by omega) ⟨rfl, fun _ _ _ _ => rfl, fun j hj => by omega⟩ ?_ ?_
  · rintro n ⟨x, ν⟩ ⟨e1, e2, e3⟩
    dsimp only at e1 e2 e3 ⊢
    subst e1
    simp only [f_X8_term_L97, nle_t (Nat.le_refl _) (show m < 2 ^ 31 by omega), if_true]
    exact hend ν e2 e3
  · rintro n i ⟨x, ν⟩ hi hn ⟨e1, e2, e3⟩
    dsimp only at e1 e2 e3 ⊢
    subst e1
    left
    have e4 : ν 36 0 k = nI c := by rw [e2 36 0 k (by omega)]; exact h6
    have e5 : ν 38 0 (c + i) = N (c + i) := by rw [e2 38 0 _ (by omega)]; exact hN _ (by omega)
    refine ⟨(nI (i + 1), sto ν 34 0 (336 + i) (N (c + i))), ⟨rfl, fun q k j hq => ?_, fun j hj => ?_⟩, ?_⟩
    · dsimp only; rw [sto_nj (by omega)]; exact e2 q k j hq
    · dsimp only
      by_cases q : j = i
      · subst q; rw [sto_e]
      · rw [sto_j (by omega)]; exact e3 j (by omega)
    · simp only [f_X8_term_L97, nle_f hi (show m < 2 ^ 31 by omega), if_false, ig_t hk (show 201 < 2 ^ 31 by omega), nI_clamp (show k < 2 ^ 31 by omega), e4, nI_add, ig_t (show c + i < 101 by omega) (show 101 < 2 ^ 31 by omega), nI_clamp (show c + i < 2 ^ 31 by omega), e5, il7, set_eq (show 48 * 7 + i < 960 by omega), bW_s, lt, ← nI_succ]
theorem nums_M {k c m : Nat} {μ : Mem} {N : Nat → Int32} (hk : k < 201) (h5 : μ 35 0 k = nI 0) (h6 : μ 36 0 k = nI c) (h7 : μ 37 0 k = nI m) (hm : 1 ≤ m) (hcm : c + m ≤ 101) (hN : ∀ j, j < c + m → μ 38 0 j = N j) (h0 : μ 30 0 16 = 0) : TM μ (if m ≤ 48 then .ok (numsA N c m) else .error 1) (f_X8_term (nI k) μ) := by
  unfold f_X8_term
  simp only [ig_t hk (show 201 < 2 ^ 31 by omega), nI_clamp (show k < 2 ^ 31 by omega), h5, h7, lt, jn, il48, nle_iff (show m < 2 ^ 31 by omega) (show 48 < 2 ^ 31 by omega)]
  rw [if_neg (show ¬ nI 0 = 1 by decide)]
  by_cases c1 : m ≤ 48
  rotate_left
  · rw [if_neg c1, if_neg c1, stop_eq il1, isb_0]
    exact ⟨0, _, rfl, fun k' i j hj => sto_nj (by omega), rfl, sto_e⟩
  rw [if_pos c1, if_pos c1]
  have main : ∀ x : Int32, x = nI (numsA N c m).1 → TM μ (.ok (numsA N c m)) (gd (inb 7 20) (gd (inb 21 60) (f_X8_term_L97 (fun μ_14 => some (1, μ_14)) (nI k) (nI m) 1000 0 (sto (sto μ 32 0 (7 : Int32).toNatClampNeg x) 33 0 (21 : Int32).toNatClampNeg (nI m))))) := by
    intro x hx
    rw [il7, il21, il0, ig_t (by omega) (by omega), ig_t (by omega) (by omega), nI_clamp (by omega), nI_clamp (by omega)]
    refine mterm_97 (N := N) _ hk c1 hcm (by rw [sto_k (by omega), sto_k (by omega)]; exact h6) (fun j hj => by rw [sto_k (by omega), sto_k (by omega)]; exact hN j hj) (fun ν e1 e2 => ?_)
    refine ⟨1, ν, rfl, fun k' i j hj => ?_, rfl, ?_, ?_, fun j hj => ?_, fun j hj => ?_⟩
    · rw [e1 k' i j (by omega), sto_nj (by omega), sto_nj (by omega)]
    · rw [e1 30 0 16 (by omega), sto_k (by omega), sto_k (by omega)]; exact h0
    · rw [e1 32 0 7 (by omega), sto_k (by omega), sto_e]; exact hx
    · have hj0 : j = 0 := by
        have h1 : (numsA N c m).1 ≤ 1 := by show (if m = 1 then 0 else 1) ≤ 1; split <;> omega
        omega
      subst hj0
      rw [e1 33 0 _ (by omega), sto_e]; rfl
    · rw [numsA_sz hm] at hj
      exact e2 j hj
  by_cases c2 : m = 1
  · rw [if_pos (by rw [c2]; decide)]
    exact main 0 (by show (0 : Int32) = nI (if m = 1 then 0 else 1); rw [if_pos c2]; decide)
  · rw [if_neg (by rw [il1, neq_iff (by omega) (by omega)]; exact c2)]
    exact main 1 (by show (1 : Int32) = nI (if m = 1 then 0 else 1); rw [if_neg c2]; decide)
theorem name_M {k a : Nat} {μ : Mem} (hk : k < 201) (ha : a < 8) (h5 : μ 35 0 k = nI 1) (h6 : μ 36 0 k = nI a) (h0 : μ 30 0 16 = 0) : (μ 32 0 (9 + a) = -1 → TM μ (.error 6) (f_X8_term (nI k) μ)) ∧ (∀ A, WA A → SA μ (9 + a) A → TM μ (.ok A) (f_X8_term (nI k) μ)) := by
  have e0 : f_X8_term (nI k) μ = (if 0 ≤ (μ 32 0 (9 + a)) then (bW (f_X8_copy (nI (9 + a)) (7 : Int32) μ) fun u_17 μ_18 => some ((1 : Int32), μ_18)) else some (0, sto μ 30 0 16 (nI 6))) := by
    unfold f_X8_term
    simp only [ig_t hk (show 201 < 2 ^ 31 by omega), nI_clamp (show k < 2 ^ 31 by omega), h5, h6, il9, nI_add, ig_t (show 9 + a < 20 by omega) (show 20 < 2 ^ 31 by omega), nI_clamp (show 9 + a < 2 ^ 31 by omega), stop_eq il6, isb_0]
    rw [if_pos (by decide)]
  rw [e0]
  constructor
  · intro hn
    rw [hn, if_neg (by decide)]
    exact ⟨0, _, rfl, fun k' i j hj => sto_nj (by omega), rfl, sto_e⟩
  · intro A hW hA
    have h1 := hW.1
    obtain ⟨μ', g1, g2, g3⟩ := mcopy_A (a := 9 + a) (b := 7) (by omega) (by omega) (by omega) hW hA
    rw [hA.1, if_pos (nI_pos' (by omega)), il7, g1, bW_s]
    exact ⟨1, μ', rfl, fun k' i j hj => g2 k' i j (by omega), rfl, by rw [g2 30 0 16 (by omega)]; exact h0, g3⟩
