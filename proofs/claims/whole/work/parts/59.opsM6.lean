theorem mresh_31 {μ : Mem} {A : Arr} {κ : Unit → Option (Int32 × Mem)} (T : Option (Int32 × Mem) → Prop) (hW : WA A) (hA : SA μ 18 A)
    (hp : (∀ k, k < sz A → 0 ≤ A.2.2 k) → T (κ ())) (hn : ¬ (∀ k, k < sz A → 0 ≤ A.2.2 k) → T (some (0, sto μ 30 0 16 (nI 2)))) : T (f_X8_reshape_L31 κ (nI (sz A)) μ 1000 0) := by
  have h1 := hW.2.2
  rw [il0]
  refine lp0 (fun n (s : Int32) => f_X8_reshape_L31 κ (nI (sz A)) μ n s) T (sz A) (fun i s => s = nI i ∧ ∀ k, k < i → 0 ≤ A.2.2 k) (nI 0) 1000 (by omega) ⟨rfl, fun k hk => by omega⟩ ?_ ?_
  · rintro n s ⟨rfl, h3⟩
    simp only [f_X8_reshape_L31, nle_t (Nat.le_refl _) (show sz A < 2 ^ 31 by omega), if_true]
    exact hp h3
  · rintro n i s hi hn' ⟨rfl, h3⟩
    simp only [f_X8_reshape_L31, nle_f hi (show sz A < 2 ^ 31 by omega), if_false, il18, get_eq (show 48 * 18 + i < 960 by omega), bP_s, hA.2.2 i hi, lt, ← nI_succ]
    by_cases c : 0 ≤ A.2.2 i
    · left
      refine ⟨nI (i + 1), ⟨rfl, fun k hk => ?_⟩, by rw [if_pos c]⟩
      by_cases q : k = i
      · rw [q]; exact c
      · exact h3 k (by omega)
    · right
      rw [if_neg c, stop_eq il2, isb_0]
      exact hn (fun q => c (q i hi))
theorem reshape_M {μ : Mem} {A B : Arr} (hWA : WA A) (hA : SA μ 18 A) (hWB : WA B) (hB : SA μ 19 B) (h0 : μ 30 0 16 = 0) : MT μ (s_resh A B) (f_X8_reshape μ) := by
  have h1 := hWA.1
  have h1s := hWA.2.2
  have h2s := hWB.2.2
  unfold f_X8_reshape s_resh
  rw [il18, sizeOf_eq (by omega) hWA hA, bP_s, ig_t (by omega) (by omega), nI_clamp (by omega), hA.1]
  simp only [jn, il1, il3, nlt_iff (show 1 < 2 ^ 31 by omega) (show A.1 < 2 ^ 31 by omega), nle_iff (show sz A < 2 ^ 31 by omega) (show 3 < 2 ^ 31 by omega), stop_eq il4, isb_0]
  by_cases c1 : 1 < A.1
  · rw [if_pos c1, if_pos (Or.inl c1)]; exact MT_stop Fm.refl
  rw [if_neg c1]
  by_cases c2 : 3 < sz A
  · rw [if_neg (show ¬ sz A ≤ 3 by omega), if_pos (Or.inr c2)]; exact MT_stop Fm.refl
  rw [if_pos (show sz A ≤ 3 by omega), if_neg (show ¬ (1 < A.1 ∨ 3 < sz A) by omega)]
  refine mresh_31 _ hWA hA (fun c3 => ?_) (fun c3 => ?_)
  rotate_left
  · rw [if_neg c3]; exact MT_stop Fm.refl
  rw [if_pos c3]
  have hL : ∀ k, k < sz A → A.2.2 k = nI (aL A k) ∧ aL A k < 2 ^ 31 := fun k hk => nn_of (c3 k hk)
  -- what stands behind the three lengths
  have main : ∀ a b c : Int32, (0 < sz A → a = nI (aL A 0)) → (1 < sz A → b = nI (aL A 1)) → (2 < sz A → c = nI (aL A 2)) → MT μ (if okS (sz A) (aL A) then (if sz B = 0 ∧ 0 < pr (aL A) (sz A) then .error 3 else mkA (sz A) (aL A) (fun k => .ok (B.2.2 (k % sz B)))) else .error 1)
      (bW (f_X8_shape (nI (sz A)) a b c μ) fun v_18 μ_19 =>
       if v_18 = 0 then (some ((0 : Int32), μ_19)) else
       bP (f_X8_sizeOf (8 : Int32) μ_19) fun v_20 =>
       bP (f_X8_sizeOf (19 : Int32) μ_19) fun v_21 =>
       if v_20 ≤ 0 then (f_X8_reshape_L146 (fun (μ_33 : Mem) => some (nI 1, μ_33)) v_20 v_21 1000 (0 : Int32) μ_19)
       else if v_21 = 0 then (bW (f_X8_stop (nI 3) μ_19) fun v_34 μ_35 => gd (isb v_34) <| some (v_34, μ_35))
       else f_X8_reshape_L146 (fun (μ_33 : Mem) => some (nI 1, μ_33)) v_20 v_21 1000 (0 : Int32) μ_19) := by
    intro a b c qa qb qc
    obtain ⟨μ1, f1, f2⟩ := shape_eq (r := sz A) (a := a) (b := b) (c := c) (μ := μ) (L := aL A) (by omega) qa qb qc (fun k hk => (hL k hk).2) h0
    rcases f2 with ⟨d1, d2, d3, d4⟩ | ⟨d1, d2, d3⟩
    rotate_left
    · rw [d2, bW_s, if_neg d1, if_pos rfl]
      exact ⟨0, μ1, rfl, f1, rfl, d3⟩
    have hN := d1.2
    have hB1 := f1.sa (by omega) hWB hB
    rw [d2, bW_s, if_pos d1, if_neg (show ¬ (1 : Int32) = 0 by decide), il8, sizeOf_eq' (by omega) (by omega) d3.1 d3.2, bP_s, il19, sizeOf_eq (by omega) hWB hB1, bP_s]
    simp only [il0, nle_iff (show pr (aL A) (sz A) < 2 ^ 31 by omega) (show 0 < 2 ^ 31 by omega), neq_iff (show sz B < 2 ^ 31 by omega) (show 0 < 2 ^ 31 by omega)]
    have hloop : ¬ (sz B = 0 ∧ 0 < pr (aL A) (sz A)) → MT μ (mkA (sz A) (aL A) (fun k => .ok (B.2.2 (k % sz B)))) (f_X8_reshape_L146 (fun (μ_33 : Mem) => some (nI 1, μ_33)) (nI (pr (aL A) (sz A))) (nI (sz B)) 1000 (nI 0) μ1) := by
      intro c5
      refine Mloop' (fun n (s : Int32) ν => f_X8_reshape_L146 (fun (μ_33 : Mem) => some (nI 1, μ_33)) (nI (pr (aL A) (sz A))) (nI (sz B)) n s ν) nI f1 d3 (by omega) d4 hN ?_ ?_
      · intro n ν
        simp only [f_X8_reshape_L146, nle_t (Nat.le_refl _) (show pr (aL A) (sz A) < 2 ^ 31 by omega), if_true, il1]
      · intro n k ν hk h5
        have hm0 : 0 < sz B := by omega
        have hmod := Nat.mod_lt k hm0
        have hnz : ∀ {α : Type} {o : Option α}, gd (nz (nI (sz B))) o = o := by
          intro α o; rw [i_nz (nI_ne0 hm0 (by omega))]; rfl
        have g2 := (h5.sa (by omega) hWB hB1).2.2 (k % sz B) hmod
        simp only [f_X8_reshape_L146, nle_f hk (show pr (aL A) (sz A) < 2 ^ 31 by omega), if_false, hnz, pk_div (show k < 2 ^ 31 by omega) hm0 (show sz B < 2 ^ 31 by omega), pk_mul, pk_sub (Nat.div_mul_le_self k (sz B)), kmod, il19, il8, get_eq (show 48 * 19 + k % sz B < 960 by omega), bP_s, g2, set_eq (show 48 * 8 + k < 960 by omega), bW_s, lt, ← nI_succ]
    by_cases c5 : sz B = 0 ∧ 0 < pr (aL A) (sz A)
    · rw [if_pos c5, if_neg (show ¬ pr (aL A) (sz A) ≤ 0 by omega), if_pos c5.1, stop_eq (e := 3) rfl, isb_0]
      exact MT_stop f1
    · rw [if_neg c5]
      by_cases c6 : pr (aL A) (sz A) ≤ 0
      · rw [if_pos c6]; exact hloop c5
      · rw [if_neg c6, if_neg (show ¬ sz B = 0 by omega)]; exact hloop c5
  have s0 : ∀ {α : Type} {x y : α}, (if nI (sz A) ≤ 0 then x else y) = if sz A ≤ 0 then x else y := by
    intro α x y
    simp only [il0, nle_iff (show sz A < 2 ^ 31 by omega) (show 0 < 2 ^ 31 by omega)]
  have s1 : ∀ {α : Type} {x y : α}, (if nI (sz A) ≤ nI 1 then x else y) = if sz A ≤ 1 then x else y := by
    intro α x y
    simp only [nle_iff (show sz A < 2 ^ 31 by omega) (show 1 < 2 ^ 31 by omega)]
  have s2 : ∀ {α : Type} {x y : α}, (if nI (sz A) ≤ 2 then x else y) = if sz A ≤ 2 then x else y := by
    intro α x y
    simp only [il2, nle_iff (show sz A < 2 ^ 31 by omega) (show 2 < 2 ^ 31 by omega)]
  rw [s0]
  by_cases q0 : sz A ≤ 0
  · rw [if_pos q0, s1, if_pos (show sz A ≤ 1 by omega), s2, if_pos (show sz A ≤ 2 by omega)]
    exact main _ _ _ (by omega) (by omega) (by omega)
  rw [if_neg q0, show f_X8_get (nI 18) 0 μ = some (nI (aL A 0)) by rw [il0, get_eq (by omega)]; rw [← (hL 0 (by omega)).1]; rw [hA.2.2 0 (by omega)], bP_s, s1]
  by_cases q1 : sz A ≤ 1
  · rw [if_pos q1, s2, if_pos (show sz A ≤ 2 by omega)]
    exact main _ _ _ (fun _ => rfl) (by omega) (by omega)
  rw [if_neg q1, show f_X8_get (nI 18) (nI 1) μ = some (nI (aL A 1)) by rw [get_eq (by omega)]; rw [← (hL 1 (by omega)).1]; rw [hA.2.2 1 (by omega)], bP_s, s2]
  by_cases q2 : sz A ≤ 2
  · rw [if_pos q2]
    exact main _ _ _ (fun _ => rfl) (fun _ => rfl) (by omega)
  rw [if_neg q2, show f_X8_get (nI 18) 2 μ = some (nI (aL A 2)) by rw [il2, get_eq (by omega)]; rw [← (hL 2 (by omega)).1]; rw [hA.2.2 2 (by omega)], bP_s]
  exact main _ _ _ (fun _ => rfl) (fun _ => rfl) (fun _ => rfl)
theorem mpick_153 {m k x : Nat} {μ : Mem} {B : Arr} {κ : Mem → Option (Int32 × Mem)} {c3 : Int32} (T : Option (Int32 × Mem) → Prop) (hWB : WA B) (hB : SA μ 19 B) (hm : m ≤ 48) (hx : m * x + m ≤ sz B) (hk : m * k + m ≤ 48)
    (hend : ∀ ν, (∀ q i j, q ≠ 34 ∨ j < 384 + m * k ∨ 384 + m * k + m ≤ j → ν q i j = μ q i j) → (∀ j, j < m → ν 34 0 (384 + (m * k + j)) = B.2.2 (m * x + j)) → T (κ ν)) : T (f_X8_pick_L153 κ (nI m) c3 (nI k) (nI x) 1000 (nI 0) μ) := by
  have h2s := hWB.2.2
  refine lp0 (fun n (s : Int32 × Mem) => f_X8_pick_L153 κ (nI m) c3 (nI k) (nI x) n s.1 s.2) T m (fun i s => s.1 = nI i ∧ (∀ q i j, q ≠ 34 ∨ j < 384 + m * k ∨ 384 + m * k + m ≤ j → s.2 q i j = μ q i j) ∧ ∀ j, j < i → s.2 34 0 (384 + (m * k + j)) = B.2.2 (m * x + j)) (nI 0, μ) 1000 (by omega) ⟨rfl, fun _ _ _ _ => rfl, fun j hj => by omega⟩ ?_ ?_
  · rintro n ⟨y, ν⟩ ⟨e1, e2, e3⟩
    dsimp only at e1 e2 e3 ⊢
    subst e1
    simp only [f_X8_pick_L153, nle_t (Nat.le_refl _) (show m < 2 ^ 31 by omega), if_true]
    exact hend ν e2 e3
  · rintro n i ⟨y, ν⟩ hi hn ⟨e1, e2, e3⟩
    dsimp only at e1 e2 e3 ⊢
    subst e1
    left
    have e4 : ν 34 0 (48 * 19 + (m * x + i)) = B.2.2 (m * x + i) := by rw [e2 34 0 _ (by omega)]; exact hB.2.2 _ (by omega)
    refine ⟨(nI (i + 1), sto ν 34 0 (48 * 8 + (m * k + i)) (B.2.2 (m * x + i))), ⟨rfl, fun q k' j hq => ?_, fun j hj => ?_⟩, ?_⟩
    · dsimp only; rw [sto_nj (by omega)]; exact e2 q k' j hq
    · dsimp only
      by_cases q : j = i
      · subst q; rw [sto_e]
      · rw [sto_j (by omega)]; exact e3 j (by omega)
    · simp only [f_X8_pick_L153, nle_f hi (show m < 2 ^ 31 by omega), if_false, il8, il19, pk_mul, nI_add, get_eq (show 48 * 19 + (m * x + i) < 960 by omega), bP_s, e4, set_eq (show 48 * 8 + (m * k + i) < 960 by omega), bW_s, lt, ← nI_succ]
theorem pick_M {μ : Mem} {A B : Arr} (hWA : WA A) (hA : SA μ 18 A) (hWB : WA B) (hB : SA μ 19 B) (h0 : μ 30 0 16 = 0) : MT μ (s_pick A B) (f_X8_pick μ) := by
  have h1 := hWA.1
  have h2 := hWB.1
  have h1s := hWA.2.2
  have h2s := hWB.2.2
  unfold f_X8_pick s_pick
  simp only [il18, il19, ig_t (show 18 < 20 by omega) (show 20 < 2 ^ 31 by omega), ig_t (show 19 < 20 by omega) (show 20 < 2 ^ 31 by omega), nI_clamp (show 18 < 2 ^ 31 by omega), nI_clamp (show 19 < 2 ^ 31 by omega), hA.1, hB.1, lt, jn, nI_add, il4, nle_iff (show A.1 + B.1 < 2 ^ 31 by omega) (show 4 < 2 ^ 31 by omega), stop_eq (e := 4) rfl, isb_0]
  have s0 : ∀ {α : Type} {x y : α}, (if nI B.1 = 0 then x else y) = if B.1 = 0 then x else y := by
    intro α x y
    simp only [il0, neq_iff (show B.1 < 2 ^ 31 by omega) (show 0 < 2 ^ 31 by omega)]
  rw [s0]
  by_cases c1 : B.1 = 0
  · rw [if_pos c1, if_pos (Or.inl c1)]; exact MT_stop Fm.refl
  rw [if_neg c1]
  by_cases c2 : 4 < A.1 + B.1
  · rw [if_neg (show ¬ A.1 + B.1 ≤ 4 by omega), if_pos (Or.inr c2)]; exact MT_stop Fm.refl
  rw [if_pos (show A.1 + B.1 ≤ 4 by omega), if_neg (show ¬ (B.1 = 0 ∨ 4 < A.1 + B.1) by omega)]
  obtain ⟨x0, e0, e0'⟩ := joined_eq (k := 0) (less := 0) (skip := 1) hWA hA hWB hB (by omega) (by omega) (by omega)
  obtain ⟨x1, e1, e1'⟩ := joined_eq (k := 1) (less := 0) (skip := 1) hWA hA hWB hB (by omega) (by omega) (by omega)
  obtain ⟨x2, e2, e2'⟩ := joined_eq (k := 2) (less := 0) (skip := 1) hWA hA hWB hB (by omega) (by omega) (by omega)
  have e0 : f_X8_joined 0 0 1 μ = some x0 := e0
  have e1 : f_X8_joined 1 0 1 μ = some x1 := e1
  have e2 : f_X8_joined 2 0 1 μ = some x2 := e2
  rw [e0, bP_s, e1, bP_s, e2, bP_s, il1, pk_sub (by omega)]
  have hcl : ∀ k, k < A.1 + (B.1 - 1) → cat A.1 A.2.1 (tl B.2.1) k ≤ 48 := cat_le hWA hWB (less := 0) (skip := 1)
  have hB48 := hWB.2.1 0 (by omega)
  obtain ⟨μ1, f1, f2⟩ := shape_eq (r := A.1 + (B.1 - 1)) (a := x0) (b := x1) (c := x2) (μ := μ) (L := cat A.1 A.2.1 (tl B.2.1)) (by omega) e0' e1' e2' (fun k hk => by have := hcl k hk; omega) h0
  rw [show A.1 + B.1 - 1 = A.1 + (B.1 - 1) by omega]
  rcases f2 with ⟨d1, d2, d3, d4⟩ | ⟨d1, d2, d3⟩
  rotate_left
  · rw [d2, bW_s, if_neg d1, if_pos rfl]
    exact ⟨0, μ1, rfl, f1, rfl, d3⟩
  rw [d2, bW_s, if_pos d1, if_neg (show ¬ (1 : Int32) = 0 by decide)]
  have hA1 := f1.sa (by omega) hWA hA
  have hB1 := f1.sa (by omega) hWB hB
  have hN := d1.2
  refine pick_74 _ h2 (by omega) hB1.1 hB1.2.1 ?_
  generalize hm : pr (tl B.2.1) (B.1 - 1) = m
  generalize hLL : cat A.1 A.2.1 (tl B.2.1) = L at *
  have hp : pr L (A.1 + (B.1 - 1)) = sz A * m := by rw [← hLL, ← hm]; exact pr_cat _ _ _ _
  have hsB : sz B = B.2.1 0 * m := by
    unfold sz
    rw [show B.1 = B.1 - 1 + 1 by omega, pr_tl, ← hm]
  rw [sizeOf_eq (by omega) hWA hA1, bP_s]
  generalize hFF : (fun k => (Except.ok (B.2.2 ((A.2.2 (k / m)).toNatClampNeg * m + k % m)) : Except Nat Int32)) = F
  generalize hT : MT μ (if ∀ k, k < sz A → 0 ≤ A.2.2 k ∧ A.2.2 k < nI (B.2.1 0) then mkA (A.1 + (B.1 - 1)) L F else .error 5) = T
  have z0 : (0 : Int32) = nI 0 := il0
  rw [z0]
  refine lp0 (fun n (s : Int32 × Mem) => f_X8_pick_L111 (fun (μ_43 : Mem) => some (nI 1, μ_43)) (nI m) (nI (sz A)) n s.1 s.2) T (sz A)
    (fun k s => s.1 = nI k ∧ MI μ1 F (m * k) s.2 ∧ ∀ j, j < k → 0 ≤ A.2.2 j ∧ A.2.2 j < nI (B.2.1 0)) (nI 0, μ1) 1000 (by omega) ⟨rfl, by rw [Nat.mul_zero]; exact MI_0, fun j hj => by omega⟩ ?_ ?_
  · rintro n ⟨x, ν⟩ ⟨g1, g2, g3⟩
    dsimp only at g1 g2 g3 ⊢
    subst g1
    simp only [f_X8_pick_L111, nle_t (Nat.le_refl _) (show sz A < 2 ^ 31 by omega), if_true]
    rw [← hT, if_pos g3]
    exact MT_end f1 d3 (by omega) d4 (by rw [hp, Nat.mul_comm]; exact g2)
  · rintro n k ⟨x, ν⟩ hk hn ⟨g1, g2, g3⟩
    dsimp only at g1 g2 g3 ⊢
    subst g1
    have g5 := (g2.sa (by omega) hWA hA1).2.2 k hk
    have g6 := (g2.sa (by omega) hWB hB1).2.1 0 (by omega)
    have a0 : f_X8_axisOf (19 : Int32) (0 : Int32) ν = some (nI (B.2.1 0)) := by rw [il19, il0, axisOf_eq (by omega), g6]
    simp only [f_X8_pick_L111, nle_f hk (show sz A < 2 ^ 31 by omega), if_false, il18, get_eq (show 48 * 18 + k < 960 by omega), bP_s, g5, a0]
    by_cases c4 : A.2.2 k < 0
    · right
      rw [if_pos c4, stop_eq il5, isb_0, ← hT, if_neg (fun q => by have := (q k hk).1; rw [i_nlt] at this; exact this c4)]
      exact MT_stop (f1.trans g2.fm)
    · rw [if_neg c4]
      by_cases c5 : A.2.2 k < nI (B.2.1 0)
      rotate_left
      · right
        rw [if_neg c5, stop_eq il5, isb_0, ← hT, if_neg (fun q => c5 (q k hk).2)]
        exact MT_stop (f1.trans g2.fm)
      · rw [if_pos c5]
        obtain ⟨y1, y2⟩ := nn_of (x := A.2.2 k) (by rw [i_nlt]; exact c4)
        generalize hxi : (A.2.2 k).toNatClampNeg = xi at *
        have hxl : xi < B.2.1 0 := by rw [y1, nlt_iff y2 (by omega)] at c5; exact c5
        have b1 : m * xi + m ≤ sz B := by
          have : (xi + 1) * m ≤ B.2.1 0 * m := Nat.mul_le_mul_right m hxl
          rw [Nat.succ_mul, Nat.mul_comm] at this
          omega
        have b2 : m * k + m ≤ 48 := by
          have : (k + 1) * m ≤ sz A * m := Nat.mul_le_mul_right m hk
          rw [Nat.succ_mul, Nat.mul_comm] at this
          omega
        rw [y1, z0]
        refine mpick_153 (fun x => (∃ s' : Int32 × Mem, (s'.1 = nI (k + 1) ∧ MI μ1 F (m * (k + 1)) s'.2 ∧ ∀ j, j < k + 1 → 0 ≤ A.2.2 j ∧ A.2.2 j < nI (B.2.1 0)) ∧ x = f_X8_pick_L111 (fun (μ_43 : Mem) => some (nI 1, μ_43)) (nI m) (nI (sz A)) n s'.1 s'.2) ∨ T x) hWB (g2.sa (by omega) hWB hB1) (by omega) b1 b2 (fun ν' u1 u2 => ?_)
        left
        refine ⟨(nI (k + 1), ν'), ⟨rfl, ⟨fun q i j hq => ?_, fun j hj => ?_⟩, fun j hj => ?_⟩, ?_⟩
        · dsimp only
          rw [u1 q i j (by omega)]
          exact g2.1 q i j hq
        · dsimp only
          rw [Nat.mul_succ] at hj
          by_cases q1 : j < m * k
          · rw [u1 34 0 _ (by omega)]; exact g2.2 j q1
          · have q2 : j - m * k < m := by omega
            have q3 := dm1 (i := k) q2
            rw [Nat.mul_comm k m, show m * k + (j - m * k) = j by omega] at q3
            have u3 := u2 (j - m * k) q2
            rw [show m * k + (j - m * k) = j by omega] at u3
            rw [← hFF, u3]
            dsimp only
            rw [q3.1, q3.2, hxi, Nat.mul_comm xi m]
        · by_cases q1 : j = k
          · rw [q1]; exact ⟨by rw [i_nlt]; exact c4, c5⟩
          · exact g3 j (by omega)
        · simp only [lt, ← nI_succ]
