/-- the product of the lengths of RIGHT behind the first: two loops alike -/
theorem inn_120 {r : Nat} {L : Nat → Nat} {μ : Mem} {κ : Int32 → Option (Int32 × Mem)} {c1 c2 c4 c5 : Int32} (T : Option (Int32 × Mem) → Prop) (hr : r ≤ 3) (hr1 : 1 ≤ r) (h1 : μ 32 0 19 = nI r) (h2 : ∀ k, k < r → μ 33 0 (57 + k) = nI (L k)) (hend : T (κ (nI (pr (tl L) (r - 1))))) : T (f_X8_inner_L120 κ c1 c2 c4 c5 μ 1000 (nI 1) (nI 1)) := by
  refine lp0 (fun n (t : Int32 × Int32) => f_X8_inner_L120 κ c1 c2 c4 c5 μ n t.1 t.2) T (r - 1) (fun i t => t.1 = nI (pr (tl L) i) ∧ t.2 = nI (1 + i)) (nI 1, nI 1) 1000 (by omega) ⟨rfl, rfl⟩ ?_ ?_
  · rintro n ⟨x, y⟩ ⟨e1, e2⟩
    dsimp only at e1 e2 ⊢
    subst e1 e2
    simp only [f_X8_inner_L120, il19, ig_t (show 19 < 20 by omega) (show 20 < 2 ^ 31 by omega), nI_clamp (show 19 < 2 ^ 31 by omega), h1, nle_t (show r ≤ 1 + (r - 1) by omega) (show 1 + (r - 1) < 2 ^ 31 by omega), if_true]
    exact hend
  · rintro n i ⟨x, y⟩ hi hn ⟨e1, e2⟩
    dsimp only at e1 e2 ⊢
    subst e1 e2
    left
    refine ⟨(nI (pr (tl L) (i + 1)), nI (1 + (i + 1))), ⟨rfl, rfl⟩, ?_⟩
    have e3 : μ 33 0 (3 * 19 + (1 + i)) = nI (tl L i) := by rw [Nat.add_comm 1 i]; exact h2 (i + 1) (by omega)
    simp only [f_X8_inner_L120, il19, ig_t (show 19 < 20 by omega) (show 20 < 2 ^ 31 by omega), nI_clamp (show 19 < 2 ^ 31 by omega), h1, nle_f (show 1 + i < r by omega) (show r < 2 ^ 31 by omega), if_false, axisOf_eq (show 3 * 19 + (1 + i) < 60 by omega), bP_s, e3, pk_mul, lt, il1, nI_add, pr]
    rfl
theorem pick_74 {r : Nat} {L : Nat → Nat} {μ : Mem} {κ : Int32 → Option (Int32 × Mem)} (T : Option (Int32 × Mem) → Prop) (hr : r ≤ 3) (hr1 : 1 ≤ r) (h1 : μ 32 0 19 = nI r) (h2 : ∀ k, k < r → μ 33 0 (57 + k) = nI (L k)) (hend : T (κ (nI (pr (tl L) (r - 1))))) : T (f_X8_pick_L74 κ μ 1000 (nI 1) (nI 1)) := by
  refine lp0 (fun n (t : Int32 × Int32) => f_X8_pick_L74 κ μ n t.1 t.2) T (r - 1) (fun i t => t.1 = nI (pr (tl L) i) ∧ t.2 = nI (1 + i)) (nI 1, nI 1) 1000 (by omega) ⟨rfl, rfl⟩ ?_ ?_
  · rintro n ⟨x, y⟩ ⟨e1, e2⟩
    dsimp only at e1 e2 ⊢
    subst e1 e2
    simp only [f_X8_pick_L74, il19, ig_t (show 19 < 20 by omega) (show 20 < 2 ^ 31 by omega), nI_clamp (show 19 < 2 ^ 31 by omega), h1, nle_t (show r ≤ 1 + (r - 1) by omega) (show 1 + (r - 1) < 2 ^ 31 by omega), if_true]
    exact hend
  · rintro n i ⟨x, y⟩ hi hn ⟨e1, e2⟩
    dsimp only at e1 e2 ⊢
    subst e1 e2
    left
    refine ⟨(nI (pr (tl L) (i + 1)), nI (1 + (i + 1))), ⟨rfl, rfl⟩, ?_⟩
    have e3 : μ 33 0 (3 * 19 + (1 + i)) = nI (tl L i) := by rw [Nat.add_comm 1 i]; exact h2 (i + 1) (by omega)
    simp only [f_X8_pick_L74, il19, ig_t (show 19 < 20 by omega) (show 20 < 2 ^ 31 by omega), nI_clamp (show 19 < 2 ^ 31 by omega), h1, nle_f (show 1 + i < r by omega) (show r < 2 ^ 31 by omega), if_false, axisOf_eq (show 3 * 19 + (1 + i) < 60 by omega), bP_s, e3, pk_mul, lt, il1, nI_add, pr]
    rfl
/-- the row of an inner product -/
theorem inn_171 {g w m k : Nat} {A B : Arr} {μ0 ν : Mem} {G F : Nat → Except Nat Int32} {κ : Mem → Option (Int32 × Mem)} {c1 c5 : Int32} (T : Option (Int32 × Mem) → Prop) (hgg : g < 10) (hWA : WA A) (hWB : WA B) (hA : SA μ0 18 A) (hB : SA μ0 19 B) (h0 : μ0 30 0 16 = 0) (hm0 : 0 < m) (hm : m ≤ 48) (hk : k < 48) (hin : k / m * w + w ≤ sz A) (hw : w ≤ 48) (hin2 : ∀ j, j < w → j * m + k % m < sz B) (hG : ∀ j, j < w → num g (A.2.2 (k / m * w + j)) (B.2.2 (j * m + k % m)) = G j) (e2 : MI μ0 F k ν)
    (hend : ∀ ν', MI μ0 F k ν' → (∀ q, q < w → G q = .ok (ν' 42 0 q)) → T (κ ν'))
    (herr : ∀ e ν' j, ME μ0 e ν' → (e = 1 ∨ e = 2) → j < w → (∀ q, q < j → ∃ v, G q = .ok v) → G j = .error e → T (κ ν')) :
    T (f_X8_inner_L171 κ c1 (nI g) (nI w) c5 (nI m) (nI k) 1000 (nI 0) ν) := by
  have h1s := hWA.2.2
  have h2s := hWB.2.2
  refine lp0 (fun n' (t : Int32 × Mem) => f_X8_inner_L171 κ c1 (nI g) (nI w) c5 (nI m) (nI k) n' t.1 t.2) T w
    (fun j t => t.1 = nI j ∧ MI μ0 F k t.2 ∧ ∀ q, q < j → G q = .ok (t.2 42 0 q)) (nI 0, ν) 1000 (by omega) ⟨rfl, e2, fun q hq => by omega⟩ ?_ ?_
  · rintro n' ⟨x, ν'⟩ ⟨d1, d2, d3⟩
    dsimp only at d1 d2 d3 ⊢
    subst d1
    simp only [f_X8_inner_L171, nle_t (Nat.le_refl _) (show w < 2 ^ 31 by omega), if_true]
    exact hend ν' d2 d3
  · rintro n' j ⟨x, ν'⟩ hj hn' ⟨d1, d2, d3⟩
    dsimp only at d1 d2 d3 ⊢
    subst d1
    have hf0 := d2.flt h0
    have j1 := hin2 j hj
    have j2 := (d2.sa (by omega) hWA hA).2.2 (k / m * w + j) (by omega)
    have j3 := (d2.sa (by omega) hWB hB).2.2 (j * m + k % m) j1
    have hnz : ∀ {α : Type} {o : Option α}, gd (nz (nI m)) o = o := by
      intro α o; rw [i_nz (nI_ne0 hm0 (by omega))]; rfl
    obtain ⟨v0, n1, n2⟩ := number_eq hgg (A.2.2 (k / m * w + j)) (B.2.2 (j * m + k % m)) ν'
    rw [hG j hj] at n1 n2
    simp only [f_X8_inner_L171, nle_f hj (show w < 2 ^ 31 by omega), if_false, if_pos hf0, hnz, pk_div (show k < 2 ^ 31 by omega) hm0 (show m < 2 ^ 31 by omega), pk_mul, pk_sub (Nat.div_mul_le_self k m), kmod, nI_add, il18, il19, get_eq (show 48 * 18 + (k / m * w + j) < 960 by omega), get_eq (show 48 * 19 + (j * m + k % m) < 960 by omega), bP_s, j2, j3, n1, bW_s, ig_t (show j < 49 by omega) (show 49 < 2 ^ 31 by omega), nI_clamp (show j < 2 ^ 31 by omega), lt, ← nI_succ]
    cases hq : G j with
    | error e =>
      right
      have he : e = 1 ∨ e = 2 := num_err ((hG j hj).trans hq)
      have hME : ME μ0 e (sto (sto ν' 30 0 16 (nI e)) 42 0 j v0) := ME.row d2.me
      have hne : ¬ (sto (sto ν' 30 0 16 (nI e)) 42 0 j v0) 30 0 16 = 0 := by rw [hME.2]; rcases he with rfl | rfl <;> decide
      obtain ⟨n2, rfl⟩ : ∃ n2, n' = n2 + 1 := ⟨n' - 1, by omega⟩
      have e5 : f_X8_inner_L171 κ c1 (nI g) (nI w) c5 (nI m) (nI k) (n2 + 1) (nI (j + 1)) (sto (fm ν' (.error e)) 42 0 j v0) = κ (sto (sto ν' 30 0 16 (nI e)) 42 0 j v0) := by
        show f_X8_inner_L171 κ c1 (nI g) (nI w) c5 (nI m) (nI k) (n2 + 1) (nI (j + 1)) (sto (sto ν' 30 0 16 (nI e)) 42 0 j v0) = _
        generalize (sto (sto ν' 30 0 16 (nI e)) 42 0 j v0) = ξ at hne
        simp only [f_X8_inner_L171, if_neg hne, ite_self]
      rw [e5]
      exact herr e _ j hME he hj (fun q hq' => ⟨_, d3 q hq'⟩) hq
    | ok v =>
      left
      rw [n2 v hq]
      refine ⟨(nI (j + 1), sto ν' 42 0 j v), ⟨rfl, MI_42 d2, fun i hi => ?_⟩, rfl⟩
      dsimp only
      by_cases q : i = j
      · subst q; rw [sto_e]; exact hq
      · rw [sto_j q]; exact d3 i (by omega)
theorem inner_M {f g : Nat} (hf : f < 10) (hgg : g < 10) {μ : Mem} {A B : Arr} (hWA : WA A) (hA : SA μ 18 A) (hWB : WA B) (hB : SA μ 19 B) (h0 : μ 30 0 16 = 0) : MT μ (s_inner f g A B) (f_X8_inner (nI f) (nI g) μ) := by
  have h1 := hWA.1
  have h2 := hWB.1
  have h1s := hWA.2.2
  have h2s := hWB.2.2
  unfold f_X8_inner s_inner
  simp only [il18, il19, ig_t (show 18 < 20 by omega) (show 20 < 2 ^ 31 by omega), ig_t (show 19 < 20 by omega) (show 20 < 2 ^ 31 by omega), nI_clamp (show 18 < 2 ^ 31 by omega), nI_clamp (show 19 < 2 ^ 31 by omega), hA.1, hB.1, lt, jn, nI_add, il0, il5, nle_iff (show A.1 + B.1 < 2 ^ 31 by omega) (show 5 < 2 ^ 31 by omega), neq_iff (show A.1 < 2 ^ 31 by omega) (show 0 < 2 ^ 31 by omega), neq_iff (show B.1 < 2 ^ 31 by omega) (show 0 < 2 ^ 31 by omega), stop_eq il4]
  rw [← il0]
  simp only [isb_0]
  by_cases c1 : A.1 = 0
  · rw [if_pos (Or.inl c1), if_pos c1]; exact MT_stop Fm.refl
  rw [if_neg c1]
  by_cases c2 : B.1 = 0
  · rw [if_pos (Or.inr (Or.inl c2)), if_pos c2]; exact MT_stop Fm.refl
  rw [if_neg c2]
  by_cases c3 : 5 < A.1 + B.1
  · rw [if_pos (Or.inr (Or.inr c3)), if_neg (show ¬ A.1 + B.1 ≤ 5 by omega)]; exact MT_stop Fm.refl
  have hw := WA_wd hWA
  have hB48 := hWB.2.1 0 (by omega)
  rw [if_neg (show ¬ (A.1 = 0 ∨ B.1 = 0 ∨ 5 < A.1 + B.1) by omega), if_pos (show A.1 + B.1 ≤ 5 by omega), last_eq (by omega) hWA hA, bP_s, il0, axisOf_eq (by omega), bP_s, show μ 33 0 (3 * 19 + 0) = nI (B.2.1 0) from hB.2.1 0 (by omega)]
  simp only [neq_iff (show wd A < 2 ^ 31 by omega) (show B.2.1 0 < 2 ^ 31 by omega)]
  by_cases c4 : wd A = B.2.1 0
  rotate_left
  · rw [if_neg c4, if_neg c4, stop_eq il3, isb_0]; exact MT_stop Fm.refl
  rw [if_pos c4, if_pos c4, il1, il2, pk_sub (by omega)]
  obtain ⟨x0, e0, e0'⟩ := joined_eq (k := 0) (less := 1) (skip := 1) hWA hA hWB hB (by omega) (by omega) (by omega)
  obtain ⟨x1, e1, e1'⟩ := joined_eq (k := 1) (less := 1) (skip := 1) hWA hA hWB hB (by omega) (by omega) (by omega)
  obtain ⟨x2, e2, e2'⟩ := joined_eq (k := 2) (less := 1) (skip := 1) hWA hA hWB hB (by omega) (by omega) (by omega)
  rw [e0, bP_s, e1, bP_s, e2, bP_s]
  have hcl : ∀ k, k < A.1 - 1 + (B.1 - 1) → cat (A.1 - 1) A.2.1 (tl B.2.1) k ≤ 48 := cat_le hWA hWB (less := 1) (skip := 1)
  obtain ⟨μ1, f1, f2⟩ := shape_eq (r := A.1 - 1 + (B.1 - 1)) (a := x0) (b := x1) (c := x2) (μ := μ) (L := cat (A.1 - 1) A.2.1 (tl B.2.1)) (by omega) e0' e1' e2' (fun k hk => by have := hcl k hk; omega) h0
  rw [show A.1 + B.1 - 2 = A.1 - 1 + (B.1 - 1) by omega]
  unfold mk
  rcases f2 with ⟨d1, d2, d3, d4⟩ | ⟨d1, d2, d3⟩
  rotate_left
  · rw [d2, bW_s, if_neg d1, if_pos nI_0.symm]
    exact ⟨0, μ1, rfl, f1, rfl, d3⟩
  rw [d2, bW_s, if_pos d1, if_neg (by decide)]
  have hA1 := f1.sa (by omega) hWA hA
  have hB1 := f1.sa (by omega) hWB hB
  have hN := d1.2
  generalize hm : pr (tl B.2.1) (B.1 - 1) = m
  generalize hLL : cat (A.1 - 1) A.2.1 (tl B.2.1) = L at *
  have hp : pr L (A.1 - 1 + (B.1 - 1)) = rws A * m := by rw [← hLL, ← hm]; exact pr_cat _ _ _ _
  have hsB : sz B = wd A * m := by
    unfold sz
    rw [show B.1 = B.1 - 1 + 1 by omega, pr_tl, c4, ← hm]
  rw [il8, sizeOf_eq' (by omega) (by omega) d3.1 d3.2, bP_s]
  refine inn_120 _ h2 (by omega) hB1.1 hB1.2.1 ?_
  rw [hm]
  generalize hκ : (fun (μ_28 : Mem) => if (μ_28 30 0 16) = nI 0 then some (nI 1, μ_28) else some (nI 0, μ_28)) = κ
  have k0 : ∀ ν, ν 30 0 16 = 0 → κ ν = some (1, ν) := fun ν q => by rw [← hκ]; simp only [q, nI_0, if_true, il1]
  have k1 : ∀ ν, ¬ ν 30 0 16 = 0 → κ ν = some (0, ν) := fun ν q => by rw [← hκ]; simp only [q, nI_0, if_false]
  refine Mloop (fun n (s : Int32) ν => f_X8_inner_L154 κ (nI f) (nI g) (nI (wd A)) (nI (pr L (A.1 - 1 + (B.1 - 1)))) (nI m) n s ν) nI f1 d3 (by omega) d4 hN ?_ ?_ ?_
  · intro n ν h5
    simp only [f_X8_inner_L154, nle_t (Nat.le_refl _) (show pr L (A.1 - 1 + (B.1 - 1)) < 2 ^ 31 by omega), if_true]
    exact k0 ν h5
  · intro n k ν h5
    simp only [f_X8_inner_L154, if_neg h5, ite_self]
    exact k1 ν h5
  · intro n k ν hk h5 h6
    have hk2 : k < rws A * m := by rw [← hp]; exact hk
    have hm0 : 0 < m := by
      rcases Nat.eq_zero_or_pos m with q | q
      · rw [q] at hk2; omega
      · exact q
    have hkm : k / m < rws A := Nat.div_lt_of_lt_mul (by rw [Nat.mul_comm]; exact hk2)
    have hkr := row_in hkm
    have hmb : m ≤ rws A * m := Nat.le_mul_of_pos_left m (Nat.lt_of_le_of_lt (Nat.zero_le _) hkm)
    have hmod := Nat.mod_lt k hm0
    generalize hG : (fun j => num g (A.2.2 (k / m * wd A + j)) (B.2.2 (j * m + k % m))) = G
    have hFk : inE f g A B (wd A) m k = match fe G (wd A) with
        | some e => .error e
        | none => fo f (fun j => vl (G j)) (wd A) := by rw [← hG]; rfl
    have e00 : f_X8_inner_L154 κ (nI f) (nI g) (nI (wd A)) (nI (pr L (A.1 - 1 + (B.1 - 1)))) (nI m) (n + 1) (nI k) ν = f_X8_inner_L171 (fun (μ_47 : Mem) =>
        if (μ_47 30 0 16) = 0 then (bW (f_X8_folded (nI f) (nI (wd A)) μ_47) fun v_51 μ_52 => bW (f_X8_set (nI 8) (nI k) v_51 μ_52) fun u_53 μ_54 =>
          f_X8_inner_L154 κ (nI f) (nI g) (nI (wd A)) (nI (pr L (A.1 - 1 + (B.1 - 1)))) (nI m) n (nI (k + 1)) μ_54)
        else f_X8_inner_L154 κ (nI f) (nI g) (nI (wd A)) (nI (pr L (A.1 - 1 + (B.1 - 1)))) (nI m) n (nI (k + 1)) μ_47) (nI f) (nI g) (nI (wd A)) (nI (pr L (A.1 - 1 + (B.1 - 1)))) (nI m) (nI k) 1000 (nI 0) ν := by
      simp only [f_X8_inner_L154, nle_f hk (show pr L (A.1 - 1 + (B.1 - 1)) < 2 ^ 31 by omega), if_false, if_pos h5, jn, lt, ← nI_succ, il8, nI_0]
    rw [e00]
    refine inn_171 (fun x => match inE f g A B (wd A) m k with
      | .ok v => ∃ ν', MI μ1 (inE f g A B (wd A) m) k ν' ∧ x = f_X8_inner_L154 κ (nI f) (nI g) (nI (wd A)) (nI (pr L (A.1 - 1 + (B.1 - 1)))) (nI m) n (nI (k + 1)) (sto ν' 34 0 (384 + k) v)
      | .error e => (e = 1 ∨ e = 2) ∧ ∃ ν', ME μ1 e ν' ∧ x = f_X8_inner_L154 κ (nI f) (nI g) (nI (wd A)) (nI (pr L (A.1 - 1 + (B.1 - 1)))) (nI m) n (nI (k + 1)) ν') hgg hWA hWB hA1 hB1 d4 hm0 (by omega) (by omega) (w := wd A) (G := G) (by omega) hw (fun j hj => by rw [hsB]; exact mul_in hj hmod) (fun j _ => by rw [← hG]) h6 ?_ ?_
    · intro ν' g1 g2
      have g3 := g1.flt d4
      rw [if_pos g3]
      refine fold_set (F := inE f g A B (wd A) m) hf hw (by omega) ?_ g3 g1 (fun μ_35 => f_X8_inner_L154 κ (nI f) (nI g) (nI (wd A)) (nI (pr L (A.1 - 1 + (B.1 - 1)))) (nI m) n (nI (k + 1)) μ_35)
      rw [hFk, fe_ok (fun j hj => ⟨_, g2 j hj⟩)]
      exact fo_congr (fun j hj => by rw [g2 j hj]; rfl)
    · intro e ν' j g1 he hj g2 g3
      have hne : ¬ ν' 30 0 16 = 0 := by rw [g1.2]; rcases he with rfl | rfl <;> decide
      rw [hFk, fe_at g2 g3 hj, if_neg hne]
      exact ⟨he, ν', g1, rfl⟩
