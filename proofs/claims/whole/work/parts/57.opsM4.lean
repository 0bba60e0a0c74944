/-! ===== the reference's functions of two arguments ===== -/
theorem num_err' {f : Nat} {a b : Int32} : ∀ e, num f a b = .error e → e = 1 ∨ e = 2 := fun _ h => num_err h
theorem each_38 {μ : Mem} {A B : Arr} {κ : Unit → Option (Int32 × Mem)} {c1 c3 : Int32} (T : Option (Int32 × Mem) → Prop) (hWA : WA A) (hA : SA μ 18 A) (hWB : WA B) (hB : SA μ 19 B) (hc : A.1 = B.1) (hend : (∀ k, k < A.1 → A.2.1 k = B.2.1 k) → T (κ ())) (herr : ¬ (∀ k, k < A.1 → A.2.1 k = B.2.1 k) → T (some (0, sto μ 30 0 16 (nI 3)))) : T (f_X8_each_L38 κ c1 (nI A.1) c3 μ 1000 (nI 0)) := by
  have h1 := hWA.1
  refine lp0 (fun n (s : Int32) => f_X8_each_L38 κ c1 (nI A.1) c3 μ n s) T A.1 (fun i s => s = nI i ∧ ∀ k, k < i → A.2.1 k = B.2.1 k) (nI 0) 1000 (by omega) ⟨rfl, fun k hk => by omega⟩ ?_ ?_
  · rintro n s ⟨rfl, g1⟩
    simp only [f_X8_each_L38, nle_t (Nat.le_refl _) (show A.1 < 2 ^ 31 by omega), if_true]
    exact hend g1
  · rintro n i s hi hn ⟨rfl, g1⟩
    have b1 := hWA.2.1 i hi
    have b2 := hWB.2.1 i (by omega)
    simp only [f_X8_each_L38, nle_f hi (show A.1 < 2 ^ 31 by omega), if_false, il18, il19, axisOf_eq (show 3 * 18 + i < 60 by omega), axisOf_eq (show 3 * 19 + i < 60 by omega), bP_s, hA.2.1 i hi, hB.2.1 i (by omega), neq_iff (show A.2.1 i < 2 ^ 31 by omega) (show B.2.1 i < 2 ^ 31 by omega), lt, ← nI_succ]
    by_cases c4 : A.2.1 i = B.2.1 i
    · left
      refine ⟨nI (i + 1), ⟨rfl, fun k hk => ?_⟩, by rw [if_pos c4]⟩
      by_cases q : k = i
      · rw [q]; exact c4
      · exact g1 k (by omega)
    · right
      rw [if_neg c4, stop_eq il3, isb_0]
      exact herr (fun q => c4 (q i hi))
theorem each_M {f : Nat} (hf : f < 10) {μ : Mem} {A B : Arr} (hWA : WA A) (hA : SA μ 18 A) (hWB : WA B) (hB : SA μ 19 B) (h0 : μ 30 0 16 = 0) : MT μ (s_each f A B) (f_X8_each (nI f) μ) := by
  have h1 := hWA.1
  have h2 := hWB.1
  have h1s := hWA.2.2
  have h2s := hWB.2.2
  unfold f_X8_each
  simp only [il18, il19, ig_t (show 18 < 20 by omega) (show 20 < 2 ^ 31 by omega), ig_t (show 19 < 20 by omega) (show 20 < 2 ^ 31 by omega), nI_clamp (show 18 < 2 ^ 31 by omega), nI_clamp (show 19 < 2 ^ 31 by omega), hA.1, hB.1, lt, jn, il0, neq_iff (show A.1 < 2 ^ 31 by omega) (show 0 < 2 ^ 31 by omega), neq_iff (show B.1 < 2 ^ 31 by omega) (show 0 < 2 ^ 31 by omega), neq_iff (show A.1 < 2 ^ 31 by omega) (show B.1 < 2 ^ 31 by omega)]
  generalize hκ : (fun (μ_28 : Mem) => if (μ_28 30 0 16) = nI 0 then some ((1 : Int32), μ_28) else some (nI 0, μ_28)) = κ
  have k0 : ∀ ν, ν 30 0 16 = 0 → κ ν = some (1, ν) := fun ν q => by rw [← hκ]; simp only [q, nI_0, if_true]
  have k1 : ∀ ν, ¬ ν 30 0 16 = 0 → κ ν = some (0, ν) := fun ν q => by rw [← hκ]; simp only [q, nI_0, if_false]
  have loop : ∀ (s : Nat) (C : Arr), s < 20 → s ≠ 8 → WA C → SA μ s C → (∀ k, k < sz C → (k < sz A ∨ A.1 = 0) ∧ (k < sz B ∨ B.1 = 0)) → MT μ (mkA C.1 C.2.1 (fun k => num f (sel A k) (sel B k))) (bW (f_X8_copy (nI s) (8 : Int32) μ) fun u_7 μ_8 =>
      bP (f_X8_sizeOf (8 : Int32) μ_8) fun v_9 => f_X8_each_L103 κ (nI f) (nI A.1) (nI B.1) v_9 1000 (nI 0) μ_8) := by
    intro s C hs hs8 hWC hC hin
    have h3 := hWC.2.2
    obtain ⟨μ1, e1, e2, e3⟩ := mcopy_A (b := 8) hs (by omega) hs8 hWC hC
    have hA1 := e2.fm.sa (by omega) hWA hA
    have hB1 := e2.fm.sa (by omega) hWB hB
    rw [il8, e1, bW_s, sizeOf_eq (by omega) hWC e3, bP_s]
    refine Mloop (fun m (s : Int32) ν => f_X8_each_L103 κ (nI f) (nI A.1) (nI B.1) (nI (sz C)) m s ν) nI e2.fm e3.ms hWC.1 (by rw [e2 30 0 16 (by omega)]; exact h0) h3 ?_ ?_ ?_
    · intro m ν h5
      rw [show pr C.2.1 C.1 = sz C from rfl]
      simp only [f_X8_each_L103, nle_t (Nat.le_refl _) (show sz C < 2 ^ 31 by omega), if_true]
      exact k0 ν h5
    · intro m k ν h5
      simp only [f_X8_each_L103, if_neg h5, ite_self]
      exact k1 ν h5
    · intro m k ν hk h5 h6
      have hk2 : k < sz C := hk
      have hk3 := hin k hk2
      have q1 : ∀ {F : Int32 → Option (Int32 × Mem)}, (if nI A.1 = 0 then bP (f_X8_get (18 : Int32) 0 ν) F else bP (f_X8_get (18 : Int32) (nI k) ν) F) = F (sel A k) := by
        intro F
        unfold sel
        simp only [il0, il18, neq_iff (show A.1 < 2 ^ 31 by omega) (show 0 < 2 ^ 31 by omega)]
        by_cases c : A.1 = 0
        · rw [if_pos c, if_pos c, get_eq (by omega), bP_s, (h6.sa (by omega) hWA hA1).2.2 0 (by rw [sz_0 c]; omega)]
        · rw [if_neg c, if_neg c, get_eq (by omega), bP_s, (h6.sa (by omega) hWA hA1).2.2 k (by omega)]
      have q2 : ∀ {F : Int32 → Option (Int32 × Mem)}, (if nI B.1 = 0 then bP (f_X8_get (19 : Int32) 0 ν) F else bP (f_X8_get (19 : Int32) (nI k) ν) F) = F (sel B k) := by
        intro F
        unfold sel
        simp only [il0, il19, neq_iff (show B.1 < 2 ^ 31 by omega) (show 0 < 2 ^ 31 by omega)]
        by_cases c : B.1 = 0
        · rw [if_pos c, if_pos c, get_eq (by omega), bP_s, (h6.sa (by omega) hWB hB1).2.2 0 (by rw [sz_0 c]; omega)]
        · rw [if_neg c, if_neg c, get_eq (by omega), bP_s, (h6.sa (by omega) hWB hB1).2.2 k (by omega)]
      have e0 : f_X8_each_L103 κ (nI f) (nI A.1) (nI B.1) (nI (sz C)) (m + 1) (nI k) ν = (bW (f_X8_number (nI f) (sel A k).toInt64 (sel B k).toInt64 ν) fun v_22 μ_23 => bW (f_X8_set (nI 8) (nI k) v_22 μ_23) fun u_24 μ_25 => f_X8_each_L103 κ (nI f) (nI A.1) (nI B.1) (nI (sz C)) m (nI (k + 1)) μ_25) := by
        simp only [f_X8_each_L103, nle_f hk2 (show sz C < 2 ^ 31 by omega), if_false, if_pos h5, jn]
        rw [q1, q2]
        simp only [lt, ← nI_succ, il8]
      rw [e0]
      exact num_set (F := fun k => num f (sel A k) (sel B k)) (by omega) (number_eq hf _ _ ν) num_err' h6 (fun μ_35 => f_X8_each_L103 κ (nI f) (nI A.1) (nI B.1) (nI (sz C)) m (nI (k + 1)) μ_35)
  by_cases c1 : A.1 = 0
  · have hS : s_each f A B = mkA B.1 B.2.1 (fun k => num f (sel A k) (sel B k)) := by
      unfold s_each s_each0
      rw [if_pos (Or.inl c1)]
      simp only [if_pos c1]
    rw [hS, if_pos c1, if_pos c1]
    exact loop 19 B (by omega) (by omega) hWB hB (fun k hk => ⟨Or.inr c1, Or.inl hk⟩)
  · by_cases c2 : B.1 = 0
    · have hS : s_each f A B = mkA A.1 A.2.1 (fun k => num f (sel A k) (sel B k)) := by
        unfold s_each s_each0
        rw [if_pos (Or.inr c2)]
        simp only [if_neg c1]
      rw [hS, if_neg c1, if_pos c2, if_neg c1]
      exact loop 18 A (by omega) (by omega) hWA hA (fun k hk => ⟨Or.inl hk, Or.inr c2⟩)
    · have hS : s_each f A B = if A.1 = B.1 then (if ∀ k, k < A.1 → A.2.1 k = B.2.1 k then mkA A.1 A.2.1 (fun k => num f (sel A k) (sel B k)) else .error 3) else .error 4 := by
        unfold s_each s_each0
        rw [if_neg (show ¬ (A.1 = 0 ∨ B.1 = 0) by omega)]
        simp only [if_neg c1]
      rw [if_neg c1, if_neg c2, hS]
      by_cases c3 : A.1 = B.1
      rotate_left
      · rw [if_neg c3, if_neg c3, stop_eq il4, isb_0]; exact MT_stop Fm.refl
      rw [if_pos c3, if_pos c3]
      refine each_38 _ hWA hA hWB hB c3 (fun g1 => ?_) (fun g1 => ?_)
      · rw [if_pos g1, if_neg c1]
        exact loop 18 A (by omega) (by omega) hWA hA (fun k hk => ⟨Or.inl hk, Or.inl (by
          have : sz A = sz B := by
            unfold sz
            rw [← c3]
            exact pr_congr g1
          omega)⟩)
      · rw [if_neg g1]
        exact MT_stop Fm.refl
/-- length k of the lengths of LEFT without the last few and those of RIGHT without the first few -/
theorem joined_eq {k less skip : Nat} {μ : Mem} {A B : Arr} (hWA : WA A) (hA : SA μ 18 A) (hWB : WA B) (hB : SA μ 19 B) (hk : k < 3) (hl : less ≤ A.1) (hs : skip ≤ 1) : ∃ x, f_X8_joined (nI k) (nI less) (nI skip) μ = some x ∧ (k < A.1 - less + (B.1 - skip) → x = nI (cat (A.1 - less) A.2.1 (fun j => B.2.1 (j + skip)) k)) := by
  have h1 := hWA.1
  have h2 := hWB.1
  unfold f_X8_joined cat
  simp only [il18, il19, ig_t (show 18 < 20 by omega) (show 20 < 2 ^ 31 by omega), ig_t (show 19 < 20 by omega) (show 20 < 2 ^ 31 by omega), nI_clamp (show 18 < 2 ^ 31 by omega), nI_clamp (show 19 < 2 ^ 31 by omega), hA.1, hB.1, lt, pk_sub hl, nle_iff (show A.1 - less < 2 ^ 31 by omega) (show k < 2 ^ 31 by omega)]
  by_cases c : k < A.1 - less
  · rw [if_neg (show ¬ A.1 - less ≤ k by omega), if_pos c, axisOf_eq (by omega), bP_s, hA.2.1 k (by omega)]
    exact ⟨_, rfl, fun _ => rfl⟩
  · rw [if_pos (show A.1 - less ≤ k by omega), if_neg c, pk_sub (by omega), nI_add]
    simp only [nle_iff (show B.1 < 2 ^ 31 by omega) (show k - (A.1 - less) + skip < 2 ^ 31 by omega)]
    by_cases c2 : B.1 ≤ k - (A.1 - less) + skip
    · rw [if_pos c2]; exact ⟨_, rfl, fun q => by omega⟩
    · rw [if_neg c2, axisOf_eq (by omega), bP_s, hB.2.1 _ (by omega)]
      exact ⟨_, rfl, fun _ => rfl⟩
theorem cat_le {A B : Arr} (hWA : WA A) (hWB : WA B) {less skip : Nat} : ∀ k, k < A.1 - less + (B.1 - skip) → cat (A.1 - less) A.2.1 (fun j => B.2.1 (j + skip)) k ≤ 48 := fun k hk => by
  unfold cat
  by_cases c : k < A.1 - less
  · rw [if_pos c]; exact hWA.2.1 k (by omega)
  · rw [if_neg c]; exact hWB.2.1 _ (by omega)
theorem outer_M {f : Nat} (hf : f < 10) {μ : Mem} {A B : Arr} (hWA : WA A) (hA : SA μ 18 A) (hWB : WA B) (hB : SA μ 19 B) (h0 : μ 30 0 16 = 0) : MT μ (s_outer f A B) (f_X8_outer (nI f) μ) := by
  have h1 := hWA.1
  have h2 := hWB.1
  have h1s := hWA.2.2
  have h2s := hWB.2.2
  unfold f_X8_outer s_outer
  simp only [il18, il19, ig_t (show 18 < 20 by omega) (show 20 < 2 ^ 31 by omega), ig_t (show 19 < 20 by omega) (show 20 < 2 ^ 31 by omega), nI_clamp (show 18 < 2 ^ 31 by omega), nI_clamp (show 19 < 2 ^ 31 by omega), hA.1, hB.1, lt, nI_add, il3, nle_iff (show A.1 + B.1 < 2 ^ 31 by omega) (show 3 < 2 ^ 31 by omega)]
  by_cases c : A.1 + B.1 ≤ 3
  rotate_left
  · rw [if_neg c, if_neg c, stop_eq il4, isb_0]; exact MT_stop Fm.refl
  rw [if_pos c, if_pos c, il0, il1, il2]
  obtain ⟨x0, e0, e0'⟩ := joined_eq (k := 0) (less := 0) (skip := 0) hWA hA hWB hB (by omega) (by omega) (by omega)
  obtain ⟨x1, e1, e1'⟩ := joined_eq (k := 1) (less := 0) (skip := 0) hWA hA hWB hB (by omega) (by omega) (by omega)
  obtain ⟨x2, e2, e2'⟩ := joined_eq (k := 2) (less := 0) (skip := 0) hWA hA hWB hB (by omega) (by omega) (by omega)
  rw [e0, bP_s, e1, bP_s, e2, bP_s]
  have hcl : ∀ k, k < A.1 + B.1 → cat A.1 A.2.1 B.2.1 k ≤ 48 := cat_le hWA hWB (less := 0) (skip := 0)
  simp only [Nat.sub_zero, Nat.add_zero] at e0' e1' e2'
  obtain ⟨μ1, f1, f2⟩ := shape_eq (r := A.1 + B.1) (a := x0) (b := x1) (c := x2) (μ := μ) (L := cat A.1 A.2.1 B.2.1) c e0' e1' e2' (fun k hk => by have := hcl k hk; omega) h0
  unfold mk
  rcases f2 with ⟨d1, d2, d3, d4⟩ | ⟨d1, d2, d3⟩
  rotate_left
  · rw [d2, bW_s, if_neg d1, if_pos nI_0.symm]
    exact ⟨0, μ1, rfl, f1, rfl, d3⟩
  rw [d2, bW_s, if_pos d1, if_neg (by decide)]
  have hA1 := f1.sa (by omega) hWA hA
  have hB1 := f1.sa (by omega) hWB hB
  have hN := d1.2
  have hp : pr (cat A.1 A.2.1 B.2.1) (A.1 + B.1) = sz A * sz B := pr_cat _ _ _ _
  rw [il8, sizeOf_eq' (by omega) c d3.1 d3.2, bP_s, sizeOf_eq (by omega) hWB hB1, bP_s]
  generalize hκ : (fun (μ_28 : Mem) => if (μ_28 30 0 16) = nI 0 then some (nI 1, μ_28) else some (nI 0, μ_28)) = κ
  have k0 : ∀ ν, ν 30 0 16 = 0 → κ ν = some (1, ν) := fun ν q => by rw [← hκ]; simp only [q, nI_0, if_true, il1]
  have k1 : ∀ ν, ¬ ν 30 0 16 = 0 → κ ν = some (0, ν) := fun ν q => by rw [← hκ]; simp only [q, nI_0, if_false]
  refine Mloop (fun m (s : Int32) ν => f_X8_outer_L76 κ (nI f) (nI (pr (cat A.1 A.2.1 B.2.1) (A.1 + B.1))) (nI (sz B)) m s ν) nI f1 d3 c d4 hN ?_ ?_ ?_
  · intro m ν h5
    simp only [f_X8_outer_L76, nle_t (Nat.le_refl _) (show pr (cat A.1 A.2.1 B.2.1) (A.1 + B.1) < 2 ^ 31 by omega), if_true]
    exact k0 ν h5
  · intro m k ν h5
    simp only [f_X8_outer_L76, if_neg h5, ite_self]
    exact k1 ν h5
  · intro m k ν hk h5 h6
    have hk2 : k < sz A * sz B := by rw [← hp]; exact hk
    have hm0 : 0 < sz B := by
      rcases Nat.eq_zero_or_pos (sz B) with q | q
      · rw [q] at hk2; omega
      · exact q
    have hkm : k / sz B < sz A := Nat.div_lt_of_lt_mul (by rw [Nat.mul_comm]; exact hk2)
    have hmod := Nat.mod_lt k hm0
    have hnz : ∀ {α : Type} {o : Option α}, gd (nz (nI (sz B))) o = o := by
      intro α o; rw [i_nz (nI_ne0 hm0 (by omega))]; rfl
    have g1 := (h6.sa (by omega) hWA hA1).2.2 (k / sz B) hkm
    have g2 := (h6.sa (by omega) hWB hB1).2.2 (k % sz B) hmod
    have e0 : f_X8_outer_L76 κ (nI f) (nI (pr (cat A.1 A.2.1 B.2.1) (A.1 + B.1))) (nI (sz B)) (m + 1) (nI k) ν = (bW (f_X8_number (nI f) (A.2.2 (k / sz B)).toInt64 (B.2.2 (k % sz B)).toInt64 ν) fun v_22 μ_23 => bW (f_X8_set (nI 8) (nI k) v_22 μ_23) fun u_24 μ_25 => f_X8_outer_L76 κ (nI f) (nI (pr (cat A.1 A.2.1 B.2.1) (A.1 + B.1))) (nI (sz B)) m (nI (k + 1)) μ_25) := by
      simp only [f_X8_outer_L76, nle_f hk (show pr (cat A.1 A.2.1 B.2.1) (A.1 + B.1) < 2 ^ 31 by omega), if_false, if_pos h5, hnz, pk_div (show k < 2 ^ 31 by omega) hm0 (show sz B < 2 ^ 31 by omega), pk_mul, pk_sub (Nat.div_mul_le_self k (sz B)), kmod, il18, il19, il8, get_eq (show 48 * 18 + k / sz B < 960 by omega), get_eq (show 48 * 19 + k % sz B < 960 by omega), bP_s, g1, g2, lt, ← nI_succ]
    rw [e0]
    exact num_set (F := fun k => num f (A.2.2 (k / sz B)) (B.2.2 (k % sz B))) (by omega) (number_eq hf _ _ ν) num_err' h6 (fun μ_35 => f_X8_outer_L76 κ (nI f) (nI (pr (cat A.1 A.2.1 B.2.1) (A.1 + B.1))) (nI (sz B)) m (nI (k + 1)) μ_35)
