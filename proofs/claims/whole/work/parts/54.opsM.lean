/-! ===== the reference's functions of one argument ===== -/
def sp1 (f : Nat) (A : Arr) : Except Nat Arr := if f < 10 then s_red f A else if f < 20 then s_scan (f - 10) A else if f < 23 then s_one (f - 20) A else if f = 23 then s_up A else if f = 24 then s_len A else if f = 25 then s_rav A else if f = 26 then s_turn A else s_rev A
theorem MI.sa {μ0 μ : Mem} {F : Nat → Except Nat Int32} {k s : Nat} {A : Arr} (h : MI μ0 F k μ) (hs : s ≠ 8) (hW : WA A) (hA : SA μ0 s A) : SA μ s A := h.fm.sa hs hW hA
theorem count_M {μ : Mem} {A : Arr} (hW : WA A) (hA : SA μ 19 A) (h0 : μ 30 0 16 = 0) : MT μ (s_up A) (f_X8_count (nI (sz A)) μ) := by
  have h1 := hW.1
  have h2 := hW.2.2
  unfold f_X8_count s_up
  simp only [il19, ig_t (show 19 < 20 by omega) (show 20 < 2 ^ 31 by omega), nI_clamp (show 19 < 2 ^ 31 by omega), hA.1, il1, nle_iff (show A.1 < 2 ^ 31 by omega) (show 1 < 2 ^ 31 by omega), neq_iff (show sz A < 2 ^ 31 by omega) (show 1 < 2 ^ 31 by omega)]
  by_cases c1 : 1 < A.1
  · rw [if_pos c1, if_neg (show ¬ A.1 ≤ 1 by omega), stop_eq il4, isb_0]; exact MT_stop Fm.refl
  rw [if_neg c1, if_pos (show A.1 ≤ 1 by omega)]
  by_cases c2 : sz A = 1
  rotate_left
  · rw [if_neg c2, if_neg c2, stop_eq il3, isb_0]; exact MT_stop Fm.refl
  rw [if_pos c2, if_pos c2, show f_X8_get (nI 19) 0 μ = some (A.2.2 0) by rw [il0, get_eq (by omega)]; rw [hA.2.2 0 (by omega)], bP_s]
  simp only [i_nlt]
  by_cases c3 : A.2.2 0 < 0
  · rw [if_pos c3, if_neg (by simpa using c3), stop_eq il2, isb_0]; exact MT_stop Fm.refl
  rw [if_neg c3, if_pos c3]
  obtain ⟨n, hn, e⟩ := nI_of c3
  rw [e, nI_clamp hn]
  obtain ⟨μ1, f1, f2⟩ := shape_eq (r := 1) (a := nI n) (b := 0) (c := 0) (μ := μ) (L := fun _ => n) (by omega) (fun _ => rfl) (by omega) (by omega) (fun _ _ => hn) h0
  rcases f2 with ⟨d1, d2, d3, d4⟩ | ⟨d1, d2, d3⟩
  · rw [d2, bW_s, mk, if_pos d1]
    rw [if_neg (by decide)]
    have hp : pr (fun _ => n) 1 = n := by simp [pr]
    have hn48 : n ≤ 48 := d1.1 0 (by omega)
    refine Mloop' (fun m (s : Int32) ν => f_X8_count_L61 (fun μ => some (1, μ)) (nI n) m s ν) nI f1 d3 (by omega) d4 d1.2 ?_ ?_
    · intro m ν
      rw [hp]
      simp only [f_X8_count_L61, nle_t (Nat.le_refl _) (show n < 2 ^ 31 by omega), if_true]
    · intro m k ν hk h5
      rw [hp] at hk
      simp only [f_X8_count_L61, nle_f hk (show n < 2 ^ 31 by omega), if_false, il8, set_eq (show 48 * 8 + k < 960 by omega), bW_s, lt, ← nI_succ]
  · rw [d2, bW_s, mk, if_neg d1, if_pos rfl]
    exact ⟨0, μ1, rfl, f1, rfl, d3⟩
theorem lens_M {μ : Mem} {A : Arr} (hW : WA A) (hA : SA μ 19 A) (h0 : μ 30 0 16 = 0) : MT μ (s_len A) (bW (f_X8_shape (1 : Int32) (nI A.1) (0 : Int32) (0 : Int32) μ) fun v_18 μ_19 =>
      if v_18 = 0 then (some ((0 : Int32), μ_19)) else f_X8_single_L238 (fun (μ_28 : Mem) => some ((1 : Int32), μ_28)) (nI A.1) 1000 (0 : Int32) μ_19) := by
  have h1 := hW.1
  obtain ⟨μ1, f1, f2⟩ := shape_eq (r := 1) (a := nI A.1) (b := 0) (c := 0) (μ := μ) (L := fun _ => A.1) (by omega) (fun _ => rfl) (by omega) (by omega) (fun _ _ => by omega) h0
  have hp : pr (fun _ => A.1) 1 = A.1 := by simp [pr]
  have hok : okS 1 (fun _ => A.1) := ⟨fun k _ => by show A.1 ≤ 48; omega, by rw [hp]; omega⟩
  rcases f2 with ⟨d1, d2, d3, d4⟩ | ⟨d1, d2, d3⟩
  rotate_left
  · exact absurd hok d1
  rw [il1, d2, bW_s, if_neg (by decide), il0]
  unfold s_len
  have hA1 := f1.sa (by omega) hW hA
  refine Mloop' (fun m (s : Int32) ν => f_X8_single_L238 (fun μ => some (nI 1, μ)) (nI A.1) m s ν) nI f1 d3 (by omega) d4 d1.2 ?_ ?_
  · intro m ν
    rw [hp]
    simp only [f_X8_single_L238, nle_t (Nat.le_refl _) (show A.1 < 2 ^ 31 by omega), if_true, il1]
  · intro m k ν hk h5
    rw [hp] at hk
    have e1 := (h5.sa (by omega) hW hA1).2.1 k hk
    simp only [f_X8_single_L238, nle_f hk (show A.1 < 2 ^ 31 by omega), if_false, il8, il19, axisOf_eq (show 3 * 19 + k < 60 by omega), bP_s, e1, set_eq (show 48 * 8 + k < 960 by omega), bW_s, lt, ← nI_succ]
theorem ravel_M {μ : Mem} {A : Arr} (hW : WA A) (hA : SA μ 19 A) (h0 : μ 30 0 16 = 0) : MT μ (s_rav A) (bW (f_X8_shape (1 : Int32) (nI (sz A)) (0 : Int32) (0 : Int32) μ) fun v_7 μ_8 =>
      if v_7 = 0 then (some ((0 : Int32), μ_8)) else f_X8_single_L290 (fun (μ_17 : Mem) => some ((1 : Int32), μ_17)) (nI (sz A)) 1000 (0 : Int32) μ_8) := by
  have h1 := hW.2.2
  obtain ⟨μ1, f1, f2⟩ := shape_eq (r := 1) (a := nI (sz A)) (b := 0) (c := 0) (μ := μ) (L := fun _ => sz A) (by omega) (fun _ => rfl) (by omega) (by omega) (fun _ _ => by omega) h0
  have hp : pr (fun _ => sz A) 1 = sz A := by simp [pr]
  have hok : okS 1 (fun _ => sz A) := ⟨fun k _ => by show sz A ≤ 48; omega, by rw [hp]; omega⟩
  rcases f2 with ⟨d1, d2, d3, d4⟩ | ⟨d1, d2, d3⟩
  rotate_left
  · exact absurd hok d1
  rw [il1, d2, bW_s, if_neg (by decide), il0]
  unfold s_rav
  have hA1 := f1.sa (by omega) hW hA
  refine Mloop' (fun m (s : Int32) ν => f_X8_single_L290 (fun μ => some (nI 1, μ)) (nI (sz A)) m s ν) nI f1 d3 (by omega) d4 d1.2 ?_ ?_
  · intro m ν
    rw [hp]
    simp only [f_X8_single_L290, nle_t (Nat.le_refl _) (show sz A < 2 ^ 31 by omega), if_true, il1]
  · intro m k ν hk h5
    rw [hp] at hk
    have e1 := (h5.sa (by omega) hW hA1).2.2 k hk
    simp only [f_X8_single_L290, nle_f hk (show sz A < 2 ^ 31 by omega), if_false, il8, il19, get_eq (show 48 * 19 + k < 960 by omega), bP_s, e1, set_eq (show 48 * 8 + k < 960 by omega), bW_s, lt, ← nI_succ]
theorem reverse_M {μ : Mem} {A : Arr} (hW : WA A) (hA : SA μ 19 A) (h0 : μ 30 0 16 = 0) : MT μ (s_rev A) (f_X8_reverse (nI (sz A)) μ) := by
  have h1 := hW.2.2
  have hww := WA_wd hW
  obtain ⟨μ1, f1, f2, f3, f4⟩ := same_eq hW hA
  unfold f_X8_reverse s_rev
  rw [il19, last_eq (by omega) hW hA, bP_s, f1, bW_s, il0]
  have hA1 := f2.sa (by omega) hW hA
  refine Mloop' (fun m (s : Int32) ν => f_X8_reverse_L15 (fun (μ_14 : Mem) => gd (isb 1) <| some (1, μ_14)) (nI (sz A)) (nI (wd A)) 1 m s ν) nI f2 f3.ms hW.1 (f4.trans h0) h1 ?_ ?_
  · intro m ν
    rw [show pr A.2.1 A.1 = sz A from rfl]
    simp only [f_X8_reverse_L15, nle_t (Nat.le_refl _) (show sz A < 2 ^ 31 by omega), if_true, isb_1]
  · intro m k ν hk h5
    have hk2 : k < sz A := hk
    have hw := wd_pos hk2
    have h9 := Nat.div_mul_le_self k (wd A)
    have h10 := kmod k (wd A)
    have h12 := Nat.mod_lt k hw
    have h13 : k / wd A * wd A + wd A ≤ sz A := row_in (by
      rw [← Nat.mul_lt_mul_right hw, ← sz_rw]
      exact Nat.lt_of_le_of_lt h9 hk)
    have e1 := (h5.sa (by omega) hW hA1).2.2 (k / wd A * wd A + (wd A - 1 - k % wd A)) (by omega)
    have hnz : ∀ {α : Type} {o : Option α}, gd (nz (nI (wd A))) o = o := by
      intro α o; rw [i_nz (nI_ne0 hw (by omega))]; rfl
    simp only [f_X8_reverse_L15, nle_f hk2 (show sz A < 2 ^ 31 by omega), if_false, hnz, il8, il19, il1, pk_div (show k < 2 ^ 31 by omega) hw (show wd A < 2 ^ 31 by omega), pk_mul, pk_sub h9, pk_sub (show 1 ≤ wd A by omega), h10, pk_sub (show k % wd A ≤ wd A - 1 by omega), nI_add, get_eq (show 48 * 19 + (k / wd A * wd A + (wd A - 1 - k % wd A)) < 960 by omega), bP_s, e1, set_eq (show 48 * 8 + k < 960 by omega), bW_s, lt]
theorem red_99 {μ : Mem} {w r : Nat} {κ : Mem → Option (Int32 × Mem)} {c1 c4 : Int32} (T : Option (Int32 × Mem) → Prop) (hw : w ≤ 48) (hr : w * r + w ≤ 48)
    (hend : ∀ ν, (∀ q i j, q ≠ 42 → ν q i j = μ q i j) → (∀ j, j < w → ν 42 0 j = μ 34 0 (912 + (w * r + j))) → T (κ ν)) : T (f_X8_reduce_L99 κ c1 (nI w) c4 (nI r) 1000 (nI 0) μ) := by
  refine lp0 (fun n (s : Int32 × Mem) => f_X8_reduce_L99 κ c1 (nI w) c4 (nI r) n s.1 s.2) T w (fun i s => s.1 = nI i ∧ (∀ q i j, q ≠ 42 → s.2 q i j = μ q i j) ∧ ∀ j, j < i → s.2 42 0 j = μ 34 0 (912 + (w * r + j))) (nI 0, μ) 1000 (by omega) ⟨rfl, fun _ _ _ _ => rfl, fun j hj => by omega⟩ ?_ ?_
  · rintro n ⟨x, ν⟩ ⟨e1, e2, e3⟩
    dsimp only at e1 e2 e3 ⊢
    subst e1
    simp only [f_X8_reduce_L99, nle_t (Nat.le_refl _) (show w < 2 ^ 31 by omega), if_true]
    exact hend ν e2 e3
  · rintro n i ⟨x, ν⟩ hi hn ⟨e1, e2, e3⟩
    dsimp only at e1 e2 e3 ⊢
    subst e1
    left
    have e4 : ν 34 0 (48 * 19 + (w * r + i)) = μ 34 0 (912 + (w * r + i)) := e2 34 0 _ (by omega)
    refine ⟨(nI (i + 1), sto ν 42 0 i (μ 34 0 (912 + (w * r + i)))), ⟨rfl, fun q k j hq => ?_, fun j hj => ?_⟩, ?_⟩
    · dsimp only; rw [sto_k hq]; exact e2 q k j hq
    · dsimp only
      by_cases q : j = i
      · subst q; rw [sto_e]
      · rw [sto_j q]; exact e3 j (by omega)
    · simp only [f_X8_reduce_L99, nle_f hi (show w < 2 ^ 31 by omega), if_false, il19, pk_mul, nI_add, get_eq (show 48 * 19 + (w * r + i) < 960 by omega), bP_s, e4, ig_t (show i < 49 by omega) (show 49 < 2 ^ 31 by omega), nI_clamp (show i < 2 ^ 31 by omega), lt, ← nI_succ]
theorem MI_row {μ0 μ ν : Mem} {F : Nat → Except Nat Int32} {k : Nat} (h : MI μ0 F k μ) (h2 : ∀ q i j, q ≠ 42 → ν q i j = μ q i j) : MI μ0 F k ν := ⟨fun q i j hq => (h2 q i j hq.1).trans (h.1 q i j hq), fun j hj => by rw [h2 34 0 _ (by omega)]; exact h.2 j hj⟩
/-- fold of the row, and MADE gets it -/
theorem fold_set {f n k : Nat} (hf : f < 10) {μ0 ν : Mem} {F : Nat → Except Nat Int32} (hn : n ≤ 48) (hk : k < 48) (hF : F k = fo f (ν 42 0) n) (h0 : ν 30 0 16 = 0) (h : MI μ0 F k ν) (g : Mem → Option (Int32 × Mem)) : match F k with
      | .ok v => ∃ ν', MI μ0 F k ν' ∧ (bW (f_X8_folded (nI f) (nI n) ν) fun v_32 μ_33 => bW (f_X8_set (nI 8) (nI k) v_32 μ_33) fun u_34 μ_35 => g μ_35) = g (sto ν' 34 0 (384 + k) v)
      | .error e => (e = 1 ∨ e = 2) ∧ ∃ ν', ME μ0 e ν' ∧ (bW (f_X8_folded (nI f) (nI n) ν) fun v_32 μ_33 => bW (f_X8_set (nI 8) (nI k) v_32 μ_33) fun u_34 μ_35 => g μ_35) = g ν' := by
  obtain ⟨w, e1, e2⟩ := folded_eq hf (μ := ν) hn h0
  rw [e1, bW_s, set_eq (by omega), bW_s]
  cases hq : F k with
  | ok v =>
    have hq2 := hF.symm.trans hq
    rw [hq2]
    exact ⟨ν, h, by rw [e2 v hq2]; rfl⟩
  | error e =>
    have hq2 := hF.symm.trans hq
    rw [hq2]
    exact ⟨fo_err hq2, _, ME.set h.me hk, rfl⟩
theorem red_13 {r : Nat} {L : Nat → Nat} {μ : Mem} {κ : Int32 → Option (Int32 × Mem)} {c1 c3 : Int32} (T : Option (Int32 × Mem) → Prop) (hr : r ≤ 3) (hr1 : 1 ≤ r) (h1 : μ 32 0 19 = nI r) (h2 : ∀ k, k < r → μ 33 0 (57 + k) = nI (L k)) (hend : T (κ (nI (pr L (r - 1))))) : T (f_X8_reduce_L13 κ c1 c3 μ 1000 (nI 1) (nI 0)) := by
  refine lp0 (fun n (t : Int32 × Int32) => f_X8_reduce_L13 κ c1 c3 μ n t.1 t.2) T (r - 1) (fun i t => t.1 = nI (pr L i) ∧ t.2 = nI i) (nI 1, nI 0) 1000 (by omega) ⟨rfl, rfl⟩ ?_ ?_
  · rintro n ⟨x, y⟩ ⟨e1, e2⟩
    dsimp only at e1 e2 ⊢
    subst e1 e2
    simp only [f_X8_reduce_L13, il19, ig_t (show 19 < 20 by omega) (show 20 < 2 ^ 31 by omega), nI_clamp (show 19 < 2 ^ 31 by omega), h1, il1, pk_sub hr1, nle_t (Nat.le_refl _) (show r - 1 < 2 ^ 31 by omega), if_true]
    exact hend
  · rintro n i ⟨x, y⟩ hi hn ⟨e1, e2⟩
    dsimp only at e1 e2 ⊢
    subst e1 e2
    left
    refine ⟨(nI (pr L (i + 1)), nI (i + 1)), ⟨rfl, rfl⟩, ?_⟩
    have e3 : μ 33 0 (3 * 19 + i) = nI (L i) := h2 i (by omega)
    simp only [f_X8_reduce_L13, il19, ig_t (show 19 < 20 by omega) (show 20 < 2 ^ 31 by omega), nI_clamp (show 19 < 2 ^ 31 by omega), h1, il1, pk_sub hr1, nle_f hi (show r - 1 < 2 ^ 31 by omega), if_false, axisOf_eq (show 3 * 19 + i < 60 by omega), bP_s, e3, pk_mul, lt, nI_add, pr]
theorem reduce_M {f : Nat} (hf : f < 10) {μ : Mem} {A : Arr} {x : Int32} (hW : WA A) (h1r : 1 ≤ A.1) (hA : SA μ 19 A) (h0 : μ 30 0 16 = 0) : MT μ (s_red f A) (f_X8_reduce (nI f) x μ) := by
  have h1 := hW.1
  have h2 := hW.2.2
  have hww := WA_wd hW
  unfold f_X8_reduce s_red
  rw [il19, last_eq (by omega) hW hA, bP_s, il1, il0]
  refine red_13 _ h1 h1r hA.1 hA.2.1 ?_
  rw [ig_t (by omega) (by omega), axisOf_eq (by omega), bP_s, axisOf_eq (by omega), bP_s, nI_clamp (by omega), hA.1, pk_sub h1r]
  obtain ⟨μ1, f1, f2⟩ := shape_eq (r := A.1 - 1) (a := μ 33 0 (3 * 19 + 0)) (b := μ 33 0 (3 * 19 + 1)) (c := nI 0) (μ := μ) (L := A.2.1) (by omega) (fun q => hA.2.1 0 (by omega)) (fun q => hA.2.1 1 (by omega)) (by omega) (fun k hk => by have := hW.2.1 k (by omega); omega) h0
  unfold mk
  rcases f2 with ⟨d1, d2, d3, d4⟩ | ⟨d1, d2, d3⟩
  rotate_left
  · rw [d2, bW_s, if_neg d1, if_pos nI_0.symm]
    exact ⟨0, μ1, rfl, f1, rfl, d3⟩
  rw [d2, bW_s, if_pos d1, if_neg (by decide)]
  have hA1 := f1.sa (by omega) hW hA
  have hN := d1.2
  refine Mloop (fun m (s : Int32) ν => f_X8_reduce_L82 (fun (μ_38 : Mem) => if (μ_38 30 0 16) = nI 0 then (some (nI 1, μ_38)) else some (nI 0, μ_38)) (nI f) (nI (wd A)) (nI (pr A.2.1 (A.1 - 1))) m s ν) nI f1 d3 (by omega) d4 d1.2 ?_ ?_ ?_
  · intro m ν h5
    simp only [f_X8_reduce_L82, nle_t (Nat.le_refl _) (show pr A.2.1 (A.1 - 1) < 2 ^ 31 by omega), if_true, h5, nI_0, il1]
  · intro m k ν h5
    simp only [f_X8_reduce_L82, if_neg h5, nI_0, ite_self]
  · intro m k ν hk h5 h6
    have h9 := row_in (A := A) hk
    have e0 : f_X8_reduce_L82 (fun (μ_38 : Mem) => if (μ_38 30 0 16) = nI 0 then (some (nI 1, μ_38)) else some (nI 0, μ_38)) (nI f) (nI (wd A)) (nI (pr A.2.1 (A.1 - 1))) (m + 1) (nI k) ν = f_X8_reduce_L99 (fun (μ_31 : Mem) =>
      bW (f_X8_folded (nI f) (nI (wd A)) μ_31) fun v_32 μ_33 => bW (f_X8_set (nI 8) (nI k) v_32 μ_33) fun u_34 μ_35 =>
      f_X8_reduce_L82 (fun (μ_38 : Mem) => if (μ_38 30 0 16) = nI 0 then (some (nI 1, μ_38)) else some (nI 0, μ_38)) (nI f) (nI (wd A)) (nI (pr A.2.1 (A.1 - 1))) m (nI (k + 1)) μ_35) (nI f) (nI (wd A)) (nI (pr A.2.1 (A.1 - 1))) (nI k) 1000 (nI 0) ν := by
      simp only [f_X8_reduce_L82, nle_f hk (show pr A.2.1 (A.1 - 1) < 2 ^ 31 by omega), if_false, h5, eq_self, if_true, lt, ← nI_succ, il8, il0]
    rw [e0]
    refine red_99 (fun x => match fo f (fun j => A.2.2 (k * wd A + j)) (wd A) with
      | .ok v => ∃ ν', MI μ1 (fun k => fo f (fun j => A.2.2 (k * wd A + j)) (wd A)) k ν' ∧ x = f_X8_reduce_L82 (fun (μ_38 : Mem) => if (μ_38 30 0 16) = nI 0 then (some (nI 1, μ_38)) else some (nI 0, μ_38)) (nI f) (nI (wd A)) (nI (pr A.2.1 (A.1 - 1))) m (nI (k + 1)) (sto ν' 34 0 (384 + k) v)
      | .error e => (e = 1 ∨ e = 2) ∧ ∃ ν', ME μ1 e ν' ∧ x = f_X8_reduce_L82 (fun (μ_38 : Mem) => if (μ_38 30 0 16) = nI 0 then (some (nI 1, μ_38)) else some (nI 0, μ_38)) (nI f) (nI (wd A)) (nI (pr A.2.1 (A.1 - 1))) m (nI (k + 1)) ν') hww (by rw [Nat.mul_comm]; omega) (fun ν' g1 g2 => ?_)
    refine fold_set (F := fun k => fo f (fun j => A.2.2 (k * wd A + j)) (wd A)) hf hww (by omega) ?_ (by rw [g1 30 0 16 (by omega)]; exact h5) (MI_row h6 g1) (fun μ_35 => f_X8_reduce_L82 (fun (μ_38 : Mem) => if (μ_38 30 0 16) = nI 0 then (some (nI 1, μ_38)) else some (nI 0, μ_38)) (nI f) (nI (wd A)) (nI (pr A.2.1 (A.1 - 1))) m (nI (k + 1)) μ_35)
    refine fo_congr (fun j hj => ?_)
    rw [g2 j hj, Nat.mul_comm (wd A)]
    exact ((h6.sa (by omega) hW hA1).2.2 _ (by omega)).symm
