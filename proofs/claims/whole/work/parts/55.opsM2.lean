theorem scan_41 {μ : Mem} {a k : Nat} {κ : Mem → Option (Int32 × Mem)} {c1 c2 c3 c4 : Int32} (T : Option (Int32 × Mem) → Prop) (ha : a ≤ k) (hk : k < 48)
    (hend : ∀ ν, (∀ q i j, q ≠ 42 → ν q i j = μ q i j) → (∀ j, j < k - a + 1 → ν 42 0 j = μ 34 0 (912 + (a + j))) → T (κ ν)) : T (f_X8_scan_L41 κ c1 c2 c3 c4 (nI k) (nI a) 1000 (nI a) μ) := by
  refine lp0 (fun n (s : Int32 × Mem) => f_X8_scan_L41 κ c1 c2 c3 c4 (nI k) (nI a) n s.1 s.2) T (k - a + 1) (fun i s => s.1 = nI (a + i) ∧ (∀ q i j, q ≠ 42 → s.2 q i j = μ q i j) ∧ ∀ j, j < i → s.2 42 0 j = μ 34 0 (912 + (a + j))) (nI a, μ) 1000 (by omega) ⟨rfl, fun _ _ _ _ => rfl, fun j hj => by omega⟩ ?_ ?_
  · rintro n ⟨x, ν⟩ ⟨e1, e2, e3⟩
    dsimp only at e1 e2 e3 ⊢
    subst e1
    simp only [f_X8_scan_L41, nlt_t (show k < a + (k - a + 1) by omega) (show a + (k - a + 1) < 2 ^ 31 by omega), if_true]
    exact hend ν e2 e3
  · rintro n i ⟨x, ν⟩ hi hn ⟨e1, e2, e3⟩
    dsimp only at e1 e2 e3 ⊢
    subst e1
    left
    have e4 : ν 34 0 (48 * 19 + (a + i)) = μ 34 0 (912 + (a + i)) := e2 34 0 _ (by omega)
    refine ⟨(nI (a + (i + 1)), sto ν 42 0 i (μ 34 0 (912 + (a + i)))), ⟨rfl, fun q k j hq => ?_, fun j hj => ?_⟩, ?_⟩
    · dsimp only; rw [sto_k hq]; exact e2 q k j hq
    · dsimp only
      by_cases q : j = i
      · subst q; rw [sto_e]
      · rw [sto_j q]; exact e3 j (by omega)
    · simp only [f_X8_scan_L41, nlt_f (show a + i ≤ k by omega) (show k < 2 ^ 31 by omega), if_false, il19, get_eq (show 48 * 19 + (a + i) < 960 by omega), bP_s, e4, pk_sub (show a ≤ a + i by omega), show a + i - a = i by omega, ig_t (show i < 49 by omega) (show 49 < 2 ^ 31 by omega), nI_clamp (show i < 2 ^ 31 by omega), lt, ← nI_succ]
      rfl
theorem scan_M {f : Nat} (hf : f < 10) {μ : Mem} {A : Arr} (hW : WA A) (hA : SA μ 19 A) (h0 : μ 30 0 16 = 0) : MT μ (s_scan f A) (f_X8_scan (nI f) (nI (sz A)) μ) := by
  have h1 := hW.1
  have h2 := hW.2.2
  have hww := WA_wd hW
  obtain ⟨μ1, f1, f2, f3, f4⟩ := same_eq hW hA
  have hA1 := f2.sa (by omega) hW hA
  have i0 : ¬ (1 : Int32) = 0 := by decide
  unfold f_X8_scan s_scan
  rw [il19, last_eq (by omega) hW hA, bP_s, f1, bW_s]
  simp only [jn, if_neg i0]
  rw [il0]
  generalize hκ : (fun (μ_30 : Mem) => if (μ_30 30 0 16) = nI 0 then some ((1 : Int32), μ_30) else some (nI 0, μ_30)) = κ
  have k0 : ∀ ν, ν 30 0 16 = 0 → κ ν = some (1, ν) := fun ν q => by rw [← hκ]; simp only [q, nI_0, if_true]
  have k1 : ∀ ν, ¬ ν 30 0 16 = 0 → κ ν = some (0, ν) := fun ν q => by rw [← hκ]; simp only [q, nI_0, if_false]
  refine Mloop (fun m (s : Int32) ν => f_X8_scan_L16 κ (nI f) (nI (sz A)) (nI (wd A)) 1 m s ν) nI f2 f3.ms h1 (f4.trans h0) h2 ?_ ?_ ?_
  · intro m ν h5
    rw [show pr A.2.1 A.1 = sz A from rfl]
    simp only [f_X8_scan_L16, nle_t (Nat.le_refl _) (show sz A < 2 ^ 31 by omega), if_true]
    exact k0 ν h5
  · intro m k ν h5
    simp only [f_X8_scan_L16, if_neg h5, ite_self]
    exact k1 ν h5
  · intro m k ν hk h5 h6
    have hk2 : k < sz A := hk
    have hw := wd_pos hk2
    have h9 := Nat.div_mul_le_self k (wd A)
    have h10 := kmod k (wd A)
    have hnz : ∀ {α : Type} {o : Option α}, gd (nz (nI (wd A))) o = o := by
      intro α o; rw [i_nz (nI_ne0 hw (by omega))]; rfl
    have e0 : f_X8_scan_L16 κ (nI f) (nI (sz A)) (nI (wd A)) 1 (m + 1) (nI k) ν = f_X8_scan_L41 (fun (μ_23 : Mem) =>
        bW (f_X8_folded (nI f) (nI (k % wd A + 1)) μ_23) fun v_24 μ_25 => bW (f_X8_set (nI 8) (nI k) v_24 μ_25) fun u_26 μ_27 =>
        f_X8_scan_L16 κ (nI f) (nI (sz A)) (nI (wd A)) 1 m (nI (k + 1)) μ_27) (nI f) (nI (sz A)) (nI (wd A)) 1 (nI k) (nI (k / wd A * wd A)) 1000 (nI (k / wd A * wd A)) ν := by
      simp only [f_X8_scan_L16, nle_f hk2 (show sz A < 2 ^ 31 by omega), if_false, if_pos h5, hnz, pk_div (show k < 2 ^ 31 by omega) hw (show wd A < 2 ^ 31 by omega), pk_mul, pk_sub h9, h10, lt, ← nI_succ, il8]
    rw [e0]
    refine scan_41 (fun x => match fo f (fun j => A.2.2 (k / wd A * wd A + j)) (k % wd A + 1) with
      | .ok v => ∃ ν', MI μ1 (fun k => fo f (fun j => A.2.2 (k / wd A * wd A + j)) (k % wd A + 1)) k ν' ∧ x = f_X8_scan_L16 κ (nI f) (nI (sz A)) (nI (wd A)) 1 m (nI (k + 1)) (sto ν' 34 0 (384 + k) v)
      | .error e => (e = 1 ∨ e = 2) ∧ ∃ ν', ME μ1 e ν' ∧ x = f_X8_scan_L16 κ (nI f) (nI (sz A)) (nI (wd A)) 1 m (nI (k + 1)) ν') h9 (by omega) (fun ν' g1 g2 => ?_)
    rw [h10] at g2
    refine fold_set (F := fun k => fo f (fun j => A.2.2 (k / wd A * wd A + j)) (k % wd A + 1)) hf (by omega) (by omega) ?_ (by rw [g1 30 0 16 (by omega)]; exact h5) (MI_row h6 g1) (fun μ_35 => f_X8_scan_L16 κ (nI f) (nI (sz A)) (nI (wd A)) 1 m (nI (k + 1)) μ_35)
    refine fo_congr (fun j hj => ?_)
    rw [g2 j hj]
    exact ((h6.sa (by omega) hW hA1).2.2 _ (by omega)).symm
/-- a number function's result goes to MADE -/
theorem num_set {k : Nat} {μ0 ν : Mem} {F : Nat → Except Nat Int32} {o : Option (Int32 × Mem)} (hk : k < 48) (hN : Nr ν (F k) o) (he : ∀ e, F k = .error e → e = 1 ∨ e = 2) (h : MI μ0 F k ν) (g : Mem → Option (Int32 × Mem)) : match F k with
      | .ok v => ∃ ν', MI μ0 F k ν' ∧ (bW o fun v_32 μ_33 => bW (f_X8_set (nI 8) (nI k) v_32 μ_33) fun u_34 μ_35 => g μ_35) = g (sto ν' 34 0 (384 + k) v)
      | .error e => (e = 1 ∨ e = 2) ∧ ∃ ν', ME μ0 e ν' ∧ (bW o fun v_32 μ_33 => bW (f_X8_set (nI 8) (nI k) v_32 μ_33) fun u_34 μ_35 => g μ_35) = g ν' := by
  obtain ⟨w, e1, e2⟩ := hN
  rw [e1, bW_s, set_eq (by omega), bW_s]
  cases hq : F k with
  | ok v => exact ⟨ν, h, by rw [e2 v hq]; rfl⟩
  | error e => exact ⟨he e hq, _, ME.set h.me hk, rfl⟩
theorem one_err {f : Nat} {a : Int32} {e : Nat} (h : one f a = .error e) : e = 1 ∨ e = 2 := by
  unfold one at h
  split at h
  · exact Or.inl (fit_err h)
  · exact Or.inl (fit_err h)
  · split at h
    · split at h <;> cases h
    · cases h
theorem l64_le0 (x : Int32) : lg_cmp x.toInt64 0 ≤ 0 ↔ x ≤ 0 := by
  rw [lg_cmp_le, Int64.le_iff_toInt_le, Int32.le_iff_toInt_le, Int32.toInt_toInt64, Int64.toInt_zero, Int32.toInt_zero]
theorem one_M {f : Nat} (hf : f < 3) {μ : Mem} {A : Arr} (hW : WA A) (hA : SA μ 19 A) (h0 : μ 30 0 16 = 0) : MT μ (s_one f A) (bW (f_X8_same μ) fun v_31 μ_32 =>
    f_X8_single_L81 (fun (μ_53 : Mem) =>
     jn (fun (_ : Unit) => some ((0 : Int32), μ_53)) fun j_54 =>
     if v_31 = 0 then (j_54 ()) else if (μ_53 30 0 16) = 0 then (some ((1 : Int32), μ_53)) else j_54 ()) (nI (20 + f)) (nI (sz A)) v_31 1000 (0 : Int32) μ_32) := by
  have h1 := hW.1
  have h2 := hW.2.2
  obtain ⟨μ1, f1, f2, f3, f4⟩ := same_eq hW hA
  have hA1 := f2.sa (by omega) hW hA
  have i0 : ¬ (1 : Int32) = 0 := by decide
  unfold s_one
  rw [f1, bW_s]
  simp only [jn, if_neg i0]
  generalize hκ : (fun (μ_30 : Mem) => if (μ_30 30 0 16) = 0 then some ((1 : Int32), μ_30) else some (0, μ_30)) = κ
  have k0 : ∀ ν, ν 30 0 16 = 0 → κ ν = some (1, ν) := fun ν q => by rw [← hκ]; simp only [q, if_true]
  have k1 : ∀ ν, ¬ ν 30 0 16 = 0 → κ ν = some (0, ν) := fun ν q => by rw [← hκ]; simp only [q, if_false]
  rw [il0]
  refine Mloop (fun m (s : Int32) ν => f_X8_single_L81 κ (nI (20 + f)) (nI (sz A)) 1 m s ν) nI f2 f3.ms h1 (f4.trans h0) h2 ?_ ?_ ?_
  · intro m ν h5
    rw [show pr A.2.1 A.1 = sz A from rfl]
    simp only [f_X8_single_L81, nle_t (Nat.le_refl _) (show sz A < 2 ^ 31 by omega), if_true]
    exact k0 ν h5
  · intro m k ν h5
    simp only [f_X8_single_L81, if_neg h5, ite_self]
    exact k1 ν h5
  · intro m k ν hk h5 h6
    have hk2 : k < sz A := hk
    have e1 := (h6.sa (by omega) hW hA1).2.2 k hk2
    simp only [f_X8_single_L81, nle_f hk2 (show sz A < 2 ^ 31 by omega), if_false, if_pos h5, il19, get_eq (show 48 * 19 + k < 960 by omega), bP_s, e1, lt, jn, ← nI_succ, il8, l64_lt0, l64_le0]
    have key : ∀ o, Nr ν (one f (A.2.2 k)) o → match one f (A.2.2 k) with
      | .ok v => ∃ ν', MI μ1 (fun k => one f (A.2.2 k)) k ν' ∧ (bW o fun v_32 μ_33 => bW (f_X8_set (nI 8) (nI k) v_32 μ_33) fun u_34 μ_35 => f_X8_single_L81 κ (nI (20 + f)) (nI (sz A)) 1 m (nI (k + 1)) μ_35) = f_X8_single_L81 κ (nI (20 + f)) (nI (sz A)) 1 m (nI (k + 1)) (sto ν' 34 0 (384 + k) v)
      | .error e => (e = 1 ∨ e = 2) ∧ ∃ ν', ME μ1 e ν' ∧ (bW o fun v_32 μ_33 => bW (f_X8_set (nI 8) (nI k) v_32 μ_33) fun u_34 μ_35 => f_X8_single_L81 κ (nI (20 + f)) (nI (sz A)) 1 m (nI (k + 1)) μ_35) = f_X8_single_L81 κ (nI (20 + f)) (nI (sz A)) 1 m (nI (k + 1)) ν' := fun o hN =>
        num_set (F := fun k => one f (A.2.2 k)) (by omega) hN (fun e q => one_err q) h6 (fun μ_35 => f_X8_single_L81 κ (nI (20 + f)) (nI (sz A)) 1 m (nI (k + 1)) μ_35)
    rcases (show f = 0 ∨ f = 1 ∨ f = 2 by omega) with rfl | rfl | rfl
    · rw [if_pos (show nI (20 + 0) = 20 by decide)]
      exact key _ (ofInt_N _ ν)
    · rw [if_neg (show ¬ nI (20 + 1) = 20 by decide), if_pos (show nI (20 + 1) = 21 by decide)]
      have := key (f_X8_ofInt (if 0 ≤ A.2.2 k then (A.2.2 k).toInt64 else -(A.2.2 k).toInt64) ν) (ofInt_N _ ν)
      by_cases c : A.2.2 k < 0
      · rw [if_neg (show ¬ (0 ≤ A.2.2 k) by rw [i_nlt]; simpa using c)] at this
        rw [if_neg (show ¬ ¬ (A.2.2 k < 0) by simpa using c)]
        exact this
      · rw [if_pos (show (0 ≤ A.2.2 k) by rw [i_nlt]; exact c)] at this
        rw [if_pos c]
        exact this
    · rw [if_neg (show ¬ nI (20 + 2) = 20 by decide), if_neg (show ¬ nI (20 + 2) = 21 by decide)]
      have hone : one 2 (A.2.2 k) = if A.2.2 k ≤ 0 then (if 0 ≤ A.2.2 k then .ok 0 else .ok (-1)) else .ok 1 := rfl
      by_cases c : A.2.2 k < 0
      · have c2 : ¬ 0 ≤ A.2.2 k := by rw [i_nlt]; simpa using c
        have c3 : A.2.2 k ≤ 0 := by rw [Int32.le_iff_toInt_le]; rw [Int32.lt_iff_toInt_lt] at c; omega
        rw [if_neg (show ¬ ¬ (A.2.2 k < 0) by simpa using c)]
        exact key (some (-1, ν)) (by rw [hone, if_pos c3, if_neg c2]; exact Nr_ok ν _)
      · have c2 : 0 ≤ A.2.2 k := by rw [i_nlt]; exact c
        rw [if_pos c]
        by_cases c3 : A.2.2 k ≤ 0
        · rw [if_pos c3]
          exact key (some (0, ν)) (by rw [hone, if_pos c3, if_pos c2]; exact Nr_ok ν _)
        · rw [if_neg c3]
          exact key (some (1, ν)) (by rw [hone, if_neg c3]; exact Nr_ok ν _)
