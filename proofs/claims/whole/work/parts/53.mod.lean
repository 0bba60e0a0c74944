/-! ===== the reference's slots ===== -/
def Fm (μ μ' : Mem) : Prop := ∀ k i j, k ≠ 42 ∧ (k ≠ 30 ∨ j ≠ 16) ∧ (k ≠ 32 ∨ j ≠ 8) ∧ (k ≠ 33 ∨ j < 24 ∨ 27 ≤ j) ∧ (k ≠ 34 ∨ j < 384 ∨ 432 ≤ j) → μ' k i j = μ k i j
theorem Fm.refl {μ : Mem} : Fm μ μ := fun _ _ _ _ => rfl
theorem Fm.trans {μ μ1 μ2 : Mem} (h : Fm μ μ1) (h' : Fm μ1 μ2) : Fm μ μ2 := fun k i j hk => (h' k i j hk).trans (h k i j hk)
theorem Fm.sa {μ μ' : Mem} {s : Nat} {A : Arr} (h : Fm μ μ') (hs : s ≠ 8) (hW : WA A) (hA : SA μ s A) : SA μ' s A := by
  have h1 := hW.1
  have h2 := hW.2.2
  refine ⟨?_, fun k hk => ?_, fun k hk => ?_⟩
  · rw [h 32 0 s (by omega)]; exact hA.1
  · rw [h 33 0 _ (by omega)]; exact hA.2.1 k hk
  · rw [h 34 0 _ (by omega)]; exact hA.2.2 k hk
def MT (μ : Mem) (S : Except Nat Arr) (x : Option (Int32 × Mem)) : Prop := ∃ b μ', x = some (b, μ') ∧ Fm μ μ' ∧ match S with
  | .ok A => b = 1 ∧ μ' 30 0 16 = 0 ∧ SA μ' 8 A
  | .error e => b = 0 ∧ μ' 30 0 16 = nI e
/-- elements up to k are done -/
def MI (μ0 : Mem) (F : Nat → Except Nat Int32) (k : Nat) (μ : Mem) : Prop := (∀ q i j, q ≠ 42 ∧ (q ≠ 34 ∨ j < 384 ∨ 432 ≤ j) → μ q i j = μ0 q i j) ∧ ∀ j, j < k → F j = .ok (μ 34 0 (384 + j))
/-- a fault was met -/
def ME (μ0 : Mem) (e : Nat) (μ : Mem) : Prop := (∀ q i j, q ≠ 42 ∧ (q ≠ 34 ∨ j < 384 ∨ 432 ≤ j) ∧ (q ≠ 30 ∨ j ≠ 16) → μ q i j = μ0 q i j) ∧ μ 30 0 16 = nI e
def MS (μ : Mem) (r : Nat) (L : Nat → Nat) : Prop := μ 32 0 8 = nI r ∧ ∀ k, k < r → μ 33 0 (24 + k) = nI (L k)
theorem MI_0 {μ : Mem} {F : Nat → Except Nat Int32} : MI μ F 0 μ := ⟨fun _ _ _ _ => rfl, fun j hj => by omega⟩
theorem sto_nj {μ : Mem} {k i j k' i' j' : Nat} {v : Int32} (h : k' ≠ k ∨ i' ≠ i ∨ j' ≠ j) : sto μ k i j v k' i' j' = μ k' i' j' := by
  by_cases h1 : k' = k ∧ i' = i
  · obtain ⟨rfl, rfl⟩ := h1
    exact sto_j (by omega)
  · by_cases h2 : k' = k
    · rw [sto_i (by omega)]
    · rw [sto_k h2]
theorem MI_s {μ0 μ : Mem} {F : Nat → Except Nat Int32} {k : Nat} {v : Int32} (h : MI μ0 F k μ) (hk : k < 48) (hv : F k = .ok v) : MI μ0 F (k + 1) (sto μ 34 0 (384 + k) v) := by
  refine ⟨fun q i j hq => ?_, fun j hj => ?_⟩
  · rw [sto_nj (by omega)]; exact h.1 q i j hq
  · by_cases h1 : j = k
    · subst h1; rw [sto_e]; exact hv
    · rw [sto_j (by omega)]; exact h.2 j (by omega)
theorem MI_42 {μ0 μ : Mem} {F : Nat → Except Nat Int32} {k j : Nat} {v : Int32} (h : MI μ0 F k μ) : MI μ0 F k (sto μ 42 0 j v) := by
  refine ⟨fun q i j hq => ?_, fun j hj => ?_⟩
  · rw [sto_k (by omega)]; exact h.1 q i j hq
  · rw [sto_k (by omega)]; exact h.2 j hj
theorem MI.flt {μ0 μ : Mem} {F : Nat → Except Nat Int32} {k : Nat} (h : MI μ0 F k μ) (h0 : μ0 30 0 16 = 0) : μ 30 0 16 = 0 := by rw [h.1 30 0 16 (by omega)]; exact h0
theorem MI.fm {μ0 μ : Mem} {F : Nat → Except Nat Int32} {k : Nat} (h : MI μ0 F k μ) : Fm μ0 μ := fun q i j hq => h.1 q i j (by omega)
theorem MI.me {μ0 μ : Mem} {F : Nat → Except Nat Int32} {k e : Nat} (h : MI μ0 F k μ) : ME μ0 e (sto μ 30 0 16 (nI e)) := ⟨fun q i j hq => by rw [sto_nj (by omega)]; exact h.1 q i j (by omega), sto_e⟩
theorem ME.set {μ0 μ : Mem} {k e : Nat} {v : Int32} (h : ME μ0 e μ) (hk : k < 48) : ME μ0 e (sto μ 34 0 (384 + k) v) := ⟨fun q i j hq => by rw [sto_nj (by omega)]; exact h.1 q i j hq, by rw [sto_k (by omega)]; exact h.2⟩
theorem ME.row {μ0 μ : Mem} {k e : Nat} {v : Int32} (h : ME μ0 e μ) : ME μ0 e (sto μ 42 0 k v) := ⟨fun q i j hq => by rw [sto_k (by omega)]; exact h.1 q i j hq, by rw [sto_k (by omega)]; exact h.2⟩
theorem ME.fm {μ0 μ : Mem} {e : Nat} (h : ME μ0 e μ) : Fm μ0 μ := fun q i j hq => h.1 q i j (by omega)
theorem MT_end {r : Nat} {μ μ0 μ1 : Mem} {L : Nat → Nat} {F : Nat → Except Nat Int32} (hf : Fm μ μ0) (hs : MS μ0 r L) (hr : r ≤ 3) (h0 : μ0 30 0 16 = 0) (h : MI μ0 F (pr L r) μ1) : MT μ (mkA r L F) (some (1, μ1)) := by
  refine ⟨1, μ1, rfl, hf.trans h.fm, ?_⟩
  have h1 : fe F (pr L r) = none := fe_ok (fun j hj => ⟨_, h.2 j hj⟩)
  simp only [mkA, h1]
  refine ⟨trivial, h.flt h0, ?_, fun k hk => ?_, fun k hk => ?_⟩
  · rw [h.1 32 0 8 (by omega)]; exact hs.1
  · have hk3 : k < r := hk
    rw [show 3 * 8 + k = 24 + k by omega, h.1 33 0 (24 + k) (by omega)]; exact hs.2 k hk
  · show _ = vl (F k)
    rw [h.2 k hk]; rfl
theorem MT_err {r k e : Nat} {μ μ0 μ1 μ2 : Mem} {L : Nat → Nat} {F : Nat → Except Nat Int32} (hf : Fm μ μ0) (h : MI μ0 F k μ1) (hk : k < pr L r) (he : F k = .error e) (h2 : ME μ0 e μ2) : MT μ (mkA r L F) (some (0, μ2)) := by
  refine ⟨0, μ2, rfl, hf.trans h2.fm, ?_⟩
  have h1 : fe F (pr L r) = some e := fe_at (fun j hj => ⟨_, h.2 j hj⟩) he hk
  simp only [mkA, h1]
  exact ⟨trivial, h2.2⟩
theorem MT_stop {e : Nat} {μ μ1 : Mem} (hf : Fm μ μ1) : MT μ (.error e) (some (0, sto μ1 30 0 16 (nI e))) := ⟨0, _, rfl, fun q i j hq => by rw [sto_nj (by omega)]; exact hf q i j hq, rfl, sto_e⟩
theorem stop_eq {e : Nat} {x : Int32} {μ : Mem} {f : Int32 → Mem → Option (Int32 × Mem)} (h : x = nI e) : bW (f_X8_stop x μ) f = f 0 (sto μ 30 0 16 (nI e)) := by rw [h]; rfl
theorem isb_0 {α : Type} {o : Option α} : gd (isb 0) o = o := rfl
theorem isb_1 {α : Type} {o : Option α} : gd (isb 1) o = o := rfl
/-- a loop of the reference that fills MADE -/
theorem Mloop {σ : Type} (f : Nat → σ → Mem → Option (Int32 × Mem)) (st : Nat → σ) {r : Nat} {L : Nat → Nat} {F : Nat → Except Nat Int32} {μ μ0 : Mem} (hf : Fm μ μ0) (hs : MS μ0 r L) (hr : r ≤ 3) (h0 : μ0 30 0 16 = 0) (hN : pr L r ≤ 48)
    (hend : ∀ n ν, ν 30 0 16 = 0 → f (n + 1) (st (pr L r)) ν = some (1, ν))
    (hflt : ∀ n k ν, ¬ ν 30 0 16 = 0 → f (n + 1) (st k) ν = some (0, ν))
    (hstep : ∀ n k ν, k < pr L r → ν 30 0 16 = 0 → MI μ0 F k ν → match F k with
      | .ok v => ∃ ν', MI μ0 F k ν' ∧ f (n + 1) (st k) ν = f n (st (k + 1)) (sto ν' 34 0 (384 + k) v)
      | .error e => (e = 1 ∨ e = 2) ∧ ∃ ν', ME μ0 e ν' ∧ f (n + 1) (st k) ν = f n (st (k + 1)) ν') : MT μ (mkA r L F) (f 1000 (st 0) μ0) := by
  refine lp0 (fun n (s : σ × Mem) => f n s.1 s.2) (MT μ (mkA r L F)) (pr L r) (fun k s => s.1 = st k ∧ MI μ0 F k s.2) (st 0, μ0) 1000 (by omega) ⟨rfl, MI_0⟩ ?_ ?_
  · rintro n ⟨x, ν⟩ ⟨h1, h2⟩
    dsimp only at h1 h2 ⊢
    subst h1
    rw [hend n ν (h2.flt h0)]
    exact MT_end hf hs hr h0 h2
  · rintro n k ⟨x, ν⟩ hk hn ⟨h1, h2⟩
    dsimp only at h1 h2 ⊢
    subst h1
    have h5 := hstep n k ν hk (h2.flt h0) h2
    cases hF : F k with
    | error e =>
      rw [hF] at h5
      obtain ⟨he, ν', h6, h7⟩ := h5
      right
      obtain ⟨n', rfl⟩ : ∃ n', n = n' + 1 := ⟨n - 1, by omega⟩
      rw [h7, hflt n' (k + 1) ν' (by rw [h6.2]; rcases he with rfl | rfl <;> decide)]
      exact MT_err hf h2 hk hF h6
    | ok v =>
      rw [hF] at h5
      obtain ⟨ν', h6, h7⟩ := h5
      left
      exact ⟨(st (k + 1), sto ν' 34 0 (384 + k) v), ⟨rfl, MI_s h6 (by omega) hF⟩, h7⟩
/-- the same where no fault can be met -/
theorem Mloop' {σ : Type} (f : Nat → σ → Mem → Option (Int32 × Mem)) (st : Nat → σ) {r : Nat} {L : Nat → Nat} {E : Nat → Int32} {μ μ0 : Mem} (hf : Fm μ μ0) (hs : MS μ0 r L) (hr : r ≤ 3) (h0 : μ0 30 0 16 = 0) (hN : pr L r ≤ 48)
    (hend : ∀ n ν, f (n + 1) (st (pr L r)) ν = some (1, ν))
    (hstep : ∀ n k ν, k < pr L r → MI μ0 (fun k => .ok (E k)) k ν → f (n + 1) (st k) ν = f n (st (k + 1)) (sto ν 34 0 (384 + k) (E k))) : MT μ (mkA r L (fun k => .ok (E k))) (f 1000 (st 0) μ0) := by
  refine lp0 (fun n (s : σ × Mem) => f n s.1 s.2) (MT μ (mkA r L (fun k => .ok (E k)))) (pr L r) (fun k s => s.1 = st k ∧ MI μ0 (fun k => .ok (E k)) k s.2) (st 0, μ0) 1000 (by omega) ⟨rfl, MI_0⟩ ?_ ?_
  · rintro n ⟨x, ν⟩ ⟨h1, h2⟩
    dsimp only at h1 h2 ⊢
    subst h1
    rw [hend n ν]
    exact MT_end hf hs hr h0 h2
  · rintro n k ⟨x, ν⟩ hk hn ⟨h1, h2⟩
    dsimp only at h1 h2 ⊢
    subst h1
    left
    exact ⟨(st (k + 1), sto ν 34 0 (384 + k) (E k)), ⟨rfl, MI_s h2 (by omega) rfl⟩, hstep n k ν hk h2⟩
theorem axisOf_eq {s k : Nat} {μ : Mem} (h : 3 * s + k < 60) : f_X8_axisOf (nI s) (nI k) μ = some (μ 33 0 (3 * s + k)) := by
  unfold f_X8_axisOf
  rw [il3, pk_mul, nI_add, ig_t h (by omega), nI_clamp (by omega)]
theorem get_eq {s k : Nat} {μ : Mem} (h : 48 * s + k < 960) : f_X8_get (nI s) (nI k) μ = some (μ 34 0 (48 * s + k)) := by
  unfold f_X8_get
  rw [il48, pk_mul, nI_add, ig_t h (by omega), nI_clamp (by omega)]
theorem set_eq {s k : Nat} {v : Int32} {μ : Mem} (h : 48 * s + k < 960) : f_X8_set (nI s) (nI k) v μ = some ((), sto μ 34 0 (48 * s + k) v) := by
  unfold f_X8_set
  rw [il48, pk_mul, nI_add, ig_t h (by omega), nI_clamp (by omega)]
theorem sizeOf_eq' {s r : Nat} {L : Nat → Nat} {μ : Mem} (hs : s < 20) (hr : r ≤ 3) (h1 : μ 32 0 s = nI r) (h2 : ∀ k, k < r → μ 33 0 (3 * s + k) = nI (L k)) : f_X8_sizeOf (nI s) μ = some (nI (pr L r)) := by
  unfold f_X8_sizeOf
  rw [il1, il0]
  refine lp0 (fun n (t : Int32 × Int32) => f_X8_sizeOf_L4 (fun a => some a) (nI s) μ n t.1 t.2) (fun x => x = some (nI (pr L r))) r (fun i t => t.1 = nI (pr L i) ∧ t.2 = nI i) (nI 1, nI 0) 1000 (by omega) ⟨rfl, rfl⟩ ?_ ?_
  · rintro n ⟨x, y⟩ ⟨e1, e2⟩
    dsimp only at e1 e2 ⊢
    subst e1 e2
    simp only [f_X8_sizeOf_L4, ig_t hs (show 20 < 2 ^ 31 by omega), nI_clamp (show s < 2 ^ 31 by omega), h1, nle_t (Nat.le_refl _) (show r < 2 ^ 31 by omega), if_true]
  · rintro n i ⟨x, y⟩ hi hn ⟨e1, e2⟩
    dsimp only at e1 e2 ⊢
    subst e1 e2
    left
    refine ⟨(nI (pr L (i + 1)), nI (i + 1)), ⟨rfl, rfl⟩, ?_⟩
    simp only [f_X8_sizeOf_L4, ig_t hs (show 20 < 2 ^ 31 by omega), nI_clamp (show s < 2 ^ 31 by omega), h1, nle_f hi (show r < 2 ^ 31 by omega), if_false, axisOf_eq (show 3 * s + i < 60 by omega), bP_s, h2 i hi, pk_mul, lt, ← nI_succ, pr]
theorem sizeOf_eq {s : Nat} {A : Arr} {μ : Mem} (hs : s < 20) (hW : WA A) (hA : SA μ s A) : f_X8_sizeOf (nI s) μ = some (nI (sz A)) := sizeOf_eq' hs hW.1 hA.1 hA.2.1
theorem last_eq {s : Nat} {A : Arr} {μ : Mem} (hs : s < 20) (hW : WA A) (hA : SA μ s A) : f_X8_last (nI s) μ = some (nI (wd A)) := by
  have h1 := hW.1
  unfold f_X8_last wd
  simp only [ig_t hs (show 20 < 2 ^ 31 by omega), nI_clamp (show s < 2 ^ 31 by omega), hA.1, il0, il1, neq_iff (show A.1 < 2 ^ 31 by omega) (show 0 < 2 ^ 31 by omega)]
  by_cases c : A.1 = 0
  · rw [if_pos c, if_pos c]
  · rw [if_neg c, if_neg c, pk_sub (by omega), axisOf_eq (by omega), bP_s, hA.2.1 _ (by omega)]
/-- slot b gets what slot a has -/
def Fc (b : Nat) (μ μ' : Mem) : Prop := ∀ k i j, (k ≠ 32 ∨ j ≠ b) ∧ (k ≠ 33 ∨ j < 3 * b ∨ 3 * b + 3 ≤ j) ∧ (k ≠ 34 ∨ j < 48 * b ∨ 48 * b + 48 ≤ j) → μ' k i j = μ k i j
theorem mcopy_eq {a b : Nat} {μ : Mem} (ha : a < 20) (hb : b < 20) (hab : a ≠ b) : ∃ μ', f_X8_copy (nI a) (nI b) μ = some ((), μ') ∧ Fc b μ μ' ∧ μ' 32 0 b = μ 32 0 a ∧ (∀ k, k < 3 → μ' 33 0 (3 * b + k) = μ 33 0 (3 * a + k)) ∧ ∀ k, k < 48 → μ' 34 0 (48 * b + k) = μ 34 0 (48 * a + k) := by
  unfold f_X8_copy
  rw [ig_t ha (by omega), ig_t hb (by omega), nI_clamp (by omega), nI_clamp (by omega), il0]
  generalize hT : (fun x : Option (Unit × Mem) => ∃ μ', x = some ((), μ') ∧ Fc b μ μ' ∧ μ' 32 0 b = μ 32 0 a ∧ (∀ k, k < 3 → μ' 33 0 (3 * b + k) = μ 33 0 (3 * a + k)) ∧ ∀ k, k < 48 → μ' 34 0 (48 * b + k) = μ 34 0 (48 * a + k)) = T
  suffices h : T (f_X8_copy_L14 (fun (μ_9 : Mem) => f_X8_copy_L47 (fun (μ_17 : Mem) => some ((), μ_17)) (nI a) (nI b) 1000 (nI 0) μ_9) (nI a) (nI b) 1000 (nI 0) (sto μ 32 0 b (μ 32 0 a))) by
    rw [← hT] at h; exact h
  refine lp0 (fun n (s : Int32 × Mem) => f_X8_copy_L14 (fun (μ_9 : Mem) => f_X8_copy_L47 (fun (μ_17 : Mem) => some ((), μ_17)) (nI a) (nI b) 1000 (nI 0) μ_9) (nI a) (nI b) n s.1 s.2) T 3
    (fun i s => s.1 = nI i ∧ (∀ k q j, (k ≠ 32 ∨ j ≠ b) ∧ (k ≠ 33 ∨ j < 3 * b ∨ 3 * b + 3 ≤ j) → s.2 k q j = μ k q j) ∧ s.2 32 0 b = μ 32 0 a ∧ ∀ k, k < i → s.2 33 0 (3 * b + k) = μ 33 0 (3 * a + k)) (nI 0, sto μ 32 0 b (μ 32 0 a)) 1000 (by omega) ⟨rfl, fun k q j hk => by dsimp only; exact sto_nj (by omega), by dsimp only; exact sto_e, fun k hk => by omega⟩ ?_ ?_
  · rintro n ⟨x, ν⟩ ⟨e1, e2, e3, e4⟩
    dsimp only at e1 e2 e3 e4 ⊢
    subst e1
    simp only [f_X8_copy_L14, il3, nle_t (Nat.le_refl _) (show 3 < 2 ^ 31 by omega), if_true]
    refine lp0 (fun n (s : Int32 × Mem) => f_X8_copy_L47 (fun (μ_17 : Mem) => some ((), μ_17)) (nI a) (nI b) n s.1 s.2) T 48
      (fun i s => s.1 = nI i ∧ (∀ k q j, (k ≠ 34 ∨ j < 48 * b ∨ 48 * b + 48 ≤ j) → s.2 k q j = ν k q j) ∧ ∀ k, k < i → s.2 34 0 (48 * b + k) = μ 34 0 (48 * a + k)) (nI 0, ν) 1000 (by omega) ⟨rfl, fun _ _ _ _ => rfl, fun k hk => by omega⟩ ?_ ?_
    · rintro n' ⟨x, ν'⟩ ⟨d1, d2, d3⟩
      dsimp only at d1 d2 d3 ⊢
      subst d1
      simp only [f_X8_copy_L47, il48, nle_t (Nat.le_refl _) (show 48 < 2 ^ 31 by omega), if_true]
      rw [← hT]
      refine ⟨ν', rfl, fun k i j hk => ?_, ?_, fun k hk => ?_, d3⟩
      · rw [d2 k i j hk.2.2]; exact e2 k i j ⟨hk.1, hk.2.1⟩
      · rw [d2 32 0 b (by omega)]; exact e3
      · rw [d2 33 0 _ (by omega)]; exact e4 k hk
    · rintro n' i ⟨x, ν'⟩ hi hn ⟨d1, d2, d3⟩
      dsimp only at d1 d2 d3 ⊢
      subst d1
      left
      have d4 : ν' 34 0 (48 * a + i) = μ 34 0 (48 * a + i) := by rw [d2 34 0 _ (by omega)]; exact e2 34 0 _ (by omega)
      refine ⟨(nI (i + 1), sto ν' 34 0 (48 * b + i) (μ 34 0 (48 * a + i))), ⟨rfl, fun k q j hk => ?_, fun k hk => ?_⟩, ?_⟩
      · dsimp only; rw [sto_nj (by omega)]; exact d2 k q j hk
      · dsimp only
        by_cases q : k = i
        · subst q; rw [sto_e]
        · rw [sto_j (by omega)]; exact d3 k (by omega)
      · simp only [f_X8_copy_L47, il48, nle_f hi (show 48 < 2 ^ 31 by omega), if_false, pk_mul, nI_add, ig_t (show 48 * a + i < 960 by omega) (show 960 < 2 ^ 31 by omega), ig_t (show 48 * b + i < 960 by omega) (show 960 < 2 ^ 31 by omega), nI_clamp (show 48 * a + i < 2 ^ 31 by omega), nI_clamp (show 48 * b + i < 2 ^ 31 by omega), d4, lt, ← nI_succ]
  · rintro n i ⟨x, ν⟩ hi hn ⟨e1, e2, e3, e4⟩
    dsimp only at e1 e2 e3 e4 ⊢
    subst e1
    left
    have d4 : ν 33 0 (3 * a + i) = μ 33 0 (3 * a + i) := e2 33 0 _ (by omega)
    refine ⟨(nI (i + 1), sto ν 33 0 (3 * b + i) (μ 33 0 (3 * a + i))), ⟨rfl, fun k q j hk => ?_, ?_, fun k hk => ?_⟩, ?_⟩
    · dsimp only; rw [sto_nj (by omega)]; exact e2 k q j hk
    · dsimp only; rw [sto_k (by omega)]; exact e3
    · dsimp only
      by_cases q : k = i
      · subst q; rw [sto_e]
      · rw [sto_j (by omega)]; exact e4 k (by omega)
    · simp only [f_X8_copy_L14, il3, nle_f hi (show 3 < 2 ^ 31 by omega), if_false, pk_mul, nI_add, ig_t (show 3 * a + i < 60 by omega) (show 60 < 2 ^ 31 by omega), ig_t (show 3 * b + i < 60 by omega) (show 60 < 2 ^ 31 by omega), nI_clamp (show 3 * a + i < 2 ^ 31 by omega), nI_clamp (show 3 * b + i < 2 ^ 31 by omega), d4, lt, ← nI_succ]
theorem mcopy_A {a b : Nat} {μ : Mem} {A : Arr} (ha : a < 20) (hb : b < 20) (hab : a ≠ b) (hW : WA A) (hA : SA μ a A) : ∃ μ', f_X8_copy (nI a) (nI b) μ = some ((), μ') ∧ Fc b μ μ' ∧ SA μ' b A := by
  have h1 := hW.1
  have h2 := hW.2.2
  obtain ⟨μ', e1, e2, e3, e4, e5⟩ := mcopy_eq (μ := μ) ha hb hab
  exact ⟨μ', e1, e2, e3.trans hA.1, fun k hk => (e4 k (by omega)).trans (hA.2.1 k hk), fun k hk => (e5 k (by omega)).trans (hA.2.2 k hk)⟩
theorem Fc.sa {b s : Nat} {μ μ' : Mem} {A : Arr} (h : Fc b μ μ') (hs : s ≠ b) (hW : WA A) (hA : SA μ s A) : SA μ' s A := by
  have h1 := hW.1
  have h2 := hW.2.2
  refine ⟨?_, fun k hk => ?_, fun k hk => ?_⟩
  · rw [h 32 0 s (by omega)]; exact hA.1
  · rw [h 33 0 _ (by omega)]; exact hA.2.1 k hk
  · rw [h 34 0 _ (by omega)]; exact hA.2.2 k hk
theorem Fc.fm {μ μ' : Mem} (h : Fc 8 μ μ') : Fm μ μ' := fun k i j hk => h k i j (by omega)
theorem same_eq {μ : Mem} {A : Arr} (hW : WA A) (hA : SA μ 19 A) : ∃ μ', f_X8_same μ = some (1, μ') ∧ Fm μ μ' ∧ SA μ' 8 A ∧ μ' 30 0 16 = μ 30 0 16 := by
  obtain ⟨μ', e1, e2, e3⟩ := mcopy_A (a := 19) (b := 8) (by omega) (by omega) (by omega) hW hA
  refine ⟨μ', ?_, e2.fm, e3, e2 30 0 16 (by omega)⟩
  unfold f_X8_same
  rw [il19, il8, e1, bW_s]
theorem SA.ms {μ : Mem} {A : Arr} (h : SA μ 8 A) : MS μ A.1 A.2.1 := ⟨h.1, fun k hk => h.2.1 k hk⟩
/-- shape: MADE gets rank and lengths, or S -/
theorem shape_eq {r : Nat} {a b c : Int32} {μ : Mem} {L : Nat → Nat} (hr : r ≤ 3) (ha : 0 < r → a = nI (L 0)) (hb : 1 < r → b = nI (L 1)) (hc : 2 < r → c = nI (L 2)) (hL : ∀ k, k < r → L k < 2 ^ 31) (h0 : μ 30 0 16 = 0) :
    ∃ μ', Fm μ μ' ∧ ((okS r L ∧ f_X8_shape (nI r) a b c μ = some (1, μ') ∧ MS μ' r L ∧ μ' 30 0 16 = 0) ∨ (¬ okS r L ∧ f_X8_shape (nI r) a b c μ = some (0, μ') ∧ μ' 30 0 16 = nI 1)) := by
  unfold f_X8_shape
  simp only [il8, il24, il25, il26, ig_t (show 8 < 20 by omega) (show 20 < 2 ^ 31 by omega), ig_t (show 24 < 60 by omega) (show 60 < 2 ^ 31 by omega), ig_t (show 25 < 60 by omega) (show 60 < 2 ^ 31 by omega), ig_t (show 26 < 60 by omega) (show 60 < 2 ^ 31 by omega), nI_clamp (show 8 < 2 ^ 31 by omega), nI_clamp (show 24 < 2 ^ 31 by omega), nI_clamp (show 25 < 2 ^ 31 by omega), nI_clamp (show 26 < 2 ^ 31 by omega), lt, jn]
  generalize hm : sto (sto (sto (sto μ 32 0 8 (nI r)) 33 0 24 a) 33 0 25 b) 33 0 26 c = ν
  have f1 : Fm μ ν := fun k i j hk => by rw [← hm, sto_nj (by omega), sto_nj (by omega), sto_nj (by omega), sto_nj (by omega)]
  have f2 : MS ν r L := by
    refine ⟨?_, fun k hk => ?_⟩
    · rw [← hm, sto_k (by omega), sto_k (by omega), sto_k (by omega), sto_e]
    · rcases (show k = 0 ∨ k = 1 ∨ k = 2 by omega) with rfl | rfl | rfl
      · rw [← hm, sto_j (by omega), sto_j (by omega), sto_e, ha hk]
      · rw [← hm, sto_j (by omega), sto_e, hb hk]
      · rw [← hm, sto_e, hc hk]
  have f3 : ν 30 0 16 = 0 := by rw [← hm, sto_k (by omega), sto_k (by omega), sto_k (by omega), sto_k (by omega)]; exact h0
  have f4 : Fm μ (sto ν 30 0 16 (nI 1)) := fun k i j hk => by rw [sto_nj (by omega)]; exact f1 k i j hk
  rw [il0]
  generalize hT : (fun x : Option (Int32 × Mem) => ∃ μ', Fm μ μ' ∧ ((okS r L ∧ x = some (1, μ') ∧ MS μ' r L ∧ μ' 30 0 16 = 0) ∨ (¬ okS r L ∧ x = some (0, μ') ∧ μ' 30 0 16 = nI 1))) = T
  have hT0 : ¬ okS r L → T (some (0, sto ν 30 0 16 (nI 1))) := fun q => by rw [← hT]; exact ⟨_, f4, Or.inr ⟨q, rfl, sto_e⟩⟩
  suffices h : T (f_X8_shape_L36 (fun (_ : Unit) => bP (f_X8_sizeOf (nI 8) ν) fun v_12 =>
      if v_12 ≤ (48 : Int32) then some (1, ν) else bW (f_X8_stop (1 : Int32) ν) fun v_15 μ_16 => if v_15 = 0 then some (0, μ_16) else some (1, μ_16)) (nI r) ν 1000 (nI 0)) by
    rw [← hT] at h; exact h
  refine lp0 (fun n (s : Int32) => f_X8_shape_L36 (fun (_ : Unit) => bP (f_X8_sizeOf (nI 8) ν) fun v_12 =>
      if v_12 ≤ (48 : Int32) then some (1, ν) else bW (f_X8_stop (1 : Int32) ν) fun v_15 μ_16 => if v_15 = 0 then some (0, μ_16) else some (1, μ_16)) (nI r) ν n s) T r (fun i s => s = nI i ∧ ∀ k, k < i → L k ≤ 48) (nI 0) 1000 (by omega) ⟨rfl, fun k hk => by omega⟩ ?_ ?_
  · rintro n s ⟨rfl, e1⟩
    have e2 := pr_le hr e1
    simp only [f_X8_shape_L36, nle_t (Nat.le_refl _) (show r < 2 ^ 31 by omega), if_true, sizeOf_eq' (show 8 < 20 by omega) hr f2.1 f2.2, bP_s, il48, nle_iff (show pr L r < 2 ^ 31 by omega) (show 48 < 2 ^ 31 by omega)]
    by_cases c1 : pr L r ≤ 48
    · rw [if_pos c1, ← hT]
      exact ⟨ν, f1, Or.inl ⟨⟨e1, c1⟩, rfl, f2, f3⟩⟩
    · rw [if_neg c1, stop_eq il1]
      exact hT0 (fun q => c1 q.2)
  · rintro n i s hi hn ⟨rfl, e1⟩
    have e2 := hL i hi
    simp only [f_X8_shape_L36, nle_f hi (show r < 2 ^ 31 by omega), if_false, il8, axisOf_eq (show 3 * 8 + i < 60 by omega), bP_s, f2.2 i hi, il48, nle_iff (show L i < 2 ^ 31 by omega) (show 48 < 2 ^ 31 by omega), lt, ← nI_succ]
    by_cases c1 : L i ≤ 48
    · left
      refine ⟨nI (i + 1), ⟨rfl, fun k hk => ?_⟩, by rw [if_pos c1]⟩
      by_cases q : k = i
      · rw [q]; exact c1
      · exact e1 k (by omega)
    · right
      rw [if_neg c1, stop_eq il1, isb_0]
      exact hT0 (fun q => c1 (q.1 i hi))
