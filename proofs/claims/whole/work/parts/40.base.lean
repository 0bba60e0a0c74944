/-! ===== the pure level: words for numbers and memory ===== -/
theorem il0 : (0 : Int32) = nI 0 := by decide
theorem il1 : (1 : Int32) = nI 1 := by decide
theorem il2 : (2 : Int32) = nI 2 := by decide
theorem il3 : (3 : Int32) = nI 3 := by decide
theorem il4 : (4 : Int32) = nI 4 := by decide
theorem il5 : (5 : Int32) = nI 5 := by decide
theorem il6 : (6 : Int32) = nI 6 := by decide
theorem il7 : (7 : Int32) = nI 7 := by decide
theorem il8 : (8 : Int32) = nI 8 := by decide
theorem il9 : (9 : Int32) = nI 9 := by decide
theorem il10 : (10 : Int32) = nI 10 := by decide
theorem il11 : (11 : Int32) = nI 11 := by decide
theorem il17 : (17 : Int32) = nI 17 := by decide
theorem il18 : (18 : Int32) = nI 18 := by decide
theorem il19 : (19 : Int32) = nI 19 := by decide
theorem il20 : (20 : Int32) = nI 20 := by decide
theorem il21 : (21 : Int32) = nI 21 := by decide
theorem il22 : (22 : Int32) = nI 22 := by decide
theorem il23 : (23 : Int32) = nI 23 := by decide
theorem il24 : (24 : Int32) = nI 24 := by decide
theorem il25 : (25 : Int32) = nI 25 := by decide
theorem il26 : (26 : Int32) = nI 26 := by decide
theorem il27 : (27 : Int32) = nI 27 := by decide
theorem il30 : (30 : Int32) = nI 30 := by decide
theorem il31 : (31 : Int32) = nI 31 := by decide
theorem il32 : (32 : Int32) = nI 32 := by decide
theorem il37 : (37 : Int32) = nI 37 := by decide
theorem il38 : (38 : Int32) = nI 38 := by decide
theorem il40 : (40 : Int32) = nI 40 := by decide
theorem il41 : (41 : Int32) = nI 41 := by decide
theorem il42 : (42 : Int32) = nI 42 := by decide
theorem il43 : (43 : Int32) = nI 43 := by decide
theorem il44 : (44 : Int32) = nI 44 := by decide
theorem il45 : (45 : Int32) = nI 45 := by decide
theorem il46 : (46 : Int32) = nI 46 := by decide
theorem il47 : (47 : Int32) = nI 47 := by decide
theorem il48 : (48 : Int32) = nI 48 := by decide
theorem il49 : (49 : Int32) = nI 49 := by decide
theorem il57 : (57 : Int32) = nI 57 := by decide
theorem il58 : (58 : Int32) = nI 58 := by decide
theorem il60 : (60 : Int32) = nI 60 := by decide
theorem il61 : (61 : Int32) = nI 61 := by decide
theorem il62 : (62 : Int32) = nI 62 := by decide
theorem il64 : (64 : Int32) = nI 64 := by decide
theorem il65 : (65 : Int32) = nI 65 := by decide
theorem il69 : (69 : Int32) = nI 69 := by decide
theorem il72 : (72 : Int32) = nI 72 := by decide
theorem il73 : (73 : Int32) = nI 73 := by decide
theorem il92 : (92 : Int32) = nI 92 := by decide
theorem il94 : (94 : Int32) = nI 94 := by decide
theorem il95 : (95 : Int32) = nI 95 := by decide
theorem il100 : (100 : Int32) = nI 100 := by decide
theorem il101 : (101 : Int32) = nI 101 := by decide
theorem il105 : (105 : Int32) = nI 105 := by decide
theorem il112 : (112 : Int32) = nI 112 := by decide
theorem il114 : (114 : Int32) = nI 114 := by decide
theorem il116 : (116 : Int32) = nI 116 := by decide
theorem il118 : (118 : Int32) = nI 118 := by decide
theorem il124 : (124 : Int32) = nI 124 := by decide
theorem il200 : (200 : Int32) = nI 200 := by decide
theorem il201 : (201 : Int32) = nI 201 := by decide
theorem il255 : (255 : Int32) = nI 255 := by decide
theorem nle_t {a b : Nat} (h : a ≤ b) (hb : b < 2 ^ 31) : (nI a ≤ nI b) = True := eq_true ((nI_leI (by omega) hb).mpr h)
theorem nle_f {a b : Nat} (h : b < a) (hb : a < 2 ^ 31) : (nI a ≤ nI b) = False := eq_false (fun q => by have := (nI_leI hb (by omega)).mp q; omega)
theorem nlt_t {a b : Nat} (h : a < b) (hb : b < 2 ^ 31) : (nI a < nI b) = True := eq_true ((nI_ltI (by omega) hb).mpr h)
theorem nlt_f {a b : Nat} (h : b ≤ a) (hb : a < 2 ^ 31) : (nI a < nI b) = False := eq_false (fun q => by have := (nI_ltI hb (by omega)).mp q; omega)
theorem neq_t {a b : Nat} (h : a = b) : (nI a = nI b) = True := eq_true (by rw [h])
theorem neq_f {a b : Nat} (h : a ≠ b) (ha : a < 2 ^ 31) (hb : b < 2 ^ 31) : (nI a = nI b) = False := eq_false (fun q => h ((nI_eq ha hb).mp q))
theorem ig_t {α : Type} {a n : Nat} {o : Option α} (h : a < n) (hn : n < 2 ^ 31) : gd (inb (nI a) n) o = o := by
  have h1 : inb (nI a) n = true := by
    have h2 : ¬ nI a < 0 := nI_pos (by omega)
    simp [inb, h2, nI_clamp (show a < 2 ^ 31 by omega), h]
  rw [h1]; rfl
theorem gd_t {α : Type} {o : Option α} : gd true o = o := rfl
theorem gd_d {α : Type} {p : Prop} [Decidable p] {o : Option α} (h : p) : gd (decide p) o = o := by simp [gd, h]
theorem bP_s {α β : Type} {v : α} {f : α → Option β} : bP (some v) f = f v := rfl
theorem bW_s {α β : Type} {v : α} {μ : Mem} {f : α → Mem → Option β} : bW (some (v, μ)) f = f v μ := rfl
theorem bB_o {α β : Type} {v : α} {μ : Mem} {e : Nat → Mem → Option β} {f : α → Mem → Option β} : bB (some (.ok v, μ)) e f = f v μ := rfl
theorem bB_e {α β : Type} {k : Nat} {μ : Mem} {e : Nat → Mem → Option β} {f : α → Mem → Option β} : bB (some (.error k, μ)) e f = e k μ := rfl
theorem bT_o {α β : Type} {v : α} {e : Nat → Option β} {f : α → Option β} : bT (some (.ok v)) e f = f v := rfl
theorem bT_e {α β : Type} {k : Nat} {e : Nat → Option β} {f : α → Option β} : bT (some (.error k)) e f = e k := rfl
theorem stf_e {μ : Mem} {k i : Nat} {f : Nat → Int32} : stf μ k i f k i = f := by simp [stf]
theorem stf_k {μ : Mem} {k i k' i' : Nat} {f : Nat → Int32} (h : k' ≠ k) : stf μ k i f k' i' = μ k' i' := by simp [stf, h]
theorem stf_i {μ : Mem} {k i k' i' : Nat} {f : Nat → Int32} (h : i' ≠ i) : stf μ k i f k' i' = μ k' i' := by simp [stf, h]
theorem sto_e {μ : Mem} {k i j : Nat} {v : Int32} : sto μ k i j v k i j = v := by simp [sto, stf, upd]
theorem sto_k {μ : Mem} {k i j k' i' : Nat} {v : Int32} (h : k' ≠ k) : sto μ k i j v k' i' = μ k' i' := stf_k h
theorem sto_i {μ : Mem} {k i j k' i' : Nat} {v : Int32} (h : i' ≠ i) : sto μ k i j v k' i' = μ k' i' := stf_i h
theorem sto_j {μ : Mem} {k i j j' : Nat} {v : Int32} (h : j' ≠ j) : sto μ k i j v k i j' = μ k i j' := by simp [sto, stf, upd, h]
/-- a counted loop of a method's function: what is to hold at its end holds -/
theorem lp {σ R : Type} (f : Nat → σ → Option R) (T : Option R → Prop) (N : Nat) (I : Nat → σ → Prop)
    (hend : ∀ n s, I N s → T (f (n + 1) s))
    (hstep : ∀ n i s, i < N → 0 < n → I i s → (∃ s', I (i + 1) s' ∧ f (n + 1) s = f n s') ∨ T (f (n + 1) s)) :
    ∀ m i n s, m + i = N → m < n → I i s → T (f n s) := by
  intro m
  induction m with
  | zero =>
    intro i n s h1 h2 h3
    obtain ⟨n', rfl⟩ : ∃ n', n = n' + 1 := ⟨n - 1, by omega⟩
    have : i = N := by omega
    subst this
    exact hend n' s h3
  | succ m ih =>
    intro i n s h1 h2 h3
    obtain ⟨n', rfl⟩ : ∃ n', n = n' + 1 := ⟨n - 1, by omega⟩
    rcases hstep n' i s (by omega) (by omega) h3 with ⟨s', h4, h5⟩ | h4
    · rw [h5]
      exact ih (i + 1) n' s' (by omega) (by omega) h4
    · exact h4
/-- from its start -/
theorem lp0 {σ R : Type} (f : Nat → σ → Option R) (T : Option R → Prop) (N : Nat) (I : Nat → σ → Prop) (s : σ) (n : Nat) (hN : N < n)
    (h0 : I 0 s)
    (hend : ∀ n s, I N s → T (f (n + 1) s))
    (hstep : ∀ n i s, i < N → 0 < n → I i s → (∃ s', I (i + 1) s' ∧ f (n + 1) s = f n s') ∨ T (f (n + 1) s)) : T (f n s) :=
  lp f T N I hend hstep N 0 n s (by omega) hN h0
/-! arrays: rank, lengths, elements -/
abbrev Arr : Type := Nat × (Nat → Nat) × (Nat → Int32)
def pr (L : Nat → Nat) : Nat → Nat
  | 0 => 1
  | n + 1 => pr L n * L n
def sz (A : Arr) : Nat := pr A.2.1 A.1
def WA (A : Arr) : Prop := A.1 ≤ 3 ∧ (∀ k, k < A.1 → A.2.1 k ≤ 48) ∧ sz A ≤ 48
def GA (μ : Mem) (g : Nat) (A : Arr) : Prop := μ 20 g 2 = nI A.1 ∧ μ 20 g 3 = nI (sz A) ∧ (∀ k, k < A.1 → μ 21 g k = nI (A.2.1 k)) ∧ ∀ k, k < sz A → μ 22 g k = A.2.2 k
def SA (μ : Mem) (s : Nat) (A : Arr) : Prop := μ 32 0 s = nI A.1 ∧ (∀ k, k < A.1 → μ 33 0 (3 * s + k) = nI (A.2.1 k)) ∧ ∀ k, k < sz A → μ 34 0 (48 * s + k) = A.2.2 k
theorem pr_congr {L L' : Nat → Nat} : ∀ {n : Nat}, (∀ k, k < n → L k = L' k) → pr L n = pr L' n := by
  intro n
  induction n with
  | zero => intro _; rfl
  | succ n ih => intro h; simp only [pr]; rw [ih (fun k hk => h k (by omega)), h n (by omega)]
/-! the first fault, element by element -/
def vl (x : Except Nat Int32) : Int32 := match x with
  | .ok v => v
  | .error _ => 0
def fe (F : Nat → Except Nat Int32) : Nat → Option Nat
  | 0 => none
  | n + 1 => match fe F n with
    | some e => some e
    | none => match F n with
      | .error e => some e
      | .ok _ => none
theorem fe_ok {F : Nat → Except Nat Int32} : ∀ {n : Nat}, (∀ j, j < n → ∃ v, F j = .ok v) → fe F n = none := by
  intro n
  induction n with
  | zero => intro _; rfl
  | succ n ih =>
    intro h
    obtain ⟨v, hv⟩ := h n (by omega)
    simp only [fe]
    rw [ih (fun j hj => h j (by omega)), hv]
theorem fe_at {F : Nat → Except Nat Int32} {i e : Nat} (h : ∀ j, j < i → ∃ v, F j = .ok v) (he : F i = .error e) : ∀ {n : Nat}, i < n → fe F n = some e := by
  intro n
  induction n with
  | zero => intro h; omega
  | succ n ih =>
    intro hn
    simp only [fe]
    by_cases hi : i = n
    · subst hi
      rw [fe_ok h, he]
    · rw [ih (by omega)]
theorem fe_cases (F : Nat → Except Nat Int32) (n : Nat) : (fe F n = none ∧ ∀ j, j < n → F j = .ok (vl (F j))) ∨ ∃ i e, i < n ∧ fe F n = some e ∧ F i = .error e ∧ ∀ j, j < i → F j = .ok (vl (F j)) := by
  induction n with
  | zero => exact Or.inl ⟨rfl, fun j hj => by omega⟩
  | succ n ih =>
    rcases ih with ⟨h1, h2⟩ | ⟨i, e, h1, h2, h3, h4⟩
    · cases hF : F n with
      | error e => exact Or.inr ⟨n, e, by omega, by simp [fe, h1, hF], hF, h2⟩
      | ok v =>
        refine Or.inl ⟨by simp [fe, h1, hF], fun j hj => ?_⟩
        by_cases hj2 : j = n
        · subst hj2; rw [hF]; rfl
        · exact h2 j (by omega)
    · exact Or.inr ⟨i, e, by omega, by simp [fe, h2], h3, h4⟩
theorem fe_congr {F G : Nat → Except Nat Int32} : ∀ {n : Nat}, (∀ j, j < n → F j = G j) → fe F n = fe G n := by
  intro n
  induction n with
  | zero => intro _; rfl
  | succ n ih => intro h; simp only [fe]; rw [ih (fun k hk => h k (by omega)), h n (by omega)]
/-- are the lengths and their number not too great -/
abbrev okS (r : Nat) (L : Nat → Nat) : Prop := (∀ k, k < r → L k ≤ 48) ∧ pr L r ≤ 48
/-- an array by its elements, or the fault -/
def mkA (r : Nat) (L : Nat → Nat) (F : Nat → Except Nat Int32) : Except Nat Arr := match fe F (pr L r) with
  | some e => .error e
  | none => .ok (r, L, fun j => vl (F j))
def mk (r : Nat) (L : Nat → Nat) (F : Nat → Except Nat Int32) : Except Nat Arr := if okS r L then mkA r L F else .error 1
/-! the class's side: what a function that fills Grid o does -/
def Fg (o : Nat) (μ μ' : Mem) : Prop := ∀ k i, k ≠ 17 ∧ (k < 20 ∨ 22 < k ∨ i ≠ o) → μ' k i = μ k i
def CT (o : Nat) (μ : Mem) (S : Except Nat Arr) (x : Option (Except Nat Unit × Mem)) : Prop :=
  ∃ r μ', x = some (r, μ') ∧ Fg o μ μ' ∧ match S with
    | .ok A => r = .ok () ∧ GA μ' o A
    | .error e => r = .error e
/-- cells up to k are done -/
def CI (o : Nat) (μ0 : Mem) (F : Nat → Except Nat Int32) (k : Nat) (μ : Mem) : Prop := (∀ k i, k ≠ 17 ∧ (k ≠ 22 ∨ i ≠ o) → μ k i = μ0 k i) ∧ ∀ j, j < k → F j = .ok (μ 22 o j)
theorem CI_0 {o : Nat} {μ : Mem} {F : Nat → Except Nat Int32} : CI o μ F 0 μ := ⟨fun _ _ _ => rfl, fun j hj => by omega⟩
theorem CI_s {o : Nat} {μ0 μ : Mem} {F : Nat → Except Nat Int32} {k : Nat} {v : Int32} (h : CI o μ0 F k μ) (hv : F k = .ok v) : CI o μ0 F (k + 1) (sto μ 22 o k v) := by
  refine ⟨fun q i hq => ?_, fun j hj => ?_⟩
  · by_cases h1 : q = 22
    · rw [sto_i (by omega)]; exact h.1 q i hq
    · rw [sto_k h1]; exact h.1 q i hq
  · by_cases h1 : j = k
    · subst h1; rw [sto_e]; exact hv
    · rw [sto_j h1]; exact h.2 j (by omega)
theorem Fg.trans {o : Nat} {μ μ1 μ2 : Mem} (h : Fg o μ μ1) (h' : Fg o μ1 μ2) : Fg o μ μ2 := fun k i hk => (h' k i hk).trans (h k i hk)
theorem Fg.refl {o : Nat} {μ : Mem} : Fg o μ μ := fun _ _ _ => rfl
theorem CI.fg {o : Nat} {μ0 μ : Mem} {F : Nat → Except Nat Int32} {k : Nat} (h : CI o μ0 F k μ) : Fg o μ0 μ := fun q i hq => h.1 q i (by omega)
/-- the out Grid has its shape -/
def GS (μ : Mem) (o r : Nat) (L : Nat → Nat) : Prop := μ 20 o 2 = nI r ∧ μ 20 o 3 = nI (pr L r) ∧ ∀ k, k < r → μ 21 o k = nI (L k)
theorem CT_end {o r : Nat} {μ μ0 μ1 : Mem} {L : Nat → Nat} {F : Nat → Except Nat Int32} (hf : Fg o μ μ0) (hs : GS μ0 o r L) (h : CI o μ0 F (pr L r) μ1) : CT o μ (mkA r L F) (some (.ok (), μ1)) := by
  refine ⟨.ok (), μ1, rfl, hf.trans h.fg, ?_⟩
  have h1 : fe F (pr L r) = none := fe_ok (fun j hj => ⟨_, h.2 j hj⟩)
  simp only [mkA, h1]
  refine ⟨trivial, ?_, ?_, fun k hk => ?_, fun k hk => ?_⟩
  · rw [h.1 20 o (by omega)]; exact hs.1
  · rw [h.1 20 o (by omega)]; exact hs.2.1
  · rw [h.1 21 o (by omega)]; exact hs.2.2 k hk
  · show _ = vl (F k)
    rw [h.2 k hk]; rfl
theorem CT_err {o r k e : Nat} {μ μ0 μ1 : Mem} {L : Nat → Nat} {F : Nat → Except Nat Int32} (hf : Fg o μ μ0) (h : CI o μ0 F k μ1) (hk : k < pr L r) (he : F k = .error e) : CT o μ (mkA r L F) (some (.error e, μ1)) := by
  refine ⟨.error e, μ1, rfl, hf.trans h.fg, ?_⟩
  have h1 : fe F (pr L r) = some e := fe_at (fun j hj => ⟨_, h.2 j hj⟩) he hk
  simp only [mkA, h1]
