/-! ===== lengths and their product ===== -/
theorem pr_le {L : Nat → Nat} {r : Nat} (hr : r ≤ 3) (h : ∀ k, k < r → L k ≤ 48) : pr L r ≤ 110592 := by
  have h4 {a b c d : Nat} (h1 : a ≤ c) (h2 : b ≤ d) : a * b ≤ c * d := Nat.mul_le_mul h1 h2
  rcases (show r = 0 ∨ r = 1 ∨ r = 2 ∨ r = 3 by omega) with rfl | rfl | rfl | rfl
  · simp [pr]
  · have := h 0 (by omega); simp only [pr]; omega
  · have := h4 (h 0 (by omega)) (h 1 (by omega)); simp only [pr, Nat.one_mul]; omega
  · have := h4 (h4 (h 0 (by omega)) (h 1 (by omega))) (h 2 (by omega)); simp only [pr, Nat.one_mul]; omega
/-- the length of a row -/
def wd (A : Arr) : Nat := if A.1 = 0 then 1 else A.2.1 (A.1 - 1)
/-- the number of rows -/
def rws (A : Arr) : Nat := pr A.2.1 (A.1 - 1)
theorem sz_rw (A : Arr) : sz A = rws A * wd A := by
  unfold sz rws wd
  cases h : A.1 with
  | zero => simp [pr]
  | succ n => simp [pr]
/-- the product of the lengths behind the first -/
def tl (L : Nat → Nat) : Nat → Nat := fun k => L (k + 1)
theorem pr_tl (L : Nat → Nat) : ∀ n, pr L (n + 1) = L 0 * pr (tl L) n := by
  intro n
  induction n with
  | zero => simp [pr]
  | succ n ih =>
    rw [show pr L (n + 1 + 1) = pr L (n + 1) * L (n + 1) from rfl, ih]
    simp only [pr, tl, Nat.mul_assoc]
def cat (a : Nat) (L M : Nat → Nat) : Nat → Nat := fun k => if k < a then L k else M (k - a)
theorem pr_cat (a : Nat) (L M : Nat → Nat) : ∀ b, pr (cat a L M) (a + b) = pr L a * pr M b := by
  intro b
  induction b with
  | zero =>
    simp only [pr, Nat.add_zero, Nat.mul_one]
    exact pr_congr (fun k hk => by simp [cat, hk])
  | succ b ih =>
    rw [show a + (b + 1) = (a + b) + 1 from rfl]
    simp only [pr]
    rw [ih, Nat.mul_assoc]
    simp only [cat]
    rw [if_neg (by omega), Nat.add_sub_cancel_left]
theorem WA_wd {A : Arr} (h : WA A) : wd A ≤ 48 := by
  unfold wd
  split
  · omega
  · exact h.2.1 _ (by omega)
/-! ===== the class's Grids ===== -/
def Fs (o : Nat) (μ μ' : Mem) : Prop := ∀ k i, (k ≠ 20 ∧ k ≠ 21) ∨ i ≠ o → μ' k i = μ k i
theorem Fs.fg {o : Nat} {μ μ' : Mem} (h : Fs o μ μ') : Fg o μ μ' := fun k i hk => h k i (by omega)
theorem Fs.trans {o : Nat} {μ μ1 μ2 : Mem} (h : Fs o μ μ1) (h' : Fs o μ1 μ2) : Fs o μ μ2 := fun k i hk => (h' k i hk).trans (h k i hk)
theorem Fs.refl {o : Nat} {μ : Mem} : Fs o μ μ := fun _ _ _ => rfl
theorem Fs.ga {o g : Nat} {μ μ' : Mem} {A : Arr} (h : Fs o μ μ') (hg : g ≠ o) (hA : GA μ g A) : GA μ' g A := by
  refine ⟨?_, ?_, fun k hk => ?_, fun k hk => ?_⟩
  · rw [h 20 g (Or.inr hg)]; exact hA.1
  · rw [h 20 g (Or.inr hg)]; exact hA.2.1
  · rw [h 21 g (Or.inr hg)]; exact hA.2.2.1 k hk
  · rw [h 22 g (Or.inr hg)]; exact hA.2.2.2 k hk
theorem Fg.ga {o g : Nat} {μ μ' : Mem} {A : Arr} (h : Fg o μ μ') (hg : g ≠ o) (hA : GA μ g A) : GA μ' g A := by
  refine ⟨?_, ?_, fun k hk => ?_, fun k hk => ?_⟩
  · rw [h 20 g (by omega)]; exact hA.1
  · rw [h 20 g (by omega)]; exact hA.2.1
  · rw [h 21 g (by omega)]; exact hA.2.2.1 k hk
  · rw [h 22 g (by omega)]; exact hA.2.2.2 k hk
theorem restart_eq (o : Nat) (μ : Mem) (L : Nat → Nat) : ∃ μ', f_X1_restart o μ = some ((), μ') ∧ Fs o μ μ' ∧ GS μ' o 0 L := by
  refine ⟨_, rfl, fun k i hk => ?_, ?_, ?_, fun k hk => by omega⟩
  · by_cases h : k = 20
    · rw [sto_i (by omega), sto_i (by omega)]
    · rw [sto_k h, sto_k h]
  · rw [sto_j (by omega), sto_e]; rfl
  · rw [sto_e]; rfl
theorem addAxis_ok {o r x : Nat} {μ : Mem} {L : Nat → Nat} (h : GS μ o r L) (hr : r < 3) (hx : L r = x) (h48 : x ≤ 48) : ∃ μ', f_X1_addAxis o (nI x) μ = some (.ok (), μ') ∧ Fs o μ μ' ∧ GS μ' o (r + 1) L := by
  subst hx
  have h2 : (nI (L r) ≤ (48 : Int32)) = True := by rw [il48]; exact nle_t h48 (by omega)
  have h3 : ∀ {α : Type} {q : Option α}, gd (inb (μ 20 o 2) 3) q = q := by rw [h.1]; intro α q; exact ig_t hr (by omega)
  unfold f_X1_addAxis
  rw [if_pos (of_eq_true h2), h3]
  refine ⟨_, rfl, fun k i hk => ?_, ?_, ?_, fun k hk => ?_⟩
  · by_cases h1 : k = 20
    · rw [sto_i (by omega), sto_i (by omega), sto_k (by omega)]
    · rw [sto_k h1, sto_k h1]
      by_cases h4 : k = 21
      · rw [sto_i (by omega)]
      · rw [sto_k h4]
  · rw [sto_j (by omega), sto_e, sto_k (by omega), h.1]; rw [nI_succ]
  · rw [sto_e, sto_j (by omega), sto_k (by omega), h.2.1, pk_mul]; rfl
  · rw [sto_k (by omega), sto_k (by omega), h.1, nI_clamp (by omega)]
    by_cases h1 : k = r
    · subst h1; rw [sto_e]
    · rw [sto_j h1]; exact h.2.2 k (by omega)
theorem addAxis_err {o : Nat} {x : Int32} {μ : Mem} (h : ¬ x ≤ 48) : f_X1_addAxis o x μ = some (.error 1, μ) := by
  unfold f_X1_addAxis
  rw [if_neg h]
theorem addAxesOf_eq {o g a b r : Nat} {μ : Mem} {L : Nat → Nat} (hg : g ≠ o) (h : GS μ o r L) (hab : a ≤ b) (hb : b ≤ 3) (hr : r + (b - a) ≤ 3)
    (hL : ∀ j, a ≤ j → j < b → μ 21 g j = nI (L (r + (j - a))) ∧ L (r + (j - a)) ≤ 48) :
    ∃ μ', f_X1_addAxesOf o g (nI a) (nI b) μ = some (.ok (), μ') ∧ Fs o μ μ' ∧ GS μ' o (r + (b - a)) L := by
  unfold f_X1_addAxesOf
  refine lp0 (fun n (s : Int32 × Mem) => f_X1_addAxesOf_L3 (fun μ => some (.ok (), μ)) o g (nI b) n s.1 s.2)
    (fun x => ∃ μ', x = some (.ok (), μ') ∧ Fs o μ μ' ∧ GS μ' o (r + (b - a)) L) (b - a)
    (fun i s => s.1 = nI (a + i) ∧ Fs o μ s.2 ∧ GS s.2 o (r + i) L) (nI a, μ) 1000 (by omega) ⟨rfl, Fs.refl, h⟩ ?_ ?_
  · rintro n ⟨x, ν⟩ ⟨h1, h2, h3⟩
    dsimp only at h1 h2 h3 ⊢
    subst h1
    refine ⟨ν, ?_, h2, h3⟩
    simp only [f_X1_addAxesOf_L3, nle_t (show b ≤ a + (b - a) by omega) (show a + (b - a) < 2 ^ 31 by omega), if_true]
  · rintro n i ⟨x, ν⟩ hi hn ⟨h1, h2, h3⟩
    dsimp only at h1 h2 h3 ⊢
    subst h1
    left
    have h4 := hL (a + i) (by omega) (by omega)
    rw [show r + (a + i - a) = r + i by omega] at h4
    have h5 : ν 21 g (a + i) = nI (L (r + i)) := by rw [h2 21 g (Or.inr hg)]; exact h4.1
    obtain ⟨ν', h6, h7, h8⟩ := addAxis_ok h3 (by omega) rfl h4.2
    refine ⟨(nI (a + i) + 1, ν'), ⟨?_, h2.trans h7, h8⟩, ?_⟩
    · show nI (a + i) + 1 = _
      rw [← Nat.add_assoc, nI_succ]
    · simp only [f_X1_addAxesOf_L3, nle_f (show a + i < b by omega) (show b < 2 ^ 31 by omega), if_false, ig_t (show a + i < 3 by omega) (by omega), nI_clamp (show a + i < 2 ^ 31 by omega), h5, h6, bB_o, lt]
theorem addAxesOf_0 {o g : Nat} {μ : Mem} {a b : Int32} (h : b ≤ a) : f_X1_addAxesOf o g a b μ = some (.ok (), μ) := by
  unfold f_X1_addAxesOf
  rw [f_X1_addAxesOf_L3]
  rw [if_pos h]
theorem endAxes_eq {o r : Nat} {μ : Mem} {L : Nat → Nat} (h : GS μ o r L) (hb : pr L r < 2 ^ 31) : f_X1_endAxes o μ = some (if pr L r ≤ 48 then .ok () else .error 1) := by
  unfold f_X1_endAxes
  rw [h.2.1, il48]
  by_cases c : pr L r ≤ 48
  · rw [if_pos c, if_pos (of_eq_true (nle_t c (by omega)))]
  · rw [if_neg c, if_neg (fun q => by have := (nI_leI hb (by omega)).mp q; omega)]
theorem shapeLike_eq {o g : Nat} {μ : Mem} {A : Arr} (hg : g ≠ o) (hA : GA μ g A) (hW : WA A) : ∃ μ', f_X1_shapeLike o g μ = some (.ok (), μ') ∧ Fs o μ μ' ∧ GS μ' o A.1 A.2.1 := by
  obtain ⟨μ1, h1, h2, h3⟩ := restart_eq o μ A.2.1
  have h4 := h2.ga hg hA
  obtain ⟨μ2, h5, h6, h7⟩ := addAxesOf_eq (a := 0) (b := A.1) hg h3 (Nat.zero_le _) hW.1 (by have := hW.1; omega) (fun j _ hj => by
    rw [Nat.zero_add, Nat.sub_zero]; exact ⟨h4.2.2.1 j hj, hW.2.1 j hj⟩)
  rw [Nat.zero_add, Nat.sub_zero] at h7
  refine ⟨μ2, ?_, h2.trans h6, h7⟩
  unfold f_X1_shapeLike
  rw [h1, bW_s, h4.1]
  rw [show (0 : Int32) = nI 0 from rfl, h5, bB_o]
theorem cpok_t {a b c n0 n1 : Nat} {α : Type} {o : Option α} (h1 : a + c ≤ n0) (h2 : b + c ≤ n1) (hn : n0 < 2 ^ 31) (hn1 : n1 < 2 ^ 31) : gd (cpok (nI a) (nI b) (nI c) n0 n1) o = o := by
  have h : cpok (nI a) (nI b) (nI c) n0 n1 = true := by
    simp only [cpok, nI_clamp (show a < 2 ^ 31 by omega), nI_clamp (show b < 2 ^ 31 by omega), nI_clamp (show c < 2 ^ 31 by omega), nI_pos (show a < 2 ^ 31 by omega), nI_pos (show b < 2 ^ 31 by omega), nI_pos (show c < 2 ^ 31 by omega), decide_eq_true h1, decide_eq_true h2]
    rfl
  rw [h]; rfl
theorem gcopy_eq {o g : Nat} {μ : Mem} {A : Arr} (hg : g ≠ o) (hA : GA μ g A) (hW : WA A) : ∃ μ', f_X1_copy o g μ = some (.ok (), μ') ∧ Fg o μ μ' ∧ GA μ' o A := by
  obtain ⟨μ1, h1, h2, h3⟩ := shapeLike_eq hg hA hW
  have h4 := h2.ga hg hA
  have hs := hW.2.2
  unfold f_X1_copy
  rw [h1, bB_o]
  have h5 : μ1 20 o 3 = nI (sz A) := h3.2.1
  rw [h5, show (0 : Int32) = nI 0 from rfl, cpok_t (by omega) (by omega) (by omega) (by omega), nI_clamp (by omega), nI_clamp (by omega)]
  refine ⟨_, rfl, fun k i hk => ?_, ?_, ?_, fun k hk => ?_, fun k hk => ?_⟩
  · by_cases h6 : k = 22
    · rw [stf_i (by omega)]; exact h2 k i (by omega)
    · rw [stf_k h6]; exact h2 k i (by omega)
  · rw [stf_k (by omega)]; exact h3.1
  · rw [stf_k (by omega)]; exact h3.2.1
  · rw [stf_k (by omega)]; exact h3.2.2 k hk
  · rw [stf_e, pk_cpy_in (by omega) (by omega)]
    rw [show 0 + (k - 0) = k by omega]
    exact h4.2.2.2 k hk
theorem isScalar_eq {g : Nat} {μ : Mem} {A : Arr} (hA : GA μ g A) (hW : WA A) : f_X1_isScalar g μ = some (if A.1 = 0 then 1 else 0) := by
  unfold f_X1_isScalar
  rw [hA.1]
  by_cases h : A.1 = 0
  · rw [if_pos h, h, if_pos nI_0]
  · rw [if_neg h, if_neg (nI_ne0 (by omega) (by have := hW.1; omega))]
theorem rowLength_eq {g : Nat} {μ : Mem} {A : Arr} (hA : GA μ g A) (hW : WA A) : f_X1_rowLength g μ = some (nI (wd A)) := by
  unfold f_X1_rowLength wd
  have := hW.1
  rw [hA.1]
  by_cases h : A.1 = 0
  · rw [if_pos h, h, if_pos nI_0]; rfl
  · rw [if_neg h, if_neg (nI_ne0 (by omega) (by omega))]
    rw [show (1 : Int32) = nI 1 from rfl, pk_sub (by omega), ig_t (by omega) (by omega), nI_clamp (by omega), hA.2.2.1 _ (by omega)]
theorem cellFor_eq {g k : Nat} {μ : Mem} {A : Arr} (hA : GA μ g A) (hW : WA A) (hk : k < sz A ∨ A.1 = 0) : f_X1_cellFor g (nI k) μ = some (A.2.2 (if A.1 = 0 then 0 else k)) := by
  unfold f_X1_cellFor
  have := hW.1
  have := hW.2.2
  rw [hA.1]
  by_cases h : A.1 = 0
  · rw [if_pos h, h, if_pos nI_0, show (0 : Int32) = nI 0 from rfl, ig_t (by omega) (by omega), nI_clamp (by omega), hA.2.2.2 0 (by simp [sz, h, pr])]
  · rw [if_neg h, if_neg (nI_ne0 (by omega) (by omega)), ig_t (by omega) (by omega), nI_clamp (by omega), hA.2.2.2 k (by omega)]
theorem span_eq {g r : Nat} {μ : Mem} {L : Nat → Nat} (hr : r ≤ 3) (h1 : 1 ≤ r) (hL : ∀ k, k < r → μ 21 g k = nI (L k)) : f_X1_span g 1 (nI r) μ = some (nI (pr (tl L) (r - 1))) := by
  unfold f_X1_span
  refine lp0 (fun n (s : Int32 × Int32) => f_X1_span_L5 (fun a => some a) g (nI r) μ n s.1 s.2)
    (fun x => x = some (nI (pr (tl L) (r - 1)))) (r - 1)
    (fun i s => s.1 = nI (pr (tl L) i) ∧ s.2 = nI (1 + i)) (1, 1) 1000 (by omega) ⟨rfl, rfl⟩ ?_ ?_
  · rintro n ⟨x, y⟩ ⟨h2, h3⟩
    dsimp only at h2 h3 ⊢
    subst h2 h3
    simp only [f_X1_span_L5, nle_t (show r ≤ 1 + (r - 1) by omega) (show 1 + (r - 1) < 2 ^ 31 by omega), if_true]
  · rintro n i ⟨x, y⟩ hi hn ⟨h2, h3⟩
    dsimp only at h2 h3 ⊢
    subst h2 h3
    left
    refine ⟨(nI (pr (tl L) (i + 1)), nI (1 + (i + 1))), ⟨rfl, rfl⟩, ?_⟩
    have h4 : μ 21 g (1 + i) = nI (tl L i) := by rw [Nat.add_comm]; exact hL (i + 1) (by omega)
    simp only [f_X1_span_L5, nle_f (show 1 + i < r by omega) (show r < 2 ^ 31 by omega), if_false, ig_t (show 1 + i < 3 by omega) (by omega), nI_clamp (show 1 + i < 2 ^ 31 by omega), h4, lt, pk_mul, pr]
    rw [← Nat.add_assoc, nI_succ (1 + i)]
