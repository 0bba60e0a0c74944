/-! ===== faults are 1 .. 6 ===== -/
def eok (e : Nat) : Prop := 1 ≤ e ∧ e ≤ 6
theorem mkA_e {r : Nat} {L : Nat → Nat} {F : Nat → Except Nat Int32} {e : Nat} (hF : ∀ k e, F k = .error e → e = 1 ∨ e = 2) (h : mkA r L F = .error e) : eok e := by
  unfold mkA at h
  rcases fe_cases F (pr L r) with ⟨h1, _⟩ | ⟨i, e', _, h1, h2, _⟩
  · rw [h1] at h; cases h
  · rw [h1] at h; cases h
    have := hF i _ h2
    unfold eok; omega
theorem mk_e {r : Nat} {L : Nat → Nat} {F : Nat → Except Nat Int32} {e : Nat} (hF : ∀ k e, F k = .error e → e = 1 ∨ e = 2) (h : mk r L F = .error e) : eok e := by
  unfold mk at h
  split at h
  · exact mkA_e hF h
  · cases h; unfold eok; omega
theorem inE_e {f g : Nat} {A B : Arr} {w m k e : Nat} (h : inE f g A B w m k = .error e) : e = 1 ∨ e = 2 := by
  unfold inE at h
  rcases fe_cases (fun j => num g (A.2.2 (k / m * w + j)) (B.2.2 (j * m + k % m))) w with ⟨h1, _⟩ | ⟨i, e', _, h1, h2, _⟩
  · rw [h1] at h; exact fo_err h
  · rw [h1] at h; cases h; exact num_err h2
theorem no_e {E : Nat → Int32} : ∀ (k e : Nat), (Except.ok (E k) : Except Nat Int32) = .error e → e = 1 ∨ e = 2 := fun k e h => by cases h
theorem sp1_e {f : Nat} {A : Arr} {e : Nat} (h : sp1 f A = .error e) : eok e := by
  unfold sp1 at h
  split at h
  · exact mk_e (fun k e q => fo_err q) h
  split at h
  · exact mkA_e (fun k e q => fo_err q) h
  split at h
  · exact mkA_e (fun k e q => one_err q) h
  split at h
  · unfold s_up at h
    split at h
    · cases h; unfold eok; omega
    · split at h
      · split at h
        · cases h; unfold eok; omega
        · exact mk_e no_e h
      · cases h; unfold eok; omega
  split at h
  · exact mkA_e no_e h
  split at h
  · exact mkA_e no_e h
  split at h
  · exact mkA_e no_e h
  · exact mkA_e no_e h
theorem sp2_e {f : Nat} {A B : Arr} {e : Nat} (h : sp2 f A B = .error e) : eok e := by
  have he : s_each0 f A B = .error e → eok e := fun h => mkA_e (fun k e q => num_err q) h
  have hj : s_join0 A B = .error e → eok e := fun h => mk_e no_e h
  unfold sp2 at h
  split at h
  · unfold s_each at h
    split at h
    · exact he h
    · split at h
      · split at h
        · exact he h
        · cases h; unfold eok; omega
      · cases h; unfold eok; omega
  split at h
  · unfold s_outer at h
    split at h
    · exact mk_e (fun k e q => num_err q) h
    · cases h; unfold eok; omega
  split at h
  · unfold s_resh at h
    split at h
    · cases h; unfold eok; omega
    · split at h
      · split at h
        · split at h
          · cases h; unfold eok; omega
          · exact mkA_e no_e h
        · cases h; unfold eok; omega
      · cases h; unfold eok; omega
  split at h
  · unfold s_join at h
    split at h
    · exact hj h
    · split at h
      · cases h; unfold eok; omega
      · split at h
        · exact hj h
        · cases h; unfold eok; omega
  split at h
  · unfold s_pick at h
    split at h
    · cases h; unfold eok; omega
    · split at h
      · split at h
        · exact mkA_e no_e h
        · cases h; unfold eok; omega
      · cases h; unfold eok; omega
  · unfold s_inner at h
    split at h
    · cases h; unfold eok; omega
    · split at h
      · exact mk_e (fun k e q => inE_e q) h
      · cases h; unfold eok; omega
/-! ===== items ===== -/
/-- kind, code, how many: as the reference has them -/
abbrev Itm : Type := Nat × Nat × Nat
def CIt (μ : Mem) (k : Nat) (i : Itm) : Prop := match i.1 with
  | 0 => μ 4 0 k = 0 ∧ μ 5 0 k = nI i.2.1 ∧ μ 6 0 k = nI i.2.2
  | 1 => μ 4 0 k = 1 ∧ μ 5 0 k = nI i.2.1
  | 2 => μ 4 0 k = 2
  | 3 => μ 4 0 k = 3
  | 4 => μ 4 0 k = 5 ∧ μ 7 0 k = nI (sn2 i.2.1) ∧ μ 8 0 k = nI (fn2 i.2.1) ∧ (100 ≤ i.2.1 → μ 9 0 k = nI (gn2 i.2.1))
  | _ => μ 4 0 k = 4 ∧ μ 7 0 k = nI (sn1 i.2.1) ∧ μ 8 0 k = nI (fn1 i.2.1)
def MIt (μ : Mem) (k : Nat) (i : Itm) : Prop := μ 35 0 k = nI i.1 ∧ μ 36 0 k = nI i.2.1 ∧ (i.1 = 0 → μ 37 0 k = nI i.2.2)
/-- an item is right, where nc numbers stand -/
def okI (nc : Nat) (i : Itm) : Prop := match i.1 with
  | 0 => 1 ≤ i.2.2 ∧ i.2.1 + i.2.2 ≤ nc
  | 1 => i.2.1 < 8
  | 2 => True
  | 3 => True
  | 4 => ok2 i.2.1
  | 5 => i.2.1 < 28
  | _ => False
/-- the items of a statement: their order (w: a term is wanted, d: depth, both before the item) -/
def okG (i : Itm) (w w' : Bool) (d d' : Nat) : Prop := match i.1 with
  | 0 => w = true ∧ w' = false ∧ d' = d
  | 1 => w = true ∧ w' = false ∧ d' = d
  | 2 => w = true ∧ w' = true ∧ d' = d + 1
  | 3 => w = false ∧ w' = false ∧ d = d' + 1
  | 4 => w = false ∧ w' = true ∧ d' = d
  | _ => w = true ∧ w' = true ∧ d' = d
/-- frames of an evaluation -/
def FE (μ μ' : Mem) : Prop := ∀ k i, k ≠ 14 ∧ k ≠ 15 ∧ k ≠ 16 ∧ k ≠ 17 ∧ (k < 20 ∨ 22 < k ∨ i < 8 ∨ 17 ≤ i) → μ' k i = μ k i
def FEm (μ μ' : Mem) : Prop := ∀ k i j, k ≠ 40 ∧ k ≠ 41 ∧ k ≠ 42 ∧ (k ≠ 30 ∨ (j ≠ 16 ∧ j ≠ 18)) ∧ (k ≠ 32 ∨ (9 ≤ j ∧ j < 18) ∨ 20 ≤ j) ∧ (k ≠ 33 ∨ (27 ≤ j ∧ j < 54) ∨ 60 ≤ j) ∧ (k ≠ 34 ∨ (432 ≤ j ∧ j < 864) ∨ 960 ≤ j) → μ' k i j = μ k i j
theorem FE.trans {μ μ1 μ2 : Mem} (h : FE μ μ1) (h' : FE μ1 μ2) : FE μ μ2 := fun k i hk => (h' k i hk).trans (h k i hk)
theorem FEm.trans {μ μ1 μ2 : Mem} (h : FEm μ μ1) (h' : FEm μ1 μ2) : FEm μ μ2 := fun k i j hk => (h' k i j hk).trans (h k i j hk)
theorem FE.refl {μ : Mem} : FE μ μ := fun _ _ _ => rfl
theorem FEm.refl {μ : Mem} : FEm μ μ := fun _ _ _ _ => rfl
theorem Fm.fe {μ μ' : Mem} (h : Fm μ μ') : FEm μ μ' := fun k i j hk => h k i j (by omega)
theorem Fc.fe {b : Nat} {μ μ' : Mem} (h : Fc b μ μ') (hb : b < 9 ∨ b = 18 ∨ b = 19) : FEm μ μ' := fun k i j hk => h k i j (by omega)
/-- the names, on both sides -/
def NR (μC μM : Mem) : Prop := ∀ a, a < 8 → (μC 13 0 a = 0 ∧ μM 32 0 (9 + a) = -1) ∨ (μC 13 0 a = 1 ∧ ∃ A, WA A ∧ GA μC a A ∧ SA μM (9 + a) A)
theorem FE.ga {μ μ' : Mem} {g : Nat} {A : Arr} (h : FE μ μ') (hg : g < 8 ∨ 17 ≤ g) (hA : GA μ g A) : GA μ' g A := by
  refine ⟨?_, ?_, fun k hk => ?_, fun k hk => ?_⟩
  · rw [h 20 g (by omega)]; exact hA.1
  · rw [h 20 g (by omega)]; exact hA.2.1
  · rw [h 21 g (by omega)]; exact hA.2.2.1 k hk
  · rw [h 22 g (by omega)]; exact hA.2.2.2 k hk
theorem FEm.sa {μ μ' : Mem} {s : Nat} {A : Arr} (h : FEm μ μ') (hs : 9 ≤ s ∧ s < 18) (hW : WA A) (hA : SA μ s A) : SA μ' s A := by
  have h1 := hW.1
  have h2 := hW.2.2
  refine ⟨?_, fun k hk => ?_, fun k hk => ?_⟩
  · rw [h 32 0 s (by omega)]; exact hA.1
  · rw [h 33 0 _ (by omega)]; exact hA.2.1 k hk
  · rw [h 34 0 _ (by omega)]; exact hA.2.2 k hk
theorem NR.keep {μC μM μC' μM' : Mem} (h : NR μC μM) (hC : FE μC μC') (hM : FEm μM μM') : NR μC' μM' := by
  intro a ha
  rcases h a ha with ⟨h1, h2⟩ | ⟨h1, A, h2, h3, h4⟩
  · left
    rw [hC 13 0 (by omega), hM 32 0 (9 + a) (by omega)]
    exact ⟨h1, h2⟩
  · right
    rw [hC 13 0 (by omega)]
    exact ⟨h1, A, h2, hC.ga (by omega) h3, hM.sa (by omega) h2 h4⟩
theorem CIt.keep {μ μ' : Mem} {k : Nat} {i : Itm} (h : FE μ μ') (hi : CIt μ k i) : CIt μ' k i := by
  have e4 := h 4 0 (by omega)
  have e5 := h 5 0 (by omega)
  have e6 := h 6 0 (by omega)
  have e7 := h 7 0 (by omega)
  have e8 := h 8 0 (by omega)
  have e9 := h 9 0 (by omega)
  unfold CIt at hi ⊢
  rw [e4, e5, e6, e7, e8, e9]
  exact hi
theorem MIt.keep {μ μ' : Mem} {k : Nat} {i : Itm} (h : FEm μ μ') (hi : MIt μ k i) : MIt μ' k i := by
  unfold MIt at hi ⊢
  rw [h 35 0 k (by omega), h 36 0 k (by omega), h 37 0 k (by omega)]
  exact hi
/-- how many below e -/
def cnt (v : Nat → Bool) : Nat → Nat
  | 0 => 0
  | n + 1 => cnt v n + (if v n = true then 1 else 0)
theorem cnt_le (v : Nat → Bool) : ∀ n, cnt v n ≤ n := by
  intro n
  induction n with
  | zero => exact Nat.le_refl _
  | succ n ih => simp only [cnt]; split <;> omega
theorem cnt_mono (v : Nat → Bool) {a b : Nat} (h : a ≤ b) : cnt v a ≤ cnt v b := by
  induction b with
  | zero => rw [show a = 0 by omega]; exact Nat.le_refl _
  | succ b ih =>
    by_cases c : a = b + 1
    · rw [c]; exact Nat.le_refl _
    · have := ih (by omega)
      simp only [cnt]; omega
theorem cnt_lt {v : Nat → Bool} {a b : Nat} (h : a < b) (hv : v a = true) : cnt v a < cnt v b := by
  have h1 : cnt v (a + 1) ≤ cnt v b := cnt_mono v h
  simp only [cnt, hv, if_true] at h1
  omega
theorem cnt_congr {v v' : Nat → Bool} : ∀ {n : Nat}, (∀ e, e < n → v e = v' e) → cnt v n = cnt v' n := by
  intro n
  induction n with
  | zero => intro _; rfl
  | succ n ih => intro h; simp only [cnt]; rw [ih (fun e he => h e (by omega)), h n (by omega)]
