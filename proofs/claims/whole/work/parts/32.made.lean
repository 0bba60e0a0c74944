/-! ===== what the constructors have made, cell by cell ===== -/
theorem gI_obj {E : WE} {b : Nat} {cw : List va_E} {n : Nat} {e : va_E} (h : cw[n]? = some e) : (gI E b cw n)[n]? = some (.inr (3, [.ref (b + cw.length), .ref (b + (cw.length + 1)), .int 1, .int 0])) := by
  have := st_at (x := (.inr (3, [.ref (b + cw.length), .ref (b + ((cw ++ [zI E 3]).set n (.inr (3, [.ref (b + cw.length), .null, .int 0, .int 0]))).length), .int 1, .int 0]) : va_E)) (st_at (x := (.inr (3, [.ref (b + cw.length), .ref (b + ((cw ++ [zI E 3]).set n (.inr (3, [.ref (b + cw.length), .null, .int 0, .int 0]))).length), .int 0, .int 0]) : va_E)) (ap_at (x := zI E 48) (st_at (x := (.inr (3, [.ref (b + cw.length), .null, .int 0, .int 0]) : va_E)) (ap_at (x := zI E 3) h))))
  simp only [List.length_set, List.length_append, List.length_cons, List.length_nil] at this
  simpa [gI] using this
theorem gI_len0 {E : WE} {b : Nat} {cw : List va_E} {n : Nat} {e : va_E} (h : cw[n]? = some e) : (gI E b cw n)[cw.length]? = some (zI E 3) := by
  have hn : n ≠ cw.length := Ne.symm (ln_ne h)
  exact st_ne (st_ne (ap_at (st_ne (ap_new rfl) hn)) hn) hn
theorem gI_len1 {E : WE} {b : Nat} {cw : List va_E} {n : Nat} {e : va_E} (h : cw[n]? = some e) : (gI E b cw n)[cw.length + 1]? = some (zI E 48) := by
  have hl : n < cw.length := (List.getElem?_eq_some_iff.mp h).1
  have hn : n ≠ cw.length + 1 := by omega
  exact st_ne (st_ne (ap_new (by simp)) hn) hn
/-- the k Grids of a row, and the row -/
theorem rL_row {E : WE} {b : Nat} {base : List va_E} {a : Nat} : ∀ k, k ≤ 8 → ∀ i, i < k → (rL E b base a k).2 i = some (b + (base.length + 3 * i))
  | 0, _, i, hi => absurd hi (Nat.not_lt_zero i)
  | k + 1, hk, i, hi => by
    have hc : (nI k).toNatClampNeg = k := nI_clamp (by omega)
    show va_up (rL E b base a k).2 (nI k).toNatClampNeg (some (b + (rL E b base a k).1.length)) i = _
    rw [hc, rL_len]
    by_cases h : i = k
    · subst h; simp [va_up]
    · simp only [va_up, h, if_false]
      exact rL_row k (by omega) i (by omega)
theorem rL_cells {E : WE} {b : Nat} {base : List va_E} {a : Nat} (ha : a < base.length) : ∀ k i, i < k → (rL E b base a k).1[base.length + 3 * i]? = some (.inr (3, [.ref (b + (base.length + 3 * i + 1)), .ref (b + (base.length + 3 * i + 2)), .int 1, .int 0])) ∧ (rL E b base a k).1[base.length + 3 * i + 1]? = some (zI E 3) ∧ (rL E b base a k).1[base.length + 3 * i + 2]? = some (zI E 48)
  | 0, i, hi => absurd hi (Nat.not_lt_zero i)
  | k + 1, i, hi => by
    have hl := rL_len E b base a k
    have hg : ((rL E b base a k).1 ++ [bGrid])[(rL E b base a k).1.length]? = some bGrid := ap_new rfl
    by_cases h : i = k
    · subst h
      have h1 := gI_obj (E := E) (b := b) hg
      have h2 := gI_len0 (E := E) (b := b) hg
      have h3 := gI_len1 (E := E) (b := b) hg
      simp only [List.length_append, List.length_cons, List.length_nil] at h1 h2 h3
      rw [hl] at h1 h2 h3
      refine ⟨?_, ?_, ?_⟩
      · have := st_ne (n := a) (x := (.inl (E.2.2.1 3, 8, .inr (.inr (.inr (.inr (rL E b base a (i + 1)).2)))) : va_E)) h1 (by omega)
        simpa [rL, hl, Nat.add_assoc] using this
      · have := st_ne (n := a) (x := (.inl (E.2.2.1 3, 8, .inr (.inr (.inr (.inr (rL E b base a (i + 1)).2)))) : va_E)) h2 (by omega)
        simpa [rL, hl, Nat.add_assoc] using this
      · have := st_ne (n := a) (x := (.inl (E.2.2.1 3, 8, .inr (.inr (.inr (.inr (rL E b base a (i + 1)).2)))) : va_E)) h3 (by omega)
        simpa [rL, hl, Nat.add_assoc] using this
    · obtain ⟨h1, h2, h3⟩ := rL_cells (E := E) (b := b) ha k i (by omega)
      have hne : ∀ m, m < base.length + 3 * k → (rL E b base a k).1.length ≠ m := fun m hm => by rw [hl]; omega
      exact ⟨st_ne (gI_ne (ap_at h1) (hne _ (by omega))) (by omega), st_ne (gI_ne (ap_at h2) (hne _ (by omega))) (by omega), st_ne (gI_ne (ap_at h3) (hne _ (by omega))) (by omega)⟩
