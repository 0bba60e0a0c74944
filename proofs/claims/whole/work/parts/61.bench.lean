/-! ===== results are arrays as they should be ===== -/
theorem sp1_W {f : Nat} {A C : Arr} (hA : WA A) (h : sp1 f A = .ok C) : WA C := by
  have h1 := hA.1
  have h2 := hA.2.2
  unfold sp1 at h
  split at h
  · exact mk_W h (by omega)
  split at h
  · exact mkA_W h h1 (WA_ok hA)
  split at h
  · exact mkA_W h h1 (WA_ok hA)
  split at h
  · unfold s_up at h
    split at h
    · cases h
    · split at h
      · split at h
        · cases h
        · exact mk_W h (by omega)
      · cases h
  split at h
  · exact mkA_W h (by omega) ⟨fun k _ => by show A.1 ≤ 48; omega, by show 1 * A.1 ≤ 48; omega⟩
  split at h
  · exact mkA_W h (by omega) ⟨fun k _ => h2, by show 1 * sz A ≤ 48; omega⟩
  split at h
  · refine mkA_W h h1 ⟨fun k hk => hA.2.1 _ (by omega), ?_⟩
    rw [turn_pr hA]; exact h2
  · exact mkA_W h h1 (WA_ok hA)
theorem sp2_W {f : Nat} {A B C : Arr} (hA : WA A) (hB : WA B) (h : sp2 f A B = .ok C) : WA C := by
  have h1 := hA.1
  have h2 := hB.1
  have he : s_each0 f A B = .ok C → WA C := fun h => by
    unfold s_each0 at h
    by_cases c : A.1 = 0
    · simp only [if_pos c] at h; exact mkA_W h h2 (WA_ok hB)
    · simp only [if_neg c] at h; exact mkA_W h h1 (WA_ok hA)
  have hj : s_join0 A B = .ok C → WA C := fun h => mk_W h (jr_le hA hB).2.1
  unfold sp2 at h
  split at h
  · unfold s_each at h
    split at h
    · exact he h
    · split at h
      · split at h
        · exact he h
        · cases h
      · cases h
  split at h
  · unfold s_outer at h
    split at h
    · exact mk_W h (by omega)
    · cases h
  split at h
  · unfold s_resh at h
    split at h
    · cases h
    · split at h
      · split at h
        · rename_i c1 _ c3
          split at h
          · cases h
          · exact mkA_W h (by omega) c3
        · cases h
      · cases h
  split at h
  · unfold s_join at h
    split at h
    · exact hj h
    · split at h
      · cases h
      · split at h
        · exact hj h
        · cases h
  split at h
  · unfold s_pick at h
    split at h
    · cases h
    · split at h
      · rename_i c1 c2
        split at h
        · exact mkA_W h (by omega) c2
        · cases h
      · cases h
  · unfold s_inner at h
    split at h
    · cases h
    · split at h
      · exact mk_W h (by omega)
      · cases h
/-! ===== the class's String constants ===== -/
theorem ixL_mu {κ : Unit → Option Int32} {j : Nat} {c3 c4 : Int32} {μ μ' : Mem} : ∀ (n : Nat) (a : Int32), f_J1_indexOfChar_4cfef_L7 κ j c3 c4 μ n a = f_J1_indexOfChar_4cfef_L7 κ j c3 c4 μ' n a := by
  intro n
  induction n with
  | zero => intro a; rfl
  | succ n ih => intro a; simp only [f_J1_indexOfChar_4cfef_L7, lt, ih]
theorem ix_mu {j : Nat} {a : Int32} {μ μ' : Mem} : f_J0_indexOf_0f7a4 j a μ = f_J0_indexOf_0f7a4 j a μ' := by
  simp only [f_J0_indexOf_0f7a4, f_J0_indexOf_7cf53, f_J0_isLatin1_aae02, f_J0_length_8abf5, f_J0_coder_7d493, f_J1_indexOf_4cfef, f_J1_canEncode_9a6ad, f_J1_indexOfChar_4cfef, lt]
  simp only [ixL_mu (μ := μ) (μ' := μ')]
def kStr : List (List Nat) := [[43, 45, 42, 37, 124, 60, 62, 61, 38, 94], [105, 114, 44, 116, 118], [114, 44, 112], [45, 124, 42]]
theorem ix_dec : ∀ j, j < 4 → ∀ x, x < 256 → (match f_J0_indexOf_0f7a4 j (nI x) (fun _ _ _ => 0) with
    | some v => decide (v < 0) == !((kStr.getD j []).contains x)
    | none => false) = true := by decide +kernel
/-- is the code among the String's -/
theorem ix_eq {j x : Nat} (hj : j < 4) (hx : x < 256) (μ : Mem) : ∃ v, f_J0_indexOf_0f7a4 j (nI x) μ = some v ∧ (v < 0 ↔ ¬ (kStr.getD j []).contains x = true) := by
  have h := ix_dec j hj x hx
  rw [ix_mu (μ' := μ)] at h
  cases hq : f_J0_indexOf_0f7a4 j (nI x) μ with
  | none => rw [hq] at h; cases h
  | some v =>
    rw [hq] at h
    refine ⟨v, rfl, ?_⟩
    simp only [beq_iff_eq] at h
    cases hc : (kStr.getD j []).contains x with
    | true => rw [hc] at h; simpa using h
    | false => rw [hc] at h; simpa using h
