/-! ===== the class's functions ===== -/
theorem eachOfOne_C {f o g : Nat} {μ : Mem} {A : Arr} {c : Int32} (hw : ∀ a ν, f_X3_workAlone c a ν = some (one f a)) (hg : g ≠ o) (hA : GA μ g A) (hW : WA A) : CT o μ (s_one f A) (f_X3_eachOfOne c g o μ) := by
  obtain ⟨μ1, h1, h2, h3⟩ := shapeLike_eq hg hA hW
  have hA1 := h2.ga hg hA
  have hs : pr A.2.1 A.1 ≤ 48 := hW.2.2
  unfold f_X3_eachOfOne
  rw [h1, bB_o]
  refine Cloop' (fun n (s : Int32) ν => f_X3_eachOfOne_L7 (fun μ => some (.ok (), μ)) c g o n s ν) nI h2.fg h3 hs ?_ ?_
  · intro n ν h4
    simp only [f_X3_eachOfOne_L7, h4, nle_t (Nat.le_refl _) (show pr A.2.1 A.1 < 2 ^ 31 by omega), if_true]
  · intro n k ν hk h4 h5
    have h6 := (h5.ga hg hA1).2.2.2 k hk
    simp only [f_X3_eachOfOne_L7, h4, nle_f hk (show pr A.2.1 A.1 < 2 ^ 31 by omega), if_false, ig_t (show k < 48 by omega) (by omega), nI_clamp (show k < 2 ^ 31 by omega), h6, hw, lt, ← nI_succ]
    cases one f (A.2.2 k) <;> rfl
