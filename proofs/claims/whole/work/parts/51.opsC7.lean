theorem jr_eq (a b : Nat) (ha : a ≤ 3) (hb : b ≤ 3) : (if (1 : Int32) < (if nI a < nI b then nI b else nI a) then (if nI a < nI b then nI b else nI a) else (1 : Int32)) = nI (if 1 < (if a < b then b else a) then (if a < b then b else a) else 1) := by
  rcases (show a = 0 ∨ a = 1 ∨ a = 2 ∨ a = 3 by omega) with rfl | rfl | rfl | rfl <;> rcases (show b = 0 ∨ b = 1 ∨ b = 2 ∨ b = 3 by omega) with rfl | rfl | rfl | rfl <;> decide
theorem jr_le {A B : Arr} (hA : WA A) (hB : WA B) : 1 ≤ jr A B ∧ jr A B ≤ 3 ∧ A.1 ≤ jr A B ∧ B.1 ≤ jr A B ∧ (A.1 = jr A B ∨ B.1 = jr A B ∨ jr A B = 1) := by
  have h1 := hA.1
  have h2 := hB.1
  unfold jr
  split <;> split <;> omega
theorem needJoinable_eq {g1 g2 r : Nat} {μ : Mem} {A B : Arr} (hA : GA μ g1 A) (hWA : WA A) (hB : GA μ g2 B) (hWB : WA B) (hr1 : 1 ≤ r) (hr3 : r ≤ 3) (hrA : A.1 ≤ r) (hrB : B.1 ≤ r) : f_X4_needJoinable g1 g2 (nI r) μ = some (if A.1 = 0 ∨ B.1 = 0 then .ok () else if A.1 + 1 < r ∨ B.1 + 1 < r then .error 4 else if ∀ k, k < r - 1 → A.2.1 k = B.2.1 k then .ok () else .error 3) := by
  have i0 : ¬ (1 : Int32) = 0 := by decide
  unfold f_X4_needJoinable
  by_cases c1 : A.1 = 0
  · rw [if_pos (Or.inl c1), isScalar_eq hA hWA, if_pos c1, bP_s, if_neg i0]
  rw [isScalar_eq hA hWA, if_neg c1, bP_s, if_pos rfl]
  by_cases c2 : B.1 = 0
  · rw [if_pos (Or.inr c2), isScalar_eq hB hWB, if_pos c2, bP_s, if_neg i0]
  rw [isScalar_eq hB hWB, if_neg c2, bP_s, if_pos rfl, if_neg (show ¬ (A.1 = 0 ∨ B.1 = 0) by omega)]
  simp only [hA.1, hB.1, il1, pk_sub hr1, nlt_iff (show A.1 < 2 ^ 31 by omega) (show r - 1 < 2 ^ 31 by omega), nle_iff (show r - 1 < 2 ^ 31 by omega) (show B.1 < 2 ^ 31 by omega)]
  by_cases c3 : A.1 < r - 1
  · rw [if_pos c3, if_pos (show A.1 + 1 < r ∨ B.1 + 1 < r by omega)]
  rw [if_neg c3]
  by_cases c4 : r - 1 ≤ B.1
  rotate_left
  · rw [if_neg c4, if_pos (show A.1 + 1 < r ∨ B.1 + 1 < r by omega)]
  rw [if_pos c4, if_neg (show ¬ (A.1 + 1 < r ∨ B.1 + 1 < r) by omega), il0]
  refine lp0 (fun n (s : Int32) => f_X4_needJoinable_L45 (fun _ => some (.ok ())) g1 g2 (nI r) μ n s) (fun x => x = some (if ∀ k, k < r - 1 → A.2.1 k = B.2.1 k then .ok () else .error 3)) (r - 1)
    (fun i s => s = nI i ∧ ∀ k, k < i → A.2.1 k = B.2.1 k) (nI 0) 1000 (by omega) ⟨rfl, fun k hk => by omega⟩ ?_ ?_
  · rintro n s ⟨rfl, h3⟩
    rw [if_pos h3]
    simp only [f_X4_needJoinable_L45, il1, pk_sub hr1, nle_t (Nat.le_refl _) (show r - 1 < 2 ^ 31 by omega), if_true]
  · rintro n i s hi hn ⟨rfl, h3⟩
    have e1 := hA.2.2.1 i (by omega)
    have e2 := hB.2.2.1 i (by omega)
    have b1 := hWA.2.1 i (by omega)
    have b2 := hWB.2.1 i (by omega)
    simp only [f_X4_needJoinable_L45, il1, pk_sub hr1, nle_f hi (show r - 1 < 2 ^ 31 by omega), if_false, ig_t (show i < 3 by omega) (show 3 < 2 ^ 31 by omega), nI_clamp (show i < 2 ^ 31 by omega), e1, e2, neq_iff (show A.2.1 i < 2 ^ 31 by omega) (show B.2.1 i < 2 ^ 31 by omega), lt, nI_add]
    by_cases c2 : A.2.1 i = B.2.1 i
    · left
      refine ⟨nI (i + 1), ⟨rfl, fun k hk => ?_⟩, by rw [if_pos c2]⟩
      by_cases hk2 : k = i
      · rw [hk2]; exact c2
      · exact h3 k (by omega)
    · right
      rw [if_neg c2, if_neg (fun q => c2 (q i hi))]
/-- the rows of a join -/
def jR (r : Nat) (A B : Arr) : Nat := pr (if A.1 = r then A else B).2.1 (r - 1)
theorem pr_jL {r : Nat} (hr : 1 ≤ r) (A B : Arr) : pr (jL r A B) r = jR r A B * (jw r A + jw r B) := by
  obtain ⟨q, rfl⟩ : ∃ q, r = q + 1 := ⟨r - 1, by omega⟩
  simp only [pr, jR, Nat.add_sub_cancel]
  congr 1
  · exact pr_congr (fun k hk => by simp only [jL]; rw [if_neg (by omega)])
  · simp [jL]
theorem jsz {A B : Arr} {r : Nat} (hr : 1 ≤ r) (hA : A.1 ≤ r) (hB : B.1 ≤ r) (hor : A.1 = r ∨ B.1 = r ∨ r = 1) (hc : A.1 = 0 ∨ B.1 = 0 ∨ (¬ (A.1 + 1 < r ∨ B.1 + 1 < r) ∧ ∀ k, k < r - 1 → A.2.1 k = B.2.1 k)) : (A.1 = 0 ∨ sz A = jR r A B * jw r A) ∧ (B.1 = 0 ∨ sz B = jR r A B * jw r B) := by
  have key : ∀ X : Arr, 1 ≤ X.1 → X.1 = r → sz X = pr X.2.1 (r - 1) * wd X := fun X h1 h2 => by
    rw [sz_rw, rws, h2]
  unfold jR jw
  constructor
  · by_cases c : A.1 = 0
    · exact Or.inl c
    · right
      by_cases c2 : A.1 = r
      · rw [if_pos c2, if_pos c2]; exact key A (by omega) c2
      · rw [if_neg c2, if_neg c2, Nat.mul_one]
        by_cases c3 : B.1 = 0
        · omega
        · have h2 : ¬ (A.1 + 1 < r ∨ B.1 + 1 < r) ∧ ∀ k, k < r - 1 → A.2.1 k = B.2.1 k := by
            rcases hc with h | h | h
            · exact absurd h c
            · exact absurd h c3
            · exact h
          have h3 : A.1 = r - 1 := by omega
          unfold sz
          rw [h3]
          exact pr_congr h2.2
  · by_cases c : B.1 = 0
    · exact Or.inl c
    · right
      by_cases c3 : A.1 = 0
      · have h3 : B.1 = r := by omega
        rw [if_neg (show ¬ A.1 = r by omega), if_pos h3]
        exact key B (by omega) h3
      · have h2 : ¬ (A.1 + 1 < r ∨ B.1 + 1 < r) ∧ ∀ k, k < r - 1 → A.2.1 k = B.2.1 k := by
          rcases hc with h | h | h
          · exact absurd h c3
          · exact absurd h c
          · exact h
        have h4 : pr (if A.1 = r then A else B).2.1 (r - 1) = pr B.2.1 (r - 1) := by
          by_cases c2 : A.1 = r
          · rw [if_pos c2]; exact pr_congr h2.2
          · rw [if_neg c2]
        rw [h4]
        by_cases c2 : B.1 = r
        · rw [if_pos c2]; exact key B (by omega) c2
        · rw [if_neg c2, Nat.mul_one]
          unfold sz
          rw [show B.1 = r - 1 by omega]
def jfl (u v k : Nat) : Nat := u * (k / (u + v)) + (if k % (u + v) < u then k % (u + v) else u)
def jfr (u v k : Nat) : Nat := v * (k / (u + v)) + (k % (u + v) - u)
theorem join_C {o g1 g2 : Nat} {μ : Mem} {A B : Arr} (hg1 : g1 ≠ o) (hg2 : g2 ≠ o) (h0 : G0 μ o) (hA : GA μ g1 A) (hWA : WA A) (hB : GA μ g2 B) (hWB : WA B) : CT o μ (s_join A B) (f_X4_join g1 g2 o μ) := by
  have h1 := hWA.1
  have h2 := hWB.1
  have h1s := hWA.2.2
  have h2s := hWB.2.2
  obtain ⟨r1, r3, rA, rB, ror⟩ := jr_le hWA hWB
  have e1 : ∀ (β : Type) (F : Int32 → β), lt ((if (1 : Int32) < (if (μ 20 g1 2) < (μ 20 g2 2) then (μ 20 g2 2) else (μ 20 g1 2)) then (if (μ 20 g1 2) < (μ 20 g2 2) then (μ 20 g2 2) else (μ 20 g1 2)) else (1 : Int32))) F = F (nI (jr A B)) := by
    intro β F
    rw [hA.1, hB.1, jr_eq _ _ h1 h2]; rfl
  unfold f_X4_join
  rw [e1]
  unfold s_join s_join0
  generalize hrr : jr A B = r at *
  simp only [jn, hA.1, hB.1, neq_iff (show A.1 < 2 ^ 31 by omega) (show r < 2 ^ 31 by omega), neq_iff (show B.1 < 2 ^ 31 by omega) (show r < 2 ^ 31 by omega), needJoinable_eq hA hWA hB hWB r1 r3 rA rB, rowLength_eq hA hWA, rowLength_eq hB hWB, bP_s]
  have main : ∀ g : Nat, (g ≠ o ∧ (A.1 = 0 ∨ B.1 = 0 ∨ (¬ (A.1 + 1 < r ∨ B.1 + 1 < r) ∧ ∀ k, k < r - 1 → A.2.1 k = B.2.1 k)) ∧ ∀ k, k < r - 1 → μ 21 g k = nI (jL r A B k) ∧ jL r A B k ≤ 48) → ∀ u v : Nat, u = jw r A → v = jw r B →
      CT o μ (mk r (jL r A B) (fun k => .ok (jE u v A B k))) (bB (f_X1_addAxesOf o g (0 : Int32) (nI r - (1 : Int32)) μ) (fun e_12 μ_11 => some (.error e_12, μ_11)) fun u_10 μ_11 =>
       bB (f_X1_addAxis o (nI u + nI v) μ_11) (fun e_15 μ_14 => some (.error e_15, μ_14)) fun u_13 μ_14 =>
       bT (f_X1_endAxes o μ_14) (fun e_17 => some (.error e_17, μ_14)) fun u_16 =>
       f_X4_join_L108 (fun (μ_42 : Mem) => some (.ok (), μ_42)) g1 g2 o (nI u) (nI v) 1000 (0 : Int32) (0 : Int32) (0 : Int32) (0 : Int32) μ_14) := by
    rintro g ⟨hg, hc, hL1⟩ u v hu hv
    have hu48 : u ≤ 48 := by rw [hu]; unfold jw; split; exact WA_wd hWA; omega
    have hv48 : v ≤ 48 := by rw [hv]; unfold jw; split; exact WA_wd hWB; omega
    have hLr : jL r A B (r - 1) = u + v := by simp only [jL]; rw [if_pos (by omega), hu, hv]
    rw [il1, pk_sub r1, il0]
    obtain ⟨μ1, h3, h4, h5⟩ := addAxesOf_eq (a := 0) (b := r - 1) hg (h0.gs (jL r A B)) (by omega) (by omega) (by omega) (fun j _ hj => by
      rw [Nat.zero_add, Nat.sub_zero]; exact hL1 j hj)
    rw [Nat.zero_add, Nat.sub_zero] at h5
    rw [h3, bB_o, nI_add]
    unfold mk
    by_cases c1 : u + v ≤ 48
    rotate_left
    · rw [addAxis_err (by rw [il48, nle_iff (by omega) (by omega)]; exact c1), bB_e, if_neg (fun q => c1 (by rw [← hLr]; exact q.1 (r - 1) (by omega)))]
      exact CT_stop' h4.fg
    obtain ⟨μ2, h6, h7, h8⟩ := addAxis_ok h5 (by omega) hLr c1
    rw [show r - 1 + 1 = r by omega] at h8
    rw [h6, bB_o]
    have hL : ∀ k, k < r → jL r A B k ≤ 48 := fun k hk => by
      by_cases q : k = r - 1
      · rw [q, hLr]; exact c1
      · exact (hL1 k (by omega)).2
    have hb : pr (jL r A B) r ≤ 110592 := pr_le r3 hL
    rw [endAxes_eq h8 (by omega)]
    by_cases c2 : pr (jL r A B) r ≤ 48
    rotate_left
    · rw [if_neg (fun q => c2 ((okS_iff hL).mp q)), if_neg c2, bT_e]
      exact CT_stop' (h4.trans h7).fg
    rw [if_pos ((okS_iff hL).mpr c2), if_pos c2, bT_o]
    have hF : Fg o μ μ2 := (h4.trans h7).fg
    have hA2 := h7.ga hg1 (h4.ga hg1 hA)
    have hB2 := h7.ga hg2 (h4.ga hg2 hB)
    have hp := pr_jL r1 A B
    rw [← hu, ← hv] at hp
    have hsz := jsz r1 rA rB ror hc
    rw [← hu, ← hv] at hsz
    suffices h : CT o μ (mkA r (jL r A B) (fun k => .ok (jE u v A B k))) (f_X4_join_L108 (fun (μ_42 : Mem) => some (.ok (), μ_42)) g1 g2 o (nI u) (nI v) 1000 (nI (jfl u v 0)) (nI (jfr u v 0)) (nI (0 % (u + v))) (nI 0) μ2) by
      have q1 : jfl u v 0 = 0 := by
        unfold jfl
        rw [Nat.zero_div, Nat.zero_mod, Nat.mul_zero]
        by_cases q : 0 < u
        · rw [if_pos q]
        · rw [if_neg q]; omega
      have q2 : jfr u v 0 = 0 := by simp [jfr]
      rw [q1, q2, Nat.zero_mod] at h
      exact h
    refine Cloop' (fun n (s : Int32 × Int32 × Int32 × Int32) ν => f_X4_join_L108 (fun μ => some (.ok (), μ)) g1 g2 o (nI u) (nI v) n s.1 s.2.1 s.2.2.1 s.2.2.2 ν) (fun k => (nI (jfl u v k), nI (jfr u v k), nI (k % (u + v)), nI k)) hF h8 c2 ?_ ?_
    · intro n ν h9
      simp only [f_X4_join_L108, h9, nle_t (Nat.le_refl _) (show pr (jL r A B) r < 2 ^ 31 by omega), if_true]
    · intro n k ν hk h9 h10
      have hk2 : k < jR r A B * (u + v) := by rw [← hp]; exact hk
      have hm0 : 0 < u + v := by
        rcases Nat.eq_zero_or_pos (u + v) with q | q
        · rw [q] at hk2; omega
        · exact q
      have hkm : k / (u + v) < jR r A B := Nat.div_lt_of_lt_mul (by rw [Nat.mul_comm]; exact hk2)
      have hmod := Nat.mod_lt k hm0
      have hA3 := h10.ga hg1 hA2
      have hB3 := h10.ga hg2 hB2
      have hq : k / (u + v) ≤ 48 := Nat.le_trans (Nat.div_le_self _ _) (by omega)
      have bu : u * (k / (u + v)) ≤ 48 * 48 := Nat.mul_le_mul hu48 hq
      have bv : v * (k / (u + v)) ≤ 48 * 48 := Nat.mul_le_mul hv48 hq
      have hmu : u * (k / (u + v) + 1) = u * (k / (u + v)) + u := Nat.mul_succ _ _
      have hmv : v * (k / (u + v) + 1) = v * (k / (u + v)) + v := Nat.mul_succ _ _
      have nxt : ∀ fl fr : Nat, fl = jfl u v (k + 1) → fr = jfr u v (k + 1) → ∀ ν1, (if nI (k % (u + v) + 1) = nI (u + v) then
          f_X4_join_L108 (fun μ => some (.ok (), μ)) g1 g2 o (nI u) (nI v) n (nI fl) (nI fr) 0 (nI (k + 1)) ν1
          else f_X4_join_L108 (fun μ => some (.ok (), μ)) g1 g2 o (nI u) (nI v) n (nI fl) (nI fr) (nI (k % (u + v) + 1)) (nI (k + 1)) ν1) =
          f_X4_join_L108 (fun μ => some (.ok (), μ)) g1 g2 o (nI u) (nI v) n (nI (jfl u v (k + 1))) (nI (jfr u v (k + 1))) (nI ((k + 1) % (u + v))) (nI (k + 1)) ν1 := by
        intro fl fr q1 q2 ν1
        simp only [neq_iff (show k % (u + v) + 1 < 2 ^ 31 by omega) (show u + v < 2 ^ 31 by omega)]
        rcases dmS (k := k) hm0 with ⟨q3, q4, q5⟩ | ⟨q3, q4, q5⟩
        · rw [if_pos q3, q5, q1, q2, il0]
        · rw [if_neg (by omega), q5, q1, q2]
      have hfl : jfl u v (k + 1) = if k % (u + v) < u then jfl u v k + 1 else jfl u v k := by
        unfold jfl
        rcases dmS (k := k) hm0 with ⟨q3, q4, q5⟩ | ⟨q3, q4, q5⟩
        · rw [q4, q5, hmu]
          split <;> split <;> omega
        · rw [q4, q5]
          split <;> split <;> omega
      have hfr : jfr u v (k + 1) = if k % (u + v) < u then jfr u v k else jfr u v k + 1 := by
        unfold jfr
        rcases dmS (k := k) hm0 with ⟨q3, q4, q5⟩ | ⟨q3, q4, q5⟩
        · rw [q4, q5, hmv]
          split <;> omega
        · rw [q4, q5]
          split <;> omega
      simp only [f_X4_join_L108, h9, nle_f hk (show pr (jL r A B) r < 2 ^ 31 by omega), if_false, jn, lt, nI_add, nle_iff (show u < 2 ^ 31 by omega) (show k % (u + v) < 2 ^ 31 by omega)]
      by_cases c : k % (u + v) < u
      · rw [if_neg (show ¬ u ≤ k % (u + v) by omega)]
        have ix : jfl u v k = u * (k / (u + v)) + k % (u + v) := by unfold jfl; rw [if_pos c]
        have hin : jfl u v k < sz A ∨ A.1 = 0 := by
          rcases hsz.1 with q | q
          · exact Or.inr q
          · left
            rw [ix, q, Nat.mul_comm u]
            exact mul_in hkm c
        rw [cellFor_eq hA3 hWA hin, bP_s, ig_t (show k < 48 by omega) (by omega), nI_clamp (show k < 2 ^ 31 by omega)]
        simp only [← nI_succ]
        rw [if_pos c] at hfl hfr
        have := nxt (jfl u v k + 1) (jfr u v k) hfl.symm hfr.symm
        rw [this]
        rw [show jE u v A B k = A.2.2 (if A.1 = 0 then 0 else jfl u v k) by unfold jE sel; rw [if_pos c, ix]]
      · rw [if_pos (show u ≤ k % (u + v) by omega)]
        have ix : jfr u v k = v * (k / (u + v)) + (k % (u + v) - u) := rfl
        have hin : jfr u v k < sz B ∨ B.1 = 0 := by
          rcases hsz.2 with q | q
          · exact Or.inr q
          · left
            rw [ix, q, Nat.mul_comm v]
            exact mul_in hkm (by omega)
        rw [cellFor_eq hB3 hWB hin, bP_s, ig_t (show k < 48 by omega) (by omega), nI_clamp (show k < 2 ^ 31 by omega)]
        simp only [← nI_succ]
        rw [if_neg c] at hfl hfr
        have := nxt (jfl u v k) (jfr u v k + 1) hfl.symm hfr.symm
        rw [this]
        rw [show jE u v A B k = B.2.2 (if B.1 = 0 then 0 else jfr u v k) by unfold jE sel; rw [if_neg c, ix]]
  have lenA : A.1 = r → ∀ k, k < r - 1 → μ 21 g1 k = nI (jL r A B k) ∧ jL r A B k ≤ 48 := fun q k hk => by
    have : jL r A B k = A.2.1 k := by simp only [jL]; rw [if_neg (by omega), if_pos q]
    rw [this]; exact ⟨hA.2.2.1 k (by omega), hWA.2.1 k (by omega)⟩
  have lenB : ¬ A.1 = r → ∀ k, k < r - 1 → μ 21 g2 k = nI (jL r A B k) ∧ jL r A B k ≤ 48 := fun q k hk => by
    have : jL r A B k = B.2.1 k := by simp only [jL]; rw [if_neg (by omega), if_neg q]
    rw [this]; exact ⟨hB.2.2.1 k (by omega), hWB.2.1 k (by omega)⟩
  have fin : (A.1 = 0 ∨ B.1 = 0 ∨ (¬ (A.1 + 1 < r ∨ B.1 + 1 < r) ∧ ∀ k, k < r - 1 → A.2.1 k = B.2.1 k)) → ∀ (X : Option (Except Nat Unit × Mem)), X = (if A.1 = r then
      (bB (f_X1_addAxesOf o g1 (0 : Int32) (nI r - (1 : Int32)) μ) (fun e_12 μ_11 => some (.error e_12, μ_11)) fun u_10 μ_11 =>
       bB (f_X1_addAxis o (nI (jw r A) + nI (jw r B)) μ_11) (fun e_15 μ_14 => some (.error e_15, μ_14)) fun u_13 μ_14 =>
       bT (f_X1_endAxes o μ_14) (fun e_17 => some (.error e_17, μ_14)) fun u_16 =>
       f_X4_join_L108 (fun (μ_42 : Mem) => some (.ok (), μ_42)) g1 g2 o (nI (jw r A)) (nI (jw r B)) 1000 (0 : Int32) (0 : Int32) (0 : Int32) (0 : Int32) μ_14)
      else (bB (f_X1_addAxesOf o g2 (0 : Int32) (nI r - (1 : Int32)) μ) (fun e_12 μ_11 => some (.error e_12, μ_11)) fun u_10 μ_11 =>
       bB (f_X1_addAxis o (nI (jw r A) + nI (jw r B)) μ_11) (fun e_15 μ_14 => some (.error e_15, μ_14)) fun u_13 μ_14 =>
       bT (f_X1_endAxes o μ_14) (fun e_17 => some (.error e_17, μ_14)) fun u_16 =>
       f_X4_join_L108 (fun (μ_42 : Mem) => some (.ok (), μ_42)) g1 g2 o (nI (jw r A)) (nI (jw r B)) 1000 (0 : Int32) (0 : Int32) (0 : Int32) (0 : Int32) μ_14)) →
      CT o μ (mk r (jL r A B) (fun k => .ok (jE (jw r A) (jw r B) A B k))) X := by
    intro hc X hX
    rw [hX]
    by_cases q : A.1 = r
    · rw [if_pos q]; exact main g1 ⟨hg1, hc, lenA q⟩ _ _ rfl rfl
    · rw [if_neg q]; exact main g2 ⟨hg2, hc, lenB q⟩ _ _ rfl rfl
  have nI1 : (1 : Int32) = nI 1 := il1
  by_cases c1 : A.1 = 0 ∨ B.1 = 0
  · rw [if_pos c1]
    refine fin (by omega) _ ?_
    rw [if_pos c1]
    simp only [bT_o, jw]
    by_cases q1 : A.1 = r <;> by_cases q2 : B.1 = r <;> simp only [q1, q2, if_true, if_false, il1]
  · rw [if_neg c1]
    by_cases c2 : A.1 + 1 < r ∨ B.1 + 1 < r
    · rw [if_pos c2]
      simp only [if_neg c1, if_pos c2, bT_e, ite_self]
      exact CT_stop
    · rw [if_neg c2]
      by_cases c3 : ∀ k, k < r - 1 → A.2.1 k = B.2.1 k
      · rw [if_pos c3]
        refine fin (Or.inr (Or.inr ⟨c2, c3⟩)) _ ?_
        rw [if_neg c1, if_neg c2, if_pos c3]
        simp only [bT_o, jw]
        by_cases q1 : A.1 = r <;> by_cases q2 : B.1 = r <;> simp only [q1, q2, if_true, if_false, il1]
      · rw [if_neg c3]
        simp only [if_neg c1, if_neg c2, if_neg c3, bT_e, ite_self]
        exact CT_stop
