theorem jn1 {α β : Type} {c : Prop} [Decidable c] {b : α → β} {x y : α} : (jn b fun j => if c then j x else j y) = b (if c then x else y) := by
  unfold jn; split <;> rfl
theorem jn2 {α β : Type} {c : Prop} [Decidable c] {b : α → Option β} {x v : α} {o : Option α} (h : o = some v) : (jn b fun j => if c then j x else bP o fun v => j v) = b (if c then x else v) := by
  unfold jn; subst h; split <;> rfl
theorem jn3 {α β : Type} {c c2 : Prop} [Decidable c] [Decidable c2] {b : α → Option β} {x y v : α} {o : Option α} (h : o = some v) : (jn b fun j => if c then j x else if c2 then j y else bP o fun v => j v) = b (if c then x else if c2 then y else v) := by
  unfold jn; subst h; split
  · rfl
  · split <;> rfl
theorem mjr_eq (a b : Nat) (ha : a ≤ 3) (hb : b ≤ 3) : (if (if nI a ≤ nI b then nI b else nI a) = 0 then (1 : Int32) else (if nI a ≤ nI b then nI b else nI a)) = nI (if 1 < (if a < b then b else a) then (if a < b then b else a) else 1) := by
  rcases (show a = 0 ∨ a = 1 ∨ a = 2 ∨ a = 3 by omega) with rfl | rfl | rfl | rfl <;> rcases (show b = 0 ∨ b = 1 ∨ b = 2 ∨ b = 3 by omega) with rfl | rfl | rfl | rfl <;> decide
theorem sub_1 (a b : Nat) (ha : a ≤ 3) (hb : b ≤ 3) : ((1 : Int32) < nI a - nI b ↔ b + 1 < a) ∧ (nI a - nI b ≤ 1 ↔ a ≤ b + 1) := by
  rcases (show a = 0 ∨ a = 1 ∨ a = 2 ∨ a = 3 by omega) with rfl | rfl | rfl | rfl <;> rcases (show b = 0 ∨ b = 1 ∨ b = 2 ∨ b = 3 by omega) with rfl | rfl | rfl | rfl <;> decide
theorem width_eq {s r : Nat} {μ : Mem} {A : Arr} (hs : s < 20) (hW : WA A) (hA : SA μ s A) (hr : r ≤ 3) : f_X8_width (nI s) (nI r) μ = some (nI (jw r A)) := by
  have h1 := hW.1
  unfold f_X8_width jw
  rw [ig_t hs (by omega), nI_clamp (by omega), hA.1, last_eq hs hW hA, bP_s]
  simp only [neq_iff (show A.1 < 2 ^ 31 by omega) (show r < 2 ^ 31 by omega)]
  by_cases c : A.1 = r
  · rw [if_pos c, if_pos c]
  · rw [if_neg c, if_neg c, il1]
theorem before_eq {s o k : Nat} {r : Int32} {μ : Mem} {A : Arr} (hs : s < 20) (ho : o < 20) (hk : k < 3) (hW : WA A) (hA : SA μ s A) : f_X8_before (nI s) r (nI o) (nI k) μ = some (if A.1 = 0 then μ 33 0 (3 * o + k) else μ 33 0 (3 * s + k)) := by
  have h1 := hW.1
  unfold f_X8_before
  rw [ig_t hs (by omega), nI_clamp (by omega), hA.1, axisOf_eq (by omega), axisOf_eq (by omega), bP_s, bP_s]
  simp only [il0, neq_iff (show A.1 < 2 ^ 31 by omega) (show 0 < 2 ^ 31 by omega)]
  split <;> rfl
theorem mjoin_64 {r : Nat} {μ : Mem} {A B : Arr} {κ : Unit → Option (Int32 × Mem)} (T : Option (Int32 × Mem) → Prop) (hWA : WA A) (hA : SA μ 18 A) (hWB : WA B) (hB : SA μ 19 B) (hr : 1 ≤ r) (hr3 : r ≤ 3) (hc : A.1 = 0 ∨ B.1 = 0 ∨ ¬ (A.1 + 1 < r ∨ B.1 + 1 < r))
    (hend : (A.1 = 0 ∨ B.1 = 0 ∨ ∀ k, k < r - 1 → A.2.1 k = B.2.1 k) → T (κ ())) (herr : ¬ (A.1 = 0 ∨ B.1 = 0) → ¬ (∀ k, k < r - 1 → A.2.1 k = B.2.1 k) → T (some (0, sto μ 30 0 16 (nI 3)))) : T (f_X8_join_L64 κ (nI A.1) (nI B.1) (nI r) μ 1000 (nI 0)) := by
  have h1 := hWA.1
  have h2 := hWB.1
  refine lp0 (fun n (s : Int32) => f_X8_join_L64 κ (nI A.1) (nI B.1) (nI r) μ n s) T (r - 1) (fun i s => s = nI i ∧ (A.1 = 0 ∨ B.1 = 0 ∨ ∀ k, k < i → A.2.1 k = B.2.1 k)) (nI 0) 1000 (by omega) ⟨rfl, Or.inr (Or.inr (fun k hk => by omega))⟩ ?_ ?_
  · rintro n s ⟨rfl, g1⟩
    simp only [f_X8_join_L64, il1, pk_sub hr, nle_t (Nat.le_refl _) (show r - 1 < 2 ^ 31 by omega), if_true]
    exact hend g1
  · rintro n i s hi hn ⟨rfl, g1⟩
    simp only [f_X8_join_L64, il1, pk_sub hr, nle_f hi (show r - 1 < 2 ^ 31 by omega), if_false, jn, lt, nI_add]
    simp only [il0, neq_iff (show A.1 < 2 ^ 31 by omega) (show 0 < 2 ^ 31 by omega), neq_iff (show B.1 < 2 ^ 31 by omega) (show 0 < 2 ^ 31 by omega)]
    by_cases c1 : A.1 = 0
    · left
      exact ⟨nI (i + 1), ⟨rfl, Or.inl c1⟩, by rw [if_pos c1]⟩
    rw [if_neg c1]
    by_cases c2 : B.1 = 0
    · left
      exact ⟨nI (i + 1), ⟨rfl, Or.inr (Or.inl c2)⟩, by rw [if_pos c2]⟩
    rw [if_neg c2]
    have g2 : ∀ k, k < i → A.2.1 k = B.2.1 k := by
      rcases g1 with q | q | q
      · exact absurd q c1
      · exact absurd q c2
      · exact q
    have b1 := hWA.2.1 i (by omega)
    have b2 := hWB.2.1 i (by omega)
    rw [il18, il19, axisOf_eq (by omega), axisOf_eq (by omega), bP_s, bP_s, hA.2.1 i (by omega), hB.2.1 i (by omega)]
    simp only [neq_iff (show A.2.1 i < 2 ^ 31 by omega) (show B.2.1 i < 2 ^ 31 by omega)]
    by_cases c4 : A.2.1 i = B.2.1 i
    · left
      refine ⟨nI (i + 1), ⟨rfl, Or.inr (Or.inr (fun k hk => ?_))⟩, by rw [if_pos c4]⟩
      by_cases q : k = i
      · rw [q]; exact c4
      · exact g2 k (by omega)
    · right
      rw [if_neg c4, stop_eq il3, isb_0]
      exact herr (by omega) (fun q => c4 (q i hi))
theorem join_M {μ : Mem} {A B : Arr} (hWA : WA A) (hA : SA μ 18 A) (hWB : WA B) (hB : SA μ 19 B) (h0 : μ 30 0 16 = 0) : MT μ (s_join A B) (f_X8_join μ) := by
  have h1 := hWA.1
  have h2 := hWB.1
  have h1s := hWA.2.2
  have h2s := hWB.2.2
  obtain ⟨r1, r3, rA, rB, ror⟩ := jr_le hWA hWB
  have hS : s_join A B = (if A.1 = 0 ∨ B.1 = 0 then s_join0 A B else if A.1 + 1 < jr A B ∨ B.1 + 1 < jr A B then .error 4 else if ∀ k, k < jr A B - 1 → A.2.1 k = B.2.1 k then s_join0 A B else .error 3) := rfl
  have hS0 : s_join0 A B = mk (jr A B) (jL (jr A B) A B) (fun k => .ok (jE (jw (jr A B) A) (jw (jr A B) B) A B k)) := rfl
  unfold f_X8_join
  have l1 : ∀ {α β : Type} {v : α} {f : α → β}, lt v f = f v := rfl
  rw [il18, ig_t (by omega) (by omega), nI_clamp (by omega), hA.1, l1]
  rw [il19, ig_t (by omega) (by omega), nI_clamp (by omega), hB.1, l1]
  rw [jn1, jn1, mjr_eq _ _ h1 h2]
  rw [hS, hS0]
  rw [show (if 1 < (if A.1 < B.1 then B.1 else A.1) then (if A.1 < B.1 then B.1 else A.1) else 1) = jr A B from rfl]
  generalize hrr : jr A B = r at *
  -- behind the comparison of the ranks
  have main : (A.1 = 0 ∨ B.1 = 0 ∨ ¬ (A.1 + 1 < r ∨ B.1 + 1 < r)) → MT μ (if A.1 = 0 ∨ B.1 = 0 ∨ ∀ k, k < r - 1 → A.2.1 k = B.2.1 k then mk r (jL r A B) (fun k => .ok (jE (jw r A) (jw r B) A B k)) else .error 3)
      (f_X8_join_L64 (fun (_ : Unit) =>
      jn (fun (s_20 : Int32) =>
       jn (fun (s_22 : Int32) =>
        jn (fun (s_24 : Int32) =>
         jn (fun (s_26 : Int32) =>
          jn (fun (s_28 : Int32) =>
           bW (f_X8_shape (nI r) s_24 s_26 s_28 μ) fun v_30 μ_31 =>
           if v_30 = 0 then
           (some ((0 : Int32), μ_31))
           else
           bP (f_X8_sizeOf (8 : Int32) μ_31) fun v_32 =>
           f_X8_join_L243 (fun (μ_54 : Mem) =>
            some ((1 : Int32), μ_54)) (nI A.1) (nI B.1) s_20 s_22 v_32 1000 (0 : Int32) μ_31) fun j_29 =>
          if nI r = (3 : Int32) then
          (j_29 (s_20 + s_22))
          else
          j_29 (0 : Int32)) fun j_27 =>
         if nI r = (2 : Int32) then
         (j_27 (s_20 + s_22))
         else
         if nI r ≤ (2 : Int32) then
         (j_27 (0 : Int32))
         else
         bP (f_X8_before (nI 18) (nI r) (nI 19) (1 : Int32) μ) fun v_55 =>
         j_27 v_55) fun j_25 =>
        if nI r = (1 : Int32) then
        (j_25 (s_20 + s_22))
        else
        bP (f_X8_before (nI 18) (nI r) (nI 19) (0 : Int32) μ) fun v_56 =>
        j_25 v_56) fun j_23 =>
       if nI B.1 = 0 then
       (j_23 (1 : Int32))
       else
       bP (f_X8_width (nI 19) (nI r) μ) fun v_57 =>
       j_23 v_57) fun j_21 =>
      if nI A.1 = 0 then
      (j_21 (1 : Int32))
      else
      bP (f_X8_width (nI 18) (nI r) μ) fun v_58 =>
      j_21 v_58) (nI A.1) (nI B.1) (nI r) μ 1000 (0 : Int32)) := by
    intro hc
    rw [il0]
    refine mjoin_64 _ hWA hA hWB hB r1 r3 hc (fun g1 => ?_) (fun g1 g2 => ?_)
    rotate_left
    · rw [if_neg (by
        rintro (q | q | q)
        · exact g1 (Or.inl q)
        · exact g1 (Or.inr q)
        · exact g2 q)]
      exact MT_stop Fm.refl
    rw [if_pos g1]
    have hcc : A.1 = 0 ∨ B.1 = 0 ∨ (¬ (A.1 + 1 < r ∨ B.1 + 1 < r) ∧ ∀ k, k < r - 1 → A.2.1 k = B.2.1 k) := by
      rcases hc with q | q | q
      · exact Or.inl q
      · exact Or.inr (Or.inl q)
      · rcases g1 with q' | q' | q'
        · exact Or.inl q'
        · exact Or.inr (Or.inl q')
        · exact Or.inr (Or.inr ⟨q, q'⟩)
    have hsz := jsz r1 rA rB ror hcc
    have hp := pr_jL r1 A B
    have hu48 : jw r A ≤ 48 := by unfold jw; split; exact WA_wd hWA; omega
    have hv48 : jw r B ≤ 48 := by unfold jw; split; exact WA_wd hWB; omega
    have wA : (if nI A.1 = nI 0 then (1 : Int32) else nI (jw r A)) = nI (jw r A) := by
      simp only [neq_iff (show A.1 < 2 ^ 31 by omega) (show 0 < 2 ^ 31 by omega)]
      by_cases c : A.1 = 0
      · rw [if_pos c]; unfold jw; rw [if_neg (by omega), il1]
      · rw [if_neg c]
    have wB : (if nI B.1 = nI 0 then (1 : Int32) else nI (jw r B)) = nI (jw r B) := by
      simp only [neq_iff (show B.1 < 2 ^ 31 by omega) (show 0 < 2 ^ 31 by omega)]
      by_cases c : B.1 = 0
      · rw [if_pos c]; unfold jw; rw [if_neg (by omega), il1]
      · rw [if_neg c]
    rw [jn2 (width_eq (by omega) hWA hA r3), wA, jn2 (width_eq (by omega) hWB hB r3), wB]
    rw [jn2 (before_eq (k := 0) (by omega) (by omega) (by omega) hWA hA), il1]
    rw [jn3 (before_eq (k := 1) (by omega) (by omega) (by omega) hWA hA), jn1, nI_add]
    generalize hu : jw r A = u at *
    generalize hv : jw r B = v at *
    have hbef : ∀ k, k < r - 1 → (if A.1 = 0 then μ 33 0 (3 * 19 + k) else μ 33 0 (3 * 18 + k)) = nI (jL r A B k) := by
      intro k hk
      have hj : jL r A B k = (if A.1 = r then A else B).2.1 k := by unfold jL; rw [if_neg (by omega)]
      rw [hj]
      by_cases c : A.1 = 0
      · rw [if_pos c, if_neg (show ¬ A.1 = r by omega)]
        exact hB.2.1 k (by omega)
      · rw [if_neg c]
        by_cases c2 : A.1 = r
        · rw [if_pos c2]; exact hA.2.1 k (by omega)
        · rw [if_neg c2]
          have c3 : ¬ B.1 = 0 := by omega
          have q : ¬ (A.1 + 1 < r ∨ B.1 + 1 < r) ∧ ∀ k, k < r - 1 → A.2.1 k = B.2.1 k := by
            rcases hcc with q | q | q
            · exact absurd q c
            · exact absurd q c3
            · exact q
          rw [← q.2 k hk]
          exact hA.2.1 k (by omega)
    have hLr : jL r A B (r - 1) = u + v := by unfold jL; rw [if_pos (by omega), hu, hv]
    have hL1 : ∀ k, k < r - 1 → jL r A B k ≤ 48 := by
      intro k hk
      have hj : jL r A B k = (if A.1 = r then A else B).2.1 k := by unfold jL; rw [if_neg (by omega)]
      rw [hj]
      by_cases c2 : A.1 = r
      · rw [if_pos c2]; exact hWA.2.1 k (by omega)
      · rw [if_neg c2]; exact hWB.2.1 k (by omega)
    obtain ⟨μ1, f1, f2⟩ := shape_eq (r := r) (a := if nI r = nI 1 then nI (u + v) else if A.1 = 0 then μ 33 0 (3 * 19 + 0) else μ 33 0 (3 * 18 + 0)) (b := if nI r = 2 then nI (u + v) else if nI r ≤ 2 then nI 0 else if A.1 = 0 then μ 33 0 (3 * 19 + 1) else μ 33 0 (3 * 18 + 1)) (c := if nI r = 3 then nI (u + v) else nI 0) (μ := μ) (L := jL r A B) r3 (fun q => by
        by_cases c : r = 1
        · rw [c] at hLr ⊢; rw [if_pos rfl]; rw [← hLr]
        · rw [if_neg (by rw [neq_iff (by omega) (by omega)]; exact c)]; exact hbef 0 (by omega)) (fun q => by
        by_cases c : r = 2
        · rw [c] at hLr ⊢; rw [if_pos (by decide)]; rw [← hLr]
        · rw [if_neg (by rw [il2, neq_iff (by omega) (by omega)]; exact c), if_neg (by rw [il2, nle_iff (by omega) (by omega)]; omega)]; exact hbef 1 (by omega)) (fun q => by
        have c : r = 3 := by omega
        rw [c] at hLr ⊢; rw [if_pos (by decide)]; rw [← hLr]) (fun k hk => by
        by_cases c : k = r - 1
        · rw [c, hLr]; omega
        · have := hL1 k (by omega); omega) h0
    unfold mk
    rcases f2 with ⟨d1, d2, d3, d4⟩ | ⟨d1, d2, d3⟩
    rotate_left
    · rw [d2, bW_s, if_neg d1, if_pos nI_0.symm]
      exact ⟨0, μ1, rfl, f1, rfl, d3⟩
    have hA1 := f1.sa (by omega) hWA hA
    have hB1 := f1.sa (by omega) hWB hB
    have hN := d1.2
    rw [d2, bW_s, if_pos d1, if_neg (by decide), il8, sizeOf_eq' (by omega) r3 d3.1 d3.2, bP_s]
    refine Mloop' (fun n (s : Int32) ν => f_X8_join_L243 (fun (μ_54 : Mem) => some (nI 1, μ_54)) (nI A.1) (nI B.1) (nI u) (nI v) (nI (pr (jL r A B) r)) n s ν) nI f1 d3 r3 d4 hN ?_ ?_
    · intro n ν
      simp only [f_X8_join_L243, nle_t (Nat.le_refl _) (show pr (jL r A B) r < 2 ^ 31 by omega), if_true, il1]
    · intro n k ν hk h5
      have hk2 : k < jR r A B * (u + v) := by rw [← hp]; exact hk
      have hm0 : 0 < u + v := by
        rcases Nat.eq_zero_or_pos (u + v) with q | q
        · rw [q] at hk2; omega
        · exact q
      have hkm : k / (u + v) < jR r A B := Nat.div_lt_of_lt_mul (by rw [Nat.mul_comm]; exact hk2)
      have hmod := Nat.mod_lt k hm0
      have hA3 := h5.sa (by omega) hWA hA1
      have hB3 := h5.sa (by omega) hWB hB1
      have hnz : ∀ {α : Type} {o : Option α}, gd (nz (nI (u + v))) o = o := by
        intro α o; rw [i_nz (nI_ne0 hm0 (by omega))]; rfl
      simp only [f_X8_join_L243, nle_f hk (show pr (jL r A B) r < 2 ^ 31 by omega), if_false, nI_add, hnz, pk_div (show k < 2 ^ 31 by omega) hm0 (show u + v < 2 ^ 31 by omega), pk_mul, pk_sub (Nat.div_mul_le_self k (u + v)), kmod, lt, jn, nle_iff (show u < 2 ^ 31 by omega) (show k % (u + v) < 2 ^ 31 by omega)]
      simp only [il0, neq_iff (show A.1 < 2 ^ 31 by omega) (show 0 < 2 ^ 31 by omega), neq_iff (show B.1 < 2 ^ 31 by omega) (show 0 < 2 ^ 31 by omega), il18, il19, il8, set_eq (show 48 * 8 + k < 960 by omega), bW_s, ← nI_succ]
      unfold jE sel
      by_cases c : k % (u + v) < u
      · rw [if_neg (show ¬ u ≤ k % (u + v) by omega), if_pos c]
        by_cases c2 : A.1 = 0
        · rw [if_pos c2, if_pos c2, get_eq (by omega), bP_s, hA3.2.2 0 (by rw [sz_0 c2]; omega)]
        · have q1 : u * (k / (u + v)) + k % (u + v) < sz A := by
            rcases hsz.1 with q | q
            · exact absurd q c2
            · rw [q, Nat.mul_comm u]; exact mul_in hkm c
          rw [if_neg c2, if_neg c2, get_eq (by omega), bP_s, hA3.2.2 _ q1]
      · rw [if_pos (show u ≤ k % (u + v) by omega), if_neg c]
        by_cases c2 : B.1 = 0
        · rw [if_pos c2, if_pos c2, get_eq (by omega), bP_s, hB3.2.2 0 (by rw [sz_0 c2]; omega)]
        · have q1 : v * (k / (u + v)) + (k % (u + v) - u) < sz B := by
            rcases hsz.2 with q | q
            · exact absurd q c2
            · rw [q, Nat.mul_comm v]; exact mul_in hkm (by omega)
          rw [if_neg c2, if_neg c2, pk_sub (by omega), show v * (k / (u + v)) + k % (u + v) - u = v * (k / (u + v)) + (k % (u + v) - u) by omega, get_eq (by omega), bP_s, hB3.2.2 _ q1]
  have s1 := sub_1 A.1 B.1 h1 h2
  have s2 := sub_1 B.1 A.1 h2 h1
  have z1 : ∀ {α : Type} {x y : α}, (if nI A.1 = 0 then x else y) = if A.1 = 0 then x else y := by
    intro α x y
    simp only [il0, neq_iff (show A.1 < 2 ^ 31 by omega) (show 0 < 2 ^ 31 by omega)]
  have z2 : ∀ {α : Type} {x y : α}, (if nI B.1 = 0 then x else y) = if B.1 = 0 then x else y := by
    intro α x y
    simp only [il0, neq_iff (show B.1 < 2 ^ 31 by omega) (show 0 < 2 ^ 31 by omega)]
  have l2 : ∀ {α β : Type} {v : α} {f : α → β}, jn v f = f v := rfl
  rw [l2, z1]
  by_cases c1 : A.1 = 0
  · rw [if_pos c1, if_pos (Or.inl c1)]
    have := main (Or.inl c1)
    rw [if_pos (Or.inl c1)] at this
    exact this
  rw [if_neg c1, z2]
  by_cases c2 : B.1 = 0
  · rw [if_pos c2, if_pos (Or.inr c2)]
    have := main (Or.inr (Or.inl c2))
    rw [if_pos (Or.inr (Or.inl c2))] at this
    exact this
  rw [if_neg c2, if_neg (show ¬ (A.1 = 0 ∨ B.1 = 0) by omega), l2, stop_eq il4, isb_0]
  have jrv : r = if A.1 < B.1 then B.1 else A.1 := by
    rw [← hrr]; unfold jr
    by_cases q : A.1 < B.1
    · simp only [if_pos q]; split <;> omega
    · simp only [if_neg q]; split <;> omega
  by_cases c3 : B.1 + 1 < A.1
  · rw [if_pos (s1.1.mpr c3), if_pos (by right; rw [jrv, if_neg (by omega)]; exact c3)]
    exact MT_stop Fm.refl
  rw [if_neg (fun q => c3 (s1.1.mp q))]
  by_cases c4 : B.1 ≤ A.1 + 1
  · have hno : ¬ (A.1 + 1 < r ∨ B.1 + 1 < r) := by rw [jrv]; split <;> omega
    rw [if_pos (s2.2.mpr c4), if_neg hno]
    have := main (Or.inr (Or.inr hno))
    by_cases c5 : ∀ k, k < r - 1 → A.2.1 k = B.2.1 k
    · rw [if_pos c5]
      rw [if_pos (Or.inr (Or.inr c5))] at this
      exact this
    · rw [if_neg c5]
      rw [if_neg (by rintro (q | q | q); exact c1 q; exact c2 q; exact c5 q)] at this
      exact this
  · rw [if_neg (fun q => c4 (s2.2.mp q)), if_pos (by left; rw [jrv, if_pos (by omega)]; omega)]
    exact MT_stop Fm.refl
def sp2 (f : Nat) (A B : Arr) : Except Nat Arr := if f < 10 then s_each f A B else if f < 30 then s_outer (f - 20) A B else if f = 30 then s_resh A B else if f = 31 then s_join A B else if f = 32 then s_pick A B else s_inner ((f - 100) / 10) ((f - 100) % 10) A B
/-- the numbers of functions of two arguments -/
def ok2 (f : Nat) : Prop := f < 10 ∨ (20 ≤ f ∧ f < 33) ∨ (100 ≤ f ∧ f < 200)
theorem pair_M {f : Nat} (hf : ok2 f) {μ : Mem} {A B : Arr} (hWA : WA A) (hA : SA μ 18 A) (hWB : WA B) (hB : SA μ 19 B) (h0 : μ 30 0 16 = 0) : MT μ (sp2 f A B) (f_X8_pair (nI f) μ) := by
  unfold ok2 at hf
  have gI : ∀ (S : Except Nat Arr) (x : Option (Int32 × Mem)), MT μ S x → MT μ S (bW x fun v μ => gd (isb v) <| some (v, μ)) := by
    rintro S x ⟨b, μ', e1, e2, e3⟩
    subst e1
    rw [bW_s]
    have : gd (isb b) (some (b, μ')) = some (b, μ') := by
      cases S with
      | ok A => dsimp only at e3; rw [e3.1]; rfl
      | error e => dsimp only at e3; rw [e3.1]; rfl
    rw [this]
    exact ⟨b, μ', rfl, e2, e3⟩
  unfold f_X8_pair sp2
  simp only [il10, il30, il31, il32, nle_iff (show 10 < 2 ^ 31 by omega) (show f < 2 ^ 31 by omega), nle_iff (show 30 < 2 ^ 31 by omega) (show f < 2 ^ 31 by omega), neq_iff (show f < 2 ^ 31 by omega) (show 30 < 2 ^ 31 by omega), neq_iff (show f < 2 ^ 31 by omega) (show 31 < 2 ^ 31 by omega), neq_iff (show f < 2 ^ 31 by omega) (show 32 < 2 ^ 31 by omega)]
  by_cases c1 : f < 10
  · rw [if_pos c1, if_neg (show ¬ 10 ≤ f by omega)]
    exact gI _ _ (each_M c1 hWA hA hWB hB h0)
  rw [if_neg c1, if_pos (show 10 ≤ f by omega)]
  by_cases c2 : f < 30
  · rw [if_pos c2, if_neg (show ¬ 30 ≤ f by omega), il20, pk_sub (by omega)]
    exact gI _ _ (outer_M (by omega) hWA hA hWB hB h0)
  rw [if_neg c2, if_pos (show 30 ≤ f by omega)]
  by_cases c3 : f = 30
  · rw [if_pos c3, if_pos c3]; exact gI _ _ (reshape_M hWA hA hWB hB h0)
  rw [if_neg c3, if_neg c3]
  by_cases c4 : f = 31
  · rw [if_pos c4, if_pos c4]; exact gI _ _ (join_M hWA hA hWB hB h0)
  rw [if_neg c4, if_neg c4]
  by_cases c5 : f = 32
  · rw [if_pos c5, if_pos c5]; exact gI _ _ (pick_M hWA hA hWB hB h0)
  rw [if_neg c5, if_neg c5]
  have hnz : ∀ {α : Type} {o : Option α}, gd (nz (nI 10)) o = o := by
    intro α o; rw [i_nz (nI_ne0 (by omega) (by omega))]; rfl
  rw [hnz, hnz, il100, pk_sub (by omega), pk_div (by omega) (by omega) (by omega), pk_mul, pk_sub (Nat.div_mul_le_self _ _), kmod]
  exact gI _ _ (inner_M (by omega) (by omega) hWA hA hWB hB h0)
