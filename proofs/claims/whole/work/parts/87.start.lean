/-! ===== the start ===== -/
theorem arr_known {s : State} {args : Array Value} {ty : FieldType} (h : (Cond.arrayClass ty).before args s = true) : ∃ cA, ArrOfT s cA ty ∧ s.vm.findClass ("[" ++ ty.toString) = some cA := by
  obtain ⟨c, k, comp, h1, h2, h3⟩ := Cond.arrayClass_spec h
  exact ⟨c, fun n z => ⟨fun k h => (by cases h), k, h2, comp, h3⟩, h1⟩
theorem grid_known {s : State} {args : Array Value} (h : (Cond.arrayOver (.object "RankCalc$Grid")).before args s = true) : ∃ cA, ArrOfT s cA (.object "RankCalc$Grid") ∧ va_RA s cA (.object "RankCalc$Grid") := by
  obtain ⟨comp, c, k, h1, h2, h3, h4, h5⟩ := Cond.arrayOver_spec h
  exact ⟨c, fun n z => ⟨fun k h => (by cases h), k, h3, comp, h4⟩, k, comp, h3, h4, h1, h5⟩
theorem kn_all {s : State} {a : Array Value} (hts : ∀ w ∈ lw_tbl, w.before a s = true) : ∃ (dC : Nat → ClassId) (dI : Nat → Nat → Nat), ∀ (k : Nat) (q : vw_C), vwCl[k]? = some q → u_Kn s q.1 q.2.1 q.2.2 (dC k) (dI k) := by
  have h : ∀ k : Nat, ∃ x : ClassId × (Nat → Nat), ∀ q : vw_C, vwCl[k]? = some q → u_Kn s q.1 q.2.1 q.2.2 x.1 x.2 := by
    intro k
    match k with
    | 0 =>
      obtain ⟨c, i, h⟩ := u_known (C := RJ0) (T := TJ0) (N := 2) (n := 4) hts inJ0 (hts (.instantiable RJ0 4) (List.mem_of_getElem? (i := 385) (by decide +kernel)))
      exact ⟨(c, i), fun q hq => by cases hq; exact h⟩
    | 1 =>
      obtain ⟨c, i, h⟩ := u_known (C := RJx00060) (T := TJx00060) (N := 6) (n := 6) hts inJx00060 (hts (.instantiable RJx00060 6) (List.mem_of_getElem? (i := 394) (by decide +kernel)))
      exact ⟨(c, i), fun q hq => by cases hq; exact h⟩
    | 2 =>
      obtain ⟨c, i, h⟩ := u_known (C := RX0) (T := TX0) (N := 7) (n := 7) hts inX0 (hts (.instantiable RX0 7) (List.mem_of_getElem? (i := 215) (by decide +kernel)))
      exact ⟨(c, i), fun q hq => by cases hq; exact h⟩
    | 3 =>
      obtain ⟨c, i, h⟩ := u_known (C := RX1) (T := TX1) (N := 4) (n := 4) hts inX1 (hts (.instantiable RX1 4) (List.mem_of_getElem? (i := 173) (by decide +kernel)))
      exact ⟨(c, i), fun q hq => by cases hq; exact h⟩
    | 4 =>
      obtain ⟨c, i, h⟩ := u_known (C := RX2) (T := TX2) (N := 2) (n := 2) hts inX2 (hts (.instantiable RX2 2) (List.mem_of_getElem? (i := 166) (by decide +kernel)))
      exact ⟨(c, i), fun q hq => by cases hq; exact h⟩
    | 5 =>
      obtain ⟨c, i, h⟩ := u_known (C := RX5) (T := TX5) (N := 14) (n := 14) hts inX5 (hts (.instantiable RX5 14) (List.mem_of_getElem? (i := 90) (by decide +kernel)))
      exact ⟨(c, i), fun q hq => by cases hq; exact h⟩
    | 6 =>
      obtain ⟨c, i, h⟩ := u_known (C := RX6) (T := TX6) (N := 2) (n := 2) hts inX6 (hts (.instantiable RX6 2) (List.mem_of_getElem? (i := 96) (by decide +kernel)))
      exact ⟨(c, i), fun q hq => by cases hq; exact h⟩
    | 7 =>
      obtain ⟨c, i, h⟩ := u_known (C := RX7) (T := TX7) (N := 4) (n := 4) hts inX7 (hts (.instantiable RX7 4) (List.mem_of_getElem? (i := 82) (by decide +kernel)))
      exact ⟨(c, i), fun q hq => by cases hq; exact h⟩
    | 8 =>
      obtain ⟨c, i, h⟩ := u_known (C := RX8) (T := TX8) (N := 19) (n := 19) hts inX8 (hts (.instantiable RX8 19) (List.mem_of_getElem? (i := 829) (by decide +kernel)))
      exact ⟨(c, i), fun q hq => by cases hq; exact h⟩
    | k + 9 => exact ⟨(0, fun _ => 0), fun q hq => by simp at hq⟩
  obtain ⟨x, hx⟩ := Classical.axiomOfChoice h
  exact ⟨fun k => (x k).1, fun k => (x k).2, hx⟩
/-! the String constants and the statics -/
abbrev gvn : Cond := Jvm.Cond.and given_1 narrow_1
def tmS (i : Nat) : Term := match i with
  | 0 => .string RX5 123
  | 1 => .string RX5 116
  | 2 => .string RX5 118
  | _ => .string RX5 108
theorem gm_ex : ∀ i, i < 4 → Cond.exactly (tmS i) "java/lang/String" ∈ flatC gvn := by decide +kernel
theorem gm_co : ∀ i, i < 4 → Cond.eq (.field (tmS i) "java/lang/String" "coder" "B") (.int 0) ∈ flatC gvn := by decide +kernel
theorem gm_ar : ∀ i, i < 4 → Cond.arrayOf (.field (tmS i) "java/lang/String" "value" "[B") .byte ∈ flatC gvn := by decide +kernel
theorem gm_le : ∀ i, i < 4 → Cond.eq (.length (.field (tmS i) "java/lang/String" "value" "[B")) (.int (Int32.ofNat (kLen.getD i 0))) ∈ flatC gvn := by decide +kernel
theorem gm_el : ∀ i, i < 4 → ∀ j, j < kLen.getD i 0 → Cond.eq (.elem (.field (tmS i) "java/lang/String" "value" "[B") (.int (Int32.ofNat j))) (.int ((kByt.getD i []).getD j 0)) ∈ flatC gvn := by decide +kernel
theorem gm_ne : ∀ i, i < 4 → ∀ j, j < 4 → i ≠ j → Cond.not (Cond.eq (tmS i) (tmS j)) ∈ flatC gvn ∨ Cond.not (Cond.eq (tmS j) (tmS i)) ∈ flatC gvn := by decide +kernel
theorem gm_b1 : Cond.eq (Term.string RX5 116) (Term.string RX0 112) ∈ flatC gvn := by decide +kernel
theorem gm_b2 : Cond.eq (Term.string RX5 118) (Term.string RX0 142) ∈ flatC gvn := by decide +kernel
theorem gm_nc : ∀ a, a < 6 → ∀ b, b < 6 → a ≠ b → Cond.not (.castable (exn (a + 1)) (exn (b + 1))) ∈ flatC gvn := by decide +kernel
theorem gm_s1 : Cond.isRef (.static Bundle.tN "UNASSIGNED_STACK" Bundle.steD) ∈ flatC gvn := by decide +kernel
theorem gm_s2 : Cond.isRef (.static Bundle.tN "SUPPRESSED_SENTINEL" Bundle.listD) ∈ flatC gvn := by decide +kernel
theorem gm_s3 : Cond.eq (.static "java/lang/String" "COMPACT_STRINGS" "Z") (.int 1) ∈ flatC gvn := by decide +kernel
theorem w_str : ∀ q ∈ kTabL, Cond.stringRef q.1 q.2.1 q.2.2.1 ∈ lw_tbl := by decide +kernel
theorem w_ls1 : Cond.laysStatic Bundle.tN "UNASSIGNED_STACK" Bundle.steD ∈ lw_tbl := by decide +kernel
theorem w_ls2 : Cond.laysStatic Bundle.tN "SUPPRESSED_SENTINEL" Bundle.listD ∈ lw_tbl := by decide +kernel
theorem w_ls3 : Cond.laysStatic "java/lang/String" "COMPACT_STRINGS" "Z" ∈ lw_tbl := by decide +kernel
theorem w_it : Cond.initialized Bundle.tN ∈ lw_tbl := by decide +kernel
theorem w_is : Cond.initialized "java/lang/String" ∈ lw_tbl := by decide +kernel
theorem cst_all {s : State} {a : Array Value} (hts : ∀ w ∈ lw_tbl, w.before a s = true) (hgv : gvn.before a s = true) : ∃ adK adV : Nat → Nat, ∀ E : WE, E.2.2.2 = (adK, adV) → Cst E (fun q => s.heap.size ≤ q) s s.heap ∧ kTab E s := by
  have hs := flat_of_before _ hgv
  have hA : ∀ a : Nat, a < s.heap.size → ¬ (fun q : Nat => s.heap.size ≤ q) a := fun a ha => Nat.not_le.mpr ha
  obtain ⟨adK, adV, hS, hev⟩ := vk_Sof (args := a) (s := s) (N := 4) (tm := tmS) (len := kLen) (byt := kByt) (A := fun q : Nat => s.heap.size ≤ q) (by decide) (fun i hi => hs _ (gm_ex i hi)) (fun i hi => hs _ (gm_co i hi)) (fun i hi => hs _ (gm_ar i hi)) (fun i hi => hs _ (gm_le i hi)) (fun i hi j hj => hs _ (gm_el i hi j hj)) (fun i j hi hj hn => (gm_ne i hi j hj hn).imp (hs _) (hs _)) hA
  refine ⟨adK, adV, fun E hE => ?_⟩
  obtain ⟨x1, x2, x3, x4, x5⟩ := E
  cases hE
  refine ⟨⟨vx_Zqof (hts _ w_ls1) (hts _ w_it) (hs _ gm_s1) hA, vx_Zqof (hts _ w_ls2) (hts _ w_it) (hs _ gm_s2) hA, va_Zof (hts _ w_ls3) (hts _ w_is) (va_eqt (hs _ gm_s3)) hA, hS⟩, ?_⟩
  have e0 := hev 0 (by omega)
  have e1 := hev 1 (by omega)
  have e2 := hev 2 (by omega)
  have e3 := hev 3 (by omega)
  have e4 := va_eqR (hs _ gm_b1) e1
  have e5 := va_eqR (hs _ gm_b2) e2
  intro q hq
  have hw := w_str q hq
  simp only [kTabL, List.mem_cons, List.not_mem_nil, or_false] at hq
  rcases hq with rfl | rfl | rfl | rfl | rfl | rfl
  · exact vk_R.of (hts _ hw) e0
  · exact vk_R.of (hts _ hw) e1
  · exact vk_R.of (hts _ hw) e4
  · exact vk_R.of (hts _ hw) e2
  · exact vk_R.of (hts _ hw) e5
  · exact vk_R.of (hts _ hw) e3
theorem nc_all {s : State} {a : Array Value} (hgv : gvn.before a s = true) : NCs s := by
  intro x y hx hy hn
  obtain ⟨x, rfl⟩ : ∃ z, x = z + 1 := ⟨x - 1, by omega⟩
  obtain ⟨y, rfl⟩ : ∃ z, y = z + 1 := ⟨y - 1, by omega⟩
  exact va_Nc.of (flat_of_before _ hgv _ (gm_nc x (by omega) y (by omega) (by omega)))
/-! the reference's world, when it is made -/
def μM0 : Mem := fun k _ j => if k = 32 then upd (rf 8) 17 1 j else 0
theorem lvM_all {P : Nat × Nat → Prop} (h : ∀ k, 30 ≤ k → k < 43 → P (k, 0)) : ∀ c ∈ lvM, P c := by
  intro c hc
  unfold lvM at hc
  simp only [List.mem_cons, List.not_mem_nil, or_false] at hc
  rcases hc with rfl | rfl | rfl | rfl | rfl | rfl | rfl | rfl | rfl | rfl | rfl | rfl | rfl <;> exact h _ (by omega) (by omega)
theorem adr_M {k : Nat} (hk : 30 ≤ k) : adr k 0 = 42 + k := by
  unfold adr
  rw [if_neg (by omega), if_neg (by omega), if_neg (by omega)]
theorem k13 {k : Nat} (h : 30 ≤ k) (h' : k < 43) : k = 30 ∨ k = 31 ∨ k = 32 ∨ k = 33 ∨ k = 34 ∨ k = 35 ∨ k = 36 ∨ k = 37 ∨ k = 38 ∨ k = 39 ∨ k = 40 ∨ k = 41 ∨ k = 42 := by omega
theorem made_M {E : WE} {b : Nat} {H : Heap} (hE : ∀ k, 30 ≤ k → E.1 k 0 = b + (k - 30)) (hP : va_P E.2.1 vwCl (wsb b (mL E b (upd (rf 8) 17 1))) H) : va_P E.2.1 vwCl (cs E lvM μM0) H := by
  refine cs_of (lvM_all (fun k hk hk' => ?_))
  rcases k13 hk hk' with rfl | rfl | rfl | rfl | rfl | rfl | rfl | rfl | rfl | rfl | rfl | rfl | rfl
  · refine at_of hP (m := 0) rfl (hE 30 (by omega)) ?_
    show Sum.inr (8, [Value.ref (E.1 31 0), .int 0, .ref (E.1 32 0), .ref (E.1 33 0), .ref (E.1 34 0), .ref (E.1 35 0), .ref (E.1 36 0), .ref (E.1 37 0), .ref (E.1 38 0), .int 0, .int 0, .int 0, .ref (E.1 39 0), .ref (E.1 40 0), .ref (E.1 41 0), .ref (E.1 42 0), .int 0, .int 0, .int 0]) = _
    rw [hE 31 (by omega), hE 32 (by omega), hE 33 (by omega), hE 34 (by omega), hE 35 (by omega), hE 36 (by omega), hE 37 (by omega), hE 38 (by omega), hE 39 (by omega), hE 40 (by omega), hE 41 (by omega), hE 42 (by omega)]
  · exact at_of hP (m := 1) rfl (hE 31 (by omega)) rfl
  · exact at_of hP (m := 2) rfl (hE 32 (by omega)) rfl
  · exact at_of hP (m := 3) rfl (hE 33 (by omega)) rfl
  · exact at_of hP (m := 4) rfl (hE 34 (by omega)) rfl
  · exact at_of hP (m := 5) rfl (hE 35 (by omega)) rfl
  · exact at_of hP (m := 6) rfl (hE 36 (by omega)) rfl
  · exact at_of hP (m := 7) rfl (hE 37 (by omega)) rfl
  · exact at_of hP (m := 8) rfl (hE 38 (by omega)) rfl
  · exact at_of hP (m := 9) rfl (hE 39 (by omega)) rfl
  · exact at_of hP (m := 10) rfl (hE 40 (by omega)) rfl
  · exact at_of hP (m := 11) rfl (hE 41 (by omega)) rfl
  · exact at_of hP (m := 12) rfl (hE 42 (by omega)) rfl
theorem lvM_ix : ∀ i c, lvM[i]? = some c → c = (30 + i, 0) ∧ i < 13 := by
  intro i c h
  have h1 : i < 13 := (List.getElem?_eq_some_iff.mp h).1
  have h2 : i = 0 ∨ i = 1 ∨ i = 2 ∨ i = 3 ∨ i = 4 ∨ i = 5 ∨ i = 6 ∨ i = 7 ∨ i = 8 ∨ i = 9 ∨ i = 10 ∨ i = 11 ∨ i = 12 := by omega
  rcases h2 with rfl | rfl | rfl | rfl | rfl | rfl | rfl | rfl | rfl | rfl | rfl | rfl | rfl <;> (cases h; exact ⟨rfl, h1⟩)
theorem AdM {E : WE} {b : Nat} (hE : ∀ k, 30 ≤ k → E.1 k 0 = b + (k - 30)) : AdOk E lvM := by
  intro i j c d hi hj e
  obtain ⟨rfl, h1⟩ := lvM_ix i c hi
  obtain ⟨rfl, h2⟩ := lvM_ix j d hj
  dsimp only at e
  rw [hE _ (by omega), hE _ (by omega)] at e
  omega
/-- both sides agree at the start -/
theorem inv_0 : Inv μI μM0 := by
  refine ⟨⟨fun _ => 0, 0, ⟨by omega, fun j hj => by omega⟩, ⟨nI_0.symm, fun j hj => by omega⟩, ⟨nI_0.symm, fun j hj => by omega⟩⟩, ⟨(1, fun _ => 0, fun _ => 0), ⟨by show 1 ≤ 3; omega, fun k _ => by show 0 ≤ 48; omega, by show 1 * 0 ≤ 48; omega⟩, ⟨?_, ?_, fun k hk => ?_, fun k hk => ?_⟩, ⟨?_, fun k hk => ?_, fun k hk => ?_⟩⟩, ?_, ⟨fun j => 8 + j, 16, 0, ⟨fun j hj => ⟨by show 8 ≤ 8 + j; omega, by show 8 + j < 17; omega, by show 8 + j ≠ 16; omega⟩, fun i j _ _ h => by have h : 8 + i = 8 + j := h; omega, by omega, by omega⟩, ⟨?_, ?_, fun j hj => ?_⟩⟩, ?_⟩
  · rfl
  · exact nI_0.symm
  · have hk : k < 1 := hk
    have : k = 0 := by omega
    subst this
    exact nI_0.symm
  · exact absurd (show k < 1 * 0 from hk) (by omega)
  · show upd (rf 8) 17 1 17 = nI 1
    unfold upd; rw [if_pos rfl]; rfl
  · exact nI_0.symm
  · exact absurd (show k < 1 * 0 from hk) (by omega)
  · intro a ha
    left
    refine ⟨rfl, ?_⟩
    show upd (rf 8) 17 1 (9 + a) = -1
    unfold upd rf
    rw [if_neg (by omega), if_pos (by omega)]
  · rfl
  · exact nI_0.symm
  · rfl
  · rfl
