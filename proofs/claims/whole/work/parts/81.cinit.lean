/-! ===== RankCalc's constructor ===== -/
def gb (g : Nat) : Nat := if g < 8 then 14 + 3 * g else if g < 16 then 21 + 3 * g else if g = 16 then 42 else 69
/-- the place of a cell, from the address b on -/
def adr (k i : Nat) : Nat := if k < 14 then k else if k < 18 then 24 + k else if k < 30 then gb i + (k - 20) else 42 + k
abbrev oCalc (a b c d : Value) : va_E := .inr (7, [a, b, c, d])
def K3 (E : WE) (b : Nat) : List va_E := [oCalc (.ref (b + 1)) .null .null .null, .inr (5, [.ref (b + 2), .ref (b + 4), .ref (b + 5), .ref (b + 6), .ref (b + 7), .ref (b + 8), .ref (b + 9), .ref (b + 10), .int 0, .int 0, .int 0, .int 0, .int 0, .int 0]), .inr (6, [.ref (b + 3), .int 0]), zC E 200, zI E 200, zI E 200, zI E 200, zC E 200, zC E 200, zC E 200, zI E 200]
theorem K3_eq (E : WE) (b : Nat) : (sI E b [bCalc, bStmt] 1).set 0 (oCalc (.ref (b + 1)) .null .null .null) = K3 E b := rfl
def N5 (E : WE) (b : Nat) : List va_E := K3 E b ++ [.inr (4, [.ref (b + 12), .ref (b + 13)]), qG E, zZ E 8]
theorem N5_eq (E : WE) (b : Nat) : nB E b (K3 E b ++ [bNames]) 11 = N5 E b := rfl
def K5 (E : WE) (b : Nat) : List va_E := (rL E b (N5 E b) 12 8).1
theorem K5_eq (E : WE) (b : Nat) : nI9 E b (K3 E b ++ [bNames]) 11 = K5 E b := rfl
theorem K5_len (E : WE) (b : Nat) : (K5 E b).length = 38 := rL_len E b (N5 E b) 12 8
theorem K5_lo {E : WE} {b m : Nat} {e : va_E} (h : (N5 E b)[m]? = some e) (hm : 12 ≠ m) : (K5 E b)[m]? = some e := rL_ne h hm 8
theorem K5_arr (E : WE) (b : Nat) : (K5 E b)[12]? = some (.inl (E.2.2.1 3, 8, .inr (.inr (.inr (.inr (rL E b (N5 E b) 12 8).2))))) := rL_arr (b := b) rfl 8
theorem K5_row (E : WE) (b i : Nat) (hi : i < 8) : (rL E b (N5 E b) 12 8).2 i = some (b + (14 + 3 * i)) := rL_row 8 (by omega) i hi
theorem K5_g (E : WE) (b i : Nat) (hi : i < 8) : (K5 E b)[14 + 3 * i]? = some (.inr (3, [.ref (b + (14 + 3 * i + 1)), .ref (b + (14 + 3 * i + 2)), .int 1, .int 0])) ∧ (K5 E b)[14 + 3 * i + 1]? = some (zI E 3) ∧ (K5 E b)[14 + 3 * i + 2]? = some (zI E 48) := rL_cells (show 12 < 14 by omega) 8 i hi
def K7 (E : WE) (b : Nat) : List va_E := (K5 E b).set 0 (oCalc (.ref (b + 1)) (.ref (b + 11)) .null .null) ++ [bBench]
theorem K7_len (E : WE) (b : Nat) : (K7 E b).length = 39 := by simp [K7, K5_len]
theorem K7_at (E : WE) (b : Nat) : (K7 E b)[38]? = some bBench := ap_new (by rw [List.length_set, K5_len])
section B9
variable {E : WE} {b : Nat} {K : List va_E}
def c1B (E : WE) (b : Nat) (K : List va_E) : List va_E := (K ++ [qG E]).set 38 (.inr (2, [.ref (b + K.length), .null, .null, .null, .int 0, .int 0, .int 0]))
def c2B (E : WE) (b : Nat) (K : List va_E) : List va_E := (c1B E b K ++ [zI E 7]).set 38 (.inr (2, [.ref (b + K.length), .ref (b + (c1B E b K).length), .null, .null, .int 0, .int 0, .int 0]))
def c3B (E : WE) (b : Nat) (K : List va_E) : List va_E := (c2B E b K ++ [zI E 48]).set 38 (.inr (2, [.ref (b + K.length), .ref (b + (c1B E b K).length), .ref (b + (c2B E b K).length), .null, .int 0, .int 0, .int 0]))
theorem bB9_eq : bB9 E b K 38 = (gI E b (c3B E b K ++ [bGrid]) (c3B E b K).length).set 38 (.inr (2, [.ref (b + K.length), .ref (b + (c1B E b K).length), .ref (b + (c2B E b K).length), .ref (b + (c3B E b K).length), .int 0, .int 0, .int 0])) := rfl
theorem c1B_len : (c1B E b K).length = K.length + 1 := by simp [c1B]
theorem c2B_len : (c2B E b K).length = K.length + 2 := by simp [c2B, c1B_len]
theorem c3B_len : (c3B E b K).length = K.length + 3 := by simp [c3B, c2B_len]
theorem bB9_len : (bB9 E b K 38).length = K.length + 6 := by rw [bB9_eq, List.length_set, gI_len, List.length_append, c3B_len]; simp
theorem c3B_lo {m : Nat} {e : va_E} (h : K[m]? = some e) (hm : 38 ≠ m) : (c3B E b K)[m]? = some e := st_ne (ap_at (st_ne (ap_at (st_ne (ap_at h) hm)) hm)) hm
theorem bB9_lo {m : Nat} {e : va_E} (h : (c3B E b K)[m]? = some e) (hm : 38 ≠ m) : (bB9 E b K 38)[m]? = some e := st_ne (gI_ne (ap_at h) (ln_ne h)) hm
theorem c3B_39 (hK : K.length = 39) : (c3B E b K)[39]? = some (qG E) := st_ne (ap_at (st_ne (ap_at (st_ne (ap_new hK) (by omega))) (by omega))) (by omega)
theorem c3B_40 (hK : K.length = 39) : (c3B E b K)[40]? = some (zI E 7) := st_ne (ap_at (st_ne (ap_new (by rw [c1B_len, hK])) (by omega))) (by omega)
theorem c3B_41 (hK : K.length = 39) : (c3B E b K)[41]? = some (zI E 48) := st_ne (ap_new (by rw [c2B_len, hK])) (by omega)
theorem bB9_obj (hK : K.length = 39) (h : K[38]? = some bBench) : (bB9 E b K 38)[38]? = some (.inr (2, [.ref (b + 39), .ref (b + 40), .ref (b + 41), .ref (b + 42), .int 0, .int 0, .int 0])) := by
  have h1 : (c3B E b K)[38]? = some (.inr (2, [.ref (b + K.length), .ref (b + (c1B E b K).length), .ref (b + (c2B E b K).length), .null, .int 0, .int 0, .int 0])) := st_at (ap_at (st_at (ap_at (st_at (ap_at h)))))
  have h2 := st_at (x := (.inr (2, [.ref (b + K.length), .ref (b + (c1B E b K).length), .ref (b + (c2B E b K).length), .ref (b + (c3B E b K).length), .int 0, .int 0, .int 0]) : va_E)) (gI_ne (E := E) (b := b) (ap_at (x := bGrid) h1) (ln_ne h1))
  rw [bB9_eq, h2, c1B_len, c2B_len, c3B_len, hK]
theorem bB9_g (hK : K.length = 39) : (bB9 E b K 38)[42]? = some (.inr (3, [.ref (b + 43), .ref (b + 44), .int 1, .int 0])) ∧ (bB9 E b K 38)[43]? = some (zI E 3) ∧ (bB9 E b K 38)[44]? = some (zI E 48) := by
  have hl : (c3B E b K).length = 42 := by rw [c3B_len, hK]
  have hg : (c3B E b K ++ [bGrid])[(c3B E b K).length]? = some bGrid := ap_new rfl
  have h1 := gI_obj (E := E) (b := b) hg
  have h2 := gI_len0 (E := E) (b := b) hg
  have h3 := gI_len1 (E := E) (b := b) hg
  simp only [List.length_append, List.length_cons, List.length_nil, hl] at h1 h2 h3
  rw [bB9_eq, hl]
  exact ⟨st_ne h1 (by omega), st_ne h2 (by omega), st_ne h3 (by omega)⟩
end B9
def K8 (E : WE) (b : Nat) : List va_E := (rL E b (bB9 E b (K7 E b) 38) 39 8).1
theorem K8_eq (E : WE) (b : Nat) : bI9 E b (K7 E b) 38 = K8 E b := by
  unfold bI9 K8
  rw [K7_len]
theorem B9_len (E : WE) (b : Nat) : (bB9 E b (K7 E b) 38).length = 45 := by rw [bB9_len, K7_len]
theorem K8_len (E : WE) (b : Nat) : (K8 E b).length = 69 := by unfold K8; rw [rL_len, B9_len]
theorem K8_lo {E : WE} {b m : Nat} {e : va_E} (h : (bB9 E b (K7 E b) 38)[m]? = some e) (hm : 39 ≠ m) : (K8 E b)[m]? = some e := rL_ne h hm 8
theorem K8_arr (E : WE) (b : Nat) : (K8 E b)[39]? = some (.inl (E.2.2.1 3, 8, .inr (.inr (.inr (.inr (rL E b (bB9 E b (K7 E b) 38) 39 8).2))))) := rL_arr (b := b) (bB9_lo (c3B_39 (K7_len E b)) (by omega)) 8
theorem K8_row (E : WE) (b i : Nat) (hi : i < 8) : (rL E b (bB9 E b (K7 E b) 38) 39 8).2 i = some (b + (45 + 3 * i)) := by
  have := rL_row (E := E) (b := b) (base := bB9 E b (K7 E b) 38) (a := 39) 8 (by omega) i hi
  rw [B9_len] at this
  exact this
theorem K8_g (E : WE) (b i : Nat) (hi : i < 8) : (K8 E b)[45 + 3 * i]? = some (.inr (3, [.ref (b + (45 + 3 * i + 1)), .ref (b + (45 + 3 * i + 2)), .int 1, .int 0])) ∧ (K8 E b)[45 + 3 * i + 1]? = some (zI E 3) ∧ (K8 E b)[45 + 3 * i + 2]? = some (zI E 48) := by
  have := rL_cells (E := E) (b := b) (base := bB9 E b (K7 E b) 38) (a := 39) (by rw [B9_len]; omega) 8 i hi
  rw [B9_len] at this
  exact this
theorem K8_5 {E : WE} {b m : Nat} {e : va_E} (h : (K5 E b)[m]? = some e) (h0 : 0 ≠ m) (hm : m < 38) : (K8 E b)[m]? = some e := K8_lo (bB9_lo (c3B_lo (ap_at (st_ne h h0)) (by omega)) (by omega)) (by omega)
def K9 (E : WE) (b : Nat) : List va_E := (K8 E b).set 0 (oCalc (.ref (b + 1)) (.ref (b + 11)) (.ref (b + 38)) .null)
theorem K9_len (E : WE) (b : Nat) : (K9 E b).length = 69 := by rw [K9, List.length_set, K8_len]
def K12 (E : WE) (b : Nat) : List va_E := (gI E b (K9 E b ++ [bGrid]) 69).set 0 (oCalc (.ref (b + 1)) (.ref (b + 11)) (.ref (b + 38)) (.ref (b + 69)))
theorem K12_len (E : WE) (b : Nat) : (K12 E b).length = 72 := by rw [K12, List.length_set, gI_len, List.length_append, K9_len]; rfl
theorem K12_8 {E : WE} {b m : Nat} {e : va_E} (h : (K8 E b)[m]? = some e) (h0 : 0 ≠ m) : (K12 E b)[m]? = some e := by
  have hm : 69 ≠ m := by
    have := ln_ne h
    rw [K8_len] at this
    exact this
  exact st_ne (gI_ne (ap_at (st_ne h h0)) hm) h0
theorem K8_0 (E : WE) (b : Nat) : (K8 E b)[0]? = some (oCalc (.ref (b + 1)) (.ref (b + 11)) .null .null) := by
  have h5 : (K5 E b)[0]? = some (oCalc (.ref (b + 1)) .null .null .null) := K5_lo rfl (by omega)
  exact K8_lo (bB9_lo (c3B_lo (ap_at (st_at h5)) (by omega)) (by omega)) (by omega)
theorem K9_0 (E : WE) (b : Nat) : (K9 E b)[0]? = some (oCalc (.ref (b + 1)) (.ref (b + 11)) (.ref (b + 38)) .null) := st_at (K8_0 E b)
theorem g69_0 (E : WE) (b : Nat) : (gI E b (K9 E b ++ [bGrid]) 69)[0]? = some (oCalc (.ref (b + 1)) (.ref (b + 11)) (.ref (b + 38)) .null) := gI_ne (ap_at (K9_0 E b)) (by omega)
theorem K12_0 (E : WE) (b : Nat) : (K12 E b)[0]? = some (oCalc (.ref (b + 1)) (.ref (b + 11)) (.ref (b + 38)) (.ref (b + 69))) := st_at (g69_0 E b)
theorem K12_g (E : WE) (b : Nat) : (K12 E b)[69]? = some (.inr (3, [.ref (b + 70), .ref (b + 71), .int 1, .int 0])) ∧ (K12 E b)[70]? = some (zI E 3) ∧ (K12 E b)[71]? = some (zI E 48) := by
  have hg : (K9 E b ++ [bGrid])[69]? = some bGrid := ap_new (K9_len E b)
  have h1 := gI_obj (E := E) (b := b) hg
  have h2 := gI_len0 (E := E) (b := b) hg
  have h3 := gI_len1 (E := E) (b := b) hg
  simp only [List.length_append, List.length_cons, List.length_nil, K9_len] at h1 h2 h3
  exact ⟨st_ne h1 (by omega), st_ne h2 (by omega), st_ne h3 (by omega)⟩
/-- the memory of a new RankCalc -/
def μI : Mem := fun k _ j => if k = 14 then (if j = 3 then 16 else 0) else if k = 15 then nI (8 + j) else if k = 20 then (if j = 2 then 1 else 0) else 0
theorem at_of {D : va_G} {b : Nat} {K : List va_E} {H : Heap} (hP : va_P D vwCl (wsb b K) H) {m a : Nat} {e e' : va_E} (hm : K[m]? = some e) (ha : a = b + m) (he : e' = e) : va_at D vwCl (a, e') H := by
  subst ha he
  exact hP m _ (wsb_at hm)
theorem at_arr {D : va_G} {b : Nat} {K : List va_E} {H : Heap} (hP : va_P D vwCl (wsb b K) H) {m a n : Nat} {c : ClassId} {f f' : Nat → Option Nat} (hm : K[m]? = some (.inl (c, n, .inr (.inr (.inr (.inr f)))))) (ha : a = b + m) (hf : ∀ j, j < n → f' j = f j) : va_at D vwCl (a, .inl (c, n, .inr (.inr (.inr (.inr f'))))) H := by
  subst ha
  have h1 : H[b + m]? = some (vp_cell c (n, .inr (.inr (.inr (.inr f))))) := hP m _ (wsb_at hm)
  show H[b + m]? = some (vp_cell c (n, .inr (.inr (.inr (.inr f')))))
  rw [h1, vp_cell_q, vp_cell_q]
  unfold arrV
  congr 2
  apply congrArg
  funext j
  show va_rf (f j.val) = va_rf (f' j.val)
  rw [hf j.val j.isLt]
theorem lvC_all {P : Nat × Nat → Prop} (h : ∀ k, k < 18 → P (k, 0)) (hg : ∀ g, g < 18 → P (20, g) ∧ P (21, g) ∧ P (22, g)) : ∀ c ∈ lvC, P c := by
  intro c hc
  unfold lvC at hc
  rcases List.mem_append.mp hc with hc | hc
  · simp only [List.mem_cons, List.not_mem_nil, or_false] at hc
    rcases hc with rfl | rfl | rfl | rfl | rfl | rfl | rfl | rfl | rfl | rfl | rfl | rfl | rfl | rfl | rfl | rfl | rfl | rfl <;> exact h _ (by omega)
  · obtain ⟨g, hg1, hg2⟩ := List.mem_flatMap.mp hc
    have hg3 := List.mem_range.mp hg1
    simp only [List.mem_cons, List.not_mem_nil, or_false] at hg2
    obtain ⟨a1, a2, a3⟩ := hg g hg3
    rcases hg2 with rfl | rfl | rfl
    · exact a1
    · exact a2
    · exact a3
theorem cs_of {E : WE} {lv : List (Nat × Nat)} {μ : Mem} {H : Heap} (h : ∀ c ∈ lv, va_at E.2.1 vwCl (E.1 c.1 c.2, celk E c.1 c.2 (μ c.1 c.2)) H) : va_P E.2.1 vwCl (cs E lv μ) H := by
  intro k q hk
  obtain ⟨c, h1, rfl⟩ := cs_inv hk
  exact h c (List.mem_of_getElem? h1)
