/-! ===== the law's loop: its head, its turns ===== -/
theorem and15 (x : Int32) : ∃ k : Nat, k < 16 ∧ x &&& (15 : Int32) = nI k := by
  refine ⟨(x.toBitVec &&& 15#32).toNat, ?_, ?_⟩
  · rw [BitVec.toNat_and]
    exact Nat.lt_of_le_of_lt Nat.and_le_right (by decide)
  · apply Int32.toBitVec_inj.mp
    rw [Int32.toBitVec_and]
    unfold nI
    rw [Int32.toBitVec_ofNat', BitVec.ofNat_toNat, BitVec.setWidth_eq]
    rfl
theorem k16 {k : Nat} (h : k < 16) : k = 0 ∨ k = 1 ∨ k = 2 ∨ k = 3 ∨ k = 4 ∨ k = 5 ∨ k = 6 ∨ k = 7 ∨ k = 8 ∨ k = 9 ∨ k = 10 ∨ k = 11 ∨ k = 12 ∨ k = 13 ∨ k = 14 ∨ k = 15 := by omega
theorem len_2 {L : Nat} (h : L ≤ 1024) : (nI L - 2).toInt = (L : Int) - 2 := by
  rw [Int32.toInt_sub, nI_toInt (by omega)]
  have : (2 : Int32).toInt = 2 := by decide
  rw [this]
  exact Int.bmod_eq_of_le (by omega) (by omega)
section LLQ
variable {p : Program} {l : Launch} {e : Env} {s : State} {m : MethodId} {below : List Frame} {meth : Method} {c : Code} {E : WE} {cJ : ClassId} {o b L i : Nat} {xs : Nat → Int32}
/-- at the loop's head with i ints read -/
def Hd (p : Program) (l : Launch) (e : Env) (s : State) (m : MethodId) (below : List Frame) (meth : Method) (c : Code) (E : WE) (cJ : ClassId) (o b i : Nat) : Prop := ∀ (μC μM : Mem) (f : Nat → Int64) (H : Heap) (locs : List Loc) (ls : Array Slot), Inv μC μM → WL E cJ o μC μM f H → va_S (fun q => s.heap.size ≤ q) s.heap H locs → lv_has ls 7 (lLoc E b o i) → W p l e room_1 s m #[Value.ref b] below meth c H locs (87 + 2 * i) (4741 + 12 * i) (lw_Z below #[Value.ref b] s) (F0 m 23 ls [])
set_option maxHeartbeats 4000000 in
set_option maxRecDepth 100000 in
theorem go_of (C0 : lw_At p s m meth c b L xs) (ih : Hd p l e s m below meth c E cJ o b (i + 2)) : Go p l e s m below meth c E cJ o b i := by
  obtain ⟨hx, hb, hr, hml, hown, hts, hX, hbl, hlocks, hgv⟩ := C0
  intro μC μM f H locs ls hI hW hS hl
  refine lv_iinc (v := nI (i + 2)) (lv' := [(4, .int (nI (i + 2))), (0, .ref b), (1, .ref (E.1 0 0)), (2, .ref (E.1 30 0)), (3, .ref o)]) hx hb dL_law_330 hl (k := 4) rfl (nI_add i 2) (by decide) rfl (fun ls1 hl1 => ?_)
  refine lv_goto (tgt := 23) hx hb dL_law_333 (by decide) ?_
  have h1 := ih μC μM f H locs ls1 hI hW hS (lv_sub hl1 [1, 2, 3, 4, 0] rfl)
  rw [show 87 + 2 * (i + 2) = 87 + 2 * i + 4 by omega, show 4741 + 12 * (i + 2) = 4741 + 12 * i + 24 by omega] at h1
  exact h1
set_option maxHeartbeats 4000000 in
set_option maxRecDepth 100000 in
theorem law_head (C0 : lw_At p s m meth c b L xs) (B : LB l E cJ o s) (hL : L ≤ 1024) (hi9 : i ≤ 1026) (ih : i + 2 ≤ L → Hd p l e s m below meth c E cJ o b (i + 2)) : Hd p l e s m below meth c E cJ o b i := by
  have C1 := C0
  obtain ⟨hx, hb, hr, hml, hown, hts, hX, hbl, hlocks, hgv⟩ := C0
  have hbA : ¬ (fun q : Nat => s.heap.size ≤ q) b := Nat.not_le.mpr hbl
  intro μC μM f H locs ls hI hW hS hl
  refine lv_iload hx hb dL_law_23 (lv_at hl 4 rfl) ?_
  refine lv_aload_n hx hb dL_law_25 rfl (lv_at hl 0 rfl) ?_
  refine va_slen hx hb hX hbl hbA hS dL_law_26 ?_
  refine lv_iconst (v := 2) hx hb dL_law_27 (by decide) ?_
  refine lv_isub hx hb dL_law_28 ?_
  have e2 : (Int32.ofNat L - 2).toInt = (L : Int) - 2 := len_2 hL
  refine lv_icmp_gt (tgt := 336) hx hb dL_law_29 (by decide) (fun _ => ?_) (fun hc => ?_)
  · refine lv_iconst (v := 1) hx hb dL_law_336 (by decide) ?_
    refine va_forget (fun q hq => hS.2.2 q hq) ?_
    refine W.widen (k := 603072) (n := 7215210) (by omega) (by omega) ?_
    exact lw_ret hx hb hr hlocks dL_law_337
  · have hi : i + 2 ≤ L := by
      rw [Int32.lt_iff_toInt_lt, e2, nI_toInt (by omega)] at hc
      omega
    have go := go_of C1 (ih hi)
    have hin : vp_in (nI i) L := vp_in_nI (by omega) (by omega)
    refine lv_aload_n hx hb dL_law_32 rfl (lv_at hl 0 rfl) ?_
    refine lv_iload hx hb dL_law_33 (lv_at hl 4 rfl) ?_
    refine va_sld hx hb hX hbl hbA hS hin dL_law_35 ?_
    refine lv_bipush (v := 15) hx hb dL_law_36 (by decide) ?_
    refine lv_iand hx hb dL_law_38 ?_
    obtain ⟨k, hk, ek⟩ := and15 (xs (nI i).toNatClampNeg)
    rw [ek]
    rcases k16 hk with rfl | rfl | rfl | rfl | rfl | rfl | rfl | rfl | rfl | rfl | rfl | rfl | rfl | rfl | rfl | rfl
    · refine lv_tableIn (off := 57) (tgt := 96) hx hb dL_law_39 (by decide) (by decide) (by decide) (by decide) ?_
      exact lc_feed C1 B hL hi go hI hW hS hl
    · refine lv_tableIn (off := 82) (tgt := 121) hx hb dL_law_39 (by decide) (by decide) (by decide) (by decide) ?_
      exact lc_clear C1 B hL hi go hI hW hS hl
    · refine lv_tableIn (off := 93) (tgt := 132) hx hb dL_law_39 (by decide) (by decide) (by decide) (by decide) ?_
      exact lc_run C1 B hL hi go hI hW hS hl
    · refine lv_tableIn (off := 137) (tgt := 176) hx hb dL_law_39 (by decide) (by decide) (by decide) (by decide) ?_
      exact lc_rank C1 B hL hi go hI hW hS hl
    · refine lv_tableIn (off := 150) (tgt := 189) hx hb dL_law_39 (by decide) (by decide) (by decide) (by decide) ?_
      exact lc_axis C1 B hL hi go hI hW hS hl
    · refine lv_tableIn (off := 175) (tgt := 214) hx hb dL_law_39 (by decide) (by decide) (by decide) (by decide) ?_
      exact lc_size C1 B hL hi go hI hW hS hl
    · refine lv_tableIn (off := 188) (tgt := 227) hx hb dL_law_39 (by decide) (by decide) (by decide) (by decide) ?_
      exact lc_element C1 B hL hi go hI hW hS hl
    · refine lv_tableIn (off := 214) (tgt := 253) hx hb dL_law_39 (by decide) (by decide) (by decide) (by decide) ?_
      exact lc_sum C1 B hL hi go hI hW hS hl
    · refine lv_tableIn (off := 228) (tgt := 267) hx hb dL_law_39 (by decide) (by decide) (by decide) (by decide) ?_
      exact lc_held C1 B hL hi go hI hW hS hl
    · refine lv_tableIn (off := 253) (tgt := 292) hx hb dL_law_39 (by decide) (by decide) (by decide) (by decide) ?_
      exact lc_forget C1 B hL hi go hI hW hS hl
    · refine lv_tableIn (off := 278) (tgt := 317) hx hb dL_law_39 (by decide) (by decide) (by decide) (by decide) ?_
      exact lc_done C1 B hL hi go hI hW hS hl
    · refine lv_tableOut (tgt := 330) hx hb dL_law_39 (by decide) (by decide) ?_
      refine W.widen (k := 87 + 2 * i + 4) (n := 4741 + 12 * i + 24) (by omega) (by omega) ?_
      exact go μC μM f H locs ls hI hW hS hl
    · refine lv_tableOut (tgt := 330) hx hb dL_law_39 (by decide) (by decide) ?_
      refine W.widen (k := 87 + 2 * i + 4) (n := 4741 + 12 * i + 24) (by omega) (by omega) ?_
      exact go μC μM f H locs ls hI hW hS hl
    · refine lv_tableOut (tgt := 330) hx hb dL_law_39 (by decide) (by decide) ?_
      refine W.widen (k := 87 + 2 * i + 4) (n := 4741 + 12 * i + 24) (by omega) (by omega) ?_
      exact go μC μM f H locs ls hI hW hS hl
    · refine lv_tableOut (tgt := 330) hx hb dL_law_39 (by decide) (by decide) ?_
      refine W.widen (k := 87 + 2 * i + 4) (n := 4741 + 12 * i + 24) (by omega) (by omega) ?_
      exact go μC μM f H locs ls hI hW hS hl
    · refine lv_tableOut (tgt := 330) hx hb dL_law_39 (by decide) (by decide) ?_
      refine W.widen (k := 87 + 2 * i + 4) (n := 4741 + 12 * i + 24) (by omega) (by omega) ?_
      exact go μC μM f H locs ls hI hW hS hl
theorem law_loop (C0 : lw_At p s m meth c b L xs) (B : LB l E cJ o s) (hL : L ≤ 1024) : ∀ n i, L ≤ i + 2 * n → i ≤ 1026 → Hd p l e s m below meth c E cJ o b i := by
  intro n
  induction n with
  | zero => exact fun i h1 h2 => law_head C0 B hL h2 (fun h3 => by omega)
  | succ n ih => exact fun i h1 h2 => law_head C0 B hL h2 (fun h3 => ih (i + 2) (by omega) (by omega))
end LLQ
