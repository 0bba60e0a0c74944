/-! ===== the law's loop ===== -/
section LLP
variable {p : Program} {l : Launch} {e : Env} {s : State} {m : MethodId} {below : List Frame} {meth : Method} {c : Code} {E : WE} {cJ : ClassId} {o b L i : Nat} {xs : Nat → Int32} {μC μM : Mem} {f : Nat → Int64} {H : Heap} {locs : List Loc} {ls : Array Slot}
abbrev lLoc (E : WE) (b o i : Nat) : List (Nat × Value) := [(0, .ref b), (1, .ref (E.1 0 0)), (2, .ref (E.1 30 0)), (3, .ref o), (4, .int (nI i))]
/-- behind a call's comparison all is well -/
def Go (p : Program) (l : Launch) (e : Env) (s : State) (m : MethodId) (below : List Frame) (meth : Method) (c : Code) (E : WE) (cJ : ClassId) (o b i : Nat) : Prop := ∀ (μC μM : Mem) (f : Nat → Int64) (H : Heap) (locs : List Loc) (ls : Array Slot), Inv μC μM → WL E cJ o μC μM f H → va_S (fun q => s.heap.size ≤ q) s.heap H locs → lv_has ls 7 (lLoc E b o i) → W p l e room_1 s m #[Value.ref b] below meth c H locs (87 + 2 * i + 4) (4741 + 12 * i + 24) (lw_Z below #[Value.ref b] s) (F0 m 330 ls [])
set_option maxHeartbeats 4000000 in
set_option maxRecDepth 100000 in
theorem lc_feed (C0 : lw_At p s m meth c b L xs) (B : LB l E cJ o s) (hL : L ≤ 1024) (hi : i + 2 ≤ L) (go : Go p l e s m below meth c E cJ o b i) (hI : Inv μC μM) (hW : WL E cJ o μC μM f H) (hS : va_S (fun q => s.heap.size ≤ q) s.heap H locs) (hl : lv_has ls 7 (lLoc E b o i)) : W p l e room_1 s m #[Value.ref b] below meth c H locs (87 + 2 * i) (4741 + 12 * i) (lw_Z below #[Value.ref b] s) (F0 m 96 ls []) := by
  obtain ⟨hx, hb, hr, hml, hown, hts, hX, hbl, hlocks, hgv⟩ := C0
  have hbA : ¬ (fun q : Nat => s.heap.size ≤ q) b := Nat.not_le.mpr hbl
  have hin : vp_in (nI (i + 1)) L := vp_in_nI (by omega) (by omega)
  have hc0 : 87 + 2 * i + 1 ≤ 603072 ∧ 4741 + 12 * i + 6 ≤ 7215210 := by omega
  have hc1 : 87 + 2 * i + 1 + 1 ≤ 603072 ∧ 4741 + 12 * i + 6 + 6 ≤ 7215210 := by omega
  obtain ⟨v, μC1, μM1, g1, g2, hI1⟩ := feed_eq (xs (nI (i + 1)).toNatClampNeg) hI
  refine lv_aload_n hx hb dL_law_96 rfl (lv_at hl 1 rfl) ?_
  refine lv_aload_n hx hb dL_law_97 rfl (lv_at hl 0 rfl) ?_
  refine lv_iload hx hb dL_law_98 (lv_at hl 4 rfl) ?_
  refine lv_iconst (v := 1) hx hb dL_law_100 (by decide) ?_
  refine lv_iadd hx hb dL_law_101 ?_
  rw [← nI_succ]
  refine va_sld hx hb hX hbl hbA hS hin dL_law_102 ?_
  refine L_callC hx hb hml hown B hW hS hl.1 [.int (xs (nI (i + 1)).toNatClampNeg)] (some (.int v)) (con_X7_feed B.1 (xs (nI (i + 1)).toNatClampNeg) g1) tl_X7_feed kl_X7_feed rfl (by omega) (by omega) hc0 rfl (Nat.le_of_ble_eq_true rfl) rfl dL_law_103 (fun H1 locs1 hW1 hS1 => ?_)
  refine lv_aload_n hx hb dL_law_106 rfl (lv_at hl 2 rfl) ?_
  refine lv_aload_n hx hb dL_law_107 rfl (lv_at hl 0 rfl) ?_
  refine lv_iload hx hb dL_law_108 (lv_at hl 4 rfl) ?_
  refine lv_iconst (v := 1) hx hb dL_law_110 (by decide) ?_
  refine lv_iadd hx hb dL_law_111 ?_
  rw [← nI_succ]
  refine va_sld hx hb hX hbl hbA hS1 hin dL_law_112 ?_
  refine L_callM (st := [.int v]) hx hb hml hown B hW1 hS1 hl.1 [.int (xs (nI (i + 1)).toNatClampNeg)] (some (.int v)) (con_X8_feed B.1 (xs (nI (i + 1)).toNatClampNeg) g2) tl_X8_feed kl_X8_feed rfl (by omega) (by omega) hc1 rfl (Nat.le_of_ble_eq_true rfl) rfl dL_law_113 (fun H2 locs2 hW2 hS2 => ?_)
  refine lv_icmp_eq (tgt := 330) hx hb dL_law_116 (by decide) (fun _ => ?_) (fun hc => absurd rfl hc)
  refine W.widen (k := 87 + 2 * i + 4) (n := 4741 + 12 * i + 24) (by omega) (by omega) ?_
  exact go μC1 μM1 f H2 locs2 ls hI1 hW2 hS2 hl
set_option maxHeartbeats 4000000 in
set_option maxRecDepth 100000 in
theorem lc_rank (C0 : lw_At p s m meth c b L xs) (B : LB l E cJ o s) (hL : L ≤ 1024) (hi : i + 2 ≤ L) (go : Go p l e s m below meth c E cJ o b i) (hI : Inv μC μM) (hW : WL E cJ o μC μM f H) (hS : va_S (fun q => s.heap.size ≤ q) s.heap H locs) (hl : lv_has ls 7 (lLoc E b o i)) : W p l e room_1 s m #[Value.ref b] below meth c H locs (87 + 2 * i) (4741 + 12 * i) (lw_Z below #[Value.ref b] s) (F0 m 176 ls []) := by
  obtain ⟨hx, hb, hr, hml, hown, hts, hX, hbl, hlocks, hgv⟩ := C0
  have hbA : ¬ (fun q : Nat => s.heap.size ≤ q) b := Nat.not_le.mpr hbl
  have hin : vp_in (nI (i + 1)) L := vp_in_nI (by omega) (by omega)
  have hc0 : 87 + 2 * i + 1 ≤ 603072 ∧ 4741 + 12 * i + 6 ≤ 7215210 := by omega
  have hc1 : 87 + 2 * i + 1 + 1 ≤ 603072 ∧ 4741 + 12 * i + 6 + 6 ≤ 7215210 := by omega
  obtain ⟨v, μM1, g1, g2, hI1⟩ := rank_eq hI
  refine lv_aload_n hx hb dL_law_176 rfl (lv_at hl 1 rfl) ?_
  refine L_callC hx hb hml hown B hW hS hl.1 [] (some (.int v)) (con_X7_rank B.1 g1) tl_X7_rank kl_X7_rank rfl (by omega) (by omega) hc0 rfl (Nat.le_of_ble_eq_true rfl) rfl dL_law_177 (fun H1 locs1 hW1 hS1 => ?_)
  refine lv_aload_n hx hb dL_law_180 rfl (lv_at hl 2 rfl) ?_
  refine L_callM (st := [.int v]) hx hb hml hown B hW1 hS1 hl.1 [] (some (.int v)) (con_X8_rank B.1 g2) tl_X8_rank kl_X8_rank rfl (by omega) (by omega) hc1 rfl (Nat.le_of_ble_eq_true rfl) rfl dL_law_181 (fun H2 locs2 hW2 hS2 => ?_)
  refine lv_icmp_eq (tgt := 330) hx hb dL_law_184 (by decide) (fun _ => ?_) (fun hc => absurd rfl hc)
  refine W.widen (k := 87 + 2 * i + 4) (n := 4741 + 12 * i + 24) (by omega) (by omega) ?_
  exact go μC μM1 f H2 locs2 ls hI1 hW2 hS2 hl
set_option maxHeartbeats 4000000 in
set_option maxRecDepth 100000 in
theorem lc_axis (C0 : lw_At p s m meth c b L xs) (B : LB l E cJ o s) (hL : L ≤ 1024) (hi : i + 2 ≤ L) (go : Go p l e s m below meth c E cJ o b i) (hI : Inv μC μM) (hW : WL E cJ o μC μM f H) (hS : va_S (fun q => s.heap.size ≤ q) s.heap H locs) (hl : lv_has ls 7 (lLoc E b o i)) : W p l e room_1 s m #[Value.ref b] below meth c H locs (87 + 2 * i) (4741 + 12 * i) (lw_Z below #[Value.ref b] s) (F0 m 189 ls []) := by
  obtain ⟨hx, hb, hr, hml, hown, hts, hX, hbl, hlocks, hgv⟩ := C0
  have hbA : ¬ (fun q : Nat => s.heap.size ≤ q) b := Nat.not_le.mpr hbl
  have hin : vp_in (nI (i + 1)) L := vp_in_nI (by omega) (by omega)
  have hc0 : 87 + 2 * i + 1 ≤ 603072 ∧ 4741 + 12 * i + 6 ≤ 7215210 := by omega
  have hc1 : 87 + 2 * i + 1 + 1 ≤ 603072 ∧ 4741 + 12 * i + 6 + 6 ≤ 7215210 := by omega
  obtain ⟨v, μM1, g1, g2, hI1⟩ := axis_eq (xs (nI (i + 1)).toNatClampNeg) hI
  refine lv_aload_n hx hb dL_law_189 rfl (lv_at hl 1 rfl) ?_
  refine lv_aload_n hx hb dL_law_190 rfl (lv_at hl 0 rfl) ?_
  refine lv_iload hx hb dL_law_191 (lv_at hl 4 rfl) ?_
  refine lv_iconst (v := 1) hx hb dL_law_193 (by decide) ?_
  refine lv_iadd hx hb dL_law_194 ?_
  rw [← nI_succ]
  refine va_sld hx hb hX hbl hbA hS hin dL_law_195 ?_
  refine L_callC hx hb hml hown B hW hS hl.1 [.int (xs (nI (i + 1)).toNatClampNeg)] (some (.int v)) (con_X7_axis B.1 (xs (nI (i + 1)).toNatClampNeg) g1) tl_X7_axis kl_X7_axis rfl (by omega) (by omega) hc0 rfl (Nat.le_of_ble_eq_true rfl) rfl dL_law_196 (fun H1 locs1 hW1 hS1 => ?_)
  refine lv_aload_n hx hb dL_law_199 rfl (lv_at hl 2 rfl) ?_
  refine lv_aload_n hx hb dL_law_200 rfl (lv_at hl 0 rfl) ?_
  refine lv_iload hx hb dL_law_201 (lv_at hl 4 rfl) ?_
  refine lv_iconst (v := 1) hx hb dL_law_203 (by decide) ?_
  refine lv_iadd hx hb dL_law_204 ?_
  rw [← nI_succ]
  refine va_sld hx hb hX hbl hbA hS1 hin dL_law_205 ?_
  refine L_callM (st := [.int v]) hx hb hml hown B hW1 hS1 hl.1 [.int (xs (nI (i + 1)).toNatClampNeg)] (some (.int v)) (con_X8_axis B.1 (xs (nI (i + 1)).toNatClampNeg) g2) tl_X8_axis kl_X8_axis rfl (by omega) (by omega) hc1 rfl (Nat.le_of_ble_eq_true rfl) rfl dL_law_206 (fun H2 locs2 hW2 hS2 => ?_)
  refine lv_icmp_eq (tgt := 330) hx hb dL_law_209 (by decide) (fun _ => ?_) (fun hc => absurd rfl hc)
  refine W.widen (k := 87 + 2 * i + 4) (n := 4741 + 12 * i + 24) (by omega) (by omega) ?_
  exact go μC μM1 f H2 locs2 ls hI1 hW2 hS2 hl
set_option maxHeartbeats 4000000 in
set_option maxRecDepth 100000 in
theorem lc_size (C0 : lw_At p s m meth c b L xs) (B : LB l E cJ o s) (hL : L ≤ 1024) (hi : i + 2 ≤ L) (go : Go p l e s m below meth c E cJ o b i) (hI : Inv μC μM) (hW : WL E cJ o μC μM f H) (hS : va_S (fun q => s.heap.size ≤ q) s.heap H locs) (hl : lv_has ls 7 (lLoc E b o i)) : W p l e room_1 s m #[Value.ref b] below meth c H locs (87 + 2 * i) (4741 + 12 * i) (lw_Z below #[Value.ref b] s) (F0 m 214 ls []) := by
  obtain ⟨hx, hb, hr, hml, hown, hts, hX, hbl, hlocks, hgv⟩ := C0
  have hbA : ¬ (fun q : Nat => s.heap.size ≤ q) b := Nat.not_le.mpr hbl
  have hin : vp_in (nI (i + 1)) L := vp_in_nI (by omega) (by omega)
  have hc0 : 87 + 2 * i + 1 ≤ 603072 ∧ 4741 + 12 * i + 6 ≤ 7215210 := by omega
  have hc1 : 87 + 2 * i + 1 + 1 ≤ 603072 ∧ 4741 + 12 * i + 6 + 6 ≤ 7215210 := by omega
  obtain ⟨v, μM1, g1, g2, hI1⟩ := size_eq hI
  refine lv_aload_n hx hb dL_law_214 rfl (lv_at hl 1 rfl) ?_
  refine L_callC hx hb hml hown B hW hS hl.1 [] (some (.int v)) (con_X7_size B.1 g1) tl_X7_size kl_X7_size rfl (by omega) (by omega) hc0 rfl (Nat.le_of_ble_eq_true rfl) rfl dL_law_215 (fun H1 locs1 hW1 hS1 => ?_)
  refine lv_aload_n hx hb dL_law_218 rfl (lv_at hl 2 rfl) ?_
  refine L_callM (st := [.int v]) hx hb hml hown B hW1 hS1 hl.1 [] (some (.int v)) (con_X8_size B.1 g2) tl_X8_size kl_X8_size rfl (by omega) (by omega) hc1 rfl (Nat.le_of_ble_eq_true rfl) rfl dL_law_219 (fun H2 locs2 hW2 hS2 => ?_)
  refine lv_icmp_eq (tgt := 330) hx hb dL_law_222 (by decide) (fun _ => ?_) (fun hc => absurd rfl hc)
  refine W.widen (k := 87 + 2 * i + 4) (n := 4741 + 12 * i + 24) (by omega) (by omega) ?_
  exact go μC μM1 f H2 locs2 ls hI1 hW2 hS2 hl
set_option maxHeartbeats 4000000 in
set_option maxRecDepth 100000 in
theorem lc_element (C0 : lw_At p s m meth c b L xs) (B : LB l E cJ o s) (hL : L ≤ 1024) (hi : i + 2 ≤ L) (go : Go p l e s m below meth c E cJ o b i) (hI : Inv μC μM) (hW : WL E cJ o μC μM f H) (hS : va_S (fun q => s.heap.size ≤ q) s.heap H locs) (hl : lv_has ls 7 (lLoc E b o i)) : W p l e room_1 s m #[Value.ref b] below meth c H locs (87 + 2 * i) (4741 + 12 * i) (lw_Z below #[Value.ref b] s) (F0 m 227 ls []) := by
  obtain ⟨hx, hb, hr, hml, hown, hts, hX, hbl, hlocks, hgv⟩ := C0
  have hbA : ¬ (fun q : Nat => s.heap.size ≤ q) b := Nat.not_le.mpr hbl
  have hin : vp_in (nI (i + 1)) L := vp_in_nI (by omega) (by omega)
  have hc0 : 87 + 2 * i + 1 ≤ 603072 ∧ 4741 + 12 * i + 6 ≤ 7215210 := by omega
  have hc1 : 87 + 2 * i + 1 + 1 ≤ 603072 ∧ 4741 + 12 * i + 6 + 6 ≤ 7215210 := by omega
  obtain ⟨v, μM1, g1, g2, hI1⟩ := element_eq (xs (nI (i + 1)).toNatClampNeg) hI
  refine lv_aload_n hx hb dL_law_227 rfl (lv_at hl 1 rfl) ?_
  refine lv_aload_n hx hb dL_law_228 rfl (lv_at hl 0 rfl) ?_
  refine lv_iload hx hb dL_law_229 (lv_at hl 4 rfl) ?_
  refine lv_iconst (v := 1) hx hb dL_law_231 (by decide) ?_
  refine lv_iadd hx hb dL_law_232 ?_
  rw [← nI_succ]
  refine va_sld hx hb hX hbl hbA hS hin dL_law_233 ?_
  refine L_callC hx hb hml hown B hW hS hl.1 [.int (xs (nI (i + 1)).toNatClampNeg)] (some (.long v)) (con_X7_element B.1 (xs (nI (i + 1)).toNatClampNeg) g1) tl_X7_element kl_X7_element rfl (by omega) (by omega) hc0 rfl (Nat.le_of_ble_eq_true rfl) rfl dL_law_234 (fun H1 locs1 hW1 hS1 => ?_)
  refine lv_aload_n hx hb dL_law_237 rfl (lv_at hl 2 rfl) ?_
  refine lv_aload_n hx hb dL_law_238 rfl (lv_at hl 0 rfl) ?_
  refine lv_iload hx hb dL_law_239 (lv_at hl 4 rfl) ?_
  refine lv_iconst (v := 1) hx hb dL_law_241 (by decide) ?_
  refine lv_iadd hx hb dL_law_242 ?_
  rw [← nI_succ]
  refine va_sld hx hb hX hbl hbA hS1 hin dL_law_243 ?_
  refine L_callM (st := [.long v]) hx hb hml hown B hW1 hS1 hl.1 [.int (xs (nI (i + 1)).toNatClampNeg)] (some (.long v)) (con_X8_element B.1 (xs (nI (i + 1)).toNatClampNeg) g2) tl_X8_element kl_X8_element rfl (by omega) (by omega) hc1 rfl (Nat.le_of_ble_eq_true rfl) rfl dL_law_244 (fun H2 locs2 hW2 hS2 => ?_)
  refine W.lcmp hx hb dL_law_247 ?_
  refine lv_if_eq (tgt := 330) hx hb dL_law_248 (by decide) (fun _ => ?_) (fun hc => absurd ((lg_cmp_eq v v).mpr rfl) hc)
  refine W.widen (k := 87 + 2 * i + 4) (n := 4741 + 12 * i + 24) (by omega) (by omega) ?_
  exact go μC μM1 f H2 locs2 ls hI1 hW2 hS2 hl
set_option maxHeartbeats 4000000 in
set_option maxRecDepth 100000 in
theorem lc_sum (C0 : lw_At p s m meth c b L xs) (B : LB l E cJ o s) (hL : L ≤ 1024) (hi : i + 2 ≤ L) (go : Go p l e s m below meth c E cJ o b i) (hI : Inv μC μM) (hW : WL E cJ o μC μM f H) (hS : va_S (fun q => s.heap.size ≤ q) s.heap H locs) (hl : lv_has ls 7 (lLoc E b o i)) : W p l e room_1 s m #[Value.ref b] below meth c H locs (87 + 2 * i) (4741 + 12 * i) (lw_Z below #[Value.ref b] s) (F0 m 253 ls []) := by
  obtain ⟨hx, hb, hr, hml, hown, hts, hX, hbl, hlocks, hgv⟩ := C0
  have hbA : ¬ (fun q : Nat => s.heap.size ≤ q) b := Nat.not_le.mpr hbl
  have hin : vp_in (nI (i + 1)) L := vp_in_nI (by omega) (by omega)
  have hc0 : 87 + 2 * i + 1 ≤ 603072 ∧ 4741 + 12 * i + 6 ≤ 7215210 := by omega
  have hc1 : 87 + 2 * i + 1 + 1 ≤ 603072 ∧ 4741 + 12 * i + 6 + 6 ≤ 7215210 := by omega
  obtain ⟨v, μM1, g1, g2, hI1⟩ := sum_eq hI
  refine lv_aload_n hx hb dL_law_253 rfl (lv_at hl 1 rfl) ?_
  refine L_callC hx hb hml hown B hW hS hl.1 [] (some (.long v)) (con_X7_sum B.1 g1) tl_X7_sum kl_X7_sum rfl (by omega) (by omega) hc0 rfl (Nat.le_of_ble_eq_true rfl) rfl dL_law_254 (fun H1 locs1 hW1 hS1 => ?_)
  refine lv_aload_n hx hb dL_law_257 rfl (lv_at hl 2 rfl) ?_
  refine L_callM (st := [.long v]) hx hb hml hown B hW1 hS1 hl.1 [] (some (.long v)) (con_X8_sum B.1 g2) tl_X8_sum kl_X8_sum rfl (by omega) (by omega) hc1 rfl (Nat.le_of_ble_eq_true rfl) rfl dL_law_258 (fun H2 locs2 hW2 hS2 => ?_)
  refine W.lcmp hx hb dL_law_261 ?_
  refine lv_if_eq (tgt := 330) hx hb dL_law_262 (by decide) (fun _ => ?_) (fun hc => absurd ((lg_cmp_eq v v).mpr rfl) hc)
  refine W.widen (k := 87 + 2 * i + 4) (n := 4741 + 12 * i + 24) (by omega) (by omega) ?_
  exact go μC μM1 f H2 locs2 ls hI1 hW2 hS2 hl
set_option maxHeartbeats 4000000 in
set_option maxRecDepth 100000 in
theorem lc_held (C0 : lw_At p s m meth c b L xs) (B : LB l E cJ o s) (hL : L ≤ 1024) (hi : i + 2 ≤ L) (go : Go p l e s m below meth c E cJ o b i) (hI : Inv μC μM) (hW : WL E cJ o μC μM f H) (hS : va_S (fun q => s.heap.size ≤ q) s.heap H locs) (hl : lv_has ls 7 (lLoc E b o i)) : W p l e room_1 s m #[Value.ref b] below meth c H locs (87 + 2 * i) (4741 + 12 * i) (lw_Z below #[Value.ref b] s) (F0 m 267 ls []) := by
  obtain ⟨hx, hb, hr, hml, hown, hts, hX, hbl, hlocks, hgv⟩ := C0
  have hbA : ¬ (fun q : Nat => s.heap.size ≤ q) b := Nat.not_le.mpr hbl
  have hin : vp_in (nI (i + 1)) L := vp_in_nI (by omega) (by omega)
  have hc0 : 87 + 2 * i + 1 ≤ 603072 ∧ 4741 + 12 * i + 6 ≤ 7215210 := by omega
  have hc1 : 87 + 2 * i + 1 + 1 ≤ 603072 ∧ 4741 + 12 * i + 6 + 6 ≤ 7215210 := by omega
  obtain ⟨v, μM1, g1, g2, hI1⟩ := held_eq (xs (nI (i + 1)).toNatClampNeg) hI
  refine lv_aload_n hx hb dL_law_267 rfl (lv_at hl 1 rfl) ?_
  refine lv_aload_n hx hb dL_law_268 rfl (lv_at hl 0 rfl) ?_
  refine lv_iload hx hb dL_law_269 (lv_at hl 4 rfl) ?_
  refine lv_iconst (v := 1) hx hb dL_law_271 (by decide) ?_
  refine lv_iadd hx hb dL_law_272 ?_
  rw [← nI_succ]
  refine va_sld hx hb hX hbl hbA hS hin dL_law_273 ?_
  refine L_callC hx hb hml hown B hW hS hl.1 [.int (xs (nI (i + 1)).toNatClampNeg)] (some (.int v)) (con_X7_held B.1 (xs (nI (i + 1)).toNatClampNeg) g1) tl_X7_held kl_X7_held rfl (by omega) (by omega) hc0 rfl (Nat.le_of_ble_eq_true rfl) rfl dL_law_274 (fun H1 locs1 hW1 hS1 => ?_)
  refine lv_aload_n hx hb dL_law_277 rfl (lv_at hl 2 rfl) ?_
  refine lv_aload_n hx hb dL_law_278 rfl (lv_at hl 0 rfl) ?_
  refine lv_iload hx hb dL_law_279 (lv_at hl 4 rfl) ?_
  refine lv_iconst (v := 1) hx hb dL_law_281 (by decide) ?_
  refine lv_iadd hx hb dL_law_282 ?_
  rw [← nI_succ]
  refine va_sld hx hb hX hbl hbA hS1 hin dL_law_283 ?_
  refine L_callM (st := [.int v]) hx hb hml hown B hW1 hS1 hl.1 [.int (xs (nI (i + 1)).toNatClampNeg)] (some (.int v)) (con_X8_held B.1 (xs (nI (i + 1)).toNatClampNeg) g2) tl_X8_held kl_X8_held rfl (by omega) (by omega) hc1 rfl (Nat.le_of_ble_eq_true rfl) rfl dL_law_284 (fun H2 locs2 hW2 hS2 => ?_)
  refine lv_icmp_eq (tgt := 330) hx hb dL_law_287 (by decide) (fun _ => ?_) (fun hc => absurd rfl hc)
  refine W.widen (k := 87 + 2 * i + 4) (n := 4741 + 12 * i + 24) (by omega) (by omega) ?_
  exact go μC μM1 f H2 locs2 ls hI1 hW2 hS2 hl
set_option maxHeartbeats 4000000 in
set_option maxRecDepth 100000 in
theorem lc_forget (C0 : lw_At p s m meth c b L xs) (B : LB l E cJ o s) (hL : L ≤ 1024) (hi : i + 2 ≤ L) (go : Go p l e s m below meth c E cJ o b i) (hI : Inv μC μM) (hW : WL E cJ o μC μM f H) (hS : va_S (fun q => s.heap.size ≤ q) s.heap H locs) (hl : lv_has ls 7 (lLoc E b o i)) : W p l e room_1 s m #[Value.ref b] below meth c H locs (87 + 2 * i) (4741 + 12 * i) (lw_Z below #[Value.ref b] s) (F0 m 292 ls []) := by
  obtain ⟨hx, hb, hr, hml, hown, hts, hX, hbl, hlocks, hgv⟩ := C0
  have hbA : ¬ (fun q : Nat => s.heap.size ≤ q) b := Nat.not_le.mpr hbl
  have hin : vp_in (nI (i + 1)) L := vp_in_nI (by omega) (by omega)
  have hc0 : 87 + 2 * i + 1 ≤ 603072 ∧ 4741 + 12 * i + 6 ≤ 7215210 := by omega
  have hc1 : 87 + 2 * i + 1 + 1 ≤ 603072 ∧ 4741 + 12 * i + 6 + 6 ≤ 7215210 := by omega
  obtain ⟨v, μC1, μM1, g1, g2, hI1, -⟩ := forget_eq (xs (nI (i + 1)).toNatClampNeg) hI
  refine lv_aload_n hx hb dL_law_292 rfl (lv_at hl 1 rfl) ?_
  refine lv_aload_n hx hb dL_law_293 rfl (lv_at hl 0 rfl) ?_
  refine lv_iload hx hb dL_law_294 (lv_at hl 4 rfl) ?_
  refine lv_iconst (v := 1) hx hb dL_law_296 (by decide) ?_
  refine lv_iadd hx hb dL_law_297 ?_
  rw [← nI_succ]
  refine va_sld hx hb hX hbl hbA hS hin dL_law_298 ?_
  refine L_callC hx hb hml hown B hW hS hl.1 [.int (xs (nI (i + 1)).toNatClampNeg)] (some (.int v)) (con_X7_forget B.1 (xs (nI (i + 1)).toNatClampNeg) g1) tl_X7_forget kl_X7_forget rfl (by omega) (by omega) hc0 rfl (Nat.le_of_ble_eq_true rfl) rfl dL_law_299 (fun H1 locs1 hW1 hS1 => ?_)
  refine lv_aload_n hx hb dL_law_302 rfl (lv_at hl 2 rfl) ?_
  refine lv_aload_n hx hb dL_law_303 rfl (lv_at hl 0 rfl) ?_
  refine lv_iload hx hb dL_law_304 (lv_at hl 4 rfl) ?_
  refine lv_iconst (v := 1) hx hb dL_law_306 (by decide) ?_
  refine lv_iadd hx hb dL_law_307 ?_
  rw [← nI_succ]
  refine va_sld hx hb hX hbl hbA hS1 hin dL_law_308 ?_
  refine L_callM (st := [.int v]) hx hb hml hown B hW1 hS1 hl.1 [.int (xs (nI (i + 1)).toNatClampNeg)] (some (.int v)) (con_X8_forget B.1 (xs (nI (i + 1)).toNatClampNeg) g2) tl_X8_forget kl_X8_forget rfl (by omega) (by omega) hc1 rfl (Nat.le_of_ble_eq_true rfl) rfl dL_law_309 (fun H2 locs2 hW2 hS2 => ?_)
  refine lv_icmp_eq (tgt := 330) hx hb dL_law_312 (by decide) (fun _ => ?_) (fun hc => absurd rfl hc)
  refine W.widen (k := 87 + 2 * i + 4) (n := 4741 + 12 * i + 24) (by omega) (by omega) ?_
  exact go μC1 μM1 f H2 locs2 ls hI1 hW2 hS2 hl
set_option maxHeartbeats 4000000 in
set_option maxRecDepth 100000 in
theorem lc_done (C0 : lw_At p s m meth c b L xs) (B : LB l E cJ o s) (hL : L ≤ 1024) (hi : i + 2 ≤ L) (go : Go p l e s m below meth c E cJ o b i) (hI : Inv μC μM) (hW : WL E cJ o μC μM f H) (hS : va_S (fun q => s.heap.size ≤ q) s.heap H locs) (hl : lv_has ls 7 (lLoc E b o i)) : W p l e room_1 s m #[Value.ref b] below meth c H locs (87 + 2 * i) (4741 + 12 * i) (lw_Z below #[Value.ref b] s) (F0 m 317 ls []) := by
  obtain ⟨hx, hb, hr, hml, hown, hts, hX, hbl, hlocks, hgv⟩ := C0
  have hbA : ¬ (fun q : Nat => s.heap.size ≤ q) b := Nat.not_le.mpr hbl
  have hin : vp_in (nI (i + 1)) L := vp_in_nI (by omega) (by omega)
  have hc0 : 87 + 2 * i + 1 ≤ 603072 ∧ 4741 + 12 * i + 6 ≤ 7215210 := by omega
  have hc1 : 87 + 2 * i + 1 + 1 ≤ 603072 ∧ 4741 + 12 * i + 6 + 6 ≤ 7215210 := by omega
  obtain ⟨v, μM1, g1, g2, hI1⟩ := done_eq hI
  refine lv_aload_n hx hb dL_law_317 rfl (lv_at hl 1 rfl) ?_
  refine L_callC hx hb hml hown B hW hS hl.1 [] (some (.int v)) (con_X7_done B.1 g1) tl_X7_done kl_X7_done rfl (by omega) (by omega) hc0 rfl (Nat.le_of_ble_eq_true rfl) rfl dL_law_318 (fun H1 locs1 hW1 hS1 => ?_)
  refine lv_aload_n hx hb dL_law_321 rfl (lv_at hl 2 rfl) ?_
  refine L_callM (st := [.int v]) hx hb hml hown B hW1 hS1 hl.1 [] (some (.int v)) (con_X8_done B.1 g2) tl_X8_done kl_X8_done rfl (by omega) (by omega) hc1 rfl (Nat.le_of_ble_eq_true rfl) rfl dL_law_322 (fun H2 locs2 hW2 hS2 => ?_)
  refine lv_icmp_eq (tgt := 330) hx hb dL_law_325 (by decide) (fun _ => ?_) (fun hc => absurd rfl hc)
  refine W.widen (k := 87 + 2 * i + 4) (n := 4741 + 12 * i + 24) (by omega) (by omega) ?_
  exact go μC μM1 f H2 locs2 ls hI1 hW2 hS2 hl
set_option maxHeartbeats 4000000 in
set_option maxRecDepth 100000 in
theorem lc_clear (C0 : lw_At p s m meth c b L xs) (B : LB l E cJ o s) (hL : L ≤ 1024) (hi : i + 2 ≤ L) (go : Go p l e s m below meth c E cJ o b i) (hI : Inv μC μM) (hW : WL E cJ o μC μM f H) (hS : va_S (fun q => s.heap.size ≤ q) s.heap H locs) (hl : lv_has ls 7 (lLoc E b o i)) : W p l e room_1 s m #[Value.ref b] below meth c H locs (87 + 2 * i) (4741 + 12 * i) (lw_Z below #[Value.ref b] s) (F0 m 121 ls []) := by
  obtain ⟨hx, hb, hr, hml, hown, hts, hX, hbl, hlocks, hgv⟩ := C0
  have hbA : ¬ (fun q : Nat => s.heap.size ≤ q) b := Nat.not_le.mpr hbl
  have hin : vp_in (nI (i + 1)) L := vp_in_nI (by omega) (by omega)
  have hc0 : 87 + 2 * i + 1 ≤ 603072 ∧ 4741 + 12 * i + 6 ≤ 7215210 := by omega
  have hc1 : 87 + 2 * i + 1 + 1 ≤ 603072 ∧ 4741 + 12 * i + 6 + 6 ≤ 7215210 := by omega
  obtain ⟨μC1, μM1, g1, g2, hI1⟩ := clear_eq hI
  refine lv_aload_n hx hb dL_law_121 rfl (lv_at hl 1 rfl) ?_
  refine L_callC hx hb hml hown B hW hS hl.1 [] none (con_X7_clear B.1 g1) tl_X7_clear kl_X7_clear rfl (by omega) (by omega) hc0 rfl (Nat.le_of_ble_eq_true rfl) rfl dL_law_122 (fun H1 locs1 hW1 hS1 => ?_)
  refine lv_aload_n hx hb dL_law_125 rfl (lv_at hl 2 rfl) ?_
  refine L_callM (st := []) hx hb hml hown B hW1 hS1 hl.1 [] none (con_X8_clear B.1 g2) tl_X8_clear kl_X8_clear rfl (by omega) (by omega) hc1 rfl (Nat.le_of_ble_eq_true rfl) rfl dL_law_126 (fun H2 locs2 hW2 hS2 => ?_)
  refine lv_goto (tgt := 330) hx hb dL_law_129 (by decide) ?_
  refine W.widen (k := 87 + 2 * i + 4) (n := 4741 + 12 * i + 24) (by omega) (by omega) ?_
  exact go μC1 μM1 f H2 locs2 ls hI1 hW2 hS2 hl
set_option maxHeartbeats 4000000 in
set_option maxRecDepth 100000 in
theorem lc_run (C0 : lw_At p s m meth c b L xs) (B : LB l E cJ o s) (hL : L ≤ 1024) (hi : i + 2 ≤ L) (go : Go p l e s m below meth c E cJ o b i) (hI : Inv μC μM) (hW : WL E cJ o μC μM f H) (hS : va_S (fun q => s.heap.size ≤ q) s.heap H locs) (hl : lv_has ls 7 (lLoc E b o i)) : W p l e room_1 s m #[Value.ref b] below meth c H locs (87 + 2 * i) (4741 + 12 * i) (lw_Z below #[Value.ref b] s) (F0 m 132 ls []) := by
  obtain ⟨hx, hb, hr, hml, hown, hts, hX, hbl, hlocks, hgv⟩ := C0
  have hbA : ¬ (fun q : Nat => s.heap.size ≤ q) b := Nat.not_le.mpr hbl
  have hin : vp_in (nI (i + 1)) L := vp_in_nI (by omega) (by omega)
  have hc0 : 87 + 2 * i + 1 ≤ 603072 ∧ 4741 + 12 * i + 6 ≤ 7215210 := by omega
  have hc1 : 87 + 2 * i + 1 + 1 ≤ 603072 ∧ 4741 + 12 * i + 6 + 6 ≤ 7215210 := by omega
  have hc2 : 87 + 2 * i + 1 + 1 + 1 ≤ 603072 ∧ 4741 + 12 * i + 6 + 6 + 6 ≤ 7215210 := by omega
  obtain ⟨r, μC1, v, μM1, g1, g2, hI1, hres⟩ := run_eq hI
  have hrr : ∀ n, r = .error n → eok n := by
    intro n hn
    rcases hres with ⟨h1, -⟩ | ⟨n', h1, h2, -⟩
    · rw [h1] at hn; cases hn
    · rw [h2] at hn; cases hn; exact h1
  refine lv_aload_n hx hb dL_law_132 rfl (lv_at hl 1 rfl) ?_
  refine lv_aload_n hx hb dL_law_133 rfl (lv_at hl 3 rfl) ?_
  refine L_run (st := []) hx hb hml hown B hW hS hl.1 g1 hrr hc0 (Nat.le_of_ble_eq_true rfl) dL_law_134 (fun k f1 H1 locs1 hk hW1 hS1 => ?_)
  refine lv_istore (lv' := [(5, .int k), (0, .ref b), (1, .ref (E.1 0 0)), (2, .ref (E.1 30 0)), (3, .ref o), (4, .int (nI i))]) hx hb dL_law_137 hl (by decide) rfl (fun ls1 hl1 => ?_)
  refine lv_aload_n hx hb dL_law_139 rfl (lv_at hl1 3 rfl) ?_
  refine L_callM (st := []) hx hb hml hown B hW1 hS1 hl1.1 [] (some (.int v)) (con_X8_run B.1 g2) tl_X8_run kl_X8_run rfl (by omega) (by omega) hc1 rfl (Nat.le_of_ble_eq_true rfl) rfl dL_law_140 (fun H2 locs2 hW2 hS2 => ?_)
  refine lv_istore (lv' := [(6, .int v), (5, .int k), (0, .ref b), (1, .ref (E.1 0 0)), (2, .ref (E.1 30 0)), (3, .ref o), (4, .int (nI i))]) hx hb dL_law_143 hl1 (by decide) rfl (fun ls2 hl2 => ?_)
  refine lv_aload_n hx hb dL_law_145 rfl (lv_at hl2 4 rfl) ?_
  refine L_callM (st := []) hx hb hml hown B hW2 hS2 hl2.1 [] (some (.int (μM1 30 0 17))) (con_X8_thrown B.1 (x := μM1 30 0 17) rfl) tl_X8_thrown kl_X8_thrown rfl (by omega) (by omega) hc2 rfl (Nat.le_of_ble_eq_true rfl) rfl dL_law_146 (fun H3 locs3 hW3 hS3 => ?_)
  have hl9 : lv_has ls2 7 (lLoc E b o i) := lv_sub hl2 [2, 3, 4, 5, 6] rfl
  have hth : μM1 30 0 17 = k := by
    rcases hres with ⟨h1, h2⟩ | ⟨n, h1, h2, h3⟩
    · rcases hk with ⟨w, h4, h5, h6⟩ | ⟨n, h4, h5⟩
      · rw [h2, h5]
      · rw [h1] at h4; cases h4
    · rcases hk with ⟨w, h4, h5, h6⟩ | ⟨n', h4, h5⟩
      · rw [h2] at h4; cases h4
      · rw [h2] at h4; cases h4; rw [h3, h5]
  refine lv_iload hx hb dL_law_149 (lv_at hl2 1 rfl) ?_
  refine lv_icmp_eq (tgt := 156) hx hb dL_law_151 (by decide) (fun _ => ?_) (fun hc => absurd hth hc)
  refine lv_iload hx hb dL_law_156 (lv_at hl2 1 rfl) ?_
  have fin : W p l e room_1 s m #[Value.ref b] below meth c H3 locs3 (87 + 2 * i + 1 + 1 + 1) (4741 + 12 * i + 6 + 6 + 6) (lw_Z below #[Value.ref b] s) (F0 m 173 ls2 []) := by
    refine lv_goto (tgt := 330) hx hb dL_law_173 (by decide) ?_
    refine W.widen (k := 87 + 2 * i + 4) (n := 4741 + 12 * i + 24) (by omega) (by omega) ?_
    exact go μC1 μM1 f1 H3 locs3 ls2 hI1 hW3 hS3 hl9
  refine lv_if_ne (tgt := 173) hx hb dL_law_158 (by decide) (fun _ => fin) (fun hk0 => ?_)
  have hv : f1 0 = v.toInt64 := by
    rcases hk with ⟨w, h4, h5, h6⟩ | ⟨n, h4, h5⟩
    · rcases hres with ⟨h1, h2⟩ | ⟨n, h1, h2, h3⟩
      · rw [h1] at h4; cases h4; exact h6
      · rw [h2] at h4; cases h4
    · exact absurd (h5.symm.trans hk0) (eok_ne (hrr n h4))
  refine lv_aload_n hx hb dL_law_161 rfl (lv_at hl9 3 rfl) ?_
  refine lv_iconst (v := 0) hx hb dL_law_162 (by decide) ?_
  refine va_lald hx hb B.2.2.2.1 hW3.2.2 0 4 rfl rfl (i := 0) (vp_in_nI (n := 0) (N := 1) (by omega) (by omega)) dL_law_163 ?_
  refine lv_iload hx hb dL_law_164 (lv_at hl2 0 rfl) ?_
  refine lv_i2l hx hb dL_law_166 rfl ?_
  refine W.lcmp hx hb dL_law_167 ?_
  refine lv_if_eq (tgt := 173) hx hb dL_law_168 (by decide) (fun _ => fin) (fun hc => absurd ((lg_cmp_eq _ _).mpr hv) hc)
end LLP
