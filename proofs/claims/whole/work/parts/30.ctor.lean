/-! ===== constructors: a row of cells from the address b on, which grows ===== -/
def wsb (b : Nat) : List va_E → va_W
  | [] => []
  | e :: r => (b, e) :: wsb (b + 1) r
theorem wsb_get (b : Nat) : ∀ (cw : List va_E) (j : Nat), (wsb b cw)[j]? = (cw[j]?).map fun e => (b + j, e)
  | [], j => by simp [wsb]
  | e :: r, 0 => by simp [wsb]
  | e :: r, j + 1 => by
    simp only [wsb, List.getElem?_cons_succ]
    rw [wsb_get (b + 1) r j]
    congr 1
    funext e
    rw [show b + 1 + j = b + (j + 1) by omega]
theorem wsb_at {b : Nat} {cw : List va_E} {j : Nat} {e : va_E} (h : cw[j]? = some e) : (wsb b cw)[j]? = some (b + j, e) := by rw [wsb_get, h]; rfl
theorem wsb_inv {b : Nat} {cw : List va_E} {j : Nat} {x : Nat × va_E} (h : (wsb b cw)[j]? = some x) : ∃ e, cw[j]? = some e ∧ x = (b + j, e) := by
  rw [wsb_get] at h
  obtain ⟨e, h1, h2⟩ := Option.map_eq_some_iff.mp h
  exact ⟨e, h1, h2.symm⟩
theorem wsb_len (b : Nat) : ∀ cw : List va_E, (wsb b cw).length = cw.length
  | [] => rfl
  | e :: r => by simp [wsb, wsb_len (b + 1) r]
theorem wsb_set (b : Nat) (cw : List va_E) (j : Nat) (e : va_E) : (wsb b cw).set j (b + j, e) = wsb b (cw.set j e) := by
  apply List.ext_getElem?
  intro i
  rw [wsb_get]
  by_cases h : i = j
  · subst h
    by_cases hl : i < cw.length
    · rw [List.getElem?_set_self (by rw [wsb_len]; exact hl), List.getElem?_set_self hl]; rfl
    · rw [List.getElem?_eq_none (by rw [List.length_set, wsb_len]; omega), List.getElem?_eq_none (by rw [List.length_set]; omega)]; rfl
  · rw [List.getElem?_set_ne (Ne.symm h), List.getElem?_set_ne (Ne.symm h), wsb_get]
theorem wsb_app (b : Nat) (cw : List va_E) (e : va_E) : wsb b cw ++ [(b + cw.length, e)] = wsb b (cw ++ [e]) := by
  apply List.ext_getElem?
  intro i
  rw [wsb_get]
  by_cases h : i < cw.length
  · rw [List.getElem?_append_left (by rw [wsb_len]; exact h), List.getElem?_append_left h, wsb_get]
  · rw [List.getElem?_append_right (by rw [wsb_len]; omega), List.getElem?_append_right (by omega), wsb_len]
    by_cases h2 : i = cw.length
    · subst h2; simp
    · rw [List.getElem?_eq_none (by simp; omega), List.getElem?_eq_none (by simp; omega)]; rfl
abbrev pB (b : Nat) : Nat → Prop := fun q => b ≤ q
theorem wsb_D (b : Nat) (cw : List va_E) : va_D (pB b) (wsb b cw) := by
  refine ⟨fun i j p q hi hj e => ?_, fun k q hk => ?_⟩
  · obtain ⟨x, -, rfl⟩ := wsb_inv hi
    obtain ⟨y, -, rfl⟩ := wsb_inv hj
    have e : b + i = b + j := e
    omega
  · obtain ⟨x, -, rfl⟩ := wsb_inv hk
    exact Nat.le_add_right b k
theorem ap_at {α : Type} {l : List α} {n : Nat} {e x : α} (h : l[n]? = some e) : (l ++ [x])[n]? = some e := by rw [List.getElem?_append_left (List.getElem?_eq_some_iff.mp h).1]; exact h
theorem ap_new {α : Type} {l : List α} {n : Nat} {x : α} (h : l.length = n) : (l ++ [x])[n]? = some x := by subst h; simp
theorem st_at {α : Type} {l : List α} {n : Nat} {e x : α} (h : l[n]? = some e) : (l.set n x)[n]? = some x := by rw [List.getElem?_set_self (List.getElem?_eq_some_iff.mp h).1]
theorem st_ne {α : Type} {l : List α} {n m : Nat} {e x : α} (h : l[m]? = some e) (hn : n ≠ m) : (l.set n x)[m]? = some e := by rw [List.getElem?_set_ne hn]; exact h
/-- the tables' words on arrays -/
def KA (U : State) : Prop := ∀ ty ∈ [FieldType.int, .char, .boolean, .long], (Cond.arrayClass ty).before #[] U = true
theorem KA.warm {s U : State} (hW : s.WarmedH U.vm) (h : KA s) : KA U := fun ty hty => word_at hW (Or.inr ⟨ty, rfl⟩) (h ty hty)
theorem KA.use {s : State} (h : KA s) {ty : FieldType} (hty : ty ∈ [FieldType.int, .char, .boolean, .long]) {a : Array Value} : (Cond.arrayClass ty).before a s = true := h ty hty
def NW (E : WE) (b : Nat) (cw : List va_E) (U : State) : Prop := Tab U ∧ KA U ∧ va_K E.2.1 vwCl (tysE E) U ∧ va_AO "RankCalc$Grid" U ∧ U.heap.size = b + cw.length ∧ va_P E.2.1 vwCl (wsb b cw) U.heap
def PcN (E : WE) (b n : Nat) (cw : List va_E) : Array Value → State → Prop := fun v U => v = #[.ref (b + n)] ∧ NW E b cw U
def QN (E : WE) (b : Nat) (cw : List va_E) : Array Value → State → Outcome → State → Prop := fun _ st o t => o = .returned none ∧ t.heap.size = b + cw.length ∧ va_P E.2.1 vwCl (wsb b cw) t.heap ∧ va_F (pB b) st t
abbrev rmN (rk mc ms : Nat) : Room := { frames := rk + 2, cells := mc, slots := ms, locals := 40 * rk + 40 }
def ConN (l : Launch) (E : WE) (b : Nat) (y : MethodName) (cc : ByteArray) (nL rk n mc ms : Nat) (cw cw' : List va_E) : Prop := Met l y [Cond.code y cc nL none] (rmN rk mc ms) (PcN E b n cw) (QN E b cw') mc ms (pB b)
theorem PcN.blind {E : WE} {b n : Nat} {cw : List va_E} : FrameBlind (PcN E b n cw) := by
  intro v U g mk h
  obtain ⟨h0, hT, hA, hK, hO, h1, hP⟩ := h
  exact ⟨h0, Tab.same (s := U) (show U.vm = (U.calling g mk v).vm from rfl) hT, fun ty hty => hA ty hty, va_K.moved (Vm.Alike.refl U.vm) hK, va_AO.moved (Vm.Alike.refl U.vm) hO, h1, hP⟩
def N (Y : Mc) (l : Launch) (E : WE) (b nL mc ms : Nat) (Qc : Array Value → State → Outcome → State → Prop) (pc : Nat) (L : List (Nat × Value)) (st : List Value) (cw : List va_E) (k n : Nat) : Prop := match Y with
  | (p, e, R, s, m, args, below, meth, c) => ∀ (H : Heap) (locs : List Loc) (ls : Array Slot), H.size = b + cw.length → va_P E.2.1 vwCl (wsb b cw) H → va_S (pB b) s.heap H locs → lv_has ls nL L →
    W p l e R s m args below meth c H locs k n (MQ below Qc args s mc ms (pB b)) (F0 m pc ls st)
def NOk (Y : Mc) (l : Launch) (E : WE) (b nL mc ms : Nat) (own : String) (cc : ByteArray) (rk : Nat) : Prop := match Y with
  | (p, e, R, s, m, args, below, meth, c) => p.tables.exec = Jvm.exec ∧ c.code = cc ∧ c.maxLocals = nL ∧ s.vm.findClass own = some m.cls ∧ meth.sig.returnType = none ∧ meth.locks = false ∧ meth.name = "<init>" ∧ R = rmN rk mc ms ∧ Tab s ∧ KA s ∧ va_K E.2.1 vwCl (tysE E) s ∧ va_AO "RankCalc$Grid" s ∧ b ≤ s.heap.size
theorem w_ob1 : Cond.instanceMethod Lib.objectInit ∈ lw_tbl := by decide +kernel
theorem w_ob2 : Cond.code Lib.objectInit ⟨#[0xb1]⟩ 1 none ∈ lw_tbl := by decide +kernel
section VN
variable {Y : Mc} {l : Launch} {E : WE} {b nL mc ms : Nat} {Qc : Array Value → State → Outcome → State → Prop} {own : String} {cc : ByteArray} {rk : Nat} {pc : Nat} {L L' : List (Nat × Value)} {st : List Value} {cw : List va_E} {k n : Nat}

theorem N_iconst (C : NOk Y l E b nL mc ms own cc rk) {z : Int} (v : Int32) (d : decode cc pc = .ok (.iconst z, 1)) (hv : Int32.ofInt z = v)
    (kk : N Y l E b nL mc ms Qc (pc + 1) L (.int v :: st) (cw) (k) (n)) : N Y l E b nL mc ms Qc (pc) L st (cw) (k) (n) := by
  obtain ⟨p, e, R, s, m, args, below, meth, c⟩ := Y
  obtain ⟨hx, hb, hml, hown, hr, hlk, hin, hR, hT, hKA, hK, hO, hbs⟩ := C
  intro H locs ls hz hP hS hl
  exact lv_iconst hx hb d hv (kk H locs ls hz hP hS hl)

theorem N_bipush (C : NOk Y l E b nL mc ms own cc rk) {z : Int} (v : Int32) (d : decode cc pc = .ok (.bipush z, 2)) (hv : (Int8.ofInt z).toInt32 = v)
    (kk : N Y l E b nL mc ms Qc (pc + 2) L (.int v :: st) (cw) (k) (n)) : N Y l E b nL mc ms Qc (pc) L st (cw) (k) (n) := by
  obtain ⟨p, e, R, s, m, args, below, meth, c⟩ := Y
  obtain ⟨hx, hb, hml, hown, hr, hlk, hin, hR, hT, hKA, hK, hO, hbs⟩ := C
  intro H locs ls hz hP hS hl
  exact lv_bipush hx hb d hv (kk H locs ls hz hP hS hl)

theorem N_sipush (C : NOk Y l E b nL mc ms own cc rk) {z : Int} (v : Int32) (d : decode cc pc = .ok (.sipush z, 3)) (hv : (Int16.ofInt z).toInt32 = v)
    (kk : N Y l E b nL mc ms Qc (pc + 3) L (.int v :: st) (cw) (k) (n)) : N Y l E b nL mc ms Qc (pc) L st (cw) (k) (n) := by
  obtain ⟨p, e, R, s, m, args, below, meth, c⟩ := Y
  obtain ⟨hx, hb, hml, hown, hr, hlk, hin, hR, hT, hKA, hK, hO, hbs⟩ := C
  intro H locs ls hz hP hS hl
  exact lv_sipush hx hb d hv (kk H locs ls hz hP hS hl)

theorem N_iload_n (C : NOk Y l E b nL mc ms own cc rk) {kf : Fin 4} (i : Nat) {x : Int32} (d : decode cc pc = .ok (.iload_n kf, 1)) (hi : (kf : Nat) = i) (q : Nat) (hq : L[q]? = some (i, .int x))
    (kk : N Y l E b nL mc ms Qc (pc + 1) L (.int x :: st) (cw) (k) (n)) : N Y l E b nL mc ms Qc (pc) L st (cw) (k) (n) := by
  obtain ⟨p, e, R, s, m, args, below, meth, c⟩ := Y
  obtain ⟨hx, hb, hml, hown, hr, hlk, hin, hR, hT, hKA, hK, hO, hbs⟩ := C
  intro H locs ls hz hP hS hl
  exact lv_iload_n hx hb d hi (lv_at hl q hq) (kk H locs ls hz hP hS hl)

theorem N_aload_n (C : NOk Y l E b nL mc ms own cc rk) {kf : Fin 4} (i : Nat) {x : Nat} (d : decode cc pc = .ok (.aload_n kf, 1)) (hi : (kf : Nat) = i) (q : Nat) (hq : L[q]? = some (i, .ref x))
    (kk : N Y l E b nL mc ms Qc (pc + 1) L (.ref x :: st) (cw) (k) (n)) : N Y l E b nL mc ms Qc (pc) L st (cw) (k) (n) := by
  obtain ⟨p, e, R, s, m, args, below, meth, c⟩ := Y
  obtain ⟨hx, hb, hml, hown, hr, hlk, hin, hR, hT, hKA, hK, hO, hbs⟩ := C
  intro H locs ls hz hP hS hl
  exact lv_aload_n hx hb d hi (lv_at hl q hq) (kk H locs ls hz hP hS hl)

theorem N_istore_n (C : NOk Y l E b nL mc ms own cc rk) {kf : Fin 4} (i : Nat) {x : Int32} (d : decode cc pc = .ok (.istore_n kf, 1)) (hi : (kf : Nat) = i) (hn : i < nL) (ks : List Nat) (hL : lv_pick ((i, Value.int x) :: L.filter (fun q => !(q.1 == i) && !(q.1 + 1 == i && q.2.category == 2))) ks = L')
    (kk : N Y l E b nL mc ms Qc (pc + 1) L' st (cw) (k) (n)) : N Y l E b nL mc ms Qc (pc) L (.int x :: st) (cw) (k) (n) := by
  obtain ⟨p, e, R, s, m, args, below, meth, c⟩ := Y
  obtain ⟨hx, hb, hml, hown, hr, hlk, hin, hR, hT, hKA, hK, hO, hbs⟩ := C
  intro H locs ls hz hP hS hl
  exact lv_istore_n hx hb d hi hl hn rfl (fun ls' hl' => kk H locs ls' hz hP hS (lv_sub hl' ks hL))

theorem N_iinc (C : NOk Y l E b nL mc ms own cc rk) {i : Nat} {z : Int} {x : Int32} (v : Int32) (d : decode cc pc = .ok (.iinc i z, 3)) (q : Nat) (hq : L[q]? = some (i, .int x)) (hv : x + Int32.ofInt z = v) (hn : i < nL) (ks : List Nat) (hL : lv_pick ((i, Value.int v) :: L.filter (fun q => !(q.1 == i) && !(q.1 + 1 == i && q.2.category == 2))) ks = L')
    (kk : N Y l E b nL mc ms Qc (pc + 3) L' st (cw) (k) (n)) : N Y l E b nL mc ms Qc (pc) L st (cw) (k) (n) := by
  obtain ⟨p, e, R, s, m, args, below, meth, c⟩ := Y
  obtain ⟨hx, hb, hml, hown, hr, hlk, hin, hR, hT, hKA, hK, hO, hbs⟩ := C
  intro H locs ls hz hP hS hl
  exact lv_iinc hx hb d hl hq hv hn rfl (fun ls' hl' => kk H locs ls' hz hP hS (lv_sub hl' ks hL))

theorem N_iadd (C : NOk Y l E b nL mc ms own cc rk) {x y : Int32} (d : decode cc pc = .ok (.iadd, 1))
    (kk : N Y l E b nL mc ms Qc (pc + 1) L (.int (x + y) :: st) (cw) (k) (n)) : N Y l E b nL mc ms Qc (pc) L (.int y :: .int x :: st) (cw) (k) (n) := by
  obtain ⟨p, e, R, s, m, args, below, meth, c⟩ := Y
  obtain ⟨hx, hb, hml, hown, hr, hlk, hin, hR, hT, hKA, hK, hO, hbs⟩ := C
  intro H locs ls hz hP hS hl
  exact lv_iadd hx hb d (kk H locs ls hz hP hS hl)

theorem N_dup (C : NOk Y l E b nL mc ms own cc rk) {v : Value} (d : decode cc pc = .ok (.dup, 1)) (hv : v.category = 1)
    (kk : N Y l E b nL mc ms Qc (pc + 1) L (v :: v :: st) (cw) (k) (n)) : N Y l E b nL mc ms Qc (pc) L (v :: st) (cw) (k) (n) := by
  obtain ⟨p, e, R, s, m, args, below, meth, c⟩ := Y
  obtain ⟨hx, hb, hml, hown, hr, hlk, hin, hR, hT, hKA, hK, hO, hbs⟩ := C
  intro H locs ls hz hP hS hl
  exact lv_dup hx hb d hv (kk H locs ls hz hP hS hl)

theorem N_goto (C : NOk Y l E b nL mc ms own cc rk) {off : Int} {tgt : Nat} (d : decode cc pc = .ok (.goto off, 3)) (ht : (pc : Int) + off = (tgt : Int))
    (kk : N Y l E b nL mc ms Qc (tgt) L st (cw) (k) (n)) : N Y l E b nL mc ms Qc (pc) L st (cw) (k) (n) := by
  obtain ⟨p, e, R, s, m, args, below, meth, c⟩ := Y
  obtain ⟨hx, hb, hml, hown, hr, hlk, hin, hR, hT, hKA, hK, hO, hbs⟩ := C
  intro H locs ls hz hP hS hl
  exact lv_goto hx hb d ht (kk H locs ls hz hP hS hl)

theorem N_icmp_ge (C : NOk Y l E b nL mc ms own cc rk) {x y : Int32} {off : Int} {tgt : Nat} (d : decode cc pc = .ok (.if_icmp .ge off, 3)) (ht : (pc : Int) + off = (tgt : Int))
    (kt : y ≤ x → N Y l E b nL mc ms Qc (tgt) L st (cw) (k) (n)) (kf : ¬ y ≤ x → N Y l E b nL mc ms Qc (pc + 3) L st (cw) (k) (n)) : N Y l E b nL mc ms Qc (pc) L (.int y :: .int x :: st) (cw) (k) (n) := by
  obtain ⟨p, e, R, s, m, args, below, meth, c⟩ := Y
  obtain ⟨hx, hb, hml, hown, hr, hlk, hin, hR, hT, hKA, hK, hO, hbs⟩ := C
  intro H locs ls hz hP hS hl
  exact lv_icmp_ge hx hb d ht (fun h => kt h H locs ls hz hP hS hl) (fun h => kf h H locs ls hz hP hS hl)
/-- Object.<init> -/
theorem N_object (C : NOk Y l E b nL mc ms own cc rk) {a idx : Nat} (h1 : Cond.methodLink own idx Lib.objectInit ∈ lw_tbl) (hsum : (st.map fun v => v.category).sum ≤ 8) (d : decode cc pc = .ok (.invokespecial idx, 3))
    (kk : N Y l E b nL mc ms Qc (pc + 3) L st (cw) (k) (n)) : N Y l E b nL mc ms Qc (pc) L (.ref a :: st) (cw) (k) (n) := by
  obtain ⟨p, e, R, s, m, args, below, meth, c⟩ := Y
  obtain ⟨hx, hb, hml, hown, hr, hlk, hin, hR, hT, hKA, hK, hO, hbs⟩ := C
  intro H locs ls hz hP hS hl
  subst hR
  refine W.objInit hx hb hown (hT.use h1 rfl) (hT.use w_ob1 rfl) (hT.use w_ob2 rfl) rfl (hl.1.trans hml.symm) rfl d (by show 1 ≤ rk + 2; omega) (by show 2 * 0 + _ + 12 ≤ 40 * rk + 40; omega) ?_
  exact (kk H locs ls hz hP hS hl)
/-- new -/
theorem N_new (C : NOk Y l E b nL mc ms own cc rk) {idx ci Nn : Nat} {Cn : String} {T : u_T} (ty : Nat → FieldType) (fs : List Value) (hcl : vwCl[ci]? = some (Cn, T, Nn)) (hin9 : ∀ w ∈ u_ws Cn T Nn, w ∈ lw_tbl) (hty : ∀ k, k < Nn → parseFieldDescriptor (T k).2.2.1 = some (ty k)) (h1 : Cond.classLink own idx Cn ∈ lw_tbl) (h2 : Cond.instantiable Cn Nn ∈ lw_tbl) (h3 : Cond.initialized Cn ∈ lw_tbl) (hfs : ∀ j, j < Nn → defaultValue (ty j) = vp_V fs j) (hk : k + 1 ≤ mc) (hn : n + Nn ≤ ms) (d : decode cc pc = .ok (.new idx, 3))
    (kk : N Y l E b nL mc ms Qc (pc + 3) L (.ref (b + cw.length) :: st) (cw ++ [.inr (ci, fs)]) (k + 1) (n + Nn)) : N Y l E b nL mc ms Qc (pc) L st (cw) (k) (n) := by
  obtain ⟨p, e, R, s, m, args, below, meth, c⟩ := Y
  obtain ⟨hx, hb, hml, hown, hr, hlk, hin, hR, hT, hKA, hK, hO, hbs⟩ := C
  intro H locs ls hz hP hS hl
  subst hR
  have hKn := hK.1 ci _ hcl
  refine W.newcK hx hb hown (hT.use h1 rfl) (hT.use h2 rfl) (hT.use h3 rfl) rfl d hk hn hKn.2.1 hz fun H1 kC hkC e1 z1 o1 => ?_
  have hP1 : va_P E.2.1 vwCl (wsb b (cw ++ [.inr (ci, fs)])) H1 := by
    rw [← wsb_app]
    refine (hP.kept (fun k x hx => o1 x.1 (by rw [← hz]; exact (hP k x hx).lt))).app (fun k x hx => ?_)
    have hz9 : k < 1 := (List.getElem?_eq_some_iff.mp hx).1
    rw [show k = 0 by omega] at hx
    cases hx
    exact ⟨_, hcl, (u_born ty (u_ws_use (a := args) hT hin9) (fun _ h => h) hKn hkC e1 hty).to hfs⟩
  exact kk H1 locs ls (by rw [z1, List.length_append]; rfl) hP1 ⟨Nat.le_trans hS.1 (by omega), fun x g1 g2 => (o1 x (by have := hS.1; omega)).trans (hS.2.1 x g1 g2), hS.2.2⟩ hl

theorem N_newa_int (C : NOk Y l E b nL mc ms own cc rk) {x : Int32} (Nn : Nat) (hx0 : ¬ x < 0) (hxN : x.toNatClampNeg = Nn) (hbytes : Nn * componentBytes .int ≤ 536870912) (hk : k + 1 ≤ mc) (hn : n + Nn ≤ ms) (d : decode cc pc = .ok (.newarray .int, 2))
    (kk : N Y l E b nL mc ms Qc (pc + 2) L (.ref (b + cw.length) :: st) (cw ++ [.inl (E.2.2.1 0, Nn, .inl fun _ => 0)]) (k + 1) (n + Nn)) : N Y l E b nL mc ms Qc (pc) L (.int x :: st) (cw) (k) (n) := by
  obtain ⟨p, e, R, s, m, args, below, meth, c⟩ := Y
  obtain ⟨hx, hb, hml, hown, hr, hlk, hin, hR, hT, hKA, hK, hO, hbs⟩ := C
  intro H locs ls hz hP hS hl
  subst hR
  refine va_newaK (atype := .int) hx hb (hKA.use (ty := .int) (by decide)) rfl d rfl hx0 hxN hbytes hk hn hz fun H1 cA e1 z1 o1 hAr hNm => ?_
  have hcA : cA = E.2.2.1 0 := by
    have h9 := (hK.2 0 _ rfl).2
    exact Option.some.inj (hNm.symm.trans h9)
  subst hcA
  have hP1 : va_P E.2.1 vwCl (wsb b (cw ++ [.inl (E.2.2.1 0, Nn, .inl fun _ => 0)])) H1 := by
    rw [← wsb_app]
    refine (hP.kept (fun k x hx => o1 x.1 (by rw [← hz]; exact (hP k x hx).lt))).app (fun k x hx => ?_)
    have hz9 : k < 1 := (List.getElem?_eq_some_iff.mp hx).1
    rw [show k = 0 by omega] at hx
    cases hx
    exact e1
  exact kk H1 locs ls (by rw [z1, List.length_append]; rfl) hP1 ⟨Nat.le_trans hS.1 (by omega), fun x g1 g2 => (o1 x (by have := hS.1; omega)).trans (hS.2.1 x g1 g2), hS.2.2⟩ hl

theorem N_newa_char (C : NOk Y l E b nL mc ms own cc rk) {x : Int32} (Nn : Nat) (hx0 : ¬ x < 0) (hxN : x.toNatClampNeg = Nn) (hbytes : Nn * componentBytes .char ≤ 536870912) (hk : k + 1 ≤ mc) (hn : n + Nn ≤ ms) (d : decode cc pc = .ok (.newarray .char, 2))
    (kk : N Y l E b nL mc ms Qc (pc + 2) L (.ref (b + cw.length) :: st) (cw ++ [.inl (E.2.2.1 1, Nn, .inl fun _ => 0)]) (k + 1) (n + Nn)) : N Y l E b nL mc ms Qc (pc) L (.int x :: st) (cw) (k) (n) := by
  obtain ⟨p, e, R, s, m, args, below, meth, c⟩ := Y
  obtain ⟨hx, hb, hml, hown, hr, hlk, hin, hR, hT, hKA, hK, hO, hbs⟩ := C
  intro H locs ls hz hP hS hl
  subst hR
  refine va_newaK (atype := .char) hx hb (hKA.use (ty := .char) (by decide)) rfl d rfl hx0 hxN hbytes hk hn hz fun H1 cA e1 z1 o1 hAr hNm => ?_
  have hcA : cA = E.2.2.1 1 := by
    have h9 := (hK.2 1 _ rfl).2
    exact Option.some.inj (hNm.symm.trans h9)
  subst hcA
  have hP1 : va_P E.2.1 vwCl (wsb b (cw ++ [.inl (E.2.2.1 1, Nn, .inl fun _ => 0)])) H1 := by
    rw [← wsb_app]
    refine (hP.kept (fun k x hx => o1 x.1 (by rw [← hz]; exact (hP k x hx).lt))).app (fun k x hx => ?_)
    have hz9 : k < 1 := (List.getElem?_eq_some_iff.mp hx).1
    rw [show k = 0 by omega] at hx
    cases hx
    exact e1
  exact kk H1 locs ls (by rw [z1, List.length_append]; rfl) hP1 ⟨Nat.le_trans hS.1 (by omega), fun x g1 g2 => (o1 x (by have := hS.1; omega)).trans (hS.2.1 x g1 g2), hS.2.2⟩ hl

theorem N_newa_boolean (C : NOk Y l E b nL mc ms own cc rk) {x : Int32} (Nn : Nat) (hx0 : ¬ x < 0) (hxN : x.toNatClampNeg = Nn) (hbytes : Nn * componentBytes .boolean ≤ 536870912) (hk : k + 1 ≤ mc) (hn : n + Nn ≤ ms) (d : decode cc pc = .ok (.newarray .boolean, 2))
    (kk : N Y l E b nL mc ms Qc (pc + 2) L (.ref (b + cw.length) :: st) (cw ++ [.inl (E.2.2.1 2, Nn, .inl fun _ => 0)]) (k + 1) (n + Nn)) : N Y l E b nL mc ms Qc (pc) L (.int x :: st) (cw) (k) (n) := by
  obtain ⟨p, e, R, s, m, args, below, meth, c⟩ := Y
  obtain ⟨hx, hb, hml, hown, hr, hlk, hin, hR, hT, hKA, hK, hO, hbs⟩ := C
  intro H locs ls hz hP hS hl
  subst hR
  refine va_newaK (atype := .boolean) hx hb (hKA.use (ty := .boolean) (by decide)) rfl d rfl hx0 hxN hbytes hk hn hz fun H1 cA e1 z1 o1 hAr hNm => ?_
  have hcA : cA = E.2.2.1 2 := by
    have h9 := (hK.2 2 _ rfl).2
    exact Option.some.inj (hNm.symm.trans h9)
  subst hcA
  have hP1 : va_P E.2.1 vwCl (wsb b (cw ++ [.inl (E.2.2.1 2, Nn, .inl fun _ => 0)])) H1 := by
    rw [← wsb_app]
    refine (hP.kept (fun k x hx => o1 x.1 (by rw [← hz]; exact (hP k x hx).lt))).app (fun k x hx => ?_)
    have hz9 : k < 1 := (List.getElem?_eq_some_iff.mp hx).1
    rw [show k = 0 by omega] at hx
    cases hx
    exact e1
  exact kk H1 locs ls (by rw [z1, List.length_append]; rfl) hP1 ⟨Nat.le_trans hS.1 (by omega), fun x g1 g2 => (o1 x (by have := hS.1; omega)).trans (hS.2.1 x g1 g2), hS.2.2⟩ hl

theorem N_newq (C : NOk Y l E b nL mc ms own cc rk) {x : Int32} {idx : Nat} (Nn : Nat) (h1 : Cond.classLink own idx "RankCalc$Grid" ∈ lw_tbl) (hx0 : ¬ x < 0) (hxN : x.toNatClampNeg = Nn) (hbytes : Nn * 4 ≤ 536870912) (hk : k + 1 ≤ mc) (hn : n + Nn ≤ ms) (d : decode cc pc = .ok (.anewarray idx, 3))
    (kk : N Y l E b nL mc ms Qc (pc + 3) L (.ref (b + cw.length) :: st) (cw ++ [.inl (E.2.2.1 3, Nn, .inr (.inr (.inr (.inr fun _ => none))))]) (k + 1) (n + Nn)) : N Y l E b nL mc ms Qc (pc) L (.int x :: st) (cw) (k) (n) := by
  obtain ⟨p, e, R, s, m, args, below, meth, c⟩ := Y
  obtain ⟨hx, hb, hml, hown, hr, hlk, hin, hR, hT, hKA, hK, hO, hbs⟩ := C
  intro H locs ls hz hP hS hl
  subst hR
  subst hxN
  refine W.anew hx hb hown (hT.use h1 rfl) (va_AO.use hO) rfl d rfl hx0 hbytes hk hn fun cA kA comp f1 f2 f3 f4 => ?_
  have hcA : cA = E.2.2.1 3 := by
    obtain ⟨kA9, comp9, -, -, -, h9⟩ := (hK.2 3 _ rfl).2
    exact Option.some.inj (f1.symm.trans h9)
  subst hcA
  generalize hH1 : H.push ({ cls := E.2.2.1 3, slots := Array.replicate x.toNatClampNeg .null, vm := .none } : Cell) = H1
  have z1 : H1.size = H.size + 1 := by rw [← hH1, Array.size_push]
  have e1 : H1[H.size]? = some (arrV (E.2.2.1 3) x.toNatClampNeg (fun _ => .null)) := by rw [← hH1, Array.getElem?_push_size, ← arrV_new]
  have o1 : ∀ q : Nat, q < H.size → H1[q]? = H[q]? := fun q hq => by rw [← hH1, Array.getElem?_push, if_neg (Nat.ne_of_lt hq)]
  rw [hz] at e1
  have hP1 : va_P E.2.1 vwCl (wsb b (cw ++ [.inl (E.2.2.1 3, x.toNatClampNeg, .inr (.inr (.inr (.inr fun _ => none))))])) H1 := by
    rw [← wsb_app]
    refine (hP.kept (fun k x hx => o1 x.1 (hP k x hx).lt)).app (fun k x hx => ?_)
    have hz9 : k < 1 := (List.getElem?_eq_some_iff.mp hx).1
    rw [show k = 0 by omega] at hx
    cases hx
    show H1[b + cw.length]? = some (vp_cell _ _)
    rw [vp_cell_q]
    exact e1
  have hgo := kk H1 locs ls (by rw [z1, hz, List.length_append]; rfl) hP1 ⟨Nat.le_trans hS.1 (by omega), fun x g1 g2 => (o1 x (by have := hS.1; omega)).trans (hS.2.1 x g1 g2), hS.2.2⟩ hl
  rw [← hz] at hgo
  exact hgo
/-- a final field of the object that is being made -/
theorem N_putF (C : NOk Y l E b nL mc ms own cc rk) {idx ci Nn : Nat} {T : u_T} {fs : List Value} {v : Value} (j f : Nat) (ty0 : Nat → FieldType) (ty : FieldType) (hcl : vwCl[ci]? = some (own, T, Nn)) (hin9 : ∀ w ∈ u_ws own T Nn, w ∈ lw_tbl) (hty : ∀ k, k < Nn → parseFieldDescriptor (T k).2.2.1 = some (ty0 k)) (hnm : ∀ a, a < Nn → ∀ b, b < Nn → a ≠ b → (T a).2.1 ≠ (T b).2.1) (hj : cw[j]? = some (.inr (ci, fs))) (hf : f < Nn) (hl1 : Cond.fieldLink own idx (T f).1 (T f).2.1 (T f).2.2.1 ∈ lw_tbl) (hfin : (T f).2.2.2 = true) (hdecl : (T f).1 = own) (hd : parseFieldDescriptor (T f).2.2.1 = some ty) (hn9 : narrow ty v = v) (hfit : fits ty v = true) (hl9 : f < fs.length) (d : decode cc pc = .ok (.putfield idx, 3))
    (kk : N Y l E b nL mc ms Qc (pc + 3) L st (cw.set j (.inr (ci, fs.set f v))) (k) (n)) : N Y l E b nL mc ms Qc (pc) L (v :: .ref (b + j) :: st) (cw) (k) (n) := by
  obtain ⟨p, e, R, s, m, args, below, meth, c⟩ := Y
  obtain ⟨hx, hb, hml, hown, hr, hlk, hin, hR, hT, hKA, hK, hO, hbs⟩ := C
  intro H locs ls hz hP hS hl
  have hts := u_ws_use (a := args) hT hin9
  have hap := va_apart (own := own) hts (fun _ h => h) ty0 hty hnm hK hcl
  have he := wsb_at (b := b) hj
  obtain ⟨r, h1, cell, q1, q2, q3, q4⟩ := hP j _ he
  have hr9 : r = (own, T, Nn) := Option.some.inj (h1.symm.trans hcl)
  subst hr9
  obtain ⟨hSl, hfc, kC, hkC, hkind⟩ := hK.1 ci _ hcl
  obtain ⟨cf, kf, fi, fd, hi, hsl⟩ := hSl f hf
  have hlay := hts _ (u_in_lay hf)
  unfold u_lay at hlay
  rw [if_pos hfin] at hlay
  have hst := (u_facts hfc hkC (u_lays hts (fun _ h => h) hf) hi).1
  have hcf : m.cls = cf := by
    obtain ⟨_, _, c', _, _, _, -, -, hf', -, -, -, hown2, -⟩ := Cond.laysFinal_spec hlay
    have e1 : c' = cf := by have := hi.symm.trans hf'; simp at this; exact this.1.symm
    rw [hdecl] at hown2
    rw [← e1]; exact Option.some.inj (hown.symm.trans hown2)
  have h6 := u_fits hfc hkC hkind (Or.inr hlay) hi hd hn9 hfit
  refine W.putFinK hx hb hown (hT.use hl1 rfl) hi hst hcf hin (by rw [q2]; exact h6) q1 q3 (by rw [hsl]; exact k2_hasslot (q4 f hf)) rfl rfl d fun H1 e1 e2 e3 => ?_
  rw [hsl] at e1 ⊢
  have hP1 := hP.set (e := .inr (ci, fs.set f v)) (wsb_D b cw) he ⟨_, hcl, t_OB.to (V := updV (vp_V fs) f v) ⟨_, e1, q2, q3, t_set q4 hap hf v⟩ (fun j _ => vp_updV_set hl9 v j)⟩ e3
  rw [wsb_set] at hP1
  exact kk H1 _ ls (by rw [e2, List.length_set]; exact hz) hP1 (hS.put e2 e3 (Nat.le_add_right b j)) hl
theorem N_put (C : NOk Y l E b nL mc ms own cc rk) {idx ci Nn : Nat} {T : u_T} {Cn : String} {fs : List Value} {v : Value} (j f : Nat) (ty0 : Nat → FieldType) (ty : FieldType) (hcl : vwCl[ci]? = some (Cn, T, Nn)) (hin9 : ∀ w ∈ u_ws Cn T Nn, w ∈ lw_tbl) (hty : ∀ k, k < Nn → parseFieldDescriptor (T k).2.2.1 = some (ty0 k)) (hnm : ∀ a, a < Nn → ∀ b, b < Nn → a ≠ b → (T a).2.1 ≠ (T b).2.1) (hj : cw[j]? = some (.inr (ci, fs))) (hf : f < Nn) (hl1 : Cond.fieldLink own idx (T f).1 (T f).2.1 (T f).2.2.1 ∈ lw_tbl) (hfin : (T f).2.2.2 = false) (hd : parseFieldDescriptor (T f).2.2.1 = some ty) (hn9 : narrow ty v = v) (hfit : fits ty v = true) (hl9 : f < fs.length) (d : decode cc pc = .ok (.putfield idx, 3))
    (kk : N Y l E b nL mc ms Qc (pc + 3) L st (cw.set j (.inr (ci, fs.set f v))) (k) (n)) : N Y l E b nL mc ms Qc (pc) L (v :: .ref (b + j) :: st) (cw) (k) (n) := by
  obtain ⟨p, e, R, s, m, args, below, meth, c⟩ := Y
  obtain ⟨hx, hb, hml, hown, hr, hlk, hin, hR, hT, hKA, hK, hO, hbs⟩ := C
  intro H locs ls hz hP hS hl
  have hts := u_ws_use (a := args) hT hin9
  have hap := va_apart (own := own) hts (fun _ h => h) ty0 hty hnm hK hcl
  have he := wsb_at (b := b) hj
  obtain ⟨r, h1, cell, q1, q2, q3, q4⟩ := hP j _ he
  have hr9 : r = (Cn, T, Nn) := Option.some.inj (h1.symm.trans hcl)
  subst hr9
  obtain ⟨hSl, hfc, kC, hkC, hkind⟩ := hK.1 ci _ hcl
  obtain ⟨cf, kf, fi, fd, hi, hsl⟩ := hSl f hf
  have hlay := hts _ (u_in_lay hf)
  unfold u_lay at hlay
  rw [if_neg (by rw [hfin]; decide)] at hlay
  have hst := (u_facts hfc hkC (u_lays hts (fun _ h => h) hf) hi).1
  have h6 := u_store hfc hkC hkind hlay hi hd hn9 hfit
  refine W.putK hx hb (f := fd) ⟨hown, hT.use hl1 rfl, ⟨_, _, _, hi⟩, hst⟩ (by rw [q2]; exact h6) q1 q3 (by rw [hsl]; exact k2_hasslot (q4 f hf)) rfl rfl d fun H1 e1 e2 e3 => ?_
  rw [hsl] at e1 ⊢
  have hP1 := hP.set (e := .inr (ci, fs.set f v)) (wsb_D b cw) he ⟨_, hcl, t_OB.to (V := updV (vp_V fs) f v) ⟨_, e1, q2, q3, t_set q4 hap hf v⟩ (fun j _ => vp_updV_set hl9 v j)⟩ e3
  rw [wsb_set] at hP1
  exact kk H1 _ ls (by rw [e2, List.length_set]; exact hz) hP1 (hS.put e2 e3 (Nat.le_add_right b j)) hl
theorem N_getf (C : NOk Y l E b nL mc ms own cc rk) {idx ci Nn : Nat} {T : u_T} {Cn : String} {fs : List Value} {v : Value} (j f : Nat) (hcl : vwCl[ci]? = some (Cn, T, Nn)) (hin9 : ∀ w ∈ u_ws Cn T Nn, w ∈ lw_tbl) (hj : cw[j]? = some (.inr (ci, fs))) (hf : f < Nn) (hl1 : Cond.fieldLink own idx (T f).1 (T f).2.1 (T f).2.2.1 ∈ lw_tbl) (hv : fs[f]? = some v) (d : decode cc pc = .ok (.getfield idx, 3))
    (kk : N Y l E b nL mc ms Qc (pc + 3) L (v :: st) (cw) (k) (n)) : N Y l E b nL mc ms Qc (pc) L (.ref (b + j) :: st) (cw) (k) (n) := by
  obtain ⟨p, e, R, s, m, args, below, meth, c⟩ := Y
  obtain ⟨hx, hb, hml, hown, hr, hlk, hin, hR, hT, hKA, hK, hO, hbs⟩ := C
  intro H locs ls hz hP hS hl
  exact va_get hx hb (u_ws_use hT hin9) (fun _ h => h) hown hK hP j (wsb_at hj) hcl f hf (hT.use hl1 rfl) (fun _ h => h) hv d (kk H locs ls hz hP hS hl)
theorem N_iast (C : NOk Y l E b nL mc ms own cc rk) {j Nn : Nat} {x v : Int32} {f : Nat → Int32} (hj : cw[j]? = some (.inl (E.2.2.1 0, Nn, .inl f))) (hin9 : vp_in x Nn) (d : decode cc pc = .ok (.iastore, 1))
    (kk : N Y l E b nL mc ms Qc (pc + 1) L st (cw.set j (.inl (E.2.2.1 0, Nn, .inl (upd f x.toNatClampNeg v)))) (k) (n)) : N Y l E b nL mc ms Qc (pc) L (.int v :: .int x :: .ref (b + j) :: st) (cw) (k) (n) := by
  obtain ⟨p, e, R, s, m, args, below, meth, c⟩ := Y
  obtain ⟨hx, hb, hml, hown, hr, hlk, hin, hR, hT, hKA, hK, hO, hbs⟩ := C
  intro H locs ls hz hP hS hl
  have he := wsb_at (b := b) hj
  refine W.iast hx hb (hP j _ he) ((hK.2 0 _ rfl).1 Nn (fun j => .int (f j))) (fun q => by cases q) (by show ¬ (x < 0 ∨ (arrV _ _ _).slots.size ≤ _); rw [arrV_size]; exact hin9) rfl rfl d fun H1 e1 z oq => ?_
  have hP1 := hP.set (e := .inl (E.2.2.1 0, Nn, .inl (upd f x.toNatClampNeg v))) (wsb_D b cw) he (by
    show H1[b + j]? = some (vp_cell _ _)
    rw [e1, vp_cell_i, vp_cell_i, arrV_store]
    congr 2
    funext q
    by_cases hq : q = x.toNatClampNeg
    · subst hq; simp [updV, upd]
    · simp [updV, upd, hq]) oq
  rw [wsb_set] at hP1
  exact kk H1 _ ls (by rw [z, List.length_set]; exact hz) hP1 (hS.put z oq (Nat.le_add_right b j)) hl
theorem N_aast (C : NOk Y l E b nL mc ms own cc rk) {j g Nn : Nat} {x : Int32} {f : Nat → Option Nat} {vs : List Value} (hj : cw[j]? = some (.inl (E.2.2.1 3, Nn, .inr (.inr (.inr (.inr f)))))) (hg : cw[g]? = some (.inr (3, vs))) (hin9 : vp_in x Nn) (d : decode cc pc = .ok (.aastore, 1))
    (kk : N Y l E b nL mc ms Qc (pc + 1) L st (cw.set j (.inl (E.2.2.1 3, Nn, .inr (.inr (.inr (.inr (va_up f x.toNatClampNeg (some (b + g))))))))) (k) (n)) : N Y l E b nL mc ms Qc (pc) L (.ref (b + g) :: .int x :: .ref (b + j) :: st) (cw) (k) (n) := by
  obtain ⟨p, e, R, s, m, args, below, meth, c⟩ := Y
  obtain ⟨hx, hb, hml, hown, hr, hlk, hin, hR, hT, hKA, hK, hO, hbs⟩ := C
  intro H locs ls hz hP hS hl
  have he := wsb_at (b := b) hj
  have heg := wsb_at (b := b) hg
  have hlt : x.toNatClampNeg < Nn := Nat.not_le.mp fun q => hin9 (Or.inr q)
  have h0 : ¬ x < 0 := fun q => hin9 (Or.inl q)
  obtain ⟨r', hr', cellV, g1, g2, g3, -⟩ := hP g _ heg
  have hcls := (hK.1 3 (RX1, TX1, 4) rfl).2
  obtain ⟨kA, comp, k1, k2, k3, -⟩ := (hK.2 3 _ rfl).2
  have hcomp : comp = E.2.1.1 3 := Option.some.inj (k3.symm.trans hcls.1)
  subst hcomp
  obtain ⟨kC, hkC, -⟩ := hcls.2
  refine W.aast hx hb (hP j _ he) (fun q h => by cases h) (fun h => by cases h) k1 k2 rfl hkC ⟨h0, by show _ < (arrV _ _ _).slots.size; rw [arrV_size]; exact hlt⟩ g1 (fun q h => by rw [g3] at h; cases h) (by rw [g2]; exact hkC) (by rw [g2]; exact va_assign hcls) rfl rfl d fun H1 e1 z oq => ?_
  have hP1 := hP.set (e := .inl (E.2.2.1 3, Nn, .inr (.inr (.inr (.inr (va_up f x.toNatClampNeg (some (b + g)))))))) (wsb_D b cw) he (by
    show H1[b + j]? = some (vp_cell _ _)
    rw [e1, vp_cell_q, vp_cell_q, arrV_store]
    congr 2
    funext q
    by_cases hq : q = x.toNatClampNeg
    · subst hq; simp [updV, va_up, va_rf]
    · simp [updV, va_up, hq]) oq
  rw [wsb_set] at hP1
  exact kk H1 _ ls (by rw [z, List.length_set]; exact hz) hP1 (hS.put z oq (Nat.le_add_right b j)) hl
theorem N_return (C : NOk Y l E b nL mc ms own cc rk) (h9 : Qc = QN E b cw) (hk : k ≤ mc) (hn : n ≤ ms) (d : decode cc pc = .ok (.return_, 1)) : N Y l E b nL mc ms Qc (pc) L [] (cw) (k) (n) := by
  obtain ⟨p, e, R, s, m, args, below, meth, c⟩ := Y
  obtain ⟨hx, hb, hml, hown, hr, hlk, hin, hR, hT, hKA, hK, hO, hbs⟩ := C
  intro H locs ls hz hP hS hl
  subst h9
  refine W.widen (k := mc) (n := ms) hk hn ?_
  exact W.vret hx hb hr (fun t ht hW => ⟨rfl, by rw [ht]; exact hz, by rw [ht]; exact hP, hS.F ht⟩) hS.2.2 d hlk
/-- another object's constructor, without arguments -/
theorem N_call (C : NOk Y l E b nL mc ms own cc rk) {idx nL' rk' mc' ms' : Nat} {y : MethodName} {cc' : ByteArray} {cw' : List va_E} (j : Nat) (hcon : ConN l E b y cc' nL' rk' j mc' ms' cw cw') (hlink : Cond.methodLink own idx y ∈ lw_tbl ∨ ∃ h : String, Cond.methodLinkNest own idx y h ∈ lw_tbl) (h1 : Cond.instanceMethod y ∈ lw_tbl) (h2 : Cond.code y cc' nL' none ∈ lw_tbl) (h3 : Cond.initialized y.cls ∈ lw_tbl) (hy : y.cls ≠ "java/lang/invoke/MethodHandle" ∧ y.cls ≠ "java/lang/invoke/VarHandle") (hd : (parseMethodDescriptor y.desc).map (fun d => d.parameters.length) = some 0) (hnm : y.name = "<init>") (hrk : rk' < rk) (hnL : nL' ≤ 21) (hk : k + mc' ≤ mc) (hn : n + ms' ≤ ms) (hsum : (st.map fun v => v.category).sum ≤ 8) (d : decode cc pc = .ok (.invokespecial idx, 3))
    (kk : N Y l E b nL mc ms Qc (pc + 3) L st (cw') (k + mc') (n + ms')) : N Y l E b nL mc ms Qc (pc) L (.ref (b + j) :: st) (cw) (k) (n) := by
  obtain ⟨p, e, R, s, m, args, below, meth, c⟩ := Y
  obtain ⟨hx, hb, hml, hown, hr, hlk, hin, hR, hT, hKA, hK, hO, hbs⟩ := C
  intro H locs ls hz hP hS hl
  subst hR
  have hcond : ∀ w ∈ [Cond.code y cc' nL' none], ∀ (a' : Array Value) (U : State), s.WarmedH U.vm → w.before a' U = true := by
    intro w hw a' U hW
    rcases List.mem_cons.mp hw with rfl | hw
    · exact (hT.warm hW).use h2 rfl
    · cases hw
  have hlen : ∀ sig, parseMethodDescriptor y.desc = some sig → 0 = sig.parameters.length := by
    intro sig h
    rw [h] at hd
    exact (Option.some.inj hd).symm
  have hpre : PreS s H (PcN E b j cw) (.ref (b + j) :: []) := ⟨PcN.blind, fun U hU hW => ⟨rfl, hT.warm hW, hKA.warm hW, va_K.moved hW.alike hK, va_AO.moved hW.alike hO, by rw [hU]; exact hz, by rw [hU]; exact hP⟩⟩
  have hrun : va_Run p l e (rmN rk mc ms) s m args below meth c H locs k n mc' ms' (F0 m pc ls (.ref (b + j) :: st)) st (QN E b cw' (Value.ref (b + j) :: []).toArray) (pB b) := by
    rcases hlink with hlink | ⟨h9, hlink⟩
    · exact va_runI (Ts := []) (As := []) ⟨hx, hb, hml, hown, fun w hw => by cases hw⟩ hcon ⟨⟨rfl, rfl, by show rk' + 2 + 1 ≤ rk + 2; omega, by show 8 + (nL' + 11) + (40 * rk' + 40) ≤ 40 * rk + 40; omega, hcond, List.mem_cons_self, hT.use h2 rfl, hT.use h3 rfl, hy, hlen, hT.use hlink rfl⟩, hnm, hT.use h1 rfl⟩ hpre rfl rfl hl.1 rfl (lv_room hsum) d ⟨hk, hn⟩
    · exact va_runIN (Ts := []) (As := []) (host := h9) ⟨hx, hb, hml, hown, fun w hw => by cases hw⟩ hcon ⟨⟨⟨rfl, rfl, by show rk' + 2 + 1 ≤ rk + 2; omega, by show 8 + (nL' + 11) + (40 * rk' + 40) ≤ 40 * rk + 40; omega, hcond, List.mem_cons_self⟩, hT.use h2 rfl, hT.use h3 rfl, hy, hlen, hT.use hlink rfl⟩, hnm, hT.use h1 rfl⟩ hpre rfl rfl hl.1 rfl (lv_room hsum) d ⟨hk, hn⟩
  intro T9 hT9 X9
  obtain ⟨v, st₀, t, T', L9, g0, X', hL, e1, e2, ⟨q1, q2, q3, q4⟩, stp⟩ := hrun T9 hT9 X9
  cases q1
  obtain ⟨k1, k2, k3⟩ := vx_keep g0 e1 hS (fun _ _ h => h) (fun _ h => h) hL q4
  obtain ⟨t2, a1, b1⟩ := kk T'.heap (locs ++ L9) ls (by rw [e1]; exact q2) (by rw [e1]; exact q3) k3 hl T' rfl X'
  exact ⟨t2, stp t2 a1, b1⟩
theorem ConN.of {y : MethodName} {j : Nat} {post : List va_E} (hy : plainName y.cls = true) (hnm : y.name = "<init>") (hbz : 1 ≤ nL) (body : ∀ Y : Mc, NOk Y l E b nL mc ms y.cls cc rk → N Y l E b nL mc ms (QN E b post) 0 [(0, .ref (b + j))] [] cw 0 0) : ConN l E b y cc nL rk j mc ms cw post := by
  refine Met.ofW (cc := cc) (maxL := nL) (ret := none) hy rfl ?_
  intro p e s m args below meth c s₁ B hml hv
  obtain ⟨rfl, hT, hKA, hK, hO, hz, hP⟩ := hv
  have hl := lv_entry ([.ref (b + j)]) (n := nL) hbz
  show W p l e _ s m _ below meth c s.heap [] 0 0 _ (entryFrame m ([.ref (b + j)] : List Value).toArray nL)
  rw [lg_entry_eq]
  generalize (lg_sl [.ref (b + j)] ++ List.replicate (nL - (lg_sl [.ref (b + j)]).length) Slot.unset).toArray = ls at hl ⊢
  exact body (p, e, rmN rk mc ms, s, m, #[.ref (b + j)], below, meth, c) ⟨B.exec, B.bytes, hml, findClass_of_methodNamed B.named, B.returns, B.notSynchronized, ((name_of_methodNamed B.named B.method).1).trans hnm, rfl, hT, hKA, hK, hO, by rw [hz]; omega⟩ s.heap [] ls hz hP va_S.rf hl

end VN
