/-! ===== V: from here, with this memory, the method ends as r says ===== -/
abbrev Mc : Type := Program × Env × Room × State × MethodId × Array Value × List Frame × Method × Code
def V (Y : Mc) (l : Launch) (E : WE) (lv : List (Nat × Nat)) (nL : Nat) (r : Res) (pc : Nat) (L : List (Nat × Value)) (st : List Value) (μ : Mem) : Prop := match Y with
  | (p, e, R, s, m, args, below, meth, c) => ∀ (H : Heap) (locs : List Loc) (ls : Array Slot), H.size = s.heap.size → va_P E.2.1 vwCl (cs E lv μ) H → va_S (AW E lv s.heap.size) s.heap H locs → lv_has ls nL L →
    W p l e R s m args below meth c H locs 0 0 (vx_MQ below (QCr E lv (AW E lv s.heap.size) r) (XCr E lv (AW E lv s.heap.size) r) args s 1 6 (AW E lv s.heap.size)) (F0 m pc ls st)
def Ok (Y : Mc) (l : Launch) (E : WE) (lv : List (Nat × Nat)) (nL : Nat) (own : String) (cc : ByteArray) (ret : Option FieldType) (rk : Nat) : Prop := match Y with
  | (p, e, R, s, m, args, below, meth, c) => p.tables.exec = Jvm.exec ∧ c.code = cc ∧ c.maxLocals = nL ∧ s.vm.findClass own = some m.cls ∧ meth.sig.returnType = ret ∧ meth.locks = false ∧ (∀ x ∈ c.exceptionTable.toList, False) ∧ l.stackTraces = false ∧ R = rmK rk ∧ Tab s ∧ kTab E s ∧ va_K E.2.1 vwCl (tysE E) s ∧ AdOk E lv ∧ Cst E (AW E lv s.heap.size) s s.heap
theorem W_sz {p : Program} {l : Launch} {e : Env} {R : Room} {s : State} {m : MethodId} {args : Array Value} {below : List Frame} {meth : Method} {c : Code} {H : Heap} {locs : List Loc} {Q : State → Prop} {g : JFrame} (h0 : s.heap.size ≤ H.size) (k : H.size = s.heap.size → W p l e R s m args below meth c H locs 0 0 Q g) : W p l e R s m args below meth c H locs 0 0 Q g :=
  fun T hT X => k (Nat.le_antisymm (by have := X.heapSize; rw [hT] at this; exact this) h0) T hT X
section VR
variable {Y : Mc} {l : Launch} {E : WE} {lv : List (Nat × Nat)} {nL : Nat} {r : Res} {own : String} {cc : ByteArray} {ret : Option FieldType} {rk : Nat} {pc : Nat} {L L' : List (Nat × Value)} {st : List Value} {μ : Mem}

theorem V_iconst (C : Ok Y l E lv nL own cc ret rk) {n : Int} (v : Int32) (d : decode cc pc = .ok (.iconst n, 1)) (hv : Int32.ofInt n = v)
    (kk : V Y l E lv nL r (pc + 1) L (.int v :: st) μ) : V Y l E lv nL r (pc) L st μ := by
  obtain ⟨p, e, R, s, m, args, below, meth, c⟩ := Y
  obtain ⟨hx, hb, hml, hown, hr, hlk, hnt, hst, hR, hT, hk, hK, hA, hC⟩ := C
  intro H locs ls hz hP hS hl
  exact lv_iconst hx hb d hv (kk H locs ls hz hP hS hl)

theorem V_bipush (C : Ok Y l E lv nL own cc ret rk) {n : Int} (v : Int32) (d : decode cc pc = .ok (.bipush n, 2)) (hv : (Int8.ofInt n).toInt32 = v)
    (kk : V Y l E lv nL r (pc + 2) L (.int v :: st) μ) : V Y l E lv nL r (pc) L st μ := by
  obtain ⟨p, e, R, s, m, args, below, meth, c⟩ := Y
  obtain ⟨hx, hb, hml, hown, hr, hlk, hnt, hst, hR, hT, hk, hK, hA, hC⟩ := C
  intro H locs ls hz hP hS hl
  exact lv_bipush hx hb d hv (kk H locs ls hz hP hS hl)

theorem V_sipush (C : Ok Y l E lv nL own cc ret rk) {n : Int} (v : Int32) (d : decode cc pc = .ok (.sipush n, 3)) (hv : (Int16.ofInt n).toInt32 = v)
    (kk : V Y l E lv nL r (pc + 3) L (.int v :: st) μ) : V Y l E lv nL r (pc) L st μ := by
  obtain ⟨p, e, R, s, m, args, below, meth, c⟩ := Y
  obtain ⟨hx, hb, hml, hown, hr, hlk, hnt, hst, hR, hT, hk, hK, hA, hC⟩ := C
  intro H locs ls hz hP hS hl
  exact lv_sipush hx hb d hv (kk H locs ls hz hP hS hl)

theorem V_lconst (C : Ok Y l E lv nL own cc ret rk) {n : Fin 2} (v : Int64) (d : decode cc pc = .ok (.lconst n, 1)) (hv : Int64.ofNat (n : Nat) = v)
    (kk : V Y l E lv nL r (pc + 1) L (.long v :: st) μ) : V Y l E lv nL r (pc) L st μ := by
  obtain ⟨p, e, R, s, m, args, below, meth, c⟩ := Y
  obtain ⟨hx, hb, hml, hown, hr, hlk, hnt, hst, hR, hT, hk, hK, hA, hC⟩ := C
  intro H locs ls hz hP hS hl
  exact lv_lconst hx hb d hv (kk H locs ls hz hP hS hl)

theorem V_ldc2 (C : Ok Y l E lv nL own cc ret rk) {index : Nat} (v : Int64) (hc : Cond.constantLong own index v ∈ lw_tbl) (d : decode cc pc = .ok (.ldc2_w index, 3))
    (kk : V Y l E lv nL r (pc + 3) L (.long v :: st) μ) : V Y l E lv nL r (pc) L st μ := by
  obtain ⟨p, e, R, s, m, args, below, meth, c⟩ := Y
  obtain ⟨hx, hb, hml, hown, hr, hlk, hnt, hst, hR, hT, hk, hK, hA, hC⟩ := C
  intro H locs ls hz hP hS hl
  exact lv_ldc2 hx hb hown (hT.use hc rfl) d (kk H locs ls hz hP hS hl)

theorem V_ldc (C : Ok Y l E lv nL own cc ret rk) {index : Nat} (v : Int32) (hc : Cond.constant own index v ∈ lw_tbl) (d : decode cc pc = .ok (.ldc index, 2))
    (kk : V Y l E lv nL r (pc + 2) L (.int v :: st) μ) : V Y l E lv nL r (pc) L st μ := by
  obtain ⟨p, e, R, s, m, args, below, meth, c⟩ := Y
  obtain ⟨hx, hb, hml, hown, hr, hlk, hnt, hst, hR, hT, hk, hK, hA, hC⟩ := C
  intro H locs ls hz hP hS hl
  exact lv_ldc hx hb hown (hT.use hc rfl) d (kk H locs ls hz hP hS hl)

theorem V_ldcS (C : Ok Y l E lv nL own cc ret rk) {index : Nat} {tx : String} (j : Nat) (hc : (own, index, tx, j) ∈ kTabL) (d : decode cc pc = .ok (.ldc index, 2))
    (kk : V Y l E lv nL r (pc + 2) L (.ref (E.2.2.2.1 j) :: st) μ) : V Y l E lv nL r (pc) L st μ := by
  obtain ⟨p, e, R, s, m, args, below, meth, c⟩ := Y
  obtain ⟨hx, hb, hml, hown, hr, hlk, hnt, hst, hR, hT, hk, hK, hA, hC⟩ := C
  intro H locs ls hz hP hS hl
  exact va_ldcS hx hb hown (hk _ hc) d (kk H locs ls hz hP hS hl)

theorem V_iload_n (C : Ok Y l E lv nL own cc ret rk) {k : Fin 4} (i : Nat) {x : Int32} (d : decode cc pc = .ok (.iload_n k, 1)) (hi : (k : Nat) = i) (q : Nat) (hq : L[q]? = some (i, .int x))
    (kk : V Y l E lv nL r (pc + 1) L (.int x :: st) μ) : V Y l E lv nL r (pc) L st μ := by
  obtain ⟨p, e, R, s, m, args, below, meth, c⟩ := Y
  obtain ⟨hx, hb, hml, hown, hr, hlk, hnt, hst, hR, hT, hk, hK, hA, hC⟩ := C
  intro H locs ls hz hP hS hl
  exact lv_iload_n hx hb d hi (lv_at hl q hq) (kk H locs ls hz hP hS hl)

theorem V_iload (C : Ok Y l E lv nL own cc ret rk) {i : Nat} {x : Int32} (d : decode cc pc = .ok (.iload i, 2)) (q : Nat) (hq : L[q]? = some (i, .int x))
    (kk : V Y l E lv nL r (pc + 2) L (.int x :: st) μ) : V Y l E lv nL r (pc) L st μ := by
  obtain ⟨p, e, R, s, m, args, below, meth, c⟩ := Y
  obtain ⟨hx, hb, hml, hown, hr, hlk, hnt, hst, hR, hT, hk, hK, hA, hC⟩ := C
  intro H locs ls hz hP hS hl
  exact lv_iload hx hb d (lv_at hl q hq) (kk H locs ls hz hP hS hl)

theorem V_lload_n (C : Ok Y l E lv nL own cc ret rk) {k : Fin 4} (i : Nat) {x : Int64} (d : decode cc pc = .ok (.lload_n k, 1)) (hi : (k : Nat) = i) (q : Nat) (hq : L[q]? = some (i, .long x))
    (kk : V Y l E lv nL r (pc + 1) L (.long x :: st) μ) : V Y l E lv nL r (pc) L st μ := by
  obtain ⟨p, e, R, s, m, args, below, meth, c⟩ := Y
  obtain ⟨hx, hb, hml, hown, hr, hlk, hnt, hst, hR, hT, hk, hK, hA, hC⟩ := C
  intro H locs ls hz hP hS hl
  exact lv_lload_n hx hb d hi (lv_at hl q hq) (kk H locs ls hz hP hS hl)

theorem V_lload (C : Ok Y l E lv nL own cc ret rk) {i : Nat} {x : Int64} (d : decode cc pc = .ok (.lload i, 2)) (q : Nat) (hq : L[q]? = some (i, .long x))
    (kk : V Y l E lv nL r (pc + 2) L (.long x :: st) μ) : V Y l E lv nL r (pc) L st μ := by
  obtain ⟨p, e, R, s, m, args, below, meth, c⟩ := Y
  obtain ⟨hx, hb, hml, hown, hr, hlk, hnt, hst, hR, hT, hk, hK, hA, hC⟩ := C
  intro H locs ls hz hP hS hl
  exact lv_lload hx hb d (lv_at hl q hq) (kk H locs ls hz hP hS hl)

theorem V_aload_n (C : Ok Y l E lv nL own cc ret rk) {k : Fin 4} (i : Nat) {x : Nat} (d : decode cc pc = .ok (.aload_n k, 1)) (hi : (k : Nat) = i) (q : Nat) (hq : L[q]? = some (i, .ref x))
    (kk : V Y l E lv nL r (pc + 1) L (.ref x :: st) μ) : V Y l E lv nL r (pc) L st μ := by
  obtain ⟨p, e, R, s, m, args, below, meth, c⟩ := Y
  obtain ⟨hx, hb, hml, hown, hr, hlk, hnt, hst, hR, hT, hk, hK, hA, hC⟩ := C
  intro H locs ls hz hP hS hl
  exact lv_aload_n hx hb d hi (lv_at hl q hq) (kk H locs ls hz hP hS hl)

theorem V_aload (C : Ok Y l E lv nL own cc ret rk) {i : Nat} {x : Nat} (d : decode cc pc = .ok (.aload i, 2)) (q : Nat) (hq : L[q]? = some (i, .ref x))
    (kk : V Y l E lv nL r (pc + 2) L (.ref x :: st) μ) : V Y l E lv nL r (pc) L st μ := by
  obtain ⟨p, e, R, s, m, args, below, meth, c⟩ := Y
  obtain ⟨hx, hb, hml, hown, hr, hlk, hnt, hst, hR, hT, hk, hK, hA, hC⟩ := C
  intro H locs ls hz hP hS hl
  exact lv_aload hx hb d (lv_at hl q hq) (kk H locs ls hz hP hS hl)

theorem V_istore_n (C : Ok Y l E lv nL own cc ret rk) {k : Fin 4} (i : Nat) {x : Int32} (d : decode cc pc = .ok (.istore_n k, 1)) (hi : (k : Nat) = i) (hn : i < nL) (ks : List Nat) (hL : lv_pick ((i, Value.int x) :: L.filter (fun q => !(q.1 == i) && !(q.1 + 1 == i && q.2.category == 2))) ks = L')
    (kk : V Y l E lv nL r (pc + 1) L' st μ) : V Y l E lv nL r (pc) L (.int x :: st) μ := by
  obtain ⟨p, e, R, s, m, args, below, meth, c⟩ := Y
  obtain ⟨hx, hb, hml, hown, hr, hlk, hnt, hst, hR, hT, hk, hK, hA, hC⟩ := C
  intro H locs ls hz hP hS hl
  exact lv_istore_n hx hb d hi hl hn rfl (fun ls' hl' => kk H locs ls' hz hP hS (lv_sub hl' ks hL))

theorem V_istore (C : Ok Y l E lv nL own cc ret rk) {i : Nat} {x : Int32} (d : decode cc pc = .ok (.istore i, 2)) (hn : i < nL) (ks : List Nat) (hL : lv_pick ((i, Value.int x) :: L.filter (fun q => !(q.1 == i) && !(q.1 + 1 == i && q.2.category == 2))) ks = L')
    (kk : V Y l E lv nL r (pc + 2) L' st μ) : V Y l E lv nL r (pc) L (.int x :: st) μ := by
  obtain ⟨p, e, R, s, m, args, below, meth, c⟩ := Y
  obtain ⟨hx, hb, hml, hown, hr, hlk, hnt, hst, hR, hT, hk, hK, hA, hC⟩ := C
  intro H locs ls hz hP hS hl
  exact lv_istore hx hb d hl hn rfl (fun ls' hl' => kk H locs ls' hz hP hS (lv_sub hl' ks hL))

theorem V_astore_n (C : Ok Y l E lv nL own cc ret rk) {k : Fin 4} (i : Nat) {x : Nat} (d : decode cc pc = .ok (.astore_n k, 1)) (hi : (k : Nat) = i) (hn : i < nL) (ks : List Nat) (hL : lv_pick ((i, Value.ref x) :: L.filter (fun q => !(q.1 == i) && !(q.1 + 1 == i && q.2.category == 2))) ks = L')
    (kk : V Y l E lv nL r (pc + 1) L' st μ) : V Y l E lv nL r (pc) L (.ref x :: st) μ := by
  obtain ⟨p, e, R, s, m, args, below, meth, c⟩ := Y
  obtain ⟨hx, hb, hml, hown, hr, hlk, hnt, hst, hR, hT, hk, hK, hA, hC⟩ := C
  intro H locs ls hz hP hS hl
  exact lv_astore_n hx hb d hi hl hn rfl (fun ls' hl' => kk H locs ls' hz hP hS (lv_sub hl' ks hL))

theorem V_astore (C : Ok Y l E lv nL own cc ret rk) {i : Nat} {x : Nat} (d : decode cc pc = .ok (.astore i, 2)) (hn : i < nL) (ks : List Nat) (hL : lv_pick ((i, Value.ref x) :: L.filter (fun q => !(q.1 == i) && !(q.1 + 1 == i && q.2.category == 2))) ks = L')
    (kk : V Y l E lv nL r (pc + 2) L' st μ) : V Y l E lv nL r (pc) L (.ref x :: st) μ := by
  obtain ⟨p, e, R, s, m, args, below, meth, c⟩ := Y
  obtain ⟨hx, hb, hml, hown, hr, hlk, hnt, hst, hR, hT, hk, hK, hA, hC⟩ := C
  intro H locs ls hz hP hS hl
  exact lv_astore hx hb d hl hn rfl (fun ls' hl' => kk H locs ls' hz hP hS (lv_sub hl' ks hL))

theorem V_lstore_n (C : Ok Y l E lv nL own cc ret rk) {k : Fin 4} (i : Nat) {x : Int64} (d : decode cc pc = .ok (.lstore_n k, 1)) (hi : (k : Nat) = i) (hn : i + 1 < nL) (ks : List Nat) (hL : lv_pick ((i, Value.long x) :: L.filter (fun q => !(q.1 == i) && (!(q.1 == i + 1) && !(q.1 + 1 == i && q.2.category == 2)))) ks = L')
    (kk : V Y l E lv nL r (pc + 1) L' st μ) : V Y l E lv nL r (pc) L (.long x :: st) μ := by
  obtain ⟨p, e, R, s, m, args, below, meth, c⟩ := Y
  obtain ⟨hx, hb, hml, hown, hr, hlk, hnt, hst, hR, hT, hk, hK, hA, hC⟩ := C
  intro H locs ls hz hP hS hl
  exact lv_lstore_n hx hb d hi hl hn rfl (fun ls' hl' => kk H locs ls' hz hP hS (lv_sub hl' ks hL))

theorem V_lstore (C : Ok Y l E lv nL own cc ret rk) {i : Nat} {x : Int64} (d : decode cc pc = .ok (.lstore i, 2)) (hn : i + 1 < nL) (ks : List Nat) (hL : lv_pick ((i, Value.long x) :: L.filter (fun q => !(q.1 == i) && (!(q.1 == i + 1) && !(q.1 + 1 == i && q.2.category == 2)))) ks = L')
    (kk : V Y l E lv nL r (pc + 2) L' st μ) : V Y l E lv nL r (pc) L (.long x :: st) μ := by
  obtain ⟨p, e, R, s, m, args, below, meth, c⟩ := Y
  obtain ⟨hx, hb, hml, hown, hr, hlk, hnt, hst, hR, hT, hk, hK, hA, hC⟩ := C
  intro H locs ls hz hP hS hl
  exact lv_lstore hx hb d hl hn rfl (fun ls' hl' => kk H locs ls' hz hP hS (lv_sub hl' ks hL))

theorem V_iinc (C : Ok Y l E lv nL own cc ret rk) {i : Nat} {n : Int} {x : Int32} (v : Int32) (d : decode cc pc = .ok (.iinc i n, 3)) (q : Nat) (hq : L[q]? = some (i, .int x)) (hv : x + Int32.ofInt n = v) (hn : i < nL) (ks : List Nat) (hL : lv_pick ((i, Value.int v) :: L.filter (fun q => !(q.1 == i) && !(q.1 + 1 == i && q.2.category == 2))) ks = L')
    (kk : V Y l E lv nL r (pc + 3) L' st μ) : V Y l E lv nL r (pc) L st μ := by
  obtain ⟨p, e, R, s, m, args, below, meth, c⟩ := Y
  obtain ⟨hx, hb, hml, hown, hr, hlk, hnt, hst, hR, hT, hk, hK, hA, hC⟩ := C
  intro H locs ls hz hP hS hl
  exact lv_iinc hx hb d hl hq hv hn rfl (fun ls' hl' => kk H locs ls' hz hP hS (lv_sub hl' ks hL))

theorem V_iadd (C : Ok Y l E lv nL own cc ret rk) {x y : Int32} (d : decode cc pc = .ok (.iadd, 1))
    (kk : V Y l E lv nL r (pc + 1) L (.int (x + y) :: st) μ) : V Y l E lv nL r (pc) L (.int y :: .int x :: st) μ := by
  obtain ⟨p, e, R, s, m, args, below, meth, c⟩ := Y
  obtain ⟨hx, hb, hml, hown, hr, hlk, hnt, hst, hR, hT, hk, hK, hA, hC⟩ := C
  intro H locs ls hz hP hS hl
  exact lv_iadd hx hb d (kk H locs ls hz hP hS hl)

theorem V_isub (C : Ok Y l E lv nL own cc ret rk) {x y : Int32} (d : decode cc pc = .ok (.isub, 1))
    (kk : V Y l E lv nL r (pc + 1) L (.int (x - y) :: st) μ) : V Y l E lv nL r (pc) L (.int y :: .int x :: st) μ := by
  obtain ⟨p, e, R, s, m, args, below, meth, c⟩ := Y
  obtain ⟨hx, hb, hml, hown, hr, hlk, hnt, hst, hR, hT, hk, hK, hA, hC⟩ := C
  intro H locs ls hz hP hS hl
  exact lv_isub hx hb d (kk H locs ls hz hP hS hl)

theorem V_imul (C : Ok Y l E lv nL own cc ret rk) {x y : Int32} (d : decode cc pc = .ok (.imul, 1))
    (kk : V Y l E lv nL r (pc + 1) L (.int (x * y) :: st) μ) : V Y l E lv nL r (pc) L (.int y :: .int x :: st) μ := by
  obtain ⟨p, e, R, s, m, args, below, meth, c⟩ := Y
  obtain ⟨hx, hb, hml, hown, hr, hlk, hnt, hst, hR, hT, hk, hK, hA, hC⟩ := C
  intro H locs ls hz hP hS hl
  exact lv_imul hx hb d (kk H locs ls hz hP hS hl)

theorem V_iand (C : Ok Y l E lv nL own cc ret rk) {x y : Int32} (d : decode cc pc = .ok (.iand, 1))
    (kk : V Y l E lv nL r (pc + 1) L (.int (x &&& y) :: st) μ) : V Y l E lv nL r (pc) L (.int y :: .int x :: st) μ := by
  obtain ⟨p, e, R, s, m, args, below, meth, c⟩ := Y
  obtain ⟨hx, hb, hml, hown, hr, hlk, hnt, hst, hR, hT, hk, hK, hA, hC⟩ := C
  intro H locs ls hz hP hS hl
  exact lv_iand hx hb d (kk H locs ls hz hP hS hl)

theorem V_ior (C : Ok Y l E lv nL own cc ret rk) {x y : Int32} (d : decode cc pc = .ok (.ior, 1))
    (kk : V Y l E lv nL r (pc + 1) L (.int (x ||| y) :: st) μ) : V Y l E lv nL r (pc) L (.int y :: .int x :: st) μ := by
  obtain ⟨p, e, R, s, m, args, below, meth, c⟩ := Y
  obtain ⟨hx, hb, hml, hown, hr, hlk, hnt, hst, hR, hT, hk, hK, hA, hC⟩ := C
  intro H locs ls hz hP hS hl
  exact lv_ior hx hb d (kk H locs ls hz hP hS hl)

theorem V_ixor (C : Ok Y l E lv nL own cc ret rk) {x y : Int32} (d : decode cc pc = .ok (.ixor, 1))
    (kk : V Y l E lv nL r (pc + 1) L (.int (x ^^^ y) :: st) μ) : V Y l E lv nL r (pc) L (.int y :: .int x :: st) μ := by
  obtain ⟨p, e, R, s, m, args, below, meth, c⟩ := Y
  obtain ⟨hx, hb, hml, hown, hr, hlk, hnt, hst, hR, hT, hk, hK, hA, hC⟩ := C
  intro H locs ls hz hP hS hl
  exact lv_ixor hx hb d (kk H locs ls hz hP hS hl)

theorem V_ishr (C : Ok Y l E lv nL own cc ret rk) {x y : Int32} (d : decode cc pc = .ok (.ishr, 1))
    (kk : V Y l E lv nL r (pc + 1) L (.int (x >>> (y &&& 31)) :: st) μ) : V Y l E lv nL r (pc) L (.int y :: .int x :: st) μ := by
  obtain ⟨p, e, R, s, m, args, below, meth, c⟩ := Y
  obtain ⟨hx, hb, hml, hown, hr, hlk, hnt, hst, hR, hT, hk, hK, hA, hC⟩ := C
  intro H locs ls hz hP hS hl
  exact lv_ishr hx hb d (kk H locs ls hz hP hS hl)

theorem V_ishl (C : Ok Y l E lv nL own cc ret rk) {x y : Int32} (d : decode cc pc = .ok (.ishl, 1))
    (kk : V Y l E lv nL r (pc + 1) L (.int (x <<< (y &&& 31)) :: st) μ) : V Y l E lv nL r (pc) L (.int y :: .int x :: st) μ := by
  obtain ⟨p, e, R, s, m, args, below, meth, c⟩ := Y
  obtain ⟨hx, hb, hml, hown, hr, hlk, hnt, hst, hR, hT, hk, hK, hA, hC⟩ := C
  intro H locs ls hz hP hS hl
  exact lv_ishl hx hb d (kk H locs ls hz hP hS hl)

theorem V_idiv (C : Ok Y l E lv nL own cc ret rk) {x y : Int32} (d : decode cc pc = .ok (.idiv, 1)) (hne : ¬ y = 0)
    (kk : V Y l E lv nL r (pc + 1) L (.int (x / y) :: st) μ) : V Y l E lv nL r (pc) L (.int y :: .int x :: st) μ := by
  obtain ⟨p, e, R, s, m, args, below, meth, c⟩ := Y
  obtain ⟨hx, hb, hml, hown, hr, hlk, hnt, hst, hR, hT, hk, hK, hA, hC⟩ := C
  intro H locs ls hz hP hS hl
  exact lv_idiv hx hb d hne (kk H locs ls hz hP hS hl)

theorem V_irem (C : Ok Y l E lv nL own cc ret rk) {x y : Int32} (d : decode cc pc = .ok (.irem, 1)) (hne : ¬ y = 0)
    (kk : V Y l E lv nL r (pc + 1) L (.int (x - x / y * y) :: st) μ) : V Y l E lv nL r (pc) L (.int y :: .int x :: st) μ := by
  obtain ⟨p, e, R, s, m, args, below, meth, c⟩ := Y
  obtain ⟨hx, hb, hml, hown, hr, hlk, hnt, hst, hR, hT, hk, hK, hA, hC⟩ := C
  intro H locs ls hz hP hS hl
  exact lv_irem hx hb d hne (kk H locs ls hz hP hS hl)

theorem V_ladd (C : Ok Y l E lv nL own cc ret rk) {x y : Int64} (d : decode cc pc = .ok (.ladd, 1))
    (kk : V Y l E lv nL r (pc + 1) L (.long (x + y) :: st) μ) : V Y l E lv nL r (pc) L (.long y :: .long x :: st) μ := by
  obtain ⟨p, e, R, s, m, args, below, meth, c⟩ := Y
  obtain ⟨hx, hb, hml, hown, hr, hlk, hnt, hst, hR, hT, hk, hK, hA, hC⟩ := C
  intro H locs ls hz hP hS hl
  exact lv_ladd hx hb d (kk H locs ls hz hP hS hl)

theorem V_lsub (C : Ok Y l E lv nL own cc ret rk) {x y : Int64} (d : decode cc pc = .ok (.lsub, 1))
    (kk : V Y l E lv nL r (pc + 1) L (.long (x - y) :: st) μ) : V Y l E lv nL r (pc) L (.long y :: .long x :: st) μ := by
  obtain ⟨p, e, R, s, m, args, below, meth, c⟩ := Y
  obtain ⟨hx, hb, hml, hown, hr, hlk, hnt, hst, hR, hT, hk, hK, hA, hC⟩ := C
  intro H locs ls hz hP hS hl
  exact lv_lsub hx hb d (kk H locs ls hz hP hS hl)

theorem V_lmul (C : Ok Y l E lv nL own cc ret rk) {x y : Int64} (d : decode cc pc = .ok (.lmul, 1))
    (kk : V Y l E lv nL r (pc + 1) L (.long (x * y) :: st) μ) : V Y l E lv nL r (pc) L (.long y :: .long x :: st) μ := by
  obtain ⟨p, e, R, s, m, args, below, meth, c⟩ := Y
  obtain ⟨hx, hb, hml, hown, hr, hlk, hnt, hst, hR, hT, hk, hK, hA, hC⟩ := C
  intro H locs ls hz hP hS hl
  exact lv_lmul hx hb d (kk H locs ls hz hP hS hl)

theorem V_ldiv (C : Ok Y l E lv nL own cc ret rk) {x y : Int64} (d : decode cc pc = .ok (.ldiv, 1)) (hne : ¬ y = 0)
    (kk : V Y l E lv nL r (pc + 1) L (.long (x / y) :: st) μ) : V Y l E lv nL r (pc) L (.long y :: .long x :: st) μ := by
  obtain ⟨p, e, R, s, m, args, below, meth, c⟩ := Y
  obtain ⟨hx, hb, hml, hown, hr, hlk, hnt, hst, hR, hT, hk, hK, hA, hC⟩ := C
  intro H locs ls hz hP hS hl
  exact lv_ldiv hx hb d hne (kk H locs ls hz hP hS hl)

theorem V_lrem (C : Ok Y l E lv nL own cc ret rk) {x y : Int64} (d : decode cc pc = .ok (.lrem, 1)) (hne : ¬ y = 0)
    (kk : V Y l E lv nL r (pc + 1) L (.long (x - x / y * y) :: st) μ) : V Y l E lv nL r (pc) L (.long y :: .long x :: st) μ := by
  obtain ⟨p, e, R, s, m, args, below, meth, c⟩ := Y
  obtain ⟨hx, hb, hml, hown, hr, hlk, hnt, hst, hR, hT, hk, hK, hA, hC⟩ := C
  intro H locs ls hz hP hS hl
  exact lv_lrem hx hb d hne (kk H locs ls hz hP hS hl)

theorem V_ineg (C : Ok Y l E lv nL own cc ret rk) {x : Int32} (d : decode cc pc = .ok (.ineg, 1))
    (kk : V Y l E lv nL r (pc + 1) L (.int (-x) :: st) μ) : V Y l E lv nL r (pc) L (.int x :: st) μ := by
  obtain ⟨p, e, R, s, m, args, below, meth, c⟩ := Y
  obtain ⟨hx, hb, hml, hown, hr, hlk, hnt, hst, hR, hT, hk, hK, hA, hC⟩ := C
  intro H locs ls hz hP hS hl
  exact lv_ineg hx hb d (kk H locs ls hz hP hS hl)

theorem V_lneg (C : Ok Y l E lv nL own cc ret rk) {x : Int64} (d : decode cc pc = .ok (.lneg, 1))
    (kk : V Y l E lv nL r (pc + 1) L (.long (-x) :: st) μ) : V Y l E lv nL r (pc) L (.long x :: st) μ := by
  obtain ⟨p, e, R, s, m, args, below, meth, c⟩ := Y
  obtain ⟨hx, hb, hml, hown, hr, hlk, hnt, hst, hR, hT, hk, hK, hA, hC⟩ := C
  intro H locs ls hz hP hS hl
  exact lv_lneg hx hb d (kk H locs ls hz hP hS hl)

theorem V_i2l (C : Ok Y l E lv nL own cc ret rk) {x : Int32} (d : decode cc pc = .ok (.i2l, 1))
    (kk : V Y l E lv nL r (pc + 1) L (.long x.toInt64 :: st) μ) : V Y l E lv nL r (pc) L (.int x :: st) μ := by
  obtain ⟨p, e, R, s, m, args, below, meth, c⟩ := Y
  obtain ⟨hx, hb, hml, hown, hr, hlk, hnt, hst, hR, hT, hk, hK, hA, hC⟩ := C
  intro H locs ls hz hP hS hl
  exact lv_i2l hx hb d rfl (kk H locs ls hz hP hS hl)

theorem V_l2i (C : Ok Y l E lv nL own cc ret rk) {x : Int64} (d : decode cc pc = .ok (.l2i, 1))
    (kk : V Y l E lv nL r (pc + 1) L (.int x.toInt32 :: st) μ) : V Y l E lv nL r (pc) L (.long x :: st) μ := by
  obtain ⟨p, e, R, s, m, args, below, meth, c⟩ := Y
  obtain ⟨hx, hb, hml, hown, hr, hlk, hnt, hst, hR, hT, hk, hK, hA, hC⟩ := C
  intro H locs ls hz hP hS hl
  exact lv_l2i hx hb d rfl (kk H locs ls hz hP hS hl)

theorem V_i2c (C : Ok Y l E lv nL own cc ret rk) {x : Int32} (d : decode cc pc = .ok (.i2c, 1))
    (kk : V Y l E lv nL r (pc + 1) L (.int (x.toUInt32 % 65536).toInt32 :: st) μ) : V Y l E lv nL r (pc) L (.int x :: st) μ := by
  obtain ⟨p, e, R, s, m, args, below, meth, c⟩ := Y
  obtain ⟨hx, hb, hml, hown, hr, hlk, hnt, hst, hR, hT, hk, hK, hA, hC⟩ := C
  intro H locs ls hz hP hS hl
  exact lv_i2c hx hb d rfl (kk H locs ls hz hP hS hl)

theorem V_lcmp (C : Ok Y l E lv nL own cc ret rk) {x y : Int64} (d : decode cc pc = .ok (.lcmp, 1))
    (kk : V Y l E lv nL r (pc + 1) L (.int (lg_cmp x y) :: st) μ) : V Y l E lv nL r (pc) L (.long y :: .long x :: st) μ := by
  obtain ⟨p, e, R, s, m, args, below, meth, c⟩ := Y
  obtain ⟨hx, hb, hml, hown, hr, hlk, hnt, hst, hR, hT, hk, hK, hA, hC⟩ := C
  intro H locs ls hz hP hS hl
  exact W.lcmp hx hb d (kk H locs ls hz hP hS hl)

theorem V_dup (C : Ok Y l E lv nL own cc ret rk) {v : Value} (d : decode cc pc = .ok (.dup, 1)) (hv : v.category = 1)
    (kk : V Y l E lv nL r (pc + 1) L (v :: v :: st) μ) : V Y l E lv nL r (pc) L (v :: st) μ := by
  obtain ⟨p, e, R, s, m, args, below, meth, c⟩ := Y
  obtain ⟨hx, hb, hml, hown, hr, hlk, hnt, hst, hR, hT, hk, hK, hA, hC⟩ := C
  intro H locs ls hz hP hS hl
  exact lv_dup hx hb d hv (kk H locs ls hz hP hS hl)

theorem V_pop (C : Ok Y l E lv nL own cc ret rk) {v : Value} (d : decode cc pc = .ok (.pop, 1)) (hv : v.category = 1)
    (kk : V Y l E lv nL r (pc + 1) L st μ) : V Y l E lv nL r (pc) L (v :: st) μ := by
  obtain ⟨p, e, R, s, m, args, below, meth, c⟩ := Y
  obtain ⟨hx, hb, hml, hown, hr, hlk, hnt, hst, hR, hT, hk, hK, hA, hC⟩ := C
  intro H locs ls hz hP hS hl
  exact lv_pop hx hb d hv (kk H locs ls hz hP hS hl)

theorem V_goto (C : Ok Y l E lv nL own cc ret rk) {off : Int} {tgt : Nat} (d : decode cc pc = .ok (.goto off, 3)) (ht : (pc : Int) + off = (tgt : Int))
    (kk : V Y l E lv nL r (tgt) L st μ) : V Y l E lv nL r (pc) L st μ := by
  obtain ⟨p, e, R, s, m, args, below, meth, c⟩ := Y
  obtain ⟨hx, hb, hml, hown, hr, hlk, hnt, hst, hR, hT, hk, hK, hA, hC⟩ := C
  intro H locs ls hz hP hS hl
  exact lv_goto hx hb d ht (kk H locs ls hz hP hS hl)

theorem V_if_eq (C : Ok Y l E lv nL own cc ret rk) {x : Int32} {off : Int} {tgt : Nat} (d : decode cc pc = .ok (.ifCond .eq off, 3)) (ht : (pc : Int) + off = (tgt : Int))
    (kt : x = 0 → V Y l E lv nL r (tgt) L st μ) (kf : ¬ x = 0 → V Y l E lv nL r (pc + 3) L st μ) : V Y l E lv nL r (pc) L (.int x :: st) μ := by
  obtain ⟨p, e, R, s, m, args, below, meth, c⟩ := Y
  obtain ⟨hx, hb, hml, hown, hr, hlk, hnt, hst, hR, hT, hk, hK, hA, hC⟩ := C
  intro H locs ls hz hP hS hl
  exact lv_if_eq hx hb d ht (fun h => kt h H locs ls hz hP hS hl) (fun h => kf h H locs ls hz hP hS hl)

theorem V_icmp_eq (C : Ok Y l E lv nL own cc ret rk) {x y : Int32} {off : Int} {tgt : Nat} (d : decode cc pc = .ok (.if_icmp .eq off, 3)) (ht : (pc : Int) + off = (tgt : Int))
    (kt : x = y → V Y l E lv nL r (tgt) L st μ) (kf : ¬ x = y → V Y l E lv nL r (pc + 3) L st μ) : V Y l E lv nL r (pc) L (.int y :: .int x :: st) μ := by
  obtain ⟨p, e, R, s, m, args, below, meth, c⟩ := Y
  obtain ⟨hx, hb, hml, hown, hr, hlk, hnt, hst, hR, hT, hk, hK, hA, hC⟩ := C
  intro H locs ls hz hP hS hl
  exact lv_icmp_eq hx hb d ht (fun h => kt h H locs ls hz hP hS hl) (fun h => kf h H locs ls hz hP hS hl)

theorem V_if_ne (C : Ok Y l E lv nL own cc ret rk) {x : Int32} {off : Int} {tgt : Nat} (d : decode cc pc = .ok (.ifCond .ne off, 3)) (ht : (pc : Int) + off = (tgt : Int))
    (kt : ¬ x = 0 → V Y l E lv nL r (tgt) L st μ) (kf : x = 0 → V Y l E lv nL r (pc + 3) L st μ) : V Y l E lv nL r (pc) L (.int x :: st) μ := by
  obtain ⟨p, e, R, s, m, args, below, meth, c⟩ := Y
  obtain ⟨hx, hb, hml, hown, hr, hlk, hnt, hst, hR, hT, hk, hK, hA, hC⟩ := C
  intro H locs ls hz hP hS hl
  exact lv_if_ne hx hb d ht (fun h => kt h H locs ls hz hP hS hl) (fun h => kf h H locs ls hz hP hS hl)

theorem V_icmp_ne (C : Ok Y l E lv nL own cc ret rk) {x y : Int32} {off : Int} {tgt : Nat} (d : decode cc pc = .ok (.if_icmp .ne off, 3)) (ht : (pc : Int) + off = (tgt : Int))
    (kt : ¬ x = y → V Y l E lv nL r (tgt) L st μ) (kf : x = y → V Y l E lv nL r (pc + 3) L st μ) : V Y l E lv nL r (pc) L (.int y :: .int x :: st) μ := by
  obtain ⟨p, e, R, s, m, args, below, meth, c⟩ := Y
  obtain ⟨hx, hb, hml, hown, hr, hlk, hnt, hst, hR, hT, hk, hK, hA, hC⟩ := C
  intro H locs ls hz hP hS hl
  exact lv_icmp_ne hx hb d ht (fun h => kt h H locs ls hz hP hS hl) (fun h => kf h H locs ls hz hP hS hl)

theorem V_if_lt (C : Ok Y l E lv nL own cc ret rk) {x : Int32} {off : Int} {tgt : Nat} (d : decode cc pc = .ok (.ifCond .lt off, 3)) (ht : (pc : Int) + off = (tgt : Int))
    (kt : x < 0 → V Y l E lv nL r (tgt) L st μ) (kf : ¬ x < 0 → V Y l E lv nL r (pc + 3) L st μ) : V Y l E lv nL r (pc) L (.int x :: st) μ := by
  obtain ⟨p, e, R, s, m, args, below, meth, c⟩ := Y
  obtain ⟨hx, hb, hml, hown, hr, hlk, hnt, hst, hR, hT, hk, hK, hA, hC⟩ := C
  intro H locs ls hz hP hS hl
  exact lv_if_lt hx hb d ht (fun h => kt h H locs ls hz hP hS hl) (fun h => kf h H locs ls hz hP hS hl)

theorem V_icmp_lt (C : Ok Y l E lv nL own cc ret rk) {x y : Int32} {off : Int} {tgt : Nat} (d : decode cc pc = .ok (.if_icmp .lt off, 3)) (ht : (pc : Int) + off = (tgt : Int))
    (kt : x < y → V Y l E lv nL r (tgt) L st μ) (kf : ¬ x < y → V Y l E lv nL r (pc + 3) L st μ) : V Y l E lv nL r (pc) L (.int y :: .int x :: st) μ := by
  obtain ⟨p, e, R, s, m, args, below, meth, c⟩ := Y
  obtain ⟨hx, hb, hml, hown, hr, hlk, hnt, hst, hR, hT, hk, hK, hA, hC⟩ := C
  intro H locs ls hz hP hS hl
  exact lv_icmp_lt hx hb d ht (fun h => kt h H locs ls hz hP hS hl) (fun h => kf h H locs ls hz hP hS hl)

theorem V_if_ge (C : Ok Y l E lv nL own cc ret rk) {x : Int32} {off : Int} {tgt : Nat} (d : decode cc pc = .ok (.ifCond .ge off, 3)) (ht : (pc : Int) + off = (tgt : Int))
    (kt : 0 ≤ x → V Y l E lv nL r (tgt) L st μ) (kf : ¬ 0 ≤ x → V Y l E lv nL r (pc + 3) L st μ) : V Y l E lv nL r (pc) L (.int x :: st) μ := by
  obtain ⟨p, e, R, s, m, args, below, meth, c⟩ := Y
  obtain ⟨hx, hb, hml, hown, hr, hlk, hnt, hst, hR, hT, hk, hK, hA, hC⟩ := C
  intro H locs ls hz hP hS hl
  exact lv_if_ge hx hb d ht (fun h => kt h H locs ls hz hP hS hl) (fun h => kf h H locs ls hz hP hS hl)

theorem V_icmp_ge (C : Ok Y l E lv nL own cc ret rk) {x y : Int32} {off : Int} {tgt : Nat} (d : decode cc pc = .ok (.if_icmp .ge off, 3)) (ht : (pc : Int) + off = (tgt : Int))
    (kt : y ≤ x → V Y l E lv nL r (tgt) L st μ) (kf : ¬ y ≤ x → V Y l E lv nL r (pc + 3) L st μ) : V Y l E lv nL r (pc) L (.int y :: .int x :: st) μ := by
  obtain ⟨p, e, R, s, m, args, below, meth, c⟩ := Y
  obtain ⟨hx, hb, hml, hown, hr, hlk, hnt, hst, hR, hT, hk, hK, hA, hC⟩ := C
  intro H locs ls hz hP hS hl
  exact lv_icmp_ge hx hb d ht (fun h => kt h H locs ls hz hP hS hl) (fun h => kf h H locs ls hz hP hS hl)

theorem V_if_gt (C : Ok Y l E lv nL own cc ret rk) {x : Int32} {off : Int} {tgt : Nat} (d : decode cc pc = .ok (.ifCond .gt off, 3)) (ht : (pc : Int) + off = (tgt : Int))
    (kt : 0 < x → V Y l E lv nL r (tgt) L st μ) (kf : ¬ 0 < x → V Y l E lv nL r (pc + 3) L st μ) : V Y l E lv nL r (pc) L (.int x :: st) μ := by
  obtain ⟨p, e, R, s, m, args, below, meth, c⟩ := Y
  obtain ⟨hx, hb, hml, hown, hr, hlk, hnt, hst, hR, hT, hk, hK, hA, hC⟩ := C
  intro H locs ls hz hP hS hl
  exact lv_if_gt hx hb d ht (fun h => kt h H locs ls hz hP hS hl) (fun h => kf h H locs ls hz hP hS hl)

theorem V_icmp_gt (C : Ok Y l E lv nL own cc ret rk) {x y : Int32} {off : Int} {tgt : Nat} (d : decode cc pc = .ok (.if_icmp .gt off, 3)) (ht : (pc : Int) + off = (tgt : Int))
    (kt : y < x → V Y l E lv nL r (tgt) L st μ) (kf : ¬ y < x → V Y l E lv nL r (pc + 3) L st μ) : V Y l E lv nL r (pc) L (.int y :: .int x :: st) μ := by
  obtain ⟨p, e, R, s, m, args, below, meth, c⟩ := Y
  obtain ⟨hx, hb, hml, hown, hr, hlk, hnt, hst, hR, hT, hk, hK, hA, hC⟩ := C
  intro H locs ls hz hP hS hl
  exact lv_icmp_gt hx hb d ht (fun h => kt h H locs ls hz hP hS hl) (fun h => kf h H locs ls hz hP hS hl)

theorem V_if_le (C : Ok Y l E lv nL own cc ret rk) {x : Int32} {off : Int} {tgt : Nat} (d : decode cc pc = .ok (.ifCond .le off, 3)) (ht : (pc : Int) + off = (tgt : Int))
    (kt : x ≤ 0 → V Y l E lv nL r (tgt) L st μ) (kf : ¬ x ≤ 0 → V Y l E lv nL r (pc + 3) L st μ) : V Y l E lv nL r (pc) L (.int x :: st) μ := by
  obtain ⟨p, e, R, s, m, args, below, meth, c⟩ := Y
  obtain ⟨hx, hb, hml, hown, hr, hlk, hnt, hst, hR, hT, hk, hK, hA, hC⟩ := C
  intro H locs ls hz hP hS hl
  exact lv_if_le hx hb d ht (fun h => kt h H locs ls hz hP hS hl) (fun h => kf h H locs ls hz hP hS hl)

theorem V_icmp_le (C : Ok Y l E lv nL own cc ret rk) {x y : Int32} {off : Int} {tgt : Nat} (d : decode cc pc = .ok (.if_icmp .le off, 3)) (ht : (pc : Int) + off = (tgt : Int))
    (kt : x ≤ y → V Y l E lv nL r (tgt) L st μ) (kf : ¬ x ≤ y → V Y l E lv nL r (pc + 3) L st μ) : V Y l E lv nL r (pc) L (.int y :: .int x :: st) μ := by
  obtain ⟨p, e, R, s, m, args, below, meth, c⟩ := Y
  obtain ⟨hx, hb, hml, hown, hr, hlk, hnt, hst, hR, hT, hk, hK, hA, hC⟩ := C
  intro H locs ls hz hP hS hl
  exact lv_icmp_le hx hb d ht (fun h => kt h H locs ls hz hP hS hl) (fun h => kf h H locs ls hz hP hS hl)

theorem V_lookup (C : Ok Y l E lv nL own cc ret rk) {dflt : Int} {ps : Array (Int × Int)} {len : Nat} {x : Int32} (off : Int) (tgt : Nat) (d : decode cc pc = .ok (.lookupswitch dflt ps, len)) (hp : (ps.toList.zip (ps.toList.drop 1)).all (fun (a, next) => a.1 < next.1) = true) (ho : Op.lookupswitch.offset ps.toList dflt x.toInt = off) (ht : (pc : Int) + off = (tgt : Int))
    (kk : V Y l E lv nL r (tgt) L st μ) : V Y l E lv nL r (pc) L (.int x :: st) μ := by
  obtain ⟨p, e, R, s, m, args, below, meth, c⟩ := Y
  obtain ⟨hx, hb, hml, hown, hr, hlk, hnt, hst, hR, hT, hk, hK, hA, hC⟩ := C
  intro H locs ls hz hP hS hl
  exact lv_lookup hx hb d hp ho ht (kk H locs ls hz hP hS hl)

theorem V_tableOut (C : Ok Y l E lv nL own cc ret rk) {dflt lo hi : Int} {offs : Array Int} {len : Nat} {x : Int32} (tgt : Nat) (d : decode cc pc = .ok (.tableswitch dflt lo hi offs, len)) (h : x.toInt < lo ∨ hi < x.toInt) (ht : (pc : Int) + dflt = (tgt : Int))
    (kk : V Y l E lv nL r (tgt) L st μ) : V Y l E lv nL r (pc) L (.int x :: st) μ := by
  obtain ⟨p, e, R, s, m, args, below, meth, c⟩ := Y
  obtain ⟨hx, hb, hml, hown, hr, hlk, hnt, hst, hR, hT, hk, hK, hA, hC⟩ := C
  intro H locs ls hz hP hS hl
  exact lv_tableOut hx hb d h ht (kk H locs ls hz hP hS hl)

theorem V_tableIn (C : Ok Y l E lv nL own cc ret rk) {dflt lo hi : Int} {offs : Array Int} {len : Nat} {x : Int32} (off : Int) (tgt : Nat) (d : decode cc pc = .ok (.tableswitch dflt lo hi offs, len)) (h1 : ¬ x.toInt < lo) (h2 : ¬ hi < x.toInt) (ho : offs[(x.toInt - lo).toNat]? = some off) (ht : (pc : Int) + off = (tgt : Int))
    (kk : V Y l E lv nL r (tgt) L st μ) : V Y l E lv nL r (pc) L (.int x :: st) μ := by
  obtain ⟨p, e, R, s, m, args, below, meth, c⟩ := Y
  obtain ⟨hx, hb, hml, hown, hr, hlk, hnt, hst, hR, hT, hk, hK, hA, hC⟩ := C
  intro H locs ls hz hP hS hl
  exact lv_tableIn hx hb d h1 h2 ho ht (kk H locs ls hz hP hS hl)

theorem V_sub {LP : List (Nat × Value)} (ks : List Nat) (hL : lv_pick L ks = LP) (kk : V Y l E lv nL r (pc) LP st μ) : V Y l E lv nL r (pc) L st μ := by
  obtain ⟨p, e, R, s, m, args, below, meth, c⟩ := Y
  intro H locs ls hz hP hS hl
  exact kk H locs ls hz hP hS (lv_sub hl ks hL)

theorem u_lay_on (Cn : String) (T : u_T) (j : Nat) : (u_lay Cn T j).onTables = true := by
  unfold u_lay
  split <;> rfl
theorem u_ws_use {U : State} (hT : Tab U) {Cn : String} {T : u_T} {N : Nat} (hin : ∀ w ∈ u_ws Cn T N, w ∈ lw_tbl) {a : Array Value} : ∀ w ∈ u_ws Cn T N, w.before a U = true := by
  intro w hw
  obtain ⟨j, -, rfl⟩ := List.mem_map.mp hw
  exact hT.use (hin _ hw) (u_lay_on Cn T j)
/-- the entry idx of the class own names field j of the class number ci -/
def FL (own : String) (idx ci j : Nat) : Prop := ∃ (Cn : String) (T : u_T) (N : Nat), vwCl[ci]? = some (Cn, T, N) ∧ (∀ w ∈ u_ws Cn T N, w ∈ lw_tbl) ∧ j < N ∧ (Cond.fieldLink own idx (T j).1 (T j).2.1 (T j).2.2.1 ∈ lw_tbl ∨ ∃ h : String, Cond.fieldLinkNest own idx (T j).1 (T j).2.1 (T j).2.2.1 h ∈ lw_tbl)
/-- .. and may write it -/
def FP (own : String) (idx ci j : Nat) (ty : FieldType) : Prop := ∃ (Cn : String) (T : u_T) (N : Nat) (ty0 : Nat → FieldType), vwCl[ci]? = some (Cn, T, N) ∧ (∀ w ∈ u_ws Cn T N, w ∈ lw_tbl) ∧ (∀ k, k < N → parseFieldDescriptor (T k).2.2.1 = some (ty0 k)) ∧ (∀ a, a < N → ∀ b, b < N → a ≠ b → (T a).2.1 ≠ (T b).2.1) ∧ j < N ∧ (T j).2.2.2 = false ∧ parseFieldDescriptor (T j).2.2.1 = some ty ∧ (Cond.fieldLink own idx (T j).1 (T j).2.1 (T j).2.2.1 ∈ lw_tbl ∨ ∃ h : String, Cond.fieldLinkNest own idx (T j).1 (T j).2.1 (T j).2.2.1 h ∈ lw_tbl)

theorem V_getf (C : Ok Y l E lv nL own cc ret rk) (k i : Nat) (hm : (k, i) ∈ lv) {idx ci j : Nat} (hf : FL own idx ci j) {fs : List Value} {v : Value} (hc : celk E k i (μ k i) = .inr (ci, fs)) (hv : fs[j]? = some v) (d : decode cc pc = .ok (.getfield idx, 3))
    (kk : V Y l E lv nL r (pc + 3) L (v :: st) μ) : V Y l E lv nL r (pc) L (.ref (E.1 k i) :: st) μ := by
  obtain ⟨p, e, R, s, m, args, below, meth, c⟩ := Y
  obtain ⟨hx, hb, hml, hown, hr, hlk, hnt, hst, hR, hT, hk, hK, hA, hC⟩ := C
  intro H locs ls hz hP hS hl
  obtain ⟨Cn, T, N, hcl, hin, hj, hl9⟩ := hf
  obtain ⟨q, hq⟩ := List.getElem?_of_mem hm
  have he := cs_at (E := E) (μ := μ) hq
  rw [hc] at he
  rcases hl9 with hl9 | ⟨h9, hl9⟩
  · exact va_get hx hb (u_ws_use hT hin) (fun _ h => h) hown hK hP q he hcl j hj (hT.use hl9 rfl) (fun _ h => h) hv d (kk H locs ls hz hP hS hl)
  · exact va_getN hx hb (u_ws_use hT hin) (fun _ h => h) hown hK hP q he hcl j hj (hT.use hl9 rfl) (fun _ h => h) hv d (kk H locs ls hz hP hS hl)
theorem V_putf (C : Ok Y l E lv nL own cc ret rk) (k i : Nat) (hm : (k, i) ∈ lv) {idx ci j : Nat} {ty : FieldType} (hf : FP own idx ci j ty) {fs : List Value} {v : Value} (f' : Nat → Int32) (hc : celk E k i (μ k i) = .inr (ci, fs)) (hc' : celk E k i f' = .inr (ci, fs.set j v)) (hn : narrow ty v = v) (hfit : fits ty v = true) (hj9 : j < fs.length) (d : decode cc pc = .ok (.putfield idx, 3))
    (kk : V Y l E lv nL r (pc + 3) L st (stf μ k i f')) : V Y l E lv nL r (pc) L (v :: .ref (E.1 k i) :: st) μ := by
  obtain ⟨p, e, R, s, m, args, below, meth, c⟩ := Y
  obtain ⟨hx, hb, hml, hown, hr, hlk, hnt, hst, hR, hT, hk, hK, hA, hC⟩ := C
  intro H locs ls hz hP hS hl
  obtain ⟨Cn, T, N, ty0, hcl, hin, hty, hnm, hj, hfin, hd, hl9⟩ := hf
  obtain ⟨q, hq⟩ := List.getElem?_of_mem hm
  have he := cs_at (E := E) (μ := μ) hq
  rw [hc] at he
  have hset := cs_set (μ := μ) (f := f') hA hq
  rw [hc'] at hset
  rcases hl9 with hl9 | ⟨h9, hl9⟩
  · refine va_put hx hb (u_ws_use hT hin) (fun _ h => h) ty0 hty hnm hown hK hP (cs_D hA) hS q he hcl j hj (hT.use hl9 rfl) (fun _ h => h) hfin hd hn hfit hj9 d (fun H1 locs1 hP1 _ hS1 => ?_)
    rw [hset] at hP1
    exact W_sz hS1.1 (fun hz1 => kk H1 locs1 ls hz1 hP1 hS1 hl)
  · refine va_putN hx hb (u_ws_use hT hin) (fun _ h => h) ty0 hty hnm hown hK hP (cs_D hA) hS q he hcl j hj (hT.use hl9 rfl) (fun _ h => h) hfin hd hn hfit hj9 d (fun H1 locs1 hP1 _ hS1 => ?_)
    rw [hset] at hP1
    exact W_sz hS1.1 (fun hz1 => kk H1 locs1 ls hz1 hP1 hS1 hl)

end VR
