/-! ===== the words in which the methods' functions are written, and how they are undone ===== -/
abbrev lt {α β : Type} (v : α) (f : α → β) : β := f v
abbrev jn {α β : Type} (j : α) (b : α → β) : β := b j
def gd {α : Type} (b : Bool) (o : Option α) : Option α := if b = true then o else none
abbrev bP {α β : Type} (o : Option α) (f : α → Option β) : Option β := o.bind f
def bT {α β : Type} (o : Option (Except Nat α)) (e : Nat → Option β) (f : α → Option β) : Option β := match o with
  | none => none
  | some (.error k) => e k
  | some (.ok v) => f v
def bW {α β : Type} (o : Option (α × Mem)) (f : α → Mem → Option β) : Option β := match o with
  | none => none
  | some (v, μ) => f v μ
def bB {α β : Type} (o : Option (Except Nat α × Mem)) (e : Nat → Mem → Option β) (f : α → Mem → Option β) : Option β := match o with
  | none => none
  | some (.error k, μ) => e k μ
  | some (.ok v, μ) => f v μ
def inb (i : Int32) (n : Nat) : Bool := !(decide (i < 0)) && decide (i.toNatClampNeg < n)
def nz (y : Int32) : Bool := !(decide (y = 0))
def nzl (y : Int64) : Bool := !(decide (y = 0))
def isb (v : Int32) : Bool := decide (v = 0) || decide (v = 1)
def isc (v : Int32) : Bool := decide (narrow .char (.int v) = .int v)
def cpok (sp dp n : Int32) (n0 n1 : Nat) : Bool := !(decide (sp < 0)) && (!(decide (dp < 0)) && (!(decide (n < 0)) && (decide (sp.toNatClampNeg + n.toNatClampNeg ≤ n0) && decide (dp.toNatClampNeg + n.toNatClampNeg ≤ n1))))
theorem lt_inv {α β : Type} {v : α} {f : α → β} {y : β} (h : lt v f = y) : f v = y := h
theorem lt_eq {α β : Type} {v z : α} {f : α → β} {y : β} (e : z = v) (h : lt v f = y) : f z = y := by rw [e]; exact h
theorem jn_inv {α β : Type} {v : α} {f : α → β} {y : β} (h : jn v f = y) : f v = y := h
theorem jn_ex {α β : Type} {v : α} {f : α → β} {y : β} (h : jn v f = y) : ∃ z, z = v ∧ f z = y := ⟨v, rfl, h⟩
theorem gd_inv {α : Type} {b : Bool} {o : Option α} {x : α} (h : gd b o = some x) : b = true ∧ o = some x := by
  unfold gd at h
  split at h
  · exact ⟨by assumption, h⟩
  · cases h
theorem bP_inv {α β : Type} {o : Option α} {f : α → Option β} {x : β} (h : bP o f = some x) : ∃ v, o = some v ∧ f v = some x := Option.bind_eq_some_iff.mp h
theorem bT_inv {α β : Type} {o : Option (Except Nat α)} {e : Nat → Option β} {f : α → Option β} {x : β} (h : bT o e f = some x) : (∃ k, o = some (.error k) ∧ e k = some x) ∨ ∃ v, o = some (.ok v) ∧ f v = some x := by
  unfold bT at h
  split at h
  · cases h
  · exact Or.inl ⟨_, rfl, h⟩
  · exact Or.inr ⟨_, rfl, h⟩
theorem bW_inv {α β : Type} {o : Option (α × Mem)} {f : α → Mem → Option β} {x : β} (h : bW o f = some x) : ∃ v μ, o = some (v, μ) ∧ f v μ = some x := by
  unfold bW at h
  split at h
  · cases h
  · exact ⟨_, _, rfl, h⟩
theorem bB_inv {α β : Type} {o : Option (Except Nat α × Mem)} {e : Nat → Mem → Option β} {f : α → Mem → Option β} {x : β} (h : bB o e f = some x) : (∃ k μ, o = some (.error k, μ) ∧ e k μ = some x) ∨ ∃ v μ, o = some (.ok v, μ) ∧ f v μ = some x := by
  unfold bB at h
  split at h
  · cases h
  · exact Or.inl ⟨_, _, rfl, h⟩
  · exact Or.inr ⟨_, _, rfl, h⟩
theorem inb_in {i : Int32} {n : Nat} (h : inb i n = true) : vp_in i n := by
  simp only [inb, Bool.and_eq_true, Bool.not_eq_true', decide_eq_false_iff_not, decide_eq_true_eq] at h
  exact fun q => q.elim h.1 (fun z => absurd h.2 (Nat.not_lt.mpr z))
theorem nz_ne {y : Int32} (h : nz y = true) : ¬ y = 0 := by simpa [nz] using h
theorem nzl_ne {y : Int64} (h : nzl y = true) : ¬ y = 0 := by simpa [nzl] using h
theorem isb_nar {v : Int32} (h : isb v = true) : narrow .boolean (.int v) = .int v := by
  simp only [isb, Bool.or_eq_true, decide_eq_true_eq] at h
  rcases h with rfl | rfl <;> rfl
theorem isb_fit {v : Int32} (h : isb v = true) : fits .boolean (.int v) = true := by
  simp only [isb, Bool.or_eq_true, decide_eq_true_eq] at h
  rcases h with rfl | rfl <;> rfl
theorem isc_nar {v : Int32} (h : isc v = true) : narrow .char (.int v) = .int v := by simpa [isc] using h
theorem cpok_g {sp dp n : Int32} {n0 n1 : Nat} (h : cpok sp dp n n0 n1 = true) : ¬ sp < 0 ∧ ¬ dp < 0 ∧ ¬ n < 0 ∧ sp.toNatClampNeg + n.toNatClampNeg ≤ n0 ∧ dp.toNatClampNeg + n.toNatClampNeg ≤ n1 := by
  simpa only [cpok, Bool.and_eq_true, Bool.not_eq_true', decide_eq_false_iff_not, decide_eq_true_eq] using h
theorem dec_t {p : Prop} [Decidable p] (h : decide p = true) : p := of_decide_eq_true h
/-! the ends of the four kinds of method: pure, throwing, writing, both; of an int, a long, nothing, a Grid -/
def rPi (x : Int32) (μ : Mem) : Res := (.ok (some (.int x)), μ)
def rPl (x : Int64) (μ : Mem) : Res := (.ok (some (.long x)), μ)
def rPu (_ : Unit) (μ : Mem) : Res := (.ok none, μ)
def rPg (E : WE) (x : Nat) (μ : Mem) : Res := (.ok (some (.ref (E.1 20 x))), μ)
def rTi (x : Except Nat Int32) (μ : Mem) : Res := (x.map (fun v => some (.int v)), μ)
def rTu (x : Except Nat Unit) (μ : Mem) : Res := (x.map (fun _ => none), μ)
def rTg (E : WE) (x : Except Nat Nat) (μ : Mem) : Res := (x.map (fun v => some (.ref (E.1 20 v))), μ)
def rWi (x : Int32 × Mem) : Res := (.ok (some (.int x.1)), x.2)
def rWl (x : Int64 × Mem) : Res := (.ok (some (.long x.1)), x.2)
def rWu (x : Unit × Mem) : Res := (.ok none, x.2)
def rBi (x : Except Nat Int32 × Mem) : Res := (x.1.map (fun v => some (.int v)), x.2)
def rBu (x : Except Nat Unit × Mem) : Res := (x.1.map (fun _ => none), x.2)
def rBg (E : WE) (x : Except Nat Nat × Mem) : Res := (x.1.map (fun v => some (.ref (E.1 20 v))), x.2)
section VD
variable {Y : Mc} {l : Launch} {E : WE} {lv : List (Nat × Nat)} {nL : Nat} {r : Res} {own : String} {cc : ByteArray} {ret : Option FieldType} {rk : Nat} {pc : Nat} {L : List (Nat × Value)} {st stk : List Value} {μ μ' : Mem} {idx : Nat} {y : MethodName} {cc' : ByteArray} {nL' n : Nat} {ret' : Option FieldType} {rk' : Nat} {a' : List Value}
/-! a name for what lies on top, for the memory -/
theorem V_topi {x : Int32} (kk : ∀ z : Int32, z = x → V Y l E lv nL r pc L (.int z :: st) μ) : V Y l E lv nL r pc L (.int x :: st) μ := kk x rfl
theorem V_topl {x : Int64} (kk : ∀ z : Int64, z = x → V Y l E lv nL r pc L (.long z :: st) μ) : V Y l E lv nL r pc L (.long x :: st) μ := kk x rfl
theorem V_topg {g : Nat} (kk : ∀ z : Nat, z = g → V Y l E lv nL r pc L (.ref (E.1 20 z) :: st) μ) : V Y l E lv nL r pc L (.ref (E.1 20 g) :: st) μ := kk g rfl
theorem V_memn (kk : ∀ z : Mem, z = μ → V Y l E lv nL r pc L st z) : V Y l E lv nL r pc L st μ := kk μ rfl
/-- a virtual call that returns v -/
theorem V_callVo (C : Ok Y l E lv nL own cc ret rk) (k i : Nat) (hm : (k, i) ∈ lv) (v : Option Value) (hcon : Con l E lv y cc' nL' ret' rk' (.ref (E.1 k i) :: a') μ (.ok v, μ')) (tb : TbV y cc' nL' ret' n) (hlink : Cond.methodLink own idx y ∈ lw_tbl) {ci : Nat} {fs : List Value} {cq : vw_C} (hc : celk E k i (μ k i) = .inr (ci, fs)) (hcl : vwCl[ci]? = some cq) (hcq : cq.1 = y.cls) (hrk : rk' < rk) (hnL : nL' ≤ 21) (hlen : a'.length = n) (hsum : (st.map fun v => v.category).sum ≤ 8) (hstk : stk = a'.reverse ++ .ref (E.1 k i) :: st) (d : decode cc pc = .ok (.invokevirtual idx, 3))
    {st2 : List Value} (hst2 : v.toList ++ st = st2) (kk : V Y l E lv nL r (pc + 3) L st2 μ') : V Y l E lv nL r pc L stk μ := by
  subst hst2
  refine V_callV C k i hm hcon tb hlink hc hcl hcq hrk hnL hlen hsum stk hstk d (fun v1 μ1 e => ?_) (fun k1 μ1 e => ?_)
  · cases e
    exact kk
  · cases e
theorem V_callVe (C : Ok Y l E lv nL own cc ret rk) (k i : Nat) (hm : (k, i) ∈ lv) (x : Nat) (hcon : Con l E lv y cc' nL' ret' rk' (.ref (E.1 k i) :: a') μ (.error x, μ')) (tb : TbV y cc' nL' ret' n) (hlink : Cond.methodLink own idx y ∈ lw_tbl) {ci : Nat} {fs : List Value} {cq : vw_C} (hc : celk E k i (μ k i) = .inr (ci, fs)) (hcl : vwCl[ci]? = some cq) (hcq : cq.1 = y.cls) (hrk : rk' < rk) (hnL : nL' ≤ 21) (hlen : a'.length = n) (hsum : (st.map fun v => v.category).sum ≤ 8) (hstk : stk = a'.reverse ++ .ref (E.1 k i) :: st) (d : decode cc pc = .ok (.invokevirtual idx, 3))
    (hr : r = (.error x, μ')) : V Y l E lv nL r pc L stk μ := by
  refine V_callV C k i hm hcon tb hlink hc hcl hcq hrk hnL hlen hsum stk hstk d (fun v1 μ1 e => ?_) (fun k1 μ1 e => ?_)
  · cases e
  · cases e
    exact hr
theorem V_callSo (C : Ok Y l E lv nL own cc ret rk) (v : Option Value) (hcon : Con l E lv y cc' nL' ret' rk' a' μ (.ok v, μ')) (tb : TbS y cc' nL' ret' n) (hlink : Cond.methodLink own idx y ∈ lw_tbl) (hrk : rk' < rk) (hnL : nL' ≤ 21) (hlen : a'.length = n) (hsum : (st.map fun v => v.category).sum ≤ 8) (hstk : stk = a'.reverse ++ st) (d : decode cc pc = .ok (.invokestatic idx, 3))
    {st2 : List Value} (hst2 : v.toList ++ st = st2) (kk : V Y l E lv nL r (pc + 3) L st2 μ') : V Y l E lv nL r pc L stk μ := by
  subst hst2
  refine V_callS C hcon tb hlink hrk hnL hlen hsum stk hstk d (fun v1 μ1 e => ?_) (fun k1 μ1 e => ?_)
  · cases e
    exact kk
  · cases e
theorem V_callSe (C : Ok Y l E lv nL own cc ret rk) (x : Nat) (hcon : Con l E lv y cc' nL' ret' rk' a' μ (.error x, μ')) (tb : TbS y cc' nL' ret' n) (hlink : Cond.methodLink own idx y ∈ lw_tbl) (hrk : rk' < rk) (hnL : nL' ≤ 21) (hlen : a'.length = n) (hsum : (st.map fun v => v.category).sum ≤ 8) (hstk : stk = a'.reverse ++ st) (d : decode cc pc = .ok (.invokestatic idx, 3))
    (hr : r = (.error x, μ')) : V Y l E lv nL r pc L stk μ := by
  refine V_callS C hcon tb hlink hrk hnL hlen hsum stk hstk d (fun v1 μ1 e => ?_) (fun k1 μ1 e => ?_)
  · cases e
  · cases e
    exact hr
/-- the Bench's spare Grid is set -/
theorem V_putSp (C : Ok Y l E lvC nL own cc ret rk) (g : Nat) (hg : g < 18) {ty : FieldType} (hf : FP own idx 2 3 ty) (hn : narrow ty (.ref (E.1 20 g)) = .ref (E.1 20 g)) (hfit : fits ty (.ref (E.1 20 g)) = true) (d : decode cc pc = .ok (.putfield idx, 3))
    (kk : V Y l E lvC nL r (pc + 3) L st (sto μ 14 0 3 (nI g))) : V Y l E lvC nL r pc L (.ref (E.1 20 g) :: .ref (E.1 14 0) :: st) μ := by
  refine V_putf C 14 0 (by decide) hf (upd (μ 14 0) 3 (nI g)) rfl ?_ hn hfit (Nat.le_of_ble_eq_true rfl) d kk
  have h1 : (nI g).toNatClampNeg = g := nI_clamp (by omega)
  simp [celk, upd, h1]
/-- a Grid into the Bench's values -/
theorem V_aastV (C : Ok Y l E lvC nL own cc ret rk) (g : Nat) (hg : g < 18) {x : Int32} (hin : vp_in x 8) (d : decode cc pc = .ok (.aastore, 1))
    (kk : V Y l E lvC nL r (pc + 1) L st (sto μ 15 0 x.toNatClampNeg (nI g))) : V Y l E lvC nL r pc L (.ref (E.1 20 g) :: .int x :: .ref (E.1 15 0) :: st) μ := by
  refine V_aastG C 15 0 g (by decide) (gr_0in g hg) (upd (μ 15 0) x.toNatClampNeg (nI g)) rfl ?_ hin d kk
  have h1 : (nI g).toNatClampNeg = g := nI_clamp (by omega)
  show Sum.inl _ = Sum.inl _
  congr 7
  funext j
  by_cases hj : j = x.toNatClampNeg
  · simp [upd, va_up, hj, h1]
  · simp [upd, va_up, hj]
end VD
