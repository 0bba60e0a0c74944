/-! ===== numbers: of the class, of the reference ===== -/
/-- the sign of a number function, by its number -/
def sgl : List Nat := [43, 45, 42, 37, 124, 60, 62, 61, 38, 94]
def sg (f : Nat) : Int32 := nI (sgl.getD f 0)
def fit (x : Int64) : Except Nat Int32 := if x.toInt32.toInt64 = x then .ok x.toInt32 else .error 1
/-- what a number function makes of two ints -/
def num (f : Nat) (a b : Int32) : Except Nat Int32 := match f with
  | 0 => fit (a.toInt64 + b.toInt64)
  | 1 => fit (a.toInt64 - b.toInt64)
  | 2 => fit (a.toInt64 * b.toInt64)
  | 3 => if b = 0 then .error 2 else if a - a / b * b = 0 then fit (a.toInt64 / b.toInt64) else .error 2
  | 4 => if a = 0 then .ok b else if 0 ≤ b ^^^ a then .ok (b - b / a * a) else if b - b / a * a = 0 then .ok (b - b / a * a) else .ok (b - b / a * a + a)
  | 5 => if b ≤ a then .ok 0 else .ok 1
  | 6 => if a ≤ b then .ok 0 else .ok 1
  | 7 => if a = b then .ok 1 else .ok 0
  | 8 => .ok (if b < a then b else a)
  | _ => .ok (if a < b then b else a)
theorem num_3 (a b : Int32) : num 3 a b = if b = 0 then .error 2 else if a - a / b * b = 0 then fit (a.toInt64 / b.toInt64) else .error 2 := rfl
theorem num_4 (a b : Int32) : num 4 a b = if a = 0 then .ok b else if 0 ≤ b ^^^ a then .ok (b - b / a * a) else if b - b / a * a = 0 then .ok (b - b / a * a) else .ok (b - b / a * a + a) := rfl
theorem num_5 (a b : Int32) : num 5 a b = if b ≤ a then .ok 0 else .ok 1 := rfl
theorem num_6 (a b : Int32) : num 6 a b = if a ≤ b then .ok 0 else .ok 1 := rfl
theorem num_7 (a b : Int32) : num 7 a b = if a = b then .ok 1 else .ok 0 := rfl
theorem num_8 (a b : Int32) : num 8 a b = .ok (if b < a then b else a) := rfl
theorem num_9 (a b : Int32) : num 9 a b = .ok (if a < b then b else a) := rfl
theorem fit_eq (x : Int64) (μ : Mem) : f_X3_fit x μ = some (fit x) := by
  have h1 : lg_cmp x x.toInt32.toInt64 = 0 ↔ x.toInt32.toInt64 = x := by
    rw [lg_cmp_eq]; exact eq_comm
  unfold f_X3_fit fit
  by_cases c : x.toInt32.toInt64 = x
  · rw [if_pos (h1.mpr c), if_pos c]
  · rw [if_neg (by rw [h1]; exact c), if_neg c]
theorem ofInt_eq (x : Int64) (μ : Mem) : f_X8_ofInt x μ = some (x.toInt32, if x.toInt32.toInt64 = x then μ else sto μ 30 0 16 1) := by
  have h1 : lg_cmp x x.toInt32.toInt64 = 0 ↔ x.toInt32.toInt64 = x := by
    rw [lg_cmp_eq]; exact eq_comm
  unfold f_X8_ofInt
  by_cases c : x.toInt32.toInt64 = x
  · rw [if_pos (h1.mpr c), if_pos c]
  · rw [if_neg (by rw [h1]; exact c), if_neg c]
theorem tm_bd {x y : Int} (hy : y ≠ 0) (h1 : -2147483648 ≤ y) (h2 : y ≤ 2147483648) : -2147483648 < x.tmod y ∧ x.tmod y < 2147483648 := by
  have h := Int.natAbs_tmod x y
  have h3 : x.natAbs % y.natAbs < y.natAbs := Nat.mod_lt _ (by omega)
  omega
theorem rem32 {a b : Int32} (hb : ¬ b = 0) : (a - a / b * b).toInt = a.toInt.tmod b.toInt := by
  have hb0 : b.toInt ≠ 0 := fun h => hb (Int32.toInt_inj.mp (h.trans Int32.toInt_zero.symm))
  have h1 := Int32.toInt_lt b
  have h2 := Int32.le_toInt b
  have h3 := tm_bd (x := a.toInt) hb0 (by omega) (by omega)
  have h4 : a.toInt - a.toInt.tdiv b.toInt * b.toInt = a.toInt.tmod b.toInt := by
    rw [Int.tmod_def, Int.mul_comm]
  rw [Int32.toInt_sub, Int32.toInt_mul, Int32.toInt_div]
  simp only [Int.bmod_mul_bmod, Int.sub_bmod_bmod, h4]
  exact Int.bmod_eq_of_le (by omega) (by omega)
theorem rem64 {a b : Int32} (hb : ¬ b = 0) : a.toInt64 - a.toInt64 / b.toInt64 * b.toInt64 = (a - a / b * b).toInt64 := by
  have hb0 : b.toInt ≠ 0 := fun h => hb (Int32.toInt_inj.mp (h.trans Int32.toInt_zero.symm))
  have h1 := Int32.toInt_lt b
  have h2 := Int32.le_toInt b
  have h3 := tm_bd (x := a.toInt) hb0 (by omega) (by omega)
  have h4 : a.toInt - a.toInt.tdiv b.toInt * b.toInt = a.toInt.tmod b.toInt := by
    rw [Int.tmod_def, Int.mul_comm]
  apply Int64.toInt_inj.mp
  rw [Int64.toInt_sub, Int64.toInt_mul, Int64.toInt_div, Int32.toInt_toInt64, Int32.toInt_toInt64, Int32.toInt_toInt64, rem32 hb]
  simp only [Int.bmod_mul_bmod, Int.sub_bmod_bmod, h4]
  exact Int.bmod_eq_of_le (by omega) (by omega)
theorem l64_0 (a : Int32) : (a.toInt64 = 0) ↔ a = 0 := by
  rw [← Int64.toInt_inj, ← Int32.toInt_inj, Int32.toInt_toInt64]; rfl
theorem lg0 (x : Int64) : lg_cmp x 0 = 0 ↔ x = 0 := lg_cmp_eq x 0
theorem l64_nz {a : Int32} (h : ¬ a = 0) : nzl a.toInt64 = true := by
  simp [nzl, l64_0, h]
theorem i_nz {a : Int32} (h : ¬ a = 0) : nz a = true := by simp [nz, h]
theorem xs {x y : Int32} : 0 ≤ x ^^^ y ↔ (x < 0 ↔ y < 0) := by
  have h (z : Int32) : z < 0 ↔ z.toBitVec.msb = true := by
    rw [Int32.lt_iff_toInt_lt, BitVec.msb_eq_toInt, decide_eq_true_eq]; rfl
  have h0 : 0 ≤ x ^^^ y ↔ ¬ (x ^^^ y < 0) := by
    rw [Int32.lt_iff_toInt_lt, Int32.le_iff_toInt_le]; omega
  rw [h0, h, h, h, Int32.toBitVec_xor, BitVec.msb_xor]
  cases x.toBitVec.msb <;> cases y.toBitVec.msb <;> simp
theorem l64_lt0 (x : Int32) : 0 ≤ lg_cmp x.toInt64 0 ↔ ¬ x < 0 := by
  rw [lg_cmp_ge, Int64.le_iff_toInt_le, Int32.lt_iff_toInt_lt, Int32.toInt_toInt64, Int64.toInt_zero, Int32.toInt_zero]; omega
theorem l64_ge (x y : Int32) : 0 ≤ lg_cmp x.toInt64 y.toInt64 ↔ y ≤ x := by rw [lg_cmp_ge, Int32.toInt64_le]
theorem l64_le (x y : Int32) : lg_cmp x.toInt64 y.toInt64 ≤ 0 ↔ x ≤ y := by rw [lg_cmp_le, Int32.toInt64_le]
theorem l64_eq (x y : Int32) : lg_cmp x.toInt64 y.toInt64 = 0 ↔ x = y := by
  rw [lg_cmp_eq, ← Int64.toInt_inj, ← Int32.toInt_inj, Int32.toInt_toInt64, Int32.toInt_toInt64]
theorem f10 {f : Nat} (h : f < 10) : f = 0 ∨ f = 1 ∨ f = 2 ∨ f = 3 ∨ f = 4 ∨ f = 5 ∨ f = 6 ∨ f = 7 ∨ f = 8 ∨ f = 9 := by omega
theorem i32_cases (a b : Int32) : a < b ∧ ¬ b ≤ a ∧ ¬ b < a ∧ a ≤ b ∧ ¬ a = b ∨ a = b ∨ b < a ∧ ¬ a ≤ b ∧ ¬ a < b ∧ b ≤ a ∧ ¬ a = b := by
  rw [Int32.lt_iff_toInt_lt, Int32.lt_iff_toInt_lt, Int32.le_iff_toInt_le, Int32.le_iff_toInt_le, ← Int32.toInt_inj]; omega
theorem bT_id {α : Type} {x : Except Nat α} : bT (some x) (fun e => some (.error e)) (fun v => some (.ok v)) = some x := by cases x <;> rfl
theorem sg_vals : sg 0 = 43 ∧ sg 1 = 45 ∧ sg 2 = 42 ∧ sg 3 = 37 ∧ sg 4 = 124 ∧ sg 5 = 60 ∧ sg 6 = 62 ∧ sg 7 = 61 ∧ sg 8 = 38 ∧ sg 9 = 94 := by decide +kernel
/-- the class's number function, whatever the memory -/
theorem work_eq {f : Nat} (hf : f < 10) (a b : Int32) (μ : Mem) : f_X3_work (sg f) a b μ = some (num f a b) := by
  obtain ⟨s0, s1, s2, s3, s4, s5, s6, s7, s8, s9⟩ := sg_vals
  rcases f10 hf with rfl | rfl | rfl | rfl | rfl | rfl | rfl | rfl | rfl | rfl
  · rw [s0]; unfold f_X3_work; rw [if_neg (by decide), if_neg (by decide), if_neg (by decide), if_pos rfl, fit_eq, bT_id]; rfl
  · rw [s1]; unfold f_X3_work; rw [if_neg (by decide), if_neg (by decide), if_neg (by decide), if_neg (by decide), if_pos rfl, fit_eq, bT_id]; rfl
  · rw [s2]; unfold f_X3_work; rw [if_neg (by decide), if_neg (by decide), if_pos rfl, fit_eq, bT_id]; rfl
  · rw [s3]; unfold f_X3_work; rw [if_pos rfl]
    rw [num_3]; unfold f_X3_needDivides
    by_cases h : b = 0
    · simp only [if_pos h]; rfl
    · simp only [if_neg h, i_nz h, gd_t]
      by_cases h2 : a - a / b * b = 0
      · simp only [if_pos h2, bT_o, l64_nz h, gd_t, fit_eq, bT_id]
      · simp only [if_neg h2, bT_e]
  · rw [s4]; unfold f_X3_work
    rw [if_neg (by decide), if_neg (by decide), if_neg (by decide), if_neg (by decide), if_neg (by decide), if_neg (by decide), if_neg (by decide), if_neg (by decide), if_pos rfl]
    rw [num_4]; unfold f_J9_floorMod_7cf53
    by_cases h : a = 0
    · simp only [if_pos h]
    · simp only [if_neg h, i_nz h, gd_t, lt]
      by_cases h2 : 0 ≤ b ^^^ a
      · simp only [if_pos h2, bP_s]
      · simp only [if_neg h2]
        by_cases h3 : b - b / a * a = 0
        · simp only [if_pos h3, bP_s]
        · simp only [if_neg h3, bP_s]
  · rw [s5, num_5]; unfold f_X3_work
    rw [if_neg (by decide), if_neg (by decide), if_neg (by decide), if_neg (by decide), if_neg (by decide), if_pos rfl]
    split <;> rfl
  · rw [s6, num_6]; unfold f_X3_work
    rw [if_neg (by decide), if_neg (by decide), if_neg (by decide), if_neg (by decide), if_neg (by decide), if_neg (by decide), if_neg (by decide), if_pos rfl]
    split <;> rfl
  · rw [s7, num_7]; unfold f_X3_work
    rw [if_neg (by decide), if_neg (by decide), if_neg (by decide), if_neg (by decide), if_neg (by decide), if_neg (by decide), if_pos rfl]
    split <;> rfl
  · rw [s8, num_8]; unfold f_X3_work
    rw [if_neg (by decide), if_pos rfl]
  · rw [s9, num_9]; unfold f_X3_work
    rw [if_neg (by decide), if_neg (by decide), if_neg (by decide), if_neg (by decide), if_neg (by decide), if_neg (by decide), if_neg (by decide), if_neg (by decide), if_neg (by decide)]
theorem fit_err {x : Int64} {e : Nat} (h : fit x = .error e) : e = 1 := by
  unfold fit at h
  split at h
  · cases h
  · cases h; rfl
theorem num_err {f : Nat} {a b : Int32} {e : Nat} (h : num f a b = .error e) : e = 1 ∨ e = 2 := by
  unfold num at h
  split at h
  · exact Or.inl (fit_err h)
  · exact Or.inl (fit_err h)
  · exact Or.inl (fit_err h)
  · split at h
    · cases h; exact Or.inr rfl
    · split at h
      · exact Or.inl (fit_err h)
      · cases h; exact Or.inr rfl
  · split at h
    · cases h
    · split at h
      · cases h
      · split at h <;> cases h
  · split at h <;> cases h
  · split at h <;> cases h
  · split at h <;> cases h
  · cases h
  · cases h
/-- the memory after a number function of the reference -/
def fm (μ : Mem) (x : Except Nat Int32) : Mem := match x with
  | .ok _ => μ
  | .error e => sto μ 30 0 16 (nI e)
/-- what the reference's function gives: the number, or anything and the fault -/
def Nr (μ : Mem) (x : Except Nat Int32) (o : Option (Int32 × Mem)) : Prop := ∃ w, o = some (w, fm μ x) ∧ ∀ v, x = .ok v → w = v
theorem ofInt_N (x : Int64) (μ : Mem) : Nr μ (fit x) (f_X8_ofInt x μ) := by
  rw [ofInt_eq]
  unfold fit
  by_cases c : x.toInt32.toInt64 = x
  · rw [if_pos c, if_pos c]; exact ⟨_, rfl, fun v h => by cases h; rfl⟩
  · rw [if_neg c, if_neg c]; exact ⟨_, rfl, fun v h => by cases h⟩
theorem Nr_ok (μ : Mem) (v : Int32) : Nr μ (.ok v) (some (v, μ)) := ⟨v, rfl, fun w h => by cases h; rfl⟩
theorem bW_id {α : Type} {x : Option (α × Mem)} : bW x (fun v μ => some (v, μ)) = x := by
  cases x with
  | none => rfl
  | some y => cases y; rfl
theorem number_eq {f : Nat} (hf : f < 10) (a b : Int32) (μ : Mem) : Nr μ (num f a b) (f_X8_number (nI f) a.toInt64 b.toInt64 μ) := by
  rcases f10 hf with rfl | rfl | rfl | rfl | rfl | rfl | rfl | rfl | rfl | rfl
  · unfold f_X8_number; rw [if_pos (by decide), bW_id]; exact ofInt_N _ μ
  · unfold f_X8_number; rw [if_neg (by decide), if_pos (by decide), bW_id]; exact ofInt_N _ μ
  · unfold f_X8_number; rw [if_neg (by decide), if_neg (by decide), if_pos (by decide), bW_id]; exact ofInt_N _ μ
  · unfold f_X8_number; rw [if_neg (by decide), if_neg (by decide), if_neg (by decide), if_pos (by decide)]; rw [num_3]
    by_cases h : b = 0
    · simp only [lg0, l64_0, if_pos h, jn, lt]; exact ⟨_, rfl, fun v q => by cases q⟩
    · simp only [lg0, l64_0, if_neg h, jn, lt, l64_nz h, gd_t, rem64 h, l64_0]
      by_cases h2 : a - a / b * b = 0
      · simp only [if_pos h2, bW_id]; exact ofInt_N _ μ
      · simp only [if_neg h2]; exact ⟨_, rfl, fun v q => by cases q⟩
  · unfold f_X8_number; rw [if_neg (by decide), if_neg (by decide), if_neg (by decide), if_neg (by decide), if_pos (by decide)]; rw [num_4]
    by_cases h : a = 0
    · simp only [lg0, l64_0, if_pos h, Int32.toInt32_toInt64]; exact Nr_ok μ b
    · simp only [lg0, l64_0, if_neg h, jn, lt, l64_nz h, gd_t, rem64 h, l64_0, xs, Int32.toInt32_toInt64, l64_lt0, Int64.toInt32_add]
      by_cases h2 : b - b / a * a = 0
      · simp only [if_pos h2, ite_self]; exact Nr_ok μ _
      · simp only [if_neg h2]
        have h3 : (b - b / a * a < 0) ↔ b < 0 := by
          have h4 := rem32 (a := b) h
          have h5 : (b - b / a * a).toInt ≠ 0 := fun q => h2 (Int32.toInt_inj.mp (q.trans Int32.toInt_zero.symm))
          rw [Int32.lt_iff_toInt_lt, Int32.lt_iff_toInt_lt, Int32.toInt_zero]
          rw [h4] at h5 ⊢
          constructor
          · intro q
            by_cases c : b.toInt < 0
            · exact c
            · have := Int.tmod_nonneg a.toInt (show 0 ≤ b.toInt by omega)
              omega
          · intro q
            have := Int.tmod_nonneg a.toInt (show 0 ≤ -b.toInt by omega)
            rw [Int.neg_tmod] at this
            omega
        simp only [h3]
        by_cases h6 : b < 0 <;> by_cases h7 : a < 0
        · simp [h6, h7]; exact Nr_ok μ _
        · simp [h6, h7]; exact Nr_ok μ _
        · simp [h6, h7]; exact Nr_ok μ _
        · simp [h6, h7]; exact Nr_ok μ _
  · unfold f_X8_number; rw [if_neg (by decide), if_neg (by decide), if_neg (by decide), if_neg (by decide), if_neg (by decide), if_pos (by decide)]; rw [num_5]
    simp only [l64_ge]
    split <;> exact Nr_ok μ _
  · unfold f_X8_number; rw [if_neg (by decide), if_neg (by decide), if_neg (by decide), if_neg (by decide), if_neg (by decide), if_neg (by decide), if_pos (by decide)]; rw [num_6]
    simp only [l64_le]
    split <;> exact Nr_ok μ _
  · unfold f_X8_number; rw [if_neg (by decide), if_neg (by decide), if_neg (by decide), if_neg (by decide), if_neg (by decide), if_neg (by decide), if_neg (by decide), if_pos (by decide)]; rw [num_7]
    simp only [l64_eq]
    split <;> exact Nr_ok μ _
  · unfold f_X8_number; rw [if_neg (by decide), if_neg (by decide), if_neg (by decide), if_neg (by decide), if_neg (by decide), if_neg (by decide), if_neg (by decide), if_neg (by decide), if_pos (by decide)]; rw [num_8]
    simp only [l64_ge, Int32.toInt32_toInt64]
    rcases i32_cases a b with h | h | h
    · rw [if_neg h.2.1, if_neg h.2.2.1]; exact Nr_ok μ _
    · subst h; simp only [ite_self]; exact Nr_ok μ _
    · rw [if_pos h.2.2.2.1, if_pos h.1]; exact Nr_ok μ _
  · unfold f_X8_number; rw [if_neg (by decide), if_neg (by decide), if_neg (by decide), if_neg (by decide), if_neg (by decide), if_neg (by decide), if_neg (by decide), if_neg (by decide), if_neg (by decide)]; rw [num_9]
    simp only [l64_le, Int32.toInt32_toInt64]
    rcases i32_cases a b with h | h | h
    · rw [if_pos h.2.2.2.1, if_pos h.1]; exact Nr_ok μ _
    · subst h; simp only [ite_self]; exact Nr_ok μ _
    · rw [if_neg h.2.1, if_neg h.2.2.1]; exact Nr_ok μ _
/-! f/ of n numbers in a row, worked out from the right -/
def foL (f : Nat) (R : Nat → Int32) : Nat → Int32 → Except Nat Int32
  | 0, v => .ok v
  | k + 1, v => match num f (R k) v with
    | .error e => .error e
    | .ok w => foL f R k w
def fo (f : Nat) (R : Nat → Int32) : Nat → Except Nat Int32
  | 0 => if f = 0 then .ok 0 else if f = 2 then .ok 1 else .error 2
  | n + 1 => foL f R n (R n)
theorem foL_congr {f : Nat} {R Q : Nat → Int32} : ∀ {n : Nat} {v : Int32}, (∀ j, j < n → R j = Q j) → foL f R n v = foL f Q n v := by
  intro n
  induction n with
  | zero => intro v _; rfl
  | succ n ih =>
    intro v h
    simp only [foL]
    rw [h n (by omega)]
    cases num f (Q n) v with
    | error e => rfl
    | ok w => exact ih (fun j hj => h j (by omega))
theorem fo_congr {f : Nat} {R Q : Nat → Int32} {n : Nat} (h : ∀ j, j < n → R j = Q j) : fo f R n = fo f Q n := by
  cases n with
  | zero => rfl
  | succ n => simp only [fo]; rw [h n (by omega)]; exact foL_congr (fun j hj => h j (by omega))
theorem foL_err {f : Nat} {R : Nat → Int32} : ∀ {n : Nat} {v : Int32} {e : Nat}, foL f R n v = .error e → e = 1 ∨ e = 2 := by
  intro n
  induction n with
  | zero => intro v e h; cases h
  | succ n ih =>
    intro v e h
    simp only [foL] at h
    cases hq : num f (R n) v with
    | error e' => rw [hq] at h; cases h; exact num_err hq
    | ok w => rw [hq] at h; exact ih h
theorem fo_err {f : Nat} {R : Nat → Int32} {n e : Nat} (h : fo f R n = .error e) : e = 1 ∨ e = 2 := by
  cases n with
  | zero =>
    simp only [fo] at h
    split at h
    · cases h
    · split at h
      · cases h
      · cases h; exact Or.inr rfl
  | succ n => exact foL_err h
