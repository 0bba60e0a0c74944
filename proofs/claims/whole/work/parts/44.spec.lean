/-! ===== what the functions make of arrays ===== -/
def one (f : Nat) (a : Int32) : Except Nat Int32 := match f with
  | 0 => fit (-a.toInt64)
  | 1 => fit (if 0 ≤ a then a.toInt64 else -a.toInt64)
  | _ => if a ≤ 0 then (if 0 ≤ a then .ok 0 else .ok (-1)) else .ok 1
def s_one (f : Nat) (A : Arr) : Except Nat Arr := mkA A.1 A.2.1 (fun k => one f (A.2.2 k))
def s_red (f : Nat) (A : Arr) : Except Nat Arr := mk (A.1 - 1) A.2.1 (fun k => fo f (fun j => A.2.2 (k * wd A + j)) (wd A))
def s_scan (f : Nat) (A : Arr) : Except Nat Arr := mkA A.1 A.2.1 (fun k => fo f (fun j => A.2.2 (k / wd A * wd A + j)) (k % wd A + 1))
def s_up (A : Arr) : Except Nat Arr := if 1 < A.1 then .error 4 else if sz A = 1 then (if A.2.2 0 < 0 then .error 2 else mk 1 (fun _ => (A.2.2 0).toNatClampNeg) (fun k => .ok (nI k))) else .error 3
def s_len (A : Arr) : Except Nat Arr := mkA 1 (fun _ => A.1) (fun k => .ok (nI (A.2.1 k)))
def s_rav (A : Arr) : Except Nat Arr := mkA 1 (fun _ => sz A) (fun k => .ok (A.2.2 k))
/-- planes and lines -/
def pln (A : Arr) : Nat := if A.1 < 3 then 1 else A.2.1 0
def lns (A : Arr) : Nat := if A.1 < 2 then 1 else A.2.1 (A.1 - 2)
def s_turn (A : Arr) : Except Nat Arr := mkA A.1 (fun k => A.2.1 (A.1 - 1 - k)) (fun k => .ok (A.2.2 ((k % pln A * lns A + k / pln A % lns A) * wd A + k / pln A / lns A)))
def s_rev (A : Arr) : Except Nat Arr := mkA A.1 A.2.1 (fun k => .ok (A.2.2 (k / wd A * wd A + (wd A - 1 - k % wd A))))
def sel (A : Arr) (k : Nat) : Int32 := A.2.2 (if A.1 = 0 then 0 else k)
def s_each0 (f : Nat) (A B : Arr) : Except Nat Arr := mkA (if A.1 = 0 then B else A).1 (if A.1 = 0 then B else A).2.1 (fun k => num f (sel A k) (sel B k))
def s_each (f : Nat) (A B : Arr) : Except Nat Arr := if A.1 = 0 ∨ B.1 = 0 then s_each0 f A B else if A.1 = B.1 then (if ∀ k, k < A.1 → A.2.1 k = B.2.1 k then s_each0 f A B else .error 3) else .error 4
def s_outer (f : Nat) (A B : Arr) : Except Nat Arr := if A.1 + B.1 ≤ 3 then mk (A.1 + B.1) (cat A.1 A.2.1 B.2.1) (fun k => num f (A.2.2 (k / sz B)) (B.2.2 (k % sz B))) else .error 4
def inE (f g : Nat) (A B : Arr) (w m k : Nat) : Except Nat Int32 := match fe (fun j => num g (A.2.2 (k / m * w + j)) (B.2.2 (j * m + k % m))) w with
  | some e => .error e
  | none => fo f (fun j => vl (num g (A.2.2 (k / m * w + j)) (B.2.2 (j * m + k % m)))) w
def s_inner (f g : Nat) (A B : Arr) : Except Nat Arr := if A.1 = 0 ∨ B.1 = 0 ∨ 5 < A.1 + B.1 then .error 4 else if wd A = B.2.1 0 then mk (A.1 - 1 + (B.1 - 1)) (cat (A.1 - 1) A.2.1 (tl B.2.1)) (inE f g A B (wd A) (pr (tl B.2.1) (B.1 - 1))) else .error 3
def aL (A : Arr) : Nat → Nat := fun k => (A.2.2 k).toNatClampNeg
def s_resh (A B : Arr) : Except Nat Arr := if 1 < A.1 ∨ 3 < sz A then .error 4 else if ∀ k, k < sz A → 0 ≤ A.2.2 k then
    (if okS (sz A) (aL A) then (if sz B = 0 ∧ 0 < pr (aL A) (sz A) then .error 3 else mkA (sz A) (aL A) (fun k => .ok (B.2.2 (k % sz B)))) else .error 1) else .error 2
def jr (A B : Arr) : Nat := if 1 < (if A.1 < B.1 then B.1 else A.1) then (if A.1 < B.1 then B.1 else A.1) else 1
def jw (r : Nat) (A : Arr) : Nat := if A.1 = r then wd A else 1
def jL (r : Nat) (A B : Arr) : Nat → Nat := fun k => if k + 1 = r then jw r A + jw r B else (if A.1 = r then A else B).2.1 k
def jE (u v : Nat) (A B : Arr) (k : Nat) : Int32 := if k % (u + v) < u then sel A (u * (k / (u + v)) + k % (u + v)) else sel B (v * (k / (u + v)) + (k % (u + v) - u))
def s_join0 (A B : Arr) : Except Nat Arr := mk (jr A B) (jL (jr A B) A B) (fun k => .ok (jE (jw (jr A B) A) (jw (jr A B) B) A B k))
def s_join (A B : Arr) : Except Nat Arr := if A.1 = 0 ∨ B.1 = 0 then s_join0 A B else if A.1 + 1 < jr A B ∨ B.1 + 1 < jr A B then .error 4 else if ∀ k, k < jr A B - 1 → A.2.1 k = B.2.1 k then s_join0 A B else .error 3
def s_pick (A B : Arr) : Except Nat Arr := if B.1 = 0 ∨ 4 < A.1 + B.1 then .error 4 else
    if okS (A.1 + (B.1 - 1)) (cat A.1 A.2.1 (tl B.2.1)) then (if ∀ k, k < sz A → 0 ≤ A.2.2 k ∧ A.2.2 k < nI (B.2.1 0) then mkA (A.1 + (B.1 - 1)) (cat A.1 A.2.1 (tl B.2.1)) (fun k => .ok (B.2.2 ((A.2.2 (k / pr (tl B.2.1) (B.1 - 1))).toNatClampNeg * pr (tl B.2.1) (B.1 - 1) + k % pr (tl B.2.1) (B.1 - 1)))) else .error 5) else .error 1
theorem WA_ok {A : Arr} (h : WA A) : okS A.1 A.2.1 := ⟨h.2.1, h.2.2⟩
theorem mkA_W {r : Nat} {L : Nat → Nat} {F : Nat → Except Nat Int32} {C : Arr} (h : mkA r L F = .ok C) (hr : r ≤ 3) (hS : okS r L) : WA C := by
  unfold mkA at h
  split at h
  · cases h
  · cases h; exact ⟨hr, hS.1, hS.2⟩
theorem mk_W {r : Nat} {L : Nat → Nat} {F : Nat → Except Nat Int32} {C : Arr} (h : mk r L F = .ok C) (hr : r ≤ 3) : WA C := by
  unfold mk at h
  split at h
  · rename_i hS; exact mkA_W h hr hS
  · cases h
/-- a class's loop that fills the cells one by one -/
theorem Cloop {σ : Type} (f : Nat → σ → Mem → Option (Except Nat Unit × Mem)) (st : Nat → σ) {o r : Nat} {L : Nat → Nat} {F : Nat → Except Nat Int32} {μ μ0 : Mem} (hf : Fg o μ μ0) (hs : GS μ0 o r L) (hN : pr L r ≤ 48)
    (hend : ∀ n ν, ν 20 o 3 = nI (pr L r) → f (n + 1) (st (pr L r)) ν = some (.ok (), ν))
    (hstep : ∀ n k ν, k < pr L r → ν 20 o 3 = nI (pr L r) → CI o μ0 F k ν → ∃ ν', CI o μ0 F k ν' ∧ f (n + 1) (st k) ν = match F k with
      | .error e => some (.error e, ν')
      | .ok v => f n (st (k + 1)) (sto ν' 22 o k v)) : CT o μ (mkA r L F) (f 1000 (st 0) μ0) := by
  have h3 : ∀ k ν, CI o μ0 F k ν → ν 20 o 3 = nI (pr L r) := fun k ν h => by rw [h.1 20 o (by omega)]; exact hs.2.1
  refine lp0 (fun n (s : σ × Mem) => f n s.1 s.2) (CT o μ (mkA r L F)) (pr L r) (fun k s => s.1 = st k ∧ CI o μ0 F k s.2) (st 0, μ0) 1000 (by omega) ⟨rfl, CI_0⟩ ?_ ?_
  · rintro n ⟨x, ν⟩ ⟨h1, h2⟩
    dsimp only at h1 h2 ⊢
    subst h1
    rw [hend n ν (h3 _ _ h2)]
    exact CT_end hf hs h2
  · rintro n k ⟨x, ν⟩ hk hn ⟨h1, h2⟩
    dsimp only at h1 h2 ⊢
    subst h1
    obtain ⟨ν', h4, h5⟩ := hstep n k ν hk (h3 _ _ h2) h2
    cases hF : F k with
    | error e =>
      rw [hF] at h5
      right
      rw [h5]
      exact CT_err hf h4 hk hF
    | ok v =>
      rw [hF] at h5
      left
      exact ⟨(st (k + 1), sto ν' 22 o k v), ⟨rfl, CI_s h4 hF⟩, h5⟩
/-- the same, where nothing else changes -/
theorem Cloop' {σ : Type} (f : Nat → σ → Mem → Option (Except Nat Unit × Mem)) (st : Nat → σ) {o r : Nat} {L : Nat → Nat} {F : Nat → Except Nat Int32} {μ μ0 : Mem} (hf : Fg o μ μ0) (hs : GS μ0 o r L) (hN : pr L r ≤ 48)
    (hend : ∀ n ν, ν 20 o 3 = nI (pr L r) → f (n + 1) (st (pr L r)) ν = some (.ok (), ν))
    (hstep : ∀ n k ν, k < pr L r → ν 20 o 3 = nI (pr L r) → CI o μ0 F k ν → f (n + 1) (st k) ν = match F k with
      | .error e => some (.error e, ν)
      | .ok v => f n (st (k + 1)) (sto ν 22 o k v)) : CT o μ (mkA r L F) (f 1000 (st 0) μ0) :=
  Cloop f st hf hs hN hend (fun n k ν hk h3 h => ⟨ν, h, hstep n k ν hk h3 h⟩)
theorem CI.ga {o g k : Nat} {μ0 μ : Mem} {F : Nat → Except Nat Int32} {A : Arr} (h : CI o μ0 F k μ) (hg : g ≠ o) (hA : GA μ0 g A) : GA μ g A := h.fg.ga hg hA
