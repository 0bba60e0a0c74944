/-! ===== the class's bench ===== -/
def PM (p : Nat → Nat) (q : Nat) : Prop := (∀ j, j < 8 → 8 ≤ p j ∧ p j < 17 ∧ p j ≠ q) ∧ (∀ i j, i < 8 → j < 8 → p i = p j → i = j) ∧ 8 ≤ q ∧ q < 17
def CB (μ : Mem) (p : Nat → Nat) (q h : Nat) : Prop := μ 14 0 3 = nI q ∧ μ 14 0 4 = nI h ∧ ∀ j, j < 8 → μ 15 0 j = nI (p j)
/-- values[h] and the spare change places -/
def pu (p : Nat → Nat) (h q : Nat) : Nat → Nat := fun j => if j = h then q else p j
theorem PM_pu {p : Nat → Nat} {q h : Nat} (hp : PM p q) (hh : h < 8) : PM (pu p h q) (p h) := by
  obtain ⟨h1, h2, h3, h4⟩ := hp
  have h5 := h1 h hh
  refine ⟨fun j hj => ?_, fun i j hi hj e => ?_, h5.1, h5.2.1⟩
  · unfold pu
    by_cases c : j = h
    · rw [if_pos c]; exact ⟨h3, h4, fun e => h5.2.2 e.symm⟩
    · rw [if_neg c]; exact ⟨(h1 j hj).1, (h1 j hj).2.1, fun e => c (h2 j h hj hh e)⟩
  · unfold pu at e
    by_cases c : i = h
    · rw [if_pos c] at e
      by_cases c2 : j = h
      · rw [c, c2]
      · rw [if_neg c2] at e; exact absurd e.symm (h1 j hj).2.2
    · rw [if_neg c] at e
      by_cases c2 : j = h
      · rw [if_pos c2] at e; exact absurd e (h1 i hi).2.2
      · rw [if_neg c2] at e; exact h2 i j hi hj e
/-- what doing a function does -/
def WP (p : Nat → Nat) (q h : Nat) (μ : Mem) (S : Except Nat Arr) (x : Option (Except Nat Unit × Mem)) : Prop :=
  ∃ r μ', x = some (r, μ') ∧ (∀ k i, k ≠ 14 ∧ k ≠ 15 ∧ k ≠ 17 ∧ (k < 20 ∨ 22 < k ∨ i ≠ q) → μ' k i = μ k i) ∧ μ' 14 0 5 = μ 14 0 5 ∧ match S with
    | .ok C => r = .ok () ∧ CB μ' (pu p h q) (p h) (h + 1) ∧ GA μ' q C ∧ μ' 14 0 6 = μ 14 0 6 + 1
    | .error e => r = .error e ∧ (∃ h', CB μ' p q h') ∧ μ' 14 0 6 = μ 14 0 6
theorem putSpare_eq {μ : Mem} {p : Nat → Nat} {q h : Nat} (hh : h < 8) (hp : PM p q) (hc : CB μ p q (h + 1)) : ∃ μ', f_X0_putSpare μ = some ((), μ') ∧ (∀ k i, k ≠ 14 ∧ k ≠ 15 → μ' k i = μ k i) ∧ μ' 14 0 5 = μ 14 0 5 ∧ CB μ' (pu p h q) (p h) (h + 1) ∧ μ' 14 0 6 = μ 14 0 6 + 1 := by
  obtain ⟨h1, h2, h3, h4⟩ := hp
  have h5 := h1 h hh
  unfold f_X0_putSpare
  have e1 : μ 14 0 4 - 1 = nI h := by rw [hc.2.1]; exact nI_pred h
  simp only [e1, ig_t (show h < 8 by omega) (show 8 < 2 ^ 31 by omega), nI_clamp (show h < 2 ^ 31 by omega), hc.2.2 h hh, nI_clamp (show p h < 2 ^ 31 by omega), hc.1, nI_clamp (show q < 2 ^ 31 by omega), lt, gd_d (show p h < 18 by omega), gd_d (show q < 18 by omega)]
  refine ⟨_, rfl, fun k i hk => ?_, ?_, ⟨?_, ?_, fun j hj => ?_⟩, ?_⟩
  · rw [sto_k hk.1, sto_k hk.1, sto_k hk.2]
  · rw [sto_j (by omega), sto_j (by omega), sto_k (by omega)]
  · rw [sto_j (by omega), sto_e]
  · rw [sto_j (by omega), sto_j (by omega), sto_k (by omega)]; exact hc.2.1
  · rw [sto_k (by omega), sto_k (by omega)]
    unfold pu
    by_cases c : j = h
    · subst c; rw [sto_e, if_pos rfl]
    · rw [sto_j c, if_neg c]; exact hc.2.2 j hj
  · rw [sto_e, sto_j (by omega), sto_k (by omega)]
theorem fin1 {μ μ6 : Mem} {p : Nat → Nat} {q h : Nat} {S : Except Nat Arr} {x : Option (Except Nat Unit × Mem)} (hh : h < 8) (hp : PM p q) (hc : CB μ p q (h + 1)) (hf : Fs q μ μ6) (hx : CT q μ6 S x) : WP p q h μ S (bB x (fun e μ => some (.error e, μ)) fun _ μ_7 => bW (f_X0_putSpare μ_7) fun _ μ_10 => some (.ok (), μ_10)) := by
  obtain ⟨r, μ7, e1, e2, e3⟩ := hx
  subst e1
  have g : ∀ k i, k ≠ 17 ∧ (k < 20 ∨ 22 < k ∨ i ≠ q) → μ7 k i = μ k i := fun k i hk => (e2 k i hk).trans (hf k i (by omega))
  have hc7 : CB μ7 p q (h + 1) := ⟨by rw [g 14 0 (by omega)]; exact hc.1, by rw [g 14 0 (by omega)]; exact hc.2.1, fun j hj => by rw [g 15 0 (by omega)]; exact hc.2.2 j hj⟩
  cases S with
  | error e =>
    dsimp only at e3
    subst e3
    rw [bB_e]
    exact ⟨.error e, μ7, rfl, fun k i hk => g k i (by omega), by rw [g 14 0 (by omega)], rfl, ⟨h + 1, hc7⟩, by rw [g 14 0 (by omega)]⟩
  | ok C =>
    dsimp only at e3
    obtain ⟨rfl, e4⟩ := e3
    obtain ⟨μ8, d1, d2, d3, d4, d5⟩ := putSpare_eq hh hp hc7
    rw [bB_o, d1, bW_s]
    refine ⟨.ok (), μ8, rfl, fun k i hk => (d2 k i (by omega)).trans (g k i (by omega)), by rw [d3, g 14 0 (by omega)], rfl, d4, ?_, by rw [d5, g 14 0 (by omega)]⟩
    refine ⟨?_, ?_, fun k hk => ?_, fun k hk => ?_⟩
    · rw [d2 20 q (by omega)]; exact e4.1
    · rw [d2 20 q (by omega)]; exact e4.2.1
    · rw [d2 21 q (by omega)]; exact e4.2.2.1 k hk
    · rw [d2 22 q (by omega)]; exact e4.2.2.2 k hk
theorem fin2 {μ μ6 : Mem} {p : Nat → Nat} {q h : Nat} {S : Except Nat Arr} {x : Option (Except Nat Unit × Mem)} (hh : h < 8) (hp : PM p q) (hc : CB μ p q (h + 2)) (hf : Fs q μ μ6) (hx : CT q μ6 S x) : WP p q h μ S (bB x (fun e μ => some (.error e, μ)) fun _ μ_8 => bW (f_X0_putSpare (sto μ_8 14 0 4 ((μ_8 14 0 4) - (1 : Int32)))) fun _ μ_12 => some (.ok (), μ_12)) := by
  obtain ⟨r, μ7, e1, e2, e3⟩ := hx
  subst e1
  have g : ∀ k i, k ≠ 17 ∧ (k < 20 ∨ 22 < k ∨ i ≠ q) → μ7 k i = μ k i := fun k i hk => (e2 k i hk).trans (hf k i (by omega))
  have hc7 : CB μ7 p q (h + 2) := ⟨by rw [g 14 0 (by omega)]; exact hc.1, by rw [g 14 0 (by omega)]; exact hc.2.1, fun j hj => by rw [g 15 0 (by omega)]; exact hc.2.2 j hj⟩
  cases S with
  | error e =>
    dsimp only at e3
    subst e3
    rw [bB_e]
    exact ⟨.error e, μ7, rfl, fun k i hk => g k i (by omega), by rw [g 14 0 (by omega)], rfl, ⟨h + 2, hc7⟩, by rw [g 14 0 (by omega)]⟩
  | ok C =>
    dsimp only at e3
    obtain ⟨rfl, e4⟩ := e3
    have hc8 : CB (sto μ7 14 0 4 ((μ7 14 0 4) - (1 : Int32))) p q (h + 1) := ⟨by rw [sto_j (by omega)]; exact hc7.1, by rw [sto_e, hc7.2.1]; exact nI_pred (h + 1), fun j hj => by rw [sto_k (by omega)]; exact hc7.2.2 j hj⟩
    obtain ⟨μ8, d1, d2, d3, d4, d5⟩ := putSpare_eq hh hp hc8
    rw [bB_o, d1, bW_s]
    refine ⟨.ok (), μ8, rfl, fun k i hk => ?_, ?_, rfl, d4, ?_, ?_⟩
    · rw [d2 k i (by omega), sto_k (by omega)]; exact g k i (by omega)
    · rw [d3, sto_j (by omega), g 14 0 (by omega)]
    · refine ⟨?_, ?_, fun k hk => ?_, fun k hk => ?_⟩
      · rw [d2 20 q (by omega), sto_k (by omega)]; exact e4.1
      · rw [d2 20 q (by omega), sto_k (by omega)]; exact e4.2.1
      · rw [d2 21 q (by omega), sto_k (by omega)]; exact e4.2.2.1 k hk
      · rw [d2 22 q (by omega), sto_k (by omega)]; exact e4.2.2.2 k hk
    · rw [d5, sto_j (by omega), g 14 0 (by omega)]
theorem GS.g0 {μ : Mem} {o : Nat} {L : Nat → Nat} (h : GS μ o 0 L) : G0 μ o := ⟨h.1, h.2.1⟩
/-! the signs of the functions, by their numbers -/
def sn1 (f : Nat) : Nat := if f < 10 then sgl.getD f 0 else if f < 20 then sgl.getD (f - 10) 0 else [45, 124, 42, 105, 114, 44, 116, 118].getD (f - 20) 0
def fn1 (f : Nat) : Nat := if f < 10 then 47 else if f < 20 then 92 else 0
def sn2 (f : Nat) : Nat := if f < 10 then sgl.getD f 0 else if f < 30 then sgl.getD (f - 20) 0 else if f = 30 then 114 else if f = 31 then 44 else if f = 32 then 112 else sgl.getD ((f - 100) / 10) 0
def fn2 (f : Nat) : Nat := if f < 10 then 0 else if f < 30 then 64 else if f < 33 then 0 else 46
def gn2 (f : Nat) : Nat := sgl.getD ((f - 100) % 10) 0
theorem bB_id {x : Option (Except Nat Unit × Mem)} : (bB x (fun e μ => some (.error e, μ)) fun _ μ => some (.ok (), μ)) = x := by
  cases x with
  | none => rfl
  | some y =>
    obtain ⟨r, μ⟩ := y
    cases r with
    | error e => rfl
    | ok u => rfl
theorem ofOne_C {f o g : Nat} {μ : Mem} {A : Arr} (hf : 23 ≤ f ∧ f < 28) (hg : g ≠ o) (h0 : G0 μ o) (hA : GA μ g A) (hW : WA A) : CT o μ (sp1 f A) (f_X4_ofOne (nI (sn1 f)) g o μ) := by
  rcases (show f = 23 ∨ f = 24 ∨ f = 25 ∨ f = 26 ∨ f = 27 by omega) with rfl | rfl | rfl | rfl | rfl
  · have e : f_X4_ofOne (nI (sn1 23)) g o μ = f_X4_upTo g o μ := by
      unfold f_X4_ofOne
      rw [if_neg (by decide), if_pos (by decide), bB_id]
    rw [e]; exact upTo_C hg h0 hA hW
  · have e : f_X4_ofOne (nI (sn1 24)) g o μ = f_X4_lengthsOf g o μ := by
      unfold f_X4_ofOne
      rw [if_neg (by decide), if_neg (by decide), if_pos (by decide), bB_id]
    rw [e]; exact lengthsOf_C hg h0 hA hW
  · unfold f_X4_ofOne
    rw [if_pos (by decide)]
    exact ravel_C hg h0 hA hW
  · have e : f_X4_ofOne (nI (sn1 26)) g o μ = f_X4_turnAxes g o μ := by
      unfold f_X4_ofOne
      rw [if_neg (by decide), if_neg (by decide), if_neg (by decide), if_pos (by decide), bB_id]
    rw [e]; exact turnAxes_C hg h0 hA hW
  · have e : f_X4_ofOne (nI (sn1 27)) g o μ = f_X4_turnRows g o μ := by
      unfold f_X4_ofOne
      rw [if_neg (by decide), if_neg (by decide), if_neg (by decide), if_neg (by decide), bB_id]
    rw [e]; exact turnRows_C hg hA hW
theorem sn1_lt : ∀ f, f < 28 → sn1 f < 256 := by decide
theorem sn1_k1 : ∀ f, f < 28 → 20 ≤ f → ((kStr.getD 1 []).contains (sn1 f) = decide (23 ≤ f)) := by decide
theorem workOnOne_eq {f k h q : Nat} {p : Nat → Nat} {μ : Mem} {A : Arr} (hf : f < 28) (hk : k < 200) (hh : h < 8) (hp : PM p q) (hc : CB μ p q (h + 1)) (hs : μ 7 0 k = nI (sn1 f)) (hm : μ 8 0 k = nI (fn1 f)) (hA : GA μ (p h) A) (hW : WA A) : WP p q h μ (sp1 f A) (f_X0_workOnOne (nI k) μ) := by
  have h5 := hp.1 h hh
  have h6 := hp.2.2
  unfold f_X0_workOnOne
  have e1 : μ 14 0 4 - 1 = nI h := by rw [hc.2.1]; exact nI_pred h
  obtain ⟨μ6, r1, r2, r3⟩ := restart_eq q μ (fun _ => 0)
  have r4 : μ6 14 0 3 = nI q := by rw [r2 14 0 (by omega)]; exact hc.1
  have hA6 := r2.ga h5.2.2 hA
  simp only [e1, ig_t hk (show 200 < 2 ^ 31 by omega), ig_t (show h < 8 by omega) (show 8 < 2 ^ 31 by omega), nI_clamp (show k < 2 ^ 31 by omega), nI_clamp (show h < 2 ^ 31 by omega), hc.2.2 h hh, nI_clamp (show p h < 2 ^ 31 by omega), hc.1, nI_clamp (show q < 2 ^ 31 by omega), lt, gd_d (show p h < 18 by omega), gd_d (show q < 18 by omega), hs, hm, r1, bW_s, r4, jn]
  by_cases c1 : f < 10
  · have v1 : fn1 f = 47 := by unfold fn1; rw [if_pos c1]
    have v2 : nI (sn1 f) = sg f := by unfold sn1 sg; rw [if_pos c1]
    rw [v1, if_pos (by decide), v2]
    have : sp1 f A = s_red f A := by unfold sp1; rw [if_pos c1]
    rw [this]
    exact fin1 hh hp hc r2 (reduce_C c1 h5.2.2 r3.g0 hA6 hW)
  by_cases c2 : f < 20
  · have v1 : fn1 f = 92 := by unfold fn1; rw [if_neg c1, if_pos c2]
    have v2 : nI (sn1 f) = sg (f - 10) := by unfold sn1 sg; rw [if_neg c1, if_pos c2]
    rw [v1, if_neg (by decide), if_pos (by decide), v2]
    have : sp1 f A = s_scan (f - 10) A := by unfold sp1; rw [if_neg c1, if_pos c2]
    rw [this]
    exact fin1 hh hp hc r2 (scan_C (by omega) h5.2.2 hA6 hW)
  have v1 : fn1 f = 0 := by unfold fn1; rw [if_neg c1, if_neg c2]
  rw [v1, if_neg (by decide), if_neg (by decide)]
  obtain ⟨v, i1, i2⟩ := ix_eq (j := 1) (by omega) (sn1_lt f hf) μ6
  rw [sn1_k1 f hf (by omega)] at i2
  rw [i1, bP_s]
  by_cases c3 : f < 23
  · rw [if_pos (i2.mpr (by simp; omega))]
    have : sp1 f A = s_one (f - 20) A := by unfold sp1; rw [if_neg c1, if_neg c2, if_pos c3]
    rw [this]
    refine fin1 hh hp hc r2 (eachOfOne_C (f := f - 20) ?_ h5.2.2 hA6 hW)
    rcases (show f = 20 ∨ f = 21 ∨ f = 22 by omega) with rfl | rfl | rfl
    · exact fun a ν => workAlone_0 a ν
    · exact fun a ν => workAlone_1 a ν
    · exact fun a ν => workAlone_2 a ν
  · rw [if_neg (fun q => absurd (i2.mp q) (by simp; omega))]
    exact fin1 hh hp hc r2 (ofOne_C ⟨by omega, hf⟩ h5.2.2 r3.g0 hA6 hW)
theorem sn2_k2 : ∀ f, f < 33 → f < 10 ∨ 30 ≤ f → sn2 f < 256 ∧ ((kStr.getD 2 []).contains (sn2 f) = decide (30 ≤ f)) := by decide
theorem workOnTwo_eq {f k h q : Nat} {p : Nat → Nat} {μ : Mem} {A B : Arr} (hf : ok2 f) (hk : k < 200) (hh : h + 1 < 8) (hp : PM p q) (hc : CB μ p q (h + 2)) (hs : μ 7 0 k = nI (sn2 f)) (hm : μ 8 0 k = nI (fn2 f)) (hn : 100 ≤ f → μ 9 0 k = nI (gn2 f)) (hA : GA μ (p (h + 1)) A) (hWA : WA A) (hB : GA μ (p h) B) (hWB : WA B) : WP p q h μ (sp2 f A B) (f_X0_workOnTwo (nI k) μ) := by
  have h5 := hp.1 h (by omega)
  have h5' := hp.1 (h + 1) (by omega)
  have h6 := hp.2.2
  unfold ok2 at hf
  unfold f_X0_workOnTwo
  have e1 : μ 14 0 4 - 1 = nI (h + 1) := by rw [hc.2.1]; exact nI_pred (h + 1)
  have e2 : μ 14 0 4 - 2 = nI h := by rw [hc.2.1, il2, pk_sub (by omega)]; rfl
  obtain ⟨μ6, r1, r2, r3⟩ := restart_eq q μ (fun _ => 0)
  have r4 : μ6 14 0 3 = nI q := by rw [r2 14 0 (by omega)]; exact hc.1
  have r5 : μ6 9 0 k = μ 9 0 k := by rw [r2 9 0 (by omega)]
  have hA6 := r2.ga h5'.2.2 hA
  have hB6 := r2.ga h5.2.2 hB
  simp only [e1, e2, ig_t hk (show 200 < 2 ^ 31 by omega), ig_t (show h < 8 by omega) (show 8 < 2 ^ 31 by omega), ig_t (show h + 1 < 8 by omega) (show 8 < 2 ^ 31 by omega), nI_clamp (show k < 2 ^ 31 by omega), nI_clamp (show h < 2 ^ 31 by omega), nI_clamp (show h + 1 < 2 ^ 31 by omega), hc.2.2 h (by omega), hc.2.2 (h + 1) hh, nI_clamp (show p h < 2 ^ 31 by omega), nI_clamp (show p (h + 1) < 2 ^ 31 by omega), hc.1, nI_clamp (show q < 2 ^ 31 by omega), lt, gd_d (show p h < 18 by omega), gd_d (show p (h + 1) < 18 by omega), gd_d (show q < 18 by omega), hs, hm, r1, bW_s, r4, r5, jn]
  by_cases c0 : 100 ≤ f
  · have v1 : fn2 f = 46 := by unfold fn2; rw [if_neg (by omega), if_neg (by omega), if_neg (by omega)]
    have v2 : nI (sn2 f) = sg ((f - 100) / 10) := by unfold sn2 sg; rw [if_neg (by omega), if_neg (by omega), if_neg (by omega), if_neg (by omega), if_neg (by omega)]
    have v3 : nI (gn2 f) = sg ((f - 100) % 10) := rfl
    rw [v1, if_pos (by decide), v2, hn c0, v3]
    have : sp2 f A B = s_inner ((f - 100) / 10) ((f - 100) % 10) A B := by unfold sp2; rw [if_neg (by omega), if_neg (by omega), if_neg (by omega), if_neg (by omega), if_neg (by omega)]
    rw [this]
    exact fin2 (by omega) hp hc r2 (inner_C (by omega) (by omega) h5'.2.2 h5.2.2 r3.g0 hA6 hWA hB6 hWB)
  by_cases c1 : 20 ≤ f ∧ f < 30
  · have v1 : fn2 f = 64 := by unfold fn2; rw [if_neg (by omega), if_pos (by omega)]
    have v2 : nI (sn2 f) = sg (f - 20) := by unfold sn2 sg; rw [if_neg (by omega), if_pos (by omega)]
    rw [v1, if_neg (by decide), if_pos (by decide), v2]
    have : sp2 f A B = s_outer (f - 20) A B := by unfold sp2; rw [if_neg (by omega), if_pos (by omega)]
    rw [this]
    exact fin2 (by omega) hp hc r2 (outer_C (by omega) h5'.2.2 h5.2.2 r3.g0 hA6 hWA hB6 hWB)
  have v1 : fn2 f = 0 := by
    unfold fn2
    by_cases c : f < 10
    · rw [if_pos c]
    · rw [if_neg c, if_neg (by omega), if_pos (by omega)]
  rw [v1, if_neg (by decide), if_neg (by decide)]
  obtain ⟨q1, q2⟩ := sn2_k2 f (by omega) (by omega)
  obtain ⟨v, i1, i2⟩ := ix_eq (j := 2) (by omega) q1 μ6
  rw [q2] at i2
  rw [i1, bP_s]
  by_cases c3 : f < 10
  · rw [if_pos (i2.mpr (by simp; omega))]
    have v2 : nI (sn2 f) = sg f := by unfold sn2 sg; rw [if_pos c3]
    have : sp2 f A B = s_each f A B := by unfold sp2; rw [if_pos c3]
    rw [this, v2]
    exact fin2 (by omega) hp hc r2 (each_C c3 h5'.2.2 h5.2.2 hA6 hWA hB6 hWB)
  · rw [if_neg (fun q => absurd (i2.mp q) (by simp; omega))]
    refine fin2 (by omega) hp hc r2 ?_
    unfold f_X4_ofTwo
    rcases (show f = 30 ∨ f = 31 ∨ f = 32 by omega) with rfl | rfl | rfl
    · rw [if_neg (by decide), if_pos (by decide), bB_id]
      exact reshape_C h5'.2.2 h5.2.2 r3.g0 hA6 hWA hB6 hWB
    · rw [if_pos (by decide), bB_id]
      exact join_C h5'.2.2 h5.2.2 r3.g0 hA6 hWA hB6 hWB
    · rw [if_neg (by decide), if_neg (by decide), bB_id]
      exact pick_C h5'.2.2 h5.2.2 r3.g0 hA6 hWA hB6 hWB
