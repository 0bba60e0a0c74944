theorem mkA_ok {r : Nat} {L : Nat → Nat} {E : Nat → Int32} : mkA r L (fun k => .ok (E k)) = .ok (r, L, E) := by
  unfold mkA
  rw [fe_ok (fun j _ => ⟨_, rfl⟩)]
  rfl
theorem lengthsOf_C {o g : Nat} {μ : Mem} {A : Arr} (hg : g ≠ o) (h0 : G0 μ o) (hA : GA μ g A) (hW : WA A) : CT o μ (s_len A) (f_X4_lengthsOf g o μ) := by
  have hw1 := hW.1
  obtain ⟨μ1, h2, h3, h4⟩ := addAxis_ok (x := A.1) (h0.gs (fun _ => A.1)) (by omega) rfl (by omega)
  have h5 := h3.ga hg hA
  unfold f_X4_lengthsOf s_len
  rw [mkA_ok, hA.1, h2, bB_o, h5.1, il0, cpok_t (by omega) (by omega) (by omega) (by omega), nI_clamp (by omega), nI_clamp (by omega)]
  refine ⟨_, _, rfl, fun k i hk => ?_, rfl, ?_, ?_, fun k hk => ?_, fun k hk => ?_⟩
  · by_cases h6 : k = 22
    · rw [stf_i (by omega)]; exact h3 k i (by omega)
    · rw [stf_k h6]; exact h3 k i (by omega)
  · rw [stf_k (by omega)]; exact h4.1
  · rw [stf_k (by omega)]; exact h4.2.1
  · rw [stf_k (by omega)]; exact h4.2.2 k hk
  · have hk2 : k < A.1 := by simpa [sz, pr] using hk
    rw [stf_e, pk_cpy_in (by omega) (by omega), show 0 + (k - 0) = k by omega]
    exact h5.2.2.1 k hk2
theorem ravel_C {o g : Nat} {μ : Mem} {A : Arr} (hg : g ≠ o) (h0 : G0 μ o) (hA : GA μ g A) (hW : WA A) : CT o μ (s_rav A)
    (bB (f_X1_addAxis o (μ 20 g 3) μ) (fun e_3 μ_2 => some (.error e_3, μ_2)) fun u_1 μ_2 =>
     gd (cpok (0 : Int32) (0 : Int32) (μ_2 20 g 3) 48 48) <|
     lt (stf μ_2 22 o (va_cpy (μ_2 22 g) (μ_2 22 o) ((0 : Int32)).toNatClampNeg ((0 : Int32)).toNatClampNeg ((μ_2 20 g 3)).toNatClampNeg)) fun μ_4 =>
     some (.ok (), μ_4)) := by
  have hw1 := hW.2.2
  obtain ⟨μ1, h2, h3, h4⟩ := addAxis_ok (x := sz A) (h0.gs (fun _ => sz A)) (by omega) rfl (by omega)
  have h5 := h3.ga hg hA
  unfold s_rav
  rw [mkA_ok, hA.2.1, h2, bB_o, h5.2.1, il0, cpok_t (by omega) (by omega) (by omega) (by omega), nI_clamp (by omega), nI_clamp (by omega)]
  refine ⟨_, _, rfl, fun k i hk => ?_, rfl, ?_, ?_, fun k hk => ?_, fun k hk => ?_⟩
  · by_cases h6 : k = 22
    · rw [stf_i (by omega)]; exact h3 k i (by omega)
    · rw [stf_k h6]; exact h3 k i (by omega)
  · rw [stf_k (by omega)]; exact h4.1
  · rw [stf_k (by omega)]; exact h4.2.1
  · rw [stf_k (by omega)]; exact h4.2.2 k hk
  · have hk2 : k < sz A := by simpa [sz, pr] using hk
    rw [stf_e, pk_cpy_in (by omega) (by omega), show 0 + (k - 0) = k by omega]
    exact h5.2.2.2 k hk2
theorem row_in {A : Arr} {k : Nat} (h : k < rws A) : k * wd A + wd A ≤ sz A := by
  rw [sz_rw, ← Nat.succ_mul]
  exact Nat.mul_le_mul_right _ h
theorem okS_iff {r : Nat} {L : Nat → Nat} (h : ∀ k, k < r → L k ≤ 48) : okS r L ↔ pr L r ≤ 48 := ⟨fun q => q.2, fun q => ⟨h, q⟩⟩
theorem reduce_C {f o g : Nat} (hf : f < 10) {μ : Mem} {A : Arr} (hg : g ≠ o) (h0 : G0 μ o) (hA : GA μ g A) (hW : WA A) : CT o μ (s_red f A) (f_X3_reduce (sg f) g o μ) := by
  have hw1 := hW.1
  have hw2 := hW.2.2
  have hww := WA_wd hW
  have hL : ∀ k, k < A.1 - 1 → A.2.1 k ≤ 48 := fun k hk => hW.2.1 k (by omega)
  have hb : pr A.2.1 (A.1 - 1) ≤ 110592 := pr_le (by omega) hL
  have h1 : ∃ μ1, f_X1_addAxesOf o g 0 (μ 20 g 2 - 1) μ = some (.ok (), μ1) ∧ Fs o μ μ1 ∧ GS μ1 o (A.1 - 1) A.2.1 := by
    rw [hA.1, il0, il1]
    by_cases c : A.1 = 0
    · rw [c, addAxesOf_0 (by decide)]
      exact ⟨μ, rfl, Fs.refl, h0.gs _⟩
    · rw [pk_sub (by omega)]
      have := addAxesOf_eq (a := 0) (b := A.1 - 1) hg (h0.gs A.2.1) (by omega) (by omega) (by omega) (fun j _ hj => by
        rw [Nat.zero_add, Nat.sub_zero]; exact ⟨hA.2.2.1 j (by omega), hL j hj⟩)
      rw [Nat.zero_add, Nat.sub_zero] at this
      exact this
  obtain ⟨μ1, h2, h3, h4⟩ := h1
  have h5 := h3.ga hg hA
  unfold f_X3_reduce s_red mk
  rw [rowLength_eq hA hW, bP_s, h2, bB_o, endAxes_eq h4 (by omega)]
  by_cases c : pr A.2.1 (A.1 - 1) ≤ 48
  · rw [if_pos ((okS_iff hL).mpr c), if_pos c, bT_o]
    refine Cloop' (fun n (s : Int32) ν => f_X3_reduce_L24 (fun μ => some (.ok (), μ)) (sg f) g o (nI (wd A)) n s ν) nI h3.fg h4 c ?_ ?_
    · intro n ν h6
      simp only [f_X3_reduce_L24, h6, nle_t (Nat.le_refl _) (show pr A.2.1 (A.1 - 1) < 2 ^ 31 by omega), if_true]
    · intro n k ν hk h6 h7
      have h8 := h7.ga hg h5
      have h9 := row_in (A := A) hk
      have h10 : fo f (fun j => ν 22 g (k * wd A + j)) (wd A) = fo f (fun j => A.2.2 (k * wd A + j)) (wd A) := fo_congr (fun j hj => h8.2.2.2 _ (by omega))
      simp only [f_X3_reduce_L24, h6, nle_f hk (show pr A.2.1 (A.1 - 1) < 2 ^ 31 by omega), if_false, pk_mul, fold_eq hf (show k * wd A + wd A ≤ 48 by omega), h10, ig_t (show k < 48 by omega) (by omega), nI_clamp (show k < 2 ^ 31 by omega), lt, ← nI_succ]
      cases fo f (fun j => A.2.2 (k * wd A + j)) (wd A) <;> rfl
  · rw [if_neg (fun q => c ((okS_iff hL).mp q)), if_neg c, bT_e]
    exact CT_stop' h3.fg
/-- where the row of place k begins, as the running counter has it -/
theorem start_eq {w k : Nat} (hw : 0 < w) : (if k = (if k = 0 then 0 else (k - 1) / w * w) + w then k else (if k = 0 then 0 else (k - 1) / w * w)) = k / w * w := by
  cases k with
  | zero => simp
  | succ k =>
    simp only [Nat.add_sub_cancel, if_neg (Nat.succ_ne_zero k)]
    have h1 := Nat.div_add_mod k w
    have h2 := Nat.mod_lt k hw
    have h3 : k / w * w = w * (k / w) := Nat.mul_comm _ _
    rw [h3]
    by_cases c : k % w + 1 = w
    · have h4 : k + 1 = w * (k / w) + w := by omega
      rw [if_pos h4]
      have h5 : k + 1 = (k / w + 1) * w := by rw [Nat.succ_mul, Nat.mul_comm]; exact h4
      rw [show (k + 1) / w = k / w + 1 by rw [h5, Nat.mul_div_cancel _ hw]]
      exact h5
    · have h4 : ¬ k + 1 = w * (k / w) + w := by omega
      rw [if_neg h4]
      have h5 : (k + 1) / w = k / w := by
        rw [Nat.div_eq_iff hw]
        rw [Nat.mul_comm]
        omega
      rw [h5, Nat.mul_comm]
def strt (w k : Nat) : Nat := if k = 0 then 0 else (k - 1) / w * w
theorem strt_s (w k : Nat) : strt w (k + 1) = k / w * w := by simp [strt]
theorem strt_eq {w k : Nat} (hw : 0 < w) : (if k = strt w k + w then k else strt w k) = k / w * w := start_eq hw
theorem strt_le (w k : Nat) : strt w k ≤ k := by
  unfold strt
  split
  · omega
  · have := Nat.div_mul_le_self (k - 1) w; omega
theorem kmod (k w : Nat) : k - k / w * w = k % w := by
  have := Nat.div_add_mod k w
  rw [Nat.mul_comm] at this
  omega
theorem wd_pos {A : Arr} {k : Nat} (h : k < sz A) : 0 < wd A := by
  rw [sz_rw] at h
  rcases Nat.eq_zero_or_pos (wd A) with h1 | h1
  · rw [h1] at h; omega
  · exact h1
theorem scan_C {f o g : Nat} (hf : f < 10) {μ : Mem} {A : Arr} (hg : g ≠ o) (hA : GA μ g A) (hW : WA A) : CT o μ (s_scan f A) (f_X3_scan (sg f) g o μ) := by
  obtain ⟨μ1, h1, h2, h3⟩ := shapeLike_eq hg hA hW
  have hA1 := h2.ga hg hA
  have hs : pr A.2.1 A.1 ≤ 48 := hW.2.2
  have hww := WA_wd hW
  unfold f_X3_scan s_scan
  rw [rowLength_eq hA hW, bP_s, h1, bB_o]
  refine Cloop' (fun n (s : Int32 × Int32) ν => f_X3_scan_L16 (fun μ => some (.ok (), μ)) (sg f) g o (nI (wd A)) n s.1 s.2 ν) (fun k => (nI (strt (wd A) k), nI k)) h2.fg h3 hs ?_ ?_
  · intro n ν h4
    simp only [f_X3_scan_L16, h4, nle_t (Nat.le_refl _) (show pr A.2.1 A.1 < 2 ^ 31 by omega), if_true]
  · intro n k ν hk h4 h5
    have h6 := h5.ga hg hA1
    have hw := wd_pos (A := A) hk
    have h7 := strt_le (wd A) k
    have h8 := strt_eq (k := k) hw
    have h9 := Nat.div_mul_le_self k (wd A)
    have h10 := kmod k (wd A)
    have h11 : fo f (fun j => ν 22 g (k / wd A * wd A + j)) (k % wd A + 1) = fo f (fun j => A.2.2 (k / wd A * wd A + j)) (k % wd A + 1) := fo_congr (fun j hj => h6.2.2.2 _ (show _ < pr A.2.1 A.1 by omega))
    have key : ∀ x : Nat, x = k / wd A * wd A → (bT (f_X3_fold (sg f) 22 g (nI x) ((nI k - nI x) + 1) ν) (fun e_15 => some (.error e_15, ν)) fun v_14 =>
        gd (inb (nI k) 48) <| lt (sto ν 22 o (nI k).toNatClampNeg v_14) fun μ_16 => lt (nI k + 1) fun x_17 =>
        f_X3_scan_L16 (fun μ => some (.ok (), μ)) (sg f) g o (nI (wd A)) n (nI x) x_17 μ_16) = match fo f (fun j => A.2.2 (k / wd A * wd A + j)) (k % wd A + 1) with
        | .error e => some (.error e, ν)
        | .ok v => f_X3_scan_L16 (fun μ => some (.ok (), μ)) (sg f) g o (nI (wd A)) n (nI (strt (wd A) (k + 1))) (nI (k + 1)) (sto ν 22 o k v) := by
      intro x hx
      subst hx
      rw [pk_sub h9, ← nI_succ, h10, fold_eq hf (by omega), h11, strt_s]
      simp only [ig_t (show k < 48 by omega) (show 48 < 2 ^ 31 by omega), nI_clamp (show k < 2 ^ 31 by omega), lt, ← nI_succ]
      cases fo f (fun j => A.2.2 (k / wd A * wd A + j)) (k % wd A + 1) <;> rfl
    simp only [f_X3_scan_L16, h4, nle_f hk (show pr A.2.1 A.1 < 2 ^ 31 by omega), if_false, jn, nI_add, neq_iff (show k < 2 ^ 31 by omega) (show strt (wd A) k + wd A < 2 ^ 31 by omega)]
    by_cases c : k = strt (wd A) k + wd A
    · rw [if_pos c] at h8 ⊢
      exact key k h8
    · rw [if_neg c] at h8 ⊢
      exact key _ h8
theorem turnRows_C {o g : Nat} {μ : Mem} {A : Arr} (hg : g ≠ o) (hA : GA μ g A) (hW : WA A) : CT o μ (s_rev A) (f_X4_turnRows g o μ) := by
  obtain ⟨μ1, h1, h2, h3⟩ := shapeLike_eq hg hA hW
  have hA1 := h2.ga hg hA
  have hs : pr A.2.1 A.1 ≤ 48 := hW.2.2
  have hww := WA_wd hW
  unfold f_X4_turnRows s_rev
  rw [rowLength_eq hA hW, bP_s, h1, bB_o]
  refine Cloop' (fun n (s : Int32 × Int32) ν => f_X4_turnRows_L15 (fun μ => some (.ok (), μ)) g o (nI (wd A)) n s.1 s.2 ν) (fun k => (nI (strt (wd A) k), nI k)) h2.fg h3 hs ?_ ?_
  · intro n ν h4
    simp only [f_X4_turnRows_L15, h4, nle_t (Nat.le_refl _) (show pr A.2.1 A.1 < 2 ^ 31 by omega), if_true]
  · intro n k ν hk h4 h5
    have h6 := h5.ga hg hA1
    have hw := wd_pos (A := A) hk
    have h7 := strt_le (wd A) k
    have h8 := strt_eq (k := k) hw
    have h9 := Nat.div_mul_le_self k (wd A)
    have h10 := kmod k (wd A)
    have h12 := Nat.mod_lt k hw
    have h13 : k / wd A * wd A + wd A ≤ sz A := row_in (by
      rw [← Nat.mul_lt_mul_right hw, ← sz_rw]
      exact Nat.lt_of_le_of_lt h9 hk)
    have h14 : sz A ≤ 48 := hs
    have h11 : ν 22 g (k / wd A * wd A + (wd A - 1 - k % wd A)) = A.2.2 (k / wd A * wd A + (wd A - 1 - k % wd A)) := h6.2.2.2 _ (by omega)
    have key : ∀ x : Nat, x = k / wd A * wd A → (gd (inb (((nI x + nI (wd A)) - (1 : Int32)) - (nI k - nI x)) 48) <|
        gd (inb (nI k) 48) <| lt (sto ν 22 o (nI k).toNatClampNeg (ν 22 g ((((nI x + nI (wd A)) - (1 : Int32)) - (nI k - nI x))).toNatClampNeg)) fun μ_13 => lt (nI k + 1) fun x_14 =>
        f_X4_turnRows_L15 (fun μ => some (.ok (), μ)) g o (nI (wd A)) n (nI x) x_14 μ_13) = 
        f_X4_turnRows_L15 (fun μ => some (.ok (), μ)) g o (nI (wd A)) n (nI (strt (wd A) (k + 1))) (nI (k + 1)) (sto ν 22 o k (A.2.2 (k / wd A * wd A + (wd A - 1 - k % wd A)))) := by
      intro x hx
      subst hx
      rw [il1, pk_sub h9, nI_add, pk_sub (by omega), pk_sub (by omega), h10, show k / wd A * wd A + wd A - 1 - k % wd A = k / wd A * wd A + (wd A - 1 - k % wd A) by omega, strt_s]
      rw [ig_t (by omega) (by omega), ig_t (by omega) (by omega), nI_clamp (by omega), nI_clamp (by omega), h11, nI_add]
    simp only [f_X4_turnRows_L15, h4, nle_f hk (show pr A.2.1 A.1 < 2 ^ 31 by omega), if_false, jn, nI_add, neq_iff (show k < 2 ^ 31 by omega) (show strt (wd A) k + wd A < 2 ^ 31 by omega)]
    simp only [nI_add] at key
    by_cases c : k = strt (wd A) k + wd A
    · rw [if_pos c] at h8 ⊢
      exact key k h8
    · rw [if_neg c] at h8 ⊢
      exact key _ h8
