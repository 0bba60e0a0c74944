/-! ===== run, with its six handlers ===== -/
theorem va_P.left {D : va_G} {cl : List vw_C} {w1 w2 : va_W} {H : Heap} (h : va_P D cl (w1 ++ w2) H) : va_P D cl w1 H := fun k q hk => h k q (by rw [List.getElem?_append_left (List.getElem?_eq_some_iff.mp hk).1]; exact hk)
theorem va_P.right {D : va_G} {cl : List vw_C} {w1 w2 : va_W} {H : Heap} (h : va_P D cl (w1 ++ w2) H) : va_P D cl w2 H := fun k q hk => h (w1.length + k) q (by rw [List.getElem?_append_right (Nat.le_add_right _ _), Nat.add_sub_cancel_left]; exact hk)
theorem one_at {a : Nat} {e : va_E} {k : Nat} {q : Nat × va_E} (h : [(a, e)][k]? = some q) : q = (a, e) := by
  have h1 : k < 1 := (List.getElem?_eq_some_iff.mp h).1
  have h2 : k = 0 := by omega
  subst h2
  exact (Option.some.inj h).symm
theorem va_P.one {D : va_G} {cl : List vw_C} {a : Nat} {e : va_E} {H H1 : Heap} (h : va_P D cl [(a, e)] H) (hq : H1[a]? = H[a]?) : va_P D cl [(a, e)] H1 := h.kept (fun k q hk => by rw [one_at hk]; exact hq)
theorem app_set {w : va_W} {a : Nat} {e e' : va_E} : (w ++ [(a, e)]).set w.length (a, e') = w ++ [(a, e')] := by simp
theorem app_get {w : va_W} {x : Nat × va_E} : (w ++ [x])[w.length]? = some x := by simp
theorem D_one {A : Nat → Prop} {w : va_W} {a : Nat} {e : va_E} (hD : va_D A w) (hA : A a) (hn : ∀ (k : Nat) (q : Nat × va_E), w[k]? = some q → q.1 ≠ a) : va_D A (w ++ [(a, e)]) := by
  refine hD.app ⟨fun i j p q hi hj _ => ?_, fun k q hk => by rw [one_at hk]; exact hA⟩ (fun i j p q hi hj => by rw [one_at hj]; exact hn i p hi)
  have h1 : i < 1 := (List.getElem?_eq_some_iff.mp hi).1
  have h2 : j < 1 := (List.getElem?_eq_some_iff.mp hj).1
  omega
set_option maxHeartbeats 4000000 in
set_option maxRecDepth 100000 in
theorem con_run {l : Launch} {E : WE} (hst : l.stackTraces = false) (o : Nat) (cJ : ClassId) (sz : Nat) {μ μ' : Mem} {r : Except Nat Int32} (f : Nat → Int64) (h : f_X7_run μ = some (r, μ')) (hr : ∀ n, r = .error n → eok n) : Met l yL_run [Cond.codeWith yL_run cL_run 3 (some .int) hhR] rmR (PcR E o cJ sz μ f) (QcR E o cJ sz r μ') 1 6 (AR E o sz) := by
  refine va_MetW (cc := cL_run) (maxL := 3) (ret := some .int) (hh := hhR) (by decide) rfl ?_
  intro p e s m args below meth c s₁ B hml hv
  obtain ⟨rfl, hsz, hT, hk, hK, hA, hC, hP, hPo, hne, hnc⟩ := hv
  subst hsz
  have hx := B.exec
  have hb := B.bytes
  have hrt := B.returns
  have hlocks := B.notSynchronized
  have hown : s.vm.findClass RL = some m.cls := findClass_of_methodNamed B.named
  have htab : c.exceptionTable.toList = tableOf hhR := vx_table (x := yL_run) B (atoms_spec (ws := [Cond.codeWith yL_run cL_run 3 (some .int) hhR]) B.pre _ List.mem_cons_self)
  have hK0 : va_K E.2.1 vwCl (tysE E) s := hK.sub [0, 1, 2, 3] rfl
  have hL : LWd E lvC (AR E o s.heap.size) s := ⟨hT, hk, hK0, hA, hC, fun c hc => Or.inl (Or.inl ⟨c, hc, rfl⟩), fun q hq => Or.inl (Or.inr hq)⟩
  have hS : va_S (AR E o s.heap.size) s.heap s.heap [] := va_S.rf
  have hol : o < s.heap.size := (hPo 0 _ rfl).lt
  have hl := lv_entry ([.ref (E.1 0 0), .ref o]) (n := 3) (by show 2 ≤ 3; omega)
  show W p l e _ s m _ below meth c s.heap [] 0 0 _ (entryFrame m ([.ref (E.1 0 0), .ref o] : List Value).toArray 3)
  rw [lg_entry_eq]
  generalize (lg_sl ([.ref (E.1 0 0), .ref o]) ++ List.replicate (3 - (lg_sl ([.ref (E.1 0 0), .ref o])).length) Slot.unset).toArray = ls at hl ⊢
  have hl : lv_has ls 3 [(0, .ref (E.1 0 0)), (1, .ref o)] := hl
  refine lv_aload_n hx hb dL_run_0 rfl (lv_at hl 1 rfl) ?_
  refine lv_iconst (v := 0) hx hb dL_run_1 (by decide) ?_
  refine lv_aload_n hx hb dL_run_2 rfl (lv_at hl 0 rfl) ?_
  refine W_conV (nL := 3) (own := RL) hx hb hml hown hL hS hP hl.1 0 0 (by decide) [] (con_X7_run hst h) tl_X7_run kl_X7_run rfl rfl rfl (by decide) (by decide) ⟨by decide, by decide⟩ rfl (Nat.le_of_ble_eq_true rfl) rfl dL_run_3 (fun v ν h9 H1 locs1 z1 hP1 hR1 hS1 => ?_) (fun n ν h9 H1 locs1 q ce z1 hP1 hR1 hS1 g1 g2 g3 => ?_)
  · have hPo1 := hPo.one (hR1 o hol (fun c hc e => hne c hc e.symm))
    cases r with
    | error n => cases h9
    | ok w =>
      cases h9
      refine lv_i2l hx hb dL_run_6 rfl ?_
      have hD : va_D (AR E o s.heap.size) (cs E lvC μ' ++ [(o, lRow cJ f)]) := D_one ((cs_D hA).weaken (fun k q hk hq => Or.inl hq)) (Or.inr rfl) (fun k q hk => by
        obtain ⟨c9, h1, rfl⟩ := cs_inv hk
        exact hne c9 (List.mem_of_getElem? h1))
      refine va_last hx hb hK (hP1.app hPo1) hD hS1 (cs E lvC μ').length 4 app_get rfl (i := 0) (vp_in_nI (n := 0) (N := 1) (by omega) (by omega)) dL_run_7 (fun H2 locs2 hP2 _ hS2 => ?_)
      rw [app_set] at hP2
      refine lv_goto (tgt := 30) hx hb dL_run_8 (by decide) ?_
      refine lv_iconst (v := 0) hx hb dL_run_30 (by decide) ?_
      exact W.iret hx hb hrt (fun t ht hW => ⟨0, _, rfl, by rw [ht]; exact hP2.left, by rw [ht]; exact hP2.right, hS2.F ht, Or.inl ⟨w, rfl, rfl, by simp [vp_updL]⟩⟩) hS2.2.2 dL_run_31
  · have hPo1 := hPo.one (hR1 o hol (fun c hc e => hne c hc e.symm))
    cases r with
    | ok w => cases h9
    | error n' =>
      cases h9
      have he : 1 ≤ n ∧ n ≤ 6 := hr n rfl
      have h6 : n = 1 ∨ n = 2 ∨ n = 3 ∨ n = 4 ∨ n = 5 ∨ n = 6 := by omega
      rcases h6 with rfl | rfl | rfl | rfl | rfl | rfl
      · refine vx_catch (own := RL) (name := exn 1) (E := exn 1) hown [] ⟨0, 8, 11, 13⟩ [⟨0, 8, 14, 15⟩, ⟨0, 8, 17, 17⟩, ⟨0, 8, 20, 19⟩, ⟨0, 8, 23, 21⟩, ⟨0, 8, 26, 23⟩] htab ?_ (by decide) (by decide) (hT.use w_ex1 rfl) (hT.use w_cs1 rfl) g1 g2 g3 ?_
        · intro z hz; cases hz
        · refine lv_astore_n (lv' := [(2, .ref q), (0, .ref (E.1 0 0)), (1, .ref o)]) hx hb dL_run_11 rfl hl (by decide) rfl (fun ls hl => ?_)
          refine lv_iconst (v := 1) hx hb dL_run_12 (by decide) ?_
          exact W.iret hx hb hrt (fun t ht hW => ⟨1, f, rfl, by rw [ht]; exact hP1, by rw [ht]; exact hPo1, hS1.F ht, Or.inr ⟨1, rfl, by decide⟩⟩) hS1.2.2 dL_run_13
      · refine vx_catch (own := RL) (name := exn 2) (E := exn 2) hown [⟨0, 8, 11, 13⟩] ⟨0, 8, 14, 15⟩ [⟨0, 8, 17, 17⟩, ⟨0, 8, 20, 19⟩, ⟨0, 8, 23, 21⟩, ⟨0, 8, 26, 23⟩] htab ?_ (by decide) (by decide) (hT.use w_ex2 rfl) (hT.use w_cs2 rfl) g1 g2 g3 ?_
        · intro z hz
          simp only [List.mem_cons, List.not_mem_nil, or_false] at hz
          subst hz
          exact Or.inr ⟨by decide, exn 1, hT.use w_ex1 rfl, hnc 2 1 (by omega) (by omega) (by omega)⟩
        · refine lv_astore_n (lv' := [(2, .ref q), (0, .ref (E.1 0 0)), (1, .ref o)]) hx hb dL_run_14 rfl hl (by decide) rfl (fun ls hl => ?_)
          refine lv_iconst (v := 2) hx hb dL_run_15 (by decide) ?_
          exact W.iret hx hb hrt (fun t ht hW => ⟨2, f, rfl, by rw [ht]; exact hP1, by rw [ht]; exact hPo1, hS1.F ht, Or.inr ⟨2, rfl, by decide⟩⟩) hS1.2.2 dL_run_16
      · refine vx_catch (own := RL) (name := exn 3) (E := exn 3) hown [⟨0, 8, 11, 13⟩, ⟨0, 8, 14, 15⟩] ⟨0, 8, 17, 17⟩ [⟨0, 8, 20, 19⟩, ⟨0, 8, 23, 21⟩, ⟨0, 8, 26, 23⟩] htab ?_ (by decide) (by decide) (hT.use w_ex3 rfl) (hT.use w_cs3 rfl) g1 g2 g3 ?_
        · intro z hz
          simp only [List.mem_cons, List.not_mem_nil, or_false] at hz
          rcases hz with rfl | rfl
          · exact Or.inr ⟨by decide, exn 1, hT.use w_ex1 rfl, hnc 3 1 (by omega) (by omega) (by omega)⟩
          · exact Or.inr ⟨by decide, exn 2, hT.use w_ex2 rfl, hnc 3 2 (by omega) (by omega) (by omega)⟩
        · refine lv_astore_n (lv' := [(2, .ref q), (0, .ref (E.1 0 0)), (1, .ref o)]) hx hb dL_run_17 rfl hl (by decide) rfl (fun ls hl => ?_)
          refine lv_iconst (v := 3) hx hb dL_run_18 (by decide) ?_
          exact W.iret hx hb hrt (fun t ht hW => ⟨3, f, rfl, by rw [ht]; exact hP1, by rw [ht]; exact hPo1, hS1.F ht, Or.inr ⟨3, rfl, by decide⟩⟩) hS1.2.2 dL_run_19
      · refine vx_catch (own := RL) (name := exn 4) (E := exn 4) hown [⟨0, 8, 11, 13⟩, ⟨0, 8, 14, 15⟩, ⟨0, 8, 17, 17⟩] ⟨0, 8, 20, 19⟩ [⟨0, 8, 23, 21⟩, ⟨0, 8, 26, 23⟩] htab ?_ (by decide) (by decide) (hT.use w_ex4 rfl) (hT.use w_cs4 rfl) g1 g2 g3 ?_
        · intro z hz
          simp only [List.mem_cons, List.not_mem_nil, or_false] at hz
          rcases hz with rfl | rfl | rfl
          · exact Or.inr ⟨by decide, exn 1, hT.use w_ex1 rfl, hnc 4 1 (by omega) (by omega) (by omega)⟩
          · exact Or.inr ⟨by decide, exn 2, hT.use w_ex2 rfl, hnc 4 2 (by omega) (by omega) (by omega)⟩
          · exact Or.inr ⟨by decide, exn 3, hT.use w_ex3 rfl, hnc 4 3 (by omega) (by omega) (by omega)⟩
        · refine lv_astore_n (lv' := [(2, .ref q), (0, .ref (E.1 0 0)), (1, .ref o)]) hx hb dL_run_20 rfl hl (by decide) rfl (fun ls hl => ?_)
          refine lv_iconst (v := 4) hx hb dL_run_21 (by decide) ?_
          exact W.iret hx hb hrt (fun t ht hW => ⟨4, f, rfl, by rw [ht]; exact hP1, by rw [ht]; exact hPo1, hS1.F ht, Or.inr ⟨4, rfl, by decide⟩⟩) hS1.2.2 dL_run_22
      · refine vx_catch (own := RL) (name := exn 5) (E := exn 5) hown [⟨0, 8, 11, 13⟩, ⟨0, 8, 14, 15⟩, ⟨0, 8, 17, 17⟩, ⟨0, 8, 20, 19⟩] ⟨0, 8, 23, 21⟩ [⟨0, 8, 26, 23⟩] htab ?_ (by decide) (by decide) (hT.use w_ex5 rfl) (hT.use w_cs5 rfl) g1 g2 g3 ?_
        · intro z hz
          simp only [List.mem_cons, List.not_mem_nil, or_false] at hz
          rcases hz with rfl | rfl | rfl | rfl
          · exact Or.inr ⟨by decide, exn 1, hT.use w_ex1 rfl, hnc 5 1 (by omega) (by omega) (by omega)⟩
          · exact Or.inr ⟨by decide, exn 2, hT.use w_ex2 rfl, hnc 5 2 (by omega) (by omega) (by omega)⟩
          · exact Or.inr ⟨by decide, exn 3, hT.use w_ex3 rfl, hnc 5 3 (by omega) (by omega) (by omega)⟩
          · exact Or.inr ⟨by decide, exn 4, hT.use w_ex4 rfl, hnc 5 4 (by omega) (by omega) (by omega)⟩
        · refine lv_astore_n (lv' := [(2, .ref q), (0, .ref (E.1 0 0)), (1, .ref o)]) hx hb dL_run_23 rfl hl (by decide) rfl (fun ls hl => ?_)
          refine lv_iconst (v := 5) hx hb dL_run_24 (by decide) ?_
          exact W.iret hx hb hrt (fun t ht hW => ⟨5, f, rfl, by rw [ht]; exact hP1, by rw [ht]; exact hPo1, hS1.F ht, Or.inr ⟨5, rfl, by decide⟩⟩) hS1.2.2 dL_run_25
      · refine vx_catch (own := RL) (name := exn 6) (E := exn 6) hown [⟨0, 8, 11, 13⟩, ⟨0, 8, 14, 15⟩, ⟨0, 8, 17, 17⟩, ⟨0, 8, 20, 19⟩, ⟨0, 8, 23, 21⟩] ⟨0, 8, 26, 23⟩ [] htab ?_ (by decide) (by decide) (hT.use w_ex6 rfl) (hT.use w_cs6 rfl) g1 g2 g3 ?_
        · intro z hz
          simp only [List.mem_cons, List.not_mem_nil, or_false] at hz
          rcases hz with rfl | rfl | rfl | rfl | rfl
          · exact Or.inr ⟨by decide, exn 1, hT.use w_ex1 rfl, hnc 6 1 (by omega) (by omega) (by omega)⟩
          · exact Or.inr ⟨by decide, exn 2, hT.use w_ex2 rfl, hnc 6 2 (by omega) (by omega) (by omega)⟩
          · exact Or.inr ⟨by decide, exn 3, hT.use w_ex3 rfl, hnc 6 3 (by omega) (by omega) (by omega)⟩
          · exact Or.inr ⟨by decide, exn 4, hT.use w_ex4 rfl, hnc 6 4 (by omega) (by omega) (by omega)⟩
          · exact Or.inr ⟨by decide, exn 5, hT.use w_ex5 rfl, hnc 6 5 (by omega) (by omega) (by omega)⟩
        · refine lv_astore_n (lv' := [(2, .ref q), (0, .ref (E.1 0 0)), (1, .ref o)]) hx hb dL_run_26 rfl hl (by decide) rfl (fun ls hl => ?_)
          refine lv_bipush (v := 6) hx hb dL_run_27 (by decide) ?_
          exact W.iret hx hb hrt (fun t ht hW => ⟨6, f, rfl, by rw [ht]; exact hP1, by rw [ht]; exact hPo1, hS1.F ht, Or.inr ⟨6, rfl, by decide⟩⟩) hS1.2.2 dL_run_29
