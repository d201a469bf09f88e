/-! Throwing: contracts of methods that throw, over the judgement. My own. -/
def E_O : String := "java/lang/IndexOutOfBoundsException"
def E_A : String := "java/lang/IllegalArgumentException"
def E_S : String := "java/lang/IllegalStateException"
abbrev e_B (E : String) : List Cond := [Cond.castable E E, .declares (Bundle.initS "java/lang/RuntimeException"), .declares (Bundle.initS "java/lang/Exception"), .declares (Bundle.initS Bundle.tN)]
abbrev e_nm : List String := ["java/lang/RuntimeException", "java/lang/Exception"]
def wx_E (v : wt_V) (U : State) : Prop :=
  v.1.stackTraces = false ∧ (∃ sa, vk_R R_X 113 "no such register" sa U) ∧ (∃ sa, vk_R R_X 118 "no such variable" sa U) ∧ (∃ sa, vk_R R_X 120 "no such level" sa U) ∧ (∃ sa, vk_R R_X 124 "argument out of its range" sa U) ∧ (∃ sa, vk_R R_X 129 "not a set of states" sa U) ∧ vx_Zq Bundle.tN "UNASSIGNED_STACK" Bundle.steD (wt_A v) U U.heap ∧ vx_Zq Bundle.tN "SUPPRESSED_SENTINEL" Bundle.listD (wt_A v) U U.heap ∧ va_Nw (.castable E_O E_O) U ∧ va_Nw (.castable E_A E_A) U ∧ va_Nw (.castable E_S E_S) U ∧ va_Nc E_A E_O U ∧ va_Nc E_S E_O U ∧ va_Nc E_S E_A U ∧ va_Nw (.declares (Bundle.initS "java/lang/RuntimeException")) U ∧ va_Nw (.declares (Bundle.initS "java/lang/Exception")) U ∧ va_Nw (.declares (Bundle.initS Bundle.tN)) U
theorem wx_at {v : wt_V} {s U : State} {H : Heap} {A : Nat → Prop} {locs : List Loc} (h : wx_E v s) (hS : va_S A s.heap H locs) (hA : ∀ q, q < s.heap.size → A q → wt_A v q) (hU : U.heap = H) (hW : s.WarmedH U.vm) : wx_E v U := by
  obtain ⟨h0, ⟨a1, h1⟩, ⟨a2, h2⟩, ⟨a3, h3⟩, ⟨a4, h4⟩, ⟨a5, h5⟩, h6, h7, h8, h9, h10, h11, h12, h13, h14, h15, h16⟩ := h
  have kp : ∀ q : Nat, q < s.heap.size → ¬ wt_A v q → H[q]? = s.heap[q]? := fun q hq hn => hS.2.1 q hq (fun z => hn (hA q hq z))
  refine ⟨h0, ⟨a1, vk_R.warm hW h1⟩, ⟨a2, vk_R.warm hW h2⟩, ⟨a3, vk_R.warm hW h3⟩, ⟨a4, vk_R.warm hW h4⟩, ⟨a5, vk_R.warm hW h5⟩, ?_, ?_, va_Nw.warmC hW h8, va_Nw.warmC hW h9, va_Nw.warmC hW h10, va_Nc.moved hW.alike h11, va_Nc.moved hW.alike h12, va_Nc.moved hW.alike h13, va_Nw.warmD hW h14, va_Nw.warmD hW h15, va_Nw.warmD hW h16⟩
  · rw [hU]; exact vx_Zq.moved hW.alike (h6.kept kp)
  · rw [hU]; exact vx_Zq.moved hW.alike (h7.kept kp)
def xc_ (v : wt_V) (w : wt_W) (E : String) : String → State → State → Prop := fun E' st t => E' = E ∧ va_P v.2.2.1 wt_cl (wt_wo v w) t.heap ∧ va_F (wt_A v) st t
def wt_rx (h : Nat) : Room := { frames := h, cells := 1, slots := 6, locals := 64 * h }
def cx_C (v : wt_V) (y : MethodName) (cw : Cond) (h : Nat) (as : List Value) (w : wt_W) (E : String) : Prop :=
  vx_Met v.1 y (cw :: wt_WS) (wt_rx h) (va_Pc as (fun U => wt_Wd v w U ∧ wx_E v U)) (fun _ _ _ _ => False) (xc_ v w E) 1 6 (wt_A v)
abbrev q_X (z : wt_Z) (w : wt_W) (E : String) : Unit → State → Prop := fun _ => vx_MQ (zz_b z) (fun _ _ _ _ => False) (xc_ (zz_v z) w E) (zz_a z) (zz_s z) 1 6 (wt_A (zz_v z))
theorem wx_blind {v : wt_V} {U : State} {g : JFrame} {mk : MethodId} {a : Array Value} (h : wx_E v U) : wx_E v (U.calling g mk a) := by
  obtain ⟨h0, ⟨a1, h1⟩, ⟨a2, h2⟩, ⟨a3, h3⟩, ⟨a4, h4⟩, ⟨a5, h5⟩, h6, h7, h8, h9, h10, h11, h12, h13, h14, h15, h16⟩ := h
  exact ⟨h0, ⟨a1, vk_R.same rfl h1⟩, ⟨a2, vk_R.same rfl h2⟩, ⟨a3, vk_R.same rfl h3⟩, ⟨a4, vk_R.same rfl h4⟩, ⟨a5, vk_R.same rfl h5⟩, vx_Zq.moved (u := U) (U := U.calling g mk a) (Vm.Alike.refl U.vm) h6, vx_Zq.moved (u := U) (U := U.calling g mk a) (Vm.Alike.refl U.vm) h7, va_Nw.same (u := U) (U := U.calling g mk a) rfl rfl h8, va_Nw.same (u := U) (U := U.calling g mk a) rfl rfl h9, va_Nw.same (u := U) (U := U.calling g mk a) rfl rfl h10, va_Nc.moved (u := U) (U := U.calling g mk a) (Vm.Alike.refl U.vm) h11, va_Nc.moved (u := U) (U := U.calling g mk a) (Vm.Alike.refl U.vm) h12, va_Nc.moved (u := U) (U := U.calling g mk a) (Vm.Alike.refl U.vm) h13, va_Nw.same (u := U) (U := U.calling g mk a) rfl rfl h14, va_Nw.same (u := U) (U := U.calling g mk a) rfl rfl h15, va_Nw.same (u := U) (U := U.calling g mk a) rfl rfl h16⟩
theorem px_blind {v : wt_V} {w : wt_W} {as : List Value} : FrameBlind (va_Pc as (fun U => wt_Wd v w U ∧ wx_E v U)) := fun a U g mk hq => by
  obtain ⟨q0, ⟨qP, qK, qN, qD⟩, qE⟩ := hq
  exact ⟨q0, ⟨qP, va_K.moved (u := U) (U := U.calling g mk a) (Vm.Alike.refl U.vm) qK, fun x hx => va_Nw.same (u := U) (U := U.calling g mk a) rfl rfl (qN x hx), qD⟩, wx_blind qE⟩
theorem wt_gd {w : Cond} (h : goodWord w = true) : wt_ok w = true := by
  rcases good_of_word h with h | ⟨ty, rfl⟩
  · unfold wt_ok; rw [h]; rfl
  · rfl
section TH
variable {z : wt_Z} {own : String} {cc : ByteArray} {nL h pc q : Nat} {rt : Option FieldType} {lv : List (Nat × Value)} {st0 rest : List Value} {w : wt_W} {E : String}
theorem px_at {as : List Value} {H : Heap} {locs : List Loc} (am : wt_Am z own cc nL h rt) (we : wx_E (zz_v z) (zz_s z)) (hP : va_P (zz_v z).2.2.1 wt_cl (wt_wo (zz_v z) w) H) (hS : va_S (wt_A (zz_v z)) (zz_s z).heap H locs) : ∀ U : State, U.heap = H → (zz_s z).WarmedH U.vm → va_Pc as (fun U => wt_Wd (zz_v z) w U ∧ wx_E (zz_v z) U) as.toArray U :=
  fun U hU hW => ⟨rfl, ⟨by rw [hU]; exact hP, va_K.moved hW.alike am.2.2.2.2.2.1, fun x hx => va_Nw.warmM hW (am.2.2.2.2.2.2.1 x hx), am.2.2.2.2.2.2.2.1⟩, wx_at we hS (fun _ _ h => h) hU hW⟩
/-- behind a call that has thrown: it leaves this frame too -/
theorem jt_end {ls : Array Slot} {H : Heap} {locs : List Loc} {T : State} (am : wt_Am z own cc nL h rt) (tab : ∀ x ∈ (zz_c z).exceptionTable.toList, False) (hS : va_S (wt_A (zz_v z)) (zz_s z).heap H locs)
    (hr : (∃ (v : Option Value) (st₀ t T' : State) (L : List Loc), st₀.heap = H ∧ Stand (zz_p z) (zz_v z).1 (zz_e z) (zz_R z) (zz_s z) (zz_m z) (zz_a z) (zz_b z) (zz_t z) (zz_c z) T' (locs ++ L) (0 + 1) (0 + 6) ∧ (∀ q ∈ L, wt_A (zz_v z) q.base) ∧ T'.heap = t.heap ∧ T'.vm = t.vm ∧ False ∧ Goes (zz_p z) (zz_e z) (zz_b z) T (F0 (zz_m z) pc ls st0) T' { F0 (zz_m z) pc ls st0 with pc := (F0 (zz_m z) pc ls st0).pc + 3, stack := v.toList ++ rest }) ∨
    (∃ (q : Addr) (st₀ t T' : State) (L : List Loc) (E' : String) (ce : Cell), st₀.heap = H ∧ Stand (zz_p z) (zz_v z).1 (zz_e z) (zz_R z) (zz_s z) (zz_m z) (zz_a z) (zz_b z) (zz_t z) (zz_c z) T' (locs ++ L) (0 + 1) (0 + 6) ∧ (∀ z' ∈ L, wt_A (zz_v z) z'.base) ∧ T'.heap = t.heap ∧ T'.vm = t.vm ∧ xc_ (zz_v z) w E E' st₀ t ∧ t.heap[q]? = some ce ∧ ce.vm = .none ∧ (zz_s z).vm.findClass E' = some ce.cls ∧
      Steps (zz_p z).tables (zz_e z) (zz_b z) (T.setTop (F0 (zz_m z) pc ls st0)) ((T'.setTop { F0 (zz_m z) pc ls st0 with stack := rest }).pushFrame (.throwing q)))) : ∃ t, Steps (zz_p z).tables (zz_e z) (zz_b z) (T.setTop (F0 (zz_m z) pc ls st0)) t ∧ q_X z w E () t := by
  rcases hr with ⟨v, st₀, t, T', L, h0, X', hL, e1, e2, hF, st⟩ | ⟨q, st₀, t, T', L, E', ce, h0, X', hL, e1, e2, ⟨rfl, hP', hF⟩, hce, hcv, hcl, st⟩
  · exact hF.elim
  · obtain ⟨k1, k2, k3⟩ := vx_keep h0 e1 hS (fun q _ h => h) (fun q h => h) hL hF
    obtain ⟨t2, a1, b1⟩ := vx_out (pc := pc) (ls := ls) (rest := rest) (Qc := fun _ _ _ _ => False) (XC := xc_ (zz_v z) w E') (free := wt_A (zz_v z)) (mc := 1) (ms := 6) (H := T'.heap) (fun x hx => (tab x hx).elim) am.2.2.2.2.2.2.2.2.2.2.1 (by rw [e1]; exact hce) hcv hcl (fun u hu _ => ⟨rfl, by rw [hu, e1]; exact hP', by rw [hu]; exact k3.1, fun q h1 h2 => by rw [hu]; exact k3.2.1 q h1 h2⟩) k3.2.2 (Nat.le_refl _) (Nat.le_refl _) T' rfl X'
    exact ⟨t2, st.trans a1, b1⟩
theorem jt_S {i : Nat} {y : MethodName} {b : ByteArray} {mL n h' : Nat} {rt' : Option FieldType} (as : List Value) (am : wt_Am z own cc nL h rt) (we : wx_E (zz_v z) (zz_s z)) (tab : ∀ x ∈ (zz_c z).exceptionTable.toList, False) (hR : zz_R z = wt_rx h) (L : ln_S own i y b mL n rt') (hc : cx_C (zz_v z) y (Cond.code y b mL rt') h' as w E) (hh : h' + 1 ≤ h) (hn : as.length = n) (hst : as.reverse ++ rest = st0) (hcat : (rest.map fun v => v.category).sum ≤ 8) (d : decode cc pc = .ok (.invokestatic i, 3)) : jj_J z nL pc lv st0 w (q_X z w E) (some ()) := by
  intro r hr H locs ls hP hS hl
  obtain ⟨L1, L2, L3, L5, L6, L7⟩ := L
  have hts := am.2.2.2.2.1
  have hf := am.2.2.2.2.2.2.2.2.1
  have hg := am.2.2.2.2.2.2.2.2.2.1
  have run := vx_runS (p := zz_p z) (e := zz_e z) (below := zz_b z) (meth := zz_t z) (locs := locs) (cells := 0) (slots := 0) (g := F0 (zz_m z) pc ls st0) (As := as) (rest := rest) ⟨am.1, am.2.1, am.2.2.1, am.2.2.2.1, am.2.2.2.2.1⟩ hc ⟨callB_of (R := zz_R z) n hts (wt_good L1) rfl rfl rfl (hts _ L5) (hts _ L2) L6 ⟨show h' + 1 ≤ _ by omega, show 8 + (mL + 11) + 64 * h' ≤ _ by omega⟩, hts _ L3⟩ ⟨px_blind, px_at am we hP hS⟩ rfl hn hl.1 hst.symm (lv_room hcat) d (by rw [hR]; exact ⟨Nat.le_refl _, Nat.le_refl _⟩)
  intro T hT X
  exact jt_end am tab hS (run T hT X)
theorem jt_V {i : Nat} {y : MethodName} {b : ByteArray} {mL n h' rb : Nat} {rt' : Option FieldType} (as : List Value) (am : wt_Am z own cc nL h rt) (we : wx_E (zz_v z) (zz_s z)) (tab : ∀ x ∈ (zz_c z).exceptionTable.toList, False) (hR : zz_R z = wt_rx h) (L : ln_V own i y b mL n rt') (hc : cx_C (zz_v z) y (Cond.code y b mL rt') h' (.ref rb :: as) w E) (hh : h' + 1 ≤ h) (hrec : rc_ z w y.cls rb) (hn : as.length = n) (hst : as.reverse ++ .ref rb :: rest = st0) (hcat : (rest.map fun v => v.category).sum ≤ 8) (d : decode cc pc = .ok (.invokevirtual i, 3)) : jj_J z nL pc lv st0 w (q_X z w E) (some ()) := by
  intro r hr H locs ls hP hS hl
  obtain ⟨L1, L2, L3, L4, L5, L6, L7⟩ := L
  have hts := am.2.2.2.2.1
  have hf := am.2.2.2.2.2.2.2.2.1
  have hg := am.2.2.2.2.2.2.2.2.2.1
  have run := vx_runV (p := zz_p z) (e := zz_e z) (below := zz_b z) (meth := zz_t z) (locs := locs) (cells := 0) (slots := 0) (g := F0 (zz_m z) pc ls st0) (As := as) (rest := rest) ⟨am.1, am.2.1, am.2.2.1, am.2.2.2.1, am.2.2.2.2.1⟩ hc ⟨callB_of (R := zz_R z) n hts (wt_good L1) rfl rfl rfl (hts _ L5) (hts _ L2) L6 ⟨show h' + 1 ≤ _ by omega, show 8 + (mL + 11) + 64 * h' ≤ _ by omega⟩, hts _ L3, hts _ L4⟩ ⟨px_blind, hrec H hP, px_at am we hP hS⟩ rfl hn hl.1 hst.symm (lv_room hcat) d (by rw [hR]; exact ⟨Nat.le_refl _, Nat.le_refl _⟩)
  intro T hT X
  exact jt_end am tab hS (run T hT X)
/-- throw new E("text") -/
theorem jt_new {text : String} {ik is ic : Nat} (am : wt_Am z R_X cc nL h rt) (we : wx_E (zz_v z) (zz_s z)) (tab : ∀ x ∈ (zz_c z).exceptionTable.toList, False) (hR : zz_R z = wt_rx h) (h6 : 6 ≤ h) (hfit : Bundle.fit E = true) (hk : Cond.classLink R_X ik E ∈ wt_WS) (hini : Cond.initialized E ∈ wt_WS) (hstr : ∃ sa, vk_R R_X is text sa (zz_s z)) (hx0 : ∀ w ∈ (vx_atS R_X ic E e_nm).filter goodWord, w ∈ lw_tbl) (hx1 : ∀ w ∈ (vx_atS R_X ic E e_nm).filter (fun w => !goodWord w), w ∈ e_B E) (hcast : va_Nw (.castable E E) (zz_s z)) (hgood : ∀ w ∈ Cond.classLink R_X ik E :: Cond.initialized E :: vx_atS R_X ic E e_nm, vx_ot w = true)
    (d0 : decode cc pc = .ok (.new ik, 3)) (d3 : decode cc (pc + 3) = .ok (.dup, 1)) (d4 : decode cc (pc + 4) = .ok (.ldc is, 2)) (d6 : decode cc (pc + 6) = .ok (.invokespecial ic, 3)) (d9 : decode cc (pc + 9) = .ok (.athrow, 1)) : jj_J z nL pc lv [] w (q_X z w E) (some ()) := by
  intro r hr H locs ls hP hS hl
  have hts := am.2.2.2.2.1
  obtain ⟨sa, hstr⟩ := hstr
  have hf := am.2.2.2.2.2.2.2.2.1
  have hg := am.2.2.2.2.2.2.2.2.2.1
  have hat : ∀ w ∈ vx_atS R_X ic E e_nm, w.before (zz_a z) (zz_s z) = true := vx_hat (fun w hw => hts w (List.mem_filter.mpr ⟨hx0 w hw, wt_gd (List.mem_filter.mp hw).2⟩)) hx1 (vx_c (va_Nw.use rfl hcast) (vx_c (va_Nw.use rfl we.2.2.2.2.2.2.2.2.2.2.2.2.2.2.1) (vx_c (va_Nw.use rfl we.2.2.2.2.2.2.2.2.2.2.2.2.2.2.2.1) (vx_c (va_Nw.use rfl we.2.2.2.2.2.2.2.2.2.2.2.2.2.2.2.2) vx_n))))
  exact vx_throwS am.1 am.2.1 we.1 (own := R_X) (cls := E) (text := text) (names := e_nm) (ik := ik) (is := is) (ic := ic) (sa := sa) (A := wt_A (zz_v z)) am.2.2.2.1 hfit (by decide +kernel) (hts _ hk) (hts _ hini) hstr hat hgood we.2.2.2.2.2.2.1 we.2.2.2.2.2.2.2.1 hS (hl.1.trans am.2.2.1.symm) d0 d3 d4 d6 d9 (fun x hx => (tab x hx).elim) (by rw [hR]; show 2 + 3 < h; omega) (by rw [hR]; show 0 + (13 * (2 + 1) + 43) ≤ 64 * h; omega) (by rw [hR]; exact Nat.le_refl _) (by rw [hR]; exact Nat.le_refl _) am.2.2.2.2.2.2.2.2.2.2.1 (fun t hv hz hk => ⟨rfl, fun k q hq => (hP k q hq).kept (hk _ ((hP k q hq).lt)), Nat.le_trans hS.1 hz, fun q h1 h2 => by rw [hk q (Nat.lt_of_lt_of_le h1 hS.1)]; exact hS.2.1 q h1 h2⟩) hS.2.2 (Nat.le_refl _) (Nat.le_refl _)
end TH
theorem cx_of {v : wt_V} {y : MethodName} {cc : ByteArray} {nL h : Nat} {rt : Option FieldType} {as : List Value} {lv : List (Nat × Value)} {w : wt_W} {E : String} (hy : plainName y.cls = true) (hn : (lg_sl as).length ≤ nL) (hl : lv_args 0 as = lv) (body : ∀ z : wt_Z, zz_v z = v → wt_Am z y.cls cc nL h rt → wx_E v (zz_s z) → (∀ x ∈ (zz_c z).exceptionTable.toList, False) → zz_R z = wt_rx h → jj_J z nL 0 lv [] w (q_X z w E) (some ())) : cx_C v y (Cond.code y cc nL rt) h as w E := by
  subst hl
  refine vx_ofW (cc := cc) (maxL := nL) (ret := rt) hy rfl ?_
  intro p e s m args below meth c s₁ B hml htab hv
  obtain ⟨rfl, ⟨hP, hK, hN, hD⟩, hE⟩ := hv
  have hts := atoms_spec (ws := Cond.code y cc nL rt :: wt_WS) B.pre
  have hb := body (p, e, wt_rx h, s, m, as.toArray, below, meth, c, v) rfl ⟨B.exec, B.bytes, hml, findClass_of_methodNamed B.named, fun w hw => hts w (List.mem_cons_of_mem _ hw), hK, hN, hD, Nat.le_refl _, Nat.le_refl _, B.notSynchronized, B.returns⟩ hE htab rfl () rfl s.heap [] _ hP va_S.rf (lv_entry as hn)
  rw [lg_entry_eq]
  exact hb
