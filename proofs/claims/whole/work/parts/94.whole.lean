/-! The law from its entry. Printed in part by wip/gen/tail.py. My own. -/
theorem tc_O : Cond.castable E_O E_O ∈ lw_tbl := List.mem_of_getElem? (i := 164) (by decide +kernel)
theorem tc_A : Cond.castable E_A E_A ∈ lw_tbl := List.mem_of_getElem? (i := 282) (by decide +kernel)
theorem tc_S : Cond.castable E_S E_S ∈ lw_tbl := List.mem_of_getElem? (i := 510) (by decide +kernel)
theorem td_R : Cond.declares (Bundle.initS "java/lang/RuntimeException") ∈ lw_tbl := List.mem_of_getElem? (i := 166) (by decide +kernel)
theorem td_E : Cond.declares (Bundle.initS "java/lang/Exception") ∈ lw_tbl := List.mem_of_getElem? (i := 168) (by decide +kernel)
theorem td_T : Cond.declares (Bundle.initS Bundle.tN) ∈ lw_tbl := List.mem_of_getElem? (i := 170) (by decide +kernel)
theorem tr_113 : Cond.stringRef R_X 113 "no such register" ∈ lw_tbl := List.mem_of_getElem? (i := 203) (by decide +kernel)
theorem tr_118 : Cond.stringRef R_X 118 "no such variable" ∈ lw_tbl := List.mem_of_getElem? (i := 233) (by decide +kernel)
theorem tr_120 : Cond.stringRef R_X 120 "no such level" ∈ lw_tbl := List.mem_of_getElem? (i := 453) (by decide +kernel)
theorem tr_124 : Cond.stringRef R_X 124 "argument out of its range" ∈ lw_tbl := List.mem_of_getElem? (i := 289) (by decide +kernel)
theorem tr_129 : Cond.stringRef R_X 129 "not a set of states" ∈ lw_tbl := List.mem_of_getElem? (i := 517) (by decide +kernel)
theorem ts_0 : Cond.laysStatic Bundle.tN "UNASSIGNED_STACK" Bundle.steD ∈ lw_tbl := List.mem_of_getElem? (i := 189) (by decide +kernel)
theorem ts_1 : Cond.laysStatic Bundle.tN "SUPPRESSED_SENTINEL" Bundle.listD ∈ lw_tbl := List.mem_of_getElem? (i := 191) (by decide +kernel)
theorem ti_T : Cond.initialized Bundle.tN ∈ lw_tbl := List.mem_of_getElem? (i := 50) (by decide +kernel)
theorem tn_all : ∀ q ∈ wt_nest, Cond.methodLinkNest q.1 q.2.1 q.2.2.1 q.2.2.2 ∈ lw_tbl := by decide +kernel
theorem ex_str {b k : Nat} {s : State} {args : Array Value} {tx : String} (h1 : (Cond.stringRef R_X k tx).before args s = true) (h2 : (Cond.exactly (.string R_X k) "java/lang/String").before args s = true) : ∃ sa, vk_R R_X k tx sa s := by
  obtain ⟨a, c, cell, kk, e1, -⟩ := Cond.exactly_spec h2
  exact ⟨a, vk_R.of h1 e1⟩
theorem dj_of {v : wt_V} {A : Nat → Prop} {w0 : wt_W} (h : va_D A (wt_wo v w0)) : wt_Dj v := by
  intro w
  have e : ∀ (w1 : wt_W) (i : Nat) (p : Nat × va_E), (wt_wo v w1)[i]? = some p → i < 22 ∧ p.1 = v.2.1 i := by
    intro w1 i p hp
    have hi : i < 22 := (List.getElem?_eq_some_iff.mp hp).1
    refine ⟨hi, ?_⟩
    have h2 : ((wt_wo v w1).map Prod.fst)[i]? = some p.1 := by rw [List.getElem?_map, hp]; rfl
    rw [show (wt_wo v w1).map Prod.fst = (List.range 22).map v.2.1 from rfl, List.getElem?_map, List.getElem?_range hi] at h2
    exact (Option.some.inj h2).symm
  have at_ : ∀ i, i < 22 → ∃ p, (wt_wo v w0)[i]? = some p := fun i hi => ⟨_, List.getElem?_eq_getElem (show i < (wt_wo v w0).length from hi)⟩
  refine ⟨fun i j p q hp hq hpq => ?_, fun k q hk => ⟨k, (e w k q hk).1, (e w k q hk).2⟩⟩
  obtain ⟨i1, i2⟩ := e w i p hp
  obtain ⟨j1, j2⟩ := e w j q hq
  obtain ⟨p0, hp0⟩ := at_ i i1
  obtain ⟨q0, hq0⟩ := at_ j j1
  exact h.1 i j p0 q0 hp0 hq0 (by rw [(e w0 i p0 hp0).2, (e w0 j q0 hq0).2, ← i2, ← j2]; exact hpq)
theorem wA_of {v : wt_V} {A : Nat → Prop} {w0 : wt_W} (h : va_D A (wt_wo v w0)) : ∀ q, wt_A v q → A q := by
  rintro q ⟨k, hk, rfl⟩
  have hp : (wt_wo v w0)[k]? = some ((wt_wo v w0)[k]'hk) := List.getElem?_eq_getElem (show k < (wt_wo v w0).length from hk)
  have h2 : ((wt_wo v w0).map Prod.fst)[k]? = some ((wt_wo v w0)[k]'hk).1 := by rw [List.getElem?_map, hp]; rfl
  rw [show (wt_wo v w0).map Prod.fst = (List.range 22).map v.2.1 from rfl, List.getElem?_map, List.getElem?_range hk] at h2
  have h3 := h.2 k _ hp
  rw [← Option.some.inj h2] at h3
  exact h3
theorem ar_of {s : State} {args : Array Value} {ty : FieldType} (h : (Cond.arrayClass ty).before args s = true) : ∃ cA, ArrOfT s cA ty ∧ s.vm.findClass ("[" ++ ty.toString) = some cA := by
  obtain ⟨cA, kA, comp, h1, h2, h3⟩ := Cond.arrayClass_spec h
  exact ⟨cA, fun n z => ⟨fun k h => (by cases h), kA, h2, comp, h3⟩, h1⟩
theorem wx_start {l : Launch} {s : State} {b : Nat} {v : wt_V} (hv : v.1 = l) (htr : l.stackTraces = false) (hT : ∀ w ∈ lw_tbl, w.before #[Value.ref b] s = true) (hgv : (Jvm.Cond.and given_1 narrow_1).before #[Value.ref b] s = true) (hA : ∀ q, wt_A v q → s.heap.size ≤ q) : wx_E v s := by
  have hs := flat_of_before _ hgv
  have hn : ∀ a : Nat, a < s.heap.size → ¬ wt_A v a := fun a h z => absurd (hA a z) (Nat.not_le.mpr h)
  have nw : ∀ w : Cond, w ∈ lw_tbl → w.onTables = true → va_Nw w s := fun w hw ho => va_tabs ho rfl (hT w hw)
  subst hv
  refine ⟨htr, ex_str (b := b) (hT _ tr_113) (hs _ (by decide +kernel)), ex_str (b := b) (hT _ tr_118) (hs _ (by decide +kernel)), ex_str (b := b) (hT _ tr_120) (hs _ (by decide +kernel)), ex_str (b := b) (hT _ tr_124) (hs _ (by decide +kernel)), ex_str (b := b) (hT _ tr_129) (hs _ (by decide +kernel)), vx_Zqof (hT _ ts_0) (hT _ ti_T) (hs _ (by decide +kernel)) hn, vx_Zqof (hT _ ts_1) (hT _ ti_T) (hs _ (by decide +kernel)) hn, nw _ tc_O rfl, nw _ tc_A rfl, nw _ tc_S rfl, va_Nc.of (hs _ (by decide +kernel)), va_Nc.of (hs _ (by decide +kernel)), va_Nc.of (hs _ (by decide +kernel)), nw _ td_R rfl, nw _ td_E rfl, nw _ td_T rfl⟩
set_option maxHeartbeats 4000000 in
set_option maxRecDepth 100000 in
theorem whole_start {p : Program} {e : Env} {s : State} {m : MethodId} {below : List Frame} {meth : Method} {c : Code} (l : Launch) (htr : l.stackTraces = false) {b L : Nat} {xs : Nat → Int32} (hL : L ≤ 3072) (C0 : lw_At p s m meth c b L xs) : W p l e room_1 s m #[Value.ref b] below meth c s.heap [] 0 0 (lw_Z below #[Value.ref b] s) (entryFrame m ([Value.ref b] : List Value).toArray 7) := by
  obtain ⟨hx, hb, hr, hml, hown, hT, hX, hbl, hlk, hgv⟩ := C0
  have hown : s.vm.findClass R_L = some m.cls := hown
  have hts : ∀ w ∈ wt_WS, w.before #[Value.ref b] s = true := fun w hw => hT w (List.mem_filter.mp hw).1
  obtain ⟨cX, iX, kX⟩ := u_known hts in_X (hts _ mq_X)
  obtain ⟨cD, iD, kD⟩ := u_known hts in_D (hts _ mq_D)
  obtain ⟨cM, iM, kM⟩ := u_known hts in_M (hts _ mq_M)
  obtain ⟨cI, aI, fI⟩ := ar_of (hts _ ma_int)
  obtain ⟨cZ, aZ, fZ⟩ := ar_of (hts _ ma_boolean)
  obtain ⟨cJ, aJ, fJ⟩ := ar_of (hts _ ma_long)
  obtain ⟨G, hG⟩ : ∃ G : va_G, G = (fun c => match c with | 0 => cX | 1 => cD | _ => cM, fun c => match c with | 0 => iX | 1 => iD | _ => iM) := ⟨_, rfl⟩
  have hK : va_K G wt_cl (i9_ty cI cZ cJ) s := by
    rw [hG]
    refine ⟨fun c q hq => ?_, fun k q hq => ?_⟩
    · match c, hq with
      | 0, hq => cases hq; exact kX
      | 1, hq => cases hq; exact kD
      | 2, hq => cases hq; exact kM
      | c + 3, hq => cases hq
    · match k, hq with
      | 0, hq => cases hq; exact ⟨aI, fI⟩
      | 1, hq => cases hq; exact ⟨aZ, fZ⟩
      | 2, hq => cases hq; exact ⟨aJ, fJ⟩
      | k + 3, hq => cases hq
  have hA : ∀ q : Nat, s.heap.size ≤ q → (fun q => s.heap.size ≤ q) q := fun q h => h
  have hP : va_P G wt_cl [] s.heap := fun k q h => by cases h
  have hD : va_D (fun q => s.heap.size ≤ q) [] := ⟨fun i j p q h => (by cases h), fun k q h => (by cases h)⟩
  have hS : va_S (fun q => s.heap.size ≤ q) s.heap s.heap [] := va_S.rf
  have hl := lv_entry ([.ref b]) (n := 7) (Nat.le_of_ble_eq_true rfl)
  rw [lg_entry_eq]
  generalize (lg_sl ([.ref b]) ++ List.replicate (7 - (lg_sl ([.ref b])).length) Slot.unset).toArray = ls at hl ⊢
  have hl : lv_has ls 7 [(0, .ref b)] := hl
  refine va_new (ci := 0) (fs := [.null]) (C := R_X) (T := F_X) (N := 1) hx hb hts in_X ty_X ty_X_ok hown (hts _ mk_L_X) (hts _ mq_X) (hts _ mi_X) hK hP hD hS hA rfl (fun j hj => by rcases (show j = 0 by omega) with rfl; rfl) (Nat.le_of_ble_eq_true rfl) (Nat.le_of_ble_eq_true rfl) dw_0 (fun q0 H hP hD hS => ?_)
  have hP : va_P G wt_cl [(q0, .inr (0, [.null]))] H := hP
  have hD : va_D (fun q => s.heap.size ≤ q) [(q0, .inr (0, [.null]))] := hD
  refine W.widen (k := 1) (n := 1) (by omega) (by omega) ?_
  refine lv_dup hx hb dw_3 rfl ?_
  have hFc := va_free (wc := [(q0, .inr (0, [.null]))]) hD hS hA [0] rfl
  refine va_callv (va_runI (As := []) (rest := [.ref q0]) ⟨hx, hb, hml, hown, hts⟩ (c_X l G cI cZ cJ q0 H.size) (cwI 0 hts (wt_good mc_x_init) rfl rfl rfl (hts _ mi_X) (hts _ ml_L_x_init) (hts _ mn_x_init) rfl (by decide +kernel) ⟨Nat.le_of_ble_eq_true rfl, Nat.le_of_ble_eq_true rfl⟩) ⟨i9_bl, fun U hU hW => ⟨rfl, by rw [hU], by rw [hU]; exact hP, va_K.moved hW.alike hK, hD.weaken (fun _ _ _ _ => trivial)⟩⟩ rfl rfl hl.1 rfl (lv_room (Nat.le_of_ble_eq_true rfl)) dw_4 ⟨Nat.le_of_ble_eq_true rfl, Nat.le_of_ble_eq_true rfl⟩) hS (fun q _ h => hFc q h) hFc (fun f t H1 locs ht hvm hf hB hz1 hk1 hS => ?_)
  obtain ⟨hP1, hD1⟩ := hB
  rw [ht] at hP1
  obtain ⟨hP, hD⟩ := va_join (wr := []) (w1 := (f 0, .inr (0, [.ref (f 1)])) :: i9_D cI cZ f i0_id i0_lv i0_lb) hP hD [0] [] rfl rfl (by decide) (by decide) hk1 hFc hP1 hD1
  generalize H1 = H at hP hS ⊢
  have hP : va_P G wt_cl ((f 0, .inr (0, [.ref (f 1)])) :: i9_D cI cZ f i0_id i0_lv i0_lb) H := hP
  have hD : va_D (fun q => s.heap.size ≤ q) ((f 0, .inr (0, [.ref (f 1)])) :: i9_D cI cZ f i0_id i0_lv i0_lb) := hD
  refine W.widen (k := 11) (n := 10546) (by omega) (by omega) ?_
  refine lv_astore_n hx hb dw_7 rfl hl (by decide) rfl (fun ls h2 => ?_)
  have hl : lv_has ls 7 [(0, .ref b), (1, .ref q0)] := lv_sub h2 [1, 0] rfl
  refine va_new (ci := 2) (fs := i9_nM) (C := R_M) (T := F_M) (N := 13) hx hb hts in_M ty_M ty_M_ok hown (hts _ mk_L_M) (hts _ mq_M) (hts _ mi_M) hK hP hD hS hA rfl (fun j hj => by rcases (show j = 0 ∨ j = 1 ∨ j = 2 ∨ j = 3 ∨ j = 4 ∨ j = 5 ∨ j = 6 ∨ j = 7 ∨ j = 8 ∨ j = 9 ∨ j = 10 ∨ j = 11 ∨ j = 12 by omega) with rfl | rfl | rfl | rfl | rfl | rfl | rfl | rfl | rfl | rfl | rfl | rfl | rfl <;> rfl) (Nat.le_of_ble_eq_true rfl) (Nat.le_of_ble_eq_true rfl) dw_8 (fun q11 H hP hD hS => ?_)
  refine W.widen (k := 12) (n := 10559) (by omega) (by omega) ?_
  refine lv_dup hx hb dw_11 rfl ?_
  have hPc := hP.sub (ws' := [(q11, .inr (2, i9_nM))]) [11] rfl
  have hDc := hD.sub (ws' := [(q11, .inr (2, i9_nM))]) [11] (by decide) rfl
  have hFc := va_free (wc := [(q11, .inr (2, i9_nM))]) hD hS hA [11] rfl
  refine va_callv (va_runI (As := []) (rest := [.ref q11]) ⟨hx, hb, hml, hown, hts⟩ (c_M l G cI cZ cJ q11 H.size) (cwI 0 hts (wt_good mc_m_init) rfl rfl rfl (hts _ mi_M) (hts _ ml_L_m_init) (hts _ mn_m_init) rfl (by decide +kernel) ⟨Nat.le_of_ble_eq_true rfl, Nat.le_of_ble_eq_true rfl⟩) ⟨i9_bl, fun U hU hW => ⟨rfl, by rw [hU], by rw [hU]; exact hPc, va_K.moved hW.alike hK, hDc.weaken (fun _ _ _ _ => trivial)⟩⟩ rfl rfl hl.1 rfl (lv_room (Nat.le_of_ble_eq_true rfl)) dw_12 ⟨Nat.le_of_ble_eq_true rfl, Nat.le_of_ble_eq_true rfl⟩) hS (fun q _ h => hFc q h) hFc (fun g t H1 locs ht hvm hg hB hz1 hk1 hS => ?_)
  obtain ⟨hP1, hD1⟩ := hB
  rw [ht] at hP1
  obtain ⟨hP, hD⟩ := va_join (wr := (f 0, .inr (0, [.ref (f 1)])) :: i9_D cI cZ f i0_id i0_lv i0_lb) (w1 := i9_M cI cJ g i0_id i0_mk) hP hD [11] [0, 1, 2, 3, 4, 5, 6, 7, 8, 9, 10] rfl rfl (by decide) (by decide) hk1 hFc hP1 hD1
  generalize H1 = H at hP hS ⊢
  refine W.widen (k := 21) (n := 38669) (by omega) (by omega) ?_
  refine lv_astore_n hx hb dw_15 rfl hl (by decide) rfl (fun ls h2 => ?_)
  have hl : lv_has ls 7 [(0, .ref b), (1, .ref q0), (2, .ref q11)] := lv_sub h2 [1, 2, 0] rfl
  refine lv_iconst hx hb dw_16 ki_1 ?_
  refine nw_a (atype := .long) (ty := .long) (N' := 1) (a0 := (1, .inr (.inl (fun _ => 0)))) hx hb (hts _ ma_long) rfl hK 2 rfl (fun _ h => h) hP hD hS hA (fun _ => rfl) (by decide) (by decide) (by decide) (Nat.le_of_ble_eq_true rfl) (Nat.le_of_ble_eq_true rfl) dw_17 (fun q21 H hP hD hS => ?_)
  refine W.widen (k := 22) (n := 38670) (by omega) (by omega) ?_
  refine lv_astore_n hx hb dw_19 rfl hl (by decide) rfl (fun ls h2 => ?_)
  have hl : lv_has ls 7 [(0, .ref b), (1, .ref q0), (2, .ref q11), (3, .ref q21)] := lv_sub h2 [1, 2, 3, 0] rfl
  refine lv_iconst hx hb dw_20 ki_0 ?_
  refine lv_istore hx hb dw_21 hl (by decide) rfl (fun ls h2 => ?_)
  have hl : lv_has ls 7 [(0, .ref b), (1, .ref q0), (2, .ref q11), (3, .ref q21), (4, .int 0)] := lv_sub h2 [1, 2, 3, 4, 0] rfl
  obtain ⟨v, hv⟩ : ∃ v : wt_V, v = (l, (fun k => if k < 11 then f k else if k < 21 then g k else q21), G, fun k => match k with | 0 => cI | 1 => cZ | _ => cJ) := ⟨_, rfl⟩
  have hPw : va_P G wt_cl (wt_wo v (i0_s, i0_t, fun _ => 0)) H := by
    rw [hv]
    exact hP.sub [0, 1, 2, 3, 4, 5, 6, 7, 8, 9, 10, 11, 13, 14, 16, 17, 18, 20, 12, 15, 19, 21] rfl
  have hDw : va_D (fun q => s.heap.size ≤ q) (wt_wo v (i0_s, i0_t, fun _ => 0)) := by
    rw [hv]
    exact hD.sub [0, 1, 2, 3, 4, 5, 6, 7, 8, 9, 10, 11, 13, 14, 16, 17, 18, 20, 12, 15, 19, 21] (by decide) rfl
  have hlv : lv_has ls 7 [(0, .ref b), (1, .ref (v.2.1 0)), (2, .ref (v.2.1 11)), (3, .ref (v.2.1 21)), (4, .int (nI (6 * 0)))] := by
    rw [hv]
    rw [← hf, ← hg] at hl
    exact hl
  have h1v : v.1 = l := by rw [hv]
  have h3v : v.2.2.1 = G := by rw [hv]
  have htv : wt_tys v = i9_ty cI cZ cJ := (congrArg (fun v => wt_tys v) hv).trans rfl
  have hKv : va_K v.2.2.1 wt_cl (wt_tys v) s := by rw [h3v, htv]; exact hK
  have hNX : wt_NX s := fun q hq => va_tabs rfl rfl (hT _ (tn_all q hq))
  have hAv := wA_of hDw
  have hE := wx_start h1v htr hT hgv hAv
  have hPv : va_P v.2.2.1 wt_cl (wt_wo v (i0_s, i0_t, fun _ => 0)) H := by rw [h3v]; exact hPw
  clear hPw hP hD hK htv h3v hv
  subst h1v
  have am : wt_Am (p, e, room_1, s, m, #[Value.ref b], below, meth, c, v) R_L code 7 60 ret := ⟨hx, hb, hml, hown, hts, hKv, hNX, dj_of hDw, show 60 ≤ room_1.frames by decide, show 64 * 60 ≤ room_1.locals by decide, hlk, hr⟩
  have lw : jw_L (p, e, room_1, s, m, #[Value.ref b], below, meth, c, v) b L xs := ⟨hX, hbl, hE, hAv⟩
  refine lw_loop (Q := lw_Z below #[Value.ref b] s) am lw hL (fun c2 n2 lv w h1 h2 H locs ls hP hS hh => lv_iconst hx hb dw_1682 ki_1 (W.widen h1 h2 (va_forget hS.2.2 (lw_ret hx hb hr hlk dw_1683)))) 512 0 22 38670 i0_s i0_t (fun _ => 0) (by decide) (by omega) (show 22 + 512 ≤ room_1.cells by decide) (show 38670 + 6 * 512 ≤ room_1.slots by decide) i0_ok H _ ls hPv hS hlv
