/-! What the class throws: printed by wip/gen/xthrow.py out of the printed walks. My own. -/
theorem xk_O : Cond.classLink R_X 111 E_O ∈ wt_WS := List.mem_filter.mpr ⟨by decide +kernel, by decide +kernel⟩
theorem xi_O : Cond.initialized E_O ∈ wt_WS := List.mem_filter.mpr ⟨by decide +kernel, by decide +kernel⟩
theorem x0_O : ∀ w ∈ (vx_atS R_X 115 E_O e_nm).filter goodWord, w ∈ lw_tbl := by decide +kernel
theorem x1_O : ∀ w ∈ (vx_atS R_X 115 E_O e_nm).filter (fun w => !goodWord w), w ∈ e_B E_O := by decide +kernel
theorem xg_O : ∀ w ∈ Cond.classLink R_X 111 E_O :: Cond.initialized E_O :: vx_atS R_X 115 E_O e_nm, vx_ot w = true := by decide +kernel
theorem xf_O : Bundle.fit E_O = true := by decide +kernel
theorem xk_A : Cond.classLink R_X 122 E_A ∈ wt_WS := List.mem_filter.mpr ⟨by decide +kernel, by decide +kernel⟩
theorem xi_A : Cond.initialized E_A ∈ wt_WS := List.mem_filter.mpr ⟨by decide +kernel, by decide +kernel⟩
theorem x0_A : ∀ w ∈ (vx_atS R_X 126 E_A e_nm).filter goodWord, w ∈ lw_tbl := by decide +kernel
theorem x1_A : ∀ w ∈ (vx_atS R_X 126 E_A e_nm).filter (fun w => !goodWord w), w ∈ e_B E_A := by decide +kernel
theorem xg_A : ∀ w ∈ Cond.classLink R_X 122 E_A :: Cond.initialized E_A :: vx_atS R_X 126 E_A e_nm, vx_ot w = true := by decide +kernel
theorem xf_A : Bundle.fit E_A = true := by decide +kernel
theorem xk_S : Cond.classLink R_X 127 E_S ∈ wt_WS := List.mem_filter.mpr ⟨by decide +kernel, by decide +kernel⟩
theorem xi_S : Cond.initialized E_S ∈ wt_WS := List.mem_filter.mpr ⟨by decide +kernel, by decide +kernel⟩
theorem x0_S : ∀ w ∈ (vx_atS R_X 131 E_S e_nm).filter goodWord, w ∈ lw_tbl := by decide +kernel
theorem x1_S : ∀ w ∈ (vx_atS R_X 131 E_S e_nm).filter (fun w => !goodWord w), w ∈ e_B E_S := by decide +kernel
theorem xg_S : ∀ w ∈ Cond.classLink R_X 127 E_S :: Cond.initialized E_S :: vx_atS R_X 131 E_S e_nm, vx_ot w = true := by decide +kernel
theorem xf_S : Bundle.fit E_S = true := by decide +kernel
theorem dx_needRegister_10 : decode bx_needRegister 10 = .ok (.new 111, 3) := by decide +kernel
theorem dx_needRegister_13 : decode bx_needRegister 13 = .ok (.dup, 1) := by decide +kernel
theorem dx_needRegister_14 : decode bx_needRegister 14 = .ok (.ldc 113, 2) := by decide +kernel
theorem dx_needRegister_16 : decode bx_needRegister 16 = .ok (.invokespecial 115, 3) := by decide +kernel
theorem dx_needRegister_19 : decode bx_needRegister 19 = .ok (.athrow, 1) := by decide +kernel
set_option maxHeartbeats 4000000 in
theorem cn_needRegister {v : wt_V} {a1 : Int32} (w : wt_W) (hF : fx_needRegister a1 = none) : cx_C v yx_needRegister (Cond.code yx_needRegister bx_needRegister 1 none) 6 [.int a1] w E_O := by
  refine cx_of (lv := [(0, .int a1)]) (by decide) (Nat.le_of_ble_eq_true rfl) rfl ?_
  intro z hz am we tab hR
  subst hz
  have am : wt_Am z R_X bx_needRegister 1 6 none := am
  have e : (some () : Option Unit) = if a1 < 0 then some () else if a1 < (16 : Int32) then none else some () := by
    unfold fx_needRegister at hF
    dsimp only [jn_] at hF
    by_cases c1 : a1 < 0
    · rw [if_pos c1]
    · rw [if_neg c1] at hF ⊢
      by_cases c2 : a1 < (16 : Int32)
      · rw [if_pos c2] at hF; cases hF
      · rw [if_neg c2]
  rw [e]
  refine ji_iload_n (q := 1) am dx_needRegister_0 rfl 0 rfl rfl ?_
  refine ji_if_lt (q := 4) (g := 10) am dx_needRegister_1 rfl rfl ?_ ?_
  · exact jt_new am we tab hR (by decide) xf_O xk_O xi_O we.2.1 x0_O x1_O we.2.2.2.2.2.2.2.2.1 xg_O dx_needRegister_10 dx_needRegister_13 dx_needRegister_14 dx_needRegister_16 dx_needRegister_19
  · refine ji_iload_n (q := 5) am dx_needRegister_4 rfl 0 rfl rfl ?_
    refine ji_bipush (q := 7) am dx_needRegister_5 kb_16 rfl ?_
    refine ji_icmp_lt (q := 10) (g := 20) am dx_needRegister_7 rfl rfl ?_ ?_
    · exact ji_none
    · exact jt_new am we tab hR (by decide) xf_O xk_O xi_O we.2.1 x0_O x1_O we.2.2.2.2.2.2.2.2.1 xg_O dx_needRegister_10 dx_needRegister_13 dx_needRegister_14 dx_needRegister_16 dx_needRegister_19
theorem dx_needVariable_10 : decode bx_needVariable 10 = .ok (.new 111, 3) := by decide +kernel
theorem dx_needVariable_13 : decode bx_needVariable 13 = .ok (.dup, 1) := by decide +kernel
theorem dx_needVariable_14 : decode bx_needVariable 14 = .ok (.ldc 118, 2) := by decide +kernel
theorem dx_needVariable_16 : decode bx_needVariable 16 = .ok (.invokespecial 115, 3) := by decide +kernel
theorem dx_needVariable_19 : decode bx_needVariable 19 = .ok (.athrow, 1) := by decide +kernel
set_option maxHeartbeats 4000000 in
theorem cn_needVariable {v : wt_V} {a1 : Int32} (w : wt_W) (hF : fx_needVariable a1 = none) : cx_C v yx_needVariable (Cond.code yx_needVariable bx_needVariable 1 none) 6 [.int a1] w E_O := by
  refine cx_of (lv := [(0, .int a1)]) (by decide) (Nat.le_of_ble_eq_true rfl) rfl ?_
  intro z hz am we tab hR
  subst hz
  have am : wt_Am z R_X bx_needVariable 1 6 none := am
  have e : (some () : Option Unit) = if a1 < 0 then some () else if a1 < (8 : Int32) then none else some () := by
    unfold fx_needVariable at hF
    dsimp only [jn_] at hF
    by_cases c1 : a1 < 0
    · rw [if_pos c1]
    · rw [if_neg c1] at hF ⊢
      by_cases c2 : a1 < (8 : Int32)
      · rw [if_pos c2] at hF; cases hF
      · rw [if_neg c2]
  rw [e]
  refine ji_iload_n (q := 1) am dx_needVariable_0 rfl 0 rfl rfl ?_
  refine ji_if_lt (q := 4) (g := 10) am dx_needVariable_1 rfl rfl ?_ ?_
  · exact jt_new am we tab hR (by decide) xf_O xk_O xi_O we.2.2.1 x0_O x1_O we.2.2.2.2.2.2.2.2.1 xg_O dx_needVariable_10 dx_needVariable_13 dx_needVariable_14 dx_needVariable_16 dx_needVariable_19
  · refine ji_iload_n (q := 5) am dx_needVariable_4 rfl 0 rfl rfl ?_
    refine ji_bipush (q := 7) am dx_needVariable_5 kb_8 rfl ?_
    refine ji_icmp_lt (q := 10) (g := 20) am dx_needVariable_7 rfl rfl ?_ ?_
    · exact ji_none
    · exact jt_new am we tab hR (by decide) xf_O xk_O xi_O we.2.2.1 x0_O x1_O we.2.2.2.2.2.2.2.2.1 xg_O dx_needVariable_10 dx_needVariable_13 dx_needVariable_14 dx_needVariable_16 dx_needVariable_19
theorem dx_needLevel_9 : decode bx_needLevel 9 = .ok (.new 111, 3) := by decide +kernel
theorem dx_needLevel_12 : decode bx_needLevel 12 = .ok (.dup, 1) := by decide +kernel
theorem dx_needLevel_13 : decode bx_needLevel 13 = .ok (.ldc 120, 2) := by decide +kernel
theorem dx_needLevel_15 : decode bx_needLevel 15 = .ok (.invokespecial 115, 3) := by decide +kernel
theorem dx_needLevel_18 : decode bx_needLevel 18 = .ok (.athrow, 1) := by decide +kernel
set_option maxHeartbeats 4000000 in
theorem cn_needLevel {v : wt_V} {a1 a2 : Int32} (w : wt_W) (hF : fx_needLevel a1 a2 = none) : cx_C v yx_needLevel (Cond.code yx_needLevel bx_needLevel 2 none) 6 [.int a1, .int a2] w E_O := by
  refine cx_of (lv := [(0, .int a1), (1, .int a2)]) (by decide) (Nat.le_of_ble_eq_true rfl) rfl ?_
  intro z hz am we tab hR
  subst hz
  have am : wt_Am z R_X bx_needLevel 2 6 none := am
  have e : (some () : Option Unit) = if a1 < 0 then some () else if a1 < a2 then none else some () := by
    unfold fx_needLevel at hF
    dsimp only [jn_] at hF
    by_cases c1 : a1 < 0
    · rw [if_pos c1]
    · rw [if_neg c1] at hF ⊢
      by_cases c2 : a1 < a2
      · rw [if_pos c2] at hF; cases hF
      · rw [if_neg c2]
  rw [e]
  refine ji_iload_n (q := 1) am dx_needLevel_0 rfl 0 rfl rfl ?_
  refine ji_if_lt (q := 4) (g := 9) am dx_needLevel_1 rfl rfl ?_ ?_
  · exact jt_new am we tab hR (by decide) xf_O xk_O xi_O we.2.2.2.1 x0_O x1_O we.2.2.2.2.2.2.2.2.1 xg_O dx_needLevel_9 dx_needLevel_12 dx_needLevel_13 dx_needLevel_15 dx_needLevel_18
  · refine ji_iload_n (q := 5) am dx_needLevel_4 rfl 0 rfl rfl ?_
    refine ji_iload_n (q := 6) am dx_needLevel_5 rfl 1 rfl rfl ?_
    refine ji_icmp_lt (q := 9) (g := 19) am dx_needLevel_6 rfl rfl ?_ ?_
    · exact ji_none
    · exact jt_new am we tab hR (by decide) xf_O xk_O xi_O we.2.2.2.1 x0_O x1_O we.2.2.2.2.2.2.2.2.1 xg_O dx_needLevel_9 dx_needLevel_12 dx_needLevel_13 dx_needLevel_15 dx_needLevel_18
theorem dx_needBelow_9 : decode bx_needBelow 9 = .ok (.new 122, 3) := by decide +kernel
theorem dx_needBelow_12 : decode bx_needBelow 12 = .ok (.dup, 1) := by decide +kernel
theorem dx_needBelow_13 : decode bx_needBelow 13 = .ok (.ldc 124, 2) := by decide +kernel
theorem dx_needBelow_15 : decode bx_needBelow 15 = .ok (.invokespecial 126, 3) := by decide +kernel
theorem dx_needBelow_18 : decode bx_needBelow 18 = .ok (.athrow, 1) := by decide +kernel
set_option maxHeartbeats 4000000 in
theorem cn_needBelow {v : wt_V} {a1 a2 : Int32} (w : wt_W) (hF : fx_needBelow a1 a2 = none) : cx_C v yx_needBelow (Cond.code yx_needBelow bx_needBelow 2 none) 6 [.int a1, .int a2] w E_A := by
  refine cx_of (lv := [(0, .int a1), (1, .int a2)]) (by decide) (Nat.le_of_ble_eq_true rfl) rfl ?_
  intro z hz am we tab hR
  subst hz
  have am : wt_Am z R_X bx_needBelow 2 6 none := am
  have e : (some () : Option Unit) = if a1 < 0 then some () else if a1 < a2 then none else some () := by
    unfold fx_needBelow at hF
    dsimp only [jn_] at hF
    by_cases c1 : a1 < 0
    · rw [if_pos c1]
    · rw [if_neg c1] at hF ⊢
      by_cases c2 : a1 < a2
      · rw [if_pos c2] at hF; cases hF
      · rw [if_neg c2]
  rw [e]
  refine ji_iload_n (q := 1) am dx_needBelow_0 rfl 0 rfl rfl ?_
  refine ji_if_lt (q := 4) (g := 9) am dx_needBelow_1 rfl rfl ?_ ?_
  · exact jt_new am we tab hR (by decide) xf_A xk_A xi_A we.2.2.2.2.1 x0_A x1_A we.2.2.2.2.2.2.2.2.2.1 xg_A dx_needBelow_9 dx_needBelow_12 dx_needBelow_13 dx_needBelow_15 dx_needBelow_18
  · refine ji_iload_n (q := 5) am dx_needBelow_4 rfl 0 rfl rfl ?_
    refine ji_iload_n (q := 6) am dx_needBelow_5 rfl 1 rfl rfl ?_
    refine ji_icmp_lt (q := 9) (g := 19) am dx_needBelow_6 rfl rfl ?_ ?_
    · exact ji_none
    · exact jt_new am we tab hR (by decide) xf_A xk_A xi_A we.2.2.2.2.1 x0_A x1_A we.2.2.2.2.2.2.2.2.2.1 xg_A dx_needBelow_9 dx_needBelow_12 dx_needBelow_13 dx_needBelow_15 dx_needBelow_18
theorem dx_needSet_23 : decode bx_needSet 23 = .ok (.new 127, 3) := by decide +kernel
theorem dx_needSet_26 : decode bx_needSet 26 = .ok (.dup, 1) := by decide +kernel
theorem dx_needSet_27 : decode bx_needSet 27 = .ok (.ldc 129, 2) := by decide +kernel
theorem dx_needSet_29 : decode bx_needSet 29 = .ok (.invokespecial 131, 3) := by decide +kernel
theorem dx_needSet_32 : decode bx_needSet 32 = .ok (.athrow, 1) := by decide +kernel
set_option maxHeartbeats 4000000 in
theorem cn_needSet {v : wt_V} {s : wt_S} {a1 : Int32} (t : wt_M) (o : Nat → Int64) (hF : fy_needSet s a1 = some ()) : cx_C v yx_needSet (Cond.code yx_needSet bx_needSet 2 none) 10 [.ref (v.2.1 0), .int a1] (s, t, o) E_S := by
  refine cx_of (lv := [(0, .ref (v.2.1 0)), (1, .int a1)]) (by decide) (Nat.le_of_ble_eq_true rfl) rfl ?_
  intro z hz am we tab hR
  subst hz
  have am : wt_Am z R_X bx_needSet 2 10 none := am
  rw [← hF]
  show jj_J z 2 0 [(0, .ref (ad_ z 0)), (1, .int a1)] [] (s, t, o) (q_X z (s, t, o) E_S) (fy_needSet s a1)
  unfold fy_needSet
  refine ji_aload_n (q := 1) am dx_needSet_0 rfl 0 rfl rfl ?_
  refine ji_get_X_diagrams (q := 4) am dx_needSet_1 rfl ?_
  refine ji_aload_n (q := 5) am dx_needSet_4 rfl 0 rfl rfl ?_
  refine ji_get_X_diagrams (q := 8) am dx_needSet_5 rfl ?_
  refine ji_iload_n (q := 9) am dx_needSet_8 rfl 1 rfl rfl ?_
  refine jk_I (q := 12) (rest := [.ref (ad_ z 1)]) (fun r hF => jr_V [.int a1] am ln_X_d_root (ctd_root _ _ hF) (by omega) (rc_D am) rfl rfl (Nat.le_of_ble_eq_true rfl) dx_needSet_9) rfl ?_
  intro r9
  refine ji_iconst (q := 13) am dx_needSet_12 ki_0 rfl ?_
  refine jk_I (q := 16) (rest := []) (fun r hF => jr_N [.int r9, .int (0 : Int32)] am ln_X_d_support (ctd_support t o 9 _ _ _ _ hF) (by omega) (rc_D am) rfl rfl (Nat.le_of_ble_eq_true rfl) dx_needSet_13) rfl ?_
  intro r13
  refine ji_sipush (q := 19) am dx_needSet_16 ks_170 rfl ?_
  refine ji_iand (q := 20) am dx_needSet_19 rfl ?_
  refine ji_if_eq (q := 23) (g := 33) am dx_needSet_20 rfl rfl ?_ ?_
  · exact ji_none
  · exact jt_new am we tab hR (by decide) xf_S xk_S xi_S we.2.2.2.2.2.1 x0_S x1_S we.2.2.2.2.2.2.2.2.2.2.1 xg_S dx_needSet_23 dx_needSet_26 dx_needSet_27 dx_needSet_29 dx_needSet_32
set_option maxHeartbeats 4000000 in
set_option maxRecDepth 100000 in
theorem cy_variable_0 {v : wt_V} {s : wt_S} {a1 : Int32} {a2 : Int32} (t : wt_M) (o : Nat → Int64)  (hF : fx_needRegister a1 = none) : cx_C v yx_variable (Cond.code yx_variable bx_variable 3 none) 12 [.ref (v.2.1 0), .int a1, .int a2] (s, t, o) E_O := by
  refine cx_of (lv := [(0, .ref (v.2.1 0)), (1, .int a1), (2, .int a2)]) (by decide) (Nat.le_of_ble_eq_true rfl) rfl ?_
  intro z hz am we tab hR
  subst hz
  have am : wt_Am z R_X bx_variable 3 12 none := am
  show jj_J z 3 0 [(0, .ref (ad_ z 0)), (1, .int a1), (2, .int a2)] [] (s, t, o) (q_X z (s, t, o) E_O) (some ())
  refine ji_iload_n (q := 1) am dx_variable_0 rfl 1 rfl rfl ?_
  exact jt_S [.int a1] am we tab hR ln_X_x_needRegister (cn_needRegister _ hF) (by decide) rfl rfl (Nat.le_of_ble_eq_true rfl) dx_variable_1
set_option maxHeartbeats 4000000 in
set_option maxRecDepth 100000 in
theorem cy_variable_1 {v : wt_V} {s : wt_S} {a1 : Int32} {a2 : Int32} (t : wt_M) (o : Nat → Int64) (p0 : fx_needRegister a1 = some ()) (hF : fx_needVariable a2 = none) : cx_C v yx_variable (Cond.code yx_variable bx_variable 3 none) 12 [.ref (v.2.1 0), .int a1, .int a2] (s, t, o) E_O := by
  refine cx_of (lv := [(0, .ref (v.2.1 0)), (1, .int a1), (2, .int a2)]) (by decide) (Nat.le_of_ble_eq_true rfl) rfl ?_
  intro z hz am we tab hR
  subst hz
  have am : wt_Am z R_X bx_variable 3 12 none := am
  rw [show (some () : Option Unit) = (b_U (fx_needRegister a1) fun _ => some ()) from by rw [p0]; rfl]
  show jj_J z 3 0 [(0, .ref (ad_ z 0)), (1, .int a1), (2, .int a2)] [] (s, t, o) (q_X z (s, t, o) E_O) (b_U (fx_needRegister a1) fun _ => some ())
  refine ji_iload_n (q := 1) am dx_variable_0 rfl 1 rfl rfl ?_
  refine jk_U (q := 4) (rest := []) (fun u hF => jr_S [.int a1] am ln_X_x_needRegister (ctx_needRegister _ _ _ hF) (by omega) rfl rfl (Nat.le_of_ble_eq_true rfl) dx_variable_1) rfl ?_
  intro u1
  refine ji_iload_n (q := 5) am dx_variable_4 rfl 2 rfl rfl ?_
  exact jt_S [.int a2] am we tab hR ln_X_x_needVariable (cn_needVariable _ hF) (by decide) rfl rfl (Nat.le_of_ble_eq_true rfl) dx_variable_5
set_option maxHeartbeats 4000000 in
set_option maxRecDepth 100000 in
theorem cy_constant_0 {v : wt_V} {s : wt_S} {a1 : Int32} {a2 : Int32} (t : wt_M) (o : Nat → Int64)  (hF : fx_needRegister a1 = none) : cx_C v yx_constant (Cond.code yx_constant bx_constant 3 none) 12 [.ref (v.2.1 0), .int a1, .int a2] (s, t, o) E_O := by
  refine cx_of (lv := [(0, .ref (v.2.1 0)), (1, .int a1), (2, .int a2)]) (by decide) (Nat.le_of_ble_eq_true rfl) rfl ?_
  intro z hz am we tab hR
  subst hz
  have am : wt_Am z R_X bx_constant 3 12 none := am
  show jj_J z 3 0 [(0, .ref (ad_ z 0)), (1, .int a1), (2, .int a2)] [] (s, t, o) (q_X z (s, t, o) E_O) (some ())
  refine ji_iload_n (q := 1) am dx_constant_0 rfl 1 rfl rfl ?_
  exact jt_S [.int a1] am we tab hR ln_X_x_needRegister (cn_needRegister _ hF) (by decide) rfl rfl (Nat.le_of_ble_eq_true rfl) dx_constant_1
set_option maxHeartbeats 4000000 in
set_option maxRecDepth 100000 in
theorem cy_apply_0 {v : wt_V} {s : wt_S} {a1 : Int32} {a2 : Int32} {a3 : Int32} {a4 : Int32} (t : wt_M) (o : Nat → Int64)  (hF : fx_needRegister a1 = none) : cx_C v yx_apply (Cond.code yx_apply bx_apply 5 none) 12 [.ref (v.2.1 0), .int a1, .int a2, .int a3, .int a4] (s, t, o) E_O := by
  refine cx_of (lv := [(0, .ref (v.2.1 0)), (1, .int a1), (2, .int a2), (3, .int a3), (4, .int a4)]) (by decide) (Nat.le_of_ble_eq_true rfl) rfl ?_
  intro z hz am we tab hR
  subst hz
  have am : wt_Am z R_X bx_apply 5 12 none := am
  show jj_J z 5 0 [(0, .ref (ad_ z 0)), (1, .int a1), (2, .int a2), (3, .int a3), (4, .int a4)] [] (s, t, o) (q_X z (s, t, o) E_O) (some ())
  refine ji_iload_n (q := 1) am dx_apply_0 rfl 1 rfl rfl ?_
  exact jt_S [.int a1] am we tab hR ln_X_x_needRegister (cn_needRegister _ hF) (by decide) rfl rfl (Nat.le_of_ble_eq_true rfl) dx_apply_1
set_option maxHeartbeats 4000000 in
set_option maxRecDepth 100000 in
theorem cy_apply_1 {v : wt_V} {s : wt_S} {a1 : Int32} {a2 : Int32} {a3 : Int32} {a4 : Int32} (t : wt_M) (o : Nat → Int64) (p0 : fx_needRegister a1 = some ()) (hF : fx_needRegister a3 = none) : cx_C v yx_apply (Cond.code yx_apply bx_apply 5 none) 12 [.ref (v.2.1 0), .int a1, .int a2, .int a3, .int a4] (s, t, o) E_O := by
  refine cx_of (lv := [(0, .ref (v.2.1 0)), (1, .int a1), (2, .int a2), (3, .int a3), (4, .int a4)]) (by decide) (Nat.le_of_ble_eq_true rfl) rfl ?_
  intro z hz am we tab hR
  subst hz
  have am : wt_Am z R_X bx_apply 5 12 none := am
  rw [show (some () : Option Unit) = (b_U (fx_needRegister a1) fun _ => some ()) from by rw [p0]; rfl]
  show jj_J z 5 0 [(0, .ref (ad_ z 0)), (1, .int a1), (2, .int a2), (3, .int a3), (4, .int a4)] [] (s, t, o) (q_X z (s, t, o) E_O) (b_U (fx_needRegister a1) fun _ => some ())
  refine ji_iload_n (q := 1) am dx_apply_0 rfl 1 rfl rfl ?_
  refine jk_U (q := 4) (rest := []) (fun u hF => jr_S [.int a1] am ln_X_x_needRegister (ctx_needRegister _ _ _ hF) (by omega) rfl rfl (Nat.le_of_ble_eq_true rfl) dx_apply_1) rfl ?_
  intro u1
  refine ji_iload_n (q := 5) am dx_apply_4 rfl 3 rfl rfl ?_
  exact jt_S [.int a3] am we tab hR ln_X_x_needRegister (cn_needRegister _ hF) (by decide) rfl rfl (Nat.le_of_ble_eq_true rfl) dx_apply_5
set_option maxHeartbeats 4000000 in
set_option maxRecDepth 100000 in
theorem cy_apply_2 {v : wt_V} {s : wt_S} {a1 : Int32} {a2 : Int32} {a3 : Int32} {a4 : Int32} (t : wt_M) (o : Nat → Int64) (p0 : fx_needRegister a1 = some ()) (p1 : fx_needRegister a3 = some ()) (hF : fx_needRegister a4 = none) : cx_C v yx_apply (Cond.code yx_apply bx_apply 5 none) 12 [.ref (v.2.1 0), .int a1, .int a2, .int a3, .int a4] (s, t, o) E_O := by
  refine cx_of (lv := [(0, .ref (v.2.1 0)), (1, .int a1), (2, .int a2), (3, .int a3), (4, .int a4)]) (by decide) (Nat.le_of_ble_eq_true rfl) rfl ?_
  intro z hz am we tab hR
  subst hz
  have am : wt_Am z R_X bx_apply 5 12 none := am
  rw [show (some () : Option Unit) = (b_U (fx_needRegister a1) fun _ => b_U (fx_needRegister a3) fun _ => some ()) from by rw [p0, p1]; rfl]
  show jj_J z 5 0 [(0, .ref (ad_ z 0)), (1, .int a1), (2, .int a2), (3, .int a3), (4, .int a4)] [] (s, t, o) (q_X z (s, t, o) E_O) (b_U (fx_needRegister a1) fun _ => b_U (fx_needRegister a3) fun _ => some ())
  refine ji_iload_n (q := 1) am dx_apply_0 rfl 1 rfl rfl ?_
  refine jk_U (q := 4) (rest := []) (fun u hF => jr_S [.int a1] am ln_X_x_needRegister (ctx_needRegister _ _ _ hF) (by omega) rfl rfl (Nat.le_of_ble_eq_true rfl) dx_apply_1) rfl ?_
  intro u1
  refine ji_iload_n (q := 5) am dx_apply_4 rfl 3 rfl rfl ?_
  refine jk_U (q := 8) (rest := []) (fun u hF => jr_S [.int a3] am ln_X_x_needRegister (ctx_needRegister _ _ _ hF) (by omega) rfl rfl (Nat.le_of_ble_eq_true rfl) dx_apply_5) rfl ?_
  intro u5
  refine ji_iload (q := 10) am dx_apply_8 4 rfl rfl ?_
  exact jt_S [.int a4] am we tab hR ln_X_x_needRegister (cn_needRegister _ hF) (by decide) rfl rfl (Nat.le_of_ble_eq_true rfl) dx_apply_10
set_option maxHeartbeats 4000000 in
set_option maxRecDepth 100000 in
theorem cy_apply_3 {v : wt_V} {s : wt_S} {a1 : Int32} {a2 : Int32} {a3 : Int32} {a4 : Int32} (t : wt_M) (o : Nat → Int64) (p0 : fx_needRegister a1 = some ()) (p1 : fx_needRegister a3 = some ()) (p2 : fx_needRegister a4 = some ()) (hF : fx_needBelow a2 (16 : Int32) = none) : cx_C v yx_apply (Cond.code yx_apply bx_apply 5 none) 12 [.ref (v.2.1 0), .int a1, .int a2, .int a3, .int a4] (s, t, o) E_A := by
  refine cx_of (lv := [(0, .ref (v.2.1 0)), (1, .int a1), (2, .int a2), (3, .int a3), (4, .int a4)]) (by decide) (Nat.le_of_ble_eq_true rfl) rfl ?_
  intro z hz am we tab hR
  subst hz
  have am : wt_Am z R_X bx_apply 5 12 none := am
  rw [show (some () : Option Unit) = (b_U (fx_needRegister a1) fun _ => b_U (fx_needRegister a3) fun _ => b_U (fx_needRegister a4) fun _ => some ()) from by rw [p0, p1, p2]; rfl]
  show jj_J z 5 0 [(0, .ref (ad_ z 0)), (1, .int a1), (2, .int a2), (3, .int a3), (4, .int a4)] [] (s, t, o) (q_X z (s, t, o) E_A) (b_U (fx_needRegister a1) fun _ => b_U (fx_needRegister a3) fun _ => b_U (fx_needRegister a4) fun _ => some ())
  refine ji_iload_n (q := 1) am dx_apply_0 rfl 1 rfl rfl ?_
  refine jk_U (q := 4) (rest := []) (fun u hF => jr_S [.int a1] am ln_X_x_needRegister (ctx_needRegister _ _ _ hF) (by omega) rfl rfl (Nat.le_of_ble_eq_true rfl) dx_apply_1) rfl ?_
  intro u1
  refine ji_iload_n (q := 5) am dx_apply_4 rfl 3 rfl rfl ?_
  refine jk_U (q := 8) (rest := []) (fun u hF => jr_S [.int a3] am ln_X_x_needRegister (ctx_needRegister _ _ _ hF) (by omega) rfl rfl (Nat.le_of_ble_eq_true rfl) dx_apply_5) rfl ?_
  intro u5
  refine ji_iload (q := 10) am dx_apply_8 4 rfl rfl ?_
  refine jk_U (q := 13) (rest := []) (fun u hF => jr_S [.int a4] am ln_X_x_needRegister (ctx_needRegister _ _ _ hF) (by omega) rfl rfl (Nat.le_of_ble_eq_true rfl) dx_apply_10) rfl ?_
  intro u10
  refine ji_iload_n (q := 14) am dx_apply_13 rfl 2 rfl rfl ?_
  refine ji_bipush (q := 16) am dx_apply_14 kb_16 rfl ?_
  exact jt_S [.int a2, .int (16 : Int32)] am we tab hR ln_X_x_needBelow (cn_needBelow _ hF) (by decide) rfl rfl (Nat.le_of_ble_eq_true rfl) dx_apply_16
set_option maxHeartbeats 4000000 in
set_option maxRecDepth 100000 in
theorem cy_choose_0 {v : wt_V} {s : wt_S} {a1 : Int32} {a2 : Int32} {a3 : Int32} {a4 : Int32} (t : wt_M) (o : Nat → Int64)  (hF : fx_needRegister a1 = none) : cx_C v yx_choose (Cond.code yx_choose bx_choose 5 none) 12 [.ref (v.2.1 0), .int a1, .int a2, .int a3, .int a4] (s, t, o) E_O := by
  refine cx_of (lv := [(0, .ref (v.2.1 0)), (1, .int a1), (2, .int a2), (3, .int a3), (4, .int a4)]) (by decide) (Nat.le_of_ble_eq_true rfl) rfl ?_
  intro z hz am we tab hR
  subst hz
  have am : wt_Am z R_X bx_choose 5 12 none := am
  show jj_J z 5 0 [(0, .ref (ad_ z 0)), (1, .int a1), (2, .int a2), (3, .int a3), (4, .int a4)] [] (s, t, o) (q_X z (s, t, o) E_O) (some ())
  refine ji_iload_n (q := 1) am dx_choose_0 rfl 1 rfl rfl ?_
  exact jt_S [.int a1] am we tab hR ln_X_x_needRegister (cn_needRegister _ hF) (by decide) rfl rfl (Nat.le_of_ble_eq_true rfl) dx_choose_1
set_option maxHeartbeats 4000000 in
set_option maxRecDepth 100000 in
theorem cy_choose_1 {v : wt_V} {s : wt_S} {a1 : Int32} {a2 : Int32} {a3 : Int32} {a4 : Int32} (t : wt_M) (o : Nat → Int64) (p0 : fx_needRegister a1 = some ()) (hF : fx_needRegister a2 = none) : cx_C v yx_choose (Cond.code yx_choose bx_choose 5 none) 12 [.ref (v.2.1 0), .int a1, .int a2, .int a3, .int a4] (s, t, o) E_O := by
  refine cx_of (lv := [(0, .ref (v.2.1 0)), (1, .int a1), (2, .int a2), (3, .int a3), (4, .int a4)]) (by decide) (Nat.le_of_ble_eq_true rfl) rfl ?_
  intro z hz am we tab hR
  subst hz
  have am : wt_Am z R_X bx_choose 5 12 none := am
  rw [show (some () : Option Unit) = (b_U (fx_needRegister a1) fun _ => some ()) from by rw [p0]; rfl]
  show jj_J z 5 0 [(0, .ref (ad_ z 0)), (1, .int a1), (2, .int a2), (3, .int a3), (4, .int a4)] [] (s, t, o) (q_X z (s, t, o) E_O) (b_U (fx_needRegister a1) fun _ => some ())
  refine ji_iload_n (q := 1) am dx_choose_0 rfl 1 rfl rfl ?_
  refine jk_U (q := 4) (rest := []) (fun u hF => jr_S [.int a1] am ln_X_x_needRegister (ctx_needRegister _ _ _ hF) (by omega) rfl rfl (Nat.le_of_ble_eq_true rfl) dx_choose_1) rfl ?_
  intro u1
  refine ji_iload_n (q := 5) am dx_choose_4 rfl 2 rfl rfl ?_
  exact jt_S [.int a2] am we tab hR ln_X_x_needRegister (cn_needRegister _ hF) (by decide) rfl rfl (Nat.le_of_ble_eq_true rfl) dx_choose_5
set_option maxHeartbeats 4000000 in
set_option maxRecDepth 100000 in
theorem cy_choose_2 {v : wt_V} {s : wt_S} {a1 : Int32} {a2 : Int32} {a3 : Int32} {a4 : Int32} (t : wt_M) (o : Nat → Int64) (p0 : fx_needRegister a1 = some ()) (p1 : fx_needRegister a2 = some ()) (hF : fx_needRegister a3 = none) : cx_C v yx_choose (Cond.code yx_choose bx_choose 5 none) 12 [.ref (v.2.1 0), .int a1, .int a2, .int a3, .int a4] (s, t, o) E_O := by
  refine cx_of (lv := [(0, .ref (v.2.1 0)), (1, .int a1), (2, .int a2), (3, .int a3), (4, .int a4)]) (by decide) (Nat.le_of_ble_eq_true rfl) rfl ?_
  intro z hz am we tab hR
  subst hz
  have am : wt_Am z R_X bx_choose 5 12 none := am
  rw [show (some () : Option Unit) = (b_U (fx_needRegister a1) fun _ => b_U (fx_needRegister a2) fun _ => some ()) from by rw [p0, p1]; rfl]
  show jj_J z 5 0 [(0, .ref (ad_ z 0)), (1, .int a1), (2, .int a2), (3, .int a3), (4, .int a4)] [] (s, t, o) (q_X z (s, t, o) E_O) (b_U (fx_needRegister a1) fun _ => b_U (fx_needRegister a2) fun _ => some ())
  refine ji_iload_n (q := 1) am dx_choose_0 rfl 1 rfl rfl ?_
  refine jk_U (q := 4) (rest := []) (fun u hF => jr_S [.int a1] am ln_X_x_needRegister (ctx_needRegister _ _ _ hF) (by omega) rfl rfl (Nat.le_of_ble_eq_true rfl) dx_choose_1) rfl ?_
  intro u1
  refine ji_iload_n (q := 5) am dx_choose_4 rfl 2 rfl rfl ?_
  refine jk_U (q := 8) (rest := []) (fun u hF => jr_S [.int a2] am ln_X_x_needRegister (ctx_needRegister _ _ _ hF) (by omega) rfl rfl (Nat.le_of_ble_eq_true rfl) dx_choose_5) rfl ?_
  intro u5
  refine ji_iload_n (q := 9) am dx_choose_8 rfl 3 rfl rfl ?_
  exact jt_S [.int a3] am we tab hR ln_X_x_needRegister (cn_needRegister _ hF) (by decide) rfl rfl (Nat.le_of_ble_eq_true rfl) dx_choose_9
set_option maxHeartbeats 4000000 in
set_option maxRecDepth 100000 in
theorem cy_choose_3 {v : wt_V} {s : wt_S} {a1 : Int32} {a2 : Int32} {a3 : Int32} {a4 : Int32} (t : wt_M) (o : Nat → Int64) (p0 : fx_needRegister a1 = some ()) (p1 : fx_needRegister a2 = some ()) (p2 : fx_needRegister a3 = some ()) (hF : fx_needRegister a4 = none) : cx_C v yx_choose (Cond.code yx_choose bx_choose 5 none) 12 [.ref (v.2.1 0), .int a1, .int a2, .int a3, .int a4] (s, t, o) E_O := by
  refine cx_of (lv := [(0, .ref (v.2.1 0)), (1, .int a1), (2, .int a2), (3, .int a3), (4, .int a4)]) (by decide) (Nat.le_of_ble_eq_true rfl) rfl ?_
  intro z hz am we tab hR
  subst hz
  have am : wt_Am z R_X bx_choose 5 12 none := am
  rw [show (some () : Option Unit) = (b_U (fx_needRegister a1) fun _ => b_U (fx_needRegister a2) fun _ => b_U (fx_needRegister a3) fun _ => some ()) from by rw [p0, p1, p2]; rfl]
  show jj_J z 5 0 [(0, .ref (ad_ z 0)), (1, .int a1), (2, .int a2), (3, .int a3), (4, .int a4)] [] (s, t, o) (q_X z (s, t, o) E_O) (b_U (fx_needRegister a1) fun _ => b_U (fx_needRegister a2) fun _ => b_U (fx_needRegister a3) fun _ => some ())
  refine ji_iload_n (q := 1) am dx_choose_0 rfl 1 rfl rfl ?_
  refine jk_U (q := 4) (rest := []) (fun u hF => jr_S [.int a1] am ln_X_x_needRegister (ctx_needRegister _ _ _ hF) (by omega) rfl rfl (Nat.le_of_ble_eq_true rfl) dx_choose_1) rfl ?_
  intro u1
  refine ji_iload_n (q := 5) am dx_choose_4 rfl 2 rfl rfl ?_
  refine jk_U (q := 8) (rest := []) (fun u hF => jr_S [.int a2] am ln_X_x_needRegister (ctx_needRegister _ _ _ hF) (by omega) rfl rfl (Nat.le_of_ble_eq_true rfl) dx_choose_5) rfl ?_
  intro u5
  refine ji_iload_n (q := 9) am dx_choose_8 rfl 3 rfl rfl ?_
  refine jk_U (q := 12) (rest := []) (fun u hF => jr_S [.int a3] am ln_X_x_needRegister (ctx_needRegister _ _ _ hF) (by omega) rfl rfl (Nat.le_of_ble_eq_true rfl) dx_choose_9) rfl ?_
  intro u9
  refine ji_iload (q := 14) am dx_choose_12 4 rfl rfl ?_
  exact jt_S [.int a4] am we tab hR ln_X_x_needRegister (cn_needRegister _ hF) (by decide) rfl rfl (Nat.le_of_ble_eq_true rfl) dx_choose_14
set_option maxHeartbeats 4000000 in
set_option maxRecDepth 100000 in
theorem cy_restrict_0 {v : wt_V} {s : wt_S} {a1 : Int32} {a2 : Int32} {a3 : Int32} {a4 : Int32} (t : wt_M) (o : Nat → Int64)  (hF : fx_needRegister a1 = none) : cx_C v yx_restrict (Cond.code yx_restrict bx_restrict 5 none) 12 [.ref (v.2.1 0), .int a1, .int a2, .int a3, .int a4] (s, t, o) E_O := by
  refine cx_of (lv := [(0, .ref (v.2.1 0)), (1, .int a1), (2, .int a2), (3, .int a3), (4, .int a4)]) (by decide) (Nat.le_of_ble_eq_true rfl) rfl ?_
  intro z hz am we tab hR
  subst hz
  have am : wt_Am z R_X bx_restrict 5 12 none := am
  show jj_J z 5 0 [(0, .ref (ad_ z 0)), (1, .int a1), (2, .int a2), (3, .int a3), (4, .int a4)] [] (s, t, o) (q_X z (s, t, o) E_O) (some ())
  refine ji_iload_n (q := 1) am dx_restrict_0 rfl 1 rfl rfl ?_
  exact jt_S [.int a1] am we tab hR ln_X_x_needRegister (cn_needRegister _ hF) (by decide) rfl rfl (Nat.le_of_ble_eq_true rfl) dx_restrict_1
set_option maxHeartbeats 4000000 in
set_option maxRecDepth 100000 in
theorem cy_restrict_1 {v : wt_V} {s : wt_S} {a1 : Int32} {a2 : Int32} {a3 : Int32} {a4 : Int32} (t : wt_M) (o : Nat → Int64) (p0 : fx_needRegister a1 = some ()) (hF : fx_needRegister a2 = none) : cx_C v yx_restrict (Cond.code yx_restrict bx_restrict 5 none) 12 [.ref (v.2.1 0), .int a1, .int a2, .int a3, .int a4] (s, t, o) E_O := by
  refine cx_of (lv := [(0, .ref (v.2.1 0)), (1, .int a1), (2, .int a2), (3, .int a3), (4, .int a4)]) (by decide) (Nat.le_of_ble_eq_true rfl) rfl ?_
  intro z hz am we tab hR
  subst hz
  have am : wt_Am z R_X bx_restrict 5 12 none := am
  rw [show (some () : Option Unit) = (b_U (fx_needRegister a1) fun _ => some ()) from by rw [p0]; rfl]
  show jj_J z 5 0 [(0, .ref (ad_ z 0)), (1, .int a1), (2, .int a2), (3, .int a3), (4, .int a4)] [] (s, t, o) (q_X z (s, t, o) E_O) (b_U (fx_needRegister a1) fun _ => some ())
  refine ji_iload_n (q := 1) am dx_restrict_0 rfl 1 rfl rfl ?_
  refine jk_U (q := 4) (rest := []) (fun u hF => jr_S [.int a1] am ln_X_x_needRegister (ctx_needRegister _ _ _ hF) (by omega) rfl rfl (Nat.le_of_ble_eq_true rfl) dx_restrict_1) rfl ?_
  intro u1
  refine ji_iload_n (q := 5) am dx_restrict_4 rfl 2 rfl rfl ?_
  exact jt_S [.int a2] am we tab hR ln_X_x_needRegister (cn_needRegister _ hF) (by decide) rfl rfl (Nat.le_of_ble_eq_true rfl) dx_restrict_5
set_option maxHeartbeats 4000000 in
set_option maxRecDepth 100000 in
theorem cy_restrict_2 {v : wt_V} {s : wt_S} {a1 : Int32} {a2 : Int32} {a3 : Int32} {a4 : Int32} (t : wt_M) (o : Nat → Int64) (p0 : fx_needRegister a1 = some ()) (p1 : fx_needRegister a2 = some ()) (hF : fx_needVariable a3 = none) : cx_C v yx_restrict (Cond.code yx_restrict bx_restrict 5 none) 12 [.ref (v.2.1 0), .int a1, .int a2, .int a3, .int a4] (s, t, o) E_O := by
  refine cx_of (lv := [(0, .ref (v.2.1 0)), (1, .int a1), (2, .int a2), (3, .int a3), (4, .int a4)]) (by decide) (Nat.le_of_ble_eq_true rfl) rfl ?_
  intro z hz am we tab hR
  subst hz
  have am : wt_Am z R_X bx_restrict 5 12 none := am
  rw [show (some () : Option Unit) = (b_U (fx_needRegister a1) fun _ => b_U (fx_needRegister a2) fun _ => some ()) from by rw [p0, p1]; rfl]
  show jj_J z 5 0 [(0, .ref (ad_ z 0)), (1, .int a1), (2, .int a2), (3, .int a3), (4, .int a4)] [] (s, t, o) (q_X z (s, t, o) E_O) (b_U (fx_needRegister a1) fun _ => b_U (fx_needRegister a2) fun _ => some ())
  refine ji_iload_n (q := 1) am dx_restrict_0 rfl 1 rfl rfl ?_
  refine jk_U (q := 4) (rest := []) (fun u hF => jr_S [.int a1] am ln_X_x_needRegister (ctx_needRegister _ _ _ hF) (by omega) rfl rfl (Nat.le_of_ble_eq_true rfl) dx_restrict_1) rfl ?_
  intro u1
  refine ji_iload_n (q := 5) am dx_restrict_4 rfl 2 rfl rfl ?_
  refine jk_U (q := 8) (rest := []) (fun u hF => jr_S [.int a2] am ln_X_x_needRegister (ctx_needRegister _ _ _ hF) (by omega) rfl rfl (Nat.le_of_ble_eq_true rfl) dx_restrict_5) rfl ?_
  intro u5
  refine ji_iload_n (q := 9) am dx_restrict_8 rfl 3 rfl rfl ?_
  exact jt_S [.int a3] am we tab hR ln_X_x_needVariable (cn_needVariable _ hF) (by decide) rfl rfl (Nat.le_of_ble_eq_true rfl) dx_restrict_9
set_option maxHeartbeats 4000000 in
set_option maxRecDepth 100000 in
theorem cy_quantify_0 {v : wt_V} {s : wt_S} {a1 : Int32} {a2 : Int32} {a3 : Int32} {a4 : Int32} (t : wt_M) (o : Nat → Int64)  (hF : fx_needRegister a1 = none) : cx_C v yx_quantify (Cond.code yx_quantify bx_quantify 7 none) 12 [.ref (v.2.1 0), .int a1, .int a2, .int a3, .int a4] (s, t, o) E_O := by
  refine cx_of (lv := [(0, .ref (v.2.1 0)), (1, .int a1), (2, .int a2), (3, .int a3), (4, .int a4)]) (by decide) (Nat.le_of_ble_eq_true rfl) rfl ?_
  intro z hz am we tab hR
  subst hz
  have am : wt_Am z R_X bx_quantify 7 12 none := am
  show jj_J z 7 0 [(0, .ref (ad_ z 0)), (1, .int a1), (2, .int a2), (3, .int a3), (4, .int a4)] [] (s, t, o) (q_X z (s, t, o) E_O) (some ())
  refine ji_iload_n (q := 1) am dx_quantify_0 rfl 1 rfl rfl ?_
  exact jt_S [.int a1] am we tab hR ln_X_x_needRegister (cn_needRegister _ hF) (by decide) rfl rfl (Nat.le_of_ble_eq_true rfl) dx_quantify_1
set_option maxHeartbeats 4000000 in
set_option maxRecDepth 100000 in
theorem cy_quantify_1 {v : wt_V} {s : wt_S} {a1 : Int32} {a2 : Int32} {a3 : Int32} {a4 : Int32} (t : wt_M) (o : Nat → Int64) (p0 : fx_needRegister a1 = some ()) (hF : fx_needRegister a2 = none) : cx_C v yx_quantify (Cond.code yx_quantify bx_quantify 7 none) 12 [.ref (v.2.1 0), .int a1, .int a2, .int a3, .int a4] (s, t, o) E_O := by
  refine cx_of (lv := [(0, .ref (v.2.1 0)), (1, .int a1), (2, .int a2), (3, .int a3), (4, .int a4)]) (by decide) (Nat.le_of_ble_eq_true rfl) rfl ?_
  intro z hz am we tab hR
  subst hz
  have am : wt_Am z R_X bx_quantify 7 12 none := am
  rw [show (some () : Option Unit) = (b_U (fx_needRegister a1) fun _ => some ()) from by rw [p0]; rfl]
  show jj_J z 7 0 [(0, .ref (ad_ z 0)), (1, .int a1), (2, .int a2), (3, .int a3), (4, .int a4)] [] (s, t, o) (q_X z (s, t, o) E_O) (b_U (fx_needRegister a1) fun _ => some ())
  refine ji_iload_n (q := 1) am dx_quantify_0 rfl 1 rfl rfl ?_
  refine jk_U (q := 4) (rest := []) (fun u hF => jr_S [.int a1] am ln_X_x_needRegister (ctx_needRegister _ _ _ hF) (by omega) rfl rfl (Nat.le_of_ble_eq_true rfl) dx_quantify_1) rfl ?_
  intro u1
  refine ji_iload_n (q := 5) am dx_quantify_4 rfl 2 rfl rfl ?_
  exact jt_S [.int a2] am we tab hR ln_X_x_needRegister (cn_needRegister _ hF) (by decide) rfl rfl (Nat.le_of_ble_eq_true rfl) dx_quantify_5
set_option maxHeartbeats 4000000 in
set_option maxRecDepth 100000 in
theorem cy_quantify_2 {v : wt_V} {s : wt_S} {a1 : Int32} {a2 : Int32} {a3 : Int32} {a4 : Int32} (t : wt_M) (o : Nat → Int64) (p0 : fx_needRegister a1 = some ()) (p1 : fx_needRegister a2 = some ()) (hF : fx_needBelow a3 (256 : Int32) = none) : cx_C v yx_quantify (Cond.code yx_quantify bx_quantify 7 none) 12 [.ref (v.2.1 0), .int a1, .int a2, .int a3, .int a4] (s, t, o) E_A := by
  refine cx_of (lv := [(0, .ref (v.2.1 0)), (1, .int a1), (2, .int a2), (3, .int a3), (4, .int a4)]) (by decide) (Nat.le_of_ble_eq_true rfl) rfl ?_
  intro z hz am we tab hR
  subst hz
  have am : wt_Am z R_X bx_quantify 7 12 none := am
  rw [show (some () : Option Unit) = (b_U (fx_needRegister a1) fun _ => b_U (fx_needRegister a2) fun _ => some ()) from by rw [p0, p1]; rfl]
  show jj_J z 7 0 [(0, .ref (ad_ z 0)), (1, .int a1), (2, .int a2), (3, .int a3), (4, .int a4)] [] (s, t, o) (q_X z (s, t, o) E_A) (b_U (fx_needRegister a1) fun _ => b_U (fx_needRegister a2) fun _ => some ())
  refine ji_iload_n (q := 1) am dx_quantify_0 rfl 1 rfl rfl ?_
  refine jk_U (q := 4) (rest := []) (fun u hF => jr_S [.int a1] am ln_X_x_needRegister (ctx_needRegister _ _ _ hF) (by omega) rfl rfl (Nat.le_of_ble_eq_true rfl) dx_quantify_1) rfl ?_
  intro u1
  refine ji_iload_n (q := 5) am dx_quantify_4 rfl 2 rfl rfl ?_
  refine jk_U (q := 8) (rest := []) (fun u hF => jr_S [.int a2] am ln_X_x_needRegister (ctx_needRegister _ _ _ hF) (by omega) rfl rfl (Nat.le_of_ble_eq_true rfl) dx_quantify_5) rfl ?_
  intro u5
  refine ji_iload_n (q := 9) am dx_quantify_8 rfl 3 rfl rfl ?_
  refine ji_sipush (q := 12) am dx_quantify_9 ks_256 rfl ?_
  exact jt_S [.int a3, .int (256 : Int32)] am we tab hR ln_X_x_needBelow (cn_needBelow _ hF) (by decide) rfl rfl (Nat.le_of_ble_eq_true rfl) dx_quantify_12
set_option maxHeartbeats 4000000 in
set_option maxRecDepth 100000 in
theorem cy_product_0 {v : wt_V} {s : wt_S} {a1 : Int32} {a2 : Int32} {a3 : Int32} {a4 : Int32} (t : wt_M) (o : Nat → Int64)  (hF : fx_needRegister a1 = none) : cx_C v yx_product (Cond.code yx_product bx_product 5 none) 12 [.ref (v.2.1 0), .int a1, .int a2, .int a3, .int a4] (s, t, o) E_O := by
  refine cx_of (lv := [(0, .ref (v.2.1 0)), (1, .int a1), (2, .int a2), (3, .int a3), (4, .int a4)]) (by decide) (Nat.le_of_ble_eq_true rfl) rfl ?_
  intro z hz am we tab hR
  subst hz
  have am : wt_Am z R_X bx_product 5 12 none := am
  show jj_J z 5 0 [(0, .ref (ad_ z 0)), (1, .int a1), (2, .int a2), (3, .int a3), (4, .int a4)] [] (s, t, o) (q_X z (s, t, o) E_O) (some ())
  refine ji_iload_n (q := 1) am dx_product_0 rfl 1 rfl rfl ?_
  exact jt_S [.int a1] am we tab hR ln_X_x_needRegister (cn_needRegister _ hF) (by decide) rfl rfl (Nat.le_of_ble_eq_true rfl) dx_product_1
set_option maxHeartbeats 4000000 in
set_option maxRecDepth 100000 in
theorem cy_product_1 {v : wt_V} {s : wt_S} {a1 : Int32} {a2 : Int32} {a3 : Int32} {a4 : Int32} (t : wt_M) (o : Nat → Int64) (p0 : fx_needRegister a1 = some ()) (hF : fx_needRegister a2 = none) : cx_C v yx_product (Cond.code yx_product bx_product 5 none) 12 [.ref (v.2.1 0), .int a1, .int a2, .int a3, .int a4] (s, t, o) E_O := by
  refine cx_of (lv := [(0, .ref (v.2.1 0)), (1, .int a1), (2, .int a2), (3, .int a3), (4, .int a4)]) (by decide) (Nat.le_of_ble_eq_true rfl) rfl ?_
  intro z hz am we tab hR
  subst hz
  have am : wt_Am z R_X bx_product 5 12 none := am
  rw [show (some () : Option Unit) = (b_U (fx_needRegister a1) fun _ => some ()) from by rw [p0]; rfl]
  show jj_J z 5 0 [(0, .ref (ad_ z 0)), (1, .int a1), (2, .int a2), (3, .int a3), (4, .int a4)] [] (s, t, o) (q_X z (s, t, o) E_O) (b_U (fx_needRegister a1) fun _ => some ())
  refine ji_iload_n (q := 1) am dx_product_0 rfl 1 rfl rfl ?_
  refine jk_U (q := 4) (rest := []) (fun u hF => jr_S [.int a1] am ln_X_x_needRegister (ctx_needRegister _ _ _ hF) (by omega) rfl rfl (Nat.le_of_ble_eq_true rfl) dx_product_1) rfl ?_
  intro u1
  refine ji_iload_n (q := 5) am dx_product_4 rfl 2 rfl rfl ?_
  exact jt_S [.int a2] am we tab hR ln_X_x_needRegister (cn_needRegister _ hF) (by decide) rfl rfl (Nat.le_of_ble_eq_true rfl) dx_product_5
set_option maxHeartbeats 4000000 in
set_option maxRecDepth 100000 in
theorem cy_product_2 {v : wt_V} {s : wt_S} {a1 : Int32} {a2 : Int32} {a3 : Int32} {a4 : Int32} (t : wt_M) (o : Nat → Int64) (p0 : fx_needRegister a1 = some ()) (p1 : fx_needRegister a2 = some ()) (hF : fx_needRegister a3 = none) : cx_C v yx_product (Cond.code yx_product bx_product 5 none) 12 [.ref (v.2.1 0), .int a1, .int a2, .int a3, .int a4] (s, t, o) E_O := by
  refine cx_of (lv := [(0, .ref (v.2.1 0)), (1, .int a1), (2, .int a2), (3, .int a3), (4, .int a4)]) (by decide) (Nat.le_of_ble_eq_true rfl) rfl ?_
  intro z hz am we tab hR
  subst hz
  have am : wt_Am z R_X bx_product 5 12 none := am
  rw [show (some () : Option Unit) = (b_U (fx_needRegister a1) fun _ => b_U (fx_needRegister a2) fun _ => some ()) from by rw [p0, p1]; rfl]
  show jj_J z 5 0 [(0, .ref (ad_ z 0)), (1, .int a1), (2, .int a2), (3, .int a3), (4, .int a4)] [] (s, t, o) (q_X z (s, t, o) E_O) (b_U (fx_needRegister a1) fun _ => b_U (fx_needRegister a2) fun _ => some ())
  refine ji_iload_n (q := 1) am dx_product_0 rfl 1 rfl rfl ?_
  refine jk_U (q := 4) (rest := []) (fun u hF => jr_S [.int a1] am ln_X_x_needRegister (ctx_needRegister _ _ _ hF) (by omega) rfl rfl (Nat.le_of_ble_eq_true rfl) dx_product_1) rfl ?_
  intro u1
  refine ji_iload_n (q := 5) am dx_product_4 rfl 2 rfl rfl ?_
  refine jk_U (q := 8) (rest := []) (fun u hF => jr_S [.int a2] am ln_X_x_needRegister (ctx_needRegister _ _ _ hF) (by omega) rfl rfl (Nat.le_of_ble_eq_true rfl) dx_product_5) rfl ?_
  intro u5
  refine ji_iload_n (q := 9) am dx_product_8 rfl 3 rfl rfl ?_
  exact jt_S [.int a3] am we tab hR ln_X_x_needRegister (cn_needRegister _ hF) (by decide) rfl rfl (Nat.le_of_ble_eq_true rfl) dx_product_9
set_option maxHeartbeats 4000000 in
set_option maxRecDepth 100000 in
theorem cy_product_3 {v : wt_V} {s : wt_S} {a1 : Int32} {a2 : Int32} {a3 : Int32} {a4 : Int32} (t : wt_M) (o : Nat → Int64) (p0 : fx_needRegister a1 = some ()) (p1 : fx_needRegister a2 = some ()) (p2 : fx_needRegister a3 = some ()) (hF : fx_needBelow a4 (256 : Int32) = none) : cx_C v yx_product (Cond.code yx_product bx_product 5 none) 12 [.ref (v.2.1 0), .int a1, .int a2, .int a3, .int a4] (s, t, o) E_A := by
  refine cx_of (lv := [(0, .ref (v.2.1 0)), (1, .int a1), (2, .int a2), (3, .int a3), (4, .int a4)]) (by decide) (Nat.le_of_ble_eq_true rfl) rfl ?_
  intro z hz am we tab hR
  subst hz
  have am : wt_Am z R_X bx_product 5 12 none := am
  rw [show (some () : Option Unit) = (b_U (fx_needRegister a1) fun _ => b_U (fx_needRegister a2) fun _ => b_U (fx_needRegister a3) fun _ => some ()) from by rw [p0, p1, p2]; rfl]
  show jj_J z 5 0 [(0, .ref (ad_ z 0)), (1, .int a1), (2, .int a2), (3, .int a3), (4, .int a4)] [] (s, t, o) (q_X z (s, t, o) E_A) (b_U (fx_needRegister a1) fun _ => b_U (fx_needRegister a2) fun _ => b_U (fx_needRegister a3) fun _ => some ())
  refine ji_iload_n (q := 1) am dx_product_0 rfl 1 rfl rfl ?_
  refine jk_U (q := 4) (rest := []) (fun u hF => jr_S [.int a1] am ln_X_x_needRegister (ctx_needRegister _ _ _ hF) (by omega) rfl rfl (Nat.le_of_ble_eq_true rfl) dx_product_1) rfl ?_
  intro u1
  refine ji_iload_n (q := 5) am dx_product_4 rfl 2 rfl rfl ?_
  refine jk_U (q := 8) (rest := []) (fun u hF => jr_S [.int a2] am ln_X_x_needRegister (ctx_needRegister _ _ _ hF) (by omega) rfl rfl (Nat.le_of_ble_eq_true rfl) dx_product_5) rfl ?_
  intro u5
  refine ji_iload_n (q := 9) am dx_product_8 rfl 3 rfl rfl ?_
  refine jk_U (q := 12) (rest := []) (fun u hF => jr_S [.int a3] am ln_X_x_needRegister (ctx_needRegister _ _ _ hF) (by omega) rfl rfl (Nat.le_of_ble_eq_true rfl) dx_product_9) rfl ?_
  intro u9
  refine ji_iload (q := 14) am dx_product_12 4 rfl rfl ?_
  refine ji_sipush (q := 17) am dx_product_14 ks_256 rfl ?_
  exact jt_S [.int a4, .int (256 : Int32)] am we tab hR ln_X_x_needBelow (cn_needBelow _ hF) (by decide) rfl rfl (Nat.le_of_ble_eq_true rfl) dx_product_17
set_option maxHeartbeats 4000000 in
set_option maxRecDepth 100000 in
theorem cy_compose_0 {v : wt_V} {s : wt_S} {a1 : Int32} {a2 : Int32} {a3 : Int32} {a4 : Int32} (t : wt_M) (o : Nat → Int64)  (hF : fx_needRegister a1 = none) : cx_C v yx_compose (Cond.code yx_compose bx_compose 7 none) 12 [.ref (v.2.1 0), .int a1, .int a2, .int a3, .int a4] (s, t, o) E_O := by
  refine cx_of (lv := [(0, .ref (v.2.1 0)), (1, .int a1), (2, .int a2), (3, .int a3), (4, .int a4)]) (by decide) (Nat.le_of_ble_eq_true rfl) rfl ?_
  intro z hz am we tab hR
  subst hz
  have am : wt_Am z R_X bx_compose 7 12 none := am
  show jj_J z 7 0 [(0, .ref (ad_ z 0)), (1, .int a1), (2, .int a2), (3, .int a3), (4, .int a4)] [] (s, t, o) (q_X z (s, t, o) E_O) (some ())
  refine ji_iload_n (q := 1) am dx_compose_0 rfl 1 rfl rfl ?_
  exact jt_S [.int a1] am we tab hR ln_X_x_needRegister (cn_needRegister _ hF) (by decide) rfl rfl (Nat.le_of_ble_eq_true rfl) dx_compose_1
set_option maxHeartbeats 4000000 in
set_option maxRecDepth 100000 in
theorem cy_compose_1 {v : wt_V} {s : wt_S} {a1 : Int32} {a2 : Int32} {a3 : Int32} {a4 : Int32} (t : wt_M) (o : Nat → Int64) (p0 : fx_needRegister a1 = some ()) (hF : fx_needRegister a2 = none) : cx_C v yx_compose (Cond.code yx_compose bx_compose 7 none) 12 [.ref (v.2.1 0), .int a1, .int a2, .int a3, .int a4] (s, t, o) E_O := by
  refine cx_of (lv := [(0, .ref (v.2.1 0)), (1, .int a1), (2, .int a2), (3, .int a3), (4, .int a4)]) (by decide) (Nat.le_of_ble_eq_true rfl) rfl ?_
  intro z hz am we tab hR
  subst hz
  have am : wt_Am z R_X bx_compose 7 12 none := am
  rw [show (some () : Option Unit) = (b_U (fx_needRegister a1) fun _ => some ()) from by rw [p0]; rfl]
  show jj_J z 7 0 [(0, .ref (ad_ z 0)), (1, .int a1), (2, .int a2), (3, .int a3), (4, .int a4)] [] (s, t, o) (q_X z (s, t, o) E_O) (b_U (fx_needRegister a1) fun _ => some ())
  refine ji_iload_n (q := 1) am dx_compose_0 rfl 1 rfl rfl ?_
  refine jk_U (q := 4) (rest := []) (fun u hF => jr_S [.int a1] am ln_X_x_needRegister (ctx_needRegister _ _ _ hF) (by omega) rfl rfl (Nat.le_of_ble_eq_true rfl) dx_compose_1) rfl ?_
  intro u1
  refine ji_iload_n (q := 5) am dx_compose_4 rfl 2 rfl rfl ?_
  exact jt_S [.int a2] am we tab hR ln_X_x_needRegister (cn_needRegister _ hF) (by decide) rfl rfl (Nat.le_of_ble_eq_true rfl) dx_compose_5
set_option maxHeartbeats 4000000 in
set_option maxRecDepth 100000 in
theorem cy_compose_2 {v : wt_V} {s : wt_S} {a1 : Int32} {a2 : Int32} {a3 : Int32} {a4 : Int32} (t : wt_M) (o : Nat → Int64) (p0 : fx_needRegister a1 = some ()) (p1 : fx_needRegister a2 = some ()) (hF : fx_needVariable a3 = none) : cx_C v yx_compose (Cond.code yx_compose bx_compose 7 none) 12 [.ref (v.2.1 0), .int a1, .int a2, .int a3, .int a4] (s, t, o) E_O := by
  refine cx_of (lv := [(0, .ref (v.2.1 0)), (1, .int a1), (2, .int a2), (3, .int a3), (4, .int a4)]) (by decide) (Nat.le_of_ble_eq_true rfl) rfl ?_
  intro z hz am we tab hR
  subst hz
  have am : wt_Am z R_X bx_compose 7 12 none := am
  rw [show (some () : Option Unit) = (b_U (fx_needRegister a1) fun _ => b_U (fx_needRegister a2) fun _ => some ()) from by rw [p0, p1]; rfl]
  show jj_J z 7 0 [(0, .ref (ad_ z 0)), (1, .int a1), (2, .int a2), (3, .int a3), (4, .int a4)] [] (s, t, o) (q_X z (s, t, o) E_O) (b_U (fx_needRegister a1) fun _ => b_U (fx_needRegister a2) fun _ => some ())
  refine ji_iload_n (q := 1) am dx_compose_0 rfl 1 rfl rfl ?_
  refine jk_U (q := 4) (rest := []) (fun u hF => jr_S [.int a1] am ln_X_x_needRegister (ctx_needRegister _ _ _ hF) (by omega) rfl rfl (Nat.le_of_ble_eq_true rfl) dx_compose_1) rfl ?_
  intro u1
  refine ji_iload_n (q := 5) am dx_compose_4 rfl 2 rfl rfl ?_
  refine jk_U (q := 8) (rest := []) (fun u hF => jr_S [.int a2] am ln_X_x_needRegister (ctx_needRegister _ _ _ hF) (by omega) rfl rfl (Nat.le_of_ble_eq_true rfl) dx_compose_5) rfl ?_
  intro u5
  refine ji_iload_n (q := 9) am dx_compose_8 rfl 3 rfl rfl ?_
  exact jt_S [.int a3] am we tab hR ln_X_x_needVariable (cn_needVariable _ hF) (by decide) rfl rfl (Nat.le_of_ble_eq_true rfl) dx_compose_9
set_option maxHeartbeats 4000000 in
set_option maxRecDepth 100000 in
theorem cy_compose_3 {v : wt_V} {s : wt_S} {a1 : Int32} {a2 : Int32} {a3 : Int32} {a4 : Int32} (t : wt_M) (o : Nat → Int64) (p0 : fx_needRegister a1 = some ()) (p1 : fx_needRegister a2 = some ()) (p2 : fx_needVariable a3 = some ()) (hF : fx_needRegister a4 = none) : cx_C v yx_compose (Cond.code yx_compose bx_compose 7 none) 12 [.ref (v.2.1 0), .int a1, .int a2, .int a3, .int a4] (s, t, o) E_O := by
  refine cx_of (lv := [(0, .ref (v.2.1 0)), (1, .int a1), (2, .int a2), (3, .int a3), (4, .int a4)]) (by decide) (Nat.le_of_ble_eq_true rfl) rfl ?_
  intro z hz am we tab hR
  subst hz
  have am : wt_Am z R_X bx_compose 7 12 none := am
  rw [show (some () : Option Unit) = (b_U (fx_needRegister a1) fun _ => b_U (fx_needRegister a2) fun _ => b_U (fx_needVariable a3) fun _ => some ()) from by rw [p0, p1, p2]; rfl]
  show jj_J z 7 0 [(0, .ref (ad_ z 0)), (1, .int a1), (2, .int a2), (3, .int a3), (4, .int a4)] [] (s, t, o) (q_X z (s, t, o) E_O) (b_U (fx_needRegister a1) fun _ => b_U (fx_needRegister a2) fun _ => b_U (fx_needVariable a3) fun _ => some ())
  refine ji_iload_n (q := 1) am dx_compose_0 rfl 1 rfl rfl ?_
  refine jk_U (q := 4) (rest := []) (fun u hF => jr_S [.int a1] am ln_X_x_needRegister (ctx_needRegister _ _ _ hF) (by omega) rfl rfl (Nat.le_of_ble_eq_true rfl) dx_compose_1) rfl ?_
  intro u1
  refine ji_iload_n (q := 5) am dx_compose_4 rfl 2 rfl rfl ?_
  refine jk_U (q := 8) (rest := []) (fun u hF => jr_S [.int a2] am ln_X_x_needRegister (ctx_needRegister _ _ _ hF) (by omega) rfl rfl (Nat.le_of_ble_eq_true rfl) dx_compose_5) rfl ?_
  intro u5
  refine ji_iload_n (q := 9) am dx_compose_8 rfl 3 rfl rfl ?_
  refine jk_U (q := 12) (rest := []) (fun u hF => jr_S [.int a3] am ln_X_x_needVariable (ctx_needVariable _ _ _ hF) (by omega) rfl rfl (Nat.le_of_ble_eq_true rfl) dx_compose_9) rfl ?_
  intro u9
  refine ji_iload (q := 14) am dx_compose_12 4 rfl rfl ?_
  exact jt_S [.int a4] am we tab hR ln_X_x_needRegister (cn_needRegister _ hF) (by decide) rfl rfl (Nat.le_of_ble_eq_true rfl) dx_compose_14
set_option maxHeartbeats 4000000 in
set_option maxRecDepth 100000 in
theorem cy_turn_0 {v : wt_V} {s : wt_S} {a1 : Int32} {a2 : Int32} (t : wt_M) (o : Nat → Int64)  (hF : fx_needRegister a1 = none) : cx_C v yx_turn (Cond.code yx_turn bx_turn 3 none) 12 [.ref (v.2.1 0), .int a1, .int a2] (s, t, o) E_O := by
  refine cx_of (lv := [(0, .ref (v.2.1 0)), (1, .int a1), (2, .int a2)]) (by decide) (Nat.le_of_ble_eq_true rfl) rfl ?_
  intro z hz am we tab hR
  subst hz
  have am : wt_Am z R_X bx_turn 3 12 none := am
  show jj_J z 3 0 [(0, .ref (ad_ z 0)), (1, .int a1), (2, .int a2)] [] (s, t, o) (q_X z (s, t, o) E_O) (some ())
  refine ji_iload_n (q := 1) am dx_turn_0 rfl 1 rfl rfl ?_
  exact jt_S [.int a1] am we tab hR ln_X_x_needRegister (cn_needRegister _ hF) (by decide) rfl rfl (Nat.le_of_ble_eq_true rfl) dx_turn_1
set_option maxHeartbeats 4000000 in
set_option maxRecDepth 100000 in
theorem cy_turn_1 {v : wt_V} {s : wt_S} {a1 : Int32} {a2 : Int32} (t : wt_M) (o : Nat → Int64) (p0 : fx_needRegister a1 = some ()) (hF : fx_needRegister a2 = none) : cx_C v yx_turn (Cond.code yx_turn bx_turn 3 none) 12 [.ref (v.2.1 0), .int a1, .int a2] (s, t, o) E_O := by
  refine cx_of (lv := [(0, .ref (v.2.1 0)), (1, .int a1), (2, .int a2)]) (by decide) (Nat.le_of_ble_eq_true rfl) rfl ?_
  intro z hz am we tab hR
  subst hz
  have am : wt_Am z R_X bx_turn 3 12 none := am
  rw [show (some () : Option Unit) = (b_U (fx_needRegister a1) fun _ => some ()) from by rw [p0]; rfl]
  show jj_J z 3 0 [(0, .ref (ad_ z 0)), (1, .int a1), (2, .int a2)] [] (s, t, o) (q_X z (s, t, o) E_O) (b_U (fx_needRegister a1) fun _ => some ())
  refine ji_iload_n (q := 1) am dx_turn_0 rfl 1 rfl rfl ?_
  refine jk_U (q := 4) (rest := []) (fun u hF => jr_S [.int a1] am ln_X_x_needRegister (ctx_needRegister _ _ _ hF) (by omega) rfl rfl (Nat.le_of_ble_eq_true rfl) dx_turn_1) rfl ?_
  intro u1
  refine ji_iload_n (q := 5) am dx_turn_4 rfl 2 rfl rfl ?_
  exact jt_S [.int a2] am we tab hR ln_X_x_needRegister (cn_needRegister _ hF) (by decide) rfl rfl (Nat.le_of_ble_eq_true rfl) dx_turn_5
set_option maxHeartbeats 4000000 in
set_option maxRecDepth 100000 in
theorem cy_truth_0 {v : wt_V} {s : wt_S} {a1 : Int32} {a2 : Int32} (t : wt_M) (o : Nat → Int64)  (hF : fx_needRegister a1 = none) : cx_C v yx_truth (Cond.code yx_truth bx_truth 3 (some .boolean)) 12 [.ref (v.2.1 0), .int a1, .int a2] (s, t, o) E_O := by
  refine cx_of (lv := [(0, .ref (v.2.1 0)), (1, .int a1), (2, .int a2)]) (by decide) (Nat.le_of_ble_eq_true rfl) rfl ?_
  intro z hz am we tab hR
  subst hz
  have am : wt_Am z R_X bx_truth 3 12 (some .boolean) := am
  show jj_J z 3 0 [(0, .ref (ad_ z 0)), (1, .int a1), (2, .int a2)] [] (s, t, o) (q_X z (s, t, o) E_O) (some ())
  refine ji_iload_n (q := 1) am dx_truth_0 rfl 1 rfl rfl ?_
  exact jt_S [.int a1] am we tab hR ln_X_x_needRegister (cn_needRegister _ hF) (by decide) rfl rfl (Nat.le_of_ble_eq_true rfl) dx_truth_1
set_option maxHeartbeats 4000000 in
set_option maxRecDepth 100000 in
theorem cy_truth_1 {v : wt_V} {s : wt_S} {a1 : Int32} {a2 : Int32} (t : wt_M) (o : Nat → Int64) (p0 : fx_needRegister a1 = some ()) (hF : fx_needBelow a2 (256 : Int32) = none) : cx_C v yx_truth (Cond.code yx_truth bx_truth 3 (some .boolean)) 12 [.ref (v.2.1 0), .int a1, .int a2] (s, t, o) E_A := by
  refine cx_of (lv := [(0, .ref (v.2.1 0)), (1, .int a1), (2, .int a2)]) (by decide) (Nat.le_of_ble_eq_true rfl) rfl ?_
  intro z hz am we tab hR
  subst hz
  have am : wt_Am z R_X bx_truth 3 12 (some .boolean) := am
  rw [show (some () : Option Unit) = (b_U (fx_needRegister a1) fun _ => some ()) from by rw [p0]; rfl]
  show jj_J z 3 0 [(0, .ref (ad_ z 0)), (1, .int a1), (2, .int a2)] [] (s, t, o) (q_X z (s, t, o) E_A) (b_U (fx_needRegister a1) fun _ => some ())
  refine ji_iload_n (q := 1) am dx_truth_0 rfl 1 rfl rfl ?_
  refine jk_U (q := 4) (rest := []) (fun u hF => jr_S [.int a1] am ln_X_x_needRegister (ctx_needRegister _ _ _ hF) (by omega) rfl rfl (Nat.le_of_ble_eq_true rfl) dx_truth_1) rfl ?_
  intro u1
  refine ji_iload_n (q := 5) am dx_truth_4 rfl 2 rfl rfl ?_
  refine ji_sipush (q := 8) am dx_truth_5 ks_256 rfl ?_
  exact jt_S [.int a2, .int (256 : Int32)] am we tab hR ln_X_x_needBelow (cn_needBelow _ hF) (by decide) rfl rfl (Nat.le_of_ble_eq_true rfl) dx_truth_8
set_option maxHeartbeats 4000000 in
set_option maxRecDepth 100000 in
theorem cy_same_0 {v : wt_V} {s : wt_S} {a1 : Int32} {a2 : Int32} (t : wt_M) (o : Nat → Int64)  (hF : fx_needRegister a1 = none) : cx_C v yx_same (Cond.code yx_same bx_same 3 (some .boolean)) 12 [.ref (v.2.1 0), .int a1, .int a2] (s, t, o) E_O := by
  refine cx_of (lv := [(0, .ref (v.2.1 0)), (1, .int a1), (2, .int a2)]) (by decide) (Nat.le_of_ble_eq_true rfl) rfl ?_
  intro z hz am we tab hR
  subst hz
  have am : wt_Am z R_X bx_same 3 12 (some .boolean) := am
  show jj_J z 3 0 [(0, .ref (ad_ z 0)), (1, .int a1), (2, .int a2)] [] (s, t, o) (q_X z (s, t, o) E_O) (some ())
  refine ji_iload_n (q := 1) am dx_same_0 rfl 1 rfl rfl ?_
  exact jt_S [.int a1] am we tab hR ln_X_x_needRegister (cn_needRegister _ hF) (by decide) rfl rfl (Nat.le_of_ble_eq_true rfl) dx_same_1
set_option maxHeartbeats 4000000 in
set_option maxRecDepth 100000 in
theorem cy_same_1 {v : wt_V} {s : wt_S} {a1 : Int32} {a2 : Int32} (t : wt_M) (o : Nat → Int64) (p0 : fx_needRegister a1 = some ()) (hF : fx_needRegister a2 = none) : cx_C v yx_same (Cond.code yx_same bx_same 3 (some .boolean)) 12 [.ref (v.2.1 0), .int a1, .int a2] (s, t, o) E_O := by
  refine cx_of (lv := [(0, .ref (v.2.1 0)), (1, .int a1), (2, .int a2)]) (by decide) (Nat.le_of_ble_eq_true rfl) rfl ?_
  intro z hz am we tab hR
  subst hz
  have am : wt_Am z R_X bx_same 3 12 (some .boolean) := am
  rw [show (some () : Option Unit) = (b_U (fx_needRegister a1) fun _ => some ()) from by rw [p0]; rfl]
  show jj_J z 3 0 [(0, .ref (ad_ z 0)), (1, .int a1), (2, .int a2)] [] (s, t, o) (q_X z (s, t, o) E_O) (b_U (fx_needRegister a1) fun _ => some ())
  refine ji_iload_n (q := 1) am dx_same_0 rfl 1 rfl rfl ?_
  refine jk_U (q := 4) (rest := []) (fun u hF => jr_S [.int a1] am ln_X_x_needRegister (ctx_needRegister _ _ _ hF) (by omega) rfl rfl (Nat.le_of_ble_eq_true rfl) dx_same_1) rfl ?_
  intro u1
  refine ji_iload_n (q := 5) am dx_same_4 rfl 2 rfl rfl ?_
  exact jt_S [.int a2] am we tab hR ln_X_x_needRegister (cn_needRegister _ hF) (by decide) rfl rfl (Nat.le_of_ble_eq_true rfl) dx_same_5
set_option maxHeartbeats 4000000 in
set_option maxRecDepth 100000 in
theorem cy_count_0 {v : wt_V} {s : wt_S} {a1 : Int32} (t : wt_M) (o : Nat → Int64)  (hF : fx_needRegister a1 = none) : cx_C v yx_count (Cond.code yx_count bx_count 2 (some .int)) 12 [.ref (v.2.1 0), .int a1] (s, t, o) E_O := by
  refine cx_of (lv := [(0, .ref (v.2.1 0)), (1, .int a1)]) (by decide) (Nat.le_of_ble_eq_true rfl) rfl ?_
  intro z hz am we tab hR
  subst hz
  have am : wt_Am z R_X bx_count 2 12 (some .int) := am
  show jj_J z 2 0 [(0, .ref (ad_ z 0)), (1, .int a1)] [] (s, t, o) (q_X z (s, t, o) E_O) (some ())
  refine ji_iload_n (q := 1) am dx_count_0 rfl 1 rfl rfl ?_
  exact jt_S [.int a1] am we tab hR ln_X_x_needRegister (cn_needRegister _ hF) (by decide) rfl rfl (Nat.le_of_ble_eq_true rfl) dx_count_1
set_option maxHeartbeats 4000000 in
set_option maxRecDepth 100000 in
theorem cy_least_0 {v : wt_V} {s : wt_S} {a1 : Int32} (t : wt_M) (o : Nat → Int64)  (hF : fx_needRegister a1 = none) : cx_C v yx_least (Cond.code yx_least bx_least 4 (some .int)) 12 [.ref (v.2.1 0), .int a1] (s, t, o) E_O := by
  refine cx_of (lv := [(0, .ref (v.2.1 0)), (1, .int a1)]) (by decide) (Nat.le_of_ble_eq_true rfl) rfl ?_
  intro z hz am we tab hR
  subst hz
  have am : wt_Am z R_X bx_least 4 12 (some .int) := am
  show jj_J z 4 0 [(0, .ref (ad_ z 0)), (1, .int a1)] [] (s, t, o) (q_X z (s, t, o) E_O) (some ())
  refine ji_iload_n (q := 1) am dx_least_0 rfl 1 rfl rfl ?_
  exact jt_S [.int a1] am we tab hR ln_X_x_needRegister (cn_needRegister _ hF) (by decide) rfl rfl (Nat.le_of_ble_eq_true rfl) dx_least_1
set_option maxHeartbeats 4000000 in
set_option maxRecDepth 100000 in
theorem cy_depends_0 {v : wt_V} {s : wt_S} {a1 : Int32} (t : wt_M) (o : Nat → Int64)  (hF : fx_needRegister a1 = none) : cx_C v yx_depends (Cond.code yx_depends bx_depends 2 (some .int)) 12 [.ref (v.2.1 0), .int a1] (s, t, o) E_O := by
  refine cx_of (lv := [(0, .ref (v.2.1 0)), (1, .int a1)]) (by decide) (Nat.le_of_ble_eq_true rfl) rfl ?_
  intro z hz am we tab hR
  subst hz
  have am : wt_Am z R_X bx_depends 2 12 (some .int) := am
  show jj_J z 2 0 [(0, .ref (ad_ z 0)), (1, .int a1)] [] (s, t, o) (q_X z (s, t, o) E_O) (some ())
  refine ji_iload_n (q := 1) am dx_depends_0 rfl 1 rfl rfl ?_
  exact jt_S [.int a1] am we tab hR ln_X_x_needRegister (cn_needRegister _ hF) (by decide) rfl rfl (Nat.le_of_ble_eq_true rfl) dx_depends_1
set_option maxHeartbeats 4000000 in
set_option maxRecDepth 100000 in
theorem cy_nodes_0 {v : wt_V} {s : wt_S} {a1 : Int32} (t : wt_M) (o : Nat → Int64)  (hF : fx_needRegister a1 = none) : cx_C v yx_nodes (Cond.code yx_nodes bx_nodes 2 (some .int)) 12 [.ref (v.2.1 0), .int a1] (s, t, o) E_O := by
  refine cx_of (lv := [(0, .ref (v.2.1 0)), (1, .int a1)]) (by decide) (Nat.le_of_ble_eq_true rfl) rfl ?_
  intro z hz am we tab hR
  subst hz
  have am : wt_Am z R_X bx_nodes 2 12 (some .int) := am
  show jj_J z 2 0 [(0, .ref (ad_ z 0)), (1, .int a1)] [] (s, t, o) (q_X z (s, t, o) E_O) (some ())
  refine ji_iload_n (q := 1) am dx_nodes_0 rfl 1 rfl rfl ?_
  exact jt_S [.int a1] am we tab hR ln_X_x_needRegister (cn_needRegister _ hF) (by decide) rfl rfl (Nat.le_of_ble_eq_true rfl) dx_nodes_1
set_option maxHeartbeats 4000000 in
set_option maxRecDepth 100000 in
theorem cy_order_0 {v : wt_V} {s : wt_S} {a1 : Int32} (t : wt_M) (o : Nat → Int64)  (hF : fx_needLevel a1 (8 : Int32) = none) : cx_C v yx_order (Cond.code yx_order bx_order 2 (some .int)) 12 [.ref (v.2.1 0), .int a1] (s, t, o) E_O := by
  refine cx_of (lv := [(0, .ref (v.2.1 0)), (1, .int a1)]) (by decide) (Nat.le_of_ble_eq_true rfl) rfl ?_
  intro z hz am we tab hR
  subst hz
  have am : wt_Am z R_X bx_order 2 12 (some .int) := am
  show jj_J z 2 0 [(0, .ref (ad_ z 0)), (1, .int a1)] [] (s, t, o) (q_X z (s, t, o) E_O) (some ())
  refine ji_iload_n (q := 1) am dx_order_0 rfl 1 rfl rfl ?_
  refine ji_bipush (q := 3) am dx_order_1 kb_8 rfl ?_
  exact jt_S [.int a1, .int (8 : Int32)] am we tab hR ln_X_x_needLevel (cn_needLevel _ hF) (by decide) rfl rfl (Nat.le_of_ble_eq_true rfl) dx_order_3
set_option maxHeartbeats 4000000 in
set_option maxRecDepth 100000 in
theorem cy_swap_0 {v : wt_V} {s : wt_S} {a1 : Int32} (t : wt_M) (o : Nat → Int64)  (hF : fx_needLevel a1 (7 : Int32) = none) : cx_C v yx_swap (Cond.code yx_swap bx_swap 2 (some .int)) 12 [.ref (v.2.1 0), .int a1] (s, t, o) E_O := by
  refine cx_of (lv := [(0, .ref (v.2.1 0)), (1, .int a1)]) (by decide) (Nat.le_of_ble_eq_true rfl) rfl ?_
  intro z hz am we tab hR
  subst hz
  have am : wt_Am z R_X bx_swap 2 12 (some .int) := am
  show jj_J z 2 0 [(0, .ref (ad_ z 0)), (1, .int a1)] [] (s, t, o) (q_X z (s, t, o) E_O) (some ())
  refine ji_iload_n (q := 1) am dx_swap_0 rfl 1 rfl rfl ?_
  refine ji_bipush (q := 3) am dx_swap_1 kb_7 rfl ?_
  exact jt_S [.int a1, .int (7 : Int32)] am we tab hR ln_X_x_needLevel (cn_needLevel _ hF) (by decide) rfl rfl (Nat.le_of_ble_eq_true rfl) dx_swap_3
set_option maxHeartbeats 4000000 in
set_option maxRecDepth 100000 in
theorem cy_place_0 {v : wt_V} {s : wt_S} {a1 : Int32} {a2 : Int32} (t : wt_M) (o : Nat → Int64)  (hF : fx_needVariable a1 = none) : cx_C v yx_place (Cond.code yx_place bx_place 3 (some .int)) 12 [.ref (v.2.1 0), .int a1, .int a2] (s, t, o) E_O := by
  refine cx_of (lv := [(0, .ref (v.2.1 0)), (1, .int a1), (2, .int a2)]) (by decide) (Nat.le_of_ble_eq_true rfl) rfl ?_
  intro z hz am we tab hR
  subst hz
  have am : wt_Am z R_X bx_place 3 12 (some .int) := am
  show jj_J z 3 0 [(0, .ref (ad_ z 0)), (1, .int a1), (2, .int a2)] [] (s, t, o) (q_X z (s, t, o) E_O) (some ())
  refine ji_iload_n (q := 1) am dx_place_0 rfl 1 rfl rfl ?_
  exact jt_S [.int a1] am we tab hR ln_X_x_needVariable (cn_needVariable _ hF) (by decide) rfl rfl (Nat.le_of_ble_eq_true rfl) dx_place_1
set_option maxHeartbeats 4000000 in
set_option maxRecDepth 100000 in
theorem cy_place_1 {v : wt_V} {s : wt_S} {a1 : Int32} {a2 : Int32} (t : wt_M) (o : Nat → Int64) (p0 : fx_needVariable a1 = some ()) (hF : fx_needLevel a2 (8 : Int32) = none) : cx_C v yx_place (Cond.code yx_place bx_place 3 (some .int)) 12 [.ref (v.2.1 0), .int a1, .int a2] (s, t, o) E_O := by
  refine cx_of (lv := [(0, .ref (v.2.1 0)), (1, .int a1), (2, .int a2)]) (by decide) (Nat.le_of_ble_eq_true rfl) rfl ?_
  intro z hz am we tab hR
  subst hz
  have am : wt_Am z R_X bx_place 3 12 (some .int) := am
  rw [show (some () : Option Unit) = (b_U (fx_needVariable a1) fun _ => some ()) from by rw [p0]; rfl]
  show jj_J z 3 0 [(0, .ref (ad_ z 0)), (1, .int a1), (2, .int a2)] [] (s, t, o) (q_X z (s, t, o) E_O) (b_U (fx_needVariable a1) fun _ => some ())
  refine ji_iload_n (q := 1) am dx_place_0 rfl 1 rfl rfl ?_
  refine jk_U (q := 4) (rest := []) (fun u hF => jr_S [.int a1] am ln_X_x_needVariable (ctx_needVariable _ _ _ hF) (by omega) rfl rfl (Nat.le_of_ble_eq_true rfl) dx_place_1) rfl ?_
  intro u1
  refine ji_iload_n (q := 5) am dx_place_4 rfl 2 rfl rfl ?_
  refine ji_bipush (q := 7) am dx_place_5 kb_8 rfl ?_
  exact jt_S [.int a2, .int (8 : Int32)] am we tab hR ln_X_x_needLevel (cn_needLevel _ hF) (by decide) rfl rfl (Nat.le_of_ble_eq_true rfl) dx_place_7
set_option maxHeartbeats 4000000 in
set_option maxRecDepth 100000 in
theorem cy_sift_0 {v : wt_V} {s : wt_S} {a1 : Int32} (t : wt_M) (o : Nat → Int64)  (hF : fx_needVariable a1 = none) : cx_C v yx_sift (Cond.code yx_sift bx_sift 5 (some .int)) 12 [.ref (v.2.1 0), .int a1] (s, t, o) E_O := by
  refine cx_of (lv := [(0, .ref (v.2.1 0)), (1, .int a1)]) (by decide) (Nat.le_of_ble_eq_true rfl) rfl ?_
  intro z hz am we tab hR
  subst hz
  have am : wt_Am z R_X bx_sift 5 12 (some .int) := am
  show jj_J z 5 0 [(0, .ref (ad_ z 0)), (1, .int a1)] [] (s, t, o) (q_X z (s, t, o) E_O) (some ())
  refine ji_iload_n (q := 1) am dx_sift_0 rfl 1 rfl rfl ?_
  exact jt_S [.int a1] am we tab hR ln_X_x_needVariable (cn_needVariable _ hF) (by decide) rfl rfl (Nat.le_of_ble_eq_true rfl) dx_sift_1
set_option maxHeartbeats 4000000 in
set_option maxRecDepth 100000 in
theorem cy_image_0 {v : wt_V} {s : wt_S} {a1 : Int32} {a2 : Int32} {a3 : Int32} (t : wt_M) (o : Nat → Int64)  (hF : fx_needRegister a1 = none) : cx_C v yx_image (Cond.code yx_image bx_image 4 (some .int)) 12 [.ref (v.2.1 0), .int a1, .int a2, .int a3] (s, t, o) E_O := by
  refine cx_of (lv := [(0, .ref (v.2.1 0)), (1, .int a1), (2, .int a2), (3, .int a3)]) (by decide) (Nat.le_of_ble_eq_true rfl) rfl ?_
  intro z hz am we tab hR
  subst hz
  have am : wt_Am z R_X bx_image 4 12 (some .int) := am
  show jj_J z 4 0 [(0, .ref (ad_ z 0)), (1, .int a1), (2, .int a2), (3, .int a3)] [] (s, t, o) (q_X z (s, t, o) E_O) (some ())
  refine ji_iload_n (q := 1) am dx_image_0 rfl 1 rfl rfl ?_
  exact jt_S [.int a1] am we tab hR ln_X_x_needRegister (cn_needRegister _ hF) (by decide) rfl rfl (Nat.le_of_ble_eq_true rfl) dx_image_1
set_option maxHeartbeats 4000000 in
set_option maxRecDepth 100000 in
theorem cy_image_1 {v : wt_V} {s : wt_S} {a1 : Int32} {a2 : Int32} {a3 : Int32} (t : wt_M) (o : Nat → Int64) (p0 : fx_needRegister a1 = some ()) (hF : fx_needRegister a2 = none) : cx_C v yx_image (Cond.code yx_image bx_image 4 (some .int)) 12 [.ref (v.2.1 0), .int a1, .int a2, .int a3] (s, t, o) E_O := by
  refine cx_of (lv := [(0, .ref (v.2.1 0)), (1, .int a1), (2, .int a2), (3, .int a3)]) (by decide) (Nat.le_of_ble_eq_true rfl) rfl ?_
  intro z hz am we tab hR
  subst hz
  have am : wt_Am z R_X bx_image 4 12 (some .int) := am
  rw [show (some () : Option Unit) = (b_U (fx_needRegister a1) fun _ => some ()) from by rw [p0]; rfl]
  show jj_J z 4 0 [(0, .ref (ad_ z 0)), (1, .int a1), (2, .int a2), (3, .int a3)] [] (s, t, o) (q_X z (s, t, o) E_O) (b_U (fx_needRegister a1) fun _ => some ())
  refine ji_iload_n (q := 1) am dx_image_0 rfl 1 rfl rfl ?_
  refine jk_U (q := 4) (rest := []) (fun u hF => jr_S [.int a1] am ln_X_x_needRegister (ctx_needRegister _ _ _ hF) (by omega) rfl rfl (Nat.le_of_ble_eq_true rfl) dx_image_1) rfl ?_
  intro u1
  refine ji_iload_n (q := 5) am dx_image_4 rfl 2 rfl rfl ?_
  exact jt_S [.int a2] am we tab hR ln_X_x_needRegister (cn_needRegister _ hF) (by decide) rfl rfl (Nat.le_of_ble_eq_true rfl) dx_image_5
set_option maxHeartbeats 4000000 in
set_option maxRecDepth 100000 in
theorem cy_image_2 {v : wt_V} {s : wt_S} {a1 : Int32} {a2 : Int32} {a3 : Int32} (t : wt_M) (o : Nat → Int64) (p0 : fx_needRegister a1 = some ()) (p1 : fx_needRegister a2 = some ()) (hF : fx_needRegister a3 = none) : cx_C v yx_image (Cond.code yx_image bx_image 4 (some .int)) 12 [.ref (v.2.1 0), .int a1, .int a2, .int a3] (s, t, o) E_O := by
  refine cx_of (lv := [(0, .ref (v.2.1 0)), (1, .int a1), (2, .int a2), (3, .int a3)]) (by decide) (Nat.le_of_ble_eq_true rfl) rfl ?_
  intro z hz am we tab hR
  subst hz
  have am : wt_Am z R_X bx_image 4 12 (some .int) := am
  rw [show (some () : Option Unit) = (b_U (fx_needRegister a1) fun _ => b_U (fx_needRegister a2) fun _ => some ()) from by rw [p0, p1]; rfl]
  show jj_J z 4 0 [(0, .ref (ad_ z 0)), (1, .int a1), (2, .int a2), (3, .int a3)] [] (s, t, o) (q_X z (s, t, o) E_O) (b_U (fx_needRegister a1) fun _ => b_U (fx_needRegister a2) fun _ => some ())
  refine ji_iload_n (q := 1) am dx_image_0 rfl 1 rfl rfl ?_
  refine jk_U (q := 4) (rest := []) (fun u hF => jr_S [.int a1] am ln_X_x_needRegister (ctx_needRegister _ _ _ hF) (by omega) rfl rfl (Nat.le_of_ble_eq_true rfl) dx_image_1) rfl ?_
  intro u1
  refine ji_iload_n (q := 5) am dx_image_4 rfl 2 rfl rfl ?_
  refine jk_U (q := 8) (rest := []) (fun u hF => jr_S [.int a2] am ln_X_x_needRegister (ctx_needRegister _ _ _ hF) (by omega) rfl rfl (Nat.le_of_ble_eq_true rfl) dx_image_5) rfl ?_
  intro u5
  refine ji_iload_n (q := 9) am dx_image_8 rfl 3 rfl rfl ?_
  exact jt_S [.int a3] am we tab hR ln_X_x_needRegister (cn_needRegister _ hF) (by decide) rfl rfl (Nat.le_of_ble_eq_true rfl) dx_image_9
set_option maxHeartbeats 4000000 in
set_option maxRecDepth 100000 in
theorem cy_image_3 {v : wt_V} {s : wt_S} {a1 : Int32} {a2 : Int32} {a3 : Int32} (t : wt_M) (o : Nat → Int64) (p0 : fx_needRegister a1 = some ()) (p1 : fx_needRegister a2 = some ()) (p2 : fx_needRegister a3 = some ()) (hF : fy_needSet s a3 = some ()) : cx_C v yx_image (Cond.code yx_image bx_image 4 (some .int)) 12 [.ref (v.2.1 0), .int a1, .int a2, .int a3] (s, t, o) E_S := by
  refine cx_of (lv := [(0, .ref (v.2.1 0)), (1, .int a1), (2, .int a2), (3, .int a3)]) (by decide) (Nat.le_of_ble_eq_true rfl) rfl ?_
  intro z hz am we tab hR
  subst hz
  have am : wt_Am z R_X bx_image 4 12 (some .int) := am
  rw [show (some () : Option Unit) = (b_U (fx_needRegister a1) fun _ => b_U (fx_needRegister a2) fun _ => b_U (fx_needRegister a3) fun _ => some ()) from by rw [p0, p1, p2]; rfl]
  show jj_J z 4 0 [(0, .ref (ad_ z 0)), (1, .int a1), (2, .int a2), (3, .int a3)] [] (s, t, o) (q_X z (s, t, o) E_S) (b_U (fx_needRegister a1) fun _ => b_U (fx_needRegister a2) fun _ => b_U (fx_needRegister a3) fun _ => some ())
  refine ji_iload_n (q := 1) am dx_image_0 rfl 1 rfl rfl ?_
  refine jk_U (q := 4) (rest := []) (fun u hF => jr_S [.int a1] am ln_X_x_needRegister (ctx_needRegister _ _ _ hF) (by omega) rfl rfl (Nat.le_of_ble_eq_true rfl) dx_image_1) rfl ?_
  intro u1
  refine ji_iload_n (q := 5) am dx_image_4 rfl 2 rfl rfl ?_
  refine jk_U (q := 8) (rest := []) (fun u hF => jr_S [.int a2] am ln_X_x_needRegister (ctx_needRegister _ _ _ hF) (by omega) rfl rfl (Nat.le_of_ble_eq_true rfl) dx_image_5) rfl ?_
  intro u5
  refine ji_iload_n (q := 9) am dx_image_8 rfl 3 rfl rfl ?_
  refine jk_U (q := 12) (rest := []) (fun u hF => jr_S [.int a3] am ln_X_x_needRegister (ctx_needRegister _ _ _ hF) (by omega) rfl rfl (Nat.le_of_ble_eq_true rfl) dx_image_9) rfl ?_
  intro u9
  refine ji_aload_n (q := 13) am dx_image_12 rfl 0 rfl rfl ?_
  refine ji_iload_n (q := 14) am dx_image_13 rfl 3 rfl rfl ?_
  exact jt_V [.int a3] am we tab hR ln_X_x_needSet (cn_needSet _ _ hF) (by decide) (rc_X am) rfl rfl (Nat.le_of_ble_eq_true rfl) dx_image_14
set_option maxHeartbeats 4000000 in
set_option maxRecDepth 100000 in
theorem cy_reach_0 {v : wt_V} {s : wt_S} {a1 : Int32} {a2 : Int32} {a3 : Int32} (t : wt_M) (o : Nat → Int64)  (hF : fx_needRegister a1 = none) : cx_C v yx_reach (Cond.code yx_reach bx_reach 9 (some .int)) 12 [.ref (v.2.1 0), .int a1, .int a2, .int a3] (s, t, o) E_O := by
  refine cx_of (lv := [(0, .ref (v.2.1 0)), (1, .int a1), (2, .int a2), (3, .int a3)]) (by decide) (Nat.le_of_ble_eq_true rfl) rfl ?_
  intro z hz am we tab hR
  subst hz
  have am : wt_Am z R_X bx_reach 9 12 (some .int) := am
  show jj_J z 9 0 [(0, .ref (ad_ z 0)), (1, .int a1), (2, .int a2), (3, .int a3)] [] (s, t, o) (q_X z (s, t, o) E_O) (some ())
  refine ji_iload_n (q := 1) am dx_reach_0 rfl 1 rfl rfl ?_
  exact jt_S [.int a1] am we tab hR ln_X_x_needRegister (cn_needRegister _ hF) (by decide) rfl rfl (Nat.le_of_ble_eq_true rfl) dx_reach_1
set_option maxHeartbeats 4000000 in
set_option maxRecDepth 100000 in
theorem cy_reach_1 {v : wt_V} {s : wt_S} {a1 : Int32} {a2 : Int32} {a3 : Int32} (t : wt_M) (o : Nat → Int64) (p0 : fx_needRegister a1 = some ()) (hF : fx_needRegister a2 = none) : cx_C v yx_reach (Cond.code yx_reach bx_reach 9 (some .int)) 12 [.ref (v.2.1 0), .int a1, .int a2, .int a3] (s, t, o) E_O := by
  refine cx_of (lv := [(0, .ref (v.2.1 0)), (1, .int a1), (2, .int a2), (3, .int a3)]) (by decide) (Nat.le_of_ble_eq_true rfl) rfl ?_
  intro z hz am we tab hR
  subst hz
  have am : wt_Am z R_X bx_reach 9 12 (some .int) := am
  rw [show (some () : Option Unit) = (b_U (fx_needRegister a1) fun _ => some ()) from by rw [p0]; rfl]
  show jj_J z 9 0 [(0, .ref (ad_ z 0)), (1, .int a1), (2, .int a2), (3, .int a3)] [] (s, t, o) (q_X z (s, t, o) E_O) (b_U (fx_needRegister a1) fun _ => some ())
  refine ji_iload_n (q := 1) am dx_reach_0 rfl 1 rfl rfl ?_
  refine jk_U (q := 4) (rest := []) (fun u hF => jr_S [.int a1] am ln_X_x_needRegister (ctx_needRegister _ _ _ hF) (by omega) rfl rfl (Nat.le_of_ble_eq_true rfl) dx_reach_1) rfl ?_
  intro u1
  refine ji_iload_n (q := 5) am dx_reach_4 rfl 2 rfl rfl ?_
  exact jt_S [.int a2] am we tab hR ln_X_x_needRegister (cn_needRegister _ hF) (by decide) rfl rfl (Nat.le_of_ble_eq_true rfl) dx_reach_5
set_option maxHeartbeats 4000000 in
set_option maxRecDepth 100000 in
theorem cy_reach_2 {v : wt_V} {s : wt_S} {a1 : Int32} {a2 : Int32} {a3 : Int32} (t : wt_M) (o : Nat → Int64) (p0 : fx_needRegister a1 = some ()) (p1 : fx_needRegister a2 = some ()) (hF : fx_needRegister a3 = none) : cx_C v yx_reach (Cond.code yx_reach bx_reach 9 (some .int)) 12 [.ref (v.2.1 0), .int a1, .int a2, .int a3] (s, t, o) E_O := by
  refine cx_of (lv := [(0, .ref (v.2.1 0)), (1, .int a1), (2, .int a2), (3, .int a3)]) (by decide) (Nat.le_of_ble_eq_true rfl) rfl ?_
  intro z hz am we tab hR
  subst hz
  have am : wt_Am z R_X bx_reach 9 12 (some .int) := am
  rw [show (some () : Option Unit) = (b_U (fx_needRegister a1) fun _ => b_U (fx_needRegister a2) fun _ => some ()) from by rw [p0, p1]; rfl]
  show jj_J z 9 0 [(0, .ref (ad_ z 0)), (1, .int a1), (2, .int a2), (3, .int a3)] [] (s, t, o) (q_X z (s, t, o) E_O) (b_U (fx_needRegister a1) fun _ => b_U (fx_needRegister a2) fun _ => some ())
  refine ji_iload_n (q := 1) am dx_reach_0 rfl 1 rfl rfl ?_
  refine jk_U (q := 4) (rest := []) (fun u hF => jr_S [.int a1] am ln_X_x_needRegister (ctx_needRegister _ _ _ hF) (by omega) rfl rfl (Nat.le_of_ble_eq_true rfl) dx_reach_1) rfl ?_
  intro u1
  refine ji_iload_n (q := 5) am dx_reach_4 rfl 2 rfl rfl ?_
  refine jk_U (q := 8) (rest := []) (fun u hF => jr_S [.int a2] am ln_X_x_needRegister (ctx_needRegister _ _ _ hF) (by omega) rfl rfl (Nat.le_of_ble_eq_true rfl) dx_reach_5) rfl ?_
  intro u5
  refine ji_iload_n (q := 9) am dx_reach_8 rfl 3 rfl rfl ?_
  exact jt_S [.int a3] am we tab hR ln_X_x_needRegister (cn_needRegister _ hF) (by decide) rfl rfl (Nat.le_of_ble_eq_true rfl) dx_reach_9
set_option maxHeartbeats 4000000 in
set_option maxRecDepth 100000 in
theorem cy_reach_3 {v : wt_V} {s : wt_S} {a1 : Int32} {a2 : Int32} {a3 : Int32} (t : wt_M) (o : Nat → Int64) (p0 : fx_needRegister a1 = some ()) (p1 : fx_needRegister a2 = some ()) (p2 : fx_needRegister a3 = some ()) (hF : fy_needSet s a3 = some ()) : cx_C v yx_reach (Cond.code yx_reach bx_reach 9 (some .int)) 12 [.ref (v.2.1 0), .int a1, .int a2, .int a3] (s, t, o) E_S := by
  refine cx_of (lv := [(0, .ref (v.2.1 0)), (1, .int a1), (2, .int a2), (3, .int a3)]) (by decide) (Nat.le_of_ble_eq_true rfl) rfl ?_
  intro z hz am we tab hR
  subst hz
  have am : wt_Am z R_X bx_reach 9 12 (some .int) := am
  rw [show (some () : Option Unit) = (b_U (fx_needRegister a1) fun _ => b_U (fx_needRegister a2) fun _ => b_U (fx_needRegister a3) fun _ => some ()) from by rw [p0, p1, p2]; rfl]
  show jj_J z 9 0 [(0, .ref (ad_ z 0)), (1, .int a1), (2, .int a2), (3, .int a3)] [] (s, t, o) (q_X z (s, t, o) E_S) (b_U (fx_needRegister a1) fun _ => b_U (fx_needRegister a2) fun _ => b_U (fx_needRegister a3) fun _ => some ())
  refine ji_iload_n (q := 1) am dx_reach_0 rfl 1 rfl rfl ?_
  refine jk_U (q := 4) (rest := []) (fun u hF => jr_S [.int a1] am ln_X_x_needRegister (ctx_needRegister _ _ _ hF) (by omega) rfl rfl (Nat.le_of_ble_eq_true rfl) dx_reach_1) rfl ?_
  intro u1
  refine ji_iload_n (q := 5) am dx_reach_4 rfl 2 rfl rfl ?_
  refine jk_U (q := 8) (rest := []) (fun u hF => jr_S [.int a2] am ln_X_x_needRegister (ctx_needRegister _ _ _ hF) (by omega) rfl rfl (Nat.le_of_ble_eq_true rfl) dx_reach_5) rfl ?_
  intro u5
  refine ji_iload_n (q := 9) am dx_reach_8 rfl 3 rfl rfl ?_
  refine jk_U (q := 12) (rest := []) (fun u hF => jr_S [.int a3] am ln_X_x_needRegister (ctx_needRegister _ _ _ hF) (by omega) rfl rfl (Nat.le_of_ble_eq_true rfl) dx_reach_9) rfl ?_
  intro u9
  refine ji_aload_n (q := 13) am dx_reach_12 rfl 0 rfl rfl ?_
  refine ji_iload_n (q := 14) am dx_reach_13 rfl 3 rfl rfl ?_
  exact jt_V [.int a3] am we tab hR ln_X_x_needSet (cn_needSet _ _ hF) (by decide) (rc_X am) rfl rfl (Nat.le_of_ble_eq_true rfl) dx_reach_14
set_option maxHeartbeats 4000000 in
set_option maxRecDepth 100000 in
theorem cy_check_0 {v : wt_V} {s : wt_S} {a1 : Int32} {a2 : Int32} {a3 : Int32} {a4 : Int32} {a5 : Int32} (t : wt_M) (o : Nat → Int64)  (hF : fx_needRegister a1 = none) : cx_C v yx_check (Cond.code yx_check bx_check 14 (some .int)) 12 [.ref (v.2.1 0), .int a1, .int a2, .int a3, .int a4, .int a5] (s, t, o) E_O := by
  refine cx_of (lv := [(0, .ref (v.2.1 0)), (1, .int a1), (2, .int a2), (3, .int a3), (4, .int a4), (5, .int a5)]) (by decide) (Nat.le_of_ble_eq_true rfl) rfl ?_
  intro z hz am we tab hR
  subst hz
  have am : wt_Am z R_X bx_check 14 12 (some .int) := am
  show jj_J z 14 0 [(0, .ref (ad_ z 0)), (1, .int a1), (2, .int a2), (3, .int a3), (4, .int a4), (5, .int a5)] [] (s, t, o) (q_X z (s, t, o) E_O) (some ())
  refine ji_iload_n (q := 1) am dx_check_0 rfl 1 rfl rfl ?_
  exact jt_S [.int a1] am we tab hR ln_X_x_needRegister (cn_needRegister _ hF) (by decide) rfl rfl (Nat.le_of_ble_eq_true rfl) dx_check_1
set_option maxHeartbeats 4000000 in
set_option maxRecDepth 100000 in
theorem cy_check_1 {v : wt_V} {s : wt_S} {a1 : Int32} {a2 : Int32} {a3 : Int32} {a4 : Int32} {a5 : Int32} (t : wt_M) (o : Nat → Int64) (p0 : fx_needRegister a1 = some ()) (hF : fx_needRegister a2 = none) : cx_C v yx_check (Cond.code yx_check bx_check 14 (some .int)) 12 [.ref (v.2.1 0), .int a1, .int a2, .int a3, .int a4, .int a5] (s, t, o) E_O := by
  refine cx_of (lv := [(0, .ref (v.2.1 0)), (1, .int a1), (2, .int a2), (3, .int a3), (4, .int a4), (5, .int a5)]) (by decide) (Nat.le_of_ble_eq_true rfl) rfl ?_
  intro z hz am we tab hR
  subst hz
  have am : wt_Am z R_X bx_check 14 12 (some .int) := am
  rw [show (some () : Option Unit) = (b_U (fx_needRegister a1) fun _ => some ()) from by rw [p0]; rfl]
  show jj_J z 14 0 [(0, .ref (ad_ z 0)), (1, .int a1), (2, .int a2), (3, .int a3), (4, .int a4), (5, .int a5)] [] (s, t, o) (q_X z (s, t, o) E_O) (b_U (fx_needRegister a1) fun _ => some ())
  refine ji_iload_n (q := 1) am dx_check_0 rfl 1 rfl rfl ?_
  refine jk_U (q := 4) (rest := []) (fun u hF => jr_S [.int a1] am ln_X_x_needRegister (ctx_needRegister _ _ _ hF) (by omega) rfl rfl (Nat.le_of_ble_eq_true rfl) dx_check_1) rfl ?_
  intro u1
  refine ji_iload_n (q := 5) am dx_check_4 rfl 2 rfl rfl ?_
  exact jt_S [.int a2] am we tab hR ln_X_x_needRegister (cn_needRegister _ hF) (by decide) rfl rfl (Nat.le_of_ble_eq_true rfl) dx_check_5
set_option maxHeartbeats 4000000 in
set_option maxRecDepth 100000 in
theorem cy_check_2 {v : wt_V} {s : wt_S} {a1 : Int32} {a2 : Int32} {a3 : Int32} {a4 : Int32} {a5 : Int32} (t : wt_M) (o : Nat → Int64) (p0 : fx_needRegister a1 = some ()) (p1 : fx_needRegister a2 = some ()) (hF : fx_needRegister a4 = none) : cx_C v yx_check (Cond.code yx_check bx_check 14 (some .int)) 12 [.ref (v.2.1 0), .int a1, .int a2, .int a3, .int a4, .int a5] (s, t, o) E_O := by
  refine cx_of (lv := [(0, .ref (v.2.1 0)), (1, .int a1), (2, .int a2), (3, .int a3), (4, .int a4), (5, .int a5)]) (by decide) (Nat.le_of_ble_eq_true rfl) rfl ?_
  intro z hz am we tab hR
  subst hz
  have am : wt_Am z R_X bx_check 14 12 (some .int) := am
  rw [show (some () : Option Unit) = (b_U (fx_needRegister a1) fun _ => b_U (fx_needRegister a2) fun _ => some ()) from by rw [p0, p1]; rfl]
  show jj_J z 14 0 [(0, .ref (ad_ z 0)), (1, .int a1), (2, .int a2), (3, .int a3), (4, .int a4), (5, .int a5)] [] (s, t, o) (q_X z (s, t, o) E_O) (b_U (fx_needRegister a1) fun _ => b_U (fx_needRegister a2) fun _ => some ())
  refine ji_iload_n (q := 1) am dx_check_0 rfl 1 rfl rfl ?_
  refine jk_U (q := 4) (rest := []) (fun u hF => jr_S [.int a1] am ln_X_x_needRegister (ctx_needRegister _ _ _ hF) (by omega) rfl rfl (Nat.le_of_ble_eq_true rfl) dx_check_1) rfl ?_
  intro u1
  refine ji_iload_n (q := 5) am dx_check_4 rfl 2 rfl rfl ?_
  refine jk_U (q := 8) (rest := []) (fun u hF => jr_S [.int a2] am ln_X_x_needRegister (ctx_needRegister _ _ _ hF) (by omega) rfl rfl (Nat.le_of_ble_eq_true rfl) dx_check_5) rfl ?_
  intro u5
  refine ji_iload (q := 10) am dx_check_8 4 rfl rfl ?_
  exact jt_S [.int a4] am we tab hR ln_X_x_needRegister (cn_needRegister _ hF) (by decide) rfl rfl (Nat.le_of_ble_eq_true rfl) dx_check_10
set_option maxHeartbeats 4000000 in
set_option maxRecDepth 100000 in
theorem cy_check_3 {v : wt_V} {s : wt_S} {a1 : Int32} {a2 : Int32} {a3 : Int32} {a4 : Int32} {a5 : Int32} (t : wt_M) (o : Nat → Int64) (p0 : fx_needRegister a1 = some ()) (p1 : fx_needRegister a2 = some ()) (p2 : fx_needRegister a4 = some ()) (hF : fx_needRegister a5 = none) : cx_C v yx_check (Cond.code yx_check bx_check 14 (some .int)) 12 [.ref (v.2.1 0), .int a1, .int a2, .int a3, .int a4, .int a5] (s, t, o) E_O := by
  refine cx_of (lv := [(0, .ref (v.2.1 0)), (1, .int a1), (2, .int a2), (3, .int a3), (4, .int a4), (5, .int a5)]) (by decide) (Nat.le_of_ble_eq_true rfl) rfl ?_
  intro z hz am we tab hR
  subst hz
  have am : wt_Am z R_X bx_check 14 12 (some .int) := am
  rw [show (some () : Option Unit) = (b_U (fx_needRegister a1) fun _ => b_U (fx_needRegister a2) fun _ => b_U (fx_needRegister a4) fun _ => some ()) from by rw [p0, p1, p2]; rfl]
  show jj_J z 14 0 [(0, .ref (ad_ z 0)), (1, .int a1), (2, .int a2), (3, .int a3), (4, .int a4), (5, .int a5)] [] (s, t, o) (q_X z (s, t, o) E_O) (b_U (fx_needRegister a1) fun _ => b_U (fx_needRegister a2) fun _ => b_U (fx_needRegister a4) fun _ => some ())
  refine ji_iload_n (q := 1) am dx_check_0 rfl 1 rfl rfl ?_
  refine jk_U (q := 4) (rest := []) (fun u hF => jr_S [.int a1] am ln_X_x_needRegister (ctx_needRegister _ _ _ hF) (by omega) rfl rfl (Nat.le_of_ble_eq_true rfl) dx_check_1) rfl ?_
  intro u1
  refine ji_iload_n (q := 5) am dx_check_4 rfl 2 rfl rfl ?_
  refine jk_U (q := 8) (rest := []) (fun u hF => jr_S [.int a2] am ln_X_x_needRegister (ctx_needRegister _ _ _ hF) (by omega) rfl rfl (Nat.le_of_ble_eq_true rfl) dx_check_5) rfl ?_
  intro u5
  refine ji_iload (q := 10) am dx_check_8 4 rfl rfl ?_
  refine jk_U (q := 13) (rest := []) (fun u hF => jr_S [.int a4] am ln_X_x_needRegister (ctx_needRegister _ _ _ hF) (by omega) rfl rfl (Nat.le_of_ble_eq_true rfl) dx_check_10) rfl ?_
  intro u10
  refine ji_iload (q := 15) am dx_check_13 5 rfl rfl ?_
  exact jt_S [.int a5] am we tab hR ln_X_x_needRegister (cn_needRegister _ hF) (by decide) rfl rfl (Nat.le_of_ble_eq_true rfl) dx_check_15
set_option maxHeartbeats 4000000 in
set_option maxRecDepth 100000 in
theorem cy_check_4 {v : wt_V} {s : wt_S} {a1 : Int32} {a2 : Int32} {a3 : Int32} {a4 : Int32} {a5 : Int32} (t : wt_M) (o : Nat → Int64) (p0 : fx_needRegister a1 = some ()) (p1 : fx_needRegister a2 = some ()) (p2 : fx_needRegister a4 = some ()) (p3 : fx_needRegister a5 = some ()) (hF : fx_needBelow a3 (8 : Int32) = none) : cx_C v yx_check (Cond.code yx_check bx_check 14 (some .int)) 12 [.ref (v.2.1 0), .int a1, .int a2, .int a3, .int a4, .int a5] (s, t, o) E_A := by
  refine cx_of (lv := [(0, .ref (v.2.1 0)), (1, .int a1), (2, .int a2), (3, .int a3), (4, .int a4), (5, .int a5)]) (by decide) (Nat.le_of_ble_eq_true rfl) rfl ?_
  intro z hz am we tab hR
  subst hz
  have am : wt_Am z R_X bx_check 14 12 (some .int) := am
  rw [show (some () : Option Unit) = (b_U (fx_needRegister a1) fun _ => b_U (fx_needRegister a2) fun _ => b_U (fx_needRegister a4) fun _ => b_U (fx_needRegister a5) fun _ => some ()) from by rw [p0, p1, p2, p3]; rfl]
  show jj_J z 14 0 [(0, .ref (ad_ z 0)), (1, .int a1), (2, .int a2), (3, .int a3), (4, .int a4), (5, .int a5)] [] (s, t, o) (q_X z (s, t, o) E_A) (b_U (fx_needRegister a1) fun _ => b_U (fx_needRegister a2) fun _ => b_U (fx_needRegister a4) fun _ => b_U (fx_needRegister a5) fun _ => some ())
  refine ji_iload_n (q := 1) am dx_check_0 rfl 1 rfl rfl ?_
  refine jk_U (q := 4) (rest := []) (fun u hF => jr_S [.int a1] am ln_X_x_needRegister (ctx_needRegister _ _ _ hF) (by omega) rfl rfl (Nat.le_of_ble_eq_true rfl) dx_check_1) rfl ?_
  intro u1
  refine ji_iload_n (q := 5) am dx_check_4 rfl 2 rfl rfl ?_
  refine jk_U (q := 8) (rest := []) (fun u hF => jr_S [.int a2] am ln_X_x_needRegister (ctx_needRegister _ _ _ hF) (by omega) rfl rfl (Nat.le_of_ble_eq_true rfl) dx_check_5) rfl ?_
  intro u5
  refine ji_iload (q := 10) am dx_check_8 4 rfl rfl ?_
  refine jk_U (q := 13) (rest := []) (fun u hF => jr_S [.int a4] am ln_X_x_needRegister (ctx_needRegister _ _ _ hF) (by omega) rfl rfl (Nat.le_of_ble_eq_true rfl) dx_check_10) rfl ?_
  intro u10
  refine ji_iload (q := 15) am dx_check_13 5 rfl rfl ?_
  refine jk_U (q := 18) (rest := []) (fun u hF => jr_S [.int a5] am ln_X_x_needRegister (ctx_needRegister _ _ _ hF) (by omega) rfl rfl (Nat.le_of_ble_eq_true rfl) dx_check_15) rfl ?_
  intro u15
  refine ji_iload_n (q := 19) am dx_check_18 rfl 3 rfl rfl ?_
  refine ji_bipush (q := 21) am dx_check_19 kb_8 rfl ?_
  exact jt_S [.int a3, .int (8 : Int32)] am we tab hR ln_X_x_needBelow (cn_needBelow _ hF) (by decide) rfl rfl (Nat.le_of_ble_eq_true rfl) dx_check_21
set_option maxHeartbeats 4000000 in
set_option maxRecDepth 100000 in
theorem cy_check_5 {v : wt_V} {s : wt_S} {a1 : Int32} {a2 : Int32} {a3 : Int32} {a4 : Int32} {a5 : Int32} (t : wt_M) (o : Nat → Int64) (p0 : fx_needRegister a1 = some ()) (p1 : fx_needRegister a2 = some ()) (p2 : fx_needRegister a4 = some ()) (p3 : fx_needRegister a5 = some ()) (p4 : fx_needBelow a3 (8 : Int32) = some ()) (hF : fy_needSet s a4 = some ()) : cx_C v yx_check (Cond.code yx_check bx_check 14 (some .int)) 12 [.ref (v.2.1 0), .int a1, .int a2, .int a3, .int a4, .int a5] (s, t, o) E_S := by
  refine cx_of (lv := [(0, .ref (v.2.1 0)), (1, .int a1), (2, .int a2), (3, .int a3), (4, .int a4), (5, .int a5)]) (by decide) (Nat.le_of_ble_eq_true rfl) rfl ?_
  intro z hz am we tab hR
  subst hz
  have am : wt_Am z R_X bx_check 14 12 (some .int) := am
  rw [show (some () : Option Unit) = (b_U (fx_needRegister a1) fun _ => b_U (fx_needRegister a2) fun _ => b_U (fx_needRegister a4) fun _ => b_U (fx_needRegister a5) fun _ => b_U (fx_needBelow a3 (8 : Int32)) fun _ => some ()) from by rw [p0, p1, p2, p3, p4]; rfl]
  show jj_J z 14 0 [(0, .ref (ad_ z 0)), (1, .int a1), (2, .int a2), (3, .int a3), (4, .int a4), (5, .int a5)] [] (s, t, o) (q_X z (s, t, o) E_S) (b_U (fx_needRegister a1) fun _ => b_U (fx_needRegister a2) fun _ => b_U (fx_needRegister a4) fun _ => b_U (fx_needRegister a5) fun _ => b_U (fx_needBelow a3 (8 : Int32)) fun _ => some ())
  refine ji_iload_n (q := 1) am dx_check_0 rfl 1 rfl rfl ?_
  refine jk_U (q := 4) (rest := []) (fun u hF => jr_S [.int a1] am ln_X_x_needRegister (ctx_needRegister _ _ _ hF) (by omega) rfl rfl (Nat.le_of_ble_eq_true rfl) dx_check_1) rfl ?_
  intro u1
  refine ji_iload_n (q := 5) am dx_check_4 rfl 2 rfl rfl ?_
  refine jk_U (q := 8) (rest := []) (fun u hF => jr_S [.int a2] am ln_X_x_needRegister (ctx_needRegister _ _ _ hF) (by omega) rfl rfl (Nat.le_of_ble_eq_true rfl) dx_check_5) rfl ?_
  intro u5
  refine ji_iload (q := 10) am dx_check_8 4 rfl rfl ?_
  refine jk_U (q := 13) (rest := []) (fun u hF => jr_S [.int a4] am ln_X_x_needRegister (ctx_needRegister _ _ _ hF) (by omega) rfl rfl (Nat.le_of_ble_eq_true rfl) dx_check_10) rfl ?_
  intro u10
  refine ji_iload (q := 15) am dx_check_13 5 rfl rfl ?_
  refine jk_U (q := 18) (rest := []) (fun u hF => jr_S [.int a5] am ln_X_x_needRegister (ctx_needRegister _ _ _ hF) (by omega) rfl rfl (Nat.le_of_ble_eq_true rfl) dx_check_15) rfl ?_
  intro u15
  refine ji_iload_n (q := 19) am dx_check_18 rfl 3 rfl rfl ?_
  refine ji_bipush (q := 21) am dx_check_19 kb_8 rfl ?_
  refine jk_U (q := 24) (rest := []) (fun u hF => jr_S [.int a3, .int (8 : Int32)] am ln_X_x_needBelow (ctx_needBelow _ _ _ hF) (by omega) rfl rfl (Nat.le_of_ble_eq_true rfl) dx_check_21) rfl ?_
  intro u21
  refine ji_aload_n (q := 25) am dx_check_24 rfl 0 rfl rfl ?_
  refine ji_iload (q := 27) am dx_check_25 4 rfl rfl ?_
  exact jt_V [.int a4] am we tab hR ln_X_x_needSet (cn_needSet _ _ hF) (by decide) (rc_X am) rfl rfl (Nat.le_of_ble_eq_true rfl) dx_check_27
set_option maxHeartbeats 4000000 in
set_option maxRecDepth 100000 in
theorem cy_check_6 {v : wt_V} {s : wt_S} {a1 : Int32} {a2 : Int32} {a3 : Int32} {a4 : Int32} {a5 : Int32} (t : wt_M) (o : Nat → Int64) (p0 : fx_needRegister a1 = some ()) (p1 : fx_needRegister a2 = some ()) (p2 : fx_needRegister a4 = some ()) (p3 : fx_needRegister a5 = some ()) (p4 : fx_needBelow a3 (8 : Int32) = some ()) (p5 : fx_needSet s a4 = some ()) (hF : fy_needSet s a5 = some ()) : cx_C v yx_check (Cond.code yx_check bx_check 14 (some .int)) 12 [.ref (v.2.1 0), .int a1, .int a2, .int a3, .int a4, .int a5] (s, t, o) E_S := by
  refine cx_of (lv := [(0, .ref (v.2.1 0)), (1, .int a1), (2, .int a2), (3, .int a3), (4, .int a4), (5, .int a5)]) (by decide) (Nat.le_of_ble_eq_true rfl) rfl ?_
  intro z hz am we tab hR
  subst hz
  have am : wt_Am z R_X bx_check 14 12 (some .int) := am
  rw [show (some () : Option Unit) = (b_U (fx_needRegister a1) fun _ => b_U (fx_needRegister a2) fun _ => b_U (fx_needRegister a4) fun _ => b_U (fx_needRegister a5) fun _ => b_U (fx_needBelow a3 (8 : Int32)) fun _ => b_U (fx_needSet s a4) fun _ => some ()) from by rw [p0, p1, p2, p3, p4, p5]; rfl]
  show jj_J z 14 0 [(0, .ref (ad_ z 0)), (1, .int a1), (2, .int a2), (3, .int a3), (4, .int a4), (5, .int a5)] [] (s, t, o) (q_X z (s, t, o) E_S) (b_U (fx_needRegister a1) fun _ => b_U (fx_needRegister a2) fun _ => b_U (fx_needRegister a4) fun _ => b_U (fx_needRegister a5) fun _ => b_U (fx_needBelow a3 (8 : Int32)) fun _ => b_U (fx_needSet s a4) fun _ => some ())
  refine ji_iload_n (q := 1) am dx_check_0 rfl 1 rfl rfl ?_
  refine jk_U (q := 4) (rest := []) (fun u hF => jr_S [.int a1] am ln_X_x_needRegister (ctx_needRegister _ _ _ hF) (by omega) rfl rfl (Nat.le_of_ble_eq_true rfl) dx_check_1) rfl ?_
  intro u1
  refine ji_iload_n (q := 5) am dx_check_4 rfl 2 rfl rfl ?_
  refine jk_U (q := 8) (rest := []) (fun u hF => jr_S [.int a2] am ln_X_x_needRegister (ctx_needRegister _ _ _ hF) (by omega) rfl rfl (Nat.le_of_ble_eq_true rfl) dx_check_5) rfl ?_
  intro u5
  refine ji_iload (q := 10) am dx_check_8 4 rfl rfl ?_
  refine jk_U (q := 13) (rest := []) (fun u hF => jr_S [.int a4] am ln_X_x_needRegister (ctx_needRegister _ _ _ hF) (by omega) rfl rfl (Nat.le_of_ble_eq_true rfl) dx_check_10) rfl ?_
  intro u10
  refine ji_iload (q := 15) am dx_check_13 5 rfl rfl ?_
  refine jk_U (q := 18) (rest := []) (fun u hF => jr_S [.int a5] am ln_X_x_needRegister (ctx_needRegister _ _ _ hF) (by omega) rfl rfl (Nat.le_of_ble_eq_true rfl) dx_check_15) rfl ?_
  intro u15
  refine ji_iload_n (q := 19) am dx_check_18 rfl 3 rfl rfl ?_
  refine ji_bipush (q := 21) am dx_check_19 kb_8 rfl ?_
  refine jk_U (q := 24) (rest := []) (fun u hF => jr_S [.int a3, .int (8 : Int32)] am ln_X_x_needBelow (ctx_needBelow _ _ _ hF) (by omega) rfl rfl (Nat.le_of_ble_eq_true rfl) dx_check_21) rfl ?_
  intro u21
  refine ji_aload_n (q := 25) am dx_check_24 rfl 0 rfl rfl ?_
  refine ji_iload (q := 27) am dx_check_25 4 rfl rfl ?_
  refine jk_U (q := 30) (rest := []) (fun u hF => jr_V [.int a4] am ln_X_x_needSet (ctx_needSet _ _ hF) (by omega) (rc_X am) rfl rfl (Nat.le_of_ble_eq_true rfl) dx_check_27) rfl ?_
  intro u27
  refine ji_aload_n (q := 31) am dx_check_30 rfl 0 rfl rfl ?_
  refine ji_iload (q := 33) am dx_check_31 5 rfl rfl ?_
  exact jt_V [.int a5] am we tab hR ln_X_x_needSet (cn_needSet _ _ hF) (by decide) (rc_X am) rfl rfl (Nat.le_of_ble_eq_true rfl) dx_check_33
