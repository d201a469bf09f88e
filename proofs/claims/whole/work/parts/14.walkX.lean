/-! Walks of X.needRegister, X.needVariable, X.variable, X.constant, X.needBelow, X.apply, X.choose, X.restrict, X.quantify, X.product, X.compose, X.turn, X.truth, X.same, X.count, X.least, X.depends, X.nodes, X.heap, X.needLevel, X.order, X.swap, X.place: printed by my program out of the listing. -/
theorem dx_needRegister_0 : decode bx_needRegister 0 = .ok (.iload_n 0, 1) := by decide +kernel
theorem dx_needRegister_1 : decode bx_needRegister 1 = .ok (.ifCond .lt 9, 3) := by decide +kernel
theorem dx_needRegister_4 : decode bx_needRegister 4 = .ok (.iload_n 0, 1) := by decide +kernel
theorem dx_needRegister_5 : decode bx_needRegister 5 = .ok (.bipush 16, 2) := by decide +kernel
theorem dx_needRegister_7 : decode bx_needRegister 7 = .ok (.if_icmp .lt 13, 3) := by decide +kernel
theorem dx_needRegister_20 : decode bx_needRegister 20 = .ok (.return_, 1) := by decide +kernel
set_option maxHeartbeats 4000000 in
set_option maxRecDepth 100000 in
theorem ctx_needRegister {v : wt_V} {a1 : Int32} (s : wt_S) (t : wt_M) (o : Nat → Int64) (hF : fx_needRegister a1 = some ()) : ct_C v yx_needRegister (Cond.code yx_needRegister bx_needRegister 1 none) 1 [.int a1] none (s, t, o) (s, t, o) := by
  refine ct_of (lv := [(0, .int a1)]) (fun _ : Unit => none) (fun _ => (s, t, o)) (by decide) (Nat.le_of_ble_eq_true rfl) rfl ?_ () hF
  intro z hz am
  subst hz
  have am : wt_Am z R_X bx_needRegister 1 1 none := am
  show jj_J z 1 0 [(0, .int a1)] [] (s, t, o) (q_U z s t o) (fx_needRegister a1)
  unfold fx_needRegister
  refine ji_iload_n (q := 1) am dx_needRegister_0 rfl 0 rfl rfl ?_
  refine ji_jn2 (fun j => ∀ (u10 : Unit), jj_J z 1 10 [] [] (s, t, o) (q_U z s t o) (j u10)) ?_ ?_
  · intro u10
    exact ji_none
  · intro j10 hj10
    refine ji_if_lt (q := 4) (g := 10) am dx_needRegister_1 rfl rfl ?_ ?_
    · exact ji_sub (lv' := []) [] rfl (hj10 _)
    · refine ji_iload_n (q := 5) am dx_needRegister_4 rfl 0 rfl rfl ?_
      refine ji_bipush (q := 7) am dx_needRegister_5 kb_16 rfl ?_
      refine ji_icmp_lt (q := 10) (g := 20) am dx_needRegister_7 rfl rfl ?_ ?_
      · exact ji_vret am rfl dx_needRegister_20 rfl rfl
      · exact ji_sub (lv' := []) [] rfl (hj10 _)

theorem dx_needVariable_0 : decode bx_needVariable 0 = .ok (.iload_n 0, 1) := by decide +kernel
theorem dx_needVariable_1 : decode bx_needVariable 1 = .ok (.ifCond .lt 9, 3) := by decide +kernel
theorem dx_needVariable_4 : decode bx_needVariable 4 = .ok (.iload_n 0, 1) := by decide +kernel
theorem dx_needVariable_5 : decode bx_needVariable 5 = .ok (.bipush 8, 2) := by decide +kernel
theorem dx_needVariable_7 : decode bx_needVariable 7 = .ok (.if_icmp .lt 13, 3) := by decide +kernel
theorem dx_needVariable_20 : decode bx_needVariable 20 = .ok (.return_, 1) := by decide +kernel
set_option maxHeartbeats 4000000 in
set_option maxRecDepth 100000 in
theorem ctx_needVariable {v : wt_V} {a1 : Int32} (s : wt_S) (t : wt_M) (o : Nat → Int64) (hF : fx_needVariable a1 = some ()) : ct_C v yx_needVariable (Cond.code yx_needVariable bx_needVariable 1 none) 1 [.int a1] none (s, t, o) (s, t, o) := by
  refine ct_of (lv := [(0, .int a1)]) (fun _ : Unit => none) (fun _ => (s, t, o)) (by decide) (Nat.le_of_ble_eq_true rfl) rfl ?_ () hF
  intro z hz am
  subst hz
  have am : wt_Am z R_X bx_needVariable 1 1 none := am
  show jj_J z 1 0 [(0, .int a1)] [] (s, t, o) (q_U z s t o) (fx_needVariable a1)
  unfold fx_needVariable
  refine ji_iload_n (q := 1) am dx_needVariable_0 rfl 0 rfl rfl ?_
  refine ji_jn2 (fun j => ∀ (u10 : Unit), jj_J z 1 10 [] [] (s, t, o) (q_U z s t o) (j u10)) ?_ ?_
  · intro u10
    exact ji_none
  · intro j10 hj10
    refine ji_if_lt (q := 4) (g := 10) am dx_needVariable_1 rfl rfl ?_ ?_
    · exact ji_sub (lv' := []) [] rfl (hj10 _)
    · refine ji_iload_n (q := 5) am dx_needVariable_4 rfl 0 rfl rfl ?_
      refine ji_bipush (q := 7) am dx_needVariable_5 kb_8 rfl ?_
      refine ji_icmp_lt (q := 10) (g := 20) am dx_needVariable_7 rfl rfl ?_ ?_
      · exact ji_vret am rfl dx_needVariable_20 rfl rfl
      · exact ji_sub (lv' := []) [] rfl (hj10 _)

theorem dx_variable_0 : decode bx_variable 0 = .ok (.iload_n 1, 1) := by decide +kernel
theorem dx_variable_1 : decode bx_variable 1 = .ok (.invokestatic 16, 3) := by decide +kernel
theorem dx_variable_4 : decode bx_variable 4 = .ok (.iload_n 2, 1) := by decide +kernel
theorem dx_variable_5 : decode bx_variable 5 = .ok (.invokestatic 20, 3) := by decide +kernel
theorem dx_variable_8 : decode bx_variable 8 = .ok (.aload_n 0, 1) := by decide +kernel
theorem dx_variable_9 : decode bx_variable 9 = .ok (.getfield 10, 3) := by decide +kernel
theorem dx_variable_12 : decode bx_variable 12 = .ok (.iload_n 1, 1) := by decide +kernel
theorem dx_variable_13 : decode bx_variable 13 = .ok (.aload_n 0, 1) := by decide +kernel
theorem dx_variable_14 : decode bx_variable 14 = .ok (.getfield 10, 3) := by decide +kernel
theorem dx_variable_17 : decode bx_variable 17 = .ok (.iload_n 2, 1) := by decide +kernel
theorem dx_variable_18 : decode bx_variable 18 = .ok (.invokevirtual 23, 3) := by decide +kernel
theorem dx_variable_21 : decode bx_variable 21 = .ok (.invokevirtual 27, 3) := by decide +kernel
theorem dx_variable_24 : decode bx_variable 24 = .ok (.return_, 1) := by decide +kernel
set_option maxHeartbeats 4000000 in
set_option maxRecDepth 100000 in
theorem ctx_variable {v : wt_V} {s : wt_S} {a1 : Int32} {a2 : Int32} {s2 : wt_S} (t : wt_M) (o : Nat → Int64) (hF : fx_variable s a1 a2 = some s2) : ct_C v yx_variable (Cond.code yx_variable bx_variable 3 none) 12 [.ref (v.2.1 0), .int a1, .int a2] none (s, t, o) (s2, t, o) := by
  refine ct_of (lv := [(0, .ref (v.2.1 0)), (1, .int a1), (2, .int a2)]) (fun _ : wt_S => none) (fun r => (r, t, o)) (by decide) (Nat.le_of_ble_eq_true rfl) rfl ?_ s2 hF
  intro z hz am
  subst hz
  have am : wt_Am z R_X bx_variable 3 12 none := am
  show jj_J z 3 0 [(0, .ref (ad_ z 0)), (1, .int a1), (2, .int a2)] [] (s, t, o) (q_S z t o) (fx_variable s a1 a2)
  unfold fx_variable
  refine ji_iload_n (q := 1) am dx_variable_0 rfl 1 rfl rfl ?_
  refine jk_U (q := 4) (rest := []) (fun u hF => jr_S [.int a1] am ln_X_x_needRegister (ctx_needRegister _ _ _ hF) (by omega) rfl rfl (Nat.le_of_ble_eq_true rfl) dx_variable_1) rfl ?_
  intro u1
  refine ji_iload_n (q := 5) am dx_variable_4 rfl 2 rfl rfl ?_
  refine jk_U (q := 8) (rest := []) (fun u hF => jr_S [.int a2] am ln_X_x_needVariable (ctx_needVariable _ _ _ hF) (by omega) rfl rfl (Nat.le_of_ble_eq_true rfl) dx_variable_5) rfl ?_
  intro u5
  refine ji_aload_n (q := 9) am dx_variable_8 rfl 0 rfl rfl ?_
  refine ji_get_X_diagrams (q := 12) am dx_variable_9 rfl ?_
  refine ji_iload_n (q := 13) am dx_variable_12 rfl 1 rfl rfl ?_
  refine ji_aload_n (q := 14) am dx_variable_13 rfl 0 rfl rfl ?_
  refine ji_get_X_diagrams (q := 17) am dx_variable_14 rfl ?_
  refine ji_iload_n (q := 18) am dx_variable_17 rfl 2 rfl rfl ?_
  refine jk_IS (q := 21) (rest := [.int a1, .ref (ad_ z 1)]) (fun r s2 hF => jr_V [.int a2] am ln_X_d_literal (ctd_literal _ _ hF) (by omega) (rc_D am) rfl rfl (Nat.le_of_ble_eq_true rfl) dx_variable_18) rfl ?_
  intro r18 s18
  refine jk_S (q := 24) (rest := []) (fun s2 hF => jr_V [.int a1, .int r18] am ln_X_d_keep (ctd_keep _ _ hF) (by omega) (rc_D am) rfl rfl (Nat.le_of_ble_eq_true rfl) dx_variable_21) rfl ?_
  intro s21
  exact ji_vret am rfl dx_variable_24 rfl rfl

theorem dx_constant_0 : decode bx_constant 0 = .ok (.iload_n 1, 1) := by decide +kernel
theorem dx_constant_1 : decode bx_constant 1 = .ok (.invokestatic 16, 3) := by decide +kernel
theorem dx_constant_4 : decode bx_constant 4 = .ok (.aload_n 0, 1) := by decide +kernel
theorem dx_constant_5 : decode bx_constant 5 = .ok (.getfield 10, 3) := by decide +kernel
theorem dx_constant_8 : decode bx_constant 8 = .ok (.iload_n 1, 1) := by decide +kernel
theorem dx_constant_9 : decode bx_constant 9 = .ok (.iload_n 2, 1) := by decide +kernel
theorem dx_constant_10 : decode bx_constant 10 = .ok (.ifCond .eq 7, 3) := by decide +kernel
theorem dx_constant_13 : decode bx_constant 13 = .ok (.iconst 1, 1) := by decide +kernel
theorem dx_constant_14 : decode bx_constant 14 = .ok (.goto 4, 3) := by decide +kernel
theorem dx_constant_17 : decode bx_constant 17 = .ok (.iconst 0, 1) := by decide +kernel
theorem dx_constant_18 : decode bx_constant 18 = .ok (.invokevirtual 27, 3) := by decide +kernel
theorem dx_constant_21 : decode bx_constant 21 = .ok (.return_, 1) := by decide +kernel
set_option maxHeartbeats 4000000 in
set_option maxRecDepth 100000 in
theorem ctx_constant {v : wt_V} {s : wt_S} {a1 : Int32} {a2 : Int32} {s2 : wt_S} (t : wt_M) (o : Nat → Int64) (hF : fx_constant s a1 a2 = some s2) : ct_C v yx_constant (Cond.code yx_constant bx_constant 3 none) 12 [.ref (v.2.1 0), .int a1, .int a2] none (s, t, o) (s2, t, o) := by
  refine ct_of (lv := [(0, .ref (v.2.1 0)), (1, .int a1), (2, .int a2)]) (fun _ : wt_S => none) (fun r => (r, t, o)) (by decide) (Nat.le_of_ble_eq_true rfl) rfl ?_ s2 hF
  intro z hz am
  subst hz
  have am : wt_Am z R_X bx_constant 3 12 none := am
  show jj_J z 3 0 [(0, .ref (ad_ z 0)), (1, .int a1), (2, .int a2)] [] (s, t, o) (q_S z t o) (fx_constant s a1 a2)
  unfold fx_constant
  refine ji_iload_n (q := 1) am dx_constant_0 rfl 1 rfl rfl ?_
  refine jk_U (q := 4) (rest := []) (fun u hF => jr_S [.int a1] am ln_X_x_needRegister (ctx_needRegister _ _ _ hF) (by omega) rfl rfl (Nat.le_of_ble_eq_true rfl) dx_constant_1) rfl ?_
  intro u1
  refine ji_aload_n (q := 5) am dx_constant_4 rfl 0 rfl rfl ?_
  refine ji_get_X_diagrams (q := 8) am dx_constant_5 rfl ?_
  refine ji_iload_n (q := 9) am dx_constant_8 rfl 1 rfl rfl ?_
  refine ji_iload_n (q := 10) am dx_constant_9 rfl 2 rfl rfl ?_
  refine ji_jn2 (fun j => ∀ (y0_18 : Int32), jj_J z 3 18 [] [.int y0_18, .int a1, .ref (ad_ z 1)] (s, t, o) (q_S z t o) (j y0_18)) ?_ ?_
  · intro y0_18
    refine jk_S (q := 21) (rest := []) (fun s2 hF => jr_V [.int a1, .int y0_18] am ln_X_d_keep (ctd_keep _ _ hF) (by omega) (rc_D am) rfl rfl (Nat.le_of_ble_eq_true rfl) dx_constant_18) rfl ?_
    intro s18
    exact ji_vret am rfl dx_constant_21 rfl rfl
  · intro j18 hj18
    refine ji_if_eq (q := 13) (g := 17) am dx_constant_10 rfl rfl ?_ ?_
    · refine ji_iconst (q := 18) am dx_constant_17 ki_0 rfl ?_
      exact ji_sub (lv' := []) [] rfl (hj18 _)
    · refine ji_iconst (q := 14) am dx_constant_13 ki_1 rfl ?_
      refine ji_goto (q := 18) am dx_constant_14 rfl ?_
      exact ji_sub (lv' := []) [] rfl (hj18 _)

theorem dx_needBelow_0 : decode bx_needBelow 0 = .ok (.iload_n 0, 1) := by decide +kernel
theorem dx_needBelow_1 : decode bx_needBelow 1 = .ok (.ifCond .lt 8, 3) := by decide +kernel
theorem dx_needBelow_4 : decode bx_needBelow 4 = .ok (.iload_n 0, 1) := by decide +kernel
theorem dx_needBelow_5 : decode bx_needBelow 5 = .ok (.iload_n 1, 1) := by decide +kernel
theorem dx_needBelow_6 : decode bx_needBelow 6 = .ok (.if_icmp .lt 13, 3) := by decide +kernel
theorem dx_needBelow_19 : decode bx_needBelow 19 = .ok (.return_, 1) := by decide +kernel
set_option maxHeartbeats 4000000 in
set_option maxRecDepth 100000 in
theorem ctx_needBelow {v : wt_V} {a1 : Int32} {a2 : Int32} (s : wt_S) (t : wt_M) (o : Nat → Int64) (hF : fx_needBelow a1 a2 = some ()) : ct_C v yx_needBelow (Cond.code yx_needBelow bx_needBelow 2 none) 1 [.int a1, .int a2] none (s, t, o) (s, t, o) := by
  refine ct_of (lv := [(0, .int a1), (1, .int a2)]) (fun _ : Unit => none) (fun _ => (s, t, o)) (by decide) (Nat.le_of_ble_eq_true rfl) rfl ?_ () hF
  intro z hz am
  subst hz
  have am : wt_Am z R_X bx_needBelow 2 1 none := am
  show jj_J z 2 0 [(0, .int a1), (1, .int a2)] [] (s, t, o) (q_U z s t o) (fx_needBelow a1 a2)
  unfold fx_needBelow
  refine ji_iload_n (q := 1) am dx_needBelow_0 rfl 0 rfl rfl ?_
  refine ji_jn2 (fun j => ∀ (u9 : Unit), jj_J z 2 9 [] [] (s, t, o) (q_U z s t o) (j u9)) ?_ ?_
  · intro u9
    exact ji_none
  · intro j9 hj9
    refine ji_if_lt (q := 4) (g := 9) am dx_needBelow_1 rfl rfl ?_ ?_
    · exact ji_sub (lv' := []) [] rfl (hj9 _)
    · refine ji_iload_n (q := 5) am dx_needBelow_4 rfl 0 rfl rfl ?_
      refine ji_iload_n (q := 6) am dx_needBelow_5 rfl 1 rfl rfl ?_
      refine ji_icmp_lt (q := 9) (g := 19) am dx_needBelow_6 rfl rfl ?_ ?_
      · exact ji_vret am rfl dx_needBelow_19 rfl rfl
      · exact ji_sub (lv' := []) [] rfl (hj9 _)

theorem dx_apply_0 : decode bx_apply 0 = .ok (.iload_n 1, 1) := by decide +kernel
theorem dx_apply_1 : decode bx_apply 1 = .ok (.invokestatic 16, 3) := by decide +kernel
theorem dx_apply_4 : decode bx_apply 4 = .ok (.iload_n 3, 1) := by decide +kernel
theorem dx_apply_5 : decode bx_apply 5 = .ok (.invokestatic 16, 3) := by decide +kernel
theorem dx_apply_8 : decode bx_apply 8 = .ok (.iload 4, 2) := by decide +kernel
theorem dx_apply_10 : decode bx_apply 10 = .ok (.invokestatic 16, 3) := by decide +kernel
theorem dx_apply_13 : decode bx_apply 13 = .ok (.iload_n 2, 1) := by decide +kernel
theorem dx_apply_14 : decode bx_apply 14 = .ok (.bipush 16, 2) := by decide +kernel
theorem dx_apply_16 : decode bx_apply 16 = .ok (.invokestatic 31, 3) := by decide +kernel
theorem dx_apply_19 : decode bx_apply 19 = .ok (.aload_n 0, 1) := by decide +kernel
theorem dx_apply_20 : decode bx_apply 20 = .ok (.getfield 10, 3) := by decide +kernel
theorem dx_apply_23 : decode bx_apply 23 = .ok (.iload_n 1, 1) := by decide +kernel
theorem dx_apply_24 : decode bx_apply 24 = .ok (.aload_n 0, 1) := by decide +kernel
theorem dx_apply_25 : decode bx_apply 25 = .ok (.getfield 10, 3) := by decide +kernel
theorem dx_apply_28 : decode bx_apply 28 = .ok (.iload_n 2, 1) := by decide +kernel
theorem dx_apply_29 : decode bx_apply 29 = .ok (.aload_n 0, 1) := by decide +kernel
theorem dx_apply_30 : decode bx_apply 30 = .ok (.getfield 10, 3) := by decide +kernel
theorem dx_apply_33 : decode bx_apply 33 = .ok (.iload_n 3, 1) := by decide +kernel
theorem dx_apply_34 : decode bx_apply 34 = .ok (.invokevirtual 34, 3) := by decide +kernel
theorem dx_apply_37 : decode bx_apply 37 = .ok (.aload_n 0, 1) := by decide +kernel
theorem dx_apply_38 : decode bx_apply 38 = .ok (.getfield 10, 3) := by decide +kernel
theorem dx_apply_41 : decode bx_apply 41 = .ok (.iload 4, 2) := by decide +kernel
theorem dx_apply_43 : decode bx_apply 43 = .ok (.invokevirtual 34, 3) := by decide +kernel
theorem dx_apply_46 : decode bx_apply 46 = .ok (.iconst 0, 1) := by decide +kernel
theorem dx_apply_47 : decode bx_apply 47 = .ok (.invokevirtual 37, 3) := by decide +kernel
theorem dx_apply_50 : decode bx_apply 50 = .ok (.invokevirtual 27, 3) := by decide +kernel
theorem dx_apply_53 : decode bx_apply 53 = .ok (.return_, 1) := by decide +kernel
set_option maxHeartbeats 4000000 in
set_option maxRecDepth 100000 in
theorem ctx_apply {v : wt_V} {s : wt_S} {a1 : Int32} {a2 : Int32} {a3 : Int32} {a4 : Int32} {s2 : wt_S} (t : wt_M) (o : Nat → Int64) (hF : fx_apply s a1 a2 a3 a4 = some s2) : ct_C v yx_apply (Cond.code yx_apply bx_apply 5 none) 12 [.ref (v.2.1 0), .int a1, .int a2, .int a3, .int a4] none (s, t, o) (s2, t, o) := by
  refine ct_of (lv := [(0, .ref (v.2.1 0)), (1, .int a1), (2, .int a2), (3, .int a3), (4, .int a4)]) (fun _ : wt_S => none) (fun r => (r, t, o)) (by decide) (Nat.le_of_ble_eq_true rfl) rfl ?_ s2 hF
  intro z hz am
  subst hz
  have am : wt_Am z R_X bx_apply 5 12 none := am
  show jj_J z 5 0 [(0, .ref (ad_ z 0)), (1, .int a1), (2, .int a2), (3, .int a3), (4, .int a4)] [] (s, t, o) (q_S z t o) (fx_apply s a1 a2 a3 a4)
  unfold fx_apply
  refine ji_iload_n (q := 1) am dx_apply_0 rfl 1 rfl rfl ?_
  refine jk_U (q := 4) (rest := []) (fun u hF => jr_S [.int a1] am ln_X_x_needRegister (ctx_needRegister _ _ _ hF) (by omega) rfl rfl (Nat.le_of_ble_eq_true rfl) dx_apply_1) rfl ?_
  intro u1
  refine ji_iload_n (q := 5) am dx_apply_4 rfl 3 rfl rfl ?_
  refine jk_U (q := 8) (rest := []) (fun u hF => jr_S [.int a3] am ln_X_x_needRegister (ctx_needRegister _ _ _ hF) (by omega) rfl rfl (Nat.le_of_ble_eq_true rfl) dx_apply_5) rfl ?_
  intro u5
  refine ji_iload (q := 10) am dx_apply_8 4 rfl rfl ?_
  refine jk_U (q := 13) (rest := []) (fun u hF => jr_S [.int a4] am ln_X_x_needRegister (ctx_needRegister _ _ _ hF) (by omega) rfl rfl (Nat.le_of_ble_eq_true rfl) dx_apply_10) rfl ?_
  intro u10
  refine ji_iload_n (q := 14) am dx_apply_13 rfl 2 rfl rfl ?_
  refine ji_bipush (q := 16) am dx_apply_14 kb_16 rfl ?_
  refine jk_U (q := 19) (rest := []) (fun u hF => jr_S [.int a2, .int (16 : Int32)] am ln_X_x_needBelow (ctx_needBelow _ _ _ hF) (by omega) rfl rfl (Nat.le_of_ble_eq_true rfl) dx_apply_16) rfl ?_
  intro u16
  refine ji_aload_n (q := 20) am dx_apply_19 rfl 0 rfl rfl ?_
  refine ji_get_X_diagrams (q := 23) am dx_apply_20 rfl ?_
  refine ji_iload_n (q := 24) am dx_apply_23 rfl 1 rfl rfl ?_
  refine ji_aload_n (q := 25) am dx_apply_24 rfl 0 rfl rfl ?_
  refine ji_get_X_diagrams (q := 28) am dx_apply_25 rfl ?_
  refine ji_iload_n (q := 29) am dx_apply_28 rfl 2 rfl rfl ?_
  refine ji_aload_n (q := 30) am dx_apply_29 rfl 0 rfl rfl ?_
  refine ji_get_X_diagrams (q := 33) am dx_apply_30 rfl ?_
  refine ji_iload_n (q := 34) am dx_apply_33 rfl 3 rfl rfl ?_
  refine jk_I (q := 37) (rest := [.int a2, .ref (ad_ z 1), .int a1, .ref (ad_ z 1)]) (fun r hF => jr_V [.int a3] am ln_X_d_root (ctd_root _ _ hF) (by omega) (rc_D am) rfl rfl (Nat.le_of_ble_eq_true rfl) dx_apply_34) rfl ?_
  intro r34
  refine ji_aload_n (q := 38) am dx_apply_37 rfl 0 rfl rfl ?_
  refine ji_get_X_diagrams (q := 41) am dx_apply_38 rfl ?_
  refine ji_iload (q := 43) am dx_apply_41 4 rfl rfl ?_
  refine jk_I (q := 46) (rest := [.int r34, .int a2, .ref (ad_ z 1), .int a1, .ref (ad_ z 1)]) (fun r hF => jr_V [.int a4] am ln_X_d_root (ctd_root _ _ hF) (by omega) (rc_D am) rfl rfl (Nat.le_of_ble_eq_true rfl) dx_apply_43) rfl ?_
  intro r43
  refine ji_iconst (q := 47) am dx_apply_46 ki_0 rfl ?_
  refine jk_IS (q := 50) (rest := [.int a1, .ref (ad_ z 1)]) (fun r s2 hF => jr_N [.int a2, .int r34, .int r43, .int (0 : Int32)] am ln_X_d_join (ctd_join t o 9 _ _ _ _ _ _ _ hF) (by omega) (rc_D am) rfl rfl (Nat.le_of_ble_eq_true rfl) dx_apply_47) rfl ?_
  intro r47 s47
  refine jk_S (q := 53) (rest := []) (fun s2 hF => jr_V [.int a1, .int r47] am ln_X_d_keep (ctd_keep _ _ hF) (by omega) (rc_D am) rfl rfl (Nat.le_of_ble_eq_true rfl) dx_apply_50) rfl ?_
  intro s50
  exact ji_vret am rfl dx_apply_53 rfl rfl

theorem dx_choose_0 : decode bx_choose 0 = .ok (.iload_n 1, 1) := by decide +kernel
theorem dx_choose_1 : decode bx_choose 1 = .ok (.invokestatic 16, 3) := by decide +kernel
theorem dx_choose_4 : decode bx_choose 4 = .ok (.iload_n 2, 1) := by decide +kernel
theorem dx_choose_5 : decode bx_choose 5 = .ok (.invokestatic 16, 3) := by decide +kernel
theorem dx_choose_8 : decode bx_choose 8 = .ok (.iload_n 3, 1) := by decide +kernel
theorem dx_choose_9 : decode bx_choose 9 = .ok (.invokestatic 16, 3) := by decide +kernel
theorem dx_choose_12 : decode bx_choose 12 = .ok (.iload 4, 2) := by decide +kernel
theorem dx_choose_14 : decode bx_choose 14 = .ok (.invokestatic 16, 3) := by decide +kernel
theorem dx_choose_17 : decode bx_choose 17 = .ok (.aload_n 0, 1) := by decide +kernel
theorem dx_choose_18 : decode bx_choose 18 = .ok (.getfield 10, 3) := by decide +kernel
theorem dx_choose_21 : decode bx_choose 21 = .ok (.iload_n 1, 1) := by decide +kernel
theorem dx_choose_22 : decode bx_choose 22 = .ok (.aload_n 0, 1) := by decide +kernel
theorem dx_choose_23 : decode bx_choose 23 = .ok (.getfield 10, 3) := by decide +kernel
theorem dx_choose_26 : decode bx_choose 26 = .ok (.aload_n 0, 1) := by decide +kernel
theorem dx_choose_27 : decode bx_choose 27 = .ok (.getfield 10, 3) := by decide +kernel
theorem dx_choose_30 : decode bx_choose 30 = .ok (.iload_n 2, 1) := by decide +kernel
theorem dx_choose_31 : decode bx_choose 31 = .ok (.invokevirtual 34, 3) := by decide +kernel
theorem dx_choose_34 : decode bx_choose 34 = .ok (.aload_n 0, 1) := by decide +kernel
theorem dx_choose_35 : decode bx_choose 35 = .ok (.getfield 10, 3) := by decide +kernel
theorem dx_choose_38 : decode bx_choose 38 = .ok (.iload_n 3, 1) := by decide +kernel
theorem dx_choose_39 : decode bx_choose 39 = .ok (.invokevirtual 34, 3) := by decide +kernel
theorem dx_choose_42 : decode bx_choose 42 = .ok (.aload_n 0, 1) := by decide +kernel
theorem dx_choose_43 : decode bx_choose 43 = .ok (.getfield 10, 3) := by decide +kernel
theorem dx_choose_46 : decode bx_choose 46 = .ok (.iload 4, 2) := by decide +kernel
theorem dx_choose_48 : decode bx_choose 48 = .ok (.invokevirtual 34, 3) := by decide +kernel
theorem dx_choose_51 : decode bx_choose 51 = .ok (.iconst 0, 1) := by decide +kernel
theorem dx_choose_52 : decode bx_choose 52 = .ok (.invokevirtual 41, 3) := by decide +kernel
theorem dx_choose_55 : decode bx_choose 55 = .ok (.invokevirtual 27, 3) := by decide +kernel
theorem dx_choose_58 : decode bx_choose 58 = .ok (.return_, 1) := by decide +kernel
set_option maxHeartbeats 4000000 in
set_option maxRecDepth 100000 in
theorem ctx_choose {v : wt_V} {s : wt_S} {a1 : Int32} {a2 : Int32} {a3 : Int32} {a4 : Int32} {s2 : wt_S} (t : wt_M) (o : Nat → Int64) (hF : fx_choose s a1 a2 a3 a4 = some s2) : ct_C v yx_choose (Cond.code yx_choose bx_choose 5 none) 12 [.ref (v.2.1 0), .int a1, .int a2, .int a3, .int a4] none (s, t, o) (s2, t, o) := by
  refine ct_of (lv := [(0, .ref (v.2.1 0)), (1, .int a1), (2, .int a2), (3, .int a3), (4, .int a4)]) (fun _ : wt_S => none) (fun r => (r, t, o)) (by decide) (Nat.le_of_ble_eq_true rfl) rfl ?_ s2 hF
  intro z hz am
  subst hz
  have am : wt_Am z R_X bx_choose 5 12 none := am
  show jj_J z 5 0 [(0, .ref (ad_ z 0)), (1, .int a1), (2, .int a2), (3, .int a3), (4, .int a4)] [] (s, t, o) (q_S z t o) (fx_choose s a1 a2 a3 a4)
  unfold fx_choose
  refine ji_iload_n (q := 1) am dx_choose_0 rfl 1 rfl rfl ?_
  refine jk_U (q := 4) (rest := []) (fun u hF => jr_S [.int a1] am ln_X_x_needRegister (ctx_needRegister _ _ _ hF) (by omega) rfl rfl (Nat.le_of_ble_eq_true rfl) dx_choose_1) rfl ?_
  intro u1
  refine ji_iload_n (q := 5) am dx_choose_4 rfl 2 rfl rfl ?_
  refine jk_U (q := 8) (rest := []) (fun u hF => jr_S [.int a2] am ln_X_x_needRegister (ctx_needRegister _ _ _ hF) (by omega) rfl rfl (Nat.le_of_ble_eq_true rfl) dx_choose_5) rfl ?_
  intro u5
  refine ji_iload_n (q := 9) am dx_choose_8 rfl 3 rfl rfl ?_
  refine jk_U (q := 12) (rest := []) (fun u hF => jr_S [.int a3] am ln_X_x_needRegister (ctx_needRegister _ _ _ hF) (by omega) rfl rfl (Nat.le_of_ble_eq_true rfl) dx_choose_9) rfl ?_
  intro u9
  refine ji_iload (q := 14) am dx_choose_12 4 rfl rfl ?_
  refine jk_U (q := 17) (rest := []) (fun u hF => jr_S [.int a4] am ln_X_x_needRegister (ctx_needRegister _ _ _ hF) (by omega) rfl rfl (Nat.le_of_ble_eq_true rfl) dx_choose_14) rfl ?_
  intro u14
  refine ji_aload_n (q := 18) am dx_choose_17 rfl 0 rfl rfl ?_
  refine ji_get_X_diagrams (q := 21) am dx_choose_18 rfl ?_
  refine ji_iload_n (q := 22) am dx_choose_21 rfl 1 rfl rfl ?_
  refine ji_aload_n (q := 23) am dx_choose_22 rfl 0 rfl rfl ?_
  refine ji_get_X_diagrams (q := 26) am dx_choose_23 rfl ?_
  refine ji_aload_n (q := 27) am dx_choose_26 rfl 0 rfl rfl ?_
  refine ji_get_X_diagrams (q := 30) am dx_choose_27 rfl ?_
  refine ji_iload_n (q := 31) am dx_choose_30 rfl 2 rfl rfl ?_
  refine jk_I (q := 34) (rest := [.ref (ad_ z 1), .int a1, .ref (ad_ z 1)]) (fun r hF => jr_V [.int a2] am ln_X_d_root (ctd_root _ _ hF) (by omega) (rc_D am) rfl rfl (Nat.le_of_ble_eq_true rfl) dx_choose_31) rfl ?_
  intro r31
  refine ji_aload_n (q := 35) am dx_choose_34 rfl 0 rfl rfl ?_
  refine ji_get_X_diagrams (q := 38) am dx_choose_35 rfl ?_
  refine ji_iload_n (q := 39) am dx_choose_38 rfl 3 rfl rfl ?_
  refine jk_I (q := 42) (rest := [.int r31, .ref (ad_ z 1), .int a1, .ref (ad_ z 1)]) (fun r hF => jr_V [.int a3] am ln_X_d_root (ctd_root _ _ hF) (by omega) (rc_D am) rfl rfl (Nat.le_of_ble_eq_true rfl) dx_choose_39) rfl ?_
  intro r39
  refine ji_aload_n (q := 43) am dx_choose_42 rfl 0 rfl rfl ?_
  refine ji_get_X_diagrams (q := 46) am dx_choose_43 rfl ?_
  refine ji_iload (q := 48) am dx_choose_46 4 rfl rfl ?_
  refine jk_I (q := 51) (rest := [.int r39, .int r31, .ref (ad_ z 1), .int a1, .ref (ad_ z 1)]) (fun r hF => jr_V [.int a4] am ln_X_d_root (ctd_root _ _ hF) (by omega) (rc_D am) rfl rfl (Nat.le_of_ble_eq_true rfl) dx_choose_48) rfl ?_
  intro r48
  refine ji_iconst (q := 52) am dx_choose_51 ki_0 rfl ?_
  refine jk_IS (q := 55) (rest := [.int a1, .ref (ad_ z 1)]) (fun r s2 hF => jr_N [.int r31, .int r39, .int r48, .int (0 : Int32)] am ln_X_d_pick (ctd_pick t o 9 _ _ _ _ _ _ _ hF) (by omega) (rc_D am) rfl rfl (Nat.le_of_ble_eq_true rfl) dx_choose_52) rfl ?_
  intro r52 s52
  refine jk_S (q := 58) (rest := []) (fun s2 hF => jr_V [.int a1, .int r52] am ln_X_d_keep (ctd_keep _ _ hF) (by omega) (rc_D am) rfl rfl (Nat.le_of_ble_eq_true rfl) dx_choose_55) rfl ?_
  intro s55
  exact ji_vret am rfl dx_choose_58 rfl rfl

theorem dx_restrict_0 : decode bx_restrict 0 = .ok (.iload_n 1, 1) := by decide +kernel
theorem dx_restrict_1 : decode bx_restrict 1 = .ok (.invokestatic 16, 3) := by decide +kernel
theorem dx_restrict_4 : decode bx_restrict 4 = .ok (.iload_n 2, 1) := by decide +kernel
theorem dx_restrict_5 : decode bx_restrict 5 = .ok (.invokestatic 16, 3) := by decide +kernel
theorem dx_restrict_8 : decode bx_restrict 8 = .ok (.iload_n 3, 1) := by decide +kernel
theorem dx_restrict_9 : decode bx_restrict 9 = .ok (.invokestatic 20, 3) := by decide +kernel
theorem dx_restrict_12 : decode bx_restrict 12 = .ok (.aload_n 0, 1) := by decide +kernel
theorem dx_restrict_13 : decode bx_restrict 13 = .ok (.getfield 10, 3) := by decide +kernel
theorem dx_restrict_16 : decode bx_restrict 16 = .ok (.iload_n 1, 1) := by decide +kernel
theorem dx_restrict_17 : decode bx_restrict 17 = .ok (.aload_n 0, 1) := by decide +kernel
theorem dx_restrict_18 : decode bx_restrict 18 = .ok (.getfield 10, 3) := by decide +kernel
theorem dx_restrict_21 : decode bx_restrict 21 = .ok (.aload_n 0, 1) := by decide +kernel
theorem dx_restrict_22 : decode bx_restrict 22 = .ok (.getfield 10, 3) := by decide +kernel
theorem dx_restrict_25 : decode bx_restrict 25 = .ok (.iload_n 2, 1) := by decide +kernel
theorem dx_restrict_26 : decode bx_restrict 26 = .ok (.invokevirtual 34, 3) := by decide +kernel
theorem dx_restrict_29 : decode bx_restrict 29 = .ok (.iload_n 3, 1) := by decide +kernel
theorem dx_restrict_30 : decode bx_restrict 30 = .ok (.iload 4, 2) := by decide +kernel
theorem dx_restrict_32 : decode bx_restrict 32 = .ok (.iconst 0, 1) := by decide +kernel
theorem dx_restrict_33 : decode bx_restrict 33 = .ok (.invokevirtual 44, 3) := by decide +kernel
theorem dx_restrict_36 : decode bx_restrict 36 = .ok (.invokevirtual 27, 3) := by decide +kernel
theorem dx_restrict_39 : decode bx_restrict 39 = .ok (.return_, 1) := by decide +kernel
set_option maxHeartbeats 4000000 in
set_option maxRecDepth 100000 in
theorem ctx_restrict {v : wt_V} {s : wt_S} {a1 : Int32} {a2 : Int32} {a3 : Int32} {a4 : Int32} {s2 : wt_S} (t : wt_M) (o : Nat → Int64) (hF : fx_restrict s a1 a2 a3 a4 = some s2) : ct_C v yx_restrict (Cond.code yx_restrict bx_restrict 5 none) 12 [.ref (v.2.1 0), .int a1, .int a2, .int a3, .int a4] none (s, t, o) (s2, t, o) := by
  refine ct_of (lv := [(0, .ref (v.2.1 0)), (1, .int a1), (2, .int a2), (3, .int a3), (4, .int a4)]) (fun _ : wt_S => none) (fun r => (r, t, o)) (by decide) (Nat.le_of_ble_eq_true rfl) rfl ?_ s2 hF
  intro z hz am
  subst hz
  have am : wt_Am z R_X bx_restrict 5 12 none := am
  show jj_J z 5 0 [(0, .ref (ad_ z 0)), (1, .int a1), (2, .int a2), (3, .int a3), (4, .int a4)] [] (s, t, o) (q_S z t o) (fx_restrict s a1 a2 a3 a4)
  unfold fx_restrict
  refine ji_iload_n (q := 1) am dx_restrict_0 rfl 1 rfl rfl ?_
  refine jk_U (q := 4) (rest := []) (fun u hF => jr_S [.int a1] am ln_X_x_needRegister (ctx_needRegister _ _ _ hF) (by omega) rfl rfl (Nat.le_of_ble_eq_true rfl) dx_restrict_1) rfl ?_
  intro u1
  refine ji_iload_n (q := 5) am dx_restrict_4 rfl 2 rfl rfl ?_
  refine jk_U (q := 8) (rest := []) (fun u hF => jr_S [.int a2] am ln_X_x_needRegister (ctx_needRegister _ _ _ hF) (by omega) rfl rfl (Nat.le_of_ble_eq_true rfl) dx_restrict_5) rfl ?_
  intro u5
  refine ji_iload_n (q := 9) am dx_restrict_8 rfl 3 rfl rfl ?_
  refine jk_U (q := 12) (rest := []) (fun u hF => jr_S [.int a3] am ln_X_x_needVariable (ctx_needVariable _ _ _ hF) (by omega) rfl rfl (Nat.le_of_ble_eq_true rfl) dx_restrict_9) rfl ?_
  intro u9
  refine ji_aload_n (q := 13) am dx_restrict_12 rfl 0 rfl rfl ?_
  refine ji_get_X_diagrams (q := 16) am dx_restrict_13 rfl ?_
  refine ji_iload_n (q := 17) am dx_restrict_16 rfl 1 rfl rfl ?_
  refine ji_aload_n (q := 18) am dx_restrict_17 rfl 0 rfl rfl ?_
  refine ji_get_X_diagrams (q := 21) am dx_restrict_18 rfl ?_
  refine ji_aload_n (q := 22) am dx_restrict_21 rfl 0 rfl rfl ?_
  refine ji_get_X_diagrams (q := 25) am dx_restrict_22 rfl ?_
  refine ji_iload_n (q := 26) am dx_restrict_25 rfl 2 rfl rfl ?_
  refine jk_I (q := 29) (rest := [.ref (ad_ z 1), .int a1, .ref (ad_ z 1)]) (fun r hF => jr_V [.int a2] am ln_X_d_root (ctd_root _ _ hF) (by omega) (rc_D am) rfl rfl (Nat.le_of_ble_eq_true rfl) dx_restrict_26) rfl ?_
  intro r26
  refine ji_iload_n (q := 30) am dx_restrict_29 rfl 3 rfl rfl ?_
  refine ji_iload (q := 32) am dx_restrict_30 4 rfl rfl ?_
  refine ji_iconst (q := 33) am dx_restrict_32 ki_0 rfl ?_
  refine jk_IS (q := 36) (rest := [.int a1, .ref (ad_ z 1)]) (fun r s2 hF => jr_N [.int r26, .int a3, .int a4, .int (0 : Int32)] am ln_X_d_fix (ctd_fix t o 9 _ _ _ _ _ _ _ hF) (by omega) (rc_D am) rfl rfl (Nat.le_of_ble_eq_true rfl) dx_restrict_33) rfl ?_
  intro r33 s33
  refine jk_S (q := 39) (rest := []) (fun s2 hF => jr_V [.int a1, .int r33] am ln_X_d_keep (ctd_keep _ _ hF) (by omega) (rc_D am) rfl rfl (Nat.le_of_ble_eq_true rfl) dx_restrict_36) rfl ?_
  intro s36
  exact ji_vret am rfl dx_restrict_39 rfl rfl

theorem dx_quantify_0 : decode bx_quantify 0 = .ok (.iload_n 1, 1) := by decide +kernel
theorem dx_quantify_1 : decode bx_quantify 1 = .ok (.invokestatic 16, 3) := by decide +kernel
theorem dx_quantify_4 : decode bx_quantify 4 = .ok (.iload_n 2, 1) := by decide +kernel
theorem dx_quantify_5 : decode bx_quantify 5 = .ok (.invokestatic 16, 3) := by decide +kernel
theorem dx_quantify_8 : decode bx_quantify 8 = .ok (.iload_n 3, 1) := by decide +kernel
theorem dx_quantify_9 : decode bx_quantify 9 = .ok (.sipush 256, 3) := by decide +kernel
theorem dx_quantify_12 : decode bx_quantify 12 = .ok (.invokestatic 31, 3) := by decide +kernel
theorem dx_quantify_15 : decode bx_quantify 15 = .ok (.aload_n 0, 1) := by decide +kernel
theorem dx_quantify_16 : decode bx_quantify 16 = .ok (.getfield 10, 3) := by decide +kernel
theorem dx_quantify_19 : decode bx_quantify 19 = .ok (.iload_n 2, 1) := by decide +kernel
theorem dx_quantify_20 : decode bx_quantify 20 = .ok (.invokevirtual 34, 3) := by decide +kernel
theorem dx_quantify_23 : decode bx_quantify 23 = .ok (.istore 5, 2) := by decide +kernel
theorem dx_quantify_25 : decode bx_quantify 25 = .ok (.iload 4, 2) := by decide +kernel
theorem dx_quantify_27 : decode bx_quantify 27 = .ok (.ifCond .eq 44, 3) := by decide +kernel
theorem dx_quantify_30 : decode bx_quantify 30 = .ok (.aload_n 0, 1) := by decide +kernel
theorem dx_quantify_31 : decode bx_quantify 31 = .ok (.getfield 10, 3) := by decide +kernel
theorem dx_quantify_34 : decode bx_quantify 34 = .ok (.aload_n 0, 1) := by decide +kernel
theorem dx_quantify_35 : decode bx_quantify 35 = .ok (.getfield 10, 3) := by decide +kernel
theorem dx_quantify_38 : decode bx_quantify 38 = .ok (.iload 5, 2) := by decide +kernel
theorem dx_quantify_40 : decode bx_quantify 40 = .ok (.invokevirtual 48, 3) := by decide +kernel
theorem dx_quantify_43 : decode bx_quantify 43 = .ok (.iconst 1, 1) := by decide +kernel
theorem dx_quantify_44 : decode bx_quantify 44 = .ok (.iload_n 3, 1) := by decide +kernel
theorem dx_quantify_45 : decode bx_quantify 45 = .ok (.iconst 0, 1) := by decide +kernel
theorem dx_quantify_46 : decode bx_quantify 46 = .ok (.invokevirtual 51, 3) := by decide +kernel
theorem dx_quantify_49 : decode bx_quantify 49 = .ok (.istore 6, 2) := by decide +kernel
theorem dx_quantify_51 : decode bx_quantify 51 = .ok (.aload_n 0, 1) := by decide +kernel
theorem dx_quantify_52 : decode bx_quantify 52 = .ok (.getfield 10, 3) := by decide +kernel
theorem dx_quantify_55 : decode bx_quantify 55 = .ok (.iload_n 1, 1) := by decide +kernel
theorem dx_quantify_56 : decode bx_quantify 56 = .ok (.aload_n 0, 1) := by decide +kernel
theorem dx_quantify_57 : decode bx_quantify 57 = .ok (.getfield 10, 3) := by decide +kernel
theorem dx_quantify_60 : decode bx_quantify 60 = .ok (.iload 6, 2) := by decide +kernel
theorem dx_quantify_62 : decode bx_quantify 62 = .ok (.invokevirtual 48, 3) := by decide +kernel
theorem dx_quantify_65 : decode bx_quantify 65 = .ok (.invokevirtual 27, 3) := by decide +kernel
theorem dx_quantify_68 : decode bx_quantify 68 = .ok (.goto 23, 3) := by decide +kernel
theorem dx_quantify_71 : decode bx_quantify 71 = .ok (.aload_n 0, 1) := by decide +kernel
theorem dx_quantify_72 : decode bx_quantify 72 = .ok (.getfield 10, 3) := by decide +kernel
theorem dx_quantify_75 : decode bx_quantify 75 = .ok (.iload_n 1, 1) := by decide +kernel
theorem dx_quantify_76 : decode bx_quantify 76 = .ok (.aload_n 0, 1) := by decide +kernel
theorem dx_quantify_77 : decode bx_quantify 77 = .ok (.getfield 10, 3) := by decide +kernel
theorem dx_quantify_80 : decode bx_quantify 80 = .ok (.iload 5, 2) := by decide +kernel
theorem dx_quantify_82 : decode bx_quantify 82 = .ok (.iconst 1, 1) := by decide +kernel
theorem dx_quantify_83 : decode bx_quantify 83 = .ok (.iload_n 3, 1) := by decide +kernel
theorem dx_quantify_84 : decode bx_quantify 84 = .ok (.iconst 0, 1) := by decide +kernel
theorem dx_quantify_85 : decode bx_quantify 85 = .ok (.invokevirtual 51, 3) := by decide +kernel
theorem dx_quantify_88 : decode bx_quantify 88 = .ok (.invokevirtual 27, 3) := by decide +kernel
theorem dx_quantify_91 : decode bx_quantify 91 = .ok (.return_, 1) := by decide +kernel
set_option maxHeartbeats 4000000 in
set_option maxRecDepth 100000 in
theorem ctx_quantify {v : wt_V} {s : wt_S} {a1 : Int32} {a2 : Int32} {a3 : Int32} {a4 : Int32} {s2 : wt_S} (t : wt_M) (o : Nat → Int64) (hF : fx_quantify s a1 a2 a3 a4 = some s2) : ct_C v yx_quantify (Cond.code yx_quantify bx_quantify 7 none) 21 [.ref (v.2.1 0), .int a1, .int a2, .int a3, .int a4] none (s, t, o) (s2, t, o) := by
  refine ct_of (lv := [(0, .ref (v.2.1 0)), (1, .int a1), (2, .int a2), (3, .int a3), (4, .int a4)]) (fun _ : wt_S => none) (fun r => (r, t, o)) (by decide) (Nat.le_of_ble_eq_true rfl) rfl ?_ s2 hF
  intro z hz am
  subst hz
  have am : wt_Am z R_X bx_quantify 7 21 none := am
  show jj_J z 7 0 [(0, .ref (ad_ z 0)), (1, .int a1), (2, .int a2), (3, .int a3), (4, .int a4)] [] (s, t, o) (q_S z t o) (fx_quantify s a1 a2 a3 a4)
  unfold fx_quantify
  refine ji_iload_n (q := 1) am dx_quantify_0 rfl 1 rfl rfl ?_
  refine jk_U (q := 4) (rest := []) (fun u hF => jr_S [.int a1] am ln_X_x_needRegister (ctx_needRegister _ _ _ hF) (by omega) rfl rfl (Nat.le_of_ble_eq_true rfl) dx_quantify_1) rfl ?_
  intro u1
  refine ji_iload_n (q := 5) am dx_quantify_4 rfl 2 rfl rfl ?_
  refine jk_U (q := 8) (rest := []) (fun u hF => jr_S [.int a2] am ln_X_x_needRegister (ctx_needRegister _ _ _ hF) (by omega) rfl rfl (Nat.le_of_ble_eq_true rfl) dx_quantify_5) rfl ?_
  intro u5
  refine ji_iload_n (q := 9) am dx_quantify_8 rfl 3 rfl rfl ?_
  refine ji_sipush (q := 12) am dx_quantify_9 ks_256 rfl ?_
  refine jk_U (q := 15) (rest := []) (fun u hF => jr_S [.int a3, .int (256 : Int32)] am ln_X_x_needBelow (ctx_needBelow _ _ _ hF) (by omega) rfl rfl (Nat.le_of_ble_eq_true rfl) dx_quantify_12) rfl ?_
  intro u12
  refine ji_aload_n (q := 16) am dx_quantify_15 rfl 0 rfl rfl ?_
  refine ji_get_X_diagrams (q := 19) am dx_quantify_16 rfl ?_
  refine ji_iload_n (q := 20) am dx_quantify_19 rfl 2 rfl rfl ?_
  refine jk_I (q := 23) (rest := []) (fun r hF => jr_V [.int a2] am ln_X_d_root (ctd_root _ _ hF) (by omega) (rc_D am) rfl rfl (Nat.le_of_ble_eq_true rfl) dx_quantify_20) rfl ?_
  intro r20
  refine ji_istore (lv' := [(0, .ref (ad_ z 0)), (1, .int a1), (2, .int a2), (3, .int a3), (4, .int a4), (5, .int r20)]) (q := 25) am dx_quantify_23 [1, 2, 3, 4, 5, 0] rfl rfl rfl ?_
  refine ji_iload (q := 27) am dx_quantify_25 4 rfl rfl ?_
  refine ji_jn2 (fun j => ∀ (s_91 : wt_S), jj_J z 7 91 [] [] (s_91, t, o) (q_S z t o) (j s_91)) ?_ ?_
  · intro s_91
    exact ji_vret am rfl dx_quantify_91 rfl rfl
  · intro j91 hj91
    refine ji_if_eq (q := 30) (g := 71) am dx_quantify_27 rfl rfl ?_ ?_
    · refine ji_aload_n (q := 72) am dx_quantify_71 rfl 0 rfl rfl ?_
      refine ji_get_X_diagrams (q := 75) am dx_quantify_72 rfl ?_
      refine ji_iload_n (q := 76) am dx_quantify_75 rfl 1 rfl rfl ?_
      refine ji_aload_n (q := 77) am dx_quantify_76 rfl 0 rfl rfl ?_
      refine ji_get_X_diagrams (q := 80) am dx_quantify_77 rfl ?_
      refine ji_iload (q := 82) am dx_quantify_80 5 rfl rfl ?_
      refine ji_iconst (q := 83) am dx_quantify_82 ki_1 rfl ?_
      refine ji_iload_n (q := 84) am dx_quantify_83 rfl 3 rfl rfl ?_
      refine ji_iconst (q := 85) am dx_quantify_84 ki_0 rfl ?_
      refine jk_IS (q := 88) (rest := [.int a1, .ref (ad_ z 1)]) (fun r s2 hF => jr_N [.int r20, .int (1 : Int32), .int a3, .int (0 : Int32)] am ln_X_d_overlap (ctd_overlap t o 9 _ _ _ _ _ _ _ hF) (by omega) (rc_D am) rfl rfl (Nat.le_of_ble_eq_true rfl) dx_quantify_85) rfl ?_
      intro r85 s85
      refine jk_S (q := 91) (rest := []) (fun s2 hF => jr_V [.int a1, .int r85] am ln_X_d_keep (ctd_keep _ _ hF) (by omega) (rc_D am) rfl rfl (Nat.le_of_ble_eq_true rfl) dx_quantify_88) rfl ?_
      intro s88
      exact ji_sub (lv' := []) [] rfl (hj91 _)
    · refine ji_aload_n (q := 31) am dx_quantify_30 rfl 0 rfl rfl ?_
      refine ji_get_X_diagrams (q := 34) am dx_quantify_31 rfl ?_
      refine ji_aload_n (q := 35) am dx_quantify_34 rfl 0 rfl rfl ?_
      refine ji_get_X_diagrams (q := 38) am dx_quantify_35 rfl ?_
      refine ji_iload (q := 40) am dx_quantify_38 5 rfl rfl ?_
      refine jk_IS (q := 43) (rest := [.ref (ad_ z 1)]) (fun r s2 hF => jr_V [.int r20] am ln_X_d_negate (ctd_negate _ _ hF) (by omega) (rc_D am) rfl rfl (Nat.le_of_ble_eq_true rfl) dx_quantify_40) rfl ?_
      intro r40 s40
      refine ji_iconst (q := 44) am dx_quantify_43 ki_1 rfl ?_
      refine ji_iload_n (q := 45) am dx_quantify_44 rfl 3 rfl rfl ?_
      refine ji_iconst (q := 46) am dx_quantify_45 ki_0 rfl ?_
      refine jk_IS (q := 49) (rest := []) (fun r s2 hF => jr_N [.int r40, .int (1 : Int32), .int a3, .int (0 : Int32)] am ln_X_d_overlap (ctd_overlap t o 9 _ _ _ _ _ _ _ hF) (by omega) (rc_D am) rfl rfl (Nat.le_of_ble_eq_true rfl) dx_quantify_46) rfl ?_
      intro r46 s46
      refine ji_istore (lv' := [(0, .ref (ad_ z 0)), (1, .int a1), (2, .int a2), (3, .int a3), (4, .int a4), (5, .int r20), (6, .int r46)]) (q := 51) am dx_quantify_49 [1, 2, 3, 4, 5, 6, 0] rfl rfl rfl ?_
      refine ji_aload_n (q := 52) am dx_quantify_51 rfl 0 rfl rfl ?_
      refine ji_get_X_diagrams (q := 55) am dx_quantify_52 rfl ?_
      refine ji_iload_n (q := 56) am dx_quantify_55 rfl 1 rfl rfl ?_
      refine ji_aload_n (q := 57) am dx_quantify_56 rfl 0 rfl rfl ?_
      refine ji_get_X_diagrams (q := 60) am dx_quantify_57 rfl ?_
      refine ji_iload (q := 62) am dx_quantify_60 6 rfl rfl ?_
      refine jk_IS (q := 65) (rest := [.int a1, .ref (ad_ z 1)]) (fun r s2 hF => jr_V [.int r46] am ln_X_d_negate (ctd_negate _ _ hF) (by omega) (rc_D am) rfl rfl (Nat.le_of_ble_eq_true rfl) dx_quantify_62) rfl ?_
      intro r62 s62
      refine jk_S (q := 68) (rest := []) (fun s2 hF => jr_V [.int a1, .int r62] am ln_X_d_keep (ctd_keep _ _ hF) (by omega) (rc_D am) rfl rfl (Nat.le_of_ble_eq_true rfl) dx_quantify_65) rfl ?_
      intro s65
      refine ji_goto (q := 91) am dx_quantify_68 rfl ?_
      exact ji_sub (lv' := []) [] rfl (hj91 _)

theorem dx_product_0 : decode bx_product 0 = .ok (.iload_n 1, 1) := by decide +kernel
theorem dx_product_1 : decode bx_product 1 = .ok (.invokestatic 16, 3) := by decide +kernel
theorem dx_product_4 : decode bx_product 4 = .ok (.iload_n 2, 1) := by decide +kernel
theorem dx_product_5 : decode bx_product 5 = .ok (.invokestatic 16, 3) := by decide +kernel
theorem dx_product_8 : decode bx_product 8 = .ok (.iload_n 3, 1) := by decide +kernel
theorem dx_product_9 : decode bx_product 9 = .ok (.invokestatic 16, 3) := by decide +kernel
theorem dx_product_12 : decode bx_product 12 = .ok (.iload 4, 2) := by decide +kernel
theorem dx_product_14 : decode bx_product 14 = .ok (.sipush 256, 3) := by decide +kernel
theorem dx_product_17 : decode bx_product 17 = .ok (.invokestatic 31, 3) := by decide +kernel
theorem dx_product_20 : decode bx_product 20 = .ok (.aload_n 0, 1) := by decide +kernel
theorem dx_product_21 : decode bx_product 21 = .ok (.getfield 10, 3) := by decide +kernel
theorem dx_product_24 : decode bx_product 24 = .ok (.iload_n 1, 1) := by decide +kernel
theorem dx_product_25 : decode bx_product 25 = .ok (.aload_n 0, 1) := by decide +kernel
theorem dx_product_26 : decode bx_product 26 = .ok (.getfield 10, 3) := by decide +kernel
theorem dx_product_29 : decode bx_product 29 = .ok (.aload_n 0, 1) := by decide +kernel
theorem dx_product_30 : decode bx_product 30 = .ok (.getfield 10, 3) := by decide +kernel
theorem dx_product_33 : decode bx_product 33 = .ok (.iload_n 2, 1) := by decide +kernel
theorem dx_product_34 : decode bx_product 34 = .ok (.invokevirtual 34, 3) := by decide +kernel
theorem dx_product_37 : decode bx_product 37 = .ok (.aload_n 0, 1) := by decide +kernel
theorem dx_product_38 : decode bx_product 38 = .ok (.getfield 10, 3) := by decide +kernel
theorem dx_product_41 : decode bx_product 41 = .ok (.iload_n 3, 1) := by decide +kernel
theorem dx_product_42 : decode bx_product 42 = .ok (.invokevirtual 34, 3) := by decide +kernel
theorem dx_product_45 : decode bx_product 45 = .ok (.iload 4, 2) := by decide +kernel
theorem dx_product_47 : decode bx_product 47 = .ok (.iconst 0, 1) := by decide +kernel
theorem dx_product_48 : decode bx_product 48 = .ok (.invokevirtual 51, 3) := by decide +kernel
theorem dx_product_51 : decode bx_product 51 = .ok (.invokevirtual 27, 3) := by decide +kernel
theorem dx_product_54 : decode bx_product 54 = .ok (.return_, 1) := by decide +kernel
set_option maxHeartbeats 4000000 in
set_option maxRecDepth 100000 in
theorem ctx_product {v : wt_V} {s : wt_S} {a1 : Int32} {a2 : Int32} {a3 : Int32} {a4 : Int32} {s2 : wt_S} (t : wt_M) (o : Nat → Int64) (hF : fx_product s a1 a2 a3 a4 = some s2) : ct_C v yx_product (Cond.code yx_product bx_product 5 none) 21 [.ref (v.2.1 0), .int a1, .int a2, .int a3, .int a4] none (s, t, o) (s2, t, o) := by
  refine ct_of (lv := [(0, .ref (v.2.1 0)), (1, .int a1), (2, .int a2), (3, .int a3), (4, .int a4)]) (fun _ : wt_S => none) (fun r => (r, t, o)) (by decide) (Nat.le_of_ble_eq_true rfl) rfl ?_ s2 hF
  intro z hz am
  subst hz
  have am : wt_Am z R_X bx_product 5 21 none := am
  show jj_J z 5 0 [(0, .ref (ad_ z 0)), (1, .int a1), (2, .int a2), (3, .int a3), (4, .int a4)] [] (s, t, o) (q_S z t o) (fx_product s a1 a2 a3 a4)
  unfold fx_product
  refine ji_iload_n (q := 1) am dx_product_0 rfl 1 rfl rfl ?_
  refine jk_U (q := 4) (rest := []) (fun u hF => jr_S [.int a1] am ln_X_x_needRegister (ctx_needRegister _ _ _ hF) (by omega) rfl rfl (Nat.le_of_ble_eq_true rfl) dx_product_1) rfl ?_
  intro u1
  refine ji_iload_n (q := 5) am dx_product_4 rfl 2 rfl rfl ?_
  refine jk_U (q := 8) (rest := []) (fun u hF => jr_S [.int a2] am ln_X_x_needRegister (ctx_needRegister _ _ _ hF) (by omega) rfl rfl (Nat.le_of_ble_eq_true rfl) dx_product_5) rfl ?_
  intro u5
  refine ji_iload_n (q := 9) am dx_product_8 rfl 3 rfl rfl ?_
  refine jk_U (q := 12) (rest := []) (fun u hF => jr_S [.int a3] am ln_X_x_needRegister (ctx_needRegister _ _ _ hF) (by omega) rfl rfl (Nat.le_of_ble_eq_true rfl) dx_product_9) rfl ?_
  intro u9
  refine ji_iload (q := 14) am dx_product_12 4 rfl rfl ?_
  refine ji_sipush (q := 17) am dx_product_14 ks_256 rfl ?_
  refine jk_U (q := 20) (rest := []) (fun u hF => jr_S [.int a4, .int (256 : Int32)] am ln_X_x_needBelow (ctx_needBelow _ _ _ hF) (by omega) rfl rfl (Nat.le_of_ble_eq_true rfl) dx_product_17) rfl ?_
  intro u17
  refine ji_aload_n (q := 21) am dx_product_20 rfl 0 rfl rfl ?_
  refine ji_get_X_diagrams (q := 24) am dx_product_21 rfl ?_
  refine ji_iload_n (q := 25) am dx_product_24 rfl 1 rfl rfl ?_
  refine ji_aload_n (q := 26) am dx_product_25 rfl 0 rfl rfl ?_
  refine ji_get_X_diagrams (q := 29) am dx_product_26 rfl ?_
  refine ji_aload_n (q := 30) am dx_product_29 rfl 0 rfl rfl ?_
  refine ji_get_X_diagrams (q := 33) am dx_product_30 rfl ?_
  refine ji_iload_n (q := 34) am dx_product_33 rfl 2 rfl rfl ?_
  refine jk_I (q := 37) (rest := [.ref (ad_ z 1), .int a1, .ref (ad_ z 1)]) (fun r hF => jr_V [.int a2] am ln_X_d_root (ctd_root _ _ hF) (by omega) (rc_D am) rfl rfl (Nat.le_of_ble_eq_true rfl) dx_product_34) rfl ?_
  intro r34
  refine ji_aload_n (q := 38) am dx_product_37 rfl 0 rfl rfl ?_
  refine ji_get_X_diagrams (q := 41) am dx_product_38 rfl ?_
  refine ji_iload_n (q := 42) am dx_product_41 rfl 3 rfl rfl ?_
  refine jk_I (q := 45) (rest := [.int r34, .ref (ad_ z 1), .int a1, .ref (ad_ z 1)]) (fun r hF => jr_V [.int a3] am ln_X_d_root (ctd_root _ _ hF) (by omega) (rc_D am) rfl rfl (Nat.le_of_ble_eq_true rfl) dx_product_42) rfl ?_
  intro r42
  refine ji_iload (q := 47) am dx_product_45 4 rfl rfl ?_
  refine ji_iconst (q := 48) am dx_product_47 ki_0 rfl ?_
  refine jk_IS (q := 51) (rest := [.int a1, .ref (ad_ z 1)]) (fun r s2 hF => jr_N [.int r34, .int r42, .int a4, .int (0 : Int32)] am ln_X_d_overlap (ctd_overlap t o 9 _ _ _ _ _ _ _ hF) (by omega) (rc_D am) rfl rfl (Nat.le_of_ble_eq_true rfl) dx_product_48) rfl ?_
  intro r48 s48
  refine jk_S (q := 54) (rest := []) (fun s2 hF => jr_V [.int a1, .int r48] am ln_X_d_keep (ctd_keep _ _ hF) (by omega) (rc_D am) rfl rfl (Nat.le_of_ble_eq_true rfl) dx_product_51) rfl ?_
  intro s51
  exact ji_vret am rfl dx_product_54 rfl rfl

theorem dx_compose_0 : decode bx_compose 0 = .ok (.iload_n 1, 1) := by decide +kernel
theorem dx_compose_1 : decode bx_compose 1 = .ok (.invokestatic 16, 3) := by decide +kernel
theorem dx_compose_4 : decode bx_compose 4 = .ok (.iload_n 2, 1) := by decide +kernel
theorem dx_compose_5 : decode bx_compose 5 = .ok (.invokestatic 16, 3) := by decide +kernel
theorem dx_compose_8 : decode bx_compose 8 = .ok (.iload_n 3, 1) := by decide +kernel
theorem dx_compose_9 : decode bx_compose 9 = .ok (.invokestatic 20, 3) := by decide +kernel
theorem dx_compose_12 : decode bx_compose 12 = .ok (.iload 4, 2) := by decide +kernel
theorem dx_compose_14 : decode bx_compose 14 = .ok (.invokestatic 16, 3) := by decide +kernel
theorem dx_compose_17 : decode bx_compose 17 = .ok (.aload_n 0, 1) := by decide +kernel
theorem dx_compose_18 : decode bx_compose 18 = .ok (.getfield 10, 3) := by decide +kernel
theorem dx_compose_21 : decode bx_compose 21 = .ok (.aload_n 0, 1) := by decide +kernel
theorem dx_compose_22 : decode bx_compose 22 = .ok (.getfield 10, 3) := by decide +kernel
theorem dx_compose_25 : decode bx_compose 25 = .ok (.iload_n 2, 1) := by decide +kernel
theorem dx_compose_26 : decode bx_compose 26 = .ok (.invokevirtual 34, 3) := by decide +kernel
theorem dx_compose_29 : decode bx_compose 29 = .ok (.iload_n 3, 1) := by decide +kernel
theorem dx_compose_30 : decode bx_compose 30 = .ok (.iconst 1, 1) := by decide +kernel
theorem dx_compose_31 : decode bx_compose 31 = .ok (.iconst 0, 1) := by decide +kernel
theorem dx_compose_32 : decode bx_compose 32 = .ok (.invokevirtual 44, 3) := by decide +kernel
theorem dx_compose_35 : decode bx_compose 35 = .ok (.istore 5, 2) := by decide +kernel
theorem dx_compose_37 : decode bx_compose 37 = .ok (.aload_n 0, 1) := by decide +kernel
theorem dx_compose_38 : decode bx_compose 38 = .ok (.getfield 10, 3) := by decide +kernel
theorem dx_compose_41 : decode bx_compose 41 = .ok (.aload_n 0, 1) := by decide +kernel
theorem dx_compose_42 : decode bx_compose 42 = .ok (.getfield 10, 3) := by decide +kernel
theorem dx_compose_45 : decode bx_compose 45 = .ok (.iload_n 2, 1) := by decide +kernel
theorem dx_compose_46 : decode bx_compose 46 = .ok (.invokevirtual 34, 3) := by decide +kernel
theorem dx_compose_49 : decode bx_compose 49 = .ok (.iload_n 3, 1) := by decide +kernel
theorem dx_compose_50 : decode bx_compose 50 = .ok (.iconst 0, 1) := by decide +kernel
theorem dx_compose_51 : decode bx_compose 51 = .ok (.iconst 0, 1) := by decide +kernel
theorem dx_compose_52 : decode bx_compose 52 = .ok (.invokevirtual 44, 3) := by decide +kernel
theorem dx_compose_55 : decode bx_compose 55 = .ok (.istore 6, 2) := by decide +kernel
theorem dx_compose_57 : decode bx_compose 57 = .ok (.aload_n 0, 1) := by decide +kernel
theorem dx_compose_58 : decode bx_compose 58 = .ok (.getfield 10, 3) := by decide +kernel
theorem dx_compose_61 : decode bx_compose 61 = .ok (.iload_n 1, 1) := by decide +kernel
theorem dx_compose_62 : decode bx_compose 62 = .ok (.aload_n 0, 1) := by decide +kernel
theorem dx_compose_63 : decode bx_compose 63 = .ok (.getfield 10, 3) := by decide +kernel
theorem dx_compose_66 : decode bx_compose 66 = .ok (.aload_n 0, 1) := by decide +kernel
theorem dx_compose_67 : decode bx_compose 67 = .ok (.getfield 10, 3) := by decide +kernel
theorem dx_compose_70 : decode bx_compose 70 = .ok (.iload 4, 2) := by decide +kernel
theorem dx_compose_72 : decode bx_compose 72 = .ok (.invokevirtual 34, 3) := by decide +kernel
theorem dx_compose_75 : decode bx_compose 75 = .ok (.iload 5, 2) := by decide +kernel
theorem dx_compose_77 : decode bx_compose 77 = .ok (.iload 6, 2) := by decide +kernel
theorem dx_compose_79 : decode bx_compose 79 = .ok (.iconst 0, 1) := by decide +kernel
theorem dx_compose_80 : decode bx_compose 80 = .ok (.invokevirtual 41, 3) := by decide +kernel
theorem dx_compose_83 : decode bx_compose 83 = .ok (.invokevirtual 27, 3) := by decide +kernel
theorem dx_compose_86 : decode bx_compose 86 = .ok (.return_, 1) := by decide +kernel
set_option maxHeartbeats 4000000 in
set_option maxRecDepth 100000 in
theorem ctx_compose {v : wt_V} {s : wt_S} {a1 : Int32} {a2 : Int32} {a3 : Int32} {a4 : Int32} {s2 : wt_S} (t : wt_M) (o : Nat → Int64) (hF : fx_compose s a1 a2 a3 a4 = some s2) : ct_C v yx_compose (Cond.code yx_compose bx_compose 7 none) 12 [.ref (v.2.1 0), .int a1, .int a2, .int a3, .int a4] none (s, t, o) (s2, t, o) := by
  refine ct_of (lv := [(0, .ref (v.2.1 0)), (1, .int a1), (2, .int a2), (3, .int a3), (4, .int a4)]) (fun _ : wt_S => none) (fun r => (r, t, o)) (by decide) (Nat.le_of_ble_eq_true rfl) rfl ?_ s2 hF
  intro z hz am
  subst hz
  have am : wt_Am z R_X bx_compose 7 12 none := am
  show jj_J z 7 0 [(0, .ref (ad_ z 0)), (1, .int a1), (2, .int a2), (3, .int a3), (4, .int a4)] [] (s, t, o) (q_S z t o) (fx_compose s a1 a2 a3 a4)
  unfold fx_compose
  refine ji_iload_n (q := 1) am dx_compose_0 rfl 1 rfl rfl ?_
  refine jk_U (q := 4) (rest := []) (fun u hF => jr_S [.int a1] am ln_X_x_needRegister (ctx_needRegister _ _ _ hF) (by omega) rfl rfl (Nat.le_of_ble_eq_true rfl) dx_compose_1) rfl ?_
  intro u1
  refine ji_iload_n (q := 5) am dx_compose_4 rfl 2 rfl rfl ?_
  refine jk_U (q := 8) (rest := []) (fun u hF => jr_S [.int a2] am ln_X_x_needRegister (ctx_needRegister _ _ _ hF) (by omega) rfl rfl (Nat.le_of_ble_eq_true rfl) dx_compose_5) rfl ?_
  intro u5
  refine ji_iload_n (q := 9) am dx_compose_8 rfl 3 rfl rfl ?_
  refine jk_U (q := 12) (rest := []) (fun u hF => jr_S [.int a3] am ln_X_x_needVariable (ctx_needVariable _ _ _ hF) (by omega) rfl rfl (Nat.le_of_ble_eq_true rfl) dx_compose_9) rfl ?_
  intro u9
  refine ji_iload (q := 14) am dx_compose_12 4 rfl rfl ?_
  refine jk_U (q := 17) (rest := []) (fun u hF => jr_S [.int a4] am ln_X_x_needRegister (ctx_needRegister _ _ _ hF) (by omega) rfl rfl (Nat.le_of_ble_eq_true rfl) dx_compose_14) rfl ?_
  intro u14
  refine ji_aload_n (q := 18) am dx_compose_17 rfl 0 rfl rfl ?_
  refine ji_get_X_diagrams (q := 21) am dx_compose_18 rfl ?_
  refine ji_aload_n (q := 22) am dx_compose_21 rfl 0 rfl rfl ?_
  refine ji_get_X_diagrams (q := 25) am dx_compose_22 rfl ?_
  refine ji_iload_n (q := 26) am dx_compose_25 rfl 2 rfl rfl ?_
  refine jk_I (q := 29) (rest := [.ref (ad_ z 1)]) (fun r hF => jr_V [.int a2] am ln_X_d_root (ctd_root _ _ hF) (by omega) (rc_D am) rfl rfl (Nat.le_of_ble_eq_true rfl) dx_compose_26) rfl ?_
  intro r26
  refine ji_iload_n (q := 30) am dx_compose_29 rfl 3 rfl rfl ?_
  refine ji_iconst (q := 31) am dx_compose_30 ki_1 rfl ?_
  refine ji_iconst (q := 32) am dx_compose_31 ki_0 rfl ?_
  refine jk_IS (q := 35) (rest := []) (fun r s2 hF => jr_N [.int r26, .int a3, .int (1 : Int32), .int (0 : Int32)] am ln_X_d_fix (ctd_fix t o 9 _ _ _ _ _ _ _ hF) (by omega) (rc_D am) rfl rfl (Nat.le_of_ble_eq_true rfl) dx_compose_32) rfl ?_
  intro r32 s32
  refine ji_istore (lv' := [(0, .ref (ad_ z 0)), (1, .int a1), (2, .int a2), (3, .int a3), (4, .int a4), (5, .int r32)]) (q := 37) am dx_compose_35 [1, 2, 3, 4, 5, 0] rfl rfl rfl ?_
  refine ji_aload_n (q := 38) am dx_compose_37 rfl 0 rfl rfl ?_
  refine ji_get_X_diagrams (q := 41) am dx_compose_38 rfl ?_
  refine ji_aload_n (q := 42) am dx_compose_41 rfl 0 rfl rfl ?_
  refine ji_get_X_diagrams (q := 45) am dx_compose_42 rfl ?_
  refine ji_iload_n (q := 46) am dx_compose_45 rfl 2 rfl rfl ?_
  refine jk_I (q := 49) (rest := [.ref (ad_ z 1)]) (fun r hF => jr_V [.int a2] am ln_X_d_root (ctd_root _ _ hF) (by omega) (rc_D am) rfl rfl (Nat.le_of_ble_eq_true rfl) dx_compose_46) rfl ?_
  intro r46
  refine ji_iload_n (q := 50) am dx_compose_49 rfl 3 rfl rfl ?_
  refine ji_iconst (q := 51) am dx_compose_50 ki_0 rfl ?_
  refine ji_iconst (q := 52) am dx_compose_51 ki_0 rfl ?_
  refine jk_IS (q := 55) (rest := []) (fun r s2 hF => jr_N [.int r46, .int a3, .int (0 : Int32), .int (0 : Int32)] am ln_X_d_fix (ctd_fix t o 9 _ _ _ _ _ _ _ hF) (by omega) (rc_D am) rfl rfl (Nat.le_of_ble_eq_true rfl) dx_compose_52) rfl ?_
  intro r52 s52
  refine ji_istore (lv' := [(0, .ref (ad_ z 0)), (1, .int a1), (2, .int a2), (3, .int a3), (4, .int a4), (5, .int r32), (6, .int r52)]) (q := 57) am dx_compose_55 [1, 2, 3, 4, 5, 6, 0] rfl rfl rfl ?_
  refine ji_aload_n (q := 58) am dx_compose_57 rfl 0 rfl rfl ?_
  refine ji_get_X_diagrams (q := 61) am dx_compose_58 rfl ?_
  refine ji_iload_n (q := 62) am dx_compose_61 rfl 1 rfl rfl ?_
  refine ji_aload_n (q := 63) am dx_compose_62 rfl 0 rfl rfl ?_
  refine ji_get_X_diagrams (q := 66) am dx_compose_63 rfl ?_
  refine ji_aload_n (q := 67) am dx_compose_66 rfl 0 rfl rfl ?_
  refine ji_get_X_diagrams (q := 70) am dx_compose_67 rfl ?_
  refine ji_iload (q := 72) am dx_compose_70 4 rfl rfl ?_
  refine jk_I (q := 75) (rest := [.ref (ad_ z 1), .int a1, .ref (ad_ z 1)]) (fun r hF => jr_V [.int a4] am ln_X_d_root (ctd_root _ _ hF) (by omega) (rc_D am) rfl rfl (Nat.le_of_ble_eq_true rfl) dx_compose_72) rfl ?_
  intro r72
  refine ji_iload (q := 77) am dx_compose_75 5 rfl rfl ?_
  refine ji_iload (q := 79) am dx_compose_77 6 rfl rfl ?_
  refine ji_iconst (q := 80) am dx_compose_79 ki_0 rfl ?_
  refine jk_IS (q := 83) (rest := [.int a1, .ref (ad_ z 1)]) (fun r s2 hF => jr_N [.int r72, .int r32, .int r52, .int (0 : Int32)] am ln_X_d_pick (ctd_pick t o 9 _ _ _ _ _ _ _ hF) (by omega) (rc_D am) rfl rfl (Nat.le_of_ble_eq_true rfl) dx_compose_80) rfl ?_
  intro r80 s80
  refine jk_S (q := 86) (rest := []) (fun s2 hF => jr_V [.int a1, .int r80] am ln_X_d_keep (ctd_keep _ _ hF) (by omega) (rc_D am) rfl rfl (Nat.le_of_ble_eq_true rfl) dx_compose_83) rfl ?_
  intro s83
  exact ji_vret am rfl dx_compose_86 rfl rfl

theorem dx_turn_0 : decode bx_turn 0 = .ok (.iload_n 1, 1) := by decide +kernel
theorem dx_turn_1 : decode bx_turn 1 = .ok (.invokestatic 16, 3) := by decide +kernel
theorem dx_turn_4 : decode bx_turn 4 = .ok (.iload_n 2, 1) := by decide +kernel
theorem dx_turn_5 : decode bx_turn 5 = .ok (.invokestatic 16, 3) := by decide +kernel
theorem dx_turn_8 : decode bx_turn 8 = .ok (.aload_n 0, 1) := by decide +kernel
theorem dx_turn_9 : decode bx_turn 9 = .ok (.getfield 10, 3) := by decide +kernel
theorem dx_turn_12 : decode bx_turn 12 = .ok (.iload_n 1, 1) := by decide +kernel
theorem dx_turn_13 : decode bx_turn 13 = .ok (.aload_n 0, 1) := by decide +kernel
theorem dx_turn_14 : decode bx_turn 14 = .ok (.getfield 10, 3) := by decide +kernel
theorem dx_turn_17 : decode bx_turn 17 = .ok (.aload_n 0, 1) := by decide +kernel
theorem dx_turn_18 : decode bx_turn 18 = .ok (.getfield 10, 3) := by decide +kernel
theorem dx_turn_21 : decode bx_turn 21 = .ok (.iload_n 2, 1) := by decide +kernel
theorem dx_turn_22 : decode bx_turn 22 = .ok (.invokevirtual 34, 3) := by decide +kernel
theorem dx_turn_25 : decode bx_turn 25 = .ok (.iconst 0, 1) := by decide +kernel
theorem dx_turn_26 : decode bx_turn 26 = .ok (.invokevirtual 54, 3) := by decide +kernel
theorem dx_turn_29 : decode bx_turn 29 = .ok (.invokevirtual 27, 3) := by decide +kernel
theorem dx_turn_32 : decode bx_turn 32 = .ok (.return_, 1) := by decide +kernel
set_option maxHeartbeats 4000000 in
set_option maxRecDepth 100000 in
theorem ctx_turn {v : wt_V} {s : wt_S} {a1 : Int32} {a2 : Int32} {s2 : wt_S} (t : wt_M) (o : Nat → Int64) (hF : fx_turn s a1 a2 = some s2) : ct_C v yx_turn (Cond.code yx_turn bx_turn 3 none) 21 [.ref (v.2.1 0), .int a1, .int a2] none (s, t, o) (s2, t, o) := by
  refine ct_of (lv := [(0, .ref (v.2.1 0)), (1, .int a1), (2, .int a2)]) (fun _ : wt_S => none) (fun r => (r, t, o)) (by decide) (Nat.le_of_ble_eq_true rfl) rfl ?_ s2 hF
  intro z hz am
  subst hz
  have am : wt_Am z R_X bx_turn 3 21 none := am
  show jj_J z 3 0 [(0, .ref (ad_ z 0)), (1, .int a1), (2, .int a2)] [] (s, t, o) (q_S z t o) (fx_turn s a1 a2)
  unfold fx_turn
  refine ji_iload_n (q := 1) am dx_turn_0 rfl 1 rfl rfl ?_
  refine jk_U (q := 4) (rest := []) (fun u hF => jr_S [.int a1] am ln_X_x_needRegister (ctx_needRegister _ _ _ hF) (by omega) rfl rfl (Nat.le_of_ble_eq_true rfl) dx_turn_1) rfl ?_
  intro u1
  refine ji_iload_n (q := 5) am dx_turn_4 rfl 2 rfl rfl ?_
  refine jk_U (q := 8) (rest := []) (fun u hF => jr_S [.int a2] am ln_X_x_needRegister (ctx_needRegister _ _ _ hF) (by omega) rfl rfl (Nat.le_of_ble_eq_true rfl) dx_turn_5) rfl ?_
  intro u5
  refine ji_aload_n (q := 9) am dx_turn_8 rfl 0 rfl rfl ?_
  refine ji_get_X_diagrams (q := 12) am dx_turn_9 rfl ?_
  refine ji_iload_n (q := 13) am dx_turn_12 rfl 1 rfl rfl ?_
  refine ji_aload_n (q := 14) am dx_turn_13 rfl 0 rfl rfl ?_
  refine ji_get_X_diagrams (q := 17) am dx_turn_14 rfl ?_
  refine ji_aload_n (q := 18) am dx_turn_17 rfl 0 rfl rfl ?_
  refine ji_get_X_diagrams (q := 21) am dx_turn_18 rfl ?_
  refine ji_iload_n (q := 22) am dx_turn_21 rfl 2 rfl rfl ?_
  refine jk_I (q := 25) (rest := [.ref (ad_ z 1), .int a1, .ref (ad_ z 1)]) (fun r hF => jr_V [.int a2] am ln_X_d_root (ctd_root _ _ hF) (by omega) (rc_D am) rfl rfl (Nat.le_of_ble_eq_true rfl) dx_turn_22) rfl ?_
  intro r22
  refine ji_iconst (q := 26) am dx_turn_25 ki_0 rfl ?_
  refine jk_IS (q := 29) (rest := [.int a1, .ref (ad_ z 1)]) (fun r s2 hF => jr_N [.int r22, .int (0 : Int32)] am ln_X_d_mirror (ctd_mirror t o 9 _ _ _ _ _ hF) (by omega) (rc_D am) rfl rfl (Nat.le_of_ble_eq_true rfl) dx_turn_26) rfl ?_
  intro r26 s26
  refine jk_S (q := 32) (rest := []) (fun s2 hF => jr_V [.int a1, .int r26] am ln_X_d_keep (ctd_keep _ _ hF) (by omega) (rc_D am) rfl rfl (Nat.le_of_ble_eq_true rfl) dx_turn_29) rfl ?_
  intro s29
  exact ji_vret am rfl dx_turn_32 rfl rfl

theorem dx_truth_0 : decode bx_truth 0 = .ok (.iload_n 1, 1) := by decide +kernel
theorem dx_truth_1 : decode bx_truth 1 = .ok (.invokestatic 16, 3) := by decide +kernel
theorem dx_truth_4 : decode bx_truth 4 = .ok (.iload_n 2, 1) := by decide +kernel
theorem dx_truth_5 : decode bx_truth 5 = .ok (.sipush 256, 3) := by decide +kernel
theorem dx_truth_8 : decode bx_truth 8 = .ok (.invokestatic 31, 3) := by decide +kernel
theorem dx_truth_11 : decode bx_truth 11 = .ok (.aload_n 0, 1) := by decide +kernel
theorem dx_truth_12 : decode bx_truth 12 = .ok (.getfield 10, 3) := by decide +kernel
theorem dx_truth_15 : decode bx_truth 15 = .ok (.aload_n 0, 1) := by decide +kernel
theorem dx_truth_16 : decode bx_truth 16 = .ok (.getfield 10, 3) := by decide +kernel
theorem dx_truth_19 : decode bx_truth 19 = .ok (.iload_n 1, 1) := by decide +kernel
theorem dx_truth_20 : decode bx_truth 20 = .ok (.invokevirtual 34, 3) := by decide +kernel
theorem dx_truth_23 : decode bx_truth 23 = .ok (.iload_n 2, 1) := by decide +kernel
theorem dx_truth_24 : decode bx_truth 24 = .ok (.invokevirtual 58, 3) := by decide +kernel
theorem dx_truth_27 : decode bx_truth 27 = .ok (.ireturn, 1) := by decide +kernel
set_option maxHeartbeats 4000000 in
set_option maxRecDepth 100000 in
theorem ctx_truth {v : wt_V} {s : wt_S} {a1 : Int32} {a2 : Int32} {r : Int32} (t : wt_M) (o : Nat → Int64) (hF : fx_truth s a1 a2 = some r) : ct_C v yx_truth (Cond.code yx_truth bx_truth 3 (some .boolean)) 2 [.ref (v.2.1 0), .int a1, .int a2] (some (.int r)) (s, t, o) (s, t, o) := by
  refine ct_of (lv := [(0, .ref (v.2.1 0)), (1, .int a1), (2, .int a2)]) (fun r : Int32 => some (.int r)) (fun _ => (s, t, o)) (by decide) (Nat.le_of_ble_eq_true rfl) rfl ?_ r hF
  intro z hz am
  subst hz
  have am : wt_Am z R_X bx_truth 3 2 (some .boolean) := am
  show jj_J z 3 0 [(0, .ref (ad_ z 0)), (1, .int a1), (2, .int a2)] [] (s, t, o) (q_I z s t o) (fx_truth s a1 a2)
  unfold fx_truth
  refine ji_iload_n (q := 1) am dx_truth_0 rfl 1 rfl rfl ?_
  refine jk_U (q := 4) (rest := []) (fun u hF => jr_S [.int a1] am ln_X_x_needRegister (ctx_needRegister _ _ _ hF) (by omega) rfl rfl (Nat.le_of_ble_eq_true rfl) dx_truth_1) rfl ?_
  intro u1
  refine ji_iload_n (q := 5) am dx_truth_4 rfl 2 rfl rfl ?_
  refine ji_sipush (q := 8) am dx_truth_5 ks_256 rfl ?_
  refine jk_U (q := 11) (rest := []) (fun u hF => jr_S [.int a2, .int (256 : Int32)] am ln_X_x_needBelow (ctx_needBelow _ _ _ hF) (by omega) rfl rfl (Nat.le_of_ble_eq_true rfl) dx_truth_8) rfl ?_
  intro u8
  refine ji_aload_n (q := 12) am dx_truth_11 rfl 0 rfl rfl ?_
  refine ji_get_X_diagrams (q := 15) am dx_truth_12 rfl ?_
  refine ji_aload_n (q := 16) am dx_truth_15 rfl 0 rfl rfl ?_
  refine ji_get_X_diagrams (q := 19) am dx_truth_16 rfl ?_
  refine ji_iload_n (q := 20) am dx_truth_19 rfl 1 rfl rfl ?_
  refine jk_I (q := 23) (rest := [.ref (ad_ z 1)]) (fun r hF => jr_V [.int a1] am ln_X_d_root (ctd_root _ _ hF) (by omega) (rc_D am) rfl rfl (Nat.le_of_ble_eq_true rfl) dx_truth_20) rfl ?_
  intro r20
  refine ji_iload_n (q := 24) am dx_truth_23 rfl 2 rfl rfl ?_
  refine jk_I (q := 27) (rest := []) (fun r hF => jr_V [.int r20, .int a2] am ln_X_d_value (ctd_value _ _ hF) (by omega) (rc_D am) rfl rfl (Nat.le_of_ble_eq_true rfl) dx_truth_24) rfl ?_
  intro r24
  exact ji_zret am rfl dx_truth_27 rfl rfl

theorem dx_same_0 : decode bx_same 0 = .ok (.iload_n 1, 1) := by decide +kernel
theorem dx_same_1 : decode bx_same 1 = .ok (.invokestatic 16, 3) := by decide +kernel
theorem dx_same_4 : decode bx_same 4 = .ok (.iload_n 2, 1) := by decide +kernel
theorem dx_same_5 : decode bx_same 5 = .ok (.invokestatic 16, 3) := by decide +kernel
theorem dx_same_8 : decode bx_same 8 = .ok (.aload_n 0, 1) := by decide +kernel
theorem dx_same_9 : decode bx_same 9 = .ok (.getfield 10, 3) := by decide +kernel
theorem dx_same_12 : decode bx_same 12 = .ok (.iload_n 1, 1) := by decide +kernel
theorem dx_same_13 : decode bx_same 13 = .ok (.invokevirtual 34, 3) := by decide +kernel
theorem dx_same_16 : decode bx_same 16 = .ok (.aload_n 0, 1) := by decide +kernel
theorem dx_same_17 : decode bx_same 17 = .ok (.getfield 10, 3) := by decide +kernel
theorem dx_same_20 : decode bx_same 20 = .ok (.iload_n 2, 1) := by decide +kernel
theorem dx_same_21 : decode bx_same 21 = .ok (.invokevirtual 34, 3) := by decide +kernel
theorem dx_same_24 : decode bx_same 24 = .ok (.if_icmp .ne 7, 3) := by decide +kernel
theorem dx_same_27 : decode bx_same 27 = .ok (.iconst 1, 1) := by decide +kernel
theorem dx_same_28 : decode bx_same 28 = .ok (.goto 4, 3) := by decide +kernel
theorem dx_same_31 : decode bx_same 31 = .ok (.iconst 0, 1) := by decide +kernel
theorem dx_same_32 : decode bx_same 32 = .ok (.ireturn, 1) := by decide +kernel
set_option maxHeartbeats 4000000 in
set_option maxRecDepth 100000 in
theorem ctx_same {v : wt_V} {s : wt_S} {a1 : Int32} {a2 : Int32} {r : Int32} (t : wt_M) (o : Nat → Int64) (hF : fx_same s a1 a2 = some r) : ct_C v yx_same (Cond.code yx_same bx_same 3 (some .boolean)) 2 [.ref (v.2.1 0), .int a1, .int a2] (some (.int r)) (s, t, o) (s, t, o) := by
  refine ct_of (lv := [(0, .ref (v.2.1 0)), (1, .int a1), (2, .int a2)]) (fun r : Int32 => some (.int r)) (fun _ => (s, t, o)) (by decide) (Nat.le_of_ble_eq_true rfl) rfl ?_ r hF
  intro z hz am
  subst hz
  have am : wt_Am z R_X bx_same 3 2 (some .boolean) := am
  show jj_J z 3 0 [(0, .ref (ad_ z 0)), (1, .int a1), (2, .int a2)] [] (s, t, o) (q_I z s t o) (fx_same s a1 a2)
  unfold fx_same
  refine ji_iload_n (q := 1) am dx_same_0 rfl 1 rfl rfl ?_
  refine jk_U (q := 4) (rest := []) (fun u hF => jr_S [.int a1] am ln_X_x_needRegister (ctx_needRegister _ _ _ hF) (by omega) rfl rfl (Nat.le_of_ble_eq_true rfl) dx_same_1) rfl ?_
  intro u1
  refine ji_iload_n (q := 5) am dx_same_4 rfl 2 rfl rfl ?_
  refine jk_U (q := 8) (rest := []) (fun u hF => jr_S [.int a2] am ln_X_x_needRegister (ctx_needRegister _ _ _ hF) (by omega) rfl rfl (Nat.le_of_ble_eq_true rfl) dx_same_5) rfl ?_
  intro u5
  refine ji_aload_n (q := 9) am dx_same_8 rfl 0 rfl rfl ?_
  refine ji_get_X_diagrams (q := 12) am dx_same_9 rfl ?_
  refine ji_iload_n (q := 13) am dx_same_12 rfl 1 rfl rfl ?_
  refine jk_I (q := 16) (rest := []) (fun r hF => jr_V [.int a1] am ln_X_d_root (ctd_root _ _ hF) (by omega) (rc_D am) rfl rfl (Nat.le_of_ble_eq_true rfl) dx_same_13) rfl ?_
  intro r13
  refine ji_aload_n (q := 17) am dx_same_16 rfl 0 rfl rfl ?_
  refine ji_get_X_diagrams (q := 20) am dx_same_17 rfl ?_
  refine ji_iload_n (q := 21) am dx_same_20 rfl 2 rfl rfl ?_
  refine jk_I (q := 24) (rest := [.int r13]) (fun r hF => jr_V [.int a2] am ln_X_d_root (ctd_root _ _ hF) (by omega) (rc_D am) rfl rfl (Nat.le_of_ble_eq_true rfl) dx_same_21) rfl ?_
  intro r21
  refine ji_jn2 (fun j => ∀ (y0_32 : Int32), jj_J z 3 32 [] [.int y0_32] (s, t, o) (q_I z s t o) (j y0_32)) ?_ ?_
  · intro y0_32
    exact ji_zret am rfl dx_same_32 rfl rfl
  · intro j32 hj32
    refine ji_icmp_ne (q := 27) (g := 31) am dx_same_24 rfl rfl ?_ ?_
    · refine ji_iconst (q := 32) am dx_same_31 ki_0 rfl ?_
      exact ji_sub (lv' := []) [] rfl (hj32 _)
    · refine ji_iconst (q := 28) am dx_same_27 ki_1 rfl ?_
      refine ji_goto (q := 32) am dx_same_28 rfl ?_
      exact ji_sub (lv' := []) [] rfl (hj32 _)

theorem dx_count_0 : decode bx_count 0 = .ok (.iload_n 1, 1) := by decide +kernel
theorem dx_count_1 : decode bx_count 1 = .ok (.invokestatic 16, 3) := by decide +kernel
theorem dx_count_4 : decode bx_count 4 = .ok (.aload_n 0, 1) := by decide +kernel
theorem dx_count_5 : decode bx_count 5 = .ok (.getfield 10, 3) := by decide +kernel
theorem dx_count_8 : decode bx_count 8 = .ok (.aload_n 0, 1) := by decide +kernel
theorem dx_count_9 : decode bx_count 9 = .ok (.getfield 10, 3) := by decide +kernel
theorem dx_count_12 : decode bx_count 12 = .ok (.iload_n 1, 1) := by decide +kernel
theorem dx_count_13 : decode bx_count 13 = .ok (.invokevirtual 34, 3) := by decide +kernel
theorem dx_count_16 : decode bx_count 16 = .ok (.iconst 0, 1) := by decide +kernel
theorem dx_count_17 : decode bx_count 17 = .ok (.invokevirtual 62, 3) := by decide +kernel
theorem dx_count_20 : decode bx_count 20 = .ok (.ireturn, 1) := by decide +kernel
set_option maxHeartbeats 4000000 in
set_option maxRecDepth 100000 in
theorem ctx_count {v : wt_V} {s : wt_S} {a1 : Int32} {r : Int32} (t : wt_M) (o : Nat → Int64) (hF : fx_count s a1 = some r) : ct_C v yx_count (Cond.code yx_count bx_count 2 (some .int)) 10 [.ref (v.2.1 0), .int a1] (some (.int r)) (s, t, o) (s, t, o) := by
  refine ct_of (lv := [(0, .ref (v.2.1 0)), (1, .int a1)]) (fun r : Int32 => some (.int r)) (fun _ => (s, t, o)) (by decide) (Nat.le_of_ble_eq_true rfl) rfl ?_ r hF
  intro z hz am
  subst hz
  have am : wt_Am z R_X bx_count 2 10 (some .int) := am
  show jj_J z 2 0 [(0, .ref (ad_ z 0)), (1, .int a1)] [] (s, t, o) (q_I z s t o) (fx_count s a1)
  unfold fx_count
  refine ji_iload_n (q := 1) am dx_count_0 rfl 1 rfl rfl ?_
  refine jk_U (q := 4) (rest := []) (fun u hF => jr_S [.int a1] am ln_X_x_needRegister (ctx_needRegister _ _ _ hF) (by omega) rfl rfl (Nat.le_of_ble_eq_true rfl) dx_count_1) rfl ?_
  intro u1
  refine ji_aload_n (q := 5) am dx_count_4 rfl 0 rfl rfl ?_
  refine ji_get_X_diagrams (q := 8) am dx_count_5 rfl ?_
  refine ji_aload_n (q := 9) am dx_count_8 rfl 0 rfl rfl ?_
  refine ji_get_X_diagrams (q := 12) am dx_count_9 rfl ?_
  refine ji_iload_n (q := 13) am dx_count_12 rfl 1 rfl rfl ?_
  refine jk_I (q := 16) (rest := [.ref (ad_ z 1)]) (fun r hF => jr_V [.int a1] am ln_X_d_root (ctd_root _ _ hF) (by omega) (rc_D am) rfl rfl (Nat.le_of_ble_eq_true rfl) dx_count_13) rfl ?_
  intro r13
  refine ji_iconst (q := 17) am dx_count_16 ki_0 rfl ?_
  refine jk_I (q := 20) (rest := []) (fun r hF => jr_N [.int r13, .int (0 : Int32)] am ln_X_d_weight (ctd_weight t o 9 _ _ _ _ hF) (by omega) (rc_D am) rfl rfl (Nat.le_of_ble_eq_true rfl) dx_count_17) rfl ?_
  intro r17
  exact ji_iret am rfl dx_count_20 rfl rfl

theorem dx_least_0 : decode bx_least 0 = .ok (.iload_n 1, 1) := by decide +kernel
theorem dx_least_1 : decode bx_least 1 = .ok (.invokestatic 16, 3) := by decide +kernel
theorem dx_least_4 : decode bx_least 4 = .ok (.aload_n 0, 1) := by decide +kernel
theorem dx_least_5 : decode bx_least 5 = .ok (.getfield 10, 3) := by decide +kernel
theorem dx_least_8 : decode bx_least 8 = .ok (.iload_n 1, 1) := by decide +kernel
theorem dx_least_9 : decode bx_least 9 = .ok (.invokevirtual 34, 3) := by decide +kernel
theorem dx_least_12 : decode bx_least 12 = .ok (.istore_n 2, 1) := by decide +kernel
theorem dx_least_13 : decode bx_least 13 = .ok (.iconst 0, 1) := by decide +kernel
theorem dx_least_14 : decode bx_least 14 = .ok (.istore_n 3, 1) := by decide +kernel
theorem dx_least_15 : decode bx_least 15 = .ok (.iload_n 3, 1) := by decide +kernel
theorem dx_least_16 : decode bx_least 16 = .ok (.sipush 256, 3) := by decide +kernel
theorem dx_least_19 : decode bx_least 19 = .ok (.if_icmp .ge 23, 3) := by decide +kernel
theorem dx_least_22 : decode bx_least 22 = .ok (.aload_n 0, 1) := by decide +kernel
theorem dx_least_23 : decode bx_least 23 = .ok (.getfield 10, 3) := by decide +kernel
theorem dx_least_26 : decode bx_least 26 = .ok (.iload_n 2, 1) := by decide +kernel
theorem dx_least_27 : decode bx_least 27 = .ok (.iload_n 3, 1) := by decide +kernel
theorem dx_least_28 : decode bx_least 28 = .ok (.invokevirtual 58, 3) := by decide +kernel
theorem dx_least_31 : decode bx_least 31 = .ok (.ifCond .eq 5, 3) := by decide +kernel
theorem dx_least_34 : decode bx_least 34 = .ok (.iload_n 3, 1) := by decide +kernel
theorem dx_least_35 : decode bx_least 35 = .ok (.ireturn, 1) := by decide +kernel
theorem dx_least_36 : decode bx_least 36 = .ok (.iinc 3 1, 3) := by decide +kernel
theorem dx_least_39 : decode bx_least 39 = .ok (.goto (-24), 3) := by decide +kernel
theorem dx_least_42 : decode bx_least 42 = .ok (.iconst (-1), 1) := by decide +kernel
theorem dx_least_43 : decode bx_least 43 = .ok (.ireturn, 1) := by decide +kernel
set_option maxHeartbeats 4000000 in
set_option maxRecDepth 100000 in
theorem lx_least_15 {z : wt_Z} {s : wt_S} {t : wt_M} {o : Nat → Int64} {c2 : Int32} (am : wt_Am z R_X bx_least 4 2 (some .int)) : ∀ (n : Nat) (x3 : Int32), jj_J z 4 15 [(0, .ref (ad_ z 0)), (2, .int c2), (3, .int x3)] [] (s, t, o) (q_I z s t o) (fx_least_L15 s c2 n x3) := by
  intro n
  induction n with
  | zero =>
    intro x3
    exact ji_none
  | succ n ih =>
    intro x3
    rw [fx_least_L15]
    refine ji_iload_n (q := 16) am dx_least_15 rfl 2 rfl rfl ?_
    refine ji_sipush (q := 19) am dx_least_16 ks_256 rfl ?_
    refine ji_icmp_ge (q := 22) (g := 42) am dx_least_19 rfl rfl ?_ ?_
    · refine ji_iconst (q := 43) am dx_least_42 ki_m1 rfl ?_
      exact ji_iret am rfl dx_least_43 rfl rfl
    · refine ji_aload_n (q := 23) am dx_least_22 rfl 0 rfl rfl ?_
      refine ji_get_X_diagrams (q := 26) am dx_least_23 rfl ?_
      refine ji_iload_n (q := 27) am dx_least_26 rfl 1 rfl rfl ?_
      refine ji_iload_n (q := 28) am dx_least_27 rfl 2 rfl rfl ?_
      refine jk_I (q := 31) (rest := []) (fun r hF => jr_V [.int c2, .int x3] am ln_X_d_value (ctd_value _ _ hF) (by omega) (rc_D am) rfl rfl (Nat.le_of_ble_eq_true rfl) dx_least_28) rfl ?_
      intro r28
      refine ji_if_eq (q := 34) (g := 36) am dx_least_31 rfl rfl ?_ ?_
      · refine ji_iinc (q := 39) (lv' := [(0, .ref (ad_ z 0)), (2, .int c2), (3, .int (x3 + 1))]) am dx_least_36 2 rfl ki_1 [1, 2, 0] rfl rfl rfl ?_
        refine ji_goto (q := 15) am dx_least_39 rfl ?_
        exact ih _
      · refine ji_iload_n (q := 35) am dx_least_34 rfl 2 rfl rfl ?_
        exact ji_iret am rfl dx_least_35 rfl rfl
set_option maxHeartbeats 4000000 in
set_option maxRecDepth 100000 in
theorem ctx_least {v : wt_V} {s : wt_S} {a1 : Int32} {r : Int32} (t : wt_M) (o : Nat → Int64) (hF : fx_least s a1 = some r) : ct_C v yx_least (Cond.code yx_least bx_least 4 (some .int)) 2 [.ref (v.2.1 0), .int a1] (some (.int r)) (s, t, o) (s, t, o) := by
  refine ct_of (lv := [(0, .ref (v.2.1 0)), (1, .int a1)]) (fun r : Int32 => some (.int r)) (fun _ => (s, t, o)) (by decide) (Nat.le_of_ble_eq_true rfl) rfl ?_ r hF
  intro z hz am
  subst hz
  have am : wt_Am z R_X bx_least 4 2 (some .int) := am
  show jj_J z 4 0 [(0, .ref (ad_ z 0)), (1, .int a1)] [] (s, t, o) (q_I z s t o) (fx_least s a1)
  unfold fx_least
  refine ji_iload_n (q := 1) am dx_least_0 rfl 1 rfl rfl ?_
  refine jk_U (q := 4) (rest := []) (fun u hF => jr_S [.int a1] am ln_X_x_needRegister (ctx_needRegister _ _ _ hF) (by omega) rfl rfl (Nat.le_of_ble_eq_true rfl) dx_least_1) rfl ?_
  intro u1
  refine ji_aload_n (q := 5) am dx_least_4 rfl 0 rfl rfl ?_
  refine ji_get_X_diagrams (q := 8) am dx_least_5 rfl ?_
  refine ji_iload_n (q := 9) am dx_least_8 rfl 1 rfl rfl ?_
  refine jk_I (q := 12) (rest := []) (fun r hF => jr_V [.int a1] am ln_X_d_root (ctd_root _ _ hF) (by omega) (rc_D am) rfl rfl (Nat.le_of_ble_eq_true rfl) dx_least_9) rfl ?_
  intro r9
  refine ji_istore_n (lv' := [(0, .ref (ad_ z 0)), (1, .int a1), (2, .int r9)]) (q := 13) am dx_least_12 rfl [1, 2, 0] rfl rfl rfl ?_
  refine ji_iconst (q := 14) am dx_least_13 ki_0 rfl ?_
  refine ji_istore_n (lv' := [(0, .ref (ad_ z 0)), (1, .int a1), (2, .int r9), (3, .int (0 : Int32))]) (q := 15) am dx_least_14 rfl [1, 2, 3, 0] rfl rfl rfl ?_
  exact ji_sub (lv' := [(0, .ref (ad_ z 0)), (2, .int r9), (3, .int (0 : Int32))]) [0, 2, 3] rfl (lx_least_15 am 5000 _)

theorem dx_depends_0 : decode bx_depends 0 = .ok (.iload_n 1, 1) := by decide +kernel
theorem dx_depends_1 : decode bx_depends 1 = .ok (.invokestatic 16, 3) := by decide +kernel
theorem dx_depends_4 : decode bx_depends 4 = .ok (.aload_n 0, 1) := by decide +kernel
theorem dx_depends_5 : decode bx_depends 5 = .ok (.getfield 10, 3) := by decide +kernel
theorem dx_depends_8 : decode bx_depends 8 = .ok (.aload_n 0, 1) := by decide +kernel
theorem dx_depends_9 : decode bx_depends 9 = .ok (.getfield 10, 3) := by decide +kernel
theorem dx_depends_12 : decode bx_depends 12 = .ok (.iload_n 1, 1) := by decide +kernel
theorem dx_depends_13 : decode bx_depends 13 = .ok (.invokevirtual 34, 3) := by decide +kernel
theorem dx_depends_16 : decode bx_depends 16 = .ok (.iconst 0, 1) := by decide +kernel
theorem dx_depends_17 : decode bx_depends 17 = .ok (.invokevirtual 65, 3) := by decide +kernel
theorem dx_depends_20 : decode bx_depends 20 = .ok (.ireturn, 1) := by decide +kernel
set_option maxHeartbeats 4000000 in
set_option maxRecDepth 100000 in
theorem ctx_depends {v : wt_V} {s : wt_S} {a1 : Int32} {r : Int32} (t : wt_M) (o : Nat → Int64) (hF : fx_depends s a1 = some r) : ct_C v yx_depends (Cond.code yx_depends bx_depends 2 (some .int)) 10 [.ref (v.2.1 0), .int a1] (some (.int r)) (s, t, o) (s, t, o) := by
  refine ct_of (lv := [(0, .ref (v.2.1 0)), (1, .int a1)]) (fun r : Int32 => some (.int r)) (fun _ => (s, t, o)) (by decide) (Nat.le_of_ble_eq_true rfl) rfl ?_ r hF
  intro z hz am
  subst hz
  have am : wt_Am z R_X bx_depends 2 10 (some .int) := am
  show jj_J z 2 0 [(0, .ref (ad_ z 0)), (1, .int a1)] [] (s, t, o) (q_I z s t o) (fx_depends s a1)
  unfold fx_depends
  refine ji_iload_n (q := 1) am dx_depends_0 rfl 1 rfl rfl ?_
  refine jk_U (q := 4) (rest := []) (fun u hF => jr_S [.int a1] am ln_X_x_needRegister (ctx_needRegister _ _ _ hF) (by omega) rfl rfl (Nat.le_of_ble_eq_true rfl) dx_depends_1) rfl ?_
  intro u1
  refine ji_aload_n (q := 5) am dx_depends_4 rfl 0 rfl rfl ?_
  refine ji_get_X_diagrams (q := 8) am dx_depends_5 rfl ?_
  refine ji_aload_n (q := 9) am dx_depends_8 rfl 0 rfl rfl ?_
  refine ji_get_X_diagrams (q := 12) am dx_depends_9 rfl ?_
  refine ji_iload_n (q := 13) am dx_depends_12 rfl 1 rfl rfl ?_
  refine jk_I (q := 16) (rest := [.ref (ad_ z 1)]) (fun r hF => jr_V [.int a1] am ln_X_d_root (ctd_root _ _ hF) (by omega) (rc_D am) rfl rfl (Nat.le_of_ble_eq_true rfl) dx_depends_13) rfl ?_
  intro r13
  refine ji_iconst (q := 17) am dx_depends_16 ki_0 rfl ?_
  refine jk_I (q := 20) (rest := []) (fun r hF => jr_N [.int r13, .int (0 : Int32)] am ln_X_d_support (ctd_support t o 9 _ _ _ _ hF) (by omega) (rc_D am) rfl rfl (Nat.le_of_ble_eq_true rfl) dx_depends_17) rfl ?_
  intro r17
  exact ji_iret am rfl dx_depends_20 rfl rfl

theorem dx_nodes_0 : decode bx_nodes 0 = .ok (.iload_n 1, 1) := by decide +kernel
theorem dx_nodes_1 : decode bx_nodes 1 = .ok (.invokestatic 16, 3) := by decide +kernel
theorem dx_nodes_4 : decode bx_nodes 4 = .ok (.aload_n 0, 1) := by decide +kernel
theorem dx_nodes_5 : decode bx_nodes 5 = .ok (.getfield 10, 3) := by decide +kernel
theorem dx_nodes_8 : decode bx_nodes 8 = .ok (.aload_n 0, 1) := by decide +kernel
theorem dx_nodes_9 : decode bx_nodes 9 = .ok (.getfield 10, 3) := by decide +kernel
theorem dx_nodes_12 : decode bx_nodes 12 = .ok (.iload_n 1, 1) := by decide +kernel
theorem dx_nodes_13 : decode bx_nodes 13 = .ok (.invokevirtual 34, 3) := by decide +kernel
theorem dx_nodes_16 : decode bx_nodes 16 = .ok (.invokevirtual 68, 3) := by decide +kernel
theorem dx_nodes_19 : decode bx_nodes 19 = .ok (.ireturn, 1) := by decide +kernel
set_option maxHeartbeats 4000000 in
set_option maxRecDepth 100000 in
theorem ctx_nodes {v : wt_V} {s : wt_S} {a1 : Int32} {r : Int32} {s2 : wt_S} (t : wt_M) (o : Nat → Int64) (hF : fx_nodes s a1 = some (r, s2)) : ct_C v yx_nodes (Cond.code yx_nodes bx_nodes 2 (some .int)) 11 [.ref (v.2.1 0), .int a1] (some (.int r)) (s, t, o) (s2, t, o) := by
  refine ct_of (lv := [(0, .ref (v.2.1 0)), (1, .int a1)]) (fun r : Int32 × wt_S => some (.int r.1)) (fun r => (r.2, t, o)) (by decide) (Nat.le_of_ble_eq_true rfl) rfl ?_ (r, s2) hF
  intro z hz am
  subst hz
  have am : wt_Am z R_X bx_nodes 2 11 (some .int) := am
  show jj_J z 2 0 [(0, .ref (ad_ z 0)), (1, .int a1)] [] (s, t, o) (q_IS z t o) (fx_nodes s a1)
  unfold fx_nodes
  refine ji_iload_n (q := 1) am dx_nodes_0 rfl 1 rfl rfl ?_
  refine jk_U (q := 4) (rest := []) (fun u hF => jr_S [.int a1] am ln_X_x_needRegister (ctx_needRegister _ _ _ hF) (by omega) rfl rfl (Nat.le_of_ble_eq_true rfl) dx_nodes_1) rfl ?_
  intro u1
  refine ji_aload_n (q := 5) am dx_nodes_4 rfl 0 rfl rfl ?_
  refine ji_get_X_diagrams (q := 8) am dx_nodes_5 rfl ?_
  refine ji_aload_n (q := 9) am dx_nodes_8 rfl 0 rfl rfl ?_
  refine ji_get_X_diagrams (q := 12) am dx_nodes_9 rfl ?_
  refine ji_iload_n (q := 13) am dx_nodes_12 rfl 1 rfl rfl ?_
  refine jk_I (q := 16) (rest := [.ref (ad_ z 1)]) (fun r hF => jr_V [.int a1] am ln_X_d_root (ctd_root _ _ hF) (by omega) (rc_D am) rfl rfl (Nat.le_of_ble_eq_true rfl) dx_nodes_13) rfl ?_
  intro r13
  refine jk_IS (q := 19) (rest := []) (fun r s2 hF => jr_V [.int r13] am ln_X_d_size (ctd_size _ _ hF) (by omega) (rc_D am) rfl rfl (Nat.le_of_ble_eq_true rfl) dx_nodes_16) rfl ?_
  intro r16 s16
  exact ji_iret am rfl dx_nodes_19 rfl rfl

theorem dx_heap_0 : decode bx_heap 0 = .ok (.aload_n 0, 1) := by decide +kernel
theorem dx_heap_1 : decode bx_heap 1 = .ok (.getfield 10, 3) := by decide +kernel
theorem dx_heap_4 : decode bx_heap 4 = .ok (.invokevirtual 71, 3) := by decide +kernel
theorem dx_heap_7 : decode bx_heap 7 = .ok (.ireturn, 1) := by decide +kernel
set_option maxHeartbeats 4000000 in
set_option maxRecDepth 100000 in
theorem ctx_heap {v : wt_V} {s : wt_S} {r : Int32} (t : wt_M) (o : Nat → Int64) (hF : fx_heap s = some r) : ct_C v yx_heap (Cond.code yx_heap bx_heap 1 (some .int)) 2 [.ref (v.2.1 0)] (some (.int r)) (s, t, o) (s, t, o) := by
  refine ct_of (lv := [(0, .ref (v.2.1 0))]) (fun r : Int32 => some (.int r)) (fun _ => (s, t, o)) (by decide) (Nat.le_of_ble_eq_true rfl) rfl ?_ r hF
  intro z hz am
  subst hz
  have am : wt_Am z R_X bx_heap 1 2 (some .int) := am
  show jj_J z 1 0 [(0, .ref (ad_ z 0))] [] (s, t, o) (q_I z s t o) (fx_heap s)
  unfold fx_heap
  refine ji_aload_n (q := 1) am dx_heap_0 rfl 0 rfl rfl ?_
  refine ji_get_X_diagrams (q := 4) am dx_heap_1 rfl ?_
  refine jk_I (q := 7) (rest := []) (fun r hF => jr_V [] am ln_X_d_live (ctd_live _ _ hF) (by omega) (rc_D am) rfl rfl (Nat.le_of_ble_eq_true rfl) dx_heap_4) rfl ?_
  intro r4
  exact ji_iret am rfl dx_heap_7 rfl rfl

theorem dx_needLevel_0 : decode bx_needLevel 0 = .ok (.iload_n 0, 1) := by decide +kernel
theorem dx_needLevel_1 : decode bx_needLevel 1 = .ok (.ifCond .lt 8, 3) := by decide +kernel
theorem dx_needLevel_4 : decode bx_needLevel 4 = .ok (.iload_n 0, 1) := by decide +kernel
theorem dx_needLevel_5 : decode bx_needLevel 5 = .ok (.iload_n 1, 1) := by decide +kernel
theorem dx_needLevel_6 : decode bx_needLevel 6 = .ok (.if_icmp .lt 13, 3) := by decide +kernel
theorem dx_needLevel_19 : decode bx_needLevel 19 = .ok (.return_, 1) := by decide +kernel
set_option maxHeartbeats 4000000 in
set_option maxRecDepth 100000 in
theorem ctx_needLevel {v : wt_V} {a1 : Int32} {a2 : Int32} (s : wt_S) (t : wt_M) (o : Nat → Int64) (hF : fx_needLevel a1 a2 = some ()) : ct_C v yx_needLevel (Cond.code yx_needLevel bx_needLevel 2 none) 1 [.int a1, .int a2] none (s, t, o) (s, t, o) := by
  refine ct_of (lv := [(0, .int a1), (1, .int a2)]) (fun _ : Unit => none) (fun _ => (s, t, o)) (by decide) (Nat.le_of_ble_eq_true rfl) rfl ?_ () hF
  intro z hz am
  subst hz
  have am : wt_Am z R_X bx_needLevel 2 1 none := am
  show jj_J z 2 0 [(0, .int a1), (1, .int a2)] [] (s, t, o) (q_U z s t o) (fx_needLevel a1 a2)
  unfold fx_needLevel
  refine ji_iload_n (q := 1) am dx_needLevel_0 rfl 0 rfl rfl ?_
  refine ji_jn2 (fun j => ∀ (u9 : Unit), jj_J z 2 9 [] [] (s, t, o) (q_U z s t o) (j u9)) ?_ ?_
  · intro u9
    exact ji_none
  · intro j9 hj9
    refine ji_if_lt (q := 4) (g := 9) am dx_needLevel_1 rfl rfl ?_ ?_
    · exact ji_sub (lv' := []) [] rfl (hj9 _)
    · refine ji_iload_n (q := 5) am dx_needLevel_4 rfl 0 rfl rfl ?_
      refine ji_iload_n (q := 6) am dx_needLevel_5 rfl 1 rfl rfl ?_
      refine ji_icmp_lt (q := 9) (g := 19) am dx_needLevel_6 rfl rfl ?_ ?_
      · exact ji_vret am rfl dx_needLevel_19 rfl rfl
      · exact ji_sub (lv' := []) [] rfl (hj9 _)

theorem dx_order_0 : decode bx_order 0 = .ok (.iload_n 1, 1) := by decide +kernel
theorem dx_order_1 : decode bx_order 1 = .ok (.bipush 8, 2) := by decide +kernel
theorem dx_order_3 : decode bx_order 3 = .ok (.invokestatic 75, 3) := by decide +kernel
theorem dx_order_6 : decode bx_order 6 = .ok (.aload_n 0, 1) := by decide +kernel
theorem dx_order_7 : decode bx_order 7 = .ok (.getfield 10, 3) := by decide +kernel
theorem dx_order_10 : decode bx_order 10 = .ok (.iload_n 1, 1) := by decide +kernel
theorem dx_order_11 : decode bx_order 11 = .ok (.invokevirtual 78, 3) := by decide +kernel
theorem dx_order_14 : decode bx_order 14 = .ok (.ireturn, 1) := by decide +kernel
set_option maxHeartbeats 4000000 in
set_option maxRecDepth 100000 in
theorem ctx_order {v : wt_V} {s : wt_S} {a1 : Int32} {r : Int32} (t : wt_M) (o : Nat → Int64) (hF : fx_order s a1 = some r) : ct_C v yx_order (Cond.code yx_order bx_order 2 (some .int)) 2 [.ref (v.2.1 0), .int a1] (some (.int r)) (s, t, o) (s, t, o) := by
  refine ct_of (lv := [(0, .ref (v.2.1 0)), (1, .int a1)]) (fun r : Int32 => some (.int r)) (fun _ => (s, t, o)) (by decide) (Nat.le_of_ble_eq_true rfl) rfl ?_ r hF
  intro z hz am
  subst hz
  have am : wt_Am z R_X bx_order 2 2 (some .int) := am
  show jj_J z 2 0 [(0, .ref (ad_ z 0)), (1, .int a1)] [] (s, t, o) (q_I z s t o) (fx_order s a1)
  unfold fx_order
  refine ji_iload_n (q := 1) am dx_order_0 rfl 1 rfl rfl ?_
  refine ji_bipush (q := 3) am dx_order_1 kb_8 rfl ?_
  refine jk_U (q := 6) (rest := []) (fun u hF => jr_S [.int a1, .int (8 : Int32)] am ln_X_x_needLevel (ctx_needLevel _ _ _ hF) (by omega) rfl rfl (Nat.le_of_ble_eq_true rfl) dx_order_3) rfl ?_
  intro u3
  refine ji_aload_n (q := 7) am dx_order_6 rfl 0 rfl rfl ?_
  refine ji_get_X_diagrams (q := 10) am dx_order_7 rfl ?_
  refine ji_iload_n (q := 11) am dx_order_10 rfl 1 rfl rfl ?_
  refine jk_I (q := 14) (rest := []) (fun r hF => jr_V [.int a1] am ln_X_d_variableAt (ctd_variableAt _ _ hF) (by omega) (rc_D am) rfl rfl (Nat.le_of_ble_eq_true rfl) dx_order_11) rfl ?_
  intro r11
  exact ji_iret am rfl dx_order_14 rfl rfl

theorem dx_swap_0 : decode bx_swap 0 = .ok (.iload_n 1, 1) := by decide +kernel
theorem dx_swap_1 : decode bx_swap 1 = .ok (.bipush 7, 2) := by decide +kernel
theorem dx_swap_3 : decode bx_swap 3 = .ok (.invokestatic 75, 3) := by decide +kernel
theorem dx_swap_6 : decode bx_swap 6 = .ok (.aload_n 0, 1) := by decide +kernel
theorem dx_swap_7 : decode bx_swap 7 = .ok (.getfield 10, 3) := by decide +kernel
theorem dx_swap_10 : decode bx_swap 10 = .ok (.iload_n 1, 1) := by decide +kernel
theorem dx_swap_11 : decode bx_swap 11 = .ok (.invokevirtual 81, 3) := by decide +kernel
theorem dx_swap_14 : decode bx_swap 14 = .ok (.aload_n 0, 1) := by decide +kernel
theorem dx_swap_15 : decode bx_swap 15 = .ok (.getfield 10, 3) := by decide +kernel
theorem dx_swap_18 : decode bx_swap 18 = .ok (.invokevirtual 71, 3) := by decide +kernel
theorem dx_swap_21 : decode bx_swap 21 = .ok (.ireturn, 1) := by decide +kernel
set_option maxHeartbeats 4000000 in
set_option maxRecDepth 100000 in
theorem ctx_swap {v : wt_V} {s : wt_S} {a1 : Int32} {r : Int32} {s2 : wt_S} (t : wt_M) (o : Nat → Int64) (hF : fx_swap s a1 = some (r, s2)) : ct_C v yx_swap (Cond.code yx_swap bx_swap 2 (some .int)) 12 [.ref (v.2.1 0), .int a1] (some (.int r)) (s, t, o) (s2, t, o) := by
  refine ct_of (lv := [(0, .ref (v.2.1 0)), (1, .int a1)]) (fun r : Int32 × wt_S => some (.int r.1)) (fun r => (r.2, t, o)) (by decide) (Nat.le_of_ble_eq_true rfl) rfl ?_ (r, s2) hF
  intro z hz am
  subst hz
  have am : wt_Am z R_X bx_swap 2 12 (some .int) := am
  show jj_J z 2 0 [(0, .ref (ad_ z 0)), (1, .int a1)] [] (s, t, o) (q_IS z t o) (fx_swap s a1)
  unfold fx_swap
  refine ji_iload_n (q := 1) am dx_swap_0 rfl 1 rfl rfl ?_
  refine ji_bipush (q := 3) am dx_swap_1 kb_7 rfl ?_
  refine jk_U (q := 6) (rest := []) (fun u hF => jr_S [.int a1, .int (7 : Int32)] am ln_X_x_needLevel (ctx_needLevel _ _ _ hF) (by omega) rfl rfl (Nat.le_of_ble_eq_true rfl) dx_swap_3) rfl ?_
  intro u3
  refine ji_aload_n (q := 7) am dx_swap_6 rfl 0 rfl rfl ?_
  refine ji_get_X_diagrams (q := 10) am dx_swap_7 rfl ?_
  refine ji_iload_n (q := 11) am dx_swap_10 rfl 1 rfl rfl ?_
  refine jk_S (q := 14) (rest := []) (fun s2 hF => jr_V [.int a1] am ln_X_d_exchange (ctd_exchange _ _ hF) (by omega) (rc_D am) rfl rfl (Nat.le_of_ble_eq_true rfl) dx_swap_11) rfl ?_
  intro s11
  refine ji_aload_n (q := 15) am dx_swap_14 rfl 0 rfl rfl ?_
  refine ji_get_X_diagrams (q := 18) am dx_swap_15 rfl ?_
  refine jk_I (q := 21) (rest := []) (fun r hF => jr_V [] am ln_X_d_live (ctd_live _ _ hF) (by omega) (rc_D am) rfl rfl (Nat.le_of_ble_eq_true rfl) dx_swap_18) rfl ?_
  intro r18
  exact ji_iret am rfl dx_swap_21 rfl rfl

theorem dx_place_0 : decode bx_place 0 = .ok (.iload_n 1, 1) := by decide +kernel
theorem dx_place_1 : decode bx_place 1 = .ok (.invokestatic 20, 3) := by decide +kernel
theorem dx_place_4 : decode bx_place 4 = .ok (.iload_n 2, 1) := by decide +kernel
theorem dx_place_5 : decode bx_place 5 = .ok (.bipush 8, 2) := by decide +kernel
theorem dx_place_7 : decode bx_place 7 = .ok (.invokestatic 75, 3) := by decide +kernel
theorem dx_place_10 : decode bx_place 10 = .ok (.aload_n 0, 1) := by decide +kernel
theorem dx_place_11 : decode bx_place 11 = .ok (.getfield 10, 3) := by decide +kernel
theorem dx_place_14 : decode bx_place 14 = .ok (.iload_n 1, 1) := by decide +kernel
theorem dx_place_15 : decode bx_place 15 = .ok (.iload_n 2, 1) := by decide +kernel
theorem dx_place_16 : decode bx_place 16 = .ok (.invokevirtual 84, 3) := by decide +kernel
theorem dx_place_19 : decode bx_place 19 = .ok (.aload_n 0, 1) := by decide +kernel
theorem dx_place_20 : decode bx_place 20 = .ok (.getfield 10, 3) := by decide +kernel
theorem dx_place_23 : decode bx_place 23 = .ok (.invokevirtual 71, 3) := by decide +kernel
theorem dx_place_26 : decode bx_place 26 = .ok (.ireturn, 1) := by decide +kernel
set_option maxHeartbeats 4000000 in
set_option maxRecDepth 100000 in
theorem ctx_place {v : wt_V} {s : wt_S} {a1 : Int32} {a2 : Int32} {r : Int32} {s2 : wt_S} (t : wt_M) (o : Nat → Int64) (hF : fx_place s a1 a2 = some (r, s2)) : ct_C v yx_place (Cond.code yx_place bx_place 3 (some .int)) 13 [.ref (v.2.1 0), .int a1, .int a2] (some (.int r)) (s, t, o) (s2, t, o) := by
  refine ct_of (lv := [(0, .ref (v.2.1 0)), (1, .int a1), (2, .int a2)]) (fun r : Int32 × wt_S => some (.int r.1)) (fun r => (r.2, t, o)) (by decide) (Nat.le_of_ble_eq_true rfl) rfl ?_ (r, s2) hF
  intro z hz am
  subst hz
  have am : wt_Am z R_X bx_place 3 13 (some .int) := am
  show jj_J z 3 0 [(0, .ref (ad_ z 0)), (1, .int a1), (2, .int a2)] [] (s, t, o) (q_IS z t o) (fx_place s a1 a2)
  unfold fx_place
  refine ji_iload_n (q := 1) am dx_place_0 rfl 1 rfl rfl ?_
  refine jk_U (q := 4) (rest := []) (fun u hF => jr_S [.int a1] am ln_X_x_needVariable (ctx_needVariable _ _ _ hF) (by omega) rfl rfl (Nat.le_of_ble_eq_true rfl) dx_place_1) rfl ?_
  intro u1
  refine ji_iload_n (q := 5) am dx_place_4 rfl 2 rfl rfl ?_
  refine ji_bipush (q := 7) am dx_place_5 kb_8 rfl ?_
  refine jk_U (q := 10) (rest := []) (fun u hF => jr_S [.int a2, .int (8 : Int32)] am ln_X_x_needLevel (ctx_needLevel _ _ _ hF) (by omega) rfl rfl (Nat.le_of_ble_eq_true rfl) dx_place_7) rfl ?_
  intro u7
  refine ji_aload_n (q := 11) am dx_place_10 rfl 0 rfl rfl ?_
  refine ji_get_X_diagrams (q := 14) am dx_place_11 rfl ?_
  refine ji_iload_n (q := 15) am dx_place_14 rfl 1 rfl rfl ?_
  refine ji_iload_n (q := 16) am dx_place_15 rfl 2 rfl rfl ?_
  refine jk_S (q := 19) (rest := []) (fun s2 hF => jr_V [.int a1, .int a2] am ln_X_d_move (ctd_move _ _ hF) (by omega) (rc_D am) rfl rfl (Nat.le_of_ble_eq_true rfl) dx_place_16) rfl ?_
  intro s16
  refine ji_aload_n (q := 20) am dx_place_19 rfl 0 rfl rfl ?_
  refine ji_get_X_diagrams (q := 23) am dx_place_20 rfl ?_
  refine jk_I (q := 26) (rest := []) (fun r hF => jr_V [] am ln_X_d_live (ctd_live _ _ hF) (by omega) (rc_D am) rfl rfl (Nat.le_of_ble_eq_true rfl) dx_place_23) rfl ?_
  intro r23
  exact ji_iret am rfl dx_place_26 rfl rfl
