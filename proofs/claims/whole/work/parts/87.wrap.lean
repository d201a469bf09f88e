/-! The law's small methods: what they answer. Printed by wip/gen/wrap.py. My own. -/
theorem dl_variable_0 : decode bl_variable 0 = .ok (.aload_n 0, 1) := by decide +kernel
theorem dl_variable_1 : decode bl_variable 1 = .ok (.iload_n 1, 1) := by decide +kernel
theorem dl_variable_2 : decode bl_variable 2 = .ok (.iload_n 2, 1) := by decide +kernel
theorem dl_variable_3 : decode bl_variable 3 = .ok (.invokevirtual 7, 3) := by decide +kernel
theorem dl_variable_6 : decode bl_variable 6 = .ok (.goto 6, 3) := by decide +kernel
theorem dl_variable_9 : decode bl_variable 9 = .ok (.astore_n 3, 1) := by decide +kernel
theorem dl_variable_10 : decode bl_variable 10 = .ok (.iconst 1, 1) := by decide +kernel
theorem dl_variable_11 : decode bl_variable 11 = .ok (.ireturn, 1) := by decide +kernel
theorem dl_variable_12 : decode bl_variable 12 = .ok (.iconst 0, 1) := by decide +kernel
theorem dl_variable_13 : decode bl_variable 13 = .ok (.ireturn, 1) := by decide +kernel
set_option maxHeartbeats 4000000 in
theorem cl_variable {v : wt_V} {s : wt_S} {a1 : Int32} {a2 : Int32} {s2 : wt_S} (t : wt_M) (o : Nat → Int64) (hF : fx_variable s a1 a2 = some s2) : cw_C v yl_variable (Cond.codeWith yl_variable bl_variable 4 (some .int) [(0, 6, 9, 13)]) 25 [.ref (v.2.1 0), .int a1, .int a2] 0 (s, t, o) (s2, t, o) := by
  refine cw_of (lv := [(0, .ref (v.2.1 0)), (1, .int a1), (2, .int a2)]) (by decide) (Nat.le_of_ble_eq_true rfl) rfl ?_
  intro z hz am we tab hR
  subst hz
  have am : wt_Am z R_L bl_variable 4 25 (some .int) := am
  refine ji_aload_n (q := 1) am dl_variable_0 rfl 0 rfl rfl ?_
  refine ji_iload_n (q := 2) am dl_variable_1 rfl 1 rfl rfl ?_
  refine ji_iload_n (q := 3) am dl_variable_2 rfl 2 rfl rfl ?_
  refine jr_J (ret := none) (rest := []) (jr_V [.int a1, .int a2] am ln_L_x_variable (ctx_variable _ _ hF) (by decide) (rc_X am) rfl rfl (Nat.le_of_ble_eq_true rfl) dl_variable_3) ?_
  show jj_J z 4 6 [(0, .ref (ad_ z 0)), (1, .int a1), (2, .int a2)] [] (s2, t, o) _ _
  refine ji_goto (q := 12) am dl_variable_6 rfl ?_
  refine ji_iconst (q := 13) am dl_variable_12 ki_0 rfl ?_
  exact jq_ret am dl_variable_13
set_option maxHeartbeats 4000000 in
theorem ce_variable {v : wt_V} {s : wt_S} {a1 : Int32} {a2 : Int32} {k : Nat} (t : wt_M) (o : Nat → Int64) (hT : tk_variable a1 a2 k) : cw_C v yl_variable (Cond.codeWith yl_variable bl_variable 4 (some .int) [(0, 6, 9, 13)]) 25 [.ref (v.2.1 0), .int a1, .int a2] (nI k) (s, t, o) (s, t, o) := by
  rcases hT with ⟨hF, rfl⟩ | ⟨p0, hF, rfl⟩
  · refine cw_of (lv := [(0, .ref (v.2.1 0)), (1, .int a1), (2, .int a2)]) (by decide) (Nat.le_of_ble_eq_true rfl) rfl ?_
    intro z hz am we tab hR
    subst hz
    have am : wt_Am z R_L bl_variable 4 25 (some .int) := am
    refine ji_aload_n (q := 1) am dl_variable_0 rfl 0 rfl rfl ?_
    refine ji_iload_n (q := 2) am dl_variable_1 rfl 1 rfl rfl ?_
    refine ji_iload_n (q := 3) am dl_variable_2 rfl 2 rfl rfl ?_
    refine jq_V (rest := []) [.int a1, .int a2] am we hR ln_L_x_variable (cy_variable_0 _ _  hF) (by decide) (rc_X am) rfl rfl (Nat.le_of_ble_eq_true rfl) dl_variable_3 [] ⟨0, 6, 9, 13⟩ [] tab (fun e he => nomatch he) (by decide) (by decide) xl_O we.2.2.2.2.2.2.2.2.1 ?_
    intro q9 H locs ls hP hS hl
    refine lv_astore_n am.1 am.2.1 dl_variable_9 rfl hl (by decide) rfl (fun ls2 h2 => ?_)
    refine lv_iconst am.1 am.2.1 dl_variable_10 ki_1 ?_
    exact jq_end am (by decide) (by decide) hP hS dl_variable_11
  · refine cw_of (lv := [(0, .ref (v.2.1 0)), (1, .int a1), (2, .int a2)]) (by decide) (Nat.le_of_ble_eq_true rfl) rfl ?_
    intro z hz am we tab hR
    subst hz
    have am : wt_Am z R_L bl_variable 4 25 (some .int) := am
    refine ji_aload_n (q := 1) am dl_variable_0 rfl 0 rfl rfl ?_
    refine ji_iload_n (q := 2) am dl_variable_1 rfl 1 rfl rfl ?_
    refine ji_iload_n (q := 3) am dl_variable_2 rfl 2 rfl rfl ?_
    refine jq_V (rest := []) [.int a1, .int a2] am we hR ln_L_x_variable (cy_variable_1 _ _ p0 hF) (by decide) (rc_X am) rfl rfl (Nat.le_of_ble_eq_true rfl) dl_variable_3 [] ⟨0, 6, 9, 13⟩ [] tab (fun e he => nomatch he) (by decide) (by decide) xl_O we.2.2.2.2.2.2.2.2.1 ?_
    intro q9 H locs ls hP hS hl
    refine lv_astore_n am.1 am.2.1 dl_variable_9 rfl hl (by decide) rfl (fun ls2 h2 => ?_)
    refine lv_iconst am.1 am.2.1 dl_variable_10 ki_1 ?_
    exact jq_end am (by decide) (by decide) hP hS dl_variable_11
theorem dl_constant_0 : decode bl_constant 0 = .ok (.aload_n 0, 1) := by decide +kernel
theorem dl_constant_1 : decode bl_constant 1 = .ok (.iload_n 1, 1) := by decide +kernel
theorem dl_constant_2 : decode bl_constant 2 = .ok (.iload_n 2, 1) := by decide +kernel
theorem dl_constant_3 : decode bl_constant 3 = .ok (.invokevirtual 15, 3) := by decide +kernel
theorem dl_constant_6 : decode bl_constant 6 = .ok (.goto 6, 3) := by decide +kernel
theorem dl_constant_9 : decode bl_constant 9 = .ok (.astore_n 3, 1) := by decide +kernel
theorem dl_constant_10 : decode bl_constant 10 = .ok (.iconst 1, 1) := by decide +kernel
theorem dl_constant_11 : decode bl_constant 11 = .ok (.ireturn, 1) := by decide +kernel
theorem dl_constant_12 : decode bl_constant 12 = .ok (.iconst 0, 1) := by decide +kernel
theorem dl_constant_13 : decode bl_constant 13 = .ok (.ireturn, 1) := by decide +kernel
set_option maxHeartbeats 4000000 in
theorem cl_constant {v : wt_V} {s : wt_S} {a1 : Int32} {a2 : Int32} {s2 : wt_S} (t : wt_M) (o : Nat → Int64) (hF : fx_constant s a1 a2 = some s2) : cw_C v yl_constant (Cond.codeWith yl_constant bl_constant 4 (some .int) [(0, 6, 9, 13)]) 25 [.ref (v.2.1 0), .int a1, .int a2] 0 (s, t, o) (s2, t, o) := by
  refine cw_of (lv := [(0, .ref (v.2.1 0)), (1, .int a1), (2, .int a2)]) (by decide) (Nat.le_of_ble_eq_true rfl) rfl ?_
  intro z hz am we tab hR
  subst hz
  have am : wt_Am z R_L bl_constant 4 25 (some .int) := am
  refine ji_aload_n (q := 1) am dl_constant_0 rfl 0 rfl rfl ?_
  refine ji_iload_n (q := 2) am dl_constant_1 rfl 1 rfl rfl ?_
  refine ji_iload_n (q := 3) am dl_constant_2 rfl 2 rfl rfl ?_
  refine jr_J (ret := none) (rest := []) (jr_V [.int a1, .int a2] am ln_L_x_constant (ctx_constant _ _ hF) (by decide) (rc_X am) rfl rfl (Nat.le_of_ble_eq_true rfl) dl_constant_3) ?_
  show jj_J z 4 6 [(0, .ref (ad_ z 0)), (1, .int a1), (2, .int a2)] [] (s2, t, o) _ _
  refine ji_goto (q := 12) am dl_constant_6 rfl ?_
  refine ji_iconst (q := 13) am dl_constant_12 ki_0 rfl ?_
  exact jq_ret am dl_constant_13
set_option maxHeartbeats 4000000 in
theorem ce_constant {v : wt_V} {s : wt_S} {a1 : Int32} {a2 : Int32} {k : Nat} (t : wt_M) (o : Nat → Int64) (hT : tk_constant a1 k) : cw_C v yl_constant (Cond.codeWith yl_constant bl_constant 4 (some .int) [(0, 6, 9, 13)]) 25 [.ref (v.2.1 0), .int a1, .int a2] (nI k) (s, t, o) (s, t, o) := by
  rcases hT with ⟨hF, rfl⟩
  · refine cw_of (lv := [(0, .ref (v.2.1 0)), (1, .int a1), (2, .int a2)]) (by decide) (Nat.le_of_ble_eq_true rfl) rfl ?_
    intro z hz am we tab hR
    subst hz
    have am : wt_Am z R_L bl_constant 4 25 (some .int) := am
    refine ji_aload_n (q := 1) am dl_constant_0 rfl 0 rfl rfl ?_
    refine ji_iload_n (q := 2) am dl_constant_1 rfl 1 rfl rfl ?_
    refine ji_iload_n (q := 3) am dl_constant_2 rfl 2 rfl rfl ?_
    refine jq_V (rest := []) [.int a1, .int a2] am we hR ln_L_x_constant (cy_constant_0 _ _  hF) (by decide) (rc_X am) rfl rfl (Nat.le_of_ble_eq_true rfl) dl_constant_3 [] ⟨0, 6, 9, 13⟩ [] tab (fun e he => nomatch he) (by decide) (by decide) xl_O we.2.2.2.2.2.2.2.2.1 ?_
    intro q9 H locs ls hP hS hl
    refine lv_astore_n am.1 am.2.1 dl_constant_9 rfl hl (by decide) rfl (fun ls2 h2 => ?_)
    refine lv_iconst am.1 am.2.1 dl_constant_10 ki_1 ?_
    exact jq_end am (by decide) (by decide) hP hS dl_constant_11
theorem dl_apply_0 : decode bl_apply 0 = .ok (.aload_n 0, 1) := by decide +kernel
theorem dl_apply_1 : decode bl_apply 1 = .ok (.iload_n 1, 1) := by decide +kernel
theorem dl_apply_2 : decode bl_apply 2 = .ok (.iload_n 2, 1) := by decide +kernel
theorem dl_apply_3 : decode bl_apply 3 = .ok (.iload_n 3, 1) := by decide +kernel
theorem dl_apply_4 : decode bl_apply 4 = .ok (.iload 4, 2) := by decide +kernel
theorem dl_apply_6 : decode bl_apply 6 = .ok (.invokevirtual 19, 3) := by decide +kernel
theorem dl_apply_9 : decode bl_apply 9 = .ok (.goto 11, 3) := by decide +kernel
theorem dl_apply_12 : decode bl_apply 12 = .ok (.astore 5, 2) := by decide +kernel
theorem dl_apply_14 : decode bl_apply 14 = .ok (.iconst 1, 1) := by decide +kernel
theorem dl_apply_15 : decode bl_apply 15 = .ok (.ireturn, 1) := by decide +kernel
theorem dl_apply_16 : decode bl_apply 16 = .ok (.astore 5, 2) := by decide +kernel
theorem dl_apply_18 : decode bl_apply 18 = .ok (.iconst 2, 1) := by decide +kernel
theorem dl_apply_19 : decode bl_apply 19 = .ok (.ireturn, 1) := by decide +kernel
theorem dl_apply_20 : decode bl_apply 20 = .ok (.iconst 0, 1) := by decide +kernel
theorem dl_apply_21 : decode bl_apply 21 = .ok (.ireturn, 1) := by decide +kernel
set_option maxHeartbeats 4000000 in
theorem cl_apply {v : wt_V} {s : wt_S} {a1 : Int32} {a2 : Int32} {a3 : Int32} {a4 : Int32} {s2 : wt_S} (t : wt_M) (o : Nat → Int64) (hF : fx_apply s a1 a2 a3 a4 = some s2) : cw_C v yl_apply (Cond.codeWith yl_apply bl_apply 6 (some .int) [(0, 9, 12, 13), (0, 9, 16, 23)]) 25 [.ref (v.2.1 0), .int a1, .int a2, .int a3, .int a4] 0 (s, t, o) (s2, t, o) := by
  refine cw_of (lv := [(0, .ref (v.2.1 0)), (1, .int a1), (2, .int a2), (3, .int a3), (4, .int a4)]) (by decide) (Nat.le_of_ble_eq_true rfl) rfl ?_
  intro z hz am we tab hR
  subst hz
  have am : wt_Am z R_L bl_apply 6 25 (some .int) := am
  refine ji_aload_n (q := 1) am dl_apply_0 rfl 0 rfl rfl ?_
  refine ji_iload_n (q := 2) am dl_apply_1 rfl 1 rfl rfl ?_
  refine ji_iload_n (q := 3) am dl_apply_2 rfl 2 rfl rfl ?_
  refine ji_iload_n (q := 4) am dl_apply_3 rfl 3 rfl rfl ?_
  refine ji_iload (q := 6) am dl_apply_4 4 rfl rfl ?_
  refine jr_J (ret := none) (rest := []) (jr_V [.int a1, .int a2, .int a3, .int a4] am ln_L_x_apply (ctx_apply _ _ hF) (by decide) (rc_X am) rfl rfl (Nat.le_of_ble_eq_true rfl) dl_apply_6) ?_
  show jj_J z 6 9 [(0, .ref (ad_ z 0)), (1, .int a1), (2, .int a2), (3, .int a3), (4, .int a4)] [] (s2, t, o) _ _
  refine ji_goto (q := 20) am dl_apply_9 rfl ?_
  refine ji_iconst (q := 21) am dl_apply_20 ki_0 rfl ?_
  exact jq_ret am dl_apply_21
set_option maxHeartbeats 4000000 in
theorem ce_apply {v : wt_V} {s : wt_S} {a1 : Int32} {a2 : Int32} {a3 : Int32} {a4 : Int32} {k : Nat} (t : wt_M) (o : Nat → Int64) (hT : tk_apply a1 a2 a3 a4 k) : cw_C v yl_apply (Cond.codeWith yl_apply bl_apply 6 (some .int) [(0, 9, 12, 13), (0, 9, 16, 23)]) 25 [.ref (v.2.1 0), .int a1, .int a2, .int a3, .int a4] (nI k) (s, t, o) (s, t, o) := by
  rcases hT with ⟨hF, rfl⟩ | ⟨p0, hF, rfl⟩ | ⟨p0, p1, hF, rfl⟩ | ⟨p0, p1, p2, hF, rfl⟩
  · refine cw_of (lv := [(0, .ref (v.2.1 0)), (1, .int a1), (2, .int a2), (3, .int a3), (4, .int a4)]) (by decide) (Nat.le_of_ble_eq_true rfl) rfl ?_
    intro z hz am we tab hR
    subst hz
    have am : wt_Am z R_L bl_apply 6 25 (some .int) := am
    refine ji_aload_n (q := 1) am dl_apply_0 rfl 0 rfl rfl ?_
    refine ji_iload_n (q := 2) am dl_apply_1 rfl 1 rfl rfl ?_
    refine ji_iload_n (q := 3) am dl_apply_2 rfl 2 rfl rfl ?_
    refine ji_iload_n (q := 4) am dl_apply_3 rfl 3 rfl rfl ?_
    refine ji_iload (q := 6) am dl_apply_4 4 rfl rfl ?_
    refine jq_V (rest := []) [.int a1, .int a2, .int a3, .int a4] am we hR ln_L_x_apply (cy_apply_0 _ _  hF) (by decide) (rc_X am) rfl rfl (Nat.le_of_ble_eq_true rfl) dl_apply_6 [] ⟨0, 9, 12, 13⟩ [⟨0, 9, 16, 23⟩] tab (fun e he => nomatch he) (by decide) (by decide) xl_O we.2.2.2.2.2.2.2.2.1 ?_
    intro q9 H locs ls hP hS hl
    refine lv_astore am.1 am.2.1 dl_apply_12 hl (by decide) rfl (fun ls2 h2 => ?_)
    refine lv_iconst am.1 am.2.1 dl_apply_14 ki_1 ?_
    exact jq_end am (by decide) (by decide) hP hS dl_apply_15
  · refine cw_of (lv := [(0, .ref (v.2.1 0)), (1, .int a1), (2, .int a2), (3, .int a3), (4, .int a4)]) (by decide) (Nat.le_of_ble_eq_true rfl) rfl ?_
    intro z hz am we tab hR
    subst hz
    have am : wt_Am z R_L bl_apply 6 25 (some .int) := am
    refine ji_aload_n (q := 1) am dl_apply_0 rfl 0 rfl rfl ?_
    refine ji_iload_n (q := 2) am dl_apply_1 rfl 1 rfl rfl ?_
    refine ji_iload_n (q := 3) am dl_apply_2 rfl 2 rfl rfl ?_
    refine ji_iload_n (q := 4) am dl_apply_3 rfl 3 rfl rfl ?_
    refine ji_iload (q := 6) am dl_apply_4 4 rfl rfl ?_
    refine jq_V (rest := []) [.int a1, .int a2, .int a3, .int a4] am we hR ln_L_x_apply (cy_apply_1 _ _ p0 hF) (by decide) (rc_X am) rfl rfl (Nat.le_of_ble_eq_true rfl) dl_apply_6 [] ⟨0, 9, 12, 13⟩ [⟨0, 9, 16, 23⟩] tab (fun e he => nomatch he) (by decide) (by decide) xl_O we.2.2.2.2.2.2.2.2.1 ?_
    intro q9 H locs ls hP hS hl
    refine lv_astore am.1 am.2.1 dl_apply_12 hl (by decide) rfl (fun ls2 h2 => ?_)
    refine lv_iconst am.1 am.2.1 dl_apply_14 ki_1 ?_
    exact jq_end am (by decide) (by decide) hP hS dl_apply_15
  · refine cw_of (lv := [(0, .ref (v.2.1 0)), (1, .int a1), (2, .int a2), (3, .int a3), (4, .int a4)]) (by decide) (Nat.le_of_ble_eq_true rfl) rfl ?_
    intro z hz am we tab hR
    subst hz
    have am : wt_Am z R_L bl_apply 6 25 (some .int) := am
    refine ji_aload_n (q := 1) am dl_apply_0 rfl 0 rfl rfl ?_
    refine ji_iload_n (q := 2) am dl_apply_1 rfl 1 rfl rfl ?_
    refine ji_iload_n (q := 3) am dl_apply_2 rfl 2 rfl rfl ?_
    refine ji_iload_n (q := 4) am dl_apply_3 rfl 3 rfl rfl ?_
    refine ji_iload (q := 6) am dl_apply_4 4 rfl rfl ?_
    refine jq_V (rest := []) [.int a1, .int a2, .int a3, .int a4] am we hR ln_L_x_apply (cy_apply_2 _ _ p0 p1 hF) (by decide) (rc_X am) rfl rfl (Nat.le_of_ble_eq_true rfl) dl_apply_6 [] ⟨0, 9, 12, 13⟩ [⟨0, 9, 16, 23⟩] tab (fun e he => nomatch he) (by decide) (by decide) xl_O we.2.2.2.2.2.2.2.2.1 ?_
    intro q9 H locs ls hP hS hl
    refine lv_astore am.1 am.2.1 dl_apply_12 hl (by decide) rfl (fun ls2 h2 => ?_)
    refine lv_iconst am.1 am.2.1 dl_apply_14 ki_1 ?_
    exact jq_end am (by decide) (by decide) hP hS dl_apply_15
  · refine cw_of (lv := [(0, .ref (v.2.1 0)), (1, .int a1), (2, .int a2), (3, .int a3), (4, .int a4)]) (by decide) (Nat.le_of_ble_eq_true rfl) rfl ?_
    intro z hz am we tab hR
    subst hz
    have am : wt_Am z R_L bl_apply 6 25 (some .int) := am
    refine ji_aload_n (q := 1) am dl_apply_0 rfl 0 rfl rfl ?_
    refine ji_iload_n (q := 2) am dl_apply_1 rfl 1 rfl rfl ?_
    refine ji_iload_n (q := 3) am dl_apply_2 rfl 2 rfl rfl ?_
    refine ji_iload_n (q := 4) am dl_apply_3 rfl 3 rfl rfl ?_
    refine ji_iload (q := 6) am dl_apply_4 4 rfl rfl ?_
    refine jq_V (rest := []) [.int a1, .int a2, .int a3, .int a4] am we hR ln_L_x_apply (cy_apply_3 _ _ p0 p1 p2 hF) (by decide) (rc_X am) rfl rfl (Nat.le_of_ble_eq_true rfl) dl_apply_6 [⟨0, 9, 12, 13⟩] ⟨0, 9, 16, 23⟩ [] tab (by
        intro e he
        obtain rfl := List.mem_singleton.mp he
        exact Or.inr ⟨by decide, E_O, xl_O, we.2.2.2.2.2.2.2.2.2.2.2.1⟩) (by decide) (by decide) xl_A we.2.2.2.2.2.2.2.2.2.1 ?_
    intro q9 H locs ls hP hS hl
    refine lv_astore am.1 am.2.1 dl_apply_16 hl (by decide) rfl (fun ls2 h2 => ?_)
    refine lv_iconst am.1 am.2.1 dl_apply_18 ki_2 ?_
    exact jq_end am (by decide) (by decide) hP hS dl_apply_19
theorem dl_choose_0 : decode bl_choose 0 = .ok (.aload_n 0, 1) := by decide +kernel
theorem dl_choose_1 : decode bl_choose 1 = .ok (.iload_n 1, 1) := by decide +kernel
theorem dl_choose_2 : decode bl_choose 2 = .ok (.iload_n 2, 1) := by decide +kernel
theorem dl_choose_3 : decode bl_choose 3 = .ok (.iload_n 3, 1) := by decide +kernel
theorem dl_choose_4 : decode bl_choose 4 = .ok (.iload 4, 2) := by decide +kernel
theorem dl_choose_6 : decode bl_choose 6 = .ok (.invokevirtual 25, 3) := by decide +kernel
theorem dl_choose_9 : decode bl_choose 9 = .ok (.goto 7, 3) := by decide +kernel
theorem dl_choose_12 : decode bl_choose 12 = .ok (.astore 5, 2) := by decide +kernel
theorem dl_choose_14 : decode bl_choose 14 = .ok (.iconst 1, 1) := by decide +kernel
theorem dl_choose_15 : decode bl_choose 15 = .ok (.ireturn, 1) := by decide +kernel
theorem dl_choose_16 : decode bl_choose 16 = .ok (.iconst 0, 1) := by decide +kernel
theorem dl_choose_17 : decode bl_choose 17 = .ok (.ireturn, 1) := by decide +kernel
set_option maxHeartbeats 4000000 in
theorem cl_choose {v : wt_V} {s : wt_S} {a1 : Int32} {a2 : Int32} {a3 : Int32} {a4 : Int32} {s2 : wt_S} (t : wt_M) (o : Nat → Int64) (hF : fx_choose s a1 a2 a3 a4 = some s2) : cw_C v yl_choose (Cond.codeWith yl_choose bl_choose 6 (some .int) [(0, 9, 12, 13)]) 25 [.ref (v.2.1 0), .int a1, .int a2, .int a3, .int a4] 0 (s, t, o) (s2, t, o) := by
  refine cw_of (lv := [(0, .ref (v.2.1 0)), (1, .int a1), (2, .int a2), (3, .int a3), (4, .int a4)]) (by decide) (Nat.le_of_ble_eq_true rfl) rfl ?_
  intro z hz am we tab hR
  subst hz
  have am : wt_Am z R_L bl_choose 6 25 (some .int) := am
  refine ji_aload_n (q := 1) am dl_choose_0 rfl 0 rfl rfl ?_
  refine ji_iload_n (q := 2) am dl_choose_1 rfl 1 rfl rfl ?_
  refine ji_iload_n (q := 3) am dl_choose_2 rfl 2 rfl rfl ?_
  refine ji_iload_n (q := 4) am dl_choose_3 rfl 3 rfl rfl ?_
  refine ji_iload (q := 6) am dl_choose_4 4 rfl rfl ?_
  refine jr_J (ret := none) (rest := []) (jr_V [.int a1, .int a2, .int a3, .int a4] am ln_L_x_choose (ctx_choose _ _ hF) (by decide) (rc_X am) rfl rfl (Nat.le_of_ble_eq_true rfl) dl_choose_6) ?_
  show jj_J z 6 9 [(0, .ref (ad_ z 0)), (1, .int a1), (2, .int a2), (3, .int a3), (4, .int a4)] [] (s2, t, o) _ _
  refine ji_goto (q := 16) am dl_choose_9 rfl ?_
  refine ji_iconst (q := 17) am dl_choose_16 ki_0 rfl ?_
  exact jq_ret am dl_choose_17
set_option maxHeartbeats 4000000 in
theorem ce_choose {v : wt_V} {s : wt_S} {a1 : Int32} {a2 : Int32} {a3 : Int32} {a4 : Int32} {k : Nat} (t : wt_M) (o : Nat → Int64) (hT : tk_choose a1 a2 a3 a4 k) : cw_C v yl_choose (Cond.codeWith yl_choose bl_choose 6 (some .int) [(0, 9, 12, 13)]) 25 [.ref (v.2.1 0), .int a1, .int a2, .int a3, .int a4] (nI k) (s, t, o) (s, t, o) := by
  rcases hT with ⟨hF, rfl⟩ | ⟨p0, hF, rfl⟩ | ⟨p0, p1, hF, rfl⟩ | ⟨p0, p1, p2, hF, rfl⟩
  · refine cw_of (lv := [(0, .ref (v.2.1 0)), (1, .int a1), (2, .int a2), (3, .int a3), (4, .int a4)]) (by decide) (Nat.le_of_ble_eq_true rfl) rfl ?_
    intro z hz am we tab hR
    subst hz
    have am : wt_Am z R_L bl_choose 6 25 (some .int) := am
    refine ji_aload_n (q := 1) am dl_choose_0 rfl 0 rfl rfl ?_
    refine ji_iload_n (q := 2) am dl_choose_1 rfl 1 rfl rfl ?_
    refine ji_iload_n (q := 3) am dl_choose_2 rfl 2 rfl rfl ?_
    refine ji_iload_n (q := 4) am dl_choose_3 rfl 3 rfl rfl ?_
    refine ji_iload (q := 6) am dl_choose_4 4 rfl rfl ?_
    refine jq_V (rest := []) [.int a1, .int a2, .int a3, .int a4] am we hR ln_L_x_choose (cy_choose_0 _ _  hF) (by decide) (rc_X am) rfl rfl (Nat.le_of_ble_eq_true rfl) dl_choose_6 [] ⟨0, 9, 12, 13⟩ [] tab (fun e he => nomatch he) (by decide) (by decide) xl_O we.2.2.2.2.2.2.2.2.1 ?_
    intro q9 H locs ls hP hS hl
    refine lv_astore am.1 am.2.1 dl_choose_12 hl (by decide) rfl (fun ls2 h2 => ?_)
    refine lv_iconst am.1 am.2.1 dl_choose_14 ki_1 ?_
    exact jq_end am (by decide) (by decide) hP hS dl_choose_15
  · refine cw_of (lv := [(0, .ref (v.2.1 0)), (1, .int a1), (2, .int a2), (3, .int a3), (4, .int a4)]) (by decide) (Nat.le_of_ble_eq_true rfl) rfl ?_
    intro z hz am we tab hR
    subst hz
    have am : wt_Am z R_L bl_choose 6 25 (some .int) := am
    refine ji_aload_n (q := 1) am dl_choose_0 rfl 0 rfl rfl ?_
    refine ji_iload_n (q := 2) am dl_choose_1 rfl 1 rfl rfl ?_
    refine ji_iload_n (q := 3) am dl_choose_2 rfl 2 rfl rfl ?_
    refine ji_iload_n (q := 4) am dl_choose_3 rfl 3 rfl rfl ?_
    refine ji_iload (q := 6) am dl_choose_4 4 rfl rfl ?_
    refine jq_V (rest := []) [.int a1, .int a2, .int a3, .int a4] am we hR ln_L_x_choose (cy_choose_1 _ _ p0 hF) (by decide) (rc_X am) rfl rfl (Nat.le_of_ble_eq_true rfl) dl_choose_6 [] ⟨0, 9, 12, 13⟩ [] tab (fun e he => nomatch he) (by decide) (by decide) xl_O we.2.2.2.2.2.2.2.2.1 ?_
    intro q9 H locs ls hP hS hl
    refine lv_astore am.1 am.2.1 dl_choose_12 hl (by decide) rfl (fun ls2 h2 => ?_)
    refine lv_iconst am.1 am.2.1 dl_choose_14 ki_1 ?_
    exact jq_end am (by decide) (by decide) hP hS dl_choose_15
  · refine cw_of (lv := [(0, .ref (v.2.1 0)), (1, .int a1), (2, .int a2), (3, .int a3), (4, .int a4)]) (by decide) (Nat.le_of_ble_eq_true rfl) rfl ?_
    intro z hz am we tab hR
    subst hz
    have am : wt_Am z R_L bl_choose 6 25 (some .int) := am
    refine ji_aload_n (q := 1) am dl_choose_0 rfl 0 rfl rfl ?_
    refine ji_iload_n (q := 2) am dl_choose_1 rfl 1 rfl rfl ?_
    refine ji_iload_n (q := 3) am dl_choose_2 rfl 2 rfl rfl ?_
    refine ji_iload_n (q := 4) am dl_choose_3 rfl 3 rfl rfl ?_
    refine ji_iload (q := 6) am dl_choose_4 4 rfl rfl ?_
    refine jq_V (rest := []) [.int a1, .int a2, .int a3, .int a4] am we hR ln_L_x_choose (cy_choose_2 _ _ p0 p1 hF) (by decide) (rc_X am) rfl rfl (Nat.le_of_ble_eq_true rfl) dl_choose_6 [] ⟨0, 9, 12, 13⟩ [] tab (fun e he => nomatch he) (by decide) (by decide) xl_O we.2.2.2.2.2.2.2.2.1 ?_
    intro q9 H locs ls hP hS hl
    refine lv_astore am.1 am.2.1 dl_choose_12 hl (by decide) rfl (fun ls2 h2 => ?_)
    refine lv_iconst am.1 am.2.1 dl_choose_14 ki_1 ?_
    exact jq_end am (by decide) (by decide) hP hS dl_choose_15
  · refine cw_of (lv := [(0, .ref (v.2.1 0)), (1, .int a1), (2, .int a2), (3, .int a3), (4, .int a4)]) (by decide) (Nat.le_of_ble_eq_true rfl) rfl ?_
    intro z hz am we tab hR
    subst hz
    have am : wt_Am z R_L bl_choose 6 25 (some .int) := am
    refine ji_aload_n (q := 1) am dl_choose_0 rfl 0 rfl rfl ?_
    refine ji_iload_n (q := 2) am dl_choose_1 rfl 1 rfl rfl ?_
    refine ji_iload_n (q := 3) am dl_choose_2 rfl 2 rfl rfl ?_
    refine ji_iload_n (q := 4) am dl_choose_3 rfl 3 rfl rfl ?_
    refine ji_iload (q := 6) am dl_choose_4 4 rfl rfl ?_
    refine jq_V (rest := []) [.int a1, .int a2, .int a3, .int a4] am we hR ln_L_x_choose (cy_choose_3 _ _ p0 p1 p2 hF) (by decide) (rc_X am) rfl rfl (Nat.le_of_ble_eq_true rfl) dl_choose_6 [] ⟨0, 9, 12, 13⟩ [] tab (fun e he => nomatch he) (by decide) (by decide) xl_O we.2.2.2.2.2.2.2.2.1 ?_
    intro q9 H locs ls hP hS hl
    refine lv_astore am.1 am.2.1 dl_choose_12 hl (by decide) rfl (fun ls2 h2 => ?_)
    refine lv_iconst am.1 am.2.1 dl_choose_14 ki_1 ?_
    exact jq_end am (by decide) (by decide) hP hS dl_choose_15
theorem dl_restrict_0 : decode bl_restrict 0 = .ok (.aload_n 0, 1) := by decide +kernel
theorem dl_restrict_1 : decode bl_restrict 1 = .ok (.iload_n 1, 1) := by decide +kernel
theorem dl_restrict_2 : decode bl_restrict 2 = .ok (.iload_n 2, 1) := by decide +kernel
theorem dl_restrict_3 : decode bl_restrict 3 = .ok (.iload_n 3, 1) := by decide +kernel
theorem dl_restrict_4 : decode bl_restrict 4 = .ok (.iload 4, 2) := by decide +kernel
theorem dl_restrict_6 : decode bl_restrict 6 = .ok (.invokevirtual 28, 3) := by decide +kernel
theorem dl_restrict_9 : decode bl_restrict 9 = .ok (.goto 7, 3) := by decide +kernel
theorem dl_restrict_12 : decode bl_restrict 12 = .ok (.astore 5, 2) := by decide +kernel
theorem dl_restrict_14 : decode bl_restrict 14 = .ok (.iconst 1, 1) := by decide +kernel
theorem dl_restrict_15 : decode bl_restrict 15 = .ok (.ireturn, 1) := by decide +kernel
theorem dl_restrict_16 : decode bl_restrict 16 = .ok (.iconst 0, 1) := by decide +kernel
theorem dl_restrict_17 : decode bl_restrict 17 = .ok (.ireturn, 1) := by decide +kernel
set_option maxHeartbeats 4000000 in
theorem cl_restrict {v : wt_V} {s : wt_S} {a1 : Int32} {a2 : Int32} {a3 : Int32} {a4 : Int32} {s2 : wt_S} (t : wt_M) (o : Nat → Int64) (hF : fx_restrict s a1 a2 a3 a4 = some s2) : cw_C v yl_restrict (Cond.codeWith yl_restrict bl_restrict 6 (some .int) [(0, 9, 12, 13)]) 25 [.ref (v.2.1 0), .int a1, .int a2, .int a3, .int a4] 0 (s, t, o) (s2, t, o) := by
  refine cw_of (lv := [(0, .ref (v.2.1 0)), (1, .int a1), (2, .int a2), (3, .int a3), (4, .int a4)]) (by decide) (Nat.le_of_ble_eq_true rfl) rfl ?_
  intro z hz am we tab hR
  subst hz
  have am : wt_Am z R_L bl_restrict 6 25 (some .int) := am
  refine ji_aload_n (q := 1) am dl_restrict_0 rfl 0 rfl rfl ?_
  refine ji_iload_n (q := 2) am dl_restrict_1 rfl 1 rfl rfl ?_
  refine ji_iload_n (q := 3) am dl_restrict_2 rfl 2 rfl rfl ?_
  refine ji_iload_n (q := 4) am dl_restrict_3 rfl 3 rfl rfl ?_
  refine ji_iload (q := 6) am dl_restrict_4 4 rfl rfl ?_
  refine jr_J (ret := none) (rest := []) (jr_V [.int a1, .int a2, .int a3, .int a4] am ln_L_x_restrict (ctx_restrict _ _ hF) (by decide) (rc_X am) rfl rfl (Nat.le_of_ble_eq_true rfl) dl_restrict_6) ?_
  show jj_J z 6 9 [(0, .ref (ad_ z 0)), (1, .int a1), (2, .int a2), (3, .int a3), (4, .int a4)] [] (s2, t, o) _ _
  refine ji_goto (q := 16) am dl_restrict_9 rfl ?_
  refine ji_iconst (q := 17) am dl_restrict_16 ki_0 rfl ?_
  exact jq_ret am dl_restrict_17
set_option maxHeartbeats 4000000 in
theorem ce_restrict {v : wt_V} {s : wt_S} {a1 : Int32} {a2 : Int32} {a3 : Int32} {a4 : Int32} {k : Nat} (t : wt_M) (o : Nat → Int64) (hT : tk_restrict a1 a2 a3 k) : cw_C v yl_restrict (Cond.codeWith yl_restrict bl_restrict 6 (some .int) [(0, 9, 12, 13)]) 25 [.ref (v.2.1 0), .int a1, .int a2, .int a3, .int a4] (nI k) (s, t, o) (s, t, o) := by
  rcases hT with ⟨hF, rfl⟩ | ⟨p0, hF, rfl⟩ | ⟨p0, p1, hF, rfl⟩
  · refine cw_of (lv := [(0, .ref (v.2.1 0)), (1, .int a1), (2, .int a2), (3, .int a3), (4, .int a4)]) (by decide) (Nat.le_of_ble_eq_true rfl) rfl ?_
    intro z hz am we tab hR
    subst hz
    have am : wt_Am z R_L bl_restrict 6 25 (some .int) := am
    refine ji_aload_n (q := 1) am dl_restrict_0 rfl 0 rfl rfl ?_
    refine ji_iload_n (q := 2) am dl_restrict_1 rfl 1 rfl rfl ?_
    refine ji_iload_n (q := 3) am dl_restrict_2 rfl 2 rfl rfl ?_
    refine ji_iload_n (q := 4) am dl_restrict_3 rfl 3 rfl rfl ?_
    refine ji_iload (q := 6) am dl_restrict_4 4 rfl rfl ?_
    refine jq_V (rest := []) [.int a1, .int a2, .int a3, .int a4] am we hR ln_L_x_restrict (cy_restrict_0 _ _  hF) (by decide) (rc_X am) rfl rfl (Nat.le_of_ble_eq_true rfl) dl_restrict_6 [] ⟨0, 9, 12, 13⟩ [] tab (fun e he => nomatch he) (by decide) (by decide) xl_O we.2.2.2.2.2.2.2.2.1 ?_
    intro q9 H locs ls hP hS hl
    refine lv_astore am.1 am.2.1 dl_restrict_12 hl (by decide) rfl (fun ls2 h2 => ?_)
    refine lv_iconst am.1 am.2.1 dl_restrict_14 ki_1 ?_
    exact jq_end am (by decide) (by decide) hP hS dl_restrict_15
  · refine cw_of (lv := [(0, .ref (v.2.1 0)), (1, .int a1), (2, .int a2), (3, .int a3), (4, .int a4)]) (by decide) (Nat.le_of_ble_eq_true rfl) rfl ?_
    intro z hz am we tab hR
    subst hz
    have am : wt_Am z R_L bl_restrict 6 25 (some .int) := am
    refine ji_aload_n (q := 1) am dl_restrict_0 rfl 0 rfl rfl ?_
    refine ji_iload_n (q := 2) am dl_restrict_1 rfl 1 rfl rfl ?_
    refine ji_iload_n (q := 3) am dl_restrict_2 rfl 2 rfl rfl ?_
    refine ji_iload_n (q := 4) am dl_restrict_3 rfl 3 rfl rfl ?_
    refine ji_iload (q := 6) am dl_restrict_4 4 rfl rfl ?_
    refine jq_V (rest := []) [.int a1, .int a2, .int a3, .int a4] am we hR ln_L_x_restrict (cy_restrict_1 _ _ p0 hF) (by decide) (rc_X am) rfl rfl (Nat.le_of_ble_eq_true rfl) dl_restrict_6 [] ⟨0, 9, 12, 13⟩ [] tab (fun e he => nomatch he) (by decide) (by decide) xl_O we.2.2.2.2.2.2.2.2.1 ?_
    intro q9 H locs ls hP hS hl
    refine lv_astore am.1 am.2.1 dl_restrict_12 hl (by decide) rfl (fun ls2 h2 => ?_)
    refine lv_iconst am.1 am.2.1 dl_restrict_14 ki_1 ?_
    exact jq_end am (by decide) (by decide) hP hS dl_restrict_15
  · refine cw_of (lv := [(0, .ref (v.2.1 0)), (1, .int a1), (2, .int a2), (3, .int a3), (4, .int a4)]) (by decide) (Nat.le_of_ble_eq_true rfl) rfl ?_
    intro z hz am we tab hR
    subst hz
    have am : wt_Am z R_L bl_restrict 6 25 (some .int) := am
    refine ji_aload_n (q := 1) am dl_restrict_0 rfl 0 rfl rfl ?_
    refine ji_iload_n (q := 2) am dl_restrict_1 rfl 1 rfl rfl ?_
    refine ji_iload_n (q := 3) am dl_restrict_2 rfl 2 rfl rfl ?_
    refine ji_iload_n (q := 4) am dl_restrict_3 rfl 3 rfl rfl ?_
    refine ji_iload (q := 6) am dl_restrict_4 4 rfl rfl ?_
    refine jq_V (rest := []) [.int a1, .int a2, .int a3, .int a4] am we hR ln_L_x_restrict (cy_restrict_2 _ _ p0 p1 hF) (by decide) (rc_X am) rfl rfl (Nat.le_of_ble_eq_true rfl) dl_restrict_6 [] ⟨0, 9, 12, 13⟩ [] tab (fun e he => nomatch he) (by decide) (by decide) xl_O we.2.2.2.2.2.2.2.2.1 ?_
    intro q9 H locs ls hP hS hl
    refine lv_astore am.1 am.2.1 dl_restrict_12 hl (by decide) rfl (fun ls2 h2 => ?_)
    refine lv_iconst am.1 am.2.1 dl_restrict_14 ki_1 ?_
    exact jq_end am (by decide) (by decide) hP hS dl_restrict_15
theorem dl_quantify_0 : decode bl_quantify 0 = .ok (.aload_n 0, 1) := by decide +kernel
theorem dl_quantify_1 : decode bl_quantify 1 = .ok (.iload_n 1, 1) := by decide +kernel
theorem dl_quantify_2 : decode bl_quantify 2 = .ok (.iload_n 2, 1) := by decide +kernel
theorem dl_quantify_3 : decode bl_quantify 3 = .ok (.iload_n 3, 1) := by decide +kernel
theorem dl_quantify_4 : decode bl_quantify 4 = .ok (.iload 4, 2) := by decide +kernel
theorem dl_quantify_6 : decode bl_quantify 6 = .ok (.invokevirtual 32, 3) := by decide +kernel
theorem dl_quantify_9 : decode bl_quantify 9 = .ok (.goto 11, 3) := by decide +kernel
theorem dl_quantify_12 : decode bl_quantify 12 = .ok (.astore 5, 2) := by decide +kernel
theorem dl_quantify_14 : decode bl_quantify 14 = .ok (.iconst 1, 1) := by decide +kernel
theorem dl_quantify_15 : decode bl_quantify 15 = .ok (.ireturn, 1) := by decide +kernel
theorem dl_quantify_16 : decode bl_quantify 16 = .ok (.astore 5, 2) := by decide +kernel
theorem dl_quantify_18 : decode bl_quantify 18 = .ok (.iconst 2, 1) := by decide +kernel
theorem dl_quantify_19 : decode bl_quantify 19 = .ok (.ireturn, 1) := by decide +kernel
theorem dl_quantify_20 : decode bl_quantify 20 = .ok (.iconst 0, 1) := by decide +kernel
theorem dl_quantify_21 : decode bl_quantify 21 = .ok (.ireturn, 1) := by decide +kernel
set_option maxHeartbeats 4000000 in
theorem cl_quantify {v : wt_V} {s : wt_S} {a1 : Int32} {a2 : Int32} {a3 : Int32} {a4 : Int32} {s2 : wt_S} (t : wt_M) (o : Nat → Int64) (hF : fx_quantify s a1 a2 a3 a4 = some s2) : cw_C v yl_quantify (Cond.codeWith yl_quantify bl_quantify 6 (some .int) [(0, 9, 12, 13), (0, 9, 16, 23)]) 25 [.ref (v.2.1 0), .int a1, .int a2, .int a3, .int a4] 0 (s, t, o) (s2, t, o) := by
  refine cw_of (lv := [(0, .ref (v.2.1 0)), (1, .int a1), (2, .int a2), (3, .int a3), (4, .int a4)]) (by decide) (Nat.le_of_ble_eq_true rfl) rfl ?_
  intro z hz am we tab hR
  subst hz
  have am : wt_Am z R_L bl_quantify 6 25 (some .int) := am
  refine ji_aload_n (q := 1) am dl_quantify_0 rfl 0 rfl rfl ?_
  refine ji_iload_n (q := 2) am dl_quantify_1 rfl 1 rfl rfl ?_
  refine ji_iload_n (q := 3) am dl_quantify_2 rfl 2 rfl rfl ?_
  refine ji_iload_n (q := 4) am dl_quantify_3 rfl 3 rfl rfl ?_
  refine ji_iload (q := 6) am dl_quantify_4 4 rfl rfl ?_
  refine jr_J (ret := none) (rest := []) (jr_V [.int a1, .int a2, .int a3, .int a4] am ln_L_x_quantify (ctx_quantify _ _ hF) (by decide) (rc_X am) rfl rfl (Nat.le_of_ble_eq_true rfl) dl_quantify_6) ?_
  show jj_J z 6 9 [(0, .ref (ad_ z 0)), (1, .int a1), (2, .int a2), (3, .int a3), (4, .int a4)] [] (s2, t, o) _ _
  refine ji_goto (q := 20) am dl_quantify_9 rfl ?_
  refine ji_iconst (q := 21) am dl_quantify_20 ki_0 rfl ?_
  exact jq_ret am dl_quantify_21
set_option maxHeartbeats 4000000 in
theorem ce_quantify {v : wt_V} {s : wt_S} {a1 : Int32} {a2 : Int32} {a3 : Int32} {a4 : Int32} {k : Nat} (t : wt_M) (o : Nat → Int64) (hT : tk_quantify a1 a2 a3 k) : cw_C v yl_quantify (Cond.codeWith yl_quantify bl_quantify 6 (some .int) [(0, 9, 12, 13), (0, 9, 16, 23)]) 25 [.ref (v.2.1 0), .int a1, .int a2, .int a3, .int a4] (nI k) (s, t, o) (s, t, o) := by
  rcases hT with ⟨hF, rfl⟩ | ⟨p0, hF, rfl⟩ | ⟨p0, p1, hF, rfl⟩
  · refine cw_of (lv := [(0, .ref (v.2.1 0)), (1, .int a1), (2, .int a2), (3, .int a3), (4, .int a4)]) (by decide) (Nat.le_of_ble_eq_true rfl) rfl ?_
    intro z hz am we tab hR
    subst hz
    have am : wt_Am z R_L bl_quantify 6 25 (some .int) := am
    refine ji_aload_n (q := 1) am dl_quantify_0 rfl 0 rfl rfl ?_
    refine ji_iload_n (q := 2) am dl_quantify_1 rfl 1 rfl rfl ?_
    refine ji_iload_n (q := 3) am dl_quantify_2 rfl 2 rfl rfl ?_
    refine ji_iload_n (q := 4) am dl_quantify_3 rfl 3 rfl rfl ?_
    refine ji_iload (q := 6) am dl_quantify_4 4 rfl rfl ?_
    refine jq_V (rest := []) [.int a1, .int a2, .int a3, .int a4] am we hR ln_L_x_quantify (cy_quantify_0 _ _  hF) (by decide) (rc_X am) rfl rfl (Nat.le_of_ble_eq_true rfl) dl_quantify_6 [] ⟨0, 9, 12, 13⟩ [⟨0, 9, 16, 23⟩] tab (fun e he => nomatch he) (by decide) (by decide) xl_O we.2.2.2.2.2.2.2.2.1 ?_
    intro q9 H locs ls hP hS hl
    refine lv_astore am.1 am.2.1 dl_quantify_12 hl (by decide) rfl (fun ls2 h2 => ?_)
    refine lv_iconst am.1 am.2.1 dl_quantify_14 ki_1 ?_
    exact jq_end am (by decide) (by decide) hP hS dl_quantify_15
  · refine cw_of (lv := [(0, .ref (v.2.1 0)), (1, .int a1), (2, .int a2), (3, .int a3), (4, .int a4)]) (by decide) (Nat.le_of_ble_eq_true rfl) rfl ?_
    intro z hz am we tab hR
    subst hz
    have am : wt_Am z R_L bl_quantify 6 25 (some .int) := am
    refine ji_aload_n (q := 1) am dl_quantify_0 rfl 0 rfl rfl ?_
    refine ji_iload_n (q := 2) am dl_quantify_1 rfl 1 rfl rfl ?_
    refine ji_iload_n (q := 3) am dl_quantify_2 rfl 2 rfl rfl ?_
    refine ji_iload_n (q := 4) am dl_quantify_3 rfl 3 rfl rfl ?_
    refine ji_iload (q := 6) am dl_quantify_4 4 rfl rfl ?_
    refine jq_V (rest := []) [.int a1, .int a2, .int a3, .int a4] am we hR ln_L_x_quantify (cy_quantify_1 _ _ p0 hF) (by decide) (rc_X am) rfl rfl (Nat.le_of_ble_eq_true rfl) dl_quantify_6 [] ⟨0, 9, 12, 13⟩ [⟨0, 9, 16, 23⟩] tab (fun e he => nomatch he) (by decide) (by decide) xl_O we.2.2.2.2.2.2.2.2.1 ?_
    intro q9 H locs ls hP hS hl
    refine lv_astore am.1 am.2.1 dl_quantify_12 hl (by decide) rfl (fun ls2 h2 => ?_)
    refine lv_iconst am.1 am.2.1 dl_quantify_14 ki_1 ?_
    exact jq_end am (by decide) (by decide) hP hS dl_quantify_15
  · refine cw_of (lv := [(0, .ref (v.2.1 0)), (1, .int a1), (2, .int a2), (3, .int a3), (4, .int a4)]) (by decide) (Nat.le_of_ble_eq_true rfl) rfl ?_
    intro z hz am we tab hR
    subst hz
    have am : wt_Am z R_L bl_quantify 6 25 (some .int) := am
    refine ji_aload_n (q := 1) am dl_quantify_0 rfl 0 rfl rfl ?_
    refine ji_iload_n (q := 2) am dl_quantify_1 rfl 1 rfl rfl ?_
    refine ji_iload_n (q := 3) am dl_quantify_2 rfl 2 rfl rfl ?_
    refine ji_iload_n (q := 4) am dl_quantify_3 rfl 3 rfl rfl ?_
    refine ji_iload (q := 6) am dl_quantify_4 4 rfl rfl ?_
    refine jq_V (rest := []) [.int a1, .int a2, .int a3, .int a4] am we hR ln_L_x_quantify (cy_quantify_2 _ _ p0 p1 hF) (by decide) (rc_X am) rfl rfl (Nat.le_of_ble_eq_true rfl) dl_quantify_6 [⟨0, 9, 12, 13⟩] ⟨0, 9, 16, 23⟩ [] tab (by
        intro e he
        obtain rfl := List.mem_singleton.mp he
        exact Or.inr ⟨by decide, E_O, xl_O, we.2.2.2.2.2.2.2.2.2.2.2.1⟩) (by decide) (by decide) xl_A we.2.2.2.2.2.2.2.2.2.1 ?_
    intro q9 H locs ls hP hS hl
    refine lv_astore am.1 am.2.1 dl_quantify_16 hl (by decide) rfl (fun ls2 h2 => ?_)
    refine lv_iconst am.1 am.2.1 dl_quantify_18 ki_2 ?_
    exact jq_end am (by decide) (by decide) hP hS dl_quantify_19
theorem dl_product_0 : decode bl_product 0 = .ok (.aload_n 0, 1) := by decide +kernel
theorem dl_product_1 : decode bl_product 1 = .ok (.iload_n 1, 1) := by decide +kernel
theorem dl_product_2 : decode bl_product 2 = .ok (.iload_n 2, 1) := by decide +kernel
theorem dl_product_3 : decode bl_product 3 = .ok (.iload_n 3, 1) := by decide +kernel
theorem dl_product_4 : decode bl_product 4 = .ok (.iload 4, 2) := by decide +kernel
theorem dl_product_6 : decode bl_product 6 = .ok (.invokevirtual 35, 3) := by decide +kernel
theorem dl_product_9 : decode bl_product 9 = .ok (.goto 11, 3) := by decide +kernel
theorem dl_product_12 : decode bl_product 12 = .ok (.astore 5, 2) := by decide +kernel
theorem dl_product_14 : decode bl_product 14 = .ok (.iconst 1, 1) := by decide +kernel
theorem dl_product_15 : decode bl_product 15 = .ok (.ireturn, 1) := by decide +kernel
theorem dl_product_16 : decode bl_product 16 = .ok (.astore 5, 2) := by decide +kernel
theorem dl_product_18 : decode bl_product 18 = .ok (.iconst 2, 1) := by decide +kernel
theorem dl_product_19 : decode bl_product 19 = .ok (.ireturn, 1) := by decide +kernel
theorem dl_product_20 : decode bl_product 20 = .ok (.iconst 0, 1) := by decide +kernel
theorem dl_product_21 : decode bl_product 21 = .ok (.ireturn, 1) := by decide +kernel
set_option maxHeartbeats 4000000 in
theorem cl_product {v : wt_V} {s : wt_S} {a1 : Int32} {a2 : Int32} {a3 : Int32} {a4 : Int32} {s2 : wt_S} (t : wt_M) (o : Nat → Int64) (hF : fx_product s a1 a2 a3 a4 = some s2) : cw_C v yl_product (Cond.codeWith yl_product bl_product 6 (some .int) [(0, 9, 12, 13), (0, 9, 16, 23)]) 25 [.ref (v.2.1 0), .int a1, .int a2, .int a3, .int a4] 0 (s, t, o) (s2, t, o) := by
  refine cw_of (lv := [(0, .ref (v.2.1 0)), (1, .int a1), (2, .int a2), (3, .int a3), (4, .int a4)]) (by decide) (Nat.le_of_ble_eq_true rfl) rfl ?_
  intro z hz am we tab hR
  subst hz
  have am : wt_Am z R_L bl_product 6 25 (some .int) := am
  refine ji_aload_n (q := 1) am dl_product_0 rfl 0 rfl rfl ?_
  refine ji_iload_n (q := 2) am dl_product_1 rfl 1 rfl rfl ?_
  refine ji_iload_n (q := 3) am dl_product_2 rfl 2 rfl rfl ?_
  refine ji_iload_n (q := 4) am dl_product_3 rfl 3 rfl rfl ?_
  refine ji_iload (q := 6) am dl_product_4 4 rfl rfl ?_
  refine jr_J (ret := none) (rest := []) (jr_V [.int a1, .int a2, .int a3, .int a4] am ln_L_x_product (ctx_product _ _ hF) (by decide) (rc_X am) rfl rfl (Nat.le_of_ble_eq_true rfl) dl_product_6) ?_
  show jj_J z 6 9 [(0, .ref (ad_ z 0)), (1, .int a1), (2, .int a2), (3, .int a3), (4, .int a4)] [] (s2, t, o) _ _
  refine ji_goto (q := 20) am dl_product_9 rfl ?_
  refine ji_iconst (q := 21) am dl_product_20 ki_0 rfl ?_
  exact jq_ret am dl_product_21
set_option maxHeartbeats 4000000 in
theorem ce_product {v : wt_V} {s : wt_S} {a1 : Int32} {a2 : Int32} {a3 : Int32} {a4 : Int32} {k : Nat} (t : wt_M) (o : Nat → Int64) (hT : tk_product a1 a2 a3 a4 k) : cw_C v yl_product (Cond.codeWith yl_product bl_product 6 (some .int) [(0, 9, 12, 13), (0, 9, 16, 23)]) 25 [.ref (v.2.1 0), .int a1, .int a2, .int a3, .int a4] (nI k) (s, t, o) (s, t, o) := by
  rcases hT with ⟨hF, rfl⟩ | ⟨p0, hF, rfl⟩ | ⟨p0, p1, hF, rfl⟩ | ⟨p0, p1, p2, hF, rfl⟩
  · refine cw_of (lv := [(0, .ref (v.2.1 0)), (1, .int a1), (2, .int a2), (3, .int a3), (4, .int a4)]) (by decide) (Nat.le_of_ble_eq_true rfl) rfl ?_
    intro z hz am we tab hR
    subst hz
    have am : wt_Am z R_L bl_product 6 25 (some .int) := am
    refine ji_aload_n (q := 1) am dl_product_0 rfl 0 rfl rfl ?_
    refine ji_iload_n (q := 2) am dl_product_1 rfl 1 rfl rfl ?_
    refine ji_iload_n (q := 3) am dl_product_2 rfl 2 rfl rfl ?_
    refine ji_iload_n (q := 4) am dl_product_3 rfl 3 rfl rfl ?_
    refine ji_iload (q := 6) am dl_product_4 4 rfl rfl ?_
    refine jq_V (rest := []) [.int a1, .int a2, .int a3, .int a4] am we hR ln_L_x_product (cy_product_0 _ _  hF) (by decide) (rc_X am) rfl rfl (Nat.le_of_ble_eq_true rfl) dl_product_6 [] ⟨0, 9, 12, 13⟩ [⟨0, 9, 16, 23⟩] tab (fun e he => nomatch he) (by decide) (by decide) xl_O we.2.2.2.2.2.2.2.2.1 ?_
    intro q9 H locs ls hP hS hl
    refine lv_astore am.1 am.2.1 dl_product_12 hl (by decide) rfl (fun ls2 h2 => ?_)
    refine lv_iconst am.1 am.2.1 dl_product_14 ki_1 ?_
    exact jq_end am (by decide) (by decide) hP hS dl_product_15
  · refine cw_of (lv := [(0, .ref (v.2.1 0)), (1, .int a1), (2, .int a2), (3, .int a3), (4, .int a4)]) (by decide) (Nat.le_of_ble_eq_true rfl) rfl ?_
    intro z hz am we tab hR
    subst hz
    have am : wt_Am z R_L bl_product 6 25 (some .int) := am
    refine ji_aload_n (q := 1) am dl_product_0 rfl 0 rfl rfl ?_
    refine ji_iload_n (q := 2) am dl_product_1 rfl 1 rfl rfl ?_
    refine ji_iload_n (q := 3) am dl_product_2 rfl 2 rfl rfl ?_
    refine ji_iload_n (q := 4) am dl_product_3 rfl 3 rfl rfl ?_
    refine ji_iload (q := 6) am dl_product_4 4 rfl rfl ?_
    refine jq_V (rest := []) [.int a1, .int a2, .int a3, .int a4] am we hR ln_L_x_product (cy_product_1 _ _ p0 hF) (by decide) (rc_X am) rfl rfl (Nat.le_of_ble_eq_true rfl) dl_product_6 [] ⟨0, 9, 12, 13⟩ [⟨0, 9, 16, 23⟩] tab (fun e he => nomatch he) (by decide) (by decide) xl_O we.2.2.2.2.2.2.2.2.1 ?_
    intro q9 H locs ls hP hS hl
    refine lv_astore am.1 am.2.1 dl_product_12 hl (by decide) rfl (fun ls2 h2 => ?_)
    refine lv_iconst am.1 am.2.1 dl_product_14 ki_1 ?_
    exact jq_end am (by decide) (by decide) hP hS dl_product_15
  · refine cw_of (lv := [(0, .ref (v.2.1 0)), (1, .int a1), (2, .int a2), (3, .int a3), (4, .int a4)]) (by decide) (Nat.le_of_ble_eq_true rfl) rfl ?_
    intro z hz am we tab hR
    subst hz
    have am : wt_Am z R_L bl_product 6 25 (some .int) := am
    refine ji_aload_n (q := 1) am dl_product_0 rfl 0 rfl rfl ?_
    refine ji_iload_n (q := 2) am dl_product_1 rfl 1 rfl rfl ?_
    refine ji_iload_n (q := 3) am dl_product_2 rfl 2 rfl rfl ?_
    refine ji_iload_n (q := 4) am dl_product_3 rfl 3 rfl rfl ?_
    refine ji_iload (q := 6) am dl_product_4 4 rfl rfl ?_
    refine jq_V (rest := []) [.int a1, .int a2, .int a3, .int a4] am we hR ln_L_x_product (cy_product_2 _ _ p0 p1 hF) (by decide) (rc_X am) rfl rfl (Nat.le_of_ble_eq_true rfl) dl_product_6 [] ⟨0, 9, 12, 13⟩ [⟨0, 9, 16, 23⟩] tab (fun e he => nomatch he) (by decide) (by decide) xl_O we.2.2.2.2.2.2.2.2.1 ?_
    intro q9 H locs ls hP hS hl
    refine lv_astore am.1 am.2.1 dl_product_12 hl (by decide) rfl (fun ls2 h2 => ?_)
    refine lv_iconst am.1 am.2.1 dl_product_14 ki_1 ?_
    exact jq_end am (by decide) (by decide) hP hS dl_product_15
  · refine cw_of (lv := [(0, .ref (v.2.1 0)), (1, .int a1), (2, .int a2), (3, .int a3), (4, .int a4)]) (by decide) (Nat.le_of_ble_eq_true rfl) rfl ?_
    intro z hz am we tab hR
    subst hz
    have am : wt_Am z R_L bl_product 6 25 (some .int) := am
    refine ji_aload_n (q := 1) am dl_product_0 rfl 0 rfl rfl ?_
    refine ji_iload_n (q := 2) am dl_product_1 rfl 1 rfl rfl ?_
    refine ji_iload_n (q := 3) am dl_product_2 rfl 2 rfl rfl ?_
    refine ji_iload_n (q := 4) am dl_product_3 rfl 3 rfl rfl ?_
    refine ji_iload (q := 6) am dl_product_4 4 rfl rfl ?_
    refine jq_V (rest := []) [.int a1, .int a2, .int a3, .int a4] am we hR ln_L_x_product (cy_product_3 _ _ p0 p1 p2 hF) (by decide) (rc_X am) rfl rfl (Nat.le_of_ble_eq_true rfl) dl_product_6 [⟨0, 9, 12, 13⟩] ⟨0, 9, 16, 23⟩ [] tab (by
        intro e he
        obtain rfl := List.mem_singleton.mp he
        exact Or.inr ⟨by decide, E_O, xl_O, we.2.2.2.2.2.2.2.2.2.2.2.1⟩) (by decide) (by decide) xl_A we.2.2.2.2.2.2.2.2.2.1 ?_
    intro q9 H locs ls hP hS hl
    refine lv_astore am.1 am.2.1 dl_product_16 hl (by decide) rfl (fun ls2 h2 => ?_)
    refine lv_iconst am.1 am.2.1 dl_product_18 ki_2 ?_
    exact jq_end am (by decide) (by decide) hP hS dl_product_19
theorem dl_compose_0 : decode bl_compose 0 = .ok (.aload_n 0, 1) := by decide +kernel
theorem dl_compose_1 : decode bl_compose 1 = .ok (.iload_n 1, 1) := by decide +kernel
theorem dl_compose_2 : decode bl_compose 2 = .ok (.iload_n 2, 1) := by decide +kernel
theorem dl_compose_3 : decode bl_compose 3 = .ok (.iload_n 3, 1) := by decide +kernel
theorem dl_compose_4 : decode bl_compose 4 = .ok (.iload 4, 2) := by decide +kernel
theorem dl_compose_6 : decode bl_compose 6 = .ok (.invokevirtual 38, 3) := by decide +kernel
theorem dl_compose_9 : decode bl_compose 9 = .ok (.goto 7, 3) := by decide +kernel
theorem dl_compose_12 : decode bl_compose 12 = .ok (.astore 5, 2) := by decide +kernel
theorem dl_compose_14 : decode bl_compose 14 = .ok (.iconst 1, 1) := by decide +kernel
theorem dl_compose_15 : decode bl_compose 15 = .ok (.ireturn, 1) := by decide +kernel
theorem dl_compose_16 : decode bl_compose 16 = .ok (.iconst 0, 1) := by decide +kernel
theorem dl_compose_17 : decode bl_compose 17 = .ok (.ireturn, 1) := by decide +kernel
set_option maxHeartbeats 4000000 in
theorem cl_compose {v : wt_V} {s : wt_S} {a1 : Int32} {a2 : Int32} {a3 : Int32} {a4 : Int32} {s2 : wt_S} (t : wt_M) (o : Nat → Int64) (hF : fx_compose s a1 a2 a3 a4 = some s2) : cw_C v yl_compose (Cond.codeWith yl_compose bl_compose 6 (some .int) [(0, 9, 12, 13)]) 25 [.ref (v.2.1 0), .int a1, .int a2, .int a3, .int a4] 0 (s, t, o) (s2, t, o) := by
  refine cw_of (lv := [(0, .ref (v.2.1 0)), (1, .int a1), (2, .int a2), (3, .int a3), (4, .int a4)]) (by decide) (Nat.le_of_ble_eq_true rfl) rfl ?_
  intro z hz am we tab hR
  subst hz
  have am : wt_Am z R_L bl_compose 6 25 (some .int) := am
  refine ji_aload_n (q := 1) am dl_compose_0 rfl 0 rfl rfl ?_
  refine ji_iload_n (q := 2) am dl_compose_1 rfl 1 rfl rfl ?_
  refine ji_iload_n (q := 3) am dl_compose_2 rfl 2 rfl rfl ?_
  refine ji_iload_n (q := 4) am dl_compose_3 rfl 3 rfl rfl ?_
  refine ji_iload (q := 6) am dl_compose_4 4 rfl rfl ?_
  refine jr_J (ret := none) (rest := []) (jr_V [.int a1, .int a2, .int a3, .int a4] am ln_L_x_compose (ctx_compose _ _ hF) (by decide) (rc_X am) rfl rfl (Nat.le_of_ble_eq_true rfl) dl_compose_6) ?_
  show jj_J z 6 9 [(0, .ref (ad_ z 0)), (1, .int a1), (2, .int a2), (3, .int a3), (4, .int a4)] [] (s2, t, o) _ _
  refine ji_goto (q := 16) am dl_compose_9 rfl ?_
  refine ji_iconst (q := 17) am dl_compose_16 ki_0 rfl ?_
  exact jq_ret am dl_compose_17
set_option maxHeartbeats 4000000 in
theorem ce_compose {v : wt_V} {s : wt_S} {a1 : Int32} {a2 : Int32} {a3 : Int32} {a4 : Int32} {k : Nat} (t : wt_M) (o : Nat → Int64) (hT : tk_compose a1 a2 a3 a4 k) : cw_C v yl_compose (Cond.codeWith yl_compose bl_compose 6 (some .int) [(0, 9, 12, 13)]) 25 [.ref (v.2.1 0), .int a1, .int a2, .int a3, .int a4] (nI k) (s, t, o) (s, t, o) := by
  rcases hT with ⟨hF, rfl⟩ | ⟨p0, hF, rfl⟩ | ⟨p0, p1, hF, rfl⟩ | ⟨p0, p1, p2, hF, rfl⟩
  · refine cw_of (lv := [(0, .ref (v.2.1 0)), (1, .int a1), (2, .int a2), (3, .int a3), (4, .int a4)]) (by decide) (Nat.le_of_ble_eq_true rfl) rfl ?_
    intro z hz am we tab hR
    subst hz
    have am : wt_Am z R_L bl_compose 6 25 (some .int) := am
    refine ji_aload_n (q := 1) am dl_compose_0 rfl 0 rfl rfl ?_
    refine ji_iload_n (q := 2) am dl_compose_1 rfl 1 rfl rfl ?_
    refine ji_iload_n (q := 3) am dl_compose_2 rfl 2 rfl rfl ?_
    refine ji_iload_n (q := 4) am dl_compose_3 rfl 3 rfl rfl ?_
    refine ji_iload (q := 6) am dl_compose_4 4 rfl rfl ?_
    refine jq_V (rest := []) [.int a1, .int a2, .int a3, .int a4] am we hR ln_L_x_compose (cy_compose_0 _ _  hF) (by decide) (rc_X am) rfl rfl (Nat.le_of_ble_eq_true rfl) dl_compose_6 [] ⟨0, 9, 12, 13⟩ [] tab (fun e he => nomatch he) (by decide) (by decide) xl_O we.2.2.2.2.2.2.2.2.1 ?_
    intro q9 H locs ls hP hS hl
    refine lv_astore am.1 am.2.1 dl_compose_12 hl (by decide) rfl (fun ls2 h2 => ?_)
    refine lv_iconst am.1 am.2.1 dl_compose_14 ki_1 ?_
    exact jq_end am (by decide) (by decide) hP hS dl_compose_15
  · refine cw_of (lv := [(0, .ref (v.2.1 0)), (1, .int a1), (2, .int a2), (3, .int a3), (4, .int a4)]) (by decide) (Nat.le_of_ble_eq_true rfl) rfl ?_
    intro z hz am we tab hR
    subst hz
    have am : wt_Am z R_L bl_compose 6 25 (some .int) := am
    refine ji_aload_n (q := 1) am dl_compose_0 rfl 0 rfl rfl ?_
    refine ji_iload_n (q := 2) am dl_compose_1 rfl 1 rfl rfl ?_
    refine ji_iload_n (q := 3) am dl_compose_2 rfl 2 rfl rfl ?_
    refine ji_iload_n (q := 4) am dl_compose_3 rfl 3 rfl rfl ?_
    refine ji_iload (q := 6) am dl_compose_4 4 rfl rfl ?_
    refine jq_V (rest := []) [.int a1, .int a2, .int a3, .int a4] am we hR ln_L_x_compose (cy_compose_1 _ _ p0 hF) (by decide) (rc_X am) rfl rfl (Nat.le_of_ble_eq_true rfl) dl_compose_6 [] ⟨0, 9, 12, 13⟩ [] tab (fun e he => nomatch he) (by decide) (by decide) xl_O we.2.2.2.2.2.2.2.2.1 ?_
    intro q9 H locs ls hP hS hl
    refine lv_astore am.1 am.2.1 dl_compose_12 hl (by decide) rfl (fun ls2 h2 => ?_)
    refine lv_iconst am.1 am.2.1 dl_compose_14 ki_1 ?_
    exact jq_end am (by decide) (by decide) hP hS dl_compose_15
  · refine cw_of (lv := [(0, .ref (v.2.1 0)), (1, .int a1), (2, .int a2), (3, .int a3), (4, .int a4)]) (by decide) (Nat.le_of_ble_eq_true rfl) rfl ?_
    intro z hz am we tab hR
    subst hz
    have am : wt_Am z R_L bl_compose 6 25 (some .int) := am
    refine ji_aload_n (q := 1) am dl_compose_0 rfl 0 rfl rfl ?_
    refine ji_iload_n (q := 2) am dl_compose_1 rfl 1 rfl rfl ?_
    refine ji_iload_n (q := 3) am dl_compose_2 rfl 2 rfl rfl ?_
    refine ji_iload_n (q := 4) am dl_compose_3 rfl 3 rfl rfl ?_
    refine ji_iload (q := 6) am dl_compose_4 4 rfl rfl ?_
    refine jq_V (rest := []) [.int a1, .int a2, .int a3, .int a4] am we hR ln_L_x_compose (cy_compose_2 _ _ p0 p1 hF) (by decide) (rc_X am) rfl rfl (Nat.le_of_ble_eq_true rfl) dl_compose_6 [] ⟨0, 9, 12, 13⟩ [] tab (fun e he => nomatch he) (by decide) (by decide) xl_O we.2.2.2.2.2.2.2.2.1 ?_
    intro q9 H locs ls hP hS hl
    refine lv_astore am.1 am.2.1 dl_compose_12 hl (by decide) rfl (fun ls2 h2 => ?_)
    refine lv_iconst am.1 am.2.1 dl_compose_14 ki_1 ?_
    exact jq_end am (by decide) (by decide) hP hS dl_compose_15
  · refine cw_of (lv := [(0, .ref (v.2.1 0)), (1, .int a1), (2, .int a2), (3, .int a3), (4, .int a4)]) (by decide) (Nat.le_of_ble_eq_true rfl) rfl ?_
    intro z hz am we tab hR
    subst hz
    have am : wt_Am z R_L bl_compose 6 25 (some .int) := am
    refine ji_aload_n (q := 1) am dl_compose_0 rfl 0 rfl rfl ?_
    refine ji_iload_n (q := 2) am dl_compose_1 rfl 1 rfl rfl ?_
    refine ji_iload_n (q := 3) am dl_compose_2 rfl 2 rfl rfl ?_
    refine ji_iload_n (q := 4) am dl_compose_3 rfl 3 rfl rfl ?_
    refine ji_iload (q := 6) am dl_compose_4 4 rfl rfl ?_
    refine jq_V (rest := []) [.int a1, .int a2, .int a3, .int a4] am we hR ln_L_x_compose (cy_compose_3 _ _ p0 p1 p2 hF) (by decide) (rc_X am) rfl rfl (Nat.le_of_ble_eq_true rfl) dl_compose_6 [] ⟨0, 9, 12, 13⟩ [] tab (fun e he => nomatch he) (by decide) (by decide) xl_O we.2.2.2.2.2.2.2.2.1 ?_
    intro q9 H locs ls hP hS hl
    refine lv_astore am.1 am.2.1 dl_compose_12 hl (by decide) rfl (fun ls2 h2 => ?_)
    refine lv_iconst am.1 am.2.1 dl_compose_14 ki_1 ?_
    exact jq_end am (by decide) (by decide) hP hS dl_compose_15
theorem dl_turn_0 : decode bl_turn 0 = .ok (.aload_n 0, 1) := by decide +kernel
theorem dl_turn_1 : decode bl_turn 1 = .ok (.iload_n 1, 1) := by decide +kernel
theorem dl_turn_2 : decode bl_turn 2 = .ok (.iload_n 2, 1) := by decide +kernel
theorem dl_turn_3 : decode bl_turn 3 = .ok (.invokevirtual 41, 3) := by decide +kernel
theorem dl_turn_6 : decode bl_turn 6 = .ok (.goto 6, 3) := by decide +kernel
theorem dl_turn_9 : decode bl_turn 9 = .ok (.astore_n 3, 1) := by decide +kernel
theorem dl_turn_10 : decode bl_turn 10 = .ok (.iconst 1, 1) := by decide +kernel
theorem dl_turn_11 : decode bl_turn 11 = .ok (.ireturn, 1) := by decide +kernel
theorem dl_turn_12 : decode bl_turn 12 = .ok (.iconst 0, 1) := by decide +kernel
theorem dl_turn_13 : decode bl_turn 13 = .ok (.ireturn, 1) := by decide +kernel
set_option maxHeartbeats 4000000 in
theorem cl_turn {v : wt_V} {s : wt_S} {a1 : Int32} {a2 : Int32} {s2 : wt_S} (t : wt_M) (o : Nat → Int64) (hF : fx_turn s a1 a2 = some s2) : cw_C v yl_turn (Cond.codeWith yl_turn bl_turn 4 (some .int) [(0, 6, 9, 13)]) 25 [.ref (v.2.1 0), .int a1, .int a2] 0 (s, t, o) (s2, t, o) := by
  refine cw_of (lv := [(0, .ref (v.2.1 0)), (1, .int a1), (2, .int a2)]) (by decide) (Nat.le_of_ble_eq_true rfl) rfl ?_
  intro z hz am we tab hR
  subst hz
  have am : wt_Am z R_L bl_turn 4 25 (some .int) := am
  refine ji_aload_n (q := 1) am dl_turn_0 rfl 0 rfl rfl ?_
  refine ji_iload_n (q := 2) am dl_turn_1 rfl 1 rfl rfl ?_
  refine ji_iload_n (q := 3) am dl_turn_2 rfl 2 rfl rfl ?_
  refine jr_J (ret := none) (rest := []) (jr_V [.int a1, .int a2] am ln_L_x_turn (ctx_turn _ _ hF) (by decide) (rc_X am) rfl rfl (Nat.le_of_ble_eq_true rfl) dl_turn_3) ?_
  show jj_J z 4 6 [(0, .ref (ad_ z 0)), (1, .int a1), (2, .int a2)] [] (s2, t, o) _ _
  refine ji_goto (q := 12) am dl_turn_6 rfl ?_
  refine ji_iconst (q := 13) am dl_turn_12 ki_0 rfl ?_
  exact jq_ret am dl_turn_13
set_option maxHeartbeats 4000000 in
theorem ce_turn {v : wt_V} {s : wt_S} {a1 : Int32} {a2 : Int32} {k : Nat} (t : wt_M) (o : Nat → Int64) (hT : tk_turn a1 a2 k) : cw_C v yl_turn (Cond.codeWith yl_turn bl_turn 4 (some .int) [(0, 6, 9, 13)]) 25 [.ref (v.2.1 0), .int a1, .int a2] (nI k) (s, t, o) (s, t, o) := by
  rcases hT with ⟨hF, rfl⟩ | ⟨p0, hF, rfl⟩
  · refine cw_of (lv := [(0, .ref (v.2.1 0)), (1, .int a1), (2, .int a2)]) (by decide) (Nat.le_of_ble_eq_true rfl) rfl ?_
    intro z hz am we tab hR
    subst hz
    have am : wt_Am z R_L bl_turn 4 25 (some .int) := am
    refine ji_aload_n (q := 1) am dl_turn_0 rfl 0 rfl rfl ?_
    refine ji_iload_n (q := 2) am dl_turn_1 rfl 1 rfl rfl ?_
    refine ji_iload_n (q := 3) am dl_turn_2 rfl 2 rfl rfl ?_
    refine jq_V (rest := []) [.int a1, .int a2] am we hR ln_L_x_turn (cy_turn_0 _ _  hF) (by decide) (rc_X am) rfl rfl (Nat.le_of_ble_eq_true rfl) dl_turn_3 [] ⟨0, 6, 9, 13⟩ [] tab (fun e he => nomatch he) (by decide) (by decide) xl_O we.2.2.2.2.2.2.2.2.1 ?_
    intro q9 H locs ls hP hS hl
    refine lv_astore_n am.1 am.2.1 dl_turn_9 rfl hl (by decide) rfl (fun ls2 h2 => ?_)
    refine lv_iconst am.1 am.2.1 dl_turn_10 ki_1 ?_
    exact jq_end am (by decide) (by decide) hP hS dl_turn_11
  · refine cw_of (lv := [(0, .ref (v.2.1 0)), (1, .int a1), (2, .int a2)]) (by decide) (Nat.le_of_ble_eq_true rfl) rfl ?_
    intro z hz am we tab hR
    subst hz
    have am : wt_Am z R_L bl_turn 4 25 (some .int) := am
    refine ji_aload_n (q := 1) am dl_turn_0 rfl 0 rfl rfl ?_
    refine ji_iload_n (q := 2) am dl_turn_1 rfl 1 rfl rfl ?_
    refine ji_iload_n (q := 3) am dl_turn_2 rfl 2 rfl rfl ?_
    refine jq_V (rest := []) [.int a1, .int a2] am we hR ln_L_x_turn (cy_turn_1 _ _ p0 hF) (by decide) (rc_X am) rfl rfl (Nat.le_of_ble_eq_true rfl) dl_turn_3 [] ⟨0, 6, 9, 13⟩ [] tab (fun e he => nomatch he) (by decide) (by decide) xl_O we.2.2.2.2.2.2.2.2.1 ?_
    intro q9 H locs ls hP hS hl
    refine lv_astore_n am.1 am.2.1 dl_turn_9 rfl hl (by decide) rfl (fun ls2 h2 => ?_)
    refine lv_iconst am.1 am.2.1 dl_turn_10 ki_1 ?_
    exact jq_end am (by decide) (by decide) hP hS dl_turn_11
theorem dl_truth_0 : decode bl_truth 0 = .ok (.aload_n 3, 1) := by decide +kernel
theorem dl_truth_1 : decode bl_truth 1 = .ok (.iconst 0, 1) := by decide +kernel
theorem dl_truth_2 : decode bl_truth 2 = .ok (.aload_n 0, 1) := by decide +kernel
theorem dl_truth_3 : decode bl_truth 3 = .ok (.iload_n 1, 1) := by decide +kernel
theorem dl_truth_4 : decode bl_truth 4 = .ok (.iload_n 2, 1) := by decide +kernel
theorem dl_truth_5 : decode bl_truth 5 = .ok (.invokevirtual 44, 3) := by decide +kernel
theorem dl_truth_8 : decode bl_truth 8 = .ok (.ifCond .eq 7, 3) := by decide +kernel
theorem dl_truth_11 : decode bl_truth 11 = .ok (.lconst 1, 1) := by decide +kernel
theorem dl_truth_12 : decode bl_truth 12 = .ok (.goto 4, 3) := by decide +kernel
theorem dl_truth_15 : decode bl_truth 15 = .ok (.lconst 0, 1) := by decide +kernel
theorem dl_truth_16 : decode bl_truth 16 = .ok (.lastore, 1) := by decide +kernel
theorem dl_truth_17 : decode bl_truth 17 = .ok (.goto 11, 3) := by decide +kernel
theorem dl_truth_20 : decode bl_truth 20 = .ok (.astore 4, 2) := by decide +kernel
theorem dl_truth_22 : decode bl_truth 22 = .ok (.iconst 1, 1) := by decide +kernel
theorem dl_truth_23 : decode bl_truth 23 = .ok (.ireturn, 1) := by decide +kernel
theorem dl_truth_24 : decode bl_truth 24 = .ok (.astore 4, 2) := by decide +kernel
theorem dl_truth_26 : decode bl_truth 26 = .ok (.iconst 2, 1) := by decide +kernel
theorem dl_truth_27 : decode bl_truth 27 = .ok (.ireturn, 1) := by decide +kernel
theorem dl_truth_28 : decode bl_truth 28 = .ok (.iconst 0, 1) := by decide +kernel
theorem dl_truth_29 : decode bl_truth 29 = .ok (.ireturn, 1) := by decide +kernel
set_option maxHeartbeats 4000000 in
theorem cl_truth {v : wt_V} {s : wt_S} {a1 : Int32} {a2 : Int32} {r : Int32} (t : wt_M) (o : Nat → Int64) (hF : fx_truth s a1 a2 = some r) : cw_C v yl_truth (Cond.codeWith yl_truth bl_truth 5 (some .int) [(0, 17, 20, 13), (0, 17, 24, 23)]) 25 [.ref (v.2.1 0), .int a1, .int a2, .ref (v.2.1 21)] 0 (s, t, o) (s, t, vp_updL o 0 (if r = 0 then 0 else 1)) := by
  by_cases c : r = 0
  · rw [if_pos c]
    refine cw_of (lv := [(0, .ref (v.2.1 0)), (1, .int a1), (2, .int a2), (3, .ref (v.2.1 21))]) (by decide) (Nat.le_of_ble_eq_true rfl) rfl ?_
    intro z hz am we tab hR
    subst hz
    have am : wt_Am z R_L bl_truth 5 25 (some .int) := am
    refine ji_aload_n (q := 1) am dl_truth_0 rfl 3 rfl rfl ?_
    refine ji_iconst (q := 2) am dl_truth_1 ki_0 rfl ?_
    refine ji_aload_n (q := 3) am dl_truth_2 rfl 0 rfl rfl ?_
    refine ji_iload_n (q := 4) am dl_truth_3 rfl 1 rfl rfl ?_
    refine ji_iload_n (q := 5) am dl_truth_4 rfl 2 rfl rfl ?_
    refine jr_J (ret := (some (.int r))) (rest := [.int (0 : Int32), .ref (ad_ z 21)]) (jr_V [.int a1, .int a2] am ln_L_x_truth (ctx_truth _ _ hF) (by decide) (rc_X am) rfl rfl (Nat.le_of_ble_eq_true rfl) dl_truth_5) ?_
    show jj_J z 5 8 [(0, .ref (ad_ z 0)), (1, .int a1), (2, .int a2), (3, .ref (ad_ z 21))] [.int r, .int (0 : Int32), .ref (ad_ z 21)] (s, t, o) _ _
    rw [show (some () : Option Unit) = if r = 0 then some () else none from (if_pos c).symm]
    refine ji_if_eq (q := 11) (g := 15) am dl_truth_8 rfl rfl ?_ ji_none
    refine ji_lconst (q := 16) am dl_truth_15 kl_0 rfl ?_
    refine ji_ast_out (q := 17) am dl_truth_16 rfl ?_
    refine ji_goto (q := 28) am dl_truth_17 rfl ?_
    refine ji_iconst (q := 29) am dl_truth_28 ki_0 rfl ?_
    exact jq_ret am dl_truth_29
  · rw [if_neg c]
    refine cw_of (lv := [(0, .ref (v.2.1 0)), (1, .int a1), (2, .int a2), (3, .ref (v.2.1 21))]) (by decide) (Nat.le_of_ble_eq_true rfl) rfl ?_
    intro z hz am we tab hR
    subst hz
    have am : wt_Am z R_L bl_truth 5 25 (some .int) := am
    refine ji_aload_n (q := 1) am dl_truth_0 rfl 3 rfl rfl ?_
    refine ji_iconst (q := 2) am dl_truth_1 ki_0 rfl ?_
    refine ji_aload_n (q := 3) am dl_truth_2 rfl 0 rfl rfl ?_
    refine ji_iload_n (q := 4) am dl_truth_3 rfl 1 rfl rfl ?_
    refine ji_iload_n (q := 5) am dl_truth_4 rfl 2 rfl rfl ?_
    refine jr_J (ret := (some (.int r))) (rest := [.int (0 : Int32), .ref (ad_ z 21)]) (jr_V [.int a1, .int a2] am ln_L_x_truth (ctx_truth _ _ hF) (by decide) (rc_X am) rfl rfl (Nat.le_of_ble_eq_true rfl) dl_truth_5) ?_
    show jj_J z 5 8 [(0, .ref (ad_ z 0)), (1, .int a1), (2, .int a2), (3, .ref (ad_ z 21))] [.int r, .int (0 : Int32), .ref (ad_ z 21)] (s, t, o) _ _
    rw [show (some () : Option Unit) = if r = 0 then none else some () from (if_neg c).symm]
    refine ji_if_eq (q := 11) (g := 15) am dl_truth_8 rfl rfl ji_none ?_
    refine ji_lconst (q := 12) am dl_truth_11 kl_1 rfl ?_
    refine ji_goto (q := 16) am dl_truth_12 rfl ?_
    refine ji_ast_out (q := 17) am dl_truth_16 rfl ?_
    refine ji_goto (q := 28) am dl_truth_17 rfl ?_
    refine ji_iconst (q := 29) am dl_truth_28 ki_0 rfl ?_
    exact jq_ret am dl_truth_29
set_option maxHeartbeats 4000000 in
theorem ce_truth {v : wt_V} {s : wt_S} {a1 : Int32} {a2 : Int32} {k : Nat} (t : wt_M) (o : Nat → Int64) (hT : tk_truth a1 a2 k) : cw_C v yl_truth (Cond.codeWith yl_truth bl_truth 5 (some .int) [(0, 17, 20, 13), (0, 17, 24, 23)]) 25 [.ref (v.2.1 0), .int a1, .int a2, .ref (v.2.1 21)] (nI k) (s, t, o) (s, t, o) := by
  rcases hT with ⟨hF, rfl⟩ | ⟨p0, hF, rfl⟩
  · refine cw_of (lv := [(0, .ref (v.2.1 0)), (1, .int a1), (2, .int a2), (3, .ref (v.2.1 21))]) (by decide) (Nat.le_of_ble_eq_true rfl) rfl ?_
    intro z hz am we tab hR
    subst hz
    have am : wt_Am z R_L bl_truth 5 25 (some .int) := am
    refine ji_aload_n (q := 1) am dl_truth_0 rfl 3 rfl rfl ?_
    refine ji_iconst (q := 2) am dl_truth_1 ki_0 rfl ?_
    refine ji_aload_n (q := 3) am dl_truth_2 rfl 0 rfl rfl ?_
    refine ji_iload_n (q := 4) am dl_truth_3 rfl 1 rfl rfl ?_
    refine ji_iload_n (q := 5) am dl_truth_4 rfl 2 rfl rfl ?_
    refine jq_V (rest := [.int (0 : Int32), .ref (ad_ z 21)]) [.int a1, .int a2] am we hR ln_L_x_truth (cy_truth_0 _ _  hF) (by decide) (rc_X am) rfl rfl (Nat.le_of_ble_eq_true rfl) dl_truth_5 [] ⟨0, 17, 20, 13⟩ [⟨0, 17, 24, 23⟩] tab (fun e he => nomatch he) (by decide) (by decide) xl_O we.2.2.2.2.2.2.2.2.1 ?_
    intro q9 H locs ls hP hS hl
    refine lv_astore am.1 am.2.1 dl_truth_20 hl (by decide) rfl (fun ls2 h2 => ?_)
    refine lv_iconst am.1 am.2.1 dl_truth_22 ki_1 ?_
    exact jq_end am (by decide) (by decide) hP hS dl_truth_23
  · refine cw_of (lv := [(0, .ref (v.2.1 0)), (1, .int a1), (2, .int a2), (3, .ref (v.2.1 21))]) (by decide) (Nat.le_of_ble_eq_true rfl) rfl ?_
    intro z hz am we tab hR
    subst hz
    have am : wt_Am z R_L bl_truth 5 25 (some .int) := am
    refine ji_aload_n (q := 1) am dl_truth_0 rfl 3 rfl rfl ?_
    refine ji_iconst (q := 2) am dl_truth_1 ki_0 rfl ?_
    refine ji_aload_n (q := 3) am dl_truth_2 rfl 0 rfl rfl ?_
    refine ji_iload_n (q := 4) am dl_truth_3 rfl 1 rfl rfl ?_
    refine ji_iload_n (q := 5) am dl_truth_4 rfl 2 rfl rfl ?_
    refine jq_V (rest := [.int (0 : Int32), .ref (ad_ z 21)]) [.int a1, .int a2] am we hR ln_L_x_truth (cy_truth_1 _ _ p0 hF) (by decide) (rc_X am) rfl rfl (Nat.le_of_ble_eq_true rfl) dl_truth_5 [⟨0, 17, 20, 13⟩] ⟨0, 17, 24, 23⟩ [] tab (by
        intro e he
        obtain rfl := List.mem_singleton.mp he
        exact Or.inr ⟨by decide, E_O, xl_O, we.2.2.2.2.2.2.2.2.2.2.2.1⟩) (by decide) (by decide) xl_A we.2.2.2.2.2.2.2.2.2.1 ?_
    intro q9 H locs ls hP hS hl
    refine lv_astore am.1 am.2.1 dl_truth_24 hl (by decide) rfl (fun ls2 h2 => ?_)
    refine lv_iconst am.1 am.2.1 dl_truth_26 ki_2 ?_
    exact jq_end am (by decide) (by decide) hP hS dl_truth_27
theorem dl_same_0 : decode bl_same 0 = .ok (.aload_n 3, 1) := by decide +kernel
theorem dl_same_1 : decode bl_same 1 = .ok (.iconst 0, 1) := by decide +kernel
theorem dl_same_2 : decode bl_same 2 = .ok (.aload_n 0, 1) := by decide +kernel
theorem dl_same_3 : decode bl_same 3 = .ok (.iload_n 1, 1) := by decide +kernel
theorem dl_same_4 : decode bl_same 4 = .ok (.iload_n 2, 1) := by decide +kernel
theorem dl_same_5 : decode bl_same 5 = .ok (.invokevirtual 48, 3) := by decide +kernel
theorem dl_same_8 : decode bl_same 8 = .ok (.ifCond .eq 7, 3) := by decide +kernel
theorem dl_same_11 : decode bl_same 11 = .ok (.lconst 1, 1) := by decide +kernel
theorem dl_same_12 : decode bl_same 12 = .ok (.goto 4, 3) := by decide +kernel
theorem dl_same_15 : decode bl_same 15 = .ok (.lconst 0, 1) := by decide +kernel
theorem dl_same_16 : decode bl_same 16 = .ok (.lastore, 1) := by decide +kernel
theorem dl_same_17 : decode bl_same 17 = .ok (.goto 7, 3) := by decide +kernel
theorem dl_same_20 : decode bl_same 20 = .ok (.astore 4, 2) := by decide +kernel
theorem dl_same_22 : decode bl_same 22 = .ok (.iconst 1, 1) := by decide +kernel
theorem dl_same_23 : decode bl_same 23 = .ok (.ireturn, 1) := by decide +kernel
theorem dl_same_24 : decode bl_same 24 = .ok (.iconst 0, 1) := by decide +kernel
theorem dl_same_25 : decode bl_same 25 = .ok (.ireturn, 1) := by decide +kernel
set_option maxHeartbeats 4000000 in
theorem cl_same {v : wt_V} {s : wt_S} {a1 : Int32} {a2 : Int32} {r : Int32} (t : wt_M) (o : Nat → Int64) (hF : fx_same s a1 a2 = some r) : cw_C v yl_same (Cond.codeWith yl_same bl_same 5 (some .int) [(0, 17, 20, 13)]) 25 [.ref (v.2.1 0), .int a1, .int a2, .ref (v.2.1 21)] 0 (s, t, o) (s, t, vp_updL o 0 (if r = 0 then 0 else 1)) := by
  by_cases c : r = 0
  · rw [if_pos c]
    refine cw_of (lv := [(0, .ref (v.2.1 0)), (1, .int a1), (2, .int a2), (3, .ref (v.2.1 21))]) (by decide) (Nat.le_of_ble_eq_true rfl) rfl ?_
    intro z hz am we tab hR
    subst hz
    have am : wt_Am z R_L bl_same 5 25 (some .int) := am
    refine ji_aload_n (q := 1) am dl_same_0 rfl 3 rfl rfl ?_
    refine ji_iconst (q := 2) am dl_same_1 ki_0 rfl ?_
    refine ji_aload_n (q := 3) am dl_same_2 rfl 0 rfl rfl ?_
    refine ji_iload_n (q := 4) am dl_same_3 rfl 1 rfl rfl ?_
    refine ji_iload_n (q := 5) am dl_same_4 rfl 2 rfl rfl ?_
    refine jr_J (ret := (some (.int r))) (rest := [.int (0 : Int32), .ref (ad_ z 21)]) (jr_V [.int a1, .int a2] am ln_L_x_same (ctx_same _ _ hF) (by decide) (rc_X am) rfl rfl (Nat.le_of_ble_eq_true rfl) dl_same_5) ?_
    show jj_J z 5 8 [(0, .ref (ad_ z 0)), (1, .int a1), (2, .int a2), (3, .ref (ad_ z 21))] [.int r, .int (0 : Int32), .ref (ad_ z 21)] (s, t, o) _ _
    rw [show (some () : Option Unit) = if r = 0 then some () else none from (if_pos c).symm]
    refine ji_if_eq (q := 11) (g := 15) am dl_same_8 rfl rfl ?_ ji_none
    refine ji_lconst (q := 16) am dl_same_15 kl_0 rfl ?_
    refine ji_ast_out (q := 17) am dl_same_16 rfl ?_
    refine ji_goto (q := 24) am dl_same_17 rfl ?_
    refine ji_iconst (q := 25) am dl_same_24 ki_0 rfl ?_
    exact jq_ret am dl_same_25
  · rw [if_neg c]
    refine cw_of (lv := [(0, .ref (v.2.1 0)), (1, .int a1), (2, .int a2), (3, .ref (v.2.1 21))]) (by decide) (Nat.le_of_ble_eq_true rfl) rfl ?_
    intro z hz am we tab hR
    subst hz
    have am : wt_Am z R_L bl_same 5 25 (some .int) := am
    refine ji_aload_n (q := 1) am dl_same_0 rfl 3 rfl rfl ?_
    refine ji_iconst (q := 2) am dl_same_1 ki_0 rfl ?_
    refine ji_aload_n (q := 3) am dl_same_2 rfl 0 rfl rfl ?_
    refine ji_iload_n (q := 4) am dl_same_3 rfl 1 rfl rfl ?_
    refine ji_iload_n (q := 5) am dl_same_4 rfl 2 rfl rfl ?_
    refine jr_J (ret := (some (.int r))) (rest := [.int (0 : Int32), .ref (ad_ z 21)]) (jr_V [.int a1, .int a2] am ln_L_x_same (ctx_same _ _ hF) (by decide) (rc_X am) rfl rfl (Nat.le_of_ble_eq_true rfl) dl_same_5) ?_
    show jj_J z 5 8 [(0, .ref (ad_ z 0)), (1, .int a1), (2, .int a2), (3, .ref (ad_ z 21))] [.int r, .int (0 : Int32), .ref (ad_ z 21)] (s, t, o) _ _
    rw [show (some () : Option Unit) = if r = 0 then none else some () from (if_neg c).symm]
    refine ji_if_eq (q := 11) (g := 15) am dl_same_8 rfl rfl ji_none ?_
    refine ji_lconst (q := 12) am dl_same_11 kl_1 rfl ?_
    refine ji_goto (q := 16) am dl_same_12 rfl ?_
    refine ji_ast_out (q := 17) am dl_same_16 rfl ?_
    refine ji_goto (q := 24) am dl_same_17 rfl ?_
    refine ji_iconst (q := 25) am dl_same_24 ki_0 rfl ?_
    exact jq_ret am dl_same_25
set_option maxHeartbeats 4000000 in
theorem ce_same {v : wt_V} {s : wt_S} {a1 : Int32} {a2 : Int32} {k : Nat} (t : wt_M) (o : Nat → Int64) (hT : tk_same a1 a2 k) : cw_C v yl_same (Cond.codeWith yl_same bl_same 5 (some .int) [(0, 17, 20, 13)]) 25 [.ref (v.2.1 0), .int a1, .int a2, .ref (v.2.1 21)] (nI k) (s, t, o) (s, t, o) := by
  rcases hT with ⟨hF, rfl⟩ | ⟨p0, hF, rfl⟩
  · refine cw_of (lv := [(0, .ref (v.2.1 0)), (1, .int a1), (2, .int a2), (3, .ref (v.2.1 21))]) (by decide) (Nat.le_of_ble_eq_true rfl) rfl ?_
    intro z hz am we tab hR
    subst hz
    have am : wt_Am z R_L bl_same 5 25 (some .int) := am
    refine ji_aload_n (q := 1) am dl_same_0 rfl 3 rfl rfl ?_
    refine ji_iconst (q := 2) am dl_same_1 ki_0 rfl ?_
    refine ji_aload_n (q := 3) am dl_same_2 rfl 0 rfl rfl ?_
    refine ji_iload_n (q := 4) am dl_same_3 rfl 1 rfl rfl ?_
    refine ji_iload_n (q := 5) am dl_same_4 rfl 2 rfl rfl ?_
    refine jq_V (rest := [.int (0 : Int32), .ref (ad_ z 21)]) [.int a1, .int a2] am we hR ln_L_x_same (cy_same_0 _ _  hF) (by decide) (rc_X am) rfl rfl (Nat.le_of_ble_eq_true rfl) dl_same_5 [] ⟨0, 17, 20, 13⟩ [] tab (fun e he => nomatch he) (by decide) (by decide) xl_O we.2.2.2.2.2.2.2.2.1 ?_
    intro q9 H locs ls hP hS hl
    refine lv_astore am.1 am.2.1 dl_same_20 hl (by decide) rfl (fun ls2 h2 => ?_)
    refine lv_iconst am.1 am.2.1 dl_same_22 ki_1 ?_
    exact jq_end am (by decide) (by decide) hP hS dl_same_23
  · refine cw_of (lv := [(0, .ref (v.2.1 0)), (1, .int a1), (2, .int a2), (3, .ref (v.2.1 21))]) (by decide) (Nat.le_of_ble_eq_true rfl) rfl ?_
    intro z hz am we tab hR
    subst hz
    have am : wt_Am z R_L bl_same 5 25 (some .int) := am
    refine ji_aload_n (q := 1) am dl_same_0 rfl 3 rfl rfl ?_
    refine ji_iconst (q := 2) am dl_same_1 ki_0 rfl ?_
    refine ji_aload_n (q := 3) am dl_same_2 rfl 0 rfl rfl ?_
    refine ji_iload_n (q := 4) am dl_same_3 rfl 1 rfl rfl ?_
    refine ji_iload_n (q := 5) am dl_same_4 rfl 2 rfl rfl ?_
    refine jq_V (rest := [.int (0 : Int32), .ref (ad_ z 21)]) [.int a1, .int a2] am we hR ln_L_x_same (cy_same_1 _ _ p0 hF) (by decide) (rc_X am) rfl rfl (Nat.le_of_ble_eq_true rfl) dl_same_5 [] ⟨0, 17, 20, 13⟩ [] tab (fun e he => nomatch he) (by decide) (by decide) xl_O we.2.2.2.2.2.2.2.2.1 ?_
    intro q9 H locs ls hP hS hl
    refine lv_astore am.1 am.2.1 dl_same_20 hl (by decide) rfl (fun ls2 h2 => ?_)
    refine lv_iconst am.1 am.2.1 dl_same_22 ki_1 ?_
    exact jq_end am (by decide) (by decide) hP hS dl_same_23
theorem dl_count_0 : decode bl_count 0 = .ok (.aload_n 2, 1) := by decide +kernel
theorem dl_count_1 : decode bl_count 1 = .ok (.iconst 0, 1) := by decide +kernel
theorem dl_count_2 : decode bl_count 2 = .ok (.aload_n 0, 1) := by decide +kernel
theorem dl_count_3 : decode bl_count 3 = .ok (.iload_n 1, 1) := by decide +kernel
theorem dl_count_4 : decode bl_count 4 = .ok (.invokevirtual 51, 3) := by decide +kernel
theorem dl_count_7 : decode bl_count 7 = .ok (.i2l, 1) := by decide +kernel
theorem dl_count_8 : decode bl_count 8 = .ok (.lastore, 1) := by decide +kernel
theorem dl_count_9 : decode bl_count 9 = .ok (.goto 6, 3) := by decide +kernel
theorem dl_count_12 : decode bl_count 12 = .ok (.astore_n 3, 1) := by decide +kernel
theorem dl_count_13 : decode bl_count 13 = .ok (.iconst 1, 1) := by decide +kernel
theorem dl_count_14 : decode bl_count 14 = .ok (.ireturn, 1) := by decide +kernel
theorem dl_count_15 : decode bl_count 15 = .ok (.iconst 0, 1) := by decide +kernel
theorem dl_count_16 : decode bl_count 16 = .ok (.ireturn, 1) := by decide +kernel
set_option maxHeartbeats 4000000 in
theorem cl_count {v : wt_V} {s : wt_S} {a1 : Int32} {r : Int32} (t : wt_M) (o : Nat → Int64) (hF : fx_count s a1 = some r) : cw_C v yl_count (Cond.codeWith yl_count bl_count 4 (some .int) [(0, 9, 12, 13)]) 25 [.ref (v.2.1 0), .int a1, .ref (v.2.1 21)] 0 (s, t, o) (s, t, vp_updL o 0 r.toInt64) := by
  refine cw_of (lv := [(0, .ref (v.2.1 0)), (1, .int a1), (2, .ref (v.2.1 21))]) (by decide) (Nat.le_of_ble_eq_true rfl) rfl ?_
  intro z hz am we tab hR
  subst hz
  have am : wt_Am z R_L bl_count 4 25 (some .int) := am
  refine ji_aload_n (q := 1) am dl_count_0 rfl 2 rfl rfl ?_
  refine ji_iconst (q := 2) am dl_count_1 ki_0 rfl ?_
  refine ji_aload_n (q := 3) am dl_count_2 rfl 0 rfl rfl ?_
  refine ji_iload_n (q := 4) am dl_count_3 rfl 1 rfl rfl ?_
  refine jr_J (ret := (some (.int r))) (rest := [.int (0 : Int32), .ref (ad_ z 21)]) (jr_V [.int a1] am ln_L_x_count (ctx_count _ _ hF) (by decide) (rc_X am) rfl rfl (Nat.le_of_ble_eq_true rfl) dl_count_4) ?_
  show jj_J z 4 7 [(0, .ref (ad_ z 0)), (1, .int a1), (2, .ref (ad_ z 21))] [.int r, .int (0 : Int32), .ref (ad_ z 21)] (s, t, o) _ _
  refine ji_i2l (q := 8) am dl_count_7 rfl ?_
  refine ji_ast_out (q := 9) am dl_count_8 rfl ?_
  refine ji_goto (q := 15) am dl_count_9 rfl ?_
  refine ji_iconst (q := 16) am dl_count_15 ki_0 rfl ?_
  exact jq_ret am dl_count_16
set_option maxHeartbeats 4000000 in
theorem ce_count {v : wt_V} {s : wt_S} {a1 : Int32} {k : Nat} (t : wt_M) (o : Nat → Int64) (hT : tk_count a1 k) : cw_C v yl_count (Cond.codeWith yl_count bl_count 4 (some .int) [(0, 9, 12, 13)]) 25 [.ref (v.2.1 0), .int a1, .ref (v.2.1 21)] (nI k) (s, t, o) (s, t, o) := by
  rcases hT with ⟨hF, rfl⟩
  · refine cw_of (lv := [(0, .ref (v.2.1 0)), (1, .int a1), (2, .ref (v.2.1 21))]) (by decide) (Nat.le_of_ble_eq_true rfl) rfl ?_
    intro z hz am we tab hR
    subst hz
    have am : wt_Am z R_L bl_count 4 25 (some .int) := am
    refine ji_aload_n (q := 1) am dl_count_0 rfl 2 rfl rfl ?_
    refine ji_iconst (q := 2) am dl_count_1 ki_0 rfl ?_
    refine ji_aload_n (q := 3) am dl_count_2 rfl 0 rfl rfl ?_
    refine ji_iload_n (q := 4) am dl_count_3 rfl 1 rfl rfl ?_
    refine jq_V (rest := [.int (0 : Int32), .ref (ad_ z 21)]) [.int a1] am we hR ln_L_x_count (cy_count_0 _ _  hF) (by decide) (rc_X am) rfl rfl (Nat.le_of_ble_eq_true rfl) dl_count_4 [] ⟨0, 9, 12, 13⟩ [] tab (fun e he => nomatch he) (by decide) (by decide) xl_O we.2.2.2.2.2.2.2.2.1 ?_
    intro q9 H locs ls hP hS hl
    refine lv_astore_n am.1 am.2.1 dl_count_12 rfl hl (by decide) rfl (fun ls2 h2 => ?_)
    refine lv_iconst am.1 am.2.1 dl_count_13 ki_1 ?_
    exact jq_end am (by decide) (by decide) hP hS dl_count_14
theorem dl_least_0 : decode bl_least 0 = .ok (.aload_n 2, 1) := by decide +kernel
theorem dl_least_1 : decode bl_least 1 = .ok (.iconst 0, 1) := by decide +kernel
theorem dl_least_2 : decode bl_least 2 = .ok (.aload_n 0, 1) := by decide +kernel
theorem dl_least_3 : decode bl_least 3 = .ok (.iload_n 1, 1) := by decide +kernel
theorem dl_least_4 : decode bl_least 4 = .ok (.invokevirtual 55, 3) := by decide +kernel
theorem dl_least_7 : decode bl_least 7 = .ok (.i2l, 1) := by decide +kernel
theorem dl_least_8 : decode bl_least 8 = .ok (.lastore, 1) := by decide +kernel
theorem dl_least_9 : decode bl_least 9 = .ok (.goto 6, 3) := by decide +kernel
theorem dl_least_12 : decode bl_least 12 = .ok (.astore_n 3, 1) := by decide +kernel
theorem dl_least_13 : decode bl_least 13 = .ok (.iconst 1, 1) := by decide +kernel
theorem dl_least_14 : decode bl_least 14 = .ok (.ireturn, 1) := by decide +kernel
theorem dl_least_15 : decode bl_least 15 = .ok (.iconst 0, 1) := by decide +kernel
theorem dl_least_16 : decode bl_least 16 = .ok (.ireturn, 1) := by decide +kernel
set_option maxHeartbeats 4000000 in
theorem cl_least {v : wt_V} {s : wt_S} {a1 : Int32} {r : Int32} (t : wt_M) (o : Nat → Int64) (hF : fx_least s a1 = some r) : cw_C v yl_least (Cond.codeWith yl_least bl_least 4 (some .int) [(0, 9, 12, 13)]) 25 [.ref (v.2.1 0), .int a1, .ref (v.2.1 21)] 0 (s, t, o) (s, t, vp_updL o 0 r.toInt64) := by
  refine cw_of (lv := [(0, .ref (v.2.1 0)), (1, .int a1), (2, .ref (v.2.1 21))]) (by decide) (Nat.le_of_ble_eq_true rfl) rfl ?_
  intro z hz am we tab hR
  subst hz
  have am : wt_Am z R_L bl_least 4 25 (some .int) := am
  refine ji_aload_n (q := 1) am dl_least_0 rfl 2 rfl rfl ?_
  refine ji_iconst (q := 2) am dl_least_1 ki_0 rfl ?_
  refine ji_aload_n (q := 3) am dl_least_2 rfl 0 rfl rfl ?_
  refine ji_iload_n (q := 4) am dl_least_3 rfl 1 rfl rfl ?_
  refine jr_J (ret := (some (.int r))) (rest := [.int (0 : Int32), .ref (ad_ z 21)]) (jr_V [.int a1] am ln_L_x_least (ctx_least _ _ hF) (by decide) (rc_X am) rfl rfl (Nat.le_of_ble_eq_true rfl) dl_least_4) ?_
  show jj_J z 4 7 [(0, .ref (ad_ z 0)), (1, .int a1), (2, .ref (ad_ z 21))] [.int r, .int (0 : Int32), .ref (ad_ z 21)] (s, t, o) _ _
  refine ji_i2l (q := 8) am dl_least_7 rfl ?_
  refine ji_ast_out (q := 9) am dl_least_8 rfl ?_
  refine ji_goto (q := 15) am dl_least_9 rfl ?_
  refine ji_iconst (q := 16) am dl_least_15 ki_0 rfl ?_
  exact jq_ret am dl_least_16
set_option maxHeartbeats 4000000 in
theorem ce_least {v : wt_V} {s : wt_S} {a1 : Int32} {k : Nat} (t : wt_M) (o : Nat → Int64) (hT : tk_least a1 k) : cw_C v yl_least (Cond.codeWith yl_least bl_least 4 (some .int) [(0, 9, 12, 13)]) 25 [.ref (v.2.1 0), .int a1, .ref (v.2.1 21)] (nI k) (s, t, o) (s, t, o) := by
  rcases hT with ⟨hF, rfl⟩
  · refine cw_of (lv := [(0, .ref (v.2.1 0)), (1, .int a1), (2, .ref (v.2.1 21))]) (by decide) (Nat.le_of_ble_eq_true rfl) rfl ?_
    intro z hz am we tab hR
    subst hz
    have am : wt_Am z R_L bl_least 4 25 (some .int) := am
    refine ji_aload_n (q := 1) am dl_least_0 rfl 2 rfl rfl ?_
    refine ji_iconst (q := 2) am dl_least_1 ki_0 rfl ?_
    refine ji_aload_n (q := 3) am dl_least_2 rfl 0 rfl rfl ?_
    refine ji_iload_n (q := 4) am dl_least_3 rfl 1 rfl rfl ?_
    refine jq_V (rest := [.int (0 : Int32), .ref (ad_ z 21)]) [.int a1] am we hR ln_L_x_least (cy_least_0 _ _  hF) (by decide) (rc_X am) rfl rfl (Nat.le_of_ble_eq_true rfl) dl_least_4 [] ⟨0, 9, 12, 13⟩ [] tab (fun e he => nomatch he) (by decide) (by decide) xl_O we.2.2.2.2.2.2.2.2.1 ?_
    intro q9 H locs ls hP hS hl
    refine lv_astore_n am.1 am.2.1 dl_least_12 rfl hl (by decide) rfl (fun ls2 h2 => ?_)
    refine lv_iconst am.1 am.2.1 dl_least_13 ki_1 ?_
    exact jq_end am (by decide) (by decide) hP hS dl_least_14
theorem dl_depends_0 : decode bl_depends 0 = .ok (.aload_n 2, 1) := by decide +kernel
theorem dl_depends_1 : decode bl_depends 1 = .ok (.iconst 0, 1) := by decide +kernel
theorem dl_depends_2 : decode bl_depends 2 = .ok (.aload_n 0, 1) := by decide +kernel
theorem dl_depends_3 : decode bl_depends 3 = .ok (.iload_n 1, 1) := by decide +kernel
theorem dl_depends_4 : decode bl_depends 4 = .ok (.invokevirtual 58, 3) := by decide +kernel
theorem dl_depends_7 : decode bl_depends 7 = .ok (.i2l, 1) := by decide +kernel
theorem dl_depends_8 : decode bl_depends 8 = .ok (.lastore, 1) := by decide +kernel
theorem dl_depends_9 : decode bl_depends 9 = .ok (.goto 6, 3) := by decide +kernel
theorem dl_depends_12 : decode bl_depends 12 = .ok (.astore_n 3, 1) := by decide +kernel
theorem dl_depends_13 : decode bl_depends 13 = .ok (.iconst 1, 1) := by decide +kernel
theorem dl_depends_14 : decode bl_depends 14 = .ok (.ireturn, 1) := by decide +kernel
theorem dl_depends_15 : decode bl_depends 15 = .ok (.iconst 0, 1) := by decide +kernel
theorem dl_depends_16 : decode bl_depends 16 = .ok (.ireturn, 1) := by decide +kernel
set_option maxHeartbeats 4000000 in
theorem cl_depends {v : wt_V} {s : wt_S} {a1 : Int32} {r : Int32} (t : wt_M) (o : Nat → Int64) (hF : fx_depends s a1 = some r) : cw_C v yl_depends (Cond.codeWith yl_depends bl_depends 4 (some .int) [(0, 9, 12, 13)]) 25 [.ref (v.2.1 0), .int a1, .ref (v.2.1 21)] 0 (s, t, o) (s, t, vp_updL o 0 r.toInt64) := by
  refine cw_of (lv := [(0, .ref (v.2.1 0)), (1, .int a1), (2, .ref (v.2.1 21))]) (by decide) (Nat.le_of_ble_eq_true rfl) rfl ?_
  intro z hz am we tab hR
  subst hz
  have am : wt_Am z R_L bl_depends 4 25 (some .int) := am
  refine ji_aload_n (q := 1) am dl_depends_0 rfl 2 rfl rfl ?_
  refine ji_iconst (q := 2) am dl_depends_1 ki_0 rfl ?_
  refine ji_aload_n (q := 3) am dl_depends_2 rfl 0 rfl rfl ?_
  refine ji_iload_n (q := 4) am dl_depends_3 rfl 1 rfl rfl ?_
  refine jr_J (ret := (some (.int r))) (rest := [.int (0 : Int32), .ref (ad_ z 21)]) (jr_V [.int a1] am ln_L_x_depends (ctx_depends _ _ hF) (by decide) (rc_X am) rfl rfl (Nat.le_of_ble_eq_true rfl) dl_depends_4) ?_
  show jj_J z 4 7 [(0, .ref (ad_ z 0)), (1, .int a1), (2, .ref (ad_ z 21))] [.int r, .int (0 : Int32), .ref (ad_ z 21)] (s, t, o) _ _
  refine ji_i2l (q := 8) am dl_depends_7 rfl ?_
  refine ji_ast_out (q := 9) am dl_depends_8 rfl ?_
  refine ji_goto (q := 15) am dl_depends_9 rfl ?_
  refine ji_iconst (q := 16) am dl_depends_15 ki_0 rfl ?_
  exact jq_ret am dl_depends_16
set_option maxHeartbeats 4000000 in
theorem ce_depends {v : wt_V} {s : wt_S} {a1 : Int32} {k : Nat} (t : wt_M) (o : Nat → Int64) (hT : tk_depends a1 k) : cw_C v yl_depends (Cond.codeWith yl_depends bl_depends 4 (some .int) [(0, 9, 12, 13)]) 25 [.ref (v.2.1 0), .int a1, .ref (v.2.1 21)] (nI k) (s, t, o) (s, t, o) := by
  rcases hT with ⟨hF, rfl⟩
  · refine cw_of (lv := [(0, .ref (v.2.1 0)), (1, .int a1), (2, .ref (v.2.1 21))]) (by decide) (Nat.le_of_ble_eq_true rfl) rfl ?_
    intro z hz am we tab hR
    subst hz
    have am : wt_Am z R_L bl_depends 4 25 (some .int) := am
    refine ji_aload_n (q := 1) am dl_depends_0 rfl 2 rfl rfl ?_
    refine ji_iconst (q := 2) am dl_depends_1 ki_0 rfl ?_
    refine ji_aload_n (q := 3) am dl_depends_2 rfl 0 rfl rfl ?_
    refine ji_iload_n (q := 4) am dl_depends_3 rfl 1 rfl rfl ?_
    refine jq_V (rest := [.int (0 : Int32), .ref (ad_ z 21)]) [.int a1] am we hR ln_L_x_depends (cy_depends_0 _ _  hF) (by decide) (rc_X am) rfl rfl (Nat.le_of_ble_eq_true rfl) dl_depends_4 [] ⟨0, 9, 12, 13⟩ [] tab (fun e he => nomatch he) (by decide) (by decide) xl_O we.2.2.2.2.2.2.2.2.1 ?_
    intro q9 H locs ls hP hS hl
    refine lv_astore_n am.1 am.2.1 dl_depends_12 rfl hl (by decide) rfl (fun ls2 h2 => ?_)
    refine lv_iconst am.1 am.2.1 dl_depends_13 ki_1 ?_
    exact jq_end am (by decide) (by decide) hP hS dl_depends_14
theorem dl_nodes_0 : decode bl_nodes 0 = .ok (.aload_n 2, 1) := by decide +kernel
theorem dl_nodes_1 : decode bl_nodes 1 = .ok (.iconst 0, 1) := by decide +kernel
theorem dl_nodes_2 : decode bl_nodes 2 = .ok (.aload_n 0, 1) := by decide +kernel
theorem dl_nodes_3 : decode bl_nodes 3 = .ok (.iload_n 1, 1) := by decide +kernel
theorem dl_nodes_4 : decode bl_nodes 4 = .ok (.invokevirtual 61, 3) := by decide +kernel
theorem dl_nodes_7 : decode bl_nodes 7 = .ok (.i2l, 1) := by decide +kernel
theorem dl_nodes_8 : decode bl_nodes 8 = .ok (.lastore, 1) := by decide +kernel
theorem dl_nodes_9 : decode bl_nodes 9 = .ok (.goto 6, 3) := by decide +kernel
theorem dl_nodes_12 : decode bl_nodes 12 = .ok (.astore_n 3, 1) := by decide +kernel
theorem dl_nodes_13 : decode bl_nodes 13 = .ok (.iconst 1, 1) := by decide +kernel
theorem dl_nodes_14 : decode bl_nodes 14 = .ok (.ireturn, 1) := by decide +kernel
theorem dl_nodes_15 : decode bl_nodes 15 = .ok (.iconst 0, 1) := by decide +kernel
theorem dl_nodes_16 : decode bl_nodes 16 = .ok (.ireturn, 1) := by decide +kernel
set_option maxHeartbeats 4000000 in
theorem cl_nodes {v : wt_V} {s : wt_S} {a1 : Int32} {r : Int32} {s2 : wt_S} (t : wt_M) (o : Nat → Int64) (hF : fx_nodes s a1 = some (r, s2)) : cw_C v yl_nodes (Cond.codeWith yl_nodes bl_nodes 4 (some .int) [(0, 9, 12, 13)]) 25 [.ref (v.2.1 0), .int a1, .ref (v.2.1 21)] 0 (s, t, o) (s2, t, vp_updL o 0 r.toInt64) := by
  refine cw_of (lv := [(0, .ref (v.2.1 0)), (1, .int a1), (2, .ref (v.2.1 21))]) (by decide) (Nat.le_of_ble_eq_true rfl) rfl ?_
  intro z hz am we tab hR
  subst hz
  have am : wt_Am z R_L bl_nodes 4 25 (some .int) := am
  refine ji_aload_n (q := 1) am dl_nodes_0 rfl 2 rfl rfl ?_
  refine ji_iconst (q := 2) am dl_nodes_1 ki_0 rfl ?_
  refine ji_aload_n (q := 3) am dl_nodes_2 rfl 0 rfl rfl ?_
  refine ji_iload_n (q := 4) am dl_nodes_3 rfl 1 rfl rfl ?_
  refine jr_J (ret := (some (.int r))) (rest := [.int (0 : Int32), .ref (ad_ z 21)]) (jr_V [.int a1] am ln_L_x_nodes (ctx_nodes _ _ hF) (by decide) (rc_X am) rfl rfl (Nat.le_of_ble_eq_true rfl) dl_nodes_4) ?_
  show jj_J z 4 7 [(0, .ref (ad_ z 0)), (1, .int a1), (2, .ref (ad_ z 21))] [.int r, .int (0 : Int32), .ref (ad_ z 21)] (s2, t, o) _ _
  refine ji_i2l (q := 8) am dl_nodes_7 rfl ?_
  refine ji_ast_out (q := 9) am dl_nodes_8 rfl ?_
  refine ji_goto (q := 15) am dl_nodes_9 rfl ?_
  refine ji_iconst (q := 16) am dl_nodes_15 ki_0 rfl ?_
  exact jq_ret am dl_nodes_16
set_option maxHeartbeats 4000000 in
theorem ce_nodes {v : wt_V} {s : wt_S} {a1 : Int32} {k : Nat} (t : wt_M) (o : Nat → Int64) (hT : tk_nodes a1 k) : cw_C v yl_nodes (Cond.codeWith yl_nodes bl_nodes 4 (some .int) [(0, 9, 12, 13)]) 25 [.ref (v.2.1 0), .int a1, .ref (v.2.1 21)] (nI k) (s, t, o) (s, t, o) := by
  rcases hT with ⟨hF, rfl⟩
  · refine cw_of (lv := [(0, .ref (v.2.1 0)), (1, .int a1), (2, .ref (v.2.1 21))]) (by decide) (Nat.le_of_ble_eq_true rfl) rfl ?_
    intro z hz am we tab hR
    subst hz
    have am : wt_Am z R_L bl_nodes 4 25 (some .int) := am
    refine ji_aload_n (q := 1) am dl_nodes_0 rfl 2 rfl rfl ?_
    refine ji_iconst (q := 2) am dl_nodes_1 ki_0 rfl ?_
    refine ji_aload_n (q := 3) am dl_nodes_2 rfl 0 rfl rfl ?_
    refine ji_iload_n (q := 4) am dl_nodes_3 rfl 1 rfl rfl ?_
    refine jq_V (rest := [.int (0 : Int32), .ref (ad_ z 21)]) [.int a1] am we hR ln_L_x_nodes (cy_nodes_0 _ _  hF) (by decide) (rc_X am) rfl rfl (Nat.le_of_ble_eq_true rfl) dl_nodes_4 [] ⟨0, 9, 12, 13⟩ [] tab (fun e he => nomatch he) (by decide) (by decide) xl_O we.2.2.2.2.2.2.2.2.1 ?_
    intro q9 H locs ls hP hS hl
    refine lv_astore_n am.1 am.2.1 dl_nodes_12 rfl hl (by decide) rfl (fun ls2 h2 => ?_)
    refine lv_iconst am.1 am.2.1 dl_nodes_13 ki_1 ?_
    exact jq_end am (by decide) (by decide) hP hS dl_nodes_14
theorem dl_order_0 : decode bl_order 0 = .ok (.aload_n 2, 1) := by decide +kernel
theorem dl_order_1 : decode bl_order 1 = .ok (.iconst 0, 1) := by decide +kernel
theorem dl_order_2 : decode bl_order 2 = .ok (.aload_n 0, 1) := by decide +kernel
theorem dl_order_3 : decode bl_order 3 = .ok (.iload_n 1, 1) := by decide +kernel
theorem dl_order_4 : decode bl_order 4 = .ok (.invokevirtual 64, 3) := by decide +kernel
theorem dl_order_7 : decode bl_order 7 = .ok (.i2l, 1) := by decide +kernel
theorem dl_order_8 : decode bl_order 8 = .ok (.lastore, 1) := by decide +kernel
theorem dl_order_9 : decode bl_order 9 = .ok (.goto 6, 3) := by decide +kernel
theorem dl_order_12 : decode bl_order 12 = .ok (.astore_n 3, 1) := by decide +kernel
theorem dl_order_13 : decode bl_order 13 = .ok (.iconst 1, 1) := by decide +kernel
theorem dl_order_14 : decode bl_order 14 = .ok (.ireturn, 1) := by decide +kernel
theorem dl_order_15 : decode bl_order 15 = .ok (.iconst 0, 1) := by decide +kernel
theorem dl_order_16 : decode bl_order 16 = .ok (.ireturn, 1) := by decide +kernel
set_option maxHeartbeats 4000000 in
theorem cl_order {v : wt_V} {s : wt_S} {a1 : Int32} {r : Int32} (t : wt_M) (o : Nat → Int64) (hF : fx_order s a1 = some r) : cw_C v yl_order (Cond.codeWith yl_order bl_order 4 (some .int) [(0, 9, 12, 13)]) 25 [.ref (v.2.1 0), .int a1, .ref (v.2.1 21)] 0 (s, t, o) (s, t, vp_updL o 0 r.toInt64) := by
  refine cw_of (lv := [(0, .ref (v.2.1 0)), (1, .int a1), (2, .ref (v.2.1 21))]) (by decide) (Nat.le_of_ble_eq_true rfl) rfl ?_
  intro z hz am we tab hR
  subst hz
  have am : wt_Am z R_L bl_order 4 25 (some .int) := am
  refine ji_aload_n (q := 1) am dl_order_0 rfl 2 rfl rfl ?_
  refine ji_iconst (q := 2) am dl_order_1 ki_0 rfl ?_
  refine ji_aload_n (q := 3) am dl_order_2 rfl 0 rfl rfl ?_
  refine ji_iload_n (q := 4) am dl_order_3 rfl 1 rfl rfl ?_
  refine jr_J (ret := (some (.int r))) (rest := [.int (0 : Int32), .ref (ad_ z 21)]) (jr_V [.int a1] am ln_L_x_order (ctx_order _ _ hF) (by decide) (rc_X am) rfl rfl (Nat.le_of_ble_eq_true rfl) dl_order_4) ?_
  show jj_J z 4 7 [(0, .ref (ad_ z 0)), (1, .int a1), (2, .ref (ad_ z 21))] [.int r, .int (0 : Int32), .ref (ad_ z 21)] (s, t, o) _ _
  refine ji_i2l (q := 8) am dl_order_7 rfl ?_
  refine ji_ast_out (q := 9) am dl_order_8 rfl ?_
  refine ji_goto (q := 15) am dl_order_9 rfl ?_
  refine ji_iconst (q := 16) am dl_order_15 ki_0 rfl ?_
  exact jq_ret am dl_order_16
set_option maxHeartbeats 4000000 in
theorem ce_order {v : wt_V} {s : wt_S} {a1 : Int32} {k : Nat} (t : wt_M) (o : Nat → Int64) (hT : tk_order a1 k) : cw_C v yl_order (Cond.codeWith yl_order bl_order 4 (some .int) [(0, 9, 12, 13)]) 25 [.ref (v.2.1 0), .int a1, .ref (v.2.1 21)] (nI k) (s, t, o) (s, t, o) := by
  rcases hT with ⟨hF, rfl⟩
  · refine cw_of (lv := [(0, .ref (v.2.1 0)), (1, .int a1), (2, .ref (v.2.1 21))]) (by decide) (Nat.le_of_ble_eq_true rfl) rfl ?_
    intro z hz am we tab hR
    subst hz
    have am : wt_Am z R_L bl_order 4 25 (some .int) := am
    refine ji_aload_n (q := 1) am dl_order_0 rfl 2 rfl rfl ?_
    refine ji_iconst (q := 2) am dl_order_1 ki_0 rfl ?_
    refine ji_aload_n (q := 3) am dl_order_2 rfl 0 rfl rfl ?_
    refine ji_iload_n (q := 4) am dl_order_3 rfl 1 rfl rfl ?_
    refine jq_V (rest := [.int (0 : Int32), .ref (ad_ z 21)]) [.int a1] am we hR ln_L_x_order (cy_order_0 _ _  hF) (by decide) (rc_X am) rfl rfl (Nat.le_of_ble_eq_true rfl) dl_order_4 [] ⟨0, 9, 12, 13⟩ [] tab (fun e he => nomatch he) (by decide) (by decide) xl_O we.2.2.2.2.2.2.2.2.1 ?_
    intro q9 H locs ls hP hS hl
    refine lv_astore_n am.1 am.2.1 dl_order_12 rfl hl (by decide) rfl (fun ls2 h2 => ?_)
    refine lv_iconst am.1 am.2.1 dl_order_13 ki_1 ?_
    exact jq_end am (by decide) (by decide) hP hS dl_order_14
theorem dl_swap_0 : decode bl_swap 0 = .ok (.aload_n 2, 1) := by decide +kernel
theorem dl_swap_1 : decode bl_swap 1 = .ok (.iconst 0, 1) := by decide +kernel
theorem dl_swap_2 : decode bl_swap 2 = .ok (.aload_n 0, 1) := by decide +kernel
theorem dl_swap_3 : decode bl_swap 3 = .ok (.iload_n 1, 1) := by decide +kernel
theorem dl_swap_4 : decode bl_swap 4 = .ok (.invokevirtual 67, 3) := by decide +kernel
theorem dl_swap_7 : decode bl_swap 7 = .ok (.i2l, 1) := by decide +kernel
theorem dl_swap_8 : decode bl_swap 8 = .ok (.lastore, 1) := by decide +kernel
theorem dl_swap_9 : decode bl_swap 9 = .ok (.goto 6, 3) := by decide +kernel
theorem dl_swap_12 : decode bl_swap 12 = .ok (.astore_n 3, 1) := by decide +kernel
theorem dl_swap_13 : decode bl_swap 13 = .ok (.iconst 1, 1) := by decide +kernel
theorem dl_swap_14 : decode bl_swap 14 = .ok (.ireturn, 1) := by decide +kernel
theorem dl_swap_15 : decode bl_swap 15 = .ok (.iconst 0, 1) := by decide +kernel
theorem dl_swap_16 : decode bl_swap 16 = .ok (.ireturn, 1) := by decide +kernel
set_option maxHeartbeats 4000000 in
theorem cl_swap {v : wt_V} {s : wt_S} {a1 : Int32} {r : Int32} {s2 : wt_S} (t : wt_M) (o : Nat → Int64) (hF : fx_swap s a1 = some (r, s2)) : cw_C v yl_swap (Cond.codeWith yl_swap bl_swap 4 (some .int) [(0, 9, 12, 13)]) 25 [.ref (v.2.1 0), .int a1, .ref (v.2.1 21)] 0 (s, t, o) (s2, t, vp_updL o 0 r.toInt64) := by
  refine cw_of (lv := [(0, .ref (v.2.1 0)), (1, .int a1), (2, .ref (v.2.1 21))]) (by decide) (Nat.le_of_ble_eq_true rfl) rfl ?_
  intro z hz am we tab hR
  subst hz
  have am : wt_Am z R_L bl_swap 4 25 (some .int) := am
  refine ji_aload_n (q := 1) am dl_swap_0 rfl 2 rfl rfl ?_
  refine ji_iconst (q := 2) am dl_swap_1 ki_0 rfl ?_
  refine ji_aload_n (q := 3) am dl_swap_2 rfl 0 rfl rfl ?_
  refine ji_iload_n (q := 4) am dl_swap_3 rfl 1 rfl rfl ?_
  refine jr_J (ret := (some (.int r))) (rest := [.int (0 : Int32), .ref (ad_ z 21)]) (jr_V [.int a1] am ln_L_x_swap (ctx_swap _ _ hF) (by decide) (rc_X am) rfl rfl (Nat.le_of_ble_eq_true rfl) dl_swap_4) ?_
  show jj_J z 4 7 [(0, .ref (ad_ z 0)), (1, .int a1), (2, .ref (ad_ z 21))] [.int r, .int (0 : Int32), .ref (ad_ z 21)] (s2, t, o) _ _
  refine ji_i2l (q := 8) am dl_swap_7 rfl ?_
  refine ji_ast_out (q := 9) am dl_swap_8 rfl ?_
  refine ji_goto (q := 15) am dl_swap_9 rfl ?_
  refine ji_iconst (q := 16) am dl_swap_15 ki_0 rfl ?_
  exact jq_ret am dl_swap_16
set_option maxHeartbeats 4000000 in
theorem ce_swap {v : wt_V} {s : wt_S} {a1 : Int32} {k : Nat} (t : wt_M) (o : Nat → Int64) (hT : tk_swap a1 k) : cw_C v yl_swap (Cond.codeWith yl_swap bl_swap 4 (some .int) [(0, 9, 12, 13)]) 25 [.ref (v.2.1 0), .int a1, .ref (v.2.1 21)] (nI k) (s, t, o) (s, t, o) := by
  rcases hT with ⟨hF, rfl⟩
  · refine cw_of (lv := [(0, .ref (v.2.1 0)), (1, .int a1), (2, .ref (v.2.1 21))]) (by decide) (Nat.le_of_ble_eq_true rfl) rfl ?_
    intro z hz am we tab hR
    subst hz
    have am : wt_Am z R_L bl_swap 4 25 (some .int) := am
    refine ji_aload_n (q := 1) am dl_swap_0 rfl 2 rfl rfl ?_
    refine ji_iconst (q := 2) am dl_swap_1 ki_0 rfl ?_
    refine ji_aload_n (q := 3) am dl_swap_2 rfl 0 rfl rfl ?_
    refine ji_iload_n (q := 4) am dl_swap_3 rfl 1 rfl rfl ?_
    refine jq_V (rest := [.int (0 : Int32), .ref (ad_ z 21)]) [.int a1] am we hR ln_L_x_swap (cy_swap_0 _ _  hF) (by decide) (rc_X am) rfl rfl (Nat.le_of_ble_eq_true rfl) dl_swap_4 [] ⟨0, 9, 12, 13⟩ [] tab (fun e he => nomatch he) (by decide) (by decide) xl_O we.2.2.2.2.2.2.2.2.1 ?_
    intro q9 H locs ls hP hS hl
    refine lv_astore_n am.1 am.2.1 dl_swap_12 rfl hl (by decide) rfl (fun ls2 h2 => ?_)
    refine lv_iconst am.1 am.2.1 dl_swap_13 ki_1 ?_
    exact jq_end am (by decide) (by decide) hP hS dl_swap_14
theorem dl_place_0 : decode bl_place 0 = .ok (.aload_n 3, 1) := by decide +kernel
theorem dl_place_1 : decode bl_place 1 = .ok (.iconst 0, 1) := by decide +kernel
theorem dl_place_2 : decode bl_place 2 = .ok (.aload_n 0, 1) := by decide +kernel
theorem dl_place_3 : decode bl_place 3 = .ok (.iload_n 1, 1) := by decide +kernel
theorem dl_place_4 : decode bl_place 4 = .ok (.iload_n 2, 1) := by decide +kernel
theorem dl_place_5 : decode bl_place 5 = .ok (.invokevirtual 70, 3) := by decide +kernel
theorem dl_place_8 : decode bl_place 8 = .ok (.i2l, 1) := by decide +kernel
theorem dl_place_9 : decode bl_place 9 = .ok (.lastore, 1) := by decide +kernel
theorem dl_place_10 : decode bl_place 10 = .ok (.goto 7, 3) := by decide +kernel
theorem dl_place_13 : decode bl_place 13 = .ok (.astore 4, 2) := by decide +kernel
theorem dl_place_15 : decode bl_place 15 = .ok (.iconst 1, 1) := by decide +kernel
theorem dl_place_16 : decode bl_place 16 = .ok (.ireturn, 1) := by decide +kernel
theorem dl_place_17 : decode bl_place 17 = .ok (.iconst 0, 1) := by decide +kernel
theorem dl_place_18 : decode bl_place 18 = .ok (.ireturn, 1) := by decide +kernel
set_option maxHeartbeats 4000000 in
theorem cl_place {v : wt_V} {s : wt_S} {a1 : Int32} {a2 : Int32} {r : Int32} {s2 : wt_S} (t : wt_M) (o : Nat → Int64) (hF : fx_place s a1 a2 = some (r, s2)) : cw_C v yl_place (Cond.codeWith yl_place bl_place 5 (some .int) [(0, 10, 13, 13)]) 25 [.ref (v.2.1 0), .int a1, .int a2, .ref (v.2.1 21)] 0 (s, t, o) (s2, t, vp_updL o 0 r.toInt64) := by
  refine cw_of (lv := [(0, .ref (v.2.1 0)), (1, .int a1), (2, .int a2), (3, .ref (v.2.1 21))]) (by decide) (Nat.le_of_ble_eq_true rfl) rfl ?_
  intro z hz am we tab hR
  subst hz
  have am : wt_Am z R_L bl_place 5 25 (some .int) := am
  refine ji_aload_n (q := 1) am dl_place_0 rfl 3 rfl rfl ?_
  refine ji_iconst (q := 2) am dl_place_1 ki_0 rfl ?_
  refine ji_aload_n (q := 3) am dl_place_2 rfl 0 rfl rfl ?_
  refine ji_iload_n (q := 4) am dl_place_3 rfl 1 rfl rfl ?_
  refine ji_iload_n (q := 5) am dl_place_4 rfl 2 rfl rfl ?_
  refine jr_J (ret := (some (.int r))) (rest := [.int (0 : Int32), .ref (ad_ z 21)]) (jr_V [.int a1, .int a2] am ln_L_x_place (ctx_place _ _ hF) (by decide) (rc_X am) rfl rfl (Nat.le_of_ble_eq_true rfl) dl_place_5) ?_
  show jj_J z 5 8 [(0, .ref (ad_ z 0)), (1, .int a1), (2, .int a2), (3, .ref (ad_ z 21))] [.int r, .int (0 : Int32), .ref (ad_ z 21)] (s2, t, o) _ _
  refine ji_i2l (q := 9) am dl_place_8 rfl ?_
  refine ji_ast_out (q := 10) am dl_place_9 rfl ?_
  refine ji_goto (q := 17) am dl_place_10 rfl ?_
  refine ji_iconst (q := 18) am dl_place_17 ki_0 rfl ?_
  exact jq_ret am dl_place_18
set_option maxHeartbeats 4000000 in
theorem ce_place {v : wt_V} {s : wt_S} {a1 : Int32} {a2 : Int32} {k : Nat} (t : wt_M) (o : Nat → Int64) (hT : tk_place a1 a2 k) : cw_C v yl_place (Cond.codeWith yl_place bl_place 5 (some .int) [(0, 10, 13, 13)]) 25 [.ref (v.2.1 0), .int a1, .int a2, .ref (v.2.1 21)] (nI k) (s, t, o) (s, t, o) := by
  rcases hT with ⟨hF, rfl⟩ | ⟨p0, hF, rfl⟩
  · refine cw_of (lv := [(0, .ref (v.2.1 0)), (1, .int a1), (2, .int a2), (3, .ref (v.2.1 21))]) (by decide) (Nat.le_of_ble_eq_true rfl) rfl ?_
    intro z hz am we tab hR
    subst hz
    have am : wt_Am z R_L bl_place 5 25 (some .int) := am
    refine ji_aload_n (q := 1) am dl_place_0 rfl 3 rfl rfl ?_
    refine ji_iconst (q := 2) am dl_place_1 ki_0 rfl ?_
    refine ji_aload_n (q := 3) am dl_place_2 rfl 0 rfl rfl ?_
    refine ji_iload_n (q := 4) am dl_place_3 rfl 1 rfl rfl ?_
    refine ji_iload_n (q := 5) am dl_place_4 rfl 2 rfl rfl ?_
    refine jq_V (rest := [.int (0 : Int32), .ref (ad_ z 21)]) [.int a1, .int a2] am we hR ln_L_x_place (cy_place_0 _ _  hF) (by decide) (rc_X am) rfl rfl (Nat.le_of_ble_eq_true rfl) dl_place_5 [] ⟨0, 10, 13, 13⟩ [] tab (fun e he => nomatch he) (by decide) (by decide) xl_O we.2.2.2.2.2.2.2.2.1 ?_
    intro q9 H locs ls hP hS hl
    refine lv_astore am.1 am.2.1 dl_place_13 hl (by decide) rfl (fun ls2 h2 => ?_)
    refine lv_iconst am.1 am.2.1 dl_place_15 ki_1 ?_
    exact jq_end am (by decide) (by decide) hP hS dl_place_16
  · refine cw_of (lv := [(0, .ref (v.2.1 0)), (1, .int a1), (2, .int a2), (3, .ref (v.2.1 21))]) (by decide) (Nat.le_of_ble_eq_true rfl) rfl ?_
    intro z hz am we tab hR
    subst hz
    have am : wt_Am z R_L bl_place 5 25 (some .int) := am
    refine ji_aload_n (q := 1) am dl_place_0 rfl 3 rfl rfl ?_
    refine ji_iconst (q := 2) am dl_place_1 ki_0 rfl ?_
    refine ji_aload_n (q := 3) am dl_place_2 rfl 0 rfl rfl ?_
    refine ji_iload_n (q := 4) am dl_place_3 rfl 1 rfl rfl ?_
    refine ji_iload_n (q := 5) am dl_place_4 rfl 2 rfl rfl ?_
    refine jq_V (rest := [.int (0 : Int32), .ref (ad_ z 21)]) [.int a1, .int a2] am we hR ln_L_x_place (cy_place_1 _ _ p0 hF) (by decide) (rc_X am) rfl rfl (Nat.le_of_ble_eq_true rfl) dl_place_5 [] ⟨0, 10, 13, 13⟩ [] tab (fun e he => nomatch he) (by decide) (by decide) xl_O we.2.2.2.2.2.2.2.2.1 ?_
    intro q9 H locs ls hP hS hl
    refine lv_astore am.1 am.2.1 dl_place_13 hl (by decide) rfl (fun ls2 h2 => ?_)
    refine lv_iconst am.1 am.2.1 dl_place_15 ki_1 ?_
    exact jq_end am (by decide) (by decide) hP hS dl_place_16
theorem dl_sift_0 : decode bl_sift 0 = .ok (.aload_n 2, 1) := by decide +kernel
theorem dl_sift_1 : decode bl_sift 1 = .ok (.iconst 0, 1) := by decide +kernel
theorem dl_sift_2 : decode bl_sift 2 = .ok (.aload_n 0, 1) := by decide +kernel
theorem dl_sift_3 : decode bl_sift 3 = .ok (.iload_n 1, 1) := by decide +kernel
theorem dl_sift_4 : decode bl_sift 4 = .ok (.invokevirtual 74, 3) := by decide +kernel
theorem dl_sift_7 : decode bl_sift 7 = .ok (.i2l, 1) := by decide +kernel
theorem dl_sift_8 : decode bl_sift 8 = .ok (.lastore, 1) := by decide +kernel
theorem dl_sift_9 : decode bl_sift 9 = .ok (.goto 6, 3) := by decide +kernel
theorem dl_sift_12 : decode bl_sift 12 = .ok (.astore_n 3, 1) := by decide +kernel
theorem dl_sift_13 : decode bl_sift 13 = .ok (.iconst 1, 1) := by decide +kernel
theorem dl_sift_14 : decode bl_sift 14 = .ok (.ireturn, 1) := by decide +kernel
theorem dl_sift_15 : decode bl_sift 15 = .ok (.iconst 0, 1) := by decide +kernel
theorem dl_sift_16 : decode bl_sift 16 = .ok (.ireturn, 1) := by decide +kernel
set_option maxHeartbeats 4000000 in
theorem cl_sift {v : wt_V} {s : wt_S} {a1 : Int32} {r : Int32} {s2 : wt_S} (t : wt_M) (o : Nat → Int64) (hF : fx_sift s a1 = some (r, s2)) : cw_C v yl_sift (Cond.codeWith yl_sift bl_sift 4 (some .int) [(0, 9, 12, 13)]) 25 [.ref (v.2.1 0), .int a1, .ref (v.2.1 21)] 0 (s, t, o) (s2, t, vp_updL o 0 r.toInt64) := by
  refine cw_of (lv := [(0, .ref (v.2.1 0)), (1, .int a1), (2, .ref (v.2.1 21))]) (by decide) (Nat.le_of_ble_eq_true rfl) rfl ?_
  intro z hz am we tab hR
  subst hz
  have am : wt_Am z R_L bl_sift 4 25 (some .int) := am
  refine ji_aload_n (q := 1) am dl_sift_0 rfl 2 rfl rfl ?_
  refine ji_iconst (q := 2) am dl_sift_1 ki_0 rfl ?_
  refine ji_aload_n (q := 3) am dl_sift_2 rfl 0 rfl rfl ?_
  refine ji_iload_n (q := 4) am dl_sift_3 rfl 1 rfl rfl ?_
  refine jr_J (ret := (some (.int r))) (rest := [.int (0 : Int32), .ref (ad_ z 21)]) (jr_V [.int a1] am ln_L_x_sift (ctx_sift _ _ hF) (by decide) (rc_X am) rfl rfl (Nat.le_of_ble_eq_true rfl) dl_sift_4) ?_
  show jj_J z 4 7 [(0, .ref (ad_ z 0)), (1, .int a1), (2, .ref (ad_ z 21))] [.int r, .int (0 : Int32), .ref (ad_ z 21)] (s2, t, o) _ _
  refine ji_i2l (q := 8) am dl_sift_7 rfl ?_
  refine ji_ast_out (q := 9) am dl_sift_8 rfl ?_
  refine ji_goto (q := 15) am dl_sift_9 rfl ?_
  refine ji_iconst (q := 16) am dl_sift_15 ki_0 rfl ?_
  exact jq_ret am dl_sift_16
set_option maxHeartbeats 4000000 in
theorem ce_sift {v : wt_V} {s : wt_S} {a1 : Int32} {k : Nat} (t : wt_M) (o : Nat → Int64) (hT : tk_sift a1 k) : cw_C v yl_sift (Cond.codeWith yl_sift bl_sift 4 (some .int) [(0, 9, 12, 13)]) 25 [.ref (v.2.1 0), .int a1, .ref (v.2.1 21)] (nI k) (s, t, o) (s, t, o) := by
  rcases hT with ⟨hF, rfl⟩
  · refine cw_of (lv := [(0, .ref (v.2.1 0)), (1, .int a1), (2, .ref (v.2.1 21))]) (by decide) (Nat.le_of_ble_eq_true rfl) rfl ?_
    intro z hz am we tab hR
    subst hz
    have am : wt_Am z R_L bl_sift 4 25 (some .int) := am
    refine ji_aload_n (q := 1) am dl_sift_0 rfl 2 rfl rfl ?_
    refine ji_iconst (q := 2) am dl_sift_1 ki_0 rfl ?_
    refine ji_aload_n (q := 3) am dl_sift_2 rfl 0 rfl rfl ?_
    refine ji_iload_n (q := 4) am dl_sift_3 rfl 1 rfl rfl ?_
    refine jq_V (rest := [.int (0 : Int32), .ref (ad_ z 21)]) [.int a1] am we hR ln_L_x_sift (cy_sift_0 _ _  hF) (by decide) (rc_X am) rfl rfl (Nat.le_of_ble_eq_true rfl) dl_sift_4 [] ⟨0, 9, 12, 13⟩ [] tab (fun e he => nomatch he) (by decide) (by decide) xl_O we.2.2.2.2.2.2.2.2.1 ?_
    intro q9 H locs ls hP hS hl
    refine lv_astore_n am.1 am.2.1 dl_sift_12 rfl hl (by decide) rfl (fun ls2 h2 => ?_)
    refine lv_iconst am.1 am.2.1 dl_sift_13 ki_1 ?_
    exact jq_end am (by decide) (by decide) hP hS dl_sift_14
theorem dl_image_0 : decode bl_image 0 = .ok (.aload 4, 2) := by decide +kernel
theorem dl_image_2 : decode bl_image 2 = .ok (.iconst 0, 1) := by decide +kernel
theorem dl_image_3 : decode bl_image 3 = .ok (.aload_n 0, 1) := by decide +kernel
theorem dl_image_4 : decode bl_image 4 = .ok (.iload_n 1, 1) := by decide +kernel
theorem dl_image_5 : decode bl_image 5 = .ok (.iload_n 2, 1) := by decide +kernel
theorem dl_image_6 : decode bl_image 6 = .ok (.iload_n 3, 1) := by decide +kernel
theorem dl_image_7 : decode bl_image 7 = .ok (.invokevirtual 77, 3) := by decide +kernel
theorem dl_image_10 : decode bl_image 10 = .ok (.i2l, 1) := by decide +kernel
theorem dl_image_11 : decode bl_image 11 = .ok (.lastore, 1) := by decide +kernel
theorem dl_image_12 : decode bl_image 12 = .ok (.goto 11, 3) := by decide +kernel
theorem dl_image_15 : decode bl_image 15 = .ok (.astore 5, 2) := by decide +kernel
theorem dl_image_17 : decode bl_image 17 = .ok (.iconst 1, 1) := by decide +kernel
theorem dl_image_18 : decode bl_image 18 = .ok (.ireturn, 1) := by decide +kernel
theorem dl_image_19 : decode bl_image 19 = .ok (.astore 5, 2) := by decide +kernel
theorem dl_image_21 : decode bl_image 21 = .ok (.iconst 2, 1) := by decide +kernel
theorem dl_image_22 : decode bl_image 22 = .ok (.ireturn, 1) := by decide +kernel
theorem dl_image_23 : decode bl_image 23 = .ok (.iconst 0, 1) := by decide +kernel
theorem dl_image_24 : decode bl_image 24 = .ok (.ireturn, 1) := by decide +kernel
set_option maxHeartbeats 4000000 in
theorem cl_image {v : wt_V} {s : wt_S} {a1 : Int32} {a2 : Int32} {a3 : Int32} {r : Int32} {s2 : wt_S} (t : wt_M) (o : Nat → Int64) (hF : fx_image s a1 a2 a3 = some (r, s2)) : cw_C v yl_image (Cond.codeWith yl_image bl_image 6 (some .int) [(0, 12, 15, 13), (0, 12, 19, 81)]) 25 [.ref (v.2.1 0), .int a1, .int a2, .int a3, .ref (v.2.1 21)] 0 (s, t, o) (s2, t, vp_updL o 0 r.toInt64) := by
  refine cw_of (lv := [(0, .ref (v.2.1 0)), (1, .int a1), (2, .int a2), (3, .int a3), (4, .ref (v.2.1 21))]) (by decide) (Nat.le_of_ble_eq_true rfl) rfl ?_
  intro z hz am we tab hR
  subst hz
  have am : wt_Am z R_L bl_image 6 25 (some .int) := am
  refine ji_aload (q := 2) am dl_image_0 4 rfl rfl ?_
  refine ji_iconst (q := 3) am dl_image_2 ki_0 rfl ?_
  refine ji_aload_n (q := 4) am dl_image_3 rfl 0 rfl rfl ?_
  refine ji_iload_n (q := 5) am dl_image_4 rfl 1 rfl rfl ?_
  refine ji_iload_n (q := 6) am dl_image_5 rfl 2 rfl rfl ?_
  refine ji_iload_n (q := 7) am dl_image_6 rfl 3 rfl rfl ?_
  refine jr_J (ret := (some (.int r))) (rest := [.int (0 : Int32), .ref (ad_ z 21)]) (jr_V [.int a1, .int a2, .int a3] am ln_L_x_image (ctx_image _ _ hF) (by decide) (rc_X am) rfl rfl (Nat.le_of_ble_eq_true rfl) dl_image_7) ?_
  show jj_J z 6 10 [(0, .ref (ad_ z 0)), (1, .int a1), (2, .int a2), (3, .int a3), (4, .ref (ad_ z 21))] [.int r, .int (0 : Int32), .ref (ad_ z 21)] (s2, t, o) _ _
  refine ji_i2l (q := 11) am dl_image_10 rfl ?_
  refine ji_ast_out (q := 12) am dl_image_11 rfl ?_
  refine ji_goto (q := 23) am dl_image_12 rfl ?_
  refine ji_iconst (q := 24) am dl_image_23 ki_0 rfl ?_
  exact jq_ret am dl_image_24
set_option maxHeartbeats 4000000 in
theorem ce_image {v : wt_V} {s : wt_S} {a1 : Int32} {a2 : Int32} {a3 : Int32} {k : Nat} (t : wt_M) (o : Nat → Int64) (hT : tk_image s a1 a2 a3 k) : cw_C v yl_image (Cond.codeWith yl_image bl_image 6 (some .int) [(0, 12, 15, 13), (0, 12, 19, 81)]) 25 [.ref (v.2.1 0), .int a1, .int a2, .int a3, .ref (v.2.1 21)] (nI k) (s, t, o) (s, t, o) := by
  rcases hT with ⟨hF, rfl⟩ | ⟨p0, hF, rfl⟩ | ⟨p0, p1, hF, rfl⟩ | ⟨p0, p1, p2, hF, rfl⟩
  · refine cw_of (lv := [(0, .ref (v.2.1 0)), (1, .int a1), (2, .int a2), (3, .int a3), (4, .ref (v.2.1 21))]) (by decide) (Nat.le_of_ble_eq_true rfl) rfl ?_
    intro z hz am we tab hR
    subst hz
    have am : wt_Am z R_L bl_image 6 25 (some .int) := am
    refine ji_aload (q := 2) am dl_image_0 4 rfl rfl ?_
    refine ji_iconst (q := 3) am dl_image_2 ki_0 rfl ?_
    refine ji_aload_n (q := 4) am dl_image_3 rfl 0 rfl rfl ?_
    refine ji_iload_n (q := 5) am dl_image_4 rfl 1 rfl rfl ?_
    refine ji_iload_n (q := 6) am dl_image_5 rfl 2 rfl rfl ?_
    refine ji_iload_n (q := 7) am dl_image_6 rfl 3 rfl rfl ?_
    refine jq_V (rest := [.int (0 : Int32), .ref (ad_ z 21)]) [.int a1, .int a2, .int a3] am we hR ln_L_x_image (cy_image_0 _ _  hF) (by decide) (rc_X am) rfl rfl (Nat.le_of_ble_eq_true rfl) dl_image_7 [] ⟨0, 12, 15, 13⟩ [⟨0, 12, 19, 81⟩] tab (fun e he => nomatch he) (by decide) (by decide) xl_O we.2.2.2.2.2.2.2.2.1 ?_
    intro q9 H locs ls hP hS hl
    refine lv_astore am.1 am.2.1 dl_image_15 hl (by decide) rfl (fun ls2 h2 => ?_)
    refine lv_iconst am.1 am.2.1 dl_image_17 ki_1 ?_
    exact jq_end am (by decide) (by decide) hP hS dl_image_18
  · refine cw_of (lv := [(0, .ref (v.2.1 0)), (1, .int a1), (2, .int a2), (3, .int a3), (4, .ref (v.2.1 21))]) (by decide) (Nat.le_of_ble_eq_true rfl) rfl ?_
    intro z hz am we tab hR
    subst hz
    have am : wt_Am z R_L bl_image 6 25 (some .int) := am
    refine ji_aload (q := 2) am dl_image_0 4 rfl rfl ?_
    refine ji_iconst (q := 3) am dl_image_2 ki_0 rfl ?_
    refine ji_aload_n (q := 4) am dl_image_3 rfl 0 rfl rfl ?_
    refine ji_iload_n (q := 5) am dl_image_4 rfl 1 rfl rfl ?_
    refine ji_iload_n (q := 6) am dl_image_5 rfl 2 rfl rfl ?_
    refine ji_iload_n (q := 7) am dl_image_6 rfl 3 rfl rfl ?_
    refine jq_V (rest := [.int (0 : Int32), .ref (ad_ z 21)]) [.int a1, .int a2, .int a3] am we hR ln_L_x_image (cy_image_1 _ _ p0 hF) (by decide) (rc_X am) rfl rfl (Nat.le_of_ble_eq_true rfl) dl_image_7 [] ⟨0, 12, 15, 13⟩ [⟨0, 12, 19, 81⟩] tab (fun e he => nomatch he) (by decide) (by decide) xl_O we.2.2.2.2.2.2.2.2.1 ?_
    intro q9 H locs ls hP hS hl
    refine lv_astore am.1 am.2.1 dl_image_15 hl (by decide) rfl (fun ls2 h2 => ?_)
    refine lv_iconst am.1 am.2.1 dl_image_17 ki_1 ?_
    exact jq_end am (by decide) (by decide) hP hS dl_image_18
  · refine cw_of (lv := [(0, .ref (v.2.1 0)), (1, .int a1), (2, .int a2), (3, .int a3), (4, .ref (v.2.1 21))]) (by decide) (Nat.le_of_ble_eq_true rfl) rfl ?_
    intro z hz am we tab hR
    subst hz
    have am : wt_Am z R_L bl_image 6 25 (some .int) := am
    refine ji_aload (q := 2) am dl_image_0 4 rfl rfl ?_
    refine ji_iconst (q := 3) am dl_image_2 ki_0 rfl ?_
    refine ji_aload_n (q := 4) am dl_image_3 rfl 0 rfl rfl ?_
    refine ji_iload_n (q := 5) am dl_image_4 rfl 1 rfl rfl ?_
    refine ji_iload_n (q := 6) am dl_image_5 rfl 2 rfl rfl ?_
    refine ji_iload_n (q := 7) am dl_image_6 rfl 3 rfl rfl ?_
    refine jq_V (rest := [.int (0 : Int32), .ref (ad_ z 21)]) [.int a1, .int a2, .int a3] am we hR ln_L_x_image (cy_image_2 _ _ p0 p1 hF) (by decide) (rc_X am) rfl rfl (Nat.le_of_ble_eq_true rfl) dl_image_7 [] ⟨0, 12, 15, 13⟩ [⟨0, 12, 19, 81⟩] tab (fun e he => nomatch he) (by decide) (by decide) xl_O we.2.2.2.2.2.2.2.2.1 ?_
    intro q9 H locs ls hP hS hl
    refine lv_astore am.1 am.2.1 dl_image_15 hl (by decide) rfl (fun ls2 h2 => ?_)
    refine lv_iconst am.1 am.2.1 dl_image_17 ki_1 ?_
    exact jq_end am (by decide) (by decide) hP hS dl_image_18
  · refine cw_of (lv := [(0, .ref (v.2.1 0)), (1, .int a1), (2, .int a2), (3, .int a3), (4, .ref (v.2.1 21))]) (by decide) (Nat.le_of_ble_eq_true rfl) rfl ?_
    intro z hz am we tab hR
    subst hz
    have am : wt_Am z R_L bl_image 6 25 (some .int) := am
    refine ji_aload (q := 2) am dl_image_0 4 rfl rfl ?_
    refine ji_iconst (q := 3) am dl_image_2 ki_0 rfl ?_
    refine ji_aload_n (q := 4) am dl_image_3 rfl 0 rfl rfl ?_
    refine ji_iload_n (q := 5) am dl_image_4 rfl 1 rfl rfl ?_
    refine ji_iload_n (q := 6) am dl_image_5 rfl 2 rfl rfl ?_
    refine ji_iload_n (q := 7) am dl_image_6 rfl 3 rfl rfl ?_
    refine jq_V (rest := [.int (0 : Int32), .ref (ad_ z 21)]) [.int a1, .int a2, .int a3] am we hR ln_L_x_image (cy_image_3 _ _ p0 p1 p2 hF) (by decide) (rc_X am) rfl rfl (Nat.le_of_ble_eq_true rfl) dl_image_7 [⟨0, 12, 15, 13⟩] ⟨0, 12, 19, 81⟩ [] tab (by
        intro e he
        obtain rfl := List.mem_singleton.mp he
        exact Or.inr ⟨by decide, E_O, xl_O, we.2.2.2.2.2.2.2.2.2.2.2.2.1⟩) (by decide) (by decide) xl_S we.2.2.2.2.2.2.2.2.2.2.1 ?_
    intro q9 H locs ls hP hS hl
    refine lv_astore am.1 am.2.1 dl_image_19 hl (by decide) rfl (fun ls2 h2 => ?_)
    refine lv_iconst am.1 am.2.1 dl_image_21 ki_2 ?_
    exact jq_end am (by decide) (by decide) hP hS dl_image_22
theorem dl_reach_0 : decode bl_reach 0 = .ok (.aload 4, 2) := by decide +kernel
theorem dl_reach_2 : decode bl_reach 2 = .ok (.iconst 0, 1) := by decide +kernel
theorem dl_reach_3 : decode bl_reach 3 = .ok (.aload_n 0, 1) := by decide +kernel
theorem dl_reach_4 : decode bl_reach 4 = .ok (.iload_n 1, 1) := by decide +kernel
theorem dl_reach_5 : decode bl_reach 5 = .ok (.iload_n 2, 1) := by decide +kernel
theorem dl_reach_6 : decode bl_reach 6 = .ok (.iload_n 3, 1) := by decide +kernel
theorem dl_reach_7 : decode bl_reach 7 = .ok (.invokevirtual 83, 3) := by decide +kernel
theorem dl_reach_10 : decode bl_reach 10 = .ok (.i2l, 1) := by decide +kernel
theorem dl_reach_11 : decode bl_reach 11 = .ok (.lastore, 1) := by decide +kernel
theorem dl_reach_12 : decode bl_reach 12 = .ok (.goto 11, 3) := by decide +kernel
theorem dl_reach_15 : decode bl_reach 15 = .ok (.astore 5, 2) := by decide +kernel
theorem dl_reach_17 : decode bl_reach 17 = .ok (.iconst 1, 1) := by decide +kernel
theorem dl_reach_18 : decode bl_reach 18 = .ok (.ireturn, 1) := by decide +kernel
theorem dl_reach_19 : decode bl_reach 19 = .ok (.astore 5, 2) := by decide +kernel
theorem dl_reach_21 : decode bl_reach 21 = .ok (.iconst 2, 1) := by decide +kernel
theorem dl_reach_22 : decode bl_reach 22 = .ok (.ireturn, 1) := by decide +kernel
theorem dl_reach_23 : decode bl_reach 23 = .ok (.iconst 0, 1) := by decide +kernel
theorem dl_reach_24 : decode bl_reach 24 = .ok (.ireturn, 1) := by decide +kernel
set_option maxHeartbeats 4000000 in
theorem cl_reach {v : wt_V} {s : wt_S} {a1 : Int32} {a2 : Int32} {a3 : Int32} {r : Int32} {s2 : wt_S} (t : wt_M) (o : Nat → Int64) (hF : fx_reach s a1 a2 a3 = some (r, s2)) : cw_C v yl_reach (Cond.codeWith yl_reach bl_reach 6 (some .int) [(0, 12, 15, 13), (0, 12, 19, 81)]) 25 [.ref (v.2.1 0), .int a1, .int a2, .int a3, .ref (v.2.1 21)] 0 (s, t, o) (s2, t, vp_updL o 0 r.toInt64) := by
  refine cw_of (lv := [(0, .ref (v.2.1 0)), (1, .int a1), (2, .int a2), (3, .int a3), (4, .ref (v.2.1 21))]) (by decide) (Nat.le_of_ble_eq_true rfl) rfl ?_
  intro z hz am we tab hR
  subst hz
  have am : wt_Am z R_L bl_reach 6 25 (some .int) := am
  refine ji_aload (q := 2) am dl_reach_0 4 rfl rfl ?_
  refine ji_iconst (q := 3) am dl_reach_2 ki_0 rfl ?_
  refine ji_aload_n (q := 4) am dl_reach_3 rfl 0 rfl rfl ?_
  refine ji_iload_n (q := 5) am dl_reach_4 rfl 1 rfl rfl ?_
  refine ji_iload_n (q := 6) am dl_reach_5 rfl 2 rfl rfl ?_
  refine ji_iload_n (q := 7) am dl_reach_6 rfl 3 rfl rfl ?_
  refine jr_J (ret := (some (.int r))) (rest := [.int (0 : Int32), .ref (ad_ z 21)]) (jr_V [.int a1, .int a2, .int a3] am ln_L_x_reach (ctx_reach _ _ hF) (by decide) (rc_X am) rfl rfl (Nat.le_of_ble_eq_true rfl) dl_reach_7) ?_
  show jj_J z 6 10 [(0, .ref (ad_ z 0)), (1, .int a1), (2, .int a2), (3, .int a3), (4, .ref (ad_ z 21))] [.int r, .int (0 : Int32), .ref (ad_ z 21)] (s2, t, o) _ _
  refine ji_i2l (q := 11) am dl_reach_10 rfl ?_
  refine ji_ast_out (q := 12) am dl_reach_11 rfl ?_
  refine ji_goto (q := 23) am dl_reach_12 rfl ?_
  refine ji_iconst (q := 24) am dl_reach_23 ki_0 rfl ?_
  exact jq_ret am dl_reach_24
set_option maxHeartbeats 4000000 in
theorem ce_reach {v : wt_V} {s : wt_S} {a1 : Int32} {a2 : Int32} {a3 : Int32} {k : Nat} (t : wt_M) (o : Nat → Int64) (hT : tk_reach s a1 a2 a3 k) : cw_C v yl_reach (Cond.codeWith yl_reach bl_reach 6 (some .int) [(0, 12, 15, 13), (0, 12, 19, 81)]) 25 [.ref (v.2.1 0), .int a1, .int a2, .int a3, .ref (v.2.1 21)] (nI k) (s, t, o) (s, t, o) := by
  rcases hT with ⟨hF, rfl⟩ | ⟨p0, hF, rfl⟩ | ⟨p0, p1, hF, rfl⟩ | ⟨p0, p1, p2, hF, rfl⟩
  · refine cw_of (lv := [(0, .ref (v.2.1 0)), (1, .int a1), (2, .int a2), (3, .int a3), (4, .ref (v.2.1 21))]) (by decide) (Nat.le_of_ble_eq_true rfl) rfl ?_
    intro z hz am we tab hR
    subst hz
    have am : wt_Am z R_L bl_reach 6 25 (some .int) := am
    refine ji_aload (q := 2) am dl_reach_0 4 rfl rfl ?_
    refine ji_iconst (q := 3) am dl_reach_2 ki_0 rfl ?_
    refine ji_aload_n (q := 4) am dl_reach_3 rfl 0 rfl rfl ?_
    refine ji_iload_n (q := 5) am dl_reach_4 rfl 1 rfl rfl ?_
    refine ji_iload_n (q := 6) am dl_reach_5 rfl 2 rfl rfl ?_
    refine ji_iload_n (q := 7) am dl_reach_6 rfl 3 rfl rfl ?_
    refine jq_V (rest := [.int (0 : Int32), .ref (ad_ z 21)]) [.int a1, .int a2, .int a3] am we hR ln_L_x_reach (cy_reach_0 _ _  hF) (by decide) (rc_X am) rfl rfl (Nat.le_of_ble_eq_true rfl) dl_reach_7 [] ⟨0, 12, 15, 13⟩ [⟨0, 12, 19, 81⟩] tab (fun e he => nomatch he) (by decide) (by decide) xl_O we.2.2.2.2.2.2.2.2.1 ?_
    intro q9 H locs ls hP hS hl
    refine lv_astore am.1 am.2.1 dl_reach_15 hl (by decide) rfl (fun ls2 h2 => ?_)
    refine lv_iconst am.1 am.2.1 dl_reach_17 ki_1 ?_
    exact jq_end am (by decide) (by decide) hP hS dl_reach_18
  · refine cw_of (lv := [(0, .ref (v.2.1 0)), (1, .int a1), (2, .int a2), (3, .int a3), (4, .ref (v.2.1 21))]) (by decide) (Nat.le_of_ble_eq_true rfl) rfl ?_
    intro z hz am we tab hR
    subst hz
    have am : wt_Am z R_L bl_reach 6 25 (some .int) := am
    refine ji_aload (q := 2) am dl_reach_0 4 rfl rfl ?_
    refine ji_iconst (q := 3) am dl_reach_2 ki_0 rfl ?_
    refine ji_aload_n (q := 4) am dl_reach_3 rfl 0 rfl rfl ?_
    refine ji_iload_n (q := 5) am dl_reach_4 rfl 1 rfl rfl ?_
    refine ji_iload_n (q := 6) am dl_reach_5 rfl 2 rfl rfl ?_
    refine ji_iload_n (q := 7) am dl_reach_6 rfl 3 rfl rfl ?_
    refine jq_V (rest := [.int (0 : Int32), .ref (ad_ z 21)]) [.int a1, .int a2, .int a3] am we hR ln_L_x_reach (cy_reach_1 _ _ p0 hF) (by decide) (rc_X am) rfl rfl (Nat.le_of_ble_eq_true rfl) dl_reach_7 [] ⟨0, 12, 15, 13⟩ [⟨0, 12, 19, 81⟩] tab (fun e he => nomatch he) (by decide) (by decide) xl_O we.2.2.2.2.2.2.2.2.1 ?_
    intro q9 H locs ls hP hS hl
    refine lv_astore am.1 am.2.1 dl_reach_15 hl (by decide) rfl (fun ls2 h2 => ?_)
    refine lv_iconst am.1 am.2.1 dl_reach_17 ki_1 ?_
    exact jq_end am (by decide) (by decide) hP hS dl_reach_18
  · refine cw_of (lv := [(0, .ref (v.2.1 0)), (1, .int a1), (2, .int a2), (3, .int a3), (4, .ref (v.2.1 21))]) (by decide) (Nat.le_of_ble_eq_true rfl) rfl ?_
    intro z hz am we tab hR
    subst hz
    have am : wt_Am z R_L bl_reach 6 25 (some .int) := am
    refine ji_aload (q := 2) am dl_reach_0 4 rfl rfl ?_
    refine ji_iconst (q := 3) am dl_reach_2 ki_0 rfl ?_
    refine ji_aload_n (q := 4) am dl_reach_3 rfl 0 rfl rfl ?_
    refine ji_iload_n (q := 5) am dl_reach_4 rfl 1 rfl rfl ?_
    refine ji_iload_n (q := 6) am dl_reach_5 rfl 2 rfl rfl ?_
    refine ji_iload_n (q := 7) am dl_reach_6 rfl 3 rfl rfl ?_
    refine jq_V (rest := [.int (0 : Int32), .ref (ad_ z 21)]) [.int a1, .int a2, .int a3] am we hR ln_L_x_reach (cy_reach_2 _ _ p0 p1 hF) (by decide) (rc_X am) rfl rfl (Nat.le_of_ble_eq_true rfl) dl_reach_7 [] ⟨0, 12, 15, 13⟩ [⟨0, 12, 19, 81⟩] tab (fun e he => nomatch he) (by decide) (by decide) xl_O we.2.2.2.2.2.2.2.2.1 ?_
    intro q9 H locs ls hP hS hl
    refine lv_astore am.1 am.2.1 dl_reach_15 hl (by decide) rfl (fun ls2 h2 => ?_)
    refine lv_iconst am.1 am.2.1 dl_reach_17 ki_1 ?_
    exact jq_end am (by decide) (by decide) hP hS dl_reach_18
  · refine cw_of (lv := [(0, .ref (v.2.1 0)), (1, .int a1), (2, .int a2), (3, .int a3), (4, .ref (v.2.1 21))]) (by decide) (Nat.le_of_ble_eq_true rfl) rfl ?_
    intro z hz am we tab hR
    subst hz
    have am : wt_Am z R_L bl_reach 6 25 (some .int) := am
    refine ji_aload (q := 2) am dl_reach_0 4 rfl rfl ?_
    refine ji_iconst (q := 3) am dl_reach_2 ki_0 rfl ?_
    refine ji_aload_n (q := 4) am dl_reach_3 rfl 0 rfl rfl ?_
    refine ji_iload_n (q := 5) am dl_reach_4 rfl 1 rfl rfl ?_
    refine ji_iload_n (q := 6) am dl_reach_5 rfl 2 rfl rfl ?_
    refine ji_iload_n (q := 7) am dl_reach_6 rfl 3 rfl rfl ?_
    refine jq_V (rest := [.int (0 : Int32), .ref (ad_ z 21)]) [.int a1, .int a2, .int a3] am we hR ln_L_x_reach (cy_reach_3 _ _ p0 p1 p2 hF) (by decide) (rc_X am) rfl rfl (Nat.le_of_ble_eq_true rfl) dl_reach_7 [⟨0, 12, 15, 13⟩] ⟨0, 12, 19, 81⟩ [] tab (by
        intro e he
        obtain rfl := List.mem_singleton.mp he
        exact Or.inr ⟨by decide, E_O, xl_O, we.2.2.2.2.2.2.2.2.2.2.2.2.1⟩) (by decide) (by decide) xl_S we.2.2.2.2.2.2.2.2.2.2.1 ?_
    intro q9 H locs ls hP hS hl
    refine lv_astore am.1 am.2.1 dl_reach_19 hl (by decide) rfl (fun ls2 h2 => ?_)
    refine lv_iconst am.1 am.2.1 dl_reach_21 ki_2 ?_
    exact jq_end am (by decide) (by decide) hP hS dl_reach_22
theorem dl_check_0 : decode bl_check 0 = .ok (.aload 6, 2) := by decide +kernel
theorem dl_check_2 : decode bl_check 2 = .ok (.iconst 0, 1) := by decide +kernel
theorem dl_check_3 : decode bl_check 3 = .ok (.aload_n 0, 1) := by decide +kernel
theorem dl_check_4 : decode bl_check 4 = .ok (.iload_n 1, 1) := by decide +kernel
theorem dl_check_5 : decode bl_check 5 = .ok (.iload_n 2, 1) := by decide +kernel
theorem dl_check_6 : decode bl_check 6 = .ok (.iload_n 3, 1) := by decide +kernel
theorem dl_check_7 : decode bl_check 7 = .ok (.iload 4, 2) := by decide +kernel
theorem dl_check_9 : decode bl_check 9 = .ok (.iload 5, 2) := by decide +kernel
theorem dl_check_11 : decode bl_check 11 = .ok (.invokevirtual 86, 3) := by decide +kernel
theorem dl_check_14 : decode bl_check 14 = .ok (.i2l, 1) := by decide +kernel
theorem dl_check_15 : decode bl_check 15 = .ok (.lastore, 1) := by decide +kernel
theorem dl_check_16 : decode bl_check 16 = .ok (.goto 15, 3) := by decide +kernel
theorem dl_check_19 : decode bl_check 19 = .ok (.astore 7, 2) := by decide +kernel
theorem dl_check_21 : decode bl_check 21 = .ok (.iconst 1, 1) := by decide +kernel
theorem dl_check_22 : decode bl_check 22 = .ok (.ireturn, 1) := by decide +kernel
theorem dl_check_23 : decode bl_check 23 = .ok (.astore 7, 2) := by decide +kernel
theorem dl_check_25 : decode bl_check 25 = .ok (.iconst 2, 1) := by decide +kernel
theorem dl_check_26 : decode bl_check 26 = .ok (.ireturn, 1) := by decide +kernel
theorem dl_check_27 : decode bl_check 27 = .ok (.astore 7, 2) := by decide +kernel
theorem dl_check_29 : decode bl_check 29 = .ok (.iconst 3, 1) := by decide +kernel
theorem dl_check_30 : decode bl_check 30 = .ok (.ireturn, 1) := by decide +kernel
theorem dl_check_31 : decode bl_check 31 = .ok (.iconst 0, 1) := by decide +kernel
theorem dl_check_32 : decode bl_check 32 = .ok (.ireturn, 1) := by decide +kernel
set_option maxHeartbeats 4000000 in
theorem cl_check {v : wt_V} {s : wt_S} {a1 : Int32} {a2 : Int32} {a3 : Int32} {a4 : Int32} {a5 : Int32} {r : Int32} {s2 : wt_S} (t : wt_M) (o : Nat → Int64) (hF : fx_check s a1 a2 a3 a4 a5 = some (r, s2)) : cw_C v yl_check (Cond.codeWith yl_check bl_check 8 (some .int) [(0, 16, 19, 13), (0, 16, 23, 23), (0, 16, 27, 81)]) 25 [.ref (v.2.1 0), .int a1, .int a2, .int a3, .int a4, .int a5, .ref (v.2.1 21)] 0 (s, t, o) (s2, t, vp_updL o 0 r.toInt64) := by
  refine cw_of (lv := [(0, .ref (v.2.1 0)), (1, .int a1), (2, .int a2), (3, .int a3), (4, .int a4), (5, .int a5), (6, .ref (v.2.1 21))]) (by decide) (Nat.le_of_ble_eq_true rfl) rfl ?_
  intro z hz am we tab hR
  subst hz
  have am : wt_Am z R_L bl_check 8 25 (some .int) := am
  refine ji_aload (q := 2) am dl_check_0 6 rfl rfl ?_
  refine ji_iconst (q := 3) am dl_check_2 ki_0 rfl ?_
  refine ji_aload_n (q := 4) am dl_check_3 rfl 0 rfl rfl ?_
  refine ji_iload_n (q := 5) am dl_check_4 rfl 1 rfl rfl ?_
  refine ji_iload_n (q := 6) am dl_check_5 rfl 2 rfl rfl ?_
  refine ji_iload_n (q := 7) am dl_check_6 rfl 3 rfl rfl ?_
  refine ji_iload (q := 9) am dl_check_7 4 rfl rfl ?_
  refine ji_iload (q := 11) am dl_check_9 5 rfl rfl ?_
  refine jr_J (ret := (some (.int r))) (rest := [.int (0 : Int32), .ref (ad_ z 21)]) (jr_V [.int a1, .int a2, .int a3, .int a4, .int a5] am ln_L_x_check (ctx_check _ _ hF) (by decide) (rc_X am) rfl rfl (Nat.le_of_ble_eq_true rfl) dl_check_11) ?_
  show jj_J z 8 14 [(0, .ref (ad_ z 0)), (1, .int a1), (2, .int a2), (3, .int a3), (4, .int a4), (5, .int a5), (6, .ref (ad_ z 21))] [.int r, .int (0 : Int32), .ref (ad_ z 21)] (s2, t, o) _ _
  refine ji_i2l (q := 15) am dl_check_14 rfl ?_
  refine ji_ast_out (q := 16) am dl_check_15 rfl ?_
  refine ji_goto (q := 31) am dl_check_16 rfl ?_
  refine ji_iconst (q := 32) am dl_check_31 ki_0 rfl ?_
  exact jq_ret am dl_check_32
set_option maxHeartbeats 4000000 in
theorem ce_check {v : wt_V} {s : wt_S} {a1 : Int32} {a2 : Int32} {a3 : Int32} {a4 : Int32} {a5 : Int32} {k : Nat} (t : wt_M) (o : Nat → Int64) (hT : tk_check s a1 a2 a3 a4 a5 k) : cw_C v yl_check (Cond.codeWith yl_check bl_check 8 (some .int) [(0, 16, 19, 13), (0, 16, 23, 23), (0, 16, 27, 81)]) 25 [.ref (v.2.1 0), .int a1, .int a2, .int a3, .int a4, .int a5, .ref (v.2.1 21)] (nI k) (s, t, o) (s, t, o) := by
  rcases hT with ⟨hF, rfl⟩ | ⟨p0, hF, rfl⟩ | ⟨p0, p1, hF, rfl⟩ | ⟨p0, p1, p2, hF, rfl⟩ | ⟨p0, p1, p2, p3, hF, rfl⟩ | ⟨p0, p1, p2, p3, p4, hF, rfl⟩ | ⟨p0, p1, p2, p3, p4, p5, hF, rfl⟩
  · refine cw_of (lv := [(0, .ref (v.2.1 0)), (1, .int a1), (2, .int a2), (3, .int a3), (4, .int a4), (5, .int a5), (6, .ref (v.2.1 21))]) (by decide) (Nat.le_of_ble_eq_true rfl) rfl ?_
    intro z hz am we tab hR
    subst hz
    have am : wt_Am z R_L bl_check 8 25 (some .int) := am
    refine ji_aload (q := 2) am dl_check_0 6 rfl rfl ?_
    refine ji_iconst (q := 3) am dl_check_2 ki_0 rfl ?_
    refine ji_aload_n (q := 4) am dl_check_3 rfl 0 rfl rfl ?_
    refine ji_iload_n (q := 5) am dl_check_4 rfl 1 rfl rfl ?_
    refine ji_iload_n (q := 6) am dl_check_5 rfl 2 rfl rfl ?_
    refine ji_iload_n (q := 7) am dl_check_6 rfl 3 rfl rfl ?_
    refine ji_iload (q := 9) am dl_check_7 4 rfl rfl ?_
    refine ji_iload (q := 11) am dl_check_9 5 rfl rfl ?_
    refine jq_V (rest := [.int (0 : Int32), .ref (ad_ z 21)]) [.int a1, .int a2, .int a3, .int a4, .int a5] am we hR ln_L_x_check (cy_check_0 _ _  hF) (by decide) (rc_X am) rfl rfl (Nat.le_of_ble_eq_true rfl) dl_check_11 [] ⟨0, 16, 19, 13⟩ [⟨0, 16, 23, 23⟩, ⟨0, 16, 27, 81⟩] tab (fun e he => nomatch he) (by decide) (by decide) xl_O we.2.2.2.2.2.2.2.2.1 ?_
    intro q9 H locs ls hP hS hl
    refine lv_astore am.1 am.2.1 dl_check_19 hl (by decide) rfl (fun ls2 h2 => ?_)
    refine lv_iconst am.1 am.2.1 dl_check_21 ki_1 ?_
    exact jq_end am (by decide) (by decide) hP hS dl_check_22
  · refine cw_of (lv := [(0, .ref (v.2.1 0)), (1, .int a1), (2, .int a2), (3, .int a3), (4, .int a4), (5, .int a5), (6, .ref (v.2.1 21))]) (by decide) (Nat.le_of_ble_eq_true rfl) rfl ?_
    intro z hz am we tab hR
    subst hz
    have am : wt_Am z R_L bl_check 8 25 (some .int) := am
    refine ji_aload (q := 2) am dl_check_0 6 rfl rfl ?_
    refine ji_iconst (q := 3) am dl_check_2 ki_0 rfl ?_
    refine ji_aload_n (q := 4) am dl_check_3 rfl 0 rfl rfl ?_
    refine ji_iload_n (q := 5) am dl_check_4 rfl 1 rfl rfl ?_
    refine ji_iload_n (q := 6) am dl_check_5 rfl 2 rfl rfl ?_
    refine ji_iload_n (q := 7) am dl_check_6 rfl 3 rfl rfl ?_
    refine ji_iload (q := 9) am dl_check_7 4 rfl rfl ?_
    refine ji_iload (q := 11) am dl_check_9 5 rfl rfl ?_
    refine jq_V (rest := [.int (0 : Int32), .ref (ad_ z 21)]) [.int a1, .int a2, .int a3, .int a4, .int a5] am we hR ln_L_x_check (cy_check_1 _ _ p0 hF) (by decide) (rc_X am) rfl rfl (Nat.le_of_ble_eq_true rfl) dl_check_11 [] ⟨0, 16, 19, 13⟩ [⟨0, 16, 23, 23⟩, ⟨0, 16, 27, 81⟩] tab (fun e he => nomatch he) (by decide) (by decide) xl_O we.2.2.2.2.2.2.2.2.1 ?_
    intro q9 H locs ls hP hS hl
    refine lv_astore am.1 am.2.1 dl_check_19 hl (by decide) rfl (fun ls2 h2 => ?_)
    refine lv_iconst am.1 am.2.1 dl_check_21 ki_1 ?_
    exact jq_end am (by decide) (by decide) hP hS dl_check_22
  · refine cw_of (lv := [(0, .ref (v.2.1 0)), (1, .int a1), (2, .int a2), (3, .int a3), (4, .int a4), (5, .int a5), (6, .ref (v.2.1 21))]) (by decide) (Nat.le_of_ble_eq_true rfl) rfl ?_
    intro z hz am we tab hR
    subst hz
    have am : wt_Am z R_L bl_check 8 25 (some .int) := am
    refine ji_aload (q := 2) am dl_check_0 6 rfl rfl ?_
    refine ji_iconst (q := 3) am dl_check_2 ki_0 rfl ?_
    refine ji_aload_n (q := 4) am dl_check_3 rfl 0 rfl rfl ?_
    refine ji_iload_n (q := 5) am dl_check_4 rfl 1 rfl rfl ?_
    refine ji_iload_n (q := 6) am dl_check_5 rfl 2 rfl rfl ?_
    refine ji_iload_n (q := 7) am dl_check_6 rfl 3 rfl rfl ?_
    refine ji_iload (q := 9) am dl_check_7 4 rfl rfl ?_
    refine ji_iload (q := 11) am dl_check_9 5 rfl rfl ?_
    refine jq_V (rest := [.int (0 : Int32), .ref (ad_ z 21)]) [.int a1, .int a2, .int a3, .int a4, .int a5] am we hR ln_L_x_check (cy_check_2 _ _ p0 p1 hF) (by decide) (rc_X am) rfl rfl (Nat.le_of_ble_eq_true rfl) dl_check_11 [] ⟨0, 16, 19, 13⟩ [⟨0, 16, 23, 23⟩, ⟨0, 16, 27, 81⟩] tab (fun e he => nomatch he) (by decide) (by decide) xl_O we.2.2.2.2.2.2.2.2.1 ?_
    intro q9 H locs ls hP hS hl
    refine lv_astore am.1 am.2.1 dl_check_19 hl (by decide) rfl (fun ls2 h2 => ?_)
    refine lv_iconst am.1 am.2.1 dl_check_21 ki_1 ?_
    exact jq_end am (by decide) (by decide) hP hS dl_check_22
  · refine cw_of (lv := [(0, .ref (v.2.1 0)), (1, .int a1), (2, .int a2), (3, .int a3), (4, .int a4), (5, .int a5), (6, .ref (v.2.1 21))]) (by decide) (Nat.le_of_ble_eq_true rfl) rfl ?_
    intro z hz am we tab hR
    subst hz
    have am : wt_Am z R_L bl_check 8 25 (some .int) := am
    refine ji_aload (q := 2) am dl_check_0 6 rfl rfl ?_
    refine ji_iconst (q := 3) am dl_check_2 ki_0 rfl ?_
    refine ji_aload_n (q := 4) am dl_check_3 rfl 0 rfl rfl ?_
    refine ji_iload_n (q := 5) am dl_check_4 rfl 1 rfl rfl ?_
    refine ji_iload_n (q := 6) am dl_check_5 rfl 2 rfl rfl ?_
    refine ji_iload_n (q := 7) am dl_check_6 rfl 3 rfl rfl ?_
    refine ji_iload (q := 9) am dl_check_7 4 rfl rfl ?_
    refine ji_iload (q := 11) am dl_check_9 5 rfl rfl ?_
    refine jq_V (rest := [.int (0 : Int32), .ref (ad_ z 21)]) [.int a1, .int a2, .int a3, .int a4, .int a5] am we hR ln_L_x_check (cy_check_3 _ _ p0 p1 p2 hF) (by decide) (rc_X am) rfl rfl (Nat.le_of_ble_eq_true rfl) dl_check_11 [] ⟨0, 16, 19, 13⟩ [⟨0, 16, 23, 23⟩, ⟨0, 16, 27, 81⟩] tab (fun e he => nomatch he) (by decide) (by decide) xl_O we.2.2.2.2.2.2.2.2.1 ?_
    intro q9 H locs ls hP hS hl
    refine lv_astore am.1 am.2.1 dl_check_19 hl (by decide) rfl (fun ls2 h2 => ?_)
    refine lv_iconst am.1 am.2.1 dl_check_21 ki_1 ?_
    exact jq_end am (by decide) (by decide) hP hS dl_check_22
  · refine cw_of (lv := [(0, .ref (v.2.1 0)), (1, .int a1), (2, .int a2), (3, .int a3), (4, .int a4), (5, .int a5), (6, .ref (v.2.1 21))]) (by decide) (Nat.le_of_ble_eq_true rfl) rfl ?_
    intro z hz am we tab hR
    subst hz
    have am : wt_Am z R_L bl_check 8 25 (some .int) := am
    refine ji_aload (q := 2) am dl_check_0 6 rfl rfl ?_
    refine ji_iconst (q := 3) am dl_check_2 ki_0 rfl ?_
    refine ji_aload_n (q := 4) am dl_check_3 rfl 0 rfl rfl ?_
    refine ji_iload_n (q := 5) am dl_check_4 rfl 1 rfl rfl ?_
    refine ji_iload_n (q := 6) am dl_check_5 rfl 2 rfl rfl ?_
    refine ji_iload_n (q := 7) am dl_check_6 rfl 3 rfl rfl ?_
    refine ji_iload (q := 9) am dl_check_7 4 rfl rfl ?_
    refine ji_iload (q := 11) am dl_check_9 5 rfl rfl ?_
    refine jq_V (rest := [.int (0 : Int32), .ref (ad_ z 21)]) [.int a1, .int a2, .int a3, .int a4, .int a5] am we hR ln_L_x_check (cy_check_4 _ _ p0 p1 p2 p3 hF) (by decide) (rc_X am) rfl rfl (Nat.le_of_ble_eq_true rfl) dl_check_11 [⟨0, 16, 19, 13⟩] ⟨0, 16, 23, 23⟩ [⟨0, 16, 27, 81⟩] tab (by
        intro e he
        obtain rfl := List.mem_singleton.mp he
        exact Or.inr ⟨by decide, E_O, xl_O, we.2.2.2.2.2.2.2.2.2.2.2.1⟩) (by decide) (by decide) xl_A we.2.2.2.2.2.2.2.2.2.1 ?_
    intro q9 H locs ls hP hS hl
    refine lv_astore am.1 am.2.1 dl_check_23 hl (by decide) rfl (fun ls2 h2 => ?_)
    refine lv_iconst am.1 am.2.1 dl_check_25 ki_2 ?_
    exact jq_end am (by decide) (by decide) hP hS dl_check_26
  · refine cw_of (lv := [(0, .ref (v.2.1 0)), (1, .int a1), (2, .int a2), (3, .int a3), (4, .int a4), (5, .int a5), (6, .ref (v.2.1 21))]) (by decide) (Nat.le_of_ble_eq_true rfl) rfl ?_
    intro z hz am we tab hR
    subst hz
    have am : wt_Am z R_L bl_check 8 25 (some .int) := am
    refine ji_aload (q := 2) am dl_check_0 6 rfl rfl ?_
    refine ji_iconst (q := 3) am dl_check_2 ki_0 rfl ?_
    refine ji_aload_n (q := 4) am dl_check_3 rfl 0 rfl rfl ?_
    refine ji_iload_n (q := 5) am dl_check_4 rfl 1 rfl rfl ?_
    refine ji_iload_n (q := 6) am dl_check_5 rfl 2 rfl rfl ?_
    refine ji_iload_n (q := 7) am dl_check_6 rfl 3 rfl rfl ?_
    refine ji_iload (q := 9) am dl_check_7 4 rfl rfl ?_
    refine ji_iload (q := 11) am dl_check_9 5 rfl rfl ?_
    refine jq_V (rest := [.int (0 : Int32), .ref (ad_ z 21)]) [.int a1, .int a2, .int a3, .int a4, .int a5] am we hR ln_L_x_check (cy_check_5 _ _ p0 p1 p2 p3 p4 hF) (by decide) (rc_X am) rfl rfl (Nat.le_of_ble_eq_true rfl) dl_check_11 [⟨0, 16, 19, 13⟩, ⟨0, 16, 23, 23⟩] ⟨0, 16, 27, 81⟩ [] tab (by
        intro e he
        rcases List.mem_cons.mp he with rfl | he
        · exact Or.inr ⟨by decide, E_O, xl_O, we.2.2.2.2.2.2.2.2.2.2.2.2.1⟩
        · obtain rfl := List.mem_singleton.mp he
          exact Or.inr ⟨by decide, E_A, xl_A, we.2.2.2.2.2.2.2.2.2.2.2.2.2.1⟩) (by decide) (by decide) xl_S we.2.2.2.2.2.2.2.2.2.2.1 ?_
    intro q9 H locs ls hP hS hl
    refine lv_astore am.1 am.2.1 dl_check_27 hl (by decide) rfl (fun ls2 h2 => ?_)
    refine lv_iconst am.1 am.2.1 dl_check_29 ki_3 ?_
    exact jq_end am (by decide) (by decide) hP hS dl_check_30
  · refine cw_of (lv := [(0, .ref (v.2.1 0)), (1, .int a1), (2, .int a2), (3, .int a3), (4, .int a4), (5, .int a5), (6, .ref (v.2.1 21))]) (by decide) (Nat.le_of_ble_eq_true rfl) rfl ?_
    intro z hz am we tab hR
    subst hz
    have am : wt_Am z R_L bl_check 8 25 (some .int) := am
    refine ji_aload (q := 2) am dl_check_0 6 rfl rfl ?_
    refine ji_iconst (q := 3) am dl_check_2 ki_0 rfl ?_
    refine ji_aload_n (q := 4) am dl_check_3 rfl 0 rfl rfl ?_
    refine ji_iload_n (q := 5) am dl_check_4 rfl 1 rfl rfl ?_
    refine ji_iload_n (q := 6) am dl_check_5 rfl 2 rfl rfl ?_
    refine ji_iload_n (q := 7) am dl_check_6 rfl 3 rfl rfl ?_
    refine ji_iload (q := 9) am dl_check_7 4 rfl rfl ?_
    refine ji_iload (q := 11) am dl_check_9 5 rfl rfl ?_
    refine jq_V (rest := [.int (0 : Int32), .ref (ad_ z 21)]) [.int a1, .int a2, .int a3, .int a4, .int a5] am we hR ln_L_x_check (cy_check_6 _ _ p0 p1 p2 p3 p4 p5 hF) (by decide) (rc_X am) rfl rfl (Nat.le_of_ble_eq_true rfl) dl_check_11 [⟨0, 16, 19, 13⟩, ⟨0, 16, 23, 23⟩] ⟨0, 16, 27, 81⟩ [] tab (by
        intro e he
        rcases List.mem_cons.mp he with rfl | he
        · exact Or.inr ⟨by decide, E_O, xl_O, we.2.2.2.2.2.2.2.2.2.2.2.2.1⟩
        · obtain rfl := List.mem_singleton.mp he
          exact Or.inr ⟨by decide, E_A, xl_A, we.2.2.2.2.2.2.2.2.2.2.2.2.2.1⟩) (by decide) (by decide) xl_S we.2.2.2.2.2.2.2.2.2.2.1 ?_
    intro q9 H locs ls hP hS hl
    refine lv_astore am.1 am.2.1 dl_check_27 hl (by decide) rfl (fun ls2 h2 => ?_)
    refine lv_iconst am.1 am.2.1 dl_check_29 ki_3 ?_
    exact jq_end am (by decide) (by decide) hP hS dl_check_30
