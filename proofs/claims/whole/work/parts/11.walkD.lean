/-! Walks of A.fill3, A.fill7, D.root, D.live, D.variableAt, D.clearMarks, D.mark, D.bucket, D.sweep, D.collect, D.keep, D.hold, D.found, D.added, D.node, D.literal, D.upper, D.offWay, D.onWay: printed by my program out of the listing. -/
theorem da_fill_0 : decode ba_fill 0 = .ok (.iconst 0, 1) := by decide +kernel
theorem da_fill_1 : decode ba_fill 1 = .ok (.istore_n 2, 1) := by decide +kernel
theorem da_fill_2 : decode ba_fill 2 = .ok (.aload_n 0, 1) := by decide +kernel
theorem da_fill_3 : decode ba_fill 3 = .ok (.arraylength, 1) := by decide +kernel
theorem da_fill_4 : decode ba_fill 4 = .ok (.istore_n 3, 1) := by decide +kernel
theorem da_fill_5 : decode ba_fill 5 = .ok (.iload_n 2, 1) := by decide +kernel
theorem da_fill_6 : decode ba_fill 6 = .ok (.iload_n 3, 1) := by decide +kernel
theorem da_fill_7 : decode ba_fill 7 = .ok (.if_icmp .ge 13, 3) := by decide +kernel
theorem da_fill_10 : decode ba_fill 10 = .ok (.aload_n 0, 1) := by decide +kernel
theorem da_fill_11 : decode ba_fill 11 = .ok (.iload_n 2, 1) := by decide +kernel
theorem da_fill_12 : decode ba_fill 12 = .ok (.iload_n 1, 1) := by decide +kernel
theorem da_fill_13 : decode ba_fill 13 = .ok (.iastore, 1) := by decide +kernel
theorem da_fill_14 : decode ba_fill 14 = .ok (.iinc 2 1, 3) := by decide +kernel
theorem da_fill_17 : decode ba_fill 17 = .ok (.goto (-12), 3) := by decide +kernel
theorem da_fill_20 : decode ba_fill 20 = .ok (.return_, 1) := by decide +kernel
set_option maxHeartbeats 4000000 in
set_option maxRecDepth 100000 in
theorem la_fill3_5 {z : wt_Z} {t : wt_M} {o : Nat → Int64} {c1 : Int32} {c3 : Int32} (am : wt_Am z R_A ba_fill 4 1 none) : ∀ (n : Nat) (x2 : Int32) (s : wt_S), jj_J z 4 5 [(0, .ref (ad_ z 5)), (1, .int c1), (2, .int x2), (3, .int c3)] [] (s, t, o) (q_S z t o) (fa_fill3_L5 c1 c3 n x2 s) := by
  intro n
  induction n with
  | zero =>
    intro x2 s
    exact ji_none
  | succ n ih =>
    intro x2 s
    rw [fa_fill3_L5]
    refine ji_iload_n (q := 6) am da_fill_5 rfl 2 rfl rfl ?_
    refine ji_iload_n (q := 7) am da_fill_6 rfl 3 rfl rfl ?_
    refine ji_icmp_ge (q := 10) (g := 20) am da_fill_7 rfl rfl ?_ ?_
    · exact ji_vret am rfl da_fill_20 rfl rfl
    · refine ji_aload_n (q := 11) am da_fill_10 rfl 0 rfl rfl ?_
      refine ji_iload_n (q := 12) am da_fill_11 rfl 2 rfl rfl ?_
      refine ji_iload_n (q := 13) am da_fill_12 rfl 1 rfl rfl ?_
      refine ji_ast_D3 (q := 14) am da_fill_13 rfl ?_
      intro s13
      refine ji_iinc (q := 17) (lv' := [(0, .ref (ad_ z 5)), (1, .int c1), (2, .int (x2 + 1)), (3, .int c3)]) am da_fill_14 2 rfl ki_1 [1, 2, 0, 3] rfl rfl rfl ?_
      refine ji_goto (q := 5) am da_fill_17 rfl ?_
      exact ih _ _
set_option maxHeartbeats 4000000 in
set_option maxRecDepth 100000 in
theorem cta_fill3 {v : wt_V} {s : wt_S} {a2 : Int32} {s2 : wt_S} (t : wt_M) (o : Nat → Int64) (hF : fa_fill3 s a2 = some s2) : ct_C v ya_fill (Cond.code ya_fill ba_fill 4 none) 1 [.ref (v.2.1 5), .int a2] none (s, t, o) (s2, t, o) := by
  refine ct_of (lv := [(0, .ref (v.2.1 5)), (1, .int a2)]) (fun _ : wt_S => none) (fun r => (r, t, o)) (by decide) (Nat.le_of_ble_eq_true rfl) rfl ?_ s2 hF
  intro z hz am
  subst hz
  have am : wt_Am z R_A ba_fill 4 1 none := am
  show jj_J z 4 0 [(0, .ref (ad_ z 5)), (1, .int a2)] [] (s, t, o) (q_S z t o) (fa_fill3 s a2)
  unfold fa_fill3
  refine ji_iconst (q := 1) am da_fill_0 ki_0 rfl ?_
  refine ji_istore_n (lv' := [(0, .ref (ad_ z 5)), (1, .int a2), (2, .int (0 : Int32))]) (q := 2) am da_fill_1 rfl [1, 2, 0] rfl rfl rfl ?_
  refine ji_aload_n (q := 3) am da_fill_2 rfl 0 rfl rfl ?_
  refine ji_alen_D3 (q := 4) am da_fill_3 rfl ?_
  refine ji_istore_n (lv' := [(0, .ref (ad_ z 5)), (1, .int a2), (2, .int (0 : Int32)), (3, .int (2048 : Int32))]) (q := 5) am da_fill_4 rfl [1, 2, 3, 0] rfl rfl rfl ?_
  exact la_fill3_5 am 5000 _ _


set_option maxHeartbeats 4000000 in
set_option maxRecDepth 100000 in
theorem la_fill7_5 {z : wt_Z} {t : wt_M} {o : Nat → Int64} {c1 : Int32} {c3 : Int32} (am : wt_Am z R_A ba_fill 4 1 none) : ∀ (n : Nat) (x2 : Int32) (s : wt_S), jj_J z 4 5 [(0, .ref (ad_ z 9)), (1, .int c1), (2, .int x2), (3, .int c3)] [] (s, t, o) (q_S z t o) (fa_fill7_L5 c1 c3 n x2 s) := by
  intro n
  induction n with
  | zero =>
    intro x2 s
    exact ji_none
  | succ n ih =>
    intro x2 s
    rw [fa_fill7_L5]
    refine ji_iload_n (q := 6) am da_fill_5 rfl 2 rfl rfl ?_
    refine ji_iload_n (q := 7) am da_fill_6 rfl 3 rfl rfl ?_
    refine ji_icmp_ge (q := 10) (g := 20) am da_fill_7 rfl rfl ?_ ?_
    · exact ji_vret am rfl da_fill_20 rfl rfl
    · refine ji_aload_n (q := 11) am da_fill_10 rfl 0 rfl rfl ?_
      refine ji_iload_n (q := 12) am da_fill_11 rfl 2 rfl rfl ?_
      refine ji_iload_n (q := 13) am da_fill_12 rfl 1 rfl rfl ?_
      refine ji_ast_D7 (q := 14) am da_fill_13 rfl ?_
      intro s13
      refine ji_iinc (q := 17) (lv' := [(0, .ref (ad_ z 9)), (1, .int c1), (2, .int (x2 + 1)), (3, .int c3)]) am da_fill_14 2 rfl ki_1 [1, 2, 0, 3] rfl rfl rfl ?_
      refine ji_goto (q := 5) am da_fill_17 rfl ?_
      exact ih _ _
set_option maxHeartbeats 4000000 in
set_option maxRecDepth 100000 in
theorem cta_fill7 {v : wt_V} {s : wt_S} {a2 : Int32} {s2 : wt_S} (t : wt_M) (o : Nat → Int64) (hF : fa_fill7 s a2 = some s2) : ct_C v ya_fill (Cond.code ya_fill ba_fill 4 none) 1 [.ref (v.2.1 9), .int a2] none (s, t, o) (s2, t, o) := by
  refine ct_of (lv := [(0, .ref (v.2.1 9)), (1, .int a2)]) (fun _ : wt_S => none) (fun r => (r, t, o)) (by decide) (Nat.le_of_ble_eq_true rfl) rfl ?_ s2 hF
  intro z hz am
  subst hz
  have am : wt_Am z R_A ba_fill 4 1 none := am
  show jj_J z 4 0 [(0, .ref (ad_ z 9)), (1, .int a2)] [] (s, t, o) (q_S z t o) (fa_fill7 s a2)
  unfold fa_fill7
  refine ji_iconst (q := 1) am da_fill_0 ki_0 rfl ?_
  refine ji_istore_n (lv' := [(0, .ref (ad_ z 9)), (1, .int a2), (2, .int (0 : Int32))]) (q := 2) am da_fill_1 rfl [1, 2, 0] rfl rfl rfl ?_
  refine ji_aload_n (q := 3) am da_fill_2 rfl 0 rfl rfl ?_
  refine ji_alen_D7 (q := 4) am da_fill_3 rfl ?_
  refine ji_istore_n (lv' := [(0, .ref (ad_ z 9)), (1, .int a2), (2, .int (0 : Int32)), (3, .int (256 : Int32))]) (q := 5) am da_fill_4 rfl [1, 2, 3, 0] rfl rfl rfl ?_
  exact la_fill7_5 am 5000 _ _

theorem dd_root_0 : decode bd_root 0 = .ok (.aload_n 0, 1) := by decide +kernel
theorem dd_root_1 : decode bd_root 1 = .ok (.getfield 11, 3) := by decide +kernel
theorem dd_root_4 : decode bd_root 4 = .ok (.iload_n 1, 1) := by decide +kernel
theorem dd_root_5 : decode bd_root 5 = .ok (.iaload, 1) := by decide +kernel
theorem dd_root_6 : decode bd_root 6 = .ok (.ireturn, 1) := by decide +kernel
set_option maxHeartbeats 4000000 in
set_option maxRecDepth 100000 in
theorem ctd_root {v : wt_V} {s : wt_S} {a1 : Int32} {r : Int32} (t : wt_M) (o : Nat → Int64) (hF : fd_root s a1 = some r) : ct_C v yd_root (Cond.code yd_root bd_root 2 (some .int)) 1 [.ref (v.2.1 1), .int a1] (some (.int r)) (s, t, o) (s, t, o) := by
  refine ct_of (lv := [(0, .ref (v.2.1 1)), (1, .int a1)]) (fun r : Int32 => some (.int r)) (fun _ => (s, t, o)) (by decide) (Nat.le_of_ble_eq_true rfl) rfl ?_ r hF
  intro z hz am
  subst hz
  have am : wt_Am z R_D bd_root 2 1 (some .int) := am
  show jj_J z 2 0 [(0, .ref (ad_ z 1)), (1, .int a1)] [] (s, t, o) (q_I z s t o) (fd_root s a1)
  unfold fd_root
  refine ji_aload_n (q := 1) am dd_root_0 rfl 0 rfl rfl ?_
  refine ji_get_D_roots (q := 4) am dd_root_1 rfl ?_
  refine ji_iload_n (q := 5) am dd_root_4 rfl 1 rfl rfl ?_
  refine ji_ald_D0 (q := 6) am dd_root_5 rfl ?_
  intro v5
  exact ji_iret am rfl dd_root_6 rfl rfl

theorem dd_live_0 : decode bd_live 0 = .ok (.aload_n 0, 1) := by decide +kernel
theorem dd_live_1 : decode bd_live 1 = .ok (.getfield 40, 3) := by decide +kernel
theorem dd_live_4 : decode bd_live 4 = .ok (.ireturn, 1) := by decide +kernel
set_option maxHeartbeats 4000000 in
set_option maxRecDepth 100000 in
theorem ctd_live {v : wt_V} {s : wt_S} {r : Int32} (t : wt_M) (o : Nat → Int64) (hF : fd_live s = some r) : ct_C v yd_live (Cond.code yd_live bd_live 1 (some .int)) 1 [.ref (v.2.1 1)] (some (.int r)) (s, t, o) (s, t, o) := by
  refine ct_of (lv := [(0, .ref (v.2.1 1))]) (fun r : Int32 => some (.int r)) (fun _ => (s, t, o)) (by decide) (Nat.le_of_ble_eq_true rfl) rfl ?_ r hF
  intro z hz am
  subst hz
  have am : wt_Am z R_D bd_live 1 1 (some .int) := am
  show jj_J z 1 0 [(0, .ref (ad_ z 1))] [] (s, t, o) (q_I z s t o) (fd_live s)
  unfold fd_live
  refine ji_aload_n (q := 1) am dd_live_0 rfl 0 rfl rfl ?_
  refine ji_get_D_live (q := 4) am dd_live_1 rfl ?_
  exact ji_iret am rfl dd_live_4 rfl rfl

theorem dd_variableAt_0 : decode bd_variableAt 0 = .ok (.aload_n 0, 1) := by decide +kernel
theorem dd_variableAt_1 : decode bd_variableAt 1 = .ok (.getfield 15, 3) := by decide +kernel
theorem dd_variableAt_4 : decode bd_variableAt 4 = .ok (.iload_n 1, 1) := by decide +kernel
theorem dd_variableAt_5 : decode bd_variableAt 5 = .ok (.iaload, 1) := by decide +kernel
theorem dd_variableAt_6 : decode bd_variableAt 6 = .ok (.ireturn, 1) := by decide +kernel
set_option maxHeartbeats 4000000 in
set_option maxRecDepth 100000 in
theorem ctd_variableAt {v : wt_V} {s : wt_S} {a1 : Int32} {r : Int32} (t : wt_M) (o : Nat → Int64) (hF : fd_variableAt s a1 = some r) : ct_C v yd_variableAt (Cond.code yd_variableAt bd_variableAt 2 (some .int)) 1 [.ref (v.2.1 1), .int a1] (some (.int r)) (s, t, o) (s, t, o) := by
  refine ct_of (lv := [(0, .ref (v.2.1 1)), (1, .int a1)]) (fun r : Int32 => some (.int r)) (fun _ => (s, t, o)) (by decide) (Nat.le_of_ble_eq_true rfl) rfl ?_ r hF
  intro z hz am
  subst hz
  have am : wt_Am z R_D bd_variableAt 2 1 (some .int) := am
  show jj_J z 2 0 [(0, .ref (ad_ z 1)), (1, .int a1)] [] (s, t, o) (q_I z s t o) (fd_variableAt s a1)
  unfold fd_variableAt
  refine ji_aload_n (q := 1) am dd_variableAt_0 rfl 0 rfl rfl ?_
  refine ji_get_D_atLevel (q := 4) am dd_variableAt_1 rfl ?_
  refine ji_iload_n (q := 5) am dd_variableAt_4 rfl 1 rfl rfl ?_
  refine ji_ald_D1 (q := 6) am dd_variableAt_5 rfl ?_
  intro v5
  exact ji_iret am rfl dd_variableAt_6 rfl rfl

theorem dd_clearMarks_0 : decode bd_clearMarks 0 = .ok (.iconst 0, 1) := by decide +kernel
theorem dd_clearMarks_1 : decode bd_clearMarks 1 = .ok (.istore_n 1, 1) := by decide +kernel
theorem dd_clearMarks_2 : decode bd_clearMarks 2 = .ok (.iload_n 1, 1) := by decide +kernel
theorem dd_clearMarks_3 : decode bd_clearMarks 3 = .ok (.aload_n 0, 1) := by decide +kernel
theorem dd_clearMarks_4 : decode bd_clearMarks 4 = .ok (.getfield 44, 3) := by decide +kernel
theorem dd_clearMarks_7 : decode bd_clearMarks 7 = .ok (.if_icmp .ge 16, 3) := by decide +kernel
theorem dd_clearMarks_10 : decode bd_clearMarks 10 = .ok (.aload_n 0, 1) := by decide +kernel
theorem dd_clearMarks_11 : decode bd_clearMarks 11 = .ok (.getfield 36, 3) := by decide +kernel
theorem dd_clearMarks_14 : decode bd_clearMarks 14 = .ok (.iload_n 1, 1) := by decide +kernel
theorem dd_clearMarks_15 : decode bd_clearMarks 15 = .ok (.iconst 0, 1) := by decide +kernel
theorem dd_clearMarks_16 : decode bd_clearMarks 16 = .ok (.bastore, 1) := by decide +kernel
theorem dd_clearMarks_17 : decode bd_clearMarks 17 = .ok (.iinc 1 1, 3) := by decide +kernel
theorem dd_clearMarks_20 : decode bd_clearMarks 20 = .ok (.goto (-18), 3) := by decide +kernel
theorem dd_clearMarks_23 : decode bd_clearMarks 23 = .ok (.return_, 1) := by decide +kernel
set_option maxHeartbeats 4000000 in
set_option maxRecDepth 100000 in
theorem ld_clearMarks_2 {z : wt_Z} {t : wt_M} {o : Nat → Int64} (am : wt_Am z R_D bd_clearMarks 2 1 none) : ∀ (n : Nat) (x1 : Int32) (s : wt_S), jj_J z 2 2 [(0, .ref (ad_ z 1)), (1, .int x1)] [] (s, t, o) (q_S z t o) (fd_clearMarks_L2 n x1 s) := by
  intro n
  induction n with
  | zero =>
    intro x1 s
    exact ji_none
  | succ n ih =>
    intro x1 s
    rw [fd_clearMarks_L2]
    refine ji_iload_n (q := 3) am dd_clearMarks_2 rfl 1 rfl rfl ?_
    refine ji_aload_n (q := 4) am dd_clearMarks_3 rfl 0 rfl rfl ?_
    refine ji_get_D_end (q := 7) am dd_clearMarks_4 rfl ?_
    refine ji_icmp_ge (q := 10) (g := 23) am dd_clearMarks_7 rfl rfl ?_ ?_
    · exact ji_vret am rfl dd_clearMarks_23 rfl rfl
    · refine ji_aload_n (q := 11) am dd_clearMarks_10 rfl 0 rfl rfl ?_
      refine ji_get_D_marked (q := 14) am dd_clearMarks_11 rfl ?_
      refine ji_iload_n (q := 15) am dd_clearMarks_14 rfl 1 rfl rfl ?_
      refine ji_iconst (q := 16) am dd_clearMarks_15 ki_0 rfl ?_
      refine ji_ast_D8 (q := 17) am dd_clearMarks_16 rfl ?_
      intro s16
      refine ji_iinc (q := 20) (lv' := [(0, .ref (ad_ z 1)), (1, .int (x1 + 1))]) am dd_clearMarks_17 1 rfl ki_1 [1, 0] rfl rfl rfl ?_
      refine ji_goto (q := 2) am dd_clearMarks_20 rfl ?_
      exact ih _ _
set_option maxHeartbeats 4000000 in
set_option maxRecDepth 100000 in
theorem ctd_clearMarks {v : wt_V} {s : wt_S} {s2 : wt_S} (t : wt_M) (o : Nat → Int64) (hF : fd_clearMarks s = some s2) : ct_C v yd_clearMarks (Cond.code yd_clearMarks bd_clearMarks 2 none) 1 [.ref (v.2.1 1)] none (s, t, o) (s2, t, o) := by
  refine ct_of (lv := [(0, .ref (v.2.1 1))]) (fun _ : wt_S => none) (fun r => (r, t, o)) (by decide) (Nat.le_of_ble_eq_true rfl) rfl ?_ s2 hF
  intro z hz am
  subst hz
  have am : wt_Am z R_D bd_clearMarks 2 1 none := am
  show jj_J z 2 0 [(0, .ref (ad_ z 1))] [] (s, t, o) (q_S z t o) (fd_clearMarks s)
  unfold fd_clearMarks
  refine ji_iconst (q := 1) am dd_clearMarks_0 ki_0 rfl ?_
  refine ji_istore_n (lv' := [(0, .ref (ad_ z 1)), (1, .int (0 : Int32))]) (q := 2) am dd_clearMarks_1 rfl [1, 0] rfl rfl rfl ?_
  exact ld_clearMarks_2 am 5000 _ _

theorem dd_mark_0 : decode bd_mark 0 = .ok (.iload_n 1, 1) := by decide +kernel
theorem dd_mark_1 : decode bd_mark 1 = .ok (.iconst 1, 1) := by decide +kernel
theorem dd_mark_2 : decode bd_mark 2 = .ok (.if_icmp .le 18, 3) := by decide +kernel
theorem dd_mark_5 : decode bd_mark 5 = .ok (.aload_n 0, 1) := by decide +kernel
theorem dd_mark_6 : decode bd_mark 6 = .ok (.getfield 36, 3) := by decide +kernel
theorem dd_mark_9 : decode bd_mark 9 = .ok (.iload_n 1, 1) := by decide +kernel
theorem dd_mark_10 : decode bd_mark 10 = .ok (.baload, 1) := by decide +kernel
theorem dd_mark_11 : decode bd_mark 11 = .ok (.ifCond .ne 9, 3) := by decide +kernel
theorem dd_mark_14 : decode bd_mark 14 = .ok (.iload_n 2, 1) := by decide +kernel
theorem dd_mark_15 : decode bd_mark 15 = .ok (.bipush 8, 2) := by decide +kernel
theorem dd_mark_17 : decode bd_mark 17 = .ok (.if_icmp .lt 5, 3) := by decide +kernel
theorem dd_mark_20 : decode bd_mark 20 = .ok (.iconst 0, 1) := by decide +kernel
theorem dd_mark_21 : decode bd_mark 21 = .ok (.ireturn, 1) := by decide +kernel
theorem dd_mark_22 : decode bd_mark 22 = .ok (.aload_n 0, 1) := by decide +kernel
theorem dd_mark_23 : decode bd_mark 23 = .ok (.getfield 36, 3) := by decide +kernel
theorem dd_mark_26 : decode bd_mark 26 = .ok (.iload_n 1, 1) := by decide +kernel
theorem dd_mark_27 : decode bd_mark 27 = .ok (.iconst 1, 1) := by decide +kernel
theorem dd_mark_28 : decode bd_mark 28 = .ok (.bastore, 1) := by decide +kernel
theorem dd_mark_29 : decode bd_mark 29 = .ok (.iconst 1, 1) := by decide +kernel
theorem dd_mark_30 : decode bd_mark 30 = .ok (.aload_n 0, 1) := by decide +kernel
theorem dd_mark_31 : decode bd_mark 31 = .ok (.aload_n 0, 1) := by decide +kernel
theorem dd_mark_32 : decode bd_mark 32 = .ok (.getfield 24, 3) := by decide +kernel
theorem dd_mark_35 : decode bd_mark 35 = .ok (.iload_n 1, 1) := by decide +kernel
theorem dd_mark_36 : decode bd_mark 36 = .ok (.iaload, 1) := by decide +kernel
theorem dd_mark_37 : decode bd_mark 37 = .ok (.iload_n 2, 1) := by decide +kernel
theorem dd_mark_38 : decode bd_mark 38 = .ok (.iconst 1, 1) := by decide +kernel
theorem dd_mark_39 : decode bd_mark 39 = .ok (.iadd, 1) := by decide +kernel
theorem dd_mark_40 : decode bd_mark 40 = .ok (.invokevirtual 99, 3) := by decide +kernel
theorem dd_mark_43 : decode bd_mark 43 = .ok (.iadd, 1) := by decide +kernel
theorem dd_mark_44 : decode bd_mark 44 = .ok (.aload_n 0, 1) := by decide +kernel
theorem dd_mark_45 : decode bd_mark 45 = .ok (.aload_n 0, 1) := by decide +kernel
theorem dd_mark_46 : decode bd_mark 46 = .ok (.getfield 27, 3) := by decide +kernel
theorem dd_mark_49 : decode bd_mark 49 = .ok (.iload_n 1, 1) := by decide +kernel
theorem dd_mark_50 : decode bd_mark 50 = .ok (.iaload, 1) := by decide +kernel
theorem dd_mark_51 : decode bd_mark 51 = .ok (.iload_n 2, 1) := by decide +kernel
theorem dd_mark_52 : decode bd_mark 52 = .ok (.iconst 1, 1) := by decide +kernel
theorem dd_mark_53 : decode bd_mark 53 = .ok (.iadd, 1) := by decide +kernel
theorem dd_mark_54 : decode bd_mark 54 = .ok (.invokevirtual 99, 3) := by decide +kernel
theorem dd_mark_57 : decode bd_mark 57 = .ok (.iadd, 1) := by decide +kernel
theorem dd_mark_58 : decode bd_mark 58 = .ok (.ireturn, 1) := by decide +kernel
set_option maxHeartbeats 4000000 in
set_option maxRecDepth 100000 in
theorem ctd_mark {v : wt_V} (t : wt_M) (o : Nat → Int64) : ∀ (n : Nat) (s : wt_S) (a1 : Int32) (a2 : Int32) (r : Int32) (s2 : wt_S), fd_mark n s a1 a2 = some (r, s2) → ct_C v yd_mark (Cond.code yd_mark bd_mark 3 (some .int)) (n + 0) [.ref (v.2.1 1), .int a1, .int a2] (some (.int r)) (s, t, o) (s2, t, o) := by
  intro n
  induction n with
  | zero =>
    intro s a1 a2 r s2 hF
    cases (show (none : Option (Int32 × wt_S)) = some _ from hF)
  | succ n ih =>
    intro s a1 a2 r s2 hF
    refine ct_of (lv := [(0, .ref (v.2.1 1)), (1, .int a1), (2, .int a2)]) (fun r : Int32 × wt_S => some (.int r.1)) (fun r => (r.2, t, o)) (by decide) (Nat.le_of_ble_eq_true rfl) rfl ?_ (r, s2) hF
    intro z hz am
    subst hz
    have am : wt_Am z R_D bd_mark 3 (n + 1 + 0) (some .int) := am
    show jj_J z 3 0 [(0, .ref (ad_ z 1)), (1, .int a1), (2, .int a2)] [] (s, t, o) (q_IS z t o) (fd_mark (n + 1) s a1 a2)
    rw [fd_mark]
    refine ji_iload_n (q := 1) am dd_mark_0 rfl 1 rfl rfl ?_
    refine ji_iconst (q := 2) am dd_mark_1 ki_1 rfl ?_
    refine ji_jn2 (fun j => ∀ (u20 : Unit), jj_J z 3 20 [] [] (s, t, o) (q_IS z t o) (j u20)) ?_ ?_
    · intro u20
      refine ji_iconst (q := 21) am dd_mark_20 ki_0 rfl ?_
      exact ji_iret am rfl dd_mark_21 rfl rfl
    · intro j20 hj20
      refine ji_icmp_le (q := 5) (g := 20) am dd_mark_2 rfl rfl ?_ ?_
      · exact ji_sub (lv' := []) [] rfl (hj20 _)
      · refine ji_aload_n (q := 6) am dd_mark_5 rfl 0 rfl rfl ?_
        refine ji_get_D_marked (q := 9) am dd_mark_6 rfl ?_
        refine ji_iload_n (q := 10) am dd_mark_9 rfl 1 rfl rfl ?_
        refine ji_ald_D8 (q := 11) am dd_mark_10 rfl ?_
        intro v10
        refine ji_if_ne (q := 14) (g := 20) am dd_mark_11 rfl rfl ?_ ?_
        · exact ji_sub (lv' := []) [] rfl (hj20 _)
        · refine ji_iload_n (q := 15) am dd_mark_14 rfl 2 rfl rfl ?_
          refine ji_bipush (q := 17) am dd_mark_15 kb_8 rfl ?_
          refine ji_icmp_lt (q := 20) (g := 22) am dd_mark_17 rfl rfl ?_ ?_
          · refine ji_aload_n (q := 23) am dd_mark_22 rfl 0 rfl rfl ?_
            refine ji_get_D_marked (q := 26) am dd_mark_23 rfl ?_
            refine ji_iload_n (q := 27) am dd_mark_26 rfl 1 rfl rfl ?_
            refine ji_iconst (q := 28) am dd_mark_27 ki_1 rfl ?_
            refine ji_ast_D8 (q := 29) am dd_mark_28 rfl ?_
            intro s28
            refine ji_iconst (q := 30) am dd_mark_29 ki_1 rfl ?_
            refine ji_aload_n (q := 31) am dd_mark_30 rfl 0 rfl rfl ?_
            refine ji_aload_n (q := 32) am dd_mark_31 rfl 0 rfl rfl ?_
            refine ji_get_D_low (q := 35) am dd_mark_32 rfl ?_
            refine ji_iload_n (q := 36) am dd_mark_35 rfl 1 rfl rfl ?_
            refine ji_ald_D4 (q := 37) am dd_mark_36 rfl ?_
            intro v36
            refine ji_iload_n (q := 38) am dd_mark_37 rfl 2 rfl rfl ?_
            refine ji_iconst (q := 39) am dd_mark_38 ki_1 rfl ?_
            refine ji_iadd (q := 40) am dd_mark_39 rfl ?_
            refine jk_IS (q := 43) (rest := [.int (1 : Int32)]) (fun r s2 hF => jr_V [.int v36, .int (a2 + (1 : Int32))] am ln_D_d_mark (ih _ _ _ _ _ hF) (by omega) (rc_D am) rfl rfl (Nat.le_of_ble_eq_true rfl) dd_mark_40) rfl ?_
            intro r40 s40
            refine ji_iadd (q := 44) am dd_mark_43 rfl ?_
            refine ji_aload_n (q := 45) am dd_mark_44 rfl 0 rfl rfl ?_
            refine ji_aload_n (q := 46) am dd_mark_45 rfl 0 rfl rfl ?_
            refine ji_get_D_high (q := 49) am dd_mark_46 rfl ?_
            refine ji_iload_n (q := 50) am dd_mark_49 rfl 1 rfl rfl ?_
            refine ji_ald_D5 (q := 51) am dd_mark_50 rfl ?_
            intro v50
            refine ji_iload_n (q := 52) am dd_mark_51 rfl 2 rfl rfl ?_
            refine ji_iconst (q := 53) am dd_mark_52 ki_1 rfl ?_
            refine ji_iadd (q := 54) am dd_mark_53 rfl ?_
            refine jk_IS (q := 57) (rest := [.int ((1 : Int32) + r40)]) (fun r s2 hF => jr_V [.int v50, .int (a2 + (1 : Int32))] am ln_D_d_mark (ih _ _ _ _ _ hF) (by omega) (rc_D am) rfl rfl (Nat.le_of_ble_eq_true rfl) dd_mark_54) rfl ?_
            intro r54 s54
            refine ji_iadd (q := 58) am dd_mark_57 rfl ?_
            exact ji_iret am rfl dd_mark_58 rfl rfl
          · exact ji_sub (lv' := []) [] rfl (hj20 _)

theorem dd_bucket_0 : decode bd_bucket 0 = .ok (.iload_n 0, 1) := by decide +kernel
theorem dd_bucket_1 : decode bd_bucket 1 = .ok (.bipush 37, 2) := by decide +kernel
theorem dd_bucket_3 : decode bd_bucket 3 = .ok (.iload_n 1, 1) := by decide +kernel
theorem dd_bucket_4 : decode bd_bucket 4 = .ok (.imul, 1) := by decide +kernel
theorem dd_bucket_5 : decode bd_bucket 5 = .ok (.iadd, 1) := by decide +kernel
theorem dd_bucket_6 : decode bd_bucket 6 = .ok (.bipush 101, 2) := by decide +kernel
theorem dd_bucket_8 : decode bd_bucket 8 = .ok (.iload_n 2, 1) := by decide +kernel
theorem dd_bucket_9 : decode bd_bucket 9 = .ok (.imul, 1) := by decide +kernel
theorem dd_bucket_10 : decode bd_bucket 10 = .ok (.iadd, 1) := by decide +kernel
theorem dd_bucket_11 : decode bd_bucket 11 = .ok (.sipush 255, 3) := by decide +kernel
theorem dd_bucket_14 : decode bd_bucket 14 = .ok (.iand, 1) := by decide +kernel
theorem dd_bucket_15 : decode bd_bucket 15 = .ok (.ireturn, 1) := by decide +kernel
set_option maxHeartbeats 4000000 in
set_option maxRecDepth 100000 in
theorem ctd_bucket {v : wt_V} {a1 : Int32} {a2 : Int32} {a3 : Int32} {r : Int32} (s : wt_S) (t : wt_M) (o : Nat → Int64) (hF : fd_bucket a1 a2 a3 = some r) : ct_C v yd_bucket (Cond.code yd_bucket bd_bucket 3 (some .int)) 1 [.int a1, .int a2, .int a3] (some (.int r)) (s, t, o) (s, t, o) := by
  refine ct_of (lv := [(0, .int a1), (1, .int a2), (2, .int a3)]) (fun r : Int32 => some (.int r)) (fun _ => (s, t, o)) (by decide) (Nat.le_of_ble_eq_true rfl) rfl ?_ r hF
  intro z hz am
  subst hz
  have am : wt_Am z R_D bd_bucket 3 1 (some .int) := am
  show jj_J z 3 0 [(0, .int a1), (1, .int a2), (2, .int a3)] [] (s, t, o) (q_I z s t o) (fd_bucket a1 a2 a3)
  unfold fd_bucket
  refine ji_iload_n (q := 1) am dd_bucket_0 rfl 0 rfl rfl ?_
  refine ji_bipush (q := 3) am dd_bucket_1 kb_37 rfl ?_
  refine ji_iload_n (q := 4) am dd_bucket_3 rfl 1 rfl rfl ?_
  refine ji_imul (q := 5) am dd_bucket_4 rfl ?_
  refine ji_iadd (q := 6) am dd_bucket_5 rfl ?_
  refine ji_bipush (q := 8) am dd_bucket_6 kb_101 rfl ?_
  refine ji_iload_n (q := 9) am dd_bucket_8 rfl 2 rfl rfl ?_
  refine ji_imul (q := 10) am dd_bucket_9 rfl ?_
  refine ji_iadd (q := 11) am dd_bucket_10 rfl ?_
  refine ji_sipush (q := 14) am dd_bucket_11 ks_255 rfl ?_
  refine ji_iand (q := 15) am dd_bucket_14 rfl ?_
  exact ji_iret am rfl dd_bucket_15 rfl rfl

theorem dd_sweep_0 : decode bd_sweep 0 = .ok (.aload_n 0, 1) := by decide +kernel
theorem dd_sweep_1 : decode bd_sweep 1 = .ok (.getfield 33, 3) := by decide +kernel
theorem dd_sweep_4 : decode bd_sweep 4 = .ok (.iconst 0, 1) := by decide +kernel
theorem dd_sweep_5 : decode bd_sweep 5 = .ok (.invokestatic 50, 3) := by decide +kernel
theorem dd_sweep_8 : decode bd_sweep 8 = .ok (.iconst 2, 1) := by decide +kernel
theorem dd_sweep_9 : decode bd_sweep 9 = .ok (.istore_n 1, 1) := by decide +kernel
theorem dd_sweep_10 : decode bd_sweep 10 = .ok (.iconst 2, 1) := by decide +kernel
theorem dd_sweep_11 : decode bd_sweep 11 = .ok (.istore_n 2, 1) := by decide +kernel
theorem dd_sweep_12 : decode bd_sweep 12 = .ok (.iload_n 2, 1) := by decide +kernel
theorem dd_sweep_13 : decode bd_sweep 13 = .ok (.aload_n 0, 1) := by decide +kernel
theorem dd_sweep_14 : decode bd_sweep 14 = .ok (.getfield 44, 3) := by decide +kernel
theorem dd_sweep_17 : decode bd_sweep 17 = .ok (.if_icmp .ge 73, 3) := by decide +kernel
theorem dd_sweep_20 : decode bd_sweep 20 = .ok (.aload_n 0, 1) := by decide +kernel
theorem dd_sweep_21 : decode bd_sweep 21 = .ok (.getfield 36, 3) := by decide +kernel
theorem dd_sweep_24 : decode bd_sweep 24 = .ok (.iload_n 2, 1) := by decide +kernel
theorem dd_sweep_25 : decode bd_sweep 25 = .ok (.baload, 1) := by decide +kernel
theorem dd_sweep_26 : decode bd_sweep 26 = .ok (.ifCond .eq 51, 3) := by decide +kernel
theorem dd_sweep_29 : decode bd_sweep 29 = .ok (.aload_n 0, 1) := by decide +kernel
theorem dd_sweep_30 : decode bd_sweep 30 = .ok (.getfield 21, 3) := by decide +kernel
theorem dd_sweep_33 : decode bd_sweep 33 = .ok (.iload_n 2, 1) := by decide +kernel
theorem dd_sweep_34 : decode bd_sweep 34 = .ok (.iaload, 1) := by decide +kernel
theorem dd_sweep_35 : decode bd_sweep 35 = .ok (.aload_n 0, 1) := by decide +kernel
theorem dd_sweep_36 : decode bd_sweep 36 = .ok (.getfield 24, 3) := by decide +kernel
theorem dd_sweep_39 : decode bd_sweep 39 = .ok (.iload_n 2, 1) := by decide +kernel
theorem dd_sweep_40 : decode bd_sweep 40 = .ok (.iaload, 1) := by decide +kernel
theorem dd_sweep_41 : decode bd_sweep 41 = .ok (.aload_n 0, 1) := by decide +kernel
theorem dd_sweep_42 : decode bd_sweep 42 = .ok (.getfield 27, 3) := by decide +kernel
theorem dd_sweep_45 : decode bd_sweep 45 = .ok (.iload_n 2, 1) := by decide +kernel
theorem dd_sweep_46 : decode bd_sweep 46 = .ok (.iaload, 1) := by decide +kernel
theorem dd_sweep_47 : decode bd_sweep 47 = .ok (.invokestatic 117, 3) := by decide +kernel
theorem dd_sweep_50 : decode bd_sweep 50 = .ok (.istore_n 3, 1) := by decide +kernel
theorem dd_sweep_51 : decode bd_sweep 51 = .ok (.aload_n 0, 1) := by decide +kernel
theorem dd_sweep_52 : decode bd_sweep 52 = .ok (.getfield 30, 3) := by decide +kernel
theorem dd_sweep_55 : decode bd_sweep 55 = .ok (.iload_n 2, 1) := by decide +kernel
theorem dd_sweep_56 : decode bd_sweep 56 = .ok (.aload_n 0, 1) := by decide +kernel
theorem dd_sweep_57 : decode bd_sweep 57 = .ok (.getfield 33, 3) := by decide +kernel
theorem dd_sweep_60 : decode bd_sweep 60 = .ok (.iload_n 3, 1) := by decide +kernel
theorem dd_sweep_61 : decode bd_sweep 61 = .ok (.iaload, 1) := by decide +kernel
theorem dd_sweep_62 : decode bd_sweep 62 = .ok (.iastore, 1) := by decide +kernel
theorem dd_sweep_63 : decode bd_sweep 63 = .ok (.aload_n 0, 1) := by decide +kernel
theorem dd_sweep_64 : decode bd_sweep 64 = .ok (.getfield 33, 3) := by decide +kernel
theorem dd_sweep_67 : decode bd_sweep 67 = .ok (.iload_n 3, 1) := by decide +kernel
theorem dd_sweep_68 : decode bd_sweep 68 = .ok (.iload_n 2, 1) := by decide +kernel
theorem dd_sweep_69 : decode bd_sweep 69 = .ok (.iastore, 1) := by decide +kernel
theorem dd_sweep_70 : decode bd_sweep 70 = .ok (.iload_n 2, 1) := by decide +kernel
theorem dd_sweep_71 : decode bd_sweep 71 = .ok (.iconst 1, 1) := by decide +kernel
theorem dd_sweep_72 : decode bd_sweep 72 = .ok (.iadd, 1) := by decide +kernel
theorem dd_sweep_73 : decode bd_sweep 73 = .ok (.istore_n 1, 1) := by decide +kernel
theorem dd_sweep_74 : decode bd_sweep 74 = .ok (.goto 10, 3) := by decide +kernel
theorem dd_sweep_77 : decode bd_sweep 77 = .ok (.aload_n 0, 1) := by decide +kernel
theorem dd_sweep_78 : decode bd_sweep 78 = .ok (.getfield 21, 3) := by decide +kernel
theorem dd_sweep_81 : decode bd_sweep 81 = .ok (.iload_n 2, 1) := by decide +kernel
theorem dd_sweep_82 : decode bd_sweep 82 = .ok (.iconst (-1), 1) := by decide +kernel
theorem dd_sweep_83 : decode bd_sweep 83 = .ok (.iastore, 1) := by decide +kernel
theorem dd_sweep_84 : decode bd_sweep 84 = .ok (.iinc 2 1, 3) := by decide +kernel
theorem dd_sweep_87 : decode bd_sweep 87 = .ok (.goto (-75), 3) := by decide +kernel
theorem dd_sweep_90 : decode bd_sweep 90 = .ok (.aload_n 0, 1) := by decide +kernel
theorem dd_sweep_91 : decode bd_sweep 91 = .ok (.iload_n 1, 1) := by decide +kernel
theorem dd_sweep_92 : decode bd_sweep 92 = .ok (.putfield 44, 3) := by decide +kernel
theorem dd_sweep_95 : decode bd_sweep 95 = .ok (.aload_n 0, 1) := by decide +kernel
theorem dd_sweep_96 : decode bd_sweep 96 = .ok (.iconst 2, 1) := by decide +kernel
theorem dd_sweep_97 : decode bd_sweep 97 = .ok (.putfield 47, 3) := by decide +kernel
theorem dd_sweep_100 : decode bd_sweep 100 = .ok (.return_, 1) := by decide +kernel
set_option maxHeartbeats 4000000 in
set_option maxRecDepth 100000 in
theorem ld_sweep_12 {z : wt_Z} {t : wt_M} {o : Nat → Int64} {K : Int32 → wt_S → Option (wt_S)} (am : wt_Am z R_D bd_sweep 4 2 none) (hK : ∀ (e1 : Int32) (s3 : wt_S), jj_J z 4 90 [(0, .ref (ad_ z 1)), (1, .int e1)] [] (s3, t, o) (q_S z t o) (K e1 s3)) : ∀ (n : Nat) (x1 : Int32) (x2 : Int32) (s : wt_S), jj_J z 4 12 [(0, .ref (ad_ z 1)), (1, .int x1), (2, .int x2)] [] (s, t, o) (q_S z t o) (fd_sweep_L12 K n x1 x2 s) := by
  intro n
  induction n with
  | zero =>
    intro x1 x2 s
    exact ji_none
  | succ n ih =>
    intro x1 x2 s
    rw [fd_sweep_L12]
    refine ji_iload_n (q := 13) am dd_sweep_12 rfl 2 rfl rfl ?_
    refine ji_aload_n (q := 14) am dd_sweep_13 rfl 0 rfl rfl ?_
    refine ji_get_D_end (q := 17) am dd_sweep_14 rfl ?_
    refine ji_icmp_ge (q := 20) (g := 90) am dd_sweep_17 rfl rfl ?_ ?_
    · exact ji_sub (lv' := [(0, .ref (ad_ z 1)), (1, .int x1)]) [0, 1] rfl (hK _ _)
    · refine ji_aload_n (q := 21) am dd_sweep_20 rfl 0 rfl rfl ?_
      refine ji_get_D_marked (q := 24) am dd_sweep_21 rfl ?_
      refine ji_iload_n (q := 25) am dd_sweep_24 rfl 2 rfl rfl ?_
      refine ji_ald_D8 (q := 26) am dd_sweep_25 rfl ?_
      intro v25
      refine ji_jn2 (fun j => ∀ (x1_84 : Int32) (s_84 : wt_S), jj_J z 4 84 [(0, .ref (ad_ z 1)), (1, .int x1_84), (2, .int x2)] [] (s_84, t, o) (q_S z t o) (j x1_84 s_84)) ?_ ?_
      · intro x1_84 s_84
        refine ji_iinc (q := 87) (lv' := [(0, .ref (ad_ z 1)), (1, .int x1_84), (2, .int (x2 + 1))]) am dd_sweep_84 2 rfl ki_1 [1, 2, 0] rfl rfl rfl ?_
        refine ji_goto (q := 12) am dd_sweep_87 rfl ?_
        exact ih _ _ _
      · intro j84 hj84
        refine ji_if_eq (q := 29) (g := 77) am dd_sweep_26 rfl rfl ?_ ?_
        · refine ji_aload_n (q := 78) am dd_sweep_77 rfl 0 rfl rfl ?_
          refine ji_get_D_label (q := 81) am dd_sweep_78 rfl ?_
          refine ji_iload_n (q := 82) am dd_sweep_81 rfl 2 rfl rfl ?_
          refine ji_iconst (q := 83) am dd_sweep_82 ki_m1 rfl ?_
          refine ji_ast_D3 (q := 84) am dd_sweep_83 rfl ?_
          intro s83
          exact hj84 _ _
        · refine ji_aload_n (q := 30) am dd_sweep_29 rfl 0 rfl rfl ?_
          refine ji_get_D_label (q := 33) am dd_sweep_30 rfl ?_
          refine ji_iload_n (q := 34) am dd_sweep_33 rfl 2 rfl rfl ?_
          refine ji_ald_D3 (q := 35) am dd_sweep_34 rfl ?_
          intro v34
          refine ji_aload_n (q := 36) am dd_sweep_35 rfl 0 rfl rfl ?_
          refine ji_get_D_low (q := 39) am dd_sweep_36 rfl ?_
          refine ji_iload_n (q := 40) am dd_sweep_39 rfl 2 rfl rfl ?_
          refine ji_ald_D4 (q := 41) am dd_sweep_40 rfl ?_
          intro v40
          refine ji_aload_n (q := 42) am dd_sweep_41 rfl 0 rfl rfl ?_
          refine ji_get_D_high (q := 45) am dd_sweep_42 rfl ?_
          refine ji_iload_n (q := 46) am dd_sweep_45 rfl 2 rfl rfl ?_
          refine ji_ald_D5 (q := 47) am dd_sweep_46 rfl ?_
          intro v46
          refine jk_I (q := 50) (rest := []) (fun r hF => jr_S [.int v34, .int v40, .int v46] am ln_D_d_bucket (ctd_bucket _ _ _ hF) (by omega) rfl rfl (Nat.le_of_ble_eq_true rfl) dd_sweep_47) rfl ?_
          intro r47
          refine ji_istore_n (lv' := [(0, .ref (ad_ z 1)), (1, .int x1), (2, .int x2), (3, .int r47)]) (q := 51) am dd_sweep_50 rfl [1, 2, 3, 0] rfl rfl rfl ?_
          refine ji_aload_n (q := 52) am dd_sweep_51 rfl 0 rfl rfl ?_
          refine ji_get_D_next (q := 55) am dd_sweep_52 rfl ?_
          refine ji_iload_n (q := 56) am dd_sweep_55 rfl 2 rfl rfl ?_
          refine ji_aload_n (q := 57) am dd_sweep_56 rfl 0 rfl rfl ?_
          refine ji_get_D_heads (q := 60) am dd_sweep_57 rfl ?_
          refine ji_iload_n (q := 61) am dd_sweep_60 rfl 3 rfl rfl ?_
          refine ji_ald_D7 (q := 62) am dd_sweep_61 rfl ?_
          intro v61
          refine ji_ast_D6 (q := 63) am dd_sweep_62 rfl ?_
          intro s62
          refine ji_aload_n (q := 64) am dd_sweep_63 rfl 0 rfl rfl ?_
          refine ji_get_D_heads (q := 67) am dd_sweep_64 rfl ?_
          refine ji_iload_n (q := 68) am dd_sweep_67 rfl 3 rfl rfl ?_
          refine ji_iload_n (q := 69) am dd_sweep_68 rfl 2 rfl rfl ?_
          refine ji_ast_D7 (q := 70) am dd_sweep_69 rfl ?_
          intro s69
          refine ji_iload_n (q := 71) am dd_sweep_70 rfl 2 rfl rfl ?_
          refine ji_iconst (q := 72) am dd_sweep_71 ki_1 rfl ?_
          refine ji_iadd (q := 73) am dd_sweep_72 rfl ?_
          refine ji_istore_n (lv' := [(0, .ref (ad_ z 1)), (1, .int (x2 + (1 : Int32))), (2, .int x2), (3, .int r47)]) (q := 74) am dd_sweep_73 rfl [1, 0, 2, 3] rfl rfl rfl ?_
          refine ji_goto (q := 84) am dd_sweep_74 rfl ?_
          exact ji_sub (lv' := [(0, .ref (ad_ z 1)), (1, .int (x2 + (1 : Int32))), (2, .int x2)]) [0, 1, 2] rfl (hj84 _ _)
set_option maxHeartbeats 4000000 in
set_option maxRecDepth 100000 in
theorem ctd_sweep {v : wt_V} {s : wt_S} {s2 : wt_S} (t : wt_M) (o : Nat → Int64) (hF : fd_sweep s = some s2) : ct_C v yd_sweep (Cond.code yd_sweep bd_sweep 4 none) 2 [.ref (v.2.1 1)] none (s, t, o) (s2, t, o) := by
  refine ct_of (lv := [(0, .ref (v.2.1 1))]) (fun _ : wt_S => none) (fun r => (r, t, o)) (by decide) (Nat.le_of_ble_eq_true rfl) rfl ?_ s2 hF
  intro z hz am
  subst hz
  have am : wt_Am z R_D bd_sweep 4 2 none := am
  show jj_J z 4 0 [(0, .ref (ad_ z 1))] [] (s, t, o) (q_S z t o) (fd_sweep s)
  unfold fd_sweep
  refine ji_aload_n (q := 1) am dd_sweep_0 rfl 0 rfl rfl ?_
  refine ji_get_D_heads (q := 4) am dd_sweep_1 rfl ?_
  refine ji_iconst (q := 5) am dd_sweep_4 ki_0 rfl ?_
  refine jk_S (q := 8) (rest := []) (fun s2 hF => jr_S [.ref (ad_ z 9), .int (0 : Int32)] am ln_D_a_fill (cta_fill7 _ _ hF) (by omega) rfl rfl (Nat.le_of_ble_eq_true rfl) dd_sweep_5) rfl ?_
  intro s5
  refine ji_iconst (q := 9) am dd_sweep_8 ki_2 rfl ?_
  refine ji_istore_n (lv' := [(0, .ref (ad_ z 1)), (1, .int (2 : Int32))]) (q := 10) am dd_sweep_9 rfl [1, 0] rfl rfl rfl ?_
  refine ji_iconst (q := 11) am dd_sweep_10 ki_2 rfl ?_
  refine ji_istore_n (lv' := [(0, .ref (ad_ z 1)), (1, .int (2 : Int32)), (2, .int (2 : Int32))]) (q := 12) am dd_sweep_11 rfl [1, 2, 0] rfl rfl rfl ?_
  refine ld_sweep_12 am (fun z1_12 s_12 => ?_) 5000 _ _ _
  refine ji_aload_n (q := 91) am dd_sweep_90 rfl 0 rfl rfl ?_
  refine ji_iload_n (q := 92) am dd_sweep_91 rfl 1 rfl rfl ?_
  refine ji_put_D_end (q := 95) am dd_sweep_92 rfl ?_
  intro s92
  refine ji_aload_n (q := 96) am dd_sweep_95 rfl 0 rfl rfl ?_
  refine ji_iconst (q := 97) am dd_sweep_96 ki_2 rfl ?_
  refine ji_put_D_cursor (q := 100) am dd_sweep_97 rfl ?_
  intro s97
  exact ji_vret am rfl dd_sweep_100 rfl rfl

theorem dd_collect_0 : decode bd_collect 0 = .ok (.aload_n 0, 1) := by decide +kernel
theorem dd_collect_1 : decode bd_collect 1 = .ok (.invokevirtual 96, 3) := by decide +kernel
theorem dd_collect_4 : decode bd_collect 4 = .ok (.iconst 0, 1) := by decide +kernel
theorem dd_collect_5 : decode bd_collect 5 = .ok (.istore_n 1, 1) := by decide +kernel
theorem dd_collect_6 : decode bd_collect 6 = .ok (.iconst 0, 1) := by decide +kernel
theorem dd_collect_7 : decode bd_collect 7 = .ok (.istore_n 2, 1) := by decide +kernel
theorem dd_collect_8 : decode bd_collect 8 = .ok (.iload_n 2, 1) := by decide +kernel
theorem dd_collect_9 : decode bd_collect 9 = .ok (.bipush 20, 2) := by decide +kernel
theorem dd_collect_11 : decode bd_collect 11 = .ok (.if_icmp .ge 23, 3) := by decide +kernel
theorem dd_collect_14 : decode bd_collect 14 = .ok (.iload_n 1, 1) := by decide +kernel
theorem dd_collect_15 : decode bd_collect 15 = .ok (.aload_n 0, 1) := by decide +kernel
theorem dd_collect_16 : decode bd_collect 16 = .ok (.aload_n 0, 1) := by decide +kernel
theorem dd_collect_17 : decode bd_collect 17 = .ok (.getfield 11, 3) := by decide +kernel
theorem dd_collect_20 : decode bd_collect 20 = .ok (.iload_n 2, 1) := by decide +kernel
theorem dd_collect_21 : decode bd_collect 21 = .ok (.iaload, 1) := by decide +kernel
theorem dd_collect_22 : decode bd_collect 22 = .ok (.iconst 0, 1) := by decide +kernel
theorem dd_collect_23 : decode bd_collect 23 = .ok (.invokevirtual 99, 3) := by decide +kernel
theorem dd_collect_26 : decode bd_collect 26 = .ok (.iadd, 1) := by decide +kernel
theorem dd_collect_27 : decode bd_collect 27 = .ok (.istore_n 1, 1) := by decide +kernel
theorem dd_collect_28 : decode bd_collect 28 = .ok (.iinc 2 1, 3) := by decide +kernel
theorem dd_collect_31 : decode bd_collect 31 = .ok (.goto (-23), 3) := by decide +kernel
theorem dd_collect_34 : decode bd_collect 34 = .ok (.aload_n 0, 1) := by decide +kernel
theorem dd_collect_35 : decode bd_collect 35 = .ok (.iload_n 1, 1) := by decide +kernel
theorem dd_collect_36 : decode bd_collect 36 = .ok (.putfield 40, 3) := by decide +kernel
theorem dd_collect_39 : decode bd_collect 39 = .ok (.aload_n 0, 1) := by decide +kernel
theorem dd_collect_40 : decode bd_collect 40 = .ok (.invokevirtual 114, 3) := by decide +kernel
theorem dd_collect_43 : decode bd_collect 43 = .ok (.return_, 1) := by decide +kernel
set_option maxHeartbeats 4000000 in
set_option maxRecDepth 100000 in
theorem ld_collect_8 {z : wt_Z} {t : wt_M} {o : Nat → Int64} {K : Int32 → wt_S → Option (wt_S)} (am : wt_Am z R_D bd_collect 3 10 none) (hK : ∀ (e1 : Int32) (s3 : wt_S), jj_J z 3 34 [(0, .ref (ad_ z 1)), (1, .int e1)] [] (s3, t, o) (q_S z t o) (K e1 s3)) : ∀ (n : Nat) (x1 : Int32) (x2 : Int32) (s : wt_S), jj_J z 3 8 [(0, .ref (ad_ z 1)), (1, .int x1), (2, .int x2)] [] (s, t, o) (q_S z t o) (fd_collect_L8 K n x1 x2 s) := by
  intro n
  induction n with
  | zero =>
    intro x1 x2 s
    exact ji_none
  | succ n ih =>
    intro x1 x2 s
    rw [fd_collect_L8]
    refine ji_iload_n (q := 9) am dd_collect_8 rfl 2 rfl rfl ?_
    refine ji_bipush (q := 11) am dd_collect_9 kb_20 rfl ?_
    refine ji_icmp_ge (q := 14) (g := 34) am dd_collect_11 rfl rfl ?_ ?_
    · exact ji_sub (lv' := [(0, .ref (ad_ z 1)), (1, .int x1)]) [0, 1] rfl (hK _ _)
    · refine ji_iload_n (q := 15) am dd_collect_14 rfl 1 rfl rfl ?_
      refine ji_aload_n (q := 16) am dd_collect_15 rfl 0 rfl rfl ?_
      refine ji_aload_n (q := 17) am dd_collect_16 rfl 0 rfl rfl ?_
      refine ji_get_D_roots (q := 20) am dd_collect_17 rfl ?_
      refine ji_iload_n (q := 21) am dd_collect_20 rfl 2 rfl rfl ?_
      refine ji_ald_D0 (q := 22) am dd_collect_21 rfl ?_
      intro v21
      refine ji_iconst (q := 23) am dd_collect_22 ki_0 rfl ?_
      refine jk_IS (q := 26) (rest := [.int x1]) (fun r s2 hF => jr_V [.int v21, .int (0 : Int32)] am ln_D_d_mark (ctd_mark t o 9 _ _ _ _ _ hF) (by omega) (rc_D am) rfl rfl (Nat.le_of_ble_eq_true rfl) dd_collect_23) rfl ?_
      intro r23 s23
      refine ji_iadd (q := 27) am dd_collect_26 rfl ?_
      refine ji_istore_n (lv' := [(0, .ref (ad_ z 1)), (1, .int (x1 + r23)), (2, .int x2)]) (q := 28) am dd_collect_27 rfl [1, 0, 2] rfl rfl rfl ?_
      refine ji_iinc (q := 31) (lv' := [(0, .ref (ad_ z 1)), (1, .int (x1 + r23)), (2, .int (x2 + 1))]) am dd_collect_28 2 rfl ki_1 [1, 2, 0] rfl rfl rfl ?_
      refine ji_goto (q := 8) am dd_collect_31 rfl ?_
      exact ih _ _ _
set_option maxHeartbeats 4000000 in
set_option maxRecDepth 100000 in
theorem ctd_collect {v : wt_V} {s : wt_S} {s2 : wt_S} (t : wt_M) (o : Nat → Int64) (hF : fd_collect s = some s2) : ct_C v yd_collect (Cond.code yd_collect bd_collect 3 none) 10 [.ref (v.2.1 1)] none (s, t, o) (s2, t, o) := by
  refine ct_of (lv := [(0, .ref (v.2.1 1))]) (fun _ : wt_S => none) (fun r => (r, t, o)) (by decide) (Nat.le_of_ble_eq_true rfl) rfl ?_ s2 hF
  intro z hz am
  subst hz
  have am : wt_Am z R_D bd_collect 3 10 none := am
  show jj_J z 3 0 [(0, .ref (ad_ z 1))] [] (s, t, o) (q_S z t o) (fd_collect s)
  unfold fd_collect
  refine ji_aload_n (q := 1) am dd_collect_0 rfl 0 rfl rfl ?_
  refine jk_S (q := 4) (rest := []) (fun s2 hF => jr_V [] am ln_D_d_clearMarks (ctd_clearMarks _ _ hF) (by omega) (rc_D am) rfl rfl (Nat.le_of_ble_eq_true rfl) dd_collect_1) rfl ?_
  intro s1
  refine ji_iconst (q := 5) am dd_collect_4 ki_0 rfl ?_
  refine ji_istore_n (lv' := [(0, .ref (ad_ z 1)), (1, .int (0 : Int32))]) (q := 6) am dd_collect_5 rfl [1, 0] rfl rfl rfl ?_
  refine ji_iconst (q := 7) am dd_collect_6 ki_0 rfl ?_
  refine ji_istore_n (lv' := [(0, .ref (ad_ z 1)), (1, .int (0 : Int32)), (2, .int (0 : Int32))]) (q := 8) am dd_collect_7 rfl [1, 2, 0] rfl rfl rfl ?_
  refine ld_collect_8 am (fun z1_8 s_8 => ?_) 5000 _ _ _
  refine ji_aload_n (q := 35) am dd_collect_34 rfl 0 rfl rfl ?_
  refine ji_iload_n (q := 36) am dd_collect_35 rfl 1 rfl rfl ?_
  refine ji_put_D_live (q := 39) am dd_collect_36 rfl ?_
  intro s36
  refine ji_aload_n (q := 40) am dd_collect_39 rfl 0 rfl rfl ?_
  refine jk_S (q := 43) (rest := []) (fun s2 hF => jr_V [] am ln_D_d_sweep (ctd_sweep _ _ hF) (by omega) (rc_D am) rfl rfl (Nat.le_of_ble_eq_true rfl) dd_collect_40) rfl ?_
  intro s40
  exact ji_vret am rfl dd_collect_43 rfl rfl

theorem dd_keep_0 : decode bd_keep 0 = .ok (.aload_n 0, 1) := by decide +kernel
theorem dd_keep_1 : decode bd_keep 1 = .ok (.getfield 11, 3) := by decide +kernel
theorem dd_keep_4 : decode bd_keep 4 = .ok (.iload_n 1, 1) := by decide +kernel
theorem dd_keep_5 : decode bd_keep 5 = .ok (.iload_n 2, 1) := by decide +kernel
theorem dd_keep_6 : decode bd_keep 6 = .ok (.iastore, 1) := by decide +kernel
theorem dd_keep_7 : decode bd_keep 7 = .ok (.bipush 16, 2) := by decide +kernel
theorem dd_keep_9 : decode bd_keep 9 = .ok (.istore_n 3, 1) := by decide +kernel
theorem dd_keep_10 : decode bd_keep 10 = .ok (.iload_n 3, 1) := by decide +kernel
theorem dd_keep_11 : decode bd_keep 11 = .ok (.bipush 20, 2) := by decide +kernel
theorem dd_keep_13 : decode bd_keep 13 = .ok (.if_icmp .ge 16, 3) := by decide +kernel
theorem dd_keep_16 : decode bd_keep 16 = .ok (.aload_n 0, 1) := by decide +kernel
theorem dd_keep_17 : decode bd_keep 17 = .ok (.getfield 11, 3) := by decide +kernel
theorem dd_keep_20 : decode bd_keep 20 = .ok (.iload_n 3, 1) := by decide +kernel
theorem dd_keep_21 : decode bd_keep 21 = .ok (.iconst 0, 1) := by decide +kernel
theorem dd_keep_22 : decode bd_keep 22 = .ok (.iastore, 1) := by decide +kernel
theorem dd_keep_23 : decode bd_keep 23 = .ok (.iinc 3 1, 3) := by decide +kernel
theorem dd_keep_26 : decode bd_keep 26 = .ok (.goto (-16), 3) := by decide +kernel
theorem dd_keep_29 : decode bd_keep 29 = .ok (.aload_n 0, 1) := by decide +kernel
theorem dd_keep_30 : decode bd_keep 30 = .ok (.invokevirtual 56, 3) := by decide +kernel
theorem dd_keep_33 : decode bd_keep 33 = .ok (.return_, 1) := by decide +kernel
set_option maxHeartbeats 4000000 in
set_option maxRecDepth 100000 in
theorem ld_keep_10 {z : wt_Z} {t : wt_M} {o : Nat → Int64} {K : wt_S → Option (wt_S)} (am : wt_Am z R_D bd_keep 4 11 none) (hK : ∀ (s3 : wt_S), jj_J z 4 29 [(0, .ref (ad_ z 1))] [] (s3, t, o) (q_S z t o) (K s3)) : ∀ (n : Nat) (x3 : Int32) (s : wt_S), jj_J z 4 10 [(0, .ref (ad_ z 1)), (3, .int x3)] [] (s, t, o) (q_S z t o) (fd_keep_L10 K n x3 s) := by
  intro n
  induction n with
  | zero =>
    intro x3 s
    exact ji_none
  | succ n ih =>
    intro x3 s
    rw [fd_keep_L10]
    refine ji_iload_n (q := 11) am dd_keep_10 rfl 1 rfl rfl ?_
    refine ji_bipush (q := 13) am dd_keep_11 kb_20 rfl ?_
    refine ji_icmp_ge (q := 16) (g := 29) am dd_keep_13 rfl rfl ?_ ?_
    · exact ji_sub (lv' := [(0, .ref (ad_ z 1))]) [0] rfl (hK _)
    · refine ji_aload_n (q := 17) am dd_keep_16 rfl 0 rfl rfl ?_
      refine ji_get_D_roots (q := 20) am dd_keep_17 rfl ?_
      refine ji_iload_n (q := 21) am dd_keep_20 rfl 1 rfl rfl ?_
      refine ji_iconst (q := 22) am dd_keep_21 ki_0 rfl ?_
      refine ji_ast_D0 (q := 23) am dd_keep_22 rfl ?_
      intro s22
      refine ji_iinc (q := 26) (lv' := [(0, .ref (ad_ z 1)), (3, .int (x3 + 1))]) am dd_keep_23 1 rfl ki_1 [1, 0] rfl rfl rfl ?_
      refine ji_goto (q := 10) am dd_keep_26 rfl ?_
      exact ih _ _
set_option maxHeartbeats 4000000 in
set_option maxRecDepth 100000 in
theorem ctd_keep {v : wt_V} {s : wt_S} {a1 : Int32} {a2 : Int32} {s2 : wt_S} (t : wt_M) (o : Nat → Int64) (hF : fd_keep s a1 a2 = some s2) : ct_C v yd_keep (Cond.code yd_keep bd_keep 4 none) 11 [.ref (v.2.1 1), .int a1, .int a2] none (s, t, o) (s2, t, o) := by
  refine ct_of (lv := [(0, .ref (v.2.1 1)), (1, .int a1), (2, .int a2)]) (fun _ : wt_S => none) (fun r => (r, t, o)) (by decide) (Nat.le_of_ble_eq_true rfl) rfl ?_ s2 hF
  intro z hz am
  subst hz
  have am : wt_Am z R_D bd_keep 4 11 none := am
  show jj_J z 4 0 [(0, .ref (ad_ z 1)), (1, .int a1), (2, .int a2)] [] (s, t, o) (q_S z t o) (fd_keep s a1 a2)
  unfold fd_keep
  refine ji_aload_n (q := 1) am dd_keep_0 rfl 0 rfl rfl ?_
  refine ji_get_D_roots (q := 4) am dd_keep_1 rfl ?_
  refine ji_iload_n (q := 5) am dd_keep_4 rfl 1 rfl rfl ?_
  refine ji_iload_n (q := 6) am dd_keep_5 rfl 2 rfl rfl ?_
  refine ji_ast_D0 (q := 7) am dd_keep_6 rfl ?_
  intro s6
  refine ji_bipush (q := 9) am dd_keep_7 kb_16 rfl ?_
  refine ji_istore_n (lv' := [(0, .ref (ad_ z 1)), (1, .int a1), (2, .int a2), (3, .int (16 : Int32))]) (q := 10) am dd_keep_9 rfl [1, 2, 3, 0] rfl rfl rfl ?_
  refine ji_sub (lv' := [(0, .ref (ad_ z 1)), (3, .int (16 : Int32))]) [0, 3] rfl (ld_keep_10 am (fun s_10 => ?_) 5000 _ _)
  refine ji_aload_n (q := 30) am dd_keep_29 rfl 0 rfl rfl ?_
  refine jk_S (q := 33) (rest := []) (fun s2 hF => jr_V [] am ln_D_d_collect (ctd_collect _ _ hF) (by omega) (rc_D am) rfl rfl (Nat.le_of_ble_eq_true rfl) dd_keep_30) rfl ?_
  intro s30
  exact ji_vret am rfl dd_keep_33 rfl rfl

theorem dd_hold_0 : decode bd_hold 0 = .ok (.aload_n 0, 1) := by decide +kernel
theorem dd_hold_1 : decode bd_hold 1 = .ok (.getfield 11, 3) := by decide +kernel
theorem dd_hold_4 : decode bd_hold 4 = .ok (.iload_n 1, 1) := by decide +kernel
theorem dd_hold_5 : decode bd_hold 5 = .ok (.iload_n 2, 1) := by decide +kernel
theorem dd_hold_6 : decode bd_hold 6 = .ok (.iastore, 1) := by decide +kernel
theorem dd_hold_7 : decode bd_hold 7 = .ok (.return_, 1) := by decide +kernel
set_option maxHeartbeats 4000000 in
set_option maxRecDepth 100000 in
theorem ctd_hold {v : wt_V} {s : wt_S} {a1 : Int32} {a2 : Int32} {s2 : wt_S} (t : wt_M) (o : Nat → Int64) (hF : fd_hold s a1 a2 = some s2) : ct_C v yd_hold (Cond.code yd_hold bd_hold 3 none) 1 [.ref (v.2.1 1), .int a1, .int a2] none (s, t, o) (s2, t, o) := by
  refine ct_of (lv := [(0, .ref (v.2.1 1)), (1, .int a1), (2, .int a2)]) (fun _ : wt_S => none) (fun r => (r, t, o)) (by decide) (Nat.le_of_ble_eq_true rfl) rfl ?_ s2 hF
  intro z hz am
  subst hz
  have am : wt_Am z R_D bd_hold 3 1 none := am
  show jj_J z 3 0 [(0, .ref (ad_ z 1)), (1, .int a1), (2, .int a2)] [] (s, t, o) (q_S z t o) (fd_hold s a1 a2)
  unfold fd_hold
  refine ji_aload_n (q := 1) am dd_hold_0 rfl 0 rfl rfl ?_
  refine ji_get_D_roots (q := 4) am dd_hold_1 rfl ?_
  refine ji_iload_n (q := 5) am dd_hold_4 rfl 1 rfl rfl ?_
  refine ji_iload_n (q := 6) am dd_hold_5 rfl 2 rfl rfl ?_
  refine ji_ast_D0 (q := 7) am dd_hold_6 rfl ?_
  intro s6
  exact ji_vret am rfl dd_hold_7 rfl rfl

theorem dd_found_0 : decode bd_found 0 = .ok (.aload_n 0, 1) := by decide +kernel
theorem dd_found_1 : decode bd_found 1 = .ok (.getfield 33, 3) := by decide +kernel
theorem dd_found_4 : decode bd_found 4 = .ok (.iload_n 1, 1) := by decide +kernel
theorem dd_found_5 : decode bd_found 5 = .ok (.iaload, 1) := by decide +kernel
theorem dd_found_6 : decode bd_found 6 = .ok (.istore 5, 2) := by decide +kernel
theorem dd_found_8 : decode bd_found 8 = .ok (.iconst 0, 1) := by decide +kernel
theorem dd_found_9 : decode bd_found 9 = .ok (.istore 6, 2) := by decide +kernel
theorem dd_found_11 : decode bd_found 11 = .ok (.iload 6, 2) := by decide +kernel
theorem dd_found_13 : decode bd_found 13 = .ok (.sipush 2048, 3) := by decide +kernel
theorem dd_found_16 : decode bd_found 16 = .ok (.if_icmp .ge 60, 3) := by decide +kernel
theorem dd_found_19 : decode bd_found 19 = .ok (.iload 5, 2) := by decide +kernel
theorem dd_found_21 : decode bd_found 21 = .ok (.ifCond .eq 55, 3) := by decide +kernel
theorem dd_found_24 : decode bd_found 24 = .ok (.aload_n 0, 1) := by decide +kernel
theorem dd_found_25 : decode bd_found 25 = .ok (.getfield 21, 3) := by decide +kernel
theorem dd_found_28 : decode bd_found 28 = .ok (.iload 5, 2) := by decide +kernel
theorem dd_found_30 : decode bd_found 30 = .ok (.iaload, 1) := by decide +kernel
theorem dd_found_31 : decode bd_found 31 = .ok (.iload_n 2, 1) := by decide +kernel
theorem dd_found_32 : decode bd_found 32 = .ok (.if_icmp .ne 29, 3) := by decide +kernel
theorem dd_found_35 : decode bd_found 35 = .ok (.aload_n 0, 1) := by decide +kernel
theorem dd_found_36 : decode bd_found 36 = .ok (.getfield 24, 3) := by decide +kernel
theorem dd_found_39 : decode bd_found 39 = .ok (.iload 5, 2) := by decide +kernel
theorem dd_found_41 : decode bd_found 41 = .ok (.iaload, 1) := by decide +kernel
theorem dd_found_42 : decode bd_found 42 = .ok (.iload_n 3, 1) := by decide +kernel
theorem dd_found_43 : decode bd_found 43 = .ok (.if_icmp .ne 18, 3) := by decide +kernel
theorem dd_found_46 : decode bd_found 46 = .ok (.aload_n 0, 1) := by decide +kernel
theorem dd_found_47 : decode bd_found 47 = .ok (.getfield 27, 3) := by decide +kernel
theorem dd_found_50 : decode bd_found 50 = .ok (.iload 5, 2) := by decide +kernel
theorem dd_found_52 : decode bd_found 52 = .ok (.iaload, 1) := by decide +kernel
theorem dd_found_53 : decode bd_found 53 = .ok (.iload 4, 2) := by decide +kernel
theorem dd_found_55 : decode bd_found 55 = .ok (.if_icmp .ne 6, 3) := by decide +kernel
theorem dd_found_58 : decode bd_found 58 = .ok (.iload 5, 2) := by decide +kernel
theorem dd_found_60 : decode bd_found 60 = .ok (.ireturn, 1) := by decide +kernel
theorem dd_found_61 : decode bd_found 61 = .ok (.aload_n 0, 1) := by decide +kernel
theorem dd_found_62 : decode bd_found 62 = .ok (.getfield 30, 3) := by decide +kernel
theorem dd_found_65 : decode bd_found 65 = .ok (.iload 5, 2) := by decide +kernel
theorem dd_found_67 : decode bd_found 67 = .ok (.iaload, 1) := by decide +kernel
theorem dd_found_68 : decode bd_found 68 = .ok (.istore 5, 2) := by decide +kernel
theorem dd_found_70 : decode bd_found 70 = .ok (.iinc 6 1, 3) := by decide +kernel
theorem dd_found_73 : decode bd_found 73 = .ok (.goto (-62), 3) := by decide +kernel
theorem dd_found_76 : decode bd_found 76 = .ok (.iconst 0, 1) := by decide +kernel
theorem dd_found_77 : decode bd_found 77 = .ok (.ireturn, 1) := by decide +kernel
set_option maxHeartbeats 4000000 in
set_option maxRecDepth 100000 in
theorem ld_found_11 {z : wt_Z} {s : wt_S} {t : wt_M} {o : Nat → Int64} {c2 : Int32} {c3 : Int32} {c4 : Int32} {K : Unit → Option (Int32)} (am : wt_Am z R_D bd_found 7 1 (some .int)) (hK : ∀ (u : Unit), jj_J z 7 76 [] [] (s, t, o) (q_I z s t o) (K u)) : ∀ (n : Nat) (x5 : Int32) (x6 : Int32), jj_J z 7 11 [(0, .ref (ad_ z 1)), (2, .int c2), (3, .int c3), (4, .int c4), (5, .int x5), (6, .int x6)] [] (s, t, o) (q_I z s t o) (fd_found_L11 s c2 c3 c4 K n x5 x6) := by
  intro n
  induction n with
  | zero =>
    intro x5 x6
    exact ji_none
  | succ n ih =>
    intro x5 x6
    rw [fd_found_L11]
    refine ji_iload (q := 13) am dd_found_11 5 rfl rfl ?_
    refine ji_sipush (q := 16) am dd_found_13 ks_2048 rfl ?_
    refine ji_icmp_ge (q := 19) (g := 76) am dd_found_16 rfl rfl ?_ ?_
    · exact ji_sub (lv' := []) [] rfl (hK _)
    · refine ji_iload (q := 21) am dd_found_19 4 rfl rfl ?_
      refine ji_if_eq (q := 24) (g := 76) am dd_found_21 rfl rfl ?_ ?_
      · exact ji_sub (lv' := []) [] rfl (hK _)
      · refine ji_aload_n (q := 25) am dd_found_24 rfl 0 rfl rfl ?_
        refine ji_get_D_label (q := 28) am dd_found_25 rfl ?_
        refine ji_iload (q := 30) am dd_found_28 4 rfl rfl ?_
        refine ji_ald_D3 (q := 31) am dd_found_30 rfl ?_
        intro v30
        refine ji_iload_n (q := 32) am dd_found_31 rfl 1 rfl rfl ?_
        refine ji_jn2 (fun j => ∀ (u61 : Unit), jj_J z 7 61 [(0, .ref (ad_ z 1)), (2, .int c2), (3, .int c3), (4, .int c4), (5, .int x5), (6, .int x6)] [] (s, t, o) (q_I z s t o) (j u61)) ?_ ?_
        · intro u61
          refine ji_aload_n (q := 62) am dd_found_61 rfl 0 rfl rfl ?_
          refine ji_get_D_next (q := 65) am dd_found_62 rfl ?_
          refine ji_iload (q := 67) am dd_found_65 4 rfl rfl ?_
          refine ji_ald_D6 (q := 68) am dd_found_67 rfl ?_
          intro v67
          refine ji_istore (lv' := [(0, .ref (ad_ z 1)), (2, .int c2), (3, .int c3), (4, .int c4), (5, .int v67), (6, .int x6)]) (q := 70) am dd_found_68 [1, 2, 3, 4, 0, 5] rfl rfl rfl ?_
          refine ji_iinc (q := 73) (lv' := [(0, .ref (ad_ z 1)), (2, .int c2), (3, .int c3), (4, .int c4), (5, .int v67), (6, .int (x6 + 1))]) am dd_found_70 5 rfl ki_1 [1, 2, 3, 4, 5, 0] rfl rfl rfl ?_
          refine ji_goto (q := 11) am dd_found_73 rfl ?_
          exact ih _ _
        · intro j61 hj61
          refine ji_icmp_ne (q := 35) (g := 61) am dd_found_32 rfl rfl ?_ ?_
          · exact hj61 _
          · refine ji_aload_n (q := 36) am dd_found_35 rfl 0 rfl rfl ?_
            refine ji_get_D_low (q := 39) am dd_found_36 rfl ?_
            refine ji_iload (q := 41) am dd_found_39 4 rfl rfl ?_
            refine ji_ald_D4 (q := 42) am dd_found_41 rfl ?_
            intro v41
            refine ji_iload_n (q := 43) am dd_found_42 rfl 2 rfl rfl ?_
            refine ji_icmp_ne (q := 46) (g := 61) am dd_found_43 rfl rfl ?_ ?_
            · exact hj61 _
            · refine ji_aload_n (q := 47) am dd_found_46 rfl 0 rfl rfl ?_
              refine ji_get_D_high (q := 50) am dd_found_47 rfl ?_
              refine ji_iload (q := 52) am dd_found_50 4 rfl rfl ?_
              refine ji_ald_D5 (q := 53) am dd_found_52 rfl ?_
              intro v52
              refine ji_iload (q := 55) am dd_found_53 3 rfl rfl ?_
              refine ji_icmp_ne (q := 58) (g := 61) am dd_found_55 rfl rfl ?_ ?_
              · exact hj61 _
              · refine ji_iload (q := 60) am dd_found_58 4 rfl rfl ?_
                exact ji_iret am rfl dd_found_60 rfl rfl
set_option maxHeartbeats 4000000 in
set_option maxRecDepth 100000 in
theorem ctd_found {v : wt_V} {s : wt_S} {a1 : Int32} {a2 : Int32} {a3 : Int32} {a4 : Int32} {r : Int32} (t : wt_M) (o : Nat → Int64) (hF : fd_found s a1 a2 a3 a4 = some r) : ct_C v yd_found (Cond.code yd_found bd_found 7 (some .int)) 1 [.ref (v.2.1 1), .int a1, .int a2, .int a3, .int a4] (some (.int r)) (s, t, o) (s, t, o) := by
  refine ct_of (lv := [(0, .ref (v.2.1 1)), (1, .int a1), (2, .int a2), (3, .int a3), (4, .int a4)]) (fun r : Int32 => some (.int r)) (fun _ => (s, t, o)) (by decide) (Nat.le_of_ble_eq_true rfl) rfl ?_ r hF
  intro z hz am
  subst hz
  have am : wt_Am z R_D bd_found 7 1 (some .int) := am
  show jj_J z 7 0 [(0, .ref (ad_ z 1)), (1, .int a1), (2, .int a2), (3, .int a3), (4, .int a4)] [] (s, t, o) (q_I z s t o) (fd_found s a1 a2 a3 a4)
  unfold fd_found
  refine ji_aload_n (q := 1) am dd_found_0 rfl 0 rfl rfl ?_
  refine ji_get_D_heads (q := 4) am dd_found_1 rfl ?_
  refine ji_iload_n (q := 5) am dd_found_4 rfl 1 rfl rfl ?_
  refine ji_ald_D7 (q := 6) am dd_found_5 rfl ?_
  intro v5
  refine ji_istore (lv' := [(0, .ref (ad_ z 1)), (1, .int a1), (2, .int a2), (3, .int a3), (4, .int a4), (5, .int v5)]) (q := 8) am dd_found_6 [1, 2, 3, 4, 5, 0] rfl rfl rfl ?_
  refine ji_iconst (q := 9) am dd_found_8 ki_0 rfl ?_
  refine ji_istore (lv' := [(0, .ref (ad_ z 1)), (1, .int a1), (2, .int a2), (3, .int a3), (4, .int a4), (5, .int v5), (6, .int (0 : Int32))]) (q := 11) am dd_found_9 [1, 2, 3, 4, 5, 6, 0] rfl rfl rfl ?_
  refine ji_sub (lv' := [(0, .ref (ad_ z 1)), (2, .int a2), (3, .int a3), (4, .int a4), (5, .int v5), (6, .int (0 : Int32))]) [0, 2, 3, 4, 5, 6] rfl (ld_found_11 am (fun u => ?_) 5000 _ _)
  refine ji_iconst (q := 77) am dd_found_76 ki_0 rfl ?_
  exact ji_iret am rfl dd_found_77 rfl rfl

theorem dd_added_0 : decode bd_added 0 = .ok (.aload_n 0, 1) := by decide +kernel
theorem dd_added_1 : decode bd_added 1 = .ok (.getfield 47, 3) := by decide +kernel
theorem dd_added_4 : decode bd_added 4 = .ok (.sipush 2048, 3) := by decide +kernel
theorem dd_added_7 : decode bd_added 7 = .ok (.if_icmp .ge 29, 3) := by decide +kernel
theorem dd_added_10 : decode bd_added 10 = .ok (.aload_n 0, 1) := by decide +kernel
theorem dd_added_11 : decode bd_added 11 = .ok (.getfield 21, 3) := by decide +kernel
theorem dd_added_14 : decode bd_added 14 = .ok (.aload_n 0, 1) := by decide +kernel
theorem dd_added_15 : decode bd_added 15 = .ok (.getfield 47, 3) := by decide +kernel
theorem dd_added_18 : decode bd_added 18 = .ok (.iaload, 1) := by decide +kernel
theorem dd_added_19 : decode bd_added 19 = .ok (.iconst (-1), 1) := by decide +kernel
theorem dd_added_20 : decode bd_added 20 = .ok (.if_icmp .eq 16, 3) := by decide +kernel
theorem dd_added_23 : decode bd_added 23 = .ok (.aload_n 0, 1) := by decide +kernel
theorem dd_added_24 : decode bd_added 24 = .ok (.dup, 1) := by decide +kernel
theorem dd_added_25 : decode bd_added 25 = .ok (.getfield 47, 3) := by decide +kernel
theorem dd_added_28 : decode bd_added 28 = .ok (.iconst 1, 1) := by decide +kernel
theorem dd_added_29 : decode bd_added 29 = .ok (.iadd, 1) := by decide +kernel
theorem dd_added_30 : decode bd_added 30 = .ok (.putfield 47, 3) := by decide +kernel
theorem dd_added_33 : decode bd_added 33 = .ok (.goto (-33), 3) := by decide +kernel
theorem dd_added_36 : decode bd_added 36 = .ok (.aload_n 0, 1) := by decide +kernel
theorem dd_added_37 : decode bd_added 37 = .ok (.getfield 47, 3) := by decide +kernel
theorem dd_added_40 : decode bd_added 40 = .ok (.sipush 2048, 3) := by decide +kernel
theorem dd_added_43 : decode bd_added 43 = .ok (.if_icmp .lt 5, 3) := by decide +kernel
theorem dd_added_46 : decode bd_added 46 = .ok (.iconst 0, 1) := by decide +kernel
theorem dd_added_47 : decode bd_added 47 = .ok (.ireturn, 1) := by decide +kernel
theorem dd_added_48 : decode bd_added 48 = .ok (.aload_n 0, 1) := by decide +kernel
theorem dd_added_49 : decode bd_added 49 = .ok (.getfield 47, 3) := by decide +kernel
theorem dd_added_52 : decode bd_added 52 = .ok (.istore 5, 2) := by decide +kernel
theorem dd_added_54 : decode bd_added 54 = .ok (.aload_n 0, 1) := by decide +kernel
theorem dd_added_55 : decode bd_added 55 = .ok (.getfield 21, 3) := by decide +kernel
theorem dd_added_58 : decode bd_added 58 = .ok (.iload 5, 2) := by decide +kernel
theorem dd_added_60 : decode bd_added 60 = .ok (.iload_n 2, 1) := by decide +kernel
theorem dd_added_61 : decode bd_added 61 = .ok (.iastore, 1) := by decide +kernel
theorem dd_added_62 : decode bd_added 62 = .ok (.aload_n 0, 1) := by decide +kernel
theorem dd_added_63 : decode bd_added 63 = .ok (.getfield 24, 3) := by decide +kernel
theorem dd_added_66 : decode bd_added 66 = .ok (.iload 5, 2) := by decide +kernel
theorem dd_added_68 : decode bd_added 68 = .ok (.iload_n 3, 1) := by decide +kernel
theorem dd_added_69 : decode bd_added 69 = .ok (.iastore, 1) := by decide +kernel
theorem dd_added_70 : decode bd_added 70 = .ok (.aload_n 0, 1) := by decide +kernel
theorem dd_added_71 : decode bd_added 71 = .ok (.getfield 27, 3) := by decide +kernel
theorem dd_added_74 : decode bd_added 74 = .ok (.iload 5, 2) := by decide +kernel
theorem dd_added_76 : decode bd_added 76 = .ok (.iload 4, 2) := by decide +kernel
theorem dd_added_78 : decode bd_added 78 = .ok (.iastore, 1) := by decide +kernel
theorem dd_added_79 : decode bd_added 79 = .ok (.aload_n 0, 1) := by decide +kernel
theorem dd_added_80 : decode bd_added 80 = .ok (.getfield 30, 3) := by decide +kernel
theorem dd_added_83 : decode bd_added 83 = .ok (.iload 5, 2) := by decide +kernel
theorem dd_added_85 : decode bd_added 85 = .ok (.aload_n 0, 1) := by decide +kernel
theorem dd_added_86 : decode bd_added 86 = .ok (.getfield 33, 3) := by decide +kernel
theorem dd_added_89 : decode bd_added 89 = .ok (.iload_n 1, 1) := by decide +kernel
theorem dd_added_90 : decode bd_added 90 = .ok (.iaload, 1) := by decide +kernel
theorem dd_added_91 : decode bd_added 91 = .ok (.iastore, 1) := by decide +kernel
theorem dd_added_92 : decode bd_added 92 = .ok (.aload_n 0, 1) := by decide +kernel
theorem dd_added_93 : decode bd_added 93 = .ok (.getfield 33, 3) := by decide +kernel
theorem dd_added_96 : decode bd_added 96 = .ok (.iload_n 1, 1) := by decide +kernel
theorem dd_added_97 : decode bd_added 97 = .ok (.iload 5, 2) := by decide +kernel
theorem dd_added_99 : decode bd_added 99 = .ok (.iastore, 1) := by decide +kernel
theorem dd_added_100 : decode bd_added 100 = .ok (.aload_n 0, 1) := by decide +kernel
theorem dd_added_101 : decode bd_added 101 = .ok (.iload 5, 2) := by decide +kernel
theorem dd_added_103 : decode bd_added 103 = .ok (.aload_n 0, 1) := by decide +kernel
theorem dd_added_104 : decode bd_added 104 = .ok (.getfield 44, 3) := by decide +kernel
theorem dd_added_107 : decode bd_added 107 = .ok (.if_icmp .ge 10, 3) := by decide +kernel
theorem dd_added_110 : decode bd_added 110 = .ok (.aload_n 0, 1) := by decide +kernel
theorem dd_added_111 : decode bd_added 111 = .ok (.getfield 44, 3) := by decide +kernel
theorem dd_added_114 : decode bd_added 114 = .ok (.goto 7, 3) := by decide +kernel
theorem dd_added_117 : decode bd_added 117 = .ok (.iload 5, 2) := by decide +kernel
theorem dd_added_119 : decode bd_added 119 = .ok (.iconst 1, 1) := by decide +kernel
theorem dd_added_120 : decode bd_added 120 = .ok (.iadd, 1) := by decide +kernel
theorem dd_added_121 : decode bd_added 121 = .ok (.putfield 44, 3) := by decide +kernel
theorem dd_added_124 : decode bd_added 124 = .ok (.iload 5, 2) := by decide +kernel
theorem dd_added_126 : decode bd_added 126 = .ok (.ireturn, 1) := by decide +kernel
set_option maxHeartbeats 4000000 in
set_option maxRecDepth 100000 in
theorem ld_added_0 {z : wt_Z} {t : wt_M} {o : Nat → Int64} {c1 : Int32} {c2 : Int32} {c3 : Int32} {c4 : Int32} {K : wt_S → Option (Int32 × wt_S)} (am : wt_Am z R_D bd_added 6 1 (some .int)) (hK : ∀ (s3 : wt_S), jj_J z 6 36 [(0, .ref (ad_ z 1)), (1, .int c1), (2, .int c2), (3, .int c3), (4, .int c4)] [] (s3, t, o) (q_IS z t o) (K s3)) : ∀ (n : Nat) (s : wt_S), jj_J z 6 0 [(0, .ref (ad_ z 1)), (1, .int c1), (2, .int c2), (3, .int c3), (4, .int c4)] [] (s, t, o) (q_IS z t o) (fd_added_L0 c1 c2 c3 c4 K n s) := by
  intro n
  induction n with
  | zero =>
    intro s
    exact ji_none
  | succ n ih =>
    intro s
    rw [fd_added_L0]
    refine ji_aload_n (q := 1) am dd_added_0 rfl 0 rfl rfl ?_
    refine ji_get_D_cursor (q := 4) am dd_added_1 rfl ?_
    refine ji_sipush (q := 7) am dd_added_4 ks_2048 rfl ?_
    refine ji_icmp_ge (q := 10) (g := 36) am dd_added_7 rfl rfl ?_ ?_
    · exact hK _
    · refine ji_aload_n (q := 11) am dd_added_10 rfl 0 rfl rfl ?_
      refine ji_get_D_label (q := 14) am dd_added_11 rfl ?_
      refine ji_aload_n (q := 15) am dd_added_14 rfl 0 rfl rfl ?_
      refine ji_get_D_cursor (q := 18) am dd_added_15 rfl ?_
      refine ji_ald_D3 (q := 19) am dd_added_18 rfl ?_
      intro v18
      refine ji_iconst (q := 20) am dd_added_19 ki_m1 rfl ?_
      refine ji_icmp_eq (q := 23) (g := 36) am dd_added_20 rfl rfl ?_ ?_
      · exact hK _
      · refine ji_aload_n (q := 24) am dd_added_23 rfl 0 rfl rfl ?_
        refine ji_dup (q := 25) am dd_added_24 rfl rfl ?_
        refine ji_get_D_cursor (q := 28) am dd_added_25 rfl ?_
        refine ji_iconst (q := 29) am dd_added_28 ki_1 rfl ?_
        refine ji_iadd (q := 30) am dd_added_29 rfl ?_
        refine ji_put_D_cursor (q := 33) am dd_added_30 rfl ?_
        intro s30
        refine ji_goto (q := 0) am dd_added_33 rfl ?_
        exact ih _
set_option maxHeartbeats 4000000 in
set_option maxRecDepth 100000 in
theorem ctd_added {v : wt_V} {s : wt_S} {a1 : Int32} {a2 : Int32} {a3 : Int32} {a4 : Int32} {r : Int32} {s2 : wt_S} (t : wt_M) (o : Nat → Int64) (hF : fd_added s a1 a2 a3 a4 = some (r, s2)) : ct_C v yd_added (Cond.code yd_added bd_added 6 (some .int)) 1 [.ref (v.2.1 1), .int a1, .int a2, .int a3, .int a4] (some (.int r)) (s, t, o) (s2, t, o) := by
  refine ct_of (lv := [(0, .ref (v.2.1 1)), (1, .int a1), (2, .int a2), (3, .int a3), (4, .int a4)]) (fun r : Int32 × wt_S => some (.int r.1)) (fun r => (r.2, t, o)) (by decide) (Nat.le_of_ble_eq_true rfl) rfl ?_ (r, s2) hF
  intro z hz am
  subst hz
  have am : wt_Am z R_D bd_added 6 1 (some .int) := am
  show jj_J z 6 0 [(0, .ref (ad_ z 1)), (1, .int a1), (2, .int a2), (3, .int a3), (4, .int a4)] [] (s, t, o) (q_IS z t o) (fd_added s a1 a2 a3 a4)
  unfold fd_added
  refine ld_added_0 am (fun s_0 => ?_) 5000 _
  refine ji_aload_n (q := 37) am dd_added_36 rfl 0 rfl rfl ?_
  refine ji_get_D_cursor (q := 40) am dd_added_37 rfl ?_
  refine ji_sipush (q := 43) am dd_added_40 ks_2048 rfl ?_
  refine ji_icmp_lt (q := 46) (g := 48) am dd_added_43 rfl rfl ?_ ?_
  · refine ji_aload_n (q := 49) am dd_added_48 rfl 0 rfl rfl ?_
    refine ji_get_D_cursor (q := 52) am dd_added_49 rfl ?_
    refine ji_istore (lv' := [(0, .ref (ad_ z 1)), (1, .int a1), (2, .int a2), (3, .int a3), (4, .int a4), (5, .int (s_0 9 2))]) (q := 54) am dd_added_52 [1, 2, 3, 4, 5, 0] rfl rfl rfl ?_
    refine ji_aload_n (q := 55) am dd_added_54 rfl 0 rfl rfl ?_
    refine ji_get_D_label (q := 58) am dd_added_55 rfl ?_
    refine ji_iload (q := 60) am dd_added_58 5 rfl rfl ?_
    refine ji_iload_n (q := 61) am dd_added_60 rfl 2 rfl rfl ?_
    refine ji_ast_D3 (q := 62) am dd_added_61 rfl ?_
    intro s61
    refine ji_aload_n (q := 63) am dd_added_62 rfl 0 rfl rfl ?_
    refine ji_get_D_low (q := 66) am dd_added_63 rfl ?_
    refine ji_iload (q := 68) am dd_added_66 5 rfl rfl ?_
    refine ji_iload_n (q := 69) am dd_added_68 rfl 3 rfl rfl ?_
    refine ji_ast_D4 (q := 70) am dd_added_69 rfl ?_
    intro s69
    refine ji_aload_n (q := 71) am dd_added_70 rfl 0 rfl rfl ?_
    refine ji_get_D_high (q := 74) am dd_added_71 rfl ?_
    refine ji_iload (q := 76) am dd_added_74 5 rfl rfl ?_
    refine ji_iload (q := 78) am dd_added_76 4 rfl rfl ?_
    refine ji_ast_D5 (q := 79) am dd_added_78 rfl ?_
    intro s78
    refine ji_aload_n (q := 80) am dd_added_79 rfl 0 rfl rfl ?_
    refine ji_get_D_next (q := 83) am dd_added_80 rfl ?_
    refine ji_iload (q := 85) am dd_added_83 5 rfl rfl ?_
    refine ji_aload_n (q := 86) am dd_added_85 rfl 0 rfl rfl ?_
    refine ji_get_D_heads (q := 89) am dd_added_86 rfl ?_
    refine ji_iload_n (q := 90) am dd_added_89 rfl 1 rfl rfl ?_
    refine ji_ald_D7 (q := 91) am dd_added_90 rfl ?_
    intro v90
    refine ji_ast_D6 (q := 92) am dd_added_91 rfl ?_
    intro s91
    refine ji_aload_n (q := 93) am dd_added_92 rfl 0 rfl rfl ?_
    refine ji_get_D_heads (q := 96) am dd_added_93 rfl ?_
    refine ji_iload_n (q := 97) am dd_added_96 rfl 1 rfl rfl ?_
    refine ji_iload (q := 99) am dd_added_97 5 rfl rfl ?_
    refine ji_ast_D7 (q := 100) am dd_added_99 rfl ?_
    intro s99
    refine ji_aload_n (q := 101) am dd_added_100 rfl 0 rfl rfl ?_
    refine ji_iload (q := 103) am dd_added_101 5 rfl rfl ?_
    refine ji_aload_n (q := 104) am dd_added_103 rfl 0 rfl rfl ?_
    refine ji_get_D_end (q := 107) am dd_added_104 rfl ?_
    refine ji_jn2 (fun j => ∀ (y0_121 : Int32), jj_J z 6 121 [(5, .int (s_0 9 2))] [.int y0_121, .ref (ad_ z 1)] (s99, t, o) (q_IS z t o) (j y0_121)) ?_ ?_
    · intro y0_121
      refine ji_put_D_end (q := 124) am dd_added_121 rfl ?_
      intro s121
      refine ji_iload (q := 126) am dd_added_124 0 rfl rfl ?_
      exact ji_iret am rfl dd_added_126 rfl rfl
    · intro j121 hj121
      refine ji_icmp_ge (q := 110) (g := 117) am dd_added_107 rfl rfl ?_ ?_
      · refine ji_iload (q := 119) am dd_added_117 5 rfl rfl ?_
        refine ji_iconst (q := 120) am dd_added_119 ki_1 rfl ?_
        refine ji_iadd (q := 121) am dd_added_120 rfl ?_
        exact ji_sub (lv' := [(5, .int (s_0 9 2))]) [5] rfl (hj121 _)
      · refine ji_aload_n (q := 111) am dd_added_110 rfl 0 rfl rfl ?_
        refine ji_get_D_end (q := 114) am dd_added_111 rfl ?_
        refine ji_goto (q := 121) am dd_added_114 rfl ?_
        exact ji_sub (lv' := [(5, .int (s_0 9 2))]) [5] rfl (hj121 _)
  · refine ji_iconst (q := 47) am dd_added_46 ki_0 rfl ?_
    exact ji_iret am rfl dd_added_47 rfl rfl

theorem dd_node_0 : decode bd_node 0 = .ok (.iload_n 2, 1) := by decide +kernel
theorem dd_node_1 : decode bd_node 1 = .ok (.iload_n 3, 1) := by decide +kernel
theorem dd_node_2 : decode bd_node 2 = .ok (.if_icmp .ne 5, 3) := by decide +kernel
theorem dd_node_5 : decode bd_node 5 = .ok (.iload_n 2, 1) := by decide +kernel
theorem dd_node_6 : decode bd_node 6 = .ok (.ireturn, 1) := by decide +kernel
theorem dd_node_7 : decode bd_node 7 = .ok (.iload_n 1, 1) := by decide +kernel
theorem dd_node_8 : decode bd_node 8 = .ok (.iload_n 2, 1) := by decide +kernel
theorem dd_node_9 : decode bd_node 9 = .ok (.iload_n 3, 1) := by decide +kernel
theorem dd_node_10 : decode bd_node 10 = .ok (.invokestatic 117, 3) := by decide +kernel
theorem dd_node_13 : decode bd_node 13 = .ok (.istore 4, 2) := by decide +kernel
theorem dd_node_15 : decode bd_node 15 = .ok (.aload_n 0, 1) := by decide +kernel
theorem dd_node_16 : decode bd_node 16 = .ok (.iload 4, 2) := by decide +kernel
theorem dd_node_18 : decode bd_node 18 = .ok (.iload_n 1, 1) := by decide +kernel
theorem dd_node_19 : decode bd_node 19 = .ok (.iload_n 2, 1) := by decide +kernel
theorem dd_node_20 : decode bd_node 20 = .ok (.iload_n 3, 1) := by decide +kernel
theorem dd_node_21 : decode bd_node 21 = .ok (.invokevirtual 126, 3) := by decide +kernel
theorem dd_node_24 : decode bd_node 24 = .ok (.istore 5, 2) := by decide +kernel
theorem dd_node_26 : decode bd_node 26 = .ok (.iload 5, 2) := by decide +kernel
theorem dd_node_28 : decode bd_node 28 = .ok (.ifCond .eq 8, 3) := by decide +kernel
theorem dd_node_31 : decode bd_node 31 = .ok (.iload 5, 2) := by decide +kernel
theorem dd_node_33 : decode bd_node 33 = .ok (.goto 12, 3) := by decide +kernel
theorem dd_node_36 : decode bd_node 36 = .ok (.aload_n 0, 1) := by decide +kernel
theorem dd_node_37 : decode bd_node 37 = .ok (.iload 4, 2) := by decide +kernel
theorem dd_node_39 : decode bd_node 39 = .ok (.iload_n 1, 1) := by decide +kernel
theorem dd_node_40 : decode bd_node 40 = .ok (.iload_n 2, 1) := by decide +kernel
theorem dd_node_41 : decode bd_node 41 = .ok (.iload_n 3, 1) := by decide +kernel
theorem dd_node_42 : decode bd_node 42 = .ok (.invokevirtual 129, 3) := by decide +kernel
theorem dd_node_45 : decode bd_node 45 = .ok (.ireturn, 1) := by decide +kernel
set_option maxHeartbeats 4000000 in
set_option maxRecDepth 100000 in
theorem ctd_node {v : wt_V} {s : wt_S} {a1 : Int32} {a2 : Int32} {a3 : Int32} {r : Int32} {s2 : wt_S} (t : wt_M) (o : Nat → Int64) (hF : fd_node s a1 a2 a3 = some (r, s2)) : ct_C v yd_node (Cond.code yd_node bd_node 6 (some .int)) 2 [.ref (v.2.1 1), .int a1, .int a2, .int a3] (some (.int r)) (s, t, o) (s2, t, o) := by
  refine ct_of (lv := [(0, .ref (v.2.1 1)), (1, .int a1), (2, .int a2), (3, .int a3)]) (fun r : Int32 × wt_S => some (.int r.1)) (fun r => (r.2, t, o)) (by decide) (Nat.le_of_ble_eq_true rfl) rfl ?_ (r, s2) hF
  intro z hz am
  subst hz
  have am : wt_Am z R_D bd_node 6 2 (some .int) := am
  show jj_J z 6 0 [(0, .ref (ad_ z 1)), (1, .int a1), (2, .int a2), (3, .int a3)] [] (s, t, o) (q_IS z t o) (fd_node s a1 a2 a3)
  unfold fd_node
  refine ji_iload_n (q := 1) am dd_node_0 rfl 2 rfl rfl ?_
  refine ji_iload_n (q := 2) am dd_node_1 rfl 3 rfl rfl ?_
  refine ji_icmp_ne (q := 5) (g := 7) am dd_node_2 rfl rfl ?_ ?_
  · refine ji_iload_n (q := 8) am dd_node_7 rfl 1 rfl rfl ?_
    refine ji_iload_n (q := 9) am dd_node_8 rfl 2 rfl rfl ?_
    refine ji_iload_n (q := 10) am dd_node_9 rfl 3 rfl rfl ?_
    refine jk_I (q := 13) (rest := []) (fun r hF => jr_S [.int a1, .int a2, .int a3] am ln_D_d_bucket (ctd_bucket _ _ _ hF) (by omega) rfl rfl (Nat.le_of_ble_eq_true rfl) dd_node_10) rfl ?_
    intro r10
    refine ji_istore (lv' := [(0, .ref (ad_ z 1)), (1, .int a1), (2, .int a2), (3, .int a3), (4, .int r10)]) (q := 15) am dd_node_13 [1, 2, 3, 4, 0] rfl rfl rfl ?_
    refine ji_aload_n (q := 16) am dd_node_15 rfl 0 rfl rfl ?_
    refine ji_iload (q := 18) am dd_node_16 4 rfl rfl ?_
    refine ji_iload_n (q := 19) am dd_node_18 rfl 1 rfl rfl ?_
    refine ji_iload_n (q := 20) am dd_node_19 rfl 2 rfl rfl ?_
    refine ji_iload_n (q := 21) am dd_node_20 rfl 3 rfl rfl ?_
    refine jk_I (q := 24) (rest := []) (fun r hF => jr_V [.int r10, .int a1, .int a2, .int a3] am ln_D_d_found (ctd_found _ _ hF) (by omega) (rc_D am) rfl rfl (Nat.le_of_ble_eq_true rfl) dd_node_21) rfl ?_
    intro r21
    refine ji_istore (lv' := [(0, .ref (ad_ z 1)), (1, .int a1), (2, .int a2), (3, .int a3), (4, .int r10), (5, .int r21)]) (q := 26) am dd_node_24 [1, 2, 3, 4, 5, 0] rfl rfl rfl ?_
    refine ji_iload (q := 28) am dd_node_26 5 rfl rfl ?_
    refine ji_jn2 (fun j => ∀ (y0_45 : Int32) (s_45 : wt_S), jj_J z 6 45 [] [.int y0_45] (s_45, t, o) (q_IS z t o) (j y0_45 s_45)) ?_ ?_
    · intro y0_45 s_45
      exact ji_iret am rfl dd_node_45 rfl rfl
    · intro j45 hj45
      refine ji_if_eq (q := 31) (g := 36) am dd_node_28 rfl rfl ?_ ?_
      · refine ji_aload_n (q := 37) am dd_node_36 rfl 0 rfl rfl ?_
        refine ji_iload (q := 39) am dd_node_37 4 rfl rfl ?_
        refine ji_iload_n (q := 40) am dd_node_39 rfl 1 rfl rfl ?_
        refine ji_iload_n (q := 41) am dd_node_40 rfl 2 rfl rfl ?_
        refine ji_iload_n (q := 42) am dd_node_41 rfl 3 rfl rfl ?_
        refine jk_IS (q := 45) (rest := []) (fun r s2 hF => jr_V [.int r10, .int a1, .int a2, .int a3] am ln_D_d_added (ctd_added _ _ hF) (by omega) (rc_D am) rfl rfl (Nat.le_of_ble_eq_true rfl) dd_node_42) rfl ?_
        intro r42 s42
        exact ji_sub (lv' := []) [] rfl (hj45 _ _)
      · refine ji_iload (q := 33) am dd_node_31 5 rfl rfl ?_
        refine ji_goto (q := 45) am dd_node_33 rfl ?_
        exact ji_sub (lv' := []) [] rfl (hj45 _ _)
  · refine ji_iload_n (q := 6) am dd_node_5 rfl 2 rfl rfl ?_
    exact ji_iret am rfl dd_node_6 rfl rfl

theorem dd_literal_0 : decode bd_literal 0 = .ok (.aload_n 0, 1) := by decide +kernel
theorem dd_literal_1 : decode bd_literal 1 = .ok (.iload_n 1, 1) := by decide +kernel
theorem dd_literal_2 : decode bd_literal 2 = .ok (.iconst 0, 1) := by decide +kernel
theorem dd_literal_3 : decode bd_literal 3 = .ok (.iconst 1, 1) := by decide +kernel
theorem dd_literal_4 : decode bd_literal 4 = .ok (.invokevirtual 59, 3) := by decide +kernel
theorem dd_literal_7 : decode bd_literal 7 = .ok (.ireturn, 1) := by decide +kernel
set_option maxHeartbeats 4000000 in
set_option maxRecDepth 100000 in
theorem ctd_literal {v : wt_V} {s : wt_S} {a1 : Int32} {r : Int32} {s2 : wt_S} (t : wt_M) (o : Nat → Int64) (hF : fd_literal s a1 = some (r, s2)) : ct_C v yd_literal (Cond.code yd_literal bd_literal 2 (some .int)) 3 [.ref (v.2.1 1), .int a1] (some (.int r)) (s, t, o) (s2, t, o) := by
  refine ct_of (lv := [(0, .ref (v.2.1 1)), (1, .int a1)]) (fun r : Int32 × wt_S => some (.int r.1)) (fun r => (r.2, t, o)) (by decide) (Nat.le_of_ble_eq_true rfl) rfl ?_ (r, s2) hF
  intro z hz am
  subst hz
  have am : wt_Am z R_D bd_literal 2 3 (some .int) := am
  show jj_J z 2 0 [(0, .ref (ad_ z 1)), (1, .int a1)] [] (s, t, o) (q_IS z t o) (fd_literal s a1)
  unfold fd_literal
  refine ji_aload_n (q := 1) am dd_literal_0 rfl 0 rfl rfl ?_
  refine ji_iload_n (q := 2) am dd_literal_1 rfl 1 rfl rfl ?_
  refine ji_iconst (q := 3) am dd_literal_2 ki_0 rfl ?_
  refine ji_iconst (q := 4) am dd_literal_3 ki_1 rfl ?_
  refine jk_IS (q := 7) (rest := []) (fun r s2 hF => jr_V [.int a1, .int (0 : Int32), .int (1 : Int32)] am ln_D_d_node (ctd_node _ _ hF) (by omega) (rc_D am) rfl rfl (Nat.le_of_ble_eq_true rfl) dd_literal_4) rfl ?_
  intro r4 s4
  exact ji_iret am rfl dd_literal_7 rfl rfl

theorem dd_upper_0 : decode bd_upper 0 = .ok (.aload_n 0, 1) := by decide +kernel
theorem dd_upper_1 : decode bd_upper 1 = .ok (.getfield 18, 3) := by decide +kernel
theorem dd_upper_4 : decode bd_upper 4 = .ok (.iload_n 1, 1) := by decide +kernel
theorem dd_upper_5 : decode bd_upper 5 = .ok (.iaload, 1) := by decide +kernel
theorem dd_upper_6 : decode bd_upper 6 = .ok (.aload_n 0, 1) := by decide +kernel
theorem dd_upper_7 : decode bd_upper 7 = .ok (.getfield 18, 3) := by decide +kernel
theorem dd_upper_10 : decode bd_upper 10 = .ok (.iload_n 2, 1) := by decide +kernel
theorem dd_upper_11 : decode bd_upper 11 = .ok (.iaload, 1) := by decide +kernel
theorem dd_upper_12 : decode bd_upper 12 = .ok (.if_icmp .gt 7, 3) := by decide +kernel
theorem dd_upper_15 : decode bd_upper 15 = .ok (.iload_n 1, 1) := by decide +kernel
theorem dd_upper_16 : decode bd_upper 16 = .ok (.goto 4, 3) := by decide +kernel
theorem dd_upper_19 : decode bd_upper 19 = .ok (.iload_n 2, 1) := by decide +kernel
theorem dd_upper_20 : decode bd_upper 20 = .ok (.ireturn, 1) := by decide +kernel
set_option maxHeartbeats 4000000 in
set_option maxRecDepth 100000 in
theorem ctd_upper {v : wt_V} {s : wt_S} {a1 : Int32} {a2 : Int32} {r : Int32} (t : wt_M) (o : Nat → Int64) (hF : fd_upper s a1 a2 = some r) : ct_C v yd_upper (Cond.code yd_upper bd_upper 3 (some .int)) 1 [.ref (v.2.1 1), .int a1, .int a2] (some (.int r)) (s, t, o) (s, t, o) := by
  refine ct_of (lv := [(0, .ref (v.2.1 1)), (1, .int a1), (2, .int a2)]) (fun r : Int32 => some (.int r)) (fun _ => (s, t, o)) (by decide) (Nat.le_of_ble_eq_true rfl) rfl ?_ r hF
  intro z hz am
  subst hz
  have am : wt_Am z R_D bd_upper 3 1 (some .int) := am
  show jj_J z 3 0 [(0, .ref (ad_ z 1)), (1, .int a1), (2, .int a2)] [] (s, t, o) (q_I z s t o) (fd_upper s a1 a2)
  unfold fd_upper
  refine ji_aload_n (q := 1) am dd_upper_0 rfl 0 rfl rfl ?_
  refine ji_get_D_levelOf (q := 4) am dd_upper_1 rfl ?_
  refine ji_iload_n (q := 5) am dd_upper_4 rfl 1 rfl rfl ?_
  refine ji_ald_D2 (q := 6) am dd_upper_5 rfl ?_
  intro v5
  refine ji_aload_n (q := 7) am dd_upper_6 rfl 0 rfl rfl ?_
  refine ji_get_D_levelOf (q := 10) am dd_upper_7 rfl ?_
  refine ji_iload_n (q := 11) am dd_upper_10 rfl 2 rfl rfl ?_
  refine ji_ald_D2 (q := 12) am dd_upper_11 rfl ?_
  intro v11
  refine ji_jn2 (fun j => ∀ (y0_20 : Int32), jj_J z 3 20 [] [.int y0_20] (s, t, o) (q_I z s t o) (j y0_20)) ?_ ?_
  · intro y0_20
    exact ji_iret am rfl dd_upper_20 rfl rfl
  · intro j20 hj20
    refine ji_icmp_gt (q := 15) (g := 19) am dd_upper_12 rfl rfl ?_ ?_
    · refine ji_iload_n (q := 20) am dd_upper_19 rfl 2 rfl rfl ?_
      exact ji_sub (lv' := []) [] rfl (hj20 _)
    · refine ji_iload_n (q := 16) am dd_upper_15 rfl 1 rfl rfl ?_
      refine ji_goto (q := 20) am dd_upper_16 rfl ?_
      exact ji_sub (lv' := []) [] rfl (hj20 _)

theorem dd_offWay_0 : decode bd_offWay 0 = .ok (.aload_n 0, 1) := by decide +kernel
theorem dd_offWay_1 : decode bd_offWay 1 = .ok (.getfield 21, 3) := by decide +kernel
theorem dd_offWay_4 : decode bd_offWay 4 = .ok (.iload_n 1, 1) := by decide +kernel
theorem dd_offWay_5 : decode bd_offWay 5 = .ok (.iaload, 1) := by decide +kernel
theorem dd_offWay_6 : decode bd_offWay 6 = .ok (.iload_n 2, 1) := by decide +kernel
theorem dd_offWay_7 : decode bd_offWay 7 = .ok (.if_icmp .ne 12, 3) := by decide +kernel
theorem dd_offWay_10 : decode bd_offWay 10 = .ok (.aload_n 0, 1) := by decide +kernel
theorem dd_offWay_11 : decode bd_offWay 11 = .ok (.getfield 24, 3) := by decide +kernel
theorem dd_offWay_14 : decode bd_offWay 14 = .ok (.iload_n 1, 1) := by decide +kernel
theorem dd_offWay_15 : decode bd_offWay 15 = .ok (.iaload, 1) := by decide +kernel
theorem dd_offWay_16 : decode bd_offWay 16 = .ok (.goto 4, 3) := by decide +kernel
theorem dd_offWay_19 : decode bd_offWay 19 = .ok (.iload_n 1, 1) := by decide +kernel
theorem dd_offWay_20 : decode bd_offWay 20 = .ok (.ireturn, 1) := by decide +kernel
set_option maxHeartbeats 4000000 in
set_option maxRecDepth 100000 in
theorem ctd_offWay {v : wt_V} {s : wt_S} {a1 : Int32} {a2 : Int32} {r : Int32} (t : wt_M) (o : Nat → Int64) (hF : fd_offWay s a1 a2 = some r) : ct_C v yd_offWay (Cond.code yd_offWay bd_offWay 3 (some .int)) 1 [.ref (v.2.1 1), .int a1, .int a2] (some (.int r)) (s, t, o) (s, t, o) := by
  refine ct_of (lv := [(0, .ref (v.2.1 1)), (1, .int a1), (2, .int a2)]) (fun r : Int32 => some (.int r)) (fun _ => (s, t, o)) (by decide) (Nat.le_of_ble_eq_true rfl) rfl ?_ r hF
  intro z hz am
  subst hz
  have am : wt_Am z R_D bd_offWay 3 1 (some .int) := am
  show jj_J z 3 0 [(0, .ref (ad_ z 1)), (1, .int a1), (2, .int a2)] [] (s, t, o) (q_I z s t o) (fd_offWay s a1 a2)
  unfold fd_offWay
  refine ji_aload_n (q := 1) am dd_offWay_0 rfl 0 rfl rfl ?_
  refine ji_get_D_label (q := 4) am dd_offWay_1 rfl ?_
  refine ji_iload_n (q := 5) am dd_offWay_4 rfl 1 rfl rfl ?_
  refine ji_ald_D3 (q := 6) am dd_offWay_5 rfl ?_
  intro v5
  refine ji_iload_n (q := 7) am dd_offWay_6 rfl 2 rfl rfl ?_
  refine ji_jn2 (fun j => ∀ (y0_20 : Int32), jj_J z 3 20 [] [.int y0_20] (s, t, o) (q_I z s t o) (j y0_20)) ?_ ?_
  · intro y0_20
    exact ji_iret am rfl dd_offWay_20 rfl rfl
  · intro j20 hj20
    refine ji_icmp_ne (q := 10) (g := 19) am dd_offWay_7 rfl rfl ?_ ?_
    · refine ji_iload_n (q := 20) am dd_offWay_19 rfl 1 rfl rfl ?_
      exact ji_sub (lv' := []) [] rfl (hj20 _)
    · refine ji_aload_n (q := 11) am dd_offWay_10 rfl 0 rfl rfl ?_
      refine ji_get_D_low (q := 14) am dd_offWay_11 rfl ?_
      refine ji_iload_n (q := 15) am dd_offWay_14 rfl 1 rfl rfl ?_
      refine ji_ald_D4 (q := 16) am dd_offWay_15 rfl ?_
      intro v15
      refine ji_goto (q := 20) am dd_offWay_16 rfl ?_
      exact ji_sub (lv' := []) [] rfl (hj20 _)

theorem dd_onWay_0 : decode bd_onWay 0 = .ok (.aload_n 0, 1) := by decide +kernel
theorem dd_onWay_1 : decode bd_onWay 1 = .ok (.getfield 21, 3) := by decide +kernel
theorem dd_onWay_4 : decode bd_onWay 4 = .ok (.iload_n 1, 1) := by decide +kernel
theorem dd_onWay_5 : decode bd_onWay 5 = .ok (.iaload, 1) := by decide +kernel
theorem dd_onWay_6 : decode bd_onWay 6 = .ok (.iload_n 2, 1) := by decide +kernel
theorem dd_onWay_7 : decode bd_onWay 7 = .ok (.if_icmp .ne 12, 3) := by decide +kernel
theorem dd_onWay_10 : decode bd_onWay 10 = .ok (.aload_n 0, 1) := by decide +kernel
theorem dd_onWay_11 : decode bd_onWay 11 = .ok (.getfield 27, 3) := by decide +kernel
theorem dd_onWay_14 : decode bd_onWay 14 = .ok (.iload_n 1, 1) := by decide +kernel
theorem dd_onWay_15 : decode bd_onWay 15 = .ok (.iaload, 1) := by decide +kernel
theorem dd_onWay_16 : decode bd_onWay 16 = .ok (.goto 4, 3) := by decide +kernel
theorem dd_onWay_19 : decode bd_onWay 19 = .ok (.iload_n 1, 1) := by decide +kernel
theorem dd_onWay_20 : decode bd_onWay 20 = .ok (.ireturn, 1) := by decide +kernel
set_option maxHeartbeats 4000000 in
set_option maxRecDepth 100000 in
theorem ctd_onWay {v : wt_V} {s : wt_S} {a1 : Int32} {a2 : Int32} {r : Int32} (t : wt_M) (o : Nat → Int64) (hF : fd_onWay s a1 a2 = some r) : ct_C v yd_onWay (Cond.code yd_onWay bd_onWay 3 (some .int)) 1 [.ref (v.2.1 1), .int a1, .int a2] (some (.int r)) (s, t, o) (s, t, o) := by
  refine ct_of (lv := [(0, .ref (v.2.1 1)), (1, .int a1), (2, .int a2)]) (fun r : Int32 => some (.int r)) (fun _ => (s, t, o)) (by decide) (Nat.le_of_ble_eq_true rfl) rfl ?_ r hF
  intro z hz am
  subst hz
  have am : wt_Am z R_D bd_onWay 3 1 (some .int) := am
  show jj_J z 3 0 [(0, .ref (ad_ z 1)), (1, .int a1), (2, .int a2)] [] (s, t, o) (q_I z s t o) (fd_onWay s a1 a2)
  unfold fd_onWay
  refine ji_aload_n (q := 1) am dd_onWay_0 rfl 0 rfl rfl ?_
  refine ji_get_D_label (q := 4) am dd_onWay_1 rfl ?_
  refine ji_iload_n (q := 5) am dd_onWay_4 rfl 1 rfl rfl ?_
  refine ji_ald_D3 (q := 6) am dd_onWay_5 rfl ?_
  intro v5
  refine ji_iload_n (q := 7) am dd_onWay_6 rfl 2 rfl rfl ?_
  refine ji_jn2 (fun j => ∀ (y0_20 : Int32), jj_J z 3 20 [] [.int y0_20] (s, t, o) (q_I z s t o) (j y0_20)) ?_ ?_
  · intro y0_20
    exact ji_iret am rfl dd_onWay_20 rfl rfl
  · intro j20 hj20
    refine ji_icmp_ne (q := 10) (g := 19) am dd_onWay_7 rfl rfl ?_ ?_
    · refine ji_iload_n (q := 20) am dd_onWay_19 rfl 1 rfl rfl ?_
      exact ji_sub (lv' := []) [] rfl (hj20 _)
    · refine ji_aload_n (q := 11) am dd_onWay_10 rfl 0 rfl rfl ?_
      refine ji_get_D_high (q := 14) am dd_onWay_11 rfl ?_
      refine ji_iload_n (q := 15) am dd_onWay_14 rfl 1 rfl rfl ?_
      refine ji_ald_D5 (q := 16) am dd_onWay_15 rfl ?_
      intro v15
      refine ji_goto (q := 20) am dd_onWay_16 rfl ?_
      exact ji_sub (lv' := []) [] rfl (hj20 _)
