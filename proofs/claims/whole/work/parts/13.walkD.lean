/-! Walks of D.support, D.size, D.seat, D.lift, D.exchange, D.move, D.blameUnder, D.blame, D.faults: printed by my program out of the listing. -/
theorem dd_support_0 : decode bd_support 0 = .ok (.iload_n 1, 1) := by decide +kernel
theorem dd_support_1 : decode bd_support 1 = .ok (.iconst 1, 1) := by decide +kernel
theorem dd_support_2 : decode bd_support 2 = .ok (.if_icmp .le 9, 3) := by decide +kernel
theorem dd_support_5 : decode bd_support 5 = .ok (.iload_n 2, 1) := by decide +kernel
theorem dd_support_6 : decode bd_support 6 = .ok (.bipush 8, 2) := by decide +kernel
theorem dd_support_8 : decode bd_support 8 = .ok (.if_icmp .lt 5, 3) := by decide +kernel
theorem dd_support_11 : decode bd_support 11 = .ok (.iconst 0, 1) := by decide +kernel
theorem dd_support_12 : decode bd_support 12 = .ok (.ireturn, 1) := by decide +kernel
theorem dd_support_13 : decode bd_support 13 = .ok (.iconst 1, 1) := by decide +kernel
theorem dd_support_14 : decode bd_support 14 = .ok (.aload_n 0, 1) := by decide +kernel
theorem dd_support_15 : decode bd_support 15 = .ok (.getfield 21, 3) := by decide +kernel
theorem dd_support_18 : decode bd_support 18 = .ok (.iload_n 1, 1) := by decide +kernel
theorem dd_support_19 : decode bd_support 19 = .ok (.iaload, 1) := by decide +kernel
theorem dd_support_20 : decode bd_support 20 = .ok (.ishl, 1) := by decide +kernel
theorem dd_support_21 : decode bd_support 21 = .ok (.aload_n 0, 1) := by decide +kernel
theorem dd_support_22 : decode bd_support 22 = .ok (.aload_n 0, 1) := by decide +kernel
theorem dd_support_23 : decode bd_support 23 = .ok (.getfield 24, 3) := by decide +kernel
theorem dd_support_26 : decode bd_support 26 = .ok (.iload_n 1, 1) := by decide +kernel
theorem dd_support_27 : decode bd_support 27 = .ok (.iaload, 1) := by decide +kernel
theorem dd_support_28 : decode bd_support 28 = .ok (.iload_n 2, 1) := by decide +kernel
theorem dd_support_29 : decode bd_support 29 = .ok (.iconst 1, 1) := by decide +kernel
theorem dd_support_30 : decode bd_support 30 = .ok (.iadd, 1) := by decide +kernel
theorem dd_support_31 : decode bd_support 31 = .ok (.invokevirtual 93, 3) := by decide +kernel
theorem dd_support_34 : decode bd_support 34 = .ok (.ior, 1) := by decide +kernel
theorem dd_support_35 : decode bd_support 35 = .ok (.aload_n 0, 1) := by decide +kernel
theorem dd_support_36 : decode bd_support 36 = .ok (.aload_n 0, 1) := by decide +kernel
theorem dd_support_37 : decode bd_support 37 = .ok (.getfield 27, 3) := by decide +kernel
theorem dd_support_40 : decode bd_support 40 = .ok (.iload_n 1, 1) := by decide +kernel
theorem dd_support_41 : decode bd_support 41 = .ok (.iaload, 1) := by decide +kernel
theorem dd_support_42 : decode bd_support 42 = .ok (.iload_n 2, 1) := by decide +kernel
theorem dd_support_43 : decode bd_support 43 = .ok (.iconst 1, 1) := by decide +kernel
theorem dd_support_44 : decode bd_support 44 = .ok (.iadd, 1) := by decide +kernel
theorem dd_support_45 : decode bd_support 45 = .ok (.invokevirtual 93, 3) := by decide +kernel
theorem dd_support_48 : decode bd_support 48 = .ok (.ior, 1) := by decide +kernel
theorem dd_support_49 : decode bd_support 49 = .ok (.ireturn, 1) := by decide +kernel
set_option maxHeartbeats 4000000 in
set_option maxRecDepth 100000 in
theorem ctd_support {v : wt_V} (t : wt_M) (o : Nat → Int64) : ∀ (n : Nat) (s : wt_S) (a1 : Int32) (a2 : Int32) (r : Int32), fd_support n s a1 a2 = some r → ct_C v yd_support (Cond.code yd_support bd_support 3 (some .int)) (n + 0) [.ref (v.2.1 1), .int a1, .int a2] (some (.int r)) (s, t, o) (s, t, o) := by
  intro n
  induction n with
  | zero =>
    intro s a1 a2 r hF
    cases (show (none : Option (Int32)) = some _ from hF)
  | succ n ih =>
    intro s a1 a2 r hF
    refine ct_of (lv := [(0, .ref (v.2.1 1)), (1, .int a1), (2, .int a2)]) (fun r : Int32 => some (.int r)) (fun _ => (s, t, o)) (by decide) (Nat.le_of_ble_eq_true rfl) rfl ?_ r hF
    intro z hz am
    subst hz
    have am : wt_Am z R_D bd_support 3 (n + 1 + 0) (some .int) := am
    show jj_J z 3 0 [(0, .ref (ad_ z 1)), (1, .int a1), (2, .int a2)] [] (s, t, o) (q_I z s t o) (fd_support (n + 1) s a1 a2)
    rw [fd_support]
    refine ji_iload_n (q := 1) am dd_support_0 rfl 1 rfl rfl ?_
    refine ji_iconst (q := 2) am dd_support_1 ki_1 rfl ?_
    refine ji_jn2 (fun j => ∀ (u11 : Unit), jj_J z 3 11 [] [] (s, t, o) (q_I z s t o) (j u11)) ?_ ?_
    · intro u11
      refine ji_iconst (q := 12) am dd_support_11 ki_0 rfl ?_
      exact ji_iret am rfl dd_support_12 rfl rfl
    · intro j11 hj11
      refine ji_icmp_le (q := 5) (g := 11) am dd_support_2 rfl rfl ?_ ?_
      · exact ji_sub (lv' := []) [] rfl (hj11 _)
      · refine ji_iload_n (q := 6) am dd_support_5 rfl 2 rfl rfl ?_
        refine ji_bipush (q := 8) am dd_support_6 kb_8 rfl ?_
        refine ji_icmp_lt (q := 11) (g := 13) am dd_support_8 rfl rfl ?_ ?_
        · refine ji_iconst (q := 14) am dd_support_13 ki_1 rfl ?_
          refine ji_aload_n (q := 15) am dd_support_14 rfl 0 rfl rfl ?_
          refine ji_get_D_label (q := 18) am dd_support_15 rfl ?_
          refine ji_iload_n (q := 19) am dd_support_18 rfl 1 rfl rfl ?_
          refine ji_ald_D3 (q := 20) am dd_support_19 rfl ?_
          intro v19
          refine ji_ishl (q := 21) am dd_support_20 rfl ?_
          refine ji_aload_n (q := 22) am dd_support_21 rfl 0 rfl rfl ?_
          refine ji_aload_n (q := 23) am dd_support_22 rfl 0 rfl rfl ?_
          refine ji_get_D_low (q := 26) am dd_support_23 rfl ?_
          refine ji_iload_n (q := 27) am dd_support_26 rfl 1 rfl rfl ?_
          refine ji_ald_D4 (q := 28) am dd_support_27 rfl ?_
          intro v27
          refine ji_iload_n (q := 29) am dd_support_28 rfl 2 rfl rfl ?_
          refine ji_iconst (q := 30) am dd_support_29 ki_1 rfl ?_
          refine ji_iadd (q := 31) am dd_support_30 rfl ?_
          refine jk_I (q := 34) (rest := [.int ((1 : Int32) <<< (v19 &&& 31))]) (fun r hF => jr_V [.int v27, .int (a2 + (1 : Int32))] am ln_D_d_support (ih _ _ _ _ hF) (by omega) (rc_D am) rfl rfl (Nat.le_of_ble_eq_true rfl) dd_support_31) rfl ?_
          intro r31
          refine ji_ior (q := 35) am dd_support_34 rfl ?_
          refine ji_aload_n (q := 36) am dd_support_35 rfl 0 rfl rfl ?_
          refine ji_aload_n (q := 37) am dd_support_36 rfl 0 rfl rfl ?_
          refine ji_get_D_high (q := 40) am dd_support_37 rfl ?_
          refine ji_iload_n (q := 41) am dd_support_40 rfl 1 rfl rfl ?_
          refine ji_ald_D5 (q := 42) am dd_support_41 rfl ?_
          intro v41
          refine ji_iload_n (q := 43) am dd_support_42 rfl 2 rfl rfl ?_
          refine ji_iconst (q := 44) am dd_support_43 ki_1 rfl ?_
          refine ji_iadd (q := 45) am dd_support_44 rfl ?_
          refine jk_I (q := 48) (rest := [.int (((1 : Int32) <<< (v19 &&& 31)) ||| r31)]) (fun r hF => jr_V [.int v41, .int (a2 + (1 : Int32))] am ln_D_d_support (ih _ _ _ _ hF) (by omega) (rc_D am) rfl rfl (Nat.le_of_ble_eq_true rfl) dd_support_45) rfl ?_
          intro r45
          refine ji_ior (q := 49) am dd_support_48 rfl ?_
          exact ji_iret am rfl dd_support_49 rfl rfl
        · exact ji_sub (lv' := []) [] rfl (hj11 _)

theorem dd_size_0 : decode bd_size 0 = .ok (.aload_n 0, 1) := by decide +kernel
theorem dd_size_1 : decode bd_size 1 = .ok (.invokevirtual 96, 3) := by decide +kernel
theorem dd_size_4 : decode bd_size 4 = .ok (.aload_n 0, 1) := by decide +kernel
theorem dd_size_5 : decode bd_size 5 = .ok (.iload_n 1, 1) := by decide +kernel
theorem dd_size_6 : decode bd_size 6 = .ok (.iconst 0, 1) := by decide +kernel
theorem dd_size_7 : decode bd_size 7 = .ok (.invokevirtual 99, 3) := by decide +kernel
theorem dd_size_10 : decode bd_size 10 = .ok (.ireturn, 1) := by decide +kernel
set_option maxHeartbeats 4000000 in
set_option maxRecDepth 100000 in
theorem ctd_size {v : wt_V} {s : wt_S} {a1 : Int32} {r : Int32} {s2 : wt_S} (t : wt_M) (o : Nat → Int64) (hF : fd_size s a1 = some (r, s2)) : ct_C v yd_size (Cond.code yd_size bd_size 2 (some .int)) 10 [.ref (v.2.1 1), .int a1] (some (.int r)) (s, t, o) (s2, t, o) := by
  refine ct_of (lv := [(0, .ref (v.2.1 1)), (1, .int a1)]) (fun r : Int32 × wt_S => some (.int r.1)) (fun r => (r.2, t, o)) (by decide) (Nat.le_of_ble_eq_true rfl) rfl ?_ (r, s2) hF
  intro z hz am
  subst hz
  have am : wt_Am z R_D bd_size 2 10 (some .int) := am
  show jj_J z 2 0 [(0, .ref (ad_ z 1)), (1, .int a1)] [] (s, t, o) (q_IS z t o) (fd_size s a1)
  unfold fd_size
  refine ji_aload_n (q := 1) am dd_size_0 rfl 0 rfl rfl ?_
  refine jk_S (q := 4) (rest := []) (fun s2 hF => jr_V [] am ln_D_d_clearMarks (ctd_clearMarks _ _ hF) (by omega) (rc_D am) rfl rfl (Nat.le_of_ble_eq_true rfl) dd_size_1) rfl ?_
  intro s1
  refine ji_aload_n (q := 5) am dd_size_4 rfl 0 rfl rfl ?_
  refine ji_iload_n (q := 6) am dd_size_5 rfl 1 rfl rfl ?_
  refine ji_iconst (q := 7) am dd_size_6 ki_0 rfl ?_
  refine jk_IS (q := 10) (rest := []) (fun r s2 hF => jr_V [.int a1, .int (0 : Int32)] am ln_D_d_mark (ctd_mark t o 9 _ _ _ _ _ hF) (by omega) (rc_D am) rfl rfl (Nat.le_of_ble_eq_true rfl) dd_size_7) rfl ?_
  intro r7 s7
  exact ji_iret am rfl dd_size_10 rfl rfl

theorem dd_seat_0 : decode bd_seat 0 = .ok (.aload_n 0, 1) := by decide +kernel
theorem dd_seat_1 : decode bd_seat 1 = .ok (.getfield 15, 3) := by decide +kernel
theorem dd_seat_4 : decode bd_seat 4 = .ok (.iload_n 2, 1) := by decide +kernel
theorem dd_seat_5 : decode bd_seat 5 = .ok (.iload_n 1, 1) := by decide +kernel
theorem dd_seat_6 : decode bd_seat 6 = .ok (.iastore, 1) := by decide +kernel
theorem dd_seat_7 : decode bd_seat 7 = .ok (.aload_n 0, 1) := by decide +kernel
theorem dd_seat_8 : decode bd_seat 8 = .ok (.getfield 18, 3) := by decide +kernel
theorem dd_seat_11 : decode bd_seat 11 = .ok (.iload_n 1, 1) := by decide +kernel
theorem dd_seat_12 : decode bd_seat 12 = .ok (.iload_n 2, 1) := by decide +kernel
theorem dd_seat_13 : decode bd_seat 13 = .ok (.iastore, 1) := by decide +kernel
theorem dd_seat_14 : decode bd_seat 14 = .ok (.return_, 1) := by decide +kernel
set_option maxHeartbeats 4000000 in
set_option maxRecDepth 100000 in
theorem ctd_seat {v : wt_V} {s : wt_S} {a1 : Int32} {a2 : Int32} {s2 : wt_S} (t : wt_M) (o : Nat → Int64) (hF : fd_seat s a1 a2 = some s2) : ct_C v yd_seat (Cond.code yd_seat bd_seat 3 none) 1 [.ref (v.2.1 1), .int a1, .int a2] none (s, t, o) (s2, t, o) := by
  refine ct_of (lv := [(0, .ref (v.2.1 1)), (1, .int a1), (2, .int a2)]) (fun _ : wt_S => none) (fun r => (r, t, o)) (by decide) (Nat.le_of_ble_eq_true rfl) rfl ?_ s2 hF
  intro z hz am
  subst hz
  have am : wt_Am z R_D bd_seat 3 1 none := am
  show jj_J z 3 0 [(0, .ref (ad_ z 1)), (1, .int a1), (2, .int a2)] [] (s, t, o) (q_S z t o) (fd_seat s a1 a2)
  unfold fd_seat
  refine ji_aload_n (q := 1) am dd_seat_0 rfl 0 rfl rfl ?_
  refine ji_get_D_atLevel (q := 4) am dd_seat_1 rfl ?_
  refine ji_iload_n (q := 5) am dd_seat_4 rfl 2 rfl rfl ?_
  refine ji_iload_n (q := 6) am dd_seat_5 rfl 1 rfl rfl ?_
  refine ji_ast_D1 (q := 7) am dd_seat_6 rfl ?_
  intro s6
  refine ji_aload_n (q := 8) am dd_seat_7 rfl 0 rfl rfl ?_
  refine ji_get_D_levelOf (q := 11) am dd_seat_8 rfl ?_
  refine ji_iload_n (q := 12) am dd_seat_11 rfl 1 rfl rfl ?_
  refine ji_iload_n (q := 13) am dd_seat_12 rfl 2 rfl rfl ?_
  refine ji_ast_D2 (q := 14) am dd_seat_13 rfl ?_
  intro s13
  exact ji_vret am rfl dd_seat_14 rfl rfl

theorem dd_lift_0 : decode bd_lift 0 = .ok (.aload_n 0, 1) := by decide +kernel
theorem dd_lift_1 : decode bd_lift 1 = .ok (.iload_n 2, 1) := by decide +kernel
theorem dd_lift_2 : decode bd_lift 2 = .ok (.aload_n 0, 1) := by decide +kernel
theorem dd_lift_3 : decode bd_lift 3 = .ok (.aload_n 0, 1) := by decide +kernel
theorem dd_lift_4 : decode bd_lift 4 = .ok (.getfield 24, 3) := by decide +kernel
theorem dd_lift_7 : decode bd_lift 7 = .ok (.iload_n 1, 1) := by decide +kernel
theorem dd_lift_8 : decode bd_lift 8 = .ok (.iaload, 1) := by decide +kernel
theorem dd_lift_9 : decode bd_lift 9 = .ok (.iload_n 3, 1) := by decide +kernel
theorem dd_lift_10 : decode bd_lift 10 = .ok (.invokevirtual 71, 3) := by decide +kernel
theorem dd_lift_13 : decode bd_lift 13 = .ok (.aload_n 0, 1) := by decide +kernel
theorem dd_lift_14 : decode bd_lift 14 = .ok (.aload_n 0, 1) := by decide +kernel
theorem dd_lift_15 : decode bd_lift 15 = .ok (.getfield 27, 3) := by decide +kernel
theorem dd_lift_18 : decode bd_lift 18 = .ok (.iload_n 1, 1) := by decide +kernel
theorem dd_lift_19 : decode bd_lift 19 = .ok (.iaload, 1) := by decide +kernel
theorem dd_lift_20 : decode bd_lift 20 = .ok (.iload_n 3, 1) := by decide +kernel
theorem dd_lift_21 : decode bd_lift 21 = .ok (.invokevirtual 71, 3) := by decide +kernel
theorem dd_lift_24 : decode bd_lift 24 = .ok (.invokevirtual 59, 3) := by decide +kernel
theorem dd_lift_27 : decode bd_lift 27 = .ok (.istore 4, 2) := by decide +kernel
theorem dd_lift_29 : decode bd_lift 29 = .ok (.aload_n 0, 1) := by decide +kernel
theorem dd_lift_30 : decode bd_lift 30 = .ok (.iload_n 2, 1) := by decide +kernel
theorem dd_lift_31 : decode bd_lift 31 = .ok (.aload_n 0, 1) := by decide +kernel
theorem dd_lift_32 : decode bd_lift 32 = .ok (.aload_n 0, 1) := by decide +kernel
theorem dd_lift_33 : decode bd_lift 33 = .ok (.getfield 24, 3) := by decide +kernel
theorem dd_lift_36 : decode bd_lift 36 = .ok (.iload_n 1, 1) := by decide +kernel
theorem dd_lift_37 : decode bd_lift 37 = .ok (.iaload, 1) := by decide +kernel
theorem dd_lift_38 : decode bd_lift 38 = .ok (.iload_n 3, 1) := by decide +kernel
theorem dd_lift_39 : decode bd_lift 39 = .ok (.invokevirtual 74, 3) := by decide +kernel
theorem dd_lift_42 : decode bd_lift 42 = .ok (.aload_n 0, 1) := by decide +kernel
theorem dd_lift_43 : decode bd_lift 43 = .ok (.aload_n 0, 1) := by decide +kernel
theorem dd_lift_44 : decode bd_lift 44 = .ok (.getfield 27, 3) := by decide +kernel
theorem dd_lift_47 : decode bd_lift 47 = .ok (.iload_n 1, 1) := by decide +kernel
theorem dd_lift_48 : decode bd_lift 48 = .ok (.iaload, 1) := by decide +kernel
theorem dd_lift_49 : decode bd_lift 49 = .ok (.iload_n 3, 1) := by decide +kernel
theorem dd_lift_50 : decode bd_lift 50 = .ok (.invokevirtual 74, 3) := by decide +kernel
theorem dd_lift_53 : decode bd_lift 53 = .ok (.invokevirtual 59, 3) := by decide +kernel
theorem dd_lift_56 : decode bd_lift 56 = .ok (.istore 5, 2) := by decide +kernel
theorem dd_lift_58 : decode bd_lift 58 = .ok (.aload_n 0, 1) := by decide +kernel
theorem dd_lift_59 : decode bd_lift 59 = .ok (.getfield 21, 3) := by decide +kernel
theorem dd_lift_62 : decode bd_lift 62 = .ok (.iload_n 1, 1) := by decide +kernel
theorem dd_lift_63 : decode bd_lift 63 = .ok (.iload_n 3, 1) := by decide +kernel
theorem dd_lift_64 : decode bd_lift 64 = .ok (.iastore, 1) := by decide +kernel
theorem dd_lift_65 : decode bd_lift 65 = .ok (.aload_n 0, 1) := by decide +kernel
theorem dd_lift_66 : decode bd_lift 66 = .ok (.getfield 24, 3) := by decide +kernel
theorem dd_lift_69 : decode bd_lift 69 = .ok (.iload_n 1, 1) := by decide +kernel
theorem dd_lift_70 : decode bd_lift 70 = .ok (.iload 4, 2) := by decide +kernel
theorem dd_lift_72 : decode bd_lift 72 = .ok (.iastore, 1) := by decide +kernel
theorem dd_lift_73 : decode bd_lift 73 = .ok (.aload_n 0, 1) := by decide +kernel
theorem dd_lift_74 : decode bd_lift 74 = .ok (.getfield 27, 3) := by decide +kernel
theorem dd_lift_77 : decode bd_lift 77 = .ok (.iload_n 1, 1) := by decide +kernel
theorem dd_lift_78 : decode bd_lift 78 = .ok (.iload 5, 2) := by decide +kernel
theorem dd_lift_80 : decode bd_lift 80 = .ok (.iastore, 1) := by decide +kernel
theorem dd_lift_81 : decode bd_lift 81 = .ok (.return_, 1) := by decide +kernel
set_option maxHeartbeats 4000000 in
set_option maxRecDepth 100000 in
theorem ctd_lift {v : wt_V} {s : wt_S} {a1 : Int32} {a2 : Int32} {a3 : Int32} {s2 : wt_S} (t : wt_M) (o : Nat → Int64) (hF : fd_lift s a1 a2 a3 = some s2) : ct_C v yd_lift (Cond.code yd_lift bd_lift 6 none) 3 [.ref (v.2.1 1), .int a1, .int a2, .int a3] none (s, t, o) (s2, t, o) := by
  refine ct_of (lv := [(0, .ref (v.2.1 1)), (1, .int a1), (2, .int a2), (3, .int a3)]) (fun _ : wt_S => none) (fun r => (r, t, o)) (by decide) (Nat.le_of_ble_eq_true rfl) rfl ?_ s2 hF
  intro z hz am
  subst hz
  have am : wt_Am z R_D bd_lift 6 3 none := am
  show jj_J z 6 0 [(0, .ref (ad_ z 1)), (1, .int a1), (2, .int a2), (3, .int a3)] [] (s, t, o) (q_S z t o) (fd_lift s a1 a2 a3)
  unfold fd_lift
  refine ji_aload_n (q := 1) am dd_lift_0 rfl 0 rfl rfl ?_
  refine ji_iload_n (q := 2) am dd_lift_1 rfl 2 rfl rfl ?_
  refine ji_aload_n (q := 3) am dd_lift_2 rfl 0 rfl rfl ?_
  refine ji_aload_n (q := 4) am dd_lift_3 rfl 0 rfl rfl ?_
  refine ji_get_D_low (q := 7) am dd_lift_4 rfl ?_
  refine ji_iload_n (q := 8) am dd_lift_7 rfl 1 rfl rfl ?_
  refine ji_ald_D4 (q := 9) am dd_lift_8 rfl ?_
  intro v8
  refine ji_iload_n (q := 10) am dd_lift_9 rfl 3 rfl rfl ?_
  refine jk_I (q := 13) (rest := [.int a2, .ref (ad_ z 1)]) (fun r hF => jr_V [.int v8, .int a3] am ln_D_d_offWay (ctd_offWay _ _ hF) (by omega) (rc_D am) rfl rfl (Nat.le_of_ble_eq_true rfl) dd_lift_10) rfl ?_
  intro r10
  refine ji_aload_n (q := 14) am dd_lift_13 rfl 0 rfl rfl ?_
  refine ji_aload_n (q := 15) am dd_lift_14 rfl 0 rfl rfl ?_
  refine ji_get_D_high (q := 18) am dd_lift_15 rfl ?_
  refine ji_iload_n (q := 19) am dd_lift_18 rfl 1 rfl rfl ?_
  refine ji_ald_D5 (q := 20) am dd_lift_19 rfl ?_
  intro v19
  refine ji_iload_n (q := 21) am dd_lift_20 rfl 3 rfl rfl ?_
  refine jk_I (q := 24) (rest := [.int r10, .int a2, .ref (ad_ z 1)]) (fun r hF => jr_V [.int v19, .int a3] am ln_D_d_offWay (ctd_offWay _ _ hF) (by omega) (rc_D am) rfl rfl (Nat.le_of_ble_eq_true rfl) dd_lift_21) rfl ?_
  intro r21
  refine jk_IS (q := 27) (rest := []) (fun r s2 hF => jr_V [.int a2, .int r10, .int r21] am ln_D_d_node (ctd_node _ _ hF) (by omega) (rc_D am) rfl rfl (Nat.le_of_ble_eq_true rfl) dd_lift_24) rfl ?_
  intro r24 s24
  refine ji_istore (lv' := [(0, .ref (ad_ z 1)), (1, .int a1), (2, .int a2), (3, .int a3), (4, .int r24)]) (q := 29) am dd_lift_27 [1, 2, 3, 4, 0] rfl rfl rfl ?_
  refine ji_aload_n (q := 30) am dd_lift_29 rfl 0 rfl rfl ?_
  refine ji_iload_n (q := 31) am dd_lift_30 rfl 2 rfl rfl ?_
  refine ji_aload_n (q := 32) am dd_lift_31 rfl 0 rfl rfl ?_
  refine ji_aload_n (q := 33) am dd_lift_32 rfl 0 rfl rfl ?_
  refine ji_get_D_low (q := 36) am dd_lift_33 rfl ?_
  refine ji_iload_n (q := 37) am dd_lift_36 rfl 1 rfl rfl ?_
  refine ji_ald_D4 (q := 38) am dd_lift_37 rfl ?_
  intro v37
  refine ji_iload_n (q := 39) am dd_lift_38 rfl 3 rfl rfl ?_
  refine jk_I (q := 42) (rest := [.int a2, .ref (ad_ z 1)]) (fun r hF => jr_V [.int v37, .int a3] am ln_D_d_onWay (ctd_onWay _ _ hF) (by omega) (rc_D am) rfl rfl (Nat.le_of_ble_eq_true rfl) dd_lift_39) rfl ?_
  intro r39
  refine ji_aload_n (q := 43) am dd_lift_42 rfl 0 rfl rfl ?_
  refine ji_aload_n (q := 44) am dd_lift_43 rfl 0 rfl rfl ?_
  refine ji_get_D_high (q := 47) am dd_lift_44 rfl ?_
  refine ji_iload_n (q := 48) am dd_lift_47 rfl 1 rfl rfl ?_
  refine ji_ald_D5 (q := 49) am dd_lift_48 rfl ?_
  intro v48
  refine ji_iload_n (q := 50) am dd_lift_49 rfl 3 rfl rfl ?_
  refine jk_I (q := 53) (rest := [.int r39, .int a2, .ref (ad_ z 1)]) (fun r hF => jr_V [.int v48, .int a3] am ln_D_d_onWay (ctd_onWay _ _ hF) (by omega) (rc_D am) rfl rfl (Nat.le_of_ble_eq_true rfl) dd_lift_50) rfl ?_
  intro r50
  refine jk_IS (q := 56) (rest := []) (fun r s2 hF => jr_V [.int a2, .int r39, .int r50] am ln_D_d_node (ctd_node _ _ hF) (by omega) (rc_D am) rfl rfl (Nat.le_of_ble_eq_true rfl) dd_lift_53) rfl ?_
  intro r53 s53
  refine ji_istore (lv' := [(0, .ref (ad_ z 1)), (1, .int a1), (2, .int a2), (3, .int a3), (4, .int r24), (5, .int r53)]) (q := 58) am dd_lift_56 [1, 2, 3, 4, 5, 0] rfl rfl rfl ?_
  refine ji_aload_n (q := 59) am dd_lift_58 rfl 0 rfl rfl ?_
  refine ji_get_D_label (q := 62) am dd_lift_59 rfl ?_
  refine ji_iload_n (q := 63) am dd_lift_62 rfl 1 rfl rfl ?_
  refine ji_iload_n (q := 64) am dd_lift_63 rfl 3 rfl rfl ?_
  refine ji_ast_D3 (q := 65) am dd_lift_64 rfl ?_
  intro s64
  refine ji_aload_n (q := 66) am dd_lift_65 rfl 0 rfl rfl ?_
  refine ji_get_D_low (q := 69) am dd_lift_66 rfl ?_
  refine ji_iload_n (q := 70) am dd_lift_69 rfl 1 rfl rfl ?_
  refine ji_iload (q := 72) am dd_lift_70 4 rfl rfl ?_
  refine ji_ast_D4 (q := 73) am dd_lift_72 rfl ?_
  intro s72
  refine ji_aload_n (q := 74) am dd_lift_73 rfl 0 rfl rfl ?_
  refine ji_get_D_high (q := 77) am dd_lift_74 rfl ?_
  refine ji_iload_n (q := 78) am dd_lift_77 rfl 1 rfl rfl ?_
  refine ji_iload (q := 80) am dd_lift_78 5 rfl rfl ?_
  refine ji_ast_D5 (q := 81) am dd_lift_80 rfl ?_
  intro s80
  exact ji_vret am rfl dd_lift_81 rfl rfl

theorem dd_exchange_0 : decode bd_exchange 0 = .ok (.aload_n 0, 1) := by decide +kernel
theorem dd_exchange_1 : decode bd_exchange 1 = .ok (.getfield 15, 3) := by decide +kernel
theorem dd_exchange_4 : decode bd_exchange 4 = .ok (.iload_n 1, 1) := by decide +kernel
theorem dd_exchange_5 : decode bd_exchange 5 = .ok (.iaload, 1) := by decide +kernel
theorem dd_exchange_6 : decode bd_exchange 6 = .ok (.istore_n 2, 1) := by decide +kernel
theorem dd_exchange_7 : decode bd_exchange 7 = .ok (.aload_n 0, 1) := by decide +kernel
theorem dd_exchange_8 : decode bd_exchange 8 = .ok (.getfield 15, 3) := by decide +kernel
theorem dd_exchange_11 : decode bd_exchange 11 = .ok (.iload_n 1, 1) := by decide +kernel
theorem dd_exchange_12 : decode bd_exchange 12 = .ok (.iconst 1, 1) := by decide +kernel
theorem dd_exchange_13 : decode bd_exchange 13 = .ok (.iadd, 1) := by decide +kernel
theorem dd_exchange_14 : decode bd_exchange 14 = .ok (.iaload, 1) := by decide +kernel
theorem dd_exchange_15 : decode bd_exchange 15 = .ok (.istore_n 3, 1) := by decide +kernel
theorem dd_exchange_16 : decode bd_exchange 16 = .ok (.aload_n 0, 1) := by decide +kernel
theorem dd_exchange_17 : decode bd_exchange 17 = .ok (.iload_n 3, 1) := by decide +kernel
theorem dd_exchange_18 : decode bd_exchange 18 = .ok (.iload_n 1, 1) := by decide +kernel
theorem dd_exchange_19 : decode bd_exchange 19 = .ok (.invokevirtual 106, 3) := by decide +kernel
theorem dd_exchange_22 : decode bd_exchange 22 = .ok (.aload_n 0, 1) := by decide +kernel
theorem dd_exchange_23 : decode bd_exchange 23 = .ok (.iload_n 2, 1) := by decide +kernel
theorem dd_exchange_24 : decode bd_exchange 24 = .ok (.iload_n 1, 1) := by decide +kernel
theorem dd_exchange_25 : decode bd_exchange 25 = .ok (.iconst 1, 1) := by decide +kernel
theorem dd_exchange_26 : decode bd_exchange 26 = .ok (.iadd, 1) := by decide +kernel
theorem dd_exchange_27 : decode bd_exchange 27 = .ok (.invokevirtual 106, 3) := by decide +kernel
theorem dd_exchange_30 : decode bd_exchange 30 = .ok (.iconst 2, 1) := by decide +kernel
theorem dd_exchange_31 : decode bd_exchange 31 = .ok (.istore 4, 2) := by decide +kernel
theorem dd_exchange_33 : decode bd_exchange 33 = .ok (.iload 4, 2) := by decide +kernel
theorem dd_exchange_35 : decode bd_exchange 35 = .ok (.aload_n 0, 1) := by decide +kernel
theorem dd_exchange_36 : decode bd_exchange 36 = .ok (.getfield 44, 3) := by decide +kernel
theorem dd_exchange_39 : decode bd_exchange 39 = .ok (.if_icmp .ge 60, 3) := by decide +kernel
theorem dd_exchange_42 : decode bd_exchange 42 = .ok (.aload_n 0, 1) := by decide +kernel
theorem dd_exchange_43 : decode bd_exchange 43 = .ok (.getfield 21, 3) := by decide +kernel
theorem dd_exchange_46 : decode bd_exchange 46 = .ok (.iload 4, 2) := by decide +kernel
theorem dd_exchange_48 : decode bd_exchange 48 = .ok (.iaload, 1) := by decide +kernel
theorem dd_exchange_49 : decode bd_exchange 49 = .ok (.iload_n 2, 1) := by decide +kernel
theorem dd_exchange_50 : decode bd_exchange 50 = .ok (.if_icmp .ne 43, 3) := by decide +kernel
theorem dd_exchange_53 : decode bd_exchange 53 = .ok (.aload_n 0, 1) := by decide +kernel
theorem dd_exchange_54 : decode bd_exchange 54 = .ok (.getfield 21, 3) := by decide +kernel
theorem dd_exchange_57 : decode bd_exchange 57 = .ok (.aload_n 0, 1) := by decide +kernel
theorem dd_exchange_58 : decode bd_exchange 58 = .ok (.getfield 24, 3) := by decide +kernel
theorem dd_exchange_61 : decode bd_exchange 61 = .ok (.iload 4, 2) := by decide +kernel
theorem dd_exchange_63 : decode bd_exchange 63 = .ok (.iaload, 1) := by decide +kernel
theorem dd_exchange_64 : decode bd_exchange 64 = .ok (.iaload, 1) := by decide +kernel
theorem dd_exchange_65 : decode bd_exchange 65 = .ok (.iload_n 3, 1) := by decide +kernel
theorem dd_exchange_66 : decode bd_exchange 66 = .ok (.if_icmp .eq 19, 3) := by decide +kernel
theorem dd_exchange_69 : decode bd_exchange 69 = .ok (.aload_n 0, 1) := by decide +kernel
theorem dd_exchange_70 : decode bd_exchange 70 = .ok (.getfield 21, 3) := by decide +kernel
theorem dd_exchange_73 : decode bd_exchange 73 = .ok (.aload_n 0, 1) := by decide +kernel
theorem dd_exchange_74 : decode bd_exchange 74 = .ok (.getfield 27, 3) := by decide +kernel
theorem dd_exchange_77 : decode bd_exchange 77 = .ok (.iload 4, 2) := by decide +kernel
theorem dd_exchange_79 : decode bd_exchange 79 = .ok (.iaload, 1) := by decide +kernel
theorem dd_exchange_80 : decode bd_exchange 80 = .ok (.iaload, 1) := by decide +kernel
theorem dd_exchange_81 : decode bd_exchange 81 = .ok (.iload_n 3, 1) := by decide +kernel
theorem dd_exchange_82 : decode bd_exchange 82 = .ok (.if_icmp .ne 11, 3) := by decide +kernel
theorem dd_exchange_85 : decode bd_exchange 85 = .ok (.aload_n 0, 1) := by decide +kernel
theorem dd_exchange_86 : decode bd_exchange 86 = .ok (.iload 4, 2) := by decide +kernel
theorem dd_exchange_88 : decode bd_exchange 88 = .ok (.iload_n 2, 1) := by decide +kernel
theorem dd_exchange_89 : decode bd_exchange 89 = .ok (.iload_n 3, 1) := by decide +kernel
theorem dd_exchange_90 : decode bd_exchange 90 = .ok (.invokevirtual 110, 3) := by decide +kernel
theorem dd_exchange_93 : decode bd_exchange 93 = .ok (.iinc 4 1, 3) := by decide +kernel
theorem dd_exchange_96 : decode bd_exchange 96 = .ok (.goto (-63), 3) := by decide +kernel
theorem dd_exchange_99 : decode bd_exchange 99 = .ok (.aload_n 0, 1) := by decide +kernel
theorem dd_exchange_100 : decode bd_exchange 100 = .ok (.invokevirtual 56, 3) := by decide +kernel
theorem dd_exchange_103 : decode bd_exchange 103 = .ok (.return_, 1) := by decide +kernel
set_option maxHeartbeats 4000000 in
set_option maxRecDepth 100000 in
theorem ld_exchange_33 {z : wt_Z} {t : wt_M} {o : Nat → Int64} {c2 : Int32} {c3 : Int32} {K : wt_S → Option (wt_S)} (am : wt_Am z R_D bd_exchange 5 11 none) (hK : ∀ (s3 : wt_S), jj_J z 5 99 [(0, .ref (ad_ z 1))] [] (s3, t, o) (q_S z t o) (K s3)) : ∀ (n : Nat) (x4 : Int32) (s : wt_S), jj_J z 5 33 [(0, .ref (ad_ z 1)), (2, .int c2), (3, .int c3), (4, .int x4)] [] (s, t, o) (q_S z t o) (fd_exchange_L33 c2 c3 K n x4 s) := by
  intro n
  induction n with
  | zero =>
    intro x4 s
    exact ji_none
  | succ n ih =>
    intro x4 s
    rw [fd_exchange_L33]
    refine ji_iload (q := 35) am dd_exchange_33 3 rfl rfl ?_
    refine ji_aload_n (q := 36) am dd_exchange_35 rfl 0 rfl rfl ?_
    refine ji_get_D_end (q := 39) am dd_exchange_36 rfl ?_
    refine ji_icmp_ge (q := 42) (g := 99) am dd_exchange_39 rfl rfl ?_ ?_
    · exact ji_sub (lv' := [(0, .ref (ad_ z 1))]) [0] rfl (hK _)
    · refine ji_aload_n (q := 43) am dd_exchange_42 rfl 0 rfl rfl ?_
      refine ji_get_D_label (q := 46) am dd_exchange_43 rfl ?_
      refine ji_iload (q := 48) am dd_exchange_46 3 rfl rfl ?_
      refine ji_ald_D3 (q := 49) am dd_exchange_48 rfl ?_
      intro v48
      refine ji_iload_n (q := 50) am dd_exchange_49 rfl 1 rfl rfl ?_
      refine ji_jn2 (fun j => ∀ (s_93 : wt_S), jj_J z 5 93 [(0, .ref (ad_ z 1)), (2, .int c2), (3, .int c3), (4, .int x4)] [] (s_93, t, o) (q_S z t o) (j s_93)) ?_ ?_
      · intro s_93
        refine ji_iinc (q := 96) (lv' := [(0, .ref (ad_ z 1)), (2, .int c2), (3, .int c3), (4, .int (x4 + 1))]) am dd_exchange_93 3 rfl ki_1 [1, 2, 3, 0] rfl rfl rfl ?_
        refine ji_goto (q := 33) am dd_exchange_96 rfl ?_
        exact ih _ _
      · intro j93 hj93
        refine ji_icmp_ne (q := 53) (g := 93) am dd_exchange_50 rfl rfl ?_ ?_
        · exact hj93 _
        · refine ji_aload_n (q := 54) am dd_exchange_53 rfl 0 rfl rfl ?_
          refine ji_get_D_label (q := 57) am dd_exchange_54 rfl ?_
          refine ji_aload_n (q := 58) am dd_exchange_57 rfl 0 rfl rfl ?_
          refine ji_get_D_low (q := 61) am dd_exchange_58 rfl ?_
          refine ji_iload (q := 63) am dd_exchange_61 3 rfl rfl ?_
          refine ji_ald_D4 (q := 64) am dd_exchange_63 rfl ?_
          intro v63
          refine ji_ald_D3 (q := 65) am dd_exchange_64 rfl ?_
          intro v64
          refine ji_iload_n (q := 66) am dd_exchange_65 rfl 2 rfl rfl ?_
          refine ji_jn2 (fun j => ∀ (u85 : Unit), jj_J z 5 85 [(0, .ref (ad_ z 1)), (2, .int c2), (3, .int c3), (4, .int x4)] [] (s, t, o) (q_S z t o) (j u85)) ?_ ?_
          · intro u85
            refine ji_aload_n (q := 86) am dd_exchange_85 rfl 0 rfl rfl ?_
            refine ji_iload (q := 88) am dd_exchange_86 3 rfl rfl ?_
            refine ji_iload_n (q := 89) am dd_exchange_88 rfl 1 rfl rfl ?_
            refine ji_iload_n (q := 90) am dd_exchange_89 rfl 2 rfl rfl ?_
            refine jk_S (q := 93) (rest := []) (fun s2 hF => jr_V [.int x4, .int c2, .int c3] am ln_D_d_lift (ctd_lift _ _ hF) (by omega) (rc_D am) rfl rfl (Nat.le_of_ble_eq_true rfl) dd_exchange_90) rfl ?_
            intro s90
            exact hj93 _
          · intro j85 hj85
            refine ji_icmp_eq (q := 69) (g := 85) am dd_exchange_66 rfl rfl ?_ ?_
            · exact hj85 _
            · refine ji_aload_n (q := 70) am dd_exchange_69 rfl 0 rfl rfl ?_
              refine ji_get_D_label (q := 73) am dd_exchange_70 rfl ?_
              refine ji_aload_n (q := 74) am dd_exchange_73 rfl 0 rfl rfl ?_
              refine ji_get_D_high (q := 77) am dd_exchange_74 rfl ?_
              refine ji_iload (q := 79) am dd_exchange_77 3 rfl rfl ?_
              refine ji_ald_D5 (q := 80) am dd_exchange_79 rfl ?_
              intro v79
              refine ji_ald_D3 (q := 81) am dd_exchange_80 rfl ?_
              intro v80
              refine ji_iload_n (q := 82) am dd_exchange_81 rfl 2 rfl rfl ?_
              refine ji_icmp_ne (q := 85) (g := 93) am dd_exchange_82 rfl rfl ?_ ?_
              · exact hj93 _
              · exact hj85 _
set_option maxHeartbeats 4000000 in
set_option maxRecDepth 100000 in
theorem ctd_exchange {v : wt_V} {s : wt_S} {a1 : Int32} {s2 : wt_S} (t : wt_M) (o : Nat → Int64) (hF : fd_exchange s a1 = some s2) : ct_C v yd_exchange (Cond.code yd_exchange bd_exchange 5 none) 11 [.ref (v.2.1 1), .int a1] none (s, t, o) (s2, t, o) := by
  refine ct_of (lv := [(0, .ref (v.2.1 1)), (1, .int a1)]) (fun _ : wt_S => none) (fun r => (r, t, o)) (by decide) (Nat.le_of_ble_eq_true rfl) rfl ?_ s2 hF
  intro z hz am
  subst hz
  have am : wt_Am z R_D bd_exchange 5 11 none := am
  show jj_J z 5 0 [(0, .ref (ad_ z 1)), (1, .int a1)] [] (s, t, o) (q_S z t o) (fd_exchange s a1)
  unfold fd_exchange
  refine ji_aload_n (q := 1) am dd_exchange_0 rfl 0 rfl rfl ?_
  refine ji_get_D_atLevel (q := 4) am dd_exchange_1 rfl ?_
  refine ji_iload_n (q := 5) am dd_exchange_4 rfl 1 rfl rfl ?_
  refine ji_ald_D1 (q := 6) am dd_exchange_5 rfl ?_
  intro v5
  refine ji_istore_n (lv' := [(0, .ref (ad_ z 1)), (1, .int a1), (2, .int v5)]) (q := 7) am dd_exchange_6 rfl [1, 2, 0] rfl rfl rfl ?_
  refine ji_aload_n (q := 8) am dd_exchange_7 rfl 0 rfl rfl ?_
  refine ji_get_D_atLevel (q := 11) am dd_exchange_8 rfl ?_
  refine ji_iload_n (q := 12) am dd_exchange_11 rfl 1 rfl rfl ?_
  refine ji_iconst (q := 13) am dd_exchange_12 ki_1 rfl ?_
  refine ji_iadd (q := 14) am dd_exchange_13 rfl ?_
  refine ji_ald_D1 (q := 15) am dd_exchange_14 rfl ?_
  intro v14
  refine ji_istore_n (lv' := [(0, .ref (ad_ z 1)), (1, .int a1), (2, .int v5), (3, .int v14)]) (q := 16) am dd_exchange_15 rfl [1, 2, 3, 0] rfl rfl rfl ?_
  refine ji_aload_n (q := 17) am dd_exchange_16 rfl 0 rfl rfl ?_
  refine ji_iload_n (q := 18) am dd_exchange_17 rfl 3 rfl rfl ?_
  refine ji_iload_n (q := 19) am dd_exchange_18 rfl 1 rfl rfl ?_
  refine jk_S (q := 22) (rest := []) (fun s2 hF => jr_V [.int v14, .int a1] am ln_D_d_seat (ctd_seat _ _ hF) (by omega) (rc_D am) rfl rfl (Nat.le_of_ble_eq_true rfl) dd_exchange_19) rfl ?_
  intro s19
  refine ji_aload_n (q := 23) am dd_exchange_22 rfl 0 rfl rfl ?_
  refine ji_iload_n (q := 24) am dd_exchange_23 rfl 2 rfl rfl ?_
  refine ji_iload_n (q := 25) am dd_exchange_24 rfl 1 rfl rfl ?_
  refine ji_iconst (q := 26) am dd_exchange_25 ki_1 rfl ?_
  refine ji_iadd (q := 27) am dd_exchange_26 rfl ?_
  refine jk_S (q := 30) (rest := []) (fun s2 hF => jr_V [.int v5, .int (a1 + (1 : Int32))] am ln_D_d_seat (ctd_seat _ _ hF) (by omega) (rc_D am) rfl rfl (Nat.le_of_ble_eq_true rfl) dd_exchange_27) rfl ?_
  intro s27
  refine ji_iconst (q := 31) am dd_exchange_30 ki_2 rfl ?_
  refine ji_istore (lv' := [(0, .ref (ad_ z 1)), (1, .int a1), (2, .int v5), (3, .int v14), (4, .int (2 : Int32))]) (q := 33) am dd_exchange_31 [1, 2, 3, 4, 0] rfl rfl rfl ?_
  refine ji_sub (lv' := [(0, .ref (ad_ z 1)), (2, .int v5), (3, .int v14), (4, .int (2 : Int32))]) [0, 2, 3, 4] rfl (ld_exchange_33 am (fun s_33 => ?_) 5000 _ _)
  refine ji_aload_n (q := 100) am dd_exchange_99 rfl 0 rfl rfl ?_
  refine jk_S (q := 103) (rest := []) (fun s2 hF => jr_V [] am ln_D_d_collect (ctd_collect _ _ hF) (by omega) (rc_D am) rfl rfl (Nat.le_of_ble_eq_true rfl) dd_exchange_100) rfl ?_
  intro s100
  exact ji_vret am rfl dd_exchange_103 rfl rfl

theorem dd_move_0 : decode bd_move 0 = .ok (.iconst 0, 1) := by decide +kernel
theorem dd_move_1 : decode bd_move 1 = .ok (.istore_n 3, 1) := by decide +kernel
theorem dd_move_2 : decode bd_move 2 = .ok (.iload_n 3, 1) := by decide +kernel
theorem dd_move_3 : decode bd_move 3 = .ok (.bipush 8, 2) := by decide +kernel
theorem dd_move_5 : decode bd_move 5 = .ok (.if_icmp .ge 31, 3) := by decide +kernel
theorem dd_move_8 : decode bd_move 8 = .ok (.aload_n 0, 1) := by decide +kernel
theorem dd_move_9 : decode bd_move 9 = .ok (.getfield 18, 3) := by decide +kernel
theorem dd_move_12 : decode bd_move 12 = .ok (.iload_n 1, 1) := by decide +kernel
theorem dd_move_13 : decode bd_move 13 = .ok (.iaload, 1) := by decide +kernel
theorem dd_move_14 : decode bd_move 14 = .ok (.iload_n 2, 1) := by decide +kernel
theorem dd_move_15 : decode bd_move 15 = .ok (.if_icmp .le 21, 3) := by decide +kernel
theorem dd_move_18 : decode bd_move 18 = .ok (.aload_n 0, 1) := by decide +kernel
theorem dd_move_19 : decode bd_move 19 = .ok (.aload_n 0, 1) := by decide +kernel
theorem dd_move_20 : decode bd_move 20 = .ok (.getfield 18, 3) := by decide +kernel
theorem dd_move_23 : decode bd_move 23 = .ok (.iload_n 1, 1) := by decide +kernel
theorem dd_move_24 : decode bd_move 24 = .ok (.iaload, 1) := by decide +kernel
theorem dd_move_25 : decode bd_move 25 = .ok (.iconst 1, 1) := by decide +kernel
theorem dd_move_26 : decode bd_move 26 = .ok (.isub, 1) := by decide +kernel
theorem dd_move_27 : decode bd_move 27 = .ok (.invokevirtual 102, 3) := by decide +kernel
theorem dd_move_30 : decode bd_move 30 = .ok (.iinc 3 1, 3) := by decide +kernel
theorem dd_move_33 : decode bd_move 33 = .ok (.goto (-31), 3) := by decide +kernel
theorem dd_move_36 : decode bd_move 36 = .ok (.iconst 0, 1) := by decide +kernel
theorem dd_move_37 : decode bd_move 37 = .ok (.istore_n 3, 1) := by decide +kernel
theorem dd_move_38 : decode bd_move 38 = .ok (.iload_n 3, 1) := by decide +kernel
theorem dd_move_39 : decode bd_move 39 = .ok (.bipush 8, 2) := by decide +kernel
theorem dd_move_41 : decode bd_move 41 = .ok (.if_icmp .ge 29, 3) := by decide +kernel
theorem dd_move_44 : decode bd_move 44 = .ok (.aload_n 0, 1) := by decide +kernel
theorem dd_move_45 : decode bd_move 45 = .ok (.getfield 18, 3) := by decide +kernel
theorem dd_move_48 : decode bd_move 48 = .ok (.iload_n 1, 1) := by decide +kernel
theorem dd_move_49 : decode bd_move 49 = .ok (.iaload, 1) := by decide +kernel
theorem dd_move_50 : decode bd_move 50 = .ok (.iload_n 2, 1) := by decide +kernel
theorem dd_move_51 : decode bd_move 51 = .ok (.if_icmp .ge 19, 3) := by decide +kernel
theorem dd_move_54 : decode bd_move 54 = .ok (.aload_n 0, 1) := by decide +kernel
theorem dd_move_55 : decode bd_move 55 = .ok (.aload_n 0, 1) := by decide +kernel
theorem dd_move_56 : decode bd_move 56 = .ok (.getfield 18, 3) := by decide +kernel
theorem dd_move_59 : decode bd_move 59 = .ok (.iload_n 1, 1) := by decide +kernel
theorem dd_move_60 : decode bd_move 60 = .ok (.iaload, 1) := by decide +kernel
theorem dd_move_61 : decode bd_move 61 = .ok (.invokevirtual 102, 3) := by decide +kernel
theorem dd_move_64 : decode bd_move 64 = .ok (.iinc 3 1, 3) := by decide +kernel
theorem dd_move_67 : decode bd_move 67 = .ok (.goto (-29), 3) := by decide +kernel
theorem dd_move_70 : decode bd_move 70 = .ok (.return_, 1) := by decide +kernel
set_option maxHeartbeats 4000000 in
set_option maxRecDepth 100000 in
theorem ld_move_2 {z : wt_Z} {t : wt_M} {o : Nat → Int64} {c1 : Int32} {c2 : Int32} {K : wt_S → Option (wt_S)} (am : wt_Am z R_D bd_move 4 12 none) (hK : ∀ (s3 : wt_S), jj_J z 4 36 [(0, .ref (ad_ z 1)), (1, .int c1), (2, .int c2)] [] (s3, t, o) (q_S z t o) (K s3)) : ∀ (n : Nat) (x3 : Int32) (s : wt_S), jj_J z 4 2 [(0, .ref (ad_ z 1)), (1, .int c1), (2, .int c2), (3, .int x3)] [] (s, t, o) (q_S z t o) (fd_move_L2 c1 c2 K n x3 s) := by
  intro n
  induction n with
  | zero =>
    intro x3 s
    exact ji_none
  | succ n ih =>
    intro x3 s
    rw [fd_move_L2]
    refine ji_iload_n (q := 3) am dd_move_2 rfl 3 rfl rfl ?_
    refine ji_bipush (q := 5) am dd_move_3 kb_8 rfl ?_
    refine ji_icmp_ge (q := 8) (g := 36) am dd_move_5 rfl rfl ?_ ?_
    · exact ji_sub (lv' := [(0, .ref (ad_ z 1)), (1, .int c1), (2, .int c2)]) [0, 1, 2] rfl (hK _)
    · refine ji_aload_n (q := 9) am dd_move_8 rfl 0 rfl rfl ?_
      refine ji_get_D_levelOf (q := 12) am dd_move_9 rfl ?_
      refine ji_iload_n (q := 13) am dd_move_12 rfl 1 rfl rfl ?_
      refine ji_ald_D2 (q := 14) am dd_move_13 rfl ?_
      intro v13
      refine ji_iload_n (q := 15) am dd_move_14 rfl 2 rfl rfl ?_
      refine ji_icmp_le (q := 18) (g := 36) am dd_move_15 rfl rfl ?_ ?_
      · exact ji_sub (lv' := [(0, .ref (ad_ z 1)), (1, .int c1), (2, .int c2)]) [0, 1, 2] rfl (hK _)
      · refine ji_aload_n (q := 19) am dd_move_18 rfl 0 rfl rfl ?_
        refine ji_aload_n (q := 20) am dd_move_19 rfl 0 rfl rfl ?_
        refine ji_get_D_levelOf (q := 23) am dd_move_20 rfl ?_
        refine ji_iload_n (q := 24) am dd_move_23 rfl 1 rfl rfl ?_
        refine ji_ald_D2 (q := 25) am dd_move_24 rfl ?_
        intro v24
        refine ji_iconst (q := 26) am dd_move_25 ki_1 rfl ?_
        refine ji_isub (q := 27) am dd_move_26 rfl ?_
        refine jk_S (q := 30) (rest := []) (fun s2 hF => jr_V [.int (v24 - (1 : Int32))] am ln_D_d_exchange (ctd_exchange _ _ hF) (by omega) (rc_D am) rfl rfl (Nat.le_of_ble_eq_true rfl) dd_move_27) rfl ?_
        intro s27
        refine ji_iinc (q := 33) (lv' := [(0, .ref (ad_ z 1)), (1, .int c1), (2, .int c2), (3, .int (x3 + 1))]) am dd_move_30 3 rfl ki_1 [1, 2, 3, 0] rfl rfl rfl ?_
        refine ji_goto (q := 2) am dd_move_33 rfl ?_
        exact ih _ _
set_option maxHeartbeats 4000000 in
set_option maxRecDepth 100000 in
theorem ld_move_38 {z : wt_Z} {t : wt_M} {o : Nat → Int64} {c1 : Int32} {c2 : Int32} {K : wt_S → Option (wt_S)} (am : wt_Am z R_D bd_move 4 12 none) (hK : ∀ (s3 : wt_S), jj_J z 4 70 [] [] (s3, t, o) (q_S z t o) (K s3)) : ∀ (n : Nat) (x3 : Int32) (s : wt_S), jj_J z 4 38 [(0, .ref (ad_ z 1)), (1, .int c1), (2, .int c2), (3, .int x3)] [] (s, t, o) (q_S z t o) (fd_move_L38 c1 c2 K n x3 s) := by
  intro n
  induction n with
  | zero =>
    intro x3 s
    exact ji_none
  | succ n ih =>
    intro x3 s
    rw [fd_move_L38]
    refine ji_iload_n (q := 39) am dd_move_38 rfl 3 rfl rfl ?_
    refine ji_bipush (q := 41) am dd_move_39 kb_8 rfl ?_
    refine ji_icmp_ge (q := 44) (g := 70) am dd_move_41 rfl rfl ?_ ?_
    · exact ji_sub (lv' := []) [] rfl (hK _)
    · refine ji_aload_n (q := 45) am dd_move_44 rfl 0 rfl rfl ?_
      refine ji_get_D_levelOf (q := 48) am dd_move_45 rfl ?_
      refine ji_iload_n (q := 49) am dd_move_48 rfl 1 rfl rfl ?_
      refine ji_ald_D2 (q := 50) am dd_move_49 rfl ?_
      intro v49
      refine ji_iload_n (q := 51) am dd_move_50 rfl 2 rfl rfl ?_
      refine ji_icmp_ge (q := 54) (g := 70) am dd_move_51 rfl rfl ?_ ?_
      · exact ji_sub (lv' := []) [] rfl (hK _)
      · refine ji_aload_n (q := 55) am dd_move_54 rfl 0 rfl rfl ?_
        refine ji_aload_n (q := 56) am dd_move_55 rfl 0 rfl rfl ?_
        refine ji_get_D_levelOf (q := 59) am dd_move_56 rfl ?_
        refine ji_iload_n (q := 60) am dd_move_59 rfl 1 rfl rfl ?_
        refine ji_ald_D2 (q := 61) am dd_move_60 rfl ?_
        intro v60
        refine jk_S (q := 64) (rest := []) (fun s2 hF => jr_V [.int v60] am ln_D_d_exchange (ctd_exchange _ _ hF) (by omega) (rc_D am) rfl rfl (Nat.le_of_ble_eq_true rfl) dd_move_61) rfl ?_
        intro s61
        refine ji_iinc (q := 67) (lv' := [(0, .ref (ad_ z 1)), (1, .int c1), (2, .int c2), (3, .int (x3 + 1))]) am dd_move_64 3 rfl ki_1 [1, 2, 3, 0] rfl rfl rfl ?_
        refine ji_goto (q := 38) am dd_move_67 rfl ?_
        exact ih _ _
set_option maxHeartbeats 4000000 in
set_option maxRecDepth 100000 in
theorem ctd_move {v : wt_V} {s : wt_S} {a1 : Int32} {a2 : Int32} {s2 : wt_S} (t : wt_M) (o : Nat → Int64) (hF : fd_move s a1 a2 = some s2) : ct_C v yd_move (Cond.code yd_move bd_move 4 none) 12 [.ref (v.2.1 1), .int a1, .int a2] none (s, t, o) (s2, t, o) := by
  refine ct_of (lv := [(0, .ref (v.2.1 1)), (1, .int a1), (2, .int a2)]) (fun _ : wt_S => none) (fun r => (r, t, o)) (by decide) (Nat.le_of_ble_eq_true rfl) rfl ?_ s2 hF
  intro z hz am
  subst hz
  have am : wt_Am z R_D bd_move 4 12 none := am
  show jj_J z 4 0 [(0, .ref (ad_ z 1)), (1, .int a1), (2, .int a2)] [] (s, t, o) (q_S z t o) (fd_move s a1 a2)
  unfold fd_move
  refine ji_iconst (q := 1) am dd_move_0 ki_0 rfl ?_
  refine ji_istore_n (lv' := [(0, .ref (ad_ z 1)), (1, .int a1), (2, .int a2), (3, .int (0 : Int32))]) (q := 2) am dd_move_1 rfl [1, 2, 3, 0] rfl rfl rfl ?_
  refine ld_move_2 am (fun s_2 => ?_) 5000 _ _
  refine ji_iconst (q := 37) am dd_move_36 ki_0 rfl ?_
  refine ji_istore_n (lv' := [(0, .ref (ad_ z 1)), (1, .int a1), (2, .int a2), (3, .int (0 : Int32))]) (q := 38) am dd_move_37 rfl [1, 2, 3, 0] rfl rfl rfl ?_
  refine ld_move_38 am (fun s_38 => ?_) 5000 _ _
  exact ji_vret am rfl dd_move_70 rfl rfl

theorem dd_blameUnder_0 : decode bd_blameUnder 0 = .ok (.aload_n 0, 1) := by decide +kernel
theorem dd_blameUnder_1 : decode bd_blameUnder 1 = .ok (.getfield 21, 3) := by decide +kernel
theorem dd_blameUnder_4 : decode bd_blameUnder 4 = .ok (.iload_n 2, 1) := by decide +kernel
theorem dd_blameUnder_5 : decode bd_blameUnder 5 = .ok (.iaload, 1) := by decide +kernel
theorem dd_blameUnder_6 : decode bd_blameUnder 6 = .ok (.iconst (-1), 1) := by decide +kernel
theorem dd_blameUnder_7 : decode bd_blameUnder 7 = .ok (.if_icmp .ne 7, 3) := by decide +kernel
theorem dd_blameUnder_10 : decode bd_blameUnder 10 = .ok (.iconst (-1), 1) := by decide +kernel
theorem dd_blameUnder_11 : decode bd_blameUnder 11 = .ok (.goto 14, 3) := by decide +kernel
theorem dd_blameUnder_14 : decode bd_blameUnder 14 = .ok (.aload_n 0, 1) := by decide +kernel
theorem dd_blameUnder_15 : decode bd_blameUnder 15 = .ok (.getfield 18, 3) := by decide +kernel
theorem dd_blameUnder_18 : decode bd_blameUnder 18 = .ok (.aload_n 0, 1) := by decide +kernel
theorem dd_blameUnder_19 : decode bd_blameUnder 19 = .ok (.getfield 21, 3) := by decide +kernel
theorem dd_blameUnder_22 : decode bd_blameUnder 22 = .ok (.iload_n 2, 1) := by decide +kernel
theorem dd_blameUnder_23 : decode bd_blameUnder 23 = .ok (.iaload, 1) := by decide +kernel
theorem dd_blameUnder_24 : decode bd_blameUnder 24 = .ok (.iaload, 1) := by decide +kernel
theorem dd_blameUnder_25 : decode bd_blameUnder 25 = .ok (.istore_n 3, 1) := by decide +kernel
theorem dd_blameUnder_26 : decode bd_blameUnder 26 = .ok (.iload_n 3, 1) := by decide +kernel
theorem dd_blameUnder_27 : decode bd_blameUnder 27 = .ok (.iload_n 1, 1) := by decide +kernel
theorem dd_blameUnder_28 : decode bd_blameUnder 28 = .ok (.if_icmp .gt 10, 3) := by decide +kernel
theorem dd_blameUnder_31 : decode bd_blameUnder 31 = .ok (.aload_n 0, 1) := by decide +kernel
theorem dd_blameUnder_32 : decode bd_blameUnder 32 = .ok (.getfield 36, 3) := by decide +kernel
theorem dd_blameUnder_35 : decode bd_blameUnder 35 = .ok (.iload_n 2, 1) := by decide +kernel
theorem dd_blameUnder_36 : decode bd_blameUnder 36 = .ok (.iconst 1, 1) := by decide +kernel
theorem dd_blameUnder_37 : decode bd_blameUnder 37 = .ok (.bastore, 1) := by decide +kernel
theorem dd_blameUnder_38 : decode bd_blameUnder 38 = .ok (.return_, 1) := by decide +kernel
set_option maxHeartbeats 4000000 in
set_option maxRecDepth 100000 in
theorem ctd_blameUnder {v : wt_V} {s : wt_S} {a1 : Int32} {a2 : Int32} {s2 : wt_S} (t : wt_M) (o : Nat → Int64) (hF : fd_blameUnder s a1 a2 = some s2) : ct_C v yd_blameUnder (Cond.code yd_blameUnder bd_blameUnder 4 none) 1 [.ref (v.2.1 1), .int a1, .int a2] none (s, t, o) (s2, t, o) := by
  refine ct_of (lv := [(0, .ref (v.2.1 1)), (1, .int a1), (2, .int a2)]) (fun _ : wt_S => none) (fun r => (r, t, o)) (by decide) (Nat.le_of_ble_eq_true rfl) rfl ?_ s2 hF
  intro z hz am
  subst hz
  have am : wt_Am z R_D bd_blameUnder 4 1 none := am
  show jj_J z 4 0 [(0, .ref (ad_ z 1)), (1, .int a1), (2, .int a2)] [] (s, t, o) (q_S z t o) (fd_blameUnder s a1 a2)
  unfold fd_blameUnder
  refine ji_aload_n (q := 1) am dd_blameUnder_0 rfl 0 rfl rfl ?_
  refine ji_get_D_label (q := 4) am dd_blameUnder_1 rfl ?_
  refine ji_iload_n (q := 5) am dd_blameUnder_4 rfl 2 rfl rfl ?_
  refine ji_ald_D3 (q := 6) am dd_blameUnder_5 rfl ?_
  intro v5
  refine ji_iconst (q := 7) am dd_blameUnder_6 ki_m1 rfl ?_
  refine ji_jn2 (fun j => ∀ (y0_25 : Int32), jj_J z 4 25 [(0, .ref (ad_ z 1)), (1, .int a1), (2, .int a2)] [.int y0_25] (s, t, o) (q_S z t o) (j y0_25)) ?_ ?_
  · intro y0_25
    refine ji_istore_n (lv' := [(0, .ref (ad_ z 1)), (1, .int a1), (2, .int a2), (3, .int y0_25)]) (q := 26) am dd_blameUnder_25 rfl [1, 2, 3, 0] rfl rfl rfl ?_
    refine ji_iload_n (q := 27) am dd_blameUnder_26 rfl 3 rfl rfl ?_
    refine ji_iload_n (q := 28) am dd_blameUnder_27 rfl 1 rfl rfl ?_
    refine ji_jn2 (fun j => ∀ (s_38 : wt_S), jj_J z 4 38 [] [] (s_38, t, o) (q_S z t o) (j s_38)) ?_ ?_
    · intro s_38
      exact ji_vret am rfl dd_blameUnder_38 rfl rfl
    · intro j38 hj38
      refine ji_icmp_gt (q := 31) (g := 38) am dd_blameUnder_28 rfl rfl ?_ ?_
      · exact ji_sub (lv' := []) [] rfl (hj38 _)
      · refine ji_aload_n (q := 32) am dd_blameUnder_31 rfl 0 rfl rfl ?_
        refine ji_get_D_marked (q := 35) am dd_blameUnder_32 rfl ?_
        refine ji_iload_n (q := 36) am dd_blameUnder_35 rfl 2 rfl rfl ?_
        refine ji_iconst (q := 37) am dd_blameUnder_36 ki_1 rfl ?_
        refine ji_ast_D8 (q := 38) am dd_blameUnder_37 rfl ?_
        intro s37
        exact ji_sub (lv' := []) [] rfl (hj38 _)
  · intro j25 hj25
    refine ji_icmp_ne (q := 10) (g := 14) am dd_blameUnder_7 rfl rfl ?_ ?_
    · refine ji_aload_n (q := 15) am dd_blameUnder_14 rfl 0 rfl rfl ?_
      refine ji_get_D_levelOf (q := 18) am dd_blameUnder_15 rfl ?_
      refine ji_aload_n (q := 19) am dd_blameUnder_18 rfl 0 rfl rfl ?_
      refine ji_get_D_label (q := 22) am dd_blameUnder_19 rfl ?_
      refine ji_iload_n (q := 23) am dd_blameUnder_22 rfl 2 rfl rfl ?_
      refine ji_ald_D3 (q := 24) am dd_blameUnder_23 rfl ?_
      intro v23
      refine ji_ald_D2 (q := 25) am dd_blameUnder_24 rfl ?_
      intro v24
      exact hj25 _
    · refine ji_iconst (q := 11) am dd_blameUnder_10 ki_m1 rfl ?_
      refine ji_goto (q := 25) am dd_blameUnder_11 rfl ?_
      exact hj25 _

theorem dd_blame_0 : decode bd_blame 0 = .ok (.aload_n 0, 1) := by decide +kernel
theorem dd_blame_1 : decode bd_blame 1 = .ok (.getfield 21, 3) := by decide +kernel
theorem dd_blame_4 : decode bd_blame 4 = .ok (.iload_n 1, 1) := by decide +kernel
theorem dd_blame_5 : decode bd_blame 5 = .ok (.iaload, 1) := by decide +kernel
theorem dd_blame_6 : decode bd_blame 6 = .ok (.aload_n 0, 1) := by decide +kernel
theorem dd_blame_7 : decode bd_blame 7 = .ok (.getfield 24, 3) := by decide +kernel
theorem dd_blame_10 : decode bd_blame 10 = .ok (.iload_n 1, 1) := by decide +kernel
theorem dd_blame_11 : decode bd_blame 11 = .ok (.iaload, 1) := by decide +kernel
theorem dd_blame_12 : decode bd_blame 12 = .ok (.aload_n 0, 1) := by decide +kernel
theorem dd_blame_13 : decode bd_blame 13 = .ok (.getfield 27, 3) := by decide +kernel
theorem dd_blame_16 : decode bd_blame 16 = .ok (.iload_n 1, 1) := by decide +kernel
theorem dd_blame_17 : decode bd_blame 17 = .ok (.iaload, 1) := by decide +kernel
theorem dd_blame_18 : decode bd_blame 18 = .ok (.invokestatic 117, 3) := by decide +kernel
theorem dd_blame_21 : decode bd_blame 21 = .ok (.istore_n 2, 1) := by decide +kernel
theorem dd_blame_22 : decode bd_blame 22 = .ok (.aload_n 0, 1) := by decide +kernel
theorem dd_blame_23 : decode bd_blame 23 = .ok (.iload_n 2, 1) := by decide +kernel
theorem dd_blame_24 : decode bd_blame 24 = .ok (.aload_n 0, 1) := by decide +kernel
theorem dd_blame_25 : decode bd_blame 25 = .ok (.getfield 21, 3) := by decide +kernel
theorem dd_blame_28 : decode bd_blame 28 = .ok (.iload_n 1, 1) := by decide +kernel
theorem dd_blame_29 : decode bd_blame 29 = .ok (.iaload, 1) := by decide +kernel
theorem dd_blame_30 : decode bd_blame 30 = .ok (.aload_n 0, 1) := by decide +kernel
theorem dd_blame_31 : decode bd_blame 31 = .ok (.getfield 24, 3) := by decide +kernel
theorem dd_blame_34 : decode bd_blame 34 = .ok (.iload_n 1, 1) := by decide +kernel
theorem dd_blame_35 : decode bd_blame 35 = .ok (.iaload, 1) := by decide +kernel
theorem dd_blame_36 : decode bd_blame 36 = .ok (.aload_n 0, 1) := by decide +kernel
theorem dd_blame_37 : decode bd_blame 37 = .ok (.getfield 27, 3) := by decide +kernel
theorem dd_blame_40 : decode bd_blame 40 = .ok (.iload_n 1, 1) := by decide +kernel
theorem dd_blame_41 : decode bd_blame 41 = .ok (.iaload, 1) := by decide +kernel
theorem dd_blame_42 : decode bd_blame 42 = .ok (.invokevirtual 126, 3) := by decide +kernel
theorem dd_blame_45 : decode bd_blame 45 = .ok (.iload_n 1, 1) := by decide +kernel
theorem dd_blame_46 : decode bd_blame 46 = .ok (.if_icmp .eq 7, 3) := by decide +kernel
theorem dd_blame_49 : decode bd_blame 49 = .ok (.iconst 1, 1) := by decide +kernel
theorem dd_blame_50 : decode bd_blame 50 = .ok (.goto 4, 3) := by decide +kernel
theorem dd_blame_53 : decode bd_blame 53 = .ok (.iconst 0, 1) := by decide +kernel
theorem dd_blame_54 : decode bd_blame 54 = .ok (.istore_n 3, 1) := by decide +kernel
theorem dd_blame_55 : decode bd_blame 55 = .ok (.iload_n 3, 1) := by decide +kernel
theorem dd_blame_56 : decode bd_blame 56 = .ok (.ifCond .ne 18, 3) := by decide +kernel
theorem dd_blame_59 : decode bd_blame 59 = .ok (.aload_n 0, 1) := by decide +kernel
theorem dd_blame_60 : decode bd_blame 60 = .ok (.getfield 24, 3) := by decide +kernel
theorem dd_blame_63 : decode bd_blame 63 = .ok (.iload_n 1, 1) := by decide +kernel
theorem dd_blame_64 : decode bd_blame 64 = .ok (.iaload, 1) := by decide +kernel
theorem dd_blame_65 : decode bd_blame 65 = .ok (.aload_n 0, 1) := by decide +kernel
theorem dd_blame_66 : decode bd_blame 66 = .ok (.getfield 27, 3) := by decide +kernel
theorem dd_blame_69 : decode bd_blame 69 = .ok (.iload_n 1, 1) := by decide +kernel
theorem dd_blame_70 : decode bd_blame 70 = .ok (.iaload, 1) := by decide +kernel
theorem dd_blame_71 : decode bd_blame 71 = .ok (.if_icmp .ne 10, 3) := by decide +kernel
theorem dd_blame_74 : decode bd_blame 74 = .ok (.aload_n 0, 1) := by decide +kernel
theorem dd_blame_75 : decode bd_blame 75 = .ok (.getfield 36, 3) := by decide +kernel
theorem dd_blame_78 : decode bd_blame 78 = .ok (.iload_n 1, 1) := by decide +kernel
theorem dd_blame_79 : decode bd_blame 79 = .ok (.iconst 1, 1) := by decide +kernel
theorem dd_blame_80 : decode bd_blame 80 = .ok (.bastore, 1) := by decide +kernel
theorem dd_blame_81 : decode bd_blame 81 = .ok (.aload_n 0, 1) := by decide +kernel
theorem dd_blame_82 : decode bd_blame 82 = .ok (.aload_n 0, 1) := by decide +kernel
theorem dd_blame_83 : decode bd_blame 83 = .ok (.getfield 18, 3) := by decide +kernel
theorem dd_blame_86 : decode bd_blame 86 = .ok (.aload_n 0, 1) := by decide +kernel
theorem dd_blame_87 : decode bd_blame 87 = .ok (.getfield 21, 3) := by decide +kernel
theorem dd_blame_90 : decode bd_blame 90 = .ok (.iload_n 1, 1) := by decide +kernel
theorem dd_blame_91 : decode bd_blame 91 = .ok (.iaload, 1) := by decide +kernel
theorem dd_blame_92 : decode bd_blame 92 = .ok (.iaload, 1) := by decide +kernel
theorem dd_blame_93 : decode bd_blame 93 = .ok (.aload_n 0, 1) := by decide +kernel
theorem dd_blame_94 : decode bd_blame 94 = .ok (.getfield 24, 3) := by decide +kernel
theorem dd_blame_97 : decode bd_blame 97 = .ok (.iload_n 1, 1) := by decide +kernel
theorem dd_blame_98 : decode bd_blame 98 = .ok (.iaload, 1) := by decide +kernel
theorem dd_blame_99 : decode bd_blame 99 = .ok (.invokevirtual 120, 3) := by decide +kernel
theorem dd_blame_102 : decode bd_blame 102 = .ok (.aload_n 0, 1) := by decide +kernel
theorem dd_blame_103 : decode bd_blame 103 = .ok (.aload_n 0, 1) := by decide +kernel
theorem dd_blame_104 : decode bd_blame 104 = .ok (.getfield 18, 3) := by decide +kernel
theorem dd_blame_107 : decode bd_blame 107 = .ok (.aload_n 0, 1) := by decide +kernel
theorem dd_blame_108 : decode bd_blame 108 = .ok (.getfield 21, 3) := by decide +kernel
theorem dd_blame_111 : decode bd_blame 111 = .ok (.iload_n 1, 1) := by decide +kernel
theorem dd_blame_112 : decode bd_blame 112 = .ok (.iaload, 1) := by decide +kernel
theorem dd_blame_113 : decode bd_blame 113 = .ok (.iaload, 1) := by decide +kernel
theorem dd_blame_114 : decode bd_blame 114 = .ok (.aload_n 0, 1) := by decide +kernel
theorem dd_blame_115 : decode bd_blame 115 = .ok (.getfield 27, 3) := by decide +kernel
theorem dd_blame_118 : decode bd_blame 118 = .ok (.iload_n 1, 1) := by decide +kernel
theorem dd_blame_119 : decode bd_blame 119 = .ok (.iaload, 1) := by decide +kernel
theorem dd_blame_120 : decode bd_blame 120 = .ok (.invokevirtual 120, 3) := by decide +kernel
theorem dd_blame_123 : decode bd_blame 123 = .ok (.return_, 1) := by decide +kernel
set_option maxHeartbeats 4000000 in
set_option maxRecDepth 100000 in
theorem ctd_blame {v : wt_V} {s : wt_S} {a1 : Int32} {s2 : wt_S} (t : wt_M) (o : Nat → Int64) (hF : fd_blame s a1 = some s2) : ct_C v yd_blame (Cond.code yd_blame bd_blame 4 none) 2 [.ref (v.2.1 1), .int a1] none (s, t, o) (s2, t, o) := by
  refine ct_of (lv := [(0, .ref (v.2.1 1)), (1, .int a1)]) (fun _ : wt_S => none) (fun r => (r, t, o)) (by decide) (Nat.le_of_ble_eq_true rfl) rfl ?_ s2 hF
  intro z hz am
  subst hz
  have am : wt_Am z R_D bd_blame 4 2 none := am
  show jj_J z 4 0 [(0, .ref (ad_ z 1)), (1, .int a1)] [] (s, t, o) (q_S z t o) (fd_blame s a1)
  unfold fd_blame
  refine ji_aload_n (q := 1) am dd_blame_0 rfl 0 rfl rfl ?_
  refine ji_get_D_label (q := 4) am dd_blame_1 rfl ?_
  refine ji_iload_n (q := 5) am dd_blame_4 rfl 1 rfl rfl ?_
  refine ji_ald_D3 (q := 6) am dd_blame_5 rfl ?_
  intro v5
  refine ji_aload_n (q := 7) am dd_blame_6 rfl 0 rfl rfl ?_
  refine ji_get_D_low (q := 10) am dd_blame_7 rfl ?_
  refine ji_iload_n (q := 11) am dd_blame_10 rfl 1 rfl rfl ?_
  refine ji_ald_D4 (q := 12) am dd_blame_11 rfl ?_
  intro v11
  refine ji_aload_n (q := 13) am dd_blame_12 rfl 0 rfl rfl ?_
  refine ji_get_D_high (q := 16) am dd_blame_13 rfl ?_
  refine ji_iload_n (q := 17) am dd_blame_16 rfl 1 rfl rfl ?_
  refine ji_ald_D5 (q := 18) am dd_blame_17 rfl ?_
  intro v17
  refine jk_I (q := 21) (rest := []) (fun r hF => jr_S [.int v5, .int v11, .int v17] am ln_D_d_bucket (ctd_bucket _ _ _ hF) (by omega) rfl rfl (Nat.le_of_ble_eq_true rfl) dd_blame_18) rfl ?_
  intro r18
  refine ji_istore_n (lv' := [(0, .ref (ad_ z 1)), (1, .int a1), (2, .int r18)]) (q := 22) am dd_blame_21 rfl [1, 2, 0] rfl rfl rfl ?_
  refine ji_aload_n (q := 23) am dd_blame_22 rfl 0 rfl rfl ?_
  refine ji_iload_n (q := 24) am dd_blame_23 rfl 2 rfl rfl ?_
  refine ji_aload_n (q := 25) am dd_blame_24 rfl 0 rfl rfl ?_
  refine ji_get_D_label (q := 28) am dd_blame_25 rfl ?_
  refine ji_iload_n (q := 29) am dd_blame_28 rfl 1 rfl rfl ?_
  refine ji_ald_D3 (q := 30) am dd_blame_29 rfl ?_
  intro v29
  refine ji_aload_n (q := 31) am dd_blame_30 rfl 0 rfl rfl ?_
  refine ji_get_D_low (q := 34) am dd_blame_31 rfl ?_
  refine ji_iload_n (q := 35) am dd_blame_34 rfl 1 rfl rfl ?_
  refine ji_ald_D4 (q := 36) am dd_blame_35 rfl ?_
  intro v35
  refine ji_aload_n (q := 37) am dd_blame_36 rfl 0 rfl rfl ?_
  refine ji_get_D_high (q := 40) am dd_blame_37 rfl ?_
  refine ji_iload_n (q := 41) am dd_blame_40 rfl 1 rfl rfl ?_
  refine ji_ald_D5 (q := 42) am dd_blame_41 rfl ?_
  intro v41
  refine jk_I (q := 45) (rest := []) (fun r hF => jr_V [.int r18, .int v29, .int v35, .int v41] am ln_D_d_found (ctd_found _ _ hF) (by omega) (rc_D am) rfl rfl (Nat.le_of_ble_eq_true rfl) dd_blame_42) rfl ?_
  intro r42
  refine ji_iload_n (q := 46) am dd_blame_45 rfl 1 rfl rfl ?_
  refine ji_jn2 (fun j => ∀ (y0_54 : Int32), jj_J z 4 54 [(0, .ref (ad_ z 1)), (1, .int a1)] [.int y0_54] (s, t, o) (q_S z t o) (j y0_54)) ?_ ?_
  · intro y0_54
    refine ji_istore_n (lv' := [(0, .ref (ad_ z 1)), (1, .int a1), (3, .int y0_54)]) (q := 55) am dd_blame_54 rfl [1, 2, 0] rfl rfl rfl ?_
    refine ji_iload_n (q := 56) am dd_blame_55 rfl 2 rfl rfl ?_
    refine ji_jn2 (fun j => ∀ (s_81 : wt_S), jj_J z 4 81 [(0, .ref (ad_ z 1)), (1, .int a1)] [] (s_81, t, o) (q_S z t o) (j s_81)) ?_ ?_
    · intro s_81
      refine ji_aload_n (q := 82) am dd_blame_81 rfl 0 rfl rfl ?_
      refine ji_aload_n (q := 83) am dd_blame_82 rfl 0 rfl rfl ?_
      refine ji_get_D_levelOf (q := 86) am dd_blame_83 rfl ?_
      refine ji_aload_n (q := 87) am dd_blame_86 rfl 0 rfl rfl ?_
      refine ji_get_D_label (q := 90) am dd_blame_87 rfl ?_
      refine ji_iload_n (q := 91) am dd_blame_90 rfl 1 rfl rfl ?_
      refine ji_ald_D3 (q := 92) am dd_blame_91 rfl ?_
      intro v91
      refine ji_ald_D2 (q := 93) am dd_blame_92 rfl ?_
      intro v92
      refine ji_aload_n (q := 94) am dd_blame_93 rfl 0 rfl rfl ?_
      refine ji_get_D_low (q := 97) am dd_blame_94 rfl ?_
      refine ji_iload_n (q := 98) am dd_blame_97 rfl 1 rfl rfl ?_
      refine ji_ald_D4 (q := 99) am dd_blame_98 rfl ?_
      intro v98
      refine jk_S (q := 102) (rest := []) (fun s2 hF => jr_V [.int v92, .int v98] am ln_D_d_blameUnder (ctd_blameUnder _ _ hF) (by omega) (rc_D am) rfl rfl (Nat.le_of_ble_eq_true rfl) dd_blame_99) rfl ?_
      intro s99
      refine ji_aload_n (q := 103) am dd_blame_102 rfl 0 rfl rfl ?_
      refine ji_aload_n (q := 104) am dd_blame_103 rfl 0 rfl rfl ?_
      refine ji_get_D_levelOf (q := 107) am dd_blame_104 rfl ?_
      refine ji_aload_n (q := 108) am dd_blame_107 rfl 0 rfl rfl ?_
      refine ji_get_D_label (q := 111) am dd_blame_108 rfl ?_
      refine ji_iload_n (q := 112) am dd_blame_111 rfl 1 rfl rfl ?_
      refine ji_ald_D3 (q := 113) am dd_blame_112 rfl ?_
      intro v112
      refine ji_ald_D2 (q := 114) am dd_blame_113 rfl ?_
      intro v113
      refine ji_aload_n (q := 115) am dd_blame_114 rfl 0 rfl rfl ?_
      refine ji_get_D_high (q := 118) am dd_blame_115 rfl ?_
      refine ji_iload_n (q := 119) am dd_blame_118 rfl 1 rfl rfl ?_
      refine ji_ald_D5 (q := 120) am dd_blame_119 rfl ?_
      intro v119
      refine jk_S (q := 123) (rest := []) (fun s2 hF => jr_V [.int v113, .int v119] am ln_D_d_blameUnder (ctd_blameUnder _ _ hF) (by omega) (rc_D am) rfl rfl (Nat.le_of_ble_eq_true rfl) dd_blame_120) rfl ?_
      intro s120
      exact ji_vret am rfl dd_blame_123 rfl rfl
    · intro j81 hj81
      refine ji_jn2 (fun j => ∀ (u74 : Unit), jj_J z 4 74 [(0, .ref (ad_ z 1)), (1, .int a1)] [] (s, t, o) (q_S z t o) (j u74)) ?_ ?_
      · intro u74
        refine ji_aload_n (q := 75) am dd_blame_74 rfl 0 rfl rfl ?_
        refine ji_get_D_marked (q := 78) am dd_blame_75 rfl ?_
        refine ji_iload_n (q := 79) am dd_blame_78 rfl 1 rfl rfl ?_
        refine ji_iconst (q := 80) am dd_blame_79 ki_1 rfl ?_
        refine ji_ast_D8 (q := 81) am dd_blame_80 rfl ?_
        intro s80
        exact hj81 _
      · intro j74 hj74
        refine ji_if_ne (q := 59) (g := 74) am dd_blame_56 rfl rfl ?_ ?_
        · exact ji_sub (lv' := [(0, .ref (ad_ z 1)), (1, .int a1)]) [0, 1] rfl (hj74 _)
        · refine ji_aload_n (q := 60) am dd_blame_59 rfl 0 rfl rfl ?_
          refine ji_get_D_low (q := 63) am dd_blame_60 rfl ?_
          refine ji_iload_n (q := 64) am dd_blame_63 rfl 1 rfl rfl ?_
          refine ji_ald_D4 (q := 65) am dd_blame_64 rfl ?_
          intro v64
          refine ji_aload_n (q := 66) am dd_blame_65 rfl 0 rfl rfl ?_
          refine ji_get_D_high (q := 69) am dd_blame_66 rfl ?_
          refine ji_iload_n (q := 70) am dd_blame_69 rfl 1 rfl rfl ?_
          refine ji_ald_D5 (q := 71) am dd_blame_70 rfl ?_
          intro v70
          refine ji_icmp_ne (q := 74) (g := 81) am dd_blame_71 rfl rfl ?_ ?_
          · exact ji_sub (lv' := [(0, .ref (ad_ z 1)), (1, .int a1)]) [0, 1] rfl (hj81 _)
          · exact ji_sub (lv' := [(0, .ref (ad_ z 1)), (1, .int a1)]) [0, 1] rfl (hj74 _)
  · intro j54 hj54
    refine ji_icmp_eq (q := 49) (g := 53) am dd_blame_46 rfl rfl ?_ ?_
    · refine ji_iconst (q := 54) am dd_blame_53 ki_0 rfl ?_
      exact ji_sub (lv' := [(0, .ref (ad_ z 1)), (1, .int a1)]) [0, 1] rfl (hj54 _)
    · refine ji_iconst (q := 50) am dd_blame_49 ki_1 rfl ?_
      refine ji_goto (q := 54) am dd_blame_50 rfl ?_
      exact ji_sub (lv' := [(0, .ref (ad_ z 1)), (1, .int a1)]) [0, 1] rfl (hj54 _)

theorem dd_faults_0 : decode bd_faults 0 = .ok (.aload_n 0, 1) := by decide +kernel
theorem dd_faults_1 : decode bd_faults 1 = .ok (.invokevirtual 96, 3) := by decide +kernel
theorem dd_faults_4 : decode bd_faults 4 = .ok (.iconst 0, 1) := by decide +kernel
theorem dd_faults_5 : decode bd_faults 5 = .ok (.istore_n 1, 1) := by decide +kernel
theorem dd_faults_6 : decode bd_faults 6 = .ok (.iload_n 1, 1) := by decide +kernel
theorem dd_faults_7 : decode bd_faults 7 = .ok (.bipush 20, 2) := by decide +kernel
theorem dd_faults_9 : decode bd_faults 9 = .ok (.if_icmp .ge 20, 3) := by decide +kernel
theorem dd_faults_12 : decode bd_faults 12 = .ok (.aload_n 0, 1) := by decide +kernel
theorem dd_faults_13 : decode bd_faults 13 = .ok (.iconst (-1), 1) := by decide +kernel
theorem dd_faults_14 : decode bd_faults 14 = .ok (.aload_n 0, 1) := by decide +kernel
theorem dd_faults_15 : decode bd_faults 15 = .ok (.getfield 11, 3) := by decide +kernel
theorem dd_faults_18 : decode bd_faults 18 = .ok (.iload_n 1, 1) := by decide +kernel
theorem dd_faults_19 : decode bd_faults 19 = .ok (.iaload, 1) := by decide +kernel
theorem dd_faults_20 : decode bd_faults 20 = .ok (.invokevirtual 120, 3) := by decide +kernel
theorem dd_faults_23 : decode bd_faults 23 = .ok (.iinc 1 1, 3) := by decide +kernel
theorem dd_faults_26 : decode bd_faults 26 = .ok (.goto (-20), 3) := by decide +kernel
theorem dd_faults_29 : decode bd_faults 29 = .ok (.iconst 2, 1) := by decide +kernel
theorem dd_faults_30 : decode bd_faults 30 = .ok (.istore_n 1, 1) := by decide +kernel
theorem dd_faults_31 : decode bd_faults 31 = .ok (.iload_n 1, 1) := by decide +kernel
theorem dd_faults_32 : decode bd_faults 32 = .ok (.aload_n 0, 1) := by decide +kernel
theorem dd_faults_33 : decode bd_faults 33 = .ok (.getfield 44, 3) := by decide +kernel
theorem dd_faults_36 : decode bd_faults 36 = .ok (.if_icmp .ge 24, 3) := by decide +kernel
theorem dd_faults_39 : decode bd_faults 39 = .ok (.aload_n 0, 1) := by decide +kernel
theorem dd_faults_40 : decode bd_faults 40 = .ok (.getfield 21, 3) := by decide +kernel
theorem dd_faults_43 : decode bd_faults 43 = .ok (.iload_n 1, 1) := by decide +kernel
theorem dd_faults_44 : decode bd_faults 44 = .ok (.iaload, 1) := by decide +kernel
theorem dd_faults_45 : decode bd_faults 45 = .ok (.iconst (-1), 1) := by decide +kernel
theorem dd_faults_46 : decode bd_faults 46 = .ok (.if_icmp .eq 8, 3) := by decide +kernel
theorem dd_faults_49 : decode bd_faults 49 = .ok (.aload_n 0, 1) := by decide +kernel
theorem dd_faults_50 : decode bd_faults 50 = .ok (.iload_n 1, 1) := by decide +kernel
theorem dd_faults_51 : decode bd_faults 51 = .ok (.invokevirtual 123, 3) := by decide +kernel
theorem dd_faults_54 : decode bd_faults 54 = .ok (.iinc 1 1, 3) := by decide +kernel
theorem dd_faults_57 : decode bd_faults 57 = .ok (.goto (-26), 3) := by decide +kernel
theorem dd_faults_60 : decode bd_faults 60 = .ok (.iconst 0, 1) := by decide +kernel
theorem dd_faults_61 : decode bd_faults 61 = .ok (.istore_n 1, 1) := by decide +kernel
theorem dd_faults_62 : decode bd_faults 62 = .ok (.iconst 2, 1) := by decide +kernel
theorem dd_faults_63 : decode bd_faults 63 = .ok (.istore_n 2, 1) := by decide +kernel
theorem dd_faults_64 : decode bd_faults 64 = .ok (.iload_n 2, 1) := by decide +kernel
theorem dd_faults_65 : decode bd_faults 65 = .ok (.aload_n 0, 1) := by decide +kernel
theorem dd_faults_66 : decode bd_faults 66 = .ok (.getfield 44, 3) := by decide +kernel
theorem dd_faults_69 : decode bd_faults 69 = .ok (.if_icmp .ge 26, 3) := by decide +kernel
theorem dd_faults_72 : decode bd_faults 72 = .ok (.iload_n 1, 1) := by decide +kernel
theorem dd_faults_73 : decode bd_faults 73 = .ok (.aload_n 0, 1) := by decide +kernel
theorem dd_faults_74 : decode bd_faults 74 = .ok (.getfield 36, 3) := by decide +kernel
theorem dd_faults_77 : decode bd_faults 77 = .ok (.iload_n 2, 1) := by decide +kernel
theorem dd_faults_78 : decode bd_faults 78 = .ok (.baload, 1) := by decide +kernel
theorem dd_faults_79 : decode bd_faults 79 = .ok (.ifCond .eq 7, 3) := by decide +kernel
theorem dd_faults_82 : decode bd_faults 82 = .ok (.iconst 1, 1) := by decide +kernel
theorem dd_faults_83 : decode bd_faults 83 = .ok (.goto 4, 3) := by decide +kernel
theorem dd_faults_86 : decode bd_faults 86 = .ok (.iconst 0, 1) := by decide +kernel
theorem dd_faults_87 : decode bd_faults 87 = .ok (.iadd, 1) := by decide +kernel
theorem dd_faults_88 : decode bd_faults 88 = .ok (.istore_n 1, 1) := by decide +kernel
theorem dd_faults_89 : decode bd_faults 89 = .ok (.iinc 2 1, 3) := by decide +kernel
theorem dd_faults_92 : decode bd_faults 92 = .ok (.goto (-28), 3) := by decide +kernel
theorem dd_faults_95 : decode bd_faults 95 = .ok (.iload_n 1, 1) := by decide +kernel
theorem dd_faults_96 : decode bd_faults 96 = .ok (.ireturn, 1) := by decide +kernel
set_option maxHeartbeats 4000000 in
set_option maxRecDepth 100000 in
theorem ld_faults_6 {z : wt_Z} {t : wt_M} {o : Nat → Int64} {K : wt_S → Option (Int32 × wt_S)} (am : wt_Am z R_D bd_faults 3 3 (some .int)) (hK : ∀ (s3 : wt_S), jj_J z 3 29 [(0, .ref (ad_ z 1))] [] (s3, t, o) (q_IS z t o) (K s3)) : ∀ (n : Nat) (x1 : Int32) (s : wt_S), jj_J z 3 6 [(0, .ref (ad_ z 1)), (1, .int x1)] [] (s, t, o) (q_IS z t o) (fd_faults_L6 K n x1 s) := by
  intro n
  induction n with
  | zero =>
    intro x1 s
    exact ji_none
  | succ n ih =>
    intro x1 s
    rw [fd_faults_L6]
    refine ji_iload_n (q := 7) am dd_faults_6 rfl 1 rfl rfl ?_
    refine ji_bipush (q := 9) am dd_faults_7 kb_20 rfl ?_
    refine ji_icmp_ge (q := 12) (g := 29) am dd_faults_9 rfl rfl ?_ ?_
    · exact ji_sub (lv' := [(0, .ref (ad_ z 1))]) [0] rfl (hK _)
    · refine ji_aload_n (q := 13) am dd_faults_12 rfl 0 rfl rfl ?_
      refine ji_iconst (q := 14) am dd_faults_13 ki_m1 rfl ?_
      refine ji_aload_n (q := 15) am dd_faults_14 rfl 0 rfl rfl ?_
      refine ji_get_D_roots (q := 18) am dd_faults_15 rfl ?_
      refine ji_iload_n (q := 19) am dd_faults_18 rfl 1 rfl rfl ?_
      refine ji_ald_D0 (q := 20) am dd_faults_19 rfl ?_
      intro v19
      refine jk_S (q := 23) (rest := []) (fun s2 hF => jr_V [.int (-1 : Int32), .int v19] am ln_D_d_blameUnder (ctd_blameUnder _ _ hF) (by omega) (rc_D am) rfl rfl (Nat.le_of_ble_eq_true rfl) dd_faults_20) rfl ?_
      intro s20
      refine ji_iinc (q := 26) (lv' := [(0, .ref (ad_ z 1)), (1, .int (x1 + 1))]) am dd_faults_23 1 rfl ki_1 [1, 0] rfl rfl rfl ?_
      refine ji_goto (q := 6) am dd_faults_26 rfl ?_
      exact ih _ _
set_option maxHeartbeats 4000000 in
set_option maxRecDepth 100000 in
theorem ld_faults_31 {z : wt_Z} {t : wt_M} {o : Nat → Int64} {K : wt_S → Option (Int32 × wt_S)} (am : wt_Am z R_D bd_faults 3 3 (some .int)) (hK : ∀ (s3 : wt_S), jj_J z 3 60 [(0, .ref (ad_ z 1))] [] (s3, t, o) (q_IS z t o) (K s3)) : ∀ (n : Nat) (x1 : Int32) (s : wt_S), jj_J z 3 31 [(0, .ref (ad_ z 1)), (1, .int x1)] [] (s, t, o) (q_IS z t o) (fd_faults_L31 K n x1 s) := by
  intro n
  induction n with
  | zero =>
    intro x1 s
    exact ji_none
  | succ n ih =>
    intro x1 s
    rw [fd_faults_L31]
    refine ji_iload_n (q := 32) am dd_faults_31 rfl 1 rfl rfl ?_
    refine ji_aload_n (q := 33) am dd_faults_32 rfl 0 rfl rfl ?_
    refine ji_get_D_end (q := 36) am dd_faults_33 rfl ?_
    refine ji_icmp_ge (q := 39) (g := 60) am dd_faults_36 rfl rfl ?_ ?_
    · exact ji_sub (lv' := [(0, .ref (ad_ z 1))]) [0] rfl (hK _)
    · refine ji_aload_n (q := 40) am dd_faults_39 rfl 0 rfl rfl ?_
      refine ji_get_D_label (q := 43) am dd_faults_40 rfl ?_
      refine ji_iload_n (q := 44) am dd_faults_43 rfl 1 rfl rfl ?_
      refine ji_ald_D3 (q := 45) am dd_faults_44 rfl ?_
      intro v44
      refine ji_iconst (q := 46) am dd_faults_45 ki_m1 rfl ?_
      refine ji_jn2 (fun j => ∀ (s_54 : wt_S), jj_J z 3 54 [(0, .ref (ad_ z 1)), (1, .int x1)] [] (s_54, t, o) (q_IS z t o) (j s_54)) ?_ ?_
      · intro s_54
        refine ji_iinc (q := 57) (lv' := [(0, .ref (ad_ z 1)), (1, .int (x1 + 1))]) am dd_faults_54 1 rfl ki_1 [1, 0] rfl rfl rfl ?_
        refine ji_goto (q := 31) am dd_faults_57 rfl ?_
        exact ih _ _
      · intro j54 hj54
        refine ji_icmp_eq (q := 49) (g := 54) am dd_faults_46 rfl rfl ?_ ?_
        · exact hj54 _
        · refine ji_aload_n (q := 50) am dd_faults_49 rfl 0 rfl rfl ?_
          refine ji_iload_n (q := 51) am dd_faults_50 rfl 1 rfl rfl ?_
          refine jk_S (q := 54) (rest := []) (fun s2 hF => jr_V [.int x1] am ln_D_d_blame (ctd_blame _ _ hF) (by omega) (rc_D am) rfl rfl (Nat.le_of_ble_eq_true rfl) dd_faults_51) rfl ?_
          intro s51
          exact hj54 _
set_option maxHeartbeats 4000000 in
set_option maxRecDepth 100000 in
theorem ld_faults_64 {z : wt_Z} {s : wt_S} {t : wt_M} {o : Nat → Int64} (am : wt_Am z R_D bd_faults 3 3 (some .int)) : ∀ (n : Nat) (x1 : Int32) (x2 : Int32), jj_J z 3 64 [(0, .ref (ad_ z 1)), (1, .int x1), (2, .int x2)] [] (s, t, o) (q_IS z t o) (fd_faults_L64 s n x1 x2) := by
  intro n
  induction n with
  | zero =>
    intro x1 x2
    exact ji_none
  | succ n ih =>
    intro x1 x2
    rw [fd_faults_L64]
    refine ji_iload_n (q := 65) am dd_faults_64 rfl 2 rfl rfl ?_
    refine ji_aload_n (q := 66) am dd_faults_65 rfl 0 rfl rfl ?_
    refine ji_get_D_end (q := 69) am dd_faults_66 rfl ?_
    refine ji_icmp_ge (q := 72) (g := 95) am dd_faults_69 rfl rfl ?_ ?_
    · refine ji_iload_n (q := 96) am dd_faults_95 rfl 1 rfl rfl ?_
      exact ji_iret am rfl dd_faults_96 rfl rfl
    · refine ji_iload_n (q := 73) am dd_faults_72 rfl 1 rfl rfl ?_
      refine ji_aload_n (q := 74) am dd_faults_73 rfl 0 rfl rfl ?_
      refine ji_get_D_marked (q := 77) am dd_faults_74 rfl ?_
      refine ji_iload_n (q := 78) am dd_faults_77 rfl 2 rfl rfl ?_
      refine ji_ald_D8 (q := 79) am dd_faults_78 rfl ?_
      intro v78
      refine ji_jn2 (fun j => ∀ (y0_87 : Int32), jj_J z 3 87 [(0, .ref (ad_ z 1)), (2, .int x2)] [.int y0_87, .int x1] (s, t, o) (q_IS z t o) (j y0_87)) ?_ ?_
      · intro y0_87
        refine ji_iadd (q := 88) am dd_faults_87 rfl ?_
        refine ji_istore_n (lv' := [(0, .ref (ad_ z 1)), (1, .int (x1 + y0_87)), (2, .int x2)]) (q := 89) am dd_faults_88 rfl [1, 0, 2] rfl rfl rfl ?_
        refine ji_iinc (q := 92) (lv' := [(0, .ref (ad_ z 1)), (1, .int (x1 + y0_87)), (2, .int (x2 + 1))]) am dd_faults_89 2 rfl ki_1 [1, 2, 0] rfl rfl rfl ?_
        refine ji_goto (q := 64) am dd_faults_92 rfl ?_
        exact ih _ _
      · intro j87 hj87
        refine ji_if_eq (q := 82) (g := 86) am dd_faults_79 rfl rfl ?_ ?_
        · refine ji_iconst (q := 87) am dd_faults_86 ki_0 rfl ?_
          exact ji_sub (lv' := [(0, .ref (ad_ z 1)), (2, .int x2)]) [0, 2] rfl (hj87 _)
        · refine ji_iconst (q := 83) am dd_faults_82 ki_1 rfl ?_
          refine ji_goto (q := 87) am dd_faults_83 rfl ?_
          exact ji_sub (lv' := [(0, .ref (ad_ z 1)), (2, .int x2)]) [0, 2] rfl (hj87 _)
set_option maxHeartbeats 4000000 in
set_option maxRecDepth 100000 in
theorem ctd_faults {v : wt_V} {s : wt_S} {r : Int32} {s2 : wt_S} (t : wt_M) (o : Nat → Int64) (hF : fd_faults s = some (r, s2)) : ct_C v yd_faults (Cond.code yd_faults bd_faults 3 (some .int)) 3 [.ref (v.2.1 1)] (some (.int r)) (s, t, o) (s2, t, o) := by
  refine ct_of (lv := [(0, .ref (v.2.1 1))]) (fun r : Int32 × wt_S => some (.int r.1)) (fun r => (r.2, t, o)) (by decide) (Nat.le_of_ble_eq_true rfl) rfl ?_ (r, s2) hF
  intro z hz am
  subst hz
  have am : wt_Am z R_D bd_faults 3 3 (some .int) := am
  show jj_J z 3 0 [(0, .ref (ad_ z 1))] [] (s, t, o) (q_IS z t o) (fd_faults s)
  unfold fd_faults
  refine ji_aload_n (q := 1) am dd_faults_0 rfl 0 rfl rfl ?_
  refine jk_S (q := 4) (rest := []) (fun s2 hF => jr_V [] am ln_D_d_clearMarks (ctd_clearMarks _ _ hF) (by omega) (rc_D am) rfl rfl (Nat.le_of_ble_eq_true rfl) dd_faults_1) rfl ?_
  intro s1
  refine ji_iconst (q := 5) am dd_faults_4 ki_0 rfl ?_
  refine ji_istore_n (lv' := [(0, .ref (ad_ z 1)), (1, .int (0 : Int32))]) (q := 6) am dd_faults_5 rfl [1, 0] rfl rfl rfl ?_
  refine ld_faults_6 am (fun s_6 => ?_) 5000 _ _
  refine ji_iconst (q := 30) am dd_faults_29 ki_2 rfl ?_
  refine ji_istore_n (lv' := [(0, .ref (ad_ z 1)), (1, .int (2 : Int32))]) (q := 31) am dd_faults_30 rfl [1, 0] rfl rfl rfl ?_
  refine ld_faults_31 am (fun s_31 => ?_) 5000 _ _
  refine ji_iconst (q := 61) am dd_faults_60 ki_0 rfl ?_
  refine ji_istore_n (lv' := [(0, .ref (ad_ z 1)), (1, .int (0 : Int32))]) (q := 62) am dd_faults_61 rfl [1, 0] rfl rfl rfl ?_
  refine ji_iconst (q := 63) am dd_faults_62 ki_2 rfl ?_
  refine ji_istore_n (lv' := [(0, .ref (ad_ z 1)), (1, .int (0 : Int32)), (2, .int (2 : Int32))]) (q := 64) am dd_faults_63 rfl [1, 2, 0] rfl rfl rfl ?_
  exact ld_faults_64 am 5000 _ _
