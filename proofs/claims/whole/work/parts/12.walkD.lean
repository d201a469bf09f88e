/-! Walks of D.join, D.negate, D.pick, D.fix, D.overlap, D.mirror, D.value, D.weight: printed by my program out of the listing. -/
theorem dd_join_0 : decode bd_join 0 = .ok (.iload_n 2, 1) := by decide +kernel
theorem dd_join_1 : decode bd_join 1 = .ok (.iconst 1, 1) := by decide +kernel
theorem dd_join_2 : decode bd_join 2 = .ok (.if_icmp .gt 18, 3) := by decide +kernel
theorem dd_join_5 : decode bd_join 5 = .ok (.iload_n 3, 1) := by decide +kernel
theorem dd_join_6 : decode bd_join 6 = .ok (.iconst 1, 1) := by decide +kernel
theorem dd_join_7 : decode bd_join 7 = .ok (.if_icmp .gt 13, 3) := by decide +kernel
theorem dd_join_10 : decode bd_join 10 = .ok (.iload_n 1, 1) := by decide +kernel
theorem dd_join_11 : decode bd_join 11 = .ok (.iconst 2, 1) := by decide +kernel
theorem dd_join_12 : decode bd_join 12 = .ok (.iload_n 2, 1) := by decide +kernel
theorem dd_join_13 : decode bd_join 13 = .ok (.imul, 1) := by decide +kernel
theorem dd_join_14 : decode bd_join 14 = .ok (.iload_n 3, 1) := by decide +kernel
theorem dd_join_15 : decode bd_join 15 = .ok (.iadd, 1) := by decide +kernel
theorem dd_join_16 : decode bd_join 16 = .ok (.ishr, 1) := by decide +kernel
theorem dd_join_17 : decode bd_join 17 = .ok (.iconst 1, 1) := by decide +kernel
theorem dd_join_18 : decode bd_join 18 = .ok (.iand, 1) := by decide +kernel
theorem dd_join_19 : decode bd_join 19 = .ok (.ireturn, 1) := by decide +kernel
theorem dd_join_20 : decode bd_join 20 = .ok (.iload 4, 2) := by decide +kernel
theorem dd_join_22 : decode bd_join 22 = .ok (.bipush 8, 2) := by decide +kernel
theorem dd_join_24 : decode bd_join 24 = .ok (.if_icmp .lt 5, 3) := by decide +kernel
theorem dd_join_27 : decode bd_join 27 = .ok (.iconst 0, 1) := by decide +kernel
theorem dd_join_28 : decode bd_join 28 = .ok (.ireturn, 1) := by decide +kernel
theorem dd_join_29 : decode bd_join 29 = .ok (.aload_n 0, 1) := by decide +kernel
theorem dd_join_30 : decode bd_join 30 = .ok (.aload_n 0, 1) := by decide +kernel
theorem dd_join_31 : decode bd_join 31 = .ok (.getfield 21, 3) := by decide +kernel
theorem dd_join_34 : decode bd_join 34 = .ok (.iload_n 2, 1) := by decide +kernel
theorem dd_join_35 : decode bd_join 35 = .ok (.iaload, 1) := by decide +kernel
theorem dd_join_36 : decode bd_join 36 = .ok (.aload_n 0, 1) := by decide +kernel
theorem dd_join_37 : decode bd_join 37 = .ok (.getfield 21, 3) := by decide +kernel
theorem dd_join_40 : decode bd_join 40 = .ok (.iload_n 3, 1) := by decide +kernel
theorem dd_join_41 : decode bd_join 41 = .ok (.iaload, 1) := by decide +kernel
theorem dd_join_42 : decode bd_join 42 = .ok (.invokevirtual 67, 3) := by decide +kernel
theorem dd_join_45 : decode bd_join 45 = .ok (.istore 5, 2) := by decide +kernel
theorem dd_join_47 : decode bd_join 47 = .ok (.aload_n 0, 1) := by decide +kernel
theorem dd_join_48 : decode bd_join 48 = .ok (.iload_n 1, 1) := by decide +kernel
theorem dd_join_49 : decode bd_join 49 = .ok (.aload_n 0, 1) := by decide +kernel
theorem dd_join_50 : decode bd_join 50 = .ok (.iload_n 2, 1) := by decide +kernel
theorem dd_join_51 : decode bd_join 51 = .ok (.iload 5, 2) := by decide +kernel
theorem dd_join_53 : decode bd_join 53 = .ok (.invokevirtual 71, 3) := by decide +kernel
theorem dd_join_56 : decode bd_join 56 = .ok (.aload_n 0, 1) := by decide +kernel
theorem dd_join_57 : decode bd_join 57 = .ok (.iload_n 3, 1) := by decide +kernel
theorem dd_join_58 : decode bd_join 58 = .ok (.iload 5, 2) := by decide +kernel
theorem dd_join_60 : decode bd_join 60 = .ok (.invokevirtual 71, 3) := by decide +kernel
theorem dd_join_63 : decode bd_join 63 = .ok (.iload 4, 2) := by decide +kernel
theorem dd_join_65 : decode bd_join 65 = .ok (.iconst 1, 1) := by decide +kernel
theorem dd_join_66 : decode bd_join 66 = .ok (.iadd, 1) := by decide +kernel
theorem dd_join_67 : decode bd_join 67 = .ok (.invokevirtual 63, 3) := by decide +kernel
theorem dd_join_70 : decode bd_join 70 = .ok (.istore 6, 2) := by decide +kernel
theorem dd_join_72 : decode bd_join 72 = .ok (.aload_n 0, 1) := by decide +kernel
theorem dd_join_73 : decode bd_join 73 = .ok (.iload_n 1, 1) := by decide +kernel
theorem dd_join_74 : decode bd_join 74 = .ok (.aload_n 0, 1) := by decide +kernel
theorem dd_join_75 : decode bd_join 75 = .ok (.iload_n 2, 1) := by decide +kernel
theorem dd_join_76 : decode bd_join 76 = .ok (.iload 5, 2) := by decide +kernel
theorem dd_join_78 : decode bd_join 78 = .ok (.invokevirtual 74, 3) := by decide +kernel
theorem dd_join_81 : decode bd_join 81 = .ok (.aload_n 0, 1) := by decide +kernel
theorem dd_join_82 : decode bd_join 82 = .ok (.iload_n 3, 1) := by decide +kernel
theorem dd_join_83 : decode bd_join 83 = .ok (.iload 5, 2) := by decide +kernel
theorem dd_join_85 : decode bd_join 85 = .ok (.invokevirtual 74, 3) := by decide +kernel
theorem dd_join_88 : decode bd_join 88 = .ok (.iload 4, 2) := by decide +kernel
theorem dd_join_90 : decode bd_join 90 = .ok (.iconst 1, 1) := by decide +kernel
theorem dd_join_91 : decode bd_join 91 = .ok (.iadd, 1) := by decide +kernel
theorem dd_join_92 : decode bd_join 92 = .ok (.invokevirtual 63, 3) := by decide +kernel
theorem dd_join_95 : decode bd_join 95 = .ok (.istore 7, 2) := by decide +kernel
theorem dd_join_97 : decode bd_join 97 = .ok (.aload_n 0, 1) := by decide +kernel
theorem dd_join_98 : decode bd_join 98 = .ok (.iload 5, 2) := by decide +kernel
theorem dd_join_100 : decode bd_join 100 = .ok (.iload 6, 2) := by decide +kernel
theorem dd_join_102 : decode bd_join 102 = .ok (.iload 7, 2) := by decide +kernel
theorem dd_join_104 : decode bd_join 104 = .ok (.invokevirtual 59, 3) := by decide +kernel
theorem dd_join_107 : decode bd_join 107 = .ok (.ireturn, 1) := by decide +kernel
set_option maxHeartbeats 4000000 in
set_option maxRecDepth 100000 in
theorem ctd_join {v : wt_V} (t : wt_M) (o : Nat → Int64) : ∀ (n : Nat) (s : wt_S) (a1 : Int32) (a2 : Int32) (a3 : Int32) (a4 : Int32) (r : Int32) (s2 : wt_S), fd_join n s a1 a2 a3 a4 = some (r, s2) → ct_C v yd_join (Cond.code yd_join bd_join 8 (some .int)) (n + 2) [.ref (v.2.1 1), .int a1, .int a2, .int a3, .int a4] (some (.int r)) (s, t, o) (s2, t, o) := by
  intro n
  induction n with
  | zero =>
    intro s a1 a2 a3 a4 r s2 hF
    cases (show (none : Option (Int32 × wt_S)) = some _ from hF)
  | succ n ih =>
    intro s a1 a2 a3 a4 r s2 hF
    refine ct_of (lv := [(0, .ref (v.2.1 1)), (1, .int a1), (2, .int a2), (3, .int a3), (4, .int a4)]) (fun r : Int32 × wt_S => some (.int r.1)) (fun r => (r.2, t, o)) (by decide) (Nat.le_of_ble_eq_true rfl) rfl ?_ (r, s2) hF
    intro z hz am
    subst hz
    have am : wt_Am z R_D bd_join 8 (n + 1 + 2) (some .int) := am
    show jj_J z 8 0 [(0, .ref (ad_ z 1)), (1, .int a1), (2, .int a2), (3, .int a3), (4, .int a4)] [] (s, t, o) (q_IS z t o) (fd_join (n + 1) s a1 a2 a3 a4)
    rw [fd_join]
    refine ji_iload_n (q := 1) am dd_join_0 rfl 2 rfl rfl ?_
    refine ji_iconst (q := 2) am dd_join_1 ki_1 rfl ?_
    refine ji_jn2 (fun j => ∀ (u20 : Unit), jj_J z 8 20 [(0, .ref (ad_ z 1)), (1, .int a1), (2, .int a2), (3, .int a3), (4, .int a4)] [] (s, t, o) (q_IS z t o) (j u20)) ?_ ?_
    · intro u20
      refine ji_iload (q := 22) am dd_join_20 4 rfl rfl ?_
      refine ji_bipush (q := 24) am dd_join_22 kb_8 rfl ?_
      refine ji_icmp_lt (q := 27) (g := 29) am dd_join_24 rfl rfl ?_ ?_
      · refine ji_aload_n (q := 30) am dd_join_29 rfl 0 rfl rfl ?_
        refine ji_aload_n (q := 31) am dd_join_30 rfl 0 rfl rfl ?_
        refine ji_get_D_label (q := 34) am dd_join_31 rfl ?_
        refine ji_iload_n (q := 35) am dd_join_34 rfl 2 rfl rfl ?_
        refine ji_ald_D3 (q := 36) am dd_join_35 rfl ?_
        intro v35
        refine ji_aload_n (q := 37) am dd_join_36 rfl 0 rfl rfl ?_
        refine ji_get_D_label (q := 40) am dd_join_37 rfl ?_
        refine ji_iload_n (q := 41) am dd_join_40 rfl 3 rfl rfl ?_
        refine ji_ald_D3 (q := 42) am dd_join_41 rfl ?_
        intro v41
        refine jk_I (q := 45) (rest := []) (fun r hF => jr_V [.int v35, .int v41] am ln_D_d_upper (ctd_upper _ _ hF) (by omega) (rc_D am) rfl rfl (Nat.le_of_ble_eq_true rfl) dd_join_42) rfl ?_
        intro r42
        refine ji_istore (lv' := [(0, .ref (ad_ z 1)), (1, .int a1), (2, .int a2), (3, .int a3), (4, .int a4), (5, .int r42)]) (q := 47) am dd_join_45 [1, 2, 3, 4, 5, 0] rfl rfl rfl ?_
        refine ji_aload_n (q := 48) am dd_join_47 rfl 0 rfl rfl ?_
        refine ji_iload_n (q := 49) am dd_join_48 rfl 1 rfl rfl ?_
        refine ji_aload_n (q := 50) am dd_join_49 rfl 0 rfl rfl ?_
        refine ji_iload_n (q := 51) am dd_join_50 rfl 2 rfl rfl ?_
        refine ji_iload (q := 53) am dd_join_51 5 rfl rfl ?_
        refine jk_I (q := 56) (rest := [.int a1, .ref (ad_ z 1)]) (fun r hF => jr_V [.int a2, .int r42] am ln_D_d_offWay (ctd_offWay _ _ hF) (by omega) (rc_D am) rfl rfl (Nat.le_of_ble_eq_true rfl) dd_join_53) rfl ?_
        intro r53
        refine ji_aload_n (q := 57) am dd_join_56 rfl 0 rfl rfl ?_
        refine ji_iload_n (q := 58) am dd_join_57 rfl 3 rfl rfl ?_
        refine ji_iload (q := 60) am dd_join_58 5 rfl rfl ?_
        refine jk_I (q := 63) (rest := [.int r53, .int a1, .ref (ad_ z 1)]) (fun r hF => jr_V [.int a3, .int r42] am ln_D_d_offWay (ctd_offWay _ _ hF) (by omega) (rc_D am) rfl rfl (Nat.le_of_ble_eq_true rfl) dd_join_60) rfl ?_
        intro r60
        refine ji_iload (q := 65) am dd_join_63 4 rfl rfl ?_
        refine ji_iconst (q := 66) am dd_join_65 ki_1 rfl ?_
        refine ji_iadd (q := 67) am dd_join_66 rfl ?_
        refine jk_IS (q := 70) (rest := []) (fun r s2 hF => jr_V [.int a1, .int r53, .int r60, .int (a4 + (1 : Int32))] am ln_D_d_join (ih _ _ _ _ _ _ _ hF) (by omega) (rc_D am) rfl rfl (Nat.le_of_ble_eq_true rfl) dd_join_67) rfl ?_
        intro r67 s67
        refine ji_istore (lv' := [(0, .ref (ad_ z 1)), (1, .int a1), (2, .int a2), (3, .int a3), (4, .int a4), (5, .int r42), (6, .int r67)]) (q := 72) am dd_join_70 [1, 2, 3, 4, 5, 6, 0] rfl rfl rfl ?_
        refine ji_aload_n (q := 73) am dd_join_72 rfl 0 rfl rfl ?_
        refine ji_iload_n (q := 74) am dd_join_73 rfl 1 rfl rfl ?_
        refine ji_aload_n (q := 75) am dd_join_74 rfl 0 rfl rfl ?_
        refine ji_iload_n (q := 76) am dd_join_75 rfl 2 rfl rfl ?_
        refine ji_iload (q := 78) am dd_join_76 5 rfl rfl ?_
        refine jk_I (q := 81) (rest := [.int a1, .ref (ad_ z 1)]) (fun r hF => jr_V [.int a2, .int r42] am ln_D_d_onWay (ctd_onWay _ _ hF) (by omega) (rc_D am) rfl rfl (Nat.le_of_ble_eq_true rfl) dd_join_78) rfl ?_
        intro r78
        refine ji_aload_n (q := 82) am dd_join_81 rfl 0 rfl rfl ?_
        refine ji_iload_n (q := 83) am dd_join_82 rfl 3 rfl rfl ?_
        refine ji_iload (q := 85) am dd_join_83 5 rfl rfl ?_
        refine jk_I (q := 88) (rest := [.int r78, .int a1, .ref (ad_ z 1)]) (fun r hF => jr_V [.int a3, .int r42] am ln_D_d_onWay (ctd_onWay _ _ hF) (by omega) (rc_D am) rfl rfl (Nat.le_of_ble_eq_true rfl) dd_join_85) rfl ?_
        intro r85
        refine ji_iload (q := 90) am dd_join_88 4 rfl rfl ?_
        refine ji_iconst (q := 91) am dd_join_90 ki_1 rfl ?_
        refine ji_iadd (q := 92) am dd_join_91 rfl ?_
        refine jk_IS (q := 95) (rest := []) (fun r s2 hF => jr_V [.int a1, .int r78, .int r85, .int (a4 + (1 : Int32))] am ln_D_d_join (ih _ _ _ _ _ _ _ hF) (by omega) (rc_D am) rfl rfl (Nat.le_of_ble_eq_true rfl) dd_join_92) rfl ?_
        intro r92 s92
        refine ji_istore (lv' := [(0, .ref (ad_ z 1)), (1, .int a1), (2, .int a2), (3, .int a3), (4, .int a4), (5, .int r42), (6, .int r67), (7, .int r92)]) (q := 97) am dd_join_95 [1, 2, 3, 4, 5, 6, 7, 0] rfl rfl rfl ?_
        refine ji_aload_n (q := 98) am dd_join_97 rfl 0 rfl rfl ?_
        refine ji_iload (q := 100) am dd_join_98 5 rfl rfl ?_
        refine ji_iload (q := 102) am dd_join_100 6 rfl rfl ?_
        refine ji_iload (q := 104) am dd_join_102 7 rfl rfl ?_
        refine jk_IS (q := 107) (rest := []) (fun r s2 hF => jr_V [.int r42, .int r67, .int r92] am ln_D_d_node (ctd_node _ _ hF) (by omega) (rc_D am) rfl rfl (Nat.le_of_ble_eq_true rfl) dd_join_104) rfl ?_
        intro r104 s104
        exact ji_iret am rfl dd_join_107 rfl rfl
      · refine ji_iconst (q := 28) am dd_join_27 ki_0 rfl ?_
        exact ji_iret am rfl dd_join_28 rfl rfl
    · intro j20 hj20
      refine ji_icmp_gt (q := 5) (g := 20) am dd_join_2 rfl rfl ?_ ?_
      · exact hj20 _
      · refine ji_iload_n (q := 6) am dd_join_5 rfl 3 rfl rfl ?_
        refine ji_iconst (q := 7) am dd_join_6 ki_1 rfl ?_
        refine ji_icmp_gt (q := 10) (g := 20) am dd_join_7 rfl rfl ?_ ?_
        · exact hj20 _
        · refine ji_iload_n (q := 11) am dd_join_10 rfl 1 rfl rfl ?_
          refine ji_iconst (q := 12) am dd_join_11 ki_2 rfl ?_
          refine ji_iload_n (q := 13) am dd_join_12 rfl 2 rfl rfl ?_
          refine ji_imul (q := 14) am dd_join_13 rfl ?_
          refine ji_iload_n (q := 15) am dd_join_14 rfl 3 rfl rfl ?_
          refine ji_iadd (q := 16) am dd_join_15 rfl ?_
          refine ji_ishr (q := 17) am dd_join_16 rfl ?_
          refine ji_iconst (q := 18) am dd_join_17 ki_1 rfl ?_
          refine ji_iand (q := 19) am dd_join_18 rfl ?_
          exact ji_iret am rfl dd_join_19 rfl rfl

theorem dd_negate_0 : decode bd_negate 0 = .ok (.aload_n 0, 1) := by decide +kernel
theorem dd_negate_1 : decode bd_negate 1 = .ok (.iconst 3, 1) := by decide +kernel
theorem dd_negate_2 : decode bd_negate 2 = .ok (.iload_n 1, 1) := by decide +kernel
theorem dd_negate_3 : decode bd_negate 3 = .ok (.iload_n 1, 1) := by decide +kernel
theorem dd_negate_4 : decode bd_negate 4 = .ok (.iconst 0, 1) := by decide +kernel
theorem dd_negate_5 : decode bd_negate 5 = .ok (.invokevirtual 63, 3) := by decide +kernel
theorem dd_negate_8 : decode bd_negate 8 = .ok (.ireturn, 1) := by decide +kernel
set_option maxHeartbeats 4000000 in
set_option maxRecDepth 100000 in
theorem ctd_negate {v : wt_V} {s : wt_S} {a1 : Int32} {r : Int32} {s2 : wt_S} (t : wt_M) (o : Nat → Int64) (hF : fd_negate s a1 = some (r, s2)) : ct_C v yd_negate (Cond.code yd_negate bd_negate 2 (some .int)) 12 [.ref (v.2.1 1), .int a1] (some (.int r)) (s, t, o) (s2, t, o) := by
  refine ct_of (lv := [(0, .ref (v.2.1 1)), (1, .int a1)]) (fun r : Int32 × wt_S => some (.int r.1)) (fun r => (r.2, t, o)) (by decide) (Nat.le_of_ble_eq_true rfl) rfl ?_ (r, s2) hF
  intro z hz am
  subst hz
  have am : wt_Am z R_D bd_negate 2 12 (some .int) := am
  show jj_J z 2 0 [(0, .ref (ad_ z 1)), (1, .int a1)] [] (s, t, o) (q_IS z t o) (fd_negate s a1)
  unfold fd_negate
  refine ji_aload_n (q := 1) am dd_negate_0 rfl 0 rfl rfl ?_
  refine ji_iconst (q := 2) am dd_negate_1 ki_3 rfl ?_
  refine ji_iload_n (q := 3) am dd_negate_2 rfl 1 rfl rfl ?_
  refine ji_iload_n (q := 4) am dd_negate_3 rfl 1 rfl rfl ?_
  refine ji_iconst (q := 5) am dd_negate_4 ki_0 rfl ?_
  refine jk_IS (q := 8) (rest := []) (fun r s2 hF => jr_V [.int (3 : Int32), .int a1, .int a1, .int (0 : Int32)] am ln_D_d_join (ctd_join t o 9 _ _ _ _ _ _ _ hF) (by omega) (rc_D am) rfl rfl (Nat.le_of_ble_eq_true rfl) dd_negate_5) rfl ?_
  intro r5 s5
  exact ji_iret am rfl dd_negate_8 rfl rfl

theorem dd_pick_0 : decode bd_pick 0 = .ok (.iload_n 1, 1) := by decide +kernel
theorem dd_pick_1 : decode bd_pick 1 = .ok (.iconst 1, 1) := by decide +kernel
theorem dd_pick_2 : decode bd_pick 2 = .ok (.if_icmp .le 8, 3) := by decide +kernel
theorem dd_pick_5 : decode bd_pick 5 = .ok (.iload_n 2, 1) := by decide +kernel
theorem dd_pick_6 : decode bd_pick 6 = .ok (.iload_n 3, 1) := by decide +kernel
theorem dd_pick_7 : decode bd_pick 7 = .ok (.if_icmp .ne 13, 3) := by decide +kernel
theorem dd_pick_10 : decode bd_pick 10 = .ok (.iload_n 1, 1) := by decide +kernel
theorem dd_pick_11 : decode bd_pick 11 = .ok (.ifCond .ne 7, 3) := by decide +kernel
theorem dd_pick_14 : decode bd_pick 14 = .ok (.iload_n 3, 1) := by decide +kernel
theorem dd_pick_15 : decode bd_pick 15 = .ok (.goto 4, 3) := by decide +kernel
theorem dd_pick_18 : decode bd_pick 18 = .ok (.iload_n 2, 1) := by decide +kernel
theorem dd_pick_19 : decode bd_pick 19 = .ok (.ireturn, 1) := by decide +kernel
theorem dd_pick_20 : decode bd_pick 20 = .ok (.iload 4, 2) := by decide +kernel
theorem dd_pick_22 : decode bd_pick 22 = .ok (.bipush 8, 2) := by decide +kernel
theorem dd_pick_24 : decode bd_pick 24 = .ok (.if_icmp .lt 5, 3) := by decide +kernel
theorem dd_pick_27 : decode bd_pick 27 = .ok (.iconst 0, 1) := by decide +kernel
theorem dd_pick_28 : decode bd_pick 28 = .ok (.ireturn, 1) := by decide +kernel
theorem dd_pick_29 : decode bd_pick 29 = .ok (.aload_n 0, 1) := by decide +kernel
theorem dd_pick_30 : decode bd_pick 30 = .ok (.aload_n 0, 1) := by decide +kernel
theorem dd_pick_31 : decode bd_pick 31 = .ok (.getfield 21, 3) := by decide +kernel
theorem dd_pick_34 : decode bd_pick 34 = .ok (.iload_n 1, 1) := by decide +kernel
theorem dd_pick_35 : decode bd_pick 35 = .ok (.iaload, 1) := by decide +kernel
theorem dd_pick_36 : decode bd_pick 36 = .ok (.aload_n 0, 1) := by decide +kernel
theorem dd_pick_37 : decode bd_pick 37 = .ok (.aload_n 0, 1) := by decide +kernel
theorem dd_pick_38 : decode bd_pick 38 = .ok (.getfield 21, 3) := by decide +kernel
theorem dd_pick_41 : decode bd_pick 41 = .ok (.iload_n 2, 1) := by decide +kernel
theorem dd_pick_42 : decode bd_pick 42 = .ok (.iaload, 1) := by decide +kernel
theorem dd_pick_43 : decode bd_pick 43 = .ok (.aload_n 0, 1) := by decide +kernel
theorem dd_pick_44 : decode bd_pick 44 = .ok (.getfield 21, 3) := by decide +kernel
theorem dd_pick_47 : decode bd_pick 47 = .ok (.iload_n 3, 1) := by decide +kernel
theorem dd_pick_48 : decode bd_pick 48 = .ok (.iaload, 1) := by decide +kernel
theorem dd_pick_49 : decode bd_pick 49 = .ok (.invokevirtual 67, 3) := by decide +kernel
theorem dd_pick_52 : decode bd_pick 52 = .ok (.invokevirtual 67, 3) := by decide +kernel
theorem dd_pick_55 : decode bd_pick 55 = .ok (.istore 5, 2) := by decide +kernel
theorem dd_pick_57 : decode bd_pick 57 = .ok (.aload_n 0, 1) := by decide +kernel
theorem dd_pick_58 : decode bd_pick 58 = .ok (.aload_n 0, 1) := by decide +kernel
theorem dd_pick_59 : decode bd_pick 59 = .ok (.iload_n 1, 1) := by decide +kernel
theorem dd_pick_60 : decode bd_pick 60 = .ok (.iload 5, 2) := by decide +kernel
theorem dd_pick_62 : decode bd_pick 62 = .ok (.invokevirtual 71, 3) := by decide +kernel
theorem dd_pick_65 : decode bd_pick 65 = .ok (.aload_n 0, 1) := by decide +kernel
theorem dd_pick_66 : decode bd_pick 66 = .ok (.iload_n 2, 1) := by decide +kernel
theorem dd_pick_67 : decode bd_pick 67 = .ok (.iload 5, 2) := by decide +kernel
theorem dd_pick_69 : decode bd_pick 69 = .ok (.invokevirtual 71, 3) := by decide +kernel
theorem dd_pick_72 : decode bd_pick 72 = .ok (.aload_n 0, 1) := by decide +kernel
theorem dd_pick_73 : decode bd_pick 73 = .ok (.iload_n 3, 1) := by decide +kernel
theorem dd_pick_74 : decode bd_pick 74 = .ok (.iload 5, 2) := by decide +kernel
theorem dd_pick_76 : decode bd_pick 76 = .ok (.invokevirtual 71, 3) := by decide +kernel
theorem dd_pick_79 : decode bd_pick 79 = .ok (.iload 4, 2) := by decide +kernel
theorem dd_pick_81 : decode bd_pick 81 = .ok (.iconst 1, 1) := by decide +kernel
theorem dd_pick_82 : decode bd_pick 82 = .ok (.iadd, 1) := by decide +kernel
theorem dd_pick_83 : decode bd_pick 83 = .ok (.invokevirtual 77, 3) := by decide +kernel
theorem dd_pick_86 : decode bd_pick 86 = .ok (.istore 6, 2) := by decide +kernel
theorem dd_pick_88 : decode bd_pick 88 = .ok (.aload_n 0, 1) := by decide +kernel
theorem dd_pick_89 : decode bd_pick 89 = .ok (.aload_n 0, 1) := by decide +kernel
theorem dd_pick_90 : decode bd_pick 90 = .ok (.iload_n 1, 1) := by decide +kernel
theorem dd_pick_91 : decode bd_pick 91 = .ok (.iload 5, 2) := by decide +kernel
theorem dd_pick_93 : decode bd_pick 93 = .ok (.invokevirtual 74, 3) := by decide +kernel
theorem dd_pick_96 : decode bd_pick 96 = .ok (.aload_n 0, 1) := by decide +kernel
theorem dd_pick_97 : decode bd_pick 97 = .ok (.iload_n 2, 1) := by decide +kernel
theorem dd_pick_98 : decode bd_pick 98 = .ok (.iload 5, 2) := by decide +kernel
theorem dd_pick_100 : decode bd_pick 100 = .ok (.invokevirtual 74, 3) := by decide +kernel
theorem dd_pick_103 : decode bd_pick 103 = .ok (.aload_n 0, 1) := by decide +kernel
theorem dd_pick_104 : decode bd_pick 104 = .ok (.iload_n 3, 1) := by decide +kernel
theorem dd_pick_105 : decode bd_pick 105 = .ok (.iload 5, 2) := by decide +kernel
theorem dd_pick_107 : decode bd_pick 107 = .ok (.invokevirtual 74, 3) := by decide +kernel
theorem dd_pick_110 : decode bd_pick 110 = .ok (.iload 4, 2) := by decide +kernel
theorem dd_pick_112 : decode bd_pick 112 = .ok (.iconst 1, 1) := by decide +kernel
theorem dd_pick_113 : decode bd_pick 113 = .ok (.iadd, 1) := by decide +kernel
theorem dd_pick_114 : decode bd_pick 114 = .ok (.invokevirtual 77, 3) := by decide +kernel
theorem dd_pick_117 : decode bd_pick 117 = .ok (.istore 7, 2) := by decide +kernel
theorem dd_pick_119 : decode bd_pick 119 = .ok (.aload_n 0, 1) := by decide +kernel
theorem dd_pick_120 : decode bd_pick 120 = .ok (.iload 5, 2) := by decide +kernel
theorem dd_pick_122 : decode bd_pick 122 = .ok (.iload 6, 2) := by decide +kernel
theorem dd_pick_124 : decode bd_pick 124 = .ok (.iload 7, 2) := by decide +kernel
theorem dd_pick_126 : decode bd_pick 126 = .ok (.invokevirtual 59, 3) := by decide +kernel
theorem dd_pick_129 : decode bd_pick 129 = .ok (.ireturn, 1) := by decide +kernel
set_option maxHeartbeats 4000000 in
set_option maxRecDepth 100000 in
theorem ctd_pick {v : wt_V} (t : wt_M) (o : Nat → Int64) : ∀ (n : Nat) (s : wt_S) (a1 : Int32) (a2 : Int32) (a3 : Int32) (a4 : Int32) (r : Int32) (s2 : wt_S), fd_pick n s a1 a2 a3 a4 = some (r, s2) → ct_C v yd_pick (Cond.code yd_pick bd_pick 8 (some .int)) (n + 2) [.ref (v.2.1 1), .int a1, .int a2, .int a3, .int a4] (some (.int r)) (s, t, o) (s2, t, o) := by
  intro n
  induction n with
  | zero =>
    intro s a1 a2 a3 a4 r s2 hF
    cases (show (none : Option (Int32 × wt_S)) = some _ from hF)
  | succ n ih =>
    intro s a1 a2 a3 a4 r s2 hF
    refine ct_of (lv := [(0, .ref (v.2.1 1)), (1, .int a1), (2, .int a2), (3, .int a3), (4, .int a4)]) (fun r : Int32 × wt_S => some (.int r.1)) (fun r => (r.2, t, o)) (by decide) (Nat.le_of_ble_eq_true rfl) rfl ?_ (r, s2) hF
    intro z hz am
    subst hz
    have am : wt_Am z R_D bd_pick 8 (n + 1 + 2) (some .int) := am
    show jj_J z 8 0 [(0, .ref (ad_ z 1)), (1, .int a1), (2, .int a2), (3, .int a3), (4, .int a4)] [] (s, t, o) (q_IS z t o) (fd_pick (n + 1) s a1 a2 a3 a4)
    rw [fd_pick]
    refine ji_iload_n (q := 1) am dd_pick_0 rfl 1 rfl rfl ?_
    refine ji_iconst (q := 2) am dd_pick_1 ki_1 rfl ?_
    refine ji_jn2 (fun j => ∀ (u10 : Unit), jj_J z 8 10 [(1, .int a1), (2, .int a2), (3, .int a3)] [] (s, t, o) (q_IS z t o) (j u10)) ?_ ?_
    · intro u10
      refine ji_iload_n (q := 11) am dd_pick_10 rfl 0 rfl rfl ?_
      refine ji_jn2 (fun j => ∀ (y0_19 : Int32), jj_J z 8 19 [] [.int y0_19] (s, t, o) (q_IS z t o) (j y0_19)) ?_ ?_
      · intro y0_19
        exact ji_iret am rfl dd_pick_19 rfl rfl
      · intro j19 hj19
        refine ji_if_ne (q := 14) (g := 18) am dd_pick_11 rfl rfl ?_ ?_
        · refine ji_iload_n (q := 19) am dd_pick_18 rfl 1 rfl rfl ?_
          exact ji_sub (lv' := []) [] rfl (hj19 _)
        · refine ji_iload_n (q := 15) am dd_pick_14 rfl 2 rfl rfl ?_
          refine ji_goto (q := 19) am dd_pick_15 rfl ?_
          exact ji_sub (lv' := []) [] rfl (hj19 _)
    · intro j10 hj10
      refine ji_icmp_le (q := 5) (g := 10) am dd_pick_2 rfl rfl ?_ ?_
      · exact ji_sub (lv' := [(1, .int a1), (2, .int a2), (3, .int a3)]) [1, 2, 3] rfl (hj10 _)
      · refine ji_iload_n (q := 6) am dd_pick_5 rfl 2 rfl rfl ?_
        refine ji_iload_n (q := 7) am dd_pick_6 rfl 3 rfl rfl ?_
        refine ji_icmp_ne (q := 10) (g := 20) am dd_pick_7 rfl rfl ?_ ?_
        · refine ji_iload (q := 22) am dd_pick_20 4 rfl rfl ?_
          refine ji_bipush (q := 24) am dd_pick_22 kb_8 rfl ?_
          refine ji_icmp_lt (q := 27) (g := 29) am dd_pick_24 rfl rfl ?_ ?_
          · refine ji_aload_n (q := 30) am dd_pick_29 rfl 0 rfl rfl ?_
            refine ji_aload_n (q := 31) am dd_pick_30 rfl 0 rfl rfl ?_
            refine ji_get_D_label (q := 34) am dd_pick_31 rfl ?_
            refine ji_iload_n (q := 35) am dd_pick_34 rfl 1 rfl rfl ?_
            refine ji_ald_D3 (q := 36) am dd_pick_35 rfl ?_
            intro v35
            refine ji_aload_n (q := 37) am dd_pick_36 rfl 0 rfl rfl ?_
            refine ji_aload_n (q := 38) am dd_pick_37 rfl 0 rfl rfl ?_
            refine ji_get_D_label (q := 41) am dd_pick_38 rfl ?_
            refine ji_iload_n (q := 42) am dd_pick_41 rfl 2 rfl rfl ?_
            refine ji_ald_D3 (q := 43) am dd_pick_42 rfl ?_
            intro v42
            refine ji_aload_n (q := 44) am dd_pick_43 rfl 0 rfl rfl ?_
            refine ji_get_D_label (q := 47) am dd_pick_44 rfl ?_
            refine ji_iload_n (q := 48) am dd_pick_47 rfl 3 rfl rfl ?_
            refine ji_ald_D3 (q := 49) am dd_pick_48 rfl ?_
            intro v48
            refine jk_I (q := 52) (rest := [.int v35, .ref (ad_ z 1)]) (fun r hF => jr_V [.int v42, .int v48] am ln_D_d_upper (ctd_upper _ _ hF) (by omega) (rc_D am) rfl rfl (Nat.le_of_ble_eq_true rfl) dd_pick_49) rfl ?_
            intro r49
            refine jk_I (q := 55) (rest := []) (fun r hF => jr_V [.int v35, .int r49] am ln_D_d_upper (ctd_upper _ _ hF) (by omega) (rc_D am) rfl rfl (Nat.le_of_ble_eq_true rfl) dd_pick_52) rfl ?_
            intro r52
            refine ji_istore (lv' := [(0, .ref (ad_ z 1)), (1, .int a1), (2, .int a2), (3, .int a3), (4, .int a4), (5, .int r52)]) (q := 57) am dd_pick_55 [1, 2, 3, 4, 5, 0] rfl rfl rfl ?_
            refine ji_aload_n (q := 58) am dd_pick_57 rfl 0 rfl rfl ?_
            refine ji_aload_n (q := 59) am dd_pick_58 rfl 0 rfl rfl ?_
            refine ji_iload_n (q := 60) am dd_pick_59 rfl 1 rfl rfl ?_
            refine ji_iload (q := 62) am dd_pick_60 5 rfl rfl ?_
            refine jk_I (q := 65) (rest := [.ref (ad_ z 1)]) (fun r hF => jr_V [.int a1, .int r52] am ln_D_d_offWay (ctd_offWay _ _ hF) (by omega) (rc_D am) rfl rfl (Nat.le_of_ble_eq_true rfl) dd_pick_62) rfl ?_
            intro r62
            refine ji_aload_n (q := 66) am dd_pick_65 rfl 0 rfl rfl ?_
            refine ji_iload_n (q := 67) am dd_pick_66 rfl 2 rfl rfl ?_
            refine ji_iload (q := 69) am dd_pick_67 5 rfl rfl ?_
            refine jk_I (q := 72) (rest := [.int r62, .ref (ad_ z 1)]) (fun r hF => jr_V [.int a2, .int r52] am ln_D_d_offWay (ctd_offWay _ _ hF) (by omega) (rc_D am) rfl rfl (Nat.le_of_ble_eq_true rfl) dd_pick_69) rfl ?_
            intro r69
            refine ji_aload_n (q := 73) am dd_pick_72 rfl 0 rfl rfl ?_
            refine ji_iload_n (q := 74) am dd_pick_73 rfl 3 rfl rfl ?_
            refine ji_iload (q := 76) am dd_pick_74 5 rfl rfl ?_
            refine jk_I (q := 79) (rest := [.int r69, .int r62, .ref (ad_ z 1)]) (fun r hF => jr_V [.int a3, .int r52] am ln_D_d_offWay (ctd_offWay _ _ hF) (by omega) (rc_D am) rfl rfl (Nat.le_of_ble_eq_true rfl) dd_pick_76) rfl ?_
            intro r76
            refine ji_iload (q := 81) am dd_pick_79 4 rfl rfl ?_
            refine ji_iconst (q := 82) am dd_pick_81 ki_1 rfl ?_
            refine ji_iadd (q := 83) am dd_pick_82 rfl ?_
            refine jk_IS (q := 86) (rest := []) (fun r s2 hF => jr_V [.int r62, .int r69, .int r76, .int (a4 + (1 : Int32))] am ln_D_d_pick (ih _ _ _ _ _ _ _ hF) (by omega) (rc_D am) rfl rfl (Nat.le_of_ble_eq_true rfl) dd_pick_83) rfl ?_
            intro r83 s83
            refine ji_istore (lv' := [(0, .ref (ad_ z 1)), (1, .int a1), (2, .int a2), (3, .int a3), (4, .int a4), (5, .int r52), (6, .int r83)]) (q := 88) am dd_pick_86 [1, 2, 3, 4, 5, 6, 0] rfl rfl rfl ?_
            refine ji_aload_n (q := 89) am dd_pick_88 rfl 0 rfl rfl ?_
            refine ji_aload_n (q := 90) am dd_pick_89 rfl 0 rfl rfl ?_
            refine ji_iload_n (q := 91) am dd_pick_90 rfl 1 rfl rfl ?_
            refine ji_iload (q := 93) am dd_pick_91 5 rfl rfl ?_
            refine jk_I (q := 96) (rest := [.ref (ad_ z 1)]) (fun r hF => jr_V [.int a1, .int r52] am ln_D_d_onWay (ctd_onWay _ _ hF) (by omega) (rc_D am) rfl rfl (Nat.le_of_ble_eq_true rfl) dd_pick_93) rfl ?_
            intro r93
            refine ji_aload_n (q := 97) am dd_pick_96 rfl 0 rfl rfl ?_
            refine ji_iload_n (q := 98) am dd_pick_97 rfl 2 rfl rfl ?_
            refine ji_iload (q := 100) am dd_pick_98 5 rfl rfl ?_
            refine jk_I (q := 103) (rest := [.int r93, .ref (ad_ z 1)]) (fun r hF => jr_V [.int a2, .int r52] am ln_D_d_onWay (ctd_onWay _ _ hF) (by omega) (rc_D am) rfl rfl (Nat.le_of_ble_eq_true rfl) dd_pick_100) rfl ?_
            intro r100
            refine ji_aload_n (q := 104) am dd_pick_103 rfl 0 rfl rfl ?_
            refine ji_iload_n (q := 105) am dd_pick_104 rfl 3 rfl rfl ?_
            refine ji_iload (q := 107) am dd_pick_105 5 rfl rfl ?_
            refine jk_I (q := 110) (rest := [.int r100, .int r93, .ref (ad_ z 1)]) (fun r hF => jr_V [.int a3, .int r52] am ln_D_d_onWay (ctd_onWay _ _ hF) (by omega) (rc_D am) rfl rfl (Nat.le_of_ble_eq_true rfl) dd_pick_107) rfl ?_
            intro r107
            refine ji_iload (q := 112) am dd_pick_110 4 rfl rfl ?_
            refine ji_iconst (q := 113) am dd_pick_112 ki_1 rfl ?_
            refine ji_iadd (q := 114) am dd_pick_113 rfl ?_
            refine jk_IS (q := 117) (rest := []) (fun r s2 hF => jr_V [.int r93, .int r100, .int r107, .int (a4 + (1 : Int32))] am ln_D_d_pick (ih _ _ _ _ _ _ _ hF) (by omega) (rc_D am) rfl rfl (Nat.le_of_ble_eq_true rfl) dd_pick_114) rfl ?_
            intro r114 s114
            refine ji_istore (lv' := [(0, .ref (ad_ z 1)), (1, .int a1), (2, .int a2), (3, .int a3), (4, .int a4), (5, .int r52), (6, .int r83), (7, .int r114)]) (q := 119) am dd_pick_117 [1, 2, 3, 4, 5, 6, 7, 0] rfl rfl rfl ?_
            refine ji_aload_n (q := 120) am dd_pick_119 rfl 0 rfl rfl ?_
            refine ji_iload (q := 122) am dd_pick_120 5 rfl rfl ?_
            refine ji_iload (q := 124) am dd_pick_122 6 rfl rfl ?_
            refine ji_iload (q := 126) am dd_pick_124 7 rfl rfl ?_
            refine jk_IS (q := 129) (rest := []) (fun r s2 hF => jr_V [.int r52, .int r83, .int r114] am ln_D_d_node (ctd_node _ _ hF) (by omega) (rc_D am) rfl rfl (Nat.le_of_ble_eq_true rfl) dd_pick_126) rfl ?_
            intro r126 s126
            exact ji_iret am rfl dd_pick_129 rfl rfl
          · refine ji_iconst (q := 28) am dd_pick_27 ki_0 rfl ?_
            exact ji_iret am rfl dd_pick_28 rfl rfl
        · exact ji_sub (lv' := [(1, .int a1), (2, .int a2), (3, .int a3)]) [1, 2, 3] rfl (hj10 _)

theorem dd_fix_0 : decode bd_fix 0 = .ok (.aload_n 0, 1) := by decide +kernel
theorem dd_fix_1 : decode bd_fix 1 = .ok (.getfield 18, 3) := by decide +kernel
theorem dd_fix_4 : decode bd_fix 4 = .ok (.aload_n 0, 1) := by decide +kernel
theorem dd_fix_5 : decode bd_fix 5 = .ok (.getfield 21, 3) := by decide +kernel
theorem dd_fix_8 : decode bd_fix 8 = .ok (.iload_n 1, 1) := by decide +kernel
theorem dd_fix_9 : decode bd_fix 9 = .ok (.iaload, 1) := by decide +kernel
theorem dd_fix_10 : decode bd_fix 10 = .ok (.iaload, 1) := by decide +kernel
theorem dd_fix_11 : decode bd_fix 11 = .ok (.aload_n 0, 1) := by decide +kernel
theorem dd_fix_12 : decode bd_fix 12 = .ok (.getfield 18, 3) := by decide +kernel
theorem dd_fix_15 : decode bd_fix 15 = .ok (.iload_n 2, 1) := by decide +kernel
theorem dd_fix_16 : decode bd_fix 16 = .ok (.iaload, 1) := by decide +kernel
theorem dd_fix_17 : decode bd_fix 17 = .ok (.if_icmp .le 5, 3) := by decide +kernel
theorem dd_fix_20 : decode bd_fix 20 = .ok (.iload_n 1, 1) := by decide +kernel
theorem dd_fix_21 : decode bd_fix 21 = .ok (.ireturn, 1) := by decide +kernel
theorem dd_fix_22 : decode bd_fix 22 = .ok (.aload_n 0, 1) := by decide +kernel
theorem dd_fix_23 : decode bd_fix 23 = .ok (.getfield 21, 3) := by decide +kernel
theorem dd_fix_26 : decode bd_fix 26 = .ok (.iload_n 1, 1) := by decide +kernel
theorem dd_fix_27 : decode bd_fix 27 = .ok (.iaload, 1) := by decide +kernel
theorem dd_fix_28 : decode bd_fix 28 = .ok (.iload_n 2, 1) := by decide +kernel
theorem dd_fix_29 : decode bd_fix 29 = .ok (.if_icmp .ne 23, 3) := by decide +kernel
theorem dd_fix_32 : decode bd_fix 32 = .ok (.iload_n 3, 1) := by decide +kernel
theorem dd_fix_33 : decode bd_fix 33 = .ok (.ifCond .eq 12, 3) := by decide +kernel
theorem dd_fix_36 : decode bd_fix 36 = .ok (.aload_n 0, 1) := by decide +kernel
theorem dd_fix_37 : decode bd_fix 37 = .ok (.getfield 27, 3) := by decide +kernel
theorem dd_fix_40 : decode bd_fix 40 = .ok (.iload_n 1, 1) := by decide +kernel
theorem dd_fix_41 : decode bd_fix 41 = .ok (.iaload, 1) := by decide +kernel
theorem dd_fix_42 : decode bd_fix 42 = .ok (.goto 9, 3) := by decide +kernel
theorem dd_fix_45 : decode bd_fix 45 = .ok (.aload_n 0, 1) := by decide +kernel
theorem dd_fix_46 : decode bd_fix 46 = .ok (.getfield 24, 3) := by decide +kernel
theorem dd_fix_49 : decode bd_fix 49 = .ok (.iload_n 1, 1) := by decide +kernel
theorem dd_fix_50 : decode bd_fix 50 = .ok (.iaload, 1) := by decide +kernel
theorem dd_fix_51 : decode bd_fix 51 = .ok (.ireturn, 1) := by decide +kernel
theorem dd_fix_52 : decode bd_fix 52 = .ok (.iload 4, 2) := by decide +kernel
theorem dd_fix_54 : decode bd_fix 54 = .ok (.bipush 8, 2) := by decide +kernel
theorem dd_fix_56 : decode bd_fix 56 = .ok (.if_icmp .lt 5, 3) := by decide +kernel
theorem dd_fix_59 : decode bd_fix 59 = .ok (.iconst 0, 1) := by decide +kernel
theorem dd_fix_60 : decode bd_fix 60 = .ok (.ireturn, 1) := by decide +kernel
theorem dd_fix_61 : decode bd_fix 61 = .ok (.aload_n 0, 1) := by decide +kernel
theorem dd_fix_62 : decode bd_fix 62 = .ok (.aload_n 0, 1) := by decide +kernel
theorem dd_fix_63 : decode bd_fix 63 = .ok (.getfield 21, 3) := by decide +kernel
theorem dd_fix_66 : decode bd_fix 66 = .ok (.iload_n 1, 1) := by decide +kernel
theorem dd_fix_67 : decode bd_fix 67 = .ok (.iaload, 1) := by decide +kernel
theorem dd_fix_68 : decode bd_fix 68 = .ok (.aload_n 0, 1) := by decide +kernel
theorem dd_fix_69 : decode bd_fix 69 = .ok (.aload_n 0, 1) := by decide +kernel
theorem dd_fix_70 : decode bd_fix 70 = .ok (.getfield 24, 3) := by decide +kernel
theorem dd_fix_73 : decode bd_fix 73 = .ok (.iload_n 1, 1) := by decide +kernel
theorem dd_fix_74 : decode bd_fix 74 = .ok (.iaload, 1) := by decide +kernel
theorem dd_fix_75 : decode bd_fix 75 = .ok (.iload_n 2, 1) := by decide +kernel
theorem dd_fix_76 : decode bd_fix 76 = .ok (.iload_n 3, 1) := by decide +kernel
theorem dd_fix_77 : decode bd_fix 77 = .ok (.iload 4, 2) := by decide +kernel
theorem dd_fix_79 : decode bd_fix 79 = .ok (.iconst 1, 1) := by decide +kernel
theorem dd_fix_80 : decode bd_fix 80 = .ok (.iadd, 1) := by decide +kernel
theorem dd_fix_81 : decode bd_fix 81 = .ok (.invokevirtual 80, 3) := by decide +kernel
theorem dd_fix_84 : decode bd_fix 84 = .ok (.aload_n 0, 1) := by decide +kernel
theorem dd_fix_85 : decode bd_fix 85 = .ok (.aload_n 0, 1) := by decide +kernel
theorem dd_fix_86 : decode bd_fix 86 = .ok (.getfield 27, 3) := by decide +kernel
theorem dd_fix_89 : decode bd_fix 89 = .ok (.iload_n 1, 1) := by decide +kernel
theorem dd_fix_90 : decode bd_fix 90 = .ok (.iaload, 1) := by decide +kernel
theorem dd_fix_91 : decode bd_fix 91 = .ok (.iload_n 2, 1) := by decide +kernel
theorem dd_fix_92 : decode bd_fix 92 = .ok (.iload_n 3, 1) := by decide +kernel
theorem dd_fix_93 : decode bd_fix 93 = .ok (.iload 4, 2) := by decide +kernel
theorem dd_fix_95 : decode bd_fix 95 = .ok (.iconst 1, 1) := by decide +kernel
theorem dd_fix_96 : decode bd_fix 96 = .ok (.iadd, 1) := by decide +kernel
theorem dd_fix_97 : decode bd_fix 97 = .ok (.invokevirtual 80, 3) := by decide +kernel
theorem dd_fix_100 : decode bd_fix 100 = .ok (.invokevirtual 59, 3) := by decide +kernel
theorem dd_fix_103 : decode bd_fix 103 = .ok (.ireturn, 1) := by decide +kernel
set_option maxHeartbeats 4000000 in
set_option maxRecDepth 100000 in
theorem ctd_fix {v : wt_V} (t : wt_M) (o : Nat → Int64) : ∀ (n : Nat) (s : wt_S) (a1 : Int32) (a2 : Int32) (a3 : Int32) (a4 : Int32) (r : Int32) (s2 : wt_S), fd_fix n s a1 a2 a3 a4 = some (r, s2) → ct_C v yd_fix (Cond.code yd_fix bd_fix 5 (some .int)) (n + 2) [.ref (v.2.1 1), .int a1, .int a2, .int a3, .int a4] (some (.int r)) (s, t, o) (s2, t, o) := by
  intro n
  induction n with
  | zero =>
    intro s a1 a2 a3 a4 r s2 hF
    cases (show (none : Option (Int32 × wt_S)) = some _ from hF)
  | succ n ih =>
    intro s a1 a2 a3 a4 r s2 hF
    refine ct_of (lv := [(0, .ref (v.2.1 1)), (1, .int a1), (2, .int a2), (3, .int a3), (4, .int a4)]) (fun r : Int32 × wt_S => some (.int r.1)) (fun r => (r.2, t, o)) (by decide) (Nat.le_of_ble_eq_true rfl) rfl ?_ (r, s2) hF
    intro z hz am
    subst hz
    have am : wt_Am z R_D bd_fix 5 (n + 1 + 2) (some .int) := am
    show jj_J z 5 0 [(0, .ref (ad_ z 1)), (1, .int a1), (2, .int a2), (3, .int a3), (4, .int a4)] [] (s, t, o) (q_IS z t o) (fd_fix (n + 1) s a1 a2 a3 a4)
    rw [fd_fix]
    refine ji_aload_n (q := 1) am dd_fix_0 rfl 0 rfl rfl ?_
    refine ji_get_D_levelOf (q := 4) am dd_fix_1 rfl ?_
    refine ji_aload_n (q := 5) am dd_fix_4 rfl 0 rfl rfl ?_
    refine ji_get_D_label (q := 8) am dd_fix_5 rfl ?_
    refine ji_iload_n (q := 9) am dd_fix_8 rfl 1 rfl rfl ?_
    refine ji_ald_D3 (q := 10) am dd_fix_9 rfl ?_
    intro v9
    refine ji_ald_D2 (q := 11) am dd_fix_10 rfl ?_
    intro v10
    refine ji_aload_n (q := 12) am dd_fix_11 rfl 0 rfl rfl ?_
    refine ji_get_D_levelOf (q := 15) am dd_fix_12 rfl ?_
    refine ji_iload_n (q := 16) am dd_fix_15 rfl 2 rfl rfl ?_
    refine ji_ald_D2 (q := 17) am dd_fix_16 rfl ?_
    intro v16
    refine ji_icmp_le (q := 20) (g := 22) am dd_fix_17 rfl rfl ?_ ?_
    · refine ji_aload_n (q := 23) am dd_fix_22 rfl 0 rfl rfl ?_
      refine ji_get_D_label (q := 26) am dd_fix_23 rfl ?_
      refine ji_iload_n (q := 27) am dd_fix_26 rfl 1 rfl rfl ?_
      refine ji_ald_D3 (q := 28) am dd_fix_27 rfl ?_
      intro v27
      refine ji_iload_n (q := 29) am dd_fix_28 rfl 2 rfl rfl ?_
      refine ji_icmp_ne (q := 32) (g := 52) am dd_fix_29 rfl rfl ?_ ?_
      · refine ji_iload (q := 54) am dd_fix_52 4 rfl rfl ?_
        refine ji_bipush (q := 56) am dd_fix_54 kb_8 rfl ?_
        refine ji_icmp_lt (q := 59) (g := 61) am dd_fix_56 rfl rfl ?_ ?_
        · refine ji_aload_n (q := 62) am dd_fix_61 rfl 0 rfl rfl ?_
          refine ji_aload_n (q := 63) am dd_fix_62 rfl 0 rfl rfl ?_
          refine ji_get_D_label (q := 66) am dd_fix_63 rfl ?_
          refine ji_iload_n (q := 67) am dd_fix_66 rfl 1 rfl rfl ?_
          refine ji_ald_D3 (q := 68) am dd_fix_67 rfl ?_
          intro v67
          refine ji_aload_n (q := 69) am dd_fix_68 rfl 0 rfl rfl ?_
          refine ji_aload_n (q := 70) am dd_fix_69 rfl 0 rfl rfl ?_
          refine ji_get_D_low (q := 73) am dd_fix_70 rfl ?_
          refine ji_iload_n (q := 74) am dd_fix_73 rfl 1 rfl rfl ?_
          refine ji_ald_D4 (q := 75) am dd_fix_74 rfl ?_
          intro v74
          refine ji_iload_n (q := 76) am dd_fix_75 rfl 2 rfl rfl ?_
          refine ji_iload_n (q := 77) am dd_fix_76 rfl 3 rfl rfl ?_
          refine ji_iload (q := 79) am dd_fix_77 4 rfl rfl ?_
          refine ji_iconst (q := 80) am dd_fix_79 ki_1 rfl ?_
          refine ji_iadd (q := 81) am dd_fix_80 rfl ?_
          refine jk_IS (q := 84) (rest := [.int v67, .ref (ad_ z 1)]) (fun r s2 hF => jr_V [.int v74, .int a2, .int a3, .int (a4 + (1 : Int32))] am ln_D_d_fix (ih _ _ _ _ _ _ _ hF) (by omega) (rc_D am) rfl rfl (Nat.le_of_ble_eq_true rfl) dd_fix_81) rfl ?_
          intro r81 s81
          refine ji_aload_n (q := 85) am dd_fix_84 rfl 0 rfl rfl ?_
          refine ji_aload_n (q := 86) am dd_fix_85 rfl 0 rfl rfl ?_
          refine ji_get_D_high (q := 89) am dd_fix_86 rfl ?_
          refine ji_iload_n (q := 90) am dd_fix_89 rfl 1 rfl rfl ?_
          refine ji_ald_D5 (q := 91) am dd_fix_90 rfl ?_
          intro v90
          refine ji_iload_n (q := 92) am dd_fix_91 rfl 2 rfl rfl ?_
          refine ji_iload_n (q := 93) am dd_fix_92 rfl 3 rfl rfl ?_
          refine ji_iload (q := 95) am dd_fix_93 4 rfl rfl ?_
          refine ji_iconst (q := 96) am dd_fix_95 ki_1 rfl ?_
          refine ji_iadd (q := 97) am dd_fix_96 rfl ?_
          refine jk_IS (q := 100) (rest := [.int r81, .int v67, .ref (ad_ z 1)]) (fun r s2 hF => jr_V [.int v90, .int a2, .int a3, .int (a4 + (1 : Int32))] am ln_D_d_fix (ih _ _ _ _ _ _ _ hF) (by omega) (rc_D am) rfl rfl (Nat.le_of_ble_eq_true rfl) dd_fix_97) rfl ?_
          intro r97 s97
          refine jk_IS (q := 103) (rest := []) (fun r s2 hF => jr_V [.int v67, .int r81, .int r97] am ln_D_d_node (ctd_node _ _ hF) (by omega) (rc_D am) rfl rfl (Nat.le_of_ble_eq_true rfl) dd_fix_100) rfl ?_
          intro r100 s100
          exact ji_iret am rfl dd_fix_103 rfl rfl
        · refine ji_iconst (q := 60) am dd_fix_59 ki_0 rfl ?_
          exact ji_iret am rfl dd_fix_60 rfl rfl
      · refine ji_iload_n (q := 33) am dd_fix_32 rfl 3 rfl rfl ?_
        refine ji_jn2 (fun j => ∀ (y0_51 : Int32), jj_J z 5 51 [] [.int y0_51] (s, t, o) (q_IS z t o) (j y0_51)) ?_ ?_
        · intro y0_51
          exact ji_iret am rfl dd_fix_51 rfl rfl
        · intro j51 hj51
          refine ji_if_eq (q := 36) (g := 45) am dd_fix_33 rfl rfl ?_ ?_
          · refine ji_aload_n (q := 46) am dd_fix_45 rfl 0 rfl rfl ?_
            refine ji_get_D_low (q := 49) am dd_fix_46 rfl ?_
            refine ji_iload_n (q := 50) am dd_fix_49 rfl 1 rfl rfl ?_
            refine ji_ald_D4 (q := 51) am dd_fix_50 rfl ?_
            intro v50
            exact ji_sub (lv' := []) [] rfl (hj51 _)
          · refine ji_aload_n (q := 37) am dd_fix_36 rfl 0 rfl rfl ?_
            refine ji_get_D_high (q := 40) am dd_fix_37 rfl ?_
            refine ji_iload_n (q := 41) am dd_fix_40 rfl 1 rfl rfl ?_
            refine ji_ald_D5 (q := 42) am dd_fix_41 rfl ?_
            intro v41
            refine ji_goto (q := 51) am dd_fix_42 rfl ?_
            exact ji_sub (lv' := []) [] rfl (hj51 _)
    · refine ji_iload_n (q := 21) am dd_fix_20 rfl 1 rfl rfl ?_
      exact ji_iret am rfl dd_fix_21 rfl rfl

theorem dd_overlap_0 : decode bd_overlap 0 = .ok (.iload_n 1, 1) := by decide +kernel
theorem dd_overlap_1 : decode bd_overlap 1 = .ok (.ifCond .eq 7, 3) := by decide +kernel
theorem dd_overlap_4 : decode bd_overlap 4 = .ok (.iload_n 2, 1) := by decide +kernel
theorem dd_overlap_5 : decode bd_overlap 5 = .ok (.ifCond .ne 5, 3) := by decide +kernel
theorem dd_overlap_8 : decode bd_overlap 8 = .ok (.iconst 0, 1) := by decide +kernel
theorem dd_overlap_9 : decode bd_overlap 9 = .ok (.ireturn, 1) := by decide +kernel
theorem dd_overlap_10 : decode bd_overlap 10 = .ok (.iload_n 1, 1) := by decide +kernel
theorem dd_overlap_11 : decode bd_overlap 11 = .ok (.iconst 1, 1) := by decide +kernel
theorem dd_overlap_12 : decode bd_overlap 12 = .ok (.if_icmp .ne 10, 3) := by decide +kernel
theorem dd_overlap_15 : decode bd_overlap 15 = .ok (.iload_n 2, 1) := by decide +kernel
theorem dd_overlap_16 : decode bd_overlap 16 = .ok (.iconst 1, 1) := by decide +kernel
theorem dd_overlap_17 : decode bd_overlap 17 = .ok (.if_icmp .ne 5, 3) := by decide +kernel
theorem dd_overlap_20 : decode bd_overlap 20 = .ok (.iconst 1, 1) := by decide +kernel
theorem dd_overlap_21 : decode bd_overlap 21 = .ok (.ireturn, 1) := by decide +kernel
theorem dd_overlap_22 : decode bd_overlap 22 = .ok (.iload 4, 2) := by decide +kernel
theorem dd_overlap_24 : decode bd_overlap 24 = .ok (.bipush 8, 2) := by decide +kernel
theorem dd_overlap_26 : decode bd_overlap 26 = .ok (.if_icmp .lt 5, 3) := by decide +kernel
theorem dd_overlap_29 : decode bd_overlap 29 = .ok (.iconst 0, 1) := by decide +kernel
theorem dd_overlap_30 : decode bd_overlap 30 = .ok (.ireturn, 1) := by decide +kernel
theorem dd_overlap_31 : decode bd_overlap 31 = .ok (.aload_n 0, 1) := by decide +kernel
theorem dd_overlap_32 : decode bd_overlap 32 = .ok (.aload_n 0, 1) := by decide +kernel
theorem dd_overlap_33 : decode bd_overlap 33 = .ok (.getfield 21, 3) := by decide +kernel
theorem dd_overlap_36 : decode bd_overlap 36 = .ok (.iload_n 1, 1) := by decide +kernel
theorem dd_overlap_37 : decode bd_overlap 37 = .ok (.iaload, 1) := by decide +kernel
theorem dd_overlap_38 : decode bd_overlap 38 = .ok (.aload_n 0, 1) := by decide +kernel
theorem dd_overlap_39 : decode bd_overlap 39 = .ok (.getfield 21, 3) := by decide +kernel
theorem dd_overlap_42 : decode bd_overlap 42 = .ok (.iload_n 2, 1) := by decide +kernel
theorem dd_overlap_43 : decode bd_overlap 43 = .ok (.iaload, 1) := by decide +kernel
theorem dd_overlap_44 : decode bd_overlap 44 = .ok (.invokevirtual 67, 3) := by decide +kernel
theorem dd_overlap_47 : decode bd_overlap 47 = .ok (.istore 5, 2) := by decide +kernel
theorem dd_overlap_49 : decode bd_overlap 49 = .ok (.aload_n 0, 1) := by decide +kernel
theorem dd_overlap_50 : decode bd_overlap 50 = .ok (.aload_n 0, 1) := by decide +kernel
theorem dd_overlap_51 : decode bd_overlap 51 = .ok (.iload_n 1, 1) := by decide +kernel
theorem dd_overlap_52 : decode bd_overlap 52 = .ok (.iload 5, 2) := by decide +kernel
theorem dd_overlap_54 : decode bd_overlap 54 = .ok (.invokevirtual 71, 3) := by decide +kernel
theorem dd_overlap_57 : decode bd_overlap 57 = .ok (.aload_n 0, 1) := by decide +kernel
theorem dd_overlap_58 : decode bd_overlap 58 = .ok (.iload_n 2, 1) := by decide +kernel
theorem dd_overlap_59 : decode bd_overlap 59 = .ok (.iload 5, 2) := by decide +kernel
theorem dd_overlap_61 : decode bd_overlap 61 = .ok (.invokevirtual 71, 3) := by decide +kernel
theorem dd_overlap_64 : decode bd_overlap 64 = .ok (.iload_n 3, 1) := by decide +kernel
theorem dd_overlap_65 : decode bd_overlap 65 = .ok (.iload 4, 2) := by decide +kernel
theorem dd_overlap_67 : decode bd_overlap 67 = .ok (.iconst 1, 1) := by decide +kernel
theorem dd_overlap_68 : decode bd_overlap 68 = .ok (.iadd, 1) := by decide +kernel
theorem dd_overlap_69 : decode bd_overlap 69 = .ok (.invokevirtual 84, 3) := by decide +kernel
theorem dd_overlap_72 : decode bd_overlap 72 = .ok (.istore 6, 2) := by decide +kernel
theorem dd_overlap_74 : decode bd_overlap 74 = .ok (.aload_n 0, 1) := by decide +kernel
theorem dd_overlap_75 : decode bd_overlap 75 = .ok (.aload_n 0, 1) := by decide +kernel
theorem dd_overlap_76 : decode bd_overlap 76 = .ok (.iload_n 1, 1) := by decide +kernel
theorem dd_overlap_77 : decode bd_overlap 77 = .ok (.iload 5, 2) := by decide +kernel
theorem dd_overlap_79 : decode bd_overlap 79 = .ok (.invokevirtual 74, 3) := by decide +kernel
theorem dd_overlap_82 : decode bd_overlap 82 = .ok (.aload_n 0, 1) := by decide +kernel
theorem dd_overlap_83 : decode bd_overlap 83 = .ok (.iload_n 2, 1) := by decide +kernel
theorem dd_overlap_84 : decode bd_overlap 84 = .ok (.iload 5, 2) := by decide +kernel
theorem dd_overlap_86 : decode bd_overlap 86 = .ok (.invokevirtual 74, 3) := by decide +kernel
theorem dd_overlap_89 : decode bd_overlap 89 = .ok (.iload_n 3, 1) := by decide +kernel
theorem dd_overlap_90 : decode bd_overlap 90 = .ok (.iload 4, 2) := by decide +kernel
theorem dd_overlap_92 : decode bd_overlap 92 = .ok (.iconst 1, 1) := by decide +kernel
theorem dd_overlap_93 : decode bd_overlap 93 = .ok (.iadd, 1) := by decide +kernel
theorem dd_overlap_94 : decode bd_overlap 94 = .ok (.invokevirtual 84, 3) := by decide +kernel
theorem dd_overlap_97 : decode bd_overlap 97 = .ok (.istore 7, 2) := by decide +kernel
theorem dd_overlap_99 : decode bd_overlap 99 = .ok (.iload_n 3, 1) := by decide +kernel
theorem dd_overlap_100 : decode bd_overlap 100 = .ok (.iload 5, 2) := by decide +kernel
theorem dd_overlap_102 : decode bd_overlap 102 = .ok (.ishr, 1) := by decide +kernel
theorem dd_overlap_103 : decode bd_overlap 103 = .ok (.iconst 1, 1) := by decide +kernel
theorem dd_overlap_104 : decode bd_overlap 104 = .ok (.iand, 1) := by decide +kernel
theorem dd_overlap_105 : decode bd_overlap 105 = .ok (.ifCond .ne 16, 3) := by decide +kernel
theorem dd_overlap_108 : decode bd_overlap 108 = .ok (.aload_n 0, 1) := by decide +kernel
theorem dd_overlap_109 : decode bd_overlap 109 = .ok (.iload 5, 2) := by decide +kernel
theorem dd_overlap_111 : decode bd_overlap 111 = .ok (.iload 6, 2) := by decide +kernel
theorem dd_overlap_113 : decode bd_overlap 113 = .ok (.iload 7, 2) := by decide +kernel
theorem dd_overlap_115 : decode bd_overlap 115 = .ok (.invokevirtual 59, 3) := by decide +kernel
theorem dd_overlap_118 : decode bd_overlap 118 = .ok (.goto 14, 3) := by decide +kernel
theorem dd_overlap_121 : decode bd_overlap 121 = .ok (.aload_n 0, 1) := by decide +kernel
theorem dd_overlap_122 : decode bd_overlap 122 = .ok (.bipush 14, 2) := by decide +kernel
theorem dd_overlap_124 : decode bd_overlap 124 = .ok (.iload 6, 2) := by decide +kernel
theorem dd_overlap_126 : decode bd_overlap 126 = .ok (.iload 7, 2) := by decide +kernel
theorem dd_overlap_128 : decode bd_overlap 128 = .ok (.iconst 0, 1) := by decide +kernel
theorem dd_overlap_129 : decode bd_overlap 129 = .ok (.invokevirtual 63, 3) := by decide +kernel
theorem dd_overlap_132 : decode bd_overlap 132 = .ok (.ireturn, 1) := by decide +kernel
set_option maxHeartbeats 4000000 in
set_option maxRecDepth 100000 in
theorem ctd_overlap {v : wt_V} (t : wt_M) (o : Nat → Int64) : ∀ (n : Nat) (s : wt_S) (a1 : Int32) (a2 : Int32) (a3 : Int32) (a4 : Int32) (r : Int32) (s2 : wt_S), fd_overlap n s a1 a2 a3 a4 = some (r, s2) → ct_C v yd_overlap (Cond.code yd_overlap bd_overlap 8 (some .int)) (n + 11) [.ref (v.2.1 1), .int a1, .int a2, .int a3, .int a4] (some (.int r)) (s, t, o) (s2, t, o) := by
  intro n
  induction n with
  | zero =>
    intro s a1 a2 a3 a4 r s2 hF
    cases (show (none : Option (Int32 × wt_S)) = some _ from hF)
  | succ n ih =>
    intro s a1 a2 a3 a4 r s2 hF
    refine ct_of (lv := [(0, .ref (v.2.1 1)), (1, .int a1), (2, .int a2), (3, .int a3), (4, .int a4)]) (fun r : Int32 × wt_S => some (.int r.1)) (fun r => (r.2, t, o)) (by decide) (Nat.le_of_ble_eq_true rfl) rfl ?_ (r, s2) hF
    intro z hz am
    subst hz
    have am : wt_Am z R_D bd_overlap 8 (n + 1 + 11) (some .int) := am
    show jj_J z 8 0 [(0, .ref (ad_ z 1)), (1, .int a1), (2, .int a2), (3, .int a3), (4, .int a4)] [] (s, t, o) (q_IS z t o) (fd_overlap (n + 1) s a1 a2 a3 a4)
    rw [fd_overlap]
    refine ji_iload_n (q := 1) am dd_overlap_0 rfl 1 rfl rfl ?_
    refine ji_jn2 (fun j => ∀ (u8 : Unit), jj_J z 8 8 [] [] (s, t, o) (q_IS z t o) (j u8)) ?_ ?_
    · intro u8
      refine ji_iconst (q := 9) am dd_overlap_8 ki_0 rfl ?_
      exact ji_iret am rfl dd_overlap_9 rfl rfl
    · intro j8 hj8
      refine ji_if_eq (q := 4) (g := 8) am dd_overlap_1 rfl rfl ?_ ?_
      · exact ji_sub (lv' := []) [] rfl (hj8 _)
      · refine ji_iload_n (q := 5) am dd_overlap_4 rfl 2 rfl rfl ?_
        refine ji_if_ne (q := 8) (g := 10) am dd_overlap_5 rfl rfl ?_ ?_
        · refine ji_iload_n (q := 11) am dd_overlap_10 rfl 1 rfl rfl ?_
          refine ji_iconst (q := 12) am dd_overlap_11 ki_1 rfl ?_
          refine ji_jn2 (fun j => ∀ (u22 : Unit), jj_J z 8 22 [(0, .ref (ad_ z 1)), (1, .int a1), (2, .int a2), (3, .int a3), (4, .int a4)] [] (s, t, o) (q_IS z t o) (j u22)) ?_ ?_
          · intro u22
            refine ji_iload (q := 24) am dd_overlap_22 4 rfl rfl ?_
            refine ji_bipush (q := 26) am dd_overlap_24 kb_8 rfl ?_
            refine ji_icmp_lt (q := 29) (g := 31) am dd_overlap_26 rfl rfl ?_ ?_
            · refine ji_aload_n (q := 32) am dd_overlap_31 rfl 0 rfl rfl ?_
              refine ji_aload_n (q := 33) am dd_overlap_32 rfl 0 rfl rfl ?_
              refine ji_get_D_label (q := 36) am dd_overlap_33 rfl ?_
              refine ji_iload_n (q := 37) am dd_overlap_36 rfl 1 rfl rfl ?_
              refine ji_ald_D3 (q := 38) am dd_overlap_37 rfl ?_
              intro v37
              refine ji_aload_n (q := 39) am dd_overlap_38 rfl 0 rfl rfl ?_
              refine ji_get_D_label (q := 42) am dd_overlap_39 rfl ?_
              refine ji_iload_n (q := 43) am dd_overlap_42 rfl 2 rfl rfl ?_
              refine ji_ald_D3 (q := 44) am dd_overlap_43 rfl ?_
              intro v43
              refine jk_I (q := 47) (rest := []) (fun r hF => jr_V [.int v37, .int v43] am ln_D_d_upper (ctd_upper _ _ hF) (by omega) (rc_D am) rfl rfl (Nat.le_of_ble_eq_true rfl) dd_overlap_44) rfl ?_
              intro r44
              refine ji_istore (lv' := [(0, .ref (ad_ z 1)), (1, .int a1), (2, .int a2), (3, .int a3), (4, .int a4), (5, .int r44)]) (q := 49) am dd_overlap_47 [1, 2, 3, 4, 5, 0] rfl rfl rfl ?_
              refine ji_aload_n (q := 50) am dd_overlap_49 rfl 0 rfl rfl ?_
              refine ji_aload_n (q := 51) am dd_overlap_50 rfl 0 rfl rfl ?_
              refine ji_iload_n (q := 52) am dd_overlap_51 rfl 1 rfl rfl ?_
              refine ji_iload (q := 54) am dd_overlap_52 5 rfl rfl ?_
              refine jk_I (q := 57) (rest := [.ref (ad_ z 1)]) (fun r hF => jr_V [.int a1, .int r44] am ln_D_d_offWay (ctd_offWay _ _ hF) (by omega) (rc_D am) rfl rfl (Nat.le_of_ble_eq_true rfl) dd_overlap_54) rfl ?_
              intro r54
              refine ji_aload_n (q := 58) am dd_overlap_57 rfl 0 rfl rfl ?_
              refine ji_iload_n (q := 59) am dd_overlap_58 rfl 2 rfl rfl ?_
              refine ji_iload (q := 61) am dd_overlap_59 5 rfl rfl ?_
              refine jk_I (q := 64) (rest := [.int r54, .ref (ad_ z 1)]) (fun r hF => jr_V [.int a2, .int r44] am ln_D_d_offWay (ctd_offWay _ _ hF) (by omega) (rc_D am) rfl rfl (Nat.le_of_ble_eq_true rfl) dd_overlap_61) rfl ?_
              intro r61
              refine ji_iload_n (q := 65) am dd_overlap_64 rfl 3 rfl rfl ?_
              refine ji_iload (q := 67) am dd_overlap_65 4 rfl rfl ?_
              refine ji_iconst (q := 68) am dd_overlap_67 ki_1 rfl ?_
              refine ji_iadd (q := 69) am dd_overlap_68 rfl ?_
              refine jk_IS (q := 72) (rest := []) (fun r s2 hF => jr_V [.int r54, .int r61, .int a3, .int (a4 + (1 : Int32))] am ln_D_d_overlap (ih _ _ _ _ _ _ _ hF) (by omega) (rc_D am) rfl rfl (Nat.le_of_ble_eq_true rfl) dd_overlap_69) rfl ?_
              intro r69 s69
              refine ji_istore (lv' := [(0, .ref (ad_ z 1)), (1, .int a1), (2, .int a2), (3, .int a3), (4, .int a4), (5, .int r44), (6, .int r69)]) (q := 74) am dd_overlap_72 [1, 2, 3, 4, 5, 6, 0] rfl rfl rfl ?_
              refine ji_aload_n (q := 75) am dd_overlap_74 rfl 0 rfl rfl ?_
              refine ji_aload_n (q := 76) am dd_overlap_75 rfl 0 rfl rfl ?_
              refine ji_iload_n (q := 77) am dd_overlap_76 rfl 1 rfl rfl ?_
              refine ji_iload (q := 79) am dd_overlap_77 5 rfl rfl ?_
              refine jk_I (q := 82) (rest := [.ref (ad_ z 1)]) (fun r hF => jr_V [.int a1, .int r44] am ln_D_d_onWay (ctd_onWay _ _ hF) (by omega) (rc_D am) rfl rfl (Nat.le_of_ble_eq_true rfl) dd_overlap_79) rfl ?_
              intro r79
              refine ji_aload_n (q := 83) am dd_overlap_82 rfl 0 rfl rfl ?_
              refine ji_iload_n (q := 84) am dd_overlap_83 rfl 2 rfl rfl ?_
              refine ji_iload (q := 86) am dd_overlap_84 5 rfl rfl ?_
              refine jk_I (q := 89) (rest := [.int r79, .ref (ad_ z 1)]) (fun r hF => jr_V [.int a2, .int r44] am ln_D_d_onWay (ctd_onWay _ _ hF) (by omega) (rc_D am) rfl rfl (Nat.le_of_ble_eq_true rfl) dd_overlap_86) rfl ?_
              intro r86
              refine ji_iload_n (q := 90) am dd_overlap_89 rfl 3 rfl rfl ?_
              refine ji_iload (q := 92) am dd_overlap_90 4 rfl rfl ?_
              refine ji_iconst (q := 93) am dd_overlap_92 ki_1 rfl ?_
              refine ji_iadd (q := 94) am dd_overlap_93 rfl ?_
              refine jk_IS (q := 97) (rest := []) (fun r s2 hF => jr_V [.int r79, .int r86, .int a3, .int (a4 + (1 : Int32))] am ln_D_d_overlap (ih _ _ _ _ _ _ _ hF) (by omega) (rc_D am) rfl rfl (Nat.le_of_ble_eq_true rfl) dd_overlap_94) rfl ?_
              intro r94 s94
              refine ji_istore (lv' := [(0, .ref (ad_ z 1)), (1, .int a1), (2, .int a2), (3, .int a3), (4, .int a4), (5, .int r44), (6, .int r69), (7, .int r94)]) (q := 99) am dd_overlap_97 [1, 2, 3, 4, 5, 6, 7, 0] rfl rfl rfl ?_
              refine ji_iload_n (q := 100) am dd_overlap_99 rfl 3 rfl rfl ?_
              refine ji_iload (q := 102) am dd_overlap_100 5 rfl rfl ?_
              refine ji_ishr (q := 103) am dd_overlap_102 rfl ?_
              refine ji_iconst (q := 104) am dd_overlap_103 ki_1 rfl ?_
              refine ji_iand (q := 105) am dd_overlap_104 rfl ?_
              refine ji_jn2 (fun j => ∀ (y0_132 : Int32) (s_132 : wt_S), jj_J z 8 132 [] [.int y0_132] (s_132, t, o) (q_IS z t o) (j y0_132 s_132)) ?_ ?_
              · intro y0_132 s_132
                exact ji_iret am rfl dd_overlap_132 rfl rfl
              · intro j132 hj132
                refine ji_if_ne (q := 108) (g := 121) am dd_overlap_105 rfl rfl ?_ ?_
                · refine ji_aload_n (q := 122) am dd_overlap_121 rfl 0 rfl rfl ?_
                  refine ji_bipush (q := 124) am dd_overlap_122 kb_14 rfl ?_
                  refine ji_iload (q := 126) am dd_overlap_124 6 rfl rfl ?_
                  refine ji_iload (q := 128) am dd_overlap_126 7 rfl rfl ?_
                  refine ji_iconst (q := 129) am dd_overlap_128 ki_0 rfl ?_
                  refine jk_IS (q := 132) (rest := []) (fun r s2 hF => jr_V [.int (14 : Int32), .int r69, .int r94, .int (0 : Int32)] am ln_D_d_join (ctd_join t o 9 _ _ _ _ _ _ _ hF) (by omega) (rc_D am) rfl rfl (Nat.le_of_ble_eq_true rfl) dd_overlap_129) rfl ?_
                  intro r129 s129
                  exact ji_sub (lv' := []) [] rfl (hj132 _ _)
                · refine ji_aload_n (q := 109) am dd_overlap_108 rfl 0 rfl rfl ?_
                  refine ji_iload (q := 111) am dd_overlap_109 5 rfl rfl ?_
                  refine ji_iload (q := 113) am dd_overlap_111 6 rfl rfl ?_
                  refine ji_iload (q := 115) am dd_overlap_113 7 rfl rfl ?_
                  refine jk_IS (q := 118) (rest := []) (fun r s2 hF => jr_V [.int r44, .int r69, .int r94] am ln_D_d_node (ctd_node _ _ hF) (by omega) (rc_D am) rfl rfl (Nat.le_of_ble_eq_true rfl) dd_overlap_115) rfl ?_
                  intro r115 s115
                  refine ji_goto (q := 132) am dd_overlap_118 rfl ?_
                  exact ji_sub (lv' := []) [] rfl (hj132 _ _)
            · refine ji_iconst (q := 30) am dd_overlap_29 ki_0 rfl ?_
              exact ji_iret am rfl dd_overlap_30 rfl rfl
          · intro j22 hj22
            refine ji_icmp_ne (q := 15) (g := 22) am dd_overlap_12 rfl rfl ?_ ?_
            · exact hj22 _
            · refine ji_iload_n (q := 16) am dd_overlap_15 rfl 2 rfl rfl ?_
              refine ji_iconst (q := 17) am dd_overlap_16 ki_1 rfl ?_
              refine ji_icmp_ne (q := 20) (g := 22) am dd_overlap_17 rfl rfl ?_ ?_
              · exact hj22 _
              · refine ji_iconst (q := 21) am dd_overlap_20 ki_1 rfl ?_
                exact ji_iret am rfl dd_overlap_21 rfl rfl
        · exact ji_sub (lv' := []) [] rfl (hj8 _)

theorem dd_mirror_0 : decode bd_mirror 0 = .ok (.iload_n 1, 1) := by decide +kernel
theorem dd_mirror_1 : decode bd_mirror 1 = .ok (.iconst 1, 1) := by decide +kernel
theorem dd_mirror_2 : decode bd_mirror 2 = .ok (.if_icmp .le 9, 3) := by decide +kernel
theorem dd_mirror_5 : decode bd_mirror 5 = .ok (.iload_n 2, 1) := by decide +kernel
theorem dd_mirror_6 : decode bd_mirror 6 = .ok (.bipush 8, 2) := by decide +kernel
theorem dd_mirror_8 : decode bd_mirror 8 = .ok (.if_icmp .lt 5, 3) := by decide +kernel
theorem dd_mirror_11 : decode bd_mirror 11 = .ok (.iload_n 1, 1) := by decide +kernel
theorem dd_mirror_12 : decode bd_mirror 12 = .ok (.ireturn, 1) := by decide +kernel
theorem dd_mirror_13 : decode bd_mirror 13 = .ok (.aload_n 0, 1) := by decide +kernel
theorem dd_mirror_14 : decode bd_mirror 14 = .ok (.aload_n 0, 1) := by decide +kernel
theorem dd_mirror_15 : decode bd_mirror 15 = .ok (.getfield 24, 3) := by decide +kernel
theorem dd_mirror_18 : decode bd_mirror 18 = .ok (.iload_n 1, 1) := by decide +kernel
theorem dd_mirror_19 : decode bd_mirror 19 = .ok (.iaload, 1) := by decide +kernel
theorem dd_mirror_20 : decode bd_mirror 20 = .ok (.iload_n 2, 1) := by decide +kernel
theorem dd_mirror_21 : decode bd_mirror 21 = .ok (.iconst 1, 1) := by decide +kernel
theorem dd_mirror_22 : decode bd_mirror 22 = .ok (.iadd, 1) := by decide +kernel
theorem dd_mirror_23 : decode bd_mirror 23 = .ok (.invokevirtual 87, 3) := by decide +kernel
theorem dd_mirror_26 : decode bd_mirror 26 = .ok (.istore_n 3, 1) := by decide +kernel
theorem dd_mirror_27 : decode bd_mirror 27 = .ok (.aload_n 0, 1) := by decide +kernel
theorem dd_mirror_28 : decode bd_mirror 28 = .ok (.aload_n 0, 1) := by decide +kernel
theorem dd_mirror_29 : decode bd_mirror 29 = .ok (.getfield 27, 3) := by decide +kernel
theorem dd_mirror_32 : decode bd_mirror 32 = .ok (.iload_n 1, 1) := by decide +kernel
theorem dd_mirror_33 : decode bd_mirror 33 = .ok (.iaload, 1) := by decide +kernel
theorem dd_mirror_34 : decode bd_mirror 34 = .ok (.iload_n 2, 1) := by decide +kernel
theorem dd_mirror_35 : decode bd_mirror 35 = .ok (.iconst 1, 1) := by decide +kernel
theorem dd_mirror_36 : decode bd_mirror 36 = .ok (.iadd, 1) := by decide +kernel
theorem dd_mirror_37 : decode bd_mirror 37 = .ok (.invokevirtual 87, 3) := by decide +kernel
theorem dd_mirror_40 : decode bd_mirror 40 = .ok (.istore 4, 2) := by decide +kernel
theorem dd_mirror_42 : decode bd_mirror 42 = .ok (.aload_n 0, 1) := by decide +kernel
theorem dd_mirror_43 : decode bd_mirror 43 = .ok (.aload_n 0, 1) := by decide +kernel
theorem dd_mirror_44 : decode bd_mirror 44 = .ok (.aload_n 0, 1) := by decide +kernel
theorem dd_mirror_45 : decode bd_mirror 45 = .ok (.getfield 21, 3) := by decide +kernel
theorem dd_mirror_48 : decode bd_mirror 48 = .ok (.iload_n 1, 1) := by decide +kernel
theorem dd_mirror_49 : decode bd_mirror 49 = .ok (.iaload, 1) := by decide +kernel
theorem dd_mirror_50 : decode bd_mirror 50 = .ok (.iconst 1, 1) := by decide +kernel
theorem dd_mirror_51 : decode bd_mirror 51 = .ok (.ixor, 1) := by decide +kernel
theorem dd_mirror_52 : decode bd_mirror 52 = .ok (.iconst 0, 1) := by decide +kernel
theorem dd_mirror_53 : decode bd_mirror 53 = .ok (.iconst 1, 1) := by decide +kernel
theorem dd_mirror_54 : decode bd_mirror 54 = .ok (.invokevirtual 59, 3) := by decide +kernel
theorem dd_mirror_57 : decode bd_mirror 57 = .ok (.iload 4, 2) := by decide +kernel
theorem dd_mirror_59 : decode bd_mirror 59 = .ok (.iload_n 3, 1) := by decide +kernel
theorem dd_mirror_60 : decode bd_mirror 60 = .ok (.iconst 0, 1) := by decide +kernel
theorem dd_mirror_61 : decode bd_mirror 61 = .ok (.invokevirtual 77, 3) := by decide +kernel
theorem dd_mirror_64 : decode bd_mirror 64 = .ok (.ireturn, 1) := by decide +kernel
set_option maxHeartbeats 4000000 in
set_option maxRecDepth 100000 in
theorem ctd_mirror {v : wt_V} (t : wt_M) (o : Nat → Int64) : ∀ (n : Nat) (s : wt_S) (a1 : Int32) (a2 : Int32) (r : Int32) (s2 : wt_S), fd_mirror n s a1 a2 = some (r, s2) → ct_C v yd_mirror (Cond.code yd_mirror bd_mirror 5 (some .int)) (n + 11) [.ref (v.2.1 1), .int a1, .int a2] (some (.int r)) (s, t, o) (s2, t, o) := by
  intro n
  induction n with
  | zero =>
    intro s a1 a2 r s2 hF
    cases (show (none : Option (Int32 × wt_S)) = some _ from hF)
  | succ n ih =>
    intro s a1 a2 r s2 hF
    refine ct_of (lv := [(0, .ref (v.2.1 1)), (1, .int a1), (2, .int a2)]) (fun r : Int32 × wt_S => some (.int r.1)) (fun r => (r.2, t, o)) (by decide) (Nat.le_of_ble_eq_true rfl) rfl ?_ (r, s2) hF
    intro z hz am
    subst hz
    have am : wt_Am z R_D bd_mirror 5 (n + 1 + 11) (some .int) := am
    show jj_J z 5 0 [(0, .ref (ad_ z 1)), (1, .int a1), (2, .int a2)] [] (s, t, o) (q_IS z t o) (fd_mirror (n + 1) s a1 a2)
    rw [fd_mirror]
    refine ji_iload_n (q := 1) am dd_mirror_0 rfl 1 rfl rfl ?_
    refine ji_iconst (q := 2) am dd_mirror_1 ki_1 rfl ?_
    refine ji_jn2 (fun j => ∀ (u11 : Unit), jj_J z 5 11 [(1, .int a1)] [] (s, t, o) (q_IS z t o) (j u11)) ?_ ?_
    · intro u11
      refine ji_iload_n (q := 12) am dd_mirror_11 rfl 0 rfl rfl ?_
      exact ji_iret am rfl dd_mirror_12 rfl rfl
    · intro j11 hj11
      refine ji_icmp_le (q := 5) (g := 11) am dd_mirror_2 rfl rfl ?_ ?_
      · exact ji_sub (lv' := [(1, .int a1)]) [1] rfl (hj11 _)
      · refine ji_iload_n (q := 6) am dd_mirror_5 rfl 2 rfl rfl ?_
        refine ji_bipush (q := 8) am dd_mirror_6 kb_8 rfl ?_
        refine ji_icmp_lt (q := 11) (g := 13) am dd_mirror_8 rfl rfl ?_ ?_
        · refine ji_aload_n (q := 14) am dd_mirror_13 rfl 0 rfl rfl ?_
          refine ji_aload_n (q := 15) am dd_mirror_14 rfl 0 rfl rfl ?_
          refine ji_get_D_low (q := 18) am dd_mirror_15 rfl ?_
          refine ji_iload_n (q := 19) am dd_mirror_18 rfl 1 rfl rfl ?_
          refine ji_ald_D4 (q := 20) am dd_mirror_19 rfl ?_
          intro v19
          refine ji_iload_n (q := 21) am dd_mirror_20 rfl 2 rfl rfl ?_
          refine ji_iconst (q := 22) am dd_mirror_21 ki_1 rfl ?_
          refine ji_iadd (q := 23) am dd_mirror_22 rfl ?_
          refine jk_IS (q := 26) (rest := []) (fun r s2 hF => jr_V [.int v19, .int (a2 + (1 : Int32))] am ln_D_d_mirror (ih _ _ _ _ _ hF) (by omega) (rc_D am) rfl rfl (Nat.le_of_ble_eq_true rfl) dd_mirror_23) rfl ?_
          intro r23 s23
          refine ji_istore_n (lv' := [(0, .ref (ad_ z 1)), (1, .int a1), (2, .int a2), (3, .int r23)]) (q := 27) am dd_mirror_26 rfl [1, 2, 3, 0] rfl rfl rfl ?_
          refine ji_aload_n (q := 28) am dd_mirror_27 rfl 0 rfl rfl ?_
          refine ji_aload_n (q := 29) am dd_mirror_28 rfl 0 rfl rfl ?_
          refine ji_get_D_high (q := 32) am dd_mirror_29 rfl ?_
          refine ji_iload_n (q := 33) am dd_mirror_32 rfl 1 rfl rfl ?_
          refine ji_ald_D5 (q := 34) am dd_mirror_33 rfl ?_
          intro v33
          refine ji_iload_n (q := 35) am dd_mirror_34 rfl 2 rfl rfl ?_
          refine ji_iconst (q := 36) am dd_mirror_35 ki_1 rfl ?_
          refine ji_iadd (q := 37) am dd_mirror_36 rfl ?_
          refine jk_IS (q := 40) (rest := []) (fun r s2 hF => jr_V [.int v33, .int (a2 + (1 : Int32))] am ln_D_d_mirror (ih _ _ _ _ _ hF) (by omega) (rc_D am) rfl rfl (Nat.le_of_ble_eq_true rfl) dd_mirror_37) rfl ?_
          intro r37 s37
          refine ji_istore (lv' := [(0, .ref (ad_ z 1)), (1, .int a1), (2, .int a2), (3, .int r23), (4, .int r37)]) (q := 42) am dd_mirror_40 [1, 2, 3, 4, 0] rfl rfl rfl ?_
          refine ji_aload_n (q := 43) am dd_mirror_42 rfl 0 rfl rfl ?_
          refine ji_aload_n (q := 44) am dd_mirror_43 rfl 0 rfl rfl ?_
          refine ji_aload_n (q := 45) am dd_mirror_44 rfl 0 rfl rfl ?_
          refine ji_get_D_label (q := 48) am dd_mirror_45 rfl ?_
          refine ji_iload_n (q := 49) am dd_mirror_48 rfl 1 rfl rfl ?_
          refine ji_ald_D3 (q := 50) am dd_mirror_49 rfl ?_
          intro v49
          refine ji_iconst (q := 51) am dd_mirror_50 ki_1 rfl ?_
          refine ji_ixor (q := 52) am dd_mirror_51 rfl ?_
          refine ji_iconst (q := 53) am dd_mirror_52 ki_0 rfl ?_
          refine ji_iconst (q := 54) am dd_mirror_53 ki_1 rfl ?_
          refine jk_IS (q := 57) (rest := [.ref (ad_ z 1)]) (fun r s2 hF => jr_V [.int (v49 ^^^ (1 : Int32)), .int (0 : Int32), .int (1 : Int32)] am ln_D_d_node (ctd_node _ _ hF) (by omega) (rc_D am) rfl rfl (Nat.le_of_ble_eq_true rfl) dd_mirror_54) rfl ?_
          intro r54 s54
          refine ji_iload (q := 59) am dd_mirror_57 4 rfl rfl ?_
          refine ji_iload_n (q := 60) am dd_mirror_59 rfl 3 rfl rfl ?_
          refine ji_iconst (q := 61) am dd_mirror_60 ki_0 rfl ?_
          refine jk_IS (q := 64) (rest := []) (fun r s2 hF => jr_V [.int r54, .int r37, .int r23, .int (0 : Int32)] am ln_D_d_pick (ctd_pick t o 9 _ _ _ _ _ _ _ hF) (by omega) (rc_D am) rfl rfl (Nat.le_of_ble_eq_true rfl) dd_mirror_61) rfl ?_
          intro r61 s61
          exact ji_iret am rfl dd_mirror_64 rfl rfl
        · exact ji_sub (lv' := [(1, .int a1)]) [1] rfl (hj11 _)

theorem dd_value_0 : decode bd_value 0 = .ok (.iload_n 1, 1) := by decide +kernel
theorem dd_value_1 : decode bd_value 1 = .ok (.istore_n 3, 1) := by decide +kernel
theorem dd_value_2 : decode bd_value 2 = .ok (.iconst 0, 1) := by decide +kernel
theorem dd_value_3 : decode bd_value 3 = .ok (.istore 4, 2) := by decide +kernel
theorem dd_value_5 : decode bd_value 5 = .ok (.iload 4, 2) := by decide +kernel
theorem dd_value_7 : decode bd_value 7 = .ok (.bipush 8, 2) := by decide +kernel
theorem dd_value_9 : decode bd_value 9 = .ok (.if_icmp .ge 43, 3) := by decide +kernel
theorem dd_value_12 : decode bd_value 12 = .ok (.iload_n 3, 1) := by decide +kernel
theorem dd_value_13 : decode bd_value 13 = .ok (.iconst 1, 1) := by decide +kernel
theorem dd_value_14 : decode bd_value 14 = .ok (.if_icmp .le 38, 3) := by decide +kernel
theorem dd_value_17 : decode bd_value 17 = .ok (.iload_n 2, 1) := by decide +kernel
theorem dd_value_18 : decode bd_value 18 = .ok (.aload_n 0, 1) := by decide +kernel
theorem dd_value_19 : decode bd_value 19 = .ok (.getfield 21, 3) := by decide +kernel
theorem dd_value_22 : decode bd_value 22 = .ok (.iload_n 3, 1) := by decide +kernel
theorem dd_value_23 : decode bd_value 23 = .ok (.iaload, 1) := by decide +kernel
theorem dd_value_24 : decode bd_value 24 = .ok (.ishr, 1) := by decide +kernel
theorem dd_value_25 : decode bd_value 25 = .ok (.iconst 1, 1) := by decide +kernel
theorem dd_value_26 : decode bd_value 26 = .ok (.iand, 1) := by decide +kernel
theorem dd_value_27 : decode bd_value 27 = .ok (.ifCond .ne 12, 3) := by decide +kernel
theorem dd_value_30 : decode bd_value 30 = .ok (.aload_n 0, 1) := by decide +kernel
theorem dd_value_31 : decode bd_value 31 = .ok (.getfield 24, 3) := by decide +kernel
theorem dd_value_34 : decode bd_value 34 = .ok (.iload_n 3, 1) := by decide +kernel
theorem dd_value_35 : decode bd_value 35 = .ok (.iaload, 1) := by decide +kernel
theorem dd_value_36 : decode bd_value 36 = .ok (.goto 9, 3) := by decide +kernel
theorem dd_value_39 : decode bd_value 39 = .ok (.aload_n 0, 1) := by decide +kernel
theorem dd_value_40 : decode bd_value 40 = .ok (.getfield 27, 3) := by decide +kernel
theorem dd_value_43 : decode bd_value 43 = .ok (.iload_n 3, 1) := by decide +kernel
theorem dd_value_44 : decode bd_value 44 = .ok (.iaload, 1) := by decide +kernel
theorem dd_value_45 : decode bd_value 45 = .ok (.istore_n 3, 1) := by decide +kernel
theorem dd_value_46 : decode bd_value 46 = .ok (.iinc 4 1, 3) := by decide +kernel
theorem dd_value_49 : decode bd_value 49 = .ok (.goto (-44), 3) := by decide +kernel
theorem dd_value_52 : decode bd_value 52 = .ok (.iload_n 3, 1) := by decide +kernel
theorem dd_value_53 : decode bd_value 53 = .ok (.iconst 1, 1) := by decide +kernel
theorem dd_value_54 : decode bd_value 54 = .ok (.if_icmp .ne 7, 3) := by decide +kernel
theorem dd_value_57 : decode bd_value 57 = .ok (.iconst 1, 1) := by decide +kernel
theorem dd_value_58 : decode bd_value 58 = .ok (.goto 4, 3) := by decide +kernel
theorem dd_value_61 : decode bd_value 61 = .ok (.iconst 0, 1) := by decide +kernel
theorem dd_value_62 : decode bd_value 62 = .ok (.ireturn, 1) := by decide +kernel
set_option maxHeartbeats 4000000 in
set_option maxRecDepth 100000 in
theorem ld_value_5 {z : wt_Z} {s : wt_S} {t : wt_M} {o : Nat → Int64} {c2 : Int32} {K : Int32 → Option (Int32)} (am : wt_Am z R_D bd_value 5 1 (some .boolean)) (hK : ∀ (e3 : Int32), jj_J z 5 52 [(3, .int e3)] [] (s, t, o) (q_I z s t o) (K e3)) : ∀ (n : Nat) (x3 : Int32) (x4 : Int32), jj_J z 5 5 [(0, .ref (ad_ z 1)), (2, .int c2), (3, .int x3), (4, .int x4)] [] (s, t, o) (q_I z s t o) (fd_value_L5 s c2 K n x3 x4) := by
  intro n
  induction n with
  | zero =>
    intro x3 x4
    exact ji_none
  | succ n ih =>
    intro x3 x4
    rw [fd_value_L5]
    refine ji_iload (q := 7) am dd_value_5 3 rfl rfl ?_
    refine ji_bipush (q := 9) am dd_value_7 kb_8 rfl ?_
    refine ji_icmp_ge (q := 12) (g := 52) am dd_value_9 rfl rfl ?_ ?_
    · exact ji_sub (lv' := [(3, .int x3)]) [2] rfl (hK _)
    · refine ji_iload_n (q := 13) am dd_value_12 rfl 2 rfl rfl ?_
      refine ji_iconst (q := 14) am dd_value_13 ki_1 rfl ?_
      refine ji_icmp_le (q := 17) (g := 52) am dd_value_14 rfl rfl ?_ ?_
      · exact ji_sub (lv' := [(3, .int x3)]) [2] rfl (hK _)
      · refine ji_iload_n (q := 18) am dd_value_17 rfl 1 rfl rfl ?_
        refine ji_aload_n (q := 19) am dd_value_18 rfl 0 rfl rfl ?_
        refine ji_get_D_label (q := 22) am dd_value_19 rfl ?_
        refine ji_iload_n (q := 23) am dd_value_22 rfl 2 rfl rfl ?_
        refine ji_ald_D3 (q := 24) am dd_value_23 rfl ?_
        intro v23
        refine ji_ishr (q := 25) am dd_value_24 rfl ?_
        refine ji_iconst (q := 26) am dd_value_25 ki_1 rfl ?_
        refine ji_iand (q := 27) am dd_value_26 rfl ?_
        refine ji_jn2 (fun j => ∀ (y0_45 : Int32), jj_J z 5 45 [(0, .ref (ad_ z 1)), (2, .int c2), (4, .int x4)] [.int y0_45] (s, t, o) (q_I z s t o) (j y0_45)) ?_ ?_
        · intro y0_45
          refine ji_istore_n (lv' := [(0, .ref (ad_ z 1)), (2, .int c2), (3, .int y0_45), (4, .int x4)]) (q := 46) am dd_value_45 rfl [1, 2, 0, 3] rfl rfl rfl ?_
          refine ji_iinc (q := 49) (lv' := [(0, .ref (ad_ z 1)), (2, .int c2), (3, .int y0_45), (4, .int (x4 + 1))]) am dd_value_46 3 rfl ki_1 [1, 2, 3, 0] rfl rfl rfl ?_
          refine ji_goto (q := 5) am dd_value_49 rfl ?_
          exact ih _ _
        · intro j45 hj45
          refine ji_if_ne (q := 30) (g := 39) am dd_value_27 rfl rfl ?_ ?_
          · refine ji_aload_n (q := 40) am dd_value_39 rfl 0 rfl rfl ?_
            refine ji_get_D_high (q := 43) am dd_value_40 rfl ?_
            refine ji_iload_n (q := 44) am dd_value_43 rfl 2 rfl rfl ?_
            refine ji_ald_D5 (q := 45) am dd_value_44 rfl ?_
            intro v44
            exact ji_sub (lv' := [(0, .ref (ad_ z 1)), (2, .int c2), (4, .int x4)]) [0, 1, 3] rfl (hj45 _)
          · refine ji_aload_n (q := 31) am dd_value_30 rfl 0 rfl rfl ?_
            refine ji_get_D_low (q := 34) am dd_value_31 rfl ?_
            refine ji_iload_n (q := 35) am dd_value_34 rfl 2 rfl rfl ?_
            refine ji_ald_D4 (q := 36) am dd_value_35 rfl ?_
            intro v35
            refine ji_goto (q := 45) am dd_value_36 rfl ?_
            exact ji_sub (lv' := [(0, .ref (ad_ z 1)), (2, .int c2), (4, .int x4)]) [0, 1, 3] rfl (hj45 _)
set_option maxHeartbeats 4000000 in
set_option maxRecDepth 100000 in
theorem ctd_value {v : wt_V} {s : wt_S} {a1 : Int32} {a2 : Int32} {r : Int32} (t : wt_M) (o : Nat → Int64) (hF : fd_value s a1 a2 = some r) : ct_C v yd_value (Cond.code yd_value bd_value 5 (some .boolean)) 1 [.ref (v.2.1 1), .int a1, .int a2] (some (.int r)) (s, t, o) (s, t, o) := by
  refine ct_of (lv := [(0, .ref (v.2.1 1)), (1, .int a1), (2, .int a2)]) (fun r : Int32 => some (.int r)) (fun _ => (s, t, o)) (by decide) (Nat.le_of_ble_eq_true rfl) rfl ?_ r hF
  intro z hz am
  subst hz
  have am : wt_Am z R_D bd_value 5 1 (some .boolean) := am
  show jj_J z 5 0 [(0, .ref (ad_ z 1)), (1, .int a1), (2, .int a2)] [] (s, t, o) (q_I z s t o) (fd_value s a1 a2)
  unfold fd_value
  refine ji_iload_n (q := 1) am dd_value_0 rfl 1 rfl rfl ?_
  refine ji_istore_n (lv' := [(0, .ref (ad_ z 1)), (1, .int a1), (2, .int a2), (3, .int a1)]) (q := 2) am dd_value_1 rfl [1, 2, 3, 0] rfl rfl rfl ?_
  refine ji_iconst (q := 3) am dd_value_2 ki_0 rfl ?_
  refine ji_istore (lv' := [(0, .ref (ad_ z 1)), (1, .int a1), (2, .int a2), (3, .int a1), (4, .int (0 : Int32))]) (q := 5) am dd_value_3 [1, 2, 3, 4, 0] rfl rfl rfl ?_
  refine ji_sub (lv' := [(0, .ref (ad_ z 1)), (2, .int a2), (3, .int a1), (4, .int (0 : Int32))]) [0, 2, 3, 4] rfl (ld_value_5 am (fun z3_5 => ?_) 5000 _ _)
  refine ji_iload_n (q := 53) am dd_value_52 rfl 0 rfl rfl ?_
  refine ji_iconst (q := 54) am dd_value_53 ki_1 rfl ?_
  refine ji_jn2 (fun j => ∀ (y0_62 : Int32), jj_J z 5 62 [] [.int y0_62] (s, t, o) (q_I z s t o) (j y0_62)) ?_ ?_
  · intro y0_62
    exact ji_zret am rfl dd_value_62 rfl rfl
  · intro j62 hj62
    refine ji_icmp_ne (q := 57) (g := 61) am dd_value_54 rfl rfl ?_ ?_
    · refine ji_iconst (q := 62) am dd_value_61 ki_0 rfl ?_
      exact ji_sub (lv' := []) [] rfl (hj62 _)
    · refine ji_iconst (q := 58) am dd_value_57 ki_1 rfl ?_
      refine ji_goto (q := 62) am dd_value_58 rfl ?_
      exact ji_sub (lv' := []) [] rfl (hj62 _)

theorem dd_weight_0 : decode bd_weight 0 = .ok (.iload_n 1, 1) := by decide +kernel
theorem dd_weight_1 : decode bd_weight 1 = .ok (.iconst 1, 1) := by decide +kernel
theorem dd_weight_2 : decode bd_weight 2 = .ok (.if_icmp .le 9, 3) := by decide +kernel
theorem dd_weight_5 : decode bd_weight 5 = .ok (.iload_n 2, 1) := by decide +kernel
theorem dd_weight_6 : decode bd_weight 6 = .ok (.bipush 8, 2) := by decide +kernel
theorem dd_weight_8 : decode bd_weight 8 = .ok (.if_icmp .lt 16, 3) := by decide +kernel
theorem dd_weight_11 : decode bd_weight 11 = .ok (.iload_n 1, 1) := by decide +kernel
theorem dd_weight_12 : decode bd_weight 12 = .ok (.iconst 1, 1) := by decide +kernel
theorem dd_weight_13 : decode bd_weight 13 = .ok (.if_icmp .ne 9, 3) := by decide +kernel
theorem dd_weight_16 : decode bd_weight 16 = .ok (.sipush 256, 3) := by decide +kernel
theorem dd_weight_19 : decode bd_weight 19 = .ok (.goto 4, 3) := by decide +kernel
theorem dd_weight_22 : decode bd_weight 22 = .ok (.iconst 0, 1) := by decide +kernel
theorem dd_weight_23 : decode bd_weight 23 = .ok (.ireturn, 1) := by decide +kernel
theorem dd_weight_24 : decode bd_weight 24 = .ok (.aload_n 0, 1) := by decide +kernel
theorem dd_weight_25 : decode bd_weight 25 = .ok (.aload_n 0, 1) := by decide +kernel
theorem dd_weight_26 : decode bd_weight 26 = .ok (.getfield 24, 3) := by decide +kernel
theorem dd_weight_29 : decode bd_weight 29 = .ok (.iload_n 1, 1) := by decide +kernel
theorem dd_weight_30 : decode bd_weight 30 = .ok (.iaload, 1) := by decide +kernel
theorem dd_weight_31 : decode bd_weight 31 = .ok (.iload_n 2, 1) := by decide +kernel
theorem dd_weight_32 : decode bd_weight 32 = .ok (.iconst 1, 1) := by decide +kernel
theorem dd_weight_33 : decode bd_weight 33 = .ok (.iadd, 1) := by decide +kernel
theorem dd_weight_34 : decode bd_weight 34 = .ok (.invokevirtual 90, 3) := by decide +kernel
theorem dd_weight_37 : decode bd_weight 37 = .ok (.aload_n 0, 1) := by decide +kernel
theorem dd_weight_38 : decode bd_weight 38 = .ok (.aload_n 0, 1) := by decide +kernel
theorem dd_weight_39 : decode bd_weight 39 = .ok (.getfield 27, 3) := by decide +kernel
theorem dd_weight_42 : decode bd_weight 42 = .ok (.iload_n 1, 1) := by decide +kernel
theorem dd_weight_43 : decode bd_weight 43 = .ok (.iaload, 1) := by decide +kernel
theorem dd_weight_44 : decode bd_weight 44 = .ok (.iload_n 2, 1) := by decide +kernel
theorem dd_weight_45 : decode bd_weight 45 = .ok (.iconst 1, 1) := by decide +kernel
theorem dd_weight_46 : decode bd_weight 46 = .ok (.iadd, 1) := by decide +kernel
theorem dd_weight_47 : decode bd_weight 47 = .ok (.invokevirtual 90, 3) := by decide +kernel
theorem dd_weight_50 : decode bd_weight 50 = .ok (.iadd, 1) := by decide +kernel
theorem dd_weight_51 : decode bd_weight 51 = .ok (.iconst 2, 1) := by decide +kernel
theorem dd_weight_52 : decode bd_weight 52 = .ok (.idiv, 1) := by decide +kernel
theorem dd_weight_53 : decode bd_weight 53 = .ok (.ireturn, 1) := by decide +kernel
set_option maxHeartbeats 4000000 in
set_option maxRecDepth 100000 in
theorem ctd_weight {v : wt_V} (t : wt_M) (o : Nat → Int64) : ∀ (n : Nat) (s : wt_S) (a1 : Int32) (a2 : Int32) (r : Int32), fd_weight n s a1 a2 = some r → ct_C v yd_weight (Cond.code yd_weight bd_weight 3 (some .int)) (n + 0) [.ref (v.2.1 1), .int a1, .int a2] (some (.int r)) (s, t, o) (s, t, o) := by
  intro n
  induction n with
  | zero =>
    intro s a1 a2 r hF
    cases (show (none : Option (Int32)) = some _ from hF)
  | succ n ih =>
    intro s a1 a2 r hF
    refine ct_of (lv := [(0, .ref (v.2.1 1)), (1, .int a1), (2, .int a2)]) (fun r : Int32 => some (.int r)) (fun _ => (s, t, o)) (by decide) (Nat.le_of_ble_eq_true rfl) rfl ?_ r hF
    intro z hz am
    subst hz
    have am : wt_Am z R_D bd_weight 3 (n + 1 + 0) (some .int) := am
    show jj_J z 3 0 [(0, .ref (ad_ z 1)), (1, .int a1), (2, .int a2)] [] (s, t, o) (q_I z s t o) (fd_weight (n + 1) s a1 a2)
    rw [fd_weight]
    refine ji_iload_n (q := 1) am dd_weight_0 rfl 1 rfl rfl ?_
    refine ji_iconst (q := 2) am dd_weight_1 ki_1 rfl ?_
    refine ji_jn2 (fun j => ∀ (u11 : Unit), jj_J z 3 11 [(1, .int a1)] [] (s, t, o) (q_I z s t o) (j u11)) ?_ ?_
    · intro u11
      refine ji_iload_n (q := 12) am dd_weight_11 rfl 0 rfl rfl ?_
      refine ji_iconst (q := 13) am dd_weight_12 ki_1 rfl ?_
      refine ji_jn2 (fun j => ∀ (y0_23 : Int32), jj_J z 3 23 [] [.int y0_23] (s, t, o) (q_I z s t o) (j y0_23)) ?_ ?_
      · intro y0_23
        exact ji_iret am rfl dd_weight_23 rfl rfl
      · intro j23 hj23
        refine ji_icmp_ne (q := 16) (g := 22) am dd_weight_13 rfl rfl ?_ ?_
        · refine ji_iconst (q := 23) am dd_weight_22 ki_0 rfl ?_
          exact ji_sub (lv' := []) [] rfl (hj23 _)
        · refine ji_sipush (q := 19) am dd_weight_16 ks_256 rfl ?_
          refine ji_goto (q := 23) am dd_weight_19 rfl ?_
          exact ji_sub (lv' := []) [] rfl (hj23 _)
    · intro j11 hj11
      refine ji_icmp_le (q := 5) (g := 11) am dd_weight_2 rfl rfl ?_ ?_
      · exact ji_sub (lv' := [(1, .int a1)]) [1] rfl (hj11 _)
      · refine ji_iload_n (q := 6) am dd_weight_5 rfl 2 rfl rfl ?_
        refine ji_bipush (q := 8) am dd_weight_6 kb_8 rfl ?_
        refine ji_icmp_lt (q := 11) (g := 24) am dd_weight_8 rfl rfl ?_ ?_
        · refine ji_aload_n (q := 25) am dd_weight_24 rfl 0 rfl rfl ?_
          refine ji_aload_n (q := 26) am dd_weight_25 rfl 0 rfl rfl ?_
          refine ji_get_D_low (q := 29) am dd_weight_26 rfl ?_
          refine ji_iload_n (q := 30) am dd_weight_29 rfl 1 rfl rfl ?_
          refine ji_ald_D4 (q := 31) am dd_weight_30 rfl ?_
          intro v30
          refine ji_iload_n (q := 32) am dd_weight_31 rfl 2 rfl rfl ?_
          refine ji_iconst (q := 33) am dd_weight_32 ki_1 rfl ?_
          refine ji_iadd (q := 34) am dd_weight_33 rfl ?_
          refine jk_I (q := 37) (rest := []) (fun r hF => jr_V [.int v30, .int (a2 + (1 : Int32))] am ln_D_d_weight (ih _ _ _ _ hF) (by omega) (rc_D am) rfl rfl (Nat.le_of_ble_eq_true rfl) dd_weight_34) rfl ?_
          intro r34
          refine ji_aload_n (q := 38) am dd_weight_37 rfl 0 rfl rfl ?_
          refine ji_aload_n (q := 39) am dd_weight_38 rfl 0 rfl rfl ?_
          refine ji_get_D_high (q := 42) am dd_weight_39 rfl ?_
          refine ji_iload_n (q := 43) am dd_weight_42 rfl 1 rfl rfl ?_
          refine ji_ald_D5 (q := 44) am dd_weight_43 rfl ?_
          intro v43
          refine ji_iload_n (q := 45) am dd_weight_44 rfl 2 rfl rfl ?_
          refine ji_iconst (q := 46) am dd_weight_45 ki_1 rfl ?_
          refine ji_iadd (q := 47) am dd_weight_46 rfl ?_
          refine jk_I (q := 50) (rest := [.int r34]) (fun r hF => jr_V [.int v43, .int (a2 + (1 : Int32))] am ln_D_d_weight (ih _ _ _ _ hF) (by omega) (rc_D am) rfl rfl (Nat.le_of_ble_eq_true rfl) dd_weight_47) rfl ?_
          intro r47
          refine ji_iadd (q := 51) am dd_weight_50 rfl ?_
          refine ji_iconst (q := 52) am dd_weight_51 ki_2 rfl ?_
          refine ji_idiv (q := 53) am dd_weight_52 (by decide) rfl ?_
          exact ji_iret am rfl dd_weight_53 rfl rfl
        · exact ji_sub (lv' := [(1, .int a1)]) [1] rfl (hj11 _)
