/-! Walks of M.swap, M.lay, M.place, M.sift, M.spread, M.isSet, M.statesOf, M.keepStates, M.learnSteps, M.imageOf, M.stepsTo, M.sizeOf: printed by my program out of the listing. -/
theorem dm_swap_0 : decode bm_swap 0 = .ok (.aload_n 0, 1) := by decide +kernel
theorem dm_swap_1 : decode bm_swap 1 = .ok (.iload_n 1, 1) := by decide +kernel
theorem dm_swap_2 : decode bm_swap 2 = .ok (.iconst 0, 1) := by decide +kernel
theorem dm_swap_3 : decode bm_swap 3 = .ok (.bipush 6, 2) := by decide +kernel
theorem dm_swap_5 : decode bm_swap 5 = .ok (.invokestatic 54, 3) := by decide +kernel
theorem dm_swap_8 : decode bm_swap 8 = .ok (.ifCond .eq 7, 3) := by decide +kernel
theorem dm_swap_11 : decode bm_swap 11 = .ok (.iconst 0, 1) := by decide +kernel
theorem dm_swap_12 : decode bm_swap 12 = .ok (.goto 4, 3) := by decide +kernel
theorem dm_swap_15 : decode bm_swap 15 = .ok (.iconst 1, 1) := by decide +kernel
theorem dm_swap_16 : decode bm_swap 16 = .ok (.putfield 50, 3) := by decide +kernel
theorem dm_swap_19 : decode bm_swap 19 = .ok (.aload_n 0, 1) := by decide +kernel
theorem dm_swap_20 : decode bm_swap 20 = .ok (.getfield 50, 3) := by decide +kernel
theorem dm_swap_23 : decode bm_swap 23 = .ok (.ifCond .le 5, 3) := by decide +kernel
theorem dm_swap_26 : decode bm_swap 26 = .ok (.iconst 0, 1) := by decide +kernel
theorem dm_swap_27 : decode bm_swap 27 = .ok (.ireturn, 1) := by decide +kernel
theorem dm_swap_28 : decode bm_swap 28 = .ok (.aload_n 0, 1) := by decide +kernel
theorem dm_swap_29 : decode bm_swap 29 = .ok (.getfield 13, 3) := by decide +kernel
theorem dm_swap_32 : decode bm_swap 32 = .ok (.iload_n 1, 1) := by decide +kernel
theorem dm_swap_33 : decode bm_swap 33 = .ok (.iaload, 1) := by decide +kernel
theorem dm_swap_34 : decode bm_swap 34 = .ok (.istore_n 2, 1) := by decide +kernel
theorem dm_swap_35 : decode bm_swap 35 = .ok (.aload_n 0, 1) := by decide +kernel
theorem dm_swap_36 : decode bm_swap 36 = .ok (.getfield 13, 3) := by decide +kernel
theorem dm_swap_39 : decode bm_swap 39 = .ok (.iload_n 1, 1) := by decide +kernel
theorem dm_swap_40 : decode bm_swap 40 = .ok (.aload_n 0, 1) := by decide +kernel
theorem dm_swap_41 : decode bm_swap 41 = .ok (.getfield 13, 3) := by decide +kernel
theorem dm_swap_44 : decode bm_swap 44 = .ok (.iload_n 1, 1) := by decide +kernel
theorem dm_swap_45 : decode bm_swap 45 = .ok (.iconst 1, 1) := by decide +kernel
theorem dm_swap_46 : decode bm_swap 46 = .ok (.iadd, 1) := by decide +kernel
theorem dm_swap_47 : decode bm_swap 47 = .ok (.iaload, 1) := by decide +kernel
theorem dm_swap_48 : decode bm_swap 48 = .ok (.iastore, 1) := by decide +kernel
theorem dm_swap_49 : decode bm_swap 49 = .ok (.aload_n 0, 1) := by decide +kernel
theorem dm_swap_50 : decode bm_swap 50 = .ok (.getfield 13, 3) := by decide +kernel
theorem dm_swap_53 : decode bm_swap 53 = .ok (.iload_n 1, 1) := by decide +kernel
theorem dm_swap_54 : decode bm_swap 54 = .ok (.iconst 1, 1) := by decide +kernel
theorem dm_swap_55 : decode bm_swap 55 = .ok (.iadd, 1) := by decide +kernel
theorem dm_swap_56 : decode bm_swap 56 = .ok (.iload_n 2, 1) := by decide +kernel
theorem dm_swap_57 : decode bm_swap 57 = .ok (.iastore, 1) := by decide +kernel
theorem dm_swap_58 : decode bm_swap 58 = .ok (.aload_n 0, 1) := by decide +kernel
theorem dm_swap_59 : decode bm_swap 59 = .ok (.iconst 0, 1) := by decide +kernel
theorem dm_swap_60 : decode bm_swap 60 = .ok (.bipush 15, 2) := by decide +kernel
theorem dm_swap_62 : decode bm_swap 62 = .ok (.invokevirtual 110, 3) := by decide +kernel
theorem dm_swap_65 : decode bm_swap 65 = .ok (.ireturn, 1) := by decide +kernel
set_option maxHeartbeats 4000000 in
set_option maxRecDepth 100000 in
theorem ctm_swap {v : wt_V} {t : wt_M} {a1 : Int32} {r : Int32} {t2 : wt_M} (s : wt_S) (o : Nat → Int64) (hF : fm_swap t a1 = some (r, t2)) : ct_C v ym_swap (Cond.code ym_swap bm_swap 3 (some .int)) 3 [.ref (v.2.1 11), .int a1] (some (.int r)) (s, t, o) (s, t2, o) := by
  refine ct_of (lv := [(0, .ref (v.2.1 11)), (1, .int a1)]) (fun r : Int32 × wt_M => some (.int r.1)) (fun r => (s, r.2, o)) (by decide) (Nat.le_of_ble_eq_true rfl) rfl ?_ (r, t2) hF
  intro z hz am
  subst hz
  have am : wt_Am z R_M bm_swap 3 3 (some .int) := am
  show jj_J z 3 0 [(0, .ref (ad_ z 11)), (1, .int a1)] [] (s, t, o) (q_IT z s o) (fm_swap t a1)
  unfold fm_swap
  refine ji_aload_n (q := 1) am dm_swap_0 rfl 0 rfl rfl ?_
  refine ji_iload_n (q := 2) am dm_swap_1 rfl 1 rfl rfl ?_
  refine ji_iconst (q := 3) am dm_swap_2 ki_0 rfl ?_
  refine ji_bipush (q := 5) am dm_swap_3 kb_6 rfl ?_
  refine jk_I (q := 8) (rest := [.ref (ad_ z 11)]) (fun r hF => jr_S [.int a1, .int (0 : Int32), .int (6 : Int32)] am ln_M_m_in (ctm_in _ _ _ hF) (by omega) rfl rfl (Nat.le_of_ble_eq_true rfl) dm_swap_5) rfl ?_
  intro r5
  refine ji_jn2 (fun j => ∀ (y0_16 : Int32), jj_J z 3 16 [(0, .ref (ad_ z 11)), (1, .int a1)] [.int y0_16, .ref (ad_ z 11)] (s, t, o) (q_IT z s o) (j y0_16)) ?_ ?_
  · intro y0_16
    refine ji_put_M_code (q := 19) am dm_swap_16 rfl ?_
    intro t16
    refine ji_aload_n (q := 20) am dm_swap_19 rfl 0 rfl rfl ?_
    refine ji_get_M_code (q := 23) am dm_swap_20 rfl ?_
    refine ji_if_le (q := 26) (g := 28) am dm_swap_23 rfl rfl ?_ ?_
    · refine ji_aload_n (q := 29) am dm_swap_28 rfl 0 rfl rfl ?_
      refine ji_get_M_levels (q := 32) am dm_swap_29 rfl ?_
      refine ji_iload_n (q := 33) am dm_swap_32 rfl 1 rfl rfl ?_
      refine ji_ald_Mlevels (q := 34) am dm_swap_33 rfl ?_
      intro v33
      refine ji_istore_n (lv' := [(0, .ref (ad_ z 11)), (1, .int a1), (2, .int v33)]) (q := 35) am dm_swap_34 rfl [1, 2, 0] rfl rfl rfl ?_
      refine ji_aload_n (q := 36) am dm_swap_35 rfl 0 rfl rfl ?_
      refine ji_get_M_levels (q := 39) am dm_swap_36 rfl ?_
      refine ji_iload_n (q := 40) am dm_swap_39 rfl 1 rfl rfl ?_
      refine ji_aload_n (q := 41) am dm_swap_40 rfl 0 rfl rfl ?_
      refine ji_get_M_levels (q := 44) am dm_swap_41 rfl ?_
      refine ji_iload_n (q := 45) am dm_swap_44 rfl 1 rfl rfl ?_
      refine ji_iconst (q := 46) am dm_swap_45 ki_1 rfl ?_
      refine ji_iadd (q := 47) am dm_swap_46 rfl ?_
      refine ji_ald_Mlevels (q := 48) am dm_swap_47 rfl ?_
      intro v47
      refine ji_ast_Mlevels (q := 49) am dm_swap_48 rfl ?_
      intro t48
      refine ji_aload_n (q := 50) am dm_swap_49 rfl 0 rfl rfl ?_
      refine ji_get_M_levels (q := 53) am dm_swap_50 rfl ?_
      refine ji_iload_n (q := 54) am dm_swap_53 rfl 1 rfl rfl ?_
      refine ji_iconst (q := 55) am dm_swap_54 ki_1 rfl ?_
      refine ji_iadd (q := 56) am dm_swap_55 rfl ?_
      refine ji_iload_n (q := 57) am dm_swap_56 rfl 2 rfl rfl ?_
      refine ji_ast_Mlevels (q := 58) am dm_swap_57 rfl ?_
      intro t57
      refine ji_aload_n (q := 59) am dm_swap_58 rfl 0 rfl rfl ?_
      refine ji_iconst (q := 60) am dm_swap_59 ki_0 rfl ?_
      refine ji_bipush (q := 62) am dm_swap_60 kb_15 rfl ?_
      refine jk_IT (q := 65) (rest := []) (fun r t2 hF => jr_V [.int (0 : Int32), .int (15 : Int32)] am ln_M_m_nodesOf (ctm_nodesOf _ _ hF) (by omega) (rc_M am) rfl rfl (Nat.le_of_ble_eq_true rfl) dm_swap_62) rfl ?_
      intro r62 t62
      exact ji_iret am rfl dm_swap_65 rfl rfl
    · refine ji_iconst (q := 27) am dm_swap_26 ki_0 rfl ?_
      exact ji_iret am rfl dm_swap_27 rfl rfl
  · intro j16 hj16
    refine ji_if_eq (q := 11) (g := 15) am dm_swap_8 rfl rfl ?_ ?_
    · refine ji_iconst (q := 16) am dm_swap_15 ki_1 rfl ?_
      exact hj16 _
    · refine ji_iconst (q := 12) am dm_swap_11 ki_0 rfl ?_
      refine ji_goto (q := 16) am dm_swap_12 rfl ?_
      exact hj16 _

theorem dm_lay_0 : decode bm_lay 0 = .ok (.iconst 0, 1) := by decide +kernel
theorem dm_lay_1 : decode bm_lay 1 = .ok (.istore_n 3, 1) := by decide +kernel
theorem dm_lay_2 : decode bm_lay 2 = .ok (.iconst 0, 1) := by decide +kernel
theorem dm_lay_3 : decode bm_lay 3 = .ok (.istore 4, 2) := by decide +kernel
theorem dm_lay_5 : decode bm_lay 5 = .ok (.iload 4, 2) := by decide +kernel
theorem dm_lay_7 : decode bm_lay 7 = .ok (.bipush 8, 2) := by decide +kernel
theorem dm_lay_9 : decode bm_lay 9 = .ok (.if_icmp .ge 23, 3) := by decide +kernel
theorem dm_lay_12 : decode bm_lay 12 = .ok (.aload_n 0, 1) := by decide +kernel
theorem dm_lay_13 : decode bm_lay 13 = .ok (.getfield 17, 3) := by decide +kernel
theorem dm_lay_16 : decode bm_lay 16 = .ok (.iload 4, 2) := by decide +kernel
theorem dm_lay_18 : decode bm_lay 18 = .ok (.aload_n 0, 1) := by decide +kernel
theorem dm_lay_19 : decode bm_lay 19 = .ok (.getfield 13, 3) := by decide +kernel
theorem dm_lay_22 : decode bm_lay 22 = .ok (.iload 4, 2) := by decide +kernel
theorem dm_lay_24 : decode bm_lay 24 = .ok (.iaload, 1) := by decide +kernel
theorem dm_lay_25 : decode bm_lay 25 = .ok (.iastore, 1) := by decide +kernel
theorem dm_lay_26 : decode bm_lay 26 = .ok (.iinc 4 1, 3) := by decide +kernel
theorem dm_lay_29 : decode bm_lay 29 = .ok (.goto (-24), 3) := by decide +kernel
theorem dm_lay_32 : decode bm_lay 32 = .ok (.iconst 0, 1) := by decide +kernel
theorem dm_lay_33 : decode bm_lay 33 = .ok (.istore 4, 2) := by decide +kernel
theorem dm_lay_35 : decode bm_lay 35 = .ok (.iload 4, 2) := by decide +kernel
theorem dm_lay_37 : decode bm_lay 37 = .ok (.bipush 8, 2) := by decide +kernel
theorem dm_lay_39 : decode bm_lay 39 = .ok (.if_icmp .ge 49, 3) := by decide +kernel
theorem dm_lay_42 : decode bm_lay 42 = .ok (.aload_n 0, 1) := by decide +kernel
theorem dm_lay_43 : decode bm_lay 43 = .ok (.getfield 17, 3) := by decide +kernel
theorem dm_lay_46 : decode bm_lay 46 = .ok (.iload 4, 2) := by decide +kernel
theorem dm_lay_48 : decode bm_lay 48 = .ok (.iaload, 1) := by decide +kernel
theorem dm_lay_49 : decode bm_lay 49 = .ok (.iload_n 1, 1) := by decide +kernel
theorem dm_lay_50 : decode bm_lay 50 = .ok (.if_icmp .eq 32, 3) := by decide +kernel
theorem dm_lay_53 : decode bm_lay 53 = .ok (.iload_n 3, 1) := by decide +kernel
theorem dm_lay_54 : decode bm_lay 54 = .ok (.iload_n 2, 1) := by decide +kernel
theorem dm_lay_55 : decode bm_lay 55 = .ok (.if_icmp .ne 9, 3) := by decide +kernel
theorem dm_lay_58 : decode bm_lay 58 = .ok (.iload_n 3, 1) := by decide +kernel
theorem dm_lay_59 : decode bm_lay 59 = .ok (.iconst 1, 1) := by decide +kernel
theorem dm_lay_60 : decode bm_lay 60 = .ok (.iadd, 1) := by decide +kernel
theorem dm_lay_61 : decode bm_lay 61 = .ok (.goto 4, 3) := by decide +kernel
theorem dm_lay_64 : decode bm_lay 64 = .ok (.iload_n 3, 1) := by decide +kernel
theorem dm_lay_65 : decode bm_lay 65 = .ok (.istore_n 3, 1) := by decide +kernel
theorem dm_lay_66 : decode bm_lay 66 = .ok (.aload_n 0, 1) := by decide +kernel
theorem dm_lay_67 : decode bm_lay 67 = .ok (.getfield 13, 3) := by decide +kernel
theorem dm_lay_70 : decode bm_lay 70 = .ok (.iload_n 3, 1) := by decide +kernel
theorem dm_lay_71 : decode bm_lay 71 = .ok (.aload_n 0, 1) := by decide +kernel
theorem dm_lay_72 : decode bm_lay 72 = .ok (.getfield 17, 3) := by decide +kernel
theorem dm_lay_75 : decode bm_lay 75 = .ok (.iload 4, 2) := by decide +kernel
theorem dm_lay_77 : decode bm_lay 77 = .ok (.iaload, 1) := by decide +kernel
theorem dm_lay_78 : decode bm_lay 78 = .ok (.iastore, 1) := by decide +kernel
theorem dm_lay_79 : decode bm_lay 79 = .ok (.iinc 3 1, 3) := by decide +kernel
theorem dm_lay_82 : decode bm_lay 82 = .ok (.iinc 4 1, 3) := by decide +kernel
theorem dm_lay_85 : decode bm_lay 85 = .ok (.goto (-50), 3) := by decide +kernel
theorem dm_lay_88 : decode bm_lay 88 = .ok (.aload_n 0, 1) := by decide +kernel
theorem dm_lay_89 : decode bm_lay 89 = .ok (.getfield 13, 3) := by decide +kernel
theorem dm_lay_92 : decode bm_lay 92 = .ok (.iload_n 2, 1) := by decide +kernel
theorem dm_lay_93 : decode bm_lay 93 = .ok (.iload_n 1, 1) := by decide +kernel
theorem dm_lay_94 : decode bm_lay 94 = .ok (.iastore, 1) := by decide +kernel
theorem dm_lay_95 : decode bm_lay 95 = .ok (.return_, 1) := by decide +kernel
set_option maxHeartbeats 4000000 in
set_option maxRecDepth 100000 in
theorem lm_lay_5 {z : wt_Z} {s : wt_S} {o : Nat → Int64} {c1 : Int32} {c2 : Int32} {c3 : Int32} {K : wt_M → Option (wt_M)} (am : wt_Am z R_M bm_lay 5 1 none) (hK : ∀ (t3 : wt_M), jj_J z 5 32 [(0, .ref (ad_ z 11)), (1, .int c1), (2, .int c2), (3, .int c3)] [] (s, t3, o) (q_T z s o) (K t3)) : ∀ (n : Nat) (x4 : Int32) (t : wt_M), jj_J z 5 5 [(0, .ref (ad_ z 11)), (1, .int c1), (2, .int c2), (3, .int c3), (4, .int x4)] [] (s, t, o) (q_T z s o) (fm_lay_L5 c1 c2 c3 K n x4 t) := by
  intro n
  induction n with
  | zero =>
    intro x4 t
    exact ji_none
  | succ n ih =>
    intro x4 t
    rw [fm_lay_L5]
    refine ji_iload (q := 7) am dm_lay_5 4 rfl rfl ?_
    refine ji_bipush (q := 9) am dm_lay_7 kb_8 rfl ?_
    refine ji_icmp_ge (q := 12) (g := 32) am dm_lay_9 rfl rfl ?_ ?_
    · exact ji_sub (lv' := [(0, .ref (ad_ z 11)), (1, .int c1), (2, .int c2), (3, .int c3)]) [0, 1, 2, 3] rfl (hK _)
    · refine ji_aload_n (q := 13) am dm_lay_12 rfl 0 rfl rfl ?_
      refine ji_get_M_before (q := 16) am dm_lay_13 rfl ?_
      refine ji_iload (q := 18) am dm_lay_16 4 rfl rfl ?_
      refine ji_aload_n (q := 19) am dm_lay_18 rfl 0 rfl rfl ?_
      refine ji_get_M_levels (q := 22) am dm_lay_19 rfl ?_
      refine ji_iload (q := 24) am dm_lay_22 4 rfl rfl ?_
      refine ji_ald_Mlevels (q := 25) am dm_lay_24 rfl ?_
      intro v24
      refine ji_ast_Mbefore (q := 26) am dm_lay_25 rfl ?_
      intro t25
      refine ji_iinc (q := 29) (lv' := [(0, .ref (ad_ z 11)), (1, .int c1), (2, .int c2), (3, .int c3), (4, .int (x4 + 1))]) am dm_lay_26 4 rfl ki_1 [1, 2, 3, 4, 0] rfl rfl rfl ?_
      refine ji_goto (q := 5) am dm_lay_29 rfl ?_
      exact ih _ _
set_option maxHeartbeats 4000000 in
set_option maxRecDepth 100000 in
theorem lm_lay_35 {z : wt_Z} {s : wt_S} {o : Nat → Int64} {c1 : Int32} {c2 : Int32} {K : wt_M → Option (wt_M)} (am : wt_Am z R_M bm_lay 5 1 none) (hK : ∀ (t3 : wt_M), jj_J z 5 88 [(0, .ref (ad_ z 11)), (1, .int c1), (2, .int c2)] [] (s, t3, o) (q_T z s o) (K t3)) : ∀ (n : Nat) (x3 : Int32) (x4 : Int32) (t : wt_M), jj_J z 5 35 [(0, .ref (ad_ z 11)), (1, .int c1), (2, .int c2), (3, .int x3), (4, .int x4)] [] (s, t, o) (q_T z s o) (fm_lay_L35 c1 c2 K n x3 x4 t) := by
  intro n
  induction n with
  | zero =>
    intro x3 x4 t
    exact ji_none
  | succ n ih =>
    intro x3 x4 t
    rw [fm_lay_L35]
    refine ji_iload (q := 37) am dm_lay_35 4 rfl rfl ?_
    refine ji_bipush (q := 39) am dm_lay_37 kb_8 rfl ?_
    refine ji_icmp_ge (q := 42) (g := 88) am dm_lay_39 rfl rfl ?_ ?_
    · exact ji_sub (lv' := [(0, .ref (ad_ z 11)), (1, .int c1), (2, .int c2)]) [0, 1, 2] rfl (hK _)
    · refine ji_aload_n (q := 43) am dm_lay_42 rfl 0 rfl rfl ?_
      refine ji_get_M_before (q := 46) am dm_lay_43 rfl ?_
      refine ji_iload (q := 48) am dm_lay_46 4 rfl rfl ?_
      refine ji_ald_Mbefore (q := 49) am dm_lay_48 rfl ?_
      intro v48
      refine ji_iload_n (q := 50) am dm_lay_49 rfl 1 rfl rfl ?_
      refine ji_jn2 (fun j => ∀ (x3_82 : Int32) (t_82 : wt_M), jj_J z 5 82 [(0, .ref (ad_ z 11)), (1, .int c1), (2, .int c2), (3, .int x3_82), (4, .int x4)] [] (s, t_82, o) (q_T z s o) (j x3_82 t_82)) ?_ ?_
      · intro x3_82 t_82
        refine ji_iinc (q := 85) (lv' := [(0, .ref (ad_ z 11)), (1, .int c1), (2, .int c2), (3, .int x3_82), (4, .int (x4 + 1))]) am dm_lay_82 4 rfl ki_1 [1, 2, 3, 4, 0] rfl rfl rfl ?_
        refine ji_goto (q := 35) am dm_lay_85 rfl ?_
        exact ih _ _ _
      · intro j82 hj82
        refine ji_icmp_eq (q := 53) (g := 82) am dm_lay_50 rfl rfl ?_ ?_
        · exact hj82 _ _
        · refine ji_iload_n (q := 54) am dm_lay_53 rfl 3 rfl rfl ?_
          refine ji_iload_n (q := 55) am dm_lay_54 rfl 2 rfl rfl ?_
          refine ji_jn2 (fun j => ∀ (y0_65 : Int32), jj_J z 5 65 [(0, .ref (ad_ z 11)), (1, .int c1), (2, .int c2), (4, .int x4)] [.int y0_65] (s, t, o) (q_T z s o) (j y0_65)) ?_ ?_
          · intro y0_65
            refine ji_istore_n (lv' := [(0, .ref (ad_ z 11)), (1, .int c1), (2, .int c2), (3, .int y0_65), (4, .int x4)]) (q := 66) am dm_lay_65 rfl [1, 2, 3, 0, 4] rfl rfl rfl ?_
            refine ji_aload_n (q := 67) am dm_lay_66 rfl 0 rfl rfl ?_
            refine ji_get_M_levels (q := 70) am dm_lay_67 rfl ?_
            refine ji_iload_n (q := 71) am dm_lay_70 rfl 3 rfl rfl ?_
            refine ji_aload_n (q := 72) am dm_lay_71 rfl 0 rfl rfl ?_
            refine ji_get_M_before (q := 75) am dm_lay_72 rfl ?_
            refine ji_iload (q := 77) am dm_lay_75 4 rfl rfl ?_
            refine ji_ald_Mbefore (q := 78) am dm_lay_77 rfl ?_
            intro v77
            refine ji_ast_Mlevels (q := 79) am dm_lay_78 rfl ?_
            intro t78
            refine ji_iinc (q := 82) (lv' := [(0, .ref (ad_ z 11)), (1, .int c1), (2, .int c2), (3, .int (y0_65 + 1)), (4, .int x4)]) am dm_lay_79 3 rfl ki_1 [1, 2, 3, 0, 4] rfl rfl rfl ?_
            exact hj82 _ _
          · intro j65 hj65
            refine ji_icmp_ne (q := 58) (g := 64) am dm_lay_55 rfl rfl ?_ ?_
            · refine ji_iload_n (q := 65) am dm_lay_64 rfl 3 rfl rfl ?_
              exact ji_sub (lv' := [(0, .ref (ad_ z 11)), (1, .int c1), (2, .int c2), (4, .int x4)]) [0, 1, 2, 4] rfl (hj65 _)
            · refine ji_iload_n (q := 59) am dm_lay_58 rfl 3 rfl rfl ?_
              refine ji_iconst (q := 60) am dm_lay_59 ki_1 rfl ?_
              refine ji_iadd (q := 61) am dm_lay_60 rfl ?_
              refine ji_goto (q := 65) am dm_lay_61 rfl ?_
              exact ji_sub (lv' := [(0, .ref (ad_ z 11)), (1, .int c1), (2, .int c2), (4, .int x4)]) [0, 1, 2, 4] rfl (hj65 _)
set_option maxHeartbeats 4000000 in
set_option maxRecDepth 100000 in
theorem ctm_lay {v : wt_V} {t : wt_M} {a1 : Int32} {a2 : Int32} {t2 : wt_M} (s : wt_S) (o : Nat → Int64) (hF : fm_lay t a1 a2 = some t2) : ct_C v ym_lay (Cond.code ym_lay bm_lay 5 none) 1 [.ref (v.2.1 11), .int a1, .int a2] none (s, t, o) (s, t2, o) := by
  refine ct_of (lv := [(0, .ref (v.2.1 11)), (1, .int a1), (2, .int a2)]) (fun _ : wt_M => none) (fun r => (s, r, o)) (by decide) (Nat.le_of_ble_eq_true rfl) rfl ?_ t2 hF
  intro z hz am
  subst hz
  have am : wt_Am z R_M bm_lay 5 1 none := am
  show jj_J z 5 0 [(0, .ref (ad_ z 11)), (1, .int a1), (2, .int a2)] [] (s, t, o) (q_T z s o) (fm_lay t a1 a2)
  unfold fm_lay
  refine ji_iconst (q := 1) am dm_lay_0 ki_0 rfl ?_
  refine ji_istore_n (lv' := [(0, .ref (ad_ z 11)), (1, .int a1), (2, .int a2), (3, .int (0 : Int32))]) (q := 2) am dm_lay_1 rfl [1, 2, 3, 0] rfl rfl rfl ?_
  refine ji_iconst (q := 3) am dm_lay_2 ki_0 rfl ?_
  refine ji_istore (lv' := [(0, .ref (ad_ z 11)), (1, .int a1), (2, .int a2), (3, .int (0 : Int32)), (4, .int (0 : Int32))]) (q := 5) am dm_lay_3 [1, 2, 3, 4, 0] rfl rfl rfl ?_
  refine lm_lay_5 am (fun t_5 => ?_) 5000 _ _
  refine ji_iconst (q := 33) am dm_lay_32 ki_0 rfl ?_
  refine ji_istore (lv' := [(0, .ref (ad_ z 11)), (1, .int a1), (2, .int a2), (3, .int (0 : Int32)), (4, .int (0 : Int32))]) (q := 35) am dm_lay_33 [1, 2, 3, 4, 0] rfl rfl rfl ?_
  refine lm_lay_35 am (fun t_35 => ?_) 5000 _ _ _
  refine ji_aload_n (q := 89) am dm_lay_88 rfl 0 rfl rfl ?_
  refine ji_get_M_levels (q := 92) am dm_lay_89 rfl ?_
  refine ji_iload_n (q := 93) am dm_lay_92 rfl 2 rfl rfl ?_
  refine ji_iload_n (q := 94) am dm_lay_93 rfl 1 rfl rfl ?_
  refine ji_ast_Mlevels (q := 95) am dm_lay_94 rfl ?_
  intro t94
  exact ji_vret am rfl dm_lay_95 rfl rfl

theorem dm_place_0 : decode bm_place 0 = .ok (.aload_n 0, 1) := by decide +kernel
theorem dm_place_1 : decode bm_place 1 = .ok (.iload_n 1, 1) := by decide +kernel
theorem dm_place_2 : decode bm_place 2 = .ok (.invokestatic 62, 3) := by decide +kernel
theorem dm_place_5 : decode bm_place 5 = .ok (.ifCond .eq 17, 3) := by decide +kernel
theorem dm_place_8 : decode bm_place 8 = .ok (.iload_n 2, 1) := by decide +kernel
theorem dm_place_9 : decode bm_place 9 = .ok (.iconst 0, 1) := by decide +kernel
theorem dm_place_10 : decode bm_place 10 = .ok (.bipush 7, 2) := by decide +kernel
theorem dm_place_12 : decode bm_place 12 = .ok (.invokestatic 54, 3) := by decide +kernel
theorem dm_place_15 : decode bm_place 15 = .ok (.ifCond .eq 7, 3) := by decide +kernel
theorem dm_place_18 : decode bm_place 18 = .ok (.iconst 0, 1) := by decide +kernel
theorem dm_place_19 : decode bm_place 19 = .ok (.goto 4, 3) := by decide +kernel
theorem dm_place_22 : decode bm_place 22 = .ok (.iconst 1, 1) := by decide +kernel
theorem dm_place_23 : decode bm_place 23 = .ok (.putfield 50, 3) := by decide +kernel
theorem dm_place_26 : decode bm_place 26 = .ok (.aload_n 0, 1) := by decide +kernel
theorem dm_place_27 : decode bm_place 27 = .ok (.getfield 50, 3) := by decide +kernel
theorem dm_place_30 : decode bm_place 30 = .ok (.ifCond .le 5, 3) := by decide +kernel
theorem dm_place_33 : decode bm_place 33 = .ok (.iconst 0, 1) := by decide +kernel
theorem dm_place_34 : decode bm_place 34 = .ok (.ireturn, 1) := by decide +kernel
theorem dm_place_35 : decode bm_place 35 = .ok (.aload_n 0, 1) := by decide +kernel
theorem dm_place_36 : decode bm_place 36 = .ok (.iload_n 1, 1) := by decide +kernel
theorem dm_place_37 : decode bm_place 37 = .ok (.iload_n 2, 1) := by decide +kernel
theorem dm_place_38 : decode bm_place 38 = .ok (.invokevirtual 114, 3) := by decide +kernel
theorem dm_place_41 : decode bm_place 41 = .ok (.aload_n 0, 1) := by decide +kernel
theorem dm_place_42 : decode bm_place 42 = .ok (.iconst 0, 1) := by decide +kernel
theorem dm_place_43 : decode bm_place 43 = .ok (.bipush 15, 2) := by decide +kernel
theorem dm_place_45 : decode bm_place 45 = .ok (.invokevirtual 110, 3) := by decide +kernel
theorem dm_place_48 : decode bm_place 48 = .ok (.ireturn, 1) := by decide +kernel
set_option maxHeartbeats 4000000 in
set_option maxRecDepth 100000 in
theorem ctm_place {v : wt_V} {t : wt_M} {a1 : Int32} {a2 : Int32} {r : Int32} {t2 : wt_M} (s : wt_S) (o : Nat → Int64) (hF : fm_place t a1 a2 = some (r, t2)) : ct_C v ym_place (Cond.code ym_place bm_place 3 (some .int)) 3 [.ref (v.2.1 11), .int a1, .int a2] (some (.int r)) (s, t, o) (s, t2, o) := by
  refine ct_of (lv := [(0, .ref (v.2.1 11)), (1, .int a1), (2, .int a2)]) (fun r : Int32 × wt_M => some (.int r.1)) (fun r => (s, r.2, o)) (by decide) (Nat.le_of_ble_eq_true rfl) rfl ?_ (r, t2) hF
  intro z hz am
  subst hz
  have am : wt_Am z R_M bm_place 3 3 (some .int) := am
  show jj_J z 3 0 [(0, .ref (ad_ z 11)), (1, .int a1), (2, .int a2)] [] (s, t, o) (q_IT z s o) (fm_place t a1 a2)
  unfold fm_place
  refine ji_aload_n (q := 1) am dm_place_0 rfl 0 rfl rfl ?_
  refine ji_iload_n (q := 2) am dm_place_1 rfl 1 rfl rfl ?_
  refine jk_I (q := 5) (rest := [.ref (ad_ z 11)]) (fun r hF => jr_S [.int a1] am ln_M_m_isVariable (ctm_isVariable _ _ _ hF) (by omega) rfl rfl (Nat.le_of_ble_eq_true rfl) dm_place_2) rfl ?_
  intro r2
  refine ji_jn2 (fun j => ∀ (y0_23 : Int32), jj_J z 3 23 [(0, .ref (ad_ z 11)), (1, .int a1), (2, .int a2)] [.int y0_23, .ref (ad_ z 11)] (s, t, o) (q_IT z s o) (j y0_23)) ?_ ?_
  · intro y0_23
    refine ji_put_M_code (q := 26) am dm_place_23 rfl ?_
    intro t23
    refine ji_aload_n (q := 27) am dm_place_26 rfl 0 rfl rfl ?_
    refine ji_get_M_code (q := 30) am dm_place_27 rfl ?_
    refine ji_if_le (q := 33) (g := 35) am dm_place_30 rfl rfl ?_ ?_
    · refine ji_aload_n (q := 36) am dm_place_35 rfl 0 rfl rfl ?_
      refine ji_iload_n (q := 37) am dm_place_36 rfl 1 rfl rfl ?_
      refine ji_iload_n (q := 38) am dm_place_37 rfl 2 rfl rfl ?_
      refine jk_T (q := 41) (rest := []) (fun t2 hF => jr_V [.int a1, .int a2] am ln_M_m_lay (ctm_lay _ _ hF) (by omega) (rc_M am) rfl rfl (Nat.le_of_ble_eq_true rfl) dm_place_38) rfl ?_
      intro t38
      refine ji_aload_n (q := 42) am dm_place_41 rfl 0 rfl rfl ?_
      refine ji_iconst (q := 43) am dm_place_42 ki_0 rfl ?_
      refine ji_bipush (q := 45) am dm_place_43 kb_15 rfl ?_
      refine jk_IT (q := 48) (rest := []) (fun r t2 hF => jr_V [.int (0 : Int32), .int (15 : Int32)] am ln_M_m_nodesOf (ctm_nodesOf _ _ hF) (by omega) (rc_M am) rfl rfl (Nat.le_of_ble_eq_true rfl) dm_place_45) rfl ?_
      intro r45 t45
      exact ji_iret am rfl dm_place_48 rfl rfl
    · refine ji_iconst (q := 34) am dm_place_33 ki_0 rfl ?_
      exact ji_iret am rfl dm_place_34 rfl rfl
  · intro j23 hj23
    refine ji_jn2 (fun j => ∀ (u22 : Unit), jj_J z 3 22 [(0, .ref (ad_ z 11)), (1, .int a1), (2, .int a2)] [.ref (ad_ z 11)] (s, t, o) (q_IT z s o) (j u22)) ?_ ?_
    · intro u22
      refine ji_iconst (q := 23) am dm_place_22 ki_1 rfl ?_
      exact hj23 _
    · intro j22 hj22
      refine ji_if_eq (q := 8) (g := 22) am dm_place_5 rfl rfl ?_ ?_
      · exact hj22 _
      · refine ji_iload_n (q := 9) am dm_place_8 rfl 2 rfl rfl ?_
        refine ji_iconst (q := 10) am dm_place_9 ki_0 rfl ?_
        refine ji_bipush (q := 12) am dm_place_10 kb_7 rfl ?_
        refine jk_I (q := 15) (rest := [.ref (ad_ z 11)]) (fun r hF => jr_S [.int a2, .int (0 : Int32), .int (7 : Int32)] am ln_M_m_in (ctm_in _ _ _ hF) (by omega) rfl rfl (Nat.le_of_ble_eq_true rfl) dm_place_12) rfl ?_
        intro r12
        refine ji_if_eq (q := 18) (g := 22) am dm_place_15 rfl rfl ?_ ?_
        · exact hj22 _
        · refine ji_iconst (q := 19) am dm_place_18 ki_0 rfl ?_
          refine ji_goto (q := 23) am dm_place_19 rfl ?_
          exact hj23 _

theorem dm_sift_0 : decode bm_sift 0 = .ok (.aload_n 0, 1) := by decide +kernel
theorem dm_sift_1 : decode bm_sift 1 = .ok (.iload_n 1, 1) := by decide +kernel
theorem dm_sift_2 : decode bm_sift 2 = .ok (.invokestatic 62, 3) := by decide +kernel
theorem dm_sift_5 : decode bm_sift 5 = .ok (.ifCond .eq 7, 3) := by decide +kernel
theorem dm_sift_8 : decode bm_sift 8 = .ok (.iconst 0, 1) := by decide +kernel
theorem dm_sift_9 : decode bm_sift 9 = .ok (.goto 4, 3) := by decide +kernel
theorem dm_sift_12 : decode bm_sift 12 = .ok (.iconst 1, 1) := by decide +kernel
theorem dm_sift_13 : decode bm_sift 13 = .ok (.putfield 50, 3) := by decide +kernel
theorem dm_sift_16 : decode bm_sift 16 = .ok (.aload_n 0, 1) := by decide +kernel
theorem dm_sift_17 : decode bm_sift 17 = .ok (.getfield 50, 3) := by decide +kernel
theorem dm_sift_20 : decode bm_sift 20 = .ok (.ifCond .le 5, 3) := by decide +kernel
theorem dm_sift_23 : decode bm_sift 23 = .ok (.iconst 0, 1) := by decide +kernel
theorem dm_sift_24 : decode bm_sift 24 = .ok (.ireturn, 1) := by decide +kernel
theorem dm_sift_25 : decode bm_sift 25 = .ok (.iconst 0, 1) := by decide +kernel
theorem dm_sift_26 : decode bm_sift 26 = .ok (.istore_n 2, 1) := by decide +kernel
theorem dm_sift_27 : decode bm_sift 27 = .ok (.ldc 117, 2) := by decide +kernel
theorem dm_sift_29 : decode bm_sift 29 = .ok (.istore_n 3, 1) := by decide +kernel
theorem dm_sift_30 : decode bm_sift 30 = .ok (.iconst 0, 1) := by decide +kernel
theorem dm_sift_31 : decode bm_sift 31 = .ok (.istore 4, 2) := by decide +kernel
theorem dm_sift_33 : decode bm_sift 33 = .ok (.iload 4, 2) := by decide +kernel
theorem dm_sift_35 : decode bm_sift 35 = .ok (.bipush 8, 2) := by decide +kernel
theorem dm_sift_37 : decode bm_sift 37 = .ok (.if_icmp .ge 51, 3) := by decide +kernel
theorem dm_sift_40 : decode bm_sift 40 = .ok (.aload_n 0, 1) := by decide +kernel
theorem dm_sift_41 : decode bm_sift 41 = .ok (.iload_n 1, 1) := by decide +kernel
theorem dm_sift_42 : decode bm_sift 42 = .ok (.iload 4, 2) := by decide +kernel
theorem dm_sift_44 : decode bm_sift 44 = .ok (.invokevirtual 114, 3) := by decide +kernel
theorem dm_sift_47 : decode bm_sift 47 = .ok (.aload_n 0, 1) := by decide +kernel
theorem dm_sift_48 : decode bm_sift 48 = .ok (.iconst 0, 1) := by decide +kernel
theorem dm_sift_49 : decode bm_sift 49 = .ok (.bipush 15, 2) := by decide +kernel
theorem dm_sift_51 : decode bm_sift 51 = .ok (.invokevirtual 110, 3) := by decide +kernel
theorem dm_sift_54 : decode bm_sift 54 = .ok (.istore 5, 2) := by decide +kernel
theorem dm_sift_56 : decode bm_sift 56 = .ok (.iload 5, 2) := by decide +kernel
theorem dm_sift_58 : decode bm_sift 58 = .ok (.iload_n 3, 1) := by decide +kernel
theorem dm_sift_59 : decode bm_sift 59 = .ok (.if_icmp .ge 8, 3) := by decide +kernel
theorem dm_sift_62 : decode bm_sift 62 = .ok (.iload 4, 2) := by decide +kernel
theorem dm_sift_64 : decode bm_sift 64 = .ok (.goto 4, 3) := by decide +kernel
theorem dm_sift_67 : decode bm_sift 67 = .ok (.iload_n 2, 1) := by decide +kernel
theorem dm_sift_68 : decode bm_sift 68 = .ok (.istore_n 2, 1) := by decide +kernel
theorem dm_sift_69 : decode bm_sift 69 = .ok (.iload 5, 2) := by decide +kernel
theorem dm_sift_71 : decode bm_sift 71 = .ok (.iload_n 3, 1) := by decide +kernel
theorem dm_sift_72 : decode bm_sift 72 = .ok (.if_icmp .ge 8, 3) := by decide +kernel
theorem dm_sift_75 : decode bm_sift 75 = .ok (.iload 5, 2) := by decide +kernel
theorem dm_sift_77 : decode bm_sift 77 = .ok (.goto 4, 3) := by decide +kernel
theorem dm_sift_80 : decode bm_sift 80 = .ok (.iload_n 3, 1) := by decide +kernel
theorem dm_sift_81 : decode bm_sift 81 = .ok (.istore_n 3, 1) := by decide +kernel
theorem dm_sift_82 : decode bm_sift 82 = .ok (.iinc 4 1, 3) := by decide +kernel
theorem dm_sift_85 : decode bm_sift 85 = .ok (.goto (-52), 3) := by decide +kernel
theorem dm_sift_88 : decode bm_sift 88 = .ok (.aload_n 0, 1) := by decide +kernel
theorem dm_sift_89 : decode bm_sift 89 = .ok (.iload_n 1, 1) := by decide +kernel
theorem dm_sift_90 : decode bm_sift 90 = .ok (.iload_n 2, 1) := by decide +kernel
theorem dm_sift_91 : decode bm_sift 91 = .ok (.invokevirtual 114, 3) := by decide +kernel
theorem dm_sift_94 : decode bm_sift 94 = .ok (.iload_n 3, 1) := by decide +kernel
theorem dm_sift_95 : decode bm_sift 95 = .ok (.ireturn, 1) := by decide +kernel
set_option maxHeartbeats 4000000 in
set_option maxRecDepth 100000 in
theorem lm_sift_33 {z : wt_Z} {s : wt_S} {o : Nat → Int64} {c1 : Int32} {K : Int32 → Int32 → wt_M → Option (Int32 × wt_M)} (am : wt_Am z R_M bm_sift 6 3 (some .int)) (hK : ∀ (e2 : Int32) (e3 : Int32) (t3 : wt_M), jj_J z 6 88 [(0, .ref (ad_ z 11)), (1, .int c1), (2, .int e2), (3, .int e3)] [] (s, t3, o) (q_IT z s o) (K e2 e3 t3)) : ∀ (n : Nat) (x2 : Int32) (x3 : Int32) (x4 : Int32) (t : wt_M), jj_J z 6 33 [(0, .ref (ad_ z 11)), (1, .int c1), (2, .int x2), (3, .int x3), (4, .int x4)] [] (s, t, o) (q_IT z s o) (fm_sift_L33 c1 K n x2 x3 x4 t) := by
  intro n
  induction n with
  | zero =>
    intro x2 x3 x4 t
    exact ji_none
  | succ n ih =>
    intro x2 x3 x4 t
    rw [fm_sift_L33]
    refine ji_iload (q := 35) am dm_sift_33 4 rfl rfl ?_
    refine ji_bipush (q := 37) am dm_sift_35 kb_8 rfl ?_
    refine ji_icmp_ge (q := 40) (g := 88) am dm_sift_37 rfl rfl ?_ ?_
    · exact ji_sub (lv' := [(0, .ref (ad_ z 11)), (1, .int c1), (2, .int x2), (3, .int x3)]) [0, 1, 2, 3] rfl (hK _ _ _)
    · refine ji_aload_n (q := 41) am dm_sift_40 rfl 0 rfl rfl ?_
      refine ji_iload_n (q := 42) am dm_sift_41 rfl 1 rfl rfl ?_
      refine ji_iload (q := 44) am dm_sift_42 4 rfl rfl ?_
      refine jk_T (q := 47) (rest := []) (fun t2 hF => jr_V [.int c1, .int x4] am ln_M_m_lay (ctm_lay _ _ hF) (by omega) (rc_M am) rfl rfl (Nat.le_of_ble_eq_true rfl) dm_sift_44) rfl ?_
      intro t44
      refine ji_aload_n (q := 48) am dm_sift_47 rfl 0 rfl rfl ?_
      refine ji_iconst (q := 49) am dm_sift_48 ki_0 rfl ?_
      refine ji_bipush (q := 51) am dm_sift_49 kb_15 rfl ?_
      refine jk_IT (q := 54) (rest := []) (fun r t2 hF => jr_V [.int (0 : Int32), .int (15 : Int32)] am ln_M_m_nodesOf (ctm_nodesOf _ _ hF) (by omega) (rc_M am) rfl rfl (Nat.le_of_ble_eq_true rfl) dm_sift_51) rfl ?_
      intro r51 t51
      refine ji_istore (lv' := [(0, .ref (ad_ z 11)), (1, .int c1), (2, .int x2), (3, .int x3), (4, .int x4), (5, .int r51)]) (q := 56) am dm_sift_54 [1, 2, 3, 4, 5, 0] rfl rfl rfl ?_
      refine ji_iload (q := 58) am dm_sift_56 5 rfl rfl ?_
      refine ji_iload_n (q := 59) am dm_sift_58 rfl 3 rfl rfl ?_
      refine ji_jn2 (fun j => ∀ (y0_68 : Int32), jj_J z 6 68 [(0, .ref (ad_ z 11)), (1, .int c1), (3, .int x3), (4, .int x4), (5, .int r51)] [.int y0_68] (s, t51, o) (q_IT z s o) (j y0_68)) ?_ ?_
      · intro y0_68
        refine ji_istore_n (lv' := [(0, .ref (ad_ z 11)), (1, .int c1), (2, .int y0_68), (3, .int x3), (4, .int x4), (5, .int r51)]) (q := 69) am dm_sift_68 rfl [1, 2, 0, 3, 4, 5] rfl rfl rfl ?_
        refine ji_iload (q := 71) am dm_sift_69 5 rfl rfl ?_
        refine ji_iload_n (q := 72) am dm_sift_71 rfl 3 rfl rfl ?_
        refine ji_jn2 (fun j => ∀ (y0_81 : Int32), jj_J z 6 81 [(0, .ref (ad_ z 11)), (1, .int c1), (2, .int y0_68), (4, .int x4)] [.int y0_81] (s, t51, o) (q_IT z s o) (j y0_81)) ?_ ?_
        · intro y0_81
          refine ji_istore_n (lv' := [(0, .ref (ad_ z 11)), (1, .int c1), (2, .int y0_68), (3, .int y0_81), (4, .int x4)]) (q := 82) am dm_sift_81 rfl [1, 2, 3, 0, 4] rfl rfl rfl ?_
          refine ji_iinc (q := 85) (lv' := [(0, .ref (ad_ z 11)), (1, .int c1), (2, .int y0_68), (3, .int y0_81), (4, .int (x4 + 1))]) am dm_sift_82 4 rfl ki_1 [1, 2, 3, 4, 0] rfl rfl rfl ?_
          refine ji_goto (q := 33) am dm_sift_85 rfl ?_
          exact ih _ _ _ _
        · intro j81 hj81
          refine ji_icmp_ge (q := 75) (g := 80) am dm_sift_72 rfl rfl ?_ ?_
          · refine ji_iload_n (q := 81) am dm_sift_80 rfl 3 rfl rfl ?_
            exact ji_sub (lv' := [(0, .ref (ad_ z 11)), (1, .int c1), (2, .int y0_68), (4, .int x4)]) [0, 1, 2, 4] rfl (hj81 _)
          · refine ji_iload (q := 77) am dm_sift_75 5 rfl rfl ?_
            refine ji_goto (q := 81) am dm_sift_77 rfl ?_
            exact ji_sub (lv' := [(0, .ref (ad_ z 11)), (1, .int c1), (2, .int y0_68), (4, .int x4)]) [0, 1, 2, 4] rfl (hj81 _)
      · intro j68 hj68
        refine ji_icmp_ge (q := 62) (g := 67) am dm_sift_59 rfl rfl ?_ ?_
        · refine ji_iload_n (q := 68) am dm_sift_67 rfl 2 rfl rfl ?_
          exact ji_sub (lv' := [(0, .ref (ad_ z 11)), (1, .int c1), (3, .int x3), (4, .int x4), (5, .int r51)]) [0, 1, 3, 4, 5] rfl (hj68 _)
        · refine ji_iload (q := 64) am dm_sift_62 4 rfl rfl ?_
          refine ji_goto (q := 68) am dm_sift_64 rfl ?_
          exact ji_sub (lv' := [(0, .ref (ad_ z 11)), (1, .int c1), (3, .int x3), (4, .int x4), (5, .int r51)]) [0, 1, 3, 4, 5] rfl (hj68 _)
set_option maxHeartbeats 4000000 in
set_option maxRecDepth 100000 in
theorem ctm_sift {v : wt_V} {t : wt_M} {a1 : Int32} {r : Int32} {t2 : wt_M} (s : wt_S) (o : Nat → Int64) (hF : fm_sift t a1 = some (r, t2)) : ct_C v ym_sift (Cond.code ym_sift bm_sift 6 (some .int)) 3 [.ref (v.2.1 11), .int a1] (some (.int r)) (s, t, o) (s, t2, o) := by
  refine ct_of (lv := [(0, .ref (v.2.1 11)), (1, .int a1)]) (fun r : Int32 × wt_M => some (.int r.1)) (fun r => (s, r.2, o)) (by decide) (Nat.le_of_ble_eq_true rfl) rfl ?_ (r, t2) hF
  intro z hz am
  subst hz
  have am : wt_Am z R_M bm_sift 6 3 (some .int) := am
  show jj_J z 6 0 [(0, .ref (ad_ z 11)), (1, .int a1)] [] (s, t, o) (q_IT z s o) (fm_sift t a1)
  unfold fm_sift
  refine ji_aload_n (q := 1) am dm_sift_0 rfl 0 rfl rfl ?_
  refine ji_iload_n (q := 2) am dm_sift_1 rfl 1 rfl rfl ?_
  refine jk_I (q := 5) (rest := [.ref (ad_ z 11)]) (fun r hF => jr_S [.int a1] am ln_M_m_isVariable (ctm_isVariable _ _ _ hF) (by omega) rfl rfl (Nat.le_of_ble_eq_true rfl) dm_sift_2) rfl ?_
  intro r2
  refine ji_jn2 (fun j => ∀ (y0_13 : Int32), jj_J z 6 13 [(0, .ref (ad_ z 11)), (1, .int a1)] [.int y0_13, .ref (ad_ z 11)] (s, t, o) (q_IT z s o) (j y0_13)) ?_ ?_
  · intro y0_13
    refine ji_put_M_code (q := 16) am dm_sift_13 rfl ?_
    intro t13
    refine ji_aload_n (q := 17) am dm_sift_16 rfl 0 rfl rfl ?_
    refine ji_get_M_code (q := 20) am dm_sift_17 rfl ?_
    refine ji_if_le (q := 23) (g := 25) am dm_sift_20 rfl rfl ?_ ?_
    · refine ji_iconst (q := 26) am dm_sift_25 ki_0 rfl ?_
      refine ji_istore_n (lv' := [(0, .ref (ad_ z 11)), (1, .int a1), (2, .int (0 : Int32))]) (q := 27) am dm_sift_26 rfl [1, 2, 0] rfl rfl rfl ?_
      refine ji_ldc (q := 29) (v := (1000000 : Int32)) am lk_M_117 dm_sift_27 rfl ?_
      refine ji_istore_n (lv' := [(0, .ref (ad_ z 11)), (1, .int a1), (2, .int (0 : Int32)), (3, .int (1000000 : Int32))]) (q := 30) am dm_sift_29 rfl [1, 2, 3, 0] rfl rfl rfl ?_
      refine ji_iconst (q := 31) am dm_sift_30 ki_0 rfl ?_
      refine ji_istore (lv' := [(0, .ref (ad_ z 11)), (1, .int a1), (2, .int (0 : Int32)), (3, .int (1000000 : Int32)), (4, .int (0 : Int32))]) (q := 33) am dm_sift_31 [1, 2, 3, 4, 0] rfl rfl rfl ?_
      refine lm_sift_33 am (fun z2_33 z3_33 t_33 => ?_) 5000 _ _ _ _
      refine ji_aload_n (q := 89) am dm_sift_88 rfl 0 rfl rfl ?_
      refine ji_iload_n (q := 90) am dm_sift_89 rfl 1 rfl rfl ?_
      refine ji_iload_n (q := 91) am dm_sift_90 rfl 2 rfl rfl ?_
      refine jk_T (q := 94) (rest := []) (fun t2 hF => jr_V [.int a1, .int z2_33] am ln_M_m_lay (ctm_lay _ _ hF) (by omega) (rc_M am) rfl rfl (Nat.le_of_ble_eq_true rfl) dm_sift_91) rfl ?_
      intro t91
      refine ji_iload_n (q := 95) am dm_sift_94 rfl 3 rfl rfl ?_
      exact ji_iret am rfl dm_sift_95 rfl rfl
    · refine ji_iconst (q := 24) am dm_sift_23 ki_0 rfl ?_
      exact ji_iret am rfl dm_sift_24 rfl rfl
  · intro j13 hj13
    refine ji_if_eq (q := 8) (g := 12) am dm_sift_5 rfl rfl ?_ ?_
    · refine ji_iconst (q := 13) am dm_sift_12 ki_1 rfl ?_
      exact hj13 _
    · refine ji_iconst (q := 9) am dm_sift_8 ki_0 rfl ?_
      refine ji_goto (q := 13) am dm_sift_9 rfl ?_
      exact hj13 _

theorem dm_spread_0 : decode bm_spread 0 = .ok (.iload_n 0, 1) := by decide +kernel
theorem dm_spread_1 : decode bm_spread 1 = .ok (.iconst 1, 1) := by decide +kernel
theorem dm_spread_2 : decode bm_spread 2 = .ok (.iand, 1) := by decide +kernel
theorem dm_spread_3 : decode bm_spread 3 = .ok (.iload_n 0, 1) := by decide +kernel
theorem dm_spread_4 : decode bm_spread 4 = .ok (.iconst 2, 1) := by decide +kernel
theorem dm_spread_5 : decode bm_spread 5 = .ok (.iand, 1) := by decide +kernel
theorem dm_spread_6 : decode bm_spread 6 = .ok (.iconst 1, 1) := by decide +kernel
theorem dm_spread_7 : decode bm_spread 7 = .ok (.ishl, 1) := by decide +kernel
theorem dm_spread_8 : decode bm_spread 8 = .ok (.ior, 1) := by decide +kernel
theorem dm_spread_9 : decode bm_spread 9 = .ok (.iload_n 0, 1) := by decide +kernel
theorem dm_spread_10 : decode bm_spread 10 = .ok (.iconst 4, 1) := by decide +kernel
theorem dm_spread_11 : decode bm_spread 11 = .ok (.iand, 1) := by decide +kernel
theorem dm_spread_12 : decode bm_spread 12 = .ok (.iconst 2, 1) := by decide +kernel
theorem dm_spread_13 : decode bm_spread 13 = .ok (.ishl, 1) := by decide +kernel
theorem dm_spread_14 : decode bm_spread 14 = .ok (.ior, 1) := by decide +kernel
theorem dm_spread_15 : decode bm_spread 15 = .ok (.iload_n 0, 1) := by decide +kernel
theorem dm_spread_16 : decode bm_spread 16 = .ok (.bipush 8, 2) := by decide +kernel
theorem dm_spread_18 : decode bm_spread 18 = .ok (.iand, 1) := by decide +kernel
theorem dm_spread_19 : decode bm_spread 19 = .ok (.iconst 3, 1) := by decide +kernel
theorem dm_spread_20 : decode bm_spread 20 = .ok (.ishl, 1) := by decide +kernel
theorem dm_spread_21 : decode bm_spread 21 = .ok (.ior, 1) := by decide +kernel
theorem dm_spread_22 : decode bm_spread 22 = .ok (.ireturn, 1) := by decide +kernel
set_option maxHeartbeats 4000000 in
set_option maxRecDepth 100000 in
theorem ctm_spread {v : wt_V} {a1 : Int32} {r : Int32} (s : wt_S) (t : wt_M) (o : Nat → Int64) (hF : fm_spread a1 = some r) : ct_C v ym_spread (Cond.code ym_spread bm_spread 1 (some .int)) 1 [.int a1] (some (.int r)) (s, t, o) (s, t, o) := by
  refine ct_of (lv := [(0, .int a1)]) (fun r : Int32 => some (.int r)) (fun _ => (s, t, o)) (by decide) (Nat.le_of_ble_eq_true rfl) rfl ?_ r hF
  intro z hz am
  subst hz
  have am : wt_Am z R_M bm_spread 1 1 (some .int) := am
  show jj_J z 1 0 [(0, .int a1)] [] (s, t, o) (q_I z s t o) (fm_spread a1)
  unfold fm_spread
  refine ji_iload_n (q := 1) am dm_spread_0 rfl 0 rfl rfl ?_
  refine ji_iconst (q := 2) am dm_spread_1 ki_1 rfl ?_
  refine ji_iand (q := 3) am dm_spread_2 rfl ?_
  refine ji_iload_n (q := 4) am dm_spread_3 rfl 0 rfl rfl ?_
  refine ji_iconst (q := 5) am dm_spread_4 ki_2 rfl ?_
  refine ji_iand (q := 6) am dm_spread_5 rfl ?_
  refine ji_iconst (q := 7) am dm_spread_6 ki_1 rfl ?_
  refine ji_ishl (q := 8) am dm_spread_7 rfl ?_
  refine ji_ior (q := 9) am dm_spread_8 rfl ?_
  refine ji_iload_n (q := 10) am dm_spread_9 rfl 0 rfl rfl ?_
  refine ji_iconst (q := 11) am dm_spread_10 ki_4 rfl ?_
  refine ji_iand (q := 12) am dm_spread_11 rfl ?_
  refine ji_iconst (q := 13) am dm_spread_12 ki_2 rfl ?_
  refine ji_ishl (q := 14) am dm_spread_13 rfl ?_
  refine ji_ior (q := 15) am dm_spread_14 rfl ?_
  refine ji_iload_n (q := 16) am dm_spread_15 rfl 0 rfl rfl ?_
  refine ji_bipush (q := 18) am dm_spread_16 kb_8 rfl ?_
  refine ji_iand (q := 19) am dm_spread_18 rfl ?_
  refine ji_iconst (q := 20) am dm_spread_19 ki_3 rfl ?_
  refine ji_ishl (q := 21) am dm_spread_20 rfl ?_
  refine ji_ior (q := 22) am dm_spread_21 rfl ?_
  exact ji_iret am rfl dm_spread_22 rfl rfl

theorem dm_isSet_0 : decode bm_isSet 0 = .ok (.aload_n 0, 1) := by decide +kernel
theorem dm_isSet_1 : decode bm_isSet 1 = .ok (.iload_n 1, 1) := by decide +kernel
theorem dm_isSet_2 : decode bm_isSet 2 = .ok (.invokevirtual 84, 3) := by decide +kernel
theorem dm_isSet_5 : decode bm_isSet 5 = .ok (.sipush 170, 3) := by decide +kernel
theorem dm_isSet_8 : decode bm_isSet 8 = .ok (.iand, 1) := by decide +kernel
theorem dm_isSet_9 : decode bm_isSet 9 = .ok (.ifCond .ne 7, 3) := by decide +kernel
theorem dm_isSet_12 : decode bm_isSet 12 = .ok (.iconst 1, 1) := by decide +kernel
theorem dm_isSet_13 : decode bm_isSet 13 = .ok (.goto 4, 3) := by decide +kernel
theorem dm_isSet_16 : decode bm_isSet 16 = .ok (.iconst 0, 1) := by decide +kernel
theorem dm_isSet_17 : decode bm_isSet 17 = .ok (.ireturn, 1) := by decide +kernel
set_option maxHeartbeats 4000000 in
set_option maxRecDepth 100000 in
theorem ctm_isSet {v : wt_V} {t : wt_M} {a1 : Int32} {r : Int32} (s : wt_S) (o : Nat → Int64) (hF : fm_isSet t a1 = some r) : ct_C v ym_isSet (Cond.code ym_isSet bm_isSet 2 (some .boolean)) 3 [.ref (v.2.1 11), .int a1] (some (.int r)) (s, t, o) (s, t, o) := by
  refine ct_of (lv := [(0, .ref (v.2.1 11)), (1, .int a1)]) (fun r : Int32 => some (.int r)) (fun _ => (s, t, o)) (by decide) (Nat.le_of_ble_eq_true rfl) rfl ?_ r hF
  intro z hz am
  subst hz
  have am : wt_Am z R_M bm_isSet 2 3 (some .boolean) := am
  show jj_J z 2 0 [(0, .ref (ad_ z 11)), (1, .int a1)] [] (s, t, o) (q_I z s t o) (fm_isSet t a1)
  unfold fm_isSet
  refine ji_aload_n (q := 1) am dm_isSet_0 rfl 0 rfl rfl ?_
  refine ji_iload_n (q := 2) am dm_isSet_1 rfl 1 rfl rfl ?_
  refine jk_I (q := 5) (rest := []) (fun r hF => jr_V [.int a1] am ln_M_m_dependsOn (ctm_dependsOn _ _ hF) (by omega) (rc_M am) rfl rfl (Nat.le_of_ble_eq_true rfl) dm_isSet_2) rfl ?_
  intro r2
  refine ji_sipush (q := 8) am dm_isSet_5 ks_170 rfl ?_
  refine ji_iand (q := 9) am dm_isSet_8 rfl ?_
  refine ji_jn2 (fun j => ∀ (y0_17 : Int32), jj_J z 2 17 [] [.int y0_17] (s, t, o) (q_I z s t o) (j y0_17)) ?_ ?_
  · intro y0_17
    exact ji_zret am rfl dm_isSet_17 rfl rfl
  · intro j17 hj17
    refine ji_if_ne (q := 12) (g := 16) am dm_isSet_9 rfl rfl ?_ ?_
    · refine ji_iconst (q := 17) am dm_isSet_16 ki_0 rfl ?_
      exact ji_sub (lv' := []) [] rfl (hj17 _)
    · refine ji_iconst (q := 13) am dm_isSet_12 ki_1 rfl ?_
      refine ji_goto (q := 17) am dm_isSet_13 rfl ?_
      exact ji_sub (lv' := []) [] rfl (hj17 _)

theorem dm_statesOf_0 : decode bm_statesOf 0 = .ok (.iconst 0, 1) := by decide +kernel
theorem dm_statesOf_1 : decode bm_statesOf 1 = .ok (.istore_n 2, 1) := by decide +kernel
theorem dm_statesOf_2 : decode bm_statesOf 2 = .ok (.iconst 0, 1) := by decide +kernel
theorem dm_statesOf_3 : decode bm_statesOf 3 = .ok (.istore_n 3, 1) := by decide +kernel
theorem dm_statesOf_4 : decode bm_statesOf 4 = .ok (.iload_n 3, 1) := by decide +kernel
theorem dm_statesOf_5 : decode bm_statesOf 5 = .ok (.bipush 16, 2) := by decide +kernel
theorem dm_statesOf_7 : decode bm_statesOf 7 = .ok (.if_icmp .ge 31, 3) := by decide +kernel
theorem dm_statesOf_10 : decode bm_statesOf 10 = .ok (.iload_n 2, 1) := by decide +kernel
theorem dm_statesOf_11 : decode bm_statesOf 11 = .ok (.aload_n 0, 1) := by decide +kernel
theorem dm_statesOf_12 : decode bm_statesOf 12 = .ok (.iload_n 1, 1) := by decide +kernel
theorem dm_statesOf_13 : decode bm_statesOf 13 = .ok (.iload_n 3, 1) := by decide +kernel
theorem dm_statesOf_14 : decode bm_statesOf 14 = .ok (.invokestatic 118, 3) := by decide +kernel
theorem dm_statesOf_17 : decode bm_statesOf 17 = .ok (.invokevirtual 76, 3) := by decide +kernel
theorem dm_statesOf_20 : decode bm_statesOf 20 = .ok (.ifCond .eq 9, 3) := by decide +kernel
theorem dm_statesOf_23 : decode bm_statesOf 23 = .ok (.iconst 1, 1) := by decide +kernel
theorem dm_statesOf_24 : decode bm_statesOf 24 = .ok (.iload_n 3, 1) := by decide +kernel
theorem dm_statesOf_25 : decode bm_statesOf 25 = .ok (.ishl, 1) := by decide +kernel
theorem dm_statesOf_26 : decode bm_statesOf 26 = .ok (.goto 4, 3) := by decide +kernel
theorem dm_statesOf_29 : decode bm_statesOf 29 = .ok (.iconst 0, 1) := by decide +kernel
theorem dm_statesOf_30 : decode bm_statesOf 30 = .ok (.ior, 1) := by decide +kernel
theorem dm_statesOf_31 : decode bm_statesOf 31 = .ok (.istore_n 2, 1) := by decide +kernel
theorem dm_statesOf_32 : decode bm_statesOf 32 = .ok (.iinc 3 1, 3) := by decide +kernel
theorem dm_statesOf_35 : decode bm_statesOf 35 = .ok (.goto (-31), 3) := by decide +kernel
theorem dm_statesOf_38 : decode bm_statesOf 38 = .ok (.iload_n 2, 1) := by decide +kernel
theorem dm_statesOf_39 : decode bm_statesOf 39 = .ok (.ireturn, 1) := by decide +kernel
set_option maxHeartbeats 4000000 in
set_option maxRecDepth 100000 in
theorem lm_statesOf_4 {z : wt_Z} {s : wt_S} {t : wt_M} {o : Nat → Int64} {c1 : Int32} (am : wt_Am z R_M bm_statesOf 4 2 (some .int)) : ∀ (n : Nat) (x2 : Int32) (x3 : Int32), jj_J z 4 4 [(0, .ref (ad_ z 11)), (1, .int c1), (2, .int x2), (3, .int x3)] [] (s, t, o) (q_I z s t o) (fm_statesOf_L4 t c1 n x2 x3) := by
  intro n
  induction n with
  | zero =>
    intro x2 x3
    exact ji_none
  | succ n ih =>
    intro x2 x3
    rw [fm_statesOf_L4]
    refine ji_iload_n (q := 5) am dm_statesOf_4 rfl 3 rfl rfl ?_
    refine ji_bipush (q := 7) am dm_statesOf_5 kb_16 rfl ?_
    refine ji_icmp_ge (q := 10) (g := 38) am dm_statesOf_7 rfl rfl ?_ ?_
    · refine ji_iload_n (q := 39) am dm_statesOf_38 rfl 2 rfl rfl ?_
      exact ji_iret am rfl dm_statesOf_39 rfl rfl
    · refine ji_iload_n (q := 11) am dm_statesOf_10 rfl 2 rfl rfl ?_
      refine ji_aload_n (q := 12) am dm_statesOf_11 rfl 0 rfl rfl ?_
      refine ji_iload_n (q := 13) am dm_statesOf_12 rfl 1 rfl rfl ?_
      refine ji_iload_n (q := 14) am dm_statesOf_13 rfl 3 rfl rfl ?_
      refine jk_I (q := 17) (rest := [.int c1, .ref (ad_ z 11), .int x2]) (fun r hF => jr_S [.int x3] am ln_M_m_spread (ctm_spread _ _ _ hF) (by omega) rfl rfl (Nat.le_of_ble_eq_true rfl) dm_statesOf_14) rfl ?_
      intro r14
      refine jk_I (q := 20) (rest := [.int x2]) (fun r hF => jr_V [.int c1, .int r14] am ln_M_m_value (ctm_value _ _ hF) (by omega) (rc_M am) rfl rfl (Nat.le_of_ble_eq_true rfl) dm_statesOf_17) rfl ?_
      intro r17
      refine ji_jn2 (fun j => ∀ (y0_30 : Int32), jj_J z 4 30 [(0, .ref (ad_ z 11)), (1, .int c1), (3, .int x3)] [.int y0_30, .int x2] (s, t, o) (q_I z s t o) (j y0_30)) ?_ ?_
      · intro y0_30
        refine ji_ior (q := 31) am dm_statesOf_30 rfl ?_
        refine ji_istore_n (lv' := [(0, .ref (ad_ z 11)), (1, .int c1), (2, .int (x2 ||| y0_30)), (3, .int x3)]) (q := 32) am dm_statesOf_31 rfl [1, 2, 0, 3] rfl rfl rfl ?_
        refine ji_iinc (q := 35) (lv' := [(0, .ref (ad_ z 11)), (1, .int c1), (2, .int (x2 ||| y0_30)), (3, .int (x3 + 1))]) am dm_statesOf_32 3 rfl ki_1 [1, 2, 3, 0] rfl rfl rfl ?_
        refine ji_goto (q := 4) am dm_statesOf_35 rfl ?_
        exact ih _ _
      · intro j30 hj30
        refine ji_if_eq (q := 23) (g := 29) am dm_statesOf_20 rfl rfl ?_ ?_
        · refine ji_iconst (q := 30) am dm_statesOf_29 ki_0 rfl ?_
          exact ji_sub (lv' := [(0, .ref (ad_ z 11)), (1, .int c1), (3, .int x3)]) [0, 1, 3] rfl (hj30 _)
        · refine ji_iconst (q := 24) am dm_statesOf_23 ki_1 rfl ?_
          refine ji_iload_n (q := 25) am dm_statesOf_24 rfl 3 rfl rfl ?_
          refine ji_ishl (q := 26) am dm_statesOf_25 rfl ?_
          refine ji_goto (q := 30) am dm_statesOf_26 rfl ?_
          exact ji_sub (lv' := [(0, .ref (ad_ z 11)), (1, .int c1), (3, .int x3)]) [0, 1, 3] rfl (hj30 _)
set_option maxHeartbeats 4000000 in
set_option maxRecDepth 100000 in
theorem ctm_statesOf {v : wt_V} {t : wt_M} {a1 : Int32} {r : Int32} (s : wt_S) (o : Nat → Int64) (hF : fm_statesOf t a1 = some r) : ct_C v ym_statesOf (Cond.code ym_statesOf bm_statesOf 4 (some .int)) 2 [.ref (v.2.1 11), .int a1] (some (.int r)) (s, t, o) (s, t, o) := by
  refine ct_of (lv := [(0, .ref (v.2.1 11)), (1, .int a1)]) (fun r : Int32 => some (.int r)) (fun _ => (s, t, o)) (by decide) (Nat.le_of_ble_eq_true rfl) rfl ?_ r hF
  intro z hz am
  subst hz
  have am : wt_Am z R_M bm_statesOf 4 2 (some .int) := am
  show jj_J z 4 0 [(0, .ref (ad_ z 11)), (1, .int a1)] [] (s, t, o) (q_I z s t o) (fm_statesOf t a1)
  unfold fm_statesOf
  refine ji_iconst (q := 1) am dm_statesOf_0 ki_0 rfl ?_
  refine ji_istore_n (lv' := [(0, .ref (ad_ z 11)), (1, .int a1), (2, .int (0 : Int32))]) (q := 2) am dm_statesOf_1 rfl [1, 2, 0] rfl rfl rfl ?_
  refine ji_iconst (q := 3) am dm_statesOf_2 ki_0 rfl ?_
  refine ji_istore_n (lv' := [(0, .ref (ad_ z 11)), (1, .int a1), (2, .int (0 : Int32)), (3, .int (0 : Int32))]) (q := 4) am dm_statesOf_3 rfl [1, 2, 3, 0] rfl rfl rfl ?_
  exact lm_statesOf_4 am 5000 _ _

theorem dm_keepStates_0 : decode bm_keepStates 0 = .ok (.aload_n 0, 1) := by decide +kernel
theorem dm_keepStates_1 : decode bm_keepStates 1 = .ok (.invokevirtual 65, 3) := by decide +kernel
theorem dm_keepStates_4 : decode bm_keepStates 4 = .ok (.iconst 0, 1) := by decide +kernel
theorem dm_keepStates_5 : decode bm_keepStates 5 = .ok (.istore_n 3, 1) := by decide +kernel
theorem dm_keepStates_6 : decode bm_keepStates 6 = .ok (.iload_n 3, 1) := by decide +kernel
theorem dm_keepStates_7 : decode bm_keepStates 7 = .ok (.sipush 256, 3) := by decide +kernel
theorem dm_keepStates_10 : decode bm_keepStates 10 = .ok (.if_icmp .ge 53, 3) := by decide +kernel
theorem dm_keepStates_13 : decode bm_keepStates 13 = .ok (.iload_n 3, 1) := by decide +kernel
theorem dm_keepStates_14 : decode bm_keepStates 14 = .ok (.iconst 1, 1) := by decide +kernel
theorem dm_keepStates_15 : decode bm_keepStates 15 = .ok (.iand, 1) := by decide +kernel
theorem dm_keepStates_16 : decode bm_keepStates 16 = .ok (.iload_n 3, 1) := by decide +kernel
theorem dm_keepStates_17 : decode bm_keepStates 17 = .ok (.iconst 1, 1) := by decide +kernel
theorem dm_keepStates_18 : decode bm_keepStates 18 = .ok (.ishr, 1) := by decide +kernel
theorem dm_keepStates_19 : decode bm_keepStates 19 = .ok (.iconst 2, 1) := by decide +kernel
theorem dm_keepStates_20 : decode bm_keepStates 20 = .ok (.iand, 1) := by decide +kernel
theorem dm_keepStates_21 : decode bm_keepStates 21 = .ok (.ior, 1) := by decide +kernel
theorem dm_keepStates_22 : decode bm_keepStates 22 = .ok (.iload_n 3, 1) := by decide +kernel
theorem dm_keepStates_23 : decode bm_keepStates 23 = .ok (.iconst 2, 1) := by decide +kernel
theorem dm_keepStates_24 : decode bm_keepStates 24 = .ok (.ishr, 1) := by decide +kernel
theorem dm_keepStates_25 : decode bm_keepStates 25 = .ok (.iconst 4, 1) := by decide +kernel
theorem dm_keepStates_26 : decode bm_keepStates 26 = .ok (.iand, 1) := by decide +kernel
theorem dm_keepStates_27 : decode bm_keepStates 27 = .ok (.ior, 1) := by decide +kernel
theorem dm_keepStates_28 : decode bm_keepStates 28 = .ok (.iload_n 3, 1) := by decide +kernel
theorem dm_keepStates_29 : decode bm_keepStates 29 = .ok (.iconst 3, 1) := by decide +kernel
theorem dm_keepStates_30 : decode bm_keepStates 30 = .ok (.ishr, 1) := by decide +kernel
theorem dm_keepStates_31 : decode bm_keepStates 31 = .ok (.bipush 8, 2) := by decide +kernel
theorem dm_keepStates_33 : decode bm_keepStates 33 = .ok (.iand, 1) := by decide +kernel
theorem dm_keepStates_34 : decode bm_keepStates 34 = .ok (.ior, 1) := by decide +kernel
theorem dm_keepStates_35 : decode bm_keepStates 35 = .ok (.istore 4, 2) := by decide +kernel
theorem dm_keepStates_37 : decode bm_keepStates 37 = .ok (.aload_n 0, 1) := by decide +kernel
theorem dm_keepStates_38 : decode bm_keepStates 38 = .ok (.iload_n 3, 1) := by decide +kernel
theorem dm_keepStates_39 : decode bm_keepStates 39 = .ok (.iload_n 2, 1) := by decide +kernel
theorem dm_keepStates_40 : decode bm_keepStates 40 = .ok (.iload 4, 2) := by decide +kernel
theorem dm_keepStates_42 : decode bm_keepStates 42 = .ok (.ishr, 1) := by decide +kernel
theorem dm_keepStates_43 : decode bm_keepStates 43 = .ok (.iconst 1, 1) := by decide +kernel
theorem dm_keepStates_44 : decode bm_keepStates 44 = .ok (.iand, 1) := by decide +kernel
theorem dm_keepStates_45 : decode bm_keepStates 45 = .ok (.iconst 1, 1) := by decide +kernel
theorem dm_keepStates_46 : decode bm_keepStates 46 = .ok (.if_icmp .ne 7, 3) := by decide +kernel
theorem dm_keepStates_49 : decode bm_keepStates 49 = .ok (.iconst 1, 1) := by decide +kernel
theorem dm_keepStates_50 : decode bm_keepStates 50 = .ok (.goto 4, 3) := by decide +kernel
theorem dm_keepStates_53 : decode bm_keepStates 53 = .ok (.iconst 0, 1) := by decide +kernel
theorem dm_keepStates_54 : decode bm_keepStates 54 = .ok (.invokevirtual 68, 3) := by decide +kernel
theorem dm_keepStates_57 : decode bm_keepStates 57 = .ok (.iinc 3 1, 3) := by decide +kernel
theorem dm_keepStates_60 : decode bm_keepStates 60 = .ok (.goto (-54), 3) := by decide +kernel
theorem dm_keepStates_63 : decode bm_keepStates 63 = .ok (.aload_n 0, 1) := by decide +kernel
theorem dm_keepStates_64 : decode bm_keepStates 64 = .ok (.iload_n 1, 1) := by decide +kernel
theorem dm_keepStates_65 : decode bm_keepStates 65 = .ok (.invokevirtual 72, 3) := by decide +kernel
theorem dm_keepStates_68 : decode bm_keepStates 68 = .ok (.return_, 1) := by decide +kernel
set_option maxHeartbeats 4000000 in
set_option maxRecDepth 100000 in
theorem lm_keepStates_6 {z : wt_Z} {s : wt_S} {o : Nat → Int64} {c1 : Int32} {c2 : Int32} {K : wt_M → Option (wt_M)} (am : wt_Am z R_M bm_keepStates 5 2 none) (hK : ∀ (t3 : wt_M), jj_J z 5 63 [(0, .ref (ad_ z 11)), (1, .int c1)] [] (s, t3, o) (q_T z s o) (K t3)) : ∀ (n : Nat) (x3 : Int32) (t : wt_M), jj_J z 5 6 [(0, .ref (ad_ z 11)), (1, .int c1), (2, .int c2), (3, .int x3)] [] (s, t, o) (q_T z s o) (fm_keepStates_L6 c1 c2 K n x3 t) := by
  intro n
  induction n with
  | zero =>
    intro x3 t
    exact ji_none
  | succ n ih =>
    intro x3 t
    rw [fm_keepStates_L6]
    refine ji_iload_n (q := 7) am dm_keepStates_6 rfl 3 rfl rfl ?_
    refine ji_sipush (q := 10) am dm_keepStates_7 ks_256 rfl ?_
    refine ji_icmp_ge (q := 13) (g := 63) am dm_keepStates_10 rfl rfl ?_ ?_
    · exact ji_sub (lv' := [(0, .ref (ad_ z 11)), (1, .int c1)]) [0, 1] rfl (hK _)
    · refine ji_iload_n (q := 14) am dm_keepStates_13 rfl 3 rfl rfl ?_
      refine ji_iconst (q := 15) am dm_keepStates_14 ki_1 rfl ?_
      refine ji_iand (q := 16) am dm_keepStates_15 rfl ?_
      refine ji_iload_n (q := 17) am dm_keepStates_16 rfl 3 rfl rfl ?_
      refine ji_iconst (q := 18) am dm_keepStates_17 ki_1 rfl ?_
      refine ji_ishr (q := 19) am dm_keepStates_18 rfl ?_
      refine ji_iconst (q := 20) am dm_keepStates_19 ki_2 rfl ?_
      refine ji_iand (q := 21) am dm_keepStates_20 rfl ?_
      refine ji_ior (q := 22) am dm_keepStates_21 rfl ?_
      refine ji_iload_n (q := 23) am dm_keepStates_22 rfl 3 rfl rfl ?_
      refine ji_iconst (q := 24) am dm_keepStates_23 ki_2 rfl ?_
      refine ji_ishr (q := 25) am dm_keepStates_24 rfl ?_
      refine ji_iconst (q := 26) am dm_keepStates_25 ki_4 rfl ?_
      refine ji_iand (q := 27) am dm_keepStates_26 rfl ?_
      refine ji_ior (q := 28) am dm_keepStates_27 rfl ?_
      refine ji_iload_n (q := 29) am dm_keepStates_28 rfl 3 rfl rfl ?_
      refine ji_iconst (q := 30) am dm_keepStates_29 ki_3 rfl ?_
      refine ji_ishr (q := 31) am dm_keepStates_30 rfl ?_
      refine ji_bipush (q := 33) am dm_keepStates_31 kb_8 rfl ?_
      refine ji_iand (q := 34) am dm_keepStates_33 rfl ?_
      refine ji_ior (q := 35) am dm_keepStates_34 rfl ?_
      refine ji_istore (lv' := [(0, .ref (ad_ z 11)), (1, .int c1), (2, .int c2), (3, .int x3), (4, .int ((((x3 &&& (1 : Int32)) ||| ((x3 >>> ((1 : Int32) &&& 31)) &&& (2 : Int32))) ||| ((x3 >>> ((2 : Int32) &&& 31)) &&& (4 : Int32))) ||| ((x3 >>> ((3 : Int32) &&& 31)) &&& (8 : Int32))))]) (q := 37) am dm_keepStates_35 [1, 2, 3, 4, 0] rfl rfl rfl ?_
      refine ji_aload_n (q := 38) am dm_keepStates_37 rfl 0 rfl rfl ?_
      refine ji_iload_n (q := 39) am dm_keepStates_38 rfl 3 rfl rfl ?_
      refine ji_iload_n (q := 40) am dm_keepStates_39 rfl 2 rfl rfl ?_
      refine ji_iload (q := 42) am dm_keepStates_40 4 rfl rfl ?_
      refine ji_ishr (q := 43) am dm_keepStates_42 rfl ?_
      refine ji_iconst (q := 44) am dm_keepStates_43 ki_1 rfl ?_
      refine ji_iand (q := 45) am dm_keepStates_44 rfl ?_
      refine ji_iconst (q := 46) am dm_keepStates_45 ki_1 rfl ?_
      refine ji_jn2 (fun j => ∀ (y0_54 : Int32), jj_J z 5 54 [(0, .ref (ad_ z 11)), (1, .int c1), (2, .int c2), (3, .int x3)] [.int y0_54, .int x3, .ref (ad_ z 11)] (s, t, o) (q_T z s o) (j y0_54)) ?_ ?_
      · intro y0_54
        refine jk_T (q := 57) (rest := []) (fun t2 hF => jr_V [.int x3, .int y0_54] am ln_M_m_set (ctm_set _ _ hF) (by omega) (rc_M am) rfl rfl (Nat.le_of_ble_eq_true rfl) dm_keepStates_54) rfl ?_
        intro t54
        refine ji_iinc (q := 60) (lv' := [(0, .ref (ad_ z 11)), (1, .int c1), (2, .int c2), (3, .int (x3 + 1))]) am dm_keepStates_57 3 rfl ki_1 [1, 2, 3, 0] rfl rfl rfl ?_
        refine ji_goto (q := 6) am dm_keepStates_60 rfl ?_
        exact ih _ _
      · intro j54 hj54
        refine ji_icmp_ne (q := 49) (g := 53) am dm_keepStates_46 rfl rfl ?_ ?_
        · refine ji_iconst (q := 54) am dm_keepStates_53 ki_0 rfl ?_
          exact ji_sub (lv' := [(0, .ref (ad_ z 11)), (1, .int c1), (2, .int c2), (3, .int x3)]) [0, 1, 2, 3] rfl (hj54 _)
        · refine ji_iconst (q := 50) am dm_keepStates_49 ki_1 rfl ?_
          refine ji_goto (q := 54) am dm_keepStates_50 rfl ?_
          exact ji_sub (lv' := [(0, .ref (ad_ z 11)), (1, .int c1), (2, .int c2), (3, .int x3)]) [0, 1, 2, 3] rfl (hj54 _)
set_option maxHeartbeats 4000000 in
set_option maxRecDepth 100000 in
theorem ctm_keepStates {v : wt_V} {t : wt_M} {a1 : Int32} {a2 : Int32} {t2 : wt_M} (s : wt_S) (o : Nat → Int64) (hF : fm_keepStates t a1 a2 = some t2) : ct_C v ym_keepStates (Cond.code ym_keepStates bm_keepStates 5 none) 2 [.ref (v.2.1 11), .int a1, .int a2] none (s, t, o) (s, t2, o) := by
  refine ct_of (lv := [(0, .ref (v.2.1 11)), (1, .int a1), (2, .int a2)]) (fun _ : wt_M => none) (fun r => (s, r, o)) (by decide) (Nat.le_of_ble_eq_true rfl) rfl ?_ t2 hF
  intro z hz am
  subst hz
  have am : wt_Am z R_M bm_keepStates 5 2 none := am
  show jj_J z 5 0 [(0, .ref (ad_ z 11)), (1, .int a1), (2, .int a2)] [] (s, t, o) (q_T z s o) (fm_keepStates t a1 a2)
  unfold fm_keepStates
  refine ji_aload_n (q := 1) am dm_keepStates_0 rfl 0 rfl rfl ?_
  refine jk_T (q := 4) (rest := []) (fun t2 hF => jr_V [] am ln_M_m_clear (ctm_clear _ _ hF) (by omega) (rc_M am) rfl rfl (Nat.le_of_ble_eq_true rfl) dm_keepStates_1) rfl ?_
  intro t1
  refine ji_iconst (q := 5) am dm_keepStates_4 ki_0 rfl ?_
  refine ji_istore_n (lv' := [(0, .ref (ad_ z 11)), (1, .int a1), (2, .int a2), (3, .int (0 : Int32))]) (q := 6) am dm_keepStates_5 rfl [1, 2, 3, 0] rfl rfl rfl ?_
  refine lm_keepStates_6 am (fun t_6 => ?_) 5000 _ _
  refine ji_aload_n (q := 64) am dm_keepStates_63 rfl 0 rfl rfl ?_
  refine ji_iload_n (q := 65) am dm_keepStates_64 rfl 1 rfl rfl ?_
  refine jk_T (q := 68) (rest := []) (fun t2 hF => jr_V [.int a1] am ln_M_m_keep (ctm_keep _ _ hF) (by omega) (rc_M am) rfl rfl (Nat.le_of_ble_eq_true rfl) dm_keepStates_65) rfl ?_
  intro t65
  exact ji_vret am rfl dm_keepStates_68 rfl rfl

theorem dm_learnSteps_0 : decode bm_learnSteps 0 = .ok (.iconst 0, 1) := by decide +kernel
theorem dm_learnSteps_1 : decode bm_learnSteps 1 = .ok (.istore_n 2, 1) := by decide +kernel
theorem dm_learnSteps_2 : decode bm_learnSteps 2 = .ok (.iload_n 2, 1) := by decide +kernel
theorem dm_learnSteps_3 : decode bm_learnSteps 3 = .ok (.bipush 16, 2) := by decide +kernel
theorem dm_learnSteps_5 : decode bm_learnSteps 5 = .ok (.if_icmp .ge 65, 3) := by decide +kernel
theorem dm_learnSteps_8 : decode bm_learnSteps 8 = .ok (.aload_n 0, 1) := by decide +kernel
theorem dm_learnSteps_9 : decode bm_learnSteps 9 = .ok (.getfield 47, 3) := by decide +kernel
theorem dm_learnSteps_12 : decode bm_learnSteps 12 = .ok (.iload_n 2, 1) := by decide +kernel
theorem dm_learnSteps_13 : decode bm_learnSteps 13 = .ok (.iconst 0, 1) := by decide +kernel
theorem dm_learnSteps_14 : decode bm_learnSteps 14 = .ok (.iastore, 1) := by decide +kernel
theorem dm_learnSteps_15 : decode bm_learnSteps 15 = .ok (.iconst 0, 1) := by decide +kernel
theorem dm_learnSteps_16 : decode bm_learnSteps 16 = .ok (.istore_n 3, 1) := by decide +kernel
theorem dm_learnSteps_17 : decode bm_learnSteps 17 = .ok (.iload_n 3, 1) := by decide +kernel
theorem dm_learnSteps_18 : decode bm_learnSteps 18 = .ok (.bipush 16, 2) := by decide +kernel
theorem dm_learnSteps_20 : decode bm_learnSteps 20 = .ok (.if_icmp .ge 44, 3) := by decide +kernel
theorem dm_learnSteps_23 : decode bm_learnSteps 23 = .ok (.aload_n 0, 1) := by decide +kernel
theorem dm_learnSteps_24 : decode bm_learnSteps 24 = .ok (.getfield 47, 3) := by decide +kernel
theorem dm_learnSteps_27 : decode bm_learnSteps 27 = .ok (.iload_n 2, 1) := by decide +kernel
theorem dm_learnSteps_28 : decode bm_learnSteps 28 = .ok (.dup2, 1) := by decide +kernel
theorem dm_learnSteps_29 : decode bm_learnSteps 29 = .ok (.iaload, 1) := by decide +kernel
theorem dm_learnSteps_30 : decode bm_learnSteps 30 = .ok (.aload_n 0, 1) := by decide +kernel
theorem dm_learnSteps_31 : decode bm_learnSteps 31 = .ok (.iload_n 1, 1) := by decide +kernel
theorem dm_learnSteps_32 : decode bm_learnSteps 32 = .ok (.iload_n 2, 1) := by decide +kernel
theorem dm_learnSteps_33 : decode bm_learnSteps 33 = .ok (.invokestatic 118, 3) := by decide +kernel
theorem dm_learnSteps_36 : decode bm_learnSteps 36 = .ok (.iload_n 3, 1) := by decide +kernel
theorem dm_learnSteps_37 : decode bm_learnSteps 37 = .ok (.invokestatic 118, 3) := by decide +kernel
theorem dm_learnSteps_40 : decode bm_learnSteps 40 = .ok (.iconst 1, 1) := by decide +kernel
theorem dm_learnSteps_41 : decode bm_learnSteps 41 = .ok (.ishl, 1) := by decide +kernel
theorem dm_learnSteps_42 : decode bm_learnSteps 42 = .ok (.ior, 1) := by decide +kernel
theorem dm_learnSteps_43 : decode bm_learnSteps 43 = .ok (.invokevirtual 76, 3) := by decide +kernel
theorem dm_learnSteps_46 : decode bm_learnSteps 46 = .ok (.ifCond .eq 9, 3) := by decide +kernel
theorem dm_learnSteps_49 : decode bm_learnSteps 49 = .ok (.iconst 1, 1) := by decide +kernel
theorem dm_learnSteps_50 : decode bm_learnSteps 50 = .ok (.iload_n 3, 1) := by decide +kernel
theorem dm_learnSteps_51 : decode bm_learnSteps 51 = .ok (.ishl, 1) := by decide +kernel
theorem dm_learnSteps_52 : decode bm_learnSteps 52 = .ok (.goto 4, 3) := by decide +kernel
theorem dm_learnSteps_55 : decode bm_learnSteps 55 = .ok (.iconst 0, 1) := by decide +kernel
theorem dm_learnSteps_56 : decode bm_learnSteps 56 = .ok (.ior, 1) := by decide +kernel
theorem dm_learnSteps_57 : decode bm_learnSteps 57 = .ok (.iastore, 1) := by decide +kernel
theorem dm_learnSteps_58 : decode bm_learnSteps 58 = .ok (.iinc 3 1, 3) := by decide +kernel
theorem dm_learnSteps_61 : decode bm_learnSteps 61 = .ok (.goto (-44), 3) := by decide +kernel
theorem dm_learnSteps_64 : decode bm_learnSteps 64 = .ok (.iinc 2 1, 3) := by decide +kernel
theorem dm_learnSteps_67 : decode bm_learnSteps 67 = .ok (.goto (-65), 3) := by decide +kernel
theorem dm_learnSteps_70 : decode bm_learnSteps 70 = .ok (.return_, 1) := by decide +kernel
set_option maxHeartbeats 4000000 in
set_option maxRecDepth 100000 in
theorem lm_learnSteps_17 {z : wt_Z} {s : wt_S} {o : Nat → Int64} {c1 : Int32} {c2 : Int32} {K : wt_M → Option (wt_M)} (am : wt_Am z R_M bm_learnSteps 4 2 none) (hK : ∀ (t3 : wt_M), jj_J z 4 64 [(0, .ref (ad_ z 11)), (1, .int c1), (2, .int c2)] [] (s, t3, o) (q_T z s o) (K t3)) : ∀ (n : Nat) (x3 : Int32) (t : wt_M), jj_J z 4 17 [(0, .ref (ad_ z 11)), (1, .int c1), (2, .int c2), (3, .int x3)] [] (s, t, o) (q_T z s o) (fm_learnSteps_L17 c1 c2 K n x3 t) := by
  intro n
  induction n with
  | zero =>
    intro x3 t
    exact ji_none
  | succ n ih =>
    intro x3 t
    rw [fm_learnSteps_L17]
    refine ji_iload_n (q := 18) am dm_learnSteps_17 rfl 3 rfl rfl ?_
    refine ji_bipush (q := 20) am dm_learnSteps_18 kb_16 rfl ?_
    refine ji_icmp_ge (q := 23) (g := 64) am dm_learnSteps_20 rfl rfl ?_ ?_
    · exact ji_sub (lv' := [(0, .ref (ad_ z 11)), (1, .int c1), (2, .int c2)]) [0, 1, 2] rfl (hK _)
    · refine ji_aload_n (q := 24) am dm_learnSteps_23 rfl 0 rfl rfl ?_
      refine ji_get_M_steps (q := 27) am dm_learnSteps_24 rfl ?_
      refine ji_iload_n (q := 28) am dm_learnSteps_27 rfl 2 rfl rfl ?_
      refine ji_dup2 (q := 29) am dm_learnSteps_28 rfl rfl rfl ?_
      refine ji_ald_Msteps (q := 30) am dm_learnSteps_29 rfl ?_
      intro v29
      refine ji_aload_n (q := 31) am dm_learnSteps_30 rfl 0 rfl rfl ?_
      refine ji_iload_n (q := 32) am dm_learnSteps_31 rfl 1 rfl rfl ?_
      refine ji_iload_n (q := 33) am dm_learnSteps_32 rfl 2 rfl rfl ?_
      refine jk_I (q := 36) (rest := [.int c1, .ref (ad_ z 11), .int v29, .int c2, .ref (ad_ z 17)]) (fun r hF => jr_S [.int c2] am ln_M_m_spread (ctm_spread _ _ _ hF) (by omega) rfl rfl (Nat.le_of_ble_eq_true rfl) dm_learnSteps_33) rfl ?_
      intro r33
      refine ji_iload_n (q := 37) am dm_learnSteps_36 rfl 3 rfl rfl ?_
      refine jk_I (q := 40) (rest := [.int r33, .int c1, .ref (ad_ z 11), .int v29, .int c2, .ref (ad_ z 17)]) (fun r hF => jr_S [.int x3] am ln_M_m_spread (ctm_spread _ _ _ hF) (by omega) rfl rfl (Nat.le_of_ble_eq_true rfl) dm_learnSteps_37) rfl ?_
      intro r37
      refine ji_iconst (q := 41) am dm_learnSteps_40 ki_1 rfl ?_
      refine ji_ishl (q := 42) am dm_learnSteps_41 rfl ?_
      refine ji_ior (q := 43) am dm_learnSteps_42 rfl ?_
      refine jk_I (q := 46) (rest := [.int v29, .int c2, .ref (ad_ z 17)]) (fun r hF => jr_V [.int c1, .int (r33 ||| (r37 <<< ((1 : Int32) &&& 31)))] am ln_M_m_value (ctm_value _ _ hF) (by omega) (rc_M am) rfl rfl (Nat.le_of_ble_eq_true rfl) dm_learnSteps_43) rfl ?_
      intro r43
      refine ji_jn2 (fun j => ∀ (y0_56 : Int32), jj_J z 4 56 [(0, .ref (ad_ z 11)), (1, .int c1), (2, .int c2), (3, .int x3)] [.int y0_56, .int v29, .int c2, .ref (ad_ z 17)] (s, t, o) (q_T z s o) (j y0_56)) ?_ ?_
      · intro y0_56
        refine ji_ior (q := 57) am dm_learnSteps_56 rfl ?_
        refine ji_ast_Msteps (q := 58) am dm_learnSteps_57 rfl ?_
        intro t57
        refine ji_iinc (q := 61) (lv' := [(0, .ref (ad_ z 11)), (1, .int c1), (2, .int c2), (3, .int (x3 + 1))]) am dm_learnSteps_58 3 rfl ki_1 [1, 2, 3, 0] rfl rfl rfl ?_
        refine ji_goto (q := 17) am dm_learnSteps_61 rfl ?_
        exact ih _ _
      · intro j56 hj56
        refine ji_if_eq (q := 49) (g := 55) am dm_learnSteps_46 rfl rfl ?_ ?_
        · refine ji_iconst (q := 56) am dm_learnSteps_55 ki_0 rfl ?_
          exact hj56 _
        · refine ji_iconst (q := 50) am dm_learnSteps_49 ki_1 rfl ?_
          refine ji_iload_n (q := 51) am dm_learnSteps_50 rfl 3 rfl rfl ?_
          refine ji_ishl (q := 52) am dm_learnSteps_51 rfl ?_
          refine ji_goto (q := 56) am dm_learnSteps_52 rfl ?_
          exact hj56 _
set_option maxHeartbeats 4000000 in
set_option maxRecDepth 100000 in
theorem lm_learnSteps_2 {z : wt_Z} {s : wt_S} {o : Nat → Int64} {c1 : Int32} (am : wt_Am z R_M bm_learnSteps 4 2 none) : ∀ (n : Nat) (x2 : Int32) (t : wt_M), jj_J z 4 2 [(0, .ref (ad_ z 11)), (1, .int c1), (2, .int x2)] [] (s, t, o) (q_T z s o) (fm_learnSteps_L2 c1 n x2 t) := by
  intro n
  induction n with
  | zero =>
    intro x2 t
    exact ji_none
  | succ n ih =>
    intro x2 t
    rw [fm_learnSteps_L2]
    refine ji_iload_n (q := 3) am dm_learnSteps_2 rfl 2 rfl rfl ?_
    refine ji_bipush (q := 5) am dm_learnSteps_3 kb_16 rfl ?_
    refine ji_icmp_ge (q := 8) (g := 70) am dm_learnSteps_5 rfl rfl ?_ ?_
    · exact ji_vret am rfl dm_learnSteps_70 rfl rfl
    · refine ji_aload_n (q := 9) am dm_learnSteps_8 rfl 0 rfl rfl ?_
      refine ji_get_M_steps (q := 12) am dm_learnSteps_9 rfl ?_
      refine ji_iload_n (q := 13) am dm_learnSteps_12 rfl 2 rfl rfl ?_
      refine ji_iconst (q := 14) am dm_learnSteps_13 ki_0 rfl ?_
      refine ji_ast_Msteps (q := 15) am dm_learnSteps_14 rfl ?_
      intro t14
      refine ji_iconst (q := 16) am dm_learnSteps_15 ki_0 rfl ?_
      refine ji_istore_n (lv' := [(0, .ref (ad_ z 11)), (1, .int c1), (2, .int x2), (3, .int (0 : Int32))]) (q := 17) am dm_learnSteps_16 rfl [1, 2, 3, 0] rfl rfl rfl ?_
      refine lm_learnSteps_17 am (fun t_17 => ?_) 5000 _ _
      refine ji_iinc (q := 67) (lv' := [(0, .ref (ad_ z 11)), (1, .int c1), (2, .int (x2 + 1))]) am dm_learnSteps_64 2 rfl ki_1 [1, 2, 0] rfl rfl rfl ?_
      refine ji_goto (q := 2) am dm_learnSteps_67 rfl ?_
      exact ih _ _
set_option maxHeartbeats 4000000 in
set_option maxRecDepth 100000 in
theorem ctm_learnSteps {v : wt_V} {t : wt_M} {a1 : Int32} {t2 : wt_M} (s : wt_S) (o : Nat → Int64) (hF : fm_learnSteps t a1 = some t2) : ct_C v ym_learnSteps (Cond.code ym_learnSteps bm_learnSteps 4 none) 2 [.ref (v.2.1 11), .int a1] none (s, t, o) (s, t2, o) := by
  refine ct_of (lv := [(0, .ref (v.2.1 11)), (1, .int a1)]) (fun _ : wt_M => none) (fun r => (s, r, o)) (by decide) (Nat.le_of_ble_eq_true rfl) rfl ?_ t2 hF
  intro z hz am
  subst hz
  have am : wt_Am z R_M bm_learnSteps 4 2 none := am
  show jj_J z 4 0 [(0, .ref (ad_ z 11)), (1, .int a1)] [] (s, t, o) (q_T z s o) (fm_learnSteps t a1)
  unfold fm_learnSteps
  refine ji_iconst (q := 1) am dm_learnSteps_0 ki_0 rfl ?_
  refine ji_istore_n (lv' := [(0, .ref (ad_ z 11)), (1, .int a1), (2, .int (0 : Int32))]) (q := 2) am dm_learnSteps_1 rfl [1, 2, 0] rfl rfl rfl ?_
  exact lm_learnSteps_2 am 5000 _ _

theorem dm_imageOf_0 : decode bm_imageOf 0 = .ok (.iconst 0, 1) := by decide +kernel
theorem dm_imageOf_1 : decode bm_imageOf 1 = .ok (.istore_n 2, 1) := by decide +kernel
theorem dm_imageOf_2 : decode bm_imageOf 2 = .ok (.iconst 0, 1) := by decide +kernel
theorem dm_imageOf_3 : decode bm_imageOf 3 = .ok (.istore_n 3, 1) := by decide +kernel
theorem dm_imageOf_4 : decode bm_imageOf 4 = .ok (.iload_n 3, 1) := by decide +kernel
theorem dm_imageOf_5 : decode bm_imageOf 5 = .ok (.bipush 16, 2) := by decide +kernel
theorem dm_imageOf_7 : decode bm_imageOf 7 = .ok (.if_icmp .ge 31, 3) := by decide +kernel
theorem dm_imageOf_10 : decode bm_imageOf 10 = .ok (.iload_n 2, 1) := by decide +kernel
theorem dm_imageOf_11 : decode bm_imageOf 11 = .ok (.iload_n 1, 1) := by decide +kernel
theorem dm_imageOf_12 : decode bm_imageOf 12 = .ok (.iload_n 3, 1) := by decide +kernel
theorem dm_imageOf_13 : decode bm_imageOf 13 = .ok (.ishr, 1) := by decide +kernel
theorem dm_imageOf_14 : decode bm_imageOf 14 = .ok (.iconst 1, 1) := by decide +kernel
theorem dm_imageOf_15 : decode bm_imageOf 15 = .ok (.iand, 1) := by decide +kernel
theorem dm_imageOf_16 : decode bm_imageOf 16 = .ok (.iconst 1, 1) := by decide +kernel
theorem dm_imageOf_17 : decode bm_imageOf 17 = .ok (.if_icmp .ne 12, 3) := by decide +kernel
theorem dm_imageOf_20 : decode bm_imageOf 20 = .ok (.aload_n 0, 1) := by decide +kernel
theorem dm_imageOf_21 : decode bm_imageOf 21 = .ok (.getfield 47, 3) := by decide +kernel
theorem dm_imageOf_24 : decode bm_imageOf 24 = .ok (.iload_n 3, 1) := by decide +kernel
theorem dm_imageOf_25 : decode bm_imageOf 25 = .ok (.iaload, 1) := by decide +kernel
theorem dm_imageOf_26 : decode bm_imageOf 26 = .ok (.goto 4, 3) := by decide +kernel
theorem dm_imageOf_29 : decode bm_imageOf 29 = .ok (.iconst 0, 1) := by decide +kernel
theorem dm_imageOf_30 : decode bm_imageOf 30 = .ok (.ior, 1) := by decide +kernel
theorem dm_imageOf_31 : decode bm_imageOf 31 = .ok (.istore_n 2, 1) := by decide +kernel
theorem dm_imageOf_32 : decode bm_imageOf 32 = .ok (.iinc 3 1, 3) := by decide +kernel
theorem dm_imageOf_35 : decode bm_imageOf 35 = .ok (.goto (-31), 3) := by decide +kernel
theorem dm_imageOf_38 : decode bm_imageOf 38 = .ok (.iload_n 2, 1) := by decide +kernel
theorem dm_imageOf_39 : decode bm_imageOf 39 = .ok (.ireturn, 1) := by decide +kernel
set_option maxHeartbeats 4000000 in
set_option maxRecDepth 100000 in
theorem lm_imageOf_4 {z : wt_Z} {s : wt_S} {t : wt_M} {o : Nat → Int64} {c1 : Int32} (am : wt_Am z R_M bm_imageOf 4 1 (some .int)) : ∀ (n : Nat) (x2 : Int32) (x3 : Int32), jj_J z 4 4 [(0, .ref (ad_ z 11)), (1, .int c1), (2, .int x2), (3, .int x3)] [] (s, t, o) (q_I z s t o) (fm_imageOf_L4 t c1 n x2 x3) := by
  intro n
  induction n with
  | zero =>
    intro x2 x3
    exact ji_none
  | succ n ih =>
    intro x2 x3
    rw [fm_imageOf_L4]
    refine ji_iload_n (q := 5) am dm_imageOf_4 rfl 3 rfl rfl ?_
    refine ji_bipush (q := 7) am dm_imageOf_5 kb_16 rfl ?_
    refine ji_icmp_ge (q := 10) (g := 38) am dm_imageOf_7 rfl rfl ?_ ?_
    · refine ji_iload_n (q := 39) am dm_imageOf_38 rfl 2 rfl rfl ?_
      exact ji_iret am rfl dm_imageOf_39 rfl rfl
    · refine ji_iload_n (q := 11) am dm_imageOf_10 rfl 2 rfl rfl ?_
      refine ji_iload_n (q := 12) am dm_imageOf_11 rfl 1 rfl rfl ?_
      refine ji_iload_n (q := 13) am dm_imageOf_12 rfl 3 rfl rfl ?_
      refine ji_ishr (q := 14) am dm_imageOf_13 rfl ?_
      refine ji_iconst (q := 15) am dm_imageOf_14 ki_1 rfl ?_
      refine ji_iand (q := 16) am dm_imageOf_15 rfl ?_
      refine ji_iconst (q := 17) am dm_imageOf_16 ki_1 rfl ?_
      refine ji_jn2 (fun j => ∀ (y0_30 : Int32), jj_J z 4 30 [(0, .ref (ad_ z 11)), (1, .int c1), (3, .int x3)] [.int y0_30, .int x2] (s, t, o) (q_I z s t o) (j y0_30)) ?_ ?_
      · intro y0_30
        refine ji_ior (q := 31) am dm_imageOf_30 rfl ?_
        refine ji_istore_n (lv' := [(0, .ref (ad_ z 11)), (1, .int c1), (2, .int (x2 ||| y0_30)), (3, .int x3)]) (q := 32) am dm_imageOf_31 rfl [1, 2, 0, 3] rfl rfl rfl ?_
        refine ji_iinc (q := 35) (lv' := [(0, .ref (ad_ z 11)), (1, .int c1), (2, .int (x2 ||| y0_30)), (3, .int (x3 + 1))]) am dm_imageOf_32 3 rfl ki_1 [1, 2, 3, 0] rfl rfl rfl ?_
        refine ji_goto (q := 4) am dm_imageOf_35 rfl ?_
        exact ih _ _
      · intro j30 hj30
        refine ji_icmp_ne (q := 20) (g := 29) am dm_imageOf_17 rfl rfl ?_ ?_
        · refine ji_iconst (q := 30) am dm_imageOf_29 ki_0 rfl ?_
          exact ji_sub (lv' := [(0, .ref (ad_ z 11)), (1, .int c1), (3, .int x3)]) [0, 1, 3] rfl (hj30 _)
        · refine ji_aload_n (q := 21) am dm_imageOf_20 rfl 0 rfl rfl ?_
          refine ji_get_M_steps (q := 24) am dm_imageOf_21 rfl ?_
          refine ji_iload_n (q := 25) am dm_imageOf_24 rfl 3 rfl rfl ?_
          refine ji_ald_Msteps (q := 26) am dm_imageOf_25 rfl ?_
          intro v25
          refine ji_goto (q := 30) am dm_imageOf_26 rfl ?_
          exact ji_sub (lv' := [(0, .ref (ad_ z 11)), (1, .int c1), (3, .int x3)]) [0, 1, 3] rfl (hj30 _)
set_option maxHeartbeats 4000000 in
set_option maxRecDepth 100000 in
theorem ctm_imageOf {v : wt_V} {t : wt_M} {a1 : Int32} {r : Int32} (s : wt_S) (o : Nat → Int64) (hF : fm_imageOf t a1 = some r) : ct_C v ym_imageOf (Cond.code ym_imageOf bm_imageOf 4 (some .int)) 1 [.ref (v.2.1 11), .int a1] (some (.int r)) (s, t, o) (s, t, o) := by
  refine ct_of (lv := [(0, .ref (v.2.1 11)), (1, .int a1)]) (fun r : Int32 => some (.int r)) (fun _ => (s, t, o)) (by decide) (Nat.le_of_ble_eq_true rfl) rfl ?_ r hF
  intro z hz am
  subst hz
  have am : wt_Am z R_M bm_imageOf 4 1 (some .int) := am
  show jj_J z 4 0 [(0, .ref (ad_ z 11)), (1, .int a1)] [] (s, t, o) (q_I z s t o) (fm_imageOf t a1)
  unfold fm_imageOf
  refine ji_iconst (q := 1) am dm_imageOf_0 ki_0 rfl ?_
  refine ji_istore_n (lv' := [(0, .ref (ad_ z 11)), (1, .int a1), (2, .int (0 : Int32))]) (q := 2) am dm_imageOf_1 rfl [1, 2, 0] rfl rfl rfl ?_
  refine ji_iconst (q := 3) am dm_imageOf_2 ki_0 rfl ?_
  refine ji_istore_n (lv' := [(0, .ref (ad_ z 11)), (1, .int a1), (2, .int (0 : Int32)), (3, .int (0 : Int32))]) (q := 4) am dm_imageOf_3 rfl [1, 2, 3, 0] rfl rfl rfl ?_
  exact lm_imageOf_4 am 5000 _ _

theorem dm_stepsTo_0 : decode bm_stepsTo 0 = .ok (.iconst 0, 1) := by decide +kernel
theorem dm_stepsTo_1 : decode bm_stepsTo 1 = .ok (.istore_n 2, 1) := by decide +kernel
theorem dm_stepsTo_2 : decode bm_stepsTo 2 = .ok (.iconst 0, 1) := by decide +kernel
theorem dm_stepsTo_3 : decode bm_stepsTo 3 = .ok (.istore_n 3, 1) := by decide +kernel
theorem dm_stepsTo_4 : decode bm_stepsTo 4 = .ok (.iload_n 3, 1) := by decide +kernel
theorem dm_stepsTo_5 : decode bm_stepsTo 5 = .ok (.bipush 16, 2) := by decide +kernel
theorem dm_stepsTo_7 : decode bm_stepsTo 7 = .ok (.if_icmp .ge 30, 3) := by decide +kernel
theorem dm_stepsTo_10 : decode bm_stepsTo 10 = .ok (.iload_n 2, 1) := by decide +kernel
theorem dm_stepsTo_11 : decode bm_stepsTo 11 = .ok (.aload_n 0, 1) := by decide +kernel
theorem dm_stepsTo_12 : decode bm_stepsTo 12 = .ok (.getfield 47, 3) := by decide +kernel
theorem dm_stepsTo_15 : decode bm_stepsTo 15 = .ok (.iload_n 3, 1) := by decide +kernel
theorem dm_stepsTo_16 : decode bm_stepsTo 16 = .ok (.iaload, 1) := by decide +kernel
theorem dm_stepsTo_17 : decode bm_stepsTo 17 = .ok (.iload_n 1, 1) := by decide +kernel
theorem dm_stepsTo_18 : decode bm_stepsTo 18 = .ok (.iand, 1) := by decide +kernel
theorem dm_stepsTo_19 : decode bm_stepsTo 19 = .ok (.ifCond .eq 9, 3) := by decide +kernel
theorem dm_stepsTo_22 : decode bm_stepsTo 22 = .ok (.iconst 1, 1) := by decide +kernel
theorem dm_stepsTo_23 : decode bm_stepsTo 23 = .ok (.iload_n 3, 1) := by decide +kernel
theorem dm_stepsTo_24 : decode bm_stepsTo 24 = .ok (.ishl, 1) := by decide +kernel
theorem dm_stepsTo_25 : decode bm_stepsTo 25 = .ok (.goto 4, 3) := by decide +kernel
theorem dm_stepsTo_28 : decode bm_stepsTo 28 = .ok (.iconst 0, 1) := by decide +kernel
theorem dm_stepsTo_29 : decode bm_stepsTo 29 = .ok (.ior, 1) := by decide +kernel
theorem dm_stepsTo_30 : decode bm_stepsTo 30 = .ok (.istore_n 2, 1) := by decide +kernel
theorem dm_stepsTo_31 : decode bm_stepsTo 31 = .ok (.iinc 3 1, 3) := by decide +kernel
theorem dm_stepsTo_34 : decode bm_stepsTo 34 = .ok (.goto (-30), 3) := by decide +kernel
theorem dm_stepsTo_37 : decode bm_stepsTo 37 = .ok (.iload_n 2, 1) := by decide +kernel
theorem dm_stepsTo_38 : decode bm_stepsTo 38 = .ok (.ireturn, 1) := by decide +kernel
set_option maxHeartbeats 4000000 in
set_option maxRecDepth 100000 in
theorem lm_stepsTo_4 {z : wt_Z} {s : wt_S} {t : wt_M} {o : Nat → Int64} {c1 : Int32} (am : wt_Am z R_M bm_stepsTo 4 1 (some .int)) : ∀ (n : Nat) (x2 : Int32) (x3 : Int32), jj_J z 4 4 [(0, .ref (ad_ z 11)), (1, .int c1), (2, .int x2), (3, .int x3)] [] (s, t, o) (q_I z s t o) (fm_stepsTo_L4 t c1 n x2 x3) := by
  intro n
  induction n with
  | zero =>
    intro x2 x3
    exact ji_none
  | succ n ih =>
    intro x2 x3
    rw [fm_stepsTo_L4]
    refine ji_iload_n (q := 5) am dm_stepsTo_4 rfl 3 rfl rfl ?_
    refine ji_bipush (q := 7) am dm_stepsTo_5 kb_16 rfl ?_
    refine ji_icmp_ge (q := 10) (g := 37) am dm_stepsTo_7 rfl rfl ?_ ?_
    · refine ji_iload_n (q := 38) am dm_stepsTo_37 rfl 2 rfl rfl ?_
      exact ji_iret am rfl dm_stepsTo_38 rfl rfl
    · refine ji_iload_n (q := 11) am dm_stepsTo_10 rfl 2 rfl rfl ?_
      refine ji_aload_n (q := 12) am dm_stepsTo_11 rfl 0 rfl rfl ?_
      refine ji_get_M_steps (q := 15) am dm_stepsTo_12 rfl ?_
      refine ji_iload_n (q := 16) am dm_stepsTo_15 rfl 3 rfl rfl ?_
      refine ji_ald_Msteps (q := 17) am dm_stepsTo_16 rfl ?_
      intro v16
      refine ji_iload_n (q := 18) am dm_stepsTo_17 rfl 1 rfl rfl ?_
      refine ji_iand (q := 19) am dm_stepsTo_18 rfl ?_
      refine ji_jn2 (fun j => ∀ (y0_29 : Int32), jj_J z 4 29 [(0, .ref (ad_ z 11)), (1, .int c1), (3, .int x3)] [.int y0_29, .int x2] (s, t, o) (q_I z s t o) (j y0_29)) ?_ ?_
      · intro y0_29
        refine ji_ior (q := 30) am dm_stepsTo_29 rfl ?_
        refine ji_istore_n (lv' := [(0, .ref (ad_ z 11)), (1, .int c1), (2, .int (x2 ||| y0_29)), (3, .int x3)]) (q := 31) am dm_stepsTo_30 rfl [1, 2, 0, 3] rfl rfl rfl ?_
        refine ji_iinc (q := 34) (lv' := [(0, .ref (ad_ z 11)), (1, .int c1), (2, .int (x2 ||| y0_29)), (3, .int (x3 + 1))]) am dm_stepsTo_31 3 rfl ki_1 [1, 2, 3, 0] rfl rfl rfl ?_
        refine ji_goto (q := 4) am dm_stepsTo_34 rfl ?_
        exact ih _ _
      · intro j29 hj29
        refine ji_if_eq (q := 22) (g := 28) am dm_stepsTo_19 rfl rfl ?_ ?_
        · refine ji_iconst (q := 29) am dm_stepsTo_28 ki_0 rfl ?_
          exact ji_sub (lv' := [(0, .ref (ad_ z 11)), (1, .int c1), (3, .int x3)]) [0, 1, 3] rfl (hj29 _)
        · refine ji_iconst (q := 23) am dm_stepsTo_22 ki_1 rfl ?_
          refine ji_iload_n (q := 24) am dm_stepsTo_23 rfl 3 rfl rfl ?_
          refine ji_ishl (q := 25) am dm_stepsTo_24 rfl ?_
          refine ji_goto (q := 29) am dm_stepsTo_25 rfl ?_
          exact ji_sub (lv' := [(0, .ref (ad_ z 11)), (1, .int c1), (3, .int x3)]) [0, 1, 3] rfl (hj29 _)
set_option maxHeartbeats 4000000 in
set_option maxRecDepth 100000 in
theorem ctm_stepsTo {v : wt_V} {t : wt_M} {a1 : Int32} {r : Int32} (s : wt_S) (o : Nat → Int64) (hF : fm_stepsTo t a1 = some r) : ct_C v ym_stepsTo (Cond.code ym_stepsTo bm_stepsTo 4 (some .int)) 1 [.ref (v.2.1 11), .int a1] (some (.int r)) (s, t, o) (s, t, o) := by
  refine ct_of (lv := [(0, .ref (v.2.1 11)), (1, .int a1)]) (fun r : Int32 => some (.int r)) (fun _ => (s, t, o)) (by decide) (Nat.le_of_ble_eq_true rfl) rfl ?_ r hF
  intro z hz am
  subst hz
  have am : wt_Am z R_M bm_stepsTo 4 1 (some .int) := am
  show jj_J z 4 0 [(0, .ref (ad_ z 11)), (1, .int a1)] [] (s, t, o) (q_I z s t o) (fm_stepsTo t a1)
  unfold fm_stepsTo
  refine ji_iconst (q := 1) am dm_stepsTo_0 ki_0 rfl ?_
  refine ji_istore_n (lv' := [(0, .ref (ad_ z 11)), (1, .int a1), (2, .int (0 : Int32))]) (q := 2) am dm_stepsTo_1 rfl [1, 2, 0] rfl rfl rfl ?_
  refine ji_iconst (q := 3) am dm_stepsTo_2 ki_0 rfl ?_
  refine ji_istore_n (lv' := [(0, .ref (ad_ z 11)), (1, .int a1), (2, .int (0 : Int32)), (3, .int (0 : Int32))]) (q := 4) am dm_stepsTo_3 rfl [1, 2, 3, 0] rfl rfl rfl ?_
  exact lm_stepsTo_4 am 5000 _ _

theorem dm_sizeOf_0 : decode bm_sizeOf 0 = .ok (.iconst 0, 1) := by decide +kernel
theorem dm_sizeOf_1 : decode bm_sizeOf 1 = .ok (.istore_n 1, 1) := by decide +kernel
theorem dm_sizeOf_2 : decode bm_sizeOf 2 = .ok (.iconst 0, 1) := by decide +kernel
theorem dm_sizeOf_3 : decode bm_sizeOf 3 = .ok (.istore_n 2, 1) := by decide +kernel
theorem dm_sizeOf_4 : decode bm_sizeOf 4 = .ok (.iload_n 2, 1) := by decide +kernel
theorem dm_sizeOf_5 : decode bm_sizeOf 5 = .ok (.bipush 16, 2) := by decide +kernel
theorem dm_sizeOf_7 : decode bm_sizeOf 7 = .ok (.if_icmp .ge 17, 3) := by decide +kernel
theorem dm_sizeOf_10 : decode bm_sizeOf 10 = .ok (.iload_n 1, 1) := by decide +kernel
theorem dm_sizeOf_11 : decode bm_sizeOf 11 = .ok (.iload_n 0, 1) := by decide +kernel
theorem dm_sizeOf_12 : decode bm_sizeOf 12 = .ok (.iload_n 2, 1) := by decide +kernel
theorem dm_sizeOf_13 : decode bm_sizeOf 13 = .ok (.ishr, 1) := by decide +kernel
theorem dm_sizeOf_14 : decode bm_sizeOf 14 = .ok (.iconst 1, 1) := by decide +kernel
theorem dm_sizeOf_15 : decode bm_sizeOf 15 = .ok (.iand, 1) := by decide +kernel
theorem dm_sizeOf_16 : decode bm_sizeOf 16 = .ok (.iadd, 1) := by decide +kernel
theorem dm_sizeOf_17 : decode bm_sizeOf 17 = .ok (.istore_n 1, 1) := by decide +kernel
theorem dm_sizeOf_18 : decode bm_sizeOf 18 = .ok (.iinc 2 1, 3) := by decide +kernel
theorem dm_sizeOf_21 : decode bm_sizeOf 21 = .ok (.goto (-17), 3) := by decide +kernel
theorem dm_sizeOf_24 : decode bm_sizeOf 24 = .ok (.iload_n 1, 1) := by decide +kernel
theorem dm_sizeOf_25 : decode bm_sizeOf 25 = .ok (.ireturn, 1) := by decide +kernel
set_option maxHeartbeats 4000000 in
set_option maxRecDepth 100000 in
theorem lm_sizeOf_4 {z : wt_Z} {s : wt_S} {t : wt_M} {o : Nat → Int64} {c0 : Int32} (am : wt_Am z R_M bm_sizeOf 3 1 (some .int)) : ∀ (n : Nat) (x1 : Int32) (x2 : Int32), jj_J z 3 4 [(0, .int c0), (1, .int x1), (2, .int x2)] [] (s, t, o) (q_I z s t o) (fm_sizeOf_L4 c0 n x1 x2) := by
  intro n
  induction n with
  | zero =>
    intro x1 x2
    exact ji_none
  | succ n ih =>
    intro x1 x2
    rw [fm_sizeOf_L4]
    refine ji_iload_n (q := 5) am dm_sizeOf_4 rfl 2 rfl rfl ?_
    refine ji_bipush (q := 7) am dm_sizeOf_5 kb_16 rfl ?_
    refine ji_icmp_ge (q := 10) (g := 24) am dm_sizeOf_7 rfl rfl ?_ ?_
    · refine ji_iload_n (q := 25) am dm_sizeOf_24 rfl 1 rfl rfl ?_
      exact ji_iret am rfl dm_sizeOf_25 rfl rfl
    · refine ji_iload_n (q := 11) am dm_sizeOf_10 rfl 1 rfl rfl ?_
      refine ji_iload_n (q := 12) am dm_sizeOf_11 rfl 0 rfl rfl ?_
      refine ji_iload_n (q := 13) am dm_sizeOf_12 rfl 2 rfl rfl ?_
      refine ji_ishr (q := 14) am dm_sizeOf_13 rfl ?_
      refine ji_iconst (q := 15) am dm_sizeOf_14 ki_1 rfl ?_
      refine ji_iand (q := 16) am dm_sizeOf_15 rfl ?_
      refine ji_iadd (q := 17) am dm_sizeOf_16 rfl ?_
      refine ji_istore_n (lv' := [(0, .int c0), (1, .int (x1 + ((c0 >>> (x2 &&& 31)) &&& (1 : Int32)))), (2, .int x2)]) (q := 18) am dm_sizeOf_17 rfl [1, 0, 2] rfl rfl rfl ?_
      refine ji_iinc (q := 21) (lv' := [(0, .int c0), (1, .int (x1 + ((c0 >>> (x2 &&& 31)) &&& (1 : Int32)))), (2, .int (x2 + 1))]) am dm_sizeOf_18 2 rfl ki_1 [1, 2, 0] rfl rfl rfl ?_
      refine ji_goto (q := 4) am dm_sizeOf_21 rfl ?_
      exact ih _ _
set_option maxHeartbeats 4000000 in
set_option maxRecDepth 100000 in
theorem ctm_sizeOf {v : wt_V} {a1 : Int32} {r : Int32} (s : wt_S) (t : wt_M) (o : Nat → Int64) (hF : fm_sizeOf a1 = some r) : ct_C v ym_sizeOf (Cond.code ym_sizeOf bm_sizeOf 3 (some .int)) 1 [.int a1] (some (.int r)) (s, t, o) (s, t, o) := by
  refine ct_of (lv := [(0, .int a1)]) (fun r : Int32 => some (.int r)) (fun _ => (s, t, o)) (by decide) (Nat.le_of_ble_eq_true rfl) rfl ?_ r hF
  intro z hz am
  subst hz
  have am : wt_Am z R_M bm_sizeOf 3 1 (some .int) := am
  show jj_J z 3 0 [(0, .int a1)] [] (s, t, o) (q_I z s t o) (fm_sizeOf a1)
  unfold fm_sizeOf
  refine ji_iconst (q := 1) am dm_sizeOf_0 ki_0 rfl ?_
  refine ji_istore_n (lv' := [(0, .int a1), (1, .int (0 : Int32))]) (q := 2) am dm_sizeOf_1 rfl [1, 0] rfl rfl rfl ?_
  refine ji_iconst (q := 3) am dm_sizeOf_2 ki_0 rfl ?_
  refine ji_istore_n (lv' := [(0, .int a1), (1, .int (0 : Int32)), (2, .int (0 : Int32))]) (q := 4) am dm_sizeOf_3 rfl [1, 2, 0] rfl rfl rfl ?_
  exact lm_sizeOf_4 am 5000 _ _
