/-! Walks of M.cutBy, M.put, M.tell, M.nodesOf, M.nodes, M.heap, M.order: printed by my program out of the listing. -/
theorem dm_cutBy_0 : decode bm_cutBy 0 = .ok (.iconst 0, 1) := by decide +kernel
theorem dm_cutBy_1 : decode bm_cutBy 1 = .ok (.istore 4, 2) := by decide +kernel
theorem dm_cutBy_3 : decode bm_cutBy 3 = .ok (.iload 4, 2) := by decide +kernel
theorem dm_cutBy_5 : decode bm_cutBy 5 = .ok (.iconst 4, 1) := by decide +kernel
theorem dm_cutBy_6 : decode bm_cutBy 6 = .ok (.if_icmp .ge 139, 3) := by decide +kernel
theorem dm_cutBy_9 : decode bm_cutBy 9 = .ok (.aload_n 0, 1) := by decide +kernel
theorem dm_cutBy_10 : decode bm_cutBy 10 = .ok (.getfield 20, 3) := by decide +kernel
theorem dm_cutBy_13 : decode bm_cutBy 13 = .ok (.iconst 4, 1) := by decide +kernel
theorem dm_cutBy_14 : decode bm_cutBy 14 = .ok (.iload_n 1, 1) := by decide +kernel
theorem dm_cutBy_15 : decode bm_cutBy 15 = .ok (.imul, 1) := by decide +kernel
theorem dm_cutBy_16 : decode bm_cutBy 16 = .ok (.iload 4, 2) := by decide +kernel
theorem dm_cutBy_18 : decode bm_cutBy 18 = .ok (.iadd, 1) := by decide +kernel
theorem dm_cutBy_19 : decode bm_cutBy 19 = .ok (.laload, 1) := by decide +kernel
theorem dm_cutBy_20 : decode bm_cutBy 20 = .ok (.lstore 5, 2) := by decide +kernel
theorem dm_cutBy_22 : decode bm_cutBy 22 = .ok (.iload_n 2, 1) := by decide +kernel
theorem dm_cutBy_23 : decode bm_cutBy 23 = .ok (.bipush 6, 2) := by decide +kernel
theorem dm_cutBy_25 : decode bm_cutBy 25 = .ok (.if_icmp .ge 64, 3) := by decide +kernel
theorem dm_cutBy_28 : decode bm_cutBy 28 = .ok (.iload_n 3, 1) := by decide +kernel
theorem dm_cutBy_29 : decode bm_cutBy 29 = .ok (.ifCond .eq 15, 3) := by decide +kernel
theorem dm_cutBy_32 : decode bm_cutBy 32 = .ok (.lload 5, 2) := by decide +kernel
theorem dm_cutBy_34 : decode bm_cutBy 34 = .ok (.aload_n 0, 1) := by decide +kernel
theorem dm_cutBy_35 : decode bm_cutBy 35 = .ok (.getfield 44, 3) := by decide +kernel
theorem dm_cutBy_38 : decode bm_cutBy 38 = .ok (.iload_n 2, 1) := by decide +kernel
theorem dm_cutBy_39 : decode bm_cutBy 39 = .ok (.laload, 1) := by decide +kernel
theorem dm_cutBy_40 : decode bm_cutBy 40 = .ok (.land, 1) := by decide +kernel
theorem dm_cutBy_41 : decode bm_cutBy 41 = .ok (.goto 16, 3) := by decide +kernel
theorem dm_cutBy_44 : decode bm_cutBy 44 = .ok (.lload 5, 2) := by decide +kernel
theorem dm_cutBy_46 : decode bm_cutBy 46 = .ok (.aload_n 0, 1) := by decide +kernel
theorem dm_cutBy_47 : decode bm_cutBy 47 = .ok (.getfield 44, 3) := by decide +kernel
theorem dm_cutBy_50 : decode bm_cutBy 50 = .ok (.iload_n 2, 1) := by decide +kernel
theorem dm_cutBy_51 : decode bm_cutBy 51 = .ok (.laload, 1) := by decide +kernel
theorem dm_cutBy_52 : decode bm_cutBy 52 = .ok (.ldc2_w 88, 3) := by decide +kernel
theorem dm_cutBy_55 : decode bm_cutBy 55 = .ok (.lxor, 1) := by decide +kernel
theorem dm_cutBy_56 : decode bm_cutBy 56 = .ok (.land, 1) := by decide +kernel
theorem dm_cutBy_57 : decode bm_cutBy 57 = .ok (.lstore 7, 2) := by decide +kernel
theorem dm_cutBy_59 : decode bm_cutBy 59 = .ok (.iload_n 3, 1) := by decide +kernel
theorem dm_cutBy_60 : decode bm_cutBy 60 = .ok (.ifCond .eq 15, 3) := by decide +kernel
theorem dm_cutBy_63 : decode bm_cutBy 63 = .ok (.lload 7, 2) := by decide +kernel
theorem dm_cutBy_65 : decode bm_cutBy 65 = .ok (.lload 7, 2) := by decide +kernel
theorem dm_cutBy_67 : decode bm_cutBy 67 = .ok (.iconst 1, 1) := by decide +kernel
theorem dm_cutBy_68 : decode bm_cutBy 68 = .ok (.iload_n 2, 1) := by decide +kernel
theorem dm_cutBy_69 : decode bm_cutBy 69 = .ok (.ishl, 1) := by decide +kernel
theorem dm_cutBy_70 : decode bm_cutBy 70 = .ok (.lushr, 1) := by decide +kernel
theorem dm_cutBy_71 : decode bm_cutBy 71 = .ok (.lor, 1) := by decide +kernel
theorem dm_cutBy_72 : decode bm_cutBy 72 = .ok (.goto 12, 3) := by decide +kernel
theorem dm_cutBy_75 : decode bm_cutBy 75 = .ok (.lload 7, 2) := by decide +kernel
theorem dm_cutBy_77 : decode bm_cutBy 77 = .ok (.lload 7, 2) := by decide +kernel
theorem dm_cutBy_79 : decode bm_cutBy 79 = .ok (.iconst 1, 1) := by decide +kernel
theorem dm_cutBy_80 : decode bm_cutBy 80 = .ok (.iload_n 2, 1) := by decide +kernel
theorem dm_cutBy_81 : decode bm_cutBy 81 = .ok (.ishl, 1) := by decide +kernel
theorem dm_cutBy_82 : decode bm_cutBy 82 = .ok (.lshl, 1) := by decide +kernel
theorem dm_cutBy_83 : decode bm_cutBy 83 = .ok (.lor, 1) := by decide +kernel
theorem dm_cutBy_84 : decode bm_cutBy 84 = .ok (.lstore 5, 2) := by decide +kernel
theorem dm_cutBy_86 : decode bm_cutBy 86 = .ok (.goto 41, 3) := by decide +kernel
theorem dm_cutBy_89 : decode bm_cutBy 89 = .ok (.iconst 1, 1) := by decide +kernel
theorem dm_cutBy_90 : decode bm_cutBy 90 = .ok (.iload_n 2, 1) := by decide +kernel
theorem dm_cutBy_91 : decode bm_cutBy 91 = .ok (.bipush 6, 2) := by decide +kernel
theorem dm_cutBy_93 : decode bm_cutBy 93 = .ok (.isub, 1) := by decide +kernel
theorem dm_cutBy_94 : decode bm_cutBy 94 = .ok (.ishl, 1) := by decide +kernel
theorem dm_cutBy_95 : decode bm_cutBy 95 = .ok (.istore 7, 2) := by decide +kernel
theorem dm_cutBy_97 : decode bm_cutBy 97 = .ok (.aload_n 0, 1) := by decide +kernel
theorem dm_cutBy_98 : decode bm_cutBy 98 = .ok (.getfield 20, 3) := by decide +kernel
theorem dm_cutBy_101 : decode bm_cutBy 101 = .ok (.iconst 4, 1) := by decide +kernel
theorem dm_cutBy_102 : decode bm_cutBy 102 = .ok (.iload_n 1, 1) := by decide +kernel
theorem dm_cutBy_103 : decode bm_cutBy 103 = .ok (.imul, 1) := by decide +kernel
theorem dm_cutBy_104 : decode bm_cutBy 104 = .ok (.iload_n 3, 1) := by decide +kernel
theorem dm_cutBy_105 : decode bm_cutBy 105 = .ok (.ifCond .eq 11, 3) := by decide +kernel
theorem dm_cutBy_108 : decode bm_cutBy 108 = .ok (.iload 4, 2) := by decide +kernel
theorem dm_cutBy_110 : decode bm_cutBy 110 = .ok (.iload 7, 2) := by decide +kernel
theorem dm_cutBy_112 : decode bm_cutBy 112 = .ok (.ior, 1) := by decide +kernel
theorem dm_cutBy_113 : decode bm_cutBy 113 = .ok (.goto 10, 3) := by decide +kernel
theorem dm_cutBy_116 : decode bm_cutBy 116 = .ok (.iload 4, 2) := by decide +kernel
theorem dm_cutBy_118 : decode bm_cutBy 118 = .ok (.iload 7, 2) := by decide +kernel
theorem dm_cutBy_120 : decode bm_cutBy 120 = .ok (.iconst (-1), 1) := by decide +kernel
theorem dm_cutBy_121 : decode bm_cutBy 121 = .ok (.ixor, 1) := by decide +kernel
theorem dm_cutBy_122 : decode bm_cutBy 122 = .ok (.iand, 1) := by decide +kernel
theorem dm_cutBy_123 : decode bm_cutBy 123 = .ok (.iadd, 1) := by decide +kernel
theorem dm_cutBy_124 : decode bm_cutBy 124 = .ok (.laload, 1) := by decide +kernel
theorem dm_cutBy_125 : decode bm_cutBy 125 = .ok (.lstore 5, 2) := by decide +kernel
theorem dm_cutBy_127 : decode bm_cutBy 127 = .ok (.aload_n 0, 1) := by decide +kernel
theorem dm_cutBy_128 : decode bm_cutBy 128 = .ok (.getfield 7, 3) := by decide +kernel
theorem dm_cutBy_131 : decode bm_cutBy 131 = .ok (.bipush 68, 2) := by decide +kernel
theorem dm_cutBy_133 : decode bm_cutBy 133 = .ok (.iload 4, 2) := by decide +kernel
theorem dm_cutBy_135 : decode bm_cutBy 135 = .ok (.iadd, 1) := by decide +kernel
theorem dm_cutBy_136 : decode bm_cutBy 136 = .ok (.lload 5, 2) := by decide +kernel
theorem dm_cutBy_138 : decode bm_cutBy 138 = .ok (.lastore, 1) := by decide +kernel
theorem dm_cutBy_139 : decode bm_cutBy 139 = .ok (.iinc 4 1, 3) := by decide +kernel
theorem dm_cutBy_142 : decode bm_cutBy 142 = .ok (.goto (-139), 3) := by decide +kernel
theorem dm_cutBy_145 : decode bm_cutBy 145 = .ok (.return_, 1) := by decide +kernel
set_option maxHeartbeats 4000000 in
set_option maxRecDepth 100000 in
theorem lm_cutBy_3 {z : wt_Z} {s : wt_S} {o : Nat → Int64} {c1 : Int32} {c2 : Int32} {c3 : Int32} (am : wt_Am z R_M bm_cutBy 9 1 none) : ∀ (n : Nat) (x4 : Int32) (t : wt_M), jj_J z 9 3 [(0, .ref (ad_ z 11)), (1, .int c1), (2, .int c2), (3, .int c3), (4, .int x4)] [] (s, t, o) (q_T z s o) (fm_cutBy_L3 c1 c2 c3 n x4 t) := by
  intro n
  induction n with
  | zero =>
    intro x4 t
    exact ji_none
  | succ n ih =>
    intro x4 t
    rw [fm_cutBy_L3]
    refine ji_iload (q := 5) am dm_cutBy_3 4 rfl rfl ?_
    refine ji_iconst (q := 6) am dm_cutBy_5 ki_4 rfl ?_
    refine ji_icmp_ge (q := 9) (g := 145) am dm_cutBy_6 rfl rfl ?_ ?_
    · exact ji_vret am rfl dm_cutBy_145 rfl rfl
    · refine ji_aload_n (q := 10) am dm_cutBy_9 rfl 0 rfl rfl ?_
      refine ji_get_M_cuts (q := 13) am dm_cutBy_10 rfl ?_
      refine ji_iconst (q := 14) am dm_cutBy_13 ki_4 rfl ?_
      refine ji_iload_n (q := 15) am dm_cutBy_14 rfl 1 rfl rfl ?_
      refine ji_imul (q := 16) am dm_cutBy_15 rfl ?_
      refine ji_iload (q := 18) am dm_cutBy_16 4 rfl rfl ?_
      refine ji_iadd (q := 19) am dm_cutBy_18 rfl ?_
      refine ji_ald_Mcuts (q := 20) am dm_cutBy_19 rfl ?_
      intro v19
      refine ji_lstore (lv' := [(0, .ref (ad_ z 11)), (1, .int c1), (2, .int c2), (3, .int c3), (4, .int x4), (5, .long v19)]) (q := 22) am dm_cutBy_20 [1, 2, 3, 4, 5, 0] rfl rfl rfl ?_
      refine ji_iload_n (q := 23) am dm_cutBy_22 rfl 2 rfl rfl ?_
      refine ji_bipush (q := 25) am dm_cutBy_23 kb_6 rfl ?_
      refine ji_jn2 (fun j => ∀ (x5_127 : Int64), jj_J z 9 127 [(0, .ref (ad_ z 11)), (1, .int c1), (2, .int c2), (3, .int c3), (4, .int x4), (5, .long x5_127)] [] (s, t, o) (q_T z s o) (j x5_127)) ?_ ?_
      · intro x5_127
        refine ji_aload_n (q := 128) am dm_cutBy_127 rfl 0 rfl rfl ?_
        refine ji_get_M_words (q := 131) am dm_cutBy_128 rfl ?_
        refine ji_bipush (q := 133) am dm_cutBy_131 kb_68 rfl ?_
        refine ji_iload (q := 135) am dm_cutBy_133 4 rfl rfl ?_
        refine ji_iadd (q := 136) am dm_cutBy_135 rfl ?_
        refine ji_lload (q := 138) am dm_cutBy_136 5 rfl rfl ?_
        refine ji_ast_Mwords (q := 139) am dm_cutBy_138 rfl ?_
        intro t138
        refine ji_iinc (q := 142) (lv' := [(0, .ref (ad_ z 11)), (1, .int c1), (2, .int c2), (3, .int c3), (4, .int (x4 + 1)), (5, .long x5_127)]) am dm_cutBy_139 4 rfl ki_1 [1, 2, 3, 4, 0, 5] rfl rfl rfl ?_
        refine ji_goto (q := 3) am dm_cutBy_142 rfl ?_
        exact ji_sub (lv' := [(0, .ref (ad_ z 11)), (1, .int c1), (2, .int c2), (3, .int c3), (4, .int (x4 + 1))]) [0, 1, 2, 3, 4] rfl (ih _ _)
      · intro j127 hj127
        refine ji_icmp_ge (q := 28) (g := 89) am dm_cutBy_25 rfl rfl ?_ ?_
        · refine ji_iconst (q := 90) am dm_cutBy_89 ki_1 rfl ?_
          refine ji_iload_n (q := 91) am dm_cutBy_90 rfl 2 rfl rfl ?_
          refine ji_bipush (q := 93) am dm_cutBy_91 kb_6 rfl ?_
          refine ji_isub (q := 94) am dm_cutBy_93 rfl ?_
          refine ji_ishl (q := 95) am dm_cutBy_94 rfl ?_
          refine ji_istore (lv' := [(0, .ref (ad_ z 11)), (1, .int c1), (2, .int c2), (3, .int c3), (4, .int x4), (5, .long v19), (7, .int ((1 : Int32) <<< ((c2 - (6 : Int32)) &&& 31)))]) (q := 97) am dm_cutBy_95 [1, 2, 3, 4, 5, 6, 0] rfl rfl rfl ?_
          refine ji_aload_n (q := 98) am dm_cutBy_97 rfl 0 rfl rfl ?_
          refine ji_get_M_cuts (q := 101) am dm_cutBy_98 rfl ?_
          refine ji_iconst (q := 102) am dm_cutBy_101 ki_4 rfl ?_
          refine ji_iload_n (q := 103) am dm_cutBy_102 rfl 1 rfl rfl ?_
          refine ji_imul (q := 104) am dm_cutBy_103 rfl ?_
          refine ji_iload_n (q := 105) am dm_cutBy_104 rfl 3 rfl rfl ?_
          refine ji_jn2 (fun j => ∀ (y0_123 : Int32), jj_J z 9 123 [(0, .ref (ad_ z 11)), (1, .int c1), (2, .int c2), (3, .int c3), (4, .int x4)] [.int y0_123, .int ((4 : Int32) * c1), .ref (ad_ z 19)] (s, t, o) (q_T z s o) (j y0_123)) ?_ ?_
          · intro y0_123
            refine ji_iadd (q := 124) am dm_cutBy_123 rfl ?_
            refine ji_ald_Mcuts (q := 125) am dm_cutBy_124 rfl ?_
            intro v124
            refine ji_lstore (lv' := [(0, .ref (ad_ z 11)), (1, .int c1), (2, .int c2), (3, .int c3), (4, .int x4), (5, .long v124)]) (q := 127) am dm_cutBy_125 [1, 2, 3, 4, 5, 0] rfl rfl rfl ?_
            exact hj127 _
          · intro j123 hj123
            refine ji_if_eq (q := 108) (g := 116) am dm_cutBy_105 rfl rfl ?_ ?_
            · refine ji_iload (q := 118) am dm_cutBy_116 4 rfl rfl ?_
              refine ji_iload (q := 120) am dm_cutBy_118 6 rfl rfl ?_
              refine ji_iconst (q := 121) am dm_cutBy_120 ki_m1 rfl ?_
              refine ji_ixor (q := 122) am dm_cutBy_121 rfl ?_
              refine ji_iand (q := 123) am dm_cutBy_122 rfl ?_
              exact ji_sub (lv' := [(0, .ref (ad_ z 11)), (1, .int c1), (2, .int c2), (3, .int c3), (4, .int x4)]) [0, 1, 2, 3, 4] rfl (hj123 _)
            · refine ji_iload (q := 110) am dm_cutBy_108 4 rfl rfl ?_
              refine ji_iload (q := 112) am dm_cutBy_110 6 rfl rfl ?_
              refine ji_ior (q := 113) am dm_cutBy_112 rfl ?_
              refine ji_goto (q := 123) am dm_cutBy_113 rfl ?_
              exact ji_sub (lv' := [(0, .ref (ad_ z 11)), (1, .int c1), (2, .int c2), (3, .int c3), (4, .int x4)]) [0, 1, 2, 3, 4] rfl (hj123 _)
        · refine ji_iload_n (q := 29) am dm_cutBy_28 rfl 3 rfl rfl ?_
          refine ji_jn2 (fun j => ∀ (y0_57 : Int64), jj_J z 9 57 [(0, .ref (ad_ z 11)), (1, .int c1), (2, .int c2), (3, .int c3), (4, .int x4)] [.long y0_57] (s, t, o) (q_T z s o) (j y0_57)) ?_ ?_
          · intro y0_57
            refine ji_lstore (lv' := [(0, .ref (ad_ z 11)), (1, .int c1), (2, .int c2), (3, .int c3), (4, .int x4), (7, .long y0_57)]) (q := 59) am dm_cutBy_57 [1, 2, 3, 4, 5, 0] rfl rfl rfl ?_
            refine ji_iload_n (q := 60) am dm_cutBy_59 rfl 3 rfl rfl ?_
            refine ji_jn2 (fun j => ∀ (y0_84 : Int64), jj_J z 9 84 [(0, .ref (ad_ z 11)), (1, .int c1), (2, .int c2), (3, .int c3), (4, .int x4)] [.long y0_84] (s, t, o) (q_T z s o) (j y0_84)) ?_ ?_
            · intro y0_84
              refine ji_lstore (lv' := [(0, .ref (ad_ z 11)), (1, .int c1), (2, .int c2), (3, .int c3), (4, .int x4), (5, .long y0_84)]) (q := 86) am dm_cutBy_84 [1, 2, 3, 4, 5, 0] rfl rfl rfl ?_
              refine ji_goto (q := 127) am dm_cutBy_86 rfl ?_
              exact hj127 _
            · intro j84 hj84
              refine ji_if_eq (q := 63) (g := 75) am dm_cutBy_60 rfl rfl ?_ ?_
              · refine ji_lload (q := 77) am dm_cutBy_75 5 rfl rfl ?_
                refine ji_lload (q := 79) am dm_cutBy_77 5 rfl rfl ?_
                refine ji_iconst (q := 80) am dm_cutBy_79 ki_1 rfl ?_
                refine ji_iload_n (q := 81) am dm_cutBy_80 rfl 2 rfl rfl ?_
                refine ji_ishl (q := 82) am dm_cutBy_81 rfl ?_
                refine ji_lshl (q := 83) am dm_cutBy_82 rfl ?_
                refine ji_lor (q := 84) am dm_cutBy_83 rfl ?_
                exact ji_sub (lv' := [(0, .ref (ad_ z 11)), (1, .int c1), (2, .int c2), (3, .int c3), (4, .int x4)]) [0, 1, 2, 3, 4] rfl (hj84 _)
              · refine ji_lload (q := 65) am dm_cutBy_63 5 rfl rfl ?_
                refine ji_lload (q := 67) am dm_cutBy_65 5 rfl rfl ?_
                refine ji_iconst (q := 68) am dm_cutBy_67 ki_1 rfl ?_
                refine ji_iload_n (q := 69) am dm_cutBy_68 rfl 2 rfl rfl ?_
                refine ji_ishl (q := 70) am dm_cutBy_69 rfl ?_
                refine ji_lushr (q := 71) am dm_cutBy_70 rfl ?_
                refine ji_lor (q := 72) am dm_cutBy_71 rfl ?_
                refine ji_goto (q := 84) am dm_cutBy_72 rfl ?_
                exact ji_sub (lv' := [(0, .ref (ad_ z 11)), (1, .int c1), (2, .int c2), (3, .int c3), (4, .int x4)]) [0, 1, 2, 3, 4] rfl (hj84 _)
          · intro j57 hj57
            refine ji_if_eq (q := 32) (g := 44) am dm_cutBy_29 rfl rfl ?_ ?_
            · refine ji_lload (q := 46) am dm_cutBy_44 5 rfl rfl ?_
              refine ji_aload_n (q := 47) am dm_cutBy_46 rfl 0 rfl rfl ?_
              refine ji_get_M_masks (q := 50) am dm_cutBy_47 rfl ?_
              refine ji_iload_n (q := 51) am dm_cutBy_50 rfl 2 rfl rfl ?_
              refine ji_ald_Mmasks (q := 52) am dm_cutBy_51 rfl ?_
              intro v51
              refine ji_ldc2 (q := 55) (v := (-1 : Int64)) am lk_M_88 dm_cutBy_52 rfl ?_
              refine ji_lxor (q := 56) am dm_cutBy_55 rfl ?_
              refine ji_land (q := 57) am dm_cutBy_56 rfl ?_
              exact ji_sub (lv' := [(0, .ref (ad_ z 11)), (1, .int c1), (2, .int c2), (3, .int c3), (4, .int x4)]) [0, 1, 2, 3, 4] rfl (hj57 _)
            · refine ji_lload (q := 34) am dm_cutBy_32 5 rfl rfl ?_
              refine ji_aload_n (q := 35) am dm_cutBy_34 rfl 0 rfl rfl ?_
              refine ji_get_M_masks (q := 38) am dm_cutBy_35 rfl ?_
              refine ji_iload_n (q := 39) am dm_cutBy_38 rfl 2 rfl rfl ?_
              refine ji_ald_Mmasks (q := 40) am dm_cutBy_39 rfl ?_
              intro v39
              refine ji_land (q := 41) am dm_cutBy_40 rfl ?_
              refine ji_goto (q := 57) am dm_cutBy_41 rfl ?_
              exact ji_sub (lv' := [(0, .ref (ad_ z 11)), (1, .int c1), (2, .int c2), (3, .int c3), (4, .int x4)]) [0, 1, 2, 3, 4] rfl (hj57 _)
set_option maxHeartbeats 4000000 in
set_option maxRecDepth 100000 in
theorem ctm_cutBy {v : wt_V} {t : wt_M} {a1 : Int32} {a2 : Int32} {a3 : Int32} {t2 : wt_M} (s : wt_S) (o : Nat → Int64) (hF : fm_cutBy t a1 a2 a3 = some t2) : ct_C v ym_cutBy (Cond.code ym_cutBy bm_cutBy 9 none) 1 [.ref (v.2.1 11), .int a1, .int a2, .int a3] none (s, t, o) (s, t2, o) := by
  refine ct_of (lv := [(0, .ref (v.2.1 11)), (1, .int a1), (2, .int a2), (3, .int a3)]) (fun _ : wt_M => none) (fun r => (s, r, o)) (by decide) (Nat.le_of_ble_eq_true rfl) rfl ?_ t2 hF
  intro z hz am
  subst hz
  have am : wt_Am z R_M bm_cutBy 9 1 none := am
  show jj_J z 9 0 [(0, .ref (ad_ z 11)), (1, .int a1), (2, .int a2), (3, .int a3)] [] (s, t, o) (q_T z s o) (fm_cutBy t a1 a2 a3)
  unfold fm_cutBy
  refine ji_iconst (q := 1) am dm_cutBy_0 ki_0 rfl ?_
  refine ji_istore (lv' := [(0, .ref (ad_ z 11)), (1, .int a1), (2, .int a2), (3, .int a3), (4, .int (0 : Int32))]) (q := 3) am dm_cutBy_1 [1, 2, 3, 4, 0] rfl rfl rfl ?_
  exact lm_cutBy_3 am 5000 _ _

theorem dm_put_0 : decode bm_put 0 = .ok (.aload_n 0, 1) := by decide +kernel
theorem dm_put_1 : decode bm_put 1 = .ok (.getfield 7, 3) := by decide +kernel
theorem dm_put_4 : decode bm_put 4 = .ok (.iload_n 1, 1) := by decide +kernel
theorem dm_put_5 : decode bm_put 5 = .ok (.laload, 1) := by decide +kernel
theorem dm_put_6 : decode bm_put 6 = .ok (.lconst 0, 1) := by decide +kernel
theorem dm_put_7 : decode bm_put 7 = .ok (.lcmp, 1) := by decide +kernel
theorem dm_put_8 : decode bm_put 8 = .ok (.ifCond .eq 16, 3) := by decide +kernel
theorem dm_put_11 : decode bm_put 11 = .ok (.aload_n 0, 1) := by decide +kernel
theorem dm_put_12 : decode bm_put 12 = .ok (.getfield 7, 3) := by decide +kernel
theorem dm_put_15 : decode bm_put 15 = .ok (.iload_n 1, 1) := by decide +kernel
theorem dm_put_16 : decode bm_put 16 = .ok (.laload, 1) := by decide +kernel
theorem dm_put_17 : decode bm_put 17 = .ok (.ldc2_w 88, 3) := by decide +kernel
theorem dm_put_20 : decode bm_put 20 = .ok (.lcmp, 1) := by decide +kernel
theorem dm_put_21 : decode bm_put 21 = .ok (.ifCond .ne 7, 3) := by decide +kernel
theorem dm_put_24 : decode bm_put 24 = .ok (.iconst 1, 1) := by decide +kernel
theorem dm_put_25 : decode bm_put 25 = .ok (.goto 4, 3) := by decide +kernel
theorem dm_put_28 : decode bm_put 28 = .ok (.iconst 0, 1) := by decide +kernel
theorem dm_put_29 : decode bm_put 29 = .ok (.istore_n 2, 1) := by decide +kernel
theorem dm_put_30 : decode bm_put 30 = .ok (.iconst 1, 1) := by decide +kernel
theorem dm_put_31 : decode bm_put 31 = .ok (.istore_n 3, 1) := by decide +kernel
theorem dm_put_32 : decode bm_put 32 = .ok (.iload_n 3, 1) := by decide +kernel
theorem dm_put_33 : decode bm_put 33 = .ok (.iconst 4, 1) := by decide +kernel
theorem dm_put_34 : decode bm_put 34 = .ok (.if_icmp .ge 37, 3) := by decide +kernel
theorem dm_put_37 : decode bm_put 37 = .ok (.iload_n 2, 1) := by decide +kernel
theorem dm_put_38 : decode bm_put 38 = .ok (.ifCond .eq 25, 3) := by decide +kernel
theorem dm_put_41 : decode bm_put 41 = .ok (.aload_n 0, 1) := by decide +kernel
theorem dm_put_42 : decode bm_put 42 = .ok (.getfield 7, 3) := by decide +kernel
theorem dm_put_45 : decode bm_put 45 = .ok (.iload_n 1, 1) := by decide +kernel
theorem dm_put_46 : decode bm_put 46 = .ok (.iload_n 3, 1) := by decide +kernel
theorem dm_put_47 : decode bm_put 47 = .ok (.iadd, 1) := by decide +kernel
theorem dm_put_48 : decode bm_put 48 = .ok (.laload, 1) := by decide +kernel
theorem dm_put_49 : decode bm_put 49 = .ok (.aload_n 0, 1) := by decide +kernel
theorem dm_put_50 : decode bm_put 50 = .ok (.getfield 7, 3) := by decide +kernel
theorem dm_put_53 : decode bm_put 53 = .ok (.iload_n 1, 1) := by decide +kernel
theorem dm_put_54 : decode bm_put 54 = .ok (.laload, 1) := by decide +kernel
theorem dm_put_55 : decode bm_put 55 = .ok (.lcmp, 1) := by decide +kernel
theorem dm_put_56 : decode bm_put 56 = .ok (.ifCond .ne 7, 3) := by decide +kernel
theorem dm_put_59 : decode bm_put 59 = .ok (.iconst 1, 1) := by decide +kernel
theorem dm_put_60 : decode bm_put 60 = .ok (.goto 4, 3) := by decide +kernel
theorem dm_put_63 : decode bm_put 63 = .ok (.iconst 0, 1) := by decide +kernel
theorem dm_put_64 : decode bm_put 64 = .ok (.istore_n 2, 1) := by decide +kernel
theorem dm_put_65 : decode bm_put 65 = .ok (.iinc 3 1, 3) := by decide +kernel
theorem dm_put_68 : decode bm_put 68 = .ok (.goto (-36), 3) := by decide +kernel
theorem dm_put_71 : decode bm_put 71 = .ok (.iload_n 2, 1) := by decide +kernel
theorem dm_put_72 : decode bm_put 72 = .ok (.ifCond .eq 5, 3) := by decide +kernel
theorem dm_put_75 : decode bm_put 75 = .ok (.iconst (-1), 1) := by decide +kernel
theorem dm_put_76 : decode bm_put 76 = .ok (.ireturn, 1) := by decide +kernel
theorem dm_put_77 : decode bm_put 77 = .ok (.iconst 0, 1) := by decide +kernel
theorem dm_put_78 : decode bm_put 78 = .ok (.istore_n 3, 1) := by decide +kernel
theorem dm_put_79 : decode bm_put 79 = .ok (.iload_n 3, 1) := by decide +kernel
theorem dm_put_80 : decode bm_put 80 = .ok (.aload_n 0, 1) := by decide +kernel
theorem dm_put_81 : decode bm_put 81 = .ok (.getfield 90, 3) := by decide +kernel
theorem dm_put_84 : decode bm_put 84 = .ok (.if_icmp .ge 70, 3) := by decide +kernel
theorem dm_put_87 : decode bm_put 87 = .ok (.iconst 1, 1) := by decide +kernel
theorem dm_put_88 : decode bm_put 88 = .ok (.istore 4, 2) := by decide +kernel
theorem dm_put_90 : decode bm_put 90 = .ok (.iconst 0, 1) := by decide +kernel
theorem dm_put_91 : decode bm_put 91 = .ok (.istore 5, 2) := by decide +kernel
theorem dm_put_93 : decode bm_put 93 = .ok (.iload 5, 2) := by decide +kernel
theorem dm_put_95 : decode bm_put 95 = .ok (.iconst 4, 1) := by decide +kernel
theorem dm_put_96 : decode bm_put 96 = .ok (.if_icmp .ge 45, 3) := by decide +kernel
theorem dm_put_99 : decode bm_put 99 = .ok (.iload 4, 2) := by decide +kernel
theorem dm_put_101 : decode bm_put 101 = .ok (.ifCond .eq 40, 3) := by decide +kernel
theorem dm_put_104 : decode bm_put 104 = .ok (.aload_n 0, 1) := by decide +kernel
theorem dm_put_105 : decode bm_put 105 = .ok (.getfield 20, 3) := by decide +kernel
theorem dm_put_108 : decode bm_put 108 = .ok (.iconst 4, 1) := by decide +kernel
theorem dm_put_109 : decode bm_put 109 = .ok (.iload_n 3, 1) := by decide +kernel
theorem dm_put_110 : decode bm_put 110 = .ok (.imul, 1) := by decide +kernel
theorem dm_put_111 : decode bm_put 111 = .ok (.iload 5, 2) := by decide +kernel
theorem dm_put_113 : decode bm_put 113 = .ok (.iadd, 1) := by decide +kernel
theorem dm_put_114 : decode bm_put 114 = .ok (.laload, 1) := by decide +kernel
theorem dm_put_115 : decode bm_put 115 = .ok (.aload_n 0, 1) := by decide +kernel
theorem dm_put_116 : decode bm_put 116 = .ok (.getfield 7, 3) := by decide +kernel
theorem dm_put_119 : decode bm_put 119 = .ok (.iload_n 1, 1) := by decide +kernel
theorem dm_put_120 : decode bm_put 120 = .ok (.iload 5, 2) := by decide +kernel
theorem dm_put_122 : decode bm_put 122 = .ok (.iadd, 1) := by decide +kernel
theorem dm_put_123 : decode bm_put 123 = .ok (.laload, 1) := by decide +kernel
theorem dm_put_124 : decode bm_put 124 = .ok (.lcmp, 1) := by decide +kernel
theorem dm_put_125 : decode bm_put 125 = .ok (.ifCond .ne 7, 3) := by decide +kernel
theorem dm_put_128 : decode bm_put 128 = .ok (.iconst 1, 1) := by decide +kernel
theorem dm_put_129 : decode bm_put 129 = .ok (.goto 4, 3) := by decide +kernel
theorem dm_put_132 : decode bm_put 132 = .ok (.iconst 0, 1) := by decide +kernel
theorem dm_put_133 : decode bm_put 133 = .ok (.istore 4, 2) := by decide +kernel
theorem dm_put_135 : decode bm_put 135 = .ok (.iinc 5 1, 3) := by decide +kernel
theorem dm_put_138 : decode bm_put 138 = .ok (.goto (-45), 3) := by decide +kernel
theorem dm_put_141 : decode bm_put 141 = .ok (.iload 4, 2) := by decide +kernel
theorem dm_put_143 : decode bm_put 143 = .ok (.ifCond .eq 5, 3) := by decide +kernel
theorem dm_put_146 : decode bm_put 146 = .ok (.iload_n 3, 1) := by decide +kernel
theorem dm_put_147 : decode bm_put 147 = .ok (.ireturn, 1) := by decide +kernel
theorem dm_put_148 : decode bm_put 148 = .ok (.iinc 3 1, 3) := by decide +kernel
theorem dm_put_151 : decode bm_put 151 = .ok (.goto (-72), 3) := by decide +kernel
theorem dm_put_154 : decode bm_put 154 = .ok (.iconst 0, 1) := by decide +kernel
theorem dm_put_155 : decode bm_put 155 = .ok (.istore_n 3, 1) := by decide +kernel
theorem dm_put_156 : decode bm_put 156 = .ok (.iload_n 3, 1) := by decide +kernel
theorem dm_put_157 : decode bm_put 157 = .ok (.iconst 4, 1) := by decide +kernel
theorem dm_put_158 : decode bm_put 158 = .ok (.if_icmp .ge 30, 3) := by decide +kernel
theorem dm_put_161 : decode bm_put 161 = .ok (.aload_n 0, 1) := by decide +kernel
theorem dm_put_162 : decode bm_put 162 = .ok (.getfield 20, 3) := by decide +kernel
theorem dm_put_165 : decode bm_put 165 = .ok (.iconst 4, 1) := by decide +kernel
theorem dm_put_166 : decode bm_put 166 = .ok (.aload_n 0, 1) := by decide +kernel
theorem dm_put_167 : decode bm_put 167 = .ok (.getfield 90, 3) := by decide +kernel
theorem dm_put_170 : decode bm_put 170 = .ok (.imul, 1) := by decide +kernel
theorem dm_put_171 : decode bm_put 171 = .ok (.iload_n 3, 1) := by decide +kernel
theorem dm_put_172 : decode bm_put 172 = .ok (.iadd, 1) := by decide +kernel
theorem dm_put_173 : decode bm_put 173 = .ok (.aload_n 0, 1) := by decide +kernel
theorem dm_put_174 : decode bm_put 174 = .ok (.getfield 7, 3) := by decide +kernel
theorem dm_put_177 : decode bm_put 177 = .ok (.iload_n 1, 1) := by decide +kernel
theorem dm_put_178 : decode bm_put 178 = .ok (.iload_n 3, 1) := by decide +kernel
theorem dm_put_179 : decode bm_put 179 = .ok (.iadd, 1) := by decide +kernel
theorem dm_put_180 : decode bm_put 180 = .ok (.laload, 1) := by decide +kernel
theorem dm_put_181 : decode bm_put 181 = .ok (.lastore, 1) := by decide +kernel
theorem dm_put_182 : decode bm_put 182 = .ok (.iinc 3 1, 3) := by decide +kernel
theorem dm_put_185 : decode bm_put 185 = .ok (.goto (-29), 3) := by decide +kernel
theorem dm_put_188 : decode bm_put 188 = .ok (.aload_n 0, 1) := by decide +kernel
theorem dm_put_189 : decode bm_put 189 = .ok (.getfield 29, 3) := by decide +kernel
theorem dm_put_192 : decode bm_put 192 = .ok (.aload_n 0, 1) := by decide +kernel
theorem dm_put_193 : decode bm_put 193 = .ok (.getfield 90, 3) := by decide +kernel
theorem dm_put_196 : decode bm_put 196 = .ok (.iconst (-1), 1) := by decide +kernel
theorem dm_put_197 : decode bm_put 197 = .ok (.iastore, 1) := by decide +kernel
theorem dm_put_198 : decode bm_put 198 = .ok (.aload_n 0, 1) := by decide +kernel
theorem dm_put_199 : decode bm_put 199 = .ok (.dup, 1) := by decide +kernel
theorem dm_put_200 : decode bm_put 200 = .ok (.getfield 90, 3) := by decide +kernel
theorem dm_put_203 : decode bm_put 203 = .ok (.iconst 1, 1) := by decide +kernel
theorem dm_put_204 : decode bm_put 204 = .ok (.iadd, 1) := by decide +kernel
theorem dm_put_205 : decode bm_put 205 = .ok (.putfield 90, 3) := by decide +kernel
theorem dm_put_208 : decode bm_put 208 = .ok (.aload_n 0, 1) := by decide +kernel
theorem dm_put_209 : decode bm_put 209 = .ok (.getfield 90, 3) := by decide +kernel
theorem dm_put_212 : decode bm_put 212 = .ok (.iconst 1, 1) := by decide +kernel
theorem dm_put_213 : decode bm_put 213 = .ok (.isub, 1) := by decide +kernel
theorem dm_put_214 : decode bm_put 214 = .ok (.ireturn, 1) := by decide +kernel
set_option maxHeartbeats 4000000 in
set_option maxRecDepth 100000 in
theorem lm_put_32 {z : wt_Z} {s : wt_S} {t : wt_M} {o : Nat → Int64} {c1 : Int32} {K : Int32 → Option (Int32 × wt_M)} (am : wt_Am z R_M bm_put 6 1 (some .int)) (hK : ∀ (e2 : Int32), jj_J z 6 71 [(0, .ref (ad_ z 11)), (1, .int c1), (2, .int e2)] [] (s, t, o) (q_IT z s o) (K e2)) : ∀ (n : Nat) (x2 : Int32) (x3 : Int32), jj_J z 6 32 [(0, .ref (ad_ z 11)), (1, .int c1), (2, .int x2), (3, .int x3)] [] (s, t, o) (q_IT z s o) (fm_put_L32 t c1 K n x2 x3) := by
  intro n
  induction n with
  | zero =>
    intro x2 x3
    exact ji_none
  | succ n ih =>
    intro x2 x3
    rw [fm_put_L32]
    refine ji_iload_n (q := 33) am dm_put_32 rfl 3 rfl rfl ?_
    refine ji_iconst (q := 34) am dm_put_33 ki_4 rfl ?_
    refine ji_icmp_ge (q := 37) (g := 71) am dm_put_34 rfl rfl ?_ ?_
    · exact ji_sub (lv' := [(0, .ref (ad_ z 11)), (1, .int c1), (2, .int x2)]) [0, 1, 2] rfl (hK _)
    · refine ji_iload_n (q := 38) am dm_put_37 rfl 2 rfl rfl ?_
      refine ji_jn2 (fun j => ∀ (y0_64 : Int32), jj_J z 6 64 [(0, .ref (ad_ z 11)), (1, .int c1), (3, .int x3)] [.int y0_64] (s, t, o) (q_IT z s o) (j y0_64)) ?_ ?_
      · intro y0_64
        refine ji_istore_n (lv' := [(0, .ref (ad_ z 11)), (1, .int c1), (2, .int y0_64), (3, .int x3)]) (q := 65) am dm_put_64 rfl [1, 2, 0, 3] rfl rfl rfl ?_
        refine ji_iinc (q := 68) (lv' := [(0, .ref (ad_ z 11)), (1, .int c1), (2, .int y0_64), (3, .int (x3 + 1))]) am dm_put_65 3 rfl ki_1 [1, 2, 3, 0] rfl rfl rfl ?_
        refine ji_goto (q := 32) am dm_put_68 rfl ?_
        exact ih _ _
      · intro j64 hj64
        refine ji_jn2 (fun j => ∀ (u63 : Unit), jj_J z 6 63 [(0, .ref (ad_ z 11)), (1, .int c1), (3, .int x3)] [] (s, t, o) (q_IT z s o) (j u63)) ?_ ?_
        · intro u63
          refine ji_iconst (q := 64) am dm_put_63 ki_0 rfl ?_
          exact hj64 _
        · intro j63 hj63
          refine ji_if_eq (q := 41) (g := 63) am dm_put_38 rfl rfl ?_ ?_
          · exact ji_sub (lv' := [(0, .ref (ad_ z 11)), (1, .int c1), (3, .int x3)]) [0, 1, 3] rfl (hj63 _)
          · refine ji_aload_n (q := 42) am dm_put_41 rfl 0 rfl rfl ?_
            refine ji_get_M_words (q := 45) am dm_put_42 rfl ?_
            refine ji_iload_n (q := 46) am dm_put_45 rfl 1 rfl rfl ?_
            refine ji_iload_n (q := 47) am dm_put_46 rfl 3 rfl rfl ?_
            refine ji_iadd (q := 48) am dm_put_47 rfl ?_
            refine ji_ald_Mwords (q := 49) am dm_put_48 rfl ?_
            intro v48
            refine ji_aload_n (q := 50) am dm_put_49 rfl 0 rfl rfl ?_
            refine ji_get_M_words (q := 53) am dm_put_50 rfl ?_
            refine ji_iload_n (q := 54) am dm_put_53 rfl 1 rfl rfl ?_
            refine ji_ald_Mwords (q := 55) am dm_put_54 rfl ?_
            intro v54
            refine ji_lcmp_ne (q := 59) (g := 63) am dm_put_55 dm_put_56 rfl rfl ?_ ?_
            · exact ji_sub (lv' := [(0, .ref (ad_ z 11)), (1, .int c1), (3, .int x3)]) [0, 1, 3] rfl (hj63 _)
            · refine ji_iconst (q := 60) am dm_put_59 ki_1 rfl ?_
              refine ji_goto (q := 64) am dm_put_60 rfl ?_
              exact ji_sub (lv' := [(0, .ref (ad_ z 11)), (1, .int c1), (3, .int x3)]) [0, 1, 3] rfl (hj64 _)
set_option maxHeartbeats 4000000 in
set_option maxRecDepth 100000 in
theorem lm_put_93 {z : wt_Z} {s : wt_S} {t : wt_M} {o : Nat → Int64} {c1 : Int32} {c3 : Int32} {K : Int32 → Option (Int32 × wt_M)} (am : wt_Am z R_M bm_put 6 1 (some .int)) (hK : ∀ (e4 : Int32), jj_J z 6 141 [(0, .ref (ad_ z 11)), (1, .int c1), (3, .int c3), (4, .int e4)] [] (s, t, o) (q_IT z s o) (K e4)) : ∀ (n : Nat) (x4 : Int32) (x5 : Int32), jj_J z 6 93 [(0, .ref (ad_ z 11)), (1, .int c1), (3, .int c3), (4, .int x4), (5, .int x5)] [] (s, t, o) (q_IT z s o) (fm_put_L93 t c1 c3 K n x4 x5) := by
  intro n
  induction n with
  | zero =>
    intro x4 x5
    exact ji_none
  | succ n ih =>
    intro x4 x5
    rw [fm_put_L93]
    refine ji_iload (q := 95) am dm_put_93 4 rfl rfl ?_
    refine ji_iconst (q := 96) am dm_put_95 ki_4 rfl ?_
    refine ji_icmp_ge (q := 99) (g := 141) am dm_put_96 rfl rfl ?_ ?_
    · exact ji_sub (lv' := [(0, .ref (ad_ z 11)), (1, .int c1), (3, .int c3), (4, .int x4)]) [0, 1, 2, 3] rfl (hK _)
    · refine ji_iload (q := 101) am dm_put_99 3 rfl rfl ?_
      refine ji_if_eq (q := 104) (g := 141) am dm_put_101 rfl rfl ?_ ?_
      · exact ji_sub (lv' := [(0, .ref (ad_ z 11)), (1, .int c1), (3, .int c3), (4, .int x4)]) [0, 1, 2, 3] rfl (hK _)
      · refine ji_aload_n (q := 105) am dm_put_104 rfl 0 rfl rfl ?_
        refine ji_get_M_cuts (q := 108) am dm_put_105 rfl ?_
        refine ji_iconst (q := 109) am dm_put_108 ki_4 rfl ?_
        refine ji_iload_n (q := 110) am dm_put_109 rfl 2 rfl rfl ?_
        refine ji_imul (q := 111) am dm_put_110 rfl ?_
        refine ji_iload (q := 113) am dm_put_111 4 rfl rfl ?_
        refine ji_iadd (q := 114) am dm_put_113 rfl ?_
        refine ji_ald_Mcuts (q := 115) am dm_put_114 rfl ?_
        intro v114
        refine ji_aload_n (q := 116) am dm_put_115 rfl 0 rfl rfl ?_
        refine ji_get_M_words (q := 119) am dm_put_116 rfl ?_
        refine ji_iload_n (q := 120) am dm_put_119 rfl 1 rfl rfl ?_
        refine ji_iload (q := 122) am dm_put_120 4 rfl rfl ?_
        refine ji_iadd (q := 123) am dm_put_122 rfl ?_
        refine ji_ald_Mwords (q := 124) am dm_put_123 rfl ?_
        intro v123
        refine ji_jn2 (fun j => ∀ (y0_133 : Int32), jj_J z 6 133 [(0, .ref (ad_ z 11)), (1, .int c1), (3, .int c3), (5, .int x5)] [.int y0_133] (s, t, o) (q_IT z s o) (j y0_133)) ?_ ?_
        · intro y0_133
          refine ji_istore (lv' := [(0, .ref (ad_ z 11)), (1, .int c1), (3, .int c3), (4, .int y0_133), (5, .int x5)]) (q := 135) am dm_put_133 [1, 2, 3, 0, 4] rfl rfl rfl ?_
          refine ji_iinc (q := 138) (lv' := [(0, .ref (ad_ z 11)), (1, .int c1), (3, .int c3), (4, .int y0_133), (5, .int (x5 + 1))]) am dm_put_135 4 rfl ki_1 [1, 2, 3, 4, 0] rfl rfl rfl ?_
          refine ji_goto (q := 93) am dm_put_138 rfl ?_
          exact ih _ _
        · intro j133 hj133
          refine ji_lcmp_ne (q := 128) (g := 132) am dm_put_124 dm_put_125 rfl rfl ?_ ?_
          · refine ji_iconst (q := 133) am dm_put_132 ki_0 rfl ?_
            exact ji_sub (lv' := [(0, .ref (ad_ z 11)), (1, .int c1), (3, .int c3), (5, .int x5)]) [0, 1, 2, 4] rfl (hj133 _)
          · refine ji_iconst (q := 129) am dm_put_128 ki_1 rfl ?_
            refine ji_goto (q := 133) am dm_put_129 rfl ?_
            exact ji_sub (lv' := [(0, .ref (ad_ z 11)), (1, .int c1), (3, .int c3), (5, .int x5)]) [0, 1, 2, 4] rfl (hj133 _)
set_option maxHeartbeats 4000000 in
set_option maxRecDepth 100000 in
theorem lm_put_79 {z : wt_Z} {s : wt_S} {t : wt_M} {o : Nat → Int64} {c1 : Int32} {K : Unit → Option (Int32 × wt_M)} (am : wt_Am z R_M bm_put 6 1 (some .int)) (hK : ∀ (u : Unit), jj_J z 6 154 [(0, .ref (ad_ z 11)), (1, .int c1)] [] (s, t, o) (q_IT z s o) (K u)) : ∀ (n : Nat) (x3 : Int32), jj_J z 6 79 [(0, .ref (ad_ z 11)), (1, .int c1), (3, .int x3)] [] (s, t, o) (q_IT z s o) (fm_put_L79 t c1 K n x3) := by
  intro n
  induction n with
  | zero =>
    intro x3
    exact ji_none
  | succ n ih =>
    intro x3
    rw [fm_put_L79]
    refine ji_iload_n (q := 80) am dm_put_79 rfl 2 rfl rfl ?_
    refine ji_aload_n (q := 81) am dm_put_80 rfl 0 rfl rfl ?_
    refine ji_get_M_many (q := 84) am dm_put_81 rfl ?_
    refine ji_icmp_ge (q := 87) (g := 154) am dm_put_84 rfl rfl ?_ ?_
    · exact ji_sub (lv' := [(0, .ref (ad_ z 11)), (1, .int c1)]) [0, 1] rfl (hK _)
    · refine ji_iconst (q := 88) am dm_put_87 ki_1 rfl ?_
      refine ji_istore (lv' := [(0, .ref (ad_ z 11)), (1, .int c1), (3, .int x3), (4, .int (1 : Int32))]) (q := 90) am dm_put_88 [1, 2, 3, 0] rfl rfl rfl ?_
      refine ji_iconst (q := 91) am dm_put_90 ki_0 rfl ?_
      refine ji_istore (lv' := [(0, .ref (ad_ z 11)), (1, .int c1), (3, .int x3), (4, .int (1 : Int32)), (5, .int (0 : Int32))]) (q := 93) am dm_put_91 [1, 2, 3, 4, 0] rfl rfl rfl ?_
      refine lm_put_93 am (fun z4_93 => ?_) 5000 _ _
      refine ji_iload (q := 143) am dm_put_141 3 rfl rfl ?_
      refine ji_if_eq (q := 146) (g := 148) am dm_put_143 rfl rfl ?_ ?_
      · refine ji_iinc (q := 151) (lv' := [(0, .ref (ad_ z 11)), (1, .int c1), (3, .int (x3 + 1)), (4, .int z4_93)]) am dm_put_148 2 rfl ki_1 [1, 2, 0, 3] rfl rfl rfl ?_
        refine ji_goto (q := 79) am dm_put_151 rfl ?_
        exact ji_sub (lv' := [(0, .ref (ad_ z 11)), (1, .int c1), (3, .int (x3 + 1))]) [0, 1, 2] rfl (ih _)
      · refine ji_iload_n (q := 147) am dm_put_146 rfl 2 rfl rfl ?_
        exact ji_iret am rfl dm_put_147 rfl rfl
set_option maxHeartbeats 4000000 in
set_option maxRecDepth 100000 in
theorem lm_put_156 {z : wt_Z} {s : wt_S} {o : Nat → Int64} {c1 : Int32} {K : wt_M → Option (Int32 × wt_M)} (am : wt_Am z R_M bm_put 6 1 (some .int)) (hK : ∀ (t3 : wt_M), jj_J z 6 188 [(0, .ref (ad_ z 11))] [] (s, t3, o) (q_IT z s o) (K t3)) : ∀ (n : Nat) (x3 : Int32) (t : wt_M), jj_J z 6 156 [(0, .ref (ad_ z 11)), (1, .int c1), (3, .int x3)] [] (s, t, o) (q_IT z s o) (fm_put_L156 c1 K n x3 t) := by
  intro n
  induction n with
  | zero =>
    intro x3 t
    exact ji_none
  | succ n ih =>
    intro x3 t
    rw [fm_put_L156]
    refine ji_iload_n (q := 157) am dm_put_156 rfl 2 rfl rfl ?_
    refine ji_iconst (q := 158) am dm_put_157 ki_4 rfl ?_
    refine ji_icmp_ge (q := 161) (g := 188) am dm_put_158 rfl rfl ?_ ?_
    · exact ji_sub (lv' := [(0, .ref (ad_ z 11))]) [0] rfl (hK _)
    · refine ji_aload_n (q := 162) am dm_put_161 rfl 0 rfl rfl ?_
      refine ji_get_M_cuts (q := 165) am dm_put_162 rfl ?_
      refine ji_iconst (q := 166) am dm_put_165 ki_4 rfl ?_
      refine ji_aload_n (q := 167) am dm_put_166 rfl 0 rfl rfl ?_
      refine ji_get_M_many (q := 170) am dm_put_167 rfl ?_
      refine ji_imul (q := 171) am dm_put_170 rfl ?_
      refine ji_iload_n (q := 172) am dm_put_171 rfl 2 rfl rfl ?_
      refine ji_iadd (q := 173) am dm_put_172 rfl ?_
      refine ji_aload_n (q := 174) am dm_put_173 rfl 0 rfl rfl ?_
      refine ji_get_M_words (q := 177) am dm_put_174 rfl ?_
      refine ji_iload_n (q := 178) am dm_put_177 rfl 1 rfl rfl ?_
      refine ji_iload_n (q := 179) am dm_put_178 rfl 2 rfl rfl ?_
      refine ji_iadd (q := 180) am dm_put_179 rfl ?_
      refine ji_ald_Mwords (q := 181) am dm_put_180 rfl ?_
      intro v180
      refine ji_ast_Mcuts (q := 182) am dm_put_181 rfl ?_
      intro t181
      refine ji_iinc (q := 185) (lv' := [(0, .ref (ad_ z 11)), (1, .int c1), (3, .int (x3 + 1))]) am dm_put_182 2 rfl ki_1 [1, 2, 0] rfl rfl rfl ?_
      refine ji_goto (q := 156) am dm_put_185 rfl ?_
      exact ih _ _
set_option maxHeartbeats 4000000 in
set_option maxRecDepth 100000 in
theorem ctm_put {v : wt_V} {t : wt_M} {a1 : Int32} {r : Int32} {t2 : wt_M} (s : wt_S) (o : Nat → Int64) (hF : fm_put t a1 = some (r, t2)) : ct_C v ym_put (Cond.code ym_put bm_put 6 (some .int)) 1 [.ref (v.2.1 11), .int a1] (some (.int r)) (s, t, o) (s, t2, o) := by
  refine ct_of (lv := [(0, .ref (v.2.1 11)), (1, .int a1)]) (fun r : Int32 × wt_M => some (.int r.1)) (fun r => (s, r.2, o)) (by decide) (Nat.le_of_ble_eq_true rfl) rfl ?_ (r, t2) hF
  intro z hz am
  subst hz
  have am : wt_Am z R_M bm_put 6 1 (some .int) := am
  show jj_J z 6 0 [(0, .ref (ad_ z 11)), (1, .int a1)] [] (s, t, o) (q_IT z s o) (fm_put t a1)
  unfold fm_put
  refine ji_aload_n (q := 1) am dm_put_0 rfl 0 rfl rfl ?_
  refine ji_get_M_words (q := 4) am dm_put_1 rfl ?_
  refine ji_iload_n (q := 5) am dm_put_4 rfl 1 rfl rfl ?_
  refine ji_ald_Mwords (q := 6) am dm_put_5 rfl ?_
  intro v5
  refine ji_lconst (q := 7) am dm_put_6 kl_0 rfl ?_
  refine ji_jn2 (fun j => ∀ (y0_29 : Int32), jj_J z 6 29 [(0, .ref (ad_ z 11)), (1, .int a1)] [.int y0_29] (s, t, o) (q_IT z s o) (j y0_29)) ?_ ?_
  · intro y0_29
    refine ji_istore_n (lv' := [(0, .ref (ad_ z 11)), (1, .int a1), (2, .int y0_29)]) (q := 30) am dm_put_29 rfl [1, 2, 0] rfl rfl rfl ?_
    refine ji_iconst (q := 31) am dm_put_30 ki_1 rfl ?_
    refine ji_istore_n (lv' := [(0, .ref (ad_ z 11)), (1, .int a1), (2, .int y0_29), (3, .int (1 : Int32))]) (q := 32) am dm_put_31 rfl [1, 2, 3, 0] rfl rfl rfl ?_
    refine lm_put_32 am (fun z2_32 => ?_) 5000 _ _
    refine ji_iload_n (q := 72) am dm_put_71 rfl 2 rfl rfl ?_
    refine ji_if_eq (q := 75) (g := 77) am dm_put_72 rfl rfl ?_ ?_
    · refine ji_iconst (q := 78) am dm_put_77 ki_0 rfl ?_
      refine ji_istore_n (lv' := [(0, .ref (ad_ z 11)), (1, .int a1), (2, .int z2_32), (3, .int (0 : Int32))]) (q := 79) am dm_put_78 rfl [1, 2, 3, 0] rfl rfl rfl ?_
      refine ji_sub (lv' := [(0, .ref (ad_ z 11)), (1, .int a1), (3, .int (0 : Int32))]) [0, 1, 3] rfl (lm_put_79 am (fun u => ?_) 5000 _)
      refine ji_iconst (q := 155) am dm_put_154 ki_0 rfl ?_
      refine ji_istore_n (lv' := [(0, .ref (ad_ z 11)), (1, .int a1), (3, .int (0 : Int32))]) (q := 156) am dm_put_155 rfl [1, 2, 0] rfl rfl rfl ?_
      refine lm_put_156 am (fun t_156 => ?_) 5000 _ _
      refine ji_aload_n (q := 189) am dm_put_188 rfl 0 rfl rfl ?_
      refine ji_get_M_told (q := 192) am dm_put_189 rfl ?_
      refine ji_aload_n (q := 193) am dm_put_192 rfl 0 rfl rfl ?_
      refine ji_get_M_many (q := 196) am dm_put_193 rfl ?_
      refine ji_iconst (q := 197) am dm_put_196 ki_m1 rfl ?_
      refine ji_ast_Mtold (q := 198) am dm_put_197 rfl ?_
      intro t197
      refine ji_aload_n (q := 199) am dm_put_198 rfl 0 rfl rfl ?_
      refine ji_dup (q := 200) am dm_put_199 rfl rfl ?_
      refine ji_get_M_many (q := 203) am dm_put_200 rfl ?_
      refine ji_iconst (q := 204) am dm_put_203 ki_1 rfl ?_
      refine ji_iadd (q := 205) am dm_put_204 rfl ?_
      refine ji_put_M_many (q := 208) am dm_put_205 rfl ?_
      intro t205
      refine ji_aload_n (q := 209) am dm_put_208 rfl 0 rfl rfl ?_
      refine ji_get_M_many (q := 212) am dm_put_209 rfl ?_
      refine ji_iconst (q := 213) am dm_put_212 ki_1 rfl ?_
      refine ji_isub (q := 214) am dm_put_213 rfl ?_
      exact ji_iret am rfl dm_put_214 rfl rfl
    · refine ji_iconst (q := 76) am dm_put_75 ki_m1 rfl ?_
      exact ji_iret am rfl dm_put_76 rfl rfl
  · intro j29 hj29
    refine ji_jn2 (fun j => ∀ (u24 : Unit), jj_J z 6 24 [(0, .ref (ad_ z 11)), (1, .int a1)] [] (s, t, o) (q_IT z s o) (j u24)) ?_ ?_
    · intro u24
      refine ji_iconst (q := 25) am dm_put_24 ki_1 rfl ?_
      refine ji_goto (q := 29) am dm_put_25 rfl ?_
      exact hj29 _
    · intro j24 hj24
      refine ji_lcmp_eq (q := 11) (g := 24) am dm_put_7 dm_put_8 rfl rfl ?_ ?_
      · exact hj24 _
      · refine ji_aload_n (q := 12) am dm_put_11 rfl 0 rfl rfl ?_
        refine ji_get_M_words (q := 15) am dm_put_12 rfl ?_
        refine ji_iload_n (q := 16) am dm_put_15 rfl 1 rfl rfl ?_
        refine ji_ald_Mwords (q := 17) am dm_put_16 rfl ?_
        intro v16
        refine ji_ldc2 (q := 20) (v := (-1 : Int64)) am lk_M_88 dm_put_17 rfl ?_
        refine ji_lcmp_ne (q := 24) (g := 28) am dm_put_20 dm_put_21 rfl rfl ?_ ?_
        · refine ji_iconst (q := 29) am dm_put_28 ki_0 rfl ?_
          exact hj29 _
        · exact hj24 _

theorem dm_tell_0 : decode bm_tell 0 = .ok (.iload_n 1, 1) := by decide +kernel
theorem dm_tell_1 : decode bm_tell 1 = .ok (.ifCond .lt 40, 3) := by decide +kernel
theorem dm_tell_4 : decode bm_tell 4 = .ok (.aload_n 0, 1) := by decide +kernel
theorem dm_tell_5 : decode bm_tell 5 = .ok (.getfield 29, 3) := by decide +kernel
theorem dm_tell_8 : decode bm_tell 8 = .ok (.iload_n 1, 1) := by decide +kernel
theorem dm_tell_9 : decode bm_tell 9 = .ok (.iaload, 1) := by decide +kernel
theorem dm_tell_10 : decode bm_tell 10 = .ok (.iload_n 2, 1) := by decide +kernel
theorem dm_tell_11 : decode bm_tell 11 = .ok (.if_icmp .ge 30, 3) := by decide +kernel
theorem dm_tell_14 : decode bm_tell 14 = .ok (.aload_n 0, 1) := by decide +kernel
theorem dm_tell_15 : decode bm_tell 15 = .ok (.getfield 29, 3) := by decide +kernel
theorem dm_tell_18 : decode bm_tell 18 = .ok (.iload_n 1, 1) := by decide +kernel
theorem dm_tell_19 : decode bm_tell 19 = .ok (.iload_n 2, 1) := by decide +kernel
theorem dm_tell_20 : decode bm_tell 20 = .ok (.iastore, 1) := by decide +kernel
theorem dm_tell_21 : decode bm_tell 21 = .ok (.aload_n 0, 1) := by decide +kernel
theorem dm_tell_22 : decode bm_tell 22 = .ok (.getfield 26, 3) := by decide +kernel
theorem dm_tell_25 : decode bm_tell 25 = .ok (.aload_n 0, 1) := by decide +kernel
theorem dm_tell_26 : decode bm_tell 26 = .ok (.getfield 93, 3) := by decide +kernel
theorem dm_tell_29 : decode bm_tell 29 = .ok (.iload_n 1, 1) := by decide +kernel
theorem dm_tell_30 : decode bm_tell 30 = .ok (.iastore, 1) := by decide +kernel
theorem dm_tell_31 : decode bm_tell 31 = .ok (.aload_n 0, 1) := by decide +kernel
theorem dm_tell_32 : decode bm_tell 32 = .ok (.dup, 1) := by decide +kernel
theorem dm_tell_33 : decode bm_tell 33 = .ok (.getfield 93, 3) := by decide +kernel
theorem dm_tell_36 : decode bm_tell 36 = .ok (.iconst 1, 1) := by decide +kernel
theorem dm_tell_37 : decode bm_tell 37 = .ok (.iadd, 1) := by decide +kernel
theorem dm_tell_38 : decode bm_tell 38 = .ok (.putfield 93, 3) := by decide +kernel
theorem dm_tell_41 : decode bm_tell 41 = .ok (.return_, 1) := by decide +kernel
set_option maxHeartbeats 4000000 in
set_option maxRecDepth 100000 in
theorem ctm_tell {v : wt_V} {t : wt_M} {a1 : Int32} {a2 : Int32} {t2 : wt_M} (s : wt_S) (o : Nat → Int64) (hF : fm_tell t a1 a2 = some t2) : ct_C v ym_tell (Cond.code ym_tell bm_tell 3 none) 1 [.ref (v.2.1 11), .int a1, .int a2] none (s, t, o) (s, t2, o) := by
  refine ct_of (lv := [(0, .ref (v.2.1 11)), (1, .int a1), (2, .int a2)]) (fun _ : wt_M => none) (fun r => (s, r, o)) (by decide) (Nat.le_of_ble_eq_true rfl) rfl ?_ t2 hF
  intro z hz am
  subst hz
  have am : wt_Am z R_M bm_tell 3 1 none := am
  show jj_J z 3 0 [(0, .ref (ad_ z 11)), (1, .int a1), (2, .int a2)] [] (s, t, o) (q_T z s o) (fm_tell t a1 a2)
  unfold fm_tell
  refine ji_iload_n (q := 1) am dm_tell_0 rfl 1 rfl rfl ?_
  refine ji_jn2 (fun j => ∀ (t_41 : wt_M), jj_J z 3 41 [] [] (s, t_41, o) (q_T z s o) (j t_41)) ?_ ?_
  · intro t_41
    exact ji_vret am rfl dm_tell_41 rfl rfl
  · intro j41 hj41
    refine ji_if_lt (q := 4) (g := 41) am dm_tell_1 rfl rfl ?_ ?_
    · exact ji_sub (lv' := []) [] rfl (hj41 _)
    · refine ji_aload_n (q := 5) am dm_tell_4 rfl 0 rfl rfl ?_
      refine ji_get_M_told (q := 8) am dm_tell_5 rfl ?_
      refine ji_iload_n (q := 9) am dm_tell_8 rfl 1 rfl rfl ?_
      refine ji_ald_Mtold (q := 10) am dm_tell_9 rfl ?_
      intro v9
      refine ji_iload_n (q := 11) am dm_tell_10 rfl 2 rfl rfl ?_
      refine ji_icmp_ge (q := 14) (g := 41) am dm_tell_11 rfl rfl ?_ ?_
      · exact ji_sub (lv' := []) [] rfl (hj41 _)
      · refine ji_aload_n (q := 15) am dm_tell_14 rfl 0 rfl rfl ?_
        refine ji_get_M_told (q := 18) am dm_tell_15 rfl ?_
        refine ji_iload_n (q := 19) am dm_tell_18 rfl 1 rfl rfl ?_
        refine ji_iload_n (q := 20) am dm_tell_19 rfl 2 rfl rfl ?_
        refine ji_ast_Mtold (q := 21) am dm_tell_20 rfl ?_
        intro t20
        refine ji_aload_n (q := 22) am dm_tell_21 rfl 0 rfl rfl ?_
        refine ji_get_M_next (q := 25) am dm_tell_22 rfl ?_
        refine ji_aload_n (q := 26) am dm_tell_25 rfl 0 rfl rfl ?_
        refine ji_get_M_nextMany (q := 29) am dm_tell_26 rfl ?_
        refine ji_iload_n (q := 30) am dm_tell_29 rfl 1 rfl rfl ?_
        refine ji_ast_Mnext (q := 31) am dm_tell_30 rfl ?_
        intro t30
        refine ji_aload_n (q := 32) am dm_tell_31 rfl 0 rfl rfl ?_
        refine ji_dup (q := 33) am dm_tell_32 rfl rfl ?_
        refine ji_get_M_nextMany (q := 36) am dm_tell_33 rfl ?_
        refine ji_iconst (q := 37) am dm_tell_36 ki_1 rfl ?_
        refine ji_iadd (q := 38) am dm_tell_37 rfl ?_
        refine ji_put_M_nextMany (q := 41) am dm_tell_38 rfl ?_
        intro t38
        exact ji_sub (lv' := []) [] rfl (hj41 _)

theorem dm_nodesOf_0 : decode bm_nodesOf 0 = .ok (.aload_n 0, 1) := by decide +kernel
theorem dm_nodesOf_1 : decode bm_nodesOf 1 = .ok (.iconst 0, 1) := by decide +kernel
theorem dm_nodesOf_2 : decode bm_nodesOf 2 = .ok (.putfield 90, 3) := by decide +kernel
theorem dm_nodesOf_5 : decode bm_nodesOf 5 = .ok (.aload_n 0, 1) := by decide +kernel
theorem dm_nodesOf_6 : decode bm_nodesOf 6 = .ok (.iconst 0, 1) := by decide +kernel
theorem dm_nodesOf_7 : decode bm_nodesOf 7 = .ok (.putfield 93, 3) := by decide +kernel
theorem dm_nodesOf_10 : decode bm_nodesOf 10 = .ok (.iload_n 1, 1) := by decide +kernel
theorem dm_nodesOf_11 : decode bm_nodesOf 11 = .ok (.istore_n 3, 1) := by decide +kernel
theorem dm_nodesOf_12 : decode bm_nodesOf 12 = .ok (.iload_n 3, 1) := by decide +kernel
theorem dm_nodesOf_13 : decode bm_nodesOf 13 = .ok (.iload_n 2, 1) := by decide +kernel
theorem dm_nodesOf_14 : decode bm_nodesOf 14 = .ok (.if_icmp .gt 21, 3) := by decide +kernel
theorem dm_nodesOf_17 : decode bm_nodesOf 17 = .ok (.aload_n 0, 1) := by decide +kernel
theorem dm_nodesOf_18 : decode bm_nodesOf 18 = .ok (.aload_n 0, 1) := by decide +kernel
theorem dm_nodesOf_19 : decode bm_nodesOf 19 = .ok (.iconst 4, 1) := by decide +kernel
theorem dm_nodesOf_20 : decode bm_nodesOf 20 = .ok (.iload_n 3, 1) := by decide +kernel
theorem dm_nodesOf_21 : decode bm_nodesOf 21 = .ok (.imul, 1) := by decide +kernel
theorem dm_nodesOf_22 : decode bm_nodesOf 22 = .ok (.invokevirtual 96, 3) := by decide +kernel
theorem dm_nodesOf_25 : decode bm_nodesOf 25 = .ok (.iconst 0, 1) := by decide +kernel
theorem dm_nodesOf_26 : decode bm_nodesOf 26 = .ok (.invokevirtual 99, 3) := by decide +kernel
theorem dm_nodesOf_29 : decode bm_nodesOf 29 = .ok (.iinc 3 1, 3) := by decide +kernel
theorem dm_nodesOf_32 : decode bm_nodesOf 32 = .ok (.goto (-20), 3) := by decide +kernel
theorem dm_nodesOf_35 : decode bm_nodesOf 35 = .ok (.iconst 0, 1) := by decide +kernel
theorem dm_nodesOf_36 : decode bm_nodesOf 36 = .ok (.istore_n 3, 1) := by decide +kernel
theorem dm_nodesOf_37 : decode bm_nodesOf 37 = .ok (.iload_n 3, 1) := by decide +kernel
theorem dm_nodesOf_38 : decode bm_nodesOf 38 = .ok (.bipush 8, 2) := by decide +kernel
theorem dm_nodesOf_40 : decode bm_nodesOf 40 = .ok (.if_icmp .ge 128, 3) := by decide +kernel
theorem dm_nodesOf_43 : decode bm_nodesOf 43 = .ok (.aload_n 0, 1) := by decide +kernel
theorem dm_nodesOf_44 : decode bm_nodesOf 44 = .ok (.aload_n 0, 1) := by decide +kernel
theorem dm_nodesOf_45 : decode bm_nodesOf 45 = .ok (.getfield 93, 3) := by decide +kernel
theorem dm_nodesOf_48 : decode bm_nodesOf 48 = .ok (.putfield 103, 3) := by decide +kernel
theorem dm_nodesOf_51 : decode bm_nodesOf 51 = .ok (.iconst 0, 1) := by decide +kernel
theorem dm_nodesOf_52 : decode bm_nodesOf 52 = .ok (.istore 4, 2) := by decide +kernel
theorem dm_nodesOf_54 : decode bm_nodesOf 54 = .ok (.iload 4, 2) := by decide +kernel
theorem dm_nodesOf_56 : decode bm_nodesOf 56 = .ok (.aload_n 0, 1) := by decide +kernel
theorem dm_nodesOf_57 : decode bm_nodesOf 57 = .ok (.getfield 93, 3) := by decide +kernel
theorem dm_nodesOf_60 : decode bm_nodesOf 60 = .ok (.if_icmp .ge 23, 3) := by decide +kernel
theorem dm_nodesOf_63 : decode bm_nodesOf 63 = .ok (.aload_n 0, 1) := by decide +kernel
theorem dm_nodesOf_64 : decode bm_nodesOf 64 = .ok (.getfield 23, 3) := by decide +kernel
theorem dm_nodesOf_67 : decode bm_nodesOf 67 = .ok (.iload 4, 2) := by decide +kernel
theorem dm_nodesOf_69 : decode bm_nodesOf 69 = .ok (.aload_n 0, 1) := by decide +kernel
theorem dm_nodesOf_70 : decode bm_nodesOf 70 = .ok (.getfield 26, 3) := by decide +kernel
theorem dm_nodesOf_73 : decode bm_nodesOf 73 = .ok (.iload 4, 2) := by decide +kernel
theorem dm_nodesOf_75 : decode bm_nodesOf 75 = .ok (.iaload, 1) := by decide +kernel
theorem dm_nodesOf_76 : decode bm_nodesOf 76 = .ok (.iastore, 1) := by decide +kernel
theorem dm_nodesOf_77 : decode bm_nodesOf 77 = .ok (.iinc 4 1, 3) := by decide +kernel
theorem dm_nodesOf_80 : decode bm_nodesOf 80 = .ok (.goto (-26), 3) := by decide +kernel
theorem dm_nodesOf_83 : decode bm_nodesOf 83 = .ok (.aload_n 0, 1) := by decide +kernel
theorem dm_nodesOf_84 : decode bm_nodesOf 84 = .ok (.iconst 0, 1) := by decide +kernel
theorem dm_nodesOf_85 : decode bm_nodesOf 85 = .ok (.putfield 93, 3) := by decide +kernel
theorem dm_nodesOf_88 : decode bm_nodesOf 88 = .ok (.iconst 0, 1) := by decide +kernel
theorem dm_nodesOf_89 : decode bm_nodesOf 89 = .ok (.istore 4, 2) := by decide +kernel
theorem dm_nodesOf_91 : decode bm_nodesOf 91 = .ok (.iload 4, 2) := by decide +kernel
theorem dm_nodesOf_93 : decode bm_nodesOf 93 = .ok (.aload_n 0, 1) := by decide +kernel
theorem dm_nodesOf_94 : decode bm_nodesOf 94 = .ok (.getfield 103, 3) := by decide +kernel
theorem dm_nodesOf_97 : decode bm_nodesOf 97 = .ok (.if_icmp .ge 65, 3) := by decide +kernel
theorem dm_nodesOf_100 : decode bm_nodesOf 100 = .ok (.iconst 0, 1) := by decide +kernel
theorem dm_nodesOf_101 : decode bm_nodesOf 101 = .ok (.istore 5, 2) := by decide +kernel
theorem dm_nodesOf_103 : decode bm_nodesOf 103 = .ok (.iload 5, 2) := by decide +kernel
theorem dm_nodesOf_105 : decode bm_nodesOf 105 = .ok (.iconst 2, 1) := by decide +kernel
theorem dm_nodesOf_106 : decode bm_nodesOf 106 = .ok (.if_icmp .ge 50, 3) := by decide +kernel
theorem dm_nodesOf_109 : decode bm_nodesOf 109 = .ok (.aload_n 0, 1) := by decide +kernel
theorem dm_nodesOf_110 : decode bm_nodesOf 110 = .ok (.aload_n 0, 1) := by decide +kernel
theorem dm_nodesOf_111 : decode bm_nodesOf 111 = .ok (.getfield 23, 3) := by decide +kernel
theorem dm_nodesOf_114 : decode bm_nodesOf 114 = .ok (.iload 4, 2) := by decide +kernel
theorem dm_nodesOf_116 : decode bm_nodesOf 116 = .ok (.iaload, 1) := by decide +kernel
theorem dm_nodesOf_117 : decode bm_nodesOf 117 = .ok (.aload_n 0, 1) := by decide +kernel
theorem dm_nodesOf_118 : decode bm_nodesOf 118 = .ok (.getfield 13, 3) := by decide +kernel
theorem dm_nodesOf_121 : decode bm_nodesOf 121 = .ok (.iload_n 3, 1) := by decide +kernel
theorem dm_nodesOf_122 : decode bm_nodesOf 122 = .ok (.iaload, 1) := by decide +kernel
theorem dm_nodesOf_123 : decode bm_nodesOf 123 = .ok (.iload 5, 2) := by decide +kernel
theorem dm_nodesOf_125 : decode bm_nodesOf 125 = .ok (.iconst 1, 1) := by decide +kernel
theorem dm_nodesOf_126 : decode bm_nodesOf 126 = .ok (.if_icmp .ne 7, 3) := by decide +kernel
theorem dm_nodesOf_129 : decode bm_nodesOf 129 = .ok (.iconst 1, 1) := by decide +kernel
theorem dm_nodesOf_130 : decode bm_nodesOf 130 = .ok (.goto 4, 3) := by decide +kernel
theorem dm_nodesOf_133 : decode bm_nodesOf 133 = .ok (.iconst 0, 1) := by decide +kernel
theorem dm_nodesOf_134 : decode bm_nodesOf 134 = .ok (.invokevirtual 106, 3) := by decide +kernel
theorem dm_nodesOf_137 : decode bm_nodesOf 137 = .ok (.aload_n 0, 1) := by decide +kernel
theorem dm_nodesOf_138 : decode bm_nodesOf 138 = .ok (.aload_n 0, 1) := by decide +kernel
theorem dm_nodesOf_139 : decode bm_nodesOf 139 = .ok (.bipush 68, 2) := by decide +kernel
theorem dm_nodesOf_141 : decode bm_nodesOf 141 = .ok (.invokevirtual 96, 3) := by decide +kernel
theorem dm_nodesOf_144 : decode bm_nodesOf 144 = .ok (.iload_n 3, 1) := by decide +kernel
theorem dm_nodesOf_145 : decode bm_nodesOf 145 = .ok (.iconst 1, 1) := by decide +kernel
theorem dm_nodesOf_146 : decode bm_nodesOf 146 = .ok (.iadd, 1) := by decide +kernel
theorem dm_nodesOf_147 : decode bm_nodesOf 147 = .ok (.invokevirtual 99, 3) := by decide +kernel
theorem dm_nodesOf_150 : decode bm_nodesOf 150 = .ok (.iinc 5 1, 3) := by decide +kernel
theorem dm_nodesOf_153 : decode bm_nodesOf 153 = .ok (.goto (-50), 3) := by decide +kernel
theorem dm_nodesOf_156 : decode bm_nodesOf 156 = .ok (.iinc 4 1, 3) := by decide +kernel
theorem dm_nodesOf_159 : decode bm_nodesOf 159 = .ok (.goto (-68), 3) := by decide +kernel
theorem dm_nodesOf_162 : decode bm_nodesOf 162 = .ok (.iinc 3 1, 3) := by decide +kernel
theorem dm_nodesOf_165 : decode bm_nodesOf 165 = .ok (.goto (-128), 3) := by decide +kernel
theorem dm_nodesOf_168 : decode bm_nodesOf 168 = .ok (.aload_n 0, 1) := by decide +kernel
theorem dm_nodesOf_169 : decode bm_nodesOf 169 = .ok (.getfield 90, 3) := by decide +kernel
theorem dm_nodesOf_172 : decode bm_nodesOf 172 = .ok (.ireturn, 1) := by decide +kernel
set_option maxHeartbeats 4000000 in
set_option maxRecDepth 100000 in
theorem lm_nodesOf_12 {z : wt_Z} {s : wt_S} {o : Nat → Int64} {c2 : Int32} {K : wt_M → Option (Int32 × wt_M)} (am : wt_Am z R_M bm_nodesOf 6 2 (some .int)) (hK : ∀ (t3 : wt_M), jj_J z 6 35 [(0, .ref (ad_ z 11))] [] (s, t3, o) (q_IT z s o) (K t3)) : ∀ (n : Nat) (x3 : Int32) (t : wt_M), jj_J z 6 12 [(0, .ref (ad_ z 11)), (2, .int c2), (3, .int x3)] [] (s, t, o) (q_IT z s o) (fm_nodesOf_L12 c2 K n x3 t) := by
  intro n
  induction n with
  | zero =>
    intro x3 t
    exact ji_none
  | succ n ih =>
    intro x3 t
    rw [fm_nodesOf_L12]
    refine ji_iload_n (q := 13) am dm_nodesOf_12 rfl 2 rfl rfl ?_
    refine ji_iload_n (q := 14) am dm_nodesOf_13 rfl 1 rfl rfl ?_
    refine ji_icmp_gt (q := 17) (g := 35) am dm_nodesOf_14 rfl rfl ?_ ?_
    · exact ji_sub (lv' := [(0, .ref (ad_ z 11))]) [0] rfl (hK _)
    · refine ji_aload_n (q := 18) am dm_nodesOf_17 rfl 0 rfl rfl ?_
      refine ji_aload_n (q := 19) am dm_nodesOf_18 rfl 0 rfl rfl ?_
      refine ji_iconst (q := 20) am dm_nodesOf_19 ki_4 rfl ?_
      refine ji_iload_n (q := 21) am dm_nodesOf_20 rfl 2 rfl rfl ?_
      refine ji_imul (q := 22) am dm_nodesOf_21 rfl ?_
      refine jk_IT (q := 25) (rest := [.ref (ad_ z 11)]) (fun r t2 hF => jr_V [.int ((4 : Int32) * x3)] am ln_M_m_put (ctm_put _ _ hF) (by omega) (rc_M am) rfl rfl (Nat.le_of_ble_eq_true rfl) dm_nodesOf_22) rfl ?_
      intro r22 t22
      refine ji_iconst (q := 26) am dm_nodesOf_25 ki_0 rfl ?_
      refine jk_T (q := 29) (rest := []) (fun t2 hF => jr_V [.int r22, .int (0 : Int32)] am ln_M_m_tell (ctm_tell _ _ hF) (by omega) (rc_M am) rfl rfl (Nat.le_of_ble_eq_true rfl) dm_nodesOf_26) rfl ?_
      intro t26
      refine ji_iinc (q := 32) (lv' := [(0, .ref (ad_ z 11)), (2, .int c2), (3, .int (x3 + 1))]) am dm_nodesOf_29 2 rfl ki_1 [1, 2, 0] rfl rfl rfl ?_
      refine ji_goto (q := 12) am dm_nodesOf_32 rfl ?_
      exact ih _ _
set_option maxHeartbeats 4000000 in
set_option maxRecDepth 100000 in
theorem lm_nodesOf_54 {z : wt_Z} {s : wt_S} {o : Nat → Int64} {c3 : Int32} {K : wt_M → Option (Int32 × wt_M)} (am : wt_Am z R_M bm_nodesOf 6 2 (some .int)) (hK : ∀ (t3 : wt_M), jj_J z 6 83 [(0, .ref (ad_ z 11)), (3, .int c3)] [] (s, t3, o) (q_IT z s o) (K t3)) : ∀ (n : Nat) (x4 : Int32) (t : wt_M), jj_J z 6 54 [(0, .ref (ad_ z 11)), (3, .int c3), (4, .int x4)] [] (s, t, o) (q_IT z s o) (fm_nodesOf_L54 c3 K n x4 t) := by
  intro n
  induction n with
  | zero =>
    intro x4 t
    exact ji_none
  | succ n ih =>
    intro x4 t
    rw [fm_nodesOf_L54]
    refine ji_iload (q := 56) am dm_nodesOf_54 2 rfl rfl ?_
    refine ji_aload_n (q := 57) am dm_nodesOf_56 rfl 0 rfl rfl ?_
    refine ji_get_M_nextMany (q := 60) am dm_nodesOf_57 rfl ?_
    refine ji_icmp_ge (q := 63) (g := 83) am dm_nodesOf_60 rfl rfl ?_ ?_
    · exact ji_sub (lv' := [(0, .ref (ad_ z 11)), (3, .int c3)]) [0, 1] rfl (hK _)
    · refine ji_aload_n (q := 64) am dm_nodesOf_63 rfl 0 rfl rfl ?_
      refine ji_get_M_here (q := 67) am dm_nodesOf_64 rfl ?_
      refine ji_iload (q := 69) am dm_nodesOf_67 2 rfl rfl ?_
      refine ji_aload_n (q := 70) am dm_nodesOf_69 rfl 0 rfl rfl ?_
      refine ji_get_M_next (q := 73) am dm_nodesOf_70 rfl ?_
      refine ji_iload (q := 75) am dm_nodesOf_73 2 rfl rfl ?_
      refine ji_ald_Mnext (q := 76) am dm_nodesOf_75 rfl ?_
      intro v75
      refine ji_ast_Mhere (q := 77) am dm_nodesOf_76 rfl ?_
      intro t76
      refine ji_iinc (q := 80) (lv' := [(0, .ref (ad_ z 11)), (3, .int c3), (4, .int (x4 + 1))]) am dm_nodesOf_77 2 rfl ki_1 [1, 2, 0] rfl rfl rfl ?_
      refine ji_goto (q := 54) am dm_nodesOf_80 rfl ?_
      exact ih _ _
set_option maxHeartbeats 4000000 in
set_option maxRecDepth 100000 in
theorem lm_nodesOf_103 {z : wt_Z} {s : wt_S} {o : Nat → Int64} {c3 : Int32} {c4 : Int32} {K : wt_M → Option (Int32 × wt_M)} (am : wt_Am z R_M bm_nodesOf 6 2 (some .int)) (hK : ∀ (t3 : wt_M), jj_J z 6 156 [(0, .ref (ad_ z 11)), (3, .int c3), (4, .int c4)] [] (s, t3, o) (q_IT z s o) (K t3)) : ∀ (n : Nat) (x5 : Int32) (t : wt_M), jj_J z 6 103 [(0, .ref (ad_ z 11)), (3, .int c3), (4, .int c4), (5, .int x5)] [] (s, t, o) (q_IT z s o) (fm_nodesOf_L103 c3 c4 K n x5 t) := by
  intro n
  induction n with
  | zero =>
    intro x5 t
    exact ji_none
  | succ n ih =>
    intro x5 t
    rw [fm_nodesOf_L103]
    refine ji_iload (q := 105) am dm_nodesOf_103 3 rfl rfl ?_
    refine ji_iconst (q := 106) am dm_nodesOf_105 ki_2 rfl ?_
    refine ji_icmp_ge (q := 109) (g := 156) am dm_nodesOf_106 rfl rfl ?_ ?_
    · exact ji_sub (lv' := [(0, .ref (ad_ z 11)), (3, .int c3), (4, .int c4)]) [0, 1, 2] rfl (hK _)
    · refine ji_aload_n (q := 110) am dm_nodesOf_109 rfl 0 rfl rfl ?_
      refine ji_aload_n (q := 111) am dm_nodesOf_110 rfl 0 rfl rfl ?_
      refine ji_get_M_here (q := 114) am dm_nodesOf_111 rfl ?_
      refine ji_iload (q := 116) am dm_nodesOf_114 2 rfl rfl ?_
      refine ji_ald_Mhere (q := 117) am dm_nodesOf_116 rfl ?_
      intro v116
      refine ji_aload_n (q := 118) am dm_nodesOf_117 rfl 0 rfl rfl ?_
      refine ji_get_M_levels (q := 121) am dm_nodesOf_118 rfl ?_
      refine ji_iload_n (q := 122) am dm_nodesOf_121 rfl 1 rfl rfl ?_
      refine ji_ald_Mlevels (q := 123) am dm_nodesOf_122 rfl ?_
      intro v122
      refine ji_iload (q := 125) am dm_nodesOf_123 3 rfl rfl ?_
      refine ji_iconst (q := 126) am dm_nodesOf_125 ki_1 rfl ?_
      refine ji_jn2 (fun j => ∀ (y0_134 : Int32), jj_J z 6 134 [(0, .ref (ad_ z 11)), (3, .int c3), (4, .int c4), (5, .int x5)] [.int y0_134, .int v122, .int v116, .ref (ad_ z 11)] (s, t, o) (q_IT z s o) (j y0_134)) ?_ ?_
      · intro y0_134
        refine jk_T (q := 137) (rest := []) (fun t2 hF => jr_V [.int v116, .int v122, .int y0_134] am ln_M_m_cutBy (ctm_cutBy _ _ hF) (by omega) (rc_M am) rfl rfl (Nat.le_of_ble_eq_true rfl) dm_nodesOf_134) rfl ?_
        intro t134
        refine ji_aload_n (q := 138) am dm_nodesOf_137 rfl 0 rfl rfl ?_
        refine ji_aload_n (q := 139) am dm_nodesOf_138 rfl 0 rfl rfl ?_
        refine ji_bipush (q := 141) am dm_nodesOf_139 kb_68 rfl ?_
        refine jk_IT (q := 144) (rest := [.ref (ad_ z 11)]) (fun r t2 hF => jr_V [.int (68 : Int32)] am ln_M_m_put (ctm_put _ _ hF) (by omega) (rc_M am) rfl rfl (Nat.le_of_ble_eq_true rfl) dm_nodesOf_141) rfl ?_
        intro r141 t141
        refine ji_iload_n (q := 145) am dm_nodesOf_144 rfl 1 rfl rfl ?_
        refine ji_iconst (q := 146) am dm_nodesOf_145 ki_1 rfl ?_
        refine ji_iadd (q := 147) am dm_nodesOf_146 rfl ?_
        refine jk_T (q := 150) (rest := []) (fun t2 hF => jr_V [.int r141, .int (c3 + (1 : Int32))] am ln_M_m_tell (ctm_tell _ _ hF) (by omega) (rc_M am) rfl rfl (Nat.le_of_ble_eq_true rfl) dm_nodesOf_147) rfl ?_
        intro t147
        refine ji_iinc (q := 153) (lv' := [(0, .ref (ad_ z 11)), (3, .int c3), (4, .int c4), (5, .int (x5 + 1))]) am dm_nodesOf_150 3 rfl ki_1 [1, 2, 3, 0] rfl rfl rfl ?_
        refine ji_goto (q := 103) am dm_nodesOf_153 rfl ?_
        exact ih _ _
      · intro j134 hj134
        refine ji_icmp_ne (q := 129) (g := 133) am dm_nodesOf_126 rfl rfl ?_ ?_
        · refine ji_iconst (q := 134) am dm_nodesOf_133 ki_0 rfl ?_
          exact hj134 _
        · refine ji_iconst (q := 130) am dm_nodesOf_129 ki_1 rfl ?_
          refine ji_goto (q := 134) am dm_nodesOf_130 rfl ?_
          exact hj134 _
set_option maxHeartbeats 4000000 in
set_option maxRecDepth 100000 in
theorem lm_nodesOf_91 {z : wt_Z} {s : wt_S} {o : Nat → Int64} {c3 : Int32} {K : wt_M → Option (Int32 × wt_M)} (am : wt_Am z R_M bm_nodesOf 6 2 (some .int)) (hK : ∀ (t3 : wt_M), jj_J z 6 162 [(0, .ref (ad_ z 11)), (3, .int c3)] [] (s, t3, o) (q_IT z s o) (K t3)) : ∀ (n : Nat) (x4 : Int32) (t : wt_M), jj_J z 6 91 [(0, .ref (ad_ z 11)), (3, .int c3), (4, .int x4)] [] (s, t, o) (q_IT z s o) (fm_nodesOf_L91 c3 K n x4 t) := by
  intro n
  induction n with
  | zero =>
    intro x4 t
    exact ji_none
  | succ n ih =>
    intro x4 t
    rw [fm_nodesOf_L91]
    refine ji_iload (q := 93) am dm_nodesOf_91 2 rfl rfl ?_
    refine ji_aload_n (q := 94) am dm_nodesOf_93 rfl 0 rfl rfl ?_
    refine ji_get_M_hereMany (q := 97) am dm_nodesOf_94 rfl ?_
    refine ji_icmp_ge (q := 100) (g := 162) am dm_nodesOf_97 rfl rfl ?_ ?_
    · exact ji_sub (lv' := [(0, .ref (ad_ z 11)), (3, .int c3)]) [0, 1] rfl (hK _)
    · refine ji_iconst (q := 101) am dm_nodesOf_100 ki_0 rfl ?_
      refine ji_istore (lv' := [(0, .ref (ad_ z 11)), (3, .int c3), (4, .int x4), (5, .int (0 : Int32))]) (q := 103) am dm_nodesOf_101 [1, 2, 3, 0] rfl rfl rfl ?_
      refine lm_nodesOf_103 am (fun t_103 => ?_) 5000 _ _
      refine ji_iinc (q := 159) (lv' := [(0, .ref (ad_ z 11)), (3, .int c3), (4, .int (x4 + 1))]) am dm_nodesOf_156 2 rfl ki_1 [1, 2, 0] rfl rfl rfl ?_
      refine ji_goto (q := 91) am dm_nodesOf_159 rfl ?_
      exact ih _ _
set_option maxHeartbeats 4000000 in
set_option maxRecDepth 100000 in
theorem lm_nodesOf_37 {z : wt_Z} {s : wt_S} {o : Nat → Int64} (am : wt_Am z R_M bm_nodesOf 6 2 (some .int)) : ∀ (n : Nat) (x3 : Int32) (t : wt_M), jj_J z 6 37 [(0, .ref (ad_ z 11)), (3, .int x3)] [] (s, t, o) (q_IT z s o) (fm_nodesOf_L37 n x3 t) := by
  intro n
  induction n with
  | zero =>
    intro x3 t
    exact ji_none
  | succ n ih =>
    intro x3 t
    rw [fm_nodesOf_L37]
    refine ji_iload_n (q := 38) am dm_nodesOf_37 rfl 1 rfl rfl ?_
    refine ji_bipush (q := 40) am dm_nodesOf_38 kb_8 rfl ?_
    refine ji_icmp_ge (q := 43) (g := 168) am dm_nodesOf_40 rfl rfl ?_ ?_
    · refine ji_aload_n (q := 169) am dm_nodesOf_168 rfl 0 rfl rfl ?_
      refine ji_get_M_many (q := 172) am dm_nodesOf_169 rfl ?_
      exact ji_iret am rfl dm_nodesOf_172 rfl rfl
    · refine ji_aload_n (q := 44) am dm_nodesOf_43 rfl 0 rfl rfl ?_
      refine ji_aload_n (q := 45) am dm_nodesOf_44 rfl 0 rfl rfl ?_
      refine ji_get_M_nextMany (q := 48) am dm_nodesOf_45 rfl ?_
      refine ji_put_M_hereMany (q := 51) am dm_nodesOf_48 rfl ?_
      intro t48
      refine ji_iconst (q := 52) am dm_nodesOf_51 ki_0 rfl ?_
      refine ji_istore (lv' := [(0, .ref (ad_ z 11)), (3, .int x3), (4, .int (0 : Int32))]) (q := 54) am dm_nodesOf_52 [1, 2, 0] rfl rfl rfl ?_
      refine lm_nodesOf_54 am (fun t_54 => ?_) 5000 _ _
      refine ji_aload_n (q := 84) am dm_nodesOf_83 rfl 0 rfl rfl ?_
      refine ji_iconst (q := 85) am dm_nodesOf_84 ki_0 rfl ?_
      refine ji_put_M_nextMany (q := 88) am dm_nodesOf_85 rfl ?_
      intro t85
      refine ji_iconst (q := 89) am dm_nodesOf_88 ki_0 rfl ?_
      refine ji_istore (lv' := [(0, .ref (ad_ z 11)), (3, .int x3), (4, .int (0 : Int32))]) (q := 91) am dm_nodesOf_89 [1, 2, 0] rfl rfl rfl ?_
      refine lm_nodesOf_91 am (fun t_91 => ?_) 5000 _ _
      refine ji_iinc (q := 165) (lv' := [(0, .ref (ad_ z 11)), (3, .int (x3 + 1))]) am dm_nodesOf_162 1 rfl ki_1 [1, 0] rfl rfl rfl ?_
      refine ji_goto (q := 37) am dm_nodesOf_165 rfl ?_
      exact ih _ _
set_option maxHeartbeats 4000000 in
set_option maxRecDepth 100000 in
theorem ctm_nodesOf {v : wt_V} {t : wt_M} {a1 : Int32} {a2 : Int32} {r : Int32} {t2 : wt_M} (s : wt_S) (o : Nat → Int64) (hF : fm_nodesOf t a1 a2 = some (r, t2)) : ct_C v ym_nodesOf (Cond.code ym_nodesOf bm_nodesOf 6 (some .int)) 2 [.ref (v.2.1 11), .int a1, .int a2] (some (.int r)) (s, t, o) (s, t2, o) := by
  refine ct_of (lv := [(0, .ref (v.2.1 11)), (1, .int a1), (2, .int a2)]) (fun r : Int32 × wt_M => some (.int r.1)) (fun r => (s, r.2, o)) (by decide) (Nat.le_of_ble_eq_true rfl) rfl ?_ (r, t2) hF
  intro z hz am
  subst hz
  have am : wt_Am z R_M bm_nodesOf 6 2 (some .int) := am
  show jj_J z 6 0 [(0, .ref (ad_ z 11)), (1, .int a1), (2, .int a2)] [] (s, t, o) (q_IT z s o) (fm_nodesOf t a1 a2)
  unfold fm_nodesOf
  refine ji_aload_n (q := 1) am dm_nodesOf_0 rfl 0 rfl rfl ?_
  refine ji_iconst (q := 2) am dm_nodesOf_1 ki_0 rfl ?_
  refine ji_put_M_many (q := 5) am dm_nodesOf_2 rfl ?_
  intro t2
  refine ji_aload_n (q := 6) am dm_nodesOf_5 rfl 0 rfl rfl ?_
  refine ji_iconst (q := 7) am dm_nodesOf_6 ki_0 rfl ?_
  refine ji_put_M_nextMany (q := 10) am dm_nodesOf_7 rfl ?_
  intro t7
  refine ji_iload_n (q := 11) am dm_nodesOf_10 rfl 1 rfl rfl ?_
  refine ji_istore_n (lv' := [(0, .ref (ad_ z 11)), (1, .int a1), (2, .int a2), (3, .int a1)]) (q := 12) am dm_nodesOf_11 rfl [1, 2, 3, 0] rfl rfl rfl ?_
  refine ji_sub (lv' := [(0, .ref (ad_ z 11)), (2, .int a2), (3, .int a1)]) [0, 2, 3] rfl (lm_nodesOf_12 am (fun t_12 => ?_) 5000 _ _)
  refine ji_iconst (q := 36) am dm_nodesOf_35 ki_0 rfl ?_
  refine ji_istore_n (lv' := [(0, .ref (ad_ z 11)), (3, .int (0 : Int32))]) (q := 37) am dm_nodesOf_36 rfl [1, 0] rfl rfl rfl ?_
  exact lm_nodesOf_37 am 5000 _ _

theorem dm_nodes_0 : decode bm_nodes 0 = .ok (.aload_n 0, 1) := by decide +kernel
theorem dm_nodes_1 : decode bm_nodes 1 = .ok (.iload_n 1, 1) := by decide +kernel
theorem dm_nodes_2 : decode bm_nodes 2 = .ok (.invokestatic 58, 3) := by decide +kernel
theorem dm_nodes_5 : decode bm_nodes 5 = .ok (.ifCond .eq 7, 3) := by decide +kernel
theorem dm_nodes_8 : decode bm_nodes 8 = .ok (.iconst 0, 1) := by decide +kernel
theorem dm_nodes_9 : decode bm_nodes 9 = .ok (.goto 4, 3) := by decide +kernel
theorem dm_nodes_12 : decode bm_nodes 12 = .ok (.iconst 1, 1) := by decide +kernel
theorem dm_nodes_13 : decode bm_nodes 13 = .ok (.putfield 50, 3) := by decide +kernel
theorem dm_nodes_16 : decode bm_nodes 16 = .ok (.aload_n 0, 1) := by decide +kernel
theorem dm_nodes_17 : decode bm_nodes 17 = .ok (.getfield 50, 3) := by decide +kernel
theorem dm_nodes_20 : decode bm_nodes 20 = .ok (.ifCond .le 7, 3) := by decide +kernel
theorem dm_nodes_23 : decode bm_nodes 23 = .ok (.iconst 0, 1) := by decide +kernel
theorem dm_nodes_24 : decode bm_nodes 24 = .ok (.goto 9, 3) := by decide +kernel
theorem dm_nodes_27 : decode bm_nodes 27 = .ok (.aload_n 0, 1) := by decide +kernel
theorem dm_nodes_28 : decode bm_nodes 28 = .ok (.iload_n 1, 1) := by decide +kernel
theorem dm_nodes_29 : decode bm_nodes 29 = .ok (.iload_n 1, 1) := by decide +kernel
theorem dm_nodes_30 : decode bm_nodes 30 = .ok (.invokevirtual 110, 3) := by decide +kernel
theorem dm_nodes_33 : decode bm_nodes 33 = .ok (.ireturn, 1) := by decide +kernel
set_option maxHeartbeats 4000000 in
set_option maxRecDepth 100000 in
theorem ctm_nodes {v : wt_V} {t : wt_M} {a1 : Int32} {r : Int32} {t2 : wt_M} (s : wt_S) (o : Nat → Int64) (hF : fm_nodes t a1 = some (r, t2)) : ct_C v ym_nodes (Cond.code ym_nodes bm_nodes 2 (some .int)) 3 [.ref (v.2.1 11), .int a1] (some (.int r)) (s, t, o) (s, t2, o) := by
  refine ct_of (lv := [(0, .ref (v.2.1 11)), (1, .int a1)]) (fun r : Int32 × wt_M => some (.int r.1)) (fun r => (s, r.2, o)) (by decide) (Nat.le_of_ble_eq_true rfl) rfl ?_ (r, t2) hF
  intro z hz am
  subst hz
  have am : wt_Am z R_M bm_nodes 2 3 (some .int) := am
  show jj_J z 2 0 [(0, .ref (ad_ z 11)), (1, .int a1)] [] (s, t, o) (q_IT z s o) (fm_nodes t a1)
  unfold fm_nodes
  refine ji_aload_n (q := 1) am dm_nodes_0 rfl 0 rfl rfl ?_
  refine ji_iload_n (q := 2) am dm_nodes_1 rfl 1 rfl rfl ?_
  refine jk_I (q := 5) (rest := [.ref (ad_ z 11)]) (fun r hF => jr_S [.int a1] am ln_M_m_isRegister (ctm_isRegister _ _ _ hF) (by omega) rfl rfl (Nat.le_of_ble_eq_true rfl) dm_nodes_2) rfl ?_
  intro r2
  refine ji_jn2 (fun j => ∀ (y0_13 : Int32), jj_J z 2 13 [(0, .ref (ad_ z 11)), (1, .int a1)] [.int y0_13, .ref (ad_ z 11)] (s, t, o) (q_IT z s o) (j y0_13)) ?_ ?_
  · intro y0_13
    refine ji_put_M_code (q := 16) am dm_nodes_13 rfl ?_
    intro t13
    refine ji_aload_n (q := 17) am dm_nodes_16 rfl 0 rfl rfl ?_
    refine ji_get_M_code (q := 20) am dm_nodes_17 rfl ?_
    refine ji_jn2 (fun j => ∀ (y0_33 : Int32) (t_33 : wt_M), jj_J z 2 33 [] [.int y0_33] (s, t_33, o) (q_IT z s o) (j y0_33 t_33)) ?_ ?_
    · intro y0_33 t_33
      exact ji_iret am rfl dm_nodes_33 rfl rfl
    · intro j33 hj33
      refine ji_if_le (q := 23) (g := 27) am dm_nodes_20 rfl rfl ?_ ?_
      · refine ji_aload_n (q := 28) am dm_nodes_27 rfl 0 rfl rfl ?_
        refine ji_iload_n (q := 29) am dm_nodes_28 rfl 1 rfl rfl ?_
        refine ji_iload_n (q := 30) am dm_nodes_29 rfl 1 rfl rfl ?_
        refine jk_IT (q := 33) (rest := []) (fun r t2 hF => jr_V [.int a1, .int a1] am ln_M_m_nodesOf (ctm_nodesOf _ _ hF) (by omega) (rc_M am) rfl rfl (Nat.le_of_ble_eq_true rfl) dm_nodes_30) rfl ?_
        intro r30 t30
        exact ji_sub (lv' := []) [] rfl (hj33 _ _)
      · refine ji_iconst (q := 24) am dm_nodes_23 ki_0 rfl ?_
        refine ji_goto (q := 33) am dm_nodes_24 rfl ?_
        exact ji_sub (lv' := []) [] rfl (hj33 _ _)
  · intro j13 hj13
    refine ji_if_eq (q := 8) (g := 12) am dm_nodes_5 rfl rfl ?_ ?_
    · refine ji_iconst (q := 13) am dm_nodes_12 ki_1 rfl ?_
      exact hj13 _
    · refine ji_iconst (q := 9) am dm_nodes_8 ki_0 rfl ?_
      refine ji_goto (q := 13) am dm_nodes_9 rfl ?_
      exact hj13 _

theorem dm_heap_0 : decode bm_heap 0 = .ok (.aload_n 0, 1) := by decide +kernel
theorem dm_heap_1 : decode bm_heap 1 = .ok (.iconst 0, 1) := by decide +kernel
theorem dm_heap_2 : decode bm_heap 2 = .ok (.putfield 50, 3) := by decide +kernel
theorem dm_heap_5 : decode bm_heap 5 = .ok (.aload_n 0, 1) := by decide +kernel
theorem dm_heap_6 : decode bm_heap 6 = .ok (.iconst 0, 1) := by decide +kernel
theorem dm_heap_7 : decode bm_heap 7 = .ok (.bipush 15, 2) := by decide +kernel
theorem dm_heap_9 : decode bm_heap 9 = .ok (.invokevirtual 110, 3) := by decide +kernel
theorem dm_heap_12 : decode bm_heap 12 = .ok (.ireturn, 1) := by decide +kernel
set_option maxHeartbeats 4000000 in
set_option maxRecDepth 100000 in
theorem ctm_heap {v : wt_V} {t : wt_M} {r : Int32} {t2 : wt_M} (s : wt_S) (o : Nat → Int64) (hF : fm_heap t = some (r, t2)) : ct_C v ym_heap (Cond.code ym_heap bm_heap 1 (some .int)) 3 [.ref (v.2.1 11)] (some (.int r)) (s, t, o) (s, t2, o) := by
  refine ct_of (lv := [(0, .ref (v.2.1 11))]) (fun r : Int32 × wt_M => some (.int r.1)) (fun r => (s, r.2, o)) (by decide) (Nat.le_of_ble_eq_true rfl) rfl ?_ (r, t2) hF
  intro z hz am
  subst hz
  have am : wt_Am z R_M bm_heap 1 3 (some .int) := am
  show jj_J z 1 0 [(0, .ref (ad_ z 11))] [] (s, t, o) (q_IT z s o) (fm_heap t)
  unfold fm_heap
  refine ji_aload_n (q := 1) am dm_heap_0 rfl 0 rfl rfl ?_
  refine ji_iconst (q := 2) am dm_heap_1 ki_0 rfl ?_
  refine ji_put_M_code (q := 5) am dm_heap_2 rfl ?_
  intro t2
  refine ji_aload_n (q := 6) am dm_heap_5 rfl 0 rfl rfl ?_
  refine ji_iconst (q := 7) am dm_heap_6 ki_0 rfl ?_
  refine ji_bipush (q := 9) am dm_heap_7 kb_15 rfl ?_
  refine jk_IT (q := 12) (rest := []) (fun r t2 hF => jr_V [.int (0 : Int32), .int (15 : Int32)] am ln_M_m_nodesOf (ctm_nodesOf _ _ hF) (by omega) (rc_M am) rfl rfl (Nat.le_of_ble_eq_true rfl) dm_heap_9) rfl ?_
  intro r9 t9
  exact ji_iret am rfl dm_heap_12 rfl rfl

theorem dm_order_0 : decode bm_order 0 = .ok (.aload_n 0, 1) := by decide +kernel
theorem dm_order_1 : decode bm_order 1 = .ok (.iload_n 1, 1) := by decide +kernel
theorem dm_order_2 : decode bm_order 2 = .ok (.iconst 0, 1) := by decide +kernel
theorem dm_order_3 : decode bm_order 3 = .ok (.bipush 7, 2) := by decide +kernel
theorem dm_order_5 : decode bm_order 5 = .ok (.invokestatic 54, 3) := by decide +kernel
theorem dm_order_8 : decode bm_order 8 = .ok (.ifCond .eq 7, 3) := by decide +kernel
theorem dm_order_11 : decode bm_order 11 = .ok (.iconst 0, 1) := by decide +kernel
theorem dm_order_12 : decode bm_order 12 = .ok (.goto 4, 3) := by decide +kernel
theorem dm_order_15 : decode bm_order 15 = .ok (.iconst 1, 1) := by decide +kernel
theorem dm_order_16 : decode bm_order 16 = .ok (.putfield 50, 3) := by decide +kernel
theorem dm_order_19 : decode bm_order 19 = .ok (.aload_n 0, 1) := by decide +kernel
theorem dm_order_20 : decode bm_order 20 = .ok (.getfield 50, 3) := by decide +kernel
theorem dm_order_23 : decode bm_order 23 = .ok (.ifCond .le 7, 3) := by decide +kernel
theorem dm_order_26 : decode bm_order 26 = .ok (.iconst 0, 1) := by decide +kernel
theorem dm_order_27 : decode bm_order 27 = .ok (.goto 9, 3) := by decide +kernel
theorem dm_order_30 : decode bm_order 30 = .ok (.aload_n 0, 1) := by decide +kernel
theorem dm_order_31 : decode bm_order 31 = .ok (.getfield 13, 3) := by decide +kernel
theorem dm_order_34 : decode bm_order 34 = .ok (.iload_n 1, 1) := by decide +kernel
theorem dm_order_35 : decode bm_order 35 = .ok (.iaload, 1) := by decide +kernel
theorem dm_order_36 : decode bm_order 36 = .ok (.ireturn, 1) := by decide +kernel
set_option maxHeartbeats 4000000 in
set_option maxRecDepth 100000 in
theorem ctm_order {v : wt_V} {t : wt_M} {a1 : Int32} {r : Int32} {t2 : wt_M} (s : wt_S) (o : Nat → Int64) (hF : fm_order t a1 = some (r, t2)) : ct_C v ym_order (Cond.code ym_order bm_order 2 (some .int)) 2 [.ref (v.2.1 11), .int a1] (some (.int r)) (s, t, o) (s, t2, o) := by
  refine ct_of (lv := [(0, .ref (v.2.1 11)), (1, .int a1)]) (fun r : Int32 × wt_M => some (.int r.1)) (fun r => (s, r.2, o)) (by decide) (Nat.le_of_ble_eq_true rfl) rfl ?_ (r, t2) hF
  intro z hz am
  subst hz
  have am : wt_Am z R_M bm_order 2 2 (some .int) := am
  show jj_J z 2 0 [(0, .ref (ad_ z 11)), (1, .int a1)] [] (s, t, o) (q_IT z s o) (fm_order t a1)
  unfold fm_order
  refine ji_aload_n (q := 1) am dm_order_0 rfl 0 rfl rfl ?_
  refine ji_iload_n (q := 2) am dm_order_1 rfl 1 rfl rfl ?_
  refine ji_iconst (q := 3) am dm_order_2 ki_0 rfl ?_
  refine ji_bipush (q := 5) am dm_order_3 kb_7 rfl ?_
  refine jk_I (q := 8) (rest := [.ref (ad_ z 11)]) (fun r hF => jr_S [.int a1, .int (0 : Int32), .int (7 : Int32)] am ln_M_m_in (ctm_in _ _ _ hF) (by omega) rfl rfl (Nat.le_of_ble_eq_true rfl) dm_order_5) rfl ?_
  intro r5
  refine ji_jn2 (fun j => ∀ (y0_16 : Int32), jj_J z 2 16 [(0, .ref (ad_ z 11)), (1, .int a1)] [.int y0_16, .ref (ad_ z 11)] (s, t, o) (q_IT z s o) (j y0_16)) ?_ ?_
  · intro y0_16
    refine ji_put_M_code (q := 19) am dm_order_16 rfl ?_
    intro t16
    refine ji_aload_n (q := 20) am dm_order_19 rfl 0 rfl rfl ?_
    refine ji_get_M_code (q := 23) am dm_order_20 rfl ?_
    refine ji_jn2 (fun j => ∀ (y0_36 : Int32), jj_J z 2 36 [] [.int y0_36] (s, t16, o) (q_IT z s o) (j y0_36)) ?_ ?_
    · intro y0_36
      exact ji_iret am rfl dm_order_36 rfl rfl
    · intro j36 hj36
      refine ji_if_le (q := 26) (g := 30) am dm_order_23 rfl rfl ?_ ?_
      · refine ji_aload_n (q := 31) am dm_order_30 rfl 0 rfl rfl ?_
        refine ji_get_M_levels (q := 34) am dm_order_31 rfl ?_
        refine ji_iload_n (q := 35) am dm_order_34 rfl 1 rfl rfl ?_
        refine ji_ald_Mlevels (q := 36) am dm_order_35 rfl ?_
        intro v35
        exact ji_sub (lv' := []) [] rfl (hj36 _)
      · refine ji_iconst (q := 27) am dm_order_26 ki_0 rfl ?_
        refine ji_goto (q := 36) am dm_order_27 rfl ?_
        exact ji_sub (lv' := []) [] rfl (hj36 _)
  · intro j16 hj16
    refine ji_if_eq (q := 11) (g := 15) am dm_order_8 rfl rfl ?_ ?_
    · refine ji_iconst (q := 16) am dm_order_15 ki_1 rfl ?_
      exact hj16 _
    · refine ji_iconst (q := 12) am dm_order_11 ki_0 rfl ?_
      refine ji_goto (q := 16) am dm_order_12 rfl ?_
      exact hj16 _
