/-! Walks of M.product, M.compose, M.turn, M.truth, M.same, M.count, M.least, M.dependsOn, M.depends: printed by my program out of the listing. -/
theorem dm_product_0 : decode bm_product 0 = .ok (.aload_n 0, 1) := by decide +kernel
theorem dm_product_1 : decode bm_product 1 = .ok (.iload_n 1, 1) := by decide +kernel
theorem dm_product_2 : decode bm_product 2 = .ok (.invokestatic 58, 3) := by decide +kernel
theorem dm_product_5 : decode bm_product 5 = .ok (.ifCond .eq 17, 3) := by decide +kernel
theorem dm_product_8 : decode bm_product 8 = .ok (.iload_n 2, 1) := by decide +kernel
theorem dm_product_9 : decode bm_product 9 = .ok (.invokestatic 58, 3) := by decide +kernel
theorem dm_product_12 : decode bm_product 12 = .ok (.ifCond .eq 10, 3) := by decide +kernel
theorem dm_product_15 : decode bm_product 15 = .ok (.iload_n 3, 1) := by decide +kernel
theorem dm_product_16 : decode bm_product 16 = .ok (.invokestatic 58, 3) := by decide +kernel
theorem dm_product_19 : decode bm_product 19 = .ok (.ifCond .ne 7, 3) := by decide +kernel
theorem dm_product_22 : decode bm_product 22 = .ok (.iconst 1, 1) := by decide +kernel
theorem dm_product_23 : decode bm_product 23 = .ok (.goto 20, 3) := by decide +kernel
theorem dm_product_26 : decode bm_product 26 = .ok (.iload 4, 2) := by decide +kernel
theorem dm_product_28 : decode bm_product 28 = .ok (.iconst 0, 1) := by decide +kernel
theorem dm_product_29 : decode bm_product 29 = .ok (.sipush 255, 3) := by decide +kernel
theorem dm_product_32 : decode bm_product 32 = .ok (.invokestatic 54, 3) := by decide +kernel
theorem dm_product_35 : decode bm_product 35 = .ok (.ifCond .eq 7, 3) := by decide +kernel
theorem dm_product_38 : decode bm_product 38 = .ok (.iconst 0, 1) := by decide +kernel
theorem dm_product_39 : decode bm_product 39 = .ok (.goto 4, 3) := by decide +kernel
theorem dm_product_42 : decode bm_product 42 = .ok (.iconst 2, 1) := by decide +kernel
theorem dm_product_43 : decode bm_product 43 = .ok (.putfield 50, 3) := by decide +kernel
theorem dm_product_46 : decode bm_product 46 = .ok (.aload_n 0, 1) := by decide +kernel
theorem dm_product_47 : decode bm_product 47 = .ok (.getfield 50, 3) := by decide +kernel
theorem dm_product_50 : decode bm_product 50 = .ok (.ifCond .ne 114, 3) := by decide +kernel
theorem dm_product_53 : decode bm_product 53 = .ok (.aload_n 0, 1) := by decide +kernel
theorem dm_product_54 : decode bm_product 54 = .ok (.invokevirtual 65, 3) := by decide +kernel
theorem dm_product_57 : decode bm_product 57 = .ok (.iconst 0, 1) := by decide +kernel
theorem dm_product_58 : decode bm_product 58 = .ok (.istore 5, 2) := by decide +kernel
theorem dm_product_60 : decode bm_product 60 = .ok (.iload 5, 2) := by decide +kernel
theorem dm_product_62 : decode bm_product 62 = .ok (.sipush 256, 3) := by decide +kernel
theorem dm_product_65 : decode bm_product 65 = .ok (.if_icmp .ge 94, 3) := by decide +kernel
theorem dm_product_68 : decode bm_product 68 = .ok (.iconst 0, 1) := by decide +kernel
theorem dm_product_69 : decode bm_product 69 = .ok (.istore 6, 2) := by decide +kernel
theorem dm_product_71 : decode bm_product 71 = .ok (.iload 4, 2) := by decide +kernel
theorem dm_product_73 : decode bm_product 73 = .ok (.istore 7, 2) := by decide +kernel
theorem dm_product_75 : decode bm_product 75 = .ok (.iload 7, 2) := by decide +kernel
theorem dm_product_77 : decode bm_product 77 = .ok (.ifCond .lt 68, 3) := by decide +kernel
theorem dm_product_80 : decode bm_product 80 = .ok (.iload 5, 2) := by decide +kernel
theorem dm_product_82 : decode bm_product 82 = .ok (.iload 4, 2) := by decide +kernel
theorem dm_product_84 : decode bm_product 84 = .ok (.iconst (-1), 1) := by decide +kernel
theorem dm_product_85 : decode bm_product 85 = .ok (.ixor, 1) := by decide +kernel
theorem dm_product_86 : decode bm_product 86 = .ok (.iand, 1) := by decide +kernel
theorem dm_product_87 : decode bm_product 87 = .ok (.iload 7, 2) := by decide +kernel
theorem dm_product_89 : decode bm_product 89 = .ok (.ior, 1) := by decide +kernel
theorem dm_product_90 : decode bm_product 90 = .ok (.istore 8, 2) := by decide +kernel
theorem dm_product_92 : decode bm_product 92 = .ok (.iload 6, 2) := by decide +kernel
theorem dm_product_94 : decode bm_product 94 = .ok (.ifCond .ne 23, 3) := by decide +kernel
theorem dm_product_97 : decode bm_product 97 = .ok (.aload_n 0, 1) := by decide +kernel
theorem dm_product_98 : decode bm_product 98 = .ok (.iload_n 2, 1) := by decide +kernel
theorem dm_product_99 : decode bm_product 99 = .ok (.iload 8, 2) := by decide +kernel
theorem dm_product_101 : decode bm_product 101 = .ok (.invokevirtual 76, 3) := by decide +kernel
theorem dm_product_104 : decode bm_product 104 = .ok (.ifCond .eq 17, 3) := by decide +kernel
theorem dm_product_107 : decode bm_product 107 = .ok (.aload_n 0, 1) := by decide +kernel
theorem dm_product_108 : decode bm_product 108 = .ok (.iload_n 3, 1) := by decide +kernel
theorem dm_product_109 : decode bm_product 109 = .ok (.iload 8, 2) := by decide +kernel
theorem dm_product_111 : decode bm_product 111 = .ok (.invokevirtual 76, 3) := by decide +kernel
theorem dm_product_114 : decode bm_product 114 = .ok (.ifCond .eq 7, 3) := by decide +kernel
theorem dm_product_117 : decode bm_product 117 = .ok (.iconst 1, 1) := by decide +kernel
theorem dm_product_118 : decode bm_product 118 = .ok (.goto 4, 3) := by decide +kernel
theorem dm_product_121 : decode bm_product 121 = .ok (.iconst 0, 1) := by decide +kernel
theorem dm_product_122 : decode bm_product 122 = .ok (.istore 6, 2) := by decide +kernel
theorem dm_product_124 : decode bm_product 124 = .ok (.iload 7, 2) := by decide +kernel
theorem dm_product_126 : decode bm_product 126 = .ok (.ifCond .ne 7, 3) := by decide +kernel
theorem dm_product_129 : decode bm_product 129 = .ok (.iconst (-1), 1) := by decide +kernel
theorem dm_product_130 : decode bm_product 130 = .ok (.goto 10, 3) := by decide +kernel
theorem dm_product_133 : decode bm_product 133 = .ok (.iload 7, 2) := by decide +kernel
theorem dm_product_135 : decode bm_product 135 = .ok (.iconst 1, 1) := by decide +kernel
theorem dm_product_136 : decode bm_product 136 = .ok (.isub, 1) := by decide +kernel
theorem dm_product_137 : decode bm_product 137 = .ok (.iload 4, 2) := by decide +kernel
theorem dm_product_139 : decode bm_product 139 = .ok (.iand, 1) := by decide +kernel
theorem dm_product_140 : decode bm_product 140 = .ok (.istore 7, 2) := by decide +kernel
theorem dm_product_142 : decode bm_product 142 = .ok (.goto (-67), 3) := by decide +kernel
theorem dm_product_145 : decode bm_product 145 = .ok (.aload_n 0, 1) := by decide +kernel
theorem dm_product_146 : decode bm_product 146 = .ok (.iload 5, 2) := by decide +kernel
theorem dm_product_148 : decode bm_product 148 = .ok (.iload 6, 2) := by decide +kernel
theorem dm_product_150 : decode bm_product 150 = .ok (.invokevirtual 68, 3) := by decide +kernel
theorem dm_product_153 : decode bm_product 153 = .ok (.iinc 5 1, 3) := by decide +kernel
theorem dm_product_156 : decode bm_product 156 = .ok (.goto (-96), 3) := by decide +kernel
theorem dm_product_159 : decode bm_product 159 = .ok (.aload_n 0, 1) := by decide +kernel
theorem dm_product_160 : decode bm_product 160 = .ok (.iload_n 1, 1) := by decide +kernel
theorem dm_product_161 : decode bm_product 161 = .ok (.invokevirtual 72, 3) := by decide +kernel
theorem dm_product_164 : decode bm_product 164 = .ok (.return_, 1) := by decide +kernel
set_option maxHeartbeats 4000000 in
set_option maxRecDepth 100000 in
theorem lm_product_75 {z : wt_Z} {s : wt_S} {t : wt_M} {o : Nat → Int64} {c1 : Int32} {c2 : Int32} {c3 : Int32} {c4 : Int32} {c5 : Int32} {K : Int32 → Option (wt_M)} (am : wt_Am z R_M bm_product 9 3 none) (hK : ∀ (e6 : Int32), jj_J z 9 145 [(0, .ref (ad_ z 11)), (1, .int c1), (2, .int c2), (3, .int c3), (4, .int c4), (5, .int c5), (6, .int e6)] [] (s, t, o) (q_T z s o) (K e6)) : ∀ (n : Nat) (x6 : Int32) (x7 : Int32), jj_J z 9 75 [(0, .ref (ad_ z 11)), (1, .int c1), (2, .int c2), (3, .int c3), (4, .int c4), (5, .int c5), (6, .int x6), (7, .int x7)] [] (s, t, o) (q_T z s o) (fm_product_L75 t c1 c2 c3 c4 c5 K n x6 x7) := by
  intro n
  induction n with
  | zero =>
    intro x6 x7
    exact ji_none
  | succ n ih =>
    intro x6 x7
    rw [fm_product_L75]
    refine ji_iload (q := 77) am dm_product_75 7 rfl rfl ?_
    refine ji_if_lt (q := 80) (g := 145) am dm_product_77 rfl rfl ?_ ?_
    · exact ji_sub (lv' := [(0, .ref (ad_ z 11)), (1, .int c1), (2, .int c2), (3, .int c3), (4, .int c4), (5, .int c5), (6, .int x6)]) [0, 1, 2, 3, 4, 5, 6] rfl (hK _)
    · refine ji_iload (q := 82) am dm_product_80 5 rfl rfl ?_
      refine ji_iload (q := 84) am dm_product_82 4 rfl rfl ?_
      refine ji_iconst (q := 85) am dm_product_84 ki_m1 rfl ?_
      refine ji_ixor (q := 86) am dm_product_85 rfl ?_
      refine ji_iand (q := 87) am dm_product_86 rfl ?_
      refine ji_iload (q := 89) am dm_product_87 7 rfl rfl ?_
      refine ji_ior (q := 90) am dm_product_89 rfl ?_
      refine ji_istore (lv' := [(0, .ref (ad_ z 11)), (1, .int c1), (2, .int c2), (3, .int c3), (4, .int c4), (5, .int c5), (6, .int x6), (7, .int x7), (8, .int ((c5 &&& (c4 ^^^ (-1 : Int32))) ||| x7))]) (q := 92) am dm_product_90 [1, 2, 3, 4, 5, 6, 7, 8, 0] rfl rfl rfl ?_
      refine ji_iload (q := 94) am dm_product_92 6 rfl rfl ?_
      refine ji_jn2 (fun j => ∀ (y0_122 : Int32), jj_J z 9 122 [(0, .ref (ad_ z 11)), (1, .int c1), (2, .int c2), (3, .int c3), (4, .int c4), (5, .int c5), (7, .int x7)] [.int y0_122] (s, t, o) (q_T z s o) (j y0_122)) ?_ ?_
      · intro y0_122
        refine ji_istore (lv' := [(0, .ref (ad_ z 11)), (1, .int c1), (2, .int c2), (3, .int c3), (4, .int c4), (5, .int c5), (6, .int y0_122), (7, .int x7)]) (q := 124) am dm_product_122 [1, 2, 3, 4, 5, 6, 0, 7] rfl rfl rfl ?_
        refine ji_iload (q := 126) am dm_product_124 7 rfl rfl ?_
        refine ji_jn2 (fun j => ∀ (y0_140 : Int32), jj_J z 9 140 [(0, .ref (ad_ z 11)), (1, .int c1), (2, .int c2), (3, .int c3), (4, .int c4), (5, .int c5), (6, .int y0_122)] [.int y0_140] (s, t, o) (q_T z s o) (j y0_140)) ?_ ?_
        · intro y0_140
          refine ji_istore (lv' := [(0, .ref (ad_ z 11)), (1, .int c1), (2, .int c2), (3, .int c3), (4, .int c4), (5, .int c5), (6, .int y0_122), (7, .int y0_140)]) (q := 142) am dm_product_140 [1, 2, 3, 4, 5, 6, 7, 0] rfl rfl rfl ?_
          refine ji_goto (q := 75) am dm_product_142 rfl ?_
          exact ih _ _
        · intro j140 hj140
          refine ji_if_ne (q := 129) (g := 133) am dm_product_126 rfl rfl ?_ ?_
          · refine ji_iload (q := 135) am dm_product_133 7 rfl rfl ?_
            refine ji_iconst (q := 136) am dm_product_135 ki_1 rfl ?_
            refine ji_isub (q := 137) am dm_product_136 rfl ?_
            refine ji_iload (q := 139) am dm_product_137 4 rfl rfl ?_
            refine ji_iand (q := 140) am dm_product_139 rfl ?_
            exact ji_sub (lv' := [(0, .ref (ad_ z 11)), (1, .int c1), (2, .int c2), (3, .int c3), (4, .int c4), (5, .int c5), (6, .int y0_122)]) [0, 1, 2, 3, 4, 5, 6] rfl (hj140 _)
          · refine ji_iconst (q := 130) am dm_product_129 ki_m1 rfl ?_
            refine ji_goto (q := 140) am dm_product_130 rfl ?_
            exact ji_sub (lv' := [(0, .ref (ad_ z 11)), (1, .int c1), (2, .int c2), (3, .int c3), (4, .int c4), (5, .int c5), (6, .int y0_122)]) [0, 1, 2, 3, 4, 5, 6] rfl (hj140 _)
      · intro j122 hj122
        refine ji_jn2 (fun j => ∀ (u117 : Unit), jj_J z 9 117 [(0, .ref (ad_ z 11)), (1, .int c1), (2, .int c2), (3, .int c3), (4, .int c4), (5, .int c5), (7, .int x7)] [] (s, t, o) (q_T z s o) (j u117)) ?_ ?_
        · intro u117
          refine ji_iconst (q := 118) am dm_product_117 ki_1 rfl ?_
          refine ji_goto (q := 122) am dm_product_118 rfl ?_
          exact hj122 _
        · intro j117 hj117
          refine ji_if_ne (q := 97) (g := 117) am dm_product_94 rfl rfl ?_ ?_
          · exact ji_sub (lv' := [(0, .ref (ad_ z 11)), (1, .int c1), (2, .int c2), (3, .int c3), (4, .int c4), (5, .int c5), (7, .int x7)]) [0, 1, 2, 3, 4, 5, 7] rfl (hj117 _)
          · refine ji_aload_n (q := 98) am dm_product_97 rfl 0 rfl rfl ?_
            refine ji_iload_n (q := 99) am dm_product_98 rfl 2 rfl rfl ?_
            refine ji_iload (q := 101) am dm_product_99 8 rfl rfl ?_
            refine jk_I (q := 104) (rest := []) (fun r hF => jr_V [.int c2, .int ((c5 &&& (c4 ^^^ (-1 : Int32))) ||| x7)] am ln_M_m_value (ctm_value _ _ hF) (by omega) (rc_M am) rfl rfl (Nat.le_of_ble_eq_true rfl) dm_product_101) rfl ?_
            intro r101
            refine ji_jn2 (fun j => ∀ (u121 : Unit), jj_J z 9 121 [(0, .ref (ad_ z 11)), (1, .int c1), (2, .int c2), (3, .int c3), (4, .int c4), (5, .int c5), (7, .int x7)] [] (s, t, o) (q_T z s o) (j u121)) ?_ ?_
            · intro u121
              refine ji_iconst (q := 122) am dm_product_121 ki_0 rfl ?_
              exact hj122 _
            · intro j121 hj121
              refine ji_if_eq (q := 107) (g := 121) am dm_product_104 rfl rfl ?_ ?_
              · exact ji_sub (lv' := [(0, .ref (ad_ z 11)), (1, .int c1), (2, .int c2), (3, .int c3), (4, .int c4), (5, .int c5), (7, .int x7)]) [0, 1, 2, 3, 4, 5, 7] rfl (hj121 _)
              · refine ji_aload_n (q := 108) am dm_product_107 rfl 0 rfl rfl ?_
                refine ji_iload_n (q := 109) am dm_product_108 rfl 3 rfl rfl ?_
                refine ji_iload (q := 111) am dm_product_109 8 rfl rfl ?_
                refine jk_I (q := 114) (rest := []) (fun r hF => jr_V [.int c3, .int ((c5 &&& (c4 ^^^ (-1 : Int32))) ||| x7)] am ln_M_m_value (ctm_value _ _ hF) (by omega) (rc_M am) rfl rfl (Nat.le_of_ble_eq_true rfl) dm_product_111) rfl ?_
                intro r111
                refine ji_if_eq (q := 117) (g := 121) am dm_product_114 rfl rfl ?_ ?_
                · exact ji_sub (lv' := [(0, .ref (ad_ z 11)), (1, .int c1), (2, .int c2), (3, .int c3), (4, .int c4), (5, .int c5), (7, .int x7)]) [0, 1, 2, 3, 4, 5, 7] rfl (hj121 _)
                · exact ji_sub (lv' := [(0, .ref (ad_ z 11)), (1, .int c1), (2, .int c2), (3, .int c3), (4, .int c4), (5, .int c5), (7, .int x7)]) [0, 1, 2, 3, 4, 5, 7] rfl (hj117 _)
set_option maxHeartbeats 4000000 in
set_option maxRecDepth 100000 in
theorem lm_product_60 {z : wt_Z} {s : wt_S} {o : Nat → Int64} {c1 : Int32} {c2 : Int32} {c3 : Int32} {c4 : Int32} {K : wt_M → Option (wt_M)} (am : wt_Am z R_M bm_product 9 3 none) (hK : ∀ (t3 : wt_M), jj_J z 9 159 [(0, .ref (ad_ z 11)), (1, .int c1)] [] (s, t3, o) (q_T z s o) (K t3)) : ∀ (n : Nat) (x5 : Int32) (t : wt_M), jj_J z 9 60 [(0, .ref (ad_ z 11)), (1, .int c1), (2, .int c2), (3, .int c3), (4, .int c4), (5, .int x5)] [] (s, t, o) (q_T z s o) (fm_product_L60 c1 c2 c3 c4 K n x5 t) := by
  intro n
  induction n with
  | zero =>
    intro x5 t
    exact ji_none
  | succ n ih =>
    intro x5 t
    rw [fm_product_L60]
    refine ji_iload (q := 62) am dm_product_60 5 rfl rfl ?_
    refine ji_sipush (q := 65) am dm_product_62 ks_256 rfl ?_
    refine ji_icmp_ge (q := 68) (g := 159) am dm_product_65 rfl rfl ?_ ?_
    · exact ji_sub (lv' := [(0, .ref (ad_ z 11)), (1, .int c1)]) [0, 1] rfl (hK _)
    · refine ji_iconst (q := 69) am dm_product_68 ki_0 rfl ?_
      refine ji_istore (lv' := [(0, .ref (ad_ z 11)), (1, .int c1), (2, .int c2), (3, .int c3), (4, .int c4), (5, .int x5), (6, .int (0 : Int32))]) (q := 71) am dm_product_69 [1, 2, 3, 4, 5, 6, 0] rfl rfl rfl ?_
      refine ji_iload (q := 73) am dm_product_71 4 rfl rfl ?_
      refine ji_istore (lv' := [(0, .ref (ad_ z 11)), (1, .int c1), (2, .int c2), (3, .int c3), (4, .int c4), (5, .int x5), (6, .int (0 : Int32)), (7, .int c4)]) (q := 75) am dm_product_73 [1, 2, 3, 4, 5, 6, 7, 0] rfl rfl rfl ?_
      refine lm_product_75 am (fun z6_75 => ?_) 5000 _ _
      refine ji_aload_n (q := 146) am dm_product_145 rfl 0 rfl rfl ?_
      refine ji_iload (q := 148) am dm_product_146 5 rfl rfl ?_
      refine ji_iload (q := 150) am dm_product_148 6 rfl rfl ?_
      refine jk_T (q := 153) (rest := []) (fun t2 hF => jr_V [.int x5, .int z6_75] am ln_M_m_set (ctm_set _ _ hF) (by omega) (rc_M am) rfl rfl (Nat.le_of_ble_eq_true rfl) dm_product_150) rfl ?_
      intro t150
      refine ji_iinc (q := 156) (lv' := [(0, .ref (ad_ z 11)), (1, .int c1), (2, .int c2), (3, .int c3), (4, .int c4), (5, .int (x5 + 1)), (6, .int z6_75)]) am dm_product_153 5 rfl ki_1 [1, 2, 3, 4, 5, 0, 6] rfl rfl rfl ?_
      refine ji_goto (q := 60) am dm_product_156 rfl ?_
      exact ji_sub (lv' := [(0, .ref (ad_ z 11)), (1, .int c1), (2, .int c2), (3, .int c3), (4, .int c4), (5, .int (x5 + 1))]) [0, 1, 2, 3, 4, 5] rfl (ih _ _)
set_option maxHeartbeats 4000000 in
set_option maxRecDepth 100000 in
theorem ctm_product {v : wt_V} {t : wt_M} {a1 : Int32} {a2 : Int32} {a3 : Int32} {a4 : Int32} {t2 : wt_M} (s : wt_S) (o : Nat → Int64) (hF : fm_product t a1 a2 a3 a4 = some t2) : ct_C v ym_product (Cond.code ym_product bm_product 9 none) 3 [.ref (v.2.1 11), .int a1, .int a2, .int a3, .int a4] none (s, t, o) (s, t2, o) := by
  refine ct_of (lv := [(0, .ref (v.2.1 11)), (1, .int a1), (2, .int a2), (3, .int a3), (4, .int a4)]) (fun _ : wt_M => none) (fun r => (s, r, o)) (by decide) (Nat.le_of_ble_eq_true rfl) rfl ?_ t2 hF
  intro z hz am
  subst hz
  have am : wt_Am z R_M bm_product 9 3 none := am
  show jj_J z 9 0 [(0, .ref (ad_ z 11)), (1, .int a1), (2, .int a2), (3, .int a3), (4, .int a4)] [] (s, t, o) (q_T z s o) (fm_product t a1 a2 a3 a4)
  unfold fm_product
  refine ji_aload_n (q := 1) am dm_product_0 rfl 0 rfl rfl ?_
  refine ji_iload_n (q := 2) am dm_product_1 rfl 1 rfl rfl ?_
  refine jk_I (q := 5) (rest := [.ref (ad_ z 11)]) (fun r hF => jr_S [.int a1] am ln_M_m_isRegister (ctm_isRegister _ _ _ hF) (by omega) rfl rfl (Nat.le_of_ble_eq_true rfl) dm_product_2) rfl ?_
  intro r2
  refine ji_jn2 (fun j => ∀ (y0_43 : Int32), jj_J z 9 43 [(0, .ref (ad_ z 11)), (1, .int a1), (2, .int a2), (3, .int a3), (4, .int a4)] [.int y0_43, .ref (ad_ z 11)] (s, t, o) (q_T z s o) (j y0_43)) ?_ ?_
  · intro y0_43
    refine ji_put_M_code (q := 46) am dm_product_43 rfl ?_
    intro t43
    refine ji_aload_n (q := 47) am dm_product_46 rfl 0 rfl rfl ?_
    refine ji_get_M_code (q := 50) am dm_product_47 rfl ?_
    refine ji_jn2 (fun j => ∀ (t_164 : wt_M), jj_J z 9 164 [] [] (s, t_164, o) (q_T z s o) (j t_164)) ?_ ?_
    · intro t_164
      exact ji_vret am rfl dm_product_164 rfl rfl
    · intro j164 hj164
      refine ji_if_ne (q := 53) (g := 164) am dm_product_50 rfl rfl ?_ ?_
      · exact ji_sub (lv' := []) [] rfl (hj164 _)
      · refine ji_aload_n (q := 54) am dm_product_53 rfl 0 rfl rfl ?_
        refine jk_T (q := 57) (rest := []) (fun t2 hF => jr_V [] am ln_M_m_clear (ctm_clear _ _ hF) (by omega) (rc_M am) rfl rfl (Nat.le_of_ble_eq_true rfl) dm_product_54) rfl ?_
        intro t54
        refine ji_iconst (q := 58) am dm_product_57 ki_0 rfl ?_
        refine ji_istore (lv' := [(0, .ref (ad_ z 11)), (1, .int a1), (2, .int a2), (3, .int a3), (4, .int a4), (5, .int (0 : Int32))]) (q := 60) am dm_product_58 [1, 2, 3, 4, 5, 0] rfl rfl rfl ?_
        refine lm_product_60 am (fun t_60 => ?_) 5000 _ _
        refine ji_aload_n (q := 160) am dm_product_159 rfl 0 rfl rfl ?_
        refine ji_iload_n (q := 161) am dm_product_160 rfl 1 rfl rfl ?_
        refine jk_T (q := 164) (rest := []) (fun t2 hF => jr_V [.int a1] am ln_M_m_keep (ctm_keep _ _ hF) (by omega) (rc_M am) rfl rfl (Nat.le_of_ble_eq_true rfl) dm_product_161) rfl ?_
        intro t161
        exact ji_sub (lv' := []) [] rfl (hj164 _)
  · intro j43 hj43
    refine ji_jn2 (fun j => ∀ (u22 : Unit), jj_J z 9 22 [(0, .ref (ad_ z 11)), (1, .int a1), (2, .int a2), (3, .int a3), (4, .int a4)] [.ref (ad_ z 11)] (s, t, o) (q_T z s o) (j u22)) ?_ ?_
    · intro u22
      refine ji_iconst (q := 23) am dm_product_22 ki_1 rfl ?_
      refine ji_goto (q := 43) am dm_product_23 rfl ?_
      exact hj43 _
    · intro j22 hj22
      refine ji_if_eq (q := 8) (g := 22) am dm_product_5 rfl rfl ?_ ?_
      · exact hj22 _
      · refine ji_iload_n (q := 9) am dm_product_8 rfl 2 rfl rfl ?_
        refine jk_I (q := 12) (rest := [.ref (ad_ z 11)]) (fun r hF => jr_S [.int a2] am ln_M_m_isRegister (ctm_isRegister _ _ _ hF) (by omega) rfl rfl (Nat.le_of_ble_eq_true rfl) dm_product_9) rfl ?_
        intro r9
        refine ji_if_eq (q := 15) (g := 22) am dm_product_12 rfl rfl ?_ ?_
        · exact hj22 _
        · refine ji_iload_n (q := 16) am dm_product_15 rfl 3 rfl rfl ?_
          refine jk_I (q := 19) (rest := [.ref (ad_ z 11)]) (fun r hF => jr_S [.int a3] am ln_M_m_isRegister (ctm_isRegister _ _ _ hF) (by omega) rfl rfl (Nat.le_of_ble_eq_true rfl) dm_product_16) rfl ?_
          intro r16
          refine ji_if_ne (q := 22) (g := 26) am dm_product_19 rfl rfl ?_ ?_
          · refine ji_iload (q := 28) am dm_product_26 4 rfl rfl ?_
            refine ji_iconst (q := 29) am dm_product_28 ki_0 rfl ?_
            refine ji_sipush (q := 32) am dm_product_29 ks_255 rfl ?_
            refine jk_I (q := 35) (rest := [.ref (ad_ z 11)]) (fun r hF => jr_S [.int a4, .int (0 : Int32), .int (255 : Int32)] am ln_M_m_in (ctm_in _ _ _ hF) (by omega) rfl rfl (Nat.le_of_ble_eq_true rfl) dm_product_32) rfl ?_
            intro r32
            refine ji_if_eq (q := 38) (g := 42) am dm_product_35 rfl rfl ?_ ?_
            · refine ji_iconst (q := 43) am dm_product_42 ki_2 rfl ?_
              exact hj43 _
            · refine ji_iconst (q := 39) am dm_product_38 ki_0 rfl ?_
              refine ji_goto (q := 43) am dm_product_39 rfl ?_
              exact hj43 _
          · exact hj22 _

theorem dm_compose_0 : decode bm_compose 0 = .ok (.aload_n 0, 1) := by decide +kernel
theorem dm_compose_1 : decode bm_compose 1 = .ok (.iload_n 1, 1) := by decide +kernel
theorem dm_compose_2 : decode bm_compose 2 = .ok (.invokestatic 58, 3) := by decide +kernel
theorem dm_compose_5 : decode bm_compose 5 = .ok (.ifCond .eq 29, 3) := by decide +kernel
theorem dm_compose_8 : decode bm_compose 8 = .ok (.iload_n 2, 1) := by decide +kernel
theorem dm_compose_9 : decode bm_compose 9 = .ok (.invokestatic 58, 3) := by decide +kernel
theorem dm_compose_12 : decode bm_compose 12 = .ok (.ifCond .eq 22, 3) := by decide +kernel
theorem dm_compose_15 : decode bm_compose 15 = .ok (.iload 4, 2) := by decide +kernel
theorem dm_compose_17 : decode bm_compose 17 = .ok (.invokestatic 58, 3) := by decide +kernel
theorem dm_compose_20 : decode bm_compose 20 = .ok (.ifCond .eq 14, 3) := by decide +kernel
theorem dm_compose_23 : decode bm_compose 23 = .ok (.iload_n 3, 1) := by decide +kernel
theorem dm_compose_24 : decode bm_compose 24 = .ok (.invokestatic 62, 3) := by decide +kernel
theorem dm_compose_27 : decode bm_compose 27 = .ok (.ifCond .eq 7, 3) := by decide +kernel
theorem dm_compose_30 : decode bm_compose 30 = .ok (.iconst 0, 1) := by decide +kernel
theorem dm_compose_31 : decode bm_compose 31 = .ok (.goto 4, 3) := by decide +kernel
theorem dm_compose_34 : decode bm_compose 34 = .ok (.iconst 1, 1) := by decide +kernel
theorem dm_compose_35 : decode bm_compose 35 = .ok (.putfield 50, 3) := by decide +kernel
theorem dm_compose_38 : decode bm_compose 38 = .ok (.aload_n 0, 1) := by decide +kernel
theorem dm_compose_39 : decode bm_compose 39 = .ok (.getfield 50, 3) := by decide +kernel
theorem dm_compose_42 : decode bm_compose 42 = .ok (.ifCond .ne 54, 3) := by decide +kernel
theorem dm_compose_45 : decode bm_compose 45 = .ok (.aload_n 0, 1) := by decide +kernel
theorem dm_compose_46 : decode bm_compose 46 = .ok (.invokevirtual 65, 3) := by decide +kernel
theorem dm_compose_49 : decode bm_compose 49 = .ok (.iconst 0, 1) := by decide +kernel
theorem dm_compose_50 : decode bm_compose 50 = .ok (.istore 5, 2) := by decide +kernel
theorem dm_compose_52 : decode bm_compose 52 = .ok (.iload 5, 2) := by decide +kernel
theorem dm_compose_54 : decode bm_compose 54 = .ok (.sipush 256, 3) := by decide +kernel
theorem dm_compose_57 : decode bm_compose 57 = .ok (.if_icmp .ge 34, 3) := by decide +kernel
theorem dm_compose_60 : decode bm_compose 60 = .ok (.aload_n 0, 1) := by decide +kernel
theorem dm_compose_61 : decode bm_compose 61 = .ok (.iload 5, 2) := by decide +kernel
theorem dm_compose_63 : decode bm_compose 63 = .ok (.aload_n 0, 1) := by decide +kernel
theorem dm_compose_64 : decode bm_compose 64 = .ok (.iload_n 2, 1) := by decide +kernel
theorem dm_compose_65 : decode bm_compose 65 = .ok (.iload 5, 2) := by decide +kernel
theorem dm_compose_67 : decode bm_compose 67 = .ok (.iload_n 3, 1) := by decide +kernel
theorem dm_compose_68 : decode bm_compose 68 = .ok (.aload_n 0, 1) := by decide +kernel
theorem dm_compose_69 : decode bm_compose 69 = .ok (.iload 4, 2) := by decide +kernel
theorem dm_compose_71 : decode bm_compose 71 = .ok (.iload 5, 2) := by decide +kernel
theorem dm_compose_73 : decode bm_compose 73 = .ok (.invokevirtual 76, 3) := by decide +kernel
theorem dm_compose_76 : decode bm_compose 76 = .ok (.invokestatic 80, 3) := by decide +kernel
theorem dm_compose_79 : decode bm_compose 79 = .ok (.invokevirtual 76, 3) := by decide +kernel
theorem dm_compose_82 : decode bm_compose 82 = .ok (.invokevirtual 68, 3) := by decide +kernel
theorem dm_compose_85 : decode bm_compose 85 = .ok (.iinc 5 1, 3) := by decide +kernel
theorem dm_compose_88 : decode bm_compose 88 = .ok (.goto (-36), 3) := by decide +kernel
theorem dm_compose_91 : decode bm_compose 91 = .ok (.aload_n 0, 1) := by decide +kernel
theorem dm_compose_92 : decode bm_compose 92 = .ok (.iload_n 1, 1) := by decide +kernel
theorem dm_compose_93 : decode bm_compose 93 = .ok (.invokevirtual 72, 3) := by decide +kernel
theorem dm_compose_96 : decode bm_compose 96 = .ok (.return_, 1) := by decide +kernel
set_option maxHeartbeats 4000000 in
set_option maxRecDepth 100000 in
theorem lm_compose_52 {z : wt_Z} {s : wt_S} {o : Nat → Int64} {c1 : Int32} {c2 : Int32} {c3 : Int32} {c4 : Int32} {K : wt_M → Option (wt_M)} (am : wt_Am z R_M bm_compose 6 3 none) (hK : ∀ (t3 : wt_M), jj_J z 6 91 [(0, .ref (ad_ z 11)), (1, .int c1)] [] (s, t3, o) (q_T z s o) (K t3)) : ∀ (n : Nat) (x5 : Int32) (t : wt_M), jj_J z 6 52 [(0, .ref (ad_ z 11)), (1, .int c1), (2, .int c2), (3, .int c3), (4, .int c4), (5, .int x5)] [] (s, t, o) (q_T z s o) (fm_compose_L52 c1 c2 c3 c4 K n x5 t) := by
  intro n
  induction n with
  | zero =>
    intro x5 t
    exact ji_none
  | succ n ih =>
    intro x5 t
    rw [fm_compose_L52]
    refine ji_iload (q := 54) am dm_compose_52 5 rfl rfl ?_
    refine ji_sipush (q := 57) am dm_compose_54 ks_256 rfl ?_
    refine ji_icmp_ge (q := 60) (g := 91) am dm_compose_57 rfl rfl ?_ ?_
    · exact ji_sub (lv' := [(0, .ref (ad_ z 11)), (1, .int c1)]) [0, 1] rfl (hK _)
    · refine ji_aload_n (q := 61) am dm_compose_60 rfl 0 rfl rfl ?_
      refine ji_iload (q := 63) am dm_compose_61 5 rfl rfl ?_
      refine ji_aload_n (q := 64) am dm_compose_63 rfl 0 rfl rfl ?_
      refine ji_iload_n (q := 65) am dm_compose_64 rfl 2 rfl rfl ?_
      refine ji_iload (q := 67) am dm_compose_65 5 rfl rfl ?_
      refine ji_iload_n (q := 68) am dm_compose_67 rfl 3 rfl rfl ?_
      refine ji_aload_n (q := 69) am dm_compose_68 rfl 0 rfl rfl ?_
      refine ji_iload (q := 71) am dm_compose_69 4 rfl rfl ?_
      refine ji_iload (q := 73) am dm_compose_71 5 rfl rfl ?_
      refine jk_I (q := 76) (rest := [.int c3, .int x5, .int c2, .ref (ad_ z 11), .int x5, .ref (ad_ z 11)]) (fun r hF => jr_V [.int c4, .int x5] am ln_M_m_value (ctm_value _ _ hF) (by omega) (rc_M am) rfl rfl (Nat.le_of_ble_eq_true rfl) dm_compose_73) rfl ?_
      intro r73
      refine jk_I (q := 79) (rest := [.int c2, .ref (ad_ z 11), .int x5, .ref (ad_ z 11)]) (fun r hF => jr_S [.int x5, .int c3, .int r73] am ln_M_m_with (ctm_with _ _ _ hF) (by omega) rfl rfl (Nat.le_of_ble_eq_true rfl) dm_compose_76) rfl ?_
      intro r76
      refine jk_I (q := 82) (rest := [.int x5, .ref (ad_ z 11)]) (fun r hF => jr_V [.int c2, .int r76] am ln_M_m_value (ctm_value _ _ hF) (by omega) (rc_M am) rfl rfl (Nat.le_of_ble_eq_true rfl) dm_compose_79) rfl ?_
      intro r79
      refine jk_T (q := 85) (rest := []) (fun t2 hF => jr_V [.int x5, .int r79] am ln_M_m_set (ctm_set _ _ hF) (by omega) (rc_M am) rfl rfl (Nat.le_of_ble_eq_true rfl) dm_compose_82) rfl ?_
      intro t82
      refine ji_iinc (q := 88) (lv' := [(0, .ref (ad_ z 11)), (1, .int c1), (2, .int c2), (3, .int c3), (4, .int c4), (5, .int (x5 + 1))]) am dm_compose_85 5 rfl ki_1 [1, 2, 3, 4, 5, 0] rfl rfl rfl ?_
      refine ji_goto (q := 52) am dm_compose_88 rfl ?_
      exact ih _ _
set_option maxHeartbeats 4000000 in
set_option maxRecDepth 100000 in
theorem ctm_compose {v : wt_V} {t : wt_M} {a1 : Int32} {a2 : Int32} {a3 : Int32} {a4 : Int32} {t2 : wt_M} (s : wt_S) (o : Nat → Int64) (hF : fm_compose t a1 a2 a3 a4 = some t2) : ct_C v ym_compose (Cond.code ym_compose bm_compose 6 none) 3 [.ref (v.2.1 11), .int a1, .int a2, .int a3, .int a4] none (s, t, o) (s, t2, o) := by
  refine ct_of (lv := [(0, .ref (v.2.1 11)), (1, .int a1), (2, .int a2), (3, .int a3), (4, .int a4)]) (fun _ : wt_M => none) (fun r => (s, r, o)) (by decide) (Nat.le_of_ble_eq_true rfl) rfl ?_ t2 hF
  intro z hz am
  subst hz
  have am : wt_Am z R_M bm_compose 6 3 none := am
  show jj_J z 6 0 [(0, .ref (ad_ z 11)), (1, .int a1), (2, .int a2), (3, .int a3), (4, .int a4)] [] (s, t, o) (q_T z s o) (fm_compose t a1 a2 a3 a4)
  unfold fm_compose
  refine ji_aload_n (q := 1) am dm_compose_0 rfl 0 rfl rfl ?_
  refine ji_iload_n (q := 2) am dm_compose_1 rfl 1 rfl rfl ?_
  refine jk_I (q := 5) (rest := [.ref (ad_ z 11)]) (fun r hF => jr_S [.int a1] am ln_M_m_isRegister (ctm_isRegister _ _ _ hF) (by omega) rfl rfl (Nat.le_of_ble_eq_true rfl) dm_compose_2) rfl ?_
  intro r2
  refine ji_jn2 (fun j => ∀ (y0_35 : Int32), jj_J z 6 35 [(0, .ref (ad_ z 11)), (1, .int a1), (2, .int a2), (3, .int a3), (4, .int a4)] [.int y0_35, .ref (ad_ z 11)] (s, t, o) (q_T z s o) (j y0_35)) ?_ ?_
  · intro y0_35
    refine ji_put_M_code (q := 38) am dm_compose_35 rfl ?_
    intro t35
    refine ji_aload_n (q := 39) am dm_compose_38 rfl 0 rfl rfl ?_
    refine ji_get_M_code (q := 42) am dm_compose_39 rfl ?_
    refine ji_jn2 (fun j => ∀ (t_96 : wt_M), jj_J z 6 96 [] [] (s, t_96, o) (q_T z s o) (j t_96)) ?_ ?_
    · intro t_96
      exact ji_vret am rfl dm_compose_96 rfl rfl
    · intro j96 hj96
      refine ji_if_ne (q := 45) (g := 96) am dm_compose_42 rfl rfl ?_ ?_
      · exact ji_sub (lv' := []) [] rfl (hj96 _)
      · refine ji_aload_n (q := 46) am dm_compose_45 rfl 0 rfl rfl ?_
        refine jk_T (q := 49) (rest := []) (fun t2 hF => jr_V [] am ln_M_m_clear (ctm_clear _ _ hF) (by omega) (rc_M am) rfl rfl (Nat.le_of_ble_eq_true rfl) dm_compose_46) rfl ?_
        intro t46
        refine ji_iconst (q := 50) am dm_compose_49 ki_0 rfl ?_
        refine ji_istore (lv' := [(0, .ref (ad_ z 11)), (1, .int a1), (2, .int a2), (3, .int a3), (4, .int a4), (5, .int (0 : Int32))]) (q := 52) am dm_compose_50 [1, 2, 3, 4, 5, 0] rfl rfl rfl ?_
        refine lm_compose_52 am (fun t_52 => ?_) 5000 _ _
        refine ji_aload_n (q := 92) am dm_compose_91 rfl 0 rfl rfl ?_
        refine ji_iload_n (q := 93) am dm_compose_92 rfl 1 rfl rfl ?_
        refine jk_T (q := 96) (rest := []) (fun t2 hF => jr_V [.int a1] am ln_M_m_keep (ctm_keep _ _ hF) (by omega) (rc_M am) rfl rfl (Nat.le_of_ble_eq_true rfl) dm_compose_93) rfl ?_
        intro t93
        exact ji_sub (lv' := []) [] rfl (hj96 _)
  · intro j35 hj35
    refine ji_jn2 (fun j => ∀ (u34 : Unit), jj_J z 6 34 [(0, .ref (ad_ z 11)), (1, .int a1), (2, .int a2), (3, .int a3), (4, .int a4)] [.ref (ad_ z 11)] (s, t, o) (q_T z s o) (j u34)) ?_ ?_
    · intro u34
      refine ji_iconst (q := 35) am dm_compose_34 ki_1 rfl ?_
      exact hj35 _
    · intro j34 hj34
      refine ji_if_eq (q := 8) (g := 34) am dm_compose_5 rfl rfl ?_ ?_
      · exact hj34 _
      · refine ji_iload_n (q := 9) am dm_compose_8 rfl 2 rfl rfl ?_
        refine jk_I (q := 12) (rest := [.ref (ad_ z 11)]) (fun r hF => jr_S [.int a2] am ln_M_m_isRegister (ctm_isRegister _ _ _ hF) (by omega) rfl rfl (Nat.le_of_ble_eq_true rfl) dm_compose_9) rfl ?_
        intro r9
        refine ji_if_eq (q := 15) (g := 34) am dm_compose_12 rfl rfl ?_ ?_
        · exact hj34 _
        · refine ji_iload (q := 17) am dm_compose_15 4 rfl rfl ?_
          refine jk_I (q := 20) (rest := [.ref (ad_ z 11)]) (fun r hF => jr_S [.int a4] am ln_M_m_isRegister (ctm_isRegister _ _ _ hF) (by omega) rfl rfl (Nat.le_of_ble_eq_true rfl) dm_compose_17) rfl ?_
          intro r17
          refine ji_if_eq (q := 23) (g := 34) am dm_compose_20 rfl rfl ?_ ?_
          · exact hj34 _
          · refine ji_iload_n (q := 24) am dm_compose_23 rfl 3 rfl rfl ?_
            refine jk_I (q := 27) (rest := [.ref (ad_ z 11)]) (fun r hF => jr_S [.int a3] am ln_M_m_isVariable (ctm_isVariable _ _ _ hF) (by omega) rfl rfl (Nat.le_of_ble_eq_true rfl) dm_compose_24) rfl ?_
            intro r24
            refine ji_if_eq (q := 30) (g := 34) am dm_compose_27 rfl rfl ?_ ?_
            · exact hj34 _
            · refine ji_iconst (q := 31) am dm_compose_30 ki_0 rfl ?_
              refine ji_goto (q := 35) am dm_compose_31 rfl ?_
              exact hj35 _

theorem dm_turn_0 : decode bm_turn 0 = .ok (.aload_n 0, 1) := by decide +kernel
theorem dm_turn_1 : decode bm_turn 1 = .ok (.iload_n 1, 1) := by decide +kernel
theorem dm_turn_2 : decode bm_turn 2 = .ok (.invokestatic 58, 3) := by decide +kernel
theorem dm_turn_5 : decode bm_turn 5 = .ok (.ifCond .eq 14, 3) := by decide +kernel
theorem dm_turn_8 : decode bm_turn 8 = .ok (.iload_n 2, 1) := by decide +kernel
theorem dm_turn_9 : decode bm_turn 9 = .ok (.invokestatic 58, 3) := by decide +kernel
theorem dm_turn_12 : decode bm_turn 12 = .ok (.ifCond .eq 7, 3) := by decide +kernel
theorem dm_turn_15 : decode bm_turn 15 = .ok (.iconst 0, 1) := by decide +kernel
theorem dm_turn_16 : decode bm_turn 16 = .ok (.goto 4, 3) := by decide +kernel
theorem dm_turn_19 : decode bm_turn 19 = .ok (.iconst 1, 1) := by decide +kernel
theorem dm_turn_20 : decode bm_turn 20 = .ok (.putfield 50, 3) := by decide +kernel
theorem dm_turn_23 : decode bm_turn 23 = .ok (.aload_n 0, 1) := by decide +kernel
theorem dm_turn_24 : decode bm_turn 24 = .ok (.getfield 50, 3) := by decide +kernel
theorem dm_turn_27 : decode bm_turn 27 = .ok (.ifCond .ne 50, 3) := by decide +kernel
theorem dm_turn_30 : decode bm_turn 30 = .ok (.aload_n 0, 1) := by decide +kernel
theorem dm_turn_31 : decode bm_turn 31 = .ok (.invokevirtual 65, 3) := by decide +kernel
theorem dm_turn_34 : decode bm_turn 34 = .ok (.iconst 0, 1) := by decide +kernel
theorem dm_turn_35 : decode bm_turn 35 = .ok (.istore_n 3, 1) := by decide +kernel
theorem dm_turn_36 : decode bm_turn 36 = .ok (.iload_n 3, 1) := by decide +kernel
theorem dm_turn_37 : decode bm_turn 37 = .ok (.sipush 256, 3) := by decide +kernel
theorem dm_turn_40 : decode bm_turn 40 = .ok (.if_icmp .ge 32, 3) := by decide +kernel
theorem dm_turn_43 : decode bm_turn 43 = .ok (.aload_n 0, 1) := by decide +kernel
theorem dm_turn_44 : decode bm_turn 44 = .ok (.iload_n 3, 1) := by decide +kernel
theorem dm_turn_45 : decode bm_turn 45 = .ok (.aload_n 0, 1) := by decide +kernel
theorem dm_turn_46 : decode bm_turn 46 = .ok (.iload_n 2, 1) := by decide +kernel
theorem dm_turn_47 : decode bm_turn 47 = .ok (.iload_n 3, 1) := by decide +kernel
theorem dm_turn_48 : decode bm_turn 48 = .ok (.bipush 85, 2) := by decide +kernel
theorem dm_turn_50 : decode bm_turn 50 = .ok (.iand, 1) := by decide +kernel
theorem dm_turn_51 : decode bm_turn 51 = .ok (.iconst 1, 1) := by decide +kernel
theorem dm_turn_52 : decode bm_turn 52 = .ok (.ishl, 1) := by decide +kernel
theorem dm_turn_53 : decode bm_turn 53 = .ok (.iload_n 3, 1) := by decide +kernel
theorem dm_turn_54 : decode bm_turn 54 = .ok (.iconst 1, 1) := by decide +kernel
theorem dm_turn_55 : decode bm_turn 55 = .ok (.ishr, 1) := by decide +kernel
theorem dm_turn_56 : decode bm_turn 56 = .ok (.bipush 85, 2) := by decide +kernel
theorem dm_turn_58 : decode bm_turn 58 = .ok (.iand, 1) := by decide +kernel
theorem dm_turn_59 : decode bm_turn 59 = .ok (.ior, 1) := by decide +kernel
theorem dm_turn_60 : decode bm_turn 60 = .ok (.invokevirtual 76, 3) := by decide +kernel
theorem dm_turn_63 : decode bm_turn 63 = .ok (.invokevirtual 68, 3) := by decide +kernel
theorem dm_turn_66 : decode bm_turn 66 = .ok (.iinc 3 1, 3) := by decide +kernel
theorem dm_turn_69 : decode bm_turn 69 = .ok (.goto (-33), 3) := by decide +kernel
theorem dm_turn_72 : decode bm_turn 72 = .ok (.aload_n 0, 1) := by decide +kernel
theorem dm_turn_73 : decode bm_turn 73 = .ok (.iload_n 1, 1) := by decide +kernel
theorem dm_turn_74 : decode bm_turn 74 = .ok (.invokevirtual 72, 3) := by decide +kernel
theorem dm_turn_77 : decode bm_turn 77 = .ok (.return_, 1) := by decide +kernel
set_option maxHeartbeats 4000000 in
set_option maxRecDepth 100000 in
theorem lm_turn_36 {z : wt_Z} {s : wt_S} {o : Nat → Int64} {c1 : Int32} {c2 : Int32} {K : wt_M → Option (wt_M)} (am : wt_Am z R_M bm_turn 4 3 none) (hK : ∀ (t3 : wt_M), jj_J z 4 72 [(0, .ref (ad_ z 11)), (1, .int c1)] [] (s, t3, o) (q_T z s o) (K t3)) : ∀ (n : Nat) (x3 : Int32) (t : wt_M), jj_J z 4 36 [(0, .ref (ad_ z 11)), (1, .int c1), (2, .int c2), (3, .int x3)] [] (s, t, o) (q_T z s o) (fm_turn_L36 c1 c2 K n x3 t) := by
  intro n
  induction n with
  | zero =>
    intro x3 t
    exact ji_none
  | succ n ih =>
    intro x3 t
    rw [fm_turn_L36]
    refine ji_iload_n (q := 37) am dm_turn_36 rfl 3 rfl rfl ?_
    refine ji_sipush (q := 40) am dm_turn_37 ks_256 rfl ?_
    refine ji_icmp_ge (q := 43) (g := 72) am dm_turn_40 rfl rfl ?_ ?_
    · exact ji_sub (lv' := [(0, .ref (ad_ z 11)), (1, .int c1)]) [0, 1] rfl (hK _)
    · refine ji_aload_n (q := 44) am dm_turn_43 rfl 0 rfl rfl ?_
      refine ji_iload_n (q := 45) am dm_turn_44 rfl 3 rfl rfl ?_
      refine ji_aload_n (q := 46) am dm_turn_45 rfl 0 rfl rfl ?_
      refine ji_iload_n (q := 47) am dm_turn_46 rfl 2 rfl rfl ?_
      refine ji_iload_n (q := 48) am dm_turn_47 rfl 3 rfl rfl ?_
      refine ji_bipush (q := 50) am dm_turn_48 kb_85 rfl ?_
      refine ji_iand (q := 51) am dm_turn_50 rfl ?_
      refine ji_iconst (q := 52) am dm_turn_51 ki_1 rfl ?_
      refine ji_ishl (q := 53) am dm_turn_52 rfl ?_
      refine ji_iload_n (q := 54) am dm_turn_53 rfl 3 rfl rfl ?_
      refine ji_iconst (q := 55) am dm_turn_54 ki_1 rfl ?_
      refine ji_ishr (q := 56) am dm_turn_55 rfl ?_
      refine ji_bipush (q := 58) am dm_turn_56 kb_85 rfl ?_
      refine ji_iand (q := 59) am dm_turn_58 rfl ?_
      refine ji_ior (q := 60) am dm_turn_59 rfl ?_
      refine jk_I (q := 63) (rest := [.int x3, .ref (ad_ z 11)]) (fun r hF => jr_V [.int c2, .int (((x3 &&& (85 : Int32)) <<< ((1 : Int32) &&& 31)) ||| ((x3 >>> ((1 : Int32) &&& 31)) &&& (85 : Int32)))] am ln_M_m_value (ctm_value _ _ hF) (by omega) (rc_M am) rfl rfl (Nat.le_of_ble_eq_true rfl) dm_turn_60) rfl ?_
      intro r60
      refine jk_T (q := 66) (rest := []) (fun t2 hF => jr_V [.int x3, .int r60] am ln_M_m_set (ctm_set _ _ hF) (by omega) (rc_M am) rfl rfl (Nat.le_of_ble_eq_true rfl) dm_turn_63) rfl ?_
      intro t63
      refine ji_iinc (q := 69) (lv' := [(0, .ref (ad_ z 11)), (1, .int c1), (2, .int c2), (3, .int (x3 + 1))]) am dm_turn_66 3 rfl ki_1 [1, 2, 3, 0] rfl rfl rfl ?_
      refine ji_goto (q := 36) am dm_turn_69 rfl ?_
      exact ih _ _
set_option maxHeartbeats 4000000 in
set_option maxRecDepth 100000 in
theorem ctm_turn {v : wt_V} {t : wt_M} {a1 : Int32} {a2 : Int32} {t2 : wt_M} (s : wt_S) (o : Nat → Int64) (hF : fm_turn t a1 a2 = some t2) : ct_C v ym_turn (Cond.code ym_turn bm_turn 4 none) 3 [.ref (v.2.1 11), .int a1, .int a2] none (s, t, o) (s, t2, o) := by
  refine ct_of (lv := [(0, .ref (v.2.1 11)), (1, .int a1), (2, .int a2)]) (fun _ : wt_M => none) (fun r => (s, r, o)) (by decide) (Nat.le_of_ble_eq_true rfl) rfl ?_ t2 hF
  intro z hz am
  subst hz
  have am : wt_Am z R_M bm_turn 4 3 none := am
  show jj_J z 4 0 [(0, .ref (ad_ z 11)), (1, .int a1), (2, .int a2)] [] (s, t, o) (q_T z s o) (fm_turn t a1 a2)
  unfold fm_turn
  refine ji_aload_n (q := 1) am dm_turn_0 rfl 0 rfl rfl ?_
  refine ji_iload_n (q := 2) am dm_turn_1 rfl 1 rfl rfl ?_
  refine jk_I (q := 5) (rest := [.ref (ad_ z 11)]) (fun r hF => jr_S [.int a1] am ln_M_m_isRegister (ctm_isRegister _ _ _ hF) (by omega) rfl rfl (Nat.le_of_ble_eq_true rfl) dm_turn_2) rfl ?_
  intro r2
  refine ji_jn2 (fun j => ∀ (y0_20 : Int32), jj_J z 4 20 [(0, .ref (ad_ z 11)), (1, .int a1), (2, .int a2)] [.int y0_20, .ref (ad_ z 11)] (s, t, o) (q_T z s o) (j y0_20)) ?_ ?_
  · intro y0_20
    refine ji_put_M_code (q := 23) am dm_turn_20 rfl ?_
    intro t20
    refine ji_aload_n (q := 24) am dm_turn_23 rfl 0 rfl rfl ?_
    refine ji_get_M_code (q := 27) am dm_turn_24 rfl ?_
    refine ji_jn2 (fun j => ∀ (t_77 : wt_M), jj_J z 4 77 [] [] (s, t_77, o) (q_T z s o) (j t_77)) ?_ ?_
    · intro t_77
      exact ji_vret am rfl dm_turn_77 rfl rfl
    · intro j77 hj77
      refine ji_if_ne (q := 30) (g := 77) am dm_turn_27 rfl rfl ?_ ?_
      · exact ji_sub (lv' := []) [] rfl (hj77 _)
      · refine ji_aload_n (q := 31) am dm_turn_30 rfl 0 rfl rfl ?_
        refine jk_T (q := 34) (rest := []) (fun t2 hF => jr_V [] am ln_M_m_clear (ctm_clear _ _ hF) (by omega) (rc_M am) rfl rfl (Nat.le_of_ble_eq_true rfl) dm_turn_31) rfl ?_
        intro t31
        refine ji_iconst (q := 35) am dm_turn_34 ki_0 rfl ?_
        refine ji_istore_n (lv' := [(0, .ref (ad_ z 11)), (1, .int a1), (2, .int a2), (3, .int (0 : Int32))]) (q := 36) am dm_turn_35 rfl [1, 2, 3, 0] rfl rfl rfl ?_
        refine lm_turn_36 am (fun t_36 => ?_) 5000 _ _
        refine ji_aload_n (q := 73) am dm_turn_72 rfl 0 rfl rfl ?_
        refine ji_iload_n (q := 74) am dm_turn_73 rfl 1 rfl rfl ?_
        refine jk_T (q := 77) (rest := []) (fun t2 hF => jr_V [.int a1] am ln_M_m_keep (ctm_keep _ _ hF) (by omega) (rc_M am) rfl rfl (Nat.le_of_ble_eq_true rfl) dm_turn_74) rfl ?_
        intro t74
        exact ji_sub (lv' := []) [] rfl (hj77 _)
  · intro j20 hj20
    refine ji_jn2 (fun j => ∀ (u19 : Unit), jj_J z 4 19 [(0, .ref (ad_ z 11)), (1, .int a1), (2, .int a2)] [.ref (ad_ z 11)] (s, t, o) (q_T z s o) (j u19)) ?_ ?_
    · intro u19
      refine ji_iconst (q := 20) am dm_turn_19 ki_1 rfl ?_
      exact hj20 _
    · intro j19 hj19
      refine ji_if_eq (q := 8) (g := 19) am dm_turn_5 rfl rfl ?_ ?_
      · exact hj19 _
      · refine ji_iload_n (q := 9) am dm_turn_8 rfl 2 rfl rfl ?_
        refine jk_I (q := 12) (rest := [.ref (ad_ z 11)]) (fun r hF => jr_S [.int a2] am ln_M_m_isRegister (ctm_isRegister _ _ _ hF) (by omega) rfl rfl (Nat.le_of_ble_eq_true rfl) dm_turn_9) rfl ?_
        intro r9
        refine ji_if_eq (q := 15) (g := 19) am dm_turn_12 rfl rfl ?_ ?_
        · exact hj19 _
        · refine ji_iconst (q := 16) am dm_turn_15 ki_0 rfl ?_
          refine ji_goto (q := 20) am dm_turn_16 rfl ?_
          exact hj20 _

theorem dm_truth_0 : decode bm_truth 0 = .ok (.aload_n 0, 1) := by decide +kernel
theorem dm_truth_1 : decode bm_truth 1 = .ok (.iload_n 1, 1) := by decide +kernel
theorem dm_truth_2 : decode bm_truth 2 = .ok (.invokestatic 58, 3) := by decide +kernel
theorem dm_truth_5 : decode bm_truth 5 = .ok (.ifCond .ne 7, 3) := by decide +kernel
theorem dm_truth_8 : decode bm_truth 8 = .ok (.iconst 1, 1) := by decide +kernel
theorem dm_truth_9 : decode bm_truth 9 = .ok (.goto 19, 3) := by decide +kernel
theorem dm_truth_12 : decode bm_truth 12 = .ok (.iload_n 2, 1) := by decide +kernel
theorem dm_truth_13 : decode bm_truth 13 = .ok (.iconst 0, 1) := by decide +kernel
theorem dm_truth_14 : decode bm_truth 14 = .ok (.sipush 255, 3) := by decide +kernel
theorem dm_truth_17 : decode bm_truth 17 = .ok (.invokestatic 54, 3) := by decide +kernel
theorem dm_truth_20 : decode bm_truth 20 = .ok (.ifCond .eq 7, 3) := by decide +kernel
theorem dm_truth_23 : decode bm_truth 23 = .ok (.iconst 0, 1) := by decide +kernel
theorem dm_truth_24 : decode bm_truth 24 = .ok (.goto 4, 3) := by decide +kernel
theorem dm_truth_27 : decode bm_truth 27 = .ok (.iconst 2, 1) := by decide +kernel
theorem dm_truth_28 : decode bm_truth 28 = .ok (.putfield 50, 3) := by decide +kernel
theorem dm_truth_31 : decode bm_truth 31 = .ok (.aload_n 0, 1) := by decide +kernel
theorem dm_truth_32 : decode bm_truth 32 = .ok (.getfield 50, 3) := by decide +kernel
theorem dm_truth_35 : decode bm_truth 35 = .ok (.ifCond .ne 16, 3) := by decide +kernel
theorem dm_truth_38 : decode bm_truth 38 = .ok (.aload_n 0, 1) := by decide +kernel
theorem dm_truth_39 : decode bm_truth 39 = .ok (.iload_n 1, 1) := by decide +kernel
theorem dm_truth_40 : decode bm_truth 40 = .ok (.iload_n 2, 1) := by decide +kernel
theorem dm_truth_41 : decode bm_truth 41 = .ok (.invokevirtual 76, 3) := by decide +kernel
theorem dm_truth_44 : decode bm_truth 44 = .ok (.ifCond .eq 7, 3) := by decide +kernel
theorem dm_truth_47 : decode bm_truth 47 = .ok (.iconst 1, 1) := by decide +kernel
theorem dm_truth_48 : decode bm_truth 48 = .ok (.goto 4, 3) := by decide +kernel
theorem dm_truth_51 : decode bm_truth 51 = .ok (.iconst 0, 1) := by decide +kernel
theorem dm_truth_52 : decode bm_truth 52 = .ok (.ireturn, 1) := by decide +kernel
set_option maxHeartbeats 4000000 in
set_option maxRecDepth 100000 in
theorem ctm_truth {v : wt_V} {t : wt_M} {a1 : Int32} {a2 : Int32} {r : Int32} {t2 : wt_M} (s : wt_S) (o : Nat → Int64) (hF : fm_truth t a1 a2 = some (r, t2)) : ct_C v ym_truth (Cond.code ym_truth bm_truth 3 (some .boolean)) 3 [.ref (v.2.1 11), .int a1, .int a2] (some (.int r)) (s, t, o) (s, t2, o) := by
  refine ct_of (lv := [(0, .ref (v.2.1 11)), (1, .int a1), (2, .int a2)]) (fun r : Int32 × wt_M => some (.int r.1)) (fun r => (s, r.2, o)) (by decide) (Nat.le_of_ble_eq_true rfl) rfl ?_ (r, t2) hF
  intro z hz am
  subst hz
  have am : wt_Am z R_M bm_truth 3 3 (some .boolean) := am
  show jj_J z 3 0 [(0, .ref (ad_ z 11)), (1, .int a1), (2, .int a2)] [] (s, t, o) (q_IT z s o) (fm_truth t a1 a2)
  unfold fm_truth
  refine ji_aload_n (q := 1) am dm_truth_0 rfl 0 rfl rfl ?_
  refine ji_iload_n (q := 2) am dm_truth_1 rfl 1 rfl rfl ?_
  refine jk_I (q := 5) (rest := [.ref (ad_ z 11)]) (fun r hF => jr_S [.int a1] am ln_M_m_isRegister (ctm_isRegister _ _ _ hF) (by omega) rfl rfl (Nat.le_of_ble_eq_true rfl) dm_truth_2) rfl ?_
  intro r2
  refine ji_jn2 (fun j => ∀ (y0_28 : Int32), jj_J z 3 28 [(0, .ref (ad_ z 11)), (1, .int a1), (2, .int a2)] [.int y0_28, .ref (ad_ z 11)] (s, t, o) (q_IT z s o) (j y0_28)) ?_ ?_
  · intro y0_28
    refine ji_put_M_code (q := 31) am dm_truth_28 rfl ?_
    intro t28
    refine ji_aload_n (q := 32) am dm_truth_31 rfl 0 rfl rfl ?_
    refine ji_get_M_code (q := 35) am dm_truth_32 rfl ?_
    refine ji_jn2 (fun j => ∀ (y0_52 : Int32), jj_J z 3 52 [] [.int y0_52] (s, t28, o) (q_IT z s o) (j y0_52)) ?_ ?_
    · intro y0_52
      exact ji_zret am rfl dm_truth_52 rfl rfl
    · intro j52 hj52
      refine ji_jn2 (fun j => ∀ (u51 : Unit), jj_J z 3 51 [] [] (s, t28, o) (q_IT z s o) (j u51)) ?_ ?_
      · intro u51
        refine ji_iconst (q := 52) am dm_truth_51 ki_0 rfl ?_
        exact hj52 _
      · intro j51 hj51
        refine ji_if_ne (q := 38) (g := 51) am dm_truth_35 rfl rfl ?_ ?_
        · exact ji_sub (lv' := []) [] rfl (hj51 _)
        · refine ji_aload_n (q := 39) am dm_truth_38 rfl 0 rfl rfl ?_
          refine ji_iload_n (q := 40) am dm_truth_39 rfl 1 rfl rfl ?_
          refine ji_iload_n (q := 41) am dm_truth_40 rfl 2 rfl rfl ?_
          refine jk_I (q := 44) (rest := []) (fun r hF => jr_V [.int a1, .int a2] am ln_M_m_value (ctm_value _ _ hF) (by omega) (rc_M am) rfl rfl (Nat.le_of_ble_eq_true rfl) dm_truth_41) rfl ?_
          intro r41
          refine ji_if_eq (q := 47) (g := 51) am dm_truth_44 rfl rfl ?_ ?_
          · exact ji_sub (lv' := []) [] rfl (hj51 _)
          · refine ji_iconst (q := 48) am dm_truth_47 ki_1 rfl ?_
            refine ji_goto (q := 52) am dm_truth_48 rfl ?_
            exact ji_sub (lv' := []) [] rfl (hj52 _)
  · intro j28 hj28
    refine ji_if_ne (q := 8) (g := 12) am dm_truth_5 rfl rfl ?_ ?_
    · refine ji_iload_n (q := 13) am dm_truth_12 rfl 2 rfl rfl ?_
      refine ji_iconst (q := 14) am dm_truth_13 ki_0 rfl ?_
      refine ji_sipush (q := 17) am dm_truth_14 ks_255 rfl ?_
      refine jk_I (q := 20) (rest := [.ref (ad_ z 11)]) (fun r hF => jr_S [.int a2, .int (0 : Int32), .int (255 : Int32)] am ln_M_m_in (ctm_in _ _ _ hF) (by omega) rfl rfl (Nat.le_of_ble_eq_true rfl) dm_truth_17) rfl ?_
      intro r17
      refine ji_if_eq (q := 23) (g := 27) am dm_truth_20 rfl rfl ?_ ?_
      · refine ji_iconst (q := 28) am dm_truth_27 ki_2 rfl ?_
        exact hj28 _
      · refine ji_iconst (q := 24) am dm_truth_23 ki_0 rfl ?_
        refine ji_goto (q := 28) am dm_truth_24 rfl ?_
        exact hj28 _
    · refine ji_iconst (q := 9) am dm_truth_8 ki_1 rfl ?_
      refine ji_goto (q := 28) am dm_truth_9 rfl ?_
      exact hj28 _

theorem dm_same_0 : decode bm_same 0 = .ok (.aload_n 0, 1) := by decide +kernel
theorem dm_same_1 : decode bm_same 1 = .ok (.iload_n 1, 1) := by decide +kernel
theorem dm_same_2 : decode bm_same 2 = .ok (.invokestatic 58, 3) := by decide +kernel
theorem dm_same_5 : decode bm_same 5 = .ok (.ifCond .eq 14, 3) := by decide +kernel
theorem dm_same_8 : decode bm_same 8 = .ok (.iload_n 2, 1) := by decide +kernel
theorem dm_same_9 : decode bm_same 9 = .ok (.invokestatic 58, 3) := by decide +kernel
theorem dm_same_12 : decode bm_same 12 = .ok (.ifCond .eq 7, 3) := by decide +kernel
theorem dm_same_15 : decode bm_same 15 = .ok (.iconst 0, 1) := by decide +kernel
theorem dm_same_16 : decode bm_same 16 = .ok (.goto 4, 3) := by decide +kernel
theorem dm_same_19 : decode bm_same 19 = .ok (.iconst 1, 1) := by decide +kernel
theorem dm_same_20 : decode bm_same 20 = .ok (.putfield 50, 3) := by decide +kernel
theorem dm_same_23 : decode bm_same 23 = .ok (.aload_n 0, 1) := by decide +kernel
theorem dm_same_24 : decode bm_same 24 = .ok (.getfield 50, 3) := by decide +kernel
theorem dm_same_27 : decode bm_same 27 = .ok (.ifCond .ne 7, 3) := by decide +kernel
theorem dm_same_30 : decode bm_same 30 = .ok (.iconst 1, 1) := by decide +kernel
theorem dm_same_31 : decode bm_same 31 = .ok (.goto 4, 3) := by decide +kernel
theorem dm_same_34 : decode bm_same 34 = .ok (.iconst 0, 1) := by decide +kernel
theorem dm_same_35 : decode bm_same 35 = .ok (.istore_n 3, 1) := by decide +kernel
theorem dm_same_36 : decode bm_same 36 = .ok (.iconst 0, 1) := by decide +kernel
theorem dm_same_37 : decode bm_same 37 = .ok (.istore 4, 2) := by decide +kernel
theorem dm_same_39 : decode bm_same 39 = .ok (.iload 4, 2) := by decide +kernel
theorem dm_same_41 : decode bm_same 41 = .ok (.sipush 256, 3) := by decide +kernel
theorem dm_same_44 : decode bm_same 44 = .ok (.if_icmp .ge 36, 3) := by decide +kernel
theorem dm_same_47 : decode bm_same 47 = .ok (.iload_n 3, 1) := by decide +kernel
theorem dm_same_48 : decode bm_same 48 = .ok (.ifCond .eq 32, 3) := by decide +kernel
theorem dm_same_51 : decode bm_same 51 = .ok (.aload_n 0, 1) := by decide +kernel
theorem dm_same_52 : decode bm_same 52 = .ok (.iload_n 1, 1) := by decide +kernel
theorem dm_same_53 : decode bm_same 53 = .ok (.iload 4, 2) := by decide +kernel
theorem dm_same_55 : decode bm_same 55 = .ok (.invokevirtual 76, 3) := by decide +kernel
theorem dm_same_58 : decode bm_same 58 = .ok (.aload_n 0, 1) := by decide +kernel
theorem dm_same_59 : decode bm_same 59 = .ok (.iload_n 2, 1) := by decide +kernel
theorem dm_same_60 : decode bm_same 60 = .ok (.iload 4, 2) := by decide +kernel
theorem dm_same_62 : decode bm_same 62 = .ok (.invokevirtual 76, 3) := by decide +kernel
theorem dm_same_65 : decode bm_same 65 = .ok (.if_icmp .ne 7, 3) := by decide +kernel
theorem dm_same_68 : decode bm_same 68 = .ok (.iconst 1, 1) := by decide +kernel
theorem dm_same_69 : decode bm_same 69 = .ok (.goto 4, 3) := by decide +kernel
theorem dm_same_72 : decode bm_same 72 = .ok (.iconst 0, 1) := by decide +kernel
theorem dm_same_73 : decode bm_same 73 = .ok (.istore_n 3, 1) := by decide +kernel
theorem dm_same_74 : decode bm_same 74 = .ok (.iinc 4 1, 3) := by decide +kernel
theorem dm_same_77 : decode bm_same 77 = .ok (.goto (-38), 3) := by decide +kernel
theorem dm_same_80 : decode bm_same 80 = .ok (.iload_n 3, 1) := by decide +kernel
theorem dm_same_81 : decode bm_same 81 = .ok (.ireturn, 1) := by decide +kernel
set_option maxHeartbeats 4000000 in
set_option maxRecDepth 100000 in
theorem lm_same_39 {z : wt_Z} {s : wt_S} {t : wt_M} {o : Nat → Int64} {c1 : Int32} {c2 : Int32} {K : Int32 → Option (Int32 × wt_M)} (am : wt_Am z R_M bm_same 5 3 (some .boolean)) (hK : ∀ (e3 : Int32), jj_J z 5 80 [(3, .int e3)] [] (s, t, o) (q_IT z s o) (K e3)) : ∀ (n : Nat) (x3 : Int32) (x4 : Int32), jj_J z 5 39 [(0, .ref (ad_ z 11)), (1, .int c1), (2, .int c2), (3, .int x3), (4, .int x4)] [] (s, t, o) (q_IT z s o) (fm_same_L39 t c1 c2 K n x3 x4) := by
  intro n
  induction n with
  | zero =>
    intro x3 x4
    exact ji_none
  | succ n ih =>
    intro x3 x4
    rw [fm_same_L39]
    refine ji_iload (q := 41) am dm_same_39 4 rfl rfl ?_
    refine ji_sipush (q := 44) am dm_same_41 ks_256 rfl ?_
    refine ji_icmp_ge (q := 47) (g := 80) am dm_same_44 rfl rfl ?_ ?_
    · exact ji_sub (lv' := [(3, .int x3)]) [3] rfl (hK _)
    · refine ji_iload_n (q := 48) am dm_same_47 rfl 3 rfl rfl ?_
      refine ji_if_eq (q := 51) (g := 80) am dm_same_48 rfl rfl ?_ ?_
      · exact ji_sub (lv' := [(3, .int x3)]) [3] rfl (hK _)
      · refine ji_aload_n (q := 52) am dm_same_51 rfl 0 rfl rfl ?_
        refine ji_iload_n (q := 53) am dm_same_52 rfl 1 rfl rfl ?_
        refine ji_iload (q := 55) am dm_same_53 4 rfl rfl ?_
        refine jk_I (q := 58) (rest := []) (fun r hF => jr_V [.int c1, .int x4] am ln_M_m_value (ctm_value _ _ hF) (by omega) (rc_M am) rfl rfl (Nat.le_of_ble_eq_true rfl) dm_same_55) rfl ?_
        intro r55
        refine ji_aload_n (q := 59) am dm_same_58 rfl 0 rfl rfl ?_
        refine ji_iload_n (q := 60) am dm_same_59 rfl 2 rfl rfl ?_
        refine ji_iload (q := 62) am dm_same_60 4 rfl rfl ?_
        refine jk_I (q := 65) (rest := [.int r55]) (fun r hF => jr_V [.int c2, .int x4] am ln_M_m_value (ctm_value _ _ hF) (by omega) (rc_M am) rfl rfl (Nat.le_of_ble_eq_true rfl) dm_same_62) rfl ?_
        intro r62
        refine ji_jn2 (fun j => ∀ (y0_73 : Int32), jj_J z 5 73 [(0, .ref (ad_ z 11)), (1, .int c1), (2, .int c2), (4, .int x4)] [.int y0_73] (s, t, o) (q_IT z s o) (j y0_73)) ?_ ?_
        · intro y0_73
          refine ji_istore_n (lv' := [(0, .ref (ad_ z 11)), (1, .int c1), (2, .int c2), (3, .int y0_73), (4, .int x4)]) (q := 74) am dm_same_73 rfl [1, 2, 3, 0, 4] rfl rfl rfl ?_
          refine ji_iinc (q := 77) (lv' := [(0, .ref (ad_ z 11)), (1, .int c1), (2, .int c2), (3, .int y0_73), (4, .int (x4 + 1))]) am dm_same_74 4 rfl ki_1 [1, 2, 3, 4, 0] rfl rfl rfl ?_
          refine ji_goto (q := 39) am dm_same_77 rfl ?_
          exact ih _ _
        · intro j73 hj73
          refine ji_icmp_ne (q := 68) (g := 72) am dm_same_65 rfl rfl ?_ ?_
          · refine ji_iconst (q := 73) am dm_same_72 ki_0 rfl ?_
            exact ji_sub (lv' := [(0, .ref (ad_ z 11)), (1, .int c1), (2, .int c2), (4, .int x4)]) [0, 1, 2, 4] rfl (hj73 _)
          · refine ji_iconst (q := 69) am dm_same_68 ki_1 rfl ?_
            refine ji_goto (q := 73) am dm_same_69 rfl ?_
            exact ji_sub (lv' := [(0, .ref (ad_ z 11)), (1, .int c1), (2, .int c2), (4, .int x4)]) [0, 1, 2, 4] rfl (hj73 _)
set_option maxHeartbeats 4000000 in
set_option maxRecDepth 100000 in
theorem ctm_same {v : wt_V} {t : wt_M} {a1 : Int32} {a2 : Int32} {r : Int32} {t2 : wt_M} (s : wt_S) (o : Nat → Int64) (hF : fm_same t a1 a2 = some (r, t2)) : ct_C v ym_same (Cond.code ym_same bm_same 5 (some .boolean)) 3 [.ref (v.2.1 11), .int a1, .int a2] (some (.int r)) (s, t, o) (s, t2, o) := by
  refine ct_of (lv := [(0, .ref (v.2.1 11)), (1, .int a1), (2, .int a2)]) (fun r : Int32 × wt_M => some (.int r.1)) (fun r => (s, r.2, o)) (by decide) (Nat.le_of_ble_eq_true rfl) rfl ?_ (r, t2) hF
  intro z hz am
  subst hz
  have am : wt_Am z R_M bm_same 5 3 (some .boolean) := am
  show jj_J z 5 0 [(0, .ref (ad_ z 11)), (1, .int a1), (2, .int a2)] [] (s, t, o) (q_IT z s o) (fm_same t a1 a2)
  unfold fm_same
  refine ji_aload_n (q := 1) am dm_same_0 rfl 0 rfl rfl ?_
  refine ji_iload_n (q := 2) am dm_same_1 rfl 1 rfl rfl ?_
  refine jk_I (q := 5) (rest := [.ref (ad_ z 11)]) (fun r hF => jr_S [.int a1] am ln_M_m_isRegister (ctm_isRegister _ _ _ hF) (by omega) rfl rfl (Nat.le_of_ble_eq_true rfl) dm_same_2) rfl ?_
  intro r2
  refine ji_jn2 (fun j => ∀ (y0_20 : Int32), jj_J z 5 20 [(0, .ref (ad_ z 11)), (1, .int a1), (2, .int a2)] [.int y0_20, .ref (ad_ z 11)] (s, t, o) (q_IT z s o) (j y0_20)) ?_ ?_
  · intro y0_20
    refine ji_put_M_code (q := 23) am dm_same_20 rfl ?_
    intro t20
    refine ji_aload_n (q := 24) am dm_same_23 rfl 0 rfl rfl ?_
    refine ji_get_M_code (q := 27) am dm_same_24 rfl ?_
    refine ji_jn2 (fun j => ∀ (y0_35 : Int32), jj_J z 5 35 [(0, .ref (ad_ z 11)), (1, .int a1), (2, .int a2)] [.int y0_35] (s, t20, o) (q_IT z s o) (j y0_35)) ?_ ?_
    · intro y0_35
      refine ji_istore_n (lv' := [(0, .ref (ad_ z 11)), (1, .int a1), (2, .int a2), (3, .int y0_35)]) (q := 36) am dm_same_35 rfl [1, 2, 3, 0] rfl rfl rfl ?_
      refine ji_iconst (q := 37) am dm_same_36 ki_0 rfl ?_
      refine ji_istore (lv' := [(0, .ref (ad_ z 11)), (1, .int a1), (2, .int a2), (3, .int y0_35), (4, .int (0 : Int32))]) (q := 39) am dm_same_37 [1, 2, 3, 4, 0] rfl rfl rfl ?_
      refine lm_same_39 am (fun z3_39 => ?_) 5000 _ _
      refine ji_iload_n (q := 81) am dm_same_80 rfl 0 rfl rfl ?_
      exact ji_zret am rfl dm_same_81 rfl rfl
    · intro j35 hj35
      refine ji_if_ne (q := 30) (g := 34) am dm_same_27 rfl rfl ?_ ?_
      · refine ji_iconst (q := 35) am dm_same_34 ki_0 rfl ?_
        exact hj35 _
      · refine ji_iconst (q := 31) am dm_same_30 ki_1 rfl ?_
        refine ji_goto (q := 35) am dm_same_31 rfl ?_
        exact hj35 _
  · intro j20 hj20
    refine ji_jn2 (fun j => ∀ (u19 : Unit), jj_J z 5 19 [(0, .ref (ad_ z 11)), (1, .int a1), (2, .int a2)] [.ref (ad_ z 11)] (s, t, o) (q_IT z s o) (j u19)) ?_ ?_
    · intro u19
      refine ji_iconst (q := 20) am dm_same_19 ki_1 rfl ?_
      exact hj20 _
    · intro j19 hj19
      refine ji_if_eq (q := 8) (g := 19) am dm_same_5 rfl rfl ?_ ?_
      · exact hj19 _
      · refine ji_iload_n (q := 9) am dm_same_8 rfl 2 rfl rfl ?_
        refine jk_I (q := 12) (rest := [.ref (ad_ z 11)]) (fun r hF => jr_S [.int a2] am ln_M_m_isRegister (ctm_isRegister _ _ _ hF) (by omega) rfl rfl (Nat.le_of_ble_eq_true rfl) dm_same_9) rfl ?_
        intro r9
        refine ji_if_eq (q := 15) (g := 19) am dm_same_12 rfl rfl ?_ ?_
        · exact hj19 _
        · refine ji_iconst (q := 16) am dm_same_15 ki_0 rfl ?_
          refine ji_goto (q := 20) am dm_same_16 rfl ?_
          exact hj20 _

theorem dm_count_0 : decode bm_count 0 = .ok (.aload_n 0, 1) := by decide +kernel
theorem dm_count_1 : decode bm_count 1 = .ok (.iload_n 1, 1) := by decide +kernel
theorem dm_count_2 : decode bm_count 2 = .ok (.invokestatic 58, 3) := by decide +kernel
theorem dm_count_5 : decode bm_count 5 = .ok (.ifCond .eq 7, 3) := by decide +kernel
theorem dm_count_8 : decode bm_count 8 = .ok (.iconst 0, 1) := by decide +kernel
theorem dm_count_9 : decode bm_count 9 = .ok (.goto 4, 3) := by decide +kernel
theorem dm_count_12 : decode bm_count 12 = .ok (.iconst 1, 1) := by decide +kernel
theorem dm_count_13 : decode bm_count 13 = .ok (.putfield 50, 3) := by decide +kernel
theorem dm_count_16 : decode bm_count 16 = .ok (.iconst 0, 1) := by decide +kernel
theorem dm_count_17 : decode bm_count 17 = .ok (.istore_n 2, 1) := by decide +kernel
theorem dm_count_18 : decode bm_count 18 = .ok (.iconst 0, 1) := by decide +kernel
theorem dm_count_19 : decode bm_count 19 = .ok (.istore_n 3, 1) := by decide +kernel
theorem dm_count_20 : decode bm_count 20 = .ok (.iload_n 3, 1) := by decide +kernel
theorem dm_count_21 : decode bm_count 21 = .ok (.sipush 256, 3) := by decide +kernel
theorem dm_count_24 : decode bm_count 24 = .ok (.if_icmp .ge 33, 3) := by decide +kernel
theorem dm_count_27 : decode bm_count 27 = .ok (.aload_n 0, 1) := by decide +kernel
theorem dm_count_28 : decode bm_count 28 = .ok (.getfield 50, 3) := by decide +kernel
theorem dm_count_31 : decode bm_count 31 = .ok (.ifCond .ne 26, 3) := by decide +kernel
theorem dm_count_34 : decode bm_count 34 = .ok (.iload_n 2, 1) := by decide +kernel
theorem dm_count_35 : decode bm_count 35 = .ok (.aload_n 0, 1) := by decide +kernel
theorem dm_count_36 : decode bm_count 36 = .ok (.iload_n 1, 1) := by decide +kernel
theorem dm_count_37 : decode bm_count 37 = .ok (.iload_n 3, 1) := by decide +kernel
theorem dm_count_38 : decode bm_count 38 = .ok (.invokevirtual 76, 3) := by decide +kernel
theorem dm_count_41 : decode bm_count 41 = .ok (.ifCond .eq 7, 3) := by decide +kernel
theorem dm_count_44 : decode bm_count 44 = .ok (.iconst 1, 1) := by decide +kernel
theorem dm_count_45 : decode bm_count 45 = .ok (.goto 4, 3) := by decide +kernel
theorem dm_count_48 : decode bm_count 48 = .ok (.iconst 0, 1) := by decide +kernel
theorem dm_count_49 : decode bm_count 49 = .ok (.iadd, 1) := by decide +kernel
theorem dm_count_50 : decode bm_count 50 = .ok (.istore_n 2, 1) := by decide +kernel
theorem dm_count_51 : decode bm_count 51 = .ok (.iinc 3 1, 3) := by decide +kernel
theorem dm_count_54 : decode bm_count 54 = .ok (.goto (-34), 3) := by decide +kernel
theorem dm_count_57 : decode bm_count 57 = .ok (.iload_n 2, 1) := by decide +kernel
theorem dm_count_58 : decode bm_count 58 = .ok (.ireturn, 1) := by decide +kernel
set_option maxHeartbeats 4000000 in
set_option maxRecDepth 100000 in
theorem lm_count_20 {z : wt_Z} {s : wt_S} {t : wt_M} {o : Nat → Int64} {c1 : Int32} {K : Int32 → Option (Int32 × wt_M)} (am : wt_Am z R_M bm_count 4 3 (some .int)) (hK : ∀ (e2 : Int32), jj_J z 4 57 [(2, .int e2)] [] (s, t, o) (q_IT z s o) (K e2)) : ∀ (n : Nat) (x2 : Int32) (x3 : Int32), jj_J z 4 20 [(0, .ref (ad_ z 11)), (1, .int c1), (2, .int x2), (3, .int x3)] [] (s, t, o) (q_IT z s o) (fm_count_L20 t c1 K n x2 x3) := by
  intro n
  induction n with
  | zero =>
    intro x2 x3
    exact ji_none
  | succ n ih =>
    intro x2 x3
    rw [fm_count_L20]
    refine ji_iload_n (q := 21) am dm_count_20 rfl 3 rfl rfl ?_
    refine ji_sipush (q := 24) am dm_count_21 ks_256 rfl ?_
    refine ji_icmp_ge (q := 27) (g := 57) am dm_count_24 rfl rfl ?_ ?_
    · exact ji_sub (lv' := [(2, .int x2)]) [2] rfl (hK _)
    · refine ji_aload_n (q := 28) am dm_count_27 rfl 0 rfl rfl ?_
      refine ji_get_M_code (q := 31) am dm_count_28 rfl ?_
      refine ji_if_ne (q := 34) (g := 57) am dm_count_31 rfl rfl ?_ ?_
      · exact ji_sub (lv' := [(2, .int x2)]) [2] rfl (hK _)
      · refine ji_iload_n (q := 35) am dm_count_34 rfl 2 rfl rfl ?_
        refine ji_aload_n (q := 36) am dm_count_35 rfl 0 rfl rfl ?_
        refine ji_iload_n (q := 37) am dm_count_36 rfl 1 rfl rfl ?_
        refine ji_iload_n (q := 38) am dm_count_37 rfl 3 rfl rfl ?_
        refine jk_I (q := 41) (rest := [.int x2]) (fun r hF => jr_V [.int c1, .int x3] am ln_M_m_value (ctm_value _ _ hF) (by omega) (rc_M am) rfl rfl (Nat.le_of_ble_eq_true rfl) dm_count_38) rfl ?_
        intro r38
        refine ji_jn2 (fun j => ∀ (y0_49 : Int32), jj_J z 4 49 [(0, .ref (ad_ z 11)), (1, .int c1), (3, .int x3)] [.int y0_49, .int x2] (s, t, o) (q_IT z s o) (j y0_49)) ?_ ?_
        · intro y0_49
          refine ji_iadd (q := 50) am dm_count_49 rfl ?_
          refine ji_istore_n (lv' := [(0, .ref (ad_ z 11)), (1, .int c1), (2, .int (x2 + y0_49)), (3, .int x3)]) (q := 51) am dm_count_50 rfl [1, 2, 0, 3] rfl rfl rfl ?_
          refine ji_iinc (q := 54) (lv' := [(0, .ref (ad_ z 11)), (1, .int c1), (2, .int (x2 + y0_49)), (3, .int (x3 + 1))]) am dm_count_51 3 rfl ki_1 [1, 2, 3, 0] rfl rfl rfl ?_
          refine ji_goto (q := 20) am dm_count_54 rfl ?_
          exact ih _ _
        · intro j49 hj49
          refine ji_if_eq (q := 44) (g := 48) am dm_count_41 rfl rfl ?_ ?_
          · refine ji_iconst (q := 49) am dm_count_48 ki_0 rfl ?_
            exact ji_sub (lv' := [(0, .ref (ad_ z 11)), (1, .int c1), (3, .int x3)]) [0, 1, 3] rfl (hj49 _)
          · refine ji_iconst (q := 45) am dm_count_44 ki_1 rfl ?_
            refine ji_goto (q := 49) am dm_count_45 rfl ?_
            exact ji_sub (lv' := [(0, .ref (ad_ z 11)), (1, .int c1), (3, .int x3)]) [0, 1, 3] rfl (hj49 _)
set_option maxHeartbeats 4000000 in
set_option maxRecDepth 100000 in
theorem ctm_count {v : wt_V} {t : wt_M} {a1 : Int32} {r : Int32} {t2 : wt_M} (s : wt_S) (o : Nat → Int64) (hF : fm_count t a1 = some (r, t2)) : ct_C v ym_count (Cond.code ym_count bm_count 4 (some .int)) 3 [.ref (v.2.1 11), .int a1] (some (.int r)) (s, t, o) (s, t2, o) := by
  refine ct_of (lv := [(0, .ref (v.2.1 11)), (1, .int a1)]) (fun r : Int32 × wt_M => some (.int r.1)) (fun r => (s, r.2, o)) (by decide) (Nat.le_of_ble_eq_true rfl) rfl ?_ (r, t2) hF
  intro z hz am
  subst hz
  have am : wt_Am z R_M bm_count 4 3 (some .int) := am
  show jj_J z 4 0 [(0, .ref (ad_ z 11)), (1, .int a1)] [] (s, t, o) (q_IT z s o) (fm_count t a1)
  unfold fm_count
  refine ji_aload_n (q := 1) am dm_count_0 rfl 0 rfl rfl ?_
  refine ji_iload_n (q := 2) am dm_count_1 rfl 1 rfl rfl ?_
  refine jk_I (q := 5) (rest := [.ref (ad_ z 11)]) (fun r hF => jr_S [.int a1] am ln_M_m_isRegister (ctm_isRegister _ _ _ hF) (by omega) rfl rfl (Nat.le_of_ble_eq_true rfl) dm_count_2) rfl ?_
  intro r2
  refine ji_jn2 (fun j => ∀ (y0_13 : Int32), jj_J z 4 13 [(0, .ref (ad_ z 11)), (1, .int a1)] [.int y0_13, .ref (ad_ z 11)] (s, t, o) (q_IT z s o) (j y0_13)) ?_ ?_
  · intro y0_13
    refine ji_put_M_code (q := 16) am dm_count_13 rfl ?_
    intro t13
    refine ji_iconst (q := 17) am dm_count_16 ki_0 rfl ?_
    refine ji_istore_n (lv' := [(0, .ref (ad_ z 11)), (1, .int a1), (2, .int (0 : Int32))]) (q := 18) am dm_count_17 rfl [1, 2, 0] rfl rfl rfl ?_
    refine ji_iconst (q := 19) am dm_count_18 ki_0 rfl ?_
    refine ji_istore_n (lv' := [(0, .ref (ad_ z 11)), (1, .int a1), (2, .int (0 : Int32)), (3, .int (0 : Int32))]) (q := 20) am dm_count_19 rfl [1, 2, 3, 0] rfl rfl rfl ?_
    refine lm_count_20 am (fun z2_20 => ?_) 5000 _ _
    refine ji_iload_n (q := 58) am dm_count_57 rfl 0 rfl rfl ?_
    exact ji_iret am rfl dm_count_58 rfl rfl
  · intro j13 hj13
    refine ji_if_eq (q := 8) (g := 12) am dm_count_5 rfl rfl ?_ ?_
    · refine ji_iconst (q := 13) am dm_count_12 ki_1 rfl ?_
      exact hj13 _
    · refine ji_iconst (q := 9) am dm_count_8 ki_0 rfl ?_
      refine ji_goto (q := 13) am dm_count_9 rfl ?_
      exact hj13 _

theorem dm_least_0 : decode bm_least 0 = .ok (.aload_n 0, 1) := by decide +kernel
theorem dm_least_1 : decode bm_least 1 = .ok (.iload_n 1, 1) := by decide +kernel
theorem dm_least_2 : decode bm_least 2 = .ok (.invokestatic 58, 3) := by decide +kernel
theorem dm_least_5 : decode bm_least 5 = .ok (.ifCond .eq 7, 3) := by decide +kernel
theorem dm_least_8 : decode bm_least 8 = .ok (.iconst 0, 1) := by decide +kernel
theorem dm_least_9 : decode bm_least 9 = .ok (.goto 4, 3) := by decide +kernel
theorem dm_least_12 : decode bm_least 12 = .ok (.iconst 1, 1) := by decide +kernel
theorem dm_least_13 : decode bm_least 13 = .ok (.putfield 50, 3) := by decide +kernel
theorem dm_least_16 : decode bm_least 16 = .ok (.iconst (-1), 1) := by decide +kernel
theorem dm_least_17 : decode bm_least 17 = .ok (.istore_n 2, 1) := by decide +kernel
theorem dm_least_18 : decode bm_least 18 = .ok (.sipush 255, 3) := by decide +kernel
theorem dm_least_21 : decode bm_least 21 = .ok (.istore_n 3, 1) := by decide +kernel
theorem dm_least_22 : decode bm_least 22 = .ok (.iload_n 3, 1) := by decide +kernel
theorem dm_least_23 : decode bm_least 23 = .ok (.ifCond .lt 31, 3) := by decide +kernel
theorem dm_least_26 : decode bm_least 26 = .ok (.aload_n 0, 1) := by decide +kernel
theorem dm_least_27 : decode bm_least 27 = .ok (.getfield 50, 3) := by decide +kernel
theorem dm_least_30 : decode bm_least 30 = .ok (.ifCond .ne 24, 3) := by decide +kernel
theorem dm_least_33 : decode bm_least 33 = .ok (.aload_n 0, 1) := by decide +kernel
theorem dm_least_34 : decode bm_least 34 = .ok (.iload_n 1, 1) := by decide +kernel
theorem dm_least_35 : decode bm_least 35 = .ok (.iload_n 3, 1) := by decide +kernel
theorem dm_least_36 : decode bm_least 36 = .ok (.invokevirtual 76, 3) := by decide +kernel
theorem dm_least_39 : decode bm_least 39 = .ok (.ifCond .eq 7, 3) := by decide +kernel
theorem dm_least_42 : decode bm_least 42 = .ok (.iload_n 3, 1) := by decide +kernel
theorem dm_least_43 : decode bm_least 43 = .ok (.goto 4, 3) := by decide +kernel
theorem dm_least_46 : decode bm_least 46 = .ok (.iload_n 2, 1) := by decide +kernel
theorem dm_least_47 : decode bm_least 47 = .ok (.istore_n 2, 1) := by decide +kernel
theorem dm_least_48 : decode bm_least 48 = .ok (.iinc 3 (-1), 3) := by decide +kernel
theorem dm_least_51 : decode bm_least 51 = .ok (.goto (-29), 3) := by decide +kernel
theorem dm_least_54 : decode bm_least 54 = .ok (.aload_n 0, 1) := by decide +kernel
theorem dm_least_55 : decode bm_least 55 = .ok (.getfield 50, 3) := by decide +kernel
theorem dm_least_58 : decode bm_least 58 = .ok (.ifCond .le 7, 3) := by decide +kernel
theorem dm_least_61 : decode bm_least 61 = .ok (.iconst 0, 1) := by decide +kernel
theorem dm_least_62 : decode bm_least 62 = .ok (.goto 4, 3) := by decide +kernel
theorem dm_least_65 : decode bm_least 65 = .ok (.iload_n 2, 1) := by decide +kernel
theorem dm_least_66 : decode bm_least 66 = .ok (.ireturn, 1) := by decide +kernel
set_option maxHeartbeats 4000000 in
set_option maxRecDepth 100000 in
theorem lm_least_22 {z : wt_Z} {s : wt_S} {t : wt_M} {o : Nat → Int64} {c1 : Int32} {K : Int32 → Option (Int32 × wt_M)} (am : wt_Am z R_M bm_least 4 3 (some .int)) (hK : ∀ (e2 : Int32), jj_J z 4 54 [(0, .ref (ad_ z 11)), (2, .int e2)] [] (s, t, o) (q_IT z s o) (K e2)) : ∀ (n : Nat) (x2 : Int32) (x3 : Int32), jj_J z 4 22 [(0, .ref (ad_ z 11)), (1, .int c1), (2, .int x2), (3, .int x3)] [] (s, t, o) (q_IT z s o) (fm_least_L22 t c1 K n x2 x3) := by
  intro n
  induction n with
  | zero =>
    intro x2 x3
    exact ji_none
  | succ n ih =>
    intro x2 x3
    rw [fm_least_L22]
    refine ji_iload_n (q := 23) am dm_least_22 rfl 3 rfl rfl ?_
    refine ji_if_lt (q := 26) (g := 54) am dm_least_23 rfl rfl ?_ ?_
    · exact ji_sub (lv' := [(0, .ref (ad_ z 11)), (2, .int x2)]) [0, 2] rfl (hK _)
    · refine ji_aload_n (q := 27) am dm_least_26 rfl 0 rfl rfl ?_
      refine ji_get_M_code (q := 30) am dm_least_27 rfl ?_
      refine ji_if_ne (q := 33) (g := 54) am dm_least_30 rfl rfl ?_ ?_
      · exact ji_sub (lv' := [(0, .ref (ad_ z 11)), (2, .int x2)]) [0, 2] rfl (hK _)
      · refine ji_aload_n (q := 34) am dm_least_33 rfl 0 rfl rfl ?_
        refine ji_iload_n (q := 35) am dm_least_34 rfl 1 rfl rfl ?_
        refine ji_iload_n (q := 36) am dm_least_35 rfl 3 rfl rfl ?_
        refine jk_I (q := 39) (rest := []) (fun r hF => jr_V [.int c1, .int x3] am ln_M_m_value (ctm_value _ _ hF) (by omega) (rc_M am) rfl rfl (Nat.le_of_ble_eq_true rfl) dm_least_36) rfl ?_
        intro r36
        refine ji_jn2 (fun j => ∀ (y0_47 : Int32), jj_J z 4 47 [(0, .ref (ad_ z 11)), (1, .int c1), (3, .int x3)] [.int y0_47] (s, t, o) (q_IT z s o) (j y0_47)) ?_ ?_
        · intro y0_47
          refine ji_istore_n (lv' := [(0, .ref (ad_ z 11)), (1, .int c1), (2, .int y0_47), (3, .int x3)]) (q := 48) am dm_least_47 rfl [1, 2, 0, 3] rfl rfl rfl ?_
          refine ji_iinc (q := 51) (lv' := [(0, .ref (ad_ z 11)), (1, .int c1), (2, .int y0_47), (3, .int (x3 + (-1)))]) am dm_least_48 3 rfl ki_m1 [1, 2, 3, 0] rfl rfl rfl ?_
          refine ji_goto (q := 22) am dm_least_51 rfl ?_
          exact ih _ _
        · intro j47 hj47
          refine ji_if_eq (q := 42) (g := 46) am dm_least_39 rfl rfl ?_ ?_
          · refine ji_iload_n (q := 47) am dm_least_46 rfl 2 rfl rfl ?_
            exact ji_sub (lv' := [(0, .ref (ad_ z 11)), (1, .int c1), (3, .int x3)]) [0, 1, 3] rfl (hj47 _)
          · refine ji_iload_n (q := 43) am dm_least_42 rfl 3 rfl rfl ?_
            refine ji_goto (q := 47) am dm_least_43 rfl ?_
            exact ji_sub (lv' := [(0, .ref (ad_ z 11)), (1, .int c1), (3, .int x3)]) [0, 1, 3] rfl (hj47 _)
set_option maxHeartbeats 4000000 in
set_option maxRecDepth 100000 in
theorem ctm_least {v : wt_V} {t : wt_M} {a1 : Int32} {r : Int32} {t2 : wt_M} (s : wt_S) (o : Nat → Int64) (hF : fm_least t a1 = some (r, t2)) : ct_C v ym_least (Cond.code ym_least bm_least 4 (some .int)) 3 [.ref (v.2.1 11), .int a1] (some (.int r)) (s, t, o) (s, t2, o) := by
  refine ct_of (lv := [(0, .ref (v.2.1 11)), (1, .int a1)]) (fun r : Int32 × wt_M => some (.int r.1)) (fun r => (s, r.2, o)) (by decide) (Nat.le_of_ble_eq_true rfl) rfl ?_ (r, t2) hF
  intro z hz am
  subst hz
  have am : wt_Am z R_M bm_least 4 3 (some .int) := am
  show jj_J z 4 0 [(0, .ref (ad_ z 11)), (1, .int a1)] [] (s, t, o) (q_IT z s o) (fm_least t a1)
  unfold fm_least
  refine ji_aload_n (q := 1) am dm_least_0 rfl 0 rfl rfl ?_
  refine ji_iload_n (q := 2) am dm_least_1 rfl 1 rfl rfl ?_
  refine jk_I (q := 5) (rest := [.ref (ad_ z 11)]) (fun r hF => jr_S [.int a1] am ln_M_m_isRegister (ctm_isRegister _ _ _ hF) (by omega) rfl rfl (Nat.le_of_ble_eq_true rfl) dm_least_2) rfl ?_
  intro r2
  refine ji_jn2 (fun j => ∀ (y0_13 : Int32), jj_J z 4 13 [(0, .ref (ad_ z 11)), (1, .int a1)] [.int y0_13, .ref (ad_ z 11)] (s, t, o) (q_IT z s o) (j y0_13)) ?_ ?_
  · intro y0_13
    refine ji_put_M_code (q := 16) am dm_least_13 rfl ?_
    intro t13
    refine ji_iconst (q := 17) am dm_least_16 ki_m1 rfl ?_
    refine ji_istore_n (lv' := [(0, .ref (ad_ z 11)), (1, .int a1), (2, .int (-1 : Int32))]) (q := 18) am dm_least_17 rfl [1, 2, 0] rfl rfl rfl ?_
    refine ji_sipush (q := 21) am dm_least_18 ks_255 rfl ?_
    refine ji_istore_n (lv' := [(0, .ref (ad_ z 11)), (1, .int a1), (2, .int (-1 : Int32)), (3, .int (255 : Int32))]) (q := 22) am dm_least_21 rfl [1, 2, 3, 0] rfl rfl rfl ?_
    refine lm_least_22 am (fun z2_22 => ?_) 5000 _ _
    refine ji_aload_n (q := 55) am dm_least_54 rfl 0 rfl rfl ?_
    refine ji_get_M_code (q := 58) am dm_least_55 rfl ?_
    refine ji_jn2 (fun j => ∀ (y0_66 : Int32), jj_J z 4 66 [] [.int y0_66] (s, t13, o) (q_IT z s o) (j y0_66)) ?_ ?_
    · intro y0_66
      exact ji_iret am rfl dm_least_66 rfl rfl
    · intro j66 hj66
      refine ji_if_le (q := 61) (g := 65) am dm_least_58 rfl rfl ?_ ?_
      · refine ji_iload_n (q := 66) am dm_least_65 rfl 1 rfl rfl ?_
        exact ji_sub (lv' := []) [] rfl (hj66 _)
      · refine ji_iconst (q := 62) am dm_least_61 ki_0 rfl ?_
        refine ji_goto (q := 66) am dm_least_62 rfl ?_
        exact ji_sub (lv' := []) [] rfl (hj66 _)
  · intro j13 hj13
    refine ji_if_eq (q := 8) (g := 12) am dm_least_5 rfl rfl ?_ ?_
    · refine ji_iconst (q := 13) am dm_least_12 ki_1 rfl ?_
      exact hj13 _
    · refine ji_iconst (q := 9) am dm_least_8 ki_0 rfl ?_
      refine ji_goto (q := 13) am dm_least_9 rfl ?_
      exact hj13 _

theorem dm_dependsOn_0 : decode bm_dependsOn 0 = .ok (.iconst 0, 1) := by decide +kernel
theorem dm_dependsOn_1 : decode bm_dependsOn 1 = .ok (.istore_n 2, 1) := by decide +kernel
theorem dm_dependsOn_2 : decode bm_dependsOn 2 = .ok (.iconst 0, 1) := by decide +kernel
theorem dm_dependsOn_3 : decode bm_dependsOn 3 = .ok (.istore_n 3, 1) := by decide +kernel
theorem dm_dependsOn_4 : decode bm_dependsOn 4 = .ok (.iload_n 3, 1) := by decide +kernel
theorem dm_dependsOn_5 : decode bm_dependsOn 5 = .ok (.bipush 8, 2) := by decide +kernel
theorem dm_dependsOn_7 : decode bm_dependsOn 7 = .ok (.if_icmp .ge 57, 3) := by decide +kernel
theorem dm_dependsOn_10 : decode bm_dependsOn 10 = .ok (.iconst 0, 1) := by decide +kernel
theorem dm_dependsOn_11 : decode bm_dependsOn 11 = .ok (.istore 4, 2) := by decide +kernel
theorem dm_dependsOn_13 : decode bm_dependsOn 13 = .ok (.iload 4, 2) := by decide +kernel
theorem dm_dependsOn_15 : decode bm_dependsOn 15 = .ok (.sipush 256, 3) := by decide +kernel
theorem dm_dependsOn_18 : decode bm_dependsOn 18 = .ok (.if_icmp .ge 40, 3) := by decide +kernel
theorem dm_dependsOn_21 : decode bm_dependsOn 21 = .ok (.iload_n 2, 1) := by decide +kernel
theorem dm_dependsOn_22 : decode bm_dependsOn 22 = .ok (.aload_n 0, 1) := by decide +kernel
theorem dm_dependsOn_23 : decode bm_dependsOn 23 = .ok (.iload_n 1, 1) := by decide +kernel
theorem dm_dependsOn_24 : decode bm_dependsOn 24 = .ok (.iload 4, 2) := by decide +kernel
theorem dm_dependsOn_26 : decode bm_dependsOn 26 = .ok (.invokevirtual 76, 3) := by decide +kernel
theorem dm_dependsOn_29 : decode bm_dependsOn 29 = .ok (.aload_n 0, 1) := by decide +kernel
theorem dm_dependsOn_30 : decode bm_dependsOn 30 = .ok (.iload_n 1, 1) := by decide +kernel
theorem dm_dependsOn_31 : decode bm_dependsOn 31 = .ok (.iload 4, 2) := by decide +kernel
theorem dm_dependsOn_33 : decode bm_dependsOn 33 = .ok (.iconst 1, 1) := by decide +kernel
theorem dm_dependsOn_34 : decode bm_dependsOn 34 = .ok (.iload_n 3, 1) := by decide +kernel
theorem dm_dependsOn_35 : decode bm_dependsOn 35 = .ok (.ishl, 1) := by decide +kernel
theorem dm_dependsOn_36 : decode bm_dependsOn 36 = .ok (.ixor, 1) := by decide +kernel
theorem dm_dependsOn_37 : decode bm_dependsOn 37 = .ok (.invokevirtual 76, 3) := by decide +kernel
theorem dm_dependsOn_40 : decode bm_dependsOn 40 = .ok (.if_icmp .eq 9, 3) := by decide +kernel
theorem dm_dependsOn_43 : decode bm_dependsOn 43 = .ok (.iconst 1, 1) := by decide +kernel
theorem dm_dependsOn_44 : decode bm_dependsOn 44 = .ok (.iload_n 3, 1) := by decide +kernel
theorem dm_dependsOn_45 : decode bm_dependsOn 45 = .ok (.ishl, 1) := by decide +kernel
theorem dm_dependsOn_46 : decode bm_dependsOn 46 = .ok (.goto 4, 3) := by decide +kernel
theorem dm_dependsOn_49 : decode bm_dependsOn 49 = .ok (.iconst 0, 1) := by decide +kernel
theorem dm_dependsOn_50 : decode bm_dependsOn 50 = .ok (.ior, 1) := by decide +kernel
theorem dm_dependsOn_51 : decode bm_dependsOn 51 = .ok (.istore_n 2, 1) := by decide +kernel
theorem dm_dependsOn_52 : decode bm_dependsOn 52 = .ok (.iinc 4 1, 3) := by decide +kernel
theorem dm_dependsOn_55 : decode bm_dependsOn 55 = .ok (.goto (-42), 3) := by decide +kernel
theorem dm_dependsOn_58 : decode bm_dependsOn 58 = .ok (.iinc 3 1, 3) := by decide +kernel
theorem dm_dependsOn_61 : decode bm_dependsOn 61 = .ok (.goto (-57), 3) := by decide +kernel
theorem dm_dependsOn_64 : decode bm_dependsOn 64 = .ok (.iload_n 2, 1) := by decide +kernel
theorem dm_dependsOn_65 : decode bm_dependsOn 65 = .ok (.ireturn, 1) := by decide +kernel
set_option maxHeartbeats 4000000 in
set_option maxRecDepth 100000 in
theorem lm_dependsOn_13 {z : wt_Z} {s : wt_S} {t : wt_M} {o : Nat → Int64} {c1 : Int32} {c3 : Int32} {K : Int32 → Option (Int32)} (am : wt_Am z R_M bm_dependsOn 5 2 (some .int)) (hK : ∀ (e2 : Int32), jj_J z 5 58 [(0, .ref (ad_ z 11)), (1, .int c1), (2, .int e2), (3, .int c3)] [] (s, t, o) (q_I z s t o) (K e2)) : ∀ (n : Nat) (x2 : Int32) (x4 : Int32), jj_J z 5 13 [(0, .ref (ad_ z 11)), (1, .int c1), (2, .int x2), (3, .int c3), (4, .int x4)] [] (s, t, o) (q_I z s t o) (fm_dependsOn_L13 t c1 c3 K n x2 x4) := by
  intro n
  induction n with
  | zero =>
    intro x2 x4
    exact ji_none
  | succ n ih =>
    intro x2 x4
    rw [fm_dependsOn_L13]
    refine ji_iload (q := 15) am dm_dependsOn_13 4 rfl rfl ?_
    refine ji_sipush (q := 18) am dm_dependsOn_15 ks_256 rfl ?_
    refine ji_icmp_ge (q := 21) (g := 58) am dm_dependsOn_18 rfl rfl ?_ ?_
    · exact ji_sub (lv' := [(0, .ref (ad_ z 11)), (1, .int c1), (2, .int x2), (3, .int c3)]) [0, 1, 2, 3] rfl (hK _)
    · refine ji_iload_n (q := 22) am dm_dependsOn_21 rfl 2 rfl rfl ?_
      refine ji_aload_n (q := 23) am dm_dependsOn_22 rfl 0 rfl rfl ?_
      refine ji_iload_n (q := 24) am dm_dependsOn_23 rfl 1 rfl rfl ?_
      refine ji_iload (q := 26) am dm_dependsOn_24 4 rfl rfl ?_
      refine jk_I (q := 29) (rest := [.int x2]) (fun r hF => jr_V [.int c1, .int x4] am ln_M_m_value (ctm_value _ _ hF) (by omega) (rc_M am) rfl rfl (Nat.le_of_ble_eq_true rfl) dm_dependsOn_26) rfl ?_
      intro r26
      refine ji_aload_n (q := 30) am dm_dependsOn_29 rfl 0 rfl rfl ?_
      refine ji_iload_n (q := 31) am dm_dependsOn_30 rfl 1 rfl rfl ?_
      refine ji_iload (q := 33) am dm_dependsOn_31 4 rfl rfl ?_
      refine ji_iconst (q := 34) am dm_dependsOn_33 ki_1 rfl ?_
      refine ji_iload_n (q := 35) am dm_dependsOn_34 rfl 3 rfl rfl ?_
      refine ji_ishl (q := 36) am dm_dependsOn_35 rfl ?_
      refine ji_ixor (q := 37) am dm_dependsOn_36 rfl ?_
      refine jk_I (q := 40) (rest := [.int r26, .int x2]) (fun r hF => jr_V [.int c1, .int (x4 ^^^ ((1 : Int32) <<< (c3 &&& 31)))] am ln_M_m_value (ctm_value _ _ hF) (by omega) (rc_M am) rfl rfl (Nat.le_of_ble_eq_true rfl) dm_dependsOn_37) rfl ?_
      intro r37
      refine ji_jn2 (fun j => ∀ (y0_50 : Int32), jj_J z 5 50 [(0, .ref (ad_ z 11)), (1, .int c1), (3, .int c3), (4, .int x4)] [.int y0_50, .int x2] (s, t, o) (q_I z s t o) (j y0_50)) ?_ ?_
      · intro y0_50
        refine ji_ior (q := 51) am dm_dependsOn_50 rfl ?_
        refine ji_istore_n (lv' := [(0, .ref (ad_ z 11)), (1, .int c1), (2, .int (x2 ||| y0_50)), (3, .int c3), (4, .int x4)]) (q := 52) am dm_dependsOn_51 rfl [1, 2, 0, 3, 4] rfl rfl rfl ?_
        refine ji_iinc (q := 55) (lv' := [(0, .ref (ad_ z 11)), (1, .int c1), (2, .int (x2 ||| y0_50)), (3, .int c3), (4, .int (x4 + 1))]) am dm_dependsOn_52 4 rfl ki_1 [1, 2, 3, 4, 0] rfl rfl rfl ?_
        refine ji_goto (q := 13) am dm_dependsOn_55 rfl ?_
        exact ih _ _
      · intro j50 hj50
        refine ji_icmp_eq (q := 43) (g := 49) am dm_dependsOn_40 rfl rfl ?_ ?_
        · refine ji_iconst (q := 50) am dm_dependsOn_49 ki_0 rfl ?_
          exact ji_sub (lv' := [(0, .ref (ad_ z 11)), (1, .int c1), (3, .int c3), (4, .int x4)]) [0, 1, 3, 4] rfl (hj50 _)
        · refine ji_iconst (q := 44) am dm_dependsOn_43 ki_1 rfl ?_
          refine ji_iload_n (q := 45) am dm_dependsOn_44 rfl 3 rfl rfl ?_
          refine ji_ishl (q := 46) am dm_dependsOn_45 rfl ?_
          refine ji_goto (q := 50) am dm_dependsOn_46 rfl ?_
          exact ji_sub (lv' := [(0, .ref (ad_ z 11)), (1, .int c1), (3, .int c3), (4, .int x4)]) [0, 1, 3, 4] rfl (hj50 _)
set_option maxHeartbeats 4000000 in
set_option maxRecDepth 100000 in
theorem lm_dependsOn_4 {z : wt_Z} {s : wt_S} {t : wt_M} {o : Nat → Int64} {c1 : Int32} (am : wt_Am z R_M bm_dependsOn 5 2 (some .int)) : ∀ (n : Nat) (x2 : Int32) (x3 : Int32), jj_J z 5 4 [(0, .ref (ad_ z 11)), (1, .int c1), (2, .int x2), (3, .int x3)] [] (s, t, o) (q_I z s t o) (fm_dependsOn_L4 t c1 n x2 x3) := by
  intro n
  induction n with
  | zero =>
    intro x2 x3
    exact ji_none
  | succ n ih =>
    intro x2 x3
    rw [fm_dependsOn_L4]
    refine ji_iload_n (q := 5) am dm_dependsOn_4 rfl 3 rfl rfl ?_
    refine ji_bipush (q := 7) am dm_dependsOn_5 kb_8 rfl ?_
    refine ji_icmp_ge (q := 10) (g := 64) am dm_dependsOn_7 rfl rfl ?_ ?_
    · refine ji_iload_n (q := 65) am dm_dependsOn_64 rfl 2 rfl rfl ?_
      exact ji_iret am rfl dm_dependsOn_65 rfl rfl
    · refine ji_iconst (q := 11) am dm_dependsOn_10 ki_0 rfl ?_
      refine ji_istore (lv' := [(0, .ref (ad_ z 11)), (1, .int c1), (2, .int x2), (3, .int x3), (4, .int (0 : Int32))]) (q := 13) am dm_dependsOn_11 [1, 2, 3, 4, 0] rfl rfl rfl ?_
      refine lm_dependsOn_13 am (fun z2_13 => ?_) 5000 _ _
      refine ji_iinc (q := 61) (lv' := [(0, .ref (ad_ z 11)), (1, .int c1), (2, .int z2_13), (3, .int (x3 + 1))]) am dm_dependsOn_58 3 rfl ki_1 [1, 2, 3, 0] rfl rfl rfl ?_
      refine ji_goto (q := 4) am dm_dependsOn_61 rfl ?_
      exact ih _ _
set_option maxHeartbeats 4000000 in
set_option maxRecDepth 100000 in
theorem ctm_dependsOn {v : wt_V} {t : wt_M} {a1 : Int32} {r : Int32} (s : wt_S) (o : Nat → Int64) (hF : fm_dependsOn t a1 = some r) : ct_C v ym_dependsOn (Cond.code ym_dependsOn bm_dependsOn 5 (some .int)) 2 [.ref (v.2.1 11), .int a1] (some (.int r)) (s, t, o) (s, t, o) := by
  refine ct_of (lv := [(0, .ref (v.2.1 11)), (1, .int a1)]) (fun r : Int32 => some (.int r)) (fun _ => (s, t, o)) (by decide) (Nat.le_of_ble_eq_true rfl) rfl ?_ r hF
  intro z hz am
  subst hz
  have am : wt_Am z R_M bm_dependsOn 5 2 (some .int) := am
  show jj_J z 5 0 [(0, .ref (ad_ z 11)), (1, .int a1)] [] (s, t, o) (q_I z s t o) (fm_dependsOn t a1)
  unfold fm_dependsOn
  refine ji_iconst (q := 1) am dm_dependsOn_0 ki_0 rfl ?_
  refine ji_istore_n (lv' := [(0, .ref (ad_ z 11)), (1, .int a1), (2, .int (0 : Int32))]) (q := 2) am dm_dependsOn_1 rfl [1, 2, 0] rfl rfl rfl ?_
  refine ji_iconst (q := 3) am dm_dependsOn_2 ki_0 rfl ?_
  refine ji_istore_n (lv' := [(0, .ref (ad_ z 11)), (1, .int a1), (2, .int (0 : Int32)), (3, .int (0 : Int32))]) (q := 4) am dm_dependsOn_3 rfl [1, 2, 3, 0] rfl rfl rfl ?_
  exact lm_dependsOn_4 am 5000 _ _

theorem dm_depends_0 : decode bm_depends 0 = .ok (.aload_n 0, 1) := by decide +kernel
theorem dm_depends_1 : decode bm_depends 1 = .ok (.iload_n 1, 1) := by decide +kernel
theorem dm_depends_2 : decode bm_depends 2 = .ok (.invokestatic 58, 3) := by decide +kernel
theorem dm_depends_5 : decode bm_depends 5 = .ok (.ifCond .eq 7, 3) := by decide +kernel
theorem dm_depends_8 : decode bm_depends 8 = .ok (.iconst 0, 1) := by decide +kernel
theorem dm_depends_9 : decode bm_depends 9 = .ok (.goto 4, 3) := by decide +kernel
theorem dm_depends_12 : decode bm_depends 12 = .ok (.iconst 1, 1) := by decide +kernel
theorem dm_depends_13 : decode bm_depends 13 = .ok (.putfield 50, 3) := by decide +kernel
theorem dm_depends_16 : decode bm_depends 16 = .ok (.aload_n 0, 1) := by decide +kernel
theorem dm_depends_17 : decode bm_depends 17 = .ok (.getfield 50, 3) := by decide +kernel
theorem dm_depends_20 : decode bm_depends 20 = .ok (.ifCond .le 7, 3) := by decide +kernel
theorem dm_depends_23 : decode bm_depends 23 = .ok (.iconst 0, 1) := by decide +kernel
theorem dm_depends_24 : decode bm_depends 24 = .ok (.goto 8, 3) := by decide +kernel
theorem dm_depends_27 : decode bm_depends 27 = .ok (.aload_n 0, 1) := by decide +kernel
theorem dm_depends_28 : decode bm_depends 28 = .ok (.iload_n 1, 1) := by decide +kernel
theorem dm_depends_29 : decode bm_depends 29 = .ok (.invokevirtual 84, 3) := by decide +kernel
theorem dm_depends_32 : decode bm_depends 32 = .ok (.ireturn, 1) := by decide +kernel
set_option maxHeartbeats 4000000 in
set_option maxRecDepth 100000 in
theorem ctm_depends {v : wt_V} {t : wt_M} {a1 : Int32} {r : Int32} {t2 : wt_M} (s : wt_S) (o : Nat → Int64) (hF : fm_depends t a1 = some (r, t2)) : ct_C v ym_depends (Cond.code ym_depends bm_depends 2 (some .int)) 3 [.ref (v.2.1 11), .int a1] (some (.int r)) (s, t, o) (s, t2, o) := by
  refine ct_of (lv := [(0, .ref (v.2.1 11)), (1, .int a1)]) (fun r : Int32 × wt_M => some (.int r.1)) (fun r => (s, r.2, o)) (by decide) (Nat.le_of_ble_eq_true rfl) rfl ?_ (r, t2) hF
  intro z hz am
  subst hz
  have am : wt_Am z R_M bm_depends 2 3 (some .int) := am
  show jj_J z 2 0 [(0, .ref (ad_ z 11)), (1, .int a1)] [] (s, t, o) (q_IT z s o) (fm_depends t a1)
  unfold fm_depends
  refine ji_aload_n (q := 1) am dm_depends_0 rfl 0 rfl rfl ?_
  refine ji_iload_n (q := 2) am dm_depends_1 rfl 1 rfl rfl ?_
  refine jk_I (q := 5) (rest := [.ref (ad_ z 11)]) (fun r hF => jr_S [.int a1] am ln_M_m_isRegister (ctm_isRegister _ _ _ hF) (by omega) rfl rfl (Nat.le_of_ble_eq_true rfl) dm_depends_2) rfl ?_
  intro r2
  refine ji_jn2 (fun j => ∀ (y0_13 : Int32), jj_J z 2 13 [(0, .ref (ad_ z 11)), (1, .int a1)] [.int y0_13, .ref (ad_ z 11)] (s, t, o) (q_IT z s o) (j y0_13)) ?_ ?_
  · intro y0_13
    refine ji_put_M_code (q := 16) am dm_depends_13 rfl ?_
    intro t13
    refine ji_aload_n (q := 17) am dm_depends_16 rfl 0 rfl rfl ?_
    refine ji_get_M_code (q := 20) am dm_depends_17 rfl ?_
    refine ji_jn2 (fun j => ∀ (y0_32 : Int32), jj_J z 2 32 [] [.int y0_32] (s, t13, o) (q_IT z s o) (j y0_32)) ?_ ?_
    · intro y0_32
      exact ji_iret am rfl dm_depends_32 rfl rfl
    · intro j32 hj32
      refine ji_if_le (q := 23) (g := 27) am dm_depends_20 rfl rfl ?_ ?_
      · refine ji_aload_n (q := 28) am dm_depends_27 rfl 0 rfl rfl ?_
        refine ji_iload_n (q := 29) am dm_depends_28 rfl 1 rfl rfl ?_
        refine jk_I (q := 32) (rest := []) (fun r hF => jr_V [.int a1] am ln_M_m_dependsOn (ctm_dependsOn _ _ hF) (by omega) (rc_M am) rfl rfl (Nat.le_of_ble_eq_true rfl) dm_depends_29) rfl ?_
        intro r29
        exact ji_sub (lv' := []) [] rfl (hj32 _)
      · refine ji_iconst (q := 24) am dm_depends_23 ki_0 rfl ?_
        refine ji_goto (q := 32) am dm_depends_24 rfl ?_
        exact ji_sub (lv' := []) [] rfl (hj32 _)
  · intro j13 hj13
    refine ji_if_eq (q := 8) (g := 12) am dm_depends_5 rfl rfl ?_ ?_
    · refine ji_iconst (q := 13) am dm_depends_12 ki_1 rfl ?_
      exact hj13 _
    · refine ji_iconst (q := 9) am dm_depends_8 ki_0 rfl ?_
      refine ji_goto (q := 13) am dm_depends_9 rfl ?_
      exact hj13 _
