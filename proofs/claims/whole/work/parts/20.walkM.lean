/-! Walks of M.image, M.reach, M.until, M.always, M.formulaOf, M.check, M.astray: printed by my program out of the listing. -/
theorem dm_image_0 : decode bm_image 0 = .ok (.aload_n 0, 1) := by decide +kernel
theorem dm_image_1 : decode bm_image 1 = .ok (.iload_n 1, 1) := by decide +kernel
theorem dm_image_2 : decode bm_image 2 = .ok (.invokestatic 58, 3) := by decide +kernel
theorem dm_image_5 : decode bm_image 5 = .ok (.ifCond .eq 17, 3) := by decide +kernel
theorem dm_image_8 : decode bm_image 8 = .ok (.iload_n 2, 1) := by decide +kernel
theorem dm_image_9 : decode bm_image 9 = .ok (.invokestatic 58, 3) := by decide +kernel
theorem dm_image_12 : decode bm_image 12 = .ok (.ifCond .eq 10, 3) := by decide +kernel
theorem dm_image_15 : decode bm_image 15 = .ok (.iload_n 3, 1) := by decide +kernel
theorem dm_image_16 : decode bm_image 16 = .ok (.invokestatic 58, 3) := by decide +kernel
theorem dm_image_19 : decode bm_image 19 = .ok (.ifCond .ne 7, 3) := by decide +kernel
theorem dm_image_22 : decode bm_image 22 = .ok (.iconst 1, 1) := by decide +kernel
theorem dm_image_23 : decode bm_image 23 = .ok (.goto 16, 3) := by decide +kernel
theorem dm_image_26 : decode bm_image 26 = .ok (.aload_n 0, 1) := by decide +kernel
theorem dm_image_27 : decode bm_image 27 = .ok (.iload_n 3, 1) := by decide +kernel
theorem dm_image_28 : decode bm_image 28 = .ok (.invokevirtual 121, 3) := by decide +kernel
theorem dm_image_31 : decode bm_image 31 = .ok (.ifCond .eq 7, 3) := by decide +kernel
theorem dm_image_34 : decode bm_image 34 = .ok (.iconst 0, 1) := by decide +kernel
theorem dm_image_35 : decode bm_image 35 = .ok (.goto 4, 3) := by decide +kernel
theorem dm_image_38 : decode bm_image 38 = .ok (.iconst 2, 1) := by decide +kernel
theorem dm_image_39 : decode bm_image 39 = .ok (.putfield 50, 3) := by decide +kernel
theorem dm_image_42 : decode bm_image 42 = .ok (.aload_n 0, 1) := by decide +kernel
theorem dm_image_43 : decode bm_image 43 = .ok (.getfield 50, 3) := by decide +kernel
theorem dm_image_46 : decode bm_image 46 = .ok (.ifCond .le 5, 3) := by decide +kernel
theorem dm_image_49 : decode bm_image 49 = .ok (.iconst 0, 1) := by decide +kernel
theorem dm_image_50 : decode bm_image 50 = .ok (.ireturn, 1) := by decide +kernel
theorem dm_image_51 : decode bm_image 51 = .ok (.aload_n 0, 1) := by decide +kernel
theorem dm_image_52 : decode bm_image 52 = .ok (.iload_n 2, 1) := by decide +kernel
theorem dm_image_53 : decode bm_image 53 = .ok (.invokevirtual 124, 3) := by decide +kernel
theorem dm_image_56 : decode bm_image 56 = .ok (.aload_n 0, 1) := by decide +kernel
theorem dm_image_57 : decode bm_image 57 = .ok (.aload_n 0, 1) := by decide +kernel
theorem dm_image_58 : decode bm_image 58 = .ok (.iload_n 3, 1) := by decide +kernel
theorem dm_image_59 : decode bm_image 59 = .ok (.invokevirtual 127, 3) := by decide +kernel
theorem dm_image_62 : decode bm_image 62 = .ok (.invokevirtual 130, 3) := by decide +kernel
theorem dm_image_65 : decode bm_image 65 = .ok (.istore 4, 2) := by decide +kernel
theorem dm_image_67 : decode bm_image 67 = .ok (.aload_n 0, 1) := by decide +kernel
theorem dm_image_68 : decode bm_image 68 = .ok (.iload_n 1, 1) := by decide +kernel
theorem dm_image_69 : decode bm_image 69 = .ok (.iload 4, 2) := by decide +kernel
theorem dm_image_71 : decode bm_image 71 = .ok (.invokevirtual 133, 3) := by decide +kernel
theorem dm_image_74 : decode bm_image 74 = .ok (.iload 4, 2) := by decide +kernel
theorem dm_image_76 : decode bm_image 76 = .ok (.invokestatic 136, 3) := by decide +kernel
theorem dm_image_79 : decode bm_image 79 = .ok (.ireturn, 1) := by decide +kernel
set_option maxHeartbeats 4000000 in
set_option maxRecDepth 100000 in
theorem ctm_image {v : wt_V} {t : wt_M} {a1 : Int32} {a2 : Int32} {a3 : Int32} {r : Int32} {t2 : wt_M} (s : wt_S) (o : Nat → Int64) (hF : fm_image t a1 a2 a3 = some (r, t2)) : ct_C v ym_image (Cond.code ym_image bm_image 5 (some .int)) 4 [.ref (v.2.1 11), .int a1, .int a2, .int a3] (some (.int r)) (s, t, o) (s, t2, o) := by
  refine ct_of (lv := [(0, .ref (v.2.1 11)), (1, .int a1), (2, .int a2), (3, .int a3)]) (fun r : Int32 × wt_M => some (.int r.1)) (fun r => (s, r.2, o)) (by decide) (Nat.le_of_ble_eq_true rfl) rfl ?_ (r, t2) hF
  intro z hz am
  subst hz
  have am : wt_Am z R_M bm_image 5 4 (some .int) := am
  show jj_J z 5 0 [(0, .ref (ad_ z 11)), (1, .int a1), (2, .int a2), (3, .int a3)] [] (s, t, o) (q_IT z s o) (fm_image t a1 a2 a3)
  unfold fm_image
  refine ji_aload_n (q := 1) am dm_image_0 rfl 0 rfl rfl ?_
  refine ji_iload_n (q := 2) am dm_image_1 rfl 1 rfl rfl ?_
  refine jk_I (q := 5) (rest := [.ref (ad_ z 11)]) (fun r hF => jr_S [.int a1] am ln_M_m_isRegister (ctm_isRegister _ _ _ hF) (by omega) rfl rfl (Nat.le_of_ble_eq_true rfl) dm_image_2) rfl ?_
  intro r2
  refine ji_jn2 (fun j => ∀ (y0_39 : Int32), jj_J z 5 39 [(0, .ref (ad_ z 11)), (1, .int a1), (2, .int a2), (3, .int a3)] [.int y0_39, .ref (ad_ z 11)] (s, t, o) (q_IT z s o) (j y0_39)) ?_ ?_
  · intro y0_39
    refine ji_put_M_code (q := 42) am dm_image_39 rfl ?_
    intro t39
    refine ji_aload_n (q := 43) am dm_image_42 rfl 0 rfl rfl ?_
    refine ji_get_M_code (q := 46) am dm_image_43 rfl ?_
    refine ji_if_le (q := 49) (g := 51) am dm_image_46 rfl rfl ?_ ?_
    · refine ji_aload_n (q := 52) am dm_image_51 rfl 0 rfl rfl ?_
      refine ji_iload_n (q := 53) am dm_image_52 rfl 2 rfl rfl ?_
      refine jk_T (q := 56) (rest := []) (fun t2 hF => jr_V [.int a2] am ln_M_m_learnSteps (ctm_learnSteps _ _ hF) (by omega) (rc_M am) rfl rfl (Nat.le_of_ble_eq_true rfl) dm_image_53) rfl ?_
      intro t53
      refine ji_aload_n (q := 57) am dm_image_56 rfl 0 rfl rfl ?_
      refine ji_aload_n (q := 58) am dm_image_57 rfl 0 rfl rfl ?_
      refine ji_iload_n (q := 59) am dm_image_58 rfl 3 rfl rfl ?_
      refine jk_I (q := 62) (rest := [.ref (ad_ z 11)]) (fun r hF => jr_V [.int a3] am ln_M_m_statesOf (ctm_statesOf _ _ hF) (by omega) (rc_M am) rfl rfl (Nat.le_of_ble_eq_true rfl) dm_image_59) rfl ?_
      intro r59
      refine jk_I (q := 65) (rest := []) (fun r hF => jr_V [.int r59] am ln_M_m_imageOf (ctm_imageOf _ _ hF) (by omega) (rc_M am) rfl rfl (Nat.le_of_ble_eq_true rfl) dm_image_62) rfl ?_
      intro r62
      refine ji_istore (lv' := [(0, .ref (ad_ z 11)), (1, .int a1), (2, .int a2), (3, .int a3), (4, .int r62)]) (q := 67) am dm_image_65 [1, 2, 3, 4, 0] rfl rfl rfl ?_
      refine ji_aload_n (q := 68) am dm_image_67 rfl 0 rfl rfl ?_
      refine ji_iload_n (q := 69) am dm_image_68 rfl 1 rfl rfl ?_
      refine ji_iload (q := 71) am dm_image_69 4 rfl rfl ?_
      refine jk_T (q := 74) (rest := []) (fun t2 hF => jr_V [.int a1, .int r62] am ln_M_m_keepStates (ctm_keepStates _ _ hF) (by omega) (rc_M am) rfl rfl (Nat.le_of_ble_eq_true rfl) dm_image_71) rfl ?_
      intro t71
      refine ji_iload (q := 76) am dm_image_74 4 rfl rfl ?_
      refine jk_I (q := 79) (rest := []) (fun r hF => jr_S [.int r62] am ln_M_m_sizeOf (ctm_sizeOf _ _ _ hF) (by omega) rfl rfl (Nat.le_of_ble_eq_true rfl) dm_image_76) rfl ?_
      intro r76
      exact ji_iret am rfl dm_image_79 rfl rfl
    · refine ji_iconst (q := 50) am dm_image_49 ki_0 rfl ?_
      exact ji_iret am rfl dm_image_50 rfl rfl
  · intro j39 hj39
    refine ji_jn2 (fun j => ∀ (u22 : Unit), jj_J z 5 22 [(0, .ref (ad_ z 11)), (1, .int a1), (2, .int a2), (3, .int a3)] [.ref (ad_ z 11)] (s, t, o) (q_IT z s o) (j u22)) ?_ ?_
    · intro u22
      refine ji_iconst (q := 23) am dm_image_22 ki_1 rfl ?_
      refine ji_goto (q := 39) am dm_image_23 rfl ?_
      exact hj39 _
    · intro j22 hj22
      refine ji_if_eq (q := 8) (g := 22) am dm_image_5 rfl rfl ?_ ?_
      · exact hj22 _
      · refine ji_iload_n (q := 9) am dm_image_8 rfl 2 rfl rfl ?_
        refine jk_I (q := 12) (rest := [.ref (ad_ z 11)]) (fun r hF => jr_S [.int a2] am ln_M_m_isRegister (ctm_isRegister _ _ _ hF) (by omega) rfl rfl (Nat.le_of_ble_eq_true rfl) dm_image_9) rfl ?_
        intro r9
        refine ji_if_eq (q := 15) (g := 22) am dm_image_12 rfl rfl ?_ ?_
        · exact hj22 _
        · refine ji_iload_n (q := 16) am dm_image_15 rfl 3 rfl rfl ?_
          refine jk_I (q := 19) (rest := [.ref (ad_ z 11)]) (fun r hF => jr_S [.int a3] am ln_M_m_isRegister (ctm_isRegister _ _ _ hF) (by omega) rfl rfl (Nat.le_of_ble_eq_true rfl) dm_image_16) rfl ?_
          intro r16
          refine ji_if_ne (q := 22) (g := 26) am dm_image_19 rfl rfl ?_ ?_
          · refine ji_aload_n (q := 27) am dm_image_26 rfl 0 rfl rfl ?_
            refine ji_iload_n (q := 28) am dm_image_27 rfl 3 rfl rfl ?_
            refine jk_I (q := 31) (rest := [.ref (ad_ z 11)]) (fun r hF => jr_V [.int a3] am ln_M_m_isSet (ctm_isSet _ _ hF) (by omega) (rc_M am) rfl rfl (Nat.le_of_ble_eq_true rfl) dm_image_28) rfl ?_
            intro r28
            refine ji_if_eq (q := 34) (g := 38) am dm_image_31 rfl rfl ?_ ?_
            · refine ji_iconst (q := 39) am dm_image_38 ki_2 rfl ?_
              exact hj39 _
            · refine ji_iconst (q := 35) am dm_image_34 ki_0 rfl ?_
              refine ji_goto (q := 39) am dm_image_35 rfl ?_
              exact hj39 _
          · exact hj22 _

theorem dm_reach_0 : decode bm_reach 0 = .ok (.aload_n 0, 1) := by decide +kernel
theorem dm_reach_1 : decode bm_reach 1 = .ok (.iload_n 1, 1) := by decide +kernel
theorem dm_reach_2 : decode bm_reach 2 = .ok (.invokestatic 58, 3) := by decide +kernel
theorem dm_reach_5 : decode bm_reach 5 = .ok (.ifCond .eq 17, 3) := by decide +kernel
theorem dm_reach_8 : decode bm_reach 8 = .ok (.iload_n 2, 1) := by decide +kernel
theorem dm_reach_9 : decode bm_reach 9 = .ok (.invokestatic 58, 3) := by decide +kernel
theorem dm_reach_12 : decode bm_reach 12 = .ok (.ifCond .eq 10, 3) := by decide +kernel
theorem dm_reach_15 : decode bm_reach 15 = .ok (.iload_n 3, 1) := by decide +kernel
theorem dm_reach_16 : decode bm_reach 16 = .ok (.invokestatic 58, 3) := by decide +kernel
theorem dm_reach_19 : decode bm_reach 19 = .ok (.ifCond .ne 7, 3) := by decide +kernel
theorem dm_reach_22 : decode bm_reach 22 = .ok (.iconst 1, 1) := by decide +kernel
theorem dm_reach_23 : decode bm_reach 23 = .ok (.goto 16, 3) := by decide +kernel
theorem dm_reach_26 : decode bm_reach 26 = .ok (.aload_n 0, 1) := by decide +kernel
theorem dm_reach_27 : decode bm_reach 27 = .ok (.iload_n 3, 1) := by decide +kernel
theorem dm_reach_28 : decode bm_reach 28 = .ok (.invokevirtual 121, 3) := by decide +kernel
theorem dm_reach_31 : decode bm_reach 31 = .ok (.ifCond .eq 7, 3) := by decide +kernel
theorem dm_reach_34 : decode bm_reach 34 = .ok (.iconst 0, 1) := by decide +kernel
theorem dm_reach_35 : decode bm_reach 35 = .ok (.goto 4, 3) := by decide +kernel
theorem dm_reach_38 : decode bm_reach 38 = .ok (.iconst 2, 1) := by decide +kernel
theorem dm_reach_39 : decode bm_reach 39 = .ok (.putfield 50, 3) := by decide +kernel
theorem dm_reach_42 : decode bm_reach 42 = .ok (.aload_n 0, 1) := by decide +kernel
theorem dm_reach_43 : decode bm_reach 43 = .ok (.getfield 50, 3) := by decide +kernel
theorem dm_reach_46 : decode bm_reach 46 = .ok (.ifCond .le 5, 3) := by decide +kernel
theorem dm_reach_49 : decode bm_reach 49 = .ok (.iconst 0, 1) := by decide +kernel
theorem dm_reach_50 : decode bm_reach 50 = .ok (.ireturn, 1) := by decide +kernel
theorem dm_reach_51 : decode bm_reach 51 = .ok (.aload_n 0, 1) := by decide +kernel
theorem dm_reach_52 : decode bm_reach 52 = .ok (.iload_n 2, 1) := by decide +kernel
theorem dm_reach_53 : decode bm_reach 53 = .ok (.invokevirtual 124, 3) := by decide +kernel
theorem dm_reach_56 : decode bm_reach 56 = .ok (.aload_n 0, 1) := by decide +kernel
theorem dm_reach_57 : decode bm_reach 57 = .ok (.iload_n 3, 1) := by decide +kernel
theorem dm_reach_58 : decode bm_reach 58 = .ok (.invokevirtual 127, 3) := by decide +kernel
theorem dm_reach_61 : decode bm_reach 61 = .ok (.istore 4, 2) := by decide +kernel
theorem dm_reach_63 : decode bm_reach 63 = .ok (.iconst 0, 1) := by decide +kernel
theorem dm_reach_64 : decode bm_reach 64 = .ok (.istore 5, 2) := by decide +kernel
theorem dm_reach_66 : decode bm_reach 66 = .ok (.aload_n 0, 1) := by decide +kernel
theorem dm_reach_67 : decode bm_reach 67 = .ok (.iload 4, 2) := by decide +kernel
theorem dm_reach_69 : decode bm_reach 69 = .ok (.invokevirtual 130, 3) := by decide +kernel
theorem dm_reach_72 : decode bm_reach 72 = .ok (.iload 4, 2) := by decide +kernel
theorem dm_reach_74 : decode bm_reach 74 = .ok (.iconst (-1), 1) := by decide +kernel
theorem dm_reach_75 : decode bm_reach 75 = .ok (.ixor, 1) := by decide +kernel
theorem dm_reach_76 : decode bm_reach 76 = .ok (.iand, 1) := by decide +kernel
theorem dm_reach_77 : decode bm_reach 77 = .ok (.ifCond .eq 20, 3) := by decide +kernel
theorem dm_reach_80 : decode bm_reach 80 = .ok (.iload 4, 2) := by decide +kernel
theorem dm_reach_82 : decode bm_reach 82 = .ok (.aload_n 0, 1) := by decide +kernel
theorem dm_reach_83 : decode bm_reach 83 = .ok (.iload 4, 2) := by decide +kernel
theorem dm_reach_85 : decode bm_reach 85 = .ok (.invokevirtual 130, 3) := by decide +kernel
theorem dm_reach_88 : decode bm_reach 88 = .ok (.ior, 1) := by decide +kernel
theorem dm_reach_89 : decode bm_reach 89 = .ok (.istore 4, 2) := by decide +kernel
theorem dm_reach_91 : decode bm_reach 91 = .ok (.iinc 5 1, 3) := by decide +kernel
theorem dm_reach_94 : decode bm_reach 94 = .ok (.goto (-28), 3) := by decide +kernel
theorem dm_reach_97 : decode bm_reach 97 = .ok (.aload_n 0, 1) := by decide +kernel
theorem dm_reach_98 : decode bm_reach 98 = .ok (.iload_n 1, 1) := by decide +kernel
theorem dm_reach_99 : decode bm_reach 99 = .ok (.iload 4, 2) := by decide +kernel
theorem dm_reach_101 : decode bm_reach 101 = .ok (.invokevirtual 133, 3) := by decide +kernel
theorem dm_reach_104 : decode bm_reach 104 = .ok (.iload 5, 2) := by decide +kernel
theorem dm_reach_106 : decode bm_reach 106 = .ok (.ireturn, 1) := by decide +kernel
set_option maxHeartbeats 4000000 in
set_option maxRecDepth 100000 in
theorem lm_reach_66 {z : wt_Z} {s : wt_S} {t : wt_M} {o : Nat → Int64} {c1 : Int32} {K : Int32 → Int32 → Option (Int32 × wt_M)} (am : wt_Am z R_M bm_reach 6 4 (some .int)) (hK : ∀ (e4 : Int32) (e5 : Int32), jj_J z 6 97 [(0, .ref (ad_ z 11)), (1, .int c1), (4, .int e4), (5, .int e5)] [] (s, t, o) (q_IT z s o) (K e4 e5)) : ∀ (n : Nat) (x4 : Int32) (x5 : Int32), jj_J z 6 66 [(0, .ref (ad_ z 11)), (1, .int c1), (4, .int x4), (5, .int x5)] [] (s, t, o) (q_IT z s o) (fm_reach_L66 t c1 K n x4 x5) := by
  intro n
  induction n with
  | zero =>
    intro x4 x5
    exact ji_none
  | succ n ih =>
    intro x4 x5
    rw [fm_reach_L66]
    refine ji_aload_n (q := 67) am dm_reach_66 rfl 0 rfl rfl ?_
    refine ji_iload (q := 69) am dm_reach_67 2 rfl rfl ?_
    refine jk_I (q := 72) (rest := []) (fun r hF => jr_V [.int x4] am ln_M_m_imageOf (ctm_imageOf _ _ hF) (by omega) (rc_M am) rfl rfl (Nat.le_of_ble_eq_true rfl) dm_reach_69) rfl ?_
    intro r69
    refine ji_iload (q := 74) am dm_reach_72 2 rfl rfl ?_
    refine ji_iconst (q := 75) am dm_reach_74 ki_m1 rfl ?_
    refine ji_ixor (q := 76) am dm_reach_75 rfl ?_
    refine ji_iand (q := 77) am dm_reach_76 rfl ?_
    refine ji_if_eq (q := 80) (g := 97) am dm_reach_77 rfl rfl ?_ ?_
    · exact hK _ _
    · refine ji_iload (q := 82) am dm_reach_80 2 rfl rfl ?_
      refine ji_aload_n (q := 83) am dm_reach_82 rfl 0 rfl rfl ?_
      refine ji_iload (q := 85) am dm_reach_83 2 rfl rfl ?_
      refine jk_I (q := 88) (rest := [.int x4]) (fun r hF => jr_V [.int x4] am ln_M_m_imageOf (ctm_imageOf _ _ hF) (by omega) (rc_M am) rfl rfl (Nat.le_of_ble_eq_true rfl) dm_reach_85) rfl ?_
      intro r85
      refine ji_ior (q := 89) am dm_reach_88 rfl ?_
      refine ji_istore (lv' := [(0, .ref (ad_ z 11)), (1, .int c1), (4, .int (x4 ||| r85)), (5, .int x5)]) (q := 91) am dm_reach_89 [1, 2, 0, 3] rfl rfl rfl ?_
      refine ji_iinc (q := 94) (lv' := [(0, .ref (ad_ z 11)), (1, .int c1), (4, .int (x4 ||| r85)), (5, .int (x5 + 1))]) am dm_reach_91 3 rfl ki_1 [1, 2, 3, 0] rfl rfl rfl ?_
      refine ji_goto (q := 66) am dm_reach_94 rfl ?_
      exact ih _ _
set_option maxHeartbeats 4000000 in
set_option maxRecDepth 100000 in
theorem ctm_reach {v : wt_V} {t : wt_M} {a1 : Int32} {a2 : Int32} {a3 : Int32} {r : Int32} {t2 : wt_M} (s : wt_S) (o : Nat → Int64) (hF : fm_reach t a1 a2 a3 = some (r, t2)) : ct_C v ym_reach (Cond.code ym_reach bm_reach 6 (some .int)) 4 [.ref (v.2.1 11), .int a1, .int a2, .int a3] (some (.int r)) (s, t, o) (s, t2, o) := by
  refine ct_of (lv := [(0, .ref (v.2.1 11)), (1, .int a1), (2, .int a2), (3, .int a3)]) (fun r : Int32 × wt_M => some (.int r.1)) (fun r => (s, r.2, o)) (by decide) (Nat.le_of_ble_eq_true rfl) rfl ?_ (r, t2) hF
  intro z hz am
  subst hz
  have am : wt_Am z R_M bm_reach 6 4 (some .int) := am
  show jj_J z 6 0 [(0, .ref (ad_ z 11)), (1, .int a1), (2, .int a2), (3, .int a3)] [] (s, t, o) (q_IT z s o) (fm_reach t a1 a2 a3)
  unfold fm_reach
  refine ji_aload_n (q := 1) am dm_reach_0 rfl 0 rfl rfl ?_
  refine ji_iload_n (q := 2) am dm_reach_1 rfl 1 rfl rfl ?_
  refine jk_I (q := 5) (rest := [.ref (ad_ z 11)]) (fun r hF => jr_S [.int a1] am ln_M_m_isRegister (ctm_isRegister _ _ _ hF) (by omega) rfl rfl (Nat.le_of_ble_eq_true rfl) dm_reach_2) rfl ?_
  intro r2
  refine ji_jn2 (fun j => ∀ (y0_39 : Int32), jj_J z 6 39 [(0, .ref (ad_ z 11)), (1, .int a1), (2, .int a2), (3, .int a3)] [.int y0_39, .ref (ad_ z 11)] (s, t, o) (q_IT z s o) (j y0_39)) ?_ ?_
  · intro y0_39
    refine ji_put_M_code (q := 42) am dm_reach_39 rfl ?_
    intro t39
    refine ji_aload_n (q := 43) am dm_reach_42 rfl 0 rfl rfl ?_
    refine ji_get_M_code (q := 46) am dm_reach_43 rfl ?_
    refine ji_if_le (q := 49) (g := 51) am dm_reach_46 rfl rfl ?_ ?_
    · refine ji_aload_n (q := 52) am dm_reach_51 rfl 0 rfl rfl ?_
      refine ji_iload_n (q := 53) am dm_reach_52 rfl 2 rfl rfl ?_
      refine jk_T (q := 56) (rest := []) (fun t2 hF => jr_V [.int a2] am ln_M_m_learnSteps (ctm_learnSteps _ _ hF) (by omega) (rc_M am) rfl rfl (Nat.le_of_ble_eq_true rfl) dm_reach_53) rfl ?_
      intro t53
      refine ji_aload_n (q := 57) am dm_reach_56 rfl 0 rfl rfl ?_
      refine ji_iload_n (q := 58) am dm_reach_57 rfl 3 rfl rfl ?_
      refine jk_I (q := 61) (rest := []) (fun r hF => jr_V [.int a3] am ln_M_m_statesOf (ctm_statesOf _ _ hF) (by omega) (rc_M am) rfl rfl (Nat.le_of_ble_eq_true rfl) dm_reach_58) rfl ?_
      intro r58
      refine ji_istore (lv' := [(0, .ref (ad_ z 11)), (1, .int a1), (2, .int a2), (3, .int a3), (4, .int r58)]) (q := 63) am dm_reach_61 [1, 2, 3, 4, 0] rfl rfl rfl ?_
      refine ji_iconst (q := 64) am dm_reach_63 ki_0 rfl ?_
      refine ji_istore (lv' := [(0, .ref (ad_ z 11)), (1, .int a1), (2, .int a2), (3, .int a3), (4, .int r58), (5, .int (0 : Int32))]) (q := 66) am dm_reach_64 [1, 2, 3, 4, 5, 0] rfl rfl rfl ?_
      refine ji_sub (lv' := [(0, .ref (ad_ z 11)), (1, .int a1), (4, .int r58), (5, .int (0 : Int32))]) [0, 1, 4, 5] rfl (lm_reach_66 am (fun z4_66 z5_66 => ?_) 5000 _ _)
      refine ji_aload_n (q := 98) am dm_reach_97 rfl 0 rfl rfl ?_
      refine ji_iload_n (q := 99) am dm_reach_98 rfl 1 rfl rfl ?_
      refine ji_iload (q := 101) am dm_reach_99 2 rfl rfl ?_
      refine jk_T (q := 104) (rest := []) (fun t2 hF => jr_V [.int a1, .int z4_66] am ln_M_m_keepStates (ctm_keepStates _ _ hF) (by omega) (rc_M am) rfl rfl (Nat.le_of_ble_eq_true rfl) dm_reach_101) rfl ?_
      intro t101
      refine ji_iload (q := 106) am dm_reach_104 3 rfl rfl ?_
      exact ji_iret am rfl dm_reach_106 rfl rfl
    · refine ji_iconst (q := 50) am dm_reach_49 ki_0 rfl ?_
      exact ji_iret am rfl dm_reach_50 rfl rfl
  · intro j39 hj39
    refine ji_jn2 (fun j => ∀ (u22 : Unit), jj_J z 6 22 [(0, .ref (ad_ z 11)), (1, .int a1), (2, .int a2), (3, .int a3)] [.ref (ad_ z 11)] (s, t, o) (q_IT z s o) (j u22)) ?_ ?_
    · intro u22
      refine ji_iconst (q := 23) am dm_reach_22 ki_1 rfl ?_
      refine ji_goto (q := 39) am dm_reach_23 rfl ?_
      exact hj39 _
    · intro j22 hj22
      refine ji_if_eq (q := 8) (g := 22) am dm_reach_5 rfl rfl ?_ ?_
      · exact hj22 _
      · refine ji_iload_n (q := 9) am dm_reach_8 rfl 2 rfl rfl ?_
        refine jk_I (q := 12) (rest := [.ref (ad_ z 11)]) (fun r hF => jr_S [.int a2] am ln_M_m_isRegister (ctm_isRegister _ _ _ hF) (by omega) rfl rfl (Nat.le_of_ble_eq_true rfl) dm_reach_9) rfl ?_
        intro r9
        refine ji_if_eq (q := 15) (g := 22) am dm_reach_12 rfl rfl ?_ ?_
        · exact hj22 _
        · refine ji_iload_n (q := 16) am dm_reach_15 rfl 3 rfl rfl ?_
          refine jk_I (q := 19) (rest := [.ref (ad_ z 11)]) (fun r hF => jr_S [.int a3] am ln_M_m_isRegister (ctm_isRegister _ _ _ hF) (by omega) rfl rfl (Nat.le_of_ble_eq_true rfl) dm_reach_16) rfl ?_
          intro r16
          refine ji_if_ne (q := 22) (g := 26) am dm_reach_19 rfl rfl ?_ ?_
          · refine ji_aload_n (q := 27) am dm_reach_26 rfl 0 rfl rfl ?_
            refine ji_iload_n (q := 28) am dm_reach_27 rfl 3 rfl rfl ?_
            refine jk_I (q := 31) (rest := [.ref (ad_ z 11)]) (fun r hF => jr_V [.int a3] am ln_M_m_isSet (ctm_isSet _ _ hF) (by omega) (rc_M am) rfl rfl (Nat.le_of_ble_eq_true rfl) dm_reach_28) rfl ?_
            intro r28
            refine ji_if_eq (q := 34) (g := 38) am dm_reach_31 rfl rfl ?_ ?_
            · refine ji_iconst (q := 39) am dm_reach_38 ki_2 rfl ?_
              exact hj39 _
            · refine ji_iconst (q := 35) am dm_reach_34 ki_0 rfl ?_
              refine ji_goto (q := 39) am dm_reach_35 rfl ?_
              exact hj39 _
          · exact hj22 _

theorem dm_until_0 : decode bm_until 0 = .ok (.iload_n 2, 1) := by decide +kernel
theorem dm_until_1 : decode bm_until 1 = .ok (.istore_n 3, 1) := by decide +kernel
theorem dm_until_2 : decode bm_until 2 = .ok (.iconst 0, 1) := by decide +kernel
theorem dm_until_3 : decode bm_until 3 = .ok (.istore 4, 2) := by decide +kernel
theorem dm_until_5 : decode bm_until 5 = .ok (.iload 4, 2) := by decide +kernel
theorem dm_until_7 : decode bm_until 7 = .ok (.bipush 16, 2) := by decide +kernel
theorem dm_until_9 : decode bm_until 9 = .ok (.if_icmp .ge 19, 3) := by decide +kernel
theorem dm_until_12 : decode bm_until 12 = .ok (.iload_n 3, 1) := by decide +kernel
theorem dm_until_13 : decode bm_until 13 = .ok (.iload_n 1, 1) := by decide +kernel
theorem dm_until_14 : decode bm_until 14 = .ok (.aload_n 0, 1) := by decide +kernel
theorem dm_until_15 : decode bm_until 15 = .ok (.iload_n 3, 1) := by decide +kernel
theorem dm_until_16 : decode bm_until 16 = .ok (.invokevirtual 139, 3) := by decide +kernel
theorem dm_until_19 : decode bm_until 19 = .ok (.iand, 1) := by decide +kernel
theorem dm_until_20 : decode bm_until 20 = .ok (.ior, 1) := by decide +kernel
theorem dm_until_21 : decode bm_until 21 = .ok (.istore_n 3, 1) := by decide +kernel
theorem dm_until_22 : decode bm_until 22 = .ok (.iinc 4 1, 3) := by decide +kernel
theorem dm_until_25 : decode bm_until 25 = .ok (.goto (-20), 3) := by decide +kernel
theorem dm_until_28 : decode bm_until 28 = .ok (.iload_n 3, 1) := by decide +kernel
theorem dm_until_29 : decode bm_until 29 = .ok (.ireturn, 1) := by decide +kernel
set_option maxHeartbeats 4000000 in
set_option maxRecDepth 100000 in
theorem lm_until_5 {z : wt_Z} {s : wt_S} {t : wt_M} {o : Nat → Int64} {c1 : Int32} (am : wt_Am z R_M bm_until 5 2 (some .int)) : ∀ (n : Nat) (x3 : Int32) (x4 : Int32), jj_J z 5 5 [(0, .ref (ad_ z 11)), (1, .int c1), (3, .int x3), (4, .int x4)] [] (s, t, o) (q_I z s t o) (fm_until_L5 t c1 n x3 x4) := by
  intro n
  induction n with
  | zero =>
    intro x3 x4
    exact ji_none
  | succ n ih =>
    intro x3 x4
    rw [fm_until_L5]
    refine ji_iload (q := 7) am dm_until_5 3 rfl rfl ?_
    refine ji_bipush (q := 9) am dm_until_7 kb_16 rfl ?_
    refine ji_icmp_ge (q := 12) (g := 28) am dm_until_9 rfl rfl ?_ ?_
    · refine ji_iload_n (q := 29) am dm_until_28 rfl 2 rfl rfl ?_
      exact ji_iret am rfl dm_until_29 rfl rfl
    · refine ji_iload_n (q := 13) am dm_until_12 rfl 2 rfl rfl ?_
      refine ji_iload_n (q := 14) am dm_until_13 rfl 1 rfl rfl ?_
      refine ji_aload_n (q := 15) am dm_until_14 rfl 0 rfl rfl ?_
      refine ji_iload_n (q := 16) am dm_until_15 rfl 2 rfl rfl ?_
      refine jk_I (q := 19) (rest := [.int c1, .int x3]) (fun r hF => jr_V [.int x3] am ln_M_m_stepsTo (ctm_stepsTo _ _ hF) (by omega) (rc_M am) rfl rfl (Nat.le_of_ble_eq_true rfl) dm_until_16) rfl ?_
      intro r16
      refine ji_iand (q := 20) am dm_until_19 rfl ?_
      refine ji_ior (q := 21) am dm_until_20 rfl ?_
      refine ji_istore_n (lv' := [(0, .ref (ad_ z 11)), (1, .int c1), (3, .int (x3 ||| (c1 &&& r16))), (4, .int x4)]) (q := 22) am dm_until_21 rfl [1, 2, 0, 3] rfl rfl rfl ?_
      refine ji_iinc (q := 25) (lv' := [(0, .ref (ad_ z 11)), (1, .int c1), (3, .int (x3 ||| (c1 &&& r16))), (4, .int (x4 + 1))]) am dm_until_22 3 rfl ki_1 [1, 2, 3, 0] rfl rfl rfl ?_
      refine ji_goto (q := 5) am dm_until_25 rfl ?_
      exact ih _ _
set_option maxHeartbeats 4000000 in
set_option maxRecDepth 100000 in
theorem ctm_until {v : wt_V} {t : wt_M} {a1 : Int32} {a2 : Int32} {r : Int32} (s : wt_S) (o : Nat → Int64) (hF : fm_until t a1 a2 = some r) : ct_C v ym_until (Cond.code ym_until bm_until 5 (some .int)) 2 [.ref (v.2.1 11), .int a1, .int a2] (some (.int r)) (s, t, o) (s, t, o) := by
  refine ct_of (lv := [(0, .ref (v.2.1 11)), (1, .int a1), (2, .int a2)]) (fun r : Int32 => some (.int r)) (fun _ => (s, t, o)) (by decide) (Nat.le_of_ble_eq_true rfl) rfl ?_ r hF
  intro z hz am
  subst hz
  have am : wt_Am z R_M bm_until 5 2 (some .int) := am
  show jj_J z 5 0 [(0, .ref (ad_ z 11)), (1, .int a1), (2, .int a2)] [] (s, t, o) (q_I z s t o) (fm_until t a1 a2)
  unfold fm_until
  refine ji_iload_n (q := 1) am dm_until_0 rfl 2 rfl rfl ?_
  refine ji_istore_n (lv' := [(0, .ref (ad_ z 11)), (1, .int a1), (2, .int a2), (3, .int a2)]) (q := 2) am dm_until_1 rfl [1, 2, 3, 0] rfl rfl rfl ?_
  refine ji_iconst (q := 3) am dm_until_2 ki_0 rfl ?_
  refine ji_istore (lv' := [(0, .ref (ad_ z 11)), (1, .int a1), (2, .int a2), (3, .int a2), (4, .int (0 : Int32))]) (q := 5) am dm_until_3 [1, 2, 3, 4, 0] rfl rfl rfl ?_
  exact ji_sub (lv' := [(0, .ref (ad_ z 11)), (1, .int a1), (3, .int a2), (4, .int (0 : Int32))]) [0, 1, 3, 4] rfl (lm_until_5 am 5000 _ _)

theorem dm_always_0 : decode bm_always 0 = .ok (.iload_n 1, 1) := by decide +kernel
theorem dm_always_1 : decode bm_always 1 = .ok (.istore_n 2, 1) := by decide +kernel
theorem dm_always_2 : decode bm_always 2 = .ok (.iconst 0, 1) := by decide +kernel
theorem dm_always_3 : decode bm_always 3 = .ok (.istore_n 3, 1) := by decide +kernel
theorem dm_always_4 : decode bm_always 4 = .ok (.iload_n 3, 1) := by decide +kernel
theorem dm_always_5 : decode bm_always 5 = .ok (.bipush 16, 2) := by decide +kernel
theorem dm_always_7 : decode bm_always 7 = .ok (.if_icmp .ge 17, 3) := by decide +kernel
theorem dm_always_10 : decode bm_always 10 = .ok (.iload_n 2, 1) := by decide +kernel
theorem dm_always_11 : decode bm_always 11 = .ok (.aload_n 0, 1) := by decide +kernel
theorem dm_always_12 : decode bm_always 12 = .ok (.iload_n 2, 1) := by decide +kernel
theorem dm_always_13 : decode bm_always 13 = .ok (.invokevirtual 139, 3) := by decide +kernel
theorem dm_always_16 : decode bm_always 16 = .ok (.iand, 1) := by decide +kernel
theorem dm_always_17 : decode bm_always 17 = .ok (.istore_n 2, 1) := by decide +kernel
theorem dm_always_18 : decode bm_always 18 = .ok (.iinc 3 1, 3) := by decide +kernel
theorem dm_always_21 : decode bm_always 21 = .ok (.goto (-17), 3) := by decide +kernel
theorem dm_always_24 : decode bm_always 24 = .ok (.iload_n 2, 1) := by decide +kernel
theorem dm_always_25 : decode bm_always 25 = .ok (.ireturn, 1) := by decide +kernel
set_option maxHeartbeats 4000000 in
set_option maxRecDepth 100000 in
theorem lm_always_4 {z : wt_Z} {s : wt_S} {t : wt_M} {o : Nat → Int64} (am : wt_Am z R_M bm_always 4 2 (some .int)) : ∀ (n : Nat) (x2 : Int32) (x3 : Int32), jj_J z 4 4 [(0, .ref (ad_ z 11)), (2, .int x2), (3, .int x3)] [] (s, t, o) (q_I z s t o) (fm_always_L4 t n x2 x3) := by
  intro n
  induction n with
  | zero =>
    intro x2 x3
    exact ji_none
  | succ n ih =>
    intro x2 x3
    rw [fm_always_L4]
    refine ji_iload_n (q := 5) am dm_always_4 rfl 2 rfl rfl ?_
    refine ji_bipush (q := 7) am dm_always_5 kb_16 rfl ?_
    refine ji_icmp_ge (q := 10) (g := 24) am dm_always_7 rfl rfl ?_ ?_
    · refine ji_iload_n (q := 25) am dm_always_24 rfl 1 rfl rfl ?_
      exact ji_iret am rfl dm_always_25 rfl rfl
    · refine ji_iload_n (q := 11) am dm_always_10 rfl 1 rfl rfl ?_
      refine ji_aload_n (q := 12) am dm_always_11 rfl 0 rfl rfl ?_
      refine ji_iload_n (q := 13) am dm_always_12 rfl 1 rfl rfl ?_
      refine jk_I (q := 16) (rest := [.int x2]) (fun r hF => jr_V [.int x2] am ln_M_m_stepsTo (ctm_stepsTo _ _ hF) (by omega) (rc_M am) rfl rfl (Nat.le_of_ble_eq_true rfl) dm_always_13) rfl ?_
      intro r13
      refine ji_iand (q := 17) am dm_always_16 rfl ?_
      refine ji_istore_n (lv' := [(0, .ref (ad_ z 11)), (2, .int (x2 &&& r13)), (3, .int x3)]) (q := 18) am dm_always_17 rfl [1, 0, 2] rfl rfl rfl ?_
      refine ji_iinc (q := 21) (lv' := [(0, .ref (ad_ z 11)), (2, .int (x2 &&& r13)), (3, .int (x3 + 1))]) am dm_always_18 2 rfl ki_1 [1, 2, 0] rfl rfl rfl ?_
      refine ji_goto (q := 4) am dm_always_21 rfl ?_
      exact ih _ _
set_option maxHeartbeats 4000000 in
set_option maxRecDepth 100000 in
theorem ctm_always {v : wt_V} {t : wt_M} {a1 : Int32} {r : Int32} (s : wt_S) (o : Nat → Int64) (hF : fm_always t a1 = some r) : ct_C v ym_always (Cond.code ym_always bm_always 4 (some .int)) 2 [.ref (v.2.1 11), .int a1] (some (.int r)) (s, t, o) (s, t, o) := by
  refine ct_of (lv := [(0, .ref (v.2.1 11)), (1, .int a1)]) (fun r : Int32 => some (.int r)) (fun _ => (s, t, o)) (by decide) (Nat.le_of_ble_eq_true rfl) rfl ?_ r hF
  intro z hz am
  subst hz
  have am : wt_Am z R_M bm_always 4 2 (some .int) := am
  show jj_J z 4 0 [(0, .ref (ad_ z 11)), (1, .int a1)] [] (s, t, o) (q_I z s t o) (fm_always t a1)
  unfold fm_always
  refine ji_iload_n (q := 1) am dm_always_0 rfl 1 rfl rfl ?_
  refine ji_istore_n (lv' := [(0, .ref (ad_ z 11)), (1, .int a1), (2, .int a1)]) (q := 2) am dm_always_1 rfl [1, 2, 0] rfl rfl rfl ?_
  refine ji_iconst (q := 3) am dm_always_2 ki_0 rfl ?_
  refine ji_istore_n (lv' := [(0, .ref (ad_ z 11)), (1, .int a1), (2, .int a1), (3, .int (0 : Int32))]) (q := 4) am dm_always_3 rfl [1, 2, 3, 0] rfl rfl rfl ?_
  exact ji_sub (lv' := [(0, .ref (ad_ z 11)), (2, .int a1), (3, .int (0 : Int32))]) [0, 2, 3] rfl (lm_always_4 am 5000 _ _)

theorem dm_formulaOf_0 : decode bm_formulaOf 0 = .ok (.iload_n 2, 1) := by decide +kernel
theorem dm_formulaOf_1 : decode bm_formulaOf 1 = .ok (.iconst (-1), 1) := by decide +kernel
theorem dm_formulaOf_2 : decode bm_formulaOf 2 = .ok (.ixor, 1) := by decide +kernel
theorem dm_formulaOf_3 : decode bm_formulaOf 3 = .ok (.ldc 142, 2) := by decide +kernel
theorem dm_formulaOf_5 : decode bm_formulaOf 5 = .ok (.iand, 1) := by decide +kernel
theorem dm_formulaOf_6 : decode bm_formulaOf 6 = .ok (.istore 4, 2) := by decide +kernel
theorem dm_formulaOf_8 : decode bm_formulaOf 8 = .ok (.iload_n 3, 1) := by decide +kernel
theorem dm_formulaOf_9 : decode bm_formulaOf 9 = .ok (.iconst (-1), 1) := by decide +kernel
theorem dm_formulaOf_10 : decode bm_formulaOf 10 = .ok (.ixor, 1) := by decide +kernel
theorem dm_formulaOf_11 : decode bm_formulaOf 11 = .ok (.ldc 142, 2) := by decide +kernel
theorem dm_formulaOf_13 : decode bm_formulaOf 13 = .ok (.iand, 1) := by decide +kernel
theorem dm_formulaOf_14 : decode bm_formulaOf 14 = .ok (.istore 5, 2) := by decide +kernel
theorem dm_formulaOf_16 : decode bm_formulaOf 16 = .ok (.iload_n 1, 1) := by decide +kernel
theorem dm_formulaOf_17 : decode bm_formulaOf 17 = .ok (.tableswitch 108 0 6 #[43, 49, 57, 63, 70, 82, 94], 43) := by decide +kernel
theorem dm_formulaOf_60 : decode bm_formulaOf 60 = .ok (.aload_n 0, 1) := by decide +kernel
theorem dm_formulaOf_61 : decode bm_formulaOf 61 = .ok (.iload_n 2, 1) := by decide +kernel
theorem dm_formulaOf_62 : decode bm_formulaOf 62 = .ok (.invokevirtual 139, 3) := by decide +kernel
theorem dm_formulaOf_65 : decode bm_formulaOf 65 = .ok (.ireturn, 1) := by decide +kernel
theorem dm_formulaOf_66 : decode bm_formulaOf 66 = .ok (.aload_n 0, 1) := by decide +kernel
theorem dm_formulaOf_67 : decode bm_formulaOf 67 = .ok (.ldc 142, 2) := by decide +kernel
theorem dm_formulaOf_69 : decode bm_formulaOf 69 = .ok (.iload_n 2, 1) := by decide +kernel
theorem dm_formulaOf_70 : decode bm_formulaOf 70 = .ok (.invokevirtual 143, 3) := by decide +kernel
theorem dm_formulaOf_73 : decode bm_formulaOf 73 = .ok (.ireturn, 1) := by decide +kernel
theorem dm_formulaOf_74 : decode bm_formulaOf 74 = .ok (.aload_n 0, 1) := by decide +kernel
theorem dm_formulaOf_75 : decode bm_formulaOf 75 = .ok (.iload_n 2, 1) := by decide +kernel
theorem dm_formulaOf_76 : decode bm_formulaOf 76 = .ok (.invokevirtual 146, 3) := by decide +kernel
theorem dm_formulaOf_79 : decode bm_formulaOf 79 = .ok (.ireturn, 1) := by decide +kernel
theorem dm_formulaOf_80 : decode bm_formulaOf 80 = .ok (.aload_n 0, 1) := by decide +kernel
theorem dm_formulaOf_81 : decode bm_formulaOf 81 = .ok (.iload_n 2, 1) := by decide +kernel
theorem dm_formulaOf_82 : decode bm_formulaOf 82 = .ok (.iload_n 3, 1) := by decide +kernel
theorem dm_formulaOf_83 : decode bm_formulaOf 83 = .ok (.invokevirtual 143, 3) := by decide +kernel
theorem dm_formulaOf_86 : decode bm_formulaOf 86 = .ok (.ireturn, 1) := by decide +kernel
theorem dm_formulaOf_87 : decode bm_formulaOf 87 = .ok (.aload_n 0, 1) := by decide +kernel
theorem dm_formulaOf_88 : decode bm_formulaOf 88 = .ok (.iload 4, 2) := by decide +kernel
theorem dm_formulaOf_90 : decode bm_formulaOf 90 = .ok (.invokevirtual 139, 3) := by decide +kernel
theorem dm_formulaOf_93 : decode bm_formulaOf 93 = .ok (.iconst (-1), 1) := by decide +kernel
theorem dm_formulaOf_94 : decode bm_formulaOf 94 = .ok (.ixor, 1) := by decide +kernel
theorem dm_formulaOf_95 : decode bm_formulaOf 95 = .ok (.ldc 142, 2) := by decide +kernel
theorem dm_formulaOf_97 : decode bm_formulaOf 97 = .ok (.iand, 1) := by decide +kernel
theorem dm_formulaOf_98 : decode bm_formulaOf 98 = .ok (.ireturn, 1) := by decide +kernel
theorem dm_formulaOf_99 : decode bm_formulaOf 99 = .ok (.aload_n 0, 1) := by decide +kernel
theorem dm_formulaOf_100 : decode bm_formulaOf 100 = .ok (.iload 4, 2) := by decide +kernel
theorem dm_formulaOf_102 : decode bm_formulaOf 102 = .ok (.invokevirtual 146, 3) := by decide +kernel
theorem dm_formulaOf_105 : decode bm_formulaOf 105 = .ok (.iconst (-1), 1) := by decide +kernel
theorem dm_formulaOf_106 : decode bm_formulaOf 106 = .ok (.ixor, 1) := by decide +kernel
theorem dm_formulaOf_107 : decode bm_formulaOf 107 = .ok (.ldc 142, 2) := by decide +kernel
theorem dm_formulaOf_109 : decode bm_formulaOf 109 = .ok (.iand, 1) := by decide +kernel
theorem dm_formulaOf_110 : decode bm_formulaOf 110 = .ok (.ireturn, 1) := by decide +kernel
theorem dm_formulaOf_111 : decode bm_formulaOf 111 = .ok (.aload_n 0, 1) := by decide +kernel
theorem dm_formulaOf_112 : decode bm_formulaOf 112 = .ok (.ldc 142, 2) := by decide +kernel
theorem dm_formulaOf_114 : decode bm_formulaOf 114 = .ok (.iload 4, 2) := by decide +kernel
theorem dm_formulaOf_116 : decode bm_formulaOf 116 = .ok (.invokevirtual 143, 3) := by decide +kernel
theorem dm_formulaOf_119 : decode bm_formulaOf 119 = .ok (.iconst (-1), 1) := by decide +kernel
theorem dm_formulaOf_120 : decode bm_formulaOf 120 = .ok (.ixor, 1) := by decide +kernel
theorem dm_formulaOf_121 : decode bm_formulaOf 121 = .ok (.ldc 142, 2) := by decide +kernel
theorem dm_formulaOf_123 : decode bm_formulaOf 123 = .ok (.iand, 1) := by decide +kernel
theorem dm_formulaOf_124 : decode bm_formulaOf 124 = .ok (.ireturn, 1) := by decide +kernel
theorem dm_formulaOf_125 : decode bm_formulaOf 125 = .ok (.aload_n 0, 1) := by decide +kernel
theorem dm_formulaOf_126 : decode bm_formulaOf 126 = .ok (.iload 5, 2) := by decide +kernel
theorem dm_formulaOf_128 : decode bm_formulaOf 128 = .ok (.invokevirtual 146, 3) := by decide +kernel
theorem dm_formulaOf_131 : decode bm_formulaOf 131 = .ok (.aload_n 0, 1) := by decide +kernel
theorem dm_formulaOf_132 : decode bm_formulaOf 132 = .ok (.iload 5, 2) := by decide +kernel
theorem dm_formulaOf_134 : decode bm_formulaOf 134 = .ok (.iload 4, 2) := by decide +kernel
theorem dm_formulaOf_136 : decode bm_formulaOf 136 = .ok (.iload 5, 2) := by decide +kernel
theorem dm_formulaOf_138 : decode bm_formulaOf 138 = .ok (.iand, 1) := by decide +kernel
theorem dm_formulaOf_139 : decode bm_formulaOf 139 = .ok (.invokevirtual 143, 3) := by decide +kernel
theorem dm_formulaOf_142 : decode bm_formulaOf 142 = .ok (.ior, 1) := by decide +kernel
theorem dm_formulaOf_143 : decode bm_formulaOf 143 = .ok (.iconst (-1), 1) := by decide +kernel
theorem dm_formulaOf_144 : decode bm_formulaOf 144 = .ok (.ixor, 1) := by decide +kernel
theorem dm_formulaOf_145 : decode bm_formulaOf 145 = .ok (.ldc 142, 2) := by decide +kernel
theorem dm_formulaOf_147 : decode bm_formulaOf 147 = .ok (.iand, 1) := by decide +kernel
theorem dm_formulaOf_148 : decode bm_formulaOf 148 = .ok (.ireturn, 1) := by decide +kernel
set_option maxHeartbeats 4000000 in
set_option maxRecDepth 100000 in
theorem ctm_formulaOf {v : wt_V} {t : wt_M} {a1 : Int32} {a2 : Int32} {a3 : Int32} {r : Int32} (s : wt_S) (o : Nat → Int64) (hF : fm_formulaOf t a1 a2 a3 = some r) : ct_C v ym_formulaOf (Cond.code ym_formulaOf bm_formulaOf 6 (some .int)) 3 [.ref (v.2.1 11), .int a1, .int a2, .int a3] (some (.int r)) (s, t, o) (s, t, o) := by
  refine ct_of (lv := [(0, .ref (v.2.1 11)), (1, .int a1), (2, .int a2), (3, .int a3)]) (fun r : Int32 => some (.int r)) (fun _ => (s, t, o)) (by decide) (Nat.le_of_ble_eq_true rfl) rfl ?_ r hF
  intro z hz am
  subst hz
  have am : wt_Am z R_M bm_formulaOf 6 3 (some .int) := am
  show jj_J z 6 0 [(0, .ref (ad_ z 11)), (1, .int a1), (2, .int a2), (3, .int a3)] [] (s, t, o) (q_I z s t o) (fm_formulaOf t a1 a2 a3)
  unfold fm_formulaOf
  refine ji_iload_n (q := 1) am dm_formulaOf_0 rfl 2 rfl rfl ?_
  refine ji_iconst (q := 2) am dm_formulaOf_1 ki_m1 rfl ?_
  refine ji_ixor (q := 3) am dm_formulaOf_2 rfl ?_
  refine ji_ldc (q := 5) (v := (65535 : Int32)) am lk_M_142 dm_formulaOf_3 rfl ?_
  refine ji_iand (q := 6) am dm_formulaOf_5 rfl ?_
  refine ji_istore (lv' := [(0, .ref (ad_ z 11)), (1, .int a1), (2, .int a2), (3, .int a3), (4, .int ((a2 ^^^ (-1 : Int32)) &&& (65535 : Int32)))]) (q := 8) am dm_formulaOf_6 [1, 2, 3, 4, 0] rfl rfl rfl ?_
  refine ji_iload_n (q := 9) am dm_formulaOf_8 rfl 3 rfl rfl ?_
  refine ji_iconst (q := 10) am dm_formulaOf_9 ki_m1 rfl ?_
  refine ji_ixor (q := 11) am dm_formulaOf_10 rfl ?_
  refine ji_ldc (q := 13) (v := (65535 : Int32)) am lk_M_142 dm_formulaOf_11 rfl ?_
  refine ji_iand (q := 14) am dm_formulaOf_13 rfl ?_
  refine ji_istore (lv' := [(0, .ref (ad_ z 11)), (1, .int a1), (2, .int a2), (3, .int a3), (4, .int ((a2 ^^^ (-1 : Int32)) &&& (65535 : Int32))), (5, .int ((a3 ^^^ (-1 : Int32)) &&& (65535 : Int32)))]) (q := 16) am dm_formulaOf_14 [1, 2, 3, 4, 5, 0] rfl rfl rfl ?_
  refine ji_iload_n (q := 17) am dm_formulaOf_16 rfl 1 rfl rfl ?_
  refine ji_tsw (fun e0 => ?_) (fun e0 => ?_)
  · refine ji_tin (g := 60) (off := 43) am dm_formulaOf_17 e0 (by decide) (by decide) (by decide) (by decide) ?_
    refine ji_aload_n (q := 61) am dm_formulaOf_60 rfl 0 rfl rfl ?_
    refine ji_iload_n (q := 62) am dm_formulaOf_61 rfl 2 rfl rfl ?_
    refine jk_I (q := 65) (rest := []) (fun r hF => jr_V [.int a2] am ln_M_m_stepsTo (ctm_stepsTo _ _ hF) (by omega) (rc_M am) rfl rfl (Nat.le_of_ble_eq_true rfl) dm_formulaOf_62) rfl ?_
    intro r62
    exact ji_iret am rfl dm_formulaOf_65 rfl rfl
  refine ji_tsw (fun e1 => ?_) (fun e1 => ?_)
  · refine ji_tin (g := 66) (off := 49) am dm_formulaOf_17 e1 (by decide) (by decide) (by decide) (by decide) ?_
    refine ji_aload_n (q := 67) am dm_formulaOf_66 rfl 0 rfl rfl ?_
    refine ji_ldc (q := 69) (v := (65535 : Int32)) am lk_M_142 dm_formulaOf_67 rfl ?_
    refine ji_iload_n (q := 70) am dm_formulaOf_69 rfl 2 rfl rfl ?_
    refine jk_I (q := 73) (rest := []) (fun r hF => jr_V [.int (65535 : Int32), .int a2] am ln_M_m_until (ctm_until _ _ hF) (by omega) (rc_M am) rfl rfl (Nat.le_of_ble_eq_true rfl) dm_formulaOf_70) rfl ?_
    intro r70
    exact ji_iret am rfl dm_formulaOf_73 rfl rfl
  refine ji_tsw (fun e2 => ?_) (fun e2 => ?_)
  · refine ji_tin (g := 74) (off := 57) am dm_formulaOf_17 e2 (by decide) (by decide) (by decide) (by decide) ?_
    refine ji_aload_n (q := 75) am dm_formulaOf_74 rfl 0 rfl rfl ?_
    refine ji_iload_n (q := 76) am dm_formulaOf_75 rfl 2 rfl rfl ?_
    refine jk_I (q := 79) (rest := []) (fun r hF => jr_V [.int a2] am ln_M_m_always (ctm_always _ _ hF) (by omega) (rc_M am) rfl rfl (Nat.le_of_ble_eq_true rfl) dm_formulaOf_76) rfl ?_
    intro r76
    exact ji_iret am rfl dm_formulaOf_79 rfl rfl
  refine ji_tsw (fun e3 => ?_) (fun e3 => ?_)
  · refine ji_tin (g := 80) (off := 63) am dm_formulaOf_17 e3 (by decide) (by decide) (by decide) (by decide) ?_
    refine ji_aload_n (q := 81) am dm_formulaOf_80 rfl 0 rfl rfl ?_
    refine ji_iload_n (q := 82) am dm_formulaOf_81 rfl 2 rfl rfl ?_
    refine ji_iload_n (q := 83) am dm_formulaOf_82 rfl 3 rfl rfl ?_
    refine jk_I (q := 86) (rest := []) (fun r hF => jr_V [.int a2, .int a3] am ln_M_m_until (ctm_until _ _ hF) (by omega) (rc_M am) rfl rfl (Nat.le_of_ble_eq_true rfl) dm_formulaOf_83) rfl ?_
    intro r83
    exact ji_iret am rfl dm_formulaOf_86 rfl rfl
  refine ji_tsw (fun e4 => ?_) (fun e4 => ?_)
  · refine ji_tin (g := 87) (off := 70) am dm_formulaOf_17 e4 (by decide) (by decide) (by decide) (by decide) ?_
    refine ji_aload_n (q := 88) am dm_formulaOf_87 rfl 0 rfl rfl ?_
    refine ji_iload (q := 90) am dm_formulaOf_88 4 rfl rfl ?_
    refine jk_I (q := 93) (rest := []) (fun r hF => jr_V [.int ((a2 ^^^ (-1 : Int32)) &&& (65535 : Int32))] am ln_M_m_stepsTo (ctm_stepsTo _ _ hF) (by omega) (rc_M am) rfl rfl (Nat.le_of_ble_eq_true rfl) dm_formulaOf_90) rfl ?_
    intro r90
    refine ji_iconst (q := 94) am dm_formulaOf_93 ki_m1 rfl ?_
    refine ji_ixor (q := 95) am dm_formulaOf_94 rfl ?_
    refine ji_ldc (q := 97) (v := (65535 : Int32)) am lk_M_142 dm_formulaOf_95 rfl ?_
    refine ji_iand (q := 98) am dm_formulaOf_97 rfl ?_
    exact ji_iret am rfl dm_formulaOf_98 rfl rfl
  refine ji_tsw (fun e5 => ?_) (fun e5 => ?_)
  · refine ji_tin (g := 99) (off := 82) am dm_formulaOf_17 e5 (by decide) (by decide) (by decide) (by decide) ?_
    refine ji_aload_n (q := 100) am dm_formulaOf_99 rfl 0 rfl rfl ?_
    refine ji_iload (q := 102) am dm_formulaOf_100 4 rfl rfl ?_
    refine jk_I (q := 105) (rest := []) (fun r hF => jr_V [.int ((a2 ^^^ (-1 : Int32)) &&& (65535 : Int32))] am ln_M_m_always (ctm_always _ _ hF) (by omega) (rc_M am) rfl rfl (Nat.le_of_ble_eq_true rfl) dm_formulaOf_102) rfl ?_
    intro r102
    refine ji_iconst (q := 106) am dm_formulaOf_105 ki_m1 rfl ?_
    refine ji_ixor (q := 107) am dm_formulaOf_106 rfl ?_
    refine ji_ldc (q := 109) (v := (65535 : Int32)) am lk_M_142 dm_formulaOf_107 rfl ?_
    refine ji_iand (q := 110) am dm_formulaOf_109 rfl ?_
    exact ji_iret am rfl dm_formulaOf_110 rfl rfl
  refine ji_tsw (fun e6 => ?_) (fun e6 => ?_)
  · refine ji_tin (g := 111) (off := 94) am dm_formulaOf_17 e6 (by decide) (by decide) (by decide) (by decide) ?_
    refine ji_aload_n (q := 112) am dm_formulaOf_111 rfl 0 rfl rfl ?_
    refine ji_ldc (q := 114) (v := (65535 : Int32)) am lk_M_142 dm_formulaOf_112 rfl ?_
    refine ji_iload (q := 116) am dm_formulaOf_114 4 rfl rfl ?_
    refine jk_I (q := 119) (rest := []) (fun r hF => jr_V [.int (65535 : Int32), .int ((a2 ^^^ (-1 : Int32)) &&& (65535 : Int32))] am ln_M_m_until (ctm_until _ _ hF) (by omega) (rc_M am) rfl rfl (Nat.le_of_ble_eq_true rfl) dm_formulaOf_116) rfl ?_
    intro r116
    refine ji_iconst (q := 120) am dm_formulaOf_119 ki_m1 rfl ?_
    refine ji_ixor (q := 121) am dm_formulaOf_120 rfl ?_
    refine ji_ldc (q := 123) (v := (65535 : Int32)) am lk_M_142 dm_formulaOf_121 rfl ?_
    refine ji_iand (q := 124) am dm_formulaOf_123 rfl ?_
    exact ji_iret am rfl dm_formulaOf_124 rfl rfl
  refine ji_tout (g := 125) am dm_formulaOf_17 (by have h0 := lv_neT e0 (a := 0) (by decide); have h1 := lv_neT e1 (a := 1) (by decide); have h2 := lv_neT e2 (a := 2) (by decide); have h3 := lv_neT e3 (a := 3) (by decide); have h4 := lv_neT e4 (a := 4) (by decide); have h5 := lv_neT e5 (a := 5) (by decide); have h6 := lv_neT e6 (a := 6) (by decide); omega) (by decide) ?_
  refine ji_aload_n (q := 126) am dm_formulaOf_125 rfl 0 rfl rfl ?_
  refine ji_iload (q := 128) am dm_formulaOf_126 5 rfl rfl ?_
  refine jk_I (q := 131) (rest := []) (fun r hF => jr_V [.int ((a3 ^^^ (-1 : Int32)) &&& (65535 : Int32))] am ln_M_m_always (ctm_always _ _ hF) (by omega) (rc_M am) rfl rfl (Nat.le_of_ble_eq_true rfl) dm_formulaOf_128) rfl ?_
  intro r128
  refine ji_aload_n (q := 132) am dm_formulaOf_131 rfl 0 rfl rfl ?_
  refine ji_iload (q := 134) am dm_formulaOf_132 5 rfl rfl ?_
  refine ji_iload (q := 136) am dm_formulaOf_134 4 rfl rfl ?_
  refine ji_iload (q := 138) am dm_formulaOf_136 5 rfl rfl ?_
  refine ji_iand (q := 139) am dm_formulaOf_138 rfl ?_
  refine jk_I (q := 142) (rest := [.int r128]) (fun r hF => jr_V [.int ((a3 ^^^ (-1 : Int32)) &&& (65535 : Int32)), .int (((a2 ^^^ (-1 : Int32)) &&& (65535 : Int32)) &&& ((a3 ^^^ (-1 : Int32)) &&& (65535 : Int32)))] am ln_M_m_until (ctm_until _ _ hF) (by omega) (rc_M am) rfl rfl (Nat.le_of_ble_eq_true rfl) dm_formulaOf_139) rfl ?_
  intro r139
  refine ji_ior (q := 143) am dm_formulaOf_142 rfl ?_
  refine ji_iconst (q := 144) am dm_formulaOf_143 ki_m1 rfl ?_
  refine ji_ixor (q := 145) am dm_formulaOf_144 rfl ?_
  refine ji_ldc (q := 147) (v := (65535 : Int32)) am lk_M_142 dm_formulaOf_145 rfl ?_
  refine ji_iand (q := 148) am dm_formulaOf_147 rfl ?_
  exact ji_iret am rfl dm_formulaOf_148 rfl rfl

theorem dm_check_0 : decode bm_check 0 = .ok (.aload_n 0, 1) := by decide +kernel
theorem dm_check_1 : decode bm_check 1 = .ok (.iload_n 1, 1) := by decide +kernel
theorem dm_check_2 : decode bm_check 2 = .ok (.invokestatic 58, 3) := by decide +kernel
theorem dm_check_5 : decode bm_check 5 = .ok (.ifCond .eq 26, 3) := by decide +kernel
theorem dm_check_8 : decode bm_check 8 = .ok (.iload_n 2, 1) := by decide +kernel
theorem dm_check_9 : decode bm_check 9 = .ok (.invokestatic 58, 3) := by decide +kernel
theorem dm_check_12 : decode bm_check 12 = .ok (.ifCond .eq 19, 3) := by decide +kernel
theorem dm_check_15 : decode bm_check 15 = .ok (.iload 4, 2) := by decide +kernel
theorem dm_check_17 : decode bm_check 17 = .ok (.invokestatic 58, 3) := by decide +kernel
theorem dm_check_20 : decode bm_check 20 = .ok (.ifCond .eq 11, 3) := by decide +kernel
theorem dm_check_23 : decode bm_check 23 = .ok (.iload 5, 2) := by decide +kernel
theorem dm_check_25 : decode bm_check 25 = .ok (.invokestatic 58, 3) := by decide +kernel
theorem dm_check_28 : decode bm_check 28 = .ok (.ifCond .ne 7, 3) := by decide +kernel
theorem dm_check_31 : decode bm_check 31 = .ok (.iconst 1, 1) := by decide +kernel
theorem dm_check_32 : decode bm_check 32 = .ok (.goto 40, 3) := by decide +kernel
theorem dm_check_35 : decode bm_check 35 = .ok (.iload_n 3, 1) := by decide +kernel
theorem dm_check_36 : decode bm_check 36 = .ok (.iconst 0, 1) := by decide +kernel
theorem dm_check_37 : decode bm_check 37 = .ok (.bipush 7, 2) := by decide +kernel
theorem dm_check_39 : decode bm_check 39 = .ok (.invokestatic 54, 3) := by decide +kernel
theorem dm_check_42 : decode bm_check 42 = .ok (.ifCond .ne 7, 3) := by decide +kernel
theorem dm_check_45 : decode bm_check 45 = .ok (.iconst 2, 1) := by decide +kernel
theorem dm_check_46 : decode bm_check 46 = .ok (.goto 26, 3) := by decide +kernel
theorem dm_check_49 : decode bm_check 49 = .ok (.aload_n 0, 1) := by decide +kernel
theorem dm_check_50 : decode bm_check 50 = .ok (.iload 4, 2) := by decide +kernel
theorem dm_check_52 : decode bm_check 52 = .ok (.invokevirtual 121, 3) := by decide +kernel
theorem dm_check_55 : decode bm_check 55 = .ok (.ifCond .eq 16, 3) := by decide +kernel
theorem dm_check_58 : decode bm_check 58 = .ok (.aload_n 0, 1) := by decide +kernel
theorem dm_check_59 : decode bm_check 59 = .ok (.iload 5, 2) := by decide +kernel
theorem dm_check_61 : decode bm_check 61 = .ok (.invokevirtual 121, 3) := by decide +kernel
theorem dm_check_64 : decode bm_check 64 = .ok (.ifCond .eq 7, 3) := by decide +kernel
theorem dm_check_67 : decode bm_check 67 = .ok (.iconst 0, 1) := by decide +kernel
theorem dm_check_68 : decode bm_check 68 = .ok (.goto 4, 3) := by decide +kernel
theorem dm_check_71 : decode bm_check 71 = .ok (.iconst 3, 1) := by decide +kernel
theorem dm_check_72 : decode bm_check 72 = .ok (.putfield 50, 3) := by decide +kernel
theorem dm_check_75 : decode bm_check 75 = .ok (.aload_n 0, 1) := by decide +kernel
theorem dm_check_76 : decode bm_check 76 = .ok (.getfield 50, 3) := by decide +kernel
theorem dm_check_79 : decode bm_check 79 = .ok (.ifCond .le 5, 3) := by decide +kernel
theorem dm_check_82 : decode bm_check 82 = .ok (.iconst 0, 1) := by decide +kernel
theorem dm_check_83 : decode bm_check 83 = .ok (.ireturn, 1) := by decide +kernel
theorem dm_check_84 : decode bm_check 84 = .ok (.aload_n 0, 1) := by decide +kernel
theorem dm_check_85 : decode bm_check 85 = .ok (.iload_n 2, 1) := by decide +kernel
theorem dm_check_86 : decode bm_check 86 = .ok (.invokevirtual 124, 3) := by decide +kernel
theorem dm_check_89 : decode bm_check 89 = .ok (.aload_n 0, 1) := by decide +kernel
theorem dm_check_90 : decode bm_check 90 = .ok (.iload_n 3, 1) := by decide +kernel
theorem dm_check_91 : decode bm_check 91 = .ok (.aload_n 0, 1) := by decide +kernel
theorem dm_check_92 : decode bm_check 92 = .ok (.iload 4, 2) := by decide +kernel
theorem dm_check_94 : decode bm_check 94 = .ok (.invokevirtual 127, 3) := by decide +kernel
theorem dm_check_97 : decode bm_check 97 = .ok (.aload_n 0, 1) := by decide +kernel
theorem dm_check_98 : decode bm_check 98 = .ok (.iload 5, 2) := by decide +kernel
theorem dm_check_100 : decode bm_check 100 = .ok (.invokevirtual 127, 3) := by decide +kernel
theorem dm_check_103 : decode bm_check 103 = .ok (.invokevirtual 149, 3) := by decide +kernel
theorem dm_check_106 : decode bm_check 106 = .ok (.istore 6, 2) := by decide +kernel
theorem dm_check_108 : decode bm_check 108 = .ok (.aload_n 0, 1) := by decide +kernel
theorem dm_check_109 : decode bm_check 109 = .ok (.iload_n 1, 1) := by decide +kernel
theorem dm_check_110 : decode bm_check 110 = .ok (.iload 6, 2) := by decide +kernel
theorem dm_check_112 : decode bm_check 112 = .ok (.invokevirtual 133, 3) := by decide +kernel
theorem dm_check_115 : decode bm_check 115 = .ok (.iload 6, 2) := by decide +kernel
theorem dm_check_117 : decode bm_check 117 = .ok (.invokestatic 136, 3) := by decide +kernel
theorem dm_check_120 : decode bm_check 120 = .ok (.ireturn, 1) := by decide +kernel
set_option maxHeartbeats 4000000 in
set_option maxRecDepth 100000 in
theorem ctm_check {v : wt_V} {t : wt_M} {a1 : Int32} {a2 : Int32} {a3 : Int32} {a4 : Int32} {a5 : Int32} {r : Int32} {t2 : wt_M} (s : wt_S) (o : Nat → Int64) (hF : fm_check t a1 a2 a3 a4 a5 = some (r, t2)) : ct_C v ym_check (Cond.code ym_check bm_check 7 (some .int)) 4 [.ref (v.2.1 11), .int a1, .int a2, .int a3, .int a4, .int a5] (some (.int r)) (s, t, o) (s, t2, o) := by
  refine ct_of (lv := [(0, .ref (v.2.1 11)), (1, .int a1), (2, .int a2), (3, .int a3), (4, .int a4), (5, .int a5)]) (fun r : Int32 × wt_M => some (.int r.1)) (fun r => (s, r.2, o)) (by decide) (Nat.le_of_ble_eq_true rfl) rfl ?_ (r, t2) hF
  intro z hz am
  subst hz
  have am : wt_Am z R_M bm_check 7 4 (some .int) := am
  show jj_J z 7 0 [(0, .ref (ad_ z 11)), (1, .int a1), (2, .int a2), (3, .int a3), (4, .int a4), (5, .int a5)] [] (s, t, o) (q_IT z s o) (fm_check t a1 a2 a3 a4 a5)
  unfold fm_check
  refine ji_aload_n (q := 1) am dm_check_0 rfl 0 rfl rfl ?_
  refine ji_iload_n (q := 2) am dm_check_1 rfl 1 rfl rfl ?_
  refine jk_I (q := 5) (rest := [.ref (ad_ z 11)]) (fun r hF => jr_S [.int a1] am ln_M_m_isRegister (ctm_isRegister _ _ _ hF) (by omega) rfl rfl (Nat.le_of_ble_eq_true rfl) dm_check_2) rfl ?_
  intro r2
  refine ji_jn2 (fun j => ∀ (y0_72 : Int32), jj_J z 7 72 [(0, .ref (ad_ z 11)), (1, .int a1), (2, .int a2), (3, .int a3), (4, .int a4), (5, .int a5)] [.int y0_72, .ref (ad_ z 11)] (s, t, o) (q_IT z s o) (j y0_72)) ?_ ?_
  · intro y0_72
    refine ji_put_M_code (q := 75) am dm_check_72 rfl ?_
    intro t72
    refine ji_aload_n (q := 76) am dm_check_75 rfl 0 rfl rfl ?_
    refine ji_get_M_code (q := 79) am dm_check_76 rfl ?_
    refine ji_if_le (q := 82) (g := 84) am dm_check_79 rfl rfl ?_ ?_
    · refine ji_aload_n (q := 85) am dm_check_84 rfl 0 rfl rfl ?_
      refine ji_iload_n (q := 86) am dm_check_85 rfl 2 rfl rfl ?_
      refine jk_T (q := 89) (rest := []) (fun t2 hF => jr_V [.int a2] am ln_M_m_learnSteps (ctm_learnSteps _ _ hF) (by omega) (rc_M am) rfl rfl (Nat.le_of_ble_eq_true rfl) dm_check_86) rfl ?_
      intro t86
      refine ji_aload_n (q := 90) am dm_check_89 rfl 0 rfl rfl ?_
      refine ji_iload_n (q := 91) am dm_check_90 rfl 3 rfl rfl ?_
      refine ji_aload_n (q := 92) am dm_check_91 rfl 0 rfl rfl ?_
      refine ji_iload (q := 94) am dm_check_92 4 rfl rfl ?_
      refine jk_I (q := 97) (rest := [.int a3, .ref (ad_ z 11)]) (fun r hF => jr_V [.int a4] am ln_M_m_statesOf (ctm_statesOf _ _ hF) (by omega) (rc_M am) rfl rfl (Nat.le_of_ble_eq_true rfl) dm_check_94) rfl ?_
      intro r94
      refine ji_aload_n (q := 98) am dm_check_97 rfl 0 rfl rfl ?_
      refine ji_iload (q := 100) am dm_check_98 5 rfl rfl ?_
      refine jk_I (q := 103) (rest := [.int r94, .int a3, .ref (ad_ z 11)]) (fun r hF => jr_V [.int a5] am ln_M_m_statesOf (ctm_statesOf _ _ hF) (by omega) (rc_M am) rfl rfl (Nat.le_of_ble_eq_true rfl) dm_check_100) rfl ?_
      intro r100
      refine jk_I (q := 106) (rest := []) (fun r hF => jr_V [.int a3, .int r94, .int r100] am ln_M_m_formulaOf (ctm_formulaOf _ _ hF) (by omega) (rc_M am) rfl rfl (Nat.le_of_ble_eq_true rfl) dm_check_103) rfl ?_
      intro r103
      refine ji_istore (lv' := [(0, .ref (ad_ z 11)), (1, .int a1), (2, .int a2), (3, .int a3), (4, .int a4), (5, .int a5), (6, .int r103)]) (q := 108) am dm_check_106 [1, 2, 3, 4, 5, 6, 0] rfl rfl rfl ?_
      refine ji_aload_n (q := 109) am dm_check_108 rfl 0 rfl rfl ?_
      refine ji_iload_n (q := 110) am dm_check_109 rfl 1 rfl rfl ?_
      refine ji_iload (q := 112) am dm_check_110 6 rfl rfl ?_
      refine jk_T (q := 115) (rest := []) (fun t2 hF => jr_V [.int a1, .int r103] am ln_M_m_keepStates (ctm_keepStates _ _ hF) (by omega) (rc_M am) rfl rfl (Nat.le_of_ble_eq_true rfl) dm_check_112) rfl ?_
      intro t112
      refine ji_iload (q := 117) am dm_check_115 6 rfl rfl ?_
      refine jk_I (q := 120) (rest := []) (fun r hF => jr_S [.int r103] am ln_M_m_sizeOf (ctm_sizeOf _ _ _ hF) (by omega) rfl rfl (Nat.le_of_ble_eq_true rfl) dm_check_117) rfl ?_
      intro r117
      exact ji_iret am rfl dm_check_120 rfl rfl
    · refine ji_iconst (q := 83) am dm_check_82 ki_0 rfl ?_
      exact ji_iret am rfl dm_check_83 rfl rfl
  · intro j72 hj72
    refine ji_jn2 (fun j => ∀ (u31 : Unit), jj_J z 7 31 [(0, .ref (ad_ z 11)), (1, .int a1), (2, .int a2), (3, .int a3), (4, .int a4), (5, .int a5)] [.ref (ad_ z 11)] (s, t, o) (q_IT z s o) (j u31)) ?_ ?_
    · intro u31
      refine ji_iconst (q := 32) am dm_check_31 ki_1 rfl ?_
      refine ji_goto (q := 72) am dm_check_32 rfl ?_
      exact hj72 _
    · intro j31 hj31
      refine ji_if_eq (q := 8) (g := 31) am dm_check_5 rfl rfl ?_ ?_
      · exact hj31 _
      · refine ji_iload_n (q := 9) am dm_check_8 rfl 2 rfl rfl ?_
        refine jk_I (q := 12) (rest := [.ref (ad_ z 11)]) (fun r hF => jr_S [.int a2] am ln_M_m_isRegister (ctm_isRegister _ _ _ hF) (by omega) rfl rfl (Nat.le_of_ble_eq_true rfl) dm_check_9) rfl ?_
        intro r9
        refine ji_if_eq (q := 15) (g := 31) am dm_check_12 rfl rfl ?_ ?_
        · exact hj31 _
        · refine ji_iload (q := 17) am dm_check_15 4 rfl rfl ?_
          refine jk_I (q := 20) (rest := [.ref (ad_ z 11)]) (fun r hF => jr_S [.int a4] am ln_M_m_isRegister (ctm_isRegister _ _ _ hF) (by omega) rfl rfl (Nat.le_of_ble_eq_true rfl) dm_check_17) rfl ?_
          intro r17
          refine ji_if_eq (q := 23) (g := 31) am dm_check_20 rfl rfl ?_ ?_
          · exact hj31 _
          · refine ji_iload (q := 25) am dm_check_23 5 rfl rfl ?_
            refine jk_I (q := 28) (rest := [.ref (ad_ z 11)]) (fun r hF => jr_S [.int a5] am ln_M_m_isRegister (ctm_isRegister _ _ _ hF) (by omega) rfl rfl (Nat.le_of_ble_eq_true rfl) dm_check_25) rfl ?_
            intro r25
            refine ji_if_ne (q := 31) (g := 35) am dm_check_28 rfl rfl ?_ ?_
            · refine ji_iload_n (q := 36) am dm_check_35 rfl 3 rfl rfl ?_
              refine ji_iconst (q := 37) am dm_check_36 ki_0 rfl ?_
              refine ji_bipush (q := 39) am dm_check_37 kb_7 rfl ?_
              refine jk_I (q := 42) (rest := [.ref (ad_ z 11)]) (fun r hF => jr_S [.int a3, .int (0 : Int32), .int (7 : Int32)] am ln_M_m_in (ctm_in _ _ _ hF) (by omega) rfl rfl (Nat.le_of_ble_eq_true rfl) dm_check_39) rfl ?_
              intro r39
              refine ji_if_ne (q := 45) (g := 49) am dm_check_42 rfl rfl ?_ ?_
              · refine ji_aload_n (q := 50) am dm_check_49 rfl 0 rfl rfl ?_
                refine ji_iload (q := 52) am dm_check_50 4 rfl rfl ?_
                refine jk_I (q := 55) (rest := [.ref (ad_ z 11)]) (fun r hF => jr_V [.int a4] am ln_M_m_isSet (ctm_isSet _ _ hF) (by omega) (rc_M am) rfl rfl (Nat.le_of_ble_eq_true rfl) dm_check_52) rfl ?_
                intro r52
                refine ji_jn2 (fun j => ∀ (u71 : Unit), jj_J z 7 71 [(0, .ref (ad_ z 11)), (1, .int a1), (2, .int a2), (3, .int a3), (4, .int a4), (5, .int a5)] [.ref (ad_ z 11)] (s, t, o) (q_IT z s o) (j u71)) ?_ ?_
                · intro u71
                  refine ji_iconst (q := 72) am dm_check_71 ki_3 rfl ?_
                  exact hj72 _
                · intro j71 hj71
                  refine ji_if_eq (q := 58) (g := 71) am dm_check_55 rfl rfl ?_ ?_
                  · exact hj71 _
                  · refine ji_aload_n (q := 59) am dm_check_58 rfl 0 rfl rfl ?_
                    refine ji_iload (q := 61) am dm_check_59 5 rfl rfl ?_
                    refine jk_I (q := 64) (rest := [.ref (ad_ z 11)]) (fun r hF => jr_V [.int a5] am ln_M_m_isSet (ctm_isSet _ _ hF) (by omega) (rc_M am) rfl rfl (Nat.le_of_ble_eq_true rfl) dm_check_61) rfl ?_
                    intro r61
                    refine ji_if_eq (q := 67) (g := 71) am dm_check_64 rfl rfl ?_ ?_
                    · exact hj71 _
                    · refine ji_iconst (q := 68) am dm_check_67 ki_0 rfl ?_
                      refine ji_goto (q := 72) am dm_check_68 rfl ?_
                      exact hj72 _
              · refine ji_iconst (q := 46) am dm_check_45 ki_2 rfl ?_
                refine ji_goto (q := 72) am dm_check_46 rfl ?_
                exact hj72 _
            · exact hj31 _

theorem dm_astray_0 : decode bm_astray 0 = .ok (.aload_n 0, 1) := by decide +kernel
theorem dm_astray_1 : decode bm_astray 1 = .ok (.iconst 0, 1) := by decide +kernel
theorem dm_astray_2 : decode bm_astray 2 = .ok (.putfield 50, 3) := by decide +kernel
theorem dm_astray_5 : decode bm_astray 5 = .ok (.iconst 0, 1) := by decide +kernel
theorem dm_astray_6 : decode bm_astray 6 = .ok (.ireturn, 1) := by decide +kernel
set_option maxHeartbeats 4000000 in
set_option maxRecDepth 100000 in
theorem ctm_astray {v : wt_V} {t : wt_M} {r : Int32} {t2 : wt_M} (s : wt_S) (o : Nat → Int64) (hF : fm_astray t = some (r, t2)) : ct_C v ym_astray (Cond.code ym_astray bm_astray 1 (some .int)) 1 [.ref (v.2.1 11)] (some (.int r)) (s, t, o) (s, t2, o) := by
  refine ct_of (lv := [(0, .ref (v.2.1 11))]) (fun r : Int32 × wt_M => some (.int r.1)) (fun r => (s, r.2, o)) (by decide) (Nat.le_of_ble_eq_true rfl) rfl ?_ (r, t2) hF
  intro z hz am
  subst hz
  have am : wt_Am z R_M bm_astray 1 1 (some .int) := am
  show jj_J z 1 0 [(0, .ref (ad_ z 11))] [] (s, t, o) (q_IT z s o) (fm_astray t)
  unfold fm_astray
  refine ji_aload_n (q := 1) am dm_astray_0 rfl 0 rfl rfl ?_
  refine ji_iconst (q := 2) am dm_astray_1 ki_0 rfl ?_
  refine ji_put_M_code (q := 5) am dm_astray_2 rfl ?_
  intro t2
  refine ji_iconst (q := 6) am dm_astray_5 ki_0 rfl ?_
  exact ji_iret am rfl dm_astray_6 rfl rfl
