/-! Walks of X.sift, X.needSet, X.after, X.states, X.image, X.reach, X.before, X.settle, X.check, X.astray: printed by my program out of the listing. -/
theorem dx_sift_0 : decode bx_sift 0 = .ok (.iload_n 1, 1) := by decide +kernel
theorem dx_sift_1 : decode bx_sift 1 = .ok (.invokestatic 20, 3) := by decide +kernel
theorem dx_sift_4 : decode bx_sift 4 = .ok (.aload_n 0, 1) := by decide +kernel
theorem dx_sift_5 : decode bx_sift 5 = .ok (.getfield 10, 3) := by decide +kernel
theorem dx_sift_8 : decode bx_sift 8 = .ok (.iload_n 1, 1) := by decide +kernel
theorem dx_sift_9 : decode bx_sift 9 = .ok (.iconst 0, 1) := by decide +kernel
theorem dx_sift_10 : decode bx_sift 10 = .ok (.invokevirtual 84, 3) := by decide +kernel
theorem dx_sift_13 : decode bx_sift 13 = .ok (.iconst 0, 1) := by decide +kernel
theorem dx_sift_14 : decode bx_sift 14 = .ok (.istore_n 2, 1) := by decide +kernel
theorem dx_sift_15 : decode bx_sift 15 = .ok (.aload_n 0, 1) := by decide +kernel
theorem dx_sift_16 : decode bx_sift 16 = .ok (.getfield 10, 3) := by decide +kernel
theorem dx_sift_19 : decode bx_sift 19 = .ok (.invokevirtual 71, 3) := by decide +kernel
theorem dx_sift_22 : decode bx_sift 22 = .ok (.istore_n 3, 1) := by decide +kernel
theorem dx_sift_23 : decode bx_sift 23 = .ok (.iconst 1, 1) := by decide +kernel
theorem dx_sift_24 : decode bx_sift 24 = .ok (.istore 4, 2) := by decide +kernel
theorem dx_sift_26 : decode bx_sift 26 = .ok (.iload 4, 2) := by decide +kernel
theorem dx_sift_28 : decode bx_sift 28 = .ok (.bipush 8, 2) := by decide +kernel
theorem dx_sift_30 : decode bx_sift 30 = .ok (.if_icmp .ge 41, 3) := by decide +kernel
theorem dx_sift_33 : decode bx_sift 33 = .ok (.aload_n 0, 1) := by decide +kernel
theorem dx_sift_34 : decode bx_sift 34 = .ok (.getfield 10, 3) := by decide +kernel
theorem dx_sift_37 : decode bx_sift 37 = .ok (.iload_n 1, 1) := by decide +kernel
theorem dx_sift_38 : decode bx_sift 38 = .ok (.iload 4, 2) := by decide +kernel
theorem dx_sift_40 : decode bx_sift 40 = .ok (.invokevirtual 84, 3) := by decide +kernel
theorem dx_sift_43 : decode bx_sift 43 = .ok (.aload_n 0, 1) := by decide +kernel
theorem dx_sift_44 : decode bx_sift 44 = .ok (.getfield 10, 3) := by decide +kernel
theorem dx_sift_47 : decode bx_sift 47 = .ok (.invokevirtual 71, 3) := by decide +kernel
theorem dx_sift_50 : decode bx_sift 50 = .ok (.iload_n 3, 1) := by decide +kernel
theorem dx_sift_51 : decode bx_sift 51 = .ok (.if_icmp .ge 14, 3) := by decide +kernel
theorem dx_sift_54 : decode bx_sift 54 = .ok (.iload 4, 2) := by decide +kernel
theorem dx_sift_56 : decode bx_sift 56 = .ok (.istore_n 2, 1) := by decide +kernel
theorem dx_sift_57 : decode bx_sift 57 = .ok (.aload_n 0, 1) := by decide +kernel
theorem dx_sift_58 : decode bx_sift 58 = .ok (.getfield 10, 3) := by decide +kernel
theorem dx_sift_61 : decode bx_sift 61 = .ok (.invokevirtual 71, 3) := by decide +kernel
theorem dx_sift_64 : decode bx_sift 64 = .ok (.istore_n 3, 1) := by decide +kernel
theorem dx_sift_65 : decode bx_sift 65 = .ok (.iinc 4 1, 3) := by decide +kernel
theorem dx_sift_68 : decode bx_sift 68 = .ok (.goto (-42), 3) := by decide +kernel
theorem dx_sift_71 : decode bx_sift 71 = .ok (.aload_n 0, 1) := by decide +kernel
theorem dx_sift_72 : decode bx_sift 72 = .ok (.getfield 10, 3) := by decide +kernel
theorem dx_sift_75 : decode bx_sift 75 = .ok (.iload_n 1, 1) := by decide +kernel
theorem dx_sift_76 : decode bx_sift 76 = .ok (.iload_n 2, 1) := by decide +kernel
theorem dx_sift_77 : decode bx_sift 77 = .ok (.invokevirtual 84, 3) := by decide +kernel
theorem dx_sift_80 : decode bx_sift 80 = .ok (.aload_n 0, 1) := by decide +kernel
theorem dx_sift_81 : decode bx_sift 81 = .ok (.getfield 10, 3) := by decide +kernel
theorem dx_sift_84 : decode bx_sift 84 = .ok (.invokevirtual 71, 3) := by decide +kernel
theorem dx_sift_87 : decode bx_sift 87 = .ok (.ireturn, 1) := by decide +kernel
set_option maxHeartbeats 4000000 in
set_option maxRecDepth 100000 in
theorem lx_sift_26 {z : wt_Z} {t : wt_M} {o : Nat → Int64} {c1 : Int32} {K : Int32 → wt_S → Option (Int32 × wt_S)} (am : wt_Am z R_X bx_sift 5 13 (some .int)) (hK : ∀ (e2 : Int32) (s3 : wt_S), jj_J z 5 71 [(0, .ref (ad_ z 0)), (1, .int c1), (2, .int e2)] [] (s3, t, o) (q_IS z t o) (K e2 s3)) : ∀ (n : Nat) (x2 : Int32) (x3 : Int32) (x4 : Int32) (s : wt_S), jj_J z 5 26 [(0, .ref (ad_ z 0)), (1, .int c1), (2, .int x2), (3, .int x3), (4, .int x4)] [] (s, t, o) (q_IS z t o) (fx_sift_L26 c1 K n x2 x3 x4 s) := by
  intro n
  induction n with
  | zero =>
    intro x2 x3 x4 s
    exact ji_none
  | succ n ih =>
    intro x2 x3 x4 s
    rw [fx_sift_L26]
    refine ji_iload (q := 28) am dx_sift_26 4 rfl rfl ?_
    refine ji_bipush (q := 30) am dx_sift_28 kb_8 rfl ?_
    refine ji_icmp_ge (q := 33) (g := 71) am dx_sift_30 rfl rfl ?_ ?_
    · exact ji_sub (lv' := [(0, .ref (ad_ z 0)), (1, .int c1), (2, .int x2)]) [0, 1, 2] rfl (hK _ _)
    · refine ji_aload_n (q := 34) am dx_sift_33 rfl 0 rfl rfl ?_
      refine ji_get_X_diagrams (q := 37) am dx_sift_34 rfl ?_
      refine ji_iload_n (q := 38) am dx_sift_37 rfl 1 rfl rfl ?_
      refine ji_iload (q := 40) am dx_sift_38 4 rfl rfl ?_
      refine jk_S (q := 43) (rest := []) (fun s2 hF => jr_V [.int c1, .int x4] am ln_X_d_move (ctd_move _ _ hF) (by omega) (rc_D am) rfl rfl (Nat.le_of_ble_eq_true rfl) dx_sift_40) rfl ?_
      intro s40
      refine ji_aload_n (q := 44) am dx_sift_43 rfl 0 rfl rfl ?_
      refine ji_get_X_diagrams (q := 47) am dx_sift_44 rfl ?_
      refine jk_I (q := 50) (rest := []) (fun r hF => jr_V [] am ln_X_d_live (ctd_live _ _ hF) (by omega) (rc_D am) rfl rfl (Nat.le_of_ble_eq_true rfl) dx_sift_47) rfl ?_
      intro r47
      refine ji_iload_n (q := 51) am dx_sift_50 rfl 3 rfl rfl ?_
      refine ji_jn2 (fun j => ∀ (x2_65 : Int32) (x3_65 : Int32), jj_J z 5 65 [(0, .ref (ad_ z 0)), (1, .int c1), (2, .int x2_65), (3, .int x3_65), (4, .int x4)] [] (s40, t, o) (q_IS z t o) (j x2_65 x3_65)) ?_ ?_
      · intro x2_65 x3_65
        refine ji_iinc (q := 68) (lv' := [(0, .ref (ad_ z 0)), (1, .int c1), (2, .int x2_65), (3, .int x3_65), (4, .int (x4 + 1))]) am dx_sift_65 4 rfl ki_1 [1, 2, 3, 4, 0] rfl rfl rfl ?_
        refine ji_goto (q := 26) am dx_sift_68 rfl ?_
        exact ih _ _ _ _
      · intro j65 hj65
        refine ji_icmp_ge (q := 54) (g := 65) am dx_sift_51 rfl rfl ?_ ?_
        · exact hj65 _ _
        · refine ji_iload (q := 56) am dx_sift_54 4 rfl rfl ?_
          refine ji_istore_n (lv' := [(0, .ref (ad_ z 0)), (1, .int c1), (2, .int x4), (3, .int x3), (4, .int x4)]) (q := 57) am dx_sift_56 rfl [1, 2, 0, 3, 4] rfl rfl rfl ?_
          refine ji_aload_n (q := 58) am dx_sift_57 rfl 0 rfl rfl ?_
          refine ji_get_X_diagrams (q := 61) am dx_sift_58 rfl ?_
          refine jk_I (q := 64) (rest := []) (fun r hF => jr_V [] am ln_X_d_live (ctd_live _ _ hF) (by omega) (rc_D am) rfl rfl (Nat.le_of_ble_eq_true rfl) dx_sift_61) rfl ?_
          intro r61
          refine ji_istore_n (lv' := [(0, .ref (ad_ z 0)), (1, .int c1), (2, .int x4), (3, .int r61), (4, .int x4)]) (q := 65) am dx_sift_64 rfl [1, 2, 3, 0, 4] rfl rfl rfl ?_
          exact hj65 _ _
set_option maxHeartbeats 4000000 in
set_option maxRecDepth 100000 in
theorem ctx_sift {v : wt_V} {s : wt_S} {a1 : Int32} {r : Int32} {s2 : wt_S} (t : wt_M) (o : Nat → Int64) (hF : fx_sift s a1 = some (r, s2)) : ct_C v yx_sift (Cond.code yx_sift bx_sift 5 (some .int)) 13 [.ref (v.2.1 0), .int a1] (some (.int r)) (s, t, o) (s2, t, o) := by
  refine ct_of (lv := [(0, .ref (v.2.1 0)), (1, .int a1)]) (fun r : Int32 × wt_S => some (.int r.1)) (fun r => (r.2, t, o)) (by decide) (Nat.le_of_ble_eq_true rfl) rfl ?_ (r, s2) hF
  intro z hz am
  subst hz
  have am : wt_Am z R_X bx_sift 5 13 (some .int) := am
  show jj_J z 5 0 [(0, .ref (ad_ z 0)), (1, .int a1)] [] (s, t, o) (q_IS z t o) (fx_sift s a1)
  unfold fx_sift
  refine ji_iload_n (q := 1) am dx_sift_0 rfl 1 rfl rfl ?_
  refine jk_U (q := 4) (rest := []) (fun u hF => jr_S [.int a1] am ln_X_x_needVariable (ctx_needVariable _ _ _ hF) (by omega) rfl rfl (Nat.le_of_ble_eq_true rfl) dx_sift_1) rfl ?_
  intro u1
  refine ji_aload_n (q := 5) am dx_sift_4 rfl 0 rfl rfl ?_
  refine ji_get_X_diagrams (q := 8) am dx_sift_5 rfl ?_
  refine ji_iload_n (q := 9) am dx_sift_8 rfl 1 rfl rfl ?_
  refine ji_iconst (q := 10) am dx_sift_9 ki_0 rfl ?_
  refine jk_S (q := 13) (rest := []) (fun s2 hF => jr_V [.int a1, .int (0 : Int32)] am ln_X_d_move (ctd_move _ _ hF) (by omega) (rc_D am) rfl rfl (Nat.le_of_ble_eq_true rfl) dx_sift_10) rfl ?_
  intro s10
  refine ji_iconst (q := 14) am dx_sift_13 ki_0 rfl ?_
  refine ji_istore_n (lv' := [(0, .ref (ad_ z 0)), (1, .int a1), (2, .int (0 : Int32))]) (q := 15) am dx_sift_14 rfl [1, 2, 0] rfl rfl rfl ?_
  refine ji_aload_n (q := 16) am dx_sift_15 rfl 0 rfl rfl ?_
  refine ji_get_X_diagrams (q := 19) am dx_sift_16 rfl ?_
  refine jk_I (q := 22) (rest := []) (fun r hF => jr_V [] am ln_X_d_live (ctd_live _ _ hF) (by omega) (rc_D am) rfl rfl (Nat.le_of_ble_eq_true rfl) dx_sift_19) rfl ?_
  intro r19
  refine ji_istore_n (lv' := [(0, .ref (ad_ z 0)), (1, .int a1), (2, .int (0 : Int32)), (3, .int r19)]) (q := 23) am dx_sift_22 rfl [1, 2, 3, 0] rfl rfl rfl ?_
  refine ji_iconst (q := 24) am dx_sift_23 ki_1 rfl ?_
  refine ji_istore (lv' := [(0, .ref (ad_ z 0)), (1, .int a1), (2, .int (0 : Int32)), (3, .int r19), (4, .int (1 : Int32))]) (q := 26) am dx_sift_24 [1, 2, 3, 4, 0] rfl rfl rfl ?_
  refine lx_sift_26 am (fun z2_26 s_26 => ?_) 5000 _ _ _ _
  refine ji_aload_n (q := 72) am dx_sift_71 rfl 0 rfl rfl ?_
  refine ji_get_X_diagrams (q := 75) am dx_sift_72 rfl ?_
  refine ji_iload_n (q := 76) am dx_sift_75 rfl 1 rfl rfl ?_
  refine ji_iload_n (q := 77) am dx_sift_76 rfl 2 rfl rfl ?_
  refine jk_S (q := 80) (rest := []) (fun s2 hF => jr_V [.int a1, .int z2_26] am ln_X_d_move (ctd_move _ _ hF) (by omega) (rc_D am) rfl rfl (Nat.le_of_ble_eq_true rfl) dx_sift_77) rfl ?_
  intro s77
  refine ji_aload_n (q := 81) am dx_sift_80 rfl 0 rfl rfl ?_
  refine ji_get_X_diagrams (q := 84) am dx_sift_81 rfl ?_
  refine jk_I (q := 87) (rest := []) (fun r hF => jr_V [] am ln_X_d_live (ctd_live _ _ hF) (by omega) (rc_D am) rfl rfl (Nat.le_of_ble_eq_true rfl) dx_sift_84) rfl ?_
  intro r84
  exact ji_iret am rfl dx_sift_87 rfl rfl

theorem dx_needSet_0 : decode bx_needSet 0 = .ok (.aload_n 0, 1) := by decide +kernel
theorem dx_needSet_1 : decode bx_needSet 1 = .ok (.getfield 10, 3) := by decide +kernel
theorem dx_needSet_4 : decode bx_needSet 4 = .ok (.aload_n 0, 1) := by decide +kernel
theorem dx_needSet_5 : decode bx_needSet 5 = .ok (.getfield 10, 3) := by decide +kernel
theorem dx_needSet_8 : decode bx_needSet 8 = .ok (.iload_n 1, 1) := by decide +kernel
theorem dx_needSet_9 : decode bx_needSet 9 = .ok (.invokevirtual 34, 3) := by decide +kernel
theorem dx_needSet_12 : decode bx_needSet 12 = .ok (.iconst 0, 1) := by decide +kernel
theorem dx_needSet_13 : decode bx_needSet 13 = .ok (.invokevirtual 65, 3) := by decide +kernel
theorem dx_needSet_16 : decode bx_needSet 16 = .ok (.sipush 170, 3) := by decide +kernel
theorem dx_needSet_19 : decode bx_needSet 19 = .ok (.iand, 1) := by decide +kernel
theorem dx_needSet_20 : decode bx_needSet 20 = .ok (.ifCond .eq 13, 3) := by decide +kernel
theorem dx_needSet_33 : decode bx_needSet 33 = .ok (.return_, 1) := by decide +kernel
set_option maxHeartbeats 4000000 in
set_option maxRecDepth 100000 in
theorem ctx_needSet {v : wt_V} {s : wt_S} {a1 : Int32} (t : wt_M) (o : Nat → Int64) (hF : fx_needSet s a1 = some ()) : ct_C v yx_needSet (Cond.code yx_needSet bx_needSet 2 none) 10 [.ref (v.2.1 0), .int a1] none (s, t, o) (s, t, o) := by
  refine ct_of (lv := [(0, .ref (v.2.1 0)), (1, .int a1)]) (fun _ : Unit => none) (fun _ => (s, t, o)) (by decide) (Nat.le_of_ble_eq_true rfl) rfl ?_ () hF
  intro z hz am
  subst hz
  have am : wt_Am z R_X bx_needSet 2 10 none := am
  show jj_J z 2 0 [(0, .ref (ad_ z 0)), (1, .int a1)] [] (s, t, o) (q_U z s t o) (fx_needSet s a1)
  unfold fx_needSet
  refine ji_aload_n (q := 1) am dx_needSet_0 rfl 0 rfl rfl ?_
  refine ji_get_X_diagrams (q := 4) am dx_needSet_1 rfl ?_
  refine ji_aload_n (q := 5) am dx_needSet_4 rfl 0 rfl rfl ?_
  refine ji_get_X_diagrams (q := 8) am dx_needSet_5 rfl ?_
  refine ji_iload_n (q := 9) am dx_needSet_8 rfl 1 rfl rfl ?_
  refine jk_I (q := 12) (rest := [.ref (ad_ z 1)]) (fun r hF => jr_V [.int a1] am ln_X_d_root (ctd_root _ _ hF) (by omega) (rc_D am) rfl rfl (Nat.le_of_ble_eq_true rfl) dx_needSet_9) rfl ?_
  intro r9
  refine ji_iconst (q := 13) am dx_needSet_12 ki_0 rfl ?_
  refine jk_I (q := 16) (rest := []) (fun r hF => jr_N [.int r9, .int (0 : Int32)] am ln_X_d_support (ctd_support t o 9 _ _ _ _ hF) (by omega) (rc_D am) rfl rfl (Nat.le_of_ble_eq_true rfl) dx_needSet_13) rfl ?_
  intro r13
  refine ji_sipush (q := 19) am dx_needSet_16 ks_170 rfl ?_
  refine ji_iand (q := 20) am dx_needSet_19 rfl ?_
  refine ji_if_eq (q := 23) (g := 33) am dx_needSet_20 rfl rfl ?_ ?_
  · exact ji_vret am rfl dx_needSet_33 rfl rfl
  · exact ji_none

theorem dx_after_0 : decode bx_after 0 = .ok (.aload_n 0, 1) := by decide +kernel
theorem dx_after_1 : decode bx_after 1 = .ok (.getfield 10, 3) := by decide +kernel
theorem dx_after_4 : decode bx_after 4 = .ok (.aload_n 0, 1) := by decide +kernel
theorem dx_after_5 : decode bx_after 5 = .ok (.getfield 10, 3) := by decide +kernel
theorem dx_after_8 : decode bx_after 8 = .ok (.iload_n 1, 1) := by decide +kernel
theorem dx_after_9 : decode bx_after 9 = .ok (.iload_n 2, 1) := by decide +kernel
theorem dx_after_10 : decode bx_after 10 = .ok (.bipush 85, 2) := by decide +kernel
theorem dx_after_12 : decode bx_after 12 = .ok (.iconst 0, 1) := by decide +kernel
theorem dx_after_13 : decode bx_after 13 = .ok (.invokevirtual 51, 3) := by decide +kernel
theorem dx_after_16 : decode bx_after 16 = .ok (.iconst 0, 1) := by decide +kernel
theorem dx_after_17 : decode bx_after 17 = .ok (.invokevirtual 54, 3) := by decide +kernel
theorem dx_after_20 : decode bx_after 20 = .ok (.ireturn, 1) := by decide +kernel
set_option maxHeartbeats 4000000 in
set_option maxRecDepth 100000 in
theorem ctx_after {v : wt_V} {s : wt_S} {a1 : Int32} {a2 : Int32} {r : Int32} {s2 : wt_S} (t : wt_M) (o : Nat → Int64) (hF : fx_after s a1 a2 = some (r, s2)) : ct_C v yx_after (Cond.code yx_after bx_after 3 (some .int)) 21 [.ref (v.2.1 0), .int a1, .int a2] (some (.int r)) (s, t, o) (s2, t, o) := by
  refine ct_of (lv := [(0, .ref (v.2.1 0)), (1, .int a1), (2, .int a2)]) (fun r : Int32 × wt_S => some (.int r.1)) (fun r => (r.2, t, o)) (by decide) (Nat.le_of_ble_eq_true rfl) rfl ?_ (r, s2) hF
  intro z hz am
  subst hz
  have am : wt_Am z R_X bx_after 3 21 (some .int) := am
  show jj_J z 3 0 [(0, .ref (ad_ z 0)), (1, .int a1), (2, .int a2)] [] (s, t, o) (q_IS z t o) (fx_after s a1 a2)
  unfold fx_after
  refine ji_aload_n (q := 1) am dx_after_0 rfl 0 rfl rfl ?_
  refine ji_get_X_diagrams (q := 4) am dx_after_1 rfl ?_
  refine ji_aload_n (q := 5) am dx_after_4 rfl 0 rfl rfl ?_
  refine ji_get_X_diagrams (q := 8) am dx_after_5 rfl ?_
  refine ji_iload_n (q := 9) am dx_after_8 rfl 1 rfl rfl ?_
  refine ji_iload_n (q := 10) am dx_after_9 rfl 2 rfl rfl ?_
  refine ji_bipush (q := 12) am dx_after_10 kb_85 rfl ?_
  refine ji_iconst (q := 13) am dx_after_12 ki_0 rfl ?_
  refine jk_IS (q := 16) (rest := [.ref (ad_ z 1)]) (fun r s2 hF => jr_N [.int a1, .int a2, .int (85 : Int32), .int (0 : Int32)] am ln_X_d_overlap (ctd_overlap t o 9 _ _ _ _ _ _ _ hF) (by omega) (rc_D am) rfl rfl (Nat.le_of_ble_eq_true rfl) dx_after_13) rfl ?_
  intro r13 s13
  refine ji_iconst (q := 17) am dx_after_16 ki_0 rfl ?_
  refine jk_IS (q := 20) (rest := []) (fun r s2 hF => jr_N [.int r13, .int (0 : Int32)] am ln_X_d_mirror (ctd_mirror t o 9 _ _ _ _ _ hF) (by omega) (rc_D am) rfl rfl (Nat.le_of_ble_eq_true rfl) dx_after_17) rfl ?_
  intro r17 s17
  exact ji_iret am rfl dx_after_20 rfl rfl

theorem dx_states_0 : decode bx_states 0 = .ok (.aload_n 0, 1) := by decide +kernel
theorem dx_states_1 : decode bx_states 1 = .ok (.getfield 10, 3) := by decide +kernel
theorem dx_states_4 : decode bx_states 4 = .ok (.aload_n 0, 1) := by decide +kernel
theorem dx_states_5 : decode bx_states 5 = .ok (.getfield 10, 3) := by decide +kernel
theorem dx_states_8 : decode bx_states 8 = .ok (.iload_n 1, 1) := by decide +kernel
theorem dx_states_9 : decode bx_states 9 = .ok (.invokevirtual 34, 3) := by decide +kernel
theorem dx_states_12 : decode bx_states 12 = .ok (.iconst 0, 1) := by decide +kernel
theorem dx_states_13 : decode bx_states 13 = .ok (.invokevirtual 62, 3) := by decide +kernel
theorem dx_states_16 : decode bx_states 16 = .ok (.bipush 16, 2) := by decide +kernel
theorem dx_states_18 : decode bx_states 18 = .ok (.idiv, 1) := by decide +kernel
theorem dx_states_19 : decode bx_states 19 = .ok (.ireturn, 1) := by decide +kernel
set_option maxHeartbeats 4000000 in
set_option maxRecDepth 100000 in
theorem ctx_states {v : wt_V} {s : wt_S} {a1 : Int32} {r : Int32} (t : wt_M) (o : Nat → Int64) (hF : fx_states s a1 = some r) : ct_C v yx_states (Cond.code yx_states bx_states 2 (some .int)) 10 [.ref (v.2.1 0), .int a1] (some (.int r)) (s, t, o) (s, t, o) := by
  refine ct_of (lv := [(0, .ref (v.2.1 0)), (1, .int a1)]) (fun r : Int32 => some (.int r)) (fun _ => (s, t, o)) (by decide) (Nat.le_of_ble_eq_true rfl) rfl ?_ r hF
  intro z hz am
  subst hz
  have am : wt_Am z R_X bx_states 2 10 (some .int) := am
  show jj_J z 2 0 [(0, .ref (ad_ z 0)), (1, .int a1)] [] (s, t, o) (q_I z s t o) (fx_states s a1)
  unfold fx_states
  refine ji_aload_n (q := 1) am dx_states_0 rfl 0 rfl rfl ?_
  refine ji_get_X_diagrams (q := 4) am dx_states_1 rfl ?_
  refine ji_aload_n (q := 5) am dx_states_4 rfl 0 rfl rfl ?_
  refine ji_get_X_diagrams (q := 8) am dx_states_5 rfl ?_
  refine ji_iload_n (q := 9) am dx_states_8 rfl 1 rfl rfl ?_
  refine jk_I (q := 12) (rest := [.ref (ad_ z 1)]) (fun r hF => jr_V [.int a1] am ln_X_d_root (ctd_root _ _ hF) (by omega) (rc_D am) rfl rfl (Nat.le_of_ble_eq_true rfl) dx_states_9) rfl ?_
  intro r9
  refine ji_iconst (q := 13) am dx_states_12 ki_0 rfl ?_
  refine jk_I (q := 16) (rest := []) (fun r hF => jr_N [.int r9, .int (0 : Int32)] am ln_X_d_weight (ctd_weight t o 9 _ _ _ _ hF) (by omega) (rc_D am) rfl rfl (Nat.le_of_ble_eq_true rfl) dx_states_13) rfl ?_
  intro r13
  refine ji_bipush (q := 18) am dx_states_16 kb_16 rfl ?_
  refine ji_idiv (q := 19) am dx_states_18 (by decide) rfl ?_
  exact ji_iret am rfl dx_states_19 rfl rfl

theorem dx_image_0 : decode bx_image 0 = .ok (.iload_n 1, 1) := by decide +kernel
theorem dx_image_1 : decode bx_image 1 = .ok (.invokestatic 16, 3) := by decide +kernel
theorem dx_image_4 : decode bx_image 4 = .ok (.iload_n 2, 1) := by decide +kernel
theorem dx_image_5 : decode bx_image 5 = .ok (.invokestatic 16, 3) := by decide +kernel
theorem dx_image_8 : decode bx_image 8 = .ok (.iload_n 3, 1) := by decide +kernel
theorem dx_image_9 : decode bx_image 9 = .ok (.invokestatic 16, 3) := by decide +kernel
theorem dx_image_12 : decode bx_image 12 = .ok (.aload_n 0, 1) := by decide +kernel
theorem dx_image_13 : decode bx_image 13 = .ok (.iload_n 3, 1) := by decide +kernel
theorem dx_image_14 : decode bx_image 14 = .ok (.invokevirtual 87, 3) := by decide +kernel
theorem dx_image_17 : decode bx_image 17 = .ok (.aload_n 0, 1) := by decide +kernel
theorem dx_image_18 : decode bx_image 18 = .ok (.getfield 10, 3) := by decide +kernel
theorem dx_image_21 : decode bx_image 21 = .ok (.iload_n 1, 1) := by decide +kernel
theorem dx_image_22 : decode bx_image 22 = .ok (.aload_n 0, 1) := by decide +kernel
theorem dx_image_23 : decode bx_image 23 = .ok (.aload_n 0, 1) := by decide +kernel
theorem dx_image_24 : decode bx_image 24 = .ok (.getfield 10, 3) := by decide +kernel
theorem dx_image_27 : decode bx_image 27 = .ok (.iload_n 2, 1) := by decide +kernel
theorem dx_image_28 : decode bx_image 28 = .ok (.invokevirtual 34, 3) := by decide +kernel
theorem dx_image_31 : decode bx_image 31 = .ok (.aload_n 0, 1) := by decide +kernel
theorem dx_image_32 : decode bx_image 32 = .ok (.getfield 10, 3) := by decide +kernel
theorem dx_image_35 : decode bx_image 35 = .ok (.iload_n 3, 1) := by decide +kernel
theorem dx_image_36 : decode bx_image 36 = .ok (.invokevirtual 34, 3) := by decide +kernel
theorem dx_image_39 : decode bx_image 39 = .ok (.invokevirtual 90, 3) := by decide +kernel
theorem dx_image_42 : decode bx_image 42 = .ok (.invokevirtual 27, 3) := by decide +kernel
theorem dx_image_45 : decode bx_image 45 = .ok (.aload_n 0, 1) := by decide +kernel
theorem dx_image_46 : decode bx_image 46 = .ok (.iload_n 1, 1) := by decide +kernel
theorem dx_image_47 : decode bx_image 47 = .ok (.invokevirtual 93, 3) := by decide +kernel
theorem dx_image_50 : decode bx_image 50 = .ok (.ireturn, 1) := by decide +kernel
set_option maxHeartbeats 4000000 in
set_option maxRecDepth 100000 in
theorem ctx_image {v : wt_V} {s : wt_S} {a1 : Int32} {a2 : Int32} {a3 : Int32} {r : Int32} {s2 : wt_S} (t : wt_M) (o : Nat → Int64) (hF : fx_image s a1 a2 a3 = some (r, s2)) : ct_C v yx_image (Cond.code yx_image bx_image 4 (some .int)) 22 [.ref (v.2.1 0), .int a1, .int a2, .int a3] (some (.int r)) (s, t, o) (s2, t, o) := by
  refine ct_of (lv := [(0, .ref (v.2.1 0)), (1, .int a1), (2, .int a2), (3, .int a3)]) (fun r : Int32 × wt_S => some (.int r.1)) (fun r => (r.2, t, o)) (by decide) (Nat.le_of_ble_eq_true rfl) rfl ?_ (r, s2) hF
  intro z hz am
  subst hz
  have am : wt_Am z R_X bx_image 4 22 (some .int) := am
  show jj_J z 4 0 [(0, .ref (ad_ z 0)), (1, .int a1), (2, .int a2), (3, .int a3)] [] (s, t, o) (q_IS z t o) (fx_image s a1 a2 a3)
  unfold fx_image
  refine ji_iload_n (q := 1) am dx_image_0 rfl 1 rfl rfl ?_
  refine jk_U (q := 4) (rest := []) (fun u hF => jr_S [.int a1] am ln_X_x_needRegister (ctx_needRegister _ _ _ hF) (by omega) rfl rfl (Nat.le_of_ble_eq_true rfl) dx_image_1) rfl ?_
  intro u1
  refine ji_iload_n (q := 5) am dx_image_4 rfl 2 rfl rfl ?_
  refine jk_U (q := 8) (rest := []) (fun u hF => jr_S [.int a2] am ln_X_x_needRegister (ctx_needRegister _ _ _ hF) (by omega) rfl rfl (Nat.le_of_ble_eq_true rfl) dx_image_5) rfl ?_
  intro u5
  refine ji_iload_n (q := 9) am dx_image_8 rfl 3 rfl rfl ?_
  refine jk_U (q := 12) (rest := []) (fun u hF => jr_S [.int a3] am ln_X_x_needRegister (ctx_needRegister _ _ _ hF) (by omega) rfl rfl (Nat.le_of_ble_eq_true rfl) dx_image_9) rfl ?_
  intro u9
  refine ji_aload_n (q := 13) am dx_image_12 rfl 0 rfl rfl ?_
  refine ji_iload_n (q := 14) am dx_image_13 rfl 3 rfl rfl ?_
  refine jk_U (q := 17) (rest := []) (fun u hF => jr_V [.int a3] am ln_X_x_needSet (ctx_needSet _ _ hF) (by omega) (rc_X am) rfl rfl (Nat.le_of_ble_eq_true rfl) dx_image_14) rfl ?_
  intro u14
  refine ji_aload_n (q := 18) am dx_image_17 rfl 0 rfl rfl ?_
  refine ji_get_X_diagrams (q := 21) am dx_image_18 rfl ?_
  refine ji_iload_n (q := 22) am dx_image_21 rfl 1 rfl rfl ?_
  refine ji_aload_n (q := 23) am dx_image_22 rfl 0 rfl rfl ?_
  refine ji_aload_n (q := 24) am dx_image_23 rfl 0 rfl rfl ?_
  refine ji_get_X_diagrams (q := 27) am dx_image_24 rfl ?_
  refine ji_iload_n (q := 28) am dx_image_27 rfl 2 rfl rfl ?_
  refine jk_I (q := 31) (rest := [.ref (ad_ z 0), .int a1, .ref (ad_ z 1)]) (fun r hF => jr_V [.int a2] am ln_X_d_root (ctd_root _ _ hF) (by omega) (rc_D am) rfl rfl (Nat.le_of_ble_eq_true rfl) dx_image_28) rfl ?_
  intro r28
  refine ji_aload_n (q := 32) am dx_image_31 rfl 0 rfl rfl ?_
  refine ji_get_X_diagrams (q := 35) am dx_image_32 rfl ?_
  refine ji_iload_n (q := 36) am dx_image_35 rfl 3 rfl rfl ?_
  refine jk_I (q := 39) (rest := [.int r28, .ref (ad_ z 0), .int a1, .ref (ad_ z 1)]) (fun r hF => jr_V [.int a3] am ln_X_d_root (ctd_root _ _ hF) (by omega) (rc_D am) rfl rfl (Nat.le_of_ble_eq_true rfl) dx_image_36) rfl ?_
  intro r36
  refine jk_IS (q := 42) (rest := [.int a1, .ref (ad_ z 1)]) (fun r s2 hF => jr_V [.int r28, .int r36] am ln_X_x_after (ctx_after _ _ hF) (by omega) (rc_X am) rfl rfl (Nat.le_of_ble_eq_true rfl) dx_image_39) rfl ?_
  intro r39 s39
  refine jk_S (q := 45) (rest := []) (fun s2 hF => jr_V [.int a1, .int r39] am ln_X_d_keep (ctd_keep _ _ hF) (by omega) (rc_D am) rfl rfl (Nat.le_of_ble_eq_true rfl) dx_image_42) rfl ?_
  intro s42
  refine ji_aload_n (q := 46) am dx_image_45 rfl 0 rfl rfl ?_
  refine ji_iload_n (q := 47) am dx_image_46 rfl 1 rfl rfl ?_
  refine jk_I (q := 50) (rest := []) (fun r hF => jr_V [.int a1] am ln_X_x_states (ctx_states _ _ hF) (by omega) (rc_X am) rfl rfl (Nat.le_of_ble_eq_true rfl) dx_image_47) rfl ?_
  intro r47
  exact ji_iret am rfl dx_image_50 rfl rfl

theorem dx_reach_0 : decode bx_reach 0 = .ok (.iload_n 1, 1) := by decide +kernel
theorem dx_reach_1 : decode bx_reach 1 = .ok (.invokestatic 16, 3) := by decide +kernel
theorem dx_reach_4 : decode bx_reach 4 = .ok (.iload_n 2, 1) := by decide +kernel
theorem dx_reach_5 : decode bx_reach 5 = .ok (.invokestatic 16, 3) := by decide +kernel
theorem dx_reach_8 : decode bx_reach 8 = .ok (.iload_n 3, 1) := by decide +kernel
theorem dx_reach_9 : decode bx_reach 9 = .ok (.invokestatic 16, 3) := by decide +kernel
theorem dx_reach_12 : decode bx_reach 12 = .ok (.aload_n 0, 1) := by decide +kernel
theorem dx_reach_13 : decode bx_reach 13 = .ok (.iload_n 3, 1) := by decide +kernel
theorem dx_reach_14 : decode bx_reach 14 = .ok (.invokevirtual 87, 3) := by decide +kernel
theorem dx_reach_17 : decode bx_reach 17 = .ok (.aload_n 0, 1) := by decide +kernel
theorem dx_reach_18 : decode bx_reach 18 = .ok (.getfield 10, 3) := by decide +kernel
theorem dx_reach_21 : decode bx_reach 21 = .ok (.iload_n 2, 1) := by decide +kernel
theorem dx_reach_22 : decode bx_reach 22 = .ok (.invokevirtual 34, 3) := by decide +kernel
theorem dx_reach_25 : decode bx_reach 25 = .ok (.istore 4, 2) := by decide +kernel
theorem dx_reach_27 : decode bx_reach 27 = .ok (.aload_n 0, 1) := by decide +kernel
theorem dx_reach_28 : decode bx_reach 28 = .ok (.getfield 10, 3) := by decide +kernel
theorem dx_reach_31 : decode bx_reach 31 = .ok (.iload_n 3, 1) := by decide +kernel
theorem dx_reach_32 : decode bx_reach 32 = .ok (.invokevirtual 34, 3) := by decide +kernel
theorem dx_reach_35 : decode bx_reach 35 = .ok (.istore 5, 2) := by decide +kernel
theorem dx_reach_37 : decode bx_reach 37 = .ok (.iconst 0, 1) := by decide +kernel
theorem dx_reach_38 : decode bx_reach 38 = .ok (.istore 6, 2) := by decide +kernel
theorem dx_reach_40 : decode bx_reach 40 = .ok (.iconst 0, 1) := by decide +kernel
theorem dx_reach_41 : decode bx_reach 41 = .ok (.istore 7, 2) := by decide +kernel
theorem dx_reach_43 : decode bx_reach 43 = .ok (.iload 7, 2) := by decide +kernel
theorem dx_reach_45 : decode bx_reach 45 = .ok (.bipush 16, 2) := by decide +kernel
theorem dx_reach_47 : decode bx_reach 47 = .ok (.if_icmp .ge 66, 3) := by decide +kernel
theorem dx_reach_50 : decode bx_reach 50 = .ok (.aload_n 0, 1) := by decide +kernel
theorem dx_reach_51 : decode bx_reach 51 = .ok (.getfield 10, 3) := by decide +kernel
theorem dx_reach_54 : decode bx_reach 54 = .ok (.bipush 14, 2) := by decide +kernel
theorem dx_reach_56 : decode bx_reach 56 = .ok (.iload 5, 2) := by decide +kernel
theorem dx_reach_58 : decode bx_reach 58 = .ok (.aload_n 0, 1) := by decide +kernel
theorem dx_reach_59 : decode bx_reach 59 = .ok (.iload 4, 2) := by decide +kernel
theorem dx_reach_61 : decode bx_reach 61 = .ok (.iload 5, 2) := by decide +kernel
theorem dx_reach_63 : decode bx_reach 63 = .ok (.invokevirtual 90, 3) := by decide +kernel
theorem dx_reach_66 : decode bx_reach 66 = .ok (.iconst 0, 1) := by decide +kernel
theorem dx_reach_67 : decode bx_reach 67 = .ok (.invokevirtual 37, 3) := by decide +kernel
theorem dx_reach_70 : decode bx_reach 70 = .ok (.istore 8, 2) := by decide +kernel
theorem dx_reach_72 : decode bx_reach 72 = .ok (.iload 8, 2) := by decide +kernel
theorem dx_reach_74 : decode bx_reach 74 = .ok (.iload 5, 2) := by decide +kernel
theorem dx_reach_76 : decode bx_reach 76 = .ok (.if_icmp .ne 6, 3) := by decide +kernel
theorem dx_reach_79 : decode bx_reach 79 = .ok (.goto 34, 3) := by decide +kernel
theorem dx_reach_82 : decode bx_reach 82 = .ok (.iload 8, 2) := by decide +kernel
theorem dx_reach_84 : decode bx_reach 84 = .ok (.istore 5, 2) := by decide +kernel
theorem dx_reach_86 : decode bx_reach 86 = .ok (.iinc 6 1, 3) := by decide +kernel
theorem dx_reach_89 : decode bx_reach 89 = .ok (.aload_n 0, 1) := by decide +kernel
theorem dx_reach_90 : decode bx_reach 90 = .ok (.getfield 10, 3) := by decide +kernel
theorem dx_reach_93 : decode bx_reach 93 = .ok (.bipush 18, 2) := by decide +kernel
theorem dx_reach_95 : decode bx_reach 95 = .ok (.iload 5, 2) := by decide +kernel
theorem dx_reach_97 : decode bx_reach 97 = .ok (.invokevirtual 96, 3) := by decide +kernel
theorem dx_reach_100 : decode bx_reach 100 = .ok (.aload_n 0, 1) := by decide +kernel
theorem dx_reach_101 : decode bx_reach 101 = .ok (.getfield 10, 3) := by decide +kernel
theorem dx_reach_104 : decode bx_reach 104 = .ok (.invokevirtual 99, 3) := by decide +kernel
theorem dx_reach_107 : decode bx_reach 107 = .ok (.iinc 7 1, 3) := by decide +kernel
theorem dx_reach_110 : decode bx_reach 110 = .ok (.goto (-67), 3) := by decide +kernel
theorem dx_reach_113 : decode bx_reach 113 = .ok (.aload_n 0, 1) := by decide +kernel
theorem dx_reach_114 : decode bx_reach 114 = .ok (.getfield 10, 3) := by decide +kernel
theorem dx_reach_117 : decode bx_reach 117 = .ok (.iload_n 1, 1) := by decide +kernel
theorem dx_reach_118 : decode bx_reach 118 = .ok (.iload 5, 2) := by decide +kernel
theorem dx_reach_120 : decode bx_reach 120 = .ok (.invokevirtual 27, 3) := by decide +kernel
theorem dx_reach_123 : decode bx_reach 123 = .ok (.iload 6, 2) := by decide +kernel
theorem dx_reach_125 : decode bx_reach 125 = .ok (.ireturn, 1) := by decide +kernel
set_option maxHeartbeats 4000000 in
set_option maxRecDepth 100000 in
theorem lx_reach_43 {z : wt_Z} {t : wt_M} {o : Nat → Int64} {c1 : Int32} {c4 : Int32} {K : Int32 → Int32 → wt_S → Option (Int32 × wt_S)} (am : wt_Am z R_X bx_reach 9 22 (some .int)) (hK : ∀ (e5 : Int32) (e6 : Int32) (s3 : wt_S), jj_J z 9 113 [(0, .ref (ad_ z 0)), (1, .int c1), (5, .int e5), (6, .int e6)] [] (s3, t, o) (q_IS z t o) (K e5 e6 s3)) : ∀ (n : Nat) (x5 : Int32) (x6 : Int32) (x7 : Int32) (s : wt_S), jj_J z 9 43 [(0, .ref (ad_ z 0)), (1, .int c1), (4, .int c4), (5, .int x5), (6, .int x6), (7, .int x7)] [] (s, t, o) (q_IS z t o) (fx_reach_L43 c1 c4 K n x5 x6 x7 s) := by
  intro n
  induction n with
  | zero =>
    intro x5 x6 x7 s
    exact ji_none
  | succ n ih =>
    intro x5 x6 x7 s
    rw [fx_reach_L43]
    refine ji_iload (q := 45) am dx_reach_43 5 rfl rfl ?_
    refine ji_bipush (q := 47) am dx_reach_45 kb_16 rfl ?_
    refine ji_icmp_ge (q := 50) (g := 113) am dx_reach_47 rfl rfl ?_ ?_
    · exact ji_sub (lv' := [(0, .ref (ad_ z 0)), (1, .int c1), (5, .int x5), (6, .int x6)]) [0, 1, 3, 4] rfl (hK _ _ _)
    · refine ji_aload_n (q := 51) am dx_reach_50 rfl 0 rfl rfl ?_
      refine ji_get_X_diagrams (q := 54) am dx_reach_51 rfl ?_
      refine ji_bipush (q := 56) am dx_reach_54 kb_14 rfl ?_
      refine ji_iload (q := 58) am dx_reach_56 3 rfl rfl ?_
      refine ji_aload_n (q := 59) am dx_reach_58 rfl 0 rfl rfl ?_
      refine ji_iload (q := 61) am dx_reach_59 2 rfl rfl ?_
      refine ji_iload (q := 63) am dx_reach_61 3 rfl rfl ?_
      refine jk_IS (q := 66) (rest := [.int x5, .int (14 : Int32), .ref (ad_ z 1)]) (fun r s2 hF => jr_V [.int c4, .int x5] am ln_X_x_after (ctx_after _ _ hF) (by omega) (rc_X am) rfl rfl (Nat.le_of_ble_eq_true rfl) dx_reach_63) rfl ?_
      intro r63 s63
      refine ji_iconst (q := 67) am dx_reach_66 ki_0 rfl ?_
      refine jk_IS (q := 70) (rest := []) (fun r s2 hF => jr_N [.int (14 : Int32), .int x5, .int r63, .int (0 : Int32)] am ln_X_d_join (ctd_join t o 9 _ _ _ _ _ _ _ hF) (by omega) (rc_D am) rfl rfl (Nat.le_of_ble_eq_true rfl) dx_reach_67) rfl ?_
      intro r67 s67
      refine ji_istore (lv' := [(0, .ref (ad_ z 0)), (1, .int c1), (4, .int c4), (5, .int x5), (6, .int x6), (7, .int x7), (8, .int r67)]) (q := 72) am dx_reach_70 [1, 2, 3, 4, 5, 6, 0] rfl rfl rfl ?_
      refine ji_iload (q := 74) am dx_reach_72 6 rfl rfl ?_
      refine ji_iload (q := 76) am dx_reach_74 3 rfl rfl ?_
      refine ji_icmp_ne (q := 79) (g := 82) am dx_reach_76 rfl rfl ?_ ?_
      · refine ji_iload (q := 84) am dx_reach_82 6 rfl rfl ?_
        refine ji_istore (lv' := [(0, .ref (ad_ z 0)), (1, .int c1), (4, .int c4), (5, .int r67), (6, .int x6), (7, .int x7), (8, .int r67)]) (q := 86) am dx_reach_84 [1, 2, 3, 0, 4, 5, 6] rfl rfl rfl ?_
        refine ji_iinc (q := 89) (lv' := [(0, .ref (ad_ z 0)), (1, .int c1), (4, .int c4), (5, .int r67), (6, .int (x6 + 1)), (7, .int x7), (8, .int r67)]) am dx_reach_86 4 rfl ki_1 [1, 2, 3, 4, 0, 5, 6] rfl rfl rfl ?_
        refine ji_aload_n (q := 90) am dx_reach_89 rfl 0 rfl rfl ?_
        refine ji_get_X_diagrams (q := 93) am dx_reach_90 rfl ?_
        refine ji_bipush (q := 95) am dx_reach_93 kb_18 rfl ?_
        refine ji_iload (q := 97) am dx_reach_95 3 rfl rfl ?_
        refine jk_S (q := 100) (rest := []) (fun s2 hF => jr_V [.int (18 : Int32), .int r67] am ln_X_d_hold (ctd_hold _ _ hF) (by omega) (rc_D am) rfl rfl (Nat.le_of_ble_eq_true rfl) dx_reach_97) rfl ?_
        intro s97
        refine ji_aload_n (q := 101) am dx_reach_100 rfl 0 rfl rfl ?_
        refine ji_get_X_diagrams (q := 104) am dx_reach_101 rfl ?_
        refine jk_S (q := 107) (rest := []) (fun s2 hF => jr_V [] am ln_X_d_collect (ctd_collect _ _ hF) (by omega) (rc_D am) rfl rfl (Nat.le_of_ble_eq_true rfl) dx_reach_104) rfl ?_
        intro s104
        refine ji_iinc (q := 110) (lv' := [(0, .ref (ad_ z 0)), (1, .int c1), (4, .int c4), (5, .int r67), (6, .int (x6 + 1)), (7, .int (x7 + 1)), (8, .int r67)]) am dx_reach_107 5 rfl ki_1 [1, 2, 3, 4, 5, 0, 6] rfl rfl rfl ?_
        refine ji_goto (q := 43) am dx_reach_110 rfl ?_
        exact ji_sub (lv' := [(0, .ref (ad_ z 0)), (1, .int c1), (4, .int c4), (5, .int r67), (6, .int (x6 + 1)), (7, .int (x7 + 1))]) [0, 1, 2, 3, 4, 5] rfl (ih _ _ _ _)
      · refine ji_goto (q := 113) am dx_reach_79 rfl ?_
        exact ji_sub (lv' := [(0, .ref (ad_ z 0)), (1, .int c1), (5, .int x5), (6, .int x6)]) [0, 1, 3, 4] rfl (hK _ _ _)
set_option maxHeartbeats 4000000 in
set_option maxRecDepth 100000 in
theorem ctx_reach {v : wt_V} {s : wt_S} {a1 : Int32} {a2 : Int32} {a3 : Int32} {r : Int32} {s2 : wt_S} (t : wt_M) (o : Nat → Int64) (hF : fx_reach s a1 a2 a3 = some (r, s2)) : ct_C v yx_reach (Cond.code yx_reach bx_reach 9 (some .int)) 22 [.ref (v.2.1 0), .int a1, .int a2, .int a3] (some (.int r)) (s, t, o) (s2, t, o) := by
  refine ct_of (lv := [(0, .ref (v.2.1 0)), (1, .int a1), (2, .int a2), (3, .int a3)]) (fun r : Int32 × wt_S => some (.int r.1)) (fun r => (r.2, t, o)) (by decide) (Nat.le_of_ble_eq_true rfl) rfl ?_ (r, s2) hF
  intro z hz am
  subst hz
  have am : wt_Am z R_X bx_reach 9 22 (some .int) := am
  show jj_J z 9 0 [(0, .ref (ad_ z 0)), (1, .int a1), (2, .int a2), (3, .int a3)] [] (s, t, o) (q_IS z t o) (fx_reach s a1 a2 a3)
  unfold fx_reach
  refine ji_iload_n (q := 1) am dx_reach_0 rfl 1 rfl rfl ?_
  refine jk_U (q := 4) (rest := []) (fun u hF => jr_S [.int a1] am ln_X_x_needRegister (ctx_needRegister _ _ _ hF) (by omega) rfl rfl (Nat.le_of_ble_eq_true rfl) dx_reach_1) rfl ?_
  intro u1
  refine ji_iload_n (q := 5) am dx_reach_4 rfl 2 rfl rfl ?_
  refine jk_U (q := 8) (rest := []) (fun u hF => jr_S [.int a2] am ln_X_x_needRegister (ctx_needRegister _ _ _ hF) (by omega) rfl rfl (Nat.le_of_ble_eq_true rfl) dx_reach_5) rfl ?_
  intro u5
  refine ji_iload_n (q := 9) am dx_reach_8 rfl 3 rfl rfl ?_
  refine jk_U (q := 12) (rest := []) (fun u hF => jr_S [.int a3] am ln_X_x_needRegister (ctx_needRegister _ _ _ hF) (by omega) rfl rfl (Nat.le_of_ble_eq_true rfl) dx_reach_9) rfl ?_
  intro u9
  refine ji_aload_n (q := 13) am dx_reach_12 rfl 0 rfl rfl ?_
  refine ji_iload_n (q := 14) am dx_reach_13 rfl 3 rfl rfl ?_
  refine jk_U (q := 17) (rest := []) (fun u hF => jr_V [.int a3] am ln_X_x_needSet (ctx_needSet _ _ hF) (by omega) (rc_X am) rfl rfl (Nat.le_of_ble_eq_true rfl) dx_reach_14) rfl ?_
  intro u14
  refine ji_aload_n (q := 18) am dx_reach_17 rfl 0 rfl rfl ?_
  refine ji_get_X_diagrams (q := 21) am dx_reach_18 rfl ?_
  refine ji_iload_n (q := 22) am dx_reach_21 rfl 2 rfl rfl ?_
  refine jk_I (q := 25) (rest := []) (fun r hF => jr_V [.int a2] am ln_X_d_root (ctd_root _ _ hF) (by omega) (rc_D am) rfl rfl (Nat.le_of_ble_eq_true rfl) dx_reach_22) rfl ?_
  intro r22
  refine ji_istore (lv' := [(0, .ref (ad_ z 0)), (1, .int a1), (2, .int a2), (3, .int a3), (4, .int r22)]) (q := 27) am dx_reach_25 [1, 2, 3, 4, 0] rfl rfl rfl ?_
  refine ji_aload_n (q := 28) am dx_reach_27 rfl 0 rfl rfl ?_
  refine ji_get_X_diagrams (q := 31) am dx_reach_28 rfl ?_
  refine ji_iload_n (q := 32) am dx_reach_31 rfl 3 rfl rfl ?_
  refine jk_I (q := 35) (rest := []) (fun r hF => jr_V [.int a3] am ln_X_d_root (ctd_root _ _ hF) (by omega) (rc_D am) rfl rfl (Nat.le_of_ble_eq_true rfl) dx_reach_32) rfl ?_
  intro r32
  refine ji_istore (lv' := [(0, .ref (ad_ z 0)), (1, .int a1), (2, .int a2), (3, .int a3), (4, .int r22), (5, .int r32)]) (q := 37) am dx_reach_35 [1, 2, 3, 4, 5, 0] rfl rfl rfl ?_
  refine ji_iconst (q := 38) am dx_reach_37 ki_0 rfl ?_
  refine ji_istore (lv' := [(0, .ref (ad_ z 0)), (1, .int a1), (2, .int a2), (3, .int a3), (4, .int r22), (5, .int r32), (6, .int (0 : Int32))]) (q := 40) am dx_reach_38 [1, 2, 3, 4, 5, 6, 0] rfl rfl rfl ?_
  refine ji_iconst (q := 41) am dx_reach_40 ki_0 rfl ?_
  refine ji_istore (lv' := [(0, .ref (ad_ z 0)), (1, .int a1), (2, .int a2), (3, .int a3), (4, .int r22), (5, .int r32), (6, .int (0 : Int32)), (7, .int (0 : Int32))]) (q := 43) am dx_reach_41 [1, 2, 3, 4, 5, 6, 7, 0] rfl rfl rfl ?_
  refine ji_sub (lv' := [(0, .ref (ad_ z 0)), (1, .int a1), (4, .int r22), (5, .int r32), (6, .int (0 : Int32)), (7, .int (0 : Int32))]) [0, 1, 4, 5, 6, 7] rfl (lx_reach_43 am (fun z5_43 z6_43 s_43 => ?_) 5000 _ _ _ _)
  refine ji_aload_n (q := 114) am dx_reach_113 rfl 0 rfl rfl ?_
  refine ji_get_X_diagrams (q := 117) am dx_reach_114 rfl ?_
  refine ji_iload_n (q := 118) am dx_reach_117 rfl 1 rfl rfl ?_
  refine ji_iload (q := 120) am dx_reach_118 2 rfl rfl ?_
  refine jk_S (q := 123) (rest := []) (fun s2 hF => jr_V [.int a1, .int z5_43] am ln_X_d_keep (ctd_keep _ _ hF) (by omega) (rc_D am) rfl rfl (Nat.le_of_ble_eq_true rfl) dx_reach_120) rfl ?_
  intro s120
  refine ji_iload (q := 125) am dx_reach_123 3 rfl rfl ?_
  exact ji_iret am rfl dx_reach_125 rfl rfl

theorem dx_before_0 : decode bx_before 0 = .ok (.aload_n 0, 1) := by decide +kernel
theorem dx_before_1 : decode bx_before 1 = .ok (.getfield 10, 3) := by decide +kernel
theorem dx_before_4 : decode bx_before 4 = .ok (.iload_n 1, 1) := by decide +kernel
theorem dx_before_5 : decode bx_before 5 = .ok (.aload_n 0, 1) := by decide +kernel
theorem dx_before_6 : decode bx_before 6 = .ok (.getfield 10, 3) := by decide +kernel
theorem dx_before_9 : decode bx_before 9 = .ok (.iload_n 2, 1) := by decide +kernel
theorem dx_before_10 : decode bx_before 10 = .ok (.iconst 0, 1) := by decide +kernel
theorem dx_before_11 : decode bx_before 11 = .ok (.invokevirtual 54, 3) := by decide +kernel
theorem dx_before_14 : decode bx_before 14 = .ok (.sipush 170, 3) := by decide +kernel
theorem dx_before_17 : decode bx_before 17 = .ok (.iconst 0, 1) := by decide +kernel
theorem dx_before_18 : decode bx_before 18 = .ok (.invokevirtual 51, 3) := by decide +kernel
theorem dx_before_21 : decode bx_before 21 = .ok (.ireturn, 1) := by decide +kernel
set_option maxHeartbeats 4000000 in
set_option maxRecDepth 100000 in
theorem ctx_before {v : wt_V} {s : wt_S} {a1 : Int32} {a2 : Int32} {r : Int32} {s2 : wt_S} (t : wt_M) (o : Nat → Int64) (hF : fx_before s a1 a2 = some (r, s2)) : ct_C v yx_before (Cond.code yx_before bx_before 3 (some .int)) 21 [.ref (v.2.1 0), .int a1, .int a2] (some (.int r)) (s, t, o) (s2, t, o) := by
  refine ct_of (lv := [(0, .ref (v.2.1 0)), (1, .int a1), (2, .int a2)]) (fun r : Int32 × wt_S => some (.int r.1)) (fun r => (r.2, t, o)) (by decide) (Nat.le_of_ble_eq_true rfl) rfl ?_ (r, s2) hF
  intro z hz am
  subst hz
  have am : wt_Am z R_X bx_before 3 21 (some .int) := am
  show jj_J z 3 0 [(0, .ref (ad_ z 0)), (1, .int a1), (2, .int a2)] [] (s, t, o) (q_IS z t o) (fx_before s a1 a2)
  unfold fx_before
  refine ji_aload_n (q := 1) am dx_before_0 rfl 0 rfl rfl ?_
  refine ji_get_X_diagrams (q := 4) am dx_before_1 rfl ?_
  refine ji_iload_n (q := 5) am dx_before_4 rfl 1 rfl rfl ?_
  refine ji_aload_n (q := 6) am dx_before_5 rfl 0 rfl rfl ?_
  refine ji_get_X_diagrams (q := 9) am dx_before_6 rfl ?_
  refine ji_iload_n (q := 10) am dx_before_9 rfl 2 rfl rfl ?_
  refine ji_iconst (q := 11) am dx_before_10 ki_0 rfl ?_
  refine jk_IS (q := 14) (rest := [.int a1, .ref (ad_ z 1)]) (fun r s2 hF => jr_N [.int a2, .int (0 : Int32)] am ln_X_d_mirror (ctd_mirror t o 9 _ _ _ _ _ hF) (by omega) (rc_D am) rfl rfl (Nat.le_of_ble_eq_true rfl) dx_before_11) rfl ?_
  intro r11 s11
  refine ji_sipush (q := 17) am dx_before_14 ks_170 rfl ?_
  refine ji_iconst (q := 18) am dx_before_17 ki_0 rfl ?_
  refine jk_IS (q := 21) (rest := []) (fun r s2 hF => jr_N [.int a1, .int r11, .int (170 : Int32), .int (0 : Int32)] am ln_X_d_overlap (ctd_overlap t o 9 _ _ _ _ _ _ _ hF) (by omega) (rc_D am) rfl rfl (Nat.le_of_ble_eq_true rfl) dx_before_18) rfl ?_
  intro r18 s18
  exact ji_iret am rfl dx_before_21 rfl rfl

theorem dx_settle_0 : decode bx_settle 0 = .ok (.aload_n 0, 1) := by decide +kernel
theorem dx_settle_1 : decode bx_settle 1 = .ok (.getfield 10, 3) := by decide +kernel
theorem dx_settle_4 : decode bx_settle 4 = .ok (.bipush 16, 2) := by decide +kernel
theorem dx_settle_6 : decode bx_settle 6 = .ok (.iload_n 2, 1) := by decide +kernel
theorem dx_settle_7 : decode bx_settle 7 = .ok (.invokevirtual 96, 3) := by decide +kernel
theorem dx_settle_10 : decode bx_settle 10 = .ok (.aload_n 0, 1) := by decide +kernel
theorem dx_settle_11 : decode bx_settle 11 = .ok (.getfield 10, 3) := by decide +kernel
theorem dx_settle_14 : decode bx_settle 14 = .ok (.bipush 17, 2) := by decide +kernel
theorem dx_settle_16 : decode bx_settle 16 = .ok (.iload_n 3, 1) := by decide +kernel
theorem dx_settle_17 : decode bx_settle 17 = .ok (.invokevirtual 96, 3) := by decide +kernel
theorem dx_settle_20 : decode bx_settle 20 = .ok (.iload 4, 2) := by decide +kernel
theorem dx_settle_22 : decode bx_settle 22 = .ok (.istore 5, 2) := by decide +kernel
theorem dx_settle_24 : decode bx_settle 24 = .ok (.iconst 0, 1) := by decide +kernel
theorem dx_settle_25 : decode bx_settle 25 = .ok (.istore 6, 2) := by decide +kernel
theorem dx_settle_27 : decode bx_settle 27 = .ok (.iload 6, 2) := by decide +kernel
theorem dx_settle_29 : decode bx_settle 29 = .ok (.bipush 16, 2) := by decide +kernel
theorem dx_settle_31 : decode bx_settle 31 = .ok (.if_icmp .gt 72, 3) := by decide +kernel
theorem dx_settle_34 : decode bx_settle 34 = .ok (.aload_n 0, 1) := by decide +kernel
theorem dx_settle_35 : decode bx_settle 35 = .ok (.getfield 10, 3) := by decide +kernel
theorem dx_settle_38 : decode bx_settle 38 = .ok (.bipush 14, 2) := by decide +kernel
theorem dx_settle_40 : decode bx_settle 40 = .ok (.iload_n 3, 1) := by decide +kernel
theorem dx_settle_41 : decode bx_settle 41 = .ok (.aload_n 0, 1) := by decide +kernel
theorem dx_settle_42 : decode bx_settle 42 = .ok (.getfield 10, 3) := by decide +kernel
theorem dx_settle_45 : decode bx_settle 45 = .ok (.bipush 8, 2) := by decide +kernel
theorem dx_settle_47 : decode bx_settle 47 = .ok (.iload_n 2, 1) := by decide +kernel
theorem dx_settle_48 : decode bx_settle 48 = .ok (.aload_n 0, 1) := by decide +kernel
theorem dx_settle_49 : decode bx_settle 49 = .ok (.iload_n 1, 1) := by decide +kernel
theorem dx_settle_50 : decode bx_settle 50 = .ok (.iload 5, 2) := by decide +kernel
theorem dx_settle_52 : decode bx_settle 52 = .ok (.invokevirtual 102, 3) := by decide +kernel
theorem dx_settle_55 : decode bx_settle 55 = .ok (.iconst 0, 1) := by decide +kernel
theorem dx_settle_56 : decode bx_settle 56 = .ok (.invokevirtual 37, 3) := by decide +kernel
theorem dx_settle_59 : decode bx_settle 59 = .ok (.iconst 0, 1) := by decide +kernel
theorem dx_settle_60 : decode bx_settle 60 = .ok (.invokevirtual 37, 3) := by decide +kernel
theorem dx_settle_63 : decode bx_settle 63 = .ok (.istore 7, 2) := by decide +kernel
theorem dx_settle_65 : decode bx_settle 65 = .ok (.iload 7, 2) := by decide +kernel
theorem dx_settle_67 : decode bx_settle 67 = .ok (.iload 5, 2) := by decide +kernel
theorem dx_settle_69 : decode bx_settle 69 = .ok (.if_icmp .ne 6, 3) := by decide +kernel
theorem dx_settle_72 : decode bx_settle 72 = .ok (.goto 31, 3) := by decide +kernel
theorem dx_settle_75 : decode bx_settle 75 = .ok (.iload 7, 2) := by decide +kernel
theorem dx_settle_77 : decode bx_settle 77 = .ok (.istore 5, 2) := by decide +kernel
theorem dx_settle_79 : decode bx_settle 79 = .ok (.aload_n 0, 1) := by decide +kernel
theorem dx_settle_80 : decode bx_settle 80 = .ok (.getfield 10, 3) := by decide +kernel
theorem dx_settle_83 : decode bx_settle 83 = .ok (.bipush 18, 2) := by decide +kernel
theorem dx_settle_85 : decode bx_settle 85 = .ok (.iload 5, 2) := by decide +kernel
theorem dx_settle_87 : decode bx_settle 87 = .ok (.invokevirtual 96, 3) := by decide +kernel
theorem dx_settle_90 : decode bx_settle 90 = .ok (.aload_n 0, 1) := by decide +kernel
theorem dx_settle_91 : decode bx_settle 91 = .ok (.getfield 10, 3) := by decide +kernel
theorem dx_settle_94 : decode bx_settle 94 = .ok (.invokevirtual 99, 3) := by decide +kernel
theorem dx_settle_97 : decode bx_settle 97 = .ok (.iinc 6 1, 3) := by decide +kernel
theorem dx_settle_100 : decode bx_settle 100 = .ok (.goto (-73), 3) := by decide +kernel
theorem dx_settle_103 : decode bx_settle 103 = .ok (.iload 5, 2) := by decide +kernel
theorem dx_settle_105 : decode bx_settle 105 = .ok (.ireturn, 1) := by decide +kernel
set_option maxHeartbeats 4000000 in
set_option maxRecDepth 100000 in
theorem lx_settle_27 {z : wt_Z} {t : wt_M} {o : Nat → Int64} {c1 : Int32} {c2 : Int32} {c3 : Int32} {K : Int32 → wt_S → Option (Int32 × wt_S)} (am : wt_Am z R_X bx_settle 8 22 (some .int)) (hK : ∀ (e5 : Int32) (s3 : wt_S), jj_J z 8 103 [(5, .int e5)] [] (s3, t, o) (q_IS z t o) (K e5 s3)) : ∀ (n : Nat) (x5 : Int32) (x6 : Int32) (s : wt_S), jj_J z 8 27 [(0, .ref (ad_ z 0)), (1, .int c1), (2, .int c2), (3, .int c3), (5, .int x5), (6, .int x6)] [] (s, t, o) (q_IS z t o) (fx_settle_L27 c1 c2 c3 K n x5 x6 s) := by
  intro n
  induction n with
  | zero =>
    intro x5 x6 s
    exact ji_none
  | succ n ih =>
    intro x5 x6 s
    rw [fx_settle_L27]
    refine ji_iload (q := 29) am dx_settle_27 5 rfl rfl ?_
    refine ji_bipush (q := 31) am dx_settle_29 kb_16 rfl ?_
    refine ji_icmp_gt (q := 34) (g := 103) am dx_settle_31 rfl rfl ?_ ?_
    · exact ji_sub (lv' := [(5, .int x5)]) [4] rfl (hK _ _)
    · refine ji_aload_n (q := 35) am dx_settle_34 rfl 0 rfl rfl ?_
      refine ji_get_X_diagrams (q := 38) am dx_settle_35 rfl ?_
      refine ji_bipush (q := 40) am dx_settle_38 kb_14 rfl ?_
      refine ji_iload_n (q := 41) am dx_settle_40 rfl 3 rfl rfl ?_
      refine ji_aload_n (q := 42) am dx_settle_41 rfl 0 rfl rfl ?_
      refine ji_get_X_diagrams (q := 45) am dx_settle_42 rfl ?_
      refine ji_bipush (q := 47) am dx_settle_45 kb_8 rfl ?_
      refine ji_iload_n (q := 48) am dx_settle_47 rfl 2 rfl rfl ?_
      refine ji_aload_n (q := 49) am dx_settle_48 rfl 0 rfl rfl ?_
      refine ji_iload_n (q := 50) am dx_settle_49 rfl 1 rfl rfl ?_
      refine ji_iload (q := 52) am dx_settle_50 4 rfl rfl ?_
      refine jk_IS (q := 55) (rest := [.int c2, .int (8 : Int32), .ref (ad_ z 1), .int c3, .int (14 : Int32), .ref (ad_ z 1)]) (fun r s2 hF => jr_V [.int c1, .int x5] am ln_X_x_before (ctx_before _ _ hF) (by omega) (rc_X am) rfl rfl (Nat.le_of_ble_eq_true rfl) dx_settle_52) rfl ?_
      intro r52 s52
      refine ji_iconst (q := 56) am dx_settle_55 ki_0 rfl ?_
      refine jk_IS (q := 59) (rest := [.int c3, .int (14 : Int32), .ref (ad_ z 1)]) (fun r s2 hF => jr_N [.int (8 : Int32), .int c2, .int r52, .int (0 : Int32)] am ln_X_d_join (ctd_join t o 9 _ _ _ _ _ _ _ hF) (by omega) (rc_D am) rfl rfl (Nat.le_of_ble_eq_true rfl) dx_settle_56) rfl ?_
      intro r56 s56
      refine ji_iconst (q := 60) am dx_settle_59 ki_0 rfl ?_
      refine jk_IS (q := 63) (rest := []) (fun r s2 hF => jr_N [.int (14 : Int32), .int c3, .int r56, .int (0 : Int32)] am ln_X_d_join (ctd_join t o 9 _ _ _ _ _ _ _ hF) (by omega) (rc_D am) rfl rfl (Nat.le_of_ble_eq_true rfl) dx_settle_60) rfl ?_
      intro r60 s60
      refine ji_istore (lv' := [(0, .ref (ad_ z 0)), (1, .int c1), (2, .int c2), (3, .int c3), (5, .int x5), (6, .int x6), (7, .int r60)]) (q := 65) am dx_settle_63 [1, 2, 3, 4, 5, 6, 0] rfl rfl rfl ?_
      refine ji_iload (q := 67) am dx_settle_65 6 rfl rfl ?_
      refine ji_iload (q := 69) am dx_settle_67 4 rfl rfl ?_
      refine ji_icmp_ne (q := 72) (g := 75) am dx_settle_69 rfl rfl ?_ ?_
      · refine ji_iload (q := 77) am dx_settle_75 6 rfl rfl ?_
        refine ji_istore (lv' := [(0, .ref (ad_ z 0)), (1, .int c1), (2, .int c2), (3, .int c3), (5, .int r60), (6, .int x6), (7, .int r60)]) (q := 79) am dx_settle_77 [1, 2, 3, 4, 0, 5, 6] rfl rfl rfl ?_
        refine ji_aload_n (q := 80) am dx_settle_79 rfl 0 rfl rfl ?_
        refine ji_get_X_diagrams (q := 83) am dx_settle_80 rfl ?_
        refine ji_bipush (q := 85) am dx_settle_83 kb_18 rfl ?_
        refine ji_iload (q := 87) am dx_settle_85 4 rfl rfl ?_
        refine jk_S (q := 90) (rest := []) (fun s2 hF => jr_V [.int (18 : Int32), .int r60] am ln_X_d_hold (ctd_hold _ _ hF) (by omega) (rc_D am) rfl rfl (Nat.le_of_ble_eq_true rfl) dx_settle_87) rfl ?_
        intro s87
        refine ji_aload_n (q := 91) am dx_settle_90 rfl 0 rfl rfl ?_
        refine ji_get_X_diagrams (q := 94) am dx_settle_91 rfl ?_
        refine jk_S (q := 97) (rest := []) (fun s2 hF => jr_V [] am ln_X_d_collect (ctd_collect _ _ hF) (by omega) (rc_D am) rfl rfl (Nat.le_of_ble_eq_true rfl) dx_settle_94) rfl ?_
        intro s94
        refine ji_iinc (q := 100) (lv' := [(0, .ref (ad_ z 0)), (1, .int c1), (2, .int c2), (3, .int c3), (5, .int r60), (6, .int (x6 + 1)), (7, .int r60)]) am dx_settle_97 5 rfl ki_1 [1, 2, 3, 4, 5, 0, 6] rfl rfl rfl ?_
        refine ji_goto (q := 27) am dx_settle_100 rfl ?_
        exact ji_sub (lv' := [(0, .ref (ad_ z 0)), (1, .int c1), (2, .int c2), (3, .int c3), (5, .int r60), (6, .int (x6 + 1))]) [0, 1, 2, 3, 4, 5] rfl (ih _ _ _)
      · refine ji_goto (q := 103) am dx_settle_72 rfl ?_
        exact ji_sub (lv' := [(5, .int x5)]) [4] rfl (hK _ _)
set_option maxHeartbeats 4000000 in
set_option maxRecDepth 100000 in
theorem ctx_settle {v : wt_V} {s : wt_S} {a1 : Int32} {a2 : Int32} {a3 : Int32} {a4 : Int32} {r : Int32} {s2 : wt_S} (t : wt_M) (o : Nat → Int64) (hF : fx_settle s a1 a2 a3 a4 = some (r, s2)) : ct_C v yx_settle (Cond.code yx_settle bx_settle 8 (some .int)) 22 [.ref (v.2.1 0), .int a1, .int a2, .int a3, .int a4] (some (.int r)) (s, t, o) (s2, t, o) := by
  refine ct_of (lv := [(0, .ref (v.2.1 0)), (1, .int a1), (2, .int a2), (3, .int a3), (4, .int a4)]) (fun r : Int32 × wt_S => some (.int r.1)) (fun r => (r.2, t, o)) (by decide) (Nat.le_of_ble_eq_true rfl) rfl ?_ (r, s2) hF
  intro z hz am
  subst hz
  have am : wt_Am z R_X bx_settle 8 22 (some .int) := am
  show jj_J z 8 0 [(0, .ref (ad_ z 0)), (1, .int a1), (2, .int a2), (3, .int a3), (4, .int a4)] [] (s, t, o) (q_IS z t o) (fx_settle s a1 a2 a3 a4)
  unfold fx_settle
  refine ji_aload_n (q := 1) am dx_settle_0 rfl 0 rfl rfl ?_
  refine ji_get_X_diagrams (q := 4) am dx_settle_1 rfl ?_
  refine ji_bipush (q := 6) am dx_settle_4 kb_16 rfl ?_
  refine ji_iload_n (q := 7) am dx_settle_6 rfl 2 rfl rfl ?_
  refine jk_S (q := 10) (rest := []) (fun s2 hF => jr_V [.int (16 : Int32), .int a2] am ln_X_d_hold (ctd_hold _ _ hF) (by omega) (rc_D am) rfl rfl (Nat.le_of_ble_eq_true rfl) dx_settle_7) rfl ?_
  intro s7
  refine ji_aload_n (q := 11) am dx_settle_10 rfl 0 rfl rfl ?_
  refine ji_get_X_diagrams (q := 14) am dx_settle_11 rfl ?_
  refine ji_bipush (q := 16) am dx_settle_14 kb_17 rfl ?_
  refine ji_iload_n (q := 17) am dx_settle_16 rfl 3 rfl rfl ?_
  refine jk_S (q := 20) (rest := []) (fun s2 hF => jr_V [.int (17 : Int32), .int a3] am ln_X_d_hold (ctd_hold _ _ hF) (by omega) (rc_D am) rfl rfl (Nat.le_of_ble_eq_true rfl) dx_settle_17) rfl ?_
  intro s17
  refine ji_iload (q := 22) am dx_settle_20 4 rfl rfl ?_
  refine ji_istore (lv' := [(0, .ref (ad_ z 0)), (1, .int a1), (2, .int a2), (3, .int a3), (4, .int a4), (5, .int a4)]) (q := 24) am dx_settle_22 [1, 2, 3, 4, 5, 0] rfl rfl rfl ?_
  refine ji_iconst (q := 25) am dx_settle_24 ki_0 rfl ?_
  refine ji_istore (lv' := [(0, .ref (ad_ z 0)), (1, .int a1), (2, .int a2), (3, .int a3), (4, .int a4), (5, .int a4), (6, .int (0 : Int32))]) (q := 27) am dx_settle_25 [1, 2, 3, 4, 5, 6, 0] rfl rfl rfl ?_
  refine ji_sub (lv' := [(0, .ref (ad_ z 0)), (1, .int a1), (2, .int a2), (3, .int a3), (5, .int a4), (6, .int (0 : Int32))]) [0, 1, 2, 3, 5, 6] rfl (lx_settle_27 am (fun z5_27 s_27 => ?_) 5000 _ _ _)
  refine ji_iload (q := 105) am dx_settle_103 0 rfl rfl ?_
  exact ji_iret am rfl dx_settle_105 rfl rfl

theorem dx_check_0 : decode bx_check 0 = .ok (.iload_n 1, 1) := by decide +kernel
theorem dx_check_1 : decode bx_check 1 = .ok (.invokestatic 16, 3) := by decide +kernel
theorem dx_check_4 : decode bx_check 4 = .ok (.iload_n 2, 1) := by decide +kernel
theorem dx_check_5 : decode bx_check 5 = .ok (.invokestatic 16, 3) := by decide +kernel
theorem dx_check_8 : decode bx_check 8 = .ok (.iload 4, 2) := by decide +kernel
theorem dx_check_10 : decode bx_check 10 = .ok (.invokestatic 16, 3) := by decide +kernel
theorem dx_check_13 : decode bx_check 13 = .ok (.iload 5, 2) := by decide +kernel
theorem dx_check_15 : decode bx_check 15 = .ok (.invokestatic 16, 3) := by decide +kernel
theorem dx_check_18 : decode bx_check 18 = .ok (.iload_n 3, 1) := by decide +kernel
theorem dx_check_19 : decode bx_check 19 = .ok (.bipush 8, 2) := by decide +kernel
theorem dx_check_21 : decode bx_check 21 = .ok (.invokestatic 31, 3) := by decide +kernel
theorem dx_check_24 : decode bx_check 24 = .ok (.aload_n 0, 1) := by decide +kernel
theorem dx_check_25 : decode bx_check 25 = .ok (.iload 4, 2) := by decide +kernel
theorem dx_check_27 : decode bx_check 27 = .ok (.invokevirtual 87, 3) := by decide +kernel
theorem dx_check_30 : decode bx_check 30 = .ok (.aload_n 0, 1) := by decide +kernel
theorem dx_check_31 : decode bx_check 31 = .ok (.iload 5, 2) := by decide +kernel
theorem dx_check_33 : decode bx_check 33 = .ok (.invokevirtual 87, 3) := by decide +kernel
theorem dx_check_36 : decode bx_check 36 = .ok (.aload_n 0, 1) := by decide +kernel
theorem dx_check_37 : decode bx_check 37 = .ok (.getfield 10, 3) := by decide +kernel
theorem dx_check_40 : decode bx_check 40 = .ok (.iload_n 2, 1) := by decide +kernel
theorem dx_check_41 : decode bx_check 41 = .ok (.invokevirtual 34, 3) := by decide +kernel
theorem dx_check_44 : decode bx_check 44 = .ok (.istore 6, 2) := by decide +kernel
theorem dx_check_46 : decode bx_check 46 = .ok (.aload_n 0, 1) := by decide +kernel
theorem dx_check_47 : decode bx_check 47 = .ok (.getfield 10, 3) := by decide +kernel
theorem dx_check_50 : decode bx_check 50 = .ok (.iload 4, 2) := by decide +kernel
theorem dx_check_52 : decode bx_check 52 = .ok (.invokevirtual 34, 3) := by decide +kernel
theorem dx_check_55 : decode bx_check 55 = .ok (.istore 7, 2) := by decide +kernel
theorem dx_check_57 : decode bx_check 57 = .ok (.aload_n 0, 1) := by decide +kernel
theorem dx_check_58 : decode bx_check 58 = .ok (.getfield 10, 3) := by decide +kernel
theorem dx_check_61 : decode bx_check 61 = .ok (.iload 5, 2) := by decide +kernel
theorem dx_check_63 : decode bx_check 63 = .ok (.invokevirtual 34, 3) := by decide +kernel
theorem dx_check_66 : decode bx_check 66 = .ok (.istore 8, 2) := by decide +kernel
theorem dx_check_68 : decode bx_check 68 = .ok (.aload_n 0, 1) := by decide +kernel
theorem dx_check_69 : decode bx_check 69 = .ok (.getfield 10, 3) := by decide +kernel
theorem dx_check_72 : decode bx_check 72 = .ok (.iload 7, 2) := by decide +kernel
theorem dx_check_74 : decode bx_check 74 = .ok (.invokevirtual 48, 3) := by decide +kernel
theorem dx_check_77 : decode bx_check 77 = .ok (.istore 9, 2) := by decide +kernel
theorem dx_check_79 : decode bx_check 79 = .ok (.iload_n 3, 1) := by decide +kernel
theorem dx_check_80 : decode bx_check 80 = .ok (.tableswitch 172 0 6 #[44, 57, 73, 89, 106, 126, 149], 44) := by decide +kernel
theorem dx_check_124 : decode bx_check 124 = .ok (.aload_n 0, 1) := by decide +kernel
theorem dx_check_125 : decode bx_check 125 = .ok (.iload 6, 2) := by decide +kernel
theorem dx_check_127 : decode bx_check 127 = .ok (.iload 7, 2) := by decide +kernel
theorem dx_check_129 : decode bx_check 129 = .ok (.invokevirtual 102, 3) := by decide +kernel
theorem dx_check_132 : decode bx_check 132 = .ok (.istore 10, 2) := by decide +kernel
theorem dx_check_134 : decode bx_check 134 = .ok (.goto 193, 3) := by decide +kernel
theorem dx_check_137 : decode bx_check 137 = .ok (.aload_n 0, 1) := by decide +kernel
theorem dx_check_138 : decode bx_check 138 = .ok (.iload 6, 2) := by decide +kernel
theorem dx_check_140 : decode bx_check 140 = .ok (.iconst 1, 1) := by decide +kernel
theorem dx_check_141 : decode bx_check 141 = .ok (.iload 7, 2) := by decide +kernel
theorem dx_check_143 : decode bx_check 143 = .ok (.iload 7, 2) := by decide +kernel
theorem dx_check_145 : decode bx_check 145 = .ok (.invokevirtual 105, 3) := by decide +kernel
theorem dx_check_148 : decode bx_check 148 = .ok (.istore 10, 2) := by decide +kernel
theorem dx_check_150 : decode bx_check 150 = .ok (.goto 177, 3) := by decide +kernel
theorem dx_check_153 : decode bx_check 153 = .ok (.aload_n 0, 1) := by decide +kernel
theorem dx_check_154 : decode bx_check 154 = .ok (.iload 6, 2) := by decide +kernel
theorem dx_check_156 : decode bx_check 156 = .ok (.iload 7, 2) := by decide +kernel
theorem dx_check_158 : decode bx_check 158 = .ok (.iconst 0, 1) := by decide +kernel
theorem dx_check_159 : decode bx_check 159 = .ok (.iload 7, 2) := by decide +kernel
theorem dx_check_161 : decode bx_check 161 = .ok (.invokevirtual 105, 3) := by decide +kernel
theorem dx_check_164 : decode bx_check 164 = .ok (.istore 10, 2) := by decide +kernel
theorem dx_check_166 : decode bx_check 166 = .ok (.goto 161, 3) := by decide +kernel
theorem dx_check_169 : decode bx_check 169 = .ok (.aload_n 0, 1) := by decide +kernel
theorem dx_check_170 : decode bx_check 170 = .ok (.iload 6, 2) := by decide +kernel
theorem dx_check_172 : decode bx_check 172 = .ok (.iload 7, 2) := by decide +kernel
theorem dx_check_174 : decode bx_check 174 = .ok (.iload 8, 2) := by decide +kernel
theorem dx_check_176 : decode bx_check 176 = .ok (.iload 8, 2) := by decide +kernel
theorem dx_check_178 : decode bx_check 178 = .ok (.invokevirtual 105, 3) := by decide +kernel
theorem dx_check_181 : decode bx_check 181 = .ok (.istore 10, 2) := by decide +kernel
theorem dx_check_183 : decode bx_check 183 = .ok (.goto 144, 3) := by decide +kernel
theorem dx_check_186 : decode bx_check 186 = .ok (.aload_n 0, 1) := by decide +kernel
theorem dx_check_187 : decode bx_check 187 = .ok (.getfield 10, 3) := by decide +kernel
theorem dx_check_190 : decode bx_check 190 = .ok (.aload_n 0, 1) := by decide +kernel
theorem dx_check_191 : decode bx_check 191 = .ok (.iload 6, 2) := by decide +kernel
theorem dx_check_193 : decode bx_check 193 = .ok (.iload 9, 2) := by decide +kernel
theorem dx_check_195 : decode bx_check 195 = .ok (.invokevirtual 102, 3) := by decide +kernel
theorem dx_check_198 : decode bx_check 198 = .ok (.invokevirtual 48, 3) := by decide +kernel
theorem dx_check_201 : decode bx_check 201 = .ok (.istore 10, 2) := by decide +kernel
theorem dx_check_203 : decode bx_check 203 = .ok (.goto 124, 3) := by decide +kernel
theorem dx_check_206 : decode bx_check 206 = .ok (.aload_n 0, 1) := by decide +kernel
theorem dx_check_207 : decode bx_check 207 = .ok (.getfield 10, 3) := by decide +kernel
theorem dx_check_210 : decode bx_check 210 = .ok (.aload_n 0, 1) := by decide +kernel
theorem dx_check_211 : decode bx_check 211 = .ok (.iload 6, 2) := by decide +kernel
theorem dx_check_213 : decode bx_check 213 = .ok (.iload 9, 2) := by decide +kernel
theorem dx_check_215 : decode bx_check 215 = .ok (.iconst 0, 1) := by decide +kernel
theorem dx_check_216 : decode bx_check 216 = .ok (.iload 9, 2) := by decide +kernel
theorem dx_check_218 : decode bx_check 218 = .ok (.invokevirtual 105, 3) := by decide +kernel
theorem dx_check_221 : decode bx_check 221 = .ok (.invokevirtual 48, 3) := by decide +kernel
theorem dx_check_224 : decode bx_check 224 = .ok (.istore 10, 2) := by decide +kernel
theorem dx_check_226 : decode bx_check 226 = .ok (.goto 101, 3) := by decide +kernel
theorem dx_check_229 : decode bx_check 229 = .ok (.aload_n 0, 1) := by decide +kernel
theorem dx_check_230 : decode bx_check 230 = .ok (.getfield 10, 3) := by decide +kernel
theorem dx_check_233 : decode bx_check 233 = .ok (.aload_n 0, 1) := by decide +kernel
theorem dx_check_234 : decode bx_check 234 = .ok (.iload 6, 2) := by decide +kernel
theorem dx_check_236 : decode bx_check 236 = .ok (.iconst 1, 1) := by decide +kernel
theorem dx_check_237 : decode bx_check 237 = .ok (.iload 9, 2) := by decide +kernel
theorem dx_check_239 : decode bx_check 239 = .ok (.iload 9, 2) := by decide +kernel
theorem dx_check_241 : decode bx_check 241 = .ok (.invokevirtual 105, 3) := by decide +kernel
theorem dx_check_244 : decode bx_check 244 = .ok (.invokevirtual 48, 3) := by decide +kernel
theorem dx_check_247 : decode bx_check 247 = .ok (.istore 10, 2) := by decide +kernel
theorem dx_check_249 : decode bx_check 249 = .ok (.goto 78, 3) := by decide +kernel
theorem dx_check_252 : decode bx_check 252 = .ok (.aload_n 0, 1) := by decide +kernel
theorem dx_check_253 : decode bx_check 253 = .ok (.getfield 10, 3) := by decide +kernel
theorem dx_check_256 : decode bx_check 256 = .ok (.iload 8, 2) := by decide +kernel
theorem dx_check_258 : decode bx_check 258 = .ok (.invokevirtual 48, 3) := by decide +kernel
theorem dx_check_261 : decode bx_check 261 = .ok (.istore 11, 2) := by decide +kernel
theorem dx_check_263 : decode bx_check 263 = .ok (.aload_n 0, 1) := by decide +kernel
theorem dx_check_264 : decode bx_check 264 = .ok (.iload 6, 2) := by decide +kernel
theorem dx_check_266 : decode bx_check 266 = .ok (.iload 11, 2) := by decide +kernel
theorem dx_check_268 : decode bx_check 268 = .ok (.iconst 0, 1) := by decide +kernel
theorem dx_check_269 : decode bx_check 269 = .ok (.iload 11, 2) := by decide +kernel
theorem dx_check_271 : decode bx_check 271 = .ok (.invokevirtual 105, 3) := by decide +kernel
theorem dx_check_274 : decode bx_check 274 = .ok (.istore 12, 2) := by decide +kernel
theorem dx_check_276 : decode bx_check 276 = .ok (.aload_n 0, 1) := by decide +kernel
theorem dx_check_277 : decode bx_check 277 = .ok (.getfield 10, 3) := by decide +kernel
theorem dx_check_280 : decode bx_check 280 = .ok (.bipush 19, 2) := by decide +kernel
theorem dx_check_282 : decode bx_check 282 = .ok (.iload 12, 2) := by decide +kernel
theorem dx_check_284 : decode bx_check 284 = .ok (.invokevirtual 96, 3) := by decide +kernel
theorem dx_check_287 : decode bx_check 287 = .ok (.aload_n 0, 1) := by decide +kernel
theorem dx_check_288 : decode bx_check 288 = .ok (.getfield 10, 3) := by decide +kernel
theorem dx_check_291 : decode bx_check 291 = .ok (.iconst 1, 1) := by decide +kernel
theorem dx_check_292 : decode bx_check 292 = .ok (.iload 7, 2) := by decide +kernel
theorem dx_check_294 : decode bx_check 294 = .ok (.iload 8, 2) := by decide +kernel
theorem dx_check_296 : decode bx_check 296 = .ok (.iconst 0, 1) := by decide +kernel
theorem dx_check_297 : decode bx_check 297 = .ok (.invokevirtual 37, 3) := by decide +kernel
theorem dx_check_300 : decode bx_check 300 = .ok (.istore 13, 2) := by decide +kernel
theorem dx_check_302 : decode bx_check 302 = .ok (.aload_n 0, 1) := by decide +kernel
theorem dx_check_303 : decode bx_check 303 = .ok (.getfield 10, 3) := by decide +kernel
theorem dx_check_306 : decode bx_check 306 = .ok (.iconst 1, 1) := by decide +kernel
theorem dx_check_307 : decode bx_check 307 = .ok (.iload 12, 2) := by decide +kernel
theorem dx_check_309 : decode bx_check 309 = .ok (.aload_n 0, 1) := by decide +kernel
theorem dx_check_310 : decode bx_check 310 = .ok (.iload 6, 2) := by decide +kernel
theorem dx_check_312 : decode bx_check 312 = .ok (.iload 11, 2) := by decide +kernel
theorem dx_check_314 : decode bx_check 314 = .ok (.iload 13, 2) := by decide +kernel
theorem dx_check_316 : decode bx_check 316 = .ok (.iload 13, 2) := by decide +kernel
theorem dx_check_318 : decode bx_check 318 = .ok (.invokevirtual 105, 3) := by decide +kernel
theorem dx_check_321 : decode bx_check 321 = .ok (.iconst 0, 1) := by decide +kernel
theorem dx_check_322 : decode bx_check 322 = .ok (.invokevirtual 37, 3) := by decide +kernel
theorem dx_check_325 : decode bx_check 325 = .ok (.istore 10, 2) := by decide +kernel
theorem dx_check_327 : decode bx_check 327 = .ok (.aload_n 0, 1) := by decide +kernel
theorem dx_check_328 : decode bx_check 328 = .ok (.getfield 10, 3) := by decide +kernel
theorem dx_check_331 : decode bx_check 331 = .ok (.iload_n 1, 1) := by decide +kernel
theorem dx_check_332 : decode bx_check 332 = .ok (.iload 10, 2) := by decide +kernel
theorem dx_check_334 : decode bx_check 334 = .ok (.invokevirtual 27, 3) := by decide +kernel
theorem dx_check_337 : decode bx_check 337 = .ok (.aload_n 0, 1) := by decide +kernel
theorem dx_check_338 : decode bx_check 338 = .ok (.iload_n 1, 1) := by decide +kernel
theorem dx_check_339 : decode bx_check 339 = .ok (.invokevirtual 93, 3) := by decide +kernel
theorem dx_check_342 : decode bx_check 342 = .ok (.ireturn, 1) := by decide +kernel
set_option maxHeartbeats 4000000 in
set_option maxRecDepth 100000 in
theorem ctx_check {v : wt_V} {s : wt_S} {a1 : Int32} {a2 : Int32} {a3 : Int32} {a4 : Int32} {a5 : Int32} {r : Int32} {s2 : wt_S} (t : wt_M) (o : Nat → Int64) (hF : fx_check s a1 a2 a3 a4 a5 = some (r, s2)) : ct_C v yx_check (Cond.code yx_check bx_check 14 (some .int)) 23 [.ref (v.2.1 0), .int a1, .int a2, .int a3, .int a4, .int a5] (some (.int r)) (s, t, o) (s2, t, o) := by
  refine ct_of (lv := [(0, .ref (v.2.1 0)), (1, .int a1), (2, .int a2), (3, .int a3), (4, .int a4), (5, .int a5)]) (fun r : Int32 × wt_S => some (.int r.1)) (fun r => (r.2, t, o)) (by decide) (Nat.le_of_ble_eq_true rfl) rfl ?_ (r, s2) hF
  intro z hz am
  subst hz
  have am : wt_Am z R_X bx_check 14 23 (some .int) := am
  show jj_J z 14 0 [(0, .ref (ad_ z 0)), (1, .int a1), (2, .int a2), (3, .int a3), (4, .int a4), (5, .int a5)] [] (s, t, o) (q_IS z t o) (fx_check s a1 a2 a3 a4 a5)
  unfold fx_check
  refine ji_iload_n (q := 1) am dx_check_0 rfl 1 rfl rfl ?_
  refine jk_U (q := 4) (rest := []) (fun u hF => jr_S [.int a1] am ln_X_x_needRegister (ctx_needRegister _ _ _ hF) (by omega) rfl rfl (Nat.le_of_ble_eq_true rfl) dx_check_1) rfl ?_
  intro u1
  refine ji_iload_n (q := 5) am dx_check_4 rfl 2 rfl rfl ?_
  refine jk_U (q := 8) (rest := []) (fun u hF => jr_S [.int a2] am ln_X_x_needRegister (ctx_needRegister _ _ _ hF) (by omega) rfl rfl (Nat.le_of_ble_eq_true rfl) dx_check_5) rfl ?_
  intro u5
  refine ji_iload (q := 10) am dx_check_8 4 rfl rfl ?_
  refine jk_U (q := 13) (rest := []) (fun u hF => jr_S [.int a4] am ln_X_x_needRegister (ctx_needRegister _ _ _ hF) (by omega) rfl rfl (Nat.le_of_ble_eq_true rfl) dx_check_10) rfl ?_
  intro u10
  refine ji_iload (q := 15) am dx_check_13 5 rfl rfl ?_
  refine jk_U (q := 18) (rest := []) (fun u hF => jr_S [.int a5] am ln_X_x_needRegister (ctx_needRegister _ _ _ hF) (by omega) rfl rfl (Nat.le_of_ble_eq_true rfl) dx_check_15) rfl ?_
  intro u15
  refine ji_iload_n (q := 19) am dx_check_18 rfl 3 rfl rfl ?_
  refine ji_bipush (q := 21) am dx_check_19 kb_8 rfl ?_
  refine jk_U (q := 24) (rest := []) (fun u hF => jr_S [.int a3, .int (8 : Int32)] am ln_X_x_needBelow (ctx_needBelow _ _ _ hF) (by omega) rfl rfl (Nat.le_of_ble_eq_true rfl) dx_check_21) rfl ?_
  intro u21
  refine ji_aload_n (q := 25) am dx_check_24 rfl 0 rfl rfl ?_
  refine ji_iload (q := 27) am dx_check_25 4 rfl rfl ?_
  refine jk_U (q := 30) (rest := []) (fun u hF => jr_V [.int a4] am ln_X_x_needSet (ctx_needSet _ _ hF) (by omega) (rc_X am) rfl rfl (Nat.le_of_ble_eq_true rfl) dx_check_27) rfl ?_
  intro u27
  refine ji_aload_n (q := 31) am dx_check_30 rfl 0 rfl rfl ?_
  refine ji_iload (q := 33) am dx_check_31 5 rfl rfl ?_
  refine jk_U (q := 36) (rest := []) (fun u hF => jr_V [.int a5] am ln_X_x_needSet (ctx_needSet _ _ hF) (by omega) (rc_X am) rfl rfl (Nat.le_of_ble_eq_true rfl) dx_check_33) rfl ?_
  intro u33
  refine ji_aload_n (q := 37) am dx_check_36 rfl 0 rfl rfl ?_
  refine ji_get_X_diagrams (q := 40) am dx_check_37 rfl ?_
  refine ji_iload_n (q := 41) am dx_check_40 rfl 2 rfl rfl ?_
  refine jk_I (q := 44) (rest := []) (fun r hF => jr_V [.int a2] am ln_X_d_root (ctd_root _ _ hF) (by omega) (rc_D am) rfl rfl (Nat.le_of_ble_eq_true rfl) dx_check_41) rfl ?_
  intro r41
  refine ji_istore (lv' := [(0, .ref (ad_ z 0)), (1, .int a1), (2, .int a2), (3, .int a3), (4, .int a4), (5, .int a5), (6, .int r41)]) (q := 46) am dx_check_44 [1, 2, 3, 4, 5, 6, 0] rfl rfl rfl ?_
  refine ji_aload_n (q := 47) am dx_check_46 rfl 0 rfl rfl ?_
  refine ji_get_X_diagrams (q := 50) am dx_check_47 rfl ?_
  refine ji_iload (q := 52) am dx_check_50 4 rfl rfl ?_
  refine jk_I (q := 55) (rest := []) (fun r hF => jr_V [.int a4] am ln_X_d_root (ctd_root _ _ hF) (by omega) (rc_D am) rfl rfl (Nat.le_of_ble_eq_true rfl) dx_check_52) rfl ?_
  intro r52
  refine ji_istore (lv' := [(0, .ref (ad_ z 0)), (1, .int a1), (2, .int a2), (3, .int a3), (4, .int a4), (5, .int a5), (6, .int r41), (7, .int r52)]) (q := 57) am dx_check_55 [1, 2, 3, 4, 5, 6, 7, 0] rfl rfl rfl ?_
  refine ji_aload_n (q := 58) am dx_check_57 rfl 0 rfl rfl ?_
  refine ji_get_X_diagrams (q := 61) am dx_check_58 rfl ?_
  refine ji_iload (q := 63) am dx_check_61 5 rfl rfl ?_
  refine jk_I (q := 66) (rest := []) (fun r hF => jr_V [.int a5] am ln_X_d_root (ctd_root _ _ hF) (by omega) (rc_D am) rfl rfl (Nat.le_of_ble_eq_true rfl) dx_check_63) rfl ?_
  intro r63
  refine ji_istore (lv' := [(0, .ref (ad_ z 0)), (1, .int a1), (2, .int a2), (3, .int a3), (4, .int a4), (5, .int a5), (6, .int r41), (7, .int r52), (8, .int r63)]) (q := 68) am dx_check_66 [1, 2, 3, 4, 5, 6, 7, 8, 0] rfl rfl rfl ?_
  refine ji_aload_n (q := 69) am dx_check_68 rfl 0 rfl rfl ?_
  refine ji_get_X_diagrams (q := 72) am dx_check_69 rfl ?_
  refine ji_iload (q := 74) am dx_check_72 7 rfl rfl ?_
  refine jk_IS (q := 77) (rest := []) (fun r s2 hF => jr_V [.int r52] am ln_X_d_negate (ctd_negate _ _ hF) (by omega) (rc_D am) rfl rfl (Nat.le_of_ble_eq_true rfl) dx_check_74) rfl ?_
  intro r74 s74
  refine ji_istore (lv' := [(0, .ref (ad_ z 0)), (1, .int a1), (2, .int a2), (3, .int a3), (4, .int a4), (5, .int a5), (6, .int r41), (7, .int r52), (8, .int r63), (9, .int r74)]) (q := 79) am dx_check_77 [1, 2, 3, 4, 5, 6, 7, 8, 9, 0] rfl rfl rfl ?_
  refine ji_iload_n (q := 80) am dx_check_79 rfl 3 rfl rfl ?_
  refine ji_jn2 (fun j => ∀ (x10_327 : Int32) (s_327 : wt_S), jj_J z 14 327 [(0, .ref (ad_ z 0)), (1, .int a1), (10, .int x10_327)] [] (s_327, t, o) (q_IS z t o) (j x10_327 s_327)) ?_ ?_
  · intro x10_327 s_327
    refine ji_aload_n (q := 328) am dx_check_327 rfl 0 rfl rfl ?_
    refine ji_get_X_diagrams (q := 331) am dx_check_328 rfl ?_
    refine ji_iload_n (q := 332) am dx_check_331 rfl 1 rfl rfl ?_
    refine ji_iload (q := 334) am dx_check_332 2 rfl rfl ?_
    refine jk_S (q := 337) (rest := []) (fun s2 hF => jr_V [.int a1, .int x10_327] am ln_X_d_keep (ctd_keep _ _ hF) (by omega) (rc_D am) rfl rfl (Nat.le_of_ble_eq_true rfl) dx_check_334) rfl ?_
    intro s334
    refine ji_aload_n (q := 338) am dx_check_337 rfl 0 rfl rfl ?_
    refine ji_iload_n (q := 339) am dx_check_338 rfl 1 rfl rfl ?_
    refine jk_I (q := 342) (rest := []) (fun r hF => jr_V [.int a1] am ln_X_x_states (ctx_states _ _ hF) (by omega) (rc_X am) rfl rfl (Nat.le_of_ble_eq_true rfl) dx_check_339) rfl ?_
    intro r339
    exact ji_iret am rfl dx_check_342 rfl rfl
  · intro j327 hj327
    refine ji_tsw (fun e0 => ?_) (fun e0 => ?_)
    · refine ji_tin (g := 124) (off := 44) am dx_check_80 e0 (by decide) (by decide) (by decide) (by decide) ?_
      refine ji_aload_n (q := 125) am dx_check_124 rfl 0 rfl rfl ?_
      refine ji_iload (q := 127) am dx_check_125 6 rfl rfl ?_
      refine ji_iload (q := 129) am dx_check_127 7 rfl rfl ?_
      refine jk_IS (q := 132) (rest := []) (fun r s2 hF => jr_V [.int r41, .int r52] am ln_X_x_before (ctx_before _ _ hF) (by omega) (rc_X am) rfl rfl (Nat.le_of_ble_eq_true rfl) dx_check_129) rfl ?_
      intro r129 s129
      refine ji_istore (lv' := [(0, .ref (ad_ z 0)), (1, .int a1), (2, .int a2), (3, .int a3), (4, .int a4), (5, .int a5), (6, .int r41), (7, .int r52), (8, .int r63), (9, .int r74), (10, .int r129)]) (q := 134) am dx_check_132 [1, 2, 3, 4, 5, 6, 7, 8, 9, 10, 0] rfl rfl rfl ?_
      refine ji_goto (q := 327) am dx_check_134 rfl ?_
      exact ji_sub (lv' := [(0, .ref (ad_ z 0)), (1, .int a1), (10, .int r129)]) [0, 1, 10] rfl (hj327 _ _)
    refine ji_tsw (fun e1 => ?_) (fun e1 => ?_)
    · refine ji_tin (g := 137) (off := 57) am dx_check_80 e1 (by decide) (by decide) (by decide) (by decide) ?_
      refine ji_aload_n (q := 138) am dx_check_137 rfl 0 rfl rfl ?_
      refine ji_iload (q := 140) am dx_check_138 6 rfl rfl ?_
      refine ji_iconst (q := 141) am dx_check_140 ki_1 rfl ?_
      refine ji_iload (q := 143) am dx_check_141 7 rfl rfl ?_
      refine ji_iload (q := 145) am dx_check_143 7 rfl rfl ?_
      refine jk_IS (q := 148) (rest := []) (fun r s2 hF => jr_V [.int r41, .int (1 : Int32), .int r52, .int r52] am ln_X_x_settle (ctx_settle _ _ hF) (by omega) (rc_X am) rfl rfl (Nat.le_of_ble_eq_true rfl) dx_check_145) rfl ?_
      intro r145 s145
      refine ji_istore (lv' := [(0, .ref (ad_ z 0)), (1, .int a1), (2, .int a2), (3, .int a3), (4, .int a4), (5, .int a5), (6, .int r41), (7, .int r52), (8, .int r63), (9, .int r74), (10, .int r145)]) (q := 150) am dx_check_148 [1, 2, 3, 4, 5, 6, 7, 8, 9, 10, 0] rfl rfl rfl ?_
      refine ji_goto (q := 327) am dx_check_150 rfl ?_
      exact ji_sub (lv' := [(0, .ref (ad_ z 0)), (1, .int a1), (10, .int r145)]) [0, 1, 10] rfl (hj327 _ _)
    refine ji_tsw (fun e2 => ?_) (fun e2 => ?_)
    · refine ji_tin (g := 153) (off := 73) am dx_check_80 e2 (by decide) (by decide) (by decide) (by decide) ?_
      refine ji_aload_n (q := 154) am dx_check_153 rfl 0 rfl rfl ?_
      refine ji_iload (q := 156) am dx_check_154 6 rfl rfl ?_
      refine ji_iload (q := 158) am dx_check_156 7 rfl rfl ?_
      refine ji_iconst (q := 159) am dx_check_158 ki_0 rfl ?_
      refine ji_iload (q := 161) am dx_check_159 7 rfl rfl ?_
      refine jk_IS (q := 164) (rest := []) (fun r s2 hF => jr_V [.int r41, .int r52, .int (0 : Int32), .int r52] am ln_X_x_settle (ctx_settle _ _ hF) (by omega) (rc_X am) rfl rfl (Nat.le_of_ble_eq_true rfl) dx_check_161) rfl ?_
      intro r161 s161
      refine ji_istore (lv' := [(0, .ref (ad_ z 0)), (1, .int a1), (2, .int a2), (3, .int a3), (4, .int a4), (5, .int a5), (6, .int r41), (7, .int r52), (8, .int r63), (9, .int r74), (10, .int r161)]) (q := 166) am dx_check_164 [1, 2, 3, 4, 5, 6, 7, 8, 9, 10, 0] rfl rfl rfl ?_
      refine ji_goto (q := 327) am dx_check_166 rfl ?_
      exact ji_sub (lv' := [(0, .ref (ad_ z 0)), (1, .int a1), (10, .int r161)]) [0, 1, 10] rfl (hj327 _ _)
    refine ji_tsw (fun e3 => ?_) (fun e3 => ?_)
    · refine ji_tin (g := 169) (off := 89) am dx_check_80 e3 (by decide) (by decide) (by decide) (by decide) ?_
      refine ji_aload_n (q := 170) am dx_check_169 rfl 0 rfl rfl ?_
      refine ji_iload (q := 172) am dx_check_170 6 rfl rfl ?_
      refine ji_iload (q := 174) am dx_check_172 7 rfl rfl ?_
      refine ji_iload (q := 176) am dx_check_174 8 rfl rfl ?_
      refine ji_iload (q := 178) am dx_check_176 8 rfl rfl ?_
      refine jk_IS (q := 181) (rest := []) (fun r s2 hF => jr_V [.int r41, .int r52, .int r63, .int r63] am ln_X_x_settle (ctx_settle _ _ hF) (by omega) (rc_X am) rfl rfl (Nat.le_of_ble_eq_true rfl) dx_check_178) rfl ?_
      intro r178 s178
      refine ji_istore (lv' := [(0, .ref (ad_ z 0)), (1, .int a1), (2, .int a2), (3, .int a3), (4, .int a4), (5, .int a5), (6, .int r41), (7, .int r52), (8, .int r63), (9, .int r74), (10, .int r178)]) (q := 183) am dx_check_181 [1, 2, 3, 4, 5, 6, 7, 8, 9, 10, 0] rfl rfl rfl ?_
      refine ji_goto (q := 327) am dx_check_183 rfl ?_
      exact ji_sub (lv' := [(0, .ref (ad_ z 0)), (1, .int a1), (10, .int r178)]) [0, 1, 10] rfl (hj327 _ _)
    refine ji_tsw (fun e4 => ?_) (fun e4 => ?_)
    · refine ji_tin (g := 186) (off := 106) am dx_check_80 e4 (by decide) (by decide) (by decide) (by decide) ?_
      refine ji_aload_n (q := 187) am dx_check_186 rfl 0 rfl rfl ?_
      refine ji_get_X_diagrams (q := 190) am dx_check_187 rfl ?_
      refine ji_aload_n (q := 191) am dx_check_190 rfl 0 rfl rfl ?_
      refine ji_iload (q := 193) am dx_check_191 6 rfl rfl ?_
      refine ji_iload (q := 195) am dx_check_193 9 rfl rfl ?_
      refine jk_IS (q := 198) (rest := [.ref (ad_ z 1)]) (fun r s2 hF => jr_V [.int r41, .int r74] am ln_X_x_before (ctx_before _ _ hF) (by omega) (rc_X am) rfl rfl (Nat.le_of_ble_eq_true rfl) dx_check_195) rfl ?_
      intro r195 s195
      refine jk_IS (q := 201) (rest := []) (fun r s2 hF => jr_V [.int r195] am ln_X_d_negate (ctd_negate _ _ hF) (by omega) (rc_D am) rfl rfl (Nat.le_of_ble_eq_true rfl) dx_check_198) rfl ?_
      intro r198 s198
      refine ji_istore (lv' := [(0, .ref (ad_ z 0)), (1, .int a1), (2, .int a2), (3, .int a3), (4, .int a4), (5, .int a5), (6, .int r41), (7, .int r52), (8, .int r63), (9, .int r74), (10, .int r198)]) (q := 203) am dx_check_201 [1, 2, 3, 4, 5, 6, 7, 8, 9, 10, 0] rfl rfl rfl ?_
      refine ji_goto (q := 327) am dx_check_203 rfl ?_
      exact ji_sub (lv' := [(0, .ref (ad_ z 0)), (1, .int a1), (10, .int r198)]) [0, 1, 10] rfl (hj327 _ _)
    refine ji_tsw (fun e5 => ?_) (fun e5 => ?_)
    · refine ji_tin (g := 206) (off := 126) am dx_check_80 e5 (by decide) (by decide) (by decide) (by decide) ?_
      refine ji_aload_n (q := 207) am dx_check_206 rfl 0 rfl rfl ?_
      refine ji_get_X_diagrams (q := 210) am dx_check_207 rfl ?_
      refine ji_aload_n (q := 211) am dx_check_210 rfl 0 rfl rfl ?_
      refine ji_iload (q := 213) am dx_check_211 6 rfl rfl ?_
      refine ji_iload (q := 215) am dx_check_213 9 rfl rfl ?_
      refine ji_iconst (q := 216) am dx_check_215 ki_0 rfl ?_
      refine ji_iload (q := 218) am dx_check_216 9 rfl rfl ?_
      refine jk_IS (q := 221) (rest := [.ref (ad_ z 1)]) (fun r s2 hF => jr_V [.int r41, .int r74, .int (0 : Int32), .int r74] am ln_X_x_settle (ctx_settle _ _ hF) (by omega) (rc_X am) rfl rfl (Nat.le_of_ble_eq_true rfl) dx_check_218) rfl ?_
      intro r218 s218
      refine jk_IS (q := 224) (rest := []) (fun r s2 hF => jr_V [.int r218] am ln_X_d_negate (ctd_negate _ _ hF) (by omega) (rc_D am) rfl rfl (Nat.le_of_ble_eq_true rfl) dx_check_221) rfl ?_
      intro r221 s221
      refine ji_istore (lv' := [(0, .ref (ad_ z 0)), (1, .int a1), (2, .int a2), (3, .int a3), (4, .int a4), (5, .int a5), (6, .int r41), (7, .int r52), (8, .int r63), (9, .int r74), (10, .int r221)]) (q := 226) am dx_check_224 [1, 2, 3, 4, 5, 6, 7, 8, 9, 10, 0] rfl rfl rfl ?_
      refine ji_goto (q := 327) am dx_check_226 rfl ?_
      exact ji_sub (lv' := [(0, .ref (ad_ z 0)), (1, .int a1), (10, .int r221)]) [0, 1, 10] rfl (hj327 _ _)
    refine ji_tsw (fun e6 => ?_) (fun e6 => ?_)
    · refine ji_tin (g := 229) (off := 149) am dx_check_80 e6 (by decide) (by decide) (by decide) (by decide) ?_
      refine ji_aload_n (q := 230) am dx_check_229 rfl 0 rfl rfl ?_
      refine ji_get_X_diagrams (q := 233) am dx_check_230 rfl ?_
      refine ji_aload_n (q := 234) am dx_check_233 rfl 0 rfl rfl ?_
      refine ji_iload (q := 236) am dx_check_234 6 rfl rfl ?_
      refine ji_iconst (q := 237) am dx_check_236 ki_1 rfl ?_
      refine ji_iload (q := 239) am dx_check_237 9 rfl rfl ?_
      refine ji_iload (q := 241) am dx_check_239 9 rfl rfl ?_
      refine jk_IS (q := 244) (rest := [.ref (ad_ z 1)]) (fun r s2 hF => jr_V [.int r41, .int (1 : Int32), .int r74, .int r74] am ln_X_x_settle (ctx_settle _ _ hF) (by omega) (rc_X am) rfl rfl (Nat.le_of_ble_eq_true rfl) dx_check_241) rfl ?_
      intro r241 s241
      refine jk_IS (q := 247) (rest := []) (fun r s2 hF => jr_V [.int r241] am ln_X_d_negate (ctd_negate _ _ hF) (by omega) (rc_D am) rfl rfl (Nat.le_of_ble_eq_true rfl) dx_check_244) rfl ?_
      intro r244 s244
      refine ji_istore (lv' := [(0, .ref (ad_ z 0)), (1, .int a1), (2, .int a2), (3, .int a3), (4, .int a4), (5, .int a5), (6, .int r41), (7, .int r52), (8, .int r63), (9, .int r74), (10, .int r244)]) (q := 249) am dx_check_247 [1, 2, 3, 4, 5, 6, 7, 8, 9, 10, 0] rfl rfl rfl ?_
      refine ji_goto (q := 327) am dx_check_249 rfl ?_
      exact ji_sub (lv' := [(0, .ref (ad_ z 0)), (1, .int a1), (10, .int r244)]) [0, 1, 10] rfl (hj327 _ _)
    refine ji_tout (g := 252) am dx_check_80 (by have h0 := lv_neT e0 (a := 0) (by decide); have h1 := lv_neT e1 (a := 1) (by decide); have h2 := lv_neT e2 (a := 2) (by decide); have h3 := lv_neT e3 (a := 3) (by decide); have h4 := lv_neT e4 (a := 4) (by decide); have h5 := lv_neT e5 (a := 5) (by decide); have h6 := lv_neT e6 (a := 6) (by decide); omega) (by decide) ?_
    refine ji_aload_n (q := 253) am dx_check_252 rfl 0 rfl rfl ?_
    refine ji_get_X_diagrams (q := 256) am dx_check_253 rfl ?_
    refine ji_iload (q := 258) am dx_check_256 8 rfl rfl ?_
    refine jk_IS (q := 261) (rest := []) (fun r s2 hF => jr_V [.int r63] am ln_X_d_negate (ctd_negate _ _ hF) (by omega) (rc_D am) rfl rfl (Nat.le_of_ble_eq_true rfl) dx_check_258) rfl ?_
    intro r258 s258
    refine ji_istore (lv' := [(0, .ref (ad_ z 0)), (1, .int a1), (2, .int a2), (3, .int a3), (4, .int a4), (5, .int a5), (6, .int r41), (7, .int r52), (8, .int r63), (9, .int r74), (11, .int r258)]) (q := 263) am dx_check_261 [1, 2, 3, 4, 5, 6, 7, 8, 9, 10, 0] rfl rfl rfl ?_
    refine ji_aload_n (q := 264) am dx_check_263 rfl 0 rfl rfl ?_
    refine ji_iload (q := 266) am dx_check_264 6 rfl rfl ?_
    refine ji_iload (q := 268) am dx_check_266 10 rfl rfl ?_
    refine ji_iconst (q := 269) am dx_check_268 ki_0 rfl ?_
    refine ji_iload (q := 271) am dx_check_269 10 rfl rfl ?_
    refine jk_IS (q := 274) (rest := []) (fun r s2 hF => jr_V [.int r41, .int r258, .int (0 : Int32), .int r258] am ln_X_x_settle (ctx_settle _ _ hF) (by omega) (rc_X am) rfl rfl (Nat.le_of_ble_eq_true rfl) dx_check_271) rfl ?_
    intro r271 s271
    refine ji_istore (lv' := [(0, .ref (ad_ z 0)), (1, .int a1), (2, .int a2), (3, .int a3), (4, .int a4), (5, .int a5), (6, .int r41), (7, .int r52), (8, .int r63), (9, .int r74), (11, .int r258), (12, .int r271)]) (q := 276) am dx_check_274 [1, 2, 3, 4, 5, 6, 7, 8, 9, 10, 11, 0] rfl rfl rfl ?_
    refine ji_aload_n (q := 277) am dx_check_276 rfl 0 rfl rfl ?_
    refine ji_get_X_diagrams (q := 280) am dx_check_277 rfl ?_
    refine ji_bipush (q := 282) am dx_check_280 kb_19 rfl ?_
    refine ji_iload (q := 284) am dx_check_282 11 rfl rfl ?_
    refine jk_S (q := 287) (rest := []) (fun s2 hF => jr_V [.int (19 : Int32), .int r271] am ln_X_d_hold (ctd_hold _ _ hF) (by omega) (rc_D am) rfl rfl (Nat.le_of_ble_eq_true rfl) dx_check_284) rfl ?_
    intro s284
    refine ji_aload_n (q := 288) am dx_check_287 rfl 0 rfl rfl ?_
    refine ji_get_X_diagrams (q := 291) am dx_check_288 rfl ?_
    refine ji_iconst (q := 292) am dx_check_291 ki_1 rfl ?_
    refine ji_iload (q := 294) am dx_check_292 7 rfl rfl ?_
    refine ji_iload (q := 296) am dx_check_294 8 rfl rfl ?_
    refine ji_iconst (q := 297) am dx_check_296 ki_0 rfl ?_
    refine jk_IS (q := 300) (rest := []) (fun r s2 hF => jr_N [.int (1 : Int32), .int r52, .int r63, .int (0 : Int32)] am ln_X_d_join (ctd_join t o 9 _ _ _ _ _ _ _ hF) (by omega) (rc_D am) rfl rfl (Nat.le_of_ble_eq_true rfl) dx_check_297) rfl ?_
    intro r297 s297
    refine ji_istore (lv' := [(0, .ref (ad_ z 0)), (1, .int a1), (2, .int a2), (3, .int a3), (4, .int a4), (5, .int a5), (6, .int r41), (7, .int r52), (8, .int r63), (9, .int r74), (11, .int r258), (12, .int r271), (13, .int r297)]) (q := 302) am dx_check_300 [1, 2, 3, 4, 5, 6, 7, 8, 9, 10, 11, 12, 0] rfl rfl rfl ?_
    refine ji_aload_n (q := 303) am dx_check_302 rfl 0 rfl rfl ?_
    refine ji_get_X_diagrams (q := 306) am dx_check_303 rfl ?_
    refine ji_iconst (q := 307) am dx_check_306 ki_1 rfl ?_
    refine ji_iload (q := 309) am dx_check_307 11 rfl rfl ?_
    refine ji_aload_n (q := 310) am dx_check_309 rfl 0 rfl rfl ?_
    refine ji_iload (q := 312) am dx_check_310 6 rfl rfl ?_
    refine ji_iload (q := 314) am dx_check_312 10 rfl rfl ?_
    refine ji_iload (q := 316) am dx_check_314 12 rfl rfl ?_
    refine ji_iload (q := 318) am dx_check_316 12 rfl rfl ?_
    refine jk_IS (q := 321) (rest := [.int r271, .int (1 : Int32), .ref (ad_ z 1)]) (fun r s2 hF => jr_V [.int r41, .int r258, .int r297, .int r297] am ln_X_x_settle (ctx_settle _ _ hF) (by omega) (rc_X am) rfl rfl (Nat.le_of_ble_eq_true rfl) dx_check_318) rfl ?_
    intro r318 s318
    refine ji_iconst (q := 322) am dx_check_321 ki_0 rfl ?_
    refine jk_IS (q := 325) (rest := []) (fun r s2 hF => jr_N [.int (1 : Int32), .int r271, .int r318, .int (0 : Int32)] am ln_X_d_join (ctd_join t o 9 _ _ _ _ _ _ _ hF) (by omega) (rc_D am) rfl rfl (Nat.le_of_ble_eq_true rfl) dx_check_322) rfl ?_
    intro r322 s322
    refine ji_istore (lv' := [(0, .ref (ad_ z 0)), (1, .int a1), (2, .int a2), (3, .int a3), (4, .int a4), (5, .int a5), (6, .int r41), (7, .int r52), (8, .int r63), (9, .int r74), (10, .int r322), (11, .int r258), (12, .int r271), (13, .int r297)]) (q := 327) am dx_check_325 [1, 2, 3, 4, 5, 6, 7, 8, 9, 10, 0, 11, 12, 13] rfl rfl rfl ?_
    exact ji_sub (lv' := [(0, .ref (ad_ z 0)), (1, .int a1), (10, .int r322)]) [0, 1, 10] rfl (hj327 _ _)

theorem dx_astray_0 : decode bx_astray 0 = .ok (.aload_n 0, 1) := by decide +kernel
theorem dx_astray_1 : decode bx_astray 1 = .ok (.getfield 10, 3) := by decide +kernel
theorem dx_astray_4 : decode bx_astray 4 = .ok (.invokevirtual 108, 3) := by decide +kernel
theorem dx_astray_7 : decode bx_astray 7 = .ok (.ireturn, 1) := by decide +kernel
set_option maxHeartbeats 4000000 in
set_option maxRecDepth 100000 in
theorem ctx_astray {v : wt_V} {s : wt_S} {r : Int32} {s2 : wt_S} (t : wt_M) (o : Nat → Int64) (hF : fx_astray s = some (r, s2)) : ct_C v yx_astray (Cond.code yx_astray bx_astray 1 (some .int)) 4 [.ref (v.2.1 0)] (some (.int r)) (s, t, o) (s2, t, o) := by
  refine ct_of (lv := [(0, .ref (v.2.1 0))]) (fun r : Int32 × wt_S => some (.int r.1)) (fun r => (r.2, t, o)) (by decide) (Nat.le_of_ble_eq_true rfl) rfl ?_ (r, s2) hF
  intro z hz am
  subst hz
  have am : wt_Am z R_X bx_astray 1 4 (some .int) := am
  show jj_J z 1 0 [(0, .ref (ad_ z 0))] [] (s, t, o) (q_IS z t o) (fx_astray s)
  unfold fx_astray
  refine ji_aload_n (q := 1) am dx_astray_0 rfl 0 rfl rfl ?_
  refine ji_get_X_diagrams (q := 4) am dx_astray_1 rfl ?_
  refine jk_IS (q := 7) (rest := []) (fun r s2 hF => jr_V [] am ln_X_d_faults (ctd_faults _ _ hF) (by omega) (rc_D am) rfl rfl (Nat.le_of_ble_eq_true rfl) dx_astray_4) rfl ?_
  intro r4 s4
  exact ji_iret am rfl dx_astray_7 rfl rfl
