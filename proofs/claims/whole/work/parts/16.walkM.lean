/-! Walks of M.thrown, M.in, M.isRegister, M.isVariable, M.value, M.clear, M.set, M.keep, M.with, M.variable, M.constant, M.apply, M.choose, M.restrict, M.quantify: printed by my program out of the listing. -/
theorem dm_thrown_0 : decode bm_thrown 0 = .ok (.aload_n 0, 1) := by decide +kernel
theorem dm_thrown_1 : decode bm_thrown 1 = .ok (.getfield 50, 3) := by decide +kernel
theorem dm_thrown_4 : decode bm_thrown 4 = .ok (.ireturn, 1) := by decide +kernel
set_option maxHeartbeats 4000000 in
set_option maxRecDepth 100000 in
theorem ctm_thrown {v : wt_V} {t : wt_M} {r : Int32} (s : wt_S) (o : Nat → Int64) (hF : fm_thrown t = some r) : ct_C v ym_thrown (Cond.code ym_thrown bm_thrown 1 (some .int)) 1 [.ref (v.2.1 11)] (some (.int r)) (s, t, o) (s, t, o) := by
  refine ct_of (lv := [(0, .ref (v.2.1 11))]) (fun r : Int32 => some (.int r)) (fun _ => (s, t, o)) (by decide) (Nat.le_of_ble_eq_true rfl) rfl ?_ r hF
  intro z hz am
  subst hz
  have am : wt_Am z R_M bm_thrown 1 1 (some .int) := am
  show jj_J z 1 0 [(0, .ref (ad_ z 11))] [] (s, t, o) (q_I z s t o) (fm_thrown t)
  unfold fm_thrown
  refine ji_aload_n (q := 1) am dm_thrown_0 rfl 0 rfl rfl ?_
  refine ji_get_M_code (q := 4) am dm_thrown_1 rfl ?_
  exact ji_iret am rfl dm_thrown_4 rfl rfl

theorem dm_in_0 : decode bm_in 0 = .ok (.iload_n 0, 1) := by decide +kernel
theorem dm_in_1 : decode bm_in 1 = .ok (.iload_n 1, 1) := by decide +kernel
theorem dm_in_2 : decode bm_in 2 = .ok (.if_icmp .lt 12, 3) := by decide +kernel
theorem dm_in_5 : decode bm_in 5 = .ok (.iload_n 0, 1) := by decide +kernel
theorem dm_in_6 : decode bm_in 6 = .ok (.iload_n 2, 1) := by decide +kernel
theorem dm_in_7 : decode bm_in 7 = .ok (.if_icmp .gt 7, 3) := by decide +kernel
theorem dm_in_10 : decode bm_in 10 = .ok (.iconst 1, 1) := by decide +kernel
theorem dm_in_11 : decode bm_in 11 = .ok (.goto 4, 3) := by decide +kernel
theorem dm_in_14 : decode bm_in 14 = .ok (.iconst 0, 1) := by decide +kernel
theorem dm_in_15 : decode bm_in 15 = .ok (.ireturn, 1) := by decide +kernel
set_option maxHeartbeats 4000000 in
set_option maxRecDepth 100000 in
theorem ctm_in {v : wt_V} {a1 : Int32} {a2 : Int32} {a3 : Int32} {r : Int32} (s : wt_S) (t : wt_M) (o : Nat → Int64) (hF : fm_in a1 a2 a3 = some r) : ct_C v ym_in (Cond.code ym_in bm_in 3 (some .boolean)) 1 [.int a1, .int a2, .int a3] (some (.int r)) (s, t, o) (s, t, o) := by
  refine ct_of (lv := [(0, .int a1), (1, .int a2), (2, .int a3)]) (fun r : Int32 => some (.int r)) (fun _ => (s, t, o)) (by decide) (Nat.le_of_ble_eq_true rfl) rfl ?_ r hF
  intro z hz am
  subst hz
  have am : wt_Am z R_M bm_in 3 1 (some .boolean) := am
  show jj_J z 3 0 [(0, .int a1), (1, .int a2), (2, .int a3)] [] (s, t, o) (q_I z s t o) (fm_in a1 a2 a3)
  unfold fm_in
  refine ji_iload_n (q := 1) am dm_in_0 rfl 0 rfl rfl ?_
  refine ji_iload_n (q := 2) am dm_in_1 rfl 1 rfl rfl ?_
  refine ji_jn2 (fun j => ∀ (y0_15 : Int32), jj_J z 3 15 [] [.int y0_15] (s, t, o) (q_I z s t o) (j y0_15)) ?_ ?_
  · intro y0_15
    exact ji_zret am rfl dm_in_15 rfl rfl
  · intro j15 hj15
    refine ji_jn2 (fun j => ∀ (u14 : Unit), jj_J z 3 14 [] [] (s, t, o) (q_I z s t o) (j u14)) ?_ ?_
    · intro u14
      refine ji_iconst (q := 15) am dm_in_14 ki_0 rfl ?_
      exact hj15 _
    · intro j14 hj14
      refine ji_icmp_lt (q := 5) (g := 14) am dm_in_2 rfl rfl ?_ ?_
      · exact ji_sub (lv' := []) [] rfl (hj14 _)
      · refine ji_iload_n (q := 6) am dm_in_5 rfl 0 rfl rfl ?_
        refine ji_iload_n (q := 7) am dm_in_6 rfl 2 rfl rfl ?_
        refine ji_icmp_gt (q := 10) (g := 14) am dm_in_7 rfl rfl ?_ ?_
        · exact ji_sub (lv' := []) [] rfl (hj14 _)
        · refine ji_iconst (q := 11) am dm_in_10 ki_1 rfl ?_
          refine ji_goto (q := 15) am dm_in_11 rfl ?_
          exact ji_sub (lv' := []) [] rfl (hj15 _)

theorem dm_isRegister_0 : decode bm_isRegister 0 = .ok (.iload_n 0, 1) := by decide +kernel
theorem dm_isRegister_1 : decode bm_isRegister 1 = .ok (.iconst 0, 1) := by decide +kernel
theorem dm_isRegister_2 : decode bm_isRegister 2 = .ok (.bipush 15, 2) := by decide +kernel
theorem dm_isRegister_4 : decode bm_isRegister 4 = .ok (.invokestatic 54, 3) := by decide +kernel
theorem dm_isRegister_7 : decode bm_isRegister 7 = .ok (.ireturn, 1) := by decide +kernel
set_option maxHeartbeats 4000000 in
set_option maxRecDepth 100000 in
theorem ctm_isRegister {v : wt_V} {a1 : Int32} {r : Int32} (s : wt_S) (t : wt_M) (o : Nat → Int64) (hF : fm_isRegister a1 = some r) : ct_C v ym_isRegister (Cond.code ym_isRegister bm_isRegister 1 (some .boolean)) 2 [.int a1] (some (.int r)) (s, t, o) (s, t, o) := by
  refine ct_of (lv := [(0, .int a1)]) (fun r : Int32 => some (.int r)) (fun _ => (s, t, o)) (by decide) (Nat.le_of_ble_eq_true rfl) rfl ?_ r hF
  intro z hz am
  subst hz
  have am : wt_Am z R_M bm_isRegister 1 2 (some .boolean) := am
  show jj_J z 1 0 [(0, .int a1)] [] (s, t, o) (q_I z s t o) (fm_isRegister a1)
  unfold fm_isRegister
  refine ji_iload_n (q := 1) am dm_isRegister_0 rfl 0 rfl rfl ?_
  refine ji_iconst (q := 2) am dm_isRegister_1 ki_0 rfl ?_
  refine ji_bipush (q := 4) am dm_isRegister_2 kb_15 rfl ?_
  refine jk_I (q := 7) (rest := []) (fun r hF => jr_S [.int a1, .int (0 : Int32), .int (15 : Int32)] am ln_M_m_in (ctm_in _ _ _ hF) (by omega) rfl rfl (Nat.le_of_ble_eq_true rfl) dm_isRegister_4) rfl ?_
  intro r4
  exact ji_zret am rfl dm_isRegister_7 rfl rfl

theorem dm_isVariable_0 : decode bm_isVariable 0 = .ok (.iload_n 0, 1) := by decide +kernel
theorem dm_isVariable_1 : decode bm_isVariable 1 = .ok (.iconst 0, 1) := by decide +kernel
theorem dm_isVariable_2 : decode bm_isVariable 2 = .ok (.bipush 7, 2) := by decide +kernel
theorem dm_isVariable_4 : decode bm_isVariable 4 = .ok (.invokestatic 54, 3) := by decide +kernel
theorem dm_isVariable_7 : decode bm_isVariable 7 = .ok (.ireturn, 1) := by decide +kernel
set_option maxHeartbeats 4000000 in
set_option maxRecDepth 100000 in
theorem ctm_isVariable {v : wt_V} {a1 : Int32} {r : Int32} (s : wt_S) (t : wt_M) (o : Nat → Int64) (hF : fm_isVariable a1 = some r) : ct_C v ym_isVariable (Cond.code ym_isVariable bm_isVariable 1 (some .boolean)) 2 [.int a1] (some (.int r)) (s, t, o) (s, t, o) := by
  refine ct_of (lv := [(0, .int a1)]) (fun r : Int32 => some (.int r)) (fun _ => (s, t, o)) (by decide) (Nat.le_of_ble_eq_true rfl) rfl ?_ r hF
  intro z hz am
  subst hz
  have am : wt_Am z R_M bm_isVariable 1 2 (some .boolean) := am
  show jj_J z 1 0 [(0, .int a1)] [] (s, t, o) (q_I z s t o) (fm_isVariable a1)
  unfold fm_isVariable
  refine ji_iload_n (q := 1) am dm_isVariable_0 rfl 0 rfl rfl ?_
  refine ji_iconst (q := 2) am dm_isVariable_1 ki_0 rfl ?_
  refine ji_bipush (q := 4) am dm_isVariable_2 kb_7 rfl ?_
  refine jk_I (q := 7) (rest := []) (fun r hF => jr_S [.int a1, .int (0 : Int32), .int (7 : Int32)] am ln_M_m_in (ctm_in _ _ _ hF) (by omega) rfl rfl (Nat.le_of_ble_eq_true rfl) dm_isVariable_4) rfl ?_
  intro r4
  exact ji_zret am rfl dm_isVariable_7 rfl rfl

theorem dm_value_0 : decode bm_value 0 = .ok (.aload_n 0, 1) := by decide +kernel
theorem dm_value_1 : decode bm_value 1 = .ok (.getfield 7, 3) := by decide +kernel
theorem dm_value_4 : decode bm_value 4 = .ok (.iconst 4, 1) := by decide +kernel
theorem dm_value_5 : decode bm_value 5 = .ok (.iload_n 1, 1) := by decide +kernel
theorem dm_value_6 : decode bm_value 6 = .ok (.imul, 1) := by decide +kernel
theorem dm_value_7 : decode bm_value 7 = .ok (.iload_n 2, 1) := by decide +kernel
theorem dm_value_8 : decode bm_value 8 = .ok (.bipush 6, 2) := by decide +kernel
theorem dm_value_10 : decode bm_value 10 = .ok (.ishr, 1) := by decide +kernel
theorem dm_value_11 : decode bm_value 11 = .ok (.iadd, 1) := by decide +kernel
theorem dm_value_12 : decode bm_value 12 = .ok (.laload, 1) := by decide +kernel
theorem dm_value_13 : decode bm_value 13 = .ok (.iload_n 2, 1) := by decide +kernel
theorem dm_value_14 : decode bm_value 14 = .ok (.bipush 63, 2) := by decide +kernel
theorem dm_value_16 : decode bm_value 16 = .ok (.iand, 1) := by decide +kernel
theorem dm_value_17 : decode bm_value 17 = .ok (.lshr, 1) := by decide +kernel
theorem dm_value_18 : decode bm_value 18 = .ok (.lconst 1, 1) := by decide +kernel
theorem dm_value_19 : decode bm_value 19 = .ok (.land, 1) := by decide +kernel
theorem dm_value_20 : decode bm_value 20 = .ok (.lconst 1, 1) := by decide +kernel
theorem dm_value_21 : decode bm_value 21 = .ok (.lcmp, 1) := by decide +kernel
theorem dm_value_22 : decode bm_value 22 = .ok (.ifCond .ne 7, 3) := by decide +kernel
theorem dm_value_25 : decode bm_value 25 = .ok (.iconst 1, 1) := by decide +kernel
theorem dm_value_26 : decode bm_value 26 = .ok (.goto 4, 3) := by decide +kernel
theorem dm_value_29 : decode bm_value 29 = .ok (.iconst 0, 1) := by decide +kernel
theorem dm_value_30 : decode bm_value 30 = .ok (.ireturn, 1) := by decide +kernel
set_option maxHeartbeats 4000000 in
set_option maxRecDepth 100000 in
theorem ctm_value {v : wt_V} {t : wt_M} {a1 : Int32} {a2 : Int32} {r : Int32} (s : wt_S) (o : Nat → Int64) (hF : fm_value t a1 a2 = some r) : ct_C v ym_value (Cond.code ym_value bm_value 3 (some .boolean)) 1 [.ref (v.2.1 11), .int a1, .int a2] (some (.int r)) (s, t, o) (s, t, o) := by
  refine ct_of (lv := [(0, .ref (v.2.1 11)), (1, .int a1), (2, .int a2)]) (fun r : Int32 => some (.int r)) (fun _ => (s, t, o)) (by decide) (Nat.le_of_ble_eq_true rfl) rfl ?_ r hF
  intro z hz am
  subst hz
  have am : wt_Am z R_M bm_value 3 1 (some .boolean) := am
  show jj_J z 3 0 [(0, .ref (ad_ z 11)), (1, .int a1), (2, .int a2)] [] (s, t, o) (q_I z s t o) (fm_value t a1 a2)
  unfold fm_value
  refine ji_aload_n (q := 1) am dm_value_0 rfl 0 rfl rfl ?_
  refine ji_get_M_words (q := 4) am dm_value_1 rfl ?_
  refine ji_iconst (q := 5) am dm_value_4 ki_4 rfl ?_
  refine ji_iload_n (q := 6) am dm_value_5 rfl 1 rfl rfl ?_
  refine ji_imul (q := 7) am dm_value_6 rfl ?_
  refine ji_iload_n (q := 8) am dm_value_7 rfl 2 rfl rfl ?_
  refine ji_bipush (q := 10) am dm_value_8 kb_6 rfl ?_
  refine ji_ishr (q := 11) am dm_value_10 rfl ?_
  refine ji_iadd (q := 12) am dm_value_11 rfl ?_
  refine ji_ald_Mwords (q := 13) am dm_value_12 rfl ?_
  intro v12
  refine ji_iload_n (q := 14) am dm_value_13 rfl 2 rfl rfl ?_
  refine ji_bipush (q := 16) am dm_value_14 kb_63 rfl ?_
  refine ji_iand (q := 17) am dm_value_16 rfl ?_
  refine ji_lshr (q := 18) am dm_value_17 rfl ?_
  refine ji_lconst (q := 19) am dm_value_18 kl_1 rfl ?_
  refine ji_land (q := 20) am dm_value_19 rfl ?_
  refine ji_lconst (q := 21) am dm_value_20 kl_1 rfl ?_
  refine ji_jn2 (fun j => ∀ (y0_30 : Int32), jj_J z 3 30 [] [.int y0_30] (s, t, o) (q_I z s t o) (j y0_30)) ?_ ?_
  · intro y0_30
    exact ji_zret am rfl dm_value_30 rfl rfl
  · intro j30 hj30
    refine ji_lcmp_ne (q := 25) (g := 29) am dm_value_21 dm_value_22 rfl rfl ?_ ?_
    · refine ji_iconst (q := 30) am dm_value_29 ki_0 rfl ?_
      exact ji_sub (lv' := []) [] rfl (hj30 _)
    · refine ji_iconst (q := 26) am dm_value_25 ki_1 rfl ?_
      refine ji_goto (q := 30) am dm_value_26 rfl ?_
      exact ji_sub (lv' := []) [] rfl (hj30 _)

theorem dm_clear_0 : decode bm_clear 0 = .ok (.bipush 64, 2) := by decide +kernel
theorem dm_clear_2 : decode bm_clear 2 = .ok (.istore_n 1, 1) := by decide +kernel
theorem dm_clear_3 : decode bm_clear 3 = .ok (.iload_n 1, 1) := by decide +kernel
theorem dm_clear_4 : decode bm_clear 4 = .ok (.bipush 68, 2) := by decide +kernel
theorem dm_clear_6 : decode bm_clear 6 = .ok (.if_icmp .ge 16, 3) := by decide +kernel
theorem dm_clear_9 : decode bm_clear 9 = .ok (.aload_n 0, 1) := by decide +kernel
theorem dm_clear_10 : decode bm_clear 10 = .ok (.getfield 7, 3) := by decide +kernel
theorem dm_clear_13 : decode bm_clear 13 = .ok (.iload_n 1, 1) := by decide +kernel
theorem dm_clear_14 : decode bm_clear 14 = .ok (.lconst 0, 1) := by decide +kernel
theorem dm_clear_15 : decode bm_clear 15 = .ok (.lastore, 1) := by decide +kernel
theorem dm_clear_16 : decode bm_clear 16 = .ok (.iinc 1 1, 3) := by decide +kernel
theorem dm_clear_19 : decode bm_clear 19 = .ok (.goto (-16), 3) := by decide +kernel
theorem dm_clear_22 : decode bm_clear 22 = .ok (.return_, 1) := by decide +kernel
set_option maxHeartbeats 4000000 in
set_option maxRecDepth 100000 in
theorem lm_clear_3 {z : wt_Z} {s : wt_S} {o : Nat → Int64} (am : wt_Am z R_M bm_clear 2 1 none) : ∀ (n : Nat) (x1 : Int32) (t : wt_M), jj_J z 2 3 [(0, .ref (ad_ z 11)), (1, .int x1)] [] (s, t, o) (q_T z s o) (fm_clear_L3 n x1 t) := by
  intro n
  induction n with
  | zero =>
    intro x1 t
    exact ji_none
  | succ n ih =>
    intro x1 t
    rw [fm_clear_L3]
    refine ji_iload_n (q := 4) am dm_clear_3 rfl 1 rfl rfl ?_
    refine ji_bipush (q := 6) am dm_clear_4 kb_68 rfl ?_
    refine ji_icmp_ge (q := 9) (g := 22) am dm_clear_6 rfl rfl ?_ ?_
    · exact ji_vret am rfl dm_clear_22 rfl rfl
    · refine ji_aload_n (q := 10) am dm_clear_9 rfl 0 rfl rfl ?_
      refine ji_get_M_words (q := 13) am dm_clear_10 rfl ?_
      refine ji_iload_n (q := 14) am dm_clear_13 rfl 1 rfl rfl ?_
      refine ji_lconst (q := 15) am dm_clear_14 kl_0 rfl ?_
      refine ji_ast_Mwords (q := 16) am dm_clear_15 rfl ?_
      intro t15
      refine ji_iinc (q := 19) (lv' := [(0, .ref (ad_ z 11)), (1, .int (x1 + 1))]) am dm_clear_16 1 rfl ki_1 [1, 0] rfl rfl rfl ?_
      refine ji_goto (q := 3) am dm_clear_19 rfl ?_
      exact ih _ _
set_option maxHeartbeats 4000000 in
set_option maxRecDepth 100000 in
theorem ctm_clear {v : wt_V} {t : wt_M} {t2 : wt_M} (s : wt_S) (o : Nat → Int64) (hF : fm_clear t = some t2) : ct_C v ym_clear (Cond.code ym_clear bm_clear 2 none) 1 [.ref (v.2.1 11)] none (s, t, o) (s, t2, o) := by
  refine ct_of (lv := [(0, .ref (v.2.1 11))]) (fun _ : wt_M => none) (fun r => (s, r, o)) (by decide) (Nat.le_of_ble_eq_true rfl) rfl ?_ t2 hF
  intro z hz am
  subst hz
  have am : wt_Am z R_M bm_clear 2 1 none := am
  show jj_J z 2 0 [(0, .ref (ad_ z 11))] [] (s, t, o) (q_T z s o) (fm_clear t)
  unfold fm_clear
  refine ji_bipush (q := 2) am dm_clear_0 kb_64 rfl ?_
  refine ji_istore_n (lv' := [(0, .ref (ad_ z 11)), (1, .int (64 : Int32))]) (q := 3) am dm_clear_2 rfl [1, 0] rfl rfl rfl ?_
  exact lm_clear_3 am 5000 _ _

theorem dm_set_0 : decode bm_set 0 = .ok (.iload_n 2, 1) := by decide +kernel
theorem dm_set_1 : decode bm_set 1 = .ok (.ifCond .eq 24, 3) := by decide +kernel
theorem dm_set_4 : decode bm_set 4 = .ok (.aload_n 0, 1) := by decide +kernel
theorem dm_set_5 : decode bm_set 5 = .ok (.getfield 7, 3) := by decide +kernel
theorem dm_set_8 : decode bm_set 8 = .ok (.bipush 64, 2) := by decide +kernel
theorem dm_set_10 : decode bm_set 10 = .ok (.iload_n 1, 1) := by decide +kernel
theorem dm_set_11 : decode bm_set 11 = .ok (.bipush 6, 2) := by decide +kernel
theorem dm_set_13 : decode bm_set 13 = .ok (.ishr, 1) := by decide +kernel
theorem dm_set_14 : decode bm_set 14 = .ok (.iadd, 1) := by decide +kernel
theorem dm_set_15 : decode bm_set 15 = .ok (.dup2, 1) := by decide +kernel
theorem dm_set_16 : decode bm_set 16 = .ok (.laload, 1) := by decide +kernel
theorem dm_set_17 : decode bm_set 17 = .ok (.lconst 1, 1) := by decide +kernel
theorem dm_set_18 : decode bm_set 18 = .ok (.iload_n 1, 1) := by decide +kernel
theorem dm_set_19 : decode bm_set 19 = .ok (.bipush 63, 2) := by decide +kernel
theorem dm_set_21 : decode bm_set 21 = .ok (.iand, 1) := by decide +kernel
theorem dm_set_22 : decode bm_set 22 = .ok (.lshl, 1) := by decide +kernel
theorem dm_set_23 : decode bm_set 23 = .ok (.lor, 1) := by decide +kernel
theorem dm_set_24 : decode bm_set 24 = .ok (.lastore, 1) := by decide +kernel
theorem dm_set_25 : decode bm_set 25 = .ok (.return_, 1) := by decide +kernel
set_option maxHeartbeats 4000000 in
set_option maxRecDepth 100000 in
theorem ctm_set {v : wt_V} {t : wt_M} {a1 : Int32} {a2 : Int32} {t2 : wt_M} (s : wt_S) (o : Nat → Int64) (hF : fm_set t a1 a2 = some t2) : ct_C v ym_set (Cond.code ym_set bm_set 3 none) 1 [.ref (v.2.1 11), .int a1, .int a2] none (s, t, o) (s, t2, o) := by
  refine ct_of (lv := [(0, .ref (v.2.1 11)), (1, .int a1), (2, .int a2)]) (fun _ : wt_M => none) (fun r => (s, r, o)) (by decide) (Nat.le_of_ble_eq_true rfl) rfl ?_ t2 hF
  intro z hz am
  subst hz
  have am : wt_Am z R_M bm_set 3 1 none := am
  show jj_J z 3 0 [(0, .ref (ad_ z 11)), (1, .int a1), (2, .int a2)] [] (s, t, o) (q_T z s o) (fm_set t a1 a2)
  unfold fm_set
  refine ji_iload_n (q := 1) am dm_set_0 rfl 2 rfl rfl ?_
  refine ji_jn2 (fun j => ∀ (t_25 : wt_M), jj_J z 3 25 [] [] (s, t_25, o) (q_T z s o) (j t_25)) ?_ ?_
  · intro t_25
    exact ji_vret am rfl dm_set_25 rfl rfl
  · intro j25 hj25
    refine ji_if_eq (q := 4) (g := 25) am dm_set_1 rfl rfl ?_ ?_
    · exact ji_sub (lv' := []) [] rfl (hj25 _)
    · refine ji_aload_n (q := 5) am dm_set_4 rfl 0 rfl rfl ?_
      refine ji_get_M_words (q := 8) am dm_set_5 rfl ?_
      refine ji_bipush (q := 10) am dm_set_8 kb_64 rfl ?_
      refine ji_iload_n (q := 11) am dm_set_10 rfl 1 rfl rfl ?_
      refine ji_bipush (q := 13) am dm_set_11 kb_6 rfl ?_
      refine ji_ishr (q := 14) am dm_set_13 rfl ?_
      refine ji_iadd (q := 15) am dm_set_14 rfl ?_
      refine ji_dup2 (q := 16) am dm_set_15 rfl rfl rfl ?_
      refine ji_ald_Mwords (q := 17) am dm_set_16 rfl ?_
      intro v16
      refine ji_lconst (q := 18) am dm_set_17 kl_1 rfl ?_
      refine ji_iload_n (q := 19) am dm_set_18 rfl 1 rfl rfl ?_
      refine ji_bipush (q := 21) am dm_set_19 kb_63 rfl ?_
      refine ji_iand (q := 22) am dm_set_21 rfl ?_
      refine ji_lshl (q := 23) am dm_set_22 rfl ?_
      refine ji_lor (q := 24) am dm_set_23 rfl ?_
      refine ji_ast_Mwords (q := 25) am dm_set_24 rfl ?_
      intro t24
      exact ji_sub (lv' := []) [] rfl (hj25 _)

theorem dm_keep_0 : decode bm_keep 0 = .ok (.iconst 0, 1) := by decide +kernel
theorem dm_keep_1 : decode bm_keep 1 = .ok (.istore_n 2, 1) := by decide +kernel
theorem dm_keep_2 : decode bm_keep 2 = .ok (.iload_n 2, 1) := by decide +kernel
theorem dm_keep_3 : decode bm_keep 3 = .ok (.iconst 4, 1) := by decide +kernel
theorem dm_keep_4 : decode bm_keep 4 = .ok (.if_icmp .ge 28, 3) := by decide +kernel
theorem dm_keep_7 : decode bm_keep 7 = .ok (.aload_n 0, 1) := by decide +kernel
theorem dm_keep_8 : decode bm_keep 8 = .ok (.getfield 7, 3) := by decide +kernel
theorem dm_keep_11 : decode bm_keep 11 = .ok (.iconst 4, 1) := by decide +kernel
theorem dm_keep_12 : decode bm_keep 12 = .ok (.iload_n 1, 1) := by decide +kernel
theorem dm_keep_13 : decode bm_keep 13 = .ok (.imul, 1) := by decide +kernel
theorem dm_keep_14 : decode bm_keep 14 = .ok (.iload_n 2, 1) := by decide +kernel
theorem dm_keep_15 : decode bm_keep 15 = .ok (.iadd, 1) := by decide +kernel
theorem dm_keep_16 : decode bm_keep 16 = .ok (.aload_n 0, 1) := by decide +kernel
theorem dm_keep_17 : decode bm_keep 17 = .ok (.getfield 7, 3) := by decide +kernel
theorem dm_keep_20 : decode bm_keep 20 = .ok (.bipush 64, 2) := by decide +kernel
theorem dm_keep_22 : decode bm_keep 22 = .ok (.iload_n 2, 1) := by decide +kernel
theorem dm_keep_23 : decode bm_keep 23 = .ok (.iadd, 1) := by decide +kernel
theorem dm_keep_24 : decode bm_keep 24 = .ok (.laload, 1) := by decide +kernel
theorem dm_keep_25 : decode bm_keep 25 = .ok (.lastore, 1) := by decide +kernel
theorem dm_keep_26 : decode bm_keep 26 = .ok (.iinc 2 1, 3) := by decide +kernel
theorem dm_keep_29 : decode bm_keep 29 = .ok (.goto (-27), 3) := by decide +kernel
theorem dm_keep_32 : decode bm_keep 32 = .ok (.return_, 1) := by decide +kernel
set_option maxHeartbeats 4000000 in
set_option maxRecDepth 100000 in
theorem lm_keep_2 {z : wt_Z} {s : wt_S} {o : Nat → Int64} {c1 : Int32} (am : wt_Am z R_M bm_keep 3 1 none) : ∀ (n : Nat) (x2 : Int32) (t : wt_M), jj_J z 3 2 [(0, .ref (ad_ z 11)), (1, .int c1), (2, .int x2)] [] (s, t, o) (q_T z s o) (fm_keep_L2 c1 n x2 t) := by
  intro n
  induction n with
  | zero =>
    intro x2 t
    exact ji_none
  | succ n ih =>
    intro x2 t
    rw [fm_keep_L2]
    refine ji_iload_n (q := 3) am dm_keep_2 rfl 2 rfl rfl ?_
    refine ji_iconst (q := 4) am dm_keep_3 ki_4 rfl ?_
    refine ji_icmp_ge (q := 7) (g := 32) am dm_keep_4 rfl rfl ?_ ?_
    · exact ji_vret am rfl dm_keep_32 rfl rfl
    · refine ji_aload_n (q := 8) am dm_keep_7 rfl 0 rfl rfl ?_
      refine ji_get_M_words (q := 11) am dm_keep_8 rfl ?_
      refine ji_iconst (q := 12) am dm_keep_11 ki_4 rfl ?_
      refine ji_iload_n (q := 13) am dm_keep_12 rfl 1 rfl rfl ?_
      refine ji_imul (q := 14) am dm_keep_13 rfl ?_
      refine ji_iload_n (q := 15) am dm_keep_14 rfl 2 rfl rfl ?_
      refine ji_iadd (q := 16) am dm_keep_15 rfl ?_
      refine ji_aload_n (q := 17) am dm_keep_16 rfl 0 rfl rfl ?_
      refine ji_get_M_words (q := 20) am dm_keep_17 rfl ?_
      refine ji_bipush (q := 22) am dm_keep_20 kb_64 rfl ?_
      refine ji_iload_n (q := 23) am dm_keep_22 rfl 2 rfl rfl ?_
      refine ji_iadd (q := 24) am dm_keep_23 rfl ?_
      refine ji_ald_Mwords (q := 25) am dm_keep_24 rfl ?_
      intro v24
      refine ji_ast_Mwords (q := 26) am dm_keep_25 rfl ?_
      intro t25
      refine ji_iinc (q := 29) (lv' := [(0, .ref (ad_ z 11)), (1, .int c1), (2, .int (x2 + 1))]) am dm_keep_26 2 rfl ki_1 [1, 2, 0] rfl rfl rfl ?_
      refine ji_goto (q := 2) am dm_keep_29 rfl ?_
      exact ih _ _
set_option maxHeartbeats 4000000 in
set_option maxRecDepth 100000 in
theorem ctm_keep {v : wt_V} {t : wt_M} {a1 : Int32} {t2 : wt_M} (s : wt_S) (o : Nat → Int64) (hF : fm_keep t a1 = some t2) : ct_C v ym_keep (Cond.code ym_keep bm_keep 3 none) 1 [.ref (v.2.1 11), .int a1] none (s, t, o) (s, t2, o) := by
  refine ct_of (lv := [(0, .ref (v.2.1 11)), (1, .int a1)]) (fun _ : wt_M => none) (fun r => (s, r, o)) (by decide) (Nat.le_of_ble_eq_true rfl) rfl ?_ t2 hF
  intro z hz am
  subst hz
  have am : wt_Am z R_M bm_keep 3 1 none := am
  show jj_J z 3 0 [(0, .ref (ad_ z 11)), (1, .int a1)] [] (s, t, o) (q_T z s o) (fm_keep t a1)
  unfold fm_keep
  refine ji_iconst (q := 1) am dm_keep_0 ki_0 rfl ?_
  refine ji_istore_n (lv' := [(0, .ref (ad_ z 11)), (1, .int a1), (2, .int (0 : Int32))]) (q := 2) am dm_keep_1 rfl [1, 2, 0] rfl rfl rfl ?_
  exact lm_keep_2 am 5000 _ _

theorem dm_with_0 : decode bm_with 0 = .ok (.iload_n 2, 1) := by decide +kernel
theorem dm_with_1 : decode bm_with 1 = .ok (.ifCond .eq 11, 3) := by decide +kernel
theorem dm_with_4 : decode bm_with 4 = .ok (.iload_n 0, 1) := by decide +kernel
theorem dm_with_5 : decode bm_with 5 = .ok (.iconst 1, 1) := by decide +kernel
theorem dm_with_6 : decode bm_with 6 = .ok (.iload_n 1, 1) := by decide +kernel
theorem dm_with_7 : decode bm_with 7 = .ok (.ishl, 1) := by decide +kernel
theorem dm_with_8 : decode bm_with 8 = .ok (.ior, 1) := by decide +kernel
theorem dm_with_9 : decode bm_with 9 = .ok (.goto 10, 3) := by decide +kernel
theorem dm_with_12 : decode bm_with 12 = .ok (.iload_n 0, 1) := by decide +kernel
theorem dm_with_13 : decode bm_with 13 = .ok (.iconst 1, 1) := by decide +kernel
theorem dm_with_14 : decode bm_with 14 = .ok (.iload_n 1, 1) := by decide +kernel
theorem dm_with_15 : decode bm_with 15 = .ok (.ishl, 1) := by decide +kernel
theorem dm_with_16 : decode bm_with 16 = .ok (.iconst (-1), 1) := by decide +kernel
theorem dm_with_17 : decode bm_with 17 = .ok (.ixor, 1) := by decide +kernel
theorem dm_with_18 : decode bm_with 18 = .ok (.iand, 1) := by decide +kernel
theorem dm_with_19 : decode bm_with 19 = .ok (.ireturn, 1) := by decide +kernel
set_option maxHeartbeats 4000000 in
set_option maxRecDepth 100000 in
theorem ctm_with {v : wt_V} {a1 : Int32} {a2 : Int32} {a3 : Int32} {r : Int32} (s : wt_S) (t : wt_M) (o : Nat → Int64) (hF : fm_with a1 a2 a3 = some r) : ct_C v ym_with (Cond.code ym_with bm_with 3 (some .int)) 1 [.int a1, .int a2, .int a3] (some (.int r)) (s, t, o) (s, t, o) := by
  refine ct_of (lv := [(0, .int a1), (1, .int a2), (2, .int a3)]) (fun r : Int32 => some (.int r)) (fun _ => (s, t, o)) (by decide) (Nat.le_of_ble_eq_true rfl) rfl ?_ r hF
  intro z hz am
  subst hz
  have am : wt_Am z R_M bm_with 3 1 (some .int) := am
  show jj_J z 3 0 [(0, .int a1), (1, .int a2), (2, .int a3)] [] (s, t, o) (q_I z s t o) (fm_with a1 a2 a3)
  unfold fm_with
  refine ji_iload_n (q := 1) am dm_with_0 rfl 2 rfl rfl ?_
  refine ji_jn2 (fun j => ∀ (y0_19 : Int32), jj_J z 3 19 [] [.int y0_19] (s, t, o) (q_I z s t o) (j y0_19)) ?_ ?_
  · intro y0_19
    exact ji_iret am rfl dm_with_19 rfl rfl
  · intro j19 hj19
    refine ji_if_eq (q := 4) (g := 12) am dm_with_1 rfl rfl ?_ ?_
    · refine ji_iload_n (q := 13) am dm_with_12 rfl 0 rfl rfl ?_
      refine ji_iconst (q := 14) am dm_with_13 ki_1 rfl ?_
      refine ji_iload_n (q := 15) am dm_with_14 rfl 1 rfl rfl ?_
      refine ji_ishl (q := 16) am dm_with_15 rfl ?_
      refine ji_iconst (q := 17) am dm_with_16 ki_m1 rfl ?_
      refine ji_ixor (q := 18) am dm_with_17 rfl ?_
      refine ji_iand (q := 19) am dm_with_18 rfl ?_
      exact ji_sub (lv' := []) [] rfl (hj19 _)
    · refine ji_iload_n (q := 5) am dm_with_4 rfl 0 rfl rfl ?_
      refine ji_iconst (q := 6) am dm_with_5 ki_1 rfl ?_
      refine ji_iload_n (q := 7) am dm_with_6 rfl 1 rfl rfl ?_
      refine ji_ishl (q := 8) am dm_with_7 rfl ?_
      refine ji_ior (q := 9) am dm_with_8 rfl ?_
      refine ji_goto (q := 19) am dm_with_9 rfl ?_
      exact ji_sub (lv' := []) [] rfl (hj19 _)

theorem dm_variable_0 : decode bm_variable 0 = .ok (.aload_n 0, 1) := by decide +kernel
theorem dm_variable_1 : decode bm_variable 1 = .ok (.iload_n 1, 1) := by decide +kernel
theorem dm_variable_2 : decode bm_variable 2 = .ok (.invokestatic 58, 3) := by decide +kernel
theorem dm_variable_5 : decode bm_variable 5 = .ok (.ifCond .eq 14, 3) := by decide +kernel
theorem dm_variable_8 : decode bm_variable 8 = .ok (.iload_n 2, 1) := by decide +kernel
theorem dm_variable_9 : decode bm_variable 9 = .ok (.invokestatic 62, 3) := by decide +kernel
theorem dm_variable_12 : decode bm_variable 12 = .ok (.ifCond .eq 7, 3) := by decide +kernel
theorem dm_variable_15 : decode bm_variable 15 = .ok (.iconst 0, 1) := by decide +kernel
theorem dm_variable_16 : decode bm_variable 16 = .ok (.goto 4, 3) := by decide +kernel
theorem dm_variable_19 : decode bm_variable 19 = .ok (.iconst 1, 1) := by decide +kernel
theorem dm_variable_20 : decode bm_variable 20 = .ok (.putfield 50, 3) := by decide +kernel
theorem dm_variable_23 : decode bm_variable 23 = .ok (.aload_n 0, 1) := by decide +kernel
theorem dm_variable_24 : decode bm_variable 24 = .ok (.getfield 50, 3) := by decide +kernel
theorem dm_variable_27 : decode bm_variable 27 = .ok (.ifCond .ne 46, 3) := by decide +kernel
theorem dm_variable_30 : decode bm_variable 30 = .ok (.aload_n 0, 1) := by decide +kernel
theorem dm_variable_31 : decode bm_variable 31 = .ok (.invokevirtual 65, 3) := by decide +kernel
theorem dm_variable_34 : decode bm_variable 34 = .ok (.iconst 0, 1) := by decide +kernel
theorem dm_variable_35 : decode bm_variable 35 = .ok (.istore_n 3, 1) := by decide +kernel
theorem dm_variable_36 : decode bm_variable 36 = .ok (.iload_n 3, 1) := by decide +kernel
theorem dm_variable_37 : decode bm_variable 37 = .ok (.sipush 256, 3) := by decide +kernel
theorem dm_variable_40 : decode bm_variable 40 = .ok (.if_icmp .ge 28, 3) := by decide +kernel
theorem dm_variable_43 : decode bm_variable 43 = .ok (.aload_n 0, 1) := by decide +kernel
theorem dm_variable_44 : decode bm_variable 44 = .ok (.iload_n 3, 1) := by decide +kernel
theorem dm_variable_45 : decode bm_variable 45 = .ok (.iload_n 3, 1) := by decide +kernel
theorem dm_variable_46 : decode bm_variable 46 = .ok (.iload_n 2, 1) := by decide +kernel
theorem dm_variable_47 : decode bm_variable 47 = .ok (.ishr, 1) := by decide +kernel
theorem dm_variable_48 : decode bm_variable 48 = .ok (.iconst 1, 1) := by decide +kernel
theorem dm_variable_49 : decode bm_variable 49 = .ok (.iand, 1) := by decide +kernel
theorem dm_variable_50 : decode bm_variable 50 = .ok (.iconst 1, 1) := by decide +kernel
theorem dm_variable_51 : decode bm_variable 51 = .ok (.if_icmp .ne 7, 3) := by decide +kernel
theorem dm_variable_54 : decode bm_variable 54 = .ok (.iconst 1, 1) := by decide +kernel
theorem dm_variable_55 : decode bm_variable 55 = .ok (.goto 4, 3) := by decide +kernel
theorem dm_variable_58 : decode bm_variable 58 = .ok (.iconst 0, 1) := by decide +kernel
theorem dm_variable_59 : decode bm_variable 59 = .ok (.invokevirtual 68, 3) := by decide +kernel
theorem dm_variable_62 : decode bm_variable 62 = .ok (.iinc 3 1, 3) := by decide +kernel
theorem dm_variable_65 : decode bm_variable 65 = .ok (.goto (-29), 3) := by decide +kernel
theorem dm_variable_68 : decode bm_variable 68 = .ok (.aload_n 0, 1) := by decide +kernel
theorem dm_variable_69 : decode bm_variable 69 = .ok (.iload_n 1, 1) := by decide +kernel
theorem dm_variable_70 : decode bm_variable 70 = .ok (.invokevirtual 72, 3) := by decide +kernel
theorem dm_variable_73 : decode bm_variable 73 = .ok (.return_, 1) := by decide +kernel
set_option maxHeartbeats 4000000 in
set_option maxRecDepth 100000 in
theorem lm_variable_36 {z : wt_Z} {s : wt_S} {o : Nat → Int64} {c1 : Int32} {c2 : Int32} {K : wt_M → Option (wt_M)} (am : wt_Am z R_M bm_variable 4 3 none) (hK : ∀ (t3 : wt_M), jj_J z 4 68 [(0, .ref (ad_ z 11)), (1, .int c1)] [] (s, t3, o) (q_T z s o) (K t3)) : ∀ (n : Nat) (x3 : Int32) (t : wt_M), jj_J z 4 36 [(0, .ref (ad_ z 11)), (1, .int c1), (2, .int c2), (3, .int x3)] [] (s, t, o) (q_T z s o) (fm_variable_L36 c1 c2 K n x3 t) := by
  intro n
  induction n with
  | zero =>
    intro x3 t
    exact ji_none
  | succ n ih =>
    intro x3 t
    rw [fm_variable_L36]
    refine ji_iload_n (q := 37) am dm_variable_36 rfl 3 rfl rfl ?_
    refine ji_sipush (q := 40) am dm_variable_37 ks_256 rfl ?_
    refine ji_icmp_ge (q := 43) (g := 68) am dm_variable_40 rfl rfl ?_ ?_
    · exact ji_sub (lv' := [(0, .ref (ad_ z 11)), (1, .int c1)]) [0, 1] rfl (hK _)
    · refine ji_aload_n (q := 44) am dm_variable_43 rfl 0 rfl rfl ?_
      refine ji_iload_n (q := 45) am dm_variable_44 rfl 3 rfl rfl ?_
      refine ji_iload_n (q := 46) am dm_variable_45 rfl 3 rfl rfl ?_
      refine ji_iload_n (q := 47) am dm_variable_46 rfl 2 rfl rfl ?_
      refine ji_ishr (q := 48) am dm_variable_47 rfl ?_
      refine ji_iconst (q := 49) am dm_variable_48 ki_1 rfl ?_
      refine ji_iand (q := 50) am dm_variable_49 rfl ?_
      refine ji_iconst (q := 51) am dm_variable_50 ki_1 rfl ?_
      refine ji_jn2 (fun j => ∀ (y0_59 : Int32), jj_J z 4 59 [(0, .ref (ad_ z 11)), (1, .int c1), (2, .int c2), (3, .int x3)] [.int y0_59, .int x3, .ref (ad_ z 11)] (s, t, o) (q_T z s o) (j y0_59)) ?_ ?_
      · intro y0_59
        refine jk_T (q := 62) (rest := []) (fun t2 hF => jr_V [.int x3, .int y0_59] am ln_M_m_set (ctm_set _ _ hF) (by omega) (rc_M am) rfl rfl (Nat.le_of_ble_eq_true rfl) dm_variable_59) rfl ?_
        intro t59
        refine ji_iinc (q := 65) (lv' := [(0, .ref (ad_ z 11)), (1, .int c1), (2, .int c2), (3, .int (x3 + 1))]) am dm_variable_62 3 rfl ki_1 [1, 2, 3, 0] rfl rfl rfl ?_
        refine ji_goto (q := 36) am dm_variable_65 rfl ?_
        exact ih _ _
      · intro j59 hj59
        refine ji_icmp_ne (q := 54) (g := 58) am dm_variable_51 rfl rfl ?_ ?_
        · refine ji_iconst (q := 59) am dm_variable_58 ki_0 rfl ?_
          exact hj59 _
        · refine ji_iconst (q := 55) am dm_variable_54 ki_1 rfl ?_
          refine ji_goto (q := 59) am dm_variable_55 rfl ?_
          exact hj59 _
set_option maxHeartbeats 4000000 in
set_option maxRecDepth 100000 in
theorem ctm_variable {v : wt_V} {t : wt_M} {a1 : Int32} {a2 : Int32} {t2 : wt_M} (s : wt_S) (o : Nat → Int64) (hF : fm_variable t a1 a2 = some t2) : ct_C v ym_variable (Cond.code ym_variable bm_variable 4 none) 3 [.ref (v.2.1 11), .int a1, .int a2] none (s, t, o) (s, t2, o) := by
  refine ct_of (lv := [(0, .ref (v.2.1 11)), (1, .int a1), (2, .int a2)]) (fun _ : wt_M => none) (fun r => (s, r, o)) (by decide) (Nat.le_of_ble_eq_true rfl) rfl ?_ t2 hF
  intro z hz am
  subst hz
  have am : wt_Am z R_M bm_variable 4 3 none := am
  show jj_J z 4 0 [(0, .ref (ad_ z 11)), (1, .int a1), (2, .int a2)] [] (s, t, o) (q_T z s o) (fm_variable t a1 a2)
  unfold fm_variable
  refine ji_aload_n (q := 1) am dm_variable_0 rfl 0 rfl rfl ?_
  refine ji_iload_n (q := 2) am dm_variable_1 rfl 1 rfl rfl ?_
  refine jk_I (q := 5) (rest := [.ref (ad_ z 11)]) (fun r hF => jr_S [.int a1] am ln_M_m_isRegister (ctm_isRegister _ _ _ hF) (by omega) rfl rfl (Nat.le_of_ble_eq_true rfl) dm_variable_2) rfl ?_
  intro r2
  refine ji_jn2 (fun j => ∀ (y0_20 : Int32), jj_J z 4 20 [(0, .ref (ad_ z 11)), (1, .int a1), (2, .int a2)] [.int y0_20, .ref (ad_ z 11)] (s, t, o) (q_T z s o) (j y0_20)) ?_ ?_
  · intro y0_20
    refine ji_put_M_code (q := 23) am dm_variable_20 rfl ?_
    intro t20
    refine ji_aload_n (q := 24) am dm_variable_23 rfl 0 rfl rfl ?_
    refine ji_get_M_code (q := 27) am dm_variable_24 rfl ?_
    refine ji_jn2 (fun j => ∀ (t_73 : wt_M), jj_J z 4 73 [] [] (s, t_73, o) (q_T z s o) (j t_73)) ?_ ?_
    · intro t_73
      exact ji_vret am rfl dm_variable_73 rfl rfl
    · intro j73 hj73
      refine ji_if_ne (q := 30) (g := 73) am dm_variable_27 rfl rfl ?_ ?_
      · exact ji_sub (lv' := []) [] rfl (hj73 _)
      · refine ji_aload_n (q := 31) am dm_variable_30 rfl 0 rfl rfl ?_
        refine jk_T (q := 34) (rest := []) (fun t2 hF => jr_V [] am ln_M_m_clear (ctm_clear _ _ hF) (by omega) (rc_M am) rfl rfl (Nat.le_of_ble_eq_true rfl) dm_variable_31) rfl ?_
        intro t31
        refine ji_iconst (q := 35) am dm_variable_34 ki_0 rfl ?_
        refine ji_istore_n (lv' := [(0, .ref (ad_ z 11)), (1, .int a1), (2, .int a2), (3, .int (0 : Int32))]) (q := 36) am dm_variable_35 rfl [1, 2, 3, 0] rfl rfl rfl ?_
        refine lm_variable_36 am (fun t_36 => ?_) 5000 _ _
        refine ji_aload_n (q := 69) am dm_variable_68 rfl 0 rfl rfl ?_
        refine ji_iload_n (q := 70) am dm_variable_69 rfl 1 rfl rfl ?_
        refine jk_T (q := 73) (rest := []) (fun t2 hF => jr_V [.int a1] am ln_M_m_keep (ctm_keep _ _ hF) (by omega) (rc_M am) rfl rfl (Nat.le_of_ble_eq_true rfl) dm_variable_70) rfl ?_
        intro t70
        exact ji_sub (lv' := []) [] rfl (hj73 _)
  · intro j20 hj20
    refine ji_jn2 (fun j => ∀ (u19 : Unit), jj_J z 4 19 [(0, .ref (ad_ z 11)), (1, .int a1), (2, .int a2)] [.ref (ad_ z 11)] (s, t, o) (q_T z s o) (j u19)) ?_ ?_
    · intro u19
      refine ji_iconst (q := 20) am dm_variable_19 ki_1 rfl ?_
      exact hj20 _
    · intro j19 hj19
      refine ji_if_eq (q := 8) (g := 19) am dm_variable_5 rfl rfl ?_ ?_
      · exact hj19 _
      · refine ji_iload_n (q := 9) am dm_variable_8 rfl 2 rfl rfl ?_
        refine jk_I (q := 12) (rest := [.ref (ad_ z 11)]) (fun r hF => jr_S [.int a2] am ln_M_m_isVariable (ctm_isVariable _ _ _ hF) (by omega) rfl rfl (Nat.le_of_ble_eq_true rfl) dm_variable_9) rfl ?_
        intro r9
        refine ji_if_eq (q := 15) (g := 19) am dm_variable_12 rfl rfl ?_ ?_
        · exact hj19 _
        · refine ji_iconst (q := 16) am dm_variable_15 ki_0 rfl ?_
          refine ji_goto (q := 20) am dm_variable_16 rfl ?_
          exact hj20 _

theorem dm_constant_0 : decode bm_constant 0 = .ok (.aload_n 0, 1) := by decide +kernel
theorem dm_constant_1 : decode bm_constant 1 = .ok (.iload_n 1, 1) := by decide +kernel
theorem dm_constant_2 : decode bm_constant 2 = .ok (.invokestatic 58, 3) := by decide +kernel
theorem dm_constant_5 : decode bm_constant 5 = .ok (.ifCond .eq 7, 3) := by decide +kernel
theorem dm_constant_8 : decode bm_constant 8 = .ok (.iconst 0, 1) := by decide +kernel
theorem dm_constant_9 : decode bm_constant 9 = .ok (.goto 4, 3) := by decide +kernel
theorem dm_constant_12 : decode bm_constant 12 = .ok (.iconst 1, 1) := by decide +kernel
theorem dm_constant_13 : decode bm_constant 13 = .ok (.putfield 50, 3) := by decide +kernel
theorem dm_constant_16 : decode bm_constant 16 = .ok (.aload_n 0, 1) := by decide +kernel
theorem dm_constant_17 : decode bm_constant 17 = .ok (.getfield 50, 3) := by decide +kernel
theorem dm_constant_20 : decode bm_constant 20 = .ok (.ifCond .ne 33, 3) := by decide +kernel
theorem dm_constant_23 : decode bm_constant 23 = .ok (.aload_n 0, 1) := by decide +kernel
theorem dm_constant_24 : decode bm_constant 24 = .ok (.invokevirtual 65, 3) := by decide +kernel
theorem dm_constant_27 : decode bm_constant 27 = .ok (.iconst 0, 1) := by decide +kernel
theorem dm_constant_28 : decode bm_constant 28 = .ok (.istore_n 3, 1) := by decide +kernel
theorem dm_constant_29 : decode bm_constant 29 = .ok (.iload_n 3, 1) := by decide +kernel
theorem dm_constant_30 : decode bm_constant 30 = .ok (.sipush 256, 3) := by decide +kernel
theorem dm_constant_33 : decode bm_constant 33 = .ok (.if_icmp .ge 15, 3) := by decide +kernel
theorem dm_constant_36 : decode bm_constant 36 = .ok (.aload_n 0, 1) := by decide +kernel
theorem dm_constant_37 : decode bm_constant 37 = .ok (.iload_n 3, 1) := by decide +kernel
theorem dm_constant_38 : decode bm_constant 38 = .ok (.iload_n 2, 1) := by decide +kernel
theorem dm_constant_39 : decode bm_constant 39 = .ok (.invokevirtual 68, 3) := by decide +kernel
theorem dm_constant_42 : decode bm_constant 42 = .ok (.iinc 3 1, 3) := by decide +kernel
theorem dm_constant_45 : decode bm_constant 45 = .ok (.goto (-16), 3) := by decide +kernel
theorem dm_constant_48 : decode bm_constant 48 = .ok (.aload_n 0, 1) := by decide +kernel
theorem dm_constant_49 : decode bm_constant 49 = .ok (.iload_n 1, 1) := by decide +kernel
theorem dm_constant_50 : decode bm_constant 50 = .ok (.invokevirtual 72, 3) := by decide +kernel
theorem dm_constant_53 : decode bm_constant 53 = .ok (.return_, 1) := by decide +kernel
set_option maxHeartbeats 4000000 in
set_option maxRecDepth 100000 in
theorem lm_constant_29 {z : wt_Z} {s : wt_S} {o : Nat → Int64} {c1 : Int32} {c2 : Int32} {K : wt_M → Option (wt_M)} (am : wt_Am z R_M bm_constant 4 3 none) (hK : ∀ (t3 : wt_M), jj_J z 4 48 [(0, .ref (ad_ z 11)), (1, .int c1)] [] (s, t3, o) (q_T z s o) (K t3)) : ∀ (n : Nat) (x3 : Int32) (t : wt_M), jj_J z 4 29 [(0, .ref (ad_ z 11)), (1, .int c1), (2, .int c2), (3, .int x3)] [] (s, t, o) (q_T z s o) (fm_constant_L29 c1 c2 K n x3 t) := by
  intro n
  induction n with
  | zero =>
    intro x3 t
    exact ji_none
  | succ n ih =>
    intro x3 t
    rw [fm_constant_L29]
    refine ji_iload_n (q := 30) am dm_constant_29 rfl 3 rfl rfl ?_
    refine ji_sipush (q := 33) am dm_constant_30 ks_256 rfl ?_
    refine ji_icmp_ge (q := 36) (g := 48) am dm_constant_33 rfl rfl ?_ ?_
    · exact ji_sub (lv' := [(0, .ref (ad_ z 11)), (1, .int c1)]) [0, 1] rfl (hK _)
    · refine ji_aload_n (q := 37) am dm_constant_36 rfl 0 rfl rfl ?_
      refine ji_iload_n (q := 38) am dm_constant_37 rfl 3 rfl rfl ?_
      refine ji_iload_n (q := 39) am dm_constant_38 rfl 2 rfl rfl ?_
      refine jk_T (q := 42) (rest := []) (fun t2 hF => jr_V [.int x3, .int c2] am ln_M_m_set (ctm_set _ _ hF) (by omega) (rc_M am) rfl rfl (Nat.le_of_ble_eq_true rfl) dm_constant_39) rfl ?_
      intro t39
      refine ji_iinc (q := 45) (lv' := [(0, .ref (ad_ z 11)), (1, .int c1), (2, .int c2), (3, .int (x3 + 1))]) am dm_constant_42 3 rfl ki_1 [1, 2, 3, 0] rfl rfl rfl ?_
      refine ji_goto (q := 29) am dm_constant_45 rfl ?_
      exact ih _ _
set_option maxHeartbeats 4000000 in
set_option maxRecDepth 100000 in
theorem ctm_constant {v : wt_V} {t : wt_M} {a1 : Int32} {a2 : Int32} {t2 : wt_M} (s : wt_S) (o : Nat → Int64) (hF : fm_constant t a1 a2 = some t2) : ct_C v ym_constant (Cond.code ym_constant bm_constant 4 none) 3 [.ref (v.2.1 11), .int a1, .int a2] none (s, t, o) (s, t2, o) := by
  refine ct_of (lv := [(0, .ref (v.2.1 11)), (1, .int a1), (2, .int a2)]) (fun _ : wt_M => none) (fun r => (s, r, o)) (by decide) (Nat.le_of_ble_eq_true rfl) rfl ?_ t2 hF
  intro z hz am
  subst hz
  have am : wt_Am z R_M bm_constant 4 3 none := am
  show jj_J z 4 0 [(0, .ref (ad_ z 11)), (1, .int a1), (2, .int a2)] [] (s, t, o) (q_T z s o) (fm_constant t a1 a2)
  unfold fm_constant
  refine ji_aload_n (q := 1) am dm_constant_0 rfl 0 rfl rfl ?_
  refine ji_iload_n (q := 2) am dm_constant_1 rfl 1 rfl rfl ?_
  refine jk_I (q := 5) (rest := [.ref (ad_ z 11)]) (fun r hF => jr_S [.int a1] am ln_M_m_isRegister (ctm_isRegister _ _ _ hF) (by omega) rfl rfl (Nat.le_of_ble_eq_true rfl) dm_constant_2) rfl ?_
  intro r2
  refine ji_jn2 (fun j => ∀ (y0_13 : Int32), jj_J z 4 13 [(0, .ref (ad_ z 11)), (1, .int a1), (2, .int a2)] [.int y0_13, .ref (ad_ z 11)] (s, t, o) (q_T z s o) (j y0_13)) ?_ ?_
  · intro y0_13
    refine ji_put_M_code (q := 16) am dm_constant_13 rfl ?_
    intro t13
    refine ji_aload_n (q := 17) am dm_constant_16 rfl 0 rfl rfl ?_
    refine ji_get_M_code (q := 20) am dm_constant_17 rfl ?_
    refine ji_jn2 (fun j => ∀ (t_53 : wt_M), jj_J z 4 53 [] [] (s, t_53, o) (q_T z s o) (j t_53)) ?_ ?_
    · intro t_53
      exact ji_vret am rfl dm_constant_53 rfl rfl
    · intro j53 hj53
      refine ji_if_ne (q := 23) (g := 53) am dm_constant_20 rfl rfl ?_ ?_
      · exact ji_sub (lv' := []) [] rfl (hj53 _)
      · refine ji_aload_n (q := 24) am dm_constant_23 rfl 0 rfl rfl ?_
        refine jk_T (q := 27) (rest := []) (fun t2 hF => jr_V [] am ln_M_m_clear (ctm_clear _ _ hF) (by omega) (rc_M am) rfl rfl (Nat.le_of_ble_eq_true rfl) dm_constant_24) rfl ?_
        intro t24
        refine ji_iconst (q := 28) am dm_constant_27 ki_0 rfl ?_
        refine ji_istore_n (lv' := [(0, .ref (ad_ z 11)), (1, .int a1), (2, .int a2), (3, .int (0 : Int32))]) (q := 29) am dm_constant_28 rfl [1, 2, 3, 0] rfl rfl rfl ?_
        refine lm_constant_29 am (fun t_29 => ?_) 5000 _ _
        refine ji_aload_n (q := 49) am dm_constant_48 rfl 0 rfl rfl ?_
        refine ji_iload_n (q := 50) am dm_constant_49 rfl 1 rfl rfl ?_
        refine jk_T (q := 53) (rest := []) (fun t2 hF => jr_V [.int a1] am ln_M_m_keep (ctm_keep _ _ hF) (by omega) (rc_M am) rfl rfl (Nat.le_of_ble_eq_true rfl) dm_constant_50) rfl ?_
        intro t50
        exact ji_sub (lv' := []) [] rfl (hj53 _)
  · intro j13 hj13
    refine ji_if_eq (q := 8) (g := 12) am dm_constant_5 rfl rfl ?_ ?_
    · refine ji_iconst (q := 13) am dm_constant_12 ki_1 rfl ?_
      exact hj13 _
    · refine ji_iconst (q := 9) am dm_constant_8 ki_0 rfl ?_
      refine ji_goto (q := 13) am dm_constant_9 rfl ?_
      exact hj13 _

theorem dm_apply_0 : decode bm_apply 0 = .ok (.aload_n 0, 1) := by decide +kernel
theorem dm_apply_1 : decode bm_apply 1 = .ok (.iload_n 1, 1) := by decide +kernel
theorem dm_apply_2 : decode bm_apply 2 = .ok (.invokestatic 58, 3) := by decide +kernel
theorem dm_apply_5 : decode bm_apply 5 = .ok (.ifCond .eq 18, 3) := by decide +kernel
theorem dm_apply_8 : decode bm_apply 8 = .ok (.iload_n 3, 1) := by decide +kernel
theorem dm_apply_9 : decode bm_apply 9 = .ok (.invokestatic 58, 3) := by decide +kernel
theorem dm_apply_12 : decode bm_apply 12 = .ok (.ifCond .eq 11, 3) := by decide +kernel
theorem dm_apply_15 : decode bm_apply 15 = .ok (.iload 4, 2) := by decide +kernel
theorem dm_apply_17 : decode bm_apply 17 = .ok (.invokestatic 58, 3) := by decide +kernel
theorem dm_apply_20 : decode bm_apply 20 = .ok (.ifCond .ne 7, 3) := by decide +kernel
theorem dm_apply_23 : decode bm_apply 23 = .ok (.iconst 1, 1) := by decide +kernel
theorem dm_apply_24 : decode bm_apply 24 = .ok (.goto 18, 3) := by decide +kernel
theorem dm_apply_27 : decode bm_apply 27 = .ok (.iload_n 2, 1) := by decide +kernel
theorem dm_apply_28 : decode bm_apply 28 = .ok (.iconst 0, 1) := by decide +kernel
theorem dm_apply_29 : decode bm_apply 29 = .ok (.bipush 15, 2) := by decide +kernel
theorem dm_apply_31 : decode bm_apply 31 = .ok (.invokestatic 54, 3) := by decide +kernel
theorem dm_apply_34 : decode bm_apply 34 = .ok (.ifCond .eq 7, 3) := by decide +kernel
theorem dm_apply_37 : decode bm_apply 37 = .ok (.iconst 0, 1) := by decide +kernel
theorem dm_apply_38 : decode bm_apply 38 = .ok (.goto 4, 3) := by decide +kernel
theorem dm_apply_41 : decode bm_apply 41 = .ok (.iconst 2, 1) := by decide +kernel
theorem dm_apply_42 : decode bm_apply 42 = .ok (.putfield 50, 3) := by decide +kernel
theorem dm_apply_45 : decode bm_apply 45 = .ok (.aload_n 0, 1) := by decide +kernel
theorem dm_apply_46 : decode bm_apply 46 = .ok (.getfield 50, 3) := by decide +kernel
theorem dm_apply_49 : decode bm_apply 49 = .ok (.ifCond .ne 84, 3) := by decide +kernel
theorem dm_apply_52 : decode bm_apply 52 = .ok (.aload_n 0, 1) := by decide +kernel
theorem dm_apply_53 : decode bm_apply 53 = .ok (.invokevirtual 65, 3) := by decide +kernel
theorem dm_apply_56 : decode bm_apply 56 = .ok (.iconst 0, 1) := by decide +kernel
theorem dm_apply_57 : decode bm_apply 57 = .ok (.istore 5, 2) := by decide +kernel
theorem dm_apply_59 : decode bm_apply 59 = .ok (.iload 5, 2) := by decide +kernel
theorem dm_apply_61 : decode bm_apply 61 = .ok (.sipush 256, 3) := by decide +kernel
theorem dm_apply_64 : decode bm_apply 64 = .ok (.if_icmp .ge 64, 3) := by decide +kernel
theorem dm_apply_67 : decode bm_apply 67 = .ok (.aload_n 0, 1) := by decide +kernel
theorem dm_apply_68 : decode bm_apply 68 = .ok (.iload_n 3, 1) := by decide +kernel
theorem dm_apply_69 : decode bm_apply 69 = .ok (.iload 5, 2) := by decide +kernel
theorem dm_apply_71 : decode bm_apply 71 = .ok (.invokevirtual 76, 3) := by decide +kernel
theorem dm_apply_74 : decode bm_apply 74 = .ok (.ifCond .eq 7, 3) := by decide +kernel
theorem dm_apply_77 : decode bm_apply 77 = .ok (.iconst 2, 1) := by decide +kernel
theorem dm_apply_78 : decode bm_apply 78 = .ok (.goto 4, 3) := by decide +kernel
theorem dm_apply_81 : decode bm_apply 81 = .ok (.iconst 0, 1) := by decide +kernel
theorem dm_apply_82 : decode bm_apply 82 = .ok (.aload_n 0, 1) := by decide +kernel
theorem dm_apply_83 : decode bm_apply 83 = .ok (.iload 4, 2) := by decide +kernel
theorem dm_apply_85 : decode bm_apply 85 = .ok (.iload 5, 2) := by decide +kernel
theorem dm_apply_87 : decode bm_apply 87 = .ok (.invokevirtual 76, 3) := by decide +kernel
theorem dm_apply_90 : decode bm_apply 90 = .ok (.ifCond .eq 7, 3) := by decide +kernel
theorem dm_apply_93 : decode bm_apply 93 = .ok (.iconst 1, 1) := by decide +kernel
theorem dm_apply_94 : decode bm_apply 94 = .ok (.goto 4, 3) := by decide +kernel
theorem dm_apply_97 : decode bm_apply 97 = .ok (.iconst 0, 1) := by decide +kernel
theorem dm_apply_98 : decode bm_apply 98 = .ok (.iadd, 1) := by decide +kernel
theorem dm_apply_99 : decode bm_apply 99 = .ok (.istore 6, 2) := by decide +kernel
theorem dm_apply_101 : decode bm_apply 101 = .ok (.aload_n 0, 1) := by decide +kernel
theorem dm_apply_102 : decode bm_apply 102 = .ok (.iload 5, 2) := by decide +kernel
theorem dm_apply_104 : decode bm_apply 104 = .ok (.iload_n 2, 1) := by decide +kernel
theorem dm_apply_105 : decode bm_apply 105 = .ok (.iload 6, 2) := by decide +kernel
theorem dm_apply_107 : decode bm_apply 107 = .ok (.ishr, 1) := by decide +kernel
theorem dm_apply_108 : decode bm_apply 108 = .ok (.iconst 1, 1) := by decide +kernel
theorem dm_apply_109 : decode bm_apply 109 = .ok (.iand, 1) := by decide +kernel
theorem dm_apply_110 : decode bm_apply 110 = .ok (.iconst 1, 1) := by decide +kernel
theorem dm_apply_111 : decode bm_apply 111 = .ok (.if_icmp .ne 7, 3) := by decide +kernel
theorem dm_apply_114 : decode bm_apply 114 = .ok (.iconst 1, 1) := by decide +kernel
theorem dm_apply_115 : decode bm_apply 115 = .ok (.goto 4, 3) := by decide +kernel
theorem dm_apply_118 : decode bm_apply 118 = .ok (.iconst 0, 1) := by decide +kernel
theorem dm_apply_119 : decode bm_apply 119 = .ok (.invokevirtual 68, 3) := by decide +kernel
theorem dm_apply_122 : decode bm_apply 122 = .ok (.iinc 5 1, 3) := by decide +kernel
theorem dm_apply_125 : decode bm_apply 125 = .ok (.goto (-66), 3) := by decide +kernel
theorem dm_apply_128 : decode bm_apply 128 = .ok (.aload_n 0, 1) := by decide +kernel
theorem dm_apply_129 : decode bm_apply 129 = .ok (.iload_n 1, 1) := by decide +kernel
theorem dm_apply_130 : decode bm_apply 130 = .ok (.invokevirtual 72, 3) := by decide +kernel
theorem dm_apply_133 : decode bm_apply 133 = .ok (.return_, 1) := by decide +kernel
set_option maxHeartbeats 4000000 in
set_option maxRecDepth 100000 in
theorem lm_apply_59 {z : wt_Z} {s : wt_S} {o : Nat → Int64} {c1 : Int32} {c2 : Int32} {c3 : Int32} {c4 : Int32} {K : wt_M → Option (wt_M)} (am : wt_Am z R_M bm_apply 7 3 none) (hK : ∀ (t3 : wt_M), jj_J z 7 128 [(0, .ref (ad_ z 11)), (1, .int c1)] [] (s, t3, o) (q_T z s o) (K t3)) : ∀ (n : Nat) (x5 : Int32) (t : wt_M), jj_J z 7 59 [(0, .ref (ad_ z 11)), (1, .int c1), (2, .int c2), (3, .int c3), (4, .int c4), (5, .int x5)] [] (s, t, o) (q_T z s o) (fm_apply_L59 c1 c2 c3 c4 K n x5 t) := by
  intro n
  induction n with
  | zero =>
    intro x5 t
    exact ji_none
  | succ n ih =>
    intro x5 t
    rw [fm_apply_L59]
    refine ji_iload (q := 61) am dm_apply_59 5 rfl rfl ?_
    refine ji_sipush (q := 64) am dm_apply_61 ks_256 rfl ?_
    refine ji_icmp_ge (q := 67) (g := 128) am dm_apply_64 rfl rfl ?_ ?_
    · exact ji_sub (lv' := [(0, .ref (ad_ z 11)), (1, .int c1)]) [0, 1] rfl (hK _)
    · refine ji_aload_n (q := 68) am dm_apply_67 rfl 0 rfl rfl ?_
      refine ji_iload_n (q := 69) am dm_apply_68 rfl 3 rfl rfl ?_
      refine ji_iload (q := 71) am dm_apply_69 5 rfl rfl ?_
      refine jk_I (q := 74) (rest := []) (fun r hF => jr_V [.int c3, .int x5] am ln_M_m_value (ctm_value _ _ hF) (by omega) (rc_M am) rfl rfl (Nat.le_of_ble_eq_true rfl) dm_apply_71) rfl ?_
      intro r71
      refine ji_jn2 (fun j => ∀ (y0_82 : Int32), jj_J z 7 82 [(0, .ref (ad_ z 11)), (1, .int c1), (2, .int c2), (3, .int c3), (4, .int c4), (5, .int x5)] [.int y0_82] (s, t, o) (q_T z s o) (j y0_82)) ?_ ?_
      · intro y0_82
        refine ji_aload_n (q := 83) am dm_apply_82 rfl 0 rfl rfl ?_
        refine ji_iload (q := 85) am dm_apply_83 4 rfl rfl ?_
        refine ji_iload (q := 87) am dm_apply_85 5 rfl rfl ?_
        refine jk_I (q := 90) (rest := [.int y0_82]) (fun r hF => jr_V [.int c4, .int x5] am ln_M_m_value (ctm_value _ _ hF) (by omega) (rc_M am) rfl rfl (Nat.le_of_ble_eq_true rfl) dm_apply_87) rfl ?_
        intro r87
        refine ji_jn2 (fun j => ∀ (y0_98 : Int32), jj_J z 7 98 [(0, .ref (ad_ z 11)), (1, .int c1), (2, .int c2), (3, .int c3), (4, .int c4), (5, .int x5)] [.int y0_98, .int y0_82] (s, t, o) (q_T z s o) (j y0_98)) ?_ ?_
        · intro y0_98
          refine ji_iadd (q := 99) am dm_apply_98 rfl ?_
          refine ji_istore (lv' := [(0, .ref (ad_ z 11)), (1, .int c1), (2, .int c2), (3, .int c3), (4, .int c4), (5, .int x5), (6, .int (y0_82 + y0_98))]) (q := 101) am dm_apply_99 [1, 2, 3, 4, 5, 6, 0] rfl rfl rfl ?_
          refine ji_aload_n (q := 102) am dm_apply_101 rfl 0 rfl rfl ?_
          refine ji_iload (q := 104) am dm_apply_102 5 rfl rfl ?_
          refine ji_iload_n (q := 105) am dm_apply_104 rfl 2 rfl rfl ?_
          refine ji_iload (q := 107) am dm_apply_105 6 rfl rfl ?_
          refine ji_ishr (q := 108) am dm_apply_107 rfl ?_
          refine ji_iconst (q := 109) am dm_apply_108 ki_1 rfl ?_
          refine ji_iand (q := 110) am dm_apply_109 rfl ?_
          refine ji_iconst (q := 111) am dm_apply_110 ki_1 rfl ?_
          refine ji_jn2 (fun j => ∀ (y0_119 : Int32), jj_J z 7 119 [(0, .ref (ad_ z 11)), (1, .int c1), (2, .int c2), (3, .int c3), (4, .int c4), (5, .int x5)] [.int y0_119, .int x5, .ref (ad_ z 11)] (s, t, o) (q_T z s o) (j y0_119)) ?_ ?_
          · intro y0_119
            refine jk_T (q := 122) (rest := []) (fun t2 hF => jr_V [.int x5, .int y0_119] am ln_M_m_set (ctm_set _ _ hF) (by omega) (rc_M am) rfl rfl (Nat.le_of_ble_eq_true rfl) dm_apply_119) rfl ?_
            intro t119
            refine ji_iinc (q := 125) (lv' := [(0, .ref (ad_ z 11)), (1, .int c1), (2, .int c2), (3, .int c3), (4, .int c4), (5, .int (x5 + 1))]) am dm_apply_122 5 rfl ki_1 [1, 2, 3, 4, 5, 0] rfl rfl rfl ?_
            refine ji_goto (q := 59) am dm_apply_125 rfl ?_
            exact ih _ _
          · intro j119 hj119
            refine ji_icmp_ne (q := 114) (g := 118) am dm_apply_111 rfl rfl ?_ ?_
            · refine ji_iconst (q := 119) am dm_apply_118 ki_0 rfl ?_
              exact ji_sub (lv' := [(0, .ref (ad_ z 11)), (1, .int c1), (2, .int c2), (3, .int c3), (4, .int c4), (5, .int x5)]) [0, 1, 2, 3, 4, 5] rfl (hj119 _)
            · refine ji_iconst (q := 115) am dm_apply_114 ki_1 rfl ?_
              refine ji_goto (q := 119) am dm_apply_115 rfl ?_
              exact ji_sub (lv' := [(0, .ref (ad_ z 11)), (1, .int c1), (2, .int c2), (3, .int c3), (4, .int c4), (5, .int x5)]) [0, 1, 2, 3, 4, 5] rfl (hj119 _)
        · intro j98 hj98
          refine ji_if_eq (q := 93) (g := 97) am dm_apply_90 rfl rfl ?_ ?_
          · refine ji_iconst (q := 98) am dm_apply_97 ki_0 rfl ?_
            exact hj98 _
          · refine ji_iconst (q := 94) am dm_apply_93 ki_1 rfl ?_
            refine ji_goto (q := 98) am dm_apply_94 rfl ?_
            exact hj98 _
      · intro j82 hj82
        refine ji_if_eq (q := 77) (g := 81) am dm_apply_74 rfl rfl ?_ ?_
        · refine ji_iconst (q := 82) am dm_apply_81 ki_0 rfl ?_
          exact hj82 _
        · refine ji_iconst (q := 78) am dm_apply_77 ki_2 rfl ?_
          refine ji_goto (q := 82) am dm_apply_78 rfl ?_
          exact hj82 _
set_option maxHeartbeats 4000000 in
set_option maxRecDepth 100000 in
theorem ctm_apply {v : wt_V} {t : wt_M} {a1 : Int32} {a2 : Int32} {a3 : Int32} {a4 : Int32} {t2 : wt_M} (s : wt_S) (o : Nat → Int64) (hF : fm_apply t a1 a2 a3 a4 = some t2) : ct_C v ym_apply (Cond.code ym_apply bm_apply 7 none) 3 [.ref (v.2.1 11), .int a1, .int a2, .int a3, .int a4] none (s, t, o) (s, t2, o) := by
  refine ct_of (lv := [(0, .ref (v.2.1 11)), (1, .int a1), (2, .int a2), (3, .int a3), (4, .int a4)]) (fun _ : wt_M => none) (fun r => (s, r, o)) (by decide) (Nat.le_of_ble_eq_true rfl) rfl ?_ t2 hF
  intro z hz am
  subst hz
  have am : wt_Am z R_M bm_apply 7 3 none := am
  show jj_J z 7 0 [(0, .ref (ad_ z 11)), (1, .int a1), (2, .int a2), (3, .int a3), (4, .int a4)] [] (s, t, o) (q_T z s o) (fm_apply t a1 a2 a3 a4)
  unfold fm_apply
  refine ji_aload_n (q := 1) am dm_apply_0 rfl 0 rfl rfl ?_
  refine ji_iload_n (q := 2) am dm_apply_1 rfl 1 rfl rfl ?_
  refine jk_I (q := 5) (rest := [.ref (ad_ z 11)]) (fun r hF => jr_S [.int a1] am ln_M_m_isRegister (ctm_isRegister _ _ _ hF) (by omega) rfl rfl (Nat.le_of_ble_eq_true rfl) dm_apply_2) rfl ?_
  intro r2
  refine ji_jn2 (fun j => ∀ (y0_42 : Int32), jj_J z 7 42 [(0, .ref (ad_ z 11)), (1, .int a1), (2, .int a2), (3, .int a3), (4, .int a4)] [.int y0_42, .ref (ad_ z 11)] (s, t, o) (q_T z s o) (j y0_42)) ?_ ?_
  · intro y0_42
    refine ji_put_M_code (q := 45) am dm_apply_42 rfl ?_
    intro t42
    refine ji_aload_n (q := 46) am dm_apply_45 rfl 0 rfl rfl ?_
    refine ji_get_M_code (q := 49) am dm_apply_46 rfl ?_
    refine ji_jn2 (fun j => ∀ (t_133 : wt_M), jj_J z 7 133 [] [] (s, t_133, o) (q_T z s o) (j t_133)) ?_ ?_
    · intro t_133
      exact ji_vret am rfl dm_apply_133 rfl rfl
    · intro j133 hj133
      refine ji_if_ne (q := 52) (g := 133) am dm_apply_49 rfl rfl ?_ ?_
      · exact ji_sub (lv' := []) [] rfl (hj133 _)
      · refine ji_aload_n (q := 53) am dm_apply_52 rfl 0 rfl rfl ?_
        refine jk_T (q := 56) (rest := []) (fun t2 hF => jr_V [] am ln_M_m_clear (ctm_clear _ _ hF) (by omega) (rc_M am) rfl rfl (Nat.le_of_ble_eq_true rfl) dm_apply_53) rfl ?_
        intro t53
        refine ji_iconst (q := 57) am dm_apply_56 ki_0 rfl ?_
        refine ji_istore (lv' := [(0, .ref (ad_ z 11)), (1, .int a1), (2, .int a2), (3, .int a3), (4, .int a4), (5, .int (0 : Int32))]) (q := 59) am dm_apply_57 [1, 2, 3, 4, 5, 0] rfl rfl rfl ?_
        refine lm_apply_59 am (fun t_59 => ?_) 5000 _ _
        refine ji_aload_n (q := 129) am dm_apply_128 rfl 0 rfl rfl ?_
        refine ji_iload_n (q := 130) am dm_apply_129 rfl 1 rfl rfl ?_
        refine jk_T (q := 133) (rest := []) (fun t2 hF => jr_V [.int a1] am ln_M_m_keep (ctm_keep _ _ hF) (by omega) (rc_M am) rfl rfl (Nat.le_of_ble_eq_true rfl) dm_apply_130) rfl ?_
        intro t130
        exact ji_sub (lv' := []) [] rfl (hj133 _)
  · intro j42 hj42
    refine ji_jn2 (fun j => ∀ (u23 : Unit), jj_J z 7 23 [(0, .ref (ad_ z 11)), (1, .int a1), (2, .int a2), (3, .int a3), (4, .int a4)] [.ref (ad_ z 11)] (s, t, o) (q_T z s o) (j u23)) ?_ ?_
    · intro u23
      refine ji_iconst (q := 24) am dm_apply_23 ki_1 rfl ?_
      refine ji_goto (q := 42) am dm_apply_24 rfl ?_
      exact hj42 _
    · intro j23 hj23
      refine ji_if_eq (q := 8) (g := 23) am dm_apply_5 rfl rfl ?_ ?_
      · exact hj23 _
      · refine ji_iload_n (q := 9) am dm_apply_8 rfl 3 rfl rfl ?_
        refine jk_I (q := 12) (rest := [.ref (ad_ z 11)]) (fun r hF => jr_S [.int a3] am ln_M_m_isRegister (ctm_isRegister _ _ _ hF) (by omega) rfl rfl (Nat.le_of_ble_eq_true rfl) dm_apply_9) rfl ?_
        intro r9
        refine ji_if_eq (q := 15) (g := 23) am dm_apply_12 rfl rfl ?_ ?_
        · exact hj23 _
        · refine ji_iload (q := 17) am dm_apply_15 4 rfl rfl ?_
          refine jk_I (q := 20) (rest := [.ref (ad_ z 11)]) (fun r hF => jr_S [.int a4] am ln_M_m_isRegister (ctm_isRegister _ _ _ hF) (by omega) rfl rfl (Nat.le_of_ble_eq_true rfl) dm_apply_17) rfl ?_
          intro r17
          refine ji_if_ne (q := 23) (g := 27) am dm_apply_20 rfl rfl ?_ ?_
          · refine ji_iload_n (q := 28) am dm_apply_27 rfl 2 rfl rfl ?_
            refine ji_iconst (q := 29) am dm_apply_28 ki_0 rfl ?_
            refine ji_bipush (q := 31) am dm_apply_29 kb_15 rfl ?_
            refine jk_I (q := 34) (rest := [.ref (ad_ z 11)]) (fun r hF => jr_S [.int a2, .int (0 : Int32), .int (15 : Int32)] am ln_M_m_in (ctm_in _ _ _ hF) (by omega) rfl rfl (Nat.le_of_ble_eq_true rfl) dm_apply_31) rfl ?_
            intro r31
            refine ji_if_eq (q := 37) (g := 41) am dm_apply_34 rfl rfl ?_ ?_
            · refine ji_iconst (q := 42) am dm_apply_41 ki_2 rfl ?_
              exact hj42 _
            · refine ji_iconst (q := 38) am dm_apply_37 ki_0 rfl ?_
              refine ji_goto (q := 42) am dm_apply_38 rfl ?_
              exact hj42 _
          · exact hj23 _

theorem dm_choose_0 : decode bm_choose 0 = .ok (.aload_n 0, 1) := by decide +kernel
theorem dm_choose_1 : decode bm_choose 1 = .ok (.iload_n 1, 1) := by decide +kernel
theorem dm_choose_2 : decode bm_choose 2 = .ok (.invokestatic 58, 3) := by decide +kernel
theorem dm_choose_5 : decode bm_choose 5 = .ok (.ifCond .eq 29, 3) := by decide +kernel
theorem dm_choose_8 : decode bm_choose 8 = .ok (.iload_n 2, 1) := by decide +kernel
theorem dm_choose_9 : decode bm_choose 9 = .ok (.invokestatic 58, 3) := by decide +kernel
theorem dm_choose_12 : decode bm_choose 12 = .ok (.ifCond .eq 22, 3) := by decide +kernel
theorem dm_choose_15 : decode bm_choose 15 = .ok (.iload_n 3, 1) := by decide +kernel
theorem dm_choose_16 : decode bm_choose 16 = .ok (.invokestatic 58, 3) := by decide +kernel
theorem dm_choose_19 : decode bm_choose 19 = .ok (.ifCond .eq 15, 3) := by decide +kernel
theorem dm_choose_22 : decode bm_choose 22 = .ok (.iload 4, 2) := by decide +kernel
theorem dm_choose_24 : decode bm_choose 24 = .ok (.invokestatic 58, 3) := by decide +kernel
theorem dm_choose_27 : decode bm_choose 27 = .ok (.ifCond .eq 7, 3) := by decide +kernel
theorem dm_choose_30 : decode bm_choose 30 = .ok (.iconst 0, 1) := by decide +kernel
theorem dm_choose_31 : decode bm_choose 31 = .ok (.goto 4, 3) := by decide +kernel
theorem dm_choose_34 : decode bm_choose 34 = .ok (.iconst 1, 1) := by decide +kernel
theorem dm_choose_35 : decode bm_choose 35 = .ok (.putfield 50, 3) := by decide +kernel
theorem dm_choose_38 : decode bm_choose 38 = .ok (.aload_n 0, 1) := by decide +kernel
theorem dm_choose_39 : decode bm_choose 39 = .ok (.getfield 50, 3) := by decide +kernel
theorem dm_choose_42 : decode bm_choose 42 = .ok (.ifCond .ne 63, 3) := by decide +kernel
theorem dm_choose_45 : decode bm_choose 45 = .ok (.aload_n 0, 1) := by decide +kernel
theorem dm_choose_46 : decode bm_choose 46 = .ok (.invokevirtual 65, 3) := by decide +kernel
theorem dm_choose_49 : decode bm_choose 49 = .ok (.iconst 0, 1) := by decide +kernel
theorem dm_choose_50 : decode bm_choose 50 = .ok (.istore 5, 2) := by decide +kernel
theorem dm_choose_52 : decode bm_choose 52 = .ok (.iload 5, 2) := by decide +kernel
theorem dm_choose_54 : decode bm_choose 54 = .ok (.sipush 256, 3) := by decide +kernel
theorem dm_choose_57 : decode bm_choose 57 = .ok (.if_icmp .ge 43, 3) := by decide +kernel
theorem dm_choose_60 : decode bm_choose 60 = .ok (.aload_n 0, 1) := by decide +kernel
theorem dm_choose_61 : decode bm_choose 61 = .ok (.iload 5, 2) := by decide +kernel
theorem dm_choose_63 : decode bm_choose 63 = .ok (.aload_n 0, 1) := by decide +kernel
theorem dm_choose_64 : decode bm_choose 64 = .ok (.iload_n 2, 1) := by decide +kernel
theorem dm_choose_65 : decode bm_choose 65 = .ok (.iload 5, 2) := by decide +kernel
theorem dm_choose_67 : decode bm_choose 67 = .ok (.invokevirtual 76, 3) := by decide +kernel
theorem dm_choose_70 : decode bm_choose 70 = .ok (.ifCond .eq 13, 3) := by decide +kernel
theorem dm_choose_73 : decode bm_choose 73 = .ok (.aload_n 0, 1) := by decide +kernel
theorem dm_choose_74 : decode bm_choose 74 = .ok (.iload_n 3, 1) := by decide +kernel
theorem dm_choose_75 : decode bm_choose 75 = .ok (.iload 5, 2) := by decide +kernel
theorem dm_choose_77 : decode bm_choose 77 = .ok (.invokevirtual 76, 3) := by decide +kernel
theorem dm_choose_80 : decode bm_choose 80 = .ok (.goto 11, 3) := by decide +kernel
theorem dm_choose_83 : decode bm_choose 83 = .ok (.aload_n 0, 1) := by decide +kernel
theorem dm_choose_84 : decode bm_choose 84 = .ok (.iload 4, 2) := by decide +kernel
theorem dm_choose_86 : decode bm_choose 86 = .ok (.iload 5, 2) := by decide +kernel
theorem dm_choose_88 : decode bm_choose 88 = .ok (.invokevirtual 76, 3) := by decide +kernel
theorem dm_choose_91 : decode bm_choose 91 = .ok (.invokevirtual 68, 3) := by decide +kernel
theorem dm_choose_94 : decode bm_choose 94 = .ok (.iinc 5 1, 3) := by decide +kernel
theorem dm_choose_97 : decode bm_choose 97 = .ok (.goto (-45), 3) := by decide +kernel
theorem dm_choose_100 : decode bm_choose 100 = .ok (.aload_n 0, 1) := by decide +kernel
theorem dm_choose_101 : decode bm_choose 101 = .ok (.iload_n 1, 1) := by decide +kernel
theorem dm_choose_102 : decode bm_choose 102 = .ok (.invokevirtual 72, 3) := by decide +kernel
theorem dm_choose_105 : decode bm_choose 105 = .ok (.return_, 1) := by decide +kernel
set_option maxHeartbeats 4000000 in
set_option maxRecDepth 100000 in
theorem lm_choose_52 {z : wt_Z} {s : wt_S} {o : Nat → Int64} {c1 : Int32} {c2 : Int32} {c3 : Int32} {c4 : Int32} {K : wt_M → Option (wt_M)} (am : wt_Am z R_M bm_choose 6 3 none) (hK : ∀ (t3 : wt_M), jj_J z 6 100 [(0, .ref (ad_ z 11)), (1, .int c1)] [] (s, t3, o) (q_T z s o) (K t3)) : ∀ (n : Nat) (x5 : Int32) (t : wt_M), jj_J z 6 52 [(0, .ref (ad_ z 11)), (1, .int c1), (2, .int c2), (3, .int c3), (4, .int c4), (5, .int x5)] [] (s, t, o) (q_T z s o) (fm_choose_L52 c1 c2 c3 c4 K n x5 t) := by
  intro n
  induction n with
  | zero =>
    intro x5 t
    exact ji_none
  | succ n ih =>
    intro x5 t
    rw [fm_choose_L52]
    refine ji_iload (q := 54) am dm_choose_52 5 rfl rfl ?_
    refine ji_sipush (q := 57) am dm_choose_54 ks_256 rfl ?_
    refine ji_icmp_ge (q := 60) (g := 100) am dm_choose_57 rfl rfl ?_ ?_
    · exact ji_sub (lv' := [(0, .ref (ad_ z 11)), (1, .int c1)]) [0, 1] rfl (hK _)
    · refine ji_aload_n (q := 61) am dm_choose_60 rfl 0 rfl rfl ?_
      refine ji_iload (q := 63) am dm_choose_61 5 rfl rfl ?_
      refine ji_aload_n (q := 64) am dm_choose_63 rfl 0 rfl rfl ?_
      refine ji_iload_n (q := 65) am dm_choose_64 rfl 2 rfl rfl ?_
      refine ji_iload (q := 67) am dm_choose_65 5 rfl rfl ?_
      refine jk_I (q := 70) (rest := [.int x5, .ref (ad_ z 11)]) (fun r hF => jr_V [.int c2, .int x5] am ln_M_m_value (ctm_value _ _ hF) (by omega) (rc_M am) rfl rfl (Nat.le_of_ble_eq_true rfl) dm_choose_67) rfl ?_
      intro r67
      refine ji_jn2 (fun j => ∀ (y0_91 : Int32), jj_J z 6 91 [(0, .ref (ad_ z 11)), (1, .int c1), (2, .int c2), (3, .int c3), (4, .int c4), (5, .int x5)] [.int y0_91, .int x5, .ref (ad_ z 11)] (s, t, o) (q_T z s o) (j y0_91)) ?_ ?_
      · intro y0_91
        refine jk_T (q := 94) (rest := []) (fun t2 hF => jr_V [.int x5, .int y0_91] am ln_M_m_set (ctm_set _ _ hF) (by omega) (rc_M am) rfl rfl (Nat.le_of_ble_eq_true rfl) dm_choose_91) rfl ?_
        intro t91
        refine ji_iinc (q := 97) (lv' := [(0, .ref (ad_ z 11)), (1, .int c1), (2, .int c2), (3, .int c3), (4, .int c4), (5, .int (x5 + 1))]) am dm_choose_94 5 rfl ki_1 [1, 2, 3, 4, 5, 0] rfl rfl rfl ?_
        refine ji_goto (q := 52) am dm_choose_97 rfl ?_
        exact ih _ _
      · intro j91 hj91
        refine ji_if_eq (q := 73) (g := 83) am dm_choose_70 rfl rfl ?_ ?_
        · refine ji_aload_n (q := 84) am dm_choose_83 rfl 0 rfl rfl ?_
          refine ji_iload (q := 86) am dm_choose_84 4 rfl rfl ?_
          refine ji_iload (q := 88) am dm_choose_86 5 rfl rfl ?_
          refine jk_I (q := 91) (rest := [.int x5, .ref (ad_ z 11)]) (fun r hF => jr_V [.int c4, .int x5] am ln_M_m_value (ctm_value _ _ hF) (by omega) (rc_M am) rfl rfl (Nat.le_of_ble_eq_true rfl) dm_choose_88) rfl ?_
          intro r88
          exact hj91 _
        · refine ji_aload_n (q := 74) am dm_choose_73 rfl 0 rfl rfl ?_
          refine ji_iload_n (q := 75) am dm_choose_74 rfl 3 rfl rfl ?_
          refine ji_iload (q := 77) am dm_choose_75 5 rfl rfl ?_
          refine jk_I (q := 80) (rest := [.int x5, .ref (ad_ z 11)]) (fun r hF => jr_V [.int c3, .int x5] am ln_M_m_value (ctm_value _ _ hF) (by omega) (rc_M am) rfl rfl (Nat.le_of_ble_eq_true rfl) dm_choose_77) rfl ?_
          intro r77
          refine ji_goto (q := 91) am dm_choose_80 rfl ?_
          exact hj91 _
set_option maxHeartbeats 4000000 in
set_option maxRecDepth 100000 in
theorem ctm_choose {v : wt_V} {t : wt_M} {a1 : Int32} {a2 : Int32} {a3 : Int32} {a4 : Int32} {t2 : wt_M} (s : wt_S) (o : Nat → Int64) (hF : fm_choose t a1 a2 a3 a4 = some t2) : ct_C v ym_choose (Cond.code ym_choose bm_choose 6 none) 3 [.ref (v.2.1 11), .int a1, .int a2, .int a3, .int a4] none (s, t, o) (s, t2, o) := by
  refine ct_of (lv := [(0, .ref (v.2.1 11)), (1, .int a1), (2, .int a2), (3, .int a3), (4, .int a4)]) (fun _ : wt_M => none) (fun r => (s, r, o)) (by decide) (Nat.le_of_ble_eq_true rfl) rfl ?_ t2 hF
  intro z hz am
  subst hz
  have am : wt_Am z R_M bm_choose 6 3 none := am
  show jj_J z 6 0 [(0, .ref (ad_ z 11)), (1, .int a1), (2, .int a2), (3, .int a3), (4, .int a4)] [] (s, t, o) (q_T z s o) (fm_choose t a1 a2 a3 a4)
  unfold fm_choose
  refine ji_aload_n (q := 1) am dm_choose_0 rfl 0 rfl rfl ?_
  refine ji_iload_n (q := 2) am dm_choose_1 rfl 1 rfl rfl ?_
  refine jk_I (q := 5) (rest := [.ref (ad_ z 11)]) (fun r hF => jr_S [.int a1] am ln_M_m_isRegister (ctm_isRegister _ _ _ hF) (by omega) rfl rfl (Nat.le_of_ble_eq_true rfl) dm_choose_2) rfl ?_
  intro r2
  refine ji_jn2 (fun j => ∀ (y0_35 : Int32), jj_J z 6 35 [(0, .ref (ad_ z 11)), (1, .int a1), (2, .int a2), (3, .int a3), (4, .int a4)] [.int y0_35, .ref (ad_ z 11)] (s, t, o) (q_T z s o) (j y0_35)) ?_ ?_
  · intro y0_35
    refine ji_put_M_code (q := 38) am dm_choose_35 rfl ?_
    intro t35
    refine ji_aload_n (q := 39) am dm_choose_38 rfl 0 rfl rfl ?_
    refine ji_get_M_code (q := 42) am dm_choose_39 rfl ?_
    refine ji_jn2 (fun j => ∀ (t_105 : wt_M), jj_J z 6 105 [] [] (s, t_105, o) (q_T z s o) (j t_105)) ?_ ?_
    · intro t_105
      exact ji_vret am rfl dm_choose_105 rfl rfl
    · intro j105 hj105
      refine ji_if_ne (q := 45) (g := 105) am dm_choose_42 rfl rfl ?_ ?_
      · exact ji_sub (lv' := []) [] rfl (hj105 _)
      · refine ji_aload_n (q := 46) am dm_choose_45 rfl 0 rfl rfl ?_
        refine jk_T (q := 49) (rest := []) (fun t2 hF => jr_V [] am ln_M_m_clear (ctm_clear _ _ hF) (by omega) (rc_M am) rfl rfl (Nat.le_of_ble_eq_true rfl) dm_choose_46) rfl ?_
        intro t46
        refine ji_iconst (q := 50) am dm_choose_49 ki_0 rfl ?_
        refine ji_istore (lv' := [(0, .ref (ad_ z 11)), (1, .int a1), (2, .int a2), (3, .int a3), (4, .int a4), (5, .int (0 : Int32))]) (q := 52) am dm_choose_50 [1, 2, 3, 4, 5, 0] rfl rfl rfl ?_
        refine lm_choose_52 am (fun t_52 => ?_) 5000 _ _
        refine ji_aload_n (q := 101) am dm_choose_100 rfl 0 rfl rfl ?_
        refine ji_iload_n (q := 102) am dm_choose_101 rfl 1 rfl rfl ?_
        refine jk_T (q := 105) (rest := []) (fun t2 hF => jr_V [.int a1] am ln_M_m_keep (ctm_keep _ _ hF) (by omega) (rc_M am) rfl rfl (Nat.le_of_ble_eq_true rfl) dm_choose_102) rfl ?_
        intro t102
        exact ji_sub (lv' := []) [] rfl (hj105 _)
  · intro j35 hj35
    refine ji_jn2 (fun j => ∀ (u34 : Unit), jj_J z 6 34 [(0, .ref (ad_ z 11)), (1, .int a1), (2, .int a2), (3, .int a3), (4, .int a4)] [.ref (ad_ z 11)] (s, t, o) (q_T z s o) (j u34)) ?_ ?_
    · intro u34
      refine ji_iconst (q := 35) am dm_choose_34 ki_1 rfl ?_
      exact hj35 _
    · intro j34 hj34
      refine ji_if_eq (q := 8) (g := 34) am dm_choose_5 rfl rfl ?_ ?_
      · exact hj34 _
      · refine ji_iload_n (q := 9) am dm_choose_8 rfl 2 rfl rfl ?_
        refine jk_I (q := 12) (rest := [.ref (ad_ z 11)]) (fun r hF => jr_S [.int a2] am ln_M_m_isRegister (ctm_isRegister _ _ _ hF) (by omega) rfl rfl (Nat.le_of_ble_eq_true rfl) dm_choose_9) rfl ?_
        intro r9
        refine ji_if_eq (q := 15) (g := 34) am dm_choose_12 rfl rfl ?_ ?_
        · exact hj34 _
        · refine ji_iload_n (q := 16) am dm_choose_15 rfl 3 rfl rfl ?_
          refine jk_I (q := 19) (rest := [.ref (ad_ z 11)]) (fun r hF => jr_S [.int a3] am ln_M_m_isRegister (ctm_isRegister _ _ _ hF) (by omega) rfl rfl (Nat.le_of_ble_eq_true rfl) dm_choose_16) rfl ?_
          intro r16
          refine ji_if_eq (q := 22) (g := 34) am dm_choose_19 rfl rfl ?_ ?_
          · exact hj34 _
          · refine ji_iload (q := 24) am dm_choose_22 4 rfl rfl ?_
            refine jk_I (q := 27) (rest := [.ref (ad_ z 11)]) (fun r hF => jr_S [.int a4] am ln_M_m_isRegister (ctm_isRegister _ _ _ hF) (by omega) rfl rfl (Nat.le_of_ble_eq_true rfl) dm_choose_24) rfl ?_
            intro r24
            refine ji_if_eq (q := 30) (g := 34) am dm_choose_27 rfl rfl ?_ ?_
            · exact hj34 _
            · refine ji_iconst (q := 31) am dm_choose_30 ki_0 rfl ?_
              refine ji_goto (q := 35) am dm_choose_31 rfl ?_
              exact hj35 _

theorem dm_restrict_0 : decode bm_restrict 0 = .ok (.aload_n 0, 1) := by decide +kernel
theorem dm_restrict_1 : decode bm_restrict 1 = .ok (.iload_n 1, 1) := by decide +kernel
theorem dm_restrict_2 : decode bm_restrict 2 = .ok (.invokestatic 58, 3) := by decide +kernel
theorem dm_restrict_5 : decode bm_restrict 5 = .ok (.ifCond .eq 21, 3) := by decide +kernel
theorem dm_restrict_8 : decode bm_restrict 8 = .ok (.iload_n 2, 1) := by decide +kernel
theorem dm_restrict_9 : decode bm_restrict 9 = .ok (.invokestatic 58, 3) := by decide +kernel
theorem dm_restrict_12 : decode bm_restrict 12 = .ok (.ifCond .eq 14, 3) := by decide +kernel
theorem dm_restrict_15 : decode bm_restrict 15 = .ok (.iload_n 3, 1) := by decide +kernel
theorem dm_restrict_16 : decode bm_restrict 16 = .ok (.invokestatic 62, 3) := by decide +kernel
theorem dm_restrict_19 : decode bm_restrict 19 = .ok (.ifCond .eq 7, 3) := by decide +kernel
theorem dm_restrict_22 : decode bm_restrict 22 = .ok (.iconst 0, 1) := by decide +kernel
theorem dm_restrict_23 : decode bm_restrict 23 = .ok (.goto 4, 3) := by decide +kernel
theorem dm_restrict_26 : decode bm_restrict 26 = .ok (.iconst 1, 1) := by decide +kernel
theorem dm_restrict_27 : decode bm_restrict 27 = .ok (.putfield 50, 3) := by decide +kernel
theorem dm_restrict_30 : decode bm_restrict 30 = .ok (.aload_n 0, 1) := by decide +kernel
theorem dm_restrict_31 : decode bm_restrict 31 = .ok (.getfield 50, 3) := by decide +kernel
theorem dm_restrict_34 : decode bm_restrict 34 = .ok (.ifCond .ne 48, 3) := by decide +kernel
theorem dm_restrict_37 : decode bm_restrict 37 = .ok (.aload_n 0, 1) := by decide +kernel
theorem dm_restrict_38 : decode bm_restrict 38 = .ok (.invokevirtual 65, 3) := by decide +kernel
theorem dm_restrict_41 : decode bm_restrict 41 = .ok (.iconst 0, 1) := by decide +kernel
theorem dm_restrict_42 : decode bm_restrict 42 = .ok (.istore 5, 2) := by decide +kernel
theorem dm_restrict_44 : decode bm_restrict 44 = .ok (.iload 5, 2) := by decide +kernel
theorem dm_restrict_46 : decode bm_restrict 46 = .ok (.sipush 256, 3) := by decide +kernel
theorem dm_restrict_49 : decode bm_restrict 49 = .ok (.if_icmp .ge 28, 3) := by decide +kernel
theorem dm_restrict_52 : decode bm_restrict 52 = .ok (.aload_n 0, 1) := by decide +kernel
theorem dm_restrict_53 : decode bm_restrict 53 = .ok (.iload 5, 2) := by decide +kernel
theorem dm_restrict_55 : decode bm_restrict 55 = .ok (.aload_n 0, 1) := by decide +kernel
theorem dm_restrict_56 : decode bm_restrict 56 = .ok (.iload_n 2, 1) := by decide +kernel
theorem dm_restrict_57 : decode bm_restrict 57 = .ok (.iload 5, 2) := by decide +kernel
theorem dm_restrict_59 : decode bm_restrict 59 = .ok (.iload_n 3, 1) := by decide +kernel
theorem dm_restrict_60 : decode bm_restrict 60 = .ok (.iload 4, 2) := by decide +kernel
theorem dm_restrict_62 : decode bm_restrict 62 = .ok (.invokestatic 80, 3) := by decide +kernel
theorem dm_restrict_65 : decode bm_restrict 65 = .ok (.invokevirtual 76, 3) := by decide +kernel
theorem dm_restrict_68 : decode bm_restrict 68 = .ok (.invokevirtual 68, 3) := by decide +kernel
theorem dm_restrict_71 : decode bm_restrict 71 = .ok (.iinc 5 1, 3) := by decide +kernel
theorem dm_restrict_74 : decode bm_restrict 74 = .ok (.goto (-30), 3) := by decide +kernel
theorem dm_restrict_77 : decode bm_restrict 77 = .ok (.aload_n 0, 1) := by decide +kernel
theorem dm_restrict_78 : decode bm_restrict 78 = .ok (.iload_n 1, 1) := by decide +kernel
theorem dm_restrict_79 : decode bm_restrict 79 = .ok (.invokevirtual 72, 3) := by decide +kernel
theorem dm_restrict_82 : decode bm_restrict 82 = .ok (.return_, 1) := by decide +kernel
set_option maxHeartbeats 4000000 in
set_option maxRecDepth 100000 in
theorem lm_restrict_44 {z : wt_Z} {s : wt_S} {o : Nat → Int64} {c1 : Int32} {c2 : Int32} {c3 : Int32} {c4 : Int32} {K : wt_M → Option (wt_M)} (am : wt_Am z R_M bm_restrict 6 3 none) (hK : ∀ (t3 : wt_M), jj_J z 6 77 [(0, .ref (ad_ z 11)), (1, .int c1)] [] (s, t3, o) (q_T z s o) (K t3)) : ∀ (n : Nat) (x5 : Int32) (t : wt_M), jj_J z 6 44 [(0, .ref (ad_ z 11)), (1, .int c1), (2, .int c2), (3, .int c3), (4, .int c4), (5, .int x5)] [] (s, t, o) (q_T z s o) (fm_restrict_L44 c1 c2 c3 c4 K n x5 t) := by
  intro n
  induction n with
  | zero =>
    intro x5 t
    exact ji_none
  | succ n ih =>
    intro x5 t
    rw [fm_restrict_L44]
    refine ji_iload (q := 46) am dm_restrict_44 5 rfl rfl ?_
    refine ji_sipush (q := 49) am dm_restrict_46 ks_256 rfl ?_
    refine ji_icmp_ge (q := 52) (g := 77) am dm_restrict_49 rfl rfl ?_ ?_
    · exact ji_sub (lv' := [(0, .ref (ad_ z 11)), (1, .int c1)]) [0, 1] rfl (hK _)
    · refine ji_aload_n (q := 53) am dm_restrict_52 rfl 0 rfl rfl ?_
      refine ji_iload (q := 55) am dm_restrict_53 5 rfl rfl ?_
      refine ji_aload_n (q := 56) am dm_restrict_55 rfl 0 rfl rfl ?_
      refine ji_iload_n (q := 57) am dm_restrict_56 rfl 2 rfl rfl ?_
      refine ji_iload (q := 59) am dm_restrict_57 5 rfl rfl ?_
      refine ji_iload_n (q := 60) am dm_restrict_59 rfl 3 rfl rfl ?_
      refine ji_iload (q := 62) am dm_restrict_60 4 rfl rfl ?_
      refine jk_I (q := 65) (rest := [.int c2, .ref (ad_ z 11), .int x5, .ref (ad_ z 11)]) (fun r hF => jr_S [.int x5, .int c3, .int c4] am ln_M_m_with (ctm_with _ _ _ hF) (by omega) rfl rfl (Nat.le_of_ble_eq_true rfl) dm_restrict_62) rfl ?_
      intro r62
      refine jk_I (q := 68) (rest := [.int x5, .ref (ad_ z 11)]) (fun r hF => jr_V [.int c2, .int r62] am ln_M_m_value (ctm_value _ _ hF) (by omega) (rc_M am) rfl rfl (Nat.le_of_ble_eq_true rfl) dm_restrict_65) rfl ?_
      intro r65
      refine jk_T (q := 71) (rest := []) (fun t2 hF => jr_V [.int x5, .int r65] am ln_M_m_set (ctm_set _ _ hF) (by omega) (rc_M am) rfl rfl (Nat.le_of_ble_eq_true rfl) dm_restrict_68) rfl ?_
      intro t68
      refine ji_iinc (q := 74) (lv' := [(0, .ref (ad_ z 11)), (1, .int c1), (2, .int c2), (3, .int c3), (4, .int c4), (5, .int (x5 + 1))]) am dm_restrict_71 5 rfl ki_1 [1, 2, 3, 4, 5, 0] rfl rfl rfl ?_
      refine ji_goto (q := 44) am dm_restrict_74 rfl ?_
      exact ih _ _
set_option maxHeartbeats 4000000 in
set_option maxRecDepth 100000 in
theorem ctm_restrict {v : wt_V} {t : wt_M} {a1 : Int32} {a2 : Int32} {a3 : Int32} {a4 : Int32} {t2 : wt_M} (s : wt_S) (o : Nat → Int64) (hF : fm_restrict t a1 a2 a3 a4 = some t2) : ct_C v ym_restrict (Cond.code ym_restrict bm_restrict 6 none) 3 [.ref (v.2.1 11), .int a1, .int a2, .int a3, .int a4] none (s, t, o) (s, t2, o) := by
  refine ct_of (lv := [(0, .ref (v.2.1 11)), (1, .int a1), (2, .int a2), (3, .int a3), (4, .int a4)]) (fun _ : wt_M => none) (fun r => (s, r, o)) (by decide) (Nat.le_of_ble_eq_true rfl) rfl ?_ t2 hF
  intro z hz am
  subst hz
  have am : wt_Am z R_M bm_restrict 6 3 none := am
  show jj_J z 6 0 [(0, .ref (ad_ z 11)), (1, .int a1), (2, .int a2), (3, .int a3), (4, .int a4)] [] (s, t, o) (q_T z s o) (fm_restrict t a1 a2 a3 a4)
  unfold fm_restrict
  refine ji_aload_n (q := 1) am dm_restrict_0 rfl 0 rfl rfl ?_
  refine ji_iload_n (q := 2) am dm_restrict_1 rfl 1 rfl rfl ?_
  refine jk_I (q := 5) (rest := [.ref (ad_ z 11)]) (fun r hF => jr_S [.int a1] am ln_M_m_isRegister (ctm_isRegister _ _ _ hF) (by omega) rfl rfl (Nat.le_of_ble_eq_true rfl) dm_restrict_2) rfl ?_
  intro r2
  refine ji_jn2 (fun j => ∀ (y0_27 : Int32), jj_J z 6 27 [(0, .ref (ad_ z 11)), (1, .int a1), (2, .int a2), (3, .int a3), (4, .int a4)] [.int y0_27, .ref (ad_ z 11)] (s, t, o) (q_T z s o) (j y0_27)) ?_ ?_
  · intro y0_27
    refine ji_put_M_code (q := 30) am dm_restrict_27 rfl ?_
    intro t27
    refine ji_aload_n (q := 31) am dm_restrict_30 rfl 0 rfl rfl ?_
    refine ji_get_M_code (q := 34) am dm_restrict_31 rfl ?_
    refine ji_jn2 (fun j => ∀ (t_82 : wt_M), jj_J z 6 82 [] [] (s, t_82, o) (q_T z s o) (j t_82)) ?_ ?_
    · intro t_82
      exact ji_vret am rfl dm_restrict_82 rfl rfl
    · intro j82 hj82
      refine ji_if_ne (q := 37) (g := 82) am dm_restrict_34 rfl rfl ?_ ?_
      · exact ji_sub (lv' := []) [] rfl (hj82 _)
      · refine ji_aload_n (q := 38) am dm_restrict_37 rfl 0 rfl rfl ?_
        refine jk_T (q := 41) (rest := []) (fun t2 hF => jr_V [] am ln_M_m_clear (ctm_clear _ _ hF) (by omega) (rc_M am) rfl rfl (Nat.le_of_ble_eq_true rfl) dm_restrict_38) rfl ?_
        intro t38
        refine ji_iconst (q := 42) am dm_restrict_41 ki_0 rfl ?_
        refine ji_istore (lv' := [(0, .ref (ad_ z 11)), (1, .int a1), (2, .int a2), (3, .int a3), (4, .int a4), (5, .int (0 : Int32))]) (q := 44) am dm_restrict_42 [1, 2, 3, 4, 5, 0] rfl rfl rfl ?_
        refine lm_restrict_44 am (fun t_44 => ?_) 5000 _ _
        refine ji_aload_n (q := 78) am dm_restrict_77 rfl 0 rfl rfl ?_
        refine ji_iload_n (q := 79) am dm_restrict_78 rfl 1 rfl rfl ?_
        refine jk_T (q := 82) (rest := []) (fun t2 hF => jr_V [.int a1] am ln_M_m_keep (ctm_keep _ _ hF) (by omega) (rc_M am) rfl rfl (Nat.le_of_ble_eq_true rfl) dm_restrict_79) rfl ?_
        intro t79
        exact ji_sub (lv' := []) [] rfl (hj82 _)
  · intro j27 hj27
    refine ji_jn2 (fun j => ∀ (u26 : Unit), jj_J z 6 26 [(0, .ref (ad_ z 11)), (1, .int a1), (2, .int a2), (3, .int a3), (4, .int a4)] [.ref (ad_ z 11)] (s, t, o) (q_T z s o) (j u26)) ?_ ?_
    · intro u26
      refine ji_iconst (q := 27) am dm_restrict_26 ki_1 rfl ?_
      exact hj27 _
    · intro j26 hj26
      refine ji_if_eq (q := 8) (g := 26) am dm_restrict_5 rfl rfl ?_ ?_
      · exact hj26 _
      · refine ji_iload_n (q := 9) am dm_restrict_8 rfl 2 rfl rfl ?_
        refine jk_I (q := 12) (rest := [.ref (ad_ z 11)]) (fun r hF => jr_S [.int a2] am ln_M_m_isRegister (ctm_isRegister _ _ _ hF) (by omega) rfl rfl (Nat.le_of_ble_eq_true rfl) dm_restrict_9) rfl ?_
        intro r9
        refine ji_if_eq (q := 15) (g := 26) am dm_restrict_12 rfl rfl ?_ ?_
        · exact hj26 _
        · refine ji_iload_n (q := 16) am dm_restrict_15 rfl 3 rfl rfl ?_
          refine jk_I (q := 19) (rest := [.ref (ad_ z 11)]) (fun r hF => jr_S [.int a3] am ln_M_m_isVariable (ctm_isVariable _ _ _ hF) (by omega) rfl rfl (Nat.le_of_ble_eq_true rfl) dm_restrict_16) rfl ?_
          intro r16
          refine ji_if_eq (q := 22) (g := 26) am dm_restrict_19 rfl rfl ?_ ?_
          · exact hj26 _
          · refine ji_iconst (q := 23) am dm_restrict_22 ki_0 rfl ?_
            refine ji_goto (q := 27) am dm_restrict_23 rfl ?_
            exact hj27 _

theorem dm_quantify_0 : decode bm_quantify 0 = .ok (.aload_n 0, 1) := by decide +kernel
theorem dm_quantify_1 : decode bm_quantify 1 = .ok (.iload_n 1, 1) := by decide +kernel
theorem dm_quantify_2 : decode bm_quantify 2 = .ok (.invokestatic 58, 3) := by decide +kernel
theorem dm_quantify_5 : decode bm_quantify 5 = .ok (.ifCond .eq 10, 3) := by decide +kernel
theorem dm_quantify_8 : decode bm_quantify 8 = .ok (.iload_n 2, 1) := by decide +kernel
theorem dm_quantify_9 : decode bm_quantify 9 = .ok (.invokestatic 58, 3) := by decide +kernel
theorem dm_quantify_12 : decode bm_quantify 12 = .ok (.ifCond .ne 7, 3) := by decide +kernel
theorem dm_quantify_15 : decode bm_quantify 15 = .ok (.iconst 1, 1) := by decide +kernel
theorem dm_quantify_16 : decode bm_quantify 16 = .ok (.goto 19, 3) := by decide +kernel
theorem dm_quantify_19 : decode bm_quantify 19 = .ok (.iload_n 3, 1) := by decide +kernel
theorem dm_quantify_20 : decode bm_quantify 20 = .ok (.iconst 0, 1) := by decide +kernel
theorem dm_quantify_21 : decode bm_quantify 21 = .ok (.sipush 255, 3) := by decide +kernel
theorem dm_quantify_24 : decode bm_quantify 24 = .ok (.invokestatic 54, 3) := by decide +kernel
theorem dm_quantify_27 : decode bm_quantify 27 = .ok (.ifCond .eq 7, 3) := by decide +kernel
theorem dm_quantify_30 : decode bm_quantify 30 = .ok (.iconst 0, 1) := by decide +kernel
theorem dm_quantify_31 : decode bm_quantify 31 = .ok (.goto 4, 3) := by decide +kernel
theorem dm_quantify_34 : decode bm_quantify 34 = .ok (.iconst 2, 1) := by decide +kernel
theorem dm_quantify_35 : decode bm_quantify 35 = .ok (.putfield 50, 3) := by decide +kernel
theorem dm_quantify_38 : decode bm_quantify 38 = .ok (.aload_n 0, 1) := by decide +kernel
theorem dm_quantify_39 : decode bm_quantify 39 = .ok (.getfield 50, 3) := by decide +kernel
theorem dm_quantify_42 : decode bm_quantify 42 = .ok (.ifCond .ne 109, 3) := by decide +kernel
theorem dm_quantify_45 : decode bm_quantify 45 = .ok (.aload_n 0, 1) := by decide +kernel
theorem dm_quantify_46 : decode bm_quantify 46 = .ok (.invokevirtual 65, 3) := by decide +kernel
theorem dm_quantify_49 : decode bm_quantify 49 = .ok (.iconst 0, 1) := by decide +kernel
theorem dm_quantify_50 : decode bm_quantify 50 = .ok (.istore 5, 2) := by decide +kernel
theorem dm_quantify_52 : decode bm_quantify 52 = .ok (.iload 5, 2) := by decide +kernel
theorem dm_quantify_54 : decode bm_quantify 54 = .ok (.sipush 256, 3) := by decide +kernel
theorem dm_quantify_57 : decode bm_quantify 57 = .ok (.if_icmp .ge 89, 3) := by decide +kernel
theorem dm_quantify_60 : decode bm_quantify 60 = .ok (.iconst 0, 1) := by decide +kernel
theorem dm_quantify_61 : decode bm_quantify 61 = .ok (.istore 6, 2) := by decide +kernel
theorem dm_quantify_63 : decode bm_quantify 63 = .ok (.iload_n 3, 1) := by decide +kernel
theorem dm_quantify_64 : decode bm_quantify 64 = .ok (.istore 7, 2) := by decide +kernel
theorem dm_quantify_66 : decode bm_quantify 66 = .ok (.iload 7, 2) := by decide +kernel
theorem dm_quantify_68 : decode bm_quantify 68 = .ok (.ifCond .lt 54, 3) := by decide +kernel
theorem dm_quantify_71 : decode bm_quantify 71 = .ok (.iload 6, 2) := by decide +kernel
theorem dm_quantify_73 : decode bm_quantify 73 = .ok (.ifCond .ne 22, 3) := by decide +kernel
theorem dm_quantify_76 : decode bm_quantify 76 = .ok (.aload_n 0, 1) := by decide +kernel
theorem dm_quantify_77 : decode bm_quantify 77 = .ok (.iload_n 2, 1) := by decide +kernel
theorem dm_quantify_78 : decode bm_quantify 78 = .ok (.iload 5, 2) := by decide +kernel
theorem dm_quantify_80 : decode bm_quantify 80 = .ok (.iload_n 3, 1) := by decide +kernel
theorem dm_quantify_81 : decode bm_quantify 81 = .ok (.iconst (-1), 1) := by decide +kernel
theorem dm_quantify_82 : decode bm_quantify 82 = .ok (.ixor, 1) := by decide +kernel
theorem dm_quantify_83 : decode bm_quantify 83 = .ok (.iand, 1) := by decide +kernel
theorem dm_quantify_84 : decode bm_quantify 84 = .ok (.iload 7, 2) := by decide +kernel
theorem dm_quantify_86 : decode bm_quantify 86 = .ok (.ior, 1) := by decide +kernel
theorem dm_quantify_87 : decode bm_quantify 87 = .ok (.invokevirtual 76, 3) := by decide +kernel
theorem dm_quantify_90 : decode bm_quantify 90 = .ok (.iload 4, 2) := by decide +kernel
theorem dm_quantify_92 : decode bm_quantify 92 = .ok (.if_icmp .eq 7, 3) := by decide +kernel
theorem dm_quantify_95 : decode bm_quantify 95 = .ok (.iconst 1, 1) := by decide +kernel
theorem dm_quantify_96 : decode bm_quantify 96 = .ok (.goto 4, 3) := by decide +kernel
theorem dm_quantify_99 : decode bm_quantify 99 = .ok (.iconst 0, 1) := by decide +kernel
theorem dm_quantify_100 : decode bm_quantify 100 = .ok (.istore 6, 2) := by decide +kernel
theorem dm_quantify_102 : decode bm_quantify 102 = .ok (.iload 7, 2) := by decide +kernel
theorem dm_quantify_104 : decode bm_quantify 104 = .ok (.ifCond .ne 7, 3) := by decide +kernel
theorem dm_quantify_107 : decode bm_quantify 107 = .ok (.iconst (-1), 1) := by decide +kernel
theorem dm_quantify_108 : decode bm_quantify 108 = .ok (.goto 9, 3) := by decide +kernel
theorem dm_quantify_111 : decode bm_quantify 111 = .ok (.iload 7, 2) := by decide +kernel
theorem dm_quantify_113 : decode bm_quantify 113 = .ok (.iconst 1, 1) := by decide +kernel
theorem dm_quantify_114 : decode bm_quantify 114 = .ok (.isub, 1) := by decide +kernel
theorem dm_quantify_115 : decode bm_quantify 115 = .ok (.iload_n 3, 1) := by decide +kernel
theorem dm_quantify_116 : decode bm_quantify 116 = .ok (.iand, 1) := by decide +kernel
theorem dm_quantify_117 : decode bm_quantify 117 = .ok (.istore 7, 2) := by decide +kernel
theorem dm_quantify_119 : decode bm_quantify 119 = .ok (.goto (-53), 3) := by decide +kernel
theorem dm_quantify_122 : decode bm_quantify 122 = .ok (.aload_n 0, 1) := by decide +kernel
theorem dm_quantify_123 : decode bm_quantify 123 = .ok (.iload 5, 2) := by decide +kernel
theorem dm_quantify_125 : decode bm_quantify 125 = .ok (.iload 6, 2) := by decide +kernel
theorem dm_quantify_127 : decode bm_quantify 127 = .ok (.iload 4, 2) := by decide +kernel
theorem dm_quantify_129 : decode bm_quantify 129 = .ok (.if_icmp .eq 7, 3) := by decide +kernel
theorem dm_quantify_132 : decode bm_quantify 132 = .ok (.iconst 1, 1) := by decide +kernel
theorem dm_quantify_133 : decode bm_quantify 133 = .ok (.goto 4, 3) := by decide +kernel
theorem dm_quantify_136 : decode bm_quantify 136 = .ok (.iconst 0, 1) := by decide +kernel
theorem dm_quantify_137 : decode bm_quantify 137 = .ok (.invokevirtual 68, 3) := by decide +kernel
theorem dm_quantify_140 : decode bm_quantify 140 = .ok (.iinc 5 1, 3) := by decide +kernel
theorem dm_quantify_143 : decode bm_quantify 143 = .ok (.goto (-91), 3) := by decide +kernel
theorem dm_quantify_146 : decode bm_quantify 146 = .ok (.aload_n 0, 1) := by decide +kernel
theorem dm_quantify_147 : decode bm_quantify 147 = .ok (.iload_n 1, 1) := by decide +kernel
theorem dm_quantify_148 : decode bm_quantify 148 = .ok (.invokevirtual 72, 3) := by decide +kernel
theorem dm_quantify_151 : decode bm_quantify 151 = .ok (.return_, 1) := by decide +kernel
set_option maxHeartbeats 4000000 in
set_option maxRecDepth 100000 in
theorem lm_quantify_66 {z : wt_Z} {s : wt_S} {t : wt_M} {o : Nat → Int64} {c1 : Int32} {c2 : Int32} {c3 : Int32} {c4 : Int32} {c5 : Int32} {K : Int32 → Option (wt_M)} (am : wt_Am z R_M bm_quantify 8 3 none) (hK : ∀ (e6 : Int32), jj_J z 8 122 [(0, .ref (ad_ z 11)), (1, .int c1), (2, .int c2), (3, .int c3), (4, .int c4), (5, .int c5), (6, .int e6)] [] (s, t, o) (q_T z s o) (K e6)) : ∀ (n : Nat) (x6 : Int32) (x7 : Int32), jj_J z 8 66 [(0, .ref (ad_ z 11)), (1, .int c1), (2, .int c2), (3, .int c3), (4, .int c4), (5, .int c5), (6, .int x6), (7, .int x7)] [] (s, t, o) (q_T z s o) (fm_quantify_L66 t c1 c2 c3 c4 c5 K n x6 x7) := by
  intro n
  induction n with
  | zero =>
    intro x6 x7
    exact ji_none
  | succ n ih =>
    intro x6 x7
    rw [fm_quantify_L66]
    refine ji_iload (q := 68) am dm_quantify_66 7 rfl rfl ?_
    refine ji_if_lt (q := 71) (g := 122) am dm_quantify_68 rfl rfl ?_ ?_
    · exact ji_sub (lv' := [(0, .ref (ad_ z 11)), (1, .int c1), (2, .int c2), (3, .int c3), (4, .int c4), (5, .int c5), (6, .int x6)]) [0, 1, 2, 3, 4, 5, 6] rfl (hK _)
    · refine ji_iload (q := 73) am dm_quantify_71 6 rfl rfl ?_
      refine ji_jn2 (fun j => ∀ (y0_100 : Int32), jj_J z 8 100 [(0, .ref (ad_ z 11)), (1, .int c1), (2, .int c2), (3, .int c3), (4, .int c4), (5, .int c5), (7, .int x7)] [.int y0_100] (s, t, o) (q_T z s o) (j y0_100)) ?_ ?_
      · intro y0_100
        refine ji_istore (lv' := [(0, .ref (ad_ z 11)), (1, .int c1), (2, .int c2), (3, .int c3), (4, .int c4), (5, .int c5), (6, .int y0_100), (7, .int x7)]) (q := 102) am dm_quantify_100 [1, 2, 3, 4, 5, 6, 0, 7] rfl rfl rfl ?_
        refine ji_iload (q := 104) am dm_quantify_102 7 rfl rfl ?_
        refine ji_jn2 (fun j => ∀ (y0_117 : Int32), jj_J z 8 117 [(0, .ref (ad_ z 11)), (1, .int c1), (2, .int c2), (3, .int c3), (4, .int c4), (5, .int c5), (6, .int y0_100)] [.int y0_117] (s, t, o) (q_T z s o) (j y0_117)) ?_ ?_
        · intro y0_117
          refine ji_istore (lv' := [(0, .ref (ad_ z 11)), (1, .int c1), (2, .int c2), (3, .int c3), (4, .int c4), (5, .int c5), (6, .int y0_100), (7, .int y0_117)]) (q := 119) am dm_quantify_117 [1, 2, 3, 4, 5, 6, 7, 0] rfl rfl rfl ?_
          refine ji_goto (q := 66) am dm_quantify_119 rfl ?_
          exact ih _ _
        · intro j117 hj117
          refine ji_if_ne (q := 107) (g := 111) am dm_quantify_104 rfl rfl ?_ ?_
          · refine ji_iload (q := 113) am dm_quantify_111 7 rfl rfl ?_
            refine ji_iconst (q := 114) am dm_quantify_113 ki_1 rfl ?_
            refine ji_isub (q := 115) am dm_quantify_114 rfl ?_
            refine ji_iload_n (q := 116) am dm_quantify_115 rfl 3 rfl rfl ?_
            refine ji_iand (q := 117) am dm_quantify_116 rfl ?_
            exact ji_sub (lv' := [(0, .ref (ad_ z 11)), (1, .int c1), (2, .int c2), (3, .int c3), (4, .int c4), (5, .int c5), (6, .int y0_100)]) [0, 1, 2, 3, 4, 5, 6] rfl (hj117 _)
          · refine ji_iconst (q := 108) am dm_quantify_107 ki_m1 rfl ?_
            refine ji_goto (q := 117) am dm_quantify_108 rfl ?_
            exact ji_sub (lv' := [(0, .ref (ad_ z 11)), (1, .int c1), (2, .int c2), (3, .int c3), (4, .int c4), (5, .int c5), (6, .int y0_100)]) [0, 1, 2, 3, 4, 5, 6] rfl (hj117 _)
      · intro j100 hj100
        refine ji_jn2 (fun j => ∀ (u95 : Unit), jj_J z 8 95 [(0, .ref (ad_ z 11)), (1, .int c1), (2, .int c2), (3, .int c3), (4, .int c4), (5, .int c5), (7, .int x7)] [] (s, t, o) (q_T z s o) (j u95)) ?_ ?_
        · intro u95
          refine ji_iconst (q := 96) am dm_quantify_95 ki_1 rfl ?_
          refine ji_goto (q := 100) am dm_quantify_96 rfl ?_
          exact hj100 _
        · intro j95 hj95
          refine ji_if_ne (q := 76) (g := 95) am dm_quantify_73 rfl rfl ?_ ?_
          · exact ji_sub (lv' := [(0, .ref (ad_ z 11)), (1, .int c1), (2, .int c2), (3, .int c3), (4, .int c4), (5, .int c5), (7, .int x7)]) [0, 1, 2, 3, 4, 5, 7] rfl (hj95 _)
          · refine ji_aload_n (q := 77) am dm_quantify_76 rfl 0 rfl rfl ?_
            refine ji_iload_n (q := 78) am dm_quantify_77 rfl 2 rfl rfl ?_
            refine ji_iload (q := 80) am dm_quantify_78 5 rfl rfl ?_
            refine ji_iload_n (q := 81) am dm_quantify_80 rfl 3 rfl rfl ?_
            refine ji_iconst (q := 82) am dm_quantify_81 ki_m1 rfl ?_
            refine ji_ixor (q := 83) am dm_quantify_82 rfl ?_
            refine ji_iand (q := 84) am dm_quantify_83 rfl ?_
            refine ji_iload (q := 86) am dm_quantify_84 7 rfl rfl ?_
            refine ji_ior (q := 87) am dm_quantify_86 rfl ?_
            refine jk_I (q := 90) (rest := []) (fun r hF => jr_V [.int c2, .int ((c5 &&& (c3 ^^^ (-1 : Int32))) ||| x7)] am ln_M_m_value (ctm_value _ _ hF) (by omega) (rc_M am) rfl rfl (Nat.le_of_ble_eq_true rfl) dm_quantify_87) rfl ?_
            intro r87
            refine ji_iload (q := 92) am dm_quantify_90 4 rfl rfl ?_
            refine ji_icmp_eq (q := 95) (g := 99) am dm_quantify_92 rfl rfl ?_ ?_
            · refine ji_iconst (q := 100) am dm_quantify_99 ki_0 rfl ?_
              exact ji_sub (lv' := [(0, .ref (ad_ z 11)), (1, .int c1), (2, .int c2), (3, .int c3), (4, .int c4), (5, .int c5), (7, .int x7)]) [0, 1, 2, 3, 4, 5, 7] rfl (hj100 _)
            · exact ji_sub (lv' := [(0, .ref (ad_ z 11)), (1, .int c1), (2, .int c2), (3, .int c3), (4, .int c4), (5, .int c5), (7, .int x7)]) [0, 1, 2, 3, 4, 5, 7] rfl (hj95 _)
set_option maxHeartbeats 4000000 in
set_option maxRecDepth 100000 in
theorem lm_quantify_52 {z : wt_Z} {s : wt_S} {o : Nat → Int64} {c1 : Int32} {c2 : Int32} {c3 : Int32} {c4 : Int32} {K : wt_M → Option (wt_M)} (am : wt_Am z R_M bm_quantify 8 3 none) (hK : ∀ (t3 : wt_M), jj_J z 8 146 [(0, .ref (ad_ z 11)), (1, .int c1)] [] (s, t3, o) (q_T z s o) (K t3)) : ∀ (n : Nat) (x5 : Int32) (t : wt_M), jj_J z 8 52 [(0, .ref (ad_ z 11)), (1, .int c1), (2, .int c2), (3, .int c3), (4, .int c4), (5, .int x5)] [] (s, t, o) (q_T z s o) (fm_quantify_L52 c1 c2 c3 c4 K n x5 t) := by
  intro n
  induction n with
  | zero =>
    intro x5 t
    exact ji_none
  | succ n ih =>
    intro x5 t
    rw [fm_quantify_L52]
    refine ji_iload (q := 54) am dm_quantify_52 5 rfl rfl ?_
    refine ji_sipush (q := 57) am dm_quantify_54 ks_256 rfl ?_
    refine ji_icmp_ge (q := 60) (g := 146) am dm_quantify_57 rfl rfl ?_ ?_
    · exact ji_sub (lv' := [(0, .ref (ad_ z 11)), (1, .int c1)]) [0, 1] rfl (hK _)
    · refine ji_iconst (q := 61) am dm_quantify_60 ki_0 rfl ?_
      refine ji_istore (lv' := [(0, .ref (ad_ z 11)), (1, .int c1), (2, .int c2), (3, .int c3), (4, .int c4), (5, .int x5), (6, .int (0 : Int32))]) (q := 63) am dm_quantify_61 [1, 2, 3, 4, 5, 6, 0] rfl rfl rfl ?_
      refine ji_iload_n (q := 64) am dm_quantify_63 rfl 3 rfl rfl ?_
      refine ji_istore (lv' := [(0, .ref (ad_ z 11)), (1, .int c1), (2, .int c2), (3, .int c3), (4, .int c4), (5, .int x5), (6, .int (0 : Int32)), (7, .int c3)]) (q := 66) am dm_quantify_64 [1, 2, 3, 4, 5, 6, 7, 0] rfl rfl rfl ?_
      refine lm_quantify_66 am (fun z6_66 => ?_) 5000 _ _
      refine ji_aload_n (q := 123) am dm_quantify_122 rfl 0 rfl rfl ?_
      refine ji_iload (q := 125) am dm_quantify_123 5 rfl rfl ?_
      refine ji_iload (q := 127) am dm_quantify_125 6 rfl rfl ?_
      refine ji_iload (q := 129) am dm_quantify_127 4 rfl rfl ?_
      refine ji_jn2 (fun j => ∀ (y0_137 : Int32), jj_J z 8 137 [(0, .ref (ad_ z 11)), (1, .int c1), (2, .int c2), (3, .int c3), (4, .int c4), (5, .int x5)] [.int y0_137, .int x5, .ref (ad_ z 11)] (s, t, o) (q_T z s o) (j y0_137)) ?_ ?_
      · intro y0_137
        refine jk_T (q := 140) (rest := []) (fun t2 hF => jr_V [.int x5, .int y0_137] am ln_M_m_set (ctm_set _ _ hF) (by omega) (rc_M am) rfl rfl (Nat.le_of_ble_eq_true rfl) dm_quantify_137) rfl ?_
        intro t137
        refine ji_iinc (q := 143) (lv' := [(0, .ref (ad_ z 11)), (1, .int c1), (2, .int c2), (3, .int c3), (4, .int c4), (5, .int (x5 + 1))]) am dm_quantify_140 5 rfl ki_1 [1, 2, 3, 4, 5, 0] rfl rfl rfl ?_
        refine ji_goto (q := 52) am dm_quantify_143 rfl ?_
        exact ih _ _
      · intro j137 hj137
        refine ji_icmp_eq (q := 132) (g := 136) am dm_quantify_129 rfl rfl ?_ ?_
        · refine ji_iconst (q := 137) am dm_quantify_136 ki_0 rfl ?_
          exact ji_sub (lv' := [(0, .ref (ad_ z 11)), (1, .int c1), (2, .int c2), (3, .int c3), (4, .int c4), (5, .int x5)]) [0, 1, 2, 3, 4, 5] rfl (hj137 _)
        · refine ji_iconst (q := 133) am dm_quantify_132 ki_1 rfl ?_
          refine ji_goto (q := 137) am dm_quantify_133 rfl ?_
          exact ji_sub (lv' := [(0, .ref (ad_ z 11)), (1, .int c1), (2, .int c2), (3, .int c3), (4, .int c4), (5, .int x5)]) [0, 1, 2, 3, 4, 5] rfl (hj137 _)
set_option maxHeartbeats 4000000 in
set_option maxRecDepth 100000 in
theorem ctm_quantify {v : wt_V} {t : wt_M} {a1 : Int32} {a2 : Int32} {a3 : Int32} {a4 : Int32} {t2 : wt_M} (s : wt_S) (o : Nat → Int64) (hF : fm_quantify t a1 a2 a3 a4 = some t2) : ct_C v ym_quantify (Cond.code ym_quantify bm_quantify 8 none) 3 [.ref (v.2.1 11), .int a1, .int a2, .int a3, .int a4] none (s, t, o) (s, t2, o) := by
  refine ct_of (lv := [(0, .ref (v.2.1 11)), (1, .int a1), (2, .int a2), (3, .int a3), (4, .int a4)]) (fun _ : wt_M => none) (fun r => (s, r, o)) (by decide) (Nat.le_of_ble_eq_true rfl) rfl ?_ t2 hF
  intro z hz am
  subst hz
  have am : wt_Am z R_M bm_quantify 8 3 none := am
  show jj_J z 8 0 [(0, .ref (ad_ z 11)), (1, .int a1), (2, .int a2), (3, .int a3), (4, .int a4)] [] (s, t, o) (q_T z s o) (fm_quantify t a1 a2 a3 a4)
  unfold fm_quantify
  refine ji_aload_n (q := 1) am dm_quantify_0 rfl 0 rfl rfl ?_
  refine ji_iload_n (q := 2) am dm_quantify_1 rfl 1 rfl rfl ?_
  refine jk_I (q := 5) (rest := [.ref (ad_ z 11)]) (fun r hF => jr_S [.int a1] am ln_M_m_isRegister (ctm_isRegister _ _ _ hF) (by omega) rfl rfl (Nat.le_of_ble_eq_true rfl) dm_quantify_2) rfl ?_
  intro r2
  refine ji_jn2 (fun j => ∀ (y0_35 : Int32), jj_J z 8 35 [(0, .ref (ad_ z 11)), (1, .int a1), (2, .int a2), (3, .int a3), (4, .int a4)] [.int y0_35, .ref (ad_ z 11)] (s, t, o) (q_T z s o) (j y0_35)) ?_ ?_
  · intro y0_35
    refine ji_put_M_code (q := 38) am dm_quantify_35 rfl ?_
    intro t35
    refine ji_aload_n (q := 39) am dm_quantify_38 rfl 0 rfl rfl ?_
    refine ji_get_M_code (q := 42) am dm_quantify_39 rfl ?_
    refine ji_jn2 (fun j => ∀ (t_151 : wt_M), jj_J z 8 151 [] [] (s, t_151, o) (q_T z s o) (j t_151)) ?_ ?_
    · intro t_151
      exact ji_vret am rfl dm_quantify_151 rfl rfl
    · intro j151 hj151
      refine ji_if_ne (q := 45) (g := 151) am dm_quantify_42 rfl rfl ?_ ?_
      · exact ji_sub (lv' := []) [] rfl (hj151 _)
      · refine ji_aload_n (q := 46) am dm_quantify_45 rfl 0 rfl rfl ?_
        refine jk_T (q := 49) (rest := []) (fun t2 hF => jr_V [] am ln_M_m_clear (ctm_clear _ _ hF) (by omega) (rc_M am) rfl rfl (Nat.le_of_ble_eq_true rfl) dm_quantify_46) rfl ?_
        intro t46
        refine ji_iconst (q := 50) am dm_quantify_49 ki_0 rfl ?_
        refine ji_istore (lv' := [(0, .ref (ad_ z 11)), (1, .int a1), (2, .int a2), (3, .int a3), (4, .int a4), (5, .int (0 : Int32))]) (q := 52) am dm_quantify_50 [1, 2, 3, 4, 5, 0] rfl rfl rfl ?_
        refine lm_quantify_52 am (fun t_52 => ?_) 5000 _ _
        refine ji_aload_n (q := 147) am dm_quantify_146 rfl 0 rfl rfl ?_
        refine ji_iload_n (q := 148) am dm_quantify_147 rfl 1 rfl rfl ?_
        refine jk_T (q := 151) (rest := []) (fun t2 hF => jr_V [.int a1] am ln_M_m_keep (ctm_keep _ _ hF) (by omega) (rc_M am) rfl rfl (Nat.le_of_ble_eq_true rfl) dm_quantify_148) rfl ?_
        intro t148
        exact ji_sub (lv' := []) [] rfl (hj151 _)
  · intro j35 hj35
    refine ji_jn2 (fun j => ∀ (u15 : Unit), jj_J z 8 15 [(0, .ref (ad_ z 11)), (1, .int a1), (2, .int a2), (3, .int a3), (4, .int a4)] [.ref (ad_ z 11)] (s, t, o) (q_T z s o) (j u15)) ?_ ?_
    · intro u15
      refine ji_iconst (q := 16) am dm_quantify_15 ki_1 rfl ?_
      refine ji_goto (q := 35) am dm_quantify_16 rfl ?_
      exact hj35 _
    · intro j15 hj15
      refine ji_if_eq (q := 8) (g := 15) am dm_quantify_5 rfl rfl ?_ ?_
      · exact hj15 _
      · refine ji_iload_n (q := 9) am dm_quantify_8 rfl 2 rfl rfl ?_
        refine jk_I (q := 12) (rest := [.ref (ad_ z 11)]) (fun r hF => jr_S [.int a2] am ln_M_m_isRegister (ctm_isRegister _ _ _ hF) (by omega) rfl rfl (Nat.le_of_ble_eq_true rfl) dm_quantify_9) rfl ?_
        intro r9
        refine ji_if_ne (q := 15) (g := 19) am dm_quantify_12 rfl rfl ?_ ?_
        · refine ji_iload_n (q := 20) am dm_quantify_19 rfl 3 rfl rfl ?_
          refine ji_iconst (q := 21) am dm_quantify_20 ki_0 rfl ?_
          refine ji_sipush (q := 24) am dm_quantify_21 ks_255 rfl ?_
          refine jk_I (q := 27) (rest := [.ref (ad_ z 11)]) (fun r hF => jr_S [.int a3, .int (0 : Int32), .int (255 : Int32)] am ln_M_m_in (ctm_in _ _ _ hF) (by omega) rfl rfl (Nat.le_of_ble_eq_true rfl) dm_quantify_24) rfl ?_
          intro r24
          refine ji_if_eq (q := 30) (g := 34) am dm_quantify_27 rfl rfl ?_ ?_
          · refine ji_iconst (q := 35) am dm_quantify_34 ki_2 rfl ?_
            exact hj35 _
          · refine ji_iconst (q := 31) am dm_quantify_30 ki_0 rfl ?_
            refine ji_goto (q := 35) am dm_quantify_31 rfl ?_
            exact hj35 _
        · exact hj15 _
