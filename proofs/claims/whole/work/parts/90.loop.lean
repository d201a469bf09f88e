/-! The law's loop: printed by wip/gen/law.py. My own. -/
theorem lw_cmp {j L : Nat} (hj : 6 * j ≤ 3100) (hL : L ≤ 3072) : (Int32.ofNat L - 6 < nI (6 * j)) ↔ ¬ (6 * j + 6 ≤ L) := by
  rw [Int32.lt_iff_toInt_lt, nI_toInt (by omega)]
  have h1 : (Int32.ofNat L).toInt = (L : Int) := nI_toInt (n := L) (by omega)
  have h2 : (Int32.ofNat L - 6).toInt = (L : Int) - 6 := by
    rw [Int32.toInt_sub, h1, show (6 : Int32).toInt = 6 from by decide]
    rw [Int.bmod_eq_of_le (by omega) (by omega)]
  rw [h2]
  omega
theorem lw_and (x : Int32) : ((x &&& 31).toInt < 0 ∨ 23 < (x &&& 31).toInt) ∨ ∃ m : Nat, m < 24 ∧ x &&& 31 = nI m := by
  by_cases h : (x &&& 31).toInt < 0 ∨ 23 < (x &&& 31).toInt
  · exact Or.inl h
  · refine Or.inr ⟨(x &&& 31).toInt.toNat, by omega, ?_⟩
    have h2 : (nI (x &&& 31).toInt.toNat).toInt = (((x &&& 31).toInt.toNat : Nat) : Int) := nI_toInt (by omega)
    exact Int32.toInt_inj.mp (by rw [h2]; omega)
theorem lw_head {z : wt_Z} {b L c n : Nat} {i : Int32} {xs : Nat → Int32} {rt : Option FieldType} {Q : State → Prop} {w : wt_W} (am : wt_Am z R_L code 7 60 rt) (lw : jw_L z b L xs) (k : jw_J z 30 (jw_0 z b i) [.int (Int32.ofNat L - 6), .int i] c n w Q) : jw_J z 23 (jw_0 z b i) [] c n w Q := by
  refine jw_iload (q := 25) am dw_23 4 rfl rfl ?_
  refine jw_aload_n (q := 26) am dw_25 rfl 0 rfl rfl ?_
  intro H locs ls hP hS hh
  refine va_slen am.1 am.2.1 lw.1 lw.2.1 (Nat.not_le.mpr lw.2.1) hS dw_26 ?_
  refine lv_bipush am.1 am.2.1 dw_27 kb_6 ?_
  refine lv_isub am.1 am.2.1 dw_29 ?_
  exact k H locs ls hP hS hh
theorem jw_op {z : wt_Z} {b L c n j : Nat} {xs : Nat → Int32} {rt : Option FieldType} {Q : State → Prop} {w : wt_W} (am : wt_Am z R_L code 7 60 rt) (lw : jw_L z b L xs) (hj : 6 * j + 6 ≤ L) (hL : L ≤ 3072) (k : jw_J z 40 (jw_0 z b (nI (6 * j))) [.int (xs (6 * j) &&& 31)] c n w Q) : jw_J z 33 (jw_0 z b (nI (6 * j))) [] c n w Q := by
  refine jw_aload_n (q := 34) am dw_33 rfl 0 rfl rfl ?_
  refine jw_iload (q := 36) am dw_34 4 rfl rfl ?_
  intro H locs ls hP hS hh
  refine va_sld am.1 am.2.1 lw.1 lw.2.1 (Nat.not_le.mpr lw.2.1) hS (nI_in (show 6 * j < L by omega) (by omega)) dw_36 ?_
  rw [nI_clamp (by omega)]
  refine lv_bipush am.1 am.2.1 dw_37 kb_31 ?_
  refine lv_iand am.1 am.2.1 dw_39 ?_
  exact k H locs ls hP hS hh
set_option maxHeartbeats 4000000 in
theorem lw_loop {z : wt_Z} {b L : Nat} {xs : Nat → Int32} {rt : Option FieldType} {Q : State → Prop} (am : wt_Am z R_L code 7 60 rt) (lw : jw_L z b L xs) (hL : L ≤ 3072) (fin : ∀ (c n : Nat) (lv : List (Nat × Value)) (w : wt_W), c ≤ (zz_R z).cells → n ≤ (zz_R z).slots → jw_J z 1682 lv [] c n w Q) :
    ∀ (m j c n : Nat) (s : wt_S) (t : wt_M) (o : Nat → Int64), 6 * j ≤ 3100 → L ≤ 6 * j + 6 * m → c + m ≤ (zz_R z).cells → n + 6 * m ≤ (zz_R z).slots → sy_ s t → jw_J z 23 (jw_0 z b (nI (6 * j))) [] c n (s, t, o) Q := by
  intro m
  induction m with
  | zero =>
    intro j c n s t o h1 h2 h3 h4 hs
    refine lw_head am lw (fun H locs ls hP hS hh => ?_)
    refine lv_icmp_gt (tgt := 1682) am.1 am.2.1 dw_30 rfl (fun _ => fin c n _ _ (by omega) (by omega) H locs ls hP hS hh) (fun hc => ?_)
    exact absurd ((lw_cmp h1 hL).mpr (by omega)) hc
  | succ m ih =>
    intro j c n s t o h1 h2 h3 h4 hs
    refine lw_head am lw (fun H locs ls hP hS hh => ?_)
    refine lv_icmp_gt (tgt := 1682) am.1 am.2.1 dw_30 rfl (fun _ => fin c n _ _ (by omega) (by omega) H locs ls hP hS hh) (fun hc => ?_)
    have hj : 6 * j + 6 ≤ L := Classical.byContradiction fun h => hc ((lw_cmp h1 hL).mpr h)
    have hR : c + 1 ≤ (zz_R z).cells ∧ n + 6 ≤ (zz_R z).slots := ⟨by omega, by omega⟩
    have kk : ∀ (s2 : wt_S) (t2 : wt_M) (o2 : Nat → Int64), sy_ s2 t2 → jw_J z 1676 (jw_0 z b (nI (6 * j))) [] (c + 1) (n + 6) (s2, t2, o2) Q := by
      intro s2 t2 o2 h9
      refine jw_iinc (lv' := jw_0 z b (nI (6 * j) + 6)) (q := 1679) am dw_1676 4 rfl ki_6 [1, 2, 3, 4, 0] rfl rfl rfl ?_
      refine jw_goto (q := 23) am dw_1679 rfl ?_
      rw [show nI (6 * j) + 6 = nI (6 * (j + 1)) from nI_add (6 * j) 6]
      exact ih (j + 1) (c + 1) (n + 6) s2 t2 o2 (by omega) (by omega) (by omega) (by omega) h9
    have body : jw_J z 33 (jw_0 z b (nI (6 * j))) [] c n (s, t, o) Q := by
      refine jw_op am lw hj hL ?_
      rcases lw_and (xs (6 * j)) with h | ⟨i, hi, e⟩
      · refine jw_tout (g := 1676) am dw_40 h rfl ?_
        exact jw_wide (by omega) (by omega) (kk s t o hs)
      · match i, hi, e with
        | 0, _, e => exact jw_tin (m := 0) (g := 152) (off := 112) am dw_40 e (by decide) (by decide) (by decide) (by decide) (lo_variable am lw hj hL hR hs kk)
        | 1, _, e => exact jw_tin (m := 1) (g := 200) (off := 160) am dw_40 e (by decide) (by decide) (by decide) (by decide) (lo_constant am lw hj hL hR hs kk)
        | 2, _, e => exact jw_tin (m := 2) (g := 264) (off := 224) am dw_40 e (by decide) (by decide) (by decide) (by decide) (lo_apply am lw hj hL hR hs kk)
        | 3, _, e => exact jw_tin (m := 3) (g := 336) (off := 296) am dw_40 e (by decide) (by decide) (by decide) (by decide) (lo_choose am lw hj hL hR hs kk)
        | 4, _, e => exact jw_tin (m := 4) (g := 408) (off := 368) am dw_40 e (by decide) (by decide) (by decide) (by decide) (lo_restrict am lw hj hL hR hs kk)
        | 5, _, e => exact jw_tin (m := 5) (g := 496) (off := 456) am dw_40 e (by decide) (by decide) (by decide) (by decide) (lo_quantify am lw hj hL hR hs kk)
        | 6, _, e => exact jw_tin (m := 6) (g := 584) (off := 544) am dw_40 e (by decide) (by decide) (by decide) (by decide) (lo_product am lw hj hL hR hs kk)
        | 7, _, e => exact jw_tin (m := 7) (g := 656) (off := 616) am dw_40 e (by decide) (by decide) (by decide) (by decide) (lo_compose am lw hj hL hR hs kk)
        | 8, _, e => exact jw_tin (m := 8) (g := 728) (off := 688) am dw_40 e (by decide) (by decide) (by decide) (by decide) (lo_turn am lw hj hL hR hs kk)
        | 9, _, e => exact jw_tin (m := 9) (g := 776) (off := 736) am dw_40 e (by decide) (by decide) (by decide) (by decide) (lo_truth am lw hj hL hR hs kk)
        | 10, _, e => exact jw_tin (m := 10) (g := 851) (off := 811) am dw_40 e (by decide) (by decide) (by decide) (by decide) (lo_same am lw hj hL hR hs kk)
        | 11, _, e => exact jw_tin (m := 11) (g := 926) (off := 886) am dw_40 e (by decide) (by decide) (by decide) (by decide) (lo_count am lw hj hL hR hs kk)
        | 12, _, e => exact jw_tin (m := 12) (g := 982) (off := 942) am dw_40 e (by decide) (by decide) (by decide) (by decide) (lo_least am lw hj hL hR hs kk)
        | 13, _, e => exact jw_tin (m := 13) (g := 1038) (off := 998) am dw_40 e (by decide) (by decide) (by decide) (by decide) (lo_depends am lw hj hL hR hs kk)
        | 14, _, e => exact jw_tin (m := 14) (g := 1094) (off := 1054) am dw_40 e (by decide) (by decide) (by decide) (by decide) (lo_nodes am lw hj hL hR hs kk)
        | 15, _, e => exact jw_tin (m := 15) (g := 1150) (off := 1110) am dw_40 e (by decide) (by decide) (by decide) (by decide) (lo_heap am lw hj hL hR hs kk)
        | 16, _, e => exact jw_tin (m := 16) (g := 1163) (off := 1123) am dw_40 e (by decide) (by decide) (by decide) (by decide) (lo_order am lw hj hL hR hs kk)
        | 17, _, e => exact jw_tin (m := 17) (g := 1219) (off := 1179) am dw_40 e (by decide) (by decide) (by decide) (by decide) (lo_swap am lw hj hL hR hs kk)
        | 18, _, e => exact jw_tin (m := 18) (g := 1275) (off := 1235) am dw_40 e (by decide) (by decide) (by decide) (by decide) (lo_place am lw hj hL hR hs kk)
        | 19, _, e => exact jw_tin (m := 19) (g := 1343) (off := 1303) am dw_40 e (by decide) (by decide) (by decide) (by decide) (lo_sift am lw hj hL hR hs kk)
        | 20, _, e => exact jw_tin (m := 20) (g := 1399) (off := 1359) am dw_40 e (by decide) (by decide) (by decide) (by decide) (lo_image am lw hj hL hR hs kk)
        | 21, _, e => exact jw_tin (m := 21) (g := 1479) (off := 1439) am dw_40 e (by decide) (by decide) (by decide) (by decide) (lo_reach am lw hj hL hR hs kk)
        | 22, _, e => exact jw_tin (m := 22) (g := 1559) (off := 1519) am dw_40 e (by decide) (by decide) (by decide) (by decide) (lo_check am lw hj hL hR hs kk)
        | 23, _, e => exact jw_tin (m := 23) (g := 1663) (off := 1623) am dw_40 e (by decide) (by decide) (by decide) (by decide) (lo_astray am lw hj hL hR hs kk)
        | i + 24, hi, _ => exact absurd hi (by omega)
    exact body H locs ls hP hS hh
