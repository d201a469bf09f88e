/-! check: class and reference side by side. My own. -/
section CK
variable {s : wt_S} {t : wt_M}
theorem ch_fin {lev o : Nat → Nat} {g : gh_} {rt : Nat → Nat} {n : Nat} {F : Nat → mb_F} {r x R : Nat} (hr : r < 16) (h : ep_ s lev o g rt n) (hv : vn_ g x (st_ R)) (hF : ∀ j, j < 16 → g.2.2.2 (rt j) = F j) : ∃ s2, (b_S (fd_keep s (nI r) (nI x)) fun s334 => b_I (fx_states s334 (nI r)) fun r339 => some (r339, s334)) = some (nI (pp_ R), s2) ∧ cx_ s2 (fun i => if i = r then st_ R else F i) o := by
  obtain ⟨s2, g2, rt2, e2, h2⟩ := ep_keep h hr hv hF
  refine ⟨s2, ?_, lev, g2, rt2, h2⟩
  rw [e2, bS_some, sts_x h2 hr (by rw [if_pos rfl]), bI_some]
theorem ck_x {lev o : Nat → Nat} {g : gh_} {rt : Nat → Nat} {F : Nat → mb_F} (h : rd0_ s lev o g rt F) {r u k p q : Nat} (hr : r < 16) (hu : u < 16) (hk : k < 8) (hp : p < 16) (hq : q < 16) (ep : ev_ (F p)) (eq : ev_ (F q)) : ∃ s2, fx_check s (nI r) (nI u) (nI k) (nI p) (nI q) = some (nI (pp_ (fo_ (F u) k (sz_ (F p)) (sz_ (F q)))), s2) ∧ cx_ s2 (fun i => if i = r then st_ (fo_ (F u) k (sz_ (F p)) (sz_ (F q))) else F i) o := by
  have hA := sz_lt (F p)
  have hB := sz_lt (F q)
  have sp : F p = st_ (sz_ (F p)) := sz_st (rd_on h hp) ep
  have sq : F q = st_ (sz_ (F q)) := sz_st (rd_on h hq) eq
  have vp : vn_ g (rt p) (st_ (sz_ (F p))) := by rw [← sp]; exact vn_rt h hp
  have vq : vn_ g (rt q) (st_ (sz_ (F q))) := by rw [← sq]; exact vn_rt h hq
  generalize hAe : sz_ (F p) = A at *
  generalize hBe : sz_ (F q) = B at *
  have cA := cp_lt hA
  have cB := cp_lt hB
  have cAB := cp_lt (or_lt hA hB)
  obtain ⟨r0, s0, g0, e0, h0, x0, v0⟩ := ep_ne (ep_rs h.1) (by decide) vp
  rw [ne_st] at v0
  have reg0 : ∀ i, i < 16 → vn_ g0 (rt i) (F i) := fun i hi => vn_ex x0 (vn_rt h hi)
  have vu0 := reg0 u hu
  have vp0 := vn_ex x0 vp
  have vq0 := vn_ex x0 vq
  have g0i := (ep_g h0).2.2
  have vT : ∀ (g : gh_), gi_ lev g → vn_ g 1 (st_ 65535) := fun g hg => ⟨(gi_leaf hg (show 1 < 2 by decide)).1, by rw [hg.1.2.2.2, st_1]⟩
  have vF : ∀ (g : gh_), gi_ lev g → vn_ g 0 (st_ 0) := fun g hg => ⟨(gi_leaf hg (show 0 < 2 by decide)).1, by rw [hg.1.2.2.1, st_0]⟩
  have i1 : (1 : Int32) = nI 1 := rfl
  have i0 : (0 : Int32) = nI 0 := nI_0.symm
  have pre : ∀ X : Option (Int32 × wt_S), (∀ Y, X = Y → (fx_check s (nI r) (nI u) (nI k) (nI p) (nI q) = Y)) → fx_check s (nI r) (nI u) (nI k) (nI p) (nI q) = X := fun X hX => hX X rfl
  unfold fx_check
  rw [nr_ok hr, bU_some, nr_ok hu, bU_some, nr_ok hp, bU_some, nr_ok hq, bU_some, show fx_needBelow (nI k) (8 : Int32) = some () from nb_ok hk (by decide), bU_some, ns_x h hp ep, bU_some, ns_x h hq eq, bU_some, ro_ok h.1 (by omega), bI_some, ro_ok h.1 (by omega), bI_some, ro_ok h.1 (by omega), bI_some, e0, bIS_some, jn_]
  rcases (show k = 0 ∨ k = 1 ∨ k = 2 ∨ k = 3 ∨ k = 4 ∨ k = 5 ∨ k = 6 ∨ k = 7 by omega) with c | c | c | c | c | c | c | c
  · subst c
    obtain ⟨r1, s1, g1, e1, h1, x1, v1⟩ := ep_be h0 (by decide) vu0 vp0
    obtain ⟨s2, e2, q2⟩ := ch_fin hr h1 v1 (fun j hj => (vn_ex x1 (reg0 j hj)).2)
    refine ⟨s2, ?_, q2⟩
    rw [if_pos (show nI 0 = (0 : Int32) by decide), e1, bIS_some]
    exact e2
  · subst c
    obtain ⟨r1, s1, g1, rt1, e1, h1, k1, -, -, v1⟩ := set_ok (it := u) (by decide) hA hA h0 (by decide) (by decide) hu rfl vu0 (vT g0 g0i) vp0 vp0
    rw [un_17 (by decide) hA] at v1
    obtain ⟨s2, e2, q2⟩ := ch_fin hr h1 v1 (fun j hj => (k1 j _ (by omega) (by omega) (by omega) (by omega) (reg0 j hj)).2.2)
    refine ⟨s2, ?_, q2⟩
    rw [if_neg (show ¬ nI 1 = (0 : Int32) by decide), if_pos (show nI 1 = (1 : Int32) by decide), i1, e1, bIS_some]
    exact e2
  · subst c
    obtain ⟨r1, s1, g1, rt1, e1, h1, k1, -, -, v1⟩ := set_ok (it := u) hA (by decide) hA h0 (by decide) (by decide) hu rfl vu0 vp0 (vF g0 g0i) vp0
    rw [al_17 hA] at v1
    obtain ⟨s2, e2, q2⟩ := ch_fin hr h1 v1 (fun j hj => (k1 j _ (by omega) (by omega) (by omega) (by omega) (reg0 j hj)).2.2)
    refine ⟨s2, ?_, q2⟩
    rw [if_neg (show ¬ nI 2 = (0 : Int32) by decide), if_neg (show ¬ nI 2 = (1 : Int32) by decide), if_pos (show nI 2 = (2 : Int32) by decide)]
    rw [nI_0] at e1
    rw [e1, bIS_some]
    exact e2
  · subst c
    obtain ⟨r1, s1, g1, rt1, e1, h1, k1, -, -, v1⟩ := set_ok (it := u) hA hB hB h0 (by decide) (by decide) hu rfl vu0 vp0 vq0 vq0
    rw [un_17 hA hB] at v1
    obtain ⟨s2, e2, q2⟩ := ch_fin hr h1 v1 (fun j hj => (k1 j _ (by omega) (by omega) (by omega) (by omega) (reg0 j hj)).2.2)
    refine ⟨s2, ?_, q2⟩
    rw [if_neg (show ¬ nI 3 = (0 : Int32) by decide), if_neg (show ¬ nI 3 = (1 : Int32) by decide), if_neg (show ¬ nI 3 = (2 : Int32) by decide), if_pos (show nI 3 = (3 : Int32) by decide), e1, bIS_some]
    exact e2
  · subst c
    obtain ⟨r1, s1, g1, e1, h1, x1, v1⟩ := ep_be h0 (by decide) vu0 v0
    obtain ⟨r2, s2, g2, e2, h2, x2, v2⟩ := ep_ne h1 (by decide) v1
    rw [ne_st] at v2
    obtain ⟨s3, e3, q3⟩ := ch_fin hr h2 v2 (fun j hj => (vn_ex x2 (vn_ex x1 (reg0 j hj))).2)
    refine ⟨s3, ?_, q3⟩
    rw [if_neg (show ¬ nI 4 = (0 : Int32) by decide), if_neg (show ¬ nI 4 = (1 : Int32) by decide), if_neg (show ¬ nI 4 = (2 : Int32) by decide), if_neg (show ¬ nI 4 = (3 : Int32) by decide), if_pos (show nI 4 = (4 : Int32) by decide), e1, bIS_some, e2, bIS_some]
    exact e3
  · subst c
    obtain ⟨r1, s1, g1, rt1, e1, h1, k1, -, -, v1⟩ := set_ok (it := u) cA (by decide) cA h0 (by decide) (by decide) hu rfl vu0 v0 (vF g0 g0i) v0
    rw [al_17 cA] at v1
    obtain ⟨r2, s2, g2, e2, h2, x2, v2⟩ := ep_ne h1 (by decide) v1
    rw [ne_st] at v2
    obtain ⟨s3, e3, q3⟩ := ch_fin hr h2 v2 (fun j hj => (vn_ex x2 (k1 j _ (by omega) (by omega) (by omega) (by omega) (reg0 j hj)).2).2)
    refine ⟨s3, ?_, q3⟩
    rw [if_neg (show ¬ nI 5 = (0 : Int32) by decide), if_neg (show ¬ nI 5 = (1 : Int32) by decide), if_neg (show ¬ nI 5 = (2 : Int32) by decide), if_neg (show ¬ nI 5 = (3 : Int32) by decide), if_neg (show ¬ nI 5 = (4 : Int32) by decide), if_pos (show nI 5 = (5 : Int32) by decide)]
    rw [nI_0] at e1
    rw [e1, bIS_some, e2, bIS_some]
    exact e3
  · subst c
    obtain ⟨r1, s1, g1, rt1, e1, h1, k1, -, -, v1⟩ := set_ok (it := u) (by decide) cA cA h0 (by decide) (by decide) hu rfl vu0 (vT g0 g0i) v0 v0
    rw [un_17 (by decide) cA] at v1
    obtain ⟨r2, s2, g2, e2, h2, x2, v2⟩ := ep_ne h1 (by decide) v1
    rw [ne_st] at v2
    obtain ⟨s3, e3, q3⟩ := ch_fin hr h2 v2 (fun j hj => (vn_ex x2 (k1 j _ (by omega) (by omega) (by omega) (by omega) (reg0 j hj)).2).2)
    refine ⟨s3, ?_, q3⟩
    rw [if_neg (show ¬ nI 6 = (0 : Int32) by decide), if_neg (show ¬ nI 6 = (1 : Int32) by decide), if_neg (show ¬ nI 6 = (2 : Int32) by decide), if_neg (show ¬ nI 6 = (3 : Int32) by decide), if_neg (show ¬ nI 6 = (4 : Int32) by decide), if_neg (show ¬ nI 6 = (5 : Int32) by decide), if_pos (show nI 6 = (6 : Int32) by decide)]
    rw [show nI 1 = (1 : Int32) from rfl] at e1
    rw [e1, bIS_some, e2, bIS_some]
    exact e3
  · subst c
    obtain ⟨r1, s1, g1, e1, h1, x1, v1⟩ := ep_ne h0 (by decide) vq0
    rw [ne_st] at v1
    obtain ⟨r2, s2, g2, rt2, e2, h2, k2, p2, w2, v2⟩ := set_ok (it := u) cB (by decide) cB h1 (by decide) (by decide) hu rfl (vn_ex x1 vu0) v1 (vF g1 (ep_g h1).2.2) v1
    rw [al_17 cB] at v2
    have reg2 : ∀ j, j < 16 → rt2 j = rt j ∧ vn_ g2 (rt2 j) (F j) := fun j hj => k2 j _ (by omega) (by omega) (by omega) (by omega) (vn_ex x1 (reg0 j hj))
    obtain ⟨s3, e3, h3⟩ := ep_hold h2 (p := 19) (by decide) v2.1
    have vp2 : vn_ g2 (rt p) (st_ A) := by
      have := (reg2 p hp).2
      rwa [(reg2 p hp).1, sp] at this
    have vq2 : vn_ g2 (rt q) (st_ B) := by
      have := (reg2 q hq).2
      rwa [(reg2 q hq).1, sq] at this
    obtain ⟨r4, s4, g4, e4, h4, x4, v4⟩ := ep_jo h3 (by decide) (op := 1) (by decide) vp2 vq2
    rw [op_nor] at v4
    have ut : (if u = 19 then r2 else rt2 u) = rt u := by rw [if_neg (by omega)]; exact (reg2 u hu).1
    have vu4 : vn_ g4 (rt u) (F u) := by
      have := vn_ex x4 (reg2 u hu).2
      rwa [(reg2 u hu).1] at this
    obtain ⟨r5, s5, g5, rt5, e5, h5, k5, -, -, v5⟩ := set_ok (it := u) cB cAB cAB h4 (by decide) (by decide) hu ut vu4 (vn_ex x4 w2) v4 v4
    rw [un_17 cB cAB] at v5
    have apart := k5 19 _ (by decide) (by decide) (by decide) (by decide) (by rw [if_pos rfl]; exact vn_ex x4 v2)
    rw [if_pos rfl] at apart
    have vr2 : vn_ g5 r2 (st_ (al_ (F u) 16 (cp_ B))) := by
      have := apart.2
      rwa [apart.1] at this
    obtain ⟨r6, s6, g6, e6, h6, x6, v6⟩ := ep_jo h5 (by decide) (op := 1) (by decide) vr2 v5
    rw [op_nor] at v6
    obtain ⟨s7, e7, q7⟩ := ch_fin hr h6 v6 (fun j hj => (vn_ex x6 (k5 j _ (by omega) (by omega) (by omega) (by omega) (by rw [if_neg (by omega)]; exact vn_ex x4 (reg2 j hj).2)).2).2)
    refine ⟨s7, ?_, q7⟩
    rw [if_neg (show ¬ nI 7 = (0 : Int32) by decide), if_neg (show ¬ nI 7 = (1 : Int32) by decide), if_neg (show ¬ nI 7 = (2 : Int32) by decide), if_neg (show ¬ nI 7 = (3 : Int32) by decide), if_neg (show ¬ nI 7 = (4 : Int32) by decide), if_neg (show ¬ nI 7 = (5 : Int32) by decide), if_neg (show ¬ nI 7 = (6 : Int32) by decide), e1, bIS_some]
    rw [nI_0] at e2
    rw [e2, bIS_some, show (19 : Int32) = nI 19 from rfl, e3, bS_some, i1, e4, bIS_some, e5, bIS_some, e6, bIS_some]
    exact e7
theorem chk_ok {F : Nat → mb_F} {o : Nat → Nat} (hx : cx_ s F o) (hm : mo_ t F o) {r u k p q : Nat} (hr : r < 16) (hu : u < 16) (hk : k < 8) (hp : p < 16) (hq : q < 16) (ep : ev_ (F p)) (eq : ev_ (F q)) : ∃ x s' t', fx_check s (nI r) (nI u) (nI k) (nI p) (nI q) = some (x, s') ∧ fm_check t (nI r) (nI u) (nI k) (nI p) (nI q) = some (x, t') ∧ sy_ s' t' ∧ t'.1 9 0 = 0 := by
  obtain ⟨lev, g, rt, hh⟩ := id hx
  have fu := rd_on hh hu
  have fp := rd_on hh hp
  have fq := rd_on hh hq
  obtain ⟨s2, e2, q2⟩ := ck_x hh hr hu hk hp hq ep eq
  obtain ⟨t1, a1, m1, z1, l1⟩ := lea_ok hu fu (z0_mo hm)
  have a2 := sto_ok hp m1 fp
  have a3 := sto_ok hq m1 fq
  obtain ⟨a4, lt⟩ := fo_ok l1 hk (sz_lt (F p)) (sz_lt (F q))
  obtain ⟨t2, a5, m2, z2⟩ := kes_ok m1 hr lt
  have a6 := siz_ok lt
  refine ⟨_, s2, t2, e2, ?_, ⟨_, o, q2, m2⟩, by rw [z2, z1]; exact z0_c t⟩
  rw [fm_check, mir_ok hr, bI_some, jn_, jn_, if_neg one_ne, mir_ok hu, bI_some, if_neg one_ne, mir_ok hp, bI_some, if_neg one_ne, mir_ok hq, bI_some, if_neg one_ne, show fm_in (nI k) (0 : Int32) (7 : Int32) = some 1 from min_ok (b := 0) (c := 7) (Nat.zero_le _) (by omega) (by decide), bI_some, if_neg one_ne, (iss_ok hm hp fp).1 ep, bI_some, jn_, if_neg one_ne, (iss_ok hm hq fq).1 eq, bI_some, if_neg one_ne]
  show sp_T t 0 (0 : Int32) _ = _
  rw [sp_T]
  show (if (z0_ t).1 9 0 ≤ (0 : Int32) then b_T (fm_learnSteps (z0_ t) (nI u)) (fun t86 => b_I (fm_statesOf t86 (nI p)) fun r94 => b_I (fm_statesOf t86 (nI q)) fun r100 => b_I (fm_formulaOf t86 (nI k) r94 r100) fun r103 => b_T (fm_keepStates t86 (nI r) r103) fun t112 => b_I (fm_sizeOf r103) fun r117 => some (r117, t112)) else _) = _
  rw [if_pos (by rw [z0_c]; decide), a1, bT_some, a2, bI_some, a3, bI_some, a4, bI_some, a5, bT_some, a6, bI_some]
  rfl
end CK
