/-! image, reach, check: class and reference side by side. My own. -/
theorem dv16 : ∀ p, p ≤ 16 → nI (16 * p) / (16 : Int32) = nI p := by decide +kernel
section IR
variable {s : wt_S} {t : wt_M}
theorem ns_x {lev o : Nat → Nat} {g : gh_} {rt : Nat → Nat} {F : Nat → mb_F} (h : rd0_ s lev o g rt F) {a : Nat} (ha : a < 16) (he : ev_ (F a)) : fx_needSet s (nI a) = some () := by
  obtain ⟨ka, fa⟩ := rd_gk h ha
  obtain ⟨S, s1, s2⟩ := sp_ok h.1.1 h.1.2.1 h.1.2.2.1 9 0 (rt a) ka (Nat.zero_le _) (by omega)
  rw [nI_0] at s2
  rw [fa] at s1
  unfold fx_needSet
  rw [ro_ok h.1 (by omega), bI_some, s2, bI_some, if_pos ((su_ev s1).mpr he)]
theorem sts_x {lev o : Nat → Nat} {g : gh_} {rt : Nat → Nat} {F : Nat → mb_F} (h : rd0_ s lev o g rt F) {r Z : Nat} (hr : r < 16) (hf : F r = st_ Z) : fx_states s (nI r) = some (nI (pp_ Z)) := by
  obtain ⟨kr, fr⟩ := rd_gk h hr
  have w := we_ok h.1.1 h.1.2.1 h.1.2.2.1 9 0 (rt r) kr (Nat.zero_le _) (by omega)
  rw [nI_0] at w
  unfold fx_states
  rw [ro_ok h.1 (by omega), bI_some, w, bI_some, fr, hf, st_wt]
  exact congrArg some (dv16 _ (pp_16 Z))
theorem vn_rt {lev o : Nat → Nat} {g : gh_} {rt : Nat → Nat} {F : Nat → mb_F} (h : rd0_ s lev o g rt F) {i : Nat} (hi : i < 16) : vn_ g (rt i) (F i) := rd_gk h hi
theorem im_ok {F : Nat → mb_F} {o : Nat → Nat} (hx : cx_ s F o) (hm : mo_ t F o) {r u a : Nat} (hr : r < 16) (hu : u < 16) (ha : a < 16) (hev : ev_ (F a)) : ∃ x s' t', fx_image s (nI r) (nI u) (nI a) = some (x, s') ∧ fm_image t (nI r) (nI u) (nI a) = some (x, t') ∧ sy_ s' t' ∧ t'.1 9 0 = 0 := by
  obtain ⟨lev, g, rt, hh⟩ := id hx
  have fu := rd_on hh hu
  have fa := rd_on hh ha
  have sa : F a = st_ (sz_ (F a)) := sz_st fa hev
  have va : vn_ g (rt a) (st_ (sz_ (F a))) := by rw [← sa]; exact vn_rt hh ha
  obtain ⟨x, s1, g1, e1, h1, x1, v1⟩ := ep_af (ep_rs hh.1) (by decide) (vn_rt hh hu) va
  obtain ⟨s2, g2, rt2, e2, h2⟩ := ep_keep h1 hr v1 (F := F) (fun i hi => by
    have := vn_ex x1 (vn_rt hh hi)
    exact this.2)
  obtain ⟨t1, a1, m1, z1, l1⟩ := lea_ok hu fu (z0_mo hm)
  have a2 := sto_ok ha m1 fa
  have a3 := imo_ok l1 (sz_lt (F a))
  obtain ⟨t2, a4, m2, z2⟩ := kes_ok m1 hr (im_lt (F u) (sz_ (F a)))
  have a5 := siz_ok (im_lt (F u) (sz_ (F a)))
  refine ⟨nI (pp_ (im_ (F u) (sz_ (F a)))), s2, t2, ?_, ?_, ⟨_, o, ⟨lev, g2, rt2, h2⟩, m2⟩, by rw [z2, z1]; exact z0_c t⟩
  · unfold fx_image
    rw [nr_ok hr, bU_some, nr_ok hu, bU_some, nr_ok ha, bU_some, ns_x hh ha hev, bU_some, ro_ok hh.1 (by omega), bI_some, ro_ok hh.1 (by omega), bI_some, e1, bIS_some, e2, bS_some, sts_x h2 hr (by rw [if_pos rfl]), bI_some]
  · rw [fm_image, mir_ok hr, bI_some, jn_, jn_, if_neg one_ne, mir_ok hu, bI_some, if_neg one_ne, mir_ok ha, bI_some, if_neg one_ne, (iss_ok hm ha fa).1 hev, bI_some, if_neg one_ne]
    show sp_T t 0 (0 : Int32) _ = _
    rw [sp_T]
    show (if (z0_ t).1 9 0 ≤ (0 : Int32) then b_T (fm_learnSteps (z0_ t) (nI u)) (fun t53 => b_I (fm_statesOf t53 (nI a)) fun r59 => b_I (fm_imageOf t53 r59) fun r62 => b_T (fm_keepStates t53 (nI r) r62) fun t71 => b_I (fm_sizeOf r62) fun r76 => some (r76, t71)) else _) = _
    rw [if_pos (by rw [z0_c]; decide), a1, bT_some, a2, bI_some, a3, bI_some, a4, bT_some, a5, bI_some]
    rfl
theorem rch_im {f : mb_F} {Z : Nat} (hZ : Z < 65536) : (nI (im_ f Z) &&& (nI Z ^^^ (-1 : Int32))) = 0 ↔ Z ||| im_ f Z = Z := by
  have hi := im_lt f Z
  have key : nI (im_ f Z) &&& (nI Z ^^^ (-1 : Int32)) = nI (im_ f Z &&& cp_ Z) := by
    rw [show (-1 : Int32) = nI 4294967295 from by decide, nI_xor, nI_and]
    congr 1
    refine bx_ext (n := 16) (an_lt hi) (an_lt hi) fun i hi => ?_
    rw [Nat.testBit_and, Nat.testBit_and, cp_bit Z hi, Nat.testBit_xor]
    have : ∀ j, j < 16 → (4294967295 : Nat).testBit j = true := by decide
    rw [this i hi, Bool.xor_true]
  rw [key]
  have lt := an_lt (B := cp_ Z) hi
  constructor
  · intro e
    have e0 : im_ f Z &&& cp_ Z = 0 := nI_inj (by omega) (by decide) (e.trans nI_0.symm)
    refine bx_ext (n := 16) (or_lt hZ hi) hZ fun i hi => ?_
    have := congrArg (fun m => m.testBit i) e0
    simp only [Nat.testBit_and, Nat.zero_testBit, cp_bit Z hi] at this
    rw [Nat.testBit_or]
    revert this
    cases Z.testBit i <;> cases (im_ f Z).testBit i <;> simp
  · intro e
    have e0 : im_ f Z &&& cp_ Z = 0 := bx_ext (n := 16) lt (by decide) fun i hi => by
      have := congrArg (fun m => m.testBit i) e
      simp only [Nat.testBit_or] at this
      rw [Nat.testBit_and, cp_bit Z hi, Nat.zero_testBit]
      revert this
      cases Z.testBit i <;> cases (im_ f Z).testBit i <;> simp
    rw [e0]
    exact nI_0
theorem re_loop {lev o : Nat → Nat} {f : mb_F} {u : Nat} {F : Nat → mb_F} (hl : lt_ t f) (c1 d1 : Int32) (Kx : Int32 → Int32 → wt_S → Option (Int32 × wt_S)) (Km : Int32 → Int32 → Option (Int32 × wt_M)) : ∀ (d n m i z Z : Nat) (s : wt_S) (g : gh_) (rt : Nat → Nat) (k it : Nat), i + d = 16 → d < n → d < m → k + 249 ≤ 1791 → Z < 65536 → i ≤ pp_ Z → ep_ s lev o g rt k → it < 16 → rt it = u → vn_ g u f → vn_ g z (st_ Z) → (∀ j, j < 16 → g.2.2.2 (rt j) = F j) →
    ∃ (z' Z' i' k' : Nat) (s' : wt_S) (g' : gh_) (rt' : Nat → Nat), fx_reach_L43 c1 (nI u) Kx n (nI z) (nI i) (nI i) s = Kx (nI z') (nI i') s' ∧ fm_reach_L66 t d1 Km m (nI Z) (nI i) = Km (nI Z') (nI i') ∧ Z' < 65536 ∧ ep_ s' lev o g' rt' k' ∧ vn_ g' z' (st_ Z') ∧ ∀ j, j < 16 → g'.2.2.2 (rt' j) = F j := by
  intro d
  induction d with
  | zero =>
    intro n m i z Z s g rt k it h1 hn hm hk hZ hp he hit hu vu vz hF
    cases n with
    | zero => omega
    | succ n =>
      cases m with
      | zero => omega
      | succ m =>
        have full : Z ||| im_ f Z = Z := by
          apply Classical.byContradiction
          intro c
          have := pp_lt hZ (or_lt hZ (im_lt f Z)) (fun i hi q => by rw [Nat.testBit_or, q]; rfl) (fun e => c e.symm)
          have := pp_16 (Z ||| im_ f Z)
          omega
        have e : i = 16 := by omega
        subst e
        refine ⟨z, Z, 16, k, s, g, rt, ?_, ?_, hZ, he, vz, hF⟩
        · rw [fx_reach_L43, if_pos t16]
        · rw [fm_reach_L66, imo_ok hl hZ, bI_some, if_pos ((rch_im hZ).mpr full)]
  | succ d ih =>
    intro n m i z Z s g rt k it h1 hn hm hk hZ hp he hit hu vu vz hF
    cases n with
    | zero => omega
    | succ n =>
      cases m with
      | zero => omega
      | succ m =>
        obtain ⟨r1, s1, g1, e1, h1', x1, v1⟩ := ep_af he (by omega) vu vz
        obtain ⟨r2, s2, g2, e2, h2, x2, v2⟩ := ep_jo h1' (by omega) (op := 14) (by decide) (vn_ex x1 vz) v1
        rw [op_or] at v2
        have x12 := ex_tr x1 x2
        have vz2 := vn_ex x12 vz
        have iff := vn_eq h2 v2 vz2
        have r31 : r2 < 2 ^ 31 := Nat.lt_trans v2.1.1 (by decide)
        have z31 : z < 2 ^ 31 := Nat.lt_trans vz.1.1 (by decide)
        have oi : Z ||| im_ f Z < 65536 := or_lt hZ (im_lt f Z)
        by_cases c : Z ||| im_ f Z = Z
        · refine ⟨z, Z, i, _, s2, g2, rt, ?_, ?_, hZ, h2, vz2, fun j hj => ?_⟩
          · rw [fx_reach_L43, if_neg (n16 (by omega)), e1, bIS_some, show (14 : Int32) = nI 14 from rfl, e2, bIS_some, if_pos (congrArg nI (iff.mpr (by rw [c])))]
          · rw [fm_reach_L66, imo_ok hl hZ, bI_some, if_pos ((rch_im hZ).mpr c)]
          · have := vn_ex x12 (show vn_ g (rt j) (F j) from ⟨(he.2.1 j (by omega)).2, hF j hj⟩)
            exact this.2
        · obtain ⟨s4, e4, h4⟩ := ep_hold h2 (p := 18) (by decide) v2.1
          obtain ⟨s5, g5, e5, h5, h5g, h5v⟩ := ep_col h4
          have pl := pp_lt hZ oi (fun i hi q => by rw [Nat.testBit_or, q]; rfl) (fun e => c e.symm)
          have old : ∀ j q, j < 16 → vn_ g (rt j) q → vn_ g5 (if j = 18 then r2 else rt j) q := fun j q hj hv => by
            exact h5v j q (by omega) (by rw [if_neg (by omega)]; exact vn_ex x12 hv)
          have ue : (if it = 18 then r2 else rt it) = u := by rw [if_neg (by omega)]; exact hu
          obtain ⟨z', Z', i', k', s', g', rt', a1, a2, a3⟩ := ih n m (i + 1) r2 (Z ||| im_ f Z) s5 g5 (fun i => if i = 18 then r2 else rt i) 620 it (by omega) (by omega) (by omega) (by decide) oi (by omega) (ep_rs h5) hit ue (by
            have := old it f hit (by rw [hu]; exact vu)
            rwa [ue] at this) (by
            have := h5v 18 _ (by decide) (by rw [if_pos rfl]; exact v2)
            rwa [if_pos rfl] at this) (fun j hj => (old j (F j) hj ⟨(he.2.1 j (by omega)).2, hF j hj⟩).2)
          refine ⟨z', Z', i', k', s', g', rt', ?_, ?_, a3⟩
          · rw [fx_reach_L43, if_neg (n16 (by omega)), e1, bIS_some, show (14 : Int32) = nI 14 from rfl, e2, bIS_some, if_neg (fun e => c (st_inj oi hZ (iff.mp (nI_inj r31 z31 e)))), show (18 : Int32) = nI 18 from rfl, e4, bS_some, e5, bS_some, nI_1]
            exact a1
          · rw [fm_reach_L66, imo_ok hl hZ, bI_some, if_neg (fun e => c ((rch_im hZ).mp e)), bI_some, nI_or, nI_1]
            exact a2
theorem re_ok {F : Nat → mb_F} {o : Nat → Nat} (hx : cx_ s F o) (hm : mo_ t F o) {r u a : Nat} (hr : r < 16) (hu : u < 16) (ha : a < 16) (hev : ev_ (F a)) : ∃ x s' t', fx_reach s (nI r) (nI u) (nI a) = some (x, s') ∧ fm_reach t (nI r) (nI u) (nI a) = some (x, t') ∧ sy_ s' t' ∧ t'.1 9 0 = 0 := by
  obtain ⟨lev, g, rt, hh⟩ := id hx
  have fu := rd_on hh hu
  have fa := rd_on hh ha
  have sa : F a = st_ (sz_ (F a)) := sz_st fa hev
  have va : vn_ g (rt a) (st_ (sz_ (F a))) := by rw [← sa]; exact vn_rt hh ha
  obtain ⟨t1, a1, m1, z1, l1⟩ := lea_ok hu fu (z0_mo hm)
  have a2 := sto_ok ha m1 fa
  obtain ⟨z', Z', i', k', s1, g1, rt1, b1, b2, b3, b4, b5, b6⟩ := re_loop l1 (nI r) (nI r) (fun (z5_43 : Int32) (z6_43 : Int32) (s_43 : wt_S) => b_S (fd_keep s_43 (nI r) z5_43) fun s120 => some (z6_43, s120)) (fun (z4_66 : Int32) (z5_66 : Int32) => b_T (fm_keepStates t1 (nI r) z4_66) fun t101 => some (z5_66, t101)) 16 5000 5000 0 (rt a) (sz_ (F a)) s g rt 620 u (by omega) (by omega) (by omega) (by decide) (sz_lt _) (Nat.zero_le _) (ep_rs hh.1) hu rfl (vn_rt hh hu) va (fun j hj => (vn_rt hh hj).2)
  obtain ⟨s2, g2, rt2, e2, h2⟩ := ep_keep b4 hr b5 b6
  obtain ⟨t2, a4, m2, z2⟩ := kes_ok m1 hr b3
  refine ⟨nI i', s2, t2, ?_, ?_, ⟨_, o, ⟨lev, g2, rt2, h2⟩, m2⟩, by rw [z2, z1]; exact z0_c t⟩
  · unfold fx_reach
    rw [nr_ok hr, bU_some, nr_ok hu, bU_some, nr_ok ha, bU_some, ns_x hh ha hev, bU_some, ro_ok hh.1 (by omega), bI_some, ro_ok hh.1 (by omega), bI_some]
    rw [nI_0] at b1
    refine b1.trans ?_
    show b_S (fd_keep s1 (nI r) (nI z')) _ = _
    rw [e2, bS_some]
  · rw [fm_reach, mir_ok hr, bI_some, jn_, jn_, if_neg one_ne, mir_ok hu, bI_some, if_neg one_ne, mir_ok ha, bI_some, if_neg one_ne, (iss_ok hm ha fa).1 hev, bI_some, if_neg one_ne]
    show sp_T t 0 (0 : Int32) _ = _
    rw [sp_T]
    show (if (z0_ t).1 9 0 ≤ (0 : Int32) then b_T (fm_learnSteps (z0_ t) (nI u)) (fun t53 => b_I (fm_statesOf t53 (nI a)) fun r58 => fm_reach_L66 t53 (nI r) (fun (z4_66 : Int32) (z5_66 : Int32) => b_T (fm_keepStates t53 (nI r) z4_66) fun t101 => some (z5_66, t101)) 5000 r58 (0 : Int32)) else _) = _
    rw [if_pos (by rw [z0_c]; decide), a1, bT_some, a2, bI_some]
    rw [nI_0] at b2
    refine b2.trans ?_
    show b_T (fm_keepStates t1 (nI r) (nI Z')) _ = _
    rw [a4, bT_some]
end IR
