/-! Every call, with any arguments: class and reference side by side. Printed by wip/gen/step.py. My own. -/
def zc_ (t : wt_M) (k : Int32) : wt_M := (pu_S t.1 9 0 k, t.2)
theorem zc_mo {t : wt_M} {F : Nat → mb_F} {o : Nat → Nat} (k : Int32) (h : mo_ t F o) : mo_ (zc_ t k) F o := ⟨fun r hr x hx => h.1 r hr x hx, fun j hj => by show pu_S t.1 9 0 k 0 j = _; rw [pu_row (by decide)]; exact h.2.1 j hj, fun v hv => h.2.2 v hv⟩
theorem zc_c (t : wt_M) (k : Int32) : (zc_ t k).1 9 0 = k := by
  show pu_S t.1 9 0 k 9 0 = k
  exact pu_eq _ _ _ _
theorem zc_sy {s : wt_S} {t : wt_M} (k : Int32) (h : sy_ s t) : sy_ s (zc_ t k) := by
  obtain ⟨F, o, hx, hm⟩ := h
  exact ⟨F, o, hx, zc_mo k hm⟩
theorem ne_21 : ¬ (2 : Int32) = 0 := by decide
theorem ne_31 : ¬ (3 : Int32) = 0 := by decide
theorem le_11 : ¬ (1 : Int32) ≤ 0 := by decide
theorem le_21 : ¬ (2 : Int32) ≤ 0 := by decide
theorem le_31 : ¬ (3 : Int32) ≤ 0 := by decide
theorem i_nn {x : Int32} (h : ¬ x < 0) : ∃ r : Nat, r < 2 ^ 31 ∧ x = nI r := by
  have h0 : 0 ≤ x.toInt := by
    have := mt Int32.lt_iff_toInt_lt.mpr h
    have e : (0 : Int32).toInt = 0 := by decide
    omega
  have h1 := Int32.toInt_lt x
  refine ⟨x.toInt.toNat, by omega, ?_⟩
  apply Int32.toInt_inj.mp
  rw [nI_toInt (by omega)]
  omega
theorem in_bad {x : Int32} {n : Nat} (hn : 0 < n) (hn2 : n < 2 ^ 31) (h : x < 0 ∨ ¬ x < nI n) : fm_in x 0 (nI (n - 1)) = some 0 := by
  unfold fm_in
  dsimp only [jn_]
  rcases h with h | h
  · rw [if_pos h]; exact rz_b false _
  · by_cases c : x < 0
    · rw [if_pos c]; exact rz_b false _
    · rw [if_neg c]
      obtain ⟨r, hr, rfl⟩ := i_nn c
      have : ¬ r < n := fun z => h (nI_lt z hn2)
      rw [if_pos (nI_lt (by omega) hr)]; exact rz_b false _
theorem be_c (n : Nat) (hn : 0 < n) (hn2 : n < 2 ^ 31) (x : Int32) : (∃ r, r < n ∧ x = nI r) ∨ (fx_needBelow x (nI n) = none ∧ fm_in x 0 (nI (n - 1)) = some 0) := by
  by_cases c : x < 0
  · refine Or.inr ⟨?_, in_bad hn hn2 (Or.inl c)⟩
    unfold fx_needBelow
    dsimp only [jn_]
    rw [if_pos c]
  · by_cases d : x < nI n
    · obtain ⟨r, hr, rfl⟩ := i_nn c
      refine Or.inl ⟨r, ?_, rfl⟩
      exact Nat.lt_of_not_le fun z => nI_nlt z hr d
    · refine Or.inr ⟨?_, in_bad hn hn2 (Or.inr d)⟩
      unfold fx_needBelow
      dsimp only [jn_]
      rw [if_neg c, if_neg d]
theorem le_c (n : Nat) (hn : 0 < n) (hn2 : n < 2 ^ 31) (x : Int32) : (∃ r, r < n ∧ x = nI r) ∨ (fx_needLevel x (nI n) = none ∧ fm_in x 0 (nI (n - 1)) = some 0) := be_c n hn hn2 x
theorem rg_c (x : Int32) : (∃ r, r < 16 ∧ x = nI r) ∨ (fx_needRegister x = none ∧ fm_isRegister x = some 0) := by
  rcases be_c 16 (by decide) (by decide) x with h | ⟨h1, h2⟩
  · exact Or.inl h
  · refine Or.inr ⟨h1, ?_⟩
    unfold fm_isRegister
    rw [show (15 : Int32) = nI (16 - 1) from rfl, h2, bI_some]
    exact rz_b false _
theorem vr_c (x : Int32) : (∃ r, r < 8 ∧ x = nI r) ∨ (fx_needVariable x = none ∧ fm_isVariable x = some 0) := by
  rcases be_c 8 (by decide) (by decide) x with h | ⟨h1, h2⟩
  · exact Or.inl h
  · refine Or.inr ⟨h1, ?_⟩
    unfold fm_isVariable
    rw [show (7 : Int32) = nI (8 - 1) from rfl, h2, bI_some]
    exact rz_b false _
def fy_needSet (s : wt_S) (a1 : Int32) : Option (Unit) :=
  b_I (fd_root s a1) fun r9 =>
    b_I (fd_support 9 s r9 (0 : Int32)) fun r13 =>
    if (r13 &&& (170 : Int32)) = (0 : Int32) then
      none
    else
      some ()
theorem ns_no {s : wt_S} {lev o : Nat → Nat} {g : gh_} {rt : Nat → Nat} {F : Nat → mb_F} (h : rd0_ s lev o g rt F) {a : Nat} (ha : a < 16) (he : ¬ ev_ (F a)) : fy_needSet s (nI a) = some () := by
  obtain ⟨ka, fa⟩ := rd_gk h ha
  obtain ⟨S, s1, s2⟩ := sp_ok h.1.1 h.1.2.1 h.1.2.2.1 9 0 (rt a) ka (Nat.zero_le _) (by omega)
  rw [nI_0] at s2
  rw [fa] at s1
  unfold fy_needSet
  rw [ro_ok h.1 (by omega), bI_some, s2, bI_some, if_neg (fun z => he ((su_ev s1).mp z))]
theorem rz0_ {β : Type} (f : Option β) : rz_ (0 : Int32) f = f := by
  unfold rz_
  rw [if_pos (by decide)]
section ST
variable {s : wt_S} {t : wt_M}
def tk_variable (a0 : Int32) (a1 : Int32) (k : Nat) : Prop := (fx_needRegister a0 = none ∧ k = 1) ∨ (fx_needRegister a0 = some () ∧ fx_needVariable a1 = none ∧ k = 1)
set_option maxHeartbeats 2000000 in
theorem sp_variable (h : sy_ s t) (a0 : Int32) (a1 : Int32)  : (∃ s2 t2, fx_variable s a0 a1 = some s2 ∧ fm_variable t a0 a1 = some t2 ∧ sy_ s2 t2 ∧ t2.1 9 0 = 0) ∨ (∃ k t2, tk_variable a0 a1 k ∧ fm_variable t a0 a1 = some t2 ∧ sy_ s t2 ∧ t2.1 9 0 = nI k ∧ 0 < k ∧ k < 4) := by
  obtain ⟨F, o, hx, hm⟩ := id h
  obtain ⟨lev, g, rt, hh⟩ := id hx
  rcases rg_c a0 with ⟨r0, h0, rfl⟩ | ⟨c0, n0⟩
  rotate_left
  · have c0x := c0
    refine Or.inr ⟨1, zc_ t 1, Or.inl ⟨c0, rfl⟩, ?_, zc_sy 1 h, zc_c t 1, by decide, by decide⟩
    rw [fm_variable, n0, bI_some, jn_, jn_, if_pos rfl]
    show sp_T t 0 (1 : Int32) _ = _
    rw [sp_T]
    show jn_ _ _ = _
    rw [jn_]
    show (if pu_S t.1 9 0 1 9 0 = (0 : Int32) then _ else some (zc_ t 1)) = _
    rw [if_neg (by rw [pu_eq]; exact one_ne)]
  rcases vr_c a1 with ⟨r1, h1, rfl⟩ | ⟨c1, n1⟩
  rotate_left
  · have c1x := c1
    refine Or.inr ⟨1, zc_ t 1, Or.inr (⟨(nr_ok h0), c1, rfl⟩), ?_, zc_sy 1 h, zc_c t 1, by decide, by decide⟩
    rw [fm_variable, mir_ok h0, bI_some, jn_, jn_, if_neg one_ne, n1, bI_some, if_pos rfl]
    show sp_T t 0 (1 : Int32) _ = _
    rw [sp_T]
    show jn_ _ _ = _
    rw [jn_]
    show (if pu_S t.1 9 0 1 9 0 = (0 : Int32) then _ else some (zc_ t 1)) = _
    rw [if_neg (by rw [pu_eq]; exact one_ne)]
  refine Or.inl ?_
  obtain ⟨s2, g2, rt2, e, hq⟩ := xv_ok hh h0 h1
  obtain ⟨t2, e2, m2, z2⟩ := xv_m hm h0 h1
  exact ⟨s2, t2, e, e2, ⟨_, o, ⟨lev, g2, rt2, hq⟩, m2⟩, z2⟩
def tk_constant (a0 : Int32) (k : Nat) : Prop := (fx_needRegister a0 = none ∧ k = 1)
set_option maxHeartbeats 2000000 in
theorem sp_constant (h : sy_ s t) (a0 : Int32) (b1 : Bool) : (∃ s2 t2, fx_constant s a0 (nI b1.toNat) = some s2 ∧ fm_constant t a0 (nI b1.toNat) = some t2 ∧ sy_ s2 t2 ∧ t2.1 9 0 = 0) ∨ (∃ k t2, tk_constant a0 k ∧ fm_constant t a0 (nI b1.toNat) = some t2 ∧ sy_ s t2 ∧ t2.1 9 0 = nI k ∧ 0 < k ∧ k < 4) := by
  obtain ⟨F, o, hx, hm⟩ := id h
  obtain ⟨lev, g, rt, hh⟩ := id hx
  rcases rg_c a0 with ⟨r0, h0, rfl⟩ | ⟨c0, n0⟩
  rotate_left
  · have c0x := c0
    refine Or.inr ⟨1, zc_ t 1, ⟨c0, rfl⟩, ?_, zc_sy 1 h, zc_c t 1, by decide, by decide⟩
    rw [fm_constant, n0, bI_some, jn_, if_pos rfl]
    show sp_T t 0 (1 : Int32) _ = _
    rw [sp_T]
    show jn_ _ _ = _
    rw [jn_]
    show (if pu_S t.1 9 0 1 9 0 = (0 : Int32) then _ else some (zc_ t 1)) = _
    rw [if_neg (by rw [pu_eq]; exact one_ne)]
  refine Or.inl ?_
  obtain ⟨s2, g2, rt2, e, hq⟩ := xc_ok hh h0 b1
  obtain ⟨t2, e2, m2, z2⟩ := xc_m hm h0 b1
  exact ⟨s2, t2, e, e2, ⟨_, o, ⟨lev, g2, rt2, hq⟩, m2⟩, z2⟩
def tk_apply (a0 : Int32) (a1 : Int32) (a2 : Int32) (a3 : Int32) (k : Nat) : Prop := (fx_needRegister a0 = none ∧ k = 1) ∨ (fx_needRegister a0 = some () ∧ fx_needRegister a2 = none ∧ k = 1) ∨ (fx_needRegister a0 = some () ∧ fx_needRegister a2 = some () ∧ fx_needRegister a3 = none ∧ k = 1) ∨ (fx_needRegister a0 = some () ∧ fx_needRegister a2 = some () ∧ fx_needRegister a3 = some () ∧ fx_needBelow a1 (16 : Int32) = none ∧ k = 2)
set_option maxHeartbeats 2000000 in
theorem sp_apply (h : sy_ s t) (a0 : Int32) (a1 : Int32) (a2 : Int32) (a3 : Int32)  : (∃ s2 t2, fx_apply s a0 a1 a2 a3 = some s2 ∧ fm_apply t a0 a1 a2 a3 = some t2 ∧ sy_ s2 t2 ∧ t2.1 9 0 = 0) ∨ (∃ k t2, tk_apply a0 a1 a2 a3 k ∧ fm_apply t a0 a1 a2 a3 = some t2 ∧ sy_ s t2 ∧ t2.1 9 0 = nI k ∧ 0 < k ∧ k < 4) := by
  obtain ⟨F, o, hx, hm⟩ := id h
  obtain ⟨lev, g, rt, hh⟩ := id hx
  rcases rg_c a0 with ⟨r0, h0, rfl⟩ | ⟨c0, n0⟩
  rotate_left
  · have c0x := c0
    refine Or.inr ⟨1, zc_ t 1, Or.inl ⟨c0, rfl⟩, ?_, zc_sy 1 h, zc_c t 1, by decide, by decide⟩
    unfold fm_apply
    generalize hN : 5000 = N
    simp -implicitDefEqProofs only [jn_, sp_T, bI_some, pu_eq, n0, one_ne, ne_21, ne_31, le_11, le_21, le_31, if_true, if_false, reduceIte, rz0_]
    rfl
  rcases rg_c a2 with ⟨r2, h2, rfl⟩ | ⟨c2, n2⟩
  rotate_left
  · have c2x := c2
    refine Or.inr ⟨1, zc_ t 1, Or.inr (Or.inl ⟨(nr_ok h0), c2, rfl⟩), ?_, zc_sy 1 h, zc_c t 1, by decide, by decide⟩
    unfold fm_apply
    generalize hN : 5000 = N
    simp -implicitDefEqProofs only [jn_, sp_T, bI_some, pu_eq, mir_ok h0, n2, one_ne, ne_21, ne_31, le_11, le_21, le_31, if_true, if_false, reduceIte, rz0_]
    rfl
  rcases rg_c a3 with ⟨r3, h3, rfl⟩ | ⟨c3, n3⟩
  rotate_left
  · have c3x := c3
    refine Or.inr ⟨1, zc_ t 1, Or.inr (Or.inr (Or.inl ⟨(nr_ok h0), (nr_ok h2), c3, rfl⟩)), ?_, zc_sy 1 h, zc_c t 1, by decide, by decide⟩
    unfold fm_apply
    generalize hN : 5000 = N
    simp -implicitDefEqProofs only [jn_, sp_T, bI_some, pu_eq, mir_ok h0, mir_ok h2, n3, one_ne, ne_21, ne_31, le_11, le_21, le_31, if_true, if_false, reduceIte, rz0_]
    rfl
  rcases be_c 16 (by decide) (by decide) a1 with ⟨r1, h1, rfl⟩ | ⟨c1, n1⟩
  rotate_left
  · have c1x := c1
    have n1 : fm_in a1 (0 : Int32) (15 : Int32) = some 0 := n1
    refine Or.inr ⟨2, zc_ t 2, Or.inr (Or.inr (Or.inr (⟨(nr_ok h0), (nr_ok h2), (nr_ok h3), c1, rfl⟩))), ?_, zc_sy 2 h, zc_c t 2, by decide, by decide⟩
    unfold fm_apply
    generalize hN : 5000 = N
    simp -implicitDefEqProofs only [jn_, sp_T, bI_some, pu_eq, mir_ok h0, mir_ok h2, mir_ok h3, n1, one_ne, ne_21, ne_31, le_11, le_21, le_31, if_true, if_false, reduceIte, rz0_]
    rfl
  refine Or.inl ?_
  obtain ⟨s2, g2, rt2, e, hq⟩ := xa_ok hh h0 h1 h2 h3
  obtain ⟨t2, e2, m2, z2⟩ := xa_m hm h0 h1 h2 h3
  exact ⟨s2, t2, e, e2, ⟨_, o, ⟨lev, g2, rt2, hq⟩, m2⟩, z2⟩
def tk_choose (a0 : Int32) (a1 : Int32) (a2 : Int32) (a3 : Int32) (k : Nat) : Prop := (fx_needRegister a0 = none ∧ k = 1) ∨ (fx_needRegister a0 = some () ∧ fx_needRegister a1 = none ∧ k = 1) ∨ (fx_needRegister a0 = some () ∧ fx_needRegister a1 = some () ∧ fx_needRegister a2 = none ∧ k = 1) ∨ (fx_needRegister a0 = some () ∧ fx_needRegister a1 = some () ∧ fx_needRegister a2 = some () ∧ fx_needRegister a3 = none ∧ k = 1)
set_option maxHeartbeats 2000000 in
theorem sp_choose (h : sy_ s t) (a0 : Int32) (a1 : Int32) (a2 : Int32) (a3 : Int32)  : (∃ s2 t2, fx_choose s a0 a1 a2 a3 = some s2 ∧ fm_choose t a0 a1 a2 a3 = some t2 ∧ sy_ s2 t2 ∧ t2.1 9 0 = 0) ∨ (∃ k t2, tk_choose a0 a1 a2 a3 k ∧ fm_choose t a0 a1 a2 a3 = some t2 ∧ sy_ s t2 ∧ t2.1 9 0 = nI k ∧ 0 < k ∧ k < 4) := by
  obtain ⟨F, o, hx, hm⟩ := id h
  obtain ⟨lev, g, rt, hh⟩ := id hx
  rcases rg_c a0 with ⟨r0, h0, rfl⟩ | ⟨c0, n0⟩
  rotate_left
  · have c0x := c0
    refine Or.inr ⟨1, zc_ t 1, Or.inl ⟨c0, rfl⟩, ?_, zc_sy 1 h, zc_c t 1, by decide, by decide⟩
    unfold fm_choose
    generalize hN : 5000 = N
    simp -implicitDefEqProofs only [jn_, sp_T, bI_some, pu_eq, n0, one_ne, ne_21, ne_31, le_11, le_21, le_31, if_true, if_false, reduceIte, rz0_]
    rfl
  rcases rg_c a1 with ⟨r1, h1, rfl⟩ | ⟨c1, n1⟩
  rotate_left
  · have c1x := c1
    refine Or.inr ⟨1, zc_ t 1, Or.inr (Or.inl ⟨(nr_ok h0), c1, rfl⟩), ?_, zc_sy 1 h, zc_c t 1, by decide, by decide⟩
    unfold fm_choose
    generalize hN : 5000 = N
    simp -implicitDefEqProofs only [jn_, sp_T, bI_some, pu_eq, mir_ok h0, n1, one_ne, ne_21, ne_31, le_11, le_21, le_31, if_true, if_false, reduceIte, rz0_]
    rfl
  rcases rg_c a2 with ⟨r2, h2, rfl⟩ | ⟨c2, n2⟩
  rotate_left
  · have c2x := c2
    refine Or.inr ⟨1, zc_ t 1, Or.inr (Or.inr (Or.inl ⟨(nr_ok h0), (nr_ok h1), c2, rfl⟩)), ?_, zc_sy 1 h, zc_c t 1, by decide, by decide⟩
    unfold fm_choose
    generalize hN : 5000 = N
    simp -implicitDefEqProofs only [jn_, sp_T, bI_some, pu_eq, mir_ok h0, mir_ok h1, n2, one_ne, ne_21, ne_31, le_11, le_21, le_31, if_true, if_false, reduceIte, rz0_]
    rfl
  rcases rg_c a3 with ⟨r3, h3, rfl⟩ | ⟨c3, n3⟩
  rotate_left
  · have c3x := c3
    refine Or.inr ⟨1, zc_ t 1, Or.inr (Or.inr (Or.inr (⟨(nr_ok h0), (nr_ok h1), (nr_ok h2), c3, rfl⟩))), ?_, zc_sy 1 h, zc_c t 1, by decide, by decide⟩
    unfold fm_choose
    generalize hN : 5000 = N
    simp -implicitDefEqProofs only [jn_, sp_T, bI_some, pu_eq, mir_ok h0, mir_ok h1, mir_ok h2, n3, one_ne, ne_21, ne_31, le_11, le_21, le_31, if_true, if_false, reduceIte, rz0_]
    rfl
  refine Or.inl ?_
  obtain ⟨s2, g2, rt2, e, hq⟩ := xh_ok hh h0 h1 h2 h3
  obtain ⟨t2, e2, m2, z2⟩ := xh_m hm h0 h1 h2 h3
  exact ⟨s2, t2, e, e2, ⟨_, o, ⟨lev, g2, rt2, hq⟩, m2⟩, z2⟩
def tk_restrict (a0 : Int32) (a1 : Int32) (a2 : Int32) (k : Nat) : Prop := (fx_needRegister a0 = none ∧ k = 1) ∨ (fx_needRegister a0 = some () ∧ fx_needRegister a1 = none ∧ k = 1) ∨ (fx_needRegister a0 = some () ∧ fx_needRegister a1 = some () ∧ fx_needVariable a2 = none ∧ k = 1)
set_option maxHeartbeats 2000000 in
theorem sp_restrict (h : sy_ s t) (a0 : Int32) (a1 : Int32) (a2 : Int32) (b3 : Bool) : (∃ s2 t2, fx_restrict s a0 a1 a2 (nI b3.toNat) = some s2 ∧ fm_restrict t a0 a1 a2 (nI b3.toNat) = some t2 ∧ sy_ s2 t2 ∧ t2.1 9 0 = 0) ∨ (∃ k t2, tk_restrict a0 a1 a2 k ∧ fm_restrict t a0 a1 a2 (nI b3.toNat) = some t2 ∧ sy_ s t2 ∧ t2.1 9 0 = nI k ∧ 0 < k ∧ k < 4) := by
  obtain ⟨F, o, hx, hm⟩ := id h
  obtain ⟨lev, g, rt, hh⟩ := id hx
  rcases rg_c a0 with ⟨r0, h0, rfl⟩ | ⟨c0, n0⟩
  rotate_left
  · have c0x := c0
    refine Or.inr ⟨1, zc_ t 1, Or.inl ⟨c0, rfl⟩, ?_, zc_sy 1 h, zc_c t 1, by decide, by decide⟩
    unfold fm_restrict
    generalize hN : 5000 = N
    simp -implicitDefEqProofs only [jn_, sp_T, bI_some, pu_eq, n0, one_ne, ne_21, ne_31, le_11, le_21, le_31, if_true, if_false, reduceIte, rz0_]
    rfl
  rcases rg_c a1 with ⟨r1, h1, rfl⟩ | ⟨c1, n1⟩
  rotate_left
  · have c1x := c1
    refine Or.inr ⟨1, zc_ t 1, Or.inr (Or.inl ⟨(nr_ok h0), c1, rfl⟩), ?_, zc_sy 1 h, zc_c t 1, by decide, by decide⟩
    unfold fm_restrict
    generalize hN : 5000 = N
    simp -implicitDefEqProofs only [jn_, sp_T, bI_some, pu_eq, mir_ok h0, n1, one_ne, ne_21, ne_31, le_11, le_21, le_31, if_true, if_false, reduceIte, rz0_]
    rfl
  rcases vr_c a2 with ⟨r2, h2, rfl⟩ | ⟨c2, n2⟩
  rotate_left
  · have c2x := c2
    refine Or.inr ⟨1, zc_ t 1, Or.inr (Or.inr (⟨(nr_ok h0), (nr_ok h1), c2, rfl⟩)), ?_, zc_sy 1 h, zc_c t 1, by decide, by decide⟩
    unfold fm_restrict
    generalize hN : 5000 = N
    simp -implicitDefEqProofs only [jn_, sp_T, bI_some, pu_eq, mir_ok h0, mir_ok h1, n2, one_ne, ne_21, ne_31, le_11, le_21, le_31, if_true, if_false, reduceIte, rz0_]
    rfl
  refine Or.inl ?_
  obtain ⟨s2, g2, rt2, e, hq⟩ := xr_ok hh h0 h1 h2 b3
  obtain ⟨t2, e2, m2, z2⟩ := xr_m hm h0 h1 h2 b3
  exact ⟨s2, t2, e, e2, ⟨_, o, ⟨lev, g2, rt2, hq⟩, m2⟩, z2⟩
def tk_quantify (a0 : Int32) (a1 : Int32) (a2 : Int32) (k : Nat) : Prop := (fx_needRegister a0 = none ∧ k = 1) ∨ (fx_needRegister a0 = some () ∧ fx_needRegister a1 = none ∧ k = 1) ∨ (fx_needRegister a0 = some () ∧ fx_needRegister a1 = some () ∧ fx_needBelow a2 (256 : Int32) = none ∧ k = 2)
set_option maxHeartbeats 2000000 in
theorem sp_quantify (h : sy_ s t) (a0 : Int32) (a1 : Int32) (a2 : Int32) (b3 : Bool) : (∃ s2 t2, fx_quantify s a0 a1 a2 (nI b3.toNat) = some s2 ∧ fm_quantify t a0 a1 a2 (nI b3.toNat) = some t2 ∧ sy_ s2 t2 ∧ t2.1 9 0 = 0) ∨ (∃ k t2, tk_quantify a0 a1 a2 k ∧ fm_quantify t a0 a1 a2 (nI b3.toNat) = some t2 ∧ sy_ s t2 ∧ t2.1 9 0 = nI k ∧ 0 < k ∧ k < 4) := by
  obtain ⟨F, o, hx, hm⟩ := id h
  obtain ⟨lev, g, rt, hh⟩ := id hx
  rcases rg_c a0 with ⟨r0, h0, rfl⟩ | ⟨c0, n0⟩
  rotate_left
  · have c0x := c0
    refine Or.inr ⟨1, zc_ t 1, Or.inl ⟨c0, rfl⟩, ?_, zc_sy 1 h, zc_c t 1, by decide, by decide⟩
    unfold fm_quantify
    generalize hN : 5000 = N
    simp -implicitDefEqProofs only [jn_, sp_T, bI_some, pu_eq, n0, one_ne, ne_21, ne_31, le_11, le_21, le_31, if_true, if_false, reduceIte, rz0_]
    rfl
  rcases rg_c a1 with ⟨r1, h1, rfl⟩ | ⟨c1, n1⟩
  rotate_left
  · have c1x := c1
    refine Or.inr ⟨1, zc_ t 1, Or.inr (Or.inl ⟨(nr_ok h0), c1, rfl⟩), ?_, zc_sy 1 h, zc_c t 1, by decide, by decide⟩
    unfold fm_quantify
    generalize hN : 5000 = N
    simp -implicitDefEqProofs only [jn_, sp_T, bI_some, pu_eq, mir_ok h0, n1, one_ne, ne_21, ne_31, le_11, le_21, le_31, if_true, if_false, reduceIte, rz0_]
    rfl
  rcases be_c 256 (by decide) (by decide) a2 with ⟨r2, h2, rfl⟩ | ⟨c2, n2⟩
  rotate_left
  · have c2x := c2
    have n2 : fm_in a2 (0 : Int32) (255 : Int32) = some 0 := n2
    refine Or.inr ⟨2, zc_ t 2, Or.inr (Or.inr (⟨(nr_ok h0), (nr_ok h1), c2, rfl⟩)), ?_, zc_sy 2 h, zc_c t 2, by decide, by decide⟩
    unfold fm_quantify
    generalize hN : 5000 = N
    simp -implicitDefEqProofs only [jn_, sp_T, bI_some, pu_eq, mir_ok h0, mir_ok h1, n2, one_ne, ne_21, ne_31, le_11, le_21, le_31, if_true, if_false, reduceIte, rz0_]
    rfl
  refine Or.inl ?_
  obtain ⟨s2, g2, rt2, e, hq⟩ := xq_ok hh h0 h1 h2 b3
  obtain ⟨t2, e2, m2, z2⟩ := xq_m hm h0 h1 h2 b3 (rd_on hh h1)
  exact ⟨s2, t2, e, e2, ⟨_, o, ⟨lev, g2, rt2, hq⟩, m2⟩, z2⟩
def tk_product (a0 : Int32) (a1 : Int32) (a2 : Int32) (a3 : Int32) (k : Nat) : Prop := (fx_needRegister a0 = none ∧ k = 1) ∨ (fx_needRegister a0 = some () ∧ fx_needRegister a1 = none ∧ k = 1) ∨ (fx_needRegister a0 = some () ∧ fx_needRegister a1 = some () ∧ fx_needRegister a2 = none ∧ k = 1) ∨ (fx_needRegister a0 = some () ∧ fx_needRegister a1 = some () ∧ fx_needRegister a2 = some () ∧ fx_needBelow a3 (256 : Int32) = none ∧ k = 2)
set_option maxHeartbeats 2000000 in
theorem sp_product (h : sy_ s t) (a0 : Int32) (a1 : Int32) (a2 : Int32) (a3 : Int32)  : (∃ s2 t2, fx_product s a0 a1 a2 a3 = some s2 ∧ fm_product t a0 a1 a2 a3 = some t2 ∧ sy_ s2 t2 ∧ t2.1 9 0 = 0) ∨ (∃ k t2, tk_product a0 a1 a2 a3 k ∧ fm_product t a0 a1 a2 a3 = some t2 ∧ sy_ s t2 ∧ t2.1 9 0 = nI k ∧ 0 < k ∧ k < 4) := by
  obtain ⟨F, o, hx, hm⟩ := id h
  obtain ⟨lev, g, rt, hh⟩ := id hx
  rcases rg_c a0 with ⟨r0, h0, rfl⟩ | ⟨c0, n0⟩
  rotate_left
  · have c0x := c0
    refine Or.inr ⟨1, zc_ t 1, Or.inl ⟨c0, rfl⟩, ?_, zc_sy 1 h, zc_c t 1, by decide, by decide⟩
    unfold fm_product
    generalize hN : 5000 = N
    simp -implicitDefEqProofs only [jn_, sp_T, bI_some, pu_eq, n0, one_ne, ne_21, ne_31, le_11, le_21, le_31, if_true, if_false, reduceIte, rz0_]
    rfl
  rcases rg_c a1 with ⟨r1, h1, rfl⟩ | ⟨c1, n1⟩
  rotate_left
  · have c1x := c1
    refine Or.inr ⟨1, zc_ t 1, Or.inr (Or.inl ⟨(nr_ok h0), c1, rfl⟩), ?_, zc_sy 1 h, zc_c t 1, by decide, by decide⟩
    unfold fm_product
    generalize hN : 5000 = N
    simp -implicitDefEqProofs only [jn_, sp_T, bI_some, pu_eq, mir_ok h0, n1, one_ne, ne_21, ne_31, le_11, le_21, le_31, if_true, if_false, reduceIte, rz0_]
    rfl
  rcases rg_c a2 with ⟨r2, h2, rfl⟩ | ⟨c2, n2⟩
  rotate_left
  · have c2x := c2
    refine Or.inr ⟨1, zc_ t 1, Or.inr (Or.inr (Or.inl ⟨(nr_ok h0), (nr_ok h1), c2, rfl⟩)), ?_, zc_sy 1 h, zc_c t 1, by decide, by decide⟩
    unfold fm_product
    generalize hN : 5000 = N
    simp -implicitDefEqProofs only [jn_, sp_T, bI_some, pu_eq, mir_ok h0, mir_ok h1, n2, one_ne, ne_21, ne_31, le_11, le_21, le_31, if_true, if_false, reduceIte, rz0_]
    rfl
  rcases be_c 256 (by decide) (by decide) a3 with ⟨r3, h3, rfl⟩ | ⟨c3, n3⟩
  rotate_left
  · have c3x := c3
    have n3 : fm_in a3 (0 : Int32) (255 : Int32) = some 0 := n3
    refine Or.inr ⟨2, zc_ t 2, Or.inr (Or.inr (Or.inr (⟨(nr_ok h0), (nr_ok h1), (nr_ok h2), c3, rfl⟩))), ?_, zc_sy 2 h, zc_c t 2, by decide, by decide⟩
    unfold fm_product
    generalize hN : 5000 = N
    simp -implicitDefEqProofs only [jn_, sp_T, bI_some, pu_eq, mir_ok h0, mir_ok h1, mir_ok h2, n3, one_ne, ne_21, ne_31, le_11, le_21, le_31, if_true, if_false, reduceIte, rz0_]
    rfl
  refine Or.inl ?_
  obtain ⟨s2, g2, rt2, e, hq⟩ := xp_ok hh h0 h1 h2 h3
  obtain ⟨t2, e2, m2, z2⟩ := xp_m hm h0 h1 h2 h3 (rd_on hh h1) (rd_on hh h2)
  exact ⟨s2, t2, e, e2, ⟨_, o, ⟨lev, g2, rt2, hq⟩, m2⟩, z2⟩
def tk_compose (a0 : Int32) (a1 : Int32) (a2 : Int32) (a3 : Int32) (k : Nat) : Prop := (fx_needRegister a0 = none ∧ k = 1) ∨ (fx_needRegister a0 = some () ∧ fx_needRegister a1 = none ∧ k = 1) ∨ (fx_needRegister a0 = some () ∧ fx_needRegister a1 = some () ∧ fx_needVariable a2 = none ∧ k = 1) ∨ (fx_needRegister a0 = some () ∧ fx_needRegister a1 = some () ∧ fx_needVariable a2 = some () ∧ fx_needRegister a3 = none ∧ k = 1)
set_option maxHeartbeats 2000000 in
theorem sp_compose (h : sy_ s t) (a0 : Int32) (a1 : Int32) (a2 : Int32) (a3 : Int32)  : (∃ s2 t2, fx_compose s a0 a1 a2 a3 = some s2 ∧ fm_compose t a0 a1 a2 a3 = some t2 ∧ sy_ s2 t2 ∧ t2.1 9 0 = 0) ∨ (∃ k t2, tk_compose a0 a1 a2 a3 k ∧ fm_compose t a0 a1 a2 a3 = some t2 ∧ sy_ s t2 ∧ t2.1 9 0 = nI k ∧ 0 < k ∧ k < 4) := by
  obtain ⟨F, o, hx, hm⟩ := id h
  obtain ⟨lev, g, rt, hh⟩ := id hx
  rcases rg_c a0 with ⟨r0, h0, rfl⟩ | ⟨c0, n0⟩
  rotate_left
  · have c0x := c0
    refine Or.inr ⟨1, zc_ t 1, Or.inl ⟨c0, rfl⟩, ?_, zc_sy 1 h, zc_c t 1, by decide, by decide⟩
    unfold fm_compose
    generalize hN : 5000 = N
    simp -implicitDefEqProofs only [jn_, sp_T, bI_some, pu_eq, n0, one_ne, ne_21, ne_31, le_11, le_21, le_31, if_true, if_false, reduceIte, rz0_]
    rfl
  rcases rg_c a1 with ⟨r1, h1, rfl⟩ | ⟨c1, n1⟩
  rotate_left
  · have c1x := c1
    refine Or.inr ⟨1, zc_ t 1, Or.inr (Or.inl ⟨(nr_ok h0), c1, rfl⟩), ?_, zc_sy 1 h, zc_c t 1, by decide, by decide⟩
    unfold fm_compose
    generalize hN : 5000 = N
    simp -implicitDefEqProofs only [jn_, sp_T, bI_some, pu_eq, mir_ok h0, n1, one_ne, ne_21, ne_31, le_11, le_21, le_31, if_true, if_false, reduceIte, rz0_]
    rfl
  rcases vr_c a2 with ⟨r2, h2, rfl⟩ | ⟨c2, n2⟩
  rotate_left
  · have c2x := c2
    refine Or.inr ⟨1, zc_ t 1, Or.inr (Or.inr (Or.inl ⟨(nr_ok h0), (nr_ok h1), c2, rfl⟩)), ?_, zc_sy 1 h, zc_c t 1, by decide, by decide⟩
    rcases rg_c a3 with ⟨r3, h3, rfl⟩ | ⟨c3, n3⟩
    · skip
      unfold fm_compose
      generalize hN : 5000 = N
      simp -implicitDefEqProofs only [jn_, sp_T, bI_some, pu_eq, mir_ok h0, mir_ok h1, mir_ok h3, n2, one_ne, ne_21, ne_31, le_11, le_21, le_31, if_true, if_false, reduceIte, rz0_]
      rfl
    · skip
      unfold fm_compose
      generalize hN : 5000 = N
      simp -implicitDefEqProofs only [jn_, sp_T, bI_some, pu_eq, mir_ok h0, mir_ok h1, n3, one_ne, ne_21, ne_31, le_11, le_21, le_31, if_true, if_false, reduceIte, rz0_]
      rfl
  rcases rg_c a3 with ⟨r3, h3, rfl⟩ | ⟨c3, n3⟩
  rotate_left
  · have c3x := c3
    refine Or.inr ⟨1, zc_ t 1, Or.inr (Or.inr (Or.inr (⟨(nr_ok h0), (nr_ok h1), (nv_ok h2), c3, rfl⟩))), ?_, zc_sy 1 h, zc_c t 1, by decide, by decide⟩
    unfold fm_compose
    generalize hN : 5000 = N
    simp -implicitDefEqProofs only [jn_, sp_T, bI_some, pu_eq, mir_ok h0, mir_ok h1, miv_ok h2, n3, one_ne, ne_21, ne_31, le_11, le_21, le_31, if_true, if_false, reduceIte, rz0_]
    rfl
  refine Or.inl ?_
  obtain ⟨s2, g2, rt2, e, hq⟩ := xo_ok hh h0 h1 h2 h3
  obtain ⟨t2, e2, m2, z2⟩ := xo_m hm h0 h1 h2 h3
  exact ⟨s2, t2, e, e2, ⟨_, o, ⟨lev, g2, rt2, hq⟩, m2⟩, z2⟩
def tk_turn (a0 : Int32) (a1 : Int32) (k : Nat) : Prop := (fx_needRegister a0 = none ∧ k = 1) ∨ (fx_needRegister a0 = some () ∧ fx_needRegister a1 = none ∧ k = 1)
set_option maxHeartbeats 2000000 in
theorem sp_turn (h : sy_ s t) (a0 : Int32) (a1 : Int32)  : (∃ s2 t2, fx_turn s a0 a1 = some s2 ∧ fm_turn t a0 a1 = some t2 ∧ sy_ s2 t2 ∧ t2.1 9 0 = 0) ∨ (∃ k t2, tk_turn a0 a1 k ∧ fm_turn t a0 a1 = some t2 ∧ sy_ s t2 ∧ t2.1 9 0 = nI k ∧ 0 < k ∧ k < 4) := by
  obtain ⟨F, o, hx, hm⟩ := id h
  obtain ⟨lev, g, rt, hh⟩ := id hx
  rcases rg_c a0 with ⟨r0, h0, rfl⟩ | ⟨c0, n0⟩
  rotate_left
  · have c0x := c0
    refine Or.inr ⟨1, zc_ t 1, Or.inl ⟨c0, rfl⟩, ?_, zc_sy 1 h, zc_c t 1, by decide, by decide⟩
    unfold fm_turn
    generalize hN : 5000 = N
    simp -implicitDefEqProofs only [jn_, sp_T, bI_some, pu_eq, n0, one_ne, ne_21, ne_31, le_11, le_21, le_31, if_true, if_false, reduceIte, rz0_]
    rfl
  rcases rg_c a1 with ⟨r1, h1, rfl⟩ | ⟨c1, n1⟩
  rotate_left
  · have c1x := c1
    refine Or.inr ⟨1, zc_ t 1, Or.inr (⟨(nr_ok h0), c1, rfl⟩), ?_, zc_sy 1 h, zc_c t 1, by decide, by decide⟩
    unfold fm_turn
    generalize hN : 5000 = N
    simp -implicitDefEqProofs only [jn_, sp_T, bI_some, pu_eq, mir_ok h0, n1, one_ne, ne_21, ne_31, le_11, le_21, le_31, if_true, if_false, reduceIte, rz0_]
    rfl
  refine Or.inl ?_
  obtain ⟨s2, g2, rt2, e, hq⟩ := xt_ok hh h0 h1
  obtain ⟨t2, e2, m2, z2⟩ := xt_m hm h0 h1
  exact ⟨s2, t2, e, e2, ⟨_, o, ⟨lev, g2, rt2, hq⟩, m2⟩, z2⟩
def tk_truth (a0 : Int32) (a1 : Int32) (k : Nat) : Prop := (fx_needRegister a0 = none ∧ k = 1) ∨ (fx_needRegister a0 = some () ∧ fx_needBelow a1 (256 : Int32) = none ∧ k = 2)
set_option maxHeartbeats 2000000 in
theorem sp_truth (h : sy_ s t) (a0 : Int32) (a1 : Int32)  : (∃ x t2, fx_truth s a0 a1 = some x ∧ fm_truth t a0 a1 = some (x, t2) ∧ sy_ s t2 ∧ t2.1 9 0 = 0) ∨ (∃ k x t2, tk_truth a0 a1 k ∧ fm_truth t a0 a1 = some (x, t2) ∧ sy_ s t2 ∧ t2.1 9 0 = nI k ∧ 0 < k ∧ k < 4) := by
  obtain ⟨F, o, hx, hm⟩ := id h
  obtain ⟨lev, g, rt, hh⟩ := id hx
  rcases rg_c a0 with ⟨r0, h0, rfl⟩ | ⟨c0, n0⟩
  rotate_left
  · have c0x := c0
    refine Or.inr ⟨1, 0, zc_ t 1, Or.inl ⟨c0, rfl⟩, ?_, zc_sy 1 h, zc_c t 1, by decide, by decide⟩
    unfold fm_truth
    generalize hN : 5000 = N
    simp -implicitDefEqProofs only [jn_, sp_T, bI_some, pu_eq, n0, one_ne, ne_21, ne_31, le_11, le_21, le_31, if_true, if_false, reduceIte, rz0_]
    rfl
  rcases be_c 256 (by decide) (by decide) a1 with ⟨r1, h1, rfl⟩ | ⟨c1, n1⟩
  rotate_left
  · have c1x := c1
    have n1 : fm_in a1 (0 : Int32) (255 : Int32) = some 0 := n1
    refine Or.inr ⟨2, 0, zc_ t 2, Or.inr (⟨(nr_ok h0), c1, rfl⟩), ?_, zc_sy 2 h, zc_c t 2, by decide, by decide⟩
    unfold fm_truth
    generalize hN : 5000 = N
    simp -implicitDefEqProofs only [jn_, sp_T, bI_some, pu_eq, mir_ok h0, n1, one_ne, ne_21, ne_31, le_11, le_21, le_31, if_true, if_false, reduceIte, rz0_]
    rfl
  refine Or.inl ?_
  exact ⟨_, z0_ t, tr_x hh h0 h1, tr_m hm h0 h1, ⟨F, o, hx, z0_mo hm⟩, z0_c t⟩
def tk_same (a0 : Int32) (a1 : Int32) (k : Nat) : Prop := (fx_needRegister a0 = none ∧ k = 1) ∨ (fx_needRegister a0 = some () ∧ fx_needRegister a1 = none ∧ k = 1)
set_option maxHeartbeats 2000000 in
theorem sp_same (h : sy_ s t) (a0 : Int32) (a1 : Int32)  : (∃ x t2, fx_same s a0 a1 = some x ∧ fm_same t a0 a1 = some (x, t2) ∧ sy_ s t2 ∧ t2.1 9 0 = 0) ∨ (∃ k x t2, tk_same a0 a1 k ∧ fm_same t a0 a1 = some (x, t2) ∧ sy_ s t2 ∧ t2.1 9 0 = nI k ∧ 0 < k ∧ k < 4) := by
  obtain ⟨F, o, hx, hm⟩ := id h
  obtain ⟨lev, g, rt, hh⟩ := id hx
  rcases rg_c a0 with ⟨r0, h0, rfl⟩ | ⟨c0, n0⟩
  rotate_left
  · have c0x := c0
    refine Or.inr ⟨1, 0, zc_ t 1, Or.inl ⟨c0, rfl⟩, ?_, zc_sy 1 h, zc_c t 1, by decide, by decide⟩
    unfold fm_same
    generalize hN : 5000 = N
    obtain ⟨N, rfl⟩ : ∃ n, N = n + 1 := ⟨4999, by omega⟩
    simp -implicitDefEqProofs only [jn_, sp_T, bI_some, pu_eq, n0, one_ne, ne_21, ne_31, le_11, le_21, le_31, if_true, if_false, reduceIte, rz0_, fm_same_L39]
    rfl
  rcases rg_c a1 with ⟨r1, h1, rfl⟩ | ⟨c1, n1⟩
  rotate_left
  · have c1x := c1
    refine Or.inr ⟨1, 0, zc_ t 1, Or.inr (⟨(nr_ok h0), c1, rfl⟩), ?_, zc_sy 1 h, zc_c t 1, by decide, by decide⟩
    unfold fm_same
    generalize hN : 5000 = N
    obtain ⟨N, rfl⟩ : ∃ n, N = n + 1 := ⟨4999, by omega⟩
    simp -implicitDefEqProofs only [jn_, sp_T, bI_some, pu_eq, mir_ok h0, n1, one_ne, ne_21, ne_31, le_11, le_21, le_31, if_true, if_false, reduceIte, rz0_, fm_same_L39]
    rfl
  refine Or.inl ?_
  by_cases c : ∀ x, x < 256 → F r0 x.testBit = F r1 x.testBit
  · exact ⟨_, z0_ t, sa_x hh h0 h1 (r := true) ⟨fun _ => c, fun _ => rfl⟩, sa_m hm h0 h1 (r := true) ⟨fun _ => c, fun _ => rfl⟩, ⟨F, o, hx, z0_mo hm⟩, z0_c t⟩
  · exact ⟨_, z0_ t, sa_x hh h0 h1 (r := false) ⟨fun z => (by cases z), fun z => absurd z c⟩, sa_m hm h0 h1 (r := false) ⟨fun z => (by cases z), fun z => absurd z c⟩, ⟨F, o, hx, z0_mo hm⟩, z0_c t⟩
def tk_count (a0 : Int32) (k : Nat) : Prop := (fx_needRegister a0 = none ∧ k = 1)
set_option maxHeartbeats 2000000 in
theorem sp_count (h : sy_ s t) (a0 : Int32)  : (∃ x t2, fx_count s a0 = some x ∧ fm_count t a0 = some (x, t2) ∧ sy_ s t2 ∧ t2.1 9 0 = 0) ∨ (∃ k x t2, tk_count a0 k ∧ fm_count t a0 = some (x, t2) ∧ sy_ s t2 ∧ t2.1 9 0 = nI k ∧ 0 < k ∧ k < 4) := by
  obtain ⟨F, o, hx, hm⟩ := id h
  obtain ⟨lev, g, rt, hh⟩ := id hx
  rcases rg_c a0 with ⟨r0, h0, rfl⟩ | ⟨c0, n0⟩
  rotate_left
  · have c0x := c0
    refine Or.inr ⟨1, 0, zc_ t 1, ⟨c0, rfl⟩, ?_, zc_sy 1 h, zc_c t 1, by decide, by decide⟩
    unfold fm_count
    generalize hN : 5000 = N
    obtain ⟨N, rfl⟩ : ∃ n, N = n + 1 := ⟨4999, by omega⟩
    simp -implicitDefEqProofs only [jn_, sp_T, bI_some, pu_eq, n0, one_ne, ne_21, ne_31, le_11, le_21, le_31, if_true, if_false, reduceIte, rz0_, fm_count_L20]
    rfl
  refine Or.inl ?_
  exact ⟨_, z0_ t, co_x hh h0, co_m hm h0, ⟨F, o, hx, z0_mo hm⟩, z0_c t⟩
def tk_least (a0 : Int32) (k : Nat) : Prop := (fx_needRegister a0 = none ∧ k = 1)
set_option maxHeartbeats 2000000 in
theorem sp_least (h : sy_ s t) (a0 : Int32)  : (∃ x t2, fx_least s a0 = some x ∧ fm_least t a0 = some (x, t2) ∧ sy_ s t2 ∧ t2.1 9 0 = 0) ∨ (∃ k x t2, tk_least a0 k ∧ fm_least t a0 = some (x, t2) ∧ sy_ s t2 ∧ t2.1 9 0 = nI k ∧ 0 < k ∧ k < 4) := by
  obtain ⟨F, o, hx, hm⟩ := id h
  obtain ⟨lev, g, rt, hh⟩ := id hx
  rcases rg_c a0 with ⟨r0, h0, rfl⟩ | ⟨c0, n0⟩
  rotate_left
  · have c0x := c0
    refine Or.inr ⟨1, 0, zc_ t 1, ⟨c0, rfl⟩, ?_, zc_sy 1 h, zc_c t 1, by decide, by decide⟩
    unfold fm_least
    generalize hN : 5000 = N
    obtain ⟨N, rfl⟩ : ∃ n, N = n + 1 := ⟨4999, by omega⟩
    simp -implicitDefEqProofs only [jn_, sp_T, bI_some, pu_eq, n0, one_ne, ne_21, ne_31, le_11, le_21, le_31, if_true, if_false, reduceIte, rz0_, fm_least_L22]
    rfl
  refine Or.inl ?_
  exact ⟨_, z0_ t, le_x hh h0, le_m hm h0, ⟨F, o, hx, z0_mo hm⟩, z0_c t⟩
def tk_depends (a0 : Int32) (k : Nat) : Prop := (fx_needRegister a0 = none ∧ k = 1)
set_option maxHeartbeats 2000000 in
theorem sp_depends (h : sy_ s t) (a0 : Int32)  : (∃ x t2, fx_depends s a0 = some x ∧ fm_depends t a0 = some (x, t2) ∧ sy_ s t2 ∧ t2.1 9 0 = 0) ∨ (∃ k x t2, tk_depends a0 k ∧ fm_depends t a0 = some (x, t2) ∧ sy_ s t2 ∧ t2.1 9 0 = nI k ∧ 0 < k ∧ k < 4) := by
  obtain ⟨F, o, hx, hm⟩ := id h
  obtain ⟨lev, g, rt, hh⟩ := id hx
  rcases rg_c a0 with ⟨r0, h0, rfl⟩ | ⟨c0, n0⟩
  rotate_left
  · have c0x := c0
    refine Or.inr ⟨1, 0, zc_ t 1, ⟨c0, rfl⟩, ?_, zc_sy 1 h, zc_c t 1, by decide, by decide⟩
    unfold fm_depends
    generalize hN : 5000 = N
    simp -implicitDefEqProofs only [jn_, sp_T, bI_some, pu_eq, n0, one_ne, ne_21, ne_31, le_11, le_21, le_31, if_true, if_false, reduceIte, rz0_]
    rfl
  refine Or.inl ?_
  obtain ⟨S, s1, e1⟩ := de_x hh h0
  exact ⟨_, z0_ t, e1, de_m hm h0 (rd_on hh h0) s1, ⟨F, o, hx, z0_mo hm⟩, z0_c t⟩
def tk_nodes (a0 : Int32) (k : Nat) : Prop := (fx_needRegister a0 = none ∧ k = 1)
set_option maxHeartbeats 2000000 in
theorem sp_nodes (h : sy_ s t) (a0 : Int32)  : (∃ x s2 t2, fx_nodes s a0 = some (x, s2) ∧ fm_nodes t a0 = some (x, t2) ∧ sy_ s2 t2 ∧ t2.1 9 0 = 0) ∨ (∃ k x t2, tk_nodes a0 k ∧ fm_nodes t a0 = some (x, t2) ∧ sy_ s t2 ∧ t2.1 9 0 = nI k ∧ 0 < k ∧ k < 4) := by
  obtain ⟨F, o, hx, hm⟩ := id h
  obtain ⟨lev, g, rt, hh⟩ := id hx
  rcases rg_c a0 with ⟨r0, h0, rfl⟩ | ⟨c0, n0⟩
  rotate_left
  · have c0x := c0
    refine Or.inr ⟨1, 0, zc_ t 1, ⟨c0, rfl⟩, ?_, zc_sy 1 h, zc_c t 1, by decide, by decide⟩
    unfold fm_nodes
    generalize hN : 5000 = N
    simp -implicitDefEqProofs only [jn_, sp_T, bI_some, pu_eq, n0, one_ne, ne_21, ne_31, le_11, le_21, le_31, if_true, if_false, reduceIte, rz0_]
    rfl
  refine Or.inl ?_
  exact sn_ok h h0
def tk_order (a0 : Int32) (k : Nat) : Prop := (fx_needLevel a0 (8 : Int32) = none ∧ k = 1)
set_option maxHeartbeats 2000000 in
theorem sp_order (h : sy_ s t) (a0 : Int32)  : (∃ x t2, fx_order s a0 = some x ∧ fm_order t a0 = some (x, t2) ∧ sy_ s t2 ∧ t2.1 9 0 = 0) ∨ (∃ k x t2, tk_order a0 k ∧ fm_order t a0 = some (x, t2) ∧ sy_ s t2 ∧ t2.1 9 0 = nI k ∧ 0 < k ∧ k < 4) := by
  obtain ⟨F, o, hx, hm⟩ := id h
  obtain ⟨lev, g, rt, hh⟩ := id hx
  rcases le_c 8 (by decide) (by decide) a0 with ⟨r0, h0, rfl⟩ | ⟨c0, n0⟩
  rotate_left
  · have c0x := c0
    have n0 : fm_in a0 (0 : Int32) (7 : Int32) = some 0 := n0
    refine Or.inr ⟨1, 0, zc_ t 1, ⟨c0, rfl⟩, ?_, zc_sy 1 h, zc_c t 1, by decide, by decide⟩
    unfold fm_order
    generalize hN : 5000 = N
    simp -implicitDefEqProofs only [jn_, sp_T, bI_some, pu_eq, n0, one_ne, ne_21, ne_31, le_11, le_21, le_31, if_true, if_false, reduceIte, rz0_]
    rfl
  refine Or.inl ?_
  exact so_ok h h0
def tk_swap (a0 : Int32) (k : Nat) : Prop := (fx_needLevel a0 (7 : Int32) = none ∧ k = 1)
set_option maxHeartbeats 2000000 in
theorem sp_swap (h : sy_ s t) (a0 : Int32)  : (∃ x s2 t2, fx_swap s a0 = some (x, s2) ∧ fm_swap t a0 = some (x, t2) ∧ sy_ s2 t2 ∧ t2.1 9 0 = 0) ∨ (∃ k x t2, tk_swap a0 k ∧ fm_swap t a0 = some (x, t2) ∧ sy_ s t2 ∧ t2.1 9 0 = nI k ∧ 0 < k ∧ k < 4) := by
  obtain ⟨F, o, hx, hm⟩ := id h
  obtain ⟨lev, g, rt, hh⟩ := id hx
  rcases le_c 7 (by decide) (by decide) a0 with ⟨r0, h0, rfl⟩ | ⟨c0, n0⟩
  rotate_left
  · have c0x := c0
    have n0 : fm_in a0 (0 : Int32) (6 : Int32) = some 0 := n0
    refine Or.inr ⟨1, 0, zc_ t 1, ⟨c0, rfl⟩, ?_, zc_sy 1 h, zc_c t 1, by decide, by decide⟩
    unfold fm_swap
    generalize hN : 5000 = N
    simp -implicitDefEqProofs only [jn_, sp_T, bI_some, pu_eq, n0, one_ne, ne_21, ne_31, le_11, le_21, le_31, if_true, if_false, reduceIte, rz0_]
    rfl
  refine Or.inl ?_
  exact sw_ok h h0
def tk_place (a0 : Int32) (a1 : Int32) (k : Nat) : Prop := (fx_needVariable a0 = none ∧ k = 1) ∨ (fx_needVariable a0 = some () ∧ fx_needLevel a1 (8 : Int32) = none ∧ k = 1)
set_option maxHeartbeats 2000000 in
theorem sp_place (h : sy_ s t) (a0 : Int32) (a1 : Int32)  : (∃ x s2 t2, fx_place s a0 a1 = some (x, s2) ∧ fm_place t a0 a1 = some (x, t2) ∧ sy_ s2 t2 ∧ t2.1 9 0 = 0) ∨ (∃ k x t2, tk_place a0 a1 k ∧ fm_place t a0 a1 = some (x, t2) ∧ sy_ s t2 ∧ t2.1 9 0 = nI k ∧ 0 < k ∧ k < 4) := by
  obtain ⟨F, o, hx, hm⟩ := id h
  obtain ⟨lev, g, rt, hh⟩ := id hx
  rcases vr_c a0 with ⟨r0, h0, rfl⟩ | ⟨c0, n0⟩
  rotate_left
  · have c0x := c0
    refine Or.inr ⟨1, 0, zc_ t 1, Or.inl ⟨c0, rfl⟩, ?_, zc_sy 1 h, zc_c t 1, by decide, by decide⟩
    unfold fm_place
    generalize hN : 5000 = N
    simp -implicitDefEqProofs only [jn_, sp_T, bI_some, pu_eq, n0, one_ne, ne_21, ne_31, le_11, le_21, le_31, if_true, if_false, reduceIte, rz0_]
    rfl
  rcases le_c 8 (by decide) (by decide) a1 with ⟨r1, h1, rfl⟩ | ⟨c1, n1⟩
  rotate_left
  · have c1x := c1
    have n1 : fm_in a1 (0 : Int32) (7 : Int32) = some 0 := n1
    refine Or.inr ⟨1, 0, zc_ t 1, Or.inr (⟨(nv_ok h0), c1, rfl⟩), ?_, zc_sy 1 h, zc_c t 1, by decide, by decide⟩
    unfold fm_place
    generalize hN : 5000 = N
    simp -implicitDefEqProofs only [jn_, sp_T, bI_some, pu_eq, miv_ok h0, n1, one_ne, ne_21, ne_31, le_11, le_21, le_31, if_true, if_false, reduceIte, rz0_]
    rfl
  refine Or.inl ?_
  exact pl_ok h h0 h1
def tk_sift (a0 : Int32) (k : Nat) : Prop := (fx_needVariable a0 = none ∧ k = 1)
set_option maxHeartbeats 2000000 in
theorem sp_sift (h : sy_ s t) (a0 : Int32)  : (∃ x s2 t2, fx_sift s a0 = some (x, s2) ∧ fm_sift t a0 = some (x, t2) ∧ sy_ s2 t2 ∧ t2.1 9 0 = 0) ∨ (∃ k x t2, tk_sift a0 k ∧ fm_sift t a0 = some (x, t2) ∧ sy_ s t2 ∧ t2.1 9 0 = nI k ∧ 0 < k ∧ k < 4) := by
  obtain ⟨F, o, hx, hm⟩ := id h
  obtain ⟨lev, g, rt, hh⟩ := id hx
  rcases vr_c a0 with ⟨r0, h0, rfl⟩ | ⟨c0, n0⟩
  rotate_left
  · have c0x := c0
    refine Or.inr ⟨1, 0, zc_ t 1, ⟨c0, rfl⟩, ?_, zc_sy 1 h, zc_c t 1, by decide, by decide⟩
    unfold fm_sift
    generalize hN : 5000 = N
    simp -implicitDefEqProofs only [jn_, sp_T, bI_some, pu_eq, n0, one_ne, ne_21, ne_31, le_11, le_21, le_31, if_true, if_false, reduceIte, rz0_]
    rfl
  refine Or.inl ?_
  exact sf_ok h h0
def tk_image (s : wt_S) (a0 : Int32) (a1 : Int32) (a2 : Int32) (k : Nat) : Prop := (fx_needRegister a0 = none ∧ k = 1) ∨ (fx_needRegister a0 = some () ∧ fx_needRegister a1 = none ∧ k = 1) ∨ (fx_needRegister a0 = some () ∧ fx_needRegister a1 = some () ∧ fx_needRegister a2 = none ∧ k = 1) ∨ (fx_needRegister a0 = some () ∧ fx_needRegister a1 = some () ∧ fx_needRegister a2 = some () ∧ fy_needSet s a2 = some () ∧ k = 2)
set_option maxHeartbeats 2000000 in
theorem sp_image (h : sy_ s t) (a0 : Int32) (a1 : Int32) (a2 : Int32)  : (∃ x s2 t2, fx_image s a0 a1 a2 = some (x, s2) ∧ fm_image t a0 a1 a2 = some (x, t2) ∧ sy_ s2 t2 ∧ t2.1 9 0 = 0) ∨ (∃ k x t2, tk_image s a0 a1 a2 k ∧ fm_image t a0 a1 a2 = some (x, t2) ∧ sy_ s t2 ∧ t2.1 9 0 = nI k ∧ 0 < k ∧ k < 4) := by
  obtain ⟨F, o, hx, hm⟩ := id h
  obtain ⟨lev, g, rt, hh⟩ := id hx
  rcases rg_c a0 with ⟨r0, h0, rfl⟩ | ⟨c0, n0⟩
  rotate_left
  · have c0x := c0
    refine Or.inr ⟨1, 0, zc_ t 1, Or.inl ⟨c0, rfl⟩, ?_, zc_sy 1 h, zc_c t 1, by decide, by decide⟩
    unfold fm_image
    generalize hN : 5000 = N
    simp -implicitDefEqProofs only [jn_, sp_T, bI_some, pu_eq, n0, one_ne, ne_21, ne_31, le_11, le_21, le_31, if_true, if_false, reduceIte, rz0_]
    rfl
  rcases rg_c a1 with ⟨r1, h1, rfl⟩ | ⟨c1, n1⟩
  rotate_left
  · have c1x := c1
    refine Or.inr ⟨1, 0, zc_ t 1, Or.inr (Or.inl ⟨(nr_ok h0), c1, rfl⟩), ?_, zc_sy 1 h, zc_c t 1, by decide, by decide⟩
    unfold fm_image
    generalize hN : 5000 = N
    simp -implicitDefEqProofs only [jn_, sp_T, bI_some, pu_eq, mir_ok h0, n1, one_ne, ne_21, ne_31, le_11, le_21, le_31, if_true, if_false, reduceIte, rz0_]
    rfl
  rcases rg_c a2 with ⟨r2, h2, rfl⟩ | ⟨c2, n2⟩
  rotate_left
  · have c2x := c2
    refine Or.inr ⟨1, 0, zc_ t 1, Or.inr (Or.inr (Or.inl ⟨(nr_ok h0), (nr_ok h1), c2, rfl⟩)), ?_, zc_sy 1 h, zc_c t 1, by decide, by decide⟩
    unfold fm_image
    generalize hN : 5000 = N
    simp -implicitDefEqProofs only [jn_, sp_T, bI_some, pu_eq, mir_ok h0, mir_ok h1, n2, one_ne, ne_21, ne_31, le_11, le_21, le_31, if_true, if_false, reduceIte, rz0_]
    rfl
  by_cases ev2 : ev_ (F r2)
  rotate_left
  · have no := (iss_ok hm h2 (rd_on hh h2)).2 ev2
    refine Or.inr ⟨2, 0, zc_ t 2, Or.inr (Or.inr (Or.inr (⟨(nr_ok h0), (nr_ok h1), (nr_ok h2), ns_no hh h2 ev2, rfl⟩))), ?_, zc_sy 2 h, zc_c t 2, by decide, by decide⟩
    unfold fm_image
    generalize hN : 5000 = N
    simp -implicitDefEqProofs only [jn_, sp_T, bI_some, pu_eq, mir_ok h0, mir_ok h1, mir_ok h2, no, one_ne, ne_21, ne_31, le_11, le_21, le_31, if_true, if_false, reduceIte, rz0_]
    rfl
  refine Or.inl ?_
  exact im_ok hx hm h0 h1 h2 ev2
def tk_reach (s : wt_S) (a0 : Int32) (a1 : Int32) (a2 : Int32) (k : Nat) : Prop := (fx_needRegister a0 = none ∧ k = 1) ∨ (fx_needRegister a0 = some () ∧ fx_needRegister a1 = none ∧ k = 1) ∨ (fx_needRegister a0 = some () ∧ fx_needRegister a1 = some () ∧ fx_needRegister a2 = none ∧ k = 1) ∨ (fx_needRegister a0 = some () ∧ fx_needRegister a1 = some () ∧ fx_needRegister a2 = some () ∧ fy_needSet s a2 = some () ∧ k = 2)
set_option maxHeartbeats 2000000 in
theorem sp_reach (h : sy_ s t) (a0 : Int32) (a1 : Int32) (a2 : Int32)  : (∃ x s2 t2, fx_reach s a0 a1 a2 = some (x, s2) ∧ fm_reach t a0 a1 a2 = some (x, t2) ∧ sy_ s2 t2 ∧ t2.1 9 0 = 0) ∨ (∃ k x t2, tk_reach s a0 a1 a2 k ∧ fm_reach t a0 a1 a2 = some (x, t2) ∧ sy_ s t2 ∧ t2.1 9 0 = nI k ∧ 0 < k ∧ k < 4) := by
  obtain ⟨F, o, hx, hm⟩ := id h
  obtain ⟨lev, g, rt, hh⟩ := id hx
  rcases rg_c a0 with ⟨r0, h0, rfl⟩ | ⟨c0, n0⟩
  rotate_left
  · have c0x := c0
    refine Or.inr ⟨1, 0, zc_ t 1, Or.inl ⟨c0, rfl⟩, ?_, zc_sy 1 h, zc_c t 1, by decide, by decide⟩
    unfold fm_reach
    generalize hN : 5000 = N
    simp -implicitDefEqProofs only [jn_, sp_T, bI_some, pu_eq, n0, one_ne, ne_21, ne_31, le_11, le_21, le_31, if_true, if_false, reduceIte, rz0_]
    rfl
  rcases rg_c a1 with ⟨r1, h1, rfl⟩ | ⟨c1, n1⟩
  rotate_left
  · have c1x := c1
    refine Or.inr ⟨1, 0, zc_ t 1, Or.inr (Or.inl ⟨(nr_ok h0), c1, rfl⟩), ?_, zc_sy 1 h, zc_c t 1, by decide, by decide⟩
    unfold fm_reach
    generalize hN : 5000 = N
    simp -implicitDefEqProofs only [jn_, sp_T, bI_some, pu_eq, mir_ok h0, n1, one_ne, ne_21, ne_31, le_11, le_21, le_31, if_true, if_false, reduceIte, rz0_]
    rfl
  rcases rg_c a2 with ⟨r2, h2, rfl⟩ | ⟨c2, n2⟩
  rotate_left
  · have c2x := c2
    refine Or.inr ⟨1, 0, zc_ t 1, Or.inr (Or.inr (Or.inl ⟨(nr_ok h0), (nr_ok h1), c2, rfl⟩)), ?_, zc_sy 1 h, zc_c t 1, by decide, by decide⟩
    unfold fm_reach
    generalize hN : 5000 = N
    simp -implicitDefEqProofs only [jn_, sp_T, bI_some, pu_eq, mir_ok h0, mir_ok h1, n2, one_ne, ne_21, ne_31, le_11, le_21, le_31, if_true, if_false, reduceIte, rz0_]
    rfl
  by_cases ev2 : ev_ (F r2)
  rotate_left
  · have no := (iss_ok hm h2 (rd_on hh h2)).2 ev2
    refine Or.inr ⟨2, 0, zc_ t 2, Or.inr (Or.inr (Or.inr (⟨(nr_ok h0), (nr_ok h1), (nr_ok h2), ns_no hh h2 ev2, rfl⟩))), ?_, zc_sy 2 h, zc_c t 2, by decide, by decide⟩
    unfold fm_reach
    generalize hN : 5000 = N
    simp -implicitDefEqProofs only [jn_, sp_T, bI_some, pu_eq, mir_ok h0, mir_ok h1, mir_ok h2, no, one_ne, ne_21, ne_31, le_11, le_21, le_31, if_true, if_false, reduceIte, rz0_]
    rfl
  refine Or.inl ?_
  exact re_ok hx hm h0 h1 h2 ev2
def tk_check (s : wt_S) (a0 : Int32) (a1 : Int32) (a2 : Int32) (a3 : Int32) (a4 : Int32) (k : Nat) : Prop := (fx_needRegister a0 = none ∧ k = 1) ∨ (fx_needRegister a0 = some () ∧ fx_needRegister a1 = none ∧ k = 1) ∨ (fx_needRegister a0 = some () ∧ fx_needRegister a1 = some () ∧ fx_needRegister a3 = none ∧ k = 1) ∨ (fx_needRegister a0 = some () ∧ fx_needRegister a1 = some () ∧ fx_needRegister a3 = some () ∧ fx_needRegister a4 = none ∧ k = 1) ∨ (fx_needRegister a0 = some () ∧ fx_needRegister a1 = some () ∧ fx_needRegister a3 = some () ∧ fx_needRegister a4 = some () ∧ fx_needBelow a2 (8 : Int32) = none ∧ k = 2) ∨ (fx_needRegister a0 = some () ∧ fx_needRegister a1 = some () ∧ fx_needRegister a3 = some () ∧ fx_needRegister a4 = some () ∧ fx_needBelow a2 (8 : Int32) = some () ∧ fy_needSet s a3 = some () ∧ k = 3) ∨ (fx_needRegister a0 = some () ∧ fx_needRegister a1 = some () ∧ fx_needRegister a3 = some () ∧ fx_needRegister a4 = some () ∧ fx_needBelow a2 (8 : Int32) = some () ∧ fx_needSet s a3 = some () ∧ fy_needSet s a4 = some () ∧ k = 3)
set_option maxHeartbeats 2000000 in
theorem sp_check (h : sy_ s t) (a0 : Int32) (a1 : Int32) (a2 : Int32) (a3 : Int32) (a4 : Int32)  : (∃ x s2 t2, fx_check s a0 a1 a2 a3 a4 = some (x, s2) ∧ fm_check t a0 a1 a2 a3 a4 = some (x, t2) ∧ sy_ s2 t2 ∧ t2.1 9 0 = 0) ∨ (∃ k x t2, tk_check s a0 a1 a2 a3 a4 k ∧ fm_check t a0 a1 a2 a3 a4 = some (x, t2) ∧ sy_ s t2 ∧ t2.1 9 0 = nI k ∧ 0 < k ∧ k < 4) := by
  obtain ⟨F, o, hx, hm⟩ := id h
  obtain ⟨lev, g, rt, hh⟩ := id hx
  rcases rg_c a0 with ⟨r0, h0, rfl⟩ | ⟨c0, n0⟩
  rotate_left
  · have c0x := c0
    refine Or.inr ⟨1, 0, zc_ t 1, Or.inl ⟨c0, rfl⟩, ?_, zc_sy 1 h, zc_c t 1, by decide, by decide⟩
    unfold fm_check
    generalize hN : 5000 = N
    simp -implicitDefEqProofs only [jn_, sp_T, bI_some, pu_eq, n0, one_ne, ne_21, ne_31, le_11, le_21, le_31, if_true, if_false, reduceIte, rz0_]
    rfl
  rcases rg_c a1 with ⟨r1, h1, rfl⟩ | ⟨c1, n1⟩
  rotate_left
  · have c1x := c1
    refine Or.inr ⟨1, 0, zc_ t 1, Or.inr (Or.inl ⟨(nr_ok h0), c1, rfl⟩), ?_, zc_sy 1 h, zc_c t 1, by decide, by decide⟩
    unfold fm_check
    generalize hN : 5000 = N
    simp -implicitDefEqProofs only [jn_, sp_T, bI_some, pu_eq, mir_ok h0, n1, one_ne, ne_21, ne_31, le_11, le_21, le_31, if_true, if_false, reduceIte, rz0_]
    rfl
  rcases rg_c a3 with ⟨r3, h3, rfl⟩ | ⟨c3, n3⟩
  rotate_left
  · have c3x := c3
    refine Or.inr ⟨1, 0, zc_ t 1, Or.inr (Or.inr (Or.inl ⟨(nr_ok h0), (nr_ok h1), c3, rfl⟩)), ?_, zc_sy 1 h, zc_c t 1, by decide, by decide⟩
    unfold fm_check
    generalize hN : 5000 = N
    simp -implicitDefEqProofs only [jn_, sp_T, bI_some, pu_eq, mir_ok h0, mir_ok h1, n3, one_ne, ne_21, ne_31, le_11, le_21, le_31, if_true, if_false, reduceIte, rz0_]
    rfl
  rcases rg_c a4 with ⟨r4, h4, rfl⟩ | ⟨c4, n4⟩
  rotate_left
  · have c4x := c4
    refine Or.inr ⟨1, 0, zc_ t 1, Or.inr (Or.inr (Or.inr (Or.inl ⟨(nr_ok h0), (nr_ok h1), (nr_ok h3), c4, rfl⟩))), ?_, zc_sy 1 h, zc_c t 1, by decide, by decide⟩
    unfold fm_check
    generalize hN : 5000 = N
    simp -implicitDefEqProofs only [jn_, sp_T, bI_some, pu_eq, mir_ok h0, mir_ok h1, mir_ok h3, n4, one_ne, ne_21, ne_31, le_11, le_21, le_31, if_true, if_false, reduceIte, rz0_]
    rfl
  rcases be_c 8 (by decide) (by decide) a2 with ⟨r2, h2, rfl⟩ | ⟨c2, n2⟩
  rotate_left
  · have c2x := c2
    have n2 : fm_in a2 (0 : Int32) (7 : Int32) = some 0 := n2
    refine Or.inr ⟨2, 0, zc_ t 2, Or.inr (Or.inr (Or.inr (Or.inr (Or.inl ⟨(nr_ok h0), (nr_ok h1), (nr_ok h3), (nr_ok h4), c2, rfl⟩)))), ?_, zc_sy 2 h, zc_c t 2, by decide, by decide⟩
    unfold fm_check
    generalize hN : 5000 = N
    simp -implicitDefEqProofs only [jn_, sp_T, bI_some, pu_eq, mir_ok h0, mir_ok h1, mir_ok h3, mir_ok h4, n2, one_ne, ne_21, ne_31, le_11, le_21, le_31, if_true, if_false, reduceIte, rz0_]
    rfl
  by_cases ev3 : ev_ (F r3)
  rotate_left
  · have no := (iss_ok hm h3 (rd_on hh h3)).2 ev3
    refine Or.inr ⟨3, 0, zc_ t 3, Or.inr (Or.inr (Or.inr (Or.inr (Or.inr (Or.inl ⟨(nr_ok h0), (nr_ok h1), (nr_ok h3), (nr_ok h4), (nb_ok h2 (by decide)), ns_no hh h3 ev3, rfl⟩))))), ?_, zc_sy 3 h, zc_c t 3, by decide, by decide⟩
    unfold fm_check
    generalize hN : 5000 = N
    simp -implicitDefEqProofs only [jn_, sp_T, bI_some, pu_eq, mir_ok h0, mir_ok h1, mir_ok h3, mir_ok h4, (show fm_in (nI r2) (0 : Int32) (7 : Int32) = some 1 from min_ok (b := 0) (c := 7) (Nat.zero_le _) (by omega) (by decide)), no, one_ne, ne_21, ne_31, le_11, le_21, le_31, if_true, if_false, reduceIte, rz0_]
    rfl
  by_cases ev4 : ev_ (F r4)
  rotate_left
  · have no := (iss_ok hm h4 (rd_on hh h4)).2 ev4
    have yes3 := (iss_ok hm h3 (rd_on hh h3)).1 ev3
    refine Or.inr ⟨3, 0, zc_ t 3, Or.inr (Or.inr (Or.inr (Or.inr (Or.inr (Or.inr (⟨(nr_ok h0), (nr_ok h1), (nr_ok h3), (nr_ok h4), (nb_ok h2 (by decide)), ns_x hh h3 ev3, ns_no hh h4 ev4, rfl⟩)))))), ?_, zc_sy 3 h, zc_c t 3, by decide, by decide⟩
    unfold fm_check
    generalize hN : 5000 = N
    simp -implicitDefEqProofs only [jn_, sp_T, bI_some, pu_eq, mir_ok h0, mir_ok h1, mir_ok h3, mir_ok h4, (show fm_in (nI r2) (0 : Int32) (7 : Int32) = some 1 from min_ok (b := 0) (c := 7) (Nat.zero_le _) (by omega) (by decide)), yes3, no, one_ne, ne_21, ne_31, le_11, le_21, le_31, if_true, if_false, reduceIte, rz0_]
    rfl
  refine Or.inl ?_
  exact chk_ok hx hm h0 h1 h2 h3 h4 ev3 ev4
end ST
