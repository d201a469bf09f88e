/-! faults: none. My own. -/
section FA
variable {s : wt_S} {lev at_ : Nat → Nat} {g : gh_} {rt : Nat → Nat} {F : Nat → mb_F}
theorem bl_lev (ho : or_ lev at_) (hr : rp_ s lev at_ g) (hg : gi_ lev g) {n : Nat} (hn : gk_ g n) (x : Int32) (hx : x < nI (lev (g.1 n))) : fd_blameUnder s x (nI n) = some s := by
  have l8 := gi_lab8 hg hn
  unfold fd_blameUnder
  rw [rc_at hn.1 (by decide), hr.2.2.1 n hn.1]
  dsimp only [jn_]
  rw [if_neg (cL_ne (by omega)), rc_at hn.1 (by decide), hr.2.2.1 n hn.1, cL_lt (by omega), rc_at (by omega) (by decide), hr.1 _ l8, if_pos hx]
theorem bl_one (ho : or_ lev at_) (hr : rp_ s lev at_ g) (hg : gi_ lev g) (hcs : cs_ s g (fun _ => True)) {n : Nat} (hn : n < 2048) (hl : g.1 n < 8) : fd_blame s (nI n) = some s := by
  obtain ⟨c0, c1⟩ := gi_lo hg hn hl
  obtain ⟨q1, q2, -, -, l1, l2, ne, -⟩ := hg.2.2.1 n hn hl
  obtain ⟨r4, r5⟩ := hr.2.2.2 n hn hl
  have r3 := hr.2.2.1 n hn
  rw [cL_lt (by omega)] at r3
  have e0 := or_le ho (gi_lab8 hg c0)
  have e1 := or_le ho (gi_lab8 hg c1)
  obtain ⟨C, hC1, hC2⟩ := hcs
  have bk : bk_ (g.1 n) (g.2.1 n) (g.2.2.1 n) < 256 := Nat.mod_lt _ (by decide)
  obtain ⟨k1, k2, k3⟩ := hC1 _ bk
  have mem := hC2 n hn hl trivial
  have fnd : fd_found s (nI (bk_ (g.1 n) (g.2.1 n) (g.2.2.1 n))) (nI (g.1 n)) (nI (g.2.1 n)) (nI (g.2.2.1 n)) = some (nI n) := by
    rw [fo_spec bk k1 (ch_len k1 k2)]
    have me : ch_is s (nI (g.1 n)) (nI (g.2.1 n)) (nI (g.2.2.1 n)) n = true := by
      unfold ch_is
      rw [r3, r4, r5]
      simp
    cases hf : (C (bk_ (g.1 n) (g.2.1 n) (g.2.2.1 n))).find? (ch_is s (nI (g.1 n)) (nI (g.2.1 n)) (nI (g.2.2.1 n))) with
    | none =>
      have := List.find?_eq_none.mp hf n mem
      exact absurd me this
    | some m =>
      have m1 := List.find?_some hf
      have m2 := List.mem_of_find?_eq_some hf
      have ml := k3 m m2
      have m48 := (ch_in _ _ k1 m m2).2
      obtain ⟨d1, d2, -⟩ := hg.2.2.1 m m48 ml
      unfold ch_is at m1
      rw [hr.2.2.1 m m48, (hr.2.2.2 m m48 ml).1, (hr.2.2.2 m m48 ml).2, cL_lt (by omega)] at m1
      simp only [Bool.and_eq_true, decide_eq_true_eq] at m1
      have a1 := nI_inj (by omega) (by omega) m1.1.1
      have a2 := nI_inj (by omega) (by omega) m1.1.2
      have a3 := nI_inj (by omega) (by omega) m1.2
      have : m = n := hg.2.2.2 m n ⟨m48, by omega⟩ ⟨hn, by omega⟩ (by
        rw [(hg.2.2.1 m m48 ml).2.2.2.2.2.2.2, (hg.2.2.1 n hn hl).2.2.2.2.2.2.2, a1, a2, a3])
      rw [this]
  unfold fd_blame
  rw [rc_at hn (by decide), rc_at hn (by decide), rc_at hn (by decide), r3, r4, r5, bu_ok _ _ _ (by omega) q1 q2, bI_some, rc_at hn (by decide), rc_at hn (by decide), rc_at hn (by decide), r3, r4, r5, fnd, bI_some]
  dsimp only [jn_]
  rw [if_pos rfl, if_pos rfl, rc_at hn (by decide), rc_at hn (by decide), r4, r5, if_neg (fun z => ne (nI_inj (by omega) (by omega) z)), rc_at hn (by decide), r3, rc_at (by omega) (by decide), hr.1 _ (by omega), rc_at hn (by decide), r4, bl_lev ho hr hg c0 _ (nI_lt l1 (by omega)), bS_some, rc_at hn (by decide), r3, rc_at (by omega) (by decide), hr.1 _ (by omega), rc_at hn (by decide), r5, bl_lev ho hr hg c1 _ (nI_lt l2 (by omega)), bS_some]
theorem fa_6 (h : rd0_ s lev at_ g rt F) (K : wt_S → Option (Int32 × wt_S)) : ∀ (d n i : Nat), i + d = 20 → d < n → fd_faults_L6 K n (nI i) s = K s := by
  obtain ⟨ho, hr, hg, -, -, hrt, -⟩ := h.1
  intro d
  induction d with
  | zero =>
    intro n i h1 hn
    cases n with
    | zero => omega
    | succ n => rw [fd_faults_L6, if_pos (show (20 : Int32) ≤ nI i from nI_le (a := 20) (by omega) (by omega))]
  | succ d ih =>
    intro n i h1 hn
    cases n with
    | zero => omega
    | succ n =>
      obtain ⟨e, k⟩ := hrt i (by omega)
      have l8 := or_le ho (gi_lab8 hg k)
      rw [fd_faults_L6, if_neg (show ¬ (20 : Int32) ≤ nI i from nI_ge (b := 20) (by omega) (by decide)), rc_at (by omega) (by decide), e, bl_lev ho hr hg k _ (by
        apply Int32.lt_iff_toInt_lt.mpr
        rw [nI_toInt (by omega)]
        have : (-1 : Int32).toInt = -1 := by decide
        omega), bS_some, nI_1]
      exact ih n (i + 1) (by omega) (by omega)
theorem fa_31 (h : rd0_ s lev at_ g rt F) {e : Nat} (he : s 9 1 = nI e) (e48 : e ≤ 2048) (K : wt_S → Option (Int32 × wt_S)) : ∀ (d n i : Nat), i + d = e → 2 ≤ i → d < n → fd_faults_L31 K n (nI i) s = K s := by
  obtain ⟨ho, hr, hg, hcs, -⟩ := h.1
  intro d
  induction d with
  | zero =>
    intro n i h1 h2 hn
    cases n with
    | zero => omega
    | succ n => rw [fd_faults_L31, he, if_pos (nI_le (by omega) (by omega))]
  | succ d ih =>
    intro n i h1 h2 hn
    cases n with
    | zero => omega
    | succ n =>
      rw [fd_faults_L31, he, if_neg (nI_ge (by omega) (by omega)), rc_at (by omega) (by decide), hr.2.2.1 i (by omega)]
      dsimp only [jn_]
      rcases hg.2.1 i (by omega) h2 with c | c
      · rw [c, cL_9, if_pos rfl, nI_1]
        exact ih n (i + 1) (by omega) (by omega) (by omega)
      · rw [if_neg (cL_ne (by omega)), bl_one ho hr hg hcs (by omega) c, bS_some, nI_1]
        exact ih n (i + 1) (by omega) (by omega) (by omega)
theorem fa_64 {e : Nat} (he : s 9 1 = nI e) (e48 : e ≤ 2048) (hz : ∀ j, s 8 j = 0) : ∀ (d n i : Nat), i + d = e → d < n → fd_faults_L64 s n 0 (nI i) = some (0, s) := by
  intro d
  induction d with
  | zero =>
    intro n i h1 hn
    cases n with
    | zero => omega
    | succ n => rw [fd_faults_L64, he, if_pos (nI_le (by omega) (by omega))]
  | succ d ih =>
    intro n i h1 hn
    cases n with
    | zero => omega
    | succ n =>
      rw [fd_faults_L64, he, if_neg (nI_ge (by omega) (by omega)), rc_at (by omega) (by decide), hz i]
      dsimp only [jn_]
      rw [if_pos rfl, nI_1]
      exact ih n (i + 1) (by omega) (by omega)
theorem fa_ok (h : rd0_ s lev at_ g rt F) : ∃ s', fd_faults s = some (0, s') ∧ rd0_ s' lev at_ g rt F := by
  obtain ⟨⟨ho, hr, hg, hcs, ⟨c, e, hc, he, hc2, hc3, he2, he3, hbelow, hend⟩, hrt, hre, hlive, hmark⟩, hz, hF⟩ := id h
  obtain ⟨s1, q1, m1, z1, z2⟩ := cm_ok he he3
  have zero : ∀ j, s1 8 j = 0 := fun j => by
    rcases Nat.lt_or_ge j e with c | c
    · exact z1 j c
    · rw [z2 j c]
      apply Classical.byContradiction
      intro q
      have k := hmark j q
      exact k.2 (hend j c k.1)
  have h1 : rd0_ s1 lev at_ g rt F := by
    refine ⟨⟨ho, m8_rp m1 hr, hg, ?_, ⟨c, e, by rw [m1 9 2 (by decide)]; exact hc, by rw [m1 9 1 (by decide)]; exact he, hc2, hc3, he2, he3, hbelow, hend⟩, fun i hi => ⟨by rw [m1 0 i (by decide)]; exact (hrt i hi).1, (hrt i hi).2⟩, hre, by rw [m1 9 0 (by decide)]; exact hlive, fun j hj => absurd (zero j) hj⟩, hz, hF⟩
    obtain ⟨C, hC1, hC2⟩ := hcs
    refine ⟨C, fun b hb => ?_, hC2⟩
    obtain ⟨d1, d2, d3⟩ := hC1 b hb
    rw [m1 7 b (by decide)]
    exact ⟨ch_keep _ _ (fun n _ => m1 6 n (by decide)) d1, d2, d3⟩
  have he' : s1 9 1 = nI e := by rw [m1 9 1 (by decide)]; exact he
  refine ⟨s1, ?_, h1⟩
  unfold fd_faults
  rw [q1, bS_some, show (0 : Int32) = nI 0 from nI_0.symm, fa_6 h1 _ 20 5000 0 (by omega) (by omega), show (2 : Int32) = nI 2 from rfl, fa_31 h1 he' he3 _ (e - 2) 5000 2 (by omega) (by omega) (by omega), nI_0]
  exact fa_64 he' he3 zero (e - 2) 5000 2 (by omega) (by omega)
end FA
theorem sA_ok {s : wt_S} {t : wt_M} (h : sy_ s t) : ∃ r s' t', fx_astray s = some (r, s') ∧ fm_astray t = some (r, t') ∧ sy_ s' t' ∧ t'.1 9 0 = 0 := by
  obtain ⟨F, o, ⟨lev, g, rt, hh⟩, hm⟩ := h
  obtain ⟨s', e, h'⟩ := fa_ok hh
  refine ⟨0, s', z0_ t, ?_, ?_, ⟨F, o, ⟨lev, g, rt, h'⟩, z0_mo hm⟩, z0_c t⟩
  · unfold fx_astray
    rw [e, bIS_some]
  · rw [fm_astray, sp_T]
    rfl
