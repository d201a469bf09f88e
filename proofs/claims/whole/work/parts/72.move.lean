/-! nodes, heap, order, swap, place, sift: class and reference side by side. My own. -/
def sy_ (s : wt_S) (t : wt_M) : Prop := ∃ F o, cx_ s F o ∧ mo_ t F o
/-- how many: the heap under an order -/
def hq_ (F : Nat → mb_F) (o : Nat → Nat) (n : Nat) : Prop := ∃ l, lo_ (fun h => ∃ i, i < 16 ∧ ns_ o (F i) h) l ∧ l.length = n
theorem hq_eq {F : Nat → mb_F} {o : Nat → Nat} {a b : Nat} (h : hq_ F o a) (k : hq_ F o b) : a = b := by
  obtain ⟨l, h1, rfl⟩ := h
  obtain ⟨m, h2, rfl⟩ := k
  exact lo_len h1 h2
theorem hq_lt {s : wt_S} {F : Nat → mb_F} {o : Nat → Nat} (h : cx_ s F o) {n : Nat} (k : hq_ F o n) : n ≤ 752 := by
  obtain ⟨lev, g, rt, hh⟩ := id h
  obtain ⟨l, h1, rfl⟩ := k
  exact c_len (R := fun r => r < 16) hh.1.1 (fun r hr => cx_on h hr) (fun r hr => hr) h1.1 (fun u hu => by
    obtain ⟨i, hi, -, k, a, -, e⟩ := (h1.2 u).mp hu
    exact ⟨k, i, hi, a, e⟩)
theorem lv_x {s : wt_S} {F : Nat → mb_F} {o : Nat → Nat} (h : cx_ s F o) : ∃ n, hq_ F o n ∧ fd_live s = some (nI n) := by
  obtain ⟨lev, g, rt, hh⟩ := h
  obtain ⟨l, h1, -⟩ := hp_ok hh
  exact ⟨l.length, ⟨l, h1, rfl⟩, hp_x hh h1⟩
theorem lv_m {s : wt_S} {t : wt_M} {F : Nat → mb_F} {o : Nat → Nat} (h : cx_ s F o) (hm : mo_ t F o) (hz : t.1 9 0 = 0) {n : Nat} (hn : hq_ F o n) : ∃ t', fm_nodesOf t 0 15 = some (nI n, t') ∧ mo_ t' F o ∧ t'.1 9 0 = 0 := by
  obtain ⟨lev, g, rt, hh⟩ := id h
  obtain ⟨t', C, e, m', z', l'⟩ := nof_ok (a := 0) (b := 15) hh.1.1 (fun r hr => cx_on h hr) (by decide) (by decide) hm hz
  refine ⟨t', ?_, m', z'⟩
  have : C.length = n := hq_eq ⟨C, ⟨l'.1, fun f => (l'.2 f).trans ⟨fun ⟨r, hr, q⟩ => ⟨r, by omega, q⟩, fun ⟨r, hr, q⟩ => ⟨r, ⟨Nat.zero_le _, by omega⟩, q⟩⟩⟩, rfl⟩ hn
  rw [← this]
  exact e
section SY
variable {s : wt_S} {t : wt_M}
theorem sn_ok (h : sy_ s t) {a : Nat} (ha : a < 16) : ∃ r s' t', fx_nodes s (nI a) = some (r, s') ∧ fm_nodes t (nI a) = some (r, t') ∧ sy_ s' t' ∧ t'.1 9 0 = 0 := by
  obtain ⟨F, o, hx, hm⟩ := h
  obtain ⟨lev, g, rt, hh⟩ := id hx
  obtain ⟨t', C, e, m', z', l'⟩ := nof_ok (a := a) (b := a) hh.1.1 (fun r hr => cx_on hx hr) (Nat.le_refl _) ha (z0_mo hm) (z0_c t)
  have lo : lo_ (ns_ o (F a)) C := ⟨l'.1, fun f => (l'.2 f).trans ⟨fun ⟨r, hr, q⟩ => by
    have : r = a := by omega
    rw [← this]; exact q, fun q => ⟨a, ⟨Nat.le_refl _, by omega⟩, q⟩⟩⟩
  obtain ⟨s', e1, h1⟩ := no_x hh ha lo
  refine ⟨nI C.length, s', t', e1, ?_, ⟨F, o, ⟨lev, g, rt, h1⟩, m'⟩, z'⟩
  rw [fm_nodes, mir_ok ha, bI_some, jn_, if_neg one_ne]
  show sp_T t 0 (0 : Int32) _ = _
  rw [sp_T]
  show jn_ _ _ = _
  rw [jn_]
  show (if (z0_ t).1 9 0 ≤ (0 : Int32) then b_IT (fm_nodesOf (z0_ t) (nI a) (nI a)) _ else _) = _
  rw [if_pos (by rw [z0_c]; decide), e, bIT_some]
theorem sh_ok (h : sy_ s t) : ∃ r t', fx_heap s = some r ∧ fm_heap t = some (r, t') ∧ sy_ s t' ∧ t'.1 9 0 = 0 := by
  obtain ⟨F, o, hx, hm⟩ := h
  obtain ⟨n, hn, e⟩ := lv_x hx
  obtain ⟨t', e1, m', z'⟩ := lv_m hx (z0_mo hm) (z0_c t) hn
  refine ⟨nI n, t', by unfold fx_heap; rw [e, bI_some], ?_, ⟨F, o, hx, m'⟩, z'⟩
  rw [fm_heap, sp_T]
  show b_IT (fm_nodesOf (z0_ t) 0 15) _ = _
  rw [e1, bIT_some]
theorem so_ok (h : sy_ s t) {k : Nat} (hk : k < 8) : ∃ r t', fx_order s (nI k) = some r ∧ fm_order t (nI k) = some (r, t') ∧ sy_ s t' ∧ t'.1 9 0 = 0 := by
  obtain ⟨F, o, hx, hm⟩ := h
  obtain ⟨lev, g, rt, hh⟩ := id hx
  refine ⟨nI (o k), z0_ t, ?_, ?_, ⟨F, o, hx, z0_mo hm⟩, z0_c t⟩
  · unfold fx_order fd_variableAt
    rw [show (8 : Int32) = nI 8 from rfl, nl_ok hk (by decide), bU_some, rc_at hk (by decide), hh.1.2.1.2.1 k hk, bI_some]
  · rw [fm_order, show fm_in (nI k) (0 : Int32) (7 : Int32) = some 1 from min_ok (b := 0) (c := 7) (Nat.zero_le _) (by omega) (by decide), bI_some, jn_, if_neg one_ne]
    show sp_T t 0 (0 : Int32) _ = _
    rw [sp_T]
    show jn_ _ _ = _
    rw [jn_]
    show (if (z0_ t).1 9 0 ≤ (0 : Int32) then rd_ ((z0_ t).1 0) 8 (nI k) _ else _) = _
    rw [if_pos (by rw [z0_c]; decide), rc_at hk (by decide), (z0_mo hm).2.1 k hk]
    rfl
theorem sw_ok (h : sy_ s t) {k : Nat} (hk : k < 7) : ∃ r s' t', fx_swap s (nI k) = some (r, s') ∧ fm_swap t (nI k) = some (r, t') ∧ sy_ s' t' ∧ t'.1 9 0 = 0 := by
  obtain ⟨F, o, hx, hm⟩ := h
  obtain ⟨lev, g, rt, hh⟩ := id hx
  obtain ⟨s', lev', g', e, h'⟩ := ex_x hh hk
  have hx' : cx_ s' F (ax_ o (o k) (o (k + 1)) k) := ⟨lev', g', rt, h'⟩
  obtain ⟨n, hn, e1⟩ := lv_x hx'
  have z0 := z0_mo hm
  have m1 : mo_ (pu_S (pu_S (z0_ t).1 0 k ((z0_ t).1 0 (k + 1))) 0 (k + 1) ((z0_ t).1 0 k), (z0_ t).2) F (ax_ o (o k) (o (k + 1)) k) := by
    refine ⟨z0.1, fun j hj => ?_, z0.2.2⟩
    show pu_S (pu_S (z0_ t).1 0 k ((z0_ t).1 0 (k + 1))) 0 (k + 1) ((z0_ t).1 0 k) 0 j = nI (if j = k then o (k + 1) else if j = k + 1 then o k else o j)
    by_cases c : j = k + 1
    · subst c; rw [pu_eq, if_neg (by omega), if_pos rfl]; exact z0.2.1 k (by omega)
    · rw [pu_ne c]
      by_cases d : j = k
      · subst d; rw [pu_eq, if_pos rfl]; exact z0.2.1 (j + 1) (by omega)
      · rw [pu_ne d, if_neg d, if_neg c]; exact z0.2.1 j hj
  obtain ⟨t', e2, m', z'⟩ := lv_m hx' m1 (by
    show pu_S (pu_S (z0_ t).1 0 k ((z0_ t).1 0 (k + 1))) 0 (k + 1) ((z0_ t).1 0 k) 9 0 = 0
    rw [pu_row (by decide), pu_row (by decide)]; exact z0_c t) hn
  refine ⟨nI n, s', t', ?_, ?_, ⟨F, _, hx', m'⟩, z'⟩
  · unfold fx_swap
    rw [show (7 : Int32) = nI 7 from rfl, nl_ok hk (by decide), bU_some, e, bS_some, e1, bI_some]
  · rw [fm_swap, show fm_in (nI k) (0 : Int32) (6 : Int32) = some 1 from min_ok (b := 0) (c := 6) (Nat.zero_le _) (by omega) (by decide), bI_some, jn_, if_neg one_ne]
    show sp_T t 0 (0 : Int32) _ = _
    rw [sp_T]
    show (if (z0_ t).1 9 0 ≤ (0 : Int32) then rd_ ((z0_ t).1 0) 8 (nI k) (fun v33 => rd_ ((z0_ t).1 0) 8 (nI k + 1) fun v47 => wr_T (z0_ t) 0 8 (nI k) v47 fun t48 => wr_T t48 0 8 (nI k + 1) v33 fun t57 => b_IT (fm_nodesOf t57 (0 : Int32) (15 : Int32)) fun r62 t62 => some (r62, t62)) else _) = _
    rw [if_pos (by rw [z0_c]; decide), rc_at (by omega) (by decide), nI_1, rc_at (by omega) (by decide), wc_T (by omega) (by decide), wc_T (by omega) (by decide)]
    show b_IT (fm_nodesOf (pu_S (pu_S (z0_ t).1 0 k ((z0_ t).1 0 (k + 1))) 0 (k + 1) ((z0_ t).1 0 k), (z0_ t).2) 0 15) _ = _
    rw [e2, bIT_some]
theorem pl_ok (h : sy_ s t) {v w : Nat} (hv : v < 8) (hw : w < 8) : ∃ r s' t', fx_place s (nI v) (nI w) = some (r, s') ∧ fm_place t (nI v) (nI w) = some (r, t') ∧ sy_ s' t' ∧ t'.1 9 0 = 0 := by
  obtain ⟨F, o, hx, hm⟩ := h
  obtain ⟨lev, g, rt, hh⟩ := id hx
  have lv := hh.1.1.1 v hv
  have self : mv_ o (lev v) v (lev v) = o := mv_self lv.2
  obtain ⟨s', e, hx'⟩ := mov_ok (F := F) (o := o) (p := lev v) (v := v) lv.1 hw (s := s) (by rw [self]; exact hx)
  obtain ⟨n, hn, e1⟩ := lv_x hx'
  obtain ⟨t1, e2, m1, z1⟩ := lay_ok hh.1.1 hw lv.1 lv.2 (z0_mo hm)
  obtain ⟨t', e3, m', z'⟩ := lv_m hx' m1 (z1.trans (z0_c t)) hn
  refine ⟨nI n, s', t', ?_, ?_, ⟨F, _, hx', m'⟩, z'⟩
  · unfold fx_place
    rw [nv_ok hv, bU_some, show (8 : Int32) = nI 8 from rfl, nl_ok hw (by decide), bU_some, e, bS_some, e1, bI_some]
  · rw [fm_place, miv_ok hv, bI_some, jn_, jn_, if_neg one_ne, show fm_in (nI w) (0 : Int32) (7 : Int32) = some 1 from min_ok (b := 0) (c := 7) (Nat.zero_le _) (by omega) (by decide), bI_some, if_neg one_ne]
    show sp_T t 0 (0 : Int32) _ = _
    rw [sp_T]
    show (if (z0_ t).1 9 0 ≤ (0 : Int32) then b_T (fm_lay (z0_ t) (nI v) (nI w)) (fun t38 => b_IT (fm_nodesOf t38 (0 : Int32) (15 : Int32)) fun r45 t45 => some (r45, t45)) else _) = _
    rw [if_pos (by rw [z0_c]; decide), e2, bT_some, e3, bIT_some]
theorem si_loop {F : Nat → mb_F} {o : Nat → Nat} {p v : Nat} (hp : p < 8) (Kx : Int32 → wt_S → Option (Int32 × wt_S)) (Km : Int32 → Int32 → wt_M → Option (Int32 × wt_M)) : ∀ (d n m l b c : Nat) (s : wt_S) (t : wt_M) (q : Nat), l + d = 8 → d < n → d < m → q < 8 → b < 8 → c ≤ 752 → cx_ s F (mv_ o p v q) → mo_ t F (mv_ o p v q) → t.1 9 0 = 0 → hq_ F (mv_ o p v b) c →
    ∃ (b' c' q' : Nat) (s' : wt_S) (t' : wt_M), fx_sift_L26 (nI v) Kx n (nI b) (nI c) (nI l) s = Kx (nI b') s' ∧ fm_sift_L33 (nI v) Km m (nI b) (nI c) (nI l) t = Km (nI b') (nI c') t' ∧ q' < 8 ∧ b' < 8 ∧ cx_ s' F (mv_ o p v q') ∧ mo_ t' F (mv_ o p v q') ∧ t'.1 9 0 = 0 ∧ hq_ F (mv_ o p v b') c' := by
  intro d
  induction d with
  | zero =>
    intro n m l b c s t q h1 hn hmm hq hb hc hx hm hz hh
    cases n with
    | zero => omega
    | succ n =>
      cases m with
      | zero => omega
      | succ m =>
        rw [fx_sift_L26, if_pos (show (8 : Int32) ≤ nI l from nI_le (a := 8) (by omega) (by omega)), fm_sift_L33, if_pos (show (8 : Int32) ≤ nI l from nI_le (a := 8) (by omega) (by omega))]
        exact ⟨b, c, q, s, t, rfl, rfl, hq, hb, hx, hm, hz, hh⟩
  | succ d ih =>
    intro n m l b c s t q h1 hn hmm hq hb hc hx hm hz hh
    cases n with
    | zero => omega
    | succ n =>
      cases m with
      | zero => omega
      | succ m =>
        obtain ⟨s1, e1, hx1⟩ := mov_ok hq (show l < 8 by omega) hx
        obtain ⟨k, hk, e2⟩ := lv_x hx1
        obtain ⟨lev, g, rt, h0⟩ := id hx
        obtain ⟨t1, e3, m1, z1⟩ := lay_ok h0.1.1 (w := l) (by omega) hq (mv_eq o p v q) hm
        rw [mv_mv] at m1
        obtain ⟨t2, e4, m2, z2⟩ := lv_m hx1 m1 (z1.trans hz) hk
        have k752 := hq_lt hx1 hk
        have ge : ¬ (8 : Int32) ≤ nI l := nI_ge (b := 8) (by omega) (by decide)
        by_cases z : c ≤ k
        · obtain ⟨b', c', q', s', t', r1, r2, r3⟩ := ih n m (l + 1) b c s1 t2 l (by omega) (by omega) (by omega) (by omega) hb hc hx1 m2 z2 hh
          refine ⟨b', c', q', s', t', ?_, ?_, r3⟩
          · rw [fx_sift_L26, if_neg ge, e1, bS_some, e2, bI_some, jn_, if_pos (nI_le z (by omega)), nI_1]; exact r1
          · rw [fm_sift_L33, if_neg ge, e3, bT_some, e4, bIT_some, jn_, if_pos (nI_le z (by omega))]
            show jn_ _ _ = _
            rw [jn_, if_pos (nI_le z (by omega)), nI_1]; exact r2
        · obtain ⟨b', c', q', s', t', r1, r2, r3⟩ := ih n m (l + 1) l k s1 t2 l (by omega) (by omega) (by omega) (by omega) (by omega) k752 hx1 m2 z2 hk
          refine ⟨b', c', q', s', t', ?_, ?_, r3⟩
          · rw [fx_sift_L26, if_neg ge, e1, bS_some, e2, bI_some, jn_, if_neg (nI_ge (by omega) (by omega)), bI_some, nI_1]; exact r1
          · rw [fm_sift_L33, if_neg ge, e3, bT_some, e4, bIT_some, jn_, if_neg (nI_ge (by omega) (by omega))]
            show jn_ _ _ = _
            rw [jn_, if_neg (nI_ge (by omega) (by omega)), nI_1]; exact r2
theorem sf_ok (h : sy_ s t) {v : Nat} (hv : v < 8) : ∃ r s' t', fx_sift s (nI v) = some (r, s') ∧ fm_sift t (nI v) = some (r, t') ∧ sy_ s' t' ∧ t'.1 9 0 = 0 := by
  obtain ⟨F, o, hx, hm⟩ := h
  obtain ⟨lev, g, rt, hh⟩ := id hx
  have lv := hh.1.1.1 v hv
  have self : mv_ o (lev v) v (lev v) = o := mv_self lv.2
  obtain ⟨s1, e1, hx1⟩ := mov_ok (F := F) (o := o) (p := lev v) (v := v) lv.1 (show 0 < 8 by decide) (s := s) (by rw [self]; exact hx)
  obtain ⟨k, hk, e2⟩ := lv_x hx1
  have k752 := hq_lt hx1 hk
  obtain ⟨t1, e3, m1, z1⟩ := lay_ok hh.1.1 (w := 0) (by decide) lv.1 lv.2 (z0_mo hm)
  obtain ⟨t2, e4, m2, z2⟩ := lv_m hx1 m1 (z1.trans (z0_c t)) hk
  obtain ⟨b, c, q, s2, t3, r1, r2, q8, b8, hx2, m3, z3, hc⟩ := si_loop lv.1 (fun (z2_26 : Int32) (s_26 : wt_S) => b_S (fd_move s_26 (nI v) z2_26) fun s77 => b_I (fd_live s77) fun r84 => some (r84, s77)) (fun (z2_33 : Int32) (z3_33 : Int32) (t_33 : wt_M) => b_T (fm_lay t_33 (nI v) z2_33) fun t91 => some (z3_33, t91)) 7 5000 4999 1 0 k s1 t2 0 (by omega) (by omega) (by omega) (by decide) (by decide) k752 hx1 m2 z2 hk
  obtain ⟨s3, e5, hx3⟩ := mov_ok q8 b8 hx2
  obtain ⟨c', hc', e6⟩ := lv_x hx3
  have := hq_eq hc hc'
  subst this
  obtain ⟨lev2, g2, rt2, hh2⟩ := id hx2
  obtain ⟨t4, e7, m4, z4⟩ := lay_ok hh2.1.1 (w := b) b8 q8 (mv_eq o (lev v) v q) m3
  rw [mv_mv] at m4
  refine ⟨nI c, s3, t4, ?_, ?_, ⟨F, _, hx3, m4⟩, z4.trans z3⟩
  · unfold fx_sift
    rw [nv_ok hv, bU_some]
    rw [nI_0] at e1
    rw [e1, bS_some, e2, bI_some]
    rw [nI_0, show nI 1 = (1 : Int32) from rfl] at r1
    refine r1.trans ?_
    show b_S (fd_move s2 (nI v) (nI b)) _ = _
    rw [e5, bS_some, e6, bI_some]
  · rw [fm_sift, miv_ok hv, bI_some, jn_, if_neg one_ne]
    show sp_T t 0 (0 : Int32) _ = _
    rw [sp_T]
    show (if (z0_ t).1 9 0 ≤ (0 : Int32) then fm_sift_L33 (nI v) (fun (z2_33 : Int32) (z3_33 : Int32) (t_33 : wt_M) => b_T (fm_lay t_33 (nI v) z2_33) fun t91 => some (z3_33, t91)) (4999 + 1) 0 1000000 0 (z0_ t) else _) = _
    rw [nI_0] at e3
    have nk6 : ¬ (1000000 : Int32) ≤ nI k := nI_ge (b := 1000000) (by omega) (by decide)
    rw [if_pos (by rw [z0_c]; decide), fm_sift_L33, if_neg (by decide), e3, bT_some, e4, bIT_some, jn_, if_neg nk6]
    show jn_ _ _ = _
    rw [jn_, if_neg nk6, show (0 : Int32) + 1 = nI 1 by decide]
    rw [nI_0] at r2
    refine r2.trans ?_
    show b_T (fm_lay t3 (nI v) (nI b)) _ = _
    rw [e7, bT_some]
end SY
