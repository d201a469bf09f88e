/-! The order of the variables: order, swap, place; class and reference. My own. -/
/-- v taken from level p and laid at level q -/
def rm_ (o : Nat → Nat) (p : Nat) : Nat → Nat := fun j => if j < p then o j else o (j + 1)
def mv_ (o : Nat → Nat) (p v q : Nat) : Nat → Nat := fun j => if j < q then rm_ o p j else if j = q then v else rm_ o p (j - 1)
theorem mv_lt {o : Nat → Nat} {p v q j : Nat} (h : j < q) : mv_ o p v q j = rm_ o p j := by simp [mv_, h]
theorem mv_eq (o : Nat → Nat) (p v q : Nat) : mv_ o p v q q = v := by simp [mv_]
theorem mv_gt {o : Nat → Nat} {p v q j : Nat} (h : q < j) : mv_ o p v q j = rm_ o p (j - 1) := by
  unfold mv_
  rw [if_neg (by omega), if_neg (by omega)]
theorem mv_self {o : Nat → Nat} {p v : Nat} (h : o p = v) : mv_ o p v p = o := by
  funext j
  rcases Nat.lt_trichotomy j p with c | c | c
  · rw [mv_lt c]; simp [rm_, c]
  · subst c; rw [mv_eq, h]
  · rw [mv_gt c]
    unfold rm_
    rw [if_neg (by omega), show j - 1 + 1 = j by omega]
theorem rm_mv (o : Nat → Nat) (p v q : Nat) : rm_ (mv_ o p v q) q = rm_ o p := by
  funext j
  unfold rm_
  by_cases c : j < q
  · rw [if_pos c, mv_lt c]; rfl
  · rw [if_neg c, mv_gt (by omega), show j + 1 - 1 = j by omega]; rfl
theorem mv_mv (o : Nat → Nat) (p v q r : Nat) : mv_ (mv_ o p v q) q v r = mv_ o p v r := by
  funext j
  show (if j < r then rm_ (mv_ o p v q) q j else if j = r then v else rm_ (mv_ o p v q) q (j - 1)) = _
  rw [rm_mv]; rfl
theorem mv_up (o : Nat → Nat) (p v q : Nat) : ax_ (mv_ o p v (q + 1)) (mv_ o p v (q + 1) q) (mv_ o p v (q + 1) (q + 1)) q = mv_ o p v q := by
  funext j
  unfold ax_
  by_cases c : j = q
  · subst c; rw [if_pos rfl, mv_eq, mv_eq]
  · rw [if_neg c]
    by_cases d : j = q + 1
    · subst d; rw [if_pos rfl, mv_lt (by omega), mv_gt (by omega)]; rfl
    · rw [if_neg d]
      rcases Nat.lt_or_ge j q with e | e
      · rw [mv_lt (by omega), mv_lt e]
      · rw [mv_gt (by omega), mv_gt (by omega)]
theorem mv_dn (o : Nat → Nat) (p v q : Nat) : ax_ (mv_ o p v q) (mv_ o p v q q) (mv_ o p v q (q + 1)) q = mv_ o p v (q + 1) := by
  funext j
  unfold ax_
  by_cases c : j = q
  · subst c; rw [if_pos rfl, mv_gt (by omega), mv_lt (by omega)]; rfl
  · rw [if_neg c]
    by_cases d : j = q + 1
    · subst d; rw [if_pos rfl, mv_eq, mv_eq]
    · rw [if_neg d]
      rcases Nat.lt_or_ge j q with e | e
      · rw [mv_lt e, mv_lt (by omega)]
      · rw [mv_gt (by omega), mv_gt (by omega)]
/-- the class stands with these functions under this order -/
def cx_ (s : wt_S) (F : Nat → mb_F) (o : Nat → Nat) : Prop := ∃ lev g rt, rd0_ s lev o g rt F
theorem cx_on {s : wt_S} {F : Nat → mb_F} {o : Nat → Nat} (h : cx_ s F o) {a : Nat} (ha : a < 16) : mb_on (F a) (fun v => v < 8) := by
  obtain ⟨lev, g, rt, h⟩ := h
  exact rd_on h ha
theorem ex_x {s : wt_S} {F : Nat → mb_F} {lev o : Nat → Nat} {g : gh_} {rt : Nat → Nat} (h : rd0_ s lev o g rt F) {k : Nat} (hk : k < 7) : ∃ (t : wt_S) (lev' : Nat → Nat) (g' : gh_), fd_exchange s (nI k) = some t ∧ rd0_ t lev' (ax_ o (o k) (o (k + 1)) k) g' rt F := by
  obtain ⟨t, g2, e, h2, f2⟩ := ex_ok h.1 hk
  exact ⟨t, _, g2, e, h2, h.2.1, fun i hi => by rw [f2 i (by omega)]; exact h.2.2 i hi⟩
theorem mo_o {t : wt_M} {F : Nat → mb_F} {o o' : Nat → Nat} (h : mo_ t F o) (k : ∀ j, j < 8 → o j = o' j) : mo_ t F o' := ⟨h.1, fun j hj => by rw [← k j hj]; exact h.2.1 j hj, h.2.2⟩
theorem nl_ok {r n : Nat} (h : r < n) (hn : n < 2 ^ 31) : fx_needLevel (nI r) (nI n) = some () := by
  unfold fx_needLevel
  dsimp only [jn_]
  rw [if_neg (nI_pos (by omega)), if_pos (nI_lt h hn)]
section MV
variable {F : Nat → mb_F} {o : Nat → Nat} {p v : Nat}
theorem lev_at {s : wt_S} {lev : Nat → Nat} {g : gh_} {rt : Nat → Nat} {q : Nat} (h : rd0_ s lev (mv_ o p v q) g rt F) (hq : q < 8) : v < 8 ∧ s 2 v = nI q := by
  have a := h.1.1.2.1 q hq
  rw [mv_eq] at a
  refine ⟨a.1, ?_⟩
  have := h.1.2.1.1 v (by omega)
  rw [this, a.2]
theorem mu_loop {w : Nat} (K : wt_S → Option wt_S) : ∀ (d n i q : Nat) (s : wt_S), q = w + d → q < 8 → i + d < 8 → d < n → cx_ s F (mv_ o p v q) → ∃ s', fd_move_L2 (nI v) (nI w) K n (nI i) s = K s' ∧ cx_ s' F (mv_ o p v w) := by
  intro d
  induction d with
  | zero =>
    intro n i q s hq q8 hi hn h
    cases n with
    | zero => omega
    | succ n =>
      obtain ⟨lev, g, rt, h⟩ := h
      obtain ⟨v8, e⟩ := lev_at h q8
      have : q = w := by omega
      subst this
      rw [fd_move_L2, if_neg (show ¬ (8 : Int32) ≤ nI i from nI_ge (b := 8) (by omega) (by decide)), rc_at (by omega) (by decide), e, if_pos (nI_le (Nat.le_refl _) (by omega))]
      exact ⟨s, rfl, lev, g, rt, h⟩
  | succ d ih =>
    intro n i q s hq q8 hi hn h
    cases n with
    | zero => omega
    | succ n =>
      obtain ⟨lev, g, rt, h⟩ := h
      obtain ⟨v8, e⟩ := lev_at h q8
      obtain ⟨q', rfl⟩ : ∃ q', q = q' + 1 := ⟨q - 1, by omega⟩
      obtain ⟨t, lev', g', e1, h1⟩ := ex_x h (show q' < 7 by omega)
      rw [mv_up] at h1
      obtain ⟨s', e2, r⟩ := ih n (i + 1) q' t (by omega) (by omega) (by omega) (by omega) ⟨lev', g', rt, h1⟩
      refine ⟨s', ?_, r⟩
      rw [fd_move_L2, if_neg (show ¬ (8 : Int32) ≤ nI i from nI_ge (b := 8) (by omega) (by decide)), rc_at (by omega) (by decide), e, if_neg (nI_ge (by omega) (by omega)), rc_at (by omega) (by decide), e, nI_pred, e1, bS_some, nI_1, e2]
theorem md_loop {w : Nat} (hw : w < 8) (K : wt_S → Option wt_S) : ∀ (d n i q : Nat) (s : wt_S), q + d = w → i + d < 8 → d < n → cx_ s F (mv_ o p v q) → ∃ s', fd_move_L38 (nI v) (nI w) K n (nI i) s = K s' ∧ cx_ s' F (mv_ o p v w) := by
  intro d
  induction d with
  | zero =>
    intro n i q s hq hi hn h
    cases n with
    | zero => omega
    | succ n =>
      obtain ⟨lev, g, rt, h⟩ := h
      obtain ⟨v8, e⟩ := lev_at h (by omega)
      have : q = w := by omega
      subst this
      rw [fd_move_L38, if_neg (show ¬ (8 : Int32) ≤ nI i from nI_ge (b := 8) (by omega) (by decide)), rc_at (by omega) (by decide), e, if_pos (nI_le (Nat.le_refl _) (by omega))]
      exact ⟨s, rfl, lev, g, rt, h⟩
  | succ d ih =>
    intro n i q s hq hi hn h
    cases n with
    | zero => omega
    | succ n =>
      obtain ⟨lev, g, rt, h⟩ := h
      obtain ⟨v8, e⟩ := lev_at h (by omega)
      obtain ⟨t, lev', g', e1, h1⟩ := ex_x h (show q < 7 by omega)
      rw [mv_dn] at h1
      obtain ⟨s', e2, r⟩ := ih n (i + 1) (q + 1) t (by omega) (by omega) (by omega) ⟨lev', g', rt, h1⟩
      refine ⟨s', ?_, r⟩
      rw [fd_move_L38, if_neg (show ¬ (8 : Int32) ≤ nI i from nI_ge (b := 8) (by omega) (by decide)), rc_at (by omega) (by decide), e, if_neg (nI_ge (by omega) (by omega)), rc_at (by omega) (by decide), e, e1, bS_some, nI_1, e2]
theorem mov_ok {q w : Nat} (hq : q < 8) (hw : w < 8) {s : wt_S} (h : cx_ s F (mv_ o p v q)) : ∃ s', fd_move s (nI v) (nI w) = some s' ∧ cx_ s' F (mv_ o p v w) := by
  unfold fd_move
  rcases Nat.lt_or_ge w q with c | c
  · obtain ⟨s1, e1, h1⟩ := mu_loop (w := w) (fun (s_2 : wt_S) => fd_move_L38 (nI v) (nI w) (fun (s_38 : wt_S) => some s_38) 5000 (0 : Int32) s_2) (q - w) 5000 0 q s (by omega) hq (by omega) (by omega) h
    obtain ⟨s2, e2, h2⟩ := md_loop hw (fun (s_38 : wt_S) => some s_38) 0 5000 0 w s1 (by omega) (by omega) (by omega) h1
    rw [nI_0] at e1 e2
    exact ⟨s2, e1.trans e2, h2⟩
  · obtain ⟨lev, g, rt, hh⟩ := id h
    obtain ⟨v8, e⟩ := lev_at hh hq
    have e1 : fd_move_L2 (nI v) (nI w) (fun (s_2 : wt_S) => fd_move_L38 (nI v) (nI w) (fun (s_38 : wt_S) => some s_38) 5000 (0 : Int32) s_2) 5000 0 s = fd_move_L38 (nI v) (nI w) (fun (s_38 : wt_S) => some s_38) 5000 (0 : Int32) s := by
      rw [show (5000 : Nat) = 4999 + 1 from rfl, fd_move_L2, if_neg (by decide), rc_at (by omega) (by decide), e, if_pos (nI_le c (by omega))]
    obtain ⟨s2, e2, h2⟩ := md_loop hw (fun (s_38 : wt_S) => some s_38) (w - q) 5000 0 q s (by omega) (by omega) (by omega) h
    rw [nI_0] at e2
    exact ⟨s2, e1.trans e2, h2⟩
-- the reference's lay
theorem l5_loop (c1 c2 c3 : Int32) (K : wt_M → Option wt_M) : ∀ (d n i : Nat) (t : wt_M), i + d = 8 → d < n → ∃ t', fm_lay_L5 c1 c2 c3 K n (nI i) t = K t' ∧ t'.2 = t.2 ∧ (∀ r j, r ≠ 1 → t'.1 r j = t.1 r j) ∧ (∀ j, i ≤ j → j < 8 → t'.1 1 j = t.1 0 j) ∧ ∀ j, j < i → t'.1 1 j = t.1 1 j := by
  intro d
  induction d with
  | zero =>
    intro n i t h1 hn
    cases n with
    | zero => omega
    | succ n =>
      rw [fm_lay_L5, if_pos (show (8 : Int32) ≤ nI i from nI_le (a := 8) (by omega) (by omega))]
      exact ⟨t, rfl, rfl, fun _ _ _ => rfl, fun j _ _ => by omega, fun _ _ => rfl⟩
  | succ d ih =>
    intro n i t h1 hn
    cases n with
    | zero => omega
    | succ n =>
      rw [fm_lay_L5, if_neg (show ¬ (8 : Int32) ≤ nI i from nI_ge (b := 8) (by omega) (by decide)), rc_at (by omega) (by decide), wc_T (by omega) (by decide), nI_1]
      obtain ⟨t', e, q1, q2, q3, q4⟩ := ih n (i + 1) (pu_S t.1 1 i (t.1 0 i), t.2) (by omega) (by omega)
      refine ⟨t', e, q1, fun r j hr => by rw [q2 r j hr]; exact pu_row hr, fun j h2 h3 => ?_, fun j hj => by rw [q4 j (by omega)]; show pu_S t.1 1 i (t.1 0 i) 1 j = _; exact pu_ne (by omega)⟩
      by_cases c : j = i
      · subst c
        rw [q4 j (by omega)]
        show pu_S t.1 1 j (t.1 0 j) 1 j = _
        exact pu_eq _ _ _ _
      · rw [q3 j (by omega) h3]
        show pu_S t.1 1 i (t.1 0 i) 0 j = _
        exact pu_row (by decide)
theorem l35_loop {w : Nat} (hw : w < 8) (hp : p < 8) (hop : o p = v) (hi : ∀ j, j < 8 → o j < 8 ∧ (o j = v → j = p)) (K : wt_M → Option wt_M) : ∀ (d n i m : Nat) (t : wt_M), i + d = 8 → d < n → m = (if i ≤ p then i else i - 1) → (∀ j, j < 8 → t.1 1 j = nI (o j)) → (∀ j, j < m → t.1 0 (if j < w then j else j + 1) = nI (rm_ o p j)) →
    ∃ t', fm_lay_L35 (nI v) (nI w) K n (nI (if m ≤ w then m else m + 1)) (nI i) t = K t' ∧ t'.2 = t.2 ∧ (∀ r j, r ≠ 0 → t'.1 r j = t.1 r j) ∧ ∀ j, j < 7 → t'.1 0 (if j < w then j else j + 1) = nI (rm_ o p j) := by
  intro d
  induction d with
  | zero =>
    intro n i m t h1 hn hm hb h0
    cases n with
    | zero => omega
    | succ n =>
      rw [fm_lay_L35, if_pos (show (8 : Int32) ≤ nI i from nI_le (a := 8) (by omega) (by omega))]
      rw [if_neg (by omega)] at hm
      exact ⟨t, rfl, rfl, fun _ _ _ => rfl, fun j hj => h0 j (by omega)⟩
  | succ d ih =>
    intro n i m t h1 hn hm hb h0
    cases n with
    | zero => omega
    | succ n =>
      rw [fm_lay_L35, if_neg (show ¬ (8 : Int32) ≤ nI i from nI_ge (b := 8) (by omega) (by decide)), rc_at (by omega) (by decide), hb i (by omega)]
      dsimp only [jn_]
      have oi := hi i (by omega)
      have op8 := (hi p hp).1
      by_cases c : i = p
      · subst c
        rw [if_pos (Nat.le_refl _)] at hm
        rw [hop, if_pos rfl, nI_1]
        exact ih n (i + 1) m t (by omega) (by omega) (by rw [if_neg (by omega)]; omega) hb h0
      · rw [if_neg (fun z => c (oi.2 (nI_inj (by omega) (by omega) z)))]
        have m7 : m < 7 := by
          by_cases z : i ≤ p
          · rw [if_pos z] at hm; omega
          · rw [if_neg z] at hm; omega
        have ri : o i = rm_ o p m := by
          unfold rm_
          by_cases z : i ≤ p
          · rw [if_pos z] at hm
            rw [if_pos (by omega), hm]
          · rw [if_neg z] at hm
            rw [if_neg (by omega), show m + 1 = i by omega]
        have nx : m + 1 = (if i + 1 ≤ p then i + 1 else i + 1 - 1) := by
          by_cases z : i ≤ p
          · rw [if_pos z] at hm
            rw [if_pos (by omega)]; omega
          · rw [if_neg z] at hm
            rw [if_neg (by omega)]; omega
        have go : ∀ x : Nat, x = (if m < w then m else m + 1) → ∃ t', (rd_ (t.1 1) 8 (nI i) fun v77 => wr_T t 0 8 (nI x) v77 fun t78 => fm_lay_L35 (nI v) (nI w) K n (nI x + 1) (nI i + 1) t78) = K t' ∧ t'.2 = t.2 ∧ (∀ r j, r ≠ 0 → t'.1 r j = t.1 r j) ∧ ∀ j, j < 7 → t'.1 0 (if j < w then j else j + 1) = nI (rm_ o p j) := by
          intro x hx
          have x8 : x < 8 := by
            by_cases z : m < w
            · rw [if_pos z] at hx; omega
            · rw [if_neg z] at hx; omega
          rw [rc_at (by omega) (by decide), hb i (by omega), wc_T x8 (by decide), nI_1, nI_1]
          have xe : x + 1 = (if m + 1 ≤ w then m + 1 else m + 1 + 1) := by
            by_cases z : m < w
            · rw [if_pos z] at hx; rw [if_pos (by omega)]; omega
            · rw [if_neg z] at hx; rw [if_neg (by omega)]; omega
          rw [xe]
          obtain ⟨t', e, q1, q2, q3⟩ := ih n (i + 1) (m + 1) (pu_S t.1 0 x (nI (o i)), t.2) (by omega) (by omega) nx (fun j hj => by
            show pu_S t.1 0 x (nI (o i)) 1 j = _
            rw [pu_row (by decide)]; exact hb j hj) (fun j hj => by
            show pu_S t.1 0 x (nI (o i)) 0 (if j < w then j else j + 1) = _
            by_cases y : j = m
            · subst y
              rw [← hx, pu_eq, ri]
            · rw [pu_ne ?_]
              · exact h0 j (by omega)
              · by_cases z : m < w
                · rw [if_pos z] at hx
                  rw [if_pos (by omega)]; omega
                · rw [if_neg z] at hx
                  by_cases z2 : j < w
                  · rw [if_pos z2]; omega
                  · rw [if_neg z2]; omega)
          exact ⟨t', e, q1, fun r j hr => by rw [q2 r j hr]; exact pu_row hr, q3⟩
        by_cases z : m ≤ w
        · rw [if_pos z]
          by_cases y : m = w
          · rw [if_pos (by rw [y]), nI_1]
            exact go (m + 1) (by rw [if_neg (by omega)])
          · rw [if_neg (fun e => y (nI_inj (by omega) (by omega) e))]
            exact go m (by rw [if_pos (by omega)])
        · rw [if_neg z, if_neg (fun e => by
            have := nI_inj (by omega) (by omega) e
            omega)]
          exact go (m + 1) (by rw [if_neg (by omega)])
end MV
theorem lay_ok {F : Nat → mb_F} {o lev : Nat → Nat} (ho : or_ lev o) {p v w : Nat} (hw : w < 8) (hp : p < 8) (hop : o p = v) {t : wt_M} (h : mo_ t F o) : ∃ t', fm_lay t (nI v) (nI w) = some t' ∧ mo_ t' F (mv_ o p v w) ∧ t'.1 9 0 = t.1 9 0 := by
  have hi : ∀ j, j < 8 → o j < 8 ∧ (o j = v → j = p) := fun j hj => ⟨(ho.2.1 j hj).1, fun z => by
    rw [← (ho.2.1 j hj).2, z, ← hop, (ho.2.1 p hp).2]⟩
  obtain ⟨t1, e1, a1, a2, a3, -⟩ := l5_loop (nI v) (nI w) 0 (fun (t_5 : wt_M) => fm_lay_L35 (nI v) (nI w) (fun (t_35 : wt_M) => wr_T t_35 0 8 (nI w) (nI v) fun t94 => some t94) 5000 (0 : Int32) (0 : Int32) t_5) 8 5000 0 t (by omega) (by omega)
  obtain ⟨t2, e2, b1, b2, b3⟩ := l35_loop (o := o) (p := p) (v := v) hw hp hop hi (fun (t_35 : wt_M) => wr_T t_35 0 8 (nI w) (nI v) fun t94 => some t94) 8 5000 0 0 t1 (by omega) (by omega) (by rw [if_pos (Nat.zero_le _)]) (fun j hj => by rw [a3 j (Nat.zero_le _) hj]; exact h.2.1 j hj) (fun j hj => by omega)
  rw [if_pos (Nat.zero_le _)] at e2
  rw [nI_0] at e1 e2
  refine ⟨(pu_S t2.1 0 w (nI v), t2.2), ?_, ⟨fun r hr x hx => ?_, fun j hj => ?_, fun u hu => ?_⟩, ?_⟩
  · unfold fm_lay
    refine e1.trans (e2.trans ?_)
    show wr_T t2 0 8 (nI w) (nI v) _ = _
    rw [wc_T hw (by decide)]
  · unfold tb_
    show (t2.2 0 _).toBitVec.getLsbD _ = _
    rw [b1, a1]; exact h.1 r hr x hx
  · show pu_S t2.1 0 w (nI v) 0 j = _
    rcases Nat.lt_trichotomy j w with c | c | c
    · rw [pu_ne (by omega), mv_lt c]
      have := b3 j (by omega)
      rwa [if_pos c] at this
    · subst c; rw [pu_eq, mv_eq]
    · rw [pu_ne (by omega), mv_gt c]
      have := b3 (j - 1) (by omega)
      rwa [if_neg (by omega), show j - 1 + 1 = j by omega] at this
  · show t2.2 2 u = _
    rw [b1, a1]; exact h.2.2 u hu
  · show pu_S t2.1 0 w (nI v) 9 0 = _
    rw [pu_row (by decide), b2 9 0 (by decide), a2 9 0 (by decide)]
