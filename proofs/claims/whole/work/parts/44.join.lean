/-! The store's ways down: upper, offWay, onWay; and join. My own. -/
theorem up_ok {s : wt_S} {lev at_ : Nat → Nat} {g : gh_} (ho : or_ lev at_) (h : rp_ s lev at_ g) {v w : Nat} (hv : v ≤ 8) (hw : w ≤ 8) : fd_upper s (nI v) (nI w) = some (nI (if lev w < lev v then w else v)) := by
  have l1 := or_le ho hv
  have l2 := or_le ho hw
  unfold fd_upper
  dsimp only [jn_]
  rw [rc_at (by omega) (by decide), rc_at (by omega) (by decide), h.1 v hv, h.1 w hw]
  by_cases q : lev w < lev v
  · rw [if_pos (nI_lt q (by omega)), if_pos q]
  · rw [if_neg (nI_nlt (by omega) (by omega)), if_neg q]
theorem rp_lab {s : wt_S} {lev at_ : Nat → Nat} {g : gh_} (hg : gi_ lev g) (h : rp_ s lev at_ g) {n : Nat} (hn : gk_ g n) : s 3 n = nI (g.1 n) := by
  rw [h.2.2.1 n hn.1, cL_lt (by have := gi_lab8 hg hn; omega)]
theorem of_ok {s : wt_S} {lev at_ : Nat → Nat} {g : gh_} (hg : gi_ lev g) (h : rp_ s lev at_ g) {n v : Nat} (hn : gk_ g n) (hv : v < 8) : fd_offWay s (nI n) (nI v) = some (nI (if g.1 n = v then g.2.1 n else n)) := by
  have l8 := gi_lab8 hg hn
  unfold fd_offWay
  dsimp only [jn_]
  rw [rc_at hn.1 (by decide), rp_lab hg h hn]
  by_cases q : g.1 n = v
  · rw [if_pos (congrArg nI q), rc_at hn.1 (by decide), if_pos q, (h.2.2.2 n hn.1 (by omega)).1]
  · rw [if_neg (fun c => q (nI_inj (by omega) (by omega) c)), if_neg q]
theorem on_ok {s : wt_S} {lev at_ : Nat → Nat} {g : gh_} (hg : gi_ lev g) (h : rp_ s lev at_ g) {n v : Nat} (hn : gk_ g n) (hv : v < 8) : fd_onWay s (nI n) (nI v) = some (nI (if g.1 n = v then g.2.2.1 n else n)) := by
  have l8 := gi_lab8 hg hn
  unfold fd_onWay
  dsimp only [jn_]
  rw [rc_at hn.1 (by decide), rp_lab hg h hn]
  by_cases q : g.1 n = v
  · rw [if_pos (congrArg nI q), rc_at hn.1 (by decide), if_pos q, (h.2.2.2 n hn.1 (by omega)).2]
  · rw [if_neg (fun c => q (nI_inj (by omega) (by omega) c)), if_neg q]
theorem of_sem {lev at_ : Nat → Nat} {g : gh_} (ho : or_ lev at_) (hg : gi_ lev g) {n v : Nat} (hn : gk_ g n) (hv : v < 8) (hl : lev v ≤ lev (g.1 n)) : gk_ g (if g.1 n = v then g.2.1 n else n) ∧ lev v < lev (g.1 (if g.1 n = v then g.2.1 n else n)) ∧ g.2.2.2 (if g.1 n = v then g.2.1 n else n) = mb_cf (g.2.2.2 n) v false := by
  by_cases q : g.1 n = v
  · rw [if_pos q]
    have hl8 : g.1 n < 8 := by omega
    obtain ⟨k1, k2⟩ := gi_lo hg hn.1 hl8
    obtain ⟨-, -, -, -, l1, l2, -, e⟩ := hg.2.2.1 n hn.1 hl8
    rw [q] at l1 e
    exact ⟨k1, l1, by rw [e, mb_cf_mx0 (gi_abv ho hg k1 l1)]⟩
  · rw [if_neg q]
    have hlt : lev v < lev (g.1 n) := by
      rcases gi_lab hg hn with c | ⟨-, c⟩
      · rcases Nat.lt_or_eq_of_le hl with d | d
        · exact d
        · exact absurd (or_inj ho hv c d).symm q
      · rw [c, ho.2.2]; exact (ho.1 v hv).1
    exact ⟨hn, hlt, (mb_cf_in (gi_abv ho hg hn hlt)).symm⟩
theorem on_sem {lev at_ : Nat → Nat} {g : gh_} (ho : or_ lev at_) (hg : gi_ lev g) {n v : Nat} (hn : gk_ g n) (hv : v < 8) (hl : lev v ≤ lev (g.1 n)) : gk_ g (if g.1 n = v then g.2.2.1 n else n) ∧ lev v < lev (g.1 (if g.1 n = v then g.2.2.1 n else n)) ∧ g.2.2.2 (if g.1 n = v then g.2.2.1 n else n) = mb_cf (g.2.2.2 n) v true := by
  by_cases q : g.1 n = v
  · rw [if_pos q]
    have hl8 : g.1 n < 8 := by omega
    obtain ⟨k1, k2⟩ := gi_lo hg hn.1 hl8
    obtain ⟨-, -, -, -, l1, l2, -, e⟩ := hg.2.2.1 n hn.1 hl8
    rw [q] at l2 e
    exact ⟨k2, l2, by rw [e, mb_cf_mx1 (gi_abv ho hg k2 l2)]⟩
  · rw [if_neg q]
    have hlt : lev v < lev (g.1 n) := by
      rcases gi_lab hg hn with c | ⟨-, c⟩
      · rcases Nat.lt_or_eq_of_le hl with d | d
        · exact d
        · exact absurd (or_inj ho hv c d).symm q
      · rw [c, ho.2.2]; exact (ho.1 v hv).1
    exact ⟨hn, hlt, (mb_cf_in (gi_abv ho hg hn hlt)).symm⟩
/-- f and its cuts by the levels from 5 - j to 4 are in L -/
def cl_ (at_ : Nat → Nat) (L : List mb_F) : Nat → mb_F → Prop
  | 0, _ => True
  | j + 1, f => f ∈ L ∧ cl_ at_ L j (mb_cf f (at_ (4 - j)) false) ∧ cl_ at_ L j (mb_cf f (at_ (4 - j)) true)
theorem cl_skip {at_ : Nat → Nat} {L : List mb_F} {f : mb_F} : ∀ (m k : Nat), cl_ at_ L (5 - k) f → (∀ i, k ≤ i → i < k + m → mb_in f (at_ i)) → cl_ at_ L (5 - (k + m)) f := by
  intro m
  induction m with
  | zero => intro k h _; exact h
  | succ m ih =>
    intro k h hi
    rcases Nat.lt_or_ge k 5 with q | q
    · have e : 5 - k = (4 - k) + 1 := by omega
      rw [e] at h
      obtain ⟨-, h0, -⟩ := h
      rw [show 4 - (4 - k) = k by omega, mb_cf_in (hi k (Nat.le_refl _) (by omega)), show 4 - k = 5 - (k + 1) by omega] at h0
      have := ih (k + 1) h0 (fun i h1 h2 => hi i (by omega) (by omega))
      rwa [show k + 1 + m = k + (m + 1) by omega] at this
    · rw [show 5 - (k + (m + 1)) = 0 by omega]
      trivial
theorem cl_down {at_ : Nat → Nat} {L : List mb_F} {f : mb_F} {k : Nat} (h : cl_ at_ L (5 - k) f) : (k < 5 → f ∈ L) ∧ ∀ b, cl_ at_ L (5 - (k + 1)) (mb_cf f (at_ k) b) := by
  rcases Nat.lt_or_ge k 5 with q | q
  · rw [show 5 - k = (4 - k) + 1 by omega] at h
    obtain ⟨h1, h0, h2⟩ := h
    rw [show 4 - (4 - k) = k by omega] at h0 h2
    rw [show 5 - (k + 1) = 4 - k by omega]
    exact ⟨fun _ => h1, fun b => by cases b <;> assumption⟩
  · rw [show 5 - (k + 1) = 0 by omega]
    exact ⟨fun c => by omega, fun b => trivial⟩
/-- from level d down to the variable v, which f asks first -/
theorem cl_to {lev at_ : Nat → Nat} {L : List mb_F} {f : mb_F} {d v : Nat} (ho : or_ lev at_) (hv : v < 8) (hd : d ≤ lev v) (h : cl_ at_ L (5 - d) f) (hin : ∀ w, w < 8 → lev w < lev v → mb_in f w) : (lev v < 5 → f ∈ L) ∧ ∀ b, cl_ at_ L (5 - (lev v + 1)) (mb_cf f v b) := by
  have l8 := (ho.1 v hv).1
  have h1 := cl_skip (lev v - d) d h (fun i h1 h2 => hin (at_ i) (ho.2.1 i (by omega)).1 (by rw [(ho.2.1 i (by omega)).2]; omega))
  rw [show d + (lev v - d) = lev v by omega] at h1
  have h2 := cl_down h1
  rw [(ho.1 v hv).2] at h2
  exact h2
def op_ (op : Nat) (f g : mb_F) : mb_F := fun x => op.testBit (2 * (f x).toNat + (g x).toNat)
theorem op_cf (op : Nat) (f g : mb_F) (v : Nat) (b : Bool) : mb_cf (op_ op f g) v b = op_ op (mb_cf f v b) (mb_cf g v b) := rfl
theorem op_in {op : Nat} {f g : mb_F} {v : Nat} (hf : mb_in f v) (hg : mb_in g v) : mb_in (op_ op f g) v := fun a b => by
  unfold op_
  rw [hf, hg]
theorem op_leaf : ∀ op, op < 16 → ∀ a, a < 2 → ∀ b, b < 2 → ((nI op >>> ((2 * nI a + nI b) &&& 31)) &&& 1) = nI (op.testBit (2 * a + b)).toNat := by decide +kernel
theorem gi_leaf {lev : Nat → Nat} {g : gh_} (h : gi_ lev g) {n : Nat} (hn : n < 2) : gk_ g n ∧ g.1 n = 8 ∧ g.2.2.2 n = fun _ => decide (n = 1) := by
  rcases (show n = 0 ∨ n = 1 by omega) with rfl | rfl
  · exact ⟨⟨by decide, by rw [h.1.1]; decide⟩, h.1.1, h.1.2.2.1⟩
  · exact ⟨⟨by decide, by rw [h.1.2.1]; decide⟩, h.1.2.1, h.1.2.2.2⟩
theorem gi_big {lev : Nat → Nat} {g : gh_} (h : gi_ lev g) {n : Nat} (hn : gk_ g n) (h1 : 1 < n) : g.1 n < 8 := by
  rcases gi_lab h hn with q | ⟨q, -⟩
  · exact q
  · omega
/-- what a step of the store must give -/
def rs_ (lev at_ : Nat → Nat) (L : List mb_F) (s : wt_S) (g : gh_) (x : Option (Int32 × wt_S)) (f : mb_F) (d : Nat) : Prop := ∃ (r : Nat) (s' : wt_S) (g' : gh_), x = some (nI r, s') ∧ sg_ s' lev at_ g' L (fun _ => True) ∧ ex_ s s' g g' ∧ gk_ g' r ∧ g'.2.2.2 r = f ∧ d ≤ lev (g'.1 r)
theorem jo_ok {lev at_ : Nat → Nat} {L : List mb_F} {op : Nat} (hop : op < 16) : ∀ (n d k a b : Nat) (s : wt_S) (g : gh_), sg_ s lev at_ g L (fun _ => True) → gk_ g a → gk_ g b → d ≤ k → k ≤ lev (g.1 a) → k ≤ lev (g.1 b) → 9 ≤ n + d → cl_ at_ L (5 - k) (op_ op (g.2.2.2 a) (g.2.2.2 b)) → rs_ lev at_ L s g (fd_join n s (nI op) (nI a) (nI b) (nI d)) (op_ op (g.2.2.2 a) (g.2.2.2 b)) k := by
  intro n
  induction n with
  | zero =>
    intro d k a b s g h ha hb dk da db hn
    have := or_le h.1 (gi_lab8 h.2.2.1 ha)
    omega
  | succ n ih =>
    intro d k a b s g h ha hb dk da db hn hcl
    obtain ⟨ho, hr, hg, -⟩ := id h
    have a31 : a < 2 ^ 31 := Nat.lt_trans ha.1 (by decide)
    have b31 : b < 2 ^ 31 := Nat.lt_trans hb.1 (by decide)
    rw [fd_join]
    simp only [jn_]
    by_cases hlf : a ≤ 1 ∧ b ≤ 1
    · obtain ⟨la, lb⟩ := hlf
      rw [if_neg (show ¬ (1 : Int32) < nI a from nI_nlt (a := 1) la (by decide)), if_neg (show ¬ (1 : Int32) < nI b from nI_nlt (a := 1) lb (by decide)), op_leaf op hop a (by omega) b (by omega)]
      obtain ⟨-, ea, fa⟩ := gi_leaf hg (show a < 2 by omega)
      obtain ⟨-, eb, fb⟩ := gi_leaf hg (show b < 2 by omega)
      have e1 : op_ op (g.2.2.2 a) (g.2.2.2 b) = fun _ => op.testBit (2 * a + b) := by
        funext x
        unfold op_
        rw [fa, fb]
        rcases (show a = 0 ∨ a = 1 by omega) with rfl | rfl <;> rcases (show b = 0 ∨ b = 1 by omega) with rfl | rfl <;> rfl
      have hb2 : (op.testBit (2 * a + b)).toNat < 2 := by cases op.testBit (2 * a + b) <;> decide
      obtain ⟨k1, k2, k3⟩ := gi_leaf hg hb2
      refine ⟨_, s, g, rfl, h, ex_rf s g, k1, ?_, ?_⟩
      · rw [k3, e1]
        cases op.testBit (2 * a + b) <;> rfl
      · rw [k2, ← ea]; exact da
    · have pick : ∀ (X Y : Option (Int32 × wt_S)), (if (1 : Int32) < nI a then X else if (1 : Int32) < nI b then X else Y) = X := by
        intro X Y
        by_cases q : 1 < a
        · rw [if_pos (show (1 : Int32) < nI a from nI_lt (a := 1) q a31)]
        · by_cases q2 : 1 < b
          · rw [if_pos (show (1 : Int32) < nI b from nI_lt (a := 1) q2 b31)]
            split <;> rfl
          · omega
      rw [pick]
      -- the upper variable
      generalize hv : (if lev (g.1 b) < lev (g.1 a) then g.1 b else g.1 a) = v
      have hv8 : v < 8 ∧ lev v ≤ lev (g.1 a) ∧ lev v ≤ lev (g.1 b) ∧ k ≤ lev v := by
        have l8a := gi_lab8 hg ha
        have l8b := gi_lab8 hg hb
        have l1 := or_le ho l8a
        have l2 := or_le ho l8b
        have big : g.1 a < 8 ∨ g.1 b < 8 := by
          rcases Nat.lt_or_ge 1 a with q | q
          · exact Or.inl (gi_big hg ha q)
          · exact Or.inr (gi_big hg hb (by omega))
        by_cases q : lev (g.1 b) < lev (g.1 a)
        · rw [if_pos q] at hv
          subst hv
          refine ⟨?_, by omega, Nat.le_refl _, db⟩
          rcases Nat.lt_or_eq_of_le l8b with c | c
          · exact c
          · rw [c, ho.2.2] at q; omega
        · rw [if_neg q] at hv
          subst hv
          refine ⟨?_, Nat.le_refl _, by omega, da⟩
          rcases Nat.lt_or_eq_of_le l8a with c | c
          · exact c
          · rw [c, ho.2.2] at q
            rcases big with z | z
            · exact z
            · have := (ho.1 _ z).1; omega
      obtain ⟨v8, va, vb, vd⟩ := hv8
      have lv8 := (ho.1 v v8).1
      obtain ⟨hmem, hcl2⟩ := cl_to ho v8 vd hcl (fun w _ hw => op_in (gi_abv ho hg ha (by omega)) (gi_abv ho hg hb (by omega)))
      rw [if_pos (show nI d < (8 : Int32) from nI_lt (b := 8) (by omega) (by decide)), rc_at ha.1 (by decide), rc_at hb.1 (by decide), rp_lab hg hr ha, rp_lab hg hr hb, up_ok ho hr (gi_lab8 hg ha) (gi_lab8 hg hb), bI_some, hv, of_ok hg hr ha v8, bI_some, of_ok hg hr hb v8, bI_some]
      obtain ⟨a1, a2, a3⟩ := of_sem ho hg ha v8 va
      obtain ⟨b1, b2, b3⟩ := of_sem ho hg hb v8 vb
      have f0 : op_ op (g.2.2.2 (if g.1 a = v then g.2.1 a else a)) (g.2.2.2 (if g.1 b = v then g.2.1 b else b)) = mb_cf (op_ op (g.2.2.2 a) (g.2.2.2 b)) v false := by rw [a3, b3]; rfl
      have f1 : op_ op (mb_cf (g.2.2.2 a) v true) (mb_cf (g.2.2.2 b) v true) = mb_cf (op_ op (g.2.2.2 a) (g.2.2.2 b)) v true := rfl
      obtain ⟨r0, s0, g0, e0, h0, x0, k0, w0, d0⟩ := ih (d + 1) (lev v + 1) _ _ s g h a1 b1 (by omega) a2 b2 (by omega) (by rw [f0]; exact hcl2 false)
      rw [nI_1, e0, bIS_some]
      obtain ⟨-, hr0, hg0, -⟩ := id h0
      have ha0 := ex_gk x0 ha
      have hb0 := ex_gk x0 hb
      obtain ⟨xa1, xa2, xa3, xa4⟩ := x0.1 a ha
      obtain ⟨xb1, xb2, xb3, xb4⟩ := x0.1 b hb
      rw [on_ok hg0 hr0 ha0 v8, bI_some, on_ok hg0 hr0 hb0 v8, bI_some]
      obtain ⟨p1, p2, p3⟩ := on_sem ho hg0 ha0 v8 (by rw [xa1]; exact va)
      obtain ⟨q1, q2, q3⟩ := on_sem ho hg0 hb0 v8 (by rw [xb1]; exact vb)
      rw [xa4] at p3
      rw [xb4] at q3
      obtain ⟨r1, s1, g1, e1, h1, x1, k1, w1, d1⟩ := ih (d + 1) (lev v + 1) _ _ s0 g0 h0 p1 q1 (by omega) p2 q2 (by omega) (by rw [p3, q3, f1]; exact hcl2 true)
      rw [e1, bIS_some]
      obtain ⟨y1, y2, y3, y4⟩ := x1.1 r0 k0
      have k0' := ex_gk x1 k0
      have ee : mb_mx v (g1.2.2.2 r0) (g1.2.2.2 r1) = op_ op (g.2.2.2 a) (g.2.2.2 b) := by
        rw [y4, w0, w1, f0, p3, q3, f1, mb_mx_cf]
      obtain ⟨r2, s2, g2, e2, h2, x2, k2, w2, d2⟩ := nd_ok h1 trivial v8 k0' k1 (by rw [y1]; omega) (by omega) (by rw [ee]; exact hmem)
      rw [e2, bIS_some]
      exact ⟨r2, s2, g2, rfl, h2, ex_tr (ex_tr x0 x1) x2, k2, by rw [w2, ee], by omega⟩
