/-! nodesOf of the reference counts the cuts. My own. -/
def cl8_ (o : Nat → Nat) (F : Nat → mb_F) (R : Nat → Prop) (L : Nat) (h : mb_F) : Prop := ∃ r, R r ∧ ∃ a, h = ck_ o a (F r) L
theorem ck_on {o : Nat → Nat} {a : mb_V} {f : mb_F} (hf : mb_on f (fun v => v < 8)) : ∀ k, mb_on (ck_ o a f k) (fun v => v < 8 ∧ ∀ j, j < k → v ≠ o j) := by
  intro k
  induction k with
  | zero => exact mb_on_mono hf fun v hv => ⟨hv, fun j hj => by omega⟩
  | succ k ih =>
    refine mb_on_mono (mb_on_cf (a k) ih) fun v hv => ⟨hv.1.1, fun j hj => ?_⟩
    by_cases e : j = k
    · rw [e]; exact hv.2
    · exact hv.1.2 j (by omega)
theorem ck_co {o : Nat → Nat} {a : mb_V} {f : mb_F} : ∀ k, k ≤ 4 → ∀ x, x ∈ co_ o (5 - k) (ck_ o a f k) → x ∈ co_ o 5 f := by
  intro k
  induction k with
  | zero => intro _ x hx; exact hx
  | succ k ih =>
    intro hk x hx
    refine ih (by omega) x ?_
    rw [show 5 - k = (4 - k) + 1 by omega]
    show x ∈ ck_ o a f k :: (co_ o (4 - k) (mb_cf (ck_ o a f k) (o (4 - (4 - k))) false) ++ co_ o (4 - k) (mb_cf (ck_ o a f k) (o (4 - (4 - k))) true))
    rw [show 4 - (4 - k) = k by omega]
    rw [show 5 - (k + 1) = 4 - k by omega] at hx
    refine List.mem_cons_of_mem _ ?_
    have hx : x ∈ co_ o (4 - k) (mb_cf (ck_ o a f k) (o k) (a k)) := hx
    cases hb : a k
    · rw [hb] at hx; exact List.mem_append_left _ hx
    · rw [hb] at hx; exact List.mem_append_right _ hx
section NO
variable {lev o : Nat → Nat} {F : Nat → mb_F} {R : Nat → Prop}
theorem c_len (ho : or_ lev o) (hF : ∀ r, r < 16 → mb_on (F r) (fun v => v < 8)) (hR : ∀ r, R r → r < 16) {C : List mb_F} (hC : C.Nodup) (h : ∀ u, u ∈ C → ∃ k, cl8_ o F R k u) : C.length ≤ 752 := by
  have := ph_len C ((List.range 16).flatMap (fun r => co_ o 5 (F r)) ++ en_ [o 5, o 6, o 7]) hC (fun u hu => by
    obtain ⟨k, r, hr, a, e⟩ := h u hu
    have r16 := hR r hr
    rcases Nat.lt_or_ge k 5 with q | q
    · refine List.mem_append_left _ (List.mem_flatMap.mpr ⟨r, List.mem_range.mpr r16, ck_co (a := a) k (by omega) u ?_⟩)
      rw [show 5 - k = (4 - k) + 1 by omega, e]
      exact List.mem_cons_self
    · refine List.mem_append_right _ (en_mem _ _ ?_)
      rw [e]
      refine mb_on_mono (ck_on (hF r r16) k) fun v hv => ?_
      have ev := ho.1 v hv.1
      have l5 : 5 ≤ lev v := Nat.le_of_not_lt fun z => hv.2 (lev v) (by omega) ev.2.symm
      rcases (show lev v = 5 ∨ lev v = 6 ∨ lev v = 7 by omega) with c | c | c
      · rw [← ev.2, c]; exact List.mem_cons_self
      · rw [← ev.2, c]; exact List.mem_cons_of_mem _ List.mem_cons_self
      · rw [← ev.2, c]; exact List.mem_cons_of_mem _ (List.mem_cons_of_mem _ List.mem_cons_self))
  rwa [List.length_append, fm_len _ _ 31 (fun x => by rw [co_len]), List.length_range, en_3] at this
theorem qk_mo {t t' : wt_M} (h : mo_ t F o) (k : qk_ t t') : mo_ t' F o := ⟨fun r hr x hx => by unfold tb_; rw [k.1]; exact h.1 r hr x hx, fun j hj => by rw [k.2.2.1 0 j (by decide) (by decide) (by decide)]; exact h.2.1 j hj, fun v hv => by rw [k.2.1]; exact h.2.2 v hv⟩
/-- the count on its way at the level L: X is what was told for L, Y for L + 1 -/
def iv_ (o : Nat → Nat) (F : Nat → mb_F) (R : Nat → Prop) (L : Nat) (X : List Nat) (t : wt_M) (C : List mb_F) (Y : List Nat) : Prop :=
  (mo_ t F o ∧ t.1 9 0 = 0) ∧ nt_ t C ∧ tl_ t C Y (L + 1) ∧ (∀ (k c : Nat), X[k]? = some c → t.1 2 k = nI c) ∧ t.1 9 2 = nI X.length ∧ (∀ c, c ∈ X → ∃ u, C[c]? = some u ∧ cl8_ o F R L u) ∧ (∀ u, u ∈ C → ∃ k, k ≤ L + 1 ∧ cl8_ o F R k u) ∧ (∀ c, c ∈ Y → ∃ u, C[c]? = some u ∧ cl8_ o F R (L + 1) u)
def gr_w (C C' : List mb_F) (Y Y' : List Nat) : Prop := (∀ (c : Nat) (u : mb_F), C[c]? = some u → C'[c]? = some u) ∧ ∀ c, c ∈ Y → c ∈ Y'
theorem one_cut (ho : or_ lev o) (hF : ∀ r, r < 16 → mb_on (F r) (fun v => v < 8)) (hR : ∀ r, R r → r < 16) {L : Nat} (hL : L < 8) {X Y : List Nat} {t : wt_M} {C : List mb_F} (h : iv_ o F R L X t C Y) {k c : Nat} {u : mb_F} (hk : X[k]? = some c) (hu : C[c]? = some u) (b : Bool) (G : wt_M → Option (Int32 × wt_M)) :
    ∃ (t' : wt_M) (C' : List mb_F) (Y' : List Nat), (b_T (fm_cutBy t (nI c) (nI (o L)) (nI b.toNat)) fun t134 => b_IT (fm_put t134 (68 : Int32)) fun r141 t141 => b_T (fm_tell t141 r141 (nI (L + 1))) fun t147 => G t147) = G t' ∧ iv_ o F R L X t' C' Y' ∧ gr_w C C' Y Y' ∧ (nk_ (mb_cf u (o L) b) → ∃ d, d ∈ Y' ∧ C'[d]? = some (mb_cf u (o L) b)) := by
  obtain ⟨⟨hm, hz⟩, hn, hl, hx, hx9, hxs, hcs, hys⟩ := h
  have clen := c_len ho hF hR hn.2.2.2 (fun u hu => (hcs u hu).imp fun _ z => z.2)
  have cl : c < C.length := (List.getElem?_eq_some_iff.mp hu).1
  have o8 := (ho.2.1 L hL).1
  obtain ⟨t1, e1, d1, d2, d3⟩ := cu_ok (t := t) (c := c) (v := o L) (by omega) o8 b hm.2.2
  rw [e1, bT_some]
  have um := List.mem_of_getElem? hu
  have uon := (hn.2.2.1 u um).1
  have n1 : nt_ t1 C := ⟨by rw [d1]; exact hn.1, fun j f hj x hx => by unfold ctb_; rw [d2 1 _ (fun z => by omega)]; exact hn.2.1 j f hj x hx, hn.2.2.1, hn.2.2.2⟩
  have l1 : tl_ t1 C Y (L + 1) := by
    unfold tl_
    rw [d1]
    exact hl
  have m1 : mo_ t1 F o := ⟨fun r hr x hx => by unfold tb_; rw [d2 0 _ (fun z => by omega)]; exact hm.1 r hr x hx, fun j hj => by rw [d1]; exact hm.2.1 j hj, fun v hv => by rw [d2 2 v (fun z => by omega)]; exact hm.2.2 v hv⟩
  have fon : mb_on (mb_cf u (o L) b) (fun v => v < 8) := mb_on_mono (mb_on_cf b uon) fun v hv => hv.1
  obtain ⟨t', C', Y', e2, n', l', qk, p1, p2, p3, p4, p5⟩ := pt_ok (q := 17) (f := mb_cf u (o L) b) (by decide) n1 l1 (by omega) (by omega) fon (fun x hx => by
    rw [d3 x hx, hn.2.1 c u hu _ (wb_lt hx o8 b), wb_up hx o8]
    rfl) G
  rw [show (68 : Int32) = nI (4 * 17) from rfl, e2]
  obtain ⟨u', hu', rr, hrr, a, ea⟩ := hxs c (List.mem_of_getElem? hk)
  have uu : u' = u := Option.some.inj (hu'.symm.trans hu)
  subst uu
  have newcl : cl8_ o F R (L + 1) (mb_cf u' (o L) b) := by
    refine ⟨rr, hrr, mb_up a L b, ?_⟩
    show _ = mb_cf (ck_ o (mb_up a L b) (F rr) L) (o L) (mb_up a L b L)
    rw [mb_up_eq, ck_cong (o' := o) (b := a) L (fun j hj => ⟨rfl, mb_up_ne (by omega)⟩), ← ea]
  refine ⟨t', C', Y', rfl, ⟨⟨qk_mo m1 qk, by rw [qk.2.2.2 0 (by decide) (by decide), d1]; exact hz⟩, n', l', fun j d hj => by rw [qk.2.2.1 2 j (by decide) (by decide) (by decide), d1]; exact hx j d hj, by rw [qk.2.2.2 2 (by decide) (by decide), d1]; exact hx9, fun d hd => ?_, fun w hw => ?_, fun d hd => ?_⟩, ⟨p1, p3⟩, p5⟩
  · obtain ⟨w, w1, w2⟩ := hxs d hd
    exact ⟨w, p1 d w w1, w2⟩
  · rcases p2 w hw with z | z
    · exact hcs w z
    · exact ⟨L + 1, Nat.le_refl _, by rw [z.1]; exact newcl⟩
  · rcases p4 d hd with z | z
    · obtain ⟨w, w1, w2⟩ := hys d z
      exact ⟨w, p1 d w w1, w2⟩
    · exact ⟨_, z, newcl⟩
theorem gr_rf (C : List mb_F) (Y : List Nat) : gr_w C C Y Y := ⟨fun _ _ z => z, fun _ z => z⟩
theorem gr_tr {C C1 C2 : List mb_F} {Y Y1 Y2 : List Nat} (h : gr_w C C1 Y Y1) (k : gr_w C1 C2 Y1 Y2) : gr_w C C2 Y Y2 := ⟨fun c u z => k.1 c u (h.1 c u z), fun c z => k.2 c (h.2 c z)⟩
theorem X_752 (ho : or_ lev o) (hF : ∀ r, r < 16 → mb_on (F r) (fun v => v < 8)) (hR : ∀ r, R r → r < 16) {L : Nat} {X Y : List Nat} (hX : X.Nodup) {t : wt_M} {C : List mb_F} (h : iv_ o F R L X t C Y) : X.length ≤ 752 := by
  obtain ⟨hm, hn, hl, hx, hx9, hxs, hcs, hys⟩ := h
  have clen := c_len ho hF hR hn.2.2.2 (fun u hu => (hcs u hu).imp fun _ z => z.2)
  have := ph_len X (List.range C.length) hX (fun c hc => by
    obtain ⟨u, hu, -⟩ := hxs c hc
    exact List.mem_range.mpr (List.getElem?_eq_some_iff.mp hu).1)
  rw [List.length_range] at this
  omega
theorem two_cut (ho : or_ lev o) (hF : ∀ r, r < 16 → mb_on (F r) (fun v => v < 8)) (hR : ∀ r, R r → r < 16) {L : Nat} (hL : L < 8) {X Y : List Nat} (hX : X.Nodup) {t : wt_M} {C : List mb_F} (h : iv_ o F R L X t C Y) {k c : Nat} {u : mb_F} (hk : X[k]? = some c) (hu : C[c]? = some u) (K : wt_M → Option (Int32 × wt_M)) (n : Nat) :
    ∃ (t' : wt_M) (C' : List mb_F) (Y' : List Nat), fm_nodesOf_L103 (nI L) (nI k) K (n + 3) 0 t = K t' ∧ iv_ o F R L X t' C' Y' ∧ gr_w C C' Y Y' ∧ ∀ b, nk_ (mb_cf u (o L) b) → ∃ d, d ∈ Y' ∧ C'[d]? = some (mb_cf u (o L) b) := by
  have kx : k < X.length := (List.getElem?_eq_some_iff.mp hk).1
  have xl := X_752 ho hF hR hX h
  have step : ∀ (t : wt_M) (C : List mb_F) (Y : List Nat) (m : Nat) (b : Bool), iv_ o F R L X t C Y → C[c]? = some u → ∃ (t' : wt_M) (C' : List mb_F) (Y' : List Nat), fm_nodesOf_L103 (nI L) (nI k) K (m + 1) (nI b.toNat) t = fm_nodesOf_L103 (nI L) (nI k) K m (nI b.toNat + 1) t' ∧ iv_ o F R L X t' C' Y' ∧ gr_w C C' Y Y' ∧ (nk_ (mb_cf u (o L) b) → ∃ d, d ∈ Y' ∧ C'[d]? = some (mb_cf u (o L) b)) := by
    intro t C Y m b h hu
    obtain ⟨t', C', Y', e, r⟩ := one_cut ho hF hR hL h hk hu b (fun t147 => fm_nodesOf_L103 (nI L) (nI k) K m (nI b.toNat + 1) t147)
    refine ⟨t', C', Y', ?_, r⟩
    rw [← e, fm_nodesOf_L103, if_neg (by cases b <;> decide), rc_at (by omega) (by decide), h.2.2.2.1 k c hk, rc_at hL (by decide), h.1.1.2.1 L hL, nI_1, jn_]
    cases b
    · rw [if_neg (by decide)]; rfl
    · rw [if_pos (by decide)]; rfl
  obtain ⟨t1, C1, Y1, e1, i1, g1, d1⟩ := step t C Y (n + 2) false h hu
  obtain ⟨t2, C2, Y2, e2, i2, g2, d2⟩ := step t1 C1 Y1 (n + 1) true i1 (g1.1 c u hu)
  refine ⟨t2, C2, Y2, ?_, i2, gr_tr g1 g2, fun b hb => ?_⟩
  · rw [show (0 : Int32) = nI false.toNat from nI_0.symm, e1, show nI false.toNat + 1 = nI true.toNat by decide, e2, fm_nodesOf_L103, if_pos (by decide)]
  · cases b
    · obtain ⟨d, z1, z2⟩ := d1 hb
      exact ⟨d, g2.2 d z1, g2.1 d _ z2⟩
    · exact d2 hb
theorem all_cut (ho : or_ lev o) (hF : ∀ r, r < 16 → mb_on (F r) (fun v => v < 8)) (hR : ∀ r, R r → r < 16) {L : Nat} (hL : L < 8) {X : List Nat} (hX : X.Nodup) (K : wt_M → Option (Int32 × wt_M)) : ∀ (d n k : Nat) (t : wt_M) (C : List mb_F) (Y : List Nat), k + d = X.length → d < n → iv_ o F R L X t C Y → (∀ j c u b, j < k → X[j]? = some c → C[c]? = some u → nk_ (mb_cf u (o L) b) → ∃ e, e ∈ Y ∧ C[e]? = some (mb_cf u (o L) b)) →
    ∃ (t' : wt_M) (C' : List mb_F) (Y' : List Nat), fm_nodesOf_L91 (nI L) K n (nI k) t = K t' ∧ iv_ o F R L X t' C' Y' ∧ gr_w C C' Y Y' ∧ (∀ c u b, c ∈ X → C[c]? = some u → nk_ (mb_cf u (o L) b) → ∃ e, e ∈ Y' ∧ C'[e]? = some (mb_cf u (o L) b)) := by
  intro d
  induction d with
  | zero =>
    intro n k t C Y h1 hn h hd
    cases n with
    | zero => omega
    | succ n =>
      have xl := X_752 ho hF hR hX h
      refine ⟨t, C, Y, ?_, h, gr_rf C Y, fun c u b hc hu hb => ?_⟩
      · rw [fm_nodesOf_L91, h.2.2.2.2.1, if_pos (nI_le (by omega) (by omega))]
      · obtain ⟨j, hj⟩ := List.getElem?_of_mem hc
        exact hd j c u b (by have := (List.getElem?_eq_some_iff.mp hj).1; omega) hj hu hb
  | succ d ih =>
    intro n k t C Y h1 hn h hd
    cases n with
    | zero => omega
    | succ n =>
      have xl := X_752 ho hF hR hX h
      obtain ⟨c, hk⟩ : ∃ c, X[k]? = some c := ⟨_, List.getElem?_eq_getElem (by omega)⟩
      obtain ⟨u, hu, -⟩ := h.2.2.2.2.2.1 c (List.mem_of_getElem? hk)
      obtain ⟨t1, C1, Y1, e1, i1, g1, d1⟩ := two_cut ho hF hR hL hX h hk hu (fun (t_103 : wt_M) => fm_nodesOf_L91 (nI L) K n (nI k + 1) t_103) 4997
      obtain ⟨t2, C2, Y2, e2, i2, g2, d2⟩ := ih n (k + 1) t1 C1 Y1 (by omega) (by omega) i1 (fun j c' u' b hj hc' hu' hb => by
        by_cases q : j = k
        · subst q
          have : c' = c := Option.some.inj (hc'.symm.trans hk)
          subst this
          have : u' = u := Option.some.inj (hu'.symm.trans (g1.1 _ _ hu))
          subst this
          exact d1 b hb
        · obtain ⟨u2, hu2, -⟩ := h.2.2.2.2.2.1 c' (List.mem_of_getElem? hc')
          have : u' = u2 := Option.some.inj (hu'.symm.trans (g1.1 _ _ hu2))
          subst this
          obtain ⟨e, z1, z2⟩ := hd j c' u' b (by omega) hc' hu2 hb
          exact ⟨e, g1.2 e z1, g1.1 e _ z2⟩)
      refine ⟨t2, C2, Y2, ?_, i2, gr_tr g1 g2, fun c' u' b hc' hu' hb => d2 c' u' b hc' (g1.1 _ _ hu') hb⟩
      rw [fm_nodesOf_L91, h.2.2.2.2.1, if_neg (nI_ge (by omega) (by omega))]
      refine e1.trans ?_
      show fm_nodesOf_L91 (nI L) K n (nI k + 1) t1 = _
      rw [nI_1, e2]
/-- copying -/
theorem cp_loop {m : Nat} (hm : m < 4000) (c3 : Int32) (K : wt_M → Option (Int32 × wt_M)) : ∀ (d n k : Nat) (t : wt_M), k + d = m → d < n → t.1 9 3 = nI m → ∃ t', fm_nodesOf_L54 c3 K n (nI k) t = K t' ∧ t'.2 = t.2 ∧ (∀ r j, r ≠ 2 → t'.1 r j = t.1 r j) ∧ (∀ j, k ≤ j → j < m → t'.1 2 j = t.1 3 j) ∧ ∀ j, j < k → t'.1 2 j = t.1 2 j := by
  intro d
  induction d with
  | zero =>
    intro n k t h1 hn h9
    cases n with
    | zero => omega
    | succ n =>
      rw [fm_nodesOf_L54, h9, if_pos (nI_le (by omega) (by omega))]
      exact ⟨t, rfl, rfl, fun _ _ _ => rfl, fun j _ _ => by omega, fun _ _ => rfl⟩
  | succ d ih =>
    intro n k t h1 hn h9
    cases n with
    | zero => omega
    | succ n =>
      rw [fm_nodesOf_L54, h9, if_neg (nI_ge (by omega) (by omega)), rc_at (by omega) (by decide), wc_T (by omega) (by decide), nI_1]
      obtain ⟨t', e, q1, q2, q3, q4⟩ := ih n (k + 1) (pu_S t.1 2 k (t.1 3 k), t.2) (by omega) (by omega) (by show pu_S t.1 2 k (t.1 3 k) 9 3 = _; rw [pu_row (by decide)]; exact h9)
      refine ⟨t', e, q1, fun r j hr => by rw [q2 r j hr]; exact pu_row hr, fun j h2 h3 => ?_, fun j hj => by rw [q4 j (by omega)]; show pu_S t.1 2 k (t.1 3 k) 2 j = _; exact pu_ne (by omega)⟩
      by_cases c : j = k
      · subst c
        rw [q4 j (by omega)]
        show pu_S t.1 2 j (t.1 3 j) 2 j = _
        exact pu_eq _ _ _ _
      · rw [q3 j (by omega) h3]
        show pu_S t.1 2 k (t.1 3 k) 3 j = _
        exact pu_row (by decide)
def lv_ (o : Nat → Nat) (F : Nat → mb_F) (R : Nat → Prop) (L : Nat) (t : wt_M) (C : List mb_F) (X : List Nat) : Prop :=
  (mo_ t F o ∧ t.1 9 0 = 0) ∧ nt_ t C ∧ tl_ t C X L ∧ (∀ c, c ∈ X → ∃ u, C[c]? = some u ∧ cl8_ o F R L u) ∧ (∀ u, u ∈ C → ∃ k, k ≤ L ∧ cl8_ o F R k u) ∧ (∀ k u, k ≤ L → cl8_ o F R k u → nk_ u → u ∈ C) ∧ ∀ u, cl8_ o F R L u → nk_ u → ∃ c, c ∈ X ∧ C[c]? = some u
theorem nk_cf {f : mb_F} {v : Nat} {b : Bool} (h : nk_ (mb_cf f v b)) : nk_ f := ⟨fun z => h.1 (by rw [z]; rfl), fun z => h.2 (by rw [z]; rfl)⟩
theorem lv_loop (ho : or_ lev o) (hF : ∀ r, r < 16 → mb_on (F r) (fun v => v < 8)) (hR : ∀ r, R r → r < 16) : ∀ (d n L : Nat) (t : wt_M) (C : List mb_F) (X : List Nat), L + d = 8 → d < n → lv_ o F R L t C X → ∃ (t' : wt_M) (C' : List mb_F), fm_nodesOf_L37 n (nI L) t = some (nI C'.length, t') ∧ mo_ t' F o ∧ t'.1 9 0 = 0 ∧ lo_ (fun h => ∃ r, R r ∧ ns_ o (F r) h) C' := by
  intro d
  induction d with
  | zero =>
    intro n L t C X h1 hn h
    cases n with
    | zero => omega
    | succ n =>
      obtain ⟨⟨hm, hz⟩, hnt, htl, hxs, hcs, hc1, hc2⟩ := h
      have e : L = 8 := by omega
      subst e
      refine ⟨t, C, ?_, hm, hz, hnt.2.2.2, fun f => ⟨fun hf => ?_, fun ⟨r, hr, hk, k, a, k8, e⟩ => hc1 k f k8 ⟨r, hr, a, e⟩ hk⟩⟩
      · rw [fm_nodesOf_L37, if_pos (by decide), hnt.1]
      · obtain ⟨k, k8, r, hr, a, e⟩ := hcs f hf
        exact ⟨r, hr, (hnt.2.2.1 f hf).2, k, a, k8, e⟩
  | succ d ih =>
    intro n L t C X h1 hn h
    cases n with
    | zero => omega
    | succ n =>
      obtain ⟨⟨hm, hz⟩, hnt, htl, hxs, hcs, hc1, hc2⟩ := h
      have clen := c_len ho hF hR hnt.2.2.2 (fun u hu => (hcs u hu).imp fun _ z => z.2)
      have xlen := X_len htl
      obtain ⟨tc, e2, c1, c2, c3, -⟩ := cp_loop (m := X.length) (by omega) (nI L) (fun (t_54 : wt_M) => sp_T t_54 3 (0 : Int32) fun t85 => fm_nodesOf_L91 (nI L) (fun (t_91 : wt_M) => fm_nodesOf_L37 n (nI L + 1) t_91) 5000 (0 : Int32) t85) X.length 5000 0 (pu_S t.1 9 2 (t.1 9 3), t.2) (by omega) (by omega) (by show pu_S t.1 9 2 (t.1 9 3) 9 3 = _; rw [pu_ne (by decide)]; exact htl.1)
      have r9 : ∀ r j, r ≠ 2 → r ≠ 9 → tc.1 r j = t.1 r j := fun r j x y => by rw [c2 r j x]; exact pu_row y
      have i0 : iv_ o F R L X (pu_S tc.1 9 3 0, tc.2) C [] := by
        refine ⟨⟨⟨fun r hr x hx => ?_, fun j hj => ?_, fun v hv => ?_⟩, ?_⟩, ⟨?_, fun c f hc x hx => ?_, hnt.2.2.1, hnt.2.2.2⟩, ⟨?_, fun k c hk => ?_, List.nodup_nil, fun c hc => ?_, fun c hc => ?_⟩, fun k c hk => ?_, ?_, hxs, fun u hu => ?_, fun c hc => ?_⟩
        · show tb_ (pu_S tc.1 9 3 0, tc.2) r x = _
          unfold tb_
          show (tc.2 0 _).toBitVec.getLsbD _ = _
          rw [c1]; exact hm.1 r hr x hx
        · show pu_S tc.1 9 3 0 0 j = _
          rw [pu_row (by decide), r9 0 j (by decide) (by decide)]; exact hm.2.1 j hj
        · show tc.2 2 v = _
          rw [c1]; exact hm.2.2 v hv
        · show pu_S tc.1 9 3 0 9 0 = 0
          rw [pu_ne (by decide), c2 9 0 (by decide)]
          show pu_S t.1 9 2 (t.1 9 3) 9 0 = 0
          rw [pu_ne (by decide)]; exact hz
        · show pu_S tc.1 9 3 0 9 1 = _
          rw [pu_ne (by decide), c2 9 1 (by decide)]
          show pu_S t.1 9 2 (t.1 9 3) 9 1 = _
          rw [pu_ne (by decide)]; exact hnt.1
        · unfold ctb_
          show (tc.2 1 _).toBitVec.getLsbD _ = _
          rw [c1]; exact hnt.2.1 c f hc x hx
        · show pu_S tc.1 9 3 0 9 3 = _
          rw [pu_eq]; rfl
        · cases hk
        · cases hc
        · refine Or.inr ⟨List.not_mem_nil, ?_⟩
          show pu_S tc.1 9 3 0 4 c = -1 ∨ ∃ l, l < L + 1 ∧ pu_S tc.1 9 3 0 4 c = nI l
          rw [pu_row (by decide), r9 4 c (by decide) (by decide)]
          rcases htl.2.2.2.2 c hc with ⟨-, z⟩ | ⟨-, z | ⟨l, z1, z2⟩⟩
          · exact Or.inr ⟨L, by omega, z⟩
          · exact Or.inl z
          · exact Or.inr ⟨l, by omega, z2⟩
        · show pu_S tc.1 9 3 0 2 k = _
          have kx : k < X.length := (List.getElem?_eq_some_iff.mp hk).1
          rw [pu_row (by decide), c3 k (Nat.zero_le _) kx]
          show pu_S t.1 9 2 (t.1 9 3) 3 k = _
          rw [pu_row (by decide)]; exact htl.2.1 k c hk
        · show pu_S tc.1 9 3 0 9 2 = _
          rw [pu_ne (by decide), c2 9 2 (by decide)]
          show pu_S t.1 9 2 (t.1 9 3) 9 2 = _
          rw [pu_eq]; exact htl.1
        · obtain ⟨k, z1, z2⟩ := hcs u hu
          exact ⟨k, by omega, z2⟩
        · cases hc
      obtain ⟨t3, C3, Y3, e3, i3, g3, d3⟩ := all_cut ho hF hR (show L < 8 by omega) htl.2.2.1 (fun (t_91 : wt_M) => fm_nodesOf_L37 n (nI L + 1) t_91) X.length 5000 0 _ C [] (by omega) (by omega) i0 (fun j _ _ _ hj => by omega)
      obtain ⟨hm3, hn3, hl3, -, -, -, hcs3, hys3⟩ := i3
      have fin : ∀ u, cl8_ o F R (L + 1) u → nk_ u → ∃ c, c ∈ Y3 ∧ C3[c]? = some u := by
        rintro u ⟨r, hr, a, e⟩ hu
        have e' : u = mb_cf (ck_ o a (F r) L) (o L) (a L) := e
        rw [e'] at hu ⊢
        obtain ⟨c, z1, z2⟩ := hc2 _ ⟨r, hr, a, rfl⟩ (nk_cf hu)
        exact d3 c _ _ z1 z2 hu
      have hc3 : ∀ k u, k ≤ L + 1 → cl8_ o F R k u → nk_ u → u ∈ C3 := by
        intro k u hk hu nku
        by_cases q : k = L + 1
        · subst q
          obtain ⟨c, -, z⟩ := fin u hu nku
          exact List.mem_of_getElem? z
        · obtain ⟨c, z⟩ := List.getElem?_of_mem (hc1 k u (by omega) hu nku)
          exact List.mem_of_getElem? (g3.1 c u z)
      obtain ⟨t4, C4, e4, r4⟩ := ih n (L + 1) t3 C3 Y3 (by omega) (by omega) ⟨hm3, hn3, hl3, hys3, hcs3, hc3, fin⟩
      refine ⟨t4, C4, ?_, r4⟩
      rw [fm_nodesOf_L37, if_neg (show ¬ (8 : Int32) ≤ nI L from nI_ge (b := 8) (by omega) (by decide))]
      show sp_T t 2 (t.1 9 3) _ = _
      rw [sp_T]
      rw [nI_0] at e2 e3
      refine e2.trans ?_
      show sp_T tc 3 0 _ = _
      rw [sp_T]
      refine e3.trans ?_
      show fm_nodesOf_L37 n (nI L + 1) t3 = _
      rw [nI_1]; exact e4
/-- the first loop: a to b -/
theorem fst_loop (ho : or_ lev o) (hF : ∀ r, r < 16 → mb_on (F r) (fun v => v < 8)) {a b : Nat} (hb : b < 16) (K : wt_M → Option (Int32 × wt_M)) : ∀ (d n k : Nat) (t : wt_M) (C : List mb_F) (X : List Nat), k + d = b + 1 → d < n → a ≤ k → lv_ o F (fun r => a ≤ r ∧ r < k) 0 t C X → ∃ (t' : wt_M) (C' : List mb_F) (X' : List Nat), fm_nodesOf_L12 (nI b) K n (nI k) t = K t' ∧ lv_ o F (fun r => a ≤ r ∧ r < b + 1) 0 t' C' X' := by
  intro d
  induction d with
  | zero =>
    intro n k t C X h1 hn ha h
    cases n with
    | zero => omega
    | succ n =>
      have e : k = b + 1 := by omega
      subst e
      rw [fm_nodesOf_L12, if_pos (nI_lt (by omega) (by omega))]
      exact ⟨t, C, X, rfl, h⟩
  | succ d ih =>
    intro n k t C X h1 hn ha h
    cases n with
    | zero => omega
    | succ n =>
      obtain ⟨⟨hm, hz⟩, hnt, htl, hxs, hcs, hc1, hc2⟩ := h
      have clen := c_len ho hF (fun r (hr : a ≤ r ∧ r < k) => by omega) hnt.2.2.2 (fun u hu => (hcs u hu).imp fun _ z => z.2)
      obtain ⟨t', C', X', e2, n', l', qk, p1, p2, p3, p4, p5⟩ := pt_ok (q := k) (f := F k) (by omega) hnt htl (by decide) (by omega) (hF k (by omega)) (hm.1 k (by omega)) (fun t26 => fm_nodesOf_L12 (nI b) K n (nI k + 1) t26)
      have up : ∀ (j : Nat) (u : mb_F), cl8_ o F (fun r => a ≤ r ∧ r < k) j u → cl8_ o F (fun r => a ≤ r ∧ r < k + 1) j u := fun j u ⟨r, hr, z⟩ => ⟨r, ⟨hr.1, by omega⟩, z⟩
      have new : cl8_ o F (fun r => a ≤ r ∧ r < k + 1) 0 (F k) := ⟨k, ⟨ha, by omega⟩, fun _ => false, rfl⟩
      have comp : ∀ u, cl8_ o F (fun r => a ≤ r ∧ r < k + 1) 0 u → nk_ u → ∃ c, c ∈ X' ∧ C'[c]? = some u := by
        rintro u ⟨r, hr, x, e⟩ hu
        by_cases q : r = k
        · subst q
          have e : u = F r := e
          subst e
          exact p5 hu
        · obtain ⟨c, z1, z2⟩ := hc2 u ⟨r, ⟨hr.1, by omega⟩, x, e⟩ hu
          exact ⟨c, p3 c z1, p1 c u z2⟩
      have w1 : ∀ c, c ∈ X' → ∃ u, C'[c]? = some u ∧ cl8_ o F (fun r => a ≤ r ∧ r < k + 1) 0 u := by
        intro c hc
        rcases p4 c hc with z | z
        · obtain ⟨u, z1, z2⟩ := hxs c z
          exact ⟨u, p1 c u z1, up 0 u z2⟩
        · exact ⟨_, z, new⟩
      have w2 : ∀ u, u ∈ C' → ∃ j, j ≤ 0 ∧ cl8_ o F (fun r => a ≤ r ∧ r < k + 1) j u := by
        intro u hu
        rcases p2 u hu with z | z
        · obtain ⟨j, z1, z2⟩ := hcs u z
          exact ⟨j, z1, up j u z2⟩
        · exact ⟨0, Nat.le_refl _, by rw [z.1]; exact new⟩
      have w3 : ∀ j u, j ≤ 0 → cl8_ o F (fun r => a ≤ r ∧ r < k + 1) j u → nk_ u → u ∈ C' := by
        intro j u hj hu nku
        have j0 : j = 0 := by omega
        subst j0
        obtain ⟨c, -, z⟩ := comp u hu nku
        exact List.mem_of_getElem? z
      obtain ⟨t2, C2, X2, e3, r3⟩ := ih n (k + 1) t' C' X' (by omega) (by omega) (by omega) ⟨⟨qk_mo hm qk, by rw [qk.2.2.2 0 (by decide) (by decide)]; exact hz⟩, n', l', w1, w2, w3, comp⟩
      refine ⟨t2, C2, X2, ?_, r3⟩
      rw [fm_nodesOf_L12, if_neg (nI_nlt (by omega) (by omega)), show (4 : Int32) = nI 4 from rfl, pk_mul, show (0 : Int32) = nI 0 from nI_0.symm]
      refine e2.trans ?_
      rw [nI_1]; exact e3
theorem nof_ok (ho : or_ lev o) (hF : ∀ r, r < 16 → mb_on (F r) (fun v => v < 8)) {a b : Nat} (hab : a ≤ b) (hb : b < 16) {t : wt_M} (hm : mo_ t F o) (hz : t.1 9 0 = 0) : ∃ (t' : wt_M) (C : List mb_F), fm_nodesOf t (nI a) (nI b) = some (nI C.length, t') ∧ mo_ t' F o ∧ t'.1 9 0 = 0 ∧ lo_ (fun h => ∃ r, (a ≤ r ∧ r < b + 1) ∧ ns_ o (F r) h) C := by
  have l0 : lv_ o F (fun r => a ≤ r ∧ r < a) 0 (pu_S (pu_S t.1 9 1 0) 9 3 0, t.2) [] [] := by
    refine ⟨⟨⟨hm.1, fun j hj => ?_, hm.2.2⟩, ?_⟩, ⟨?_, fun c f hc => ?_, fun f hf => ?_, List.nodup_nil⟩, ⟨?_, fun k c hk => ?_, List.nodup_nil, fun c hc => ?_, fun c hc => ?_⟩, fun c hc => ?_, fun u hu => ?_, fun k u _ ⟨r, hr, _⟩ => ?_, fun u ⟨r, hr, _⟩ => ?_⟩
    · show pu_S (pu_S t.1 9 1 0) 9 3 0 0 j = _
      rw [pu_row (by decide), pu_row (by decide)]; exact hm.2.1 j hj
    · show pu_S (pu_S t.1 9 1 0) 9 3 0 9 0 = _
      rw [pu_ne (by decide), pu_ne (by decide)]; exact hz
    · show pu_S (pu_S t.1 9 1 0) 9 3 0 9 1 = _
      rw [pu_ne (by decide), pu_eq]; rfl
    · cases hc
    · cases hf
    · show pu_S (pu_S t.1 9 1 0) 9 3 0 9 3 = _
      rw [pu_eq]; rfl
    · cases hk
    · cases hc
    · exact absurd hc (Nat.not_lt_zero c)
    · cases hc
    · cases hu
    · omega
    · omega
  obtain ⟨t1, C1, X1, e1, l1⟩ := fst_loop ho hF hb (fun (t_12 : wt_M) => fm_nodesOf_L37 5000 (0 : Int32) t_12) (b + 1 - a) 5000 a _ [] [] (by omega) (by omega) (Nat.le_refl _) l0
  obtain ⟨t2, C2, e2, r2⟩ := lv_loop ho hF (fun r (hr : a ≤ r ∧ r < b + 1) => by omega) 8 5000 0 t1 C1 X1 (by omega) (by omega) l1
  refine ⟨t2, C2, ?_, r2⟩
  rw [fm_nodesOf, sp_T]
  show sp_T (pu_S t.1 9 1 0, t.2) 3 0 _ = _
  rw [sp_T]
  refine e1.trans ?_
  rw [nI_0] at e2
  exact e2
end NO
