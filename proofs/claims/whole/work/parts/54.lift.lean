/-! lift, and the loop of exchange. My own. -/
/-- what stays on the way -/
def kw_ (s s' : wt_S) (g g' : gh_) : Prop := (∀ m, gk_ g m → gk_ g' m ∧ g'.2.2.2 m = g.2.2.2 m) ∧ (∀ j, s' 0 j = s 0 j) ∧ ∀ j, s' 8 j = s 8 j
theorem kw_rf (s : wt_S) (g : gh_) : kw_ s s g g := ⟨fun _ h => ⟨h, rfl⟩, fun _ => rfl, fun _ => rfl⟩
theorem kw_tr {s s1 s2 : wt_S} {g g1 g2 : gh_} (h : kw_ s s1 g g1) (j : kw_ s1 s2 g1 g2) : kw_ s s2 g g2 := ⟨fun m hm => ⟨(j.1 m (h.1 m hm).1).1, (j.1 m (h.1 m hm).1).2.trans (h.1 m hm).2⟩, fun i => (j.2.1 i).trans (h.2.1 i), fun i => (j.2.2 i).trans (h.2.2 i)⟩
theorem kw_ex {s s' : wt_S} {g g' : gh_} (h : ex_ s s' g g') : kw_ s s' g g' := ⟨fun m hm => ⟨ex_gk h hm, (h.1 m hm).2.2.2⟩, h.2.1, h.2.2.1⟩
variable {s : wt_S} {lev at_ : Nat → Nat} {g : gh_} {x y k : Nat} {B : Nat → Prop} {L : List mb_F}
theorem ms_lab8 (h : gm_ lev g x y k B) {n : Nat} (hn : gk_ g n) : g.1 n ≤ 8 := by
  rcases ms_lab h hn with q | q
  · omega
  · omega
theorem rp_labm (hg : gm_ lev g x y k B) (h : rp_ s lev at_ g) {n : Nat} (hn : gk_ g n) : s 3 n = nI (g.1 n) := by
  rw [h.2.2.1 n hn.1, cL_lt (by have := ms_lab8 hg hn; omega)]
theorem of_mid (hg : gm_ lev g x y k B) (h : rp_ s lev at_ g) {n v : Nat} (hn : gk_ g n) (hv : v < 8) : fd_offWay s (nI n) (nI v) = some (nI (if g.1 n = v then g.2.1 n else n)) := by
  have l8 := ms_lab8 hg hn
  unfold fd_offWay
  dsimp only [jn_]
  rw [rc_at hn.1 (by decide), rp_labm hg h hn]
  by_cases q : g.1 n = v
  · rw [if_pos (congrArg nI q), rc_at hn.1 (by decide), if_pos q, (h.2.2.2 n hn.1 (by omega)).1]
  · rw [if_neg (fun c => q (nI_inj (by omega) (by omega) c)), if_neg q]
theorem on_mid (hg : gm_ lev g x y k B) (h : rp_ s lev at_ g) {n v : Nat} (hn : gk_ g n) (hv : v < 8) : fd_onWay s (nI n) (nI v) = some (nI (if g.1 n = v then g.2.2.1 n else n)) := by
  have l8 := ms_lab8 hg hn
  unfold fd_onWay
  dsimp only [jn_]
  rw [rc_at hn.1 (by decide), rp_labm hg h hn]
  by_cases q : g.1 n = v
  · rw [if_pos (congrArg nI q), rc_at hn.1 (by decide), if_pos q, (h.2.2.2 n hn.1 (by omega)).2]
  · rw [if_neg (fun c => q (nI_inj (by omega) (by omega) c)), if_neg q]
/-- the two ways of a child by y -/
theorem wy_ok (hh : or_ lev at_ ∧ x < 8 ∧ y < 8 ∧ x ≠ y ∧ lev y = k ∧ lev x = k + 1) (h : gm_ lev g x y k B) {c : Nat} (hc : gk_ g c) (hw : hb_ lev g y k B c) :
    (gk_ g (if g.1 c = y then g.2.1 c else c) ∧ ¬ B (if g.1 c = y then g.2.1 c else c) ∧ k + 1 < lev (g.1 (if g.1 c = y then g.2.1 c else c)) ∧ g.2.2.2 (if g.1 c = y then g.2.1 c else c) = mb_cf (g.2.2.2 c) y false) ∧
    (gk_ g (if g.1 c = y then g.2.2.1 c else c) ∧ ¬ B (if g.1 c = y then g.2.2.1 c else c) ∧ k + 1 < lev (g.1 (if g.1 c = y then g.2.2.1 c else c)) ∧ g.2.2.2 (if g.1 c = y then g.2.2.1 c else c) = mb_cf (g.2.2.2 c) y true) := by
  obtain ⟨ho, x8, y8, xy, ly, lx⟩ := hh
  have nB : ∀ m, k + 1 < lev (g.1 m) → ¬ B m := fun m hm c => by
    have := (h.2.2.2.2.2.2.1 m c).2.1
    rw [this, lx] at hm
    omega
  rcases hw with ⟨b0, ⟨p1, p2, p3⟩ | ⟨p1, p2⟩⟩
  · rw [if_pos p1, if_pos p1]
    obtain ⟨q1, q2, q3, q4, q5, e, i0, i1⟩ := h.2.2.1 c hc.1 (by omega)
    rw [p1] at e i0 i1
    exact ⟨⟨⟨q1, q3⟩, nB _ p2, p2, by rw [e, mb_cf_mx0 i0]⟩, ⟨⟨q2, q4⟩, nB _ p3, p3, by rw [e, mb_cf_mx1 i1]⟩⟩
  · rw [if_neg p1, if_neg p1]
    have i := h.2.2.2.2.2.1 c hc b0 y y8 (by omega)
    exact ⟨⟨hc, b0, p2, (mb_cf_in i).symm⟩, ⟨hc, b0, p2, (mb_cf_in i).symm⟩⟩
def gh_set (g : gh_) (n v a b : Nat) : gh_ := (fun j => if j = n then v else g.1 j, fun j => if j = n then a else g.2.1 j, fun j => if j = n then b else g.2.2.1 j, g.2.2.2)
theorem gs_old (g : gh_) (n v a b : Nat) {j : Nat} (hj : j ≠ n) : (gh_set g n v a b).1 j = g.1 j ∧ (gh_set g n v a b).2.1 j = g.2.1 j ∧ (gh_set g n v a b).2.2.1 j = g.2.2.1 j := by simp [gh_set, hj]
theorem gs_new (g : gh_) (n v a b : Nat) : (gh_set g n v a b).1 n = v ∧ (gh_set g n v a b).2.1 n = a ∧ (gh_set g n v a b).2.2.1 n = b := by simp [gh_set]
theorem gs_fn (g : gh_) (n v a b : Nat) : (gh_set g n v a b).2.2.2 = g.2.2.2 := rfl
/-- the node n is given the label y and new children -/
theorem st_mid (h : ms_ s lev at_ g x y k B L) {n a b : Nat} (Bn : B n) (ha : gk_ g a) (hb : gk_ g b) (na : ¬ B a) (nb : ¬ B b) (la : k + 1 ≤ lev (g.1 a)) (lb : k + 1 ≤ lev (g.1 b)) (fa : g.2.2.2 a = mb_cf (g.2.2.2 n) y false) (fb : g.2.2.2 b = mb_cf (g.2.2.2 n) y true) :
    ms_ (pu_S (pu_S (pu_S s 3 n (nI y)) 4 n (nI a)) 5 n (nI b)) lev at_ (gh_set g n y a b) x y k (fun m => B m ∧ m ≠ n) L ∧ kw_ s (pu_S (pu_S (pu_S s 3 n (nI y)) 4 n (nI a)) 5 n (nI b)) g (gh_set g n y a b) := by
  obtain ⟨hh, ⟨r2, r1, r3, r45⟩, hg, ⟨C, hC1, hC2⟩, ⟨c, e, hc, he, hc2, hc3, he2, he3, hbelow, hend⟩, hcv, hcB, hLL⟩ := id h
  obtain ⟨ho, x8, y8, xy, ly, lx⟩ := id hh
  obtain ⟨n48, nx, ny, nu, hb0, hb1⟩ := hg.2.2.2.2.2.2.1 n Bn
  have an : a ≠ n := fun c => na (c ▸ Bn)
  have bn : b ≠ n := fun c => nb (c ▸ Bn)
  have old := fun j (hj : j ≠ n) => gs_old g n y a b hj
  have new := gs_new g n y a b
  have n2 := ms_two hg (show g.1 n < 8 by omega)
  have row : ∀ r j, r ≠ 3 → r ≠ 4 → r ≠ 5 → pu_S (pu_S (pu_S s 3 n (nI y)) 4 n (nI a)) 5 n (nI b) r j = s r j := fun r j a1 a2 a3 => by rw [pu_row a3, pu_row a2, pu_row a1]
  have lab9 : ∀ j, (gh_set g n y a b).1 j = 9 ↔ g.1 j = 9 := fun j => by
    by_cases q : j = n
    · subst q; rw [new.1, nx]; omega
    · rw [(old j q).1]
  have gkk : ∀ j, gk_ (gh_set g n y a b) j ↔ gk_ g j := fun j => ⟨fun q => ⟨q.1, fun z => q.2 ((lab9 j).mpr z)⟩, fun q => ⟨q.1, fun z => q.2 ((lab9 j).mp z)⟩⟩
  have l8 : ∀ j, (gh_set g n y a b).1 j < 8 ↔ g.1 j < 8 := fun j => by
    by_cases q : j = n
    · subst q; rw [new.1, nx]; omega
    · rw [(old j q).1]
  refine ⟨⟨hh, ⟨fun w hw => ?_, fun w hw => ?_, fun m hm => ?_, fun m hm hl => ?_⟩, ⟨?_, ?_, ?_, ?_, ?_, ?_, ?_, ?_⟩, ?_, ?_, ?_, ?_, hLL⟩, ⟨fun m hm => ⟨(gkk m).mpr hm, rfl⟩, fun j => row 0 j (by decide) (by decide) (by decide), fun j => row 8 j (by decide) (by decide) (by decide)⟩⟩
  · rw [row 2 w (by decide) (by decide) (by decide)]; exact r2 w hw
  · rw [row 1 w (by decide) (by decide) (by decide)]; exact r1 w hw
  · rw [pu_row (by decide), pu_row (by decide)]
    by_cases q : m = n
    · subst q; rw [pu_eq, new.1, cL_lt (by omega)]
    · rw [pu_ne q, (old m q).1]; exact r3 m hm
  · rw [l8 m] at hl
    by_cases q : m = n
    · subst q
      rw [pu_row (by decide), pu_eq, pu_eq, new.2.1, new.2.2]
      exact ⟨rfl, rfl⟩
    · rw [pu_row (by decide), pu_ne q, pu_row (by decide), pu_ne q, pu_row (by decide), pu_row (by decide), (old m q).2.1, (old m q).2.2]
      exact r45 m hm hl
  · rw [(old 0 (by omega)).1, (old 1 (by omega)).1]
    exact hg.1
  · intro m hm h2
    rw [lab9 m, l8 m]; exact hg.2.1 m hm h2
  · intro m hm hl
    rw [l8 m] at hl
    by_cases q : m = n
    · subst q
      rw [new.1, new.2.1, new.2.2, gs_fn]
      refine ⟨ha.1, hb.1, fun z => ha.2 ((lab9 a).mp z), fun z => hb.2 ((lab9 b).mp z), fun z => ?_, by rw [fa, fb, mb_mx_cf], by rw [fa]; exact mb_in_cf _, by rw [fb]; exact mb_in_cf _⟩
      apply ny
      have e0 : g.2.2.2 a = g.2.2.2 b := by rw [z]
      have e1 := mb_mx_cf y (g.2.2.2 m)
      rw [← fa, ← fb, ← e0, mb_mx_same] at e1
      rw [← e1, fa]
      exact mb_in_cf _
    · obtain ⟨q1, q2, q3, q4, q5⟩ := hg.2.2.1 m hm hl
      rw [(old m q).1, (old m q).2.1, (old m q).2.2, gs_fn]
      exact ⟨q1, q2, fun z => q3 ((lab9 _).mp z), fun z => q4 ((lab9 _).mp z), q5⟩
  · intro m j hm hj e
    exact hg.2.2.2.1 m j ((gkk m).mp hm) ((gkk j).mp hj) e
  · intro m hm hl nB
    rw [l8 m] at hl
    by_cases q : m = n
    · subst q
      rw [new.1, new.2.1, new.2.2, (old a an).1, (old b bn).1, ly]
      exact ⟨by omega, by omega⟩
    · rw [(old m q).1, (old m q).2.1, (old m q).2.2]
      have nBm : ¬ B m := fun z => nB ⟨z, q⟩
      obtain ⟨d1, d2⟩ := hg.2.2.2.2.1 m hm hl nBm
      have m8 := hg.2.2.2.2.2.2.2 m hm hl
      refine ⟨?_, ?_⟩
      · by_cases z : g.2.1 m = n
        · rw [z, new.1, ly]; exact m8 (Or.inl (z ▸ Bn))
        · rw [(old _ z).1]; exact d1
      · by_cases z : g.2.2.1 m = n
        · rw [z, new.1, ly]; exact m8 (Or.inr (z ▸ Bn))
        · rw [(old _ z).1]; exact d2
  · intro m hm nB u hu hl
    rw [gs_fn]
    by_cases q : m = n
    · subst q
      rw [new.1, ly] at hl
      exact nu u hu hl
    · rw [(old m q).1] at hl
      exact hg.2.2.2.2.2.1 m ((gkk m).mp hm) (fun z => nB ⟨z, q⟩) u hu hl
  · intro m ⟨Bm, q⟩
    obtain ⟨m1, m2, m3, m4, m5, m6⟩ := hg.2.2.2.2.2.2.1 m Bm
    have tr : ∀ w, hb_ lev g y k B w → hb_ lev (gh_set g n y a b) y k (fun m => B m ∧ m ≠ n) w := by
      intro w hw
      have wn : w ≠ n := fun z => hw.1 (z ▸ Bn)
      refine ⟨fun z => hw.1 z.1, ?_⟩
      rcases hw.2 with ⟨p1, p2, p3⟩ | ⟨p1, p2⟩
      · have w1 : g.2.1 w ≠ n := fun z => by rw [z, nx, lx] at p2; omega
        have w2 : g.2.2.1 w ≠ n := fun z => by rw [z, nx, lx] at p3; omega
        exact Or.inl ⟨by rw [(old w wn).1]; exact p1, by rw [(old w wn).2.1, (old _ w1).1]; exact p2, by rw [(old w wn).2.2, (old _ w2).1]; exact p3⟩
      · exact Or.inr ⟨by rw [(old w wn).1]; exact p1, by rw [(old w wn).1]; exact p2⟩
    rw [(old m q).1, (old m q).2.1, (old m q).2.2, gs_fn]
    exact ⟨m1, m2, m3, m4, tr _ m5, tr _ m6⟩
  · intro m hm hl hB
    rw [l8 m] at hl
    by_cases q : m = n
    · subst q
      rw [new.2.1, new.2.2] at hB
      rcases hB with z | z
      · exact absurd z.1 na
      · exact absurd z.1 nb
    · rw [(old m q).1]
      rw [(old m q).2.1, (old m q).2.2] at hB
      exact hg.2.2.2.2.2.2.2 m hm hl (hB.elim (fun z => Or.inl z.1) (fun z => Or.inr z.1))
  · refine ⟨C, fun j hj => ?_, fun m hm hl hp => ?_⟩
    · obtain ⟨c1, c2, c3⟩ := hC1 j hj
      rw [row 7 j (by decide) (by decide) (by decide)]
      exact ⟨ch_keep _ _ (fun m _ => row 6 m (by decide) (by decide) (by decide)) c1, c2, fun m hm => (l8 m).mpr (c3 m hm)⟩
    · have q : m ≠ n := fun z => by rw [z, new.1] at hp; exact xy hp.symm
      rw [(old m q).1] at hl hp
      rw [(old m q).1, (old m q).2.1, (old m q).2.2]
      exact hC2 m hm hl hp
  · exact ⟨c, e, by rw [row 9 2 (by decide) (by decide) (by decide)]; exact hc, by rw [row 9 1 (by decide) (by decide) (by decide)]; exact he, hc2, hc3, he2, he3, fun m h1 h2 z => hbelow m h1 h2 ((lab9 m).mp z), fun m h1 h2 => (lab9 m).mpr (hend m h1 h2)⟩
  · intro m hm
    exact hcv m ((gkk m).mp hm)
  · intro m hm b'
    exact hcB m hm.1 b'
theorem li_mid (h : ms_ s lev at_ g x y k B L) {n : Nat} (Bn : B n) : ∃ (s' : wt_S) (g' : gh_), fd_lift s (nI n) (nI x) (nI y) = some s' ∧ ms_ s' lev at_ g' x y k (fun m => B m ∧ m ≠ n) L ∧ kw_ s s' g g' := by
  obtain ⟨hh, hr, hg, -, -, -, hcB, -⟩ := id h
  obtain ⟨ho, x8, y8, xy, ly, lx⟩ := id hh
  obtain ⟨n48, nx, ny, nu, hb0, hb1⟩ := hg.2.2.2.2.2.2.1 n Bn
  obtain ⟨q1, q2, q3, q4, q5, e, i0, i1⟩ := hg.2.2.1 n n48 (by omega)
  rw [nx] at e i0 i1
  have kn : gk_ g n := ⟨n48, by omega⟩
  have k0 : gk_ g (g.2.1 n) := ⟨q1, q3⟩
  have k1 : gk_ g (g.2.2.1 n) := ⟨q2, q4⟩
  obtain ⟨⟨a1, a2, a3, a4⟩, ⟨a5, a6, a7, a8⟩⟩ := wy_ok hh hg k0 hb0
  obtain ⟨⟨b1, b2, b3, b4⟩, ⟨b5, b6, b7, b8⟩⟩ := wy_ok hh hg k1 hb1
  have ew : ∀ b, mb_mx x (mb_cf (g.2.2.2 (g.2.1 n)) y b) (mb_cf (g.2.2.2 (g.2.2.1 n)) y b) = mb_cf (g.2.2.2 n) y b := by
    intro b
    rw [e]
    funext p
    dsimp only [mb_mx, mb_cf]
    rw [mb_up_ne xy]
  unfold fd_lift
  rw [rc_at n48 (by decide), (hr.2.2.2 n n48 (by omega)).1, of_mid hg hr k0 y8, bI_some, rc_at n48 (by decide), (hr.2.2.2 n n48 (by omega)).2, of_mid hg hr k1 y8, bI_some]
  obtain ⟨r0, s0, g0, e0, h0, x0, g0k, nB0, w0, l0⟩ := nd_mid h a1 b1 a2 b2 a3 b3 (by rw [a4, b4, ew]; exact hcB n Bn false)
  rw [e0, bIS_some]
  obtain ⟨-, hr0, hg0, -, -, -, hcB0, -⟩ := id h0
  have xn := x0.1 n kn
  have xc0 := x0.1 _ k0
  have xc1 := x0.1 _ k1
  have k0' := ex_gk x0 k0
  have k1' := ex_gk x0 k1
  rw [rc_at n48 (by decide), (hr0.2.2.2 n n48 (by rw [xn.1]; omega)).1, xn.2.1, on_mid hg0 hr0 k0' y8, bI_some, rc_at n48 (by decide), (hr0.2.2.2 n n48 (by rw [xn.1]; omega)).2, xn.2.2.1, on_mid hg0 hr0 k1' y8, bI_some]
  rw [xc0.1, xc0.2.2.1, xc1.1, xc1.2.2.1]
  have y5 := x0.1 _ a5
  have y6 := x0.1 _ b5
  obtain ⟨r1, s1, g1, e1, h1, x1, g1k, nB1, w1, l1⟩ := nd_mid h0 (ex_gk x0 a5) (ex_gk x0 b5) a6 b6 (by rw [y5.1]; exact a7) (by rw [y6.1]; exact b7) (by rw [y5.2.2.2, y6.2.2.2, a8, b8, ew]; exact hcB n Bn true)
  rw [e1, bIS_some, wc_S n48 (by decide), wc_S n48 (by decide), wc_S n48 (by decide)]
  have zr0 := x1.1 r0 g0k
  have x01 := ex_tr x0 x1
  have zn := x01.1 n kn
  obtain ⟨S1, S2⟩ := st_mid h1 Bn (ex_gk x1 g0k) g1k nB0 nB1 (by rw [zr0.1]; exact l0) l1 (by rw [zr0.2.2.2, w0, a4, b4, ew, zn.2.2.2]) (by rw [w1, y5.2.2.2, y6.2.2.2, a8, b8, ew, zn.2.2.2])
  exact ⟨_, _, rfl, S1, kw_tr (kw_ex x01) S2⟩
theorem ms_B {B' : Nat → Prop} (h : ms_ s lev at_ g x y k B L) (e : ∀ m, B m ↔ B' m) : ms_ s lev at_ g x y k B' L := by
  have : B = B' := funext fun m => propext (e m)
  rw [← this]
  exact h
theorem xl_loop (B0 : Nat → Prop) (K : wt_S → Option wt_S) : ∀ (d n i : Nat) (s : wt_S) (g : gh_), i + d = 2048 → 2 ≤ i → d < n → ms_ s lev at_ g x y k (fun m => B0 m ∧ i ≤ m) L → ∃ (s' : wt_S) (g' : gh_), fd_exchange_L33 (nI x) (nI y) K n (nI i) s = K s' ∧ ms_ s' lev at_ g' x y k (fun _ => False) L ∧ kw_ s s' g g' := by
  have done : ∀ (n i : Nat) (s : wt_S) (g : gh_) (e : Nat), s 9 1 = nI e → e ≤ 2048 → (∀ m, e ≤ m → m < 2048 → g.1 m = 9) → e ≤ i → i < 2 ^ 31 → ms_ s lev at_ g x y k (fun m => B0 m ∧ i ≤ m) L → ∃ (s' : wt_S) (g' : gh_), fd_exchange_L33 (nI x) (nI y) K (n + 1) (nI i) s = K s' ∧ ms_ s' lev at_ g' x y k (fun _ => False) L ∧ kw_ s s' g g' := by
    intro n i s g e he he3 hend hi hi31 h
    rw [fd_exchange_L33, he, if_pos (nI_le hi hi31)]
    refine ⟨s, g, rfl, ms_B h (fun m => ⟨fun z => ?_, fun z => z.elim⟩), kw_rf s g⟩
    obtain ⟨m1, m2, -⟩ := h.2.2.1.2.2.2.2.2.2.1 m z
    have := hend m (by have := z.2; omega) m1
    have := h.1.2.1
    omega
  intro d
  induction d with
  | zero =>
    intro n i s g h1 h2 hn h
    obtain ⟨-, -, -, -, ⟨c, e, hc, he, hc2, hc3, he2, he3, hbelow, hend⟩, -⟩ := id h
    cases n with
    | zero => omega
    | succ n => exact done n i s g e he he3 hend (by omega) (by omega) h
  | succ d ih =>
    intro n i s g h1 h2 hn h
    obtain ⟨hh, hr, hg, -, ⟨c, e, hc, he, hc2, hc3, he2, he3, hbelow, hend⟩, -⟩ := id h
    obtain ⟨ho, x8, y8, xy, ly, lx⟩ := id hh
    cases n with
    | zero => omega
    | succ n =>
      by_cases hie : e ≤ i
      · exact done n i s g e he he3 hend hie (by omega) h
      · have i48 : i < 2048 := by omega
        have go : ∀ (s' : wt_S) (g' : gh_), ms_ s' lev at_ g' x y k (fun m => B0 m ∧ i + 1 ≤ m) L → kw_ s s' g g' → ∃ (s2 : wt_S) (g2 : gh_), fd_exchange_L33 (nI x) (nI y) K n (nI i + 1) s' = K s2 ∧ ms_ s2 lev at_ g2 x y k (fun _ => False) L ∧ kw_ s s2 g g2 := by
          intro s' g' hs hk
          rw [nI_1]
          obtain ⟨s2, g2, a1, a2, a3⟩ := ih n (i + 1) s' g' (by omega) (by omega) (by omega) hs
          exact ⟨s2, g2, a1, a2, kw_tr hk a3⟩
        have skip : ¬ B0 i → ms_ s lev at_ g x y k (fun m => B0 m ∧ i + 1 ≤ m) L := fun nb => ms_B h fun m => ⟨fun z => ⟨z.1, by
          have : m ≠ i := fun q => nb (q ▸ z.1)
          have := z.2
          omega⟩, fun z => ⟨z.1, by have := z.2; omega⟩⟩
        rw [fd_exchange_L33, he, if_neg (nI_ge (by omega) (by omega)), rc_at i48 (by decide)]
        simp only [jn_]
        have lab9 : g.1 i ≤ 9 := by
          rcases hg.2.1 i i48 h2 with q | q <;> omega
        by_cases hx : g.1 i = x
        · have e3 : s 3 i = nI x := by rw [hr.2.2.1 i i48, hx, cL_lt (by omega)]
          obtain ⟨q1, q2, q3, q4, q5, -⟩ := hg.2.2.1 i i48 (by omega)
          have k0 : gk_ g (g.2.1 i) := ⟨q1, q3⟩
          have k1 : gk_ g (g.2.2.1 i) := ⟨q2, q4⟩
          have l0 := ms_lab8 hg k0
          have l1 := ms_lab8 hg k1
          rw [if_pos e3, rc_at i48 (by decide), (hr.2.2.2 i i48 (by omega)).1, rc_at q1 (by decide), rp_labm hg hr k0, rc_at i48 (by decide), (hr.2.2.2 i i48 (by omega)).2, rc_at q2 (by decide), rp_labm hg hr k1]
          by_cases hy : g.1 (g.2.1 i) = y ∨ g.1 (g.2.2.1 i) = y
          · have bi : B0 i ∧ i ≤ i := by
              apply Classical.byContradiction
              intro nb
              obtain ⟨d1, d2⟩ := hg.2.2.2.2.1 i i48 (by omega) nb
              rcases hy with z | z
              · rw [z, hx] at d1; omega
              · rw [z, hx] at d2; omega
            obtain ⟨s', g', f1, f2, f3⟩ := li_mid h bi
            have pick : ∀ (X Y : Option wt_S), (if nI (g.1 (g.2.1 i)) = nI y then X else if nI (g.1 (g.2.2.1 i)) = nI y then X else Y) = X := by
              intro X Y
              rcases hy with z | z
              · rw [if_pos (congrArg nI z)]
              · rw [if_pos (congrArg nI z)]; split <;> rfl
            rw [pick, f1, bS_some]
            exact go s' g' (ms_B f2 fun m => ⟨fun z => ⟨z.1.1, by have := z.1.2; have := z.2; omega⟩, fun z => ⟨⟨z.1, by have := z.2; omega⟩, by have := z.2; omega⟩⟩) f3
          · have n0 : ¬ g.1 (g.2.1 i) = y := fun z => hy (Or.inl z)
            have n1 : ¬ g.1 (g.2.2.1 i) = y := fun z => hy (Or.inr z)
            have nb : ¬ B0 i := by
              intro bi
              obtain ⟨m1, m2, m3, m4, m5, m6⟩ := hg.2.2.2.2.2.2.1 i ⟨bi, Nat.le_refl _⟩
              apply m3
              obtain ⟨-, -, -, -, -, ef, -⟩ := hg.2.2.1 i i48 (by omega)
              have c0 : k + 1 < lev (g.1 (g.2.1 i)) := m5.2.elim (fun z => absurd z.1 n0) (fun z => z.2)
              have c1 : k + 1 < lev (g.1 (g.2.2.1 i)) := m6.2.elim (fun z => absurd z.1 n1) (fun z => z.2)
              rw [ef, hx]
              exact mb_in_mx (Ne.symm xy) (hg.2.2.2.2.2.1 _ k0 m5.1 y y8 (by omega)) (hg.2.2.2.2.2.1 _ k1 m6.1 y y8 (by omega))
            rw [if_neg (fun z => n0 (nI_inj (by omega) (by omega) z)), if_neg (fun z => n1 (nI_inj (by omega) (by omega) z))]
            exact go s g (skip nb) (kw_rf s g)
        · have nb : ¬ B0 i := fun bi => hx (hg.2.2.2.2.2.2.1 i ⟨bi, Nat.le_refl _⟩).2.1
          rw [if_neg (fun z => hx (cL_v lab9 (by omega) ((hr.2.2.1 i i48).symm.trans z)))]
          exact go s g (skip nb) (kw_rf s g)
