/-! How many nodes: the class's heap and nodes. My own. -/
/-- the cut of f by the first k levels of the order o, as a says -/
def ck_ (o : Nat → Nat) (a : mb_V) (f : mb_F) : Nat → mb_F
  | 0 => f
  | k + 1 => mb_cf (ck_ o a f k) (o k) (a k)
def nk_ (h : mb_F) : Prop := h ≠ (fun _ => false) ∧ h ≠ (fun _ => true)
def ns_ (o : Nat → Nat) (f h : mb_F) : Prop := nk_ h ∧ ∃ (k : Nat) (a : mb_V), k ≤ 8 ∧ h = ck_ o a f k
/-- a list of just these, each once -/
def lo_ (P : mb_F → Prop) (l : List mb_F) : Prop := l.Nodup ∧ ∀ h, h ∈ l ↔ P h
theorem nd_fil {α : Type} (p : α → Bool) {l : List α} (h : l.Nodup) : (l.filter p).Nodup := List.Pairwise.filter p h
theorem lo_len {P : mb_F → Prop} {l m : List mb_F} (hl : lo_ P l) (hm : lo_ P m) : l.length = m.length :=
  Nat.le_antisymm (ph_len l m hl.1 fun x hx => (hm.2 x).mpr ((hl.2 x).mp hx)) (ph_len m l hm.1 fun x hx => (hl.2 x).mpr ((hm.2 x).mp hx))
theorem ck_cong {o o' : Nat → Nat} {a b : mb_V} {f : mb_F} : ∀ k, (∀ j, j < k → o j = o' j ∧ a j = b j) → ck_ o a f k = ck_ o' b f k := by
  intro k
  induction k with
  | zero => intro _; rfl
  | succ k ih =>
    intro h
    show mb_cf (ck_ o a f k) (o k) (a k) = mb_cf (ck_ o' b f k) (o' k) (b k)
    rw [ih (fun j hj => h j (by omega)), (h k (by omega)).1, (h k (by omega)).2]
theorem ns_cong {o o' : Nat → Nat} (h : ∀ j, j < 8 → o j = o' j) (f x : mb_F) : ns_ o f x ↔ ns_ o' f x := by
  refine ⟨fun q => ⟨q.1, ?_⟩, fun q => ⟨q.1, ?_⟩⟩
  · obtain ⟨k, a, hk, e⟩ := q.2
    exact ⟨k, a, hk, by rw [e]; exact ck_cong k fun j hj => ⟨h j (by omega), rfl⟩⟩
  · obtain ⟨k, a, hk, e⟩ := q.2
    exact ⟨k, a, hk, by rw [e]; exact ck_cong k fun j hj => ⟨(h j (by omega)).symm, rfl⟩⟩
variable {s : wt_S} {lev at_ : Nat → Nat} {g : gh_} {rt : Nat → Nat} {F : Nat → mb_F}
/-- a function that doesn't ask the levels between is its own cut there -/
theorem ck_skip (ho : or_ lev at_) (hg : gi_ lev g) {f : mb_F} {a : mb_V} {n : Nat} (hn : gk_ g n) : ∀ (m k : Nat), k + m ≤ lev (g.1 n) → g.2.2.2 n = ck_ at_ a f k → g.2.2.2 n = ck_ at_ a f (k + m) := by
  intro m
  induction m with
  | zero => intro k _ h; exact h
  | succ m ih =>
    intro k hk h
    have l8 := or_le ho (gi_lab8 hg hn)
    have e := ih k (by omega) h
    show g.2.2.2 n = mb_cf (ck_ at_ a f (k + m)) (at_ (k + m)) (a (k + m))
    rw [← e, mb_cf_in (gi_abv ho hg hn (by rw [(ho.2.1 (k + m) (by omega)).2]; omega))]
theorem nk_node (ho : or_ lev at_) (hg : gi_ lev g) {n : Nat} (hn : n < 2048) (hl : g.1 n < 8) : nk_ (g.2.2.2 n) := by
  have q := gi_asks ho hg hn hl
  exact ⟨fun c => q (by rw [c]; exact fun _ _ => rfl), fun c => q (by rw [c]; exact fun _ _ => rfl)⟩
theorem nk_lab (hg : gi_ lev g) {n : Nat} (hn : gk_ g n) (h : nk_ (g.2.2.2 n)) : g.1 n < 8 := by
  rcases gi_lab hg hn with q | ⟨q, -⟩
  · exact q
  · rcases (show n = 0 ∨ n = 1 by omega) with rfl | rfl
    · exact absurd hg.1.2.2.1 h.1
    · exact absurd hg.1.2.2.2 h.2
theorem ur_ns (ho : or_ lev at_) (hg : gi_ lev g) {r : Nat} (hr : gk_ g r) {n : Nat} (h : ur_ g r n) : gk_ g n ∧ ∃ a, g.2.2.2 n = ck_ at_ a (g.2.2.2 r) (lev (g.1 n)) := by
  refine h (fun n => gk_ g n ∧ ∃ a, g.2.2.2 n = ck_ at_ a (g.2.2.2 r) (lev (g.1 n))) ⟨hr, fun _ => false, ?_⟩ (fun i hi hl => ?_)
  · have := ck_skip (f := g.2.2.2 r) (a := fun _ => false) ho hg hr (lev (g.1 r)) 0 (by omega) rfl
    rwa [Nat.zero_add] at this
  · obtain ⟨hk, a, ha⟩ := hi
    obtain ⟨c0, c1⟩ := gi_lo hg hk.1 hl
    obtain ⟨-, -, -, -, l1, l2, -, e⟩ := hg.2.2.1 i hk.1 hl
    have key : ∀ (c : Nat) (b : Bool), gk_ g c → lev (g.1 i) < lev (g.1 c) → g.2.2.2 c = mb_cf (g.2.2.2 i) (g.1 i) b → ∃ a', g.2.2.2 c = ck_ at_ a' (g.2.2.2 r) (lev (g.1 c)) := by
      intro c b hc hlc hf
      refine ⟨mb_up a (lev (g.1 i)) b, ?_⟩
      have e0 : g.2.2.2 c = ck_ at_ (mb_up a (lev (g.1 i)) b) (g.2.2.2 r) (lev (g.1 i) + 1) := by
        show _ = mb_cf (ck_ at_ (mb_up a (lev (g.1 i)) b) (g.2.2.2 r) (lev (g.1 i))) (at_ (lev (g.1 i))) (mb_up a (lev (g.1 i)) b (lev (g.1 i)))
        rw [ck_cong (o' := at_) (b := a) (lev (g.1 i)) (fun j hj => ⟨rfl, mb_up_ne (by omega)⟩), ← ha, (ho.1 _ hl).2, mb_up_eq]
        exact hf
      have := ck_skip ho hg hc (lev (g.1 c) - (lev (g.1 i) + 1)) (lev (g.1 i) + 1) (by omega) e0
      rwa [show lev (g.1 i) + 1 + (lev (g.1 c) - (lev (g.1 i) + 1)) = lev (g.1 c) by omega] at this
    exact ⟨⟨c0, key _ false c0 l1 (by rw [e, mb_cf_mx0 (gi_abv ho hg c0 l1)])⟩, ⟨c1, key _ true c1 l2 (by rw [e, mb_cf_mx1 (gi_abv ho hg c1 l2)])⟩⟩
theorem ur_tr {g : gh_} {a b c : Nat} (h : ur_ g a b) (k : ur_ g b c) : ur_ g a c := fun S h1 h2 => k S (h S h1 h2) h2
theorem ns_ur (ho : or_ lev at_) (hg : gi_ lev g) {r : Nat} (hr : gk_ g r) (a : mb_V) : ∀ k, k ≤ 8 → ∃ n, ur_ g r n ∧ gk_ g n ∧ g.2.2.2 n = ck_ at_ a (g.2.2.2 r) k ∧ k ≤ lev (g.1 n) := by
  intro k
  induction k with
  | zero => intro _; exact ⟨r, ur_rf g r, hr, rfl, Nat.zero_le _⟩
  | succ k ih =>
    intro hk
    obtain ⟨n, u, hn, e, l⟩ := ih (by omega)
    rcases Nat.lt_or_eq_of_le l with c | c
    · refine ⟨n, u, hn, ?_, c⟩
      show _ = mb_cf (ck_ at_ a (g.2.2.2 r) k) (at_ k) (a k)
      rw [← e, mb_cf_in (gi_abv ho hg hn (by rw [(ho.2.1 k (by omega)).2]; exact c))]
    · have hl : g.1 n < 8 := by
        rcases gi_lab hg hn with q | ⟨-, q⟩
        · exact q
        · rw [q, ho.2.2] at c; omega
      obtain ⟨c0, c1⟩ := gi_lo hg hn.1 hl
      obtain ⟨-, -, -, -, l1, l2, -, ef⟩ := hg.2.2.1 n hn.1 hl
      have lab : at_ k = g.1 n := by rw [c]; exact (ho.1 _ hl).2
      cases hb : a k
      · refine ⟨g.2.1 n, ur_tr u (ur_lo hl (ur_rf g _)), c0, ?_, by omega⟩
        show _ = mb_cf (ck_ at_ a (g.2.2.2 r) k) (at_ k) (a k)
        rw [← e, lab, hb, ef, mb_cf_mx0 (gi_abv ho hg c0 l1)]
      · refine ⟨g.2.2.1 n, ur_tr u (ur_hi hl (ur_rf g _)), c1, ?_, by omega⟩
        show _ = mb_cf (ck_ at_ a (g.2.2.2 r) k) (at_ k) (a k)
        rw [← e, lab, hb, ef, mb_cf_mx1 (gi_abv ho hg c1 l2)]
theorem nodes_ns (ho : or_ lev at_) (hg : gi_ lev g) {r : Nat} (hr : gk_ g r) (h : mb_F) : (∃ n, ur_ g r n ∧ n < 2048 ∧ g.1 n < 8 ∧ g.2.2.2 n = h) ↔ ns_ at_ (g.2.2.2 r) h := by
  constructor
  · rintro ⟨n, u, hn, hl, e⟩
    obtain ⟨hk, a, ha⟩ := ur_ns ho hg hr u
    exact ⟨by rw [← e]; exact nk_node ho hg hn hl, lev (g.1 n), a, Nat.le_of_lt (ho.1 _ hl).1, by rw [← e]; exact ha⟩
  · rintro ⟨hn, k, a, hk, e⟩
    obtain ⟨n, u, kn, en, -⟩ := ns_ur ho hg hr a k hk
    exact ⟨n, u, kn.1, nk_lab hg kn (by rw [en, ← e]; exact hn), by rw [en, e]⟩
/-- the heap's functions -/
theorem hp_ok (h : rd0_ s lev at_ g rt F) : ∃ l, lo_ (fun h => ∃ i, i < 16 ∧ ns_ at_ (F i) h) l ∧ s 9 0 = nI l.length := by
  obtain ⟨⟨ho, hr, hg, -, -, hrt, hre, hlive, -⟩, hz, hF⟩ := id h
  refine ⟨((List.range 2048).filter fun j => decide (g.1 j < 8)).map g.2.2.2, ⟨nd_map _ _ (nd_fil _ List.nodup_range) (fun x y hx hy e => ?_), fun f => ?_⟩, by rw [List.length_map]; exact hlive⟩
  · have x1 := List.mem_filter.mp hx
    have y1 := List.mem_filter.mp hy
    exact hg.2.2.2 x y ⟨List.mem_range.mp x1.1, by have := of_decide_eq_true x1.2; omega⟩ ⟨List.mem_range.mp y1.1, by have := of_decide_eq_true y1.2; omega⟩ e
  · rw [List.mem_map]
    constructor
    · rintro ⟨n, hn, e⟩
      obtain ⟨n1, n2⟩ := List.mem_filter.mp hn
      have hl := of_decide_eq_true n2
      have n48 := List.mem_range.mp n1
      obtain ⟨i, hi, hu⟩ := hre n ⟨n48, by omega⟩ (gi_two hg hl)
      have i16 : i < 16 := by
        rcases Nat.lt_or_ge i 16 with c | c
        · exact c
        · rw [hz i c hi] at hu
          have := ur_0 hg hu
          have := gi_two hg hl
          omega
      refine ⟨i, i16, ?_⟩
      rw [← hF i i16]
      exact (nodes_ns ho hg (hrt i hi).2 f).mp ⟨n, hu, n48, hl, e⟩
    · rintro ⟨i, hi, q⟩
      rw [← hF i hi] at q
      obtain ⟨n, -, n48, hl, e⟩ := (nodes_ns ho hg (hrt i (by omega)).2 f).mpr q
      exact ⟨n, List.mem_filter.mpr ⟨List.mem_range.mpr n48, decide_eq_true hl⟩, e⟩
theorem hp_x (h : rd0_ s lev at_ g rt F) {l : List mb_F} (hl : lo_ (fun h => ∃ i, i < 16 ∧ ns_ at_ (F i) h) l) : fd_live s = some (nI l.length) := by
  obtain ⟨m, hm, e⟩ := hp_ok h
  unfold fd_live
  rw [e, lo_len hm hl]
/-- marks again: all that is under a marked node -/
theorem mk_ur (hg : gi_ lev g) {s : wt_S} (hmk : mk_ lev g 0 s) {a n : Nat} (ha : gk_ g a) (h : ur_ g a n) (hs : 2 ≤ a → s 8 a ≠ 0) : gk_ g n ∧ (2 ≤ n → s 8 n ≠ 0) := by
  refine h (fun n => gk_ g n ∧ (2 ≤ n → s 8 n ≠ 0)) ⟨ha, hs⟩ (fun i hi hl => ?_)
  obtain ⟨c0, c1⟩ := gi_lo hg hi.1.1 hl
  obtain ⟨p0, p1⟩ := hmk i hi.1 (hi.2 (gi_two hg hl)) hl (Nat.zero_le _)
  exact ⟨⟨c0, p0⟩, ⟨c1, p1⟩⟩
theorem no_x (h : rd0_ s lev at_ g rt F) {a : Nat} (ha : a < 16) {l : List mb_F} (hl : lo_ (ns_ at_ (F a)) l) : ∃ t, fx_nodes s (nI a) = some (nI l.length, t) ∧ rd0_ t lev at_ g rt F := by
  obtain ⟨⟨ho, hr, hg, hcs, ⟨c, e, hc, he, hc2, hc3, he2, he3, hbelow, hend⟩, hrt, hre, hlive, hmark⟩, hz, hF⟩ := id h
  obtain ⟨ka, fa⟩ := rd_gk h ha
  obtain ⟨s1, q1, m1, z1, z2⟩ := cm_ok he he3
  have zero : ∀ j, s1 8 j = 0 := fun j => by
    rcases Nat.lt_or_ge j e with c | c
    · exact z1 j c
    · rw [z2 j c]
      apply Classical.byContradiction
      intro q
      have k := hmark j q
      exact k.2 (hend j c k.1)
  have mc1 : mc_ s1 = 0 := by
    unfold mc_
    rw [List.filter_eq_nil_iff.mpr (fun j _ => by rw [zero j]; decide)]
    rfl
  obtain ⟨c0, s0, e0, m0, y0, o0, t0, mk0, w0⟩ := ma_ok ho hg 9 0 0 (rt a) s1 (m8_rp m1 hr) ka (Nat.le_refl _) (Nat.zero_le _) (by omega) (fun j _ q _ _ => absurd (zero j) q) (by omega)
  rw [nI_0] at e0
  have mall := m8_tr m1 m0
  have cnt : c0 = l.length := by
    have hlen : mc_ s0 = c0 := by omega
    rw [← hlen]
    have : lo_ (ns_ at_ (F a)) (((List.range 2048).filter fun j => decide (s0 8 j ≠ 0)).map g.2.2.2) := by
      refine ⟨nd_map _ _ (nd_fil _ List.nodup_range) (fun x y hx hy ee => ?_), fun f => ?_⟩
      · have x1 := (w0 x (of_decide_eq_true (List.mem_filter.mp hx).2) (zero x)).2.1
        have y1 := (w0 y (of_decide_eq_true (List.mem_filter.mp hy).2) (zero y)).2.1
        exact hg.2.2.2 x y x1 y1 ee
      · rw [List.mem_map, ← fa, ← nodes_ns ho hg ka f]
        constructor
        · rintro ⟨n, hn, ee⟩
          obtain ⟨u1, u2, u3, -⟩ := w0 n (of_decide_eq_true (List.mem_filter.mp hn).2) (zero n)
          exact ⟨n, u1, u2.1, u3, ee⟩
        · rintro ⟨n, u, n48, nl, ee⟩
          exact ⟨n, List.mem_filter.mpr ⟨List.mem_range.mpr n48, decide_eq_true ((mk_ur hg mk0 ka u t0).2 (gi_two hg nl))⟩, ee⟩
    have q := lo_len this hl
    rw [List.length_map] at q
    exact q
  refine ⟨s0, ?_, ⟨⟨ho, m8_rp mall hr, hg, ?_, ⟨c, e, by rw [mall 9 2 (by decide)]; exact hc, by rw [mall 9 1 (by decide)]; exact he, hc2, hc3, he2, he3, hbelow, hend⟩, fun i hi => ⟨by rw [mall 0 i (by decide)]; exact (hrt i hi).1, (hrt i hi).2⟩, hre, by rw [mall 9 0 (by decide)]; exact hlive, fun j hj => (w0 j hj (zero j)).2.1⟩, hz, hF⟩⟩
  · unfold fx_nodes fd_size
    rw [nr_ok ha, bU_some, ro_ok h.1 (by omega), bI_some, q1, bS_some, e0, bIS_some, bIS_some, cnt]
  · obtain ⟨C, hC1, hC2⟩ := hcs
    refine ⟨C, fun b hb => ?_, hC2⟩
    obtain ⟨d1, d2, d3⟩ := hC1 b hb
    rw [mall 7 b (by decide)]
    exact ⟨ch_keep _ _ (fun n _ => mall 6 n (by decide)) d1, d2, d3⟩
