/-! overlap and mirror. My own. -/
noncomputable def qx_ (m : Nat → Bool) (f : mb_F) : mb_F := fun x => @decide (∃ y : mb_V, (∀ v, m v = false → y v = x v) ∧ f y = true) (Classical.propDecidable _)
theorem qx_iff (m : Nat → Bool) (f : mb_F) (x : mb_V) : qx_ m f x = true ↔ ∃ y : mb_V, (∀ v, m v = false → y v = x v) ∧ f y = true := by
  unfold qx_
  exact @decide_eq_true_iff _ (Classical.propDecidable _)
theorem fn_ext {f g : mb_F} (h : ∀ x, f x = true ↔ g x = true) : f = g := by
  funext x
  exact Bool.eq_iff_iff.mpr (h x)
def an_ (f g : mb_F) : mb_F := fun x => f x && g x
theorem an_cf (f g : mb_F) (v : Nat) (b : Bool) : mb_cf (an_ f g) v b = an_ (mb_cf f v b) (mb_cf g v b) := rfl
theorem an_in {f g : mb_F} {v : Nat} (hf : mb_in f v) (hg : mb_in g v) : mb_in (an_ f g) v := fun a b => by
  unfold an_
  rw [hf, hg]
theorem qx_cf {m : Nat → Bool} {v : Nat} (hm : m v = false) (f : mb_F) (b : Bool) : mb_cf (qx_ m f) v b = qx_ m (mb_cf f v b) := by
  refine fn_ext fun x => ?_
  show qx_ m f (mb_up x v b) = true ↔ _
  rw [qx_iff, qx_iff]
  constructor
  · rintro ⟨y, h1, h2⟩
    have hv : y v = b := by rw [h1 v hm, mb_up_eq]
    refine ⟨mb_up y v (x v), fun w hw => ?_, ?_⟩
    · by_cases c : w = v
      · subst c; rw [mb_up_eq]
      · rw [mb_up_ne c, h1 w hw, mb_up_ne c]
    · show f (mb_up (mb_up y v (x v)) v b) = true
      rw [mb_up_up, ← hv, mb_up_self]; exact h2
  · rintro ⟨y, h1, h2⟩
    refine ⟨mb_up y v b, fun w hw => ?_, h2⟩
    by_cases c : w = v
    · subst c; rw [mb_up_eq, mb_up_eq]
    · rw [mb_up_ne c, h1 w hw, mb_up_ne c]
theorem qx_in {m : Nat → Bool} {v : Nat} (hm : m v = true) (f : mb_F) : mb_in (qx_ m f) v := by
  intro x b
  refine Bool.eq_iff_iff.mpr ?_
  rw [qx_iff, qx_iff]
  have e : ∀ w, m w = false → mb_up x v b w = x w := fun w hw => mb_up_ne (fun c => by rw [c, hm] at hw; cases hw)
  constructor
  · rintro ⟨y, h1, h2⟩
    exact ⟨y, fun w hw => by rw [h1 w hw, e w hw], h2⟩
  · rintro ⟨y, h1, h2⟩
    exact ⟨y, fun w hw => by rw [h1 w hw, e w hw], h2⟩
theorem in_of_cf {f : mb_F} {v : Nat} (h : ∀ b, mb_cf f v b = f) : mb_in f v := fun a b => congrFun (h b) a
theorem qx_in2 {m : Nat → Bool} {v : Nat} {f : mb_F} (hf : mb_in f v) : mb_in (qx_ m f) v := by
  cases hm : m v
  · exact in_of_cf fun b => by rw [qx_cf hm, mb_cf_in hf]
  · exact qx_in hm f
theorem qx_or {m : Nat → Bool} {v : Nat} (hm : m v = true) (f : mb_F) : op_ 14 (qx_ m (mb_cf f v false)) (qx_ m (mb_cf f v true)) = qx_ m f := by
  have e : ∀ p q : Bool, (14 : Nat).testBit (2 * p.toNat + q.toNat) = (p || q) := by decide
  refine fn_ext fun x => ?_
  unfold op_
  rw [e, Bool.or_eq_true, qx_iff, qx_iff, qx_iff]
  constructor
  · rintro (⟨y, h1, h2⟩ | ⟨y, h1, h2⟩)
    · exact ⟨mb_up y v false, fun w hw => by rw [mb_up_ne (fun c => by rw [c, hm] at hw; cases hw)]; exact h1 w hw, h2⟩
    · exact ⟨mb_up y v true, fun w hw => by rw [mb_up_ne (fun c => by rw [c, hm] at hw; cases hw)]; exact h1 w hw, h2⟩
  · rintro ⟨y, h1, h2⟩
    cases hy : y v
    · exact Or.inl ⟨y, h1, by show f (mb_up y v false) = true; rw [← hy, mb_up_self]; exact h2⟩
    · have e2 : mb_up y v true = y := by rw [← hy, mb_up_self]
      exact Or.inr ⟨y, h1, by show f (mb_up y v true) = true; rw [e2]; exact h2⟩
theorem qx_bot (m : Nat → Bool) : qx_ m (fun _ => false) = fun _ => false := by
  refine fn_ext fun x => ?_
  rw [qx_iff]
  constructor
  · rintro ⟨_, _, h⟩; cases h
  · intro h; cases h
theorem qx_top (m : Nat → Bool) : qx_ m (fun _ => true) = fun _ => true := by
  refine fn_ext fun x => ?_
  rw [qx_iff]
  exact ⟨fun _ => rfl, fun _ => ⟨x, fun _ _ => rfl, rfl⟩⟩
def cq_ (at_ : Nat → Nat) (L : List mb_F) (m : Nat → Bool) : Nat → mb_F → Prop
  | 0, _ => True
  | j + 1, f => cl_ at_ L (j + 1) (qx_ m f) ∧ cq_ at_ L m j (mb_cf f (at_ (4 - j)) false) ∧ cq_ at_ L m j (mb_cf f (at_ (4 - j)) true)
theorem cq_skip {at_ : Nat → Nat} {L : List mb_F} {m : Nat → Bool} {f : mb_F} : ∀ (i k : Nat), cq_ at_ L m (5 - k) f → (∀ j, k ≤ j → j < k + i → mb_in f (at_ j)) → cq_ at_ L m (5 - (k + i)) f := by
  intro i
  induction i with
  | zero => intro k h _; exact h
  | succ i ih =>
    intro k h hi
    rcases Nat.lt_or_ge k 5 with q | q
    · rw [show 5 - k = (4 - k) + 1 by omega] at h
      obtain ⟨-, h0, -⟩ := h
      rw [show 4 - (4 - k) = k by omega, mb_cf_in (hi k (Nat.le_refl _) (by omega)), show 4 - k = 5 - (k + 1) by omega] at h0
      have := ih (k + 1) h0 (fun j h1 h2 => hi j (by omega) (by omega))
      rwa [show k + 1 + i = k + (i + 1) by omega] at this
    · rw [show 5 - (k + (i + 1)) = 0 by omega]
      trivial
theorem cq_to {lev at_ : Nat → Nat} {L : List mb_F} {m : Nat → Bool} {f : mb_F} {k v : Nat} (ho : or_ lev at_) (hv : v < 8) (hk : k ≤ lev v) (h : cq_ at_ L m (5 - k) f) (hin : ∀ w, w < 8 → lev w < lev v → mb_in f w) : cl_ at_ L (5 - lev v) (qx_ m f) ∧ ∀ b, cq_ at_ L m (5 - (lev v + 1)) (mb_cf f v b) := by
  have l8 := (ho.1 v hv).1
  have h1 := cq_skip (lev v - k) k h (fun i h1 h2 => hin (at_ i) (ho.2.1 i (by omega)).1 (by rw [(ho.2.1 i (by omega)).2]; omega))
  rw [show k + (lev v - k) = lev v by omega] at h1
  rcases Nat.lt_or_ge (lev v) 5 with q | q
  · rw [show 5 - lev v = (4 - lev v) + 1 by omega] at h1 ⊢
    obtain ⟨h2, h0, h3⟩ := h1
    rw [show 4 - (4 - lev v) = lev v by omega, (ho.1 v hv).2] at h0 h3
    rw [show 5 - (lev v + 1) = 4 - lev v by omega]
    exact ⟨h2, fun b => by cases b <;> assumption⟩
  · rw [show 5 - lev v = 0 by omega, show 5 - (lev v + 1) = 0 by omega]
    exact ⟨trivial, fun _ => trivial⟩
theorem ma_bit : ∀ k, k < 256 → ∀ v, v < 8 → (((nI k >>> (nI v &&& 31)) &&& 1) = 0 ↔ k.testBit v = false) := by decide +kernel
theorem ov_ok {lev at_ : Nat → Nat} {L : List mb_F} {mk : Nat} (hmk : mk < 256) : ∀ (n d k a b : Nat) (s : wt_S) (g : gh_), sg_ s lev at_ g L (fun _ => True) → gk_ g a → gk_ g b → d ≤ k → k ≤ lev (g.1 a) → k ≤ lev (g.1 b) → 9 ≤ n + d → cq_ at_ L mk.testBit (5 - k) (an_ (g.2.2.2 a) (g.2.2.2 b)) → rs_ lev at_ L s g (fd_overlap n s (nI a) (nI b) (nI mk) (nI d)) (qx_ mk.testBit (an_ (g.2.2.2 a) (g.2.2.2 b))) k := by
  intro n
  induction n with
  | zero =>
    intro d k a b s g h ha hb dk da db hn
    have := or_le h.1 (gi_lab8 h.2.2.1 ha)
    omega
  | succ n ih =>
    intro d k a b s g h ha hb dk da db hn hcl
    obtain ⟨ho, hr, hg, -⟩ := id h
    have a31 : a < 2 ^ 31 := Nat.lt_trans ha.1 (by decide)
    have b31 : b < 2 ^ 31 := Nat.lt_trans hb.1 (by decide)
    have l8a := gi_lab8 hg ha
    have l8b := gi_lab8 hg hb
    rw [fd_overlap]
    simp only [jn_]
    by_cases hz : a = 0 ∨ b = 0
    · have pick : ∀ (X Y : Option (Int32 × wt_S)), (if nI a = (0 : Int32) then X else if nI b = (0 : Int32) then X else Y) = X := by
        intro X Y
        rcases hz with q | q
        · subst q; rw [if_pos nI_0]
        · subst q; rw [if_pos nI_0]; split <;> rfl
      rw [pick]
      have e : an_ (g.2.2.2 a) (g.2.2.2 b) = fun _ => false := by
        funext x
        unfold an_
        rcases hz with q | q
        · subst q; rw [hg.1.2.2.1]; rfl
        · subst q; rw [hg.1.2.2.1, Bool.and_false]
      refine ⟨0, s, g, by rw [nI_0], h, ex_rf s g, (gi_leaf hg (by decide)).1, by rw [e, qx_bot, hg.1.2.2.1], ?_⟩
      rw [hg.1.1, ho.2.2]
      have := or_le ho l8a
      omega
    · rw [if_neg (nI_ne0 (by omega) a31), if_neg (nI_ne0 (by omega) b31)]
      by_cases ho1 : a = 1 ∧ b = 1
      · obtain ⟨rfl, rfl⟩ := ho1
        rw [if_pos (show nI 1 = (1 : Int32) from rfl), if_pos (show nI 1 = (1 : Int32) from rfl)]
        refine ⟨1, s, g, rfl, h, ex_rf s g, hb, ?_, db⟩
        have e : an_ (g.2.2.2 1) (g.2.2.2 1) = fun _ => true := by
          funext x
          unfold an_
          rw [hg.1.2.2.2]; rfl
        rw [e, qx_top, hg.1.2.2.2]
      · have pick : ∀ (X Y : Option (Int32 × wt_S)), (if nI a = (1 : Int32) then if nI b = (1 : Int32) then Y else X else X) = X := by
          intro X Y
          by_cases q : a = 1
          · have q2 : b ≠ 1 := fun c => ho1 ⟨q, c⟩
            rw [if_neg (show ¬ nI b = (1 : Int32) from fun c => q2 (nI_inj b31 (by decide) c))]
            split <;> rfl
          · rw [if_neg (show ¬ nI a = (1 : Int32) from fun c => q (nI_inj a31 (by decide) c))]
        rw [pick]
        obtain ⟨v1, v2, v3, v4⟩ := uv_ok ho l8a l8b
        generalize hv : (if lev (g.1 b) < lev (g.1 a) then g.1 b else g.1 a) = v at v1 v2 v3 v4
        have v8 : v < 8 := by
          rcases Nat.lt_or_ge 1 a with q | q
          · exact or_lt8 ho v1 (gi_big hg ha q) v2
          · exact or_lt8 ho v1 (gi_big hg hb (by omega)) v3
        have lv8 := (ho.1 v v8).1
        have vk : k ≤ lev v := by omega
        obtain ⟨hcl1, hcl2⟩ := cq_to ho v8 vk hcl (fun w _ hw => an_in (gi_abv ho hg ha (by omega)) (gi_abv ho hg hb (by omega)))
        rw [if_pos (show nI d < (8 : Int32) from nI_lt (b := 8) (by omega) (by decide)), rc_at ha.1 (by decide), rc_at hb.1 (by decide), rp_lab hg hr ha, rp_lab hg hr hb, up_ok ho hr l8a l8b, bI_some, hv, of_ok hg hr ha v8, bI_some, of_ok hg hr hb v8, bI_some]
        obtain ⟨a1, a2, a3⟩ := of_sem ho hg ha v8 v2
        obtain ⟨b1, b2, b3⟩ := of_sem ho hg hb v8 v3
        have f0 : an_ (g.2.2.2 (if g.1 a = v then g.2.1 a else a)) (g.2.2.2 (if g.1 b = v then g.2.1 b else b)) = mb_cf (an_ (g.2.2.2 a) (g.2.2.2 b)) v false := by rw [a3, b3]; rfl
        have f1 : an_ (mb_cf (g.2.2.2 a) v true) (mb_cf (g.2.2.2 b) v true) = mb_cf (an_ (g.2.2.2 a) (g.2.2.2 b)) v true := rfl
        obtain ⟨r0, s0, g0, e0, h0, x0, k0, w0, d0⟩ := ih (d + 1) (lev v + 1) _ _ s g h a1 b1 (by omega) a2 b2 (by omega) (by rw [f0]; exact hcl2 false)
        rw [nI_1, e0, bIS_some]
        obtain ⟨-, hr0, hg0, -⟩ := id h0
        have ha0 := ex_gk x0 ha
        have hb0 := ex_gk x0 hb
        obtain ⟨xa1, xa2, xa3, xa4⟩ := x0.1 a ha
        obtain ⟨xb1, xb2, xb3, xb4⟩ := x0.1 b hb
        rw [on_ok hg0 hr0 ha0 v8, bI_some, on_ok hg0 hr0 hb0 v8, bI_some]
        obtain ⟨p1, p2, p3⟩ := on_sem ho hg0 ha0 v8 (by rw [xa1]; exact v2)
        obtain ⟨q1, q2, q3⟩ := on_sem ho hg0 hb0 v8 (by rw [xb1]; exact v3)
        rw [xa4] at p3
        rw [xb4] at q3
        obtain ⟨r1, s1, g1, e1, h1, x1, k1, w1, d1⟩ := ih (d + 1) (lev v + 1) _ _ s0 g0 h0 p1 q1 (by omega) p2 q2 (by omega) (by rw [p3, q3, f1]; exact hcl2 true)
        rw [e1, bIS_some]
        obtain ⟨y1, y2, y3, y4⟩ := x1.1 r0 k0
        have k0' := ex_gk x1 k0
        rw [f0] at w0
        rw [p3, q3, f1] at w1
        cases hbit : mk.testBit v with
        | false =>
          rw [if_pos ((ma_bit mk hmk v v8).mpr hbit)]
          have ee : mb_mx v (g1.2.2.2 r0) (g1.2.2.2 r1) = qx_ mk.testBit (an_ (g.2.2.2 a) (g.2.2.2 b)) := by
            rw [y4, w0, w1, ← qx_cf hbit, ← qx_cf hbit, mb_mx_cf]
          obtain ⟨r2, s2, g2, e2, h2, x2, k2, w2, d2⟩ := nd_ok h1 trivial v8 k0' k1 (by rw [y1]; omega) (by omega) (by rw [ee]; exact (cl_down hcl1).1)
          rw [e2, bIS_some]
          exact ⟨r2, s2, g2, rfl, h2, ex_tr (ex_tr x0 x1) x2, k2, by rw [w2, ee], by omega⟩
        | true =>
          rw [if_neg (fun c => by rw [(ma_bit mk hmk v v8).mp c] at hbit; cases hbit)]
          have ee : op_ 14 (g1.2.2.2 r0) (g1.2.2.2 r1) = qx_ mk.testBit (an_ (g.2.2.2 a) (g.2.2.2 b)) := by
            rw [y4, w0, w1, qx_or hbit]
          have hc3 := (cl_down hcl1).2 false
          rw [(ho.1 v v8).2, mb_cf_in (qx_in hbit _)] at hc3
          obtain ⟨r2, s2, g2, e2, h2, x2, k2, w2, d2⟩ := jo_ok (op := 14) (by decide) 9 0 (lev v + 1) r0 r1 s1 g1 h1 k0' k1 (by omega) (by rw [y1]; exact d0) d1 (by omega) (by rw [ee]; exact hc3)
          rw [show (0 : Int32) = nI 0 from nI_0.symm, show (14 : Int32) = nI 14 from rfl, e2, bIS_some]
          exact ⟨r2, s2, g2, rfl, h2, ex_tr (ex_tr x0 x1) x2, k2, by rw [w2, ee], by omega⟩
def mi_ (f : mb_F) : mb_F := fun x => f (fun v => x (v ^^^ 1))
def li_ (v : Nat) : mb_F := mb_mx v (fun _ => false) (fun _ => true)
theorem li_at (v : Nat) (x : mb_V) : li_ v x = x v := by
  unfold li_ mb_mx
  cases x v <;> rfl
theorem mi_mx (v : Nat) (f g : mb_F) : mi_ (mb_mx v f g) = pi_ (li_ (v ^^^ 1)) (mi_ g) (mi_ f) := by
  funext x
  show mb_mx v f g (fun w => x (w ^^^ 1)) = (if li_ (v ^^^ 1) x = true then mi_ g x else mi_ f x)
  rw [li_at]
  rfl
def cm_ (at_ : Nat → Nat) (L : List mb_F) : Nat → mb_F → Prop
  | 0, _ => True
  | j + 1, f => cl_ at_ L 5 (mi_ f) ∧ cm_ at_ L j (mb_cf f (at_ (7 - j)) false) ∧ cm_ at_ L j (mb_cf f (at_ (7 - j)) true)
theorem cm_skip {at_ : Nat → Nat} {L : List mb_F} {f : mb_F} : ∀ (i k : Nat), cm_ at_ L (8 - k) f → (∀ j, k ≤ j → j < k + i → mb_in f (at_ j)) → cm_ at_ L (8 - (k + i)) f := by
  intro i
  induction i with
  | zero => intro k h _; exact h
  | succ i ih =>
    intro k h hi
    rcases Nat.lt_or_ge k 8 with q | q
    · rw [show 8 - k = (7 - k) + 1 by omega] at h
      obtain ⟨-, h0, -⟩ := h
      rw [show 7 - (7 - k) = k by omega, mb_cf_in (hi k (Nat.le_refl _) (by omega)), show 7 - k = 8 - (k + 1) by omega] at h0
      have := ih (k + 1) h0 (fun j h1 h2 => hi j (by omega) (by omega))
      rwa [show k + 1 + i = k + (i + 1) by omega] at this
    · rw [show 8 - (k + (i + 1)) = 0 by omega]
      trivial
theorem cm_to {lev at_ : Nat → Nat} {L : List mb_F} {f : mb_F} {k v : Nat} (ho : or_ lev at_) (hv : v < 8) (hk : k ≤ lev v) (h : cm_ at_ L (8 - k) f) (hin : ∀ w, w < 8 → lev w < lev v → mb_in f w) : cl_ at_ L 5 (mi_ f) ∧ ∀ b, cm_ at_ L (8 - (lev v + 1)) (mb_cf f v b) := by
  have l8 := (ho.1 v hv).1
  have h1 := cm_skip (lev v - k) k h (fun i h1 h2 => hin (at_ i) (ho.2.1 i (by omega)).1 (by rw [(ho.2.1 i (by omega)).2]; omega))
  rw [show k + (lev v - k) = lev v by omega, show 8 - lev v = (7 - lev v) + 1 by omega] at h1
  obtain ⟨h2, h0, h3⟩ := h1
  rw [show 7 - (7 - lev v) = lev v by omega, (ho.1 v hv).2] at h0 h3
  rw [show 8 - (lev v + 1) = 7 - lev v by omega]
  exact ⟨h2, fun b => by cases b <;> assumption⟩
theorem xor1 : ∀ v, v < 8 → (nI v ^^^ 1) = nI (v ^^^ 1) ∧ v ^^^ 1 < 8 := by decide +kernel
theorem mi_ok {lev at_ : Nat → Nat} {L : List mb_F} (hlit : ∀ v, v < 8 → li_ v ∈ L) : ∀ (n d k a : Nat) (s : wt_S) (g : gh_), sg_ s lev at_ g L (fun _ => True) → gk_ g a → d ≤ k → k ≤ lev (g.1 a) → 9 ≤ n + d → cm_ at_ L (8 - k) (g.2.2.2 a) → rs_ lev at_ L s g (fd_mirror n s (nI a) (nI d)) (mi_ (g.2.2.2 a)) 0 := by
  intro n
  induction n with
  | zero =>
    intro d k a s g h ha dk da hn
    have := or_le h.1 (gi_lab8 h.2.2.1 ha)
    omega
  | succ n ih =>
    intro d k a s g h ha dk da hn hcl
    obtain ⟨ho, hr, hg, -⟩ := id h
    have a31 : a < 2 ^ 31 := Nat.lt_trans ha.1 (by decide)
    rw [fd_mirror]
    simp only [jn_]
    by_cases hla : a ≤ 1
    · rw [if_pos (show nI a ≤ (1 : Int32) from nI_le (b := 1) hla (by decide))]
      refine ⟨a, s, g, rfl, h, ex_rf s g, ha, ?_, Nat.zero_le _⟩
      rw [(gi_leaf hg (show a < 2 by omega)).2.2]
      rfl
    · have ga := gi_big hg ha (by omega)
      have la8 := (ho.1 _ ga).1
      obtain ⟨n1, n2, -, -, l1, l2, -, e⟩ := hg.2.2.1 a ha.1 ga
      obtain ⟨k1, k2⟩ := gi_lo hg ha.1 ga
      rw [if_neg (show ¬ nI a ≤ (1 : Int32) from nI_ge (a := 1) (by omega) a31), if_pos (show nI d < (8 : Int32) from nI_lt (b := 8) (by omega) (by decide)), rc_at ha.1 (by decide), (hr.2.2.2 a ha.1 ga).1]
      obtain ⟨hcl1, hcl2⟩ := cm_to ho ga da hcl (fun w _ hw => gi_abv ho hg ha hw)
      have c0 : mb_cf (g.2.2.2 a) (g.1 a) false = g.2.2.2 (g.2.1 a) := by rw [e, mb_cf_mx0 (gi_abv ho hg k1 l1)]
      have c1 : mb_cf (g.2.2.2 a) (g.1 a) true = g.2.2.2 (g.2.2.1 a) := by rw [e, mb_cf_mx1 (gi_abv ho hg k2 l2)]
      obtain ⟨r0, s0, g0, e0, h0, x0, kk0, w0, -⟩ := ih (d + 1) (lev (g.1 a) + 1) _ s g h k1 (by omega) l1 (by omega) (by rw [← c0]; exact hcl2 false)
      rw [nI_1, e0, bIS_some]
      obtain ⟨-, hr0, hg0, -⟩ := id h0
      obtain ⟨xa1, xa2, xa3, xa4⟩ := x0.1 a ha
      obtain ⟨xb1, xb2, xb3, xb4⟩ := x0.1 _ k2
      rw [rc_at ha.1 (by decide), (hr0.2.2.2 a ha.1 (by rw [xa1]; exact ga)).2, xa3]
      obtain ⟨r1, s1, g1, e1, h1, x1, kk1, w1, -⟩ := ih (d + 1) (lev (g.1 a) + 1) _ s0 g0 h0 (ex_gk x0 k2) (by omega) (by rw [xb1]; exact l2) (by omega) (by rw [xb4, ← c1]; exact hcl2 true)
      rw [e1, bIS_some]
      obtain ⟨-, hr1, hg1, -⟩ := id h1
      have x01 := ex_tr x0 x1
      obtain ⟨ya1, ya2, ya3, ya4⟩ := x01.1 a ha
      have ha1 := ex_gk x01 ha
      rw [rc_at ha.1 (by decide), rp_lab hg1 hr1 ha1, ya1, (xor1 _ ga).1]
      have v8 := (xor1 _ ga).2
      have lw8 := (ho.1 _ v8).1
      obtain ⟨z0, z0l, z0f⟩ := gi_leaf hg1 (show 0 < 2 by decide)
      obtain ⟨z1, z1l, z1f⟩ := gi_leaf hg1 (show 1 < 2 by decide)
      have elit : mb_mx (g.1 a ^^^ 1) (g1.2.2.2 0) (g1.2.2.2 1) = li_ (g.1 a ^^^ 1) := by
        rw [hg1.1.2.2.1, hg1.1.2.2.2]; rfl
      obtain ⟨r2, s2, g2, e2, h2, x2, kk2, w2, d2⟩ := nd_ok h1 trivial v8 z0 z1 (by rw [z0l, ho.2.2]; exact lw8) (by rw [z1l, ho.2.2]; exact lw8) (fun _ => by rw [elit]; exact hlit _ v8)
      rw [show (0 : Int32) = nI 0 from nI_0.symm, show (1 : Int32) = nI 1 from rfl, e2, bIS_some]
      have m0 := x2.1 r0 (ex_gk x1 kk0)
      have m1 := x2.1 r1 kk1
      have m0' := x1.1 r0 kk0
      have ee : pi_ (g2.2.2.2 r2) (g2.2.2.2 r1) (g2.2.2.2 r0) = mi_ (g.2.2.2 a) := by
        rw [w2, elit, m1.2.2.2, m0.2.2.2, m0'.2.2.2, w0, w1, xb4, e, mi_mx]
      obtain ⟨r3, s3, g3, e3, h3, x3, kk3, w3, d3⟩ := pi_ok 9 0 0 r2 r1 r0 s2 g2 h2 kk2 (ex_gk x2 kk1) (ex_gk x2 (ex_gk x1 kk0)) (Nat.le_refl _) (Nat.zero_le _) (Nat.zero_le _) (Nat.zero_le _) (by omega) (by rw [ee]; exact hcl1)
      rw [e3, bIS_some]
      exact ⟨r3, s3, g3, rfl, h3, ex_tr (ex_tr x01 x2) x3, kk3, by rw [w3, ee], Nat.zero_le _⟩
