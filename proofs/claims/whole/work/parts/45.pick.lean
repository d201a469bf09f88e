/-! pick and fix. My own. -/
def pi_ (f g h : mb_F) : mb_F := fun x => if f x then g x else h x
theorem pi_cf (f g h : mb_F) (v : Nat) (b : Bool) : mb_cf (pi_ f g h) v b = pi_ (mb_cf f v b) (mb_cf g v b) (mb_cf h v b) := rfl
theorem pi_in {f g h : mb_F} {v : Nat} (hf : mb_in f v) (hg : mb_in g v) (hh : mb_in h v) : mb_in (pi_ f g h) v := fun a b => by
  unfold pi_
  rw [hf, hg, hh]
theorem uv_ok {lev at_ : Nat → Nat} (ho : or_ lev at_) {x y : Nat} (hx : x ≤ 8) (hy : y ≤ 8) : (if lev y < lev x then y else x) ≤ 8 ∧ lev (if lev y < lev x then y else x) ≤ lev x ∧ lev (if lev y < lev x then y else x) ≤ lev y ∧ (lev (if lev y < lev x then y else x) = lev x ∨ lev (if lev y < lev x then y else x) = lev y) := by
  by_cases q : lev y < lev x
  · rw [if_pos q]; exact ⟨hy, by omega, Nat.le_refl _, Or.inr rfl⟩
  · rw [if_neg q]; exact ⟨hx, Nat.le_refl _, by omega, Or.inl rfl⟩
theorem or_lt8 {lev at_ : Nat → Nat} (ho : or_ lev at_) {v w : Nat} (hv : v ≤ 8) (hw : w < 8) (h : lev v ≤ lev w) : v < 8 := by
  rcases Nat.lt_or_eq_of_le hv with c | c
  · exact c
  · rw [c, ho.2.2] at h
    have := (ho.1 w hw).1
    omega
theorem pi_ok {lev at_ : Nat → Nat} {L : List mb_F} : ∀ (n d k a b c : Nat) (s : wt_S) (g : gh_), sg_ s lev at_ g L (fun _ => True) → gk_ g a → gk_ g b → gk_ g c → d ≤ k → k ≤ lev (g.1 a) → k ≤ lev (g.1 b) → k ≤ lev (g.1 c) → 9 ≤ n + d → cl_ at_ L (5 - k) (pi_ (g.2.2.2 a) (g.2.2.2 b) (g.2.2.2 c)) → rs_ lev at_ L s g (fd_pick n s (nI a) (nI b) (nI c) (nI d)) (pi_ (g.2.2.2 a) (g.2.2.2 b) (g.2.2.2 c)) k := by
  intro n
  induction n with
  | zero =>
    intro d k a b c s g h ha hb hc dk da db dc hn
    have := or_le h.1 (gi_lab8 h.2.2.1 ha)
    omega
  | succ n ih =>
    intro d k a b c s g h ha hb hc dk da db dc hn hcl
    obtain ⟨ho, hr, hg, -⟩ := id h
    have a31 : a < 2 ^ 31 := Nat.lt_trans ha.1 (by decide)
    have b31 : b < 2 ^ 31 := Nat.lt_trans hb.1 (by decide)
    have c31 : c < 2 ^ 31 := Nat.lt_trans hc.1 (by decide)
    rw [fd_pick]
    simp only [jn_]
    by_cases hlf : a ≤ 1 ∨ b = c
    · have pick : ∀ (X Y : Option (Int32 × wt_S)), (if nI a ≤ (1 : Int32) then X else if nI b = nI c then X else Y) = X := by
        intro X Y
        by_cases q : a ≤ 1
        · rw [if_pos (show nI a ≤ (1 : Int32) from nI_le (b := 1) q (by decide))]
        · have q2 : b = c := by omega
          rw [if_pos (congrArg nI q2)]
          split <;> rfl
      rw [pick]
      by_cases q : a = 0
      · subst q
        rw [if_pos nI_0]
        refine ⟨c, s, g, rfl, h, ex_rf s g, hc, ?_, dc⟩
        funext x
        unfold pi_
        rw [hg.1.2.2.1]
        rfl
      · rw [if_neg (nI_ne0 (by omega) a31)]
        refine ⟨b, s, g, rfl, h, ex_rf s g, hb, ?_, db⟩
        funext x
        unfold pi_
        by_cases q1 : a = 1
        · subst q1; rw [hg.1.2.2.2]; rfl
        · have q2 : b = c := by omega
          subst q2
          split <;> rfl
    · have hla : 1 < a := by omega
      have hbc : b ≠ c := by omega
      have ga := gi_big hg ha hla
      have l8b := gi_lab8 hg hb
      have l8c := gi_lab8 hg hc
      rw [if_neg (show ¬ nI a ≤ (1 : Int32) from nI_ge (a := 1) hla a31), if_neg (fun q => hbc (nI_inj b31 c31 q))]
      have hd8 : d < 8 := by have := (ho.1 _ ga).1; omega
      rw [if_pos (show nI d < (8 : Int32) from nI_lt (b := 8) hd8 (by decide)), rc_at ha.1 (by decide), rc_at hb.1 (by decide), rc_at hc.1 (by decide), rp_lab hg hr ha, rp_lab hg hr hb, rp_lab hg hr hc, up_ok ho hr l8b l8c, bI_some]
      obtain ⟨u1, u2, u3, u4⟩ := uv_ok ho l8b l8c
      generalize (if lev (g.1 c) < lev (g.1 b) then g.1 c else g.1 b) = u at u1 u2 u3 u4 ⊢
      rw [up_ok ho hr (Nat.le_of_lt ga) u1, bI_some]
      obtain ⟨v1, v2, v3, v4⟩ := uv_ok ho (Nat.le_of_lt ga) u1
      generalize (if lev u < lev (g.1 a) then u else g.1 a) = v at v1 v2 v3 v4 ⊢
      have v8 : v < 8 := or_lt8 ho v1 ga v2
      have lv8 := (ho.1 v v8).1
      have vk : k ≤ lev v := by omega
      obtain ⟨hmem, hcl2⟩ := cl_to ho v8 vk hcl (fun w _ hw => pi_in (gi_abv ho hg ha (by omega)) (gi_abv ho hg hb (by omega)) (gi_abv ho hg hc (by omega)))
      rw [of_ok hg hr ha v8, bI_some, of_ok hg hr hb v8, bI_some, of_ok hg hr hc v8, bI_some]
      obtain ⟨a1, a2, a3⟩ := of_sem ho hg ha v8 (by omega)
      obtain ⟨b1, b2, b3⟩ := of_sem ho hg hb v8 (by omega)
      obtain ⟨c1, c2, c3⟩ := of_sem ho hg hc v8 (by omega)
      have f0 : pi_ (g.2.2.2 (if g.1 a = v then g.2.1 a else a)) (g.2.2.2 (if g.1 b = v then g.2.1 b else b)) (g.2.2.2 (if g.1 c = v then g.2.1 c else c)) = mb_cf (pi_ (g.2.2.2 a) (g.2.2.2 b) (g.2.2.2 c)) v false := by rw [a3, b3, c3]; rfl
      have f1 : pi_ (mb_cf (g.2.2.2 a) v true) (mb_cf (g.2.2.2 b) v true) (mb_cf (g.2.2.2 c) v true) = mb_cf (pi_ (g.2.2.2 a) (g.2.2.2 b) (g.2.2.2 c)) v true := rfl
      obtain ⟨r0, s0, g0, e0, h0, x0, k0, w0, d0⟩ := ih (d + 1) (lev v + 1) _ _ _ s g h a1 b1 c1 (by omega) a2 b2 c2 (by omega) (by rw [f0]; exact hcl2 false)
      rw [nI_1, e0, bIS_some]
      obtain ⟨-, hr0, hg0, -⟩ := id h0
      have ha0 := ex_gk x0 ha
      have hb0 := ex_gk x0 hb
      have hc0 := ex_gk x0 hc
      obtain ⟨xa1, xa2, xa3, xa4⟩ := x0.1 a ha
      obtain ⟨xb1, xb2, xb3, xb4⟩ := x0.1 b hb
      obtain ⟨xc1, xc2, xc3, xc4⟩ := x0.1 c hc
      rw [on_ok hg0 hr0 ha0 v8, bI_some, on_ok hg0 hr0 hb0 v8, bI_some, on_ok hg0 hr0 hc0 v8, bI_some]
      obtain ⟨p1, p2, p3⟩ := on_sem ho hg0 ha0 v8 (by rw [xa1]; omega)
      obtain ⟨q1, q2, q3⟩ := on_sem ho hg0 hb0 v8 (by rw [xb1]; omega)
      obtain ⟨t1, t2, t3⟩ := on_sem ho hg0 hc0 v8 (by rw [xc1]; omega)
      rw [xa4] at p3
      rw [xb4] at q3
      rw [xc4] at t3
      obtain ⟨r1, s1, g1, e1, h1, x1, k1, w1, d1⟩ := ih (d + 1) (lev v + 1) _ _ _ s0 g0 h0 p1 q1 t1 (by omega) p2 q2 t2 (by omega) (by rw [p3, q3, t3, f1]; exact hcl2 true)
      rw [e1, bIS_some]
      obtain ⟨y1, y2, y3, y4⟩ := x1.1 r0 k0
      have k0' := ex_gk x1 k0
      have ee : mb_mx v (g1.2.2.2 r0) (g1.2.2.2 r1) = pi_ (g.2.2.2 a) (g.2.2.2 b) (g.2.2.2 c) := by
        rw [y4, w0, w1, f0, p3, q3, t3, f1, mb_mx_cf]
      obtain ⟨r2, s2, g2, e2, h2, x2, k2, w2, d2⟩ := nd_ok h1 trivial v8 k0' k1 (by rw [y1]; omega) (by omega) (by rw [ee]; exact hmem)
      rw [e2, bIS_some]
      exact ⟨r2, s2, g2, rfl, h2, ex_tr (ex_tr x0 x1) x2, k2, by rw [w2, ee], by omega⟩
theorem fi_ok {lev at_ : Nat → Nat} {L : List mb_F} {v : Nat} (v8 : v < 8) (on : Bool) : ∀ (n d k a : Nat) (s : wt_S) (g : gh_), sg_ s lev at_ g L (fun _ => True) → gk_ g a → d ≤ k → k ≤ lev (g.1 a) → 9 ≤ n + d → cl_ at_ L (5 - k) (mb_cf (g.2.2.2 a) v on) → rs_ lev at_ L s g (fd_fix n s (nI a) (nI v) (nI on.toNat) (nI d)) (mb_cf (g.2.2.2 a) v on) k := by
  intro n
  induction n with
  | zero =>
    intro d k a s g h ha dk da hn
    have := or_le h.1 (gi_lab8 h.2.2.1 ha)
    omega
  | succ n ih =>
    intro d k a s g h ha dk da hn hcl
    obtain ⟨ho, hr, hg, -⟩ := id h
    have l8 := gi_lab8 hg ha
    have ll := or_le ho l8
    have lv8 := (ho.1 v v8).1
    rw [fd_fix]
    simp only [jn_]
    rw [rc_at ha.1 (by decide), rp_lab hg hr ha, rc_at (by omega) (by decide), rc_at (by omega) (by decide), hr.1 _ l8, hr.1 v (by omega)]
    by_cases hq : lev (g.1 a) ≤ lev v
    · have ga : g.1 a < 8 := or_lt8 ho l8 v8 hq
      rw [if_pos (nI_le hq (by omega)), rc_at ha.1 (by decide), rp_lab hg hr ha]
      obtain ⟨n1, n2, -, -, l1, l2, -, e⟩ := hg.2.2.1 a ha.1 ga
      obtain ⟨k1, k2⟩ := gi_lo hg ha.1 ga
      by_cases hv : g.1 a = v
      · rw [if_pos (congrArg nI hv)]
        rw [hv] at l1 l2 e
        cases on with
        | false =>
          rw [if_pos (show nI false.toNat = (0 : Int32) from nI_0), rc_at ha.1 (by decide), (hr.2.2.2 a ha.1 ga).1]
          exact ⟨_, s, g, rfl, h, ex_rf s g, k1, by rw [e, mb_cf_mx0 (gi_abv ho hg k1 l1)], by omega⟩
        | true =>
          rw [if_neg (show ¬ nI true.toNat = (0 : Int32) by decide), rc_at ha.1 (by decide), (hr.2.2.2 a ha.1 ga).2]
          exact ⟨_, s, g, rfl, h, ex_rf s g, k2, by rw [e, mb_cf_mx1 (gi_abv ho hg k2 l2)], by omega⟩
      · rw [if_neg (fun c => hv (nI_inj (by omega) (by omega) c))]
        have hlt : lev (g.1 a) < lev v := by
          rcases Nat.lt_or_eq_of_le hq with c | c
          · exact c
          · exact absurd (or_inj ho ga v8 c) hv
        have la8 := (ho.1 _ ga).1
        rw [if_pos (show nI d < (8 : Int32) from nI_lt (b := 8) (by omega) (by decide)), rc_at ha.1 (by decide), rp_lab hg hr ha, rc_at ha.1 (by decide), (hr.2.2.2 a ha.1 ga).1]
        obtain ⟨hmem, hcl2⟩ := cl_to ho ga da hcl (fun w _ hw => mb_in_cf2 _ (gi_abv ho hg ha hw))
        have c0 : mb_cf (mb_cf (g.2.2.2 a) v on) (g.1 a) false = mb_cf (g.2.2.2 (g.2.1 a)) v on := by
          have : mb_cf (g.2.2.2 a) (g.1 a) false = g.2.2.2 (g.2.1 a) := by rw [e, mb_cf_mx0 (gi_abv ho hg k1 l1)]
          rw [← this]
          funext x
          unfold mb_cf
          rw [mb_up_cm hv]
        have c1 : mb_cf (mb_cf (g.2.2.2 a) v on) (g.1 a) true = mb_cf (g.2.2.2 (g.2.2.1 a)) v on := by
          have : mb_cf (g.2.2.2 a) (g.1 a) true = g.2.2.2 (g.2.2.1 a) := by rw [e, mb_cf_mx1 (gi_abv ho hg k2 l2)]
          rw [← this]
          funext x
          unfold mb_cf
          rw [mb_up_cm hv]
        obtain ⟨r0, s0, g0, e0, h0, x0, k0, w0, d0⟩ := ih (d + 1) (lev (g.1 a) + 1) _ s g h k1 (by omega) l1 (by omega) (by rw [← c0]; exact hcl2 false)
        rw [nI_1, e0, bIS_some]
        obtain ⟨-, hr0, hg0, -⟩ := id h0
        have ha0 := ex_gk x0 ha
        obtain ⟨xa1, xa2, xa3, xa4⟩ := x0.1 a ha
        rw [rc_at ha.1 (by decide), (hr0.2.2.2 a ha.1 (by rw [xa1]; exact ga)).2, xa3]
        obtain ⟨xb1, xb2, xb3, xb4⟩ := x0.1 _ k2
        obtain ⟨r1, s1, g1, e1, h1, x1, kk1, w1, d1⟩ := ih (d + 1) (lev (g.1 a) + 1) _ s0 g0 h0 (ex_gk x0 k2) (by omega) (by rw [xb1]; exact l2) (by omega) (by rw [xb4, ← c1]; exact hcl2 true)
        rw [e1, bIS_some]
        obtain ⟨y1, y2, y3, y4⟩ := x1.1 r0 k0
        have k0' := ex_gk x1 k0
        have ee : mb_mx (g.1 a) (g1.2.2.2 r0) (g1.2.2.2 r1) = mb_cf (g.2.2.2 a) v on := by
          rw [y4, w0, w1, xb4, ← c0, ← c1, mb_mx_cf]
        obtain ⟨r2, s2, g2, e2, h2, x2, kk2, w2, d2⟩ := nd_ok h1 trivial ga k0' kk1 (by rw [y1]; omega) (by omega) (by rw [ee]; exact hmem)
        rw [e2, bIS_some]
        exact ⟨r2, s2, g2, rfl, h2, ex_tr (ex_tr x0 x1) x2, kk2, by rw [w2, ee], by omega⟩
    · rw [if_neg (nI_ge (by omega) (by omega))]
      exact ⟨a, s, g, rfl, h, ex_rf s g, ha, (mb_cf_in (gi_abv ho hg ha (by omega))).symm, da⟩
