/-! nodesOf of the reference counts the cuts. My own. -/
def cl8_ (o : Nat → Nat) (F : Nat → mb_F) (R : Nat → Prop) (L : Nat) (h : mb_F) : Prop := ∃ r, R r ∧ ∃ a, h = ck_ o a (F r) L
theorem ck_on {o : Nat → Nat} {a : mb_V} {f : mb_F} (hf : mb_on f (fun v => v < 8)) : ∀ k, mb_on (ck_ o a f k) (fun v => v < 8 ∧ ∀ j, j < k → v ≠ o j) := by
  intro k
  induction k with
  | zero => exact mb_on_mono hf fun v hv => ⟨hv, fun j hj => by omega⟩
  | succ k ih =>
    refine mb_on_mono (mb_on_cf (a k) ih) fun v hv => ⟨hv.1.1, fun j hj => ?_⟩
    by_cases e : j = k
    · rw [e]; exact hv.2
    · exact hv.1.2 j (by omega)
theorem ck_co {o : Nat → Nat} {a : mb_V} {f : mb_F} : ∀ k, k ≤ 4 → ∀ x, x ∈ co_ o (5 - k) (ck_ o a f k) → x ∈ co_ o 5 f := by
  intro k
  induction k with
  | zero => intro _ x hx; exact hx
  | succ k ih =>
    intro hk x hx
    refine ih (by omega) x ?_
    rw [show 5 - k = (4 - k) + 1 by omega]
    show x ∈ ck_ o a f k :: (co_ o (4 - k) (mb_cf (ck_ o a f k) (o (4 - (4 - k))) false) ++ co_ o (4 - k) (mb_cf (ck_ o a f k) (o (4 - (4 - k))) true))
    rw [show 4 - (4 - k) = k by omega]
    rw [show 5 - (k + 1) = 4 - k by omega] at hx
    refine List.mem_cons_of_mem _ ?_
    have hx : x ∈ co_ o (4 - k) (mb_cf (ck_ o a f k) (o k) (a k)) := hx
    cases hb : a k
    · rw [hb] at hx; exact List.mem_append_left _ hx
    · rw [hb] at hx; exact List.mem_append_right _ hx
section NO
variable {lev o : Nat → Nat} {F : Nat → mb_F} {R : Nat → Prop}
theorem c_len (ho : or_ lev o) (hF : ∀ r, r < 16 → mb_on (F r) (fun v => v < 8)) (hR : ∀ r, R r → r < 16) {C : List mb_F} (hC : C.Nodup) (h : ∀ u, u ∈ C → ∃ k, cl8_ o F R k u) : C.length ≤ 752 := by
  have := ph_len C ((List.range 16).flatMap (fun r => co_ o 5 (F r)) ++ en_ [o 5, o 6, o 7]) hC (fun u hu => by
    obtain ⟨k, r, hr, a, e⟩ := h u hu
    have r16 := hR r hr
    rcases Nat.lt_or_ge k 5 with q | q
    · refine List.mem_append_left _ (List.mem_flatMap.mpr ⟨r, List.mem_range.mpr r16, ck_co (a := a) k (by omega) u ?_⟩)
      rw [show 5 - k = (4 - k) + 1 by omega, e]
      exact List.mem_cons_self
    · refine List.mem_append_right _ (en_mem _ _ ?_)
      rw [e]
      refine mb_on_mono (ck_on (hF r r16) k) fun v hv => ?_
      have ev := ho.1 v hv.1
      have l5 : 5 ≤ lev v := Nat.le_of_not_lt fun z => hv.2 (lev v) (by omega) ev.2.symm
      rcases (show lev v = 5 ∨ lev v = 6 ∨ lev v = 7 by omega) with c | c | c
      · rw [← ev.2, c]; exact List.mem_cons_self
      · rw [← ev.2, c]; exact List.mem_cons_of_mem _ List.mem_cons_self
      · rw [← ev.2, c]; exact List.mem_cons_of_mem _ (List.mem_cons_of_mem _ List.mem_cons_self))
  rwa [List.length_append, fm_len _ _ 31 (fun x => by rw [co_len]), List.length_range, en_3] at this
theorem qk_mo {t t' : wt_M} (h : mo_ t F o) (k : qk_ t t') : mo_ t' F o := ⟨fun r hr x hx => by unfold tb_; rw [k.1]; exact h.1 r hr x hx, fun j hj => by rw [k.2.2.1 0 j (by decide) (by decide) (by decide)]; exact h.2.1 j hj, fun v hv => by rw [k.2.1]; exact h.2.2 v hv⟩
/-- the count on its way at the level L: X is what was told for L, Y for L + 1 -/
def iv_ (o : Nat → Nat) (F : Nat → mb_F) (R : Nat → Prop) (L : Nat) (X : List Nat) (t : wt_M) (C : List mb_F) (Y : List Nat) : Prop :=
  mo_ t F o ∧ nt_ t C ∧ tl_ t C Y (L + 1) ∧ (∀ (k c : Nat), X[k]? = some c → t.1 2 k = nI c) ∧ t.1 9 2 = nI X.length ∧ (∀ c, c ∈ X → ∃ u, C[c]? = some u ∧ cl8_ o F R L u) ∧ (∀ u, u ∈ C → ∃ k, k ≤ L + 1 ∧ cl8_ o F R k u) ∧ (∀ c, c ∈ Y → ∃ u, C[c]? = some u ∧ cl8_ o F R (L + 1) u)
def gr_w (C C' : List mb_F) (Y Y' : List Nat) : Prop := (∀ (c : Nat) (u : mb_F), C[c]? = some u → C'[c]? = some u) ∧ ∀ c, c ∈ Y → c ∈ Y'
theorem one_cut (ho : or_ lev o) (hF : ∀ r, r < 16 → mb_on (F r) (fun v => v < 8)) (hR : ∀ r, R r → r < 16) {L : Nat} (hL : L < 8) {X Y : List Nat} {t : wt_M} {C : List mb_F} (h : iv_ o F R L X t C Y) {k c : Nat} {u : mb_F} (hk : X[k]? = some c) (hu : C[c]? = some u) (b : Bool) (G : wt_M → Option (Int32 × wt_M)) :
    ∃ (t' : wt_M) (C' : List mb_F) (Y' : List Nat), (b_T (fm_cutBy t (nI c) (nI (o L)) (nI b.toNat)) fun t134 => b_IT (fm_put t134 (68 : Int32)) fun r141 t141 => b_T (fm_tell t141 r141 (nI (L + 1))) fun t147 => G t147) = G t' ∧ iv_ o F R L X t' C' Y' ∧ gr_w C C' Y Y' ∧ (nk_ (mb_cf u (o L) b) → ∃ d, d ∈ Y' ∧ C'[d]? = some (mb_cf u (o L) b)) := by
  obtain ⟨hm, hn, hl, hx, hx9, hxs, hcs, hys⟩ := h
  have clen := c_len ho hF hR hn.2.2.2 (fun u hu => (hcs u hu).imp fun _ z => z.2)
  have cl : c < C.length := (List.getElem?_eq_some_iff.mp hu).1
  have o8 := (ho.2.1 L hL).1
  obtain ⟨t1, e1, d1, d2, d3⟩ := cu_ok (t := t) (c := c) (v := o L) (by omega) o8 b hm.2.2
  rw [e1, bT_some]
  have um := List.mem_of_getElem? hu
  have uon := (hn.2.2.1 u um).1
  have n1 : nt_ t1 C := ⟨by rw [d1]; exact hn.1, fun j f hj x hx => by unfold ctb_; rw [d2 1 _ (fun z => by omega)]; exact hn.2.1 j f hj x hx, hn.2.2.1, hn.2.2.2⟩
  have l1 : tl_ t1 C Y (L + 1) := by
    unfold tl_
    rw [d1]
    exact hl
  have m1 : mo_ t1 F o := ⟨fun r hr x hx => by unfold tb_; rw [d2 0 _ (fun z => by omega)]; exact hm.1 r hr x hx, fun j hj => by rw [d1]; exact hm.2.1 j hj, fun v hv => by rw [d2 2 v (fun z => by omega)]; exact hm.2.2 v hv⟩
  have fon : mb_on (mb_cf u (o L) b) (fun v => v < 8) := mb_on_mono (mb_on_cf b uon) fun v hv => hv.1
  obtain ⟨t', C', Y', e2, n', l', qk, p1, p2, p3, p4, p5⟩ := pt_ok (q := 17) (f := mb_cf u (o L) b) (by decide) n1 l1 (by omega) (by omega) fon (fun x hx => by
    rw [d3 x hx, hn.2.1 c u hu _ (wb_lt hx o8 b), wb_up hx o8]
    rfl) G
  rw [show (68 : Int32) = nI (4 * 17) from rfl, e2]
  obtain ⟨u', hu', rr, hrr, a, ea⟩ := hxs c (List.mem_of_getElem? hk)
  have uu : u' = u := Option.some.inj (hu'.symm.trans hu)
  subst uu
  have newcl : cl8_ o F R (L + 1) (mb_cf u' (o L) b) := by
    refine ⟨rr, hrr, mb_up a L b, ?_⟩
    show _ = mb_cf (ck_ o (mb_up a L b) (F rr) L) (o L) (mb_up a L b L)
    rw [mb_up_eq, ck_cong (o' := o) (b := a) L (fun j hj => ⟨rfl, mb_up_ne (by omega)⟩), ← ea]
  refine ⟨t', C', Y', rfl, ⟨qk_mo m1 qk, n', l', fun j d hj => by rw [qk.2.2.1 2 j (by decide) (by decide) (by decide), d1]; exact hx j d hj, by rw [qk.2.2.2 2 (by decide) (by decide), d1]; exact hx9, fun d hd => ?_, fun w hw => ?_, fun d hd => ?_⟩, ⟨p1, p3⟩, p5⟩
  · obtain ⟨w, w1, w2⟩ := hxs d hd
    exact ⟨w, p1 d w w1, w2⟩
  · rcases p2 w hw with z | z
    · exact hcs w z
    · exact ⟨L + 1, Nat.le_refl _, by rw [z.1]; exact newcl⟩
  · rcases p4 d hd with z | z
    · obtain ⟨w, w1, w2⟩ := hys d z
      exact ⟨w, p1 d w w1, w2⟩
    · exact ⟨_, z, newcl⟩
theorem gr_rf (C : List mb_F) (Y : List Nat) : gr_w C C Y Y := ⟨fun _ _ z => z, fun _ z => z⟩
theorem gr_tr {C C1 C2 : List mb_F} {Y Y1 Y2 : List Nat} (h : gr_w C C1 Y Y1) (k : gr_w C1 C2 Y1 Y2) : gr_w C C2 Y Y2 := ⟨fun c u z => k.1 c u (h.1 c u z), fun c z => k.2 c (h.2 c z)⟩
theorem two_cut (ho : or_ lev o) (hF : ∀ r, r < 16 → mb_on (F r) (fun v => v < 8)) (hR : ∀ r, R r → r < 16) {L : Nat} (hL : L < 8) {X Y : List Nat} {t : wt_M} {C : List mb_F} (h : iv_ o F R L X t C Y) {k c : Nat} {u : mb_F} (hk : X[k]? = some c) (hu : C[c]? = some u) (K : wt_M → Option (Int32 × wt_M)) :
    ∃ (t' : wt_M) (C' : List mb_F) (Y' : List Nat), fm_nodesOf_L103 (nI L) (nI k) K 5000 0 t = K t' ∧ iv_ o F R L X t' C' Y' ∧ gr_w C C' Y Y' ∧ ∀ b, nk_ (mb_cf u (o L) b) → ∃ d, d ∈ Y' ∧ C'[d]? = some (mb_cf u (o L) b) := by
  have kl : ∀ (t : wt_M) (C : List mb_F) (Y : List Nat), iv_ o F R L X t C Y → X.length ≤ 752 ∧ k < X.length := fun t C Y h => by
    have kx : k < X.length := (List.getElem?_eq_some_iff.mp hk).1
    obtain ⟨hm, hn, hl, hx, hx9, hxs, hcs, hys⟩ := h
    have clen := c_len ho hF hR hn.2.2.2 (fun u hu => (hcs u hu).imp fun _ z => z.2)
    refine ⟨?_, kx⟩
    sorry
  sorry
end NO
