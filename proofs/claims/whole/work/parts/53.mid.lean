/-! Two neighbours in the order change places: the graph on the way. My own. -/
/-- a child of a node that is still to be lifted -/
def hb_ (lev : Nat → Nat) (g : gh_) (y k : Nat) (B : Nat → Prop) (c : Nat) : Prop := ¬ B c ∧ ((g.1 c = y ∧ k + 1 < lev (g.1 (g.2.1 c)) ∧ k + 1 < lev (g.1 (g.2.2.1 c))) ∨ (g.1 c ≠ y ∧ k + 1 < lev (g.1 c)))
def gm_ (lev : Nat → Nat) (g : gh_) (x y k : Nat) (B : Nat → Prop) : Prop :=
  (g.1 0 = 8 ∧ g.1 1 = 8 ∧ g.2.2.2 0 = (fun _ => false) ∧ g.2.2.2 1 = (fun _ => true)) ∧
  (∀ n, n < 2048 → 2 ≤ n → g.1 n = 9 ∨ g.1 n < 8) ∧
  (∀ n, n < 2048 → g.1 n < 8 → g.2.1 n < 2048 ∧ g.2.2.1 n < 2048 ∧ g.1 (g.2.1 n) ≠ 9 ∧ g.1 (g.2.2.1 n) ≠ 9 ∧ g.2.1 n ≠ g.2.2.1 n ∧ g.2.2.2 n = mb_mx (g.1 n) (g.2.2.2 (g.2.1 n)) (g.2.2.2 (g.2.2.1 n)) ∧ mb_in (g.2.2.2 (g.2.1 n)) (g.1 n) ∧ mb_in (g.2.2.2 (g.2.2.1 n)) (g.1 n)) ∧
  (∀ n m, gk_ g n → gk_ g m → g.2.2.2 n = g.2.2.2 m → n = m) ∧
  (∀ n, n < 2048 → g.1 n < 8 → ¬ B n → lev (g.1 n) < lev (g.1 (g.2.1 n)) ∧ lev (g.1 n) < lev (g.1 (g.2.2.1 n))) ∧
  (∀ n, gk_ g n → ¬ B n → ∀ u, u < 8 → lev u < lev (g.1 n) → mb_in (g.2.2.2 n) u) ∧
  (∀ n, B n → n < 2048 ∧ g.1 n = x ∧ ¬ mb_in (g.2.2.2 n) y ∧ (∀ u, u < 8 → lev u < k → mb_in (g.2.2.2 n) u) ∧ hb_ lev g y k B (g.2.1 n) ∧ hb_ lev g y k B (g.2.2.1 n)) ∧
  (∀ n, n < 2048 → g.1 n < 8 → (B (g.2.1 n) ∨ B (g.2.2.1 n)) → lev (g.1 n) < k)
/-- the store on the way -/
def ms_ (s : wt_S) (lev at_ : Nat → Nat) (g : gh_) (x y k : Nat) (B : Nat → Prop) (L : List mb_F) : Prop :=
  (or_ lev at_ ∧ x < 8 ∧ y < 8 ∧ x ≠ y ∧ lev y = k ∧ lev x = k + 1) ∧ rp_ s lev at_ g ∧ gm_ lev g x y k B ∧ cs_ s g (fun v => v = x) ∧ ce_ s g ∧ (∀ n, gk_ g n → g.2.2.2 n ∈ L) ∧ (∀ n, B n → ∀ b, mb_cf (g.2.2.2 n) y b ∈ L) ∧ L.length ≤ 2047
variable {s : wt_S} {lev at_ : Nat → Nat} {g : gh_} {x y k : Nat} {B : Nat → Prop} {L : List mb_F}
theorem ms_lab (h : gm_ lev g x y k B) {n : Nat} (hn : gk_ g n) : g.1 n < 8 ∨ (n < 2 ∧ g.1 n = 8) := by
  rcases Nat.lt_or_ge n 2 with q | q
  · refine Or.inr ⟨q, ?_⟩
    rcases (show n = 0 ∨ n = 1 by omega) with rfl | rfl
    · exact h.1.1
    · exact h.1.2.1
  · rcases h.2.1 n hn.1 q with e | e
    · exact absurd e hn.2
    · exact Or.inl e
theorem ms_two (h : gm_ lev g x y k B) {n : Nat} (hl : g.1 n < 8) : 2 ≤ n := by
  rcases Nat.lt_or_ge n 2 with q | q
  · rcases (show n = 0 ∨ n = 1 by omega) with rfl | rfl
    · rw [h.1.1] at hl; omega
    · rw [h.1.2.1] at hl; omega
  · exact q
theorem ms_free (h : ms_ s lev at_ g x y k B L) : ∃ n, 2 ≤ n ∧ n < 2048 ∧ g.1 n = 9 := by
  obtain ⟨-, -, hg, -, -, hc, -, hL⟩ := h
  apply Classical.byContradiction
  intro no
  have all : ∀ n, n < 2048 → gk_ g n := fun n hn => ⟨hn, fun c => by
    rcases Nat.lt_or_ge n 2 with q | q
    · rcases (show n = 0 ∨ n = 1 by omega) with rfl | rfl
      · rw [hg.1.1] at c; omega
      · rw [hg.1.2.1] at c; omega
    · exact no ⟨n, q, hn, c⟩⟩
  have hl := ph_len ((List.range 2048).map g.2.2.2) L (nd_map _ _ List.nodup_range fun a b ha hb e => hg.2.2.2.1 a b (all a (List.mem_range.mp ha)) (all b (List.mem_range.mp hb)) e) (fun f hf => by
    obtain ⟨n, hn, rfl⟩ := List.mem_map.mp hf
    exact hc n (all n (List.mem_range.mp hn)))
  rw [List.length_map, List.length_range] at hl
  omega
/-- a node of the graph asks its own variable -/
theorem ms_asks (h : gm_ lev g x y k B) {n : Nat} (hn : n < 2048) (hl : g.1 n < 8) : ¬ mb_in (g.2.2.2 n) (g.1 n) := by
  intro c
  obtain ⟨q1, q2, q3, q4, q5, e, i0, i1⟩ := h.2.2.1 n hn hl
  apply q5
  apply h.2.2.2.1 _ _ ⟨q1, q3⟩ ⟨q2, q4⟩
  have c0 := mb_cf_in (b := false) c
  have c1 := mb_cf_in (b := true) c
  rw [e, mb_cf_mx0 i0] at c0
  rw [e, mb_cf_mx1 i1] at c1
  exact c0.trans c1.symm
theorem ms_find (hh : or_ lev at_ ∧ x < 8 ∧ y < 8 ∧ x ≠ y ∧ lev y = k ∧ lev x = k + 1) (h : gm_ lev g x y k B) {a b m : Nat} (ha : gk_ g a) (hb : gk_ g b) (na : ¬ B a) (nb : ¬ B b) (la : k + 1 < lev (g.1 a)) (lb : k + 1 < lev (g.1 b)) (hab : a ≠ b) (hm : gk_ g m) (e : g.2.2.2 m = mb_mx x (g.2.2.2 a) (g.2.2.2 b)) : g.1 m = x ∧ g.2.1 m = a ∧ g.2.2.1 m = b := by
  obtain ⟨ho, x8, y8, xy, ly, lx⟩ := hh
  have ind : ∀ u, u < 8 → lev u ≤ k + 1 → mb_in (g.2.2.2 a) u ∧ mb_in (g.2.2.2 b) u := fun u hu hl => ⟨h.2.2.2.2.2.1 a ha na u hu (by omega), h.2.2.2.2.2.1 b hb nb u hu (by omega)⟩
  obtain ⟨iax, ibx⟩ := ind x x8 (by omega)
  obtain ⟨iay, iby⟩ := ind y y8 (by omega)
  have asks : ¬ mb_in (g.2.2.2 m) x := by
    intro c
    apply hab
    apply h.2.2.2.1 _ _ ha hb
    have c0 := mb_cf_in (b := false) c
    have c1 := mb_cf_in (b := true) c
    rw [e, mb_cf_mx0 iax] at c0
    rw [e, mb_cf_mx1 ibx] at c1
    exact c0.trans c1.symm
  have noty : mb_in (g.2.2.2 m) y := by rw [e]; exact mb_in_mx (Ne.symm xy) iay iby
  have nB : ¬ B m := fun c => (h.2.2.2.2.2.2.1 m c).2.2.1 noty
  have q : g.1 m < 8 := by
    rcases ms_lab h hm with q | ⟨q, -⟩
    · exact q
    · exfalso
      apply asks
      intro p1 p2
      rcases (show m = 0 ∨ m = 1 by omega) with rfl | rfl
      · rw [h.1.2.2.1]
      · rw [h.1.2.2.2]
  have own := ms_asks h hm.1 q
  have ex : g.1 m = x := by
    apply Classical.byContradiction
    intro ne
    rcases Nat.lt_or_ge (lev (g.1 m)) (k + 2) with c | c
    · -- at or above x: the function doesn't ask the label
      apply own
      rw [e]
      have := ind (g.1 m) q (by omega)
      exact mb_in_mx ne this.1 this.2
    · exact asks (h.2.2.2.2.2.1 m hm nB x x8 (by omega))
  obtain ⟨q1, q2, q3, q4, q5, e2, i0, i1⟩ := h.2.2.1 m hm.1 q
  rw [ex] at e2 i0 i1
  refine ⟨ex, h.2.2.2.1 _ _ ⟨q1, q3⟩ ha ?_, h.2.2.2.1 _ _ ⟨q2, q4⟩ hb ?_⟩
  · have c := congrArg (fun f => mb_cf f x false) (e2.symm.trans e)
    rwa [mb_cf_mx0 i0, mb_cf_mx0 iax] at c
  · have c := congrArg (fun f => mb_cf f x true) (e2.symm.trans e)
    rwa [mb_cf_mx1 i1, mb_cf_mx1 ibx] at c
theorem gm_add (hh : or_ lev at_ ∧ x < 8 ∧ y < 8 ∧ x ≠ y ∧ lev y = k ∧ lev x = k + 1) (h : gm_ lev g x y k B) {n a b : Nat} (hn : n < 2048) (h2 : 2 ≤ n) (hf : g.1 n = 9) (ha : gk_ g a) (hb : gk_ g b) (na : ¬ B a) (nb : ¬ B b) (la : k + 1 < lev (g.1 a)) (lb : k + 1 < lev (g.1 b)) (hab : a ≠ b) (hno : ∀ m, gk_ g m → ¬ (g.1 m = x ∧ g.2.1 m = a ∧ g.2.2.1 m = b)) : gm_ lev (gh_add g n x a b) x y k B := by
  obtain ⟨ho, x8, y8, xy, ly, lx⟩ := id hh
  have na' : a ≠ n := fun c => ha.2 (c ▸ hf)
  have nb' : b ≠ n := fun c => hb.2 (c ▸ hf)
  have nBn : ¬ B n := fun c => by
    have := (h.2.2.2.2.2.2.1 n c).2.1
    omega
  have old := fun j (hj : j ≠ n) => gh_old g n x a b hj
  have new := gh_new g n x a b
  have new_no : ∀ m, gk_ g m → ¬ g.2.2.2 m = mb_mx x (g.2.2.2 a) (g.2.2.2 b) := fun m hm e => hno m hm (ms_find hh h ha hb na nb la lb hab hm e)
  have back : ∀ m, m ≠ n → gk_ (gh_add g n x a b) m → gk_ g m := fun m hm q => ⟨q.1, by rw [← (old m hm).1]; exact q.2⟩
  have ch : ∀ m, m < 2048 → g.1 m < 8 → g.2.1 m ≠ n ∧ g.2.2.1 m ≠ n := fun m hm hl => by
    obtain ⟨q1, q2, q3, q4, -⟩ := h.2.2.1 m hm hl
    exact ⟨fun d => q3 (by rw [d]; exact hf), fun d => q4 (by rw [d]; exact hf)⟩
  have ind : ∀ u, u < 8 → lev u ≤ k + 1 → mb_in (g.2.2.2 a) u ∧ mb_in (g.2.2.2 b) u := fun u hu hl => ⟨h.2.2.2.2.2.1 a ha na u hu (by omega), h.2.2.2.2.2.1 b hb nb u hu (by omega)⟩
  refine ⟨?_, ?_, ?_, ?_, ?_, ?_, ?_, ?_⟩
  · rw [(old 0 (by omega)).1, (old 1 (by omega)).1, (old 0 (by omega)).2.2.2, (old 1 (by omega)).2.2.2]
    exact h.1
  · intro m hm hm2
    by_cases c : m = n
    · subst c; rw [new.1]; exact Or.inr x8
    · rw [(old m c).1]; exact h.2.1 m hm hm2
  · intro m hm hl
    by_cases c : m = n
    · subst c
      rw [new.1, new.2.1, new.2.2.1, new.2.2.2, (old a na').1, (old b nb').1, (old a na').2.2.2, (old b nb').2.2.2]
      exact ⟨ha.1, hb.1, ha.2, hb.2, hab, rfl, (ind x x8 (by omega)).1, (ind x x8 (by omega)).2⟩
    · rw [(old m c).1] at hl
      obtain ⟨n1, n2⟩ := ch m hm hl
      rw [(old m c).1, (old m c).2.1, (old m c).2.2.1, (old m c).2.2.2, (old _ n1).1, (old _ n2).1, (old _ n1).2.2.2, (old _ n2).2.2.2]
      exact h.2.2.1 m hm hl
  · intro m j hm hj e
    by_cases c : m = n
    · by_cases d : j = n
      · rw [c, d]
      · subst c
        rw [new.2.2.2, (old j d).2.2.2] at e
        exact absurd e.symm (new_no j (back j d hj))
    · by_cases d : j = n
      · subst d
        rw [new.2.2.2, (old m c).2.2.2] at e
        exact absurd e (new_no m (back m c hm))
      · rw [(old m c).2.2.2, (old j d).2.2.2] at e
        exact h.2.2.2.1 m j (back m c hm) (back j d hj) e
  · intro m hm hl nB
    by_cases c : m = n
    · subst c
      rw [new.1, new.2.1, new.2.2.1, (old a na').1, (old b nb').1, lx]
      exact ⟨la, lb⟩
    · rw [(old m c).1] at hl
      obtain ⟨n1, n2⟩ := ch m hm hl
      rw [(old m c).1, (old m c).2.1, (old m c).2.2.1, (old _ n1).1, (old _ n2).1]
      exact h.2.2.2.2.1 m hm hl nB
  · intro m hm nB u hu hl
    by_cases c : m = n
    · subst c
      rw [new.1, lx] at hl
      rw [new.2.2.2]
      refine mb_in_mx (fun d => ?_) (ind u hu (by omega)).1 (ind u hu (by omega)).2
      rw [d, lx] at hl
      omega
    · rw [(old m c).1] at hl
      rw [(old m c).2.2.2]
      exact h.2.2.2.2.2.1 m (back m c hm) nB u hu hl
  · intro m Bm
    have c : m ≠ n := fun d => nBn (d ▸ Bm)
    obtain ⟨m1, m2, m3, m4, m5, m6⟩ := h.2.2.2.2.2.2.1 m Bm
    obtain ⟨n1, n2⟩ := ch m m1 (by omega)
    obtain ⟨q1, q2, q3, q4, -⟩ := h.2.2.1 m m1 (by omega)
    have tr : ∀ w, w ≠ n → w < 2048 → hb_ lev g y k B w → hb_ lev (gh_add g n x a b) y k B w := by
      intro w wn w48 hw
      refine ⟨hw.1, ?_⟩
      rcases hw.2 with ⟨p1, p2, p3⟩ | ⟨p1, p2⟩
      · obtain ⟨w1, w2⟩ := ch w w48 (by omega)
        refine Or.inl ⟨by rw [(old w wn).1]; exact p1, ?_, ?_⟩
        · rw [(old w wn).2.1, (old _ w1).1]; exact p2
        · rw [(old w wn).2.2.1, (old _ w2).1]; exact p3
      · exact Or.inr ⟨by rw [(old w wn).1]; exact p1, by rw [(old w wn).1]; exact p2⟩
    rw [(old m c).1, (old m c).2.1, (old m c).2.2.1, (old m c).2.2.2]
    exact ⟨m1, m2, m3, m4, tr _ n1 q1 m5, tr _ n2 q2 m6⟩
  · intro m hm hl hB
    by_cases c : m = n
    · subst c
      rw [new.2.1, new.2.2.1] at hB
      rcases hB with z | z
      · exact absurd z na
      · exact absurd z nb
    · rw [(old m c).1] at hl ⊢
      rw [(old m c).2.1, (old m c).2.2.1] at hB
      exact h.2.2.2.2.2.2.2 m hm hl hB
theorem nd_mid (h : ms_ s lev at_ g x y k B L) {a b : Nat} (ha : gk_ g a) (hb : gk_ g b) (na : ¬ B a) (nb : ¬ B b) (la : k + 1 < lev (g.1 a)) (lb : k + 1 < lev (g.1 b)) (hL : mb_mx x (g.2.2.2 a) (g.2.2.2 b) ∈ L) :
    ∃ (r : Nat) (s' : wt_S) (g' : gh_), fd_node s (nI x) (nI a) (nI b) = some (nI r, s') ∧ ms_ s' lev at_ g' x y k B L ∧ ex_ s s' g g' ∧ gk_ g' r ∧ ¬ B r ∧ g'.2.2.2 r = mb_mx x (g.2.2.2 a) (g.2.2.2 b) ∧ k + 1 ≤ lev (g'.1 r) := by
  unfold fd_node
  have a31 : a < 2 ^ 31 := Nat.lt_trans ha.1 (by decide)
  have b31 : b < 2 ^ 31 := Nat.lt_trans hb.1 (by decide)
  by_cases hab : a = b
  · subst hab
    rw [if_pos rfl]
    exact ⟨a, s, g, rfl, h, ex_rf s g, ha, na, (mb_mx_same _ _).symm, Nat.le_of_lt la⟩
  · obtain ⟨hh, ⟨r2, r1, r3, r45⟩, hg, ⟨C, hC1, hC2⟩, ⟨c, e, hc, he, hc2, hc3, he2, he3, hbelow, hend⟩, hcv, hcB, hLL⟩ := id h
    obtain ⟨ho, x8, y8, xy, ly, lx⟩ := id hh
    rw [if_neg (fun q => hab (nI_inj a31 b31 q)), bu_ok x a b (by omega) ha.1 hb.1]
    have hbk : bk_ x a b < 256 := Nat.mod_lt _ (by decide)
    obtain ⟨c1, c2, c3⟩ := hC1 _ hbk
    rw [bI_some, fo_spec hbk c1 (ch_len c1 c2), bI_some]
    simp only [jn_]
    cases hfi : (C (bk_ x a b)).find? (ch_is s (nI x) (nI a) (nI b)) with
    | some m =>
      have hm := List.mem_of_find?_eq_some hfi
      have hp := List.find?_some hfi
      have hl := c3 m hm
      obtain ⟨m2, m3⟩ := ch_in _ _ c1 m hm
      unfold ch_is at hp
      simp only [Bool.and_eq_true, decide_eq_true_eq] at hp
      obtain ⟨⟨p1, p2⟩, p3⟩ := hp
      obtain ⟨q4, q5⟩ := r45 m m3 hl
      have e1 : g.1 m = x := cL_v (by omega) (by omega) ((r3 m m3).symm.trans p1)
      obtain ⟨n1, n2, -, -, -, ef, -⟩ := hg.2.2.1 m m3 hl
      have e2 : g.2.1 m = a := nI_inj (by omega) a31 (q4.symm.trans p2)
      have e3 : g.2.2.1 m = b := nI_inj (by omega) b31 (q5.symm.trans p3)
      rw [e1, e2, e3] at ef
      have nBm : ¬ B m := fun c => (hg.2.2.2.2.2.2.1 m c).2.2.1 (by
        rw [ef]
        exact mb_in_mx (Ne.symm xy) (hg.2.2.2.2.2.1 a ha na y y8 (by omega)) (hg.2.2.2.2.2.1 b hb nb y y8 (by omega)))
      refine ⟨m, s, g, ?_, h, ex_rf s g, ⟨m3, by omega⟩, nBm, ef, by rw [e1]; omega⟩
      dsimp only
      rw [if_neg (nI_ne0 (by omega) (by omega))]
    | none =>
      have hno : ∀ m, gk_ g m → ¬ (g.1 m = x ∧ g.2.1 m = a ∧ g.2.2.1 m = b) := by
        intro m hm ⟨e1, e2, e3⟩
        have hl : g.1 m < 8 := by omega
        have hin := hC2 m hm.1 hl e1
        rw [e1, e2, e3] at hin
        have := List.find?_eq_none.mp hfi m hin
        apply this
        obtain ⟨q4, q5⟩ := r45 m hm.1 hl
        unfold ch_is
        rw [r3 m hm.1, q4, q5, e1, e2, e3, cL_lt (by omega)]
        simp
      obtain ⟨n0, hn0⟩ := ms_free h
      obtain ⟨f, ⟨f2, f3, f4⟩, fl⟩ := pk_least (fun n => 2 ≤ n ∧ n < 2048 ∧ g.1 n = 9) ⟨n0, hn0⟩
      have hlow : ∀ n, 2 ≤ n → n < f → g.1 n ≠ 9 := fun n h2 hn q => fl n hn ⟨h2, by omega, q⟩
      have hcf : c ≤ f := Nat.le_of_not_lt fun q => hbelow f f2 q f4
      have hgm := gm_add hh hg f3 f2 f4 ha hb na nb la lb hab hno
      have keep : ∀ n, gk_ g n → n ≠ f := fun n hn q => hn.2 (q ▸ f4)
      have nBf : ¬ B f := fun c => by
        have := (hg.2.2.2.2.2.2.1 f c).2.1
        omega
      refine ⟨f, ad_st s (bk_ x a b) f e (nI x) (nI a) (nI b), gh_add g f x a b, ?_, ⟨hh, ⟨fun w hw => by rw [ad_r2]; exact r2 w hw, fun w hw => by rw [ad_r1]; exact r1 w hw, fun n hn => ?_, fun n hn hl => ?_⟩, hgm, ?_, ?_, ?_, ?_, hLL⟩, ?_, ⟨f3, ?_⟩, nBf, (gh_new g f x a b).2.2.2, by rw [(gh_new g f x a b).1]; omega⟩
      · dsimp only
        rw [if_pos rfl, ad_ok hbk hc he he3 f3 hcf (by rw [r3 f f3, f4]; rfl) (fun j hj hj2 => by
          rw [r3 j (by omega)]
          have hj9 := hlow j (by omega) hj2
          rcases hg.2.1 j (by omega) (by omega) with q | q
          · exact absurd q hj9
          · exact cL_ne (by omega))]
        rfl
      · rw [ad_r3]
        by_cases q : n = f
        · subst q; rw [if_pos rfl, (gh_new g n x a b).1, cL_lt (by omega)]
        · rw [if_neg q, (gh_old g f x a b q).1]; exact r3 n hn
      · rw [ad_r4, ad_r5]
        by_cases q : n = f
        · subst q; rw [if_pos rfl, if_pos rfl, (gh_new g n x a b).2.1, (gh_new g n x a b).2.2.1]; exact ⟨rfl, rfl⟩
        · rw [(gh_old g f x a b q).1] at hl
          rw [if_neg q, if_neg q, (gh_old g f x a b q).2.1, (gh_old g f x a b q).2.2.1]; exact r45 n hn hl
      · refine ⟨fun j => if j = bk_ x a b then f :: C j else C j, fun j hj => ?_, fun n hn hl hp => ?_⟩
        · obtain ⟨c1, c2, c3⟩ := hC1 j hj
          have fnot : f ∉ C j := fun q => by have := c3 f q; omega
          have c1' : ch_ (ad_st s (bk_ x a b) f e (nI x) (nI a) (nI b)) (s 7 j) (C j) := ch_keep _ _ (fun n hn => by rw [ad_r6, if_neg (fun q => fnot (by rw [← q]; exact hn))]) c1
          dsimp only
          by_cases q : j = bk_ x a b
          · rw [if_pos q, ad_r7, if_pos q]
            refine ⟨⟨rfl, f2, f3, ?_⟩, List.nodup_cons.mpr ⟨fnot, c2⟩, fun n hn => ?_⟩
            · rw [ad_r6, if_pos rfl, show s 7 (bk_ x a b) = s 7 j by rw [q]]; exact c1'
            · rcases List.mem_cons.mp hn with rfl | w
              · rw [(gh_new g n x a b).1]; exact x8
              · rw [(gh_old g f x a b (fun z => fnot (by rw [← z]; exact w))).1]; exact c3 n w
          · rw [if_neg q, ad_r7, if_neg q]
            exact ⟨c1', c2, fun n hn => by rw [(gh_old g f x a b (fun z => fnot (by rw [← z]; exact hn))).1]; exact c3 n hn⟩
        · by_cases q : n = f
          · subst q
            rw [(gh_new g n x a b).1, (gh_new g n x a b).2.1, (gh_new g n x a b).2.2.1]
            dsimp only
            rw [if_pos rfl]
            exact List.mem_cons_self
          · rw [(gh_old g f x a b q).1] at hl hp
            rw [(gh_old g f x a b q).1, (gh_old g f x a b q).2.1, (gh_old g f x a b q).2.2.1]
            have := hC2 n hn hl hp
            dsimp only
            by_cases w : bk_ (g.1 n) (g.2.1 n) (g.2.2.1 n) = bk_ x a b
            · rw [if_pos w]; exact List.mem_cons_of_mem _ this
            · rw [if_neg w]; exact this
      · refine ⟨f, if e ≤ f then f + 1 else e, ad_r92 .., ad_r91 .., f2, by omega, by split <;> omega, by split <;> omega, fun n h2 hn => ?_, fun n h2 hn => ?_⟩
        · rw [(gh_old g f x a b (by omega)).1]; exact hlow n h2 hn
        · have : n ≠ f ∧ e ≤ n := by
            split at h2 <;> omega
          rw [(gh_old g f x a b this.1).1]; exact hend n this.2 hn
      · intro n hn
        by_cases q : n = f
        · subst q
          rw [(gh_new g n x a b).2.2.2]; exact hL
        · rw [(gh_old g f x a b q).2.2.2]
          exact hcv n ⟨hn.1, by rw [← (gh_old g f x a b q).1]; exact hn.2⟩
      · intro n hn b'
        have q : n ≠ f := fun z => nBf (z ▸ hn)
        rw [(gh_old g f x a b q).2.2.2]
        exact hcB n hn b'
      · exact ⟨fun n hn => gh_old g f x a b (keep n hn), fun j => ad_r0 .., fun j => ad_r8 .., ad_r90 ..⟩
      · rw [(gh_new g f x a b).1]; omega
