/-! The store: what its rows say, and its method 'node'. My own. -/
def cL_ (k : Nat) : Int32 := if k = 9 then -1 else nI k
def bk_ (v a b : Nat) : Nat := (v + 37 * a + 101 * b) % 256
def rp_ (s : wt_S) (lev at_ : Nat → Nat) (g : gh_) : Prop := (∀ v, v ≤ 8 → s 2 v = nI (lev v)) ∧ (∀ k, k < 8 → s 1 k = nI (at_ k)) ∧ (∀ n, n < 2048 → s 3 n = cL_ (g.1 n)) ∧ (∀ n, n < 2048 → g.1 n < 8 → s 4 n = nI (g.2.1 n) ∧ s 5 n = nI (g.2.2.1 n))
def cs_ (s : wt_S) (g : gh_) (P : Nat → Prop) : Prop := ∃ C : Nat → List Nat, (∀ b, b < 256 → ch_ s (s 7 b) (C b) ∧ (C b).Nodup ∧ ∀ n, n ∈ C b → g.1 n < 8) ∧ ∀ n, n < 2048 → g.1 n < 8 → P (g.1 n) → n ∈ C (bk_ (g.1 n) (g.2.1 n) (g.2.2.1 n))
def ce_ (s : wt_S) (g : gh_) : Prop := ∃ c e, s 9 2 = nI c ∧ s 9 1 = nI e ∧ 2 ≤ c ∧ c ≤ 2048 ∧ 2 ≤ e ∧ e ≤ 2048 ∧ (∀ n, 2 ≤ n → n < c → g.1 n ≠ 9) ∧ (∀ n, e ≤ n → n < 2048 → g.1 n = 9)
def sg_ (s : wt_S) (lev at_ : Nat → Nat) (g : gh_) (L : List mb_F) (P : Nat → Prop) : Prop := or_ lev at_ ∧ rp_ s lev at_ g ∧ gi_ lev g ∧ cs_ s g P ∧ ce_ s g ∧ cv_ lev g L ∧ L.length ≤ 1791
def ex_ (s s' : wt_S) (g g' : gh_) : Prop := (∀ n, gk_ g n → g'.1 n = g.1 n ∧ g'.2.1 n = g.2.1 n ∧ g'.2.2.1 n = g.2.2.1 n ∧ g'.2.2.2 n = g.2.2.2 n) ∧ (∀ j, s' 0 j = s 0 j) ∧ (∀ j, s' 8 j = s 8 j) ∧ s' 9 0 = s 9 0
theorem ex_rf (s : wt_S) (g : gh_) : ex_ s s g g := ⟨fun _ _ => ⟨rfl, rfl, rfl, rfl⟩, fun _ => rfl, fun _ => rfl, rfl⟩
theorem ex_gk {s s' : wt_S} {g g' : gh_} (h : ex_ s s' g g') {n : Nat} (hn : gk_ g n) : gk_ g' n := ⟨hn.1, by rw [(h.1 n hn).1]; exact hn.2⟩
theorem ex_tr {s s1 s2 : wt_S} {g g1 g2 : gh_} (h : ex_ s s1 g g1) (k : ex_ s1 s2 g1 g2) : ex_ s s2 g g2 := by
  refine ⟨fun n hn => ?_, fun j => (k.2.1 j).trans (h.2.1 j), fun j => (k.2.2.1 j).trans (h.2.2.1 j), k.2.2.2.trans h.2.2.2⟩
  obtain ⟨a1, a2, a3, a4⟩ := h.1 n hn
  obtain ⟨b1, b2, b3, b4⟩ := k.1 n (ex_gk h hn)
  exact ⟨b1.trans a1, b2.trans a2, b3.trans a3, b4.trans a4⟩
theorem cL_lt {k : Nat} (h : k < 9) : cL_ k = nI k := by
  unfold cL_
  rw [if_neg (by omega)]
theorem cL_9 : cL_ 9 = -1 := rfl
theorem nI_m1 {k : Nat} (h : k < 2 ^ 31) : nI k ≠ -1 := by
  intro c
  have := nI_pos' h
  rw [c] at this
  exact absurd this (by decide)
theorem cL_v {k v : Nat} (hk : k ≤ 9) (hv : v < 9) (h : cL_ k = nI v) : k = v := by
  unfold cL_ at h
  by_cases c : k = 9
  · rw [if_pos c] at h
    exact absurd h.symm (nI_m1 (by omega))
  · rw [if_neg c] at h
    exact nI_inj (by omega) (by omega) h
theorem cL_ne {k : Nat} (hk : k < 9) : cL_ k ≠ -1 := by
  rw [cL_lt hk]
  exact nI_m1 (by omega)
theorem ch_keep {s s' : wt_S} : ∀ (l : List Nat) (x : Int32), (∀ n, n ∈ l → s' 6 n = s 6 n) → ch_ s x l → ch_ s' x l := by
  intro l
  induction l with
  | nil => intro x _ h; exact h
  | cons n l ih =>
    intro x hk h
    obtain ⟨h1, h2, h3, h4⟩ := h
    refine ⟨h1, h2, h3, ?_⟩
    rw [hk n List.mem_cons_self]
    exact ih _ (fun m hm => hk m (List.mem_cons_of_mem _ hm)) h4
theorem ch_in {s : wt_S} : ∀ (l : List Nat) (x : Int32), ch_ s x l → ∀ n, n ∈ l → 2 ≤ n ∧ n < 2048 := by
  intro l
  induction l with
  | nil => intro x _ n hn; cases hn
  | cons m l ih =>
    intro x h n hn
    rcases List.mem_cons.mp hn with rfl | q
    · exact ⟨h.2.1, h.2.2.1⟩
    · exact ih _ h.2.2.2 n q
theorem ch_len {s : wt_S} {l : List Nat} {x : Int32} (h : ch_ s x l) (hn : l.Nodup) : l.length ≤ 2048 := by
  have := ph_len l (List.range 2048) hn (fun n hn => List.mem_range.mpr (ch_in l x h n hn).2)
  rwa [List.length_range] at this
theorem bu_ok (v a b : Nat) (hv : v < 9) (ha : a < 2048) (hb : b < 2048) : fd_bucket (nI v) (nI a) (nI b) = some (nI (bk_ v a b)) := by
  unfold fd_bucket bk_
  have e : nI v + 37 * nI a + 101 * nI b = nI (v + 37 * a + 101 * b) := by
    rw [show (37 : Int32) = nI 37 from rfl, show (101 : Int32) = nI 101 from rfl, pk_mul, pk_mul, nI_add, nI_add]
  rw [e, pk_andN (by omega) 8 (by decide)]
theorem pu_pu (s : wt_S) (k i : Nat) (x y : Int32) : pu_S (pu_S s k i x) k i y = pu_S s k i y := by
  funext r j
  simp only [pu_at]
  by_cases c : r = k ∧ j = i
  · rw [if_pos c, if_pos c]
  · rw [if_neg c, if_neg c, if_neg c]
theorem pu_self {s : wt_S} {k i : Nat} {x : Int32} (h : s k i = x) : pu_S s k i x = s := by
  funext r j
  rw [pu_at]
  by_cases c : r = k ∧ j = i
  · rw [if_pos c, c.1, c.2, h]
  · rw [if_neg c]
theorem ad_loop (c1 c2 c3 c4 : Int32) (K : wt_S → Option (Int32 × wt_S)) (f : Nat) (hf : f < 2048) : ∀ (d n c : Nat) (s : wt_S), f = c + d → s 9 2 = nI c → s 3 f = -1 → (∀ j, c ≤ j → j < f → s 3 j ≠ -1) → d < n → fd_added_L0 c1 c2 c3 c4 K n s = K (pu_S s 9 2 (nI f)) := by
  intro d
  induction d with
  | zero =>
    intro n c s e h1 h2 h3 hn
    cases n with
    | zero => omega
    | succ n =>
      have e : f = c := e
      subst e
      rw [fd_added_L0, h1, if_neg (show ¬ (2048 : Int32) ≤ nI f from nI_ge (b := 2048) hf (by decide)), rc_at hf (by decide), if_pos h2, pu_self h1]
  | succ d ih =>
    intro n c s e h1 h2 h3 hn
    cases n with
    | zero => omega
    | succ n =>
      rw [fd_added_L0, h1, if_neg (show ¬ (2048 : Int32) ≤ nI c from nI_ge (b := 2048) (by omega) (by decide)), rc_at (by omega) (by decide), if_neg (h3 c (Nat.le_refl _) (by omega))]
      dsimp only [sp_S]
      rw [nI_1, ih n (c + 1) (pu_S s 9 2 (nI (c + 1))) (by omega) (pu_eq _ _ _ _) (by rw [pu_row (by decide)]; exact h2) (fun j hj hj2 => by rw [pu_row (by decide)]; exact h3 j (by omega) hj2) (by omega), pu_pu]
/-- the store with the node f = (v, a, b) more, put ahead of bucket k; e: the end -/
def ad_st (s : wt_S) (k f e : Nat) (v a b : Int32) : wt_S := pu_S (pu_S (pu_S (pu_S (pu_S (pu_S (pu_S s 9 2 (nI f)) 3 f v) 4 f a) 5 f b) 6 f (s 7 k)) 7 k (nI f)) 9 1 (nI (if e ≤ f then f + 1 else e))
theorem ad_ok {s : wt_S} {k c e f : Nat} {v a b : Int32} (hk : k < 256) (hc : s 9 2 = nI c) (he : s 9 1 = nI e) (he2 : e ≤ 2048) (hf : f < 2048) (hcf : c ≤ f) (hfree : s 3 f = -1) (hbelow : ∀ j, c ≤ j → j < f → s 3 j ≠ -1) : fd_added s (nI k) v a b = some (nI f, ad_st s k f e v a b) := by
  unfold fd_added
  rw [ad_loop (nI k) v a b _ f hf (f - c) 5000 c s (by omega) hc hfree hbelow (by omega)]
  have h9 : pu_S s 9 2 (nI f) 9 2 = nI f := pu_eq _ _ _ _
  rw [h9, if_pos (show nI f < (2048 : Int32) from nI_lt (b := 2048) hf (by decide)), wc_S hf (by decide), wc_S hf (by decide), wc_S hf (by decide), rc_at hk (by decide), wc_S hf (by decide), wc_S hk (by decide)]
  dsimp only [jn_, sp_S]
  have e1 : pu_S (pu_S (pu_S (pu_S (pu_S (pu_S s 9 2 (nI f)) 3 f v) 4 f a) 5 f b) 6 f (pu_S (pu_S (pu_S (pu_S s 9 2 (nI f)) 3 f v) 4 f a) 5 f b 7 k)) 7 k (nI f) 9 1 = nI e := by
    rw [pu_row (by decide), pu_row (by decide), pu_row (by decide), pu_row (by decide), pu_row (by decide), pu_ne (by decide)]
    exact he
  have e2 : pu_S (pu_S (pu_S (pu_S s 9 2 (nI f)) 3 f v) 4 f a) 5 f b 7 k = s 7 k := by
    rw [pu_row (by decide), pu_row (by decide), pu_row (by decide), pu_row (by decide)]
  rw [e1, e2]
  unfold ad_st
  by_cases q : e ≤ f
  · rw [if_pos (nI_le q (by omega)), if_pos q, nI_1]
  · rw [if_neg (nI_ge (by omega) (by omega)), if_neg q]
theorem ad_r3 (s : wt_S) (k f e : Nat) (v a b : Int32) (j : Nat) : ad_st s k f e v a b 3 j = if j = f then v else s 3 j := by simp [ad_st, pu_at]
theorem ad_r4 (s : wt_S) (k f e : Nat) (v a b : Int32) (j : Nat) : ad_st s k f e v a b 4 j = if j = f then a else s 4 j := by simp [ad_st, pu_at]
theorem ad_r5 (s : wt_S) (k f e : Nat) (v a b : Int32) (j : Nat) : ad_st s k f e v a b 5 j = if j = f then b else s 5 j := by simp [ad_st, pu_at]
theorem ad_r6 (s : wt_S) (k f e : Nat) (v a b : Int32) (j : Nat) : ad_st s k f e v a b 6 j = if j = f then s 7 k else s 6 j := by simp [ad_st, pu_at]
theorem ad_r7 (s : wt_S) (k f e : Nat) (v a b : Int32) (j : Nat) : ad_st s k f e v a b 7 j = if j = k then nI f else s 7 j := by simp [ad_st, pu_at]
theorem ad_r0 (s : wt_S) (k f e : Nat) (v a b : Int32) (j : Nat) : ad_st s k f e v a b 0 j = s 0 j := by simp [ad_st, pu_at]
theorem ad_r1 (s : wt_S) (k f e : Nat) (v a b : Int32) (j : Nat) : ad_st s k f e v a b 1 j = s 1 j := by simp [ad_st, pu_at]
theorem ad_r2 (s : wt_S) (k f e : Nat) (v a b : Int32) (j : Nat) : ad_st s k f e v a b 2 j = s 2 j := by simp [ad_st, pu_at]
theorem ad_r8 (s : wt_S) (k f e : Nat) (v a b : Int32) (j : Nat) : ad_st s k f e v a b 8 j = s 8 j := by simp [ad_st, pu_at]
theorem ad_r90 (s : wt_S) (k f e : Nat) (v a b : Int32) : ad_st s k f e v a b 9 0 = s 9 0 := by simp [ad_st, pu_at]
theorem ad_r91 (s : wt_S) (k f e : Nat) (v a b : Int32) : ad_st s k f e v a b 9 1 = nI (if e ≤ f then f + 1 else e) := by simp [ad_st, pu_at]
theorem ad_r92 (s : wt_S) (k f e : Nat) (v a b : Int32) : ad_st s k f e v a b 9 2 = nI f := by simp [ad_st, pu_at]
theorem gh_old (g : gh_) (n v a b : Nat) {j : Nat} (hj : j ≠ n) : (gh_add g n v a b).1 j = g.1 j ∧ (gh_add g n v a b).2.1 j = g.2.1 j ∧ (gh_add g n v a b).2.2.1 j = g.2.2.1 j ∧ (gh_add g n v a b).2.2.2 j = g.2.2.2 j := by simp [gh_add, hj]
theorem gh_new (g : gh_) (n v a b : Nat) : (gh_add g n v a b).1 n = v ∧ (gh_add g n v a b).2.1 n = a ∧ (gh_add g n v a b).2.2.1 n = b ∧ (gh_add g n v a b).2.2.2 n = mb_mx v (g.2.2.2 a) (g.2.2.2 b) := by simp [gh_add]
theorem ad_sg {s : wt_S} {lev at_ : Nat → Nat} {g : gh_} {L : List mb_F} {P : Nat → Prop} {v a b f e : Nat} (h : sg_ s lev at_ g L P) (hv : v < 8) (ha : gk_ g a) (hb : gk_ g b) (la : lev v < lev (g.1 a)) (lb : lev v < lev (g.1 b)) (hab : a ≠ b) (hno : ∀ m, gk_ g m → ¬ (g.1 m = v ∧ g.2.1 m = a ∧ g.2.2.1 m = b)) (hL : lev v < 5 → mb_mx v (g.2.2.2 a) (g.2.2.2 b) ∈ L)
    (hf2 : 2 ≤ f) (hf : f < 2048) (hff : g.1 f = 9) (hlow : ∀ n, 2 ≤ n → n < f → g.1 n ≠ 9) (he : s 9 1 = nI e) (he2 : 2 ≤ e) (he3 : e ≤ 2048) (hend : ∀ n, e ≤ n → n < 2048 → g.1 n = 9) :
    sg_ (ad_st s (bk_ v a b) f e (nI v) (nI a) (nI b)) lev at_ (gh_add g f v a b) L P ∧ ex_ s (ad_st s (bk_ v a b) f e (nI v) (nI a) (nI b)) g (gh_add g f v a b) := by
  obtain ⟨ho, ⟨r2, r1, r3, r45⟩, hg, ⟨C, hC1, hC2⟩, -, hcv, hLL⟩ := h
  have hbk : bk_ v a b < 256 := Nat.mod_lt _ (by decide)
  have keep : ∀ n, gk_ g n → n ≠ f := fun n hn q => hn.2 (q ▸ hff)
  refine ⟨⟨ho, ⟨fun w hw => by rw [ad_r2]; exact r2 w hw, fun w hw => by rw [ad_r1]; exact r1 w hw, fun n hn => ?_, fun n hn hl => ?_⟩, gi_add ho hg hf hf2 hff hv ha hb la lb hab hno, ?_, ?_, ?_, hLL⟩, ?_⟩
  · rw [ad_r3]
    by_cases q : n = f
    · subst q; rw [if_pos rfl, (gh_new g n v a b).1, cL_lt (by omega)]
    · rw [if_neg q, (gh_old g f v a b q).1]; exact r3 n hn
  · rw [ad_r4, ad_r5]
    by_cases q : n = f
    · subst q; rw [if_pos rfl, if_pos rfl, (gh_new g n v a b).2.1, (gh_new g n v a b).2.2.1]; exact ⟨rfl, rfl⟩
    · rw [(gh_old g f v a b q).1] at hl
      rw [if_neg q, if_neg q, (gh_old g f v a b q).2.1, (gh_old g f v a b q).2.2.1]; exact r45 n hn hl
  · refine ⟨fun k => if k = bk_ v a b then f :: C k else C k, fun k hk => ?_, fun n hn hl hp => ?_⟩
    · obtain ⟨c1, c2, c3⟩ := hC1 k hk
      have fnot : f ∉ C k := fun q => by have := c3 f q; omega
      have c1' : ch_ (ad_st s (bk_ v a b) f e (nI v) (nI a) (nI b)) (s 7 k) (C k) := ch_keep _ _ (fun n hn => by rw [ad_r6, if_neg (fun q => fnot (by rw [← q]; exact hn))]) c1
      dsimp only
      by_cases q : k = bk_ v a b
      · rw [if_pos q, ad_r7, if_pos q]
        refine ⟨⟨rfl, hf2, hf, ?_⟩, List.nodup_cons.mpr ⟨fnot, c2⟩, fun n hn => ?_⟩
        · rw [ad_r6, if_pos rfl, show s 7 (bk_ v a b) = s 7 k by rw [q]]; exact c1'
        · rcases List.mem_cons.mp hn with rfl | w
          · rw [(gh_new g n v a b).1]; exact hv
          · rw [(gh_old g f v a b (fun z => fnot (by rw [← z]; exact w))).1]; exact c3 n w
      · rw [if_neg q, ad_r7, if_neg q]
        exact ⟨c1', c2, fun n hn => by rw [(gh_old g f v a b (fun z => fnot (by rw [← z]; exact hn))).1]; exact c3 n hn⟩
    · by_cases q : n = f
      · subst q
        rw [(gh_new g n v a b).1, (gh_new g n v a b).2.1, (gh_new g n v a b).2.2.1]
        dsimp only
        rw [if_pos rfl]
        exact List.mem_cons_self
      · rw [(gh_old g f v a b q).1] at hl hp
        rw [(gh_old g f v a b q).1, (gh_old g f v a b q).2.1, (gh_old g f v a b q).2.2.1]
        have := hC2 n hn hl hp
        dsimp only
        by_cases w : bk_ (g.1 n) (g.2.1 n) (g.2.2.1 n) = bk_ v a b
        · rw [if_pos w]; exact List.mem_cons_of_mem _ this
        · rw [if_neg w]; exact this
  · refine ⟨f, if e ≤ f then f + 1 else e, ad_r92 .., ad_r91 .., hf2, by omega, by split <;> omega, by split <;> omega, fun n h2 hn => ?_, fun n h2 hn => ?_⟩
    · rw [(gh_old g f v a b (by omega)).1]; exact hlow n h2 hn
    · have : n ≠ f ∧ e ≤ n := by
        split at h2 <;> omega
      rw [(gh_old g f v a b this.1).1]; exact hend n this.2 hn
  · intro n hn hl
    by_cases q : n = f
    · subst q
      rw [(gh_new g n v a b).1] at hl
      rw [(gh_new g n v a b).2.2.2]; exact hL hl
    · rw [(gh_old g f v a b q).1] at hl
      rw [(gh_old g f v a b q).2.2.2]
      exact hcv n ⟨hn.1, by rw [← (gh_old g f v a b q).1]; exact hn.2⟩ hl
  · exact ⟨fun n hn => gh_old g f v a b (keep n hn), fun j => ad_r0 .., fun j => ad_r8 .., ad_r90 ..⟩
theorem nd_ok {s : wt_S} {lev at_ : Nat → Nat} {g : gh_} {L : List mb_F} {P : Nat → Prop} {v a b : Nat} (h : sg_ s lev at_ g L P) (hP : P v) (hv : v < 8) (ha : gk_ g a) (hb : gk_ g b) (la : lev v < lev (g.1 a)) (lb : lev v < lev (g.1 b)) (hL : lev v < 5 → mb_mx v (g.2.2.2 a) (g.2.2.2 b) ∈ L) :
    ∃ (r : Nat) (s' : wt_S) (g' : gh_), fd_node s (nI v) (nI a) (nI b) = some (nI r, s') ∧ sg_ s' lev at_ g' L P ∧ ex_ s s' g g' ∧ gk_ g' r ∧ g'.2.2.2 r = mb_mx v (g.2.2.2 a) (g.2.2.2 b) ∧ lev v ≤ lev (g'.1 r) := by
  unfold fd_node
  have a31 : a < 2 ^ 31 := Nat.lt_trans ha.1 (by decide)
  have b31 : b < 2 ^ 31 := Nat.lt_trans hb.1 (by decide)
  by_cases hab : a = b
  · subst hab
    rw [if_pos rfl]
    exact ⟨a, s, g, rfl, h, ex_rf s g, ha, (mb_mx_same _ _).symm, Nat.le_of_lt la⟩
  · rw [if_neg (fun q => hab (nI_inj a31 b31 q)), bu_ok v a b (by omega) ha.1 hb.1]
    obtain ⟨ho, ⟨r2, r1, r3, r45⟩, hg, ⟨C, hC1, hC2⟩, ⟨c, e, hc, he, hc2, hc3, he2, he3, hbelow, hend⟩, hcv, hLL⟩ := id h
    have hbk : bk_ v a b < 256 := Nat.mod_lt _ (by decide)
    obtain ⟨c1, c2, c3⟩ := hC1 _ hbk
    rw [bI_some, fo_spec hbk c1 (ch_len c1 c2), bI_some]
    simp only [jn_]
    cases hfi : (C (bk_ v a b)).find? (ch_is s (nI v) (nI a) (nI b)) with
    | some m =>
      have hm := List.mem_of_find?_eq_some hfi
      have hp := List.find?_some hfi
      have hl := c3 m hm
      obtain ⟨m2, m3⟩ := ch_in _ _ c1 m hm
      unfold ch_is at hp
      simp only [Bool.and_eq_true, decide_eq_true_eq] at hp
      obtain ⟨⟨p1, p2⟩, p3⟩ := hp
      obtain ⟨q4, q5⟩ := r45 m m3 hl
      have e1 : g.1 m = v := cL_v (by omega) (by omega) ((r3 m m3).symm.trans p1)
      obtain ⟨n1, n2, -, -, -, -, -, ef⟩ := hg.2.2.1 m m3 hl
      have e2 : g.2.1 m = a := nI_inj (by omega) a31 (q4.symm.trans p2)
      have e3 : g.2.2.1 m = b := nI_inj (by omega) b31 (q5.symm.trans p3)
      rw [e1, e2, e3] at ef
      refine ⟨m, s, g, ?_, h, ex_rf s g, ⟨m3, by omega⟩, ef, by rw [e1]; exact Nat.le_refl _⟩
      dsimp only
      rw [if_neg (nI_ne0 (by omega) (by omega))]
    | none =>
      have hno : ∀ m, gk_ g m → ¬ (g.1 m = v ∧ g.2.1 m = a ∧ g.2.2.1 m = b) := by
        intro m hm ⟨e1, e2, e3⟩
        have hl : g.1 m < 8 := by omega
        have hin := hC2 m hm.1 hl (by rw [e1]; exact hP)
        rw [e1, e2, e3] at hin
        have := List.find?_eq_none.mp hfi m hin
        apply this
        obtain ⟨q4, q5⟩ := r45 m hm.1 hl
        unfold ch_is
        rw [r3 m hm.1, q4, q5, e1, e2, e3, cL_lt (by omega)]
        simp
      obtain ⟨n0, hn0⟩ := cv_free ho hg hcv hLL
      obtain ⟨f, ⟨f2, f3, f4⟩, fl⟩ := pk_least (fun n => 2 ≤ n ∧ n < 2048 ∧ g.1 n = 9) ⟨n0, hn0⟩
      have hlow : ∀ n, 2 ≤ n → n < f → g.1 n ≠ 9 := fun n h2 hn q => fl n hn ⟨h2, by omega, q⟩
      have hcf : c ≤ f := Nat.le_of_not_lt fun q => hbelow f f2 q f4
      obtain ⟨S1, S2⟩ := ad_sg h hv ha hb la lb hab hno hL f2 f3 f4 hlow he he2 he3 hend
      refine ⟨f, _, _, ?_, S1, S2, ⟨f3, ?_⟩, (gh_new g f v a b).2.2.2, by rw [(gh_new g f v a b).1]; exact Nat.le_refl _⟩
      · dsimp only
        rw [if_pos rfl, ad_ok hbk hc he he3 f3 hcf (by rw [r3 f f3, f4]; rfl) (fun j hj hj2 => by
          rw [r3 j (by omega)]
          have hj9 := hlow j (by omega) hj2
          rcases hg.2.1 j (by omega) (by omega) with q | q
          · exact absurd q hj9
          · exact cL_ne (by omega))]
        rfl
      · rw [(gh_new g f v a b).1]; omega
