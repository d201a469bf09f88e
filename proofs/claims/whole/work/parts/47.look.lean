/-! value, weight, support. My own. -/
theorem va_loop {s : wt_S} {lev at_ : Nat → Nat} {g : gh_} {x : Nat} (hx : x < 256) (ho : or_ lev at_) (hr : rp_ s lev at_ g) (hg : gi_ lev g) (K : Int32 → Option Int32) : ∀ (n k m : Nat), gk_ g m → k ≤ lev (g.1 m) → 9 ≤ n + k → k ≤ 8 → fd_value_L5 s (nI x) K n (nI m) (nI k) = K (nI (g.2.2.2 m x.testBit).toNat) := by
  have leaf : ∀ m, m < 2 → nI m = nI (g.2.2.2 m x.testBit).toNat := by
    intro m q
    rw [(gi_leaf hg q).2.2]
    rcases (show m = 0 ∨ m = 1 by omega) with rfl | rfl <;> rfl
  intro n
  induction n with
  | zero => intro k m hm hk hn h8; omega
  | succ n ih =>
    intro k m hm hk hn h8
    have m31 : m < 2 ^ 31 := Nat.lt_trans hm.1 (by decide)
    rw [fd_value_L5]
    simp only [jn_]
    by_cases q8 : k = 8
    · subst q8
      rw [if_pos (show (8 : Int32) ≤ nI 8 by decide)]
      have q : m < 2 := by
        rcases gi_lab hg hm with c | c
        · have := (ho.1 _ c).1; omega
        · exact c.1
      rw [← leaf m q]
    · rw [if_neg (show ¬ (8 : Int32) ≤ nI k from nI_ge (b := 8) (by omega) (by decide))]
      by_cases ql : m ≤ 1
      · rw [if_pos (show nI m ≤ (1 : Int32) from nI_le (b := 1) ql (by decide)), ← leaf m (by omega)]
      · rw [if_neg (show ¬ nI m ≤ (1 : Int32) from nI_ge (a := 1) (by omega) m31)]
        have gm := gi_big hg hm (by omega)
        obtain ⟨n1, n2, -, -, l1, l2, -, e⟩ := hg.2.2.1 m hm.1 gm
        obtain ⟨k1, k2⟩ := gi_lo hg hm.1 gm
        rw [rc_at hm.1 (by decide), rp_lab hg hr hm, rc_at hm.1 (by decide), rc_at hm.1 (by decide), (hr.2.2.2 m hm.1 gm).1, (hr.2.2.2 m hm.1 gm).2, nI_1]
        cases hb : x.testBit (g.1 m) with
        | false =>
          rw [if_pos ((ma_bit x hx _ gm).mpr hb), ih (k + 1) _ k1 (by omega) (by omega) (by omega), e]
          unfold mb_mx
          rw [hb]
          rfl
        | true =>
          rw [if_neg (fun c => by rw [(ma_bit x hx _ gm).mp c] at hb; cases hb), ih (k + 1) _ k2 (by omega) (by omega) (by omega), e]
          unfold mb_mx
          rw [hb]
          rfl
theorem va_ok {s : wt_S} {lev at_ : Nat → Nat} {g : gh_} {x a : Nat} (hx : x < 256) (ho : or_ lev at_) (hr : rp_ s lev at_ g) (hg : gi_ lev g) (ha : gk_ g a) : fd_value s (nI a) (nI x) = some (nI (g.2.2.2 a x.testBit).toNat) := by
  unfold fd_value
  have h := va_loop hx ho hr hg (fun z => jn_ (fun (y0_62 : Int32) => rz_ y0_62 (some y0_62)) fun j62 => if z = 1 then j62 1 else j62 0) 5000 0 a ha (Nat.zero_le _) (by omega) (by omega)
  rw [nI_0] at h
  rw [h]
  cases g.2.2.2 a x.testBit <;> decide +kernel
/-- how many assignments of the first k variables, the rest as in a -/
def cn_ : Nat → mb_F → mb_V → Nat
  | 0, f, a => (f a).toNat
  | k + 1, f, a => cn_ k f (mb_up a k false) + cn_ k f (mb_up a k true)
theorem cn_congr : ∀ (k : Nat) (f g : mb_F) (a b : mb_V), (∀ x y : mb_V, (∀ w, w < k → x w = y w) → (∀ w, k ≤ w → x w = a w) → (∀ w, k ≤ w → y w = b w) → f x = g y) → cn_ k f a = cn_ k g b := by
  intro k
  induction k with
  | zero =>
    intro f g a b h
    show (f a).toNat = (g b).toNat
    rw [h a b (fun w hw => by omega) (fun _ _ => rfl) (fun _ _ => rfl)]
  | succ k ih =>
    intro f g a b h
    have part : ∀ c : Bool, cn_ k f (mb_up a k c) = cn_ k g (mb_up b k c) := by
      intro c
      refine ih f g _ _ (fun x y h1 h2 h3 => h x y (fun w hw => ?_) (fun w hw => ?_) (fun w hw => ?_))
      · rcases Nat.lt_or_eq_of_le (Nat.le_of_lt_succ hw) with q | q
        · exact h1 w q
        · subst q; rw [h2 w (Nat.le_refl _), h3 w (Nat.le_refl _), mb_up_eq, mb_up_eq]
      · rw [h2 w (by omega), mb_up_ne (by omega)]
      · rw [h3 w (by omega), mb_up_ne (by omega)]
    show cn_ k f (mb_up a k false) + cn_ k f (mb_up a k true) = cn_ k g (mb_up b k false) + cn_ k g (mb_up b k true)
    rw [part, part]
theorem cn_mx {v : Nat} {f g : mb_F} (hf : mb_in f v) (hg : mb_in g v) : ∀ (k : Nat) (a : mb_V), v < k → 2 * cn_ k (mb_mx v f g) a = cn_ k f a + cn_ k g a := by
  intro k
  induction k with
  | zero => intro a h; omega
  | succ k ih =>
    intro a h
    show 2 * (cn_ k (mb_mx v f g) (mb_up a k false) + cn_ k (mb_mx v f g) (mb_up a k true)) = (cn_ k f (mb_up a k false) + cn_ k f (mb_up a k true)) + (cn_ k g (mb_up a k false) + cn_ k g (mb_up a k true))
    rcases Nat.lt_or_eq_of_le (Nat.le_of_lt_succ h) with q | q
    · have h0 := ih (mb_up a k false) q
      have h1 := ih (mb_up a k true) q
      omega
    · subst q
      have e0 : cn_ v (mb_mx v f g) (mb_up a v false) = cn_ v f (mb_up a v false) := cn_congr v _ _ _ _ fun x y h1 h2 h3 => by
        have xy : x = y := by
          funext w
          rcases Nat.lt_or_ge w v with q | q
          · exact h1 w q
          · rw [h2 w q, h3 w q]
        subst xy
        unfold mb_mx
        rw [h2 v (Nat.le_refl _), mb_up_eq]
        rfl
      have e1 : cn_ v (mb_mx v f g) (mb_up a v true) = cn_ v g (mb_up a v true) := cn_congr v _ _ _ _ fun x y h1 h2 h3 => by
        have xy : x = y := by
          funext w
          rcases Nat.lt_or_ge w v with q | q
          · exact h1 w q
          · rw [h2 w q, h3 w q]
        subst xy
        unfold mb_mx
        rw [h2 v (Nat.le_refl _), mb_up_eq]
        rfl
      have sw : ∀ u : mb_F, mb_in u v → cn_ v u (mb_up a v true) = cn_ v u (mb_up a v false) := fun u hu => cn_congr v _ _ _ _ fun x y h1 h2 h3 => by
        have xy : y = mb_up x v false := by
          funext w
          by_cases c : w = v
          · subst c; rw [mb_up_eq, h3 w (Nat.le_refl _), mb_up_eq]
          · rw [mb_up_ne c]
            rcases Nat.lt_or_ge w v with q | q
            · exact (h1 w q).symm
            · rw [h3 w q, h2 w q, mb_up_ne c, mb_up_ne c]
        rw [xy, hu]
      rw [e0, e1, sw f hf, sw g hg]
      omega
theorem cn_le : ∀ (k : Nat) (f : mb_F) (a : mb_V), cn_ k f a ≤ 2 ^ k := by
  intro k
  induction k with
  | zero =>
    intro f a
    show (f a).toNat ≤ 1
    cases f a <;> decide
  | succ k ih =>
    intro f a
    have h0 := ih f (mb_up a k false)
    have h1 := ih f (mb_up a k true)
    show cn_ k f (mb_up a k false) + cn_ k f (mb_up a k true) ≤ 2 ^ (k + 1)
    omega
theorem cn_const (b : Bool) : ∀ (k : Nat) (a : mb_V), cn_ k (fun _ => b) a = b.toNat * 2 ^ k := by
  intro k
  induction k with
  | zero => intro a; show b.toNat = _; omega
  | succ k ih =>
    intro a
    show cn_ k (fun _ => b) (mb_up a k false) + cn_ k (fun _ => b) (mb_up a k true) = _
    rw [ih, ih, Nat.pow_succ, ← Nat.mul_assoc]
    omega
def ct_8 (f : mb_F) : Nat := cn_ 8 f (fun _ => false)
theorem we_ok {s : wt_S} {lev at_ : Nat → Nat} {g : gh_} (ho : or_ lev at_) (hr : rp_ s lev at_ g) (hg : gi_ lev g) : ∀ (n d a : Nat), gk_ g a → d ≤ lev (g.1 a) → 9 ≤ n + d → fd_weight n s (nI a) (nI d) = some (nI (ct_8 (g.2.2.2 a))) := by
  intro n
  induction n with
  | zero =>
    intro d a ha hd hn
    have := or_le ho (gi_lab8 hg ha)
    omega
  | succ n ih =>
    intro d a ha hd hn
    have a31 : a < 2 ^ 31 := Nat.lt_trans ha.1 (by decide)
    rw [fd_weight]
    simp only [jn_]
    by_cases ql : a ≤ 1
    · rw [if_pos (show nI a ≤ (1 : Int32) from nI_le (b := 1) ql (by decide)), (gi_leaf hg (show a < 2 by omega)).2.2]
      rcases (show a = 0 ∨ a = 1 by omega) with rfl | rfl
      · rw [if_neg (by decide)]
        unfold ct_8
        rw [show (fun _ => decide ((0 : Nat) = 1) : mb_F) = fun _ => false from rfl, cn_const]
        rfl
      · rw [if_pos (by decide)]
        unfold ct_8
        rw [show (fun _ => decide ((1 : Nat) = 1) : mb_F) = fun _ => true from rfl, cn_const]
        rfl
    · have ga := gi_big hg ha (by omega)
      have la8 := (ho.1 _ ga).1
      obtain ⟨n1, n2, -, -, l1, l2, -, e⟩ := hg.2.2.1 a ha.1 ga
      obtain ⟨k1, k2⟩ := gi_lo hg ha.1 ga
      rw [if_neg (show ¬ nI a ≤ (1 : Int32) from nI_ge (a := 1) (by omega) a31), if_pos (show nI d < (8 : Int32) from nI_lt (b := 8) (by omega) (by decide)), rc_at ha.1 (by decide), (hr.2.2.2 a ha.1 ga).1, nI_1, ih (d + 1) _ k1 (by omega) (by omega), bI_some, rc_at ha.1 (by decide), (hr.2.2.2 a ha.1 ga).2, ih (d + 1) _ k2 (by omega) (by omega), bI_some]
      have q1 := cn_mx (gi_abv ho hg k1 l1) (gi_abv ho hg k2 l2) 8 (fun _ => false) ga
      rw [← e] at q1
      have b1 := cn_le 8 (g.2.2.2 (g.2.1 a)) (fun _ => false)
      have b2 := cn_le 8 (g.2.2.2 (g.2.2.1 a)) (fun _ => false)
      unfold ct_8
      rw [nI_add, show (2 : Int32) = nI 2 from rfl, pk_div (by omega) (by decide) (by decide), ← q1, Nat.mul_div_cancel_left _ (by decide)]
theorem b1_shl : ∀ v, v < 8 → ((1 : Int32) <<< (nI v &&& 31)) = nI (2 ^ v) := by decide +kernel
theorem nI_or (a b : Nat) : nI a ||| nI b = nI (a ||| b) := by
  apply Int32.toBitVec_inj.mp
  show BitVec.ofNat 32 a ||| BitVec.ofNat 32 b = BitVec.ofNat 32 (a ||| b)
  rw [BitVec.ofNat_or]
/-- the bits of a number are the variables that f asks -/
def su_ (f : mb_F) (S : Nat) : Prop := S < 256 ∧ ∀ v, v < 8 → (S.testBit v = true ↔ ¬ mb_in f v)
theorem su_eq {f : mb_F} {S T : Nat} (h : su_ f S) (k : su_ f T) : S = T := by
  apply Nat.eq_of_testBit_eq
  intro i
  rcases Nat.lt_or_ge i 8 with q | q
  · exact Bool.eq_iff_iff.mpr ((h.2 i q).trans (k.2 i q).symm)
  · rw [Nat.testBit_lt_two_pow (Nat.lt_of_lt_of_le h.1 (show 2 ^ 8 ≤ 2 ^ i from Nat.pow_le_pow_right (by decide) q)), Nat.testBit_lt_two_pow (Nat.lt_of_lt_of_le k.1 (show 2 ^ 8 ≤ 2 ^ i from Nat.pow_le_pow_right (by decide) q))]
theorem mb_asks_mx {v w : Nat} {f g : mb_F} (hw : w ≠ v) (hf : mb_in f v) (hg : mb_in g v) : ¬ mb_in (mb_mx v f g) w ↔ ¬ mb_in f w ∨ ¬ mb_in g w := by
  constructor
  · intro h
    apply Classical.byContradiction
    intro c
    rw [not_or, Classical.not_not, Classical.not_not] at c
    exact h (mb_in_mx hw c.1 c.2)
  · rintro (h | h) c
    · apply h
      have e := mb_cf_mx0 (g := g) hf
      rw [← e]
      exact mb_in_cf2 _ c
    · apply h
      have e := mb_cf_mx1 (f := f) hg
      rw [← e]
      exact mb_in_cf2 _ c
theorem sp_ok {s : wt_S} {lev at_ : Nat → Nat} {g : gh_} (ho : or_ lev at_) (hr : rp_ s lev at_ g) (hg : gi_ lev g) : ∀ (n d a : Nat), gk_ g a → d ≤ lev (g.1 a) → 9 ≤ n + d → ∃ S, su_ (g.2.2.2 a) S ∧ fd_support n s (nI a) (nI d) = some (nI S) := by
  intro n
  induction n with
  | zero =>
    intro d a ha hd hn
    have := or_le ho (gi_lab8 hg ha)
    omega
  | succ n ih =>
    intro d a ha hd hn
    have a31 : a < 2 ^ 31 := Nat.lt_trans ha.1 (by decide)
    rw [fd_support]
    simp only [jn_]
    by_cases ql : a ≤ 1
    · rw [if_pos (show nI a ≤ (1 : Int32) from nI_le (b := 1) ql (by decide))]
      refine ⟨0, ⟨by decide, fun v _ => ?_⟩, by rw [nI_0]⟩
      rw [(gi_leaf hg (show a < 2 by omega)).2.2, Nat.zero_testBit]
      exact ⟨fun c => (by cases c), fun c => absurd (fun _ _ => rfl) c⟩
    · have ga := gi_big hg ha (by omega)
      have la8 := (ho.1 _ ga).1
      obtain ⟨n1, n2, -, -, l1, l2, -, e⟩ := hg.2.2.1 a ha.1 ga
      obtain ⟨k1, k2⟩ := gi_lo hg ha.1 ga
      obtain ⟨S1, s1, e1⟩ := ih (d + 1) _ k1 (by omega) (by omega)
      obtain ⟨S2, s2, e2⟩ := ih (d + 1) _ k2 (by omega) (by omega)
      rw [if_neg (show ¬ nI a ≤ (1 : Int32) from nI_ge (a := 1) (by omega) a31), if_pos (show nI d < (8 : Int32) from nI_lt (b := 8) (by omega) (by decide)), rc_at ha.1 (by decide), rp_lab hg hr ha, rc_at ha.1 (by decide), (hr.2.2.2 a ha.1 ga).1, nI_1, e1, bI_some, rc_at ha.1 (by decide), (hr.2.2.2 a ha.1 ga).2, e2, bI_some, b1_shl _ ga, nI_or, nI_or]
      refine ⟨_, ⟨?_, fun w hw => ?_⟩, rfl⟩
      · have : 2 ^ g.1 a < 256 := Nat.pow_lt_pow_right (n := 8) (by decide) ga
        exact Nat.or_lt_two_pow (n := 8) (Nat.or_lt_two_pow (n := 8) this s1.1) s2.1
      · rw [Nat.testBit_or, Nat.testBit_or, Nat.testBit_two_pow, Bool.or_eq_true, Bool.or_eq_true, decide_eq_true_eq, s1.2 w hw, s2.2 w hw]
        by_cases c : w = g.1 a
        · subst c
          exact ⟨fun _ => gi_asks ho hg ha.1 ga, fun _ => Or.inl (Or.inl rfl)⟩
        · rw [e, mb_asks_mx c (gi_abv ho hg k1 l1) (gi_abv ho hg k2 l2)]
          constructor
          · rintro ((q | q) | q)
            · exact absurd q.symm c
            · exact Or.inl q
            · exact Or.inr q
          · rintro (q | q)
            · exact Or.inl (Or.inr q)
            · exact Or.inr q
