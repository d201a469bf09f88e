/-! What is asked of registers: truth, same, count, least, depends; of class and reference. My own. -/
def z0_ (t : wt_M) : wt_M := (pu_S t.1 9 0 0, t.2)
theorem z0_mo {t : wt_M} {F : Nat → mb_F} {o : Nat → Nat} (h : mo_ t F o) : mo_ (z0_ t) F o := ⟨fun r hr x hx => h.1 r hr x hx, fun j hj => by show pu_S t.1 9 0 0 0 j = _; rw [pu_row (by decide)]; exact h.2.1 j hj, fun v hv => h.2.2 v hv⟩
theorem z0_c (t : wt_M) : (z0_ t).1 9 0 = 0 := by
  show pu_S t.1 9 0 0 9 0 = 0
  exact pu_eq _ _ _ _
variable {t : wt_M} {F : Nat → mb_F} {o : Nat → Nat}
theorem tr_m (h : mo_ t F o) {a x : Nat} (ha : a < 16) (hx : x < 256) : fm_truth t (nI a) (nI x) = some (nI (F a x.testBit).toNat, z0_ t) := by
  rw [fm_truth, mir_ok ha, bI_some, jn_, if_neg one_ne, show fm_in (nI x) (0 : Int32) (255 : Int32) = some 1 from min_ok (b := 0) (c := 255) (Nat.zero_le _) (by omega) (by decide), bI_some, if_neg one_ne]
  show sp_T t 0 (0 : Int32) _ = _
  rw [sp_T]
  show jn_ _ _ = _
  rw [jn_, jn_]
  show (if (z0_ t).1 9 0 = (0 : Int32) then b_I (fm_value (z0_ t) (nI a) (nI x)) _ else _) = _
  rw [if_pos (z0_c t), mv_ok (z0_ t) (by omega) hx, bI_some, (z0_mo h).1 a ha x hx]
  cases F a x.testBit
  · rw [if_pos (show nI false.toNat = (0 : Int32) from nI_0)]
    show rz_ (nI false.toNat) _ = _
    unfold rz_
    rw [if_pos (by decide)]
    rfl
  · rw [if_neg (show ¬ nI true.toNat = (0 : Int32) by decide)]
    show rz_ (nI true.toNat) _ = _
    unfold rz_
    rw [if_pos (by decide)]
    rfl
theorem sa_loop {a b : Nat} (ha : a < 16) (hb : b < 16) (h : mo_ t F o) (K : Int32 → Option (Int32 × wt_M)) : ∀ (d n i : Nat) (acc r : Bool), i + d = 256 → d < n → (r = true ↔ acc = true ∧ ∀ x, i ≤ x → x < 256 → F a x.testBit = F b x.testBit) → fm_same_L39 t (nI a) (nI b) K n (nI acc.toNat) (nI i) = K (nI r.toNat) := by
  intro d
  induction d with
  | zero =>
    intro n i acc r h1 hn hr
    cases n with
    | zero => omega
    | succ n =>
      have e : i = 256 := by omega
      subst e
      have : r = acc := Bool.eq_iff_iff.mpr (hr.trans ⟨fun q => q.1, fun q => ⟨q, fun x h2 h3 => by omega⟩⟩)
      rw [fm_same_L39, if_pos t256, this]
  | succ d ih =>
    intro n i acc r h1 hn hr
    cases n with
    | zero => omega
    | succ n =>
      rw [fm_same_L39, if_neg (n256 (by omega))]
      cases acc with
      | false =>
        have : r = false := by
          cases r
          · rfl
          · exact absurd (hr.mp rfl).1 (by decide)
        rw [if_pos (show nI false.toNat = (0 : Int32) from nI_0), this]
      | true =>
        rw [if_neg (show ¬ nI true.toNat = (0 : Int32) by decide), mv_ok t (by omega) (by omega), bI_some, mv_ok t (by omega) (by omega), bI_some, h.1 a ha i (by omega), h.1 b hb i (by omega), jn_]
        by_cases c : F a i.testBit = F b i.testBit
        · rw [if_pos (by rw [c])]
          show fm_same_L39 t (nI a) (nI b) K n (nI true.toNat) (nI i + 1) = _
          rw [nI_1]
          refine ih n (i + 1) true r (by omega) (by omega) (hr.trans ⟨fun q => ⟨rfl, fun x h2 h3 => q.2 x (by omega) h3⟩, fun q => ⟨rfl, fun x h2 h3 => ?_⟩⟩)
          by_cases e : x = i
          · rw [e]; exact c
          · exact q.2 x (by omega) h3
        · rw [if_neg (fun z => c (by
            cases h1 : F a i.testBit <;> cases h2 : F b i.testBit <;> rw [h1, h2] at z <;> first | rfl | exact absurd z (by decide)))]
          show fm_same_L39 t (nI a) (nI b) K n (nI false.toNat) (nI i + 1) = _
          rw [nI_1]
          exact ih n (i + 1) false r (by omega) (by omega) (hr.trans ⟨fun q => absurd (q.2 i (Nat.le_refl _) (by omega)) c, fun q => absurd q.1 (by decide)⟩)
theorem sa_m (h : mo_ t F o) {a b : Nat} (ha : a < 16) (hb : b < 16) {r : Bool} (hr : r = true ↔ ∀ x, x < 256 → F a x.testBit = F b x.testBit) : fm_same t (nI a) (nI b) = some (nI r.toNat, z0_ t) := by
  rw [fm_same, mir_ok ha, bI_some, jn_, jn_, if_neg one_ne, mir_ok hb, bI_some, if_neg one_ne]
  show sp_T t 0 (0 : Int32) _ = _
  rw [sp_T]
  show jn_ _ _ = _
  rw [jn_]
  show (if (z0_ t).1 9 0 = (0 : Int32) then fm_same_L39 (z0_ t) (nI a) (nI b) _ 5000 (nI true.toNat) (nI 0) else _) = _
  rw [if_pos (z0_c t), sa_loop ha hb (z0_mo h) _ 256 5000 0 true r (by omega) (by omega) (hr.trans ⟨fun q => ⟨rfl, fun x _ hx => q x hx⟩, fun q x hx => q.2 x (Nat.zero_le _) hx⟩)]
  unfold rz_
  rw [if_pos (by cases r <;> decide)]
  rfl
def sm_s (f : Nat → Nat) : Nat → Nat
  | 0 => 0
  | n + 1 => sm_s f n + f n
theorem sm_add (f : Nat → Nat) (m : Nat) : ∀ n, sm_s f (m + n) = sm_s f m + sm_s (fun x => f (m + x)) n := by
  intro n
  induction n with
  | zero => rfl
  | succ n ih =>
    show sm_s f (m + n) + f (m + n) = sm_s f m + (sm_s (fun x => f (m + x)) n + f (m + n))
    rw [ih]
    omega
theorem sm_cong {f g : Nat → Nat} : ∀ n, (∀ x, x < n → f x = g x) → sm_s f n = sm_s g n := by
  intro n
  induction n with
  | zero => intro _; rfl
  | succ n ih =>
    intro h
    show sm_s f n + f n = sm_s g n + g n
    rw [ih (fun x hx => h x (by omega)), h n (by omega)]
theorem cn_sum (f : mb_F) : ∀ (k : Nat) (a : mb_V), sm_s (fun x => (f (fun j => if j < k then x.testBit j else a j)).toNat) (2 ^ k) = cn_ k f a := by
  intro k
  induction k with
  | zero =>
    intro a
    show 0 + _ = (f a).toNat
    rw [Nat.zero_add]
    rfl
  | succ k ih =>
    intro a
    show _ = cn_ k f (mb_up a k false) + cn_ k f (mb_up a k true)
    rw [show 2 ^ (k + 1) = 2 ^ k + 2 ^ k by rw [Nat.pow_succ]; omega, sm_add, ← ih (mb_up a k false), ← ih (mb_up a k true)]
    congr 1
    · refine sm_cong _ fun x hx => ?_
      congr 2
      funext j
      by_cases c : j < k
      · rw [if_pos c, if_pos (by omega)]
      · rw [if_neg c]
        by_cases d : j = k
        · subst d; rw [if_pos (by omega), mb_up_eq, Nat.testBit_lt_two_pow hx]
        · rw [if_neg (by omega), mb_up_ne d]
    · refine sm_cong _ fun x hx => ?_
      congr 2
      funext j
      by_cases c : j < k
      · rw [if_pos c, if_pos (by omega), Nat.testBit_two_pow_add_gt c]
      · rw [if_neg c]
        by_cases d : j = k
        · subst d; rw [if_pos (by omega), mb_up_eq, Nat.testBit_two_pow_add_eq, Nat.testBit_lt_two_pow hx]; rfl
        · rw [if_neg (by omega), mb_up_ne d]
theorem ct_sum (f : mb_F) : sm_s (fun x => (f x.testBit).toNat) 256 = ct_8 f := by
  unfold ct_8
  rw [← cn_sum f 8]
  refine sm_cong _ fun x hx => ?_
  congr 2
  funext j
  by_cases c : j < 8
  · rw [if_pos c]
  · rw [if_neg c, tb_big hx (by omega)]
theorem ct_loop {a : Nat} (ha : a < 16) (h : mo_ t F o) (hc : t.1 9 0 = 0) (K : Int32 → Option (Int32 × wt_M)) : ∀ (d n i : Nat), i + d = 256 → d < n → fm_count_L20 t (nI a) K n (nI (sm_s (fun x => (F a x.testBit).toNat) i)) (nI i) = K (nI (sm_s (fun x => (F a x.testBit).toNat) 256)) := by
  intro d
  induction d with
  | zero =>
    intro n i h1 hn
    cases n with
    | zero => omega
    | succ n =>
      have e : i = 256 := by omega
      subst e
      rw [fm_count_L20, if_pos t256]
  | succ d ih =>
    intro n i h1 hn
    cases n with
    | zero => omega
    | succ n =>
      rw [fm_count_L20, if_neg (n256 (by omega)), if_pos hc, mv_ok t (by omega) (by omega), bI_some, h.1 a ha i (by omega), jn_]
      have st : ∀ b : Bool, b = F a i.testBit → fm_count_L20 t (nI a) K n (nI (sm_s (fun x => (F a x.testBit).toNat) i) + nI b.toNat) (nI i + 1) = K (nI (sm_s (fun x => (F a x.testBit).toNat) 256)) := by
        intro b hb
        rw [nI_add, nI_1, hb]
        exact ih n (i + 1) (by omega) (by omega)
      cases e : F a i.testBit
      · rw [if_pos (show nI false.toNat = (0 : Int32) from nI_0)]
        exact st false e.symm
      · rw [if_neg (show ¬ nI true.toNat = (0 : Int32) by decide)]
        exact st true e.symm
theorem co_m (h : mo_ t F o) {a : Nat} (ha : a < 16) : fm_count t (nI a) = some (nI (ct_8 (F a)), z0_ t) := by
  rw [fm_count, mir_ok ha, bI_some, jn_, if_neg one_ne]
  show sp_T t 0 (0 : Int32) _ = _
  rw [sp_T]
  show fm_count_L20 (z0_ t) (nI a) _ 5000 (nI 0) (nI 0) = _
  have := ct_loop ha (z0_mo h) (z0_c t) (fun (z2_20 : Int32) => some (z2_20, z0_ t)) 256 5000 0 (by omega) (by omega)
  rw [ct_sum] at this
  exact this
