/-! least and depends of the reference; the class's answers. My own. -/
def lf_ (p : Nat → Bool) : Nat → Int32 → Int32
  | 0, acc => acc
  | i + 1, acc => lf_ p i (if p i then nI i else acc)
def la_ (p : Nat → Bool) : Nat → Nat → Int32
  | 0, _ => -1
  | d + 1, i => if p i then nI i else la_ p d (i + 1)
theorem la_lf (p : Nat → Bool) : ∀ (d i : Nat), i + d = 256 → lf_ p 256 (-1) = lf_ p i (la_ p d i) := by
  intro d
  induction d with
  | zero =>
    intro i h
    have : i = 256 := by omega
    subst this
    rfl
  | succ d ih =>
    intro i h
    rw [ih (i + 1) (by omega)]
    rfl
theorem la_eq (p : Nat → Bool) : lf_ p 256 (-1) = la_ p 256 0 := la_lf p 256 0 (by omega)
variable {t : wt_M} {F : Nat → mb_F} {o : Nat → Nat}
theorem le_loop {a : Nat} (ha : a < 16) (h : mo_ t F o) (hc : t.1 9 0 = 0) (K : Int32 → Option (Int32 × wt_M)) : ∀ (i n : Nat) (acc : Int32), i ≤ 256 → i < n → fm_least_L22 t (nI a) K n acc (nI i + (-1)) = K (lf_ (fun x => F a x.testBit) i acc) := by
  intro i
  induction i with
  | zero =>
    intro n acc h1 hn
    cases n with
    | zero => omega
    | succ n =>
      rw [fm_least_L22, if_pos (by decide)]
      rfl
  | succ i ih =>
    intro n acc h1 hn
    cases n with
    | zero => omega
    | succ n =>
      rw [pk_m1, fm_least_L22, if_neg (nI_pos (by omega)), if_pos hc, mv_ok t (by omega) (by omega), bI_some, h.1 a ha i (by omega), jn_]
      show _ = K (lf_ (fun x => F a x.testBit) i (if F a i.testBit then nI i else acc))
      cases e : F a i.testBit
      · rw [if_pos (show nI false.toNat = (0 : Int32) from nI_0)]
        exact ih n acc (by omega) (by omega)
      · rw [if_neg (show ¬ nI true.toNat = (0 : Int32) by decide)]
        exact ih n (nI i) (by omega) (by omega)
theorem le_m (h : mo_ t F o) {a : Nat} (ha : a < 16) : fm_least t (nI a) = some (la_ (fun x => F a x.testBit) 256 0, z0_ t) := by
  rw [fm_least, mir_ok ha, bI_some, jn_, if_neg one_ne]
  show sp_T t 0 (0 : Int32) _ = _
  rw [sp_T]
  have e := le_loop ha (z0_mo h) (z0_c t) (fun (z2_22 : Int32) => jn_ (fun (y0_66 : Int32) => some (y0_66, z0_ t)) fun j66 => if ((z0_ t).1 9 0) ≤ (0 : Int32) then j66 z2_22 else j66 (0 : Int32)) 256 5000 (-1) (Nat.le_refl _) (by omega)
  rw [show nI 256 + (-1) = (255 : Int32) by decide] at e
  show fm_least_L22 (z0_ t) (nI a) _ 5000 (-1) 255 = _
  refine e.trans ?_
  rw [jn_, if_pos (by rw [z0_c]; decide), la_eq]
theorem xb_bit (x v j : Nat) : (x ^^^ 2 ^ v).testBit j = mb_up x.testBit v (!x.testBit v) j := by
  rw [Nat.testBit_xor, Nat.testBit_two_pow]
  by_cases c : j = v
  · subst c; rw [mb_up_eq]; simp
  · rw [mb_up_ne c]
    simp [Ne.symm c]
theorem in_iff {f : mb_F} (hf : mb_on f (fun v => v < 8)) (v : Nat) : ¬ mb_in f v ↔ ∃ x, x < 256 ∧ f x.testBit ≠ f (x ^^^ 2 ^ v).testBit := by
  constructor
  · intro h
    apply Classical.byContradiction
    intro no
    apply h
    intro a b
    apply Classical.byContradiction
    intro ne
    apply no
    have xb := nb_bit a 8
    have xl := nb_lt a 8
    have e1 : f (nb_ a 8).testBit = f a := hf _ _ fun w hw => by rw [xb w, decide_eq_true hw, Bool.true_and]
    have hb : b = !a v := by
      cases h1 : b <;> cases h2 : a v <;> first | rfl | (exfalso; apply ne; rw [h1, ← h2, mb_up_self])
    have e2 : f (nb_ a 8 ^^^ 2 ^ v).testBit = f (mb_up a v b) := by
      rcases Nat.lt_or_ge v 8 with c | c
      · refine hf _ _ fun w hw => ?_
        rw [xb_bit]
        by_cases d : w = v
        · subst d; rw [mb_up_eq, mb_up_eq, xb w, decide_eq_true hw, Bool.true_and, hb]
        · rw [mb_up_ne d, mb_up_ne d, xb w, decide_eq_true hw, Bool.true_and]
      · refine hf _ _ fun w hw => ?_
        have d : w ≠ v := by omega
        rw [xb_bit, mb_up_ne d, mb_up_ne d, xb w, decide_eq_true hw, Bool.true_and]
    exact ⟨nb_ a 8, xl, by rw [e1, e2]; exact fun z => ne z.symm⟩
  · rintro ⟨x, -, hx⟩ c
    apply hx
    rw [show (x ^^^ 2 ^ v).testBit = mb_up x.testBit v (!x.testBit v) from funext (xb_bit x v), c]
theorem dp_loop {a v : Nat} (ha : a < 16) (hv : v < 8) (h : mo_ t F o) (K : Int32 → Option Int32) : ∀ (d n i A : Nat) (p : Bool), i + d = 256 → d < n → (p = true ↔ ∃ x, i ≤ x ∧ x < 256 ∧ F a x.testBit ≠ F a (x ^^^ 2 ^ v).testBit) → fm_dependsOn_L13 t (nI a) (nI v) K n (nI A) (nI i) = K (nI (A ||| (if p then 2 ^ v else 0))) := by
  intro d
  induction d with
  | zero =>
    intro n i A p h1 hn hp
    cases n with
    | zero => omega
    | succ n =>
      have e : i = 256 := by omega
      subst e
      have : p = false := by
        cases p
        · rfl
        · obtain ⟨x, h2, h3, -⟩ := hp.mp rfl
          omega
      rw [fm_dependsOn_L13, if_pos t256, this, if_neg (by decide), Nat.or_zero]
  | succ d ih =>
    intro n i A p h1 hn hp
    cases n with
    | zero => omega
    | succ n =>
      have xl : i ^^^ 2 ^ v < 256 := Nat.xor_lt_two_pow (n := 8) (by omega) (Nat.pow_lt_pow_right (by decide) hv)
      rw [fm_dependsOn_L13, if_neg (n256 (by omega)), mv_ok t (by omega) (by omega), bI_some, b1_shl v hv, nI_xor, mv_ok t (by omega) xl, bI_some, h.1 a ha i (by omega), h.1 a ha _ xl, jn_]
      by_cases c : F a i.testBit = F a (i ^^^ 2 ^ v).testBit
      · rw [if_pos (by rw [c])]
        show fm_dependsOn_L13 t (nI a) (nI v) K n (nI A ||| 0) (nI i + 1) = _
        rw [show (0 : Int32) = nI 0 from nI_0.symm, nI_or, Nat.or_zero, nI_1]
        refine ih n (i + 1) A p (by omega) (by omega) (hp.trans ⟨fun ⟨x, q1, q2, q3⟩ => ⟨x, ?_, q2, q3⟩, fun ⟨x, q1, q2, q3⟩ => ⟨x, by omega, q2, q3⟩⟩)
        have : x ≠ i := fun z => q3 (by rw [z]; exact c)
        omega
      · rw [if_neg (fun z => c (by
          cases h1 : F a i.testBit <;> cases h2 : F a (i ^^^ 2 ^ v).testBit <;> rw [h1, h2] at z <;> first | rfl | exact absurd z (by decide)))]
        show fm_dependsOn_L13 t (nI a) (nI v) K n (nI A ||| nI (2 ^ v)) (nI i + 1) = _
        have pt : p = true := hp.mpr ⟨i, Nat.le_refl _, by omega, c⟩
        rw [nI_or, nI_1, pt, if_pos rfl]
        have key : ∀ p' : Bool, (p' = true ↔ ∃ x, i + 1 ≤ x ∧ x < 256 ∧ F a x.testBit ≠ F a (x ^^^ 2 ^ v).testBit) → fm_dependsOn_L13 t (nI a) (nI v) K n (nI (A ||| 2 ^ v)) (nI (i + 1)) = K (nI (A ||| 2 ^ v)) := by
          intro p' hp'
          rw [ih n (i + 1) (A ||| 2 ^ v) p' (by omega) (by omega) hp']
          cases p'
          · rw [if_neg (by decide), Nat.or_zero]
          · rw [if_pos rfl, Nat.or_assoc, Nat.or_self]
        by_cases q : ∃ x, i + 1 ≤ x ∧ x < 256 ∧ F a x.testBit ≠ F a (x ^^^ 2 ^ v).testBit
        · exact key true ⟨fun _ => q, fun _ => rfl⟩
        · exact key false ⟨fun z => (by cases z), fun z => absurd z q⟩
theorem do_loop {a : Nat} (ha : a < 16) (h : mo_ t F o) (hf : mb_on (F a) (fun v => v < 8)) : ∀ (d n v A : Nat), v + d = 8 → d < n → A < 256 → (∀ j, j < 8 → (A.testBit j = true ↔ j < v ∧ ¬ mb_in (F a) j)) → ∃ S, su_ (F a) S ∧ fm_dependsOn_L4 t (nI a) n (nI A) (nI v) = some (nI S) := by
  intro d
  induction d with
  | zero =>
    intro n v A h1 hn hA hb
    cases n with
    | zero => omega
    | succ n =>
      have e : v = 8 := by omega
      subst e
      rw [fm_dependsOn_L4, if_pos (by decide)]
      exact ⟨A, ⟨hA, fun j hj => (hb j hj).trans ⟨fun q => q.2, fun q => ⟨hj, q⟩⟩⟩, rfl⟩
  | succ d ih =>
    intro n v A h1 hn hA hb
    cases n with
    | zero => omega
    | succ n =>
      have hv : v < 8 := by omega
      rw [fm_dependsOn_L4, if_neg (show ¬ (8 : Int32) ≤ nI v from nI_ge (b := 8) hv (by decide))]
      have go : ∀ p : Bool, (p = true ↔ ¬ mb_in (F a) v) → ∃ S, su_ (F a) S ∧ fm_dependsOn_L13 t (nI a) (nI v) (fun (z2_13 : Int32) => fm_dependsOn_L4 t (nI a) n z2_13 (nI v + 1)) 5000 (nI A) 0 = some (nI S) := by
        intro p hp
        have e := dp_loop ha hv h (fun (z2_13 : Int32) => fm_dependsOn_L4 t (nI a) n z2_13 (nI v + 1)) 256 5000 0 A p (by omega) (by omega) (hp.trans ((in_iff hf v).trans ⟨fun ⟨x, q1, q2⟩ => ⟨x, Nat.zero_le _, q1, q2⟩, fun ⟨x, _, q1, q2⟩ => ⟨x, q1, q2⟩⟩))
        rw [nI_0] at e
        have pw : (if p then 2 ^ v else 0) < 256 := by
          have : 2 ^ v < 2 ^ 8 := Nat.pow_lt_pow_right (by decide) hv
          cases p
          · rw [if_neg (by decide)]; decide
          · exact this
        obtain ⟨S, s1, s2⟩ := ih n (v + 1) (A ||| (if p then 2 ^ v else 0)) (by omega) (by omega) (Nat.or_lt_two_pow (n := 8) hA pw) (fun j hj => by
          rw [Nat.testBit_or, Bool.or_eq_true, hb j hj]
          cases p with
          | false =>
            rw [if_neg (by decide), Nat.zero_testBit]
            refine ⟨fun q => q.elim (fun z => ⟨by omega, z.2⟩) (fun z => by cases z), fun q => Or.inl ⟨?_, q.2⟩⟩
            have : j ≠ v := fun z => by
              have := hp.mpr (z ▸ q.2)
              cases this
            have := q.1
            omega
          | true =>
            rw [if_pos rfl, Nat.testBit_two_pow, decide_eq_true_eq]
            refine ⟨fun q => q.elim (fun z => ⟨by omega, z.2⟩) (fun z => ⟨by omega, z ▸ hp.mp rfl⟩), fun q => ?_⟩
            by_cases z : j = v
            · exact Or.inr z.symm
            · exact Or.inl ⟨by have := q.1; omega, q.2⟩)
        exact ⟨S, s1, by rw [e, nI_1]; exact s2⟩
      by_cases q : ¬ mb_in (F a) v
      · exact go true ⟨fun _ => q, fun _ => rfl⟩
      · exact go false ⟨fun z => (by cases z), fun z => absurd z q⟩
theorem do_m (h : mo_ t F o) {a : Nat} (ha : a < 16) (hf : mb_on (F a) (fun v => v < 8)) : ∃ S, su_ (F a) S ∧ fm_dependsOn t (nI a) = some (nI S) := by
  unfold fm_dependsOn
  obtain ⟨S, s1, s2⟩ := do_loop ha h hf 8 5000 0 0 (by omega) (by omega) (by decide) (fun j _ => by rw [Nat.zero_testBit]; exact ⟨fun z => (by cases z), fun z => by omega⟩)
  rw [nI_0] at s2
  exact ⟨S, s1, s2⟩
theorem de_m (h : mo_ t F o) {a : Nat} (ha : a < 16) (hf : mb_on (F a) (fun v => v < 8)) {S : Nat} (hS : su_ (F a) S) : fm_depends t (nI a) = some (nI S, z0_ t) := by
  obtain ⟨S', s1, s2⟩ := do_m (z0_mo h) ha hf
  have e := su_eq hS s1
  subst e
  rw [fm_depends, mir_ok ha, bI_some, jn_, if_neg one_ne]
  show sp_T t 0 (0 : Int32) _ = _
  rw [sp_T]
  show jn_ _ _ = _
  rw [jn_]
  show (if (z0_ t).1 9 0 ≤ (0 : Int32) then b_I (fm_dependsOn (z0_ t) (nI a)) _ else _) = _
  rw [if_pos (by rw [z0_c]; decide), s2, bI_some]
  rfl
-- the class
variable {s : wt_S} {lev at_ : Nat → Nat} {g : gh_} {rt : Nat → Nat}
theorem tr_x (h : rd0_ s lev at_ g rt F) {a x : Nat} (ha : a < 16) (hx : x < 256) : fx_truth s (nI a) (nI x) = some (nI (F a x.testBit).toNat) := by
  obtain ⟨ka, fa⟩ := rd_gk h ha
  unfold fx_truth
  rw [nr_ok ha, bU_some, show (256 : Int32) = nI 256 from rfl, nb_ok hx (by decide), bU_some, ro_ok h.1 (by omega), bI_some, va_ok hx h.1.1 h.1.2.1 h.1.2.2.1 ka, bI_some, fa]
  unfold rz_
  rw [if_pos (by cases F a x.testBit <;> decide)]
theorem rd_on (h : rd0_ s lev at_ g rt F) {a : Nat} (ha : a < 16) : mb_on (F a) (fun v => v < 8) := by
  obtain ⟨ka, fa⟩ := rd_gk h ha
  rw [← fa]
  exact mb_on_mono (gi_onn h.1.1 h.1.2.2.1 ka) fun v hv => hv.1
theorem on_eq {f g : mb_F} (hf : mb_on f (fun v => v < 8)) (hg : mb_on g (fun v => v < 8)) : f = g ↔ ∀ x, x < 256 → f x.testBit = g x.testBit := by
  constructor
  · intro h x _; rw [h]
  · intro h
    funext a
    have xb := nb_bit a 8
    have xl := nb_lt a 8
    have e1 : f (nb_ a 8).testBit = f a := hf _ _ fun w hw => by rw [xb w, decide_eq_true hw, Bool.true_and]
    have e2 : g (nb_ a 8).testBit = g a := hg _ _ fun w hw => by rw [xb w, decide_eq_true hw, Bool.true_and]
    rw [← e1, ← e2]
    exact h _ xl
theorem sa_x (h : rd0_ s lev at_ g rt F) {a b : Nat} (ha : a < 16) (hb : b < 16) {r : Bool} (hr : r = true ↔ ∀ x, x < 256 → F a x.testBit = F b x.testBit) : fx_same s (nI a) (nI b) = some (nI r.toNat) := by
  obtain ⟨ka, fa⟩ := rd_gk h ha
  obtain ⟨kb, fb⟩ := rd_gk h hb
  have iff : rt a = rt b ↔ r = true := by
    rw [hr, ← on_eq (rd_on h ha) (rd_on h hb), ← fa, ← fb]
    exact ⟨fun z => by rw [z], fun z => h.1.2.2.1.2.2.2 _ _ ka kb z⟩
  have a31 : rt a < 2 ^ 31 := Nat.lt_trans ka.1 (by decide)
  have b31 : rt b < 2 ^ 31 := Nat.lt_trans kb.1 (by decide)
  unfold fx_same
  rw [nr_ok ha, bU_some, nr_ok hb, bU_some, ro_ok h.1 (by omega), bI_some, ro_ok h.1 (by omega), bI_some, jn_]
  cases r
  · rw [if_neg (fun z => by cases (iff.mp (nI_inj a31 b31 z)))]
    show rz_ (0 : Int32) (some 0) = _
    unfold rz_
    rw [if_pos (by decide)]
    rfl
  · rw [if_pos (congrArg nI (iff.mpr rfl))]
    show rz_ (1 : Int32) (some 1) = _
    unfold rz_
    rw [if_pos (by decide)]
    rfl
theorem co_x (h : rd0_ s lev at_ g rt F) {a : Nat} (ha : a < 16) : fx_count s (nI a) = some (nI (ct_8 (F a))) := by
  obtain ⟨ka, fa⟩ := rd_gk h ha
  have w := we_ok h.1.1 h.1.2.1 h.1.2.2.1 9 0 (rt a) ka (Nat.zero_le _) (by omega)
  rw [nI_0] at w
  unfold fx_count
  rw [nr_ok ha, bU_some, ro_ok h.1 (by omega), bI_some, w, bI_some, fa]
theorem le_xl (h : rd0_ s lev at_ g rt F) {a : Nat} (ha : a < 16) : ∀ (d n i : Nat), i + d = 256 → d < n → fx_least_L15 s (nI (rt a)) n (nI i) = some (la_ (fun x => F a x.testBit) d i) := by
  obtain ⟨ka, fa⟩ := rd_gk h ha
  intro d
  induction d with
  | zero =>
    intro n i h1 hn
    cases n with
    | zero => omega
    | succ n =>
      have e : i = 256 := by omega
      subst e
      rw [fx_least_L15, if_pos t256]
      rfl
  | succ d ih =>
    intro n i h1 hn
    cases n with
    | zero => omega
    | succ n =>
      rw [fx_least_L15, if_neg (n256 (by omega)), va_ok (by omega) h.1.1 h.1.2.1 h.1.2.2.1 ka, bI_some, fa]
      show _ = some (if F a i.testBit then nI i else la_ (fun x => F a x.testBit) d (i + 1))
      cases F a i.testBit
      · rw [if_pos (show nI false.toNat = (0 : Int32) from nI_0), nI_1]
        exact ih n (i + 1) (by omega) (by omega)
      · rw [if_neg (show ¬ nI true.toNat = (0 : Int32) by decide)]
        rfl
theorem le_x (h : rd0_ s lev at_ g rt F) {a : Nat} (ha : a < 16) : fx_least s (nI a) = some (la_ (fun x => F a x.testBit) 256 0) := by
  unfold fx_least
  rw [nr_ok ha, bU_some, ro_ok h.1 (by omega), bI_some]
  have := le_xl h ha 256 5000 0 (by omega) (by omega)
  rwa [nI_0] at this
theorem de_x (h : rd0_ s lev at_ g rt F) {a : Nat} (ha : a < 16) : ∃ S, su_ (F a) S ∧ fx_depends s (nI a) = some (nI S) := by
  obtain ⟨ka, fa⟩ := rd_gk h ha
  obtain ⟨S, s1, s2⟩ := sp_ok h.1.1 h.1.2.1 h.1.2.2.1 9 0 (rt a) ka (Nat.zero_le _) (by omega)
  rw [nI_0] at s2
  rw [fa] at s1
  refine ⟨S, s1, ?_⟩
  unfold fx_depends
  rw [nr_ok ha, bU_some, ro_ok h.1 (by omega), bI_some, s2, bI_some]
