/-! put and tell of the reference. My own. -/
theorem wd_eq (A B : Nat → Int64) : (∀ k, k < 4 → A k = B k) ↔ ∀ x, x < 256 → (A (x / 64)).toBitVec.getLsbD (x % 64) = (B (x / 64)).toBitVec.getLsbD (x % 64) := by
  constructor
  · intro h x hx
    rw [h (x / 64) (by omega)]
  · intro h k hk
    apply Int64.toBitVec_inj.mp
    apply BitVec.eq_of_getLsbD_eq
    intro i hi
    have := h (64 * k + i) (by omega)
    rwa [show (64 * k + i) / 64 = k by omega, show (64 * k + i) % 64 = i by omega] at this
/-- the table of cuts holds the functions C -/
def nt_ (t : wt_M) (C : List mb_F) : Prop := t.1 9 1 = nI C.length ∧ (∀ (c : Nat) (f : mb_F), C[c]? = some f → ∀ x, x < 256 → ctb_ t c x = f x.testBit) ∧ (∀ f, f ∈ C → mb_on f (fun v => v < 8) ∧ nk_ f) ∧ C.Nodup
variable {t : wt_M} {C : List mb_F}
theorem pl_32 {q : Nat} (hq : q < 18) (K : Int32 → Option (Int32 × wt_M)) : ∀ (d n i : Nat) (acc r : Bool), i + d = 4 → d < n → (r = true ↔ acc = true ∧ ∀ k, i ≤ k → k < 4 → t.2 0 (4 * q + k) = t.2 0 (4 * q)) → fm_put_L32 t (nI (4 * q)) K n (nI acc.toNat) (nI i) = K (nI r.toNat) := by
  intro d
  induction d with
  | zero =>
    intro n i acc r h1 hn hr
    cases n with
    | zero => omega
    | succ n =>
      have : r = acc := Bool.eq_iff_iff.mpr (hr.trans ⟨fun z => z.1, fun z => ⟨z, fun k h2 h3 => by omega⟩⟩)
      rw [fm_put_L32, if_pos (show (4 : Int32) ≤ nI i from nI_le (a := 4) (by omega) (by omega)), this]
  | succ d ih =>
    intro n i acc r h1 hn hr
    cases n with
    | zero => omega
    | succ n =>
      rw [fm_put_L32, if_neg (show ¬ (4 : Int32) ≤ nI i from nI_ge (b := 4) (by omega) (by decide))]
      simp only [jn_]
      have bad : (acc = true → ¬ t.2 0 (4 * q + i) = t.2 0 (4 * q)) → fm_put_L32 t (nI (4 * q)) K n 0 (nI i + 1) = K (nI r.toNat) := by
        intro hb
        rw [nI_1, show (0 : Int32) = nI false.toNat from nI_0.symm]
        exact ih n (i + 1) false r (by omega) (by omega) (hr.trans ⟨fun z => absurd (z.2 i (Nat.le_refl _) (by omega)) (hb z.1), fun z => by cases z.1⟩)
      cases acc with
      | false =>
        rw [if_pos (show nI false.toNat = (0 : Int32) from nI_0)]
        exact bad (fun z => by cases z)
      | true =>
        rw [if_neg (show ¬ nI true.toNat = (0 : Int32) by decide), nI_add, rc_atL (by omega) (by decide), rc_atL (by omega) (by decide)]
        by_cases c : t.2 0 (4 * q + i) = t.2 0 (4 * q)
        · rw [if_pos c, nI_1, show (1 : Int32) = nI true.toNat from rfl]
          refine ih n (i + 1) true r (by omega) (by omega) (hr.trans ⟨fun z => ⟨rfl, fun k h2 h3 => z.2 k (by omega) h3⟩, fun z => ⟨rfl, fun k h2 h3 => ?_⟩⟩)
          by_cases e : k = i
          · rw [e]; exact c
          · exact z.2 k (by omega) h3
        · rw [if_neg c]
          exact bad (fun _ => c)
theorem pl_93 {q c : Nat} (hq : q < 18) (hc : c < 4000) (K : Int32 → Option (Int32 × wt_M)) : ∀ (d n i : Nat) (acc r : Bool), i + d = 4 → d < n → (r = true ↔ acc = true ∧ ∀ k, i ≤ k → k < 4 → t.2 1 (4 * c + k) = t.2 0 (4 * q + k)) → fm_put_L93 t (nI (4 * q)) (nI c) K n (nI acc.toNat) (nI i) = K (nI r.toNat) := by
  intro d
  induction d with
  | zero =>
    intro n i acc r h1 hn hr
    cases n with
    | zero => omega
    | succ n =>
      have : r = acc := Bool.eq_iff_iff.mpr (hr.trans ⟨fun z => z.1, fun z => ⟨z, fun k h2 h3 => by omega⟩⟩)
      rw [fm_put_L93, if_pos (show (4 : Int32) ≤ nI i from nI_le (a := 4) (by omega) (by omega)), this]
  | succ d ih =>
    intro n i acc r h1 hn hr
    cases n with
    | zero => omega
    | succ n =>
      rw [fm_put_L93, if_neg (show ¬ (4 : Int32) ≤ nI i from nI_ge (b := 4) (by omega) (by decide))]
      cases acc with
      | false =>
        have : r = false := by
          cases r
          · rfl
          · exact absurd (hr.mp rfl).1 (by decide)
        rw [if_pos (show nI false.toNat = (0 : Int32) from nI_0), this]
      | true =>
        rw [if_neg (show ¬ nI true.toNat = (0 : Int32) by decide), show (4 : Int32) = nI 4 from rfl, pk_mul, nI_add, rc_atL (by omega) (by decide), nI_add, rc_atL (by omega) (by decide)]
        simp only [jn_]
        by_cases e0 : t.2 1 (4 * c + i) = t.2 0 (4 * q + i)
        · rw [if_pos e0, nI_1, show (1 : Int32) = nI true.toNat from rfl]
          refine ih n (i + 1) true r (by omega) (by omega) (hr.trans ⟨fun z => ⟨rfl, fun k h2 h3 => z.2 k (by omega) h3⟩, fun z => ⟨rfl, fun k h2 h3 => ?_⟩⟩)
          by_cases e : k = i
          · rw [e]; exact e0
          · exact z.2 k (by omega) h3
        · rw [if_neg e0, nI_1, show (0 : Int32) = nI false.toNat from nI_0.symm]
          exact ih n (i + 1) false r (by omega) (by omega) (hr.trans ⟨fun z => absurd (z.2 i (Nat.le_refl _) (by omega)) e0, fun z => by cases z.1⟩)
theorem nd_ix {α : Type} {x : α} : ∀ (l : List α) (i j : Nat), l.Nodup → l[i]? = some x → l[j]? = some x → i = j := by
  intro l
  induction l with
  | nil => intro i j _ h; simp at h
  | cons y l ih =>
    intro i j hn hi hj
    obtain ⟨h1, h2⟩ := List.nodup_cons.mp hn
    cases i with
    | zero =>
      cases j with
      | zero => rfl
      | succ j =>
        simp at hi hj
        exact absurd (hi ▸ List.mem_of_getElem? hj) h1
    | succ i =>
      cases j with
      | zero =>
        simp at hi hj
        exact absurd (hj ▸ List.mem_of_getElem? hi) h1
      | succ j =>
        simp at hi hj
        exact congrArg (· + 1) (ih i j h2 hi hj)
/-- which cut is f -/
theorem pl_79 {q : Nat} {f : mb_F} (hq : q < 18) (h : nt_ t C) (hC : C.length ≤ 4000) (hf : mb_on f (fun v => v < 8)) (ht : ∀ x, x < 256 → tb_ t q x = f x.testBit) (K : Unit → Option (Int32 × wt_M)) : ∀ (d n i : Nat), i + d = C.length → d < n → (∀ c, c < i → C[c]? ≠ some f) → (∀ c, C[c]? = some f → fm_put_L79 t (nI (4 * q)) K n (nI i) = some (nI c, t)) ∧ (f ∉ C → fm_put_L79 t (nI (4 * q)) K n (nI i) = K ()) := by
  obtain ⟨h1, h2, h3, h4⟩ := h
  intro d
  induction d with
  | zero =>
    intro n i e hn hlow
    cases n with
    | zero => omega
    | succ n =>
      refine ⟨fun c hc => ?_, fun _ => ?_⟩
      · have : c < C.length := (List.getElem?_eq_some_iff.mp hc).1
        exact absurd hc (hlow c (by omega))
      · rw [fm_put_L79, h1, if_pos (nI_le (by omega) (by omega))]
  | succ d ih =>
    intro n i e hn hlow
    cases n with
    | zero => omega
    | succ n =>
      have hi : i < C.length := by omega
      obtain ⟨u, hu⟩ : ∃ u, C[i]? = some u := ⟨_, List.getElem?_eq_getElem hi⟩
      have um := List.mem_of_getElem? hu
      have key : (∀ k, k < 4 → t.2 1 (4 * i + k) = t.2 0 (4 * q + k)) ↔ u = f := by
        rw [wd_eq (fun k => t.2 1 (4 * i + k)) (fun k => t.2 0 (4 * q + k)), on_eq (h3 u um).1 hf]
        constructor
        · intro z x hx
          have := z x hx
          rw [← h2 i u hu x hx, ← ht x hx]
          exact this
        · intro z x hx
          have := z x hx
          rw [← h2 i u hu x hx, ← ht x hx] at this
          exact this
      have run : ∀ r : Bool, (r = true ↔ u = f) → fm_put_L79 t (nI (4 * q)) K (n + 1) (nI i) = (if nI r.toNat = (0 : Int32) then fm_put_L79 t (nI (4 * q)) K n (nI i + 1) else some (nI i, t)) := by
        intro r hr
        rw [fm_put_L79, h1, if_neg (nI_ge hi (by omega)), show (1 : Int32) = nI true.toNat from rfl, show (0 : Int32) = nI 0 from nI_0.symm]
        exact pl_93 hq (by omega) _ 4 5000 0 true r (by omega) (by omega) (hr.trans (key.symm.trans ⟨fun z => ⟨rfl, fun k _ hk => z k hk⟩, fun z k hk => z.2 k (Nat.zero_le _) hk⟩))
      by_cases uf : u = f
      · subst uf
        rw [run true ⟨fun _ => rfl, fun _ => rfl⟩, if_neg (show ¬ nI true.toNat = (0 : Int32) by decide)]
        exact ⟨fun c hc => by rw [nd_ix C c i h4 hc hu], fun no => absurd um no⟩
      · rw [run false ⟨fun z => (by cases z), fun z => absurd z uf⟩, if_pos (show nI false.toNat = (0 : Int32) from nI_0), nI_1]
        refine ih n (i + 1) (by omega) (by omega) (fun c hc => ?_)
        by_cases ci : c = i
        · rw [ci, hu]; exact fun z => uf (Option.some.inj z)
        · exact hlow c (by omega)
theorem pl_156 {q : Nat} (hq : q < 18) {m : Nat} (hm : m < 4000) (K : wt_M → Option (Int32 × wt_M)) : ∀ (d n i : Nat) (t : wt_M), i + d = 4 → d < n → t.1 9 1 = nI m → ∃ t', fm_put_L156 (nI (4 * q)) K n (nI i) t = K t' ∧ t'.1 = t.1 ∧ (∀ r j, ¬ (r = 1 ∧ 4 * m + i ≤ j ∧ j < 4 * m + 4) → t'.2 r j = t.2 r j) ∧ ∀ j, i ≤ j → j < 4 → t'.2 1 (4 * m + j) = t.2 0 (4 * q + j) := by
  intro d
  induction d with
  | zero =>
    intro n i t h1 hn hm9
    cases n with
    | zero => omega
    | succ n =>
      rw [fm_put_L156, if_pos (show (4 : Int32) ≤ nI i from nI_le (a := 4) (by omega) (by omega))]
      exact ⟨t, rfl, rfl, fun _ _ _ => rfl, fun j _ _ => by omega⟩
  | succ d ih =>
    intro n i t h1 hn hm9
    cases n with
    | zero => omega
    | succ n =>
      rw [fm_put_L156, if_neg (show ¬ (4 : Int32) ≤ nI i from nI_ge (b := 4) (by omega) (by decide)), nI_add, rc_atL (by omega) (by decide), hm9, show (4 : Int32) = nI 4 from rfl, pk_mul, nI_add, wc_L (by omega) (by decide), nI_1]
      obtain ⟨t', q1, q2, q3, q4⟩ := ih n (i + 1) (t.1, pu_L t.2 1 (4 * m + i) (t.2 0 (4 * q + i))) (by omega) (by omega) hm9
      refine ⟨t', q1, q2, fun r j hn => ?_, fun j h3 h4 => ?_⟩
      · rw [q3 r j (fun z => hn ⟨z.1, by omega, z.2.2⟩)]
        show pu_L t.2 1 (4 * m + i) _ r j = _
        rw [puL_at, if_neg (fun z => hn ⟨z.1, by omega, by omega⟩)]
      · by_cases e : j = i
        · subst e
          rw [q3 1 _ (fun z => by omega)]
          show pu_L t.2 1 (4 * m + j) _ 1 (4 * m + j) = _
          rw [puL_at, if_pos ⟨rfl, rfl⟩]
        · rw [q4 j (by omega) h4]
          show pu_L t.2 1 (4 * m + i) (t.2 0 (4 * q + i)) 0 (4 * q + j) = _
          rw [puL_at, if_neg (fun z => by omega)]
/-- what put leaves as it was -/
def pk_ (m : Nat) (t t' : wt_M) : Prop := (∀ j, t'.2 0 j = t.2 0 j) ∧ (∀ j, t'.2 2 j = t.2 2 j) ∧ (∀ r j, r ≠ 4 → r ≠ 9 → t'.1 r j = t.1 r j) ∧ (∀ j, j ≠ m → t'.1 4 j = t.1 4 j) ∧ ∀ j, j ≠ 1 → t'.1 9 j = t.1 9 j
theorem pk_rf (m : Nat) (t : wt_M) : pk_ m t t := ⟨fun _ => rfl, fun _ => rfl, fun _ _ _ _ => rfl, fun _ _ => rfl, fun _ _ => rfl⟩
theorem cst_iff {f : mb_F} {q : Nat} (hf : mb_on f (fun v => v < 8)) (ht : ∀ x, x < 256 → tb_ t q x = f x.testBit) : ¬ nk_ f ↔ (t.2 0 (4 * q) = 0 ∨ t.2 0 (4 * q) = -1) ∧ ∀ k, 1 ≤ k → k < 4 → t.2 0 (4 * q + k) = t.2 0 (4 * q) := by
  have zb : ∀ p, ((0 : Int64).toBitVec.getLsbD p) = false := fun p => BitVec.getLsbD_zero
  have ob : ∀ p, p < 64 → ((-1 : Int64).toBitVec.getLsbD p) = true := fun p hp => by
    rw [show (-1 : Int64).toBitVec = BitVec.allOnes 64 by decide, BitVec.getLsbD_allOnes, decide_eq_true hp]
  have all : ∀ (w : Int64) (b : Bool), (∀ p, p < 64 → w.toBitVec.getLsbD p = b) → (f = (fun _ => b) ↔ ∀ k, k < 4 → t.2 0 (4 * q + k) = w) := by
    intro w b hw
    rw [on_eq hf (fun _ _ _ => rfl), wd_eq (fun k => t.2 0 (4 * q + k)) (fun _ => w)]
    constructor
    · intro z x hx
      show (t.2 0 (4 * q + x / 64)).toBitVec.getLsbD (x % 64) = w.toBitVec.getLsbD (x % 64)
      rw [hw _ (by omega)]
      exact (ht x hx).trans (z x hx)
    · intro z x hx
      have : (t.2 0 (4 * q + x / 64)).toBitVec.getLsbD (x % 64) = w.toBitVec.getLsbD (x % 64) := z x hx
      rw [hw _ (by omega)] at this
      exact (ht x hx).symm.trans this
  have a0 := all 0 false (fun p _ => zb p)
  have a1 := all (-1) true (fun p hp => ob p hp)
  have each : ∀ w : Int64, (∀ k, k < 4 → t.2 0 (4 * q + k) = w) ↔ t.2 0 (4 * q) = w ∧ ∀ k, 1 ≤ k → k < 4 → t.2 0 (4 * q + k) = t.2 0 (4 * q) := by
    intro w
    constructor
    · intro z
      have z0 := z 0 (by decide)
      rw [Nat.add_zero] at z0
      exact ⟨z0, fun k _ hk => (z k hk).trans z0.symm⟩
    · intro z k hk
      by_cases e : k = 0
      · subst e; rw [Nat.add_zero]; exact z.1
      · exact (z.2 k (by omega) hk).trans z.1
  rw [each] at a0 a1
  constructor
  · intro z
    by_cases e0 : f = fun _ => false
    · have := a0.mp e0
      exact ⟨Or.inl this.1, this.2⟩
    · by_cases e1 : f = fun _ => true
      · have := a1.mp e1
        exact ⟨Or.inr this.1, this.2⟩
      · exact absurd ⟨e0, e1⟩ z
  · rintro ⟨z | z, k⟩ n
    · exact n.1 (a0.mpr ⟨z, k⟩)
    · exact n.2 (a1.mpr ⟨z, k⟩)
theorem put_ok {q : Nat} {f : mb_F} (hq : q < 18) (h : nt_ t C) (hC : C.length < 4000) (hf : mb_on f (fun v => v < 8)) (ht : ∀ x, x < 256 → tb_ t q x = f x.testBit) :
    (¬ nk_ f → fm_put t (nI (4 * q)) = some (-1, t)) ∧ (∀ c, nk_ f → C[c]? = some f → fm_put t (nI (4 * q)) = some (nI c, t)) ∧ (nk_ f → f ∉ C → ∃ t', fm_put t (nI (4 * q)) = some (nI C.length, t') ∧ nt_ t' (C ++ [f]) ∧ pk_ C.length t t' ∧ t'.1 4 C.length = -1) := by
  have hci := cst_iff (t := t) hf ht
  -- the first part: is it constant
  have top : ∀ r : Bool, (r = true ↔ ¬ nk_ f) → fm_put t (nI (4 * q)) = (if nI r.toNat = (0 : Int32) then fm_put_L79 t (nI (4 * q)) (fun (_ : Unit) => fm_put_L156 (nI (4 * q)) (fun (t_156 : wt_M) => wr_T t_156 4 4000 (t_156.1 9 1) (-1 : Int32) fun t197 => sp_T t197 1 ((t197.1 9 1) + (1 : Int32)) fun t205 => some (((t205.1 9 1) - (1 : Int32)), t205)) 5000 (0 : Int32) t) 5000 (0 : Int32) else some ((-1 : Int32), t)) := by
    intro r hr
    rw [fm_put, rc_atL (by omega) (by decide), jn_, jn_]
    have go : ∀ acc : Bool, (acc = true ↔ t.2 0 (4 * q) = 0 ∨ t.2 0 (4 * q) = -1) → fm_put_L32 t (nI (4 * q)) (fun (z2_32 : Int32) => if z2_32 = (0 : Int32) then fm_put_L79 t (nI (4 * q)) (fun (_ : Unit) => fm_put_L156 (nI (4 * q)) (fun (t_156 : wt_M) => wr_T t_156 4 4000 (t_156.1 9 1) (-1 : Int32) fun t197 => sp_T t197 1 ((t197.1 9 1) + (1 : Int32)) fun t205 => some (((t205.1 9 1) - (1 : Int32)), t205)) 5000 (0 : Int32) t) 5000 (0 : Int32) else some ((-1 : Int32), t)) 5000 (nI acc.toNat) (nI 1) = (if nI r.toNat = (0 : Int32) then fm_put_L79 t (nI (4 * q)) (fun (_ : Unit) => fm_put_L156 (nI (4 * q)) (fun (t_156 : wt_M) => wr_T t_156 4 4000 (t_156.1 9 1) (-1 : Int32) fun t197 => sp_T t197 1 ((t197.1 9 1) + (1 : Int32)) fun t205 => some (((t205.1 9 1) - (1 : Int32)), t205)) 5000 (0 : Int32) t) 5000 (0 : Int32) else some ((-1 : Int32), t)) := by
      intro acc ha
      exact pl_32 hq _ 3 5000 1 acc r (by omega) (by omega) (hr.trans (hci.trans ⟨fun z => ⟨ha.mpr z.1, z.2⟩, fun z => ⟨ha.mp z.1, z.2⟩⟩))
    by_cases c0 : t.2 0 (4 * q) = 0
    · rw [if_pos c0]
      exact go true ⟨fun _ => Or.inl c0, fun _ => rfl⟩
    · rw [if_neg c0, rc_atL (by omega) (by decide)]
      by_cases c1 : t.2 0 (4 * q) = -1
      · rw [if_pos c1]
        exact go true ⟨fun _ => Or.inr c1, fun _ => rfl⟩
      · rw [if_neg c1]
        exact go false ⟨fun z => (by cases z), fun z => z.elim (fun y => absurd y c0) (fun y => absurd y c1)⟩
  refine ⟨fun hn => ?_, fun c hn hc => ?_, fun hn hno => ?_⟩
  · rw [top true ⟨fun _ => hn, fun _ => rfl⟩, if_neg (show ¬ nI true.toNat = (0 : Int32) by decide)]
  · rw [top false ⟨fun z => (by cases z), fun z => absurd hn z⟩, if_pos (show nI false.toNat = (0 : Int32) from nI_0), show (0 : Int32) = nI 0 from nI_0.symm]
    exact (pl_79 hq h (by omega) hf ht _ C.length 5000 0 (by omega) (by omega) (fun c hc => by omega)).1 c hc
  · rw [top false ⟨fun z => (by cases z), fun z => absurd hn z⟩, if_pos (show nI false.toNat = (0 : Int32) from nI_0)]
    have e := (pl_79 hq h (by omega) hf ht (fun (_ : Unit) => fm_put_L156 (nI (4 * q)) (fun (t_156 : wt_M) => wr_T t_156 4 4000 (t_156.1 9 1) (-1 : Int32) fun t197 => sp_T t197 1 ((t197.1 9 1) + (1 : Int32)) fun t205 => some (((t205.1 9 1) - (1 : Int32)), t205)) 5000 (0 : Int32) t) C.length 5000 0 (by omega) (by omega) (fun c hc => by omega)).2 hno
    rw [nI_0] at e
    rw [e]
    obtain ⟨h1, h2, h3, h4⟩ := id h
    obtain ⟨t1, d1, d2, d3, d4⟩ := pl_156 hq hC (fun (t_156 : wt_M) => wr_T t_156 4 4000 (t_156.1 9 1) (-1 : Int32) fun t197 => sp_T t197 1 ((t197.1 9 1) + (1 : Int32)) fun t205 => some (((t205.1 9 1) - (1 : Int32)), t205)) 4 5000 0 t (by omega) (by omega) h1
    rw [nI_0] at d1
    rw [d1]
    have n1 : t1.1 9 1 = nI C.length := by rw [d2]; exact h1
    rw [n1, wc_T hC (by decide), sp_T]
    have n2 : pu_S t1.1 4 C.length (-1) 9 1 = nI C.length := by rw [pu_row (by decide)]; exact n1
    show ∃ t', some (pu_S (pu_S t1.1 4 C.length (-1)) 9 1 (pu_S t1.1 4 C.length (-1) 9 1 + 1) 9 1 - 1, (pu_S (pu_S t1.1 4 C.length (-1)) 9 1 (pu_S t1.1 4 C.length (-1) 9 1 + 1), t1.2)) = _ ∧ _
    rw [n2, nI_1, pu_eq, nI_pred]
    refine ⟨_, rfl, ⟨?_, fun c u hu x hx => ?_, fun u hu => ?_, ?_⟩, ⟨fun j => ?_, fun j => ?_, fun r j hr hr9 => ?_, fun j hj => ?_, fun j hj => ?_⟩, ?_⟩
    · show pu_S (pu_S t1.1 4 C.length (-1)) 9 1 (nI (C.length + 1)) 9 1 = _
      rw [pu_eq, List.length_append]
      rfl
    · show (t1.2 1 (4 * c + x / 64)).toBitVec.getLsbD (x % 64) = _
      rcases Nat.lt_or_ge c C.length with z | z
      · rw [List.getElem?_append_left z] at hu
        rw [d3 1 _ (fun y => by omega)]
        exact h2 c u hu x hx
      · have : c < (C ++ [f]).length := (List.getElem?_eq_some_iff.mp hu).1
        rw [List.length_append] at this
        have ce : c = C.length := by
          simp at this
          omega
        subst ce
        rw [List.getElem?_append_right (Nat.le_refl _), Nat.sub_self] at hu
        cases hu
        rw [d4 (x / 64) (Nat.zero_le _) (by omega)]
        exact ht x hx
    · rcases List.mem_append.mp hu with z | z
      · exact h3 u z
      · rw [List.mem_singleton.mp z]; exact ⟨hf, hn⟩
    · refine List.nodup_append.mpr ⟨h4, List.nodup_cons.mpr ⟨List.not_mem_nil, List.nodup_nil⟩, fun a ha b hb => ?_⟩
      rw [List.mem_singleton.mp hb]
      exact fun z => hno (z ▸ ha)
    · exact d3 0 j (fun y => by omega)
    · exact d3 2 j (fun y => by omega)
    · show pu_S (pu_S t1.1 4 C.length (-1)) 9 1 (nI (C.length + 1)) r j = _
      rw [pu_row hr9, pu_row hr, d2]
    · show pu_S (pu_S t1.1 4 C.length (-1)) 9 1 (nI (C.length + 1)) 4 j = _
      rw [pu_row (by decide), pu_ne hj, d2]
    · show pu_S (pu_S t1.1 4 C.length (-1)) 9 1 (nI (C.length + 1)) 9 j = _
      rw [pu_ne hj, pu_row (by decide), d2]
    · show pu_S (pu_S t1.1 4 C.length (-1)) 9 1 (nI (C.length + 1)) 4 C.length = _
      rw [pu_row (by decide), pu_eq]
