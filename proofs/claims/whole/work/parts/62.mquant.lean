/-! The reference's quantify and product. My own. -/
def nb_ (p : Nat → Bool) : Nat → Nat
  | 0 => 0
  | k + 1 => nb_ p k ||| (if p k then 2 ^ k else 0)
theorem nb_bit (p : Nat → Bool) : ∀ (k j : Nat), (nb_ p k).testBit j = (decide (j < k) && p j) := by
  intro k
  induction k with
  | zero => intro j; simp [nb_]
  | succ k ih =>
    intro j
    show (nb_ p k ||| (if p k then 2 ^ k else 0)).testBit j = _
    rw [Nat.testBit_or, ih j]
    by_cases c : j = k
    · subst c
      cases h : p j
      · simp
      · simp [Nat.testBit_two_pow_self]
    · have e : (j < k + 1) = (j < k) := propext ⟨fun z => by omega, fun z => by omega⟩
      simp only [e]
      cases h : p k
      · simp
      · simp [Nat.testBit_two_pow, Ne.symm c]
theorem nb_lt (p : Nat → Bool) : ∀ k, nb_ p k < 2 ^ k := by
  intro k
  induction k with
  | zero => exact Nat.one_pos
  | succ k ih =>
    refine Nat.or_lt_two_pow (Nat.lt_of_lt_of_le ih (Nat.pow_le_pow_right (by decide) (by omega))) ?_
    have : 2 ^ k < 2 ^ (k + 1) := Nat.pow_lt_pow_right (by decide) (by omega)
    have := Nat.two_pow_pos (k + 1)
    split <;> omega
def su_b (m : Nat) : Nat → Nat → List Nat
  | 0, _ => []
  | n + 1, y => y :: (if y = 0 then [] else su_b m n ((y - 1) &&& m))
theorem su_chk : (List.range 256).all (fun m => (List.range 256).all fun z => !(z &&& m == z) || (su_b m 257 m).contains z) = true := by decide +kernel
theorem su_all {m z : Nat} (hm : m < 256) (hz : z < 256) (h : z &&& m = z) : z ∈ su_b m 257 m := by
  have h1 := List.all_eq_true.mp su_chk m (List.mem_range.mpr hm)
  have h2 := List.all_eq_true.mp h1 z (List.mem_range.mpr hz)
  rw [h] at h2
  simpa using h2
theorem su_in {m : Nat} : ∀ (n y : Nat), y &&& m = y → ∀ z, z ∈ su_b m n y → z &&& m = z ∧ z ≤ y := by
  intro n
  induction n with
  | zero => intro y _ z hz; cases hz
  | succ n ih =>
    intro y hy z hz
    rcases List.mem_cons.mp hz with c | c
    · rw [c]; exact ⟨hy, Nat.le_refl _⟩
    · by_cases d : y = 0
      · rw [if_pos d] at c; cases c
      · rw [if_neg d] at c
        have h1 := ih _ (by rw [Nat.and_assoc, Nat.and_self]) z c
        have := Nat.and_le_left (n := y - 1) (m := m)
        exact ⟨h1.1, by omega⟩
theorem nI_and (a b : Nat) : nI a &&& nI b = nI (a &&& b) := by
  apply Int32.toBitVec_inj.mp
  show BitVec.ofNat 32 a &&& BitVec.ofNat 32 b = BitVec.ofNat 32 (a &&& b)
  rw [BitVec.ofNat_and]
theorem nI_xor (a b : Nat) : nI a ^^^ nI b = nI (a ^^^ b) := by
  apply Int32.toBitVec_inj.mp
  show BitVec.ofNat 32 a ^^^ BitVec.ofNat 32 b = BitVec.ofNat 32 (a ^^^ b)
  rw [BitVec.ofNat_xor]
/-- x with the bits of the mask m taken from y -/
def zx_ (x m y : Nat) : Nat := (x &&& (m ^^^ 4294967295)) ||| y
theorem zx_i (x m y : Nat) : (nI x &&& (nI m ^^^ (-1))) ||| nI y = nI (zx_ x m y) := by
  rw [show (-1 : Int32) = nI 4294967295 from by decide, nI_xor, nI_and, nI_or]
  rfl
theorem zx_bit {x m y : Nat} (hx : x < 256) (hy : y &&& m = y) (j : Nat) : (zx_ x m y).testBit j = if m.testBit j then y.testBit j else x.testBit j := by
  unfold zx_
  have hyj : y.testBit j = (y.testBit j && m.testBit j) := by rw [← Nat.testBit_and, hy]
  rw [Nat.testBit_or, Nat.testBit_and, Nat.testBit_xor]
  rcases Nat.lt_or_ge j 8 with c | c
  · have : (4294967295 : Nat).testBit j = true := by
      have : ∀ i, i < 8 → (4294967295 : Nat).testBit i = true := by decide
      exact this j c
    rw [this]
    cases hm : m.testBit j
    · rw [hm] at hyj
      simp at hyj
      simp [hyj]
    · simp
  · rw [tb_big hx c]
    cases hm : m.testBit j
    · rw [hm] at hyj
      simp at hyj
      simp [hyj]
    · simp
theorem zx_lt {x m y : Nat} (hx : x < 256) (hy : y < 256) : zx_ x m y < 256 := Nat.or_lt_two_pow (n := 8) (Nat.lt_of_le_of_lt Nat.and_le_left hx) hy
/-- some submask y with g, in the order in which the loop meets them -/
theorem qx_su {m x : Nat} (hm : m < 256) (hx : x < 256) {f : mb_F} (hf : mb_on f (fun v => v < 8)) : (su_b m 257 m).any (fun y => f (zx_ x m y).testBit) = qx_ m.testBit f x.testBit := by
  refine Bool.eq_iff_iff.mpr ?_
  rw [List.any_eq_true, qx_iff]
  constructor
  · rintro ⟨y, hy, h⟩
    obtain ⟨h1, h2⟩ := su_in 257 m (Nat.and_self m) y hy
    exact ⟨_, fun v hv => by rw [zx_bit hx h1, hv]; rfl, h⟩
  · rintro ⟨w, h1, h2⟩
    have yb := nb_bit (fun j => m.testBit j && w j) 8
    have ylt := nb_lt (fun j => m.testBit j && w j) 8
    have ym : nb_ (fun j => m.testBit j && w j) 8 &&& m = nb_ (fun j => m.testBit j && w j) 8 := by
      apply Nat.eq_of_testBit_eq
      intro j
      rw [Nat.testBit_and, yb j]
      cases m.testBit j <;> simp
    refine ⟨_, su_all hm ylt ym, ?_⟩
    rw [hf _ w (fun v hv => ?_)]
    · exact h2
    · rw [zx_bit hx ym, yb v]
      cases hmv : m.testBit v
      · simp only [Bool.false_eq_true, if_false]; exact (h1 v hmv).symm
      · simp [hv]
variable {t : wt_M} {F : Nat → mb_F} {o : Nat → Nat}
theorem qz_loop {c1 : Int32} {a m x : Nat} {all : Bool} (K : Int32 → Option wt_M) (hq : ∀ z, z < 256 → tb_ t a z = F a z.testBit) (ha : a < 16) (hx : x < 256) : ∀ (n y f : Nat) (acc : Bool), y < n → y < 256 → y &&& m = y → n < f → fm_quantify_L66 t c1 (nI a) (nI m) (nI all.toNat) (nI x) K f (nI acc.toNat) (nI y) = K (nI (acc || (su_b m n y).any fun z => F a (zx_ x m z).testBit != all).toNat) := by
  intro n
  induction n with
  | zero => intro y f acc h; omega
  | succ n ih =>
    intro y f acc hy hy2 hym hf
    cases f with
    | zero => omega
    | succ f =>
      have step : ∀ b : Bool, b = (acc || (F a (zx_ x m y).testBit != all)) → (if nI y = (0 : Int32) then fm_quantify_L66 t c1 (nI a) (nI m) (nI all.toNat) (nI x) K f (nI b.toNat) (-1) else fm_quantify_L66 t c1 (nI a) (nI m) (nI all.toNat) (nI x) K f (nI b.toNat) ((nI y - 1) &&& nI m)) = K (nI (acc || (su_b m (n + 1) y).any fun z => F a (zx_ x m z).testBit != all).toNat) := by
        intro b hb
        show _ = K (nI (acc || (y :: (if y = 0 then [] else su_b m n ((y - 1) &&& m))).any fun z => F a (zx_ x m z).testBit != all).toNat)
        rw [List.any_cons, ← Bool.or_assoc, ← hb]
        by_cases c : y = 0
        · rw [if_pos (by rw [c]; exact nI_0), if_pos c]
          cases f with
          | zero => omega
          | succ f =>
            rw [fm_quantify_L66, if_pos (by decide), List.any_nil, Bool.or_false]
        · rw [if_neg (nI_ne0 (by omega) (by omega)), if_neg c]
          obtain ⟨y', rfl⟩ : ∃ y', y = y' + 1 := ⟨y - 1, by omega⟩
          have le := Nat.and_le_left (n := y') (m := m)
          rw [nI_pred, nI_and, show y' + 1 - 1 = y' from rfl]
          exact ih (y' &&& m) f b (by omega) (by omega) (by rw [Nat.and_assoc, Nat.and_self]) (by omega)
      rw [fm_quantify_L66, if_neg (nI_pos (by omega))]
      simp only [jn_]
      rw [zx_i, mv_ok t (by omega) (zx_lt hx hy2), bI_some, hq _ (zx_lt hx hy2)]
      cases acc with
      | true =>
        rw [if_neg (show ¬ nI true.toNat = (0 : Int32) by decide)]
        exact step true (by simp)
      | false =>
        rw [if_pos (show nI false.toNat = (0 : Int32) from nI_0)]
        by_cases c : F a (zx_ x m y).testBit = all
        · rw [if_pos (by rw [c])]
          exact step false (by rw [c]; simp)
        · rw [if_neg (fun z => c (by
            cases h1 : F a (zx_ x m y).testBit <;> cases h2 : all <;> rw [h1, h2] at z <;> first | rfl | exact absurd z (by decide)))]
          exact step true (by simp [c])
theorem xq_m (hm : mo_ t F o) {r a mk : Nat} (hr : r < 16) (ha : a < 16) (hmk : mk < 256) (all : Bool) (hf : mb_on (F a) (fun v => v < 8)) : ∃ t4, fm_quantify t (nI r) (nI a) (nI mk) (nI all.toNat) = some t4 ∧ mo_ t4 (fun i => if i = r then (if all = true then ne_ (qx_ mk.testBit (ne_ (F a))) else qx_ mk.testBit (F a)) else F i) o ∧ t4.1 9 0 = 0 := by
  unfold fm_quantify
  generalize hN : 5000 = N
  simp -implicitDefEqProofs only [jn_, sp_T]
  rw [mir_ok hr, bI_some, if_neg one_ne, mir_ok ha, bI_some, if_neg one_ne, show fm_in (nI mk) (0 : Int32) (255 : Int32) = some 1 from min_ok (b := 0) (c := 255) (Nat.zero_le _) (by omega) (by decide), bI_some, if_neg one_ne]
  refine tl_ok hm hr (fun K => fm_quantify_L52 (nI r) (nI a) (nI mk) (nI all.toNat) K) (if all = true then ne_ (qx_ mk.testBit (ne_ (F a))) else qx_ mk.testBit (F a)) (fun x => ((su_b mk 257 mk).any fun z => F a (zx_ x mk z).testBit != all) != all) (fun x hx => ?_) (fun K n t => by rw [fm_quantify_L52, if_pos t256]) (fun K n x t' hx hq => ?_) _ hN
  · cases all with
    | false =>
      rw [if_neg (by decide), ← qx_su hmk hx hf]
      simp
    | true =>
      have hn : mb_on (ne_ (F a)) (fun v => v < 8) := fun p q h => by
        unfold ne_
        rw [hf p q h]
      rw [if_pos rfl]
      show _ = !(qx_ mk.testBit (ne_ (F a)) x.testBit)
      rw [← qx_su hmk hx hn]
      simp [ne_]
  · rw [fm_quantify_L52, if_neg (n256 hx)]
    have h := qz_loop (t := t') (F := F) (c1 := nI r) (a := a) (m := mk) (x := x) (all := all) (fun z6_66 => jn_ (fun (y0_137 : Int32) => b_T (fm_set t' (nI x) y0_137) fun t137 => fm_quantify_L52 (nI r) (nI a) (nI mk) (nI all.toNat) K n (nI x + 1) t137) fun j137 => if z6_66 = nI all.toNat then j137 (0 : Int32) else j137 (1 : Int32)) (fun z hz => hq a ha z hz) ha hx 257 mk 5000 false (by omega) hmk (Nat.and_self mk) (by omega)
    rw [show nI false.toNat = (0 : Int32) from nI_0, Bool.false_or] at h
    rw [h]
    simp only [jn_]
    generalize ((su_b mk 257 mk).any fun z => F a (zx_ x mk z).testBit != all) = b
    cases b <;> cases all <;> rfl
