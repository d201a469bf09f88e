/-! Sets of states, as functions and as numbers; the reference's methods over them. My own. -/
def wz_ (a : mb_V) : mb_V := fun v => a (v ^^^ 1)
def ix_ (a : mb_V) : Nat := nb_ (fun i => a (2 * i)) 4
def st_ (Z : Nat) : mb_F := fun a => Z.testBit (ix_ a)
def jv_ (s u : Nat) : mb_V := fun v => if v % 2 = 0 then s.testBit (v / 2) else u.testBit (v / 2)
def tr_ (f : mb_F) (s u : Nat) : Bool := f (jv_ s u)
theorem ix_lt (a : mb_V) : ix_ a < 16 := nb_lt _ 4
theorem ix_bit (a : mb_V) {i : Nat} (hi : i < 4) : (ix_ a).testBit i = a (2 * i) := by
  unfold ix_
  rw [nb_bit, decide_eq_true hi, Bool.true_and]
theorem bx_ext {n s u : Nat} (hs : s < 2 ^ n) (hu : u < 2 ^ n) (h : ∀ i, i < n → s.testBit i = u.testBit i) : s = u := by
  apply Nat.eq_of_testBit_eq
  intro i
  rcases Nat.lt_or_ge i n with c | c
  · exact h i c
  · rw [Nat.testBit_lt_two_pow (Nat.lt_of_lt_of_le hs (Nat.pow_le_pow_right (by decide) c)), Nat.testBit_lt_two_pow (Nat.lt_of_lt_of_le hu (Nat.pow_le_pow_right (by decide) c))]
theorem ix_jv {s : Nat} (u : Nat) (hs : s < 16) : ix_ (jv_ s u) = s := bx_ext (n := 4) (ix_lt _) hs fun i hi => by
  rw [ix_bit _ hi]
  unfold jv_
  rw [if_pos (by omega), show 2 * i / 2 = i by omega]
theorem x1_lt : ∀ i, i < 4 → (2 * i) ^^^ 1 = 2 * i + 1 := by decide
theorem ix_jw (s : Nat) {u : Nat} (hu : u < 16) : ix_ (wz_ (jv_ s u)) = u := bx_ext (n := 4) (ix_lt _) hu fun i hi => by
  rw [ix_bit _ hi]
  unfold wz_ jv_
  rw [x1_lt i hi, if_neg (by omega), show (2 * i + 1) / 2 = i by omega]
theorem x1_v : ∀ v, v < 8 → ¬ v % 2 = 0 → (2 * (v / 2)) ^^^ 1 = v := by decide
theorem jv_ix (a : mb_V) {v : Nat} (hv : v < 8) : jv_ (ix_ a) (ix_ (wz_ a)) v = a v := by
  unfold jv_
  by_cases c : v % 2 = 0
  · rw [if_pos c, ix_bit _ (by omega), show 2 * (v / 2) = v by omega]
  · rw [if_neg c, ix_bit _ (by omega)]
    unfold wz_
    rw [x1_v v hv c]
theorem tr_ix {f : mb_F} (hf : mb_on f (fun v => v < 8)) (a : mb_V) : f a = tr_ f (ix_ a) (ix_ (wz_ a)) := hf _ _ fun v hv => (jv_ix a hv).symm
theorem wz_wz (a : mb_V) : wz_ (wz_ a) = a := by
  funext v
  unfold wz_
  rw [xor_xor]
def im_ (f : mb_F) (Z : Nat) : Nat := nb_ (fun u => (List.range 16).any fun s => Z.testBit s && tr_ f s u) 16
def pr_ (f : mb_F) (Z : Nat) : Nat := nb_ (fun s => (List.range 16).any fun u => Z.testBit u && tr_ f s u) 16
theorem im_bit (f : mb_F) (Z : Nat) {u : Nat} (hu : u < 16) : (im_ f Z).testBit u = true ↔ ∃ s, s < 16 ∧ Z.testBit s = true ∧ tr_ f s u = true := by
  unfold im_
  rw [nb_bit, decide_eq_true hu, Bool.true_and, List.any_eq_true]
  constructor
  · rintro ⟨s, h1, h2⟩
    exact ⟨s, List.mem_range.mp h1, (Bool.and_eq_true _ _).mp h2⟩
  · rintro ⟨s, h1, h2⟩
    exact ⟨s, List.mem_range.mpr h1, (Bool.and_eq_true _ _).mpr h2⟩
theorem pr_bit (f : mb_F) (Z : Nat) {s : Nat} (hs : s < 16) : (pr_ f Z).testBit s = true ↔ ∃ u, u < 16 ∧ Z.testBit u = true ∧ tr_ f s u = true := by
  unfold pr_
  rw [nb_bit, decide_eq_true hs, Bool.true_and, List.any_eq_true]
  constructor
  · rintro ⟨s, h1, h2⟩
    exact ⟨s, List.mem_range.mp h1, (Bool.and_eq_true _ _).mp h2⟩
  · rintro ⟨s, h1, h2⟩
    exact ⟨s, List.mem_range.mpr h1, (Bool.and_eq_true _ _).mpr h2⟩
theorem im_lt (f : mb_F) (Z : Nat) : im_ f Z < 65536 := nb_lt _ 16
theorem pr_lt (f : mb_F) (Z : Nat) : pr_ f Z < 65536 := nb_lt _ 16
theorem bt85 : ∀ v, v < 8 → ((85 : Nat).testBit v = false ↔ ¬ v % 2 = 0) ∧ ((170 : Nat).testBit v = false ↔ v % 2 = 0) := by decide
theorem im_st {f : mb_F} (hf : mb_on f (fun v => v < 8)) (Z : Nat) : mi_ (qx_ (85 : Nat).testBit (an_ f (st_ Z))) = st_ (im_ f Z) := by
  refine fn_ext fun x => ?_
  show qx_ (85 : Nat).testBit (an_ f (st_ Z)) (wz_ x) = true ↔ (im_ f Z).testBit (ix_ x) = true
  rw [qx_iff, im_bit f Z (ix_lt x)]
  constructor
  · rintro ⟨w, h1, h2⟩
    obtain ⟨a1, a2⟩ := (Bool.and_eq_true _ _).mp h2
    refine ⟨ix_ w, ix_lt w, a2, ?_⟩
    rw [tr_ix hf] at a1
    rw [← a1]
    congr 1
    refine bx_ext (n := 4) (ix_lt _) (ix_lt _) fun i hi => ?_
    rw [ix_bit _ hi, ix_bit _ hi]
    show x (2 * i) = w ((2 * i) ^^^ 1)
    rw [h1 _ (by rw [x1_lt i hi]; exact (bt85 _ (by omega)).1.mpr (by omega))]
    show x (2 * i) = x ((2 * i) ^^^ 1 ^^^ 1)
    rw [xor_xor]
  · rintro ⟨s, s16, h1, h2⟩
    refine ⟨fun v => if v < 8 then jv_ s (ix_ x) v else wz_ x v, fun v hv => ?_, ?_⟩
    · show (if v < 8 then jv_ s (ix_ x) v else wz_ x v) = wz_ x v
      by_cases c : v < 8
      · rw [if_pos c]
        unfold jv_
        have q := (bt85 v c).1.mp hv
        rw [if_neg q, ix_bit _ (by omega)]
        unfold wz_
        congr 1
        have := x1_v v c q
        rw [← this, xor_xor, this]
      · rw [if_neg c]
    · refine (Bool.and_eq_true _ _).mpr ⟨?_, ?_⟩
      · rw [hf _ (jv_ s (ix_ x)) (fun v hv => by rw [if_pos hv])]; exact h2
      · show Z.testBit (ix_ (fun v => if v < 8 then jv_ s (ix_ x) v else wz_ x v)) = true
        rw [show ix_ (fun v => if v < 8 then jv_ s (ix_ x) v else wz_ x v) = s from ?_]
        · exact h1
        · refine bx_ext (n := 4) (ix_lt _) s16 fun i hi => ?_
          rw [ix_bit _ hi, if_pos (by omega)]
          unfold jv_
          rw [if_pos (by omega), show 2 * i / 2 = i by omega]
theorem pr_st {f : mb_F} (hf : mb_on f (fun v => v < 8)) (Z : Nat) : qx_ (170 : Nat).testBit (an_ f (mi_ (st_ Z))) = st_ (pr_ f Z) := by
  refine fn_ext fun x => ?_
  show qx_ (170 : Nat).testBit (an_ f (mi_ (st_ Z))) x = true ↔ (pr_ f Z).testBit (ix_ x) = true
  rw [qx_iff, pr_bit f Z (ix_lt x)]
  constructor
  · rintro ⟨w, h1, h2⟩
    obtain ⟨a1, a2⟩ := (Bool.and_eq_true _ _).mp h2
    refine ⟨ix_ (wz_ w), ix_lt _, a2, ?_⟩
    rw [tr_ix hf] at a1
    rw [← a1]
    congr 1
    refine bx_ext (n := 4) (ix_lt _) (ix_lt _) fun i hi => ?_
    rw [ix_bit _ hi, ix_bit _ hi]
    exact (h1 _ ((bt85 _ (by omega)).2.mpr (by omega))).symm
  · rintro ⟨u, u16, h1, h2⟩
    refine ⟨fun v => if v < 8 then jv_ (ix_ x) u v else x v, fun v hv => ?_, ?_⟩
    · show (if v < 8 then jv_ (ix_ x) u v else x v) = x v
      by_cases c : v < 8
      · rw [if_pos c]
        unfold jv_
        have q := (bt85 v c).2.mp hv
        rw [if_pos q, ix_bit _ (by omega), show 2 * (v / 2) = v by omega]
      · rw [if_neg c]
    · refine (Bool.and_eq_true _ _).mpr ⟨?_, ?_⟩
      · rw [hf _ (jv_ (ix_ x) u) (fun v hv => by rw [if_pos hv])]; exact h2
      · show Z.testBit (ix_ (wz_ (fun v => if v < 8 then jv_ (ix_ x) u v else x v))) = true
        rw [show ix_ (wz_ (fun v => if v < 8 then jv_ (ix_ x) u v else x v)) = u from ?_]
        · exact h1
        · refine bx_ext (n := 4) (ix_lt _) u16 fun i hi => ?_
          rw [ix_bit _ hi]
          unfold wz_
          rw [x1_lt i hi]
          show (if 2 * i + 1 < 8 then jv_ (ix_ x) u (2 * i + 1) else x (2 * i + 1)) = _
          rw [if_pos (by omega)]
          unfold jv_
          rw [if_neg (by omega), show (2 * i + 1) / 2 = i by omega]
theorem st_on (Z : Nat) : mb_on (st_ Z) (fun v => v ∈ [0, 2, 4, 6]) := by
  intro a b h
  unfold st_
  rw [show ix_ a = ix_ b from bx_ext (n := 4) (ix_lt _) (ix_lt _) fun i hi => by
    rw [ix_bit _ hi, ix_bit _ hi]
    refine h _ ?_
    rcases (show i = 0 ∨ i = 1 ∨ i = 2 ∨ i = 3 by omega) with rfl | rfl | rfl | rfl <;> decide]
theorem mb_on_no {f : mb_F} {P : Nat → Prop} {w : Nat} (h : mb_on f P) (hw : mb_in f w) : mb_on f (fun v => P v ∧ v ≠ w) := by
  intro a b q
  rw [← hw a (b w)]
  refine h _ _ fun v hv => ?_
  by_cases c : v = w
  · rw [c, mb_up_eq]
  · rw [mb_up_ne c]; exact q v ⟨hv, c⟩
def sz_ (f : mb_F) : Nat := nb_ (fun s => tr_ f s 0) 16
theorem sz_lt (f : mb_F) : sz_ f < 65536 := nb_lt _ 16
theorem sz_st {f : mb_F} (hf : mb_on f (fun v => v < 8)) (ho : ∀ v, v < 8 → ¬ v % 2 = 0 → mb_in f v) : f = st_ (sz_ f) := by
  have h := mb_on_no (mb_on_no (mb_on_no (mb_on_no hf (ho 1 (by decide) (by decide))) (ho 3 (by decide) (by decide))) (ho 5 (by decide) (by decide))) (ho 7 (by decide) (by decide))
  funext a
  show f a = (nb_ (fun s => tr_ f s 0) 16).testBit (ix_ a)
  rw [nb_bit, decide_eq_true (ix_lt a), Bool.true_and]
  refine h _ _ fun v hv => ?_
  have : v % 2 = 0 := by
    obtain ⟨⟨⟨⟨h0, h1⟩, h3⟩, h5⟩, h7⟩ := hv
    omega
  unfold jv_
  rw [if_pos this, ix_bit _ (by have := hv.1.1.1.1; omega), show 2 * (v / 2) = v by omega]
theorem st_inj {Y Z : Nat} (hY : Y < 65536) (hZ : Z < 65536) (h : st_ Y = st_ Z) : Y = Z := bx_ext (n := 16) hY hZ fun i hi => by
  have := congrFun h (jv_ i 0)
  unfold st_ at this
  rwa [ix_jv 0 (show i < 16 from hi)] at this
theorem su_set : ∀ S, S < 256 → ((nI S &&& (170 : Int32)) = 0 ↔ ∀ v, v < 8 → ¬ v % 2 = 0 → S.testBit v = false) := by decide +kernel
theorem su_ev {f : mb_F} {S : Nat} (h : su_ f S) : (nI S &&& (170 : Int32)) = 0 ↔ ∀ v, v < 8 → ¬ v % 2 = 0 → mb_in f v := by
  rw [su_set S h.1]
  refine forall_congr' fun v => forall_congr' fun v8 => forall_congr' fun _ => ?_
  constructor
  · intro e
    apply Classical.byContradiction
    intro c
    rw [(h.2 v v8).mpr c] at e
    cases e
  · intro e
    cases hb : S.testBit v
    · rfl
    · exact absurd e ((h.2 v v8).mp hb)
-- weights
theorem cn_half {f : mb_F} {k : Nat} (h : mb_in f k) (a : mb_V) : cn_ (k + 1) f a = 2 * cn_ k f a := by
  have key : ∀ b, cn_ k f (mb_up a k b) = cn_ k f a := fun b => cn_congr k f f _ _ (fun x y h1 h2 h3 => by
    rw [← h y b]
    congr 1
    funext w
    by_cases c : w = k
    · subst c; rw [mb_up_eq, h2 w (Nat.le_refl _), mb_up_eq]
    · rw [mb_up_ne c]
      rcases Nat.lt_or_ge w k with d | d
      · exact h1 w d
      · rw [h2 w d, mb_up_ne c, h3 w d])
  show cn_ k f (mb_up a k false) + cn_ k f (mb_up a k true) = _
  rw [key, key]
  omega
theorem ix_up : ∀ b6 b4 b2 b0 : Bool, ix_ (mb_up (mb_up (mb_up (mb_up (fun _ => false) 6 b6) 4 b4) 2 b2) 0 b0) = b0.toNat + 2 * b2.toNat + 4 * b4.toNat + 8 * b6.toNat := by decide
theorem st_wt (Z : Nat) : ct_8 (st_ Z) = 16 * sm_s (fun k => (Z.testBit k).toNat) 16 := by
  have h7 : ∀ a, cn_ 8 (st_ Z) a = 2 * cn_ 7 (st_ Z) a := cn_half (mb_on_in (st_on Z) (by decide))
  have h5 : ∀ a, cn_ 6 (st_ Z) a = 2 * cn_ 5 (st_ Z) a := cn_half (mb_on_in (st_on Z) (by decide))
  have h3 : ∀ a, cn_ 4 (st_ Z) a = 2 * cn_ 3 (st_ Z) a := cn_half (mb_on_in (st_on Z) (by decide))
  have h1 : ∀ a, cn_ 2 (st_ Z) a = 2 * cn_ 1 (st_ Z) a := cn_half (mb_on_in (st_on Z) (by decide))
  have d6 : ∀ a, cn_ 7 (st_ Z) a = cn_ 6 (st_ Z) (mb_up a 6 false) + cn_ 6 (st_ Z) (mb_up a 6 true) := fun _ => rfl
  have d4 : ∀ a, cn_ 5 (st_ Z) a = cn_ 4 (st_ Z) (mb_up a 4 false) + cn_ 4 (st_ Z) (mb_up a 4 true) := fun _ => rfl
  have d2 : ∀ a, cn_ 3 (st_ Z) a = cn_ 2 (st_ Z) (mb_up a 2 false) + cn_ 2 (st_ Z) (mb_up a 2 true) := fun _ => rfl
  have d0 : ∀ a, cn_ 1 (st_ Z) a = (st_ Z (mb_up a 0 false)).toNat + (st_ Z (mb_up a 0 true)).toNat := fun _ => rfl
  unfold ct_8
  simp only [h7, d6, h5, d4, h3, d2, h1, d0, st_, ix_up]
  simp only [sm_s, Bool.toNat_false, Bool.toNat_true, Nat.mul_zero, Nat.mul_one, Nat.add_zero, Nat.zero_add, Nat.reduceAdd]
  omega
