/-! The reference's sets: spread, statesOf, learnSteps, imageOf, stepsTo, sizeOf, keepStates, isSet. My own. -/
def sp2_ (s u : Nat) : Nat := nb_ (fun v => jv_ s u v) 8
theorem sp_chk : ∀ s, s < 16 → ∀ u, u < 16 → ((((nI s &&& (1 : Int32)) ||| ((nI s &&& (2 : Int32)) <<< ((1 : Int32) &&& 31))) ||| ((nI s &&& (4 : Int32)) <<< ((2 : Int32) &&& 31))) ||| ((nI s &&& (8 : Int32)) <<< ((3 : Int32) &&& 31))) ||| (((((nI u &&& (1 : Int32)) ||| ((nI u &&& (2 : Int32)) <<< ((1 : Int32) &&& 31))) ||| ((nI u &&& (4 : Int32)) <<< ((2 : Int32) &&& 31))) ||| ((nI u &&& (8 : Int32)) <<< ((3 : Int32) &&& 31))) <<< ((1 : Int32) &&& 31)) = nI (sp2_ s u) := by decide +kernel
theorem sp_chk0 : ∀ s, s < 16 → ((((nI s &&& (1 : Int32)) ||| ((nI s &&& (2 : Int32)) <<< ((1 : Int32) &&& 31))) ||| ((nI s &&& (4 : Int32)) <<< ((2 : Int32) &&& 31))) ||| ((nI s &&& (8 : Int32)) <<< ((3 : Int32) &&& 31))) = nI (sp2_ s 0) := by decide +kernel
theorem sp2_lt (s u : Nat) : sp2_ s u < 256 := nb_lt _ 8
theorem sp2_tr {f : mb_F} (hf : mb_on f (fun v => v < 8)) (s u : Nat) : f (sp2_ s u).testBit = tr_ f s u := hf _ _ fun v hv => by
  unfold sp2_
  rw [nb_bit, decide_eq_true hv, Bool.true_and]
theorem s1_16 : ∀ k, k < 16 → ((1 : Int32) <<< (nI k &&& 31)) = nI (2 ^ k) := by decide +kernel
theorem k_smod : ∀ k, k < 16 → ((nI k &&& 31).toBitVec.smod 32).toNat = k := by decide +kernel
theorem z_bit {Z k : Nat} (hZ : Z < 65536) (hk : k < 16) : ((nI Z >>> (nI k &&& 31)) &&& 1) = nI (Z.testBit k).toNat := by
  rw [pk_shrN (by omega) _ k (k_smod k hk), show (1 : Int32) = nI 1 from rfl, nI_and]
  congr 1
  rw [Nat.testBit_eq_decide_div_mod_eq, Nat.and_one_is_mod]
  rcases (show Z / 2 ^ k % 2 = 0 ∨ Z / 2 ^ k % 2 = 1 by omega) with c | c <;> rw [c] <;> rfl
theorem z_one {Z k : Nat} (hZ : Z < 65536) (hk : k < 16) : ((nI Z >>> (nI k &&& 31)) &&& 1) = 1 ↔ Z.testBit k = true := by
  rw [z_bit hZ hk]
  cases Z.testBit k <;> decide
theorem nb_step (p : Nat → Bool) (k : Nat) (hk : k < 16) : nI (nb_ p k) ||| (if p k then nI (2 ^ k) else 0) = nI (nb_ p (k + 1)) := by
  show _ = nI (nb_ p k ||| (if p k then 2 ^ k else 0))
  rw [← nI_or]
  cases p k
  · rw [if_neg (by decide), if_neg (by decide), nI_0]
  · rw [if_pos rfl, if_pos rfl]
section MS
variable {t : wt_M} {F : Nat → mb_F} {o : Nat → Nat}
theorem n16 {x : Nat} (hx : x < 16) : ¬ (16 : Int32) ≤ nI x := nI_ge (b := 16) hx (by decide)
theorem t16 : (16 : Int32) ≤ nI 16 := by decide
theorem so_loop {a : Nat} (ha : a < 16) (h : mo_ t F o) (hf : mb_on (F a) (fun v => v < 8)) : ∀ (d n k : Nat), k + d = 16 → d < n → fm_statesOf_L4 t (nI a) n (nI (nb_ (fun s => tr_ (F a) s 0) k)) (nI k) = some (nI (sz_ (F a))) := by
  intro d
  induction d with
  | zero =>
    intro n k h1 hn
    cases n with
    | zero => omega
    | succ n =>
      have e : k = 16 := by omega
      subst e
      rw [fm_statesOf_L4, if_pos t16]
      rfl
  | succ d ih =>
    intro n k h1 hn
    cases n with
    | zero => omega
    | succ n =>
      have k16 : k < 16 := by omega
      rw [fm_statesOf_L4, if_neg (n16 k16)]
      unfold fm_spread
      rw [bI_some, sp_chk0 k k16, mv_ok t (by omega) (sp2_lt k 0), bI_some, h.1 a ha _ (sp2_lt k 0), sp2_tr hf]
      dsimp only [jn_]
      have st := nb_step (fun s => tr_ (F a) s 0) k k16
      have nx := ih n (k + 1) (by omega) (by omega)
      cases e : tr_ (F a) k 0
      · rw [e, if_neg (by decide)] at st
        rw [if_pos (show nI false.toNat = (0 : Int32) from nI_0), st, nI_1]; exact nx
      · rw [e, if_pos rfl] at st
        rw [if_neg (show ¬ nI true.toNat = (0 : Int32) by decide), s1_16 k k16, st, nI_1]; exact nx
theorem sto_ok {a : Nat} (ha : a < 16) (h : mo_ t F o) (hf : mb_on (F a) (fun v => v < 8)) : fm_statesOf t (nI a) = some (nI (sz_ (F a))) := by
  have := so_loop ha h hf 16 5000 0 (by omega) (by omega)
  rw [nI_0] at this
  unfold fm_statesOf
  exact this
/-- the row of steps -/
def lt_ (t : wt_M) (f : mb_F) : Prop := ∀ s, s < 16 → t.1 5 s = nI (nb_ (fun u => tr_ f s u) 16)
theorem l17_loop {a s : Nat} (ha : a < 16) (hs : s < 16) (hf : mb_on (F a) (fun v => v < 8)) (K : wt_M → Option wt_M) : ∀ (d n k : Nat) (t : wt_M), k + d = 16 → d < n → (∀ x, x < 256 → tb_ t a x = F a x.testBit) → t.1 5 s = nI (nb_ (fun u => tr_ (F a) s u) k) → ∃ t', fm_learnSteps_L17 (nI a) (nI s) K n (nI k) t = K t' ∧ t'.2 = t.2 ∧ (∀ r j, ¬ (r = 5 ∧ j = s) → t'.1 r j = t.1 r j) ∧ t'.1 5 s = nI (nb_ (fun u => tr_ (F a) s u) 16) := by
  intro d
  induction d with
  | zero =>
    intro n k t h1 hn hm h5
    cases n with
    | zero => omega
    | succ n =>
      have e : k = 16 := by omega
      subst e
      rw [fm_learnSteps_L17, if_pos t16]
      exact ⟨t, rfl, rfl, fun _ _ _ => rfl, h5⟩
  | succ d ih =>
    intro n k t h1 hn hm h5
    cases n with
    | zero => omega
    | succ n =>
      have k16 : k < 16 := by omega
      rw [fm_learnSteps_L17, if_neg (n16 k16), rc_at hs (by decide), h5]
      unfold fm_spread
      rw [bI_some, bI_some, sp_chk s hs k k16, mv_ok t (by omega) (sp2_lt s k), bI_some, hm _ (sp2_lt s k), sp2_tr hf]
      dsimp only [jn_]
      have st := nb_step (fun u => tr_ (F a) s u) k k16
      have nx : ∃ t', fm_learnSteps_L17 (nI a) (nI s) K n (nI (k + 1)) (pu_S t.1 5 s (nI (nb_ (fun u => tr_ (F a) s u) (k + 1))), t.2) = K t' ∧ t'.2 = t.2 ∧ (∀ r j, ¬ (r = 5 ∧ j = s) → t'.1 r j = t.1 r j) ∧ t'.1 5 s = nI (nb_ (fun u => tr_ (F a) s u) 16) := by
        obtain ⟨t', e, q1, q2, q3⟩ := ih n (k + 1) (pu_S t.1 5 s (nI (nb_ (fun u => tr_ (F a) s u) (k + 1))), t.2) (by omega) (by omega) hm (pu_eq t.1 5 s _)
        refine ⟨t', e, q1, fun r j hn => ?_, q3⟩
        rw [q2 r j hn]
        show pu_S t.1 5 s _ r j = _
        rw [pu_at, if_neg hn]
      cases e : tr_ (F a) s k
      · rw [e, if_neg (by decide)] at st
        rw [if_pos (show nI false.toNat = (0 : Int32) from nI_0), st, wc_T hs (by decide), nI_1]; exact nx
      · rw [e, if_pos rfl] at st
        rw [if_neg (show ¬ nI true.toNat = (0 : Int32) by decide), s1_16 k k16, st, wc_T hs (by decide), nI_1]; exact nx
theorem l2_loop {a : Nat} (ha : a < 16) (hf : mb_on (F a) (fun v => v < 8)) : ∀ (d n s : Nat) (t : wt_M), s + d = 16 → d < n → (∀ x, x < 256 → tb_ t a x = F a x.testBit) → (∀ j, j < s → t.1 5 j = nI (nb_ (fun u => tr_ (F a) j u) 16)) → ∃ t', fm_learnSteps_L2 (nI a) n (nI s) t = some t' ∧ t'.2 = t.2 ∧ (∀ r j, r ≠ 5 → t'.1 r j = t.1 r j) ∧ lt_ t' (F a) := by
  intro d
  induction d with
  | zero =>
    intro n s t h1 hn hm h5
    cases n with
    | zero => omega
    | succ n =>
      have e : s = 16 := by omega
      subst e
      rw [fm_learnSteps_L2, if_pos t16]
      exact ⟨t, rfl, rfl, fun _ _ _ => rfl, h5⟩
  | succ d ih =>
    intro n s t h1 hn hm h5
    cases n with
    | zero => omega
    | succ n =>
      have s16 : s < 16 := by omega
      rw [fm_learnSteps_L2, if_neg (n16 s16), wc_T s16 (by decide)]
      obtain ⟨t1, e1, a1, a2, a3⟩ := l17_loop ha s16 hf (fun (t_17 : wt_M) => fm_learnSteps_L2 (nI a) n (nI s + 1) t_17) 16 5000 0 (pu_S t.1 5 s 0, t.2) (by omega) (by omega) hm (by
        show pu_S t.1 5 s 0 5 s = _
        rw [pu_eq]
        rfl)
      rw [nI_0] at e1
      obtain ⟨t2, e2, b1, b2, b3⟩ := ih n (s + 1) t1 (by omega) (by omega) (fun x hx => by
        unfold tb_
        rw [a1]; exact hm x hx) (fun j hj => by
        by_cases c : j = s
        · rw [c]; exact a3
        · rw [a2 5 j (fun z => c z.2)]
          show pu_S t.1 5 s 0 5 j = _
          rw [pu_ne c]; exact h5 j (by omega))
      refine ⟨t2, ?_, by rw [b1, a1], fun r j hr => ?_, b3⟩
      · refine e1.trans ?_
        show fm_learnSteps_L2 (nI a) n (nI s + 1) t1 = _
        rw [nI_1]; exact e2
      · rw [b2 r j hr, a2 r j (fun z => hr z.1)]
        exact pu_row hr
theorem lea_ok {a : Nat} (ha : a < 16) (hf : mb_on (F a) (fun v => v < 8)) (h : mo_ t F o) : ∃ t', fm_learnSteps t (nI a) = some t' ∧ mo_ t' F o ∧ t'.1 9 0 = t.1 9 0 ∧ lt_ t' (F a) := by
  obtain ⟨t', e, q1, q2, q3⟩ := l2_loop ha hf 16 5000 0 t (by omega) (by omega) (h.1 a ha) (fun j hj => by omega)
  rw [nI_0] at e
  refine ⟨t', by unfold fm_learnSteps; exact e, ⟨fun r hr x hx => ?_, fun j hj => by rw [q2 0 j (by decide)]; exact h.2.1 j hj, fun v hv => by rw [q1]; exact h.2.2 v hv⟩, q2 9 0 (by decide), q3⟩
  unfold tb_
  rw [q1]; exact h.1 r hr x hx
def io_ (f : mb_F) (Z : Nat) : Nat → Nat
  | 0 => 0
  | k + 1 => io_ f Z k ||| (if Z.testBit k then nb_ (fun u => tr_ f k u) 16 else 0)
theorem io_bit (f : mb_F) (Z : Nat) {u : Nat} (hu : u < 16) : ∀ k, k ≤ 16 → ((io_ f Z k).testBit u = true ↔ ∃ s, s < k ∧ Z.testBit s = true ∧ tr_ f s u = true) := by
  intro k
  induction k with
  | zero =>
    intro _
    rw [show io_ f Z 0 = 0 from rfl, Nat.zero_testBit]
    exact ⟨fun z => (by cases z), fun ⟨s, hs, _⟩ => by omega⟩
  | succ k ih =>
    intro hk
    show (io_ f Z k ||| (if Z.testBit k then nb_ (fun u => tr_ f k u) 16 else 0)).testBit u = true ↔ _
    rw [Nat.testBit_or, Bool.or_eq_true, ih (by omega)]
    constructor
    · rintro (⟨s, h1, h2⟩ | h)
      · exact ⟨s, by omega, h2⟩
      · cases hb : Z.testBit k
        · rw [hb, if_neg (by decide), Nat.zero_testBit] at h
          cases h
        · rw [hb, if_pos rfl, nb_bit, decide_eq_true hu, Bool.true_and] at h
          exact ⟨k, by omega, hb, h⟩
    · rintro ⟨s, h1, h2, h3⟩
      by_cases c : s = k
      · subst c
        refine Or.inr ?_
        rw [h2, if_pos rfl, nb_bit, decide_eq_true hu, Bool.true_and]
        exact h3
      · exact Or.inl ⟨s, by omega, h2, h3⟩
theorem io_lt (f : mb_F) (Z : Nat) : ∀ k, io_ f Z k < 65536 := by
  intro k
  induction k with
  | zero => exact Nat.le_of_ble_eq_true rfl
  | succ k ih =>
    refine Nat.or_lt_two_pow (n := 16) ih ?_
    cases Z.testBit k
    · rw [if_neg (by decide)]; decide
    · rw [if_pos rfl]; exact nb_lt _ 16
theorem io_im (f : mb_F) (Z : Nat) : io_ f Z 16 = im_ f Z := bx_ext (n := 16) (io_lt f Z 16) (im_lt f Z) fun u hu => Bool.eq_iff_iff.mpr ((io_bit f Z hu 16 (Nat.le_refl _)).trans (im_bit f Z hu).symm)
theorem imo_loop {f : mb_F} (h : lt_ t f) {Z : Nat} (hZ : Z < 65536) : ∀ (d n k : Nat), k + d = 16 → d < n → fm_imageOf_L4 t (nI Z) n (nI (io_ f Z k)) (nI k) = some (nI (im_ f Z)) := by
  intro d
  induction d with
  | zero =>
    intro n k h1 hn
    cases n with
    | zero => omega
    | succ n =>
      have e : k = 16 := by omega
      subst e
      rw [fm_imageOf_L4, if_pos t16, io_im]
  | succ d ih =>
    intro n k h1 hn
    cases n with
    | zero => omega
    | succ n =>
      have k16 : k < 16 := by omega
      rw [fm_imageOf_L4, if_neg (n16 k16)]
      dsimp only [jn_]
      have nx := ih n (k + 1) (by omega) (by omega)
      have st : nI (io_ f Z (k + 1)) = nI (io_ f Z k) ||| nI (if Z.testBit k then nb_ (fun u => tr_ f k u) 16 else 0) := by
        rw [nI_or]; rfl
      cases hb : Z.testBit k
      · rw [if_neg (fun z => by rw [(z_one hZ k16).mp z] at hb; cases hb), nI_1]
        rw [hb, if_neg (by decide), nI_0] at st
        rw [← st]; exact nx
      · rw [if_pos ((z_one hZ k16).mpr hb), rc_at k16 (by decide), h k k16, nI_1]
        rw [hb, if_pos rfl] at st
        rw [← st]; exact nx
theorem imo_ok {f : mb_F} (h : lt_ t f) {Z : Nat} (hZ : Z < 65536) : fm_imageOf t (nI Z) = some (nI (im_ f Z)) := by
  have := imo_loop h hZ 16 5000 0 (by omega) (by omega)
  rw [show io_ f Z 0 = 0 from rfl, nI_0] at this
  unfold fm_imageOf
  exact this
theorem an_any {f : mb_F} {Z s : Nat} : (nb_ (fun u => tr_ f s u) 16 &&& Z = 0) ↔ ((List.range 16).any fun u => Z.testBit u && tr_ f s u) = false := by
  constructor
  · intro h
    apply Bool.eq_false_iff.mpr
    intro c
    obtain ⟨u, h1, h2⟩ := List.any_eq_true.mp c
    obtain ⟨h3, h4⟩ := (Bool.and_eq_true _ _).mp h2
    have := congrArg (fun m => m.testBit u) h
    simp only [Nat.testBit_and, Nat.zero_testBit, nb_bit] at this
    rw [decide_eq_true (List.mem_range.mp h1), h3, h4] at this
    cases this
  · intro h
    apply Nat.eq_of_testBit_eq
    intro u
    rw [Nat.testBit_and, nb_bit, Nat.zero_testBit]
    by_cases c : u < 16
    · apply Bool.eq_false_iff.mpr
      intro z
      rw [decide_eq_true c, Bool.true_and] at z
      obtain ⟨z1, z2⟩ := (Bool.and_eq_true _ _).mp z
      exact absurd (List.any_eq_true.mpr ⟨u, List.mem_range.mpr c, (Bool.and_eq_true _ _).mpr ⟨z2, z1⟩⟩) (by rw [h]; decide)
    · rw [decide_eq_false c]; rfl
theorem sto_loop {f : mb_F} (h : lt_ t f) {Z : Nat} (hZ : Z < 65536) : ∀ (d n k : Nat), k + d = 16 → d < n → fm_stepsTo_L4 t (nI Z) n (nI (nb_ (fun s => (List.range 16).any fun u => Z.testBit u && tr_ f s u) k)) (nI k) = some (nI (pr_ f Z)) := by
  intro d
  induction d with
  | zero =>
    intro n k h1 hn
    cases n with
    | zero => omega
    | succ n =>
      have e : k = 16 := by omega
      subst e
      rw [fm_stepsTo_L4, if_pos t16]
      rfl
  | succ d ih =>
    intro n k h1 hn
    cases n with
    | zero => omega
    | succ n =>
      have k16 : k < 16 := by omega
      rw [fm_stepsTo_L4, if_neg (n16 k16), rc_at k16 (by decide), h k k16, nI_and]
      dsimp only [jn_]
      have nx := ih n (k + 1) (by omega) (by omega)
      have st := nb_step (fun s => (List.range 16).any fun u => Z.testBit u && tr_ f s u) k k16
      have al : nb_ (fun u => tr_ f k u) 16 &&& Z < 2 ^ 31 := Nat.lt_of_le_of_lt Nat.and_le_right (by omega)
      by_cases c : nb_ (fun u => tr_ f k u) 16 &&& Z = 0
      · rw [if_pos (by rw [c]; exact nI_0), nI_1]
        rw [an_any.mp c, if_neg (by decide)] at st
        rw [st]; exact nx
      · have ct : ((List.range 16).any fun u => Z.testBit u && tr_ f k u) = true := by
          cases e : ((List.range 16).any fun u => Z.testBit u && tr_ f k u)
          · exact absurd (an_any.mpr e) c
          · rfl
        rw [if_neg (nI_ne0 (by omega) (by omega)), s1_16 k k16, nI_1]
        rw [ct, if_pos rfl] at st
        rw [st]; exact nx
theorem stt_ok {f : mb_F} (h : lt_ t f) {Z : Nat} (hZ : Z < 65536) : fm_stepsTo t (nI Z) = some (nI (pr_ f Z)) := by
  have := sto_loop h hZ 16 5000 0 (by omega) (by omega)
  rw [show nb_ (fun s => (List.range 16).any fun u => Z.testBit u && tr_ f s u) 0 = 0 from rfl, nI_0] at this
  unfold fm_stepsTo
  exact this
theorem siz_loop {Z : Nat} (hZ : Z < 65536) : ∀ (d n k : Nat), k + d = 16 → d < n → fm_sizeOf_L4 (nI Z) n (nI (sm_s (fun k => (Z.testBit k).toNat) k)) (nI k) = some (nI (sm_s (fun k => (Z.testBit k).toNat) 16)) := by
  intro d
  induction d with
  | zero =>
    intro n k h1 hn
    cases n with
    | zero => omega
    | succ n =>
      have e : k = 16 := by omega
      subst e
      rw [fm_sizeOf_L4, if_pos t16]
  | succ d ih =>
    intro n k h1 hn
    cases n with
    | zero => omega
    | succ n =>
      have k16 : k < 16 := by omega
      rw [fm_sizeOf_L4, if_neg (n16 k16), z_bit hZ k16, nI_add, nI_1]
      exact ih n (k + 1) (by omega) (by omega)
theorem siz_ok {Z : Nat} (hZ : Z < 65536) : fm_sizeOf (nI Z) = some (nI (sm_s (fun k => (Z.testBit k).toNat) 16)) := by
  have := siz_loop hZ 16 5000 0 (by omega) (by omega)
  rw [show sm_s (fun k => (Z.testBit k).toNat) 0 = 0 from rfl, nI_0] at this
  unfold fm_sizeOf
  exact this
theorem ke_chk : ∀ x, x < 256 → ((((nI x &&& (1 : Int32)) ||| ((nI x >>> ((1 : Int32) &&& 31)) &&& (2 : Int32))) ||| ((nI x >>> ((2 : Int32) &&& 31)) &&& (4 : Int32))) ||| ((nI x >>> ((3 : Int32) &&& 31)) &&& (8 : Int32))) = nI (ix_ x.testBit) := by decide +kernel
theorem kes_ok (hm : mo_ t F o) {r Z : Nat} (hr : r < 16) (hZ : Z < 65536) : ∃ t4, fm_keepStates t (nI r) (nI Z) = some t4 ∧ mo_ t4 (fun i => if i = r then st_ Z else F i) o ∧ t4.1 9 0 = t.1 9 0 := by
  unfold fm_keepStates
  obtain ⟨t2, c1, c2, c3⟩ := cle_ok t
  rw [c1, bT_some]
  have same : ∀ t', sm_ t t' → ∀ q, q < 16 → ∀ z, z < 256 → tb_ t' q z = F q z.testBit := fun t' h q hq z hz => by
    rw [sm_tb h (by omega) hz]; exact hm.1 q hq z hz
  obtain ⟨t3, d1, d2, d3⟩ := fs_loop (LP := fm_keepStates_L6 (nI r) (nI Z) (fun t5 => b_T (fm_keep t5 (nI r)) fun t6 => some t6)) (K := fun t5 => b_T (fm_keep t5 (nI r)) fun t6 => some t6) (t0 := t2) (fun x => st_ Z x.testBit) (fun n t => by rw [fm_keepStates_L6, if_pos t256]) (fun n x t' hx hsm => by
    rw [fm_keepStates_L6, if_neg (n256 hx), ke_chk x hx]
    exact ifp (z_one hZ (ix_lt _)) (fun y => b_T (fm_set t' (nI x) y) fun t2 => fm_keepStates_L6 (nI r) (nI Z) (fun t5 => b_T (fm_keep t5 (nI r)) fun t6 => some t6) n (nI x + 1) t2)) c3 (N := 5000) (by omega)
  rw [d1]
  obtain ⟨t4, e1, e2, e3, e4, e5⟩ := kee_ok t3 hr
  have c23 := sm_tr c2 d2
  rw [e1, bT_some]
  have row : t4.1 = t.1 := by rw [e2, c23.1]
  refine ⟨t4, rfl, ⟨fun q hq x hx => ?_, fun j hj => ?_, fun v hv => ?_⟩, by rw [row]⟩
  · show tb_ t4 q x = (if q = r then st_ Z else F q) x.testBit
    by_cases c : q = r
    · subst c
      rw [if_pos rfl, e5 x hx, d3 x hx]
    · rw [if_neg c, e4 q x (by omega) c hx]; exact same t3 c23 q hq x hx
  · rw [row]; exact hm.2.1 j hj
  · rw [e3 2 v (by decide), c23.2 2 v (fun z => by omega)]; exact hm.2.2 v hv
/-- is it a set -/
def ev_ (f : mb_F) : Prop := ∀ v, v < 8 → ¬ v % 2 = 0 → mb_in f v
theorem iss_ok (h : mo_ t F o) {a : Nat} (ha : a < 16) (hf : mb_on (F a) (fun v => v < 8)) : (ev_ (F a) → fm_isSet t (nI a) = some 1) ∧ (¬ ev_ (F a) → fm_isSet t (nI a) = some 0) := by
  obtain ⟨S, s1, s2⟩ := do_m h ha hf
  unfold fm_isSet
  rw [s2, bI_some]
  dsimp only [jn_]
  constructor
  · intro e
    rw [if_pos ((su_ev s1).mpr e)]
    exact rz_b true _
  · intro e
    rw [if_neg (fun z => e ((su_ev s1).mp z))]
    exact rz_b false _
end MS
