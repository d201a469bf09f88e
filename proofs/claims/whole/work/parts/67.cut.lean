/-! cutBy of the reference. My own. -/
def ctb_ (t : wt_M) (c x : Nat) : Bool := (t.2 1 (4 * c + x / 64)).toBitVec.getLsbD (x % 64)
theorem mk_bits : ∀ v, v < 6 → ∀ p, p < 64 → (mc6_ v).toBitVec.getLsbD p = p.testBit v := by decide +kernel
theorem sh_amt : ∀ v, v < 6 → ((((1 : Int32) <<< (nI v &&& 31)).toInt64.toUInt64 &&& Int64.toUInt64 63) = UInt64.ofNat (2 ^ v)) ∧ ((((1 : Int32) <<< (nI v &&& 31)).toInt64 &&& 63) = lN (2 ^ v)) ∧ 2 ^ v < 64 := by decide +kernel
theorem us_bits (X : Int64) {k : Nat} (hk : k < 64) (p : Nat) : (X.toUInt64 >>> UInt64.ofNat k).toInt64.toBitVec.getLsbD p = X.toBitVec.getLsbD (k + p) := by
  have e : (X.toUInt64 >>> UInt64.ofNat k).toInt64.toBitVec = X.toBitVec >>> ((UInt64.ofNat k).toBitVec % 64) := rfl
  have e2 : ((UInt64.ofNat k).toBitVec % 64).toNat = k := by
    show ((BitVec.ofNat 64 k) % 64).toNat = k
    rw [BitVec.toNat_umod, BitVec.toNat_ofNat]
    show k % 2 ^ 64 % 64 = k
    omega
  rw [e, BitVec.ushiftRight_eq', e2, BitVec.getLsbD_ushiftRight]
theorem sl_bits (X : Int64) {k : Nat} (hk : k < 64) {p : Nat} (hp : p < 64) : (X <<< lN k).toBitVec.getLsbD p = (!decide (p < k) && X.toBitVec.getLsbD (p - k)) := by
  have e : (X <<< lN k).toBitVec = X.toBitVec <<< ((lN k).toBitVec.smod 64) := rfl
  rw [e, BitVec.shiftLeft_eq', lN_smod k hk, BitVec.getLsbD_shiftLeft]
  simp [hp]
theorem p6_on : ∀ v, v < 6 → ∀ p, p < 64 → wb_ p v true < 64 ∧ (p.testBit v = true → wb_ p v true = p ∧ (2 ^ v + p < 64 → (2 ^ v + p).testBit v = false)) ∧ (p.testBit v = false → wb_ p v true = 2 ^ v + p ∧ (2 ^ v + p).testBit v = true ∧ 2 ^ v + p < 64) := by decide +kernel
theorem p6_off : ∀ v, v < 6 → ∀ p, p < 64 → wb_ p v false < 64 ∧ (p.testBit v = false → wb_ p v false = p ∧ (2 ^ v ≤ p → (p - 2 ^ v).testBit v = true)) ∧ (p.testBit v = true → wb_ p v false = p - 2 ^ v ∧ (p - 2 ^ v).testBit v = false ∧ 2 ^ v ≤ p) := by decide +kernel
theorem cut_on (w : Int64) {v p : Nat} (hv : v < 6) (hp : p < 64) : ((w &&& mc6_ v) ||| ((w &&& mc6_ v).toUInt64 >>> (((1 : Int32) <<< (nI v &&& 31)).toInt64.toUInt64 &&& Int64.toUInt64 63)).toInt64).toBitVec.getLsbD p = w.toBitVec.getLsbD (wb_ p v true) := by
  obtain ⟨s1, s2, s3⟩ := sh_amt v hv
  obtain ⟨b1, b2, b3⟩ := p6_on v hv p hp
  have ea : ∀ q, (w &&& mc6_ v).toBitVec.getLsbD q = (w.toBitVec.getLsbD q && (mc6_ v).toBitVec.getLsbD q) := fun q => by
    show (w.toBitVec &&& (mc6_ v).toBitVec).getLsbD q = _
    rw [BitVec.getLsbD_and]
  show ((w &&& mc6_ v).toBitVec ||| _).getLsbD p = _
  rw [BitVec.getLsbD_or, s1, us_bits _ s3, ea, ea, mk_bits v hv p hp]
  cases hb : p.testBit v
  · obtain ⟨c1, c2, c3⟩ := b3 hb
    rw [c1, mk_bits v hv _ c3, c2]
    simp
  · obtain ⟨c1, c2⟩ := b2 hb
    rw [c1]
    by_cases d : 2 ^ v + p < 64
    · rw [mk_bits v hv _ d, c2 d]; simp
    · rw [BitVec.getLsbD_of_ge (mc6_ v).toBitVec _ (by omega)]; simp
theorem cut_off (w : Int64) {v p : Nat} (hv : v < 6) (hp : p < 64) : ((w &&& (mc6_ v ^^^ (-1))) ||| ((w &&& (mc6_ v ^^^ (-1))) <<< (((1 : Int32) <<< (nI v &&& 31)).toInt64 &&& 63))).toBitVec.getLsbD p = w.toBitVec.getLsbD (wb_ p v false) := by
  obtain ⟨s1, s2, s3⟩ := sh_amt v hv
  obtain ⟨b1, b2, b3⟩ := p6_off v hv p hp
  have em : ∀ q, q < 64 → (mc6_ v ^^^ (-1)).toBitVec.getLsbD q = !q.testBit v := fun q hq => by
    show ((mc6_ v).toBitVec ^^^ (-1 : Int64).toBitVec).getLsbD q = _
    rw [BitVec.getLsbD_xor, mk_bits v hv q hq, show (-1 : Int64).toBitVec = BitVec.allOnes 64 by decide, BitVec.getLsbD_allOnes, decide_eq_true hq, Bool.xor_true]
  have ea : ∀ q, (w &&& (mc6_ v ^^^ (-1))).toBitVec.getLsbD q = (w.toBitVec.getLsbD q && (mc6_ v ^^^ (-1)).toBitVec.getLsbD q) := fun q => by
    show (w.toBitVec &&& (mc6_ v ^^^ (-1)).toBitVec).getLsbD q = _
    rw [BitVec.getLsbD_and]
  show ((w &&& (mc6_ v ^^^ (-1))).toBitVec ||| _).getLsbD p = _
  rw [BitVec.getLsbD_or, s2, sl_bits _ s3 hp, ea, ea, em p hp, em (p - 2 ^ v) (Nat.lt_of_le_of_lt (Nat.sub_le _ _) hp)]
  cases hb : p.testBit v
  · obtain ⟨c1, c2⟩ := b2 hb
    rw [c1]
    by_cases d : p < 2 ^ v
    · simp [d]
    · rw [c2 (by omega)]; simp
  · obtain ⟨c1, c2, c3⟩ := b3 hb
    rw [c1, c2]
    have : ¬ p < 2 ^ v := by omega
    simp [this]
theorem w6_lo : ∀ v, v < 6 → ∀ i, i < 4 → ∀ p, p < 64 → (wb_ (64 * i + p) v true = 64 * i + wb_ p v true) ∧ (wb_ (64 * i + p) v false = 64 * i + wb_ p v false) := by decide +kernel
theorem w6_hi : ∀ v, v < 2 → ∀ i, i < 4 → ∀ p, p < 64 → (wb_ (64 * i + p) (6 + v) true = 64 * wb_ i v true + p) ∧ (wb_ (64 * i + p) (6 + v) false = 64 * wb_ i v false + p) := by decide +kernel
theorem w6_ix : ∀ v, v < 2 → ∀ i, i < 4 → (nI i ||| ((1 : Int32) <<< ((nI (6 + v) - 6) &&& 31))) = nI (wb_ i v true) ∧ (nI i &&& (((1 : Int32) <<< ((nI (6 + v) - 6) &&& 31)) ^^^ (-1))) = nI (wb_ i v false) ∧ wb_ i v true < 4 ∧ wb_ i v false < 4 := by decide +kernel
theorem ctb_at (t : wt_M) (c i p : Nat) (hp : p < 64) : ctb_ t c (64 * i + p) = (t.2 1 (4 * c + i)).toBitVec.getLsbD p := by
  unfold ctb_
  rw [show (64 * i + p) / 64 = i by omega, show (64 * i + p) % 64 = p by omega]
theorem cu_loop {c v : Nat} (hc : c < 4000) (hv : v < 8) (b : Bool) : ∀ (d n i : Nat) (t : wt_M), i + d = 4 → d < n → (∀ w, w < 6 → t.2 2 w = mc6_ w) → ∃ t', fm_cutBy_L3 (nI c) (nI v) (nI b.toNat) n (nI i) t = some t' ∧ t'.1 = t.1 ∧ (∀ q j, ¬ (q = 0 ∧ 68 + i ≤ j ∧ j < 72) → t'.2 q j = t.2 q j) ∧ ∀ j, i ≤ j → j < 4 → ∀ p, p < 64 → (t'.2 0 (68 + j)).toBitVec.getLsbD p = ctb_ t c (wb_ (64 * j + p) v b) := by
  intro d
  induction d with
  | zero =>
    intro n i t h1 hn hm
    cases n with
    | zero => omega
    | succ n =>
      rw [fm_cutBy_L3, if_pos (show (4 : Int32) ≤ nI i from nI_le (a := 4) (by omega) (by omega))]
      exact ⟨t, rfl, rfl, fun _ _ _ => rfl, fun j _ _ => by omega⟩
  | succ d ih =>
    intro n i t h1 hn hm
    cases n with
    | zero => omega
    | succ n =>
      have i4 : i < 4 := by omega
      have go : ∀ W : Int64, (∀ p, p < 64 → W.toBitVec.getLsbD p = ctb_ t c (wb_ (64 * i + p) v b)) → ∃ t', (wr_L t 0 72 ((68 : Int32) + nI i) W fun t138 => fm_cutBy_L3 (nI c) (nI v) (nI b.toNat) n (nI i + 1) t138) = some t' ∧ t'.1 = t.1 ∧ (∀ q j, ¬ (q = 0 ∧ 68 + i ≤ j ∧ j < 72) → t'.2 q j = t.2 q j) ∧ ∀ j, i ≤ j → j < 4 → ∀ p, p < 64 → (t'.2 0 (68 + j)).toBitVec.getLsbD p = ctb_ t c (wb_ (64 * j + p) v b) := by
        intro W hW
        rw [show (68 : Int32) = nI 68 from rfl, nI_add, wc_L (by omega) (by decide), nI_1]
        obtain ⟨t', q1, q2, q3, q4⟩ := ih n (i + 1) (t.1, pu_L t.2 0 (68 + i) W) (by omega) (by omega) (fun w hw => by
          show pu_L t.2 0 (68 + i) W 2 w = _
          rw [puL_at, if_neg (fun z => by omega)]; exact hm w hw)
        refine ⟨t', q1, q2, fun q j hn => ?_, fun j h3 h4 p hp => ?_⟩
        · rw [q3 q j (fun z => hn ⟨z.1, by omega, z.2.2⟩)]
          show pu_L t.2 0 (68 + i) W q j = _
          rw [puL_at, if_neg (fun z => hn ⟨z.1, by omega, by omega⟩)]
        · by_cases e : j = i
          · subst e
            rw [q3 0 _ (fun z => by omega)]
            show (pu_L t.2 0 (68 + j) W 0 (68 + j)).toBitVec.getLsbD p = _
            rw [puL_at, if_pos ⟨rfl, rfl⟩]
            exact hW p hp
          · rw [q4 j (by omega) h4 p hp]
            unfold ctb_
            show (pu_L t.2 0 (68 + i) W 1 _).toBitVec.getLsbD _ = _
            rw [puL_at, if_neg (fun z => by omega)]
      have ix : ∀ k, k < 4 → ((4 : Int32) * nI c) + nI k = nI (4 * c + k) := fun k _ => by rw [show (4 : Int32) = nI 4 from rfl, pk_mul, nI_add]
      rw [fm_cutBy_L3, if_neg (show ¬ (4 : Int32) ≤ nI i from nI_ge (b := 4) i4 (by decide)), ix i i4, rc_atL (by omega) (by decide)]
      simp only [jn_]
      rcases Nat.lt_or_ge v 6 with c6 | c6
      · rw [if_neg (show ¬ (6 : Int32) ≤ nI v from nI_ge (b := 6) c6 (by decide))]
        cases b with
        | false =>
          rw [if_pos (show nI false.toNat = (0 : Int32) from nI_0), rc_atL (by omega) (by decide), if_pos (show nI false.toNat = (0 : Int32) from nI_0), hm v c6]
          refine go _ (fun p hp => ?_)
          have b1 := (p6_off v c6 p hp).1
          rw [cut_off _ c6 hp, (w6_lo v c6 i i4 p hp).2, ctb_at t c i _ b1]
        | true =>
          rw [if_neg (show ¬ nI true.toNat = (0 : Int32) by decide), rc_atL (by omega) (by decide), if_neg (show ¬ nI true.toNat = (0 : Int32) by decide), hm v c6]
          refine go _ (fun p hp => ?_)
          have b1 := (p6_on v c6 p hp).1
          rw [cut_on _ c6 hp, (w6_lo v c6 i i4 p hp).1, ctb_at t c i _ b1]
      · obtain ⟨v', rfl⟩ : ∃ v', v = 6 + v' := ⟨v - 6, by omega⟩
        obtain ⟨x1, x2, x3, x4⟩ := w6_ix v' (by omega) i i4
        rw [if_pos (show (6 : Int32) ≤ nI (6 + v') from nI_le (a := 6) c6 (by omega))]
        cases b with
        | false =>
          rw [if_pos (show nI false.toNat = (0 : Int32) from nI_0), x2, ix _ x4, rc_atL (by omega) (by decide)]
          refine go _ (fun p hp => ?_)
          rw [(w6_hi v' (by omega) i i4 p hp).2, ctb_at t c _ p hp]
        | true =>
          rw [if_neg (show ¬ nI true.toNat = (0 : Int32) by decide), x1, ix _ x3, rc_atL (by omega) (by decide)]
          refine go _ (fun p hp => ?_)
          rw [(w6_hi v' (by omega) i i4 p hp).1, ctb_at t c _ p hp]
theorem cu_ok {t : wt_M} {c v : Nat} (hc : c < 4000) (hv : v < 8) (b : Bool) (hm : ∀ w, w < 6 → t.2 2 w = mc6_ w) : ∃ t', fm_cutBy t (nI c) (nI v) (nI b.toNat) = some t' ∧ t'.1 = t.1 ∧ (∀ q j, ¬ (q = 0 ∧ 68 ≤ j ∧ j < 72) → t'.2 q j = t.2 q j) ∧ ∀ x, x < 256 → tb_ t' 17 x = ctb_ t c (wb_ x v b) := by
  unfold fm_cutBy
  obtain ⟨t', q1, q2, q3, q4⟩ := cu_loop hc hv b 4 5000 0 t (by omega) (by omega) hm
  rw [nI_0] at q1
  refine ⟨t', q1, q2, fun q j hn => q3 q j (fun z => hn ⟨z.1, by omega, z.2.2⟩), fun x hx => ?_⟩
  have := q4 (x / 64) (Nat.zero_le _) (by omega) (x % 64) (by omega)
  rw [show 64 * (x / 64) + x % 64 = x by omega] at this
  unfold tb_
  exact this
