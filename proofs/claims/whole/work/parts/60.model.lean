/-! The reference's tables: bits of words. My own. -/
def tb_ (t : wt_M) (q x : Nat) : Bool := (t.2 0 (4 * q + x / 64)).toBitVec.getLsbD (x % 64)
theorem lN_63 : ∀ k, k < 64 → (lN k &&& 63) = lN k := by decide +kernel
theorem lN_one : ∀ k, k < 64 → ((1 : Int64) <<< lN k).toBitVec = BitVec.twoPow 64 k := by decide +kernel
theorem lN_smod : ∀ k, k < 64 → ((lN k).toBitVec.smod 64).toNat = k := by decide +kernel
theorem bit_1 (X : Int64) : (X &&& 1 = 1) ↔ X.toBitVec.getLsbD 0 = true := by
  have e : (X &&& 1).toBitVec = BitVec.setWidth 64 (BitVec.ofBool (X.toBitVec.getLsbD 0)) := by
    show X.toBitVec &&& 1#64 = _
    exact BitVec.and_one_eq_setWidth_ofBool_getLsbD
  rw [← Int64.toBitVec_inj, e]
  cases X.toBitVec.getLsbD 0 <;> decide
theorem sar_bit (w : Int64) {k : Nat} (hk : k < 64) : ((w >>> lN k) &&& 1 = 1) ↔ w.toBitVec.getLsbD k = true := by
  rw [bit_1]
  have e : (w >>> lN k).toBitVec = w.toBitVec.sshiftRight' ((lN k).toBitVec.smod 64) := rfl
  rw [e, BitVec.sshiftRight', lN_smod k hk, BitVec.getLsbD_sshiftRight]
  simp [hk]
theorem ix_ok {q x : Nat} (hq : q < 18) (hx : x < 256) : ((4 : Int32) * nI q) + (nI x >>> ((6 : Int32) &&& 31)) = nI (4 * q + x / 64) := by
  rw [show (4 : Int32) = nI 4 from rfl, pk_mul, pk_shrN (by omega) _ 6 (by decide), nI_add]
theorem iy_ok {x : Nat} (hx : x < 256) : ((nI x &&& (63 : Int32)).toInt64 &&& 63) = lN (x % 64) := by
  rw [pk_andN (by omega) 6 (by decide), nI_l (by omega), lN_63 _ (by omega)]
theorem rz_b (b : Bool) (f : Option Int32) : rz_ (nI b.toNat) f = f := by
  unfold rz_
  rw [if_pos (by cases b <;> decide)]
theorem mv_ok (t : wt_M) {q x : Nat} (hq : q < 18) (hx : x < 256) : fm_value t (nI q) (nI x) = some (nI (tb_ t q x).toNat) := by
  unfold fm_value
  dsimp only [jn_]
  rw [ix_ok hq hx, rc_atL (by omega) (by decide), iy_ok hx]
  unfold tb_
  by_cases c : (t.2 0 (4 * q + x / 64)).toBitVec.getLsbD (x % 64) = true
  · rw [if_pos ((sar_bit _ (by omega)).mpr c), c]
    exact rz_b true _
  · rw [if_neg (fun z => c ((sar_bit _ (by omega)).mp z)), Bool.not_eq_true _ |>.mp c]
    exact rz_b false _
/-- all but the scratch words is the same -/
def sm_ (t0 t : wt_M) : Prop := t.1 = t0.1 ∧ ∀ r j, ¬ (r = 0 ∧ 64 ≤ j ∧ j < 68) → t.2 r j = t0.2 r j
theorem sm_rf (t : wt_M) : sm_ t t := ⟨rfl, fun _ _ _ => rfl⟩
theorem sm_tr {a b c : wt_M} (h : sm_ a b) (k : sm_ b c) : sm_ a c := ⟨k.1.trans h.1, fun r j n => (k.2 r j n).trans (h.2 r j n)⟩
theorem sm_tb {a b : wt_M} (h : sm_ a b) {q x : Nat} (hq : q ≠ 16) (hx : x < 256) : tb_ b q x = tb_ a q x := by
  unfold tb_
  rw [h.2 0 _ (fun z => by omega)]
theorem cl_loop : ∀ (d n i : Nat) (t : wt_M), i + d = 68 → 64 ≤ i → d < n → ∃ t', fm_clear_L3 n (nI i) t = some t' ∧ sm_ t t' ∧ (∀ j, i ≤ j → j < 68 → t'.2 0 j = 0) ∧ ∀ j, 64 ≤ j → j < i → t'.2 0 j = t.2 0 j := by
  intro d
  induction d with
  | zero =>
    intro n i t h1 h2 hn
    cases n with
    | zero => omega
    | succ n =>
      rw [fm_clear_L3, if_pos (show (68 : Int32) ≤ nI i from nI_le (a := 68) (by omega) (by omega))]
      exact ⟨t, rfl, sm_rf t, fun j _ _ => by omega, fun _ _ _ => rfl⟩
  | succ d ih =>
    intro n i t h1 h2 hn
    cases n with
    | zero => omega
    | succ n =>
      rw [fm_clear_L3, if_neg (show ¬ (68 : Int32) ≤ nI i from nI_ge (b := 68) (by omega) (by decide)), wc_L (by omega) (by decide), nI_1]
      obtain ⟨t', q1, q2, q3, q4⟩ := ih n (i + 1) (t.1, pu_L t.2 0 i 0) (by omega) (by omega) (by omega)
      refine ⟨t', q1, ⟨q2.1, fun r j hn => ?_⟩, fun j h3 h4 => ?_, fun j h3 h4 => ?_⟩
      · rw [q2.2 r j hn]
        show pu_L t.2 0 i 0 r j = t.2 r j
        rw [puL_at, if_neg (fun z => hn ⟨z.1, by omega, by omega⟩)]
      · by_cases c : j = i
        · subst c
          rw [q4 j h2 (by omega)]
          show pu_L t.2 0 j 0 0 j = 0
          rw [puL_at, if_pos ⟨rfl, rfl⟩]
        · exact q3 j (by omega) h4
      · rw [q4 j h3 (by omega)]
        show pu_L t.2 0 i 0 0 j = t.2 0 j
        rw [puL_at, if_neg (fun z => by omega)]
theorem cle_ok (t : wt_M) : ∃ t', fm_clear t = some t' ∧ sm_ t t' ∧ ∀ x, x < 256 → tb_ t' 16 x = false := by
  unfold fm_clear
  obtain ⟨t', q1, q2, q3, -⟩ := cl_loop 4 5000 64 t (by omega) (by omega) (by omega)
  rw [show nI 64 = (64 : Int32) from rfl] at q1
  refine ⟨t', q1, q2, fun x hx => ?_⟩
  unfold tb_
  rw [q3 _ (by omega) (by omega)]
  exact BitVec.getLsbD_zero
theorem se_ok (t : wt_M) {x : Nat} (hx : x < 256) (b : Bool) : ∃ t', fm_set t (nI x) (nI b.toNat) = some t' ∧ sm_ t t' ∧ ∀ z, z < 256 → tb_ t' 16 z = (tb_ t 16 z || (decide (z = x) && b)) := by
  unfold fm_set
  dsimp only [jn_]
  cases b with
  | false =>
    rw [if_pos (show nI false.toNat = (0 : Int32) from nI_0)]
    exact ⟨t, rfl, sm_rf t, fun z _ => by rw [Bool.and_false, Bool.or_false]⟩
  | true =>
    have e : ((64 : Int32) + (nI x >>> ((6 : Int32) &&& 31))) = nI (64 + x / 64) := by
      rw [show (64 : Int32) = nI 64 from rfl, pk_shrN (by omega) _ 6 (by decide), nI_add]
    rw [if_neg (show ¬ nI true.toNat = (0 : Int32) by decide), e, rc_atL (by omega) (by decide), wc_L (by omega) (by decide), iy_ok hx]
    refine ⟨_, rfl, ⟨rfl, fun r j hn => ?_⟩, fun z hz => ?_⟩
    · show pu_L t.2 0 (64 + x / 64) _ r j = t.2 r j
      rw [puL_at, if_neg (fun q => hn ⟨q.1, by omega, by omega⟩)]
    · unfold tb_
      show (pu_L t.2 0 (64 + x / 64) _ 0 (4 * 16 + z / 64)).toBitVec.getLsbD (z % 64) = _
      rw [puL_at]
      by_cases c : z / 64 = x / 64
      · rw [if_pos ⟨rfl, by omega⟩]
        have eb : (t.2 0 (64 + x / 64) ||| ((1 : Int64) <<< lN (x % 64))).toBitVec = (t.2 0 (64 + x / 64)).toBitVec ||| BitVec.twoPow 64 (x % 64) := by
          rw [← lN_one _ (by omega)]; rfl
        rw [eb, BitVec.getLsbD_or, show 4 * 16 + z / 64 = 64 + x / 64 by omega, BitVec.getLsbD_twoPow, Bool.and_true]
        congr 1
        by_cases d : z = x
        · subst d; simp; omega
        · have : ¬ x % 64 = z % 64 := fun q => d (by omega)
          simp [d, this]
      · rw [if_neg (fun q => by omega)]
        have : z ≠ x := fun q => c (by rw [q])
        simp [this]
/-- a loop that sets the scratch words' bits one by one -/
theorem fs_loop {LP : Nat → Int32 → wt_M → Option wt_M} {K : wt_M → Option wt_M} {t0 : wt_M} (P : Nat → Bool) (h0 : ∀ n t, LP (n + 1) (nI 256) t = K t) (hs : ∀ n x t, x < 256 → sm_ t0 t → LP (n + 1) (nI x) t = b_T (fm_set t (nI x) (nI (P x).toNat)) fun t' => LP n (nI x + 1) t') (hz : ∀ x, x < 256 → tb_ t0 16 x = false) {N : Nat} (hN : 256 < N) : ∃ t', LP N 0 t0 = K t' ∧ sm_ t0 t' ∧ ∀ x, x < 256 → tb_ t' 16 x = P x := by
  have main : ∀ (d n i : Nat) (t : wt_M), i + d = 256 → d < n → sm_ t0 t → (∀ x, x < 256 → tb_ t 16 x = (decide (x < i) && P x)) → ∃ t', LP n (nI i) t = K t' ∧ sm_ t0 t' ∧ ∀ x, x < 256 → tb_ t' 16 x = P x := by
    intro d
    induction d with
    | zero =>
      intro n i t h1 hn h2 h3
      cases n with
      | zero => omega
      | succ n =>
        have : i = 256 := by omega
        subst this
        rw [h0]
        exact ⟨t, rfl, h2, fun x hx => by rw [h3 x hx]; simp [hx]⟩
    | succ d ih =>
      intro n i t h1 hn h2 h3
      cases n with
      | zero => omega
      | succ n =>
        obtain ⟨t1, q1, q2, q3⟩ := se_ok t (show i < 256 by omega) (P i)
        rw [hs n i t (by omega) h2, q1, bT_some, nI_1]
        refine ih n (i + 1) t1 (by omega) (by omega) (sm_tr h2 q2) (fun x hx => ?_)
        rw [q3 x hx, h3 x hx]
        by_cases c : x = i
        · subst c; simp
        · have e : (x < i + 1) = (x < i) := propext ⟨fun z => by omega, fun z => by omega⟩
          simp only [e]
          simp [c]
  have := main 256 N 0 t0 (by omega) hN (sm_rf t0) (fun x hx => by rw [hz x hx]; simp)
  rwa [nI_0] at this
theorem ke_loop (r : Nat) (hr : r < 16) : ∀ (d n i : Nat) (t : wt_M), i + d = 4 → d < n → ∃ t', fm_keep_L2 (nI r) n (nI i) t = some t' ∧ t'.1 = t.1 ∧ (∀ q j, ¬ (q = 0 ∧ 4 * r + i ≤ j ∧ j < 4 * r + 4) → t'.2 q j = t.2 q j) ∧ ∀ j, i ≤ j → j < 4 → t'.2 0 (4 * r + j) = t.2 0 (64 + j) := by
  intro d
  induction d with
  | zero =>
    intro n i t h1 hn
    cases n with
    | zero => omega
    | succ n =>
      rw [fm_keep_L2, if_pos (show (4 : Int32) ≤ nI i from nI_le (a := 4) (by omega) (by omega))]
      exact ⟨t, rfl, rfl, fun _ _ _ => rfl, fun j _ _ => by omega⟩
  | succ d ih =>
    intro n i t h1 hn
    cases n with
    | zero => omega
    | succ n =>
      rw [fm_keep_L2, if_neg (show ¬ (4 : Int32) ≤ nI i from nI_ge (b := 4) (by omega) (by decide)), show (64 : Int32) = nI 64 from rfl, nI_add, rc_atL (by omega) (by decide), show (4 : Int32) = nI 4 from rfl, pk_mul, nI_add, wc_L (by omega) (by decide), nI_1]
      obtain ⟨t', q1, q2, q3, q4⟩ := ih n (i + 1) (t.1, pu_L t.2 0 (4 * r + i) (t.2 0 (64 + i))) (by omega) (by omega)
      refine ⟨t', q1, q2, fun q j hn => ?_, fun j h3 h4 => ?_⟩
      · rw [q3 q j (fun z => hn ⟨z.1, by omega, by omega⟩)]
        show pu_L t.2 0 (4 * r + i) _ q j = t.2 q j
        rw [puL_at, if_neg (fun z => hn ⟨z.1, by omega, by omega⟩)]
      · by_cases c : j = i
        · subst c
          rw [q3 0 _ (fun z => by omega)]
          show pu_L t.2 0 (4 * r + j) _ 0 (4 * r + j) = _
          rw [puL_at, if_pos ⟨rfl, rfl⟩]
        · rw [q4 j (by omega) h4]
          show pu_L t.2 0 (4 * r + i) _ 0 (64 + j) = _
          rw [puL_at, if_neg (fun z => by omega)]
theorem kee_ok (t : wt_M) {r : Nat} (hr : r < 16) : ∃ t', fm_keep t (nI r) = some t' ∧ t'.1 = t.1 ∧ (∀ q j, q ≠ 0 → t'.2 q j = t.2 q j) ∧ (∀ q x, q < 18 → q ≠ r → x < 256 → tb_ t' q x = tb_ t q x) ∧ ∀ x, x < 256 → tb_ t' r x = tb_ t 16 x := by
  unfold fm_keep
  obtain ⟨t', q1, q2, q3, q4⟩ := ke_loop r hr 4 5000 0 t (by omega) (by omega)
  rw [nI_0] at q1
  refine ⟨t', q1, q2, fun q j hq => q3 q j (fun z => hq z.1), fun q x hq hqr hx => ?_, fun x hx => ?_⟩
  · unfold tb_
    rw [q3 0 _ (fun z => by omega)]
  · unfold tb_
    rw [q4 (x / 64) (by omega) (by omega)]
