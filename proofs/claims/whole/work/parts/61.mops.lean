/-! The reference's operations on registers. My own. -/
def mc6_ : Nat → Int64
  | 0 => -6148914691236517206
  | 1 => -3689348814741910324
  | 2 => -1085102592571150096
  | 3 => -71777214294589696
  | 4 => -281470681808896
  | _ => -4294967296
def mo_ (t : wt_M) (F : Nat → mb_F) (o : Nat → Nat) : Prop := (∀ r, r < 16 → ∀ x, x < 256 → tb_ t r x = F r x.testBit) ∧ (∀ j, j < 8 → t.1 0 j = nI (o j)) ∧ ∀ v, v < 6 → t.2 2 v = mc6_ v
theorem min_ok {a b c : Nat} (h1 : b ≤ a) (h2 : a ≤ c) (hc : c < 2 ^ 31) : fm_in (nI a) (nI b) (nI c) = some 1 := by
  unfold fm_in
  dsimp only [jn_]
  rw [if_neg (nI_nlt h1 (by omega)), if_neg (nI_nlt h2 hc)]
  exact rz_b true _
theorem mir_ok {r : Nat} (h : r < 16) : fm_isRegister (nI r) = some 1 := by
  unfold fm_isRegister
  rw [show (0 : Int32) = nI 0 from nI_0.symm, show (15 : Int32) = nI 15 from rfl, min_ok (Nat.zero_le _) (by omega) (by decide), bI_some]
  exact rz_b true _
theorem miv_ok {r : Nat} (h : r < 8) : fm_isVariable (nI r) = some 1 := by
  unfold fm_isVariable
  rw [show (0 : Int32) = nI 0 from nI_0.symm, show (7 : Int32) = nI 7 from rfl, min_ok (Nat.zero_le _) (by omega) (by decide), bI_some]
  exact rz_b true _
theorem one_ne : ¬ (1 : Int32) = 0 := by decide
variable {t : wt_M} {F : Nat → mb_F} {o : Nat → Nat}
theorem tl_ok (hm : mo_ t F o) {r : Nat} (hr : r < 16) (LP : (wt_M → Option wt_M) → Nat → Int32 → wt_M → Option wt_M) (f : mb_F) (P : Nat → Bool) (hP : ∀ x, x < 256 → P x = f x.testBit) (h0 : ∀ K n t, LP K (n + 1) (nI 256) t = K t)
    (hs : ∀ K n x t', x < 256 → (∀ q, q < 16 → ∀ z, z < 256 → tb_ t' q z = F q z.testBit) → LP K (n + 1) (nI x) t' = b_T (fm_set t' (nI x) (nI (P x).toNat)) fun t2 => LP K n (nI x + 1) t2) (E : Option wt_M) {N : Nat} (hN : 5000 = N) :
    ∃ t4, (if pu_S t.1 9 0 0 9 0 = (0 : Int32) then b_T (fm_clear (pu_S t.1 9 0 0, t.2)) (fun t31 => LP (fun t5 => b_T (fm_keep t5 (nI r)) fun t6 => some t6) N 0 t31) else E) = some t4 ∧ mo_ t4 (fun i => if i = r then f else F i) o ∧ t4.1 9 0 = 0 := by
  rw [if_pos (pu_eq _ _ _ _)]
  obtain ⟨t2, c1, c2, c3⟩ := cle_ok (pu_S t.1 9 0 0, t.2)
  rw [c1, bT_some]
  have same : ∀ t', sm_ (pu_S t.1 9 0 0, t.2) t' → ∀ q, q < 16 → ∀ z, z < 256 → tb_ t' q z = F q z.testBit := fun t' h q hq z hz => by
    rw [sm_tb h (by omega) hz]; exact hm.1 q hq z hz
  obtain ⟨t3, d1, d2, d3⟩ := fs_loop (LP := LP (fun t5 => b_T (fm_keep t5 (nI r)) fun t6 => some t6)) (K := fun t5 => b_T (fm_keep t5 (nI r)) fun t6 => some t6) (t0 := t2) P (fun n t => h0 _ n t) (fun n x t' hx hsm => hs _ n x t' hx (same t' (sm_tr c2 hsm))) c3 (N := N) (by omega)
  rw [d1]
  obtain ⟨t4, e1, e2, e3, e4, e5⟩ := kee_ok t3 hr
  have c23 := sm_tr c2 d2
  rw [e1, bT_some]
  have row : t4.1 = pu_S t.1 9 0 0 := by rw [e2, c23.1]
  refine ⟨t4, rfl, ⟨fun q hq x hx => ?_, fun j hj => ?_, fun v hv => ?_⟩, by rw [row, pu_eq]⟩
  · show tb_ t4 q x = (if q = r then f else F q) x.testBit
    by_cases c : q = r
    · subst c
      rw [if_pos rfl, e5 x hx, d3 x hx]; exact hP x hx
    · rw [if_neg c, e4 q x (by omega) c hx]; exact same t3 c23 q hq x hx
  · rw [row, pu_row (by decide)]; exact hm.2.1 j hj
  · rw [e3 2 v (by decide), c23.2 2 v (fun z => by omega)]; exact hm.2.2 v hv
theorem ifb (c : Bool) (X : Int32 → Option wt_M) : (if nI c.toNat = (0 : Int32) then X 0 else X 1) = X (nI c.toNat) := by
  cases c
  · rw [if_pos (show nI false.toNat = (0 : Int32) from nI_0)]; rfl
  · rw [if_neg (show ¬ nI true.toNat = (0 : Int32) by decide)]; rfl
theorem vb_bit : ∀ x, x < 256 → ∀ v, v < 8 → (((nI x >>> (nI v &&& 31)) &&& 1) = 1 ↔ x.testBit v = true) := by decide +kernel
theorem vo_bit : ∀ op, op < 16 → ∀ k, k < 4 → (((nI op >>> (nI k &&& 31)) &&& 1) = 1 ↔ op.testBit k = true) := by decide +kernel
theorem ifp {p : Prop} [Decidable p] {b : Bool} (h : p ↔ b = true) (X : Int32 → Option wt_M) : (if p then X 1 else X 0) = X (nI b.toNat) := by
  cases b
  · rw [if_neg (fun c => by cases h.mp c)]; rfl
  · rw [if_pos (h.mpr rfl)]; rfl
theorem n256 {x : Nat} (hx : x < 256) : ¬ (256 : Int32) ≤ nI x := nI_ge (b := 256) hx (by decide)
theorem t256 : (256 : Int32) ≤ nI 256 := by decide
theorem xv_0 (c1 c2 : Int32) (K : wt_M → Option wt_M) (n : Nat) (t : wt_M) : fm_variable_L36 c1 c2 K (n + 1) (nI 256) t = K t := by rw [fm_variable_L36, if_pos t256]
theorem xv_s (c1 : Int32) (v : Nat) (K : wt_M → Option wt_M) (n x : Nat) (t : wt_M) (hx : x < 256) (hv : v < 8) : fm_variable_L36 c1 (nI v) K (n + 1) (nI x) t = b_T (fm_set t (nI x) (nI (x.testBit v).toNat)) fun t2 => fm_variable_L36 c1 (nI v) K n (nI x + 1) t2 := by
  rw [fm_variable_L36, if_neg (n256 hx), jn_]
  exact ifp (vb_bit x hx v hv) (fun y => b_T (fm_set t (nI x) y) fun t59 => fm_variable_L36 c1 (nI v) K n (nI x + 1) t59)
theorem xv_t (hm : mo_ t F o) {r v : Nat} (hr : r < 16) (hv : v < 8) (E : Option wt_M) {N : Nat} (hN : 5000 = N) : ∃ t4, (if pu_S t.1 9 0 0 9 0 = (0 : Int32) then b_T (fm_clear (pu_S t.1 9 0 0, t.2)) (fun t31 => fm_variable_L36 (nI r) (nI v) (fun t5 => b_T (fm_keep t5 (nI r)) fun t6 => some t6) N 0 t31) else E) = some t4 ∧ mo_ t4 (fun i => if i = r then li_ v else F i) o ∧ t4.1 9 0 = 0 :=
  tl_ok hm hr (fun K => fm_variable_L36 (nI r) (nI v) K) (li_ v) (fun x => x.testBit v) (fun x _ => (li_at v _).symm) (fun K n t => xv_0 _ _ K n t) (fun K n x t' hx hq => xv_s _ v K n x t' hx hv) E hN
theorem xv_m (hm : mo_ t F o) {r v : Nat} (hr : r < 16) (hv : v < 8) : ∃ t4, fm_variable t (nI r) (nI v) = some t4 ∧ mo_ t4 (fun i => if i = r then li_ v else F i) o ∧ t4.1 9 0 = 0 := by
  obtain ⟨t4, e, q⟩ := xv_t hm hr hv (some (pu_S t.1 9 0 0, t.2)) rfl
  refine ⟨t4, ?_, q⟩
  rw [fm_variable, mir_ok hr, bI_some, jn_, jn_, if_neg one_ne, miv_ok hv, bI_some, if_neg one_ne]
  show sp_T t 0 (0 : Int32) _ = _
  rw [sp_T]
  show jn_ _ _ = _
  rw [jn_]
  exact e
theorem xc_0 (c1 c2 : Int32) (K : wt_M → Option wt_M) (n : Nat) (t : wt_M) : fm_constant_L29 c1 c2 K (n + 1) (nI 256) t = K t := by rw [fm_constant_L29, if_pos t256]
theorem xc_s (c1 c2 : Int32) (K : wt_M → Option wt_M) (n x : Nat) (t : wt_M) (hx : x < 256) : fm_constant_L29 c1 c2 K (n + 1) (nI x) t = b_T (fm_set t (nI x) c2) fun t2 => fm_constant_L29 c1 c2 K n (nI x + 1) t2 := by rw [fm_constant_L29, if_neg (n256 hx)]
theorem xc_t (hm : mo_ t F o) {r : Nat} (hr : r < 16) (on : Bool) (E : Option wt_M) {N : Nat} (hN : 5000 = N) : ∃ t4, (if pu_S t.1 9 0 0 9 0 = (0 : Int32) then b_T (fm_clear (pu_S t.1 9 0 0, t.2)) (fun t31 => fm_constant_L29 (nI r) (nI on.toNat) (fun t5 => b_T (fm_keep t5 (nI r)) fun t6 => some t6) N 0 t31) else E) = some t4 ∧ mo_ t4 (fun i => if i = r then (fun _ => on) else F i) o ∧ t4.1 9 0 = 0 :=
  tl_ok hm hr (fun K => fm_constant_L29 (nI r) (nI on.toNat) K) (fun _ => on) (fun _ => on) (fun x _ => rfl) (fun K n t => xc_0 _ _ K n t) (fun K n x t' hx hq => xc_s _ _ K n x t' hx) E hN
theorem xc_m (hm : mo_ t F o) {r : Nat} (hr : r < 16) (on : Bool) : ∃ t4, fm_constant t (nI r) (nI on.toNat) = some t4 ∧ mo_ t4 (fun i => if i = r then (fun _ => on) else F i) o ∧ t4.1 9 0 = 0 := by
  obtain ⟨t4, e, q⟩ := xc_t hm hr on (some (pu_S t.1 9 0 0, t.2)) rfl
  refine ⟨t4, ?_, q⟩
  rw [fm_constant, mir_ok hr, bI_some, jn_, if_neg one_ne]
  show sp_T t 0 (0 : Int32) _ = _
  rw [sp_T]
  show jn_ _ _ = _
  rw [jn_]
  exact e
theorem xa_m (hm : mo_ t F o) {r op a b : Nat} (hr : r < 16) (hop : op < 16) (ha : a < 16) (hb : b < 16) : ∃ t4, fm_apply t (nI r) (nI op) (nI a) (nI b) = some t4 ∧ mo_ t4 (fun i => if i = r then op_ op (F a) (F b) else F i) o ∧ t4.1 9 0 = 0 := by
  unfold fm_apply
  generalize hN : 5000 = N
  simp -implicitDefEqProofs only [jn_, sp_T]
  rw [mir_ok hr, bI_some, if_neg one_ne, mir_ok ha, bI_some, if_neg one_ne, mir_ok hb, bI_some, if_neg one_ne, show fm_in (nI op) (0 : Int32) (15 : Int32) = some 1 from min_ok (b := 0) (c := 15) (Nat.zero_le _) (by omega) (by decide), bI_some, if_neg one_ne]
  refine tl_ok hm hr (fun K => fm_apply_L59 (nI r) (nI op) (nI a) (nI b) K) (op_ op (F a) (F b)) (fun x => op.testBit (2 * (F a x.testBit).toNat + (F b x.testBit).toNat)) (fun x _ => rfl) (fun K n t => by rw [fm_apply_L59, if_pos t256]) (fun K n x t' hx hq => ?_) _ hN
  rw [fm_apply_L59, if_neg (n256 hx), mv_ok t' (by omega) hx, bI_some, hq a ha x hx]
  dsimp only [jn_]
  rw [mv_ok t' (by omega) hx, bI_some, bI_some, hq b hb x hx]
  have fin : ∀ k, k < 4 → (if ((nI op >>> (nI k &&& 31)) &&& 1) = 1 then b_T (fm_set t' (nI x) 1) fun t119 => fm_apply_L59 (nI r) (nI op) (nI a) (nI b) K n (nI x + 1) t119 else b_T (fm_set t' (nI x) 0) fun t119 => fm_apply_L59 (nI r) (nI op) (nI a) (nI b) K n (nI x + 1) t119) = b_T (fm_set t' (nI x) (nI (op.testBit k).toNat)) fun t119 => fm_apply_L59 (nI r) (nI op) (nI a) (nI b) K n (nI x + 1) t119 := fun k hk => ifp (vo_bit op hop k hk) (fun y => b_T (fm_set t' (nI x) y) fun t119 => fm_apply_L59 (nI r) (nI op) (nI a) (nI b) K n (nI x + 1) t119)
  cases F a x.testBit <;> cases F b x.testBit
  · rw [if_pos (show nI false.toNat = (0 : Int32) from nI_0), if_pos (show nI false.toNat = (0 : Int32) from nI_0)]; exact fin 0 (by decide)
  · rw [if_pos (show nI false.toNat = (0 : Int32) from nI_0), if_neg (show ¬ nI true.toNat = (0 : Int32) by decide)]; exact fin 1 (by decide)
  · rw [if_neg (show ¬ nI true.toNat = (0 : Int32) by decide), if_pos (show nI false.toNat = (0 : Int32) from nI_0)]; exact fin 2 (by decide)
  · rw [if_neg (show ¬ nI true.toNat = (0 : Int32) by decide), if_neg (show ¬ nI true.toNat = (0 : Int32) by decide)]; exact fin 3 (by decide)
theorem xh_m (hm : mo_ t F o) {r a b c : Nat} (hr : r < 16) (ha : a < 16) (hb : b < 16) (hc : c < 16) : ∃ t4, fm_choose t (nI r) (nI a) (nI b) (nI c) = some t4 ∧ mo_ t4 (fun i => if i = r then pi_ (F a) (F b) (F c) else F i) o ∧ t4.1 9 0 = 0 := by
  unfold fm_choose
  generalize hN : 5000 = N
  simp -implicitDefEqProofs only [jn_, sp_T]
  rw [mir_ok hr, bI_some, if_neg one_ne, mir_ok ha, bI_some, if_neg one_ne, mir_ok hb, bI_some, if_neg one_ne, mir_ok hc, bI_some, if_neg one_ne]
  refine tl_ok hm hr (fun K => fm_choose_L52 (nI r) (nI a) (nI b) (nI c) K) (pi_ (F a) (F b) (F c)) (fun x => if F a x.testBit then F b x.testBit else F c x.testBit) (fun x _ => rfl) (fun K n t => by rw [fm_choose_L52, if_pos t256]) (fun K n x t' hx hq => ?_) _ hN
  rw [fm_choose_L52, if_neg (n256 hx), mv_ok t' (by omega) hx, bI_some, hq a ha x hx]
  dsimp only [jn_]
  rw [mv_ok t' (by omega) hx, bI_some, mv_ok t' (by omega) hx, bI_some, hq b hb x hx, hq c hc x hx]
  cases F a x.testBit
  · rw [if_pos (show nI false.toNat = (0 : Int32) from nI_0)]; rfl
  · rw [if_neg (show ¬ nI true.toNat = (0 : Int32) by decide)]; rfl
/-- the assignment x with the variable v as b says -/
def wb_ (x v : Nat) (b : Bool) : Nat := if b then x ||| 2 ^ v else x - (if x.testBit v then 2 ^ v else 0)
theorem wb_chk : ∀ x, x < 256 → ∀ v, v < 8 → (nI x ||| ((1 : Int32) <<< (nI v &&& 31))) = nI (wb_ x v true) ∧ (nI x &&& (((1 : Int32) <<< (nI v &&& 31)) ^^^ (-1))) = nI (wb_ x v false) ∧ wb_ x v true < 256 ∧ wb_ x v false < 256 := by decide +kernel
theorem wb_bits : ∀ x, x < 256 → ∀ v, v < 8 → ∀ j, j < 8 → (wb_ x v true).testBit j = (if j = v then true else x.testBit j) ∧ (wb_ x v false).testBit j = (if j = v then false else x.testBit j) := by decide +kernel
theorem tb_big {x j : Nat} (hx : x < 256) (hj : 8 ≤ j) : x.testBit j = false := Nat.testBit_lt_two_pow (Nat.lt_of_lt_of_le hx (show 2 ^ 8 ≤ 2 ^ j from Nat.pow_le_pow_right (by decide) hj))
theorem wb_lt {x v : Nat} (hx : x < 256) (hv : v < 8) (b : Bool) : wb_ x v b < 256 := by
  obtain ⟨-, -, h1, h2⟩ := wb_chk x hx v hv
  cases b
  · exact h2
  · exact h1
theorem wb_up {x v : Nat} (hx : x < 256) (hv : v < 8) (b : Bool) : (wb_ x v b).testBit = mb_up x.testBit v b := by
  funext j
  rcases Nat.lt_or_ge j 8 with c | c
  · obtain ⟨h1, h2⟩ := wb_bits x hx v hv j c
    unfold mb_up
    cases b
    · exact h2
    · exact h1
  · rw [tb_big (wb_lt hx hv b) c, mb_up_ne (by omega), tb_big hx c]
theorem wi_ok {x v : Nat} (hx : x < 256) (hv : v < 8) (b : Bool) : fm_with (nI x) (nI v) (nI b.toNat) = some (nI (wb_ x v b)) := by
  obtain ⟨h1, h2, -⟩ := wb_chk x hx v hv
  unfold fm_with
  dsimp only [jn_]
  cases b
  · rw [if_pos (show nI false.toNat = (0 : Int32) from nI_0), h2]
  · rw [if_neg (show ¬ nI true.toNat = (0 : Int32) by decide), h1]
theorem xr_m (hm : mo_ t F o) {r a v : Nat} (hr : r < 16) (ha : a < 16) (hv : v < 8) (on : Bool) : ∃ t4, fm_restrict t (nI r) (nI a) (nI v) (nI on.toNat) = some t4 ∧ mo_ t4 (fun i => if i = r then mb_cf (F a) v on else F i) o ∧ t4.1 9 0 = 0 := by
  unfold fm_restrict
  generalize hN : 5000 = N
  simp -implicitDefEqProofs only [jn_, sp_T]
  rw [mir_ok hr, bI_some, if_neg one_ne, mir_ok ha, bI_some, if_neg one_ne, miv_ok hv, bI_some, if_neg one_ne]
  refine tl_ok hm hr (fun K => fm_restrict_L44 (nI r) (nI a) (nI v) (nI on.toNat) K) (mb_cf (F a) v on) (fun x => F a (mb_up x.testBit v on)) (fun x _ => rfl) (fun K n t => by rw [fm_restrict_L44, if_pos t256]) (fun K n x t' hx hq => ?_) _ hN
  rw [fm_restrict_L44, if_neg (n256 hx), wi_ok hx hv, bI_some, mv_ok t' (by omega) (wb_lt hx hv on), bI_some, hq a ha _ (wb_lt hx hv on), wb_up hx hv]
theorem xo_m (hm : mo_ t F o) {r a v b : Nat} (hr : r < 16) (ha : a < 16) (hv : v < 8) (hb : b < 16) : ∃ t4, fm_compose t (nI r) (nI a) (nI v) (nI b) = some t4 ∧ mo_ t4 (fun i => if i = r then pi_ (F b) (mb_cf (F a) v true) (mb_cf (F a) v false) else F i) o ∧ t4.1 9 0 = 0 := by
  unfold fm_compose
  generalize hN : 5000 = N
  simp -implicitDefEqProofs only [jn_, sp_T]
  rw [mir_ok hr, bI_some, if_neg one_ne, mir_ok ha, bI_some, if_neg one_ne, mir_ok hb, bI_some, if_neg one_ne, miv_ok hv, bI_some, if_neg one_ne]
  refine tl_ok hm hr (fun K => fm_compose_L52 (nI r) (nI a) (nI v) (nI b) K) (pi_ (F b) (mb_cf (F a) v true) (mb_cf (F a) v false)) (fun x => F a (mb_up x.testBit v (F b x.testBit))) (fun x _ => ?_) (fun K n t => by rw [fm_compose_L52, if_pos t256]) (fun K n x t' hx hq => ?_) _ hN
  · unfold pi_ mb_cf
    cases F b x.testBit <;> rfl
  · rw [fm_compose_L52, if_neg (n256 hx), mv_ok t' (by omega) hx, bI_some, hq b hb x hx, wi_ok hx hv, bI_some, mv_ok t' (by omega) (wb_lt hx hv _), bI_some, hq a ha _ (wb_lt hx hv _), wb_up hx hv]
def sx_ (x : Nat) : Nat := ((x &&& 85) * 2) ||| ((x / 2) &&& 85)
theorem sx_chk : ∀ x, x < 256 → (((nI x &&& (85 : Int32)) <<< ((1 : Int32) &&& 31)) ||| ((nI x >>> ((1 : Int32) &&& 31)) &&& (85 : Int32))) = nI (sx_ x) ∧ sx_ x < 256 := by decide +kernel
theorem sx_bits : ∀ x, x < 256 → ∀ j, j < 8 → (sx_ x).testBit j = x.testBit (j ^^^ 1) ∧ j ^^^ 1 < 8 := by decide +kernel
theorem sx_tb {x : Nat} (hx : x < 256) : (sx_ x).testBit = fun v => x.testBit (v ^^^ 1) := by
  funext j
  rcases Nat.lt_or_ge j 8 with c | c
  · exact (sx_bits x hx j c).1
  · have : 8 ≤ j ^^^ 1 := by
      apply Nat.le_of_not_lt
      intro z
      have := (sx_bits x hx _ z).2
      rw [xor_xor] at this
      omega
    rw [tb_big (sx_chk x hx).2 c, tb_big hx this]
theorem xt_m (hm : mo_ t F o) {r a : Nat} (hr : r < 16) (ha : a < 16) : ∃ t4, fm_turn t (nI r) (nI a) = some t4 ∧ mo_ t4 (fun i => if i = r then mi_ (F a) else F i) o ∧ t4.1 9 0 = 0 := by
  unfold fm_turn
  generalize hN : 5000 = N
  simp -implicitDefEqProofs only [jn_, sp_T]
  rw [mir_ok hr, bI_some, if_neg one_ne, mir_ok ha, bI_some, if_neg one_ne]
  refine tl_ok hm hr (fun K => fm_turn_L36 (nI r) (nI a) K) (mi_ (F a)) (fun x => F a (fun v => x.testBit (v ^^^ 1))) (fun x _ => rfl) (fun K n t => by rw [fm_turn_L36, if_pos t256]) (fun K n x t' hx hq => ?_) _ hN
  rw [fm_turn_L36, if_neg (n256 hx), (sx_chk x hx).1, mv_ok t' (by omega) (sx_chk x hx).2, bI_some, hq a ha _ (sx_chk x hx).2, sx_tb hx]
