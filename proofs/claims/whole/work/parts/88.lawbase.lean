/-! The law's own body: the judgement with counters, and its rows. My own. -/
def jw_J (z : wt_Z) (pc : Nat) (lv : List (Nat × Value)) (st : List Value) (c n : Nat) (w : wt_W) (Q : State → Prop) : Prop :=
  ∀ (H : Heap) (locs : List Loc) (ls : Array Slot), va_P (zz_v z).2.2.1 wt_cl (wt_wo (zz_v z) w) H → va_S (fun q => (zz_s z).heap.size ≤ q) (zz_s z).heap H locs → lv_has ls 7 lv →
    W (zz_p z) (zz_v z).1 (zz_e z) (zz_R z) (zz_s z) (zz_m z) (zz_a z) (zz_b z) (zz_t z) (zz_c z) H locs c n Q (F0 (zz_m z) pc ls st)
def jw_L (z : wt_Z) (b L : Nat) (xs : Nat → Int32) : Prop := va_X b L xs (zz_s z) (zz_s z).heap ∧ b < (zz_s z).heap.size ∧ wx_E (zz_v z) (zz_s z) ∧ (∀ q, wt_A (zz_v z) q → (zz_s z).heap.size ≤ q)
def jw_b (x : Int32) : Bool := !(x == 0)
abbrev jw_0 (z : wt_Z) (b : Nat) (i : Int32) : List (Nat × Value) := [(0, .ref b), (1, .ref (ad_ z 0)), (2, .ref (ad_ z 11)), (3, .ref (ad_ z 21)), (4, .int i)]
abbrev jw_1 (z : wt_Z) (b : Nat) (i k : Int32) : List (Nat × Value) := [(0, .ref b), (1, .ref (ad_ z 0)), (2, .ref (ad_ z 11)), (3, .ref (ad_ z 21)), (4, .int i), (5, .int k)]
abbrev jw_2 (z : wt_Z) (b : Nat) (i k x : Int32) : List (Nat × Value) := [(0, .ref b), (1, .ref (ad_ z 0)), (2, .ref (ad_ z 11)), (3, .ref (ad_ z 21)), (4, .int i), (5, .int k), (6, .int x)]
theorem jw_gd {y : MethodName} {i : Nat} {cw : Cond} (h1 : cw ∈ wt_WS) (h2 : Cond.methodLink R_L i y ∈ wt_WS) (h3 : Cond.static y ∈ wt_WS) (h4 : Cond.initialized y.cls ∈ wt_WS) : GoodIn wt_WS (va_wsS R_L i y (cw :: wt_WS)) := by
  have hh : ∀ w ∈ wt_WS, w ∈ wt_WS ∧ ((w.onTables && w.keeps) = true ∨ ∃ ty, w = .arrayClass ty) := fun w hw => ⟨hw, wt_ok_spec (List.mem_filter.mp hw).2⟩
  intro w hw
  unfold va_wsS at hw
  rcases List.mem_append.mp hw with hw | hw
  · rcases List.mem_cons.mp hw with rfl | hw
    · exact hh _ h2
    rcases List.mem_cons.mp hw with rfl | hw
    · exact hh _ h3
    rcases List.mem_cons.mp hw with rfl | hw
    · exact hh _ h4
    · cases hw
  · exact wt_good h1 w hw
section LB
variable {z : wt_Z} {pc q c n : Nat} {rt : Option FieldType} {lv lv' : List (Nat × Value)} {st st0 rest : List Value} {w w' : wt_W} {Q : State → Prop} {b L : Nat} {xs : Nat → Int32}
theorem jw_iconst {i : Int} {v : Int32} (am : wt_Am z R_L code 7 60 rt) (d : decode code pc = .ok (.iconst i, 1)) (hv : Int32.ofInt i = v) (hq : pc + 1 = q) (k : jw_J z q lv (.int v :: st) c n w Q) : jw_J z pc lv st c n w Q := by
  subst hq
  exact fun H locs ls hP hS hh => lv_iconst am.1 am.2.1 d hv (k H locs ls hP hS hh)
theorem jw_iload {i : Nat} {x : Int32} (am : wt_Am z R_L code 7 60 rt) (d : decode code pc = .ok (.iload i, 2)) (k0 : Nat) (hk : lv[k0]? = some (i, .int x)) (hq : pc + 2 = q) (k : jw_J z q lv (.int x :: st) c n w Q) : jw_J z pc lv st c n w Q := by
  subst hq
  exact fun H locs ls hP hS hh => lv_iload am.1 am.2.1 d (lv_at hh k0 hk) (k H locs ls hP hS hh)
theorem jw_aload_n {j : Fin 4} {i : Nat} {x : Nat} (am : wt_Am z R_L code 7 60 rt) (d : decode code pc = .ok (.aload_n j, 1)) (hi : (j : Nat) = i) (k0 : Nat) (hk : lv[k0]? = some (i, .ref x)) (hq : pc + 1 = q) (k : jw_J z q lv (.ref x :: st) c n w Q) : jw_J z pc lv st c n w Q := by
  subst hq
  exact fun H locs ls hP hS hh => lv_aload_n am.1 am.2.1 d hi (lv_at hh k0 hk) (k H locs ls hP hS hh)
theorem jw_istore {i : Nat} {x : Int32} (am : wt_Am z R_L code 7 60 rt) (d : decode code pc = .ok (.istore i, 2)) (ks : List Nat) (hl : lv_pick ((i, Value.int x) :: lv.filter (fun q => !(q.1 == i) && !(q.1 + 1 == i && q.2.category == 2))) ks = lv') (hn : Nat.ble (i + 1) 7 = true) (hq : pc + 2 = q) (k : jw_J z q lv' st c n w Q) : jw_J z pc lv (.int x :: st) c n w Q := by
  subst hq
  exact fun H locs ls hP hS hh => lv_istore am.1 am.2.1 d hh (Nat.le_of_ble_eq_true hn) rfl (fun ls2 h2 => k H locs ls2 hP hS (lv_sub h2 ks hl))
theorem jw_iinc {i : Nat} {n0 : Int} {x v : Int32} (am : wt_Am z R_L code 7 60 rt) (d : decode code pc = .ok (.iinc i n0, 3)) (k0 : Nat) (hk : lv[k0]? = some (i, .int x)) (hv : Int32.ofInt n0 = v) (ks : List Nat) (hl : lv_pick ((i, Value.int (x + v)) :: lv.filter (fun q => !(q.1 == i) && !(q.1 + 1 == i && q.2.category == 2))) ks = lv') (hn : Nat.ble (i + 1) 7 = true) (hq : pc + 3 = q) (k : jw_J z q lv' st c n w Q) : jw_J z pc lv st c n w Q := by
  subst hq
  exact fun H locs ls hP hS hh => lv_iinc am.1 am.2.1 d hh hk (congrArg (x + ·) hv) (Nat.le_of_ble_eq_true hn) rfl (fun ls2 h2 => k H locs ls2 hP hS (lv_sub h2 ks hl))
theorem jw_goto {off : Int} (am : wt_Am z R_L code 7 60 rt) (d : decode code pc = .ok (.goto off, 3)) (ht : (pc : Int) + off = (q : Int)) (k : jw_J z q lv st c n w Q) : jw_J z pc lv st c n w Q := fun H locs ls hP hS hh => lv_goto am.1 am.2.1 d ht (k H locs ls hP hS hh)
theorem jw_icmpT {x y : Int32} {off : Int} {g : Nat} (am : wt_Am z R_L code 7 60 rt) (d : decode code pc = .ok (.if_icmp .eq off, 3)) (he : x = y) (ht : (pc : Int) + off = (g : Int)) (k : jw_J z g lv st c n w Q) : jw_J z pc lv (.int y :: .int x :: st) c n w Q :=
  fun H locs ls hP hS hh => lv_icmp_eq am.1 am.2.1 d ht (fun _ => k H locs ls hP hS hh) (fun hc => absurd he hc)
theorem jw_ifneT {x : Int32} {off : Int} {g : Nat} (am : wt_Am z R_L code 7 60 rt) (d : decode code pc = .ok (.ifCond .ne off, 3)) (he : ¬ x = 0) (ht : (pc : Int) + off = (g : Int)) (k : jw_J z g lv st c n w Q) : jw_J z pc lv (.int x :: st) c n w Q :=
  fun H locs ls hP hS hh => lv_if_ne am.1 am.2.1 d ht (fun _ => k H locs ls hP hS hh) (fun hc => absurd hc he)
theorem jw_ifneF {x : Int32} {off : Int} {g : Nat} (am : wt_Am z R_L code 7 60 rt) (d : decode code pc = .ok (.ifCond .ne off, 3)) (he : x = 0) (ht : (pc : Int) + off = (g : Int)) (hq : pc + 3 = q) (k : jw_J z q lv st c n w Q) : jw_J z pc lv (.int x :: st) c n w Q := by
  subst hq
  exact fun H locs ls hP hS hh => lv_if_ne am.1 am.2.1 d ht (fun hc => absurd he hc) (fun _ => k H locs ls hP hS hh)
theorem jw_i2l {x : Int32} (am : wt_Am z R_L code 7 60 rt) (d : decode code pc = .ok (.i2l, 1)) (hq : pc + 1 = q) (k : jw_J z q lv (.long (x.toInt64) :: st) c n w Q) : jw_J z pc lv (.int x :: st) c n w Q := by
  subst hq
  exact fun H locs ls hP hS hh => lv_i2l am.1 am.2.1 d rfl (k H locs ls hP hS hh)
theorem jw_lcmpT {x y : Int64} {off : Int} {g : Nat} (am : wt_Am z R_L code 7 60 rt) (d : decode code pc = .ok (.lcmp, 1)) (d2 : decode code (pc + 1) = .ok (.ifCond .eq off, 3)) (he : x = y) (ht : ((pc + 1 : Nat) : Int) + off = (g : Int)) (k : jw_J z g lv st c n w Q) : jw_J z pc lv (.long y :: .long x :: st) c n w Q :=
  fun H locs ls hP hS hh => W.lcmp am.1 am.2.1 d (lv_if_eq am.1 am.2.1 d2 ht (fun _ => k H locs ls hP hS hh) (fun hc => absurd ((lg_cmp_eq x y).mpr he) hc))
theorem jw_lald {s : wt_S} {t : wt_M} {o : Nat → Int64} (am : wt_Am z R_L code 7 60 rt) (d0 : decode code pc = .ok (.aload_n 3, 1)) (d1 : decode code (pc + 1) = .ok (.iconst 0, 1)) (d2 : decode code (pc + 1 + 1) = .ok (.laload, 1)) (h3 : lv[3]? = some (3, .ref (ad_ z 21))) (hq : pc + 1 + 1 + 1 = q) (k : jw_J z q lv (.long (o 0) :: st) c n (s, t, o) Q) : jw_J z pc lv st c n (s, t, o) Q := by
  subst hq
  intro H locs ls hP hS hh
  refine lv_aload_n am.1 am.2.1 d0 rfl (lv_at hh 3 h3) ?_
  refine lv_iconst am.1 am.2.1 d1 ki_0 ?_
  exact va_lald am.1 am.2.1 am.2.2.2.2.2.1 hP 21 2 (n := 1) (f := o) rfl rfl (show ¬ ((0 : Int32) < 0 ∨ 1 ≤ (0 : Int32).toNatClampNeg) by decide) d2 (k H locs ls hP hS hh)
/-- b ? 1L : 0L -/
theorem jw_zlong {x : Int32} (am : wt_Am z R_L code 7 60 rt) (d0 : decode code pc = .ok (.ifCond .eq 7, 3)) (d3 : decode code (pc + 3) = .ok (.lconst 1, 1)) (d4 : decode code (pc + 4) = .ok (.goto 4, 3)) (d7 : decode code (pc + 7) = .ok (.lconst 0, 1)) (hq : pc + 8 = q) (k : jw_J z q lv (.long (if x = 0 then 0 else 1) :: st) c n w Q) : jw_J z pc lv (.int x :: st) c n w Q := by
  subst hq
  intro H locs ls hP hS hh
  refine lv_if_eq (tgt := pc + 7) am.1 am.2.1 d0 (by omega) (fun hc => ?_) (fun hc => ?_)
  · rw [if_pos hc] at k
    exact lv_lconst am.1 am.2.1 d7 kl_0 (k H locs ls hP hS hh)
  · rw [if_neg hc] at k
    exact lv_lconst am.1 am.2.1 d3 kl_1 (lv_goto (tgt := pc + 8) am.1 am.2.1 d4 (by omega) (k H locs ls hP hS hh))
/-- script[i + k] -/
theorem jw_arg {j k : Nat} {kk : Int} (am : wt_Am z R_L code 7 60 rt) (lw : jw_L z b L xs) (hj : 6 * j + 6 ≤ L) (hL : L ≤ 3072) (hk : k < 6) (hki : Int32.ofInt kk = nI k) (d0 : decode code pc = .ok (.aload_n 0, 1)) (d1 : decode code (pc + 1) = .ok (.iload 4, 2)) (d3 : decode code (pc + 1 + 2) = .ok (.iconst kk, 1)) (d4 : decode code (pc + 1 + 2 + 1) = .ok (.iadd, 1)) (d5 : decode code (pc + 1 + 2 + 1 + 1) = .ok (.iaload, 1)) (h0 : lv[0]? = some (0, .ref b)) (h4 : lv[4]? = some (4, .int (nI (6 * j)))) (hq : pc + 1 + 2 + 1 + 1 + 1 = q) (h : jw_J z q lv (.int (xs (6 * j + k)) :: st) c n w Q) : jw_J z pc lv st c n w Q := by
  subst hq
  intro H locs ls hP hS hh
  refine lv_aload_n am.1 am.2.1 d0 rfl (lv_at hh 0 h0) ?_
  refine lv_iload am.1 am.2.1 d1 (lv_at hh 4 h4) ?_
  refine lv_iconst am.1 am.2.1 d3 hki ?_
  refine lv_iadd am.1 am.2.1 d4 ?_
  rw [nI_add]
  refine va_sld am.1 am.2.1 lw.1 lw.2.1 (Nat.not_le.mpr lw.2.1) hS (nI_in (show 6 * j + k < L by omega) (by omega)) d5 ?_
  rw [nI_clamp (by omega)]
  exact h H locs ls hP hS hh
/-- x != 0 -/
theorem jw_zarg {x : Int32} (am : wt_Am z R_L code 7 60 rt) (d0 : decode code pc = .ok (.ifCond .eq 7, 3)) (d3 : decode code (pc + 3) = .ok (.iconst 1, 1)) (d4 : decode code (pc + 4) = .ok (.goto 4, 3)) (d7 : decode code (pc + 7) = .ok (.iconst 0, 1)) (hq : pc + 8 = q) (k : jw_J z q lv (.int (nI (jw_b x).toNat) :: st) c n w Q) : jw_J z pc lv (.int x :: st) c n w Q := by
  subst hq
  intro H locs ls hP hS hh
  refine lv_if_eq (tgt := pc + 7) am.1 am.2.1 d0 (by omega) (fun hc => ?_) (fun hc => ?_)
  · rw [show nI (jw_b x).toNat = 0 by rw [hc]; decide] at k
    exact lv_iconst am.1 am.2.1 d7 ki_0 (k H locs ls hP hS hh)
  · rw [show nI (jw_b x).toNat = 1 by unfold jw_b; rw [show (x == 0) = false from beq_eq_false_iff_ne.mpr hc]; decide] at k
    exact lv_iconst am.1 am.2.1 d3 ki_1 (lv_goto (tgt := pc + 8) am.1 am.2.1 d4 (by omega) (k H locs ls hP hS hh))
theorem jw_px {as : List Value} {H : Heap} {locs : List Loc} (am : wt_Am z R_L code 7 60 rt) (lw : jw_L z b L xs) (hP : va_P (zz_v z).2.2.1 wt_cl (wt_wo (zz_v z) w) H) (hS : va_S (fun q => (zz_s z).heap.size ≤ q) (zz_s z).heap H locs) : ∀ U : State, U.heap = H → (zz_s z).WarmedH U.vm → va_Pc as (fun U => wt_Wd (zz_v z) w U ∧ wx_E (zz_v z) U) as.toArray U :=
  fun U hU hW => ⟨rfl, ⟨by rw [hU]; exact hP, va_K.moved hW.alike am.2.2.2.2.2.1, fun x hx => va_Nw.warmM hW (am.2.2.2.2.2.2.1 x hx), am.2.2.2.2.2.2.2.1⟩, wx_at lw.2.2.1 hS (fun _ h1 h2 => absurd h2 (Nat.not_le.mpr h1)) hU hW⟩
/-- a call of a small method of the law -/
theorem jw_W {i : Nat} {y : MethodName} {bb : ByteArray} {mL n' : Nat} {hh : List (Nat × Nat × Nat × Nat)} {k : Int32} (as : List Value) (am : wt_Am z R_L code 7 60 rt) (lw : jw_L z b L xs) (l1 : Cond.codeWith y bb mL (some .int) hh ∈ wt_WS) (l2 : Cond.methodLink R_L i y ∈ wt_WS) (l3 : Cond.static y ∈ wt_WS) (l4 : Cond.initialized y.cls ∈ wt_WS) (l5 : y.cls ≠ "java/lang/invoke/MethodHandle" ∧ y.cls ≠ "java/lang/invoke/VarHandle" ∧ (parseMethodDescriptor y.desc).map (fun d => d.parameters.length) = some n') (hmL : mL ≤ 45) (hc : cw_C (zz_v z) y (Cond.codeWith y bb mL (some .int) hh) 25 as k w w') (hn : as.length = n') (hst : as.reverse ++ rest = st0) (hcat : (rest.map fun v => v.category).sum ≤ 8) (d : decode code pc = .ok (.invokestatic i, 3)) (hR : c + 1 ≤ (zz_R z).cells ∧ n + 6 ≤ (zz_R z).slots) (hq : pc + 3 = q) (kk : jw_J z q lv (.int k :: rest) (c + 1) (n + 6) w' Q) : jw_J z pc lv st0 c n w Q := by
  subst hq
  intro H locs ls hP hS hl
  have hts := am.2.2.2.2.1
  have hf := am.2.2.2.2.2.2.2.2.1
  have hg := am.2.2.2.2.2.2.2.2.2.1
  have run := vx_runSX (p := zz_p z) (e := zz_e z) (below := zz_b z) (meth := zz_t z) (locs := locs) (cells := c) (slots := n) (g := F0 (zz_m z) pc ls st0) (As := as) (rest := rest) ⟨am.1, am.2.1, am.2.2.1, am.2.2.2.1, am.2.2.2.2.1⟩ hc (vx_cwSW (R := zz_R z) n' hts (jw_gd l1 l2 l3 l4) rfl rfl rfl l5 ⟨show 25 + 1 ≤ _ by omega, show 8 + (mL + 11) + 64 * 25 ≤ _ by omega⟩) ⟨px_blind, jw_px am lw hP hS⟩ rfl hn hl.1 hst.symm (lv_room hcat) d hR
  intro T hT X
  rcases run T hT X with ⟨v, st₀, t, T', LL, h9, X', hL, e1, e2, ⟨hv, hP', hF⟩, go⟩ | ⟨q, st₀, t, T', LL, E', ce, h9, X', hL, e1, e2, hX, hce, hcv, hcl, go⟩
  · cases hv
    obtain ⟨k1, k2, k3⟩ := vx_keep h9 e1 hS (fun q _ h => lw.2.2.2 q h) (fun q h => lw.2.2.2 q h) hL hF
    obtain ⟨t2, a1, b1⟩ := kk T'.heap (locs ++ LL) ls (by rw [e1]; exact hP') k3 hl T' rfl X'
    exact ⟨t2, go t2 a1, b1⟩
  · exact hX.elim
/-- a call of the class or of the reference -/
theorem jw_V {i : Nat} {y : MethodName} {bb : ByteArray} {mL n' h' rb : Nat} {rt' : Option FieldType} {ret' : Option Value} (as : List Value) (am : wt_Am z R_L code 7 60 rt) (lw : jw_L z b L xs) (Lk : ln_V R_L i y bb mL n' rt') (hc : ct_C (zz_v z) y (Cond.code y bb mL rt') h' (.ref rb :: as) ret' w w') (hh : h' + 1 ≤ 60) (hrec : rc_ z w y.cls rb) (hn : as.length = n') (hst : as.reverse ++ .ref rb :: rest = st0) (hcat : (rest.map fun v => v.category).sum ≤ 8) (d : decode code pc = .ok (.invokevirtual i, 3)) (hR : c ≤ (zz_R z).cells ∧ n ≤ (zz_R z).slots) (hq : pc + 3 = q) (kk : jw_J z q lv (ret'.toList ++ rest) c n w' Q) : jw_J z pc lv st0 c n w Q := by
  subst hq
  intro H locs ls hP hS hl
  obtain ⟨L1, L2, L3, L4, L5, L6, L7⟩ := Lk
  have hts := am.2.2.2.2.1
  have hf := am.2.2.2.2.2.2.2.2.1
  have hg := am.2.2.2.2.2.2.2.2.2.1
  have run := va_runV (p := zz_p z) (e := zz_e z) (below := zz_b z) (meth := zz_t z) (locs := locs) (cells := c) (slots := n) (g := F0 (zz_m z) pc ls st0) (As := as) (rest := rest) ⟨am.1, am.2.1, am.2.2.1, am.2.2.2.1, am.2.2.2.2.1⟩ hc ⟨callB_of (R := zz_R z) n' hts (wt_good L1) rfl rfl rfl (hts _ L5) (hts _ L2) L6 ⟨show h' + 1 ≤ _ by omega, show 8 + (mL + 11) + 64 * h' ≤ _ by omega⟩, hts _ L3, hts _ L4⟩ ⟨pc_blind, hrec H hP, pc_at am hP⟩ rfl hn hl.1 hst.symm (lv_room hcat) d hR
  intro T hT X
  obtain ⟨v, st₀, t, T', LL, h9, X', hL, e1, e2, ⟨hv, hW, hF⟩, go⟩ := run T hT X
  cases hv
  obtain ⟨k1, k2, k3⟩ := vx_keep h9 e1 hS (fun q _ h => lw.2.2.2 q h) (fun q h => lw.2.2.2 q h) hL hF
  obtain ⟨t2, a1, b1⟩ := kk T'.heap (locs ++ LL) ls (by rw [e1]; exact hW.1) k3 hl T' rfl X'
  exact ⟨t2, go t2 a1, b1⟩
theorem jw_tin {m : Nat} {x : Int32} {dflt lo hi off : Int} {offs : Array Int} {len g : Nat} (am : wt_Am z R_L code 7 60 rt) (d : decode code pc = .ok (.tableswitch dflt lo hi offs, len)) (e : x = nI m) (h1 : ¬ (nI m).toInt < lo) (h2 : ¬ hi < (nI m).toInt) (ho : offs[((nI m).toInt - lo).toNat]? = some off) (ht : (pc : Int) + off = (g : Int)) (k : jw_J z g lv st c n w Q) : jw_J z pc lv (.int x :: st) c n w Q := by
  subst e
  exact fun H locs ls hP hS hh => lv_tableIn am.1 am.2.1 d h1 h2 ho ht (k H locs ls hP hS hh)
theorem jw_tout {x : Int32} {dflt lo hi : Int} {offs : Array Int} {len g : Nat} (am : wt_Am z R_L code 7 60 rt) (d : decode code pc = .ok (.tableswitch dflt lo hi offs, len)) (h1 : x.toInt < lo ∨ hi < x.toInt) (ht : (pc : Int) + dflt = (g : Int)) (k : jw_J z g lv st c n w Q) : jw_J z pc lv (.int x :: st) c n w Q :=
  fun H locs ls hP hS hh => lv_tableOut am.1 am.2.1 d h1 ht (k H locs ls hP hS hh)
theorem jw_wide {c2 n2 : Nat} (h1 : c ≤ c2) (h2 : n ≤ n2) (k : jw_J z pc lv st c2 n2 w Q) : jw_J z pc lv st c n w Q := fun H locs ls hP hS hh => W.widen h1 h2 (k H locs ls hP hS hh)
theorem jw_sub (ks : List Nat) (hl : lv_pick lv ks = lv') (k : jw_J z pc lv' st c n w Q) : jw_J z pc lv st c n w Q := fun H locs ls hP hS hh => k H locs ls hP hS (lv_sub hh ks hl)
end LB
