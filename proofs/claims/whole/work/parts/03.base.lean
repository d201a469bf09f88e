/-! The judgement: a configuration of a method over ONE world (the class's object, its store with nine rows, the reference's object with nine rows, the law's row), and a function's value. My own. -/
abbrev wt_S : Type := Nat → Nat → Int32
abbrev wt_M : Type := (Nat → Nat → Int32) × (Nat → Nat → Int64)
abbrev wt_W : Type := wt_S × wt_M × (Nat → Int64)
abbrev wt_V : Type := Launch × (Nat → Nat) × va_G × (Nat → ClassId)
abbrev wt_Z : Type := Program × Env × Room × State × MethodId × Array Value × List Frame × Method × Code × wt_V
abbrev zz_p (z : wt_Z) : Program := z.1
abbrev zz_e (z : wt_Z) : Env := z.2.1
abbrev zz_R (z : wt_Z) : Room := z.2.2.1
abbrev zz_s (z : wt_Z) : State := z.2.2.2.1
abbrev zz_m (z : wt_Z) : MethodId := z.2.2.2.2.1
abbrev zz_a (z : wt_Z) : Array Value := z.2.2.2.2.2.1
abbrev zz_b (z : wt_Z) : List Frame := z.2.2.2.2.2.2.1
abbrev zz_t (z : wt_Z) : Method := z.2.2.2.2.2.2.2.1
abbrev zz_c (z : wt_Z) : Code := z.2.2.2.2.2.2.2.2.1
abbrev zz_v (z : wt_Z) : wt_V := z.2.2.2.2.2.2.2.2.2
abbrev ad_ (z : wt_Z) (k : Nat) : Nat := (zz_v z).2.1 k
def wt_wo (v : wt_V) (w : wt_W) : va_W := [(v.2.1 0, .inr (0, [.ref (v.2.1 1)])),
  (v.2.1 1, .inr (1, [.ref (v.2.1 2), .ref (v.2.1 3), .ref (v.2.1 4), .ref (v.2.1 5), .ref (v.2.1 6), .ref (v.2.1 7), .ref (v.2.1 8), .ref (v.2.1 9), .ref (v.2.1 10), .int (w.1 9 0), .int (w.1 9 1), .int (w.1 9 2)])),
  (v.2.1 2, .inl (v.2.2.2 0, 20, .inl (w.1 0))),
  (v.2.1 3, .inl (v.2.2.2 0, 8, .inl (w.1 1))),
  (v.2.1 4, .inl (v.2.2.2 0, 9, .inl (w.1 2))),
  (v.2.1 5, .inl (v.2.2.2 0, 2048, .inl (w.1 3))),
  (v.2.1 6, .inl (v.2.2.2 0, 2048, .inl (w.1 4))),
  (v.2.1 7, .inl (v.2.2.2 0, 2048, .inl (w.1 5))),
  (v.2.1 8, .inl (v.2.2.2 0, 2048, .inl (w.1 6))),
  (v.2.1 9, .inl (v.2.2.2 0, 256, .inl (w.1 7))),
  (v.2.1 10, .inl (v.2.2.2 1, 2048, .inl (w.1 8))),
  (v.2.1 11, .inr (2, [.int (w.2.1.1 9 0), .ref (v.2.1 18), .ref (v.2.1 12), .ref (v.2.1 13), .ref (v.2.1 19), .int (w.2.1.1 9 1), .ref (v.2.1 14), .int (w.2.1.1 9 2), .ref (v.2.1 15), .int (w.2.1.1 9 3), .ref (v.2.1 16), .ref (v.2.1 20), .ref (v.2.1 17)])),
  (v.2.1 12, .inl (v.2.2.2 0, 8, .inl (w.2.1.1 0))),
  (v.2.1 13, .inl (v.2.2.2 0, 8, .inl (w.2.1.1 1))),
  (v.2.1 14, .inl (v.2.2.2 0, 4000, .inl (w.2.1.1 2))),
  (v.2.1 15, .inl (v.2.2.2 0, 4000, .inl (w.2.1.1 3))),
  (v.2.1 16, .inl (v.2.2.2 0, 4000, .inl (w.2.1.1 4))),
  (v.2.1 17, .inl (v.2.2.2 0, 16, .inl (w.2.1.1 5))),
  (v.2.1 18, .inl (v.2.2.2 2, 72, .inr (.inl (w.2.1.2 0)))),
  (v.2.1 19, .inl (v.2.2.2 2, 16000, .inr (.inl (w.2.1.2 1)))),
  (v.2.1 20, .inl (v.2.2.2 2, 6, .inr (.inl (w.2.1.2 2)))),
  (v.2.1 21, .inl (v.2.2.2 2, 1, .inr (.inl w.2.2)))]
def wt_A (v : wt_V) : Nat → Prop := fun q => ∃ k : Nat, k < 22 ∧ q = v.2.1 k
abbrev wt_tys (v : wt_V) : List (ClassId × FieldType) := [(v.2.2.2 0, .int), (v.2.2.2 1, .boolean), (v.2.2.2 2, .long)]
def wt_NX (U : State) : Prop := ∀ q ∈ wt_nest, va_Nw (.methodLinkNest q.1 q.2.1 q.2.2.1 q.2.2.2) U
def wt_Dj (v : wt_V) : Prop := ∀ w : wt_W, va_D (wt_A v) (wt_wo v w)
def wt_Wd (v : wt_V) (w : wt_W) (U : State) : Prop := va_P v.2.2.1 wt_cl (wt_wo v w) U.heap ∧ va_K v.2.2.1 wt_cl (wt_tys v) U ∧ wt_NX U ∧ wt_Dj v
def wt_Am (z : wt_Z) (own : String) (cc : ByteArray) (nL h : Nat) (rt : Option FieldType) : Prop :=
  (zz_p z).tables.exec = Jvm.exec ∧ (zz_c z).code = cc ∧ (zz_c z).maxLocals = nL ∧ (zz_s z).vm.findClass own = some (zz_m z).cls ∧ (∀ w ∈ wt_WS, w.before (zz_a z) (zz_s z) = true) ∧ va_K (zz_v z).2.2.1 wt_cl (wt_tys (zz_v z)) (zz_s z) ∧ wt_NX (zz_s z) ∧ wt_Dj (zz_v z) ∧ h ≤ (zz_R z).frames ∧ 64 * h ≤ (zz_R z).locals ∧ (zz_t z).locks = false ∧ (zz_t z).sig.returnType = rt
def jj_J {ρ : Type} (z : wt_Z) (nL pc : Nat) (lv : List (Nat × Value)) (st : List Value) (w : wt_W) (Q : ρ → State → Prop) (x : Option ρ) : Prop :=
  ∀ r : ρ, x = some r → ∀ (H : Heap) (locs : List Loc) (ls : Array Slot), va_P (zz_v z).2.2.1 wt_cl (wt_wo (zz_v z) w) H → va_S (wt_A (zz_v z)) (zz_s z).heap H locs → lv_has ls nL lv →
    W (zz_p z) (zz_v z).1 (zz_e z) (zz_R z) (zz_s z) (zz_m z) (zz_a z) (zz_b z) (zz_t z) (zz_c z) H locs 0 0 (Q r) (F0 (zz_m z) pc ls st)
-- contracts
def wt_rm (h : Nat) : Room := { frames := h, cells := 0, slots := 0, locals := 64 * h }
def ct_Q (v : wt_V) (ret : Option Value) (w' : wt_W) : Array Value → State → Outcome → State → Prop := fun _ st oc t => oc = .returned ret ∧ wt_Wd v w' t ∧ va_F (wt_A v) st t
def ct_C (v : wt_V) (y : MethodName) (cw : Cond) (h : Nat) (as : List Value) (ret : Option Value) (w w' : wt_W) : Prop :=
  Met v.1 y (cw :: wt_WS) (wt_rm h) (va_Pc as (fun U => wt_Wd v w U)) (ct_Q v ret w') 0 0 (wt_A v)
def ct_M {ρ : Type} (z : wt_Z) (rv : ρ → Option Value) (rw : ρ → wt_W) : ρ → State → Prop := fun r => MQ (zz_b z) (ct_Q (zz_v z) (rv r) (rw r)) (zz_a z) (zz_s z) 0 0 (wt_A (zz_v z))
-- the words of the functions
def rd_ {β : Type} (f : Nat → Int32) (n : Nat) (i : Int32) (k : Int32 → Option β) : Option β := if i < 0 ∨ n ≤ i.toNatClampNeg then none else k (f i.toNatClampNeg)
def rd_L {β : Type} (f : Nat → Int64) (n : Nat) (i : Int32) (k : Int64 → Option β) : Option β := if i < 0 ∨ n ≤ i.toNatClampNeg then none else k (f i.toNatClampNeg)
def pu_S (s : wt_S) (k i : Nat) (x : Int32) : wt_S := fun r => if r = k then upd (s k) i x else s r
def pu_L (s : Nat → Nat → Int64) (k i : Nat) (x : Int64) : Nat → Nat → Int64 := fun r => if r = k then vp_updL (s k) i x else s r
def wr_S {β : Type} (s : wt_S) (k n : Nat) (i x : Int32) (f : wt_S → Option β) : Option β := if i < 0 ∨ n ≤ i.toNatClampNeg then none else f (pu_S s k i.toNatClampNeg x)
def wr_T {β : Type} (t : wt_M) (k n : Nat) (i x : Int32) (f : wt_M → Option β) : Option β := if i < 0 ∨ n ≤ i.toNatClampNeg then none else f (pu_S t.1 k i.toNatClampNeg x, t.2)
def wr_L {β : Type} (t : wt_M) (k n : Nat) (i : Int32) (x : Int64) (f : wt_M → Option β) : Option β := if i < 0 ∨ n ≤ i.toNatClampNeg then none else f (t.1, pu_L t.2 k i.toNatClampNeg x)
def sp_S {β : Type} (s : wt_S) (k : Nat) (x : Int32) (f : wt_S → Option β) : Option β := f (pu_S s 9 k x)
def sp_T {β : Type} (t : wt_M) (k : Nat) (x : Int32) (f : wt_M → Option β) : Option β := f (pu_S t.1 9 k x, t.2)
def rz_ {β : Type} (x : Int32) (f : Option β) : Option β := if narrow .boolean (.int x) = .int x then f else none
def jn_ {α β : Type} (k : α) (f : α → β) : β := f k
def b_U {β : Type} (x : Option Unit) (f : Unit → Option β) : Option β := x.bind f
def b_I {β : Type} (x : Option Int32) (f : Int32 → Option β) : Option β := x.bind f
def b_S {β : Type} (x : Option wt_S) (f : wt_S → Option β) : Option β := x.bind f
def b_T {β : Type} (x : Option wt_M) (f : wt_M → Option β) : Option β := x.bind f
def b_IS {β : Type} (x : Option (Int32 × wt_S)) (f : Int32 → wt_S → Option β) : Option β := x.bind fun q => f q.1 q.2
def b_IT {β : Type} (x : Option (Int32 × wt_M)) (f : Int32 → wt_M → Option β) : Option β := x.bind fun q => f q.1 q.2
abbrev q_U (z : wt_Z) (s : wt_S) (t : wt_M) (o : Nat → Int64) : Unit → State → Prop := ct_M z (fun _ : Unit => none) (fun _ => (s, t, o))
abbrev q_I (z : wt_Z) (s : wt_S) (t : wt_M) (o : Nat → Int64) : Int32 → State → Prop := ct_M z (fun r : Int32 => some (.int r)) (fun _ => (s, t, o))
abbrev q_S (z : wt_Z) (t : wt_M) (o : Nat → Int64) : wt_S → State → Prop := ct_M z (fun _ : wt_S => none) (fun r => (r, t, o))
abbrev q_T (z : wt_Z) (s : wt_S) (o : Nat → Int64) : wt_M → State → Prop := ct_M z (fun _ : wt_M => none) (fun r => (s, r, o))
abbrev q_IS (z : wt_Z) (t : wt_M) (o : Nat → Int64) : Int32 × wt_S → State → Prop := ct_M z (fun r : Int32 × wt_S => some (.int r.1)) (fun r => (r.2, t, o))
abbrev q_IT (z : wt_Z) (s : wt_S) (o : Nat → Int64) : Int32 × wt_M → State → Prop := ct_M z (fun r : Int32 × wt_M => some (.int r.1)) (fun r => (s, r.2, o))
theorem ki_m1 : Int32.ofInt (-1) = (-1) := by decide
theorem ki_0 : Int32.ofInt 0 = 0 := by decide
theorem ki_1 : Int32.ofInt 1 = 1 := by decide
theorem ki_2 : Int32.ofInt 2 = 2 := by decide
theorem ki_3 : Int32.ofInt 3 = 3 := by decide
theorem ki_4 : Int32.ofInt 4 = 4 := by decide
theorem ki_5 : Int32.ofInt 5 = 5 := by decide
theorem ki_6 : Int32.ofInt 6 = 6 := by decide
theorem kb_6 : (Int8.ofInt 6).toInt32 = 6 := by decide
theorem kb_7 : (Int8.ofInt 7).toInt32 = 7 := by decide
theorem kb_8 : (Int8.ofInt 8).toInt32 = 8 := by decide
theorem kb_9 : (Int8.ofInt 9).toInt32 = 9 := by decide
theorem kb_14 : (Int8.ofInt 14).toInt32 = 14 := by decide
theorem kb_15 : (Int8.ofInt 15).toInt32 = 15 := by decide
theorem kb_16 : (Int8.ofInt 16).toInt32 = 16 := by decide
theorem kb_17 : (Int8.ofInt 17).toInt32 = 17 := by decide
theorem kb_18 : (Int8.ofInt 18).toInt32 = 18 := by decide
theorem kb_19 : (Int8.ofInt 19).toInt32 = 19 := by decide
theorem kb_20 : (Int8.ofInt 20).toInt32 = 20 := by decide
theorem kb_31 : (Int8.ofInt 31).toInt32 = 31 := by decide
theorem kb_37 : (Int8.ofInt 37).toInt32 = 37 := by decide
theorem kb_63 : (Int8.ofInt 63).toInt32 = 63 := by decide
theorem kb_64 : (Int8.ofInt 64).toInt32 = 64 := by decide
theorem kb_68 : (Int8.ofInt 68).toInt32 = 68 := by decide
theorem kb_72 : (Int8.ofInt 72).toInt32 = 72 := by decide
theorem kb_85 : (Int8.ofInt 85).toInt32 = 85 := by decide
theorem kb_101 : (Int8.ofInt 101).toInt32 = 101 := by decide
theorem ks_170 : (Int16.ofInt 170).toInt32 = 170 := by decide
theorem ks_255 : (Int16.ofInt 255).toInt32 = 255 := by decide
theorem ks_256 : (Int16.ofInt 256).toInt32 = 256 := by decide
theorem ks_2048 : (Int16.ofInt 2048).toInt32 = 2048 := by decide
theorem ks_4000 : (Int16.ofInt 4000).toInt32 = 4000 := by decide
theorem ks_16000 : (Int16.ofInt 16000).toInt32 = 16000 := by decide
theorem kl_0 : Int64.ofNat ((0 : Fin 2) : Nat) = 0 := by decide
theorem kl_1 : Int64.ofNat ((1 : Fin 2) : Nat) = 1 := by decide
section Rows
variable {ρ : Type} {z : wt_Z} {own : String} {cc : ByteArray} {nL h pc q : Nat} {rt : Option FieldType} {lv lv' : List (Nat × Value)} {st : List Value} {w : wt_W} {Q : ρ → State → Prop} {X Y : Option ρ}
theorem ji_none : jj_J z nL pc lv st w Q none := fun _ hr => by cases hr
theorem ji_sub (ks : List Nat) (hl : lv_pick lv ks = lv') (k : jj_J z nL pc lv' st w Q X) : jj_J z nL pc lv st w Q X := fun r hr H locs ls hP hS hh => k r hr H locs ls hP hS (lv_sub hh ks hl)
theorem ji_jn2 {α : Type} {kk : α} {f : α → Option ρ} (P : α → Prop) (h1 : P kk) (h2 : ∀ j, P j → jj_J z nL pc lv st w Q (f j)) : jj_J z nL pc lv st w Q (jn_ kk f) := h2 kk h1
theorem ji_tsw {x c : Int32} (kt : x = c → jj_J z nL pc lv (.int x :: st) w Q X) (kf : ¬ x = c → jj_J z nL pc lv (.int x :: st) w Q Y) : jj_J z nL pc lv (.int x :: st) w Q (if x = c then X else Y) := by
  by_cases hc : x = c
  · rw [if_pos hc]; exact kt hc
  · rw [if_neg hc]; exact kf hc
theorem ji_tin {x c : Int32} {dflt lo hi off : Int} {offs : Array Int} {len g : Nat} (am : wt_Am z own cc nL h rt) (d : decode cc pc = .ok (.tableswitch dflt lo hi offs, len)) (e : x = c) (h1 : ¬ c.toInt < lo) (h2 : ¬ hi < c.toInt) (ho : offs[(c.toInt - lo).toNat]? = some off) (ht : (pc : Int) + off = (g : Int)) (k : jj_J z nL g lv st w Q X) : jj_J z nL pc lv (.int x :: st) w Q X := by
  subst e
  exact fun r hr H locs ls hP hS hh => lv_tableIn am.1 am.2.1 d h1 h2 ho ht (k r hr H locs ls hP hS hh)
theorem ji_tout {x : Int32} {dflt lo hi : Int} {offs : Array Int} {len g : Nat} (am : wt_Am z own cc nL h rt) (d : decode cc pc = .ok (.tableswitch dflt lo hi offs, len)) (h1 : x.toInt < lo ∨ hi < x.toInt) (ht : (pc : Int) + dflt = (g : Int)) (k : jj_J z nL g lv st w Q X) : jj_J z nL pc lv (.int x :: st) w Q X :=
  fun r hr H locs ls hP hS hh => lv_tableOut am.1 am.2.1 d h1 ht (k r hr H locs ls hP hS hh)
theorem ji_jn {α : Type} {kk : α} {f : α → Option ρ} (k : jj_J z nL pc lv st w Q (f kk)) : jj_J z nL pc lv st w Q (jn_ kk f) := k

theorem ji_iconst {n : Int} {v : Int32} (am : wt_Am z own cc nL h rt) (d : decode cc pc = .ok (.iconst n, 1)) (hv : Int32.ofInt n = v) (hq : pc + 1 = q) (k : jj_J z nL q lv (.int v :: st) w Q X) : jj_J z nL pc lv (st) w Q X := by
  subst hq
  exact fun r hr H locs ls hP hS hh => lv_iconst am.1 am.2.1 d hv (k r hr H locs ls hP hS hh)
theorem ji_bipush {n : Int} {v : Int32} (am : wt_Am z own cc nL h rt) (d : decode cc pc = .ok (.bipush n, 2)) (hv : (Int8.ofInt n).toInt32 = v) (hq : pc + 2 = q) (k : jj_J z nL q lv (.int v :: st) w Q X) : jj_J z nL pc lv (st) w Q X := by
  subst hq
  exact fun r hr H locs ls hP hS hh => lv_bipush am.1 am.2.1 d hv (k r hr H locs ls hP hS hh)
theorem ji_sipush {n : Int} {v : Int32} (am : wt_Am z own cc nL h rt) (d : decode cc pc = .ok (.sipush n, 3)) (hv : (Int16.ofInt n).toInt32 = v) (hq : pc + 3 = q) (k : jj_J z nL q lv (.int v :: st) w Q X) : jj_J z nL pc lv (st) w Q X := by
  subst hq
  exact fun r hr H locs ls hP hS hh => lv_sipush am.1 am.2.1 d hv (k r hr H locs ls hP hS hh)
theorem ji_lconst {n : Fin 2} {v : Int64} (am : wt_Am z own cc nL h rt) (d : decode cc pc = .ok (.lconst n, 1)) (hv : Int64.ofNat (n : Nat) = v) (hq : pc + 1 = q) (k : jj_J z nL q lv (.long v :: st) w Q X) : jj_J z nL pc lv (st) w Q X := by
  subst hq
  exact fun r hr H locs ls hP hS hh => lv_lconst am.1 am.2.1 d hv (k r hr H locs ls hP hS hh)
theorem ji_ldc {i : Nat} {v : Int32} (am : wt_Am z own cc nL h rt) (hc : Cond.constant own i v ∈ wt_WS) (d : decode cc pc = .ok (.ldc i, 2)) (hq : pc + 2 = q) (k : jj_J z nL q lv (.int v :: st) w Q X) : jj_J z nL pc lv st w Q X := by
  subst hq
  exact fun r hr H locs ls hP hS hh => lv_ldc am.1 am.2.1 am.2.2.2.1 (am.2.2.2.2.1 _ hc) d (k r hr H locs ls hP hS hh)
theorem ji_ldc2 {i : Nat} {v : Int64} (am : wt_Am z own cc nL h rt) (hc : Cond.constantLong own i v ∈ wt_WS) (d : decode cc pc = .ok (.ldc2_w i, 3)) (hq : pc + 3 = q) (k : jj_J z nL q lv (.long v :: st) w Q X) : jj_J z nL pc lv st w Q X := by
  subst hq
  exact fun r hr H locs ls hP hS hh => lv_ldc2 am.1 am.2.1 am.2.2.2.1 (am.2.2.2.2.1 _ hc) d (k r hr H locs ls hP hS hh)
theorem ji_iload_n {j : Fin 4} {i : Nat} {x : Int32} (am : wt_Am z own cc nL h rt) (d : decode cc pc = .ok (.iload_n j, 1)) (hi : (j : Nat) = i) (k0 : Nat) (hk : lv[k0]? = some (i, .int x)) (hq : pc + 1 = q) (k : jj_J z nL q lv (.int x :: st) w Q X) : jj_J z nL pc lv st w Q X := by
  subst hq
  exact fun r hr H locs ls hP hS hh => lv_iload_n am.1 am.2.1 d hi (lv_at hh k0 hk) (k r hr H locs ls hP hS hh)
theorem ji_iload {i : Nat} {x : Int32} (am : wt_Am z own cc nL h rt) (d : decode cc pc = .ok (.iload i, 2)) (k0 : Nat) (hk : lv[k0]? = some (i, .int x)) (hq : pc + 2 = q) (k : jj_J z nL q lv (.int x :: st) w Q X) : jj_J z nL pc lv st w Q X := by
  subst hq
  exact fun r hr H locs ls hP hS hh => lv_iload am.1 am.2.1 d (lv_at hh k0 hk) (k r hr H locs ls hP hS hh)
theorem ji_lload_n {j : Fin 4} {i : Nat} {x : Int64} (am : wt_Am z own cc nL h rt) (d : decode cc pc = .ok (.lload_n j, 1)) (hi : (j : Nat) = i) (k0 : Nat) (hk : lv[k0]? = some (i, .long x)) (hq : pc + 1 = q) (k : jj_J z nL q lv (.long x :: st) w Q X) : jj_J z nL pc lv st w Q X := by
  subst hq
  exact fun r hr H locs ls hP hS hh => lv_lload_n am.1 am.2.1 d hi (lv_at hh k0 hk) (k r hr H locs ls hP hS hh)
theorem ji_lload {i : Nat} {x : Int64} (am : wt_Am z own cc nL h rt) (d : decode cc pc = .ok (.lload i, 2)) (k0 : Nat) (hk : lv[k0]? = some (i, .long x)) (hq : pc + 2 = q) (k : jj_J z nL q lv (.long x :: st) w Q X) : jj_J z nL pc lv st w Q X := by
  subst hq
  exact fun r hr H locs ls hP hS hh => lv_lload am.1 am.2.1 d (lv_at hh k0 hk) (k r hr H locs ls hP hS hh)
theorem ji_aload_n {j : Fin 4} {i : Nat} {x : Nat} (am : wt_Am z own cc nL h rt) (d : decode cc pc = .ok (.aload_n j, 1)) (hi : (j : Nat) = i) (k0 : Nat) (hk : lv[k0]? = some (i, .ref x)) (hq : pc + 1 = q) (k : jj_J z nL q lv (.ref x :: st) w Q X) : jj_J z nL pc lv st w Q X := by
  subst hq
  exact fun r hr H locs ls hP hS hh => lv_aload_n am.1 am.2.1 d hi (lv_at hh k0 hk) (k r hr H locs ls hP hS hh)
theorem ji_aload {i : Nat} {x : Nat} (am : wt_Am z own cc nL h rt) (d : decode cc pc = .ok (.aload i, 2)) (k0 : Nat) (hk : lv[k0]? = some (i, .ref x)) (hq : pc + 2 = q) (k : jj_J z nL q lv (.ref x :: st) w Q X) : jj_J z nL pc lv st w Q X := by
  subst hq
  exact fun r hr H locs ls hP hS hh => lv_aload am.1 am.2.1 d (lv_at hh k0 hk) (k r hr H locs ls hP hS hh)
theorem ji_istore_n {j : Fin 4} {i : Nat} {x : Int32} (am : wt_Am z own cc nL h rt) (d : decode cc pc = .ok (.istore_n j, 1)) (hi : (j : Nat) = i) (ks : List Nat) (hl : lv_pick ((i, Value.int x) :: lv.filter (fun q => !(q.1 == i) && !(q.1 + 1 == i && q.2.category == 2))) ks = lv') (hn : Nat.ble (i + 1) nL = true) (hq : pc + 1 = q) (k : jj_J z nL q lv' st w Q X) : jj_J z nL pc lv (.int x :: st) w Q X := by
  subst hq
  exact fun r hr H locs ls hP hS hh => lv_istore_n am.1 am.2.1 d hi hh (Nat.le_of_ble_eq_true hn) rfl (fun ls2 h2 => k r hr H locs ls2 hP hS (lv_sub h2 ks hl))
theorem ji_istore {i : Nat} {x : Int32} (am : wt_Am z own cc nL h rt) (d : decode cc pc = .ok (.istore i, 2)) (ks : List Nat) (hl : lv_pick ((i, Value.int x) :: lv.filter (fun q => !(q.1 == i) && !(q.1 + 1 == i && q.2.category == 2))) ks = lv') (hn : Nat.ble (i + 1) nL = true) (hq : pc + 2 = q) (k : jj_J z nL q lv' st w Q X) : jj_J z nL pc lv (.int x :: st) w Q X := by
  subst hq
  exact fun r hr H locs ls hP hS hh => lv_istore am.1 am.2.1 d hh (Nat.le_of_ble_eq_true hn) rfl (fun ls2 h2 => k r hr H locs ls2 hP hS (lv_sub h2 ks hl))
theorem ji_lstore_n {j : Fin 4} {i : Nat} {x : Int64} (am : wt_Am z own cc nL h rt) (d : decode cc pc = .ok (.lstore_n j, 1)) (hi : (j : Nat) = i) (ks : List Nat) (hl : lv_pick ((i, Value.long x) :: lv.filter (fun q => !(q.1 == i) && (!(q.1 == i + 1) && !(q.1 + 1 == i && q.2.category == 2)))) ks = lv') (hn : Nat.ble (i + 2) nL = true) (hq : pc + 1 = q) (k : jj_J z nL q lv' st w Q X) : jj_J z nL pc lv (.long x :: st) w Q X := by
  subst hq
  exact fun r hr H locs ls hP hS hh => lv_lstore_n am.1 am.2.1 d hi hh (Nat.le_of_ble_eq_true hn) rfl (fun ls2 h2 => k r hr H locs ls2 hP hS (lv_sub h2 ks hl))
theorem ji_lstore {i : Nat} {x : Int64} (am : wt_Am z own cc nL h rt) (d : decode cc pc = .ok (.lstore i, 2)) (ks : List Nat) (hl : lv_pick ((i, Value.long x) :: lv.filter (fun q => !(q.1 == i) && (!(q.1 == i + 1) && !(q.1 + 1 == i && q.2.category == 2)))) ks = lv') (hn : Nat.ble (i + 2) nL = true) (hq : pc + 2 = q) (k : jj_J z nL q lv' st w Q X) : jj_J z nL pc lv (.long x :: st) w Q X := by
  subst hq
  exact fun r hr H locs ls hP hS hh => lv_lstore am.1 am.2.1 d hh (Nat.le_of_ble_eq_true hn) rfl (fun ls2 h2 => k r hr H locs ls2 hP hS (lv_sub h2 ks hl))
theorem ji_astore_n {j : Fin 4} {i : Nat} {x : Nat} (am : wt_Am z own cc nL h rt) (d : decode cc pc = .ok (.astore_n j, 1)) (hi : (j : Nat) = i) (ks : List Nat) (hl : lv_pick ((i, Value.ref x) :: lv.filter (fun q => !(q.1 == i) && !(q.1 + 1 == i && q.2.category == 2))) ks = lv') (hn : Nat.ble (i + 1) nL = true) (hq : pc + 1 = q) (k : jj_J z nL q lv' st w Q X) : jj_J z nL pc lv (.ref x :: st) w Q X := by
  subst hq
  exact fun r hr H locs ls hP hS hh => lv_astore_n am.1 am.2.1 d hi hh (Nat.le_of_ble_eq_true hn) rfl (fun ls2 h2 => k r hr H locs ls2 hP hS (lv_sub h2 ks hl))
theorem ji_astore {i : Nat} {x : Nat} (am : wt_Am z own cc nL h rt) (d : decode cc pc = .ok (.astore i, 2)) (ks : List Nat) (hl : lv_pick ((i, Value.ref x) :: lv.filter (fun q => !(q.1 == i) && !(q.1 + 1 == i && q.2.category == 2))) ks = lv') (hn : Nat.ble (i + 1) nL = true) (hq : pc + 2 = q) (k : jj_J z nL q lv' st w Q X) : jj_J z nL pc lv (.ref x :: st) w Q X := by
  subst hq
  exact fun r hr H locs ls hP hS hh => lv_astore am.1 am.2.1 d hh (Nat.le_of_ble_eq_true hn) rfl (fun ls2 h2 => k r hr H locs ls2 hP hS (lv_sub h2 ks hl))
theorem ji_iinc {i : Nat} {n : Int} {x v : Int32} (am : wt_Am z own cc nL h rt) (d : decode cc pc = .ok (.iinc i n, 3)) (k0 : Nat) (hk : lv[k0]? = some (i, .int x)) (hv : Int32.ofInt n = v) (ks : List Nat) (hl : lv_pick ((i, Value.int (x + v)) :: lv.filter (fun q => !(q.1 == i) && !(q.1 + 1 == i && q.2.category == 2))) ks = lv') (hn : Nat.ble (i + 1) nL = true) (hq : pc + 3 = q) (k : jj_J z nL q lv' st w Q X) : jj_J z nL pc lv st w Q X := by
  subst hq
  exact fun r hr H locs ls hP hS hh => lv_iinc am.1 am.2.1 d hh hk (congrArg (x + ·) hv) (Nat.le_of_ble_eq_true hn) rfl (fun ls2 h2 => k r hr H locs ls2 hP hS (lv_sub h2 ks hl))
theorem ji_iadd {x y : Int32} (am : wt_Am z own cc nL h rt) (d : decode cc pc = .ok (.iadd, 1)) (hq : pc + 1 = q) (k : jj_J z nL q lv (.int (x + y) :: st) w Q X) : jj_J z nL pc lv (.int y :: .int x :: st) w Q X := by
  subst hq
  exact fun r hr H locs ls hP hS hh => lv_iadd am.1 am.2.1 d (k r hr H locs ls hP hS hh)
theorem ji_isub {x y : Int32} (am : wt_Am z own cc nL h rt) (d : decode cc pc = .ok (.isub, 1)) (hq : pc + 1 = q) (k : jj_J z nL q lv (.int (x - y) :: st) w Q X) : jj_J z nL pc lv (.int y :: .int x :: st) w Q X := by
  subst hq
  exact fun r hr H locs ls hP hS hh => lv_isub am.1 am.2.1 d (k r hr H locs ls hP hS hh)
theorem ji_imul {x y : Int32} (am : wt_Am z own cc nL h rt) (d : decode cc pc = .ok (.imul, 1)) (hq : pc + 1 = q) (k : jj_J z nL q lv (.int (x * y) :: st) w Q X) : jj_J z nL pc lv (.int y :: .int x :: st) w Q X := by
  subst hq
  exact fun r hr H locs ls hP hS hh => lv_imul am.1 am.2.1 d (k r hr H locs ls hP hS hh)
theorem ji_iand {x y : Int32} (am : wt_Am z own cc nL h rt) (d : decode cc pc = .ok (.iand, 1)) (hq : pc + 1 = q) (k : jj_J z nL q lv (.int (x &&& y) :: st) w Q X) : jj_J z nL pc lv (.int y :: .int x :: st) w Q X := by
  subst hq
  exact fun r hr H locs ls hP hS hh => lv_iand am.1 am.2.1 d (k r hr H locs ls hP hS hh)
theorem ji_ior {x y : Int32} (am : wt_Am z own cc nL h rt) (d : decode cc pc = .ok (.ior, 1)) (hq : pc + 1 = q) (k : jj_J z nL q lv (.int (x ||| y) :: st) w Q X) : jj_J z nL pc lv (.int y :: .int x :: st) w Q X := by
  subst hq
  exact fun r hr H locs ls hP hS hh => lv_ior am.1 am.2.1 d (k r hr H locs ls hP hS hh)
theorem ji_ixor {x y : Int32} (am : wt_Am z own cc nL h rt) (d : decode cc pc = .ok (.ixor, 1)) (hq : pc + 1 = q) (k : jj_J z nL q lv (.int (x ^^^ y) :: st) w Q X) : jj_J z nL pc lv (.int y :: .int x :: st) w Q X := by
  subst hq
  exact fun r hr H locs ls hP hS hh => lv_ixor am.1 am.2.1 d (k r hr H locs ls hP hS hh)
theorem ji_ishl {x y : Int32} (am : wt_Am z own cc nL h rt) (d : decode cc pc = .ok (.ishl, 1)) (hq : pc + 1 = q) (k : jj_J z nL q lv (.int (x <<< (y &&& 31)) :: st) w Q X) : jj_J z nL pc lv (.int y :: .int x :: st) w Q X := by
  subst hq
  exact fun r hr H locs ls hP hS hh => lv_ishl am.1 am.2.1 d (k r hr H locs ls hP hS hh)
theorem ji_ishr {x y : Int32} (am : wt_Am z own cc nL h rt) (d : decode cc pc = .ok (.ishr, 1)) (hq : pc + 1 = q) (k : jj_J z nL q lv (.int (x >>> (y &&& 31)) :: st) w Q X) : jj_J z nL pc lv (.int y :: .int x :: st) w Q X := by
  subst hq
  exact fun r hr H locs ls hP hS hh => lv_ishr am.1 am.2.1 d (k r hr H locs ls hP hS hh)
theorem ji_idiv {x y : Int32} (am : wt_Am z own cc nL h rt) (d : decode cc pc = .ok (.idiv, 1)) (hy : ¬ y = 0) (hq : pc + 1 = q) (k : jj_J z nL q lv (.int (x / y) :: st) w Q X) : jj_J z nL pc lv (.int y :: .int x :: st) w Q X := by
  subst hq
  exact fun r hr H locs ls hP hS hh => lv_idiv am.1 am.2.1 d hy (k r hr H locs ls hP hS hh)
theorem ji_ladd {x y : Int64} (am : wt_Am z own cc nL h rt) (d : decode cc pc = .ok (.ladd, 1)) (hq : pc + 1 = q) (k : jj_J z nL q lv (.long (x + y) :: st) w Q X) : jj_J z nL pc lv (.long y :: .long x :: st) w Q X := by
  subst hq
  exact fun r hr H locs ls hP hS hh => lv_ladd am.1 am.2.1 d (k r hr H locs ls hP hS hh)
theorem ji_land {x y : Int64} (am : wt_Am z own cc nL h rt) (d : decode cc pc = .ok (.land, 1)) (hq : pc + 1 = q) (k : jj_J z nL q lv (.long (x &&& y) :: st) w Q X) : jj_J z nL pc lv (.long y :: .long x :: st) w Q X := by
  subst hq
  exact fun r hr H locs ls hP hS hh => lv_land am.1 am.2.1 d (k r hr H locs ls hP hS hh)
theorem ji_lor {x y : Int64} (am : wt_Am z own cc nL h rt) (d : decode cc pc = .ok (.lor, 1)) (hq : pc + 1 = q) (k : jj_J z nL q lv (.long (x ||| y) :: st) w Q X) : jj_J z nL pc lv (.long y :: .long x :: st) w Q X := by
  subst hq
  exact fun r hr H locs ls hP hS hh => lv_lor am.1 am.2.1 d (k r hr H locs ls hP hS hh)
theorem ji_lxor {x y : Int64} (am : wt_Am z own cc nL h rt) (d : decode cc pc = .ok (.lxor, 1)) (hq : pc + 1 = q) (k : jj_J z nL q lv (.long (x ^^^ y) :: st) w Q X) : jj_J z nL pc lv (.long y :: .long x :: st) w Q X := by
  subst hq
  exact fun r hr H locs ls hP hS hh => lv_lxor am.1 am.2.1 d (k r hr H locs ls hP hS hh)
theorem ji_lshl {x : Int64} {y : Int32} (am : wt_Am z own cc nL h rt) (d : decode cc pc = .ok (.lshl, 1)) (hq : pc + 1 = q) (k : jj_J z nL q lv (.long (x <<< (y.toInt64 &&& 63)) :: st) w Q X) : jj_J z nL pc lv (.int y :: .long x :: st) w Q X := by
  subst hq
  exact fun r hr H locs ls hP hS hh => lv_lshl am.1 am.2.1 d rfl (k r hr H locs ls hP hS hh)
theorem ji_lshr {x : Int64} {y : Int32} (am : wt_Am z own cc nL h rt) (d : decode cc pc = .ok (.lshr, 1)) (hq : pc + 1 = q) (k : jj_J z nL q lv (.long (x >>> (y.toInt64 &&& 63)) :: st) w Q X) : jj_J z nL pc lv (.int y :: .long x :: st) w Q X := by
  subst hq
  exact fun r hr H locs ls hP hS hh => lv_lshr am.1 am.2.1 d rfl (k r hr H locs ls hP hS hh)
theorem ji_lushr {x : Int64} {y : Int32} (am : wt_Am z own cc nL h rt) (d : decode cc pc = .ok (.lushr, 1)) (hq : pc + 1 = q) (k : jj_J z nL q lv (.long ((x.toUInt64 >>> (y.toInt64.toUInt64 &&& Int64.toUInt64 63)).toInt64) :: st) w Q X) : jj_J z nL pc lv (.int y :: .long x :: st) w Q X := by
  subst hq
  exact fun r hr H locs ls hP hS hh => lv_lushr am.1 am.2.1 d rfl (k r hr H locs ls hP hS hh)
theorem ji_i2l {x : Int32} (am : wt_Am z own cc nL h rt) (d : decode cc pc = .ok (.i2l, 1)) (hq : pc + 1 = q) (k : jj_J z nL q lv (.long (x.toInt64) :: st) w Q X) : jj_J z nL pc lv (.int x :: st) w Q X := by
  subst hq
  exact fun r hr H locs ls hP hS hh => lv_i2l am.1 am.2.1 d rfl (k r hr H locs ls hP hS hh)
theorem ji_dup {u : Value} (am : wt_Am z own cc nL h rt) (d : decode cc pc = .ok (.dup, 1)) (hu : u.category = 1) (hq : pc + 1 = q) (k : jj_J z nL q lv (u :: u :: st) w Q X) : jj_J z nL pc lv (u :: st) w Q X := by
  subst hq
  exact fun r hr H locs ls hP hS hh => lv_dup am.1 am.2.1 d hu (k r hr H locs ls hP hS hh)
theorem ji_dup2 {u t : Value} (am : wt_Am z own cc nL h rt) (d : decode cc pc = .ok (.dup2, 1)) (hu : u.category = 1) (ht : t.category = 1) (hq : pc + 1 = q) (k : jj_J z nL q lv (u :: t :: u :: t :: st) w Q X) : jj_J z nL pc lv (u :: t :: st) w Q X := by
  subst hq
  exact fun r hr H locs ls hP hS hh => lv_dup2_11 am.1 am.2.1 d hu ht (k r hr H locs ls hP hS hh)
theorem ji_goto {off : Int} (am : wt_Am z own cc nL h rt) (d : decode cc pc = .ok (.goto off, 3)) (ht : (pc : Int) + off = (q : Int)) (k : jj_J z nL q lv st w Q X) : jj_J z nL pc lv st w Q X := fun r hr H locs ls hP hS hh => lv_goto am.1 am.2.1 d ht (k r hr H locs ls hP hS hh)
theorem ji_icmp_eq {x y : Int32} {off : Int} {g : Nat} (am : wt_Am z own cc nL h rt) (d : decode cc pc = .ok (.if_icmp .eq off, 3)) (ht : (pc : Int) + off = (g : Int)) (hq : pc + 3 = q) (kt : jj_J z nL g lv st w Q X) (kf : jj_J z nL q lv st w Q Y) : jj_J z nL pc lv (.int y :: .int x :: st) w Q (if x = y then X else Y) := by
  subst hq
  exact fun r hr H locs ls hP hS hh => lv_icmp_eq am.1 am.2.1 d ht (fun hc => kt r (by first | exact (if_pos hc).symm.trans hr | exact (if_neg hc).symm.trans hr) H locs ls hP hS hh) (fun hc => kf r (by first | exact (if_pos hc).symm.trans hr | exact (if_neg hc).symm.trans hr) H locs ls hP hS hh)
theorem ji_if_eq {x : Int32} {off : Int} {g : Nat} (am : wt_Am z own cc nL h rt) (d : decode cc pc = .ok (.ifCond .eq off, 3)) (ht : (pc : Int) + off = (g : Int)) (hq : pc + 3 = q) (kt : jj_J z nL g lv st w Q X) (kf : jj_J z nL q lv st w Q Y) : jj_J z nL pc lv (.int x :: st) w Q (if x = 0 then X else Y) := by
  subst hq
  exact fun r hr H locs ls hP hS hh => lv_if_eq am.1 am.2.1 d ht (fun hc => kt r (by first | exact (if_pos hc).symm.trans hr | exact (if_neg hc).symm.trans hr) H locs ls hP hS hh) (fun hc => kf r (by first | exact (if_pos hc).symm.trans hr | exact (if_neg hc).symm.trans hr) H locs ls hP hS hh)
theorem ji_icmp_ne {x y : Int32} {off : Int} {g : Nat} (am : wt_Am z own cc nL h rt) (d : decode cc pc = .ok (.if_icmp .ne off, 3)) (ht : (pc : Int) + off = (g : Int)) (hq : pc + 3 = q) (kt : jj_J z nL g lv st w Q X) (kf : jj_J z nL q lv st w Q Y) : jj_J z nL pc lv (.int y :: .int x :: st) w Q (if x = y then Y else X) := by
  subst hq
  exact fun r hr H locs ls hP hS hh => lv_icmp_ne am.1 am.2.1 d ht (fun hc => kt r (by first | exact (if_pos hc).symm.trans hr | exact (if_neg hc).symm.trans hr) H locs ls hP hS hh) (fun hc => kf r (by first | exact (if_pos hc).symm.trans hr | exact (if_neg hc).symm.trans hr) H locs ls hP hS hh)
theorem ji_if_ne {x : Int32} {off : Int} {g : Nat} (am : wt_Am z own cc nL h rt) (d : decode cc pc = .ok (.ifCond .ne off, 3)) (ht : (pc : Int) + off = (g : Int)) (hq : pc + 3 = q) (kt : jj_J z nL g lv st w Q X) (kf : jj_J z nL q lv st w Q Y) : jj_J z nL pc lv (.int x :: st) w Q (if x = 0 then Y else X) := by
  subst hq
  exact fun r hr H locs ls hP hS hh => lv_if_ne am.1 am.2.1 d ht (fun hc => kt r (by first | exact (if_pos hc).symm.trans hr | exact (if_neg hc).symm.trans hr) H locs ls hP hS hh) (fun hc => kf r (by first | exact (if_pos hc).symm.trans hr | exact (if_neg hc).symm.trans hr) H locs ls hP hS hh)
theorem ji_icmp_lt {x y : Int32} {off : Int} {g : Nat} (am : wt_Am z own cc nL h rt) (d : decode cc pc = .ok (.if_icmp .lt off, 3)) (ht : (pc : Int) + off = (g : Int)) (hq : pc + 3 = q) (kt : jj_J z nL g lv st w Q X) (kf : jj_J z nL q lv st w Q Y) : jj_J z nL pc lv (.int y :: .int x :: st) w Q (if x < y then X else Y) := by
  subst hq
  exact fun r hr H locs ls hP hS hh => lv_icmp_lt am.1 am.2.1 d ht (fun hc => kt r (by first | exact (if_pos hc).symm.trans hr | exact (if_neg hc).symm.trans hr) H locs ls hP hS hh) (fun hc => kf r (by first | exact (if_pos hc).symm.trans hr | exact (if_neg hc).symm.trans hr) H locs ls hP hS hh)
theorem ji_if_lt {x : Int32} {off : Int} {g : Nat} (am : wt_Am z own cc nL h rt) (d : decode cc pc = .ok (.ifCond .lt off, 3)) (ht : (pc : Int) + off = (g : Int)) (hq : pc + 3 = q) (kt : jj_J z nL g lv st w Q X) (kf : jj_J z nL q lv st w Q Y) : jj_J z nL pc lv (.int x :: st) w Q (if x < 0 then X else Y) := by
  subst hq
  exact fun r hr H locs ls hP hS hh => lv_if_lt am.1 am.2.1 d ht (fun hc => kt r (by first | exact (if_pos hc).symm.trans hr | exact (if_neg hc).symm.trans hr) H locs ls hP hS hh) (fun hc => kf r (by first | exact (if_pos hc).symm.trans hr | exact (if_neg hc).symm.trans hr) H locs ls hP hS hh)
theorem ji_icmp_ge {x y : Int32} {off : Int} {g : Nat} (am : wt_Am z own cc nL h rt) (d : decode cc pc = .ok (.if_icmp .ge off, 3)) (ht : (pc : Int) + off = (g : Int)) (hq : pc + 3 = q) (kt : jj_J z nL g lv st w Q X) (kf : jj_J z nL q lv st w Q Y) : jj_J z nL pc lv (.int y :: .int x :: st) w Q (if y ≤ x then X else Y) := by
  subst hq
  exact fun r hr H locs ls hP hS hh => lv_icmp_ge am.1 am.2.1 d ht (fun hc => kt r (by first | exact (if_pos hc).symm.trans hr | exact (if_neg hc).symm.trans hr) H locs ls hP hS hh) (fun hc => kf r (by first | exact (if_pos hc).symm.trans hr | exact (if_neg hc).symm.trans hr) H locs ls hP hS hh)
theorem ji_if_ge {x : Int32} {off : Int} {g : Nat} (am : wt_Am z own cc nL h rt) (d : decode cc pc = .ok (.ifCond .ge off, 3)) (ht : (pc : Int) + off = (g : Int)) (hq : pc + 3 = q) (kt : jj_J z nL g lv st w Q X) (kf : jj_J z nL q lv st w Q Y) : jj_J z nL pc lv (.int x :: st) w Q (if 0 ≤ x then X else Y) := by
  subst hq
  exact fun r hr H locs ls hP hS hh => lv_if_ge am.1 am.2.1 d ht (fun hc => kt r (by first | exact (if_pos hc).symm.trans hr | exact (if_neg hc).symm.trans hr) H locs ls hP hS hh) (fun hc => kf r (by first | exact (if_pos hc).symm.trans hr | exact (if_neg hc).symm.trans hr) H locs ls hP hS hh)
theorem ji_icmp_gt {x y : Int32} {off : Int} {g : Nat} (am : wt_Am z own cc nL h rt) (d : decode cc pc = .ok (.if_icmp .gt off, 3)) (ht : (pc : Int) + off = (g : Int)) (hq : pc + 3 = q) (kt : jj_J z nL g lv st w Q X) (kf : jj_J z nL q lv st w Q Y) : jj_J z nL pc lv (.int y :: .int x :: st) w Q (if y < x then X else Y) := by
  subst hq
  exact fun r hr H locs ls hP hS hh => lv_icmp_gt am.1 am.2.1 d ht (fun hc => kt r (by first | exact (if_pos hc).symm.trans hr | exact (if_neg hc).symm.trans hr) H locs ls hP hS hh) (fun hc => kf r (by first | exact (if_pos hc).symm.trans hr | exact (if_neg hc).symm.trans hr) H locs ls hP hS hh)
theorem ji_if_gt {x : Int32} {off : Int} {g : Nat} (am : wt_Am z own cc nL h rt) (d : decode cc pc = .ok (.ifCond .gt off, 3)) (ht : (pc : Int) + off = (g : Int)) (hq : pc + 3 = q) (kt : jj_J z nL g lv st w Q X) (kf : jj_J z nL q lv st w Q Y) : jj_J z nL pc lv (.int x :: st) w Q (if 0 < x then X else Y) := by
  subst hq
  exact fun r hr H locs ls hP hS hh => lv_if_gt am.1 am.2.1 d ht (fun hc => kt r (by first | exact (if_pos hc).symm.trans hr | exact (if_neg hc).symm.trans hr) H locs ls hP hS hh) (fun hc => kf r (by first | exact (if_pos hc).symm.trans hr | exact (if_neg hc).symm.trans hr) H locs ls hP hS hh)
theorem ji_icmp_le {x y : Int32} {off : Int} {g : Nat} (am : wt_Am z own cc nL h rt) (d : decode cc pc = .ok (.if_icmp .le off, 3)) (ht : (pc : Int) + off = (g : Int)) (hq : pc + 3 = q) (kt : jj_J z nL g lv st w Q X) (kf : jj_J z nL q lv st w Q Y) : jj_J z nL pc lv (.int y :: .int x :: st) w Q (if x ≤ y then X else Y) := by
  subst hq
  exact fun r hr H locs ls hP hS hh => lv_icmp_le am.1 am.2.1 d ht (fun hc => kt r (by first | exact (if_pos hc).symm.trans hr | exact (if_neg hc).symm.trans hr) H locs ls hP hS hh) (fun hc => kf r (by first | exact (if_pos hc).symm.trans hr | exact (if_neg hc).symm.trans hr) H locs ls hP hS hh)
theorem ji_if_le {x : Int32} {off : Int} {g : Nat} (am : wt_Am z own cc nL h rt) (d : decode cc pc = .ok (.ifCond .le off, 3)) (ht : (pc : Int) + off = (g : Int)) (hq : pc + 3 = q) (kt : jj_J z nL g lv st w Q X) (kf : jj_J z nL q lv st w Q Y) : jj_J z nL pc lv (.int x :: st) w Q (if x ≤ 0 then X else Y) := by
  subst hq
  exact fun r hr H locs ls hP hS hh => lv_if_le am.1 am.2.1 d ht (fun hc => kt r (by first | exact (if_pos hc).symm.trans hr | exact (if_neg hc).symm.trans hr) H locs ls hP hS hh) (fun hc => kf r (by first | exact (if_pos hc).symm.trans hr | exact (if_neg hc).symm.trans hr) H locs ls hP hS hh)
theorem ji_lcmp_eq {x y : Int64} {off : Int} {g : Nat} (am : wt_Am z own cc nL h rt) (d : decode cc pc = .ok (.lcmp, 1)) (d2 : decode cc (pc + 1) = .ok (.ifCond .eq off, 3)) (ht : ((pc + 1 : Nat) : Int) + off = (g : Int)) (hq : pc + 4 = q) (kt : jj_J z nL g lv st w Q X) (kf : jj_J z nL q lv st w Q Y) : jj_J z nL pc lv (.long y :: .long x :: st) w Q (if x = y then X else Y) := by
  subst hq
  exact fun r hr H locs ls hP hS hh => W.lcmp am.1 am.2.1 d (lv_if_eq am.1 am.2.1 d2 ht (fun hc => kt r (by first | exact (if_pos ((lg_cmp_eq x y).mp hc)).symm.trans hr | exact (if_neg (fun e => hc ((lg_cmp_eq x y).mpr e))).symm.trans hr) H locs ls hP hS hh) (fun hc => kf r (by first | exact (if_pos ((lg_cmp_eq x y).mp hc)).symm.trans hr | exact (if_neg (fun e => hc ((lg_cmp_eq x y).mpr e))).symm.trans hr) H locs ls hP hS hh))
theorem ji_lcmp_ne {x y : Int64} {off : Int} {g : Nat} (am : wt_Am z own cc nL h rt) (d : decode cc pc = .ok (.lcmp, 1)) (d2 : decode cc (pc + 1) = .ok (.ifCond .ne off, 3)) (ht : ((pc + 1 : Nat) : Int) + off = (g : Int)) (hq : pc + 4 = q) (kt : jj_J z nL g lv st w Q X) (kf : jj_J z nL q lv st w Q Y) : jj_J z nL pc lv (.long y :: .long x :: st) w Q (if x = y then Y else X) := by
  subst hq
  exact fun r hr H locs ls hP hS hh => W.lcmp am.1 am.2.1 d (lv_if_ne am.1 am.2.1 d2 ht (fun hc => kt r (by first | exact (if_pos ((lg_cmp_eq x y).mp hc)).symm.trans hr | exact (if_neg (fun e => hc ((lg_cmp_eq x y).mpr e))).symm.trans hr) H locs ls hP hS hh) (fun hc => kf r (by first | exact (if_pos ((lg_cmp_eq x y).mp hc)).symm.trans hr | exact (if_neg (fun e => hc ((lg_cmp_eq x y).mpr e))).symm.trans hr) H locs ls hP hS hh))
theorem ji_iret {x : Int32} {rv : ρ → Option Value} {rw : ρ → wt_W} {r0 : ρ} (am : wt_Am z own cc nL h rt) (hrt : rt = some .int) (d : decode cc pc = .ok (.ireturn, 1)) (hv : rv r0 = some (.int x)) (hw : rw r0 = w) : jj_J z nL pc lv [.int x] w (ct_M z rv rw) (some r0) := by
  intro r hr H locs ls hP hS hh
  cases hr
  have hlk : (zz_t z).locks = false := am.2.2.2.2.2.2.2.2.2.2.1
  exact W.iret am.1 am.2.1 (am.2.2.2.2.2.2.2.2.2.2.2.trans hrt) (fun t ht hW => ⟨by rw [hv], ⟨by rw [ht, hw]; exact hP, va_K.moved hW.alike am.2.2.2.2.2.1, fun q hq => va_Nw.warmM hW (am.2.2.2.2.2.2.1 q hq), am.2.2.2.2.2.2.2.1⟩, hS.F ht⟩) hS.2.2 d
theorem ji_vret {rv : ρ → Option Value} {rw : ρ → wt_W} {r0 : ρ} (am : wt_Am z own cc nL h rt) (hrt : rt = none) (d : decode cc pc = .ok (.return_, 1)) (hv : rv r0 = none) (hw : rw r0 = w) : jj_J z nL pc lv [] w (ct_M z rv rw) (some r0) := by
  intro r hr H locs ls hP hS hh
  cases hr
  have hlk : (zz_t z).locks = false := am.2.2.2.2.2.2.2.2.2.2.1
  exact W.vret am.1 am.2.1 (am.2.2.2.2.2.2.2.2.2.2.2.trans hrt) (fun t ht hW => ⟨by rw [hv], ⟨by rw [ht, hw]; exact hP, va_K.moved hW.alike am.2.2.2.2.2.1, fun q hq => va_Nw.warmM hW (am.2.2.2.2.2.2.1 q hq), am.2.2.2.2.2.2.2.1⟩, hS.F ht⟩) hS.2.2 d
theorem ji_zret {x : Int32} {rv : ρ → Option Value} {rw : ρ → wt_W} {r0 : ρ} (am : wt_Am z own cc nL h rt) (hrt : rt = some .boolean) (d : decode cc pc = .ok (.ireturn, 1)) (hv : rv r0 = some (.int x)) (hw : rw r0 = w) : jj_J z nL pc lv [.int x] w (ct_M z rv rw) (rz_ x (some r0)) := by
  intro r hr H locs ls hP hS hh
  unfold rz_ at hr
  by_cases hn : narrow .boolean (.int x) = .int x
  · rw [if_pos hn] at hr
    cases hr
    have hlk : (zz_t z).locks = false := am.2.2.2.2.2.2.2.2.2.2.1
    exact W.zret am.1 am.2.1 (am.2.2.2.2.2.2.2.2.2.2.2.trans hrt) hn (fun t ht hW => ⟨by rw [hv], ⟨by rw [ht, hw]; exact hP, va_K.moved hW.alike am.2.2.2.2.2.1, fun q hq => va_Nw.warmM hW (am.2.2.2.2.2.2.1 q hq), am.2.2.2.2.2.2.2.1⟩, hS.F ht⟩) hS.2.2 d
  · rw [if_neg hn] at hr
    cases hr
theorem ji_alen_D3 {s : wt_S} {t : wt_M} {o : Nat → Int64} (am : wt_Am z own cc nL h rt) (d : decode cc pc = .ok (.arraylength, 1)) (hq : pc + 1 = q) (k : jj_J z nL q lv (.int 2048 :: st) (s, t, o) Q X) : jj_J z nL pc lv (.ref (ad_ z 5) :: st) (s, t, o) Q X := by
  subst hq
  exact fun r hr H locs ls hP hS hh => va_alen am.1 am.2.1 am.2.2.2.2.2.1 hP 5 0 (x := (2048, .inl (s 3))) rfl (ty := .int) rfl (v := 2048) (show Int32.ofNat 2048 = 2048 by decide) d (k r hr H locs ls hP hS hh)
theorem ji_alen_D7 {s : wt_S} {t : wt_M} {o : Nat → Int64} (am : wt_Am z own cc nL h rt) (d : decode cc pc = .ok (.arraylength, 1)) (hq : pc + 1 = q) (k : jj_J z nL q lv (.int 256 :: st) (s, t, o) Q X) : jj_J z nL pc lv (.ref (ad_ z 9) :: st) (s, t, o) Q X := by
  subst hq
  exact fun r hr H locs ls hP hS hh => va_alen am.1 am.2.1 am.2.2.2.2.2.1 hP 9 0 (x := (256, .inl (s 7))) rfl (ty := .int) rfl (v := 256) (show Int32.ofNat 256 = 256 by decide) d (k r hr H locs ls hP hS hh)
theorem ji_ald_D0 {s : wt_S} {t : wt_M} {o : Nat → Int64} {i : Int32} {f : Int32 → Option ρ} (am : wt_Am z own cc nL h rt) (d : decode cc pc = .ok (.iaload, 1)) (hq : pc + 1 = q) (k : ∀ x : Int32, jj_J z nL q lv (.int x :: st) (s, t, o) Q (f x)) : jj_J z nL pc lv (.int i :: .ref (ad_ z 2) :: st) (s, t, o) Q (rd_ (s 0) 20 i f) := by
  subst hq
  intro r hr H locs ls hP hS hh
  unfold rd_ at hr
  by_cases hi : i < 0 ∨ 20 ≤ i.toNatClampNeg
  · rw [if_pos hi] at hr
    cases hr
  · rw [if_neg hi] at hr
    exact va_iald am.1 am.2.1 am.2.2.2.2.2.1 hP 2 0 (n := 20) (f := s 0) rfl rfl hi d (k _ r hr H locs ls hP hS hh)
theorem ji_ast_D0 {s : wt_S} {t : wt_M} {o : Nat → Int64} {i : Int32} {x : Int32} {f : wt_S → Option ρ} (am : wt_Am z own cc nL h rt) (d : decode cc pc = .ok (.iastore, 1)) (hq : pc + 1 = q) (k : ∀ s2 : wt_S, jj_J z nL q lv st (s2, t, o) Q (f s2)) : jj_J z nL pc lv (.int x :: .int i :: .ref (ad_ z 2) :: st) (s, t, o) Q (wr_S s 0 20 i (x) f) := by
  subst hq
  intro r hr H locs ls hP hS hh
  unfold wr_S at hr
  by_cases hi : i < 0 ∨ 20 ≤ i.toNatClampNeg
  · rw [if_pos hi] at hr
    cases hr
  · rw [if_neg hi] at hr
    exact va_iast am.1 am.2.1 am.2.2.2.2.2.1 hP (am.2.2.2.2.2.2.2.1 _) hS 2 0 (n := 20) (f := s 0) rfl rfl hi d (fun H1 locs1 hP1 _ hS1 => k _ r hr H1 locs1 ls hP1 hS1 hh)
theorem ji_ald_D1 {s : wt_S} {t : wt_M} {o : Nat → Int64} {i : Int32} {f : Int32 → Option ρ} (am : wt_Am z own cc nL h rt) (d : decode cc pc = .ok (.iaload, 1)) (hq : pc + 1 = q) (k : ∀ x : Int32, jj_J z nL q lv (.int x :: st) (s, t, o) Q (f x)) : jj_J z nL pc lv (.int i :: .ref (ad_ z 3) :: st) (s, t, o) Q (rd_ (s 1) 8 i f) := by
  subst hq
  intro r hr H locs ls hP hS hh
  unfold rd_ at hr
  by_cases hi : i < 0 ∨ 8 ≤ i.toNatClampNeg
  · rw [if_pos hi] at hr
    cases hr
  · rw [if_neg hi] at hr
    exact va_iald am.1 am.2.1 am.2.2.2.2.2.1 hP 3 0 (n := 8) (f := s 1) rfl rfl hi d (k _ r hr H locs ls hP hS hh)
theorem ji_ast_D1 {s : wt_S} {t : wt_M} {o : Nat → Int64} {i : Int32} {x : Int32} {f : wt_S → Option ρ} (am : wt_Am z own cc nL h rt) (d : decode cc pc = .ok (.iastore, 1)) (hq : pc + 1 = q) (k : ∀ s2 : wt_S, jj_J z nL q lv st (s2, t, o) Q (f s2)) : jj_J z nL pc lv (.int x :: .int i :: .ref (ad_ z 3) :: st) (s, t, o) Q (wr_S s 1 8 i (x) f) := by
  subst hq
  intro r hr H locs ls hP hS hh
  unfold wr_S at hr
  by_cases hi : i < 0 ∨ 8 ≤ i.toNatClampNeg
  · rw [if_pos hi] at hr
    cases hr
  · rw [if_neg hi] at hr
    exact va_iast am.1 am.2.1 am.2.2.2.2.2.1 hP (am.2.2.2.2.2.2.2.1 _) hS 3 0 (n := 8) (f := s 1) rfl rfl hi d (fun H1 locs1 hP1 _ hS1 => k _ r hr H1 locs1 ls hP1 hS1 hh)
theorem ji_ald_D2 {s : wt_S} {t : wt_M} {o : Nat → Int64} {i : Int32} {f : Int32 → Option ρ} (am : wt_Am z own cc nL h rt) (d : decode cc pc = .ok (.iaload, 1)) (hq : pc + 1 = q) (k : ∀ x : Int32, jj_J z nL q lv (.int x :: st) (s, t, o) Q (f x)) : jj_J z nL pc lv (.int i :: .ref (ad_ z 4) :: st) (s, t, o) Q (rd_ (s 2) 9 i f) := by
  subst hq
  intro r hr H locs ls hP hS hh
  unfold rd_ at hr
  by_cases hi : i < 0 ∨ 9 ≤ i.toNatClampNeg
  · rw [if_pos hi] at hr
    cases hr
  · rw [if_neg hi] at hr
    exact va_iald am.1 am.2.1 am.2.2.2.2.2.1 hP 4 0 (n := 9) (f := s 2) rfl rfl hi d (k _ r hr H locs ls hP hS hh)
theorem ji_ast_D2 {s : wt_S} {t : wt_M} {o : Nat → Int64} {i : Int32} {x : Int32} {f : wt_S → Option ρ} (am : wt_Am z own cc nL h rt) (d : decode cc pc = .ok (.iastore, 1)) (hq : pc + 1 = q) (k : ∀ s2 : wt_S, jj_J z nL q lv st (s2, t, o) Q (f s2)) : jj_J z nL pc lv (.int x :: .int i :: .ref (ad_ z 4) :: st) (s, t, o) Q (wr_S s 2 9 i (x) f) := by
  subst hq
  intro r hr H locs ls hP hS hh
  unfold wr_S at hr
  by_cases hi : i < 0 ∨ 9 ≤ i.toNatClampNeg
  · rw [if_pos hi] at hr
    cases hr
  · rw [if_neg hi] at hr
    exact va_iast am.1 am.2.1 am.2.2.2.2.2.1 hP (am.2.2.2.2.2.2.2.1 _) hS 4 0 (n := 9) (f := s 2) rfl rfl hi d (fun H1 locs1 hP1 _ hS1 => k _ r hr H1 locs1 ls hP1 hS1 hh)
theorem ji_ald_D3 {s : wt_S} {t : wt_M} {o : Nat → Int64} {i : Int32} {f : Int32 → Option ρ} (am : wt_Am z own cc nL h rt) (d : decode cc pc = .ok (.iaload, 1)) (hq : pc + 1 = q) (k : ∀ x : Int32, jj_J z nL q lv (.int x :: st) (s, t, o) Q (f x)) : jj_J z nL pc lv (.int i :: .ref (ad_ z 5) :: st) (s, t, o) Q (rd_ (s 3) 2048 i f) := by
  subst hq
  intro r hr H locs ls hP hS hh
  unfold rd_ at hr
  by_cases hi : i < 0 ∨ 2048 ≤ i.toNatClampNeg
  · rw [if_pos hi] at hr
    cases hr
  · rw [if_neg hi] at hr
    exact va_iald am.1 am.2.1 am.2.2.2.2.2.1 hP 5 0 (n := 2048) (f := s 3) rfl rfl hi d (k _ r hr H locs ls hP hS hh)
theorem ji_ast_D3 {s : wt_S} {t : wt_M} {o : Nat → Int64} {i : Int32} {x : Int32} {f : wt_S → Option ρ} (am : wt_Am z own cc nL h rt) (d : decode cc pc = .ok (.iastore, 1)) (hq : pc + 1 = q) (k : ∀ s2 : wt_S, jj_J z nL q lv st (s2, t, o) Q (f s2)) : jj_J z nL pc lv (.int x :: .int i :: .ref (ad_ z 5) :: st) (s, t, o) Q (wr_S s 3 2048 i (x) f) := by
  subst hq
  intro r hr H locs ls hP hS hh
  unfold wr_S at hr
  by_cases hi : i < 0 ∨ 2048 ≤ i.toNatClampNeg
  · rw [if_pos hi] at hr
    cases hr
  · rw [if_neg hi] at hr
    exact va_iast am.1 am.2.1 am.2.2.2.2.2.1 hP (am.2.2.2.2.2.2.2.1 _) hS 5 0 (n := 2048) (f := s 3) rfl rfl hi d (fun H1 locs1 hP1 _ hS1 => k _ r hr H1 locs1 ls hP1 hS1 hh)
theorem ji_ald_D4 {s : wt_S} {t : wt_M} {o : Nat → Int64} {i : Int32} {f : Int32 → Option ρ} (am : wt_Am z own cc nL h rt) (d : decode cc pc = .ok (.iaload, 1)) (hq : pc + 1 = q) (k : ∀ x : Int32, jj_J z nL q lv (.int x :: st) (s, t, o) Q (f x)) : jj_J z nL pc lv (.int i :: .ref (ad_ z 6) :: st) (s, t, o) Q (rd_ (s 4) 2048 i f) := by
  subst hq
  intro r hr H locs ls hP hS hh
  unfold rd_ at hr
  by_cases hi : i < 0 ∨ 2048 ≤ i.toNatClampNeg
  · rw [if_pos hi] at hr
    cases hr
  · rw [if_neg hi] at hr
    exact va_iald am.1 am.2.1 am.2.2.2.2.2.1 hP 6 0 (n := 2048) (f := s 4) rfl rfl hi d (k _ r hr H locs ls hP hS hh)
theorem ji_ast_D4 {s : wt_S} {t : wt_M} {o : Nat → Int64} {i : Int32} {x : Int32} {f : wt_S → Option ρ} (am : wt_Am z own cc nL h rt) (d : decode cc pc = .ok (.iastore, 1)) (hq : pc + 1 = q) (k : ∀ s2 : wt_S, jj_J z nL q lv st (s2, t, o) Q (f s2)) : jj_J z nL pc lv (.int x :: .int i :: .ref (ad_ z 6) :: st) (s, t, o) Q (wr_S s 4 2048 i (x) f) := by
  subst hq
  intro r hr H locs ls hP hS hh
  unfold wr_S at hr
  by_cases hi : i < 0 ∨ 2048 ≤ i.toNatClampNeg
  · rw [if_pos hi] at hr
    cases hr
  · rw [if_neg hi] at hr
    exact va_iast am.1 am.2.1 am.2.2.2.2.2.1 hP (am.2.2.2.2.2.2.2.1 _) hS 6 0 (n := 2048) (f := s 4) rfl rfl hi d (fun H1 locs1 hP1 _ hS1 => k _ r hr H1 locs1 ls hP1 hS1 hh)
theorem ji_ald_D5 {s : wt_S} {t : wt_M} {o : Nat → Int64} {i : Int32} {f : Int32 → Option ρ} (am : wt_Am z own cc nL h rt) (d : decode cc pc = .ok (.iaload, 1)) (hq : pc + 1 = q) (k : ∀ x : Int32, jj_J z nL q lv (.int x :: st) (s, t, o) Q (f x)) : jj_J z nL pc lv (.int i :: .ref (ad_ z 7) :: st) (s, t, o) Q (rd_ (s 5) 2048 i f) := by
  subst hq
  intro r hr H locs ls hP hS hh
  unfold rd_ at hr
  by_cases hi : i < 0 ∨ 2048 ≤ i.toNatClampNeg
  · rw [if_pos hi] at hr
    cases hr
  · rw [if_neg hi] at hr
    exact va_iald am.1 am.2.1 am.2.2.2.2.2.1 hP 7 0 (n := 2048) (f := s 5) rfl rfl hi d (k _ r hr H locs ls hP hS hh)
theorem ji_ast_D5 {s : wt_S} {t : wt_M} {o : Nat → Int64} {i : Int32} {x : Int32} {f : wt_S → Option ρ} (am : wt_Am z own cc nL h rt) (d : decode cc pc = .ok (.iastore, 1)) (hq : pc + 1 = q) (k : ∀ s2 : wt_S, jj_J z nL q lv st (s2, t, o) Q (f s2)) : jj_J z nL pc lv (.int x :: .int i :: .ref (ad_ z 7) :: st) (s, t, o) Q (wr_S s 5 2048 i (x) f) := by
  subst hq
  intro r hr H locs ls hP hS hh
  unfold wr_S at hr
  by_cases hi : i < 0 ∨ 2048 ≤ i.toNatClampNeg
  · rw [if_pos hi] at hr
    cases hr
  · rw [if_neg hi] at hr
    exact va_iast am.1 am.2.1 am.2.2.2.2.2.1 hP (am.2.2.2.2.2.2.2.1 _) hS 7 0 (n := 2048) (f := s 5) rfl rfl hi d (fun H1 locs1 hP1 _ hS1 => k _ r hr H1 locs1 ls hP1 hS1 hh)
theorem ji_ald_D6 {s : wt_S} {t : wt_M} {o : Nat → Int64} {i : Int32} {f : Int32 → Option ρ} (am : wt_Am z own cc nL h rt) (d : decode cc pc = .ok (.iaload, 1)) (hq : pc + 1 = q) (k : ∀ x : Int32, jj_J z nL q lv (.int x :: st) (s, t, o) Q (f x)) : jj_J z nL pc lv (.int i :: .ref (ad_ z 8) :: st) (s, t, o) Q (rd_ (s 6) 2048 i f) := by
  subst hq
  intro r hr H locs ls hP hS hh
  unfold rd_ at hr
  by_cases hi : i < 0 ∨ 2048 ≤ i.toNatClampNeg
  · rw [if_pos hi] at hr
    cases hr
  · rw [if_neg hi] at hr
    exact va_iald am.1 am.2.1 am.2.2.2.2.2.1 hP 8 0 (n := 2048) (f := s 6) rfl rfl hi d (k _ r hr H locs ls hP hS hh)
theorem ji_ast_D6 {s : wt_S} {t : wt_M} {o : Nat → Int64} {i : Int32} {x : Int32} {f : wt_S → Option ρ} (am : wt_Am z own cc nL h rt) (d : decode cc pc = .ok (.iastore, 1)) (hq : pc + 1 = q) (k : ∀ s2 : wt_S, jj_J z nL q lv st (s2, t, o) Q (f s2)) : jj_J z nL pc lv (.int x :: .int i :: .ref (ad_ z 8) :: st) (s, t, o) Q (wr_S s 6 2048 i (x) f) := by
  subst hq
  intro r hr H locs ls hP hS hh
  unfold wr_S at hr
  by_cases hi : i < 0 ∨ 2048 ≤ i.toNatClampNeg
  · rw [if_pos hi] at hr
    cases hr
  · rw [if_neg hi] at hr
    exact va_iast am.1 am.2.1 am.2.2.2.2.2.1 hP (am.2.2.2.2.2.2.2.1 _) hS 8 0 (n := 2048) (f := s 6) rfl rfl hi d (fun H1 locs1 hP1 _ hS1 => k _ r hr H1 locs1 ls hP1 hS1 hh)
theorem ji_ald_D7 {s : wt_S} {t : wt_M} {o : Nat → Int64} {i : Int32} {f : Int32 → Option ρ} (am : wt_Am z own cc nL h rt) (d : decode cc pc = .ok (.iaload, 1)) (hq : pc + 1 = q) (k : ∀ x : Int32, jj_J z nL q lv (.int x :: st) (s, t, o) Q (f x)) : jj_J z nL pc lv (.int i :: .ref (ad_ z 9) :: st) (s, t, o) Q (rd_ (s 7) 256 i f) := by
  subst hq
  intro r hr H locs ls hP hS hh
  unfold rd_ at hr
  by_cases hi : i < 0 ∨ 256 ≤ i.toNatClampNeg
  · rw [if_pos hi] at hr
    cases hr
  · rw [if_neg hi] at hr
    exact va_iald am.1 am.2.1 am.2.2.2.2.2.1 hP 9 0 (n := 256) (f := s 7) rfl rfl hi d (k _ r hr H locs ls hP hS hh)
theorem ji_ast_D7 {s : wt_S} {t : wt_M} {o : Nat → Int64} {i : Int32} {x : Int32} {f : wt_S → Option ρ} (am : wt_Am z own cc nL h rt) (d : decode cc pc = .ok (.iastore, 1)) (hq : pc + 1 = q) (k : ∀ s2 : wt_S, jj_J z nL q lv st (s2, t, o) Q (f s2)) : jj_J z nL pc lv (.int x :: .int i :: .ref (ad_ z 9) :: st) (s, t, o) Q (wr_S s 7 256 i (x) f) := by
  subst hq
  intro r hr H locs ls hP hS hh
  unfold wr_S at hr
  by_cases hi : i < 0 ∨ 256 ≤ i.toNatClampNeg
  · rw [if_pos hi] at hr
    cases hr
  · rw [if_neg hi] at hr
    exact va_iast am.1 am.2.1 am.2.2.2.2.2.1 hP (am.2.2.2.2.2.2.2.1 _) hS 9 0 (n := 256) (f := s 7) rfl rfl hi d (fun H1 locs1 hP1 _ hS1 => k _ r hr H1 locs1 ls hP1 hS1 hh)
theorem ji_ald_D8 {s : wt_S} {t : wt_M} {o : Nat → Int64} {i : Int32} {f : Int32 → Option ρ} (am : wt_Am z own cc nL h rt) (d : decode cc pc = .ok (.baload, 1)) (hq : pc + 1 = q) (k : ∀ x : Int32, jj_J z nL q lv (.int x :: st) (s, t, o) Q (f x)) : jj_J z nL pc lv (.int i :: .ref (ad_ z 10) :: st) (s, t, o) Q (rd_ (s 8) 2048 i f) := by
  subst hq
  intro r hr H locs ls hP hS hh
  unfold rd_ at hr
  by_cases hi : i < 0 ∨ 2048 ≤ i.toNatClampNeg
  · rw [if_pos hi] at hr
    cases hr
  · rw [if_neg hi] at hr
    exact va_zald am.1 am.2.1 am.2.2.2.2.2.1 hP 10 1 (n := 2048) (f := s 8) rfl rfl hi d (k _ r hr H locs ls hP hS hh)
theorem ji_ast_D8 {s : wt_S} {t : wt_M} {o : Nat → Int64} {i : Int32} {x : Int32} {f : wt_S → Option ρ} (am : wt_Am z own cc nL h rt) (d : decode cc pc = .ok (.bastore, 1)) (hq : pc + 1 = q) (k : ∀ s2 : wt_S, jj_J z nL q lv st (s2, t, o) Q (f s2)) : jj_J z nL pc lv (.int x :: .int i :: .ref (ad_ z 10) :: st) (s, t, o) Q (wr_S s 8 2048 i (vp_nar .boolean x) f) := by
  subst hq
  intro r hr H locs ls hP hS hh
  unfold wr_S at hr
  by_cases hi : i < 0 ∨ 2048 ≤ i.toNatClampNeg
  · rw [if_pos hi] at hr
    cases hr
  · rw [if_neg hi] at hr
    exact va_zast am.1 am.2.1 am.2.2.2.2.2.1 hP (am.2.2.2.2.2.2.2.1 _) hS 10 1 (n := 2048) (f := s 8) rfl rfl hi d (fun H1 locs1 hP1 _ hS1 => k _ r hr H1 locs1 ls hP1 hS1 hh)
theorem ji_ald_Mlevels {s : wt_S} {t : wt_M} {o : Nat → Int64} {i : Int32} {f : Int32 → Option ρ} (am : wt_Am z own cc nL h rt) (d : decode cc pc = .ok (.iaload, 1)) (hq : pc + 1 = q) (k : ∀ x : Int32, jj_J z nL q lv (.int x :: st) (s, t, o) Q (f x)) : jj_J z nL pc lv (.int i :: .ref (ad_ z 12) :: st) (s, t, o) Q (rd_ (t.1 0) 8 i f) := by
  subst hq
  intro r hr H locs ls hP hS hh
  unfold rd_ at hr
  by_cases hi : i < 0 ∨ 8 ≤ i.toNatClampNeg
  · rw [if_pos hi] at hr
    cases hr
  · rw [if_neg hi] at hr
    exact va_iald am.1 am.2.1 am.2.2.2.2.2.1 hP 12 0 (n := 8) (f := t.1 0) rfl rfl hi d (k _ r hr H locs ls hP hS hh)
theorem ji_ast_Mlevels {s : wt_S} {t : wt_M} {o : Nat → Int64} {i : Int32} {x : Int32} {f : wt_M → Option ρ} (am : wt_Am z own cc nL h rt) (d : decode cc pc = .ok (.iastore, 1)) (hq : pc + 1 = q) (k : ∀ s2 : wt_M, jj_J z nL q lv st (s, s2, o) Q (f s2)) : jj_J z nL pc lv (.int x :: .int i :: .ref (ad_ z 12) :: st) (s, t, o) Q (wr_T t 0 8 i (x) f) := by
  subst hq
  intro r hr H locs ls hP hS hh
  unfold wr_T at hr
  by_cases hi : i < 0 ∨ 8 ≤ i.toNatClampNeg
  · rw [if_pos hi] at hr
    cases hr
  · rw [if_neg hi] at hr
    exact va_iast am.1 am.2.1 am.2.2.2.2.2.1 hP (am.2.2.2.2.2.2.2.1 _) hS 12 0 (n := 8) (f := t.1 0) rfl rfl hi d (fun H1 locs1 hP1 _ hS1 => k _ r hr H1 locs1 ls hP1 hS1 hh)
theorem ji_ald_Mbefore {s : wt_S} {t : wt_M} {o : Nat → Int64} {i : Int32} {f : Int32 → Option ρ} (am : wt_Am z own cc nL h rt) (d : decode cc pc = .ok (.iaload, 1)) (hq : pc + 1 = q) (k : ∀ x : Int32, jj_J z nL q lv (.int x :: st) (s, t, o) Q (f x)) : jj_J z nL pc lv (.int i :: .ref (ad_ z 13) :: st) (s, t, o) Q (rd_ (t.1 1) 8 i f) := by
  subst hq
  intro r hr H locs ls hP hS hh
  unfold rd_ at hr
  by_cases hi : i < 0 ∨ 8 ≤ i.toNatClampNeg
  · rw [if_pos hi] at hr
    cases hr
  · rw [if_neg hi] at hr
    exact va_iald am.1 am.2.1 am.2.2.2.2.2.1 hP 13 0 (n := 8) (f := t.1 1) rfl rfl hi d (k _ r hr H locs ls hP hS hh)
theorem ji_ast_Mbefore {s : wt_S} {t : wt_M} {o : Nat → Int64} {i : Int32} {x : Int32} {f : wt_M → Option ρ} (am : wt_Am z own cc nL h rt) (d : decode cc pc = .ok (.iastore, 1)) (hq : pc + 1 = q) (k : ∀ s2 : wt_M, jj_J z nL q lv st (s, s2, o) Q (f s2)) : jj_J z nL pc lv (.int x :: .int i :: .ref (ad_ z 13) :: st) (s, t, o) Q (wr_T t 1 8 i (x) f) := by
  subst hq
  intro r hr H locs ls hP hS hh
  unfold wr_T at hr
  by_cases hi : i < 0 ∨ 8 ≤ i.toNatClampNeg
  · rw [if_pos hi] at hr
    cases hr
  · rw [if_neg hi] at hr
    exact va_iast am.1 am.2.1 am.2.2.2.2.2.1 hP (am.2.2.2.2.2.2.2.1 _) hS 13 0 (n := 8) (f := t.1 1) rfl rfl hi d (fun H1 locs1 hP1 _ hS1 => k _ r hr H1 locs1 ls hP1 hS1 hh)
theorem ji_ald_Mhere {s : wt_S} {t : wt_M} {o : Nat → Int64} {i : Int32} {f : Int32 → Option ρ} (am : wt_Am z own cc nL h rt) (d : decode cc pc = .ok (.iaload, 1)) (hq : pc + 1 = q) (k : ∀ x : Int32, jj_J z nL q lv (.int x :: st) (s, t, o) Q (f x)) : jj_J z nL pc lv (.int i :: .ref (ad_ z 14) :: st) (s, t, o) Q (rd_ (t.1 2) 4000 i f) := by
  subst hq
  intro r hr H locs ls hP hS hh
  unfold rd_ at hr
  by_cases hi : i < 0 ∨ 4000 ≤ i.toNatClampNeg
  · rw [if_pos hi] at hr
    cases hr
  · rw [if_neg hi] at hr
    exact va_iald am.1 am.2.1 am.2.2.2.2.2.1 hP 14 0 (n := 4000) (f := t.1 2) rfl rfl hi d (k _ r hr H locs ls hP hS hh)
theorem ji_ast_Mhere {s : wt_S} {t : wt_M} {o : Nat → Int64} {i : Int32} {x : Int32} {f : wt_M → Option ρ} (am : wt_Am z own cc nL h rt) (d : decode cc pc = .ok (.iastore, 1)) (hq : pc + 1 = q) (k : ∀ s2 : wt_M, jj_J z nL q lv st (s, s2, o) Q (f s2)) : jj_J z nL pc lv (.int x :: .int i :: .ref (ad_ z 14) :: st) (s, t, o) Q (wr_T t 2 4000 i (x) f) := by
  subst hq
  intro r hr H locs ls hP hS hh
  unfold wr_T at hr
  by_cases hi : i < 0 ∨ 4000 ≤ i.toNatClampNeg
  · rw [if_pos hi] at hr
    cases hr
  · rw [if_neg hi] at hr
    exact va_iast am.1 am.2.1 am.2.2.2.2.2.1 hP (am.2.2.2.2.2.2.2.1 _) hS 14 0 (n := 4000) (f := t.1 2) rfl rfl hi d (fun H1 locs1 hP1 _ hS1 => k _ r hr H1 locs1 ls hP1 hS1 hh)
theorem ji_ald_Mnext {s : wt_S} {t : wt_M} {o : Nat → Int64} {i : Int32} {f : Int32 → Option ρ} (am : wt_Am z own cc nL h rt) (d : decode cc pc = .ok (.iaload, 1)) (hq : pc + 1 = q) (k : ∀ x : Int32, jj_J z nL q lv (.int x :: st) (s, t, o) Q (f x)) : jj_J z nL pc lv (.int i :: .ref (ad_ z 15) :: st) (s, t, o) Q (rd_ (t.1 3) 4000 i f) := by
  subst hq
  intro r hr H locs ls hP hS hh
  unfold rd_ at hr
  by_cases hi : i < 0 ∨ 4000 ≤ i.toNatClampNeg
  · rw [if_pos hi] at hr
    cases hr
  · rw [if_neg hi] at hr
    exact va_iald am.1 am.2.1 am.2.2.2.2.2.1 hP 15 0 (n := 4000) (f := t.1 3) rfl rfl hi d (k _ r hr H locs ls hP hS hh)
theorem ji_ast_Mnext {s : wt_S} {t : wt_M} {o : Nat → Int64} {i : Int32} {x : Int32} {f : wt_M → Option ρ} (am : wt_Am z own cc nL h rt) (d : decode cc pc = .ok (.iastore, 1)) (hq : pc + 1 = q) (k : ∀ s2 : wt_M, jj_J z nL q lv st (s, s2, o) Q (f s2)) : jj_J z nL pc lv (.int x :: .int i :: .ref (ad_ z 15) :: st) (s, t, o) Q (wr_T t 3 4000 i (x) f) := by
  subst hq
  intro r hr H locs ls hP hS hh
  unfold wr_T at hr
  by_cases hi : i < 0 ∨ 4000 ≤ i.toNatClampNeg
  · rw [if_pos hi] at hr
    cases hr
  · rw [if_neg hi] at hr
    exact va_iast am.1 am.2.1 am.2.2.2.2.2.1 hP (am.2.2.2.2.2.2.2.1 _) hS 15 0 (n := 4000) (f := t.1 3) rfl rfl hi d (fun H1 locs1 hP1 _ hS1 => k _ r hr H1 locs1 ls hP1 hS1 hh)
theorem ji_ald_Mtold {s : wt_S} {t : wt_M} {o : Nat → Int64} {i : Int32} {f : Int32 → Option ρ} (am : wt_Am z own cc nL h rt) (d : decode cc pc = .ok (.iaload, 1)) (hq : pc + 1 = q) (k : ∀ x : Int32, jj_J z nL q lv (.int x :: st) (s, t, o) Q (f x)) : jj_J z nL pc lv (.int i :: .ref (ad_ z 16) :: st) (s, t, o) Q (rd_ (t.1 4) 4000 i f) := by
  subst hq
  intro r hr H locs ls hP hS hh
  unfold rd_ at hr
  by_cases hi : i < 0 ∨ 4000 ≤ i.toNatClampNeg
  · rw [if_pos hi] at hr
    cases hr
  · rw [if_neg hi] at hr
    exact va_iald am.1 am.2.1 am.2.2.2.2.2.1 hP 16 0 (n := 4000) (f := t.1 4) rfl rfl hi d (k _ r hr H locs ls hP hS hh)
theorem ji_ast_Mtold {s : wt_S} {t : wt_M} {o : Nat → Int64} {i : Int32} {x : Int32} {f : wt_M → Option ρ} (am : wt_Am z own cc nL h rt) (d : decode cc pc = .ok (.iastore, 1)) (hq : pc + 1 = q) (k : ∀ s2 : wt_M, jj_J z nL q lv st (s, s2, o) Q (f s2)) : jj_J z nL pc lv (.int x :: .int i :: .ref (ad_ z 16) :: st) (s, t, o) Q (wr_T t 4 4000 i (x) f) := by
  subst hq
  intro r hr H locs ls hP hS hh
  unfold wr_T at hr
  by_cases hi : i < 0 ∨ 4000 ≤ i.toNatClampNeg
  · rw [if_pos hi] at hr
    cases hr
  · rw [if_neg hi] at hr
    exact va_iast am.1 am.2.1 am.2.2.2.2.2.1 hP (am.2.2.2.2.2.2.2.1 _) hS 16 0 (n := 4000) (f := t.1 4) rfl rfl hi d (fun H1 locs1 hP1 _ hS1 => k _ r hr H1 locs1 ls hP1 hS1 hh)
theorem ji_ald_Msteps {s : wt_S} {t : wt_M} {o : Nat → Int64} {i : Int32} {f : Int32 → Option ρ} (am : wt_Am z own cc nL h rt) (d : decode cc pc = .ok (.iaload, 1)) (hq : pc + 1 = q) (k : ∀ x : Int32, jj_J z nL q lv (.int x :: st) (s, t, o) Q (f x)) : jj_J z nL pc lv (.int i :: .ref (ad_ z 17) :: st) (s, t, o) Q (rd_ (t.1 5) 16 i f) := by
  subst hq
  intro r hr H locs ls hP hS hh
  unfold rd_ at hr
  by_cases hi : i < 0 ∨ 16 ≤ i.toNatClampNeg
  · rw [if_pos hi] at hr
    cases hr
  · rw [if_neg hi] at hr
    exact va_iald am.1 am.2.1 am.2.2.2.2.2.1 hP 17 0 (n := 16) (f := t.1 5) rfl rfl hi d (k _ r hr H locs ls hP hS hh)
theorem ji_ast_Msteps {s : wt_S} {t : wt_M} {o : Nat → Int64} {i : Int32} {x : Int32} {f : wt_M → Option ρ} (am : wt_Am z own cc nL h rt) (d : decode cc pc = .ok (.iastore, 1)) (hq : pc + 1 = q) (k : ∀ s2 : wt_M, jj_J z nL q lv st (s, s2, o) Q (f s2)) : jj_J z nL pc lv (.int x :: .int i :: .ref (ad_ z 17) :: st) (s, t, o) Q (wr_T t 5 16 i (x) f) := by
  subst hq
  intro r hr H locs ls hP hS hh
  unfold wr_T at hr
  by_cases hi : i < 0 ∨ 16 ≤ i.toNatClampNeg
  · rw [if_pos hi] at hr
    cases hr
  · rw [if_neg hi] at hr
    exact va_iast am.1 am.2.1 am.2.2.2.2.2.1 hP (am.2.2.2.2.2.2.2.1 _) hS 17 0 (n := 16) (f := t.1 5) rfl rfl hi d (fun H1 locs1 hP1 _ hS1 => k _ r hr H1 locs1 ls hP1 hS1 hh)
theorem ji_ald_Mwords {s : wt_S} {t : wt_M} {o : Nat → Int64} {i : Int32} {f : Int64 → Option ρ} (am : wt_Am z own cc nL h rt) (d : decode cc pc = .ok (.laload, 1)) (hq : pc + 1 = q) (k : ∀ x : Int64, jj_J z nL q lv (.long x :: st) (s, t, o) Q (f x)) : jj_J z nL pc lv (.int i :: .ref (ad_ z 18) :: st) (s, t, o) Q (rd_L (t.2 0) 72 i f) := by
  subst hq
  intro r hr H locs ls hP hS hh
  unfold rd_L at hr
  by_cases hi : i < 0 ∨ 72 ≤ i.toNatClampNeg
  · rw [if_pos hi] at hr
    cases hr
  · rw [if_neg hi] at hr
    exact va_lald am.1 am.2.1 am.2.2.2.2.2.1 hP 18 2 (n := 72) (f := t.2 0) rfl rfl hi d (k _ r hr H locs ls hP hS hh)
theorem ji_ast_Mwords {s : wt_S} {t : wt_M} {o : Nat → Int64} {i : Int32} {x : Int64} {f : wt_M → Option ρ} (am : wt_Am z own cc nL h rt) (d : decode cc pc = .ok (.lastore, 1)) (hq : pc + 1 = q) (k : ∀ s2 : wt_M, jj_J z nL q lv st (s, s2, o) Q (f s2)) : jj_J z nL pc lv (.long x :: .int i :: .ref (ad_ z 18) :: st) (s, t, o) Q (wr_L t 0 72 i (x) f) := by
  subst hq
  intro r hr H locs ls hP hS hh
  unfold wr_L at hr
  by_cases hi : i < 0 ∨ 72 ≤ i.toNatClampNeg
  · rw [if_pos hi] at hr
    cases hr
  · rw [if_neg hi] at hr
    exact va_last am.1 am.2.1 am.2.2.2.2.2.1 hP (am.2.2.2.2.2.2.2.1 _) hS 18 2 (n := 72) (f := t.2 0) rfl rfl hi d (fun H1 locs1 hP1 _ hS1 => k _ r hr H1 locs1 ls hP1 hS1 hh)
theorem ji_ald_Mcuts {s : wt_S} {t : wt_M} {o : Nat → Int64} {i : Int32} {f : Int64 → Option ρ} (am : wt_Am z own cc nL h rt) (d : decode cc pc = .ok (.laload, 1)) (hq : pc + 1 = q) (k : ∀ x : Int64, jj_J z nL q lv (.long x :: st) (s, t, o) Q (f x)) : jj_J z nL pc lv (.int i :: .ref (ad_ z 19) :: st) (s, t, o) Q (rd_L (t.2 1) 16000 i f) := by
  subst hq
  intro r hr H locs ls hP hS hh
  unfold rd_L at hr
  by_cases hi : i < 0 ∨ 16000 ≤ i.toNatClampNeg
  · rw [if_pos hi] at hr
    cases hr
  · rw [if_neg hi] at hr
    exact va_lald am.1 am.2.1 am.2.2.2.2.2.1 hP 19 2 (n := 16000) (f := t.2 1) rfl rfl hi d (k _ r hr H locs ls hP hS hh)
theorem ji_ast_Mcuts {s : wt_S} {t : wt_M} {o : Nat → Int64} {i : Int32} {x : Int64} {f : wt_M → Option ρ} (am : wt_Am z own cc nL h rt) (d : decode cc pc = .ok (.lastore, 1)) (hq : pc + 1 = q) (k : ∀ s2 : wt_M, jj_J z nL q lv st (s, s2, o) Q (f s2)) : jj_J z nL pc lv (.long x :: .int i :: .ref (ad_ z 19) :: st) (s, t, o) Q (wr_L t 1 16000 i (x) f) := by
  subst hq
  intro r hr H locs ls hP hS hh
  unfold wr_L at hr
  by_cases hi : i < 0 ∨ 16000 ≤ i.toNatClampNeg
  · rw [if_pos hi] at hr
    cases hr
  · rw [if_neg hi] at hr
    exact va_last am.1 am.2.1 am.2.2.2.2.2.1 hP (am.2.2.2.2.2.2.2.1 _) hS 19 2 (n := 16000) (f := t.2 1) rfl rfl hi d (fun H1 locs1 hP1 _ hS1 => k _ r hr H1 locs1 ls hP1 hS1 hh)
theorem ji_ald_Mmasks {s : wt_S} {t : wt_M} {o : Nat → Int64} {i : Int32} {f : Int64 → Option ρ} (am : wt_Am z own cc nL h rt) (d : decode cc pc = .ok (.laload, 1)) (hq : pc + 1 = q) (k : ∀ x : Int64, jj_J z nL q lv (.long x :: st) (s, t, o) Q (f x)) : jj_J z nL pc lv (.int i :: .ref (ad_ z 20) :: st) (s, t, o) Q (rd_L (t.2 2) 6 i f) := by
  subst hq
  intro r hr H locs ls hP hS hh
  unfold rd_L at hr
  by_cases hi : i < 0 ∨ 6 ≤ i.toNatClampNeg
  · rw [if_pos hi] at hr
    cases hr
  · rw [if_neg hi] at hr
    exact va_lald am.1 am.2.1 am.2.2.2.2.2.1 hP 20 2 (n := 6) (f := t.2 2) rfl rfl hi d (k _ r hr H locs ls hP hS hh)
theorem ji_get_X_diagrams {s : wt_S} {t : wt_M} {o : Nat → Int64} (am : wt_Am z R_X cc nL h rt) (d : decode cc pc = .ok (.getfield 10, 3)) (hq : pc + 3 = q) (k : jj_J z nL q lv (.ref (ad_ z 1) :: st) (s, t, o) Q X) : jj_J z nL pc lv (.ref (ad_ z 0) :: st) (s, t, o) Q X := by
  subst hq
  exact fun r hr H locs ls hP hS hh => va_get (C := R_X) (T := F_X) (N := 1) (ci := 0) am.1 am.2.1 am.2.2.2.2.1 in_X am.2.2.2.1 am.2.2.2.2.2.1 hP 0 rfl rfl 0 (by decide) (am.2.2.2.2.1 _ lf_X_diagrams) (fun _ h => h) rfl d (k r hr H locs ls hP hS hh)
theorem ji_get_D_roots {s : wt_S} {t : wt_M} {o : Nat → Int64} (am : wt_Am z R_D cc nL h rt) (d : decode cc pc = .ok (.getfield 11, 3)) (hq : pc + 3 = q) (k : jj_J z nL q lv (.ref (ad_ z 2) :: st) (s, t, o) Q X) : jj_J z nL pc lv (.ref (ad_ z 1) :: st) (s, t, o) Q X := by
  subst hq
  exact fun r hr H locs ls hP hS hh => va_get (C := R_D) (T := F_D) (N := 12) (ci := 1) am.1 am.2.1 am.2.2.2.2.1 in_D am.2.2.2.1 am.2.2.2.2.2.1 hP 1 rfl rfl 0 (by decide) (am.2.2.2.2.1 _ lf_D_roots) (fun _ h => h) rfl d (k r hr H locs ls hP hS hh)
theorem ji_get_D_atLevel {s : wt_S} {t : wt_M} {o : Nat → Int64} (am : wt_Am z R_D cc nL h rt) (d : decode cc pc = .ok (.getfield 15, 3)) (hq : pc + 3 = q) (k : jj_J z nL q lv (.ref (ad_ z 3) :: st) (s, t, o) Q X) : jj_J z nL pc lv (.ref (ad_ z 1) :: st) (s, t, o) Q X := by
  subst hq
  exact fun r hr H locs ls hP hS hh => va_get (C := R_D) (T := F_D) (N := 12) (ci := 1) am.1 am.2.1 am.2.2.2.2.1 in_D am.2.2.2.1 am.2.2.2.2.2.1 hP 1 rfl rfl 1 (by decide) (am.2.2.2.2.1 _ lf_D_atLevel) (fun _ h => h) rfl d (k r hr H locs ls hP hS hh)
theorem ji_get_D_levelOf {s : wt_S} {t : wt_M} {o : Nat → Int64} (am : wt_Am z R_D cc nL h rt) (d : decode cc pc = .ok (.getfield 18, 3)) (hq : pc + 3 = q) (k : jj_J z nL q lv (.ref (ad_ z 4) :: st) (s, t, o) Q X) : jj_J z nL pc lv (.ref (ad_ z 1) :: st) (s, t, o) Q X := by
  subst hq
  exact fun r hr H locs ls hP hS hh => va_get (C := R_D) (T := F_D) (N := 12) (ci := 1) am.1 am.2.1 am.2.2.2.2.1 in_D am.2.2.2.1 am.2.2.2.2.2.1 hP 1 rfl rfl 2 (by decide) (am.2.2.2.2.1 _ lf_D_levelOf) (fun _ h => h) rfl d (k r hr H locs ls hP hS hh)
theorem ji_get_D_label {s : wt_S} {t : wt_M} {o : Nat → Int64} (am : wt_Am z R_D cc nL h rt) (d : decode cc pc = .ok (.getfield 21, 3)) (hq : pc + 3 = q) (k : jj_J z nL q lv (.ref (ad_ z 5) :: st) (s, t, o) Q X) : jj_J z nL pc lv (.ref (ad_ z 1) :: st) (s, t, o) Q X := by
  subst hq
  exact fun r hr H locs ls hP hS hh => va_get (C := R_D) (T := F_D) (N := 12) (ci := 1) am.1 am.2.1 am.2.2.2.2.1 in_D am.2.2.2.1 am.2.2.2.2.2.1 hP 1 rfl rfl 3 (by decide) (am.2.2.2.2.1 _ lf_D_label) (fun _ h => h) rfl d (k r hr H locs ls hP hS hh)
theorem ji_get_D_low {s : wt_S} {t : wt_M} {o : Nat → Int64} (am : wt_Am z R_D cc nL h rt) (d : decode cc pc = .ok (.getfield 24, 3)) (hq : pc + 3 = q) (k : jj_J z nL q lv (.ref (ad_ z 6) :: st) (s, t, o) Q X) : jj_J z nL pc lv (.ref (ad_ z 1) :: st) (s, t, o) Q X := by
  subst hq
  exact fun r hr H locs ls hP hS hh => va_get (C := R_D) (T := F_D) (N := 12) (ci := 1) am.1 am.2.1 am.2.2.2.2.1 in_D am.2.2.2.1 am.2.2.2.2.2.1 hP 1 rfl rfl 4 (by decide) (am.2.2.2.2.1 _ lf_D_low) (fun _ h => h) rfl d (k r hr H locs ls hP hS hh)
theorem ji_get_D_high {s : wt_S} {t : wt_M} {o : Nat → Int64} (am : wt_Am z R_D cc nL h rt) (d : decode cc pc = .ok (.getfield 27, 3)) (hq : pc + 3 = q) (k : jj_J z nL q lv (.ref (ad_ z 7) :: st) (s, t, o) Q X) : jj_J z nL pc lv (.ref (ad_ z 1) :: st) (s, t, o) Q X := by
  subst hq
  exact fun r hr H locs ls hP hS hh => va_get (C := R_D) (T := F_D) (N := 12) (ci := 1) am.1 am.2.1 am.2.2.2.2.1 in_D am.2.2.2.1 am.2.2.2.2.2.1 hP 1 rfl rfl 5 (by decide) (am.2.2.2.2.1 _ lf_D_high) (fun _ h => h) rfl d (k r hr H locs ls hP hS hh)
theorem ji_get_D_next {s : wt_S} {t : wt_M} {o : Nat → Int64} (am : wt_Am z R_D cc nL h rt) (d : decode cc pc = .ok (.getfield 30, 3)) (hq : pc + 3 = q) (k : jj_J z nL q lv (.ref (ad_ z 8) :: st) (s, t, o) Q X) : jj_J z nL pc lv (.ref (ad_ z 1) :: st) (s, t, o) Q X := by
  subst hq
  exact fun r hr H locs ls hP hS hh => va_get (C := R_D) (T := F_D) (N := 12) (ci := 1) am.1 am.2.1 am.2.2.2.2.1 in_D am.2.2.2.1 am.2.2.2.2.2.1 hP 1 rfl rfl 6 (by decide) (am.2.2.2.2.1 _ lf_D_next) (fun _ h => h) rfl d (k r hr H locs ls hP hS hh)
theorem ji_get_D_heads {s : wt_S} {t : wt_M} {o : Nat → Int64} (am : wt_Am z R_D cc nL h rt) (d : decode cc pc = .ok (.getfield 33, 3)) (hq : pc + 3 = q) (k : jj_J z nL q lv (.ref (ad_ z 9) :: st) (s, t, o) Q X) : jj_J z nL pc lv (.ref (ad_ z 1) :: st) (s, t, o) Q X := by
  subst hq
  exact fun r hr H locs ls hP hS hh => va_get (C := R_D) (T := F_D) (N := 12) (ci := 1) am.1 am.2.1 am.2.2.2.2.1 in_D am.2.2.2.1 am.2.2.2.2.2.1 hP 1 rfl rfl 7 (by decide) (am.2.2.2.2.1 _ lf_D_heads) (fun _ h => h) rfl d (k r hr H locs ls hP hS hh)
theorem ji_get_D_marked {s : wt_S} {t : wt_M} {o : Nat → Int64} (am : wt_Am z R_D cc nL h rt) (d : decode cc pc = .ok (.getfield 36, 3)) (hq : pc + 3 = q) (k : jj_J z nL q lv (.ref (ad_ z 10) :: st) (s, t, o) Q X) : jj_J z nL pc lv (.ref (ad_ z 1) :: st) (s, t, o) Q X := by
  subst hq
  exact fun r hr H locs ls hP hS hh => va_get (C := R_D) (T := F_D) (N := 12) (ci := 1) am.1 am.2.1 am.2.2.2.2.1 in_D am.2.2.2.1 am.2.2.2.2.2.1 hP 1 rfl rfl 8 (by decide) (am.2.2.2.2.1 _ lf_D_marked) (fun _ h => h) rfl d (k r hr H locs ls hP hS hh)
theorem ji_get_D_live {s : wt_S} {t : wt_M} {o : Nat → Int64} (am : wt_Am z R_D cc nL h rt) (d : decode cc pc = .ok (.getfield 40, 3)) (hq : pc + 3 = q) (k : jj_J z nL q lv (.int (s 9 0) :: st) (s, t, o) Q X) : jj_J z nL pc lv (.ref (ad_ z 1) :: st) (s, t, o) Q X := by
  subst hq
  exact fun r hr H locs ls hP hS hh => va_get (C := R_D) (T := F_D) (N := 12) (ci := 1) am.1 am.2.1 am.2.2.2.2.1 in_D am.2.2.2.1 am.2.2.2.2.2.1 hP 1 rfl rfl 9 (by decide) (am.2.2.2.2.1 _ lf_D_live) (fun _ h => h) rfl d (k r hr H locs ls hP hS hh)
theorem ji_put_D_live {s : wt_S} {t : wt_M} {o : Nat → Int64} {x : Int32} {f : wt_S → Option ρ} (am : wt_Am z R_D cc nL h rt) (d : decode cc pc = .ok (.putfield 40, 3)) (hq : pc + 3 = q) (k : ∀ s2 : wt_S, jj_J z nL q lv st (s2, t, o) Q (f s2)) : jj_J z nL pc lv (.int x :: .ref (ad_ z 1) :: st) (s, t, o) Q (sp_S s 0 x f) := by
  subst hq
  intro r hr H locs ls hP hS hh
  exact va_put (C := R_D) (T := F_D) (N := 12) (ci := 1) (v := .int x) (ty := .int) am.1 am.2.1 am.2.2.2.2.1 in_D ty_D ty_D_ok nm_D am.2.2.2.1 am.2.2.2.2.2.1 hP (am.2.2.2.2.2.2.2.1 _) hS 1 rfl rfl 9 (by decide) (am.2.2.2.2.1 _ lf_D_live) (fun _ h => h) rfl (by decide +kernel) rfl rfl (Nat.le_of_ble_eq_true rfl) d (fun H1 locs1 hP1 _ hS1 => k _ r hr H1 locs1 ls hP1 hS1 hh)
theorem ji_get_D_end {s : wt_S} {t : wt_M} {o : Nat → Int64} (am : wt_Am z R_D cc nL h rt) (d : decode cc pc = .ok (.getfield 44, 3)) (hq : pc + 3 = q) (k : jj_J z nL q lv (.int (s 9 1) :: st) (s, t, o) Q X) : jj_J z nL pc lv (.ref (ad_ z 1) :: st) (s, t, o) Q X := by
  subst hq
  exact fun r hr H locs ls hP hS hh => va_get (C := R_D) (T := F_D) (N := 12) (ci := 1) am.1 am.2.1 am.2.2.2.2.1 in_D am.2.2.2.1 am.2.2.2.2.2.1 hP 1 rfl rfl 10 (by decide) (am.2.2.2.2.1 _ lf_D_end) (fun _ h => h) rfl d (k r hr H locs ls hP hS hh)
theorem ji_put_D_end {s : wt_S} {t : wt_M} {o : Nat → Int64} {x : Int32} {f : wt_S → Option ρ} (am : wt_Am z R_D cc nL h rt) (d : decode cc pc = .ok (.putfield 44, 3)) (hq : pc + 3 = q) (k : ∀ s2 : wt_S, jj_J z nL q lv st (s2, t, o) Q (f s2)) : jj_J z nL pc lv (.int x :: .ref (ad_ z 1) :: st) (s, t, o) Q (sp_S s 1 x f) := by
  subst hq
  intro r hr H locs ls hP hS hh
  exact va_put (C := R_D) (T := F_D) (N := 12) (ci := 1) (v := .int x) (ty := .int) am.1 am.2.1 am.2.2.2.2.1 in_D ty_D ty_D_ok nm_D am.2.2.2.1 am.2.2.2.2.2.1 hP (am.2.2.2.2.2.2.2.1 _) hS 1 rfl rfl 10 (by decide) (am.2.2.2.2.1 _ lf_D_end) (fun _ h => h) rfl (by decide +kernel) rfl rfl (Nat.le_of_ble_eq_true rfl) d (fun H1 locs1 hP1 _ hS1 => k _ r hr H1 locs1 ls hP1 hS1 hh)
theorem ji_get_D_cursor {s : wt_S} {t : wt_M} {o : Nat → Int64} (am : wt_Am z R_D cc nL h rt) (d : decode cc pc = .ok (.getfield 47, 3)) (hq : pc + 3 = q) (k : jj_J z nL q lv (.int (s 9 2) :: st) (s, t, o) Q X) : jj_J z nL pc lv (.ref (ad_ z 1) :: st) (s, t, o) Q X := by
  subst hq
  exact fun r hr H locs ls hP hS hh => va_get (C := R_D) (T := F_D) (N := 12) (ci := 1) am.1 am.2.1 am.2.2.2.2.1 in_D am.2.2.2.1 am.2.2.2.2.2.1 hP 1 rfl rfl 11 (by decide) (am.2.2.2.2.1 _ lf_D_cursor) (fun _ h => h) rfl d (k r hr H locs ls hP hS hh)
theorem ji_put_D_cursor {s : wt_S} {t : wt_M} {o : Nat → Int64} {x : Int32} {f : wt_S → Option ρ} (am : wt_Am z R_D cc nL h rt) (d : decode cc pc = .ok (.putfield 47, 3)) (hq : pc + 3 = q) (k : ∀ s2 : wt_S, jj_J z nL q lv st (s2, t, o) Q (f s2)) : jj_J z nL pc lv (.int x :: .ref (ad_ z 1) :: st) (s, t, o) Q (sp_S s 2 x f) := by
  subst hq
  intro r hr H locs ls hP hS hh
  exact va_put (C := R_D) (T := F_D) (N := 12) (ci := 1) (v := .int x) (ty := .int) am.1 am.2.1 am.2.2.2.2.1 in_D ty_D ty_D_ok nm_D am.2.2.2.1 am.2.2.2.2.2.1 hP (am.2.2.2.2.2.2.2.1 _) hS 1 rfl rfl 11 (by decide) (am.2.2.2.2.1 _ lf_D_cursor) (fun _ h => h) rfl (by decide +kernel) rfl rfl (Nat.le_of_ble_eq_true rfl) d (fun H1 locs1 hP1 _ hS1 => k _ r hr H1 locs1 ls hP1 hS1 hh)
theorem ji_get_M_code {s : wt_S} {t : wt_M} {o : Nat → Int64} (am : wt_Am z R_M cc nL h rt) (d : decode cc pc = .ok (.getfield 50, 3)) (hq : pc + 3 = q) (k : jj_J z nL q lv (.int (t.1 9 0) :: st) (s, t, o) Q X) : jj_J z nL pc lv (.ref (ad_ z 11) :: st) (s, t, o) Q X := by
  subst hq
  exact fun r hr H locs ls hP hS hh => va_get (C := R_M) (T := F_M) (N := 13) (ci := 2) am.1 am.2.1 am.2.2.2.2.1 in_M am.2.2.2.1 am.2.2.2.2.2.1 hP 11 rfl rfl 0 (by decide) (am.2.2.2.2.1 _ lf_M_code) (fun _ h => h) rfl d (k r hr H locs ls hP hS hh)
theorem ji_put_M_code {s : wt_S} {t : wt_M} {o : Nat → Int64} {x : Int32} {f : wt_M → Option ρ} (am : wt_Am z R_M cc nL h rt) (d : decode cc pc = .ok (.putfield 50, 3)) (hq : pc + 3 = q) (k : ∀ s2 : wt_M, jj_J z nL q lv st (s, s2, o) Q (f s2)) : jj_J z nL pc lv (.int x :: .ref (ad_ z 11) :: st) (s, t, o) Q (sp_T t 0 x f) := by
  subst hq
  intro r hr H locs ls hP hS hh
  exact va_put (C := R_M) (T := F_M) (N := 13) (ci := 2) (v := .int x) (ty := .int) am.1 am.2.1 am.2.2.2.2.1 in_M ty_M ty_M_ok nm_M am.2.2.2.1 am.2.2.2.2.2.1 hP (am.2.2.2.2.2.2.2.1 _) hS 11 rfl rfl 0 (by decide) (am.2.2.2.2.1 _ lf_M_code) (fun _ h => h) rfl (by decide +kernel) rfl rfl (Nat.le_of_ble_eq_true rfl) d (fun H1 locs1 hP1 _ hS1 => k _ r hr H1 locs1 ls hP1 hS1 hh)
theorem ji_get_M_words {s : wt_S} {t : wt_M} {o : Nat → Int64} (am : wt_Am z R_M cc nL h rt) (d : decode cc pc = .ok (.getfield 7, 3)) (hq : pc + 3 = q) (k : jj_J z nL q lv (.ref (ad_ z 18) :: st) (s, t, o) Q X) : jj_J z nL pc lv (.ref (ad_ z 11) :: st) (s, t, o) Q X := by
  subst hq
  exact fun r hr H locs ls hP hS hh => va_get (C := R_M) (T := F_M) (N := 13) (ci := 2) am.1 am.2.1 am.2.2.2.2.1 in_M am.2.2.2.1 am.2.2.2.2.2.1 hP 11 rfl rfl 1 (by decide) (am.2.2.2.2.1 _ lf_M_words) (fun _ h => h) rfl d (k r hr H locs ls hP hS hh)
theorem ji_get_M_levels {s : wt_S} {t : wt_M} {o : Nat → Int64} (am : wt_Am z R_M cc nL h rt) (d : decode cc pc = .ok (.getfield 13, 3)) (hq : pc + 3 = q) (k : jj_J z nL q lv (.ref (ad_ z 12) :: st) (s, t, o) Q X) : jj_J z nL pc lv (.ref (ad_ z 11) :: st) (s, t, o) Q X := by
  subst hq
  exact fun r hr H locs ls hP hS hh => va_get (C := R_M) (T := F_M) (N := 13) (ci := 2) am.1 am.2.1 am.2.2.2.2.1 in_M am.2.2.2.1 am.2.2.2.2.2.1 hP 11 rfl rfl 2 (by decide) (am.2.2.2.2.1 _ lf_M_levels) (fun _ h => h) rfl d (k r hr H locs ls hP hS hh)
theorem ji_get_M_before {s : wt_S} {t : wt_M} {o : Nat → Int64} (am : wt_Am z R_M cc nL h rt) (d : decode cc pc = .ok (.getfield 17, 3)) (hq : pc + 3 = q) (k : jj_J z nL q lv (.ref (ad_ z 13) :: st) (s, t, o) Q X) : jj_J z nL pc lv (.ref (ad_ z 11) :: st) (s, t, o) Q X := by
  subst hq
  exact fun r hr H locs ls hP hS hh => va_get (C := R_M) (T := F_M) (N := 13) (ci := 2) am.1 am.2.1 am.2.2.2.2.1 in_M am.2.2.2.1 am.2.2.2.2.2.1 hP 11 rfl rfl 3 (by decide) (am.2.2.2.2.1 _ lf_M_before) (fun _ h => h) rfl d (k r hr H locs ls hP hS hh)
theorem ji_get_M_cuts {s : wt_S} {t : wt_M} {o : Nat → Int64} (am : wt_Am z R_M cc nL h rt) (d : decode cc pc = .ok (.getfield 20, 3)) (hq : pc + 3 = q) (k : jj_J z nL q lv (.ref (ad_ z 19) :: st) (s, t, o) Q X) : jj_J z nL pc lv (.ref (ad_ z 11) :: st) (s, t, o) Q X := by
  subst hq
  exact fun r hr H locs ls hP hS hh => va_get (C := R_M) (T := F_M) (N := 13) (ci := 2) am.1 am.2.1 am.2.2.2.2.1 in_M am.2.2.2.1 am.2.2.2.2.2.1 hP 11 rfl rfl 4 (by decide) (am.2.2.2.2.1 _ lf_M_cuts) (fun _ h => h) rfl d (k r hr H locs ls hP hS hh)
theorem ji_get_M_many {s : wt_S} {t : wt_M} {o : Nat → Int64} (am : wt_Am z R_M cc nL h rt) (d : decode cc pc = .ok (.getfield 90, 3)) (hq : pc + 3 = q) (k : jj_J z nL q lv (.int (t.1 9 1) :: st) (s, t, o) Q X) : jj_J z nL pc lv (.ref (ad_ z 11) :: st) (s, t, o) Q X := by
  subst hq
  exact fun r hr H locs ls hP hS hh => va_get (C := R_M) (T := F_M) (N := 13) (ci := 2) am.1 am.2.1 am.2.2.2.2.1 in_M am.2.2.2.1 am.2.2.2.2.2.1 hP 11 rfl rfl 5 (by decide) (am.2.2.2.2.1 _ lf_M_many) (fun _ h => h) rfl d (k r hr H locs ls hP hS hh)
theorem ji_put_M_many {s : wt_S} {t : wt_M} {o : Nat → Int64} {x : Int32} {f : wt_M → Option ρ} (am : wt_Am z R_M cc nL h rt) (d : decode cc pc = .ok (.putfield 90, 3)) (hq : pc + 3 = q) (k : ∀ s2 : wt_M, jj_J z nL q lv st (s, s2, o) Q (f s2)) : jj_J z nL pc lv (.int x :: .ref (ad_ z 11) :: st) (s, t, o) Q (sp_T t 1 x f) := by
  subst hq
  intro r hr H locs ls hP hS hh
  exact va_put (C := R_M) (T := F_M) (N := 13) (ci := 2) (v := .int x) (ty := .int) am.1 am.2.1 am.2.2.2.2.1 in_M ty_M ty_M_ok nm_M am.2.2.2.1 am.2.2.2.2.2.1 hP (am.2.2.2.2.2.2.2.1 _) hS 11 rfl rfl 5 (by decide) (am.2.2.2.2.1 _ lf_M_many) (fun _ h => h) rfl (by decide +kernel) rfl rfl (Nat.le_of_ble_eq_true rfl) d (fun H1 locs1 hP1 _ hS1 => k _ r hr H1 locs1 ls hP1 hS1 hh)
theorem ji_get_M_here {s : wt_S} {t : wt_M} {o : Nat → Int64} (am : wt_Am z R_M cc nL h rt) (d : decode cc pc = .ok (.getfield 23, 3)) (hq : pc + 3 = q) (k : jj_J z nL q lv (.ref (ad_ z 14) :: st) (s, t, o) Q X) : jj_J z nL pc lv (.ref (ad_ z 11) :: st) (s, t, o) Q X := by
  subst hq
  exact fun r hr H locs ls hP hS hh => va_get (C := R_M) (T := F_M) (N := 13) (ci := 2) am.1 am.2.1 am.2.2.2.2.1 in_M am.2.2.2.1 am.2.2.2.2.2.1 hP 11 rfl rfl 6 (by decide) (am.2.2.2.2.1 _ lf_M_here) (fun _ h => h) rfl d (k r hr H locs ls hP hS hh)
theorem ji_get_M_hereMany {s : wt_S} {t : wt_M} {o : Nat → Int64} (am : wt_Am z R_M cc nL h rt) (d : decode cc pc = .ok (.getfield 103, 3)) (hq : pc + 3 = q) (k : jj_J z nL q lv (.int (t.1 9 2) :: st) (s, t, o) Q X) : jj_J z nL pc lv (.ref (ad_ z 11) :: st) (s, t, o) Q X := by
  subst hq
  exact fun r hr H locs ls hP hS hh => va_get (C := R_M) (T := F_M) (N := 13) (ci := 2) am.1 am.2.1 am.2.2.2.2.1 in_M am.2.2.2.1 am.2.2.2.2.2.1 hP 11 rfl rfl 7 (by decide) (am.2.2.2.2.1 _ lf_M_hereMany) (fun _ h => h) rfl d (k r hr H locs ls hP hS hh)
theorem ji_put_M_hereMany {s : wt_S} {t : wt_M} {o : Nat → Int64} {x : Int32} {f : wt_M → Option ρ} (am : wt_Am z R_M cc nL h rt) (d : decode cc pc = .ok (.putfield 103, 3)) (hq : pc + 3 = q) (k : ∀ s2 : wt_M, jj_J z nL q lv st (s, s2, o) Q (f s2)) : jj_J z nL pc lv (.int x :: .ref (ad_ z 11) :: st) (s, t, o) Q (sp_T t 2 x f) := by
  subst hq
  intro r hr H locs ls hP hS hh
  exact va_put (C := R_M) (T := F_M) (N := 13) (ci := 2) (v := .int x) (ty := .int) am.1 am.2.1 am.2.2.2.2.1 in_M ty_M ty_M_ok nm_M am.2.2.2.1 am.2.2.2.2.2.1 hP (am.2.2.2.2.2.2.2.1 _) hS 11 rfl rfl 7 (by decide) (am.2.2.2.2.1 _ lf_M_hereMany) (fun _ h => h) rfl (by decide +kernel) rfl rfl (Nat.le_of_ble_eq_true rfl) d (fun H1 locs1 hP1 _ hS1 => k _ r hr H1 locs1 ls hP1 hS1 hh)
theorem ji_get_M_next {s : wt_S} {t : wt_M} {o : Nat → Int64} (am : wt_Am z R_M cc nL h rt) (d : decode cc pc = .ok (.getfield 26, 3)) (hq : pc + 3 = q) (k : jj_J z nL q lv (.ref (ad_ z 15) :: st) (s, t, o) Q X) : jj_J z nL pc lv (.ref (ad_ z 11) :: st) (s, t, o) Q X := by
  subst hq
  exact fun r hr H locs ls hP hS hh => va_get (C := R_M) (T := F_M) (N := 13) (ci := 2) am.1 am.2.1 am.2.2.2.2.1 in_M am.2.2.2.1 am.2.2.2.2.2.1 hP 11 rfl rfl 8 (by decide) (am.2.2.2.2.1 _ lf_M_next) (fun _ h => h) rfl d (k r hr H locs ls hP hS hh)
theorem ji_get_M_nextMany {s : wt_S} {t : wt_M} {o : Nat → Int64} (am : wt_Am z R_M cc nL h rt) (d : decode cc pc = .ok (.getfield 93, 3)) (hq : pc + 3 = q) (k : jj_J z nL q lv (.int (t.1 9 3) :: st) (s, t, o) Q X) : jj_J z nL pc lv (.ref (ad_ z 11) :: st) (s, t, o) Q X := by
  subst hq
  exact fun r hr H locs ls hP hS hh => va_get (C := R_M) (T := F_M) (N := 13) (ci := 2) am.1 am.2.1 am.2.2.2.2.1 in_M am.2.2.2.1 am.2.2.2.2.2.1 hP 11 rfl rfl 9 (by decide) (am.2.2.2.2.1 _ lf_M_nextMany) (fun _ h => h) rfl d (k r hr H locs ls hP hS hh)
theorem ji_put_M_nextMany {s : wt_S} {t : wt_M} {o : Nat → Int64} {x : Int32} {f : wt_M → Option ρ} (am : wt_Am z R_M cc nL h rt) (d : decode cc pc = .ok (.putfield 93, 3)) (hq : pc + 3 = q) (k : ∀ s2 : wt_M, jj_J z nL q lv st (s, s2, o) Q (f s2)) : jj_J z nL pc lv (.int x :: .ref (ad_ z 11) :: st) (s, t, o) Q (sp_T t 3 x f) := by
  subst hq
  intro r hr H locs ls hP hS hh
  exact va_put (C := R_M) (T := F_M) (N := 13) (ci := 2) (v := .int x) (ty := .int) am.1 am.2.1 am.2.2.2.2.1 in_M ty_M ty_M_ok nm_M am.2.2.2.1 am.2.2.2.2.2.1 hP (am.2.2.2.2.2.2.2.1 _) hS 11 rfl rfl 9 (by decide) (am.2.2.2.2.1 _ lf_M_nextMany) (fun _ h => h) rfl (by decide +kernel) rfl rfl (Nat.le_of_ble_eq_true rfl) d (fun H1 locs1 hP1 _ hS1 => k _ r hr H1 locs1 ls hP1 hS1 hh)
theorem ji_get_M_told {s : wt_S} {t : wt_M} {o : Nat → Int64} (am : wt_Am z R_M cc nL h rt) (d : decode cc pc = .ok (.getfield 29, 3)) (hq : pc + 3 = q) (k : jj_J z nL q lv (.ref (ad_ z 16) :: st) (s, t, o) Q X) : jj_J z nL pc lv (.ref (ad_ z 11) :: st) (s, t, o) Q X := by
  subst hq
  exact fun r hr H locs ls hP hS hh => va_get (C := R_M) (T := F_M) (N := 13) (ci := 2) am.1 am.2.1 am.2.2.2.2.1 in_M am.2.2.2.1 am.2.2.2.2.2.1 hP 11 rfl rfl 10 (by decide) (am.2.2.2.2.1 _ lf_M_told) (fun _ h => h) rfl d (k r hr H locs ls hP hS hh)
theorem ji_get_M_masks {s : wt_S} {t : wt_M} {o : Nat → Int64} (am : wt_Am z R_M cc nL h rt) (d : decode cc pc = .ok (.getfield 44, 3)) (hq : pc + 3 = q) (k : jj_J z nL q lv (.ref (ad_ z 20) :: st) (s, t, o) Q X) : jj_J z nL pc lv (.ref (ad_ z 11) :: st) (s, t, o) Q X := by
  subst hq
  exact fun r hr H locs ls hP hS hh => va_get (C := R_M) (T := F_M) (N := 13) (ci := 2) am.1 am.2.1 am.2.2.2.2.1 in_M am.2.2.2.1 am.2.2.2.2.2.1 hP 11 rfl rfl 11 (by decide) (am.2.2.2.2.1 _ lf_M_masks) (fun _ h => h) rfl d (k r hr H locs ls hP hS hh)
theorem ji_get_M_steps {s : wt_S} {t : wt_M} {o : Nat → Int64} (am : wt_Am z R_M cc nL h rt) (d : decode cc pc = .ok (.getfield 47, 3)) (hq : pc + 3 = q) (k : jj_J z nL q lv (.ref (ad_ z 17) :: st) (s, t, o) Q X) : jj_J z nL pc lv (.ref (ad_ z 11) :: st) (s, t, o) Q X := by
  subst hq
  exact fun r hr H locs ls hP hS hh => va_get (C := R_M) (T := F_M) (N := 13) (ci := 2) am.1 am.2.1 am.2.2.2.2.1 in_M am.2.2.2.1 am.2.2.2.2.2.1 hP 11 rfl rfl 12 (by decide) (am.2.2.2.2.1 _ lf_M_steps) (fun _ h => h) rfl d (k r hr H locs ls hP hS hh)
end Rows
