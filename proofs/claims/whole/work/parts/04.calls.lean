/-! Calls over the judgement, and a contract out of a walk. My own. -/
theorem wt_ok_spec {w : Cond} (h : wt_ok w = true) : (w.onTables && w.keeps) = true ∨ ∃ ty, w = .arrayClass ty := by
  unfold wt_ok at h
  rcases (Bool.or_eq_true _ _).mp h with h | h
  · exact Or.inl h
  · refine Or.inr ?_
    cases w <;> first | exact ⟨_, rfl⟩ | cases h
theorem wt_good {cw : Cond} (h : cw ∈ wt_WS) : GoodIn wt_WS (cw :: wt_WS) := by
  have hh : ∀ w ∈ wt_WS, w ∈ wt_WS ∧ ((w.onTables && w.keeps) = true ∨ ∃ ty, w = .arrayClass ty) := fun w hw => ⟨hw, wt_ok_spec (List.mem_filter.mp hw).2⟩
  intro w hw
  rcases List.mem_cons.mp hw with rfl | hw
  · exact hh _ h
  · exact hh _ hw
theorem pc_blind {v : wt_V} {w : wt_W} {as : List Value} : FrameBlind (va_Pc as (fun U => wt_Wd v w U)) := fun a U g mk hq => by
  obtain ⟨q0, qP, qK, qN, qD⟩ := hq
  exact ⟨q0, qP, va_K.moved (u := U) (U := U.calling g mk a) (Vm.Alike.refl U.vm) qK, fun x hx => va_Nw.same (u := U) (U := U.calling g mk a) rfl rfl (qN x hx), qD⟩
section Calls
variable {ρ : Type} {z : wt_Z} {own : String} {cc : ByteArray} {nL h pc q : Nat} {rt : Option FieldType} {lv : List (Nat × Value)} {st0 rest : List Value} {w w' : wt_W} {Q : ρ → State → Prop} {X : Option ρ} {s : wt_S} {t : wt_M} {o : Nat → Int64}
theorem pc_at {as : List Value} {H : Heap} (am : wt_Am z own cc nL h rt) (hP : va_P (zz_v z).2.2.1 wt_cl (wt_wo (zz_v z) w) H) : ∀ U : State, U.heap = H → (zz_s z).WarmedH U.vm → va_Pc as (fun U => wt_Wd (zz_v z) w U) as.toArray U :=
  fun U hU hW => ⟨rfl, by rw [hU]; exact hP, va_K.moved hW.alike am.2.2.2.2.2.1, fun x hx => va_Nw.warmM hW (am.2.2.2.2.2.2.1 x hx), am.2.2.2.2.2.2.2.1⟩
def jr_R (z : wt_Z) (nL pc : Nat) (lv : List (Nat × Value)) (st0 rest : List Value) (w : wt_W) (ret : Option Value) (w' : wt_W) : Prop :=
  ∀ (H : Heap) (locs : List Loc) (ls : Array Slot), va_P (zz_v z).2.2.1 wt_cl (wt_wo (zz_v z) w) H → va_S (wt_A (zz_v z)) (zz_s z).heap H locs → lv_has ls nL lv →
    ∃ a9 : Array Value, va_Run (zz_p z) (zz_v z).1 (zz_e z) (zz_R z) (zz_s z) (zz_m z) (zz_a z) (zz_b z) (zz_t z) (zz_c z) H locs 0 0 0 0 (F0 (zz_m z) pc ls st0) rest (ct_Q (zz_v z) ret w' a9) (wt_A (zz_v z))
theorem jr_J {ret : Option Value} (hr : jr_R z nL pc lv st0 rest w ret w') (k : jj_J z nL (pc + 3) lv (ret.toList ++ rest) w' Q X) : jj_J z nL pc lv st0 w Q X := by
  intro r hx H locs ls hP hS hl T hT T0
  obtain ⟨a9, hr⟩ := hr H locs ls hP hS hl
  obtain ⟨v, st₀, t, T', L, h0, X', hL, e1, e2, ⟨hv, hW, hF⟩, st⟩ := hr T hT T0
  cases hv
  obtain ⟨hz, hk⟩ := hF
  rw [h0] at hz hk
  have hP1 : va_P (zz_v z).2.2.1 wt_cl (wt_wo (zz_v z) w') T'.heap := by rw [e1]; exact hW.1
  obtain ⟨t2, a1, b1⟩ := k r hx T'.heap (locs ++ L) ls hP1 ⟨Nat.le_trans hS.1 (by rw [e1]; exact hz), fun q h1 h2 => by rw [e1, hk q (Nat.lt_of_lt_of_le h1 hS.1) h2]; exact hS.2.1 q h1 h2, fun q hq => by
      rcases List.mem_append.mp hq with h | h
      · exact hS.2.2 q h
      · exact hL q h⟩ hl T' rfl X'
  exact ⟨t2, st t2 a1, b1⟩
def ln_V (own : String) (i : Nat) (y : MethodName) (b : ByteArray) (mL n : Nat) (rt : Option FieldType) : Prop :=
  Cond.code y b mL rt ∈ wt_WS ∧ Cond.methodLink own i y ∈ wt_WS ∧ Cond.instanceMethod y ∈ wt_WS ∧ Cond.selects y.cls y y ∈ wt_WS ∧ Cond.initialized y.cls ∈ wt_WS ∧ (y.cls ≠ "java/lang/invoke/MethodHandle" ∧ y.cls ≠ "java/lang/invoke/VarHandle" ∧ (parseMethodDescriptor y.desc).map (fun d => d.parameters.length) = some n) ∧ mL ≤ 45
def ln_N (own : String) (i : Nat) (y : MethodName) (b : ByteArray) (mL n : Nat) (rt : Option FieldType) (host : String) : Prop :=
  Cond.code y b mL rt ∈ wt_WS ∧ (own, i, y, host) ∈ wt_nest ∧ Cond.instanceMethod y ∈ wt_WS ∧ Cond.selects y.cls y y ∈ wt_WS ∧ Cond.initialized y.cls ∈ wt_WS ∧ (y.cls ≠ "java/lang/invoke/MethodHandle" ∧ y.cls ≠ "java/lang/invoke/VarHandle" ∧ (parseMethodDescriptor y.desc).map (fun d => d.parameters.length) = some n) ∧ mL ≤ 45
def ln_S (own : String) (i : Nat) (y : MethodName) (b : ByteArray) (mL n : Nat) (rt : Option FieldType) : Prop :=
  Cond.code y b mL rt ∈ wt_WS ∧ Cond.methodLink own i y ∈ wt_WS ∧ Cond.static y ∈ wt_WS ∧ Cond.initialized y.cls ∈ wt_WS ∧ (y.cls ≠ "java/lang/invoke/MethodHandle" ∧ y.cls ≠ "java/lang/invoke/VarHandle" ∧ (parseMethodDescriptor y.desc).map (fun d => d.parameters.length) = some n) ∧ mL ≤ 45
def rc_ (z : wt_Z) (w : wt_W) (C : String) (b : Nat) : Prop := ∀ H : Heap, va_P (zz_v z).2.2.1 wt_cl (wt_wo (zz_v z) w) H → ∃ cell : Cell, H[b]? = some cell ∧ cell.vm.isStatics = false ∧ (zz_s z).vm.findClass C = some cell.cls
theorem rc_X (am : wt_Am z own cc nL h rt) : rc_ z w R_X (ad_ z 0) := fun H hP => va_recv (q0 := 0) (ci := 0) am.2.2.2.2.2.1 hP rfl rfl
theorem rc_D (am : wt_Am z own cc nL h rt) : rc_ z w R_D (ad_ z 1) := fun H hP => va_recv (q0 := 1) (ci := 1) am.2.2.2.2.2.1 hP rfl rfl
theorem rc_M (am : wt_Am z own cc nL h rt) : rc_ z w R_M (ad_ z 11) := fun H hP => va_recv (q0 := 11) (ci := 2) am.2.2.2.2.2.1 hP rfl rfl
theorem jr_V {i : Nat} {y : MethodName} {b : ByteArray} {mL n h' rb : Nat} {rt' : Option FieldType} {ret : Option Value} (as : List Value) (am : wt_Am z own cc nL h rt) (L : ln_V own i y b mL n rt') (hc : ct_C (zz_v z) y (Cond.code y b mL rt') h' (.ref rb :: as) ret w w') (hh : h' + 1 ≤ h) (hrec : rc_ z w y.cls rb) (hn : as.length = n) (hst : as.reverse ++ .ref rb :: rest = st0) (hcat : (rest.map fun v => v.category).sum ≤ 8) (d : decode cc pc = .ok (.invokevirtual i, 3)) : jr_R z nL pc lv st0 rest w ret w' := by
  intro H locs ls hP hS hl
  obtain ⟨L1, L2, L3, L4, L5, L6, L7⟩ := L
  have hts := am.2.2.2.2.1
  have hf := am.2.2.2.2.2.2.2.2.1
  have hg := am.2.2.2.2.2.2.2.2.2.1
  refine ⟨(Value.ref rb :: as).toArray, ?_⟩
  exact va_runV (As := as) (rest := rest) ⟨am.1, am.2.1, am.2.2.1, am.2.2.2.1, am.2.2.2.2.1⟩ hc ⟨callB_of n hts (wt_good L1) rfl rfl rfl (hts _ L5) (hts _ L2) L6 ⟨show h' + 1 ≤ _ by omega, show 8 + (mL + 11) + 64 * h' ≤ _ by omega⟩, hts _ L3, hts _ L4⟩ ⟨pc_blind, hrec H hP, pc_at am hP⟩ rfl hn hl.1 hst.symm (lv_room hcat) d ⟨Nat.zero_le _, Nat.zero_le _⟩
theorem jr_N {i : Nat} {y : MethodName} {b : ByteArray} {mL n h' rb : Nat} {rt' : Option FieldType} {ret : Option Value} {host : String} (as : List Value) (am : wt_Am z own cc nL h rt) (L : ln_N own i y b mL n rt' host) (hc : ct_C (zz_v z) y (Cond.code y b mL rt') h' (.ref rb :: as) ret w w') (hh : h' + 1 ≤ h) (hrec : rc_ z w y.cls rb) (hn : as.length = n) (hst : as.reverse ++ .ref rb :: rest = st0) (hcat : (rest.map fun v => v.category).sum ≤ 8) (d : decode cc pc = .ok (.invokevirtual i, 3)) : jr_R z nL pc lv st0 rest w ret w' := by
  intro H locs ls hP hS hl
  obtain ⟨L1, L2, L3, L4, L5, L6, L7⟩ := L
  have hts := am.2.2.2.2.1
  have hf := am.2.2.2.2.2.2.2.2.1
  have hg := am.2.2.2.2.2.2.2.2.2.1
  refine ⟨(Value.ref rb :: as).toArray, ?_⟩
  exact va_runVN (As := as) (rest := rest) ⟨am.1, am.2.1, am.2.2.1, am.2.2.2.1, am.2.2.2.2.1⟩ hc ⟨va_cnB n hts (wt_good L1) rfl rfl rfl (am.2.2.2.2.2.2.1 _ L2) (hts _ L5) L6 ⟨show h' + 1 ≤ _ by omega, show 8 + (mL + 11) + 64 * h' ≤ _ by omega⟩, hts _ L3, hts _ L4⟩ ⟨pc_blind, hrec H hP, pc_at am hP⟩ rfl hn hl.1 hst.symm (lv_room hcat) d ⟨Nat.zero_le _, Nat.zero_le _⟩
theorem jr_S {i : Nat} {y : MethodName} {b : ByteArray} {mL n h' : Nat} {rt' : Option FieldType} {ret : Option Value} (as : List Value) (am : wt_Am z own cc nL h rt) (L : ln_S own i y b mL n rt') (hc : ct_C (zz_v z) y (Cond.code y b mL rt') h' as ret w w') (hh : h' + 1 ≤ h) (hn : as.length = n) (hst : as.reverse ++ rest = st0) (hcat : (rest.map fun v => v.category).sum ≤ 8) (d : decode cc pc = .ok (.invokestatic i, 3)) : jr_R z nL pc lv st0 rest w ret w' := by
  intro H locs ls hP hS hl
  obtain ⟨L1, L2, L3, L5, L6, L7⟩ := L
  have hts := am.2.2.2.2.1
  have hf := am.2.2.2.2.2.2.2.2.1
  have hg := am.2.2.2.2.2.2.2.2.2.1
  refine ⟨as.toArray, ?_⟩
  exact va_runS (As := as) (rest := rest) ⟨am.1, am.2.1, am.2.2.1, am.2.2.2.1, am.2.2.2.2.1⟩ hc ⟨callB_of n hts (wt_good L1) rfl rfl rfl (hts _ L5) (hts _ L2) L6 ⟨show h' + 1 ≤ _ by omega, show 8 + (mL + 11) + 64 * h' ≤ _ by omega⟩, hts _ L3⟩ ⟨pc_blind, pc_at am hP⟩ rfl hn hl.1 hst.symm (lv_room hcat) d ⟨Nat.zero_le _, Nat.zero_le _⟩
theorem jk_U {F : Option Unit} {f : Unit → Option ρ} (hr : ∀ r, F = some r → jr_R z nL pc lv st0 rest w none w) (hq : pc + 3 = q) (k : ∀ r, jj_J z nL q lv rest w Q (f r)) : jj_J z nL pc lv st0 w Q (b_U F f) := by
  subst hq
  cases hF : F with
  | none => exact ji_none
  | some r0 => exact jr_J (ret := none) (hr r0 hF) (k r0)
theorem jk_I {F : Option Int32} {f : Int32 → Option ρ} (hr : ∀ r, F = some r → jr_R z nL pc lv st0 rest w (some (.int r)) w) (hq : pc + 3 = q) (k : ∀ r, jj_J z nL q lv (.int r :: rest) w Q (f r)) : jj_J z nL pc lv st0 w Q (b_I F f) := by
  subst hq
  cases hF : F with
  | none => exact ji_none
  | some r0 => exact jr_J (ret := some (.int r0)) (hr r0 hF) (k r0)
theorem jk_S {F : Option wt_S} {f : wt_S → Option ρ} (hr : ∀ r, F = some r → jr_R z nL pc lv st0 rest (s, t, o) none (r, t, o)) (hq : pc + 3 = q) (k : ∀ r, jj_J z nL q lv rest (r, t, o) Q (f r)) : jj_J z nL pc lv st0 (s, t, o) Q (b_S F f) := by
  subst hq
  cases hF : F with
  | none => exact ji_none
  | some r0 => exact jr_J (ret := none) (hr r0 hF) (k r0)
theorem jk_T {F : Option wt_M} {f : wt_M → Option ρ} (hr : ∀ r, F = some r → jr_R z nL pc lv st0 rest (s, t, o) none (s, r, o)) (hq : pc + 3 = q) (k : ∀ r, jj_J z nL q lv rest (s, r, o) Q (f r)) : jj_J z nL pc lv st0 (s, t, o) Q (b_T F f) := by
  subst hq
  cases hF : F with
  | none => exact ji_none
  | some r0 => exact jr_J (ret := none) (hr r0 hF) (k r0)
theorem jk_IS {F : Option (Int32 × wt_S)} {f : Int32 → wt_S → Option ρ} (hr : ∀ r s2, F = some (r, s2) → jr_R z nL pc lv st0 rest (s, t, o) (some (.int r)) (s2, t, o)) (hq : pc + 3 = q) (k : ∀ r s2, jj_J z nL q lv (.int r :: rest) (s2, t, o) Q (f r s2)) : jj_J z nL pc lv st0 (s, t, o) Q (b_IS F f) := by
  subst hq
  cases hF : F with
  | none => exact ji_none
  | some r0 => exact jr_J (ret := some (.int r0.1)) (hr r0.1 r0.2 hF) (k r0.1 r0.2)
theorem jk_IT {F : Option (Int32 × wt_M)} {f : Int32 → wt_M → Option ρ} (hr : ∀ r s2, F = some (r, s2) → jr_R z nL pc lv st0 rest (s, t, o) (some (.int r)) (s, s2, o)) (hq : pc + 3 = q) (k : ∀ r s2, jj_J z nL q lv (.int r :: rest) (s, s2, o) Q (f r s2)) : jj_J z nL pc lv st0 (s, t, o) Q (b_IT F f) := by
  subst hq
  cases hF : F with
  | none => exact ji_none
  | some r0 => exact jr_J (ret := some (.int r0.1)) (hr r0.1 r0.2 hF) (k r0.1 r0.2)
end Calls
theorem ct_of {ρ : Type} {v : wt_V} {y : MethodName} {cc : ByteArray} {nL h : Nat} {rt : Option FieldType} {as : List Value} {lv : List (Nat × Value)} {w : wt_W} {x : Option ρ} (rv : ρ → Option Value) (rw : ρ → wt_W) (hy : plainName y.cls = true) (hn : (lg_sl as).length ≤ nL) (hl : lv_args 0 as = lv) (body : ∀ z : wt_Z, zz_v z = v → wt_Am z y.cls cc nL h rt → jj_J z nL 0 lv [] w (ct_M z rv rw) x) (r : ρ) (hx : x = some r) : ct_C v y (Cond.code y cc nL rt) h as (rv r) w (rw r) := by
  subst hl
  refine Met.ofW (cc := cc) (maxL := nL) (ret := rt) hy rfl ?_
  intro p e s m args below meth c s₁ B hml hv
  obtain ⟨rfl, hP, hK, hN, hD⟩ := hv
  have hts := atoms_spec (ws := Cond.code y cc nL rt :: wt_WS) B.pre
  have hb := body (p, e, wt_rm h, s, m, as.toArray, below, meth, c, v) rfl ⟨B.exec, B.bytes, hml, findClass_of_methodNamed B.named, fun w hw => hts w (List.mem_cons_of_mem _ hw), hK, hN, hD, Nat.le_refl _, Nat.le_refl _, B.notSynchronized, B.returns⟩ r hx s.heap [] _ hP va_S.rf (lv_entry as hn)
  rw [lg_entry_eq]
  exact hb
