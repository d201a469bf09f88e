/-! The law's small methods that catch: rows. My own. -/
def cw_Q (v : wt_V) (k : Int32) (w' : wt_W) : Array Value → State → Outcome → State → Prop := fun _ st oc t => oc = .returned (some (.int k)) ∧ va_P v.2.2.1 wt_cl (wt_wo v w') t.heap ∧ va_F (wt_A v) st t
def cw_C (v : wt_V) (y : MethodName) (cw : Cond) (h : Nat) (as : List Value) (k : Int32) (w w' : wt_W) : Prop :=
  vx_Met v.1 y (cw :: wt_WS) (wt_rx h) (va_Pc as (fun U => wt_Wd v w U ∧ wx_E v U)) (cw_Q v k w') (fun _ _ _ => False) 1 6 (wt_A v)
abbrev q_W (z : wt_Z) (k : Int32) (w' : wt_W) : Unit → State → Prop := fun _ => vx_MQ (zz_b z) (cw_Q (zz_v z) k w') (fun _ _ _ => False) (zz_a z) (zz_s z) 1 6 (wt_A (zz_v z))
section WR
variable {z : wt_Z} {own : String} {cc : ByteArray} {nL h pc q : Nat} {rt : Option FieldType} {lv : List (Nat × Value)} {st st0 rest : List Value} {w w' : wt_W} {E : String} {k : Int32}
theorem jq_end {c n : Nat} {H : Heap} {locs : List Loc} {ls : Array Slot} (am : wt_Am z own cc nL h (some .int)) (hc : c ≤ 1) (hn : n ≤ 6) (hP : va_P (zz_v z).2.2.1 wt_cl (wt_wo (zz_v z) w') H) (hS : va_S (wt_A (zz_v z)) (zz_s z).heap H locs) (d : decode cc pc = .ok (.ireturn, 1)) : W (zz_p z) (zz_v z).1 (zz_e z) (zz_R z) (zz_s z) (zz_m z) (zz_a z) (zz_b z) (zz_t z) (zz_c z) H locs c n (q_W z k w' ()) (F0 (zz_m z) pc ls [.int k]) := by
  have hlk : (zz_t z).locks = false := am.2.2.2.2.2.2.2.2.2.2.1
  exact W.widen hc hn (vx_ret (W.iret (Qc := cw_Q (zz_v z) k w') (free := wt_A (zz_v z)) am.1 am.2.1 am.2.2.2.2.2.2.2.2.2.2.2 (fun t ht hW => ⟨rfl, by rw [ht]; exact hP, hS.F ht⟩) hS.2.2 d))
theorem jq_ret (am : wt_Am z own cc nL h (some .int)) (d : decode cc pc = .ok (.ireturn, 1)) : jj_J z nL pc lv [.int k] w' (q_W z k w') (some ()) := fun _ _ _ _ _ hP hS _ => jq_end am (by decide) (by decide) hP hS d
theorem ji_ast_out {ρ : Type} {Q : ρ → State → Prop} {X : Option ρ} {s : wt_S} {t : wt_M} {o : Nat → Int64} {x : Int64} (am : wt_Am z own cc nL h rt) (d : decode cc pc = .ok (.lastore, 1)) (hq : pc + 1 = q) (k : jj_J z nL q lv st (s, t, vp_updL o 0 x) Q X) : jj_J z nL pc lv (.long x :: .int 0 :: .ref (ad_ z 21) :: st) (s, t, o) Q X := by
  subst hq
  intro r hr H locs ls hP hS hh
  exact va_last am.1 am.2.1 am.2.2.2.2.2.1 hP (am.2.2.2.2.2.2.2.1 _) hS 21 2 (n := 1) (f := o) rfl rfl (show ¬ ((0 : Int32) < 0 ∨ 1 ≤ (0 : Int32).toNatClampNeg) by decide) d (fun H1 locs1 hP1 _ hS1 => k r hr H1 locs1 ls hP1 hS1 hh)
theorem ji_lconst2 {ρ : Type} {Q : ρ → State → Prop} {X : Option ρ} {n : Fin 2} {v : Int64} (am : wt_Am z own cc nL h rt) (d : decode cc pc = .ok (.lconst n, 1)) (hv : Int64.ofNat (n : Nat) = v) (hq : pc + 1 = q) (k : jj_J z nL q lv (.long v :: st) w Q X) : jj_J z nL pc lv st w Q X := ji_lconst am d hv hq k
/-- a call that throws E, caught by the row x -/
theorem jq_V {i : Nat} {y : MethodName} {b : ByteArray} {mL n h' rb : Nat} {rt' : Option FieldType} (as : List Value) (am : wt_Am z own cc nL h rt) (we : wx_E (zz_v z) (zz_s z)) (hR : zz_R z = wt_rx h) (L : ln_V own i y b mL n rt') (hc : cx_C (zz_v z) y (Cond.code y b mL rt') h' (.ref rb :: as) w E) (hh : h' + 1 ≤ h) (hrec : rc_ z w y.cls rb) (hn : as.length = n) (hst : as.reverse ++ .ref rb :: rest = st0) (hcat : (rest.map fun v => v.category).sum ≤ 8) (d : decode cc pc = .ok (.invokevirtual i, 3))
    (pre : List ExceptionTableEntry) (x : ExceptionTableEntry) (suf : List ExceptionTableEntry) (hsplit : (zz_c z).exceptionTable.toList = pre ++ x :: suf) (hpass : ∀ e ∈ pre, covers e pc = false ∨ (e.catchType ≠ 0 ∧ ∃ nm : String, Cond.classLink own e.catchType nm ∈ wt_WS ∧ va_Nc E nm (zz_s z))) (hx : covers x pc = true) (h0 : x.catchType ≠ 0) (hlink : Cond.classLink own x.catchType E ∈ wt_WS) (hcast : va_Nw (.castable E E) (zz_s z)) {Q : Unit → State → Prop}
    (kk : ∀ (q9 : Nat) (H : Heap) (locs : List Loc) (ls : Array Slot), va_P (zz_v z).2.2.1 wt_cl (wt_wo (zz_v z) w) H → va_S (wt_A (zz_v z)) (zz_s z).heap H locs → lv_has ls nL lv → W (zz_p z) (zz_v z).1 (zz_e z) (zz_R z) (zz_s z) (zz_m z) (zz_a z) (zz_b z) (zz_t z) (zz_c z) H locs 1 6 (Q ()) (F0 (zz_m z) x.handlerPc ls [.ref q9])) : jj_J z nL pc lv st0 w Q (some ()) := by
  intro r hr H locs ls hP hS hl
  cases hr
  obtain ⟨L1, L2, L3, L4, L5, L6, L7⟩ := L
  have hts := am.2.2.2.2.1
  have hf := am.2.2.2.2.2.2.2.2.1
  have hg := am.2.2.2.2.2.2.2.2.2.1
  have run := vx_runV (p := zz_p z) (e := zz_e z) (below := zz_b z) (meth := zz_t z) (locs := locs) (cells := 0) (slots := 0) (g := F0 (zz_m z) pc ls st0) (As := as) (rest := rest) ⟨am.1, am.2.1, am.2.2.1, am.2.2.2.1, am.2.2.2.2.1⟩ hc ⟨callB_of (R := zz_R z) n hts (wt_good L1) rfl rfl rfl (hts _ L5) (hts _ L2) L6 ⟨show h' + 1 ≤ _ by omega, show 8 + (mL + 11) + 64 * h' ≤ _ by omega⟩, hts _ L3, hts _ L4⟩ ⟨px_blind, hrec H hP, px_at am we hP hS⟩ rfl hn hl.1 hst.symm (lv_room hcat) d (by rw [hR]; exact ⟨Nat.le_refl _, Nat.le_refl _⟩)
  intro T hT X
  rcases run T hT X with ⟨v, st₀, t, T', L, h9, X', hL, e1, e2, hF, st⟩ | ⟨q, st₀, t, T', L, E', ce, h9, X', hL, e1, e2, ⟨rfl, hP', hF⟩, hce, hcv, hcl, st⟩
  · exact hF.elim
  · obtain ⟨k1, k2, k3⟩ := vx_keep h9 e1 hS (fun q _ h => h) (fun q h => h) hL hF
    obtain ⟨t2, a1, b1⟩ := vx_catch (own := own) (name := E') (pc := pc) (ls := ls) (rest := rest) (cells := 0 + 1) (slots := 0 + 6) am.2.2.2.1 pre x suf hsplit (fun e he => (hpass e he).imp id (fun ⟨c0, nm, c1, c2⟩ => ⟨c0, nm, hts _ c1, c2⟩)) hx h0 (hts _ hlink) (va_Nw.use rfl hcast) (H := T'.heap) (by rw [e1]; exact hce) hcv hcl (kk q T'.heap (locs ++ L) ls (by rw [e1]; exact hP') k3 hl) T' rfl X'
    exact ⟨t2, st.trans a1, b1⟩
end WR
theorem cw_of {v : wt_V} {y : MethodName} {cc : ByteArray} {nL h : Nat} {as : List Value} {lv : List (Nat × Value)} {w w' : wt_W} {k : Int32} {hh : List (Nat × Nat × Nat × Nat)} (hy : plainName y.cls = true) (hn : (lg_sl as).length ≤ nL) (hl : lv_args 0 as = lv) (body : ∀ z : wt_Z, zz_v z = v → wt_Am z y.cls cc nL h (some .int) → wx_E v (zz_s z) → (zz_c z).exceptionTable.toList = tableOf hh → zz_R z = wt_rx h → jj_J z nL 0 lv [] w (q_W z k w') (some ())) : cw_C v y (Cond.codeWith y cc nL (some .int) hh) h as k w w' := by
  subst hl
  refine vx_ofWH (cc := cc) (maxL := nL) (ret := some .int) (hh := hh) hy rfl ?_
  intro p e s m args below meth c s₁ B hml hv
  obtain ⟨rfl, ⟨hP, hK, hN, hD⟩, hE⟩ := hv
  have hts := atoms_spec (ws := Cond.codeWith y cc nL (some .int) hh :: wt_WS) B.pre
  have hb := body (p, e, wt_rx h, s, m, as.toArray, below, meth, c, v) rfl ⟨B.exec, B.bytes, hml, findClass_of_methodNamed B.named, fun w hw => hts w (List.mem_cons_of_mem _ hw), hK, hN, hD, Nat.le_refl _, Nat.le_refl _, B.notSynchronized, B.returns⟩ hE (vx_table (x := y) B (hts _ List.mem_cons_self)) rfl () rfl s.heap [] _ hP va_S.rf (lv_entry as hn)
  rw [lg_entry_eq]
  exact hb
