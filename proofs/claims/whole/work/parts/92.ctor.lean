/-! The constructors: printed by wip/gen/ctor.py. My own. -/
theorem mo_n : Cond.instanceMethod objectInit ∈ wt_WS := wt_in 62 (by decide +kernel) (by decide +kernel)
theorem mo_c : Cond.code objectInit ⟨#[0xb1]⟩ 1 none ∈ wt_WS := wt_in 63 (by decide +kernel) (by decide +kernel)
theorem mo_X : Cond.methodLink R_X 1 objectInit ∈ wt_WS := wt_in 61 (by decide +kernel) (by decide +kernel)
theorem mo_D : Cond.methodLink R_D 3 objectInit ∈ wt_WS := wt_in 69 (by decide +kernel) (by decide +kernel)
theorem mo_M : Cond.methodLink R_M 1 objectInit ∈ wt_WS := wt_in 564 (by decide +kernel) (by decide +kernel)
theorem ma_int : Cond.arrayClass .int ∈ wt_WS := wt_in 110 (by decide +kernel) (by decide +kernel)
theorem ma_boolean : Cond.arrayClass .boolean ∈ wt_WS := wt_in 111 (by decide +kernel) (by decide +kernel)
theorem ma_long : Cond.arrayClass .long ∈ wt_WS := wt_in 611 (by decide +kernel) (by decide +kernel)
theorem mq_X : Cond.instantiable R_X 1 ∈ wt_WS := wt_in 57 (by decide +kernel) (by decide +kernel)
theorem mq_D : Cond.instantiable R_D 12 ∈ wt_WS := wt_in 65 (by decide +kernel) (by decide +kernel)
theorem mq_M : Cond.instantiable R_M 13 ∈ wt_WS := wt_in 560 (by decide +kernel) (by decide +kernel)
theorem mk_X_D : Cond.classLink R_X 7 R_D ∈ wt_WS := wt_in 64 (by decide +kernel) (by decide +kernel)
theorem mk_L_X : Cond.classLink R_L 8 R_X ∈ wt_WS := wt_in 56 (by decide +kernel) (by decide +kernel)
theorem mk_L_M : Cond.classLink R_L 91 R_M ∈ wt_WS := wt_in 559 (by decide +kernel) (by decide +kernel)
theorem ml_X_d_init : Cond.methodLink R_X 9 yd_init ∈ wt_WS := wt_in 66 (by decide +kernel) (by decide +kernel)
theorem mn_d_init : Cond.instanceMethod yd_init ∈ wt_WS := wt_in 67 (by decide +kernel) (by decide +kernel)
theorem mc_d_init : Cond.code yd_init bd_init 2 none ∈ wt_WS := wt_in 68 (by decide +kernel) (by decide +kernel)
theorem ml_L_x_init : Cond.methodLink R_L 90 yx_init ∈ wt_WS := wt_in 58 (by decide +kernel) (by decide +kernel)
theorem mn_x_init : Cond.instanceMethod yx_init ∈ wt_WS := wt_in 59 (by decide +kernel) (by decide +kernel)
theorem mc_x_init : Cond.code yx_init bx_init 1 none ∈ wt_WS := wt_in 60 (by decide +kernel) (by decide +kernel)
theorem ml_L_m_init : Cond.methodLink R_L 93 ym_init ∈ wt_WS := wt_in 561 (by decide +kernel) (by decide +kernel)
theorem mn_m_init : Cond.instanceMethod ym_init ∈ wt_WS := wt_in 562 (by decide +kernel) (by decide +kernel)
theorem mc_m_init : Cond.code ym_init bm_init 2 none ∈ wt_WS := wt_in 563 (by decide +kernel) (by decide +kernel)

section NA
variable {p : Program} {l : Launch} {e : Env} {R : Room} {s : State} {m : MethodId} {args : Array Value} {below : List Frame} {meth : Method} {c : Code} {H : Heap} {locs : List Loc} {cells slots : Nat} {Q : State → Prop} {cc : ByteArray} {pc : Nat} {ls : Array Slot} {rest : List Value} {D : va_G} {cl : List vw_C} {tys : List (ClassId × FieldType)} {ws : va_W} {A : Nat → Prop} {H0 : Heap}
theorem nw_a (hexec : p.tables.exec = Jvm.exec) (hb : c.code = cc) {atype : ArrayType} (harr : (Cond.arrayClass (newarray.typeOf atype)).before args s = true) {ty : FieldType} (hty : newarray.typeOf atype = ty) (hK : va_K D cl tys s) (t0 : Nat) {cA0 : ClassId} (ht : tys[t0]? = some (cA0, ty)) (hp : ∀ c, va_RA s c ty → s.vm.findClass ("[" ++ ty.toString) = some c) (hP : va_P D cl ws H) (hD : va_D A ws) (hS : va_S A H0 H locs) (hA : ∀ q, H0.size ≤ q → A q)
    {n : Int32} {N' : Nat} {a0 : vp_A} (ha : ∀ cA : ClassId, vp_cell cA a0 = arrV cA N' (fun _ => defaultValue ty)) (hn : ¬ n < 0) (hN : n.toNatClampNeg = N') (hbytes : N' * componentBytes ty ≤ 536870912) (hcells : cells + 1 ≤ R.cells) (hslots : slots + N' ≤ R.slots) (hdg : decode cc pc = .ok (.newarray atype, 2))
    (kk : ∀ (q : Nat) (H1 : Heap), va_P D cl (ws ++ [(q, .inl (cA0, a0))]) H1 → va_D A (ws ++ [(q, .inl (cA0, a0))]) → va_S A H0 H1 locs →
      W p l e R s m args below meth c H1 locs (cells + 1) (slots + N') Q (F0 m (pc + 2) ls (.ref q :: rest))) : W p l e R s m args below meth c H locs cells slots Q (F0 m pc ls (.int n :: rest)) :=
  va_newa hexec hb harr hty hK hP hD hS hA ha hn hN hbytes hcells hslots hdg (fun q cA H1 hK' hP' hD' hS' => by
    have h1 := hp _ (hK'.2 tys.length (cA, ty) (by simp)).2
    have h2 := hp _ (hK.2 t0 _ ht).2
    have e : cA = cA0 := Option.some.inj (h1.symm.trans h2)
    subst e
    exact kk q H1 hP' hD' hS')
end NA
theorem i0_up (k : Nat) : upd (fun i => if i < k then nI i else 0) k (nI k) = fun i => if i < k + 1 then nI i else 0 := by
  funext i
  unfold upd
  dsimp only
  by_cases c : i = k
  · rw [if_pos c, c, if_pos (Nat.lt_succ_self _)]
  · rw [if_neg c]
    by_cases c2 : i < k
    · rw [if_pos c2, if_pos (by omega)]
    · rw [if_neg c2, if_neg (by omega)]
theorem i0_fu (f : Nat → Int32) (x : Int32) (k : Nat) : upd (fun i => if i < k then x else f i) k x = fun i => if i < k + 1 then x else f i := by
  funext i
  unfold upd
  dsimp only
  by_cases c : i = k
  · rw [if_pos c, c, if_pos (Nat.lt_succ_self _)]
  · rw [if_neg c]
    by_cases c2 : i < k
    · rw [if_pos c2, if_pos (by omega)]
    · rw [if_neg c2, if_neg (by omega)]
theorem i0_ff (f : Nat → Int32) (x : Int32) : (fun i => if i < 0 then x else f i) = f := by
  funext i
  rw [if_neg (Nat.not_lt_zero _)]
theorem i0_set {α : Type} {l : List α} {i : Nat} {a : α} (h : l[i]? = some a) : l.set i a = l := by
  obtain ⟨hi, e⟩ := List.getElem?_eq_some_iff.mp h
  rw [← e]
  exact List.set_getElem_self hi
def i0_A (ws : va_W) : Nat → Prop := fun q => ∃ (k : Nat) (e : va_E), ws[k]? = some (q, e)
set_option maxHeartbeats 4000000 in
/-- Arrays.fill over any world -/
theorem c_fill (l : Launch) (G : va_G) (tys : List (ClassId × FieldType)) (ws : va_W) (q0 a : Nat) (cI : ClassId) (f : Nat → Int32) (x : Int32) (he : ws[q0]? = some (a, .inl (cI, 2048, .inl f))) (ht : tys[0]? = some (cI, .int)) : Met l ya_fill (Cond.code ya_fill ba_fill 4 none :: wt_WS) (wt_rm 1) (va_Pc [.ref a, .int x] (fun U => va_P G wt_cl ws U.heap ∧ va_K G wt_cl tys U ∧ va_D (i0_A ws) ws)) (va_Qv (fun _ : Unit => True) (fun _ t => va_P G wt_cl (ws.set q0 (a, .inl (cI, 2048, .inl (fun i => if i < 2048 then x else f i)))) t.heap) (i0_A ws)) 0 0 (i0_A ws) := by
  refine Met.ofW (cc := ba_fill) (maxL := 4) (ret := none) (by decide) rfl ?_
  intro p e s m args below meth c s₁ B hml hv
  obtain ⟨rfl, hP, hK, hD⟩ := hv
  have hx := B.exec
  have hb := B.bytes
  have hr := B.returns
  have hlocks := B.notSynchronized
  have hS : va_S (i0_A ws) s.heap s.heap [] := va_S.rf
  have hl := lv_entry ([.ref a, .int x]) (n := 4) (Nat.le_of_ble_eq_true rfl)
  rw [lg_entry_eq]
  generalize (lg_sl ([.ref a, .int x]) ++ List.replicate (4 - (lg_sl ([.ref a, .int x])).length) Slot.unset).toArray = ls at hl ⊢
  have hl : lv_has ls 4 [(0, .ref a), (1, .int x)] := hl
  have hlt : q0 < ws.length := (List.getElem?_eq_some_iff.mp he).1
  have loop : ∀ (d k : Nat) (H : Heap) (locs : List Loc) (ls : Array Slot), k + d = 2048 → va_P G wt_cl (ws.set q0 (a, .inl (cI, 2048, .inl (fun i => if i < k then x else f i)))) H → va_D (i0_A ws) (ws.set q0 (a, .inl (cI, 2048, .inl (fun i => if i < k then x else f i)))) → va_S (i0_A ws) s.heap H locs → lv_has ls 4 [(0, .ref a), (1, .int x), (2, .int (nI k)), (3, .int 2048)] →
      W p l e (wt_rm 1) s m ([Value.ref a, .int x] : List Value).toArray below meth c H locs 0 0 (MQ below (va_Qv (fun _ : Unit => True) (fun _ t => va_P G wt_cl (ws.set q0 (a, .inl (cI, 2048, .inl (fun i => if i < 2048 then x else f i)))) t.heap) (i0_A ws)) ([Value.ref a, .int x] : List Value).toArray s 0 0 (i0_A ws)) (F0 m 5 ls []) := by
    intro d
    induction d with
    | zero =>
      intro k H locs ls hk hP hD hS hl
      have hk : k = 2048 := by omega
      subst hk
      refine lv_iload_n hx hb da_fill_5 rfl (lv_at hl 2 rfl) ?_
      refine lv_iload_n hx hb da_fill_6 rfl (lv_at hl 3 rfl) ?_
      refine lv_icmp_ge (tgt := 20) hx hb da_fill_7 rfl (fun _ => ?_) (fun hc => absurd (by decide : (2048 : Int32) ≤ nI 2048) hc)
      exact W.vret hx hb hr (fun t ht hW => ⟨⟨(), rfl, trivial, (by rw [ht]; exact hP : va_P G wt_cl (ws.set q0 (a, .inl (cI, 2048, .inl (fun i => if i < 2048 then x else f i)))) t.heap)⟩, hS.F ht⟩) hS.2.2 da_fill_20
    | succ d ih =>
      intro k H locs ls hk hP hD hS hl
      refine lv_iload_n hx hb da_fill_5 rfl (lv_at hl 2 rfl) ?_
      refine lv_iload_n hx hb da_fill_6 rfl (lv_at hl 3 rfl) ?_
      refine lv_icmp_ge (tgt := 20) hx hb da_fill_7 rfl (fun hc => absurd hc (nI_ge (show k < 2048 by omega) (by decide))) (fun _ => ?_)
      refine lv_aload_n hx hb da_fill_10 rfl (lv_at hl 0 rfl) ?_
      refine lv_iload_n hx hb da_fill_11 rfl (lv_at hl 2 rfl) ?_
      refine lv_iload_n hx hb da_fill_12 rfl (lv_at hl 1 rfl) ?_
      refine va_iast hx hb hK hP hD hS q0 0 (n := 2048) (f := fun i => if i < k then x else f i) (List.getElem?_set_self hlt) ht (nI_in (show k < 2048 by omega) (by decide)) da_fill_13 (fun H locs hP hD hS => ?_)
      rw [nI_clamp (by omega), i0_fu, List.set_set] at hP hD
      refine lv_iinc (k := 2) (v := nI (k + 1)) hx hb da_fill_14 hl rfl (nI_succ k).symm (by decide) rfl (fun ls2 h2 => ?_)
      refine lv_goto (tgt := 5) hx hb da_fill_17 rfl ?_
      exact ih (k + 1) H locs ls2 (by omega) hP hD hS (lv_sub h2 [1, 2, 0, 3] rfl)
  refine lv_iconst hx hb da_fill_0 ki_0 ?_
  refine lv_istore_n hx hb da_fill_1 rfl hl (by decide) rfl (fun ls h2 => ?_)
  have hl : lv_has ls 4 [(0, .ref a), (1, .int x), (2, .int 0)] := lv_sub h2 [1, 2, 0] rfl
  refine lv_aload_n hx hb da_fill_2 rfl (lv_at hl 0 rfl) ?_
  refine va_alen hx hb hK hP q0 0 (x := (2048, .inl f)) (v := 2048) he ht (show Int32.ofNat 2048 = 2048 by decide) da_fill_3 ?_
  refine lv_istore_n hx hb da_fill_4 rfl hl (by decide) rfl (fun ls h2 => ?_)
  have hl : lv_has ls 4 [(0, .ref a), (1, .int x), (2, .int 0), (3, .int 2048)] := lv_sub h2 [1, 2, 3, 0] rfl
  have hP0 : va_P G wt_cl (ws.set q0 (a, .inl (cI, 2048, .inl (fun i => if i < 0 then x else f i)))) s.heap := by
    rw [i0_ff, i0_set he]; exact hP
  have hD0 : va_D (i0_A ws) (ws.set q0 (a, .inl (cI, 2048, .inl (fun i => if i < 0 then x else f i)))) := by
    rw [i0_ff, i0_set he]; exact hD
  exact loop 2048 0 s.heap [] ls rfl hP0 hD0 hS hl

theorem dd_init_0 : decode bd_init 0 = .ok (.aload_n 0, 1) := by decide +kernel
theorem dd_init_1 : decode bd_init 1 = .ok (.invokespecial 3, 3) := by decide +kernel
theorem dd_init_4 : decode bd_init 4 = .ok (.aload_n 0, 1) := by decide +kernel
theorem dd_init_5 : decode bd_init 5 = .ok (.bipush 20, 2) := by decide +kernel
theorem dd_init_7 : decode bd_init 7 = .ok (.newarray .int, 2) := by decide +kernel
theorem dd_init_9 : decode bd_init 9 = .ok (.putfield 11, 3) := by decide +kernel
theorem dd_init_12 : decode bd_init 12 = .ok (.aload_n 0, 1) := by decide +kernel
theorem dd_init_13 : decode bd_init 13 = .ok (.bipush 8, 2) := by decide +kernel
theorem dd_init_15 : decode bd_init 15 = .ok (.newarray .int, 2) := by decide +kernel
theorem dd_init_17 : decode bd_init 17 = .ok (.putfield 15, 3) := by decide +kernel
theorem dd_init_20 : decode bd_init 20 = .ok (.aload_n 0, 1) := by decide +kernel
theorem dd_init_21 : decode bd_init 21 = .ok (.bipush 9, 2) := by decide +kernel
theorem dd_init_23 : decode bd_init 23 = .ok (.newarray .int, 2) := by decide +kernel
theorem dd_init_25 : decode bd_init 25 = .ok (.putfield 18, 3) := by decide +kernel
theorem dd_init_28 : decode bd_init 28 = .ok (.aload_n 0, 1) := by decide +kernel
theorem dd_init_29 : decode bd_init 29 = .ok (.sipush 2048, 3) := by decide +kernel
theorem dd_init_32 : decode bd_init 32 = .ok (.newarray .int, 2) := by decide +kernel
theorem dd_init_34 : decode bd_init 34 = .ok (.putfield 21, 3) := by decide +kernel
theorem dd_init_37 : decode bd_init 37 = .ok (.aload_n 0, 1) := by decide +kernel
theorem dd_init_38 : decode bd_init 38 = .ok (.sipush 2048, 3) := by decide +kernel
theorem dd_init_41 : decode bd_init 41 = .ok (.newarray .int, 2) := by decide +kernel
theorem dd_init_43 : decode bd_init 43 = .ok (.putfield 24, 3) := by decide +kernel
theorem dd_init_46 : decode bd_init 46 = .ok (.aload_n 0, 1) := by decide +kernel
theorem dd_init_47 : decode bd_init 47 = .ok (.sipush 2048, 3) := by decide +kernel
theorem dd_init_50 : decode bd_init 50 = .ok (.newarray .int, 2) := by decide +kernel
theorem dd_init_52 : decode bd_init 52 = .ok (.putfield 27, 3) := by decide +kernel
theorem dd_init_55 : decode bd_init 55 = .ok (.aload_n 0, 1) := by decide +kernel
theorem dd_init_56 : decode bd_init 56 = .ok (.sipush 2048, 3) := by decide +kernel
theorem dd_init_59 : decode bd_init 59 = .ok (.newarray .int, 2) := by decide +kernel
theorem dd_init_61 : decode bd_init 61 = .ok (.putfield 30, 3) := by decide +kernel
theorem dd_init_64 : decode bd_init 64 = .ok (.aload_n 0, 1) := by decide +kernel
theorem dd_init_65 : decode bd_init 65 = .ok (.sipush 256, 3) := by decide +kernel
theorem dd_init_68 : decode bd_init 68 = .ok (.newarray .int, 2) := by decide +kernel
theorem dd_init_70 : decode bd_init 70 = .ok (.putfield 33, 3) := by decide +kernel
theorem dd_init_73 : decode bd_init 73 = .ok (.aload_n 0, 1) := by decide +kernel
theorem dd_init_74 : decode bd_init 74 = .ok (.sipush 2048, 3) := by decide +kernel
theorem dd_init_77 : decode bd_init 77 = .ok (.newarray .boolean, 2) := by decide +kernel
theorem dd_init_79 : decode bd_init 79 = .ok (.putfield 36, 3) := by decide +kernel
theorem dd_init_82 : decode bd_init 82 = .ok (.aload_n 0, 1) := by decide +kernel
theorem dd_init_83 : decode bd_init 83 = .ok (.iconst 0, 1) := by decide +kernel
theorem dd_init_84 : decode bd_init 84 = .ok (.putfield 40, 3) := by decide +kernel
theorem dd_init_87 : decode bd_init 87 = .ok (.aload_n 0, 1) := by decide +kernel
theorem dd_init_88 : decode bd_init 88 = .ok (.iconst 2, 1) := by decide +kernel
theorem dd_init_89 : decode bd_init 89 = .ok (.putfield 44, 3) := by decide +kernel
theorem dd_init_92 : decode bd_init 92 = .ok (.aload_n 0, 1) := by decide +kernel
theorem dd_init_93 : decode bd_init 93 = .ok (.iconst 2, 1) := by decide +kernel
theorem dd_init_94 : decode bd_init 94 = .ok (.putfield 47, 3) := by decide +kernel
theorem dd_init_97 : decode bd_init 97 = .ok (.iconst 0, 1) := by decide +kernel
theorem dd_init_98 : decode bd_init 98 = .ok (.istore_n 1, 1) := by decide +kernel
theorem dd_init_99 : decode bd_init 99 = .ok (.iload_n 1, 1) := by decide +kernel
theorem dd_init_100 : decode bd_init 100 = .ok (.bipush 8, 2) := by decide +kernel
theorem dd_init_102 : decode bd_init 102 = .ok (.if_icmp .ge 23, 3) := by decide +kernel
theorem dd_init_105 : decode bd_init 105 = .ok (.aload_n 0, 1) := by decide +kernel
theorem dd_init_106 : decode bd_init 106 = .ok (.getfield 15, 3) := by decide +kernel
theorem dd_init_109 : decode bd_init 109 = .ok (.iload_n 1, 1) := by decide +kernel
theorem dd_init_110 : decode bd_init 110 = .ok (.iload_n 1, 1) := by decide +kernel
theorem dd_init_111 : decode bd_init 111 = .ok (.iastore, 1) := by decide +kernel
theorem dd_init_112 : decode bd_init 112 = .ok (.aload_n 0, 1) := by decide +kernel
theorem dd_init_113 : decode bd_init 113 = .ok (.getfield 18, 3) := by decide +kernel
theorem dd_init_116 : decode bd_init 116 = .ok (.iload_n 1, 1) := by decide +kernel
theorem dd_init_117 : decode bd_init 117 = .ok (.iload_n 1, 1) := by decide +kernel
theorem dd_init_118 : decode bd_init 118 = .ok (.iastore, 1) := by decide +kernel
theorem dd_init_119 : decode bd_init 119 = .ok (.iinc 1 1, 3) := by decide +kernel
theorem dd_init_122 : decode bd_init 122 = .ok (.goto (-23), 3) := by decide +kernel
theorem dd_init_125 : decode bd_init 125 = .ok (.aload_n 0, 1) := by decide +kernel
theorem dd_init_126 : decode bd_init 126 = .ok (.getfield 18, 3) := by decide +kernel
theorem dd_init_129 : decode bd_init 129 = .ok (.bipush 8, 2) := by decide +kernel
theorem dd_init_131 : decode bd_init 131 = .ok (.bipush 8, 2) := by decide +kernel
theorem dd_init_133 : decode bd_init 133 = .ok (.iastore, 1) := by decide +kernel
theorem dd_init_134 : decode bd_init 134 = .ok (.aload_n 0, 1) := by decide +kernel
theorem dd_init_135 : decode bd_init 135 = .ok (.getfield 21, 3) := by decide +kernel
theorem dd_init_138 : decode bd_init 138 = .ok (.iconst (-1), 1) := by decide +kernel
theorem dd_init_139 : decode bd_init 139 = .ok (.invokestatic 50, 3) := by decide +kernel
theorem dd_init_142 : decode bd_init 142 = .ok (.aload_n 0, 1) := by decide +kernel
theorem dd_init_143 : decode bd_init 143 = .ok (.getfield 21, 3) := by decide +kernel
theorem dd_init_146 : decode bd_init 146 = .ok (.iconst 0, 1) := by decide +kernel
theorem dd_init_147 : decode bd_init 147 = .ok (.bipush 8, 2) := by decide +kernel
theorem dd_init_149 : decode bd_init 149 = .ok (.iastore, 1) := by decide +kernel
theorem dd_init_150 : decode bd_init 150 = .ok (.aload_n 0, 1) := by decide +kernel
theorem dd_init_151 : decode bd_init 151 = .ok (.getfield 21, 3) := by decide +kernel
theorem dd_init_154 : decode bd_init 154 = .ok (.iconst 1, 1) := by decide +kernel
theorem dd_init_155 : decode bd_init 155 = .ok (.bipush 8, 2) := by decide +kernel
theorem dd_init_157 : decode bd_init 157 = .ok (.iastore, 1) := by decide +kernel
theorem dd_init_158 : decode bd_init 158 = .ok (.return_, 1) := by decide +kernel
theorem dx_init_0 : decode bx_init 0 = .ok (.aload_n 0, 1) := by decide +kernel
theorem dx_init_1 : decode bx_init 1 = .ok (.invokespecial 1, 3) := by decide +kernel
theorem dx_init_4 : decode bx_init 4 = .ok (.aload_n 0, 1) := by decide +kernel
theorem dx_init_5 : decode bx_init 5 = .ok (.new 7, 3) := by decide +kernel
theorem dx_init_8 : decode bx_init 8 = .ok (.dup, 1) := by decide +kernel
theorem dx_init_9 : decode bx_init 9 = .ok (.invokespecial 9, 3) := by decide +kernel
theorem dx_init_12 : decode bx_init 12 = .ok (.putfield 10, 3) := by decide +kernel
theorem dx_init_15 : decode bx_init 15 = .ok (.return_, 1) := by decide +kernel
theorem dm_init_0 : decode bm_init 0 = .ok (.aload_n 0, 1) := by decide +kernel
theorem dm_init_1 : decode bm_init 1 = .ok (.invokespecial 1, 3) := by decide +kernel
theorem dm_init_4 : decode bm_init 4 = .ok (.aload_n 0, 1) := by decide +kernel
theorem dm_init_5 : decode bm_init 5 = .ok (.bipush 72, 2) := by decide +kernel
theorem dm_init_7 : decode bm_init 7 = .ok (.newarray .long, 2) := by decide +kernel
theorem dm_init_9 : decode bm_init 9 = .ok (.putfield 7, 3) := by decide +kernel
theorem dm_init_12 : decode bm_init 12 = .ok (.aload_n 0, 1) := by decide +kernel
theorem dm_init_13 : decode bm_init 13 = .ok (.bipush 8, 2) := by decide +kernel
theorem dm_init_15 : decode bm_init 15 = .ok (.newarray .int, 2) := by decide +kernel
theorem dm_init_17 : decode bm_init 17 = .ok (.putfield 13, 3) := by decide +kernel
theorem dm_init_20 : decode bm_init 20 = .ok (.aload_n 0, 1) := by decide +kernel
theorem dm_init_21 : decode bm_init 21 = .ok (.bipush 8, 2) := by decide +kernel
theorem dm_init_23 : decode bm_init 23 = .ok (.newarray .int, 2) := by decide +kernel
theorem dm_init_25 : decode bm_init 25 = .ok (.putfield 17, 3) := by decide +kernel
theorem dm_init_28 : decode bm_init 28 = .ok (.aload_n 0, 1) := by decide +kernel
theorem dm_init_29 : decode bm_init 29 = .ok (.sipush 16000, 3) := by decide +kernel
theorem dm_init_32 : decode bm_init 32 = .ok (.newarray .long, 2) := by decide +kernel
theorem dm_init_34 : decode bm_init 34 = .ok (.putfield 20, 3) := by decide +kernel
theorem dm_init_37 : decode bm_init 37 = .ok (.aload_n 0, 1) := by decide +kernel
theorem dm_init_38 : decode bm_init 38 = .ok (.sipush 4000, 3) := by decide +kernel
theorem dm_init_41 : decode bm_init 41 = .ok (.newarray .int, 2) := by decide +kernel
theorem dm_init_43 : decode bm_init 43 = .ok (.putfield 23, 3) := by decide +kernel
theorem dm_init_46 : decode bm_init 46 = .ok (.aload_n 0, 1) := by decide +kernel
theorem dm_init_47 : decode bm_init 47 = .ok (.sipush 4000, 3) := by decide +kernel
theorem dm_init_50 : decode bm_init 50 = .ok (.newarray .int, 2) := by decide +kernel
theorem dm_init_52 : decode bm_init 52 = .ok (.putfield 26, 3) := by decide +kernel
theorem dm_init_55 : decode bm_init 55 = .ok (.aload_n 0, 1) := by decide +kernel
theorem dm_init_56 : decode bm_init 56 = .ok (.sipush 4000, 3) := by decide +kernel
theorem dm_init_59 : decode bm_init 59 = .ok (.newarray .int, 2) := by decide +kernel
theorem dm_init_61 : decode bm_init 61 = .ok (.putfield 29, 3) := by decide +kernel
theorem dm_init_64 : decode bm_init 64 = .ok (.aload_n 0, 1) := by decide +kernel
theorem dm_init_65 : decode bm_init 65 = .ok (.bipush 6, 2) := by decide +kernel
theorem dm_init_67 : decode bm_init 67 = .ok (.newarray .long, 2) := by decide +kernel
theorem dm_init_69 : decode bm_init 69 = .ok (.dup, 1) := by decide +kernel
theorem dm_init_70 : decode bm_init 70 = .ok (.iconst 0, 1) := by decide +kernel
theorem dm_init_71 : decode bm_init 71 = .ok (.ldc2_w 32, 3) := by decide +kernel
theorem dm_init_74 : decode bm_init 74 = .ok (.lastore, 1) := by decide +kernel
theorem dm_init_75 : decode bm_init 75 = .ok (.dup, 1) := by decide +kernel
theorem dm_init_76 : decode bm_init 76 = .ok (.iconst 1, 1) := by decide +kernel
theorem dm_init_77 : decode bm_init 77 = .ok (.ldc2_w 34, 3) := by decide +kernel
theorem dm_init_80 : decode bm_init 80 = .ok (.lastore, 1) := by decide +kernel
theorem dm_init_81 : decode bm_init 81 = .ok (.dup, 1) := by decide +kernel
theorem dm_init_82 : decode bm_init 82 = .ok (.iconst 2, 1) := by decide +kernel
theorem dm_init_83 : decode bm_init 83 = .ok (.ldc2_w 36, 3) := by decide +kernel
theorem dm_init_86 : decode bm_init 86 = .ok (.lastore, 1) := by decide +kernel
theorem dm_init_87 : decode bm_init 87 = .ok (.dup, 1) := by decide +kernel
theorem dm_init_88 : decode bm_init 88 = .ok (.iconst 3, 1) := by decide +kernel
theorem dm_init_89 : decode bm_init 89 = .ok (.ldc2_w 38, 3) := by decide +kernel
theorem dm_init_92 : decode bm_init 92 = .ok (.lastore, 1) := by decide +kernel
theorem dm_init_93 : decode bm_init 93 = .ok (.dup, 1) := by decide +kernel
theorem dm_init_94 : decode bm_init 94 = .ok (.iconst 4, 1) := by decide +kernel
theorem dm_init_95 : decode bm_init 95 = .ok (.ldc2_w 40, 3) := by decide +kernel
theorem dm_init_98 : decode bm_init 98 = .ok (.lastore, 1) := by decide +kernel
theorem dm_init_99 : decode bm_init 99 = .ok (.dup, 1) := by decide +kernel
theorem dm_init_100 : decode bm_init 100 = .ok (.iconst 5, 1) := by decide +kernel
theorem dm_init_101 : decode bm_init 101 = .ok (.ldc2_w 42, 3) := by decide +kernel
theorem dm_init_104 : decode bm_init 104 = .ok (.lastore, 1) := by decide +kernel
theorem dm_init_105 : decode bm_init 105 = .ok (.putfield 44, 3) := by decide +kernel
theorem dm_init_108 : decode bm_init 108 = .ok (.aload_n 0, 1) := by decide +kernel
theorem dm_init_109 : decode bm_init 109 = .ok (.bipush 16, 2) := by decide +kernel
theorem dm_init_111 : decode bm_init 111 = .ok (.newarray .int, 2) := by decide +kernel
theorem dm_init_113 : decode bm_init 113 = .ok (.putfield 47, 3) := by decide +kernel
theorem dm_init_116 : decode bm_init 116 = .ok (.iconst 0, 1) := by decide +kernel
theorem dm_init_117 : decode bm_init 117 = .ok (.istore_n 1, 1) := by decide +kernel
theorem dm_init_118 : decode bm_init 118 = .ok (.iload_n 1, 1) := by decide +kernel
theorem dm_init_119 : decode bm_init 119 = .ok (.bipush 8, 2) := by decide +kernel
theorem dm_init_121 : decode bm_init 121 = .ok (.if_icmp .ge 16, 3) := by decide +kernel
theorem dm_init_124 : decode bm_init 124 = .ok (.aload_n 0, 1) := by decide +kernel
theorem dm_init_125 : decode bm_init 125 = .ok (.getfield 13, 3) := by decide +kernel
theorem dm_init_128 : decode bm_init 128 = .ok (.iload_n 1, 1) := by decide +kernel
theorem dm_init_129 : decode bm_init 129 = .ok (.iload_n 1, 1) := by decide +kernel
theorem dm_init_130 : decode bm_init 130 = .ok (.iastore, 1) := by decide +kernel
theorem dm_init_131 : decode bm_init 131 = .ok (.iinc 1 1, 3) := by decide +kernel
theorem dm_init_134 : decode bm_init 134 = .ok (.goto (-16), 3) := by decide +kernel
theorem dm_init_137 : decode bm_init 137 = .ok (.return_, 1) := by decide +kernel
abbrev i9_D (cI cZ : ClassId) (f : Nat → Nat) (r1 r2 r3 : Nat → Int32) : va_W := [(f 1, .inr (1, [.ref (f 2), .ref (f 3), .ref (f 4), .ref (f 5), .ref (f 6), .ref (f 7), .ref (f 8), .ref (f 9), .ref (f 10), .int 0, .int 2, .int 2])), (f 2, .inl (cI, 20, .inl (fun _ => 0))), (f 3, .inl (cI, 8, .inl r1)), (f 4, .inl (cI, 9, .inl r2)), (f 5, .inl (cI, 2048, .inl r3)), (f 6, .inl (cI, 2048, .inl (fun _ => 0))), (f 7, .inl (cI, 2048, .inl (fun _ => 0))), (f 8, .inl (cI, 2048, .inl (fun _ => 0))), (f 9, .inl (cI, 256, .inl (fun _ => 0))), (f 10, .inl (cZ, 2048, .inl (fun _ => 0)))]
abbrev i9_M (cI cJ : ClassId) (f : Nat → Nat) (r0 : Nat → Int32) (mk : Nat → Int64) : va_W := [(f 11, .inr (2, [.int 0, .ref (f 18), .ref (f 12), .ref (f 13), .ref (f 19), .int 0, .ref (f 14), .int 0, .ref (f 15), .int 0, .ref (f 16), .ref (f 20), .ref (f 17)])), (f 18, .inl (cJ, 72, .inr (.inl (fun _ => 0)))), (f 12, .inl (cI, 8, .inl r0)), (f 13, .inl (cI, 8, .inl (fun _ => 0))), (f 19, .inl (cJ, 16000, .inr (.inl (fun _ => 0)))), (f 14, .inl (cI, 4000, .inl (fun _ => 0))), (f 15, .inl (cI, 4000, .inl (fun _ => 0))), (f 16, .inl (cI, 4000, .inl (fun _ => 0))), (f 20, .inl (cJ, 6, .inr (.inl mk))), (f 17, .inl (cI, 16, .inl (fun _ => 0)))]
abbrev i9_ty (cI cZ cJ : ClassId) : List (ClassId × FieldType) := [(cI, .int), (cZ, .boolean), (cJ, .long)]
abbrev i9_nD : List Value := [.null, .null, .null, .null, .null, .null, .null, .null, .null, .int 0, .int 0, .int 0]
abbrev i9_nM : List Value := [.int 0, .null, .null, .null, .null, .int 0, .null, .int 0, .null, .int 0, .null, .null, .null]
def i9_Pc (h0 sz ci : Nat) (fs : List Value) (G : va_G) (tys : List (ClassId × FieldType)) : Array Value → State → Prop := va_Pc [.ref h0] (fun U => U.heap.size = sz ∧ va_P G wt_cl [(h0, .inr (ci, fs))] U.heap ∧ va_K G wt_cl tys U ∧ va_D (fun _ => True) [(h0, .inr (ci, fs))])
theorem i9_bl {h0 sz ci : Nat} {fs : List Value} {G : va_G} {tys : List (ClassId × FieldType)} : FrameBlind (i9_Pc h0 sz ci fs G tys) := fun a U g mk q => by
  obtain ⟨q0, q1, qP, qK, qD⟩ := q
  exact ⟨q0, q1, qP, va_K.moved (u := U) (U := U.calling g mk a) (Vm.Alike.refl U.vm) qK, qD⟩
set_option maxHeartbeats 4000000 in
set_option maxRecDepth 100000 in
theorem c_D (l : Launch) (G : va_G) (cI cZ cJ : ClassId) (h0 sz : Nat) : Met l yd_init (Cond.code yd_init bd_init 2 none :: wt_WS) { frames := 2, cells := 9, slots := 10533, locals := 128 } (i9_Pc h0 sz 1 i9_nD G (i9_ty cI cZ cJ)) (va_Qv (fun f : Nat → Nat => f 1 = h0) (fun f t => va_P G wt_cl (i9_D cI cZ f i0_id i0_lv i0_lb) t.heap ∧ va_D (va_A [(h0, .inr (1, i9_nD))] sz) (i9_D cI cZ f i0_id i0_lv i0_lb)) (va_A [(h0, .inr (1, i9_nD))] sz)) 9 10533 (va_A [(h0, .inr (1, i9_nD))] sz) := by
  refine Met.ofW (cc := bd_init) (maxL := 2) (ret := none) (by decide) rfl ?_
  intro p e s m args below meth c s₁ B hml hv
  obtain ⟨rfl, hsz, hP, hK, hD0⟩ := hv
  have hx := B.exec
  have hb := B.bytes
  have hr := B.returns
  have hts : ∀ w ∈ wt_WS, w.before ([Value.ref h0] : List Value).toArray s = true := fun w hw => atoms_spec (ws := Cond.code yd_init bd_init 2 none :: wt_WS) B.pre w (List.mem_cons_of_mem _ hw)
  have hown : s.vm.findClass R_D = some m.cls := findClass_of_methodNamed B.named
  have hlocks := B.notSynchronized
  have hin : meth.name = "<init>" := (name_of_methodNamed B.named B.method).1
  subst hsz
  have hD := hD0.self (sz := s.heap.size)
  generalize hAe : va_A [(h0, .inr (1, i9_nD))] s.heap.size = A at hD ⊢
  have hA : ∀ q : Nat, s.heap.size ≤ q → A q := fun q h => by rw [← hAe]; exact Or.inr h
  have hS : va_S A s.heap s.heap [] := va_S.rf
  have hl := lv_entry ([.ref h0]) (n := 2) (Nat.le_of_ble_eq_true rfl)
  rw [lg_entry_eq]
  generalize (lg_sl ([.ref h0]) ++ List.replicate (2 - (lg_sl ([.ref h0])).length) Slot.unset).toArray = ls at hl ⊢
  have hl : lv_has ls 2 [(0, .ref h0)] := hl
  refine lv_aload_n hx hb dd_init_0 rfl (lv_at hl 0 rfl) ?_
  refine W.objInit hx hb hown (hts _ mo_D) (hts _ mo_n) (hts _ mo_c) rfl (by rw [hml]; exact hl.1) rfl dd_init_1 (Nat.le_of_ble_eq_true rfl) (Nat.le_of_ble_eq_true rfl) ?_
  refine W.eq (g2 := F0 m 4 ls []) rfl ?_
  have hP : va_P G wt_cl [(h0, .inr (1, [.null, .null, .null, .null, .null, .null, .null, .null, .null, .int 0, .int 0, .int 0]))] s.heap := hP
  have hD : va_D A [(h0, .inr (1, [.null, .null, .null, .null, .null, .null, .null, .null, .null, .int 0, .int 0, .int 0]))] := hD
  refine lv_aload_n hx hb dd_init_4 rfl (lv_at hl 0 rfl) ?_
  refine lv_bipush hx hb dd_init_5 kb_20 ?_
  refine nw_a (atype := .int) (ty := .int) (N' := 20) (a0 := (20, .inl (fun _ => 0))) hx hb (hts _ ma_int) rfl hK 0 rfl (fun _ h => h) hP hD hS hA (fun _ => rfl) (by decide) (by decide) (by decide) (Nat.le_of_ble_eq_true rfl) (Nat.le_of_ble_eq_true rfl) dd_init_7 (fun q2 H hP hD hS => ?_)
  have hP : va_P G wt_cl [(h0, .inr (1, [.null, .null, .null, .null, .null, .null, .null, .null, .null, .int 0, .int 0, .int 0])), (q2, .inl (cI, 20, .inl (fun _ => 0)))] H := hP
  have hD : va_D A [(h0, .inr (1, [.null, .null, .null, .null, .null, .null, .null, .null, .null, .int 0, .int 0, .int 0])), (q2, .inl (cI, 20, .inl (fun _ => 0)))] := hD
  refine W.widen (k := 1) (n := 20) (by omega) (by omega) ?_
  refine va_putF (D := G) (ci := 1) (v := .ref q2) (ty := .array .int) (C := R_D) (T := F_D) (N := 12) hx hb hts in_D ty_D ty_D_ok nm_D hown hK hP hD hS 0 rfl rfl 0 (by decide) (hts _ lf_D_roots) (fun _ h9 => h9) rfl hin rfl (by decide +kernel) rfl rfl (Nat.le_of_ble_eq_true rfl) dd_init_9 (fun H locs hP hD hS => ?_)
  have hP : va_P G wt_cl [(h0, .inr (1, [.ref q2, .null, .null, .null, .null, .null, .null, .null, .null, .int 0, .int 0, .int 0])), (q2, .inl (cI, 20, .inl (fun _ => 0)))] H := hP
  have hD : va_D A [(h0, .inr (1, [.ref q2, .null, .null, .null, .null, .null, .null, .null, .null, .int 0, .int 0, .int 0])), (q2, .inl (cI, 20, .inl (fun _ => 0)))] := hD
  refine lv_aload_n hx hb dd_init_12 rfl (lv_at hl 0 rfl) ?_
  refine lv_bipush hx hb dd_init_13 kb_8 ?_
  refine nw_a (atype := .int) (ty := .int) (N' := 8) (a0 := (8, .inl (fun _ => 0))) hx hb (hts _ ma_int) rfl hK 0 rfl (fun _ h => h) hP hD hS hA (fun _ => rfl) (by decide) (by decide) (by decide) (Nat.le_of_ble_eq_true rfl) (Nat.le_of_ble_eq_true rfl) dd_init_15 (fun q3 H hP hD hS => ?_)
  have hP : va_P G wt_cl [(h0, .inr (1, [.ref q2, .null, .null, .null, .null, .null, .null, .null, .null, .int 0, .int 0, .int 0])), (q2, .inl (cI, 20, .inl (fun _ => 0))), (q3, .inl (cI, 8, .inl (fun _ => 0)))] H := hP
  have hD : va_D A [(h0, .inr (1, [.ref q2, .null, .null, .null, .null, .null, .null, .null, .null, .int 0, .int 0, .int 0])), (q2, .inl (cI, 20, .inl (fun _ => 0))), (q3, .inl (cI, 8, .inl (fun _ => 0)))] := hD
  refine W.widen (k := 2) (n := 28) (by omega) (by omega) ?_
  refine va_putF (D := G) (ci := 1) (v := .ref q3) (ty := .array .int) (C := R_D) (T := F_D) (N := 12) hx hb hts in_D ty_D ty_D_ok nm_D hown hK hP hD hS 0 rfl rfl 1 (by decide) (hts _ lf_D_atLevel) (fun _ h9 => h9) rfl hin rfl (by decide +kernel) rfl rfl (Nat.le_of_ble_eq_true rfl) dd_init_17 (fun H locs hP hD hS => ?_)
  have hP : va_P G wt_cl [(h0, .inr (1, [.ref q2, .ref q3, .null, .null, .null, .null, .null, .null, .null, .int 0, .int 0, .int 0])), (q2, .inl (cI, 20, .inl (fun _ => 0))), (q3, .inl (cI, 8, .inl (fun _ => 0)))] H := hP
  have hD : va_D A [(h0, .inr (1, [.ref q2, .ref q3, .null, .null, .null, .null, .null, .null, .null, .int 0, .int 0, .int 0])), (q2, .inl (cI, 20, .inl (fun _ => 0))), (q3, .inl (cI, 8, .inl (fun _ => 0)))] := hD
  refine lv_aload_n hx hb dd_init_20 rfl (lv_at hl 0 rfl) ?_
  refine lv_bipush hx hb dd_init_21 kb_9 ?_
  refine nw_a (atype := .int) (ty := .int) (N' := 9) (a0 := (9, .inl (fun _ => 0))) hx hb (hts _ ma_int) rfl hK 0 rfl (fun _ h => h) hP hD hS hA (fun _ => rfl) (by decide) (by decide) (by decide) (Nat.le_of_ble_eq_true rfl) (Nat.le_of_ble_eq_true rfl) dd_init_23 (fun q4 H hP hD hS => ?_)
  have hP : va_P G wt_cl [(h0, .inr (1, [.ref q2, .ref q3, .null, .null, .null, .null, .null, .null, .null, .int 0, .int 0, .int 0])), (q2, .inl (cI, 20, .inl (fun _ => 0))), (q3, .inl (cI, 8, .inl (fun _ => 0))), (q4, .inl (cI, 9, .inl (fun _ => 0)))] H := hP
  have hD : va_D A [(h0, .inr (1, [.ref q2, .ref q3, .null, .null, .null, .null, .null, .null, .null, .int 0, .int 0, .int 0])), (q2, .inl (cI, 20, .inl (fun _ => 0))), (q3, .inl (cI, 8, .inl (fun _ => 0))), (q4, .inl (cI, 9, .inl (fun _ => 0)))] := hD
  refine W.widen (k := 3) (n := 37) (by omega) (by omega) ?_
  refine va_putF (D := G) (ci := 1) (v := .ref q4) (ty := .array .int) (C := R_D) (T := F_D) (N := 12) hx hb hts in_D ty_D ty_D_ok nm_D hown hK hP hD hS 0 rfl rfl 2 (by decide) (hts _ lf_D_levelOf) (fun _ h9 => h9) rfl hin rfl (by decide +kernel) rfl rfl (Nat.le_of_ble_eq_true rfl) dd_init_25 (fun H locs hP hD hS => ?_)
  have hP : va_P G wt_cl [(h0, .inr (1, [.ref q2, .ref q3, .ref q4, .null, .null, .null, .null, .null, .null, .int 0, .int 0, .int 0])), (q2, .inl (cI, 20, .inl (fun _ => 0))), (q3, .inl (cI, 8, .inl (fun _ => 0))), (q4, .inl (cI, 9, .inl (fun _ => 0)))] H := hP
  have hD : va_D A [(h0, .inr (1, [.ref q2, .ref q3, .ref q4, .null, .null, .null, .null, .null, .null, .int 0, .int 0, .int 0])), (q2, .inl (cI, 20, .inl (fun _ => 0))), (q3, .inl (cI, 8, .inl (fun _ => 0))), (q4, .inl (cI, 9, .inl (fun _ => 0)))] := hD
  refine lv_aload_n hx hb dd_init_28 rfl (lv_at hl 0 rfl) ?_
  refine lv_sipush hx hb dd_init_29 ks_2048 ?_
  refine nw_a (atype := .int) (ty := .int) (N' := 2048) (a0 := (2048, .inl (fun _ => 0))) hx hb (hts _ ma_int) rfl hK 0 rfl (fun _ h => h) hP hD hS hA (fun _ => rfl) (by decide) (by decide) (by decide) (Nat.le_of_ble_eq_true rfl) (Nat.le_of_ble_eq_true rfl) dd_init_32 (fun q5 H hP hD hS => ?_)
  have hP : va_P G wt_cl [(h0, .inr (1, [.ref q2, .ref q3, .ref q4, .null, .null, .null, .null, .null, .null, .int 0, .int 0, .int 0])), (q2, .inl (cI, 20, .inl (fun _ => 0))), (q3, .inl (cI, 8, .inl (fun _ => 0))), (q4, .inl (cI, 9, .inl (fun _ => 0))), (q5, .inl (cI, 2048, .inl (fun _ => 0)))] H := hP
  have hD : va_D A [(h0, .inr (1, [.ref q2, .ref q3, .ref q4, .null, .null, .null, .null, .null, .null, .int 0, .int 0, .int 0])), (q2, .inl (cI, 20, .inl (fun _ => 0))), (q3, .inl (cI, 8, .inl (fun _ => 0))), (q4, .inl (cI, 9, .inl (fun _ => 0))), (q5, .inl (cI, 2048, .inl (fun _ => 0)))] := hD
  refine W.widen (k := 4) (n := 2085) (by omega) (by omega) ?_
  refine va_putF (D := G) (ci := 1) (v := .ref q5) (ty := .array .int) (C := R_D) (T := F_D) (N := 12) hx hb hts in_D ty_D ty_D_ok nm_D hown hK hP hD hS 0 rfl rfl 3 (by decide) (hts _ lf_D_label) (fun _ h9 => h9) rfl hin rfl (by decide +kernel) rfl rfl (Nat.le_of_ble_eq_true rfl) dd_init_34 (fun H locs hP hD hS => ?_)
  have hP : va_P G wt_cl [(h0, .inr (1, [.ref q2, .ref q3, .ref q4, .ref q5, .null, .null, .null, .null, .null, .int 0, .int 0, .int 0])), (q2, .inl (cI, 20, .inl (fun _ => 0))), (q3, .inl (cI, 8, .inl (fun _ => 0))), (q4, .inl (cI, 9, .inl (fun _ => 0))), (q5, .inl (cI, 2048, .inl (fun _ => 0)))] H := hP
  have hD : va_D A [(h0, .inr (1, [.ref q2, .ref q3, .ref q4, .ref q5, .null, .null, .null, .null, .null, .int 0, .int 0, .int 0])), (q2, .inl (cI, 20, .inl (fun _ => 0))), (q3, .inl (cI, 8, .inl (fun _ => 0))), (q4, .inl (cI, 9, .inl (fun _ => 0))), (q5, .inl (cI, 2048, .inl (fun _ => 0)))] := hD
  refine lv_aload_n hx hb dd_init_37 rfl (lv_at hl 0 rfl) ?_
  refine lv_sipush hx hb dd_init_38 ks_2048 ?_
  refine nw_a (atype := .int) (ty := .int) (N' := 2048) (a0 := (2048, .inl (fun _ => 0))) hx hb (hts _ ma_int) rfl hK 0 rfl (fun _ h => h) hP hD hS hA (fun _ => rfl) (by decide) (by decide) (by decide) (Nat.le_of_ble_eq_true rfl) (Nat.le_of_ble_eq_true rfl) dd_init_41 (fun q6 H hP hD hS => ?_)
  have hP : va_P G wt_cl [(h0, .inr (1, [.ref q2, .ref q3, .ref q4, .ref q5, .null, .null, .null, .null, .null, .int 0, .int 0, .int 0])), (q2, .inl (cI, 20, .inl (fun _ => 0))), (q3, .inl (cI, 8, .inl (fun _ => 0))), (q4, .inl (cI, 9, .inl (fun _ => 0))), (q5, .inl (cI, 2048, .inl (fun _ => 0))), (q6, .inl (cI, 2048, .inl (fun _ => 0)))] H := hP
  have hD : va_D A [(h0, .inr (1, [.ref q2, .ref q3, .ref q4, .ref q5, .null, .null, .null, .null, .null, .int 0, .int 0, .int 0])), (q2, .inl (cI, 20, .inl (fun _ => 0))), (q3, .inl (cI, 8, .inl (fun _ => 0))), (q4, .inl (cI, 9, .inl (fun _ => 0))), (q5, .inl (cI, 2048, .inl (fun _ => 0))), (q6, .inl (cI, 2048, .inl (fun _ => 0)))] := hD
  refine W.widen (k := 5) (n := 4133) (by omega) (by omega) ?_
  refine va_putF (D := G) (ci := 1) (v := .ref q6) (ty := .array .int) (C := R_D) (T := F_D) (N := 12) hx hb hts in_D ty_D ty_D_ok nm_D hown hK hP hD hS 0 rfl rfl 4 (by decide) (hts _ lf_D_low) (fun _ h9 => h9) rfl hin rfl (by decide +kernel) rfl rfl (Nat.le_of_ble_eq_true rfl) dd_init_43 (fun H locs hP hD hS => ?_)
  have hP : va_P G wt_cl [(h0, .inr (1, [.ref q2, .ref q3, .ref q4, .ref q5, .ref q6, .null, .null, .null, .null, .int 0, .int 0, .int 0])), (q2, .inl (cI, 20, .inl (fun _ => 0))), (q3, .inl (cI, 8, .inl (fun _ => 0))), (q4, .inl (cI, 9, .inl (fun _ => 0))), (q5, .inl (cI, 2048, .inl (fun _ => 0))), (q6, .inl (cI, 2048, .inl (fun _ => 0)))] H := hP
  have hD : va_D A [(h0, .inr (1, [.ref q2, .ref q3, .ref q4, .ref q5, .ref q6, .null, .null, .null, .null, .int 0, .int 0, .int 0])), (q2, .inl (cI, 20, .inl (fun _ => 0))), (q3, .inl (cI, 8, .inl (fun _ => 0))), (q4, .inl (cI, 9, .inl (fun _ => 0))), (q5, .inl (cI, 2048, .inl (fun _ => 0))), (q6, .inl (cI, 2048, .inl (fun _ => 0)))] := hD
  refine lv_aload_n hx hb dd_init_46 rfl (lv_at hl 0 rfl) ?_
  refine lv_sipush hx hb dd_init_47 ks_2048 ?_
  refine nw_a (atype := .int) (ty := .int) (N' := 2048) (a0 := (2048, .inl (fun _ => 0))) hx hb (hts _ ma_int) rfl hK 0 rfl (fun _ h => h) hP hD hS hA (fun _ => rfl) (by decide) (by decide) (by decide) (Nat.le_of_ble_eq_true rfl) (Nat.le_of_ble_eq_true rfl) dd_init_50 (fun q7 H hP hD hS => ?_)
  have hP : va_P G wt_cl [(h0, .inr (1, [.ref q2, .ref q3, .ref q4, .ref q5, .ref q6, .null, .null, .null, .null, .int 0, .int 0, .int 0])), (q2, .inl (cI, 20, .inl (fun _ => 0))), (q3, .inl (cI, 8, .inl (fun _ => 0))), (q4, .inl (cI, 9, .inl (fun _ => 0))), (q5, .inl (cI, 2048, .inl (fun _ => 0))), (q6, .inl (cI, 2048, .inl (fun _ => 0))), (q7, .inl (cI, 2048, .inl (fun _ => 0)))] H := hP
  have hD : va_D A [(h0, .inr (1, [.ref q2, .ref q3, .ref q4, .ref q5, .ref q6, .null, .null, .null, .null, .int 0, .int 0, .int 0])), (q2, .inl (cI, 20, .inl (fun _ => 0))), (q3, .inl (cI, 8, .inl (fun _ => 0))), (q4, .inl (cI, 9, .inl (fun _ => 0))), (q5, .inl (cI, 2048, .inl (fun _ => 0))), (q6, .inl (cI, 2048, .inl (fun _ => 0))), (q7, .inl (cI, 2048, .inl (fun _ => 0)))] := hD
  refine W.widen (k := 6) (n := 6181) (by omega) (by omega) ?_
  refine va_putF (D := G) (ci := 1) (v := .ref q7) (ty := .array .int) (C := R_D) (T := F_D) (N := 12) hx hb hts in_D ty_D ty_D_ok nm_D hown hK hP hD hS 0 rfl rfl 5 (by decide) (hts _ lf_D_high) (fun _ h9 => h9) rfl hin rfl (by decide +kernel) rfl rfl (Nat.le_of_ble_eq_true rfl) dd_init_52 (fun H locs hP hD hS => ?_)
  have hP : va_P G wt_cl [(h0, .inr (1, [.ref q2, .ref q3, .ref q4, .ref q5, .ref q6, .ref q7, .null, .null, .null, .int 0, .int 0, .int 0])), (q2, .inl (cI, 20, .inl (fun _ => 0))), (q3, .inl (cI, 8, .inl (fun _ => 0))), (q4, .inl (cI, 9, .inl (fun _ => 0))), (q5, .inl (cI, 2048, .inl (fun _ => 0))), (q6, .inl (cI, 2048, .inl (fun _ => 0))), (q7, .inl (cI, 2048, .inl (fun _ => 0)))] H := hP
  have hD : va_D A [(h0, .inr (1, [.ref q2, .ref q3, .ref q4, .ref q5, .ref q6, .ref q7, .null, .null, .null, .int 0, .int 0, .int 0])), (q2, .inl (cI, 20, .inl (fun _ => 0))), (q3, .inl (cI, 8, .inl (fun _ => 0))), (q4, .inl (cI, 9, .inl (fun _ => 0))), (q5, .inl (cI, 2048, .inl (fun _ => 0))), (q6, .inl (cI, 2048, .inl (fun _ => 0))), (q7, .inl (cI, 2048, .inl (fun _ => 0)))] := hD
  refine lv_aload_n hx hb dd_init_55 rfl (lv_at hl 0 rfl) ?_
  refine lv_sipush hx hb dd_init_56 ks_2048 ?_
  refine nw_a (atype := .int) (ty := .int) (N' := 2048) (a0 := (2048, .inl (fun _ => 0))) hx hb (hts _ ma_int) rfl hK 0 rfl (fun _ h => h) hP hD hS hA (fun _ => rfl) (by decide) (by decide) (by decide) (Nat.le_of_ble_eq_true rfl) (Nat.le_of_ble_eq_true rfl) dd_init_59 (fun q8 H hP hD hS => ?_)
  have hP : va_P G wt_cl [(h0, .inr (1, [.ref q2, .ref q3, .ref q4, .ref q5, .ref q6, .ref q7, .null, .null, .null, .int 0, .int 0, .int 0])), (q2, .inl (cI, 20, .inl (fun _ => 0))), (q3, .inl (cI, 8, .inl (fun _ => 0))), (q4, .inl (cI, 9, .inl (fun _ => 0))), (q5, .inl (cI, 2048, .inl (fun _ => 0))), (q6, .inl (cI, 2048, .inl (fun _ => 0))), (q7, .inl (cI, 2048, .inl (fun _ => 0))), (q8, .inl (cI, 2048, .inl (fun _ => 0)))] H := hP
  have hD : va_D A [(h0, .inr (1, [.ref q2, .ref q3, .ref q4, .ref q5, .ref q6, .ref q7, .null, .null, .null, .int 0, .int 0, .int 0])), (q2, .inl (cI, 20, .inl (fun _ => 0))), (q3, .inl (cI, 8, .inl (fun _ => 0))), (q4, .inl (cI, 9, .inl (fun _ => 0))), (q5, .inl (cI, 2048, .inl (fun _ => 0))), (q6, .inl (cI, 2048, .inl (fun _ => 0))), (q7, .inl (cI, 2048, .inl (fun _ => 0))), (q8, .inl (cI, 2048, .inl (fun _ => 0)))] := hD
  refine W.widen (k := 7) (n := 8229) (by omega) (by omega) ?_
  refine va_putF (D := G) (ci := 1) (v := .ref q8) (ty := .array .int) (C := R_D) (T := F_D) (N := 12) hx hb hts in_D ty_D ty_D_ok nm_D hown hK hP hD hS 0 rfl rfl 6 (by decide) (hts _ lf_D_next) (fun _ h9 => h9) rfl hin rfl (by decide +kernel) rfl rfl (Nat.le_of_ble_eq_true rfl) dd_init_61 (fun H locs hP hD hS => ?_)
  have hP : va_P G wt_cl [(h0, .inr (1, [.ref q2, .ref q3, .ref q4, .ref q5, .ref q6, .ref q7, .ref q8, .null, .null, .int 0, .int 0, .int 0])), (q2, .inl (cI, 20, .inl (fun _ => 0))), (q3, .inl (cI, 8, .inl (fun _ => 0))), (q4, .inl (cI, 9, .inl (fun _ => 0))), (q5, .inl (cI, 2048, .inl (fun _ => 0))), (q6, .inl (cI, 2048, .inl (fun _ => 0))), (q7, .inl (cI, 2048, .inl (fun _ => 0))), (q8, .inl (cI, 2048, .inl (fun _ => 0)))] H := hP
  have hD : va_D A [(h0, .inr (1, [.ref q2, .ref q3, .ref q4, .ref q5, .ref q6, .ref q7, .ref q8, .null, .null, .int 0, .int 0, .int 0])), (q2, .inl (cI, 20, .inl (fun _ => 0))), (q3, .inl (cI, 8, .inl (fun _ => 0))), (q4, .inl (cI, 9, .inl (fun _ => 0))), (q5, .inl (cI, 2048, .inl (fun _ => 0))), (q6, .inl (cI, 2048, .inl (fun _ => 0))), (q7, .inl (cI, 2048, .inl (fun _ => 0))), (q8, .inl (cI, 2048, .inl (fun _ => 0)))] := hD
  refine lv_aload_n hx hb dd_init_64 rfl (lv_at hl 0 rfl) ?_
  refine lv_sipush hx hb dd_init_65 ks_256 ?_
  refine nw_a (atype := .int) (ty := .int) (N' := 256) (a0 := (256, .inl (fun _ => 0))) hx hb (hts _ ma_int) rfl hK 0 rfl (fun _ h => h) hP hD hS hA (fun _ => rfl) (by decide) (by decide) (by decide) (Nat.le_of_ble_eq_true rfl) (Nat.le_of_ble_eq_true rfl) dd_init_68 (fun q9 H hP hD hS => ?_)
  have hP : va_P G wt_cl [(h0, .inr (1, [.ref q2, .ref q3, .ref q4, .ref q5, .ref q6, .ref q7, .ref q8, .null, .null, .int 0, .int 0, .int 0])), (q2, .inl (cI, 20, .inl (fun _ => 0))), (q3, .inl (cI, 8, .inl (fun _ => 0))), (q4, .inl (cI, 9, .inl (fun _ => 0))), (q5, .inl (cI, 2048, .inl (fun _ => 0))), (q6, .inl (cI, 2048, .inl (fun _ => 0))), (q7, .inl (cI, 2048, .inl (fun _ => 0))), (q8, .inl (cI, 2048, .inl (fun _ => 0))), (q9, .inl (cI, 256, .inl (fun _ => 0)))] H := hP
  have hD : va_D A [(h0, .inr (1, [.ref q2, .ref q3, .ref q4, .ref q5, .ref q6, .ref q7, .ref q8, .null, .null, .int 0, .int 0, .int 0])), (q2, .inl (cI, 20, .inl (fun _ => 0))), (q3, .inl (cI, 8, .inl (fun _ => 0))), (q4, .inl (cI, 9, .inl (fun _ => 0))), (q5, .inl (cI, 2048, .inl (fun _ => 0))), (q6, .inl (cI, 2048, .inl (fun _ => 0))), (q7, .inl (cI, 2048, .inl (fun _ => 0))), (q8, .inl (cI, 2048, .inl (fun _ => 0))), (q9, .inl (cI, 256, .inl (fun _ => 0)))] := hD
  refine W.widen (k := 8) (n := 8485) (by omega) (by omega) ?_
  refine va_putF (D := G) (ci := 1) (v := .ref q9) (ty := .array .int) (C := R_D) (T := F_D) (N := 12) hx hb hts in_D ty_D ty_D_ok nm_D hown hK hP hD hS 0 rfl rfl 7 (by decide) (hts _ lf_D_heads) (fun _ h9 => h9) rfl hin rfl (by decide +kernel) rfl rfl (Nat.le_of_ble_eq_true rfl) dd_init_70 (fun H locs hP hD hS => ?_)
  have hP : va_P G wt_cl [(h0, .inr (1, [.ref q2, .ref q3, .ref q4, .ref q5, .ref q6, .ref q7, .ref q8, .ref q9, .null, .int 0, .int 0, .int 0])), (q2, .inl (cI, 20, .inl (fun _ => 0))), (q3, .inl (cI, 8, .inl (fun _ => 0))), (q4, .inl (cI, 9, .inl (fun _ => 0))), (q5, .inl (cI, 2048, .inl (fun _ => 0))), (q6, .inl (cI, 2048, .inl (fun _ => 0))), (q7, .inl (cI, 2048, .inl (fun _ => 0))), (q8, .inl (cI, 2048, .inl (fun _ => 0))), (q9, .inl (cI, 256, .inl (fun _ => 0)))] H := hP
  have hD : va_D A [(h0, .inr (1, [.ref q2, .ref q3, .ref q4, .ref q5, .ref q6, .ref q7, .ref q8, .ref q9, .null, .int 0, .int 0, .int 0])), (q2, .inl (cI, 20, .inl (fun _ => 0))), (q3, .inl (cI, 8, .inl (fun _ => 0))), (q4, .inl (cI, 9, .inl (fun _ => 0))), (q5, .inl (cI, 2048, .inl (fun _ => 0))), (q6, .inl (cI, 2048, .inl (fun _ => 0))), (q7, .inl (cI, 2048, .inl (fun _ => 0))), (q8, .inl (cI, 2048, .inl (fun _ => 0))), (q9, .inl (cI, 256, .inl (fun _ => 0)))] := hD
  refine lv_aload_n hx hb dd_init_73 rfl (lv_at hl 0 rfl) ?_
  refine lv_sipush hx hb dd_init_74 ks_2048 ?_
  refine nw_a (atype := .boolean) (ty := .boolean) (N' := 2048) (a0 := (2048, .inl (fun _ => 0))) hx hb (hts _ ma_boolean) rfl hK 1 rfl (fun _ h => h) hP hD hS hA (fun _ => rfl) (by decide) (by decide) (by decide) (Nat.le_of_ble_eq_true rfl) (Nat.le_of_ble_eq_true rfl) dd_init_77 (fun q10 H hP hD hS => ?_)
  have hP : va_P G wt_cl [(h0, .inr (1, [.ref q2, .ref q3, .ref q4, .ref q5, .ref q6, .ref q7, .ref q8, .ref q9, .null, .int 0, .int 0, .int 0])), (q2, .inl (cI, 20, .inl (fun _ => 0))), (q3, .inl (cI, 8, .inl (fun _ => 0))), (q4, .inl (cI, 9, .inl (fun _ => 0))), (q5, .inl (cI, 2048, .inl (fun _ => 0))), (q6, .inl (cI, 2048, .inl (fun _ => 0))), (q7, .inl (cI, 2048, .inl (fun _ => 0))), (q8, .inl (cI, 2048, .inl (fun _ => 0))), (q9, .inl (cI, 256, .inl (fun _ => 0))), (q10, .inl (cZ, 2048, .inl (fun _ => 0)))] H := hP
  have hD : va_D A [(h0, .inr (1, [.ref q2, .ref q3, .ref q4, .ref q5, .ref q6, .ref q7, .ref q8, .ref q9, .null, .int 0, .int 0, .int 0])), (q2, .inl (cI, 20, .inl (fun _ => 0))), (q3, .inl (cI, 8, .inl (fun _ => 0))), (q4, .inl (cI, 9, .inl (fun _ => 0))), (q5, .inl (cI, 2048, .inl (fun _ => 0))), (q6, .inl (cI, 2048, .inl (fun _ => 0))), (q7, .inl (cI, 2048, .inl (fun _ => 0))), (q8, .inl (cI, 2048, .inl (fun _ => 0))), (q9, .inl (cI, 256, .inl (fun _ => 0))), (q10, .inl (cZ, 2048, .inl (fun _ => 0)))] := hD
  refine W.widen (k := 9) (n := 10533) (by omega) (by omega) ?_
  refine va_putF (D := G) (ci := 1) (v := .ref q10) (ty := .array .boolean) (C := R_D) (T := F_D) (N := 12) hx hb hts in_D ty_D ty_D_ok nm_D hown hK hP hD hS 0 rfl rfl 8 (by decide) (hts _ lf_D_marked) (fun _ h9 => h9) rfl hin rfl (by decide +kernel) rfl rfl (Nat.le_of_ble_eq_true rfl) dd_init_79 (fun H locs hP hD hS => ?_)
  have hP : va_P G wt_cl [(h0, .inr (1, [.ref q2, .ref q3, .ref q4, .ref q5, .ref q6, .ref q7, .ref q8, .ref q9, .ref q10, .int 0, .int 0, .int 0])), (q2, .inl (cI, 20, .inl (fun _ => 0))), (q3, .inl (cI, 8, .inl (fun _ => 0))), (q4, .inl (cI, 9, .inl (fun _ => 0))), (q5, .inl (cI, 2048, .inl (fun _ => 0))), (q6, .inl (cI, 2048, .inl (fun _ => 0))), (q7, .inl (cI, 2048, .inl (fun _ => 0))), (q8, .inl (cI, 2048, .inl (fun _ => 0))), (q9, .inl (cI, 256, .inl (fun _ => 0))), (q10, .inl (cZ, 2048, .inl (fun _ => 0)))] H := hP
  have hD : va_D A [(h0, .inr (1, [.ref q2, .ref q3, .ref q4, .ref q5, .ref q6, .ref q7, .ref q8, .ref q9, .ref q10, .int 0, .int 0, .int 0])), (q2, .inl (cI, 20, .inl (fun _ => 0))), (q3, .inl (cI, 8, .inl (fun _ => 0))), (q4, .inl (cI, 9, .inl (fun _ => 0))), (q5, .inl (cI, 2048, .inl (fun _ => 0))), (q6, .inl (cI, 2048, .inl (fun _ => 0))), (q7, .inl (cI, 2048, .inl (fun _ => 0))), (q8, .inl (cI, 2048, .inl (fun _ => 0))), (q9, .inl (cI, 256, .inl (fun _ => 0))), (q10, .inl (cZ, 2048, .inl (fun _ => 0)))] := hD
  refine lv_aload_n hx hb dd_init_82 rfl (lv_at hl 0 rfl) ?_
  refine lv_iconst hx hb dd_init_83 ki_0 ?_
  refine va_put (D := G) (ci := 1) (v := .int 0) (ty := .int) (C := R_D) (T := F_D) (N := 12) hx hb hts in_D ty_D ty_D_ok nm_D hown hK hP hD hS 0 rfl rfl 9 (by decide) (hts _ lf_D_live) (fun _ h9 => h9) rfl (by decide +kernel) rfl rfl (Nat.le_of_ble_eq_true rfl) dd_init_84 (fun H locs hP hD hS => ?_)
  have hP : va_P G wt_cl [(h0, .inr (1, [.ref q2, .ref q3, .ref q4, .ref q5, .ref q6, .ref q7, .ref q8, .ref q9, .ref q10, .int 0, .int 0, .int 0])), (q2, .inl (cI, 20, .inl (fun _ => 0))), (q3, .inl (cI, 8, .inl (fun _ => 0))), (q4, .inl (cI, 9, .inl (fun _ => 0))), (q5, .inl (cI, 2048, .inl (fun _ => 0))), (q6, .inl (cI, 2048, .inl (fun _ => 0))), (q7, .inl (cI, 2048, .inl (fun _ => 0))), (q8, .inl (cI, 2048, .inl (fun _ => 0))), (q9, .inl (cI, 256, .inl (fun _ => 0))), (q10, .inl (cZ, 2048, .inl (fun _ => 0)))] H := hP
  have hD : va_D A [(h0, .inr (1, [.ref q2, .ref q3, .ref q4, .ref q5, .ref q6, .ref q7, .ref q8, .ref q9, .ref q10, .int 0, .int 0, .int 0])), (q2, .inl (cI, 20, .inl (fun _ => 0))), (q3, .inl (cI, 8, .inl (fun _ => 0))), (q4, .inl (cI, 9, .inl (fun _ => 0))), (q5, .inl (cI, 2048, .inl (fun _ => 0))), (q6, .inl (cI, 2048, .inl (fun _ => 0))), (q7, .inl (cI, 2048, .inl (fun _ => 0))), (q8, .inl (cI, 2048, .inl (fun _ => 0))), (q9, .inl (cI, 256, .inl (fun _ => 0))), (q10, .inl (cZ, 2048, .inl (fun _ => 0)))] := hD
  refine lv_aload_n hx hb dd_init_87 rfl (lv_at hl 0 rfl) ?_
  refine lv_iconst hx hb dd_init_88 ki_2 ?_
  refine va_put (D := G) (ci := 1) (v := .int 2) (ty := .int) (C := R_D) (T := F_D) (N := 12) hx hb hts in_D ty_D ty_D_ok nm_D hown hK hP hD hS 0 rfl rfl 10 (by decide) (hts _ lf_D_end) (fun _ h9 => h9) rfl (by decide +kernel) rfl rfl (Nat.le_of_ble_eq_true rfl) dd_init_89 (fun H locs hP hD hS => ?_)
  have hP : va_P G wt_cl [(h0, .inr (1, [.ref q2, .ref q3, .ref q4, .ref q5, .ref q6, .ref q7, .ref q8, .ref q9, .ref q10, .int 0, .int 2, .int 0])), (q2, .inl (cI, 20, .inl (fun _ => 0))), (q3, .inl (cI, 8, .inl (fun _ => 0))), (q4, .inl (cI, 9, .inl (fun _ => 0))), (q5, .inl (cI, 2048, .inl (fun _ => 0))), (q6, .inl (cI, 2048, .inl (fun _ => 0))), (q7, .inl (cI, 2048, .inl (fun _ => 0))), (q8, .inl (cI, 2048, .inl (fun _ => 0))), (q9, .inl (cI, 256, .inl (fun _ => 0))), (q10, .inl (cZ, 2048, .inl (fun _ => 0)))] H := hP
  have hD : va_D A [(h0, .inr (1, [.ref q2, .ref q3, .ref q4, .ref q5, .ref q6, .ref q7, .ref q8, .ref q9, .ref q10, .int 0, .int 2, .int 0])), (q2, .inl (cI, 20, .inl (fun _ => 0))), (q3, .inl (cI, 8, .inl (fun _ => 0))), (q4, .inl (cI, 9, .inl (fun _ => 0))), (q5, .inl (cI, 2048, .inl (fun _ => 0))), (q6, .inl (cI, 2048, .inl (fun _ => 0))), (q7, .inl (cI, 2048, .inl (fun _ => 0))), (q8, .inl (cI, 2048, .inl (fun _ => 0))), (q9, .inl (cI, 256, .inl (fun _ => 0))), (q10, .inl (cZ, 2048, .inl (fun _ => 0)))] := hD
  refine lv_aload_n hx hb dd_init_92 rfl (lv_at hl 0 rfl) ?_
  refine lv_iconst hx hb dd_init_93 ki_2 ?_
  refine va_put (D := G) (ci := 1) (v := .int 2) (ty := .int) (C := R_D) (T := F_D) (N := 12) hx hb hts in_D ty_D ty_D_ok nm_D hown hK hP hD hS 0 rfl rfl 11 (by decide) (hts _ lf_D_cursor) (fun _ h9 => h9) rfl (by decide +kernel) rfl rfl (Nat.le_of_ble_eq_true rfl) dd_init_94 (fun H locs hP hD hS => ?_)
  have hP : va_P G wt_cl [(h0, .inr (1, [.ref q2, .ref q3, .ref q4, .ref q5, .ref q6, .ref q7, .ref q8, .ref q9, .ref q10, .int 0, .int 2, .int 2])), (q2, .inl (cI, 20, .inl (fun _ => 0))), (q3, .inl (cI, 8, .inl (fun _ => 0))), (q4, .inl (cI, 9, .inl (fun _ => 0))), (q5, .inl (cI, 2048, .inl (fun _ => 0))), (q6, .inl (cI, 2048, .inl (fun _ => 0))), (q7, .inl (cI, 2048, .inl (fun _ => 0))), (q8, .inl (cI, 2048, .inl (fun _ => 0))), (q9, .inl (cI, 256, .inl (fun _ => 0))), (q10, .inl (cZ, 2048, .inl (fun _ => 0)))] H := hP
  have hD : va_D A [(h0, .inr (1, [.ref q2, .ref q3, .ref q4, .ref q5, .ref q6, .ref q7, .ref q8, .ref q9, .ref q10, .int 0, .int 2, .int 2])), (q2, .inl (cI, 20, .inl (fun _ => 0))), (q3, .inl (cI, 8, .inl (fun _ => 0))), (q4, .inl (cI, 9, .inl (fun _ => 0))), (q5, .inl (cI, 2048, .inl (fun _ => 0))), (q6, .inl (cI, 2048, .inl (fun _ => 0))), (q7, .inl (cI, 2048, .inl (fun _ => 0))), (q8, .inl (cI, 2048, .inl (fun _ => 0))), (q9, .inl (cI, 256, .inl (fun _ => 0))), (q10, .inl (cZ, 2048, .inl (fun _ => 0)))] := hD
  have loop : ∀ (d k : Nat) (H : Heap) (locs : List Loc) (ls : Array Slot), k + d = 8 → va_P G wt_cl (i9_D cI cZ (fun k => match k with | 1 => h0 | 2 => q2 | 3 => q3 | 4 => q4 | 5 => q5 | 6 => q6 | 7 => q7 | 8 => q8 | 9 => q9 | _ => q10) (fun i => if i < k then nI i else 0) (fun i => if i < k then nI i else 0) (fun _ => 0)) H → va_D A (i9_D cI cZ (fun k => match k with | 1 => h0 | 2 => q2 | 3 => q3 | 4 => q4 | 5 => q5 | 6 => q6 | 7 => q7 | 8 => q8 | 9 => q9 | _ => q10) (fun i => if i < k then nI i else 0) (fun i => if i < k then nI i else 0) (fun _ => 0)) → va_S A s.heap H locs → lv_has ls 2 [(0, .ref h0), (1, .int (nI k))] →
      W p l e { frames := 2, cells := 9, slots := 10533, locals := 128 } s m ([Value.ref h0] : List Value).toArray below meth c H locs 9 10533 (MQ below (va_Qv (fun f : Nat → Nat => f 1 = h0) (fun f t => va_P G wt_cl (i9_D cI cZ f i0_id i0_lv i0_lb) t.heap ∧ va_D A (i9_D cI cZ f i0_id i0_lv i0_lb)) A) ([Value.ref h0] : List Value).toArray s 9 10533 A) (F0 m 99 ls []) := by
    intro d
    induction d with
    | zero =>
      intro k H locs ls hk hP hD hS hl
      have hk : k = 8 := by omega
      subst hk
      refine lv_iload_n hx hb dd_init_99 rfl (lv_at hl 1 rfl) ?_
      refine lv_bipush hx hb dd_init_100 kb_8 ?_
      refine lv_icmp_ge (tgt := 125) hx hb dd_init_102 rfl (fun _ => ?_) (fun hc => absurd (by decide : (8 : Int32) ≤ nI 8) hc)
      refine lv_aload_n hx hb dd_init_125 rfl (lv_at hl 0 rfl) ?_
      refine va_get (D := G) (ci := 1) (v := .ref q4) (C := R_D) (T := F_D) (N := 12) hx hb hts in_D hown hK hP 0 rfl rfl 2 (by decide) (hts _ lf_D_levelOf) (fun _ h9 => h9) rfl dd_init_126 ?_
      refine lv_bipush hx hb dd_init_129 kb_8 ?_
      refine lv_bipush hx hb dd_init_131 kb_8 ?_
      refine va_iast hx hb hK hP hD hS 3 0 (n := 9) (f := i0_id) rfl rfl (show ¬ ((8 : Int32) < 0 ∨ 9 ≤ (8 : Int32).toNatClampNeg) by decide) dd_init_133 (fun H locs hP hD hS => ?_)
      have hP : va_P G wt_cl (i9_D cI cZ (fun k => match k with | 1 => h0 | 2 => q2 | 3 => q3 | 4 => q4 | 5 => q5 | 6 => q6 | 7 => q7 | 8 => q8 | 9 => q9 | _ => q10) i0_id i0_lv (fun _ => 0)) H := hP
      have hD : va_D A (i9_D cI cZ (fun k => match k with | 1 => h0 | 2 => q2 | 3 => q3 | 4 => q4 | 5 => q5 | 6 => q6 | 7 => q7 | 8 => q8 | 9 => q9 | _ => q10) i0_id i0_lv (fun _ => 0)) := hD
      refine lv_aload_n hx hb dd_init_134 rfl (lv_at hl 0 rfl) ?_
      refine va_get (D := G) (ci := 1) (v := .ref q5) (C := R_D) (T := F_D) (N := 12) hx hb hts in_D hown hK hP 0 rfl rfl 3 (by decide) (hts _ lf_D_label) (fun _ h9 => h9) rfl dd_init_135 ?_
      refine lv_iconst hx hb dd_init_138 ki_m1 ?_
      have hF : ∀ q, i0_A (i9_D cI cZ (fun k => match k with | 1 => h0 | 2 => q2 | 3 => q3 | 4 => q4 | 5 => q5 | 6 => q6 | 7 => q7 | 8 => q8 | 9 => q9 | _ => q10) i0_id i0_lv (fun _ => 0)) q → A q := fun q ⟨k, e, h⟩ => hD.2 k _ h
      refine va_callv (va_runS (As := [.ref q5, .int (-1)]) (rest := []) ⟨hx, hb, hml, hown, hts⟩ (c_fill l G (i9_ty cI cZ cJ) (i9_D cI cZ (fun k => match k with | 1 => h0 | 2 => q2 | 3 => q3 | 4 => q4 | 5 => q5 | 6 => q6 | 7 => q7 | 8 => q8 | 9 => q9 | _ => q10) i0_id i0_lv (fun _ => 0)) 4 q5 cI (fun _ => 0) (-1) rfl rfl) ⟨callB_of 2 hts (wt_good mc_a_fill) rfl rfl rfl (hts _ mi_A) (hts _ ml_D_a_fill) ⟨by decide +kernel, by decide +kernel, by decide +kernel⟩ ⟨Nat.le_of_ble_eq_true rfl, Nat.le_of_ble_eq_true rfl⟩, hts _ ms_a_fill⟩ ⟨fun a U g mk q => by obtain ⟨z0, zP, zK, zD⟩ := q; exact ⟨z0, zP, va_K.moved (u := U) (U := U.calling g mk a) (Vm.Alike.refl U.vm) zK, zD⟩, fun U hU hW => ⟨rfl, by rw [hU]; exact hP, va_K.moved hW.alike hK, ⟨hD.1, fun k q hk => ⟨k, q.2, hk⟩⟩⟩⟩ rfl rfl hl.1 rfl (lv_room (Nat.le_of_ble_eq_true rfl)) dd_init_139 ⟨Nat.le_of_ble_eq_true rfl, Nat.le_of_ble_eq_true rfl⟩) hS (fun q _ h => hF q h) hF (fun u t H1 locs ht hvm _ hB hz1 hk1 hS => ?_)
      rw [ht] at hB
      have hP : va_P G wt_cl (i9_D cI cZ (fun k => match k with | 1 => h0 | 2 => q2 | 3 => q3 | 4 => q4 | 5 => q5 | 6 => q6 | 7 => q7 | 8 => q8 | 9 => q9 | _ => q10) i0_id i0_lv (fun i => if i < 2048 then -1 else 0)) H1 := hB
      have hD : va_D A (i9_D cI cZ (fun k => match k with | 1 => h0 | 2 => q2 | 3 => q3 | 4 => q4 | 5 => q5 | 6 => q6 | 7 => q7 | 8 => q8 | 9 => q9 | _ => q10) i0_id i0_lv (fun i => if i < 2048 then -1 else 0)) := (hD.set (p := 4) (e := .inl (cI, 2048, .inl (fun i => if i < 2048 then -1 else 0))) rfl :)
      generalize H1 = H at hP hS ⊢
      refine lv_aload_n hx hb dd_init_142 rfl (lv_at hl 0 rfl) ?_
      refine va_get (D := G) (ci := 1) (v := .ref q5) (C := R_D) (T := F_D) (N := 12) hx hb hts in_D hown hK hP 0 rfl rfl 3 (by decide) (hts _ lf_D_label) (fun _ h9 => h9) rfl dd_init_143 ?_
      refine lv_iconst hx hb dd_init_146 ki_0 ?_
      refine lv_bipush hx hb dd_init_147 kb_8 ?_
      refine va_iast hx hb hK hP hD hS 4 0 (n := 2048) (f := (fun i => if i < 2048 then -1 else 0)) rfl rfl (show ¬ ((0 : Int32) < 0 ∨ 2048 ≤ (0 : Int32).toNatClampNeg) by decide) dd_init_149 (fun H locs hP hD hS => ?_)
      have hP : va_P G wt_cl (i9_D cI cZ (fun k => match k with | 1 => h0 | 2 => q2 | 3 => q3 | 4 => q4 | 5 => q5 | 6 => q6 | 7 => q7 | 8 => q8 | 9 => q9 | _ => q10) i0_id i0_lv (upd (fun i => if i < 2048 then -1 else 0) 0 8)) H := hP
      have hD : va_D A (i9_D cI cZ (fun k => match k with | 1 => h0 | 2 => q2 | 3 => q3 | 4 => q4 | 5 => q5 | 6 => q6 | 7 => q7 | 8 => q8 | 9 => q9 | _ => q10) i0_id i0_lv (upd (fun i => if i < 2048 then -1 else 0) 0 8)) := hD
      refine lv_aload_n hx hb dd_init_150 rfl (lv_at hl 0 rfl) ?_
      refine va_get (D := G) (ci := 1) (v := .ref q5) (C := R_D) (T := F_D) (N := 12) hx hb hts in_D hown hK hP 0 rfl rfl 3 (by decide) (hts _ lf_D_label) (fun _ h9 => h9) rfl dd_init_151 ?_
      refine lv_iconst hx hb dd_init_154 ki_1 ?_
      refine lv_bipush hx hb dd_init_155 kb_8 ?_
      refine va_iast hx hb hK hP hD hS 4 0 (n := 2048) (f := (upd (fun i => if i < 2048 then -1 else 0) 0 8)) rfl rfl (show ¬ ((1 : Int32) < 0 ∨ 2048 ≤ (1 : Int32).toNatClampNeg) by decide) dd_init_157 (fun H locs hP hD hS => ?_)
      have hP : va_P G wt_cl (i9_D cI cZ (fun k => match k with | 1 => h0 | 2 => q2 | 3 => q3 | 4 => q4 | 5 => q5 | 6 => q6 | 7 => q7 | 8 => q8 | 9 => q9 | _ => q10) i0_id i0_lv i0_lb) H := hP
      have hD : va_D A (i9_D cI cZ (fun k => match k with | 1 => h0 | 2 => q2 | 3 => q3 | 4 => q4 | 5 => q5 | 6 => q6 | 7 => q7 | 8 => q8 | 9 => q9 | _ => q10) i0_id i0_lv i0_lb) := hD
      exact W.vret hx hb hr (fun t ht hW => ⟨⟨(fun k => match k with | 1 => h0 | 2 => q2 | 3 => q3 | 4 => q4 | 5 => q5 | 6 => q6 | 7 => q7 | 8 => q8 | 9 => q9 | _ => q10), rfl, rfl, by rw [ht]; exact hP, hD⟩, hS.F ht⟩) hS.2.2 dd_init_158
    | succ d ih =>
      intro k H locs ls hk hP hD hS hl
      refine lv_iload_n hx hb dd_init_99 rfl (lv_at hl 1 rfl) ?_
      refine lv_bipush hx hb dd_init_100 kb_8 ?_
      refine lv_icmp_ge (tgt := 125) hx hb dd_init_102 rfl (fun hc => absurd hc (nI_ge (show k < 8 by omega) (by decide))) (fun _ => ?_)
      refine lv_aload_n hx hb dd_init_105 rfl (lv_at hl 0 rfl) ?_
      refine va_get (D := G) (ci := 1) (v := .ref q3) (C := R_D) (T := F_D) (N := 12) hx hb hts in_D hown hK hP 0 rfl rfl 1 (by decide) (hts _ lf_D_atLevel) (fun _ h9 => h9) rfl dd_init_106 ?_
      refine lv_iload_n hx hb dd_init_109 rfl (lv_at hl 1 rfl) ?_
      refine lv_iload_n hx hb dd_init_110 rfl (lv_at hl 1 rfl) ?_
      refine va_iast hx hb hK hP hD hS 2 0 (n := 8) (f := (fun i => if i < k then nI i else 0)) rfl rfl (nI_in (show k < 8 by omega) (by decide)) dd_init_111 (fun H locs hP hD hS => ?_)
      rw [nI_clamp (by omega), i0_up] at hP hD
      have hP : va_P G wt_cl (i9_D cI cZ (fun k => match k with | 1 => h0 | 2 => q2 | 3 => q3 | 4 => q4 | 5 => q5 | 6 => q6 | 7 => q7 | 8 => q8 | 9 => q9 | _ => q10) (fun i => if i < k + 1 then nI i else 0) (fun i => if i < k then nI i else 0) (fun _ => 0)) H := hP
      have hD : va_D A (i9_D cI cZ (fun k => match k with | 1 => h0 | 2 => q2 | 3 => q3 | 4 => q4 | 5 => q5 | 6 => q6 | 7 => q7 | 8 => q8 | 9 => q9 | _ => q10) (fun i => if i < k + 1 then nI i else 0) (fun i => if i < k then nI i else 0) (fun _ => 0)) := hD
      refine lv_aload_n hx hb dd_init_112 rfl (lv_at hl 0 rfl) ?_
      refine va_get (D := G) (ci := 1) (v := .ref q4) (C := R_D) (T := F_D) (N := 12) hx hb hts in_D hown hK hP 0 rfl rfl 2 (by decide) (hts _ lf_D_levelOf) (fun _ h9 => h9) rfl dd_init_113 ?_
      refine lv_iload_n hx hb dd_init_116 rfl (lv_at hl 1 rfl) ?_
      refine lv_iload_n hx hb dd_init_117 rfl (lv_at hl 1 rfl) ?_
      refine va_iast hx hb hK hP hD hS 3 0 (n := 9) (f := (fun i => if i < k then nI i else 0)) rfl rfl (nI_in (show k < 9 by omega) (by decide)) dd_init_118 (fun H locs hP hD hS => ?_)
      rw [nI_clamp (by omega), i0_up] at hP hD
      have hP : va_P G wt_cl (i9_D cI cZ (fun k => match k with | 1 => h0 | 2 => q2 | 3 => q3 | 4 => q4 | 5 => q5 | 6 => q6 | 7 => q7 | 8 => q8 | 9 => q9 | _ => q10) (fun i => if i < k + 1 then nI i else 0) (fun i => if i < k + 1 then nI i else 0) (fun _ => 0)) H := hP
      have hD : va_D A (i9_D cI cZ (fun k => match k with | 1 => h0 | 2 => q2 | 3 => q3 | 4 => q4 | 5 => q5 | 6 => q6 | 7 => q7 | 8 => q8 | 9 => q9 | _ => q10) (fun i => if i < k + 1 then nI i else 0) (fun i => if i < k + 1 then nI i else 0) (fun _ => 0)) := hD
      refine lv_iinc (k := 1) (v := nI (k + 1)) hx hb dd_init_119 hl rfl (nI_succ k).symm (by decide) rfl (fun ls2 h2 => ?_)
      refine lv_goto (tgt := 99) hx hb dd_init_122 rfl ?_
      exact ih (k + 1) H locs ls2 (by omega) hP hD hS (lv_sub h2 [1, 0] rfl)
  refine lv_iconst hx hb dd_init_97 ki_0 ?_
  refine lv_istore_n hx hb dd_init_98 rfl hl (by decide) rfl (fun ls h2 => ?_)
  exact loop 8 0 H locs ls rfl hP hD hS (lv_sub h2 [1, 0] rfl)
set_option maxHeartbeats 4000000 in
set_option maxRecDepth 100000 in
theorem c_M (l : Launch) (G : va_G) (cI cZ cJ : ClassId) (h0 sz : Nat) : Met l ym_init (Cond.code ym_init bm_init 2 none :: wt_WS) { frames := 1, cells := 9, slots := 28110, locals := 64 } (i9_Pc h0 sz 2 i9_nM G (i9_ty cI cZ cJ)) (va_Qv (fun f : Nat → Nat => f 11 = h0) (fun f t => va_P G wt_cl (i9_M cI cJ f i0_id i0_mk) t.heap ∧ va_D (va_A [(h0, .inr (2, i9_nM))] sz) (i9_M cI cJ f i0_id i0_mk)) (va_A [(h0, .inr (2, i9_nM))] sz)) 9 28110 (va_A [(h0, .inr (2, i9_nM))] sz) := by
  refine Met.ofW (cc := bm_init) (maxL := 2) (ret := none) (by decide) rfl ?_
  intro p e s m args below meth c s₁ B hml hv
  obtain ⟨rfl, hsz, hP, hK, hD0⟩ := hv
  have hx := B.exec
  have hb := B.bytes
  have hr := B.returns
  have hts : ∀ w ∈ wt_WS, w.before ([Value.ref h0] : List Value).toArray s = true := fun w hw => atoms_spec (ws := Cond.code ym_init bm_init 2 none :: wt_WS) B.pre w (List.mem_cons_of_mem _ hw)
  have hown : s.vm.findClass R_M = some m.cls := findClass_of_methodNamed B.named
  have hlocks := B.notSynchronized
  have hin : meth.name = "<init>" := (name_of_methodNamed B.named B.method).1
  subst hsz
  have hD := hD0.self (sz := s.heap.size)
  generalize hAe : va_A [(h0, .inr (2, i9_nM))] s.heap.size = A at hD ⊢
  have hA : ∀ q : Nat, s.heap.size ≤ q → A q := fun q h => by rw [← hAe]; exact Or.inr h
  have hS : va_S A s.heap s.heap [] := va_S.rf
  have hl := lv_entry ([.ref h0]) (n := 2) (Nat.le_of_ble_eq_true rfl)
  rw [lg_entry_eq]
  generalize (lg_sl ([.ref h0]) ++ List.replicate (2 - (lg_sl ([.ref h0])).length) Slot.unset).toArray = ls at hl ⊢
  have hl : lv_has ls 2 [(0, .ref h0)] := hl
  refine lv_aload_n hx hb dm_init_0 rfl (lv_at hl 0 rfl) ?_
  refine W.objInit hx hb hown (hts _ mo_M) (hts _ mo_n) (hts _ mo_c) rfl (by rw [hml]; exact hl.1) rfl dm_init_1 (Nat.le_of_ble_eq_true rfl) (Nat.le_of_ble_eq_true rfl) ?_
  refine W.eq (g2 := F0 m 4 ls []) rfl ?_
  have hP : va_P G wt_cl [(h0, .inr (2, [.int 0, .null, .null, .null, .null, .int 0, .null, .int 0, .null, .int 0, .null, .null, .null]))] s.heap := hP
  have hD : va_D A [(h0, .inr (2, [.int 0, .null, .null, .null, .null, .int 0, .null, .int 0, .null, .int 0, .null, .null, .null]))] := hD
  refine lv_aload_n hx hb dm_init_4 rfl (lv_at hl 0 rfl) ?_
  refine lv_bipush hx hb dm_init_5 kb_72 ?_
  refine nw_a (atype := .long) (ty := .long) (N' := 72) (a0 := (72, .inr (.inl (fun _ => 0)))) hx hb (hts _ ma_long) rfl hK 2 rfl (fun _ h => h) hP hD hS hA (fun _ => rfl) (by decide) (by decide) (by decide) (Nat.le_of_ble_eq_true rfl) (Nat.le_of_ble_eq_true rfl) dm_init_7 (fun q18 H hP hD hS => ?_)
  have hP : va_P G wt_cl [(h0, .inr (2, [.int 0, .null, .null, .null, .null, .int 0, .null, .int 0, .null, .int 0, .null, .null, .null])), (q18, .inl (cJ, 72, .inr (.inl (fun _ => 0))))] H := hP
  have hD : va_D A [(h0, .inr (2, [.int 0, .null, .null, .null, .null, .int 0, .null, .int 0, .null, .int 0, .null, .null, .null])), (q18, .inl (cJ, 72, .inr (.inl (fun _ => 0))))] := hD
  refine W.widen (k := 1) (n := 72) (by omega) (by omega) ?_
  refine va_putF (D := G) (ci := 2) (v := .ref q18) (ty := .array .long) (C := R_M) (T := F_M) (N := 13) hx hb hts in_M ty_M ty_M_ok nm_M hown hK hP hD hS 0 rfl rfl 1 (by decide) (hts _ lf_M_words) (fun _ h9 => h9) rfl hin rfl (by decide +kernel) rfl rfl (Nat.le_of_ble_eq_true rfl) dm_init_9 (fun H locs hP hD hS => ?_)
  have hP : va_P G wt_cl [(h0, .inr (2, [.int 0, .ref q18, .null, .null, .null, .int 0, .null, .int 0, .null, .int 0, .null, .null, .null])), (q18, .inl (cJ, 72, .inr (.inl (fun _ => 0))))] H := hP
  have hD : va_D A [(h0, .inr (2, [.int 0, .ref q18, .null, .null, .null, .int 0, .null, .int 0, .null, .int 0, .null, .null, .null])), (q18, .inl (cJ, 72, .inr (.inl (fun _ => 0))))] := hD
  refine lv_aload_n hx hb dm_init_12 rfl (lv_at hl 0 rfl) ?_
  refine lv_bipush hx hb dm_init_13 kb_8 ?_
  refine nw_a (atype := .int) (ty := .int) (N' := 8) (a0 := (8, .inl (fun _ => 0))) hx hb (hts _ ma_int) rfl hK 0 rfl (fun _ h => h) hP hD hS hA (fun _ => rfl) (by decide) (by decide) (by decide) (Nat.le_of_ble_eq_true rfl) (Nat.le_of_ble_eq_true rfl) dm_init_15 (fun q12 H hP hD hS => ?_)
  have hP : va_P G wt_cl [(h0, .inr (2, [.int 0, .ref q18, .null, .null, .null, .int 0, .null, .int 0, .null, .int 0, .null, .null, .null])), (q18, .inl (cJ, 72, .inr (.inl (fun _ => 0)))), (q12, .inl (cI, 8, .inl (fun _ => 0)))] H := hP
  have hD : va_D A [(h0, .inr (2, [.int 0, .ref q18, .null, .null, .null, .int 0, .null, .int 0, .null, .int 0, .null, .null, .null])), (q18, .inl (cJ, 72, .inr (.inl (fun _ => 0)))), (q12, .inl (cI, 8, .inl (fun _ => 0)))] := hD
  refine W.widen (k := 2) (n := 80) (by omega) (by omega) ?_
  refine va_putF (D := G) (ci := 2) (v := .ref q12) (ty := .array .int) (C := R_M) (T := F_M) (N := 13) hx hb hts in_M ty_M ty_M_ok nm_M hown hK hP hD hS 0 rfl rfl 2 (by decide) (hts _ lf_M_levels) (fun _ h9 => h9) rfl hin rfl (by decide +kernel) rfl rfl (Nat.le_of_ble_eq_true rfl) dm_init_17 (fun H locs hP hD hS => ?_)
  have hP : va_P G wt_cl [(h0, .inr (2, [.int 0, .ref q18, .ref q12, .null, .null, .int 0, .null, .int 0, .null, .int 0, .null, .null, .null])), (q18, .inl (cJ, 72, .inr (.inl (fun _ => 0)))), (q12, .inl (cI, 8, .inl (fun _ => 0)))] H := hP
  have hD : va_D A [(h0, .inr (2, [.int 0, .ref q18, .ref q12, .null, .null, .int 0, .null, .int 0, .null, .int 0, .null, .null, .null])), (q18, .inl (cJ, 72, .inr (.inl (fun _ => 0)))), (q12, .inl (cI, 8, .inl (fun _ => 0)))] := hD
  refine lv_aload_n hx hb dm_init_20 rfl (lv_at hl 0 rfl) ?_
  refine lv_bipush hx hb dm_init_21 kb_8 ?_
  refine nw_a (atype := .int) (ty := .int) (N' := 8) (a0 := (8, .inl (fun _ => 0))) hx hb (hts _ ma_int) rfl hK 0 rfl (fun _ h => h) hP hD hS hA (fun _ => rfl) (by decide) (by decide) (by decide) (Nat.le_of_ble_eq_true rfl) (Nat.le_of_ble_eq_true rfl) dm_init_23 (fun q13 H hP hD hS => ?_)
  have hP : va_P G wt_cl [(h0, .inr (2, [.int 0, .ref q18, .ref q12, .null, .null, .int 0, .null, .int 0, .null, .int 0, .null, .null, .null])), (q18, .inl (cJ, 72, .inr (.inl (fun _ => 0)))), (q12, .inl (cI, 8, .inl (fun _ => 0))), (q13, .inl (cI, 8, .inl (fun _ => 0)))] H := hP
  have hD : va_D A [(h0, .inr (2, [.int 0, .ref q18, .ref q12, .null, .null, .int 0, .null, .int 0, .null, .int 0, .null, .null, .null])), (q18, .inl (cJ, 72, .inr (.inl (fun _ => 0)))), (q12, .inl (cI, 8, .inl (fun _ => 0))), (q13, .inl (cI, 8, .inl (fun _ => 0)))] := hD
  refine W.widen (k := 3) (n := 88) (by omega) (by omega) ?_
  refine va_putF (D := G) (ci := 2) (v := .ref q13) (ty := .array .int) (C := R_M) (T := F_M) (N := 13) hx hb hts in_M ty_M ty_M_ok nm_M hown hK hP hD hS 0 rfl rfl 3 (by decide) (hts _ lf_M_before) (fun _ h9 => h9) rfl hin rfl (by decide +kernel) rfl rfl (Nat.le_of_ble_eq_true rfl) dm_init_25 (fun H locs hP hD hS => ?_)
  have hP : va_P G wt_cl [(h0, .inr (2, [.int 0, .ref q18, .ref q12, .ref q13, .null, .int 0, .null, .int 0, .null, .int 0, .null, .null, .null])), (q18, .inl (cJ, 72, .inr (.inl (fun _ => 0)))), (q12, .inl (cI, 8, .inl (fun _ => 0))), (q13, .inl (cI, 8, .inl (fun _ => 0)))] H := hP
  have hD : va_D A [(h0, .inr (2, [.int 0, .ref q18, .ref q12, .ref q13, .null, .int 0, .null, .int 0, .null, .int 0, .null, .null, .null])), (q18, .inl (cJ, 72, .inr (.inl (fun _ => 0)))), (q12, .inl (cI, 8, .inl (fun _ => 0))), (q13, .inl (cI, 8, .inl (fun _ => 0)))] := hD
  refine lv_aload_n hx hb dm_init_28 rfl (lv_at hl 0 rfl) ?_
  refine lv_sipush hx hb dm_init_29 ks_16000 ?_
  refine nw_a (atype := .long) (ty := .long) (N' := 16000) (a0 := (16000, .inr (.inl (fun _ => 0)))) hx hb (hts _ ma_long) rfl hK 2 rfl (fun _ h => h) hP hD hS hA (fun _ => rfl) (by decide) (by decide) (by decide) (Nat.le_of_ble_eq_true rfl) (Nat.le_of_ble_eq_true rfl) dm_init_32 (fun q19 H hP hD hS => ?_)
  have hP : va_P G wt_cl [(h0, .inr (2, [.int 0, .ref q18, .ref q12, .ref q13, .null, .int 0, .null, .int 0, .null, .int 0, .null, .null, .null])), (q18, .inl (cJ, 72, .inr (.inl (fun _ => 0)))), (q12, .inl (cI, 8, .inl (fun _ => 0))), (q13, .inl (cI, 8, .inl (fun _ => 0))), (q19, .inl (cJ, 16000, .inr (.inl (fun _ => 0))))] H := hP
  have hD : va_D A [(h0, .inr (2, [.int 0, .ref q18, .ref q12, .ref q13, .null, .int 0, .null, .int 0, .null, .int 0, .null, .null, .null])), (q18, .inl (cJ, 72, .inr (.inl (fun _ => 0)))), (q12, .inl (cI, 8, .inl (fun _ => 0))), (q13, .inl (cI, 8, .inl (fun _ => 0))), (q19, .inl (cJ, 16000, .inr (.inl (fun _ => 0))))] := hD
  refine W.widen (k := 4) (n := 16088) (by omega) (by omega) ?_
  refine va_putF (D := G) (ci := 2) (v := .ref q19) (ty := .array .long) (C := R_M) (T := F_M) (N := 13) hx hb hts in_M ty_M ty_M_ok nm_M hown hK hP hD hS 0 rfl rfl 4 (by decide) (hts _ lf_M_cuts) (fun _ h9 => h9) rfl hin rfl (by decide +kernel) rfl rfl (Nat.le_of_ble_eq_true rfl) dm_init_34 (fun H locs hP hD hS => ?_)
  have hP : va_P G wt_cl [(h0, .inr (2, [.int 0, .ref q18, .ref q12, .ref q13, .ref q19, .int 0, .null, .int 0, .null, .int 0, .null, .null, .null])), (q18, .inl (cJ, 72, .inr (.inl (fun _ => 0)))), (q12, .inl (cI, 8, .inl (fun _ => 0))), (q13, .inl (cI, 8, .inl (fun _ => 0))), (q19, .inl (cJ, 16000, .inr (.inl (fun _ => 0))))] H := hP
  have hD : va_D A [(h0, .inr (2, [.int 0, .ref q18, .ref q12, .ref q13, .ref q19, .int 0, .null, .int 0, .null, .int 0, .null, .null, .null])), (q18, .inl (cJ, 72, .inr (.inl (fun _ => 0)))), (q12, .inl (cI, 8, .inl (fun _ => 0))), (q13, .inl (cI, 8, .inl (fun _ => 0))), (q19, .inl (cJ, 16000, .inr (.inl (fun _ => 0))))] := hD
  refine lv_aload_n hx hb dm_init_37 rfl (lv_at hl 0 rfl) ?_
  refine lv_sipush hx hb dm_init_38 ks_4000 ?_
  refine nw_a (atype := .int) (ty := .int) (N' := 4000) (a0 := (4000, .inl (fun _ => 0))) hx hb (hts _ ma_int) rfl hK 0 rfl (fun _ h => h) hP hD hS hA (fun _ => rfl) (by decide) (by decide) (by decide) (Nat.le_of_ble_eq_true rfl) (Nat.le_of_ble_eq_true rfl) dm_init_41 (fun q14 H hP hD hS => ?_)
  have hP : va_P G wt_cl [(h0, .inr (2, [.int 0, .ref q18, .ref q12, .ref q13, .ref q19, .int 0, .null, .int 0, .null, .int 0, .null, .null, .null])), (q18, .inl (cJ, 72, .inr (.inl (fun _ => 0)))), (q12, .inl (cI, 8, .inl (fun _ => 0))), (q13, .inl (cI, 8, .inl (fun _ => 0))), (q19, .inl (cJ, 16000, .inr (.inl (fun _ => 0)))), (q14, .inl (cI, 4000, .inl (fun _ => 0)))] H := hP
  have hD : va_D A [(h0, .inr (2, [.int 0, .ref q18, .ref q12, .ref q13, .ref q19, .int 0, .null, .int 0, .null, .int 0, .null, .null, .null])), (q18, .inl (cJ, 72, .inr (.inl (fun _ => 0)))), (q12, .inl (cI, 8, .inl (fun _ => 0))), (q13, .inl (cI, 8, .inl (fun _ => 0))), (q19, .inl (cJ, 16000, .inr (.inl (fun _ => 0)))), (q14, .inl (cI, 4000, .inl (fun _ => 0)))] := hD
  refine W.widen (k := 5) (n := 20088) (by omega) (by omega) ?_
  refine va_putF (D := G) (ci := 2) (v := .ref q14) (ty := .array .int) (C := R_M) (T := F_M) (N := 13) hx hb hts in_M ty_M ty_M_ok nm_M hown hK hP hD hS 0 rfl rfl 6 (by decide) (hts _ lf_M_here) (fun _ h9 => h9) rfl hin rfl (by decide +kernel) rfl rfl (Nat.le_of_ble_eq_true rfl) dm_init_43 (fun H locs hP hD hS => ?_)
  have hP : va_P G wt_cl [(h0, .inr (2, [.int 0, .ref q18, .ref q12, .ref q13, .ref q19, .int 0, .ref q14, .int 0, .null, .int 0, .null, .null, .null])), (q18, .inl (cJ, 72, .inr (.inl (fun _ => 0)))), (q12, .inl (cI, 8, .inl (fun _ => 0))), (q13, .inl (cI, 8, .inl (fun _ => 0))), (q19, .inl (cJ, 16000, .inr (.inl (fun _ => 0)))), (q14, .inl (cI, 4000, .inl (fun _ => 0)))] H := hP
  have hD : va_D A [(h0, .inr (2, [.int 0, .ref q18, .ref q12, .ref q13, .ref q19, .int 0, .ref q14, .int 0, .null, .int 0, .null, .null, .null])), (q18, .inl (cJ, 72, .inr (.inl (fun _ => 0)))), (q12, .inl (cI, 8, .inl (fun _ => 0))), (q13, .inl (cI, 8, .inl (fun _ => 0))), (q19, .inl (cJ, 16000, .inr (.inl (fun _ => 0)))), (q14, .inl (cI, 4000, .inl (fun _ => 0)))] := hD
  refine lv_aload_n hx hb dm_init_46 rfl (lv_at hl 0 rfl) ?_
  refine lv_sipush hx hb dm_init_47 ks_4000 ?_
  refine nw_a (atype := .int) (ty := .int) (N' := 4000) (a0 := (4000, .inl (fun _ => 0))) hx hb (hts _ ma_int) rfl hK 0 rfl (fun _ h => h) hP hD hS hA (fun _ => rfl) (by decide) (by decide) (by decide) (Nat.le_of_ble_eq_true rfl) (Nat.le_of_ble_eq_true rfl) dm_init_50 (fun q15 H hP hD hS => ?_)
  have hP : va_P G wt_cl [(h0, .inr (2, [.int 0, .ref q18, .ref q12, .ref q13, .ref q19, .int 0, .ref q14, .int 0, .null, .int 0, .null, .null, .null])), (q18, .inl (cJ, 72, .inr (.inl (fun _ => 0)))), (q12, .inl (cI, 8, .inl (fun _ => 0))), (q13, .inl (cI, 8, .inl (fun _ => 0))), (q19, .inl (cJ, 16000, .inr (.inl (fun _ => 0)))), (q14, .inl (cI, 4000, .inl (fun _ => 0))), (q15, .inl (cI, 4000, .inl (fun _ => 0)))] H := hP
  have hD : va_D A [(h0, .inr (2, [.int 0, .ref q18, .ref q12, .ref q13, .ref q19, .int 0, .ref q14, .int 0, .null, .int 0, .null, .null, .null])), (q18, .inl (cJ, 72, .inr (.inl (fun _ => 0)))), (q12, .inl (cI, 8, .inl (fun _ => 0))), (q13, .inl (cI, 8, .inl (fun _ => 0))), (q19, .inl (cJ, 16000, .inr (.inl (fun _ => 0)))), (q14, .inl (cI, 4000, .inl (fun _ => 0))), (q15, .inl (cI, 4000, .inl (fun _ => 0)))] := hD
  refine W.widen (k := 6) (n := 24088) (by omega) (by omega) ?_
  refine va_putF (D := G) (ci := 2) (v := .ref q15) (ty := .array .int) (C := R_M) (T := F_M) (N := 13) hx hb hts in_M ty_M ty_M_ok nm_M hown hK hP hD hS 0 rfl rfl 8 (by decide) (hts _ lf_M_next) (fun _ h9 => h9) rfl hin rfl (by decide +kernel) rfl rfl (Nat.le_of_ble_eq_true rfl) dm_init_52 (fun H locs hP hD hS => ?_)
  have hP : va_P G wt_cl [(h0, .inr (2, [.int 0, .ref q18, .ref q12, .ref q13, .ref q19, .int 0, .ref q14, .int 0, .ref q15, .int 0, .null, .null, .null])), (q18, .inl (cJ, 72, .inr (.inl (fun _ => 0)))), (q12, .inl (cI, 8, .inl (fun _ => 0))), (q13, .inl (cI, 8, .inl (fun _ => 0))), (q19, .inl (cJ, 16000, .inr (.inl (fun _ => 0)))), (q14, .inl (cI, 4000, .inl (fun _ => 0))), (q15, .inl (cI, 4000, .inl (fun _ => 0)))] H := hP
  have hD : va_D A [(h0, .inr (2, [.int 0, .ref q18, .ref q12, .ref q13, .ref q19, .int 0, .ref q14, .int 0, .ref q15, .int 0, .null, .null, .null])), (q18, .inl (cJ, 72, .inr (.inl (fun _ => 0)))), (q12, .inl (cI, 8, .inl (fun _ => 0))), (q13, .inl (cI, 8, .inl (fun _ => 0))), (q19, .inl (cJ, 16000, .inr (.inl (fun _ => 0)))), (q14, .inl (cI, 4000, .inl (fun _ => 0))), (q15, .inl (cI, 4000, .inl (fun _ => 0)))] := hD
  refine lv_aload_n hx hb dm_init_55 rfl (lv_at hl 0 rfl) ?_
  refine lv_sipush hx hb dm_init_56 ks_4000 ?_
  refine nw_a (atype := .int) (ty := .int) (N' := 4000) (a0 := (4000, .inl (fun _ => 0))) hx hb (hts _ ma_int) rfl hK 0 rfl (fun _ h => h) hP hD hS hA (fun _ => rfl) (by decide) (by decide) (by decide) (Nat.le_of_ble_eq_true rfl) (Nat.le_of_ble_eq_true rfl) dm_init_59 (fun q16 H hP hD hS => ?_)
  have hP : va_P G wt_cl [(h0, .inr (2, [.int 0, .ref q18, .ref q12, .ref q13, .ref q19, .int 0, .ref q14, .int 0, .ref q15, .int 0, .null, .null, .null])), (q18, .inl (cJ, 72, .inr (.inl (fun _ => 0)))), (q12, .inl (cI, 8, .inl (fun _ => 0))), (q13, .inl (cI, 8, .inl (fun _ => 0))), (q19, .inl (cJ, 16000, .inr (.inl (fun _ => 0)))), (q14, .inl (cI, 4000, .inl (fun _ => 0))), (q15, .inl (cI, 4000, .inl (fun _ => 0))), (q16, .inl (cI, 4000, .inl (fun _ => 0)))] H := hP
  have hD : va_D A [(h0, .inr (2, [.int 0, .ref q18, .ref q12, .ref q13, .ref q19, .int 0, .ref q14, .int 0, .ref q15, .int 0, .null, .null, .null])), (q18, .inl (cJ, 72, .inr (.inl (fun _ => 0)))), (q12, .inl (cI, 8, .inl (fun _ => 0))), (q13, .inl (cI, 8, .inl (fun _ => 0))), (q19, .inl (cJ, 16000, .inr (.inl (fun _ => 0)))), (q14, .inl (cI, 4000, .inl (fun _ => 0))), (q15, .inl (cI, 4000, .inl (fun _ => 0))), (q16, .inl (cI, 4000, .inl (fun _ => 0)))] := hD
  refine W.widen (k := 7) (n := 28088) (by omega) (by omega) ?_
  refine va_putF (D := G) (ci := 2) (v := .ref q16) (ty := .array .int) (C := R_M) (T := F_M) (N := 13) hx hb hts in_M ty_M ty_M_ok nm_M hown hK hP hD hS 0 rfl rfl 10 (by decide) (hts _ lf_M_told) (fun _ h9 => h9) rfl hin rfl (by decide +kernel) rfl rfl (Nat.le_of_ble_eq_true rfl) dm_init_61 (fun H locs hP hD hS => ?_)
  have hP : va_P G wt_cl [(h0, .inr (2, [.int 0, .ref q18, .ref q12, .ref q13, .ref q19, .int 0, .ref q14, .int 0, .ref q15, .int 0, .ref q16, .null, .null])), (q18, .inl (cJ, 72, .inr (.inl (fun _ => 0)))), (q12, .inl (cI, 8, .inl (fun _ => 0))), (q13, .inl (cI, 8, .inl (fun _ => 0))), (q19, .inl (cJ, 16000, .inr (.inl (fun _ => 0)))), (q14, .inl (cI, 4000, .inl (fun _ => 0))), (q15, .inl (cI, 4000, .inl (fun _ => 0))), (q16, .inl (cI, 4000, .inl (fun _ => 0)))] H := hP
  have hD : va_D A [(h0, .inr (2, [.int 0, .ref q18, .ref q12, .ref q13, .ref q19, .int 0, .ref q14, .int 0, .ref q15, .int 0, .ref q16, .null, .null])), (q18, .inl (cJ, 72, .inr (.inl (fun _ => 0)))), (q12, .inl (cI, 8, .inl (fun _ => 0))), (q13, .inl (cI, 8, .inl (fun _ => 0))), (q19, .inl (cJ, 16000, .inr (.inl (fun _ => 0)))), (q14, .inl (cI, 4000, .inl (fun _ => 0))), (q15, .inl (cI, 4000, .inl (fun _ => 0))), (q16, .inl (cI, 4000, .inl (fun _ => 0)))] := hD
  refine lv_aload_n hx hb dm_init_64 rfl (lv_at hl 0 rfl) ?_
  refine lv_bipush hx hb dm_init_65 kb_6 ?_
  refine nw_a (atype := .long) (ty := .long) (N' := 6) (a0 := (6, .inr (.inl (fun _ => 0)))) hx hb (hts _ ma_long) rfl hK 2 rfl (fun _ h => h) hP hD hS hA (fun _ => rfl) (by decide) (by decide) (by decide) (Nat.le_of_ble_eq_true rfl) (Nat.le_of_ble_eq_true rfl) dm_init_67 (fun q20 H hP hD hS => ?_)
  have hP : va_P G wt_cl [(h0, .inr (2, [.int 0, .ref q18, .ref q12, .ref q13, .ref q19, .int 0, .ref q14, .int 0, .ref q15, .int 0, .ref q16, .null, .null])), (q18, .inl (cJ, 72, .inr (.inl (fun _ => 0)))), (q12, .inl (cI, 8, .inl (fun _ => 0))), (q13, .inl (cI, 8, .inl (fun _ => 0))), (q19, .inl (cJ, 16000, .inr (.inl (fun _ => 0)))), (q14, .inl (cI, 4000, .inl (fun _ => 0))), (q15, .inl (cI, 4000, .inl (fun _ => 0))), (q16, .inl (cI, 4000, .inl (fun _ => 0))), (q20, .inl (cJ, 6, .inr (.inl (fun _ => 0))))] H := hP
  have hD : va_D A [(h0, .inr (2, [.int 0, .ref q18, .ref q12, .ref q13, .ref q19, .int 0, .ref q14, .int 0, .ref q15, .int 0, .ref q16, .null, .null])), (q18, .inl (cJ, 72, .inr (.inl (fun _ => 0)))), (q12, .inl (cI, 8, .inl (fun _ => 0))), (q13, .inl (cI, 8, .inl (fun _ => 0))), (q19, .inl (cJ, 16000, .inr (.inl (fun _ => 0)))), (q14, .inl (cI, 4000, .inl (fun _ => 0))), (q15, .inl (cI, 4000, .inl (fun _ => 0))), (q16, .inl (cI, 4000, .inl (fun _ => 0))), (q20, .inl (cJ, 6, .inr (.inl (fun _ => 0))))] := hD
  refine W.widen (k := 8) (n := 28094) (by omega) (by omega) ?_
  refine lv_dup hx hb dm_init_69 rfl ?_
  refine lv_iconst hx hb dm_init_70 ki_0 ?_
  refine lv_ldc2 hx hb hown (hts _ lk_M_32) dm_init_71 ?_
  refine va_last hx hb hK hP hD hS 8 2 (n := 6) (f := (fun _ => 0)) rfl rfl (show ¬ ((0 : Int32) < 0 ∨ 6 ≤ (0 : Int32).toNatClampNeg) by decide) dm_init_74 (fun H locs hP hD hS => ?_)
  have hP : va_P G wt_cl [(h0, .inr (2, [.int 0, .ref q18, .ref q12, .ref q13, .ref q19, .int 0, .ref q14, .int 0, .ref q15, .int 0, .ref q16, .null, .null])), (q18, .inl (cJ, 72, .inr (.inl (fun _ => 0)))), (q12, .inl (cI, 8, .inl (fun _ => 0))), (q13, .inl (cI, 8, .inl (fun _ => 0))), (q19, .inl (cJ, 16000, .inr (.inl (fun _ => 0)))), (q14, .inl (cI, 4000, .inl (fun _ => 0))), (q15, .inl (cI, 4000, .inl (fun _ => 0))), (q16, .inl (cI, 4000, .inl (fun _ => 0))), (q20, .inl (cJ, 6, .inr (.inl (vp_updL (fun _ => 0) 0 (-6148914691236517206)))))] H := hP
  have hD : va_D A [(h0, .inr (2, [.int 0, .ref q18, .ref q12, .ref q13, .ref q19, .int 0, .ref q14, .int 0, .ref q15, .int 0, .ref q16, .null, .null])), (q18, .inl (cJ, 72, .inr (.inl (fun _ => 0)))), (q12, .inl (cI, 8, .inl (fun _ => 0))), (q13, .inl (cI, 8, .inl (fun _ => 0))), (q19, .inl (cJ, 16000, .inr (.inl (fun _ => 0)))), (q14, .inl (cI, 4000, .inl (fun _ => 0))), (q15, .inl (cI, 4000, .inl (fun _ => 0))), (q16, .inl (cI, 4000, .inl (fun _ => 0))), (q20, .inl (cJ, 6, .inr (.inl (vp_updL (fun _ => 0) 0 (-6148914691236517206)))))] := hD
  refine lv_dup hx hb dm_init_75 rfl ?_
  refine lv_iconst hx hb dm_init_76 ki_1 ?_
  refine lv_ldc2 hx hb hown (hts _ lk_M_34) dm_init_77 ?_
  refine va_last hx hb hK hP hD hS 8 2 (n := 6) (f := (vp_updL (fun _ => 0) 0 (-6148914691236517206))) rfl rfl (show ¬ ((1 : Int32) < 0 ∨ 6 ≤ (1 : Int32).toNatClampNeg) by decide) dm_init_80 (fun H locs hP hD hS => ?_)
  have hP : va_P G wt_cl [(h0, .inr (2, [.int 0, .ref q18, .ref q12, .ref q13, .ref q19, .int 0, .ref q14, .int 0, .ref q15, .int 0, .ref q16, .null, .null])), (q18, .inl (cJ, 72, .inr (.inl (fun _ => 0)))), (q12, .inl (cI, 8, .inl (fun _ => 0))), (q13, .inl (cI, 8, .inl (fun _ => 0))), (q19, .inl (cJ, 16000, .inr (.inl (fun _ => 0)))), (q14, .inl (cI, 4000, .inl (fun _ => 0))), (q15, .inl (cI, 4000, .inl (fun _ => 0))), (q16, .inl (cI, 4000, .inl (fun _ => 0))), (q20, .inl (cJ, 6, .inr (.inl (vp_updL (vp_updL (fun _ => 0) 0 (-6148914691236517206)) 1 (-3689348814741910324)))))] H := hP
  have hD : va_D A [(h0, .inr (2, [.int 0, .ref q18, .ref q12, .ref q13, .ref q19, .int 0, .ref q14, .int 0, .ref q15, .int 0, .ref q16, .null, .null])), (q18, .inl (cJ, 72, .inr (.inl (fun _ => 0)))), (q12, .inl (cI, 8, .inl (fun _ => 0))), (q13, .inl (cI, 8, .inl (fun _ => 0))), (q19, .inl (cJ, 16000, .inr (.inl (fun _ => 0)))), (q14, .inl (cI, 4000, .inl (fun _ => 0))), (q15, .inl (cI, 4000, .inl (fun _ => 0))), (q16, .inl (cI, 4000, .inl (fun _ => 0))), (q20, .inl (cJ, 6, .inr (.inl (vp_updL (vp_updL (fun _ => 0) 0 (-6148914691236517206)) 1 (-3689348814741910324)))))] := hD
  refine lv_dup hx hb dm_init_81 rfl ?_
  refine lv_iconst hx hb dm_init_82 ki_2 ?_
  refine lv_ldc2 hx hb hown (hts _ lk_M_36) dm_init_83 ?_
  refine va_last hx hb hK hP hD hS 8 2 (n := 6) (f := (vp_updL (vp_updL (fun _ => 0) 0 (-6148914691236517206)) 1 (-3689348814741910324))) rfl rfl (show ¬ ((2 : Int32) < 0 ∨ 6 ≤ (2 : Int32).toNatClampNeg) by decide) dm_init_86 (fun H locs hP hD hS => ?_)
  have hP : va_P G wt_cl [(h0, .inr (2, [.int 0, .ref q18, .ref q12, .ref q13, .ref q19, .int 0, .ref q14, .int 0, .ref q15, .int 0, .ref q16, .null, .null])), (q18, .inl (cJ, 72, .inr (.inl (fun _ => 0)))), (q12, .inl (cI, 8, .inl (fun _ => 0))), (q13, .inl (cI, 8, .inl (fun _ => 0))), (q19, .inl (cJ, 16000, .inr (.inl (fun _ => 0)))), (q14, .inl (cI, 4000, .inl (fun _ => 0))), (q15, .inl (cI, 4000, .inl (fun _ => 0))), (q16, .inl (cI, 4000, .inl (fun _ => 0))), (q20, .inl (cJ, 6, .inr (.inl (vp_updL (vp_updL (vp_updL (fun _ => 0) 0 (-6148914691236517206)) 1 (-3689348814741910324)) 2 (-1085102592571150096)))))] H := hP
  have hD : va_D A [(h0, .inr (2, [.int 0, .ref q18, .ref q12, .ref q13, .ref q19, .int 0, .ref q14, .int 0, .ref q15, .int 0, .ref q16, .null, .null])), (q18, .inl (cJ, 72, .inr (.inl (fun _ => 0)))), (q12, .inl (cI, 8, .inl (fun _ => 0))), (q13, .inl (cI, 8, .inl (fun _ => 0))), (q19, .inl (cJ, 16000, .inr (.inl (fun _ => 0)))), (q14, .inl (cI, 4000, .inl (fun _ => 0))), (q15, .inl (cI, 4000, .inl (fun _ => 0))), (q16, .inl (cI, 4000, .inl (fun _ => 0))), (q20, .inl (cJ, 6, .inr (.inl (vp_updL (vp_updL (vp_updL (fun _ => 0) 0 (-6148914691236517206)) 1 (-3689348814741910324)) 2 (-1085102592571150096)))))] := hD
  refine lv_dup hx hb dm_init_87 rfl ?_
  refine lv_iconst hx hb dm_init_88 ki_3 ?_
  refine lv_ldc2 hx hb hown (hts _ lk_M_38) dm_init_89 ?_
  refine va_last hx hb hK hP hD hS 8 2 (n := 6) (f := (vp_updL (vp_updL (vp_updL (fun _ => 0) 0 (-6148914691236517206)) 1 (-3689348814741910324)) 2 (-1085102592571150096))) rfl rfl (show ¬ ((3 : Int32) < 0 ∨ 6 ≤ (3 : Int32).toNatClampNeg) by decide) dm_init_92 (fun H locs hP hD hS => ?_)
  have hP : va_P G wt_cl [(h0, .inr (2, [.int 0, .ref q18, .ref q12, .ref q13, .ref q19, .int 0, .ref q14, .int 0, .ref q15, .int 0, .ref q16, .null, .null])), (q18, .inl (cJ, 72, .inr (.inl (fun _ => 0)))), (q12, .inl (cI, 8, .inl (fun _ => 0))), (q13, .inl (cI, 8, .inl (fun _ => 0))), (q19, .inl (cJ, 16000, .inr (.inl (fun _ => 0)))), (q14, .inl (cI, 4000, .inl (fun _ => 0))), (q15, .inl (cI, 4000, .inl (fun _ => 0))), (q16, .inl (cI, 4000, .inl (fun _ => 0))), (q20, .inl (cJ, 6, .inr (.inl (vp_updL (vp_updL (vp_updL (vp_updL (fun _ => 0) 0 (-6148914691236517206)) 1 (-3689348814741910324)) 2 (-1085102592571150096)) 3 (-71777214294589696)))))] H := hP
  have hD : va_D A [(h0, .inr (2, [.int 0, .ref q18, .ref q12, .ref q13, .ref q19, .int 0, .ref q14, .int 0, .ref q15, .int 0, .ref q16, .null, .null])), (q18, .inl (cJ, 72, .inr (.inl (fun _ => 0)))), (q12, .inl (cI, 8, .inl (fun _ => 0))), (q13, .inl (cI, 8, .inl (fun _ => 0))), (q19, .inl (cJ, 16000, .inr (.inl (fun _ => 0)))), (q14, .inl (cI, 4000, .inl (fun _ => 0))), (q15, .inl (cI, 4000, .inl (fun _ => 0))), (q16, .inl (cI, 4000, .inl (fun _ => 0))), (q20, .inl (cJ, 6, .inr (.inl (vp_updL (vp_updL (vp_updL (vp_updL (fun _ => 0) 0 (-6148914691236517206)) 1 (-3689348814741910324)) 2 (-1085102592571150096)) 3 (-71777214294589696)))))] := hD
  refine lv_dup hx hb dm_init_93 rfl ?_
  refine lv_iconst hx hb dm_init_94 ki_4 ?_
  refine lv_ldc2 hx hb hown (hts _ lk_M_40) dm_init_95 ?_
  refine va_last hx hb hK hP hD hS 8 2 (n := 6) (f := (vp_updL (vp_updL (vp_updL (vp_updL (fun _ => 0) 0 (-6148914691236517206)) 1 (-3689348814741910324)) 2 (-1085102592571150096)) 3 (-71777214294589696))) rfl rfl (show ¬ ((4 : Int32) < 0 ∨ 6 ≤ (4 : Int32).toNatClampNeg) by decide) dm_init_98 (fun H locs hP hD hS => ?_)
  have hP : va_P G wt_cl [(h0, .inr (2, [.int 0, .ref q18, .ref q12, .ref q13, .ref q19, .int 0, .ref q14, .int 0, .ref q15, .int 0, .ref q16, .null, .null])), (q18, .inl (cJ, 72, .inr (.inl (fun _ => 0)))), (q12, .inl (cI, 8, .inl (fun _ => 0))), (q13, .inl (cI, 8, .inl (fun _ => 0))), (q19, .inl (cJ, 16000, .inr (.inl (fun _ => 0)))), (q14, .inl (cI, 4000, .inl (fun _ => 0))), (q15, .inl (cI, 4000, .inl (fun _ => 0))), (q16, .inl (cI, 4000, .inl (fun _ => 0))), (q20, .inl (cJ, 6, .inr (.inl (vp_updL (vp_updL (vp_updL (vp_updL (vp_updL (fun _ => 0) 0 (-6148914691236517206)) 1 (-3689348814741910324)) 2 (-1085102592571150096)) 3 (-71777214294589696)) 4 (-281470681808896)))))] H := hP
  have hD : va_D A [(h0, .inr (2, [.int 0, .ref q18, .ref q12, .ref q13, .ref q19, .int 0, .ref q14, .int 0, .ref q15, .int 0, .ref q16, .null, .null])), (q18, .inl (cJ, 72, .inr (.inl (fun _ => 0)))), (q12, .inl (cI, 8, .inl (fun _ => 0))), (q13, .inl (cI, 8, .inl (fun _ => 0))), (q19, .inl (cJ, 16000, .inr (.inl (fun _ => 0)))), (q14, .inl (cI, 4000, .inl (fun _ => 0))), (q15, .inl (cI, 4000, .inl (fun _ => 0))), (q16, .inl (cI, 4000, .inl (fun _ => 0))), (q20, .inl (cJ, 6, .inr (.inl (vp_updL (vp_updL (vp_updL (vp_updL (vp_updL (fun _ => 0) 0 (-6148914691236517206)) 1 (-3689348814741910324)) 2 (-1085102592571150096)) 3 (-71777214294589696)) 4 (-281470681808896)))))] := hD
  refine lv_dup hx hb dm_init_99 rfl ?_
  refine lv_iconst hx hb dm_init_100 ki_5 ?_
  refine lv_ldc2 hx hb hown (hts _ lk_M_42) dm_init_101 ?_
  refine va_last hx hb hK hP hD hS 8 2 (n := 6) (f := (vp_updL (vp_updL (vp_updL (vp_updL (vp_updL (fun _ => 0) 0 (-6148914691236517206)) 1 (-3689348814741910324)) 2 (-1085102592571150096)) 3 (-71777214294589696)) 4 (-281470681808896))) rfl rfl (show ¬ ((5 : Int32) < 0 ∨ 6 ≤ (5 : Int32).toNatClampNeg) by decide) dm_init_104 (fun H locs hP hD hS => ?_)
  have hP : va_P G wt_cl [(h0, .inr (2, [.int 0, .ref q18, .ref q12, .ref q13, .ref q19, .int 0, .ref q14, .int 0, .ref q15, .int 0, .ref q16, .null, .null])), (q18, .inl (cJ, 72, .inr (.inl (fun _ => 0)))), (q12, .inl (cI, 8, .inl (fun _ => 0))), (q13, .inl (cI, 8, .inl (fun _ => 0))), (q19, .inl (cJ, 16000, .inr (.inl (fun _ => 0)))), (q14, .inl (cI, 4000, .inl (fun _ => 0))), (q15, .inl (cI, 4000, .inl (fun _ => 0))), (q16, .inl (cI, 4000, .inl (fun _ => 0))), (q20, .inl (cJ, 6, .inr (.inl (vp_updL (vp_updL (vp_updL (vp_updL (vp_updL (vp_updL (fun _ => 0) 0 (-6148914691236517206)) 1 (-3689348814741910324)) 2 (-1085102592571150096)) 3 (-71777214294589696)) 4 (-281470681808896)) 5 (-4294967296)))))] H := hP
  have hD : va_D A [(h0, .inr (2, [.int 0, .ref q18, .ref q12, .ref q13, .ref q19, .int 0, .ref q14, .int 0, .ref q15, .int 0, .ref q16, .null, .null])), (q18, .inl (cJ, 72, .inr (.inl (fun _ => 0)))), (q12, .inl (cI, 8, .inl (fun _ => 0))), (q13, .inl (cI, 8, .inl (fun _ => 0))), (q19, .inl (cJ, 16000, .inr (.inl (fun _ => 0)))), (q14, .inl (cI, 4000, .inl (fun _ => 0))), (q15, .inl (cI, 4000, .inl (fun _ => 0))), (q16, .inl (cI, 4000, .inl (fun _ => 0))), (q20, .inl (cJ, 6, .inr (.inl (vp_updL (vp_updL (vp_updL (vp_updL (vp_updL (vp_updL (fun _ => 0) 0 (-6148914691236517206)) 1 (-3689348814741910324)) 2 (-1085102592571150096)) 3 (-71777214294589696)) 4 (-281470681808896)) 5 (-4294967296)))))] := hD
  refine va_putF (D := G) (ci := 2) (v := .ref q20) (ty := .array .long) (C := R_M) (T := F_M) (N := 13) hx hb hts in_M ty_M ty_M_ok nm_M hown hK hP hD hS 0 rfl rfl 11 (by decide) (hts _ lf_M_masks) (fun _ h9 => h9) rfl hin rfl (by decide +kernel) rfl rfl (Nat.le_of_ble_eq_true rfl) dm_init_105 (fun H locs hP hD hS => ?_)
  have hP : va_P G wt_cl [(h0, .inr (2, [.int 0, .ref q18, .ref q12, .ref q13, .ref q19, .int 0, .ref q14, .int 0, .ref q15, .int 0, .ref q16, .ref q20, .null])), (q18, .inl (cJ, 72, .inr (.inl (fun _ => 0)))), (q12, .inl (cI, 8, .inl (fun _ => 0))), (q13, .inl (cI, 8, .inl (fun _ => 0))), (q19, .inl (cJ, 16000, .inr (.inl (fun _ => 0)))), (q14, .inl (cI, 4000, .inl (fun _ => 0))), (q15, .inl (cI, 4000, .inl (fun _ => 0))), (q16, .inl (cI, 4000, .inl (fun _ => 0))), (q20, .inl (cJ, 6, .inr (.inl (vp_updL (vp_updL (vp_updL (vp_updL (vp_updL (vp_updL (fun _ => 0) 0 (-6148914691236517206)) 1 (-3689348814741910324)) 2 (-1085102592571150096)) 3 (-71777214294589696)) 4 (-281470681808896)) 5 (-4294967296)))))] H := hP
  have hD : va_D A [(h0, .inr (2, [.int 0, .ref q18, .ref q12, .ref q13, .ref q19, .int 0, .ref q14, .int 0, .ref q15, .int 0, .ref q16, .ref q20, .null])), (q18, .inl (cJ, 72, .inr (.inl (fun _ => 0)))), (q12, .inl (cI, 8, .inl (fun _ => 0))), (q13, .inl (cI, 8, .inl (fun _ => 0))), (q19, .inl (cJ, 16000, .inr (.inl (fun _ => 0)))), (q14, .inl (cI, 4000, .inl (fun _ => 0))), (q15, .inl (cI, 4000, .inl (fun _ => 0))), (q16, .inl (cI, 4000, .inl (fun _ => 0))), (q20, .inl (cJ, 6, .inr (.inl (vp_updL (vp_updL (vp_updL (vp_updL (vp_updL (vp_updL (fun _ => 0) 0 (-6148914691236517206)) 1 (-3689348814741910324)) 2 (-1085102592571150096)) 3 (-71777214294589696)) 4 (-281470681808896)) 5 (-4294967296)))))] := hD
  refine lv_aload_n hx hb dm_init_108 rfl (lv_at hl 0 rfl) ?_
  refine lv_bipush hx hb dm_init_109 kb_16 ?_
  refine nw_a (atype := .int) (ty := .int) (N' := 16) (a0 := (16, .inl (fun _ => 0))) hx hb (hts _ ma_int) rfl hK 0 rfl (fun _ h => h) hP hD hS hA (fun _ => rfl) (by decide) (by decide) (by decide) (Nat.le_of_ble_eq_true rfl) (Nat.le_of_ble_eq_true rfl) dm_init_111 (fun q17 H hP hD hS => ?_)
  have hP : va_P G wt_cl [(h0, .inr (2, [.int 0, .ref q18, .ref q12, .ref q13, .ref q19, .int 0, .ref q14, .int 0, .ref q15, .int 0, .ref q16, .ref q20, .null])), (q18, .inl (cJ, 72, .inr (.inl (fun _ => 0)))), (q12, .inl (cI, 8, .inl (fun _ => 0))), (q13, .inl (cI, 8, .inl (fun _ => 0))), (q19, .inl (cJ, 16000, .inr (.inl (fun _ => 0)))), (q14, .inl (cI, 4000, .inl (fun _ => 0))), (q15, .inl (cI, 4000, .inl (fun _ => 0))), (q16, .inl (cI, 4000, .inl (fun _ => 0))), (q20, .inl (cJ, 6, .inr (.inl (vp_updL (vp_updL (vp_updL (vp_updL (vp_updL (vp_updL (fun _ => 0) 0 (-6148914691236517206)) 1 (-3689348814741910324)) 2 (-1085102592571150096)) 3 (-71777214294589696)) 4 (-281470681808896)) 5 (-4294967296))))), (q17, .inl (cI, 16, .inl (fun _ => 0)))] H := hP
  have hD : va_D A [(h0, .inr (2, [.int 0, .ref q18, .ref q12, .ref q13, .ref q19, .int 0, .ref q14, .int 0, .ref q15, .int 0, .ref q16, .ref q20, .null])), (q18, .inl (cJ, 72, .inr (.inl (fun _ => 0)))), (q12, .inl (cI, 8, .inl (fun _ => 0))), (q13, .inl (cI, 8, .inl (fun _ => 0))), (q19, .inl (cJ, 16000, .inr (.inl (fun _ => 0)))), (q14, .inl (cI, 4000, .inl (fun _ => 0))), (q15, .inl (cI, 4000, .inl (fun _ => 0))), (q16, .inl (cI, 4000, .inl (fun _ => 0))), (q20, .inl (cJ, 6, .inr (.inl (vp_updL (vp_updL (vp_updL (vp_updL (vp_updL (vp_updL (fun _ => 0) 0 (-6148914691236517206)) 1 (-3689348814741910324)) 2 (-1085102592571150096)) 3 (-71777214294589696)) 4 (-281470681808896)) 5 (-4294967296))))), (q17, .inl (cI, 16, .inl (fun _ => 0)))] := hD
  refine W.widen (k := 9) (n := 28110) (by omega) (by omega) ?_
  refine va_putF (D := G) (ci := 2) (v := .ref q17) (ty := .array .int) (C := R_M) (T := F_M) (N := 13) hx hb hts in_M ty_M ty_M_ok nm_M hown hK hP hD hS 0 rfl rfl 12 (by decide) (hts _ lf_M_steps) (fun _ h9 => h9) rfl hin rfl (by decide +kernel) rfl rfl (Nat.le_of_ble_eq_true rfl) dm_init_113 (fun H locs hP hD hS => ?_)
  have hP : va_P G wt_cl [(h0, .inr (2, [.int 0, .ref q18, .ref q12, .ref q13, .ref q19, .int 0, .ref q14, .int 0, .ref q15, .int 0, .ref q16, .ref q20, .ref q17])), (q18, .inl (cJ, 72, .inr (.inl (fun _ => 0)))), (q12, .inl (cI, 8, .inl (fun _ => 0))), (q13, .inl (cI, 8, .inl (fun _ => 0))), (q19, .inl (cJ, 16000, .inr (.inl (fun _ => 0)))), (q14, .inl (cI, 4000, .inl (fun _ => 0))), (q15, .inl (cI, 4000, .inl (fun _ => 0))), (q16, .inl (cI, 4000, .inl (fun _ => 0))), (q20, .inl (cJ, 6, .inr (.inl (vp_updL (vp_updL (vp_updL (vp_updL (vp_updL (vp_updL (fun _ => 0) 0 (-6148914691236517206)) 1 (-3689348814741910324)) 2 (-1085102592571150096)) 3 (-71777214294589696)) 4 (-281470681808896)) 5 (-4294967296))))), (q17, .inl (cI, 16, .inl (fun _ => 0)))] H := hP
  have hD : va_D A [(h0, .inr (2, [.int 0, .ref q18, .ref q12, .ref q13, .ref q19, .int 0, .ref q14, .int 0, .ref q15, .int 0, .ref q16, .ref q20, .ref q17])), (q18, .inl (cJ, 72, .inr (.inl (fun _ => 0)))), (q12, .inl (cI, 8, .inl (fun _ => 0))), (q13, .inl (cI, 8, .inl (fun _ => 0))), (q19, .inl (cJ, 16000, .inr (.inl (fun _ => 0)))), (q14, .inl (cI, 4000, .inl (fun _ => 0))), (q15, .inl (cI, 4000, .inl (fun _ => 0))), (q16, .inl (cI, 4000, .inl (fun _ => 0))), (q20, .inl (cJ, 6, .inr (.inl (vp_updL (vp_updL (vp_updL (vp_updL (vp_updL (vp_updL (fun _ => 0) 0 (-6148914691236517206)) 1 (-3689348814741910324)) 2 (-1085102592571150096)) 3 (-71777214294589696)) 4 (-281470681808896)) 5 (-4294967296))))), (q17, .inl (cI, 16, .inl (fun _ => 0)))] := hD
  have loop : ∀ (d k : Nat) (H : Heap) (locs : List Loc) (ls : Array Slot), k + d = 8 → va_P G wt_cl (i9_M cI cJ (fun k => match k with | 11 => h0 | 12 => q12 | 13 => q13 | 14 => q14 | 15 => q15 | 16 => q16 | 17 => q17 | 18 => q18 | 19 => q19 | _ => q20) (fun i => if i < k then nI i else 0) i0_mk) H → va_D A (i9_M cI cJ (fun k => match k with | 11 => h0 | 12 => q12 | 13 => q13 | 14 => q14 | 15 => q15 | 16 => q16 | 17 => q17 | 18 => q18 | 19 => q19 | _ => q20) (fun i => if i < k then nI i else 0) i0_mk) → va_S A s.heap H locs → lv_has ls 2 [(0, .ref h0), (1, .int (nI k))] →
      W p l e { frames := 1, cells := 9, slots := 28110, locals := 64 } s m ([Value.ref h0] : List Value).toArray below meth c H locs 9 28110 (MQ below (va_Qv (fun f : Nat → Nat => f 11 = h0) (fun f t => va_P G wt_cl (i9_M cI cJ f i0_id i0_mk) t.heap ∧ va_D A (i9_M cI cJ f i0_id i0_mk)) A) ([Value.ref h0] : List Value).toArray s 9 28110 A) (F0 m 118 ls []) := by
    intro d
    induction d with
    | zero =>
      intro k H locs ls hk hP hD hS hl
      have hk : k = 8 := by omega
      subst hk
      refine lv_iload_n hx hb dm_init_118 rfl (lv_at hl 1 rfl) ?_
      refine lv_bipush hx hb dm_init_119 kb_8 ?_
      refine lv_icmp_ge (tgt := 137) hx hb dm_init_121 rfl (fun _ => ?_) (fun hc => absurd (by decide : (8 : Int32) ≤ nI 8) hc)
      exact W.vret hx hb hr (fun t ht hW => ⟨⟨(fun k => match k with | 11 => h0 | 12 => q12 | 13 => q13 | 14 => q14 | 15 => q15 | 16 => q16 | 17 => q17 | 18 => q18 | 19 => q19 | _ => q20), rfl, rfl, by rw [ht]; exact hP, hD⟩, hS.F ht⟩) hS.2.2 dm_init_137
    | succ d ih =>
      intro k H locs ls hk hP hD hS hl
      refine lv_iload_n hx hb dm_init_118 rfl (lv_at hl 1 rfl) ?_
      refine lv_bipush hx hb dm_init_119 kb_8 ?_
      refine lv_icmp_ge (tgt := 137) hx hb dm_init_121 rfl (fun hc => absurd hc (nI_ge (show k < 8 by omega) (by decide))) (fun _ => ?_)
      refine lv_aload_n hx hb dm_init_124 rfl (lv_at hl 0 rfl) ?_
      refine va_get (D := G) (ci := 2) (v := .ref q12) (C := R_M) (T := F_M) (N := 13) hx hb hts in_M hown hK hP 0 rfl rfl 2 (by decide) (hts _ lf_M_levels) (fun _ h9 => h9) rfl dm_init_125 ?_
      refine lv_iload_n hx hb dm_init_128 rfl (lv_at hl 1 rfl) ?_
      refine lv_iload_n hx hb dm_init_129 rfl (lv_at hl 1 rfl) ?_
      refine va_iast hx hb hK hP hD hS 2 0 (n := 8) (f := (fun i => if i < k then nI i else 0)) rfl rfl (nI_in (show k < 8 by omega) (by decide)) dm_init_130 (fun H locs hP hD hS => ?_)
      rw [nI_clamp (by omega), i0_up] at hP hD
      have hP : va_P G wt_cl (i9_M cI cJ (fun k => match k with | 11 => h0 | 12 => q12 | 13 => q13 | 14 => q14 | 15 => q15 | 16 => q16 | 17 => q17 | 18 => q18 | 19 => q19 | _ => q20) (fun i => if i < k + 1 then nI i else 0) i0_mk) H := hP
      have hD : va_D A (i9_M cI cJ (fun k => match k with | 11 => h0 | 12 => q12 | 13 => q13 | 14 => q14 | 15 => q15 | 16 => q16 | 17 => q17 | 18 => q18 | 19 => q19 | _ => q20) (fun i => if i < k + 1 then nI i else 0) i0_mk) := hD
      refine lv_iinc (k := 1) (v := nI (k + 1)) hx hb dm_init_131 hl rfl (nI_succ k).symm (by decide) rfl (fun ls2 h2 => ?_)
      refine lv_goto (tgt := 118) hx hb dm_init_134 rfl ?_
      exact ih (k + 1) H locs ls2 (by omega) hP hD hS (lv_sub h2 [1, 0] rfl)
  refine lv_iconst hx hb dm_init_116 ki_0 ?_
  refine lv_istore_n hx hb dm_init_117 rfl hl (by decide) rfl (fun ls h2 => ?_)
  exact loop 8 0 H locs ls rfl hP hD hS (lv_sub h2 [1, 0] rfl)
set_option maxHeartbeats 4000000 in
set_option maxRecDepth 100000 in
theorem c_X (l : Launch) (G : va_G) (cI cZ cJ : ClassId) (h0 sz : Nat) : Met l yx_init (Cond.code yx_init bx_init 1 none :: wt_WS) { frames := 3, cells := 10, slots := 10545, locals := 192 } (i9_Pc h0 sz 0 [.null] G (i9_ty cI cZ cJ)) (va_Qv (fun f : Nat → Nat => f 0 = h0) (fun f t => va_P G wt_cl ((f 0, .inr (0, [.ref (f 1)])) :: i9_D cI cZ f i0_id i0_lv i0_lb) t.heap ∧ va_D (va_A [(h0, .inr (0, [.null]))] sz) ((f 0, .inr (0, [.ref (f 1)])) :: i9_D cI cZ f i0_id i0_lv i0_lb)) (va_A [(h0, .inr (0, [.null]))] sz)) 10 10545 (va_A [(h0, .inr (0, [.null]))] sz) := by
  refine Met.ofW (cc := bx_init) (maxL := 1) (ret := none) (by decide) rfl ?_
  intro p e s m args below meth c s₁ B hml hv
  obtain ⟨rfl, hsz, hP, hK, hD0⟩ := hv
  have hx := B.exec
  have hb := B.bytes
  have hr := B.returns
  have hts : ∀ w ∈ wt_WS, w.before ([Value.ref h0] : List Value).toArray s = true := fun w hw => atoms_spec (ws := Cond.code yx_init bx_init 1 none :: wt_WS) B.pre w (List.mem_cons_of_mem _ hw)
  have hown : s.vm.findClass R_X = some m.cls := findClass_of_methodNamed B.named
  have hlocks := B.notSynchronized
  have hin : meth.name = "<init>" := (name_of_methodNamed B.named B.method).1
  subst hsz
  have hD := hD0.self (sz := s.heap.size)
  generalize hAe : va_A [(h0, .inr (0, [.null]))] s.heap.size = A at hD ⊢
  have hA : ∀ q : Nat, s.heap.size ≤ q → A q := fun q h => by rw [← hAe]; exact Or.inr h
  have hS : va_S A s.heap s.heap [] := va_S.rf
  have hl := lv_entry ([.ref h0]) (n := 1) (Nat.le_of_ble_eq_true rfl)
  rw [lg_entry_eq]
  generalize (lg_sl ([.ref h0]) ++ List.replicate (1 - (lg_sl ([.ref h0])).length) Slot.unset).toArray = ls at hl ⊢
  have hl : lv_has ls 1 [(0, .ref h0)] := hl
  refine lv_aload_n hx hb dx_init_0 rfl (lv_at hl 0 rfl) ?_
  refine W.objInit hx hb hown (hts _ mo_X) (hts _ mo_n) (hts _ mo_c) rfl (by rw [hml]; exact hl.1) rfl dx_init_1 (Nat.le_of_ble_eq_true rfl) (Nat.le_of_ble_eq_true rfl) ?_
  refine W.eq (g2 := F0 m 4 ls []) rfl ?_
  have hP : va_P G wt_cl [(h0, .inr (0, [.null]))] s.heap := hP
  have hD : va_D A [(h0, .inr (0, [.null]))] := hD
  refine lv_aload_n hx hb dx_init_4 rfl (lv_at hl 0 rfl) ?_
  refine va_new (ci := 1) (fs := i9_nD) (C := R_D) (T := F_D) (N := 12) hx hb hts in_D ty_D ty_D_ok hown (hts _ mk_X_D) (hts _ mq_D) (hts _ mi_D) hK hP hD hS hA rfl (fun j hj => by rcases (show j = 0 ∨ j = 1 ∨ j = 2 ∨ j = 3 ∨ j = 4 ∨ j = 5 ∨ j = 6 ∨ j = 7 ∨ j = 8 ∨ j = 9 ∨ j = 10 ∨ j = 11 by omega) with rfl | rfl | rfl | rfl | rfl | rfl | rfl | rfl | rfl | rfl | rfl | rfl <;> rfl) (Nat.le_of_ble_eq_true rfl) (Nat.le_of_ble_eq_true rfl) dx_init_5 (fun q5 H hP hD hS => ?_)
  have hP : va_P G wt_cl [(h0, .inr (0, [.null])), (q5, .inr (1, i9_nD))] H := hP
  have hD : va_D A [(h0, .inr (0, [.null])), (q5, .inr (1, i9_nD))] := hD
  refine W.widen (k := 1) (n := 12) (by omega) (by omega) ?_
  refine lv_dup hx hb dx_init_8 rfl ?_
  have hPc := hP.sub (ws' := [(q5, .inr (1, i9_nD))]) [1] rfl
  have hDc := hD.sub (ws' := [(q5, .inr (1, i9_nD))]) [1] (by decide) rfl
  have hFc := va_free (wc := [(q5, .inr (1, i9_nD))]) hD hS hA [1] rfl
  refine va_callv (va_runI (As := []) (rest := [.ref q5, .ref h0]) ⟨hx, hb, hml, hown, hts⟩ (c_D l G cI cZ cJ q5 H.size) (cwI 0 hts (wt_good mc_d_init) rfl rfl rfl (hts _ mi_D) (hts _ ml_X_d_init) (hts _ mn_d_init) rfl (by decide +kernel) ⟨Nat.le_of_ble_eq_true rfl, Nat.le_of_ble_eq_true rfl⟩) ⟨i9_bl, fun U hU hW => ⟨rfl, by rw [hU], by rw [hU]; exact hPc, va_K.moved hW.alike hK, hDc.weaken (fun _ _ _ _ => trivial)⟩⟩ rfl rfl hl.1 rfl (lv_room (Nat.le_of_ble_eq_true rfl)) dx_init_9 ⟨Nat.le_of_ble_eq_true rfl, Nat.le_of_ble_eq_true rfl⟩) hS (fun q _ h => hFc q h) hFc (fun f t H1 locs ht hvm hf hB hz1 hk1 hS => ?_)
  obtain ⟨hP1, hD1⟩ := hB
  rw [ht] at hP1
  obtain ⟨hP, hD⟩ := va_join (wr := [(h0, .inr (0, [.null]))]) (w1 := i9_D cI cZ f i0_id i0_lv i0_lb) hP hD [1] [0] rfl rfl (by decide) (by decide) hk1 hFc hP1 hD1
  generalize H1 = H at hP hS ⊢
  have hP : va_P G wt_cl ((h0, .inr (0, [.null])) :: i9_D cI cZ f i0_id i0_lv i0_lb) H := hP
  have hD : va_D A ((h0, .inr (0, [.null])) :: i9_D cI cZ f i0_id i0_lv i0_lb) := hD
  refine va_putF (D := G) (ci := 0) (v := .ref q5) (ty := .object "SymbolicChecker$Diagrams") (C := R_X) (T := F_X) (N := 1) hx hb hts in_X ty_X ty_X_ok nm_X hown hK hP hD hS 0 rfl rfl 0 (by decide) (hts _ lf_X_diagrams) (fun _ h9 => h9) rfl hin rfl (by decide +kernel) rfl rfl (Nat.le_of_ble_eq_true rfl) dx_init_12 (fun H locs hP hD hS => ?_)
  rw [← hf] at hP hD
  refine W.widen (k := 10) (n := 10545) (by omega) (by omega) ?_
  exact W.vret hx hb hr (fun t ht hW => ⟨⟨fun k => if k = 0 then h0 else f k, rfl, rfl, by rw [ht]; exact hP, hD⟩, hS.F ht⟩) hS.2.2 dx_init_15
