/-! tell of the reference; put and tell together. My own. -/
def tl_ (t : wt_M) (C : List mb_F) (X : List Nat) (L : Nat) : Prop := t.1 9 3 = nI X.length ∧ (∀ (k c : Nat), X[k]? = some c → t.1 3 k = nI c) ∧ X.Nodup ∧ (∀ c, c ∈ X → c < C.length) ∧ ∀ c, c < C.length → (c ∈ X ∧ t.1 4 c = nI L) ∨ (c ∉ X ∧ (t.1 4 c = -1 ∨ ∃ l, l < L ∧ t.1 4 c = nI l))
/-- what the count of nodes leaves as it was -/
def qk_ (t t' : wt_M) : Prop := (∀ j, t'.2 0 j = t.2 0 j) ∧ (∀ j, t'.2 2 j = t.2 2 j) ∧ (∀ r j, r ≠ 3 → r ≠ 4 → r ≠ 9 → t'.1 r j = t.1 r j) ∧ ∀ j, j ≠ 1 → j ≠ 3 → t'.1 9 j = t.1 9 j
theorem qk_rf (t : wt_M) : qk_ t t := ⟨fun _ => rfl, fun _ => rfl, fun _ _ _ _ _ => rfl, fun _ _ _ => rfl⟩
theorem qk_tr {a b c : wt_M} (h : qk_ a b) (k : qk_ b c) : qk_ a c := ⟨fun j => (k.1 j).trans (h.1 j), fun j => (k.2.1 j).trans (h.2.1 j), fun r j x y z => (k.2.2.1 r j x y z).trans (h.2.2.1 r j x y z), fun j x y => (k.2.2.2 j x y).trans (h.2.2.2 j x y)⟩
theorem qk_pk {m : Nat} {t t' : wt_M} (h : pk_ m t t') : qk_ t t' := ⟨h.1, h.2.1, fun r j _ y z => h.2.2.1 r j y z, fun j x _ => h.2.2.2.2 j x⟩
variable {t : wt_M} {C : List mb_F} {X : List Nat} {L : Nat}
theorem X_len (h : tl_ t C X L) : X.length ≤ C.length := by
  have := ph_len X (List.range C.length) h.2.2.1 (fun c hc => List.mem_range.mpr (h.2.2.2.1 c hc))
  rwa [List.length_range] at this
theorem tell_no (t : wt_M) (l : Int32) : fm_tell t (-1) l = some t := by
  rw [fm_tell, jn_, if_pos (by decide)]
theorem tell_ok (hn : nt_ t C) (h : tl_ t C X L) (hL : L < 100) (hC : C.length < 4000) {c : Nat} (hc : c < C.length) : ∃ (t' : wt_M) (X' : List Nat), fm_tell t (nI c) (nI L) = some t' ∧ nt_ t' C ∧ tl_ t' C X' L ∧ qk_ t t' ∧ (∀ d, d ∈ X' ↔ d ∈ X ∨ d = c) := by
  obtain ⟨h1, h2, h3, h4, h5⟩ := id h
  have xl := X_len h
  rw [fm_tell, jn_, if_neg (nI_pos (by omega)), rc_at (by omega) (by decide)]
  rcases h5 c hc with ⟨cx, e⟩ | ⟨cx, e⟩
  · rw [e, if_pos (nI_le (Nat.le_refl _) (by omega))]
    exact ⟨t, X, rfl, hn, h, qk_rf t, fun d => ⟨Or.inl, fun z => z.elim id (fun y => y ▸ cx)⟩⟩
  · have nle : ¬ nI L ≤ t.1 4 c := by
      rcases e with e | ⟨l, hl, e⟩
      · rw [e]
        intro z
        have := Int32.le_iff_toInt_le.mp z
        rw [nI_toInt (by omega)] at this
        have e1 : (-1 : Int32).toInt = -1 := by decide
        omega
      · rw [e]; exact nI_ge hl (by omega)
    rw [if_neg nle, wc_T (by omega) (by decide)]
    have e3 : pu_S t.1 4 c (nI L) 9 3 = nI X.length := by rw [pu_row (by decide)]; exact h1
    show ∃ t' X', (wr_T (pu_S t.1 4 c (nI L), t.2) 3 4000 (pu_S t.1 4 c (nI L) 9 3) (nI c) fun t30 => sp_T t30 3 ((t30.1 9 3) + (1 : Int32)) fun t38 => some t38) = some t' ∧ _
    rw [e3, wc_T (by omega) (by decide), sp_T]
    have e4 : pu_S (pu_S t.1 4 c (nI L)) 3 X.length (nI c) 9 3 = nI X.length := by rw [pu_row (by decide)]; exact e3
    show ∃ t' X', some (pu_S (pu_S (pu_S t.1 4 c (nI L)) 3 X.length (nI c)) 9 3 (pu_S (pu_S t.1 4 c (nI L)) 3 X.length (nI c) 9 3 + 1), t.2) = some t' ∧ _
    rw [e4, nI_1]
    refine ⟨_, X ++ [c], rfl, ⟨?_, hn.2.1, hn.2.2.1, hn.2.2.2⟩, ⟨?_, fun k d hk => ?_, ?_, fun d hd => ?_, fun d hd => ?_⟩, ⟨fun _ => rfl, fun _ => rfl, fun r j x y z => ?_, fun j x y => ?_⟩, fun d => ?_⟩
    · show pu_S (pu_S (pu_S t.1 4 c (nI L)) 3 X.length (nI c)) 9 3 (nI (X.length + 1)) 9 1 = _
      rw [pu_ne (by decide), pu_row (by decide), pu_row (by decide)]; exact hn.1
    · show pu_S (pu_S (pu_S t.1 4 c (nI L)) 3 X.length (nI c)) 9 3 (nI (X.length + 1)) 9 3 = _
      rw [pu_eq, List.length_append]
      rfl
    · show pu_S (pu_S (pu_S t.1 4 c (nI L)) 3 X.length (nI c)) 9 3 (nI (X.length + 1)) 3 k = _
      rw [pu_row (by decide)]
      rcases Nat.lt_or_ge k X.length with z | z
      · rw [List.getElem?_append_left z] at hk
        rw [pu_ne (by omega), pu_row (by decide)]; exact h2 k d hk
      · have : k < (X ++ [c]).length := (List.getElem?_eq_some_iff.mp hk).1
        rw [List.length_append] at this
        have ke : k = X.length := by
          simp at this
          omega
        subst ke
        rw [List.getElem?_append_right (Nat.le_refl _), Nat.sub_self] at hk
        cases hk
        rw [pu_eq]
    · refine List.nodup_append.mpr ⟨h3, List.nodup_cons.mpr ⟨List.not_mem_nil, List.nodup_nil⟩, fun a ha b hb => ?_⟩
      rw [List.mem_singleton.mp hb]
      exact fun z => cx (z ▸ ha)
    · rcases List.mem_append.mp hd with z | z
      · exact h4 d z
      · rw [List.mem_singleton.mp z]; exact hc
    · show (d ∈ X ++ [c] ∧ pu_S (pu_S (pu_S t.1 4 c (nI L)) 3 X.length (nI c)) 9 3 (nI (X.length + 1)) 4 d = nI L) ∨ (d ∉ X ++ [c] ∧ (pu_S (pu_S (pu_S t.1 4 c (nI L)) 3 X.length (nI c)) 9 3 (nI (X.length + 1)) 4 d = -1 ∨ ∃ l, l < L ∧ pu_S (pu_S (pu_S t.1 4 c (nI L)) 3 X.length (nI c)) 9 3 (nI (X.length + 1)) 4 d = nI l))
      rw [pu_row (by decide), pu_row (by decide)]
      by_cases dc : d = c
      · subst dc
        exact Or.inl ⟨List.mem_append_right _ (List.mem_singleton.mpr rfl), pu_eq _ _ _ _⟩
      · rw [pu_ne dc]
        rcases h5 d hd with z | z
        · exact Or.inl ⟨List.mem_append_left _ z.1, z.2⟩
        · exact Or.inr ⟨fun y => (List.mem_append.mp y).elim z.1 (fun w => dc (List.mem_singleton.mp w)), z.2⟩
    · show pu_S (pu_S (pu_S t.1 4 c (nI L)) 3 X.length (nI c)) 9 3 (nI (X.length + 1)) r j = _
      rw [pu_row z, pu_row x, pu_row y]
    · show pu_S (pu_S (pu_S t.1 4 c (nI L)) 3 X.length (nI c)) 9 3 (nI (X.length + 1)) 9 j = _
      rw [pu_ne y, pu_row (by decide), pu_row (by decide)]
    · rw [List.mem_append, List.mem_singleton]
/-- put and tell -/
theorem pt_ok {q : Nat} {f : mb_F} (hq : q < 18) (hn : nt_ t C) (h : tl_ t C X L) (hL : L < 100) (hC : C.length < 3999) (hf : mb_on f (fun v => v < 8)) (ht : ∀ x, x < 256 → tb_ t q x = f x.testBit) (G : wt_M → Option (Int32 × wt_M)) : ∃ (t' : wt_M) (C' : List mb_F) (X' : List Nat), (b_IT (fm_put t (nI (4 * q))) fun r22 t22 => b_T (fm_tell t22 r22 (nI L)) fun t26 => G t26) = G t' ∧ nt_ t' C' ∧ tl_ t' C' X' L ∧ qk_ t t' ∧ (∀ (c : Nat) (u : mb_F), C[c]? = some u → C'[c]? = some u) ∧ (∀ u, u ∈ C' → u ∈ C ∨ (u = f ∧ nk_ f)) ∧ (∀ c, c ∈ X → c ∈ X') ∧ (∀ c, c ∈ X' → c ∈ X ∨ (C'[c]? = some f)) ∧ (nk_ f → ∃ c, c ∈ X' ∧ C'[c]? = some f) := by
  obtain ⟨p1, p2, p3⟩ := put_ok hq hn (by omega) hf ht
  by_cases k : nk_ f
  · by_cases m : f ∈ C
    · obtain ⟨c, hc⟩ := List.getElem?_of_mem m
      have cl : c < C.length := (List.getElem?_eq_some_iff.mp hc).1
      obtain ⟨t', X', e, n', l', qk, xs⟩ := tell_ok hn h hL (by omega) cl
      rw [p2 c k hc, bIT_some, e, bT_some]
      exact ⟨t', C, X', rfl, n', l', qk, fun _ _ z => z, fun u z => Or.inl z, fun d z => (xs d).mpr (Or.inl z), fun d z => ((xs d).mp z).elim Or.inl (fun y => Or.inr (y ▸ hc)), fun _ => ⟨c, (xs c).mpr (Or.inr rfl), hc⟩⟩
    · obtain ⟨t1, e1, n1, k1, m1⟩ := p3 k m
      have h1 : tl_ t1 (C ++ [f]) X L := by
        obtain ⟨a1, a2, a3, a4, a5⟩ := h
        refine ⟨by rw [k1.2.2.2.2 3 (by decide)]; exact a1, fun j c z => by rw [k1.2.2.1 3 j (by decide) (by decide)]; exact a2 j c z, a3, fun c z => by rw [List.length_append]; have := a4 c z; omega, fun c hc => ?_⟩
        by_cases e : c = C.length
        · subst e
          refine Or.inr ⟨fun z => ?_, Or.inl m1⟩
          have := a4 _ z
          omega
        · rw [List.length_append] at hc
          have hc' : c < C.length := by
            simp at hc
            omega
          rw [k1.2.2.2.1 c e]
          exact a5 c hc'
      obtain ⟨t', X', e, n', l', qk, xs⟩ := tell_ok n1 h1 hL (by rw [List.length_append]; show C.length + 1 < 4000; omega) (show C.length < (C ++ [f]).length by rw [List.length_append]; show C.length < C.length + 1; omega)
      rw [e1, bIT_some, e, bT_some]
      have last : (C ++ [f])[C.length]? = some f := by
        rw [List.getElem?_append_right (Nat.le_refl _), Nat.sub_self]
        rfl
      refine ⟨t', C ++ [f], X', rfl, n', l', qk_tr (qk_pk k1) qk, fun c u z => ?_, fun u z => ?_, fun d z => (xs d).mpr (Or.inl z), fun d z => ((xs d).mp z).elim Or.inl (fun y => Or.inr (by rw [y]; exact last)), fun _ => ⟨C.length, (xs _).mpr (Or.inr rfl), last⟩⟩
      · rw [List.getElem?_append_left (List.getElem?_eq_some_iff.mp z).1]; exact z
      · rcases List.mem_append.mp z with y | y
        · exact Or.inl y
        · exact Or.inr ⟨List.mem_singleton.mp y, k⟩
  · rw [p1 k, bIT_some, tell_no, bT_some]
    exact ⟨t, C, X, rfl, hn, h, qk_rf t, fun _ _ z => z, fun u z => Or.inl z, fun _ z => z, fun _ z => Or.inl z, fun z => absurd z k⟩
