/-! Chains of sets; until, always and formulaOf of the reference. My own. -/
def sb_ (A B : Nat) : Prop := ∀ i, i < 16 → A.testBit i = true → B.testBit i = true
def pp_ (Z : Nat) : Nat := sm_s (fun k => (Z.testBit k).toNat) 16
theorem sm_le {f g : Nat → Nat} : ∀ n, (∀ x, x < n → f x ≤ g x) → sm_s f n ≤ sm_s g n := by
  intro n
  induction n with
  | zero => intro _; exact Nat.le_refl _
  | succ n ih =>
    intro h
    have a := ih fun x hx => h x (by omega)
    have b := h n (by omega)
    show sm_s f n + f n ≤ sm_s g n + g n
    omega
theorem sm_lt {f g : Nat → Nat} {j : Nat} (hj : f j < g j) : ∀ n, j < n → (∀ x, x < n → f x ≤ g x) → sm_s f n < sm_s g n := by
  intro n
  induction n with
  | zero => intro h; omega
  | succ n ih =>
    intro h1 h
    show sm_s f n + f n < sm_s g n + g n
    have b := h n (by omega)
    by_cases c : j = n
    · have a := sm_le n fun x hx => h x (Nat.lt_succ_of_lt hx)
      rw [← c] at a ⊢
      omega
    · have a := ih (by omega) fun x hx => h x (by omega)
      omega
theorem pp_16 (Z : Nat) : pp_ Z ≤ 16 := by
  have := sm_le (f := fun k => (Z.testBit k).toNat) (g := fun _ => 1) 16 (fun x _ => by
    (try dsimp only)
    cases Z.testBit x <;> decide)
  exact this
theorem pp_lt {A B : Nat} (hA : A < 65536) (hB : B < 65536) (h : sb_ A B) (ne : A ≠ B) : pp_ A < pp_ B := by
  have : ∃ j, j < 16 ∧ A.testBit j ≠ B.testBit j := by
    apply Classical.byContradiction
    intro c
    exact ne (bx_ext (n := 16) hA hB fun i hi => Classical.byContradiction fun z => c ⟨i, hi, z⟩)
  obtain ⟨j, hj, hne⟩ := this
  refine sm_lt (j := j) ?_ 16 hj (fun x hx => ?_)
  · (try dsimp only)
    cases ha : A.testBit j
    · cases hb : B.testBit j
      · rw [ha, hb] at hne; exact absurd rfl hne
      · decide
    · rw [ha, h j hj ha] at hne; exact absurd rfl hne
  · (try dsimp only)
    cases ha : A.testBit x
    · exact Nat.zero_le _
    · rw [h x hx ha]; exact Nat.le_refl _
theorem sb_eq {A B : Nat} (hA : A < 65536) (hB : B < 65536) (h : sb_ A B) (k : sb_ B A) : A = B := bx_ext (n := 16) hA hB fun i hi => Bool.eq_iff_iff.mpr ⟨h i hi, k i hi⟩
theorem sb_tr {A B C : Nat} (h : sb_ A B) (k : sb_ B C) : sb_ A C := fun i hi z => k i hi (h i hi z)
section FX
variable {f : mb_F} {P Q : Nat}
theorem pr_mono {A B : Nat} (h : sb_ A B) : sb_ (pr_ f A) (pr_ f B) := fun i hi z => by
  obtain ⟨u, h1, h2, h3⟩ := (pr_bit f A hi).mp z
  exact (pr_bit f B hi).mpr ⟨u, h1, h u h1 h2, h3⟩
theorem nx_bit' (Z i : Nat) : (nx_ f P Q Z).testBit i = (Q.testBit i || (P.testBit i && (pr_ f Z).testBit i)) := by
  unfold nx_
  rw [Nat.testBit_or, Nat.testBit_and]
theorem nx_mono {A B : Nat} (h : sb_ A B) : sb_ (nx_ f P Q A) (nx_ f P Q B) := fun i hi z => by
  rw [nx_bit'] at z ⊢
  cases hq : Q.testBit i
  · rw [hq, Bool.false_or] at z
    obtain ⟨z1, z2⟩ := (Bool.and_eq_true _ _).mp z
    rw [Bool.false_or, z1, pr_mono h i hi z2]; rfl
  · rfl
theorem it_suc : ∀ (d Z : Nat), it_ f P Q (d + 1) Z = nx_ f P Q (it_ f P Q d Z) := by
  intro d
  induction d with
  | zero => intro Z; rfl
  | succ d ih => intro Z; exact ih (nx_ f P Q Z)
theorem it_add : ∀ (j e Z : Nat), it_ f P Q (j + e) Z = it_ f P Q e (it_ f P Q j Z) := by
  intro j
  induction j with
  | zero => intro e Z; rw [Nat.zero_add]; rfl
  | succ j ih =>
    intro e Z
    rw [show j + 1 + e = (j + e) + 1 by omega]
    exact ih e (nx_ f P Q Z)
theorem it_lt (hP : P < 65536) (hQ : Q < 65536) {Z : Nat} (hZ : Z < 65536) : ∀ d, it_ f P Q d Z < 65536 := by
  intro d
  cases d with
  | zero => exact hZ
  | succ d => rw [it_suc]; exact nx_lt hQ hP
theorem it_stop {Z : Nat} (h : ∃ j, j < 17 ∧ it_ f P Q (j + 1) Z = it_ f P Q j Z) : it_ f P Q 17 Z = it_ f P Q 16 Z := by
  obtain ⟨j, hj, e⟩ := h
  rw [it_suc] at e
  have a := it_add (f := f) (P := P) (Q := Q) j (17 - j) Z
  have b := it_add (f := f) (P := P) (Q := Q) j (16 - j) Z
  rw [show j + (17 - j) = 17 by omega, it_fix e] at a
  rw [show j + (16 - j) = 16 by omega, it_fix e] at b
  rw [a, b]
theorem it_inc (hP : P < 65536) (hQ : Q < 65536) {Z : Nat} (hZ : Z < 65536) (h0 : sb_ Z (nx_ f P Q Z)) : it_ f P Q 17 Z = it_ f P Q 16 Z := by
  have inc : ∀ d, sb_ (it_ f P Q d Z) (it_ f P Q (d + 1) Z) := by
    intro d
    induction d with
    | zero => exact h0
    | succ d ih => rw [it_suc (d + 1), it_suc d]; rw [it_suc d] at ih; exact nx_mono ih
  apply it_stop
  apply Classical.byContradiction
  intro no
  have key : ∀ d, d ≤ 17 → d ≤ pp_ (it_ f P Q d Z) := by
    intro d
    induction d with
    | zero => intro _; exact Nat.zero_le _
    | succ d ih =>
      intro hd
      have := pp_lt (it_lt hP hQ hZ d) (it_lt hP hQ hZ (d + 1)) (inc d) (fun e => no ⟨d, by omega, e.symm⟩)
      have := ih (by omega)
      omega
  have := key 17 (Nat.le_refl _)
  have := pp_16 (it_ f P Q 17 Z)
  omega
theorem it_dec (hP : P < 65536) (hQ : Q < 65536) {Z : Nat} (hZ : Z < 65536) (h0 : sb_ (nx_ f P Q Z) Z) : it_ f P Q 17 Z = it_ f P Q 16 Z := by
  have dec : ∀ d, sb_ (it_ f P Q (d + 1) Z) (it_ f P Q d Z) := by
    intro d
    induction d with
    | zero => exact h0
    | succ d ih => rw [it_suc (d + 1), it_suc d]; rw [it_suc d] at ih; exact nx_mono ih
  apply it_stop
  apply Classical.byContradiction
  intro no
  have key : ∀ d, d ≤ 17 → d + pp_ (it_ f P Q d Z) ≤ 16 := by
    intro d
    induction d with
    | zero => intro _; rw [Nat.zero_add]; exact pp_16 _
    | succ d ih =>
      intro hd
      have := pp_lt (it_lt hP hQ hZ (d + 1)) (it_lt hP hQ hZ d) (dec d) (fun e => no ⟨d, by omega, e⟩)
      have := ih (by omega)
      omega
  have := key 17 (Nat.le_refl _)
  omega
def un_ (f : mb_F) (P : Nat) : Nat → Nat → Nat
  | 0, Z => Z
  | d + 1, Z => un_ f P d (Z ||| (P &&& pr_ f Z))
def al_ (f : mb_F) : Nat → Nat → Nat
  | 0, Z => Z
  | d + 1, Z => al_ f d (Z &&& pr_ f Z)
theorem un_it (hP : P < 65536) (hQ : Q < 65536) : ∀ (d Z : Nat), Z < 65536 → sb_ Q Z → sb_ Z (nx_ f P Q Z) → un_ f P d Z = it_ f P Q d Z := by
  intro d
  induction d with
  | zero => intro Z _ _ _; rfl
  | succ d ih =>
    intro Z hZ h1 h2
    have e : Z ||| (P &&& pr_ f Z) = nx_ f P Q Z := bx_ext (n := 16) (or_lt hZ (an_lt hP)) (nx_lt hQ hP) fun i hi => by
      have a := h1 i hi
      have b := h2 i hi
      rw [nx_bit'] at b ⊢
      rw [Nat.testBit_or, Nat.testBit_and]
      revert a b
      cases Z.testBit i <;> cases Q.testBit i <;> cases P.testBit i <;> cases (pr_ f Z).testBit i <;> simp
    show un_ f P d (Z ||| (P &&& pr_ f Z)) = it_ f P Q d (nx_ f P Q Z)
    rw [e]
    exact ih _ (nx_lt hQ hP) (fun i hi z => by rw [nx_bit', z]; rfl) (nx_mono h2)
theorem al_it (hP : P < 65536) : ∀ (d Z : Nat), Z < 65536 → sb_ Z P → sb_ (nx_ f P 0 Z) Z → al_ f d Z = it_ f P 0 d Z := by
  intro d
  induction d with
  | zero => intro Z _ _ _; rfl
  | succ d ih =>
    intro Z hZ h1 h2
    have e : Z &&& pr_ f Z = nx_ f P 0 Z := bx_ext (n := 16) (an_lt hZ) (nx_lt (by decide) hP) fun i hi => by
      have a := h1 i hi
      have b := h2 i hi
      rw [nx_bit', Nat.zero_testBit] at b ⊢
      rw [Nat.testBit_and]
      revert a b
      cases Z.testBit i <;> cases P.testBit i <;> cases (pr_ f Z).testBit i <;> simp
    show al_ f d (Z &&& pr_ f Z) = it_ f P 0 d (nx_ f P 0 Z)
    rw [e]
    exact ih _ (nx_lt (by decide) hP) (fun i hi z => by
      rw [nx_bit', Nat.zero_testBit, Bool.false_or] at z
      exact ((Bool.and_eq_true _ _).mp z).1) (nx_mono h2)
theorem un_17 (hP : P < 65536) (hQ : Q < 65536) : it_ f P Q 17 Q = un_ f P 16 Q := by
  have h : sb_ Q (nx_ f P Q Q) := fun i hi z => by rw [nx_bit', z]; rfl
  rw [it_inc hP hQ hQ h, un_it hP hQ 16 Q hQ (fun _ _ z => z) h]
theorem al_17 (hP : P < 65536) : it_ f P 0 17 P = al_ f 16 P := by
  have h : sb_ (nx_ f P 0 P) P := fun i hi z => by
    rw [nx_bit', Nat.zero_testBit, Bool.false_or] at z
    exact ((Bool.and_eq_true _ _).mp z).1
  rw [it_dec hP (by decide) hP h, al_it hP 16 P hP (fun _ _ z => z) h]
theorem un_lt (hP : P < 65536) : ∀ (d Z : Nat), Z < 65536 → un_ f P d Z < 65536 := by
  intro d
  induction d with
  | zero => intro Z h; exact h
  | succ d ih => intro Z h; exact ih _ (or_lt h (an_lt hP))
theorem al_lt : ∀ (d Z : Nat), Z < 65536 → al_ f d Z < 65536 := by
  intro d
  induction d with
  | zero => intro Z h; exact h
  | succ d ih => intro Z h; exact ih _ (an_lt h)
variable {t : wt_M}
theorem un_loop (h : lt_ t f) (hP : P < 65536) : ∀ (d n k Z : Nat), k + d = 16 → d < n → Z < 65536 → fm_until_L5 t (nI P) n (nI Z) (nI k) = some (nI (un_ f P d Z)) := by
  intro d
  induction d with
  | zero =>
    intro n k Z h1 hn hZ
    cases n with
    | zero => omega
    | succ n =>
      have e : k = 16 := by omega
      subst e
      rw [fm_until_L5, if_pos t16]
      rfl
  | succ d ih =>
    intro n k Z h1 hn hZ
    cases n with
    | zero => omega
    | succ n =>
      rw [fm_until_L5, if_neg (n16 (by omega)), stt_ok h hZ, bI_some, nI_and, nI_or, nI_1]
      exact ih n (k + 1) _ (by omega) (by omega) (or_lt hZ (an_lt hP))
theorem unt_ok (h : lt_ t f) (hP : P < 65536) (hQ : Q < 65536) : fm_until t (nI P) (nI Q) = some (nI (un_ f P 16 Q)) := by
  have := un_loop h hP 16 5000 0 Q (by omega) (by omega) hQ
  rw [nI_0] at this
  unfold fm_until
  exact this
theorem al_loop (h : lt_ t f) : ∀ (d n k Z : Nat), k + d = 16 → d < n → Z < 65536 → fm_always_L4 t n (nI Z) (nI k) = some (nI (al_ f d Z)) := by
  intro d
  induction d with
  | zero =>
    intro n k Z h1 hn hZ
    cases n with
    | zero => omega
    | succ n =>
      have e : k = 16 := by omega
      subst e
      rw [fm_always_L4, if_pos t16]
      rfl
  | succ d ih =>
    intro n k Z h1 hn hZ
    cases n with
    | zero => omega
    | succ n =>
      rw [fm_always_L4, if_neg (n16 (by omega)), stt_ok h hZ, bI_some, nI_and, nI_1]
      exact ih n (k + 1) _ (by omega) (by omega) (an_lt hZ)
theorem alw_ok (h : lt_ t f) (hP : P < 65536) : fm_always t (nI P) = some (nI (al_ f 16 P)) := by
  have := al_loop h 16 5000 0 P (by omega) (by omega) hP
  rw [nI_0] at this
  unfold fm_always
  exact this
theorem cp_i {A : Nat} (hA : A < 65536) : ((nI A ^^^ (-1 : Int32)) &&& (65535 : Int32)) = nI (cp_ A) := by
  rw [show (-1 : Int32) = nI 4294967295 from by decide, show (65535 : Int32) = nI 65535 from rfl, nI_xor, nI_and]
  congr 1
  refine bx_ext (n := 16) (Nat.lt_of_le_of_lt Nat.and_le_right (by decide)) (cp_lt hA) fun i hi => ?_
  rw [cp_bit A hi, Nat.testBit_and, Nat.testBit_xor, b16_1 i hi]
  have : ∀ j, j < 16 → (4294967295 : Nat).testBit j = true := by decide
  rw [this i hi]
  simp
/-- the formulas, as numbers -/
def fo_ (f : mb_F) (k P Q : Nat) : Nat :=
  if k = 0 then pr_ f P else if k = 1 then un_ f 65535 16 P else if k = 2 then al_ f 16 P else if k = 3 then un_ f P 16 Q else if k = 4 then cp_ (pr_ f (cp_ P)) else if k = 5 then cp_ (al_ f 16 (cp_ P)) else if k = 6 then cp_ (un_ f 65535 16 (cp_ P)) else cp_ (al_ f 16 (cp_ Q) ||| un_ f (cp_ Q) 16 (cp_ (P ||| Q)))
theorem cp_nor {A B : Nat} (hA : A < 65536) (hB : B < 65536) : cp_ A &&& cp_ B = cp_ (A ||| B) := bx_ext (n := 16) (an_lt (cp_lt hA)) (cp_lt (or_lt hA hB)) fun i hi => by
  rw [Nat.testBit_and, cp_bit A hi, cp_bit B hi, cp_bit _ hi, Nat.testBit_or]
  simp
theorem fo_ok (h : lt_ t f) {k : Nat} (hk : k < 8) (hP : P < 65536) (hQ : Q < 65536) : fm_formulaOf t (nI k) (nI P) (nI Q) = some (nI (fo_ f k P Q)) ∧ fo_ f k P Q < 65536 := by
  have cP := cp_lt hP
  have cQ := cp_lt hQ
  have cPQ := cp_lt (or_lt hP hQ)
  have full : (65535 : Int32) = nI 65535 := rfl
  rcases (show k = 0 ∨ k = 1 ∨ k = 2 ∨ k = 3 ∨ k = 4 ∨ k = 5 ∨ k = 6 ∨ k = 7 by omega) with c | c | c | c | c | c | c | c
  · subst c
    show fm_formulaOf t (nI 0) (nI P) (nI Q) = some (nI (pr_ f P)) ∧ pr_ f P < 65536
    refine ⟨?_, pr_lt f P⟩
    unfold fm_formulaOf
    rw [if_pos (show nI 0 = (0 : Int32) by decide), stt_ok h hP, bI_some]
  · subst c
    show fm_formulaOf t (nI 1) (nI P) (nI Q) = some (nI (un_ f 65535 16 P)) ∧ un_ f 65535 16 P < 65536
    refine ⟨?_, un_lt (by decide) 16 P hP⟩
    unfold fm_formulaOf
    rw [if_neg (show ¬ nI 1 = (0 : Int32) by decide), if_pos (show nI 1 = (1 : Int32) by decide), full, unt_ok h (by decide) hP, bI_some]
  · subst c
    show fm_formulaOf t (nI 2) (nI P) (nI Q) = some (nI (al_ f 16 P)) ∧ al_ f 16 P < 65536
    refine ⟨?_, al_lt 16 P hP⟩
    unfold fm_formulaOf
    rw [if_neg (show ¬ nI 2 = (0 : Int32) by decide), if_neg (show ¬ nI 2 = (1 : Int32) by decide), if_pos (show nI 2 = (2 : Int32) by decide), alw_ok h hP, bI_some]
  · subst c
    show fm_formulaOf t (nI 3) (nI P) (nI Q) = some (nI (un_ f P 16 Q)) ∧ un_ f P 16 Q < 65536
    refine ⟨?_, un_lt hP 16 Q hQ⟩
    unfold fm_formulaOf
    rw [if_neg (show ¬ nI 3 = (0 : Int32) by decide), if_neg (show ¬ nI 3 = (1 : Int32) by decide), if_neg (show ¬ nI 3 = (2 : Int32) by decide), if_pos (show nI 3 = (3 : Int32) by decide), unt_ok h hP hQ, bI_some]
  · subst c
    show fm_formulaOf t (nI 4) (nI P) (nI Q) = some (nI (cp_ (pr_ f (cp_ P)))) ∧ cp_ (pr_ f (cp_ P)) < 65536
    refine ⟨?_, cp_lt (pr_lt f _)⟩
    unfold fm_formulaOf
    rw [if_neg (show ¬ nI 4 = (0 : Int32) by decide), if_neg (show ¬ nI 4 = (1 : Int32) by decide), if_neg (show ¬ nI 4 = (2 : Int32) by decide), if_neg (show ¬ nI 4 = (3 : Int32) by decide), if_pos (show nI 4 = (4 : Int32) by decide), cp_i hP, stt_ok h cP, bI_some, cp_i (pr_lt f _)]
  · subst c
    show fm_formulaOf t (nI 5) (nI P) (nI Q) = some (nI (cp_ (al_ f 16 (cp_ P)))) ∧ cp_ (al_ f 16 (cp_ P)) < 65536
    refine ⟨?_, cp_lt (al_lt 16 _ cP)⟩
    unfold fm_formulaOf
    rw [if_neg (show ¬ nI 5 = (0 : Int32) by decide), if_neg (show ¬ nI 5 = (1 : Int32) by decide), if_neg (show ¬ nI 5 = (2 : Int32) by decide), if_neg (show ¬ nI 5 = (3 : Int32) by decide), if_neg (show ¬ nI 5 = (4 : Int32) by decide), if_pos (show nI 5 = (5 : Int32) by decide), cp_i hP, alw_ok h cP, bI_some, cp_i (al_lt 16 _ cP)]
  · subst c
    show fm_formulaOf t (nI 6) (nI P) (nI Q) = some (nI (cp_ (un_ f 65535 16 (cp_ P)))) ∧ cp_ (un_ f 65535 16 (cp_ P)) < 65536
    refine ⟨?_, cp_lt (un_lt (by decide) 16 _ cP)⟩
    unfold fm_formulaOf
    rw [if_neg (show ¬ nI 6 = (0 : Int32) by decide), if_neg (show ¬ nI 6 = (1 : Int32) by decide), if_neg (show ¬ nI 6 = (2 : Int32) by decide), if_neg (show ¬ nI 6 = (3 : Int32) by decide), if_neg (show ¬ nI 6 = (4 : Int32) by decide), if_neg (show ¬ nI 6 = (5 : Int32) by decide), if_pos (show nI 6 = (6 : Int32) by decide), cp_i hP, full, unt_ok h (by decide) cP, bI_some, ← full, cp_i (un_lt (by decide) 16 _ cP)]
  · subst c
    show fm_formulaOf t (nI 7) (nI P) (nI Q) = some (nI (cp_ (al_ f 16 (cp_ Q) ||| un_ f (cp_ Q) 16 (cp_ (P ||| Q))))) ∧ cp_ (al_ f 16 (cp_ Q) ||| un_ f (cp_ Q) 16 (cp_ (P ||| Q))) < 65536
    refine ⟨?_, cp_lt (or_lt (al_lt 16 _ cQ) (un_lt cQ 16 _ cPQ))⟩
    unfold fm_formulaOf
    rw [if_neg (show ¬ nI 7 = (0 : Int32) by decide), if_neg (show ¬ nI 7 = (1 : Int32) by decide), if_neg (show ¬ nI 7 = (2 : Int32) by decide), if_neg (show ¬ nI 7 = (3 : Int32) by decide), if_neg (show ¬ nI 7 = (4 : Int32) by decide), if_neg (show ¬ nI 7 = (5 : Int32) by decide), if_neg (show ¬ nI 7 = (6 : Int32) by decide), cp_i hP, cp_i hQ, alw_ok h cQ, bI_some, nI_and, cp_nor hP hQ, unt_ok h cQ cPQ, bI_some, nI_or, cp_i (or_lt (al_lt 16 _ cQ) (un_lt cQ 16 _ cPQ))]
end FX
