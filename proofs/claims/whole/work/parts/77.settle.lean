/-! The class's after, before, settle. My own. -/
def cp_ (A : Nat) : Nat := A ^^^ 65535
theorem cp_lt {A : Nat} (h : A < 65536) : cp_ A < 65536 := Nat.xor_lt_two_pow (n := 16) h (by decide)
theorem b16_1 : ∀ i, i < 16 → (65535 : Nat).testBit i = true := by decide
theorem cp_bit (A : Nat) {i : Nat} (hi : i < 16) : (cp_ A).testBit i = !A.testBit i := by
  unfold cp_
  rw [Nat.testBit_xor, b16_1 i hi, Bool.xor_true]
theorem op_or (A B : Nat) : op_ 14 (st_ A) (st_ B) = st_ (A ||| B) := by
  funext x
  unfold op_ st_
  rw [Nat.testBit_or]
  cases A.testBit (ix_ x) <;> cases B.testBit (ix_ x) <;> rfl
theorem op_and (A B : Nat) : op_ 8 (st_ A) (st_ B) = st_ (A &&& B) := by
  funext x
  unfold op_ st_
  rw [Nat.testBit_and]
  cases A.testBit (ix_ x) <;> cases B.testBit (ix_ x) <;> rfl
theorem op_nor (A B : Nat) : op_ 1 (st_ A) (st_ B) = st_ (cp_ (A ||| B)) := by
  funext x
  unfold op_ st_
  rw [cp_bit _ (ix_lt x), Nat.testBit_or]
  cases A.testBit (ix_ x) <;> cases B.testBit (ix_ x) <;> rfl
theorem ne_st (A : Nat) : ne_ (st_ A) = st_ (cp_ A) := by
  funext x
  unfold ne_ st_
  rw [cp_bit _ (ix_lt x)]
theorem st_0 : st_ 0 = fun _ => false := by
  funext x
  unfold st_
  exact Nat.zero_testBit _
theorem st_1 : st_ 65535 = fun _ => true := by
  funext x
  unfold st_
  exact b16_1 _ (ix_lt x)
theorem or_lt {A B : Nat} (hA : A < 65536) (hB : B < 65536) : A ||| B < 65536 := Nat.or_lt_two_pow (n := 16) hA hB
theorem an_lt {A B : Nat} (hA : A < 65536) : A &&& B < 65536 := Nat.lt_of_le_of_lt Nat.and_le_left hA
def lits_ : List mb_F := (List.range 8).map li_
theorem lits_in {v : Nat} (hv : v < 8) : li_ v ∈ lits_ := List.mem_map.mpr ⟨v, List.mem_range.mpr hv, rfl⟩
theorem lits_len : lits_.length = 8 := by
  unfold lits_
  rw [List.length_map, List.length_range]
section SE
variable {s : wt_S} {lev at_ : Nat → Nat} {g : gh_} {rt : Nat → Nat} {n : Nat}
theorem ep_g (h : ep_ s lev at_ g rt n) : or_ lev at_ ∧ rp_ s lev at_ g ∧ gi_ lev g := by
  obtain ⟨⟨L, h1, -⟩, -⟩ := h
  exact ⟨h1.1, h1.2.1, h1.2.2.1⟩
theorem ep_jo (h : ep_ s lev at_ g rt n) (hn : n + 31 ≤ 1791) {op a b : Nat} (hop : op < 16) {f k : mb_F} (ha : vn_ g a f) (hb : vn_ g b k) : ∃ (r : Nat) (s' : wt_S) (g' : gh_), fd_join 9 s (nI op) (nI a) (nI b) 0 = some (nI r, s') ∧ ep_ s' lev at_ g' rt (n + 31) ∧ ex_ s s' g g' ∧ vn_ g' r (op_ op f k) := by
  have := ep_op h (co_ at_ 5 (op_ op f k)) (by rw [co_len]; exact hn) (x := fd_join 9 s (nI op) (nI a) (nI b) (nI 0)) (f := op_ op f k) (d := 0) (fun L hL hM => by
    have := jo_ok (L := L) hop 9 0 0 a b s g hL ha.1 hb.1 (Nat.le_refl _) (Nat.zero_le _) (Nat.zero_le _) (by omega) (by rw [ha.2, hb.2]; exact co_cl 5 _ hM)
    rwa [ha.2, hb.2] at this)
  rw [co_len, nI_0] at this
  exact this
theorem ep_ne (h : ep_ s lev at_ g rt n) (hn : n + 31 ≤ 1791) {a : Nat} {f : mb_F} (ha : vn_ g a f) : ∃ (r : Nat) (s' : wt_S) (g' : gh_), fd_negate s (nI a) = some (nI r, s') ∧ ep_ s' lev at_ g' rt (n + 31) ∧ ex_ s s' g g' ∧ vn_ g' r (ne_ f) := by
  have := ep_op h (co_ at_ 5 (ne_ f)) (by rw [co_len]; exact hn) (x := fd_negate s (nI a)) (f := ne_ f) (d := 0) (fun L hL hM => by
    have := ng_ok (L := L) hL ha.1 (by rw [ha.2]; exact co_cl 5 _ hM)
    rwa [ha.2] at this)
  rw [co_len] at this
  exact this
theorem ep_ov (h : ep_ s lev at_ g rt n) (hn : n + 129 ≤ 1791) {mk a b : Nat} (hmk : mk < 256) {f k : mb_F} (ha : vn_ g a f) (hb : vn_ g b k) : ∃ (r : Nat) (s' : wt_S) (g' : gh_), fd_overlap 9 s (nI a) (nI b) (nI mk) 0 = some (nI r, s') ∧ ep_ s' lev at_ g' rt (n + 129) ∧ ex_ s s' g g' ∧ vn_ g' r (qx_ mk.testBit (an_ f k)) := by
  have := ep_op h (qo_ at_ mk.testBit 5 (an_ f k)) (by rw [qo_len]; exact hn) (x := fd_overlap 9 s (nI a) (nI b) (nI mk) (nI 0)) (f := qx_ mk.testBit (an_ f k)) (d := 0) (fun L hL hM => by
    have := ov_ok (L := L) hmk 9 0 0 a b s g hL ha.1 hb.1 (Nat.le_refl _) (Nat.zero_le _) (Nat.zero_le _) (by omega) (by rw [ha.2, hb.2]; exact qo_cq 5 _ hM)
    rwa [ha.2, hb.2] at this)
  rw [qo_len, nI_0] at this
  exact this
theorem ep_mi (h : ep_ s lev at_ g rt n) (hn : n + 89 ≤ 1791) {a : Nat} {f : mb_F} {l : List Nat} (hl : l.length = 4) (hf : mb_on (mi_ f) (fun v => v ∈ l)) (ha : vn_ g a f) : ∃ (r : Nat) (s' : wt_S) (g' : gh_), fd_mirror 9 s (nI a) 0 = some (nI r, s') ∧ ep_ s' lev at_ g' rt (n + 89) ∧ ex_ s s' g g' ∧ vn_ g' r (mi_ f) := by
  have len : (lits_ ++ pa_ l (mi_ f)).length = 89 := by rw [List.length_append, lits_len, pa_len, hl]
  have := ep_op h (lits_ ++ pa_ l (mi_ f)) (by rw [len]; exact hn) (x := fd_mirror 9 s (nI a) (nI 0)) (f := mi_ f) (d := 0) (fun L hL hM => by
    have := mi_ok (L := L) (fun v hv => hM _ (List.mem_append_left _ (lits_in hv))) 9 0 0 a s g hL ha.1 (Nat.le_refl _) (Nat.zero_le _) (by omega) (by
      rw [ha.2]
      exact pa_cm hf (fun y hy => hM y (List.mem_append_right _ hy)) 8 (fun _ => none))
    rwa [ha.2] at this)
  rw [len, nI_0] at this
  exact this
theorem ep_on (h : ep_ s lev at_ g rt n) {a : Nat} {f : mb_F} (ha : vn_ g a f) : mb_on f (fun v => v < 8) := by
  obtain ⟨ho, -, hg⟩ := ep_g h
  rw [← ha.2]
  exact mb_on_mono (gi_onn ho hg ha.1) fun v hv => hv.1
theorem ep_af (h : ep_ s lev at_ g rt n) (hn : n + 218 ≤ 1791) {t z Z : Nat} {f : mb_F} (ht : vn_ g t f) (hz : vn_ g z (st_ Z)) : ∃ (r : Nat) (s' : wt_S) (g' : gh_), fx_after s (nI t) (nI z) = some (nI r, s') ∧ ep_ s' lev at_ g' rt (n + 218) ∧ ex_ s s' g g' ∧ vn_ g' r (st_ (im_ f Z)) := by
  obtain ⟨r1, s1, g1, e1, h1, x1, v1⟩ := ep_ov h (by omega) (mk := 85) (by decide) ht hz
  have hf := ep_on h ht
  obtain ⟨r2, s2, g2, e2, h2, x2, v2⟩ := ep_mi h1 (by omega) (l := [0, 2, 4, 6]) rfl (by rw [im_st hf]; exact st_on _) v1
  rw [im_st hf] at v2
  refine ⟨r2, s2, g2, ?_, ep_mo h2 (by omega), ex_tr x1 x2, v2⟩
  unfold fx_after
  rw [show (85 : Int32) = nI 85 from rfl, e1, bIS_some, e2, bIS_some]
theorem ep_be (h : ep_ s lev at_ g rt n) (hn : n + 218 ≤ 1791) {t z Z : Nat} {f : mb_F} (ht : vn_ g t f) (hz : vn_ g z (st_ Z)) : ∃ (r : Nat) (s' : wt_S) (g' : gh_), fx_before s (nI t) (nI z) = some (nI r, s') ∧ ep_ s' lev at_ g' rt (n + 218) ∧ ex_ s s' g g' ∧ vn_ g' r (st_ (pr_ f Z)) := by
  obtain ⟨r1, s1, g1, e1, h1, x1, v1⟩ := ep_mi h (by omega) (l := [0, 2, 4, 6].map (· ^^^ 1)) rfl (mi_on (st_on Z)) hz
  obtain ⟨r2, s2, g2, e2, h2, x2, v2⟩ := ep_ov h1 (by omega) (mk := 170) (by decide) (vn_ex x1 ht) v1
  rw [pr_st (ep_on h ht)] at v2
  refine ⟨r2, s2, g2, ?_, ep_mo h2 (by omega), ex_tr x1 x2, v2⟩
  unfold fx_before
  rw [e1, bIS_some, show (170 : Int32) = nI 170 from rfl, e2, bIS_some]
def nx_ (f : mb_F) (P Q Z : Nat) : Nat := Q ||| (P &&& pr_ f Z)
theorem nx_lt {f : mb_F} {P Q Z : Nat} (hQ : Q < 65536) (hP : P < 65536) : nx_ f P Q Z < 65536 := or_lt hQ (an_lt hP)
def it_ (f : mb_F) (P Q : Nat) : Nat → Nat → Nat
  | 0, Z => Z
  | d + 1, Z => it_ f P Q d (nx_ f P Q Z)
theorem it_fix {f : mb_F} {P Q Z : Nat} (h : nx_ f P Q Z = Z) : ∀ d, it_ f P Q d Z = Z := by
  intro d
  induction d with
  | zero => rfl
  | succ d ih =>
    show it_ f P Q d (nx_ f P Q Z) = Z
    rw [h]; exact ih
theorem vn_eq (h : ep_ s lev at_ g rt n) {a b : Nat} {f k : mb_F} (ha : vn_ g a f) (hb : vn_ g b k) : a = b ↔ f = k := by
  obtain ⟨-, -, hg⟩ := ep_g h
  constructor
  · intro e
    rw [← ha.2, ← hb.2, e]
  · intro e
    exact hg.2.2.2 a b ha.1 hb.1 (by rw [ha.2, hb.2, e])
/-- roots other than the three that settle uses -/
def kr_ (g g' : gh_) (rt rt' : Nat → Nat) : Prop := ∀ i f, i < 20 → i ≠ 18 → vn_ g (rt i) f → rt' i = rt i ∧ vn_ g' (rt' i) f
theorem se_loop {f : mb_F} {P Q t p q : Nat} (hP : P < 65536) (hQ : Q < 65536) (K : Int32 → wt_S → Option (Int32 × wt_S)) : ∀ (d m i z Z : Nat) (s : wt_S) (g : gh_) (rt : Nat → Nat) (n it : Nat), i + d = 17 → d < m → 620 ≤ n → n + 280 ≤ 1791 → Z < 65536 → ep_ s lev at_ g rt n → it < 16 → rt it = t → rt 16 = p → rt 17 = q → vn_ g t f → vn_ g p (st_ P) → vn_ g q (st_ Q) → vn_ g z (st_ Z) →
    ∃ (z' : Nat) (s' : wt_S) (g' : gh_) (rt' : Nat → Nat), fx_settle_L27 (nI t) (nI p) (nI q) K m (nI z) (nI i) s = K (nI z') s' ∧ ep_ s' lev at_ g' rt' (n + 280) ∧ kr_ g g' rt rt' ∧ vn_ g' z' (st_ (it_ f P Q d Z)) := by
  intro d
  induction d with
  | zero =>
    intro m i z Z s g rt n it h1 hm hn1 hn2 hZ he hit ht hp hq vt vp vq vz
    cases m with
    | zero => omega
    | succ m =>
      rw [fx_settle_L27, if_pos (show (16 : Int32) < nI i from nI_lt (a := 16) (by omega) (by omega))]
      exact ⟨z, s, g, rt, rfl, ep_mo he (by omega), fun i k _ _ hv => ⟨rfl, hv⟩, vz⟩
  | succ d ih =>
    intro m i z Z s g rt n it h1 hm hn1 hn2 hZ he hit ht hp hq vt vp vq vz
    cases m with
    | zero => omega
    | succ m =>
      obtain ⟨r1, s1, g1, e1, h1', x1, v1⟩ := ep_be he (by omega) vt vz
      obtain ⟨r2, s2, g2, e2, h2, x2, v2⟩ := ep_jo h1' (by omega) (op := 8) (by decide) (vn_ex x1 vp) v1
      rw [op_and] at v2
      have x12 := ex_tr x1 x2
      obtain ⟨r3, s3, g3, e3, h3, x3, v3⟩ := ep_jo h2 (by omega) (op := 14) (by decide) (vn_ex x12 vq) v2
      rw [op_or] at v3
      have x13 := ex_tr x12 x3
      have vz3 := vn_ex x13 vz
      have v3' : vn_ g3 r3 (st_ (nx_ f P Q Z)) := v3
      have iff := vn_eq h3 v3' vz3
      rw [fx_settle_L27, if_neg (show ¬ (16 : Int32) < nI i from nI_nlt (show i ≤ 16 by omega) (by decide)), e1, bIS_some, show (8 : Int32) = nI 8 from rfl, e2, bIS_some, show (14 : Int32) = nI 14 from rfl, e3, bIS_some]
      have r31 : r3 < 2 ^ 31 := Nat.lt_trans v3.1.1 (by decide)
      have z31 : z < 2 ^ 31 := Nat.lt_trans vz.1.1 (by decide)
      by_cases c : nx_ f P Q Z = Z
      · rw [if_pos (congrArg nI (iff.mpr (by rw [c])))]
        refine ⟨z, s3, g3, rt, rfl, ep_mo h3 (by omega), fun i k _ _ hv => ⟨rfl, vn_ex x13 hv⟩, ?_⟩
        rw [it_fix c]; exact vz3
      · rw [if_neg (fun e => c (st_inj (nx_lt hQ hP) hZ (iff.mp (nI_inj r31 z31 e))))]
        obtain ⟨s4, e4, h4⟩ := ep_hold h3 (p := 18) (by decide) v3.1
        obtain ⟨s5, g5, e5, h5, h5g, h5v⟩ := ep_col h4
        rw [show (18 : Int32) = nI 18 from rfl, e4, bS_some, e5, bS_some, nI_1]
        have old : ∀ j k, j < 20 → j ≠ 18 → vn_ g (rt j) k → vn_ g5 (rt j) k := fun j k hj hj2 hv => by
          have := h5v j k hj (by (try dsimp only); rw [if_neg hj2]; exact vn_ex x13 hv)
          (try dsimp only at this)
          rwa [if_neg hj2] at this
        obtain ⟨z', s', g', rt', e6, h6, k6, v6⟩ := ih m (i + 1) r3 (nx_ f P Q Z) s5 g5 (fun i => if i = 18 then r3 else rt i) 620 it (by omega) (by omega) (Nat.le_refl _) (by omega) (nx_lt hQ hP) (ep_rs h5) hit (by (try dsimp only); rw [if_neg (by omega)]; exact ht) (by (try dsimp only); rw [if_neg (by decide)]; exact hp) (by (try dsimp only); rw [if_neg (by decide)]; exact hq) (by rw [← ht]; exact old it f (by omega) (by omega) (by rw [ht]; exact vt)) (by rw [← hp]; exact old 16 _ (by decide) (by decide) (by rw [hp]; exact vp)) (by rw [← hq]; exact old 17 _ (by decide) (by decide) (by rw [hq]; exact vq)) (by
            have := h5v 18 _ (by decide) (by (try dsimp only); rw [if_pos rfl]; exact v3')
            (try dsimp only at this)
            rwa [if_pos rfl] at this)
        refine ⟨z', s', g', rt', e6, ep_mo h6 (by omega), fun j k hj hj2 hv => ?_, v6⟩
        have := k6 j k hj hj2 (by (try dsimp only); rw [if_neg hj2]; exact old j k hj hj2 hv)
        (try dsimp only at this)
        rwa [if_neg hj2] at this
theorem set_ok {f : mb_F} {P Q Z t p q z it : Nat} (hP : P < 65536) (hQ : Q < 65536) (hZ : Z < 65536) (h : ep_ s lev at_ g rt n) (hn1 : 620 ≤ n) (hn2 : n + 280 ≤ 1791) (hit : it < 16) (ht : rt it = t) (vt : vn_ g t f) (vp : vn_ g p (st_ P)) (vq : vn_ g q (st_ Q)) (vz : vn_ g z (st_ Z)) :
    ∃ (z' : Nat) (s' : wt_S) (g' : gh_) (rt' : Nat → Nat), fx_settle s (nI t) (nI p) (nI q) (nI z) = some (nI z', s') ∧ ep_ s' lev at_ g' rt' (n + 280) ∧ (∀ i k, i < 20 → i ≠ 16 → i ≠ 17 → i ≠ 18 → vn_ g (rt i) k → rt' i = rt i ∧ vn_ g' (rt' i) k) ∧ rt' 16 = p ∧ vn_ g' p (st_ P) ∧ vn_ g' z' (st_ (it_ f P Q 17 Z)) := by
  obtain ⟨s1, e1, h1⟩ := ep_hold h (p := 16) (by decide) vp.1
  obtain ⟨s2, e2, h2⟩ := ep_hold h1 (p := 17) (by decide) vq.1
  obtain ⟨z', s', g', rt', e3, h3, k3, v3⟩ := se_loop hP hQ (fun (z5_27 : Int32) (s_27 : wt_S) => some (z5_27, s_27)) 17 5000 0 z Z s2 g _ n it (by omega) (by omega) hn1 hn2 hZ h2 hit (by (try dsimp only); rw [if_neg (by omega), if_neg (by omega)]; exact ht) (p := p) (by (try dsimp only); rw [if_neg (by decide), if_pos rfl]) (q := q) (by (try dsimp only); rw [if_pos rfl]) vt vp vq vz
  rw [nI_0] at e3
  have k16 := k3 16 (st_ P) (by decide) (by decide) (by (try dsimp only); rw [if_neg (by decide), if_pos rfl]; exact vp)
  (try dsimp only at k16)
  rw [if_neg (by decide), if_pos rfl] at k16
  refine ⟨z', s', g', rt', ?_, h3, fun i k hi a b c hv => ?_, k16.1, by rw [← k16.1]; exact k16.2, v3⟩
  · unfold fx_settle
    rw [show (16 : Int32) = nI 16 from rfl, e1, bS_some, show (17 : Int32) = nI 17 from rfl, e2, bS_some]
    exact e3
  · have := k3 i k hi c (by (try dsimp only); rw [if_neg b, if_neg a]; exact hv)
    (try dsimp only at this)
    rwa [if_neg b, if_neg a] at this
end SE
