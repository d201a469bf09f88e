/-! The class between two collects: nodes with their functions, and how many there can be. My own. -/
def vn_ (g : gh_) (x : Nat) (f : mb_F) : Prop := gk_ g x ∧ g.2.2.2 x = f
def ep_ (s : wt_S) (lev at_ : Nat → Nat) (g : gh_) (rt : Nat → Nat) (n : Nat) : Prop := (∃ L, sg_ s lev at_ g L (fun _ => True) ∧ L.length ≤ n) ∧ (∀ i, i < 20 → s 0 i = nI (rt i) ∧ gk_ g (rt i)) ∧ ∀ j, s 8 j ≠ 0 → gk_ g j
theorem vn_ex {s s' : wt_S} {g g' : gh_} (x : ex_ s s' g g') {n : Nat} {f : mb_F} (h : vn_ g n f) : vn_ g' n f := ⟨ex_gk x h.1, by rw [(x.1 n h.1).2.2.2]; exact h.2⟩
theorem ep_mo {s : wt_S} {lev at_ : Nat → Nat} {g : gh_} {rt : Nat → Nat} {n m : Nat} (h : ep_ s lev at_ g rt n) (k : n ≤ m) : ep_ s lev at_ g rt m := by
  obtain ⟨⟨L, h1, h2⟩, h3⟩ := h
  exact ⟨⟨L, h1, by omega⟩, h3⟩
theorem ep_rs {s : wt_S} {lev at_ : Nat → Nat} {g : gh_} {rt : Nat → Nat} (h : rs0_ s lev at_ g rt) : ep_ s lev at_ g rt 620 := by
  refine ⟨⟨cr_ at_ g rt ++ [], rs_sg h [] (by decide), by rw [List.length_append, cr_len]; decide⟩, h.2.2.2.2.2.1, ?_⟩
  obtain ⟨-, -, -, -, -, -, -, -, hmk⟩ := h
  exact hmk
section EP
variable {s : wt_S} {lev at_ : Nat → Nat} {g : gh_} {rt : Nat → Nat} {n : Nat}
/-- an operation that may make the functions of M -/
theorem ep_op (h : ep_ s lev at_ g rt n) (M : List mb_F) (hM : n + M.length ≤ 1791) {x : Option (Int32 × wt_S)} {f : mb_F} {d : Nat} (hx : ∀ L, sg_ s lev at_ g L (fun _ => True) → (∀ y, y ∈ M → y ∈ L) → rs_ lev at_ L s g x f d) : ∃ (r : Nat) (s' : wt_S) (g' : gh_), x = some (nI r, s') ∧ ep_ s' lev at_ g' rt (n + M.length) ∧ ex_ s s' g g' ∧ vn_ g' r f := by
  obtain ⟨⟨L, h1, h2⟩, hrt, hmk⟩ := h
  have h1' : sg_ s lev at_ g (L ++ M) (fun _ => True) := by
    obtain ⟨ho, hr, hg, hcs, hce, hcv, -⟩ := h1
    exact ⟨ho, hr, hg, hcs, hce, fun m hm hl => List.mem_append_left _ (hcv m hm hl), by rw [List.length_append]; omega⟩
  obtain ⟨r, s', g', e, q1, q2, q3, q4, -⟩ := hx (L ++ M) h1' (fun y hy => List.mem_append_right _ hy)
  exact ⟨r, s', g', e, ⟨⟨L ++ M, q1, by rw [List.length_append]; omega⟩, fun i hi => ⟨by rw [q2.2.1]; exact (hrt i hi).1, ex_gk q2 (hrt i hi).2⟩, fun j hj => by rw [q2.2.2.1] at hj; exact ex_gk q2 (hmk j hj)⟩, q2, q3, q4⟩
theorem sg_r0 {s' : wt_S} {L : List mb_F} {P : Nat → Prop} (h : sg_ s lev at_ g L P) (k : ∀ r j, r ≠ 0 → s' r j = s r j) : sg_ s' lev at_ g L P := by
  obtain ⟨ho, hr, hg, ⟨C, hC1, hC2⟩, ⟨c, e, hc, he, q⟩, hcv, hL⟩ := h
  refine ⟨ho, ⟨fun v hv => by rw [k 2 v (by decide)]; exact hr.1 v hv, fun i hi => by rw [k 1 i (by decide)]; exact hr.2.1 i hi, fun m hm => by rw [k 3 m (by decide)]; exact hr.2.2.1 m hm, fun m hm hl => by rw [k 4 m (by decide), k 5 m (by decide)]; exact hr.2.2.2 m hm hl⟩, hg, ⟨C, fun b hb => ?_, hC2⟩, ⟨c, e, by rw [k 9 2 (by decide)]; exact hc, by rw [k 9 1 (by decide)]; exact he, q⟩, hcv, hL⟩
  obtain ⟨d1, d2, d3⟩ := hC1 b hb
  rw [k 7 b (by decide)]
  exact ⟨ch_keep _ _ (fun m _ => k 6 m (by decide)) d1, d2, d3⟩
theorem ep_hold (h : ep_ s lev at_ g rt n) {p x : Nat} (hp : p < 20) (hx : gk_ g x) : ∃ s', fd_hold s (nI p) (nI x) = some s' ∧ ep_ s' lev at_ g (fun i => if i = p then x else rt i) n := by
  obtain ⟨⟨L, h1, h2⟩, hrt, hmk⟩ := h
  refine ⟨pu_S s 0 p (nI x), ?_, ⟨L, sg_r0 h1 (fun r j hr => pu_row hr), h2⟩, fun i hi => ?_, fun j hj => ?_⟩
  · unfold fd_hold
    rw [wc_S hp (by decide)]
  · dsimp only
    by_cases c : i = p
    · subst c; rw [pu_eq, if_pos rfl]; exact ⟨rfl, hx⟩
    · rw [pu_ne c, if_neg c]; exact hrt i hi
  · rw [pu_row (by decide)] at hj
    exact hmk j hj
theorem ep_pc (h : ep_ s lev at_ g rt n) : pc_ s lev at_ g rt := by
  obtain ⟨⟨L, ⟨ho, hr, hg, -, ⟨c, e, hc, he, hc2, hc3, he2, he3, hb, hend⟩, -⟩, -⟩, hrt, hmk⟩ := h
  refine ⟨ho, hr, hg, hrt, e, he, he2, he3, hend, fun m hm => ?_⟩
  apply Classical.byContradiction
  intro q
  have k := hmk m q
  exact k.2 (hend m hm k.1)
theorem ep_col (h : ep_ s lev at_ g rt n) : ∃ (s' : wt_S) (g' : gh_), fd_collect s = some s' ∧ rs0_ s' lev at_ g' rt ∧ g'.2 = g.2 ∧ ∀ i f, i < 20 → vn_ g (rt i) f → vn_ g' (rt i) f := by
  obtain ⟨s', g', e, h1, h2, h3⟩ := co_ok (ep_pc h)
  refine ⟨s', g', e, h1, h2, fun i f hi hv => ⟨(h1.2.2.2.2.2.1 i hi).2, ?_⟩⟩
  rw [show g'.2.2.2 = g.2.2.2 from by rw [h2]]
  exact hv.2
theorem ep_keep (h : ep_ s lev at_ g rt n) {r x : Nat} {f : mb_F} {F : Nat → mb_F} (hr : r < 16) (hx : vn_ g x f) (hF : ∀ i, i < 16 → g.2.2.2 (rt i) = F i) : ∃ (t : wt_S) (g2 : gh_) (rt2 : Nat → Nat), fd_keep s (nI r) (nI x) = some t ∧ rd0_ t lev at_ g2 rt2 (fun i => if i = r then f else F i) := by
  unfold fd_keep
  rw [wc_S (by omega) (by decide)]
  obtain ⟨t, q1, q2, q3, q4⟩ := kp_loop (fun (s_10 : wt_S) => b_S (fd_collect s_10) fun s30 => some s30) 4 5000 16 (pu_S s 0 r (nI x)) (by omega) (by omega)
  rw [show nI 16 = (16 : Int32) from rfl] at q1
  rw [q1]
  obtain ⟨⟨L, h1, h2⟩, hrt, hmk⟩ := h
  have rts : ∀ i, i < 20 → t 0 i = nI (if i = r then x else if i < 16 then rt i else 0) := by
    intro i hi
    rcases Nat.lt_or_ge i 16 with c | c
    · rw [q4 i c]
      by_cases d : i = r
      · subst d; rw [pu_eq, if_pos rfl]
      · rw [pu_ne d, if_neg d, if_pos c]; exact (hrt i hi).1
    · rw [q3 i c hi, if_neg (by omega), if_neg (by omega), nI_0]
  have gks : ∀ i, i < 20 → gk_ g (if i = r then x else if i < 16 then rt i else 0) := by
    intro i hi
    by_cases d : i = r
    · rw [if_pos d]; exact hx.1
    · rw [if_neg d]
      by_cases c : i < 16
      · rw [if_pos c]; exact (hrt i hi).2
      · rw [if_neg c]; exact (gi_leaf h1.2.2.1 (by decide)).1
  have rest : ∀ r' j, r' ≠ 0 → t r' j = s r' j := fun r' j hr' => by rw [q2 r' j hr', pu_row hr']
  have ep' : ep_ t lev at_ g (fun i => if i = r then x else if i < 16 then rt i else 0) n := ⟨⟨L, sg_r0 h1 rest, h2⟩, fun i hi => ⟨rts i hi, gks i hi⟩, fun j hj => by rw [rest 8 j (by decide)] at hj; exact hmk j hj⟩
  obtain ⟨t2, g2, e2, hs2, hg2, hk2⟩ := ep_col ep'
  rw [e2, bS_some]
  refine ⟨t2, g2, _, rfl, hs2, fun i h1 h2 => by rw [if_neg (by omega), if_neg (by omega)], fun i hi => ?_⟩
  rw [show g2.2.2.2 = g.2.2.2 from by rw [hg2]]
  dsimp only
  by_cases d : i = r
  · rw [if_pos d, if_pos d]; exact hx.2
  · rw [if_neg d, if_neg d, if_pos hi]; exact hF i hi
end EP
-- partial cuts
def pa_ : List Nat → mb_F → List mb_F
  | [], f => [f]
  | v :: l, f => pa_ l f ++ (pa_ l (mb_cf f v false) ++ pa_ l (mb_cf f v true))
theorem pa_len : ∀ (l : List Nat) (f : mb_F), (pa_ l f).length = 3 ^ l.length := by
  intro l
  induction l with
  | nil => intro f; rfl
  | cons v l ih =>
    intro f
    show (pa_ l f ++ (pa_ l (mb_cf f v false) ++ pa_ l (mb_cf f v true))).length = 3 ^ (l.length + 1)
    rw [List.length_append, List.length_append, ih, ih, ih, Nat.pow_succ]
    omega
def ov_ (c : Nat → Option Bool) (a : mb_V) : mb_V := fun v => (c v).getD (a v)
theorem pa_mem : ∀ (l : List Nat) (f : mb_F) (c : Nat → Option Bool), (∀ v, c v ≠ none → v ∈ l) → (fun a => f (ov_ c a)) ∈ pa_ l f := by
  intro l
  induction l with
  | nil =>
    intro f c h
    have : (fun a => f (ov_ c a)) = f := by
      funext a
      congr 1
      funext v
      have : c v = none := Classical.byContradiction fun q => by cases h v q
      unfold ov_
      rw [this]
      rfl
    rw [this]
    exact List.mem_cons_self
  | cons v l ih =>
    intro f c h
    cases hc : c v with
    | none =>
      refine List.mem_append_left _ (ih f c fun w hw => ?_)
      rcases List.mem_cons.mp (h w hw) with e | e
      · exact absurd (e ▸ hc) hw
      · exact e
    | some b =>
      have e : (fun a => f (ov_ c a)) = fun a => (mb_cf f v b) (ov_ (fun w => if w = v then none else c w) a) := by
        funext a
        unfold mb_cf
        congr 1
        funext w
        by_cases d : w = v
        · subst d; rw [mb_up_eq]; unfold ov_; rw [hc]; rfl
        · rw [mb_up_ne d]; unfold ov_; dsimp only; rw [if_neg d]
      have m := ih (mb_cf f v b) (fun w => if w = v then none else c w) (fun w hw => by
        by_cases d : w = v
        · rw [if_pos d] at hw; exact absurd rfl hw
        · rw [if_neg d] at hw
          rcases List.mem_cons.mp (h w hw) with e | e
          · exact absurd e d
          · exact e)
      rw [e]
      cases b
      · exact List.mem_append_right _ (List.mem_append_left _ m)
      · exact List.mem_append_right _ (List.mem_append_right _ m)
theorem pa_on {l : List Nat} {f : mb_F} (hf : mb_on f (fun v => v ∈ l)) (c : Nat → Option Bool) : (fun a => f (ov_ c a)) ∈ pa_ l f := by
  have e : (fun a => f (ov_ c a)) = fun a => f (ov_ (fun v => if v ∈ l then c v else none) a) := by
    funext a
    refine hf _ _ fun v hv => ?_
    unfold ov_
    dsimp only
    rw [if_pos (show v ∈ l from hv)]
  rw [e]
  exact pa_mem l f _ fun v hv => by
    by_cases d : v ∈ l
    · exact d
    · rw [if_neg d] at hv; exact absurd rfl hv
theorem ov_cf (f : mb_F) (c : Nat → Option Bool) (v : Nat) (b : Bool) : mb_cf (fun a => f (ov_ c a)) v b = fun a => f (ov_ (fun w => if w = v then some ((c w).getD b) else c w) a) := by
  funext a
  unfold mb_cf
  show f (ov_ c (mb_up a v b)) = _
  congr 1
  funext w
  unfold ov_
  dsimp only
  by_cases d : w = v
  · subst d
    rw [if_pos rfl, mb_up_eq]
    rfl
  · rw [if_neg d, mb_up_ne d]
theorem pa_cl {at_ : Nat → Nat} {L : List mb_F} {l : List Nat} {f : mb_F} (hf : mb_on f (fun v => v ∈ l)) (hL : ∀ y, y ∈ pa_ l f → y ∈ L) : ∀ (j : Nat) (c : Nat → Option Bool), cl_ at_ L j (fun a => f (ov_ c a)) := by
  intro j
  induction j with
  | zero => intro c; trivial
  | succ j ih =>
    intro c
    refine ⟨hL _ (pa_on hf c), ?_, ?_⟩
    · rw [ov_cf]; exact ih _
    · rw [ov_cf]; exact ih _
theorem mi_ov (f : mb_F) (c : Nat → Option Bool) : mi_ (fun a => f (ov_ c a)) = fun a => mi_ f (ov_ (fun v => c (v ^^^ 1)) a) := by
  funext a
  show f (ov_ c (fun v => a (v ^^^ 1))) = f (fun v => ov_ (fun v => c (v ^^^ 1)) a (v ^^^ 1))
  congr 1
  funext v
  unfold ov_
  dsimp only
  rw [xor_xor]
theorem pa_cm {at_ : Nat → Nat} {L : List mb_F} {l : List Nat} {f : mb_F} (hf : mb_on (mi_ f) (fun v => v ∈ l)) (hL : ∀ y, y ∈ pa_ l (mi_ f) → y ∈ L) : ∀ (j : Nat) (c : Nat → Option Bool), cm_ at_ L j (fun a => f (ov_ c a)) := by
  intro j
  induction j with
  | zero => intro c; trivial
  | succ j ih =>
    intro c
    refine ⟨?_, ?_, ?_⟩
    · rw [mi_ov]; exact pa_cl hf hL 5 _
    · rw [ov_cf]; exact ih _
    · rw [ov_cf]; exact ih _
theorem ov_no (f : mb_F) : (fun a => f (ov_ (fun _ => none) a)) = f := rfl
theorem mi_mi (f : mb_F) : mi_ (mi_ f) = f := by
  funext a
  show f (fun v => a ((v ^^^ 1) ^^^ 1)) = f a
  congr 1
  funext v
  rw [xor_xor]
