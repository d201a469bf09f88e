/-! collect. My own. -/
/-- what collect needs: nothing of the chains -/
def pc_ (s : wt_S) (lev at_ : Nat → Nat) (g : gh_) (rt : Nat → Nat) : Prop := or_ lev at_ ∧ rp_ s lev at_ g ∧ gi_ lev g ∧ (∀ i, i < 20 → s 0 i = nI (rt i) ∧ gk_ g (rt i)) ∧ ∃ e, s 9 1 = nI e ∧ 2 ≤ e ∧ e ≤ 2048 ∧ (∀ n, e ≤ n → n < 2048 → g.1 n = 9) ∧ ∀ n, e ≤ n → s 8 n = 0
def nc_ (g : gh_) : Nat := ((List.range 2048).filter fun j => decide (g.1 j < 8)).length
/-- a store between two calls -/
def rs0_ (s : wt_S) (lev at_ : Nat → Nat) (g : gh_) (rt : Nat → Nat) : Prop := or_ lev at_ ∧ rp_ s lev at_ g ∧ gi_ lev g ∧ cs_ s g (fun _ => True) ∧ ce_ s g ∧ (∀ i, i < 20 → s 0 i = nI (rt i) ∧ gk_ g (rt i)) ∧ (∀ j, gk_ g j → 2 ≤ j → ∃ i, i < 20 ∧ ur_ g (rt i) j) ∧ s 9 0 = nI (nc_ g) ∧ ∀ j, s 8 j ≠ 0 → gk_ g j
theorem co_loop {lev at_ : Nat → Nat} {g : gh_} {rt : Nat → Nat} (ho : or_ lev at_) (hg : gi_ lev g) (K : Int32 → wt_S → Option wt_S) : ∀ (d n i c : Nat) (s : wt_S), i + d = 20 → d < n → rp_ s lev at_ g → (∀ j, j < 20 → s 0 j = nI (rt j) ∧ gk_ g (rt j)) → mk_ lev g 0 s → mc_ s = c →
    ∃ s', fd_collect_L8 K n (nI c) (nI i) s = K (nI (mc_ s')) s' ∧ m8_ s s' ∧ mk_ lev g 0 s' ∧ (∀ j, s 8 j ≠ 0 → s' 8 j ≠ 0) ∧ (∀ j, i ≤ j → j < 20 → 2 ≤ rt j → s' 8 (rt j) ≠ 0) ∧ (∀ j, s' 8 j ≠ 0 → s 8 j = 0 → gk_ g j ∧ g.1 j < 8 ∧ ∃ r, r < 20 ∧ ur_ g (rt r) j) := by
  have bound : ∀ u : wt_S, mc_ u ≤ 2048 := fun u => by
    have := List.length_filter_le (fun j => decide (u 8 j ≠ 0)) (List.range 2048)
    rw [List.length_range] at this
    exact this
  intro d
  induction d with
  | zero =>
    intro n i c s h1 hn hr hrt hmk hc
    cases n with
    | zero => omega
    | succ n =>
      rw [fd_collect_L8, if_pos (show (20 : Int32) ≤ nI i from nI_le (a := 20) (by omega) (by omega)), ← hc]
      exact ⟨s, rfl, m8_rf s, hmk, fun _ h => h, fun j _ _ => by omega, fun j h2 h3 => absurd h3 h2⟩
  | succ d ih =>
    intro n i c s h1 hn hr hrt hmk hc
    cases n with
    | zero => omega
    | succ n =>
      obtain ⟨e1, k1⟩ := hrt i (by omega)
      obtain ⟨c0, s0, e0, m0, z0, o0, t0, mk0, w0⟩ := ma_ok ho hg 9 0 0 (rt i) s hr k1 (Nat.le_refl _) (Nat.zero_le _) (by omega) hmk (bound s)
      rw [nI_0] at e0
      rw [fd_collect_L8, if_neg (show ¬ (20 : Int32) ≤ nI i from nI_ge (b := 20) (by omega) (by decide)), rc_at (by omega) (by decide), e1, e0, bIS_some, nI_add, nI_1]
      obtain ⟨s', q1, q2, q3, q4, q5, q6⟩ := ih n (i + 1) (c + c0) s0 (by omega) (by omega) (m8_rp m0 hr) (fun j hj => by rw [m0 0 j (by decide)]; exact hrt j hj) mk0 (by omega)
      refine ⟨s', q1, m8_tr m0 q2, q3, fun j hj => q4 j (o0 j hj), fun j h2 h3 h4 => ?_, fun j h2 h3 => ?_⟩
      · by_cases x : j = i
        · subst x; exact q4 _ (t0 h4)
        · exact q5 j (by omega) h3 h4
      · by_cases x : s0 8 j = 0
        · exact q6 j h2 x
        · obtain ⟨a1, a2, a3, a4⟩ := w0 j x h3
          exact ⟨a2, a3, i, by omega, a1⟩
def gh_kp (g : gh_) (s : wt_S) : gh_ := (fun j => if j < 2 ∨ s 8 j ≠ 0 then g.1 j else 9, g.2)
theorem kp_in {g : gh_} {s : wt_S} {j : Nat} (h : j < 2 ∨ s 8 j ≠ 0) : (gh_kp g s).1 j = g.1 j := by
  unfold gh_kp
  dsimp only
  rw [if_pos h]
theorem kp_out {g : gh_} {s : wt_S} {j : Nat} (h : ¬ (j < 2 ∨ s 8 j ≠ 0)) : (gh_kp g s).1 j = 9 := by
  unfold gh_kp
  dsimp only
  rw [if_neg h]
theorem kp_gi {lev : Nat → Nat} {g : gh_} {s : wt_S} (hg : gi_ lev g) (hmk : mk_ lev g 0 s) (hm : ∀ j, s 8 j ≠ 0 → gk_ g j ∧ g.1 j < 8) : gi_ lev (gh_kp g s) := by
  have sub : ∀ j, gk_ (gh_kp g s) j → (j < 2 ∨ s 8 j ≠ 0) ∧ gk_ g j := by
    intro j hj
    by_cases c : j < 2 ∨ s 8 j ≠ 0
    · exact ⟨c, hj.1, by rw [← kp_in c]; exact hj.2⟩
    · exact absurd (kp_out c) hj.2
  refine ⟨?_, ?_, ?_, ?_⟩
  · rw [kp_in (Or.inl (by decide)), kp_in (Or.inl (by decide))]
    exact hg.1
  · intro n hn h2
    by_cases c : n < 2 ∨ s 8 n ≠ 0
    · rw [kp_in c]; exact hg.2.1 n hn h2
    · exact Or.inl (kp_out c)
  · intro n hn hl
    have c : n < 2 ∨ s 8 n ≠ 0 := by
      by_cases c : n < 2 ∨ s 8 n ≠ 0
      · exact c
      · rw [kp_out c] at hl; omega
    rw [kp_in c] at hl
    have n2 := gi_two hg hl
    have cm : s 8 n ≠ 0 := by
      rcases c with q | q
      · omega
      · exact q
    obtain ⟨q1, q2, q3, q4, q5, q6, q7, q8⟩ := hg.2.2.1 n hn hl
    obtain ⟨p1, p2⟩ := hmk n ⟨hn, by omega⟩ cm hl (Nat.zero_le _)
    have c1 : g.2.1 n < 2 ∨ s 8 (g.2.1 n) ≠ 0 := by
      rcases Nat.lt_or_ge (g.2.1 n) 2 with z | z
      · exact Or.inl z
      · exact Or.inr (p1 z)
    have c2 : g.2.2.1 n < 2 ∨ s 8 (g.2.2.1 n) ≠ 0 := by
      rcases Nat.lt_or_ge (g.2.2.1 n) 2 with z | z
      · exact Or.inl z
      · exact Or.inr (p2 z)
    unfold gn_
    rw [kp_in c]
    show g.2.1 n < 2048 ∧ g.2.2.1 n < 2048 ∧ (gh_kp g s).1 (g.2.1 n) ≠ 9 ∧ (gh_kp g s).1 (g.2.2.1 n) ≠ 9 ∧ lev (g.1 n) < lev ((gh_kp g s).1 (g.2.1 n)) ∧ lev (g.1 n) < lev ((gh_kp g s).1 (g.2.2.1 n)) ∧ g.2.1 n ≠ g.2.2.1 n ∧ g.2.2.2 n = mb_mx (g.1 n) (g.2.2.2 (g.2.1 n)) (g.2.2.2 (g.2.2.1 n))
    rw [kp_in c1, kp_in c2]
    exact ⟨q1, q2, q3, q4, q5, q6, q7, q8⟩
  · intro n m hn hm e
    exact hg.2.2.2 n m (sub n hn).2 (sub m hm).2 e
theorem kp_ur {lev : Nat → Nat} {g : gh_} {s : wt_S} (hg : gi_ lev g) (hmk : mk_ lev g 0 s) {a j : Nat} (hm : ∀ j, s 8 j ≠ 0 → gk_ g j ∧ g.1 j < 8) (ha : a < 2 ∨ s 8 a ≠ 0) (h : ur_ g a j) : ur_ (gh_kp g s) a j := by
  have key : ∀ S : Nat → Prop, S a → (∀ i, S i → (gh_kp g s).1 i < 8 → S (g.2.1 i) ∧ S (g.2.2.1 i)) → S j ∧ (j < 2 ∨ s 8 j ≠ 0) := by
    intro S h1 h2
    refine h (fun i => S i ∧ (i < 2 ∨ s 8 i ≠ 0)) ⟨h1, ha⟩ (fun i hi hl => ?_)
    have n2 := gi_two hg hl
    have cm : s 8 i ≠ 0 := by
      rcases hi.2 with q | q
      · omega
      · exact q
    obtain ⟨p1, p2⟩ := hmk i (hm i cm).1 cm hl (Nat.zero_le _)
    obtain ⟨q1, q2⟩ := h2 i hi.1 (by rw [kp_in hi.2]; exact hl)
    refine ⟨⟨q1, ?_⟩, ⟨q2, ?_⟩⟩
    · rcases Nat.lt_or_ge (g.2.1 i) 2 with z | z
      · exact Or.inl z
      · exact Or.inr (p1 z)
    · rcases Nat.lt_or_ge (g.2.2.1 i) 2 with z | z
      · exact Or.inl z
      · exact Or.inr (p2 z)
  exact fun S h1 h2 => (key S h1 h2).1
theorem co_ok {s : wt_S} {lev at_ : Nat → Nat} {g : gh_} {rt : Nat → Nat} (h : pc_ s lev at_ g rt) : ∃ (s' : wt_S) (g' : gh_), fd_collect s = some s' ∧ rs0_ s' lev at_ g' rt ∧ g'.2 = g.2 ∧ (∀ j, gk_ g' j → gk_ g j ∧ g'.1 j = g.1 j) := by
  obtain ⟨ho, hr, hg, hrt, e, he, he2, he3, hend, hmz⟩ := h
  unfold fd_collect
  obtain ⟨s1, q1, m1, z1, z2⟩ := cm_ok he he3
  have zero : ∀ j, s1 8 j = 0 := fun j => by
    rcases Nat.lt_or_ge j e with c | c
    · exact z1 j c
    · rw [z2 j c]; exact hmz j c
  have mc1 : mc_ s1 = 0 := by
    unfold mc_
    rw [List.filter_eq_nil_iff.mpr (fun j _ => by rw [zero j]; decide)]
    rfl
  rw [q1, bS_some]
  obtain ⟨s2, p1, p2, p3, p4, p5, p6⟩ := co_loop ho hg (fun (z1_8 : Int32) (s_8 : wt_S) => sp_S s_8 0 z1_8 fun s36 => b_S (fd_sweep s36) fun s40 => some s40) 20 5000 0 0 s1 (by omega) (by omega) (m8_rp m1 hr) (fun j hj => by rw [m1 0 j (by decide)]; exact hrt j hj) (fun j _ c _ _ => absurd (zero j) c) mc1
  rw [nI_0] at p1
  rw [p1]
  dsimp only [sp_S]
  have mall := m8_tr m1 p2
  have hm : ∀ j, s2 8 j ≠ 0 → gk_ g j ∧ g.1 j < 8 := fun j hj => ⟨(p6 j hj (zero j)).1, (p6 j hj (zero j)).2.1⟩
  have hme : ∀ j, s2 8 j ≠ 0 → j < e := fun j hj => by
    rcases Nat.lt_or_ge j e with c | c
    · exact c
    · have h1 := hm j hj
      have h2 := hend j c h1.1.1
      omega
  -- the sweep
  unfold fd_sweep
  obtain ⟨s5, f1, f2, f3⟩ := fl_ok (pu_S s2 9 0 (nI (mc_ s2))) 0
  rw [f1, bS_some]
  have row : ∀ r j, r ≠ 7 → r ≠ 8 → r ≠ 9 → s5 r j = s r j := fun r j a b c => by rw [f2 r j a, pu_row c, mall r j b]
  have mrow : ∀ j, s5 8 j = s2 8 j := fun j => by rw [f2 8 j (by decide), pu_row (by decide)]
  have r91 : s5 9 1 = nI e := by rw [f2 9 1 (by decide), pu_ne (by decide), mall 9 1 (by decide)]; exact he
  have r90 : s5 9 0 = nI (mc_ s2) := by rw [f2 9 0 (by decide), pu_eq]
  have hr5 : rp_ s5 lev at_ g := ⟨fun v hv => by rw [row 2 v (by decide) (by decide) (by decide)]; exact hr.1 v hv, fun k hk => by rw [row 1 k (by decide) (by decide) (by decide)]; exact hr.2.1 k hk, fun n hn => by rw [row 3 n (by decide) (by decide) (by decide)]; exact hr.2.2.1 n hn, fun n hn hl => by rw [row 4 n (by decide) (by decide) (by decide), row 5 n (by decide) (by decide) (by decide)]; exact hr.2.2.2 n hn hl⟩
  obtain ⟨u, s6, g1, w⟩ := sw_loop (s0 := s5) hg hr5 he3 r91 (fun j _ _ hj => by rw [mrow] at hj; exact (hm j hj).2) (fun (z1_12 : Int32) (s_12 : wt_S) => sp_S s_12 1 z1_12 fun s92 => sp_S s92 2 2 fun s97 => some s97) (e - 2) 5000 2 2 s5 (by omega) (Nat.le_refl _)
    ⟨fun _ _ _ _ _ => rfl, fun j => by rw [if_neg (fun c => by omega)], ⟨fun _ => [], fun b hb => ⟨f3 b hb, List.nodup_nil, fun n hn => by cases hn⟩, fun n _ _ _ => by omega⟩, Nat.le_refl _, Nat.le_refl _, fun n _ _ => by omega⟩ (by omega)
  rw [show nI 2 = (2 : Int32) from rfl] at g1
  rw [g1]
  dsimp only [sp_S]
  rw [bS_some]
  obtain ⟨w1, w3, ⟨C, hC, hC2⟩, wu2, wue, wu⟩ := w
  have kept : ∀ r j, r ≠ 9 → pu_S (pu_S s6 9 1 (nI u)) 9 2 2 r j = s6 r j := fun r j hr => by rw [pu_row hr, pu_row hr]
  have cond : ∀ j, (j < 2 ∨ s2 8 j ≠ 0) → ¬ (2 ≤ j ∧ j < e ∧ s5 8 j = 0) := fun j c z => by
    rcases c with c | c
    · omega
    · exact c (by rw [← mrow]; exact z.2.2)
  refine ⟨_, gh_kp g s2, rfl, ⟨ho, ⟨fun v hv => ?_, fun k hk => ?_, fun n hn => ?_, fun n hn hl => ?_⟩, kp_gi hg p3 hm, ⟨C, fun b hb => ?_, fun n hn hl _ => ?_⟩, ?_, fun i hi => ?_, fun j hj j2 => ?_, ?_, ?_⟩, rfl, fun j hj => ?_⟩
  · rw [kept 2 v (by decide), w1 2 v (by decide) (by decide) (by decide)]; exact hr5.1 v hv
  · rw [kept 1 k (by decide), w1 1 k (by decide) (by decide) (by decide)]; exact hr5.2.1 k hk
  · rw [kept 3 n (by decide), w3 n]
    by_cases c : n < 2 ∨ s2 8 n ≠ 0
    · rw [kp_in c, if_neg (cond n c)]; exact hr5.2.2.1 n hn
    · rw [kp_out c]
      by_cases z : n < e
      · rw [if_pos ⟨by omega, z, by rw [mrow]; exact Classical.byContradiction fun q => c (Or.inr q)⟩]; rfl
      · rw [if_neg (fun q => z q.2.1), hr5.2.2.1 n hn, hend n (by omega) hn]
  · have c : n < 2 ∨ s2 8 n ≠ 0 := by
      by_cases c : n < 2 ∨ s2 8 n ≠ 0
      · exact c
      · rw [kp_out c] at hl; omega
    rw [kp_in c] at hl
    rw [kept 4 n (by decide), kept 5 n (by decide), w1 4 n (by decide) (by decide) (by decide), w1 5 n (by decide) (by decide) (by decide)]
    exact hr5.2.2.2 n hn hl
  · obtain ⟨c1, c2, c3⟩ := hC b hb
    rw [kept 7 b (by decide)]
    refine ⟨ch_keep _ _ (fun n _ => kept 6 n (by decide)) c1, c2, fun n hn => ?_⟩
    have hmn : s2 8 n ≠ 0 := by rw [← mrow]; exact (c3 n hn).2
    rw [kp_in (Or.inr hmn)]
    exact (hm n hmn).2
  · have c : n < 2 ∨ s2 8 n ≠ 0 := by
      by_cases c : n < 2 ∨ s2 8 n ≠ 0
      · exact c
      · rw [kp_out c] at hl; omega
    rw [kp_in c] at hl ⊢
    have n2 := gi_two hg hl
    have cm : s2 8 n ≠ 0 := by
      rcases c with q | q
      · omega
      · exact q
    exact hC2 n n2 (hme n cm) (by rw [mrow]; exact cm)
  · refine ⟨2, u, by rw [pu_eq]; rfl, by rw [pu_ne (by decide), pu_eq], Nat.le_refl _, by omega, wu2, by omega, fun n _ _ => by omega, fun n h1 h2 => kp_out fun c => ?_⟩
    rcases c with c | c
    · omega
    · have := hme n c
      exact c (by rw [← mrow]; exact wu n h1 this)
  · rw [kept 0 i (by decide), w1 0 i (by decide) (by decide) (by decide), row 0 i (by decide) (by decide) (by decide)]
    obtain ⟨r1, r2⟩ := hrt i hi
    refine ⟨r1, r2.1, ?_⟩
    have c : rt i < 2 ∨ s2 8 (rt i) ≠ 0 := by
      rcases Nat.lt_or_ge (rt i) 2 with z | z
      · exact Or.inl z
      · exact Or.inr (p5 i (Nat.zero_le _) hi z)
    rw [kp_in c]; exact r2.2
  · have c : j < 2 ∨ s2 8 j ≠ 0 := by
      by_cases c : j < 2 ∨ s2 8 j ≠ 0
      · exact c
      · exact absurd (kp_out c) hj.2
    have cm : s2 8 j ≠ 0 := by
      rcases c with q | q
      · omega
      · exact q
    obtain ⟨-, -, r, r20, ur⟩ := p6 j cm (zero j)
    refine ⟨r, r20, kp_ur hg p3 hm ?_ ur⟩
    rcases Nat.lt_or_ge (rt r) 2 with z | z
    · exact Or.inl z
    · exact Or.inr (p5 r (Nat.zero_le _) r20 z)
  · rw [pu_ne (by decide), pu_ne (by decide), w1 9 0 (by decide) (by decide) (by decide), r90]
    have ff : ((List.range 2048).filter fun j => decide (s2 8 j ≠ 0)) = ((List.range 2048).filter fun j => decide ((gh_kp g s2).1 j < 8)) := by
      refine List.filter_congr fun j hj => ?_
      by_cases c : s2 8 j = 0
      · have : ¬ (gh_kp g s2).1 j < 8 := by
          by_cases d : j < 2
          · rw [kp_in (Or.inl d), (gi_leaf hg d).2.1]; omega
          · rw [kp_out (fun z => z.elim d (fun y => y c))]; omega
        rw [decide_eq_false this, decide_eq_false (fun q => q c)]
      · have : (gh_kp g s2).1 j < 8 := by rw [kp_in (Or.inr c)]; exact (hm j c).2
        rw [decide_eq_true this, decide_eq_true c]
    rw [show mc_ s2 = nc_ (gh_kp g s2) from congrArg List.length ff]
  · intro j hj
    rw [kept 8 j (by decide), w1 8 j (by decide) (by decide) (by decide), mrow] at hj
    exact ⟨(hm j hj).1.1, by rw [kp_in (Or.inr hj)]; exact (hm j hj).1.2⟩
  · by_cases c : j < 2 ∨ s2 8 j ≠ 0
    · exact ⟨⟨hj.1, by rw [← kp_in c]; exact hj.2⟩, kp_in c⟩
    · exact absurd (kp_out c) hj.2
