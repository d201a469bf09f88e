/-! Marks: clearMarks, mark. My own. -/
theorem nar_0 : vp_nar .boolean 0 = 0 := by decide
theorem nar_1 : vp_nar .boolean 1 = 1 := by decide
/-- only the row of marks is another -/
def m8_ (s s' : wt_S) : Prop := ∀ r j, r ≠ 8 → s' r j = s r j
theorem m8_rf (s : wt_S) : m8_ s s := fun _ _ _ => rfl
theorem m8_tr {s s1 s2 : wt_S} (h : m8_ s s1) (k : m8_ s1 s2) : m8_ s s2 := fun r j hr => (k r j hr).trans (h r j hr)
theorem m8_pu (s : wt_S) (i : Nat) (x : Int32) : m8_ s (pu_S s 8 i x) := fun r j hr => pu_row hr
theorem m8_rp {s s' : wt_S} {lev at_ : Nat → Nat} {g : gh_} (h : m8_ s s') (hr : rp_ s lev at_ g) : rp_ s' lev at_ g :=
  ⟨fun v hv => by rw [h 2 v (by decide)]; exact hr.1 v hv, fun k hk => by rw [h 1 k (by decide)]; exact hr.2.1 k hk, fun n hn => by rw [h 3 n (by decide)]; exact hr.2.2.1 n hn, fun n hn hl => by rw [h 4 n (by decide), h 5 n (by decide)]; exact hr.2.2.2 n hn hl⟩
theorem cm_loop : ∀ (d n i e : Nat) (s : wt_S), i + d = e → e ≤ 2048 → s 9 1 = nI e → d < n → ∃ s', fd_clearMarks_L2 n (nI i) s = some s' ∧ m8_ s s' ∧ (∀ j, i ≤ j → j < e → s' 8 j = 0) ∧ ∀ j, (j < i ∨ e ≤ j) → s' 8 j = s 8 j := by
  intro d
  induction d with
  | zero =>
    intro n i e s h1 h2 h3 h4
    cases n with
    | zero => omega
    | succ n =>
      rw [fd_clearMarks_L2, h3, if_pos (nI_le (by omega) (by omega))]
      exact ⟨s, rfl, m8_rf s, fun j _ _ => by omega, fun _ _ => rfl⟩
  | succ d ih =>
    intro n i e s h1 h2 h3 h4
    cases n with
    | zero => omega
    | succ n =>
      rw [fd_clearMarks_L2, h3, if_neg (nI_ge (by omega) (by omega)), wc_S (by omega) (by decide), nI_1, nar_0]
      obtain ⟨s', q1, q2, q3, q4⟩ := ih n (i + 1) e (pu_S s 8 i 0) (by omega) h2 (by rw [pu_row (by decide)]; exact h3) (by omega)
      refine ⟨s', q1, m8_tr (m8_pu s i 0) q2, fun j h5 h6 => ?_, fun j hj => ?_⟩
      · by_cases c : j = i
        · subst c; rw [q4 j (Or.inl (by omega)), pu_eq]
        · exact q3 j (by omega) h6
      · rw [q4 j (by omega), pu_ne (by omega)]
theorem cm_ok {s : wt_S} {e : Nat} (he : s 9 1 = nI e) (h2 : e ≤ 2048) : ∃ s', fd_clearMarks s = some s' ∧ m8_ s s' ∧ (∀ j, j < e → s' 8 j = 0) ∧ ∀ j, e ≤ j → s' 8 j = s 8 j := by
  unfold fd_clearMarks
  obtain ⟨s', q1, q2, q3, q4⟩ := cm_loop e 5000 0 e s (by omega) h2 he (by omega)
  rw [nI_0] at q1
  exact ⟨s', q1, q2, fun j hj => q3 j (Nat.zero_le _) hj, fun j hj => q4 j (Or.inr hj)⟩
/-- j is under a -/
def ur_ (g : gh_) (a j : Nat) : Prop := ∀ S : Nat → Prop, S a → (∀ i, S i → g.1 i < 8 → S (g.2.1 i) ∧ S (g.2.2.1 i)) → S j
theorem ur_rf (g : gh_) (a : Nat) : ur_ g a a := fun _ h _ => h
theorem ur_lo {g : gh_} {a j : Nat} (ha : g.1 a < 8) (h : ur_ g (g.2.1 a) j) : ur_ g a j := fun S h1 h2 => h S (h2 a h1 ha).1 h2
theorem ur_hi {g : gh_} {a j : Nat} (ha : g.1 a < 8) (h : ur_ g (g.2.2.1 a) j) : ur_ g a j := fun S h1 h2 => h S (h2 a h1 ha).2 h2
/-- the number of marks -/
def mc_ (s : wt_S) : Nat := ((List.range 2048).filter fun j => decide (s 8 j ≠ 0)).length
theorem fl_put (p q : Nat → Bool) (a : Nat) (hp : p a = false) (hq : q a = true) (ho : ∀ j, j ≠ a → q j = p j) : ∀ (l : List Nat), l.Nodup → a ∈ l → (l.filter q).length = (l.filter p).length + 1 := by
  intro l
  induction l with
  | nil => intro _ h; cases h
  | cons x l ih =>
    intro hn hm
    obtain ⟨h1, h2⟩ := List.nodup_cons.mp hn
    by_cases c : x = a
    · subst c
      have same : l.filter q = l.filter p := List.filter_congr fun y hy => ho y (fun d => h1 (d ▸ hy))
      rw [List.filter_cons, List.filter_cons, if_pos hq, if_neg (by rw [hp]; decide), same]
      rfl
    · have hm2 : a ∈ l := by
        rcases List.mem_cons.mp hm with d | d
        · exact absurd d.symm c
        · exact d
      have := ih h2 hm2
      rw [List.filter_cons, List.filter_cons, ho x c]
      cases p x
      · simpa using this
      · simp only [if_true, List.length_cons]; omega
theorem mc_put {s : wt_S} {a : Nat} (ha : a < 2048) (h : s 8 a = 0) : mc_ (pu_S s 8 a 1) = mc_ s + 1 := by
  unfold mc_
  refine fl_put _ _ a ?_ ?_ ?_ _ List.nodup_range (List.mem_range.mpr ha)
  · rw [h]; decide
  · rw [pu_eq]; decide
  · intro j hj
    rw [pu_ne hj]
/-- marks of level k and below are closed -/
def mk_ (lev : Nat → Nat) (g : gh_) (k : Nat) (s : wt_S) : Prop := ∀ j, gk_ g j → s 8 j ≠ 0 → g.1 j < 8 → k ≤ lev (g.1 j) → (2 ≤ g.2.1 j → s 8 (g.2.1 j) ≠ 0) ∧ (2 ≤ g.2.2.1 j → s 8 (g.2.2.1 j) ≠ 0)
theorem mk_mono {lev : Nat → Nat} {g : gh_} {k k' : Nat} {s : wt_S} (h : mk_ lev g k s) (hk : k ≤ k') : mk_ lev g k' s := fun j h1 h2 h3 h4 => h j h1 h2 h3 (by omega)
theorem ma_ok {lev at_ : Nat → Nat} {g : gh_} (ho : or_ lev at_) (hg : gi_ lev g) : ∀ (n d k a : Nat) (s : wt_S), rp_ s lev at_ g → gk_ g a → d ≤ k → k ≤ lev (g.1 a) → 9 ≤ n + d → mk_ lev g k s → mc_ s ≤ 2048 → ∃ (c : Nat) (s' : wt_S), fd_mark n s (nI a) (nI d) = some (nI c, s') ∧ m8_ s s' ∧ mc_ s' = mc_ s + c ∧ (∀ j, s 8 j ≠ 0 → s' 8 j ≠ 0) ∧ (2 ≤ a → s' 8 a ≠ 0) ∧ mk_ lev g k s' ∧ (∀ j, s' 8 j ≠ 0 → s 8 j = 0 → ur_ g a j ∧ gk_ g j ∧ g.1 j < 8 ∧ lev (g.1 a) ≤ lev (g.1 j)) := by
  intro n
  induction n with
  | zero =>
    intro d k a s hr ha dk hk hn
    have := or_le ho (gi_lab8 hg ha)
    omega
  | succ n ih =>
    intro d k a s hr ha dk hk hn hmk hmc
    have a31 : a < 2 ^ 31 := Nat.lt_trans ha.1 (by decide)
    rw [fd_mark]
    simp only [jn_]
    by_cases ql : a ≤ 1
    · rw [if_pos (show nI a ≤ (1 : Int32) from nI_le (b := 1) ql (by decide))]
      exact ⟨0, s, by rw [nI_0], m8_rf s, (Nat.add_zero _).symm, fun _ h => h, fun h => by omega, hmk, fun j h1 h2 => absurd h2 h1⟩
    · have ga := gi_big hg ha (by omega)
      have la8 := (ho.1 _ ga).1
      obtain ⟨n1, n2, -, -, l1, l2, -, e⟩ := hg.2.2.1 a ha.1 ga
      obtain ⟨k1, k2⟩ := gi_lo hg ha.1 ga
      rw [if_neg (show ¬ nI a ≤ (1 : Int32) from nI_ge (a := 1) (by omega) a31), rc_at ha.1 (by decide)]
      by_cases qm : s 8 a = 0
      · rw [if_pos qm, if_pos (show nI d < (8 : Int32) from nI_lt (b := 8) (by omega) (by decide)), wc_S ha.1 (by decide), nar_1, rc_at ha.1 (by decide), pu_row (by decide), (hr.2.2.2 a ha.1 ga).1, nI_1]
        have hr1 := m8_rp (m8_pu s a 1) hr
        have mk1 : mk_ lev g (lev (g.1 a) + 1) (pu_S s 8 a 1) := by
          intro j h1 h2 h3 h4
          have ja : j ≠ a := fun c => by rw [c] at h4; omega
          rw [pu_ne ja] at h2
          obtain ⟨p1, p2⟩ := hmk j h1 h2 h3 (by omega)
          have up : ∀ i, s 8 i ≠ 0 → pu_S s 8 a 1 8 i ≠ 0 := fun i hi => by
            by_cases c : i = a
            · subst c; rw [pu_eq]; decide
            · rw [pu_ne c]; exact hi
          exact ⟨fun q => up _ (p1 q), fun q => up _ (p2 q)⟩
        have mcp := mc_put ha.1 qm
        have bound : ∀ u : wt_S, mc_ u ≤ 2048 := fun u => by
          have := List.length_filter_le (fun j => decide (u 8 j ≠ 0)) (List.range 2048)
          rw [List.length_range] at this
          exact this
        obtain ⟨c0, s0, e0, m0, z0, o0, t0, mk0, w0⟩ := ih (d + 1) (lev (g.1 a) + 1) _ _ hr1 k1 (by omega) l1 (by omega) mk1 (bound _)
        rw [e0, bIS_some, rc_at ha.1 (by decide), m0 5 a (by decide), pu_row (by decide), (hr.2.2.2 a ha.1 ga).2]
        have hr2 := m8_rp m0 hr1
        obtain ⟨c1, s1, e1, m1, z1, o1, t1, mk1', w1⟩ := ih (d + 1) (lev (g.1 a) + 1) _ _ hr2 k2 (by omega) l2 (by omega) mk0 (bound _)
        rw [e1, bIS_some]
        have old : ∀ j, s 8 j ≠ 0 → s1 8 j ≠ 0 := fun j hj => o1 j (o0 j (by
          by_cases c : j = a
          · subst c; rw [pu_eq]; decide
          · rw [pu_ne c]; exact hj))
        have own : s1 8 a ≠ 0 := o1 a (o0 a (by rw [pu_eq]; decide))
        have new : ∀ j, s1 8 j ≠ 0 → s 8 j = 0 → j = a ∨ (ur_ g a j ∧ gk_ g j ∧ g.1 j < 8 ∧ lev (g.1 a) + 1 ≤ lev (g.1 j)) := by
          intro j h1 h2
          by_cases c : j = a
          · exact Or.inl c
          · refine Or.inr ?_
            by_cases q : s0 8 j = 0
            · obtain ⟨x1, x2, x3, x4⟩ := w1 j h1 q
              exact ⟨ur_hi ga x1, x2, x3, by omega⟩
            · obtain ⟨x1, x2, x3, x4⟩ := w0 j q (by rw [pu_ne c]; exact h2)
              exact ⟨ur_lo ga x1, x2, x3, by omega⟩
        refine ⟨1 + c0 + c1, s1, ?_, m8_tr (m8_tr (m8_pu s a 1) m0) m1, by omega, old, fun _ => own, ?_, ?_⟩
        · rw [show (1 : Int32) = nI 1 from rfl, nI_add, nI_add]
        · intro j h1 h2 h3 h4
          by_cases q : s 8 j = 0
          · rcases new j h2 q with c | ⟨-, -, -, x4⟩
            · subst c
              exact ⟨fun z => o1 _ (t0 z), fun z => t1 z⟩
            · exact mk1' j h1 h2 h3 x4
          · obtain ⟨p1, p2⟩ := hmk j h1 q h3 h4
            exact ⟨fun z => old _ (p1 z), fun z => old _ (p2 z)⟩
        · intro j h1 h2
          rcases new j h1 h2 with c | ⟨x1, x2, x3, x4⟩
          · subst c; exact ⟨ur_rf g j, ha, ga, Nat.le_refl _⟩
          · exact ⟨x1, x2, x3, by omega⟩
      · rw [if_neg qm]
        exact ⟨0, s, by rw [nI_0], m8_rf s, (Nat.add_zero _).symm, fun _ h => h, fun _ => qm, hmk, fun j h1 h2 => absurd h2 h1⟩
