/-! sweep and collect. My own. -/
theorem fl_loop (x : Int32) : ∀ (d n i : Nat) (s : wt_S), i + d = 256 → d < n → ∃ s', fa_fill7_L5 x 256 n (nI i) s = some s' ∧ (∀ r j, r ≠ 7 → s' r j = s r j) ∧ (∀ j, i ≤ j → j < 256 → s' 7 j = x) ∧ ∀ j, j < i → s' 7 j = s 7 j := by
  intro d
  induction d with
  | zero =>
    intro n i s h1 h2
    cases n with
    | zero => omega
    | succ n =>
      rw [fa_fill7_L5, if_pos (show (256 : Int32) ≤ nI i from nI_le (a := 256) (by omega) (by omega))]
      exact ⟨s, rfl, fun _ _ _ => rfl, fun j _ _ => by omega, fun _ _ => rfl⟩
  | succ d ih =>
    intro n i s h1 h2
    cases n with
    | zero => omega
    | succ n =>
      rw [fa_fill7_L5, if_neg (show ¬ (256 : Int32) ≤ nI i from nI_ge (b := 256) (by omega) (by decide)), wc_S (by omega) (by decide), nI_1]
      obtain ⟨s', q1, q2, q3, q4⟩ := ih n (i + 1) (pu_S s 7 i x) (by omega) (by omega)
      refine ⟨s', q1, fun r j hr => by rw [q2 r j hr, pu_row hr], fun j h3 h4 => ?_, fun j hj => by rw [q4 j (by omega), pu_ne (by omega)]⟩
      by_cases c : j = i
      · subst c; rw [q4 j (by omega), pu_eq]
      · exact q3 j (by omega) h4
theorem fl_ok (s : wt_S) (x : Int32) : ∃ s', fa_fill7 s x = some s' ∧ (∀ r j, r ≠ 7 → s' r j = s r j) ∧ (∀ j, j < 256 → s' 7 j = x) := by
  unfold fa_fill7
  obtain ⟨s', q1, q2, q3, -⟩ := fl_loop x 256 5000 0 s (by omega) (by omega)
  rw [nI_0] at q1
  exact ⟨s', q1, q2, fun j hj => q3 j (Nat.zero_le _) hj⟩
/-- the sweep at place i: s0 is the store before it -/
def sw_ (g : gh_) (s0 : wt_S) (i u : Nat) (s : wt_S) : Prop :=
  (∀ r j, r ≠ 3 → r ≠ 6 → r ≠ 7 → s r j = s0 r j) ∧ (∀ j, s 3 j = if 2 ≤ j ∧ j < i ∧ s0 8 j = 0 then -1 else s0 3 j) ∧
  (∃ C : Nat → List Nat, (∀ b, b < 256 → ch_ s (s 7 b) (C b) ∧ (C b).Nodup ∧ ∀ n, n ∈ C b → n < i ∧ s0 8 n ≠ 0) ∧ ∀ n, 2 ≤ n → n < i → s0 8 n ≠ 0 → n ∈ C (bk_ (g.1 n) (g.2.1 n) (g.2.2.1 n))) ∧
  2 ≤ u ∧ u ≤ i ∧ ∀ n, u ≤ n → n < i → s0 8 n = 0
theorem sw_loop {lev at_ : Nat → Nat} {g : gh_} {s0 : wt_S} {e : Nat} (hg : gi_ lev g) (hr : rp_ s0 lev at_ g) (he : e ≤ 2048) (he1 : s0 9 1 = nI e) (hmk : ∀ j, 2 ≤ j → j < e → s0 8 j ≠ 0 → g.1 j < 8) (K : Int32 → wt_S → Option wt_S) : ∀ (d n i u : Nat) (s : wt_S), i + d = e → 2 ≤ i → sw_ g s0 i u s → d < n → ∃ u' s', fd_sweep_L12 K n (nI u) (nI i) s = K (nI u') s' ∧ sw_ g s0 e u' s' := by
  intro d
  induction d with
  | zero =>
    intro n i u s h1 h2 h hn
    cases n with
    | zero => omega
    | succ n =>
      have ei : i = e := by omega
      subst ei
      rw [fd_sweep_L12, h.1 9 1 (by decide) (by decide) (by decide), he1, if_pos (nI_le (Nat.le_refl _) (by omega))]
      exact ⟨u, s, rfl, h⟩
  | succ d ih =>
    intro n i u s h1 h2 h hn
    cases n with
    | zero => omega
    | succ n =>
      obtain ⟨r0, r3, ⟨C, hC, hC2⟩, u2, ui, hu⟩ := id h
      have i31 : i < 2048 := by omega
      rw [fd_sweep_L12, r0 9 1 (by decide) (by decide) (by decide), he1, if_neg (nI_ge (by omega) (by omega)), rc_at i31 (by decide), r0 8 i (by decide) (by decide) (by decide)]
      simp only [jn_]
      by_cases q : s0 8 i = 0
      · rw [if_pos q, wc_S i31 (by decide), nI_1]
        refine ih n (i + 1) u (pu_S s 3 i (-1)) (by omega) (by omega) ⟨fun r j a b c => by rw [pu_row a]; exact r0 r j a b c, fun j => ?_, ⟨C, fun b hb => ?_, fun m m2 mi mm => ?_⟩, u2, by omega, fun m m1 m2 => ?_⟩ (by omega)
        · rw [pu_at, r3 j]
          by_cases c : j = i
          · subst c
            rw [if_pos ⟨rfl, rfl⟩, if_pos ⟨h2, by omega, q⟩]
          · rw [if_neg (fun z => c z.2)]
            by_cases c2 : 2 ≤ j ∧ j < i ∧ s0 8 j = 0
            · rw [if_pos c2, if_pos ⟨c2.1, by omega, c2.2.2⟩]
            · rw [if_neg c2, if_neg (fun z => c2 ⟨z.1, by omega, z.2.2⟩)]
        · obtain ⟨c1, c2, c3⟩ := hC b hb
          rw [pu_row (by decide)]
          exact ⟨ch_keep _ _ (fun m _ => pu_row (by decide)) c1, c2, fun m hm => ⟨by have := (c3 m hm).1; omega, (c3 m hm).2⟩⟩
        · have : m ≠ i := fun c => mm (c ▸ q)
          exact hC2 m m2 (by omega) mm
        · by_cases c : m = i
          · rw [c]; exact q
          · exact hu m m1 (by omega)
      · have gl := hmk i h2 (by omega) q
        obtain ⟨n1, n2, -⟩ := hg.2.2.1 i i31 gl
        have e3 : s 3 i = nI (g.1 i) := by
          rw [r3 i, if_neg (fun z => q z.2.2), hr.2.2.1 i i31, cL_lt (by omega)]
        have e4 : s 4 i = nI (g.2.1 i) := by rw [r0 4 i (by decide) (by decide) (by decide)]; exact (hr.2.2.2 i i31 gl).1
        have e5 : s 5 i = nI (g.2.2.1 i) := by rw [r0 5 i (by decide) (by decide) (by decide)]; exact (hr.2.2.2 i i31 gl).2
        have hbk : bk_ (g.1 i) (g.2.1 i) (g.2.2.1 i) < 256 := Nat.mod_lt _ (by decide)
        rw [if_neg q, rc_at i31 (by decide), rc_at i31 (by decide), rc_at i31 (by decide), e3, e4, e5, bu_ok _ _ _ (by omega) n1 n2, bI_some, rc_at hbk (by decide), wc_S i31 (by decide), wc_S hbk (by decide), nI_1]
        refine ih n (i + 1) (i + 1) _ (by omega) (by omega) ⟨fun r j a b c => by rw [pu_row c, pu_row b]; exact r0 r j a b c, fun j => ?_, ⟨fun b => if b = bk_ (g.1 i) (g.2.1 i) (g.2.2.1 i) then i :: C b else C b, fun b hb => ?_, fun m m2 mi mm => ?_⟩, by omega, Nat.le_refl _, fun m m1 m2 => by omega⟩ (by omega)
        · rw [pu_row (by decide), pu_row (by decide), r3 j]
          by_cases c2 : 2 ≤ j ∧ j < i ∧ s0 8 j = 0
          · rw [if_pos c2, if_pos ⟨c2.1, by omega, c2.2.2⟩]
          · rw [if_neg c2, if_neg (fun z => c2 ⟨z.1, by
              have : j ≠ i := fun c => q (c ▸ z.2.2)
              omega, z.2.2⟩)]
        · obtain ⟨c1, c2, c3⟩ := hC b hb
          have inot : i ∉ C b := fun z => by have := (c3 i z).1; omega
          have c1' : ch_ (pu_S (pu_S s 6 i (s 7 (bk_ (g.1 i) (g.2.1 i) (g.2.2.1 i)))) 7 (bk_ (g.1 i) (g.2.1 i) (g.2.2.1 i)) (nI i)) (s 7 b) (C b) := ch_keep _ _ (fun m hm => by rw [pu_row (by decide), pu_ne (show m ≠ i from fun z => inot (by rw [← z]; exact hm))]) c1
          by_cases c : b = bk_ (g.1 i) (g.2.1 i) (g.2.2.1 i)
          · dsimp only
            rw [if_pos c]
            refine ⟨?_, List.nodup_cons.mpr ⟨inot, c2⟩, fun m hm => ?_⟩
            · rw [c, pu_eq]
              refine ⟨rfl, h2, i31, ?_⟩
              rw [pu_row (by decide), pu_eq, ← c]
              rw [← c] at c1'
              exact c1'
            · rcases List.mem_cons.mp hm with z | z
              · rw [z]; exact ⟨by omega, q⟩
              · exact ⟨by have := (c3 m z).1; omega, (c3 m z).2⟩
          · dsimp only
            rw [if_neg c, pu_ne c, pu_row (by decide)]
            exact ⟨c1', c2, fun m hm => ⟨by have := (c3 m hm).1; omega, (c3 m hm).2⟩⟩
        · dsimp only
          by_cases c : m = i
          · subst c
            rw [if_pos rfl]
            exact List.mem_cons_self
          · have := hC2 m m2 (by omega) mm
            by_cases w : bk_ (g.1 m) (g.2.1 m) (g.2.2.1 m) = bk_ (g.1 i) (g.2.1 i) (g.2.2.1 i)
            · rw [if_pos w]; exact List.mem_cons_of_mem _ this
            · rw [if_neg w]; exact this
