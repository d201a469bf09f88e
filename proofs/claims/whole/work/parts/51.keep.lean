/-! A store between two calls: its cover; keep. My own. -/
def co_ (at_ : Nat → Nat) : Nat → mb_F → List mb_F
  | 0, _ => []
  | j + 1, f => f :: (co_ at_ j (mb_cf f (at_ (4 - j)) false) ++ co_ at_ j (mb_cf f (at_ (4 - j)) true))
theorem co_len (at_ : Nat → Nat) : ∀ (j : Nat) (f : mb_F), (co_ at_ j f).length = 2 ^ j - 1 := by
  intro j
  induction j with
  | zero => intro f; rfl
  | succ j ih =>
    intro f
    show (f :: (co_ at_ j (mb_cf f (at_ (4 - j)) false) ++ co_ at_ j (mb_cf f (at_ (4 - j)) true))).length = _
    have := Nat.one_le_two_pow (n := j)
    rw [List.length_cons, List.length_append, ih, ih, Nat.pow_succ]
    omega
theorem co_cl {at_ : Nat → Nat} {L : List mb_F} : ∀ (j : Nat) (f : mb_F), (∀ x, x ∈ co_ at_ j f → x ∈ L) → cl_ at_ L j f := by
  intro j
  induction j with
  | zero => intro f _; trivial
  | succ j ih =>
    intro f h
    exact ⟨h f List.mem_cons_self, ih _ fun x hx => h x (List.mem_cons_of_mem _ (List.mem_append_left _ hx)), ih _ fun x hx => h x (List.mem_cons_of_mem _ (List.mem_append_right _ hx))⟩
theorem cl_mono {at_ : Nat → Nat} {L M : List mb_F} (h : ∀ x, x ∈ L → x ∈ M) : ∀ (j : Nat) (f : mb_F), cl_ at_ L j f → cl_ at_ M j f := by
  intro j
  induction j with
  | zero => intro f _; trivial
  | succ j ih => intro f hf; exact ⟨h _ hf.1, ih _ hf.2.1, ih _ hf.2.2⟩
theorem ur_cl {lev at_ : Nat → Nat} {g : gh_} {L : List mb_F} {a n : Nat} (ho : or_ lev at_) (hg : gi_ lev g) (ha : gk_ g a) (hc : cl_ at_ L 5 (g.2.2.2 a)) (h : ur_ g a n) : gk_ g n ∧ cl_ at_ L (5 - lev (g.1 n)) (g.2.2.2 n) := by
  have skip : ∀ (i k : Nat), gk_ g i → k ≤ lev (g.1 i) → cl_ at_ L (5 - k) (g.2.2.2 i) → cl_ at_ L (5 - lev (g.1 i)) (g.2.2.2 i) := by
    intro i k hi hk hcl
    have l8 := or_le ho (gi_lab8 hg hi)
    have := cl_skip (lev (g.1 i) - k) k hcl (fun j h1 h2 => gi_abv ho hg hi (by rw [(ho.2.1 j (by omega)).2]; omega))
    rwa [show k + (lev (g.1 i) - k) = lev (g.1 i) by omega] at this
  refine h (fun i => gk_ g i ∧ cl_ at_ L (5 - lev (g.1 i)) (g.2.2.2 i)) ⟨ha, skip a 0 ha (Nat.zero_le _) hc⟩ (fun i hi hl => ?_)
  obtain ⟨k1, k2⟩ := gi_lo hg hi.1.1 hl
  obtain ⟨-, -, -, -, l1, l2, -, e⟩ := hg.2.2.1 i hi.1.1 hl
  obtain ⟨-, hd⟩ := cl_down hi.2
  rw [(ho.1 _ hl).2] at hd
  have h0 := hd false
  have h1 := hd true
  rw [e, mb_cf_mx0 (gi_abv ho hg k1 l1)] at h0
  rw [e, mb_cf_mx1 (gi_abv ho hg k2 l2)] at h1
  exact ⟨⟨k1, skip _ _ k1 l1 h0⟩, ⟨k2, skip _ _ k2 l2 h1⟩⟩
/-- the cover of the roots -/
def cr_ (at_ : Nat → Nat) (g : gh_) (rt : Nat → Nat) : List mb_F := (List.range 20).flatMap fun i => co_ at_ 5 (g.2.2.2 (rt i))
theorem cr_len (at_ : Nat → Nat) (g : gh_) (rt : Nat → Nat) : (cr_ at_ g rt).length = 620 := by
  unfold cr_
  rw [fm_len _ _ 31 (fun x => by rw [co_len]), List.length_range]
theorem cr_cv {s : wt_S} {lev at_ : Nat → Nat} {g : gh_} {rt : Nat → Nat} (h : rs0_ s lev at_ g rt) : cv_ lev g (cr_ at_ g rt) := by
  obtain ⟨ho, hr, hg, -, -, hrt, hre, -⟩ := h
  intro n hn hl
  have n2 : 2 ≤ n := by
    rcases gi_lab hg hn with q | ⟨-, q⟩
    · exact gi_two hg q
    · rw [q, ho.2.2] at hl; omega
  obtain ⟨i, hi, hu⟩ := hre n hn n2
  obtain ⟨-, hc⟩ := ur_cl (L := cr_ at_ g rt) ho hg (hrt i hi).2 (co_cl 5 _ fun x hx => List.mem_flatMap.mpr ⟨i, List.mem_range.mpr hi, hx⟩) hu
  exact (cl_down hc).1 hl
theorem rs_sg {s : wt_S} {lev at_ : Nat → Nat} {g : gh_} {rt : Nat → Nat} (h : rs0_ s lev at_ g rt) (M : List mb_F) (hM : M.length ≤ 1171) : sg_ s lev at_ g (cr_ at_ g rt ++ M) (fun _ => True) := by
  have hc := cr_cv h
  obtain ⟨ho, hr, hg, hcs, hce, -⟩ := h
  refine ⟨ho, hr, hg, hcs, hce, fun n hn hl => List.mem_append_left _ (hc n hn hl), ?_⟩
  rw [List.length_append, cr_len]
  omega
/-- registers: functions by number, and the order -/
def rd0_ (s : wt_S) (lev at_ : Nat → Nat) (g : gh_) (rt : Nat → Nat) (F : Nat → mb_F) : Prop := rs0_ s lev at_ g rt ∧ (∀ i, 16 ≤ i → i < 20 → rt i = 0) ∧ ∀ i, i < 16 → g.2.2.2 (rt i) = F i
theorem pc_of {s s' : wt_S} {lev at_ : Nat → Nat} {g g' : gh_} {rt rt' : Nat → Nat} {L : List mb_F} (h : rs0_ s lev at_ g rt) (h' : sg_ s' lev at_ g' L (fun _ => True)) (x : ex_ s s' g g') (hr' : ∀ i, i < 20 → gk_ g' (rt' i)) {t : wt_S} (ht : ∀ r j, r ≠ 0 → t r j = s' r j) (ht0 : ∀ i, i < 20 → t 0 i = nI (rt' i)) : pc_ t lev at_ g' rt' := by
  obtain ⟨ho, hr, hg, -, ⟨c, e, hc, he, hc2, hc3, he2, he3, hb, hend⟩, -⟩ := h'
  obtain ⟨-, -, -, -, -, -, -, -, hmk⟩ := h
  refine ⟨ho, ⟨fun v hv => by rw [ht 2 v (by decide)]; exact hr.1 v hv, fun k hk => by rw [ht 1 k (by decide)]; exact hr.2.1 k hk, fun n hn => by rw [ht 3 n (by decide)]; exact hr.2.2.1 n hn, fun n hn hl => by rw [ht 4 n (by decide), ht 5 n (by decide)]; exact hr.2.2.2 n hn hl⟩, hg, fun i hi => ⟨ht0 i hi, hr' i hi⟩, e, by rw [ht 9 1 (by decide)]; exact he, he2, he3, hend, fun n hn => ?_⟩
  rw [ht 8 n (by decide), x.2.2.1 n]
  apply Classical.byContradiction
  intro q
  have k := ex_gk x (hmk n q)
  exact k.2 (hend n hn k.1)
theorem kp_loop (K : wt_S → Option wt_S) : ∀ (d n i : Nat) (s : wt_S), i + d = 20 → d < n → ∃ t, fd_keep_L10 K n (nI i) s = K t ∧ (∀ r j, r ≠ 0 → t r j = s r j) ∧ (∀ j, i ≤ j → j < 20 → t 0 j = 0) ∧ ∀ j, j < i → t 0 j = s 0 j := by
  intro d
  induction d with
  | zero =>
    intro n i s h1 hn
    cases n with
    | zero => omega
    | succ n =>
      rw [fd_keep_L10, if_pos (show (20 : Int32) ≤ nI i from nI_le (a := 20) (by omega) (by omega))]
      exact ⟨s, rfl, fun _ _ _ => rfl, fun j _ _ => by omega, fun _ _ => rfl⟩
  | succ d ih =>
    intro n i s h1 hn
    cases n with
    | zero => omega
    | succ n =>
      rw [fd_keep_L10, if_neg (show ¬ (20 : Int32) ≤ nI i from nI_ge (b := 20) (by omega) (by decide)), wc_S (by omega) (by decide), nI_1]
      obtain ⟨t, q1, q2, q3, q4⟩ := ih n (i + 1) (pu_S s 0 i 0) (by omega) (by omega)
      refine ⟨t, q1, fun r j hr => by rw [q2 r j hr, pu_row hr], fun j h2 h3 => ?_, fun j hj => by rw [q4 j (by omega), pu_ne (by omega)]⟩
      by_cases c : j = i
      · subst c; rw [q4 j (by omega), pu_eq]
      · exact q3 j (by omega) h3
theorem ke_ok {s s' : wt_S} {lev at_ : Nat → Nat} {g g' : gh_} {rt : Nat → Nat} {F : Nat → mb_F} {L : List mb_F} {r n : Nat} (h : rs0_ s lev at_ g rt) (hF : ∀ i, i < 16 → g.2.2.2 (rt i) = F i) (h' : sg_ s' lev at_ g' L (fun _ => True)) (x : ex_ s s' g g') (hr : r < 16) (hn : gk_ g' n) : ∃ (t : wt_S) (g2 : gh_) (rt2 : Nat → Nat), fd_keep s' (nI r) (nI n) = some t ∧ rd0_ t lev at_ g2 rt2 (fun i => if i = r then g'.2.2.2 n else F i) := by
  unfold fd_keep
  rw [wc_S (by omega) (by decide)]
  obtain ⟨t, q1, q2, q3, q4⟩ := kp_loop (fun (s_10 : wt_S) => b_S (fd_collect s_10) fun s30 => some s30) 4 5000 16 (pu_S s' 0 r (nI n)) (by omega) (by omega)
  rw [show nI 16 = (16 : Int32) from rfl] at q1
  rw [q1]
  obtain ⟨-, -, -, -, -, hrt, -⟩ := id h
  have rts : ∀ i, i < 20 → t 0 i = nI (if i = r then n else if i < 16 then rt i else 0) := by
    intro i hi
    rcases Nat.lt_or_ge i 16 with c | c
    · rw [q4 i c]
      by_cases d : i = r
      · subst d; rw [pu_eq, if_pos rfl]
      · rw [pu_ne d, if_neg d, if_pos c, x.2.1 i]; exact (hrt i hi).1
    · rw [q3 i c hi, if_neg (by omega), if_neg (by omega), nI_0]
  have gks : ∀ i, i < 20 → gk_ g' (if i = r then n else if i < 16 then rt i else 0) := by
    intro i hi
    by_cases d : i = r
    · rw [if_pos d]; exact hn
    · rw [if_neg d]
      by_cases c : i < 16
      · rw [if_pos c]; exact ex_gk x (hrt i hi).2
      · rw [if_neg c]; exact (gi_leaf h'.2.2.1 (by decide)).1
  obtain ⟨t2, g2, e2, hs2, hg2, hk2⟩ := co_ok (pc_of (rt' := fun i => if i = r then n else if i < 16 then rt i else 0) h h' x gks (t := t) (fun r' j hr' => by rw [q2 r' j hr', pu_row hr']) rts)
  rw [e2, bS_some]
  refine ⟨t2, g2, _, rfl, hs2, fun i h1 h2 => by rw [if_neg (by omega), if_neg (by omega)], fun i hi => ?_⟩
  rw [show g2.2.2.2 = g'.2.2.2 from by rw [hg2]]
  dsimp only
  by_cases d : i = r
  · rw [if_pos d, if_pos d]
  · rw [if_neg d, if_neg d, if_pos hi, (x.1 _ (hrt i (by omega)).2).2.2.2]; exact hF i hi
