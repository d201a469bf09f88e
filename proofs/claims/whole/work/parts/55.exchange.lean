/-! exchange. My own. -/
def lx_ (lev : Nat → Nat) (x y k : Nat) : Nat → Nat := fun v => if v = x then k + 1 else if v = y then k else lev v
def ax_ (at_ : Nat → Nat) (x y k : Nat) : Nat → Nat := fun j => if j = k then y else if j = k + 1 then x else at_ j
theorem lx_x (lev : Nat → Nat) (x y k : Nat) : lx_ lev x y k x = k + 1 := by simp [lx_]
theorem lx_y (lev : Nat → Nat) {x y : Nat} (k : Nat) (h : x ≠ y) : lx_ lev x y k y = k := by simp [lx_, Ne.symm h]
theorem lx_o (lev : Nat → Nat) {x y v : Nat} (k : Nat) (h1 : v ≠ x) (h2 : v ≠ y) : lx_ lev x y k v = lev v := by simp [lx_, h1, h2]
theorem lx_or {lev at_ : Nat → Nat} (ho : or_ lev at_) {k : Nat} (hk : k < 7) : or_ (lx_ lev (at_ k) (at_ (k + 1)) k) (ax_ at_ (at_ k) (at_ (k + 1)) k) ∧ at_ k ≠ at_ (k + 1) := by
  have a0 := ho.2.1 k (by omega)
  have a1 := ho.2.1 (k + 1) (by omega)
  have xy : at_ k ≠ at_ (k + 1) := fun c => by
    have := congrArg lev c
    omega
  refine ⟨⟨fun v hv => ?_, fun j hj => ?_, ?_⟩, xy⟩
  · have b := ho.1 v hv
    by_cases c : v = at_ k
    · subst c; rw [lx_x]; exact ⟨by omega, by simp [ax_]⟩
    · by_cases d : v = at_ (k + 1)
      · subst d; rw [lx_y lev k xy]; exact ⟨by omega, by simp [ax_]⟩
      · rw [lx_o lev k c d]
        refine ⟨b.1, ?_⟩
        have n0 : lev v ≠ k := fun z => c (by rw [← z]; exact b.2.symm)
        have n1 : lev v ≠ k + 1 := fun z => d (by rw [← z]; exact b.2.symm)
        simp [ax_, n0, n1, b.2]
  · have b := ho.2.1 j hj
    by_cases c : j = k
    · subst c
      have e : ax_ at_ (at_ j) (at_ (j + 1)) j j = at_ (j + 1) := by simp [ax_]
      rw [e, lx_y lev j xy]; exact ⟨a1.1, rfl⟩
    · by_cases d : j = k + 1
      · subst d
        have e : ax_ at_ (at_ k) (at_ (k + 1)) k (k + 1) = at_ k := by simp [ax_]
        rw [e, lx_x]; exact ⟨a0.1, rfl⟩
      · have e : ax_ at_ (at_ k) (at_ (k + 1)) k j = at_ j := by simp [ax_, c, d]
        have n0 : at_ j ≠ at_ k := fun z => c (by have := congrArg lev z; omega)
        have n1 : at_ j ≠ at_ (k + 1) := fun z => d (by have := congrArg lev z; omega)
        rw [e, lx_o lev k n0 n1]; exact b
  · rw [lx_o lev k (by omega) (by omega)]; exact ho.2.2
theorem ex_ok {s : wt_S} {lev at_ : Nat → Nat} {g : gh_} {rt : Nat → Nat} (h : rs0_ s lev at_ g rt) {k : Nat} (hk : k < 7) : ∃ (t : wt_S) (g2 : gh_), fd_exchange s (nI k) = some t ∧ rs0_ t (lx_ lev (at_ k) (at_ (k + 1)) k) (ax_ at_ (at_ k) (at_ (k + 1)) k) g2 rt ∧ ∀ i, i < 20 → g2.2.2.2 (rt i) = g.2.2.2 (rt i) := by
  have hcv := cr_cv h
  obtain ⟨ho, hr, hg, hcs, hce, hrt, hre, -, hmk⟩ := id h
  obtain ⟨ho', xy⟩ := lx_or ho hk
  have a0 := ho.2.1 k (by omega)
  have a1 := ho.2.1 (k + 1) (by omega)
  generalize hx : at_ k = x at ho' xy a0
  generalize hy : at_ (k + 1) = y at ho' xy a1
  obtain ⟨x8, lx⟩ := a0
  obtain ⟨y8, ly⟩ := a1
  generalize hl' : lx_ lev x y k = lev' at ho'
  generalize ha' : ax_ at_ x y k = at' at ho'
  have Lx : lev' x = k + 1 := by rw [← hl', lx_x]
  have Ly : lev' y = k := by rw [← hl', lx_y lev k xy]
  have Lo : ∀ v, v ≠ x → v ≠ y → lev' v = lev v := fun v c d => by rw [← hl', lx_o lev k c d]
  -- which levels change
  have lab : ∀ v, v ≤ 8 → lev v ≠ k → lev v ≠ k + 1 → lev' v = lev v := fun v _ c d => Lo v (fun z => c (by rw [z]; exact lx)) (fun z => d (by rw [z]; exact ly))
  have isx : ∀ v, v ≤ 8 → lev v = k → v = x := fun v hv e => by
    rcases Nat.lt_or_eq_of_le hv with c | c
    · exact or_inj ho c x8 (by rw [e, lx])
    · rw [c, ho.2.2] at e; omega
  have isy : ∀ v, v ≤ 8 → lev v = k + 1 → v = y := fun v hv e => by
    rcases Nat.lt_or_eq_of_le hv with c | c
    · exact or_inj ho c y8 (by rw [e, ly])
    · rw [c, ho.2.2] at e; omega
  have mono : ∀ v w, v ≤ 8 → w ≤ 8 → lev v < lev w → ¬ (v = x ∧ w = y) → lev' v < lev' w := by
    intro v w hv hw hl hn
    by_cases v0 : lev v = k
    · have := isx v hv v0
      subst this
      by_cases w1 : lev w = k + 1
      · exact absurd ⟨rfl, isy w hw w1⟩ hn
      · rw [Lx, lab w hw (by omega) w1]; omega
    · by_cases v1 : lev v = k + 1
      · have := isy v hv v1
        subst this
        rw [Ly, lab w hw (by omega) (by omega)]; omega
      · rw [lab v hv v0 v1]
        by_cases w0 : lev w = k
        · have := isx w hw w0
          subst this
          rw [Lx]; omega
        · by_cases w1 : lev w = k + 1
          · have := isy w hw w1
            subst this
            rw [Ly]; omega
          · rw [lab w hw w0 w1]; exact hl
  -- the store with the new order
  have hrx : ∀ n, gk_ g n → g.1 n ≤ 8 := fun n hn => gi_lab8 hg hn
  unfold fd_exchange fd_seat
  rw [rc_at (by omega) (by decide), hr.2.1 k (by omega), hx, nI_1, rc_at (by omega) (by decide), hr.2.1 (k + 1) (by omega), hy, wc_S (by omega) (by decide), wc_S (by omega) (by decide), bS_some, wc_S (by omega) (by decide), wc_S (by omega) (by decide), bS_some]
  generalize hs7 : pu_S (pu_S (pu_S (pu_S s 1 k (nI y)) 2 y (nI k)) 1 (k + 1) (nI x)) 2 x (nI (k + 1)) = s7
  have row : ∀ r j, r ≠ 1 → r ≠ 2 → s7 r j = s r j := fun r j c d => by rw [← hs7, pu_row d, pu_row c, pu_row d, pu_row c]
  have hr7 : rp_ s7 lev' at' g := by
    refine ⟨fun v hv => ?_, fun j hj => ?_, fun n hn => by rw [row 3 n (by decide) (by decide)]; exact hr.2.2.1 n hn, fun n hn hl => by rw [row 4 n (by decide) (by decide), row 5 n (by decide) (by decide)]; exact hr.2.2.2 n hn hl⟩
    · rw [← hs7]
      by_cases c : v = x
      · rw [c, pu_eq, Lx]
      · rw [pu_ne c, pu_row (by decide)]
        by_cases d : v = y
        · rw [d, pu_eq, Ly]
        · rw [pu_ne d, pu_row (by decide), Lo v c d]; exact hr.1 v hv
    · rw [← hs7, pu_row (by decide), ← ha']
      by_cases c : j = k + 1
      · subst c; rw [pu_eq]; simp [ax_]
      · rw [pu_ne c, pu_row (by decide)]
        by_cases d : j = k
        · subst d; rw [pu_eq]; simp [ax_]
        · rw [pu_ne d, hr.2.1 j hj]; simp [ax_, c, d]
  -- nodes that are to be lifted
  have g0 : gm_ lev' g x y k (fun m => (m < 2048 ∧ g.1 m = x ∧ (g.1 (g.2.1 m) = y ∨ g.1 (g.2.2.1 m) = y)) ∧ 2 ≤ m) := by
    have child : ∀ n, n < 2048 → g.1 n < 8 → gk_ g (g.2.1 n) ∧ gk_ g (g.2.2.1 n) ∧ lev (g.1 n) < lev (g.1 (g.2.1 n)) ∧ lev (g.1 n) < lev (g.1 (g.2.2.1 n)) := fun n hn hl => by
      obtain ⟨c0, c1⟩ := gi_lo hg hn hl
      obtain ⟨-, -, -, -, l1, l2, -⟩ := hg.2.2.1 n hn hl
      exact ⟨c0, c1, l1, l2⟩
    refine ⟨hg.1, hg.2.1, fun n hn hl => ?_, hg.2.2.2, fun n hn hl nB => ?_, fun n hn nB u hu hl => ?_, fun n Bn => ?_, fun n hn hl hB => ?_⟩
    · obtain ⟨q1, q2, q3, q4, q5, q6, q7, q8⟩ := hg.2.2.1 n hn hl
      exact ⟨q1, q2, q3, q4, q7, q8, gi_abv ho hg ⟨q1, q3⟩ q5, gi_abv ho hg ⟨q2, q4⟩ q6⟩
    · obtain ⟨c0, c1, l1, l2⟩ := child n hn hl
      have n2 := gi_two hg hl
      exact ⟨mono _ _ (by omega) (hrx _ c0) l1 fun z => nB ⟨⟨hn, z.1, Or.inl z.2⟩, n2⟩, mono _ _ (by omega) (hrx _ c1) l2 fun z => nB ⟨⟨hn, z.1, Or.inr z.2⟩, n2⟩⟩
    · rcases Nat.lt_or_ge (lev u) (lev (g.1 n)) with c | c
      · exact gi_abv ho hg hn c
      · rcases gi_lab hg hn with q | ⟨-, q⟩
        · by_cases e : u = g.1 n
          · rw [e] at hl; omega
          · have c' : lev (g.1 n) < lev u := by
              rcases Nat.lt_or_eq_of_le c with z | z
              · exact z
              · exact absurd (or_inj ho hu q z.symm) e
            by_cases z : g.1 n = x ∧ u = y
            · obtain ⟨c0, c1, l1, l2⟩ := child n hn.1 q
              have n0 : ¬ (g.1 (g.2.1 n) = y ∨ g.1 (g.2.2.1 n) = y) := fun w => nB ⟨⟨hn.1, z.1, w⟩, gi_two hg q⟩
              obtain ⟨-, -, -, -, -, -, -, ef⟩ := hg.2.2.1 n hn.1 q
              rw [ef, z.1, z.2]
              rw [z.1, lx] at l1 l2
              have d0 : lev (g.1 (g.2.1 n)) ≠ k + 1 := fun w => n0 (Or.inl (isy _ (hrx _ c0) w))
              have d1 : lev (g.1 (g.2.2.1 n)) ≠ k + 1 := fun w => n0 (Or.inr (isy _ (hrx _ c1) w))
              exact mb_in_mx (Ne.symm xy) (gi_abv ho hg c0 (by rw [ly]; omega)) (gi_abv ho hg c1 (by rw [ly]; omega))
            · have := mono _ _ (by omega) (by omega) c' z
              omega
        · rw [q, ho.2.2] at c
          have := (ho.1 u hu).1
          omega
    · obtain ⟨⟨n48, nx, hy'⟩, n2⟩ := Bn
      obtain ⟨c0, c1, l1, l2⟩ := child n n48 (by omega)
      obtain ⟨-, -, -, -, -, -, -, ef⟩ := hg.2.2.1 n n48 (by omega)
      rw [nx, lx] at l1 l2
      rw [nx] at ef
      have kn : gk_ g n := ⟨n48, by omega⟩
      have hbc : ∀ c, gk_ g c → k < lev (g.1 c) → hb_ lev' g y k (fun m => (m < 2048 ∧ g.1 m = x ∧ (g.1 (g.2.1 m) = y ∨ g.1 (g.2.2.1 m) = y)) ∧ 2 ≤ m) c := by
        intro c hc hl
        refine ⟨fun z => by rw [z.1.2.1, lx] at hl; omega, ?_⟩
        by_cases e : g.1 c = y
        · obtain ⟨d0, d1, m1, m2⟩ := child c hc.1 (by omega)
          rw [e, ly] at m1 m2
          exact Or.inl ⟨e, by rw [lab _ (hrx _ d0) (by omega) (by omega)]; exact m1, by rw [lab _ (hrx _ d1) (by omega) (by omega)]; exact m2⟩
        · have : lev (g.1 c) ≠ k + 1 := fun z => e (isy _ (hrx _ hc) z)
          exact Or.inr ⟨e, by rw [lab _ (hrx _ hc) (by omega) this]; omega⟩
      refine ⟨n48, nx, fun z => ?_, fun u hu hl => ?_, hbc _ c0 l1, hbc _ c1 l2⟩
      · rcases hy' with w | w
        · have : mb_cf (g.2.2.2 n) x false = g.2.2.2 (g.2.1 n) := by rw [ef, mb_cf_mx0 (gi_abv ho hg c0 (by omega))]
          have q := mb_in_cf2 (v := x) false z
          rw [this] at q
          exact gi_asks ho hg c0.1 (by omega) (by rw [w]; exact q)
        · have : mb_cf (g.2.2.2 n) x true = g.2.2.2 (g.2.2.1 n) := by rw [ef, mb_cf_mx1 (gi_abv ho hg c1 (by omega))]
          have q := mb_in_cf2 (v := x) true z
          rw [this] at q
          exact gi_asks ho hg c1.1 (by omega) (by rw [w]; exact q)
      · have ux : u ≠ x := fun z => by rw [z, Lx] at hl; omega
        have uy : u ≠ y := fun z => by rw [z, Ly] at hl; omega
        rw [Lo u ux uy] at hl
        exact gi_abv ho hg kn (by rw [nx, lx]; exact hl)
    · obtain ⟨c0, c1, l1, l2⟩ := child n hn hl
      have : lev (g.1 n) < k := by
        rcases hB with z | z
        · rw [z.1.2.1, lx] at l1; exact l1
        · rw [z.1.2.1, lx] at l2; exact l2
      rw [lab _ (by omega) (by omega) (by omega)]; exact this
  -- the cover
  have clnew : ∀ i, i < 20 → ∀ n, ur_ g (rt i) n → gk_ g n ∧ (lev (g.1 n) ≤ k → cl_ at' (cr_ at' g rt) (5 - lev (g.1 n)) (g.2.2.2 n)) := by
    intro i hi n hu
    have same : ∀ j, j < k → at' j = at_ j := fun j hj => by
      rw [← ha']
      simp [ax_, show j ≠ k by omega, show j ≠ k + 1 by omega]
    have skip : ∀ (m l : Nat), gk_ g m → l ≤ lev (g.1 m) → lev (g.1 m) ≤ k → cl_ at' (cr_ at' g rt) (5 - l) (g.2.2.2 m) → cl_ at' (cr_ at' g rt) (5 - lev (g.1 m)) (g.2.2.2 m) := by
      intro m l hm hl hk2 hcl
      have := cl_skip (lev (g.1 m) - l) l hcl (fun j h1 h2 => by
        rw [same j (by omega)]
        exact gi_abv ho hg hm (by rw [(ho.2.1 j (by omega)).2]; omega))
      rwa [show l + (lev (g.1 m) - l) = lev (g.1 m) by omega] at this
    refine hu (fun m => gk_ g m ∧ (lev (g.1 m) ≤ k → cl_ at' (cr_ at' g rt) (5 - lev (g.1 m)) (g.2.2.2 m))) ⟨(hrt i hi).2, fun hl => skip _ 0 (hrt i hi).2 (Nat.zero_le _) hl (co_cl 5 _ fun z hz => List.mem_flatMap.mpr ⟨i, List.mem_range.mpr hi, hz⟩)⟩ (fun m hm hl => ?_)
    obtain ⟨c0, c1⟩ := gi_lo hg hm.1.1 hl
    obtain ⟨-, -, -, -, l1, l2, -, ef⟩ := hg.2.2.1 m hm.1.1 hl
    have down : lev (g.1 m) < k → ∀ b, cl_ at' (cr_ at' g rt) (5 - (lev (g.1 m) + 1)) (mb_cf (g.2.2.2 m) (g.1 m) b) := fun hlt b => by
      have := (cl_down (hm.2 (by omega))).2 b
      rwa [same _ hlt, (ho.1 _ hl).2] at this
    refine ⟨⟨c0, fun hlk => ?_⟩, ⟨c1, fun hlk => ?_⟩⟩
    · have q := down (by omega) false
      rw [ef, mb_cf_mx0 (gi_abv ho hg c0 l1)] at q
      exact skip _ _ c0 l1 hlk q
    · have q := down (by omega) true
      rw [ef, mb_cf_mx1 (gi_abv ho hg c1 l2)] at q
      exact skip _ _ c1 l2 hlk q
  have hlen : (cr_ at_ g rt ++ (cr_ at' g rt ++ (en_ [at_ 5, at_ 6, at_ 7] ++ en_ [at' 5, at' 6, at' 7]))).length ≤ 2047 := by
    rw [List.length_append, List.length_append, List.length_append, cr_len, cr_len, en_3, en_3]
    decide
  have m0 : ms_ s7 lev' at' g x y k (fun m => (m < 2048 ∧ g.1 m = x ∧ (g.1 (g.2.1 m) = y ∨ g.1 (g.2.2.1 m) = y)) ∧ 2 ≤ m) (cr_ at_ g rt ++ (cr_ at' g rt ++ (en_ [at_ 5, at_ 6, at_ 7] ++ en_ [at' 5, at' 6, at' 7]))) := by
    obtain ⟨C, hC1, hC2⟩ := hcs
    obtain ⟨c, e, hc, he, hc2, hc3, he2, he3, hbelow, hend⟩ := hce
    refine ⟨⟨ho', x8, y8, xy, Ly, Lx⟩, hr7, g0, ⟨C, fun j hj => ?_, fun n hn hl _ => hC2 n hn hl trivial⟩, ⟨c, e, by rw [row 9 2 (by decide) (by decide)]; exact hc, by rw [row 9 1 (by decide) (by decide)]; exact he, hc2, hc3, he2, he3, hbelow, hend⟩, fun n hn => ?_, fun n Bn b => ?_, hlen⟩
    · obtain ⟨c1, c2, c3⟩ := hC1 j hj
      rw [row 7 j (by decide) (by decide)]
      exact ⟨ch_keep _ _ (fun n _ => row 6 n (by decide) (by decide)) c1, c2, c3⟩
    · rcases Nat.lt_or_ge (lev (g.1 n)) 5 with q | q
      · exact List.mem_append_left _ (hcv n hn q)
      · refine List.mem_append_right _ (List.mem_append_right _ (List.mem_append_left _ (en_mem _ _ (mb_on_mono (gi_onn ho hg hn) fun v hv => ?_))))
        have e := ho.1 v hv.1
        rcases (show lev v = 5 ∨ lev v = 6 ∨ lev v = 7 by omega) with c | c | c
        · rw [← e.2, c]; exact List.mem_cons_self
        · rw [← e.2, c]; exact List.mem_cons_of_mem _ List.mem_cons_self
        · rw [← e.2, c]; exact List.mem_cons_of_mem _ (List.mem_cons_of_mem _ List.mem_cons_self)
    · obtain ⟨⟨n48, nx, hy'⟩, n2⟩ := Bn
      have kn : gk_ g n := ⟨n48, by omega⟩
      rcases Nat.lt_or_ge (k + 1) 5 with q | q
      · obtain ⟨i, hi, hu⟩ := hre n kn n2
        have hcl := (clnew i hi n hu).2 (by rw [nx, lx]; exact Nat.le_refl _)
        rw [nx, lx] at hcl
        have hd := (cl_down hcl).2 b
        rw [show at' k = y by rw [← ha']; simp [ax_]] at hd
        exact List.mem_append_right _ (List.mem_append_left _ ((cl_down hd).1 q))
      · refine List.mem_append_right _ (List.mem_append_right _ (List.mem_append_right _ (en_mem _ _ (mb_on_mono (mb_on_cf b (gi_onn ho hg kn)) fun v hv => ?_))))
        obtain ⟨⟨v8, vl⟩, vy⟩ := hv
        rw [nx, lx] at vl
        have e := ho'.1 v v8
        have l5 : 5 ≤ lev' v := by
          by_cases vx : v = x
          · rw [vx, Lx]; exact q
          · have n0 : lev v ≠ k := fun z => vx (isx v (by omega) z)
            rw [Lo v vx vy]; omega
        rcases (show lev' v = 5 ∨ lev' v = 6 ∨ lev' v = 7 by omega) with c | c | c
        · rw [← e.2, c]; exact List.mem_cons_self
        · rw [← e.2, c]; exact List.mem_cons_of_mem _ List.mem_cons_self
        · rw [← e.2, c]; exact List.mem_cons_of_mem _ (List.mem_cons_of_mem _ List.mem_cons_self)
  obtain ⟨s9, g9, e9, h9, k9⟩ := xl_loop (fun m => m < 2048 ∧ g.1 m = x ∧ (g.1 (g.2.1 m) = y ∨ g.1 (g.2.2.1 m) = y)) (fun (s_33 : wt_S) => b_S (fd_collect s_33) fun s100 => some s100) 2046 5000 2 s7 g (by omega) (Nat.le_refl _) (by omega) m0
  rw [show nI 2 = (2 : Int32) from rfl] at e9
  rw [e9]
  obtain ⟨-, hr9, hm9, -, ⟨c, e, hc, he, hc2, hc3, he2, he3, hbelow, hend⟩, -⟩ := h9
  have hg9 : gi_ lev' g9 := by
    refine ⟨hm9.1, hm9.2.1, fun n hn hl => ?_, hm9.2.2.2.1⟩
    obtain ⟨q1, q2, q3, q4, q5, q6, -, -⟩ := hm9.2.2.1 n hn hl
    obtain ⟨d1, d2⟩ := hm9.2.2.2.2.1 n hn hl (fun z => z)
    exact ⟨q1, q2, q3, q4, d1, d2, q5, q6⟩
  obtain ⟨t, g2, e2, hs2, hg2, -⟩ := co_ok (s := s9) (lev := lev') (at_ := at') (g := g9) (rt := rt) ⟨ho', hr9, hg9, fun i hi => ⟨by rw [k9.2.1 i, row 0 i (by decide) (by decide)]; exact (hrt i hi).1, (k9.1 _ (hrt i hi).2).1⟩, e, he, he2, he3, hend, fun n hn => by
    rw [k9.2.2 n, row 8 n (by decide) (by decide)]
    apply Classical.byContradiction
    intro q
    have kk := (k9.1 n (hmk n q)).1
    exact kk.2 (hend n hn kk.1)⟩
  rw [e2, bS_some]
  refine ⟨t, g2, rfl, hs2, fun i hi => ?_⟩
  rw [show g2.2.2.2 = g9.2.2.2 from by rw [hg2]]
  exact (k9.1 _ (hrt i hi).2).2
