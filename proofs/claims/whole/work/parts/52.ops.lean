/-! The class's operations on registers: functions of the registers behind them. My own. -/
def c6_ (at_ : Nat → Nat) (g : gh_) (rt : Nat → Nat) : List mb_F := (List.range 16).flatMap fun i => co_ at_ 5 (g.2.2.2 (rt i))
theorem c6_len (at_ : Nat → Nat) (g : gh_) (rt : Nat → Nat) : (c6_ at_ g rt).length = 496 := by
  unfold c6_
  rw [fm_len _ _ 31 (fun x => by rw [co_len]), List.length_range]
theorem ur_0 {lev : Nat → Nat} {g : gh_} (hg : gi_ lev g) {j : Nat} (h : ur_ g 0 j) : j = 0 := h (fun i => i = 0) rfl (fun i hi hl => by
  have : i = 0 := hi
  subst this
  rw [hg.1.1] at hl
  omega)
theorem rd_sg {s : wt_S} {lev at_ : Nat → Nat} {g : gh_} {rt : Nat → Nat} {F : Nat → mb_F} (h : rd0_ s lev at_ g rt F) (M : List mb_F) (hM : M.length ≤ 1295) : sg_ s lev at_ g (c6_ at_ g rt ++ M) (fun _ => True) := by
  obtain ⟨⟨ho, hr, hg, hcs, hce, hrt, hre, -⟩, hz, -⟩ := h
  refine ⟨ho, hr, hg, hcs, hce, fun n hn hl => List.mem_append_left _ ?_, ?_⟩
  · have n2 : 2 ≤ n := by
      rcases gi_lab hg hn with q | ⟨-, q⟩
      · exact gi_two hg q
      · rw [q, ho.2.2] at hl; omega
    obtain ⟨i, hi, hu⟩ := hre n hn n2
    have i16 : i < 16 := by
      rcases Nat.lt_or_ge i 16 with c | c
      · exact c
      · rw [hz i c hi] at hu
        have := ur_0 hg hu
        omega
    obtain ⟨-, hc⟩ := ur_cl (L := c6_ at_ g rt) ho hg (hrt i hi).2 (co_cl 5 _ fun x hx => List.mem_flatMap.mpr ⟨i, List.mem_range.mpr i16, hx⟩) hu
    exact (cl_down hc).1 hl
  · rw [List.length_append, c6_len]
    omega
theorem nr_ok {r : Nat} (h : r < 16) : fx_needRegister (nI r) = some () := by
  unfold fx_needRegister
  dsimp only [jn_]
  rw [if_neg (nI_pos (by omega)), if_pos (show nI r < (16 : Int32) from nI_lt (b := 16) h (by decide))]
theorem nv_ok {r : Nat} (h : r < 8) : fx_needVariable (nI r) = some () := by
  unfold fx_needVariable
  dsimp only [jn_]
  rw [if_neg (nI_pos (by omega)), if_pos (show nI r < (8 : Int32) from nI_lt (b := 8) h (by decide))]
theorem nb_ok {r n : Nat} (h : r < n) (hn : n < 2 ^ 31) : fx_needBelow (nI r) (nI n) = some () := by
  unfold fx_needBelow
  dsimp only [jn_]
  rw [if_neg (nI_pos (by omega)), if_pos (nI_lt h hn)]
theorem ro_ok {s : wt_S} {lev at_ : Nat → Nat} {g : gh_} {rt : Nat → Nat} (h : rs0_ s lev at_ g rt) {i : Nat} (hi : i < 20) : fd_root s (nI i) = some (nI (rt i)) := by
  unfold fd_root
  rw [rc_at hi (by decide), (h.2.2.2.2.2.1 i hi).1]
theorem ro_ex {s s' : wt_S} {lev at_ : Nat → Nat} {g g' : gh_} {rt : Nat → Nat} (h : rs0_ s lev at_ g rt) (x : ex_ s s' g g') {i : Nat} (hi : i < 20) : fd_root s' (nI i) = some (nI (rt i)) := by
  unfold fd_root
  rw [rc_at hi (by decide), x.2.1 i, (h.2.2.2.2.2.1 i hi).1]
/-- a call gives register r the function f -/
def xs_ (lev at_ : Nat → Nat) (F : Nat → mb_F) (r : Nat) (f : mb_F) (x : Option wt_S) : Prop := ∃ (t : wt_S) (g2 : gh_) (rt2 : Nat → Nat), x = some t ∧ rd0_ t lev at_ g2 rt2 (fun i => if i = r then f else F i)
theorem xs_keep {s s' : wt_S} {lev at_ : Nat → Nat} {g g' : gh_} {rt : Nat → Nat} {F : Nat → mb_F} {L : List mb_F} {r n : Nat} {f : mb_F} (h : rd0_ s lev at_ g rt F) (h' : sg_ s' lev at_ g' L (fun _ => True)) (x : ex_ s s' g g') (hr : r < 16) (hn : gk_ g' n) (hf : g'.2.2.2 n = f) : xs_ lev at_ F r f (b_S (fd_keep s' (nI r) (nI n)) fun t => some t) := by
  obtain ⟨t, g2, rt2, e, q⟩ := ke_ok h.1 h.2.2 h' x hr hn
  rw [e, bS_some]
  rw [hf] at q
  exact ⟨t, g2, rt2, rfl, q⟩
variable {s : wt_S} {lev at_ : Nat → Nat} {g : gh_} {rt : Nat → Nat} {F : Nat → mb_F}
theorem rd_gk (h : rd0_ s lev at_ g rt F) {i : Nat} (hi : i < 16) : gk_ g (rt i) ∧ g.2.2.2 (rt i) = F i := ⟨(h.1.2.2.2.2.2.1 i (by omega)).2, h.2.2 i hi⟩
theorem xv_ok (h : rd0_ s lev at_ g rt F) {r v : Nat} (hr : r < 16) (hv : v < 8) : xs_ lev at_ F r (li_ v) (fx_variable s (nI r) (nI v)) := by
  have hs := rd_sg h [li_ v] (Nat.le_of_ble_eq_true rfl)
  obtain ⟨ho, hr0, hg, -⟩ := id hs
  obtain ⟨z0, z0l, z0f⟩ := gi_leaf hg (show 0 < 2 by decide)
  obtain ⟨z1, z1l, z1f⟩ := gi_leaf hg (show 1 < 2 by decide)
  have lw8 := (ho.1 v hv).1
  have elit : mb_mx v (g.2.2.2 0) (g.2.2.2 1) = li_ v := by rw [hg.1.2.2.1, hg.1.2.2.2]; rfl
  obtain ⟨n, s2, g2, e2, h2, x2, k2, w2, -⟩ := nd_ok hs trivial hv z0 z1 (by rw [z0l, ho.2.2]; exact lw8) (by rw [z1l, ho.2.2]; exact lw8) (fun _ => by rw [elit]; exact List.mem_append_right _ List.mem_cons_self)
  unfold fx_variable fd_literal
  rw [nr_ok hr, bU_some, nv_ok hv, bU_some, show (0 : Int32) = nI 0 from nI_0.symm, show (1 : Int32) = nI 1 from rfl, e2, bIS_some, bIS_some]
  exact xs_keep h h2 x2 hr k2 (w2.trans elit)
theorem xc_ok (h : rd0_ s lev at_ g rt F) {r : Nat} (hr : r < 16) (on : Bool) : xs_ lev at_ F r (fun _ => on) (fx_constant s (nI r) (nI on.toNat)) := by
  have hs := rd_sg h [] (by decide)
  obtain ⟨ho, hr0, hg, -⟩ := id hs
  unfold fx_constant
  dsimp only [jn_]
  rw [nr_ok hr, bU_some]
  cases on with
  | false =>
    obtain ⟨z0, z0l, z0f⟩ := gi_leaf hg (show 0 < 2 by decide)
    rw [if_pos (show nI false.toNat = (0 : Int32) from nI_0)]
    exact xs_keep h hs (ex_rf s g) hr z0 hg.1.2.2.1
  | true =>
    obtain ⟨z1, z1l, z1f⟩ := gi_leaf hg (show 1 < 2 by decide)
    rw [if_neg (show ¬ nI true.toNat = (0 : Int32) by decide)]
    exact xs_keep h hs (ex_rf s g) hr z1 hg.1.2.2.2
theorem xa_ok (h : rd0_ s lev at_ g rt F) {r op a b : Nat} (hr : r < 16) (hop : op < 16) (ha : a < 16) (hb : b < 16) : xs_ lev at_ F r (op_ op (F a) (F b)) (fx_apply s (nI r) (nI op) (nI a) (nI b)) := by
  obtain ⟨ka, fa⟩ := rd_gk h ha
  obtain ⟨kb, fb⟩ := rd_gk h hb
  have hs := rd_sg h (co_ at_ 5 (op_ op (F a) (F b))) (by rw [co_len]; decide)
  obtain ⟨n, s2, g2, e2, h2, x2, k2, w2, -⟩ := jo_ok hop 9 0 0 (rt a) (rt b) s g hs ka kb (Nat.le_refl _) (Nat.zero_le _) (Nat.zero_le _) (by omega) (by rw [fa, fb]; exact co_cl 5 _ fun x hx => List.mem_append_right _ hx)
  unfold fx_apply
  rw [nr_ok hr, bU_some, nr_ok ha, bU_some, nr_ok hb, bU_some, show (16 : Int32) = nI 16 from rfl, nb_ok hop (by decide), bU_some, ro_ok h.1 (by omega), bI_some, ro_ok h.1 (by omega), bI_some, show (0 : Int32) = nI 0 from nI_0.symm, e2, bIS_some]
  exact xs_keep h h2 x2 hr k2 (by rw [w2, fa, fb])
theorem xh_ok (h : rd0_ s lev at_ g rt F) {r a b c : Nat} (hr : r < 16) (ha : a < 16) (hb : b < 16) (hc : c < 16) : xs_ lev at_ F r (pi_ (F a) (F b) (F c)) (fx_choose s (nI r) (nI a) (nI b) (nI c)) := by
  obtain ⟨ka, fa⟩ := rd_gk h ha
  obtain ⟨kb, fb⟩ := rd_gk h hb
  obtain ⟨kc, fc⟩ := rd_gk h hc
  have hs := rd_sg h (co_ at_ 5 (pi_ (F a) (F b) (F c))) (by rw [co_len]; decide)
  obtain ⟨n, s2, g2, e2, h2, x2, k2, w2, -⟩ := pi_ok 9 0 0 (rt a) (rt b) (rt c) s g hs ka kb kc (Nat.le_refl _) (Nat.zero_le _) (Nat.zero_le _) (Nat.zero_le _) (by omega) (by rw [fa, fb, fc]; exact co_cl 5 _ fun x hx => List.mem_append_right _ hx)
  unfold fx_choose
  rw [nr_ok hr, bU_some, nr_ok ha, bU_some, nr_ok hb, bU_some, nr_ok hc, bU_some, ro_ok h.1 (by omega), bI_some, ro_ok h.1 (by omega), bI_some, ro_ok h.1 (by omega), bI_some, show (0 : Int32) = nI 0 from nI_0.symm, e2, bIS_some]
  exact xs_keep h h2 x2 hr k2 (by rw [w2, fa, fb, fc])
theorem xr_ok (h : rd0_ s lev at_ g rt F) {r a v : Nat} (hr : r < 16) (ha : a < 16) (hv : v < 8) (on : Bool) : xs_ lev at_ F r (mb_cf (F a) v on) (fx_restrict s (nI r) (nI a) (nI v) (nI on.toNat)) := by
  obtain ⟨ka, fa⟩ := rd_gk h ha
  have hs := rd_sg h (co_ at_ 5 (mb_cf (F a) v on)) (by rw [co_len]; decide)
  obtain ⟨n, s2, g2, e2, h2, x2, k2, w2, -⟩ := fi_ok hv on 9 0 0 (rt a) s g hs ka (Nat.le_refl _) (Nat.zero_le _) (by omega) (by rw [fa]; exact co_cl 5 _ fun x hx => List.mem_append_right _ hx)
  unfold fx_restrict
  rw [nr_ok hr, bU_some, nr_ok ha, bU_some, nv_ok hv, bU_some, ro_ok h.1 (by omega), bI_some, show (0 : Int32) = nI 0 from nI_0.symm, e2, bIS_some]
  exact xs_keep h h2 x2 hr k2 (by rw [w2, fa])
theorem xo_ok (h : rd0_ s lev at_ g rt F) {r a v b : Nat} (hr : r < 16) (ha : a < 16) (hv : v < 8) (hb : b < 16) : xs_ lev at_ F r (pi_ (F b) (mb_cf (F a) v true) (mb_cf (F a) v false)) (fx_compose s (nI r) (nI a) (nI v) (nI b)) := by
  obtain ⟨ka, fa⟩ := rd_gk h ha
  obtain ⟨kb, fb⟩ := rd_gk h hb
  have hs := rd_sg h (co_ at_ 5 (mb_cf (F a) v true) ++ (co_ at_ 5 (mb_cf (F a) v false) ++ co_ at_ 5 (pi_ (F b) (mb_cf (F a) v true) (mb_cf (F a) v false)))) (by rw [List.length_append, List.length_append, co_len, co_len, co_len]; decide)
  obtain ⟨n1, s1, g1, e1, h1, x1, k1, w1, -⟩ := fi_ok hv true 9 0 0 (rt a) s g hs ka (Nat.le_refl _) (Nat.zero_le _) (by omega) (by rw [fa]; exact co_cl 5 _ fun x hx => List.mem_append_right _ (List.mem_append_left _ hx))
  have y1 := x1.1 _ ka
  have z1 := x1.1 _ kb
  obtain ⟨n2, s2, g2, e2, h2, x2, k2, w2, -⟩ := fi_ok hv false 9 0 0 (rt a) s1 g1 h1 (ex_gk x1 ka) (Nat.le_refl _) (Nat.zero_le _) (by omega) (by rw [y1.2.2.2, fa]; exact co_cl 5 _ fun x hx => List.mem_append_right _ (List.mem_append_right _ (List.mem_append_left _ hx)))
  have x12 := ex_tr x1 x2
  have z2 := x12.1 _ kb
  have n12 := x2.1 _ k1
  have ff : pi_ (g2.2.2.2 (rt b)) (g2.2.2.2 n1) (g2.2.2.2 n2) = pi_ (F b) (mb_cf (F a) v true) (mb_cf (F a) v false) := by rw [z2.2.2.2, n12.2.2.2, w1, w2, y1.2.2.2, fa, fb]
  obtain ⟨n3, s3, g3, e3, h3, x3, k3, w3, -⟩ := pi_ok 9 0 0 (rt b) n1 n2 s2 g2 h2 (ex_gk x12 kb) (ex_gk x2 k1) k2 (Nat.le_refl _) (Nat.zero_le _) (Nat.zero_le _) (Nat.zero_le _) (by omega) (by rw [ff]; exact co_cl 5 _ fun x hx => List.mem_append_right _ (List.mem_append_right _ (List.mem_append_right _ hx)))
  unfold fx_compose
  rw [nr_ok hr, bU_some, nr_ok ha, bU_some, nv_ok hv, bU_some, nr_ok hb, bU_some, ro_ok h.1 (by omega), bI_some, show (1 : Int32) = nI true.toNat from rfl, show (0 : Int32) = nI 0 from nI_0.symm, e1, bIS_some, ro_ex h.1 x1 (by omega), bI_some]
  rw [show fd_fix 9 s1 (nI (rt a)) (nI v) (nI 0) (nI 0) = some (nI n2, s2) from e2, bIS_some, ro_ex h.1 x12 (by omega), bI_some, e3, bIS_some]
  exact xs_keep h h3 (ex_tr x12 x3) hr k3 (by rw [w3, ff])
/-- all that overlap makes -/
noncomputable def qo_ (at_ : Nat → Nat) (m : Nat → Bool) : Nat → mb_F → List mb_F
  | 0, _ => []
  | j + 1, f => co_ at_ (j + 1) (qx_ m f) ++ (qo_ at_ m j (mb_cf f (at_ (4 - j)) false) ++ qo_ at_ m j (mb_cf f (at_ (4 - j)) true))
def ql_ : Nat → Nat
  | 0 => 0
  | j + 1 => (2 ^ (j + 1) - 1) + 2 * ql_ j
theorem qo_len (at_ : Nat → Nat) (m : Nat → Bool) : ∀ (j : Nat) (f : mb_F), (qo_ at_ m j f).length = ql_ j := by
  intro j
  induction j with
  | zero => intro f; rfl
  | succ j ih =>
    intro f
    show (co_ at_ (j + 1) (qx_ m f) ++ (qo_ at_ m j (mb_cf f (at_ (4 - j)) false) ++ qo_ at_ m j (mb_cf f (at_ (4 - j)) true))).length = (2 ^ (j + 1) - 1) + 2 * ql_ j
    rw [List.length_append, List.length_append, co_len, ih, ih]
    omega
theorem qo_cq {at_ : Nat → Nat} {m : Nat → Bool} {L : List mb_F} : ∀ (j : Nat) (f : mb_F), (∀ x, x ∈ qo_ at_ m j f → x ∈ L) → cq_ at_ L m j f := by
  intro j
  induction j with
  | zero => intro f _; trivial
  | succ j ih =>
    intro f h
    exact ⟨co_cl _ _ fun x hx => h x (List.mem_append_left _ hx), ih _ fun x hx => h x (List.mem_append_right _ (List.mem_append_left _ hx)), ih _ fun x hx => h x (List.mem_append_right _ (List.mem_append_right _ hx))⟩
def ne_ (f : mb_F) : mb_F := fun x => !f x
theorem ne_op (f : mb_F) : op_ 3 f f = ne_ f := by
  funext x
  unfold op_ ne_
  cases f x <;> decide
theorem ng_ok {L : List mb_F} {a : Nat} (h : sg_ s lev at_ g L (fun _ => True)) (ha : gk_ g a) (hc : cl_ at_ L 5 (ne_ (g.2.2.2 a))) : rs_ lev at_ L s g (fd_negate s (nI a)) (ne_ (g.2.2.2 a)) 0 := by
  obtain ⟨n, s2, g2, e2, h2, x2, k2, w2, d2⟩ := jo_ok (op := 3) (by decide) 9 0 0 a a s g h ha ha (Nat.le_refl _) (Nat.zero_le _) (Nat.zero_le _) (by omega) (by rw [ne_op]; exact hc)
  unfold fd_negate
  rw [show (3 : Int32) = nI 3 from rfl, show (0 : Int32) = nI 0 from nI_0.symm, e2, bIS_some]
  exact ⟨n, s2, g2, rfl, h2, x2, k2, by rw [w2, ne_op], d2⟩
theorem an_top (f : mb_F) : an_ f (fun _ => true) = f := by
  funext x
  unfold an_
  rw [Bool.and_true]
theorem xq_ok (h : rd0_ s lev at_ g rt F) {r a mk : Nat} (hr : r < 16) (ha : a < 16) (hm : mk < 256) (all : Bool) : xs_ lev at_ F r (if all = true then ne_ (qx_ mk.testBit (ne_ (F a))) else qx_ mk.testBit (F a)) (fx_quantify s (nI r) (nI a) (nI mk) (nI all.toNat)) := by
  obtain ⟨ka, fa⟩ := rd_gk h ha
  unfold fx_quantify
  dsimp only [jn_]
  rw [nr_ok hr, bU_some, nr_ok ha, bU_some, show (256 : Int32) = nI 256 from rfl, nb_ok hm (by decide), bU_some, ro_ok h.1 (by omega), bI_some]
  cases all with
  | false =>
    have hs := rd_sg h (qo_ at_ mk.testBit 5 (F a)) (by rw [qo_len]; decide)
    obtain ⟨z1, z1l, z1f⟩ := gi_leaf hs.2.2.1 (show 1 < 2 by decide)
    have ff : an_ (g.2.2.2 (rt a)) (g.2.2.2 1) = F a := by rw [hs.2.2.1.1.2.2.2, an_top, fa]
    obtain ⟨n, s2, g2, e2, h2, x2, k2, w2, -⟩ := ov_ok hm 9 0 0 (rt a) 1 s g hs ka z1 (Nat.le_refl _) (Nat.zero_le _) (Nat.zero_le _) (by omega) (by rw [ff]; exact qo_cq 5 _ fun x hx => List.mem_append_right _ hx)
    rw [if_pos (show nI false.toNat = (0 : Int32) from nI_0), if_neg (by decide), show (1 : Int32) = nI 1 from rfl, show (0 : Int32) = nI 0 from nI_0.symm, e2, bIS_some]
    exact xs_keep h h2 x2 hr k2 (by rw [w2, ff])
  | true =>
    have hs := rd_sg h (co_ at_ 5 (ne_ (F a)) ++ (qo_ at_ mk.testBit 5 (ne_ (F a)) ++ co_ at_ 5 (ne_ (qx_ mk.testBit (ne_ (F a)))))) (by rw [List.length_append, List.length_append, co_len, co_len, qo_len]; decide)
    obtain ⟨n1, s1, g1, e1, h1, x1, k1, w1, -⟩ := ng_ok hs ka (by rw [fa]; exact co_cl 5 _ fun x hx => List.mem_append_right _ (List.mem_append_left _ hx))
    rw [fa] at w1
    obtain ⟨z1, z1l, z1f⟩ := gi_leaf h1.2.2.1 (show 1 < 2 by decide)
    have ff : an_ (g1.2.2.2 n1) (g1.2.2.2 1) = ne_ (F a) := by rw [h1.2.2.1.1.2.2.2, an_top, w1]
    obtain ⟨n2, s2, g2, e2, h2, x2, k2, w2, -⟩ := ov_ok hm 9 0 0 n1 1 s1 g1 h1 k1 z1 (Nat.le_refl _) (Nat.zero_le _) (Nat.zero_le _) (by omega) (by rw [ff]; exact qo_cq 5 _ fun x hx => List.mem_append_right _ (List.mem_append_right _ (List.mem_append_left _ hx)))
    rw [ff] at w2
    obtain ⟨n3, s3, g3, e3, h3, x3, k3, w3, -⟩ := ng_ok h2 k2 (by rw [w2]; exact co_cl 5 _ fun x hx => List.mem_append_right _ (List.mem_append_right _ (List.mem_append_right _ hx)))
    rw [if_neg (show ¬ nI true.toNat = (0 : Int32) by decide), if_pos rfl, e1, bIS_some, show (1 : Int32) = nI 1 from rfl, show (0 : Int32) = nI 0 from nI_0.symm, e2, bIS_some, e3, bIS_some]
    exact xs_keep h h3 (ex_tr (ex_tr x1 x2) x3) hr k3 (by rw [w3, w2])
theorem xp_ok (h : rd0_ s lev at_ g rt F) {r a b mk : Nat} (hr : r < 16) (ha : a < 16) (hb : b < 16) (hm : mk < 256) : xs_ lev at_ F r (qx_ mk.testBit (an_ (F a) (F b))) (fx_product s (nI r) (nI a) (nI b) (nI mk)) := by
  obtain ⟨ka, fa⟩ := rd_gk h ha
  obtain ⟨kb, fb⟩ := rd_gk h hb
  have hs := rd_sg h (qo_ at_ mk.testBit 5 (an_ (F a) (F b))) (by rw [qo_len]; decide)
  obtain ⟨n, s2, g2, e2, h2, x2, k2, w2, -⟩ := ov_ok hm 9 0 0 (rt a) (rt b) s g hs ka kb (Nat.le_refl _) (Nat.zero_le _) (Nat.zero_le _) (by omega) (by rw [fa, fb]; exact qo_cq 5 _ fun x hx => List.mem_append_right _ hx)
  unfold fx_product
  rw [nr_ok hr, bU_some, nr_ok ha, bU_some, nr_ok hb, bU_some, show (256 : Int32) = nI 256 from rfl, nb_ok hm (by decide), bU_some, ro_ok h.1 (by omega), bI_some, ro_ok h.1 (by omega), bI_some, show (0 : Int32) = nI 0 from nI_0.symm, e2, bIS_some]
  exact xs_keep h h2 x2 hr k2 (by rw [w2, fa, fb])
theorem cl_en {L : List mb_F} {l : List Nat} (hL : ∀ x, x ∈ en_ l → x ∈ L) : ∀ (j : Nat) (f : mb_F), mb_on f (fun v => v ∈ l) → cl_ at_ L j f := by
  intro j
  induction j with
  | zero => intro f _; trivial
  | succ j ih =>
    intro f hf
    exact ⟨hL _ (en_mem l f hf), ih _ (mb_on_mono (mb_on_cf _ hf) fun _ h => h.1), ih _ (mb_on_mono (mb_on_cf _ hf) fun _ h => h.1)⟩
theorem xor_xor (v : Nat) : (v ^^^ 1) ^^^ 1 = v := by rw [Nat.xor_assoc, Nat.xor_self, Nat.xor_zero]
theorem mi_on {f : mb_F} {l : List Nat} (hf : mb_on f (fun v => v ∈ l)) : mb_on (mi_ f) (fun v => v ∈ l.map (· ^^^ 1)) := by
  intro a b q
  exact hf _ _ fun v hv => q (v ^^^ 1) (List.mem_map.mpr ⟨v, hv, rfl⟩)
theorem cm_deep {L : List mb_F} {l : List Nat} (hL : ∀ x, x ∈ en_ (l.map (· ^^^ 1)) → x ∈ L) : ∀ (j : Nat) (f : mb_F), mb_on f (fun v => v ∈ l) → cm_ at_ L j f := by
  intro j
  induction j with
  | zero => intro f _; trivial
  | succ j ih =>
    intro f hf
    exact ⟨cl_en hL 5 _ (mi_on hf), ih _ (mb_on_mono (mb_on_cf _ hf) fun _ h => h.1), ih _ (mb_on_mono (mb_on_cf _ hf) fun _ h => h.1)⟩
theorem cm_top {L : List mb_F} (ho : or_ lev at_) (hL : ∀ x, x ∈ en_ ([at_ 5, at_ 6, at_ 7].map (· ^^^ 1)) → x ∈ L) : ∀ (j : Nat) (f : mb_F), j ≤ 5 → mb_on f (fun v => v < 8 ∧ 5 - j ≤ lev v) → (∀ x, x ∈ co_ at_ j f → ∀ y, y ∈ co_ at_ 5 (mi_ x) → y ∈ L) → cm_ at_ L (j + 3) f := by
  intro j
  induction j with
  | zero =>
    intro f _ hf _
    refine cm_deep hL 3 f (mb_on_mono hf fun v hv => ?_)
    have e := ho.1 v hv.1
    rcases (show lev v = 5 ∨ lev v = 6 ∨ lev v = 7 by omega) with c | c | c
    · rw [← e.2, c]; exact List.mem_cons_self
    · rw [← e.2, c]; exact List.mem_cons_of_mem _ List.mem_cons_self
    · rw [← e.2, c]; exact List.mem_cons_of_mem _ (List.mem_cons_of_mem _ List.mem_cons_self)
  | succ j ih =>
    intro f hj hf hx
    have lower : ∀ b, mb_on (mb_cf f (at_ (4 - j)) b) (fun v => v < 8 ∧ 5 - j ≤ lev v) := fun b => mb_on_mono (mb_on_cf b hf) fun v hv => ⟨hv.1.1, by
      have : lev v ≠ 4 - j := fun c => hv.2 (by rw [← c]; exact (ho.1 v hv.1.1).2.symm)
      have := hv.1.2
      omega⟩
    show cl_ at_ L 5 (mi_ f) ∧ cm_ at_ L (j + 3) (mb_cf f (at_ (7 - (j + 3))) false) ∧ cm_ at_ L (j + 3) (mb_cf f (at_ (7 - (j + 3))) true)
    rw [show 7 - (j + 3) = 4 - j by omega]
    exact ⟨co_cl 5 _ fun y hy => hx f List.mem_cons_self y hy, ih _ (by omega) (lower false) (fun x h1 => hx x (List.mem_cons_of_mem _ (List.mem_append_left _ h1))), ih _ (by omega) (lower true) (fun x h1 => hx x (List.mem_cons_of_mem _ (List.mem_append_right _ h1)))⟩
theorem xt_ok (h : rd0_ s lev at_ g rt F) {r a : Nat} (hr : r < 16) (ha : a < 16) : xs_ lev at_ F r (mi_ (F a)) (fx_turn s (nI r) (nI a)) := by
  obtain ⟨ka, fa⟩ := rd_gk h ha
  have hs := rd_sg h ((List.range 8).map li_ ++ (en_ ([at_ 5, at_ 6, at_ 7].map (· ^^^ 1)) ++ (co_ at_ 5 (F a)).flatMap fun x => co_ at_ 5 (mi_ x))) (by
    rw [List.length_append, List.length_append, List.length_map, List.length_range, fm_len _ _ 31 (fun x => by rw [co_len]), co_len]
    show 8 + ((en_ [at_ 5 ^^^ 1, at_ 6 ^^^ 1, at_ 7 ^^^ 1]).length + _) ≤ _
    rw [en_3]
    decide)
  have ho := hs.1
  have hg := hs.2.2.1
  have fon : mb_on (F a) (fun v => v < 8 ∧ 5 - 5 ≤ lev v) := by
    rw [← fa]
    exact mb_on_mono (gi_onn ho hg ka) fun v hv => ⟨hv.1, by omega⟩
  obtain ⟨n, s2, g2, e2, h2, x2, k2, w2, -⟩ := mi_ok (fun v hv => List.mem_append_right _ (List.mem_append_left _ (List.mem_map.mpr ⟨v, List.mem_range.mpr hv, rfl⟩))) 9 0 0 (rt a) s g hs ka (Nat.le_refl _) (Nat.zero_le _) (by omega) (by
    rw [fa]
    exact cm_top ho (fun x hx => List.mem_append_right _ (List.mem_append_right _ (List.mem_append_left _ hx))) 5 _ (Nat.le_refl _) fon (fun x hx y hy => List.mem_append_right _ (List.mem_append_right _ (List.mem_append_right _ (List.mem_flatMap.mpr ⟨x, hx, hy⟩)))))
  unfold fx_turn
  rw [nr_ok hr, bU_some, nr_ok ha, bU_some, ro_ok h.1 (by omega), bI_some, show (0 : Int32) = nI 0 from nI_0.symm, e2, bIS_some]
  exact xs_keep h h2 x2 hr k2 (by rw [w2, fa])
