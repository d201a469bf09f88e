/-! Functions of yes-or-no variables, and graphs of them: pure, no machine. My own. -/
abbrev mb_V : Type := Nat → Bool
abbrev mb_F : Type := (Nat → Bool) → Bool
def mb_up (a : mb_V) (v : Nat) (b : Bool) : mb_V := fun j => if j = v then b else a j
def mb_mx (v : Nat) (f g : mb_F) : mb_F := fun a => if a v then g a else f a
/-- f doesn't ask v -/
def mb_in (f : mb_F) (v : Nat) : Prop := ∀ (a : mb_V) (b : Bool), f (mb_up a v b) = f a
def mb_cf (f : mb_F) (v : Nat) (b : Bool) : mb_F := fun a => f (mb_up a v b)
theorem mb_up_eq (a : mb_V) (v : Nat) (b : Bool) : mb_up a v b v = b := by simp [mb_up]
theorem mb_up_ne {a : mb_V} {v w : Nat} {b : Bool} (h : w ≠ v) : mb_up a v b w = a w := by simp [mb_up, h]
theorem mb_up_self (a : mb_V) (v : Nat) : mb_up a v (a v) = a := by
  funext j
  by_cases h : j = v
  · subst h; exact mb_up_eq _ _ _
  · exact mb_up_ne h
theorem mb_up_up (a : mb_V) (v : Nat) (b c : Bool) : mb_up (mb_up a v b) v c = mb_up a v c := by
  funext j
  by_cases h : j = v
  · subst h; rw [mb_up_eq, mb_up_eq]
  · rw [mb_up_ne h, mb_up_ne h, mb_up_ne h]
theorem mb_up_cm {a : mb_V} {v w : Nat} {b c : Bool} (h : v ≠ w) : mb_up (mb_up a v b) w c = mb_up (mb_up a w c) v b := by
  funext j
  by_cases h1 : j = v
  · subst h1; rw [mb_up_ne h, mb_up_eq, mb_up_eq]
  · by_cases h2 : j = w
    · subst h2; rw [mb_up_eq, mb_up_ne h1, mb_up_eq]
    · rw [mb_up_ne h2, mb_up_ne h1, mb_up_ne h1, mb_up_ne h2]
theorem mb_cf_mx0 {v : Nat} {f g : mb_F} (hf : mb_in f v) : mb_cf (mb_mx v f g) v false = f := by
  funext a
  simp [mb_cf, mb_mx, mb_up_eq, hf a false]
theorem mb_cf_mx1 {v : Nat} {f g : mb_F} (hg : mb_in g v) : mb_cf (mb_mx v f g) v true = g := by
  funext a
  simp [mb_cf, mb_mx, mb_up_eq, hg a true]
theorem mb_mx_cf (v : Nat) (f : mb_F) : mb_mx v (mb_cf f v false) (mb_cf f v true) = f := by
  funext a
  unfold mb_mx mb_cf
  cases h : a v
  · simp only [Bool.false_eq_true, if_false]
    rw [← h, mb_up_self]
  · simp only [if_true]
    rw [← h, mb_up_self]
theorem mb_in_mx {v w : Nat} {f g : mb_F} (h : w ≠ v) (hf : mb_in f w) (hg : mb_in g w) : mb_in (mb_mx v f g) w := by
  intro a b
  unfold mb_mx
  rw [mb_up_ne (Ne.symm h), hf, hg]
theorem mb_in_cf {v : Nat} {f : mb_F} (b : Bool) : mb_in (mb_cf f v b) v := by
  intro a c
  unfold mb_cf
  rw [mb_up_up]
theorem mb_in_cf2 {v w : Nat} {f : mb_F} (b : Bool) (h : mb_in f w) : mb_in (mb_cf f v b) w := by
  intro a c
  unfold mb_cf
  by_cases e : w = v
  · subst e; rw [mb_up_up]
  · rw [mb_up_cm e, h]
theorem mb_mx_same (v : Nat) (f : mb_F) : mb_mx v f f = f := by
  funext a
  simp [mb_mx]
/-- a function that doesn't ask v is its own cut -/
theorem mb_cf_in {v : Nat} {f : mb_F} {b : Bool} (h : mb_in f v) : mb_cf f v b = f := by
  funext a
  exact h a b
/-- graphs: label (8: leaf, 9: free), low, high, function -/
abbrev gh_ : Type := (Nat → Nat) × (Nat → Nat) × (Nat → Nat) × (Nat → mb_F)
def or_ (lev at_ : Nat → Nat) : Prop := (∀ v, v < 8 → lev v < 8 ∧ at_ (lev v) = v) ∧ (∀ k, k < 8 → at_ k < 8 ∧ lev (at_ k) = k) ∧ lev 8 = 8
def gn_ (lev : Nat → Nat) (g : gh_) (n : Nat) : Prop := g.2.1 n < 2048 ∧ g.2.2.1 n < 2048 ∧ g.1 (g.2.1 n) ≠ 9 ∧ g.1 (g.2.2.1 n) ≠ 9 ∧ lev (g.1 n) < lev (g.1 (g.2.1 n)) ∧ lev (g.1 n) < lev (g.1 (g.2.2.1 n)) ∧ g.2.1 n ≠ g.2.2.1 n ∧ g.2.2.2 n = mb_mx (g.1 n) (g.2.2.2 (g.2.1 n)) (g.2.2.2 (g.2.2.1 n))
def gk_ (g : gh_) (n : Nat) : Prop := n < 2048 ∧ g.1 n ≠ 9
def gi_ (lev : Nat → Nat) (g : gh_) : Prop := (g.1 0 = 8 ∧ g.1 1 = 8 ∧ g.2.2.2 0 = (fun _ => false) ∧ g.2.2.2 1 = (fun _ => true)) ∧ (∀ n, n < 2048 → 2 ≤ n → g.1 n = 9 ∨ g.1 n < 8) ∧ (∀ n, n < 2048 → g.1 n < 8 → gn_ lev g n) ∧ (∀ n m, gk_ g n → gk_ g m → g.2.2.2 n = g.2.2.2 m → n = m)
theorem or_inj {lev at_ : Nat → Nat} (h : or_ lev at_) {v w : Nat} (hv : v < 8) (hw : w < 8) (e : lev v = lev w) : v = w := by
  rw [← (h.1 v hv).2, ← (h.1 w hw).2, e]
theorem or_le {lev at_ : Nat → Nat} (h : or_ lev at_) {v : Nat} (hv : v ≤ 8) : lev v ≤ 8 := by
  rcases Nat.lt_or_eq_of_le hv with q | q
  · exact Nat.le_of_lt (h.1 v q).1
  · subst q; rw [h.2.2]; exact Nat.le_refl 8
theorem gi_lab {lev : Nat → Nat} {g : gh_} (h : gi_ lev g) {n : Nat} (hn : gk_ g n) : g.1 n < 8 ∨ (n < 2 ∧ g.1 n = 8) := by
  rcases Nat.lt_or_ge n 2 with q | q
  · refine Or.inr ⟨q, ?_⟩
    rcases (show n = 0 ∨ n = 1 by omega) with rfl | rfl
    · exact h.1.1
    · exact h.1.2.1
  · rcases h.2.1 n hn.1 q with e | e
    · exact absurd e hn.2
    · exact Or.inl e
theorem gi_lab8 {lev : Nat → Nat} {g : gh_} (h : gi_ lev g) {n : Nat} (hn : gk_ g n) : g.1 n ≤ 8 := by
  rcases gi_lab h hn with q | q
  · omega
  · omega
theorem gi_two {lev : Nat → Nat} {g : gh_} (h : gi_ lev g) {n : Nat} (hl : g.1 n < 8) : 2 ≤ n := by
  rcases Nat.lt_or_ge n 2 with q | q
  · rcases (show n = 0 ∨ n = 1 by omega) with rfl | rfl
    · rw [h.1.1] at hl; omega
    · rw [h.1.2.1] at hl; omega
  · exact q
theorem gi_lo {lev : Nat → Nat} {g : gh_} (h : gi_ lev g) {n : Nat} (hn : n < 2048) (hl : g.1 n < 8) : gk_ g (g.2.1 n) ∧ gk_ g (g.2.2.1 n) := ⟨⟨(h.2.2.1 n hn hl).1, (h.2.2.1 n hn hl).2.2.1⟩, ⟨(h.2.2.1 n hn hl).2.1, (h.2.2.1 n hn hl).2.2.2.1⟩⟩
/-- a node doesn't ask what stands above it -/
theorem gi_above {lev at_ : Nat → Nat} {g : gh_} (ho : or_ lev at_) (h : gi_ lev g) : ∀ (k n : Nat), gk_ g n → 8 - lev (g.1 n) ≤ k → ∀ w, lev w < lev (g.1 n) → mb_in (g.2.2.2 n) w := by
  intro k
  induction k with
  | zero =>
    intro n hn hk w hw
    rcases gi_lab h hn with q | ⟨q, q2⟩
    · have := (ho.1 _ q).1
      omega
    · intro a b
      rcases (show n = 0 ∨ n = 1 by omega) with rfl | rfl
      · rw [h.1.2.2.1]
      · rw [h.1.2.2.2]
  | succ k ih =>
    intro n hn hk w hw
    rcases gi_lab h hn with q | ⟨q, q2⟩
    · obtain ⟨k1, k2⟩ := gi_lo h hn.1 q
      obtain ⟨-, -, -, -, l1, l2, -, e⟩ := h.2.2.1 n hn.1 q
      rw [e]
      refine mb_in_mx (fun c => ?_) (ih _ k1 (by omega) w (by omega)) (ih _ k2 (by omega) w (by omega))
      rw [c] at hw
      omega
    · intro a b
      rcases (show n = 0 ∨ n = 1 by omega) with rfl | rfl
      · rw [h.1.2.2.1]
      · rw [h.1.2.2.2]
theorem gi_abv {lev at_ : Nat → Nat} {g : gh_} (ho : or_ lev at_) (h : gi_ lev g) {n w : Nat} (hn : gk_ g n) (hw : lev w < lev (g.1 n)) : mb_in (g.2.2.2 n) w := gi_above ho h _ n hn (Nat.le_refl _) w hw
/-- a node asks its own variable -/
theorem gi_asks {lev at_ : Nat → Nat} {g : gh_} (ho : or_ lev at_) (h : gi_ lev g) {n : Nat} (hn : n < 2048) (hl : g.1 n < 8) : ¬ mb_in (g.2.2.2 n) (g.1 n) := by
  intro c
  obtain ⟨k1, k2⟩ := gi_lo h hn hl
  obtain ⟨-, -, -, -, l1, l2, ne, e⟩ := h.2.2.1 n hn hl
  apply ne
  apply h.2.2.2 _ _ k1 k2
  have c0 := mb_cf_in (b := false) c
  have c1 := mb_cf_in (b := true) c
  rw [e, mb_cf_mx0 (gi_abv ho h k1 l1)] at c0
  rw [e, mb_cf_mx1 (gi_abv ho h k2 l2)] at c1
  exact c0.trans c1.symm
/-- which node has the function 'mux v f0 f1' -/
theorem gi_find {lev at_ : Nat → Nat} {g : gh_} (ho : or_ lev at_) (h : gi_ lev g) {v a b m : Nat} (hv : v < 8) (ha : gk_ g a) (hb : gk_ g b) (la : lev v < lev (g.1 a)) (lb : lev v < lev (g.1 b)) (hab : a ≠ b) (hm : gk_ g m) (e : g.2.2.2 m = mb_mx v (g.2.2.2 a) (g.2.2.2 b)) : g.1 m = v ∧ g.2.1 m = a ∧ g.2.2.1 m = b := by
  have ia := gi_abv ho h ha la
  have ib := gi_abv ho h hb lb
  have asks : ¬ mb_in (g.2.2.2 m) v := by
    intro c
    apply hab
    apply h.2.2.2 _ _ ha hb
    have c0 := mb_cf_in (b := false) c
    have c1 := mb_cf_in (b := true) c
    rw [e, mb_cf_mx0 ia] at c0
    rw [e, mb_cf_mx1 ib] at c1
    exact c0.trans c1.symm
  have l1 : lev (g.1 m) ≤ lev v := Nat.le_of_not_lt fun c => asks (gi_abv ho h hm c)
  have q : g.1 m < 8 := by
    rcases gi_lab h hm with q | ⟨-, q⟩
    · exact q
    · rw [q, ho.2.2] at l1
      have := (ho.1 v hv).1
      omega
  have l2 : lev v ≤ lev (g.1 m) := Nat.le_of_not_lt fun c => gi_asks ho h hm.1 q (by
    rw [e]
    refine mb_in_mx (fun d => ?_) (gi_abv ho h ha (by omega)) (gi_abv ho h hb (by omega))
    rw [d] at c
    omega)
  have ev : g.1 m = v := or_inj ho q hv (by omega)
  obtain ⟨k1, k2⟩ := gi_lo h hm.1 q
  obtain ⟨-, -, -, -, j1, j2, -, e2⟩ := h.2.2.1 m hm.1 q
  rw [ev] at e2 j1 j2
  refine ⟨ev, h.2.2.2 _ _ k1 ha ?_, h.2.2.2 _ _ k2 hb ?_⟩
  · have c := congrArg (fun f => mb_cf f v false) (e2.symm.trans e)
    rwa [mb_cf_mx0 (gi_abv ho h k1 j1), mb_cf_mx0 ia] at c
  · have c := congrArg (fun f => mb_cf f v true) (e2.symm.trans e)
    rwa [mb_cf_mx1 (gi_abv ho h k2 j2), mb_cf_mx1 ib] at c
/-- a graph with one node more -/
def gh_add (g : gh_) (n v a b : Nat) : gh_ := (fun j => if j = n then v else g.1 j, fun j => if j = n then a else g.2.1 j, fun j => if j = n then b else g.2.2.1 j, fun j => if j = n then mb_mx v (g.2.2.2 a) (g.2.2.2 b) else g.2.2.2 j)
theorem gi_add {lev at_ : Nat → Nat} {g : gh_} (ho : or_ lev at_) (h : gi_ lev g) {n v a b : Nat} (hn : n < 2048) (h2 : 2 ≤ n) (hf : g.1 n = 9) (hv : v < 8) (ha : gk_ g a) (hb : gk_ g b) (la : lev v < lev (g.1 a)) (lb : lev v < lev (g.1 b)) (hab : a ≠ b) (hno : ∀ m, gk_ g m → ¬ (g.1 m = v ∧ g.2.1 m = a ∧ g.2.2.1 m = b)) : gi_ lev (gh_add g n v a b) := by
  have na : a ≠ n := fun c => ha.2 (c ▸ hf)
  have nb : b ≠ n := fun c => hb.2 (c ▸ hf)
  have old : ∀ j, j ≠ n → (gh_add g n v a b).1 j = g.1 j ∧ (gh_add g n v a b).2.1 j = g.2.1 j ∧ (gh_add g n v a b).2.2.1 j = g.2.2.1 j ∧ (gh_add g n v a b).2.2.2 j = g.2.2.2 j := fun j hj => by simp [gh_add, hj]
  have new : (gh_add g n v a b).1 n = v ∧ (gh_add g n v a b).2.1 n = a ∧ (gh_add g n v a b).2.2.1 n = b ∧ (gh_add g n v a b).2.2.2 n = mb_mx v (g.2.2.2 a) (g.2.2.2 b) := by simp [gh_add]
  have new_no : ∀ m, gk_ g m → ¬ g.2.2.2 m = mb_mx v (g.2.2.2 a) (g.2.2.2 b) := fun m hm e => hno m hm (gi_find ho h hv ha hb la lb hab hm e)
  have back : ∀ m, m ≠ n → gk_ (gh_add g n v a b) m → gk_ g m := fun m hm q => ⟨q.1, by rw [← (old m hm).1]; exact q.2⟩
  refine ⟨?_, ?_, ?_, ?_⟩
  · rw [(old 0 (by omega)).1, (old 1 (by omega)).1, (old 0 (by omega)).2.2.2, (old 1 (by omega)).2.2.2]
    exact h.1
  · intro m hm hm2
    by_cases c : m = n
    · subst c; rw [new.1]; exact Or.inr hv
    · rw [(old m c).1]; exact h.2.1 m hm hm2
  · intro m hm hl
    by_cases c : m = n
    · subst c
      unfold gn_
      rw [new.1, new.2.1, new.2.2.1, new.2.2.2, (old a na).1, (old b nb).1, (old a na).2.2.2, (old b nb).2.2.2]
      exact ⟨ha.1, hb.1, ha.2, hb.2, la, lb, hab, rfl⟩
    · rw [(old m c).1] at hl
      obtain ⟨q1, q2, q3, q4, q5, q6, q7, q8⟩ := h.2.2.1 m hm hl
      have n1 : g.2.1 m ≠ n := fun d => q3 (by rw [d]; exact hf)
      have n2 : g.2.2.1 m ≠ n := fun d => q4 (by rw [d]; exact hf)
      unfold gn_
      rw [(old m c).1, (old m c).2.1, (old m c).2.2.1, (old m c).2.2.2, (old _ n1).1, (old _ n2).1, (old _ n1).2.2.2, (old _ n2).2.2.2]
      exact ⟨q1, q2, q3, q4, q5, q6, q7, q8⟩
  · intro m k hm hk e
    by_cases c : m = n
    · by_cases d : k = n
      · rw [c, d]
      · subst c
        rw [new.2.2.2, (old k d).2.2.2] at e
        exact absurd e.symm (new_no k (back k d hk))
    · by_cases d : k = n
      · subst d
        rw [new.2.2.2, (old m c).2.2.2] at e
        exact absurd e (new_no m (back m c hm))
      · rw [(old m c).2.2.2, (old k d).2.2.2] at e
        exact h.2.2.2 m k (back m c hm) (back k d hk) e
