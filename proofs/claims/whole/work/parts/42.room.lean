/-! Room: how many nodes there can be. Pure. My own. -/
/-- f is decided by the variables with P -/
def mb_on (f : mb_F) (P : Nat → Prop) : Prop := ∀ a b : mb_V, (∀ v, P v → a v = b v) → f a = f b
theorem mb_on_mono {f : mb_F} {P R : Nat → Prop} (h : mb_on f P) (hp : ∀ v, P v → R v) : mb_on f R := fun a b q => h a b fun v hv => q v (hp v hv)
theorem mb_on_in {f : mb_F} {P : Nat → Prop} (h : mb_on f P) {w : Nat} (hw : ¬ P w) : mb_in f w := fun a b => h _ _ fun v hv => mb_up_ne fun c => hw (c ▸ hv)
theorem mb_on_mx {f g : mb_F} {P : Nat → Prop} {v : Nat} (hv : P v) (hf : mb_on f P) (hg : mb_on g P) : mb_on (mb_mx v f g) P := by
  intro a b q
  unfold mb_mx
  rw [q v hv, hf a b q, hg a b q]
theorem mb_on_cf {f : mb_F} {P : Nat → Prop} {v : Nat} (b : Bool) (hf : mb_on f P) : mb_on (mb_cf f v b) (fun w => P w ∧ w ≠ v) := by
  intro x y q
  unfold mb_cf
  apply hf
  intro w hw
  by_cases c : w = v
  · subst c; rw [mb_up_eq, mb_up_eq]
  · rw [mb_up_ne c, mb_up_ne c]; exact q w ⟨hw, c⟩
theorem gi_on {lev at_ : Nat → Nat} {g : gh_} (ho : or_ lev at_) (h : gi_ lev g) : ∀ (k n : Nat), gk_ g n → 8 - lev (g.1 n) ≤ k → mb_on (g.2.2.2 n) (fun v => v < 8 ∧ lev (g.1 n) ≤ lev v) := by
  have leaf : ∀ n, n < 2 → mb_on (g.2.2.2 n) (fun v => v < 8 ∧ lev (g.1 n) ≤ lev v) := by
    intro n q a b _
    rcases (show n = 0 ∨ n = 1 by omega) with rfl | rfl
    · rw [h.1.2.2.1]
    · rw [h.1.2.2.2]
  intro k
  induction k with
  | zero =>
    intro n hn hk
    rcases gi_lab h hn with q | ⟨q, q2⟩
    · have := (ho.1 _ q).1
      omega
    · exact leaf n q
  | succ k ih =>
    intro n hn hk
    rcases gi_lab h hn with q | ⟨q, q2⟩
    · obtain ⟨k1, k2⟩ := gi_lo h hn.1 q
      obtain ⟨-, -, -, -, l1, l2, -, e⟩ := h.2.2.1 n hn.1 q
      rw [e]
      exact mb_on_mx ⟨q, Nat.le_refl _⟩ (mb_on_mono (ih _ k1 (by omega)) fun v hv => ⟨hv.1, by omega⟩) (mb_on_mono (ih _ k2 (by omega)) fun v hv => ⟨hv.1, by omega⟩)
    · exact leaf n q
theorem gi_onn {lev at_ : Nat → Nat} {g : gh_} (ho : or_ lev at_) (h : gi_ lev g) {n : Nat} (hn : gk_ g n) : mb_on (g.2.2.2 n) (fun v => v < 8 ∧ lev (g.1 n) ≤ lev v) := gi_on ho h _ n hn (Nat.le_refl _)
/-- all functions of the variables of a list -/
def en_ : List Nat → List mb_F
  | [] => [fun _ => false, fun _ => true]
  | v :: l => (en_ l).flatMap fun f => (en_ l).map fun g => mb_mx v f g
theorem fm_len {α β : Type} (m : List α) (f : α → List β) (k : Nat) (h : ∀ x, (f x).length = k) : (m.flatMap f).length = m.length * k := by
  induction m with
  | nil => simp
  | cons x m ih => rw [List.flatMap_cons, List.length_append, ih, h, List.length_cons, Nat.succ_mul, Nat.add_comm]
theorem en_len (v : Nat) (l : List Nat) : (en_ (v :: l)).length = (en_ l).length * (en_ l).length := by
  show ((en_ l).flatMap fun f => (en_ l).map fun g => mb_mx v f g).length = _
  rw [fm_len _ _ (en_ l).length (fun x => List.length_map _)]
theorem en_3 (u v w : Nat) : (en_ [u, v, w]).length = 256 := by
  rw [en_len, en_len, en_len]
  rfl
theorem en_mem : ∀ (l : List Nat) (f : mb_F), mb_on f (fun v => v ∈ l) → f ∈ en_ l := by
  intro l
  induction l with
  | nil =>
    intro f h
    have e : f = fun _ => f (fun _ => false) := by
      funext a
      exact h _ _ fun v hv => absurd hv List.not_mem_nil
    show f ∈ [(fun _ => false : mb_F), fun _ => true]
    cases hc : f (fun _ => false)
    · rw [hc] at e; rw [e]; exact List.mem_cons_self
    · rw [hc] at e; rw [e]; exact List.mem_cons_of_mem _ List.mem_cons_self
  | cons v l ih =>
    intro f h
    have part : ∀ b, mb_cf f v b ∈ en_ l := fun b => ih _ (mb_on_mono (mb_on_cf b h) fun w hw => by
      rcases List.mem_cons.mp hw.1 with c | c
      · exact absurd c hw.2
      · exact c)
    show f ∈ (en_ l).flatMap fun f => (en_ l).map fun g => mb_mx v f g
    exact List.mem_flatMap.mpr ⟨_, part false, List.mem_map.mpr ⟨_, part true, mb_mx_cf v f⟩⟩
/-- no more things than places -/
theorem ph_len {α : Type} : ∀ (l m : List α), l.Nodup → (∀ x, x ∈ l → x ∈ m) → l.length ≤ m.length := by
  intro l
  induction l with
  | nil => intro m _ _; exact Nat.zero_le _
  | cons x l ih =>
    intro m hn hs
    obtain ⟨m1, m2, rfl⟩ := List.append_of_mem (hs x List.mem_cons_self)
    obtain ⟨h1, h2⟩ := List.nodup_cons.mp hn
    have := ih (m1 ++ m2) h2 (fun y hy => by
      have q := hs y (List.mem_cons_of_mem _ hy)
      rcases List.mem_append.mp q with c | c
      · exact List.mem_append_left _ c
      · rcases List.mem_cons.mp c with d | d
        · exact absurd (d ▸ hy) h1
        · exact List.mem_append_right _ d)
    simp only [List.length_append, List.length_cons] at this ⊢
    omega
def cv_ (lev : Nat → Nat) (g : gh_) (L : List mb_F) : Prop := ∀ n, gk_ g n → lev (g.1 n) < 5 → g.2.2.2 n ∈ L
theorem nd_map {α β : Type} (f : α → β) : ∀ (l : List α), l.Nodup → (∀ x y, x ∈ l → y ∈ l → f x = f y → x = y) → (l.map f).Nodup := by
  intro l
  induction l with
  | nil => intro _ _; exact List.nodup_nil
  | cons x l ih =>
    intro hn hi
    obtain ⟨h1, h2⟩ := List.nodup_cons.mp hn
    rw [List.map_cons]
    refine List.nodup_cons.mpr ⟨fun c => ?_, ih h2 fun a b ha hb => hi a b (List.mem_cons_of_mem _ ha) (List.mem_cons_of_mem _ hb)⟩
    obtain ⟨y, hy, e⟩ := List.mem_map.mp c
    exact h1 (hi y x (List.mem_cons_of_mem _ hy) List.mem_cons_self e ▸ hy)
theorem cv_free {lev at_ : Nat → Nat} {g : gh_} {L : List mb_F} (ho : or_ lev at_) (h : gi_ lev g) (hc : cv_ lev g L) (hL : L.length ≤ 1791) : ∃ n, 2 ≤ n ∧ n < 2048 ∧ g.1 n = 9 := by
  apply Classical.byContradiction
  intro no
  have all : ∀ n, n < 2048 → gk_ g n := fun n hn => ⟨hn, fun c => by
    rcases Nat.lt_or_ge n 2 with q | q
    · rcases (show n = 0 ∨ n = 1 by omega) with rfl | rfl
      · rw [h.1.1] at c; omega
      · rw [h.1.2.1] at c; omega
    · exact no ⟨n, q, hn, c⟩⟩
  have hl := ph_len ((List.range 2048).map g.2.2.2) (L ++ en_ [at_ 5, at_ 6, at_ 7]) (nd_map _ _ List.nodup_range fun x y hx hy e => h.2.2.2 x y (all x (List.mem_range.mp hx)) (all y (List.mem_range.mp hy)) e) (fun f hf => by
    obtain ⟨n, hn, rfl⟩ := List.mem_map.mp hf
    have hk := all n (List.mem_range.mp hn)
    rcases Nat.lt_or_ge (lev (g.1 n)) 5 with q | q
    · exact List.mem_append_left _ (hc n hk q)
    · refine List.mem_append_right _ (en_mem _ _ (mb_on_mono (gi_onn ho h hk) fun v hv => ?_))
      have e := (ho.1 v hv.1)
      rcases (show lev v = 5 ∨ lev v = 6 ∨ lev v = 7 by omega) with c | c | c
      · rw [← e.2, c]; exact List.mem_cons_self
      · rw [← e.2, c]; exact List.mem_cons_of_mem _ List.mem_cons_self
      · rw [← e.2, c]; exact List.mem_cons_of_mem _ (List.mem_cons_of_mem _ List.mem_cons_self))
  rw [List.length_map, List.length_range, List.length_append, en_3] at hl
  omega
