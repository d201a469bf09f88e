/-! Reading and writing rows by natural numbers; chains. My own. -/
theorem rc_at {β : Type} {f : Nat → Int32} {n j : Nat} {K : Int32 → Option β} (h : j < n) (hn : n < 2 ^ 31) : rd_ f n (nI j) K = K (f j) := by
  unfold rd_
  rw [if_neg (nI_in h hn), nI_clamp (Nat.lt_trans h hn)]
theorem rc_atL {β : Type} {f : Nat → Int64} {n j : Nat} {K : Int64 → Option β} (h : j < n) (hn : n < 2 ^ 31) : rd_L f n (nI j) K = K (f j) := by
  unfold rd_L
  rw [if_neg (nI_in h hn), nI_clamp (Nat.lt_trans h hn)]
theorem wc_S {β : Type} {s : wt_S} {k n j : Nat} {x : Int32} {K : wt_S → Option β} (h : j < n) (hn : n < 2 ^ 31) : wr_S s k n (nI j) x K = K (pu_S s k j x) := by
  unfold wr_S
  rw [if_neg (nI_in h hn), nI_clamp (Nat.lt_trans h hn)]
theorem wc_T {β : Type} {t : wt_M} {k n j : Nat} {x : Int32} {K : wt_M → Option β} (h : j < n) (hn : n < 2 ^ 31) : wr_T t k n (nI j) x K = K (pu_S t.1 k j x, t.2) := by
  unfold wr_T
  rw [if_neg (nI_in h hn), nI_clamp (Nat.lt_trans h hn)]
theorem wc_L {β : Type} {t : wt_M} {k n j : Nat} {x : Int64} {K : wt_M → Option β} (h : j < n) (hn : n < 2 ^ 31) : wr_L t k n (nI j) x K = K (t.1, pu_L t.2 k j x) := by
  unfold wr_L
  rw [if_neg (nI_in h hn), nI_clamp (Nat.lt_trans h hn)]
theorem pu_at (s : wt_S) (k i : Nat) (x : Int32) (r j : Nat) : pu_S s k i x r j = if r = k ∧ j = i then x else s r j := by
  unfold pu_S upd
  by_cases h : r = k
  · subst h
    by_cases h2 : j = i <;> simp [h2]
  · simp [h]
theorem pu_eq (s : wt_S) (k i : Nat) (x : Int32) : pu_S s k i x k i = x := by rw [pu_at, if_pos ⟨rfl, rfl⟩]
theorem pu_row {s : wt_S} {k i r j : Nat} {x : Int32} (h : r ≠ k) : pu_S s k i x r j = s r j := by rw [pu_at, if_neg (fun q => h q.1)]
theorem pu_ne {s : wt_S} {k i r j : Nat} {x : Int32} (h : j ≠ i) : pu_S s k i x r j = s r j := by rw [pu_at, if_neg (fun q => h q.2)]
theorem puL_at (s : Nat → Nat → Int64) (k i : Nat) (x : Int64) (r j : Nat) : pu_L s k i x r j = if r = k ∧ j = i then x else s r j := by
  unfold pu_L vp_updL
  by_cases h : r = k
  · subst h
    by_cases h2 : j = i <;> simp [h2]
  · simp [h]
theorem nI_inj {a b : Nat} (ha : a < 2 ^ 31) (hb : b < 2 ^ 31) (h : nI a = nI b) : a = b := (nI_eq ha hb).mp h
/-- a chain of nodes from x, by the row 'next' -/
def ch_ (s : wt_S) : Int32 → List Nat → Prop
  | x, [] => x = 0
  | x, n :: l => x = nI n ∧ 2 ≤ n ∧ n < 2048 ∧ ch_ s (s 6 n) l
def ch_is (s : wt_S) (c2 c3 c4 : Int32) (m : Nat) : Bool := decide (s 3 m = c2) && decide (s 4 m = c3) && decide (s 5 m = c4)
theorem fo_loop (s : wt_S) (c2 c3 c4 : Int32) (K : Unit → Option Int32) : ∀ (l : List Nat) (n : Nat) (x : Int32) (k : Nat), ch_ s x l → l.length + k ≤ 2048 → l.length < n →
    fd_found_L11 s c2 c3 c4 K n x (nI k) = match l.find? (ch_is s c2 c3 c4) with
      | some m => some (nI m)
      | none => K () := by
  intro l
  induction l with
  | nil =>
    intro n x k hc hk hn
    cases n with
    | zero => omega
    | succ n =>
      cases hc
      rw [fd_found_L11]
      by_cases h : (2048 : Int32) ≤ nI k
      · rw [if_pos h]; rfl
      · rw [if_neg h, if_pos rfl]; rfl
  | cons m l ih =>
    intro n x k hc hk hn
    obtain ⟨rfl, h2, h3, h4⟩ := hc
    cases n with
    | zero => omega
    | succ n =>
      have hl : (m :: l).length = l.length + 1 := rfl
      rw [hl] at hk hn
      rw [fd_found_L11, if_neg (show ¬ (2048 : Int32) ≤ nI k from nI_ge (b := 2048) (by omega) (by decide)), if_neg (nI_ne0 (by omega) (by omega)), rc_at h3 (by decide)]
      have nx : rd_ (s 6) 2048 (nI m) (fun v => fd_found_L11 s c2 c3 c4 K n v (nI k + 1)) = fd_found_L11 s c2 c3 c4 K n (s 6 m) (nI (k + 1)) := by rw [rc_at h3 (by decide), nI_1]
      have rest := ih n (s 6 m) (k + 1) h4 (by omega) (by omega)
      unfold jn_
      dsimp only
      rw [nx, rc_at h3 (by decide), rc_at h3 (by decide), List.find?_cons]
      unfold ch_is
      by_cases e1 : s 3 m = c2
      · by_cases e2 : s 4 m = c3
        · by_cases e3 : s 5 m = c4
          · simp [e1, e2, e3]
          · simp [e1, e2, e3]; exact rest
        · simp [e1, e2]; exact rest
      · simp [e1]; exact rest
theorem fo_spec {s : wt_S} {b : Nat} {c2 c3 c4 : Int32} {l : List Nat} (hb : b < 256) (hc : ch_ s (s 7 b) l) (hl : l.length ≤ 2048) :
    fd_found s (nI b) c2 c3 c4 = some (match l.find? (ch_is s c2 c3 c4) with
      | some m => nI m
      | none => 0) := by
  unfold fd_found
  rw [rc_at hb (by decide)]
  have h := fo_loop s c2 c3 c4 (fun _ => some 0) l 5000 (s 7 b) 0 hc (by omega) (by omega)
  rw [nI_0] at h
  rw [h]
  cases l.find? (ch_is s c2 c3 c4) <;> rfl
theorem bI_some {β : Type} (x : Int32) (f : Int32 → Option β) : b_I (some x) f = f x := rfl
theorem bIS_some {β : Type} (x : Int32) (s : wt_S) (f : Int32 → wt_S → Option β) : b_IS (some (x, s)) f = f x s := rfl
theorem bS_some {β : Type} (s : wt_S) (f : wt_S → Option β) : b_S (some s) f = f s := rfl
theorem bU_some {β : Type} (f : Unit → Option β) : b_U (some ()) f = f () := rfl
theorem bT_some {β : Type} (s : wt_M) (f : wt_M → Option β) : b_T (some s) f = f s := rfl
theorem bIT_some {β : Type} (x : Int32) (s : wt_M) (f : Int32 → wt_M → Option β) : b_IT (some (x, s)) f = f x s := rfl
