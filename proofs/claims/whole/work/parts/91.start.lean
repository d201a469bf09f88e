/-! The states that the two constructors leave, side by side. My own. -/
def i0_id : Nat → Int32 := fun i => if i < 8 then nI i else 0
def i0_lv : Nat → Int32 := upd i0_id 8 8
def i0_lb : Nat → Int32 := upd (upd (fun i => if i < 2048 then -1 else 0) 0 8) 1 8
def i0_mk : Nat → Int64 := vp_updL (vp_updL (vp_updL (vp_updL (vp_updL (vp_updL (fun _ => 0) 0 (-6148914691236517206)) 1 (-3689348814741910324)) 2 (-1085102592571150096)) 3 (-71777214294589696)) 4 (-281470681808896)) 5 (-4294967296)
def i0_s : wt_S := fun r => match r with
  | 1 => i0_id
  | 2 => i0_lv
  | 3 => i0_lb
  | 9 => fun i => match i with
    | 0 => 0
    | _ => 2
  | _ => fun _ => 0
def i0_t : wt_M := (fun r => match r with
  | 0 => i0_id
  | _ => fun _ => 0, fun r => match r with
  | 2 => i0_mk
  | _ => fun _ => 0)
def i0_g : gh_ := (fun n => if n < 2 then 8 else 9, fun _ => 0, fun _ => 0, fun n _ => decide (n = 1))
theorem i0_g1 {n : Nat} (h : n < 2) : i0_g.1 n = 8 := if_pos h
theorem i0_g2 {n : Nat} (h : ¬ n < 2) : i0_g.1 n = 9 := if_neg h
theorem i0_no (n : Nat) : ¬ i0_g.1 n < 8 := by
  by_cases h : n < 2
  · rw [i0_g1 h]; decide
  · rw [i0_g2 h]; decide
theorem i0_k {n : Nat} (h : gk_ i0_g n) : n < 2 := Classical.byContradiction fun c => h.2 (i0_g2 c)
theorem i0_idk {k : Nat} (h : k < 8) : i0_id k = nI k := if_pos h
theorem i0_lvk {v : Nat} (h : v ≤ 8) : i0_lv v = nI v := by
  unfold i0_lv upd
  by_cases c : v = 8
  · rw [if_pos c, c]; decide
  · rw [if_neg c]; exact i0_idk (by omega)
theorem i0_lbk {n : Nat} (h : n < 2048) : i0_lb n = cL_ (i0_g.1 n) := by
  unfold i0_lb upd
  by_cases c : n = 1
  · rw [if_pos c, i0_g1 (by omega)]; decide
  rw [if_neg c]
  by_cases c2 : n = 0
  · rw [if_pos c2, i0_g1 (by omega)]; decide
  rw [if_neg c2, i0_g2 (by omega)]
  show (if n < 2048 then (-1 : Int32) else 0) = cL_ 9
  rw [if_pos h]
  decide
theorem i0_cx : cx_ i0_s (fun _ _ => false) (fun j => j) := by
  refine ⟨fun v => v, i0_g, fun _ => 0, ⟨⟨fun v h => ⟨h, rfl⟩, fun k h => ⟨h, rfl⟩, rfl⟩, ⟨fun v h => i0_lvk h, fun k h => i0_idk h, fun n h => i0_lbk h, fun n _ h => absurd h (i0_no n)⟩, ⟨⟨rfl, rfl, rfl, rfl⟩, fun n _ h => Or.inl (i0_g2 (by omega)), fun n _ h => absurd h (i0_no n), fun n m h1 h2 e => ?_⟩, ⟨fun _ => [], fun b _ => ⟨rfl, List.nodup_nil, fun n h => nomatch h⟩, fun n _ h => absurd h (i0_no n)⟩, ⟨2, 2, rfl, rfl, by decide, by decide, by decide, by decide, fun n h1 h2 => absurd h2 (by omega), fun n h _ => i0_g2 (by omega)⟩, fun i _ => ⟨rfl, show 0 < 2048 by decide, show i0_g.1 0 ≠ 9 by decide⟩, fun j h1 h2 => absurd (i0_k h1) (by omega), ?_, fun j h => absurd rfl h⟩, fun _ _ _ => rfl, fun i _ => rfl⟩
  · have a := i0_k h1
    have b := i0_k h2
    have e2 : decide (n = 1) = decide (m = 1) := congrFun e (fun _ => false)
    by_cases c : n = 1
    · rw [c] at e2
      have := of_decide_eq_true e2.symm
      omega
    · have c2 : ¬ m = 1 := fun h => c (of_decide_eq_true (e2.trans (decide_eq_true h)))
      omega
  · have h : nc_ i0_g = 0 := by
      unfold nc_
      rw [List.filter_eq_nil_iff.mpr (fun j _ => by simpa using i0_no j)]
      rfl
    rw [h]
    rfl
theorem i0_ok : sy_ i0_s i0_t := by
  refine ⟨fun _ _ => false, fun j => j, i0_cx, fun r _ x _ => ?_, fun j h => i0_idk h, ?_⟩
  · show (0 : Int64).toBitVec.getLsbD (x % 64) = false
    exact BitVec.getLsbD_zero
  · show ∀ v, v < 6 → i0_mk v = mc6_ v
    decide +kernel
