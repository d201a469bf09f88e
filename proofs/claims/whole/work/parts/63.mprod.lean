/-! The reference's product. My own. -/
variable {t : wt_M} {F : Nat → mb_F} {o : Nat → Nat}
theorem pz_loop {c1 : Int32} {a b m x : Nat} (K : Int32 → Option wt_M) (hq : ∀ q, q < 16 → ∀ z, z < 256 → tb_ t q z = F q z.testBit) (ha : a < 16) (hb : b < 16) (hx : x < 256) : ∀ (n y f : Nat) (acc : Bool), y < n → y < 256 → y &&& m = y → n < f → fm_product_L75 t c1 (nI a) (nI b) (nI m) (nI x) K f (nI acc.toNat) (nI y) = K (nI (acc || (su_b m n y).any fun z => an_ (F a) (F b) (zx_ x m z).testBit).toNat) := by
  intro n
  induction n with
  | zero => intro y f acc h; omega
  | succ n ih =>
    intro y f acc hy hy2 hym hf
    cases f with
    | zero => omega
    | succ f =>
      have step : ∀ d : Bool, d = (acc || an_ (F a) (F b) (zx_ x m y).testBit) → (if nI y = (0 : Int32) then fm_product_L75 t c1 (nI a) (nI b) (nI m) (nI x) K f (nI d.toNat) (-1) else fm_product_L75 t c1 (nI a) (nI b) (nI m) (nI x) K f (nI d.toNat) ((nI y - 1) &&& nI m)) = K (nI (acc || (su_b m (n + 1) y).any fun z => an_ (F a) (F b) (zx_ x m z).testBit).toNat) := by
        intro d hd
        show _ = K (nI (acc || (y :: (if y = 0 then [] else su_b m n ((y - 1) &&& m))).any fun z => an_ (F a) (F b) (zx_ x m z).testBit).toNat)
        rw [List.any_cons, ← Bool.or_assoc, ← hd]
        by_cases c : y = 0
        · rw [if_pos (by rw [c]; exact nI_0), if_pos c]
          cases f with
          | zero => omega
          | succ f =>
            rw [fm_product_L75, if_pos (by decide), List.any_nil, Bool.or_false]
        · rw [if_neg (nI_ne0 (by omega) (by omega)), if_neg c]
          obtain ⟨y', rfl⟩ : ∃ y', y = y' + 1 := ⟨y - 1, by omega⟩
          have le := Nat.and_le_left (n := y') (m := m)
          rw [nI_pred, nI_and, show y' + 1 - 1 = y' from rfl]
          exact ih (y' &&& m) f d (by omega) (by omega) (by rw [Nat.and_assoc, Nat.and_self]) (by omega)
      rw [fm_product_L75, if_neg (nI_pos (by omega))]
      simp only [jn_]
      rw [zx_i, mv_ok t (by omega) (zx_lt hx hy2), bI_some, hq a ha _ (zx_lt hx hy2), mv_ok t (by omega) (zx_lt hx hy2), bI_some, hq b hb _ (zx_lt hx hy2)]
      cases acc with
      | true =>
        rw [if_neg (show ¬ nI true.toNat = (0 : Int32) by decide)]
        exact step true (by simp)
      | false =>
        rw [if_pos (show nI false.toNat = (0 : Int32) from nI_0)]
        cases h1 : F a (zx_ x m y).testBit
        · rw [if_pos (show nI false.toNat = (0 : Int32) from nI_0)]
          exact step false (by simp [an_, h1])
        · rw [if_neg (show ¬ nI true.toNat = (0 : Int32) by decide)]
          cases h2 : F b (zx_ x m y).testBit
          · rw [if_pos (show nI false.toNat = (0 : Int32) from nI_0)]
            exact step false (by simp [an_, h2])
          · rw [if_neg (show ¬ nI true.toNat = (0 : Int32) by decide)]
            exact step true (by simp [an_, h1, h2])
theorem xp_m (hm : mo_ t F o) {r a b mk : Nat} (hr : r < 16) (ha : a < 16) (hb : b < 16) (hmk : mk < 256) (hfa : mb_on (F a) (fun v => v < 8)) (hfb : mb_on (F b) (fun v => v < 8)) : ∃ t4, fm_product t (nI r) (nI a) (nI b) (nI mk) = some t4 ∧ mo_ t4 (fun i => if i = r then qx_ mk.testBit (an_ (F a) (F b)) else F i) o ∧ t4.1 9 0 = 0 := by
  unfold fm_product
  generalize hN : 5000 = N
  simp -implicitDefEqProofs only [jn_, sp_T]
  rw [mir_ok hr, bI_some, if_neg one_ne, mir_ok ha, bI_some, if_neg one_ne, mir_ok hb, bI_some, if_neg one_ne, show fm_in (nI mk) (0 : Int32) (255 : Int32) = some 1 from min_ok (b := 0) (c := 255) (Nat.zero_le _) (by omega) (by decide), bI_some, if_neg one_ne]
  have hf : mb_on (an_ (F a) (F b)) (fun v => v < 8) := fun p q h => by
    unfold an_
    rw [hfa p q h, hfb p q h]
  refine tl_ok hm hr (fun K => fm_product_L60 (nI r) (nI a) (nI b) (nI mk) K) (qx_ mk.testBit (an_ (F a) (F b))) (fun x => (su_b mk 257 mk).any fun z => an_ (F a) (F b) (zx_ x mk z).testBit) (fun x hx => qx_su hmk hx hf) (fun K n t => by rw [fm_product_L60, if_pos t256]) (fun K n x t' hx hq => ?_) _ hN
  rw [fm_product_L60, if_neg (n256 hx)]
  have h := pz_loop (t := t') (F := F) (c1 := nI r) (a := a) (b := b) (m := mk) (x := x) (fun z6_75 => b_T (fm_set t' (nI x) z6_75) fun t150 => fm_product_L60 (nI r) (nI a) (nI b) (nI mk) K n (nI x + 1) t150) hq ha hb hx 257 mk 5000 false (by omega) hmk (Nat.and_self mk) (by omega)
  rw [show nI false.toNat = (0 : Int32) from nI_0, Bool.false_or] at h
  exact h
