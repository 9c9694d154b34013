/-! the class's addBits: the same bits, or the packer is full -/
def pkOk (off : Nat) (bs : List Bool) (used bf full : Int32) (cells : Nat → Int32) : Prop := full = 0 ∧ used = nI (off + (bs.length + 31) / 32) ∧ off + (bs.length + 31) / 32 ≤ 1661 ∧ bf = nI ((32 - bs.length % 32) % 32) ∧ hold cells off bs
def pkF (used bf full : Int32) : Prop := full = 1 ∧ (∃ u, u ≤ 1661 ∧ used = nI u) ∧ ∃ b, b < 32 ∧ bf = nI b
theorem addCell_ok {u : Nat} (full : Int32) (cells : Nat → Int32) (x : Int32) (hu : u < 1661) : m_X5_addCell (nI u) full cells x = some (nI (u + 1), full, upd cells u x) := by
  rw [m_X5_addCell, if_pos (show nI u < (1661 : Int32) from nI_lt (b := 1661) hu (by omega)), ckb_in _ hu (by omega), nI_clamp (by omega), nI_1]
theorem addCell_full (full : Int32) (cells : Nat → Int32) (x : Int32) : m_X5_addCell (nI 1661) full cells x = some (nI 1661, 1, cells) := by
  rw [m_X5_addCell, if_neg (by decide)]
theorem lN_bool_i (b : Bool) : Int64.toInt32 (lN b.toNat) = nI b.toNat := lN_i _
theorem bt_nIb (b : Bool) (i : Nat) : bt (nI b.toNat) i = (decide (i = 0) && b) := by
  cases b
  · show bt 0 i = _
    rw [b_0]; simp
  · show bt (nI 1) i = _
    rw [bt_nI1]; simp
theorem bt_bshl (b : Bool) (k : Nat) (hk : k < 32) (i : Nat) (hi : i < 32) : bt (nI b.toNat <<< (nI k &&& 31)) i = (decide (i = k) && b) := by
  rw [b_shl k hk _ hi, bt_nIb]
  by_cases h : i = k
  · subst h; simp
  · rw [decide_eq_false h]
    by_cases h2 : k ≤ i
    · have : ¬ i - k = 0 := by omega
      simp [this]
    · simp [h2]
/-- the second half of a turn: the bit goes into the last cell -/
theorem addBit_put {u b : Nat} (x : Bool) (cells : Nat → Int32) (hu : u ≤ 1661) : ∃ c' : Nat → Int32, (if nI u ≤ (0 : Int32) then some cells else ckb (nI u - (1 : Int32)) 1661 <| ckb (nI u - (1 : Int32)) 1661 <| some (upd cells (Int32.toNatClampNeg (nI u - (1 : Int32))) (cells (Int32.toNatClampNeg (nI u - (1 : Int32))) ||| (nI x.toNat <<< (nI b &&& 31))))) = some c' ∧ (∀ j, j + 1 ≠ u → c' j = cells j) ∧ (b < 32 → ∀ j, j + 1 = u → ∀ i, i < 32 → bt (c' j) i = (bt (cells j) i || (decide (i = b) && x))) := by
  cases u with
  | zero => exact ⟨cells, by rw [if_pos (by decide)], fun _ _ => rfl, fun _ j hj => by omega⟩
  | succ u =>
    rw [nI_pred, if_neg (nI_nle (by omega) (by omega)), ckb_in _ (show u < 1661 by omega) (by omega), ckb_in _ (show u < 1661 by omega) (by omega), nI_clamp (by omega)]
    refine ⟨_, rfl, fun j hj => pk_un (by omega), fun hb j hj i hi => ?_⟩
    have : j = u := by omega
    subst this
    rw [pk_us, b_or, bt_bshl x b hb i hi]
theorem addBits_F (v : Int64) : ∀ (r n : Nat) (used bf full : Int32) (cells : Nat → Int32), r < n → r ≤ 64 → pkF used bf full → ∃ (u' b' f' : Int32) (c' : Nat → Int32), lp_X5_addBits_5 v n (nI r - 1) used bf full cells = some (u', b', f', c') ∧ pkF u' b' f' := by
  intro r
  induction r with
  | zero =>
    intro n used bf full cells hn _ h
    obtain ⟨m, rfl⟩ : ∃ m, n = m + 1 := ⟨n - 1, by omega⟩
    exact ⟨used, bf, full, cells, by rw [lp_X5_addBits_5, if_pos (by decide)], h⟩
  | succ r ih =>
    intro n used bf full cells hn hr h
    obtain ⟨m, rfl⟩ : ∃ m, n = m + 1 := ⟨n - 1, by omega⟩
    obtain ⟨rfl, ⟨u, hu, rfl⟩, b, hb, rfl⟩ := h
    rw [lp_X5_addBits_5, nI_pred, if_neg (nI_pos (by omega))]
    obtain ⟨u1, b1, c1, hu1, hb1, e1⟩ : ∃ (u1 b1 : Nat) (c1 : Nat → Int32), u1 ≤ 1661 ∧ b1 < 32 ∧ (if nI b = (0 : Int32) then ob3 (m_X5_addCell (nI u) 1 cells (0 : Int32)) (fun K_used_25 K_full_26 K_cells_27 => some (K_used_25, (32 : Int32), K_full_26, K_cells_27)) else some (nI u, nI b, (1 : Int32), cells)) = some (nI u1, nI (b1 + 1), (1 : Int32), c1) := by
      by_cases hb0 : b = 0
      · subst hb0
        rw [if_pos (show nI 0 = (0 : Int32) from rfl)]
        by_cases h2 : u < 1661
        · rw [addCell_ok 1 cells 0 h2]
          exact ⟨u + 1, 31, _, by omega, by omega, rfl⟩
        · have : u = 1661 := by omega
          subst this
          rw [addCell_full]
          exact ⟨1661, 31, _, by omega, by omega, rfl⟩
      · rw [if_neg (nI_ne0 (by omega) (by omega))]
        exact ⟨u, b - 1, cells, hu, by omega, by rw [show b - 1 + 1 = b by omega]⟩
    rw [e1]
    show ∃ u' b' f' c', ob1 (if nI u1 ≤ (0 : Int32) then some c1 else ckb (nI u1 - (1 : Int32)) 1661 <| ckb (nI u1 - (1 : Int32)) 1661 <| some (upd c1 (Int32.toNatClampNeg (nI u1 - (1 : Int32))) (c1 (Int32.toNatClampNeg (nI u1 - (1 : Int32))) ||| (Int64.toInt32 (((Int64.toUInt64 v >>> ((Int32.toInt64 (nI r)).toUInt64 &&& Int64.toUInt64 63)).toInt64) &&& (1 : Int64)) <<< ((nI (b1 + 1) - (1 : Int32)) &&& 31))))) (fun K_cells_32 => lp_X5_addBits_5 v m (nI r + (-1 : Int32)) (nI u1) (nI (b1 + 1) - (1 : Int32)) 1 K_cells_32) = _ ∧ _
    rw [lbit_ushr v (by omega), lN_bool_i, nI_pred]
    obtain ⟨c2, e2, -, -⟩ := addBit_put (b := b1) (lbit v r) c1 hu1
    rw [e2]
    show ∃ u' b' f' c', lp_X5_addBits_5 v m (nI r + (-1 : Int32)) (nI u1) (nI b1) 1 c2 = _ ∧ _
    rw [show nI r + (-1 : Int32) = nI r - 1 by rw [Int32.sub_eq_add_neg]]
    exact ih m _ _ _ c2 (by omega) (by omega) ⟨rfl, ⟨u1, hu1, rfl⟩, b1, hb1, rfl⟩
theorem addBits_O (v : Int64) : ∀ (r n off : Nat) (bs : List Bool) (used bf full : Int32) (cells : Nat → Int32), r < n → r ≤ 64 → bs.length + r ≤ 6000 → pkOk off bs used bf full cells → ∃ (u' b' f' : Int32) (c' : Nat → Int32), lp_X5_addBits_5 v n (nI r - 1) used bf full cells = some (u', b', f', c') ∧ ((off + (bs.length + r + 31) / 32 ≤ 1661 ∧ pkOk off (bs ++ lbs r v) u' b' f' c' ∧ ∀ j, j < off → c' j = cells j) ∨ (1661 < off + (bs.length + r + 31) / 32 ∧ pkF u' b' f')) := by
  intro r
  induction r with
  | zero =>
    intro n off bs used bf full cells hn _ _ h
    obtain ⟨m, rfl⟩ : ∃ m, n = m + 1 := ⟨n - 1, by omega⟩
    refine ⟨used, bf, full, cells, by rw [lp_X5_addBits_5, if_pos (by decide)], Or.inl ⟨h.2.2.1, ?_, fun _ _ => rfl⟩⟩
    simpa [lbs] using h
  | succ r ih =>
    intro n off bs used bf full cells hn hr hlen h
    obtain ⟨m, rfl⟩ : ∃ m, n = m + 1 := ⟨n - 1, by omega⟩
    obtain ⟨rfl, rfl, hoff, rfl, hh⟩ := h
    rw [lp_X5_addBits_5, nI_pred, if_neg (nI_pos (by omega))]
    by_cases hfull : bs.length % 32 = 0 ∧ off + bs.length / 32 = 1661
    · -- it becomes full here
      obtain ⟨h0, h1⟩ := hfull
      have e0 : off + (bs.length + 31) / 32 = 1661 := by omega
      rw [e0, h0, if_pos (show nI ((32 - 0) % 32) = (0 : Int32) from rfl), addCell_full]
      show ∃ u' b' f' c', ob1 (if nI 1661 ≤ (0 : Int32) then some cells else ckb (nI 1661 - (1 : Int32)) 1661 <| ckb (nI 1661 - (1 : Int32)) 1661 <| some (upd cells (Int32.toNatClampNeg (nI 1661 - (1 : Int32))) (cells (Int32.toNatClampNeg (nI 1661 - (1 : Int32))) ||| (Int64.toInt32 (((Int64.toUInt64 v >>> ((Int32.toInt64 (nI r)).toUInt64 &&& Int64.toUInt64 63)).toInt64) &&& (1 : Int64)) <<< ((nI (31 + 1) - (1 : Int32)) &&& 31))))) (fun K_cells_32 => lp_X5_addBits_5 v m (nI r + (-1 : Int32)) (nI 1661) (nI (31 + 1) - (1 : Int32)) 1 K_cells_32) = _ ∧ _
      rw [lbit_ushr v (by omega), lN_bool_i, nI_pred 31]
      obtain ⟨c2, e2, -, -⟩ := addBit_put (b := 31) (lbit v r) cells (Nat.le_refl 1661)
      rw [e2]
      show ∃ u' b' f' c', lp_X5_addBits_5 v m (nI r + (-1 : Int32)) (nI 1661) (nI 31) 1 c2 = _ ∧ _
      rw [show nI r + (-1 : Int32) = nI r - 1 by rw [Int32.sub_eq_add_neg]]
      obtain ⟨u', b', f', c', e3, h3⟩ := addBits_F v r m (nI 1661) (nI 31) 1 c2 (by omega) (by omega) ⟨rfl, ⟨1661, by omega, rfl⟩, 31, by omega, rfl⟩
      exact ⟨u', b', f', c', e3, Or.inr ⟨by omega, h3⟩⟩
    · obtain ⟨c1, hc1, hz1, e1⟩ : ∃ c1 : Nat → Int32, (∀ j, j ≠ off + bs.length / 32 → c1 j = cells j) ∧ (∀ i, i < 32 → bt (c1 (off + bs.length / 32)) i = if bs.length % 32 = 0 then false else bt (cells (off + bs.length / 32)) i) ∧ (if nI ((32 - bs.length % 32) % 32) = (0 : Int32) then ob3 (m_X5_addCell (nI (off + (bs.length + 31) / 32)) 0 cells (0 : Int32)) (fun K_used_25 K_full_26 K_cells_27 => some (K_used_25, (32 : Int32), K_full_26, K_cells_27)) else some (nI (off + (bs.length + 31) / 32), nI ((32 - bs.length % 32) % 32), (0 : Int32), cells)) = some (nI (off + bs.length / 32 + 1), nI (31 - bs.length % 32 + 1), (0 : Int32), c1) := by
        by_cases h0 : bs.length % 32 = 0
        · have e0 : off + (bs.length + 31) / 32 = off + bs.length / 32 := by omega
          rw [e0, h0, if_pos (show nI ((32 - 0) % 32) = (0 : Int32) from rfl), addCell_ok 0 cells 0 (by omega)]
          refine ⟨upd cells (off + bs.length / 32) 0, fun j hj => pk_un hj, fun i _ => ?_, rfl⟩
          rw [pk_us, if_pos rfl, b_0]
        · have e0 : off + (bs.length + 31) / 32 = off + bs.length / 32 + 1 := by omega
          rw [e0, if_neg (nI_ne0 (by omega) (by omega))]
          refine ⟨cells, fun j _ => rfl, fun i _ => by rw [if_neg h0], ?_⟩
          rw [show (32 - bs.length % 32) % 32 = 31 - bs.length % 32 + 1 by omega]
      rw [e1]
      show ∃ u' b' f' c', ob1 (if nI (off + bs.length / 32 + 1) ≤ (0 : Int32) then some c1 else ckb (nI (off + bs.length / 32 + 1) - (1 : Int32)) 1661 <| ckb (nI (off + bs.length / 32 + 1) - (1 : Int32)) 1661 <| some (upd c1 (Int32.toNatClampNeg (nI (off + bs.length / 32 + 1) - (1 : Int32))) (c1 (Int32.toNatClampNeg (nI (off + bs.length / 32 + 1) - (1 : Int32))) ||| (Int64.toInt32 (((Int64.toUInt64 v >>> ((Int32.toInt64 (nI r)).toUInt64 &&& Int64.toUInt64 63)).toInt64) &&& (1 : Int64)) <<< ((nI (31 - bs.length % 32 + 1) - (1 : Int32)) &&& 31))))) (fun K_cells_32 => lp_X5_addBits_5 v m (nI r + (-1 : Int32)) (nI (off + bs.length / 32 + 1)) (nI (31 - bs.length % 32 + 1) - (1 : Int32)) 0 K_cells_32) = _ ∧ _
      rw [lbit_ushr v (by omega), lN_bool_i, nI_pred (31 - bs.length % 32)]
      obtain ⟨c2, e2, hs2, hb2⟩ := addBit_put (b := 31 - bs.length % 32) (lbit v r) c1 (show off + bs.length / 32 + 1 ≤ 1661 by omega)
      rw [e2]
      show ∃ u' b' f' c', lp_X5_addBits_5 v m (nI r + (-1 : Int32)) (nI (off + bs.length / 32 + 1)) (nI (31 - bs.length % 32)) 0 c2 = _ ∧ _
      rw [show nI r + (-1 : Int32) = nI r - 1 by rw [Int32.sub_eq_add_neg]]
      have hold2 : hold c2 off (bs ++ [lbit v r]) := hold_step hh (fun j hj => by rw [hs2 j (by omega), hc1 j hj]) (fun i hi => by
        rw [hb2 (by omega) _ rfl i hi, hz1 i hi]
        by_cases h : i = 31 - bs.length % 32
        · rw [if_pos h, decide_eq_true h, Bool.true_and]
          by_cases h0 : bs.length % 32 = 0
          · rw [if_pos h0, Bool.false_or]
          · rw [if_neg h0]
            have h9 := hh (bs.length / 32) (by omega) (bs.length % 32) (by omega)
            rw [List.getD_eq_getElem?_getD, List.getElem?_eq_none (by omega)] at h9
            rw [h, h9]
            rfl
        · rw [if_neg h, decide_eq_false h, Bool.false_and, Bool.or_false])
      have hL : (bs ++ [lbit v r]).length = bs.length + 1 := by simp
      obtain ⟨u', b', f', c', e3, h3⟩ := ih m off (bs ++ [lbit v r]) (nI (off + bs.length / 32 + 1)) (nI (31 - bs.length % 32)) 0 c2 (by omega) (by omega) (by omega) ⟨rfl, by rw [hL]; congr 1; omega, by omega, by rw [hL]; congr 1; omega, hold2⟩
      rw [hL] at h3
      refine ⟨u', b', f', c', e3, ?_⟩
      rcases h3 with ⟨q1, q2, q3⟩ | ⟨q1, q2⟩
      · refine Or.inl ⟨by omega, ?_, fun j hj => by rw [q3 j hj, hs2 j (by omega), hc1 j (by omega)]⟩
        rw [List.append_assoc] at q2
        exact q2
      · exact Or.inr ⟨by omega, q2⟩
