/-! bits out of cells: the class's readBits -/
theorem lb_ext {x y : Int64} (h : ∀ i, i < 64 → lbit x i = lbit y i) : x = y := Int64.toBitVec_inj.mp (BitVec.eq_of_getLsbD_eq (fun i hi => h i hi))
theorem lb_big {x : Int64} {i : Nat} (h : 64 ≤ i) : lbit x i = false := BitVec.getLsbD_of_ge _ _ h
theorem lb_or (x y : Int64) (i : Nat) : lbit (x ||| y) i = (lbit x i || lbit y i) := by unfold lbit; rw [Int64.toBitVec_or, BitVec.getLsbD_or]
theorem lb_and (x y : Int64) (i : Nat) : lbit (x &&& y) i = (lbit x i && lbit y i) := by unfold lbit; rw [Int64.toBitVec_and, BitVec.getLsbD_and]
theorem lb_shl (n : Nat) (hn : n < 64) (x : Int64) {i : Nat} (hi : i < 64) : lbit (x <<< ((nI n).toInt64 &&& 63)) i = (decide (n ≤ i) && lbit x (i - n)) := by
  unfold lbit
  rw [Int64.toBitVec_shiftLeft, wb_c n hn]
  show (x.toBitVec <<< ((BitVec.ofNat 64 n).smod 64).toNat).getLsbD i = _
  rw [wb_sm n hn, BitVec.toNat_ofNat, Nat.mod_eq_of_lt (by omega), BitVec.getLsbD_shiftLeft]
  rcases Nat.lt_or_ge i n with h | h
  · simp [h, Nat.not_le.mpr h]
  · simp [hi, h, Nat.not_lt.mpr h]
theorem lb_ushr (n : Nat) (hn : n < 64) (x : Int64) (i : Nat) : lbit ((x.toUInt64 >>> ((nI n).toInt64.toUInt64 &&& Int64.toUInt64 63)).toInt64) i = lbit x (n + i) := by
  rw [wb_cu n hn]
  have e : (x.toUInt64 >>> UInt64.ofNat n).toInt64.toBitVec = x.toBitVec >>> n := by
    apply BitVec.eq_of_toNat_eq
    show (x.toUInt64 >>> UInt64.ofNat n).toNat = _
    rw [UInt64.toNat_shiftRight, show (UInt64.ofNat n).toNat = n from Nat.mod_eq_of_lt (by omega), Nat.mod_eq_of_lt hn, BitVec.toNat_ushiftRight]
    rfl
  unfold lbit
  rw [e, BitVec.getLsbD_ushiftRight]
theorem lb_i2l (c : Int32) {i : Nat} (hi : i < 64) : lbit (Int32.toInt64 c) i = if i < 32 then bt c i else bt c 31 := by
  unfold lbit bt
  show (c.toBitVec.signExtend 64).getLsbD i = _
  rw [BitVec.getLsbD_signExtend, BitVec.msb_eq_getLsbD_last]
  simp [hi]
theorem lb_lN (n : Nat) {i : Nat} (hi : i < 64) : lbit (lN n) i = n.testBit i := by
  show (BitVec.ofNat 64 n).getLsbD i = _
  rw [BitVec.getLsbD_ofNat]
  simp [hi]
theorem lb_low {i : Nat} (hi : i < 64) : lbit (4294967295 : Int64) i = decide (i < 32) := by
  rw [show (4294967295 : Int64) = lN (2 ^ 32 - 1) from rfl, lb_lN _ hi, Nat.testBit_two_pow_sub_one]
def rdc (f : Nat → Int32) (k : Nat) : Int32 := if k < 4096 then f k else 0
theorem rd_nI (f : Nat → Int32) {k : Nat} (hk : k < 2 ^ 31) : m_X2_read f (nI k) = some (rdc f k) := by
  rw [m_X2_read, if_neg (nI_pos hk)]
  unfold rdc
  by_cases h : k < 4096
  · rw [if_pos h, if_neg (show ¬ (4096 : Int32) ≤ nI k from nI_ge (b := 4096) h (by omega)), ckb_in _ h (by omega), nI_clamp hk]
    rfl
  · rw [if_neg h, if_pos (show (4096 : Int32) ≤ nI k from nI_le (a := 4096) (by omega) hk)]
    rfl
/-- the t-th bit of the stream that begins at cell o -/
def sb (f : Nat → Int32) (o t : Nat) : Bool := bt (rdc f (o + t / 32)) (31 - t % 32)
theorem readBits_b (f : Nat → Int32) {pl pos n : Nat} (hpl : pl < 5000) (hpos : pos < 100000) (h1 : 1 ≤ n) (h2 : n ≤ 32) : ∃ x : Int64, m_X8_readBits f (nI pl) (nI pos) (nI n) = some (x, nI (pos + n)) ∧ ∀ i, i < 64 → lbit x i = (decide (i < n) && sb f (pl + 2) (pos + n - 1 - i)) := by
  have e1 : nI pos / (32 : Int32) = nI (pos / 32) := pk_div (d := 32) (by omega) (by omega) (by omega)
  have e2 : nI pos - nI pos / (32 : Int32) * (32 : Int32) = nI (pos % 32) := pk_rem (d := 32) (by omega) (by omega) (by omega)
  have e3 : nI pl + (2 : Int32) + nI (pos / 32) = nI (pl + 2 + pos / 32) := by rw [show (2 : Int32) = nI 2 from rfl, nI_add, nI_add]
  have e4 : nI (pl + 2 + pos / 32) + (1 : Int32) = nI (pl + 2 + pos / 32 + 1) := nI_1 _
  have e5 : (64 : Int32) - nI n = nI (64 - n) := pk_sub (a := 64) (by omega)
  rw [m_X8_readBits, e2, e1, e3, e4, rd_nI f (by omega), rd_nI f (by omega), e5, nI_add]
  refine ⟨_, rfl, fun i hi => ?_⟩
  rw [lb_ushr (64 - n) (by omega)]
  by_cases hin : i < n
  · rw [lb_shl (pos % 32) (by omega) _ (by omega), lb_or, show (32 : Int32) = nI 32 from rfl, lb_and, lb_low (by omega), lb_i2l _ (by omega)]
    have hd : pos % 32 ≤ 64 - n + i := by omega
    rw [decide_eq_true hd, decide_eq_true hin, Bool.true_and, Bool.true_and]
    rw [lb_shl 32 (by omega) _ (by omega)]
    unfold sb
    by_cases hc : 32 ≤ 64 - n + i - pos % 32
    · rw [decide_eq_true hc, decide_eq_false (by omega), Bool.true_and, Bool.and_false, Bool.or_false, lb_i2l _ (by omega), if_pos (by omega)]
      rw [show (pos + n - 1 - i) / 32 = pos / 32 by omega]
      congr 1
      omega
    · rw [decide_eq_false hc, decide_eq_true (by omega), Bool.false_and, Bool.false_or, Bool.and_true, if_pos (by omega)]
      rw [show pl + 2 + (pos + n - 1 - i) / 32 = pl + 2 + pos / 32 + 1 by omega]
      congr 1
      omega
  · rw [decide_eq_false hin, Bool.false_and]
    exact lb_big (by omega)
/-- the stream has these bits at this place -/
def sat (f : Nat → Int32) (o pos : Nat) (bs : List Bool) : Prop := ∀ k, k < bs.length → sb f o (pos + k) = bs.getD k false
theorem sat_app {f : Nat → Int32} {o pos : Nat} {a b : List Bool} (h : sat f o pos (a ++ b)) : sat f o pos a ∧ sat f o (pos + a.length) b := by
  refine ⟨fun k hk => ?_, fun k hk => ?_⟩
  · rw [h k (by simp; omega)]
    simp only [List.getD_eq_getElem?_getD]
    rw [List.getElem?_append_left hk]
  · rw [Nat.add_assoc, h (a.length + k) (by simp; omega)]
    simp only [List.getD_eq_getElem?_getD]
    rw [List.getElem?_append_right (by omega), show a.length + k - a.length = k by omega]
theorem lbs_get : ∀ (n : Nat) (v : Int64) (k : Nat), k < n → (lbs n v).getD k false = lbit v (n - 1 - k) := by
  intro n
  induction n with
  | zero => intro v k hk; omega
  | succ n ih =>
    intro v k hk
    cases k with
    | zero => simp [lbs]
    | succ k =>
      have := ih v k (by omega)
      simp only [lbs, List.getD_eq_getElem?_getD, List.getElem?_cons_succ] at this ⊢
      rw [this]
      congr 1
      omega
theorem hold_sat {f : Nat → Int32} {o : Nat} {bs : List Bool} (h : hold f o bs) (hin : o + (bs.length + 31) / 32 ≤ 4096) : sat f o 0 bs := by
  intro k hk
  unfold sb rdc
  rw [Nat.zero_add, if_pos (by omega), h (k / 32) (by omega) (k % 32) (by omega), show 32 * (k / 32) + k % 32 = k by omega]
theorem lb_small {v : Int64} {n : Nat} (h : v.toBitVec.toNat < 2 ^ n) {i : Nat} (hi : n ≤ i) : lbit v i = false := by
  show v.toBitVec.getLsbD i = false
  rw [← BitVec.testBit_toNat]
  exact Nat.testBit_lt_two_pow (Nat.lt_of_lt_of_le h (Nat.pow_le_pow_right (by decide) hi))
theorem readBits_s {f : Nat → Int32} {pl pos n : Nat} {v : Int64} (hpl : pl < 5000) (hpos : pos < 100000) (h1 : 1 ≤ n) (h2 : n ≤ 32) (hs : sat f (pl + 2) pos (lbs n v)) (hv : v.toBitVec.toNat < 2 ^ n) : m_X8_readBits f (nI pl) (nI pos) (nI n) = some (v, nI (pos + n)) := by
  obtain ⟨x, e, hx⟩ := readBits_b f hpl hpos h1 h2
  rw [e]
  congr 2
  apply lb_ext
  intro i hi
  rw [hx i hi]
  by_cases hin : i < n
  · rw [decide_eq_true hin, Bool.true_and, show pos + n - 1 - i = pos + (n - 1 - i) by omega, hs _ (by rw [lbs_len]; omega), lbs_get n v _ (by omega)]
    congr 1
    omega
  · rw [decide_eq_false hin, Bool.false_and, lb_small hv (by omega)]
