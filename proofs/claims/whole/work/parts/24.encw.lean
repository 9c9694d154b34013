/-! both writers write encS, encV, encR -/
def nibs0 : Nat → Nat → List Bool
  | 0, _ => []
  | k + 1, z => if z = 0 then [] else lbs 1 1 ++ (lbs 4 (lN z) ++ nibs0 k (z / 16))
theorem nibs_0 : ∀ (k z : Nat), nibs k z = nibs0 k z ++ lbs 1 0 := by
  intro k
  induction k with
  | zero => intro z; simp [nibs, nibs0]
  | succ k ih =>
    intro z
    unfold nibs nibs0
    split
    · simp
    · rw [ih]; simp
theorem nibs0_len (k z : Nat) : (nibs0 k z).length ≤ 5 * k := by
  have h := nibs_len k z
  rw [nibs_0, List.length_append, lbs_len] at h
  omega
theorem nI_z {x : Nat} (h : x < 2 ^ 32) : nI x = 0 ↔ x = 0 := by
  constructor
  · intro q
    have a := pk_tn h
    rw [q] at a
    exact a.symm
  · rintro rfl; rfl
theorem bt_nI (x i : Nat) (hi : i < 32) : bt (nI x) i = x.testBit i := by
  show (BitVec.ofNat 32 x).getLsbD i = _
  rw [BitVec.getLsbD_ofNat]
  simp [hi]
theorem lbs_congr {v w : Int64} : ∀ (n : Nat), (∀ i, i < n → lbit v i = lbit w i) → lbs n v = lbs n w := by
  intro n
  induction n with
  | zero => intro _; rfl
  | succ n ih =>
    intro h
    unfold lbs
    rw [h n (by omega), ih (fun i hi => h i (by omega))]
theorem lbs4_i (x : Nat) : lbs 4 (Int32.toInt64 (nI x)) = lbs 4 (lN x) := by
  apply lbs_congr
  intro i hi
  rw [lb_i2l _ (by omega), if_pos (by omega), bt_nI _ _ (by omega), lb_lN _ (by omega)]
theorem ushr_nI {z j : Nat} (hz : z < 2 ^ 32) (hj : j < 32) : ((nI z).toUInt32 >>> ((nI j).toUInt32 &&& Int32.toUInt32 31)).toInt32 = nI (z / 2 ^ j) := pk_ushrN hz (nI j) j (s_u j hj)
theorem packDiff_loop {off : Nat} {base : Nat → Int32} {z : Nat} (hz : z < 2 ^ 32) : ∀ (k n j : Nat) (bs : List Bool) (used bf full : Int32) (cells : Nat → Int32), k + j = 8 → k < n → bs.length + 5 * k ≤ 6000 → PkS off bs base used bf full cells →
    ∃ (u' b' f' : Int32) (c' : Nat → Int32), lp_X5_packDifference_19 (nI z) n (nI (4 * j)) used bf full cells = some (u', b', f', c') ∧ PkS off (bs ++ nibs0 k (z / 2 ^ (4 * j))) base u' b' f' c' := by
  intro k
  induction k with
  | zero =>
    intro n j bs used bf full cells hj hn hl h
    obtain ⟨m, rfl⟩ : ∃ m, n = m + 1 := ⟨n - 1, by omega⟩
    have : j = 8 := by omega
    subst this
    refine ⟨used, bf, full, cells, ?_, by simpa [nibs0] using h⟩
    rw [lp_X5_packDifference_19, if_pos (by decide)]
  | succ k ih =>
    intro n j bs used bf full cells hj hn hl h
    obtain ⟨m, rfl⟩ : ∃ m, n = m + 1 := ⟨n - 1, by omega⟩
    have hlt : z / 2 ^ (4 * j) < 2 ^ 32 := Nat.lt_of_le_of_lt (Nat.div_le_self _ _) hz
    rw [lp_X5_packDifference_19, if_neg (show ¬ (32 : Int32) ≤ nI (4 * j) from nI_ge (b := 32) (by omega) (by omega)), ushr_nI hz (by omega)]
    unfold nibs0
    by_cases h0 : z / 2 ^ (4 * j) = 0
    · rw [if_pos ((nI_z hlt).mpr h0), if_pos h0]
      exact ⟨used, bf, full, cells, rfl, by simpa using h⟩
    · rw [if_neg (fun q => h0 ((nI_z hlt).mp q)), if_neg h0]
      obtain ⟨u1, b1, f1, c1, e1, h1⟩ := addBits_S h 1 1 (by omega) (by omega)
      obtain ⟨u2, b2, f2, c2, e2, h2⟩ := addBits_S h1 (Int32.toInt64 (nI (z / 2 ^ (4 * j)))) 4 (by omega) (by rw [List.length_append, lbs_len]; omega)
      rw [show (1 : Int32) = nI 1 from rfl, e1]
      show ∃ u' b' f' c', ob4 (m_X5_addBits u1 b1 f1 c1 (Int32.toInt64 (nI (z / 2 ^ (4 * j)))) (nI 4)) _ = _ ∧ _
      rw [e2]
      show ∃ u' b' f' c', lp_X5_packDifference_19 (nI z) m (nI (4 * j) + nI 4) u2 b2 f2 c2 = _ ∧ _
      rw [nI_add, show 4 * j + 4 = 4 * (j + 1) by omega]
      obtain ⟨u3, b3, f3, c3, e3, h3⟩ := ih m (j + 1) _ u2 b2 f2 c2 (by omega) (by omega) (by simp only [List.length_append, lbs_len]; omega) h2
      refine ⟨u3, b3, f3, c3, e3, ?_⟩
      rw [lbs4_i, show z / 2 ^ (4 * (j + 1)) = z / 2 ^ (4 * j) / 16 by rw [Nat.div_div_eq_div_mul, show 4 * (j + 1) = 4 * j + 4 by omega, Nat.pow_add]] at h3
      rw [List.append_assoc, List.append_assoc] at h3
      exact h3
theorem packDiff_S {off : Nat} {bs : List Bool} {base : Nat → Int32} {used bf full : Int32} {cells : Nat → Int32} (h : PkS off bs base used bf full cells) (d : Int32) (hl : bs.length + 41 ≤ 6000) :
    ∃ (u' b' f' : Int32) (c' : Nat → Int32), m_X5_packDifference used bf full cells d = some (u', b', f', c') ∧ PkS off (bs ++ encV d) base u' b' f' c' := by
  rw [m_X5_packDifference]
  have e0 : (if 0 ≤ d then some ((2 : Int32) * d) else some ((-2 : Int32) * d - (1 : Int32))) = some (nI (zig d)) := by
    have e : nI (zig d) = if 0 ≤ d then (2 : Int32) * d else (-2 : Int32) * d - 1 := by
      apply Int32.toBitVec_inj.mp
      show BitVec.ofNat 32 (zig d) = _
      unfold zig
      simp
    rw [e]
    split <;> rfl
  rw [e0]
  show ∃ u' b' f' c', ob4 (lp_X5_packDifference_19 (nI (zig d)) NN (0 : Int32) used bf full cells) _ = _ ∧ _
  obtain ⟨u1, b1, f1, c1, e1, h1⟩ := packDiff_loop (zig_lt d) 8 NN 0 bs used bf full cells rfl (by unfold NN; omega) (by omega) h
  have hn := nibs0_len 8 (zig d)
  rw [show (0 : Int32) = nI (4 * 0) from rfl, e1]
  rw [show zig d / 2 ^ (4 * 0) = zig d by simp] at h1
  obtain ⟨u2, b2, f2, c2, e2, h2⟩ := addBits_S h1 0 1 (by omega) (by rw [List.length_append]; omega)
  show ∃ u' b' f' c', ob4 (m_X5_addBits u1 b1 f1 c1 (0 : Int64) (nI 1)) _ = _ ∧ _
  rw [e2]
  refine ⟨u2, b2, f2, c2, rfl, ?_⟩
  unfold encV
  rw [nibs_0, ← List.append_assoc]
  exact h2
/-! the reference -/
def RfS (bs : List Bool) (base : Nat → Int32) (bits : Int32) (made : Nat → Int32) : Prop := bits = nI bs.length ∧ hold made 2 bs ∧ ∀ j, j < 2 → made j = base j
theorem put_S {bs : List Bool} {base : Nat → Int32} {bits : Int32} {made : Nat → Int32} (h : RfS bs base bits made) (v : Int64) (n : Nat) (hn : n ≤ 64) (hl : bs.length + n ≤ 6000) :
    ∃ (b' : Int32) (m' : Nat → Int32), m_X10_put bits made v (nI n) = some (b', m') ∧ RfS (bs ++ lbs n v) base b' m' := by
  obtain ⟨rfl, h1, h2⟩ := h
  obtain ⟨a', e, h3, h4⟩ := put_spec v n bs made hn hl h1
  exact ⟨_, a', e, by rw [List.length_append, lbs_len], h3, fun j hj => by rw [h4 j hj, h2 j hj]⟩
theorem put2_S {bs : List Bool} {base : Nat → Int32} {bits : Int32} {made : Nat → Int32} (h : RfS bs base bits made) (v w : Int64) (n m : Nat) (hn : n ≤ 64) (hm : m ≤ 64) (hl : bs.length + n + m ≤ 6000) :
    ∃ (b' : Int32) (m' : Nat → Int32), (ob2 (m_X10_put bits made v (nI n)) fun b a => ob2 (m_X10_put b a w (nI m)) fun b a => some (b, a)) = some (b', m') ∧ RfS (bs ++ (lbs n v ++ lbs m w)) base b' m' := by
  obtain ⟨b1, c1, e1, h1⟩ := put_S h v n hn (by omega)
  obtain ⟨b2, c2, e2, h2⟩ := put_S h1 w m hm (by rw [List.length_append, lbs_len]; omega)
  refine ⟨b2, c2, ?_, by rw [← List.append_assoc]; exact h2⟩
  rw [e1]
  show ob2 (m_X10_put b1 c1 w (nI m)) _ = _
  rw [e2]
  rfl
theorem add_toInt {E c : Int64} (h1 : -9223372036854775808 ≤ E.toInt + c.toInt) (h2 : E.toInt + c.toInt < 9223372036854775808) : (E + c).toInt = E.toInt + c.toInt := by
  rw [Int64.toInt_add]
  exact Int.bmod_eq_of_le (by omega) (by omega)
theorem putStep_S {bs : List Bool} {base : Nat → Int32} {bits : Int32} {made : Nat → Int32} (h : RfS bs base bits made) (E : Int64) (hE1 : -17179869184 ≤ E.toInt) (hE2 : E.toInt ≤ 17179869184) (hl : bs.length + 38 ≤ 6000) :
    ∃ (b' : Int32) (m' : Nat → Int32), m_X10_putStep bits made E = some (b', m') ∧ RfS (bs ++ encS E) base b' m' := by
  have a0 := put_S h 0 1 (by omega) (by omega)
  have a1 := put2_S h 2 (E + 64) 2 7 (by omega) (by omega) (by omega)
  have a2 := put2_S h 6 (E + 256) 3 9 (by omega) (by omega) (by omega)
  have a3 := put2_S h 14 (E + 2048) 4 12 (by omega) (by omega) (by omega)
  have a4 := put2_S h 15 (E + 8589934592) 4 34 (by omega) (by omega) (by omega)
  have t1 : (E + 64).toInt = E.toInt + 64 := add_toInt (c := 64) (by show _ ≤ _ + (64 : Int); omega) (by show _ + (64 : Int) < _; omega)
  have t2 : (E + 256).toInt = E.toInt + 256 := add_toInt (c := 256) (by show _ ≤ _ + (256 : Int); omega) (by show _ + (256 : Int) < _; omega)
  have t3 : (E + 2048).toInt = E.toInt + 2048 := add_toInt (c := 2048) (by show _ ≤ _ + (2048 : Int); omega) (by show _ + (2048 : Int) < _; omega)
  rw [m_X10_putStep]
  simp only [lt_c, gt_c, eq_c, t1, t2, t3, show (0 : Int64).toInt = 0 from rfl, show (127 : Int64).toInt = 127 from rfl, show (511 : Int64).toInt = 511 from rfl, show (4095 : Int64).toInt = 4095 from rfl]
  have fin : ∀ {x : Option (Int32 × (Nat → Int32))} {b2 : List Bool}, encS E = b2 → (∃ (b' : Int32) (c' : Nat → Int32), x = some (b', c') ∧ RfS (bs ++ b2) base b' c') → ∃ (b' : Int32) (c' : Nat → Int32), (ob2 x fun b c => some (b, c)) = some (b', c') ∧ RfS (bs ++ encS E) base b' c' := by
    intro x b2 hb hx
    obtain ⟨b', c', rfl, hS⟩ := hx
    exact ⟨b', c', rfl, by rw [hb]; exact hS⟩
  by_cases c0 : E.toInt = 0
  · rw [if_pos c0]
    refine fin (show encS E = lbs 1 0 by unfold encS; rw [if_pos c0]) ?_
    obtain ⟨b', c', e, hS⟩ := a0
    exact ⟨b', c', by rw [show (1 : Int32) = nI 1 from rfl, e]; rfl, hS⟩
  · rw [if_neg c0]
    have k1 : -64 ≤ E.toInt → E.toInt < 64 → encS E = lbs 2 2 ++ lbs 7 (E + 64) := fun q2 q3 => by unfold encS; rw [if_neg c0, if_pos (by omega)]
    have k2 : (E.toInt < -64 ∨ 64 ≤ E.toInt) → -256 ≤ E.toInt → E.toInt < 256 → encS E = lbs 3 6 ++ lbs 9 (E + 256) := fun q1 q2 q3 => by unfold encS; rw [if_neg (by omega), if_neg (by omega), if_pos (by omega)]
    have k3 : (E.toInt < -256 ∨ 256 ≤ E.toInt) → -2048 ≤ E.toInt → E.toInt < 2048 → encS E = lbs 4 14 ++ lbs 12 (E + 2048) := fun q1 q2 q3 => by unfold encS; rw [if_neg (by omega), if_neg (by omega), if_neg (by omega), if_pos (by omega)]
    have k4 : (E.toInt < -2048 ∨ 2048 ≤ E.toInt) → encS E = lbs 4 15 ++ lbs 34 (E + 8589934592) := fun q1 => by unfold encS; rw [if_neg (by omega), if_neg (by omega), if_neg (by omega), if_neg (by omega)]
    by_cases c1 : E.toInt + 64 < 0
    · rw [if_pos c1]
      by_cases c2 : E.toInt + 256 < 0
      · rw [if_pos c2]
        by_cases c3 : E.toInt + 2048 < 0
        · rw [if_pos c3]; exact fin (k4 (by omega)) a4
        · rw [if_neg c3, if_neg (by omega : ¬ (4095 : Int) < E.toInt + 2048)]; exact fin (k3 (by omega) (by omega) (by omega)) a3
      · rw [if_neg c2, if_neg (by omega : ¬ (511 : Int) < E.toInt + 256)]; exact fin (k2 (by omega) (by omega) (by omega)) a2
    · rw [if_neg c1]
      by_cases d1 : 127 < E.toInt + 64
      · rw [if_pos d1, if_neg (by omega : ¬ E.toInt + 256 < 0)]
        by_cases d2 : 511 < E.toInt + 256
        · rw [if_pos d2, if_neg (by omega : ¬ E.toInt + 2048 < 0)]
          by_cases d3 : 4095 < E.toInt + 2048
          · rw [if_pos d3]; exact fin (k4 (by omega)) a4
          · rw [if_neg d3]; exact fin (k3 (by omega) (by omega) (by omega)) a3
        · rw [if_neg d2]; exact fin (k2 (by omega) (by omega) (by omega)) a2
      · rw [if_neg d1]; exact fin (k1 (by omega) (by omega)) a1
