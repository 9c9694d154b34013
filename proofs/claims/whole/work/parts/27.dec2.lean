/-! the class reads encV back, and a chunk's points one by one -/
theorem nibs_unf (k z : Nat) (h0 : z ≠ 0) : nibs (k + 1) z = lbs 1 1 ++ (lbs 4 (lN (z % 16)) ++ nibs k (z / 16)) := by
  have e : lbs 4 (lN z) = lbs 4 (lN (z % 16)) := lbs_congr 4 (fun i hi => by rw [lb_lN _ (by omega), lb_lN _ (by omega), show (16 : Nat) = 2 ^ 4 from rfl, Nat.testBit_mod_two_pow, decide_eq_true hi, Bool.true_and])
  show (if z = 0 then lbs 1 0 else lbs 1 1 ++ (lbs 4 (lN z) ++ nibs k (z / 16))) = _
  rw [if_neg h0, e]
theorem nibs_z (k : Nat) : nibs k 0 = lbs 1 0 := by
  cases k with
  | zero => rfl
  | succ k => rfl
theorem or_nib {acc d j : Nat} (hj : j < 8) (ha : acc < 16 ^ j) (hd : d < 16) : nI acc ||| (nI d <<< (nI (4 * j) &&& 31)) = nI (acc + d * 16 ^ j) := by
  apply b_ext
  intro i hi
  rw [b_or, b_shl (4 * j) (by omega) _ hi, bt_nI _ _ hi, bt_nI _ _ hi, show (16 : Nat) ^ j = 2 ^ (4 * j) by rw [show (16 : Nat) = 2 ^ 4 from rfl, ← Nat.pow_mul]] at *
  rw [show acc + d * 2 ^ (4 * j) = 2 ^ (4 * j) * d + acc by rw [Nat.mul_comm, Nat.add_comm], Nat.testBit_two_pow_mul_add _ ha]
  by_cases h : i < 4 * j
  · rw [if_pos h, decide_eq_false (by omega), Bool.false_and, Bool.or_false]
  · rw [if_neg h, decide_eq_true (by omega), Bool.true_and, bt_nI _ _ (by omega)]
    have : acc.testBit i = false := Nat.testBit_lt_two_pow (Nat.lt_of_lt_of_le ha (Nat.pow_le_pow_right (n := 2) (by decide) (show 4 * j ≤ i by omega)))
    rw [this, Bool.false_or]
theorem rd_loop {f : Nat → Int32} {pl : Nat} (hpl : pl < 5000) : ∀ (k j n pos y acc : Nat), k + j = 8 → k + 1 < n → pos + 5 * k + 1 < 100000 → y < 16 ^ k → acc < 16 ^ j → sat f (pl + 2) pos (nibs k y) → lp_X8_readDifference_4 f (nI pl) n (nI acc) (nI (4 * j)) (nI pos) = some (nI (acc + y * 16 ^ j), nI (pos + (nibs k y).length)) := by
  intro k
  induction k with
  | zero =>
    intro j n pos y acc hj hn hp hy ha h
    obtain ⟨m, rfl⟩ : ∃ m, n = m + 1 := ⟨n - 1, by omega⟩
    have : y = 0 := by simpa using hy
    subst this
    rw [lp_X8_readDifference_4, rb1 (b := false) hpl (by omega) h, ob2_mk, if_neg (by decide)]
    simp [nibs, lbs_len]
  | succ k ih =>
    intro j n pos y acc hj hn hp hy ha h
    obtain ⟨m, rfl⟩ : ∃ m, n = m + 1 := ⟨n - 1, by omega⟩
    by_cases h0 : y = 0
    · subst h0
      rw [nibs_z] at h ⊢
      rw [lp_X8_readDifference_4, rb1 (b := false) hpl (by omega) h, ob2_mk, if_neg (by decide)]
      simp [lbs_len]
    · rw [nibs_unf k y h0] at h ⊢
      obtain ⟨h1, h2⟩ := sat_app h
      obtain ⟨h3, h4⟩ := sat_app h2
      rw [lbs_len] at h3 h4
      rw [lbs_len] at h4
      rw [lp_X8_readDifference_4, rb1 (b := true) hpl (by omega) h1, ob2_mk, if_pos (by decide), if_neg (show ¬ (32 : Int32) ≤ nI (4 * j) from nI_ge (b := 32) (by omega) (by omega)), show (4 : Int32) = nI 4 from rfl, readBits_s (v := lN (y % 16)) hpl (by omega) (by omega) (by omega) h3 (by rw [wb_tn (by omega)]; omega), ob2_mk, lN_i, or_nib (by omega) ha (by omega), nI_add, show 4 * j + 4 = 4 * (j + 1) by omega]
      have hpw : 16 ^ (j + 1) = 16 * 16 ^ j := by rw [Nat.pow_succ, Nat.mul_comm]
      rw [ih (j + 1) m (pos + 1 + 4) (y / 16) (acc + y % 16 * 16 ^ j) (by omega) (by omega) (by omega) (by rw [Nat.pow_succ] at hy; omega) (by
        rw [hpw]
        have : y % 16 * 16 ^ j ≤ 15 * 16 ^ j := Nat.mul_le_mul_right _ (by omega)
        omega) h4]
      congr 2
      · congr 1
        rw [hpw]
        have : y = 16 * (y / 16) + y % 16 := (Nat.div_add_mod y 16).symm
        calc acc + y % 16 * 16 ^ j + y / 16 * (16 * 16 ^ j) = acc + (16 * (y / 16) + y % 16) * 16 ^ j := by
              rw [Nat.add_mul, Nat.mul_comm 16 (y / 16), Nat.mul_assoc]; omega
          _ = acc + y * 16 ^ j := by rw [← this]
      · congr 1
        simp only [List.length_append, lbs_len]
        omega
theorem i32_of (d : Int32) : (0 ≤ d.toInt ∧ ∃ m, m < 2 ^ 31 ∧ d = nI m) ∨ (d.toInt < 0 ∧ ∃ m, m < 2 ^ 31 ∧ d = -nI (m + 1)) := by
  by_cases h : 0 ≤ d.toInt
  · refine Or.inl ⟨h, d.toInt.toNat, ?_, ?_⟩
    · have := i32_hi d; omega
    · apply Int32.toInt_inj.mp
      rw [nI_toInt (by have := i32_hi d; omega)]
      omega
  · refine Or.inr ⟨by omega, (-d.toInt - 1).toNat, ?_, ?_⟩
    · have := i32_lo d; omega
    · have h1 := i32_lo d
      apply Int32.toInt_inj.mp
      rw [Int32.toInt_neg]
      by_cases h2 : (-d.toInt - 1).toNat + 1 < 2 ^ 31
      · rw [nI_toInt h2]
        rw [Int.bmod_eq_of_le (by omega) (by omega)]
        omega
      · have h3 : d.toInt = -2147483648 := by omega
        rw [h3]
        decide
theorem zig_nn {m : Nat} (h : m < 2 ^ 31) : zig (nI m) = 2 * m := by
  unfold zig
  rw [if_pos (nI_pos' h), show (2 : Int32) = nI 2 from rfl, pk_mul, pk_tn (by omega)]
theorem neg_lt0 {m : Nat} (h : m < 2 ^ 31) : ¬ 0 ≤ -nI (m + 1) := by
  rw [Int32.le_iff_toInt_le, Int32.toInt_neg]
  by_cases h2 : m + 1 < 2 ^ 31
  · rw [nI_toInt h2, Int.bmod_eq_of_le (by omega) (by omega)]
    show ¬ (0 : Int) ≤ _
    omega
  · have : m = 2147483647 := by omega
    subst this
    decide
theorem zig_neg {m : Nat} (h : m < 2 ^ 31) : zig (-nI (m + 1)) = 2 * m + 1 := by
  unfold zig
  rw [if_neg (neg_lt0 h), Int32.neg_mul, Int32.mul_neg, Int32.neg_neg, show (2 : Int32) = nI 2 from rfl, pk_mul, show (1 : Int32) = nI 1 from rfl, pk_sub (by omega), show 2 * (m + 1) - 1 = 2 * m + 1 by omega, pk_tn (by omega)]
theorem unzig (d : Int32) : (if nI (zig d) &&& (1 : Int32) = 0 then some ((nI (zig d)).toUInt32 >>> (Int32.toUInt32 (1 : Int32) &&& Int32.toUInt32 31)).toInt32 else some (-((nI (zig d)).toUInt32 >>> (Int32.toUInt32 (1 : Int32) &&& Int32.toUInt32 31)).toInt32 - (1 : Int32))) = some d := by
  have hz := zig_lt d
  have e1 : ((nI (zig d)).toUInt32 >>> (Int32.toUInt32 (1 : Int32) &&& Int32.toUInt32 31)).toInt32 = nI (zig d / 2) := by
    have := ushr_nI (z := zig d) (j := 1) hz (by omega)
    rw [show (2 : Nat) ^ 1 = 2 from rfl] at this
    exact this
  rw [e1, pk_andN (k := 1) hz (m := 1) (by decide)]
  rcases i32_of d with ⟨-, m, hm, rfl⟩ | ⟨-, m, hm, rfl⟩
  · rw [zig_nn hm, if_pos (by rw [show 2 * m % 2 ^ 1 = 0 by omega]; rfl), show 2 * m / 2 = m by omega]
  · rw [zig_neg hm, if_neg (by rw [show (2 * m + 1) % 2 ^ 1 = 1 by omega]; decide), show (2 * m + 1) / 2 = m by omega]
    congr 1
    rw [show nI (m + 1) = nI m + 1 from nI_succ m, Int32.neg_add, Int32.sub_eq_add_neg]
theorem readDiff_s {f : Nat → Int32} {pl pos : Nat} {d : Int32} (hpl : pl < 5000) (hpos : pos + 50 < 100000) (hs : sat f (pl + 2) pos (encV d)) : m_X8_readDifference f (nI pl) (nI pos) = some (d, nI (pos + (encV d).length)) := by
  have hz := zig_lt d
  have e := rd_loop hpl 8 0 NN pos (zig d) 0 rfl (by unfold NN; omega) (by omega) (by show zig d < 16 ^ 8; omega) (by decide) hs
  rw [m_X8_readDifference]
  have e' : lp_X8_readDifference_4 f (nI pl) NN (0 : Int32) (0 : Int32) (nI pos) = some (nI (zig d), nI (pos + (encV d).length)) := by
    rw [show 0 + zig d * 16 ^ 0 = zig d by simp] at e
    exact e
  rw [e', ob2_mk, unzig, ob1_mk]
def rOk (r : Int64) : Prop := -4294967295 ≤ r.toInt ∧ r.toInt ≤ 4294967295
theorem rOk_dif (a b : Int32) : rOk (a.toInt64 - b.toInt64) := by
  unfold rOk
  rw [dif_toInt]
  have h1 := i32_lo a
  have h2 := i32_hi a
  have h3 := i32_lo b
  have h4 := i32_hi b
  omega
theorem step_time (a b : Int32) (r : Int64) : Int64.toInt32 (b.toInt64 + (r + ((a.toInt64 - b.toInt64) - r))) = a := by
  rw [show r + ((a.toInt64 - b.toInt64) - r) = a.toInt64 - b.toInt64 by rw [Int64.add_comm, Int64.sub_add_cancel], Int64.add_comm, Int64.sub_add_cancel, Int32.toInt32_toInt64]
theorem step_more {f : Nat → Int32} {pl pos : Nat} {rise : Int64} {t v : Int32} {q : Pt} {r : List Pt} (hpl : pl < 5000) (hpos : pos + 100 < 100000) (hr : rOk rise) (hs : sat f (pl + 2) pos (encR rise t v (q :: r))) :
    ∃ pos' : Nat, m_X8_step f (nI pl) (nI pos) 1 t v rise = some (nI pos', 1, q.1, q.2, q.1.toInt64 - t.toInt64) ∧ pos' ≤ pos + 79 ∧ sat f (pl + 2) pos' (encR (q.1.toInt64 - t.toInt64) q.1 q.2 r) := by
  obtain ⟨h1, h2⟩ := sat_app hs
  obtain ⟨h3, h4⟩ := sat_app h2
  have hE : ((q.1.toInt64 - t.toInt64) - rise).toInt = (q.1.toInt - t.toInt) - rise.toInt := by
    have hd := dif_toInt q.1 t
    have a1 := i32_lo q.1
    have a2 := i32_hi q.1
    have a3 := i32_lo t
    have a4 := i32_hi t
    obtain ⟨a5, a6⟩ := hr
    rw [sub_toInt (by omega) (by omega), hd]
  have a1 := i32_lo q.1
  have a2 := i32_hi q.1
  have a3 := i32_lo t
  have a4 := i32_hi t
  obtain ⟨a5, a6⟩ := id hr
  have l1 := encS_len ((q.1.toInt64 - t.toInt64) - rise)
  have l2 := encV_len (q.2 - v)
  refine ⟨pos + (encS ((q.1.toInt64 - t.toInt64) - rise)).length + (encV (q.2 - v)).length, ?_, by omega, h4⟩
  rw [m_X8_step, if_neg (by decide), readChange_s hpl (by omega) (by omega) (by omega) h1, ob2_mk, readDiff_s hpl (by omega) h3, ob2_mk, step_time]
  congr 1
  rw [show v + (q.2 - v) = q.2 by rw [Int32.add_comm, Int32.sub_add_cancel], show rise + ((q.1.toInt64 - t.toInt64) - rise) = q.1.toInt64 - t.toInt64 by rw [Int64.add_comm, Int64.sub_add_cancel]]
theorem step_first {f : Nat → Int32} {pl : Nat} (hpl : pl < 5000) (br tt vv : Int32) (rr : Int64) : m_X8_step f (nI pl) br 0 tt vv rr = some (br, 1, rdc f pl, rdc f (pl + 1), 0) := by
  rw [m_X8_step, if_pos rfl, rd_nI f (by omega), ob1_mk, nI_1, rd_nI f (by omega), ob1_mk]
