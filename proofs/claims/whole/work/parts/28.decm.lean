/-! the reference reads back too -/
theorem bit1 (c : Int32) {k : Nat} (hk : k < 32) : (c >>> (nI k &&& 31)) &&& (1 : Int32) = nI (bt c k).toNat := by
  apply b_ext
  intro i hi
  rw [b_and, bt_nIb, show (1 : Int32) = nI 1 from rfl, bt_nI1]
  by_cases h : i = 0
  · subst h
    rw [b_sshr k hk _ (by omega), if_pos (by omega)]
    simp
  · rw [decide_eq_false h]
    simp
theorem div_step (V m : Nat) : 2 * (V / 2 ^ (m + 1)) + (V.testBit m).toNat = V / 2 ^ m := by
  rw [Nat.pow_succ, ← Nat.div_div_eq_div_mul]
  have e : (V.testBit m).toNat = V / 2 ^ m % 2 := by
    rw [Nat.testBit, Nat.shiftRight_eq_div_pow]
    rcases Nat.mod_two_eq_zero_or_one (V / 2 ^ m) with h | h <;> simp [h]
  rw [e]
  omega
theorem take_loop {f : Nat → Int32} {o pos n V : Nat} (ho : o < 5000) (hp : pos < 100000) (hn : n ≤ 34) (hV : V < 2 ^ n) (hs : sat f o pos (lbs n (lN V))) (hin : o + (pos + n + 31) / 32 ≤ 4096) : ∀ (r k fu : Nat), r + k = n → r < fu → lp_X10_take_5 (nI o) f (nI n) fu (lN (V / 2 ^ r)) (nI k) (nI (pos + k)) = some (lN V, nI (pos + n)) := by
  intro r
  induction r with
  | zero =>
    intro k fu hk hf
    obtain ⟨m, rfl⟩ : ∃ m, fu = m + 1 := ⟨fu - 1, by omega⟩
    rw [lp_X10_take_5, if_pos (nI_le (by omega) (by omega)), show k = n by omega, show V / 2 ^ 0 = V by simp]
  | succ r ih =>
    intro k fu hk hf
    obtain ⟨m, rfl⟩ : ∃ m, fu = m + 1 := ⟨fu - 1, by omega⟩
    have e1 : nI (pos + k) / (32 : Int32) = nI ((pos + k) / 32) := pk_div (d := 32) (by omega) (by omega) (by omega)
    have e2 : nI (pos + k) - nI (pos + k) / (32 : Int32) * (32 : Int32) = nI ((pos + k) % 32) := pk_rem (d := 32) (by omega) (by omega) (by omega)
    have e4 : (31 : Int32) - nI ((pos + k) % 32) = nI (31 - (pos + k) % 32) := pk_sub (a := 31) (by omega)
    have hlt : o + (pos + k) / 32 < 4096 := by omega
    have hb : sb f o (pos + k) = V.testBit r := by
      rw [hs k (by rw [lbs_len]; omega), lbs_get n _ k (by omega), lb_lN _ (by omega), show n - 1 - k = r by omega]
    have hb2 : bt (f (o + (pos + k) / 32)) (31 - (pos + k) % 32) = V.testBit r := by
      rw [← hb]
      unfold sb rdc
      rw [if_pos hlt]
    rw [lp_X10_take_5, if_neg (nI_ge (by omega) (by omega)), e2, e1, e4, nI_add, ckb_in _ hlt (by omega), nI_clamp (by omega), bit1 _ (by omega), hb2, nI_l (by cases V.testBit r <;> decide), show (2 : Int64) = lN 2 from rfl, lN_mul, lN_add, div_step, nI_1, nI_1]
    exact ih (k + 1) m (by omega) (by omega)
theorem take_s {f : Nat → Int32} {o pos n : Nat} {v : Int64} (ho : o < 5000) (hp : pos < 100000) (hn : n ≤ 34) (hv : v.toBitVec.toNat < 2 ^ n) (hs : sat f o pos (lbs n v)) (hin : o + (pos + n + 31) / 32 ≤ 4096) : m_X10_take (nI pos) (nI o) f (nI n) = some (v, nI (pos + n)) := by
  obtain ⟨V, hV, rfl⟩ := wb_of v
  rw [wb_tn hV] at hv
  have e := take_loop ho hp hn hv hs hin n 0 NN (by omega) (by unfold NN; omega)
  rw [Nat.div_eq_of_lt hv] at e
  have e' : lp_X10_take_5 (nI o) f (nI n) NN (0 : Int64) (0 : Int32) (nI pos) = some (lN V, nI (pos + n)) := e
  rw [m_X10_take, e', ob2_mk]
theorem tk1 {f : Nat → Int32} {o pos : Nat} {b : Bool} (ho : o < 5000) (hpos : pos < 100000) (h : sat f o pos [b]) (hin : o + (pos + 32) / 32 ≤ 4096) : m_X10_take (nI pos) (nI o) f (1 : Int32) = some (lN b.toNat, nI (pos + 1)) := by
  have e : lbs 1 (lN b.toNat) = [b] := by cases b <;> decide
  exact take_s (n := 1) ho hpos (by omega) (by cases b <;> decide) (by rw [e]; exact h) (by omega)
theorem takeStep_s {f : Nat → Int32} {o pos : Nat} {E : Int64} (ho : o < 5000) (hpos : pos + 40 < 100000) (h1 : -8589934592 ≤ E.toInt) (h2 : E.toInt < 8589934592) (hs : sat f o pos (encS E)) (hin : o + (pos + (encS E).length + 31) / 32 ≤ 4096) : m_X10_takeStep (nI pos) (nI o) f = some (E, nI (pos + (encS E).length)) := by
  rw [m_X10_takeStep]
  unfold encS at hs hin ⊢
  by_cases c0 : E.toInt = 0
  · rw [if_pos c0] at hs hin ⊢
    rw [tk1 (b := false) ho (by omega) hs (by rw [lbs_len] at hin; omega), ob2_mk, if_pos (by decide)]
    have : E = 0 := Int64.toInt_inj.mp c0
    subst this
    rfl
  · rw [if_neg c0] at hs hin ⊢
    by_cases c1 : -64 ≤ E.toInt ∧ E.toInt < 64
    · rw [if_pos c1] at hs hin ⊢
      rw [List.length_append, lbs_len, lbs_len] at hin ⊢
      have t1 : (E + 64).toInt = E.toInt + 64 := add_toInt (c := 64) (by show _ ≤ _ + (64 : Int); omega) (by show _ + (64 : Int) < _; omega)
      obtain ⟨q1, q2⟩ := sat_app hs
      have q1 : sat f o pos [true, false] := q1
      have q2 : sat f o (pos + 1 + 1) (lbs 7 (E + 64)) := q2
      obtain ⟨p1, q1⟩ := sat_1 q1
      rw [tk1 (b := true) ho (by omega) p1 (by omega), ob2_mk, if_neg (by decide), tk1 (b := false) ho (by omega) q1 (by omega), ob2_mk, if_pos (by decide), show (7 : Int32) = nI 7 from rfl, take_s ho (by omega) (by omega) (small_of (by omega) (by rw [t1]; show _ < (128 : Int); omega)) q2 (by omega), ob2_mk, add_sub]
    · rw [if_neg c1] at hs hin ⊢
      by_cases c2 : -256 ≤ E.toInt ∧ E.toInt < 256
      · rw [if_pos c2] at hs hin ⊢
        rw [List.length_append, lbs_len, lbs_len] at hin ⊢
        have t1 : (E + 256).toInt = E.toInt + 256 := add_toInt (c := 256) (by show _ ≤ _ + (256 : Int); omega) (by show _ + (256 : Int) < _; omega)
        obtain ⟨q1, q2⟩ := sat_app hs
        have q1 : sat f o pos [true, true, false] := q1
        have q2 : sat f o (pos + 1 + 1 + 1) (lbs 9 (E + 256)) := q2
        obtain ⟨p1, q1⟩ := sat_1 q1
        obtain ⟨p2, q1⟩ := sat_1 q1
        rw [tk1 (b := true) ho (by omega) p1 (by omega), ob2_mk, if_neg (by decide), tk1 (b := true) ho (by omega) p2 (by omega), ob2_mk, if_neg (by decide), tk1 (b := false) ho (by omega) q1 (by omega), ob2_mk, if_pos (by decide), show (9 : Int32) = nI 9 from rfl, take_s ho (by omega) (by omega) (small_of (by omega) (by rw [t1]; show _ < (512 : Int); omega)) q2 (by omega), ob2_mk, add_sub]
      · rw [if_neg c2] at hs hin ⊢
        by_cases c3 : -2048 ≤ E.toInt ∧ E.toInt < 2048
        · rw [if_pos c3] at hs hin ⊢
          rw [List.length_append, lbs_len, lbs_len] at hin ⊢
          have t1 : (E + 2048).toInt = E.toInt + 2048 := add_toInt (c := 2048) (by show _ ≤ _ + (2048 : Int); omega) (by show _ + (2048 : Int) < _; omega)
          obtain ⟨q1, q2⟩ := sat_app hs
          have q1 : sat f o pos [true, true, true, false] := q1
          have q2 : sat f o (pos + 1 + 1 + 1 + 1) (lbs 12 (E + 2048)) := q2
          obtain ⟨p1, q1⟩ := sat_1 q1
          obtain ⟨p2, q1⟩ := sat_1 q1
          obtain ⟨p3, q1⟩ := sat_1 q1
          rw [tk1 (b := true) ho (by omega) p1 (by omega), ob2_mk, if_neg (by decide), tk1 (b := true) ho (by omega) p2 (by omega), ob2_mk, if_neg (by decide), tk1 (b := true) ho (by omega) p3 (by omega), ob2_mk, if_neg (by decide), tk1 (b := false) ho (by omega) q1 (by omega), ob2_mk, if_pos (by decide), show (12 : Int32) = nI 12 from rfl, take_s ho (by omega) (by omega) (small_of (by omega) (by rw [t1]; show _ < (4096 : Int); omega)) q2 (by omega), ob2_mk, ob2_mk, add_sub]
        · rw [if_neg c3] at hs hin ⊢
          rw [List.length_append, lbs_len, lbs_len] at hin ⊢
          have t1 : (E + 8589934592).toInt = E.toInt + 8589934592 := add_toInt (c := 8589934592) (by show _ ≤ _ + (8589934592 : Int); omega) (by show _ + (8589934592 : Int) < _; omega)
          obtain ⟨q1, q2⟩ := sat_app hs
          have q1 : sat f o pos [true, true, true, true] := q1
          have q2 : sat f o (pos + 1 + 1 + 1 + 1) (lbs 34 (E + 8589934592)) := q2
          obtain ⟨p1, q1⟩ := sat_1 q1
          obtain ⟨p2, q1⟩ := sat_1 q1
          obtain ⟨p3, q1⟩ := sat_1 q1
          rw [tk1 (b := true) ho (by omega) p1 (by omega), ob2_mk, if_neg (by decide), tk1 (b := true) ho (by omega) p2 (by omega), ob2_mk, if_neg (by decide), tk1 (b := true) ho (by omega) p3 (by omega), ob2_mk, if_neg (by decide), tk1 (b := true) ho (by omega) q1 (by omega), ob2_mk, if_neg (by decide), show (34 : Int32) = nI 34 from rfl, take_s ho (by omega) (by omega) (small_of (by omega) (by rw [t1]; show _ < (17179869184 : Int); omega)) q2 (by omega), ob2_mk, ob2_mk, add_sub]
theorem or_nibL {acc d j : Nat} (hj : j < 8) (ha : acc < 16 ^ j) (hd : d < 16) : lN acc ||| (lN d <<< ((nI (4 * j)).toInt64 &&& 63)) = lN (acc + d * 16 ^ j) := by
  apply lb_ext
  intro i hi
  rw [lb_or, lb_shl (4 * j) (by omega) _ hi, lb_lN _ hi, lb_lN _ hi, show (16 : Nat) ^ j = 2 ^ (4 * j) by rw [show (16 : Nat) = 2 ^ 4 from rfl, ← Nat.pow_mul]] at *
  rw [show acc + d * 2 ^ (4 * j) = 2 ^ (4 * j) * d + acc by rw [Nat.mul_comm, Nat.add_comm], Nat.testBit_two_pow_mul_add _ ha]
  by_cases h : i < 4 * j
  · rw [if_pos h, decide_eq_false (by omega), Bool.false_and, Bool.or_false]
  · rw [if_neg h, decide_eq_true (by omega), Bool.true_and, lb_lN _ (by omega)]
    have : acc.testBit i = false := Nat.testBit_lt_two_pow (Nat.lt_of_lt_of_le ha (Nat.pow_le_pow_right (n := 2) (by decide) (show 4 * j ≤ i by omega)))
    rw [this, Bool.false_or]
theorem tv_loop {f : Nat → Int32} {o : Nat} (ho : o < 5000) : ∀ (k j n pos y acc : Nat), k + j = 8 → k + 1 < n → pos + 5 * k + 1 < 100000 → y < 16 ^ k → acc < 16 ^ j → sat f o pos (nibs k y) → o + (pos + (nibs k y).length + 31) / 32 ≤ 4096 → lp_X10_takeValue_4 (nI o) f n (lN acc) (nI (4 * j)) (nI pos) = some (lN (acc + y * 16 ^ j), nI (pos + (nibs k y).length)) := by
  intro k
  induction k with
  | zero =>
    intro j n pos y acc hj hn hp hy ha h hin
    obtain ⟨m, rfl⟩ : ∃ m, n = m + 1 := ⟨n - 1, by omega⟩
    have : y = 0 := by simpa using hy
    subst this
    rw [show nibs 0 0 = lbs 1 0 from rfl, lbs_len] at hin
    rw [lp_X10_takeValue_4, tk1 (b := false) ho (by omega) h (by omega), ob2_mk, if_neg (by decide)]
    simp [nibs, lbs_len]
  | succ k ih =>
    intro j n pos y acc hj hn hp hy ha h hin
    obtain ⟨m, rfl⟩ : ∃ m, n = m + 1 := ⟨n - 1, by omega⟩
    by_cases h0 : y = 0
    · subst h0
      rw [nibs_z] at h hin ⊢
      rw [lbs_len] at hin
      rw [lp_X10_takeValue_4, tk1 (b := false) ho (by omega) h (by omega), ob2_mk, if_neg (by decide)]
      simp [lbs_len]
    · rw [nibs_unf k y h0] at h hin ⊢
      simp only [List.length_append, lbs_len] at hin
      obtain ⟨h1, h2⟩ := sat_app h
      obtain ⟨h3, h4⟩ := sat_app h2
      rw [lbs_len] at h3 h4
      rw [lbs_len] at h4
      rw [lp_X10_takeValue_4, tk1 (b := true) ho (by omega) h1 (by omega), ob2_mk, if_pos (by decide), show (4 : Int32) = nI 4 from rfl, take_s (v := lN (y % 16)) ho (by omega) (by omega) (by rw [wb_tn (by omega)]; omega) h3 (by omega), ob2_mk, or_nibL (by omega) ha (by omega), nI_add, show 4 * j + 4 = 4 * (j + 1) by omega]
      have hpw : 16 ^ (j + 1) = 16 * 16 ^ j := by rw [Nat.pow_succ, Nat.mul_comm]
      rw [ih (j + 1) m (pos + 1 + 4) (y / 16) (acc + y % 16 * 16 ^ j) (by omega) (by omega) (by omega) (by rw [Nat.pow_succ] at hy; omega) (by
        rw [hpw]
        have : y % 16 * 16 ^ j ≤ 15 * 16 ^ j := Nat.mul_le_mul_right _ (by omega)
        omega) h4 (by omega)]
      congr 2
      · congr 1
        rw [hpw]
        have : y = 16 * (y / 16) + y % 16 := (Nat.div_add_mod y 16).symm
        calc acc + y % 16 * 16 ^ j + y / 16 * (16 * 16 ^ j) = acc + (16 * (y / 16) + y % 16) * 16 ^ j := by
              rw [Nat.add_mul, Nat.mul_comm 16 (y / 16), Nat.mul_assoc]; omega
          _ = acc + y * 16 ^ j := by rw [← this]
      · congr 1
        simp only [List.length_append, lbs_len]
        omega
theorem unzig2 (d : Int32) : (zig d % 2 = 0 ∧ nI (zig d / 2) = d) ∨ (zig d % 2 = 1 ∧ -nI (zig d / 2) - 1 = d) := by
  rcases i32_of d with ⟨-, m, hm, rfl⟩ | ⟨-, m, hm, rfl⟩
  · rw [zig_nn hm]
    exact Or.inl ⟨by omega, by rw [show 2 * m / 2 = m by omega]⟩
  · rw [zig_neg hm]
    refine Or.inr ⟨by omega, ?_⟩
    rw [show (2 * m + 1) / 2 = m by omega, show nI (m + 1) = nI m + 1 from nI_succ m, Int32.neg_add, Int32.sub_eq_add_neg]
theorem takeValue_s {f : Nat → Int32} {o pos : Nat} {d : Int32} (ho : o < 5000) (hpos : pos + 50 < 100000) (hs : sat f o pos (encV d)) (hin : o + (pos + (encV d).length + 31) / 32 ≤ 4096) : m_X10_takeValue (nI pos) (nI o) f = some (d, nI (pos + (encV d).length)) := by
  have hz := zig_lt d
  have e := tv_loop ho 8 0 NN pos (zig d) 0 rfl (by unfold NN; omega) (by omega) (by show zig d < 16 ^ 8; omega) (by decide) hs hin
  rw [m_X10_takeValue]
  have e' : lp_X10_takeValue_4 (nI o) f NN (0 : Int64) (0 : Int32) (nI pos) = some (lN (zig d), nI (pos + (encV d).length)) := by
    rw [show 0 + zig d * 16 ^ 0 = zig d by simp] at e
    exact e
  rw [e', ob2_mk, show (2 : Int64) = lN 2 from rfl, pk_lRem (by omega) (by omega) (by omega), pk_lDiv (by omega) (by omega) (by omega)]
  rcases unzig2 d with ⟨h, e2⟩ | ⟨h, e2⟩
  · rw [h, if_pos (by decide), ob1_mk, lN_i, e2]
  · rw [h, if_neg (by decide), ob1_mk, Int64.toInt32_sub, Int64.toInt32_neg, lN_i]
    show some (-nI (zig d / 2) - 1, _) = _
    rw [e2]
