/-! the class reads back what encS, encV, encR are -/
theorem lN_of {x : Int64} {n : Nat} (h0 : 0 ≤ x.toInt) (h1 : x.toInt < (n : Int)) : ∃ k, k < n ∧ k < 2 ^ 63 ∧ x = lN k := by
  have hx : ¬ x < 0 := by
    rw [Int64.lt_iff_toInt_lt]
    show ¬ x.toInt < 0
    omega
  obtain ⟨k, hk, rfl⟩ := pk_lOf hx
  rw [pk_lT hk] at h1
  exact ⟨k, by omega, hk, rfl⟩
theorem small_of {x : Int64} {n : Nat} (h0 : 0 ≤ x.toInt) (h1 : x.toInt < ((2 ^ n : Nat) : Int)) : x.toBitVec.toNat < 2 ^ n := by
  obtain ⟨k, hk, hk2, rfl⟩ := lN_of h0 h1
  rw [wb_tn (by omega)]
  exact hk
theorem sat_1 {f : Nat → Int32} {o pos : Nat} {b : Bool} {r : List Bool} (h : sat f o pos (b :: r)) : sat f o pos [b] ∧ sat f o (pos + 1) r := sat_app (a := [b]) h
theorem rb1 {f : Nat → Int32} {pl pos : Nat} {b : Bool} (hpl : pl < 5000) (hpos : pos < 100000) (h : sat f (pl + 2) pos [b]) : m_X8_readBits f (nI pl) (nI pos) (1 : Int32) = some (lN b.toNat, nI (pos + 1)) := by
  have e : lbs 1 (lN b.toNat) = [b] := by cases b <;> decide
  exact readBits_s (n := 1) hpl hpos (by omega) (by omega) (by rw [e]; exact h) (by cases b <;> decide)
theorem rc_loop {f : Nat → Int32} {pl : Nat} (hpl : pl < 5000) : ∀ (k j n pos : Nat), j + k ≤ 4 → k + 1 < n → pos + k + 1 < 100000 → sat f (pl + 2) pos (List.replicate k true ++ (if j + k < 4 then [false] else [])) → lp_X8_readChange_2 f (nI pl) n (nI j) (nI pos) = some (nI (j + k), nI (pos + k + (if j + k < 4 then 1 else 0))) := by
  intro k
  induction k with
  | zero =>
    intro j n pos hj hn hp h
    obtain ⟨m, rfl⟩ : ∃ m, n = m + 1 := ⟨n - 1, by omega⟩
    rw [lp_X8_readChange_2]
    by_cases h4 : j < 4
    · rw [if_neg (show ¬ (4 : Int32) ≤ nI j from nI_ge (b := 4) h4 (by omega)), if_pos (by omega)]
      rw [if_pos (by omega)] at h
      rw [rb1 hpl (by omega) h, ob2_mk, if_neg (by decide)]
      rfl
    · have : j = 4 := by omega
      subst this
      rw [if_pos (by decide)]
      rfl
  | succ k ih =>
    intro j n pos hj hn hp h
    obtain ⟨m, rfl⟩ : ∃ m, n = m + 1 := ⟨n - 1, by omega⟩
    rw [List.replicate_succ, List.cons_append] at h
    obtain ⟨h1, h2⟩ := sat_1 h
    rw [lp_X8_readChange_2, if_neg (show ¬ (4 : Int32) ≤ nI j from nI_ge (b := 4) (by omega) (by omega)), rb1 hpl (by omega) h1, ob2_mk, if_pos (by decide), nI_1, ih (j + 1) m (pos + 1) (by omega) (by omega) (by omega) (by rw [show j + 1 + k = j + (k + 1) by omega]; exact h2), show j + 1 + k = j + (k + 1) by omega, show pos + 1 + k = pos + (k + 1) by omega]
theorem add_sub (E c : Int64) : E + c - c = E := by rw [Int64.add_sub_cancel]
theorem lbs_split (a b W : Nat) (hab : a + b ≤ 64) : lbs (a + b) (lN W) = lbs a (lN (W / 2 ^ b)) ++ lbs b (lN (W % 2 ^ b)) := by
  induction a with
  | zero =>
    rw [Nat.zero_add]
    show lbs b (lN W) = lbs b (lN (W % 2 ^ b))
    apply lbs_congr
    intro i hi
    rw [lb_lN _ (by omega), lb_lN _ (by omega), Nat.testBit_mod_two_pow, decide_eq_true hi, Bool.true_and]
  | succ a ih =>
    rw [show a + 1 + b = (a + b) + 1 by omega]
    show lbit (lN W) (a + b) :: lbs (a + b) (lN W) = lbit (lN (W / 2 ^ b)) a :: (lbs a (lN (W / 2 ^ b)) ++ lbs b (lN (W % 2 ^ b)))
    rw [ih (by omega), lb_lN _ (by omega), lb_lN _ (by omega), Nat.testBit_div_two_pow]
theorem join32 {W : Nat} (hW : W < 2 ^ 64) : (lN (W / 2 ^ 32) <<< (Int32.toInt64 (32 : Int32) &&& 63)) ||| lN (W % 2 ^ 32) = lN W := by
  apply lb_ext
  intro i hi
  rw [lb_or, show (32 : Int32) = nI 32 from rfl, lb_shl 32 (by omega) _ hi, lb_lN _ hi, lb_lN _ hi, Nat.testBit_mod_two_pow]
  by_cases h : i < 32
  · rw [decide_eq_false (by omega), decide_eq_true h, Bool.false_and, Bool.true_and, Bool.false_or]
  · rw [decide_eq_true (by omega), decide_eq_false h, Bool.true_and, Bool.false_and, Bool.or_false, lb_lN _ (by omega), Nat.testBit_div_two_pow, show i - 32 + 32 = i by omega]
theorem readChange_s {f : Nat → Int32} {pl pos : Nat} {E : Int64} (hpl : pl < 5000) (hpos : pos + 40 < 100000) (h1 : -8589934592 ≤ E.toInt) (h2 : E.toInt < 8589934592) (hs : sat f (pl + 2) pos (encS E)) : m_X8_readChange f (nI pl) (nI pos) = some (E, nI (pos + (encS E).length)) := by
  rw [m_X8_readChange]
  unfold encS at hs ⊢
  have one : ∀ {k : Nat} (hk : k < 4), sat f (pl + 2) pos (List.replicate k true ++ [false]) → lp_X8_readChange_2 f (nI pl) NN (0 : Int32) (nI pos) = some (nI k, nI (pos + k + 1)) := by
    intro k hk q
    have := rc_loop hpl k 0 NN pos (by omega) (by unfold NN; omega) (by omega) (by rw [if_pos (by omega)]; exact q)
    rw [if_pos (by omega), Nat.zero_add] at this
    exact this
  by_cases c0 : E.toInt = 0
  · rw [if_pos c0] at hs ⊢
    rw [one (k := 0) (by omega) hs, ob2_mk, if_pos (by decide)]
    have : E = 0 := Int64.toInt_inj.mp c0
    subst this
    rfl
  · rw [if_neg c0] at hs ⊢
    by_cases c1 : -64 ≤ E.toInt ∧ E.toInt < 64
    · rw [if_pos c1] at hs ⊢
      have t1 : (E + 64).toInt = E.toInt + 64 := add_toInt (c := 64) (by show _ ≤ _ + (64 : Int); omega) (by show _ + (64 : Int) < _; omega)
      obtain ⟨q1, q2⟩ := sat_app hs
      have q2 : sat f (pl + 2) (pos + 1 + 1) (lbs 7 (E + 64)) := q2
      rw [one (k := 1) (by omega) q1, ob2_mk, if_neg (by decide), if_pos (by decide), show (7 : Int32) = nI 7 from rfl, readBits_s (v := E + 64) hpl (by omega) (by omega) (by omega) q2 (small_of (by omega) (by rw [t1]; show _ < (128 : Int); omega))]
      show some (E + 64 - 64, nI (pos + 1 + 1 + 7)) = _
      rw [add_sub, List.length_append, lbs_len, lbs_len]
    · rw [if_neg c1] at hs ⊢
      by_cases c2 : -256 ≤ E.toInt ∧ E.toInt < 256
      · rw [if_pos c2] at hs ⊢
        have t1 : (E + 256).toInt = E.toInt + 256 := add_toInt (c := 256) (by show _ ≤ _ + (256 : Int); omega) (by show _ + (256 : Int) < _; omega)
        obtain ⟨q1, q2⟩ := sat_app hs
        have q2 : sat f (pl + 2) (pos + 2 + 1) (lbs 9 (E + 256)) := q2
        rw [one (k := 2) (by omega) q1, ob2_mk, if_neg (by decide), if_neg (by decide), if_pos (by decide), show (9 : Int32) = nI 9 from rfl, readBits_s (v := E + 256) hpl (by omega) (by omega) (by omega) q2 (small_of (by omega) (by rw [t1]; show _ < (512 : Int); omega))]
        show some (E + 256 - 256, nI (pos + 2 + 1 + 9)) = _
        rw [add_sub, List.length_append, lbs_len, lbs_len]
      · rw [if_neg c2] at hs ⊢
        by_cases c3 : -2048 ≤ E.toInt ∧ E.toInt < 2048
        · rw [if_pos c3] at hs ⊢
          have t1 : (E + 2048).toInt = E.toInt + 2048 := add_toInt (c := 2048) (by show _ ≤ _ + (2048 : Int); omega) (by show _ + (2048 : Int) < _; omega)
          obtain ⟨q1, q2⟩ := sat_app hs
          have q2 : sat f (pl + 2) (pos + 3 + 1) (lbs 12 (E + 2048)) := q2
          rw [one (k := 3) (by omega) q1, ob2_mk, if_neg (by decide), if_neg (by decide), if_neg (by decide), if_pos (by decide), show (12 : Int32) = nI 12 from rfl, readBits_s (v := E + 2048) hpl (by omega) (by omega) (by omega) q2 (small_of (by omega) (by rw [t1]; show _ < (4096 : Int); omega))]
          show some (E + 2048 - 2048, nI (pos + 3 + 1 + 12)) = _
          rw [add_sub, List.length_append, lbs_len, lbs_len]
        · rw [if_neg c3] at hs ⊢
          have t1 : (E + 8589934592).toInt = E.toInt + 8589934592 := add_toInt (c := 8589934592) (by show _ ≤ _ + (8589934592 : Int); omega) (by show _ + (8589934592 : Int) < _; omega)
          obtain ⟨q1, q2⟩ := sat_app hs
          have e4 := rc_loop hpl 4 0 NN pos (by omega) (by unfold NN; omega) (by omega) (by rw [if_neg (by omega)]; exact q1)
          rw [if_neg (by omega)] at e4
          have e4' : lp_X8_readChange_2 f (nI pl) NN (0 : Int32) (nI pos) = some (nI 4, nI (pos + 4)) := e4
          rw [e4', ob2_mk]
          obtain ⟨W, hW, hW2, eW⟩ := lN_of (x := E + 8589934592) (n := 2 ^ 34) (by omega) (by rw [t1]; show _ < (17179869184 : Int); omega)
          rw [eW, show (34 : Nat) = 2 + 32 from rfl, lbs_split 2 32 W (by omega)] at q2
          obtain ⟨q3, q4⟩ := sat_app q2
          rw [lbs_len] at q3 q4
          rw [if_neg (by decide), if_neg (by decide), if_neg (by decide), if_neg (by decide), show (2 : Int32) = nI 2 from rfl, readBits_s (v := lN (W / 2 ^ 32)) hpl (by omega) (by omega) (by omega) q3 (by rw [wb_tn (by omega)]; omega)]
          rw [ob2_mk, show (32 : Int32) = nI 32 from rfl, readBits_s (v := lN (W % 2 ^ 32)) hpl (by omega) (by omega) (by omega) (by rw [lbs_len] at q4; exact q4) (by rw [wb_tn (by omega)]; omega)]
          show some (((lN (W / 2 ^ 32) <<< (Int32.toInt64 (32 : Int32) &&& 63)) ||| lN (W % 2 ^ 32)) - 8589934592, nI (pos + 4 + 2 + 32)) = _
          rw [join32 (by omega), ← eW, add_sub, List.length_append, lbs_len, lbs_len]
