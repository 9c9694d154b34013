/-! the reference's putValue and make; the class's packFurther -/
theorem lb_l2i (y : Int64) {i : Nat} (hi : i < 32) : bt (Int64.toInt32 y) i = lbit y i := by
  unfold bt lbit
  show (y.toBitVec.signExtend 32).getLsbD i = _
  rw [BitVec.getLsbD_signExtend]
  simp [hi, show i < 64 by omega]
theorem mask_lN (y : Int64) : y &&& 4294967295 = lN (y.toInt32.toBitVec.toNat) := by
  apply lb_ext
  intro i hi
  rw [lb_and, lb_low hi, lb_lN _ hi, BitVec.testBit_toNat]
  by_cases h : i < 32
  · rw [decide_eq_true h, Bool.and_true]
    exact (lb_l2i y h).symm
  · rw [decide_eq_false h, Bool.and_false, BitVec.getLsbD_of_ge _ _ (by omega)]
theorem zig64 (d : Int32) : (if 0 ≤ d then (2 : Int64) * d.toInt64 else (-2 : Int64) * d.toInt64 - 1) &&& 4294967295 = lN (zig d) := by
  rw [mask_lN]
  unfold zig
  congr 2
  split
  · rw [Int64.toInt32_mul, Int32.toInt32_toInt64]; rfl
  · rw [Int64.toInt32_sub, Int64.toInt32_mul, Int32.toInt32_toInt64]; rfl
theorem lb_15 : ∀ i, i < 4 → lbit 15 i = true := by decide
theorem lbs4_15 (v : Int64) : lbs 4 (v &&& 15) = lbs 4 v := lbs_congr 4 (fun i hi => by rw [lb_and, lb_15 i hi, Bool.and_true])
theorem putValue_loop {base : Nat → Int32} : ∀ (k n z : Nat) (bs : List Bool) (bits : Int32) (made : Nat → Int32), z < 16 ^ k → k ≤ 8 → k < n → bs.length + 5 * k ≤ 6000 → RfS bs base bits made →
    ∃ (b' : Int32) (m' : Nat → Int32), lp_X10_putValue_26 n (lN z) bits made = some (b', m') ∧ RfS (bs ++ nibs0 k z) base b' m' := by
  intro k
  induction k with
  | zero =>
    intro n z bs bits made hz _ hn hl h
    obtain ⟨m, rfl⟩ : ∃ m, n = m + 1 := ⟨n - 1, by omega⟩
    have : z = 0 := by simpa using hz
    subst this
    exact ⟨bits, made, by rw [lp_X10_putValue_26, if_pos (by decide)], by simpa [nibs0] using h⟩
  | succ k ih =>
    intro n z bs bits made hz hk hn hl h
    obtain ⟨m, rfl⟩ : ∃ m, n = m + 1 := ⟨n - 1, by omega⟩
    have hz2 : z < 2 ^ 32 := Nat.lt_of_lt_of_le hz (by rw [show (2 : Nat) ^ 32 = 16 ^ 8 from rfl]; exact Nat.pow_le_pow_right (by decide) hk)
    have hc : (lg_cmp (lN z) (0 : Int64) = 0) ↔ z = 0 := by
      rw [eq_c, pk_lT (by omega)]
      show ((z : Int) = 0) ↔ _
      omega
    rw [lp_X10_putValue_26]
    unfold nibs0
    by_cases h0 : z = 0
    · rw [if_pos (hc.mpr h0), if_pos h0]
      exact ⟨bits, made, rfl, by simpa using h⟩
    · rw [if_neg (fun q => h0 (hc.mp q)), if_neg h0]
      obtain ⟨b1, m1, e1, h1⟩ := put_S h 1 1 (by omega) (by omega)
      obtain ⟨b2, m2, e2, h2⟩ := put_S h1 (lN z &&& 15) 4 (by omega) (by rw [List.length_append, lbs_len]; omega)
      rw [show (1 : Int32) = nI 1 from rfl, e1]
      show ∃ b' m', ob2 (m_X10_put b1 m1 (lN z &&& (15 : Int64)) (nI 4)) _ = _ ∧ _
      rw [e2]
      show ∃ b' m', lp_X10_putValue_26 m (lN z >>> (Int32.toInt64 (4 : Int32) &&& 63)) b2 m2 = _ ∧ _
      rw [pf_shr (d := 4) (by decide) (by omega)]
      obtain ⟨b3, m3, e3, h3⟩ := ih m (z / 2 ^ 4) _ b2 m2 (by rw [Nat.pow_succ] at hz; omega) (by omega) (by omega) (by simp only [List.length_append, lbs_len]; omega) h2
      refine ⟨b3, m3, e3, ?_⟩
      rw [lbs4_15, List.append_assoc, List.append_assoc] at h3
      exact h3
theorem putValue_S {bs : List Bool} {base : Nat → Int32} {bits : Int32} {made : Nat → Int32} (h : RfS bs base bits made) (d : Int32) (hl : bs.length + 41 ≤ 6000) :
    ∃ (b' : Int32) (m' : Nat → Int32), m_X10_putValue bits made d = some (b', m') ∧ RfS (bs ++ encV d) base b' m' := by
  rw [m_X10_putValue]
  have e0 : (if 0 ≤ d then some ((2 : Int64) * d.toInt64) else some ((-2 : Int64) * d.toInt64 - (1 : Int64))) = some (if 0 ≤ d then (2 : Int64) * d.toInt64 else (-2 : Int64) * d.toInt64 - 1) := by split <;> rfl
  rw [e0]
  show ∃ b' m', ob2 (lp_X10_putValue_26 NN ((if 0 ≤ d then (2 : Int64) * d.toInt64 else (-2 : Int64) * d.toInt64 - 1) &&& (4294967295 : Int64)) bits made) _ = _ ∧ _
  rw [zig64]
  have hz := zig_lt d
  obtain ⟨b1, m1, e1, h1⟩ := putValue_loop 8 NN (zig d) bs bits made (by show zig d < 16 ^ 8; omega) (by omega) (by unfold NN; omega) (by omega) h
  have hn := nibs0_len 8 (zig d)
  rw [e1]
  obtain ⟨b2, m2, e2, h2⟩ := put_S h1 0 1 (by omega) (by rw [List.length_append]; omega)
  show ∃ b' m', ob2 (m_X10_put b1 m1 (0 : Int64) (nI 1)) _ = _ ∧ _
  rw [e2]
  refine ⟨b2, m2, rfl, ?_⟩
  unfold encV
  rw [nibs_0, ← List.append_assoc]
  exact h2
theorem packFurther_S {off : Nat} {bs : List Bool} {base : Nat → Int32} {used bf full : Int32} {cells : Nat → Int32} (h : PkS off bs base used bf full cells) (kt kv : Int32) (kr : Int64) (t v : Int32) (hl : bs.length + 79 ≤ 6000) :
    ∃ (u' b' f' : Int32) (c' : Nat → Int32), m_X5_packFurther used bf full kt kv kr cells t v = some (u', b', f', t, v, t.toInt64 - kt.toInt64, c') ∧ PkS off (bs ++ (encS ((t.toInt64 - kt.toInt64) - kr) ++ encV (v - kv))) base u' b' f' c' := by
  obtain ⟨u1, b1, f1, c1, e1, h1⟩ := packChange_S h ((t.toInt64 - kt.toInt64) - kr) (by omega)
  have hn := encS_len ((t.toInt64 - kt.toInt64) - kr)
  obtain ⟨u2, b2, f2, c2, e2, h2⟩ := packDiff_S h1 (v - kv) (by rw [List.length_append]; omega)
  refine ⟨u2, b2, f2, c2, ?_, by rw [← List.append_assoc]; exact h2⟩
  rw [m_X5_packFurther, e1]
  show ob4 (m_X5_packDifference u1 b1 f1 c1 (v - kv)) _ = _
  rw [e2]
  rfl
/-- the points of a slot of the reference -/
def slotAt (times values : Nat → Int32) (c : Nat) (ps : List Pt) : Prop := ∀ i, i < ps.length → times (64 * c + i) = (ps.getD i (0, 0)).1 ∧ values (64 * c + i) = (ps.getD i (0, 0)).2
def encB : List Pt → List Bool
  | [] => []
  | q :: r => encR 0 q.1 q.2 r
theorem encB_len (ps : List Pt) (h : ps.length ≤ 64) : (encB ps).length ≤ 4977 := by
  cases ps with
  | nil => simp [encB]
  | cons q r =>
    have := encR_len r 0 q.1 q.2
    simp only [List.length_cons] at h
    show (encR 0 q.1 q.2 r).length ≤ 4977
    omega
theorem i32_lo (x : Int32) : -2147483648 ≤ x.toInt := Int32.le_toInt x
theorem i32_hi (x : Int32) : x.toInt < 2147483648 := Int32.toInt_lt x
theorem dif_toInt (a b : Int32) : (a.toInt64 - b.toInt64).toInt = a.toInt - b.toInt := by
  have h1 := i32_lo a
  have h2 := i32_hi a
  have h3 := i32_lo b
  have h4 := i32_hi b
  rw [Int64.toInt_sub, Int32.toInt_toInt64, Int32.toInt_toInt64]
  exact Int.bmod_eq_of_le (by omega) (by omega)
theorem sub_toInt {E c : Int64} (h1 : -9223372036854775808 ≤ E.toInt - c.toInt) (h2 : E.toInt - c.toInt < 9223372036854775808) : (E - c).toInt = E.toInt - c.toInt := by
  rw [Int64.toInt_sub]
  exact Int.bmod_eq_of_le (by omega) (by omega)
theorem make_loop {many times values base : Nat → Int32} {c : Nat} {ps : List Pt} (hc : c < 240) (hm : many c = nI ps.length) (hp : ps.length ≤ 64) (hs : slotAt times values c ps) : ∀ (r : List Pt) (n i : Nat) (rise : Int64) (bs : List Bool) (bits : Int32) (made : Nat → Int32), ps.drop i = r → 1 ≤ i → i ≤ ps.length → r.length < n → -4294967296 ≤ rise.toInt → rise.toInt ≤ 4294967296 → bs.length + 79 * r.length ≤ 6000 → RfS bs base bits made →
    ∃ (b' : Int32) (m' : Nat → Int32), lp_X10_make_39 many times values (nI c) n rise (nI i) bits made = some (b', m') ∧ RfS (bs ++ encR rise (ps.getD (i - 1) (0, 0)).1 (ps.getD (i - 1) (0, 0)).2 r) base b' m' := by
  intro r
  induction r with
  | nil =>
    intro n i rise bs bits made hd hi hip hn _ _ hl h
    obtain ⟨m, rfl⟩ : ∃ m, n = m + 1 := ⟨n - 1, by simp at hn; omega⟩
    have : ps.length = i := by
      have := congrArg List.length hd
      simp at this
      omega
    rw [lp_X10_make_39, ckb_in _ hc (by omega), nI_clamp (by omega), hm, if_pos (nI_le (by omega) (by omega))]
    exact ⟨bits, made, rfl, by simpa [encR] using h⟩
  | cons q r ih =>
    intro n i rise bs bits made hd hi hip hn hr1 hr2 hl h
    obtain ⟨m, rfl⟩ : ∃ m, n = m + 1 := ⟨n - 1, by simp at hn; omega⟩
    simp only [List.length_cons] at hn hl
    have hlt : i < ps.length := by
      have := congrArg List.length hd
      simp at this
      omega
    have hq : ps.getD i (0, 0) = q := by
      have := congrArg (fun l => l[0]?) hd
      simp at this
      rw [List.getD_eq_getElem?_getD, this]
      rfl
    have hd2 : ps.drop (i + 1) = r := by
      have := congrArg (List.drop 1) hd
      simp at this
      exact this
    have e1 : (64 : Int32) * nI c + nI i = nI (64 * c + i) := by rw [show (64 : Int32) = nI 64 from rfl, pk_mul, nI_add]
    have e2 : nI (64 * c + i) - (1 : Int32) = nI (64 * c + (i - 1)) := by rw [show (1 : Int32) = nI 1 from rfl, pk_sub (by omega)]; congr 1; omega
    have hin1 : 64 * c + i < 15360 := by omega
    have hin2 : 64 * c + (i - 1) < 15360 := by omega
    rw [lp_X10_make_39, ckb_in _ hc (by omega), nI_clamp (show c < 2 ^ 31 by omega), hm, if_neg (nI_ge hlt (by omega)), e1, e2, ckb_in _ hin1 (by omega), ckb_in _ hin2 (by omega), nI_clamp (show 64 * c + i < 2 ^ 31 by omega), nI_clamp (show 64 * c + (i - 1) < 2 ^ 31 by omega), (hs i hlt).1, (hs i hlt).2, (hs (i - 1) (by omega)).1, (hs (i - 1) (by omega)).2, hq]
    have hst := dif_toInt q.1 (ps.getD (i - 1) (0, 0)).1
    have b1 := i32_lo q.1
    have b2 := i32_hi q.1
    have b3 := i32_lo (ps.getD (i - 1) (0, 0)).1
    have b4 := i32_hi (ps.getD (i - 1) (0, 0)).1
    have hE : ((q.1.toInt64 - (ps.getD (i - 1) (0, 0)).1.toInt64) - rise).toInt = (q.1.toInt - (ps.getD (i - 1) (0, 0)).1.toInt) - rise.toInt := by
      rw [sub_toInt (by omega) (by omega), hst]
    obtain ⟨u1, m1, f1, h1⟩ := putStep_S h ((q.1.toInt64 - (ps.getD (i - 1) (0, 0)).1.toInt64) - rise) (by omega) (by omega) (by omega)
    have l1 := encS_len ((q.1.toInt64 - (ps.getD (i - 1) (0, 0)).1.toInt64) - rise)
    obtain ⟨u2, m2, f2, h2⟩ := putValue_S h1 (q.2 - (ps.getD (i - 1) (0, 0)).2) (by rw [List.length_append]; omega)
    have l2 := encV_len (q.2 - (ps.getD (i - 1) (0, 0)).2)
    rw [f1]
    show ∃ b' m', ckb _ _ _ = _ ∧ _
    rw [ckb_in _ hin1 (by omega), ckb_in _ hin2 (by omega), f2]
    show ∃ b' m', lp_X10_make_39 many times values (nI c) m (q.1.toInt64 - (ps.getD (i - 1) (0, 0)).1.toInt64) (nI i + (1 : Int32)) u2 m2 = _ ∧ _
    rw [nI_1]
    obtain ⟨u3, m3, f3, h3⟩ := ih m (i + 1) (q.1.toInt64 - (ps.getD (i - 1) (0, 0)).1.toInt64) _ u2 m2 hd2 (by omega) (by omega) (by omega) (by omega) (by omega) (by simp only [List.length_append]; omega) h2
    refine ⟨u3, m3, f3, ?_⟩
    rw [show i + 1 - 1 = i by omega, hq, List.append_assoc, List.append_assoc] at h3
    exact h3
theorem make_spec {bits : Int32} {many times values made : Nat → Int32} {c : Nat} {ps : List Pt} (hc : c < 240) (hm : many c = nI ps.length) (h1 : 1 ≤ ps.length) (hp : ps.length ≤ 64) (hs : slotAt times values c ps) :
    ∃ m' : Nat → Int32, m_X10_make bits many times values made (nI c) = some (nI (2 + ((encB ps).length + 31) / 32), nI (encB ps).length, m') ∧ hold m' 2 (encB ps) ∧ m' 0 = (ps.getD 0 (0, 0)).1 ∧ m' 1 = (ps.getD 0 (0, 0)).2 := by
  obtain ⟨q, r, rfl⟩ : ∃ q r, ps = q :: r := by
    cases ps with
    | nil => simp at h1
    | cons q r => exact ⟨q, r, rfl⟩
  have e1 : (64 : Int32) * nI c = nI (64 * c) := by rw [show (64 : Int32) = nI 64 from rfl, pk_mul]
  have hin : 64 * c < 15360 := by omega
  have a0 := hs 0 (by simp)
  simp only [Nat.add_zero] at a0
  have len := encB_len (q :: r) hp
  have hr : r.length ≤ 63 := by simpa using hp
  rw [m_X10_make, e1, ckb_in _ hin (by omega), show (0 : Int32) = nI 0 from rfl, ckb_in _ (show 0 < 200 by omega) (by omega), ckb_in _ hin (by omega), show (1 : Int32) = nI 1 from rfl, ckb_in _ (show 1 < 200 by omega) (by omega), nI_clamp (show 64 * c < 2 ^ 31 by omega), nI_clamp (show 0 < 2 ^ 31 by omega), nI_clamp (show 1 < 2 ^ 31 by omega), a0.1, a0.2]
  obtain ⟨b', m', e, ⟨rfl, h2, h3⟩⟩ := make_loop (base := upd (upd made 0 ((q :: r).getD 0 (0, 0)).1) 1 ((q :: r).getD 0 (0, 0)).2) hc hm hp hs r NN 1 0 [] (nI 0) (upd (upd made 0 ((q :: r).getD 0 (0, 0)).1) 1 ((q :: r).getD 0 (0, 0)).2) rfl (by omega) (by simp) (by unfold NN; omega) (by decide) (by decide) (by simp; omega) ⟨rfl, hold_nil _ _, fun _ _ => rfl⟩
  rw [e]
  have e3 : [] ++ encR 0 ((q :: r).getD (1 - 1) (0, 0)).1 ((q :: r).getD (1 - 1) (0, 0)).2 r = encB (q :: r) := rfl
  rw [e3] at h2 ⊢
  refine ⟨m', ?_, h2, by rw [h3 0 (by omega)]; rfl, by rw [h3 1 (by omega)]; rfl⟩
  show some ((2 : Int32) + (nI (encB (q :: r)).length + (31 : Int32)) / (32 : Int32), nI (encB (q :: r)).length, m') = _
  rw [show (31 : Int32) = nI 31 from rfl, nI_add, show (32 : Int32) = nI 32 from rfl, pk_div (by omega) (by omega) (by omega), show (2 : Int32) = nI 2 from rfl, nI_add]
