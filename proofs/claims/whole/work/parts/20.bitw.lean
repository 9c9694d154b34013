/-! bits into cells: what the reference's put and the class's addBits do -/
def lbit (v : Int64) (k : Nat) : Bool := v.toBitVec.getLsbD k
def lbs : Nat → Int64 → List Bool
  | 0, _ => []
  | n + 1, v => lbit v n :: lbs n v
theorem lbs_len (n : Nat) (v : Int64) : (lbs n v).length = n := by
  induction n with
  | zero => rfl
  | succ n ih => simp [lbs, ih]
def hold (a : Nat → Int32) (off : Nat) (bs : List Bool) : Prop := ∀ j, 32 * j < bs.length → ∀ i, i < 32 → bt (a (off + j)) (31 - i) = bs.getD (32 * j + i) false
theorem gd_app (bs : List Bool) (b : Bool) (k : Nat) : (bs ++ [b]).getD k false = if k = bs.length then b else bs.getD k false := by
  simp only [List.getD_eq_getElem?_getD]
  rcases Nat.lt_trichotomy k bs.length with h | h | h
  · rw [List.getElem?_append_left h, if_neg (by omega)]
  · subst h
    simp
  · rw [if_neg (by omega), List.getElem?_eq_none (by simp; omega), List.getElem?_eq_none (by omega)]
theorem hold_step {a a' : Nat → Int32} {off : Nat} {bs : List Bool} {b : Bool} (h : hold a off bs) (hsame : ∀ j, j ≠ off + bs.length / 32 → a' j = a j)
    (hcell : ∀ i, i < 32 → bt (a' (off + bs.length / 32)) i = if i = 31 - bs.length % 32 then b else if bs.length % 32 = 0 then false else bt (a (off + bs.length / 32)) i) : hold a' off (bs ++ [b]) := by
  intro j hj i hi
  rw [gd_app]
  rw [List.length_append, List.length_singleton] at hj
  by_cases hjj : j = bs.length / 32
  · subst hjj
    rw [hcell (31 - i) (by omega)]
    by_cases h1 : i = bs.length % 32
    · rw [if_pos (show 31 - i = 31 - bs.length % 32 by omega), if_pos (show 32 * (bs.length / 32) + i = bs.length by omega)]
    · rw [if_neg (show ¬ (31 - i = 31 - bs.length % 32) by omega), if_neg (show ¬ (32 * (bs.length / 32) + i = bs.length) by omega)]
      by_cases h2 : bs.length % 32 = 0
      · rw [if_pos h2, List.getD_eq_getElem?_getD, List.getElem?_eq_none (by omega)]
        rfl
      · rw [if_neg h2]
        exact h _ (by omega) i hi
  · rw [hsame (off + j) (by omega), if_neg (by omega)]
    exact h j (by omega) i hi
theorem hold_nil (a : Nat → Int32) (off : Nat) : hold a off [] := fun j hj => by simp at hj
theorem bt_nI1 (i : Nat) : bt (nI 1) i = decide (i = 0) := by
  show (BitVec.ofNat 32 1).getLsbD i = _
  rcases i with _ | i
  · rfl
  · simp [BitVec.getLsbD_ofNat, Nat.testBit_succ]
theorem bt_one (k : Nat) (hk : k < 32) (i : Nat) (hi : i < 32) : bt ((1 : Int32) <<< (nI k &&& 31)) i = decide (i = k) := by
  rw [b_shl k hk _ hi, show (1 : Int32) = nI 1 from rfl, bt_nI1]
  by_cases h : i = k
  · subst h; simp
  · rw [decide_eq_false h]
    by_cases h2 : k ≤ i
    · have : ¬ i - k = 0 := by omega
      simp [this]
    · simp [h2]
theorem lbit_ushr (v : Int64) {k : Nat} (hk : k < 64) : ((v.toUInt64 >>> ((nI k).toInt64.toUInt64 &&& Int64.toUInt64 63)).toInt64 &&& 1) = lN (lbit v k).toNat := by
  obtain ⟨n, hn, rfl⟩ := wb_of v
  rw [wb_bit hn hk]
  congr 1
  show _ = ((BitVec.ofNat 64 n).getLsbD k).toNat
  rw [BitVec.getLsbD_ofNat]
  simp [hk, Nat.testBit, Nat.shiftRight_eq_div_pow]
  rcases Nat.mod_two_eq_zero_or_one (n / 2 ^ k) with h | h <;> simp [h]
theorem lbit_sshr (v : Int64) {k : Nat} (hk : k < 64) : ((v >>> ((nI k).toInt64 &&& 63)) &&& 1) = lN (lbit v k).toNat := by
  apply wb_inj
  rw [Int64.toBitVec_and, Int64.toBitVec_shiftRight, wb_c k hk]
  show (v.toBitVec.sshiftRight ((BitVec.ofNat 64 k).smod 64).toNat) &&& 1#64 = BitVec.ofNat 64 (lbit v k).toNat
  rw [wb_sm k hk, BitVec.toNat_ofNat, Nat.mod_eq_of_lt (by omega)]
  apply BitVec.eq_of_getLsbD_eq
  intro i hi
  rw [BitVec.getLsbD_and, BitVec.getLsbD_sshiftRight]
  unfold lbit
  cases hb : v.toBitVec.getLsbD k
  · have hb' : v.toBitVec[k] = false := by rw [← BitVec.getLsbD_eq_getElem]; exact hb
    cases i with
    | zero => simp [hb', hk]
    | succ i => simp
  · have hb' : v.toBitVec[k] = true := by rw [← BitVec.getLsbD_eq_getElem]; exact hb
    cases i with
    | zero => simp [hb', hk]
    | succ i => simp [Nat.testBit_succ]
theorem lN_bool_1 (b : Bool) : (lg_cmp (lN b.toNat) (1 : Int64)) = 0 ↔ b = true := by
  cases b <;> simp [lg_cmp] <;> decide
theorem ckb_in {γ : Type} {k n : Nat} (x : Option γ) (h : k < n) (hn : n < 2 ^ 31) : ckb (nI k) n x = x := by
  unfold ckb
  rw [if_neg (nI_in h hn)]
theorem put_loop (v : Int64) : ∀ (r n : Nat) (bs : List Bool) (a : Nat → Int32), r < n → r ≤ 64 → bs.length + r ≤ 6000 → hold a 2 bs → ∃ a' : Nat → Int32, lp_X10_put_5 v n (nI r - 1) (nI bs.length) a = some (nI (bs.length + r), a') ∧ hold a' 2 (bs ++ lbs r v) ∧ ∀ j, j < 2 → a' j = a j := by
  intro r
  induction r with
  | zero =>
    intro n bs a hn _ _ hb
    obtain ⟨m, rfl⟩ : ∃ m, n = m + 1 := ⟨n - 1, by omega⟩
    refine ⟨a, ?_, by simpa [lbs] using hb, fun _ _ => rfl⟩
    rw [lp_X10_put_5, if_pos (by decide)]
    rfl
  | succ r ih =>
    intro n bs a hn hr hlen hb
    obtain ⟨m, rfl⟩ : ∃ m, n = m + 1 := ⟨n - 1, by omega⟩
    rw [lp_X10_put_5, nI_pred, if_neg (nI_pos (by omega))]
    have e1 : nI bs.length / (32 : Int32) = nI (bs.length / 32) := pk_div (d := 32) (by omega) (by omega) (by omega)
    have e2 : nI bs.length - nI bs.length / (32 : Int32) * (32 : Int32) = nI (bs.length % 32) := pk_rem (d := 32) (by omega) (by omega) (by omega)
    have e3 : (2 : Int32) + nI (bs.length / 32) = nI (2 + bs.length / 32) := nI_add 2 _
    have e4 : (31 : Int32) - nI (bs.length % 32) = nI (31 - bs.length % 32) := pk_sub (a := 31) (by omega)
    have e5 : nI r + (-1 : Int32) = nI r - 1 := by rw [Int32.sub_eq_add_neg]
    have e6 : nI bs.length + (1 : Int32) = nI (bs.length + 1) := nI_1 _
    have hin : 2 + bs.length / 32 < 200 := by omega
    rw [e2, e1, e3, e4, e5, e6, lbit_sshr v (by omega)]
    have hz : (nI (bs.length % 32) = 0) ↔ bs.length % 32 = 0 := by
      rw [show (0 : Int32) = nI 0 from rfl]
      exact nI_eq (by omega) (by omega)
    obtain ⟨a1, ha1, hs1, hc1⟩ : ∃ a1 : Nat → Int32, (if nI (bs.length % 32) = 0 then ckb (nI (2 + bs.length / 32)) 200 <| some (upd a (Int32.toNatClampNeg (nI (2 + bs.length / 32))) (0 : Int32)) else some a) = some a1 ∧ (∀ j, j ≠ 2 + bs.length / 32 → a1 j = a j) ∧ (∀ i, i < 32 → bt (a1 (2 + bs.length / 32)) i = if bs.length % 32 = 0 then false else bt (a (2 + bs.length / 32)) i) := by
      by_cases h0 : bs.length % 32 = 0
      · rw [if_pos (hz.mpr h0), ckb_in _ hin (by omega), nI_clamp (by omega)]
        refine ⟨_, rfl, fun j hj => pk_un hj, fun i _ => ?_⟩
        rw [pk_us, if_pos h0, b_0]
      · rw [if_neg (fun h => h0 (hz.mp h))]
        refine ⟨_, rfl, fun j _ => rfl, fun i _ => ?_⟩
        rw [if_neg h0]
    rw [ha1]
    show ∃ a', ob1 _ _ = _ ∧ _
    obtain ⟨a2, ha2, hs2, hc2⟩ : ∃ a2 : Nat → Int32, (if lg_cmp (lN (lbit v r).toNat) (1 : Int64) = 0 then ckb (nI (2 + bs.length / 32)) 200 <| ckb (nI (2 + bs.length / 32)) 200 <| some (upd a1 (Int32.toNatClampNeg (nI (2 + bs.length / 32))) (a1 (Int32.toNatClampNeg (nI (2 + bs.length / 32))) ||| ((1 : Int32) <<< (nI (31 - bs.length % 32) &&& 31)))) else some a1) = some a2 ∧ (∀ j, j ≠ 2 + bs.length / 32 → a2 j = a1 j) ∧ (∀ i, i < 32 → bt (a2 (2 + bs.length / 32)) i = if i = 31 - bs.length % 32 then lbit v r else bt (a1 (2 + bs.length / 32)) i) := by
      by_cases hbit : lbit v r = true
      · rw [if_pos ((lN_bool_1 _).mpr hbit), ckb_in _ hin (by omega), ckb_in _ hin (by omega), nI_clamp (by omega)]
        refine ⟨_, rfl, fun j hj => pk_un hj, fun i hi => ?_⟩
        rw [pk_us, b_or, bt_one _ (by omega) i hi, hbit]
        by_cases h : i = 31 - bs.length % 32
        · rw [if_pos h, decide_eq_true h, Bool.or_true]
        · rw [if_neg h, decide_eq_false h, Bool.or_false]
      · rw [if_neg (fun h => hbit ((lN_bool_1 _).mp h))]
        refine ⟨_, rfl, fun j _ => rfl, fun i hi => ?_⟩
        by_cases h : i = 31 - bs.length % 32
        · rw [if_pos h, hc1 i hi]
          have hbf : lbit v r = false := by simpa using hbit
          rw [hbf]
          by_cases h0 : bs.length % 32 = 0
          · rw [if_pos h0]
          · rw [if_neg h0]
            have := hb (bs.length / 32) (by omega) (bs.length % 32) (by omega)
            rw [h, this, List.getD_eq_getElem?_getD, List.getElem?_eq_none (by omega)]
            rfl
        · rw [if_neg h]
    rw [show ob1 (some a1) = fun (k : (Nat → Int32) → Option (Int32 × (Nat → Int32))) => k a1 from rfl]
    dsimp only
    rw [ha2]
    have hb2 : hold a2 2 (bs ++ [lbit v r]) := hold_step hb (fun j hj => by rw [hs2 j hj, hs1 j hj]) (fun i hi => by
      rw [hc2 i hi]
      by_cases h : i = 31 - bs.length % 32
      · rw [if_pos h, if_pos h]
      · rw [if_neg h, if_neg h, hc1 i hi])
    obtain ⟨a', h1, h2, h3⟩ := ih m (bs ++ [lbit v r]) a2 (by omega) (by omega) (by simp; omega) hb2
    rw [List.length_append, List.length_singleton] at h1
    refine ⟨a', ?_, ?_, fun j hj => by rw [h3 j hj, hs2 j (by omega), hs1 j (by omega)]⟩
    · show lp_X10_put_5 v m (nI r - 1) (nI (bs.length + 1)) a2 = _
      rw [h1, show bs.length + 1 + r = bs.length + (r + 1) by omega]
    · rw [List.append_assoc] at h2
      exact h2
theorem put_spec (v : Int64) (r : Nat) (bs : List Bool) (a : Nat → Int32) (hr : r ≤ 64) (hlen : bs.length + r ≤ 6000) (hb : hold a 2 bs) : ∃ a' : Nat → Int32, m_X10_put (nI bs.length) a v (nI r) = some (nI (bs.length + r), a') ∧ hold a' 2 (bs ++ lbs r v) ∧ ∀ j, j < 2 → a' j = a j := by
  obtain ⟨a', h1, h2, h3⟩ := put_loop v r NN bs a (by unfold NN; omega) hr hlen hb
  refine ⟨a', ?_, h2, h3⟩
  rw [m_X10_put, h1]
  rfl
