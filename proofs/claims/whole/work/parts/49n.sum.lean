/-! summaries -/
def mn (a b : Int32) : Int32 := if a < b then a else b
def mx (a b : Int32) : Int32 := if b < a then a else b
theorem mn_assoc (a b c : Int32) : mn a (mn b c) = mn (mn a b) c := by
  unfold mn
  simp only [Int32.lt_iff_toInt_lt]
  by_cases h1 : b.toInt < c.toInt
  · rw [if_pos h1]
    by_cases h2 : a.toInt < b.toInt
    · rw [if_pos h2, if_pos (by omega)]
    · rw [if_neg h2, if_pos h1]
  · rw [if_neg h1]
    by_cases h2 : a.toInt < b.toInt
    · rw [if_pos h2]
    · rw [if_neg h2, if_neg h1, if_neg (by omega)]
theorem mx_assoc (a b c : Int32) : mx a (mx b c) = mx (mx a b) c := by
  unfold mx
  simp only [Int32.lt_iff_toInt_lt]
  by_cases h1 : c.toInt < b.toInt
  · rw [if_pos h1]
    by_cases h2 : b.toInt < a.toInt
    · rw [if_pos h2, if_pos (by omega)]
    · rw [if_neg h2, if_pos h1]
  · rw [if_neg h1]
    by_cases h2 : b.toInt < a.toInt
    · rw [if_pos h2]
    · rw [if_neg h2, if_neg h1, if_neg (by omega)]
theorem minF_cons (x : Int32) (p : Pt) (r : List Pt) : minF x (p :: r) = minF (mn p.2 x) r := rfl
theorem maxF_cons (x : Int32) (p : Pt) (r : List Pt) : maxF x (p :: r) = maxF (mx p.2 x) r := rfl
theorem minF_mn : ∀ (r : List Pt) (a x : Int32), minF (mn a x) r = mn (minF a r) x := by
  intro r
  induction r with
  | nil => intro a x; rfl
  | cons p r ih => intro a x; rw [minF_cons, minF_cons, mn_assoc, ih]
theorem maxF_mx : ∀ (r : List Pt) (a x : Int32), maxF (mx a x) r = mx (maxF a r) x := by
  intro r
  induction r with
  | nil => intro a x; rfl
  | cons p r ih => intro a x; rw [maxF_cons, maxF_cons, mx_assoc, ih]
theorem sumF_add : ∀ (r : List Pt) (a : Int64), sumF a r = a + sumF 0 r := by
  intro r
  induction r with
  | nil => intro a; show a = a + 0; rw [Int64.add_zero]
  | cons p r ih =>
    intro a
    show sumF (a + p.2.toInt64) r = a + sumF (0 + p.2.toInt64) r
    rw [ih (a + p.2.toInt64), ih (0 + p.2.toInt64), Int64.zero_add, Int64.add_assoc]
theorem pfst_app {a : List Pt} (h : a ≠ []) (b : List Pt) : pfst (a ++ b) = pfst a := by
  cases a with
  | nil => exact absurd rfl h
  | cons x a => rfl
theorem plst_app (a : List Pt) {b : List Pt} (h : b ≠ []) : plst (a ++ b) = plst b := by
  unfold plst
  have := ne_len h
  simp only [List.getD_eq_getElem?_getD]
  rw [List.length_append, List.getElem?_append_right (by omega), show a.length + b.length - 1 - a.length = b.length - 1 by omega]
theorem pmin_app {a b : List Pt} (ha : a ≠ []) (hb : b ≠ []) : pmin (a ++ b) = mn (pmin b) (pmin a) := by
  cases a with
  | nil => exact absurd rfl ha
  | cons x a =>
    cases b with
    | nil => exact absurd rfl hb
    | cons y b =>
      show minF x.2 (a ++ y :: b) = mn (minF y.2 b) (minF x.2 a)
      rw [← minF_mn]
      unfold minF
      rw [List.foldl_append]
      rfl
theorem pmax_app {a b : List Pt} (ha : a ≠ []) (hb : b ≠ []) : pmax (a ++ b) = mx (pmax b) (pmax a) := by
  cases a with
  | nil => exact absurd rfl ha
  | cons x a =>
    cases b with
    | nil => exact absurd rfl hb
    | cons y b =>
      show maxF x.2 (a ++ y :: b) = mx (maxF y.2 b) (maxF x.2 a)
      rw [← maxF_mx]
      unfold maxF
      rw [List.foldl_append]
      rfl
theorem psum_app (a b : List Pt) : psum (a ++ b) = psum a + psum b := by
  have : psum (a ++ b) = sumF (psum a) b := by unfold psum sumF; rw [List.foldl_append]
  rw [this, sumF_add]
  rfl
theorem add_sm {a b : List Pt} (hb : b ≠ []) (hl : a.length < 100000) : m_X6_add (pfst a) (plst a) (nI a.length) (pmin a) (pmax a) (psum a) (pfst b) (plst b) (nI b.length) (pmin b) (pmax b) (psum b) = some (pfst (a ++ b), plst (a ++ b), nI (a ++ b).length, pmin (a ++ b), pmax (a ++ b), psum (a ++ b)) := by
  rw [m_X6_add]
  by_cases ha : a = []
  · subst ha
    rw [if_pos (show nI ([] : List Pt).length = 0 from rfl), ob1_mk, if_neg (by decide), ob1_mk, if_neg (by decide), ob1_mk, if_neg (by decide), ob1_mk, List.nil_append, nI_add, show psum [] = 0 from rfl, Int64.zero_add, List.length_nil, Nat.zero_add]
  · have h1 := ne_len ha
    rw [if_neg (nI_ne0 (by omega) (by omega)), ob1_mk, if_pos rfl, ob1_mk, if_pos rfl, ob1_mk, if_pos rfl, ob1_mk, pfst_app ha, plst_app a hb, pmin_app ha hb, pmax_app ha hb, psum_app, List.length_append, nI_add]
    rfl
theorem addPoint_sm {a : List Pt} (hl : a.length < 100000) (q : Pt) : m_X6_addPoint (pfst a) (plst a) (nI a.length) (pmin a) (pmax a) (psum a) q.1 q.2 = some (pfst (a ++ [q]), plst (a ++ [q]), nI (a ++ [q]).length, pmin (a ++ [q]), pmax (a ++ [q]), psum (a ++ [q])) := by
  have := add_sm (a := a) (b := [q]) (by simp) hl
  have e : psum [q] = q.2.toInt64 := by
    show (0 : Int64) + q.2.toInt64 = _
    exact Int64.zero_add _
  rw [e] at this
  have this' : m_X6_add (pfst a) (plst a) (nI a.length) (pmin a) (pmax a) (psum a) q.1 q.1 (1 : Int32) q.2 q.2 q.2.toInt64 = some (pfst (a ++ [q]), plst (a ++ [q]), nI (a ++ [q]).length, pmin (a ++ [q]), pmax (a ++ [q]), psum (a ++ [q])) := this
  rw [m_X6_addPoint, this', ob6_mk]
theorem join64 (x : Int64) : ((Int32.toInt64 (Int64.toInt32 (x >>> (Int32.toInt64 (32 : Int32) &&& 63)))) <<< (Int32.toInt64 (32 : Int32) &&& 63)) ||| ((Int32.toInt64 (Int64.toInt32 x)) &&& (4294967295 : Int64)) = x := by
  have e : Int32.toInt64 (32 : Int32) &&& 63 = (32 : Int64) := by decide
  rw [e]
  apply Int64.toBitVec_inj.mp
  apply BitVec.eq_of_getLsbD_eq
  intro i hi
  rw [Int64.toBitVec_or, BitVec.getLsbD_or, Int64.toBitVec_and, BitVec.getLsbD_and, Int64.toBitVec_shiftLeft]
  rw [show (BitVec.smod (32 : Int64).toBitVec 64) = (32#64) from by decide]
  rw [BitVec.shiftLeft_eq', BitVec.getLsbD_shiftLeft]
  rw [show (32#64).toNat = 32 from by decide]
  rw [Int32.toBitVec_toInt64, Int32.toBitVec_toInt64, Int64.toBitVec_toInt32, Int64.toBitVec_toInt32, Int64.toBitVec_shiftRight]
  rw [show (BitVec.smod (32 : Int64).toBitVec 64) = (32#64) from by decide]
  have es : x.toBitVec.sshiftRight' (32#64) = x.toBitVec.sshiftRight 32 := rfl
  have em : (4294967295 : Int64).toBitVec = BitVec.ofNat 64 (2 ^ 32 - 1) := by decide
  rw [es, em]
  by_cases h : i < 32
  · have e1 : (BitVec.signExtend 64 (BitVec.signExtend 32 x.toBitVec)).getLsbD i = x.toBitVec.getLsbD i := by
      rw [BitVec.getLsbD_signExtend, decide_eq_true hi, Bool.true_and, if_pos h, BitVec.getLsbD_signExtend, decide_eq_true h, Bool.true_and, if_pos hi]
    rw [e1, decide_eq_true h, Bool.not_true, Bool.and_false, Bool.false_and, Bool.false_or, BitVec.getLsbD_ofNat, Nat.testBit_two_pow_sub_one, decide_eq_true h, decide_eq_true hi]
    simp
  · have e1 : (BitVec.signExtend 64 (BitVec.signExtend 32 (x.toBitVec.sshiftRight 32))).getLsbD (i - 32) = x.toBitVec.getLsbD i := by
      rw [BitVec.getLsbD_signExtend, decide_eq_true (show i - 32 < 64 by omega), Bool.true_and, if_pos (show i - 32 < 32 by omega), BitVec.getLsbD_signExtend, decide_eq_true (show i - 32 < 32 by omega), Bool.true_and, if_pos (show i - 32 < 64 by omega), BitVec.getLsbD_sshiftRight, decide_eq_false (show ¬ 64 ≤ i - 32 by omega), if_pos (show 32 + (i - 32) < 64 by omega), show 32 + (i - 32) = i by omega]
      simp
    rw [e1, decide_eq_false h, BitVec.getLsbD_ofNat, Nat.testBit_two_pow_sub_one, decide_eq_false h, decide_eq_true hi]
    simp
