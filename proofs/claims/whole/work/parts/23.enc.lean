/-! a chunk's bits, told apart from both programs -/
def encS (E : Int64) : List Bool :=
  if E.toInt = 0 then lbs 1 0
  else if -64 ≤ E.toInt ∧ E.toInt < 64 then lbs 2 2 ++ lbs 7 (E + 64)
  else if -256 ≤ E.toInt ∧ E.toInt < 256 then lbs 3 6 ++ lbs 9 (E + 256)
  else if -2048 ≤ E.toInt ∧ E.toInt < 2048 then lbs 4 14 ++ lbs 12 (E + 2048)
  else lbs 4 15 ++ lbs 34 (E + 8589934592)
theorem encS_len (E : Int64) : (encS E).length ≤ 38 := by
  unfold encS
  split
  · simp [lbs_len]
  · split
    · simp [lbs_len]
    · split
      · simp [lbs_len]
      · split <;> simp [lbs_len]
def nibs : Nat → Nat → List Bool
  | 0, _ => lbs 1 0
  | k + 1, z => if z = 0 then lbs 1 0 else lbs 1 1 ++ (lbs 4 (lN z) ++ nibs k (z / 16))
theorem nibs_len : ∀ (k z : Nat), (nibs k z).length ≤ 5 * k + 1 := by
  intro k
  induction k with
  | zero => intro z; simp [nibs, lbs_len]
  | succ k ih =>
    intro z
    unfold nibs
    split
    · simp [lbs_len]
    · have := ih (z / 16)
      simp [lbs_len]
      omega
/-- 2 * d, or - 2 * d - 1 below 0, as 32 bits without sign -/
def zig (d : Int32) : Nat := (if 0 ≤ d then (2 : Int32) * d else (-2 : Int32) * d - 1).toBitVec.toNat
theorem zig_lt (d : Int32) : zig d < 2 ^ 32 := BitVec.isLt _
def encV (d : Int32) : List Bool := nibs 8 (zig d)
theorem encV_len (d : Int32) : (encV d).length ≤ 41 := nibs_len 8 _
abbrev Pt : Type := Int32 × Int32
/-- the bits of the points behind (t, v), which came by rise -/
def encR : Int64 → Int32 → Int32 → List Pt → List Bool
  | _, _, _, [] => []
  | rise, t, v, q :: r => encS ((q.1.toInt64 - t.toInt64) - rise) ++ (encV (q.2 - v) ++ encR (q.1.toInt64 - t.toInt64) q.1 q.2 r)
theorem encR_len : ∀ (r : List Pt) (rise : Int64) (t v : Int32), (encR rise t v r).length ≤ 79 * r.length := by
  intro r
  induction r with
  | nil => intro rise t v; simp [encR]
  | cons q r ih =>
    intro rise t v
    have h1 := encS_len ((q.1.toInt64 - t.toInt64) - rise)
    have h2 := encV_len (q.2 - v)
    have h3 := ih (q.1.toInt64 - t.toInt64) q.1 q.2
    simp only [encR, List.length_append, List.length_cons]
    omega
/-! the writers' states -/
def PkS (off : Nat) (bs : List Bool) (base : Nat → Int32) (used bf full : Int32) (cells : Nat → Int32) : Prop :=
  (off + (bs.length + 31) / 32 ≤ 1661 ∧ pkOk off bs used bf full cells ∧ ∀ j, j < off → cells j = base j) ∨ (1661 < off + (bs.length + 31) / 32 ∧ pkF used bf full)
theorem addBits_S {off : Nat} {bs : List Bool} {base : Nat → Int32} {used bf full : Int32} {cells : Nat → Int32} (h : PkS off bs base used bf full cells) (v : Int64) (n : Nat) (hn : n ≤ 64) (hl : bs.length + n ≤ 6000) :
    ∃ (u' b' f' : Int32) (c' : Nat → Int32), m_X5_addBits used bf full cells v (nI n) = some (u', b', f', c') ∧ PkS off (bs ++ lbs n v) base u' b' f' c' := by
  rcases h with ⟨h1, h2, h3⟩ | ⟨h1, h2⟩
  · obtain ⟨u', b', f', c', e, h⟩ := addBits_O v n NN off bs used bf full cells (by unfold NN; omega) hn hl h2
    refine ⟨u', b', f', c', by rw [m_X5_addBits, e]; rfl, ?_⟩
    unfold PkS
    rw [List.length_append, lbs_len]
    rcases h with ⟨q1, q2, q3⟩ | ⟨q1, q2⟩
    · exact Or.inl ⟨q1, q2, fun j hj => by rw [q3 j hj, h3 j hj]⟩
    · exact Or.inr ⟨q1, q2⟩
  · obtain ⟨u', b', f', c', e, h⟩ := addBits_F v n NN used bf full cells (by unfold NN; omega) hn h2
    refine ⟨u', b', f', c', by rw [m_X5_addBits, e]; rfl, Or.inr ⟨?_, h⟩⟩
    rw [List.length_append]
    omega
theorem add2_S {off : Nat} {bs : List Bool} {base : Nat → Int32} {used bf full : Int32} {cells : Nat → Int32} (h : PkS off bs base used bf full cells) (v w : Int64) (n m : Nat) (hn : n ≤ 64) (hm : m ≤ 64) (hl : bs.length + n + m ≤ 6000) :
    ∃ (u' b' f' : Int32) (c' : Nat → Int32), (ob4 (m_X5_addBits used bf full cells v (nI n)) fun u b f c => ob4 (m_X5_addBits u b f c w (nI m)) fun u b f c => some (u, b, f, c)) = some (u', b', f', c') ∧ PkS off (bs ++ (lbs n v ++ lbs m w)) base u' b' f' c' := by
  obtain ⟨u1, b1, f1, c1, e1, h1⟩ := addBits_S h v n hn (by omega)
  obtain ⟨u2, b2, f2, c2, e2, h2⟩ := addBits_S h1 w m hm (by rw [List.length_append, lbs_len]; omega)
  refine ⟨u2, b2, f2, c2, ?_, by rw [← List.append_assoc]; exact h2⟩
  rw [e1]
  show ob4 (m_X5_addBits u1 b1 f1 c1 w (nI m)) _ = _
  rw [e2]
  rfl
theorem lt_c (E c : Int64) : (lg_cmp E c < 0) ↔ E.toInt < c.toInt := by rw [lg_cmp_lt, Int64.lt_iff_toInt_lt]
theorem ge_c (E c : Int64) : (0 ≤ lg_cmp E c) ↔ c.toInt ≤ E.toInt := by rw [lg_cmp_ge, Int64.le_iff_toInt_le]
theorem gt_c (E c : Int64) : (0 < lg_cmp E c) ↔ c.toInt < E.toInt := by rw [lg_cmp_gt, Int64.lt_iff_toInt_lt]
theorem eq_c (E c : Int64) : (lg_cmp E c = 0) ↔ E.toInt = c.toInt := by
  rw [Int64.toInt_inj]
  unfold lg_cmp
  split
  · next h =>
    constructor
    · intro q; exact absurd q (by decide)
    · intro q; subst q; exact absurd h (Int64.lt_irrefl)
  · split
    · next h => exact ⟨fun _ => h, fun _ => rfl⟩
    · next h => exact ⟨fun q => absurd q (by decide), fun q => absurd q h⟩
theorem packChange_S {off : Nat} {bs : List Bool} {base : Nat → Int32} {used bf full : Int32} {cells : Nat → Int32} (h : PkS off bs base used bf full cells) (E : Int64) (hl : bs.length + 38 ≤ 6000) :
    ∃ (u' b' f' : Int32) (c' : Nat → Int32), m_X5_packChange used bf full cells E = some (u', b', f', c') ∧ PkS off (bs ++ encS E) base u' b' f' c' := by
  have a0 := addBits_S h 0 1 (by omega) (by omega)
  have a1 := add2_S h 2 (E + 64) 2 7 (by omega) (by omega) (by omega)
  have a2 := add2_S h 6 (E + 256) 3 9 (by omega) (by omega) (by omega)
  have a3 := add2_S h 14 (E + 2048) 4 12 (by omega) (by omega) (by omega)
  have a4 := add2_S h 15 (E + 8589934592) 4 34 (by omega) (by omega) (by omega)
  rw [m_X5_packChange]
  simp only [lt_c, ge_c, eq_c, show (0 : Int64).toInt = 0 from rfl, show (-64 : Int64).toInt = -64 from rfl, show (-256 : Int64).toInt = -256 from rfl, show (-2048 : Int64).toInt = -2048 from rfl, show (64 : Int64).toInt = 64 from rfl, show (256 : Int64).toInt = 256 from rfl, show (2048 : Int64).toInt = 2048 from rfl]
  have fin : ∀ {x : Option (Int32 × Int32 × Int32 × (Nat → Int32))} {b2 : List Bool}, encS E = b2 → (∃ (u' b' f' : Int32) (c' : Nat → Int32), x = some (u', b', f', c') ∧ PkS off (bs ++ b2) base u' b' f' c') → ∃ (u' b' f' : Int32) (c' : Nat → Int32), (ob4 x fun u b f c => some (u, b, f, c)) = some (u', b', f', c') ∧ PkS off (bs ++ encS E) base u' b' f' c' := by
    intro x b2 hb hx
    obtain ⟨u', b', f', c', rfl, hS⟩ := hx
    exact ⟨u', b', f', c', rfl, by rw [hb]; exact hS⟩
  have k0 : ∀ (hE : E.toInt = 0), encS E = lbs 1 0 := fun hE => by unfold encS; rw [if_pos hE]
  have k1 : ¬ E.toInt = 0 → ¬ E.toInt < -64 → ¬ 64 ≤ E.toInt → encS E = lbs 2 2 ++ lbs 7 (E + 64) := fun q1 q2 q3 => by unfold encS; rw [if_neg q1, if_pos (by omega)]
  have k2 : (E.toInt < -64 ∨ 64 ≤ E.toInt) → ¬ E.toInt < -256 → ¬ 256 ≤ E.toInt → encS E = lbs 3 6 ++ lbs 9 (E + 256) := fun q1 q2 q3 => by unfold encS; rw [if_neg (by omega), if_neg (by omega), if_pos (by omega)]
  have k3 : (E.toInt < -256 ∨ 256 ≤ E.toInt) → ¬ E.toInt < -2048 → ¬ 2048 ≤ E.toInt → encS E = lbs 4 14 ++ lbs 12 (E + 2048) := fun q1 q2 q3 => by unfold encS; rw [if_neg (by omega), if_neg (by omega), if_neg (by omega), if_pos (by omega)]
  have k4 : (E.toInt < -2048 ∨ 2048 ≤ E.toInt) → encS E = lbs 4 15 ++ lbs 34 (E + 8589934592) := fun q1 => by unfold encS; rw [if_neg (by omega), if_neg (by omega), if_neg (by omega), if_neg (by omega)]
  by_cases c0 : E.toInt = 0
  · rw [if_pos c0]
    refine fin (k0 c0) ?_
    obtain ⟨u', b', f', c', e, hS⟩ := a0
    exact ⟨u', b', f', c', by rw [show (1 : Int32) = nI 1 from rfl, e]; rfl, hS⟩
  · rw [if_neg c0]
    by_cases c1 : E.toInt < -64
    · rw [if_pos c1]
      by_cases c2 : E.toInt < -256
      · rw [if_pos c2]
        by_cases c3 : E.toInt < -2048
        · rw [if_pos c3]; exact fin (k4 (Or.inl c3)) a4
        · rw [if_neg c3]
          rw [if_neg (by omega : ¬ (2048 : Int) ≤ E.toInt)]; exact fin (k3 (Or.inl c2) c3 (by omega)) a3
      · rw [if_neg c2, if_neg (by omega : ¬ (256 : Int) ≤ E.toInt)]; exact fin (k2 (Or.inl c1) c2 (by omega)) a2
    · rw [if_neg c1]
      by_cases d1 : 64 ≤ E.toInt
      · rw [if_pos d1, if_neg (by omega : ¬ E.toInt < -256)]
        by_cases d2 : 256 ≤ E.toInt
        · rw [if_pos d2, if_neg (by omega : ¬ E.toInt < -2048)]
          by_cases d3 : 2048 ≤ E.toInt
          · rw [if_pos d3]; exact fin (k4 (Or.inr d3)) a4
          · rw [if_neg d3]; exact fin (k3 (Or.inr d2) (by omega) d3) a3
        · rw [if_neg d2]; exact fin (k2 (Or.inr d1) (by omega) d2) a2
      · rw [if_neg d1]; exact fin (k1 c0 c1 d1) a1
