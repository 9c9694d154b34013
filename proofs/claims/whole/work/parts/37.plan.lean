/-! plans grow at their end; what is placed fits the area -/
def marks (tk : Nat → Bool) (out : List (Ch × Bool)) : Nat → Bool := fun k => tk k || out.any (fun q => q.2 && (decide (q.1.2.2 ≤ 2435 + k) && decide (2435 + k < q.1.2.2 + clen q.1)))
theorem marks_nil (tk : Nat → Bool) : marks tk [] = tk := by funext k; simp [marks]
theorem marks_new (tk : Nat → Bool) (c : Ch) (p : Nat) (l : List (Ch × Bool)) : marks (mark tk p (clen c)) l = marks tk (((c.1, c.2.1, 2435 + p), true) :: l) := by
  funext k
  unfold marks mark
  rw [List.any_cons]
  have e1 : clen (c.1, c.2.1, 2435 + p) = clen c := rfl
  dsimp only
  rw [e1, Bool.true_and, Bool.or_assoc]
  congr 1
  have a1 : decide (p ≤ k) = decide (2435 + p ≤ 2435 + k) := by congr 1; rw [Nat.add_le_add_iff_left]
  have a2 : decide (k < p + clen c) = decide (2435 + k < 2435 + p + clen c) := by
    congr 1
    apply propext
    constructor <;> intro h <;> omega
  rw [a1, a2]
theorem marks_old (tk : Nat → Bool) (q : Ch × Bool) (h : q.2 = false) (l : List (Ch × Bool)) : marks tk (q :: l) = marks tk l := by
  funext k
  unfold marks
  rw [List.any_cons, h]
  simp
theorem plan_snoc : ∀ (its : List (Ch × Bool)) (x : Ch × Bool) (tk : Nat → Bool), plan tk (its ++ [x]) = match plan tk its with
    | none => none
    | some out => if x.2 = true then (match ff (marks tk out) (clen x.1) with
        | none => none
        | some p => some (out ++ [((x.1.1, x.1.2.1, 2435 + p), true)]))
      else some (out ++ [x]) := by
  intro its
  induction its with
  | nil =>
    intro x tk
    show plan tk [x] = if x.2 = true then (match ff (marks tk []) (clen x.1) with | none => none | some p => some ([] ++ [((x.1.1, x.1.2.1, 2435 + p), true)])) else some ([] ++ [x])
    rw [marks_nil]
    unfold plan
    by_cases h : x.2 = true
    · rw [if_pos h, if_pos h]
      cases ff tk (clen x.1) <;> rfl
    · rw [if_neg h, if_neg h]; rfl
  | cons q r ih =>
    intro x tk
    rw [List.cons_append]
    by_cases h : q.2 = true
    · have e1 : ∀ l, plan tk (q :: l) = match ff tk (clen q.1) with | none => none | some p => (plan (mark tk p (clen q.1)) l).map (fun l => ((q.1.1, q.1.2.1, 2435 + p), true) :: l) := fun l => by
        show (if q.2 = true then _ else _) = _
        rw [if_pos h]
        cases ff tk (clen q.1) <;> rfl
      rw [e1, e1]
      cases hff : ff tk (clen q.1) with
      | none => rfl
      | some p =>
        dsimp only
        rw [ih]
        cases hp : plan (mark tk p (clen q.1)) r with
        | none => rfl
        | some out =>
          dsimp only [Option.map]
          rw [marks_new]
          by_cases hx : x.2 = true
          · rw [if_pos hx, if_pos hx]
            cases ff (marks tk (((q.1.1, q.1.2.1, 2435 + p), true) :: out)) (clen x.1) <;> rfl
          · rw [if_neg hx, if_neg hx]; rfl
    · have hq : q.2 = false := by simpa using h
      have e1 : ∀ l, plan tk (q :: l) = (plan tk l).map (fun l => q :: l) := fun l => by
        show (if q.2 = true then _ else _) = _
        rw [if_neg h]
      rw [e1, e1, ih]
      cases hp : plan tk r with
      | none => rfl
      | some out =>
        dsimp only [Option.map]
        rw [marks_old tk q hq]
        by_cases hx : x.2 = true
        · rw [if_pos hx, if_pos hx]
          cases ff (marks tk out) (clen x.1) <;> rfl
        · rw [if_neg hx, if_neg hx]; rfl
theorem plan_none {its r : List (Ch × Bool)} {tk : Nat → Bool} (h : plan tk its = none) : plan tk (its ++ r) = none := by
  induction r generalizing its with
  | nil => rw [List.append_nil]; exact h
  | cons x r ih =>
    rw [show its ++ x :: r = (its ++ [x]) ++ r by simp]
    apply ih
    rw [plan_snoc, h]
theorem plan_keep {its : List (Ch × Bool)} {c : Ch} {tk : Nat → Bool} {out : List (Ch × Bool)} (h : plan tk its = some out) : plan tk (its ++ [(c, false)]) = some (out ++ [(c, false)]) := by
  rw [plan_snoc, h]
  rfl
theorem marks_snoc_old (tk : Nat → Bool) (out : List (Ch × Bool)) (c : Ch) : marks tk (out ++ [(c, false)]) = marks tk out := by
  funext k
  unfold marks
  rw [List.any_append]
  simp
theorem marks_snoc_new (tk : Nat → Bool) (out : List (Ch × Bool)) (c : Ch) (p : Nat) : marks tk (out ++ [((c.1, c.2.1, 2435 + p), true)]) = mark (marks tk out) p (clen c) := by
  funext k
  unfold marks mark
  rw [List.any_append, List.any_cons, List.any_nil, Bool.or_false]
  have e1 : clen (c.1, c.2.1, 2435 + p) = clen c := rfl
  dsimp only
  rw [e1, Bool.true_and, Bool.or_assoc]
  congr 2
  have a1 : decide (p ≤ k) = decide (2435 + p ≤ 2435 + k) := by congr 1; rw [Nat.add_le_add_iff_left]
  have a2 : decide (k < p + clen c) = decide (2435 + k < 2435 + p + clen c) := by
    congr 1
    apply propext
    constructor <;> intro h <;> omega
  rw [a1, a2]
/-- how many of the first m cells are taken -/
def cnt (tk : Nat → Bool) : Nat → Nat
  | 0 => 0
  | m + 1 => cnt tk m + (tk m).toNat
theorem cnt_le (tk : Nat → Bool) (m : Nat) : cnt tk m ≤ m := by
  induction m with
  | zero => exact Nat.le_refl 0
  | succ m ih =>
    unfold cnt
    have : (tk m).toNat ≤ 1 := by cases tk m <;> decide
    omega
theorem cnt_mark {tk : Nat → Bool} {p n : Nat} (hf : ∀ j, j < n → tk (p + j) = false) : ∀ m, cnt (mark tk p n) m = cnt tk m + (min m (p + n) - min m p) := by
  intro m
  induction m with
  | zero => simp [cnt]
  | succ m ih =>
    unfold cnt
    rw [ih]
    by_cases h1 : p ≤ m ∧ m < p + n
    · have h2 := hf (m - p) (by omega)
      rw [show p + (m - p) = m by omega] at h2
      have h3 : mark tk p n m = true := by unfold mark; simp [h1.1, h1.2]
      rw [h2, h3]
      show _ + 1 = _ + 0 + _
      omega
    · have h3 : mark tk p n m = tk m := by
        unfold mark
        have : (decide (p ≤ m) && decide (m < p + n)) = false := by
          rw [Bool.and_eq_false_iff, decide_eq_false_iff_not, decide_eq_false_iff_not]
          omega
        rw [this, Bool.or_false]
      rw [h3]
      omega
def newLen (out : List (Ch × Bool)) : Nat := ((out.filter (fun q => q.2)).map (fun q => clen q.1)).sum
theorem newLen_old (out : List (Ch × Bool)) (c : Ch) : newLen (out ++ [(c, false)]) = newLen out := by
  unfold newLen
  rw [List.filter_append, List.filter_cons_of_neg (by simp)]
  simp
theorem newLen_new (out : List (Ch × Bool)) (c : Ch) : newLen (out ++ [(c, true)]) = newLen out + clen c := by
  unfold newLen
  rw [List.filter_append, List.filter_cons_of_pos (by rfl), List.map_append, List.sum_append]
  simp
theorem snoc_ind {α : Type} {P : List α → Prop} (h0 : P []) (h1 : ∀ l x, P l → P (l ++ [x])) (l : List α) : P l := by
  have h : ∀ r : List α, P r.reverse := by
    intro r
    induction r with
    | nil => exact h0
    | cons x r ih => rw [List.reverse_cons]; exact h1 _ _ ih
  have := h l.reverse
  rw [List.reverse_reverse] at this
  exact this
theorem plan_fits {tk : Nat → Bool} : ∀ (its : List (Ch × Bool)) (out : List (Ch × Bool)), plan tk its = some out → cnt (marks tk out) 1661 = cnt tk 1661 + newLen out := by
  intro its
  refine snoc_ind (P := fun its => ∀ out, plan tk its = some out → cnt (marks tk out) 1661 = cnt tk 1661 + newLen out) ?_ ?_ its
  · intro out h
    cases h
    rw [marks_nil, show newLen [] = 0 from rfl, Nat.add_zero]
  · intro its x ih out h
    rw [plan_snoc] at h
    cases hp : plan tk its with
    | none => rw [hp] at h; cases h
    | some o =>
      rw [hp] at h
      dsimp only at h
      have h1 := ih o hp
      by_cases hx : x.2 = true
      · rw [if_pos hx] at h
        cases hff : ff (marks tk o) (clen x.1) with
        | none => rw [hff] at h; cases h
        | some p =>
          rw [hff] at h
          cases h
          have hcl := clen_ge x.1
          obtain ⟨f1, f2⟩ := ff_ok (by omega) hff
          rw [marks_snoc_new, cnt_mark f2, h1, newLen_new]
          have e1 : clen (x.1.1, x.1.2.1, 2435 + p) = clen x.1 := rfl
          rw [e1]
          omega
      · rw [if_neg hx] at h
        have hx2 : x = (x.1, false) := by
          rcases x with ⟨a, b⟩
          have : b = false := by simpa using hx
          rw [this]
        cases h
        rw [hx2, marks_snoc_old, newLen_old]
        exact h1
/-- a chunk that gets a place fits behind all that were placed -/
theorem ff_fits {tk : Nat → Bool} {its out : List (Ch × Bool)} {n p : Nat} (h : plan tk its = some out) (hn : 1 ≤ n) (hff : ff (marks tk out) n = some p) : newLen out + n ≤ 1661 := by
  obtain ⟨f1, f2⟩ := ff_ok hn hff
  have h1 := plan_fits its out h
  have h2 := cnt_mark f2 1661
  have h3 := cnt_le (mark (marks tk out) p n) 1661
  omega
theorem newLen_le {tk : Nat → Bool} {its out : List (Ch × Bool)} (h : plan tk its = some out) : newLen out ≤ 1661 := by
  have h1 := plan_fits its out h
  have h3 := cnt_le (marks tk out) 1661
  omega
