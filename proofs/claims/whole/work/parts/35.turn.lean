/-! to turn the disk, told apart from both programs -/
def cellB (bs : List Bool) (j : Nat) : Int32 := Int32.ofBitVec ((BitVec.ofBoolListBE ((List.range 32).map (fun i => bs.getD (32 * j + i) false))).setWidth 32)
theorem bt_cellB (bs : List Bool) (j : Nat) {i : Nat} (hi : i < 32) : bt (cellB bs j) (31 - i) = bs.getD (32 * j + i) false := by
  unfold bt cellB
  rw [Int32.toBitVec_ofBitVec, BitVec.getLsbD_setWidth, BitVec.getLsbD_ofBoolListBE, decide_eq_true (show 31 - i < 32 by omega), Bool.true_and, List.length_map, List.length_range, decide_eq_true (show 31 - i < 32 by omega), Bool.true_and, show 32 - 1 - (31 - i) = i by omega, List.getD_eq_getElem?_getD, List.getElem?_map, List.getElem?_range hi]
  rfl
theorem hold_cell {a : Nat → Int32} {o : Nat} {bs : List Bool} (h : hold a o bs) {j : Nat} (hj : 32 * j < bs.length) : a (o + j) = cellB bs j := by
  apply b_ext
  intro i hi
  have h1 := h j hj (31 - i) (by omega)
  have h2 := bt_cellB bs j (show 31 - i < 32 by omega)
  rw [show 31 - (31 - i) = i by omega] at h1 h2
  rw [h1, h2]
theorem cell_hold {a : Nat → Int32} {o : Nat} {bs : List Bool} (h : ∀ j, 32 * j < bs.length → a (o + j) = cellB bs j) : hold a o bs := fun j hj i hi => by rw [h j hj, bt_cellB bs j hi]
/-- a chunk's cells -/
def cellC (c : Ch) (k : Nat) : Int32 := if k = 0 then (c.2.1.getD 0 (0, 0)).1 else if k = 1 then (c.2.1.getD 0 (0, 0)).2 else cellB (encB c.2.1) (k - 2)
theorem chOk_of {f : Nat → Int32} {c : Ch} (h : ∀ k, k < clen c → f (c.2.2 + k) = cellC c k) : chOk f c := by
  have hl : 2 ≤ clen c := by unfold clen; omega
  refine ⟨?_, ?_, cell_hold fun j hj => ?_⟩
  · have := h 0 (by omega); rw [Nat.add_zero] at this; rw [this]; rfl
  · rw [h 1 (by omega)]; rfl
  · have := h (j + 2) (by unfold clen; omega)
    rw [show c.2.2 + 2 + j = c.2.2 + (j + 2) by omega, this]
    unfold cellC
    rw [if_neg (by omega), if_neg (by omega), show j + 2 - 2 = j by omega]
/-- writes of a row, one behind the other -/
def seqW (b : Nat) (g : Nat → Int32) : Nat → Nat → List (Nat × Int32)
  | _, 0 => []
  | a, n + 1 => (b + a, g a) :: seqW b g (a + 1) n
theorem seqW_app (b : Nat) (g : Nat → Int32) : ∀ (m a n : Nat), seqW b g a (m + n) = seqW b g a m ++ seqW b g (a + m) n := by
  intro m
  induction m with
  | zero => intro a n; simp [seqW]
  | succ m ih =>
    intro a n
    rw [show m + 1 + n = (m + n) + 1 by omega]
    simp only [seqW, List.cons_append]
    rw [ih (a + 1) n, show a + 1 + m = a + (m + 1) by omega]
theorem seqW_mem {b : Nat} {g : Nat → Int32} : ∀ {n a : Nat} {q : Nat × Int32}, q ∈ seqW b g a n → b + a ≤ q.1 ∧ q.1 < b + a + n := by
  intro n
  induction n with
  | zero => intro a q h; simp [seqW] at h
  | succ n ih =>
    intro a q h
    simp only [seqW, List.mem_cons] at h
    rcases h with rfl | h
    · dsimp only; omega
    · have := ih h; omega
theorem app_app (a b : List (Nat × Int32)) (f : Nat → Int32) : app (a ++ b) f = app b (app a f) := by unfold app; rw [List.foldl_append]
theorem app_seqW {b : Nat} {g : Nat → Int32} : ∀ {n a : Nat} {f : Nat → Int32} {k : Nat}, a ≤ k → k < a + n → app (seqW b g a n) f (b + k) = g k := by
  intro n
  induction n with
  | zero => intro a f k h1 h2; omega
  | succ n ih =>
    intro a f k h1 h2
    show app (seqW b g (a + 1) n) (upd f (b + a) (g a)) (b + k) = g k
    by_cases hk : k = a
    · subst hk
      rw [app_out _ _ _ (fun q hq => by have := seqW_mem hq; omega), pk_us]
    · exact ih (by omega) (by omega)
def chkW (c : Ch) : List (Nat × Int32) := seqW c.2.2 (cellC c) 0 (clen c)
def img (cs : List Ch) (m : Nat) : Int32 := if m = 0 then nI cs.length else entC (cs.getD ((m - 1) / 10) ch0) ((m - 1) % 10)
def newsW (out : List (Ch × Bool)) : List (Nat × Int32) := (out.filter (fun q => q.2)).flatMap (fun q => chkW q.1)
/-- all writes but the root's -/
def turnW (b : Nat) (out : List (Ch × Bool)) : List (Nat × Int32) := newsW out ++ seqW b (img (out.map Prod.fst)) 0 (1 + 10 * out.length)
/-! first fit -/
def ffL (tk : Nat → Bool) (n : Nat) : Nat → Nat → Nat → Option Nat
  | 0, _, _ => none
  | r + 1, k, free => if (if tk k then 0 else free + 1) = n then some (k + 1 - n) else ffL tk n r (k + 1) (if tk k then 0 else free + 1)
theorem ffL_ok {tk : Nat → Bool} {n : Nat} (hn : 1 ≤ n) : ∀ (r k free p : Nat), free ≤ k → (∀ j, j < free → tk (k - 1 - j) = false) → ffL tk n r k free = some p → p + n ≤ k + r ∧ ∀ j, j < n → tk (p + j) = false := by
  intro r
  induction r with
  | zero => intro k free p _ _ h; simp [ffL] at h
  | succ r ih =>
    intro k free p hf hfr h
    unfold ffL at h
    have hinv : ∀ j, j < (if tk k then 0 else free + 1) → tk (k + 1 - 1 - j) = false := by
      intro j hj
      by_cases ht : tk k = true
      · rw [if_pos ht] at hj; omega
      · rw [if_neg ht] at hj
        by_cases hj0 : j = 0
        · subst hj0
          rw [show k + 1 - 1 - 0 = k by omega]
          simpa using ht
        · have := hfr (j - 1) (by omega)
          rw [show k + 1 - 1 - j = k - 1 - (j - 1) by omega]
          exact this
    have hle : (if tk k then 0 else free + 1) ≤ k + 1 := by split <;> omega
    by_cases hc : (if tk k then 0 else free + 1) = n
    · rw [if_pos hc] at h
      cases h
      rw [hc] at hinv hle
      refine ⟨by omega, fun j hj => ?_⟩
      have := hinv (n - 1 - j) (by omega)
      rw [show k + 1 - 1 - (n - 1 - j) = k + 1 - n + j by omega] at this
      exact this
    · rw [if_neg hc] at h
      have := ih (k + 1) _ p hle hinv h
      exact ⟨by omega, this.2⟩
def ff (tk : Nat → Bool) (n : Nat) : Option Nat := ffL tk n 1661 0 0
theorem ff_ok {tk : Nat → Bool} {n p : Nat} (hn : 1 ≤ n) (h : ff tk n = some p) : p + n ≤ 1661 ∧ ∀ j, j < n → tk (p + j) = false := by
  have := ffL_ok hn 1661 0 0 p (Nat.le_refl 0) (fun j hj => by omega) h
  exact ⟨by omega, this.2⟩
theorem ffL_congr {tk tk' : Nat → Bool} {n : Nat} : ∀ (r k free : Nat), (∀ j, k ≤ j → j < k + r → tk j = tk' j) → ffL tk n r k free = ffL tk' n r k free := by
  intro r
  induction r with
  | zero => intro k free _; rfl
  | succ r ih =>
    intro k free h
    unfold ffL
    rw [h k (by omega) (by omega), ih (k + 1) _ (fun j h1 h2 => h j (by omega) (by omega))]
def mark (tk : Nat → Bool) (p n : Nat) : Nat → Bool := fun k => tk k || (decide (p ≤ k) && decide (k < p + n))
/-- each new chunk gets a place -/
def plan : (Nat → Bool) → List (Ch × Bool) → Option (List (Ch × Bool))
  | _, [] => some []
  | tk, q :: r => if q.2 = true then (match ff tk (clen q.1) with
      | none => none
      | some p => (plan (mark tk p (clen q.1)) r).map (fun l => ((q.1.1, q.1.2.1, 2435 + p), true) :: l))
    else (plan tk r).map (fun l => q :: l)
/-- which cells of the area these chunks have -/
def tkOf (cs : List Ch) : Nat → Bool := fun k => cs.any (fun c => decide (c.2.2 ≤ 2435 + k) && decide (2435 + k < c.2.2 + clen c))
theorem clen_pl (a : Nat) (ps : List Pt) (p q : Nat) : clen (a, ps, p) = clen (a, ps, q) := rfl
theorem clen_ge (c : Ch) : 2 ≤ clen c := by unfold clen; omega
/-- what a plan gives: the same chunks, the new ones at places that were free -/
theorem plan_ok : ∀ (its out : List (Ch × Bool)) (tk : Nat → Bool), plan tk its = some out → out.length = its.length ∧ (∀ k, k < its.length → (out.getD k (ch0, false)).2 = (its.getD k (ch0, false)).2 ∧ (out.getD k (ch0, false)).1.1 = (its.getD k (ch0, false)).1.1 ∧ (out.getD k (ch0, false)).1.2.1 = (its.getD k (ch0, false)).1.2.1 ∧ ((its.getD k (ch0, false)).2 = false → out.getD k (ch0, false) = its.getD k (ch0, false))) ∧
    (∀ q ∈ out, q.2 = true → 2435 ≤ q.1.2.2 ∧ q.1.2.2 + clen q.1 ≤ 4096 ∧ ∀ j, j < clen q.1 → tk (q.1.2.2 - 2435 + j) = false) ∧ (out.filter (fun q => q.2)).Pairwise (fun a b => apart a.1 b.1) := by
  intro its
  induction its with
  | nil =>
    intro out tk h
    cases h
    exact ⟨rfl, fun k hk => by simp at hk, fun q hq => by simp at hq, List.Pairwise.nil⟩
  | cons q r ih =>
    intro out tk h
    unfold plan at h
    by_cases hq : q.2 = true
    · rw [if_pos hq] at h
      cases hff : ff tk (clen q.1) with
      | none => rw [hff] at h; cases h
      | some p =>
        rw [hff] at h
        dsimp only at h
        cases hp : plan (mark tk p (clen q.1)) r with
        | none => rw [hp] at h; cases h
        | some l =>
          rw [hp] at h
          cases h
          obtain ⟨h1, h2, h3, h4⟩ := ih l _ hp
          have hcl := clen_ge q.1
          obtain ⟨f1, f2⟩ := ff_ok (by omega) hff
          have e1 : clen (q.1.1, q.1.2.1, 2435 + p) = clen q.1 := rfl
          refine ⟨by simp [h1], fun k hk => ?_, fun x hx hx2 => ?_, ?_⟩
          · cases k with
            | zero =>
              refine ⟨hq.symm, rfl, rfl, fun hf => ?_⟩
              have : q.2 = false := hf
              rw [hq] at this
              cases this
            | succ k =>
              have := h2 k (by simpa using hk)
              simpa using this
          · rcases List.mem_cons.mp hx with rfl | hx
            · refine ⟨by dsimp only; omega, by rw [e1]; dsimp only; omega, fun j hj => ?_⟩
              rw [e1] at hj
              dsimp only
              rw [show 2435 + p - 2435 + j = p + j by omega]
              exact f2 j hj
            · obtain ⟨g1, g2, g3⟩ := h3 x hx hx2
              refine ⟨g1, g2, fun j hj => ?_⟩
              have := g3 j hj
              unfold mark at this
              rw [Bool.or_eq_false_iff] at this
              exact this.1
          · rw [List.filter_cons_of_pos (by rfl), List.pairwise_cons]
            refine ⟨fun x hx => ?_, h4⟩
            rw [List.mem_filter] at hx
            obtain ⟨g1, g2, g3⟩ := h3 x hx.1 hx.2
            unfold apart
            rw [e1]
            dsimp only
            have hx2 := clen_ge x.1
            by_cases hlt : 2435 + p + clen q.1 ≤ x.1.2.2
            · exact Or.inl hlt
            · right
              by_cases hgt : x.1.2.2 + clen x.1 ≤ 2435 + p
              · exact hgt
              · exfalso
                -- some cell lies in both
                have hm : ∃ j, j < clen x.1 ∧ p ≤ x.1.2.2 - 2435 + j ∧ x.1.2.2 - 2435 + j < p + clen q.1 := by
                  by_cases ho : x.1.2.2 - 2435 < p
                  · exact ⟨p - (x.1.2.2 - 2435), by omega, by omega, by omega⟩
                  · exact ⟨0, by omega, by omega, by omega⟩
                obtain ⟨j, j1, j2, j3⟩ := hm
                have := g3 j j1
                unfold mark at this
                rw [Bool.or_eq_false_iff, decide_eq_true j2, decide_eq_true j3] at this
                exact absurd this.2 (by simp)
    · rw [if_neg hq] at h
      have hqf : q.2 = false := by simpa using hq
      cases hp : plan tk r with
      | none => rw [hp] at h; cases h
      | some l =>
        rw [hp] at h
        cases h
        obtain ⟨h1, h2, h3, h4⟩ := ih l _ hp
        refine ⟨by simp [h1], fun k hk => ?_, fun x hx hx2 => ?_, ?_⟩
        · cases k with
          | zero => exact ⟨rfl, rfl, rfl, fun _ => rfl⟩
          | succ k =>
            have := h2 k (by simpa using hk)
            simpa using this
        · rcases List.mem_cons.mp hx with rfl | hx
          · rw [hqf] at hx2; cases hx2
          · exact h3 x hx hx2
        · rw [List.filter_cons_of_neg (by simpa using hqf)]
          exact h4
