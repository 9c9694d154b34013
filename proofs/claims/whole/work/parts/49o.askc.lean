/-! the class: ask -/
def inR (p1 p2 : Int32) (q : Pt) : Bool := decide (p1 ≤ q.1) && decide (q.1 ≤ p2)
def asked (p1 p2 : Int32) (ps : List Pt) : List Pt := ps.filter (inR p1 p2)
def outB (p1 p2 : Int32) (ps : List Pt) : Bool := decide (plst ps < p1) || decide (p2 < pfst ps)
def allB (p1 p2 : Int32) (ps : List Pt) : Bool := !(decide (pfst ps < p1) || decide (p2 < plst ps))
def partB (p1 p2 : Int32) (ps : List Pt) : Bool := !outB p1 p2 ps && !allB p1 p2 ps
theorem asked_app (p1 p2 : Int32) (a b : List Pt) : asked p1 p2 (a ++ b) = asked p1 p2 a ++ asked p1 p2 b := List.filter_append ..
theorem rise_first {ps : List Pt} (h : rising ps) : ∀ q ∈ ps, pfst ps ≤ q.1 := by
  intro q hq
  cases ps with
  | nil => simp at hq
  | cons x r =>
    rcases List.mem_cons.mp hq with rfl | hq
    · exact Int32.le_refl _
    · have := (List.pairwise_cons.mp h).1 q hq
      rw [Int32.lt_iff_toInt_lt] at this
      rw [Int32.le_iff_toInt_le]
      show x.1.toInt ≤ q.1.toInt
      omega
theorem rise_last {ps : List Pt} (h : rising ps) : ∀ q ∈ ps, q.1 ≤ plst ps := by
  intro q hq
  obtain ⟨i, hi, e⟩ := List.getElem_of_mem hq
  have e2 : plst ps = (ps[ps.length - 1]'(by omega)).1 := by
    unfold plst
    rw [List.getD_eq_getElem?_getD, List.getElem?_eq_getElem (by omega)]
    rfl
  rw [e2]
  by_cases hl : i = ps.length - 1
  · subst hl
    rw [e]
    exact Int32.le_refl _
  · unfold rising at h
    rw [List.pairwise_iff_getElem] at h
    have := h i (ps.length - 1) hi (by omega) (by omega)
    rw [e, Int32.lt_iff_toInt_lt] at this
    rw [Int32.le_iff_toInt_le]
    omega
theorem asked_out {p1 p2 : Int32} {ps : List Pt} (h : rising ps) (ho : outB p1 p2 ps = true) : asked p1 p2 ps = [] := by
  unfold asked
  rw [List.filter_eq_nil_iff]
  intro q hq
  have h1 := rise_first h q hq
  have h2 := rise_last h q hq
  unfold outB at ho
  unfold inR
  simp only [Bool.or_eq_true, decide_eq_true_eq, Int32.lt_iff_toInt_lt] at ho
  simp only [Bool.and_eq_true, decide_eq_true_eq, Int32.le_iff_toInt_le]
  rw [Int32.le_iff_toInt_le] at h1 h2
  omega
theorem asked_all {p1 p2 : Int32} {ps : List Pt} (h : rising ps) (ho : allB p1 p2 ps = true) : asked p1 p2 ps = ps := by
  unfold asked
  rw [List.filter_eq_self]
  intro q hq
  have h1 := rise_first h q hq
  have h2 := rise_last h q hq
  unfold allB at ho
  unfold inR
  rw [Bool.not_eq_true', Bool.or_eq_false_iff, decide_eq_false_iff_not, decide_eq_false_iff_not, Int32.lt_iff_toInt_lt, Int32.lt_iff_toInt_lt] at ho
  simp only [Bool.and_eq_true, decide_eq_true_eq, Int32.le_iff_toInt_le]
  rw [Int32.le_iff_toInt_le] at h1 h2
  omega
theorem isOut_C (p1 p2 : Int32) (ps : List Pt) : m_X6_isOut (pfst ps) (plst ps) p1 p2 = some (nI (outB p1 p2 ps).toNat) := by
  rw [m_X6_isOut]
  unfold outB
  by_cases h1 : plst ps < p1
  · rw [if_pos h1, ob1_mk, decide_eq_true h1]; rfl
  · rw [if_neg h1, decide_eq_false h1]
    by_cases h2 : pfst ps ≤ p2
    · rw [if_pos h2, ob1_mk, decide_eq_false (fun q => lt_not_le.mp q h2)]; rfl
    · rw [if_neg h2, ob1_mk, decide_eq_true (lt_not_le.mpr h2)]; rfl
theorem isIn_C (p1 p2 : Int32) (ps : List Pt) : m_X6_isIn (pfst ps) (plst ps) p1 p2 = some (nI (allB p1 p2 ps).toNat) := by
  rw [m_X6_isIn]
  unfold allB
  by_cases h1 : pfst ps < p1
  · rw [if_pos h1, ob1_mk, decide_eq_true h1]; rfl
  · rw [if_neg h1, decide_eq_false h1]
    by_cases h2 : p2 < plst ps
    · rw [if_pos h2, ob1_mk, decide_eq_true h2]; rfl
    · rw [if_neg h2, ob1_mk, decide_eq_false h2]; rfl
theorem addEntry_sm {f : Nat → Int32} {e sd N most : Nat} {cs : List Ch} {hd : List Hd} (hD : DOk f e sd cs hd) (hW : ∀ c ∈ cs, chW N most c) {k : Nat} (hk : k < cs.length) {a : List Pt} (hl : a.length < 100000) : m_X6_addEntry f (pfst a) (plst a) (nI a.length) (pmin a) (pmax a) (psum a) (nI k) = some (pfst (a ++ (cs.getD k ch0).2.1), plst (a ++ (cs.getD k ch0).2.1), nI (a ++ (cs.getD k ch0).2.1).length, pmin (a ++ (cs.getD k ch0).2.1), pmax (a ++ (cs.getD k ch0).2.1), psum (a ++ (cs.getD k ch0).2.1)) := by
  have e1 : m_X3_at f (nI k) (1 : Int32) = some (pfst (cs.getD k ch0).2.1) := at_s hD hk (j := 1) (by omega)
  have e2 : m_X3_at f (nI k) (2 : Int32) = some (plst (cs.getD k ch0).2.1) := at_s hD hk (j := 2) (by omega)
  have e3 : m_X3_at f (nI k) (3 : Int32) = some (nI (cs.getD k ch0).2.1.length) := at_s hD hk (j := 3) (by omega)
  have e4 : m_X3_at f (nI k) (4 : Int32) = some (pmin (cs.getD k ch0).2.1) := at_s hD hk (j := 4) (by omega)
  have e5 : m_X3_at f (nI k) (5 : Int32) = some (pmax (cs.getD k ch0).2.1) := at_s hD hk (j := 5) (by omega)
  have e6 : m_X3_at f (nI k) (6 : Int32) = some (Int64.toInt32 (psum (cs.getD k ch0).2.1 >>> (Int32.toInt64 (32 : Int32) &&& 63))) := at_s hD hk (j := 6) (by omega)
  have e7 : m_X3_at f (nI k) (7 : Int32) = some (Int64.toInt32 (psum (cs.getD k ch0).2.1)) := at_s hD hk (j := 7) (by omega)
  have hne : (cs.getD k ch0).2.1 ≠ [] := by
    have := (hW _ (gd_mem ch0 hk)).2.1
    intro q
    rw [q] at this
    simp at this
  rw [m_X6_addEntry, e6, ob1_mk, e7, ob1_mk, e1, ob1_mk, e2, ob1_mk, e3, ob1_mk, e4, ob1_mk, e5, ob1_mk, join64, add_sm hne hl, ob6_mk]
theorem sumry_loop {f : Nat → Int32} {e sd N most : Nat} {cs : List Ch} {hd : List Hd} (hD : DOk f e sd cs hd) (hW : ∀ c ∈ cs, chW N most c) (hmo : most ≤ 64) {b : Nat} (hb : b ≤ cs.length) : ∀ (r k n : Nat) (a : List Pt), r + k = b → r < n → a.length + 64 * r < 90000 → lp_X0_summaryOf_9 f (nI b) n (nI k) (pfst a) (plst a) (nI a.length) (pmin a) (pmax a) (psum a) = some (pfst (a ++ fpts (sg cs k b)), plst (a ++ fpts (sg cs k b)), nI (a ++ fpts (sg cs k b)).length, pmin (a ++ fpts (sg cs k b)), pmax (a ++ fpts (sg cs k b)), psum (a ++ fpts (sg cs k b))) := by
  intro r
  have hl := hD.2.2.2.1
  induction r with
  | zero =>
    intro k n a hk hn _
    obtain ⟨m, rfl⟩ : ∃ m, n = m + 1 := ⟨n - 1, by omega⟩
    have : k = b := by omega
    subst this
    rw [lp_X0_summaryOf_9, if_pos (nI_le (by omega) (by omega)), sg_nil, show fpts [] = [] from rfl, List.append_nil]
  | succ r ih =>
    intro k n a hk hn ha
    obtain ⟨m, rfl⟩ : ∃ m, n = m + 1 := ⟨n - 1, by omega⟩
    have hlt : k < cs.length := by omega
    have hc := (hW _ (gd_mem ch0 hlt)).2.2.1
    rw [lp_X0_summaryOf_9, if_neg (nI_ge (by omega) (by omega)), addEntry_sm hD hW hlt (by omega), ob6_mk, nI_1, ih (k + 1) m _ (by omega) (by omega) (by rw [List.length_append]; omega), sg_cons (by omega) hlt, fpts_cons, ← List.append_assoc]
theorem sumry_C {f : Nat → Int32} {e sd N most : Nat} {cs : List Ch} {hd : List Hd} (hD : DOk f e sd cs hd) (hW : ∀ c ∈ cs, chW N most c) (hmo : most ≤ 64) {k b : Nat} (hkb : k ≤ b) (hb : b ≤ cs.length) (z1 z2 z3 z4 z5 : Int32) (z6 : Int64) : m_X0_summaryOf f z1 z2 z3 z4 z5 z6 (nI k) (nI b) = some (pfst (fpts (sg cs k b)), plst (fpts (sg cs k b)), nI (fpts (sg cs k b)).length, pmin (fpts (sg cs k b)), pmax (fpts (sg cs k b)), psum (fpts (sg cs k b))) := by
  have hl := hD.2.2.2.1
  have := sumry_loop hD hW hmo hb (b - k) k NN [] (by omega) (by unfold NN; omega) (by rw [List.length_nil]; omega)
  rw [List.nil_append] at this
  have this' : lp_X0_summaryOf_9 f (nI b) NN (nI k) (0 : Int32) (0 : Int32) (0 : Int32) (0 : Int32) (0 : Int32) (0 : Int64) = _ := this
  rw [m_X0_summaryOf, m_X6_clear, ob6_mk, this', ob6_mk]
theorem addIf_sm {a : List Pt} (hl : a.length < 100000) (q : Pt) (p1 p2 : Int32) : m_X0_addIfAsked (pfst a) (plst a) (nI a.length) (pmin a) (pmax a) (psum a) q.1 q.2 p1 p2 = some (pfst (a ++ asked p1 p2 [q]), plst (a ++ asked p1 p2 [q]), nI (a ++ asked p1 p2 [q]).length, pmin (a ++ asked p1 p2 [q]), pmax (a ++ asked p1 p2 [q]), psum (a ++ asked p1 p2 [q])) := by
  rw [m_X0_addIfAsked]
  by_cases h1 : q.1 < p1
  · have : asked p1 p2 [q] = [] := by
      unfold asked
      rw [List.filter_cons_of_neg (by unfold inR; rw [decide_eq_false (lt_not_le.mp h1)]; simp)]
      rfl
    rw [if_pos h1, ob6_mk, this, List.append_nil]
  · rw [if_neg h1]
    have h1' : p1 ≤ q.1 := by
      apply Classical.byContradiction
      intro h
      exact h1 (lt_not_le.mpr h)
    by_cases h2 : p2 < q.1
    · have : asked p1 p2 [q] = [] := by
        unfold asked
        rw [List.filter_cons_of_neg (by unfold inR; rw [decide_eq_false (lt_not_le.mp h2)]; simp)]
        rfl
      rw [if_pos h2, ob6_mk, this, List.append_nil]
    · have h2' : q.1 ≤ p2 := by
        apply Classical.byContradiction
        intro h
        exact h2 (lt_not_le.mpr h)
      have : asked p1 p2 [q] = [q] := by
        unfold asked
        rw [List.filter_cons_of_pos (by unfold inR; rw [decide_eq_true h1', decide_eq_true h2']; rfl)]
        rfl
      rw [if_neg h2, addPoint_sm hl, ob6_mk, ob6_mk, this]
theorem asked_len (p1 p2 : Int32) (ps : List Pt) : (asked p1 p2 ps).length ≤ ps.length := List.length_filter_le _ _
theorem asked_cons (p1 p2 : Int32) (q : Pt) (r : List Pt) : asked p1 p2 (q :: r) = asked p1 p2 [q] ++ asked p1 p2 r := asked_app p1 p2 [q] r
theorem ask99 {f : Nat → Int32} {c : Ch} {N most : Nat} (hc : chOk f c) (hW : chW N most c) (hmo : most ≤ 64) (p1 p2 : Int32) : ∀ (r k n : Nat) (br st t v : Int32) (rr : Int64) (a : List Pt), r + k = c.2.1.length → r < n → a.length + r < 90000 → UOk f c.2.2 c.2.1 k br st t v rr → ∃ (br' st' t' v' : Int32) (rr' : Int64), lp_X0_askEntries_99 f p1 p2 (nI c.2.1.length) (nI c.2.2) n (nI k) br st t v rr (pfst a) (plst a) (nI a.length) (pmin a) (pmax a) (psum a) = some (br', st', t', v', rr', pfst (a ++ asked p1 p2 (c.2.1.drop k)), plst (a ++ asked p1 p2 (c.2.1.drop k)), nI (a ++ asked p1 p2 (c.2.1.drop k)).length, pmin (a ++ asked p1 p2 (c.2.1.drop k)), pmax (a ++ asked p1 p2 (c.2.1.drop k)), psum (a ++ asked p1 p2 (c.2.1.drop k))) := by
  intro r
  have hl := hW.2.2.1
  induction r with
  | zero =>
    intro k n br st t v rr a hk hn ha hU
    obtain ⟨m, rfl⟩ : ∃ m, n = m + 1 := ⟨n - 1, by omega⟩
    rw [lp_X0_askEntries_99, if_pos (nI_le (by omega) (by omega)), List.drop_eq_nil_of_le (by omega), show asked p1 p2 [] = [] from rfl, List.append_nil]
    exact ⟨_, _, _, _, _, rfl⟩
  | succ r ih =>
    intro k n br st t v rr a hk hn ha hU
    obtain ⟨m, rfl⟩ : ∃ m, n = m + 1 := ⟨n - 1, by omega⟩
    have hlt : k < c.2.1.length := by omega
    obtain ⟨br', rr', e1, hU'⟩ := step_U hc hW hmo hlt hU
    have h1 := asked_len p1 p2 [c.2.1.getD k (0, 0)]
    rw [List.length_singleton] at h1
    rw [lp_X0_askEntries_99, if_neg (nI_ge hlt (by omega)), e1, ob5_mk, addIf_sm (by omega), ob6_mk, nI_1, drop_cons (0, 0) hlt, asked_cons p1 p2 _ (c.2.1.drop (k + 1)), ← List.append_assoc]
    exact ih (k + 1) m _ _ _ _ _ (a ++ asked p1 p2 [c.2.1.getD k (0, 0)]) (by omega) (by omega) (by rw [List.length_append]; omega) hU'
/-- how many of these would have to be unpacked -/
def unp (p1 p2 : Int32) (l : List Ch) : Nat := (l.filter (fun c => partB p1 p2 c.2.1)).length
theorem unp_cons (p1 p2 : Int32) (c : Ch) (l : List Ch) : unp p1 p2 (c :: l) = (if partB p1 p2 c.2.1 = true then 1 else 0) + unp p1 p2 l := by
  unfold unp
  by_cases h : partB p1 p2 c.2.1 = true
  · rw [List.filter_cons_of_pos (p := fun c : Ch => partB p1 p2 c.2.1) h, List.length_cons, if_pos h]; omega
  · rw [List.filter_cons_of_neg (p := fun c : Ch => partB p1 p2 c.2.1) h, if_neg h]; omega
theorem askE_loop {f : Nat → Int32} {e sd N most : Nat} {cs : List Ch} {hd : List Hd} (hD : DOk f e sd cs hd) (hW : ∀ c ∈ cs, chW N most c) (hmo : most ≤ 64) {b : Nat} (hb : b ≤ cs.length) (p1 p2 : Int32) : ∀ (r k n lo un : Nat) (a : List Pt) (up br st t v : Int32) (rr : Int64) (z1 z2 z3 z4 z5 : Int32) (z6 : Int64), r + k = b → r < n → a.length + 64 * r < 90000 → (∀ c ∈ sg cs k b, rising c.2.1) →
    ∃ (up' br' st' t' v' : Int32) (rr' : Int64) (z1' z2' z3' z4' z5' : Int32) (z6' : Int64), lp_X0_askEntries_3 f (nI b) p1 p2 n (nI k) up br st t v rr (nI lo) (nI un) (pfst a) (plst a) (nI a.length) (pmin a) (pmax a) (psum a) z1 z2 z3 z4 z5 z6 = some (up', br', st', t', v', rr', nI (lo + (sg cs k b).length), nI (un + unp p1 p2 (sg cs k b)), pfst (a ++ asked p1 p2 (fpts (sg cs k b))), plst (a ++ asked p1 p2 (fpts (sg cs k b))), nI (a ++ asked p1 p2 (fpts (sg cs k b))).length, pmin (a ++ asked p1 p2 (fpts (sg cs k b))), pmax (a ++ asked p1 p2 (fpts (sg cs k b))), psum (a ++ asked p1 p2 (fpts (sg cs k b))), z1', z2', z3', z4', z5', z6') := by
  intro r
  have hl := hD.2.2.2.1
  induction r with
  | zero =>
    intro k n lo un a up br st t v rr z1 z2 z3 z4 z5 z6 hk hn ha hR
    obtain ⟨m, rfl⟩ : ∃ m, n = m + 1 := ⟨n - 1, by omega⟩
    have : k = b := by omega
    subst this
    rw [lp_X0_askEntries_3, if_pos (nI_le (by omega) (by omega)), sg_nil, show asked p1 p2 (fpts []) = [] from rfl, List.append_nil]
    exact ⟨_, _, _, _, _, _, _, _, _, _, _, _, rfl⟩
  | succ r ih =>
    intro k n lo un a up br st t v rr z1 z2 z3 z4 z5 z6 hk hn ha hR
    obtain ⟨m, rfl⟩ : ∃ m, n = m + 1 := ⟨n - 1, by omega⟩
    have hlt : k < cs.length := by omega
    have hcm := gd_mem ch0 hlt
    have hw := hW _ hcm
    have hc := hw.2.2.1
    have e1 : fpts (sg cs k (k + 1)) = (cs.getD k ch0).2.1 := by rw [sg_snoc (Nat.le_refl k) hlt, sg_nil, List.nil_append, fpts_one]
    have hsum := sumry_C hD hW hmo (show k ≤ k + 1 by omega) (show k + 1 ≤ cs.length by omega) z1 z2 z3 z4 z5 z6
    rw [e1] at hsum
    have esg := sg_cons (cs := cs) (show k < b by omega) hlt
    rw [esg] at hR ⊢
    have hri := hR _ List.mem_cons_self
    have hR' : ∀ c ∈ sg cs (k + 1) b, rising c.2.1 := fun c hc => hR c (List.mem_cons_of_mem _ hc)
    rw [lp_X0_askEntries_3, if_neg (nI_ge (by omega) (by omega)), nI_1, hsum, ob6_mk, isOut_C, ob1_mk, fpts_cons, asked_app, ← List.append_assoc, unp_cons, List.length_cons, nI_1]
    have hal := asked_len p1 p2 (cs.getD k ch0).2.1
    cases ho : outB p1 p2 (cs.getD k ch0).2.1 with
    | true =>
      have hp : ¬ partB p1 p2 (cs.getD k ch0).2.1 = true := by unfold partB; rw [ho]; simp
      rw [if_neg (by decide), ob13_mk, asked_out hri ho, List.append_nil, if_neg hp]
      have := ih (k + 1) m (lo + 1) un a up br st t v rr (pfst (cs.getD k ch0).2.1) (plst (cs.getD k ch0).2.1) (nI (cs.getD k ch0).2.1.length) (pmin (cs.getD k ch0).2.1) (pmax (cs.getD k ch0).2.1) (psum (cs.getD k ch0).2.1) (by omega) (by omega) (by omega) hR'
      rw [show lo + 1 + (sg cs (k + 1) b).length = lo + ((sg cs (k + 1) b).length + 1) by omega] at this
      rw [nI_1, Nat.zero_add]
      exact this
    | false =>
      rw [if_pos (by decide), isIn_C, ob1_mk]
      cases hal2 : allB p1 p2 (cs.getD k ch0).2.1 with
      | true =>
        have hp : ¬ partB p1 p2 (cs.getD k ch0).2.1 = true := by unfold partB; rw [hal2]; simp
        have hne : (cs.getD k ch0).2.1 ≠ [] := by
          have := hw.2.1
          intro q
          rw [q] at this
          simp at this
        rw [if_neg (by decide), m_X6_addSummary, add_sm hne (by omega), ob6_mk, ob6_mk, ob13_mk, asked_all hri hal2, if_neg hp]
        have := ih (k + 1) m (lo + 1) un (a ++ (cs.getD k ch0).2.1) up br st t v rr (pfst (cs.getD k ch0).2.1) (plst (cs.getD k ch0).2.1) (nI (cs.getD k ch0).2.1.length) (pmin (cs.getD k ch0).2.1) (pmax (cs.getD k ch0).2.1) (psum (cs.getD k ch0).2.1) (by omega) (by omega) (by rw [List.length_append]; omega) hR'
        rw [show lo + 1 + (sg cs (k + 1) b).length = lo + ((sg cs (k + 1) b).length + 1) by omega] at this
        rw [nI_1, Nat.zero_add]
        exact this
      | false =>
        have hp : partB p1 p2 (cs.getD k ch0).2.1 = true := by unfold partB; rw [ho, hal2]; rfl
        have e8 : m_X3_at f (nI k) (8 : Int32) = some (nI (cs.getD k ch0).2.2) := at_s hD hlt (j := 8) (by omega)
        obtain ⟨br', st', t', v', rr', e9⟩ := ask99 (hD.2.2.2.2.2.1 _ hcm) hw hmo p1 p2 (cs.getD k ch0).2.1.length 0 NN (nI 0) 0 t v rr a (by omega) (by unfold NN; omega) (by omega) (Or.inl ⟨rfl, rfl, rfl⟩)
        rw [List.drop_zero] at e9
        have e9' : lp_X0_askEntries_99 f p1 p2 (nI (cs.getD k ch0).2.1.length) (nI (cs.getD k ch0).2.2) NN (0 : Int32) (0 : Int32) (0 : Int32) t v rr (pfst a) (plst a) (nI a.length) (pmin a) (pmax a) (psum a) = _ := e9
        rw [if_pos (by decide), e8, ob1_mk, m_X8_open, ob3_mk, e9', ob11_mk, ob13_mk, if_pos hp]
        have := ih (k + 1) m (lo + 1) (un + 1) (a ++ asked p1 p2 (cs.getD k ch0).2.1) (nI (cs.getD k ch0).2.2) br' st' t' v' rr' (pfst (cs.getD k ch0).2.1) (plst (cs.getD k ch0).2.1) (nI (cs.getD k ch0).2.1.length) (pmin (cs.getD k ch0).2.1) (pmax (cs.getD k ch0).2.1) (psum (cs.getD k ch0).2.1) (by omega) (by omega) (by rw [List.length_append]; omega) hR'
        rw [show lo + 1 + (sg cs (k + 1) b).length = lo + ((sg cs (k + 1) b).length + 1) by omega, show un + 1 + unp p1 p2 (sg cs (k + 1) b) = un + (1 + unp p1 p2 (sg cs (k + 1) b)) by omega] at this
        rw [nI_1]
        exact this
/-- looks and unpacked chunks, group by group -/
def lkG (ρ : Nat) (p1 p2 : Int32) : Nat → List Ch → Nat × Nat
  | 0, _ => (0, 0)
  | n + 1, l => if l = [] then (0, 0) else if partB p1 p2 (fpts (l.take ρ)) = true then (1 + (l.take ρ).length + (lkG ρ p1 p2 n (l.drop ρ)).1, unp p1 p2 (l.take ρ) + (lkG ρ p1 p2 n (l.drop ρ)).2) else (1 + (lkG ρ p1 p2 n (l.drop ρ)).1, (lkG ρ p1 p2 n (l.drop ρ)).2)
theorem lkG_nil (ρ : Nat) (p1 p2 : Int32) (n : Nat) : lkG ρ p1 p2 n [] = (0, 0) := by
  cases n with
  | zero => rfl
  | succ n => show (if _ then _ else _) = _; rw [if_pos rfl]
theorem sg_take (cs : List Ch) {k ρ b : Nat} (hkb : k ≤ b) : (sg cs k b).take ρ = sg cs k (min b (k + ρ)) := by
  unfold sg
  rw [List.take_take]
  congr 1
  omega
theorem sg_drop (cs : List Ch) {k ρ b : Nat} : (sg cs k b).drop ρ = sg cs (k + ρ) b := by
  unfold sg
  rw [List.drop_take, List.drop_drop]
  congr 1
  omega
theorem sg_len {cs : List Ch} {k b : Nat} (hb : b ≤ cs.length) : (sg cs k b).length = b - k := by
  unfold sg
  rw [List.length_take, List.length_drop]
  omega
theorem fpts_sub {a b : List Ch} (h : a.Sublist b) : (fpts a).Sublist (fpts b) := by
  unfold fpts
  induction h with
  | slnil => exact List.Sublist.refl _
  | cons x h ih => rw [List.flatMap_cons]; exact ih.trans (List.sublist_append_right _ _)
  | cons_cons x h ih => rw [List.flatMap_cons, List.flatMap_cons]; exact List.Sublist.append (List.Sublist.refl _) ih
theorem rise_sub {a b : List Ch} (h : a.Sublist b) (hr : rising (fpts b)) : rising (fpts a) := List.Pairwise.sublist (fpts_sub h) hr
theorem rise_mem {l : List Ch} (hr : rising (fpts l)) {c : Ch} (hc : c ∈ l) : rising c.2.1 := by
  have := rise_sub (List.singleton_sublist.mpr hc) hr
  rw [fpts_one] at this
  exact this
/-- the loop's step: RATIO, as it is never below 2 -/
theorem step_nI {ρ : Nat} (hρ : 2 ≤ ρ) (hρ2 : ρ ≤ 64) : (if (2 : Int32) < nI ρ then nI ρ else (2 : Int32)) = nI ρ := by
  by_cases h : 2 < ρ
  · rw [if_pos (show (2 : Int32) < nI ρ from nI_lt (a := 2) h (by omega))]
  · have : ρ = 2 := by omega
    subst this
    rfl
theorem ask_loop {f : Nat → Int32} {e sd N most : Nat} {cs : List Ch} {hd : List Hd} (hD : DOk f e sd cs hd) (hW : ∀ c ∈ cs, chW N most c) (hmo : most ≤ 64) {ρ : Nat} (hρ : 2 ≤ ρ) (hρ2 : ρ ≤ 64) {b : Nat} (hb : b ≤ cs.length) (p1 p2 : Int32) : ∀ (r k n lo un : Nat) (a : List Pt) (up br st t v : Int32) (rr : Int64) (z1 z2 z3 z4 z5 : Int32) (z6 : Int64), b - k ≤ r → r < n → k ≤ b + 64 → a.length + 64 * (b - k) < 90000 → rising (fpts (sg cs k b)) →
    ∃ (up' br' st' t' v' : Int32) (rr' : Int64) (z1' z2' z3' z4' z5' : Int32) (z6' : Int64), lp_X0_ask_47 f (nI ρ) p1 p2 (nI b) n (nI k) up br st t v rr (nI lo) (nI un) (pfst a) (plst a) (nI a.length) (pmin a) (pmax a) (psum a) z1 z2 z3 z4 z5 z6 = some (up', br', st', t', v', rr', nI (lo + (lkG ρ p1 p2 r (sg cs k b)).1), nI (un + (lkG ρ p1 p2 r (sg cs k b)).2), pfst (a ++ asked p1 p2 (fpts (sg cs k b))), plst (a ++ asked p1 p2 (fpts (sg cs k b))), nI (a ++ asked p1 p2 (fpts (sg cs k b))).length, pmin (a ++ asked p1 p2 (fpts (sg cs k b))), pmax (a ++ asked p1 p2 (fpts (sg cs k b))), psum (a ++ asked p1 p2 (fpts (sg cs k b))), z1', z2', z3', z4', z5', z6') := by
  intro r
  have hl := hD.2.2.2.1
  have hend : ∀ (r k n lo un : Nat) (a : List Pt) (up br st t v : Int32) (rr : Int64) (z1 z2 z3 z4 z5 : Int32) (z6 : Int64), b ≤ k → k ≤ b + 64 → 0 < n → ∃ (up' br' st' t' v' : Int32) (rr' : Int64) (z1' z2' z3' z4' z5' : Int32) (z6' : Int64), lp_X0_ask_47 f (nI ρ) p1 p2 (nI b) n (nI k) up br st t v rr (nI lo) (nI un) (pfst a) (plst a) (nI a.length) (pmin a) (pmax a) (psum a) z1 z2 z3 z4 z5 z6 = some (up', br', st', t', v', rr', nI (lo + (lkG ρ p1 p2 r (sg cs k b)).1), nI (un + (lkG ρ p1 p2 r (sg cs k b)).2), pfst (a ++ asked p1 p2 (fpts (sg cs k b))), plst (a ++ asked p1 p2 (fpts (sg cs k b))), nI (a ++ asked p1 p2 (fpts (sg cs k b))).length, pmin (a ++ asked p1 p2 (fpts (sg cs k b))), pmax (a ++ asked p1 p2 (fpts (sg cs k b))), psum (a ++ asked p1 p2 (fpts (sg cs k b))), z1', z2', z3', z4', z5', z6') := by
    intro r k n lo un a up br st t v rr z1 z2 z3 z4 z5 z6 hbk hk64 hn
    obtain ⟨m, rfl⟩ : ∃ m, n = m + 1 := ⟨n - 1, by omega⟩
    have e0 : sg cs k b = [] := by unfold sg; rw [show b - k = 0 by omega, List.take_zero]
    rw [lp_X0_ask_47, if_pos (nI_le hbk (by omega)), e0, lkG_nil, show asked p1 p2 (fpts []) = [] from rfl, List.append_nil]
    exact ⟨_, _, _, _, _, _, _, _, _, _, _, _, rfl⟩
  induction r with
  | zero =>
    intro k n lo un a up br st t v rr z1 z2 z3 z4 z5 z6 hk hn hk64 ha hR
    exact hend 0 k n lo un a up br st t v rr z1 z2 z3 z4 z5 z6 (by omega) hk64 (by omega)
  | succ r ih =>
    intro k n lo un a up br st t v rr z1 z2 z3 z4 z5 z6 hk hn hk64 ha hR
    by_cases hbk : b ≤ k
    · exact hend (r + 1) k n lo un a up br st t v rr z1 z2 z3 z4 z5 z6 hbk hk64 (by omega)
    · obtain ⟨m, rfl⟩ : ∃ m, n = m + 1 := ⟨n - 1, by omega⟩
      have eif : (if nI b < (nI k + nI ρ) then nI b else (nI k + nI ρ)) = nI (min b (k + ρ)) := by
        rw [nI_add]
        by_cases h : b < k + ρ
        · rw [if_pos (nI_lt h (by omega)), show min b (k + ρ) = b by omega]
        · rw [if_neg (nI_nlt (by omega) (by omega)), show min b (k + ρ) = k + ρ by omega]
      have hne : sg cs k b ≠ [] := fun q => by
        have := sg_len (cs := cs) (k := k) hb
        rw [q] at this
        simp at this
        omega
      have hsum := sumry_C hD hW hmo (show k ≤ min b (k + ρ) by omega) (show min b (k + ρ) ≤ cs.length by omega) z1 z2 z3 z4 z5 z6
      have etk : (sg cs k b).take ρ = sg cs k (min b (k + ρ)) := sg_take cs (by omega)
      have edr : (sg cs k b).drop ρ = sg cs (k + ρ) b := sg_drop cs
      have esp : sg cs k b = sg cs k (min b (k + ρ)) ++ sg cs (k + ρ) b := by
        rw [← etk, ← edr, List.take_append_drop]
      have hR1 : rising (fpts (sg cs k (min b (k + ρ)))) := by rw [← etk]; exact rise_sub (List.take_sublist _ _) hR
      have hR2 : rising (fpts (sg cs (k + ρ) b)) := by rw [← edr]; exact rise_sub (List.drop_sublist _ _) hR
      have hgl : (sg cs k (min b (k + ρ))).length = min b (k + ρ) - k := sg_len (by omega)
      have hfl : ∀ l : List Ch, (∀ c ∈ l, c.2.1.length ≤ 64) → (fpts l).length ≤ 64 * l.length := by
        intro l
        induction l with
        | nil => intro _; simp [fpts]
        | cons c l ihl =>
          intro hc
          have h1 := hc c List.mem_cons_self
          have h2 := ihl (fun x hx => hc x (List.mem_cons_of_mem _ hx))
          rw [fpts_cons, List.length_append, List.length_cons]
          omega
      have hgp : (fpts (sg cs k (min b (k + ρ)))).length ≤ 64 * (min b (k + ρ) - k) := by
        have := hfl (sg cs k (min b (k + ρ))) (fun c hc => chW_64 hW hmo c (by unfold sg at hc; exact List.mem_of_mem_drop (List.mem_of_mem_take hc)))
        rw [hgl] at this
        exact this
      have eas : asked p1 p2 (fpts (sg cs k b)) = asked p1 p2 (fpts (sg cs k (min b (k + ρ)))) ++ asked p1 p2 (fpts (sg cs (k + ρ) b)) := by rw [← asked_app, ← fpts_app, ← esp]
      have hal := asked_len p1 p2 (fpts (sg cs k (min b (k + ρ))))
      rw [lp_X0_ask_47, step_nI hρ hρ2, if_neg (nI_ge (by omega) (by omega)), eif, hsum, ob6_mk, isOut_C, ob1_mk, nI_1, nI_add, eas, ← List.append_assoc]
      have elk : lkG ρ p1 p2 (r + 1) (sg cs k b) = if partB p1 p2 (fpts (sg cs k (min b (k + ρ)))) = true then (1 + (sg cs k (min b (k + ρ))).length + (lkG ρ p1 p2 r (sg cs (k + ρ) b)).1, unp p1 p2 (sg cs k (min b (k + ρ))) + (lkG ρ p1 p2 r (sg cs (k + ρ) b)).2) else (1 + (lkG ρ p1 p2 r (sg cs (k + ρ) b)).1, (lkG ρ p1 p2 r (sg cs (k + ρ) b)).2) := by
        show (if _ then _ else _) = _
        rw [if_neg hne, etk, edr]
      rw [elk]
      cases ho : outB p1 p2 (fpts (sg cs k (min b (k + ρ)))) with
      | true =>
        have hp : ¬ partB p1 p2 (fpts (sg cs k (min b (k + ρ)))) = true := by unfold partB; rw [ho]; simp
        rw [if_neg (by decide), ob20_mk, asked_out hR1 ho, List.append_nil, if_neg hp]
        have := ih (k + ρ) m (lo + 1) un a up br st t v rr (pfst (fpts (sg cs k (min b (k + ρ))))) (plst (fpts (sg cs k (min b (k + ρ))))) (nI (fpts (sg cs k (min b (k + ρ)))).length) (pmin (fpts (sg cs k (min b (k + ρ))))) (pmax (fpts (sg cs k (min b (k + ρ))))) (psum (fpts (sg cs k (min b (k + ρ))))) (by omega) (by omega) (by omega) (by omega) hR2
        rw [Nat.add_assoc lo 1] at this
        exact this
      | false =>
        rw [if_pos (by decide), isIn_C, ob1_mk]
        cases hal2 : allB p1 p2 (fpts (sg cs k (min b (k + ρ)))) with
        | true =>
          have hp : ¬ partB p1 p2 (fpts (sg cs k (min b (k + ρ)))) = true := by unfold partB; rw [hal2]; simp
          have hne2 : fpts (sg cs k (min b (k + ρ))) ≠ [] := fpts_ne (N := N) (most := most) (fun c hc => hW c (by unfold sg at hc; exact List.mem_of_mem_drop (List.mem_of_mem_take hc))) (by rw [hgl]; omega)
          rw [if_neg (by decide), m_X6_addSummary, add_sm hne2 (by omega), ob6_mk, ob6_mk, ob20_mk, asked_all hR1 hal2, if_neg hp]
          have := ih (k + ρ) m (lo + 1) un (a ++ fpts (sg cs k (min b (k + ρ)))) up br st t v rr (pfst (fpts (sg cs k (min b (k + ρ))))) (plst (fpts (sg cs k (min b (k + ρ))))) (nI (fpts (sg cs k (min b (k + ρ)))).length) (pmin (fpts (sg cs k (min b (k + ρ))))) (pmax (fpts (sg cs k (min b (k + ρ))))) (psum (fpts (sg cs k (min b (k + ρ))))) (by omega) (by omega) (by omega) (by rw [List.length_append]; omega) hR2
          rw [Nat.add_assoc lo 1] at this
          exact this
        | false =>
          have hp : partB p1 p2 (fpts (sg cs k (min b (k + ρ)))) = true := by unfold partB; rw [ho, hal2]; rfl
          obtain ⟨u1, u2, u3, u4, u5, u6, y1, y2, y3, y4, y5, y6, e9⟩ := askE_loop hD hW hmo (show min b (k + ρ) ≤ cs.length by omega) p1 p2 (min b (k + ρ) - k) k NN (lo + 1) un a up br st t v rr (pfst (fpts (sg cs k (min b (k + ρ))))) (plst (fpts (sg cs k (min b (k + ρ))))) (nI (fpts (sg cs k (min b (k + ρ)))).length) (pmin (fpts (sg cs k (min b (k + ρ))))) (pmax (fpts (sg cs k (min b (k + ρ))))) (psum (fpts (sg cs k (min b (k + ρ))))) (by omega) (by unfold NN; omega) (by omega) (fun c hc => rise_mem hR1 hc)
          rw [if_pos (by decide), m_X0_askEntries, e9, ob20_mk, ob20_mk, ob20_mk, if_pos hp]
          have := ih (k + ρ) m (lo + 1 + (sg cs k (min b (k + ρ))).length) (un + unp p1 p2 (sg cs k (min b (k + ρ)))) (a ++ asked p1 p2 (fpts (sg cs k (min b (k + ρ))))) u1 u2 u3 u4 u5 u6 y1 y2 y3 y4 y5 y6 (by omega) (by omega) (by omega) (by rw [List.length_append]; omega) hR2
          rw [show lo + 1 + (sg cs k (min b (k + ρ))).length + (lkG ρ p1 p2 r (sg cs (k + ρ) b)).1 = lo + (1 + (sg cs k (min b (k + ρ))).length + (lkG ρ p1 p2 r (sg cs (k + ρ) b)).1) by omega, Nat.add_assoc un] at this
          exact this
theorem askH_loop {f : Nat → Int32} {e : Nat} {hd : List Hd} (hlg : lgOk f e hd) {N s : Nat} (hN : N < 900) (hh : ∀ x ∈ hd, x.1 < N) (hs : s < 900) (p1 p2 : Int32) : ∀ (r k n : Nat) (a : List Pt), r + k = hd.length → r < n → a.length + r < 90000 → lp_X0_askHead_3 f (nI hd.length) (nI s) p1 p2 n (nI k) (pfst a) (plst a) (nI a.length) (pmin a) (pmax a) (psum a) = some (pfst (a ++ asked p1 p2 (hdOf s (hd.drop k))), plst (a ++ asked p1 p2 (hdOf s (hd.drop k))), nI (a ++ asked p1 p2 (hdOf s (hd.drop k))).length, pmin (a ++ asked p1 p2 (hdOf s (hd.drop k))), pmax (a ++ asked p1 p2 (hdOf s (hd.drop k))), psum (a ++ asked p1 p2 (hdOf s (hd.drop k)))) := by
  intro r
  have hl := hlg.1
  induction r with
  | zero =>
    intro k n a hk hn ha
    obtain ⟨m, rfl⟩ : ∃ m, n = m + 1 := ⟨n - 1, by omega⟩
    rw [lp_X0_askHead_3, m_X4_logged, ob1_mk, if_pos (nI_le (by omega) (by omega)), List.drop_eq_nil_of_le (by omega), show asked p1 p2 (hdOf s []) = [] from rfl, List.append_nil]
  | succ r ih =>
    intro k n a hk hn ha
    obtain ⟨m, rfl⟩ : ∃ m, n = m + 1 := ⟨n - 1, by omega⟩
    have hlt : k < hd.length := by omega
    have hsN := hh _ (gd_mem hd0 hlt)
    have e0 : m_X4_at f (nI k) (0 : Int32) = some (nI (hd.getD k hd0).1) := logat_s hlg hlt (j := 0) (by omega)
    have e1 : m_X4_at f (nI k) (1 : Int32) = some (hd.getD k hd0).2.1 := logat_s hlg hlt (j := 1) (by omega)
    have e2 : m_X4_at f (nI k) (2 : Int32) = some (hd.getD k hd0).2.2 := logat_s hlg hlt (j := 2) (by omega)
    have ehd : hdOf s (hd.drop k) = (if (hd.getD k hd0).1 = s then [(hd.getD k hd0).2] else []) ++ hdOf s (hd.drop (k + 1)) := by
      rw [drop_cons hd0 hlt, show hd.getD k hd0 :: hd.drop (k + 1) = [hd.getD k hd0] ++ hd.drop (k + 1) from rfl, hdOf_app, hdOf_one]
    rw [lp_X0_askHead_3, m_X4_logged, ob1_mk, if_neg (nI_ge hlt (by omega)), e0, ob1_mk, ehd, nI_1]
    by_cases hss : (hd.getD k hd0).1 = s
    · have h1 := asked_len p1 p2 [(hd.getD k hd0).2]
      rw [List.length_singleton] at h1
      rw [if_pos (by rw [hss]), if_pos hss, e1, ob1_mk, e2, ob1_mk, addIf_sm (by omega), ob6_mk, ob6_mk, asked_app, ← List.append_assoc]
      exact ih (k + 1) m (a ++ asked p1 p2 [(hd.getD k hd0).2]) (by omega) (by omega) (by rw [List.length_append]; omega)
    · rw [if_neg (fun q => hss ((nI_eq (by omega) (by omega)).mp q)), if_neg hss, ob6_mk, List.nil_append]
      exact ih (k + 1) m a (by omega) (by omega) (by omega)
/-- what is asked for -/
def askL (s : Nat) (p1 p2 : Int32) (cs : List Ch) (hd : List Hd) : List Pt := asked p1 p2 (ptsOf s cs ++ hdOf s hd)
def chS (s : Nat) (cs : List Ch) : List Ch := cs.filter (fun c => c.1 == s)
theorem ask_C {f : Nat → Int32} {e sd N most : Nat} {cs : List Ch} {hd : List Hd} (hD : DOk f e sd cs hd) (hS : SOk N most cs hd) (hN : N ≤ 8) (hmo : most ≤ 64) {ρ : Nat} (hρ : 2 ≤ ρ) (hρ2 : ρ ≤ 64) {s : Nat} (hs : s < N) (p1 p2 : Int32) (up br st t v : Int32) (rr : Int64) (lo un f1 f2 f3 f4 f5 : Int32) (f6 : Int64) (z1 z2 z3 z4 z5 : Int32) (z6 : Int64) :
    ∃ (up' br' st' t' v' : Int32) (rr' : Int64) (z1' z2' z3' z4' z5' : Int32) (z6' : Int64), m_X0_ask f (nI hd.length) up br st t v rr (nI ρ) lo un f1 f2 f3 f4 f5 f6 z1 z2 z3 z4 z5 z6 (nI s) p1 p2 = some (up', br', st', t', v', rr', nI (lkG ρ p1 p2 96 (chS s cs)).1, nI (lkG ρ p1 p2 96 (chS s cs)).2, pfst (askL s p1 p2 cs hd), plst (askL s p1 p2 cs hd), nI (askL s p1 p2 cs hd).length, pmin (askL s p1 p2 cs hd), pmax (askL s p1 p2 cs hd), psum (askL s p1 p2 cs hd), z1', z2', z3', z4', z5', z6') := by
  have hl := hD.2.2.2.1
  have hlg := hD.2.2.2.2.2.2
  obtain ⟨g1, g2⟩ := seg_filter hS.2.2.1 s
  have g1' : sg cs (fo s cs) (fo (s + 1) cs) = chS s cs := g1
  have hfo := fo_le (s + 1) cs
  have hpts : ptsOf s cs = fpts (chS s cs) := rfl
  have hR : rising (fpts (sg cs (fo s cs) (fo (s + 1) cs))) := by
    rw [g1', ← hpts]
    exact rising_left (hS.2.2.2.2 s)
  obtain ⟨u1, u2, u3, u4, u5, u6, y1, y2, y3, y4, y5, y6, e1⟩ := ask_loop hD hS.1 hmo hρ hρ2 hfo p1 p2 96 (fo s cs) NN 0 0 [] up br st t v rr z1 z2 z3 z4 z5 z6 (by omega) (by unfold NN; omega) (by omega) (by rw [List.length_nil]; omega) hR
  rw [g1', List.nil_append, Nat.zero_add, Nat.zero_add] at e1
  have e1' : lp_X0_ask_47 f (nI ρ) p1 p2 (nI (fo (s + 1) cs)) NN (nI (fo s cs)) up br st t v rr (0 : Int32) (0 : Int32) (0 : Int32) (0 : Int32) (0 : Int32) (0 : Int32) (0 : Int32) (0 : Int64) z1 z2 z3 z4 z5 z6 = _ := e1
  have hal := asked_len p1 p2 (fpts (chS s cs))
  have hfl : ∀ l : List Ch, (∀ c ∈ l, c.2.1.length ≤ 64) → (fpts l).length ≤ 64 * l.length := by
    intro l
    induction l with
    | nil => intro _; simp [fpts]
    | cons c l ihl =>
      intro hc
      have h1 := hc c List.mem_cons_self
      have h2 := ihl (fun x hx => hc x (List.mem_cons_of_mem _ hx))
      rw [fpts_cons, List.length_append, List.length_cons]
      omega
  have hfl2 := hfl (chS s cs) (fun c hc => chW_64 hS.1 hmo c (List.mem_filter.mp hc).1)
  have hfl3 : (chS s cs).length ≤ cs.length := List.length_filter_le _ _
  have e2 := askH_loop hlg (N := N) (by omega) hS.2.2.2.1 (show s < 900 by omega) p1 p2 hd.length 0 NN (asked p1 p2 (fpts (chS s cs))) (by omega) (by have := hlg.1; unfold NN; omega) (by have := hlg.1; omega)
  rw [List.drop_zero, ← asked_app] at e2
  have e2' : lp_X0_askHead_3 f (nI hd.length) (nI s) p1 p2 NN (0 : Int32) _ _ _ _ _ _ = _ := e2
  refine ⟨u1, u2, u3, u4, u5, u6, y1, y2, y3, y4, y5, y6, ?_⟩
  rw [m_X0_ask, endOf_s hD (N := N) (by omega) (fun c hc => (hS.1 c hc).1) (by omega), ob1_mk, m_X6_clear, ob6_mk, firstOf_s hD (N := N) (by omega) (fun c hc => (hS.1 c hc).1) (by omega), ob1_mk, e1', ob20_mk, m_X0_askHead, e2', ob6_mk, ob6_mk]
  rfl
