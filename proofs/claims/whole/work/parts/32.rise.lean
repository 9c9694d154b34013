/-! a series' chunks stand side by side; is a time above all of a series' times? -/
theorem takeWhile_all {α : Type} {p : α → Bool} {l : List α} : ∀ x ∈ l.takeWhile p, p x = true := by
  induction l with
  | nil => intro x hx; simp at hx
  | cons a l ih =>
    intro x hx
    by_cases h : p a = true
    · rw [List.takeWhile_cons_of_pos h] at hx
      rcases List.mem_cons.mp hx with rfl | hx
      · exact h
      · exact ih x hx
    · rw [List.takeWhile_cons_of_neg h] at hx
      simp at hx
theorem dropWhile_sorted {l : List Ch} {s : Nat} (h : l.Pairwise (fun a b => a.1 ≤ b.1)) : ∀ x ∈ l.dropWhile (fun c => decide (c.1 < s)), s ≤ x.1 := by
  induction l with
  | nil => intro x hx; simp at hx
  | cons a l ih =>
    intro x hx
    obtain ⟨h1, h2⟩ := List.pairwise_cons.mp h
    by_cases hp : a.1 < s
    · rw [List.dropWhile_cons_of_pos (by simpa using hp)] at hx
      exact ih h2 x hx
    · rw [List.dropWhile_cons_of_neg (by simpa using hp)] at hx
      rcases List.mem_cons.mp hx with rfl | hx
      · omega
      · have := h1 x hx; omega
theorem fo_app {A B : List Ch} {s : Nat} (hA : ∀ c ∈ A, c.1 < s) (hB : ∀ c ∈ B, s ≤ c.1) : fo s (A ++ B) = A.length := by
  unfold fo
  induction A with
  | nil =>
    cases B with
    | nil => rfl
    | cons b B =>
      have := hB b List.mem_cons_self
      rw [List.nil_append, List.takeWhile_cons_of_neg (by simp; omega)]
  | cons a A ih =>
    rw [List.cons_append, List.takeWhile_cons_of_pos (by simpa using hA a List.mem_cons_self), List.length_cons, ih (fun c hc => hA c (List.mem_cons_of_mem _ hc)), List.length_cons]
/-- before, of, behind a series -/
theorem segs {cs : List Ch} (h : cs.Pairwise (fun a b => a.1 ≤ b.1)) (s : Nat) : ∃ A B C : List Ch, cs = A ++ (B ++ C) ∧ (∀ c ∈ A, c.1 < s) ∧ (∀ c ∈ B, c.1 = s) ∧ (∀ c ∈ C, s < c.1) ∧ fo s cs = A.length ∧ fo (s + 1) cs = A.length + B.length ∧ cs.filter (fun c => c.1 == s) = B := by
  refine ⟨cs.takeWhile (fun c => decide (c.1 < s)), (cs.dropWhile (fun c => decide (c.1 < s))).takeWhile (fun c => decide (c.1 < s + 1)), (cs.dropWhile (fun c => decide (c.1 < s))).dropWhile (fun c => decide (c.1 < s + 1)), ?_, ?_, ?_, ?_, ?_, ?_, ?_⟩
  · rw [List.takeWhile_append_dropWhile, List.takeWhile_append_dropWhile]
  · intro c hc; simpa using takeWhile_all c hc
  · intro c hc
    have h1 := takeWhile_all c hc
    have h2 := dropWhile_sorted h c ((List.takeWhile_sublist _).mem hc)
    simp at h1
    omega
  · intro c hc
    have := dropWhile_sorted (s := s + 1) (h.sublist (List.dropWhile_sublist _)) c hc
    omega
  · rfl
  all_goals
    generalize hA : cs.takeWhile (fun c => decide (c.1 < s)) = A
    generalize hB : (cs.dropWhile (fun c => decide (c.1 < s))).takeWhile (fun c => decide (c.1 < s + 1)) = B
    generalize hC : (cs.dropWhile (fun c => decide (c.1 < s))).dropWhile (fun c => decide (c.1 < s + 1)) = C
    have hcs : cs = A ++ (B ++ C) := by rw [← hA, ← hB, ← hC, List.takeWhile_append_dropWhile, List.takeWhile_append_dropWhile]
    have a1 : ∀ c ∈ A, c.1 < s := fun c hc => by rw [← hA] at hc; simpa using takeWhile_all c hc
    have a2 : ∀ c ∈ B, c.1 = s := fun c hc => by
      rw [← hB] at hc
      have h1 := takeWhile_all c hc
      have h2 := dropWhile_sorted h c ((List.takeWhile_sublist _).mem hc)
      simp at h1
      omega
    have a3 : ∀ c ∈ C, s < c.1 := fun c hc => by
      rw [← hC] at hc
      have := dropWhile_sorted (s := s + 1) (h.sublist (List.dropWhile_sublist _)) c hc
      omega
  · rw [hcs, ← List.append_assoc, fo_app (fun c hc => by
      rcases List.mem_append.mp hc with q | q
      · have := a1 c q; omega
      · have := a2 c q; omega) (fun c hc => by have := a3 c hc; omega), List.length_append]
  · rw [hcs, List.filter_append, List.filter_append, List.filter_eq_nil_iff.mpr (fun c hc => by have := a1 c hc; simp; omega), List.filter_eq_self.mpr (fun c hc => by have := a2 c hc; simp; omega), List.filter_eq_nil_iff.mpr (fun c hc => by have := a3 c hc; simp; omega)]
    simp
def above (t : Int32) (ps : List Pt) : Prop := ∀ p ∈ ps, p.1 < t
theorem above_last {t : Int32} {ps : List Pt} {q : Pt} (h : rising (ps ++ [q])) : above t (ps ++ [q]) ↔ q.1 < t := by
  constructor
  · intro ha; exact ha q (by simp)
  · intro hq p hp
    rcases List.mem_append.mp hp with h1 | h1
    · exact Int32.lt_trans ((List.pairwise_append.mp h).2.2 p h1 q (by simp)) hq
    · rw [List.mem_singleton] at h1; subst h1; exact hq
theorem rising_left {a b : List Pt} (h : rising (a ++ b)) : rising a := (List.pairwise_append.mp h).1
theorem hdOf_app (s : Nat) (a b : List Hd) : hdOf s (a ++ b) = hdOf s a ++ hdOf s b := by unfold hdOf; rw [List.filter_append, List.map_append]
theorem take_s1 {α : Type} {l : List α} {k : Nat} (d : α) (h : k < l.length) : l.take (k + 1) = l.take k ++ [l.getD k d] := by
  rw [List.getD_eq_getElem?_getD, List.getElem?_eq_getElem h, List.take_succ, List.getElem?_eq_getElem h]
  rfl
/-- the last block of a series among the first j -/
theorem lastOf_loop {f : Nat → Int32} {e : Nat} {hd : List Hd} (h : lgOk f e hd) {N : Nat} (hN : N < 1000) (hh : ∀ x ∈ hd, x.1 < N) {s : Nat} (hs : s < 1000) : ∀ (j n : Nat), j ≤ hd.length → j < n →
    (hdOf s (hd.take j) = [] ∧ lp_X4_lastOf_7 f (nI s) n (nI j - 1) = some (-1)) ∨ ∃ k, k < j ∧ (hd.getD k hd0).1 = s ∧ hdOf s (hd.take j) = hdOf s (hd.take k) ++ [(hd.getD k hd0).2] ∧ lp_X4_lastOf_7 f (nI s) n (nI j - 1) = some (nI k) := by
  intro j
  have hl := h.1
  induction j with
  | zero =>
    intro n _ hn
    obtain ⟨m, rfl⟩ : ∃ m, n = m + 1 := ⟨n - 1, by omega⟩
    exact Or.inl ⟨rfl, by rw [lp_X4_lastOf_7, if_pos (by decide)]⟩
  | succ j ih =>
    intro n hj hn
    obtain ⟨m, rfl⟩ : ∃ m, n = m + 1 := ⟨n - 1, by omega⟩
    have hser := hh _ (gd_mem hd0 (show j < hd.length by omega))
    rw [lp_X4_lastOf_7, nI_pred, if_neg (nI_pos (by omega)), show (0 : Int32) = nI 0 from rfl, logat_s h (by omega) (by omega), ob1_mk, take_s1 hd0 (by omega), hdOf_app]
    show (_ ∧ (if nI (hd.getD j hd0).1 = nI s then _ else _) = _) ∨ ∃ k, _ ∧ _ ∧ _ ∧ (if nI (hd.getD j hd0).1 = nI s then _ else _) = _
    by_cases hc : (hd.getD j hd0).1 = s
    · right
      refine ⟨j, by omega, hc, ?_, by rw [if_pos (by rw [hc])]⟩
      congr 1
      unfold hdOf
      rw [List.filter_cons_of_pos (by simpa using hc)]
      rfl
    · have e1 : hdOf s [hd.getD j hd0] = [] := by
        unfold hdOf
        rw [List.filter_cons_of_neg (by simpa using hc)]
        rfl
      rw [e1, List.append_nil, if_neg (fun q => hc ((nI_eq (by omega) (by omega)).mp q)), show nI j + (-1 : Int32) = nI j - 1 by rw [Int32.sub_eq_add_neg]]
      rcases ih m (by omega) (by omega) with q | ⟨k, q1, q2, q3, q4⟩
      · exact Or.inl q
      · exact Or.inr ⟨k, by omega, q2, q3, q4⟩
theorem lt_not_le {a b : Int32} : a < b ↔ ¬ b ≤ a := by
  rw [Int32.lt_iff_toInt_lt, Int32.le_iff_toInt_le]; omega
theorem flat_last {B : List Ch} {c : Ch} (hc : 1 ≤ c.2.1.length) : ∃ L : List Pt, (B ++ [c]).flatMap (fun c => c.2.1) = L ++ [c.2.1.getD (c.2.1.length - 1) (0, 0)] := by
  refine ⟨B.flatMap (fun c => c.2.1) ++ c.2.1.take (c.2.1.length - 1), ?_⟩
  rw [List.flatMap_append, List.append_assoc, ← take_s1 (0, 0) (by omega), show c.2.1.length - 1 + 1 = c.2.1.length by omega, List.take_length]
  simp
theorem isRisingC {f : Nat → Int32} {e sd N most : Nat} {cs : List Ch} {hd : List Hd} (h : DOk f e sd cs hd) (hN : N < 900) (hS : SOk N most cs hd) {s : Nat} (hs : s < N) (t : Int32) :
    ∃ b : Bool, m_X9_isRising f (nI hd.length) (nI s) t = some (nI b.toNat) ∧ (b = true ↔ above t (ptsOf s cs ++ hdOf s hd)) := by
  obtain ⟨s1, s2, s3, s4, s5⟩ := hS
  have hlg := h.2.2.2.2.2.2
  have hl := lastOf_loop hlg (N := N) (by omega) s4 (show s < 1000 by omega) hd.length NN (Nat.le_refl _) (by have := hlg.1; unfold NN; omega)
  rw [List.take_length] at hl
  rw [m_X9_isRising, m_X4_lastOf]
  rcases hl with ⟨q1, q2⟩ | ⟨k, q1, q2, q3, q4⟩
  · rw [q2, ob1_mk, if_pos rfl, endOf_s h (N := N) (by omega) (fun c hc => (s1 c hc).1) (by omega), ob1_mk, firstOf_s h (N := N) (by omega) (fun c hc => (s1 c hc).1) (by omega), ob1_mk]
    obtain ⟨A, B, C, e1, a1, a2, a3, a4, a5, a6⟩ := segs s3 s
    have hlen := h.2.2.2.1
    have hfo := fo_le (s + 1) cs
    rw [a4, a5]
    have hpts : ptsOf s cs = B.flatMap (fun c => c.2.1) := by unfold ptsOf; rw [a6]
    have hr := s5 s
    rw [q1, List.append_nil] at hr ⊢
    rw [hpts] at hr ⊢
    rcases List.eq_nil_or_concat B with rfl | ⟨B', c, rfl⟩
    · refine ⟨true, ?_, by simp [above]⟩
      rw [if_pos (by simp), ob1_mk]
      rfl
    · rw [List.concat_eq_append] at *
      simp only [List.length_append, List.length_singleton] at a5 ⊢
      rw [if_neg (fun q => by have := (nI_eq (by omega) (by omega)).mp q; omega)]
      have hcm : c ∈ cs := by rw [e1]; simp
      have hgc : cs.getD (A.length + B'.length) ch0 = c := by
        rw [e1, List.getD_eq_getElem?_getD, List.getElem?_append_right (by omega), List.append_assoc, List.getElem?_append_right (by omega)]
        simp
      rw [show nI (A.length + (B'.length + 1)) - (1 : Int32) = nI (A.length + B'.length) by rw [show A.length + (B'.length + 1) = (A.length + B'.length) + 1 by omega, nI_pred], show (2 : Int32) = nI 2 from rfl, at_s h (by omega) (by omega), ob1_mk, hgc]
      obtain ⟨L, hL⟩ := flat_last (B := B') (s1 c hcm).2.1
      rw [hL] at hr ⊢
      have hab := above_last (t := t) hr
      show ∃ b : Bool, ob1 (if t ≤ plst c.2.1 then some (0 : Int32) else some (1 : Int32)) _ = _ ∧ _
      by_cases hle : t ≤ plst c.2.1
      · refine ⟨false, by rw [if_pos hle, ob1_mk]; rfl, ?_⟩
        rw [hab, lt_not_le]
        exact ⟨(fun q => nomatch q), fun q => absurd hle q⟩
      · refine ⟨true, by rw [if_neg hle, ob1_mk]; rfl, ?_⟩
        rw [hab, lt_not_le]
        exact ⟨fun _ => hle, fun _ => rfl⟩
  · rw [q4, ob1_mk, if_neg (by
      have hk : k < 128 := by have := hlg.1; omega
      intro q
      have q5 : (nI k).toInt = (-1 : Int32).toInt := by rw [q]
      rw [nI_toInt (by omega)] at q5
      have : ((k : Int)) = -1 := q5
      omega), show (1 : Int32) = nI 1 from rfl, logat_s hlg q1 (by omega), ob1_mk]
    have hr := s5 s
    rw [q3, ← List.append_assoc] at hr ⊢
    have hab := above_last (t := t) hr
    show ∃ b : Bool, ob1 (if t ≤ (hd.getD k hd0).2.1 then some (0 : Int32) else some (1 : Int32)) _ = _ ∧ _
    by_cases hle : t ≤ (hd.getD k hd0).2.1
    · refine ⟨false, by rw [if_pos hle, ob1_mk]; rfl, ?_⟩
      rw [hab, lt_not_le]
      simpa using hle
    · refine ⟨true, by rw [if_neg hle, ob1_mk]; rfl, ?_⟩
      rw [hab, lt_not_le]
      simpa using hle
