/-! compact, both sides -/
theorem cp_keep {order its many place length times values next isNew : Nat → Int32} {cs : List Ch} {sl : List Nat} {itm : List (Ch × Bool)} {m s : Nat} {N : Nat} (h : slOk order its many place length times values cs sl) (hW : ∀ c ∈ cs, chW N m c) (hN : N < 900) (hcl : cs.length ≤ 96) (hs : s < 900) {k : Nat} (hk : k < cs.length) (hks : (cs.getD k ch0).1 ≠ s) (hl : itm.length ≤ k) (n : Nat) :
    lp_X10_compact_36 (nI m) (nI cs.length) order (nI s) (n + 1) (nI k) (nI itm.length) its many times values next isNew = lp_X10_compact_36 (nI m) (nI cs.length) order (nI s) n (nI (k + 1)) (nI (itm ++ [(cs.getD k ch0, false)]).length) its many times values (upd next itm.length (nI (sl.getD k 0))) (upd isNew itm.length (nI false.toNat)) := by
  obtain ⟨s1, s2, s3, s4, s5, s6, s7⟩ := h.2.2 k hk
  have hsN := (hW _ (gd_mem ch0 hk)).1
  rw [lp_X10_compact_36, if_neg (nI_ge hk (by omega)), ckb_in _ (show k < 96 by omega) (by omega), nI_clamp (show k < 2 ^ 31 by omega), s2, ckb_in _ s1 (by omega), nI_clamp (show sl.getD k 0 < 2 ^ 31 by omega), s3, if_neg (fun q => hks ((nI_eq (by omega) (by omega)).mp q)), ob1_mk, if_pos rfl, ckb_in _ (show k < 96 by omega) (by omega), comes_0 (by omega), ob3_mk, ob7_mk, nI_1]
  have e1 : itm.length + 1 = (itm ++ [(cs.getD k ch0, false)]).length := by simp
  rw [e1]
/-- none of the series is left -/
theorem cp_C {order its many place length times values : Nat → Int32} {cs : List Ch} {sl : List Nat} {m s : Nat} {N : Nat} (h : slOk order its many place length times values cs sl) (hW : ∀ c ∈ cs, chW N m c) (hN : N < 900) (hcl : cs.length ≤ 96) (hs : s < 900) : ∀ (r k fu : Nat) (itm : List (Ch × Bool)) (nx : List Nat) (next isNew : Nat → Int32), r + k = cs.length → r < fu → itm.length ≤ k → (∀ j, k ≤ j → j < cs.length → (cs.getD j ch0).1 ≠ s) → NX its many times values next isNew cs sl itm nx →
    ∃ (next' isNew' : Nat → Int32) (nx' : List Nat), lp_X10_compact_36 (nI m) (nI cs.length) order (nI s) fu (nI k) (nI itm.length) its many times values next isNew = some (nI (itm ++ kept (cs.drop k)).length, its, many, times, values, next', isNew') ∧ NX its many times values next' isNew' cs sl (itm ++ kept (cs.drop k)) nx' := by
  intro r
  induction r with
  | zero =>
    intro k fu itm nx next isNew hk hf hl hne hx
    obtain ⟨n, rfl⟩ : ∃ n, fu = n + 1 := ⟨fu - 1, by omega⟩
    have e0 : itm ++ kept (cs.drop k) = itm := by rw [List.drop_eq_nil_of_le (by omega)]; simp [kept]
    rw [lp_X10_compact_36, if_pos (nI_le (by omega) (by omega)), e0]
    exact ⟨next, isNew, nx, rfl, hx⟩
  | succ r ih =>
    intro k fu itm nx next isNew hk hf hl hne hx
    obtain ⟨n, rfl⟩ : ∃ n, fu = n + 1 := ⟨fu - 1, by omega⟩
    have hlt : k < cs.length := by omega
    rw [cp_keep h hW hN hcl hs hlt (hne k (Nat.le_refl k) hlt) hl]
    have e2 : itm ++ kept (cs.drop k) = (itm ++ [(cs.getD k ch0, false)]) ++ kept (cs.drop (k + 1)) := by rw [drop_cons ch0 hlt]; simp [kept]
    rw [e2]
    exact ih (k + 1) n _ _ _ _ (by omega) (by omega) (by simp; omega) (fun j h1 h2 => hne j (by omega) h2) (NX_keep h hx hlt)
theorem tw_app {p : Ch → Bool} {C : List Ch} (hC : ∀ c ∈ C, p c = false) : ∀ (B : List Ch), (∀ c ∈ B, p c = true) → (B ++ C).takeWhile p = B := by
  intro B
  induction B with
  | nil =>
    intro _
    cases C with
    | nil => rfl
    | cons c C => rw [List.nil_append, List.takeWhile_cons_of_neg (by rw [hC c List.mem_cons_self]; simp)]
  | cons b B ih =>
    intro hB
    rw [List.cons_append, List.takeWhile_cons_of_pos (hB b List.mem_cons_self), ih (fun c hc => hB c (List.mem_cons_of_mem _ hc))]
theorem gd_app_r {α : Type} (A B : List α) (d : α) (j : Nat) : (A ++ B).getD (A.length + j) d = B.getD j d := by
  simp only [List.getD_eq_getElem?_getD]
  rw [List.getElem?_append_right (by omega), show A.length + j - A.length = j by omega]
theorem gd_app_l {α : Type} (A B : List α) (d : α) {j : Nat} (hj : j < A.length) : (A ++ B).getD j d = A.getD j d := by
  simp only [List.getD_eq_getElem?_getD]
  rw [List.getElem?_append_left hj]
/-- in the series -/
theorem cp_B {order place length : Nat → Int32} {cs : List Ch} {sl : List Nat} {m s : Nat} {N : Nat} (hW : ∀ c ∈ cs, chW N m c) (hN : N < 900) (hm : m ≤ 64) (hcl : cs.length ≤ 96) (hs : s < 900) {A B C : List Ch} (ecs : cs = A ++ (B ++ C)) (hB : ∀ c ∈ B, c.1 = s) (hCs : ∀ c ∈ C, s < c.1) : ∀ (r j fu : Nat) (itm : List (Ch × Bool)) (nx : List Nat) (its many times values next isNew : Nat → Int32), B.length - j ≤ r → j ≤ B.length → cs.length - (A.length + j) < fu → itm.length ≤ A.length + j → itP itm → slOk order its many place length times values cs sl → NX its many times values next isNew cs sl itm nx →
    ∃ (its' many' times' values' next' isNew' : Nat → Int32) (nx' : List Nat), lp_X10_compact_36 (nI m) (nI cs.length) order (nI s) fu (nI (A.length + j)) (nI itm.length) its many times values next isNew = some (nI ((itm ++ jI m s (B.drop j)) ++ kept C).length, its', many', times', values', next', isNew') ∧ slOk order its' many' place length times' values' cs sl ∧ NX its' many' times' values' next' isNew' cs sl ((itm ++ jI m s (B.drop j)) ++ kept C) nx' := by
  intro r
  have hlen : cs.length = A.length + (B.length + C.length) := by rw [ecs, List.length_append, List.length_append]
  have hpc := chW_64 hW hm
  induction r with
  | zero =>
    intro j fu itm nx its many times values next isNew hr hj hf hl hp hsl hx
    have hjB : j = B.length := by omega
    have e0 : jI m s (B.drop j) = [] := by rw [List.drop_eq_nil_of_le (by omega)]; rfl
    have e1 : cs.drop (A.length + j) = C := by rw [ecs, hjB, ← List.append_assoc, show A.length + B.length = (A ++ B).length by rw [List.length_append], List.drop_left]
    obtain ⟨next', isNew', nx', q1, q2⟩ := cp_C hsl hW hN hcl hs (cs.length - (A.length + j)) (A.length + j) fu itm nx next isNew (by omega) hf hl (fun i h1 h2 => by
      have : (cs.getD i ch0) ∈ C := by
        rw [show i = (A.length + j) + (i - (A.length + j)) by omega, ← e1]
        rw [show cs.getD (A.length + j + (i - (A.length + j))) ch0 = (cs.drop (A.length + j)).getD (i - (A.length + j)) ch0 by
          simp only [List.getD_eq_getElem?_getD, List.getElem?_drop]]
        exact gd_mem ch0 (by rw [List.length_drop]; omega)
      have := hCs _ this
      omega) hx
    rw [e1] at q1 q2
    rw [e0, List.append_nil]
    exact ⟨its, many, times, values, next', isNew', nx', q1, hsl, q2⟩
  | succ r ih =>
    intro j fu itm nx its many times values next isNew hr hj hf hl hp hsl hx
    by_cases hjB : j = B.length
    · exact ih j fu itm nx its many times values next isNew (by omega) hj hf hl hp hsl hx
    · have hjlt : j < B.length := by omega
      have hlt : A.length + j < cs.length := by omega
      obtain ⟨n, rfl⟩ : ∃ n, fu = n + 1 := ⟨fu - 1, by omega⟩
      have egk : cs.getD (A.length + j) ch0 = B.getD j ch0 := by rw [ecs, gd_app_r, gd_app_l B C ch0 hjlt]
      have hser : (cs.getD (A.length + j) ch0).1 = s := by rw [egk]; exact hB _ (gd_mem ch0 hjlt)
      have ed1 : cs.drop (A.length + (j + 1)) = B.drop (j + 1) ++ C := by
        rw [ecs, List.drop_append, List.drop_eq_nil_of_le (show A.length ≤ A.length + (j + 1) by omega), List.nil_append, show A.length + (j + 1) - A.length = j + 1 by omega, List.drop_append, show j + 1 - B.length = 0 by omega, List.drop_zero]
      have etw : (cs.drop (A.length + j + 1)).takeWhile (fun c => c.1 == s) = B.drop (j + 1) := by
        rw [show A.length + j + 1 = A.length + (j + 1) by omega, ed1]
        exact tw_app (fun c hc => by have := hCs c hc; simp; omega) _ (fun c hc => by simpa using hB c (List.mem_of_mem_drop hc))
      obtain ⟨s1, s2, s3, s4, s5, s6, s7⟩ := hsl.2.2 _ hlt
      have htg := tog_M hsl hW hN hm hcl hlt hser
      rw [etw] at htg
      have hw := hW _ (gd_mem ch0 hlt)
      have hm0 := hw.2.2.1
      -- the group
      have htl := tkn_le m (B.drop (j + 1)) (cs.getD (A.length + j) ch0).2.1.length
      have htt := tkn_tot m (B.drop (j + 1)) (cs.getD (A.length + j) ch0).2.1.length hm0
      rw [List.length_drop] at htl
      have hBm : ∀ c ∈ B, c.2.1.length ≤ m := fun c hc => (hW c (by rw [ecs]; simp [hc])).2.2.1
      have egr : grp m [] (B.drop j) = (B.getD j ch0 :: (B.drop (j + 1)).take (tkn m (cs.getD (A.length + j) ch0).2.1.length (B.drop (j + 1)))) :: (if (B.drop (j + 1)).drop (tkn m (cs.getD (A.length + j) ch0).2.1.length (B.drop (j + 1))) = [] then [] else grp m [] ((B.drop (j + 1)).drop (tkn m (cs.getD (A.length + j) ch0).2.1.length (B.drop (j + 1))))) := by
        rw [drop_cons ch0 hjlt]
        have e3 : grp m [] (B.getD j ch0 :: B.drop (j + 1)) = grp m [B.getD j ch0] (B.drop (j + 1)) := by
          show (if _ then _ else _) = _
          rw [if_pos (by have := hBm _ (gd_mem ch0 hjlt); simp only [fpts, List.flatMap_nil, List.length_nil]; omega)]
          rfl
        rw [e3, grp_tkn _ _ (fun c hc => hBm c (List.mem_of_mem_drop hc)), fpts_one, egk]
        rfl
      have egr2 : jI m s (B.drop j) = jn s (B.getD j ch0 :: (B.drop (j + 1)).take (tkn m (cs.getD (A.length + j) ch0).2.1.length (B.drop (j + 1)))) ++ jI m s (B.drop (j + 1 + tkn m (cs.getD (A.length + j) ch0).2.1.length (B.drop (j + 1)))) := by
        unfold jI
        rw [egr, List.flatMap_cons, List.drop_drop]
        by_cases hz : B.drop (j + 1 + tkn m (cs.getD (A.length + j) ch0).2.1.length (B.drop (j + 1))) = []
        · rw [if_pos hz, hz]; rfl
        · rw [if_neg hz]
      have esg : sg cs (A.length + j) (A.length + j + (1 + tkn m (cs.getD (A.length + j) ch0).2.1.length (B.drop (j + 1)))) = B.getD j ch0 :: (B.drop (j + 1)).take (tkn m (cs.getD (A.length + j) ch0).2.1.length (B.drop (j + 1))) := by
        rw [sg_cons (by omega) hlt, egk]
        congr 1
        unfold sg
        rw [show A.length + j + 1 = A.length + (j + 1) by omega, ed1, show A.length + j + (1 + tkn m (B.getD j ch0).2.1.length (B.drop (j + 1))) - (A.length + (j + 1)) = tkn m (B.getD j ch0).2.1.length (B.drop (j + 1)) by omega, List.take_append_of_le_length (tkn_le m (B.drop (j + 1)) (B.getD j ch0).2.1.length)]
      generalize htk : tkn m (cs.getD (A.length + j) ch0).2.1.length (B.drop (j + 1)) = t at *
      rw [lp_X10_compact_36, if_neg (nI_ge hlt (by omega)), ckb_in _ (show A.length + j < 96 by omega) (by omega), nI_clamp (show A.length + j < 2 ^ 31 by omega), s2, ckb_in _ s1 (by omega), nI_clamp (show sl.getD (A.length + j) 0 < 2 ^ 31 by omega), s3, if_pos (by rw [hser]), htg, ob1_mk, ob1_mk, egr2]
      by_cases ht0 : t = 0
      · subst ht0
        rw [if_pos (show nI (1 + 0) = (1 : Int32) from rfl), ckb_in _ (show A.length + j < 96 by omega) (by omega), comes_0 (by omega), ob3_mk, ob7_mk, nI_add]
        have e1 : itm.length + 1 = (itm ++ [(cs.getD (A.length + j) ch0, false)]).length := by simp
        have ej : jn s (B.getD j ch0 :: (B.drop (j + 1)).take 0) = [(cs.getD (A.length + j) ch0, false)] := by
          rw [egk]; rfl
        have := ih (j + 1) n (itm ++ [(cs.getD (A.length + j) ch0, false)]) _ its many times values _ _ (by omega) (by omega) (by omega) (by rw [← e1]; omega) (itP_app hp (fun q hq => by rw [List.mem_singleton] at hq; subst hq; exact hpc _ (gd_mem ch0 hlt))) hsl (NX_keep hsl hx hlt)
        rw [e1, ej, Nat.add_zero, Nat.add_zero, ← List.append_assoc itm, Nat.add_assoc A.length j 1]
        exact this
      · have hgl : (fpts (sg cs (A.length + j) (A.length + j + (1 + t)))).length ≤ 64 := by
          rw [esg, fpts_cons, ← egk, List.length_append]
          omega
        obtain ⟨its1, many1, times1, values1, next1, isNew1, nx1, e1, hsl1, hx1⟩ := joined_M hsl hpc hcl hp hx (by omega) (show 1 ≤ 1 + t by omega) (show A.length + j + (1 + t) ≤ cs.length by omega) hgl
        rw [if_neg (show ¬ nI (1 + t) = (1 : Int32) from fun q => ht0 (by have := (nI_eq (b := 1) (by omega) (by omega)).mp q; omega)), e1, ob7_mk, ob7_mk, nI_add]
        rw [esg, hser] at hx1
        have ej : jn s (B.getD j ch0 :: (B.drop (j + 1)).take t) = [mkN s (fpts (B.getD j ch0 :: (B.drop (j + 1)).take t))] := by
          unfold jn
          rw [if_pos (by rw [List.length_cons, List.length_take, List.length_drop]; omega)]
        have e2 : itm.length + 1 = (itm ++ [mkN s (fpts (B.getD j ch0 :: (B.drop (j + 1)).take t))]).length := by simp
        have := ih (j + 1 + t) n (itm ++ [mkN s (fpts (B.getD j ch0 :: (B.drop (j + 1)).take t))]) nx1 its1 many1 times1 values1 next1 isNew1 (by omega) (by omega) (by omega) (by rw [← e2]; omega) (itP_app hp (fun q hq => by
          rw [List.mem_singleton] at hq
          subst hq
          rw [esg] at hgl
          exact hgl)) hsl1 hx1
        rw [e2, ej, ← List.append_assoc itm, show A.length + j + (1 + t) = A.length + (j + 1 + t) by omega]
        exact this
theorem cp_A {order its many place length times values : Nat → Int32} {cs : List Ch} {sl : List Nat} {m s : Nat} {N : Nat} (h : slOk order its many place length times values cs sl) (hW : ∀ c ∈ cs, chW N m c) (hN : N < 900) (hm : m ≤ 64) (hcl : cs.length ≤ 96) (hs : s < 900) {A B C : List Ch} (ecs : cs = A ++ (B ++ C)) (hA : ∀ c ∈ A, c.1 < s) (hB : ∀ c ∈ B, c.1 = s) (hCs : ∀ c ∈ C, s < c.1) : ∀ (r k fu : Nat) (itm : List (Ch × Bool)) (nx : List Nat) (next isNew : Nat → Int32), r + k = A.length → cs.length - k < fu → itm.length ≤ k → itP itm → NX its many times values next isNew cs sl itm nx →
    ∃ (its' many' times' values' next' isNew' : Nat → Int32) (nx' : List Nat), lp_X10_compact_36 (nI m) (nI cs.length) order (nI s) fu (nI k) (nI itm.length) its many times values next isNew = some (nI (((itm ++ kept (A.drop k)) ++ jI m s B) ++ kept C).length, its', many', times', values', next', isNew') ∧ slOk order its' many' place length times' values' cs sl ∧ NX its' many' times' values' next' isNew' cs sl (((itm ++ kept (A.drop k)) ++ jI m s B) ++ kept C) nx' := by
  intro r
  have hlen : cs.length = A.length + (B.length + C.length) := by rw [ecs, List.length_append, List.length_append]
  induction r with
  | zero =>
    intro k fu itm nx next isNew hk hf hl hp hx
    have e0 : itm ++ kept (A.drop k) = itm := by rw [List.drop_eq_nil_of_le (by omega)]; simp [kept]
    have := cp_B (order := order) (place := place) (length := length) (sl := sl) hW hN hm hcl hs ecs hB hCs B.length 0 fu itm nx its many times values next isNew (by omega) (by omega) (by omega) (by omega) hp h hx
    rw [Nat.add_zero, show A.length = k by omega, List.drop_zero] at this
    rw [e0]
    exact this
  | succ r ih =>
    intro k fu itm nx next isNew hk hf hl hp hx
    obtain ⟨n, rfl⟩ : ∃ n, fu = n + 1 := ⟨fu - 1, by omega⟩
    have hkA : k < A.length := by omega
    have hlt : k < cs.length := by omega
    have egk : cs.getD k ch0 = A.getD k ch0 := by rw [ecs, gd_app_l A _ ch0 hkA]
    have hne : (cs.getD k ch0).1 ≠ s := by
      have := hA _ (gd_mem ch0 hkA)
      rw [egk]
      omega
    rw [cp_keep h hW hN hcl hs hlt hne hl]
    have e2 : itm ++ kept (A.drop k) = (itm ++ [(cs.getD k ch0, false)]) ++ kept (A.drop (k + 1)) := by rw [drop_cons ch0 hkA, egk]; simp [kept]
    rw [e2]
    exact ih (k + 1) n _ _ _ _ (by omega) (by omega) (by simp; omega) (itP_app hp (fun q hq => by rw [List.mem_singleton] at hq; subst hq; exact chW_64 hW hm _ (gd_mem ch0 hlt))) (NX_keep h hx hlt)
