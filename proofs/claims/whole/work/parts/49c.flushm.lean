/-! the reference: flush's list of what comes next -/
theorem toCh_flat (m : Nat) : ∀ (l cur : List Pt), (toCh m cur l).flatten = cur ++ l := by
  intro l
  induction l with
  | nil =>
    intro cur
    unfold toCh
    by_cases h : cur = []
    · rw [if_pos h, h]; rfl
    · rw [if_neg h]; simp
  | cons q r ih =>
    intro cur
    unfold toCh
    by_cases h : cur.length = m
    · rw [if_pos h, List.flatten_cons, ih]; rfl
    · rw [if_neg h, ih, List.append_assoc]; rfl
theorem toCh_mem {m : Nat} (hm : 1 ≤ m) : ∀ (l cur : List Pt), cur.length ≤ m → ∀ ps ∈ toCh m cur l, 1 ≤ ps.length ∧ ps.length ≤ m := by
  intro l
  induction l with
  | nil =>
    intro cur hc ps hps
    unfold toCh at hps
    by_cases h : cur = []
    · rw [if_pos h] at hps; simp at hps
    · rw [if_neg h, List.mem_singleton] at hps
      subst hps
      exact ⟨ne_len h, hc⟩
  | cons q r ih =>
    intro cur hc ps hps
    unfold toCh at hps
    by_cases h : cur.length = m
    · rw [if_pos h] at hps
      rcases List.mem_cons.mp hps with rfl | hps
      · omega
      · exact ih [q] (by simp; omega) ps hps
    · rw [if_neg h] at hps
      exact ih (cur ++ [q]) (by simp; omega) ps hps
theorem toCh_cnt {m : Nat} (hm : 1 ≤ m) : ∀ (l cur : List Pt), (toCh m cur l).length ≤ l.length + (if cur = [] then 0 else 1) := by
  intro l
  induction l with
  | nil => intro cur; unfold toCh; split <;> simp
  | cons q r ih =>
    intro cur
    unfold toCh
    by_cases h : cur.length = m
    · rw [if_pos h, List.length_cons, List.length_cons]
      have := ih [q]
      rw [if_neg (by simp)] at this
      rw [if_neg (fun q => by rw [q] at h; simp at h; omega)]
      omega
    · rw [if_neg h, List.length_cons]
      have := ih (cur ++ [q])
      rw [if_neg (by simp)] at this
      omega
theorem itP_kept {l : List Ch} (h : ∀ c ∈ l, c.2.1.length ≤ 64) : itP (kept l) := fun q hq => by
  unfold kept at hq
  obtain ⟨c, hc, rfl⟩ := List.mem_map.mp hq
  exact h c hc
theorem itP_heads {m s : Nat} (hm1 : 1 ≤ m) (hm2 : m ≤ 64) (l : List Pt) : itP ((toCh m [] l).map (mkN s)) := fun q hq => by
  obtain ⟨ps, hps, rfl⟩ := List.mem_map.mp hq
  have := toCh_mem hm1 l [] (by simp) ps hps
  show ps.length ≤ 64
  omega
theorem fl44 {order its many place length times values : Nat → Int32} {cs : List Ch} {sl : List Nat} (h : slOk order its many place length times values cs sl) (hcl : cs.length ≤ 96) {N : Nat} (hN : N < 900) (hcN : ∀ c ∈ cs, c.1 < N) {s : Nat} (hs : s < 900) : ∀ (r k fu : Nat) (itm : List (Ch × Bool)) (nx : List Nat) (next isNew : Nat → Int32), r + k = cs.length → r < fu → itm.length + ((cs.drop k).filter (fun c => c.1 == s)).length ≤ 240 → NX its many times values next isNew cs sl itm nx →
    ∃ (next' isNew' : Nat → Int32) (nx' : List Nat), lp_X10_flush_44 (nI cs.length) order (nI s) its fu (nI k) (nI itm.length) next isNew = some (nI (itm ++ kept ((cs.drop k).filter (fun c => c.1 == s))).length, next', isNew') ∧ NX its many times values next' isNew' cs sl (itm ++ kept ((cs.drop k).filter (fun c => c.1 == s))) nx' := by
  intro r
  induction r with
  | zero =>
    intro k fu itm nx next isNew hk hf hb hx
    obtain ⟨n, rfl⟩ : ∃ n, fu = n + 1 := ⟨fu - 1, by omega⟩
    rw [lp_X10_flush_44, if_pos (nI_le (by omega) (by omega)), List.drop_eq_nil_of_le (by omega)]
    have e0 : itm ++ kept (([] : List Ch).filter (fun c => c.1 == s)) = itm := by simp [kept]
    rw [e0]
    exact ⟨next, isNew, nx, rfl, hx⟩
  | succ r ih =>
    intro k fu itm nx next isNew hk hf hb hx
    obtain ⟨n, rfl⟩ : ∃ n, fu = n + 1 := ⟨fu - 1, by omega⟩
    have hlt : k < cs.length := by omega
    obtain ⟨s1, s2, s3, s4, s5, s6, s7⟩ := h.2.2 k hlt
    have hcN2 := hcN _ (gd_mem ch0 hlt)
    rw [lp_X10_flush_44, if_neg (nI_ge hlt (by omega)), ckb_in _ (show k < 96 by omega) (by omega), nI_clamp (by omega), s2, ckb_in _ s1 (by omega), nI_clamp (by omega), s3]
    rw [drop_cons ch0 hlt] at hb ⊢
    by_cases hss : (cs.getD k ch0).1 = s
    · rw [List.filter_cons_of_pos (by simpa using hss)] at hb ⊢
      rw [List.length_cons] at hb
      rw [if_pos (by rw [hss]), ckb_in _ (show k < 96 by omega) (by omega), comes_0 (by omega), ob3_mk, ob3_mk, nI_1]
      have e1 : itm.length + 1 = (itm ++ [(cs.getD k ch0, false)]).length := by simp
      have e2 : itm ++ kept (cs.getD k ch0 :: (cs.drop (k + 1)).filter (fun c => c.1 == s)) = (itm ++ [(cs.getD k ch0, false)]) ++ kept ((cs.drop (k + 1)).filter (fun c => c.1 == s)) := by simp [kept]
      rw [e1, e2]
      exact ih (k + 1) n _ _ _ _ (by omega) (by omega) (by rw [← e1]; omega) (NX_keep h hx hlt)
    · rw [List.filter_cons_of_neg (by simpa using hss)] at hb ⊢
      rw [if_neg (fun q => hss ((nI_eq (by omega) (by omega)).mp q)), ob3_mk, nI_1]
      exact ih (k + 1) n _ _ _ _ (by omega) (by omega) hb hx
theorem flt_c (s : Nat) : ∀ (cs : List Ch), (cs.filter (fun c => decide (s ≤ c.1))).length = (cs.filter (fun c => c.1 == s)).length + (cs.filter (fun c => decide (s + 1 ≤ c.1))).length := by
  intro cs
  induction cs with
  | nil => rfl
  | cons c cs ih =>
    by_cases h1 : c.1 = s
    · rw [List.filter_cons_of_pos (by simp; omega), List.filter_cons_of_pos (by simpa using h1), List.filter_cons_of_neg (by simp; omega), List.length_cons, List.length_cons]
      omega
    · by_cases h2 : s + 1 ≤ c.1
      · rw [List.filter_cons_of_pos (by simp; omega), List.filter_cons_of_neg (by simpa using h1), List.filter_cons_of_pos (by simpa using h2), List.length_cons, List.length_cons]
        omega
      · rw [List.filter_cons_of_neg (by simp; omega), List.filter_cons_of_neg (by simpa using h1), List.filter_cons_of_neg (by simpa using h2)]
        exact ih
theorem flt_h (s : Nat) : ∀ (hd : List Hd), (hd.filter (fun c => decide (s ≤ c.1))).length = (hdOf s hd).length + (hd.filter (fun c => decide (s + 1 ≤ c.1))).length := by
  intro cs
  unfold hdOf
  rw [List.length_map]
  induction cs with
  | nil => rfl
  | cons c cs ih =>
    by_cases h1 : c.1 = s
    · rw [List.filter_cons_of_pos (by simp; omega), List.filter_cons_of_pos (by simpa using h1), List.filter_cons_of_neg (by simp; omega), List.length_cons, List.length_cons]
      omega
    · by_cases h2 : s + 1 ≤ c.1
      · rw [List.filter_cons_of_pos (by simp; omega), List.filter_cons_of_neg (by simpa using h1), List.filter_cons_of_pos (by simpa using h2), List.length_cons, List.length_cons]
        omega
      · rw [List.filter_cons_of_neg (by simp; omega), List.filter_cons_of_neg (by simpa using h1), List.filter_cons_of_neg (by simpa using h2)]
        exact ih
theorem nNew_app (a b : List (Ch × Bool)) : nNew (a ++ b) = nNew a + nNew b := by unfold nNew; rw [List.filter_append, List.length_append]
theorem nNew_kept (l : List Ch) : nNew (kept l) = 0 := by
  unfold nNew kept
  rw [List.filter_eq_nil_iff.mpr (fun q hq => by obtain ⟨c, -, rfl⟩ := List.mem_map.mp hq; simp)]
  rfl
theorem nNew_mk (s : Nat) (l : List (List Pt)) : nNew (l.map (mkN s)) = l.length := by
  unfold nNew
  rw [List.filter_eq_self.mpr (fun q hq => by obtain ⟨c, -, rfl⟩ := List.mem_map.mp hq; rfl), List.length_map]
theorem fl34 {headOf headTime headValue : Nat → Int32} {hd : List Hd} (hh : hdsOk headOf headTime headValue hd) (hl : hd.length ≤ 128) {N : Nat} (hN : N ≤ 8) (hhN : ∀ x ∈ hd, x.1 < N) {m : Nat} (hm1 : 2 ≤ m) (hm2 : m ≤ 64) {order place length : Nat → Int32} {cs : List Ch} {sl : List Nat} (hcl : cs.length ≤ 96) (hcN : ∀ c ∈ cs, c.1 < N) (hpc : ∀ c ∈ cs, c.2.1.length ≤ 64) : ∀ (r s fu : Nat) (itm : List (Ch × Bool)) (nx : List Nat) (its many times values next isNew : Nat → Int32), r + s = N → r < fu → itP itm → itm.length + (cs.filter (fun c => decide (s ≤ c.1))).length + (hd.filter (fun c => decide (s ≤ c.1))).length ≤ 224 → nNew itm + (hd.filter (fun c => decide (s ≤ c.1))).length ≤ 128 → slOk order its many place length times values cs sl → NX its many times values next isNew cs sl itm nx →
    ∃ (its' many' times' values' next' isNew' : Nat → Int32) (nx' : List Nat), lp_X10_flush_34 (nI N) (nI m) (nI cs.length) (nI hd.length) order headOf headTime headValue fu (nI s) (nI itm.length) its many times values next isNew = some (nI (itm ++ flI m cs hd s r).length, its', many', times', values', next', isNew') ∧ slOk order its' many' place length times' values' cs sl ∧ NX its' many' times' values' next' isNew' cs sl (itm ++ flI m cs hd s r) nx' ∧ itP (itm ++ flI m cs hd s r) ∧ (itm ++ flI m cs hd s r).length ≤ 224 := by
  intro r
  induction r with
  | zero =>
    intro s fu itm nx its many times values next isNew hs hf hp hb1 hb2 hsl hx
    obtain ⟨n, rfl⟩ : ∃ n, fu = n + 1 := ⟨fu - 1, by omega⟩
    rw [lp_X10_flush_34, if_pos (nI_le (by omega) (by omega)), flI, List.append_nil]
    exact ⟨_, _, _, _, _, _, nx, rfl, hsl, hx, hp, by omega⟩
  | succ r ih =>
    intro s fu itm nx its many times values next isNew hs hf hp hb1 hb2 hsl hx
    obtain ⟨n, rfl⟩ : ∃ n, fu = n + 1 := ⟨fu - 1, by omega⟩
    have c1 := flt_c s cs
    have c2 := flt_h s hd
    have c3 := toCh_cnt (m := m) (by omega) (hdOf s hd) []
    rw [if_pos rfl, Nat.add_zero] at c3
    obtain ⟨next1, isNew1, nx1, e1, hx1⟩ := fl44 hsl hcl (N := N) (by omega) hcN (s := s) (by omega) cs.length 0 NN itm nx next isNew (by omega) (by unfold NN; omega) (by rw [List.drop_zero]; omega) hx
    rw [List.drop_zero] at e1 hx1
    have e1' : lp_X10_flush_44 (nI cs.length) order (nI s) its NN (0 : Int32) (nI itm.length) next isNew = some (nI (itm ++ kept (cs.filter (fun c => c.1 == s))).length, next1, isNew1) := e1
    have hp1 : itP (itm ++ kept (cs.filter (fun c => c.1 == s))) := itP_app hp (itP_kept (fun c hc => hpc c ((List.mem_filter.mp hc).1)))
    have eo : (itm ++ kept (cs.filter (fun c => c.1 == s))) ++ opn s [] = itm ++ kept (cs.filter (fun c => c.1 == s)) := by unfold opn; rw [if_pos rfl, List.append_nil]
    have l1 : (itm ++ kept (cs.filter (fun c => c.1 == s))).length = itm.length + (cs.filter (fun c => c.1 == s)).length := by rw [List.length_append, kept_len]
    have n1 : nNew (itm ++ kept (cs.filter (fun c => c.1 == s))) = nNew itm := by rw [nNew_app, nNew_kept, Nat.add_zero]
    obtain ⟨its2, many2, times2, values2, next2, isNew2, nx2, e2, hsl2, hx2⟩ := heads_loop hh hl (N := N) (by omega) hhN (s := s) hm1 hm2 (by omega) hcl hpc hd.length 0 NN (itm ++ kept (cs.filter (fun c => c.1 == s))) [] nx1 (-1) its many times values next1 isNew1 (by omega) (by unfold NN; omega) (by simp) hp1 (by rw [eo, l1, List.drop_zero]; omega) (by rw [eo, n1, List.drop_zero]; omega) hsl (by rw [eo]; exact hx1) (Or.inl ⟨rfl, rfl⟩)
    rw [eo, List.drop_zero] at e2
    rw [List.drop_zero] at hx2
    have e2' : lp_X10_headsOf_4 (nI m) (nI cs.length) (nI hd.length) order headOf headTime headValue (nI s) NN (-1 : Int32) (0 : Int32) (nI (itm ++ kept (cs.filter (fun c => c.1 == s))).length) its many times values next1 isNew1 = some (nI ((itm ++ kept (cs.filter (fun c => c.1 == s))) ++ (toCh m [] (hdOf s hd)).map (mkN s)).length, its2, many2, times2, values2, next2, isNew2) := e2
    rw [lp_X10_flush_34, if_neg (nI_ge (by omega) (by omega)), e1', ob3_mk, m_X10_headsOf, e2', ob7_mk, ob7_mk, nI_1]
    have e4 : itm ++ flI m cs hd s (r + 1) = ((itm ++ kept (cs.filter (fun c => c.1 == s))) ++ (toCh m [] (hdOf s hd)).map (mkN s)) ++ flI m cs hd (s + 1) r := by
      show itm ++ ((kept (cs.filter (fun c => c.1 == s)) ++ (toCh m [] (hdOf s hd)).map (mkN s)) ++ flI m cs hd (s + 1) r) = _
      simp only [List.append_assoc]
    rw [e4]
    refine ih (s + 1) n _ nx2 _ _ _ _ _ _ (by omega) (by omega) (itP_app hp1 (itP_heads (by omega) hm2 _)) ?_ ?_ hsl2 hx2
    · rw [List.length_append, l1, List.length_map]; omega
    · rw [nNew_app, n1, nNew_mk]; omega
