/-! the reference: slots, what comes next -/
theorem pigeon : ∀ (n : Nat) (L : List Nat), (∀ x, x < n → x ∈ L) → n ≤ L.length := by
  intro n
  induction n with
  | zero => intro L _; exact Nat.zero_le _
  | succ n ih =>
    intro L h
    have h1 := h n (by omega)
    have h2 := ih (L.erase n) (fun x hx => (List.mem_erase_of_ne (by omega)).mpr (h x (by omega)))
    rw [List.length_erase_of_mem h1] at h2
    have := List.length_pos_of_mem h1
    omega
theorem memd_t {x a : Nat} {l : List Nat} (h : x = a) : (false || decide (x ∈ a :: l)) = true := by
  rw [Bool.false_or, decide_eq_true (List.mem_cons.mpr (Or.inl h))]
theorem memd_f {x a : Nat} {l : List Nat} (h : ¬ x = a) : (false || decide (x ∈ a :: l)) = (false || decide (x ∈ l)) := by
  rw [Bool.false_or, Bool.false_or]
  exact decide_eq_decide.mpr ⟨fun q => (List.mem_cons.mp q).resolve_left h, fun q => List.mem_cons.mpr (Or.inr q)⟩
theorem isUsed4 {order : Nat → Int32} {sl : List Nat} (ho : ∀ k, k < sl.length → order k = nI (sl.getD k 0) ∧ sl.getD k 0 < 240) (hl : sl.length ≤ 96) {x : Nat} (hx : x < 1000) : ∀ (r k n : Nat) (b : Bool), r + k = sl.length → r < n → lp_X10_isUsed_4 (nI sl.length) order (nI x) n (nI b.toNat) (nI k) = some (nI (b || decide (x ∈ sl.drop k)).toNat) := by
  intro r
  induction r with
  | zero =>
    intro k n b hk hn
    obtain ⟨m, rfl⟩ : ∃ m, n = m + 1 := ⟨n - 1, by omega⟩
    rw [lp_X10_isUsed_4, if_pos (nI_le (by omega) (by omega)), List.drop_eq_nil_of_le (by omega)]
    simp
  | succ r ih =>
    intro k n b hk hn
    obtain ⟨m, rfl⟩ : ∃ m, n = m + 1 := ⟨n - 1, by omega⟩
    have hlt : k < sl.length := by omega
    obtain ⟨h1, h2⟩ := ho k hlt
    rw [lp_X10_isUsed_4, if_neg (nI_ge hlt (by omega)), drop_cons 0 hlt]
    cases b with
    | true =>
      rw [if_neg (by decide), ob1_mk, nI_1]
      have := ih (k + 1) m true (by omega) (by omega)
      rw [Bool.true_or] at this ⊢
      exact this
    | false =>
      rw [if_pos (by decide), ckb_in _ (show k < 96 by omega) (by omega), nI_clamp (by omega), h1, nI_1]
      by_cases hq : sl.getD k 0 = x
      · rw [if_pos (by rw [hq]), ob1_mk]
        have := ih (k + 1) m true (by omega) (by omega)
        rw [Bool.true_or] at this
        rw [memd_t hq.symm]
        exact this
      · rw [if_neg (fun q => hq ((nI_eq (by omega) (by omega)).mp q)), ob1_mk]
        have := ih (k + 1) m false (by omega) (by omega)
        rw [memd_f (fun q => hq q.symm)]
        exact this
theorem isUsed40 {next : Nat → Int32} {nx : List Nat} (ho : ∀ k, k < nx.length → next k = nI (nx.getD k 0) ∧ nx.getD k 0 < 240) (hl : nx.length ≤ 240) {x : Nat} (hx : x < 1000) : ∀ (r k n : Nat) (b : Bool), r + k = nx.length → r < n → lp_X10_isUsed_40 (nI nx.length) next (nI x) n (nI b.toNat) (nI k) = some (nI (b || decide (x ∈ nx.drop k)).toNat) := by
  intro r
  induction r with
  | zero =>
    intro k n b hk hn
    obtain ⟨m, rfl⟩ : ∃ m, n = m + 1 := ⟨n - 1, by omega⟩
    rw [lp_X10_isUsed_40, if_pos (nI_le (by omega) (by omega)), List.drop_eq_nil_of_le (by omega)]
    simp
  | succ r ih =>
    intro k n b hk hn
    obtain ⟨m, rfl⟩ : ∃ m, n = m + 1 := ⟨n - 1, by omega⟩
    have hlt : k < nx.length := by omega
    obtain ⟨h1, h2⟩ := ho k hlt
    rw [lp_X10_isUsed_40, if_neg (nI_ge hlt (by omega)), drop_cons 0 hlt]
    cases b with
    | true =>
      rw [if_neg (by decide), ob1_mk, nI_1]
      have := ih (k + 1) m true (by omega) (by omega)
      rw [Bool.true_or] at this ⊢
      exact this
    | false =>
      rw [if_pos (by decide), ckb_in _ (show k < 240 by omega) (by omega), nI_clamp (by omega), h1, nI_1]
      by_cases hq : nx.getD k 0 = x
      · rw [if_pos (by rw [hq]), ob1_mk]
        have := ih (k + 1) m true (by omega) (by omega)
        rw [Bool.true_or] at this
        rw [memd_t hq.symm]
        exact this
      · rw [if_neg (fun q => hq ((nI_eq (by omega) (by omega)).mp q)), ob1_mk]
        have := ih (k + 1) m false (by omega) (by omega)
        rw [memd_f (fun q => hq q.symm)]
        exact this
theorem isUsed_M {order next : Nat → Int32} {sl nx : List Nat} (ho : ∀ k, k < sl.length → order k = nI (sl.getD k 0) ∧ sl.getD k 0 < 240) (hl : sl.length ≤ 96) (hn : ∀ k, k < nx.length → next k = nI (nx.getD k 0) ∧ nx.getD k 0 < 240) (hl2 : nx.length ≤ 240) {x : Nat} (hx : x < 1000) : m_X10_isUsed (nI sl.length) (nI nx.length) order next (nI x) = some (nI (decide (x ∈ sl) || decide (x ∈ nx)).toNat) := by
  have h1 := isUsed4 ho hl hx sl.length 0 NN false (by omega) (by unfold NN; omega)
  rw [Bool.false_or, List.drop_zero] at h1
  have h1' : lp_X10_isUsed_4 (nI sl.length) order (nI x) NN (0 : Int32) (0 : Int32) = some (nI (decide (x ∈ sl)).toNat) := h1
  have h2 := isUsed40 hn hl2 hx nx.length 0 NN (decide (x ∈ sl)) (by omega) (by unfold NN; omega)
  rw [List.drop_zero] at h2
  have h2' : lp_X10_isUsed_40 (nI nx.length) next (nI x) NN (nI (decide (x ∈ sl)).toNat) (0 : Int32) = some (nI (decide (x ∈ sl) || decide (x ∈ nx)).toNat) := h2
  rw [m_X10_isUsed, h1', ob1_mk, h2', ob1_mk, ckz_b]
theorem free_loop {order next : Nat → Int32} {sl nx : List Nat} (ho : ∀ k, k < sl.length → order k = nI (sl.getD k 0) ∧ sl.getD k 0 < 240) (hl : sl.length ≤ 96) (hn : ∀ k, k < nx.length → next k = nI (nx.getD k 0) ∧ nx.getD k 0 < 240) (hl2 : nx.length ≤ 240) {y : Nat} (hy : y < 240) (hy1 : y ∉ sl) (hy2 : y ∉ nx) : ∀ (r x n : Nat), r + x = y → r < n → ∃ z, z < 240 ∧ z ∉ sl ∧ z ∉ nx ∧ lp_X10_freeSlot_2 (nI sl.length) (nI nx.length) order next n (nI x) = some (nI z) := by
  intro r
  induction r with
  | zero =>
    intro x n hx hn2
    obtain ⟨m, rfl⟩ : ∃ m, n = m + 1 := ⟨n - 1, by omega⟩
    have : x = y := by omega
    subst this
    refine ⟨x, hy, hy1, hy2, ?_⟩
    rw [lp_X10_freeSlot_2, isUsed_M ho hl hn hl2 (by omega), ob1_mk, decide_eq_false hy1, decide_eq_false hy2, if_pos (by decide)]
  | succ r ih =>
    intro x n hx hn2
    obtain ⟨m, rfl⟩ : ∃ m, n = m + 1 := ⟨n - 1, by omega⟩
    rw [lp_X10_freeSlot_2, isUsed_M ho hl hn hl2 (by omega), ob1_mk]
    by_cases h : x ∈ sl ∨ x ∈ nx
    · have : (decide (x ∈ sl) || decide (x ∈ nx)) = true := by simpa using h
      rw [this, if_neg (by decide), nI_1]
      exact ih (x + 1) m (by omega) (by omega)
    · have h1 : x ∉ sl := fun q => h (Or.inl q)
      have h2 : x ∉ nx := fun q => h (Or.inr q)
      rw [decide_eq_false h1, decide_eq_false h2, if_pos (by decide)]
      exact ⟨x, by omega, h1, h2, rfl⟩
def slC (its many times values : Nat → Int32) (c : Ch) (x : Nat) : Prop := x < 240 ∧ its x = nI c.1 ∧ many x = nI c.2.1.length ∧ slotAt times values x c.2.1
abbrev cb0 : Ch × Bool := (ch0, false)
def NX (its many times values next isNew : Nat → Int32) (cs : List Ch) (sl : List Nat) (itm : List (Ch × Bool)) (nx : List Nat) : Prop :=
  nx.length = itm.length ∧ (∀ k, k < itm.length → next k = nI (nx.getD k 0) ∧ isNew k = nI (itm.getD k cb0).2.toNat ∧ slC its many times values (itm.getD k cb0).1 (nx.getD k 0) ∧ ((itm.getD k cb0).2 = true → nx.getD k 0 ∉ sl ∧ ∀ j, j < itm.length → j ≠ k → nx.getD j 0 ≠ nx.getD k 0) ∧ ((itm.getD k cb0).2 = false → ∃ j, j < cs.length ∧ nx.getD k 0 = sl.getD j 0 ∧ (itm.getD k cb0).1 = cs.getD j ch0)) ∧
  ∃ ex : List Nat, ex.length = nNew itm ∧ ∀ x ∈ nx, x ∈ sl ∨ x ∈ ex
theorem slOk_ord {order its many place length times values : Nat → Int32} {cs : List Ch} {sl : List Nat} (h : slOk order its many place length times values cs sl) : ∀ k, k < sl.length → order k = nI (sl.getD k 0) ∧ sl.getD k 0 < 240 := fun k hk => ⟨(h.2.2 k (by rw [← h.1]; exact hk)).2.1, (h.2.2 k (by rw [← h.1]; exact hk)).1⟩
theorem NX_ord {its many times values next isNew : Nat → Int32} {cs : List Ch} {sl : List Nat} {itm : List (Ch × Bool)} {nx : List Nat} (h : NX its many times values next isNew cs sl itm nx) : ∀ k, k < nx.length → next k = nI (nx.getD k 0) ∧ nx.getD k 0 < 240 := fun k hk => ⟨(h.2.1 k (by rw [← h.1]; exact hk)).1, (h.2.1 k (by rw [← h.1]; exact hk)).2.2.1.1⟩
theorem freeSlot_M {order its many place length times values next isNew : Nat → Int32} {cs : List Ch} {sl : List Nat} {itm : List (Ch × Bool)} {nx : List Nat} (h : slOk order its many place length times values cs sl) (hx : NX its many times values next isNew cs sl itm nx) (hl : cs.length ≤ 96) (hl2 : itm.length ≤ 240) (hn : nNew itm < 144) : ∃ z, z < 240 ∧ z ∉ sl ∧ z ∉ nx ∧ m_X10_freeSlot (nI cs.length) (nI itm.length) order next = some (nI z) := by
  obtain ⟨ex, x1, x2⟩ := hx.2.2
  have : ∃ y, y < 240 ∧ y ∉ sl ++ ex := by
    apply Classical.byContradiction
    intro hno
    have := pigeon 240 (sl ++ ex) (fun x hx => Classical.byContradiction fun q => hno ⟨x, hx, q⟩)
    rw [List.length_append, h.1, x1] at this
    omega
  obtain ⟨y, y1, y2⟩ := this
  rw [List.mem_append, not_or] at y2
  have y3 : y ∉ nx := fun q => by
    rcases x2 y q with q | q
    · exact y2.1 q
    · exact y2.2 q
  obtain ⟨z, z1, z2, z3, z4⟩ := free_loop (slOk_ord h) (by rw [h.1]; exact hl) (NX_ord hx) (by rw [hx.1]; exact hl2) y1 y2.1 y3 y 0 NN (by omega) (by unfold NN; omega)
  refine ⟨z, z1, z2, z3, ?_⟩
  rw [h.1, hx.1] at z4
  have z4' : lp_X10_freeSlot_2 (nI cs.length) (nI itm.length) order next NN (0 : Int32) = some (nI z) := z4
  rw [m_X10_freeSlot, z4', ob1_mk]
theorem NX_nil (its many times values next isNew : Nat → Int32) (cs : List Ch) (sl : List Nat) : NX its many times values next isNew cs sl [] [] := ⟨rfl, fun k hk => absurd hk (by simp), [], rfl, fun x hx => absurd hx (by simp)⟩
theorem comes_M {c : Nat} (hc : c < 240) (next isNew : Nat → Int32) (p : Int32) (b : Bool) : m_X10_comes (nI c) next isNew p (nI b.toNat) = some (nI (c + 1), upd next c p, upd isNew c (nI b.toNat)) := by
  have e : vp_nar .boolean (nI b.toNat) = nI b.toNat := by cases b <;> rfl
  rw [m_X10_comes, ckb_in _ hc (by omega), ckb_in _ hc (by omega), nI_clamp (by omega), nI_1, e]
theorem gd_mem0 {l : List Nat} {k : Nat} (h : k < l.length) : l.getD k 0 ∈ l := gd_mem 0 h
/-- one more that stays -/
theorem NX_keep {order its many place length times values next isNew : Nat → Int32} {cs : List Ch} {sl : List Nat} {itm : List (Ch × Bool)} {nx : List Nat} (h : slOk order its many place length times values cs sl) (hx : NX its many times values next isNew cs sl itm nx) {j : Nat} (hj : j < cs.length) : NX its many times values (upd next itm.length (nI (sl.getD j 0))) (upd isNew itm.length (nI false.toNat)) cs sl (itm ++ [(cs.getD j ch0, false)]) (nx ++ [sl.getD j 0]) := by
  obtain ⟨h1, h2, ex, h3, h4⟩ := hx
  obtain ⟨s1, s2, s3, s4, s5, s6, s7⟩ := h.2.2 j hj
  have hjs : sl.getD j 0 ∈ sl := gd_mem0 (by rw [h.1]; exact hj)
  refine ⟨by simp [h1], fun k hk => ?_, ex, by rw [nNew_f]; exact h3, fun x hx => ?_⟩
  · rw [List.length_append, List.length_singleton] at hk
    rw [gd_app2 itm _ _ k hk, gd_app2 nx _ _ k (by omega), h1]
    by_cases hk2 : k = itm.length
    · subst hk2
      rw [if_pos rfl, if_pos rfl, pk_us, pk_us]
      exact ⟨rfl, rfl, ⟨s1, s3, s4, s7⟩, fun q => (nomatch q), fun _ => ⟨j, hj, rfl, rfl⟩⟩
    · rw [if_neg hk2, if_neg hk2, pk_un hk2, pk_un hk2]
      obtain ⟨k1, k2, k3, k4, k5⟩ := h2 k (by omega)
      refine ⟨k1, k2, k3, fun q => ⟨(k4 q).1, fun i hi hik => ?_⟩, k5⟩
      rw [List.length_append, List.length_singleton] at hi
      rw [gd_app2 nx _ _ i (by omega), h1]
      by_cases hi2 : i = itm.length
      · rw [if_pos hi2]
        intro q2
        exact (k4 q).1 (q2 ▸ hjs)
      · rw [if_neg hi2]
        exact (k4 q).2 i (by omega) hik
  · rcases List.mem_append.mp hx with q | q
    · exact h4 x q
    · rw [List.mem_singleton] at q; subst q; exact Or.inl hjs
/-- what changed touches this slot alone -/
def slEq (x : Nat) (its many times values its' many' times' values' : Nat → Int32) : Prop := (∀ y, y ≠ x → its' y = its y ∧ many' y = many y) ∧ ∀ j, (j < 64 * x ∨ 64 * x + 64 ≤ j) → times' j = times j ∧ values' j = values j
theorem slEq_refl (x : Nat) (its many times values : Nat → Int32) : slEq x its many times values its many times values := ⟨fun _ _ => ⟨rfl, rfl⟩, fun _ _ => ⟨rfl, rfl⟩⟩
theorem slEq_trans {x : Nat} {a1 a2 a3 a4 b1 b2 b3 b4 c1 c2 c3 c4 : Nat → Int32} (h : slEq x a1 a2 a3 a4 b1 b2 b3 b4) (g : slEq x b1 b2 b3 b4 c1 c2 c3 c4) : slEq x a1 a2 a3 a4 c1 c2 c3 c4 := ⟨fun y hy => ⟨by rw [(g.1 y hy).1, (h.1 y hy).1], by rw [(g.1 y hy).2, (h.1 y hy).2]⟩, fun j hj => ⟨by rw [(g.2 j hj).1, (h.2 j hj).1], by rw [(g.2 j hj).2, (h.2 j hj).2]⟩⟩
theorem slot_frame {x y : Nat} {its many times values its' many' times' values' : Nat → Int32} (h : slEq x its many times values its' many' times' values') {ps : List Pt} (hp : ps.length ≤ 64) (hy : y ≠ x) (hs : slotAt times values y ps) : slotAt times' values' y ps := fun i hi => by
  have := h.2 (64 * y + i) (by omega)
  rw [this.1, this.2]
  exact hs i hi
theorem slOk_frame {x : Nat} {order its many place length times values its' many' times' values' : Nat → Int32} {cs : List Ch} {sl : List Nat} (h : slOk order its many place length times values cs sl) (hp : ∀ c ∈ cs, c.2.1.length ≤ 64) (g : slEq x its many times values its' many' times' values') (hx : x ∉ sl) : slOk order its' many' place length times' values' cs sl := by
  refine ⟨h.1, h.2.1, fun k hk => ?_⟩
  obtain ⟨s1, s2, s3, s4, s5, s6, s7⟩ := h.2.2 k hk
  have hne : sl.getD k 0 ≠ x := fun q => hx (q ▸ gd_mem0 (by rw [h.1]; exact hk))
  exact ⟨s1, s2, by rw [(g.1 _ hne).1]; exact s3, by rw [(g.1 _ hne).2]; exact s4, s5, s6, slot_frame g (hp _ (gd_mem ch0 hk)) hne s7⟩
def itP (itm : List (Ch × Bool)) : Prop := ∀ q ∈ itm, q.1.2.1.length ≤ 64
/-- one more that is new -/
theorem NX_new {x : Nat} {its many times values next isNew its' many' times' values' : Nat → Int32} {cs : List Ch} {sl : List Nat} {itm : List (Ch × Bool)} {nx : List Nat} (hp : itP itm) (hx : NX its many times values next isNew cs sl itm nx) (g : slEq x its many times values its' many' times' values') (hx1 : x ∉ sl) (hx2 : x ∉ nx) {c : Ch} (hc : slC its' many' times' values' c x) : NX its' many' times' values' (upd next itm.length (nI x)) (upd isNew itm.length (nI true.toNat)) cs sl (itm ++ [(c, true)]) (nx ++ [x]) := by
  obtain ⟨h1, h2, ex, h3, h4⟩ := hx
  refine ⟨by simp [h1], fun k hk => ?_, ex ++ [x], by rw [nNew_t]; simp [h3], fun y hy => ?_⟩
  · rw [List.length_append, List.length_singleton] at hk
    rw [gd_app2 itm _ _ k hk, gd_app2 nx _ _ k (by omega), h1]
    by_cases hk2 : k = itm.length
    · subst hk2
      rw [if_pos rfl, if_pos rfl, pk_us, pk_us]
      refine ⟨rfl, rfl, hc, fun _ => ⟨hx1, fun i hi hik => ?_⟩, fun q => (nomatch q)⟩
      rw [List.length_append, List.length_singleton] at hi
      rw [gd_app2 nx _ _ i (by omega), h1, if_neg hik]
      exact fun q => hx2 (q ▸ gd_mem0 (by omega))
    · rw [if_neg hk2, if_neg hk2, pk_un hk2, pk_un hk2]
      have hlt : k < itm.length := by omega
      obtain ⟨k1, k2, ⟨t1, t2, t3, t4⟩, k4, k5⟩ := h2 k hlt
      have hne : nx.getD k 0 ≠ x := fun q => hx2 (q ▸ gd_mem0 (by omega))
      refine ⟨k1, k2, ⟨t1, by rw [(g.1 _ hne).1]; exact t2, by rw [(g.1 _ hne).2]; exact t3, slot_frame g (hp _ (gd_mem cb0 hlt)) hne t4⟩, fun q => ⟨(k4 q).1, fun i hi hik => ?_⟩, k5⟩
      rw [List.length_append, List.length_singleton] at hi
      rw [gd_app2 nx _ _ i (by omega), h1]
      by_cases hi2 : i = itm.length
      · rw [if_pos hi2]
        exact fun q2 => hne q2.symm
      · rw [if_neg hi2]
        exact (k4 q).2 i (by omega) hik
  · rcases List.mem_append.mp hy with q | q
    · rcases h4 y q with q | q
      · exact Or.inl q
      · exact Or.inr (List.mem_append_left _ q)
    · exact Or.inr (List.mem_append_right _ q)
/-- the last one, new, is filled further -/
theorem NX_last {x : Nat} {its many times values next isNew its' many' times' values' : Nat → Int32} {cs : List Ch} {sl : List Nat} {itm : List (Ch × Bool)} {nx : List Nat} {c c' : Ch} (hp : itP itm) (hx : NX its many times values next isNew cs sl (itm ++ [(c, true)]) (nx ++ [x])) (g : slEq x its many times values its' many' times' values') (hc : slC its' many' times' values' c' x) : NX its' many' times' values' next isNew cs sl (itm ++ [(c', true)]) (nx ++ [x]) := by
  obtain ⟨h1, h2, ex, h3, h4⟩ := hx
  have hL : nx.length = itm.length := by simpa using h1
  refine ⟨by simp [hL], fun k hk => ?_, ex, by rw [nNew_t] at h3 ⊢; exact h3, h4⟩
  rw [List.length_append, List.length_singleton] at hk
  have h5 := h2 k (by rw [List.length_append, List.length_singleton]; exact hk)
  have h6 := h2 itm.length (by rw [List.length_append, List.length_singleton]; omega)
  rw [gd_app2 itm _ _ k hk, gd_app2 nx _ _ k (by omega), hL] at h5 ⊢
  rw [gd_app2 itm _ _ _ (by omega), if_pos rfl, gd_app2 nx _ _ _ (by omega), hL, if_pos rfl] at h6
  by_cases hk2 : k = itm.length
  · rw [if_pos hk2, if_pos hk2] at h5 ⊢
    obtain ⟨k1, k2, k3, k4, k5⟩ := h5
    refine ⟨k1, k2, hc, fun _ => ⟨(k4 rfl).1, fun i hi hik => (k4 rfl).2 i (by simpa using hi) hik⟩, fun q => (nomatch q)⟩
  · rw [if_neg hk2, if_neg hk2] at h5 ⊢
    have hlt : k < itm.length := by omega
    obtain ⟨k1, k2, ⟨t1, t2, t3, t4⟩, k4, k5⟩ := h5
    have hne : nx.getD k 0 ≠ x := by
      have := (h6.2.2.2.1 rfl).2 k (by simp; omega) hk2
      rw [gd_app2 nx _ _ k (by omega), hL, if_neg hk2] at this
      exact this
    exact ⟨k1, k2, ⟨t1, by rw [(g.1 _ hne).1]; exact t2, by rw [(g.1 _ hne).2]; exact t3, slot_frame g (hp _ (gd_mem cb0 hlt)) hne t4⟩, fun q => ⟨(k4 q).1, fun i hi hik => (k4 q).2 i (by simpa using hi) hik⟩, k5⟩
