/-! the reference: compact's chunks -/
def tkn (m : Nat) : Nat → List Ch → Nat
  | _, [] => 0
  | tot, c :: r => if tot + c.2.1.length ≤ m then 1 + tkn m (tot + c.2.1.length) r else 0
theorem tkn_le (m : Nat) : ∀ (l : List Ch) (tot : Nat), tkn m tot l ≤ l.length := by
  intro l
  induction l with
  | nil => intro tot; exact Nat.le_refl 0
  | cons c l ih =>
    intro tot
    unfold tkn
    have := ih (tot + c.2.1.length)
    rw [List.length_cons]
    split <;> omega
theorem fpts_cons (c : Ch) (l : List Ch) : fpts (c :: l) = c.2.1 ++ fpts l := by unfold fpts; rw [List.flatMap_cons]
theorem fpts_app (a b : List Ch) : fpts (a ++ b) = fpts a ++ fpts b := by unfold fpts; rw [List.flatMap_append]
theorem tkn_tot (m : Nat) : ∀ (l : List Ch) (tot : Nat), tot ≤ m → tot + (fpts (l.take (tkn m tot l))).length ≤ m := by
  intro l
  induction l with
  | nil => intro tot h; simp [fpts]; exact h
  | cons c l ih =>
    intro tot h
    unfold tkn
    by_cases hc : tot + c.2.1.length ≤ m
    · rw [if_pos hc, Nat.add_comm 1, List.take_succ_cons, fpts_cons, List.length_append]
      have := ih _ hc
      omega
    · rw [if_neg hc, List.take_zero]; simp [fpts]; exact h
theorem grp_tkn {m : Nat} : ∀ (l cur : List Ch), (∀ c ∈ l, c.2.1.length ≤ m) → grp m cur l = (cur ++ l.take (tkn m (fpts cur).length l)) :: (if l.drop (tkn m (fpts cur).length l) = [] then [] else grp m [] (l.drop (tkn m (fpts cur).length l))) := by
  intro l
  induction l with
  | nil => intro cur _; simp [grp, tkn]
  | cons c l ih =>
    intro cur hl
    unfold tkn
    by_cases hc : (fpts cur).length + c.2.1.length ≤ m
    · have e0 : grp m cur (c :: l) = grp m (cur ++ [c]) l := by
        show (if _ then _ else _) = _
        rw [if_pos hc]
      rw [e0, if_pos hc, ih (cur ++ [c]) (fun x hx => hl x (List.mem_cons_of_mem _ hx)), fpts_snoc, List.length_append, Nat.add_comm 1, List.take_succ_cons, List.drop_succ_cons, List.append_assoc]
      rfl
    · have e0 : grp m cur (c :: l) = cur :: grp m [c] l := by
        show (if _ then _ else _) = _
        rw [if_neg hc]
      have e1 : grp m [] (c :: l) = grp m [c] l := by
        show (if _ then _ else _) = _
        rw [if_pos (by have := hl c List.mem_cons_self; simp [fpts]; omega)]
        rfl
      rw [e0, if_neg hc, List.take_zero, List.drop_zero, List.append_nil, if_neg (by simp), e1]
theorem tog_loop {order its many place length times values : Nat → Int32} {cs : List Ch} {sl : List Nat} {N m : Nat} (h : slOk order its many place length times values cs sl) (hW : ∀ c ∈ cs, chW N m c) (hN : N < 900) (hm : m ≤ 64) (hcl : cs.length ≤ 96) {k s : Nat} (hk : k < cs.length) (hks : (cs.getD k ch0).1 = s) : ∀ (r n fu tot : Nat), r + (k + n) = cs.length → r < fu → tot ≤ 64 → lp_X10_together_14 (nI m) (nI cs.length) its many order (nI k) fu (nI n) (nI tot) = some (nI (n + tkn m tot ((cs.drop (k + n)).takeWhile (fun c => c.1 == s)))) := by
  intro r
  have hsN := (hW _ (gd_mem ch0 hk)).1
  obtain ⟨z1, z2, z3, z4, z5, z6, z7⟩ := h.2.2 k hk
  induction r with
  | zero =>
    intro n fu tot hr hf ht
    obtain ⟨q, rfl⟩ : ∃ q, fu = q + 1 := ⟨fu - 1, by omega⟩
    rw [lp_X10_together_14, nI_add, if_pos (nI_le (by omega) (by omega)), List.drop_eq_nil_of_le (by omega)]
    rfl
  | succ r ih =>
    intro n fu tot hr hf ht
    obtain ⟨q, rfl⟩ : ∃ q, fu = q + 1 := ⟨fu - 1, by omega⟩
    have hlt : k + n < cs.length := by omega
    obtain ⟨s1, s2, s3, s4, s5, s6, s7⟩ := h.2.2 (k + n) hlt
    have hw := hW _ (gd_mem ch0 hlt)
    have hw1 := hw.1
    have hw3 := hw.2.2.1
    rw [lp_X10_together_14, nI_add, if_neg (nI_ge hlt (by omega)), ckb_in _ (show k + n < 96 by omega) (by omega), nI_clamp (show k + n < 2 ^ 31 by omega), s2, ckb_in _ s1 (by omega), nI_clamp (show sl.getD (k + n) 0 < 2 ^ 31 by omega), ckb_in _ (show k < 96 by omega) (by omega), nI_clamp (show k < 2 ^ 31 by omega), z2, ckb_in _ z1 (by omega), nI_clamp (show sl.getD k 0 < 2 ^ 31 by omega), s3, z3, s4, drop_cons ch0 hlt]
    by_cases hss : (cs.getD (k + n) ch0).1 = s
    · rw [if_pos (by rw [hss, hks]), ckb_in _ (show k + n < 96 by omega) (by omega), ckb_in _ s1 (by omega), nI_add, List.takeWhile_cons_of_pos (by simpa using hss)]
      by_cases hc : tot + (cs.getD (k + n) ch0).2.1.length ≤ m
      · rw [if_neg (nI_nlt hc (by omega)), ckb_in _ (show k + n < 96 by omega) (by omega), ckb_in _ s1 (by omega), nI_1]
        have := ih (n + 1) q (tot + (cs.getD (k + n) ch0).2.1.length) (by omega) (by omega) (by omega)
        rw [this, ← Nat.add_assoc]
        show _ = some (nI (n + (if _ then _ else _)))
        rw [if_pos hc, ← Nat.add_assoc]
      · rw [if_pos (nI_lt (by omega) (by omega))]
        show _ = some (nI (n + (if _ then _ else _)))
        rw [if_neg hc]
        rfl
    · rw [if_neg (fun q => hss (by rw [hks] at q; exact (nI_eq (by omega) (by omega)).mp q)), List.takeWhile_cons_of_neg (by simpa using hss)]
      rfl
theorem tog_M {order its many place length times values : Nat → Int32} {cs : List Ch} {sl : List Nat} {N m : Nat} (h : slOk order its many place length times values cs sl) (hW : ∀ c ∈ cs, chW N m c) (hN : N < 900) (hm : m ≤ 64) (hcl : cs.length ≤ 96) {k s : Nat} (hk : k < cs.length) (hks : (cs.getD k ch0).1 = s) : m_X10_together (nI m) (nI cs.length) its many order (nI k) = some (nI (1 + tkn m (cs.getD k ch0).2.1.length ((cs.drop (k + 1)).takeWhile (fun c => c.1 == s)))) := by
  obtain ⟨z1, z2, z3, z4, z5, z6, z7⟩ := h.2.2 k hk
  have hw3 := (hW _ (gd_mem ch0 hk)).2.2.1
  have := tog_loop h hW hN hm hcl hk hks (cs.length - (k + 1)) 1 NN (cs.getD k ch0).2.1.length (by omega) (by unfold NN; omega) (by omega)
  have this' : lp_X10_together_14 (nI m) (nI cs.length) its many order (nI k) NN (1 : Int32) (nI (cs.getD k ch0).2.1.length) = some (nI (1 + tkn m (cs.getD k ch0).2.1.length ((cs.drop (k + 1)).takeWhile (fun c => c.1 == s)))) := this
  rw [m_X10_together, ckb_in _ (show k < 96 by omega) (by omega), nI_clamp (show k < 2 ^ 31 by omega), z2, ckb_in _ z1 (by omega), nI_clamp (show sl.getD k 0 < 2 ^ 31 by omega), z4, this', ob1_mk]
theorem jd49 {order its place length next isNew : Nat → Int32} {cs : List Ch} {sl : List Nat} {itm : List (Ch × Bool)} {nx : List Nat} {z s : Nat} (hpc : ∀ c ∈ cs, c.2.1.length ≤ 64) (hcl : cs.length ≤ 96) (hp : itP itm) {k : Nat} (hk : k < cs.length) : ∀ (r i fu : Nat) (cur : List Pt) (many times values : Nat → Int32), r + i = (cs.getD k ch0).2.1.length → r < fu → cur.length + r ≤ 64 → slOk order its many place length times values cs sl → NX its many times values next isNew cs sl (itm ++ [mkN s cur]) (nx ++ [z]) →
    ∃ many' times' values' : Nat → Int32, lp_X10_joined_49 order (nI z) (nI k) fu (nI i) many times values = some (many', times', values') ∧ slOk order its many' place length times' values' cs sl ∧ NX its many' times' values' next isNew cs sl (itm ++ [mkN s (cur ++ (cs.getD k ch0).2.1.drop i)]) (nx ++ [z]) := by
  intro r
  have hl64 := hpc _ (gd_mem ch0 hk)
  induction r with
  | zero =>
    intro i fu cur many times values hi hf hc hsl hx
    obtain ⟨q, rfl⟩ : ∃ q, fu = q + 1 := ⟨fu - 1, by omega⟩
    obtain ⟨s1, s2, s3, s4, s5, s6, s7⟩ := hsl.2.2 k hk
    rw [lp_X10_joined_49, ckb_in _ (show k < 96 by omega) (by omega), nI_clamp (show k < 2 ^ 31 by omega), s2, ckb_in _ s1 (by omega), nI_clamp (show sl.getD k 0 < 2 ^ 31 by omega), s4, if_pos (nI_le (by omega) (by omega)), List.drop_eq_nil_of_le (by omega), List.append_nil]
    exact ⟨_, _, _, rfl, hsl, hx⟩
  | succ r ih =>
    intro i fu cur many times values hi hf hc hsl hx
    obtain ⟨q, rfl⟩ : ∃ q, fu = q + 1 := ⟨fu - 1, by omega⟩
    obtain ⟨s1, s2, s3, s4, s5, s6, s7⟩ := hsl.2.2 k hk
    have hlt : i < (cs.getD k ch0).2.1.length := by omega
    obtain ⟨many1, times1, values1, e1, hx1, hsl1, -⟩ := fill_M hsl hpc hp hx (by omega) ((cs.getD k ch0).2.1.getD i (0, 0))
    rw [lp_X10_joined_49, ckb_in _ (show k < 96 by omega) (by omega), nI_clamp (show k < 2 ^ 31 by omega), s2, ckb_in _ s1 (by omega), nI_clamp (show sl.getD k 0 < 2 ^ 31 by omega), s4, if_neg (nI_ge hlt (by omega)), ckb_in _ (show k < 96 by omega) (by omega), e64, ckb_in _ (show 64 * sl.getD k 0 + i < 15360 by omega) (by omega), ckb_in _ (show k < 96 by omega) (by omega), ckb_in _ (show 64 * sl.getD k 0 + i < 15360 by omega) (by omega), nI_clamp (show 64 * sl.getD k 0 + i < 2 ^ 31 by omega), (s7 i hlt).1, (s7 i hlt).2, e1, ob3_mk, nI_1, drop_cons (0, 0) hlt]
    obtain ⟨many2, times2, values2, e2, hsl2, hx2⟩ := ih (i + 1) q _ _ _ _ (by omega) (by omega) (by simp; omega) hsl1 hx1
    refine ⟨many2, times2, values2, e2, hsl2, ?_⟩
    rw [List.append_assoc] at hx2
    exact hx2
theorem jd38 {order its place length next isNew : Nat → Int32} {cs : List Ch} {sl : List Nat} {itm : List (Ch × Bool)} {nx : List Nat} {z s : Nat} (hpc : ∀ c ∈ cs, c.2.1.length ≤ 64) (hcl : cs.length ≤ 96) (hp : itP itm) {p g : Nat} (hpg : p + g ≤ cs.length) : ∀ (r a fu : Nat) (cur : List Pt) (many times values : Nat → Int32), r + a = p + g → r < fu → cur.length + (fpts (sg cs a (p + g))).length ≤ 64 → slOk order its many place length times values cs sl → NX its many times values next isNew cs sl (itm ++ [mkN s cur]) (nx ++ [z]) →
    ∃ many' times' values' : Nat → Int32, lp_X10_joined_38 order (nI p) (nI g) (nI z) fu (nI a) many times values = some (many', times', values') ∧ slOk order its many' place length times' values' cs sl ∧ NX its many' times' values' next isNew cs sl (itm ++ [mkN s (cur ++ fpts (sg cs a (p + g)))]) (nx ++ [z]) := by
  intro r
  induction r with
  | zero =>
    intro a fu cur many times values ha hf hc hsl hx
    obtain ⟨q, rfl⟩ : ∃ q, fu = q + 1 := ⟨fu - 1, by omega⟩
    have : a = p + g := by omega
    subst this
    rw [lp_X10_joined_38, nI_add, if_pos (nI_le (by omega) (by omega)), sg_nil]
    refine ⟨_, _, _, rfl, hsl, ?_⟩
    simp [fpts]
    exact hx
  | succ r ih =>
    intro a fu cur many times values ha hf hc hsl hx
    obtain ⟨q, rfl⟩ : ∃ q, fu = q + 1 := ⟨fu - 1, by omega⟩
    have hlt : a < cs.length := by omega
    rw [sg_cons (show a < p + g by omega) hlt, fpts_cons, List.length_append] at hc
    have hlen := hpc _ (gd_mem ch0 hlt)
    obtain ⟨many1, times1, values1, e1, hsl1, hx1⟩ := jd49 (z := z) hpc hcl hp hlt (cs.getD a ch0).2.1.length 0 NN cur many times values (by omega) (by unfold NN; omega) (by omega) hsl hx
    rw [List.drop_zero] at hx1
    have e1' : lp_X10_joined_49 order (nI z) (nI a) NN (0 : Int32) many times values = some (many1, times1, values1) := e1
    rw [lp_X10_joined_38, nI_add, if_neg (nI_ge (by omega) (by omega)), e1', ob3_mk, nI_1, sg_cons (show a < p + g by omega) hlt, fpts_cons, ← List.append_assoc]
    exact ih (a + 1) q _ _ _ _ (by omega) (by omega) (by rw [List.length_append]; omega) hsl1 hx1
theorem joined_M {order its many place length times values next isNew : Nat → Int32} {cs : List Ch} {sl : List Nat} {itm : List (Ch × Bool)} {nx : List Nat} (h : slOk order its many place length times values cs sl) (hpc : ∀ c ∈ cs, c.2.1.length ≤ 64) (hcl : cs.length ≤ 96) (hp : itP itm) (hx : NX its many times values next isNew cs sl itm nx) (hl2 : itm.length < 144) {p g : Nat} (hg1 : 1 ≤ g) (hpg : p + g ≤ cs.length) (hc : (fpts (sg cs p (p + g))).length ≤ 64) :
    ∃ (its' many' times' values' next' isNew' : Nat → Int32) (nx' : List Nat), m_X10_joined (nI cs.length) (nI itm.length) its many times values order next isNew (nI p) (nI g) = some (nI (itm.length + 1), its', many', times', values', next', isNew') ∧ slOk order its' many' place length times' values' cs sl ∧ NX its' many' times' values' next' isNew' cs sl (itm ++ [mkN (cs.getD p ch0).1 (fpts (sg cs p (p + g)))]) nx' := by
  have hlt : p < cs.length := by omega
  obtain ⟨s1, s2, s3, s4, s5, s6, s7⟩ := h.2.2 p hlt
  have hnn := nNew_le itm
  obtain ⟨z, z1, z2, z3, z4⟩ := open_M h hpc hp hx hcl (by omega) (by omega) (cs.getD p ch0).1
  obtain ⟨many1, times1, values1, e1, hsl1, hx1⟩ := jd38 (z := z) hpc hcl hp hpg g p NN [] _ _ _ (by omega) (by unfold NN; omega) (by simpa using hc) z4 z3
  rw [List.nil_append] at hx1
  refine ⟨_, many1, times1, values1, _, _, _, ?_, hsl1, hx1⟩
  rw [m_X10_joined, z2, ob1_mk, ckb_in _ (show p < 96 by omega) (by omega), nI_clamp (show p < 2 ^ 31 by omega), s2, ckb_in _ s1 (by omega), nI_clamp (show sl.getD p 0 < 2 ^ 31 by omega), s3, ckb_in _ z1 (by omega), ckb_in _ z1 (by omega), nI_clamp (show z < 2 ^ 31 by omega), comes_1 (by omega), ob3_mk, e1, ob3_mk]
