/-! the reference: ask -/
def crOk (cT cV : Nat → Int32) (a : List Pt) : Prop := ∀ i, i < a.length → cT i = (a.getD i (0, 0)).1 ∧ cV i = (a.getD i (0, 0)).2
def crR (b : Bool) (cT cV cT' cV' : Nat → Int32) (a' : List Pt) : Prop := (b = false → cT' = cT ∧ cV' = cV) ∧ (b = true → crOk cT' cV' a')
theorem inR_iff {p1 p2 : Int32} {q : Pt} : inR p1 p2 q = true ↔ p1 ≤ q.1 ∧ q.1 ≤ p2 := by
  unfold inR
  rw [Bool.and_eq_true, decide_eq_true_iff, decide_eq_true_iff]
theorem asked_1 {p1 p2 : Int32} {q : Pt} (h : inR p1 p2 q = true) : asked p1 p2 [q] = [q] := by unfold asked; rw [List.filter_cons_of_pos h]; rfl
theorem asked_0 {p1 p2 : Int32} {q : Pt} (h : ¬ inR p1 p2 q = true) : asked p1 p2 [q] = [] := by unfold asked; rw [List.filter_cons_of_neg h]; rfl
theorem meet_M {a : List Pt} (hl : a.length < 6300) (q : Pt) (p1 p2 : Int32) (b : Bool) {cT cV : Nat → Int32} (hc : b = true → crOk cT cV a) : ∃ cT' cV' : Nat → Int32, m_X10_meet (nI a.length) (pmin a) (pmax a) (psum a) cT cV q.1 q.2 p1 p2 (nI b.toNat) = some (nI (a ++ asked p1 p2 [q]).length, pmin (a ++ asked p1 p2 [q]), pmax (a ++ asked p1 p2 [q]), psum (a ++ asked p1 p2 [q]), cT', cV') ∧ crR b cT cV cT' cV' (a ++ asked p1 p2 [q]) := by
  rw [m_X10_meet]
  by_cases h1 : q.1 < p1
  · rw [if_pos h1, asked_0 (fun h => lt_not_le.mp h1 (inR_iff.mp h).1), List.append_nil]
    exact ⟨cT, cV, rfl, fun _ => ⟨rfl, rfl⟩, hc⟩
  · rw [if_neg h1]
    have h1' : p1 ≤ q.1 := Classical.byContradiction fun h => h1 (lt_not_le.mpr h)
    by_cases h2 : q.1 ≤ p2
    · have eq1 := asked_1 (inR_iff.mpr ⟨h1', h2⟩)
      rw [if_pos h2, eq1]
      have e1 : (if nI a.length = 0 then some q.2 else if pmin a ≤ q.2 then some (pmin a) else some q.2) = some (pmin (a ++ [q])) := by
        by_cases ha : a = []
        · subst ha; rfl
        · have := ne_len ha
          rw [if_neg (nI_ne0 (by omega) (by omega)), pmin_app ha (by simp)]
          show _ = some (mn q.2 (pmin a))
          unfold mn
          by_cases h3 : pmin a ≤ q.2
          · rw [if_pos h3, if_neg (fun h => lt_not_le.mp h h3)]
          · rw [if_neg h3, if_pos (lt_not_le.mpr h3)]
      have e2 : (if nI a.length = 0 then some q.2 else if q.2 ≤ pmax a then some (pmax a) else some q.2) = some (pmax (a ++ [q])) := by
        by_cases ha : a = []
        · subst ha; rfl
        · have := ne_len ha
          rw [if_neg (nI_ne0 (by omega) (by omega)), pmax_app ha (by simp)]
          show _ = some (mx q.2 (pmax a))
          unfold mx
          by_cases h3 : q.2 ≤ pmax a
          · rw [if_pos h3, if_neg (fun h => lt_not_le.mp h h3)]
          · rw [if_neg h3, if_pos (lt_not_le.mpr h3)]
      have e3 : psum (a ++ [q]) = psum a + q.2.toInt64 := psum_snoc a q
      rw [e1, ob1_mk, e2, ob1_mk, e3, nI_1, List.length_append, List.length_singleton]
      cases b with
      | false =>
        rw [if_pos (by decide), ob2_mk]
        exact ⟨cT, cV, rfl, fun _ => ⟨rfl, rfl⟩, fun h => (nomatch h)⟩
      | true =>
        rw [if_neg (by decide), ckb_in _ hl (by omega), ckb_in _ hl (by omega), ob2_mk, nI_clamp (by omega)]
        refine ⟨_, _, rfl, fun h => (nomatch h), fun _ i hi => ?_⟩
        rw [List.length_append, List.length_singleton] at hi
        rw [gd_app2 a q _ i hi]
        by_cases hi2 : i = a.length
        · subst hi2
          rw [if_pos rfl, pk_us, pk_us]
          exact ⟨rfl, rfl⟩
        · rw [if_neg hi2, pk_un hi2, pk_un hi2]
          exact hc rfl i (by omega)
    · rw [if_neg h2, asked_0 (fun h => h2 (inR_iff.mp h).2), List.append_nil]
      exact ⟨cT, cV, rfl, fun _ => ⟨rfl, rfl⟩, hc⟩
theorem crR_trans {b : Bool} {c1 d1 c2 d2 c3 d3 : Nat → Int32} {a2 a3 : List Pt} (h : crR b c1 d1 c2 d2 a2) (g : crR b c2 d2 c3 d3 a3) : crR b c1 d1 c3 d3 a3 := ⟨fun q => ⟨by rw [(g.1 q).1, (h.1 q).1], by rw [(g.1 q).2, (h.1 q).2]⟩, g.2⟩
theorem ask44_no {its many times values order : Nat → Int32} {k x s ser : Nat} {cs : Nat} (hk : k < 96) (hx : x < 240) (ho : order k = nI x) (hi : its x = nI ser) (hm : many x = nI cs) (hser : ser < 900) (hs : s < 900) (hne : ser ≠ s) (hcs : cs < 1000) (p1 p2 p3 : Int32) (m0 m1 m2 : Int32) (m3 : Int64) (cT cV : Nat → Int32) (n : Nat) : lp_X10_ask_44 its many times values order (nI s) p1 p2 p3 (nI k) (n + 1) (0 : Int32) m0 m1 m2 m3 cT cV = some (m0, m1, m2, m3, cT, cV) := by
  rw [lp_X10_ask_44, nI_clamp (by omega), ho, ckb_in _ hx (by omega), nI_clamp (by omega), hm]
  by_cases hz : nI cs ≤ (0 : Int32)
  · rw [if_pos hz]
  · rw [if_neg hz, ckb_in _ hx (by omega), hi, if_neg (fun q => hne ((nI_eq (by omega) (by omega)).mp q))]
theorem ask44 {its many times values order : Nat → Int32} {k x s : Nat} {ps : List Pt} (hk : k < 96) (ho : order k = nI x) (hi : its x = nI s) (hP : slP many times values x ps) (p1 p2 : Int32) (b : Bool) : ∀ (r i n : Nat) (a : List Pt) (cT cV : Nat → Int32), r + i = ps.length → r < n → a.length + r < 6300 → (b = true → crOk cT cV a) → ∃ cT' cV' : Nat → Int32, lp_X10_ask_44 its many times values order (nI s) p1 p2 (nI b.toNat) (nI k) n (nI i) (nI a.length) (pmin a) (pmax a) (psum a) cT cV = some (nI (a ++ asked p1 p2 (ps.drop i)).length, pmin (a ++ asked p1 p2 (ps.drop i)), pmax (a ++ asked p1 p2 (ps.drop i)), psum (a ++ asked p1 p2 (ps.drop i)), cT', cV') ∧ crR b cT cV cT' cV' (a ++ asked p1 p2 (ps.drop i)) := by
  obtain ⟨h1, h2, h3, h4, h5⟩ := hP
  intro r
  induction r with
  | zero =>
    intro i n a cT cV hr hn ha hc
    obtain ⟨m, rfl⟩ : ∃ m, n = m + 1 := ⟨n - 1, by omega⟩
    rw [lp_X10_ask_44, nI_clamp (show k < 2 ^ 31 by omega), ho, ckb_in _ h1 (by omega), nI_clamp (show x < 2 ^ 31 by omega), h2, if_pos (nI_le (by omega) (by omega)), List.drop_eq_nil_of_le (by omega), show asked p1 p2 [] = [] from rfl, List.append_nil]
    exact ⟨cT, cV, rfl, fun _ => ⟨rfl, rfl⟩, hc⟩
  | succ r ih =>
    intro i n a cT cV hr hn ha hc
    obtain ⟨m, rfl⟩ : ∃ m, n = m + 1 := ⟨n - 1, by omega⟩
    have hlt : i < ps.length := by omega
    obtain ⟨cT1, cV1, e1, hc1⟩ := meet_M (show a.length < 6300 by omega) (ps.getD i (0, 0)) p1 p2 b hc
    have hal := asked_len p1 p2 [ps.getD i (0, 0)]
    rw [List.length_singleton] at hal
    rw [lp_X10_ask_44, nI_clamp (show k < 2 ^ 31 by omega), ho, ckb_in _ h1 (by omega), nI_clamp (show x < 2 ^ 31 by omega), h2, if_neg (nI_ge hlt (by omega)), ckb_in _ h1 (by omega), hi, if_pos rfl, e64, ckb_in _ (show 64 * x + i < 15360 by omega) (by omega), ckb_in _ (show 64 * x + i < 15360 by omega) (by omega), nI_clamp (show 64 * x + i < 2 ^ 31 by omega), (h3 i hlt).1, (h3 i hlt).2, e1, ob6_mk, nI_1, drop_cons (0, 0) hlt, asked_cons p1 p2 _ (ps.drop (i + 1)), ← List.append_assoc]
    obtain ⟨cT2, cV2, e2, hc2⟩ := ih (i + 1) m (a ++ asked p1 p2 [ps.getD i (0, 0)]) cT1 cV1 (by omega) (by omega) (by rw [List.length_append]; omega) hc1.2
    exact ⟨cT2, cV2, e2, crR_trans hc1 hc2⟩
theorem ask23 {order its many place length times values : Nat → Int32} {cs : List Ch} {sl : List Nat} {N m : Nat} (h : slOk order its many place length times values cs sl) (hW : ∀ c ∈ cs, chW N m c) (hN : N < 900) (hm : m ≤ 64) (hcl : cs.length ≤ 96) {s : Nat} (hs : s < 900) (p1 p2 : Int32) (b : Bool) : ∀ (r k n : Nat) (a : List Pt) (cT cV : Nat → Int32), r + k = cs.length → r < n → a.length + 64 * r < 6300 → (b = true → crOk cT cV a) → ∃ cT' cV' : Nat → Int32, lp_X10_ask_23 (nI cs.length) its many times values order (nI s) p1 p2 (nI b.toNat) n (nI k) (nI a.length) (pmin a) (pmax a) (psum a) cT cV = some (nI (a ++ asked p1 p2 (ptsOf s (cs.drop k))).length, pmin (a ++ asked p1 p2 (ptsOf s (cs.drop k))), pmax (a ++ asked p1 p2 (ptsOf s (cs.drop k))), psum (a ++ asked p1 p2 (ptsOf s (cs.drop k))), cT', cV') ∧ crR b cT cV cT' cV' (a ++ asked p1 p2 (ptsOf s (cs.drop k))) := by
  intro r
  induction r with
  | zero =>
    intro k n a cT cV hr hn ha hc
    obtain ⟨q, rfl⟩ : ∃ q, n = q + 1 := ⟨n - 1, by omega⟩
    rw [lp_X10_ask_23, if_pos (nI_le (by omega) (by omega)), List.drop_eq_nil_of_le (by omega), show asked p1 p2 (ptsOf s []) = [] from rfl, List.append_nil]
    exact ⟨cT, cV, rfl, fun _ => ⟨rfl, rfl⟩, hc⟩
  | succ r ih =>
    intro k n a cT cV hr hn ha hc
    obtain ⟨q, rfl⟩ : ∃ q, n = q + 1 := ⟨n - 1, by omega⟩
    have hlt : k < cs.length := by omega
    obtain ⟨s1, s2, s3, s4, s5, s6, s7⟩ := h.2.2 k hlt
    have hw := hW _ (gd_mem ch0 hlt)
    have hw1 := hw.1
    have hw3 := hw.2.2.1
    rw [lp_X10_ask_23, if_neg (nI_ge hlt (by omega)), ckb_in _ (show k < 96 by omega) (by omega), drop_cons ch0 hlt, show cs.getD k ch0 :: cs.drop (k + 1) = [cs.getD k ch0] ++ cs.drop (k + 1) from rfl, ptsOf_app]
    by_cases hss : (cs.getD k ch0).1 = s
    · have e0 : ptsOf s [cs.getD k ch0] = (cs.getD k ch0).2.1 := by rw [ptsOf_all (fun c hc => by rw [List.mem_singleton] at hc; subst hc; exact hss), fpts_one]
      rw [hss] at s3
      obtain ⟨cT1, cV1, e1, hc1⟩ := ask44 (show k < 96 by omega) s2 s3 ⟨s1, s4, s7, hw.2.1, by omega⟩ p1 p2 b (cs.getD k ch0).2.1.length 0 NN a cT cV (by omega) (by unfold NN; omega) (by omega) hc
      rw [List.drop_zero] at e1 hc1
      have e1' : lp_X10_ask_44 its many times values order (nI s) p1 p2 (nI b.toNat) (nI k) NN (0 : Int32) (nI a.length) (pmin a) (pmax a) (psum a) cT cV = _ := e1
      have hal := asked_len p1 p2 (cs.getD k ch0).2.1
      rw [e1', ob6_mk, nI_1, e0, asked_app, ← List.append_assoc]
      obtain ⟨cT2, cV2, e2, hc2⟩ := ih (k + 1) q (a ++ asked p1 p2 (cs.getD k ch0).2.1) cT1 cV1 (by omega) (by omega) (by rw [List.length_append]; omega) hc1.2
      exact ⟨cT2, cV2, e2, crR_trans hc1 hc2⟩
    · have e0 : ptsOf s [cs.getD k ch0] = [] := ptsOf_no (fun c hc => by rw [List.mem_singleton] at hc; subst hc; exact hss)
      have e1 := ask44_no (values := values) (times := times) (show k < 96 by omega) s1 s2 s3 s4 (by omega) hs hss (by omega) p1 p2 (nI b.toNat) (nI a.length) (pmin a) (pmax a) (psum a) cT cV 99999
      have e1' : lp_X10_ask_44 its many times values order (nI s) p1 p2 (nI b.toNat) (nI k) NN (0 : Int32) (nI a.length) (pmin a) (pmax a) (psum a) cT cV = _ := e1
      rw [e1', ob6_mk, nI_1, e0, List.nil_append]
      exact ih (k + 1) q a cT cV (by omega) (by omega) (by omega) hc
theorem ask116 {headOf headTime headValue : Nat → Int32} {hd : List Hd} (hh : hdsOk headOf headTime headValue hd) (hl : hd.length ≤ 128) {N : Nat} (hN : N < 900) (hhN : ∀ x ∈ hd, x.1 < N) {s : Nat} (hs : s < 900) (p1 p2 : Int32) (b : Bool) : ∀ (r k n : Nat) (a : List Pt) (cT cV : Nat → Int32), r + k = hd.length → r < n → a.length + r < 6300 → (b = true → crOk cT cV a) → ∃ cT' cV' : Nat → Int32, lp_X10_ask_116 (nI hd.length) headOf headTime headValue (nI s) p1 p2 (nI b.toNat) n (nI k) (nI a.length) (pmin a) (pmax a) (psum a) cT cV = some (nI (a ++ asked p1 p2 (hdOf s (hd.drop k))).length, pmin (a ++ asked p1 p2 (hdOf s (hd.drop k))), pmax (a ++ asked p1 p2 (hdOf s (hd.drop k))), psum (a ++ asked p1 p2 (hdOf s (hd.drop k))), cT', cV') ∧ crR b cT cV cT' cV' (a ++ asked p1 p2 (hdOf s (hd.drop k))) := by
  intro r
  induction r with
  | zero =>
    intro k n a cT cV hr hn ha hc
    obtain ⟨q, rfl⟩ : ∃ q, n = q + 1 := ⟨n - 1, by omega⟩
    rw [lp_X10_ask_116, if_pos (nI_le (by omega) (by omega)), List.drop_eq_nil_of_le (by omega), show asked p1 p2 (hdOf s []) = [] from rfl, List.append_nil]
    exact ⟨cT, cV, rfl, fun _ => ⟨rfl, rfl⟩, hc⟩
  | succ r ih =>
    intro k n a cT cV hr hn ha hc
    obtain ⟨q, rfl⟩ : ∃ q, n = q + 1 := ⟨n - 1, by omega⟩
    have hlt : k < hd.length := by omega
    obtain ⟨h1, h2, h3⟩ := hh k hlt
    have hsN := hhN _ (gd_mem hd0 hlt)
    have ehd : hdOf s (hd.drop k) = (if (hd.getD k hd0).1 = s then [(hd.getD k hd0).2] else []) ++ hdOf s (hd.drop (k + 1)) := by
      rw [drop_cons hd0 hlt, show hd.getD k hd0 :: hd.drop (k + 1) = [hd.getD k hd0] ++ hd.drop (k + 1) from rfl, hdOf_app, hdOf_one]
    rw [lp_X10_ask_116, if_neg (nI_ge hlt (by omega)), ckb_in _ (show k < 128 by omega) (by omega), nI_clamp (by omega), h1, h2, h3, ehd, nI_1]
    by_cases hss : (hd.getD k hd0).1 = s
    · obtain ⟨cT1, cV1, e1, hc1⟩ := meet_M (show a.length < 6300 by omega) (hd.getD k hd0).2 p1 p2 b hc
      have hal := asked_len p1 p2 [(hd.getD k hd0).2]
      rw [List.length_singleton] at hal
      rw [if_pos (by rw [hss]), if_pos hss, ckb_in _ (show k < 128 by omega) (by omega), ckb_in _ (show k < 128 by omega) (by omega), e1, ob6_mk, ob6_mk, asked_app, ← List.append_assoc]
      obtain ⟨cT2, cV2, e2, hc2⟩ := ih (k + 1) q (a ++ asked p1 p2 [(hd.getD k hd0).2]) cT1 cV1 (by omega) (by omega) (by rw [List.length_append]; omega) hc1.2
      exact ⟨cT2, cV2, e2, crR_trans hc1 hc2⟩
    · rw [if_neg (fun q => hss ((nI_eq (by omega) (by omega)).mp q)), if_neg hss, ob6_mk, List.nil_append]
      exact ih (k + 1) q a cT cV (by omega) (by omega) (by omega) hc
/-! chunks of a series, by number -/
theorem chunksOf_loop {order its many place length times values : Nat → Int32} {cs : List Ch} {sl : List Nat} (h : slOk order its many place length times values cs sl) (hcl : cs.length ≤ 96) {N : Nat} (hN : N < 900) (hcN : ∀ c ∈ cs, c.1 < N) {s : Nat} (hs : s < 900) : ∀ (r k n a : Nat), r + k = cs.length → r < n → lp_X10_chunksOf_4 (nI cs.length) its order (nI s) n (nI a) (nI k) = some (nI (a + (chS s (cs.drop k)).length)) := by
  intro r
  induction r with
  | zero =>
    intro k n a hk hn
    obtain ⟨q, rfl⟩ : ∃ q, n = q + 1 := ⟨n - 1, by omega⟩
    rw [lp_X10_chunksOf_4, if_pos (nI_le (by omega) (by omega)), List.drop_eq_nil_of_le (by omega)]
    rfl
  | succ r ih =>
    intro k n a hk hn
    obtain ⟨q, rfl⟩ : ∃ q, n = q + 1 := ⟨n - 1, by omega⟩
    have hlt : k < cs.length := by omega
    obtain ⟨s1, s2, s3, s4, s5, s6, s7⟩ := h.2.2 k hlt
    have hw1 := hcN _ (gd_mem ch0 hlt)
    rw [lp_X10_chunksOf_4, if_neg (nI_ge hlt (by omega)), ckb_in _ (show k < 96 by omega) (by omega), nI_clamp (by omega), s2, ckb_in _ s1 (by omega), nI_clamp (by omega), s3, drop_cons ch0 hlt]
    unfold chS
    by_cases hss : (cs.getD k ch0).1 = s
    · rw [if_pos (by rw [hss]), ob1_mk, nI_1, nI_1, ih (k + 1) q _ (by omega) (by omega), List.filter_cons_of_pos (by simpa using hss), List.length_cons]
      unfold chS
      congr 2
      omega
    · rw [if_neg (fun q => hss ((nI_eq (by omega) (by omega)).mp q)), ob1_mk, show nI a + (0 : Int32) = nI a from nI_add a 0, nI_1, ih (k + 1) q _ (by omega) (by omega), List.filter_cons_of_neg (by simpa using hss)]
      rfl
theorem chunksOf_M {order its many place length times values : Nat → Int32} {cs : List Ch} {sl : List Nat} (h : slOk order its many place length times values cs sl) (hcl : cs.length ≤ 96) {N : Nat} (hN : N < 900) (hcN : ∀ c ∈ cs, c.1 < N) {s : Nat} (hs : s < 900) : m_X10_chunksOf (nI cs.length) its order (nI s) = some (nI (chS s cs).length) := by
  have := chunksOf_loop h hcl hN hcN hs cs.length 0 NN 0 (by omega) (by unfold NN; omega)
  rw [List.drop_zero, Nat.zero_add] at this
  have this' : lp_X10_chunksOf_4 (nI cs.length) its order (nI s) NN (0 : Int32) (0 : Int32) = _ := this
  rw [m_X10_chunksOf, this', ob1_mk]
/-- groups of r -/
def gcnt (n ρ : Nat) : Nat := (n + ρ - 1) / ρ
theorem groupsOf_M {order its many place length times values : Nat → Int32} {cs : List Ch} {sl : List Nat} (h : slOk order its many place length times values cs sl) (hcl : cs.length ≤ 96) {N : Nat} (hN : N < 900) (hcN : ∀ c ∈ cs, c.1 < N) {s : Nat} (hs : s < 900) {ρ : Nat} (hρ : 2 ≤ ρ) (hρ2 : ρ ≤ 64) : m_X10_groupsOf (nI ρ) (nI cs.length) its order (nI s) = some (nI (gcnt (chS s cs).length ρ)) := by
  have hfl : (chS s cs).length ≤ cs.length := List.length_filter_le _ _
  rw [m_X10_groupsOf, chunksOf_M h hcl hN hcN hs, ob1_mk]
  unfold ckn
  rw [if_neg (nI_ne0 (by omega) (by omega)), nI_add, show (1 : Int32) = nI 1 from rfl, pk_sub (by omega), pk_div (by omega) (by omega) (by omega)]
  rfl
theorem gcnt_le {n ρ g : Nat} (hρ : 2 ≤ ρ) : gcnt n ρ ≤ g ↔ n ≤ ρ * g := by
  unfold gcnt
  rw [← Nat.lt_succ_iff, Nat.div_lt_iff_lt_mul (by omega), Nat.succ_mul, Nat.mul_comm g ρ]
  omega
theorem slot_loop {order its many place length times values : Nat → Int32} {cs : List Ch} {sl : List Nat} (h : slOk order its many place length times values cs sl) (hcl : cs.length ≤ 96) {N : Nat} (hN : N < 900) (hcN : ∀ c ∈ cs, c.1 < N) {s : Nat} (hs : s < 900) {A B C : List Ch} (ecs : cs = A ++ (B ++ C)) (hA : ∀ c ∈ A, c.1 < s) (hB : ∀ c ∈ B, c.1 = s) {j : Nat} (hj : j < B.length) : ∀ (r k n : Nat), r + k = A.length + j → r < n → lp_X10_slot_5 (nI cs.length) its order (nI s) (nI j) n (nI (k - A.length)) (nI k) = some (nI (sl.getD (A.length + j) 0)) := by
  have hlen : cs.length = A.length + (B.length + C.length) := by rw [ecs, List.length_append, List.length_append]
  intro r
  induction r with
  | zero =>
    intro k n hk hn
    obtain ⟨q, rfl⟩ : ∃ q, n = q + 1 := ⟨n - 1, by omega⟩
    have hkk : k = A.length + j := by omega
    subst hkk
    have hlt : A.length + j < cs.length := by omega
    obtain ⟨s1, s2, s3, s4, s5, s6, s7⟩ := h.2.2 _ hlt
    have egk : cs.getD (A.length + j) ch0 = B.getD j ch0 := by rw [ecs, gd_app_r, gd_app_l B C ch0 hj]
    have hser : (cs.getD (A.length + j) ch0).1 = s := by rw [egk]; exact hB _ (gd_mem ch0 hj)
    rw [lp_X10_slot_5, if_neg (nI_ge hlt (by omega)), ckb_in _ (show A.length + j < 96 by omega) (by omega), nI_clamp (by omega), s2, ckb_in _ s1 (by omega), nI_clamp (by omega), s3, if_pos (by rw [hser]), show A.length + j - A.length = j by omega, if_pos rfl, ckb_in _ (show A.length + j < 96 by omega) (by omega)]
  | succ r ih =>
    intro k n hk hn
    obtain ⟨q, rfl⟩ : ∃ q, n = q + 1 := ⟨n - 1, by omega⟩
    have hlt : k < cs.length := by omega
    obtain ⟨s1, s2, s3, s4, s5, s6, s7⟩ := h.2.2 _ hlt
    rw [lp_X10_slot_5, if_neg (nI_ge hlt (by omega)), ckb_in _ (show k < 96 by omega) (by omega), nI_clamp (by omega), s2, ckb_in _ s1 (by omega), nI_clamp (by omega), s3, nI_1]
    by_cases hkA : k < A.length
    · have egk : cs.getD k ch0 = A.getD k ch0 := by rw [ecs, gd_app_l A _ ch0 hkA]
      have h1 := hA _ (gd_mem ch0 hkA)
      rw [← egk] at h1
      rw [if_neg (fun q => by have := (nI_eq (by omega) (by omega)).mp q; omega), nI_1, show k - A.length = k + 1 - A.length by omega]
      exact ih (k + 1) q (by omega) (by omega)
    · have egk : cs.getD k ch0 = B.getD (k - A.length) ch0 := by
        have : cs.getD (A.length + (k - A.length)) ch0 = B.getD (k - A.length) ch0 := by rw [ecs, gd_app_r, gd_app_l B C ch0 (by omega)]
        rw [show A.length + (k - A.length) = k by omega] at this
        exact this
      have hser : (cs.getD k ch0).1 = s := by rw [egk]; exact hB _ (gd_mem ch0 (by omega))
      rw [if_pos (by rw [hser]), if_neg (fun q => by have := (nI_eq (by omega) (by omega)).mp q; omega), nI_1, show k - A.length + 1 = k + 1 - A.length by omega]
      exact ih (k + 1) q (by omega) (by omega)
theorem slot_M {order its many place length times values : Nat → Int32} {cs : List Ch} {sl : List Nat} {m : Nat} (h : slOk order its many place length times values cs sl) (hcl : cs.length ≤ 96) {N : Nat} (hN : N < 900) (hW : ∀ c ∈ cs, chW N m c) (hm : m ≤ 64) (hsort : cs.Pairwise (fun a b => a.1 ≤ b.1)) {s : Nat} (hs : s < 900) {j : Nat} (hj : j < (chS s cs).length) : ∃ x, m_X10_slot (nI cs.length) its order (nI s) (nI j) = some (nI x) ∧ slP many times values x ((chS s cs).getD j ch0).2.1 ∧ place x = nI ((chS s cs).getD j ch0).2.2 ∧ length x = nI (clen ((chS s cs).getD j ch0)) := by
  obtain ⟨A, B, C, e1, a1, a2, a3, a4, a5, a6⟩ := segs hsort s
  have eB : chS s cs = B := a6
  rw [eB] at hj ⊢
  have hlen : cs.length = A.length + (B.length + C.length) := by rw [e1, List.length_append, List.length_append]
  have hlt : A.length + j < cs.length := by omega
  obtain ⟨s1, s2, s3, s4, s5, s6, s7⟩ := h.2.2 _ hlt
  have egk : cs.getD (A.length + j) ch0 = B.getD j ch0 := by rw [e1, gd_app_r, gd_app_l B C ch0 hj]
  have hw := hW _ (gd_mem ch0 hlt)
  have := slot_loop h hcl hN (fun c hc => (hW c hc).1) hs e1 a1 a2 hj (A.length + j) 0 NN (by omega) (by unfold NN; omega)
  rw [Nat.zero_sub] at this
  have this' : lp_X10_slot_5 (nI cs.length) its order (nI s) (nI j) NN (0 : Int32) (0 : Int32) = _ := this
  refine ⟨sl.getD (A.length + j) 0, this', ⟨s1, by rw [s4, egk], by rw [← egk]; exact s7, by rw [← egk]; exact hw.2.1, by rw [← egk]; have := hw.2.2.1; omega⟩, by rw [s5, egk], by rw [s6, egk]⟩
