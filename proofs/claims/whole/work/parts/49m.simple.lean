/-! crashAfter, cell, look, recover -/
theorem crash_ok {N m : Nat} {f : Nat → Int32} {wl dn : Int32} {e sd : Nat} {cs : List Ch} {hd : List Hd} {sl : List Nat} {order its many place length times values headOf headTime headValue : Nat → Int32} (hC : Core N m f wl dn e sd cs hd sl order its many place length times values headOf headTime headValue) (p0 thr : Int32) :
    ∃ r wl' : Int32, m_X9_crashAfter wl dn p0 = some (r, wl') ∧ m_X10_crashAfter thr wl dn p0 = some (r, 0, wl') ∧ Core N m f wl' dn e sd cs hd sl order its many place length times values headOf headTime headValue := by
  obtain ⟨hD, hS, hP, hsl, hh⟩ := id hC
  rw [m_X9_crashAfter, m_X10_crashAfter, m_X2_isDown]
  rcases hP.2 with rfl | ⟨rfl, hw0⟩
  · rw [show ckz (0 : Int32) (some (0 : Int32)) = some 0 from rfl, ob1_mk, if_pos rfl, if_pos rfl]
    by_cases h1 : p0 < 0
    · rw [if_pos h1, if_pos h1]; exact ⟨0, wl, rfl, rfl, hC⟩
    · rw [if_neg h1, if_neg h1]
      by_cases h2 : p0 ≤ (1000000 : Int32)
      · rw [if_pos h2, if_pos h2, m_X2_limitWrites, ob1_mk]
        refine ⟨1, p0, rfl, rfl, hD, hS, ⟨Or.inr ?_, Or.inl rfl⟩, hsl, hh⟩
        rw [Int32.le_iff_toInt_le]
        rw [Int32.lt_iff_toInt_lt] at h1
        have : (0 : Int32).toInt = 0 := rfl
        omega
      · rw [if_neg h2, if_neg h2]; exact ⟨0, wl, rfl, rfl, hC⟩
  · rw [show ckz (1 : Int32) (some (1 : Int32)) = some 1 from rfl, ob1_mk, if_neg (by decide), if_neg (by decide)]
    exact ⟨0, wl, rfl, rfl, hC⟩
theorem cell_ok (f : Nat → Int32) (p0 thr : Int32) : ∃ r : Int32, m_X9_cell f p0 = some r ∧ m_X10_cell thr f p0 = some (r, 0) := by
  rw [m_X9_cell, m_X10_cell, m_X2_read]
  rcases pk_ix p0 (show 4096 < 2 ^ 31 by omega) with h | h | ⟨s, hs, rfl⟩
  · rw [if_pos h, if_pos h, ob1_mk, ob1_mk, ob1_mk]; exact ⟨0, rfl, rfl⟩
  · have h0 : ¬ p0 < 0 := by
      intro q
      rw [Int32.lt_iff_toInt_lt] at q
      have h' : (nI 4096).toInt ≤ p0.toInt := Int32.le_iff_toInt_le.mp h
      rw [nI_toInt (by omega)] at h'
      have : (0 : Int32).toInt = 0 := rfl
      omega
    have h' : (4096 : Int32) ≤ p0 := h
    have h2 : ¬ p0 < (4096 : Int32) := fun q => lt_not_le.mp q h'
    rw [if_neg h0, if_neg h0, if_pos h', if_neg h2, ob1_mk, ob1_mk, ob1_mk]; exact ⟨0, rfl, rfl⟩
  · rw [if_neg (nI_pos (by omega)), if_neg (nI_pos (by omega)), if_neg (show ¬ (4096 : Int32) ≤ nI s from nI_ge (b := 4096) hs (by omega)), if_pos (show nI s < (4096 : Int32) from nI_lt (b := 4096) hs (by omega)), ckb_in _ hs (by omega), nI_clamp (by omega), ob1_mk, ob1_mk, ob1_mk]
    exact ⟨_, rfl, rfl⟩
def tot (g : Ch → Nat) (cs : List Ch) : Nat := (cs.map g).sum
theorem tot_cons (g : Ch → Nat) (c : Ch) (cs : List Ch) : tot g (c :: cs) = g c + tot g cs := by unfold tot; rw [List.map_cons, List.sum_cons]
theorem total_loop {f : Nat → Int32} {e sd : Nat} {cs : List Ch} {hd : List Hd} (h : DOk f e sd cs hd) {j : Nat} (hj : j < 10) {g : Ch → Nat} (hg : ∀ c, entC c j = nI (g c)) : ∀ (r k n a : Nat), r + k = cs.length → r < n → lp_X3_total_10 f (nI j) (nI cs.length) n (nI a) (nI k) = some (nI (a + tot g (cs.drop k))) := by
  intro r
  have hl := h.2.2.2.1
  induction r with
  | zero =>
    intro k n a hk hn
    obtain ⟨m, rfl⟩ : ∃ m, n = m + 1 := ⟨n - 1, by omega⟩
    rw [lp_X3_total_10, if_pos (nI_le (by omega) (by omega)), List.drop_eq_nil_of_le (by omega)]
    rfl
  | succ r ih =>
    intro k n a hk hn
    obtain ⟨m, rfl⟩ : ∃ m, n = m + 1 := ⟨n - 1, by omega⟩
    have hlt : k < cs.length := by omega
    rw [lp_X3_total_10, if_neg (nI_ge hlt (by omega)), at_s h hlt hj, ob1_mk, hg, nI_add, nI_1, ih (k + 1) m _ (by omega) (by omega), drop_cons ch0 hlt, tot_cons, Nat.add_assoc]
theorem total_C {f : Nat → Int32} {e sd : Nat} {cs : List Ch} {hd : List Hd} (h : DOk f e sd cs hd) {j : Nat} (hj : j < 10) {g : Ch → Nat} (hg : ∀ c, entC c j = nI (g c)) : m_X3_total f (nI j) = some (nI (tot g cs)) := by
  have hl := h.2.2.2.1
  have := total_loop h hj hg cs.length 0 NN 0 (by omega) (by unfold NN; omega)
  rw [List.drop_zero, Nat.zero_add] at this
  have this' : lp_X3_total_10 f (nI j) (nI cs.length) NN (0 : Int32) (0 : Int32) = some (nI (tot g cs)) := this
  rw [m_X3_total, chunks_s h, ob1_mk, this', ob1_mk]
theorem taken_loop {order its many place length times values : Nat → Int32} {cs : List Ch} {sl : List Nat} (h : slOk order its many place length times values cs sl) (hcl : cs.length ≤ 96) : ∀ (r k n a : Nat), r + k = cs.length → r < n → lp_X10_taken_4 (nI cs.length) length order n (nI a) (nI k) = some (nI (a + tot clen (cs.drop k))) := by
  intro r
  induction r with
  | zero =>
    intro k n a hk hn
    obtain ⟨m, rfl⟩ : ∃ m, n = m + 1 := ⟨n - 1, by omega⟩
    rw [lp_X10_taken_4, if_pos (nI_le (by omega) (by omega)), List.drop_eq_nil_of_le (by omega)]
    rfl
  | succ r ih =>
    intro k n a hk hn
    obtain ⟨m, rfl⟩ : ∃ m, n = m + 1 := ⟨n - 1, by omega⟩
    have hlt : k < cs.length := by omega
    obtain ⟨s1, s2, s3, s4, s5, s6, s7⟩ := h.2.2 k hlt
    rw [lp_X10_taken_4, if_neg (nI_ge hlt (by omega)), ckb_in _ (show k < 96 by omega) (by omega), nI_clamp (by omega), s2, ckb_in _ s1 (by omega), nI_clamp (by omega), s6, nI_add, nI_1, ih (k + 1) m _ (by omega) (by omega), drop_cons ch0 hlt, tot_cons, Nat.add_assoc]
theorem look_ok {N m : Nat} {f : Nat → Int32} {wl dn : Int32} {e sd : Nat} {cs : List Ch} {hd : List Hd} {sl : List Nat} {order its many place length times values headOf headTime headValue : Nat → Int32} (hC : Core N m f wl dn e sd cs hd sl order its many place length times values headOf headTime headValue) (p0 thr rec wd lo un : Int32) :
    ∃ r : Int32, m_X9_look rec wd wl dn f (nI hd.length) lo un p0 = some r ∧ m_X10_look thr wd wl dn rec lo un (nI cs.length) (nI hd.length) length order p0 = some (r, 0) := by
  obtain ⟨hD, hS, hP, hsl, hh⟩ := id hC
  have hcl := hD.2.2.2.1
  have h9 : m_X3_total f (9 : Int32) = some (nI (tot clen cs)) := total_C hD (j := 9) (by omega) (fun c => rfl)
  have hT := taken_loop hsl hcl cs.length 0 NN 0 (by omega) (by unfold NN; omega)
  rw [List.drop_zero, Nat.zero_add] at hT
  have hT' : lp_X10_taken_4 (nI cs.length) length order NN (0 : Int32) (0 : Int32) = some (nI (tot clen cs)) := hT
  rw [m_X9_look, m_X10_look]
  by_cases c0 : p0 = (0 : Int32)
  · rw [if_pos c0, if_pos c0, m_X2_writesDone, ob1_mk]; exact ⟨_, rfl, rfl⟩
  rw [if_neg c0, if_neg c0]
  by_cases c1 : p0 = (1 : Int32)
  · rw [if_pos c1, if_pos c1, m_X4_logged, ob1_mk]; exact ⟨_, rfl, rfl⟩
  rw [if_neg c1, if_neg c1]
  by_cases c2 : p0 = (2 : Int32)
  · rw [if_pos c2, if_pos c2, chunks_s hD, ob1_mk]; exact ⟨_, rfl, rfl⟩
  rw [if_neg c2, if_neg c2]
  by_cases c3 : p0 = (3 : Int32)
  · rw [if_pos c3, if_pos c3, m_X3_cellsOfChunks, h9, ob1_mk, ob1_mk, m_X10_taken, hT', ob1_mk, ob1_mk]; exact ⟨_, rfl, rfl⟩
  rw [if_neg c3, if_neg c3]
  by_cases c4 : p0 = (4 : Int32)
  · rw [if_pos c4, if_pos c4, m_X0_looks, ob1_mk]; exact ⟨_, rfl, rfl⟩
  rw [if_neg c4, if_neg c4]
  by_cases c5 : p0 = (5 : Int32)
  · rw [if_pos c5, if_pos c5, m_X0_unpacked, ob1_mk]; exact ⟨_, rfl, rfl⟩
  rw [if_neg c5, if_neg c5]
  by_cases c6 : p0 = (6 : Int32)
  · rw [if_pos c6, if_pos c6, m_X2_isDown]
    rcases hP.2 with rfl | ⟨rfl, hw0⟩
    · exact ⟨0, rfl, rfl⟩
    · exact ⟨1, rfl, rfl⟩
  rw [if_neg c6, if_neg c6]
  by_cases c7 : p0 = (7 : Int32)
  · rw [if_pos c7, if_pos c7, m_X2_writesLeft, ob1_mk]
    rcases hP.2 with rfl | ⟨rfl, hw0⟩
    · exact ⟨wl, rfl, rfl⟩
    · rw [hw0]; exact ⟨0, rfl, rfl⟩
  rw [if_neg c7, if_neg c7]
  by_cases c8 : p0 = (8 : Int32)
  · rw [if_pos c8, if_pos c8]; exact ⟨_, rfl, rfl⟩
  rw [if_neg c8, if_neg c8]
  exact ⟨-1, rfl, rfl⟩
theorem range_gd {n k : Nat} (h : k < n) : (List.range n).getD k 0 = k := by
  rw [List.getD_eq_getElem?_getD, List.getElem?_range h]
  rfl
theorem recM_loop {f : Nat → Int32} {e sd N m : Nat} {cs : List Ch} {hd : List Hd} (hD : DOk f e sd cs hd) (hW : ∀ c ∈ cs, chW N m c) (hm : m ≤ 64) : ∀ (r k fu a : Nat) (bits fr : Int32) (its many place length times values order : Nat → Int32), r + k = cs.length → r < fu → (∀ j, j < k → order j = nI j ∧ its j = nI (cs.getD j ch0).1 ∧ many j = nI (cs.getD j ch0).2.1.length ∧ place j = nI (cs.getD j ch0).2.2 ∧ length j = nI (clen (cs.getD j ch0)) ∧ slotAt times values j (cs.getD j ch0).2.1) →
    ∃ (bits' fr' : Int32) (its' many' place' length' times' values' order' : Nat → Int32), lp_X10_recover_76 f (nI (ix sd)) fu (nI a) (nI k) bits fr its many place length times values order = some (nI (a + tot (fun c => c.2.1.length) (cs.drop k)), bits', fr', its', many', place', length', times', values', order') ∧ (∀ j, j < cs.length → order' j = nI j ∧ its' j = nI (cs.getD j ch0).1 ∧ many' j = nI (cs.getD j ch0).2.1.length ∧ place' j = nI (cs.getD j ch0).2.2 ∧ length' j = nI (clen (cs.getD j ch0)) ∧ slotAt times' values' j (cs.getD j ch0).2.1) := by
  intro r
  obtain ⟨h0, hs, he, hl, hi, hc, hg⟩ := hD
  have hix := ix_le sd
  induction r with
  | zero =>
    intro k fu a bits fr its many place length times values order hk hf hinv
    obtain ⟨n, rfl⟩ : ∃ n, fu = n + 1 := ⟨fu - 1, by omega⟩
    rw [lp_X10_recover_76, nI_clamp (by omega), hi.1, if_pos (nI_le (by omega) (by omega)), List.drop_eq_nil_of_le (by omega)]
    exact ⟨_, _, _, _, _, _, _, _, _, rfl, fun j hj => hinv j (by omega)⟩
  | succ r ih =>
    intro k fu a bits fr its many place length times values order hk hf hinv
    obtain ⟨n, rfl⟩ : ∃ n, fu = n + 1 := ⟨fu - 1, by omega⟩
    have hlt : k < cs.length := by omega
    have hcm := gd_mem ch0 hlt
    obtain ⟨w1, w2, w3, w4, w5⟩ := hW _ hcm
    obtain ⟨d1, d2, d3⟩ := hc _ hcm
    have hcl2 : clen (cs.getD k ch0) = 2 + ((encB (cs.getD k ch0).2.1).length + 31) / 32 := rfl
    have ea : nI (ix sd) + (1 : Int32) + (10 : Int32) * nI k = nI (ix sd + 1 + 10 * k) := by rw [nI_1, show (10 : Int32) = nI 10 from rfl, pk_mul, nI_add]
    have e3 : nI (ix sd + 1 + 10 * k) + (3 : Int32) = nI (ix sd + 1 + 10 * k + 3) := nI_add _ 3
    have e8 : nI (ix sd + 1 + 10 * k) + (8 : Int32) = nI (ix sd + 1 + 10 * k + 8) := nI_add _ 8
    have e9 : nI (ix sd + 1 + 10 * k) + (9 : Int32) = nI (ix sd + 1 + 10 * k + 9) := nI_add _ 9
    have f0 := hi.2 k hlt 0 (by omega)
    rw [Nat.add_zero] at f0
    have f3 := hi.2 k hlt 3 (by omega)
    have f8 := hi.2 k hlt 8 (by omega)
    have f9 := hi.2 k hlt 9 (by omega)
    obtain ⟨b', T', V', e1, r1, r2⟩ := read_spec (f := f) (many := upd many k (nI (cs.getD k ch0).2.1.length)) (place := upd place k (nI (cs.getD k ch0).2.2)) (times := times) (values := values) (bits := bits) (from0 := fr) (c := k) (pl := (cs.getD k ch0).2.2) (ps := (cs.getD k ch0).2.1) (by omega) w2 (by omega) pk_us pk_us (by omega) d1 d2 (hold_sat d3 (by omega)) (by omega)
    rw [lp_X10_recover_76, nI_clamp (show ix sd < 2 ^ 31 by omega), hi.1, if_neg (nI_ge hlt (by omega)), ea, e3, e8, e9]
    rw [ckb_in _ (show k < 96 by omega) (by omega), ckb_in _ (show ix sd + 1 + 10 * k < 4096 by omega) (by omega), ckb_in _ (show k < 240 by omega) (by omega), ckb_in _ (show ix sd + 1 + 10 * k + 3 < 4096 by omega) (by omega), ckb_in _ (show k < 240 by omega) (by omega), ckb_in _ (show ix sd + 1 + 10 * k + 8 < 4096 by omega) (by omega), ckb_in _ (show k < 240 by omega) (by omega), ckb_in _ (show ix sd + 1 + 10 * k + 9 < 4096 by omega) (by omega), ckb_in _ (show k < 240 by omega) (by omega)]
    rw [nI_clamp (show k < 2 ^ 31 by omega), nI_clamp (show ix sd + 1 + 10 * k < 2 ^ 31 by omega), nI_clamp (show ix sd + 1 + 10 * k + 3 < 2 ^ 31 by omega), nI_clamp (show ix sd + 1 + 10 * k + 8 < 2 ^ 31 by omega), nI_clamp (show ix sd + 1 + 10 * k + 9 < 2 ^ 31 by omega), f0, f3, f8, f9]
    show ∃ _ _ _ _ _ _ _ _ _, (ob4 (m_X10_read bits fr f (upd many k (nI (cs.getD k ch0).2.1.length)) (upd place k (nI (cs.getD k ch0).2.2)) times values (nI k)) _) = _ ∧ _
    rw [e1, ob4_mk, ckb_in _ (show k < 240 by omega) (by omega), pk_us, nI_1, drop_cons ch0 hlt, tot_cons, ← Nat.add_assoc]
    show ∃ _ _ _ _ _ _ _ _ _, (lp_X10_recover_76 f (nI (ix sd)) n (nI a + nI (cs.getD k ch0).2.1.length) (nI (k + 1)) b' (nI ((cs.getD k ch0).2.2 + 2)) (upd its k (nI (cs.getD k ch0).1)) (upd many k (nI (cs.getD k ch0).2.1.length)) (upd place k (nI (cs.getD k ch0).2.2)) (upd length k (nI (clen (cs.getD k ch0)))) T' V' (upd order k (nI k))) = _ ∧ _
    rw [nI_add]
    refine ih (k + 1) n _ _ _ _ _ _ _ _ _ _ (by omega) (by omega) (fun j hj => ?_)
    by_cases hjk : j = k
    · subst hjk
      rw [pk_us, pk_us, pk_us, pk_us, pk_us]
      exact ⟨rfl, rfl, rfl, rfl, rfl, r1⟩
    · obtain ⟨i1, i2, i3, i4, i5, i6⟩ := hinv j (by omega)
      rw [pk_un hjk, pk_un hjk, pk_un hjk, pk_un hjk, pk_un hjk]
      refine ⟨i1, i2, i3, i4, i5, fun i hi2 => ?_⟩
      have hw3 := (hW _ (gd_mem ch0 (show j < cs.length by omega))).2.2.1
      have := r2 (64 * j + i) (by omega)
      rw [this.1, this.2]
      exact i6 i hi2
theorem recM_log {f : Nat → Int32} {e sd : Nat} {cs : List Ch} {hd : List Hd} (hD : DOk f e sd cs hd) : ∀ (r k fu : Nat) (headOf headTime headValue : Nat → Int32), r + k = hd.length → r < fu → (∀ j, j < k → headOf j = nI (hd.getD j hd0).1 ∧ headTime j = (hd.getD j hd0).2.1 ∧ headValue j = (hd.getD j hd0).2.2) → ∃ headOf' headTime' headValue' : Nat → Int32, lp_X10_recover_186 f fu (nI k) headOf headTime headValue = some (nI hd.length, headOf', headTime', headValue') ∧ hdsOk headOf' headTime' headValue' hd := by
  intro r
  obtain ⟨h0, hs, he, hl, hi, hc, hg⟩ := hD
  obtain ⟨g1, g2, g3⟩ := hg
  have e0 : f (Int32.toNatClampNeg (0 : Int32)) >>> ((1 : Int32) &&& 31) + (1 : Int32) = nI (e + 1) := by
    rw [show Int32.toNatClampNeg (0 : Int32) = 0 from rfl, h0, pk_shrN (by omega) _ 1 (by decide), show (2 * e + sd) / 2 ^ 1 = e by omega, nI_1]
  have ea : ∀ k : Nat, (1923 : Int32) + (4 : Int32) * nI k = nI (1923 + 4 * k) := fun k => by rw [show (1923 : Int32) = nI 1923 from rfl, show (4 : Int32) = nI 4 from rfl, pk_mul, nI_add]
  have e1 : ∀ k : Nat, nI (1923 + 4 * k) + (1 : Int32) = nI (1923 + 4 * k + 1) := fun k => nI_add _ 1
  have e2 : ∀ k : Nat, nI (1923 + 4 * k) + (2 : Int32) = nI (1923 + 4 * k + 2) := fun k => nI_add _ 2
  have e3 : ∀ k : Nat, nI (1923 + 4 * k) + (3 : Int32) = nI (1923 + 4 * k + 3) := fun k => nI_add _ 3
  induction r with
  | zero =>
    intro k fu headOf headTime headValue hk hf hinv
    obtain ⟨n, rfl⟩ : ∃ n, fu = n + 1 := ⟨fu - 1, by omega⟩
    have : k = hd.length := by omega
    subst this
    rw [lp_X10_recover_186]
    by_cases h128 : hd.length < 128
    · obtain ⟨x, x1, x2⟩ := g3 hd.length (Nat.le_refl _) h128
      rw [if_neg (show ¬ (128 : Int32) ≤ nI hd.length from nI_ge (b := 128) h128 (by omega)), e0, ea, e3, ckb_in _ (show 1923 + 4 * hd.length + 3 < 4096 by omega) (by omega), nI_clamp (show 1923 + 4 * hd.length + 3 < 2 ^ 31 by omega), x2, if_neg (fun q => by have := (nI_eq (by omega) (by omega)).mp q; omega)]
      exact ⟨_, _, _, rfl, hinv⟩
    · rw [if_pos (show (128 : Int32) ≤ nI hd.length from nI_le (a := 128) (by omega) (by omega))]
      exact ⟨_, _, _, rfl, hinv⟩
  | succ r ih =>
    intro k fu headOf headTime headValue hk hf hinv
    obtain ⟨n, rfl⟩ : ∃ n, fu = n + 1 := ⟨fu - 1, by omega⟩
    have hlt : k < hd.length := by omega
    have f0 := g2 k hlt 0 (by omega)
    rw [Nat.add_zero] at f0
    have f1 := g2 k hlt 1 (by omega)
    have f2 := g2 k hlt 2 (by omega)
    have f3 := g2 k hlt 3 (by omega)
    rw [lp_X10_recover_186, if_neg (show ¬ (128 : Int32) ≤ nI k from nI_ge (b := 128) (by omega) (by omega)), e0, ea, e1, e2, e3, ckb_in _ (show 1923 + 4 * k + 3 < 4096 by omega) (by omega), nI_clamp (show 1923 + 4 * k + 3 < 2 ^ 31 by omega), f3, if_pos (show blk (hd.getD k hd0) e 3 = nI (e + 1) from rfl), ckb_in _ (show 1923 + 4 * k < 4096 by omega) (by omega), ckb_in _ (show k < 128 by omega) (by omega), ckb_in _ (show 1923 + 4 * k + 1 < 4096 by omega) (by omega), ckb_in _ (show k < 128 by omega) (by omega), ckb_in _ (show 1923 + 4 * k + 2 < 4096 by omega) (by omega), ckb_in _ (show k < 128 by omega) (by omega), nI_1, nI_clamp (show k < 2 ^ 31 by omega), nI_clamp (show 1923 + 4 * k < 2 ^ 31 by omega), nI_clamp (show 1923 + 4 * k + 1 < 2 ^ 31 by omega), nI_clamp (show 1923 + 4 * k + 2 < 2 ^ 31 by omega), f0, f1, f2]
    refine ih (k + 1) n _ _ _ (by omega) (by omega) (fun j hj => ?_)
    by_cases hjk : j = k
    · subst hjk
      rw [pk_us, pk_us, pk_us]
      exact ⟨rfl, rfl, rfl⟩
    · rw [pk_un hjk, pk_un hjk, pk_un hjk]
      exact hinv j (by omega)
theorem recover_ok {N m : Nat} {f : Nat → Int32} {wl dn : Int32} {e sd : Nat} {cs : List Ch} {hd : List Hd} {sl : List Nat} {order its many place length times values headOf headTime headValue : Nat → Int32} (hC : Core N m f wl dn e sd cs hd sl order its many place length times values headOf headTime headValue) (hm : m ≤ 64) (rec c1 c2 c3 thr hcu cm ca bits fr : Int32) :
    ∃ (r : Int32) (bits' fr' : Int32) (order' its' many' place' length' times' values' headOf' headTime' headValue' : Nat → Int32) (sl' : List Nat), m_X9_recover rec wl dn f (nI hd.length) c1 c2 c3 = some (r, rec + 1, -1, 0, nI hd.length, 0, 0, 0) ∧
      m_X10_recover thr wl dn rec (nI cs.length) (nI e) (nI sd) (nI hd.length) hcu cm ca bits fr f its many place length times values order headOf headTime headValue = some (r, 0, -1, 0, rec + 1, nI cs.length, nI e, nI sd, nI hd.length, 0, 0, -1, bits', fr', its', many', place', length', times', values', order', headOf', headTime', headValue') ∧
      Core N m f (-1) 0 e sd cs hd sl' order' its' many' place' length' times' values' headOf' headTime' headValue' := by
  obtain ⟨hD, hS, hP, hsl, hh⟩ := id hC
  have hcl := hD.2.2.2.1
  have hix := ix_le sd
  have h3 : m_X3_total f (3 : Int32) = some (nI (tot (fun c => c.2.1.length) cs)) := total_C hD (j := 3) (by omega) (fun c => rfl)
  obtain ⟨bits', fr', its', many', place', length', times', values', order', e1, hinv⟩ := recM_loop hD hS.1 hm cs.length 0 NN 0 bits fr its many place length times values order (by omega) (by unfold NN; omega) (fun j hj => by omega)
  rw [List.drop_zero, Nat.zero_add] at e1
  have e1' : lp_X10_recover_76 f (nI (ix sd)) NN (0 : Int32) (0 : Int32) bits fr its many place length times values order = some (nI (tot (fun c => c.2.1.length) cs), bits', fr', its', many', place', length', times', values', order') := e1
  obtain ⟨headOf', headTime', headValue', e2, hh'⟩ := recM_log hD hd.length 0 NN headOf headTime headValue (by omega) (by have := hD.2.2.2.2.2.2.1; unfold NN; omega) (fun j hj => by omega)
  have e2' : lp_X10_recover_186 f NN (0 : Int32) headOf headTime headValue = some (nI hd.length, headOf', headTime', headValue') := e2
  refine ⟨nI (tot (fun c => c.2.1.length) cs + hd.length), bits', fr', order', its', many', place', length', times', values', headOf', headTime', headValue', List.range cs.length, ?_, ?_, hD, hS, ⟨Or.inl rfl, Or.inl rfl⟩, ⟨List.length_range, List.nodup_range, fun k hk => ?_⟩, hh'⟩
  · rw [m_X9_recover, m_X1_close, ob3_mk, m_X2_powerOn, ob2_mk, readAgain_C hD, ob1_mk, m_X3_points, h3, ob1_mk, ob1_mk, m_X4_logged, ob1_mk, nI_add]
  · have a0 : Int32.toNatClampNeg (0 : Int32) = 0 := rfl
    have a1 : f 0 &&& (1 : Int32) = nI sd := by
      rw [hD.1, pk_andN (k := 1) (by have := hD.2.1; have := hD.2.2.1; omega) (m := 1) (by decide), show (2 * e + sd) % 2 ^ 1 = sd by have := hD.2.1; omega]
    have a2 : f 0 >>> ((1 : Int32) &&& 31) = nI e := by
      rw [hD.1, pk_shrN (by have := hD.2.1; have := hD.2.2.1; omega) _ 1 (by decide), show (2 * e + sd) / 2 ^ 1 = e by have := hD.2.1; omega]
    have a3 : m_X10_index (nI sd) = some (nI (ix sd)) := by
      have := hD.2.1
      rcases (show sd = 0 ∨ sd = 1 by omega) with rfl | rfl <;> rfl
    rw [m_X10_recover, m_X10_dropCursor, ob3_mk, a0, a1, a2, a3, ob1_mk, show (0 : Int32) = nI 0 from rfl, ckb_in _ (show 0 < 4096 by omega) (by omega), ckb_in _ (show 0 < 4096 by omega) (by omega), show nI 0 = (0 : Int32) from rfl, ckb_in _ (show ix sd < 4096 by omega) (by omega), e1', ob10_mk, e2', ob4_mk, nI_clamp (show ix sd < 2 ^ 31 by omega), hD.2.2.2.2.1.1, nI_add]
  · rw [range_gd hk]
    obtain ⟨i1, i2, i3, i4, i5, i6⟩ := hinv k hk
    exact ⟨by omega, i1, i2, i3, i4, i5, i6⟩
