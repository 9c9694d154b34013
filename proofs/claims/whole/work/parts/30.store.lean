/-! the store, told apart from both programs: chunks, heads, what the disk holds -/
abbrev Ch : Type := Nat × List Pt × Nat
abbrev Hd : Type := Nat × Pt
def clen (c : Ch) : Nat := 2 + ((encB c.2.1).length + 31) / 32
def ix (sd : Nat) : Nat := if sd = 0 then 1 else 962
def pfst (ps : List Pt) : Int32 := (ps.getD 0 (0, 0)).1
def plst (ps : List Pt) : Int32 := (ps.getD (ps.length - 1) (0, 0)).1
def minF (a : Int32) (ps : List Pt) : Int32 := ps.foldl (fun a p => if p.2 < a then p.2 else a) a
def maxF (a : Int32) (ps : List Pt) : Int32 := ps.foldl (fun a p => if a < p.2 then p.2 else a) a
def sumF (a : Int64) (ps : List Pt) : Int64 := ps.foldl (fun a p => a + p.2.toInt64) a
def pmin (ps : List Pt) : Int32 := minF (ps.getD 0 (0, 0)).2 (ps.drop 1)
def pmax (ps : List Pt) : Int32 := maxF (ps.getD 0 (0, 0)).2 (ps.drop 1)
def psum (ps : List Pt) : Int64 := sumF 0 ps
/-- an entry's cells -/
def entC (c : Ch) (j : Nat) : Int32 := match j with
  | 0 => nI c.1
  | 1 => pfst c.2.1
  | 2 => plst c.2.1
  | 3 => nI c.2.1.length
  | 4 => pmin c.2.1
  | 5 => pmax c.2.1
  | 6 => Int64.toInt32 (psum c.2.1 >>> (Int32.toInt64 (32 : Int32) &&& 63))
  | 7 => Int64.toInt32 (psum c.2.1)
  | 8 => nI c.2.2
  | _ => nI (clen c)
def ch0 : Ch := (0, [], 0)
def hd0 : Hd := (0, 0, 0)
/-- an index on the disk -/
def ixOk (f : Nat → Int32) (b : Nat) (cs : List Ch) : Prop := f b = nI cs.length ∧ ∀ k, k < cs.length → ∀ j, j < 10 → f (b + 1 + 10 * k + j) = entC (cs.getD k ch0) j
/-- a chunk's cells on the disk -/
def chOk (f : Nat → Int32) (c : Ch) : Prop := f c.2.2 = (c.2.1.getD 0 (0, 0)).1 ∧ f (c.2.2 + 1) = (c.2.1.getD 0 (0, 0)).2 ∧ hold f (c.2.2 + 2) (encB c.2.1)
def blk (h : Hd) (e j : Nat) : Int32 := match j with
  | 0 => nI h.1
  | 1 => h.2.1
  | 2 => h.2.2
  | _ => nI (e + 1)
/-- the log on the disk -/
def lgOk (f : Nat → Int32) (e : Nat) (hd : List Hd) : Prop := hd.length ≤ 128 ∧ (∀ k, k < hd.length → ∀ j, j < 4 → f (1923 + 4 * k + j) = blk (hd.getD k hd0) e j) ∧ ∀ k, hd.length ≤ k → k < 128 → ∃ x, x ≤ e ∧ f (1923 + 4 * k + 3) = nI x
def DOk (f : Nat → Int32) (e sd : Nat) (cs : List Ch) (hd : List Hd) : Prop := f 0 = nI (2 * e + sd) ∧ sd ≤ 1 ∧ e ≤ 100000 ∧ cs.length ≤ 96 ∧ ixOk f (ix sd) cs ∧ (∀ c ∈ cs, chOk f c) ∧ lgOk f e hd
/-- a chunk by itself -/
def chW (N most : Nat) (c : Ch) : Prop := c.1 < N ∧ 1 ≤ c.2.1.length ∧ c.2.1.length ≤ most ∧ 2435 ≤ c.2.2 ∧ c.2.2 + clen c ≤ 4096
def apart (a b : Ch) : Prop := a.2.2 + clen a ≤ b.2.2 ∨ b.2.2 + clen b ≤ a.2.2
def ptsOf (s : Nat) (cs : List Ch) : List Pt := (cs.filter (fun c => c.1 == s)).flatMap (fun c => c.2.1)
def hdOf (s : Nat) (hd : List Hd) : List Pt := (hd.filter (fun h => h.1 == s)).map (fun h => h.2)
def rising (ps : List Pt) : Prop := ps.Pairwise (fun a b => a.1 < b.1)
def SOk (N most : Nat) (cs : List Ch) (hd : List Hd) : Prop := (∀ c ∈ cs, chW N most c) ∧ cs.Pairwise apart ∧ cs.Pairwise (fun a b => a.1 ≤ b.1) ∧ (∀ h ∈ hd, h.1 < N) ∧ ∀ s, rising (ptsOf s cs ++ hdOf s hd)
theorem gd_mem {α : Type} {l : List α} {k : Nat} (d : α) (h : k < l.length) : l.getD k d ∈ l := by
  rw [List.getD_eq_getElem?_getD, List.getElem?_eq_getElem h]
  exact List.getElem_mem h
/-! the class's disk, index and log over such a disk -/
theorem side_s {f : Nat → Int32} {e sd : Nat} (h0 : f 0 = nI (2 * e + sd)) (hs : sd ≤ 1) (he : e ≤ 100000) : m_X2_side f = some (nI sd) := by
  rw [m_X2_side, show (0 : Int32) = nI 0 from rfl, ckb_in _ (by omega) (by omega), nI_clamp (by omega), h0, pk_andN (k := 1) (by omega) (m := 1) (by decide), show (2 * e + sd) % 2 ^ 1 = sd by omega]
theorem epoch_s {f : Nat → Int32} {e sd : Nat} (h0 : f 0 = nI (2 * e + sd)) (hs : sd ≤ 1) (he : e ≤ 100000) : m_X2_epoch f = some (nI e) := by
  rw [m_X2_epoch, show (0 : Int32) = nI 0 from rfl, ckb_in _ (by omega) (by omega), nI_clamp (by omega), h0, pk_shrN (by omega) _ 1 (by decide), show (2 * e + sd) / 2 ^ 1 = e by omega]
theorem ixo_s {sd : Nat} (hs : sd ≤ 1) : m_X9_indexOfSide (nI sd) = some (nI (ix sd)) := by
  rw [m_X9_indexOfSide]
  unfold ix
  by_cases h : sd = 0
  · subst h; rfl
  · have : sd = 1 := by omega
    subst this; rfl
theorem ix_le (sd : Nat) : 1 ≤ ix sd ∧ ix sd ≤ 962 := by unfold ix; split <;> omega
theorem chunks_s {f : Nat → Int32} {e sd : Nat} {cs : List Ch} {hd : List Hd} (h : DOk f e sd cs hd) : m_X3_chunks f = some (nI cs.length) := by
  obtain ⟨h0, hs, he, hl, hi, -, -⟩ := h
  have := ix_le sd
  rw [m_X3_chunks, side_s h0 hs he, ob1_mk, ixo_s hs, ob1_mk, rd_nI f (by omega), ob1_mk]
  unfold rdc
  rw [if_pos (by omega), hi.1]
theorem at_s {f : Nat → Int32} {e sd : Nat} {cs : List Ch} {hd : List Hd} (h : DOk f e sd cs hd) {k j : Nat} (hk : k < cs.length) (hj : j < 10) : m_X3_at f (nI k) (nI j) = some (entC (cs.getD k ch0) j) := by
  obtain ⟨h0, hs, he, hl, hi, -, -⟩ := h
  have := ix_le sd
  rw [m_X3_at, side_s h0 hs he, ob1_mk, ixo_s hs, ob1_mk, nI_1, show (10 : Int32) = nI 10 from rfl, pk_mul, nI_add, nI_add, rd_nI f (by omega), ob1_mk]
  unfold rdc
  rw [if_pos (by omega), show ix sd + 1 + k * 10 + j = ix sd + 1 + 10 * k + j by omega, hi.2 k hk j hj]
theorem logat_s {f : Nat → Int32} {e : Nat} {hd : List Hd} (h : lgOk f e hd) {k j : Nat} (hk : k < hd.length) (hj : j < 4) : m_X4_at f (nI k) (nI j) = some (blk (hd.getD k hd0) e j) := by
  obtain ⟨h1, h2, -⟩ := h
  rw [m_X4_at, show (1923 : Int32) = nI 1923 from rfl, show (4 : Int32) = nI 4 from rfl, pk_mul, nI_add, nI_add, rd_nI f (by omega), ob1_mk]
  unfold rdc
  rw [if_pos (by omega), show 1923 + k * 4 + j = 1923 + 4 * k + j by omega, h2 k hk j hj]
/-- how many chunks are of earlier series -/
def fo (s : Nat) (cs : List Ch) : Nat := (cs.takeWhile (fun c => decide (c.1 < s))).length
theorem fo_le (s : Nat) (cs : List Ch) : fo s cs ≤ cs.length := by
  unfold fo
  exact (List.takeWhile_sublist _).length_le
theorem drop_cons {α : Type} {l : List α} {k : Nat} (d : α) (h : k < l.length) : l.drop k = l.getD k d :: l.drop (k + 1) := by
  rw [List.getD_eq_getElem?_getD, List.getElem?_eq_getElem h]
  exact List.drop_eq_getElem_cons h
theorem firstOf_loop {f : Nat → Int32} {e sd : Nat} {cs : List Ch} {hd : List Hd} (h : DOk f e sd cs hd) {N : Nat} (hN : N < 1000) (hc : ∀ c ∈ cs, c.1 < N) {s : Nat} (hs : s < 1000) : ∀ (r k n : Nat), r + k = cs.length → r < n → lp_X3_firstOf_7 f (nI s) (nI cs.length) n (nI k) = some (nI (k + fo s (cs.drop k))) := by
  intro r
  have hl := h.2.2.2.1
  induction r with
  | zero =>
    intro k n hk hn
    obtain ⟨m, rfl⟩ : ∃ m, n = m + 1 := ⟨n - 1, by omega⟩
    rw [lp_X3_firstOf_7, if_pos (nI_le (by omega) (by omega)), List.drop_eq_nil_of_le (by omega)]
    show some (nI cs.length) = some (nI (k + 0))
    rw [show k + 0 = cs.length by omega]
  | succ r ih =>
    intro k n hk hn
    obtain ⟨m, rfl⟩ : ∃ m, n = m + 1 := ⟨n - 1, by omega⟩
    have hlt : k < cs.length := by omega
    have hser := hc _ (gd_mem ch0 hlt)
    rw [lp_X3_firstOf_7, if_neg (nI_ge hlt (by omega)), show (0 : Int32) = nI 0 from rfl, at_s h hlt (by omega), ob1_mk]
    show (if nI (cs.getD k ch0).1 < nI s then _ else _) = _
    rw [drop_cons ch0 hlt]
    unfold fo
    by_cases hc2 : (cs.getD k ch0).1 < s
    · rw [if_pos (nI_lt hc2 (by omega)), nI_1, ih (k + 1) m (by omega) (by omega), List.takeWhile_cons_of_pos (by simpa using hc2), List.length_cons]
      unfold fo
      congr 2
      omega
    · rw [if_neg (nI_nlt (by omega) (by omega)), List.takeWhile_cons_of_neg (by simpa using hc2)]
      rfl
theorem firstOf_s {f : Nat → Int32} {e sd : Nat} {cs : List Ch} {hd : List Hd} (h : DOk f e sd cs hd) {N : Nat} (hN : N < 1000) (hc : ∀ c ∈ cs, c.1 < N) {s : Nat} (hs : s < 1000) : m_X3_firstOf f (nI s) = some (nI (fo s cs)) := by
  have hl := h.2.2.2.1
  rw [m_X3_firstOf, chunks_s h, ob1_mk]
  have := firstOf_loop h hN hc hs cs.length 0 NN (by omega) (by unfold NN; omega)
  rw [Nat.zero_add, List.drop_zero] at this
  exact this
theorem endOf_s {f : Nat → Int32} {e sd : Nat} {cs : List Ch} {hd : List Hd} (h : DOk f e sd cs hd) {N : Nat} (hN : N < 1000) (hc : ∀ c ∈ cs, c.1 < N) {s : Nat} (hs : s < 900) : m_X3_endOf f (nI s) = some (nI (fo (s + 1) cs)) := by
  rw [m_X3_endOf, nI_1, firstOf_s h hN hc (by omega), ob1_mk]
