/-! the reference's memory -/
def slOk (order its many place length times values : Nat → Int32) (cs : List Ch) (sl : List Nat) : Prop := sl.length = cs.length ∧ sl.Nodup ∧ ∀ k, k < cs.length → sl.getD k 0 < 240 ∧ order k = nI (sl.getD k 0) ∧ its (sl.getD k 0) = nI (cs.getD k ch0).1 ∧ many (sl.getD k 0) = nI (cs.getD k ch0).2.1.length ∧ place (sl.getD k 0) = nI (cs.getD k ch0).2.2 ∧ length (sl.getD k 0) = nI (clen (cs.getD k ch0)) ∧ slotAt times values (sl.getD k 0) (cs.getD k ch0).2.1
def hdsOk (headOf headTime headValue : Nat → Int32) (hd : List Hd) : Prop := ∀ k, k < hd.length → headOf k = nI (hd.getD k hd0).1 ∧ headTime k = (hd.getD k hd0).2.1 ∧ headValue k = (hd.getD k hd0).2.2
theorem bi0 {b : Bool} : nI b.toNat = (0 : Int32) ↔ b = false := by cases b <;> decide
/-- all times of these are below -/
def aboveB (t : Int32) (ps : List Pt) : Bool := ps.all (fun p => decide (p.1 < t))
theorem aboveB_iff (t : Int32) (ps : List Pt) : aboveB t ps = true ↔ above t ps := by
  unfold aboveB above
  simp
theorem isRis26 {its many times order : Nat → Int32} {k c : Nat} {ps : List Pt} {s ser : Nat} {t : Int32} (hk : k < 96) (hc : c < 240) (ho : order k = nI c) (hi : its c = nI ser) (hm : many c = nI ps.length) (hp : ps.length ≤ 64) (hT : ∀ i, i < ps.length → times (64 * c + i) = (ps.getD i (0, 0)).1) (hs : s < 1000) (hser : ser < 1000) : ∀ (r i n : Nat) (b : Bool), r + i = ps.length → r < n → lp_X10_isRising_26 its many times order (nI s) t (nI k) n (nI b.toNat) (nI i) = some (nI (b && (if ser = s then aboveB t (ps.drop i) else true)).toNat) := by
  intro r
  induction r with
  | zero =>
    intro i n b hr hn
    obtain ⟨m, rfl⟩ : ∃ m, n = m + 1 := ⟨n - 1, by omega⟩
    rw [lp_X10_isRising_26, nI_clamp (show k < 2 ^ 31 by omega), ho, ckb_in _ hc (by omega), nI_clamp (show c < 2 ^ 31 by omega), hm, if_pos (nI_le (by omega) (by omega)), List.drop_eq_nil_of_le (by omega)]
    show some (nI b.toNat) = some (nI (b && if ser = s then true else true).toNat)
    simp
  | succ r ih =>
    intro i n b hr hn
    obtain ⟨m, rfl⟩ : ∃ m, n = m + 1 := ⟨n - 1, by omega⟩
    have hlt : i < ps.length := by omega
    rw [lp_X10_isRising_26, nI_clamp (show k < 2 ^ 31 by omega), ho, ckb_in _ hc (by omega), nI_clamp (show c < 2 ^ 31 by omega), hm, if_neg (nI_ge hlt (by omega)), ckb_in _ hc (by omega), hi]
    by_cases hss : ser = s
    · subst hss
      rw [if_pos rfl, if_pos rfl]
      have e1 : (64 : Int32) * nI c + nI i = nI (64 * c + i) := by rw [show (64 : Int32) = nI 64 from rfl, pk_mul, nI_add]
      have e2 : (if nI b.toNat = 0 then some (0 : Int32) else ckb ((64 : Int32) * nI c + nI i) 15360 <| if t ≤ times (Int32.toNatClampNeg ((64 : Int32) * nI c + nI i)) then some (0 : Int32) else some (1 : Int32)) = some (nI (b && decide ((ps.getD i (0, 0)).1 < t)).toNat) := by
        cases b
        · rfl
        · rw [if_neg (by decide), e1, ckb_in _ (by omega) (by omega), nI_clamp (by omega), hT i hlt]
          by_cases hle : t ≤ (ps.getD i (0, 0)).1
          · rw [if_pos hle, decide_eq_false (fun q => (lt_not_le.mp q) hle)]; rfl
          · rw [if_neg hle, decide_eq_true (lt_not_le.mpr hle)]; rfl
      rw [e2, ob1_mk, nI_1, ih (i + 1) m _ (by omega) (by omega), if_pos rfl, drop_cons (0, 0) hlt]
      unfold aboveB
      rw [List.all_cons, Bool.and_assoc]
    · rw [if_neg (fun q => hss ((nI_eq (by omega) (by omega)).mp q)), if_neg hss, Bool.and_true]
theorem isRis5 {chunks : Int32} {its many place length times values order : Nat → Int32} {cs : List Ch} {sl : List Nat} {N most : Nat} (h : slOk order its many place length times values cs sl) (hch : chunks = nI cs.length) (hl : cs.length ≤ 96) (hW : ∀ c ∈ cs, chW N most c) (hN : N < 900) (hmo : most ≤ 64) {s : Nat} {t : Int32} (hs : s < 1000) : ∀ (r k n : Nat) (b : Bool), r + k = cs.length → r < n → lp_X10_isRising_5 chunks its many times order (nI s) t n (nI b.toNat) (nI k) = some (nI (b && aboveB t (ptsOf s (cs.drop k))).toNat) := by
  intro r
  obtain ⟨h1, h2, h3⟩ := h
  induction r with
  | zero =>
    intro k n b hr hn
    obtain ⟨m, rfl⟩ : ∃ m, n = m + 1 := ⟨n - 1, by omega⟩
    rw [lp_X10_isRising_5, hch, if_pos (nI_le (by omega) (by omega)), List.drop_eq_nil_of_le (by omega)]
    simp [ptsOf, aboveB]
  | succ r ih =>
    intro k n b hr hn
    obtain ⟨m, rfl⟩ : ∃ m, n = m + 1 := ⟨n - 1, by omega⟩
    have hlt : k < cs.length := by omega
    obtain ⟨a1, a2, a3, a4, a5, a6, a7⟩ := h3 k hlt
    obtain ⟨w1, w2, w3, -, -⟩ := hW _ (gd_mem ch0 hlt)
    rw [lp_X10_isRising_5, hch, if_neg (nI_ge hlt (by omega)), ckb_in _ (show k < 96 by omega) (by omega)]
    have e := isRis26 (t := t) (show k < 96 by omega) a1 a2 a3 a4 (by omega) (fun i hi => (a7 i hi).1) hs (by omega) (cs.getD k ch0).2.1.length 0 NN b (by omega) (by unfold NN; omega)
    rw [show (0 : Int32) = nI 0 from rfl, e, ob1_mk, nI_1, ← hch, ih (k + 1) m _ (by omega) (by omega), drop_cons ch0 hlt, List.drop_zero]
    congr 3
    rw [Bool.and_assoc]
    congr 1
    unfold ptsOf
    by_cases hss : (cs.getD k ch0).1 = s
    · rw [if_pos hss, List.filter_cons_of_pos (by simpa using hss), List.flatMap_cons]
      unfold aboveB
      rw [List.all_append]
    · rw [if_neg hss, List.filter_cons_of_neg (by simpa using hss), Bool.true_and]
theorem isRis91 {logged : Int32} {headOf headTime headValue : Nat → Int32} {hd : List Hd} (h : hdsOk headOf headTime headValue hd) (hlo : logged = nI hd.length) (hl : hd.length ≤ 128) {N : Nat} (hN : N < 900) (hh : ∀ x ∈ hd, x.1 < N) {s : Nat} {t : Int32} (hs : s < 1000) : ∀ (r k n : Nat) (b : Bool), r + k = hd.length → r < n → lp_X10_isRising_91 logged headOf headTime (nI s) t n (nI b.toNat) (nI k) = some (nI (b && aboveB t (hdOf s (hd.drop k))).toNat) := by
  intro r
  induction r with
  | zero =>
    intro k n b hr hn
    obtain ⟨m, rfl⟩ : ∃ m, n = m + 1 := ⟨n - 1, by omega⟩
    rw [lp_X10_isRising_91, hlo, if_pos (nI_le (by omega) (by omega)), List.drop_eq_nil_of_le (by omega)]
    simp [hdOf, aboveB]
  | succ r ih =>
    intro k n b hr hn
    obtain ⟨m, rfl⟩ : ∃ m, n = m + 1 := ⟨n - 1, by omega⟩
    have hlt : k < hd.length := by omega
    obtain ⟨a1, a2, a3⟩ := h k hlt
    have hser := hh _ (gd_mem hd0 hlt)
    rw [lp_X10_isRising_91, hlo, if_neg (nI_ge hlt (by omega))]
    have e2 : (if nI b.toNat = 0 then some (0 : Int32) else ckb (nI k) 128 <| if headOf (Int32.toNatClampNeg (nI k)) = nI s then ckb (nI k) 128 <| if t ≤ headTime (Int32.toNatClampNeg (nI k)) then some (0 : Int32) else some (1 : Int32) else some (1 : Int32)) = some (nI (b && aboveB t (hdOf s [hd.getD k hd0])).toNat) := by
      cases b
      · rfl
      · rw [if_neg (by decide), ckb_in _ (show k < 128 by omega) (by omega), nI_clamp (by omega), a1, ckb_in _ (show k < 128 by omega) (by omega), a2]
        by_cases hss : (hd.getD k hd0).1 = s
        · rw [if_pos (by rw [hss])]
          have e3 : hdOf s [hd.getD k hd0] = [(hd.getD k hd0).2] := by unfold hdOf; rw [List.filter_cons_of_pos (by simpa using hss)]; rfl
          rw [e3]
          by_cases hle : t ≤ (hd.getD k hd0).2.1
          · rw [if_pos hle]
            simp only [aboveB, List.all_cons, List.all_nil, decide_eq_false (fun q => (lt_not_le.mp q) hle)]
            rfl
          · rw [if_neg hle]
            simp only [aboveB, List.all_cons, List.all_nil, decide_eq_true (lt_not_le.mpr hle)]
            rfl
        · rw [if_neg (fun q => hss ((nI_eq (by omega) (by omega)).mp q))]
          have e3 : hdOf s [hd.getD k hd0] = [] := by unfold hdOf; rw [List.filter_cons_of_neg (by simpa using hss)]; rfl
          rw [e3]
          rfl
    rw [e2, ob1_mk, nI_1, ← hlo, ih (k + 1) m _ (by omega) (by omega), drop_cons hd0 hlt, show hd.getD k hd0 :: hd.drop (k + 1) = [hd.getD k hd0] ++ hd.drop (k + 1) from rfl, hdOf_app]
    congr 3
    rw [Bool.and_assoc]
    unfold aboveB
    rw [List.all_append]
theorem ckz_b {γ : Type} (b : Bool) (x : Option γ) : ckz (nI b.toNat) x = x := by
  unfold ckz
  rw [if_pos (by cases b <;> decide)]
theorem isRisingM {chunks logged : Int32} {its many place length times values order headOf headTime headValue : Nat → Int32} {cs : List Ch} {hd : List Hd} {sl : List Nat} {N most : Nat} (h : slOk order its many place length times values cs sl) (hch : chunks = nI cs.length) (hl : cs.length ≤ 96) (hS : SOk N most cs hd) (hN : N < 900) (hmo : most ≤ 64) (hh : hdsOk headOf headTime headValue hd) (hlo : logged = nI hd.length) (hl2 : hd.length ≤ 128) {s : Nat} (hs : s < 1000) (t : Int32) :
    ∃ b : Bool, m_X10_isRising chunks logged its many times order headOf headTime (nI s) t = some (nI b.toNat) ∧ (b = true ↔ above t (ptsOf s cs ++ hdOf s hd)) := by
  refine ⟨aboveB t (ptsOf s cs ++ hdOf s hd), ?_, aboveB_iff _ _⟩
  have e1 := isRis5 h hch hl hS.1 hN hmo (t := t) hs cs.length 0 NN true (by omega) (by unfold NN; omega)
  have e2 := isRis91 hh hlo hl2 hN hS.2.2.2.1 (t := t) hs hd.length 0 NN (aboveB t (ptsOf s cs)) (by omega) (by unfold NN; omega)
  rw [List.drop_zero] at e1 e2
  rw [Bool.true_and] at e1
  have e1' : lp_X10_isRising_5 chunks its many times order (nI s) t NN (1 : Int32) (0 : Int32) = some (nI (aboveB t (ptsOf s cs)).toNat) := e1
  have e2' : lp_X10_isRising_91 logged headOf headTime (nI s) t NN (nI (aboveB t (ptsOf s cs)).toNat) (0 : Int32) = some (nI (aboveB t (ptsOf s cs) && aboveB t (hdOf s hd)).toNat) := e2
  rw [m_X10_isRising, e1', ob1_mk, e2', ob1_mk, ckz_b]
  unfold aboveB
  rw [List.all_append]
