/-! the reference: what it tells of a slot, and its writes of an index -/
def slP (many times values : Nat → Int32) (x : Nat) (ps : List Pt) : Prop := x < 240 ∧ many x = nI ps.length ∧ slotAt times values x ps ∧ 1 ≤ ps.length ∧ ps.length ≤ 64
theorem e64 (x i : Nat) : (64 : Int32) * nI x + nI i = nI (64 * x + i) := by rw [show (64 : Int32) = nI 64 from rfl, pk_mul, nI_add]
theorem e640 (x : Nat) : (64 : Int32) * nI x = nI (64 * x) := by rw [show (64 : Int32) = nI 64 from rfl, pk_mul]
theorem sumOf_loop {many times values : Nat → Int32} {x : Nat} {ps : List Pt} (h : slP many times values x ps) : ∀ (r i n : Nat) (a : Int64), r + i = ps.length → r < n → lp_X10_sumOf_5 many values (nI x) n a (nI i) = some (sumF a (ps.drop i)) := by
  obtain ⟨h1, h2, h3, h4, h5⟩ := h
  intro r
  induction r with
  | zero =>
    intro i n a hi hn
    obtain ⟨m, rfl⟩ : ∃ m, n = m + 1 := ⟨n - 1, by omega⟩
    rw [lp_X10_sumOf_5, ckb_in _ h1 (by omega), nI_clamp (by omega), h2, if_pos (nI_le (by omega) (by omega)), List.drop_eq_nil_of_le (by omega)]
    rfl
  | succ r ih =>
    intro i n a hi hn
    obtain ⟨m, rfl⟩ : ∃ m, n = m + 1 := ⟨n - 1, by omega⟩
    have hlt : i < ps.length := by omega
    rw [lp_X10_sumOf_5, ckb_in _ h1 (by omega), nI_clamp (show x < 2 ^ 31 by omega), h2, if_neg (nI_ge hlt (by omega)), e64, ckb_in _ (show 64 * x + i < 15360 by omega) (by omega), nI_clamp (by omega), (h3 i hlt).2, nI_1, ih (i + 1) m _ (by omega) (by omega), drop_cons (0, 0) hlt]
    rfl
theorem sumOf_M {many times values : Nat → Int32} {x : Nat} {ps : List Pt} (h : slP many times values x ps) : m_X10_sumOf many values (nI x) = some (psum ps) := by
  have := sumOf_loop h ps.length 0 NN 0 (by omega) (by have := h.2.2.2.2; unfold NN; omega)
  rw [List.drop_zero] at this
  have this' : lp_X10_sumOf_5 many values (nI x) NN (0 : Int64) (0 : Int32) = some (sumF 0 ps) := this
  rw [m_X10_sumOf, this', ob1_mk]
  rfl
theorem firstTime_M {many times values : Nat → Int32} {x : Nat} {ps : List Pt} (h : slP many times values x ps) : m_X10_firstTime times (nI x) = some (pfst ps) := by
  obtain ⟨h1, h2, h3, h4, h5⟩ := h
  rw [m_X10_firstTime, e640, ckb_in _ (show 64 * x < 15360 by omega) (by omega), nI_clamp (by omega)]
  have := (h3 0 (by omega)).1
  rw [Nat.add_zero] at this
  rw [this]
  rfl
theorem lastTime_M {many times values : Nat → Int32} {x : Nat} {ps : List Pt} (h : slP many times values x ps) : m_X10_lastTime many times (nI x) = some (plst ps) := by
  obtain ⟨h1, h2, h3, h4, h5⟩ := h
  have e : nI (64 * x + ps.length) - (1 : Int32) = nI (64 * x + (ps.length - 1)) := by
    rw [show (1 : Int32) = nI 1 from rfl, pk_sub (by omega)]; congr 1; omega
  rw [m_X10_lastTime, ckb_in _ h1 (by omega), nI_clamp (show x < 2 ^ 31 by omega), h2, e64, e, ckb_in _ (show 64 * x + (ps.length - 1) < 15360 by omega) (by omega), nI_clamp (by omega), (h3 (ps.length - 1) (by omega)).1]
  rfl
theorem least_loop {many times values : Nat → Int32} {x : Nat} {ps : List Pt} (h : slP many times values x ps) : ∀ (r i n : Nat) (a : Int32), r + i = ps.length → r < n → lp_X10_leastOf_12 many values (nI x) n a (nI i) = some (minF a (ps.drop i)) := by
  obtain ⟨h1, h2, h3, h4, h5⟩ := h
  intro r
  induction r with
  | zero =>
    intro i n a hi hn
    obtain ⟨m, rfl⟩ : ∃ m, n = m + 1 := ⟨n - 1, by omega⟩
    rw [lp_X10_leastOf_12, ckb_in _ h1 (by omega), nI_clamp (by omega), h2, if_pos (nI_le (by omega) (by omega)), List.drop_eq_nil_of_le (by omega)]
    rfl
  | succ r ih =>
    intro i n a hi hn
    obtain ⟨m, rfl⟩ : ∃ m, n = m + 1 := ⟨n - 1, by omega⟩
    have hlt : i < ps.length := by omega
    rw [lp_X10_leastOf_12, ckb_in _ h1 (by omega), nI_clamp (show x < 2 ^ 31 by omega), h2, if_neg (nI_ge hlt (by omega)), e64, ckb_in _ (show 64 * x + i < 15360 by omega) (by omega), nI_clamp (show 64 * x + i < 2 ^ 31 by omega), (h3 i hlt).2, ckb_in _ (show 64 * x + i < 15360 by omega) (by omega), nI_1, drop_cons (0, 0) hlt]
    by_cases hc : a ≤ (ps.getD i (0, 0)).2
    · rw [if_pos hc, ob1_mk, ih (i + 1) m _ (by omega) (by omega)]
      show _ = some (minF (if (ps.getD i (0, 0)).2 < a then (ps.getD i (0, 0)).2 else a) (ps.drop (i + 1)))
      rw [if_neg (fun q => lt_not_le.mp q hc)]
    · rw [if_neg hc, ob1_mk, ih (i + 1) m _ (by omega) (by omega)]
      show _ = some (minF (if (ps.getD i (0, 0)).2 < a then (ps.getD i (0, 0)).2 else a) (ps.drop (i + 1)))
      rw [if_pos (lt_not_le.mpr hc)]
theorem least_M {many times values : Nat → Int32} {x : Nat} {ps : List Pt} (h : slP many times values x ps) : m_X10_leastOf many values (nI x) = some (pmin ps) := by
  have hh := least_loop h (ps.length - 1) 1 NN (ps.getD 0 (0, 0)).2 (by have := h.2.2.2.1; omega) (by have := h.2.2.2.2; unfold NN; omega)
  obtain ⟨h1, h2, h3, h4, h5⟩ := h
  have h6 := (h3 0 (by omega)).2
  rw [Nat.add_zero] at h6
  have hh' : lp_X10_leastOf_12 many values (nI x) NN (ps.getD 0 (0, 0)).2 (1 : Int32) = some (minF (ps.getD 0 (0, 0)).2 (ps.drop 1)) := hh
  rw [m_X10_leastOf, e640, ckb_in _ (show 64 * x < 15360 by omega) (by omega), nI_clamp (by omega), h6, hh', ob1_mk]
  rfl
theorem great_loop {many times values : Nat → Int32} {x : Nat} {ps : List Pt} (h : slP many times values x ps) : ∀ (r i n : Nat) (a : Int32), r + i = ps.length → r < n → lp_X10_greatestOf_12 many values (nI x) n a (nI i) = some (maxF a (ps.drop i)) := by
  obtain ⟨h1, h2, h3, h4, h5⟩ := h
  intro r
  induction r with
  | zero =>
    intro i n a hi hn
    obtain ⟨m, rfl⟩ : ∃ m, n = m + 1 := ⟨n - 1, by omega⟩
    rw [lp_X10_greatestOf_12, ckb_in _ h1 (by omega), nI_clamp (by omega), h2, if_pos (nI_le (by omega) (by omega)), List.drop_eq_nil_of_le (by omega)]
    rfl
  | succ r ih =>
    intro i n a hi hn
    obtain ⟨m, rfl⟩ : ∃ m, n = m + 1 := ⟨n - 1, by omega⟩
    have hlt : i < ps.length := by omega
    rw [lp_X10_greatestOf_12, ckb_in _ h1 (by omega), nI_clamp (show x < 2 ^ 31 by omega), h2, if_neg (nI_ge hlt (by omega)), e64, ckb_in _ (show 64 * x + i < 15360 by omega) (by omega), nI_clamp (show 64 * x + i < 2 ^ 31 by omega), (h3 i hlt).2, ckb_in _ (show 64 * x + i < 15360 by omega) (by omega), nI_1, drop_cons (0, 0) hlt]
    by_cases hc : (ps.getD i (0, 0)).2 ≤ a
    · rw [if_pos hc, ob1_mk, ih (i + 1) m _ (by omega) (by omega)]
      show _ = some (maxF (if a < (ps.getD i (0, 0)).2 then (ps.getD i (0, 0)).2 else a) (ps.drop (i + 1)))
      rw [if_neg (fun q => lt_not_le.mp q hc)]
    · rw [if_neg hc, ob1_mk, ih (i + 1) m _ (by omega) (by omega)]
      show _ = some (maxF (if a < (ps.getD i (0, 0)).2 then (ps.getD i (0, 0)).2 else a) (ps.drop (i + 1)))
      rw [if_pos (lt_not_le.mpr hc)]
theorem great_M {many times values : Nat → Int32} {x : Nat} {ps : List Pt} (h : slP many times values x ps) : m_X10_greatestOf many values (nI x) = some (pmax ps) := by
  have hh := great_loop h (ps.length - 1) 1 NN (ps.getD 0 (0, 0)).2 (by have := h.2.2.2.1; omega) (by have := h.2.2.2.2; unfold NN; omega)
  obtain ⟨h1, h2, h3, h4, h5⟩ := h
  have h6 := (h3 0 (by omega)).2
  rw [Nat.add_zero] at h6
  have hh' : lp_X10_greatestOf_12 many values (nI x) NN (ps.getD 0 (0, 0)).2 (1 : Int32) = some (maxF (ps.getD 0 (0, 0)).2 (ps.drop 1)) := hh
  rw [m_X10_greatestOf, e640, ckb_in _ (show 64 * x < 15360 by omega) (by omega), nI_clamp (by omega), h6, hh', ob1_mk]
  rfl
/-! one write behind the other -/
abbrev K5 : Type := Int32 → Int32 → Int32 → (Nat → Int32) → Option (Int32 × Int32 × Int32 × Int32 × (Nat → Int32))
theorem ch_step {a : Nat} {x : Int32} {l : List (Nat × Int32)} {K : K5} (ha : a < 4096) (hK : ∀ wd wl dn f, K wd wl dn f = o5 (wrs l wd wl dn f)) (wd wl dn : Int32) (f : Nat → Int32) :
    (ob5 (m_X10_write wd wl dn f (nI a) x) fun r wd' wl' dn' f' => if r = 0 then some ((0 : Int32), wd', wl', dn', f') else K wd' wl' dn' f') = o5 (wrs ((a, x) :: l) wd wl dn f) := by
  rw [wrM ha, wrs_cons]
  by_cases h : wl = 0
  · rw [if_pos h, if_pos h, ob5_mk, if_pos rfl]; rfl
  · rw [if_neg h, if_neg h, ob5_mk, if_neg (by decide), hK]
theorem ob5_assoc {α0 α1 α2 α3 α4 β0 β1 β2 β3 β4 γ : Type} (x : Option (α0 × α1 × α2 × α3 × α4)) (k : α0 → α1 → α2 → α3 → α4 → Option (β0 × β1 × β2 × β3 × β4)) (g : β0 → β1 → β2 → β3 → β4 → Option γ) : ob5 (ob5 x k) g = ob5 x (fun a b c d e => ob5 (k a b c d e) g) := by
  rcases x with _ | ⟨a, b, c, d, e⟩
  · rfl
  · rfl
theorem ob5_congr {α0 α1 α2 α3 α4 γ : Type} {x y : Option (α0 × α1 × α2 × α3 × α4)} {k : α0 → α1 → α2 → α3 → α4 → Option γ} (h : x = y) : ob5 x k = ob5 y k := by rw [h]
theorem img_at (cs : List Ch) (k j : Nat) (hj : j < 10) : img cs (1 + 10 * k + j) = entC (cs.getD k ch0) j := by
  unfold img
  rw [if_neg (by omega), show (1 + 10 * k + j - 1) / 10 = k by omega, show (1 + 10 * k + j - 1) % 10 = j by omega]
theorem seq10 (b k : Nat) (cs : List Ch) : seqW b (img cs) (1 + 10 * k) 10 = [(b + 1 + 10 * k, entC (cs.getD k ch0) 0), (b + 1 + 10 * k + 1, entC (cs.getD k ch0) 1), (b + 1 + 10 * k + 2, entC (cs.getD k ch0) 2), (b + 1 + 10 * k + 3, entC (cs.getD k ch0) 3), (b + 1 + 10 * k + 4, entC (cs.getD k ch0) 4), (b + 1 + 10 * k + 5, entC (cs.getD k ch0) 5), (b + 1 + 10 * k + 6, entC (cs.getD k ch0) 6), (b + 1 + 10 * k + 7, entC (cs.getD k ch0) 7), (b + 1 + 10 * k + 8, entC (cs.getD k ch0) 8), (b + 1 + 10 * k + 9, entC (cs.getD k ch0) 9)] := by
  have e : ∀ j, j < 10 → (b + (1 + 10 * k + j), img cs (1 + 10 * k + j)) = (b + 1 + 10 * k + j, entC (cs.getD k ch0) j) := fun j hj => by rw [img_at cs k j hj, show b + (1 + 10 * k + j) = b + 1 + 10 * k + j by omega]
  have e0 := e 0 (by omega)
  rw [Nat.add_zero, Nat.add_zero] at e0
  simp only [seqW]
  rw [e0, e 1 (by omega), show 1 + 10 * k + 1 + 1 = 1 + 10 * k + 2 from rfl, e 2 (by omega), show 1 + 10 * k + 2 + 1 = 1 + 10 * k + 3 from rfl, e 3 (by omega), show 1 + 10 * k + 3 + 1 = 1 + 10 * k + 4 from rfl, e 4 (by omega), show 1 + 10 * k + 4 + 1 = 1 + 10 * k + 5 from rfl, e 5 (by omega), show 1 + 10 * k + 5 + 1 = 1 + 10 * k + 6 from rfl, e 6 (by omega), show 1 + 10 * k + 6 + 1 = 1 + 10 * k + 7 from rfl, e 7 (by omega), show 1 + 10 * k + 7 + 1 = 1 + 10 * k + 8 from rfl, e 8 (by omega), show 1 + 10 * k + 8 + 1 = 1 + 10 * k + 9 from rfl, e 9 (by omega)]
/-- what the reference's arrays tell of the chunks that come next -/
def nxA (its many place length times values next : Nat → Int32) (cs : List Ch) (nx : List Nat) : Prop := nx.length = cs.length ∧ ∀ k, k < cs.length → next k = nI (nx.getD k 0) ∧ slP many times values (nx.getD k 0) (cs.getD k ch0).2.1 ∧ its (nx.getD k 0) = nI (cs.getD k ch0).1 ∧ place (nx.getD k 0) = nI (cs.getD k ch0).2.2 ∧ length (nx.getD k 0) = nI (clen (cs.getD k ch0))
theorem widxM_loop {its many place length times values next : Nat → Int32} {cs : List Ch} {nx : List Nat} (h : nxA its many place length times values next cs nx) (hl : cs.length ≤ 96) {b : Nat} (hb : b + 961 ≤ 4096) : ∀ (r k fu : Nat) (wd wl dn : Int32) (f : Nat → Int32), r + k = cs.length → r + 1 < fu → lp_X10_writeIndex_12 (nI cs.length) its many place length times values next (nI b) fu 1 (nI k) wd wl dn f = o5 (wrs (seqW b (img cs) (1 + 10 * k) (10 * r)) wd wl dn f) := by
  intro r
  induction r with
  | zero =>
    intro k fu wd wl dn f hk hf
    obtain ⟨n, rfl⟩ : ∃ n, fu = n + 1 := ⟨fu - 1, by omega⟩
    rw [lp_X10_writeIndex_12, if_pos (nI_le (by omega) (by omega))]
    rfl
  | succ r ih =>
    intro k fu wd wl dn f hk hf
    obtain ⟨n, rfl⟩ : ∃ n, fu = n + 1 := ⟨fu - 1, by omega⟩
    have hlt : k < cs.length := by omega
    obtain ⟨h1, hP, h2, h3, h4⟩ := h.2 k hlt
    have hx := hP.1
    have hmany := hP.2.1
    have ea : nI b + (1 : Int32) + (10 : Int32) * nI k = nI (b + 1 + 10 * k) := by rw [nI_1, show (10 : Int32) = nI 10 from rfl, pk_mul, nI_add]
    have ej : ∀ j : Nat, nI (b + 1 + 10 * k) + nI j = nI (b + 1 + 10 * k + j) := fun j => nI_add _ j
    rw [lp_X10_writeIndex_12, if_neg (nI_ge hlt (by omega)), if_neg (by decide), ckb_in _ (show k < 240 by omega) (by omega), nI_clamp (show k < 2 ^ 31 by omega), h1, sumOf_M hP, ob1_mk, ckb_in _ hx (by omega), ea, nI_clamp (show nx.getD k 0 < 2 ^ 31 by omega), h2, ← ob5_assoc]
    refine (ob5_congr (y := o5 (wrs (seqW b (img cs) (1 + 10 * k) 10) wd wl dn f)) ?_).trans ?_
    · rw [seq10]
      refine ch_step (by omega) (fun wd wl dn f => ?_) wd wl dn f
      rw [firstTime_M hP, ob1_mk, show (1 : Int32) = nI 1 from rfl, ej]
      refine ch_step (by omega) (fun wd wl dn f => ?_) wd wl dn f
      rw [lastTime_M hP, ob1_mk, show (2 : Int32) = nI 2 from rfl, ej]
      refine ch_step (by omega) (fun wd wl dn f => ?_) wd wl dn f
      rw [ckb_in _ hx (by omega), hmany, show (3 : Int32) = nI 3 from rfl, ej]
      refine ch_step (by omega) (fun wd wl dn f => ?_) wd wl dn f
      rw [least_M hP, ob1_mk, show (4 : Int32) = nI 4 from rfl, ej]
      refine ch_step (by omega) (fun wd wl dn f => ?_) wd wl dn f
      rw [great_M hP, ob1_mk, show (5 : Int32) = nI 5 from rfl, ej]
      refine ch_step (by omega) (fun wd wl dn f => ?_) wd wl dn f
      rw [show (6 : Int32) = nI 6 from rfl, ej]
      refine ch_step (by omega) (fun wd wl dn f => ?_) wd wl dn f
      rw [show (7 : Int32) = nI 7 from rfl, ej]
      refine ch_step (by omega) (fun wd wl dn f => ?_) wd wl dn f
      rw [ckb_in _ hx (by omega), h3, show (8 : Int32) = nI 8 from rfl, ej]
      refine ch_step (by omega) (fun wd wl dn f => ?_) wd wl dn f
      rw [ckb_in _ hx (by omega), h4, show (9 : Int32) = nI 9 from rfl, ej]
      refine ch_step (by omega) (fun wd wl dn f => ?_) wd wl dn f
      rfl
    unfold o5
    rw [ob5_mk, nI_1, show 10 * (r + 1) = 10 + 10 * r by omega, seqW_app, wrs_app]
    cases hb2 : (wrs (seqW b (img cs) (1 + 10 * k) 10) wd wl dn f).1 with
    | true =>
      rw [if_pos rfl, show nI true.toNat = (1 : Int32) from rfl, ih (k + 1) n _ _ _ _ (by omega) (by omega), show 1 + 10 * k + 10 = 1 + 10 * (k + 1) by omega]
      rfl
    | false =>
      obtain ⟨n2, rfl⟩ : ∃ n2, n = n2 + 1 := ⟨n - 1, by omega⟩
      rw [if_neg (by simp), lp_X10_writeIndex_12, hb2]
      by_cases hz : cs.length ≤ k + 1
      · rw [if_pos (nI_le hz (by omega))]
      · rw [if_neg (nI_ge (by omega) (by omega)), if_pos (by decide)]
theorem widxM {its many place length times values next : Nat → Int32} {cs : List Ch} {nx : List Nat} (h : nxA its many place length times values next cs nx) (hl : cs.length ≤ 96) {b : Nat} (hb : b + 961 ≤ 4096) (wd wl dn : Int32) (f : Nat → Int32) : m_X10_writeIndex wd wl dn (nI cs.length) f its many place length times values next (nI b) = o5 (wrs (seqW b (img cs) 0 (1 + 10 * cs.length)) wd wl dn f) := by
  have e0 : seqW b (img cs) 0 (1 + 10 * cs.length) = (b, nI cs.length) :: seqW b (img cs) (1 + 10 * 0) (10 * cs.length) := by
    rw [Nat.add_comm]
    rfl
  rw [m_X10_writeIndex, wrM (by omega), e0, wrs_cons]
  by_cases hw : wl = 0
  · rw [if_pos hw, if_pos hw, ob5_mk]
    have e1 : lp_X10_writeIndex_12 (nI cs.length) its many place length times values next (nI b) NN 0 (0 : Int32) wd wl 1 f = some (0, wd, wl, 1, f) := by
      rw [show NN = 99999 + 1 from rfl, lp_X10_writeIndex_12]
      by_cases hz : cs.length = 0
      · rw [if_pos (by rw [hz]; decide)]
      · rw [if_neg (show ¬ nI cs.length ≤ (0 : Int32) from nI_ge (a := 0) (by omega) (by omega)), if_pos rfl]
    rw [e1, ob5_mk]
    rfl
  · rw [if_neg hw, if_neg hw, ob5_mk]
    have e1 := widxM_loop h hl hb cs.length 0 NN (wd + 1) (dec1 wl) dn (upd f b (nI cs.length)) (by omega) (by unfold NN; omega)
    have e1' : lp_X10_writeIndex_12 (nI cs.length) its many place length times values next (nI b) NN 1 (0 : Int32) (wd + 1) (dec1 wl) dn (upd f b (nI cs.length)) = o5 (wrs (seqW b (img cs) (1 + 10 * 0) (10 * cs.length)) (wd + 1) (dec1 wl) dn (upd f b (nI cs.length))) := e1
    rw [e1']
    unfold o5
    rw [ob5_mk, ckz_b]
