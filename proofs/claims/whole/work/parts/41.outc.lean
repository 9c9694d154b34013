/-! the class's Turn: writeOut does the turn's writes -/
def o5 (w : D5) : Option (Int32 × Int32 × Int32 × Int32 × (Nat → Int32)) := some (nI w.1.toNat, w.2.1, w.2.2.1, w.2.2.2.1, w.2.2.2.2)
theorem wrs_cons (q : Nat × Int32) (l : List (Nat × Int32)) (wd wl dn : Int32) (f : Nat → Int32) : wrs (q :: l) wd wl dn f = if wl = 0 then (false, wd, wl, 1, f) else wrs l (wd + 1) (dec1 wl) dn (upd f q.1 q.2) := rfl
theorem pat_C {u k : Nat} {kc : Nat → Int32} (hk : k < u) (hu : u ≤ 1661) : m_X5_at (nI u) kc (nI k) = some (kc k) := by
  rw [m_X5_at, if_neg (nI_pos (by omega)), if_neg (nI_ge hk (by omega)), ckb_in _ (show k < 1661 by omega) (by omega), nI_clamp (by omega), ob1_mk]
theorem wcells_loop {u c o len pl : Nat} {kc im pf : Nat → Int32} {g : Nat → Int32} (hc : c < 96) (hu : u ≤ 1661) (hpf : pf c = nI o) (ho : o + len ≤ u) (h8 : im (1 + 10 * c + 8) = nI pl) (h9 : im (1 + 10 * c + 9) = nI len) (hpl : pl + len ≤ 4096) (hg : ∀ m, m < len → kc (o + m) = g m) : ∀ (r k fu : Nat) (wd wl dn : Int32) (f : Nat → Int32), r + k = len → r < fu → lp_X7_writeCellsOf_31 (nI u) kc im pf (nI c) fu (nI k) wd wl dn f = o5 (wrs (seqW pl g k r) wd wl dn f) := by
  have e0 : (1 : Int32) + nI c * (10 : Int32) = nI (1 + 10 * c) := by rw [show (10 : Int32) = nI 10 from rfl, pk_mul, show (1 : Int32) = nI 1 from rfl, nI_add, Nat.mul_comm]
  have e8 : nI (1 + 10 * c) + (8 : Int32) = nI (1 + 10 * c + 8) := nI_add _ 8
  have e9 : nI (1 + 10 * c) + (9 : Int32) = nI (1 + 10 * c + 9) := nI_add _ 9
  intro r
  induction r with
  | zero =>
    intro k fu wd wl dn f hk hf
    obtain ⟨m, rfl⟩ : ∃ m, fu = m + 1 := ⟨fu - 1, by omega⟩
    rw [lp_X7_writeCellsOf_31, e0, e9, nI_clamp (by omega), h9, if_pos (nI_le (by omega) (by omega))]
    rfl
  | succ r ih =>
    intro k fu wd wl dn f hk hf
    obtain ⟨m, rfl⟩ : ∃ m, fu = m + 1 := ⟨fu - 1, by omega⟩
    rw [lp_X7_writeCellsOf_31, e0, e9, e8, nI_clamp (show 1 + 10 * c + 9 < 2 ^ 31 by omega), nI_clamp (show 1 + 10 * c + 8 < 2 ^ 31 by omega), h9, h8, if_neg (nI_ge (by omega) (by omega)), ckb_in _ hc (by omega), nI_clamp (show c < 2 ^ 31 by omega), hpf, nI_add, nI_add, pat_C (by omega) hu, ob1_mk, wrC (by omega), hg k (by omega)]
    show _ = o5 (wrs ((pl + k, g k) :: seqW pl g (k + 1) r) wd wl dn f)
    rw [wrs_cons]
    by_cases hw : wl = 0
    · rw [if_pos hw, if_pos hw, ob5_mk, if_pos rfl]
      rfl
    · rw [if_neg hw, if_neg hw, ob5_mk, if_neg (by decide), nI_1]
      exact ih (k + 1) m _ _ _ _ (by omega) (by omega)
theorem wcells_C {u c o : Nat} {x : Ch} {kc im pf : Nat → Int32} (hc : c < 96) (hu : u ≤ 1661) (hpf : pf c = nI o) (ho : o + clen x ≤ u) (h8 : im (1 + 10 * c + 8) = nI x.2.2) (h9 : im (1 + 10 * c + 9) = nI (clen x)) (hpl : x.2.2 + clen x ≤ 4096) (hg : ∀ m, m < clen x → kc (o + m) = cellC x m) (wd wl dn : Int32) (f : Nat → Int32) : m_X7_writeCellsOf wd wl dn f (nI u) kc im pf (nI c) = o5 (wrs (chkW x) wd wl dn f) := by
  have e0 : (1 : Int32) + nI c * (10 : Int32) = nI (1 + 10 * c) := by rw [show (10 : Int32) = nI 10 from rfl, pk_mul, show (1 : Int32) = nI 1 from rfl, nI_add, Nat.mul_comm]
  have e8 : nI (1 + 10 * c) + (8 : Int32) = nI (1 + 10 * c + 8) := nI_add _ 8
  have e9 : nI (1 + 10 * c) + (9 : Int32) = nI (1 + 10 * c + 9) := nI_add _ 9
  rw [m_X7_writeCellsOf, e0, e8, e9, ckb_in _ (show 1 + 10 * c + 8 < 961 by omega) (by omega), ckb_in _ (show 1 + 10 * c + 9 < 961 by omega) (by omega)]
  exact wcells_loop hc hu hpf ho h8 h9 hpl hg (clen x) 0 NN wd wl dn f (by omega) (by unfold NN; omega)
theorem news_cons_t {x : Ch} {l : List (Ch × Bool)} : newsW ((x, true) :: l) = chkW x ++ newsW l := by
  unfold newsW
  rw [List.filter_cons_of_pos (by rfl), List.flatMap_cons]
theorem news_cons_f {x : Ch} {l : List (Ch × Bool)} : newsW ((x, false) :: l) = newsW l := by
  unfold newsW
  rw [List.filter_cons_of_neg (by simp)]
theorem pair_t {q : Ch × Bool} (h : q.2 = true) : q = (q.1, true) := by rcases q with ⟨a, b⟩; rw [show b = true from h]
theorem pair_f {q : Ch × Bool} (h : q.2 = false) : q = (q.1, false) := by rcases q with ⟨a, b⟩; rw [show b = false from h]
theorem wchunks_loop {u : Nat} {out : List (Ch × Bool)} {kc im pf : Nat → Int32} (hl : out.length ≤ 96) (hu : u ≤ 1661) (hT : TSok out im pf kc u) (hpl : ∀ q ∈ out, q.2 = true → q.1.2.2 + clen q.1 ≤ 4096) : ∀ (r k fu : Nat) (wd wl dn : Int32) (f : Nat → Int32), r + k = out.length → r < fu → lp_X7_writeChunks_2 (nI out.length) (nI u) kc im pf fu (nI k) wd wl dn f = o5 (wrs (newsW (out.drop k)) wd wl dn f) := by
  intro r
  induction r with
  | zero =>
    intro k fu wd wl dn f hk hf
    obtain ⟨m, rfl⟩ : ∃ m, fu = m + 1 := ⟨fu - 1, by omega⟩
    rw [lp_X7_writeChunks_2, if_pos (nI_le (by omega) (by omega)), List.drop_eq_nil_of_le (by omega)]
    rfl
  | succ r ih =>
    intro k fu wd wl dn f hk hf
    obtain ⟨m, rfl⟩ : ∃ m, fu = m + 1 := ⟨fu - 1, by omega⟩
    have hlt : k < out.length := by omega
    have hmem := gd_mem (ch0, false) hlt
    rw [lp_X7_writeChunks_2, if_neg (nI_ge hlt (by omega)), ckb_in _ (show k < 96 by omega) (by omega), nI_clamp (by omega), drop_cons (ch0, false) hlt, nI_1]
    obtain ⟨t1, t2⟩ := hT.2 k hlt
    cases hb : (out.getD k (ch0, false)).2 with
    | false =>
      rw [t1 hb, if_pos rfl, pair_f hb, news_cons_f]
      exact ih (k + 1) m _ _ _ _ (by omega) (by omega)
    | true =>
      obtain ⟨o, o1, o2, o3⟩ := t2 hb
      have hne : ¬ nI o = (-1 : Int32) := by
        intro q
        have q5 : (nI o).toInt = (-1 : Int32).toInt := by rw [q]
        rw [nI_toInt (by omega)] at q5
        have : ((o : Nat) : Int) = -1 := q5
        omega
      rw [o1, if_neg hne, wcells_C (by omega) hu o1 o2 (hT.1 k hlt 8 (by omega)) (hT.1 k hlt 9 (by omega)) (hpl _ hmem hb) o3, pair_t hb, news_cons_t, wrs_app]
      unfold o5
      rw [ob5_mk]
      cases hw : (wrs (chkW (out.getD k (ch0, false)).1) wd wl dn f).1 with
      | false =>
        rw [if_pos (by decide), if_neg (by simp)]
        rw [hw]
        rfl
      | true =>
        rw [if_neg (by decide), if_pos rfl]
        exact ih (k + 1) m _ _ _ _ (by omega) (by omega)
theorem windex_loop {n b : Nat} {im : Nat → Int32} {cs : List Ch} (hn : n ≤ 96) (hcs : cs.length = n) (hb : b + 961 ≤ 4096) (him : ∀ m, 1 ≤ m → m < 1 + 10 * n → im m = img cs m) : ∀ (r k fu : Nat) (wd wl dn : Int32) (f : Nat → Int32), r + k = 1 + 10 * n → r < fu → lp_X7_writeIndex_12 (nI n) im (nI b) fu (nI k) wd wl dn f = some (nI (wrs (seqW b (img cs) k r) wd wl dn f).1.toNat, (wrs (seqW b (img cs) k r) wd wl dn f).2.1, (wrs (seqW b (img cs) k r) wd wl dn f).2.2.1, (wrs (seqW b (img cs) k r) wd wl dn f).2.2.2.1, (wrs (seqW b (img cs) k r) wd wl dn f).2.2.2.2, upd im 0 (nI n)) := by
  have e0 : (1 : Int32) + nI n * (10 : Int32) = nI (1 + 10 * n) := by rw [show (10 : Int32) = nI 10 from rfl, pk_mul, show (1 : Int32) = nI 1 from rfl, nI_add, Nat.mul_comm]
  have ez : Int32.toNatClampNeg (0 : Int32) = 0 := rfl
  intro r
  induction r with
  | zero =>
    intro k fu wd wl dn f hk hf
    obtain ⟨m, rfl⟩ : ∃ m, fu = m + 1 := ⟨fu - 1, by omega⟩
    rw [lp_X7_writeIndex_12, e0, if_pos (nI_le (by omega) (by omega)), ez]
    rfl
  | succ r ih =>
    intro k fu wd wl dn f hk hf
    obtain ⟨m, rfl⟩ : ∃ m, fu = m + 1 := ⟨fu - 1, by omega⟩
    have hg : upd im 0 (nI n) k = img cs k := by
      by_cases hk0 : k = 0
      · subst hk0; rw [pk_us]; unfold img; rw [if_pos rfl, hcs]
      · rw [pk_un hk0]; exact him k (by omega) (by omega)
    rw [lp_X7_writeIndex_12, e0, if_neg (nI_ge (by omega) (by omega)), ckb_in _ (show k < 961 by omega) (by omega), ez, nI_clamp (show k < 2 ^ 31 by omega), hg, nI_add, wrC (by omega)]
    show _ = some (nI (wrs ((b + k, img cs k) :: seqW b (img cs) (k + 1) r) wd wl dn f).1.toNat, (wrs ((b + k, img cs k) :: seqW b (img cs) (k + 1) r) wd wl dn f).2.1, (wrs ((b + k, img cs k) :: seqW b (img cs) (k + 1) r) wd wl dn f).2.2.1, (wrs ((b + k, img cs k) :: seqW b (img cs) (k + 1) r) wd wl dn f).2.2.2.1, (wrs ((b + k, img cs k) :: seqW b (img cs) (k + 1) r) wd wl dn f).2.2.2.2, upd im 0 (nI n))
    rw [wrs_cons]
    by_cases hw : wl = 0
    · rw [if_pos hw, if_pos hw, ob5_mk, if_pos rfl]
      rfl
    · rw [if_neg hw, if_neg hw, ob5_mk, if_neg (by decide), nI_1]
      exact ih (k + 1) m _ _ _ _ (by omega) (by omega)
theorem newsW_keep0 {out : List (Ch × Bool)} (h : ∀ q ∈ out, q.2 = true → 2435 ≤ q.1.2.2) : ∀ q ∈ newsW out, q.1 ≠ 0 := by
  intro q hq
  obtain ⟨c, c1, c2, c3⟩ := news_mem hq
  have := h _ c1 rfl
  dsimp only at this
  omega
theorem img_of {out : List (Ch × Bool)} {im pf kc : Nat → Int32} {U : Nat} (hT : TSok out im pf kc U) : ∀ m, 1 ≤ m → m < 1 + 10 * out.length → im m = img (out.map Prod.fst) m := by
  intro m h1 h2
  have := hT.1 ((m - 1) / 10) (by omega) ((m - 1) % 10) (by omega)
  rw [show 1 + 10 * ((m - 1) / 10) + (m - 1) % 10 = m by omega] at this
  rw [this]
  unfold img
  rw [if_neg (by omega), gd_map Prod.fst out _ (ch0, false) (by omega)]
theorem writeOut_C {e sd e' u : Nat} {out : List (Ch × Bool)} {wd wl dn : Int32} {f kc im pf : Nat → Int32} (h0 : f 0 = nI (2 * e + sd)) (hs : sd ≤ 1) (he : e ≤ 100000) (hl : out.length ≤ 96) (hu : u ≤ 1661) (hT : TSok out im pf kc u) (hpl : ∀ q ∈ out, q.2 = true → 2435 ≤ q.1.2.2 ∧ q.1.2.2 + clen q.1 ≤ 4096) :
    ∃ im' : Nat → Int32, m_X7_writeOut wd wl dn f (nI out.length) (nI u) kc im pf (nI e') = some (nI (wrs (turnW (ix (1 - sd)) out ++ [(0, nI (2 * e' + (1 - sd)))]) wd wl dn f).1.toNat, (wrs (turnW (ix (1 - sd)) out ++ [(0, nI (2 * e' + (1 - sd)))]) wd wl dn f).2.1, (wrs (turnW (ix (1 - sd)) out ++ [(0, nI (2 * e' + (1 - sd)))]) wd wl dn f).2.2.1, (wrs (turnW (ix (1 - sd)) out ++ [(0, nI (2 * e' + (1 - sd)))]) wd wl dn f).2.2.2.1, (wrs (turnW (ix (1 - sd)) out ++ [(0, nI (2 * e' + (1 - sd)))]) wd wl dn f).2.2.2.2, im') := by
  have e1 : (1 : Int32) - nI sd = nI (1 - sd) := pk_sub (a := 1) hs
  have e2 : (2 : Int32) * nI e' + nI (1 - sd) = nI (2 * e' + (1 - sd)) := by rw [show (2 : Int32) = nI 2 from rfl, pk_mul, nI_add]
  have hw1 : m_X7_writeChunks wd wl dn f (nI out.length) (nI u) kc im pf = o5 (wrs (newsW out) wd wl dn f) := by
    have := wchunks_loop hl hu hT (fun q hq hb => (hpl q hq hb).2) out.length 0 NN wd wl dn f (by omega) (by unfold NN; omega)
    rw [List.drop_zero] at this
    rw [m_X7_writeChunks]
    exact this
  rw [m_X7_writeOut, side_s h0 hs he, ob1_mk, hw1, e1]
  unfold o5 turnW
  rw [ob5_mk]
  cases hc : (wrs (newsW out) wd wl dn f).1 with
  | false =>
    have eW : wrs (newsW out ++ seqW (ix (1 - sd)) (img (out.map Prod.fst)) 0 (1 + 10 * out.length) ++ [(0, nI (2 * e' + (1 - sd)))]) wd wl dn f = wrs (newsW out) wd wl dn f := by
      rw [List.append_assoc, wrs_app, if_neg (by rw [hc]; simp)]
    rw [eW, if_pos (by decide), ob6_mk, show ckz (0 : Int32) = fun (x : Option (Int32 × Int32 × Int32 × Int32 × (Nat → Int32) × (Nat → Int32))) => x from rfl, hc]
    exact ⟨im, rfl⟩
  | true =>
    rw [if_neg (by decide), ixo_s (by omega), ob1_mk, m_X7_writeIndex, show (0 : Int32) = nI 0 from rfl, ckb_in _ (show 0 < 961 by omega) (by omega)]
    have hix := ix_le (1 - sd)
    have e3 : ∀ (a b c : Int32) (g : Nat → Int32), lp_X7_writeIndex_12 (nI out.length) im (nI (ix (1 - sd))) NN (nI 0) a b c g = _ := fun a b c g => windex_loop (b := ix (1 - sd)) hl (List.length_map (f := Prod.fst)) (by omega) (img_of hT) (1 + 10 * out.length) 0 NN a b c g (by omega) (by unfold NN; omega)
    rw [e3, ob6_mk]
    generalize hW1 : wrs (newsW out) wd wl dn f = W1 at hc ⊢
    have eW : wrs (newsW out ++ seqW (ix (1 - sd)) (img (out.map Prod.fst)) 0 (1 + 10 * out.length) ++ [(0, nI (2 * e' + (1 - sd)))]) wd wl dn f = wrs (seqW (ix (1 - sd)) (img (out.map Prod.fst)) 0 (1 + 10 * out.length) ++ [(0, nI (2 * e' + (1 - sd)))]) W1.2.1 W1.2.2.1 W1.2.2.2.1 W1.2.2.2.2 := by
      rw [List.append_assoc, wrs_app, hW1, if_pos hc]
    rw [eW]
    generalize hW2 : wrs (seqW (ix (1 - sd)) (img (out.map Prod.fst)) 0 (1 + 10 * out.length)) W1.2.1 W1.2.2.1 W1.2.2.2.1 W1.2.2.2.2 = W2
    have eW2 : wrs (seqW (ix (1 - sd)) (img (out.map Prod.fst)) 0 (1 + 10 * out.length) ++ [(0, nI (2 * e' + (1 - sd)))]) W1.2.1 W1.2.2.1 W1.2.2.2.1 W1.2.2.2.2 = if W2.1 = true then wrs [(0, nI (2 * e' + (1 - sd)))] W2.2.1 W2.2.2.1 W2.2.2.2.1 W2.2.2.2.2 else W2 := by
      rw [wrs_app, hW2]
    rw [eW2]
    cases hc2 : W2.1 with
    | false =>
      rw [if_pos (by decide), if_neg (by simp), ob6_mk, hc2]
      exact ⟨_, rfl⟩
    | true =>
      rw [if_neg (by decide), if_pos rfl, e2, wrC (by omega), wrs_cons]
      by_cases hw : W2.2.2.1 = 0
      · rw [if_pos hw, if_pos hw, ob5_mk, if_pos (by decide), ob6_mk]
        exact ⟨_, rfl⟩
      · rw [if_neg hw, if_neg hw, ob5_mk, if_neg (by decide), ob6_mk]
        exact ⟨_, rfl⟩
