/-! the reference: turn -/
theorem wchM_loop {place made g : Nat → Int32} {x pl len : Nat} (hx : x < 240) (hpl : place x = nI pl) (hin : pl + len ≤ 4096) (hlen : len ≤ 200) (hg : ∀ j, j < len → made j = g j) : ∀ (r k fu : Nat) (wd wl dn : Int32) (f : Nat → Int32), r + k = len → r + 1 < fu → lp_X10_writeChunk_11 place (nI x) (nI len) made fu 1 (nI k) wd wl dn f = o5 (wrs (seqW pl g k r) wd wl dn f) := by
  intro r
  induction r with
  | zero =>
    intro k fu wd wl dn f hk hf
    obtain ⟨n, rfl⟩ : ∃ n, fu = n + 1 := ⟨fu - 1, by omega⟩
    rw [lp_X10_writeChunk_11, if_pos (nI_le (by omega) (by omega))]
    rfl
  | succ r ih =>
    intro k fu wd wl dn f hk hf
    obtain ⟨n, rfl⟩ : ∃ n, fu = n + 1 := ⟨fu - 1, by omega⟩
    have e0 : seqW pl g k (r + 1) = (pl + k, g k) :: seqW pl g (k + 1) r := rfl
    rw [lp_X10_writeChunk_11, if_neg (nI_ge (by omega) (by omega)), if_neg (by decide), ckb_in _ hx (by omega), ckb_in _ (show k < 200 by omega) (by omega), nI_clamp (show x < 2 ^ 31 by omega), nI_clamp (show k < 2 ^ 31 by omega), hpl, hg k (by omega), nI_add, wrM (by omega), e0, wrs_cons]
    by_cases hw : wl = 0
    · obtain ⟨n2, rfl⟩ : ∃ n2, n = n2 + 1 := ⟨n - 1, by omega⟩
      rw [if_pos hw, if_pos hw, ob5_mk, lp_X10_writeChunk_11, nI_1]
      by_cases hz : len ≤ k + 1
      · rw [if_pos (nI_le hz (by omega))]; rfl
      · rw [if_neg (nI_ge (by omega) (by omega)), if_pos rfl]; rfl
    · rw [if_neg hw, if_neg hw, ob5_mk, nI_1]
      exact ih (k + 1) n _ _ _ _ (by omega) (by omega)
theorem wchM {many place times values made : Nat → Int32} {bits : Int32} {x : Nat} {c : Ch} (hP : slP many times values x c.2.1) (hpl : place x = nI c.2.2) (hin : c.2.2 + clen c ≤ 4096) (wd wl dn : Int32) (f : Nat → Int32) : ∃ (bits' : Int32) (made' : Nat → Int32), m_X10_writeChunk wd wl dn bits f many place times values made (nI x) = some (nI (wrs (chkW c) wd wl dn f).1.toNat, (wrs (chkW c) wd wl dn f).2.1, (wrs (chkW c) wd wl dn f).2.2.1, (wrs (chkW c) wd wl dn f).2.2.2.1, bits', (wrs (chkW c) wd wl dn f).2.2.2.2, made') := by
  obtain ⟨p1, p2, p3, p4, p5⟩ := hP
  obtain ⟨m', e1, m1, m2, m3⟩ := make_spec (bits := bits) (made := made) p1 p2 p4 p5 p3
  have hcl : clen c = 2 + ((encB c.2.1).length + 31) / 32 := rfl
  have hle := encB_len c.2.1 p5
  refine ⟨nI (encB c.2.1).length, m', ?_⟩
  have e2 := wchM_loop (place := place) (made := m') (g := cellC c) p1 hpl hin (by omega) (fun j hj => ?_) (clen c) 0 NN wd wl dn f (by omega) (by unfold NN; omega)
  · have e2' : lp_X10_writeChunk_11 place (nI x) (nI (clen c)) m' NN 1 (0 : Int32) wd wl dn f = o5 (wrs (chkW c) wd wl dn f) := e2
    rw [m_X10_writeChunk, e1, ob3_mk, ← hcl, e2']
    unfold o5
    rw [ob5_mk, ckz_b]
  · unfold cellC
    by_cases j0 : j = 0
    · subst j0; rw [if_pos rfl]; exact m2
    · rw [if_neg j0]
      by_cases j1 : j = 1
      · subst j1; rw [if_pos rfl]; exact m3
      · rw [if_neg j1]
        have := hold_cell m1 (j := j - 2) (by omega)
        rw [← this]
        congr 1
        omega
theorem isOf_M {place length : Nat → Int32} {x pl len p : Nat} (hx : x < 240) (hp : place x = nI pl) (hl : length x = nI len) (h1 : pl + len < 100000) (h2 : p < 100000) : m_X10_isOf place length (nI x) (nI p) = some (nI (decide (pl ≤ p) && decide (p < pl + len)).toNat) := by
  rw [m_X10_isOf, ckb_in _ hx (by omega), nI_clamp (by omega), hp, hl, nI_add]
  by_cases c1 : p < pl
  · rw [if_pos (nI_lt c1 (by omega)), ob1_mk, decide_eq_false (show ¬ pl ≤ p by omega)]
    rfl
  · rw [if_neg (nI_nlt (by omega) (by omega)), ckb_in _ hx (by omega), ckb_in _ hx (by omega), decide_eq_true (show pl ≤ p by omega)]
    by_cases c2 : pl + len ≤ p
    · rw [if_pos (nI_le c2 (by omega)), ob1_mk, decide_eq_false (show ¬ p < pl + len by omega)]
      rfl
    · rw [if_neg (nI_ge (by omega) (by omega)), ob1_mk, decide_eq_true (show p < pl + len by omega)]
      rfl
theorem isTk5 {order its many place length times values : Nat → Int32} {cs : List Ch} {sl : List Nat} {N most : Nat} (h : slOk order its many place length times values cs sl) (hW : ∀ c ∈ cs, chW N most c) (hcl : cs.length ≤ 96) {i : Nat} (hi : i < 1661) : ∀ (r k n : Nat) (b : Bool), r + k = cs.length → r < n → lp_X10_isTaken_5 (nI cs.length) place length order (nI (2435 + i)) n (nI b.toNat) (nI k) = some (nI (b || tkOf (cs.drop k) i).toNat) := by
  intro r
  induction r with
  | zero =>
    intro k n b hk hn
    obtain ⟨m, rfl⟩ : ∃ m, n = m + 1 := ⟨n - 1, by omega⟩
    rw [lp_X10_isTaken_5, if_pos (nI_le (by omega) (by omega)), List.drop_eq_nil_of_le (by omega)]
    simp [tkOf]
  | succ r ih =>
    intro k n b hk hn
    obtain ⟨m, rfl⟩ : ∃ m, n = m + 1 := ⟨n - 1, by omega⟩
    have hlt : k < cs.length := by omega
    obtain ⟨s1, s2, s3, s4, s5, s6, s7⟩ := h.2.2 k hlt
    obtain ⟨-, -, -, w4, w5⟩ := hW _ (gd_mem ch0 hlt)
    have et : tkOf (cs.drop k) i = ((decide ((cs.getD k ch0).2.2 ≤ 2435 + i) && decide (2435 + i < (cs.getD k ch0).2.2 + clen (cs.getD k ch0))) || tkOf (cs.drop (k + 1)) i) := by
      rw [drop_cons ch0 hlt]
      rfl
    rw [lp_X10_isTaken_5, if_neg (nI_ge hlt (by omega)), et, nI_1]
    cases b with
    | true =>
      rw [if_neg (by decide), ob1_mk]
      have := ih (k + 1) m true (by omega) (by omega)
      rw [Bool.true_or] at this ⊢
      exact this
    | false =>
      rw [if_pos (by decide), ckb_in _ (show k < 96 by omega) (by omega), nI_clamp (by omega), s2, isOf_M s1 s5 s6 (by omega) (by omega), ob1_mk]
      cases hd : (decide ((cs.getD k ch0).2.2 ≤ 2435 + i) && decide (2435 + i < (cs.getD k ch0).2.2 + clen (cs.getD k ch0))) with
      | true =>
        rw [if_neg (by decide), ob1_mk]
        exact ih (k + 1) m true (by omega) (by omega)
      | false =>
        rw [if_pos (by decide), ob1_mk]
        exact ih (k + 1) m false (by omega) (by omega)
def anyN (l : List (Ch × Bool)) (i : Nat) : Bool := l.any (fun q => q.2 && (decide (q.1.2.2 ≤ 2435 + i) && decide (2435 + i < q.1.2.2 + clen q.1)))
/-- the places that were found -/
def PL (place length next isNew : Nat → Int32) (out : List (Ch × Bool)) (nx : List Nat) : Prop := out.length ≤ nx.length ∧ ∀ k, k < out.length → next k = nI (nx.getD k 0) ∧ nx.getD k 0 < 240 ∧ isNew k = nI (out.getD k cb0).2.toNat ∧ place (nx.getD k 0) = nI (out.getD k cb0).1.2.2 ∧ length (nx.getD k 0) = nI (clen (out.getD k cb0).1) ∧ (out.getD k cb0).1.2.2 + clen (out.getD k cb0).1 ≤ 4096
theorem isTk48 {place length next isNew : Nat → Int32} {out : List (Ch × Bool)} {nx : List Nat} (h : PL place length next isNew out nx) (hl : out.length ≤ 96) {i : Nat} (hi : i < 1661) : ∀ (r k n : Nat) (b : Bool), r + k = out.length → r < n → lp_X10_isTaken_48 place length next isNew (nI (2435 + i)) (nI out.length) n (nI b.toNat) (nI k) = some (nI (b || anyN (out.drop k) i).toNat) := by
  intro r
  induction r with
  | zero =>
    intro k n b hk hn
    obtain ⟨m, rfl⟩ : ∃ m, n = m + 1 := ⟨n - 1, by omega⟩
    rw [lp_X10_isTaken_48, if_pos (nI_le (by omega) (by omega)), List.drop_eq_nil_of_le (by omega)]
    simp [anyN]
  | succ r ih =>
    intro k n b hk hn
    obtain ⟨m, rfl⟩ : ∃ m, n = m + 1 := ⟨n - 1, by omega⟩
    have hlt : k < out.length := by omega
    obtain ⟨s1, s2, s3, s4, s5, s6⟩ := h.2 k hlt
    have et : anyN (out.drop k) i = (((out.getD k cb0).2 && (decide ((out.getD k cb0).1.2.2 ≤ 2435 + i) && decide (2435 + i < (out.getD k cb0).1.2.2 + clen (out.getD k cb0).1))) || anyN (out.drop (k + 1)) i) := by
      rw [drop_cons cb0 hlt]
      rfl
    rw [lp_X10_isTaken_48, if_neg (nI_ge hlt (by omega)), et, nI_1]
    cases b with
    | true =>
      rw [if_neg (by decide), ob1_mk]
      have := ih (k + 1) m true (by omega) (by omega)
      rw [Bool.true_or] at this ⊢
      exact this
    | false =>
      rw [if_pos (by decide), ckb_in _ (show k < 240 by omega) (by omega), nI_clamp (by omega), s3]
      cases hb : (out.getD k cb0).2 with
      | false =>
        rw [if_pos (by decide), ob1_mk]
        exact ih (k + 1) m false (by omega) (by omega)
      | true =>
        rw [if_neg (by decide), ckb_in _ (show k < 240 by omega) (by omega), s1, isOf_M s2 s4 s5 (by omega) (by omega), ob1_mk]
        cases hd : (decide ((out.getD k cb0).1.2.2 ≤ 2435 + i) && decide (2435 + i < (out.getD k cb0).1.2.2 + clen (out.getD k cb0).1)) with
        | true =>
          rw [if_neg (by decide), ob1_mk]
          exact ih (k + 1) m true (by omega) (by omega)
        | false =>
          rw [if_pos (by decide), ob1_mk]
          exact ih (k + 1) m false (by omega) (by omega)
theorem isTk_M {order its many place length times values next isNew : Nat → Int32} {cs : List Ch} {sl : List Nat} {N most : Nat} {out : List (Ch × Bool)} {nx : List Nat} (h : slOk order its many place length times values cs sl) (hW : ∀ c ∈ cs, chW N most c) (hcl : cs.length ≤ 96) (hP : PL place length next isNew out nx) (hl : out.length ≤ 96) {i : Nat} (hi : i < 1661) : m_X10_isTaken (nI cs.length) place length order next isNew (nI (2435 + i)) (nI out.length) = some (nI (marks (tkOf cs) out i).toNat) := by
  have h1 := isTk5 h hW hcl hi cs.length 0 NN false (by omega) (by unfold NN; omega)
  rw [Bool.false_or, List.drop_zero] at h1
  have h1' : lp_X10_isTaken_5 (nI cs.length) place length order (nI (2435 + i)) NN (0 : Int32) (0 : Int32) = some (nI (tkOf cs i).toNat) := h1
  have h2 := isTk48 hP hl hi out.length 0 NN (tkOf cs i) (by omega) (by unfold NN; omega)
  rw [List.drop_zero] at h2
  have h2' : lp_X10_isTaken_48 place length next isNew (nI (2435 + i)) (nI out.length) NN (nI (tkOf cs i).toNat) (0 : Int32) = some (nI (tkOf cs i || anyN out i).toNat) := h2
  rw [m_X10_isTaken, h1', ob1_mk, h2', ob1_mk, ckz_b]
  rfl
theorem findM_loop {order place length next isNew : Nat → Int32} {cN : Int32} {tk : Nat → Bool} {n k0 : Nat} (hn : n < 5000) (hT : ∀ i, i < 1661 → m_X10_isTaken cN place length order next isNew (nI (2435 + i)) (nI k0) = some (nI (tk i).toNat)) : ∀ (r k fu free : Nat), r + k = 1661 → r < fu → free ≤ k → lp_X10_find_7 cN place length order next isNew (nI n) (nI k0) fu (nI free) (nI (2435 + k)) = some (plI (ffL tk n r k free)) := by
  intro r
  induction r with
  | zero =>
    intro k fu free hk hf _
    obtain ⟨m, rfl⟩ : ∃ m, fu = m + 1 := ⟨fu - 1, by omega⟩
    have : k = 1661 := by omega
    subst this
    rw [lp_X10_find_7, if_pos (by decide)]
    rfl
  | succ r ih =>
    intro k fu free hk hf hfr
    obtain ⟨m, rfl⟩ : ∃ m, fu = m + 1 := ⟨fu - 1, by omega⟩
    have e1 : (if nI (tk k).toNat = 0 then some (nI free + (1 : Int32)) else some (0 : Int32)) = some (nI (if tk k then 0 else free + 1)) := by
      rw [nI_1]
      cases tk k <;> rfl
    rw [lp_X10_find_7, if_neg (show ¬ (4096 : Int32) ≤ nI (2435 + k) from nI_ge (b := 4096) (by omega) (by omega)), hT k (by omega), ob1_mk, e1, ob1_mk, nI_1, Nat.add_assoc]
    unfold ffL
    have hle : (if tk k then 0 else free + 1) ≤ k + 1 := by split <;> omega
    by_cases hc : (if tk k then 0 else free + 1) = n
    · rw [if_pos (by rw [hc]), if_pos hc]
      show some (nI (2435 + k) - nI n + (1 : Int32)) = some (nI (2435 + (k + 1 - n)))
      have : n ≤ k + 1 := by omega
      rw [pk_sub (by omega), nI_1]
      congr 2
      omega
    · rw [if_neg (fun q => hc ((nI_eq (by omega) (by omega)).mp q)), if_neg hc]
      exact ih (k + 1) m _ (by omega) (by omega) hle
theorem findM {order place length next isNew : Nat → Int32} {cN : Int32} {tk : Nat → Bool} {n k0 : Nat} (hn : n < 5000) (hT : ∀ i, i < 1661 → m_X10_isTaken cN place length order next isNew (nI (2435 + i)) (nI k0) = some (nI (tk i).toNat)) : m_X10_find cN place length order next isNew (nI n) (nI k0) = some (plI (ff tk n)) := by
  have := findM_loop hn hT 1661 0 NN 0 (by omega) (by unfold NN; omega) (Nat.le_refl 0)
  rw [m_X10_find]
  exact this
theorem ord_loop {next : Nat → Int32} {n : Nat} {nx : List Nat} (hn : n ≤ 96) (h : ∀ k, k < n → next k = nI (nx.getD k 0)) : ∀ (r k fu : Nat) (order : Nat → Int32), r + k = n → r < fu → (∀ j, j < k → order j = nI (nx.getD j 0)) → ∃ order' : Nat → Int32, lp_X10_turn_174 (nI n) next fu (nI k) order = some order' ∧ ∀ j, j < n → order' j = nI (nx.getD j 0) := by
  intro r
  induction r with
  | zero =>
    intro k fu order hk hf ho
    obtain ⟨m, rfl⟩ : ∃ m, fu = m + 1 := ⟨fu - 1, by omega⟩
    rw [lp_X10_turn_174, if_pos (nI_le (by omega) (by omega))]
    exact ⟨order, rfl, fun j hj => ho j (by omega)⟩
  | succ r ih =>
    intro k fu order hk hf ho
    obtain ⟨m, rfl⟩ : ∃ m, fu = m + 1 := ⟨fu - 1, by omega⟩
    rw [lp_X10_turn_174, if_neg (nI_ge (by omega) (by omega)), ckb_in _ (show k < 240 by omega) (by omega), ckb_in _ (show k < 96 by omega) (by omega), nI_clamp (by omega), h k (by omega), nI_1]
    refine ih (k + 1) m _ (by omega) (by omega) (fun j hj => ?_)
    by_cases hjk : j = k
    · subst hjk; exact pk_us
    · rw [pk_un hjk]; exact ho j (by omega)
