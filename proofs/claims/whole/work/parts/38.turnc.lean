/-! the class's Turn: taken cells, places, kept entries -/
def tkA (a : Nat → Int32) (tk : Nat → Bool) : Prop := ∀ k, k < 1661 → a k = nI (tk k).toNat
theorem nar0 : vp_nar .boolean (0 : Int32) = nI 0 := rfl
theorem nar1 : vp_nar .boolean (1 : Int32) = nI 1 := rfl
theorem take_loopC {p n : Nat} (hp : 2435 ≤ p) (hpn : p + n ≤ 4096) {tk : Nat → Bool} : ∀ (r k fu : Nat) (a : Nat → Int32), r + k = n → r < fu → tkA a (mark tk (p - 2435) k) → ∃ a' : Nat → Int32, lp_X7_take_6 (nI p) (nI n) fu (nI (p - 2435 + k)) a = some a' ∧ tkA a' (mark tk (p - 2435) n) := by
  intro r
  have e0 : nI p - (2435 : Int32) = nI (p - 2435) := pk_sub (b := 2435) hp
  induction r with
  | zero =>
    intro k fu a hk hf h
    obtain ⟨m, rfl⟩ : ∃ m, fu = m + 1 := ⟨fu - 1, by omega⟩
    have : k = n := by omega
    subst this
    rw [lp_X7_take_6, e0, nI_add, if_pos (nI_le (by omega) (by omega))]
    exact ⟨a, rfl, h⟩
  | succ r ih =>
    intro k fu a hk hf h
    obtain ⟨m, rfl⟩ : ∃ m, fu = m + 1 := ⟨fu - 1, by omega⟩
    rw [lp_X7_take_6, e0, nI_add, if_neg (nI_ge (by omega) (by omega)), if_neg (nI_pos (by omega)), if_neg (show ¬ (1661 : Int32) ≤ nI (p - 2435 + k) from nI_ge (b := 1661) (by omega) (by omega)), ckb_in _ (show p - 2435 + k < 1661 by omega) (by omega), nI_clamp (by omega), ob1_mk, nI_1, nar1, show p - 2435 + k + 1 = p - 2435 + (k + 1) by omega]
    refine ih (k + 1) m _ (by omega) (by omega) (fun j hj => ?_)
    by_cases hjk : j = p - 2435 + k
    · subst hjk
      rw [pk_us]
      have : mark tk (p - 2435) (k + 1) (p - 2435 + k) = true := by unfold mark; simp
      rw [this]
      rfl
    · rw [pk_un hjk, h j hj]
      have : mark tk (p - 2435) (k + 1) j = mark tk (p - 2435) k j := by
        unfold mark
        have a2 : decide (j < p - 2435 + (k + 1)) = decide (j < p - 2435 + k) := decide_eq_decide.mpr (by omega)
        rw [a2]
      rw [this]
theorem mark_0 (tk : Nat → Bool) (p : Nat) : mark tk p 0 = tk := by
  funext k
  unfold mark
  have : (decide (p ≤ k) && decide (k < p + 0)) = false := by
    rw [Bool.and_eq_false_iff, decide_eq_false_iff_not, decide_eq_false_iff_not]
    omega
  rw [this, Bool.or_false]
theorem take_C {p n : Nat} (hp : 2435 ≤ p) (hpn : p + n ≤ 4096) {tk : Nat → Bool} {a : Nat → Int32} (h : tkA a tk) : ∃ a' : Nat → Int32, m_X7_take a (nI p) (nI n) = some a' ∧ tkA a' (mark tk (p - 2435) n) := by
  obtain ⟨a', e, h'⟩ := take_loopC hp hpn (tk := tk) n 0 NN a (by omega) (by unfold NN; omega) (by rw [mark_0]; exact h)
  refine ⟨a', ?_, h'⟩
  rw [Nat.add_zero] at e
  rw [m_X7_take, show nI p - (2435 : Int32) = nI (p - 2435) from pk_sub (b := 2435) hp, e, ob1_mk]
theorem begin31 : ∀ (r k fu : Nat) (a : Nat → Int32), r + k = 1661 → r < fu → (∀ j, j < k → a j = nI 0) → ∃ a' : Nat → Int32, lp_X7_begin_31 fu (nI k) a = some a' ∧ tkA a' (fun _ => false) := by
  intro r
  induction r with
  | zero =>
    intro k fu a hk hf h
    obtain ⟨m, rfl⟩ : ∃ m, fu = m + 1 := ⟨fu - 1, by omega⟩
    have : k = 1661 := by omega
    subst this
    rw [lp_X7_begin_31, if_pos (by decide)]
    exact ⟨a, rfl, fun j hj => h j hj⟩
  | succ r ih =>
    intro k fu a hk hf h
    obtain ⟨m, rfl⟩ : ∃ m, fu = m + 1 := ⟨fu - 1, by omega⟩
    rw [lp_X7_begin_31, if_neg (show ¬ (1661 : Int32) ≤ nI k from nI_ge (b := 1661) (by omega) (by omega)), ckb_in _ (show k < 1661 by omega) (by omega), nI_clamp (by omega), nI_1, nar0]
    refine ih (k + 1) m _ (by omega) (by omega) (fun j hj => ?_)
    by_cases hjk : j = k
    · subst hjk; exact pk_us
    · rw [pk_un hjk]; exact h j (by omega)
theorem tkOf_snoc (cs : List Ch) (c : Ch) (hc : 2435 ≤ c.2.2) : tkOf (cs ++ [c]) = mark (tkOf cs) (c.2.2 - 2435) (clen c) := by
  funext k
  unfold tkOf mark
  rw [List.any_append, List.any_cons, List.any_nil, Bool.or_false]
  have a1 : decide (c.2.2 ≤ 2435 + k) = decide (c.2.2 - 2435 ≤ k) := decide_eq_decide.mpr (by omega)
  have a2 : decide (2435 + k < c.2.2 + clen c) = decide (k < c.2.2 - 2435 + clen c) := decide_eq_decide.mpr (by omega)
  rw [a1, a2]
theorem begin61 {f : Nat → Int32} {e sd N most : Nat} {cs : List Ch} {hd : List Hd} (h : DOk f e sd cs hd) (hW : ∀ c ∈ cs, chW N most c) : ∀ (r k fu : Nat) (a : Nat → Int32), r + k = cs.length → r < fu → tkA a (tkOf (cs.take k)) → ∃ a' : Nat → Int32, lp_X7_begin_61 f (nI cs.length) fu (nI k) a = some a' ∧ tkA a' (tkOf cs) := by
  intro r
  have hl := h.2.2.2.1
  induction r with
  | zero =>
    intro k fu a hk hf ha
    obtain ⟨m, rfl⟩ : ∃ m, fu = m + 1 := ⟨fu - 1, by omega⟩
    rw [lp_X7_begin_61, if_pos (nI_le (by omega) (by omega))]
    rw [List.take_of_length_le (by omega)] at ha
    exact ⟨a, rfl, ha⟩
  | succ r ih =>
    intro k fu a hk hf ha
    obtain ⟨m, rfl⟩ : ∃ m, fu = m + 1 := ⟨fu - 1, by omega⟩
    have hlt : k < cs.length := by omega
    obtain ⟨-, -, -, w4, w5⟩ := hW _ (gd_mem ch0 hlt)
    rw [lp_X7_begin_61, if_neg (nI_ge hlt (by omega)), show (8 : Int32) = nI 8 from rfl, at_s h hlt (by omega), ob1_mk, show (9 : Int32) = nI 9 from rfl, at_s h hlt (by omega), ob1_mk]
    obtain ⟨a', e1, ha'⟩ := take_C w4 w5 ha
    have e1' : m_X7_take a (entC (cs.getD k ch0) 8) (entC (cs.getD k ch0) 9) = some a' := e1
    rw [e1', ob1_mk, nI_1]
    refine ih (k + 1) m a' (by omega) (by omega) ?_
    rw [take_s1 ch0 hlt, tkOf_snoc _ _ w4]
    exact ha'
theorem begin_C {f : Nat → Int32} {e sd N most : Nat} {cs : List Ch} {hd : List Hd} (h : DOk f e sd cs hd) (hW : ∀ c ∈ cs, chW N most c) (a1 a2 a3 a4 a5 a6 a7 a8 a9 a10 a11 : Int32) (a12 : Int64) (tk : Nat → Int32) : ∃ tk' : Nat → Int32, m_X7_begin f a1 a2 a3 a4 a5 a6 a7 a8 a9 a10 a11 a12 tk = some (0, 0, 0, 0, 0, 0, 0, 0, 0, 0, 0, 0, tk') ∧ tkA tk' (tkOf cs) := by
  obtain ⟨t1, e1, h1⟩ := begin31 1661 0 NN tk (by omega) (by unfold NN; omega) (fun j hj => by omega)
  obtain ⟨t2, e2, h2⟩ := begin61 h hW cs.length 0 NN t1 (by omega) (by have := h.2.2.2.1; unfold NN; omega) (by
    intro k hk
    rw [h1 k hk]
    rfl)
  refine ⟨t2, ?_, h2⟩
  rw [m_X7_begin, m_X5_clear, ob3_mk, m_X6_clear, ob6_mk]
  have e1' : lp_X7_begin_31 NN (0 : Int32) tk = some t1 := e1
  have e2' : lp_X7_begin_61 f (nI cs.length) NN (0 : Int32) t1 = some t2 := e2
  rw [e1', ob1_mk, chunks_s h, ob1_mk, e2', ob1_mk]
theorem find_any {a : Nat → Int32} {x : Int32} : ∀ (r k fu : Nat) (fr : Int32), r + k = 1661 → r < fu → ∃ y : Int32, lp_X7_findPlace_4 a x fu fr (nI k) = some y := by
  intro r
  induction r with
  | zero =>
    intro k fu fr hk hf
    obtain ⟨m, rfl⟩ : ∃ m, fu = m + 1 := ⟨fu - 1, by omega⟩
    have : k = 1661 := by omega
    subst this
    exact ⟨-1, by rw [lp_X7_findPlace_4, if_pos (by decide)]⟩
  | succ r ih =>
    intro k fu fr hk hf
    obtain ⟨m, rfl⟩ : ∃ m, fu = m + 1 := ⟨fu - 1, by omega⟩
    rw [lp_X7_findPlace_4, if_neg (show ¬ (1661 : Int32) ≤ nI k from nI_ge (b := 1661) (by omega) (by omega)), ckb_in _ (show k < 1661 by omega) (by omega), nI_clamp (by omega), nI_1]
    by_cases h0 : a k = 0
    · rw [if_pos h0, ob1_mk]
      by_cases h1 : fr + 1 = x
      · exact ⟨_, if_pos h1⟩
      · rw [if_neg h1]; exact ih (k + 1) m _ (by omega) (by omega)
    · rw [if_neg h0, ob1_mk]
      by_cases h1 : (0 : Int32) = x
      · exact ⟨_, if_pos h1⟩
      · rw [if_neg h1]; exact ih (k + 1) m _ (by omega) (by omega)
def plI (o : Option Nat) : Int32 := match o with
  | none => -1
  | some p => nI (2435 + p)
theorem find_loop {a : Nat → Int32} {tk : Nat → Bool} (h : tkA a tk) {n : Nat} (hn : n < 5000) : ∀ (r k fu free : Nat), r + k = 1661 → r < fu → free ≤ k → lp_X7_findPlace_4 a (nI n) fu (nI free) (nI k) = some (plI (ffL tk n r k free)) := by
  intro r
  induction r with
  | zero =>
    intro k fu free hk hf _
    obtain ⟨m, rfl⟩ : ∃ m, fu = m + 1 := ⟨fu - 1, by omega⟩
    have : k = 1661 := by omega
    subst this
    rw [lp_X7_findPlace_4, if_pos (by decide)]
    rfl
  | succ r ih =>
    intro k fu free hk hf hfr
    obtain ⟨m, rfl⟩ : ∃ m, fu = m + 1 := ⟨fu - 1, by omega⟩
    have ha := h k (by omega)
    have e1 : (if a (Int32.toNatClampNeg (nI k)) = 0 then some (nI free + (1 : Int32)) else some (0 : Int32)) = some (nI (if tk k then 0 else free + 1)) := by
      rw [nI_clamp (by omega), ha, nI_1]
      cases tk k <;> rfl
    rw [lp_X7_findPlace_4, if_neg (show ¬ (1661 : Int32) ≤ nI k from nI_ge (b := 1661) (by omega) (by omega)), ckb_in _ (show k < 1661 by omega) (by omega), e1, ob1_mk, nI_1]
    unfold ffL
    have hle : (if tk k then 0 else free + 1) ≤ k + 1 := by split <;> omega
    by_cases hc : (if tk k then 0 else free + 1) = n
    · rw [if_pos (by rw [hc]), if_pos hc]
      show some ((2435 : Int32) + nI k + (1 : Int32) - nI n) = some (nI (2435 + (k + 1 - n)))
      rw [show (2435 : Int32) = nI 2435 from rfl, nI_add, nI_1, pk_sub (by omega)]
      congr 2
      omega
    · rw [if_neg (fun q => hc ((nI_eq (by omega) (by omega)).mp q)), if_neg hc]
      exact ih (k + 1) m _ (by omega) (by omega) hle
theorem find_C {a : Nat → Int32} {tk : Nat → Bool} (h : tkA a tk) {n : Nat} (hn : n < 5000) : m_X7_findPlace a (nI n) = some (plI (ff tk n)) := by
  have := find_loop h hn 1661 0 NN 0 (by omega) (by unfold NN; omega) (Nat.le_refl 0)
  rw [m_X7_findPlace]
  exact this
theorem plI_none (p : Nat) (hp : p < 5000) : ¬ nI (2435 + p) = (-1 : Int32) := by
  intro q
  have q5 : (nI (2435 + p)).toInt = (-1 : Int32).toInt := by rw [q]
  rw [nI_toInt (by omega)] at q5
  have : ((2435 + p : Nat) : Int) = -1 := q5
  omega
/-- what is made ready beside the disk -/
def TSok (out : List (Ch × Bool)) (im pf kc : Nat → Int32) (U : Nat) : Prop := (∀ k, k < out.length → ∀ j, j < 10 → im (1 + 10 * k + j) = entC (out.getD k (ch0, false)).1 j) ∧ ∀ k, k < out.length → ((out.getD k (ch0, false)).2 = false → pf k = -1) ∧ ((out.getD k (ch0, false)).2 = true → ∃ o, pf k = nI o ∧ o + clen (out.getD k (ch0, false)).1 ≤ U ∧ ∀ m, m < clen (out.getD k (ch0, false)).1 → kc (o + m) = cellC (out.getD k (ch0, false)).1 m)
theorem keep_loop {f : Nat → Int32} {e sd : Nat} {cs : List Ch} {hd : List Hd} (h : DOk f e sd cs hd) {x c : Nat} (hx : x < cs.length) (hc : c < 96) : ∀ (r j fu : Nat) (im : Nat → Int32), r + j = 10 → r < fu → ∃ im' : Nat → Int32, lp_X7_keep_17 f (nI c) (nI x) fu (nI j) im = some im' ∧ (∀ i, j ≤ i → i < 10 → im' (1 + 10 * c + i) = entC (cs.getD x ch0) i) ∧ ∀ k, (k < 1 + 10 * c + j ∨ 1 + 10 * c + 10 ≤ k) → im' k = im k := by
  intro r
  induction r with
  | zero =>
    intro j fu im hj hf
    obtain ⟨m, rfl⟩ : ∃ m, fu = m + 1 := ⟨fu - 1, by omega⟩
    have : j = 10 := by omega
    subst this
    exact ⟨im, by rw [lp_X7_keep_17, if_pos (by decide)], fun i h1 h2 => by omega, fun _ _ => rfl⟩
  | succ r ih =>
    intro j fu im hj hf
    obtain ⟨m, rfl⟩ : ∃ m, fu = m + 1 := ⟨fu - 1, by omega⟩
    have e1 : (1 : Int32) + nI c * (10 : Int32) + nI j = nI (1 + 10 * c + j) := by rw [show (10 : Int32) = nI 10 from rfl, pk_mul, show (1 : Int32) = nI 1 from rfl, nI_add, nI_add, Nat.mul_comm]
    rw [lp_X7_keep_17, if_neg (show ¬ (10 : Int32) ≤ nI j from nI_ge (b := 10) (by omega) (by omega)), at_s h hx (by omega), ob1_mk, e1, ckb_in _ (show 1 + 10 * c + j < 961 by omega) (by omega), nI_clamp (by omega), nI_1]
    obtain ⟨im', e2, h1, h2⟩ := ih (j + 1) m (upd im (1 + 10 * c + j) (entC (cs.getD x ch0) j)) (by omega) (by omega)
    refine ⟨im', e2, fun i hi1 hi2 => ?_, fun k hk => ?_⟩
    · by_cases hij : i = j
      · subst hij
        rw [h2 _ (Or.inl (by omega)), pk_us]
      · exact h1 i (by omega) hi2
    · rw [h2 k (by omega), pk_un (by omega)]
theorem keep_C {f : Nat → Int32} {e sd : Nat} {cs : List Ch} {hd : List Hd} (h : DOk f e sd cs hd) {x c : Nat} (hx : x < cs.length) (hc : c < 96) (la : Int32) (im pf : Nat → Int32) : ∃ im' : Nat → Int32, m_X7_keep f (nI c) la im pf (nI x) = some (nI (c + 1), la, im', upd pf c (-1)) ∧ (∀ i, i < 10 → im' (1 + 10 * c + i) = entC (cs.getD x ch0) i) ∧ ∀ k, k < 1 + 10 * c → im' k = im k := by
  obtain ⟨im', e, h1, h2⟩ := keep_loop h hx hc 10 0 NN im (by omega) (by unfold NN; omega)
  refine ⟨im', ?_, fun i hi => h1 i (by omega) hi, fun k hk => h2 k (Or.inl (by omega))⟩
  have e' : lp_X7_keep_17 f (nI c) (nI x) NN (0 : Int32) im = some im' := e
  rw [m_X7_keep, if_pos (show nI c < (96 : Int32) from nI_lt (b := 96) hc (by omega)), e', ob1_mk, ckb_in _ hc (by omega), nI_clamp (by omega), nI_1]
theorem keep_full {f : Nat → Int32} {c : Nat} (hc : ¬ c < 96) (hc2 : c < 1000) (la x : Int32) (im pf : Nat → Int32) : m_X7_keep f (nI c) la im pf x = some (nI c, 1, im, pf) := by
  rw [m_X7_keep, if_neg (show ¬ nI c < (96 : Int32) from nI_nlt (b := 96) (by omega) (by omega))]
