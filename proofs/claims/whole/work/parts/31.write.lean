/-! writes, with power that may go -/
def dec1 (wl : Int32) : Int32 := if wl ≤ 0 then wl else wl - 1
abbrev D5 : Type := Bool × Int32 × Int32 × Int32 × (Nat → Int32)
def wrs : List (Nat × Int32) → Int32 → Int32 → Int32 → (Nat → Int32) → D5
  | [], wd, wl, dn, f => (true, wd, wl, dn, f)
  | q :: t, wd, wl, dn, f => if wl = 0 then (false, wd, wl, 1, f) else wrs t (wd + 1) (dec1 wl) dn (upd f q.1 q.2)
theorem wrC {wd wl dn : Int32} {f : Nat → Int32} {k : Nat} {x : Int32} (hk : k < 4096) : m_X2_write wd wl dn f (nI k) x = if wl = 0 then some (0, wd, wl, 1, f) else some (1, wd + 1, dec1 wl, dn, upd f k x) := by
  rw [m_X2_write]
  by_cases h : wl = 0
  · rw [if_pos h, if_pos h]
  · have e : (if wl ≤ 0 then some wl else some (wl - (1 : Int32))) = some (dec1 wl) := by unfold dec1; split <;> rfl
    rw [if_neg h, if_neg h, e, ob1_mk, if_neg (nI_pos (by omega)), if_neg (show ¬ (4096 : Int32) ≤ nI k from nI_ge (b := 4096) hk (by omega)), ckb_in _ hk (by omega), nI_clamp (by omega), ob1_mk]
theorem wrM {wd wl dn : Int32} {f : Nat → Int32} {k : Nat} {x : Int32} (hk : k < 4096) : m_X10_write wd wl dn f (nI k) x = if wl = 0 then some (0, wd, wl, 1, f) else some (1, wd + 1, dec1 wl, dn, upd f k x) := by
  rw [m_X10_write]
  by_cases h : wl = 0
  · rw [if_pos h, if_pos h]
  · have e : (if wl ≤ 0 then some wl else some (wl - (1 : Int32))) = some (dec1 wl) := by unfold dec1; split <;> rfl
    rw [if_neg h, if_neg h, e, ob1_mk, ckb_in _ hk (by omega), nI_clamp (by omega)]
theorem wrs_app : ∀ (a b : List (Nat × Int32)) (wd wl dn : Int32) (f : Nat → Int32), wrs (a ++ b) wd wl dn f = if (wrs a wd wl dn f).1 = true then wrs b (wrs a wd wl dn f).2.1 (wrs a wd wl dn f).2.2.1 (wrs a wd wl dn f).2.2.2.1 (wrs a wd wl dn f).2.2.2.2 else wrs a wd wl dn f := by
  intro a
  induction a with
  | nil => intro b wd wl dn f; simp [wrs]
  | cons q a ih =>
    intro b wd wl dn f
    by_cases h : wl = 0
    · have e2 : wrs (q :: a) wd wl dn f = (false, wd, wl, 1, f) := by simp only [wrs, if_pos h]
      have e3 : wrs (q :: (a ++ b)) wd wl dn f = (false, wd, wl, 1, f) := by simp only [wrs, if_pos h]
      rw [List.cons_append, e3, e2, if_neg (by simp)]
    · have e2 : wrs (q :: a) wd wl dn f = wrs a (wd + 1) (dec1 wl) dn (upd f q.1 q.2) := by simp only [wrs, if_neg h]
      have e3 : wrs (q :: (a ++ b)) wd wl dn f = wrs (a ++ b) (wd + 1) (dec1 wl) dn (upd f q.1 q.2) := by simp only [wrs, if_neg h]
      rw [List.cons_append, e3, e2]
      exact ih b _ _ _ _
/-- the power's numbers: how many writes are left, whether it has gone -/
def pwOk (wl dn : Int32) : Prop := (wl = -1 ∨ 0 ≤ wl) ∧ (dn = 0 ∨ (dn = 1 ∧ wl = 0))
theorem wrs_pw : ∀ (l : List (Nat × Int32)) (wd wl dn : Int32) (f : Nat → Int32), (wl = -1 ∨ 0 ≤ wl) → dn = 0 → pwOk (wrs l wd wl dn f).2.2.1 (wrs l wd wl dn f).2.2.2.1 ∧ ((wrs l wd wl dn f).1 = true → (wrs l wd wl dn f).2.2.2.1 = 0) ∧ ((wrs l wd wl dn f).1 = false → (wrs l wd wl dn f).2.2.2.1 = 1) := by
  intro l
  induction l with
  | nil => intro wd wl dn f h1 h2; exact ⟨⟨h1, Or.inl h2⟩, fun _ => h2, fun h => by simp [wrs] at h⟩
  | cons q l ih =>
    intro wd wl dn f h1 h2
    unfold wrs
    by_cases h : wl = 0
    · rw [if_pos h]
      exact ⟨⟨h1, Or.inr ⟨rfl, h⟩⟩, fun h => by simp at h, fun _ => rfl⟩
    · rw [if_neg h]
      refine ih _ _ _ _ ?_ h2
      unfold dec1
      rcases h1 with rfl | h1
      · left; decide
      · right
        by_cases h3 : wl ≤ 0
        · rw [if_pos h3]; exact h1
        · rw [if_neg h3, Int32.le_iff_toInt_le]
          have h1' : (0 : Int) ≤ wl.toInt := Int32.le_iff_toInt_le.mp h1
          have h3' : ¬ wl.toInt ≤ 0 := fun q => h3 (Int32.le_iff_toInt_le.mpr q)
          have a2 := i32_hi wl
          rw [Int32.toInt_sub]
          show (0 : Int) ≤ (wl.toInt - 1).bmod (2 ^ 32)
          rw [Int.bmod_eq_of_le (by omega) (by omega)]
          omega
/-- a cell that tells nothing of this store -/
def dead (sd : Nat) (cs : List Ch) (hd : List Hd) (k : Nat) : Prop := k ≠ 0 ∧ (k < ix sd ∨ ix sd + 1 + 10 * cs.length ≤ k) ∧ (∀ c ∈ cs, k < c.2.2 ∨ c.2.2 + clen c ≤ k) ∧ (k < 1923 ∨ 2435 ≤ k ∨ (1923 + 4 * hd.length ≤ k ∧ k % 4 ≠ 2))
theorem hold_upd {f : Nat → Int32} {o : Nat} {bs : List Bool} {k : Nat} {x : Int32} (h : hold f o bs) (hk : k < o ∨ o + (bs.length + 31) / 32 ≤ k) : hold (upd f k x) o bs := by
  intro j hj i hi
  rw [pk_un (by omega)]
  exact h j hj i hi
theorem DOk_upd {f : Nat → Int32} {e sd : Nat} {cs : List Ch} {hd : List Hd} {k : Nat} {x : Int32} (h : DOk f e sd cs hd) (hk : dead sd cs hd k) : DOk (upd f k x) e sd cs hd := by
  obtain ⟨h0, hs, he, hl, hi, hc, hg⟩ := h
  obtain ⟨k0, k1, k2, k3⟩ := hk
  refine ⟨by rw [pk_un (by omega)]; exact h0, hs, he, hl, ⟨?_, ?_⟩, ?_, hg.1, ?_, ?_⟩
  · rw [pk_un (by omega)]; exact hi.1
  · intro a ha j hj
    rw [pk_un (by omega)]
    exact hi.2 a ha j hj
  · intro c hcm
    obtain ⟨c1, c2, c3⟩ := hc c hcm
    have q := k2 c hcm
    unfold clen at q
    exact ⟨by rw [pk_un (by omega)]; exact c1, by rw [pk_un (by omega)]; exact c2, hold_upd c3 (by omega)⟩
  · intro a ha j hj
    have := hg.1
    rw [pk_un (by omega)]
    exact hg.2.1 a ha j hj
  · intro a ha ha2
    rw [pk_un (by omega)]
    exact hg.2.2 a ha ha2
theorem wrs_DOk {e sd : Nat} {cs : List Ch} {hd : List Hd} : ∀ (l : List (Nat × Int32)) (wd wl dn : Int32) (f : Nat → Int32), DOk f e sd cs hd → (∀ q ∈ l, dead sd cs hd q.1) → DOk (wrs l wd wl dn f).2.2.2.2 e sd cs hd := by
  intro l
  induction l with
  | nil => intro wd wl dn f h _; exact h
  | cons q l ih =>
    intro wd wl dn f h hl
    unfold wrs
    by_cases hw : wl = 0
    · rw [if_pos hw]; exact h
    · rw [if_neg hw]
      exact ih _ _ _ _ (DOk_upd h (hl q List.mem_cons_self)) (fun p hp => hl p (List.mem_cons_of_mem _ hp))
/-- all writes but the last -/
theorem wrs_last {l : List (Nat × Int32)} {q : Nat × Int32} {wd wl dn : Int32} {f : Nat → Int32} (h : (wrs (l ++ [q]) wd wl dn f).1 = true) : (wrs l wd wl dn f).1 = true ∧ (wrs (l ++ [q]) wd wl dn f).2.2.2.2 = upd (wrs l wd wl dn f).2.2.2.2 q.1 q.2 := by
  rw [wrs_app] at h ⊢
  by_cases h1 : (wrs l wd wl dn f).1 = true
  · rw [if_pos h1] at h ⊢
    refine ⟨h1, ?_⟩
    simp only [wrs] at h ⊢
    by_cases h2 : (wrs l wd wl dn f).2.2.1 = 0
    · rw [if_pos h2] at h; simp at h
    · rw [if_neg h2]
  · rw [if_neg h1] at h
    exact absurd h h1
theorem wrs_fail {l : List (Nat × Int32)} {q : Nat × Int32} {wd wl dn : Int32} {f : Nat → Int32} (h : (wrs (l ++ [q]) wd wl dn f).1 = false) : (wrs (l ++ [q]) wd wl dn f).2.2.2.2 = (wrs l wd wl dn f).2.2.2.2 := by
  rw [wrs_app] at h ⊢
  by_cases h1 : (wrs l wd wl dn f).1 = true
  · rw [if_pos h1] at h ⊢
    simp only [wrs] at h ⊢
    by_cases h2 : (wrs l wd wl dn f).2.2.1 = 0
    · rw [if_pos h2]
    · rw [if_neg h2] at h; simp at h
  · rw [if_neg h1]
/-- what full writes leave -/
def app (l : List (Nat × Int32)) (f : Nat → Int32) : Nat → Int32 := l.foldl (fun f q => upd f q.1 q.2) f
theorem wrs_full : ∀ (l : List (Nat × Int32)) (wd wl dn : Int32) (f : Nat → Int32), (wrs l wd wl dn f).1 = true → (wrs l wd wl dn f).2.2.2.2 = app l f := by
  intro l
  induction l with
  | nil => intro wd wl dn f _; rfl
  | cons q l ih =>
    intro wd wl dn f h
    unfold wrs at h ⊢
    by_cases hw : wl = 0
    · rw [if_pos hw] at h; simp at h
    · rw [if_neg hw] at h ⊢
      exact ih _ _ _ _ h
theorem app_out : ∀ (l : List (Nat × Int32)) (f : Nat → Int32) (k : Nat), (∀ q ∈ l, q.1 ≠ k) → app l f k = f k := by
  intro l
  induction l with
  | nil => intro f k _; rfl
  | cons q l ih =>
    intro f k h
    show app l (upd f q.1 q.2) k = f k
    rw [ih _ k (fun p hp => h p (List.mem_cons_of_mem _ hp)), pk_un (fun e => h q List.mem_cons_self e.symm)]
/-! append's four writes -/
def apW (L s : Nat) (t v : Int32) (e : Nat) : List (Nat × Int32) := [(1923 + 4 * L, nI s), (1923 + 4 * L + 1, t), (1923 + 4 * L + 2, v), (1923 + 4 * L + 3, nI (e + 1))]
theorem logadd_s {f : Nat → Int32} {e sd L s : Nat} {wd wl dn t v : Int32} (h0 : f 0 = nI (2 * e + sd)) (hs : sd ≤ 1) (he : e ≤ 100000) (hL : L < 128) :
    m_X4_add wd wl dn f (nI L) (nI s) t v = some (nI (wrs (apW L s t v e) wd wl dn f).1.toNat, (wrs (apW L s t v e) wd wl dn f).2.1, (wrs (apW L s t v e) wd wl dn f).2.2.1, (wrs (apW L s t v e) wd wl dn f).2.2.2.1, (wrs (apW L s t v e) wd wl dn f).2.2.2.2, nI (if (wrs (apW L s t v e) wd wl dn f).1 then L + 1 else L)) := by
  have e0 : (1923 : Int32) + nI L * (4 : Int32) = nI (1923 + 4 * L) := by rw [show (1923 : Int32) = nI 1923 from rfl, show (4 : Int32) = nI 4 from rfl, pk_mul, nI_add, Nat.mul_comm]
  have e1 : nI (1923 + 4 * L) + (0 : Int32) = nI (1923 + 4 * L) := nI_add _ 0
  have e2 : nI (1923 + 4 * L) + (1 : Int32) = nI (1923 + 4 * L + 1) := nI_add _ 1
  have e3 : nI (1923 + 4 * L) + (2 : Int32) = nI (1923 + 4 * L + 2) := nI_add _ 2
  have e4 : nI (1923 + 4 * L) + (3 : Int32) = nI (1923 + 4 * L + 3) := nI_add _ 3
  rw [m_X4_add, e0, e1, e2, e3, e4, wrC (by omega)]
  by_cases w1 : wl = 0
  · have hW : wrs (apW L s t v e) wd wl dn f = (false, wd, wl, 1, f) := by simp only [apW, wrs, if_pos w1]
    rw [hW, if_pos w1, ob5_mk, if_pos rfl, ob5_mk, if_pos rfl, ob1_mk]
    rfl
  · rw [if_neg w1, ob5_mk, if_neg (by decide), wrC (by omega)]
    by_cases w2 : dec1 wl = 0
    · have hW : wrs (apW L s t v e) wd wl dn f = (false, wd + 1, dec1 wl, 1, upd f (1923 + 4 * L) (nI s)) := by simp only [apW, wrs, if_neg w1, if_pos w2]
      rw [hW, if_pos w2, ob5_mk, if_pos rfl, ob5_mk, if_pos rfl, ob1_mk]
      rfl
    · rw [if_neg w2, ob5_mk, if_neg (by decide), wrC (by omega)]
      by_cases w3 : dec1 (dec1 wl) = 0
      · have hW : wrs (apW L s t v e) wd wl dn f = (false, wd + 1 + 1, dec1 (dec1 wl), 1, upd (upd f (1923 + 4 * L) (nI s)) (1923 + 4 * L + 1) t) := by simp only [apW, wrs, if_neg w1, if_neg w2, if_pos w3]
        rw [hW, if_pos w3, ob5_mk, if_pos rfl, ob5_mk, if_pos rfl, ob1_mk]
        rfl
      · have hf : upd (upd (upd f (1923 + 4 * L) (nI s)) (1923 + 4 * L + 1) t) (1923 + 4 * L + 2) v 0 = nI (2 * e + sd) := by
          rw [pk_un (by omega), pk_un (by omega), pk_un (by omega)]; exact h0
        rw [if_neg w3, ob5_mk, if_neg (by decide), epoch_s hf hs he, ob1_mk, nI_1, wrC (by omega)]
        by_cases w4 : dec1 (dec1 (dec1 wl)) = 0
        · have hW : wrs (apW L s t v e) wd wl dn f = (false, wd + 1 + 1 + 1, dec1 (dec1 (dec1 wl)), 1, upd (upd (upd f (1923 + 4 * L) (nI s)) (1923 + 4 * L + 1) t) (1923 + 4 * L + 2) v) := by simp only [apW, wrs, if_neg w1, if_neg w2, if_neg w3, if_pos w4]
          rw [hW, if_pos w4, ob5_mk, if_pos rfl, ob5_mk, if_pos rfl, ob1_mk]
          rfl
        · have hW : wrs (apW L s t v e) wd wl dn f = (true, wd + 1 + 1 + 1 + 1, dec1 (dec1 (dec1 (dec1 wl))), dn, upd (upd (upd (upd f (1923 + 4 * L) (nI s)) (1923 + 4 * L + 1) t) (1923 + 4 * L + 2) v) (1923 + 4 * L + 3) (nI (e + 1))) := by simp only [apW, wrs, if_neg w1, if_neg w2, if_neg w3, if_neg w4]
          rw [hW, if_neg w4, ob5_mk, if_neg (by decide), ob5_mk, if_neg (by decide), ob1_mk, nI_1]
          rfl
