/-! the class: expire, and the unpacker as a stream -/
def keeps (b : Int32) (c : Ch) : Bool := decide (b ≤ plst c.2.1)
def gone (b : Int32) (cs : List Ch) : Nat := ((cs.filter (fun c => !keeps b c)).map (fun c => c.2.1.length)).sum
def exI (b : Int32) (cs : List Ch) : List (Ch × Bool) := kept (cs.filter (keeps b))
theorem gone_cons (b : Int32) (c : Ch) (cs : List Ch) : gone b (c :: cs) = (if keeps b c = true then 0 else c.2.1.length) + gone b cs := by
  unfold gone
  cases h : keeps b c with
  | true => rw [List.filter_cons_of_neg (by simp [h]), if_pos rfl, Nat.zero_add]
  | false => rw [List.filter_cons_of_pos (by simp [h]), if_neg (by simp), List.map_cons, List.sum_cons]
theorem exI_cons (b : Int32) (c : Ch) (cs : List Ch) : exI b (c :: cs) = (if keeps b c = true then [(c, false)] else []) ++ exI b cs := by
  unfold exI kept
  cases h : keeps b c with
  | true => rw [List.filter_cons_of_pos h, if_pos rfl]; rfl
  | false => rw [List.filter_cons_of_neg (by simp [h]), if_neg (by simp)]; rfl
theorem gone_le (b : Int32) (m : Nat) : ∀ (cs : List Ch), (∀ c ∈ cs, c.2.1.length ≤ m) → gone b cs ≤ m * cs.length := by
  intro cs
  induction cs with
  | nil => intro _; exact Nat.le_refl 0
  | cons c cs ih =>
    intro h
    have h1 := h c List.mem_cons_self
    have h2 := ih (fun x hx => h x (List.mem_cons_of_mem _ hx))
    rw [gone_cons, List.length_cons, Nat.mul_add, Nat.mul_one]
    split <;> omega
theorem expire_loop {f : Nat → Int32} {e sd N m : Nat} {cs : List Ch} {hd : List Hd} (hD : DOk f e sd cs hd) (hm2 : m ≤ 64) (hW : ∀ c ∈ cs, chW N m c) {tk0 : Nat → Bool} {b : Int32} {made of ku kb kf kt kv : Int32} {kr : Int64} {kc : Nat → Int32} {o1 o2 o3 o4 o5 : Int32} {o6 : Int64} {ta : Nat → Int32} : ∀ (r a fu g : Nat) (its : List (Ch × Bool)) (tc la : Int32) (im pf : Nat → Int32), r + a = cs.length → r < fu → TX tk0 its [] (tc, made, of, la, ku, kb, kf, kt, kv, kr, kc, o1, o2, o3, o4, o5, o6, im, pf, ta) →
    ∃ (tc' la' : Int32) (im' pf' : Nat → Int32), lp_X9_expire_31 f b fu (nI g) (nI a) tc la im pf = some (nI (g + gone b (cs.drop a)), tc', la', im', pf') ∧ TX tk0 (its ++ exI b (cs.drop a)) [] (tc', made, of, la', ku, kb, kf, kt, kv, kr, kc, o1, o2, o3, o4, o5, o6, im', pf', ta) := by
  intro r
  have hl := hD.2.2.2.1
  induction r with
  | zero =>
    intro a fu g its tc la im pf ha hf h
    obtain ⟨n, rfl⟩ : ∃ n, fu = n + 1 := ⟨fu - 1, by omega⟩
    rw [lp_X9_expire_31, chunks_s hD, ob1_mk, if_pos (nI_le (by omega) (by omega)), List.drop_eq_nil_of_le (by omega)]
    exact ⟨_, _, _, _, rfl, by simpa [exI, kept] using h⟩
  | succ r ih =>
    intro a fu g its tc la im pf ha hf h
    obtain ⟨n, rfl⟩ : ∃ n, fu = n + 1 := ⟨fu - 1, by omega⟩
    have hlt : a < cs.length := by omega
    have e2 : m_X3_at f (nI a) (2 : Int32) = some (plst (cs.getD a ch0).2.1) := at_s hD hlt (j := 2) (by omega)
    have e3 : m_X3_at f (nI a) (3 : Int32) = some (nI (cs.getD a ch0).2.1.length) := at_s hD hlt (j := 3) (by omega)
    rw [lp_X9_expire_31, chunks_s hD, ob1_mk, if_neg (nI_ge hlt (by omega)), e2, ob1_mk, drop_cons ch0 hlt, gone_cons, exI_cons]
    cases hk : keeps b (cs.getD a ch0) with
    | true =>
      have hk' : b ≤ plst (cs.getD a ch0).2.1 := by unfold keeps at hk; exact of_decide_eq_true hk
      obtain ⟨tc1, la1, im1, pf1, e1, hT⟩ := keepX hD h hlt
      rw [if_pos hk', e1, ob4_mk, ob5_mk, nI_1, if_pos rfl, if_pos rfl, Nat.zero_add, ← List.append_assoc]
      exact ih (a + 1) n g _ _ _ _ _ (by omega) (by omega) hT
    | false =>
      have hk' : ¬ b ≤ plst (cs.getD a ch0).2.1 := by unfold keeps at hk; exact of_decide_eq_false hk
      rw [if_neg hk', e3, ob1_mk, ob5_mk, nI_1, nI_add, if_neg (by simp), if_neg (by simp), List.nil_append, ← Nat.add_assoc]
      exact ih (a + 1) n _ _ _ _ _ _ (by omega) (by omega) h
theorem expire_C {N m : Nat} {f : Nat → Int32} {e sd : Nat} {cs : List Ch} {hd : List Hd} (hD : DOk f e sd cs hd) (hS : SOk N m cs hd) (hm2 : m ≤ 64) (b wd wl : Int32) (tc made la ku kb kf : Int32) (kc : Nat → Int32) (o1 o2 o3 o4 o5 : Int32) (o6 : Int64) (im pf ta : Nat → Int32) (c1 c2 c3 : Int32) :
    ∃ (tc' made' la' ku' kb' kf' : Int32) (o1' o2' o3' o4' o5' : Int32) (o6' : Int64) (im' pf' ta' : Nat → Int32),
      m_X9_expire wd wl 0 f tc made la ku kb kf kc o1 o2 o3 o4 o5 o6 im pf ta c1 c2 c3 b = (if gone b cs = 0 then some (0, wd, wl, 0, f, tc', made', la', ku', kb', kf', o1', o2', o3', o4', o5', o6', im', pf', ta', 0, 0, 0) else
      some (cd (tR cs sd e (exI b cs) wd wl 0 f).1 (nI (gone b cs)), (tR cs sd e (exI b cs) wd wl 0 f).2.1, (tR cs sd e (exI b cs) wd wl 0 f).2.2.1, (tR cs sd e (exI b cs) wd wl 0 f).2.2.2.1, (tR cs sd e (exI b cs) wd wl 0 f).2.2.2.2, tc', made', la', ku', kb', kf', o1', o2', o3', o4', o5', o6', im', pf', ta', 0, 0, 0)) := by
  have hl := hD.2.2.2.1
  have hg := gone_le b m cs (fun c hc => (hS.1 c hc).2.2.1)
  have hg2 : gone b cs ≤ 64 * 96 := Nat.le_trans hg (Nat.mul_le_mul hm2 hl)
  obtain ⟨tk', e1, h1⟩ := begin_C hD hS.1 tc made la ku kb kf o1 o2 o3 o4 o5 o6 ta
  obtain ⟨tc2, la2, im2, pf2, e2, h2⟩ := expire_loop hD hm2 hS.1 (b := b) cs.length 0 NN 0 [] 0 0 im pf (by omega) (by unfold NN; omega) (TX_0 (of := 0) (kt := 0) (kv := 0) (kr := 0) (kc := kc) h1)
  rw [List.drop_zero, List.nil_append] at h2
  rw [List.drop_zero, Nat.zero_add] at e2
  have e2' : lp_X9_expire_31 f b NN (0 : Int32) (0 : Int32) 0 0 im pf = some (nI (gone b cs), tc2, la2, im2, pf2) := e2
  obtain ⟨im3, e3⟩ := turnDisk_R (e' := e) hD hS h2 wd wl 0 (nI (gone b cs))
  by_cases h0 : gone b cs = 0
  · refine ⟨tc2, 0, la2, 0, 0, 0, 0, 0, 0, 0, 0, 0, im2, pf2, tk', ?_⟩
    rw [m_X9_expire, m_X1_close, ob3_mk, m_X2_isDown, show ckz (0 : Int32) (some (0 : Int32)) = some 0 from rfl, ob1_mk, if_pos rfl, e1, ob13_mk, e2', ob5_mk, if_pos (by rw [h0]; rfl), if_pos h0]
  · refine ⟨tc2, 0, la2, 0, 0, 0, 0, 0, 0, 0, 0, 0, im3, pf2, tk', ?_⟩
    rw [m_X9_expire, m_X1_close, ob3_mk, m_X2_isDown, show ckz (0 : Int32) (some (0 : Int32)) = some 0 from rfl, ob1_mk, if_pos rfl, e1, ob13_mk, e2', ob5_mk, if_neg (nI_ne0 (by omega) (by omega)), epoch_s hD.1 hD.2.1 hD.2.2.1, ob1_mk, e3, ob6_mk, if_neg h0]
/-- the unpacker, k points of ps taken -/
def UOk (f : Nat → Int32) (pl : Nat) (ps : List Pt) (k : Nat) (br st t v : Int32) (r : Int64) : Prop :=
  (k = 0 ∧ br = nI 0 ∧ st = 0) ∨ (1 ≤ k ∧ st = 1 ∧ t = (ps.getD (k - 1) (0, 0)).1 ∧ v = (ps.getD (k - 1) (0, 0)).2 ∧ rOk r ∧ ∃ pos, br = nI pos ∧ pos ≤ 79 * k ∧ sat f (pl + 2) pos (encR r t v (ps.drop k)))
theorem step_U {f : Nat → Int32} {c : Ch} {N most : Nat} (hc : chOk f c) (hW : chW N most c) (hmo : most ≤ 64) {k : Nat} {br st t v : Int32} {r : Int64} (hk : k < c.2.1.length) (h : UOk f c.2.2 c.2.1 k br st t v r) :
    ∃ (br' : Int32) (r' : Int64), m_X8_step f (nI c.2.2) br st t v r = some (br', 1, (c.2.1.getD k (0, 0)).1, (c.2.1.getD k (0, 0)).2, r') ∧ UOk f c.2.2 c.2.1 (k + 1) br' 1 (c.2.1.getD k (0, 0)).1 (c.2.1.getD k (0, 0)).2 r' := by
  obtain ⟨w1, w2, w3, w4, w5⟩ := hW
  obtain ⟨c1, c2, c3⟩ := hc
  have hcl : clen c = 2 + ((encB c.2.1).length + 31) / 32 := rfl
  rcases h with ⟨rfl, rfl, rfl⟩ | ⟨h1, rfl, h3, h4, h5, pos, rfl, h7, h8⟩
  · rw [step_first (by omega)]
    have e1 : rdc f c.2.2 = (c.2.1.getD 0 (0, 0)).1 := by unfold rdc; rw [if_pos (by omega), c1]
    have e2 : rdc f (c.2.2 + 1) = (c.2.1.getD 0 (0, 0)).2 := by unfold rdc; rw [if_pos (by omega), c2]
    rw [e1, e2]
    refine ⟨_, _, rfl, Or.inr ⟨by omega, rfl, rfl, rfl, ⟨by decide, by decide⟩, 0, rfl, by omega, ?_⟩⟩
    have hs := hold_sat c3 (by omega)
    obtain ⟨q, l, e3⟩ := ps_ne w2
    rw [e3] at hs ⊢
    exact hs
  · have e3 : c.2.1.drop k = c.2.1.getD k (0, 0) :: c.2.1.drop (k + 1) := drop_cons (0, 0) hk
    rw [e3] at h8
    obtain ⟨pos', e4, p1, p2⟩ := step_more (by omega) (by omega) h5 h8
    rw [e4]
    exact ⟨_, _, rfl, Or.inr ⟨by omega, rfl, rfl, rfl, rOk_dif _ _, pos', rfl, by omega, p2⟩⟩
