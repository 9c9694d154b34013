/-! the class: compact -/
theorem make56 {f : Nat → Int32} {c : Ch} {N most : Nat} (hc : chOk f c) (hW : chW N most c) (hmo : most ≤ 64) {tk0 : Nat → Bool} {its : List (Ch × Bool)} {tc made la : Int32} {im pf ta : Nat → Int32} : ∀ (r k fu : Nat) (cur : List Pt) (br st t v : Int32) (rr : Int64) (of ku kb kf kt kv : Int32) (kr : Int64) (kc : Nat → Int32) (o1 o2 o3 o4 o5 : Int32) (o6 : Int64), r + k = c.2.1.length → r < fu → cur.length + r ≤ 64 → UOk f c.2.2 c.2.1 k br st t v rr → TX tk0 its cur (tc, made, of, la, ku, kb, kf, kt, kv, kr, kc, o1, o2, o3, o4, o5, o6, im, pf, ta) →
    ∃ (br' st' t' v' : Int32) (rr' : Int64) (of' ku' kb' kf' kt' kv' : Int32) (kr' : Int64) (kc' : Nat → Int32) (o1' o2' o3' o4' o5' : Int32) (o6' : Int64), lp_X9_makeOneOf_56 f (nI c.2.1.length) (nI c.2.2) fu (nI k) br st t v rr of ku kb kf kt kv kr kc o1 o2 o3 o4 o5 o6 = some (br', st', t', v', rr', of', ku', kb', kf', kt', kv', kr', kc', o1', o2', o3', o4', o5', o6') ∧ TX tk0 its (cur ++ c.2.1.drop k) (tc, made, of', la, ku', kb', kf', kt', kv', kr', kc', o1', o2', o3', o4', o5', o6', im, pf, ta) := by
  intro r
  have hl := hW.2.2.1
  induction r with
  | zero =>
    intro k fu cur br st t v rr of ku kb kf kt kv kr kc o1 o2 o3 o4 o5 o6 hk hf hcu hU h
    obtain ⟨n, rfl⟩ : ∃ n, fu = n + 1 := ⟨fu - 1, by omega⟩
    rw [lp_X9_makeOneOf_56, if_pos (nI_le (by omega) (by omega)), List.drop_eq_nil_of_le (by omega), List.append_nil]
    exact ⟨_, _, _, _, _, _, _, _, _, _, _, _, _, _, _, _, _, _, _, rfl, h⟩
  | succ r ih =>
    intro k fu cur br st t v rr of ku kb kf kt kv kr kc o1 o2 o3 o4 o5 o6 hk hf hcu hU h
    obtain ⟨n, rfl⟩ : ∃ n, fu = n + 1 := ⟨fu - 1, by omega⟩
    have hlt : k < c.2.1.length := by omega
    obtain ⟨br', rr', e1, hU'⟩ := step_U hc hW hmo hlt hU
    obtain ⟨of', ku', kb', kf', kt', kv', kr', kc', p1, p2, p3, p4, p5, p6, e2, hX⟩ := packX (by omega) h (c.2.1.getD k (0, 0))
    rw [lp_X9_makeOneOf_56, if_neg (nI_ge hlt (by omega)), e1, ob5_mk, e2, ob14_mk, nI_1]
    obtain ⟨a1, a2, a3, a4, a5, a6, a7, a8, a9, a10, a11, a12, a13, a14, a15, a16, a17, a18, a19, e3, hY⟩ := ih (k + 1) n _ _ _ _ _ _ _ _ _ _ _ _ _ _ _ _ _ _ _ _ (by omega) (by omega) (by simp; omega) hU' hX
    refine ⟨a1, a2, a3, a4, a5, a6, a7, a8, a9, a10, a11, a12, a13, a14, a15, a16, a17, a18, a19, e3, ?_⟩
    rw [drop_cons (0, 0) hlt]
    rw [List.append_assoc] at hY
    exact hY
def fpts (l : List Ch) : List Pt := l.flatMap (fun c => c.2.1)
theorem make17 {f : Nat → Int32} {e sd N most : Nat} {cs : List Ch} {hd : List Hd} (hD : DOk f e sd cs hd) (hW : ∀ c ∈ cs, chW N most c) (hmo : most ≤ 64) {b : Nat} (hb : b ≤ cs.length) {tk0 : Nat → Bool} {its : List (Ch × Bool)} {tc made la : Int32} {im pf ta : Nat → Int32} : ∀ (r a fu : Nat) (cur : List Pt) (up br st t v : Int32) (rr : Int64) (of ku kb kf kt kv : Int32) (kr : Int64) (kc : Nat → Int32) (o1 o2 o3 o4 o5 : Int32) (o6 : Int64), r + a = b → r < fu → cur.length + (fpts ((cs.drop a).take r)).length ≤ 64 → TX tk0 its cur (tc, made, of, la, ku, kb, kf, kt, kv, kr, kc, o1, o2, o3, o4, o5, o6, im, pf, ta) →
    ∃ (up' br' st' t' v' : Int32) (rr' : Int64) (of' ku' kb' kf' kt' kv' : Int32) (kr' : Int64) (kc' : Nat → Int32) (o1' o2' o3' o4' o5' : Int32) (o6' : Int64), lp_X9_makeOneOf_17 f (nI b) fu (nI a) up br st t v rr of ku kb kf kt kv kr kc o1 o2 o3 o4 o5 o6 = some (up', br', st', t', v', rr', of', ku', kb', kf', kt', kv', kr', kc', o1', o2', o3', o4', o5', o6') ∧ TX tk0 its (cur ++ fpts ((cs.drop a).take r)) (tc, made, of', la, ku', kb', kf', kt', kv', kr', kc', o1', o2', o3', o4', o5', o6', im, pf, ta) := by
  intro r
  have hl := hD.2.2.2.1
  induction r with
  | zero =>
    intro a fu cur up br st t v rr of ku kb kf kt kv kr kc o1 o2 o3 o4 o5 o6 ha hf hcu h
    obtain ⟨n, rfl⟩ : ∃ n, fu = n + 1 := ⟨fu - 1, by omega⟩
    rw [lp_X9_makeOneOf_17, if_pos (nI_le (by omega) (by omega))]
    exact ⟨_, _, _, _, _, _, _, _, _, _, _, _, _, _, _, _, _, _, _, _, rfl, by simpa [fpts] using h⟩
  | succ r ih =>
    intro a fu cur up br st t v rr of ku kb kf kt kv kr kc o1 o2 o3 o4 o5 o6 ha hf hcu h
    obtain ⟨n, rfl⟩ : ∃ n, fu = n + 1 := ⟨fu - 1, by omega⟩
    have hlt : a < cs.length := by omega
    have hm := gd_mem ch0 hlt
    have hw := hW _ hm
    have e3 : m_X3_at f (nI a) (3 : Int32) = some (nI (cs.getD a ch0).2.1.length) := at_s hD hlt (j := 3) (by omega)
    have e8 : m_X3_at f (nI a) (8 : Int32) = some (nI (cs.getD a ch0).2.2) := at_s hD hlt (j := 8) (by omega)
    have es : fpts ((cs.drop a).take (r + 1)) = (cs.getD a ch0).2.1 ++ fpts ((cs.drop (a + 1)).take r) := by
      rw [drop_cons ch0 hlt, List.take_succ_cons]
      unfold fpts
      rw [List.flatMap_cons]
    rw [es, List.length_append] at hcu
    have hlen := hw.2.2.1
    obtain ⟨a1, a2, a3, a4, a5, a6, a7, a8, a9, a10, a11, a12, a13, a14, a15, a16, a17, a18, a19, e4, hX⟩ := make56 (hD.2.2.2.2.2.1 _ hm) hw hmo (cs.getD a ch0).2.1.length 0 NN cur (nI 0) 0 t v rr of ku kb kf kt kv kr kc o1 o2 o3 o4 o5 o6 (by omega) (by unfold NN; omega) (by omega) (Or.inl ⟨rfl, rfl, rfl⟩) h
    rw [lp_X9_makeOneOf_17, if_neg (nI_ge (by omega) (by omega)), e3, ob1_mk, e8, ob1_mk, m_X8_open, ob3_mk]
    have e4' : lp_X9_makeOneOf_56 f (nI (cs.getD a ch0).2.1.length) (nI (cs.getD a ch0).2.2) NN (0 : Int32) (0 : Int32) (0 : Int32) t v rr of ku kb kf kt kv kr kc o1 o2 o3 o4 o5 o6 = some (a1, a2, a3, a4, a5, a6, a7, a8, a9, a10, a11, a12, a13, a14, a15, a16, a17, a18, a19) := e4
    rw [e4', ob19_mk, nI_1]
    rw [List.drop_zero] at hX
    obtain ⟨b1, b2, b3, b4, b5, b6, b7, b8, b9, b10, b11, b12, b13, b14, b15, b16, b17, b18, b19, b20, e5, hY⟩ := ih (a + 1) n _ (nI (cs.getD a ch0).2.2) _ _ _ _ _ _ _ _ _ _ _ _ _ _ _ _ _ _ _ (by omega) (by omega) (by rw [List.length_append]; omega) hX
    refine ⟨b1, b2, b3, b4, b5, b6, b7, b8, b9, b10, b11, b12, b13, b14, b15, b16, b17, b18, b19, b20, e5, ?_⟩
    rw [es, ← List.append_assoc]
    exact hY
/-- some neighbours made one -/
def jn (s : Nat) (g : List Ch) : List (Ch × Bool) := if 1 < g.length then [mkN s (fpts g)] else kept g
theorem fpts_ne {N most : Nat} {l : List Ch} (hW : ∀ c ∈ l, chW N most c) (h : 1 ≤ l.length) : fpts l ≠ [] := by
  cases l with
  | nil => simp at h
  | cons c l =>
    have h1 := (hW c List.mem_cons_self).2.1
    unfold fpts
    rw [List.flatMap_cons]
    intro q
    rw [(List.append_eq_nil_iff.mp q).1] at h1
    exact absurd h1 (by simp)
theorem makeOne_C {f : Nat → Int32} {e sd N most : Nat} {cs : List Ch} {hd : List Hd} (hD : DOk f e sd cs hd) (hW : ∀ c ∈ cs, chW N most c) (hmo : most ≤ 64) {a b : Nat} (hab : a ≤ b) (hb : b ≤ cs.length) {tk0 : Nat → Bool} {its : List (Ch × Bool)} {tc made of la ku kb kf kt kv : Int32} {kr : Int64} {kc : Nat → Int32} {o1 o2 o3 o4 o5 : Int32} {o6 : Int64} {im pf ta : Nat → Int32} (hcu : (fpts ((cs.drop a).take (b - a))).length ≤ 64) (h : TX tk0 its [] (tc, made, of, la, ku, kb, kf, kt, kv, kr, kc, o1, o2, o3, o4, o5, o6, im, pf, ta)) (up br st t v : Int32) (rr : Int64) (s : Nat) :
    ∃ (up' br' st' t' v' : Int32) (rr' : Int64) (tc' made' of' la' ku' kb' kf' kt' kv' : Int32) (kr' : Int64) (kc' : Nat → Int32) (o1' o2' o3' o4' o5' : Int32) (o6' : Int64) (im' pf' ta' : Nat → Int32), m_X9_makeOneOf f up br st t v rr tc made of la ku kb kf kt kv kr kc o1 o2 o3 o4 o5 o6 im pf ta (nI s) (nI a) (nI b) = some (up', br', st', t', v', rr', tc', made', of', la', ku', kb', kf', kt', kv', kr', kc', o1', o2', o3', o4', o5', o6', im', pf', ta') ∧ TX tk0 (its ++ jn s ((cs.drop a).take (b - a))) [] (tc', made', of', la', ku', kb', kf', kt', kv', kr', kc', o1', o2', o3', o4', o5', o6', im', pf', ta') := by
  have hl := hD.2.2.2.1
  have hlen : ((cs.drop a).take (b - a)).length = b - a := by rw [List.length_take, List.length_drop]; omega
  rw [m_X9_makeOneOf, pk_sub hab]
  unfold jn
  rw [hlen]
  by_cases h1 : 1 < b - a
  · obtain ⟨b1, b2, b3, b4, b5, b6, b7, b8, b9, b10, b11, b12, b13, b14, b15, b16, b17, b18, b19, b20, e5, hY⟩ := make17 hD hW hmo hb (b - a) a NN [] up br st t v rr of ku kb kf kt kv kr kc o1 o2 o3 o4 o5 o6 (by omega) (by unfold NN; omega) (by simpa using hcu) h
    rw [List.nil_append] at hY
    obtain ⟨tc', made', la', p1, p2, p3, p4, p5, p6, im', pf', ta', e6, hX⟩ := sealX hcu hY s
    rw [if_pos (show (1 : Int32) < nI (b - a) from nI_lt (a := 1) h1 (by omega)), e5, ob20_mk, e6, ob12_mk, if_pos h1]
    rw [if_neg (fpts_ne (N := N) (most := most) (fun c hc => hW c (List.mem_of_mem_drop (List.mem_of_mem_take hc))) (by omega))] at hX
    exact ⟨_, _, _, _, _, _, _, _, _, _, _, _, _, _, _, _, _, _, _, _, _, _, _, _, _, _, rfl, hX⟩
  · obtain ⟨tc', la', im', pf', e1, hT⟩ := keepEntries_C hD hab hb h
    rw [if_neg (show ¬ (1 : Int32) < nI (b - a) from nI_nlt (a := 1) (b := b - a) (by omega) (by omega)), e1, ob4_mk, if_neg h1]
    exact ⟨_, _, _, _, _, _, _, _, _, _, _, _, _, _, _, _, _, _, _, _, _, _, _, _, _, _, rfl, hT⟩
