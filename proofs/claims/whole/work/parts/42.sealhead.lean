/-! the class: a series' head becomes chunks -/
abbrev T20 : Type := Int32 × Int32 × Int32 × Int32 × Int32 × Int32 × Int32 × Int32 × Int32 × Int64 × (Nat → Int32) × Int32 × Int32 × Int32 × Int32 × Int32 × Int64 × (Nat → Int32) × (Nat → Int32) × (Nat → Int32)
def nNew (its : List (Ch × Bool)) : Nat := (its.filter (fun q => q.2)).length
theorem nNew_t (its : List (Ch × Bool)) (c : Ch) : nNew (its ++ [(c, true)]) = nNew its + 1 := by
  unfold nNew
  rw [List.filter_append, List.filter_cons_of_pos (by rfl)]
  simp
theorem nNew_f (its : List (Ch × Bool)) (c : Ch) : nNew (its ++ [(c, false)]) = nNew its := by
  unfold nNew
  rw [List.filter_append, List.filter_cons_of_neg (by simp)]
  simp
/-- between two chunks, or amid one with the points cur -/
def TX (tk0 : Nat → Bool) (its : List (Ch × Bool)) (cur : List Pt) (x : T20) : Prop := match x with
  | (tc, made, of, la, ku, kb, kf, kt, kv, kr, kc, o1, o2, o3, o4, o5, o6, im, pf, ta) => made = nI (nNew its) ∧ o3 = nI cur.length ∧ ((cur = [] ∧ TC tk0 its tc la ku kf im pf ta kc ∧ o6 = 0) ∨ (cur ≠ [] ∧ TO tk0 its cur tc of la ku kb kf im pf ta kc ∧ kt = (kst cur).2.1 ∧ kv = (kst cur).2.2 ∧ kr = (kst cur).1 ∧ o1 = pfst cur ∧ o2 = plst cur ∧ o4 = pmin cur ∧ o5 = pmax cur ∧ o6 = psum cur))
def mkN (s : Nat) (ps : List Pt) : Ch × Bool := ((s, ps, 0), true)
def toCh (m : Nat) : List Pt → List Pt → List (List Pt)
  | cur, [] => if cur = [] then [] else [cur]
  | cur, q :: r => if cur.length = m then cur :: toCh m [q] r else toCh m (cur ++ [q]) r
theorem ne_len {cur : List Pt} (h : cur ≠ []) : 1 ≤ cur.length := by
  cases cur with
  | nil => exact absurd rfl h
  | cons a l => simp
theorem packX {tk0 : Nat → Bool} {its : List (Ch × Bool)} {cur : List Pt} (hcur : cur.length < 64) {tc made of la ku kb kf kt kv : Int32} {kr : Int64} {kc : Nat → Int32} {o1 o2 o3 o4 o5 : Int32} {o6 : Int64} {im pf ta : Nat → Int32} (h : TX tk0 its cur (tc, made, of, la, ku, kb, kf, kt, kv, kr, kc, o1, o2, o3, o4, o5, o6, im, pf, ta)) (q : Pt) :
    ∃ (of' ku' kb' kf' kt' kv' : Int32) (kr' : Int64) (kc' : Nat → Int32) (o1' o2' o3' o4' o5' : Int32) (o6' : Int64), m_X7_pack of ku kb kf kt kv kr kc o1 o2 o3 o4 o5 o6 q.1 q.2 = some (of', ku', kb', kf', kt', kv', kr', kc', o1', o2', o3', o4', o5', o6') ∧ TX tk0 its (cur ++ [q]) (tc, made, of', la, ku', kb', kf', kt', kv', kr', kc', o1', o2', o3', o4', o5', o6', im, pf, ta) := by
  obtain ⟨h1, h2, h3⟩ := h
  rcases h3 with ⟨rfl, h4, rfl⟩ | ⟨hne, h4, rfl, rfl, rfl, rfl, rfl, rfl, rfl, rfl⟩
  · subst h2
    obtain ⟨of', ku', kf', kc', e, hT⟩ := pack1_C h4 of kb kt kv o1 o2 o4 o5 kr q
    refine ⟨_, _, _, _, _, _, _, _, _, _, _, _, _, _, e, h1, rfl, Or.inr ⟨by simp, hT, rfl, rfl, rfl, rfl, rfl, rfl, rfl, rfl⟩⟩
  · subst h2
    obtain ⟨ku', kb', kf', kc', e, hT⟩ := pack2_C h4 (ne_len hne) hcur q
    exact ⟨_, _, _, _, _, _, _, _, _, _, _, _, _, _, e, h1, rfl, Or.inr ⟨by simp, hT, rfl, rfl, rfl, rfl, rfl, rfl, rfl, rfl⟩⟩
theorem sealX {tk0 : Nat → Bool} {its : List (Ch × Bool)} {cur : List Pt} (hcur : cur.length ≤ 64) {tc made of la ku kb kf kt kv : Int32} {kr : Int64} {kc : Nat → Int32} {o1 o2 o3 o4 o5 : Int32} {o6 : Int64} {im pf ta : Nat → Int32} (h : TX tk0 its cur (tc, made, of, la, ku, kb, kf, kt, kv, kr, kc, o1, o2, o3, o4, o5, o6, im, pf, ta)) (s : Nat) :
    ∃ (tc' made' la' o1' o2' o3' o4' o5' : Int32) (o6' : Int64) (im' pf' ta' : Nat → Int32), m_X7_seal tc made of la ku kf o1 o2 o3 o4 o5 o6 im pf ta (nI s) = some (tc', made', la', o1', o2', o3', o4', o5', o6', im', pf', ta') ∧ TX tk0 (its ++ (if cur = [] then [] else [mkN s cur])) [] (tc', made', of, la', ku, kb, kf, kt, kv, kr, kc, o1', o2', o3', o4', o5', o6', im', pf', ta') := by
  obtain ⟨h1, h2, h3⟩ := h
  rcases h3 with ⟨rfl, h4, rfl⟩ | ⟨hne, h4, rfl, rfl, rfl, rfl, rfl, rfl, rfl, rfl⟩
  · subst h2
    rw [m_X7_seal, if_pos (show nI ([] : List Pt).length = (0 : Int32) from rfl), if_pos rfl, List.append_nil]
    exact ⟨_, _, _, _, _, _, _, _, _, _, _, _, rfl, h1, rfl, Or.inl ⟨rfl, h4, rfl⟩⟩
  · subst h2
    obtain ⟨tc', la', im', pf', ta', e, hT⟩ := seal_C h4 (ne_len hne) hcur s made
    rw [if_neg hne]
    refine ⟨_, _, _, _, _, _, _, _, _, _, _, _, e, ?_, rfl, Or.inl ⟨rfl, hT, rfl⟩⟩
    rw [h1, nI_1]
    unfold mkN
    rw [nNew_t]
theorem sealHead_loop {f : Nat → Int32} {e : Nat} {hd : List Hd} (hlg : lgOk f e hd) {N m s : Nat} (hN : N < 900) (hh : ∀ x ∈ hd, x.1 < N) (hs : s < 900) (hm1 : 2 ≤ m) (hm2 : m ≤ 64) {tk0 : Nat → Bool} : ∀ (r k fu : Nat) (its : List (Ch × Bool)) (cur : List Pt) (tc made of la ku kb kf kt kv : Int32) (kr : Int64) (kc : Nat → Int32) (o1 o2 o3 o4 o5 : Int32) (o6 : Int64) (im pf ta : Nat → Int32), r + k = hd.length → r < fu → cur.length ≤ m → TX tk0 its cur (tc, made, of, la, ku, kb, kf, kt, kv, kr, kc, o1, o2, o3, o4, o5, o6, im, pf, ta) →
    ∃ (y : T20) (its2 : List (Ch × Bool)) (cur2 : List Pt), lp_X9_sealHead_2 (nI m) f (nI hd.length) (nI s) fu (nI k) tc made of la ku kb kf kt kv kr kc o1 o2 o3 o4 o5 o6 im pf ta = some y ∧ TX tk0 its2 cur2 y ∧ cur2.length ≤ m ∧ its2 ++ (toCh m cur2 []).map (mkN s) = its ++ (toCh m cur (hdOf s (hd.drop k))).map (mkN s) := by
  intro r
  have hl := hlg.1
  induction r with
  | zero =>
    intro k fu its cur tc made of la ku kb kf kt kv kr kc o1 o2 o3 o4 o5 o6 im pf ta hk hf hc h
    obtain ⟨n, rfl⟩ : ∃ n, fu = n + 1 := ⟨fu - 1, by omega⟩
    rw [lp_X9_sealHead_2, m_X4_logged, ob1_mk, if_pos (nI_le (by omega) (by omega)), List.drop_eq_nil_of_le (by omega)]
    exact ⟨_, its, cur, rfl, h, hc, rfl⟩
  | succ r ih =>
    intro k fu its cur tc made of la ku kb kf kt kv kr kc o1 o2 o3 o4 o5 o6 im pf ta hk hf hc h
    obtain ⟨n, rfl⟩ : ∃ n, fu = n + 1 := ⟨fu - 1, by omega⟩
    have hlt : k < hd.length := by omega
    have hser := hh _ (gd_mem hd0 hlt)
    rw [lp_X9_sealHead_2, m_X4_logged, ob1_mk, if_neg (nI_ge hlt (by omega)), show (0 : Int32) = nI 0 from rfl, logat_s hlg hlt (by omega), ob1_mk]
    show ∃ y its2 cur2, ob20 (if nI (hd.getD k hd0).1 = nI s then _ else _) _ = _ ∧ _
    rw [drop_cons hd0 hlt, show hd.getD k hd0 :: hd.drop (k + 1) = [hd.getD k hd0] ++ hd.drop (k + 1) from rfl, hdOf_app, hdOf_one]
    by_cases hss : (hd.getD k hd0).1 = s
    · rw [if_pos (by rw [hss]), if_pos hss, m_X7_pointsOpen, ob1_mk]
      have ho3 : o3 = nI cur.length := h.2.1
      have h1 : m_X4_at f (nI k) (1 : Int32) = some (hd.getD k hd0).2.1 := logat_s hlg hlt (j := 1) (by omega)
      have h2 : m_X4_at f (nI k) (2 : Int32) = some (hd.getD k hd0).2.2 := logat_s hlg hlt (j := 2) (by omega)
      by_cases hfull : cur.length = m
      · obtain ⟨tc', made', la', p1, p2, p3, p4, p5, p6, im', pf', ta', e1, hX⟩ := sealX (by omega) h s
        rw [if_pos (by rw [ho3, hfull]), e1, ob12_mk, ob12_mk, h1, ob1_mk, h2, ob1_mk]
        have hne : cur ≠ [] := by intro q; rw [q] at hfull; simp at hfull; omega
        rw [if_neg hne] at hX
        obtain ⟨of', ku', kb', kf', kt', kv', kr', kc', w1, w2, w3, w4, w5, w6, e2, hY⟩ := packX (by simp) hX (hd.getD k hd0).2
        rw [e2, ob14_mk, ob20_mk, nI_1]
        obtain ⟨y, its2, cur2, e3, g1, g2, g3⟩ := ih (k + 1) n _ _ _ _ _ _ _ _ _ _ _ _ _ _ _ _ _ _ _ _ _ _ (by omega) (by omega) (by simp; omega) hY
        refine ⟨y, its2, cur2, e3, g1, g2, ?_⟩
        rw [g3, List.nil_append]
        show its ++ [mkN s cur] ++ (toCh m [(hd.getD k hd0).2] (hdOf s (hd.drop (k + 1)))).map (mkN s) = its ++ (toCh m cur ((hd.getD k hd0).2 :: hdOf s (hd.drop (k + 1)))).map (mkN s)
        have e4 : toCh m cur ((hd.getD k hd0).2 :: hdOf s (hd.drop (k + 1))) = cur :: toCh m [(hd.getD k hd0).2] (hdOf s (hd.drop (k + 1))) := by
          show (if cur.length = m then _ else _) = _
          rw [if_pos hfull]
        rw [e4, List.map_cons]
        simp
      · rw [if_neg (fun q => hfull (by rw [ho3] at q; exact (nI_eq (by omega) (by omega)).mp q)), ob12_mk, h1, ob1_mk, h2, ob1_mk]
        obtain ⟨of', ku', kb', kf', kt', kv', kr', kc', w1, w2, w3, w4, w5, w6, e2, hY⟩ := packX (by omega) h (hd.getD k hd0).2
        rw [e2, ob14_mk, ob20_mk, nI_1]
        obtain ⟨y, its2, cur2, e3, g1, g2, g3⟩ := ih (k + 1) n _ _ _ _ _ _ _ _ _ _ _ _ _ _ _ _ _ _ _ _ _ _ (by omega) (by omega) (by simp; omega) hY
        refine ⟨y, its2, cur2, e3, g1, g2, ?_⟩
        rw [g3]
        have e4 : toCh m cur ((hd.getD k hd0).2 :: hdOf s (hd.drop (k + 1))) = toCh m (cur ++ [(hd.getD k hd0).2]) (hdOf s (hd.drop (k + 1))) := by
          show (if cur.length = m then _ else _) = _
          rw [if_neg hfull]
        show _ = its ++ (toCh m cur ((hd.getD k hd0).2 :: hdOf s (hd.drop (k + 1)))).map (mkN s)
        rw [e4]
    · rw [if_neg (fun q => hss ((nI_eq (by omega) (by omega)).mp q)), if_neg hss, List.nil_append, ob20_mk, nI_1]
      exact ih (k + 1) n _ _ _ _ _ _ _ _ _ _ _ _ _ _ _ _ _ _ _ _ _ _ (by omega) (by omega) hc h
theorem sealHead_C {f : Nat → Int32} {e : Nat} {hd : List Hd} (hlg : lgOk f e hd) {N m s : Nat} (hN : N < 900) (hh : ∀ x ∈ hd, x.1 < N) (hs : s < 900) (hm1 : 2 ≤ m) (hm2 : m ≤ 64) {tk0 : Nat → Bool} {its : List (Ch × Bool)} {tc made of la ku kb kf kt kv : Int32} {kr : Int64} {kc : Nat → Int32} {o1 o2 o3 o4 o5 : Int32} {o6 : Int64} {im pf ta : Nat → Int32} (h : TX tk0 its [] (tc, made, of, la, ku, kb, kf, kt, kv, kr, kc, o1, o2, o3, o4, o5, o6, im, pf, ta)) :
    ∃ y : T20, m_X9_sealHead (nI m) f (nI hd.length) tc made of la ku kb kf kt kv kr kc o1 o2 o3 o4 o5 o6 im pf ta (nI s) = some y ∧ TX tk0 (its ++ (toCh m [] (hdOf s hd)).map (mkN s)) [] y := by
  obtain ⟨y, its2, cur2, e1, g1, g2, g3⟩ := sealHead_loop hlg hN hh hs hm1 hm2 (tk0 := tk0) hd.length 0 NN its [] tc made of la ku kb kf kt kv kr kc o1 o2 o3 o4 o5 o6 im pf ta (by omega) (by have := hlg.1; unfold NN; omega) (by simp) h
  have e1' : lp_X9_sealHead_2 (nI m) f (nI hd.length) (nI s) NN (0 : Int32) tc made of la ku kb kf kt kv kr kc o1 o2 o3 o4 o5 o6 im pf ta = some y := e1
  rw [m_X9_sealHead, e1']
  obtain ⟨tc2, made2, of2, la2, ku2, kb2, kf2, kt2, kv2, kr2, kc2, a1, a2, a3, a4, a5, a6, im2, pf2, ta2⟩ := y
  obtain ⟨tc', made', la', p1, p2, p3, p4, p5, p6, im', pf', ta', e2, hX⟩ := sealX (by omega) g1 s
  rw [ob20_mk, e2, ob12_mk]
  refine ⟨_, rfl, ?_⟩
  rw [List.drop_zero] at g3
  rw [← g3]
  have e3 : (toCh m cur2 []).map (mkN s) = if cur2 = [] then [] else [mkN s cur2] := by
    show ((if cur2 = [] then [] else [cur2]) : List (List Pt)).map (mkN s) = _
    split <;> rfl
  rw [e3]
  exact hX
