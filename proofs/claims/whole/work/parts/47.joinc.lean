/-! the class: joinEntries, compact -/
def grp (m : Nat) : List Ch → List Ch → List (List Ch)
  | cur, [] => [cur]
  | cur, c :: r => if (fpts cur).length + c.2.1.length ≤ m then grp m (cur ++ [c]) r else cur :: grp m [c] r
def jI (m s : Nat) (l : List Ch) : List (Ch × Bool) := (grp m [] l).flatMap (jn s)
def sg (cs : List Ch) (a b : Nat) : List Ch := (cs.drop a).take (b - a)
theorem sg_snoc {cs : List Ch} {a k : Nat} (h : a ≤ k) (hk : k < cs.length) : sg cs a (k + 1) = sg cs a k ++ [cs.getD k ch0] := by
  unfold sg
  rw [show k + 1 - a = (k - a) + 1 by omega, take_s1 ch0 (by rw [List.length_drop]; omega)]
  congr 2
  simp only [List.getD_eq_getElem?_getD, List.getElem?_drop]
  rw [show a + (k - a) = k by omega]
theorem sg_cons {cs : List Ch} {k b : Nat} (h : k < b) (hk : k < cs.length) : sg cs k b = cs.getD k ch0 :: sg cs (k + 1) b := by
  unfold sg
  rw [drop_cons ch0 hk, show b - k = (b - (k + 1)) + 1 by omega, List.take_succ_cons]
theorem sg_nil (cs : List Ch) (a : Nat) : sg cs a a = [] := by
  unfold sg
  rw [Nat.sub_self, List.take_zero]
theorem fpts_snoc (l : List Ch) (c : Ch) : fpts (l ++ [c]) = fpts l ++ c.2.1 := by
  unfold fpts
  rw [List.flatMap_append]
  simp
theorem fpts_one (c : Ch) : fpts [c] = c.2.1 := by unfold fpts; simp
theorem join_loop {f : Nat → Int32} {e sd N m : Nat} {cs : List Ch} {hd : List Hd} (hD : DOk f e sd cs hd) (hW : ∀ c ∈ cs, chW N m c) (hmo : m ≤ 64) {b : Nat} (hb : b ≤ cs.length) {tk0 : Nat → Bool} (s : Nat) : ∀ (r a k fu : Nat) (its : List (Ch × Bool)) (up br st t v : Int32) (rr : Int64) (tc made of la ku kb kf kt kv : Int32) (kr : Int64) (kc : Nat → Int32) (o1 o2 o3 o4 o5 : Int32) (o6 : Int64) (im pf ta : Nat → Int32), r + k = b → r < fu → a ≤ k → (fpts (sg cs a k)).length ≤ m → TX tk0 its [] (tc, made, of, la, ku, kb, kf, kt, kv, kr, kc, o1, o2, o3, o4, o5, o6, im, pf, ta) →
    ∃ (a' : Nat) (its' : List (Ch × Bool)) (up' br' st' t' v' : Int32) (rr' : Int64) (tc' made' of' la' ku' kb' kf' kt' kv' : Int32) (kr' : Int64) (kc' : Nat → Int32) (o1' o2' o3' o4' o5' : Int32) (o6' : Int64) (im' pf' ta' : Nat → Int32), lp_X9_joinEntries_9 (nI m) f (nI s) (nI b) fu (nI a) (nI (fpts (sg cs a k)).length) (nI k) up br st t v rr tc made of la ku kb kf kt kv kr kc o1 o2 o3 o4 o5 o6 im pf ta = some (nI a', up', br', st', t', v', rr', tc', made', of', la', ku', kb', kf', kt', kv', kr', kc', o1', o2', o3', o4', o5', o6', im', pf', ta') ∧ a' ≤ b ∧ (fpts (sg cs a' b)).length ≤ m ∧ TX tk0 its' [] (tc', made', of', la', ku', kb', kf', kt', kv', kr', kc', o1', o2', o3', o4', o5', o6', im', pf', ta') ∧ its' ++ jn s (sg cs a' b) = its ++ (grp m (sg cs a k) (sg cs k b)).flatMap (jn s) := by
  intro r
  have hl := hD.2.2.2.1
  induction r with
  | zero =>
    intro a k fu its up br st t v rr tc made of la ku kb kf kt kv kr kc o1 o2 o3 o4 o5 o6 im pf ta hk hf hak hcu h
    obtain ⟨n, rfl⟩ : ∃ n, fu = n + 1 := ⟨fu - 1, by omega⟩
    have : k = b := by omega
    subst this
    rw [lp_X9_joinEntries_9, if_pos (nI_le (by omega) (by omega))]
    refine ⟨a, its, _, _, _, _, _, _, _, _, _, _, _, _, _, _, _, _, _, _, _, _, _, _, _, _, _, _, rfl, hak, hcu, h, ?_⟩
    rw [sg_nil]
    simp [grp]
  | succ r ih =>
    intro a k fu its up br st t v rr tc made of la ku kb kf kt kv kr kc o1 o2 o3 o4 o5 o6 im pf ta hk hf hak hcu h
    obtain ⟨n, rfl⟩ : ∃ n, fu = n + 1 := ⟨fu - 1, by omega⟩
    have hlt : k < cs.length := by omega
    have hw := hW _ (gd_mem ch0 hlt)
    have e3 : m_X3_at f (nI k) (3 : Int32) = some (nI (cs.getD k ch0).2.1.length) := at_s hD hlt (j := 3) (by omega)
    have hlen := hw.2.2.1
    rw [lp_X9_joinEntries_9, if_neg (nI_ge (by omega) (by omega)), e3, ob1_mk, nI_add, sg_cons (show k < b by omega) hlt]
    by_cases hc : (fpts (sg cs a k)).length + (cs.getD k ch0).2.1.length ≤ m
    · have hs1 : (fpts (sg cs a (k + 1))).length = (fpts (sg cs a k)).length + (cs.getD k ch0).2.1.length := by rw [sg_snoc hak hlt, fpts_snoc, List.length_append]
      rw [if_pos (nI_le hc (by omega)), ob28_mk, nI_1, nI_add, ← hs1]
      have hg : grp m (sg cs a k) (cs.getD k ch0 :: sg cs (k + 1) b) = grp m (sg cs a (k + 1)) (sg cs (k + 1) b) := by
        rw [sg_snoc hak hlt]
        show (if _ then _ else _) = _
        rw [if_pos hc]
      rw [hg]
      exact ih a (k + 1) n _ _ _ _ _ _ _ _ _ _ _ _ _ _ _ _ _ _ _ _ _ _ _ _ _ _ _ (by omega) (by omega) (by omega) (by omega) h
    · obtain ⟨u1, u2, u3, u4, u5, u6, b1, b2, b3, b4, b5, b6, b7, b8, b9, b10, b11, b12, b13, b14, b15, b16, b17, b18, b19, b20, e4, hY⟩ := makeOne_C hD hW hmo hak (by omega) (show (fpts (sg cs a k)).length ≤ 64 by omega) h up br st t v rr s
      have hs1 : (fpts (sg cs k (k + 1))).length = (cs.getD k ch0).2.1.length := by rw [sg_snoc (Nat.le_refl k) hlt, sg_nil, List.nil_append, fpts_one]
      rw [if_neg (nI_ge (by omega) (by omega)), e4, ob26_mk, ob28_mk, nI_1, show (0 : Int32) = nI 0 from rfl, nI_add, Nat.zero_add, ← hs1]
      have hg : grp m (sg cs a k) (cs.getD k ch0 :: sg cs (k + 1) b) = sg cs a k :: grp m (sg cs k (k + 1)) (sg cs (k + 1) b) := by
        rw [sg_snoc (Nat.le_refl k) hlt, sg_nil, List.nil_append]
        show (if _ then _ else _) = _
        rw [if_neg hc]
      obtain ⟨a', its', v1, v2, v3, v4, v5, v6, c1, c2, c3, c4, c5, c6, c7, c8, c9, c10, c11, c12, c13, c14, c15, c16, c17, c18, c19, c20, e5, g1, g2, g3, g4⟩ := ih k (k + 1) n _ u1 u2 u3 u4 u5 u6 _ _ _ _ _ _ _ _ _ _ _ _ _ _ _ _ _ _ _ _ (by omega) (by omega) (by omega) (by omega) hY
      refine ⟨a', its', v1, v2, v3, v4, v5, v6, c1, c2, c3, c4, c5, c6, c7, c8, c9, c10, c11, c12, c13, c14, c15, c16, c17, c18, c19, c20, e5, g1, g2, g3, ?_⟩
      rw [g4, hg, List.flatMap_cons, List.append_assoc]
      rfl
theorem join_C {f : Nat → Int32} {e sd N m : Nat} {cs : List Ch} {hd : List Hd} (hD : DOk f e sd cs hd) (hW : ∀ c ∈ cs, chW N m c) (hmo : m ≤ 64) {a b : Nat} (hab : a ≤ b) (hb : b ≤ cs.length) {tk0 : Nat → Bool} (s : Nat) {its : List (Ch × Bool)} (up br st t v : Int32) (rr : Int64) {tc made of la ku kb kf kt kv : Int32} {kr : Int64} {kc : Nat → Int32} {o1 o2 o3 o4 o5 : Int32} {o6 : Int64} {im pf ta : Nat → Int32} (h : TX tk0 its [] (tc, made, of, la, ku, kb, kf, kt, kv, kr, kc, o1, o2, o3, o4, o5, o6, im, pf, ta)) :
    ∃ (up' br' st' t' v' : Int32) (rr' : Int64) (tc' made' of' la' ku' kb' kf' kt' kv' : Int32) (kr' : Int64) (kc' : Nat → Int32) (o1' o2' o3' o4' o5' : Int32) (o6' : Int64) (im' pf' ta' : Nat → Int32), m_X9_joinEntries (nI m) f up br st t v rr tc made of la ku kb kf kt kv kr kc o1 o2 o3 o4 o5 o6 im pf ta (nI s) (nI a) (nI b) = some (up', br', st', t', v', rr', tc', made', of', la', ku', kb', kf', kt', kv', kr', kc', o1', o2', o3', o4', o5', o6', im', pf', ta') ∧ TX tk0 (its ++ jI m s (sg cs a b)) [] (tc', made', of', la', ku', kb', kf', kt', kv', kr', kc', o1', o2', o3', o4', o5', o6', im', pf', ta') := by
  have hl := hD.2.2.2.1
  obtain ⟨a', its', v1, v2, v3, v4, v5, v6, c1, c2, c3, c4, c5, c6, c7, c8, c9, c10, c11, c12, c13, c14, c15, c16, c17, c18, c19, c20, e5, g1, g2, g3, g4⟩ := join_loop hD hW hmo hb s (b - a) a a NN its up br st t v rr tc made of la ku kb kf kt kv kr kc o1 o2 o3 o4 o5 o6 im pf ta (by omega) (by unfold NN; omega) (Nat.le_refl a) (by rw [sg_nil]; simp [fpts]) h
  obtain ⟨u1, u2, u3, u4, u5, u6, b1, b2, b3, b4, b5, b6, b7, b8, b9, b10, b11, b12, b13, b14, b15, b16, b17, b18, b19, b20, e4, hY⟩ := makeOne_C hD hW hmo g1 hb (show (fpts (sg cs a' b)).length ≤ 64 by omega) g3 v1 v2 v3 v4 v5 v6 s
  refine ⟨u1, u2, u3, u4, u5, u6, b1, b2, b3, b4, b5, b6, b7, b8, b9, b10, b11, b12, b13, b14, b15, b16, b17, b18, b19, b20, ?_, ?_⟩
  · rw [sg_nil] at e5
    have e5' : lp_X9_joinEntries_9 (nI m) f (nI s) (nI b) NN (nI a) (0 : Int32) (nI a) up br st t v rr tc made of la ku kb kf kt kv kr kc o1 o2 o3 o4 o5 o6 im pf ta = some (nI a', v1, v2, v3, v4, v5, v6, c1, c2, c3, c4, c5, c6, c7, c8, c9, c10, c11, c12, c13, c14, c15, c16, c17, c18, c19, c20) := e5
    rw [m_X9_joinEntries, e5', ob27_mk, e4, ob26_mk]
  · have g4' : its' ++ jn s (sg cs a' b) = its ++ jI m s (sg cs a b) := by
      rw [g4, sg_nil]
      rfl
    rw [← g4']
    exact hY
def cpI (m s : Nat) (cs : List Ch) : List (Ch × Bool) := kept (cs.filter (fun c => decide (c.1 < s))) ++ jI m s (cs.filter (fun c => c.1 == s)) ++ kept (cs.filter (fun c => decide (s < c.1)))
theorem seg_lt {cs : List Ch} (h : cs.Pairwise (fun a b => a.1 ≤ b.1)) (s : Nat) : sg cs 0 (fo s cs) = cs.filter (fun c => decide (c.1 < s)) ∧ sg cs (fo (s + 1) cs) cs.length = cs.filter (fun c => decide (s < c.1)) := by
  obtain ⟨A, B, C, e1, a1, a2, a3, a4, a5, a6⟩ := segs h s
  rw [a4, a5, e1]
  unfold sg
  constructor
  · rw [List.drop_zero, Nat.sub_zero, List.take_left, List.filter_append, List.filter_append, List.filter_eq_self.mpr (fun c hc => by simpa using a1 c hc), List.filter_eq_nil_iff.mpr (fun c hc => by have := a2 c hc; simp; omega), List.filter_eq_nil_iff.mpr (fun c hc => by have := a3 c hc; simp; omega)]
    simp
  · rw [← List.append_assoc, show A.length + B.length = (A ++ B).length by rw [List.length_append], List.drop_left, List.take_of_length_le (by simp; omega), List.filter_append, List.filter_append, List.filter_eq_nil_iff.mpr (fun c hc => by have := a1 c hc; simp; omega), List.filter_eq_nil_iff.mpr (fun c hc => by have := a2 c hc; simp; omega), List.filter_eq_self.mpr (fun c hc => by simpa using a3 c hc)]
    simp
theorem TX_cnt {tk0 : Nat → Bool} {its : List (Ch × Bool)} {tc made of la ku kb kf kt kv : Int32} {kr : Int64} {kc : Nat → Int32} {o1 o2 o3 o4 o5 : Int32} {o6 : Int64} {im pf ta : Nat → Int32} (h : TX tk0 its [] (tc, made, of, la, ku, kb, kf, kt, kv, kr, kc, o1, o2, o3, o4, o5, o6, im, pf, ta)) (hp : plan tk0 its ≠ none ∧ its.length ≤ 96) : tc = nI its.length := by
  rcases h.2.2 with ⟨-, h4, -⟩ | ⟨h4, -⟩
  · rcases h4 with ⟨out, -, -, g, -⟩ | ⟨g, -⟩
    · exact g
    · rcases g with g | g
      · exact absurd g hp.1
      · omega
  · exact absurd rfl h4
