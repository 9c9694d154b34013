theorem jn_ok {s m : Nat} {g : List Ch} (h : ∀ c ∈ g, c.1 = s ∧ 1 ≤ c.2.1.length) (hm : (fpts g).length ≤ m) : (∀ q ∈ jn s g, q.1.1 = s ∧ (q.2 = true → 1 ≤ q.1.2.1.length ∧ q.1.2.1.length ≤ m)) ∧ (((jn s g).filter (fun q => !q.2)).map Prod.fst).Sublist g ∧ fpts ((jn s g).map Prod.fst) = fpts g ∧ (jn s g).length + nNew (jn s g) ≤ g.length ∧ (nNew (jn s g) = 0 → (jn s g).length = g.length) := by
  unfold jn
  by_cases h1 : 1 < g.length
  · rw [if_pos h1]
    refine ⟨fun q hq => ?_, ?_, ?_, ?_, fun q => ?_⟩
    · rw [List.mem_singleton] at hq
      subst hq
      refine ⟨rfl, fun _ => ⟨?_, hm⟩⟩
      show 1 ≤ (fpts g).length
      cases g with
      | nil => simp at h1
      | cons c g =>
        have := (h c List.mem_cons_self).2
        rw [fpts_cons, List.length_append]
        omega
    · simp [mkN]
    · simp [mkN, fpts]
    · have : nNew [mkN s (fpts g)] = 1 := rfl
      rw [this]
      simp
      omega
    · have : nNew [mkN s (fpts g)] = 1 := rfl
      omega
  · rw [if_neg h1]
    refine ⟨fun q hq => ?_, ?_, ?_, ?_, fun _ => kept_len g⟩
    · unfold kept at hq
      obtain ⟨c, hc, rfl⟩ := List.mem_map.mp hq
      exact ⟨(h c hc).1, fun q => (nomatch q)⟩
    · rw [kept_flt, kept_fst]; exact List.Sublist.refl _
    · rw [kept_fst]
    · rw [kept_len, nNew_kept]; exact Nat.le_refl _
theorem grp_ok {s m : Nat} : ∀ (l cur : List Ch), (∀ c ∈ cur, c.1 = s ∧ 1 ≤ c.2.1.length) → (∀ c ∈ l, c.1 = s ∧ 1 ≤ c.2.1.length ∧ c.2.1.length ≤ m) → (fpts cur).length ≤ m →
    (∀ q ∈ (grp m cur l).flatMap (jn s), q.1.1 = s ∧ (q.2 = true → 1 ≤ q.1.2.1.length ∧ q.1.2.1.length ≤ m)) ∧ ((((grp m cur l).flatMap (jn s)).filter (fun q => !q.2)).map Prod.fst).Sublist (cur ++ l) ∧ fpts (((grp m cur l).flatMap (jn s)).map Prod.fst) = fpts (cur ++ l) ∧ ((grp m cur l).flatMap (jn s)).length + nNew ((grp m cur l).flatMap (jn s)) ≤ (cur ++ l).length ∧ (nNew ((grp m cur l).flatMap (jn s)) = 0 → ((grp m cur l).flatMap (jn s)).length = (cur ++ l).length) := by
  intro l
  induction l with
  | nil =>
    intro cur hc _ hm
    have e : (grp m cur []).flatMap (jn s) = jn s cur := by simp [grp]
    rw [e, List.append_nil]
    exact jn_ok hc hm
  | cons c l ih =>
    intro cur hc hl hm
    have hcl := hl c List.mem_cons_self
    by_cases h1 : (fpts cur).length + c.2.1.length ≤ m
    · have e0 : grp m cur (c :: l) = grp m (cur ++ [c]) l := by
        show (if _ then _ else _) = _
        rw [if_pos h1]
      rw [e0, show cur ++ c :: l = (cur ++ [c]) ++ l by simp]
      exact ih (cur ++ [c]) (fun x hx => by
        rcases List.mem_append.mp hx with q | q
        · exact hc x q
        · rw [List.mem_singleton] at q; subst q; exact ⟨hcl.1, hcl.2.1⟩) (fun x hx => hl x (List.mem_cons_of_mem _ hx)) (by rw [fpts_snoc, List.length_append]; exact h1)
    · have e0 : grp m cur (c :: l) = cur :: grp m [c] l := by
        show (if _ then _ else _) = _
        rw [if_neg h1]
      obtain ⟨a1, a2, a3, a4, a5⟩ := jn_ok (s := s) (m := m) hc hm
      obtain ⟨b1, b2, b3, b4, b5⟩ := ih [c] (fun x hx => by rw [List.mem_singleton] at hx; subst hx; exact ⟨hcl.1, hcl.2.1⟩) (fun x hx => hl x (List.mem_cons_of_mem _ hx)) (by rw [fpts_one]; exact hcl.2.2)
      rw [e0, List.flatMap_cons]
      refine ⟨fun q hq => ?_, ?_, ?_, ?_, fun hz => ?_⟩
      · rcases List.mem_append.mp hq with q | q
        · exact a1 _ q
        · exact b1 _ q
      · rw [List.filter_append, List.map_append]
        exact List.Sublist.append a2 b2
      · rw [List.map_append, fpts_app, a3, b3, ← fpts_app]; rfl
      · rw [List.length_append, nNew_app, List.length_append, List.length_cons]
        rw [List.length_append, List.length_singleton] at b4
        omega
      · rw [nNew_app] at hz
        rw [List.length_append, a5 (by omega), b5 (by omega)]
        simp
theorem cp_segs {cs : List Ch} (h : cs.Pairwise (fun a b => a.1 ≤ b.1)) (m s : Nat) : ∃ A B C : List Ch, cs = A ++ (B ++ C) ∧ (∀ c ∈ A, c.1 < s) ∧ (∀ c ∈ B, c.1 = s) ∧ (∀ c ∈ C, s < c.1) ∧ cpI m s cs = (kept A ++ jI m s B) ++ kept C := by
  obtain ⟨A, B, C, e1, a1, a2, a3, a4, a5, a6⟩ := segs h s
  refine ⟨A, B, C, e1, a1, a2, a3, ?_⟩
  have hA : cs.filter (fun c => decide (c.1 < s)) = A := by
    rw [e1, List.filter_append, List.filter_append, List.filter_eq_self.mpr (fun c hc => by simpa using a1 c hc), List.filter_eq_nil_iff.mpr (fun c hc => by have := a2 c hc; simp; omega), List.filter_eq_nil_iff.mpr (fun c hc => by have := a3 c hc; simp; omega)]
    simp
  have hC : cs.filter (fun c => decide (s < c.1)) = C := by
    rw [e1, List.filter_append, List.filter_append, List.filter_eq_nil_iff.mpr (fun c hc => by have := a1 c hc; simp; omega), List.filter_eq_nil_iff.mpr (fun c hc => by have := a2 c hc; simp; omega), List.filter_eq_self.mpr (fun c hc => by simpa using a3 c hc)]
    simp
  unfold cpI
  rw [hA, hC, a6]
theorem cp_itOk {N m : Nat} {cs : List Ch} {hd : List Hd} (hS : SOk N m cs hd) {s : Nat} (hs : s < N) : itOk N m cs hd hd (cpI m s cs) ∧ (cpI m s cs).length + nNew (cpI m s cs) ≤ cs.length ∧ (nNew (cpI m s cs) = 0 → (cpI m s cs).length = cs.length) := by
  obtain ⟨A, B, C, e1, hA, hB, hC, e2⟩ := cp_segs hS.2.2.1 m s
  have hWB : ∀ c ∈ B, c.1 = s ∧ 1 ≤ c.2.1.length ∧ c.2.1.length ≤ m := fun c hc => by
    have := hS.1 c (by rw [e1]; simp [hc])
    exact ⟨hB c hc, this.2.1, this.2.2.1⟩
  obtain ⟨g1, g2, g3, g4, g5⟩ := grp_ok (s := s) (m := m) B [] (fun c hc => by simp at hc) hWB (by simp [fpts])
  rw [List.nil_append] at g2 g3 g4 g5
  have hsort := hS.2.2.1
  rw [e1] at hsort
  obtain ⟨sA, sBC, -⟩ := List.pairwise_append.mp hsort
  obtain ⟨sB, sC, -⟩ := List.pairwise_append.mp sBC
  have kA : ∀ q ∈ kept A, q.1.1 < s := fun q hq => by
    unfold kept at hq
    obtain ⟨c, hc, rfl⟩ := List.mem_map.mp hq
    exact hA c hc
  have kC : ∀ q ∈ kept C, s < q.1.1 := fun q hq => by
    unfold kept at hq
    obtain ⟨c, hc, rfl⟩ := List.mem_map.mp hq
    exact hC c hc
  rw [e2]
  refine ⟨⟨fun q hq hb => ?_, ?_, ?_, fun s' => ?_⟩, ?_, fun hz => ?_⟩
  · rcases List.mem_append.mp hq with hq | hq
    · rcases List.mem_append.mp hq with hq | hq
      · unfold kept at hq
        obtain ⟨c, hc, rfl⟩ := List.mem_map.mp hq
        cases hb
      · have := g1 q hq
        have h2 := this.2 hb
        exact ⟨by omega, h2⟩
    · unfold kept at hq
      obtain ⟨c, hc, rfl⟩ := List.mem_map.mp hq
      cases hb
  · rw [List.filter_append, List.filter_append, kept_flt, kept_flt, List.map_append, List.map_append, kept_fst, kept_fst, e1, ← List.append_assoc]
    exact List.Sublist.append (List.Sublist.append (List.Sublist.refl _) g2) (List.Sublist.refl _)
  · rw [List.pairwise_append, List.pairwise_append]
    refine ⟨⟨?_, ?_, fun a ha b hb => ?_⟩, ?_, fun a ha b hb => ?_⟩
    · unfold kept; rw [List.pairwise_map]; exact sA
    · exact List.pairwise_of_forall_mem_list (fun a ha b hb => by have := (g1 a ha).1; have := (g1 b hb).1; omega)
    · have := kA a ha
      have := (g1 b hb).1
      omega
    · unfold kept; rw [List.pairwise_map]; exact sC
    · have h2 := kC b hb
      rcases List.mem_append.mp ha with ha | ha
      · have := kA a ha; omega
      · have := (g1 a ha).1; omega
  · rw [List.map_append, List.map_append, kept_fst, kept_fst, ptsOf_app, ptsOf_app]
    have e3 : ptsOf s' ((jI m s B).map Prod.fst) = ptsOf s' B := by
      by_cases hss : s' = s
      · subst hss
        rw [ptsOf_all (fun c hc => by obtain ⟨q, hq, rfl⟩ := List.mem_map.mp hc; exact (g1 q hq).1), ptsOf_all hB]
        exact g3
      · rw [ptsOf_no (fun c hc => by obtain ⟨q, hq, rfl⟩ := List.mem_map.mp hc; have := (g1 q hq).1; omega), ptsOf_no (fun c hc => by have := hB c hc; omega)]
    rw [e3, e1, ptsOf_app, ptsOf_app, ← List.append_assoc]
    exact List.Sublist.refl _
  · rw [nNew_app, nNew_app, nNew_kept, nNew_kept, List.length_append, List.length_append, kept_len, kept_len, e1, List.length_append, List.length_append]
    have : (jI m s B).length + nNew (jI m s B) ≤ B.length := g4
    omega
  · rw [nNew_app, nNew_app, nNew_kept, nNew_kept] at hz
    have : (jI m s B).length = B.length := g5 (by unfold jI at hz; omega)
    rw [List.length_append, List.length_append, kept_len, kept_len, e1, List.length_append, List.length_append, this]
    omega
theorem compact_ok {N m : Nat} {f : Nat → Int32} {wd wl dn : Int32} {e sd : Nat} {cs : List Ch} {hd : List Hd} {sl : List Nat} {order its many place length times values headOf headTime headValue : Nat → Int32} (hC : Core N m f wl dn e sd cs hd sl order its many place length times values headOf headTime headValue) (hN : N ≤ 8) (hm2 : m ≤ 64) (p0 : Int32) (up br st t v : Int32) (rr : Int64) (tc made of la ku kb kf kt kv : Int32) (kr : Int64) (kc : Nat → Int32) (o1 o2 o3 o4 o5 : Int32) (o6 : Int64) (im pf ta : Nat → Int32) (c1 c2 c3 : Int32) (thr nexts hcu cm ca bits : Int32) (next isNew mmade : Nat → Int32) :
    ∃ (r wd' wl' dn' : Int32) (f' : Nat → Int32) (sd' : Nat) (cs' : List Ch) (sl' : List Nat) (order' its' many' place' length' times' values' : Nat → Int32) (up' br' st' t' v' : Int32) (rr' : Int64) (tc' made' of' la' ku' kb' kf' kt' kv' : Int32) (kr' : Int64) (kc' : Nat → Int32) (o1' o2' o3' o4' o5' : Int32) (o6' : Int64) (im' pf' ta' : Nat → Int32) (nexts' bits' : Int32) (next' isNew' mmade' : Nat → Int32),
      m_X9_compact (nI N) (nI m) wd wl dn f up br st t v rr tc made of la ku kb kf kt kv kr kc o1 o2 o3 o4 o5 o6 im pf ta c1 c2 c3 p0 = some (r, wd', wl', dn', f', up', br', st', t', v', rr', tc', made', of', la', ku', kb', kf', kt', kv', kr', kc', o1', o2', o3', o4', o5', o6', im', pf', ta', 0, 0, 0) ∧
      m_X10_compact thr (nI N) (nI m) wd wl dn (nI cs.length) (nI e) (nI sd) nexts hcu cm ca bits f its many place length times values order next isNew mmade p0 = some (r, 0, wd', wl', dn', nI cs'.length, nI e, nI sd', nexts', 0, 0, -1, bits', f', its', many', place', length', times', values', order', next', isNew', mmade') ∧
      Core N m f' wl' dn' e sd' cs' hd sl' order' its' many' place' length' times' values' headOf headTime headValue := by
  obtain ⟨hD, hS, hP, hsl, hh⟩ := id hC
  have hcl := hD.2.2.2.1
  rcases hP.2 with rfl | ⟨rfl, hw0⟩
  · rcases isSer_C (N := N) (by omega) p0 with ⟨q1, q2⟩ | ⟨s, hs, rfl, q1, q2⟩
    · refine ⟨-2, wd, wl, 0, f, sd, cs, sl, order, its, many, place, length, times, values, up, br, st, t, v, rr, tc, made, of, la, ku, kb, kf, kt, kv, kr, kc, o1, o2, o3, o4, o5, o6, im, pf, ta, nexts, bits, next, isNew, mmade, ?_, ?_, hC⟩
      · rw [m_X9_compact, m_X1_close, ob3_mk, m_X2_isDown, show ckz (0 : Int32) (some (0 : Int32)) = some 0 from rfl, ob1_mk, if_pos rfl, q1, ob1_mk, if_pos rfl]
      · rw [m_X10_compact, m_X10_dropCursor, ob3_mk, if_pos rfl, q2, ob1_mk, if_pos rfl]
    · obtain ⟨hI, hz1, hz2⟩ := cp_itOk hS hs
      obtain ⟨A, B, C, e1, hA, hB, hCC, ecp⟩ := cp_segs hS.2.2.1 m s
      obtain ⟨its1, many1, times1, values1, next1, isNew1, nx1, g1, hsl1, hx1⟩ := cp_A hsl hS.1 (by omega) hm2 hcl (show s < 900 by omega) e1 hA hB hCC A.length 0 NN [] [] next isNew (by omega) (by unfold NN; omega) (by simp) (fun q hq => by simp at hq) (NX_nil _ _ _ _ _ _ _ _)
      rw [List.drop_zero, List.nil_append, ← ecp] at g1 hx1
      have g1' : lp_X10_compact_36 (nI m) (nI cs.length) order (nI s) NN (0 : Int32) (0 : Int32) its many times values next isNew = some (nI (cpI m s cs).length, its1, many1, times1, values1, next1, isNew1) := g1
      obtain ⟨u1, u2, u3, u4, u5, u6, b1, b2, b3, b4, b5, b6, b7, b8, b9, b10, b11, b12, b13, b14, b15, b16, b17, b18, b19, b20, e3⟩ := compact_C hD hS hN hm2 hs wd wl up br st t v rr tc made of la ku kb kf kt kv kr kc o1 o2 o3 o4 o5 o6 im pf ta c1 c2 c3
      have esub : nI cs.length - nI (cpI m s cs).length = nI (cs.length - (cpI m s cs).length) := pk_sub (by omega)
      by_cases h0 : nNew (cpI m s cs) = 0
      · rw [if_pos h0] at e3
        refine ⟨_, _, _, _, _, sd, cs, sl, order, its1, many1, place, length, times1, values1, u1, u2, u3, u4, u5, u6, b1, b2, b3, b4, b5, b6, b7, b8, b9, b10, b11, b12, b13, b14, b15, b16, b17, b18, b19, b20, nI (cpI m s cs).length, bits, next1, isNew1, mmade, e3, ?_, hD, hS, hP, hsl1, hh⟩
        rw [m_X10_compact, m_X10_dropCursor, ob3_mk, if_pos rfl, q2, ob1_mk, if_neg (by decide), m_X10_beginNext, ob1_mk, g1', ob7_mk, esub, if_pos (by rw [hz2 h0, Nat.sub_self]; rfl)]
      · rw [if_neg h0] at e3
        have hne : ¬ nI (cs.length - (cpI m s cs).length) = 0 := nI_ne0 (by omega) (by omega)
        obtain ⟨t1, t2, t3⟩ := turn_sem (wd := wd) hD hS hP.1 (Or.inl ⟨rfl, rfl⟩) hD.2.2.1 hI hS.2.2.2.1
        obtain ⟨hp1, hq1⟩ := fl_ps hI hS.1 hm2
        obtain ⟨bits2, place2, length2, order2, made2, e2, w1, w2⟩ := turn_M (wd := wd) (wl := wl) (dn := 0) (bits := bits) (f := f) (made := mmade) (e := e) (e' := e) hsl1 hx1 hp1 hq1 hS.1 hcl (by omega) hD.2.1
        rw [esub] at e3
        rcases tR_cases cs sd e (cpI m s cs) wd wl 0 f with ⟨out, q1', q2', q3, q4⟩ | hbad
        · obtain ⟨d1, d2⟩ := t3 out q1' q2' q3
          obtain ⟨out', v1, v2, v3, v4⟩ := w2 q4
          rw [q2'] at v2
          cases v2
          have hol : out.length = (cpI m s cs).length := (plan_ok _ _ _ q2').1
          refine ⟨_, _, _, _, _, 1 - sd, out.map Prod.fst, nx1, order2, its1, many1, place2, length2, times1, values1, u1, u2, u3, u4, u5, u6, b1, b2, b3, b4, b5, b6, b7, b8, b9, b10, b11, b12, b13, b14, b15, b16, b17, b18, b19, b20, nI (cpI m s cs).length, bits2, next1, isNew1, made2, e3, ?_, d1, d2, t1, slOk_of' v4 d2.2.1 (fun c hc => (d2.1 c hc).2.2.2.2), hh⟩
          rw [m_X10_compact, m_X10_dropCursor, ob3_mk, if_pos rfl, q2, ob1_mk, if_neg (by decide), m_X10_beginNext, ob1_mk, g1', ob7_mk, esub, if_neg hne, e2, ob13_mk, if_pos q4, if_pos q4, if_pos q4, if_pos q4, ob1_mk, cd0 q4, List.length_map, hol]
        · have hne0 : ¬ (tR cs sd e (cpI m s cs) wd wl 0 f).1 = 0 := by
            rcases hbad with q | q
            · rw [q]; exact m3_ne
            · rw [q]; exact m9_ne
          have d1 := t2 hne0
          obtain ⟨v1, v2⟩ := w1 hne0
          subst v1
          refine ⟨_, _, _, _, _, sd, cs, sl, _, its1, many1, place2, length2, times1, values1, u1, u2, u3, u4, u5, u6, b1, b2, b3, b4, b5, b6, b7, b8, b9, b10, b11, b12, b13, b14, b15, b16, b17, b18, b19, b20, nI (cpI m s cs).length, bits2, next1, isNew1, made2, e3, ?_, d1, hS, t1, v2, hh⟩
          rw [m_X10_compact, m_X10_dropCursor, ob3_mk, if_pos rfl, q2, ob1_mk, if_neg (by decide), m_X10_beginNext, ob1_mk, g1', ob7_mk, esub, if_neg hne, e2, ob13_mk, if_neg hne0, if_neg hne0, if_neg hne0, if_neg hne0, ob1_mk, cdn hne0]
  · refine ⟨-9, wd, wl, 1, f, sd, cs, sl, order, its, many, place, length, times, values, up, br, st, t, v, rr, tc, made, of, la, ku, kb, kf, kt, kv, kr, kc, o1, o2, o3, o4, o5, o6, im, pf, ta, nexts, bits, next, isNew, mmade, ?_, ?_, hC⟩
    · rw [m_X9_compact, m_X1_close, ob3_mk, m_X2_isDown, show ckz (1 : Int32) (some (1 : Int32)) = some 1 from rfl, ob1_mk, if_neg (by decide)]
    · rw [m_X10_compact, m_X10_dropCursor, ob3_mk, if_neg (by decide)]
