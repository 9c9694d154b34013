theorem exM_loop {order its many place length times values : Nat → Int32} {cs : List Ch} {sl : List Nat} {N m : Nat} (h : slOk order its many place length times values cs sl) (hW : ∀ c ∈ cs, chW N m c) (hm : m ≤ 64) (hcl : cs.length ≤ 96) (b : Int32) : ∀ (r k fu g : Nat) (itm : List (Ch × Bool)) (nx : List Nat) (next isNew : Nat → Int32), r + k = cs.length → r < fu → itm.length ≤ k → NX its many times values next isNew cs sl itm nx →
    ∃ (next' isNew' : Nat → Int32) (nx' : List Nat), lp_X10_expire_27 (nI cs.length) many times order b fu (nI g) (nI k) (nI itm.length) next isNew = some (nI (g + gone b (cs.drop k)), nI (itm ++ exI b (cs.drop k)).length, next', isNew') ∧ NX its many times values next' isNew' cs sl (itm ++ exI b (cs.drop k)) nx' := by
  intro r
  induction r with
  | zero =>
    intro k fu g itm nx next isNew hk hf hb hx
    obtain ⟨n, rfl⟩ : ∃ n, fu = n + 1 := ⟨fu - 1, by omega⟩
    have e0 : itm ++ exI b [] = itm := by simp [exI, kept]
    rw [lp_X10_expire_27, if_pos (nI_le (by omega) (by omega)), List.drop_eq_nil_of_le (by omega), e0]
    exact ⟨next, isNew, nx, rfl, hx⟩
  | succ r ih =>
    intro k fu g itm nx next isNew hk hf hb hx
    obtain ⟨n, rfl⟩ : ∃ n, fu = n + 1 := ⟨fu - 1, by omega⟩
    have hlt : k < cs.length := by omega
    obtain ⟨s1, s2, s3, s4, s5, s6, s7⟩ := h.2.2 k hlt
    have hw := hW _ (gd_mem ch0 hlt)
    have hP : slP many times values (sl.getD k 0) (cs.getD k ch0).2.1 := ⟨s1, s4, s7, hw.2.1, by have := hw.2.2.1; omega⟩
    rw [lp_X10_expire_27, if_neg (nI_ge hlt (by omega)), ckb_in _ (show k < 96 by omega) (by omega), nI_clamp (show k < 2 ^ 31 by omega), s2, lastTime_M hP, ob1_mk, drop_cons ch0 hlt, gone_cons, exI_cons, nI_1]
    cases hk2 : keeps b (cs.getD k ch0) with
    | true =>
      have hk' : b ≤ plst (cs.getD k ch0).2.1 := by unfold keeps at hk2; exact of_decide_eq_true hk2
      rw [if_pos hk', ckb_in _ (show k < 96 by omega) (by omega), comes_0 (by omega), ob3_mk, ob4_mk, if_pos rfl, if_pos rfl, Nat.zero_add, ← List.append_assoc]
      have e1 : itm.length + 1 = (itm ++ [(cs.getD k ch0, false)]).length := by simp
      rw [e1]
      exact ih (k + 1) n g _ _ _ _ (by omega) (by omega) (by rw [← e1]; omega) (NX_keep h hx hlt)
    | false =>
      have hk' : ¬ b ≤ plst (cs.getD k ch0).2.1 := by unfold keeps at hk2; exact of_decide_eq_false hk2
      rw [if_neg hk', ckb_in _ (show k < 96 by omega) (by omega), ckb_in _ s1 (by omega), nI_clamp (show sl.getD k 0 < 2 ^ 31 by omega), s4, ob4_mk, nI_add, if_neg (by simp), if_neg (by simp), List.nil_append, ← Nat.add_assoc]
      exact ih (k + 1) n _ _ _ _ _ (by omega) (by omega) (by omega) hx
theorem expire_ok {N m : Nat} {f : Nat → Int32} {wd wl dn : Int32} {e sd : Nat} {cs : List Ch} {hd : List Hd} {sl : List Nat} {order its many place length times values headOf headTime headValue : Nat → Int32} (hC : Core N m f wl dn e sd cs hd sl order its many place length times values headOf headTime headValue) (hm2 : m ≤ 64) (b : Int32) (tc made la ku kb kf : Int32) (kc : Nat → Int32) (o1 o2 o3 o4 o5 : Int32) (o6 : Int64) (im pf ta : Nat → Int32) (c1 c2 c3 : Int32) (thr nexts hcu cm ca bits : Int32) (next isNew mmade : Nat → Int32) :
    ∃ (r wd' wl' dn' : Int32) (f' : Nat → Int32) (sd' : Nat) (cs' : List Ch) (sl' : List Nat) (order' place' length' : Nat → Int32) (tc' made' la' ku' kb' kf' : Int32) (o1' o2' o3' o4' o5' : Int32) (o6' : Int64) (im' pf' ta' : Nat → Int32) (nexts' bits' : Int32) (next' isNew' mmade' : Nat → Int32),
      m_X9_expire wd wl dn f tc made la ku kb kf kc o1 o2 o3 o4 o5 o6 im pf ta c1 c2 c3 b = some (r, wd', wl', dn', f', tc', made', la', ku', kb', kf', o1', o2', o3', o4', o5', o6', im', pf', ta', 0, 0, 0) ∧
      m_X10_expire thr wd wl dn (nI cs.length) (nI e) (nI sd) nexts hcu cm ca bits f its many place length times values order next isNew mmade b = some (r, 0, wd', wl', dn', nI cs'.length, nI e, nI sd', nexts', 0, 0, -1, bits', f', place', length', order', next', isNew', mmade') ∧
      Core N m f' wl' dn' e sd' cs' hd sl' order' its many place' length' times values headOf headTime headValue := by
  obtain ⟨hD, hS, hP, hsl, hh⟩ := id hC
  have hcl := hD.2.2.2.1
  rcases hP.2 with rfl | ⟨rfl, hw0⟩
  · have hg := gone_le b m cs (fun c hc => (hS.1 c hc).2.2.1)
    have hg2 : gone b cs ≤ 64 * 96 := Nat.le_trans hg (Nat.mul_le_mul hm2 hcl)
    obtain ⟨next1, isNew1, nx1, e1, hx1⟩ := exM_loop hsl hS.1 hm2 hcl b cs.length 0 NN 0 [] [] next isNew (by omega) (by unfold NN; omega) (by simp) (NX_nil _ _ _ _ _ _ _ _)
    rw [List.drop_zero, List.nil_append] at e1 hx1
    rw [Nat.zero_add] at e1
    have e1' : lp_X10_expire_27 (nI cs.length) many times order b NN (0 : Int32) (0 : Int32) (0 : Int32) next isNew = some (nI (gone b cs), nI (exI b cs).length, next1, isNew1) := e1
    obtain ⟨tc', made', la', ku', kb', kf', p1, p2, p3, p4, p5, p6, im', pf', ta', e3⟩ := expire_C hD hS hm2 b wd wl tc made la ku kb kf kc o1 o2 o3 o4 o5 o6 im pf ta c1 c2 c3
    by_cases h0 : gone b cs = 0
    · rw [if_pos h0] at e3
      refine ⟨_, _, _, _, _, sd, cs, sl, order, place, length, _, _, _, _, _, _, _, _, _, _, _, _, _, _, _, nI (exI b cs).length, bits, next1, isNew1, mmade, e3, ?_, hC⟩
      rw [m_X10_expire, m_X10_dropCursor, ob3_mk, if_pos rfl, m_X10_beginNext, ob1_mk, e1', ob4_mk, if_pos (by rw [h0]; rfl)]
    · rw [if_neg h0] at e3
      have hI := exI_ok hS b
      obtain ⟨t1, t2, t3⟩ := turn_sem (wd := wd) hD hS hP.1 (Or.inl ⟨rfl, rfl⟩) hD.2.2.1 hI hS.2.2.2.1
      obtain ⟨hp1, hq1⟩ := fl_ps hI hS.1 hm2
      have hil : (exI b cs).length ≤ 96 := by
        unfold exI
        rw [kept_len]
        have := List.length_filter_le (keeps b) cs
        omega
      obtain ⟨bits2, place2, length2, order2, made2, e2, u1, u2⟩ := turn_M (wd := wd) (wl := wl) (dn := 0) (bits := bits) (f := f) (made := mmade) (e := e) (e' := e) hsl hx1 hp1 hq1 hS.1 hcl (by omega) hD.2.1
      rcases tR_cases cs sd e (exI b cs) wd wl 0 f with ⟨out, q1, q2, q3, q4⟩ | hbad
      · obtain ⟨d1, d2⟩ := t3 out q1 q2 q3
        obtain ⟨out', v1, v2, v3, v4⟩ := u2 q4
        rw [q2] at v2
        cases v2
        have hol : out.length = (exI b cs).length := (plan_ok _ _ _ q2).1
        refine ⟨_, _, _, _, _, 1 - sd, out.map Prod.fst, nx1, order2, place2, length2, _, _, _, _, _, _, _, _, _, _, _, _, _, _, _, nI (exI b cs).length, bits2, next1, isNew1, made2, e3, ?_, d1, d2, t1, slOk_of' v4 d2.2.1 (fun c hc => (d2.1 c hc).2.2.2.2), hh⟩
        rw [m_X10_expire, m_X10_dropCursor, ob3_mk, if_pos rfl, m_X10_beginNext, ob1_mk, e1', ob4_mk, if_neg (nI_ne0 (by omega) (by omega)), e2, ob13_mk, if_pos q4, if_pos q4, if_pos q4, if_pos q4, ob1_mk, cd0 q4, List.length_map, hol]
      · have hne0 : ¬ (tR cs sd e (exI b cs) wd wl 0 f).1 = 0 := by
          rcases hbad with q | q
          · rw [q]; exact m3_ne
          · rw [q]; exact m9_ne
        have d1 := t2 hne0
        obtain ⟨v1, v2⟩ := u1 hne0
        subst v1
        refine ⟨_, _, _, _, _, sd, cs, sl, _, place2, length2, _, _, _, _, _, _, _, _, _, _, _, _, _, _, _, nI (exI b cs).length, bits2, next1, isNew1, made2, e3, ?_, d1, hS, t1, v2, hh⟩
        rw [m_X10_expire, m_X10_dropCursor, ob3_mk, if_pos rfl, m_X10_beginNext, ob1_mk, e1', ob4_mk, if_neg (nI_ne0 (by omega) (by omega)), e2, ob13_mk, if_neg hne0, if_neg hne0, if_neg hne0, if_neg hne0, ob1_mk, cdn hne0]
  · refine ⟨-9, wd, wl, 1, f, sd, cs, sl, order, place, length, tc, made, la, ku, kb, kf, o1, o2, o3, o4, o5, o6, im, pf, ta, nexts, bits, next, isNew, mmade, ?_, ?_, hC⟩
    · rw [m_X9_expire, m_X1_close, ob3_mk, m_X2_isDown, show ckz (1 : Int32) (some (1 : Int32)) = some 1 from rfl, ob1_mk, if_neg (by decide)]
    · rw [m_X10_expire, m_X10_dropCursor, ob3_mk, if_neg (by decide)]
