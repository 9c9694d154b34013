/-! flush and expire, both sides -/
theorem tR_cases (cs : List Ch) (sd e' : Nat) (its : List (Ch × Bool)) (wd wl dn : Int32) (f : Nat → Int32) : (∃ out, its.length ≤ 96 ∧ plan (tkOf cs) its = some out ∧ (wrs (tWr sd e' out) wd wl dn f).1 = true ∧ (tR cs sd e' its wd wl dn f).1 = 0) ∨ (tR cs sd e' its wd wl dn f).1 = -3 ∨ (tR cs sd e' its wd wl dn f).1 = -9 := by
  by_cases hbad : plan (tkOf cs) its = none ∨ 96 < its.length
  · rw [tR_bad hbad]; exact Or.inr (Or.inl rfl)
  · have h96 : its.length ≤ 96 := Nat.le_of_not_lt (fun q => hbad (Or.inr q))
    cases hp : plan (tkOf cs) its with
    | none => exact absurd (Or.inl hp) hbad
    | some out =>
      rw [tR_ok hp h96]
      cases hw : (wrs (tWr sd e' out) wd wl dn f).1 with
      | true => exact Or.inl ⟨out, h96, rfl, hw, rfl⟩
      | false => exact Or.inr (Or.inr rfl)
theorem chW_64 {N m : Nat} {cs : List Ch} (h : ∀ c ∈ cs, chW N m c) (hm : m ≤ 64) : ∀ c ∈ cs, c.2.1.length ≤ 64 := fun c hc => by have := (h c hc).2.2.1; omega
theorem cd0 {c a : Int32} (h : c = 0) : cd c a = a := by unfold cd; rw [if_pos h]
theorem cdn {c a : Int32} (h : ¬ c = 0) : cd c a = c := by unfold cd; rw [if_neg h]
theorem fl_ps {N m : Nat} {cs : List Ch} {hd hd' : List Hd} {its : List (Ch × Bool)} (hI : itOk N m cs hd hd' its) (hW : ∀ c ∈ cs, chW N m c) (hm : m ≤ 64) : itP its ∧ ∀ q ∈ its, 1 ≤ q.1.2.1.length := by
  have h : ∀ q ∈ its, 1 ≤ q.1.2.1.length ∧ q.1.2.1.length ≤ 64 := fun q hq => by
    cases hb : q.2 with
    | true => have := hI.1 q hq hb; omega
    | false =>
      have := hW _ (hI.2.1.mem (List.mem_map.mpr ⟨q, List.mem_filter.mpr ⟨hq, by simp [hb]⟩, rfl⟩))
      have h1 := this.2.1
      have h2 := this.2.2.1
      omega
  exact ⟨fun q hq => (h q hq).2, fun q hq => (h q hq).1⟩
theorem flush_ok {N m : Nat} {f : Nat → Int32} {wd wl dn : Int32} {e sd : Nat} {cs : List Ch} {hd : List Hd} {sl : List Nat} {order its many place length times values headOf headTime headValue : Nat → Int32} (hC : Core N m f wl dn e sd cs hd sl order its many place length times values headOf headTime headValue) (hN : N ≤ 8) (hm1 : 2 ≤ m) (hm2 : m ≤ 64) (he : e < 100000) (tc made of la ku kb kf kt kv : Int32) (kr : Int64) (kc : Nat → Int32) (o1 o2 o3 o4 o5 : Int32) (o6 : Int64) (im pf ta : Nat → Int32) (c1 c2 c3 : Int32) (thr nexts hcu cm ca bits : Int32) (next isNew mmade : Nat → Int32) :
    ∃ (r wd' wl' dn' : Int32) (f' : Nat → Int32) (e' sd' : Nat) (cs' : List Ch) (hd' : List Hd) (sl' : List Nat) (order' its' many' place' length' times' values' : Nat → Int32) (tc' made' of' la' ku' kb' kf' kt' kv' : Int32) (kr' : Int64) (kc' : Nat → Int32) (o1' o2' o3' o4' o5' : Int32) (o6' : Int64) (im' pf' ta' : Nat → Int32) (nexts' bits' : Int32) (next' isNew' mmade' : Nat → Int32),
      m_X9_flush (nI N) (nI m) wd wl dn f (nI hd.length) tc made of la ku kb kf kt kv kr kc o1 o2 o3 o4 o5 o6 im pf ta c1 c2 c3 = some (r, wd', wl', dn', f', nI hd'.length, tc', made', of', la', ku', kb', kf', kt', kv', kr', kc', o1', o2', o3', o4', o5', o6', im', pf', ta', 0, 0, 0) ∧
      m_X10_flush thr (nI N) (nI m) wd wl dn (nI cs.length) (nI e) (nI sd) (nI hd.length) nexts hcu cm ca bits f its many place length times values order headOf headTime headValue next isNew mmade = some (r, 0, wd', wl', dn', nI cs'.length, nI e', nI sd', nI hd'.length, nexts', 0, 0, -1, bits', f', its', many', place', length', times', values', order', next', isNew', mmade') ∧
      e' ≤ e + 1 ∧ Core N m f' wl' dn' e' sd' cs' hd' sl' order' its' many' place' length' times' values' headOf headTime headValue := by
  obtain ⟨hD, hS, hP, hsl, hh⟩ := id hC
  have hl : hd.length ≤ 128 := hD.2.2.2.2.2.2.1
  have hcl := hD.2.2.2.1
  rcases hP.2 with rfl | ⟨rfl, hw0⟩
  · by_cases hne : hd = []
    · subst hne
      refine ⟨0, wd, wl, 0, f, e, sd, cs, [], sl, order, its, many, place, length, times, values, tc, made, of, la, ku, kb, kf, kt, kv, kr, kc, o1, o2, o3, o4, o5, o6, im, pf, ta, nexts, bits, next, isNew, mmade, ?_, ?_, by omega, hC⟩
      · rw [m_X9_flush, m_X1_close, ob3_mk, m_X2_isDown, show ckz (0 : Int32) (some (0 : Int32)) = some 0 from rfl, ob1_mk, if_pos rfl, m_X4_logged, ob1_mk, if_pos (show nI ([] : List Hd).length = 0 from rfl)]
      · rw [m_X10_flush, m_X10_dropCursor, ob3_mk, if_pos rfl, if_pos (show nI ([] : List Hd).length = 0 from rfl)]
    · obtain ⟨hI, hkeep⟩ := fl_itOk (by omega) hS
      obtain ⟨t1, t2, t3⟩ := turn_sem (wd := wd) hD hS hP.1 (Or.inr ⟨rfl, rfl⟩) (show e + 1 ≤ 100000 by omega) hI (fun h hh => by simp at hh)
      have hhN : ∀ x ∈ hd, x.1 < N := hS.2.2.2.1
      have hcN : ∀ c ∈ cs, c.1 < N := fun c hc => (hS.1 c hc).1
      have hl1 : hd.length ≠ 0 := fun q => hne (List.eq_nil_of_length_eq_zero q)
      obtain ⟨its1, many1, times1, values1, next1, isNew1, nx1, e1, hsl1, hx1, hp1, hL1⟩ := fl34 hh hl hN hhN hm1 hm2 hcl hcN (chW_64 hS.1 hm2) N 0 NN [] [] its many times values next isNew (by omega) (by unfold NN; omega) (fun q hq => by simp at hq) (by
        have a1 := List.length_filter_le (fun c : Ch => decide (0 ≤ c.1)) cs
        have a2 := List.length_filter_le (fun c : Hd => decide (0 ≤ c.1)) hd
        rw [List.length_nil]
        omega) (by
        have a2 := List.length_filter_le (fun c : Hd => decide (0 ≤ c.1)) hd
        show 0 + _ ≤ 128
        omega) hsl (NX_nil _ _ _ _ _ _ _ _)
      rw [List.nil_append] at e1 hx1 hp1 hL1
      have e1' : lp_X10_flush_34 (nI N) (nI m) (nI cs.length) (nI hd.length) order headOf headTime headValue NN (0 : Int32) (0 : Int32) its many times values next isNew = some (nI (flI m cs hd 0 N).length, its1, many1, times1, values1, next1, isNew1) := e1
      obtain ⟨-, hq1⟩ := fl_ps hI hS.1 hm2
      obtain ⟨bits2, place2, length2, order2, made2, e2, u1, u2⟩ := turn_M (wd := wd) (wl := wl) (dn := 0) (bits := bits) (f := f) (made := mmade) (e := e) (e' := e + 1) hsl1 hx1 hp1 hq1 hS.1 hcl (by omega) hD.2.1
      have hlen := len_split (flI m cs hd 0 N)
      rw [hkeep] at hlen
      rcases tR_cases cs sd (e + 1) (flI m cs hd 0 N) wd wl 0 f with ⟨out, q1, q2, q3, q4⟩ | hbad
      · obtain ⟨d1, d2⟩ := t3 out q1 q2 q3
        obtain ⟨out', v1, v2, v3, v4⟩ := u2 q4
        rw [q2] at v2
        cases v2
        have hol : out.length = (flI m cs hd 0 N).length := (plan_ok _ _ _ q2).1
        obtain ⟨tc', made', of', la', ku', kb', kf', kt', kv', kr', kc', p1, p2, p3, p4, p5, p6, im', pf', ta', e3⟩ := flush_C hD hS hN hm1 hm2 hne wd wl (readAgain_C d1 _) tc made of la ku kb kf kt kv kr kc o1 o2 o3 o4 o5 o6 im pf ta c1 c2 c3
        refine ⟨_, _, _, _, _, e + 1, 1 - sd, out.map Prod.fst, [], nx1, order2, its1, many1, place2, length2, times1, values1, tc', made', of', la', ku', kb', kf', kt', kv', kr', kc', p1, p2, p3, p4, p5, p6, im', pf', ta', nI (flI m cs hd 0 N).length, bits2, next1, isNew1, made2, e3, ?_, by omega, d1, d2, t1, slOk_of' v4 d2.2.1 (fun c hc => (d2.1 c hc).2.2.2.2), fun k hk => by simp at hk⟩
        rw [m_X10_flush, m_X10_dropCursor, ob3_mk, if_pos rfl, if_neg (nI_ne0 (by omega) (by omega)), m_X10_beginNext, ob1_mk, e1', ob7_mk, nI_1, e2, ob13_mk, if_pos q4, if_pos q4, if_pos q4, if_pos q4, ob1_mk, if_pos q4, ob1_mk, cd0 q4, hlen, pk_sub (by omega), List.length_map, hol, hlen, show cs.length + nNew (flI m cs hd 0 N) - cs.length = nNew (flI m cs hd 0 N) by omega]
        rfl
      · have hne0 : ¬ (tR cs sd (e + 1) (flI m cs hd 0 N) wd wl 0 f).1 = 0 := by
          rcases hbad with q | q
          · rw [q]; exact m3_ne
          · rw [q]; exact m9_ne
        have d1 := t2 hne0
        obtain ⟨v1, v2⟩ := u1 hne0
        subst v1
        obtain ⟨tc', made', of', la', ku', kb', kf', kt', kv', kr', kc', p1, p2, p3, p4, p5, p6, im', pf', ta', e3⟩ := flush_C hD hS hN hm1 hm2 hne wd wl (readAgain_C d1 _) tc made of la ku kb kf kt kv kr kc o1 o2 o3 o4 o5 o6 im pf ta c1 c2 c3
        refine ⟨_, _, _, _, _, e, sd, cs, hd, sl, _, its1, many1, place2, length2, times1, values1, tc', made', of', la', ku', kb', kf', kt', kv', kr', kc', p1, p2, p3, p4, p5, p6, im', pf', ta', nI (flI m cs hd 0 N).length, bits2, next1, isNew1, made2, e3, ?_, by omega, d1, hS, t1, v2, hh⟩
        rw [m_X10_flush, m_X10_dropCursor, ob3_mk, if_pos rfl, if_neg (nI_ne0 (by omega) (by omega)), m_X10_beginNext, ob1_mk, e1', ob7_mk, nI_1, e2, ob13_mk, if_neg hne0, if_neg hne0, if_neg hne0, if_neg hne0, ob1_mk, if_neg hne0, ob1_mk, cdn hne0]
  · refine ⟨-9, wd, wl, 1, f, e, sd, cs, hd, sl, order, its, many, place, length, times, values, tc, made, of, la, ku, kb, kf, kt, kv, kr, kc, o1, o2, o3, o4, o5, o6, im, pf, ta, nexts, bits, next, isNew, mmade, ?_, ?_, by omega, hC⟩
    · rw [m_X9_flush, m_X1_close, ob3_mk, m_X2_isDown, show ckz (1 : Int32) (some (1 : Int32)) = some 1 from rfl, ob1_mk, if_neg (by decide)]
    · rw [m_X10_flush, m_X10_dropCursor, ob3_mk, if_neg (by decide)]
