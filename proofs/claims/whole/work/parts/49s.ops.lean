/-! seek, next, curTime, curVal, the answers of ask -/
def CuR (N : Nat) (f : Nat → Int32) (cs : List Ch) (hd : List Hd) (vp br st t v : Int32) (rr : Int64) (op ser fr to en ee pl bl ct cv : Int32) (hcu cm ca : Int32) (cT cV : Nat → Int32) : Prop :=
  (op = 0 ∧ ct = 0 ∧ cv = 0 ∧ ((hcu = 0 ∧ cm = 0 ∧ (ca = -1 ∨ ca = 0)) ∨ (hcu = 1 ∧ ∃ n : Nat, n < 6300 ∧ cm = nI n ∧ ca = nI n))) ∨
  (op = 1 ∧ hcu = 1 ∧ ∃ (s i : Nat) (L R : List Pt), s < N ∧ ser = nI s ∧ L.length < 6300 ∧ cm = nI L.length ∧ i ≤ L.length ∧ crOk cT cV L ∧ ca = (if i = 0 then -1 else nI (i - 1)) ∧ ct = (if i = 0 then 0 else (L.getD (i - 1) (0, 0)).1) ∧ cv = (if i = 0 then 0 else (L.getD (i - 1) (0, 0)).2) ∧ rising R ∧ asked fr to R = L.drop i ∧ CuOpen f cs hd s fr vp br st t v rr en ee pl bl R)
theorem cu_closed {N : Nat} {f : Nat → Int32} {cs : List Ch} {hd : List Hd} {vp br st t v : Int32} {rr : Int64} {ser fr to en ee pl bl : Int32} {cT cV : Nat → Int32} : CuR N f cs hd vp br st t v rr 0 ser fr to en ee pl bl 0 0 0 0 (-1) cT cV := Or.inl ⟨rfl, rfl, rfl, Or.inl ⟨rfl, rfl, Or.inl rfl⟩⟩
theorem nlem1 {n : Nat} (h : n < 100000) : ¬ nI n ≤ (-1 : Int32) := by
  intro q
  have h1 := Int32.le_iff_toInt_le.mp q
  rw [nI_toInt (by omega)] at h1
  have : (-1 : Int32).toInt = -1 := rfl
  omega
theorem next_ok {f : Nat → Int32} {e sd N most : Nat} {cs : List Ch} {hd : List Hd} (hD : DOk f e sd cs hd) (hS : SOk N most cs hd) (hN : N ≤ 8) (hmo : most ≤ 64) {vp br st t v : Int32} {rr : Int64} {op ser fr to en ee pl bl ct cv hcu cm ca : Int32} {cT cV : Nat → Int32} (h : CuR N f cs hd vp br st t v rr op ser fr to en ee pl bl ct cv hcu cm ca cT cV) (thr : Int32) :
    ∃ (r vp' br' st' t' v' : Int32) (rr' : Int64) (op' en' pl' bl' ct' cv' ca' : Int32), m_X9_next f (nI hd.length) vp br st t v rr op ser fr to en ee pl bl ct cv = some (r, vp', br', st', t', v', rr', op', en', pl', bl', ct', cv') ∧ m_X10_next thr hcu cm ca = some (r, 0, ca') ∧ CuR N f cs hd vp' br' st' t' v' rr' op' ser fr to en' ee pl' bl' ct' cv' hcu cm ca' cT cV := by
  rcases h with ⟨rfl, rfl, rfl, hc⟩ | ⟨rfl, rfl, s, i, L, R, hs, rfl, hL, rfl, hi, hcr, rfl, rfl, rfl, hR, hask, hCu⟩
  · have e1 : m_X9_next f (nI hd.length) vp br st t v rr 0 ser fr to en ee pl bl 0 0 = some (0, vp, br, st, t, v, rr, 0, en, pl, bl, 0, 0) := by
      rw [m_X9_next, m_X1_advance, if_pos rfl, m_X1_close, ob3_mk, ob13_mk]
      rfl
    rcases hc with ⟨rfl, rfl, rfl | rfl⟩ | ⟨rfl, n, hn, rfl, rfl⟩
    · exact ⟨0, _, _, _, _, _, _, _, _, _, _, _, _, 0, e1, rfl, Or.inl ⟨rfl, rfl, rfl, Or.inl ⟨rfl, rfl, Or.inr rfl⟩⟩⟩
    · exact ⟨0, _, _, _, _, _, _, _, _, _, _, _, _, 0, e1, rfl, Or.inl ⟨rfl, rfl, rfl, Or.inl ⟨rfl, rfl, Or.inr rfl⟩⟩⟩
    · refine ⟨0, _, _, _, _, _, _, _, _, _, _, _, _, nI n, e1, ?_, Or.inl ⟨rfl, rfl, rfl, Or.inr ⟨rfl, n, hn, rfl, rfl⟩⟩⟩
      rw [m_X10_next, if_pos (nI_le (Nat.le_refl n) (by omega)), ob1_mk, if_neg (by decide), if_pos (nI_le (Nat.le_refl n) (by omega)), ob1_mk]
      rfl
  · have eca : (if nI L.length ≤ (if i = 0 then (-1 : Int32) else nI (i - 1)) then some (if i = 0 then (-1 : Int32) else nI (i - 1)) else some ((if i = 0 then (-1 : Int32) else nI (i - 1)) + (1 : Int32))) = some (nI i) := by
      by_cases h0 : i = 0
      · rw [if_pos h0, if_neg (nlem1 (by omega)), h0]; rfl
      · rw [if_neg h0, if_neg (nI_ge (by omega) (by omega)), nI_1, show i - 1 + 1 = i by omega]
    rcases advance_C (p2 := to) hD hS hN hmo hs hCu hR (if i = 0 then 0 else (L.getD (i - 1) (0, 0)).1) (if i = 0 then 0 else (L.getD (i - 1) (0, 0)).2) with ⟨hz, vp', br', st', t', v', rr', en', pl', bl', e1⟩ | ⟨q, R', hz, hr', vp', br', st', t', v', rr', en', pl', bl', e1, hCu'⟩
    · have hiL : i = L.length := by
        rw [hz] at hask
        have := congrArg List.length hask
        rw [List.length_drop, List.length_nil] at this
        omega
      refine ⟨0, vp', br', st', t', v', rr', 0, en', pl', bl', 0, 0, nI i, e1, ?_, Or.inl ⟨rfl, rfl, rfl, Or.inr ⟨rfl, L.length, hL, rfl, by rw [hiL]⟩⟩⟩
      rw [m_X10_next, eca, ob1_mk, if_neg (by decide), if_pos (nI_le (by omega) (by omega)), ob1_mk]
      rfl
    · have hlt : i < L.length := by
        rw [hz] at hask
        have := congrArg List.length hask
        rw [List.length_drop, List.length_cons] at this
        omega
      rw [hz, drop_cons (0, 0) hlt] at hask
      injection hask with q1 q2
      refine ⟨1, vp', br', st', t', v', rr', 1, en', pl', bl', q.1, q.2, nI i, e1, ?_, Or.inr ⟨rfl, rfl, s, i + 1, L, R', hs, rfl, hL, rfl, by omega, hcr, ?_, ?_, ?_, hr', q2, hCu'⟩⟩
      · rw [m_X10_next, eca, ob1_mk, if_neg (by decide), if_neg (nI_ge (by omega) (by omega)), ob1_mk]
        rfl
      · rw [if_neg (by omega), Nat.add_sub_cancel]
      · rw [if_neg (by omega), Nat.add_sub_cancel, q1]
      · rw [if_neg (by omega), Nat.add_sub_cancel, q1]
theorem cur_ok {N : Nat} {f : Nat → Int32} {cs : List Ch} {hd : List Hd} {vp br st t v : Int32} {rr : Int64} {op ser fr to en ee pl bl ct cv hcu cm ca : Int32} {cT cV : Nat → Int32} (h : CuR N f cs hd vp br st t v rr op ser fr to en ee pl bl ct cv hcu cm ca cT cV) (thr : Int32) : m_X10_curTime thr hcu cm ca cT = some (ct, 0) ∧ m_X10_curVal thr hcu cm ca cV = some (cv, 0) := by
  rw [m_X10_curTime, m_X10_curVal]
  rcases h with ⟨rfl, rfl, rfl, hc⟩ | ⟨rfl, rfl, s, i, L, R, hs, rfl, hL, rfl, hi, hcr, rfl, rfl, rfl, hR, hask, hCu⟩
  · have hat : m_X10_isAt hcu cm ca = some 0 := by
      rcases hc with ⟨rfl, rfl, hq⟩ | ⟨rfl, n, hn, rfl, rfl⟩
      · rw [m_X10_isAt, if_pos rfl]; rfl
      · rw [m_X10_isAt, if_neg (by decide), if_neg (nI_pos (by omega)), if_pos (nI_le (Nat.le_refl n) (by omega))]; rfl
    rw [hat]
    exact ⟨rfl, rfl⟩
  · by_cases h0 : i = 0
    · have hat : m_X10_isAt 1 (nI L.length) (if i = 0 then (-1 : Int32) else nI (i - 1)) = some 0 := by
        rw [if_pos h0, m_X10_isAt, if_neg (by decide), if_pos (by decide)]; rfl
      rw [hat, if_pos h0, if_pos h0, if_pos h0]
      exact ⟨rfl, rfl⟩
    · have hat : m_X10_isAt 1 (nI L.length) (nI (i - 1)) = some 1 := by
        rw [m_X10_isAt, if_neg (by decide), if_neg (nI_pos (by omega)), if_neg (nI_ge (by omega) (by omega))]; rfl
      have hk := hcr (i - 1) (by omega)
      rw [if_neg h0, if_neg h0, if_neg h0, hat, ob1_mk, if_neg (by decide), ckb_in _ (show i - 1 < 6300 by omega) (by omega), nI_clamp (by omega), hk.1, ob1_mk, ob1_mk, if_neg (by decide), ckb_in _ (show i - 1 < 6300 by omega) (by omega), hk.2, ob1_mk]
      exact ⟨rfl, rfl⟩
theorem seek_ok {N m : Nat} {f : Nat → Int32} {wl dn : Int32} {e sd : Nat} {cs : List Ch} {hd : List Hd} {sl : List Nat} {order its many place length times values headOf headTime headValue : Nat → Int32} (hC : Core N m f wl dn e sd cs hd sl order its many place length times values headOf headTime headValue) (hN : N ≤ 8) (hm : m ≤ 64) {ρ : Nat} (hρ : 2 ≤ ρ) (hρ2 : ρ ≤ 64) (p0 p1 p2 : Int32) (up br st t v : Int32) (rr : Int64) (lo un f1 f2 f3 f4 f5 : Int32) (f6 : Int64) (z1 z2 z3 z4 z5 : Int32) (z6 : Int64) (vp vb vs vt vv : Int32) (vr : Int64) (op ser fr to en ee pl bl ct cv : Int32) (thr hcu cm ca a0 a1 a2 : Int32) (a3 : Int64) (cT cV : Nat → Int32) :
    ∃ (r up' br' st' t' v' : Int32) (rr' : Int64) (lo' un' f1' f2' f3' f4' f5' : Int32) (f6' : Int64) (z1' z2' z3' z4' z5' : Int32) (z6' : Int64) (op' ser' fr' to' en' ee' pl' bl' ct' cv' : Int32) (hcu' cm' ca' a0' a1' a2' : Int32) (a3' : Int64) (cT' cV' : Nat → Int32),
      m_X9_seek (nI N) dn f (nI hd.length) up br st t v rr (nI ρ) lo un f1 f2 f3 f4 f5 f6 z1 z2 z3 z4 z5 z6 op ser fr to en ee pl bl ct cv p0 p1 p2 = some (r, up', br', st', t', v', rr', lo', un', f1', f2', f3', f4', f5', f6', z1', z2', z3', z4', z5', z6', op', ser', fr', to', en', ee', pl', bl', ct', cv') ∧
      m_X10_seek thr (nI N) (nI ρ) dn lo un (nI cs.length) (nI hd.length) hcu cm ca a0 a1 a2 a3 its many times values order headOf headTime headValue cT cV p0 p1 p2 = some (r, 0, lo', un', hcu', cm', ca', a0', a1', a2', a3', cT', cV') ∧
      CuR N f cs hd vp vb vs vt vv vr op' ser' fr' to' en' ee' pl' bl' ct' cv' hcu' cm' ca' cT' cV' := by
  obtain ⟨hD, hS, hP, hsl, hh⟩ := id hC
  rw [m_X9_seek, m_X10_seek, m_X1_close, ob3_mk, m_X10_dropCursor, ob3_mk, m_X2_isDown]
  rcases hP.2 with rfl | ⟨rfl, hw0⟩
  · rw [show ckz (0 : Int32) (some (0 : Int32)) = some 0 from rfl, ob1_mk, if_pos rfl, if_pos rfl]
    rcases isSer_C (N := N) (by omega) p0 with ⟨q1, q2⟩ | ⟨s, hs, rfl, q1, q2⟩
    · rw [q1, q2, ob1_mk, ob1_mk, if_pos rfl, if_pos rfl]
      exact ⟨_, _, _, _, _, _, _, _, _, _, _, _, _, _, _, _, _, _, _, _, _, _, _, _, _, _, _, _, _, _, _, _, _, _, _, _, _, _, _, _, rfl, rfl, cu_closed⟩
    · obtain ⟨u1, u2, u3, u4, u5, u6, y1, y2, y3, y4, y5, y6, e1⟩ := ask_C hD hS hN hm hρ hρ2 hs p1 p2 up br st t v rr lo un f1 f2 f3 f4 f5 f6 z1 z2 z3 z4 z5 z6
      obtain ⟨cT', cV', e2, hcr, hlen⟩ := ask_M hC hN hm hρ hρ2 hs p1 p2 true lo un a0 a1 a2 a3 cT cV
      have e2' : m_X10_ask (nI ρ) lo un (nI cs.length) (nI hd.length) a0 a1 a2 a3 its many times values order headOf headTime headValue cT cV (nI s) p1 p2 (1 : Int32) = _ := e2
      rw [q1, q2, ob1_mk, ob1_mk, if_neg (by decide), if_neg (by decide), m_X1_open, firstOf_s hD (N := N) (by omega) (fun c hc => (hS.1 c hc).1) (by omega), ob1_mk, endOf_s hD (N := N) (by omega) (fun c hc => (hS.1 c hc).1) (by omega), ob1_mk, ob8_mk, e1, ob20_mk, e2', ob8_mk]
      obtain ⟨g1, g2⟩ := seg_filter hS.2.2.1 s
      have g1' : sg cs (fo s cs) (fo (s + 1) cs) = chS s cs := g1
      refine ⟨_, _, _, _, _, _, _, _, _, _, _, _, _, _, _, _, _, _, _, _, _, _, _, _, _, _, _, _, _, _, _, _, _, _, _, _, _, _, _, _, rfl, rfl, Or.inr ⟨rfl, rfl, s, 0, askL s p1 p2 cs hd, ptsOf s cs ++ hdOf s hd, hs, rfl, hlen, rfl, Nat.zero_le _, hcr.2 rfl, rfl, rfl, rfl, hS.2.2.2.2 s, rfl, fo s cs, 0, 0, rfl, rfl, g2, rfl, rfl, Nat.zero_le _, Or.inl ⟨rfl, ?_⟩⟩⟩
      rw [g1', List.drop_zero]
      rfl
  · rw [show ckz (1 : Int32) (some (1 : Int32)) = some 1 from rfl, ob1_mk, if_neg (by decide), if_neg (by decide)]
    exact ⟨_, _, _, _, _, _, _, _, _, _, _, _, _, _, _, _, _, _, _, _, _, _, _, _, _, _, _, _, _, _, _, _, _, _, _, _, _, _, _, _, rfl, rfl, cu_closed⟩
theorem aggCount_ok {N m : Nat} {f : Nat → Int32} {wl dn : Int32} {e sd : Nat} {cs : List Ch} {hd : List Hd} {sl : List Nat} {order its many place length times values headOf headTime headValue : Nat → Int32} (hC : Core N m f wl dn e sd cs hd sl order its many place length times values headOf headTime headValue) (hN : N ≤ 8) (hm : m ≤ 64) {ρ : Nat} (hρ : 2 ≤ ρ) (hρ2 : ρ ≤ 64) (p0 p1 p2 : Int32) (up br st t v : Int32) (rr : Int64) (lo un f1 f2 f3 f4 f5 : Int32) (f6 : Int64) (z1 z2 z3 z4 z5 : Int32) (z6 : Int64) (thr a0 a1 a2 : Int32) (a3 : Int64) (cT cV : Nat → Int32) :
    ∃ (r up' br' st' t' v' : Int32) (rr' : Int64) (lo' un' f1' f2' f3' f4' f5' : Int32) (f6' : Int64) (z1' z2' z3' z4' z5' : Int32) (z6' : Int64) (a0' a1' a2' : Int32) (a3' : Int64),
      m_X9_aggCount (nI N) dn f (nI hd.length) up br st t v rr (nI ρ) lo un f1 f2 f3 f4 f5 f6 z1 z2 z3 z4 z5 z6 p0 p1 p2 = some (r, up', br', st', t', v', rr', lo', un', f1', f2', f3', f4', f5', f6', z1', z2', z3', z4', z5', z6') ∧
      m_X10_aggCount thr (nI N) (nI ρ) dn lo un (nI cs.length) (nI hd.length) a0 a1 a2 a3 its many times values order headOf headTime headValue cT cV p0 p1 p2 = some (r, 0, lo', un', a0', a1', a2', a3', cT, cV) := by
  obtain ⟨hD, hS, hP, hsl, hh⟩ := id hC
  rw [m_X9_aggCount, m_X10_aggCount, m_X2_isDown]
  rcases hP.2 with rfl | ⟨rfl, hw0⟩
  · rw [show ckz (0 : Int32) (some (0 : Int32)) = some 0 from rfl, ob1_mk, if_pos rfl, if_pos rfl]
    rcases isSer_C (N := N) (by omega) p0 with ⟨q1, q2⟩ | ⟨s, hs, rfl, q1, q2⟩
    · rw [q1, q2, ob1_mk, ob1_mk, if_pos rfl, if_pos rfl]
      exact ⟨_, _, _, _, _, _, _, _, _, _, _, _, _, _, _, _, _, _, _, _, _, _, _, _, _, rfl, rfl⟩
    · obtain ⟨u1, u2, u3, u4, u5, u6, y1, y2, y3, y4, y5, y6, e1⟩ := ask_C hD hS hN hm hρ hρ2 hs p1 p2 up br st t v rr lo un f1 f2 f3 f4 f5 f6 z1 z2 z3 z4 z5 z6
      obtain ⟨cT', cV', e2, hcr, hlen⟩ := ask_M hC hN hm hρ hρ2 hs p1 p2 false lo un a0 a1 a2 a3 cT cV
      obtain ⟨rfl, rfl⟩ := hcr.1 rfl
      have e2' : m_X10_ask (nI ρ) lo un (nI cs.length) (nI hd.length) a0 a1 a2 a3 its many times values order headOf headTime headValue cT' cV' (nI s) p1 p2 (0 : Int32) = _ := e2
      rw [q1, q2, ob1_mk, ob1_mk, if_neg (by decide), if_neg (by decide), e1, ob20_mk, e2', ob8_mk]
      exact ⟨_, _, _, _, _, _, _, _, _, _, _, _, _, _, _, _, _, _, _, _, _, _, _, _, _, rfl, rfl⟩
  · rw [show ckz (1 : Int32) (some (1 : Int32)) = some 1 from rfl, ob1_mk, if_neg (by decide), if_neg (by decide)]
    exact ⟨_, _, _, _, _, _, _, _, _, _, _, _, _, _, _, _, _, _, _, _, _, _, _, _, _, rfl, rfl⟩
