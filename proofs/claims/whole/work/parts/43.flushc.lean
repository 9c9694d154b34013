/-! the class: flush -/
theorem keepX {f : Nat → Int32} {e sd : Nat} {cs : List Ch} {hd : List Hd} (hD : DOk f e sd cs hd) {tk0 : Nat → Bool} {its : List (Ch × Bool)} {tc made of la ku kb kf kt kv : Int32} {kr : Int64} {kc : Nat → Int32} {o1 o2 o3 o4 o5 : Int32} {o6 : Int64} {im pf ta : Nat → Int32} (h : TX tk0 its [] (tc, made, of, la, ku, kb, kf, kt, kv, kr, kc, o1, o2, o3, o4, o5, o6, im, pf, ta)) {x : Nat} (hx : x < cs.length) :
    ∃ (tc' la' : Int32) (im' pf' : Nat → Int32), m_X7_keep f tc la im pf (nI x) = some (tc', la', im', pf') ∧ TX tk0 (its ++ [(cs.getD x ch0, false)]) [] (tc', made, of, la', ku, kb, kf, kt, kv, kr, kc, o1, o2, o3, o4, o5, o6, im', pf', ta) := by
  obtain ⟨h1, h2, h3⟩ := h
  rcases h3 with ⟨-, h4, h5⟩ | ⟨hne, -⟩
  · obtain ⟨tc', la', im', pf', e1, hT⟩ := keepT hD h4 hx
    exact ⟨tc', la', im', pf', e1, by rw [nNew_f]; exact h1, h2, Or.inl ⟨rfl, hT, h5⟩⟩
  · exact absurd rfl hne
def kept (l : List Ch) : List (Ch × Bool) := l.map (fun c => (c, false))
theorem keepEntries_loop {f : Nat → Int32} {e sd : Nat} {cs : List Ch} {hd : List Hd} (hD : DOk f e sd cs hd) {tk0 : Nat → Bool} {b : Nat} (hb : b ≤ cs.length) {made of ku kb kf kt kv : Int32} {kr : Int64} {kc : Nat → Int32} {o1 o2 o3 o4 o5 : Int32} {o6 : Int64} {ta : Nat → Int32} : ∀ (r a fu : Nat) (its : List (Ch × Bool)) (tc la : Int32) (im pf : Nat → Int32), r + a = b → r < fu → TX tk0 its [] (tc, made, of, la, ku, kb, kf, kt, kv, kr, kc, o1, o2, o3, o4, o5, o6, im, pf, ta) →
    ∃ (tc' la' : Int32) (im' pf' : Nat → Int32), lp_X9_keepEntries_2 f (nI b) fu (nI a) tc la im pf = some (tc', la', im', pf') ∧ TX tk0 (its ++ kept ((cs.drop a).take r)) [] (tc', made, of, la', ku, kb, kf, kt, kv, kr, kc, o1, o2, o3, o4, o5, o6, im', pf', ta) := by
  intro r
  have hl := hD.2.2.2.1
  induction r with
  | zero =>
    intro a fu its tc la im pf ha hf h
    obtain ⟨n, rfl⟩ : ∃ n, fu = n + 1 := ⟨fu - 1, by omega⟩
    rw [lp_X9_keepEntries_2, if_pos (nI_le (by omega) (by omega))]
    exact ⟨_, _, _, _, rfl, by simpa [kept] using h⟩
  | succ r ih =>
    intro a fu its tc la im pf ha hf h
    obtain ⟨n, rfl⟩ : ∃ n, fu = n + 1 := ⟨fu - 1, by omega⟩
    have hlt : a < cs.length := by omega
    obtain ⟨tc1, la1, im1, pf1, e1, hT⟩ := keepX hD h hlt
    rw [lp_X9_keepEntries_2, if_neg (nI_ge (by omega) (by omega)), e1, ob4_mk, nI_1]
    obtain ⟨tc', la', im', pf', e2, hT2⟩ := ih (a + 1) n _ _ _ _ _ (by omega) (by omega) hT
    refine ⟨tc', la', im', pf', e2, ?_⟩
    rw [drop_cons ch0 hlt, List.take_succ_cons]
    rw [List.append_assoc] at hT2
    exact hT2
theorem keepEntries_C {f : Nat → Int32} {e sd : Nat} {cs : List Ch} {hd : List Hd} (hD : DOk f e sd cs hd) {tk0 : Nat → Bool} {a b : Nat} (hab : a ≤ b) (hb : b ≤ cs.length) {its : List (Ch × Bool)} {tc made of la ku kb kf kt kv : Int32} {kr : Int64} {kc : Nat → Int32} {o1 o2 o3 o4 o5 : Int32} {o6 : Int64} {im pf ta : Nat → Int32} (h : TX tk0 its [] (tc, made, of, la, ku, kb, kf, kt, kv, kr, kc, o1, o2, o3, o4, o5, o6, im, pf, ta)) :
    ∃ (tc' la' : Int32) (im' pf' : Nat → Int32), m_X9_keepEntries f tc la im pf (nI a) (nI b) = some (tc', la', im', pf') ∧ TX tk0 (its ++ kept ((cs.drop a).take (b - a))) [] (tc', made, of, la', ku, kb, kf, kt, kv, kr, kc, o1, o2, o3, o4, o5, o6, im', pf', ta) := by
  have hl := hD.2.2.2.1
  obtain ⟨tc', la', im', pf', e1, hT⟩ := keepEntries_loop hD hb (b - a) a NN its tc la im pf (by omega) (by unfold NN; omega) h
  refine ⟨tc', la', im', pf', ?_, hT⟩
  rw [m_X9_keepEntries, e1, ob4_mk]
theorem seg_filter {cs : List Ch} (h : cs.Pairwise (fun a b => a.1 ≤ b.1)) (s : Nat) : (cs.drop (fo s cs)).take (fo (s + 1) cs - fo s cs) = cs.filter (fun c => c.1 == s) ∧ fo s cs ≤ fo (s + 1) cs := by
  obtain ⟨A, B, C, e1, a1, a2, a3, a4, a5, a6⟩ := segs h s
  refine ⟨?_, by omega⟩
  rw [a4, a5, a6, e1, List.drop_left, show A.length + B.length - A.length = B.length by omega, List.take_left]
/-- what flush makes of series s0 on -/
def flI (m : Nat) (cs : List Ch) (hd : List Hd) : Nat → Nat → List (Ch × Bool)
  | _, 0 => []
  | s, n + 1 => (kept (cs.filter (fun c => c.1 == s)) ++ (toCh m [] (hdOf s hd)).map (mkN s)) ++ flI m cs hd (s + 1) n
theorem flush_loop {f : Nat → Int32} {e sd N m : Nat} {cs : List Ch} {hd : List Hd} (hD : DOk f e sd cs hd) (hN : N ≤ 8) (hm1 : 2 ≤ m) (hm2 : m ≤ 64) (hS : SOk N m cs hd) {tk0 : Nat → Bool} : ∀ (r s fu : Nat) (its : List (Ch × Bool)) (tc made of la ku kb kf kt kv : Int32) (kr : Int64) (kc : Nat → Int32) (o1 o2 o3 o4 o5 : Int32) (o6 : Int64) (im pf ta : Nat → Int32), r + s = N → r < fu → TX tk0 its [] (tc, made, of, la, ku, kb, kf, kt, kv, kr, kc, o1, o2, o3, o4, o5, o6, im, pf, ta) →
    ∃ y : T20, lp_X9_flush_41 (nI N) (nI m) f (nI hd.length) fu (nI s) tc made of la ku kb kf kt kv kr kc o1 o2 o3 o4 o5 o6 im pf ta = some y ∧ TX tk0 (its ++ flI m cs hd s r) [] y := by
  intro r
  have hlg := hD.2.2.2.2.2.2
  induction r with
  | zero =>
    intro s fu its tc made of la ku kb kf kt kv kr kc o1 o2 o3 o4 o5 o6 im pf ta hs hf h
    obtain ⟨n, rfl⟩ : ∃ n, fu = n + 1 := ⟨fu - 1, by omega⟩
    rw [lp_X9_flush_41, if_pos (nI_le (by omega) (by omega))]
    exact ⟨_, rfl, by simpa [flI] using h⟩
  | succ r ih =>
    intro s fu its tc made of la ku kb kf kt kv kr kc o1 o2 o3 o4 o5 o6 im pf ta hs hf h
    obtain ⟨n, rfl⟩ : ∃ n, fu = n + 1 := ⟨fu - 1, by omega⟩
    obtain ⟨g1, g2⟩ := seg_filter hS.2.2.1 s
    rw [lp_X9_flush_41, if_neg (nI_ge (by omega) (by omega)), firstOf_s hD (N := N) (by omega) (fun c hc => (hS.1 c hc).1) (by omega), ob1_mk, endOf_s hD (N := N) (by omega) (fun c hc => (hS.1 c hc).1) (by omega), ob1_mk]
    obtain ⟨tc1, la1, im1, pf1, e1, hT⟩ := keepEntries_C hD g2 (fo_le _ _) h
    rw [e1, ob4_mk]
    obtain ⟨y, e2, hY⟩ := sealHead_C hlg (N := N) (m := m) (s := s) (by omega) hS.2.2.2.1 (by omega) hm1 hm2 hT
    obtain ⟨tc2, made2, of2, la2, ku2, kb2, kf2, kt2, kv2, kr2, kc2, a1, a2, a3, a4, a5, a6, im2, pf2, ta2⟩ := y
    rw [e2, ob20_mk, nI_1]
    obtain ⟨y, e3, hY3⟩ := ih (s + 1) n _ _ _ _ _ _ _ _ _ _ _ _ _ _ _ _ _ _ _ _ _ (by omega) (by omega) hY
    refine ⟨y, e3, ?_⟩
    rw [g1, List.append_assoc, List.append_assoc] at hY3
    have e4 : flI m cs hd s (r + 1) = kept (cs.filter (fun c => c.1 == s)) ++ ((toCh m [] (hdOf s hd)).map (mkN s) ++ flI m cs hd (s + 1) r) := by
      show (kept (cs.filter (fun c => c.1 == s)) ++ (toCh m [] (hdOf s hd)).map (mkN s)) ++ flI m cs hd (s + 1) r = _
      rw [List.append_assoc]
    rw [e4]
    exact hY3
theorem readAgain_loop {f : Nat → Int32} {e sd : Nat} {cs : List Ch} {hd : List Hd} (hD : DOk f e sd cs hd) : ∀ (r k fu : Nat), r + k = hd.length → r < fu → lp_X4_readAgain_15 f (nI e) fu (nI k) = some (nI hd.length) := by
  obtain ⟨-, -, he, -, -, -, hlg⟩ := id hD
  obtain ⟨g1, g2, g3⟩ := id hlg
  intro r
  induction r with
  | zero =>
    intro k fu hk hf
    obtain ⟨n, rfl⟩ : ∃ n, fu = n + 1 := ⟨fu - 1, by omega⟩
    have : k = hd.length := by omega
    subst this
    rw [lp_X4_readAgain_15]
    by_cases h128 : hd.length < 128
    · obtain ⟨x, x1, x2⟩ := g3 hd.length (Nat.le_refl _) h128
      have e1 : m_X4_at f (nI hd.length) (3 : Int32) = some (nI x) := by
        rw [m_X4_at, show (1923 : Int32) = nI 1923 from rfl, show (4 : Int32) = nI 4 from rfl, show (3 : Int32) = nI 3 from rfl, pk_mul, nI_add, nI_add, rd_nI f (by omega), ob1_mk]
        unfold rdc
        rw [if_pos (by omega), show 1923 + hd.length * 4 + 3 = 1923 + 4 * hd.length + 3 by omega, x2]
      rw [if_neg (show ¬ (128 : Int32) ≤ nI hd.length from nI_ge (b := 128) h128 (by omega)), e1, ob1_mk, nI_1, if_neg (fun q => by have := (nI_eq (by omega) (by omega)).mp q; omega)]
    · rw [if_pos (show (128 : Int32) ≤ nI hd.length from nI_le (a := 128) (by omega) (by omega))]
  | succ r ih =>
    intro k fu hk hf
    obtain ⟨n, rfl⟩ : ∃ n, fu = n + 1 := ⟨fu - 1, by omega⟩
    have e1 : m_X4_at f (nI k) (3 : Int32) = some (nI (e + 1)) := logat_s hlg (show k < hd.length by omega) (j := 3) (by omega)
    rw [lp_X4_readAgain_15, if_neg (show ¬ (128 : Int32) ≤ nI k from nI_ge (b := 128) (by omega) (by omega)), e1, ob1_mk, nI_1, if_pos rfl, nI_1]
    exact ih (k + 1) n (by omega) (by omega)
theorem readAgain_C {f : Nat → Int32} {e sd : Nat} {cs : List Ch} {hd : List Hd} (hD : DOk f e sd cs hd) (g : Int32) : m_X4_readAgain f g = some (nI hd.length) := by
  have := readAgain_loop hD hd.length 0 NN (by omega) (by have := hD.2.2.2.2.2.2.1; unfold NN; omega)
  have e' : lp_X4_readAgain_15 f (nI e) NN (0 : Int32) = some (nI hd.length) := this
  rw [m_X4_readAgain, epoch_s hD.1 hD.2.1 hD.2.2.1, ob1_mk, e', ob1_mk]
/-- what a turn answers and leaves -/
def tOut (b : Bool) (ans : Int32) : Int32 := if b = true then ans else -9
theorem turnDisk_C {f : Nat → Int32} {e sd e' N most : Nat} {cs : List Ch} {hd : List Hd} (hD : DOk f e sd cs hd) (hS : SOk N most cs hd) {its : List (Ch × Bool)} {tc made of la ku kb kf kt kv : Int32} {kr : Int64} {kc : Nat → Int32} {o1 o2 o3 o4 o5 : Int32} {o6 : Int64} {im pf ta : Nat → Int32} (h : TX (tkOf cs) its [] (tc, made, of, la, ku, kb, kf, kt, kv, kr, kc, o1, o2, o3, o4, o5, o6, im, pf, ta)) (wd wl dn ans : Int32) :
    (∃ out, plan (tkOf cs) its = some out ∧ its.length ≤ 96 ∧ ∃ im' : Nat → Int32, m_X9_turnDisk wd wl dn f tc la ku kc im pf (nI e') ans = some (tOut (wrs (turnW (ix (1 - sd)) out ++ [(0, nI (2 * e' + (1 - sd)))]) wd wl dn f).1 ans, (wrs (turnW (ix (1 - sd)) out ++ [(0, nI (2 * e' + (1 - sd)))]) wd wl dn f).2.1, (wrs (turnW (ix (1 - sd)) out ++ [(0, nI (2 * e' + (1 - sd)))]) wd wl dn f).2.2.1, (wrs (turnW (ix (1 - sd)) out ++ [(0, nI (2 * e' + (1 - sd)))]) wd wl dn f).2.2.2.1, (wrs (turnW (ix (1 - sd)) out ++ [(0, nI (2 * e' + (1 - sd)))]) wd wl dn f).2.2.2.2, im')) ∨
    ((plan (tkOf cs) its = none ∨ 96 < its.length) ∧ m_X9_turnDisk wd wl dn f tc la ku kc im pf (nI e') ans = some (-3, wd, wl, dn, f, im)) := by
  obtain ⟨h1, h2, h3⟩ := h
  rcases h3 with ⟨-, h4, h5⟩ | ⟨hne, -⟩
  · rcases h4 with ⟨out, g1, g2, rfl, rfl, g5, rfl, g7, g8⟩ | ⟨g1, rfl, g3, g4, g5, g6⟩
    · left
      refine ⟨out, g1, g2, ?_⟩
      obtain ⟨q1, q2, q3, q4⟩ := plan_ok its out _ g1
      obtain ⟨im', e1⟩ := writeOut_C (e' := e') (wd := wd) (wl := wl) (dn := dn) hD.1 hD.2.1 hD.2.2.1 (by omega) (newLen_le g1) g7 (fun q hq hb => ⟨(q3 q hq hb).1, (q3 q hq hb).2.1⟩)
      rw [q1] at e1
      refine ⟨im', ?_⟩
      rw [m_X9_turnDisk, m_X7_lacksSpace, show ckz (0 : Int32) (some (0 : Int32)) = some 0 from rfl, ob1_mk, if_pos rfl, e1, ob6_mk]
      unfold tOut
      cases hW : (wrs (turnW (ix (1 - sd)) out ++ [(0, nI (2 * e' + (1 - sd)))]) wd wl dn f).1 with
      | true => rw [if_neg (by decide), ob1_mk]; rfl
      | false => rw [if_pos (by decide), ob1_mk]; rfl
    · right
      refine ⟨g1, ?_⟩
      rw [m_X9_turnDisk, m_X7_lacksSpace, show ckz (1 : Int32) (some (1 : Int32)) = some 1 from rfl, ob1_mk, if_neg (by decide)]
  · exact absurd rfl hne
