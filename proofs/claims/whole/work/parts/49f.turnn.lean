/-! the reference: turn, whole -/
theorem news_drop_t {out : List (Ch × Bool)} {k : Nat} (hk : k < out.length) (h : (out.getD k cb0).2 = true) : newsW (out.drop k) = chkW (out.getD k cb0).1 ++ newsW (out.drop (k + 1)) := by
  rw [drop_cons cb0 hk, pair_t h, news_cons_t]
theorem news_drop_f {out : List (Ch × Bool)} {k : Nat} (hk : k < out.length) (h : (out.getD k cb0).2 = false) : newsW (out.drop k) = newsW (out.drop (k + 1)) := by
  rw [drop_cons cb0 hk, pair_f h, news_cons_f]
theorem map_gd (out : List (Ch × Bool)) {k : Nat} (hk : k < out.length) : (out.map Prod.fst).getD k ch0 = (out.getD k cb0).1 := gd_map Prod.fst out k cb0 hk ch0
theorem index_M {sd : Nat} (hs : sd ≤ 1) : m_X10_index ((1 : Int32) - nI sd) = some (nI (ix (1 - sd))) := by
  rcases (show sd = 0 ∨ sd = 1 by omega) with rfl | rfl <;> rfl
theorem m3_ne : ¬ (-3 : Int32) = 0 := by decide
theorem m9_ne : ¬ (-9 : Int32) = 0 := by decide
theorem wrM_0 {wd wl dn : Int32} {f : Nat → Int32} {x : Int32} : m_X10_write wd wl dn f (0 : Int32) x = if wl = 0 then some (0, wd, wl, 1, f) else some (1, wd + 1, dec1 wl, dn, upd f 0 x) := wrM (k := 0) (by omega)
theorem turn95 {its many place length times values next isNew order : Nat → Int32} {cN eN : Int32} {out : List (Ch × Bool)} {nx : List Nat} {sd e' : Nat} (hP : PL place length next isNew out nx) (hA : nxA its many place length times values next (out.map Prod.fst) nx) (hl : out.length ≤ 96) (hs : sd ≤ 1) : ∀ (r k fu : Nat) (wd wl dn bits : Int32) (f made : Nat → Int32), r + k = out.length → r < fu →
    ∃ (bits' : Int32) (made' order' : Nat → Int32), (∀ j, j < out.length → order' j = nI (nx.getD j 0)) ∧ lp_X10_turn_95 cN eN (nI sd) (nI out.length) its many times values order next isNew (nI e') place length fu (nI k) wd wl dn bits f made = (if (wrs (newsW (out.drop k) ++ (seqW (ix (1 - sd)) (img (out.map Prod.fst)) 0 (1 + 10 * out.length) ++ [(0, nI (2 * e' + (1 - sd)))])) wd wl dn f).1 = true then some (0, (wrs (newsW (out.drop k) ++ (seqW (ix (1 - sd)) (img (out.map Prod.fst)) 0 (1 + 10 * out.length) ++ [(0, nI (2 * e' + (1 - sd)))])) wd wl dn f).2.1, (wrs (newsW (out.drop k) ++ (seqW (ix (1 - sd)) (img (out.map Prod.fst)) 0 (1 + 10 * out.length) ++ [(0, nI (2 * e' + (1 - sd)))])) wd wl dn f).2.2.1, (wrs (newsW (out.drop k) ++ (seqW (ix (1 - sd)) (img (out.map Prod.fst)) 0 (1 + 10 * out.length) ++ [(0, nI (2 * e' + (1 - sd)))])) wd wl dn f).2.2.2.1, nI out.length, nI e', nI (1 - sd), bits', (wrs (newsW (out.drop k) ++ (seqW (ix (1 - sd)) (img (out.map Prod.fst)) 0 (1 + 10 * out.length) ++ [(0, nI (2 * e' + (1 - sd)))])) wd wl dn f).2.2.2.2, place, length, order', made')
      else some (-9, (wrs (newsW (out.drop k) ++ (seqW (ix (1 - sd)) (img (out.map Prod.fst)) 0 (1 + 10 * out.length) ++ [(0, nI (2 * e' + (1 - sd)))])) wd wl dn f).2.1, (wrs (newsW (out.drop k) ++ (seqW (ix (1 - sd)) (img (out.map Prod.fst)) 0 (1 + 10 * out.length) ++ [(0, nI (2 * e' + (1 - sd)))])) wd wl dn f).2.2.1, (wrs (newsW (out.drop k) ++ (seqW (ix (1 - sd)) (img (out.map Prod.fst)) 0 (1 + 10 * out.length) ++ [(0, nI (2 * e' + (1 - sd)))])) wd wl dn f).2.2.2.1, cN, eN, nI sd, bits', (wrs (newsW (out.drop k) ++ (seqW (ix (1 - sd)) (img (out.map Prod.fst)) 0 (1 + 10 * out.length) ++ [(0, nI (2 * e' + (1 - sd)))])) wd wl dn f).2.2.2.2, place, length, order, made')) := by
  intro r
  have hml : (out.map Prod.fst).length = out.length := List.length_map _
  have hA1 : ∀ k, k < out.length → next k = nI (nx.getD k 0) := fun k hk => (hP.2 k hk).1
  induction r with
  | zero =>
    intro k fu wd wl dn bits f made hk hf
    obtain ⟨n, rfl⟩ : ∃ n, fu = n + 1 := ⟨fu - 1, by omega⟩
    have hix : ix (1 - sd) = 1 ∨ ix (1 - sd) = 962 := ix_two _
    have hwi := widxM hA (by omega) (b := ix (1 - sd)) (by omega) wd wl dn f
    rw [hml] at hwi
    obtain ⟨order', e2, ho⟩ := ord_loop (next := next) hl hA1 out.length 0 NN order (by omega) (by unfold NN; omega) (fun j hj => by omega)
    have e2' : lp_X10_turn_174 (nI out.length) next NN (0 : Int32) order = some order' := e2
    have er : (2 : Int32) * nI e' + (1 : Int32) - nI sd = nI (2 * e' + (1 - sd)) := by
      rw [show (2 : Int32) = nI 2 from rfl, pk_mul, nI_1, pk_sub (by omega)]
      congr 1
      omega
    refine ⟨bits, made, order', ho, ?_⟩
    rw [lp_X10_turn_95, if_pos (nI_le (by omega) (by omega)), index_M hs, ob1_mk, hwi, List.drop_eq_nil_of_le (by omega), show newsW [] = [] from rfl, List.nil_append, wrs_app]
    unfold o5
    rw [ob5_mk, er]
    cases hb : (wrs (seqW (ix (1 - sd)) (img (out.map Prod.fst)) 0 (1 + 10 * out.length)) wd wl dn f).1 with
    | false => rw [if_pos (by decide), if_neg (show ¬ false = true by decide), hb, if_neg (by decide)]
    | true =>
      rw [if_neg (by decide), if_pos rfl, wrM_0, wrs_cons]
      by_cases hw : (wrs (seqW (ix (1 - sd)) (img (out.map Prod.fst)) 0 (1 + 10 * out.length)) wd wl dn f).2.2.1 = 0
      · rw [if_pos hw, if_pos hw, ob5_mk, if_pos rfl, if_neg (fun q => Bool.noConfusion q)]
      · rw [if_neg hw, if_neg hw, ob5_mk, if_neg (by decide)]
        rw [e2', ob1_mk]
        have es : (1 : Int32) - nI sd = nI (1 - sd) := pk_sub (a := 1) hs
        rw [es, if_pos (show (wrs [] _ _ _ _).1 = true from rfl)]
        rfl
  | succ r ih =>
    intro k fu wd wl dn bits f made hk hf
    obtain ⟨n, rfl⟩ : ∃ n, fu = n + 1 := ⟨fu - 1, by omega⟩
    have hlt : k < out.length := by omega
    obtain ⟨s1, s2, s3, s4, s5, s6⟩ := hP.2 k hlt
    rw [lp_X10_turn_95, if_neg (nI_ge hlt (by omega)), ckb_in _ (show k < 240 by omega) (by omega), nI_clamp (by omega), s3]
    cases hb : (out.getD k cb0).2 with
    | false =>
      rw [if_pos (by decide), nI_1, news_drop_f hlt hb]
      exact ih (k + 1) n wd wl dn bits f made (by omega) (by omega)
    | true =>
      have hA2 := (hA.2 k (by rw [hml]; exact hlt)).2.1
      rw [map_gd out hlt] at hA2
      obtain ⟨bits1, made1, e1⟩ := wchM (bits := bits) (made := made) hA2 s4 s6 wd wl dn f
      rw [if_neg (by decide), ckb_in _ (show k < 240 by omega) (by omega), s1, e1, ob7_mk, news_drop_t hlt hb, List.append_assoc, wrs_app, nI_1]
      cases hw : (wrs (chkW (out.getD k cb0).1) wd wl dn f).1 with
      | false =>
        rw [if_pos (by decide), if_neg (show ¬ false = true by decide), hw]
        obtain ⟨order', e2, ho⟩ := ord_loop (next := next) hl hA1 out.length 0 NN order (by omega) (by unfold NN; omega) (fun j hj => by omega)
        exact ⟨bits1, made1, order', ho, by rw [if_neg (by decide)]⟩
      | true =>
        rw [if_neg (by decide), if_pos rfl]
        exact ih (k + 1) n _ _ _ bits1 _ made1 (by omega) (by omega)
theorem turn14 {its many times values next isNew order f : Nat → Int32} {wd wl dn eN sN p0 : Int32} {cs : List Ch} {sl : List Nat} {itm : List (Ch × Bool)} {nx : List Nat} {N most : Nat} (hx : NX its many times values next isNew cs sl itm nx) (hp : itP itm) (hp1 : ∀ q ∈ itm, 1 ≤ q.1.2.1.length) (hW : ∀ c ∈ cs, chW N most c) (hcl : cs.length ≤ 96) (hl : itm.length ≤ 96) : ∀ (r k fu : Nat) (bits : Int32) (place length made : Nat → Int32) (out : List (Ch × Bool)), r + k = itm.length → r < fu → plan (tkOf cs) (itm.take k) = some out → PL place length next isNew out nx → slOk order its many place length times values cs sl →
    (plan (tkOf cs) itm = none ∧ ∃ (bits' : Int32) (place' length' made' : Nat → Int32), lp_X10_turn_14 wd wl dn (nI cs.length) eN sN (nI itm.length) f its many times values order next isNew p0 fu (nI k) bits place length made = some (-3, wd, wl, dn, nI cs.length, eN, sN, bits', f, place', length', order, made') ∧ slOk order its many place' length' times values cs sl) ∨
    (∃ out', plan (tkOf cs) itm = some out' ∧ ∃ (bits' : Int32) (place' length' made' : Nat → Int32), lp_X10_turn_14 wd wl dn (nI cs.length) eN sN (nI itm.length) f its many times values order next isNew p0 fu (nI k) bits place length made = lp_X10_turn_95 (nI cs.length) eN sN (nI itm.length) its many times values order next isNew p0 place' length' NN (0 : Int32) wd wl dn bits' f made' ∧ PL place' length' next isNew out' nx ∧ slOk order its many place' length' times values cs sl) := by
  intro r
  induction r with
  | zero =>
    intro k fu bits place length made out hk hf hpl hPL hsl
    obtain ⟨n, rfl⟩ : ∃ n, fu = n + 1 := ⟨fu - 1, by omega⟩
    rw [List.take_of_length_le (by omega)] at hpl
    refine Or.inr ⟨out, hpl, bits, place, length, made, ?_, hPL, hsl⟩
    rw [lp_X10_turn_14, if_pos (nI_le (by omega) (by omega))]
  | succ r ih =>
    intro k fu bits place length made out hk hf hpl hPL hsl
    obtain ⟨n, rfl⟩ : ∃ n, fu = n + 1 := ⟨fu - 1, by omega⟩
    have hlt : k < itm.length := by omega
    have hol : out.length = k := by rw [(plan_ok _ _ _ hpl).1, List.length_take]; omega
    obtain ⟨k1, k2, ⟨t1, t2, t3, t4⟩, k4, k5⟩ := hx.2.1 k hlt
    have hpk := hp _ (gd_mem cb0 hlt)
    have hpk1 := hp1 _ (gd_mem cb0 hlt)
    have etk : itm.take (k + 1) = itm.take k ++ [itm.getD k cb0] := take_s1 cb0 hlt
    rw [lp_X10_turn_14, if_neg (nI_ge hlt (by omega)), ckb_in _ (show k < 240 by omega) (by omega), nI_clamp (by omega), k2]
    cases hb : (itm.getD k cb0).2 with
    | false =>
      obtain ⟨j, j1, j2, j3⟩ := k5 hb
      obtain ⟨s1, s2, s3, s4, s5, s6, s7⟩ := hsl.2.2 j j1
      obtain ⟨-, -, -, w4, w5⟩ := hW _ (gd_mem ch0 j1)
      rw [if_pos (by decide), nI_1]
      have hpl2 : plan (tkOf cs) (itm.take (k + 1)) = some (out ++ [((itm.getD k cb0).1, false)]) := by
        rw [etk, pair_f hb]
        exact plan_keep hpl
      refine ih (k + 1) n bits place length made _ (by omega) (by omega) hpl2 ⟨by simp; have := hx.1; omega, fun i hi => ?_⟩ hsl
      rw [List.length_append, List.length_singleton] at hi
      rw [gd_app2 out _ _ i hi, hol]
      by_cases hik : i = k
      · rw [if_pos hik, hik]
        exact ⟨k1, t1, by rw [k2, hb], by rw [j2, s5, j3], by rw [j2, s6, j3], by dsimp only; rw [j3]; exact w5⟩
      · rw [if_neg hik]
        exact hPL.2 i (by omega)
    | true =>
      obtain ⟨n1, n2⟩ := k4 hb
      obtain ⟨m', e1, m1, m2, m3⟩ := make_spec (bits := bits) (made := made) t1 t3 hpk1 hpk t4
      have hcn : clen (itm.getD k cb0).1 = 2 + ((encB (itm.getD k cb0).1.2.1).length + 31) / 32 := rfl
      have hle := encB_len (itm.getD k cb0).1.2.1 hpk
      have hfd := findM (order := order) (place := place) (length := length) (next := next) (isNew := isNew) (cN := nI cs.length) (tk := marks (tkOf cs) out) (n := clen (itm.getD k cb0).1) (k0 := k) (by omega) (fun i hi => by
        have := isTk_M hsl hW hcl hPL (by omega) hi
        rw [hol] at this
        exact this)
      rw [if_neg (by decide), ckb_in _ (show k < 240 by omega) (by omega), k1, e1, ob3_mk, ← hcn, hfd, ob1_mk]
      have hps := plan_snoc (itm.take k) (itm.getD k cb0) (tkOf cs)
      rw [hpl] at hps
      dsimp only at hps
      rw [if_pos hb, ← etk] at hps
      cases hff : ff (marks (tkOf cs) out) (clen (itm.getD k cb0).1) with
      | none =>
        rw [hff] at hps
        left
        refine ⟨?_, nI (encB (itm.getD k cb0).1.2.1).length, place, length, m', ?_, hsl⟩
        · have := plan_none (r := itm.drop (k + 1)) hps
          rw [List.take_append_drop] at this
          exact this
        · rw [show plI none = (-1 : Int32) from rfl, if_pos rfl]
      | some p =>
        rw [hff] at hps
        obtain ⟨f1, f2⟩ := ff_ok (by omega) hff
        rw [show plI (some p) = nI (2435 + p) from rfl, if_neg (plI_none p (by omega)), ckb_in _ (show k < 240 by omega) (by omega), ckb_in _ t1 (by omega), ckb_in _ (show k < 240 by omega) (by omega), ckb_in _ t1 (by omega), nI_clamp (show nx.getD k 0 < 2 ^ 31 by omega), nI_1]
        refine ih (k + 1) n _ _ _ _ _ (by omega) (by omega) hps ⟨by simp; have := hx.1; omega, fun i hi => ?_⟩ ⟨hsl.1, hsl.2.1, fun j hj => ?_⟩
        · rw [List.length_append, List.length_singleton] at hi
          rw [gd_app2 out _ _ i hi, hol]
          by_cases hik : i = k
          · rw [if_pos hik, hik, pk_us, pk_us]
            refine ⟨k1, t1, by rw [k2, hb], rfl, rfl, ?_⟩
            show 2435 + p + clen (itm.getD k cb0).1 ≤ 4096
            omega
          · rw [if_neg hik]
            have hne := n2 i (by omega) hik
            rw [pk_un hne, pk_un hne]
            exact hPL.2 i (by omega)
        · obtain ⟨s1, s2, s3, s4, s5, s6, s7⟩ := hsl.2.2 j hj
          have hne : sl.getD j 0 ≠ nx.getD k 0 := fun q => n1 (q ▸ gd_mem0 (by rw [hsl.1]; exact hj))
          exact ⟨s1, s2, s3, s4, by rw [pk_un hne]; exact s5, by rw [pk_un hne]; exact s6, s7⟩
/-- the slots of the chunks that came -/
def slOk' (order its many place length times values : Nat → Int32) (cs : List Ch) (sl : List Nat) : Prop := sl.length = cs.length ∧ ∀ k, k < cs.length → sl.getD k 0 < 240 ∧ order k = nI (sl.getD k 0) ∧ its (sl.getD k 0) = nI (cs.getD k ch0).1 ∧ many (sl.getD k 0) = nI (cs.getD k ch0).2.1.length ∧ place (sl.getD k 0) = nI (cs.getD k ch0).2.2 ∧ length (sl.getD k 0) = nI (clen (cs.getD k ch0)) ∧ slotAt times values (sl.getD k 0) (cs.getD k ch0).2.1
theorem slOk_of' {order its many place length times values : Nat → Int32} {cs : List Ch} {sl : List Nat} (h : slOk' order its many place length times values cs sl) (hap : cs.Pairwise apart) (hpl : ∀ c ∈ cs, c.2.2 + clen c ≤ 4096) : slOk order its many place length times values cs sl := by
  refine ⟨h.1, ?_, h.2⟩
  unfold List.Nodup
  rw [List.pairwise_iff_getElem]
  intro i j hi hj hij q
  rw [List.pairwise_iff_getElem] at hap
  have hi' : i < cs.length := by rw [← h.1]; exact hi
  have hj' : j < cs.length := by rw [← h.1]; exact hj
  have hap2 := hap i j hi' hj' hij
  have gi : sl.getD i 0 = sl[i] := by rw [List.getD_eq_getElem?_getD, List.getElem?_eq_getElem hi]; rfl
  have gj : sl.getD j 0 = sl[j] := by rw [List.getD_eq_getElem?_getD, List.getElem?_eq_getElem hj]; rfl
  have ci : cs.getD i ch0 = cs[i] := by rw [List.getD_eq_getElem?_getD, List.getElem?_eq_getElem hi']; rfl
  have cj : cs.getD j ch0 = cs[j] := by rw [List.getD_eq_getElem?_getD, List.getElem?_eq_getElem hj']; rfl
  have pi := (h.2 i hi').2.2.2.2.1
  have pj := (h.2 j hj').2.2.2.2.1
  rw [gi, ci] at pi
  rw [gj, cj, ← q, pi] at pj
  have b1 := hpl _ (List.getElem_mem hi')
  have b2 := hpl _ (List.getElem_mem hj')
  have := (nI_eq (by omega) (by omega)).mp pj
  have c1 := clen_ge cs[i]
  have c2 := clen_ge cs[j]
  unfold apart at hap2
  omega
theorem turn_M {its many place length times values next isNew order f made : Nat → Int32} {wd wl dn bits : Int32} {e e' sd : Nat} {cs : List Ch} {sl : List Nat} {itm : List (Ch × Bool)} {nx : List Nat} {N most : Nat} (hsl : slOk order its many place length times values cs sl) (hx : NX its many times values next isNew cs sl itm nx) (hp : itP itm) (hp1 : ∀ q ∈ itm, 1 ≤ q.1.2.1.length) (hW : ∀ c ∈ cs, chW N most c) (hcl : cs.length ≤ 96) (hl : itm.length ≤ 240) (hs : sd ≤ 1) :
    ∃ (bits' : Int32) (place' length' order' made' : Nat → Int32), m_X10_turn wd wl dn (nI cs.length) (nI e) (nI sd) (nI itm.length) bits f its many place length times values order next isNew made (nI e') = some ((tR cs sd e' itm wd wl dn f).1, (tR cs sd e' itm wd wl dn f).2.1, (tR cs sd e' itm wd wl dn f).2.2.1, (tR cs sd e' itm wd wl dn f).2.2.2.1, (if (tR cs sd e' itm wd wl dn f).1 = 0 then nI itm.length else nI cs.length), (if (tR cs sd e' itm wd wl dn f).1 = 0 then nI e' else nI e), (if (tR cs sd e' itm wd wl dn f).1 = 0 then nI (1 - sd) else nI sd), bits', (tR cs sd e' itm wd wl dn f).2.2.2.2, place', length', order', made') ∧
      ((tR cs sd e' itm wd wl dn f).1 ≠ 0 → order' = order ∧ slOk order its many place' length' times values cs sl) ∧
      ((tR cs sd e' itm wd wl dn f).1 = 0 → ∃ out, itm.length ≤ 96 ∧ plan (tkOf cs) itm = some out ∧ (wrs (tWr sd e' out) wd wl dn f).1 = true ∧ slOk' order' its many place' length' times values (out.map Prod.fst) nx) := by
  rw [m_X10_turn]
  by_cases h96 : itm.length ≤ 96
  · rw [if_pos (show nI itm.length ≤ (96 : Int32) from nI_le (b := 96) h96 (by omega))]
    rcases turn14 (wd := wd) (wl := wl) (dn := dn) (eN := nI e) (sN := nI sd) (p0 := nI e') (f := f) hx hp hp1 hW hcl h96 itm.length 0 NN bits place length made [] (by omega) (by unfold NN; omega) rfl ⟨by simp, fun k hk => by simp at hk⟩ hsl with ⟨h1, bits', place', length', made', e1, hs1⟩ | ⟨out, h1, bits', place', length', made', e1, hP, hs1⟩
    · have e1' : lp_X10_turn_14 wd wl dn (nI cs.length) (nI e) (nI sd) (nI itm.length) f its many times values order next isNew (nI e') NN (0 : Int32) bits place length made = some (-3, wd, wl, dn, nI cs.length, nI e, nI sd, bits', f, place', length', order, made') := e1
      rw [e1', tR_bad (Or.inl h1)]
      refine ⟨bits', place', length', order, made', ?_, fun _ => ⟨rfl, hs1⟩, fun q => absurd q m3_ne⟩
      rw [if_neg m3_ne, if_neg m3_ne, if_neg m3_ne]
    · obtain ⟨p1, p2, p3, p4⟩ := plan_ok _ _ _ h1
      have e1' : lp_X10_turn_14 wd wl dn (nI cs.length) (nI e) (nI sd) (nI itm.length) f its many times values order next isNew (nI e') NN (0 : Int32) bits place length made = lp_X10_turn_95 (nI cs.length) (nI e) (nI sd) (nI itm.length) its many times values order next isNew (nI e') place' length' NN (0 : Int32) wd wl dn bits' f made' := e1
      have hA : nxA its many place' length' times values next (out.map Prod.fst) nx := by
        refine ⟨by rw [List.length_map, p1]; exact hx.1, fun k hk => ?_⟩
        rw [List.length_map] at hk
        obtain ⟨s1, s2, s3, s4, s5, s6⟩ := hP.2 k hk
        rw [p1] at hk
        obtain ⟨k1, k2, ⟨t1, t2, t3, t4⟩, k4, k5⟩ := hx.2.1 k hk
        obtain ⟨q1, q2, q3, q4⟩ := p2 k hk
        rw [map_gd out (by omega), q2, q3]
        exact ⟨k1, ⟨t1, t3, t4, hp1 _ (gd_mem cb0 hk), hp _ (gd_mem cb0 hk)⟩, t2, s4, s5⟩
      obtain ⟨bits2, made2, order2, ho, e2⟩ := turn95 (order := order) (cN := nI cs.length) (eN := nI e) (e' := e') hP hA (by omega) hs out.length 0 NN wd wl dn bits' f made' (by omega) (by unfold NN; omega)
      rw [List.drop_zero, ← List.append_assoc] at e2
      have e2' : lp_X10_turn_95 (nI cs.length) (nI e) (nI sd) (nI out.length) its many times values order next isNew (nI e') place' length' NN (0 : Int32) wd wl dn bits' f made' = (if (wrs (tWr sd e' out) wd wl dn f).1 = true then some (0, (wrs (tWr sd e' out) wd wl dn f).2.1, (wrs (tWr sd e' out) wd wl dn f).2.2.1, (wrs (tWr sd e' out) wd wl dn f).2.2.2.1, nI out.length, nI e', nI (1 - sd), bits2, (wrs (tWr sd e' out) wd wl dn f).2.2.2.2, place', length', order2, made2) else some (-9, (wrs (tWr sd e' out) wd wl dn f).2.1, (wrs (tWr sd e' out) wd wl dn f).2.2.1, (wrs (tWr sd e' out) wd wl dn f).2.2.2.1, nI cs.length, nI e, nI sd, bits2, (wrs (tWr sd e' out) wd wl dn f).2.2.2.2, place', length', order, made2)) := e2
      rw [p1] at e2'
      rw [e1', e2', tR_ok h1 h96]
      cases hw : (wrs (tWr sd e' out) wd wl dn f).1 with
      | true =>
        refine ⟨bits2, place', length', order2, made2, ?_, fun q => absurd rfl q, fun _ => ⟨out, h96, h1, hw, ?_, fun k hk => ?_⟩⟩
        · rw [if_pos rfl, show tOut true 0 = (0 : Int32) from rfl, if_pos rfl, if_pos rfl, if_pos rfl]
        · exact hA.1
        · obtain ⟨a1, ⟨b1, b2, b3, b4, b5⟩, a3, a4, a5⟩ := hA.2 k hk
          rw [List.length_map] at hk
          exact ⟨b1, ho k hk, a3, b2, a4, a5, b3⟩
      | false =>
        refine ⟨bits2, place', length', order, made2, ?_, fun _ => ⟨rfl, hs1⟩, fun q => absurd q m9_ne⟩
        rw [if_neg (by decide), show tOut false 0 = (-9 : Int32) from rfl, if_neg m9_ne, if_neg m9_ne, if_neg m9_ne]
  · rw [if_neg (show ¬ nI itm.length ≤ (96 : Int32) from nI_ge (a := 96) (by omega) (by omega)), tR_bad (Or.inr (by omega))]
    refine ⟨bits, place, length, order, made, ?_, fun _ => ⟨rfl, hsl⟩, fun q => absurd q m3_ne⟩
    rw [if_neg m3_ne, if_neg m3_ne, if_neg m3_ne]
