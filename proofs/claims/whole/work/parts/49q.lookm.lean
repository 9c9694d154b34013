/-! the reference: looks -/
theorem isPart_M (p1 p2 : Int32) (ps : List Pt) : m_X10_isPart (pfst ps) (plst ps) p1 p2 = some (nI (partB p1 p2 ps).toNat) := by
  rw [m_X10_isPart]
  have e1 : (if plst ps < p1 then some (1 : Int32) else if pfst ps ≤ p2 then some (0 : Int32) else some (1 : Int32)) = some (nI (outB p1 p2 ps).toNat) := by
    unfold outB
    by_cases h1 : plst ps < p1
    · rw [if_pos h1, decide_eq_true h1]; rfl
    · rw [if_neg h1, decide_eq_false h1]
      by_cases h2 : pfst ps ≤ p2
      · rw [if_pos h2, decide_eq_false (fun q => lt_not_le.mp q h2)]; rfl
      · rw [if_neg h2, decide_eq_true (lt_not_le.mpr h2)]; rfl
  have e2 : (if pfst ps < p1 then some (0 : Int32) else if p2 < plst ps then some (0 : Int32) else some (1 : Int32)) = some (nI (allB p1 p2 ps).toNat) := by
    unfold allB
    by_cases h1 : pfst ps < p1
    · rw [if_pos h1, decide_eq_true h1]; rfl
    · rw [if_neg h1, decide_eq_false h1]
      by_cases h2 : p2 < plst ps
      · rw [if_pos h2, decide_eq_true h2]; rfl
      · rw [if_neg h2, decide_eq_false h2]; rfl
  rw [e1, ob1_mk, e2, ob1_mk]
  unfold partB
  cases outB p1 p2 ps <;> cases allB p1 p2 ps <;> rfl
theorem into_loop {order its many place length times values : Nat → Int32} {cs : List Ch} {sl : List Nat} {m : Nat} (h : slOk order its many place length times values cs sl) (hcl : cs.length ≤ 96) {N : Nat} (hN : N < 900) (hW : ∀ c ∈ cs, chW N m c) (hm : m ≤ 64) (hsort : cs.Pairwise (fun a b => a.1 ≤ b.1)) {s : Nat} (hs : s < 900) (p1 p2 : Int32) {b : Nat} (hb : b ≤ (chS s cs).length) : ∀ (r k n lo un : Nat), r + k = b → r < n → lp_X10_lookInto_3 (nI cs.length) its many times order (nI s) (nI b) p1 p2 n (nI k) (nI lo) (nI un) = some (nI (lo + (sg (chS s cs) k b).length), nI (un + unp p1 p2 (sg (chS s cs) k b))) := by
  have hfl : (chS s cs).length ≤ cs.length := List.length_filter_le _ _
  intro r
  induction r with
  | zero =>
    intro k n lo un hk hn
    obtain ⟨q, rfl⟩ : ∃ q, n = q + 1 := ⟨n - 1, by omega⟩
    have : k = b := by omega
    subst this
    rw [lp_X10_lookInto_3, if_pos (nI_le (by omega) (by omega)), sg_nil]
    rfl
  | succ r ih =>
    intro k n lo un hk hn
    obtain ⟨q, rfl⟩ : ∃ q, n = q + 1 := ⟨n - 1, by omega⟩
    have hlt : k < (chS s cs).length := by omega
    obtain ⟨x, e1, hP, -, -⟩ := slot_M h hcl hN hW hm hsort hs hlt
    rw [lp_X10_lookInto_3, if_neg (nI_ge (by omega) (by omega)), e1, ob1_mk, firstTime_M hP, ob1_mk, ob1_mk, lastTime_M hP, ob1_mk, isPart_M, ob1_mk, nI_1, nI_1, sg_cons (by omega) hlt, unp_cons, List.length_cons]
    cases hp : partB p1 p2 ((chS s cs).getD k ch0).2.1 with
    | true =>
      rw [if_neg (by decide), ob1_mk, nI_1, ih (k + 1) q _ _ (by omega) (by omega), if_pos rfl]
      congr 2
      · congr 1; omega
      · congr 1; omega
    | false =>
      rw [if_pos (by decide), ob1_mk, show nI un + (0 : Int32) = nI un from nI_add un 0, ih (k + 1) q _ _ (by omega) (by omega), if_neg (by simp)]
      congr 2
      · congr 1; omega
      · congr 1; omega
theorem pfst_grp {l : List Ch} (h : 1 ≤ l.length) (hl : ∀ c ∈ l, 1 ≤ c.2.1.length) : pfst (fpts l) = pfst (l.getD 0 ch0).2.1 := by
  cases l with
  | nil => simp at h
  | cons c l =>
    rw [fpts_cons, pfst_app]
    · rfl
    · have := hl c List.mem_cons_self
      intro q
      rw [q] at this
      simp at this
theorem plst_grp {l : List Ch} (h : 1 ≤ l.length) (hl : ∀ c ∈ l, 1 ≤ c.2.1.length) : plst (fpts l) = plst (l.getD (l.length - 1) ch0).2.1 := by
  obtain ⟨l0, c, rfl⟩ : ∃ l0 c, l = l0 ++ [c] := by
    refine ⟨l.dropLast, l.getLast (fun q => by rw [q] at h; simp at h), ?_⟩
    rw [List.dropLast_concat_getLast]
  rw [fpts_snoc, plst_app, List.length_append, List.length_singleton, Nat.add_sub_cancel, gd_app2 l0 c _ _ (by omega), if_pos rfl]
  have := hl c (by simp)
  intro q
  rw [q] at this
  simp at this
theorem lookAt_loop {order its many place length times values : Nat → Int32} {cs : List Ch} {sl : List Nat} {m : Nat} (h : slOk order its many place length times values cs sl) (hcl : cs.length ≤ 96) {N : Nat} (hN : N < 900) (hW : ∀ c ∈ cs, chW N m c) (hm : m ≤ 64) (hsort : cs.Pairwise (fun a b => a.1 ≤ b.1)) {s : Nat} (hs : s < 900) {ρ : Nat} (hρ : 2 ≤ ρ) (hρ2 : ρ ≤ 64) (p1 p2 : Int32) : ∀ (r g n lo un : Nat), (chS s cs).length - ρ * g ≤ r → r < n → ρ * g ≤ (chS s cs).length + 64 → lp_X10_lookAt_20 (nI ρ) (nI cs.length) its many times order (nI s) p1 p2 (nI (chS s cs).length) n (nI g) (nI lo) (nI un) = some (nI (lo + (lkG ρ p1 p2 r ((chS s cs).drop (ρ * g))).1), nI (un + (lkG ρ p1 p2 r ((chS s cs).drop (ρ * g))).2)) := by
  have hfl : (chS s cs).length ≤ cs.length := List.length_filter_le _ _
  have hcN : ∀ c ∈ cs, c.1 < N := fun c hc => (hW c hc).1
  have hend : ∀ (r g n lo un : Nat), (chS s cs).length ≤ ρ * g → ρ * g ≤ (chS s cs).length + 64 → 0 < n → lp_X10_lookAt_20 (nI ρ) (nI cs.length) its many times order (nI s) p1 p2 (nI (chS s cs).length) n (nI g) (nI lo) (nI un) = some (nI (lo + (lkG ρ p1 p2 r ((chS s cs).drop (ρ * g))).1), nI (un + (lkG ρ p1 p2 r ((chS s cs).drop (ρ * g))).2)) := by
    intro r g n lo un hg hg2 hn
    obtain ⟨q, rfl⟩ : ∃ q, n = q + 1 := ⟨n - 1, by omega⟩
    have hgg : g ≤ ρ * g := Nat.le_mul_of_pos_left g (by omega)
    rw [lp_X10_lookAt_20, groupsOf_M h hcl hN hcN hs hρ hρ2, ob1_mk, if_pos (nI_le ((gcnt_le hρ).mpr hg) (by omega)), List.drop_eq_nil_of_le hg, lkG_nil]
    rfl
  intro r
  induction r with
  | zero =>
    intro g n lo un hr hn hg
    exact hend 0 g n lo un (by omega) hg (by omega)
  | succ r ih =>
    intro g n lo un hr hn hg
    by_cases hb : (chS s cs).length ≤ ρ * g
    · exact hend (r + 1) g n lo un hb hg (by omega)
    · obtain ⟨q, rfl⟩ : ∃ q, n = q + 1 := ⟨n - 1, by omega⟩
      have hgg : g ≤ ρ * g := Nat.le_mul_of_pos_left g (by omega)
      have hgc : g < gcnt (chS s cs).length ρ := by
        apply Nat.lt_of_not_le
        intro q
        exact hb ((gcnt_le hρ).mp q)
      have hgl : gcnt (chS s cs).length ρ ≤ 1000 := by
        unfold gcnt
        have := Nat.div_le_self ((chS s cs).length + ρ - 1) ρ
        omega
      have eif : (if nI (chS s cs).length ≤ (nI ρ * nI g + nI ρ) then some (nI (chS s cs).length) else some (nI ρ * nI g + nI ρ)) = some (nI (min (chS s cs).length (ρ * g + ρ))) := by
        rw [pk_mul, nI_add]
        by_cases hc : (chS s cs).length ≤ ρ * g + ρ
        · rw [if_pos (nI_le hc (by omega)), show min (chS s cs).length (ρ * g + ρ) = (chS s cs).length by omega]
        · rw [if_neg (nI_ge (by omega) (by omega)), show min (chS s cs).length (ρ * g + ρ) = ρ * g + ρ by omega]
      obtain ⟨x, e1, hPx, -, -⟩ := slot_M h hcl hN hW hm hsort hs (show ρ * g < (chS s cs).length by omega)
      obtain ⟨y, e2, hPy, -, -⟩ := slot_M h hcl hN hW hm hsort hs (show min (chS s cs).length (ρ * g + ρ) - 1 < (chS s cs).length by omega)
      have hW2 : ∀ c ∈ chS s cs, 1 ≤ c.2.1.length := fun c hc => (hW c (List.mem_filter.mp hc).1).2.1
      have edt : ((chS s cs).drop (ρ * g)).take ρ = sg (chS s cs) (ρ * g) (min (chS s cs).length (ρ * g + ρ)) := by
        unfold sg
        by_cases hc : (chS s cs).length ≤ ρ * g + ρ
        · rw [List.take_of_length_le (by rw [List.length_drop]; omega), List.take_of_length_le (by rw [List.length_drop]; omega)]
        · congr 1; omega
      have egl : (sg (chS s cs) (ρ * g) (min (chS s cs).length (ρ * g + ρ))).length = min (chS s cs).length (ρ * g + ρ) - ρ * g := sg_len (by omega)
      have hmem : ∀ c ∈ sg (chS s cs) (ρ * g) (min (chS s cs).length (ρ * g + ρ)), 1 ≤ c.2.1.length := fun c hc => hW2 c (by unfold sg at hc; exact List.mem_of_mem_drop (List.mem_of_mem_take hc))
      have gdx : ∀ i, i < min (chS s cs).length (ρ * g + ρ) - ρ * g → (sg (chS s cs) (ρ * g) (min (chS s cs).length (ρ * g + ρ))).getD i ch0 = (chS s cs).getD (ρ * g + i) ch0 := by
        intro i hi
        unfold sg
        simp only [List.getD_eq_getElem?_getD]
        rw [List.getElem?_take_of_lt hi, List.getElem?_drop]
      have ef : pfst ((chS s cs).getD (ρ * g) ch0).2.1 = pfst (fpts (sg (chS s cs) (ρ * g) (min (chS s cs).length (ρ * g + ρ)))) := by
        rw [pfst_grp (by omega) hmem, gdx 0 (by omega), Nat.add_zero]
      have el : plst ((chS s cs).getD (min (chS s cs).length (ρ * g + ρ) - 1) ch0).2.1 = plst (fpts (sg (chS s cs) (ρ * g) (min (chS s cs).length (ρ * g + ρ)))) := by
        rw [plst_grp (by omega) hmem, egl, gdx _ (by omega), show ρ * g + (min (chS s cs).length (ρ * g + ρ) - ρ * g - 1) = min (chS s cs).length (ρ * g + ρ) - 1 by omega]
      have elk : lkG ρ p1 p2 (r + 1) ((chS s cs).drop (ρ * g)) = if partB p1 p2 (fpts (sg (chS s cs) (ρ * g) (min (chS s cs).length (ρ * g + ρ)))) = true then (1 + (sg (chS s cs) (ρ * g) (min (chS s cs).length (ρ * g + ρ))).length + (lkG ρ p1 p2 r ((chS s cs).drop (ρ * (g + 1)))).1, unp p1 p2 (sg (chS s cs) (ρ * g) (min (chS s cs).length (ρ * g + ρ))) + (lkG ρ p1 p2 r ((chS s cs).drop (ρ * (g + 1)))).2) else (1 + (lkG ρ p1 p2 r ((chS s cs).drop (ρ * (g + 1)))).1, (lkG ρ p1 p2 r ((chS s cs).drop (ρ * (g + 1)))).2) := by
        show (if _ then _ else _) = _
        rw [if_neg (fun q => by have := congrArg List.length q; rw [List.length_drop] at this; simp at this; omega), edt, List.drop_drop, Nat.mul_succ]
      have e3 : nI (min (chS s cs).length (ρ * g + ρ)) - (1 : Int32) = nI (min (chS s cs).length (ρ * g + ρ) - 1) := pk_sub (b := 1) (by omega)
      have hexp : ρ * (g + 1) = ρ * g + ρ := Nat.mul_succ ρ g
      rw [lp_X10_lookAt_20, groupsOf_M h hcl hN hcN hs hρ hρ2, ob1_mk, if_neg (nI_ge hgc (by omega)), eif, ob1_mk, pk_mul, e1, ob1_mk, firstTime_M hPx, ob1_mk, e3, e2, ob1_mk, lastTime_M hPy, ob1_mk, ef, el, isPart_M, ob1_mk, nI_1, nI_1, elk]
      cases hp : partB p1 p2 (fpts (sg (chS s cs) (ρ * g) (min (chS s cs).length (ρ * g + ρ)))) with
      | false =>
        rw [if_pos (by decide), ob2_mk, if_neg (by simp), ih (g + 1) q _ _ (by omega) (by omega) (by omega), Nat.add_assoc lo 1]
      | true =>
        have hin := into_loop h hcl hN hW hm hsort hs p1 p2 (show min (chS s cs).length (ρ * g + ρ) ≤ (chS s cs).length by omega) (min (chS s cs).length (ρ * g + ρ) - ρ * g) (ρ * g) NN (lo + 1) un (by omega) (by unfold NN; omega)
        rw [if_neg (by decide), m_X10_lookInto, hin, ob2_mk, ob2_mk, ob2_mk, if_pos rfl, ih (g + 1) q _ _ (by omega) (by omega) (by omega)]
        congr 2
        · congr 1; omega
        · congr 1; omega
theorem lookAt_M {order its many place length times values : Nat → Int32} {cs : List Ch} {sl : List Nat} {m : Nat} (h : slOk order its many place length times values cs sl) (hcl : cs.length ≤ 96) {N : Nat} (hN : N < 900) (hW : ∀ c ∈ cs, chW N m c) (hm : m ≤ 64) (hsort : cs.Pairwise (fun a b => a.1 ≤ b.1)) {s : Nat} (hs : s < 900) {ρ : Nat} (hρ : 2 ≤ ρ) (hρ2 : ρ ≤ 64) (p1 p2 lo un : Int32) : m_X10_lookAt (nI ρ) lo un (nI cs.length) its many times order (nI s) p1 p2 = some (nI (lkG ρ p1 p2 96 (chS s cs)).1, nI (lkG ρ p1 p2 96 (chS s cs)).2) := by
  have hfl : (chS s cs).length ≤ cs.length := List.length_filter_le _ _
  have := lookAt_loop h hcl hN hW hm hsort hs hρ hρ2 p1 p2 96 0 NN 0 0 (by omega) (by unfold NN; omega) (by omega)
  rw [Nat.mul_zero, List.drop_zero, Nat.zero_add, Nat.zero_add] at this
  have this' : lp_X10_lookAt_20 (nI ρ) (nI cs.length) its many times order (nI s) p1 p2 (nI (chS s cs).length) NN (0 : Int32) (0 : Int32) (0 : Int32) = _ := this
  rw [m_X10_lookAt, chunksOf_M h hcl hN (fun c hc => (hW c hc).1) hs, ob1_mk, this', ob2_mk]
theorem ask_M {N m : Nat} {f : Nat → Int32} {wl dn : Int32} {e sd : Nat} {cs : List Ch} {hd : List Hd} {sl : List Nat} {order its many place length times values headOf headTime headValue : Nat → Int32} (hC : Core N m f wl dn e sd cs hd sl order its many place length times values headOf headTime headValue) (hN : N ≤ 8) (hm : m ≤ 64) {ρ : Nat} (hρ : 2 ≤ ρ) (hρ2 : ρ ≤ 64) {s : Nat} (hs : s < N) (p1 p2 : Int32) (b : Bool) (lo un a0 a1 a2 : Int32) (a3 : Int64) (cT cV : Nat → Int32) :
    ∃ cT' cV' : Nat → Int32, m_X10_ask (nI ρ) lo un (nI cs.length) (nI hd.length) a0 a1 a2 a3 its many times values order headOf headTime headValue cT cV (nI s) p1 p2 (nI b.toNat) = some (nI (lkG ρ p1 p2 96 (chS s cs)).1, nI (lkG ρ p1 p2 96 (chS s cs)).2, nI (askL s p1 p2 cs hd).length, pmin (askL s p1 p2 cs hd), pmax (askL s p1 p2 cs hd), psum (askL s p1 p2 cs hd), cT', cV') ∧ crR b cT cV cT' cV' (askL s p1 p2 cs hd) ∧ (askL s p1 p2 cs hd).length < 6300 := by
  obtain ⟨hD, hS, hP, hsl, hh⟩ := id hC
  have hcl := hD.2.2.2.1
  have hl : hd.length ≤ 128 := hD.2.2.2.2.2.2.1
  obtain ⟨cT1, cV1, e1, hc1⟩ := ask23 hsl hS.1 (by omega) hm hcl (show s < 900 by omega) p1 p2 b cs.length 0 NN [] cT cV (by omega) (by unfold NN; omega) (by rw [List.length_nil]; omega) (fun _ i hi => by simp at hi)
  rw [List.drop_zero, List.nil_append] at e1 hc1
  have e1' : lp_X10_ask_23 (nI cs.length) its many times values order (nI s) p1 p2 (nI b.toNat) NN (0 : Int32) (0 : Int32) (0 : Int32) (0 : Int32) (0 : Int64) cT cV = _ := e1
  have hfl : ∀ l : List Ch, (∀ c ∈ l, c.2.1.length ≤ 64) → (fpts l).length ≤ 64 * l.length := by
    intro l
    induction l with
    | nil => intro _; simp [fpts]
    | cons c l ihl =>
      intro hc
      have h1 := hc c List.mem_cons_self
      have h2 := ihl (fun x hx => hc x (List.mem_cons_of_mem _ hx))
      rw [fpts_cons, List.length_append, List.length_cons]
      omega
  have hal := asked_len p1 p2 (ptsOf s cs)
  have hfl2 : (ptsOf s cs).length ≤ 64 * (chS s cs).length := hfl (chS s cs) (fun c hc => chW_64 hS.1 hm c (List.mem_filter.mp hc).1)
  have hfl3 : (chS s cs).length ≤ cs.length := List.length_filter_le _ _
  obtain ⟨cT2, cV2, e2, hc2⟩ := ask116 hh hl (N := N) (by omega) hS.2.2.2.1 (show s < 900 by omega) p1 p2 b hd.length 0 NN (asked p1 p2 (ptsOf s cs)) cT1 cV1 (by omega) (by unfold NN; omega) (by omega) hc1.2
  rw [List.drop_zero, ← asked_app] at e2 hc2
  have e2' : lp_X10_ask_116 (nI hd.length) headOf headTime headValue (nI s) p1 p2 (nI b.toNat) NN (0 : Int32) _ _ _ _ cT1 cV1 = _ := e2
  refine ⟨cT2, cV2, ?_, crR_trans hc1 hc2, ?_⟩
  · rw [m_X10_ask, e1', ob6_mk, e2', ob6_mk, lookAt_M hsl hcl (N := N) (by omega) hS.1 hm hS.2.2.1 (by omega) hρ hρ2, ob2_mk]
    rfl
  · unfold askL
    rw [asked_app, List.length_append]
    have h2 := asked_len p1 p2 (hdOf s hd)
    have h3 : (hdOf s hd).length ≤ hd.length := by unfold hdOf; rw [List.length_map]; exact List.length_filter_le _ _
    omega
