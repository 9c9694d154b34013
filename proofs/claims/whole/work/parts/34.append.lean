/-! append -/
def Core (N most : Nat) (f : Nat → Int32) (wl dn : Int32) (e sd : Nat) (cs : List Ch) (hd : List Hd) (sl : List Nat) (order its many place length times values headOf headTime headValue : Nat → Int32) : Prop :=
  DOk f e sd cs hd ∧ SOk N most cs hd ∧ pwOk wl dn ∧ slOk order its many place length times values cs sl ∧ hdsOk headOf headTime headValue hd
theorem isSer_C {N : Nat} (hN : N < 1000) (x : Int32) : (m_X9_isSeries (nI N) x = some 0 ∧ m_X10_isSeries (nI N) x = some 0) ∨ ∃ s, s < N ∧ x = nI s ∧ m_X9_isSeries (nI N) x = some 1 ∧ m_X10_isSeries (nI N) x = some 1 := by
  rcases pk_ix x (show N < 2 ^ 31 by omega) with h | h | ⟨s, hs, rfl⟩
  · left
    rw [m_X9_isSeries, m_X10_isSeries, if_pos h]
    exact ⟨rfl, rfl⟩
  · left
    have h0 : ¬ x < 0 := by
      intro q
      have := nI_pos' (show N < 2 ^ 31 by omega)
      rw [Int32.lt_iff_toInt_lt] at q
      rw [Int32.le_iff_toInt_le] at h this
      omega
    rw [m_X9_isSeries, m_X10_isSeries, if_neg h0, if_pos h]
    exact ⟨rfl, rfl⟩
  · right
    refine ⟨s, hs, rfl, ?_⟩
    rw [m_X9_isSeries, m_X10_isSeries, if_neg (nI_pos (by omega)), if_neg (nI_ge hs (by omega))]
    exact ⟨rfl, rfl⟩
theorem hdOf_one (s : Nat) (h : Hd) : hdOf s [h] = if h.1 = s then [h.2] else [] := by
  unfold hdOf
  by_cases q : h.1 = s
  · rw [if_pos q, List.filter_cons_of_pos (by simpa using q)]; rfl
  · rw [if_neg q, List.filter_cons_of_neg (by simpa using q)]; rfl
theorem rising_snoc {l : List Pt} {q : Pt} (h : rising l) (ha : above q.1 l) : rising (l ++ [q]) := by
  unfold rising
  rw [List.pairwise_append]
  exact ⟨h, List.pairwise_singleton _ _, fun a ha2 b hb => by rw [List.mem_singleton] at hb; subst hb; exact ha a ha2⟩
theorem SOk_snoc {N most : Nat} {cs : List Ch} {hd : List Hd} {s : Nat} {t v : Int32} (h : SOk N most cs hd) (hs : s < N) (ha : above t (ptsOf s cs ++ hdOf s hd)) : SOk N most cs (hd ++ [(s, t, v)]) := by
  obtain ⟨s1, s2, s3, s4, s5⟩ := h
  refine ⟨s1, s2, s3, fun x hx => ?_, fun s' => ?_⟩
  · rcases List.mem_append.mp hx with q | q
    · exact s4 x q
    · rw [List.mem_singleton] at q; subst q; exact hs
  · rw [hdOf_app, ← List.append_assoc, hdOf_one]
    by_cases q : s = s'
    · subst q
      rw [if_pos rfl]
      exact rising_snoc (s5 s) ha
    · rw [if_neg q, List.append_nil]
      exact s5 s'
theorem gd_app2 {α : Type} (l : List α) (x d : α) (k : Nat) (hk : k < l.length + 1) : (l ++ [x]).getD k d = if k = l.length then x else l.getD k d := by
  simp only [List.getD_eq_getElem?_getD]
  by_cases h : k = l.length
  · subst h; simp
  · rw [if_neg h, List.getElem?_append_left (by omega)]
theorem lgOk_snoc {f : Nat → Int32} {e s : Nat} {hd : List Hd} {t v : Int32} (h : lgOk f e hd) (hL : hd.length < 128) : lgOk (app (apW hd.length s t v e) f) e (hd ++ [(s, t, v)]) := by
  obtain ⟨h1, h2, h3⟩ := h
  have e0 : app (apW hd.length s t v e) f = upd (upd (upd (upd f (1923 + 4 * hd.length) (nI s)) (1923 + 4 * hd.length + 1) t) (1923 + 4 * hd.length + 2) v) (1923 + 4 * hd.length + 3) (nI (e + 1)) := rfl
  rw [e0]
  refine ⟨by simp; omega, fun k hk j hj => ?_, fun k hk hk2 => ?_⟩
  · rw [List.length_append, List.length_singleton] at hk
    rw [gd_app2 hd _ hd0 k hk]
    by_cases hk3 : k = hd.length
    · subst hk3
      rw [if_pos rfl]
      rcases (show j = 0 ∨ j = 1 ∨ j = 2 ∨ j = 3 by omega) with rfl | rfl | rfl | rfl
      · rw [pk_un (by omega), pk_un (by omega), pk_un (by omega), Nat.add_zero, pk_us]; rfl
      · rw [pk_un (by omega), pk_un (by omega), pk_us]; rfl
      · rw [pk_un (by omega), pk_us]; rfl
      · rw [pk_us]; rfl
    · rw [if_neg hk3, pk_un (by omega), pk_un (by omega), pk_un (by omega), pk_un (by omega)]
      exact h2 k (by omega) j hj
  · rw [List.length_append, List.length_singleton] at hk
    rw [pk_un (by omega), pk_un (by omega), pk_un (by omega), pk_un (by omega)]
    exact h3 k (by omega) hk2
theorem DOk_snoc {f : Nat → Int32} {e sd s N most : Nat} {cs : List Ch} {hd : List Hd} {t v : Int32} (h : DOk f e sd cs hd) (hS : SOk N most cs hd) (hL : hd.length < 128) : DOk (app (apW hd.length s t v e) f) e sd cs (hd ++ [(s, t, v)]) := by
  obtain ⟨h0, hs, he, hl, hi, hc, hg⟩ := h
  have hix := ix_le sd
  have hix2 : ix sd = 1 ∨ ix sd = 962 := by unfold ix; split <;> omega
  have out : ∀ k, (k < 1923 ∨ 2435 ≤ k) → app (apW hd.length s t v e) f k = f k := fun k hk => app_out _ _ _ (fun q hq => by
    simp only [apW, List.mem_cons, List.not_mem_nil, or_false] at hq
    rcases hq with rfl | rfl | rfl | rfl <;> simp <;> omega)
  refine ⟨by rw [out 0 (by omega)]; exact h0, hs, he, hl, ⟨by rw [out _ (by omega)]; exact hi.1, fun k hk j hj => by rw [out _ (by omega)]; exact hi.2 k hk j hj⟩, fun c hcm => ?_, lgOk_snoc hg hL⟩
  obtain ⟨c1, c2, c3⟩ := hc c hcm
  obtain ⟨-, -, -, w4, -⟩ := hS.1 c hcm
  exact ⟨by rw [out _ (by omega)]; exact c1, by rw [out _ (by omega)]; exact c2, fun j hj i hi2 => by rw [out _ (by omega)]; exact c3 j hj i hi2⟩
theorem apW_dead {e sd s N most : Nat} {cs : List Ch} {hd : List Hd} {t v : Int32} (hl : cs.length ≤ 96) (hS : SOk N most cs hd) (hL : hd.length < 128) : ∀ q ∈ [(1923 + 4 * hd.length, nI s), (1923 + 4 * hd.length + 1, t), (1923 + 4 * hd.length + 2, v)], dead sd cs hd q.1 := by
  intro q hq
  have hix2 : ix sd = 1 ∨ ix sd = 962 := by unfold ix; split <;> omega
  have hc : ∀ c ∈ cs, ∀ k, k < 2435 → k < c.2.2 ∨ c.2.2 + clen c ≤ k := fun c hcm k hk => by
    obtain ⟨-, -, -, w4, -⟩ := hS.1 c hcm
    omega
  simp only [List.mem_cons, List.not_mem_nil, or_false] at hq
  rcases hq with rfl | rfl | rfl <;> exact ⟨by dsimp only; omega, by dsimp only; omega, fun c hcm => hc c hcm _ (by dsimp only; omega), by dsimp only; omega⟩
/-- the reference's append, from its writes on -/
theorem appendM_w {f headOf headTime headValue : Nat → Int32} {e L s : Nat} {wd wl dn t v : Int32} {hcu cm ca : Int32} (hL : L < 128) :
    (ob5 (m_X10_write wd wl dn f ((1923 : Int32) + ((4 : Int32) * nI L)) (nI s)) fun r_19 M_writes_20 M_fuse_21 M_down_22 M_disk_23 =>
          if r_19 = 0 then (
            some ((-9 : Int32), (0 : Int32), M_writes_20, M_fuse_21, M_down_22, nI L, hcu, cm, ca, M_disk_23, headOf, headTime, headValue)) else (
            ob5 (m_X10_write M_writes_20 M_fuse_21 M_down_22 M_disk_23 (((1923 : Int32) + ((4 : Int32) * nI L)) + (1 : Int32)) t) fun r_27 M_writes_28 M_fuse_29 M_down_30 M_disk_31 =>
            if r_27 = 0 then (
              some ((-9 : Int32), (0 : Int32), M_writes_28, M_fuse_29, M_down_30, nI L, hcu, cm, ca, M_disk_31, headOf, headTime, headValue)) else (
              ob5 (m_X10_write M_writes_28 M_fuse_29 M_down_30 M_disk_31 (((1923 : Int32) + ((4 : Int32) * nI L)) + (2 : Int32)) v) fun r_35 M_writes_36 M_fuse_37 M_down_38 M_disk_39 =>
              if r_35 = 0 then (
                some ((-9 : Int32), (0 : Int32), M_writes_36, M_fuse_37, M_down_38, nI L, hcu, cm, ca, M_disk_39, headOf, headTime, headValue)) else (
                ob5 (m_X10_write M_writes_36 M_fuse_37 M_down_38 M_disk_39 (((1923 : Int32) + ((4 : Int32) * nI L)) + (3 : Int32)) (nI e + (1 : Int32))) fun r_43 M_writes_44 M_fuse_45 M_down_46 M_disk_47 =>
                if r_43 = 0 then (
                  some ((-9 : Int32), (0 : Int32), M_writes_44, M_fuse_45, M_down_46, nI L, hcu, cm, ca, M_disk_47, headOf, headTime, headValue)) else (
                  ckb (nI L) 128 <|
                  ckb (nI L) 128 <|
                  ckb (nI L) 128 <|
                  some ((0 : Int32), (0 : Int32), M_writes_44, M_fuse_45, M_down_46, (nI L + (1 : Int32)), hcu, cm, ca, M_disk_47, (upd headOf (Int32.toNatClampNeg (nI L)) (nI s)), (upd headTime (Int32.toNatClampNeg (nI L)) t), (upd headValue (Int32.toNatClampNeg (nI L)) v))))))) =
    if (wrs (apW L s t v e) wd wl dn f).1 = true then some (0, 0, (wrs (apW L s t v e) wd wl dn f).2.1, (wrs (apW L s t v e) wd wl dn f).2.2.1, (wrs (apW L s t v e) wd wl dn f).2.2.2.1, nI (L + 1), hcu, cm, ca, (wrs (apW L s t v e) wd wl dn f).2.2.2.2, upd headOf L (nI s), upd headTime L t, upd headValue L v)
    else some (-9, 0, (wrs (apW L s t v e) wd wl dn f).2.1, (wrs (apW L s t v e) wd wl dn f).2.2.1, (wrs (apW L s t v e) wd wl dn f).2.2.2.1, nI L, hcu, cm, ca, (wrs (apW L s t v e) wd wl dn f).2.2.2.2, headOf, headTime, headValue) := by
  have e0 : (1923 : Int32) + (4 : Int32) * nI L = nI (1923 + 4 * L) := by rw [show (1923 : Int32) = nI 1923 from rfl, show (4 : Int32) = nI 4 from rfl, pk_mul, nI_add]
  have e2 : nI (1923 + 4 * L) + (1 : Int32) = nI (1923 + 4 * L + 1) := nI_add _ 1
  have e3 : nI (1923 + 4 * L) + (2 : Int32) = nI (1923 + 4 * L + 2) := nI_add _ 2
  have e4 : nI (1923 + 4 * L) + (3 : Int32) = nI (1923 + 4 * L + 3) := nI_add _ 3
  rw [e0, e2, e3, e4, wrM (by omega)]
  by_cases w1 : wl = 0
  · have hW : wrs (apW L s t v e) wd wl dn f = (false, wd, wl, 1, f) := by simp only [apW, wrs, if_pos w1]
    rw [hW, if_pos w1, ob5_mk, if_pos rfl, if_neg (by simp)]
  · rw [if_neg w1, ob5_mk, if_neg (by decide), wrM (by omega)]
    by_cases w2 : dec1 wl = 0
    · have hW : wrs (apW L s t v e) wd wl dn f = (false, wd + 1, dec1 wl, 1, upd f (1923 + 4 * L) (nI s)) := by simp only [apW, wrs, if_neg w1, if_pos w2]
      rw [hW, if_pos w2, ob5_mk, if_pos rfl, if_neg (by simp)]
    · rw [if_neg w2, ob5_mk, if_neg (by decide), wrM (by omega)]
      by_cases w3 : dec1 (dec1 wl) = 0
      · have hW : wrs (apW L s t v e) wd wl dn f = (false, wd + 1 + 1, dec1 (dec1 wl), 1, upd (upd f (1923 + 4 * L) (nI s)) (1923 + 4 * L + 1) t) := by simp only [apW, wrs, if_neg w1, if_neg w2, if_pos w3]
        rw [hW, if_pos w3, ob5_mk, if_pos rfl, if_neg (by simp)]
      · rw [if_neg w3, ob5_mk, if_neg (by decide), nI_1, wrM (by omega)]
        by_cases w4 : dec1 (dec1 (dec1 wl)) = 0
        · have hW : wrs (apW L s t v e) wd wl dn f = (false, wd + 1 + 1 + 1, dec1 (dec1 (dec1 wl)), 1, upd (upd (upd f (1923 + 4 * L) (nI s)) (1923 + 4 * L + 1) t) (1923 + 4 * L + 2) v) := by simp only [apW, wrs, if_neg w1, if_neg w2, if_neg w3, if_pos w4]
          rw [hW, if_pos w4, ob5_mk, if_pos rfl, if_neg (by simp)]
        · have hW : wrs (apW L s t v e) wd wl dn f = (true, wd + 1 + 1 + 1 + 1, dec1 (dec1 (dec1 (dec1 wl))), dn, upd (upd (upd (upd f (1923 + 4 * L) (nI s)) (1923 + 4 * L + 1) t) (1923 + 4 * L + 2) v) (1923 + 4 * L + 3) (nI (e + 1))) := by simp only [apW, wrs, if_neg w1, if_neg w2, if_neg w3, if_neg w4]
          rw [hW, if_neg w4, ob5_mk, if_neg (by decide), ckb_in _ hL (by omega), ckb_in _ hL (by omega), ckb_in _ hL (by omega), nI_clamp (by omega), nI_1, if_pos rfl]
theorem append_ok {N most : Nat} {f : Nat → Int32} {wd wl dn : Int32} {e sd : Nat} {cs : List Ch} {hd : List Hd} {sl : List Nat} {order its many place length times values headOf headTime headValue : Nat → Int32} (hC : Core N most f wl dn e sd cs hd sl order its many place length times values headOf headTime headValue) (hN : N ≤ 8) (hmo : most ≤ 64) (p0 p1 p2 cO cT cV thr hcu cm ca : Int32) :
    ∃ (r wd' wl' dn' : Int32) (f' : Nat → Int32) (hd' : List Hd) (hO' hT' hV' : Nat → Int32),
      m_X9_append (nI N) wd wl dn f (nI hd.length) cO cT cV p0 p1 p2 = some (r, wd', wl', dn', f', nI hd'.length, 0, 0, 0) ∧
      m_X10_append thr (nI N) wd wl dn (nI cs.length) (nI e) (nI hd.length) hcu cm ca f its many times order headOf headTime headValue p0 p1 p2 = some (r, 0, wd', wl', dn', nI hd'.length, 0, 0, -1, f', hO', hT', hV') ∧
      Core N most f' wl' dn' e sd cs hd' sl order its many place length times values hO' hT' hV' := by
  obtain ⟨hD, hS, hP, hsl, hh⟩ := id hC
  have hlg := hD.2.2.2.2.2.2
  rw [m_X9_append, m_X10_append, m_X1_close, ob3_mk, m_X10_dropCursor, ob3_mk, m_X2_isDown]
  rcases hP.2 with rfl | ⟨rfl, hw0⟩
  · rw [show ckz (0 : Int32) (some (0 : Int32)) = some 0 from rfl, ob1_mk, if_pos rfl, if_pos rfl]
    rcases isSer_C (N := N) (by omega) p0 with ⟨q1, q2⟩ | ⟨s, hs, rfl, q1, q2⟩
    · rw [q1, q2, ob1_mk, ob1_mk, if_pos rfl, if_pos rfl]
      exact ⟨-2, wd, wl, 0, f, hd, headOf, headTime, headValue, rfl, rfl, hC⟩
    · obtain ⟨b1, r1, k1⟩ := isRisingC hD (by omega) hS hs p1
      obtain ⟨b2, r2, k2⟩ := isRisingM hsl rfl hD.2.2.2.1 hS (by omega) hmo hh rfl hlg.1 (show s < 1000 by omega) p1
      have hb : b2 = b1 := by
        rw [Bool.eq_iff_iff, k1, k2]
      rw [q1, q2, ob1_mk, ob1_mk, if_neg (by decide), if_neg (by decide), r1, r2, ob1_mk, ob1_mk, hb]
      cases b1 with
      | false =>
        rw [if_pos (by decide), if_pos (by decide)]
        exact ⟨-1, wd, wl, 0, f, hd, headOf, headTime, headValue, rfl, rfl, hC⟩
      | true =>
        rw [if_neg (by decide), if_neg (by decide), m_X4_isFull]
        by_cases hfull : hd.length = 128
        · rw [if_neg (show ¬ nI hd.length < (128 : Int32) from nI_nlt (b := 128) (by omega) (by omega)), ob1_mk, show ckz (1 : Int32) (some (1 : Int32)) = some 1 from rfl, ob1_mk, if_neg (by decide), if_pos (show nI hd.length = (128 : Int32) by rw [hfull]; rfl)]
          exact ⟨-3, wd, wl, 0, f, hd, headOf, headTime, headValue, rfl, rfl, hC⟩
        · have hL : hd.length < 128 := by have := hlg.1; omega
          rw [if_pos (show nI hd.length < (128 : Int32) from nI_lt (b := 128) hL (by omega)), ob1_mk, show ckz (0 : Int32) (some (0 : Int32)) = some 0 from rfl, ob1_mk, if_pos rfl, if_neg (show ¬ nI hd.length = (128 : Int32) from fun q => hfull ((nI_eq (b := 128) (by omega) (by omega)).mp q)), logadd_s hD.1 hD.2.1 hD.2.2.1 hL, ob6_mk, appendM_w hL]
          have hpw := wrs_pw (apW hd.length s p1 p2 e) wd wl 0 f hP.1 rfl
          cases hok : (wrs (apW hd.length s p1 p2 e) wd wl 0 f).1 with
          | true =>
            have hfin := wrs_full (apW hd.length s p1 p2 e) wd wl 0 f hok
            rw [if_neg (by decide), ob1_mk, if_pos rfl, if_pos rfl, hfin]
            have hlen : (hd ++ [(s, p1, p2)]).length = hd.length + 1 := by simp
            refine ⟨0, _, _, _, _, hd ++ [(s, p1, p2)], _, _, _, by rw [hlen], by rw [hlen], DOk_snoc hD hS hL, SOk_snoc hS hs (k1.mp rfl), hpw.1, hsl, fun k hk => ?_⟩
            rw [hlen] at hk
            rw [gd_app2 hd _ hd0 k hk]
            by_cases hk2 : k = hd.length
            · subst hk2
              rw [if_pos rfl, pk_us, pk_us, pk_us]
              exact ⟨rfl, rfl, rfl⟩
            · rw [if_neg hk2, pk_un hk2, pk_un hk2, pk_un hk2]
              exact hh k (by omega)
          | false =>
            rw [if_pos (by decide), ob1_mk, if_neg (by simp), if_neg (by simp)]
            refine ⟨-9, _, _, _, _, hd, headOf, headTime, headValue, rfl, rfl, ?_, hS, hpw.1, hsl, hh⟩
            have e1 : apW hd.length s p1 p2 e = [(1923 + 4 * hd.length, nI s), (1923 + 4 * hd.length + 1, p1), (1923 + 4 * hd.length + 2, p2)] ++ [(1923 + 4 * hd.length + 3, nI (e + 1))] := rfl
            rw [e1] at hok ⊢
            rw [wrs_fail hok]
            exact wrs_DOk _ _ _ _ _ hD (apW_dead (e := e) hD.2.2.2.1 hS hL)
  · rw [show ckz (1 : Int32) (some (1 : Int32)) = some 1 from rfl, ob1_mk, if_neg (by decide), if_neg (by decide)]
    exact ⟨-9, wd, wl, 1, f, hd, headOf, headTime, headValue, rfl, rfl, hC⟩
