/-! chunk and group, both sides -/
theorem bad_ne {x : Int32} {n : Nat} (hn : n < 2 ^ 31) (h : x < 0 ∨ nI n ≤ x) {i : Nat} (hi : i < n) : ¬ x = nI i := by
  rintro rfl
  rcases h with h | h
  · exact nI_pos (by omega) h
  · exact nI_ge hi hn h
theorem ge_nneg {x : Int32} {n : Nat} (hn : n < 2 ^ 31) (h : nI n ≤ x) : ¬ x < 0 := by
  intro q
  rw [Int32.lt_iff_toInt_lt] at q
  have h' := Int32.le_iff_toInt_le.mp h
  rw [nI_toInt hn] at h'
  have : (0 : Int32).toInt = 0 := rfl
  omega
theorem chunk_ok {N m : Nat} {f : Nat → Int32} {wl dn : Int32} {e sd : Nat} {cs : List Ch} {hd : List Hd} {sl : List Nat} {order its many place length times values headOf headTime headValue : Nat → Int32} (hC : Core N m f wl dn e sd cs hd sl order its many place length times values headOf headTime headValue) (hN : N ≤ 8) (hm : m ≤ 64) (p0 p1 p2 thr : Int32) :
    ∃ k a b : Int32, t_X9_chunk (nI N) dn f p0 p1 p2 = some (k, a) ∧ m_X10_chunk thr (nI N) dn (nI cs.length) its many place length times values order p0 p1 p2 = some (b, k) ∧ (k = 0 ∨ k = 1 ∨ k = 2 ∨ k = 3) ∧ (k = 0 → b = a) := by
  obtain ⟨hD, hS, hP, hsl, hh⟩ := id hC
  have hcl := hD.2.2.2.1
  rw [t_X9_chunk, m_X10_chunk]
  rcases gate_ok hN hP p0 with ⟨q1, rfl⟩ | ⟨q1, rfl, q2⟩ | ⟨s, hs, rfl, rfl, q1, q2⟩
  · rw [q1, ob1_mk, if_neg (by decide), if_neg (by decide), ob1_mk, if_neg (by decide)]
    exact ⟨1, 0, 0, rfl, rfl, Or.inr (Or.inl rfl), fun _ => rfl⟩
  · rw [q1, ob1_mk, if_neg (by decide), if_pos rfl, q2, ob1_mk, if_pos rfl, ob1_mk, if_neg (by decide)]
    exact ⟨2, 0, 0, rfl, rfl, Or.inr (Or.inr (Or.inl rfl)), fun _ => rfl⟩
  · have hcN : ∀ c ∈ cs, c.1 < N := fun c hc => (hS.1 c hc).1
    have g0 := chunksOf_C hD hS hN hs
    have g0' := chunksOf_M hsl hcl (N := N) (by omega) hcN (show s < 900 by omega)
    have hfl : (chS s cs).length ≤ cs.length := List.length_filter_le _ _
    rw [q1, ob1_mk, if_pos rfl, if_pos rfl, q2, ob1_mk, if_neg (show ¬ (1 : Int32) = 0 by decide), g0, g0', ob1_mk, ob1_mk]
    have three : ∀ (X : Option (Int32 × Int32)) (Y : Int32 → Option (Int32 × Int32)), X = some (3, 0) → (∃ k a b : Int32, X = some (k, a) ∧ (ob1 (some (3 : Int32)) fun s_1 => if s_1 ≤ 0 then Y s_1 else some ((0 : Int32), s_1)) = some (b, k) ∧ (k = 0 ∨ k = 1 ∨ k = 2 ∨ k = 3) ∧ (k = 0 → b = a)) := fun X Y hX => ⟨3, 0, 0, hX, by rw [ob1_mk, if_neg (show ¬ (3 : Int32) ≤ 0 by decide)], Or.inr (Or.inr (Or.inr rfl)), fun _ => rfl⟩
    have hcode : ∀ hb : ((p2 < 0 ∨ nI 7 ≤ p2) ∨ (p1 < 0 ∨ nI (chS s cs).length ≤ p1)), (if p2 < 0 then some (3 : Int32) else if (6 : Int32) < p2 then some (3 : Int32) else if p1 < 0 then some (3 : Int32) else if p1 < nI (chS s cs).length then some (0 : Int32) else some (3 : Int32)) = some 3 := by
      intro hb
      by_cases h1 : p2 < 0
      · rw [if_pos h1]
      · rw [if_neg h1]
        by_cases h2 : (6 : Int32) < p2
        · rw [if_pos h2]
        · rw [if_neg h2]
          by_cases h3 : p1 < 0
          · rw [if_pos h3]
          · rw [if_neg h3]
            rcases hb with (h | h) | (h | h)
            · exact absurd h h1
            · exfalso
              apply h2
              have h' := Int32.le_iff_toInt_le.mp h
              rw [nI_toInt (by omega)] at h'
              rw [Int32.lt_iff_toInt_lt]
              show (nI 6).toInt < p2.toInt
              rw [nI_toInt (by omega)]
              omega
            · exact absurd h h3
            · rw [if_neg (fun q => lt_not_le.mp q h)]
    rcases pk_ix p1 (show (chS s cs).length < 2 ^ 31 by omega) with h | h | ⟨j, hj, rfl⟩
    · rw [hcode (Or.inr (Or.inl h))]
      exact three _ _ (by rw [if_pos h])
    · rw [hcode (Or.inr (Or.inr h))]
      exact three _ _ (by rw [if_neg (ge_nneg (by omega) h), if_pos h])
    · obtain ⟨g1, g2⟩ := seg_filter hS.2.2.1 s
      have g1' : sg cs (fo s cs) (fo (s + 1) cs) = chS s cs := g1
      have hfo := fo_le (s + 1) cs
      have hlen : (chS s cs).length = fo (s + 1) cs - fo s cs := by rw [← g1', sg_len hfo]
      have egd : cs.getD (fo s cs + j) ch0 = (chS s cs).getD j ch0 := by
        rw [← g1']
        unfold sg
        simp only [List.getD_eq_getElem?_getD]
        rw [List.getElem?_take_of_lt (by omega), List.getElem?_drop]
      have hlt : fo s cs + j < cs.length := by omega
      obtain ⟨x, e1, hPx, hpl, hle⟩ := slot_M hsl hcl (N := N) (by omega) hS.1 hm hS.2.2.1 (show s < 900 by omega) hj
      have hfirst := firstOf_s hD (N := N) (by omega) hcN (show s < 1000 by omega)
      have hat : ∀ i, i < 10 → m_X3_at f (nI (fo s cs + j)) (nI i) = some (entC ((chS s cs).getD j ch0) i) := fun i hi => by rw [at_s hD hlt hi, egd]
      rw [if_neg (nI_pos (show j < 2 ^ 31 by omega)), if_neg (nI_ge hj (by omega)), hfirst, ob1_mk, nI_add]
      rcases pk_ix p2 (show 7 < 2 ^ 31 by omega) with h2 | h2 | ⟨i, hi, rfl⟩
      · rw [hcode (Or.inl (Or.inl h2))]
        have hne : ∀ i, i < 7 → ¬ p2 = nI i := fun i hi => bad_ne (n := 7) (by omega) (Or.inl h2) hi
        exact three _ _ (by rw [if_neg (show ¬ p2 = (0 : Int32) from hne 0 (by omega)), if_neg (show ¬ p2 = (1 : Int32) from hne 1 (by omega)), if_neg (show ¬ p2 = (2 : Int32) from hne 2 (by omega)), if_neg (show ¬ p2 = (3 : Int32) from hne 3 (by omega)), if_neg (show ¬ p2 = (4 : Int32) from hne 4 (by omega)), if_neg (show ¬ p2 = (5 : Int32) from hne 5 (by omega)), if_neg (show ¬ p2 = (6 : Int32) from hne 6 (by omega))])
      · rw [hcode (Or.inl (Or.inr h2))]
        have hne : ∀ i, i < 7 → ¬ p2 = nI i := fun i hi => bad_ne (n := 7) (by omega) (Or.inr h2) hi
        exact three _ _ (by rw [if_neg (show ¬ p2 = (0 : Int32) from hne 0 (by omega)), if_neg (show ¬ p2 = (1 : Int32) from hne 1 (by omega)), if_neg (show ¬ p2 = (2 : Int32) from hne 2 (by omega)), if_neg (show ¬ p2 = (3 : Int32) from hne 3 (by omega)), if_neg (show ¬ p2 = (4 : Int32) from hne 4 (by omega)), if_neg (show ¬ p2 = (5 : Int32) from hne 5 (by omega)), if_neg (show ¬ p2 = (6 : Int32) from hne 6 (by omega))])
      · have hz : (if nI i < 0 then some (3 : Int32) else if (6 : Int32) < nI i then some (3 : Int32) else if nI j < 0 then some (3 : Int32) else if nI j < nI (chS s cs).length then some (0 : Int32) else some (3 : Int32)) = some 0 := by
          rw [if_neg (nI_pos (by omega)), if_neg (show ¬ (6 : Int32) < nI i from nI_nlt (a := 6) (by omega) (by omega)), if_neg (nI_pos (by omega)), if_pos (nI_lt hj (by omega))]
        rw [hz, ob1_mk, if_pos (show (0 : Int32) ≤ 0 by decide), e1, ob1_mk, firstTime_M hPx, ob1_mk, lastTime_M hPx, ob1_mk, least_M hPx, ob1_mk, great_M hPx, ob1_mk, ckb_in _ hPx.1 (by omega), ckb_in _ hPx.1 (by omega), ckb_in _ hPx.1 (by omega), nI_clamp (show x < 2 ^ 31 by have := hPx.1; omega), hPx.2.1, hpl, hle]
        rcases (show i = 0 ∨ i = 1 ∨ i = 2 ∨ i = 3 ∨ i = 4 ∨ i = 5 ∨ i = 6 by omega) with rfl | rfl | rfl | rfl | rfl | rfl | rfl
        · have ha : m_X3_at f (nI (fo s cs + j)) (1 : Int32) = _ := hat 1 (by omega)
          rw [if_pos (show nI 0 = (0 : Int32) from rfl), if_pos (show nI 0 = (0 : Int32) from rfl), ha, ob1_mk]
          exact ⟨0, _, _, rfl, rfl, Or.inl rfl, fun _ => rfl⟩
        · have ha : m_X3_at f (nI (fo s cs + j)) (2 : Int32) = _ := hat 2 (by omega)
          rw [if_neg (show ¬ nI 1 = (0 : Int32) by decide), if_pos (show nI 1 = (1 : Int32) from rfl), if_neg (show ¬ nI 1 = (0 : Int32) by decide), if_pos (show nI 1 = (1 : Int32) from rfl), ha, ob1_mk]
          exact ⟨0, _, _, rfl, rfl, Or.inl rfl, fun _ => rfl⟩
        · have ha : m_X3_at f (nI (fo s cs + j)) (3 : Int32) = _ := hat 3 (by omega)
          rw [if_neg (show ¬ nI 2 = (0 : Int32) by decide), if_neg (show ¬ nI 2 = (1 : Int32) by decide), if_pos (show nI 2 = (2 : Int32) from rfl), if_neg (show ¬ nI 2 = (0 : Int32) by decide), if_neg (show ¬ nI 2 = (1 : Int32) by decide), if_pos (show nI 2 = (2 : Int32) from rfl), ha, ob1_mk]
          exact ⟨0, _, _, rfl, rfl, Or.inl rfl, fun _ => rfl⟩
        · have ha : m_X3_at f (nI (fo s cs + j)) (4 : Int32) = _ := hat 4 (by omega)
          rw [if_neg (show ¬ nI 3 = (0 : Int32) by decide), if_neg (show ¬ nI 3 = (1 : Int32) by decide), if_neg (show ¬ nI 3 = (2 : Int32) by decide), if_pos (show nI 3 = (3 : Int32) from rfl), if_neg (show ¬ nI 3 = (0 : Int32) by decide), if_neg (show ¬ nI 3 = (1 : Int32) by decide), if_neg (show ¬ nI 3 = (2 : Int32) by decide), if_pos (show nI 3 = (3 : Int32) from rfl), ha, ob1_mk]
          exact ⟨0, _, _, rfl, rfl, Or.inl rfl, fun _ => rfl⟩
        · have ha : m_X3_at f (nI (fo s cs + j)) (5 : Int32) = _ := hat 5 (by omega)
          rw [if_neg (show ¬ nI 4 = (0 : Int32) by decide), if_neg (show ¬ nI 4 = (1 : Int32) by decide), if_neg (show ¬ nI 4 = (2 : Int32) by decide), if_neg (show ¬ nI 4 = (3 : Int32) by decide), if_pos (show nI 4 = (4 : Int32) from rfl), if_neg (show ¬ nI 4 = (0 : Int32) by decide), if_neg (show ¬ nI 4 = (1 : Int32) by decide), if_neg (show ¬ nI 4 = (2 : Int32) by decide), if_neg (show ¬ nI 4 = (3 : Int32) by decide), if_pos (show nI 4 = (4 : Int32) from rfl), ha, ob1_mk]
          exact ⟨0, _, _, rfl, rfl, Or.inl rfl, fun _ => rfl⟩
        · have ha : m_X3_at f (nI (fo s cs + j)) (8 : Int32) = _ := hat 8 (by omega)
          rw [if_neg (show ¬ nI 5 = (0 : Int32) by decide), if_neg (show ¬ nI 5 = (1 : Int32) by decide), if_neg (show ¬ nI 5 = (2 : Int32) by decide), if_neg (show ¬ nI 5 = (3 : Int32) by decide), if_neg (show ¬ nI 5 = (4 : Int32) by decide), if_pos (show nI 5 = (5 : Int32) from rfl), if_neg (show ¬ nI 5 = (0 : Int32) by decide), if_neg (show ¬ nI 5 = (1 : Int32) by decide), if_neg (show ¬ nI 5 = (2 : Int32) by decide), if_neg (show ¬ nI 5 = (3 : Int32) by decide), if_neg (show ¬ nI 5 = (4 : Int32) by decide), if_pos (show nI 5 = (5 : Int32) from rfl), ha, ob1_mk]
          exact ⟨0, _, _, rfl, rfl, Or.inl rfl, fun _ => rfl⟩
        · have ha : m_X3_at f (nI (fo s cs + j)) (9 : Int32) = _ := hat 9 (by omega)
          rw [if_neg (show ¬ nI 6 = (0 : Int32) by decide), if_neg (show ¬ nI 6 = (1 : Int32) by decide), if_neg (show ¬ nI 6 = (2 : Int32) by decide), if_neg (show ¬ nI 6 = (3 : Int32) by decide), if_neg (show ¬ nI 6 = (4 : Int32) by decide), if_neg (show ¬ nI 6 = (5 : Int32) by decide), if_pos (show nI 6 = (6 : Int32) from rfl), if_neg (show ¬ nI 6 = (0 : Int32) by decide), if_neg (show ¬ nI 6 = (1 : Int32) by decide), if_neg (show ¬ nI 6 = (2 : Int32) by decide), if_neg (show ¬ nI 6 = (3 : Int32) by decide), if_neg (show ¬ nI 6 = (4 : Int32) by decide), if_neg (show ¬ nI 6 = (5 : Int32) by decide), ha, ob1_mk]
          exact ⟨0, _, _, rfl, rfl, Or.inl rfl, fun _ => rfl⟩
