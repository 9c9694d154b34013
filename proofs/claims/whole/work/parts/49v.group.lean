/-! group, both sides -/
def gv (q : Nat) (v : Int32) (ps : List Pt) : Int32 := if q = 2 then v + nI ps.length else if q = 3 then mn (pmin ps) v else mx (pmax ps) v
theorem mn_self (a : Int32) : mn a a = a := by unfold mn; by_cases h : a < a <;> simp [h]
theorem mx_self (a : Int32) : mx a a = a := by unfold mx; by_cases h : a < a <;> simp [h]
theorem mn_le (v r : Int32) : (if v ≤ r then v else r) = mn r v := by
  unfold mn
  by_cases h : v ≤ r
  · rw [if_pos h, if_neg (fun q => lt_not_le.mp q h)]
  · rw [if_neg h, if_pos (lt_not_le.mpr h)]
theorem mx_le (v r : Int32) : (if r ≤ v then v else r) = mx r v := by
  unfold mx
  by_cases h : r ≤ v
  · rw [if_pos h, if_neg (fun q => lt_not_le.mp q h)]
  · rw [if_neg h, if_pos (lt_not_le.mpr h)]
theorem g195_loop {order its many place length times values : Nat → Int32} {cs : List Ch} {sl : List Nat} {m : Nat} (h : slOk order its many place length times values cs sl) (hcl : cs.length ≤ 96) {N : Nat} (hN : N < 900) (hW : ∀ c ∈ cs, chW N m c) (hm : m ≤ 64) (hsort : cs.Pairwise (fun a b => a.1 ≤ b.1)) {s : Nat} (hs : s < 900) {w : Nat} (hw : w ≤ (chS s cs).length) {q : Nat} (hq : q = 2 ∨ q = 3 ∨ q = 4) : ∀ (r k n : Nat) (v : Int32), r + k = w → r < n → lp_X10_group_195 (nI cs.length) its many values order (nI s) (nI q) (nI w) n v (nI k) = some ((sg (chS s cs) k w).foldl (fun v c => gv q v c.2.1) v) := by
  have hfl : (chS s cs).length ≤ cs.length := List.length_filter_le _ _
  intro r
  induction r with
  | zero =>
    intro k n v hk hn
    obtain ⟨n, rfl⟩ : ∃ n', n = n' + 1 := ⟨n - 1, by omega⟩
    obtain rfl : k = w := by omega
    rw [lp_X10_group_195, if_pos (nI_le (by omega) (by omega)), sg_nil]
    rfl
  | succ r ih =>
    intro k n v hk hn
    obtain ⟨n, rfl⟩ : ∃ n', n = n' + 1 := ⟨n - 1, by omega⟩
    obtain ⟨x, e1, hPx, hpl, hle⟩ := slot_M h hcl hN hW hm hsort hs (show k < (chS s cs).length by omega)
    rw [lp_X10_group_195, if_neg (nI_ge (show k < w by omega) (by omega)), e1, ob1_mk, sg_cons (show k < w by omega) (by omega), List.foldl_cons, least_M hPx, great_M hPx]
    have hx := hPx.1
    rcases hq with rfl | rfl | rfl
    · rw [if_pos (show nI 2 = (2 : Int32) from rfl), ckb_in _ hPx.1 (by omega), nI_clamp (show x < 2 ^ 31 by omega), hPx.2.1, ob1_mk, if_neg (show ¬ nI 2 = (3 : Int32) by decide), ob1_mk, if_neg (show ¬ nI 2 = (4 : Int32) by decide), ob1_mk, nI_1, ih (k + 1) n _ (by omega) (by omega)]
      rfl
    · rw [if_neg (show ¬ nI 3 = (2 : Int32) by decide), ob1_mk, if_pos (show nI 3 = (3 : Int32) from rfl), ob1_mk, ob1_mk]
      have : (if v ≤ pmin ((chS s cs).getD k ch0).2.1 then some v else some (pmin ((chS s cs).getD k ch0).2.1)) = some (mn (pmin ((chS s cs).getD k ch0).2.1) v) := by
        rw [← mn_le]
        by_cases c : v ≤ pmin ((chS s cs).getD k ch0).2.1
        · rw [if_pos c, if_pos c]
        · rw [if_neg c, if_neg c]
      rw [this, ob1_mk, ob1_mk, if_neg (show ¬ nI 3 = (4 : Int32) by decide), ob1_mk, nI_1, ih (k + 1) n _ (by omega) (by omega)]
      rfl
    · rw [if_neg (show ¬ nI 4 = (2 : Int32) by decide), ob1_mk, if_neg (show ¬ nI 4 = (3 : Int32) by decide), ob1_mk, if_pos (show nI 4 = (4 : Int32) from rfl), ob1_mk, ob1_mk]
      have : (if pmax ((chS s cs).getD k ch0).2.1 ≤ v then some v else some (pmax ((chS s cs).getD k ch0).2.1)) = some (mx (pmax ((chS s cs).getD k ch0).2.1) v) := by
        rw [← mx_le]
        by_cases c : pmax ((chS s cs).getD k ch0).2.1 ≤ v
        · rw [if_pos c, if_pos c]
        · rw [if_neg c, if_neg c]
      rw [this, ob1_mk, ob1_mk, nI_1, ih (k + 1) n _ (by omega) (by omega)]
      rfl
theorem pts_ne {c : Ch} (h : 1 ≤ c.2.1.length) : c.2.1 ≠ [] := by
  intro q
  rw [q] at h
  simp at h
theorem gf2 : ∀ (l l0 : List Ch), l.foldl (fun v c => gv 2 v c.2.1) (nI (fpts l0).length) = nI (fpts (l0 ++ l)).length := by
  intro l
  induction l with
  | nil => intro l0; rw [List.append_nil]; rfl
  | cons c l ih =>
    intro l0
    rw [List.foldl_cons, show gv 2 (nI (fpts l0).length) c.2.1 = nI (fpts l0).length + nI c.2.1.length from rfl, nI_add, ← List.length_append, ← fpts_snoc, ih (l0 ++ [c]), List.append_assoc]
    rfl
theorem gf3 : ∀ (l l0 : List Ch), (∀ c ∈ l, 1 ≤ c.2.1.length) → fpts l0 ≠ [] → l.foldl (fun v c => gv 3 v c.2.1) (pmin (fpts l0)) = pmin (fpts (l0 ++ l)) := by
  intro l
  induction l with
  | nil => intro l0 _ _; rw [List.append_nil]; rfl
  | cons c l ih =>
    intro l0 h h0
    have hc := pts_ne (h c List.mem_cons_self)
    rw [List.foldl_cons, show gv 3 (pmin (fpts l0)) c.2.1 = mn (pmin c.2.1) (pmin (fpts l0)) from rfl, ← pmin_app h0 hc, ← fpts_snoc, ih (l0 ++ [c]) (fun x hx => h x (List.mem_cons_of_mem _ hx)) (by rw [fpts_snoc]; simp [h0]), List.append_assoc]
    rfl
theorem gf4 : ∀ (l l0 : List Ch), (∀ c ∈ l, 1 ≤ c.2.1.length) → fpts l0 ≠ [] → l.foldl (fun v c => gv 4 v c.2.1) (pmax (fpts l0)) = pmax (fpts (l0 ++ l)) := by
  intro l
  induction l with
  | nil => intro l0 _ _; rw [List.append_nil]; rfl
  | cons c l ih =>
    intro l0 h h0
    have hc := pts_ne (h c List.mem_cons_self)
    rw [List.foldl_cons, show gv 4 (pmax (fpts l0)) c.2.1 = mx (pmax c.2.1) (pmax (fpts l0)) from rfl, ← pmax_app h0 hc, ← fpts_snoc, ih (l0 ++ [c]) (fun x hx => h x (List.mem_cons_of_mem _ hx)) (by rw [fpts_snoc]; simp [h0]), List.append_assoc]
    rfl
theorem gf3a {c : Ch} {l : List Ch} (h : ∀ x ∈ c :: l, 1 ≤ x.2.1.length) : (c :: l).foldl (fun v c => gv 3 v c.2.1) (pmin c.2.1) = pmin (fpts (c :: l)) := by
  rw [List.foldl_cons, show gv 3 (pmin c.2.1) c.2.1 = mn (pmin c.2.1) (pmin c.2.1) from rfl, mn_self]
  have := gf3 l [c] (fun x hx => h x (List.mem_cons_of_mem _ hx)) (by rw [fpts_one]; exact pts_ne (h c List.mem_cons_self))
  rw [fpts_one] at this
  exact this
theorem gf4a {c : Ch} {l : List Ch} (h : ∀ x ∈ c :: l, 1 ≤ x.2.1.length) : (c :: l).foldl (fun v c => gv 4 v c.2.1) (pmax c.2.1) = pmax (fpts (c :: l)) := by
  rw [List.foldl_cons, show gv 4 (pmax c.2.1) c.2.1 = mx (pmax c.2.1) (pmax c.2.1) from rfl, mx_self]
  have := gf4 l [c] (fun x hx => h x (List.mem_cons_of_mem _ hx)) (by rw [fpts_one]; exact pts_ne (h c List.mem_cons_self))
  rw [fpts_one] at this
  exact this
theorem sg_sg {cs : List Ch} {a b k w : Nat} (hkw : a + w ≤ b) : sg (sg cs a b) k w = sg cs (a + k) (a + w) := by
  unfold sg
  rw [List.drop_take, List.take_take, List.drop_drop]
  congr 1
  omega
theorem group_ok {N m : Nat} {f : Nat → Int32} {wl dn : Int32} {e sd : Nat} {cs : List Ch} {hd : List Hd} {sl : List Nat} {order its many place length times values headOf headTime headValue : Nat → Int32} (hC : Core N m f wl dn e sd cs hd sl order its many place length times values headOf headTime headValue) (hN : N ≤ 8) (hm : m ≤ 64) {ρ : Nat} (hρ : 2 ≤ ρ) (hρ2 : ρ ≤ 64) (z1 z2 z3 z4 z5 : Int32) (z6 : Int64) (p0 p1 p2 thr : Int32) :
    ∃ (k a b z1' z2' z3' z4' z5' : Int32) (z6' : Int64), t_X9_group (nI N) (nI ρ) dn f z1 z2 z3 z4 z5 z6 p0 p1 p2 = some (k, a, z1', z2', z3', z4', z5', z6') ∧ m_X10_group thr (nI N) (nI ρ) dn (nI cs.length) its many times values order p0 p1 p2 = some (b, k) ∧ (k = 0 ∨ k = 1 ∨ k = 2 ∨ k = 3) ∧ (k = 0 → b = a) := by
  obtain ⟨hD, hS, hP, hsl, hh⟩ := id hC
  have hcl := hD.2.2.2.1
  rw [t_X9_group, m_X10_group]
  rcases gate_ok hN hP p0 with ⟨q1, rfl⟩ | ⟨q1, rfl, q2⟩ | ⟨s, hs, rfl, rfl, q1, q2⟩
  · rw [q1, ob1_mk, if_neg (by decide), if_neg (by decide), ob1_mk, if_neg (by decide)]
    exact ⟨1, 0, 0, _, _, _, _, _, _, rfl, rfl, Or.inr (Or.inl rfl), fun _ => rfl⟩
  · rw [q1, ob1_mk, if_neg (by decide), if_pos rfl, q2, ob1_mk, if_pos rfl, ob1_mk, if_neg (by decide)]
    exact ⟨2, 0, 0, _, _, _, _, _, _, rfl, rfl, Or.inr (Or.inr (Or.inl rfl)), fun _ => rfl⟩
  · have hcN : ∀ c ∈ cs, c.1 < N := fun c hc => (hS.1 c hc).1
    have g0 := groupsOf_C hD hS hN hs hρ hρ2
    have g0' := groupsOf_M hsl hcl (N := N) (by omega) hcN (show s < 900 by omega) hρ hρ2
    have gc := chunksOf_M hsl hcl (N := N) (by omega) hcN (show s < 900 by omega)
    have hfl : (chS s cs).length ≤ cs.length := List.length_filter_le _ _
    have hgl : gcnt (chS s cs).length ρ ≤ 96 := by
      rw [gcnt_le hρ]
      have : 1 * 96 ≤ ρ * 96 := Nat.mul_le_mul_right 96 (show 1 ≤ ρ by omega)
      omega
    rw [q1, ob1_mk, if_pos rfl, if_pos rfl, q2, ob1_mk, if_neg (show ¬ (1 : Int32) = 0 by decide), g0, g0', ob1_mk, ob1_mk]
    have three : ∀ (X : Option (Int32 × Int32 × Int32 × Int32 × Int32 × Int32 × Int32 × Int64)) (Y : Int32 → Option (Int32 × Int32)), (∃ (y1 y2 y3 y4 y5 : Int32) (y6 : Int64), X = some (3, 0, y1, y2, y3, y4, y5, y6)) → (∃ (k a b z1' z2' z3' z4' z5' : Int32) (z6' : Int64), X = some (k, a, z1', z2', z3', z4', z5', z6') ∧ (ob1 (some (3 : Int32)) fun s_1 => if s_1 ≤ 0 then Y s_1 else some ((0 : Int32), s_1)) = some (b, k) ∧ (k = 0 ∨ k = 1 ∨ k = 2 ∨ k = 3) ∧ (k = 0 → b = a)) := fun X Y ⟨y1, y2, y3, y4, y5, y6, hX⟩ => ⟨3, 0, 0, y1, y2, y3, y4, y5, y6, hX, by rw [ob1_mk, if_neg (show ¬ (3 : Int32) ≤ 0 by decide)], Or.inr (Or.inr (Or.inr rfl)), fun _ => rfl⟩
    have hcode : ∀ hb : ((p2 < 0 ∨ nI 6 ≤ p2) ∨ (p1 < 0 ∨ nI (gcnt (chS s cs).length ρ) ≤ p1)), (if p2 < 0 then some (3 : Int32) else if (5 : Int32) < p2 then some (3 : Int32) else if p1 < 0 then some (3 : Int32) else if p1 < nI (gcnt (chS s cs).length ρ) then some (0 : Int32) else some (3 : Int32)) = some 3 := by
      intro hb
      by_cases h1 : p2 < 0
      · rw [if_pos h1]
      · rw [if_neg h1]
        by_cases h2 : (5 : Int32) < p2
        · rw [if_pos h2]
        · rw [if_neg h2]
          by_cases h3 : p1 < 0
          · rw [if_pos h3]
          · rw [if_neg h3]
            rcases hb with (h | h) | (h | h)
            · exact absurd h h1
            · exfalso
              apply h2
              have h' := Int32.le_iff_toInt_le.mp h
              rw [nI_toInt (by omega)] at h'
              rw [Int32.lt_iff_toInt_lt]
              show (nI 5).toInt < p2.toInt
              rw [nI_toInt (by omega)]
              omega
            · exact absurd h h3
            · rw [if_neg (fun q => lt_not_le.mp q h)]
    rcases pk_ix p1 (show gcnt (chS s cs).length ρ < 2 ^ 31 by omega) with h | h | ⟨j, hj, rfl⟩
    · rw [hcode (Or.inr (Or.inl h))]
      exact three _ _ ⟨_, _, _, _, _, _, by rw [if_pos h]⟩
    · rw [hcode (Or.inr (Or.inr h))]
      exact three _ _ ⟨_, _, _, _, _, _, by rw [if_neg (ge_nneg (by omega) h), if_pos h]⟩
    · obtain ⟨g1, g2⟩ := seg_filter hS.2.2.1 s
      have g1' : sg cs (fo s cs) (fo (s + 1) cs) = chS s cs := g1
      have hfo := fo_le (s + 1) cs
      have hlen : (chS s cs).length = fo (s + 1) cs - fo s cs := by rw [← g1', sg_len hfo]
      have hlt : ρ * j < (chS s cs).length := by
        have := (gcnt_le (n := (chS s cs).length) (g := j) hρ)
        omega
      have hfirst := firstOf_s hD (N := N) (by omega) hcN (show s < 1000 by omega)
      have hend := endOf_s hD (N := N) (by omega) hcN (show s < 900 by omega)
      generalize hw : min (chS s cs).length (ρ * j + ρ) = w
      have hw1 : ρ * j < w := by omega
      have hw2 : w ≤ (chS s cs).length := by omega
      have ew : (if nI (fo (s + 1) cs) < nI (fo s cs) + nI j * nI ρ + nI ρ then nI (fo (s + 1) cs) else nI (fo s cs) + nI j * nI ρ + nI ρ) = nI (fo s cs + w) := by
        rw [pk_mul, nI_add, nI_add, Nat.mul_comm j ρ]
        by_cases c : fo (s + 1) cs < fo s cs + ρ * j + ρ
        · rw [if_pos (nI_lt c (by omega))]; congr 1; omega
        · rw [if_neg (nI_nlt (by omega) (by omega))]; congr 1; omega
      have ew' : (if nI (chS s cs).length ≤ nI ρ * nI j + nI ρ then some (nI (chS s cs).length) else some (nI ρ * nI j + nI ρ)) = some (nI w) := by
        rw [pk_mul, nI_add]
        by_cases c : (chS s cs).length ≤ ρ * j + ρ
        · rw [if_pos (nI_le c (by omega))]; congr 2; omega
        · rw [if_neg (nI_ge (by omega) (by omega))]; congr 2; omega
      have es : nI (fo s cs) + nI j * nI ρ = nI (fo s cs + ρ * j) := by rw [pk_mul, nI_add, Nat.mul_comm j ρ]
      have hsum := sumry_C hD hS.1 hm (show fo s cs + ρ * j ≤ fo s cs + w by omega) (show fo s cs + w ≤ cs.length by omega) z1 z2 z3 z4 z5 z6
      have esg : sg cs (fo s cs + ρ * j) (fo s cs + w) = sg (chS s cs) (ρ * j) w := by rw [← g1', sg_sg (by omega)]
      rw [esg] at hsum
      rw [if_neg (nI_pos (show j < 2 ^ 31 by omega)), if_neg (nI_ge hj (by omega)), hfirst, ob1_mk, hend, ob1_mk, ew, es, hsum, ob6_mk]
      rcases pk_ix p2 (show 6 < 2 ^ 31 by omega) with h2 | h2 | ⟨i, hi, rfl⟩
      · rw [hcode (Or.inl (Or.inl h2))]
        have hne : ∀ i, i < 6 → ¬ p2 = nI i := fun i hi => bad_ne (n := 6) (by omega) (Or.inl h2) hi
        exact three _ _ ⟨_, _, _, _, _, _, by rw [if_neg (show ¬ p2 = (0 : Int32) from hne 0 (by omega)), if_neg (show ¬ p2 = (1 : Int32) from hne 1 (by omega)), if_neg (show ¬ p2 = (2 : Int32) from hne 2 (by omega)), if_neg (show ¬ p2 = (3 : Int32) from hne 3 (by omega)), if_neg (show ¬ p2 = (4 : Int32) from hne 4 (by omega)), if_neg (show ¬ p2 = (5 : Int32) from hne 5 (by omega))]⟩
      · rw [hcode (Or.inl (Or.inr h2))]
        have hne : ∀ i, i < 6 → ¬ p2 = nI i := fun i hi => bad_ne (n := 6) (by omega) (Or.inr h2) hi
        exact three _ _ ⟨_, _, _, _, _, _, by rw [if_neg (show ¬ p2 = (0 : Int32) from hne 0 (by omega)), if_neg (show ¬ p2 = (1 : Int32) from hne 1 (by omega)), if_neg (show ¬ p2 = (2 : Int32) from hne 2 (by omega)), if_neg (show ¬ p2 = (3 : Int32) from hne 3 (by omega)), if_neg (show ¬ p2 = (4 : Int32) from hne 4 (by omega)), if_neg (show ¬ p2 = (5 : Int32) from hne 5 (by omega))]⟩
      · have hz : (if nI i < 0 then some (3 : Int32) else if (5 : Int32) < nI i then some (3 : Int32) else if nI j < 0 then some (3 : Int32) else if nI j < nI (gcnt (chS s cs).length ρ) then some (0 : Int32) else some (3 : Int32)) = some 0 := by
          rw [if_neg (nI_pos (by omega)), if_neg (show ¬ (5 : Int32) < nI i from nI_nlt (a := 5) (by omega) (by omega)), if_neg (nI_pos (by omega)), if_pos (nI_lt hj (by omega))]
        have hl1 : 1 ≤ (sg (chS s cs) (ρ * j) w).length := by rw [sg_len hw2]; omega
        have hmem : ∀ c ∈ sg (chS s cs) (ρ * j) w, 1 ≤ c.2.1.length := by
          intro c hc
          rw [← esg] at hc
          exact (hS.1 c (List.mem_of_mem_drop (List.mem_of_mem_take hc))).2.1
        have hgd : ∀ i, i < w - ρ * j → (sg (chS s cs) (ρ * j) w).getD i ch0 = (chS s cs).getD (ρ * j + i) ch0 := by
          intro i hi
          unfold sg
          simp only [List.getD_eq_getElem?_getD]
          rw [List.getElem?_take_of_lt (by omega), List.getElem?_drop]
        obtain ⟨x, e1, hPx, -, -⟩ := slot_M hsl hcl (N := N) (by omega) hS.1 hm hS.2.2.1 (show s < 900 by omega) hlt
        obtain ⟨y, e2, hPy, -, -⟩ := slot_M hsl hcl (N := N) (by omega) hS.1 hm hS.2.2.1 (show s < 900 by omega) (show w - 1 < (chS s cs).length by omega)
        rw [hz, ob1_mk, if_pos (show (0 : Int32) ≤ 0 by decide), gc, ob1_mk, ew', ob1_mk, pk_mul, e1]
        rcases (show i = 0 ∨ i = 1 ∨ i = 2 ∨ i = 3 ∨ i = 4 ∨ i = 5 by omega) with rfl | rfl | rfl | rfl | rfl | rfl
        · rw [if_pos (show nI 0 = (0 : Int32) from rfl), if_pos (show nI 0 = (0 : Int32) from rfl), ob1_mk, firstTime_M hPx, ob1_mk]
          refine ⟨0, _, _, _, _, _, _, _, _, rfl, rfl, Or.inl rfl, fun _ => ?_⟩
          rw [pfst_grp hl1 hmem, hgd 0 (by omega), Nat.add_zero]
        · rw [if_neg (show ¬ nI 1 = (0 : Int32) by decide), if_pos (show nI 1 = (1 : Int32) from rfl), if_neg (show ¬ nI 1 = (0 : Int32) by decide), if_pos (show nI 1 = (1 : Int32) from rfl), show nI w - (1 : Int32) = nI (w - 1) from pk_sub (b := 1) (by omega), e2, ob1_mk, lastTime_M hPy, ob1_mk]
          refine ⟨0, _, _, _, _, _, _, _, _, rfl, rfl, Or.inl rfl, fun _ => ?_⟩
          rw [plst_grp hl1 hmem, sg_len hw2, hgd _ (by omega), show ρ * j + (w - ρ * j - 1) = w - 1 by omega]
        · have hlp := g195_loop hsl hcl (N := N) (by omega) hS.1 hm hS.2.2.1 (show s < 900 by omega) hw2 (q := 2) (Or.inl rfl) (w - ρ * j) (ρ * j) NN (0 : Int32) (by omega) (by unfold NN; omega)
          have := gf2 (sg (chS s cs) (ρ * j) w) []
          have this' : (sg (chS s cs) (ρ * j) w).foldl (fun v c => gv 2 v c.2.1) (0 : Int32) = nI (fpts (sg (chS s cs) (ρ * j) w)).length := this
          rw [if_neg (show ¬ nI 2 = (0 : Int32) by decide), if_neg (show ¬ nI 2 = (1 : Int32) by decide), if_pos (show nI 2 = (2 : Int32) from rfl), if_neg (show ¬ nI 2 = (0 : Int32) by decide), if_neg (show ¬ nI 2 = (1 : Int32) by decide), if_neg (show ¬ nI 2 = (5 : Int32) by decide), if_pos (show nI 2 = (2 : Int32) from rfl), ob1_mk, hlp, this', ob1_mk]
          exact ⟨0, _, _, _, _, _, _, _, _, rfl, rfl, Or.inl rfl, fun _ => rfl⟩
        · have hlp := g195_loop hsl hcl (N := N) (by omega) hS.1 hm hS.2.2.1 (show s < 900 by omega) hw2 (q := 3) (Or.inr (Or.inl rfl)) (w - ρ * j) (ρ * j) NN (pmin ((chS s cs).getD (ρ * j) ch0).2.1) (by omega) (by unfold NN; omega)
          rw [sg_cons hw1 hlt] at hmem hlp
          rw [gf3a hmem, ← sg_cons hw1 hlt] at hlp
          rw [if_neg (show ¬ nI 3 = (0 : Int32) by decide), if_neg (show ¬ nI 3 = (1 : Int32) by decide), if_neg (show ¬ nI 3 = (2 : Int32) by decide), if_pos (show nI 3 = (3 : Int32) from rfl), if_neg (show ¬ nI 3 = (0 : Int32) by decide), if_neg (show ¬ nI 3 = (1 : Int32) by decide), if_neg (show ¬ nI 3 = (5 : Int32) by decide), if_neg (show ¬ nI 3 = (2 : Int32) by decide), if_pos (show nI 3 = (3 : Int32) from rfl), ob1_mk, least_M hPx, ob1_mk, ob1_mk, hlp, ob1_mk]
          exact ⟨0, _, _, _, _, _, _, _, _, rfl, rfl, Or.inl rfl, fun _ => rfl⟩
        · have hlp := g195_loop hsl hcl (N := N) (by omega) hS.1 hm hS.2.2.1 (show s < 900 by omega) hw2 (q := 4) (Or.inr (Or.inr rfl)) (w - ρ * j) (ρ * j) NN (pmax ((chS s cs).getD (ρ * j) ch0).2.1) (by omega) (by unfold NN; omega)
          rw [sg_cons hw1 hlt] at hmem hlp
          rw [gf4a hmem, ← sg_cons hw1 hlt] at hlp
          rw [if_neg (show ¬ nI 4 = (0 : Int32) by decide), if_neg (show ¬ nI 4 = (1 : Int32) by decide), if_neg (show ¬ nI 4 = (2 : Int32) by decide), if_neg (show ¬ nI 4 = (3 : Int32) by decide), if_pos (show nI 4 = (4 : Int32) from rfl), if_neg (show ¬ nI 4 = (0 : Int32) by decide), if_neg (show ¬ nI 4 = (1 : Int32) by decide), if_neg (show ¬ nI 4 = (5 : Int32) by decide), if_neg (show ¬ nI 4 = (2 : Int32) by decide), if_neg (show ¬ nI 4 = (3 : Int32) by decide), ob1_mk, great_M hPx, ob1_mk, ob1_mk, hlp, ob1_mk]
          exact ⟨0, _, _, _, _, _, _, _, _, rfl, rfl, Or.inl rfl, fun _ => rfl⟩
        · rw [if_neg (show ¬ nI 5 = (0 : Int32) by decide), if_neg (show ¬ nI 5 = (1 : Int32) by decide), if_neg (show ¬ nI 5 = (2 : Int32) by decide), if_neg (show ¬ nI 5 = (3 : Int32) by decide), if_neg (show ¬ nI 5 = (4 : Int32) by decide), if_pos (show nI 5 = (5 : Int32) from rfl), if_neg (show ¬ nI 5 = (0 : Int32) by decide), if_neg (show ¬ nI 5 = (1 : Int32) by decide), if_pos (show nI 5 = (5 : Int32) from rfl), pk_sub (by omega), pk_sub (by omega)]
          refine ⟨0, _, _, _, _, _, _, _, _, rfl, rfl, Or.inl rfl, fun _ => ?_⟩
          congr 1
          omega
