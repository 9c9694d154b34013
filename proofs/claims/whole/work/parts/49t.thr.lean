/-! methods of the class that may throw: code 0 for an answer, else the number of what was thrown -/
def t_X9_gate (P_seriesCount D_down p0 : Int32) : Option Int32 :=
  ob1 (m_X2_isDown D_down) fun r_1 =>
  if r_1 = 0 then (
    ob1 (m_X9_isSeries P_seriesCount p0) fun r_2 =>
    if r_2 = 0 then some (2 : Int32) else some (0 : Int32)) else some (1 : Int32)
def t_X9_asks (P_seriesCount : Int32) (D_down : Int32) (D_cells : Nat → Int32) (G_logged : Int32) (U_place : Int32) (U_bitsRead : Int32) (U_started : Int32) (U_time : Int32) (U_value : Int32) (U_rise : Int64) (Q_ratio : Int32) (Q_looks : Int32) (Q_unpacked : Int32) (F_first : Int32) (F_last : Int32) (F_points : Int32) (F_least : Int32) (F_greatest : Int32) (F_sum : Int64) (Z_first : Int32) (Z_last : Int32) (Z_points : Int32) (Z_least : Int32) (Z_greatest : Int32) (Z_sum : Int64) (p0 : Int32) (p1 : Int32) (p2 : Int32) : Option (Int32 × Int32 × Int32 × Int32 × Int32 × Int32 × Int64 × Int32 × Int32 × Int32 × Int32 × Int32 × Int32 × Int32 × Int64 × Int32 × Int32 × Int32 × Int32 × Int32 × Int64) :=
  ob1 (t_X9_gate P_seriesCount D_down p0) fun k =>
  if k = 0 then (
    ob20 (m_X0_ask D_cells G_logged U_place U_bitsRead U_started U_time U_value U_rise Q_ratio Q_looks Q_unpacked F_first F_last F_points F_least F_greatest F_sum Z_first Z_last Z_points Z_least Z_greatest Z_sum p0 p1 p2) fun U_place_10 U_bitsRead_11 U_started_12 U_time_13 U_value_14 U_rise_15 Q_looks_16 Q_unpacked_17 F_first_18 F_last_19 F_points_20 F_least_21 F_greatest_22 F_sum_23 Z_first_24 Z_last_25 Z_points_26 Z_least_27 Z_greatest_28 Z_sum_29 =>
    some ((0 : Int32), U_place_10, U_bitsRead_11, U_started_12, U_time_13, U_value_14, U_rise_15, Q_looks_16, Q_unpacked_17, F_first_18, F_last_19, F_points_20, F_least_21, F_greatest_22, F_sum_23, Z_first_24, Z_last_25, Z_points_26, Z_least_27, Z_greatest_28, Z_sum_29)) else (
    some (k, U_place, U_bitsRead, U_started, U_time, U_value, U_rise, Q_looks, Q_unpacked, F_first, F_last, F_points, F_least, F_greatest, F_sum, Z_first, Z_last, Z_points, Z_least, Z_greatest, Z_sum))
def t_X9_sizes (P_seriesCount P_ratio D_down : Int32) (D_cells : Nat → Int32) (G_logged p0 p1 : Int32) : Option (Int32 × Int32) :=
  ob1 (t_X9_gate P_seriesCount D_down p0) fun k =>
  if k = 0 then (
    if p1 = (0 : Int32) then (ob1 (m_X9_chunksOf D_cells p0) fun r => some ((0 : Int32), r)) else if p1 = (1 : Int32) then (ob1 (m_X4_pointsOf D_cells G_logged p0) fun r => some ((0 : Int32), r)) else if p1 = (2 : Int32) then (ob1 (m_X9_groupsOf P_ratio D_cells p0) fun r => some ((0 : Int32), r)) else some ((3 : Int32), (0 : Int32))) else some (k, (0 : Int32))
def t_X9_chunk (P_seriesCount D_down : Int32) (D_cells : Nat → Int32) (p0 p1 p2 : Int32) : Option (Int32 × Int32) :=
  ob1 (t_X9_gate P_seriesCount D_down p0) fun k =>
  if k = 0 then (
    if p1 < 0 then some ((3 : Int32), (0 : Int32)) else (
      ob1 (m_X9_chunksOf D_cells p0) fun r_1 =>
      if r_1 ≤ p1 then some ((3 : Int32), (0 : Int32)) else (
        ob1 (m_X3_firstOf D_cells p0) fun r_2 =>
        if p2 = (0 : Int32) then (ob1 (m_X3_at D_cells (r_2 + p1) (1 : Int32)) fun r => some ((0 : Int32), r)) else if p2 = (1 : Int32) then (ob1 (m_X3_at D_cells (r_2 + p1) (2 : Int32)) fun r => some ((0 : Int32), r)) else if p2 = (2 : Int32) then (ob1 (m_X3_at D_cells (r_2 + p1) (3 : Int32)) fun r => some ((0 : Int32), r)) else if p2 = (3 : Int32) then (ob1 (m_X3_at D_cells (r_2 + p1) (4 : Int32)) fun r => some ((0 : Int32), r)) else if p2 = (4 : Int32) then (ob1 (m_X3_at D_cells (r_2 + p1) (5 : Int32)) fun r => some ((0 : Int32), r)) else if p2 = (5 : Int32) then (ob1 (m_X3_at D_cells (r_2 + p1) (8 : Int32)) fun r => some ((0 : Int32), r)) else if p2 = (6 : Int32) then (ob1 (m_X3_at D_cells (r_2 + p1) (9 : Int32)) fun r => some ((0 : Int32), r)) else some ((3 : Int32), (0 : Int32))))) else some (k, (0 : Int32))
def t_X9_group (P_seriesCount P_ratio D_down : Int32) (D_cells : Nat → Int32) (Z_first Z_last Z_points Z_least Z_greatest : Int32) (Z_sum : Int64) (p0 p1 p2 : Int32) : Option (Int32 × Int32 × Int32 × Int32 × Int32 × Int32 × Int32 × Int64) :=
  ob1 (t_X9_gate P_seriesCount D_down p0) fun k =>
  if k = 0 then (
    if p1 < 0 then some ((3 : Int32), (0 : Int32), Z_first, Z_last, Z_points, Z_least, Z_greatest, Z_sum) else (
      ob1 (m_X9_groupsOf P_ratio D_cells p0) fun r_1 =>
      if r_1 ≤ p1 then some ((3 : Int32), (0 : Int32), Z_first, Z_last, Z_points, Z_least, Z_greatest, Z_sum) else (
        ob1 (m_X3_firstOf D_cells p0) fun r_2 =>
        ob1 (m_X3_endOf D_cells p0) fun r_3 =>
        ob6 (m_X0_summaryOf D_cells Z_first Z_last Z_points Z_least Z_greatest Z_sum (r_2 + p1 * P_ratio) (if r_3 < (r_2 + p1 * P_ratio) + P_ratio then r_3 else (r_2 + p1 * P_ratio) + P_ratio)) fun Z_first_1 Z_last_2 Z_points_3 Z_least_4 Z_greatest_5 Z_sum_6 =>
        if p2 = (0 : Int32) then some ((0 : Int32), Z_first_1, Z_first_1, Z_last_2, Z_points_3, Z_least_4, Z_greatest_5, Z_sum_6) else if p2 = (1 : Int32) then some ((0 : Int32), Z_last_2, Z_first_1, Z_last_2, Z_points_3, Z_least_4, Z_greatest_5, Z_sum_6) else if p2 = (2 : Int32) then some ((0 : Int32), Z_points_3, Z_first_1, Z_last_2, Z_points_3, Z_least_4, Z_greatest_5, Z_sum_6) else if p2 = (3 : Int32) then some ((0 : Int32), Z_least_4, Z_first_1, Z_last_2, Z_points_3, Z_least_4, Z_greatest_5, Z_sum_6) else if p2 = (4 : Int32) then some ((0 : Int32), Z_greatest_5, Z_first_1, Z_last_2, Z_points_3, Z_least_4, Z_greatest_5, Z_sum_6) else if p2 = (5 : Int32) then some ((0 : Int32), (if r_3 < (r_2 + p1 * P_ratio) + P_ratio then r_3 else (r_2 + p1 * P_ratio) + P_ratio) - (r_2 + p1 * P_ratio), Z_first_1, Z_last_2, Z_points_3, Z_least_4, Z_greatest_5, Z_sum_6) else some ((3 : Int32), (0 : Int32), Z_first_1, Z_last_2, Z_points_3, Z_least_4, Z_greatest_5, Z_sum_6)))) else some (k, (0 : Int32), Z_first, Z_last, Z_points, Z_least, Z_greatest, Z_sum)
theorem gate_ok {N : Nat} (hN : N ≤ 8) {wl dn : Int32} (hP : pwOk wl dn) (p0 : Int32) : (t_X9_gate (nI N) dn p0 = some 1 ∧ dn = 1) ∨ (t_X9_gate (nI N) dn p0 = some 2 ∧ dn = 0 ∧ m_X10_isSeries (nI N) p0 = some 0) ∨ ∃ s, s < N ∧ p0 = nI s ∧ dn = 0 ∧ t_X9_gate (nI N) dn p0 = some 0 ∧ m_X10_isSeries (nI N) p0 = some 1 := by
  rw [t_X9_gate, m_X2_isDown]
  rcases hP.2 with rfl | ⟨rfl, hw0⟩
  · rw [show ckz (0 : Int32) (some (0 : Int32)) = some 0 from rfl, ob1_mk, if_pos rfl]
    rcases isSer_C (N := N) (by omega) p0 with ⟨q1, q2⟩ | ⟨s, hs, rfl, q1, q2⟩
    · exact Or.inr (Or.inl ⟨by rw [q1, ob1_mk, if_pos rfl], rfl, q2⟩)
    · exact Or.inr (Or.inr ⟨s, hs, rfl, rfl, by rw [q1, ob1_mk, if_neg (by decide)], q2⟩)
  · exact Or.inl ⟨by rw [show ckz (1 : Int32) (some (1 : Int32)) = some 1 from rfl, ob1_mk, if_neg (by decide)], rfl⟩
theorem asks_ok {N m : Nat} {f : Nat → Int32} {wl dn : Int32} {e sd : Nat} {cs : List Ch} {hd : List Hd} {sl : List Nat} {order its many place length times values headOf headTime headValue : Nat → Int32} (hC : Core N m f wl dn e sd cs hd sl order its many place length times values headOf headTime headValue) (hN : N ≤ 8) (hm : m ≤ 64) {ρ : Nat} (hρ : 2 ≤ ρ) (hρ2 : ρ ≤ 64) (p0 p1 p2 : Int32) (up br st t v : Int32) (rr : Int64) (lo un f1 f2 f3 f4 f5 : Int32) (f6 : Int64) (z1 z2 z3 z4 z5 : Int32) (z6 : Int64) (thr a0 a1 a2 : Int32) (a3 : Int64) (cT cV : Nat → Int32) :
    ∃ (k b up' br' st' t' v' : Int32) (rr' : Int64) (lo' un' f1' f2' f3' f4' f5' : Int32) (f6' : Int64) (z1' z2' z3' z4' z5' : Int32) (z6' : Int64) (a0' a1' a2' : Int32) (a3' : Int64),
      t_X9_asks (nI N) dn f (nI hd.length) up br st t v rr (nI ρ) lo un f1 f2 f3 f4 f5 f6 z1 z2 z3 z4 z5 z6 p0 p1 p2 = some (k, up', br', st', t', v', rr', lo', un', f1', f2', f3', f4', f5', f6', z1', z2', z3', z4', z5', z6') ∧
      m_X10_asks thr (nI N) (nI ρ) dn lo un (nI cs.length) (nI hd.length) a0 a1 a2 a3 its many times values order headOf headTime headValue cT cV p0 p1 p2 = some (b, k, lo', un', a0', a1', a2', a3', cT, cV) ∧
      (k = 0 ∨ k = 1 ∨ k = 2) ∧ (k = 0 → b = 1 ∧ a1' = f4' ∧ a2' = f5' ∧ a3' = f6') := by
  obtain ⟨hD, hS, hP, hsl, hh⟩ := id hC
  rw [t_X9_asks, m_X10_asks]
  rcases gate_ok hN hP p0 with ⟨q1, rfl⟩ | ⟨q1, rfl, q2⟩ | ⟨s, hs, rfl, rfl, q1, q2⟩
  · rw [q1, ob1_mk, if_neg (by decide), if_neg (by decide), ob1_mk, if_neg (by decide), ob8_mk, if_neg (by decide), ob1_mk]
    exact ⟨1, 0, _, _, _, _, _, _, _, _, _, _, _, _, _, _, _, _, _, _, _, _, _, _, _, _, rfl, rfl, Or.inr (Or.inl rfl), fun q => absurd q (by decide)⟩
  · rw [q1, ob1_mk, if_neg (by decide), if_pos rfl, q2, ob1_mk, if_pos rfl, ob1_mk, if_neg (by decide), ob8_mk, if_neg (by decide), ob1_mk]
    exact ⟨2, 0, _, _, _, _, _, _, _, _, _, _, _, _, _, _, _, _, _, _, _, _, _, _, _, _, rfl, rfl, Or.inr (Or.inr rfl), fun q => absurd q (by decide)⟩
  · obtain ⟨u1, u2, u3, u4, u5, u6, y1, y2, y3, y4, y5, y6, e1⟩ := ask_C hD hS hN hm hρ hρ2 hs p1 p2 up br st t v rr lo un f1 f2 f3 f4 f5 f6 z1 z2 z3 z4 z5 z6
    obtain ⟨cT', cV', e2, hcr, hlen⟩ := ask_M hC hN hm hρ hρ2 hs p1 p2 false lo un a0 a1 a2 a3 cT cV
    obtain ⟨rfl, rfl⟩ := hcr.1 rfl
    have e2' : m_X10_ask (nI ρ) lo un (nI cs.length) (nI hd.length) a0 a1 a2 a3 its many times values order headOf headTime headValue cT' cV' (nI s) p1 p2 (0 : Int32) = _ := e2
    rw [q1, ob1_mk, if_pos rfl, e1, ob20_mk, if_pos rfl, q2, ob1_mk, if_neg (by decide), ob1_mk, if_pos rfl, e2', ob8_mk, ob8_mk, if_pos rfl, ob1_mk]
    exact ⟨0, 1, _, _, _, _, _, _, _, _, _, _, _, _, _, _, _, _, _, _, _, _, _, _, _, _, rfl, rfl, Or.inl rfl, fun _ => ⟨rfl, rfl, rfl, rfl⟩⟩
theorem pointsOf_loop {f : Nat → Int32} {e : Nat} {hd : List Hd} (hlg : lgOk f e hd) {N s : Nat} (hN : N < 900) (hh : ∀ x ∈ hd, x.1 < N) (hs : s < 900) : ∀ (r k n a : Nat), r + k = hd.length → r < n → lp_X4_pointsOf_4 f (nI hd.length) (nI s) n (nI a) (nI k) = some (nI (a + (hdOf s (hd.drop k)).length)) := by
  intro r
  have hl := hlg.1
  induction r with
  | zero =>
    intro k n a hk hn
    obtain ⟨m, rfl⟩ : ∃ m, n = m + 1 := ⟨n - 1, by omega⟩
    rw [lp_X4_pointsOf_4, if_pos (nI_le (by omega) (by omega)), List.drop_eq_nil_of_le (by omega)]
    rfl
  | succ r ih =>
    intro k n a hk hn
    obtain ⟨m, rfl⟩ : ∃ m, n = m + 1 := ⟨n - 1, by omega⟩
    have hlt : k < hd.length := by omega
    have hsN := hh _ (gd_mem hd0 hlt)
    have e0 : m_X4_at f (nI k) (0 : Int32) = some (nI (hd.getD k hd0).1) := logat_s hlg hlt (j := 0) (by omega)
    have ehd : hdOf s (hd.drop k) = (if (hd.getD k hd0).1 = s then [(hd.getD k hd0).2] else []) ++ hdOf s (hd.drop (k + 1)) := by
      rw [drop_cons hd0 hlt, show hd.getD k hd0 :: hd.drop (k + 1) = [hd.getD k hd0] ++ hd.drop (k + 1) from rfl, hdOf_app, hdOf_one]
    rw [lp_X4_pointsOf_4, if_neg (nI_ge hlt (by omega)), e0, ob1_mk, ehd, nI_1, nI_1]
    by_cases hss : (hd.getD k hd0).1 = s
    · rw [if_pos (by rw [hss]), if_pos hss, ob1_mk, ih (k + 1) m _ (by omega) (by omega), List.length_append, List.length_singleton, Nat.add_assoc]
    · rw [if_neg (fun q => hss ((nI_eq (by omega) (by omega)).mp q)), if_neg hss, ob1_mk, List.nil_append, ih (k + 1) m _ (by omega) (by omega)]
theorem sz76_loop {headOf headTime headValue : Nat → Int32} {hd : List Hd} (hh : hdsOk headOf headTime headValue hd) (hl : hd.length ≤ 128) {N s : Nat} (hN : N < 900) (hhN : ∀ x ∈ hd, x.1 < N) (hs : s < 900) : ∀ (r k n a : Nat), r + k = hd.length → r < n → lp_X10_sizes_76 (nI hd.length) headOf (nI s) n (nI a) (nI k) = some (nI (a + (hdOf s (hd.drop k)).length)) := by
  intro r
  induction r with
  | zero =>
    intro k n a hk hn
    obtain ⟨m, rfl⟩ : ∃ m, n = m + 1 := ⟨n - 1, by omega⟩
    rw [lp_X10_sizes_76, if_pos (nI_le (by omega) (by omega)), List.drop_eq_nil_of_le (by omega)]
    rfl
  | succ r ih =>
    intro k n a hk hn
    obtain ⟨m, rfl⟩ : ∃ m, n = m + 1 := ⟨n - 1, by omega⟩
    have hlt : k < hd.length := by omega
    have hsN := hhN _ (gd_mem hd0 hlt)
    have ehd : hdOf s (hd.drop k) = (if (hd.getD k hd0).1 = s then [(hd.getD k hd0).2] else []) ++ hdOf s (hd.drop (k + 1)) := by
      rw [drop_cons hd0 hlt, show hd.getD k hd0 :: hd.drop (k + 1) = [hd.getD k hd0] ++ hd.drop (k + 1) from rfl, hdOf_app, hdOf_one]
    rw [lp_X10_sizes_76, if_neg (nI_ge hlt (by omega)), ckb_in _ (show k < 128 by omega) (by omega), nI_clamp (by omega), (hh k hlt).1, ehd, nI_1]
    by_cases hss : (hd.getD k hd0).1 = s
    · rw [if_pos (by rw [hss]), if_pos hss, ob1_mk, nI_1, ih (k + 1) m _ (by omega) (by omega), List.length_append, List.length_singleton, Nat.add_assoc]
    · rw [if_neg (fun q => hss ((nI_eq (by omega) (by omega)).mp q)), if_neg hss, ob1_mk, List.nil_append, show nI a + (0 : Int32) = nI a from nI_add a 0, ih (k + 1) m _ (by omega) (by omega)]
theorem chunksOf_C {f : Nat → Int32} {e sd N most : Nat} {cs : List Ch} {hd : List Hd} (hD : DOk f e sd cs hd) (hS : SOk N most cs hd) (hN : N ≤ 8) {s : Nat} (hs : s < N) : m_X9_chunksOf f (nI s) = some (nI (chS s cs).length) := by
  obtain ⟨g1, g2⟩ := seg_filter hS.2.2.1 s
  have hl := hD.2.2.2.1
  have hfo := fo_le (s + 1) cs
  have : (chS s cs).length = fo (s + 1) cs - fo s cs := by
    have h1 := sg_len (cs := cs) (k := fo s cs) hfo
    have : sg cs (fo s cs) (fo (s + 1) cs) = chS s cs := g1
    rw [this] at h1
    exact h1
  rw [m_X9_chunksOf, endOf_s hD (N := N) (by omega) (fun c hc => (hS.1 c hc).1) (by omega), ob1_mk, firstOf_s hD (N := N) (by omega) (fun c hc => (hS.1 c hc).1) (by omega), ob1_mk, pk_sub g2, this]
theorem groupsOf_C {f : Nat → Int32} {e sd N most : Nat} {cs : List Ch} {hd : List Hd} (hD : DOk f e sd cs hd) (hS : SOk N most cs hd) (hN : N ≤ 8) {s : Nat} (hs : s < N) {ρ : Nat} (hρ : 2 ≤ ρ) (hρ2 : ρ ≤ 64) : m_X9_groupsOf (nI ρ) f (nI s) = some (nI (gcnt (chS s cs).length ρ)) := by
  have hfl : (chS s cs).length ≤ cs.length := List.length_filter_le _ _
  have hl := hD.2.2.2.1
  rw [m_X9_groupsOf, if_pos (show (2 : Int32) ≤ nI ρ from nI_le (a := 2) hρ (by omega)), chunksOf_C hD hS hN hs, ob1_mk]
  unfold ckn
  rw [if_neg (nI_ne0 (by omega) (by omega)), nI_add, show (1 : Int32) = nI 1 from rfl, pk_sub (by omega), pk_div (by omega) (by omega) (by omega)]
  rfl
theorem sizes_ok {N m : Nat} {f : Nat → Int32} {wl dn : Int32} {e sd : Nat} {cs : List Ch} {hd : List Hd} {sl : List Nat} {order its many place length times values headOf headTime headValue : Nat → Int32} (hC : Core N m f wl dn e sd cs hd sl order its many place length times values headOf headTime headValue) (hN : N ≤ 8) (hm : m ≤ 64) {ρ : Nat} (hρ : 2 ≤ ρ) (hρ2 : ρ ≤ 64) (p0 p1 thr : Int32) :
    ∃ k a b : Int32, t_X9_sizes (nI N) (nI ρ) dn f (nI hd.length) p0 p1 = some (k, a) ∧ m_X10_sizes thr (nI N) (nI ρ) dn (nI cs.length) (nI hd.length) its order headOf p0 p1 = some (b, k) ∧ (k = 0 ∨ k = 1 ∨ k = 2 ∨ k = 3) ∧ (k = 0 → b = a) := by
  obtain ⟨hD, hS, hP, hsl, hh⟩ := id hC
  have hcl := hD.2.2.2.1
  have hlg := hD.2.2.2.2.2.2
  have hl := hlg.1
  rw [t_X9_sizes, m_X10_sizes]
  rcases gate_ok hN hP p0 with ⟨q1, rfl⟩ | ⟨q1, rfl, q2⟩ | ⟨s, hs, rfl, rfl, q1, q2⟩
  · rw [q1, ob1_mk, if_neg (by decide), if_neg (by decide), ob1_mk, if_neg (by decide)]
    exact ⟨1, 0, 0, rfl, rfl, Or.inr (Or.inl rfl), fun _ => rfl⟩
  · rw [q1, ob1_mk, if_neg (by decide), if_pos rfl, q2, ob1_mk, if_pos rfl, ob1_mk, if_neg (by decide)]
    exact ⟨2, 0, 0, rfl, rfl, Or.inr (Or.inr (Or.inl rfl)), fun _ => rfl⟩
  · rw [q1, ob1_mk, if_pos rfl, if_pos rfl, q2, ob1_mk, if_neg (show ¬ (1 : Int32) = 0 by decide)]
    have hcN : ∀ c ∈ cs, c.1 < N := fun c hc => (hS.1 c hc).1
    have g0 := chunksOf_C hD hS hN hs
    have g0' := chunksOf_M hsl hcl (N := N) (by omega) hcN (show s < 900 by omega)
    have g2 := groupsOf_C hD hS hN hs hρ hρ2
    have g2' := groupsOf_M hsl hcl (N := N) (by omega) hcN (show s < 900 by omega) hρ hρ2
    have g1 := pointsOf_loop hlg (N := N) (by omega) hS.2.2.2.1 (show s < 900 by omega) hd.length 0 NN 0 (by omega) (by unfold NN; omega)
    rw [List.drop_zero, Nat.zero_add] at g1
    have g1a : lp_X4_pointsOf_4 f (nI hd.length) (nI s) NN (0 : Int32) (0 : Int32) = some (nI (hdOf s hd).length) := g1
    have g1' := sz76_loop hh hl (N := N) (by omega) hS.2.2.2.1 (show s < 900 by omega) hd.length 0 NN 0 (by omega) (by unfold NN; omega)
    rw [List.drop_zero, Nat.zero_add] at g1'
    have g1b : lp_X10_sizes_76 (nI hd.length) headOf (nI s) NN (0 : Int32) (0 : Int32) = some (nI (hdOf s hd).length) := g1'
    by_cases c0 : p1 = (0 : Int32)
    · subst c0
      rw [if_pos rfl, g0, ob1_mk, show (if (0 : Int32) < 0 then some (3 : Int32) else if (0 : Int32) ≤ 2 then some 0 else some 3) = some 0 by decide, ob1_mk, if_pos (show (0 : Int32) ≤ 0 by decide), if_pos rfl, g0', ob1_mk]
      exact ⟨0, _, _, rfl, rfl, Or.inl rfl, fun _ => rfl⟩
    · rw [if_neg c0]
      by_cases c1 : p1 = (1 : Int32)
      · subst c1
        rw [if_pos rfl, m_X4_pointsOf, g1a, ob1_mk, ob1_mk, show (if (1 : Int32) < 0 then some (3 : Int32) else if (1 : Int32) ≤ 2 then some 0 else some 3) = some 0 by decide, ob1_mk, if_pos (show (0 : Int32) ≤ 0 by decide), if_neg (show ¬ (1 : Int32) = 0 by decide), if_neg (show ¬ (1 : Int32) = 2 by decide), g1b, ob1_mk]
        exact ⟨0, _, _, rfl, rfl, Or.inl rfl, fun _ => rfl⟩
      · rw [if_neg c1]
        by_cases c2 : p1 = (2 : Int32)
        · subst c2
          rw [if_pos rfl, g2, ob1_mk, show (if (2 : Int32) < 0 then some (3 : Int32) else if (2 : Int32) ≤ 2 then some 0 else some 3) = some 0 by decide, ob1_mk, if_pos (show (0 : Int32) ≤ 0 by decide), if_neg (show ¬ (2 : Int32) = 0 by decide), if_pos rfl, g2', ob1_mk]
          exact ⟨0, _, _, rfl, rfl, Or.inl rfl, fun _ => rfl⟩
        · rw [if_neg c2]
          have hthree : (if p1 < 0 then some (3 : Int32) else if p1 ≤ (2 : Int32) then some (0 : Int32) else some (3 : Int32)) = some 3 := by
            rcases pk_ix p1 (show 3 < 2 ^ 31 by omega) with h | h | ⟨i, hi, rfl⟩
            · rw [if_pos h]
            · have h0 : ¬ p1 < 0 := by
                intro q
                rw [Int32.lt_iff_toInt_lt] at q
                have h' : (nI 3).toInt ≤ p1.toInt := Int32.le_iff_toInt_le.mp h
                rw [nI_toInt (by omega)] at h'
                have : (0 : Int32).toInt = 0 := rfl
                omega
              have h2 : ¬ p1 ≤ (2 : Int32) := by
                intro q
                have q' : p1.toInt ≤ (nI 2).toInt := Int32.le_iff_toInt_le.mp q
                rw [nI_toInt (by omega)] at q'
                have h' : (nI 3).toInt ≤ p1.toInt := Int32.le_iff_toInt_le.mp h
                rw [nI_toInt (by omega)] at h'
                omega
              rw [if_neg h0, if_neg h2]
            · exfalso
              rcases (show i = 0 ∨ i = 1 ∨ i = 2 by omega) with rfl | rfl | rfl
              · exact c0 rfl
              · exact c1 rfl
              · exact c2 rfl
          rw [hthree, ob1_mk, if_neg (show ¬ (3 : Int32) ≤ 0 by decide)]
          exact ⟨3, 0, 0, rfl, rfl, Or.inr (Or.inr (Or.inr rfl)), fun _ => rfl⟩
