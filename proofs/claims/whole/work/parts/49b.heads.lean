/-! the reference: flush's chunks -/
theorem comes_1 {c : Nat} (hc : c < 240) (next isNew : Nat → Int32) (p : Int32) : m_X10_comes (nI c) next isNew p (1 : Int32) = some (nI (c + 1), upd next c p, upd isNew c (nI true.toNat)) := comes_M hc next isNew p true
theorem comes_0 {c : Nat} (hc : c < 240) (next isNew : Nat → Int32) (p : Int32) : m_X10_comes (nI c) next isNew p (0 : Int32) = some (nI (c + 1), upd next c p, upd isNew c (nI false.toNat)) := comes_M hc next isNew p false
theorem NX_at_last {its many times values next isNew : Nat → Int32} {cs : List Ch} {sl : List Nat} {itm : List (Ch × Bool)} {nx : List Nat} {c : Ch} {x : Nat} (hx : NX its many times values next isNew cs sl (itm ++ [(c, true)]) (nx ++ [x])) : slC its many times values c x ∧ x ∉ sl := by
  obtain ⟨h1, h2, -⟩ := hx
  have hL : nx.length = itm.length := by simpa using h1
  have h6 := h2 itm.length (by rw [List.length_append, List.length_singleton]; omega)
  rw [gd_app2 itm _ _ _ (by omega), if_pos rfl, gd_app2 nx _ _ _ (by omega), hL, if_pos rfl] at h6
  exact ⟨h6.2.2.1, (h6.2.2.2.1 rfl).1⟩
theorem open_M {order its many place length times values next isNew : Nat → Int32} {cs : List Ch} {sl : List Nat} {itm : List (Ch × Bool)} {nx : List Nat} (h : slOk order its many place length times values cs sl) (hpc : ∀ c ∈ cs, c.2.1.length ≤ 64) (hp : itP itm) (hx : NX its many times values next isNew cs sl itm nx) (hl : cs.length ≤ 96) (hl2 : itm.length < 240) (hn : nNew itm < 144) (s : Nat) :
    ∃ z, z < 240 ∧ m_X10_freeSlot (nI cs.length) (nI itm.length) order next = some (nI z) ∧ NX (upd its z (nI s)) (upd many z 0) times values (upd next itm.length (nI z)) (upd isNew itm.length (nI true.toNat)) cs sl (itm ++ [mkN s []]) (nx ++ [z]) ∧ slOk order (upd its z (nI s)) (upd many z 0) place length times values cs sl := by
  obtain ⟨z, z1, z2, z3, z4⟩ := freeSlot_M h hx hl (by omega) hn
  have g : slEq z its many times values (upd its z (nI s)) (upd many z 0) times values := ⟨fun y hy => ⟨pk_un hy, pk_un hy⟩, fun _ _ => ⟨rfl, rfl⟩⟩
  exact ⟨z, z1, z4, NX_new hp hx g z2 z3 ⟨z1, pk_us, pk_us, fun i hi => absurd hi (by simp)⟩, slOk_frame h hpc g z2⟩
theorem add_M {x n : Nat} {many times values : Nat → Int32} (hx : x < 240) (hm : many x = nI n) (hn : n < 64) (t v : Int32) : m_X10_add many times values (nI x) t v = some (upd many x (nI (n + 1)), upd times (64 * x + n) t, upd values (64 * x + n) v) := by
  have e : (64 : Int32) * nI x + many (Int32.toNatClampNeg (nI x)) = nI (64 * x + n) := by
    rw [nI_clamp (by omega), hm, show (64 : Int32) = nI 64 from rfl, pk_mul, nI_add]
  rw [m_X10_add, e, ckb_in _ hx (by omega), ckb_in _ (show 64 * x + n < 15360 by omega) (by omega), ckb_in _ hx (by omega), ckb_in _ (show 64 * x + n < 15360 by omega) (by omega), ckb_in _ hx (by omega), ckb_in _ hx (by omega), nI_clamp (by omega), nI_clamp (by omega), hm, nI_1]
theorem slotAt_snoc {x : Nat} {times values : Nat → Int32} {ps : List Pt} (h : slotAt times values x ps) (q : Pt) : slotAt (upd times (64 * x + ps.length) q.1) (upd values (64 * x + ps.length) q.2) x (ps ++ [q]) := by
  intro i hi
  rw [List.length_append, List.length_singleton] at hi
  rw [gd_app2 ps q _ i hi]
  by_cases hi2 : i = ps.length
  · subst hi2
    rw [if_pos rfl, pk_us, pk_us]
    exact ⟨rfl, rfl⟩
  · rw [if_neg hi2, pk_un (by omega), pk_un (by omega)]
    exact h i (by omega)
theorem fill_M {order its many place length times values next isNew : Nat → Int32} {cs : List Ch} {sl : List Nat} {itm : List (Ch × Bool)} {nx : List Nat} {x s : Nat} {cur : List Pt} (h : slOk order its many place length times values cs sl) (hpc : ∀ c ∈ cs, c.2.1.length ≤ 64) (hp : itP itm) (hx : NX its many times values next isNew cs sl (itm ++ [mkN s cur]) (nx ++ [x])) (hc : cur.length < 64) (q : Pt) :
    ∃ many' times' values' : Nat → Int32, m_X10_add many times values (nI x) q.1 q.2 = some (many', times', values') ∧ NX its many' times' values' next isNew cs sl (itm ++ [mkN s (cur ++ [q])]) (nx ++ [x]) ∧ slOk order its many' place length times' values' cs sl ∧ slEq x its many times values its many' times' values' := by
  obtain ⟨⟨s1, s2, s3, s4⟩, s5⟩ := NX_at_last hx
  have s3' : many x = nI cur.length := s3
  have s4' : slotAt times values x cur := s4
  have g : slEq x its many times values its (upd many x (nI (cur.length + 1))) (upd times (64 * x + cur.length) q.1) (upd values (64 * x + cur.length) q.2) := ⟨fun y hy => ⟨rfl, pk_un hy⟩, fun j hj => ⟨pk_un (by omega), pk_un (by omega)⟩⟩
  refine ⟨_, _, _, add_M s1 s3' hc q.1 q.2, NX_last hp hx g ⟨s1, s2, ?_, slotAt_snoc s4' q⟩, slOk_frame h hpc g s5, g⟩
  show upd many x (nI (cur.length + 1)) x = nI (cur ++ [q]).length
  rw [pk_us, List.length_append, List.length_singleton]
def opn (s : Nat) (cur : List Pt) : List (Ch × Bool) := if cur = [] then [] else [mkN s cur]
theorem itP_app {a b : List (Ch × Bool)} (ha : itP a) (hb : itP b) : itP (a ++ b) := fun q hq => by
  rcases List.mem_append.mp hq with h | h
  · exact ha q h
  · exact hb q h
theorem itP_opn {s m : Nat} {cur : List Pt} (h : cur.length ≤ m) (hm : m ≤ 64) : itP (opn s cur) := fun q hq => by
  unfold opn at hq
  by_cases hc : cur = []
  · rw [if_pos hc] at hq; simp at hq
  · rw [if_neg hc, List.mem_singleton] at hq
    subst hq
    show cur.length ≤ 64
    omega
theorem m1_ne {x : Nat} (hx : x < 5000) : ¬ nI x = (-1 : Int32) := by
  intro q
  have q5 : (nI x).toInt = (-1 : Int32).toInt := by rw [q]
  rw [nI_toInt (by omega)] at q5
  have : ((x : Nat) : Int) = -1 := q5
  omega
theorem heads_loop {headOf headTime headValue : Nat → Int32} {hd : List Hd} (hh : hdsOk headOf headTime headValue hd) (hl : hd.length ≤ 128) {N : Nat} (hN : N < 900) (hhN : ∀ x ∈ hd, x.1 < N) {m s : Nat} (hm1 : 2 ≤ m) (hm2 : m ≤ 64) (hs : s < 900) {order place length : Nat → Int32} {cs : List Ch} {sl : List Nat} (hcl : cs.length ≤ 96) (hpc : ∀ c ∈ cs, c.2.1.length ≤ 64) : ∀ (r k fu : Nat) (itm : List (Ch × Bool)) (cur : List Pt) (nx : List Nat) (v2 : Int32) (its many times values next isNew : Nat → Int32), r + k = hd.length → r < fu → cur.length ≤ m → itP itm → (itm ++ opn s cur).length + (hdOf s (hd.drop k)).length ≤ 239 → nNew (itm ++ opn s cur) + (hdOf s (hd.drop k)).length ≤ 143 → slOk order its many place length times values cs sl → NX its many times values next isNew cs sl (itm ++ opn s cur) nx → ((cur = [] ∧ v2 = -1) ∨ (cur ≠ [] ∧ ∃ nx0 x, nx = nx0 ++ [x] ∧ v2 = nI x)) →
    ∃ (its' many' times' values' next' isNew' : Nat → Int32) (nx' : List Nat), lp_X10_headsOf_4 (nI m) (nI cs.length) (nI hd.length) order headOf headTime headValue (nI s) fu v2 (nI k) (nI (itm ++ opn s cur).length) its many times values next isNew = some (nI (itm ++ (toCh m cur (hdOf s (hd.drop k))).map (mkN s)).length, its', many', times', values', next', isNew') ∧ slOk order its' many' place length times' values' cs sl ∧ NX its' many' times' values' next' isNew' cs sl (itm ++ (toCh m cur (hdOf s (hd.drop k))).map (mkN s)) nx' := by
  intro r
  induction r with
  | zero =>
    intro k fu itm cur nx v2 its many times values next isNew hk hf hc hp hb1 hb2 hsl hnx hv
    obtain ⟨n, rfl⟩ : ∃ n, fu = n + 1 := ⟨fu - 1, by omega⟩
    rw [lp_X10_headsOf_4, if_pos (nI_le (by omega) (by omega)), List.drop_eq_nil_of_le (by omega)]
    have e3 : (toCh m cur (hdOf s [])).map (mkN s) = opn s cur := by
      show ((if cur = [] then [] else [cur]) : List (List Pt)).map (mkN s) = _
      unfold opn
      split <;> rfl
    rw [e3]
    exact ⟨_, _, _, _, _, _, nx, rfl, hsl, hnx⟩
  | succ r ih =>
    intro k fu itm cur nx v2 its many times values next isNew hk hf hc hp hb1 hb2 hsl hnx hv
    obtain ⟨n, rfl⟩ : ∃ n, fu = n + 1 := ⟨fu - 1, by omega⟩
    have hlt : k < hd.length := by omega
    obtain ⟨h1, h2, h3⟩ := hh k hlt
    have hsN := hhN _ (gd_mem hd0 hlt)
    rw [lp_X10_headsOf_4, if_neg (nI_ge hlt (by omega)), ckb_in _ (show k < 128 by omega) (by omega), nI_clamp (by omega), h1]
    have ehd : hdOf s (hd.drop k) = (if (hd.getD k hd0).1 = s then [(hd.getD k hd0).2] else []) ++ hdOf s (hd.drop (k + 1)) := by
      rw [drop_cons hd0 hlt, show hd.getD k hd0 :: hd.drop (k + 1) = [hd.getD k hd0] ++ hd.drop (k + 1) from rfl, hdOf_app, hdOf_one]
    rw [ehd] at hb1 hb2 ⊢
    by_cases hss : (hd.getD k hd0).1 = s
    · rw [if_pos hss] at hb1 hb2 ⊢
      have ecn : ([(hd.getD k hd0).2] ++ hdOf s (hd.drop (k + 1))).length = 1 + (hdOf s (hd.drop (k + 1))).length := by rw [List.length_append, List.length_singleton]
      rw [ecn] at hb1 hb2
      rw [if_pos (by rw [hss])]
      -- the slot that takes the point
      have hopen : ∀ (itm2 : List (Ch × Bool)) (nx2 : List Nat) (its2 many2 times2 values2 next2 isNew2 : Nat → Int32) (z : Nat), itP itm2 → slOk order its2 many2 place length times2 values2 cs sl → NX its2 many2 times2 values2 next2 isNew2 cs sl (itm2 ++ [mkN s []]) (nx2 ++ [z]) → ∃ many' times' values' : Nat → Int32, m_X10_add many2 times2 values2 (nI z) (hd.getD k hd0).2.1 (hd.getD k hd0).2.2 = some (many', times', values') ∧ NX its2 many' times' values' next2 isNew2 cs sl (itm2 ++ opn s [(hd.getD k hd0).2]) (nx2 ++ [z]) ∧ slOk order its2 many' place length times' values' cs sl := by
        intro itm2 nx2 its2 many2 times2 values2 next2 isNew2 z hp2 hsl2 hnx2
        obtain ⟨many', times', values', q1, q2, q3, -⟩ := fill_M hsl2 hpc hp2 hnx2 (by simp) (hd.getD k hd0).2
        exact ⟨many', times', values', q1, q2, q3⟩
      rcases hv with ⟨rfl, rfl⟩ | ⟨hne, nx0, x, rfl, rfl⟩
      · have e0 : itm ++ opn s [] = itm := by unfold opn; rw [if_pos rfl, List.append_nil]
        rw [e0] at hb1 hb2 hnx ⊢
        obtain ⟨z, z1, z2, z3, z4⟩ := open_M hsl hpc hp hnx hcl (by omega) (by omega) s
        obtain ⟨many', times', values', q1, q2, q3⟩ := hopen itm nx _ _ _ _ _ _ z hp z4 z3
        rw [if_pos rfl, z2, ob1_mk, ckb_in _ z1 (by omega), ckb_in _ z1 (by omega), comes_1 (by omega), ob3_mk, ob6_mk, ckb_in _ (show k < 128 by omega) (by omega), ckb_in _ (show k < 128 by omega) (by omega), nI_clamp (show z < 2 ^ 31 by omega), h2, h3, q1, ob3_mk, ob8_mk, nI_1]
        have e1 : itm.length + 1 = (itm ++ opn s [(hd.getD k hd0).2]).length := by simp [opn]
        have e2 : toCh m [] ([(hd.getD k hd0).2] ++ hdOf s (hd.drop (k + 1))) = toCh m [(hd.getD k hd0).2] (hdOf s (hd.drop (k + 1))) := by
          show (if ([] : List Pt).length = m then _ else _) = _
          rw [if_neg (by simp; omega)]
          rfl
        rw [e1, e2]
        refine ih (k + 1) n itm [(hd.getD k hd0).2] _ _ _ _ _ _ _ _ (by omega) (by omega) (by simp; omega) hp (by rw [← e1]; omega) ?_ q3 q2 (Or.inr ⟨by simp, nx, z, rfl, rfl⟩)
        have : nNew (itm ++ opn s [(hd.getD k hd0).2]) = nNew itm + 1 := nNew_t itm _
        omega
      · have e0 : itm ++ opn s cur = itm ++ [mkN s cur] := by unfold opn; rw [if_neg hne]
        rw [e0] at hb1 hb2 hnx ⊢
        obtain ⟨⟨s1, s2, s3, s4⟩, s5⟩ := NX_at_last hnx
        have s3' : many x = nI cur.length := s3
        rw [if_neg (m1_ne (by omega)), ckb_in _ s1 (by omega), nI_clamp (show x < 2 ^ 31 by omega), s3']
        have hp2 : itP (itm ++ [mkN s cur]) := itP_app hp (by have := itP_opn (s := s) hc hm2; unfold opn at this; rw [if_neg hne] at this; exact this)
        by_cases hfull : cur.length = m
        · obtain ⟨z, z1, z2, z3, z4⟩ := open_M hsl hpc hp2 hnx hcl (by omega) (by omega) s
          obtain ⟨many', times', values', q1, q2, q3⟩ := hopen _ _ _ _ _ _ _ _ z hp2 z4 z3
          rw [if_pos (by rw [hfull]), z2, ob1_mk, ckb_in _ z1 (by omega), ckb_in _ z1 (by omega), comes_1 (by omega), ob3_mk, ob6_mk, ckb_in _ (show k < 128 by omega) (by omega), ckb_in _ (show k < 128 by omega) (by omega), nI_clamp (show z < 2 ^ 31 by omega), h2, h3, q1, ob3_mk, ob8_mk, nI_1]
          have e1 : (itm ++ [mkN s cur]).length + 1 = ((itm ++ [mkN s cur]) ++ opn s [(hd.getD k hd0).2]).length := by simp [opn]
          have e2 : toCh m cur ([(hd.getD k hd0).2] ++ hdOf s (hd.drop (k + 1))) = cur :: toCh m [(hd.getD k hd0).2] (hdOf s (hd.drop (k + 1))) := by
            show (if cur.length = m then _ else _) = _
            rw [if_pos hfull]
            rfl
          have e4 : itm ++ (cur :: toCh m [(hd.getD k hd0).2] (hdOf s (hd.drop (k + 1)))).map (mkN s) = (itm ++ [mkN s cur]) ++ (toCh m [(hd.getD k hd0).2] (hdOf s (hd.drop (k + 1)))).map (mkN s) := by simp
          rw [e1, e2, e4]
          refine ih (k + 1) n (itm ++ [mkN s cur]) [(hd.getD k hd0).2] _ _ _ _ _ _ _ _ (by omega) (by omega) (by simp; omega) hp2 (by rw [← e1]; omega) ?_ q3 q2 (Or.inr ⟨by simp, _, z, rfl, rfl⟩)
          have : nNew ((itm ++ [mkN s cur]) ++ opn s [(hd.getD k hd0).2]) = nNew (itm ++ [mkN s cur]) + 1 := nNew_t _ _
          omega
        · obtain ⟨many', times', values', q1, q2, q3, -⟩ := fill_M hsl hpc hp hnx (by omega) (hd.getD k hd0).2
          rw [if_neg (fun q => hfull ((nI_eq (by omega) (by omega)).mp q)), ob6_mk, ckb_in _ (show k < 128 by omega) (by omega), ckb_in _ (show k < 128 by omega) (by omega), h2, h3, q1, ob3_mk, ob8_mk, nI_1]
          have e5 : itm ++ [mkN s (cur ++ [(hd.getD k hd0).2])] = itm ++ opn s (cur ++ [(hd.getD k hd0).2]) := by unfold opn; rw [if_neg (by simp)]
          have e1 : (itm ++ [mkN s cur]).length = (itm ++ opn s (cur ++ [(hd.getD k hd0).2])).length := by rw [← e5]; simp
          have e2 : toCh m cur ([(hd.getD k hd0).2] ++ hdOf s (hd.drop (k + 1))) = toCh m (cur ++ [(hd.getD k hd0).2]) (hdOf s (hd.drop (k + 1))) := by
            show (if cur.length = m then _ else _) = _
            rw [if_neg hfull]
            rfl
          rw [e1, e2]
          rw [e5] at q2
          refine ih (k + 1) n itm (cur ++ [(hd.getD k hd0).2]) _ _ _ _ _ _ _ _ (by omega) (by omega) (by simp; omega) hp (by rw [← e1]; omega) ?_ q3 q2 (Or.inr ⟨by simp, _, x, rfl, rfl⟩)
          have a1 : nNew (itm ++ [mkN s cur]) = nNew itm + 1 := nNew_t _ _
          have a2 : nNew (itm ++ opn s (cur ++ [(hd.getD k hd0).2])) = nNew itm + 1 := by rw [← e5]; exact nNew_t _ _
          omega
    · rw [if_neg hss, List.nil_append] at hb1 hb2 ⊢
      rw [if_neg (fun q => hss ((nI_eq (by omega) (by omega)).mp q)), ob8_mk, nI_1]
      exact ih (k + 1) n itm cur nx v2 _ _ _ _ _ _ (by omega) (by omega) hc hp hb1 hb2 hsl hnx hv
