/-! the class: compact, whole -/
theorem kept_len (l : List Ch) : (kept l).length = l.length := by unfold kept; rw [List.length_map]
theorem jn_len (s : Nat) (g : List Ch) : (jn s g).length ≤ g.length := by
  unfold jn
  by_cases h : 1 < g.length
  · rw [if_pos h]; simp; omega
  · rw [if_neg h, kept_len]; exact Nat.le_refl _
theorem grp_len (m s : Nat) : ∀ (l cur : List Ch), ((grp m cur l).flatMap (jn s)).length ≤ cur.length + l.length := by
  intro l
  induction l with
  | nil => intro cur; simp [grp]; exact jn_len s cur
  | cons c l ih =>
    intro cur
    unfold grp
    by_cases h : (fpts cur).length + c.2.1.length ≤ m
    · rw [if_pos h]
      have := ih (cur ++ [c])
      simp at this ⊢
      omega
    · rw [if_neg h, List.flatMap_cons, List.length_append]
      have h1 := ih [c]
      have h2 := jn_len s cur
      rw [List.length_cons, List.length_nil] at h1
      rw [List.length_cons]
      omega
theorem jI_len (m s : Nat) (l : List Ch) : (jI m s l).length ≤ l.length := by
  have := grp_len m s l []
  rw [List.length_nil, Nat.zero_add] at this
  exact this
theorem cpI_len {cs : List Ch} (h : cs.Pairwise (fun a b => a.1 ≤ b.1)) (m s : Nat) : (cpI m s cs).length ≤ cs.length := by
  obtain ⟨A, B, C, e1, a1, a2, a3, a4, a5, a6⟩ := segs h s
  obtain ⟨q1, q2⟩ := seg_lt h s
  have hB := jI_len m s B
  have hA : (cs.filter (fun c => decide (c.1 < s))).length = A.length := by
    rw [e1, List.filter_append, List.filter_append, List.filter_eq_self.mpr (fun c hc => by simpa using a1 c hc), List.filter_eq_nil_iff.mpr (fun c hc => by have := a2 c hc; simp; omega), List.filter_eq_nil_iff.mpr (fun c hc => by have := a3 c hc; simp; omega)]
    simp
  have hC : (cs.filter (fun c => decide (s < c.1))).length = C.length := by
    rw [e1, List.filter_append, List.filter_append, List.filter_eq_nil_iff.mpr (fun c hc => by have := a1 c hc; simp; omega), List.filter_eq_nil_iff.mpr (fun c hc => by have := a2 c hc; simp; omega), List.filter_eq_self.mpr (fun c hc => by simpa using a3 c hc)]
    simp
  unfold cpI
  rw [List.length_append, List.length_append, kept_len, kept_len, hA, hC, a6, e1, List.length_append, List.length_append]
  omega
theorem nNew_le (its : List (Ch × Bool)) : nNew its ≤ its.length := by unfold nNew; exact List.length_filter_le _ _
theorem compact_C {N m : Nat} {f : Nat → Int32} {e sd : Nat} {cs : List Ch} {hd : List Hd} (hD : DOk f e sd cs hd) (hS : SOk N m cs hd) (hN : N ≤ 8) (hm2 : m ≤ 64) {s : Nat} (hs : s < N) (wd wl : Int32) (up br st t v : Int32) (rr : Int64) (tc made of la ku kb kf kt kv : Int32) (kr : Int64) (kc : Nat → Int32) (o1 o2 o3 o4 o5 : Int32) (o6 : Int64) (im pf ta : Nat → Int32) (c1 c2 c3 : Int32) :
    ∃ (up' br' st' t' v' : Int32) (rr' : Int64) (tc' made' of' la' ku' kb' kf' kt' kv' : Int32) (kr' : Int64) (kc' : Nat → Int32) (o1' o2' o3' o4' o5' : Int32) (o6' : Int64) (im' pf' ta' : Nat → Int32),
      m_X9_compact (nI N) (nI m) wd wl 0 f up br st t v rr tc made of la ku kb kf kt kv kr kc o1 o2 o3 o4 o5 o6 im pf ta c1 c2 c3 (nI s) = (if nNew (cpI m s cs) = 0 then some (0, wd, wl, 0, f, up', br', st', t', v', rr', tc', made', of', la', ku', kb', kf', kt', kv', kr', kc', o1', o2', o3', o4', o5', o6', im', pf', ta', 0, 0, 0) else
      some (cd (tR cs sd e (cpI m s cs) wd wl 0 f).1 (nI cs.length - nI (cpI m s cs).length), (tR cs sd e (cpI m s cs) wd wl 0 f).2.1, (tR cs sd e (cpI m s cs) wd wl 0 f).2.2.1, (tR cs sd e (cpI m s cs) wd wl 0 f).2.2.2.1, (tR cs sd e (cpI m s cs) wd wl 0 f).2.2.2.2, up', br', st', t', v', rr', tc', made', of', la', ku', kb', kf', kt', kv', kr', kc', o1', o2', o3', o4', o5', o6', im', pf', ta', 0, 0, 0)) := by
  have hl := hD.2.2.2.1
  have hcl := cpI_len hS.2.2.1 m s
  have hnn := nNew_le (cpI m s cs)
  have hser : m_X9_isSeries (nI N) (nI s) = some 1 := by
    rw [m_X9_isSeries, if_neg (nI_pos (by omega)), if_neg (nI_ge hs (by omega))]; rfl
  obtain ⟨q1, q2⟩ := seg_lt hS.2.2.1 s
  obtain ⟨g1, g2⟩ := seg_filter hS.2.2.1 s
  have g1' : sg cs (fo s cs) (fo (s + 1) cs) = cs.filter (fun c => c.1 == s) := g1
  obtain ⟨tk', e1, h1⟩ := begin_C hD hS.1 tc made la ku kb kf o1 o2 o3 o4 o5 o6 ta
  obtain ⟨tc2, la2, im2, pf2, e2, h2⟩ := keepEntries_C hD (Nat.zero_le (fo s cs)) (fo_le s cs) (TX_0 (of := of) (kt := kt) (kv := kv) (kr := kr) (kc := kc) (im := im) (pf := pf) h1)
  have h2' : TX (tkOf cs) ([] ++ kept (sg cs 0 (fo s cs))) [] (tc2, 0, of, la2, 0, 0, 0, kt, kv, kr, kc, 0, 0, 0, 0, 0, 0, im2, pf2, tk') := h2
  rw [List.nil_append, q1] at h2'
  obtain ⟨u1, u2, u3, u4, u5, u6, b1, b2, b3, b4, b5, b6, b7, b8, b9, b10, b11, b12, b13, b14, b15, b16, b17, b18, b19, b20, e3, h3⟩ := join_C hD hS.1 hm2 g2 (fo_le _ _) s up br st t v rr h2'
  rw [g1'] at h3
  obtain ⟨tc4, la4, im4, pf4, e4, h4⟩ := keepEntries_C hD (fo_le (s + 1) cs) (Nat.le_refl cs.length) h3
  have h4' : TX (tkOf cs) (kept (cs.filter (fun c => decide (c.1 < s))) ++ jI m s (cs.filter (fun c => c.1 == s)) ++ kept (sg cs (fo (s + 1) cs) cs.length)) [] (tc4, b2, b3, la4, b5, b6, b7, b8, b9, b10, b11, b12, b13, b14, b15, b16, b17, im4, pf4, b20) := h4
  rw [q2] at h4'
  have h5 : TX (tkOf cs) (cpI m s cs) [] (tc4, b2, b3, la4, b5, b6, b7, b8, b9, b10, b11, b12, b13, b14, b15, b16, b17, im4, pf4, b20) := h4'
  obtain ⟨im6, e6⟩ := turnDisk_R (e' := e) hD hS h5 wd wl 0 (nI cs.length - tc4)
  have e2' : m_X9_keepEntries f 0 0 im pf (0 : Int32) (nI (fo s cs)) = some (tc2, la2, im2, pf2) := e2
  have hmade : b2 = nI (nNew (cpI m s cs)) := TX_made h5
  by_cases h0 : nNew (cpI m s cs) = 0
  · refine ⟨u1, u2, u3, u4, u5, u6, tc4, b2, b3, la4, b5, b6, b7, b8, b9, b10, b11, b12, b13, b14, b15, b16, b17, im4, pf4, b20, ?_⟩
    rw [m_X9_compact, m_X1_close, ob3_mk, m_X2_isDown, show ckz (0 : Int32) (some (0 : Int32)) = some 0 from rfl, ob1_mk, if_pos rfl, hser, ob1_mk, if_neg (by decide), firstOf_s hD (N := N) (by omega) (fun c hc => (hS.1 c hc).1) (by omega), ob1_mk, endOf_s hD (N := N) (by omega) (fun c hc => (hS.1 c hc).1) (by omega), ob1_mk, e1, ob13_mk, e2', ob4_mk, e3, ob26_mk, chunks_s hD, ob1_mk, e4, ob4_mk, m_X7_chunksMade, ob1_mk, if_pos (by rw [hmade, h0]; rfl), if_pos h0]
  · refine ⟨u1, u2, u3, u4, u5, u6, tc4, b2, b3, la4, b5, b6, b7, b8, b9, b10, b11, b12, b13, b14, b15, b16, b17, im6, pf4, b20, ?_⟩
    have hans : cd (tR cs sd e (cpI m s cs) wd wl 0 f).1 (nI cs.length - tc4) = cd (tR cs sd e (cpI m s cs) wd wl 0 f).1 (nI cs.length - nI (cpI m s cs).length) := by
      by_cases hp : plan (tkOf cs) (cpI m s cs) = none
      · rw [tR_bad (Or.inl hp)]; rfl
      · rw [TX_cnt h5 ⟨hp, by omega⟩]
    rw [m_X9_compact, m_X1_close, ob3_mk, m_X2_isDown, show ckz (0 : Int32) (some (0 : Int32)) = some 0 from rfl, ob1_mk, if_pos rfl, hser, ob1_mk, if_neg (by decide), firstOf_s hD (N := N) (by omega) (fun c hc => (hS.1 c hc).1) (by omega), ob1_mk, endOf_s hD (N := N) (by omega) (fun c hc => (hS.1 c hc).1) (by omega), ob1_mk, e1, ob13_mk, e2', ob4_mk, e3, ob26_mk, chunks_s hD, ob1_mk, e4, ob4_mk, m_X7_chunksMade, ob1_mk, if_neg (by rw [hmade]; exact nI_ne0 (by omega) (by omega)), epoch_s hD.1 hD.2.1 hD.2.2.1, ob1_mk, ob1_mk, m_X7_chunks, ob1_mk, e6, ob6_mk, if_neg h0, hans]
