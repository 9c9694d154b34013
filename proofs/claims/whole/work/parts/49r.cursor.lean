/-! the class's cursor -/
def CuOpen (f : Nat → Int32) (cs : List Ch) (hd : List Hd) (s : Nat) (p1 : Int32) (vp br st t v : Int32) (rr : Int64) (en ee pl bl : Int32) (R : List Pt) : Prop :=
  ∃ e0 n bk : Nat, en = nI e0 ∧ ee = nI (fo (s + 1) cs) ∧ e0 ≤ fo (s + 1) cs ∧ pl = nI n ∧ bl = nI bk ∧ bk ≤ hd.length ∧
    ((n = 0 ∧ R = fpts (sg cs e0 (fo (s + 1) cs)) ++ hdOf s (hd.drop bk)) ∨
     (1 ≤ n ∧ 1 ≤ e0 ∧ vp = nI (cs.getD (e0 - 1) ch0).2.2 ∧ ∃ k, k + n = (cs.getD (e0 - 1) ch0).2.1.length ∧ UOk f (cs.getD (e0 - 1) ch0).2.2 (cs.getD (e0 - 1) ch0).2.1 k br st t v rr ∧ p1 ≤ plst (cs.getD (e0 - 1) ch0).2.1 ∧ R = (cs.getD (e0 - 1) ch0).2.1.drop k ++ (fpts (sg cs e0 (fo (s + 1) cs)) ++ hdOf s (hd.drop bk))))
def below (p1 : Int32) (l : List Pt) : Prop := ∀ x ∈ l, x.1 < p1
theorem below_app {p1 : Int32} {a b : List Pt} (ha : below p1 a) (hb : below p1 b) : below p1 (a ++ b) := fun x hx => by
  rcases List.mem_append.mp hx with h | h
  · exact ha x h
  · exact hb x h
theorem below_chunk {p1 : Int32} {ps : List Pt} (hr : rising ps) (h : plst ps < p1) : below p1 ps := fun x hx => by
  have := rise_last hr x hx
  rw [Int32.le_iff_toInt_le] at this
  rw [Int32.lt_iff_toInt_lt] at h ⊢
  omega
theorem le_of_nlt {a b : Int32} (h : ¬ a < b) : b ≤ a := Classical.byContradiction fun q => h (lt_not_le.mpr q)
theorem asm_l {S ps S2 T X Y : List Pt} {q : Pt} (h : ps = S2 ++ q :: T) : (S ++ (ps ++ X)) ++ Y = (S ++ S2) ++ q :: (T ++ (X ++ Y)) := by
  subst h
  simp
/-- on to a chunk that reaches the time asked for -/
theorem openCh_loop {f : Nat → Int32} {e sd N most : Nat} {cs : List Ch} {hd : List Hd} (hD : DOk f e sd cs hd) (hW : ∀ c ∈ cs, chW N most c) (hmo : most ≤ 64) (p1 : Int32) {eE : Nat} (heE : eE ≤ cs.length) : ∀ (r e0 n : Nat) (vp br st : Int32), r + e0 = eE → r + 1 < n → (∀ c ∈ sg cs e0 eE, rising c.2.1) →
    (∃ vp' br' st' : Int32, lp_X1_openChunk_0 f p1 (nI eE) n vp br st (nI e0) (nI 0) = some (vp', br', st', nI eE, nI 0) ∧ below p1 (fpts (sg cs e0 eE))) ∨
    (∃ e1, e0 ≤ e1 ∧ e1 < eE ∧ lp_X1_openChunk_0 f p1 (nI eE) n vp br st (nI e0) (nI 0) = some (nI (cs.getD e1 ch0).2.2, nI 0, 0, nI (e1 + 1), nI (cs.getD e1 ch0).2.1.length) ∧ p1 ≤ plst (cs.getD e1 ch0).2.1 ∧ ∃ S, below p1 S ∧ fpts (sg cs e0 eE) = S ++ ((cs.getD e1 ch0).2.1 ++ fpts (sg cs (e1 + 1) eE))) := by
  intro r
  have hl := hD.2.2.2.1
  induction r with
  | zero =>
    intro e0 n vp br st hr hn hR
    obtain ⟨m, rfl⟩ : ∃ m, n = m + 1 := ⟨n - 1, by omega⟩
    have : e0 = eE := by omega
    subst this
    left
    refine ⟨vp, br, st, ?_, ?_⟩
    · rw [lp_X1_openChunk_0, if_pos (nI_le (Nat.le_refl _) (by omega))]
    · rw [sg_nil]; intro x hx; simp [fpts] at hx
  | succ r ih =>
    intro e0 n vp br st hr hn hR
    obtain ⟨m, rfl⟩ : ∃ m, n = m + 1 := ⟨n - 1, by omega⟩
    have hlt : e0 < cs.length := by omega
    have hw := hW _ (gd_mem ch0 hlt)
    have hw2 := hw.2.1
    have hw3 := hw.2.2.1
    have e2 : m_X3_at f (nI e0) (2 : Int32) = some (plst (cs.getD e0 ch0).2.1) := at_s hD hlt (j := 2) (by omega)
    have e3 : m_X3_at f (nI e0) (3 : Int32) = some (nI (cs.getD e0 ch0).2.1.length) := at_s hD hlt (j := 3) (by omega)
    have e8 : m_X3_at f (nI e0) (8 : Int32) = some (nI (cs.getD e0 ch0).2.2) := at_s hD hlt (j := 8) (by omega)
    have esg := sg_cons (cs := cs) (show e0 < eE by omega) hlt
    rw [esg] at hR
    rw [lp_X1_openChunk_0, if_neg (nI_ge (by omega) (by omega)), if_pos (show nI 0 = (0 : Int32) from rfl), e2, ob1_mk]
    by_cases hb : plst (cs.getD e0 ch0).2.1 < p1
    · have hbl := below_chunk (hR _ List.mem_cons_self) hb
      rw [if_pos hb, ob4_mk, nI_1]
      rcases ih (e0 + 1) m vp br st (by omega) (by omega) (fun c hc => hR c (List.mem_cons_of_mem _ hc)) with ⟨vp', br', st', q1, q2⟩ | ⟨e1, q1, q2, q3, q4, S, q5, q6⟩
      · left
        refine ⟨vp', br', st', q1, ?_⟩
        rw [esg, fpts_cons]
        exact below_app hbl q2
      · right
        refine ⟨e1, by omega, q2, q3, q4, (cs.getD e0 ch0).2.1 ++ S, below_app hbl q5, ?_⟩
        rw [esg, fpts_cons, q6, List.append_assoc]
    · right
      refine ⟨e0, Nat.le_refl _, by omega, ?_, le_of_nlt hb, [], fun x hx => by simp at hx, by rw [esg, fpts_cons, List.nil_append]⟩
      obtain ⟨m2, rfl⟩ : ∃ m2, m = m2 + 1 := ⟨m - 1, by omega⟩
      rw [if_neg hb, e8, ob1_mk, m_X8_open, ob3_mk, e3, ob1_mk, ob4_mk, nI_1, lp_X1_openChunk_0]
      by_cases hz : eE ≤ e0 + 1
      · rw [if_pos (nI_le hz (by omega))]
        rfl
      · rw [if_neg (nI_ge (by omega) (by omega)), if_neg (nI_ne0 (by omega) (by omega))]
        rfl
theorem findCh_loop {f : Nat → Int32} {c : Ch} {N most : Nat} (hc : chOk f c) (hW : chW N most c) (hmo : most ≤ 64) {p1 : Int32} (hlast : p1 ≤ plst c.2.1) (ct cv en : Int32) : ∀ (r k n : Nat) (br st t v : Int32) (rr : Int64), r + k + 1 = c.2.1.length → r + 1 < n → UOk f c.2.2 c.2.1 k br st t v rr →
    ∃ (k' : Nat) (br' : Int32) (rr' : Int64), k ≤ k' ∧ k' < c.2.1.length ∧ lp_X1_findInChunks_11 f p1 ct cv (nI c.2.2) en n br st t v rr (nI (c.2.1.length - k)) = some (1, nI c.2.2, br', 1, (c.2.1.getD k' (0, 0)).1, (c.2.1.getD k' (0, 0)).2, rr', en, nI (c.2.1.length - (k' + 1)), (c.2.1.getD k' (0, 0)).1, (c.2.1.getD k' (0, 0)).2) ∧ UOk f c.2.2 c.2.1 (k' + 1) br' 1 (c.2.1.getD k' (0, 0)).1 (c.2.1.getD k' (0, 0)).2 rr' ∧ p1 ≤ (c.2.1.getD k' (0, 0)).1 ∧ ∃ S, below p1 S ∧ c.2.1.drop k = S ++ (c.2.1.getD k' (0, 0) :: c.2.1.drop (k' + 1)) := by
  intro r
  have hl := hW.2.2.1
  induction r with
  | zero =>
    intro k n br st t v rr hr hn hU
    obtain ⟨m, rfl⟩ : ∃ m, n = m + 1 := ⟨n - 1, by omega⟩
    have hlt : k < c.2.1.length := by omega
    obtain ⟨br', rr', e1, hU'⟩ := step_U hc hW hmo hlt hU
    have hge : p1 ≤ (c.2.1.getD k (0, 0)).1 := by
      have e : k = c.2.1.length - 1 := by omega
      rw [e]
      exact hlast
    refine ⟨k, br', rr', Nat.le_refl _, hlt, ?_, hU', hge, [], fun x hx => by simp at hx, by rw [List.nil_append, ← drop_cons (0, 0) hlt]⟩
    rw [lp_X1_findInChunks_11, if_neg (nI_nle (by omega) (by omega)), e1, ob5_mk, if_neg (fun q => lt_not_le.mp q hge), m_X1_standAt, ob2_mk, show nI (c.2.1.length - k) - (1 : Int32) = nI (c.2.1.length - k - 1) from pk_sub (b := 1) (by omega), show c.2.1.length - k - 1 = c.2.1.length - (k + 1) by omega]
  | succ r ih =>
    intro k n br st t v rr hr hn hU
    obtain ⟨m, rfl⟩ : ∃ m, n = m + 1 := ⟨n - 1, by omega⟩
    have hlt : k < c.2.1.length := by omega
    obtain ⟨br', rr', e1, hU'⟩ := step_U hc hW hmo hlt hU
    rw [lp_X1_findInChunks_11, if_neg (nI_nle (by omega) (by omega)), e1, ob5_mk, show nI (c.2.1.length - k) - (1 : Int32) = nI (c.2.1.length - k - 1) from pk_sub (b := 1) (by omega), show c.2.1.length - k - 1 = c.2.1.length - (k + 1) by omega]
    by_cases hb : (c.2.1.getD k (0, 0)).1 < p1
    · obtain ⟨k', br2, rr2, q1, q2, q3, q4, q5, S, q6, q7⟩ := ih (k + 1) m br' 1 (c.2.1.getD k (0, 0)).1 (c.2.1.getD k (0, 0)).2 rr' (by omega) (by omega) hU'
      rw [if_pos hb]
      refine ⟨k', br2, rr2, by omega, q2, q3, q4, q5, c.2.1.getD k (0, 0) :: S, fun x hx => ?_, by rw [drop_cons (0, 0) hlt, q7]; rfl⟩
      rcases List.mem_cons.mp hx with rfl | hx
      · exact hb
      · exact q6 x hx
    · rw [if_neg hb, m_X1_standAt, ob2_mk]
      exact ⟨k, br', rr', Nat.le_refl _, hlt, rfl, hU', le_of_nlt hb, [], fun x hx => by simp at hx, by rw [List.nil_append, ← drop_cons (0, 0) hlt]⟩
theorem findHd_loop {f : Nat → Int32} {e : Nat} {hd : List Hd} (hlg : lgOk f e hd) {N s : Nat} (hN : N < 900) (hh : ∀ x ∈ hd, x.1 < N) (hs : s < 900) (p1 ct cv : Int32) : ∀ (r k n : Nat), r + k = hd.length → r < n →
    (lp_X1_findInHead_0 f (nI hd.length) (nI s) p1 ct cv n (nI k) = some (0, nI hd.length, ct, cv) ∧ below p1 (hdOf s (hd.drop k))) ∨
    (∃ (k' : Nat) (q : Pt), k ≤ k' ∧ k' ≤ hd.length ∧ lp_X1_findInHead_0 f (nI hd.length) (nI s) p1 ct cv n (nI k) = some (1, nI k', q.1, q.2) ∧ p1 ≤ q.1 ∧ ∃ S, below p1 S ∧ hdOf s (hd.drop k) = S ++ (q :: hdOf s (hd.drop k'))) := by
  intro r
  have hl := hlg.1
  induction r with
  | zero =>
    intro k n hr hn
    obtain ⟨m, rfl⟩ : ∃ m, n = m + 1 := ⟨n - 1, by omega⟩
    have : k = hd.length := by omega
    subst this
    left
    rw [lp_X1_findInHead_0, m_X4_logged, ob1_mk, if_pos (nI_le (Nat.le_refl _) (by omega)), List.drop_eq_nil_of_le (Nat.le_refl _)]
    exact ⟨rfl, fun x hx => by simp [hdOf] at hx⟩
  | succ r ih =>
    intro k n hr hn
    obtain ⟨m, rfl⟩ : ∃ m, n = m + 1 := ⟨n - 1, by omega⟩
    have hlt : k < hd.length := by omega
    have hsN := hh _ (gd_mem hd0 hlt)
    have e0 : m_X4_at f (nI k) (0 : Int32) = some (nI (hd.getD k hd0).1) := logat_s hlg hlt (j := 0) (by omega)
    have e1 : m_X4_at f (nI k) (1 : Int32) = some (hd.getD k hd0).2.1 := logat_s hlg hlt (j := 1) (by omega)
    have e2 : m_X4_at f (nI k) (2 : Int32) = some (hd.getD k hd0).2.2 := logat_s hlg hlt (j := 2) (by omega)
    have ehd : hdOf s (hd.drop k) = (if (hd.getD k hd0).1 = s then [(hd.getD k hd0).2] else []) ++ hdOf s (hd.drop (k + 1)) := by
      rw [drop_cons hd0 hlt, show hd.getD k hd0 :: hd.drop (k + 1) = [hd.getD k hd0] ++ hd.drop (k + 1) from rfl, hdOf_app, hdOf_one]
    rw [lp_X1_findInHead_0, m_X4_logged, ob1_mk, if_neg (nI_ge hlt (by omega)), e0, ob1_mk, ehd, nI_1]
    by_cases hss : (hd.getD k hd0).1 = s
    · rw [if_pos (by rw [hss]), if_pos hss, e1, ob1_mk]
      by_cases hb : (hd.getD k hd0).2.1 < p1
      · rw [if_pos hb]
        rcases ih (k + 1) m (by omega) (by omega) with ⟨q1, q2⟩ | ⟨k', q, q1, q2, q3, q4, S, q5, q6⟩
        · left
          refine ⟨q1, below_app (fun x hx => by rw [List.mem_singleton] at hx; subst hx; exact hb) q2⟩
        · right
          refine ⟨k', q, by omega, q2, q3, q4, (hd.getD k hd0).2 :: S, fun x hx => ?_, by rw [q6]; rfl⟩
          rcases List.mem_cons.mp hx with rfl | hx
          · exact hb
          · exact q5 x hx
      · right
        rw [if_neg hb, ob1_mk, e2, ob1_mk, m_X1_standAt, ob2_mk]
        exact ⟨k + 1, (hd.getD k hd0).2, by omega, by omega, rfl, le_of_nlt hb, [], fun x hx => by simp at hx, rfl⟩
    · rw [if_neg (fun q => hss ((nI_eq (by omega) (by omega)).mp q)), if_neg hss, List.nil_append]
      rcases ih (k + 1) m (by omega) (by omega) with ⟨q1, q2⟩ | ⟨k', q, q1, q2, q3, q4, S, q5, q6⟩
      · exact Or.inl ⟨q1, q2⟩
      · exact Or.inr ⟨k', q, by omega, q2, q3, q4, S, q5, q6⟩
theorem findCh_0 {f : Nat → Int32} (p1 ct cv vp en : Int32) (n : Nat) (br st t v : Int32) (rr : Int64) : lp_X1_findInChunks_11 f p1 ct cv vp en (n + 1) br st t v rr (nI 0) = some (0, vp, br, st, t, v, rr, en, nI 0, ct, cv) := by
  rw [lp_X1_findInChunks_11, if_pos (by decide)]
/-- where the next point is -/
theorem find_ok {f : Nat → Int32} {e sd N most : Nat} {cs : List Ch} {hd : List Hd} (hD : DOk f e sd cs hd) (hS : SOk N most cs hd) (hN : N ≤ 8) (hmo : most ≤ 64) {s : Nat} (hs : s < N) {p1 vp br st t v : Int32} {rr : Int64} {en ee pl bl : Int32} {R : List Pt} (h : CuOpen f cs hd s p1 vp br st t v rr en ee pl bl R) (hrR : rising R) (ct cv : Int32) :
    (∃ (vp' br' st' t' v' : Int32) (rr' : Int64) (en' pl' : Int32) (bl' : Int32), m_X1_findInChunks f vp br st t v rr p1 en ee pl ct cv = some (0, vp', br', st', t', v', rr', en', pl', ct, cv) ∧ m_X1_findInHead f (nI hd.length) (nI s) p1 bl ct cv = some (0, bl', ct, cv) ∧ below p1 R) ∨
    (∃ (vp' br' st' t' v' : Int32) (rr' : Int64) (en' pl' : Int32) (bl' : Int32) (q : Pt) (S R' : List Pt), R = S ++ q :: R' ∧ below p1 S ∧ p1 ≤ q.1 ∧ ((m_X1_findInChunks f vp br st t v rr p1 en ee pl ct cv = some (1, vp', br', st', t', v', rr', en', pl', q.1, q.2) ∧ bl' = bl) ∨ (m_X1_findInChunks f vp br st t v rr p1 en ee pl ct cv = some (0, vp', br', st', t', v', rr', en', pl', ct, cv) ∧ m_X1_findInHead f (nI hd.length) (nI s) p1 bl ct cv = some (1, bl', q.1, q.2))) ∧ CuOpen f cs hd s p1 vp' br' st' t' v' rr' en' ee pl' bl' R') := by
  obtain ⟨e0, n, bk, rfl, rfl, he0, rfl, rfl, hbk, hcase⟩ := h
  have hlg := hD.2.2.2.2.2.2
  have hl := hD.2.2.2.1
  have hl2 := hlg.1
  have hfo := fo_le (s + 1) cs
  have hhN : ∀ x ∈ hd, x.1 < N := hS.2.2.2.1
  -- the head, once the chunks are done
  have hhead := findHd_loop hlg (N := N) (by omega) hhN (show s < 900 by omega) p1 ct cv (hd.length - bk) bk NN (by omega) (by unfold NN; omega)
  have hhead' : (m_X1_findInHead f (nI hd.length) (nI s) p1 (nI bk) ct cv = some (0, nI hd.length, ct, cv) ∧ below p1 (hdOf s (hd.drop bk))) ∨ (∃ (k' : Nat) (q : Pt), bk ≤ k' ∧ k' ≤ hd.length ∧ m_X1_findInHead f (nI hd.length) (nI s) p1 (nI bk) ct cv = some (1, nI k', q.1, q.2) ∧ p1 ≤ q.1 ∧ ∃ S, below p1 S ∧ hdOf s (hd.drop bk) = S ++ (q :: hdOf s (hd.drop k'))) := hhead
  rcases hcase with ⟨rfl, hR⟩ | ⟨hn1, he1, rfl, k, hkn, hU, hlast, hR⟩
  · have hrc : ∀ c ∈ sg cs e0 (fo (s + 1) cs), rising c.2.1 := fun c hc => by
      rw [hR] at hrR
      exact rise_mem (rising_left hrR) hc
    rcases openCh_loop hD hS.1 hmo p1 hfo (fo (s + 1) cs - e0) e0 NN vp br st (by omega) (by unfold NN; omega) hrc with ⟨vp', br', st', q1, q2⟩ | ⟨e1, q0, q1, q2, q3, S, q4, q5⟩
    · have ef : m_X1_findInChunks f vp br st t v rr p1 (nI e0) (nI (fo (s + 1) cs)) (nI 0) ct cv = some (0, vp', br', st', t, v, rr, nI (fo (s + 1) cs), nI 0, ct, cv) := by
        rw [m_X1_findInChunks, if_pos (show nI 0 = (0 : Int32) from rfl), m_X1_openChunk, q1, ob5_mk, ob5_mk, ob5_mk]
        exact findCh_0 p1 ct cv vp' _ 99999 br' st' t v rr
      rcases hhead' with ⟨w1, w2⟩ | ⟨k', q, w1, w2, w3, w4, S, w5, w6⟩
      · left
        exact ⟨vp', br', st', t, v, rr, _, _, _, ef, w1, by rw [hR]; exact below_app q2 w2⟩
      · right
        refine ⟨vp', br', st', t, v, rr, _, _, nI k', q, fpts (sg cs e0 (fo (s + 1) cs)) ++ S, hdOf s (hd.drop k'), by rw [hR, w6, List.append_assoc], below_app q2 w5, w4, Or.inr ⟨ef, w3⟩, fo (s + 1) cs, 0, k', rfl, rfl, Nat.le_refl _, rfl, rfl, w2, Or.inl ⟨rfl, ?_⟩⟩
        rw [sg_nil]
        rfl
    · have hlt : e1 < cs.length := by omega
      have hcm := gd_mem ch0 hlt
      have hw := hS.1 _ hcm
      have hw2 := hw.2.1
      have hw3 := hw.2.2.1
      obtain ⟨k', br', rr', w1, w2, w3, w4, w5, S2, w6, w7⟩ := findCh_loop (hD.2.2.2.2.2.1 _ hcm) hw hmo q3 ct cv (nI (e1 + 1)) ((cs.getD e1 ch0).2.1.length - 1) 0 NN (nI 0) 0 t v rr (by omega) (by unfold NN; omega) (Or.inl ⟨rfl, rfl, rfl⟩)
      rw [List.drop_zero] at w7
      right
      refine ⟨nI (cs.getD e1 ch0).2.2, br', 1, ((cs.getD e1 ch0).2.1.getD k' (0, 0)).1, ((cs.getD e1 ch0).2.1.getD k' (0, 0)).2, rr', nI (e1 + 1), nI ((cs.getD e1 ch0).2.1.length - (k' + 1)), nI bk, (cs.getD e1 ch0).2.1.getD k' (0, 0), S ++ S2, (cs.getD e1 ch0).2.1.drop (k' + 1) ++ (fpts (sg cs (e1 + 1) (fo (s + 1) cs)) ++ hdOf s (hd.drop bk)), ?_, below_app q4 w6, w5, Or.inl ⟨?_, rfl⟩, e1 + 1, (cs.getD e1 ch0).2.1.length - (k' + 1), bk, rfl, rfl, by omega, rfl, rfl, hbk, ?_⟩
      · rw [hR, q5]
        exact asm_l w7
      · rw [m_X1_findInChunks, if_pos (show nI 0 = (0 : Int32) from rfl), m_X1_openChunk, q2, ob5_mk, ob5_mk, ob5_mk]
        rw [Nat.sub_zero] at w3
        exact w3
      · by_cases hz : (cs.getD e1 ch0).2.1.length - (k' + 1) = 0
        · left
          refine ⟨hz, ?_⟩
          rw [List.drop_eq_nil_of_le (by omega), List.nil_append]
        · right
          rw [Nat.add_sub_cancel]
          exact ⟨by omega, by omega, rfl, k' + 1, by omega, w4, q3, rfl⟩
  · have hlt : e0 - 1 < cs.length := by omega
    have hcm := gd_mem ch0 hlt
    have hw := hS.1 _ hcm
    have hw3 := hw.2.2.1
    obtain ⟨k', br', rr', w1, w2, w3, w4, w5, S2, w6, w7⟩ := findCh_loop (hD.2.2.2.2.2.1 _ hcm) hw hmo hlast ct cv (nI e0) (n - 1) k NN br st t v rr (by omega) (by unfold NN; omega) hU
    right
    refine ⟨nI (cs.getD (e0 - 1) ch0).2.2, br', 1, ((cs.getD (e0 - 1) ch0).2.1.getD k' (0, 0)).1, ((cs.getD (e0 - 1) ch0).2.1.getD k' (0, 0)).2, rr', nI e0, nI ((cs.getD (e0 - 1) ch0).2.1.length - (k' + 1)), nI bk, (cs.getD (e0 - 1) ch0).2.1.getD k' (0, 0), S2, (cs.getD (e0 - 1) ch0).2.1.drop (k' + 1) ++ (fpts (sg cs e0 (fo (s + 1) cs)) ++ hdOf s (hd.drop bk)), ?_, w6, w5, Or.inl ⟨?_, rfl⟩, e0, (cs.getD (e0 - 1) ch0).2.1.length - (k' + 1), bk, rfl, rfl, he0, rfl, rfl, hbk, ?_⟩
    · rw [hR, w7]
      simp
    · rw [m_X1_findInChunks, if_neg (nI_ne0 (by omega) (by omega)), ob5_mk]
      rw [show (cs.getD (e0 - 1) ch0).2.1.length - k = n by omega] at w3
      exact w3
    · by_cases hz : (cs.getD (e0 - 1) ch0).2.1.length - (k' + 1) = 0
      · left
        refine ⟨hz, ?_⟩
        rw [List.drop_eq_nil_of_le (by omega), List.nil_append]
      · right
        exact ⟨by omega, he1, rfl, k' + 1, by omega, w4, hlast, rfl⟩
theorem asked_below {p1 p2 : Int32} {l : List Pt} (h : below p1 l) : asked p1 p2 l = [] := by
  unfold asked
  rw [List.filter_eq_nil_iff]
  intro q hq
  rw [inR_iff]
  exact fun w => lt_not_le.mp (h q hq) w.1
theorem advance_C {f : Nat → Int32} {e sd N most : Nat} {cs : List Ch} {hd : List Hd} (hD : DOk f e sd cs hd) (hS : SOk N most cs hd) (hN : N ≤ 8) (hmo : most ≤ 64) {s : Nat} (hs : s < N) {p1 p2 vp br st t v : Int32} {rr : Int64} {en ee pl bl : Int32} {R : List Pt} (h : CuOpen f cs hd s p1 vp br st t v rr en ee pl bl R) (hrR : rising R) (ct cv : Int32) :
    (asked p1 p2 R = [] ∧ ∃ (vp' br' st' t' v' : Int32) (rr' : Int64) (en' pl' bl' : Int32), m_X9_next f (nI hd.length) vp br st t v rr 1 (nI s) p1 p2 en ee pl bl ct cv = some (0, vp', br', st', t', v', rr', 0, en', pl', bl', 0, 0)) ∨
    (∃ (q : Pt) (R' : List Pt), asked p1 p2 R = q :: asked p1 p2 R' ∧ rising R' ∧ ∃ (vp' br' st' t' v' : Int32) (rr' : Int64) (en' pl' bl' : Int32), m_X9_next f (nI hd.length) vp br st t v rr 1 (nI s) p1 p2 en ee pl bl ct cv = some (1, vp', br', st', t', v', rr', 1, en', pl', bl', q.1, q.2) ∧ CuOpen f cs hd s p1 vp' br' st' t' v' rr' en' ee pl' bl' R') := by
  rw [m_X9_next, m_X1_advance, if_neg (by decide)]
  rcases find_ok hD hS hN hmo hs h hrR ct cv with ⟨vp', br', st', t', v', rr', en', pl', bl', e1, e2, hb⟩ | ⟨vp', br', st', t', v', rr', en', pl', bl', q, S, R', eR, hS1, hq, hf, hCu⟩
  · left
    refine ⟨asked_below hb, vp', br', st', t', v', rr', en', pl', bl', ?_⟩
    rw [e1, ob11_mk, if_pos rfl, e2, ob4_mk, if_pos rfl, m_X1_close, ob3_mk, ob13_mk]
    rfl
  · have hr2 : rising (q :: R') := by
      rw [eR] at hrR
      exact (List.pairwise_append.mp hrR).2.1
    have hr3 : rising R' := (List.pairwise_cons.mp hr2).2
    by_cases hto : p2 < q.1
    · left
      have has : asked p1 p2 R = [] := by
        rw [eR, asked_app, asked_below hS1, List.nil_append]
        unfold asked
        rw [List.filter_eq_nil_iff]
        intro x hx
        rw [inR_iff]
        intro w
        rcases List.mem_cons.mp hx with rfl | hx
        · exact lt_not_le.mp hto w.2
        · have := (List.pairwise_cons.mp hr2).1 x hx
          have w2 := w.2
          rw [Int32.lt_iff_toInt_lt] at this hto
          rw [Int32.le_iff_toInt_le] at w2
          omega
      rcases hf with ⟨e1, rfl⟩ | ⟨e1, e2⟩
      · refine ⟨has, vp', br', st', t', v', rr', en', pl', bl', ?_⟩
        rw [e1, ob11_mk, if_neg (by decide), if_pos hto, m_X1_close, ob3_mk, ob13_mk]
        rfl
      · refine ⟨has, vp', br', st', t', v', rr', en', pl', bl', ?_⟩
        rw [e1, ob11_mk, if_pos rfl, e2, ob4_mk, if_neg (by decide), if_pos hto, m_X1_close, ob3_mk, ob13_mk]
        rfl
    · right
      refine ⟨q, R', ?_, hr3, vp', br', st', t', v', rr', en', pl', bl', ?_, hCu⟩
      · rw [eR, asked_app, asked_below hS1, List.nil_append]
        unfold asked
        rw [List.filter_cons_of_pos (inR_iff.mpr ⟨hq, le_of_nlt hto⟩)]
      · rcases hf with ⟨e1, rfl⟩ | ⟨e1, e2⟩
        · rw [e1, ob11_mk, if_neg (by decide), if_neg hto, ob13_mk]
          rfl
        · rw [e1, ob11_mk, if_pos rfl, e2, ob4_mk, if_neg (by decide), if_neg hto, ob13_mk]
          rfl
