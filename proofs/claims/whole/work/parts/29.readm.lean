/-! the reference's read: a slot gets a chunk's points -/
theorem encR_cons (rise : Int64) (t v : Int32) (q : Pt) (r : List Pt) : encR rise t v (q :: r) = encS ((q.1.toInt64 - t.toInt64) - rise) ++ (encV (q.2 - v) ++ encR (q.1.toInt64 - t.toInt64) q.1 q.2 r) := rfl
theorem E_bound {rise : Int64} (hr : rOk rise) (a b : Int32) : -8589934592 ≤ ((a.toInt64 - b.toInt64) - rise).toInt ∧ ((a.toInt64 - b.toInt64) - rise).toInt < 8589934592 := by
  have hd := dif_toInt a b
  have a1 := i32_lo a
  have a2 := i32_hi a
  have a3 := i32_lo b
  have a4 := i32_hi b
  obtain ⟨a5, a6⟩ := hr
  rw [sub_toInt (by omega) (by omega), hd]
  omega
theorem read_loop {f many place : Nat → Int32} {c pl : Nat} {L : Nat} (hc : c < 240) (hL : L ≤ 64) (hm : many c = nI L) (hpl : place c = nI pl) (hpl2 : pl < 4900) : ∀ (r : List Pt) (n i pos : Nat) (rise : Int64) (T V : Nat → Int32), i + r.length = L → 1 ≤ i → r.length < n → pos + 80 * r.length < 50000 → rOk rise → sat f (pl + 2) pos (encR rise (T (64 * c + (i - 1))) (V (64 * c + (i - 1))) r) → pl + 2 + (pos + (encR rise (T (64 * c + (i - 1))) (V (64 * c + (i - 1))) r).length + 31) / 32 ≤ 4096 →
    ∃ (b' : Int32) (T' V' : Nat → Int32), lp_X10_read_63 f many place (nI c) n rise (nI i) (nI pos) T V = some (b', T', V') ∧ (∀ k, k < r.length → T' (64 * c + i + k) = (r.getD k (0, 0)).1 ∧ V' (64 * c + i + k) = (r.getD k (0, 0)).2) ∧ (∀ j, j < 64 * c + i ∨ 64 * c + i + r.length ≤ j → T' j = T j ∧ V' j = V j) := by
  intro r
  induction r with
  | nil =>
    intro n i pos rise T V hi hi1 hn _ _ _ _
    obtain ⟨m, rfl⟩ : ∃ m, n = m + 1 := ⟨n - 1, by simp at hn; omega⟩
    simp only [List.length_nil, Nat.add_zero] at hi
    rw [lp_X10_read_63, ckb_in _ hc (by omega), nI_clamp (by omega), hm, if_pos (nI_le (by omega) (by omega))]
    exact ⟨_, T, V, rfl, fun k hk => by simp at hk, fun j _ => ⟨rfl, rfl⟩⟩
  | cons q r ih =>
    intro n i pos rise T V hi hi1 hn hp hr hs hin
    obtain ⟨m, rfl⟩ : ∃ m, n = m + 1 := ⟨n - 1, by simp at hn; omega⟩
    simp only [List.length_cons] at hi hn hp
    rw [encR_cons] at hs hin
    obtain ⟨h1, h2⟩ := sat_app hs
    obtain ⟨h3, h4⟩ := sat_app h2
    simp only [List.length_append] at hin
    have hE := E_bound hr q.1 (T (64 * c + (i - 1)))
    have l1 := encS_len ((q.1.toInt64 - (T (64 * c + (i - 1))).toInt64) - rise)
    have l2 := encV_len (q.2 - V (64 * c + (i - 1)))
    have e1 : (64 : Int32) * nI c + nI i = nI (64 * c + i) := by rw [show (64 : Int32) = nI 64 from rfl, pk_mul, nI_add]
    have e2 : nI (64 * c + i) - (1 : Int32) = nI (64 * c + (i - 1)) := by rw [show (1 : Int32) = nI 1 from rfl, pk_sub (by omega)]; congr 1; omega
    have e3 : nI pl + (2 : Int32) = nI (pl + 2) := nI_add pl 2
    have hin1 : 64 * c + i < 15360 := by omega
    have hin2 : 64 * c + (i - 1) < 15360 := by omega
    rw [lp_X10_read_63, ckb_in _ hc (by omega), nI_clamp (show c < 2 ^ 31 by omega), hm, if_neg (nI_ge (by omega) (by omega)), hpl, e3, e1, e2, takeStep_s (by omega) (by omega) hE.1 hE.2 h1 (by omega), ob2_mk, ckb_in _ hin2 (by omega), ckb_in _ hin1 (by omega), ckb_in _ hin2 (by omega), takeValue_s (by omega) (by omega) h3 (by omega), ob2_mk, ckb_in _ hin1 (by omega), nI_clamp (show 64 * c + i < 2 ^ 31 by omega), nI_clamp (show 64 * c + (i - 1) < 2 ^ 31 by omega), step_time, nI_1]
    rw [show rise + ((q.1.toInt64 - (T (64 * c + (i - 1))).toInt64) - rise) = q.1.toInt64 - (T (64 * c + (i - 1))).toInt64 by rw [Int64.add_comm, Int64.sub_add_cancel], show V (64 * c + (i - 1)) + (q.2 - V (64 * c + (i - 1))) = q.2 by rw [Int32.add_comm, Int32.sub_add_cancel]]
    have t1 : upd T (64 * c + i) q.1 (64 * c + (i + 1 - 1)) = q.1 := by rw [show i + 1 - 1 = i by omega]; exact pk_us
    have t2 : upd V (64 * c + i) q.2 (64 * c + (i + 1 - 1)) = q.2 := by rw [show i + 1 - 1 = i by omega]; exact pk_us
    obtain ⟨b', T', V', e, g1, g2⟩ := ih m (i + 1) (pos + (encS ((q.1.toInt64 - (T (64 * c + (i - 1))).toInt64) - rise)).length + (encV (q.2 - V (64 * c + (i - 1)))).length) (q.1.toInt64 - (T (64 * c + (i - 1))).toInt64) (upd T (64 * c + i) q.1) (upd V (64 * c + i) q.2) (by omega) (by omega) (by omega) (by omega) (rOk_dif _ _) (by rw [t1, t2]; exact h4) (by rw [t1, t2]; omega)
    refine ⟨b', T', V', e, fun k hk => ?_, fun j hj => ?_⟩
    · cases k with
      | zero =>
        have := g2 (64 * c + i) (Or.inl (by omega))
        rw [Nat.add_zero, this.1, this.2, pk_us, pk_us]
        exact ⟨rfl, rfl⟩
      | succ k =>
        have := g1 k (by simp at hk; omega)
        rw [show 64 * c + i + (k + 1) = 64 * c + (i + 1) + k by omega]
        exact this
    · simp only [List.length_cons] at hj
      have := g2 j (by omega)
      rw [this.1, this.2, pk_un (by omega), pk_un (by omega)]
      exact ⟨rfl, rfl⟩
theorem read_spec {f many place times values : Nat → Int32} {bits from0 : Int32} {c pl : Nat} {ps : List Pt} (hc : c < 240) (h1 : 1 ≤ ps.length) (hL : ps.length ≤ 64) (hm : many c = nI ps.length) (hpl : place c = nI pl) (hpl2 : pl + 1 < 4096) (ht : f pl = (ps.getD 0 (0, 0)).1) (hv : f (pl + 1) = (ps.getD 0 (0, 0)).2) (hs : sat f (pl + 2) 0 (encB ps)) (hin : pl + 2 + ((encB ps).length + 31) / 32 ≤ 4096) :
    ∃ (b' : Int32) (T' V' : Nat → Int32), m_X10_read bits from0 f many place times values (nI c) = some (b', nI (pl + 2), T', V') ∧ slotAt T' V' c ps ∧ (∀ j, j < 64 * c ∨ 64 * c + 64 ≤ j → T' j = times j ∧ V' j = values j) := by
  obtain ⟨q, r, rfl⟩ : ∃ q r, ps = q :: r := by
    cases ps with
    | nil => simp at h1
    | cons q r => exact ⟨q, r, rfl⟩
  simp only [List.length_cons] at hL
  have e1 : (64 : Int32) * nI c = nI (64 * c) := by rw [show (64 : Int32) = nI 64 from rfl, pk_mul]
  have hin1 : 64 * c < 15360 := by omega
  have e3 : nI pl + (1 : Int32) = nI (pl + 1) := nI_1 _
  have e4 : nI pl + (2 : Int32) = nI (pl + 2) := nI_add pl 2
  have ht : f pl = q.1 := ht
  have hv : f (pl + 1) = q.2 := hv
  rw [m_X10_read, ckb_in _ hc (by omega), nI_clamp (show c < 2 ^ 31 by omega), hpl, ckb_in _ (show pl < 4096 by omega) (by omega), e1, ckb_in _ hin1 (by omega), ckb_in _ hc (by omega), e3, ckb_in _ hpl2 (by omega), ckb_in _ hin1 (by omega), ckb_in _ hc (by omega), nI_clamp (show 64 * c < 2 ^ 31 by omega), nI_clamp (show pl < 2 ^ 31 by omega), nI_clamp (show pl + 1 < 2 ^ 31 by omega), ht, hv, e4]
  have t1 : upd times (64 * c) q.1 (64 * c + (1 - 1)) = q.1 := pk_us
  have t2 : upd values (64 * c) q.2 (64 * c + (1 - 1)) = q.2 := pk_us
  have rl : (encB (q :: r)).length = (encR 0 q.1 q.2 r).length := rfl
  obtain ⟨b', T', V', e, g1, g2⟩ := read_loop (many := many) hc (L := r.length + 1) (by omega) hm hpl (by omega) r NN 1 0 0 (upd times (64 * c) q.1) (upd values (64 * c) q.2) (by omega) (by omega) (by unfold NN; omega) (by omega) (by unfold rOk; decide) (by rw [t1, t2]; exact hs) (by rw [t1, t2, ← rl]; omega)
  have e' : lp_X10_read_63 f many place (nI c) NN (0 : Int64) (1 : Int32) (0 : Int32) (upd times (64 * c) q.1) (upd values (64 * c) q.2) = some (b', T', V') := e
  rw [e', ob3_mk]
  refine ⟨b', T', V', rfl, fun i hi => ?_, fun j hj => ?_⟩
  · cases i with
    | zero =>
      have := g2 (64 * c) (Or.inl (by omega))
      rw [Nat.add_zero, this.1, this.2, pk_us, pk_us]
      exact ⟨rfl, rfl⟩
    | succ i =>
      have := g1 i (by simp at hi; omega)
      rw [show 64 * c + (i + 1) = 64 * c + 1 + i by omega]
      exact this
  · have := g2 j (by omega)
    rw [this.1, this.2, pk_un (by omega), pk_un (by omega)]
    exact ⟨rfl, rfl⟩
