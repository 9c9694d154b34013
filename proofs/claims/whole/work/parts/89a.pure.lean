/-! the throwing methods' models and the hand's -/
theorem gate_eq {α : Type} (N dn p0 : Int32) (X : Option α) (E : Int32 → Option α) : (ob1 (m_X9_throwUnlessUp dn) fun k => if k = 0 then (ob1 (m_X9_throwUnlessSeries N p0) fun k' => if k' = 0 then X else E k') else E k) = ob1 (t_X9_gate N dn p0) fun k => if k = 0 then X else E k := by
  rw [m_X9_throwUnlessUp, m_X9_throwUnlessSeries, t_X9_gate]
  cases m_X2_isDown dn with
  | none => rfl
  | some r =>
    rw [ob1_mk, ob1_mk]
    by_cases c : r = 0
    · rw [if_pos c, if_pos c, ob1_mk, if_pos rfl]
    · rw [if_neg c, if_neg c, ob1_mk, ob1_mk, if_neg (show ¬ (1 : Int32) = 0 by decide), if_neg (show ¬ (1 : Int32) = 0 by decide)]
theorem if_lt_le {α : Type} (a r : Int32) (X Y : α) : (if a < r then X else Y) = (if r ≤ a then Y else X) := by
  by_cases h : a < r
  · rw [if_pos h, if_neg (lt_not_le.mp h)]
  · rw [if_neg h, if_pos (by
      by_cases q : r ≤ a
      · exact q
      · exact absurd (lt_not_le.mpr q) h)]
theorem sizes_eq (N ρ dn : Int32) (f : Nat → Int32) (lg p0 p1 : Int32) : m_X9_sizes N ρ dn f lg p0 p1 = t_X9_sizes N ρ dn f lg p0 p1 := by
  rw [m_X9_sizes, gate_eq, t_X9_sizes]
theorem lt_le_eq {α : Type} (p1 : Int32) (C : Option Int32) (Z : Option α) (X : Int32 → Option α) : (ob1 C fun r => if p1 < r then X r else Z) = ob1 C fun r => if r ≤ p1 then Z else X r := by
  have e : (fun r => if p1 < r then X r else Z) = fun r => if r ≤ p1 then Z else X r := funext (fun r => if_lt_le p1 r (X r) Z)
  rw [e]
theorem chunk_eq (N dn : Int32) (f : Nat → Int32) (p0 p1 p2 : Int32) : m_X9_chunk N dn f p0 p1 p2 = t_X9_chunk N dn f p0 p1 p2 := by
  rw [m_X9_chunk, gate_eq, t_X9_chunk, lt_le_eq]
theorem group_eq (N ρ dn : Int32) (f : Nat → Int32) (z1 z2 z3 z4 z5 : Int32) (z6 : Int64) (p0 p1 p2 : Int32) : m_X9_group N ρ dn f z1 z2 z3 z4 z5 z6 p0 p1 p2 = t_X9_group N ρ dn f z1 z2 z3 z4 z5 z6 p0 p1 p2 := by
  rw [m_X9_group, gate_eq, t_X9_group, lt_le_eq]
section AG
variable {N dn : Int32} {f : Nat → Int32} {lg up br st t v : Int32} {rr : Int64} {ρ lo un f1 f2 f3 f4 f5 : Int32} {f6 : Int64} {z1 z2 z3 z4 z5 : Int32} {z6 : Int64} {p0 p1 p2 : Int32} {k up' br' st' t' v' : Int32} {rr' : Int64} {lo' un' f1' f2' f3' f4' f5' : Int32} {f6' : Int64} {z1' z2' z3' z4' z5' : Int32} {z6' : Int64}
theorem aggMin_of (h : t_X9_asks N dn f lg up br st t v rr ρ lo un f1 f2 f3 f4 f5 f6 z1 z2 z3 z4 z5 z6 p0 p1 p2 = some (k, up', br', st', t', v', rr', lo', un', f1', f2', f3', f4', f5', f6', z1', z2', z3', z4', z5', z6')) : m_X9_aggMin N dn f lg up br st t v rr ρ lo un f1 f2 f3 f4 f5 f6 z1 z2 z3 z4 z5 z6 p0 p1 p2 = some (k, (if k = 0 then f4' else 0), up', br', st', t', v', rr', lo', un', f1', f2', f3', f4', f5', f6', z1', z2', z3', z4', z5', z6') := by
  rw [t_X9_asks] at h
  rw [m_X9_aggMin, gate_eq]
  obtain ⟨k0, hg, h⟩ := ob1_some h
  rw [hg, ob1_mk]
  by_cases c : k0 = 0
  · rw [if_pos c] at h ⊢
    obtain ⟨a1, a2, a3, a4, a5, a6, a7, a8, a9, a10, a11, a12, a13, a14, a15, a16, a17, a18, a19, a20, ha, h⟩ := ob20_some h
    rw [ha, ob20_mk]
    cases h
    rfl
  · rw [if_neg c] at h ⊢
    cases h
    rw [if_neg c]
theorem aggMax_of (h : t_X9_asks N dn f lg up br st t v rr ρ lo un f1 f2 f3 f4 f5 f6 z1 z2 z3 z4 z5 z6 p0 p1 p2 = some (k, up', br', st', t', v', rr', lo', un', f1', f2', f3', f4', f5', f6', z1', z2', z3', z4', z5', z6')) : m_X9_aggMax N dn f lg up br st t v rr ρ lo un f1 f2 f3 f4 f5 f6 z1 z2 z3 z4 z5 z6 p0 p1 p2 = some (k, (if k = 0 then f5' else 0), up', br', st', t', v', rr', lo', un', f1', f2', f3', f4', f5', f6', z1', z2', z3', z4', z5', z6') := by
  rw [t_X9_asks] at h
  rw [m_X9_aggMax, gate_eq]
  obtain ⟨k0, hg, h⟩ := ob1_some h
  rw [hg, ob1_mk]
  by_cases c : k0 = 0
  · rw [if_pos c] at h ⊢
    obtain ⟨a1, a2, a3, a4, a5, a6, a7, a8, a9, a10, a11, a12, a13, a14, a15, a16, a17, a18, a19, a20, ha, h⟩ := ob20_some h
    rw [ha, ob20_mk]
    cases h
    rfl
  · rw [if_neg c] at h ⊢
    cases h
    rw [if_neg c]
theorem aggSum_of (h : t_X9_asks N dn f lg up br st t v rr ρ lo un f1 f2 f3 f4 f5 f6 z1 z2 z3 z4 z5 z6 p0 p1 p2 = some (k, up', br', st', t', v', rr', lo', un', f1', f2', f3', f4', f5', f6', z1', z2', z3', z4', z5', z6')) : m_X9_aggSum N dn f lg up br st t v rr ρ lo un f1 f2 f3 f4 f5 f6 z1 z2 z3 z4 z5 z6 p0 p1 p2 = some (k, (if k = 0 then f6' else 0), up', br', st', t', v', rr', lo', un', f1', f2', f3', f4', f5', f6', z1', z2', z3', z4', z5', z6') := by
  rw [t_X9_asks] at h
  rw [m_X9_aggSum, gate_eq]
  obtain ⟨k0, hg, h⟩ := ob1_some h
  rw [hg, ob1_mk]
  by_cases c : k0 = 0
  · rw [if_pos c] at h ⊢
    obtain ⟨a1, a2, a3, a4, a5, a6, a7, a8, a9, a10, a11, a12, a13, a14, a15, a16, a17, a18, a19, a20, ha, h⟩ := ob20_some h
    rw [ha, ob20_mk]
    cases h
    rfl
  · rw [if_neg c] at h ⊢
    cases h
    rw [if_neg c]
end AG
/-! what comes of the constructors' numbers -/
theorem near_ok (p : Int32) {a b : Nat} (hab : a ≤ b) (hb : b < 1000) : ∃ n : Nat, a ≤ n ∧ n ≤ b ∧ m_X9_nearest p (nI a) (nI b) = some (nI n) ∧ m_X10_between p (nI a) (nI b) = some (nI n) := by
  have ha : (nI a).toInt = a := nI_toInt (by omega)
  have hb' : (nI b).toInt = b := nI_toInt (by omega)
  rw [m_X9_nearest, m_X10_between]
  by_cases h1 : nI a ≤ p
  · have h1' := Int32.le_iff_toInt_le.mp h1
    rw [if_pos h1]
    by_cases h2 : p ≤ nI b
    · have h2' := Int32.le_iff_toInt_le.mp h2
      rw [if_pos h2, ob1_mk, if_neg (show ¬ nI b < p by rw [Int32.lt_iff_toInt_lt]; omega)]
      obtain ⟨n, hn, rfl⟩ := nI_of (x := p) (by rw [Int32.lt_iff_toInt_lt]; have : (0 : Int32).toInt = 0 := rfl; omega)
      have hn' : (nI n).toInt = n := nI_toInt hn
      refine ⟨n, by omega, by omega, ?_, rfl⟩
      by_cases h3 : nI a < nI n
      · rw [if_pos h3]
      · rw [if_neg h3]
        rw [Int32.lt_iff_toInt_lt] at h3
        rw [show a = n by omega]
    · have h2' : ¬ p.toInt ≤ (nI b).toInt := fun q => h2 (Int32.le_iff_toInt_le.mpr q)
      rw [if_neg h2, ob1_mk, if_pos (show nI b < p by rw [Int32.lt_iff_toInt_lt]; omega)]
      refine ⟨b, hab, by omega, ?_, rfl⟩
      by_cases h3 : nI a < nI b
      · rw [if_pos h3]
      · rw [if_neg h3]
        rw [Int32.lt_iff_toInt_lt] at h3
        rw [show a = b by omega]
  · have h1' : ¬ (nI a).toInt ≤ p.toInt := fun q => h1 (Int32.le_iff_toInt_le.mpr q)
    rw [if_neg h1, ob1_mk, if_neg (show ¬ nI b < p by rw [Int32.lt_iff_toInt_lt]; omega), if_neg (show ¬ nI a < p by rw [Int32.lt_iff_toInt_lt]; omega)]
    exact ⟨a, Nat.le_refl _, hab, rfl, rfl⟩
/-! the new store -/
theorem new_core (N m : Nat) : Core N m (fun _ => 0) (-1) 0 0 0 [] [] [] (fun _ => 0) (fun _ => 0) (fun _ => 0) (fun _ => 0) (fun _ => 0) (fun _ => 0) (fun _ => 0) (fun _ => 0) (fun _ => 0) (fun _ => 0) := by
  refine ⟨⟨rfl, by omega, by omega, by simp, ?_, by simp, ?_⟩, ⟨by simp, List.Pairwise.nil, List.Pairwise.nil, by simp, ?_⟩, ⟨Or.inl rfl, Or.inl rfl⟩, ⟨rfl, List.nodup_nil, by simp⟩, by intro k hk; simp at hk⟩
  · exact ⟨rfl, by intro k hk; simp at hk⟩
  · refine ⟨by simp, by simp, fun k _ _ => ⟨0, by omega, rfl⟩⟩
  · intro s
    exact List.Pairwise.nil
