/-! the class's Turn: seal, keep, and the writes -/
theorem TSok_snoc {out : List (Ch × Bool)} {im pf kc im' pf' : Nat → Int32} {U U' : Nat} {x : Ch × Bool} (h : TSok out im pf kc U) (hU : U ≤ U') (him : ∀ k, k < 1 + 10 * out.length → im' k = im k) (hpf : ∀ k, k < out.length → pf' k = pf k) (hx : ∀ j, j < 10 → im' (1 + 10 * out.length + j) = entC x.1 j) (hx2 : (x.2 = false → pf' out.length = -1) ∧ (x.2 = true → ∃ o, pf' out.length = nI o ∧ o + clen x.1 ≤ U' ∧ ∀ m, m < clen x.1 → kc (o + m) = cellC x.1 m)) : TSok (out ++ [x]) im' pf' kc U' := by
  refine ⟨fun k hk j hj => ?_, fun k hk => ?_⟩
  · rw [List.length_append, List.length_singleton] at hk
    rw [gd_app2 out x _ k hk]
    by_cases hk2 : k = out.length
    · subst hk2; rw [if_pos rfl]; exact hx j hj
    · rw [if_neg hk2, him _ (by omega)]; exact h.1 k (by omega) j hj
  · rw [List.length_append, List.length_singleton] at hk
    rw [gd_app2 out x _ k hk]
    by_cases hk2 : k = out.length
    · subst hk2; rw [if_pos rfl]; exact hx2
    · rw [if_neg hk2, hpf k (by omega)]
      refine ⟨(h.2 k (by omega)).1, fun hb => ?_⟩
      obtain ⟨o, o1, o2, o3⟩ := (h.2 k (by omega)).2 hb
      exact ⟨o, o1, by omega, o3⟩
theorem pkOk_cells {U : Nat} {ps : List Pt} {base kc : Nat → Int32} {ku kb kf : Int32} {s pl : Nat} (hp : pkOk (U + 2) (encB ps) ku kb kf kc) (hb : ∀ j, j < U + 2 → kc j = base j) (h0 : base U = (ps.getD 0 (0, 0)).1) (h1 : base (U + 1) = (ps.getD 0 (0, 0)).2) : ∀ m, m < clen (s, ps, pl) → kc (U + m) = cellC (s, ps, pl) m := by
  intro m hm
  unfold cellC
  by_cases m0 : m = 0
  · subst m0; rw [if_pos rfl, Nat.add_zero, hb U (by omega)]; exact h0
  · rw [if_neg m0]
    by_cases m1 : m = 1
    · subst m1; rw [if_pos rfl, hb (U + 1) (by omega)]; exact h1
    · rw [if_neg m1]
      have hm2 : m < 2 + ((encB ps).length + 31) / 32 := hm
      have := hold_cell hp.2.2.2.2 (j := m - 2) (by omega)
      rw [← this]
      congr 1
      omega
theorem seal_C {tk0 : Nat → Bool} {its : List (Ch × Bool)} {ps : List Pt} {tc of la ku kb kf : Int32} {im pf ta kc : Nat → Int32} (h : TO tk0 its ps tc of la ku kb kf im pf ta kc) (hp1 : 1 ≤ ps.length) (hp2 : ps.length ≤ 64) (s : Nat) (made : Int32) :
    ∃ (tc' la' : Int32) (im' pf' ta' : Nat → Int32), m_X7_seal tc made of la ku kf (pfst ps) (plst ps) (nI ps.length) (pmin ps) (pmax ps) (psum ps) im pf ta (nI s) = some (tc', made + 1, la', 0, 0, 0, 0, 0, 0, im', pf', ta') ∧ TC tk0 (its ++ [((s, ps, 0), true)]) tc' la' ku kf im' pf' ta' kc := by
  have hlen := encB_len ps hp2
  have hcl : clen (s, ps, 0) = 2 + ((encB ps).length + 31) / 32 := rfl
  rw [m_X7_seal, if_neg (nI_ne0 (by omega) (by omega)), m_X5_used, ob1_mk, m_X5_isFull]
  have hL1 : (its ++ [((s, ps, 0), true)]).length = its.length + 1 := by simp
  rcases h with ⟨out, base, h1, h2, h3, rfl, rfl, h6, h7, h8, h9, h10⟩ | ⟨h1, rfl, ⟨c, hc, rfl⟩, ⟨tk, h4⟩, h5⟩
  · subst h3
    have hlo : out.length = its.length := (plan_ok its out tk0 h1).1
    rcases h6 with ⟨g1, g2, g3⟩ | ⟨g1, g2⟩
    · obtain ⟨rfl, rfl, g6, g7, g8⟩ := id g2
      have e1 : nI (newLen out + 2 + ((encB ps).length + 31) / 32) - nI (newLen out) = nI (clen (s, ps, 0)) := by
        rw [pk_sub (by omega), hcl]; congr 1; omega
      rw [e1, find_C h10 (by omega), ob1_mk, show ckz (0 : Int32) (some (0 : Int32)) = some 0 from rfl, ob1_mk, if_pos rfl]
      cases hff : ff (marks tk0 out) (clen (s, ps, 0)) with
      | none =>
        have hpl : plan tk0 (its ++ [((s, ps, 0), true)]) = none := by rw [plan_snoc, h1]; dsimp only; rw [if_pos rfl, hff]
        rw [show plI none = (-1 : Int32) from rfl, if_pos rfl, ob5_mk, m_X6_clear, ob6_mk]
        exact ⟨_, _, _, _, _, rfl, Or.inr ⟨Or.inl hpl, rfl, ⟨_, h2, rfl⟩, Or.inl rfl, ⟨_, by omega, rfl⟩, _, h10⟩⟩
      | some p =>
        have hpl : plan tk0 (its ++ [((s, ps, 0), true)]) = some (out ++ [((s, ps, 2435 + p), true)]) := by rw [plan_snoc, h1]; dsimp only; rw [if_pos rfl, hff]
        obtain ⟨f1, f2⟩ := ff_ok (by omega) hff
        rw [show plI (some p) = nI (2435 + p) from rfl, if_neg (plI_none p (by omega))]
        by_cases h96 : its.length < 96
        · obtain ⟨ta', e2, h12⟩ := take_C (p := 2435 + p) (n := clen (s, ps, 0)) (by omega) (by omega) h10
          obtain ⟨im', e3, i0, i1, i2, i3, i4, i5, i6, i7, i8, i9, i10⟩ := addEntry_C h96 (nI (newLen out)) (pfst ps) (plst ps) (nI ps.length) (pmin ps) (pmax ps) (psum ps) im pf (nI s) (nI (2435 + p)) (nI (clen (s, ps, 0)))
          rw [if_pos (show nI its.length < (96 : Int32) from nI_lt (b := 96) h96 (by omega)), e2, ob1_mk, e3, ob3_mk, ob5_mk, m_X6_clear, ob6_mk]
          refine ⟨_, _, _, _, _, rfl, Or.inl ⟨_, hpl, by omega, by rw [hL1], rfl, rfl, ?_, ?_, ?_⟩⟩
          · rw [newLen_new]
            congr 1
            have : clen (s, ps, 2435 + p) = clen (s, ps, 0) := rfl
            omega
          · rw [newLen_new, show clen (s, ps, 2435 + p) = clen (s, ps, 0) from rfl]
            refine TSok_snoc (TSok_base h9 (fun j hj => g3 j (by omega))) (by omega) (fun k hk => i10 k (by omega)) (fun k hk => pk_un (by omega)) (fun j hj => ?_) ⟨fun q => (nomatch q), fun _ => ⟨newLen out, by rw [hlo, pk_us], Nat.le_refl _, ?_⟩⟩
            · rw [hlo]
              rcases (show j = 0 ∨ j = 1 ∨ j = 2 ∨ j = 3 ∨ j = 4 ∨ j = 5 ∨ j = 6 ∨ j = 7 ∨ j = 8 ∨ j = 9 by omega) with rfl | rfl | rfl | rfl | rfl | rfl | rfl | rfl | rfl | rfl
              · rw [Nat.add_zero, i0]; rfl
              · rw [i1]; rfl
              · rw [i2]; rfl
              · rw [i3]; rfl
              · rw [i4]; rfl
              · rw [i5]; rfl
              · rw [i6]; rfl
              · rw [i7]; rfl
              · rw [i8]; rfl
              · rw [i9]; rfl
            · exact pkOk_cells (s := s) (pl := 2435 + p) g2 g3 h7 h8
          · have := marks_snoc_new tk0 out (s, ps, 0) p
            dsimp only at this
            rw [this]
            rw [show 2435 + p - 2435 = p by omega] at h12
            exact h12
        · rw [if_neg (show ¬ nI its.length < (96 : Int32) from nI_nlt (b := 96) (by omega) (by omega)), ob5_mk, m_X6_clear, ob6_mk]
          exact ⟨_, _, _, _, _, rfl, Or.inr ⟨Or.inr (by omega), rfl, ⟨_, h2, rfl⟩, Or.inl rfl, ⟨_, by omega, rfl⟩, _, h10⟩⟩
    · obtain ⟨rfl, ⟨u, hu, rfl⟩, g5⟩ := g2
      obtain ⟨y, ey⟩ := find_any (a := ta) (x := nI u - nI (newLen out)) 1661 0 NN 0 (by omega) (by unfold NN; omega)
      have ey' : m_X7_findPlace ta (nI u - nI (newLen out)) = some y := by rw [m_X7_findPlace]; exact ey
      have hpl : plan tk0 (its ++ [((s, ps, 0), true)]) = none := by
        rw [plan_snoc, h1]
        dsimp only
        rw [if_pos rfl]
        cases hff : ff (marks tk0 out) (clen (s, ps, 0)) with
        | none => rfl
        | some p =>
          have := ff_fits h1 (by omega) hff
          omega
      rw [ey', ob1_mk, show ckz (1 : Int32) (some (1 : Int32)) = some 1 from rfl, ob1_mk, if_neg (by decide), ob5_mk, m_X6_clear, ob6_mk]
      exact ⟨_, _, _, _, _, rfl, Or.inr ⟨Or.inl hpl, rfl, ⟨_, h2, rfl⟩, Or.inr rfl, ⟨_, hu, rfl⟩, _, h10⟩⟩
  · have hbad : plan tk0 (its ++ [((s, ps, 0), true)]) = none ∨ 96 < (its ++ [((s, ps, 0), true)]).length := by
      rcases h1 with q | q
      · exact Or.inl (plan_none q)
      · exact Or.inr (by omega)
    have full : pkF ku kb kf → ∃ (tc' la' : Int32) (im' pf' ta' : Nat → Int32), (ob1 (m_X7_findPlace ta (ku - of)) fun r_7 => ob1 (ckz kf <| some kf) fun r_11 => ob5 (if r_11 = 0 then (if r_7 = (-1 : Int32) then some (nI c, (1 : Int32), im, pf, ta) else if nI c < (96 : Int32) then ob1 (m_X7_take ta r_7 (ku - of)) fun T_taken_26 => ob3 (m_X7_addEntry (nI c) of (pfst ps) (plst ps) (nI ps.length) (pmin ps) (pmax ps) (psum ps) im pf (nI s) r_7 (ku - of)) fun T_chunks_29 T_image_30 T_packedFrom_31 => some (T_chunks_29, (1 : Int32), T_image_30, T_packedFrom_31, T_taken_26) else some (nI c, (1 : Int32), im, pf, ta)) else some (nI c, (1 : Int32), im, pf, ta)) fun T_chunks_13 T_lacksSpace_14 T_image_15 T_packedFrom_16 T_taken_17 => ob6 (m_X6_clear (pfst ps) (plst ps) (nI ps.length) (pmin ps) (pmax ps) (psum ps)) fun O_first_37 O_last_38 O_points_39 O_least_40 O_greatest_41 O_sum_42 => some (T_chunks_13, made + (1 : Int32), T_lacksSpace_14, O_first_37, O_last_38, O_points_39, O_least_40, O_greatest_41, O_sum_42, T_image_15, T_packedFrom_16, T_taken_17)) = some (tc', made + 1, la', 0, 0, 0, 0, 0, 0, im', pf', ta') ∧ TC tk0 (its ++ [((s, ps, 0), true)]) tc' la' ku kf im' pf' ta' kc := by
      rintro ⟨rfl, ⟨u, hu, rfl⟩, g5⟩
      obtain ⟨y, ey⟩ := find_any (a := ta) (x := nI u - of) 1661 0 NN 0 (by omega) (by unfold NN; omega)
      have ey' : m_X7_findPlace ta (nI u - of) = some y := by rw [m_X7_findPlace]; exact ey
      rw [ey', ob1_mk, show ckz (1 : Int32) (some (1 : Int32)) = some 1 from rfl, ob1_mk, if_neg (by decide), ob5_mk, m_X6_clear, ob6_mk]
      exact ⟨_, _, _, _, _, rfl, Or.inr ⟨hbad, rfl, ⟨_, hc, rfl⟩, Or.inr rfl, ⟨_, hu, rfl⟩, _, h4⟩⟩
    rcases h5 with h5 | ⟨U, base, h5, rfl, ⟨g1, g2, g3⟩ | ⟨g1, g2⟩⟩
    · exact full h5
    · obtain ⟨rfl, rfl, g6, g7, g8⟩ := id g2
      have e1 : nI (U + 2 + ((encB ps).length + 31) / 32) - nI U = nI (clen (s, ps, 0)) := by
        rw [pk_sub (by omega), hcl]; congr 1; omega
      rw [e1, find_C h4 (by omega), ob1_mk, show ckz (0 : Int32) (some (0 : Int32)) = some 0 from rfl, ob1_mk, if_pos rfl]
      cases hff : ff tk (clen (s, ps, 0)) with
      | none =>
        rw [show plI none = (-1 : Int32) from rfl, if_pos rfl, ob5_mk, m_X6_clear, ob6_mk]
        exact ⟨_, _, _, _, _, rfl, Or.inr ⟨hbad, rfl, ⟨_, hc, rfl⟩, Or.inl rfl, ⟨_, by omega, rfl⟩, _, h4⟩⟩
      | some p =>
        obtain ⟨f1, f2⟩ := ff_ok (by omega) hff
        rw [show plI (some p) = nI (2435 + p) from rfl, if_neg (plI_none p (by omega))]
        by_cases h96 : c < 96
        · obtain ⟨ta', e2, h12⟩ := take_C (p := 2435 + p) (n := clen (s, ps, 0)) (by omega) (by omega) h4
          obtain ⟨im', e3, -⟩ := addEntry_C h96 (nI U) (pfst ps) (plst ps) (nI ps.length) (pmin ps) (pmax ps) (psum ps) im pf (nI s) (nI (2435 + p)) (nI (clen (s, ps, 0)))
          rw [if_pos (show nI c < (96 : Int32) from nI_lt (b := 96) h96 (by omega)), e2, ob1_mk, e3, ob3_mk, ob5_mk, m_X6_clear, ob6_mk]
          exact ⟨_, _, _, _, _, rfl, Or.inr ⟨hbad, rfl, ⟨c + 1, by omega, rfl⟩, Or.inl rfl, ⟨_, by omega, rfl⟩, _, h12⟩⟩
        · rw [if_neg (show ¬ nI c < (96 : Int32) from nI_nlt (b := 96) (by omega) (by omega)), ob5_mk, m_X6_clear, ob6_mk]
          exact ⟨_, _, _, _, _, rfl, Or.inr ⟨hbad, rfl, ⟨_, hc, rfl⟩, Or.inl rfl, ⟨_, by omega, rfl⟩, _, h4⟩⟩
    · exact full g2
/-- an entry that stays -/
theorem keepT {f : Nat → Int32} {e sd : Nat} {cs : List Ch} {hd : List Hd} (hD : DOk f e sd cs hd) {tk0 : Nat → Bool} {its : List (Ch × Bool)} {tc la ku kf : Int32} {im pf ta kc : Nat → Int32} (h : TC tk0 its tc la ku kf im pf ta kc) {x : Nat} (hx : x < cs.length) :
    ∃ (tc' la' : Int32) (im' pf' : Nat → Int32), m_X7_keep f tc la im pf (nI x) = some (tc', la', im', pf') ∧ TC tk0 (its ++ [(cs.getD x ch0, false)]) tc' la' ku kf im' pf' ta kc := by
  have hL1 : (its ++ [(cs.getD x ch0, false)]).length = its.length + 1 := by simp
  rcases h with ⟨out, h1, h2, rfl, rfl, h5, h6, h7, h8⟩ | ⟨h1, rfl, ⟨c, hc, rfl⟩, h4, h5, h6⟩
  · have hlo : out.length = its.length := (plan_ok its out tk0 h1).1
    by_cases h96 : its.length < 96
    · obtain ⟨im', e1, i1, i2⟩ := keep_C hD hx h96 0 im pf
      rw [e1]
      refine ⟨_, _, _, _, rfl, Or.inl ⟨_, plan_keep h1, by omega, by rw [hL1], rfl, h5, by rw [newLen_old]; exact h6, ?_, by rw [marks_snoc_old]; exact h8⟩⟩
      rw [newLen_old]
      exact TSok_snoc h7 (Nat.le_refl _) (fun k hk => i2 k (by omega)) (fun k hk => pk_un (by omega)) (fun j hj => by rw [hlo]; exact i1 j hj) ⟨fun _ => by rw [hlo, pk_us], fun q => (nomatch q)⟩
    · rw [keep_full h96 (by omega)]
      exact ⟨_, _, _, _, rfl, Or.inr ⟨Or.inr (by omega), rfl, ⟨_, h2, rfl⟩, Or.inl h5, ⟨_, newLen_le h1, h6⟩, _, h8⟩⟩
  · have hbad : plan tk0 (its ++ [(cs.getD x ch0, false)]) = none ∨ 96 < (its ++ [(cs.getD x ch0, false)]).length := by
      rcases h1 with q | q
      · exact Or.inl (plan_none q)
      · exact Or.inr (by omega)
    by_cases h96 : c < 96
    · obtain ⟨im', e1, -, -⟩ := keep_C hD hx h96 1 im pf
      rw [e1]
      exact ⟨_, _, _, _, rfl, Or.inr ⟨hbad, rfl, ⟨c + 1, by omega, rfl⟩, h4, h5, h6⟩⟩
    · rw [keep_full h96 (by omega)]
      exact ⟨_, _, _, _, rfl, Or.inr ⟨hbad, rfl, ⟨c, hc, rfl⟩, h4, h5, h6⟩⟩
