/-! what a turned disk means -/
def itOk (N most : Nat) (cs : List Ch) (hd hd' : List Hd) (its : List (Ch × Bool)) : Prop :=
  (∀ q ∈ its, q.2 = true → q.1.1 < N ∧ 1 ≤ q.1.2.1.length ∧ q.1.2.1.length ≤ most) ∧ ((its.filter (fun q => !q.2)).map Prod.fst).Sublist cs ∧ its.Pairwise (fun a b => a.1.1 ≤ b.1.1) ∧ ∀ s, (ptsOf s (its.map Prod.fst) ++ hdOf s hd').Sublist (ptsOf s cs ++ hdOf s hd)
theorem plan_same : ∀ (its out : List (Ch × Bool)) (tk : Nat → Bool), plan tk its = some out → out.map (fun q => (q.1.1, q.1.2.1)) = its.map (fun q => (q.1.1, q.1.2.1)) ∧ out.filter (fun q => !q.2) = its.filter (fun q => !q.2) := by
  intro its
  induction its with
  | nil => intro out tk h; cases h; exact ⟨rfl, rfl⟩
  | cons q r ih =>
    intro out tk h
    unfold plan at h
    by_cases hq : q.2 = true
    · rw [if_pos hq] at h
      cases hff : ff tk (clen q.1) with
      | none => rw [hff] at h; cases h
      | some p =>
        rw [hff] at h
        dsimp only at h
        cases hp : plan (mark tk p (clen q.1)) r with
        | none => rw [hp] at h; cases h
        | some l =>
          rw [hp] at h
          cases h
          obtain ⟨h1, h2⟩ := ih l _ hp
          refine ⟨by rw [List.map_cons, List.map_cons, h1], ?_⟩
          rw [List.filter_cons_of_neg (by simp), List.filter_cons_of_neg (by simp [hq]), h2]
    · rw [if_neg hq] at h
      have hqf : q.2 = false := by simpa using hq
      cases hp : plan tk r with
      | none => rw [hp] at h; cases h
      | some l =>
        rw [hp] at h
        cases h
        obtain ⟨h1, h2⟩ := ih l _ hp
        refine ⟨by rw [List.map_cons, List.map_cons, h1], ?_⟩
        rw [List.filter_cons_of_pos (by simp [hqf]), List.filter_cons_of_pos (by simp [hqf]), h2]
def ptsK (s : Nat) (l : List (Nat × List Pt)) : List Pt := (l.filter (fun q => q.1 == s)).flatMap (fun q => q.2)
theorem pts_key (s : Nat) : ∀ (l : List (Ch × Bool)), ptsOf s (l.map Prod.fst) = ptsK s (l.map (fun q => (q.1.1, q.1.2.1))) := by
  intro l
  induction l with
  | nil => rfl
  | cons q l ih =>
    unfold ptsOf ptsK at *
    rw [List.map_cons, List.map_cons]
    by_cases h : q.1.1 = s
    · rw [List.filter_cons_of_pos (by simpa using h), List.filter_cons_of_pos (by simpa using h), List.flatMap_cons, List.flatMap_cons, ih]
    · rw [List.filter_cons_of_neg (by simpa using h), List.filter_cons_of_neg (by simpa using h), ih]
theorem turn_sem {f : Nat → Int32} {wd wl : Int32} {e e' sd N most : Nat} {cs : List Ch} {hd hd' : List Hd} {its : List (Ch × Bool)} (hD : DOk f e sd cs hd) (hS : SOk N most cs hd) (hw : wl = -1 ∨ 0 ≤ wl) (he : (e' = e ∧ hd' = hd) ∨ (e' = e + 1 ∧ hd' = [])) (hee : e' ≤ 100000) (hI : itOk N most cs hd hd' its) (hhd : ∀ h ∈ hd', h.1 < N) :
    pwOk (tR cs sd e' its wd wl 0 f).2.2.1 (tR cs sd e' its wd wl 0 f).2.2.2.1 ∧
    ((tR cs sd e' its wd wl 0 f).1 ≠ 0 → DOk (tR cs sd e' its wd wl 0 f).2.2.2.2 e sd cs hd) ∧
    (∀ out, its.length ≤ 96 → plan (tkOf cs) its = some out → (wrs (tWr sd e' out) wd wl 0 f).1 = true → DOk (tR cs sd e' its wd wl 0 f).2.2.2.2 e' (1 - sd) (out.map Prod.fst) hd' ∧ SOk N most (out.map Prod.fst) hd') := by
  obtain ⟨i1, i2, i3, i4⟩ := hI
  have key : ∀ out, its.length ≤ 96 → plan (tkOf cs) its = some out → (∀ q ∈ turnW (ix (1 - sd)) out, dead sd cs hd q.1) := fun out h96 hp => by
    obtain ⟨p1, p2, p3, p4⟩ := plan_ok _ _ _ hp
    exact turnW_dead hD.2.1 hD.2.2.2.1 hS (by omega) p3
  by_cases hbad : plan (tkOf cs) its = none ∨ 96 < its.length
  · rw [tR_bad hbad]
    refine ⟨⟨hw, Or.inl rfl⟩, fun _ => hD, fun out h96 hp _ => ?_⟩
    rcases hbad with q | q
    · rw [hp] at q; cases q
    · omega
  · have h96 : its.length ≤ 96 := by
      apply Nat.le_of_not_lt
      exact fun q => hbad (Or.inr q)
    cases hp : plan (tkOf cs) its with
    | none => exact absurd (Or.inl hp) hbad
    | some out =>
      rw [tR_ok hp h96]
      obtain ⟨p1, p2, p3, p4⟩ := plan_ok _ _ _ hp
      obtain ⟨k1, k2⟩ := plan_same _ _ _ hp
      have hpw := wrs_pw (tWr sd e' out) wd wl 0 f hw rfl
      refine ⟨hpw.1, fun hne => ?_, fun o _ ho hok => ?_⟩
      · have hf : (wrs (tWr sd e' out) wd wl 0 f).1 = false := by
          cases h : (wrs (tWr sd e' out) wd wl 0 f).1 with
          | false => rfl
          | true => rw [h] at hne; exact absurd rfl hne
        show DOk (wrs (tWr sd e' out) wd wl 0 f).2.2.2.2 e sd cs hd
        unfold tWr at hf ⊢
        rw [wrs_fail hf]
        exact wrs_DOk _ _ _ _ _ hD (key out h96 hp)
      · cases ho
        have hsub : ((out.filter (fun q => !q.2)).map Prod.fst).Sublist cs := by rw [k2]; exact i2
        constructor
        · show DOk (wrs (tWr sd e' out) wd wl 0 f).2.2.2.2 e' (1 - sd) (out.map Prod.fst) hd'
          unfold tWr at hok ⊢
          obtain ⟨q1, q2⟩ := wrs_last hok
          rw [q2, wrs_full _ _ _ _ _ q1]
          exact turn_DOk hD hS (by omega) he hee p3 p4 (fun q hq hb => hsub.mem (List.mem_map.mpr ⟨q, List.mem_filter.mpr ⟨hq, by simp [hb]⟩, rfl⟩))
        · have hpts : ∀ s, ptsOf s (out.map Prod.fst) = ptsOf s (its.map Prod.fst) := fun s => by rw [pts_key, pts_key, k1]
          refine ⟨fun c hc => ?_, out_apart hS p3 p4 hsub, ?_, hhd, fun s => ?_⟩
          · obtain ⟨q, hq, rfl⟩ := List.mem_map.mp hc
            cases hb : q.2 with
            | true =>
              obtain ⟨g1, g2, g3⟩ := p3 q hq hb
              obtain ⟨n, hn, rfl⟩ : ∃ n, n < out.length ∧ q = out.getD n cb0 := by
                obtain ⟨n, hn, e0⟩ := List.getElem_of_mem hq
                refine ⟨n, hn, ?_⟩
                rw [List.getD_eq_getElem?_getD, List.getElem?_eq_getElem hn, ← e0]
                rfl
              obtain ⟨r1, r2, r3, r4⟩ := p2 n (by omega)
              have hin := i1 _ (gd_mem cb0 (show n < its.length by omega)) (by rw [← r1]; exact hb)
              rw [← r2, ← r3] at hin
              exact ⟨hin.1, hin.2.1, hin.2.2, g1, g2⟩
            | false => exact hS.1 _ (hsub.mem (List.mem_map.mpr ⟨q, List.mem_filter.mpr ⟨hq, by simp [hb]⟩, rfl⟩))
          · have h1 : (its.map (fun q => (q.1.1, q.1.2.1))).Pairwise (fun a b => a.1 ≤ b.1) := by rw [List.pairwise_map]; exact i3
            rw [← k1, List.pairwise_map] at h1
            rw [List.pairwise_map]
            exact h1
          · rw [hpts s]
            exact (hS.2.2.2.2 s).sublist (i4 s)
/-! the items of flush, expire, compact are such -/
theorem ptsOf_app (s : Nat) (a b : List Ch) : ptsOf s (a ++ b) = ptsOf s a ++ ptsOf s b := by
  unfold ptsOf
  rw [List.filter_append, List.flatMap_append]
theorem ptsOf_sub {s : Nat} {a b : List Ch} (h : a.Sublist b) : (ptsOf s a).Sublist (ptsOf s b) := by
  induction h with
  | slnil => exact List.Sublist.refl _
  | cons x h ih =>
    rename_i l1 l2
    rw [show x :: l2 = [x] ++ l2 from rfl, ptsOf_app]
    exact ih.trans (List.sublist_append_right _ _)
  | cons_cons x h ih =>
    rename_i l1 l2
    rw [show x :: l2 = [x] ++ l2 from rfl, show x :: l1 = [x] ++ l1 from rfl, ptsOf_app, ptsOf_app]
    exact List.Sublist.append (List.Sublist.refl _) ih
theorem ptsOf_all {s : Nat} {l : List Ch} (h : ∀ c ∈ l, c.1 = s) : ptsOf s l = fpts l := by
  unfold ptsOf fpts
  rw [List.filter_eq_self.mpr (fun c hc => by simpa using h c hc)]
theorem ptsOf_no {s : Nat} {l : List Ch} (h : ∀ c ∈ l, c.1 ≠ s) : ptsOf s l = [] := by
  unfold ptsOf
  rw [List.filter_eq_nil_iff.mpr (fun c hc => by simpa using h c hc)]
  rfl
theorem kept_fst (l : List Ch) : (kept l).map Prod.fst = l := by
  unfold kept
  rw [List.map_map]
  exact List.map_id' _
theorem kept_flt (l : List Ch) : (kept l).filter (fun q => !q.2) = kept l := List.filter_eq_self.mpr (fun q hq => by
  unfold kept at hq
  obtain ⟨c, -, rfl⟩ := List.mem_map.mp hq
  rfl)
theorem mk_flt (s : Nat) (l : List (List Pt)) : (l.map (mkN s)).filter (fun q => !q.2) = [] := List.filter_eq_nil_iff.mpr (fun q hq => by
  obtain ⟨c, -, rfl⟩ := List.mem_map.mp hq
  simp [mkN])
theorem exI_ok {N most : Nat} {cs : List Ch} {hd : List Hd} (hS : SOk N most cs hd) (b : Int32) : itOk N most cs hd hd (exI b cs) := by
  have hs : (cs.filter (keeps b)).Sublist cs := List.filter_sublist
  refine ⟨fun q hq hb => ?_, ?_, ?_, fun s => ?_⟩
  · unfold exI kept at hq
    obtain ⟨c, -, rfl⟩ := List.mem_map.mp hq
    cases hb
  · unfold exI
    rw [kept_flt, kept_fst]
    exact hs
  · unfold exI kept
    rw [List.pairwise_map]
    exact hS.2.2.1.sublist hs
  · unfold exI
    rw [kept_fst]
    exact List.Sublist.append (ptsOf_sub hs) (List.Sublist.refl _)
theorem ge_split {cs : List Ch} (h : cs.Pairwise (fun a b => a.1 ≤ b.1)) (s : Nat) : cs.filter (fun c => decide (s ≤ c.1)) = cs.filter (fun c => c.1 == s) ++ cs.filter (fun c => decide (s + 1 ≤ c.1)) := by
  obtain ⟨A, B, C, e1, a1, a2, a3, a4, a5, a6⟩ := segs h s
  rw [a6]
  rw [e1]
  rw [List.filter_append, List.filter_append, List.filter_append, List.filter_append]
  rw [List.filter_eq_nil_iff.mpr (fun c hc => by have := a1 c hc; simp; omega : ∀ c ∈ A, ¬ (decide (s ≤ c.1)) = true), List.filter_eq_self.mpr (fun c hc => by have := a2 c hc; simp; omega : ∀ c ∈ B, decide (s ≤ c.1) = true), List.filter_eq_self.mpr (fun c hc => by have := a3 c hc; simp; omega : ∀ c ∈ C, decide (s ≤ c.1) = true)]
  rw [List.filter_eq_nil_iff.mpr (fun c hc => by have := a1 c hc; simp; omega : ∀ c ∈ A, ¬ (decide (s + 1 ≤ c.1)) = true), List.filter_eq_nil_iff.mpr (fun c hc => by have := a2 c hc; simp; omega : ∀ c ∈ B, ¬ decide (s + 1 ≤ c.1) = true), List.filter_eq_self.mpr (fun c hc => by have := a3 c hc; simp; omega : ∀ c ∈ C, decide (s + 1 ≤ c.1) = true)]
  simp
theorem fpts_mk (s : Nat) (l : List (List Pt)) : fpts ((l.map (mkN s)).map Prod.fst) = l.flatten := by
  induction l with
  | nil => rfl
  | cons a l ih =>
    rw [List.map_cons, List.map_cons, List.flatten_cons, ← ih]
    unfold fpts
    rw [List.flatMap_cons]
    rfl
theorem flI_ok {N m : Nat} (hm : 1 ≤ m) {cs : List Ch} {hd : List Hd} (hsort : cs.Pairwise (fun a b => a.1 ≤ b.1)) : ∀ (r s : Nat), r + s = N → (∀ c ∈ cs, c.1 < N) →
    (∀ q ∈ flI m cs hd s r, s ≤ q.1.1 ∧ (q.2 = true → q.1.1 < N ∧ 1 ≤ q.1.2.1.length ∧ q.1.2.1.length ≤ m)) ∧ ((flI m cs hd s r).filter (fun q => !q.2)).map Prod.fst = cs.filter (fun c => decide (s ≤ c.1)) ∧ (flI m cs hd s r).Pairwise (fun a b => a.1.1 ≤ b.1.1) ∧ ∀ s', ptsOf s' ((flI m cs hd s r).map Prod.fst) = if s ≤ s' ∧ s' < N then ptsOf s' cs ++ hdOf s' hd else [] := by
  intro r
  induction r with
  | zero =>
    intro s hs hcN
    refine ⟨fun q hq => by simp [flI] at hq, ?_, List.Pairwise.nil, fun s' => ?_⟩
    · have e0 : cs.filter (fun c => decide (s ≤ c.1)) = [] := List.filter_eq_nil_iff.mpr (fun c hc => by have := hcN c hc; simp; omega)
      rw [e0]
      rfl
    · rw [if_neg (by omega)]; rfl
  | succ r ih =>
    intro s hs hcN
    obtain ⟨h1, h2, h3, h4⟩ := ih (s + 1) (by omega) hcN
    have e0 : flI m cs hd s (r + 1) = (kept (cs.filter (fun c => c.1 == s)) ++ (toCh m [] (hdOf s hd)).map (mkN s)) ++ flI m cs hd (s + 1) r := rfl
    have hblk : ∀ q ∈ kept (cs.filter (fun c => c.1 == s)) ++ (toCh m [] (hdOf s hd)).map (mkN s), q.1.1 = s ∧ (q.2 = true → q.1.1 < N ∧ 1 ≤ q.1.2.1.length ∧ q.1.2.1.length ≤ m) := by
      intro q hq
      rcases List.mem_append.mp hq with hq | hq
      · unfold kept at hq
        obtain ⟨c, hc, rfl⟩ := List.mem_map.mp hq
        exact ⟨by simpa using (List.mem_filter.mp hc).2, fun q => (nomatch q)⟩
      · obtain ⟨ps, hps, rfl⟩ := List.mem_map.mp hq
        have := toCh_mem hm (hdOf s hd) [] (by simp) ps hps
        exact ⟨rfl, fun _ => ⟨show s < N by omega, this⟩⟩
    rw [e0]
    refine ⟨fun q hq => ?_, ?_, ?_, fun s' => ?_⟩
    · rcases List.mem_append.mp hq with hq | hq
      · have := hblk q hq
        exact ⟨by omega, this.2⟩
      · have := h1 q hq
        exact ⟨by omega, this.2⟩
    · rw [List.filter_append, List.filter_append, kept_flt, mk_flt, List.append_nil, List.map_append, kept_fst, h2, ge_split hsort s]
    · rw [List.pairwise_append]
      refine ⟨?_, h3, fun a ha b hb => ?_⟩
      · exact List.pairwise_of_forall_mem_list (fun a ha b hb => by have := (hblk a ha).1; have := (hblk b hb).1; omega)
      · have := (hblk a ha).1
        have := (h1 b hb).1
        omega
    · rw [List.map_append, ptsOf_app, h4 s']
      by_cases hss : s' = s
      · subst hss
        rw [if_neg (by omega), if_pos (by omega), List.append_nil, ptsOf_all (fun c hc => by
          obtain ⟨q, hq, rfl⟩ := List.mem_map.mp hc
          exact (hblk q hq).1)]
        rw [List.map_append, kept_fst]
        have : ∀ a b : List Ch, fpts (a ++ b) = fpts a ++ fpts b := fun a b => by unfold fpts; rw [List.flatMap_append]
        rw [this, fpts_mk, toCh_flat, List.nil_append]
        rfl
      · rw [ptsOf_no (fun c hc => by
          obtain ⟨q, hq, rfl⟩ := List.mem_map.mp hc
          have := (hblk q hq).1
          omega), List.nil_append]
        by_cases h5 : s + 1 ≤ s' ∧ s' < N
        · rw [if_pos h5, if_pos (by omega)]
        · rw [if_neg h5, if_neg (by omega)]
theorem fl_itOk {N m : Nat} (hm : 1 ≤ m) {cs : List Ch} {hd : List Hd} (hS : SOk N m cs hd) : itOk N m cs hd [] (flI m cs hd 0 N) ∧ ((flI m cs hd 0 N).filter (fun q => !q.2)).map Prod.fst = cs := by
  obtain ⟨h1, h2, h3, h4⟩ := flI_ok (N := N) hm hS.2.2.1 (hd := hd) N 0 (by omega) (fun c hc => (hS.1 c hc).1)
  have e0 : cs.filter (fun c => decide (0 ≤ c.1)) = cs := List.filter_eq_self.mpr (fun c hc => by simp)
  rw [e0] at h2
  refine ⟨⟨fun q hq => (h1 q hq).2, by rw [h2]; exact List.Sublist.refl _, h3, fun s => ?_⟩, h2⟩
  rw [h4 s]
  split
  · have : hdOf s [] = [] := rfl
    rw [this, List.append_nil]
    exact List.Sublist.refl _
  · exact List.nil_sublist _
theorem len_split (its : List (Ch × Bool)) : its.length = ((its.filter (fun q => !q.2)).map Prod.fst).length + nNew its := by
  unfold nNew
  rw [List.length_map]
  induction its with
  | nil => rfl
  | cons q l ih =>
    cases h : q.2 with
    | true => rw [List.filter_cons_of_neg (by simp [h]), List.filter_cons_of_pos (p := fun q : Ch × Bool => q.2) h, List.length_cons, List.length_cons]; omega
    | false => rw [List.filter_cons_of_pos (by simp [h]), List.filter_cons_of_neg (by simp [h]), List.length_cons, List.length_cons]; omega
