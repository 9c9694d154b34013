/-! a turned disk holds the new chunks; till the root is written it holds the old ones -/
theorem tk_false {cs : List Ch} {k : Nat} (h : tkOf cs k = false) {c : Ch} (hc : c ∈ cs) : 2435 + k < c.2.2 ∨ c.2.2 + clen c ≤ 2435 + k := by
  unfold tkOf at h
  rw [List.any_eq_false] at h
  have := h c hc
  simp at this
  omega
theorem ix_two (sd : Nat) : ix sd = 1 ∨ ix sd = 962 := by unfold ix; split <;> omega
theorem ix_other {sd : Nat} (h : sd ≤ 1) : (sd = 0 ∧ ix sd = 1 ∧ ix (1 - sd) = 962) ∨ (sd = 1 ∧ ix sd = 962 ∧ ix (1 - sd) = 1) := by
  rcases (show sd = 0 ∨ sd = 1 by omega) with rfl | rfl
  · exact Or.inl ⟨rfl, rfl, rfl⟩
  · exact Or.inr ⟨rfl, rfl, rfl⟩
theorem news_mem {out : List (Ch × Bool)} {q : Nat × Int32} (h : q ∈ newsW out) : ∃ c, (c, true) ∈ out ∧ c.2.2 ≤ q.1 ∧ q.1 < c.2.2 + clen c := by
  unfold newsW at h
  obtain ⟨x, hx, hq⟩ := List.mem_flatMap.mp h
  rw [List.mem_filter] at hx
  have := seqW_mem hq
  refine ⟨x.1, ?_, by omega, by omega⟩
  have e : x = (x.1, true) := by
    rcases x with ⟨a, b⟩
    have : b = true := hx.2
    rw [this]
  rw [← e]
  exact hx.1
theorem turnW_dead {sd N most : Nat} {cs : List Ch} {hd : List Hd} {out : List (Ch × Bool)} (hs : sd ≤ 1) (hl : cs.length ≤ 96) (hS : SOk N most cs hd) (ho : out.length ≤ 96) (hnew : ∀ q ∈ out, q.2 = true → 2435 ≤ q.1.2.2 ∧ q.1.2.2 + clen q.1 ≤ 4096 ∧ ∀ j, j < clen q.1 → tkOf cs (q.1.2.2 - 2435 + j) = false) : ∀ q ∈ turnW (ix (1 - sd)) out, dead sd cs hd q.1 := by
  intro q hq
  have hix := ix_other hs
  unfold turnW at hq
  rcases List.mem_append.mp hq with h | h
  · obtain ⟨c, c1, c2, c3⟩ := news_mem h
    obtain ⟨n1, n2, n3⟩ := hnew _ c1 rfl
    dsimp only at n1 n2 n3
    refine ⟨by omega, by omega, fun x hx => ?_, by omega⟩
    have := tk_false (n3 (q.1 - c.2.2) (by omega)) hx
    omega
  · have h1 := seqW_mem h
    refine ⟨by omega, by omega, fun x hx => ?_, by omega⟩
    obtain ⟨-, -, -, w4, -⟩ := hS.1 x hx
    omega
theorem apart_sym {a b : Ch} (h : apart a b) : apart b a := by
  unfold apart at *
  omega
theorem app_chk {l : List Ch} : ∀ {f : Nat → Int32} {c : Ch}, l.Pairwise apart → c ∈ l → ∀ k, k < clen c → app (l.flatMap chkW) f (c.2.2 + k) = cellC c k := by
  induction l with
  | nil => intro f c _ hc; simp at hc
  | cons a l ih =>
    intro f c hp hc k hk
    obtain ⟨p1, p2⟩ := List.pairwise_cons.mp hp
    rw [List.flatMap_cons, app_app]
    rcases List.mem_cons.mp hc with rfl | hc
    · rw [app_out _ _ _ (fun q hq => ?_)]
      · exact app_seqW (by omega) (by omega)
      · obtain ⟨x, hx, hq⟩ := List.mem_flatMap.mp hq
        have h1 := seqW_mem hq
        have h2 := p1 x hx
        unfold apart at h2
        omega
    · exact ih p2 hc k hk
theorem app_news {out : List (Ch × Bool)} {f : Nat → Int32} {c : Ch} (hp : (out.filter (fun q => q.2)).Pairwise (fun a b => apart a.1 b.1)) (hc : (c, true) ∈ out) {k : Nat} (hk : k < clen c) : app (newsW out) f (c.2.2 + k) = cellC c k := by
  have e : newsW out = ((out.filter (fun q => q.2)).map Prod.fst).flatMap chkW := by
    unfold newsW
    rw [List.flatMap_map]
  rw [e]
  exact app_chk (by rw [List.pairwise_map]; exact hp) (List.mem_map.mpr ⟨(c, true), List.mem_filter.mpr ⟨hc, rfl⟩, rfl⟩) k hk
theorem gd_map {α β : Type} (g : α → β) (l : List α) (k : Nat) (d : α) (hk : k < l.length) (d' : β) : (l.map g).getD k d' = g (l.getD k d) := by
  simp only [List.getD_eq_getElem?_getD, List.getElem?_map, List.getElem?_eq_getElem hk]
  rfl
theorem turn_DOk {f : Nat → Int32} {e e' sd N most : Nat} {cs : List Ch} {hd hd' : List Hd} {out : List (Ch × Bool)} (hD : DOk f e sd cs hd) (hS : SOk N most cs hd) (ho : out.length ≤ 96) (he : (e' = e ∧ hd' = hd) ∨ (e' = e + 1 ∧ hd' = [])) (hee : e' ≤ 100000)
    (hnew : ∀ q ∈ out, q.2 = true → 2435 ≤ q.1.2.2 ∧ q.1.2.2 + clen q.1 ≤ 4096 ∧ ∀ j, j < clen q.1 → tkOf cs (q.1.2.2 - 2435 + j) = false) (hap : (out.filter (fun q => q.2)).Pairwise (fun a b => apart a.1 b.1)) (hold0 : ∀ q ∈ out, q.2 = false → q.1 ∈ cs) :
    DOk (upd (app (turnW (ix (1 - sd)) out) f) 0 (nI (2 * e' + (1 - sd)))) e' (1 - sd) (out.map Prod.fst) hd' := by
  obtain ⟨h0, hs, he0, hl, hi, hc, hg⟩ := hD
  have hdead := turnW_dead hs hl hS ho hnew
  have hix := ix_other hs
  have far : ∀ k, (1923 ≤ k ∧ k < 2435) → upd (app (turnW (ix (1 - sd)) out) f) 0 (nI (2 * e' + (1 - sd))) k = f k := by
    intro k hk
    rw [pk_un (by omega), app_out _ _ _ (fun q hq => ?_)]
    unfold turnW at hq
    rcases List.mem_append.mp hq with h | h
    · obtain ⟨c, c1, c2, c3⟩ := news_mem h
      have := hnew _ c1 rfl
      dsimp only at this
      omega
    · have := seqW_mem h
      omega
  have hidx : ∀ m, m < 1 + 10 * out.length → upd (app (turnW (ix (1 - sd)) out) f) 0 (nI (2 * e' + (1 - sd))) (ix (1 - sd) + m) = img (out.map Prod.fst) m := by
    intro m hm
    unfold turnW
    rw [pk_un (by omega), app_app]
    exact app_seqW (by omega) (by omega)
  refine ⟨pk_us, by omega, hee, by rw [List.length_map]; exact ho, ⟨?_, ?_⟩, ?_, ?_⟩
  · have := hidx 0 (by omega)
    rw [Nat.add_zero] at this
    rw [this]
    rfl
  · intro k hk j hj
    rw [List.length_map] at hk
    have := hidx (1 + 10 * k + j) (by omega)
    rw [show ix (1 - sd) + 1 + 10 * k + j = ix (1 - sd) + (1 + 10 * k + j) by omega, this]
    unfold img
    rw [if_neg (by omega), show (1 + 10 * k + j - 1) / 10 = k by omega, show (1 + 10 * k + j - 1) % 10 = j by omega]
  · intro c hcm
    obtain ⟨x, hx, rfl⟩ := List.mem_map.mp hcm
    cases hb : x.2 with
    | true =>
      obtain ⟨n1, n2, n3⟩ := hnew x hx hb
      have hx2 : (x.1, true) ∈ out := by rw [← hb]; exact hx
      apply chOk_of
      intro k hk
      unfold turnW
      rw [pk_un (by omega), app_app, app_out _ _ _ (fun q hq => by have := seqW_mem hq; omega)]
      exact app_news hap hx2 hk
    | false =>
      have hcc := hold0 x hx hb
      obtain ⟨c1, c2, c3⟩ := hc _ hcc
      obtain ⟨-, -, -, w4, w5⟩ := hS.1 _ hcc
      have out1 : ∀ k, k < clen x.1 → upd (app (turnW (ix (1 - sd)) out) f) 0 (nI (2 * e' + (1 - sd))) (x.1.2.2 + k) = f (x.1.2.2 + k) := by
        intro k hk
        rw [pk_un (by omega), app_out _ _ _ (fun q hq => ?_)]
        have := (hdead q hq).2.2.1 _ hcc
        omega
      have hcl : clen x.1 = 2 + ((encB x.1.2.1).length + 31) / 32 := rfl
      refine ⟨?_, ?_, fun j hj i hi2 => ?_⟩
      · have := out1 0 (by omega); rw [Nat.add_zero] at this; rw [this]; exact c1
      · rw [out1 1 (by omega)]; exact c2
      · rw [show x.1.2.2 + 2 + j = x.1.2.2 + (2 + j) by omega, out1 (2 + j) (by omega), show x.1.2.2 + (2 + j) = x.1.2.2 + 2 + j by omega]
        exact c3 j hj i hi2
  · obtain ⟨g1, g2, g3⟩ := hg
    rcases he with ⟨rfl, rfl⟩ | ⟨rfl, rfl⟩
    · refine ⟨g1, fun k hk j hj => ?_, fun k hk hk2 => ?_⟩
      · rw [far _ (by omega)]; exact g2 k hk j hj
      · rw [far _ (by omega)]; exact g3 k hk hk2
    · refine ⟨by simp, fun k hk => by simp at hk, fun k hk hk2 => ?_⟩
      rw [far _ (by omega)]
      by_cases hk3 : k < hd.length
      · exact ⟨e + 1, by omega, g2 k hk3 3 (by omega)⟩
      · obtain ⟨x, x1, x2⟩ := g3 k (by omega) hk2
        exact ⟨x, by omega, x2⟩
theorem pw_split {α : Type} {R : α → α → Prop} (hsym : ∀ a b, R a b → R b a) (p : α → Bool) : ∀ {l : List α}, (l.filter p).Pairwise R → (l.filter (fun a => !p a)).Pairwise R → (∀ a ∈ l, ∀ b ∈ l, p a = true → p b = false → R a b) → l.Pairwise R := by
  intro l
  induction l with
  | nil => intro _ _ _; exact List.Pairwise.nil
  | cons a l ih =>
    intro h1 h2 h3
    rw [List.pairwise_cons]
    cases ha : p a with
    | true =>
      rw [List.filter_cons_of_pos ha, List.pairwise_cons] at h1
      rw [List.filter_cons_of_neg (by simp [ha])] at h2
      refine ⟨fun b hb => ?_, ih h1.2 h2 (fun x hx y hy => h3 x (List.mem_cons_of_mem _ hx) y (List.mem_cons_of_mem _ hy))⟩
      cases hpb : p b with
      | true => exact h1.1 b (List.mem_filter.mpr ⟨hb, hpb⟩)
      | false => exact h3 a List.mem_cons_self b (List.mem_cons_of_mem _ hb) ha hpb
    | false =>
      rw [List.filter_cons_of_neg (by simp [ha])] at h1
      rw [List.filter_cons_of_pos (by simp [ha]), List.pairwise_cons] at h2
      refine ⟨fun b hb => ?_, ih h1 h2.2 (fun x hx y hy => h3 x (List.mem_cons_of_mem _ hx) y (List.mem_cons_of_mem _ hy))⟩
      cases hpb : p b with
      | true => exact hsym _ _ (h3 b (List.mem_cons_of_mem _ hb) a List.mem_cons_self hpb ha)
      | false => exact h2.1 b (List.mem_filter.mpr ⟨hb, by simp [hpb]⟩)
theorem out_apart {N most : Nat} {cs : List Ch} {hd : List Hd} {out : List (Ch × Bool)} (hS : SOk N most cs hd) (hnew : ∀ q ∈ out, q.2 = true → 2435 ≤ q.1.2.2 ∧ q.1.2.2 + clen q.1 ≤ 4096 ∧ ∀ j, j < clen q.1 → tkOf cs (q.1.2.2 - 2435 + j) = false) (hap : (out.filter (fun q => q.2)).Pairwise (fun a b => apart a.1 b.1)) (hsub : ((out.filter (fun q => !q.2)).map Prod.fst).Sublist cs) : (out.map Prod.fst).Pairwise apart := by
  rw [List.pairwise_map]
  refine pw_split (R := fun a b : Ch × Bool => apart a.1 b.1) (fun a b h => apart_sym h) (fun q => q.2) hap ?_ ?_
  · have := hS.2.1.sublist hsub
    rw [List.pairwise_map] at this
    exact this
  · intro a ha b hb h1 h2
    obtain ⟨n1, n2, n3⟩ := hnew a ha h1
    have hbc : b.1 ∈ cs := hsub.mem (List.mem_map.mpr ⟨b, List.mem_filter.mpr ⟨hb, by simp [h2]⟩, rfl⟩)
    have hcl := clen_ge b.1
    have hca := clen_ge a.1
    obtain ⟨-, -, -, w4, w5⟩ := hS.1 _ hbc
    unfold apart
    by_cases hlt : a.1.2.2 + clen a.1 ≤ b.1.2.2
    · exact Or.inl hlt
    · right
      by_cases hgt : b.1.2.2 + clen b.1 ≤ a.1.2.2
      · exact hgt
      · exfalso
        by_cases ho : a.1.2.2 < b.1.2.2
        · have := tk_false (n3 (b.1.2.2 - a.1.2.2) (by omega)) hbc
          omega
        · have := tk_false (n3 0 (by omega)) hbc
          omega
