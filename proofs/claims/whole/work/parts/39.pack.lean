/-! the class's Turn: pack and seal -/
theorem addPoint_0 (a b c d : Int32) (t v : Int32) : m_X6_addPoint a b 0 c d 0 t v = some (t, t, nI 1, v, v, v.toInt64) := by
  rw [m_X6_addPoint, m_X6_add, if_pos rfl, ob1_mk, if_neg (by decide), ob1_mk, if_neg (by decide), ob1_mk, if_neg (by decide), ob1_mk, ob6_mk, show (0 : Int64) + v.toInt64 = v.toInt64 from Int64.zero_add _]
  rfl
theorem ps_ne {ps : List Pt} (h : 1 ≤ ps.length) : ∃ q r, ps = q :: r := by
  cases ps with
  | nil => simp at h
  | cons q r => exact ⟨q, r, rfl⟩
theorem pfst_snoc {ps : List Pt} (h : 1 ≤ ps.length) (q : Pt) : pfst (ps ++ [q]) = pfst ps := by
  obtain ⟨x, r, rfl⟩ := ps_ne h
  rfl
theorem plst_snoc (ps : List Pt) (q : Pt) : plst (ps ++ [q]) = q.1 := by
  unfold plst
  rw [List.length_append, List.length_singleton, Nat.add_sub_cancel, gd_app2 ps q _ _ (by omega), if_pos rfl]
theorem pmin_snoc {ps : List Pt} (h : 1 ≤ ps.length) (q : Pt) : pmin (ps ++ [q]) = if q.2 < pmin ps then q.2 else pmin ps := by
  obtain ⟨x, r, rfl⟩ := ps_ne h
  show minF x.2 (r ++ [q]) = _
  unfold minF
  rw [List.foldl_append]
  rfl
theorem pmax_snoc {ps : List Pt} (h : 1 ≤ ps.length) (q : Pt) : pmax (ps ++ [q]) = if pmax ps < q.2 then q.2 else pmax ps := by
  obtain ⟨x, r, rfl⟩ := ps_ne h
  show maxF x.2 (r ++ [q]) = _
  unfold maxF
  rw [List.foldl_append]
  rfl
theorem psum_snoc (ps : List Pt) (q : Pt) : psum (ps ++ [q]) = psum ps + q.2.toInt64 := by
  unfold psum sumF
  rw [List.foldl_append]
  rfl
theorem addPoint_C {ps : List Pt} (h : 1 ≤ ps.length) (hl : ps.length < 100000) (q : Pt) : m_X6_addPoint (pfst ps) (plst ps) (nI ps.length) (pmin ps) (pmax ps) (psum ps) q.1 q.2 = some (pfst (ps ++ [q]), plst (ps ++ [q]), nI (ps ++ [q]).length, pmin (ps ++ [q]), pmax (ps ++ [q]), psum (ps ++ [q])) := by
  rw [m_X6_addPoint, m_X6_add, if_neg (nI_ne0 (by omega) (by omega)), ob1_mk, if_pos rfl, ob1_mk, if_pos rfl, ob1_mk, if_pos rfl, ob1_mk, ob6_mk, pfst_snoc h, plst_snoc, pmin_snoc h, pmax_snoc h, psum_snoc, nI_1, List.length_append, List.length_singleton]
def lstR : Int64 → Int32 → Int32 → List Pt → Int64 × Int32 × Int32
  | rise, t, v, [] => (rise, t, v)
  | _, t, _, q :: r => lstR (q.1.toInt64 - t.toInt64) q.1 q.2 r
theorem encR_snoc : ∀ (r : List Pt) (rise : Int64) (t v : Int32) (q : Pt), encR rise t v (r ++ [q]) = encR rise t v r ++ (encS ((q.1.toInt64 - (lstR rise t v r).2.1.toInt64) - (lstR rise t v r).1) ++ encV (q.2 - (lstR rise t v r).2.2)) := by
  intro r
  induction r with
  | nil => intro rise t v q; simp [encR, lstR]
  | cons x r ih =>
    intro rise t v q
    rw [List.cons_append, encR_cons, encR_cons, ih]
    simp only [lstR, List.append_assoc]
theorem lstR_snoc : ∀ (r : List Pt) (rise : Int64) (t v : Int32) (q : Pt), lstR rise t v (r ++ [q]) = (q.1.toInt64 - (lstR rise t v r).2.1.toInt64, q.1, q.2) := by
  intro r
  induction r with
  | nil => intro rise t v q; rfl
  | cons x r ih => intro rise t v q; exact ih _ _ _ _
def kst : List Pt → Int64 × Int32 × Int32
  | [] => (0, 0, 0)
  | q :: r => lstR 0 q.1 q.2 r
theorem encB_snoc {ps : List Pt} (h : 1 ≤ ps.length) (q : Pt) : encB (ps ++ [q]) = encB ps ++ (encS ((q.1.toInt64 - (kst ps).2.1.toInt64) - (kst ps).1) ++ encV (q.2 - (kst ps).2.2)) := by
  obtain ⟨x, r, rfl⟩ := ps_ne h
  exact encR_snoc r 0 x.1 x.2 q
theorem kst_snoc {ps : List Pt} (h : 1 ≤ ps.length) (q : Pt) : kst (ps ++ [q]) = (q.1.toInt64 - (kst ps).2.1.toInt64, q.1, q.2) := by
  obtain ⟨x, r, rfl⟩ := ps_ne h
  exact lstR_snoc r 0 x.1 x.2 q
theorem TSok_base {out : List (Ch × Bool)} {im pf kc kc' : Nat → Int32} {U : Nat} (h : TSok out im pf kc U) (hk : ∀ j, j < U → kc' j = kc j) : TSok out im pf kc' U := by
  refine ⟨h.1, fun k hk2 => ⟨(h.2 k hk2).1, fun hb => ?_⟩⟩
  obtain ⟨o, o1, o2, o3⟩ := (h.2 k hk2).2 hb
  exact ⟨o, o1, o2, fun m hm => by rw [hk _ (by omega)]; exact o3 m hm⟩
def TC (tk0 : Nat → Bool) (its : List (Ch × Bool)) (tc la ku kf : Int32) (im pf ta kc : Nat → Int32) : Prop :=
  (∃ out, plan tk0 its = some out ∧ its.length ≤ 96 ∧ tc = nI its.length ∧ la = 0 ∧ kf = 0 ∧ ku = nI (newLen out) ∧ TSok out im pf kc (newLen out) ∧ tkA ta (marks tk0 out)) ∨
  ((plan tk0 its = none ∨ 96 < its.length) ∧ la = 1 ∧ (∃ c, c ≤ 96 ∧ tc = nI c) ∧ (kf = 0 ∨ kf = 1) ∧ (∃ u, u ≤ 1661 ∧ ku = nI u) ∧ ∃ tk, tkA ta tk)
def TO (tk0 : Nat → Bool) (its : List (Ch × Bool)) (ps : List Pt) (tc of la ku kb kf : Int32) (im pf ta kc : Nat → Int32) : Prop :=
  (∃ (out : List (Ch × Bool)) (base : Nat → Int32), plan tk0 its = some out ∧ its.length ≤ 96 ∧ tc = nI its.length ∧ la = 0 ∧ of = nI (newLen out) ∧ PkS (newLen out + 2) (encB ps) base ku kb kf kc ∧ base (newLen out) = (ps.getD 0 (0, 0)).1 ∧ base (newLen out + 1) = (ps.getD 0 (0, 0)).2 ∧ TSok out im pf base (newLen out) ∧ tkA ta (marks tk0 out)) ∨
  ((plan tk0 its = none ∨ 96 < its.length) ∧ la = 1 ∧ (∃ c, c ≤ 96 ∧ tc = nI c) ∧ (∃ tk, tkA ta tk) ∧ (pkF ku kb kf ∨ ∃ (U : Nat) (base : Nat → Int32), U ≤ 1661 ∧ of = nI U ∧ PkS (U + 2) (encB ps) base ku kb kf kc))
theorem packFirst_C {U : Nat} (hU : U ≤ 1661) (kb kt kv : Int32) (kr : Int64) (cells : Nat → Int32) (t v : Int32) : ∃ (u' f' : Int32) (c' : Nat → Int32), m_X5_packFirst (nI U) kb 0 kt kv kr cells t v = some (u', 0, f', t, v, 0, c') ∧ PkS (U + 2) [] (upd (upd cells U t) (U + 1) v) u' 0 f' c' := by
  rw [m_X5_packFirst]
  by_cases h1 : U < 1661
  · rw [addCell_ok 0 cells t h1, ob3_mk]
    by_cases h2 : U + 1 < 1661
    · rw [addCell_ok 0 _ v h2, ob3_mk]
      refine ⟨_, _, _, rfl, Or.inl ⟨by simp; omega, ⟨rfl, rfl, by simp; omega, rfl, hold_nil _ _⟩, fun _ _ => rfl⟩⟩
    · rw [show U + 1 = 1661 by omega, addCell_full, ob3_mk]
      exact ⟨_, _, _, rfl, Or.inr ⟨by simp; omega, rfl, ⟨1661, by omega, rfl⟩, 0, by omega, rfl⟩⟩
  · rw [show U = 1661 by omega, addCell_full, ob3_mk, addCell_full, ob3_mk]
    exact ⟨_, _, _, rfl, Or.inr ⟨by simp, rfl, ⟨1661, by omega, rfl⟩, 0, by omega, rfl⟩⟩
theorem packFirst_F {U : Nat} (hU : U ≤ 1661) (kb kt kv : Int32) (kr : Int64) (cells : Nat → Int32) (t v : Int32) : ∃ (u' f' : Int32) (c' : Nat → Int32), m_X5_packFirst (nI U) kb 1 kt kv kr cells t v = some (u', 0, f', t, v, 0, c') ∧ pkF u' 0 f' := by
  rw [m_X5_packFirst]
  by_cases h1 : U < 1661
  · rw [addCell_ok 1 cells t h1, ob3_mk]
    by_cases h2 : U + 1 < 1661
    · rw [addCell_ok 1 _ v h2, ob3_mk]
      exact ⟨_, _, _, rfl, rfl, ⟨U + 1 + 1, by omega, rfl⟩, 0, by omega, rfl⟩
    · rw [show U + 1 = 1661 by omega, addCell_full, ob3_mk]
      exact ⟨_, _, _, rfl, rfl, ⟨1661, by omega, rfl⟩, 0, by omega, rfl⟩
  · rw [show U = 1661 by omega, addCell_full, ob3_mk, addCell_full, ob3_mk]
    exact ⟨_, _, _, rfl, rfl, ⟨1661, by omega, rfl⟩, 0, by omega, rfl⟩
theorem pack1_C {tk0 : Nat → Bool} {its : List (Ch × Bool)} {tc la ku kf : Int32} {im pf ta kc : Nat → Int32} (h : TC tk0 its tc la ku kf im pf ta kc) (of kb kt kv o1 o2 o4 o5 : Int32) (kr : Int64) (q : Pt) :
    ∃ (of' ku' kf' : Int32) (kc' : Nat → Int32), m_X7_pack of ku kb kf kt kv kr kc o1 o2 0 o4 o5 0 q.1 q.2 = some (of', ku', 0, kf', q.1, q.2, 0, kc', pfst [q], plst [q], nI [q].length, pmin [q], pmax [q], psum [q]) ∧ TO tk0 its [q] tc of' la ku' 0 kf' im pf ta kc' := by
  have ep : psum [q] = q.2.toInt64 := by
    show (0 : Int64) + q.2.toInt64 = _
    exact Int64.zero_add _
  rw [m_X7_pack, if_pos rfl, m_X5_used, ob1_mk]
  rcases h with ⟨out, h1, h2, h3, h4, rfl, rfl, h7, h8⟩ | ⟨h1, h2, h3, h4, ⟨u, hu, rfl⟩, h6⟩
  · obtain ⟨u', f', c', e, hS⟩ := packFirst_C (newLen_le h1) kb kt kv kr kc q.1 q.2
    rw [e, ob7_mk, ob8_mk, addPoint_0, ob6_mk]
    refine ⟨_, u', f', c', by rw [ep]; rfl, Or.inl ⟨out, _, h1, h2, h3, h4, rfl, hS, ?_, pk_us, TSok_base h7 (fun j hj => by rw [pk_un (by omega), pk_un (by omega)]), h8⟩⟩
    rw [pk_un (by omega), pk_us]
    rfl
  · rcases h4 with rfl | rfl
    · obtain ⟨u', f', c', e, hS⟩ := packFirst_C hu kb kt kv kr kc q.1 q.2
      rw [e, ob7_mk, ob8_mk, addPoint_0, ob6_mk]
      exact ⟨_, u', f', c', by rw [ep]; rfl, Or.inr ⟨h1, h2, h3, h6, Or.inr ⟨u, _, hu, rfl, hS⟩⟩⟩
    · obtain ⟨u', f', c', e, hS⟩ := packFirst_F hu kb kt kv kr kc q.1 q.2
      rw [e, ob7_mk, ob8_mk, addPoint_0, ob6_mk]
      exact ⟨_, u', f', c', by rw [ep]; rfl, Or.inr ⟨h1, h2, h3, h6, Or.inl hS⟩⟩
theorem further_F {ku kb kf : Int32} {kc : Nat → Int32} (h : pkF ku kb kf) (kt kv : Int32) (kr : Int64) (t v : Int32) : ∃ (u' b' f' : Int32) (c' : Nat → Int32), m_X5_packFurther ku kb kf kt kv kr kc t v = some (u', b', f', t, v, t.toInt64 - kt.toInt64, c') ∧ pkF u' b' f' := by
  -- a full packer is one whose bits have passed the area, wherever they began
  have hS : PkS 1662 [] kc ku kb kf kc := Or.inr ⟨by simp, h⟩
  obtain ⟨u', b', f', c', e, h2⟩ := packFurther_S hS kt kv kr t v (by simp)
  refine ⟨u', b', f', c', e, ?_⟩
  rcases h2 with ⟨q1, -, -⟩ | ⟨-, q2⟩
  · omega
  · exact q2
theorem pack2_C {tk0 : Nat → Bool} {its : List (Ch × Bool)} {ps : List Pt} {tc of la ku kb kf : Int32} {im pf ta kc : Nat → Int32} (h : TO tk0 its ps tc of la ku kb kf im pf ta kc) (hp1 : 1 ≤ ps.length) (hp2 : ps.length < 64) (q : Pt) :
    ∃ (ku' kb' kf' : Int32) (kc' : Nat → Int32), m_X7_pack of ku kb kf (kst ps).2.1 (kst ps).2.2 (kst ps).1 kc (pfst ps) (plst ps) (nI ps.length) (pmin ps) (pmax ps) (psum ps) q.1 q.2 = some (of, ku', kb', kf', (kst (ps ++ [q])).2.1, (kst (ps ++ [q])).2.2, (kst (ps ++ [q])).1, kc', pfst (ps ++ [q]), plst (ps ++ [q]), nI (ps ++ [q]).length, pmin (ps ++ [q]), pmax (ps ++ [q]), psum (ps ++ [q])) ∧ TO tk0 its (ps ++ [q]) tc of la ku' kb' kf' im pf ta kc' := by
  have hlen := encB_len ps (by omega)
  have g0 : (ps ++ [q]).getD 0 (0, 0) = ps.getD 0 (0, 0) := by rw [gd_app2 ps q _ 0 (by omega), if_neg (by omega)]
  rw [m_X7_pack, if_neg (nI_ne0 (by omega) (by omega)), kst_snoc hp1]
  rcases h with ⟨out, base, h1, h2, h3, h4, h5, h6, h7, h8, h9, h10⟩ | ⟨h1, h2, h3, h4, h5 | ⟨U, base, h5, h6, h7⟩⟩
  · obtain ⟨u', b', f', c', e, hS⟩ := packFurther_S h6 (kst ps).2.1 (kst ps).2.2 (kst ps).1 q.1 q.2 (by omega)
    rw [e, ob7_mk, ob8_mk, addPoint_C hp1 (by omega), ob6_mk]
    rw [← encB_snoc hp1] at hS
    exact ⟨u', b', f', c', rfl, Or.inl ⟨out, base, h1, h2, h3, h4, h5, hS, by rw [g0]; exact h7, by rw [g0]; exact h8, h9, h10⟩⟩
  · obtain ⟨u', b', f', c', e, hS⟩ := further_F (kc := kc) h5 (kst ps).2.1 (kst ps).2.2 (kst ps).1 q.1 q.2
    rw [e, ob7_mk, ob8_mk, addPoint_C hp1 (by omega), ob6_mk]
    exact ⟨u', b', f', c', rfl, Or.inr ⟨h1, h2, h3, h4, Or.inl hS⟩⟩
  · obtain ⟨u', b', f', c', e, hS⟩ := packFurther_S h7 (kst ps).2.1 (kst ps).2.2 (kst ps).1 q.1 q.2 (by omega)
    rw [e, ob7_mk, ob8_mk, addPoint_C hp1 (by omega), ob6_mk]
    rw [← encB_snoc hp1] at hS
    exact ⟨u', b', f', c', rfl, Or.inr ⟨h1, h2, h3, h4, Or.inr ⟨U, base, h5, h6, hS⟩⟩⟩
theorem addEntry_C {c : Nat} (hc : c < 96) (of a1 a2 a3 a4 a5 : Int32) (sm : Int64) (im pf : Nat → Int32) (x pl len : Int32) : ∃ im' : Nat → Int32, m_X7_addEntry (nI c) of a1 a2 a3 a4 a5 sm im pf x pl len = some (nI (c + 1), im', upd pf c of) ∧ im' (1 + 10 * c) = x ∧ im' (1 + 10 * c + 1) = a1 ∧ im' (1 + 10 * c + 2) = a2 ∧ im' (1 + 10 * c + 3) = a3 ∧ im' (1 + 10 * c + 4) = a4 ∧ im' (1 + 10 * c + 5) = a5 ∧ im' (1 + 10 * c + 6) = Int64.toInt32 (sm >>> (Int32.toInt64 (32 : Int32) &&& 63)) ∧ im' (1 + 10 * c + 7) = Int64.toInt32 sm ∧ im' (1 + 10 * c + 8) = pl ∧ im' (1 + 10 * c + 9) = len ∧ ∀ k, k < 1 + 10 * c → im' k = im k := by
  have e0 : (1 : Int32) + nI c * (10 : Int32) = nI (1 + 10 * c) := by rw [show (10 : Int32) = nI 10 from rfl, pk_mul, show (1 : Int32) = nI 1 from rfl, nI_add, Nat.mul_comm]
  have ej : ∀ j : Nat, nI (1 + 10 * c) + nI j = nI (1 + 10 * c + j) := fun j => nI_add _ j
  have hin : ∀ {γ : Type} (j : Nat) (y : Option γ), j < 10 → ckb (nI (1 + 10 * c + j)) 961 y = y := fun j y hj => ckb_in y (by omega) (by omega)
  have hcl : ∀ j : Nat, j < 10 → Int32.toNatClampNeg (nI (1 + 10 * c + j)) = 1 + 10 * c + j := fun j hj => nI_clamp (by omega)
  rw [m_X7_addEntry, e0, show (0 : Int32) = nI 0 from rfl, show (2 : Int32) = nI 2 from rfl, show (3 : Int32) = nI 3 from rfl, show (4 : Int32) = nI 4 from rfl, show (5 : Int32) = nI 5 from rfl, show (6 : Int32) = nI 6 from rfl, show (7 : Int32) = nI 7 from rfl, show (8 : Int32) = nI 8 from rfl, show (9 : Int32) = nI 9 from rfl, show nI (1 + 10 * c) + (1 : Int32) = nI (1 + 10 * c + 1) from nI_1 _, ej, ej, ej, ej, ej, ej, ej, ej, ej]
  rw [hin 0 _ (by omega), hin 1 _ (by omega), hin 2 _ (by omega), hin 3 _ (by omega), hin 4 _ (by omega), hin 5 _ (by omega), hin 6 _ (by omega), hin 7 _ (by omega), hin 8 _ (by omega), hin 9 _ (by omega), ckb_in _ hc (by omega), hcl 0 (by omega), hcl 1 (by omega), hcl 2 (by omega), hcl 3 (by omega), hcl 4 (by omega), hcl 5 (by omega), hcl 6 (by omega), hcl 7 (by omega), hcl 8 (by omega), hcl 9 (by omega), nI_clamp (show c < 2 ^ 31 by omega), nI_1]
  refine ⟨_, rfl, ?_, ?_, ?_, ?_, ?_, ?_, ?_, ?_, ?_, ?_, fun k hk => ?_⟩
  · rw [pk_un (by omega), pk_un (by omega), pk_un (by omega), pk_un (by omega), pk_un (by omega), pk_un (by omega), pk_un (by omega), pk_un (by omega), pk_un (by omega), Nat.add_zero, pk_us]
  · rw [pk_un (by omega), pk_un (by omega), pk_un (by omega), pk_un (by omega), pk_un (by omega), pk_un (by omega), pk_un (by omega), pk_un (by omega), pk_us]
  · rw [pk_un (by omega), pk_un (by omega), pk_un (by omega), pk_un (by omega), pk_un (by omega), pk_un (by omega), pk_un (by omega), pk_us]
  · rw [pk_un (by omega), pk_un (by omega), pk_un (by omega), pk_un (by omega), pk_un (by omega), pk_un (by omega), pk_us]
  · rw [pk_un (by omega), pk_un (by omega), pk_un (by omega), pk_un (by omega), pk_un (by omega), pk_us]
  · rw [pk_un (by omega), pk_un (by omega), pk_un (by omega), pk_un (by omega), pk_us]
  · rw [pk_un (by omega), pk_un (by omega), pk_un (by omega), pk_us]
  · rw [pk_un (by omega), pk_un (by omega), pk_us]
  · rw [pk_un (by omega), pk_us]
  · rw [pk_us]
  · rw [pk_un (by omega), pk_un (by omega), pk_un (by omega), pk_un (by omega), pk_un (by omega), pk_un (by omega), pk_un (by omega), pk_un (by omega), pk_un (by omega), pk_un (by omega)]
