/-! what a turn of the disk answers and leaves, told once for both -/
abbrev R5 : Type := Int32 × Int32 × Int32 × Int32 × (Nat → Int32)
def tWr (sd e' : Nat) (out : List (Ch × Bool)) : List (Nat × Int32) := turnW (ix (1 - sd)) out ++ [(0, nI (2 * e' + (1 - sd)))]
def tR (cs : List Ch) (sd e' : Nat) (its : List (Ch × Bool)) (wd wl dn : Int32) (f : Nat → Int32) : R5 :=
  if 96 < its.length then (-3, wd, wl, dn, f) else match plan (tkOf cs) its with
    | none => (-3, wd, wl, dn, f)
    | some out => (tOut (wrs (tWr sd e' out) wd wl dn f).1 0, (wrs (tWr sd e' out) wd wl dn f).2)
def cd (c ans : Int32) : Int32 := if c = 0 then ans else c
theorem tR_bad {cs : List Ch} {sd e' : Nat} {its : List (Ch × Bool)} {wd wl dn : Int32} {f : Nat → Int32} (h : plan (tkOf cs) its = none ∨ 96 < its.length) : tR cs sd e' its wd wl dn f = (-3, wd, wl, dn, f) := by
  unfold tR
  by_cases h2 : 96 < its.length
  · rw [if_pos h2]
  · rw [if_neg h2]
    rcases h with h | h
    · rw [h]
    · exact absurd h h2
theorem tR_ok {cs : List Ch} {sd e' : Nat} {its out : List (Ch × Bool)} {wd wl dn : Int32} {f : Nat → Int32} (h : plan (tkOf cs) its = some out) (h2 : its.length ≤ 96) : tR cs sd e' its wd wl dn f = (tOut (wrs (tWr sd e' out) wd wl dn f).1 0, (wrs (tWr sd e' out) wd wl dn f).2) := by
  unfold tR
  rw [if_neg (by omega), h]
theorem turnDisk_R {f : Nat → Int32} {e sd e' N most : Nat} {cs : List Ch} {hd : List Hd} (hD : DOk f e sd cs hd) (hS : SOk N most cs hd) {its : List (Ch × Bool)} {tc made of la ku kb kf kt kv : Int32} {kr : Int64} {kc : Nat → Int32} {o1 o2 o3 o4 o5 : Int32} {o6 : Int64} {im pf ta : Nat → Int32} (h : TX (tkOf cs) its [] (tc, made, of, la, ku, kb, kf, kt, kv, kr, kc, o1, o2, o3, o4, o5, o6, im, pf, ta)) (wd wl dn ans : Int32) :
    ∃ im' : Nat → Int32, m_X9_turnDisk wd wl dn f tc la ku kc im pf (nI e') ans = some (cd (tR cs sd e' its wd wl dn f).1 ans, (tR cs sd e' its wd wl dn f).2.1, (tR cs sd e' its wd wl dn f).2.2.1, (tR cs sd e' its wd wl dn f).2.2.2.1, (tR cs sd e' its wd wl dn f).2.2.2.2, im') := by
  rcases turnDisk_C (e' := e') hD hS h wd wl dn ans with ⟨out, h1, h2, im', e1⟩ | ⟨h1, e1⟩
  · refine ⟨im', ?_⟩
    rw [e1, tR_ok h1 h2]
    unfold tWr
    have : ∀ b : Bool, tOut b ans = cd (tOut b 0) ans := by intro b; cases b <;> rfl
    rw [this]
  · exact ⟨im, by rw [e1, tR_bad h1]; rfl⟩
theorem TX_0 {tk0 : Nat → Bool} {of kt kv : Int32} {kr : Int64} {kc im pf ta : Nat → Int32} (h : tkA ta tk0) : TX tk0 [] [] (0, 0, of, 0, 0, 0, 0, kt, kv, kr, kc, 0, 0, 0, 0, 0, 0, im, pf, ta) := by
  refine ⟨rfl, rfl, Or.inl ⟨rfl, Or.inl ⟨[], rfl, by simp, rfl, rfl, rfl, rfl, ⟨fun k hk => by simp at hk, fun k hk => by simp at hk⟩, ?_⟩, rfl⟩⟩
  rw [marks_nil]
  exact h
theorem TX_made {tk0 : Nat → Bool} {its : List (Ch × Bool)} {cur : List Pt} {tc made of la ku kb kf kt kv : Int32} {kr : Int64} {kc : Nat → Int32} {o1 o2 o3 o4 o5 : Int32} {o6 : Int64} {im pf ta : Nat → Int32} (h : TX tk0 its cur (tc, made, of, la, ku, kb, kf, kt, kv, kr, kc, o1, o2, o3, o4, o5, o6, im, pf, ta)) : made = nI (nNew its) := h.1
theorem flush_C {N m : Nat} {f : Nat → Int32} {e sd : Nat} {cs : List Ch} {hd : List Hd} (hD : DOk f e sd cs hd) (hS : SOk N m cs hd) (hN : N ≤ 8) (hm1 : 2 ≤ m) (hm2 : m ≤ 64) (hne : hd ≠ []) {lg : Int32} (wd wl : Int32) (hlg : m_X4_readAgain (tR cs sd (e + 1) (flI m cs hd 0 N) wd wl 0 f).2.2.2.2 (nI hd.length) = some lg) (tc made of la ku kb kf kt kv : Int32) (kr : Int64) (kc : Nat → Int32) (o1 o2 o3 o4 o5 : Int32) (o6 : Int64) (im pf ta : Nat → Int32) (c1 c2 c3 : Int32) :
    ∃ (tc' made' of' la' ku' kb' kf' kt' kv' : Int32) (kr' : Int64) (kc' : Nat → Int32) (o1' o2' o3' o4' o5' : Int32) (o6' : Int64) (im' pf' ta' : Nat → Int32),
      m_X9_flush (nI N) (nI m) wd wl 0 f (nI hd.length) tc made of la ku kb kf kt kv kr kc o1 o2 o3 o4 o5 o6 im pf ta c1 c2 c3 = some (cd (tR cs sd (e + 1) (flI m cs hd 0 N) wd wl 0 f).1 (nI (nNew (flI m cs hd 0 N))), (tR cs sd (e + 1) (flI m cs hd 0 N) wd wl 0 f).2.1, (tR cs sd (e + 1) (flI m cs hd 0 N) wd wl 0 f).2.2.1, (tR cs sd (e + 1) (flI m cs hd 0 N) wd wl 0 f).2.2.2.1, (tR cs sd (e + 1) (flI m cs hd 0 N) wd wl 0 f).2.2.2.2, lg, tc', made', of', la', ku', kb', kf', kt', kv', kr', kc', o1', o2', o3', o4', o5', o6', im', pf', ta', 0, 0, 0) := by
  have hl : hd.length ≤ 128 := hD.2.2.2.2.2.2.1
  have hl1 : hd.length ≠ 0 := fun q => hne (List.eq_nil_of_length_eq_zero q)
  obtain ⟨tk', e1, h1⟩ := begin_C hD hS.1 tc made la ku kb kf o1 o2 o3 o4 o5 o6 ta
  obtain ⟨y, e2, h2⟩ := flush_loop hD hN hm1 hm2 hS N 0 NN [] 0 0 of 0 0 0 0 kt kv kr kc 0 0 0 0 0 0 im pf tk' (by omega) (by unfold NN; omega) (TX_0 h1)
  obtain ⟨tc2, made2, of2, la2, ku2, kb2, kf2, kt2, kv2, kr2, kc2, a1, a2, a3, a4, a5, a6, im2, pf2, ta2⟩ := y
  rw [List.nil_append] at h2
  obtain ⟨im3, e3⟩ := turnDisk_R (e' := e + 1) hD hS h2 wd wl 0 made2
  have e2' : lp_X9_flush_41 (nI N) (nI m) f (nI hd.length) NN (0 : Int32) 0 0 of 0 0 0 0 kt kv kr kc 0 0 0 0 0 0 im pf tk' = some (tc2, made2, of2, la2, ku2, kb2, kf2, kt2, kv2, kr2, kc2, a1, a2, a3, a4, a5, a6, im2, pf2, ta2) := e2
  refine ⟨tc2, made2, of2, la2, ku2, kb2, kf2, kt2, kv2, kr2, kc2, a1, a2, a3, a4, a5, a6, im3, pf2, ta2, ?_⟩
  rw [m_X9_flush, m_X1_close, ob3_mk, m_X2_isDown, show ckz (0 : Int32) (some (0 : Int32)) = some 0 from rfl, ob1_mk, if_pos rfl, m_X4_logged, ob1_mk, if_neg (nI_ne0 (by omega) (by omega)), e1, ob13_mk, e2', ob20_mk, epoch_s hD.1 hD.2.1 hD.2.2.1, ob1_mk, m_X7_chunksMade, ob1_mk, nI_1, e3, ob6_mk, hlg, ob1_mk, ← TX_made h2]
