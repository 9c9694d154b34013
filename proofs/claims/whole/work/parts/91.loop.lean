set_option maxHeartbeats 4000000 in
set_option maxRecDepth 100000 in
theorem law_loop {p : Program} {l : Launch} {e : Env} {s : State} {m_ : MethodId} {below : List Frame} {meth : Method} {c : Code} {G : va_G} {cI cZ cJ : ClassId} {b L : Nat} {xs : Nat → Int32} {aP aM aD aDc aI aG aU aV aT aK aKc aO aTi aTp aTt aQ aF aZ aC aMdisk aMits aMmany aMplace aMlength aMtimes aMvalues aMorder aMheadOf aMheadTime aMheadValue aMnext aMisNew aMcursorTime aMcursorValue aMmade aOUT : Nat} {N m ρ : Nat} (hN1 : N ≤ 8) (hm1 : 2 ≤ m) (hm2 : m ≤ 64) (hρ : 2 ≤ ρ) (hρ2 : ρ ≤ 64) (hL : L ≤ 2051) (hx : p.tables.exec = Jvm.exec) (hb : c.code = code) (hr : meth.sig.returnType = ret) (hml : c.maxLocals = 8) (hown : s.vm.findClass RL = some m_.cls) (hlocks : meth.locks = false) (htc : ∀ w ∈ wC, w.before #[Value.ref b] s = true) (hN : nst s) (hX : xst (fun q : Nat => s.heap.size ≤ q) s s.heap) (hST : l.stackTraces = false) (hK : va_K G classes (tyC cI cZ cJ) s) (hXs : va_X b L xs s s.heap) (hbl : b < s.heap.size) :
    ∀ (n i e0 cells slots : Nat) (H : Heap) (locs : List Loc) (ls : Array Slot) (ws : va_W), L < i + 4 * n + 4 → i ≤ 3000 → e0 + n ≤ 90000 → cells + n ≤ 1067 → slots + 6 * n ≤ 66375 → INV N m ρ cI cZ cJ aP aM aD aDc aI aG aU aV aT aK aKc aO aTi aTp aTt aQ aF aZ aC aMdisk aMits aMmany aMplace aMlength aMtimes aMvalues aMorder aMheadOf aMheadTime aMheadValue aMnext aMisNew aMcursorTime aMcursorValue aMmade aOUT e0 ws → wS G (fun q : Nat => s.heap.size ≤ q) s H locs ws → lv_has ls 8 [(0, .ref b), (1, .ref aP), (2, .ref aM), (3, .ref aOUT), (4, .int (nI i))] → W p l e room_1 s m_ #[Value.ref b] below meth c H locs cells slots (lw_Z below #[Value.ref b] s) (F0 m_ 53 ls []) := by
  have hA : ∀ q : Nat, s.heap.size ≤ q → (fun q : Nat => s.heap.size ≤ q) q := fun _ h => h
  have hbA : ¬ (fun q : Nat => s.heap.size ≤ q) b := Nat.not_le.mpr hbl
  have hcmp : (nI L - (4 : Int32)).toInt = (L : Int) - 4 := pk_sub_toInt (a := L) (b := 4) (by omega) (by omega)
  have head : ∀ (i cells slots : Nat) (H : Heap) (locs : List Loc) (ls : Array Slot) (ws : va_W), i ≤ 3000 → cells ≤ 1067 → slots ≤ 66375 → wS G (fun q : Nat => s.heap.size ≤ q) s H locs ws → lv_has ls 8 [(0, .ref b), (1, .ref aP), (2, .ref aM), (3, .ref aOUT), (4, .int (nI i))] → (i + 4 ≤ L → W p l e room_1 s m_ #[Value.ref b] below meth c H locs cells slots (lw_Z below #[Value.ref b] s) (F0 m_ 62 ls [])) → W p l e room_1 s m_ #[Value.ref b] below meth c H locs cells slots (lw_Z below #[Value.ref b] s) (F0 m_ 53 ls []) := by
    intro i cells slots H locs ls ws hi hc hs hw hl kb
    have hti : (nI i).toInt = (i : Int) := nI_toInt (by omega)
    refine lv_iload hx hb dL_law_53 (lv_at hl 4 rfl) ?_
    refine lv_aload_n hx hb dL_law_55 rfl (lv_at hl 0 rfl) ?_
    refine va_slen hx hb hXs hbl hbA hw.2.2 dL_law_56 ?_
    refine lv_iconst (v := (4 : Int32)) hx hb dL_law_57 (by decide) ?_
    refine lv_isub hx hb dL_law_58 ?_
    refine lv_icmp_gt (tgt := 970) hx hb dL_law_59 (by decide) (fun hc => ?_) (fun hc => ?_)
    · refine lv_iconst (v := (1 : Int32)) hx hb dL_law_970 (by decide) ?_
      refine va_forget (fun q hq => hw.2.2.2.2 q hq) ?_
      refine W.widen (k := 1067) (n := 66375) (by omega) (by omega) ?_
      exact lw_ret hx hb hr hlocks dL_law_971
    · refine kb ?_
      have hc2 : ¬ (nI L - (4 : Int32)).toInt < (nI i).toInt := fun q => hc (Int32.lt_iff_toInt_lt.mpr q)
      omega
  intro n
  induction n with
  | zero =>
    intro i e0 cells slots H locs ls ws h1 h2 h3 h4 h5 hI hw hl
    exact head i cells slots H locs ls ws h2 (by omega) (by omega) hw hl (fun q => by omega)
  | succ n ih =>
    intro i e0 cells slots H locs ls ws h1 h2 h3 h4 h5 hI hw hl
    refine head i cells slots H locs ls ws h2 (by omega) (by omega) hw hl (fun hiL => ?_)
    have hin0 : vp_in (nI i) L := nI_in (by omega) (by omega)
    have hin1 : vp_in (nI i + (1 : Int32)) L := by rw [show nI i + (1 : Int32) = nI (i + 1) from nI_add i 1]; exact nI_in (by omega) (by omega)
    have hin2 : vp_in (nI i + (2 : Int32)) L := by rw [show nI i + (2 : Int32) = nI (i + 2) from nI_add i 2]; exact nI_in (by omega) (by omega)
    have hin3 : vp_in (nI i + (3 : Int32)) L := by rw [show nI i + (3 : Int32) = nI (i + 3) from nI_add i 3]; exact nI_in (by omega) (by omega)
    have hc1 : cells ≤ room_1.cells ∧ slots ≤ room_1.slots := ⟨by show cells ≤ 1067; omega, by show slots ≤ 66375; omega⟩
    have hc2 : cells + 1 ≤ room_1.cells ∧ slots + 6 ≤ room_1.slots := ⟨by show cells + 1 ≤ 1067; omega, by show slots + 6 ≤ 66375; omega⟩
    have K : ∀ (H1 : Heap) (locs1 : List Loc) (ls1 : Array Slot) (ws1 : va_W), INV N m ρ cI cZ cJ aP aM aD aDc aI aG aU aV aT aK aKc aO aTi aTp aTt aQ aF aZ aC aMdisk aMits aMmany aMplace aMlength aMtimes aMvalues aMorder aMheadOf aMheadTime aMheadValue aMnext aMisNew aMcursorTime aMcursorValue aMmade aOUT (e0 + 1) ws1 → wS G (fun q : Nat => s.heap.size ≤ q) s H1 locs1 ws1 → lv_has ls1 8 [(0, .ref b), (1, .ref aP), (2, .ref aM), (3, .ref aOUT), (4, .int (nI i))] → W p l e room_1 s m_ #[Value.ref b] below meth c H1 locs1 (cells + 1) (slots + 6) (lw_Z below #[Value.ref b] s) (F0 m_ 964 ls1 []) := by
      intro H1 locs1 ls1 ws1 hI1 hw1 hl1
      refine lv_iinc (v := nI i + (4 : Int32)) (lv' := [(4, .int (nI i + (4 : Int32))), (0, .ref b), (1, .ref aP), (2, .ref aM), (3, .ref aOUT)]) hx hb dL_law_964 hl1 (k := 4) rfl rfl (by decide) rfl (fun ls2 hl2 => ?_)
      refine lv_goto (tgt := 53) hx hb dL_law_967 (by decide) ?_
      rw [show nI i + (4 : Int32) = nI (i + 4) from nI_add i 4] at hl2
      exact ih (i + 4) (e0 + 1) (cells + 1) (slots + 6) H1 locs1 ls2 ws1 (by omega) (by omega) (by omega) (by omega) (by omega) hI1 hw1 (lv_sub hl2 [1, 2, 3, 4, 0] rfl)
    refine lv_aload_n hx hb dL_law_62 rfl (lv_at hl 0 rfl) ?_
    refine lv_iload hx hb dL_law_63 (lv_at hl 4 rfl) ?_
    refine va_sld hx hb hXs hbl hbA hw.2.2 hin0 dL_law_65 ?_
    refine lv_bipush (v := (31 : Int32)) hx hb dL_law_66 (by decide) ?_
    refine lv_iand hx hb dL_law_68 ?_
    obtain ⟨j, hj, hjx⟩ := pk_andE (xs (Int32.toNatClampNeg (nI i))) (m := (31 : Int32)) 5 (by decide)
    rw [hjx]
    rcases (show j = 0 ∨ j = 1 ∨ j = 2 ∨ j = 3 ∨ j = 4 ∨ j = 5 ∨ j = 6 ∨ j = 7 ∨ j = 8 ∨ j = 9 ∨ j = 10 ∨ j = 11 ∨ j = 12 ∨ j = 13 ∨ j = 14 ∨ j = 15 ∨ j = 16 ∨ j = 17 ∨ j = 18 ∨ 19 ≤ j by omega) with rfl | rfl | rfl | rfl | rfl | rfl | rfl | rfl | rfl | rfl | rfl | rfl | rfl | rfl | rfl | rfl | rfl | rfl | rfl | hj19
    · refine lv_tableIn (tgt := 160) hx hb dL_law_69 (by decide) (by decide) rfl (by decide) ?_
      exact st_0 hN1 hm1 hm2 hρ hρ2 (by omega) hx hb hml hown htc hN hX hST hK hA hXs hbl hbA hin1 hin2 hin3 hc1 hc2 hI hw hl K
    · refine lv_tableIn (tgt := 209) hx hb dL_law_69 (by decide) (by decide) rfl (by decide) ?_
      exact st_1 hN1 hm1 hm2 hρ hρ2 (by omega) hx hb hml hown htc hN hX hST hK hA hXs hbl hbA hin1 hin2 hin3 hc1 hc2 hI hw hl K
    · refine lv_tableIn (tgt := 222) hx hb dL_law_69 (by decide) (by decide) rfl (by decide) ?_
      exact st_2 hN1 hm1 hm2 hρ hρ2 (by omega) hx hb hml hown htc hN hX hST hK hA hXs hbl hbA hin1 hin2 hin3 hc1 hc2 hI hw hl K
    · refine lv_tableIn (tgt := 247) hx hb dL_law_69 (by decide) (by decide) rfl (by decide) ?_
      exact st_3 hN1 hm1 hm2 hρ hρ2 (by omega) hx hb hml hown htc hN hX hST hK hA hXs hbl hbA hin1 hin2 hin3 hc1 hc2 hI hw hl K
    · refine lv_tableIn (tgt := 272) hx hb dL_law_69 (by decide) (by decide) rfl (by decide) ?_
      exact st_4 hN1 hm1 hm2 hρ hρ2 (by omega) hx hb hml hown htc hN hX hST hK hA hXs hbl hbA hin1 hin2 hin3 hc1 hc2 hI hw hl K
    · refine lv_tableIn (tgt := 321) hx hb dL_law_69 (by decide) (by decide) rfl (by decide) ?_
      exact st_5 hN1 hm1 hm2 hρ hρ2 (by omega) hx hb hml hown htc hN hX hST hK hA hXs hbl hbA hin1 hin2 hin3 hc1 hc2 hI hw hl K
    · refine lv_tableIn (tgt := 334) hx hb dL_law_69 (by decide) (by decide) rfl (by decide) ?_
      exact st_6 hN1 hm1 hm2 hρ hρ2 (by omega) hx hb hml hown htc hN hX hST hK hA hXs hbl hbA hin1 hin2 hin3 hc1 hc2 hI hw hl K
    · refine lv_tableIn (tgt := 347) hx hb dL_law_69 (by decide) (by decide) rfl (by decide) ?_
      exact st_7 hN1 hm1 hm2 hρ hρ2 (by omega) hx hb hml hown htc hN hX hST hK hA hXs hbl hbA hin1 hin2 hin3 hc1 hc2 hI hw hl K
    · refine lv_tableIn (tgt := 360) hx hb dL_law_69 (by decide) (by decide) rfl (by decide) ?_
      exact st_8 hN1 hm1 hm2 hρ hρ2 (by omega) hx hb hml hown htc hN hX hST hK hA hXs hbl hbA hin1 hin2 hin3 hc1 hc2 hI hw hl K
    · refine lv_tableIn (tgt := 409) hx hb dL_law_69 (by decide) (by decide) rfl (by decide) ?_
      exact st_9 hN1 hm1 hm2 hρ hρ2 (by omega) hx hb hml hown htc hN hX hST hK hA hXs hbl hbA hin1 hin2 hin3 hc1 hc2 hI hw hl K
    · refine lv_tableIn (tgt := 489) hx hb dL_law_69 (by decide) (by decide) rfl (by decide) ?_
      exact st_10 hN1 hm1 hm2 hρ hρ2 (by omega) hx hb hml hown htc hN hX hST hK hA hXs hbl hbA hin1 hin2 hin3 hc1 hc2 hI hw hl K
    · refine lv_tableIn (tgt := 569) hx hb dL_law_69 (by decide) (by decide) rfl (by decide) ?_
      exact st_11 hN1 hm1 hm2 hρ hρ2 (by omega) hx hb hml hown htc hN hX hST hK hA hXs hbl hbA hin1 hin2 hin3 hc1 hc2 hI hw hl K
    · refine lv_tableIn (tgt := 648) hx hb dL_law_69 (by decide) (by decide) rfl (by decide) ?_
      exact st_12 hN1 hm1 hm2 hρ hρ2 (by omega) hx hb hml hown htc hN hX hST hK hA hXs hbl hbA hin1 hin2 hin3 hc1 hc2 hI hw hl K
    · refine lv_tableIn (tgt := 673) hx hb dL_law_69 (by decide) (by decide) rfl (by decide) ?_
      exact st_13 hN1 hm1 hm2 hρ hρ2 (by omega) hx hb hml hown htc hN hX hST hK hA hXs hbl hbA hin1 hin2 hin3 hc1 hc2 hI hw hl K
    · refine lv_tableIn (tgt := 686) hx hb dL_law_69 (by decide) (by decide) rfl (by decide) ?_
      exact st_14 hN1 hm1 hm2 hρ hρ2 (by omega) hx hb hml hown htc hN hX hST hK hA hXs hbl hbA hin1 hin2 hin3 hc1 hc2 hI hw hl K
    · refine lv_tableIn (tgt := 711) hx hb dL_law_69 (by decide) (by decide) rfl (by decide) ?_
      exact st_15 hN1 hm1 hm2 hρ hρ2 (by omega) hx hb hml hown htc hN hX hST hK hA hXs hbl hbA hin1 hin2 hin3 hc1 hc2 hI hw hl K
    · refine lv_tableIn (tgt := 779) hx hb dL_law_69 (by decide) (by decide) rfl (by decide) ?_
      exact st_16 hN1 hm1 hm2 hρ hρ2 (by omega) hx hb hml hown htc hN hX hST hK hA hXs hbl hbA hin1 hin2 hin3 hc1 hc2 hI hw hl K
    · refine lv_tableIn (tgt := 859) hx hb dL_law_69 (by decide) (by decide) rfl (by decide) ?_
      exact st_17 hN1 hm1 hm2 hρ hρ2 (by omega) hx hb hml hown htc hN hX hST hK hA hXs hbl hbA hin1 hin2 hin3 hc1 hc2 hI hw hl K
    · refine lv_tableIn (tgt := 939) hx hb dL_law_69 (by decide) (by decide) rfl (by decide) ?_
      exact st_18 hN1 hm1 hm2 hρ hρ2 (by omega) hx hb hml hown htc hN hX hST hK hA hXs hbl hbA hin1 hin2 hin3 hc1 hc2 hI hw hl K
    · refine lv_tableOut (tgt := 964) hx hb dL_law_69 (Or.inr (by rw [nI_toInt (by omega)]; omega)) (by decide) ?_
      refine W.widen (Nat.le_add_right _ 1) (Nat.le_add_right _ 6) ?_
      exact K H locs ls ws (fun CC k9 => hI CC (fun hd_ cs_ sl_ e_ sd_ rec_ thr_ nexts_ hcu_ cm_ ca_ bits_ mfr_ a0_ a1_ a2_ a3_ wd_ wl_ dn_ f_ up_ br_ st_ t_ v_ rr_ vp_ vb_ vs_ vt_ vv_ vr_ tc_ made_ of_ la_ ku_ kb_ kf_ kt_ kv_ kr_ kc_ o1_ o2_ o3_ o4_ o5_ o6_ im_ pf_ ta_ lo_ un_ f1_ f2_ f3_ f4_ f5_ f6_ z1_ z2_ z3_ z4_ z5_ z6_ op_ ser_ fr_ to_ en_ ee_ pl_ bl_ ct_ cv_ its_ many_ place_ length_ times_ values_ order_ headOf_ headTime_ headValue_ next_ isNew_ cT_ cV_ mmade_ oo_ q1 q2 q3 q4 => k9 hd_ cs_ sl_ e_ sd_ rec_ thr_ nexts_ hcu_ cm_ ca_ bits_ mfr_ a0_ a1_ a2_ a3_ wd_ wl_ dn_ f_ up_ br_ st_ t_ v_ rr_ vp_ vb_ vs_ vt_ vv_ vr_ tc_ made_ of_ la_ ku_ kb_ kf_ kt_ kv_ kr_ kc_ o1_ o2_ o3_ o4_ o5_ o6_ im_ pf_ ta_ lo_ un_ f1_ f2_ f3_ f4_ f5_ f6_ z1_ z2_ z3_ z4_ z5_ z6_ op_ ser_ fr_ to_ en_ ee_ pl_ bl_ ct_ cv_ its_ many_ place_ length_ times_ values_ order_ headOf_ headTime_ headValue_ next_ isNew_ cT_ cV_ mmade_ oo_ q1 (Nat.le_succ_of_le q2) q3 q4)) hw hl
