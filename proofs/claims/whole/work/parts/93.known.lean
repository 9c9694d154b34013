theorem known_start {args : Array Value} {s : State} (htc : ∀ w ∈ wC, w.before args s = true) : ∃ (G : va_G) (cI cZ cJ : ClassId), va_K G classes (tyC cI cZ cJ) s := by
  obtain ⟨k0, i0, h0⟩ := u_known (C := RX0) (T := TX0) (N := 8) (n := 8) htc iX0 (htc _ mw_221)
  obtain ⟨k1, i1, h1⟩ := u_known (C := RX1) (T := TX1) (N := 13) (n := 13) htc iX1 (htc _ mw_254)
  obtain ⟨k2, i2, h2⟩ := u_known (C := RX2) (T := TX2) (N := 4) (n := 4) htc iX2 (htc _ mw_37)
  obtain ⟨k3, i3, h3⟩ := u_known (C := RX3) (T := TX3) (N := 1) (n := 1) htc iX3 (htc _ mw_57)
  obtain ⟨k4, i4, h4⟩ := u_known (C := RX4) (T := TX4) (N := 2) (n := 2) htc iX4 (htc _ mw_67)
  obtain ⟨k5, i5, h5⟩ := u_known (C := RX5) (T := TX5) (N := 7) (n := 7) htc iX5 (htc _ mw_120)
  obtain ⟨k6, i6, h6⟩ := u_known (C := RX6) (T := TX6) (N := 6) (n := 6) htc iX6 (htc _ mw_148)
  obtain ⟨k7, i7, h7⟩ := u_known (C := RX7) (T := TX7) (N := 11) (n := 11) htc iX7 (htc _ mw_114)
  obtain ⟨k8, i8, h8⟩ := u_known (C := RX8) (T := TX8) (N := 7) (n := 7) htc iX8 (htc _ mw_80)
  obtain ⟨k9, i9, h9⟩ := u_known (C := RX9) (T := TX9) (N := 11) (n := 11) htc iX9 (htc _ mw_20)
  obtain ⟨k10, i10, h10⟩ := u_known (C := RX10) (T := TX10) (N := 40) (n := 40) htc iX10 (htc _ mw_939)
  obtain ⟨cI, kkI, compI, qI1, qI2, qI3⟩ := Cond.arrayClass_spec (htc _ mw_55)
  obtain ⟨cZ, kkZ, compZ, qZ1, qZ2, qZ3⟩ := Cond.arrayClass_spec (htc _ mw_219)
  obtain ⟨cJ, kkJ, compJ, qJ1, qJ2, qJ3⟩ := Cond.arrayClass_spec (htc _ mw_1333)
  refine ⟨(fun k => match k with | 0 => k0 | 1 => k1 | 2 => k2 | 3 => k3 | 4 => k4 | 5 => k5 | 6 => k6 | 7 => k7 | 8 => k8 | 9 => k9 | _ => k10, fun k => match k with | 0 => i0 | 1 => i1 | 2 => i2 | 3 => i3 | 4 => i4 | 5 => i5 | 6 => i6 | 7 => i7 | 8 => i8 | 9 => i9 | _ => i10), cI, cZ, cJ, ?_, ?_⟩
  · intro k q hq
    match k, hq with
    | 0, hq => cases hq; exact h0
    | 1, hq => cases hq; exact h1
    | 2, hq => cases hq; exact h2
    | 3, hq => cases hq; exact h3
    | 4, hq => cases hq; exact h4
    | 5, hq => cases hq; exact h5
    | 6, hq => cases hq; exact h6
    | 7, hq => cases hq; exact h7
    | 8, hq => cases hq; exact h8
    | 9, hq => cases hq; exact h9
    | 10, hq => cases hq; exact h10
    | k + 11, hq => simp [classes] at hq
  · intro k q hq
    match k, hq with
    | 0, hq => cases hq; exact ⟨fun n z => ⟨fun k h => (by cases h), kkI, qI2, compI, qI3⟩, qI1⟩
    | 1, hq => cases hq; exact ⟨fun n z => ⟨fun k h => (by cases h), kkZ, qZ2, compZ, qZ3⟩, qZ1⟩
    | 2, hq => cases hq; exact ⟨fun n z => ⟨fun k h => (by cases h), kkJ, qJ2, compJ, qJ3⟩, qJ1⟩
    | k + 3, hq => simp [tyC] at hq
theorem xst_start {b : Nat} {s : State} (hts : ∀ w ∈ lw_tbl, w.before #[Value.ref b] s = true) (hgv : (Jvm.Cond.and given_1 narrow_1).before #[Value.ref b] s = true) (hbl : b < s.heap.size) : xst (fun q : Nat => s.heap.size ≤ q) s s.heap := by
  have hg := flat_of_before _ hgv
  have hA : ∀ a : Nat, a < s.heap.size → ¬ (fun q : Nat => s.heap.size ≤ q) a := fun a h => Nat.not_le.mpr h
  refine ⟨⟨vx_Zqof (hts _ (by decide +kernel)) (hts _ (by decide +kernel)) (hg _ (by decide +kernel)) hA, vx_Zqof (hts _ (by decide +kernel)) (hts _ (by decide +kernel)) (hg _ (by decide +kernel)) hA⟩, ⟨fun E hE => va_Nw.of rfl (hts _ (of_decide_eq_true (List.all_eq_true.mp (show xsC.all (fun E => decide (Cond.castable E E ∈ lw_tbl)) = true by decide +kernel) E hE))), fun y hy => va_Nw.of rfl (hts _ (of_decide_eq_true (List.all_eq_true.mp (show xsD.all (fun y => decide (Cond.declares y ∈ lw_tbl)) = true by decide +kernel) y hy)))⟩, fun q hq => ?_, fun q hq => va_Nc.of (hg _ (of_decide_eq_true (List.all_eq_true.mp (show xsN.all (fun q => decide (Cond.not (.castable q.1 q.2) ∈ flatC (Jvm.Cond.and given_1 narrow_1))) = true by decide +kernel) q hq)))⟩
  obtain ⟨a, -, -, -, ha, -⟩ := Cond.exactly_spec (hg (Cond.exactly (.string RX9 q.1) "java/lang/String") (of_decide_eq_true (List.all_eq_true.mp (show xsT.all (fun q => decide (Cond.exactly (.string RX9 q.1) "java/lang/String" ∈ flatC (Jvm.Cond.and given_1 narrow_1))) = true by decide +kernel) q hq)))
  exact ⟨a, vk_R.of (hts (.stringRef RX9 q.1 q.2) (of_decide_eq_true (List.all_eq_true.mp (show xsT.all (fun q => decide (Cond.stringRef RX9 q.1 q.2 ∈ lw_tbl)) = true by decide +kernel) q hq))) ha⟩
