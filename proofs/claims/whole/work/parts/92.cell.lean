theorem dL_cell_0 : decode cL_cell 0 = .ok (.iload_n 1, 1) := by decide +kernel
theorem dL_cell_1 : decode cL_cell 1 = .ok (.aload_n 0, 1) := by decide +kernel
theorem dL_cell_2 : decode cL_cell 2 = .ok (.arraylength, 1) := by decide +kernel
theorem dL_cell_3 : decode cL_cell 3 = .ok (.if_icmp .ge 9, 3) := by decide +kernel
theorem dL_cell_6 : decode cL_cell 6 = .ok (.aload_n 0, 1) := by decide +kernel
theorem dL_cell_7 : decode cL_cell 7 = .ok (.iload_n 1, 1) := by decide +kernel
theorem dL_cell_8 : decode cL_cell 8 = .ok (.iaload, 1) := by decide +kernel
theorem dL_cell_9 : decode cL_cell 9 = .ok (.goto 4, 3) := by decide +kernel
theorem dL_cell_12 : decode cL_cell 12 = .ok (.iconst 0, 1) := by decide +kernel
theorem dL_cell_13 : decode cL_cell 13 = .ok (.ireturn, 1) := by decide +kernel
abbrev rm_cell : Room := { frames := 0, cells := 0, slots := 0, locals := 0 }
def cellv (L : Nat) (xs : Nat → Int32) (k : Int32) : Int32 := if nI L ≤ k then 0 else xs (Int32.toNatClampNeg k)
theorem hs_L_cell : yL_cell.cls = RL ∧ yL_cell.cls ≠ "java/lang/invoke/MethodHandle" ∧ yL_cell.cls ≠ "java/lang/invoke/VarHandle" ∧ (parseMethodDescriptor yL_cell.desc).map (fun d => d.parameters.length) = some 2 := by decide +kernel
theorem c_cell (l : Launch) (G : va_G) (b L : Nat) (xs : Nat → Int32) (hL : L ≤ 2051) (k : Int32) (hk : ¬ k < 0) (sz : Nat) : Met l yL_cell (wM yL_cell cL_cell 2 (some .int)) rm_cell (va_Pc [.ref b, .int k] (fun U => U.heap.size = sz ∧ va_X b L xs U U.heap ∧ b < sz)) (etQ G (va_A [] sz) (some (.int (cellv L xs k))) (fun w => w = [])) 0 0 (va_A [] sz) := by
  refine Met.ofW (cc := cL_cell) (maxL := 2) (ret := some .int) (by decide) rfl ?_
  intro p e s m args below meth c s₁ B hml hv
  obtain ⟨rfl, rfl, hXs, hbl⟩ := hv
  have hx := B.exec
  have hb := B.bytes
  have hr := B.returns
  have hlocks := B.notSynchronized
  have hl0 := lv_entry [.ref b, .int k] (n := 2) (Nat.le_of_ble_eq_true rfl)
  rw [lg_entry_eq]
  have hl : lv_has _ 2 [(0, .ref b), (1, .int k)] := hl0
  have hw : wS G (va_A [] s.heap.size) s s.heap [] [] := ⟨fun k q h => by simp at h, ⟨fun i j p q h => by simp at h, fun k q h => by simp at h⟩, va_S.rf⟩
  have hbA : ¬ va_A [] s.heap.size b := by
    rintro (⟨k, e, h⟩ | h)
    · simp at h
    · omega
  refine lv_iload_n hx hb dL_cell_0 rfl (lv_at hl 1 rfl) ?_
  refine lv_aload_n hx hb dL_cell_1 rfl (lv_at hl 0 rfl) ?_
  refine va_slen hx hb hXs hbl hbA hw.2.2 dL_cell_2 ?_
  refine lv_icmp_ge (tgt := 12) hx hb dL_cell_3 (by decide) (fun hc => ?_) (fun hc => ?_)
  · refine lv_iconst (v := (0 : Int32)) hx hb dL_cell_12 (by decide) ?_
    have e0 : cellv L xs k = 0 := if_pos hc
    rw [e0]
    exact et_iret hx hb hr hlocks hw dL_cell_13
  · refine lv_aload_n hx hb dL_cell_6 rfl (lv_at hl 0 rfl) ?_
    refine lv_iload_n hx hb dL_cell_7 rfl (lv_at hl 1 rfl) ?_
    have hin : vp_in k L := by
      obtain ⟨j, hj, rfl⟩ := nI_of hk
      by_cases q : j < L
      · exact nI_in q (by omega)
      · exact absurd (nI_le (by omega) hj) hc
    refine va_sld hx hb hXs hbl hbA hw.2.2 hin dL_cell_8 ?_
    refine lv_goto (tgt := 13) hx hb dL_cell_9 (by decide) ?_
    have e0 : cellv L xs k = xs (Int32.toNatClampNeg k) := if_neg hc
    rw [e0]
    exact et_iret hx hb hr hlocks hw dL_cell_13
section CELL
variable {p : Program} {l : Launch} {e : Env} {s : State} {m : MethodId} {args : Array Value} {below : List Frame} {meth : Method} {c : Code} {H : Heap} {locs : List Loc} {cells slots : Nat} {Q : State → Prop} {G : va_G} {ws : va_W} {A : Nat → Prop} {pc : Nat} {ls : Array Slot} {rest : List Value}
theorem cell_S {b L : Nat} {xs : Nat → Int32} (hL : L ≤ 2051) {k : Int32} (hk : ¬ k < 0) (hx : p.tables.exec = Jvm.exec) (hb : c.code = code) (hml : c.maxLocals = 8) (hown : s.vm.findClass RL = some m.cls) (htc : ∀ w ∈ wC, w.before args s = true) (hA : ∀ q, s.heap.size ≤ q → A q) (hXs : va_X b L xs s s.heap) (hbl : b < s.heap.size) (hbA : ¬ A b) (isR : List Nat) (hRr : isR.map (fun i => ws[i]?) = ws.map some) (hn : va_nd isR = true) (hw : wS G A s H locs ws) (hls : ls.size = 8) (hW : (rest.map fun v => v.category).sum ≤ 8) (hdg : decode code pc = .ok (.invokestatic 36, 3)) (hcs : cells ≤ room_1.cells ∧ slots ≤ room_1.slots)
    (kk : ∀ (H1 : Heap) (locs1 : List Loc), wS G A s H1 locs1 ws → W p l e room_1 s m args below meth c H1 locs1 cells slots Q (F0 m (pc + 3) ls (.int (cellv L xs k) :: rest))) : W p l e room_1 s m args below meth c H locs cells slots Q (F0 m pc ls (.int k :: .ref b :: rest)) := by
  have h5 : Cond.code yL_cell cL_cell 2 (some .int) ∈ wC := mw_767
  have hG : GoodIn wC (wsS RL 36 yL_cell (wM yL_cell cL_cell 2 (some .int))) := by
    intro w hw
    unfold wsS at hw
    rcases List.mem_append.mp hw with hw | hw
    · simp only [List.mem_cons, List.not_mem_nil, or_false] at hw
      rcases hw with rfl | rfl | rfl
      · exact ⟨mw_765, good_of_word (wC_good mw_765)⟩
      · exact ⟨mw_766, good_of_word (wC_good mw_766)⟩
      · exact ⟨mw_0, good_of_word (wC_good mw_0)⟩
    · exact gi_C h5 w hw
  refine ct_goE (G := G) (A := A) (ws := ws) (wc := []) (wr := ws) (v := some (.int (cellv L xs k))) (rest := rest) (mc := 0) (ms := 0) (post := fun w => w = []) (va_runS (As := [.ref b, .int k]) (rest := rest) ⟨hx, hb, hml, hown, htc⟩ (c_cell l G b L xs hL k hk H.size) (cwS 2 htc hG rfl rfl rfl hs_L_cell ⟨Nat.le_of_ble_eq_true rfl, Nat.le_of_ble_eq_true rfl⟩) ⟨fun a U g mk q => ⟨q.1, q.2.1, va_X.moved (u := U) (U := U.calling g mk a) (Vm.Alike.refl U.vm) q.2.2.1, q.2.2.2⟩, fun U hU hW9 => ⟨rfl, by rw [hU], va_X.moved hW9.alike (va_X.kept hXs (by rw [hU]; exact hw.2.2.2.1 b hbl hbA)), Nat.lt_of_lt_of_le hbl hw.2.2.1⟩⟩ rfl rfl hls rfl (lv_room hW) hdg ⟨hcs.1, hcs.2⟩) hw hA [] isR rfl hRr hn (fun _ _ h => nomatch h) rfl ?_
  intro w1 hw1 H1 locs1 hwS
  subst hw1
  rw [List.append_nil] at hwS
  exact kk H1 locs1 hwS
end CELL
