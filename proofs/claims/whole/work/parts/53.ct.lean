abbrev tyC (cI cZ cJ : ClassId) : List (ClassId × FieldType) := [(cI, .int), (cZ, .boolean), (cJ, .long)]
/-! Contracts of one form: the method returns v, the world ws becomes ws', no cell comes. -/
def wM (y : MethodName) (b : ByteArray) (n : Nat) (r : Option FieldType) : List Cond := Cond.code y b n r :: wC
theorem gi_C {y : MethodName} {b : ByteArray} {n : Nat} {r : Option FieldType} (h : Cond.code y b n r ∈ wC) : GoodIn wC (wM y b n r) := by
  intro w hw
  rcases List.mem_cons.mp hw with rfl | hw
  · exact ⟨h, good_of_word (wC_good h)⟩
  · exact ⟨hw, good_of_word (wC_good hw)⟩
def nst (U : State) : Prop := ∀ w ∈ nstW, va_Nw w U
theorem nstW_on : ∀ w ∈ nstW, w.onTables = true := List.all_eq_true.mp (show nstW.all (fun w => w.onTables) = true by decide +kernel)
def nstK : Cond → Bool
  | .fieldLinkNest _ _ _ _ _ _ => true
  | .methodLinkNest _ _ _ _ => true
  | _ => false
theorem nstW_k : ∀ w ∈ nstW, nstK w = true := List.all_eq_true.mp (show nstW.all nstK = true by decide +kernel)
theorem nst.same {u U : State} (h : u.vm = U.vm) (hn : nst u) : nst U := fun w hw => va_Nw.same (nstW_on w hw) h (hn w hw)
theorem nst.warm {s U : State} (hW : s.WarmedH U.vm) (hn : nst s) : nst U := by
  intro w hw
  have h := hn w hw
  have hk := nstW_k w hw
  cases w <;> first | exact va_Nw.warmF hW h | exact va_Nw.warmM hW h | exact absurd hk (by simp [nstK])
/-- what a method of this form says at its end -/
def ctQ (G : va_G) (A : Nat → Prop) (v : Option Value) (ws' : va_W) : Array Value → State → Outcome → State → Prop := fun _ st oc t => oc = .returned v ∧ va_P G classes ws' t.heap ∧ va_D A ws' ∧ va_F A st t
def ctP (G : va_G) (tys : List (ClassId × FieldType)) (as : List Value) (ws : va_W) (sz : Nat) : Array Value → State → Prop := va_Pc as (fun U => U.heap.size = sz ∧ nst U ∧ va_P G classes ws U.heap ∧ va_K G classes tys U ∧ va_D (fun _ => True) ws)
def CT (l : Launch) (y : MethodName) (b : ByteArray) (n : Nat) (r : Option FieldType) (rm : Room) (G : va_G) (tys : List (ClassId × FieldType)) (as : List Value) (ws : va_W) (v : Option Value) (ws' : va_W) : Prop :=
  ∀ sz : Nat, Met l y (wM y b n r) rm (ctP G tys as ws sz) (ctQ G (va_A ws sz) v ws') 0 0 (va_A ws sz)
def wS (G : va_G) (A : Nat → Prop) (s : State) (H : Heap) (locs : List Loc) (ws : va_W) : Prop := va_P G classes ws H ∧ va_D A ws ∧ va_S A s.heap H locs
theorem ctP_blind {G : va_G} {tys : List (ClassId × FieldType)} {as : List Value} {ws : va_W} {sz : Nat} : FrameBlind (ctP G tys as ws sz) := fun a U g mk q => by
  obtain ⟨q0, q1, qn, qP, qK, qD⟩ := q
  exact ⟨q0, q1, nst.same (u := U) (U := U.calling g mk a) rfl qn, qP, va_K.moved (u := U) (U := U.calling g mk a) (Vm.Alike.refl U.vm) qK, qD⟩
section CTA
variable {p : Program} {l : Launch} {e : Env} {R : Room} {s : State} {m : MethodId} {args : Array Value} {below : List Frame} {meth : Method} {c : Code} {H : Heap} {locs : List Loc} {cells slots : Nat} {Q : State → Prop}
variable {G : va_G} {tys : List (ClassId × FieldType)} {ws ws' : va_W} {A : Nat → Prop} {cc : ByteArray} {pc : Nat} {ls : Array Slot} {rest : List Value}
theorem ct_iret {v : Int32} (hx : p.tables.exec = Jvm.exec) (hb : c.code = cc) (hr : meth.sig.returnType = some .int) (hlocks : meth.locks = false) (hP : va_P G classes ws' H) (hD : va_D A ws') (hS : va_S A s.heap H locs) (hdg : decode cc pc = .ok (.ireturn, 1)) :
    W p l e R s m args below meth c H locs cells slots (MQ below (ctQ G A (some (.int v)) ws') args s cells slots A) (F0 m pc ls [.int v]) :=
  W.iret hx hb hr (fun t ht _ => ⟨rfl, by rw [ht]; exact hP, hD, hS.F ht⟩) hS.2.2 hdg hlocks
theorem ct_zret {v : Int32} (hx : p.tables.exec = Jvm.exec) (hb : c.code = cc) (hr : meth.sig.returnType = some .boolean) (hlocks : meth.locks = false) (hz : v = 0 ∨ v = 1) (hP : va_P G classes ws' H) (hD : va_D A ws') (hS : va_S A s.heap H locs) (hdg : decode cc pc = .ok (.ireturn, 1)) :
    W p l e R s m args below meth c H locs cells slots (MQ below (ctQ G A (some (.int v)) ws') args s cells slots A) (F0 m pc ls [.int v]) :=
  W.zret hx hb hr (by rcases hz with rfl | rfl <;> rfl) (fun t ht _ => ⟨rfl, by rw [ht]; exact hP, hD, hS.F ht⟩) hS.2.2 hdg hlocks
theorem ct_lret {v : Int64} (hx : p.tables.exec = Jvm.exec) (hb : c.code = cc) (hr : meth.sig.returnType = some .long) (hlocks : meth.locks = false) (hP : va_P G classes ws' H) (hD : va_D A ws') (hS : va_S A s.heap H locs) (hdg : decode cc pc = .ok (.lreturn, 1)) :
    W p l e R s m args below meth c H locs cells slots (MQ below (ctQ G A (some (.long v)) ws') args s cells slots A) (F0 m pc ls [.long v]) :=
  W.lret hx hb hr (fun t ht _ => ⟨rfl, by rw [ht]; exact hP, hD, hS.F ht⟩) hS.2.2 hdg hlocks
theorem ct_vret (hx : p.tables.exec = Jvm.exec) (hb : c.code = cc) (hr : meth.sig.returnType = none) (hlocks : meth.locks = false) (hP : va_P G classes ws' H) (hD : va_D A ws') (hS : va_S A s.heap H locs) (hdg : decode cc pc = .ok (.return_, 1)) :
    W p l e R s m args below meth c H locs cells slots (MQ below (ctQ G A none ws') args s cells slots A) (F0 m pc ls []) :=
  W.vret hx hb hr (fun t ht _ => ⟨rfl, by rw [ht]; exact hP, hD, hS.F ht⟩) hS.2.2 hdg hlocks
theorem ct_aret {a : Nat} {nm : String} (hx : p.tables.exec = Jvm.exec) (hb : c.code = cc) (hr : meth.sig.returnType = some (.object nm)) (hlocks : meth.locks = false) (hP : va_P G classes ws' H) (hD : va_D A ws') (hS : va_S A s.heap H locs) (hdg : decode cc pc = .ok (.areturn, 1)) :
    W p l e R s m args below meth c H locs cells slots (MQ below (ctQ G A (some (.ref a)) ws') args s cells slots A) (F0 m pc ls [.ref a]) :=
  W.aret hx hb hr (Or.inl ⟨_, rfl⟩) (Or.inr ⟨_, rfl⟩) (fun t ht _ => ⟨rfl, by rw [ht]; exact hP, hD, hS.F ht⟩) hS.2.2 hdg hlocks
/-- from the body's walk to the contract -/
theorem CT.ofW {y : MethodName} {n : Nat} {r : Option FieldType} {rm : Room} {as : List Value} {v : Option Value} {lvl : List (Nat × Value)} (hy : plainName y.cls = true) (hlen : (lg_sl as).length ≤ n) (hlv : lv_args 0 as = lvl)
    (body : ∀ (p : Program) (e : Env) (s : State) (m : MethodId) (args : Array Value) (below : List Frame) (meth : Method) (c : Code) (A : Nat → Prop) (ls : Array Slot) (QQ : State → Prop), QQ = MQ below (ctQ G A v ws') args s 0 0 A → p.tables.exec = Jvm.exec → c.code = cc → c.maxLocals = n → meth.sig.returnType = r → meth.locks = false → (∀ w ∈ wC, w.before args s = true) → nst s → s.vm.findClass y.cls = some m.cls →
      va_K G classes tys s → (∀ q : Nat, s.heap.size ≤ q → A q) → wS G A s s.heap [] ws → lv_has ls n lvl → W p l e rm s m args below meth c s.heap [] 0 0 QQ (F0 m 0 ls [])) : CT l y cc n r rm G tys as ws v ws' := by
  intro sz
  refine Met.ofW (cc := cc) (maxL := n) (ret := r) hy rfl ?_
  intro p e s m args below meth c s₁ B hml hv
  obtain ⟨rfl, hsz, hN, hP, hK, hD0⟩ := hv
  have hts := atoms_spec (ws := wM y cc n r) B.pre
  subst hsz
  have hl := lv_entry as (n := n) hlen
  rw [lg_entry_eq]
  rw [hlv] at hl
  exact body p e s m as.toArray below meth c (va_A ws s.heap.size) _ _ rfl B.exec B.bytes hml B.returns B.notSynchronized (fun w h => hts w (List.mem_cons_of_mem _ h)) hN (findClass_of_methodNamed B.named) hK (fun q h => Or.inr h) ⟨hP, hD0.self (sz := s.heap.size), va_S.rf⟩ hl
/-- behind a call: the callee's cells, at their places, hold w1; the rest is as it was -/
theorem ct_go {y : MethodName} {rest st0 : List Value} {v : Option Value} {wc wr w1 wb : va_W} {st1 : List Value} {a : Array Value} (hr : va_Run p l e R s m args below meth c H locs cells slots 0 0 (F0 m pc ls st0) rest (ctQ G (va_A wc H.size) v w1 a) (va_A wc H.size)) (hw : wS G A s H locs ws) (hA : ∀ q, s.heap.size ≤ q → A q)
    (isC isR isB : List Nat) (hC : isC.map (fun i => ws[i]?) = wc.map some) (hR : isR.map (fun i => ws[i]?) = wr.map some) (hn : va_nd isR = true) (hdis : ∀ i ∈ isR, i ∉ isC) (hnB : va_nd isB = true) (hB : isB.map (fun i => (wr ++ w1)[i]?) = wb.map some) (hB2 : isB.filterMap (fun i => (wr ++ w1)[i]?) = wb) (hst1 : v.toList ++ rest = st1)
    (kk : ∀ (H1 : Heap) (locs1 : List Loc), wS G A s H1 locs1 wb → W p l e R s m args below meth c H1 locs1 cells slots Q (F0 m (pc + 3) ls st1)) : W p l e R s m args below meth c H locs cells slots Q (F0 m pc ls st0) := by
  subst hst1
  obtain ⟨hP, hD, hS⟩ := hw
  have hFc := va_free (wc := wc) hD hS hA isC hC
  intro T hT X
  obtain ⟨v', st₀, t, T', L, h0, X', hL, e1, -, ⟨hv, hP1, hD1, hz, hk⟩, st⟩ := hr T hT X
  cases hv
  have hk' : ∀ q : Nat, q < H.size → ¬ va_A wc H.size q → t.heap[q]? = H[q]? := fun q h1 h2 => by rw [← h0]; exact hk q (by rw [h0]; exact h1) h2
  obtain ⟨hPj, hDj⟩ := va_join hP hD isC isR hC hR hn hdis hk' hFc hP1 hD1
  have hS1 : va_S A s.heap t.heap (locs ++ L) := by
    refine ⟨Nat.le_trans hS.1 (by rw [← h0]; exact hz), fun q h1 h2 => ?_, fun l hl => ?_⟩
    · rw [hk' q (Nat.lt_of_lt_of_le h1 hS.1) (fun h => h2 (hFc q h))]
      exact hS.2.1 q h1 h2
    · rcases List.mem_append.mp hl with h | h
      · exact hS.2.2 l h
      · exact hFc _ (hL l h)
  obtain ⟨t9, a9, b9⟩ := kk t.heap (locs ++ L) ⟨hPj.sub isB hB2, hDj.sub isB hnB hB, hS1⟩ T' e1 X'
  exact ⟨t9, st t9 a9, b9⟩
theorem ctV {y : MethodName} {b : ByteArray} {n nL k idx a : Nat} {own C : String} {r : Option FieldType} {rm : Room} {As : List Value} {v : Option Value} {wc wr w1 wb : va_W} {fs st1 : List Value} {ci : Nat} {cq : vw_C}
    (hx : p.tables.exec = Jvm.exec) (hb : c.code = cc) (hml : c.maxLocals = nL) (hown : s.vm.findClass own = some m.cls) (htc : ∀ w ∈ wC, w.before args s = true) (hN : nst s)
    (hM : CT l y b n r rm G tys (.ref a :: As) wc v w1) (h1 : Cond.methodLink own idx y ∈ wC) (h2 : Cond.instanceMethod y ∈ wC) (h3 : Cond.selects C y y ∈ wC) (h4 : Cond.initialized C ∈ wC) (h5 : Cond.code y b n r ∈ wC)
    (hd : y.cls = C ∧ y.cls ≠ "java/lang/invoke/MethodHandle" ∧ y.cls ≠ "java/lang/invoke/VarHandle" ∧ (parseMethodDescriptor y.desc).map (fun d => d.parameters.length) = some k) (hrm : rm.cells = 0 ∧ rm.slots = 0) (hR : rm.frames + 1 ≤ R.frames ∧ 8 + (n + 11) + rm.locals ≤ R.locals)
    (hK : va_K G classes tys s) (hw : wS G A s H locs ws) (hA : ∀ q, s.heap.size ≤ q → A q) (isC isR isB : List Nat) (hC : isC.map (fun i => ws[i]?) = wc.map some) (hC2 : isC.filterMap (fun i => ws[i]?) = wc) (hnC : va_nd isC = true) (hRr : isR.map (fun i => ws[i]?) = wr.map some) (hn : va_nd isR = true) (hdis : ∀ i ∈ isR, i ∉ isC) (hnB : va_nd isB = true) (hB : isB.map (fun i => (wr ++ w1)[i]?) = wb.map some) (hB2 : isB.filterMap (fun i => (wr ++ w1)[i]?) = wb)
    (q0 : Nat) (hq0 : wc[q0]? = some (a, .inr (ci, fs))) (hcq : classes[ci]? = some cq) (hcn : cq.1 = C) (hlen : As.length = k) (hls : ls.size = nL) {st0 : List Value} (hst : st0 = As.reverse ++ .ref a :: rest) (hst1 : v.toList ++ rest = st1) (hW : (rest.map fun v => v.category).sum ≤ 8) (hdg : decode cc pc = .ok (.invokevirtual idx, 3)) (hcs : cells ≤ R.cells ∧ slots ≤ R.slots)
    (kk : ∀ (H1 : Heap) (locs1 : List Loc), wS G A s H1 locs1 wb → W p l e R s m args below meth c H1 locs1 cells slots Q (F0 m (pc + 3) ls st1)) : W p l e R s m args below meth c H locs cells slots Q (F0 m pc ls st0) := by
  have hPc := hw.1.sub isC hC2
  have hDc := hw.2.1.sub isC hnC hC
  have hG : GoodIn wC (wsV own idx C y (wM y b n r)) := by
    intro w hw
    unfold wsV at hw
    rcases List.mem_append.mp hw with hw | hw
    · simp only [List.mem_cons, List.not_mem_nil, or_false] at hw
      rcases hw with rfl | rfl | rfl | rfl
      · exact ⟨h1, good_of_word (wC_good h1)⟩
      · exact ⟨h2, good_of_word (wC_good h2)⟩
      · exact ⟨h3, good_of_word (wC_good h3)⟩
      · exact ⟨h4, good_of_word (wC_good h4)⟩
    · exact gi_C h5 w hw
  subst hcn
  refine ct_go (y := y) (va_runV (As := As) (rest := rest) (C := cq.1) ⟨hx, hb, hml, hown, htc⟩ (hM H.size) (cwV k htc hG rfl hrm.1 hrm.2 hd hR) ⟨ctP_blind, va_recv hK hPc hcq hq0, fun U hU hW9 => ⟨rfl, by rw [hU], hN.warm hW9, by rw [hU]; exact hPc, va_K.moved hW9.alike hK, hDc.weaken (fun _ _ _ _ => trivial)⟩⟩ rfl hlen hls hst (lv_room hW) hdg ⟨by omega, by omega⟩) hw hA isC isR isB hC hRr hn hdis hnB hB hB2 hst1 kk
theorem ctS {y : MethodName} {b : ByteArray} {n nL k idx : Nat} {own : String} {r : Option FieldType} {rm : Room} {As : List Value} {v : Option Value} {wc wr w1 wb : va_W} {st1 : List Value}
    (hx : p.tables.exec = Jvm.exec) (hb : c.code = cc) (hml : c.maxLocals = nL) (hown : s.vm.findClass own = some m.cls) (htc : ∀ w ∈ wC, w.before args s = true) (hN : nst s)
    (hM : CT l y b n r rm G tys As wc v w1) (h1 : Cond.methodLink own idx y ∈ wC) (h2 : Cond.static y ∈ wC) (h4 : Cond.initialized own ∈ wC) (h5 : Cond.code y b n r ∈ wC)
    (hd : y.cls = own ∧ y.cls ≠ "java/lang/invoke/MethodHandle" ∧ y.cls ≠ "java/lang/invoke/VarHandle" ∧ (parseMethodDescriptor y.desc).map (fun d => d.parameters.length) = some k) (hrm : rm.cells = 0 ∧ rm.slots = 0) (hR : rm.frames + 1 ≤ R.frames ∧ 8 + (n + 11) + rm.locals ≤ R.locals)
    (hK : va_K G classes tys s) (hw : wS G A s H locs ws) (hA : ∀ q, s.heap.size ≤ q → A q) (isC isR isB : List Nat) (hC : isC.map (fun i => ws[i]?) = wc.map some) (hC2 : isC.filterMap (fun i => ws[i]?) = wc) (hnC : va_nd isC = true) (hRr : isR.map (fun i => ws[i]?) = wr.map some) (hn : va_nd isR = true) (hdis : ∀ i ∈ isR, i ∉ isC) (hnB : va_nd isB = true) (hB : isB.map (fun i => (wr ++ w1)[i]?) = wb.map some) (hB2 : isB.filterMap (fun i => (wr ++ w1)[i]?) = wb)
    (hlen : As.length = k) (hls : ls.size = nL) {st0 : List Value} (hst : st0 = As.reverse ++ rest) (hst1 : v.toList ++ rest = st1) (hW : (rest.map fun v => v.category).sum ≤ 8) (hdg : decode cc pc = .ok (.invokestatic idx, 3)) (hcs : cells ≤ R.cells ∧ slots ≤ R.slots)
    (kk : ∀ (H1 : Heap) (locs1 : List Loc), wS G A s H1 locs1 wb → W p l e R s m args below meth c H1 locs1 cells slots Q (F0 m (pc + 3) ls st1)) : W p l e R s m args below meth c H locs cells slots Q (F0 m pc ls st0) := by
  have hPc := hw.1.sub isC hC2
  have hDc := hw.2.1.sub isC hnC hC
  have hG : GoodIn wC (wsS own idx y (wM y b n r)) := by
    intro w hw
    unfold wsS at hw
    rcases List.mem_append.mp hw with hw | hw
    · simp only [List.mem_cons, List.not_mem_nil, or_false] at hw
      rcases hw with rfl | rfl | rfl
      · exact ⟨h1, good_of_word (wC_good h1)⟩
      · exact ⟨h2, good_of_word (wC_good h2)⟩
      · exact ⟨h4, good_of_word (wC_good h4)⟩
    · exact gi_C h5 w hw
  refine ct_go (y := y) (va_runS (As := As) (rest := rest) ⟨hx, hb, hml, hown, htc⟩ (hM H.size) (cwS k htc hG rfl hrm.1 hrm.2 hd hR) ⟨ctP_blind, fun U hU hW9 => ⟨rfl, by rw [hU], hN.warm hW9, by rw [hU]; exact hPc, va_K.moved hW9.alike hK, hDc.weaken (fun _ _ _ _ => trivial)⟩⟩ rfl hlen hls hst (lv_room hW) hdg ⟨by omega, by omega⟩) hw hA isC isR isB hC hRr hn hdis hnB hB hB2 hst1 kk
theorem ctSN {y : MethodName} {b : ByteArray} {n nL k idx : Nat} {own host C : String} {r : Option FieldType} {rm : Room} {As : List Value} {v : Option Value} {wc wr w1 wb : va_W} {st1 : List Value}
    (hx : p.tables.exec = Jvm.exec) (hb : c.code = cc) (hml : c.maxLocals = nL) (hown : s.vm.findClass own = some m.cls) (htc : ∀ w ∈ wC, w.before args s = true) (hN : nst s)
    (hM : CT l y b n r rm G tys As wc v w1) (h1 : va_Nw (.methodLinkNest own idx y host) s) (h2 : Cond.static y ∈ wC) (h4 : Cond.initialized C ∈ wC) (h5 : Cond.code y b n r ∈ wC)
    (hd : y.cls = C ∧ y.cls ≠ "java/lang/invoke/MethodHandle" ∧ y.cls ≠ "java/lang/invoke/VarHandle" ∧ (parseMethodDescriptor y.desc).map (fun d => d.parameters.length) = some k) (hrm : rm.cells = 0 ∧ rm.slots = 0) (hR : rm.frames + 1 ≤ R.frames ∧ 8 + (n + 11) + rm.locals ≤ R.locals)
    (hK : va_K G classes tys s) (hw : wS G A s H locs ws) (hA : ∀ q, s.heap.size ≤ q → A q) (isC isR isB : List Nat) (hC : isC.map (fun i => ws[i]?) = wc.map some) (hC2 : isC.filterMap (fun i => ws[i]?) = wc) (hnC : va_nd isC = true) (hRr : isR.map (fun i => ws[i]?) = wr.map some) (hn : va_nd isR = true) (hdis : ∀ i ∈ isR, i ∉ isC) (hnB : va_nd isB = true) (hB : isB.map (fun i => (wr ++ w1)[i]?) = wb.map some) (hB2 : isB.filterMap (fun i => (wr ++ w1)[i]?) = wb)
    (hlen : As.length = k) (hls : ls.size = nL) {st0 : List Value} (hst : st0 = As.reverse ++ rest) (hst1 : v.toList ++ rest = st1) (hW : (rest.map fun v => v.category).sum ≤ 8) (hdg : decode cc pc = .ok (.invokestatic idx, 3)) (hcs : cells ≤ R.cells ∧ slots ≤ R.slots)
    (kk : ∀ (H1 : Heap) (locs1 : List Loc), wS G A s H1 locs1 wb → W p l e R s m args below meth c H1 locs1 cells slots Q (F0 m (pc + 3) ls st1)) : W p l e R s m args below meth c H locs cells slots Q (F0 m pc ls st0) := by
  have hPc := hw.1.sub isC hC2
  have hDc := hw.2.1.sub isC hnC hC
  refine ct_go (y := y) (va_runSN (As := As) (rest := rest) ⟨hx, hb, hml, hown, htc⟩ (hM H.size) ⟨va_cnB k htc (gi_C h5) rfl hrm.1 hrm.2 h1 (by rw [hd.1]; exact htc _ h4) hd.2 hR, htc _ h2, trivial⟩ ⟨ctP_blind, fun U hU hW9 => ⟨rfl, by rw [hU], hN.warm hW9, by rw [hU]; exact hPc, va_K.moved hW9.alike hK, hDc.weaken (fun _ _ _ _ => trivial)⟩⟩ rfl hlen hls hst (lv_room hW) hdg ⟨by omega, by omega⟩) hw hA isC isR isB hC hRr hn hdis hnB hB hB2 hst1 kk
end CTA
