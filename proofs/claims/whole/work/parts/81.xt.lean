/-! Contracts of methods that throw: which class, the world behind it; one cell of six slots comes. -/
abbrev xISE : String := "java/lang/IllegalStateException"
abbrev xIOE : String := "java/lang/IndexOutOfBoundsException"
abbrev xNSE : String := "java/util/NoSuchElementException"
abbrev xnm : List String := ["java/lang/RuntimeException", "java/lang/Exception"]
def exN (k : Int32) : String := if k = 1 then xISE else if k = 2 then xIOE else xNSE
def xsC : List String := [xISE, xIOE, xNSE]
def xsD : List MethodName := [⟨"java/lang/RuntimeException", "<init>", "(Ljava/lang/String;)V"⟩, ⟨"java/lang/Exception", "<init>", "(Ljava/lang/String;)V"⟩, ⟨"java/lang/Throwable", "<init>", "(Ljava/lang/String;)V"⟩]
def xsT : List (Nat × String) := [(262, "power has gone"), (267, "no such series"), (214, "no such size"), (219, "no such chunk"), (221, "a chunk has no such number"), (223, "no such group"), (240, "a group has no such number")]
def xsN : List (String × String) := [(xIOE, xISE), (xNSE, xISE), (xNSE, xIOE)]
/-- what a throw rests on beside the good words -/
def xst (A : Nat → Prop) (U : State) (H : Heap) : Prop :=
  (vx_Zq Bundle.tN "UNASSIGNED_STACK" Bundle.steD A U H ∧ vx_Zq Bundle.tN "SUPPRESSED_SENTINEL" Bundle.listD A U H) ∧ ((∀ E ∈ xsC, va_Nw (.castable E E) U) ∧ ∀ y ∈ xsD, va_Nw (.declares y) U) ∧ (∀ q ∈ xsT, ∃ a, vk_R RX9 q.1 q.2 a U) ∧ ∀ q ∈ xsN, va_Nc q.1 q.2 U
theorem xst.to {A B : Nat → Prop} {s U : State} {H H1 : Heap} (hW : s.WarmedH U.vm) (h : xst A s H) (hq : ∀ a : Nat, a < H.size → ¬ A a → H1[a]? = H[a]?) (hAB : ∀ q, B q → A q) : xst B U H1 := by
  obtain ⟨⟨h1, h2⟩, ⟨h3, h3d⟩, h4, h5⟩ := h
  refine ⟨⟨((h1.kept hq).narrow hAB).moved hW.alike, ((h2.kept hq).narrow hAB).moved hW.alike⟩, ⟨fun E hE => va_Nw.warmC hW (h3 E hE), fun y hy => va_Nw.warmD hW (h3d y hy)⟩, fun q hq => ?_, fun q hq => (h5 q hq).moved hW.alike⟩
  obtain ⟨a, ha⟩ := h4 q hq
  exact ⟨a, ha.warm hW⟩
theorem xst.same {A : Nat → Prop} {u U : State} {H : Heap} (hv : u.vm = U.vm) (h : xst A u H) : xst A U H := by
  obtain ⟨⟨h1, h2⟩, ⟨h3, h3d⟩, h4, h5⟩ := h
  have ha : u.vm.Alike U.vm := by rw [hv]; exact Vm.Alike.refl _
  refine ⟨⟨h1.moved ha, h2.moved ha⟩, ⟨fun E hE => va_Nw.same rfl hv (h3 E hE), fun y hy => va_Nw.same rfl hv (h3d y hy)⟩, fun q hq => ?_, fun q hq => (h5 q hq).moved ha⟩
  obtain ⟨a, ha⟩ := h4 q hq
  exact ⟨a, ha.same hv.symm⟩
def xtP (G : va_G) (tys : List (ClassId × FieldType)) (as : List Value) (ws : va_W) (sz : Nat) : Array Value → State → Prop := va_Pc as (fun U => U.heap.size = sz ∧ nst U ∧ xst (va_A ws sz) U U.heap ∧ va_P G classes ws U.heap ∧ va_K G classes tys U ∧ va_D (fun _ => True) ws)
theorem xtP_blind {G : va_G} {tys : List (ClassId × FieldType)} {as : List Value} {ws : va_W} {sz : Nat} : FrameBlind (xtP G tys as ws sz) := fun a U g mk q => by
  obtain ⟨q0, q1, qn, qX, qP, qK, qD⟩ := q
  exact ⟨q0, q1, nst.same (u := U) (U := U.calling g mk a) rfl qn, xst.same (u := U) (U := U.calling g mk a) rfl qX, qP, va_K.moved (u := U) (U := U.calling g mk a) (Vm.Alike.refl U.vm) qK, qD⟩
def xtX (G : va_G) (A : Nat → Prop) (k : Int32) (ws' : va_W) : String → State → State → Prop := fun E st t => E = exN k ∧ va_P G classes ws' t.heap ∧ va_D A ws' ∧ va_F A st t
def xtF : Array Value → State → Outcome → State → Prop := fun _ _ _ _ => False
def XT (l : Launch) (y : MethodName) (b : ByteArray) (n : Nat) (r : Option FieldType) (rm : Room) (G : va_G) (tys : List (ClassId × FieldType)) (as : List Value) (ws : va_W) (k : Int32) (ws' : va_W) : Prop :=
  ∀ sz : Nat, vx_Met l y (wM y b n r) rm (xtP G tys as ws sz) xtF (xtX G (va_A ws sz) k ws') 1 6 (va_A ws sz)
/-- the throw's words: (index of the class, of the constructor, the class) -/
theorem xg_264 : ∀ w ∈ Cond.classLink RX9 260 xISE :: Cond.initialized xISE :: vx_atS RX9 264 xISE xnm, vx_ot w = true := List.all_eq_true.mp (show (Cond.classLink RX9 260 xISE :: Cond.initialized xISE :: vx_atS RX9 264 xISE xnm).all vx_ot = true by decide +kernel)
theorem xg_269 : ∀ w ∈ Cond.classLink RX9 265 xIOE :: Cond.initialized xIOE :: vx_atS RX9 269 xIOE xnm, vx_ot w = true := List.all_eq_true.mp (show (Cond.classLink RX9 265 xIOE :: Cond.initialized xIOE :: vx_atS RX9 269 xIOE xnm).all vx_ot = true by decide +kernel)
abbrev xL216 : List Cond := (xs_own RX9 216 xNSE 13 prog_20_method_4_code "java/lang/RuntimeException" ["java/lang/Exception"]).filter vx_no
theorem xg_216 : ∀ w ∈ Cond.classLink RX9 212 xNSE :: Cond.initialized xNSE :: xL216, vx_ot w = true := List.all_eq_true.mp (show (Cond.classLink RX9 212 xNSE :: Cond.initialized xNSE :: xL216).all vx_ot = true by decide +kernel)
theorem xn_264 : ∀ w ∈ (vx_atS RX9 264 xISE xnm).filter (fun w => !goodWord w), w ∈ Cond.castable xISE xISE :: xsD.map Cond.declares := fun w h => of_decide_eq_true (List.all_eq_true.mp (show ((vx_atS RX9 264 xISE xnm).filter (fun w => !goodWord w)).all (fun w => decide (w ∈ Cond.castable xISE xISE :: xsD.map Cond.declares)) = true by decide +kernel) w h)
theorem xn_269 : ∀ w ∈ (vx_atS RX9 269 xIOE xnm).filter (fun w => !goodWord w), w ∈ Cond.castable xIOE xIOE :: xsD.map Cond.declares := fun w h => of_decide_eq_true (List.all_eq_true.mp (show ((vx_atS RX9 269 xIOE xnm).filter (fun w => !goodWord w)).all (fun w => decide (w ∈ Cond.castable xIOE xIOE :: xsD.map Cond.declares)) = true by decide +kernel) w h)
theorem xn_216 : ∀ w ∈ xL216.filter (fun w => !goodWord w), w ∈ Cond.castable xNSE xNSE :: xsD.map Cond.declares := fun w h => of_decide_eq_true (List.all_eq_true.mp (show (xL216.filter (fun w => !goodWord w)).all (fun w => decide (w ∈ Cond.castable xNSE xNSE :: xsD.map Cond.declares)) = true by decide +kernel) w h)
theorem xb_264 : ∀ w ∈ Cond.classLink RX9 260 xISE :: Cond.initialized xISE :: (vx_atS RX9 264 xISE xnm).filter goodWord, w ∈ wC := List.forall_mem_cons.mpr ⟨wC_mk (by decide +kernel) (by decide +kernel), List.forall_mem_cons.mpr ⟨wC_mk (by decide +kernel) (by decide +kernel), fun w h => wC_mk (of_decide_eq_true (List.all_eq_true.mp (show ((vx_atS RX9 264 xISE xnm).filter goodWord).all (fun w => decide (w ∈ lw_tbl)) = true by decide +kernel) w h)) (List.mem_filter.mp h).2⟩⟩
theorem xb_269 : ∀ w ∈ Cond.classLink RX9 265 xIOE :: Cond.initialized xIOE :: (vx_atS RX9 269 xIOE xnm).filter goodWord, w ∈ wC := List.forall_mem_cons.mpr ⟨wC_mk (by decide +kernel) (by decide +kernel), List.forall_mem_cons.mpr ⟨wC_mk (by decide +kernel) (by decide +kernel), fun w h => wC_mk (of_decide_eq_true (List.all_eq_true.mp (show ((vx_atS RX9 269 xIOE xnm).filter goodWord).all (fun w => decide (w ∈ lw_tbl)) = true by decide +kernel) w h)) (List.mem_filter.mp h).2⟩⟩
theorem xb_216 : ∀ w ∈ Cond.classLink RX9 212 xNSE :: Cond.initialized xNSE :: xL216.filter goodWord, w ∈ wC := List.forall_mem_cons.mpr ⟨wC_mk (by decide +kernel) (by decide +kernel), List.forall_mem_cons.mpr ⟨wC_mk (by decide +kernel) (by decide +kernel), fun w h => wC_mk (of_decide_eq_true (List.all_eq_true.mp (show (xL216.filter goodWord).all (fun w => decide (w ∈ lw_tbl)) = true by decide +kernel) w h)) (List.mem_filter.mp h).2⟩⟩
section XTA
variable {p : Program} {l : Launch} {e : Env} {R : Room} {s : State} {m : MethodId} {args : Array Value} {below : List Frame} {meth : Method} {c : Code} {H : Heap} {locs : List Loc} {cells slots : Nat} {Q : State → Prop}
variable {G : va_G} {tys : List (ClassId × FieldType)} {ws ws' : va_W} {A : Nat → Prop} {cc : ByteArray} {pc : Nat} {ls : Array Slot} {rest : List Value}
theorem xt_out {k : Int32} {q : Addr} {ce : Cell} (ht : ∀ x ∈ c.exceptionTable.toList, False) (hlocks : meth.locks = false) (hw : wS G A s H locs ws') (hcell : H[q]? = some ce) (hv : ce.vm = .none) (hcl : s.vm.findClass (exN k) = some ce.cls) :
    vx_W p l e R s m args below meth c H locs 1 6 (vx_MQ below xtF (xtX G A k ws') args s 1 6 A) (F0 m pc ls rest) q :=
  vx_out (fun x hx => (ht x hx).elim) hlocks hcell hv hcl (fun t ht _ => ⟨rfl, by rw [ht]; exact hw.1, hw.2.1, hw.2.2.F ht⟩) hw.2.2.2.2 (Nat.le_refl _) (Nat.le_refl _)
theorem xt_hat {E : String} {ik ic : Nat} (htc : ∀ w ∈ wC, w.before args s = true) (hb1 : ∀ w ∈ Cond.classLink RX9 ik E :: Cond.initialized E :: (vx_atS RX9 ic E xnm).filter goodWord, w ∈ wC) (hn1 : ∀ w ∈ (vx_atS RX9 ic E xnm).filter (fun w => !goodWord w), w ∈ Cond.castable E E :: xsD.map Cond.declares) (hX : xst A s s.heap) (hE : E ∈ xsC) : ∀ w ∈ vx_atS RX9 ic E xnm, w.before args s = true :=
  vx_hat (fun w h => htc w (hb1 w (List.mem_cons_of_mem _ (List.mem_cons_of_mem _ h)))) hn1 (vx_c (va_Nw.use rfl (hX.2.1.1 E hE)) (fun w hw => by
    obtain ⟨y, hy, rfl⟩ := List.mem_map.mp hw
    exact va_Nw.use rfl (hX.2.1.2 y hy)))
theorem xt_go {Hh : Heap} {k : Int32} (hw : wS G A s H locs ws') {E : String} (hE : exN k = E) : ∀ t : State, s.vm.Alike t.vm → H.size ≤ t.heap.size → (∀ q : Nat, q < H.size → t.heap[q]? = H[q]?) → xtX G A k ws' E s t := by
  intro t _ h1 h2
  refine ⟨hE.symm, hw.1.kept (fun k x hx => h2 _ ((hw.1 k x hx).lt)), hw.2.1, Nat.le_trans hw.2.2.1 h1, fun q h3 h4 => ?_⟩
  rw [h2 q (Nat.lt_of_lt_of_le h3 hw.2.2.1)]
  exact hw.2.2.2.1 q h3 h4
theorem xt_throw {k : Int32} {text : String} {is n : Nat} (hx : p.tables.exec = Jvm.exec) (hb : c.code = cc) (hml : c.maxLocals = n) (hl : l.stackTraces = false) (hown : s.vm.findClass RX9 = some m.cls) (htc : ∀ w ∈ wC, w.before args s = true) (ht : ∀ x ∈ c.exceptionTable.toList, False) (hlocks : meth.locks = false) (hX : xst A s s.heap) (hE : exN k = xNSE) (hT : (is, text) ∈ xsT) (hw : wS G A s H locs ws') (hsize : ls.size = n)
    (d0 : decode cc pc = .ok (.new 212, 3)) (d3 : decode cc (pc + 3) = .ok (.dup, 1)) (d4 : decode cc (pc + 4) = .ok (.ldc is, 2)) (d6 : decode cc (pc + 6) = .ok (.invokespecial 216, 3)) (d9 : decode cc (pc + 9) = .ok (.athrow, 1)) (hR1 : 6 ≤ R.frames) (hR2 : 82 ≤ R.locals) (hR3 : 1 ≤ R.cells) (hR4 : 6 ≤ R.slots) :
    W p l e R s m args below meth c H locs 0 0 (vx_MQ below xtF (xtX G A k ws') args s 1 6 A) (F0 m pc ls []) := by
  obtain ⟨sa, hstr⟩ := hX.2.2.1 _ hT
  have hat : ∀ w ∈ xL216, w.before args s = true := vx_hat (fun w h => htc w (xb_216 w (List.mem_cons_of_mem _ (List.mem_cons_of_mem _ h)))) xn_216 (vx_c (va_Nw.use rfl (hX.2.1.1 xNSE (by decide))) (fun w hw => by
    obtain ⟨y, hy, rfl⟩ := List.mem_map.mp hw
    exact va_Nw.use rfl (hX.2.1.2 y hy)))
  exact xs_throw hx hb hl hown (by decide +kernel) (by decide +kernel) (List.all_eq_true.mp (show ["java/lang/Exception"].all Bundle.fit = true by decide +kernel)) (by decide +kernel) (by decide +kernel) (by decide +kernel) (by decide +kernel) (htc _ (xb_216 _ List.mem_cons_self)) (htc _ (xb_216 _ (List.mem_cons_of_mem _ List.mem_cons_self))) hstr hat xg_216 hX.1.1 hX.1.2 hw.2.2 (hsize.trans hml.symm) d0 d3 d4 d6 d9 (fun x hx => (ht x hx).elim) (by show 1 + 4 < R.frames; omega) (by show 0 + (13 * (1 + 2) + 43) ≤ R.locals; omega) (by omega) (by omega) hlocks (xt_go (Hh := H) hw hE) hw.2.2.2.2 (Nat.le_refl _) (Nat.le_refl _)
theorem xt_throwW {k : Int32} {E text : String} {ik is ic n : Nat} (hx : p.tables.exec = Jvm.exec) (hb : c.code = cc) (hml : c.maxLocals = n) (hl : l.stackTraces = false) (hown : s.vm.findClass RX9 = some m.cls) (htc : ∀ w ∈ wC, w.before args s = true) (ht : ∀ x ∈ c.exceptionTable.toList, False) (hlocks : meth.locks = false) (hX : xst A s s.heap) (hE : exN k = E) (hC : E ∈ xsC) (hfit : Bundle.fit E = true)
    (hb1 : ∀ w ∈ Cond.classLink RX9 ik E :: Cond.initialized E :: (vx_atS RX9 ic E xnm).filter goodWord, w ∈ wC) (hn1 : ∀ w ∈ (vx_atS RX9 ic E xnm).filter (fun w => !goodWord w), w ∈ Cond.castable E E :: xsD.map Cond.declares) (hg : ∀ w ∈ Cond.classLink RX9 ik E :: Cond.initialized E :: vx_atS RX9 ic E xnm, vx_ot w = true) (hT : (is, text) ∈ xsT) (hw : wS G A s H locs ws') (hsize : ls.size = n)
    (d0 : decode cc pc = .ok (.new ik, 3)) (d3 : decode cc (pc + 3) = .ok (.dup, 1)) (d4 : decode cc (pc + 4) = .ok (.ldc_w is, 3)) (d6 : decode cc (pc + 7) = .ok (.invokespecial ic, 3)) (d9 : decode cc (pc + 10) = .ok (.athrow, 1)) (hR1 : 6 ≤ R.frames) (hR2 : 82 ≤ R.locals) (hR3 : 1 ≤ R.cells) (hR4 : 6 ≤ R.slots) :
    W p l e R s m args below meth c H locs 0 0 (vx_MQ below xtF (xtX G A k ws') args s 1 6 A) (F0 m pc ls []) := by
  obtain ⟨sa, hstr⟩ := hX.2.2.1 _ hT
  exact vx_throwSW hx hb hl hown hfit (List.all_eq_true.mp (show xnm.all Bundle.fit = true by decide +kernel)) (htc _ (hb1 _ List.mem_cons_self)) (htc _ (hb1 _ (List.mem_cons_of_mem _ List.mem_cons_self))) hstr (xt_hat htc hb1 hn1 hX hC) hg hX.1.1 hX.1.2 hw.2.2 (hsize.trans hml.symm) d0 d3 d4 d6 d9 (fun x hx => (ht x hx).elim) (by show 2 + 3 < R.frames; omega) (by show 0 + (13 * (2 + 1) + 43) ≤ R.locals; omega) (by omega) (by omega) hlocks (xt_go (Hh := H) hw hE) hw.2.2.2.2 (Nat.le_refl _) (Nat.le_refl _)
theorem XT.ofW {y : MethodName} {n : Nat} {r : Option FieldType} {rm : Room} {as : List Value} {k : Int32} {lvl : List (Nat × Value)} (hy : plainName y.cls = true) (hlen : (lg_sl as).length ≤ n) (hlv : lv_args 0 as = lvl)
    (body : ∀ (p : Program) (e : Env) (s : State) (m : MethodId) (args : Array Value) (below : List Frame) (meth : Method) (c : Code) (A : Nat → Prop) (ls : Array Slot) (QQ : State → Prop), QQ = vx_MQ below xtF (xtX G A k ws') args s 1 6 A → (∀ x ∈ c.exceptionTable.toList, False) → xst A s s.heap → p.tables.exec = Jvm.exec → c.code = cc → c.maxLocals = n → meth.sig.returnType = r → meth.locks = false → (∀ w ∈ wC, w.before args s = true) → nst s → s.vm.findClass y.cls = some m.cls →
      va_K G classes tys s → (∀ q : Nat, s.heap.size ≤ q → A q) → wS G A s s.heap [] ws → lv_has ls n lvl → W p l e rm s m args below meth c s.heap [] 0 0 QQ (F0 m 0 ls [])) : XT l y cc n r rm G tys as ws k ws' := by
  intro sz
  refine vx_ofW (cc := cc) (maxL := n) (ret := r) hy rfl ?_
  intro p e s m args below meth c s₁ B hml ht hv
  obtain ⟨rfl, hsz, hN, hX, hP, hK, hD0⟩ := hv
  have hts := atoms_spec (ws := wM y cc n r) B.pre
  subst hsz
  have hl := lv_entry as (n := n) hlen
  rw [lg_entry_eq]
  rw [hlv] at hl
  exact body p e s m as.toArray below meth c (va_A ws s.heap.size) _ _ rfl ht hX B.exec B.bytes hml B.returns B.notSynchronized (fun w h => hts w (List.mem_cons_of_mem _ h)) hN (findClass_of_methodNamed B.named) hK (fun q h => Or.inr h) ⟨hP, hD0.self (sz := s.heap.size), va_S.rf⟩ hl
theorem xtV {y : MethodName} {b : ByteArray} {n nL k idx a : Nat} {own C : String} {r : Option FieldType} {rm : Room} {As : List Value} {kx : Int32} {wc wr w1 wb : va_W} {fs : List Value} {ci : Nat} {cq : vw_C}
    (hx : p.tables.exec = Jvm.exec) (hb : c.code = cc) (hml : c.maxLocals = nL) (hown : s.vm.findClass own = some m.cls) (htc : ∀ w ∈ wC, w.before args s = true) (hN : nst s) (hX : xst A s s.heap)
    (hM : XT l y b n r rm G tys (.ref a :: As) wc kx w1) (h1 : Cond.methodLink own idx y ∈ wC) (h2 : Cond.instanceMethod y ∈ wC) (h3 : Cond.selects C y y ∈ wC) (h4 : Cond.initialized C ∈ wC) (h5 : Cond.code y b n r ∈ wC)
    (hd : y.cls = C ∧ y.cls ≠ "java/lang/invoke/MethodHandle" ∧ y.cls ≠ "java/lang/invoke/VarHandle" ∧ (parseMethodDescriptor y.desc).map (fun d => d.parameters.length) = some k) (hrm : rm.cells = 1 ∧ rm.slots = 6) (hR : rm.frames + 1 ≤ R.frames ∧ 8 + (n + 11) + rm.locals ≤ R.locals)
    (hK : va_K G classes tys s) (hw : wS G A s H locs ws) (hA : ∀ q, s.heap.size ≤ q → A q) (isC isR isB : List Nat) (hC : isC.map (fun i => ws[i]?) = wc.map some) (hC2 : isC.filterMap (fun i => ws[i]?) = wc) (hnC : va_nd isC = true) (hRr : isR.map (fun i => ws[i]?) = wr.map some) (hn : va_nd isR = true) (hdis : ∀ i ∈ isR, i ∉ isC) (hnB : va_nd isB = true) (hB : isB.map (fun i => (wr ++ w1)[i]?) = wb.map some) (hB2 : isB.filterMap (fun i => (wr ++ w1)[i]?) = wb)
    (q0 : Nat) (hq0 : wc[q0]? = some (a, .inr (ci, fs))) (hcq : classes[ci]? = some cq) (hcn : cq.1 = C) (hlen : As.length = k) (hls : ls.size = nL) {st0 : List Value} (hst : st0 = As.reverse ++ .ref a :: rest) (hW : (rest.map fun v => v.category).sum ≤ 8) (hdg : decode cc pc = .ok (.invokevirtual idx, 3)) (hcs : cells + 1 ≤ R.cells ∧ slots + 6 ≤ R.slots)
    (kk : ∀ (H1 : Heap) (locs1 : List Loc) (q : Addr) (ce : Cell), wS G A s H1 locs1 wb → H1[q]? = some ce → ce.vm = .none → s.vm.findClass (exN kx) = some ce.cls → vx_W p l e R s m args below meth c H1 locs1 (cells + 1) (slots + 6) Q (F0 m pc ls rest) q) : W p l e R s m args below meth c H locs cells slots Q (F0 m pc ls st0) := by
  have hPc := hw.1.sub isC hC2
  have hDc := hw.2.1.sub isC hnC hC
  have hG : GoodIn wC (wsV own idx C y (wM y b n r)) := by
    intro w hw
    unfold wsV at hw
    rcases List.mem_append.mp hw with hw | hw
    · simp only [List.mem_cons, List.not_mem_nil, or_false] at hw
      rcases hw with rfl | rfl | rfl | rfl
      · exact ⟨h1, good_of_word (wC_good h1)⟩
      · exact ⟨h2, good_of_word (wC_good h2)⟩
      · exact ⟨h3, good_of_word (wC_good h3)⟩
      · exact ⟨h4, good_of_word (wC_good h4)⟩
    · exact gi_C h5 w hw
  subst hcn
  obtain ⟨hP, hD, hS⟩ := id hw
  have hFc := va_free (wc := wc) hD hS hA isC hC
  have hr := vx_runV (p := p) (e := e) (below := below) (meth := meth) (locs := locs) (cells := cells) (slots := slots) (g := F0 m pc ls st0) (As := As) (rest := rest) (C := cq.1) ⟨hx, hb, hml, hown, htc⟩ (hM H.size) (cwV k htc hG rfl hrm.1 hrm.2 hd hR) ⟨xtP_blind, va_recv hK hPc hcq hq0, fun U hU hW9 => ⟨rfl, by rw [hU], hN.warm hW9, xst.to hW9 hX (fun a9 g1 g2 => by rw [hU]; exact hS.2.1 a9 g1 g2) hFc, by rw [hU]; exact hPc, va_K.moved hW9.alike hK, hDc.weaken (fun _ _ _ _ => trivial)⟩⟩ rfl hlen hls hst (lv_room hW) hdg hcs
  intro T hT X
  rcases hr T hT X with ⟨v, st₀, t, T', L, h0, X', hL, e1, e2, hq, st⟩ | ⟨q, st₀, t, T', L, E, ce, h0, X', hL, e1, e2, ⟨hEx, hP1, hD1, hz, hk⟩, hce, hcv, hcl, st⟩
  · exact hq.elim
  · subst hEx
    have hk' : ∀ q : Nat, q < H.size → ¬ va_A wc H.size q → t.heap[q]? = H[q]? := fun q h1 h2 => by rw [← h0]; exact hk q (by rw [h0]; exact h1) h2
    obtain ⟨hPj, hDj⟩ := va_join hP hD isC isR hC hRr hn hdis hk' hFc hP1 hD1
    have hS1 : va_S A s.heap t.heap (locs ++ L) := by
      refine ⟨Nat.le_trans hS.1 (by rw [← h0]; exact hz), fun q h1 h2 => ?_, fun l hl => ?_⟩
      · rw [hk' q (Nat.lt_of_lt_of_le h1 hS.1) (fun h => h2 (hFc q h))]
        exact hS.2.1 q h1 h2
      · rcases List.mem_append.mp hl with h | h
        · exact hS.2.2 l h
        · exact hFc _ (hL l h)
    obtain ⟨t9, a9, b9⟩ := kk t.heap (locs ++ L) q ce ⟨hPj.sub isB hB2, hDj.sub isB hnB hB, hS1⟩ hce hcv hcl T' e1 X'
    exact ⟨t9, st.trans a9, b9⟩
end XTA
