/-! contracts of constructors: the new cells' addresses are said to be there -/
def NT (l : Launch) (y : MethodName) (b : ByteArray) (n : Nat) (rm : Room) (G : va_G) (tys : List (ClassId × FieldType)) (as : List Value) (ws : va_W) (mc ms : Nat) (post : va_W → Prop) : Prop :=
  ∀ sz : Nat, Met l y (wM y b n none) rm (ctP G tys as ws sz) (etQ G (va_A ws sz) none post) mc ms (va_A ws sz)
section NTA
variable {p : Program} {l : Launch} {e : Env} {R : Room} {s : State} {m : MethodId} {args : Array Value} {below : List Frame} {meth : Method} {c : Code} {H : Heap} {locs : List Loc} {cells slots : Nat} {Q : State → Prop}
variable {G : va_G} {tys : List (ClassId × FieldType)} {ws ws' : va_W} {A : Nat → Prop} {cc : ByteArray} {pc : Nat} {ls : Array Slot} {rest : List Value}
theorem NT.ofW {y : MethodName} {n : Nat} {rm : Room} {as : List Value} {mc ms : Nat} {post : va_W → Prop} {lvl : List (Nat × Value)} (hy : plainName y.cls = true) (hlen : (lg_sl as).length ≤ n) (hlv : lv_args 0 as = lvl)
    (body : ∀ (p : Program) (e : Env) (s : State) (m : MethodId) (args : Array Value) (below : List Frame) (meth : Method) (c : Code) (A : Nat → Prop) (ls : Array Slot) (QQ : State → Prop), QQ = MQ below (etQ G A none post) args s mc ms A → meth.name = y.name → p.tables.exec = Jvm.exec → c.code = cc → c.maxLocals = n → meth.sig.returnType = none → meth.locks = false → (∀ w ∈ wC, w.before args s = true) → nst s → s.vm.findClass y.cls = some m.cls →
      va_K G classes tys s → (∀ q : Nat, s.heap.size ≤ q → A q) → wS G A s s.heap [] ws → lv_has ls n lvl → W p l e rm s m args below meth c s.heap [] 0 0 QQ (F0 m 0 ls [])) : NT l y cc n rm G tys as ws mc ms post := by
  intro sz
  refine Met.ofW (cc := cc) (maxL := n) (ret := none) hy rfl ?_
  intro p e s m args below meth c s₁ B hml hv
  obtain ⟨rfl, hsz, hN, hP, hK, hD0⟩ := hv
  have hts := atoms_spec (ws := wM y cc n none) B.pre
  subst hsz
  have hl := lv_entry as (n := n) hlen
  rw [lg_entry_eq]
  rw [hlv] at hl
  exact body p e s m as.toArray below meth c (va_A ws s.heap.size) _ _ rfl (name_of_methodNamed B.named B.method).1 B.exec B.bytes hml B.returns B.notSynchronized (fun w h => hts w (List.mem_cons_of_mem _ h)) hN (findClass_of_methodNamed B.named) hK (fun q h => Or.inr h) ⟨hP, hD0.self (sz := s.heap.size), va_S.rf⟩ hl
theorem ntI {y : MethodName} {b : ByteArray} {n nL k idx a : Nat} {own : String} {rm : Room} {As : List Value} {mc ms : Nat} {post : va_W → Prop} {wc wr : va_W}
    (hx : p.tables.exec = Jvm.exec) (hb : c.code = cc) (hml : c.maxLocals = nL) (hown : s.vm.findClass own = some m.cls) (htc : ∀ w ∈ wC, w.before args s = true) (hN : nst s)
    (hM : NT l y b n rm G tys (.ref a :: As) wc mc ms post) (h1 : Cond.methodLink own idx y ∈ wC) (h2 : Cond.instanceMethod y ∈ wC) (h4 : Cond.initialized y.cls ∈ wC) (h5 : Cond.code y b n none ∈ wC) (hy1 : y.name = "<init>")
    (hd : y.cls ≠ "java/lang/invoke/MethodHandle" ∧ y.cls ≠ "java/lang/invoke/VarHandle" ∧ (parseMethodDescriptor y.desc).map (fun d => d.parameters.length) = some k) (hrm : rm.cells = mc ∧ rm.slots = ms) (hR : rm.frames + 1 ≤ R.frames ∧ 8 + (n + 11) + rm.locals ≤ R.locals)
    (hK : va_K G classes tys s) (hw : wS G A s H locs ws) (hA : ∀ q, s.heap.size ≤ q → A q) (isC isR : List Nat) (hC : isC.map (fun i => ws[i]?) = wc.map some) (hC2 : isC.filterMap (fun i => ws[i]?) = wc) (hnC : va_nd isC = true) (hRr : isR.map (fun i => ws[i]?) = wr.map some) (hn : va_nd isR = true) (hdis : ∀ i ∈ isR, i ∉ isC)
    (hlen : As.length = k) (hls : ls.size = nL) {st0 : List Value} (hst : st0 = As.reverse ++ .ref a :: rest) (hW : (rest.map fun v => v.category).sum ≤ 8) (hdg : decode cc pc = .ok (.invokespecial idx, 3)) (hcs : cells + mc ≤ R.cells ∧ slots + ms ≤ R.slots)
    (kk : ∀ (w1 : va_W), post w1 → ∀ (H1 : Heap) (locs1 : List Loc), wS G A s H1 locs1 (wr ++ w1) → W p l e R s m args below meth c H1 locs1 (cells + mc) (slots + ms) Q (F0 m (pc + 3) ls rest)) : W p l e R s m args below meth c H locs cells slots Q (F0 m pc ls st0) := by
  have hPc := hw.1.sub isC hC2
  have hDc := hw.2.1.sub isC hnC hC
  exact ct_goE (va_runI (As := As) (rest := rest) ⟨hx, hb, hml, hown, htc⟩ (hM H.size) (cwI k htc (gi_C h5) rfl hrm.1 hrm.2 (htc _ h4) (htc _ h1) (htc _ h2) hy1 hd hR) ⟨ctP_blind, fun U hU hW9 => ⟨rfl, by rw [hU], hN.warm hW9, by rw [hU]; exact hPc, va_K.moved hW9.alike hK, hDc.weaken (fun _ _ _ _ => trivial)⟩⟩ rfl hlen hls hst (lv_room hW) hdg hcs) hw hA isC isR hC hRr hn hdis rfl kk
theorem ntIN {y : MethodName} {b : ByteArray} {n nL k idx a : Nat} {own host : String} {rm : Room} {As : List Value} {mc ms : Nat} {post : va_W → Prop} {wc wr : va_W}
    (hx : p.tables.exec = Jvm.exec) (hb : c.code = cc) (hml : c.maxLocals = nL) (hown : s.vm.findClass own = some m.cls) (htc : ∀ w ∈ wC, w.before args s = true) (hN : nst s)
    (hM : NT l y b n rm G tys (.ref a :: As) wc mc ms post) (h1 : va_Nw (.methodLinkNest own idx y host) s) (h2 : Cond.instanceMethod y ∈ wC) (h4 : Cond.initialized y.cls ∈ wC) (h5 : Cond.code y b n none ∈ wC) (hy1 : y.name = "<init>")
    (hd : y.cls ≠ "java/lang/invoke/MethodHandle" ∧ y.cls ≠ "java/lang/invoke/VarHandle" ∧ (parseMethodDescriptor y.desc).map (fun d => d.parameters.length) = some k) (hrm : rm.cells = mc ∧ rm.slots = ms) (hR : rm.frames + 1 ≤ R.frames ∧ 8 + (n + 11) + rm.locals ≤ R.locals)
    (hK : va_K G classes tys s) (hw : wS G A s H locs ws) (hA : ∀ q, s.heap.size ≤ q → A q) (isC isR : List Nat) (hC : isC.map (fun i => ws[i]?) = wc.map some) (hC2 : isC.filterMap (fun i => ws[i]?) = wc) (hnC : va_nd isC = true) (hRr : isR.map (fun i => ws[i]?) = wr.map some) (hn : va_nd isR = true) (hdis : ∀ i ∈ isR, i ∉ isC)
    (hlen : As.length = k) (hls : ls.size = nL) {st0 : List Value} (hst : st0 = As.reverse ++ .ref a :: rest) (hW : (rest.map fun v => v.category).sum ≤ 8) (hdg : decode cc pc = .ok (.invokespecial idx, 3)) (hcs : cells + mc ≤ R.cells ∧ slots + ms ≤ R.slots)
    (kk : ∀ (w1 : va_W), post w1 → ∀ (H1 : Heap) (locs1 : List Loc), wS G A s H1 locs1 (wr ++ w1) → W p l e R s m args below meth c H1 locs1 (cells + mc) (slots + ms) Q (F0 m (pc + 3) ls rest)) : W p l e R s m args below meth c H locs cells slots Q (F0 m pc ls st0) := by
  have hPc := hw.1.sub isC hC2
  have hDc := hw.2.1.sub isC hnC hC
  exact ct_goE (va_runIN (As := As) (rest := rest) ⟨hx, hb, hml, hown, htc⟩ (hM H.size) ⟨va_cnB k htc (gi_C h5) rfl hrm.1 hrm.2 h1 (htc _ h4) hd hR, hy1, htc _ h2⟩ ⟨ctP_blind, fun U hU hW9 => ⟨rfl, by rw [hU], hN.warm hW9, by rw [hU]; exact hPc, va_K.moved hW9.alike hK, hDc.weaken (fun _ _ _ _ => trivial)⟩⟩ rfl hlen hls hst (lv_room hW) hdg hcs) hw hA isC isR hC hRr hn hdis rfl kk
theorem nt_one {cI cZ cJ cA : ClassId} {ty : FieldType} (k : Nat) {c0 : ClassId} (hk : (tyC cI cZ cJ)[k]? = some (c0, ty)) (hty : ty = .int ∨ ty = .boolean ∨ ty = .long) (h : va_K G classes (tyC cI cZ cJ ++ [(cA, ty)]) s) : cA = c0 := by
  have h1 := (h.2 3 (cA, ty) rfl).2
  have h2 := (h.2 k (c0, ty) (by
    have : k < (tyC cI cZ cJ).length := (List.getElem?_eq_some_iff.mp hk).1
    rw [List.getElem?_append_left this]
    exact hk)).2
  rcases hty with rfl | rfl | rfl
  · exact Option.some.inj (Eq.trans (Eq.symm h1) h2)
  · exact Option.some.inj (Eq.trans (Eq.symm h1) h2)
  · exact Option.some.inj (Eq.trans (Eq.symm h1) h2)
theorem nt_newI {cI cZ cJ : ClassId} {N : Nat} {n : Int32} (hx : p.tables.exec = Jvm.exec) (hb : c.code = cc) (htc : ∀ w ∈ wC, w.before args s = true) (hK : va_K G classes (tyC cI cZ cJ) s) (hw : wS G A s H locs ws) (hA : ∀ q, s.heap.size ≤ q → A q) (hn : ¬ n < 0) (hN : n.toNatClampNeg = N) (hbytes : N * componentBytes .int ≤ 536870912) (hcells : cells + 1 ≤ R.cells) (hslots : slots + N ≤ R.slots) (hdg : decode cc pc = .ok (.newarray .int, 2))
    (kk : ∀ (q : Nat) (H1 : Heap), wS G A s H1 locs (ws ++ [rI q cI N (fun _ => 0)]) → W p l e R s m args below meth c H1 locs (cells + 1) (slots + N) Q (F0 m (pc + 2) ls (.ref q :: rest))) : W p l e R s m args below meth c H locs cells slots Q (F0 m pc ls (.int n :: rest)) := by
  refine va_newa (a0 := (N, .inl (fun _ => 0))) (atype := .int) (ty := .int) hx hb (htc _ mw_55) rfl hK hw.1 hw.2.1 hw.2.2 hA (fun _ => rfl) hn hN hbytes hcells hslots hdg (fun q cA H1 hK1 hP hD hS => ?_)
  obtain rfl := nt_one 0 rfl (Or.inl rfl) hK1
  exact kk q H1 ⟨hP, hD, hS⟩
theorem nt_newZ {cI cZ cJ : ClassId} {N : Nat} {n : Int32} (hx : p.tables.exec = Jvm.exec) (hb : c.code = cc) (htc : ∀ w ∈ wC, w.before args s = true) (hK : va_K G classes (tyC cI cZ cJ) s) (hw : wS G A s H locs ws) (hA : ∀ q, s.heap.size ≤ q → A q) (hn : ¬ n < 0) (hN : n.toNatClampNeg = N) (hbytes : N * componentBytes .boolean ≤ 536870912) (hcells : cells + 1 ≤ R.cells) (hslots : slots + N ≤ R.slots) (hdg : decode cc pc = .ok (.newarray .boolean, 2))
    (kk : ∀ (q : Nat) (H1 : Heap), wS G A s H1 locs (ws ++ [rI q cZ N (fun _ => 0)]) → W p l e R s m args below meth c H1 locs (cells + 1) (slots + N) Q (F0 m (pc + 2) ls (.ref q :: rest))) : W p l e R s m args below meth c H locs cells slots Q (F0 m pc ls (.int n :: rest)) := by
  refine va_newa (a0 := (N, .inl (fun _ => 0))) (atype := .boolean) (ty := .boolean) hx hb (htc _ mw_219) rfl hK hw.1 hw.2.1 hw.2.2 hA (fun _ => rfl) hn hN hbytes hcells hslots hdg (fun q cA H1 hK1 hP hD hS => ?_)
  obtain rfl := nt_one 1 rfl (Or.inr (Or.inl rfl)) hK1
  exact kk q H1 ⟨hP, hD, hS⟩
theorem nt_newJ {cI cZ cJ : ClassId} {N : Nat} {n : Int32} (hx : p.tables.exec = Jvm.exec) (hb : c.code = cc) (htc : ∀ w ∈ wC, w.before args s = true) (hK : va_K G classes (tyC cI cZ cJ) s) (hw : wS G A s H locs ws) (hA : ∀ q, s.heap.size ≤ q → A q) (hn : ¬ n < 0) (hN : n.toNatClampNeg = N) (hbytes : N * componentBytes .long ≤ 536870912) (hcells : cells + 1 ≤ R.cells) (hslots : slots + N ≤ R.slots) (hdg : decode cc pc = .ok (.newarray .long, 2))
    (kk : ∀ (q : Nat) (H1 : Heap), wS G A s H1 locs (ws ++ [rJ q cJ N (fun _ => 0)]) → W p l e R s m args below meth c H1 locs (cells + 1) (slots + N) Q (F0 m (pc + 2) ls (.ref q :: rest))) : W p l e R s m args below meth c H locs cells slots Q (F0 m pc ls (.int n :: rest)) := by
  refine va_newa (a0 := (N, .inr (.inl (fun _ => 0)))) (atype := .long) (ty := .long) hx hb (htc _ mw_1333) rfl hK hw.1 hw.2.1 hw.2.2 hA (fun _ => rfl) hn hN hbytes hcells hslots hdg (fun q cA H1 hK1 hP hD hS => ?_)
  obtain rfl := nt_one 2 rfl (Or.inr (Or.inr rfl)) hK1
  exact kk q H1 ⟨hP, hD, hS⟩
end NTA
