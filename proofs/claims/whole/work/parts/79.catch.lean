/-! a throw that a row of the method's own table takes, past rows that name other classes: from the note on the stack to the handler -/
theorem xc_row {Q : Handler → Pre} {E : CtlPost} {e : Env} {d : Bool} {acts : List Action} {s : State} {f : JFrame} {a : Addr} {x : ExceptionTableEntry} {t : List ExceptionTableEntry} {c : ClassId} {cell : Cell} (hx : covers x f.pc = true) (h0 : x.catchType ≠ 0)
    (hl : s.vm.ClassLinks e.platform f.method.cls x.catchType c) (hcell : s.heap[a]? = some cell) (hobj : ∀ k, cell.vm ≠ .statics k) (hk : ∃ k, s.vm.classes[cell.cls]? = some k) (hc : ∃ k, s.vm.classes[c]? = some k) :
    wp (findHandler.go f a (x :: t)) Q E e d acts s ↔ if s.vm.assignable cell.cls c = true then Q (.found x.handlerPc) d acts (s.setVm (s.vm.noted f.method.cls x.catchType (.cls c))) else wp (findHandler.go f a t) Q E e d acts (s.setVm (s.vm.noted f.method.cls x.catchType (.cls c))) := by
  simp only [covers] at hx
  obtain ⟨r1, r2⟩ := (resolveClass_links e.toSetting hl).op (op := VmOp.resolveClass f.method.cls x.catchType) rfl
  have al : s.vm.Alike (s.vm.noted f.method.cls x.catchType (.cls c)) := (Vm.Alike.refl s.vm).noted _ _ _
  obtain ⟨k1, g1⟩ := hk
  obtain ⟨k2, g2⟩ := hc
  obtain ⟨j1, i1, -⟩ := al.2.2 _ _ g1
  obtain ⟨j2, i2, -⟩ := al.2.2 _ _ g2
  have ea : (s.vm.noted f.method.cls x.catchType (.cls c)).assignable cell.cls c = s.vm.assignable cell.cls c := al.assignable ..
  cases hf : s.vm.assignable cell.cls c <;> rw [hf] at ea <;> simp [findHandler.go, hx, h0, r1, r2, hcell, hobj, i1, i2, ea, VmOp.dirties, VmOp.acts]
/-- a row that doesn't take it -/
def xc_pass (pl : Platform) (s : State) (d : ClassId) (pc : Nat) (th : ClassId) (y : ExceptionTableEntry) : Prop := covers y pc = false ∨ (y.catchType ≠ 0 ∧ ∃ c, s.vm.ClassLinks pl d y.catchType c ∧ s.vm.assignable th c = false)
theorem xc_find {e : Env} {s0 : State} {f : JFrame} {a : Addr} {cell : Cell} (hobj : ∀ k, cell.vm ≠ .statics k) {k0 : Class} (hk0 : s0.vm.classes[cell.cls]? = some k0) {x : ExceptionTableEntry} {rest : List ExceptionTableEntry} (hx : covers x f.pc = true) (h0 : x.catchType ≠ 0) {c : ClassId} (hl : s0.vm.ClassLinks e.platform f.method.cls x.catchType c) (hfit : s0.vm.assignable cell.cls c = true) :
    ∀ (pre : List ExceptionTableEntry) (S : State), s0.WarmedH S.vm → S.heap[a]? = some cell → (∀ y ∈ pre, xc_pass e.platform s0 f.method.cls f.pc cell.cls y) → ∃ vm', s0.WarmedH vm' ∧ ∀ (Q : Handler → Pre) (E : CtlPost) (d : Bool) (acts : List Action), wp (findHandler.go f a (pre ++ x :: rest)) Q E e d acts S ↔ Q (.found x.handlerPc) d acts (S.setVm vm') := by
  have one : ∀ (S : State) (z : ExceptionTableEntry) (b : ClassId), s0.WarmedH S.vm → s0.vm.ClassLinks e.platform f.method.cls z.catchType b → s0.WarmedH (S.vm.noted f.method.cls z.catchType (.cls b)) ∧ (∃ k, S.vm.classes[cell.cls]? = some k) ∧ ∃ k, S.vm.classes[b]? = some k := by
    intro S z b hW hb
    obtain ⟨dk, -, -, kt, hd, -, -, -, -, hkt, -, hop⟩ := hb.here
    obtain ⟨j0, i0, -⟩ := hW.alike.2.2 _ _ hk0
    obtain ⟨j1, i1, -⟩ := hW.alike.2.2 _ _ hkt
    exact ⟨hW.noted hd hop (State.rightAt_cls hb), ⟨j0, i0⟩, ⟨j1, i1⟩⟩
  intro pre
  induction pre with
  | nil =>
    intro S hW hc _
    obtain ⟨w1, w2, w3⟩ := one S x c hW hl
    refine ⟨_, w1, fun Q E d acts => ?_⟩
    rw [List.nil_append, xc_row hx h0 (hW.classLinks hl) hc hobj w2 w3, if_pos (by rw [hW.alike.assignable]; exact hfit)]
  | cons y ys ih =>
    intro S hW hc hp
    by_cases hcov : covers y f.pc = true
    · rcases hp y List.mem_cons_self with h | ⟨hy0, b, hb, hno⟩
      · rw [h] at hcov
        cases hcov
      · obtain ⟨w1, w2, w3⟩ := one S y b hW hb
        obtain ⟨vm', w4, hq⟩ := ih (S.setVm (S.vm.noted f.method.cls y.catchType (.cls b))) w1 hc (fun z hz => hp z (List.mem_cons_of_mem _ hz))
        refine ⟨vm', w4, fun Q E d acts => ?_⟩
        rw [List.cons_append, xc_row hcov hy0 (hW.classLinks hb) hc hobj w2 w3, if_neg (by rw [hW.alike.assignable, hno]; decide)]
        exact hq Q E d acts
    · obtain ⟨vm', w4, hq⟩ := ih S hW hc (fun z hz => hp z (List.mem_cons_of_mem _ hz))
      refine ⟨vm', w4, fun Q E d acts => ?_⟩
      rw [List.cons_append, Jvm.W.findHandler_go_skip (by simpa using hcov)]
      exact hq Q E d acts
theorem xc_caught {p : Program} {l : Launch} {e : Env} {R : Room} {s : State} {m : MethodId} {args : Array Value} {below : List Frame} {meth : Method} {c : Code} {T : State} {locs : List Loc} {cells slots : Nat} (X : Stand p l e R s m args below meth c T locs cells slots) (a : Addr) {g : JFrame} (hg : g.method = m) {cell : Cell} (hcell : T.heap[a]? = some cell) (hobj : ∀ k, cell.vm ≠ .statics k) {k0 : Class} (hk0 : s.vm.classes[cell.cls]? = some k0)
    (pre : List ExceptionTableEntry) (x : ExceptionTableEntry) (rest : List ExceptionTableEntry) (hsplit : c.exceptionTable.toList = pre ++ x :: rest) (hpass : ∀ y ∈ pre, xc_pass e.platform s m.cls g.pc cell.cls y) (hx : covers x g.pc = true) (h0 : x.catchType ≠ 0) {c5 : ClassId} (hl : s.vm.ClassLinks e.platform m.cls x.catchType c5) (hfit : s.vm.assignable cell.cls c5 = true) :
    ∃ vm', Stand p l e R s m args below meth c (T.setVm vm') locs cells slots ∧ Steps p.tables e below ((T.setTop g).pushFrame (.throwing a)) ((T.setVm vm').setTop { g with pc := x.handlerPc, stack := [.ref a] }) := by
  subst hg
  obtain ⟨vm', hW', hq⟩ := xc_find (e := e) (s0 := s) (f := g) (a := a) hobj hk0 (rest := rest) hx h0 hl hfit pre ((T.setTop g).pushFrame (.throwing a)) X.warmed hcell hpass
  refine ⟨vm', X.noted hW', ?_⟩
  have hfind : ∀ (Q : Handler → Pre) (E : CtlPost) (d : Bool) (acts : List Action), wp (findHandler g a) Q E e d acts ((T.setTop g).pushFrame (.throwing a)) ↔ Q (.found x.handlerPc) d acts (((T.setTop g).pushFrame (.throwing a)).setVm vm') := by
    intro Q E d acts
    have hm9 : ((T.setTop g).pushFrame (.throwing a)).vm.method? g.method = some meth := X.method'
    rw [Jvm.W.findHandler_eq hm9 X.code, hsplit, hq]
  obtain ⟨hgo, hw⟩ := X.here.throwing a
  have hstep : (stepThrowing e ((T.setTop g).pushFrame (.throwing a)) a (.java g :: T.frames.tail)).1 = (((T.setTop g).pushFrame (.throwing a)).setVm vm').setFrames (.java { g with pc := x.handlerPc, stack := [.ref a] } :: T.frames.tail) := by
    simp only [stepThrowing, searchFrame, vmDo]
    generalize hr : Sem.go _ e false [] ((T.setTop g).pushFrame (.throwing a)) = res
    obtain ⟨as, rfl, -⟩ := Sem.eq_ok_of hr (a := Handler.found x.handlerPc) (s' := ((T.setTop g).pushFrame (.throwing a)).setVm vm') (acts' := []) (by simp [hfind _ _ _ _])
    rfl
  refine Steps.head hgo hw ?_
  rw [stepThread_throwing (frames_entered X.here.top _), hstep]
  obtain ⟨g1, e1⟩ := Option.isSome_iff_exists.mp X.here.top
  obtain ⟨r, e2⟩ := State.topJava?_eq_some.mp e1
  have e3 : (T.setVm vm').frames = .java g1 :: r := e2
  have e4 : ∀ (U : State) (F G : List Frame), ((U.setFrames F).setVm vm').setFrames G = (U.setVm vm').setFrames G := fun U F G => by
    rw [show (U.setFrames F).setVm vm' = (U.setVm vm').setFrames F from rfl, State.setFrames_setFrames]
  rw [State.setTop_of_frames _ e3, e2, List.tail_cons, State.pushFrame, e4, State.setTop_of_frames _ e2, e4]
  exact Steps.refl _
