/-! contracts whose world behind them is said by a property; methods with a table of handlers -/
abbrev rJ (a : Nat) (c : ClassId) (n : Nat) (f : Nat → Int64) : Nat × va_E := (a, .inl (c, n, .inr (.inl f)))
def etQ (G : va_G) (A : Nat → Prop) (v : Option Value) (post : va_W → Prop) : Array Value → State → Outcome → State → Prop := fun _ st oc t => oc = .returned v ∧ ∃ w1, post w1 ∧ va_P G classes w1 t.heap ∧ va_D A w1 ∧ va_F A st t
def wH (y : MethodName) (b : ByteArray) (n : Nat) (r : Option FieldType) (hh : List (Nat × Nat × Nat × Nat)) : List Cond := Cond.codeWith y b n r hh :: wC
def HT (l : Launch) (y : MethodName) (b : ByteArray) (n : Nat) (hh : List (Nat × Nat × Nat × Nat)) (rm : Room) (G : va_G) (tys : List (ClassId × FieldType)) (as : List Value) (ws : va_W) (v : Option Value) (ws' : va_W) : Prop :=
  ∀ sz : Nat, Met l y (wH y b n (some .int) hh) rm (xtP G tys as ws sz) (etQ G (va_A ws sz) v (fun w => w = ws')) 1 6 (va_A ws sz)
section HTA
variable {p : Program} {l : Launch} {e : Env} {R : Room} {s : State} {m : MethodId} {args : Array Value} {below : List Frame} {meth : Method} {c : Code} {H : Heap} {locs : List Loc} {cells slots : Nat} {Q : State → Prop}
variable {G : va_G} {tys : List (ClassId × FieldType)} {ws ws' : va_W} {A : Nat → Prop} {cc : ByteArray} {pc : Nat} {ls : Array Slot} {rest : List Value}
theorem et_iret {v : Int32} {post : va_W → Prop} (hx : p.tables.exec = Jvm.exec) (hb : c.code = cc) (hr : meth.sig.returnType = some .int) (hlocks : meth.locks = false) (hw : wS G A s H locs ws') (hdg : decode cc pc = .ok (.ireturn, 1)) (hp : post ws' := by rfl) :
    W p l e R s m args below meth c H locs cells slots (MQ below (etQ G A (some (.int v)) post) args s cells slots A) (F0 m pc ls [.int v]) :=
  W.iret hx hb hr (fun t ht _ => ⟨rfl, ws', hp, by rw [ht]; exact hw.1, hw.2.1, hw.2.2.F ht⟩) hw.2.2.2.2 hdg hlocks
theorem et_vret {post : va_W → Prop} (hx : p.tables.exec = Jvm.exec) (hb : c.code = cc) (hr : meth.sig.returnType = none) (hlocks : meth.locks = false) (hw : wS G A s H locs ws') (hp : post ws') (hdg : decode cc pc = .ok (.return_, 1)) :
    W p l e R s m args below meth c H locs cells slots (MQ below (etQ G A none post) args s cells slots A) (F0 m pc ls []) :=
  W.vret hx hb hr (fun t ht _ => ⟨rfl, ws', hp, by rw [ht]; exact hw.1, hw.2.1, hw.2.2.F ht⟩) hw.2.2.2.2 hdg hlocks
theorem HT.ofW {y : MethodName} {n : Nat} {hh : List (Nat × Nat × Nat × Nat)} {rm : Room} {as : List Value} {v : Option Value} {lvl : List (Nat × Value)} (hy : plainName y.cls = true) (hlen : (lg_sl as).length ≤ n) (hlv : lv_args 0 as = lvl)
    (body : ∀ (p : Program) (e : Env) (s : State) (m : MethodId) (args : Array Value) (below : List Frame) (meth : Method) (c : Code) (A : Nat → Prop) (ls : Array Slot) (QQ : State → Prop), QQ = MQ below (etQ G A v (fun w => w = ws')) args s 1 6 A → c.exceptionTable.toList = tableOf hh → xst A s s.heap → p.tables.exec = Jvm.exec → c.code = cc → c.maxLocals = n → meth.sig.returnType = some .int → meth.locks = false → (∀ w ∈ wC, w.before args s = true) → nst s → s.vm.findClass y.cls = some m.cls →
      va_K G classes tys s → (∀ q : Nat, s.heap.size ≤ q → A q) → wS G A s s.heap [] ws → lv_has ls n lvl → W p l e rm s m args below meth c s.heap [] 0 0 QQ (F0 m 0 ls [])) : HT l y cc n hh rm G tys as ws v ws' := by
  intro sz
  refine MetFree.of_bodyS (code := cc) (maxLocals := n) (ret := some .int) hy ?_ ?_
  · intro args s m h hn
    obtain ⟨m9, meth, c, hn9, h1, h2, h3, h4, -, h5, h6, -⟩ := Cond.codeWith_spec (atoms_spec (ws := wH y cc n (some .int) hh) h _ List.mem_cons_self)
    cases hn.symm.trans hn9
    exact ⟨meth, c, h1, h2, h3, h4, h5, h6⟩
  · intro p e s m args below meth c s₁ B hml hv _
    have hh0 : s₁.heap = s.heap := by rw [B.state]; rfl
    obtain ⟨rfl, hsz, hN, hX, hP, hK, hD0⟩ := hv
    have hts := atoms_spec (ws := wH y cc n (some .int) hh) B.pre
    have ht := vx_table (x := y) B (hts _ List.mem_cons_self)
    subst hsz
    have hl := lv_entry as (n := n) hlen
    rw [hlv] at hl
    have K := body p e s m as.toArray below meth c (va_A ws s.heap.size) _ _ rfl ht hX B.exec B.bytes hml B.returns B.notSynchronized (fun w h => hts w (List.mem_cons_of_mem _ h)) hN (findClass_of_methodNamed B.named) hK (fun q h => Or.inr h) ⟨hP, hD0.self (sz := s.heap.size), va_S.rf⟩ hl
    rw [← lg_entry_eq] at K
    obtain ⟨t, a1, o, b1, b2, b3⟩ := K s₁ hh0 (Stand.of_body B)
    exact ⟨t, o, a1, b1, b2, b3⟩
/-- behind a call: the callee's cells hold what its contract says -/
theorem ct_goE {rest st0 st1 : List Value} {v : Option Value} {wc wr : va_W} {post : va_W → Prop} {a : Array Value} {mc ms : Nat} (hr : va_Run p l e R s m args below meth c H locs cells slots mc ms (F0 m pc ls st0) rest (etQ G (va_A wc H.size) v post a) (va_A wc H.size)) (hw : wS G A s H locs ws) (hA : ∀ q, s.heap.size ≤ q → A q)
    (isC isR : List Nat) (hC : isC.map (fun i => ws[i]?) = wc.map some) (hR : isR.map (fun i => ws[i]?) = wr.map some) (hn : va_nd isR = true) (hdis : ∀ i ∈ isR, i ∉ isC) (hst1 : v.toList ++ rest = st1)
    (kk : ∀ (w1 : va_W), post w1 → ∀ (H1 : Heap) (locs1 : List Loc), wS G A s H1 locs1 (wr ++ w1) → W p l e R s m args below meth c H1 locs1 (cells + mc) (slots + ms) Q (F0 m (pc + 3) ls st1)) : W p l e R s m args below meth c H locs cells slots Q (F0 m pc ls st0) := by
  subst hst1
  obtain ⟨hP, hD, hS⟩ := hw
  have hFc := va_free (wc := wc) hD hS hA isC hC
  intro T hT X
  obtain ⟨v', st₀, t, T', L, h0, X', hL, e1, -, ⟨hv, w1, hp1, hP1, hD1, hz, hk⟩, st⟩ := hr T hT X
  cases hv
  have hk' : ∀ q : Nat, q < H.size → ¬ va_A wc H.size q → t.heap[q]? = H[q]? := fun q h1 h2 => by rw [← h0]; exact hk q (by rw [h0]; exact h1) h2
  obtain ⟨hPj, hDj⟩ := va_join hP hD isC isR hC hR hn hdis hk' hFc hP1 hD1
  have hS1 : va_S A s.heap t.heap (locs ++ L) := by
    refine ⟨Nat.le_trans hS.1 (by rw [← h0]; exact hz), fun q h1 h2 => ?_, fun l hl => ?_⟩
    · rw [hk' q (Nat.lt_of_lt_of_le h1 hS.1) (fun h => h2 (hFc q h))]
      exact hS.2.1 q h1 h2
    · rcases List.mem_append.mp hl with h | h
      · exact hS.2.2 l h
      · exact hFc _ (hL l h)
  obtain ⟨t9, a9, b9⟩ := kk w1 hp1 t.heap (locs ++ L) ⟨hPj, hDj, hS1⟩ T' e1 X'
  exact ⟨t9, st t9 a9, b9⟩
theorem wS.sub {wb : va_W} (hw : wS G A s H locs ws) (isB : List Nat) (hnB : va_nd isB = true) (hB : isB.map (fun i => ws[i]?) = wb.map some) (hB2 : isB.filterMap (fun i => ws[i]?) = wb) : wS G A s H locs wb := ⟨hw.1.sub isB hB2, hw.2.1.sub isB hnB hB, hw.2.2⟩
theorem htS {y : MethodName} {b : ByteArray} {n nL k idx : Nat} {own : String} {hh : List (Nat × Nat × Nat × Nat)} {rm : Room} {As : List Value} {v : Option Value} {wc wr w1 wb : va_W} {st1 : List Value}
    (hx : p.tables.exec = Jvm.exec) (hb : c.code = cc) (hml : c.maxLocals = nL) (hown : s.vm.findClass own = some m.cls) (htc : ∀ w ∈ wC, w.before args s = true) (hN : nst s) (hX : xst A s s.heap)
    (hM : HT l y b n hh rm G tys As wc v w1) (h1 : Cond.methodLink own idx y ∈ wC) (h2 : Cond.static y ∈ wC) (h4 : Cond.initialized y.cls ∈ wC) (h5 : Cond.codeWith y b n (some .int) hh ∈ wC)
    (hd : y.cls = own ∧ y.cls ≠ "java/lang/invoke/MethodHandle" ∧ y.cls ≠ "java/lang/invoke/VarHandle" ∧ (parseMethodDescriptor y.desc).map (fun d => d.parameters.length) = some k) (hrm : rm.cells = 1 ∧ rm.slots = 6) (hR : rm.frames + 1 ≤ R.frames ∧ 8 + (n + 11) + rm.locals ≤ R.locals)
    (hK : va_K G classes tys s) (hw : wS G A s H locs ws) (hA : ∀ q, s.heap.size ≤ q → A q) (isC isR isB : List Nat) (hC : isC.map (fun i => ws[i]?) = wc.map some) (hC2 : isC.filterMap (fun i => ws[i]?) = wc) (hnC : va_nd isC = true) (hRr : isR.map (fun i => ws[i]?) = wr.map some) (hn : va_nd isR = true) (hdis : ∀ i ∈ isR, i ∉ isC) (hnB : va_nd isB = true) (hB : isB.map (fun i => (wr ++ w1)[i]?) = wb.map some) (hB2 : isB.filterMap (fun i => (wr ++ w1)[i]?) = wb)
    (hlen : As.length = k) (hls : ls.size = nL) {st0 : List Value} (hst : st0 = As.reverse ++ rest) (hst1 : v.toList ++ rest = st1) (hW : (rest.map fun v => v.category).sum ≤ 8) (hdg : decode cc pc = .ok (.invokestatic idx, 3)) (hcs : cells + 1 ≤ R.cells ∧ slots + 6 ≤ R.slots)
    (kk : ∀ (H1 : Heap) (locs1 : List Loc), wS G A s H1 locs1 wb → W p l e R s m args below meth c H1 locs1 (cells + 1) (slots + 6) Q (F0 m (pc + 3) ls st1)) : W p l e R s m args below meth c H locs cells slots Q (F0 m pc ls st0) := by
  have hPc := hw.1.sub isC hC2
  have hDc := hw.2.1.sub isC hnC hC
  have hFc := va_free (wc := wc) hw.2.1 hw.2.2 hA isC hC
  have hG : GoodIn wC (va_wsS own idx y (wH y b n (some .int) hh)) := by
    intro w hw
    unfold va_wsS at hw
    rcases List.mem_append.mp hw with hw | hw
    · simp only [List.mem_cons, List.not_mem_nil, or_false] at hw
      rcases hw with rfl | rfl | rfl
      · exact ⟨h1, good_of_word (wC_good h1)⟩
      · exact ⟨h2, good_of_word (wC_good h2)⟩
      · exact ⟨h4, good_of_word (wC_good h4)⟩
    · rcases List.mem_cons.mp hw with rfl | hw
      · exact ⟨h5, good_of_word (wC_good h5)⟩
      · exact ⟨hw, good_of_word (wC_good hw)⟩
  refine ct_goE (vx_runSW (As := As) (rest := rest) ⟨hx, hb, hml, hown, htc⟩ (hM H.size) (vx_cwSW k htc hG rfl hrm.1 hrm.2 hd.2 hR) ⟨xtP_blind, fun U hU hW9 => ⟨rfl, by rw [hU], hN.warm hW9, xst.to hW9 hX (fun a9 g1 g2 => by rw [hU]; exact hw.2.2.2.1 a9 g1 g2) hFc, by rw [hU]; exact hPc, va_K.moved hW9.alike hK, hDc.weaken (fun _ _ _ _ => trivial)⟩⟩ rfl hlen hls hst (lv_room hW) hdg hcs) hw hA isC isR hC hRr hn hdis hst1 ?_
  intro w9 hw9 H1 locs1 hwS
  subst hw9
  exact kk H1 locs1 (hwS.sub isB hnB hB hB2)
end HTA
