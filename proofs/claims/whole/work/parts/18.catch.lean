/-! Caught in the walked method: the catch types may be cold -/
def t_Finds (e : Env) (s : State) (f : JFrame) (a : Addr) (pc : Nat) (vm' : Vm) : Prop :=
  ∀ (Q : Handler → Pre) (E : CtlPost) (d : Bool) (acts : List Action), wp (findHandler f a) Q E e d acts s ↔ Q (.found pc) d acts (s.setVm vm')
section TG
variable {Q : Handler → Pre} {E : CtlPost} {e : Env} {d : Bool} {acts : List Action} {s : State} {f : JFrame} {a : Addr}
/-- one row of the table that covers the place: its class is found, and noted; the object is of it, or the search goes on -/
theorem t_go {x : ExceptionTableEntry} {t : List ExceptionTableEntry} {cT : ClassId} {cell : Cell} (hx : covers x f.pc = true) (h0 : x.catchType ≠ 0) (hl : s.vm.ClassLinks e.platform f.method.cls x.catchType cT)
    (hcell : s.heap[a]? = some cell) (hobj : ∀ k, cell.vm ≠ .statics k) (hk : ∃ k, s.vm.classes[cell.cls]? = some k) (hc : ∃ k, s.vm.classes[cT]? = some k) :
    wp (findHandler.go f a (x :: t)) Q E e d acts s ↔ if s.vm.assignable cell.cls cT = true then Q (.found x.handlerPc) d acts (s.setVm (s.vm.noted f.method.cls x.catchType (.cls cT)))
      else wp (findHandler.go f a t) Q E e d acts (s.setVm (s.vm.noted f.method.cls x.catchType (.cls cT))) := by
  simp only [covers] at hx
  have hal : s.vm.Alike (s.vm.noted f.method.cls x.catchType (.cls cT)) := (Vm.Alike.refl s.vm).noted _ _ _
  obtain ⟨u1, u2⟩ := (resolveClass_links e.toSetting hl).op (op := VmOp.resolveClass f.method.cls x.catchType) rfl
  obtain ⟨k1, hk1⟩ := hk
  obtain ⟨k2, hk2⟩ := hc
  obtain ⟨j1, hj1, -⟩ := hal.2.2 _ _ hk1
  obtain ⟨j2, hj2, -⟩ := hal.2.2 _ _ hk2
  cases hfit : s.vm.assignable cell.cls cT
  · have hf2 : (s.vm.noted f.method.cls x.catchType (.cls cT)).assignable cell.cls cT = false := by rw [hal.assignable]; exact hfit
    simp [findHandler.go, hx, h0, u1, u2, hcell, hobj, hj1, hj2, hf2, VmOp.dirties, VmOp.acts]
  · have hf2 : (s.vm.noted f.method.cls x.catchType (.cls cT)).assignable cell.cls cT = true := by rw [hal.assignable]; exact hfit
    simp [findHandler.go, hx, h0, u1, u2, hcell, hobj, hj1, hj2, hf2, VmOp.dirties, VmOp.acts]
end TG
section TH
variable {p : Program} {l : Launch} {e : Env} {R : Room} {s : State} {m : MethodId} {args : Array Value} {below : List Frame} {meth : Method} {c : Code} {T : State} {locs : List Loc} {cells slots : Nat}
theorem t_caught {tb : Tables} {s target : State} {g : JFrame} {a : Addr} (h : At s g.method c below) {pc : Nat} {vm' : Vm} (hfind : t_Finds e ((s.setTop g).pushFrame (.throwing a)) g a pc vm')
    (hrest : Steps tb e below ((s.setVm vm').setTop { g with pc := pc, stack := [.ref a] }) target) : Steps tb e below ((s.setTop g).pushFrame (.throwing a)) target := by
  obtain ⟨hgo, hw⟩ := h.throwing a
  refine Steps.head hgo hw ?_
  have hstep : ∀ r : List Frame, (stepThrowing e ((s.setTop g).pushFrame (.throwing a)) a (.java g :: r)).Is ((((s.setTop g).pushFrame (.throwing a)).setVm vm').setFrames (.java { g with pc := pc, stack := [.ref a] } :: r)) [] := by
    intro r
    simp only [stepThrowing, searchFrame, vmDo]
    generalize hr : Sem.go _ e false [] ((s.setTop g).pushFrame (.throwing a)) = res
    obtain ⟨as, rfl, ha⟩ := Sem.eq_ok_of hr (a := Handler.found pc) (s' := ((s.setTop g).pushFrame (.throwing a)).setVm vm') (acts' := []) (by simp [hfind _ _ _ _])
    exact ⟨rfl, ha⟩
  obtain ⟨g0, hg0⟩ := Option.isSome_iff_exists.mp h.top
  obtain ⟨r, hr⟩ := State.topJava?_eq_some.mp hg0
  have hr2 : (s.setVm vm').frames = .java g0 :: r := hr
  rw [stepThread_throwing (frames_entered h.top _), (hstep _).1]
  rw [State.setTop_of_frames _ hr2] at hrest
  have hv : ∀ (u : State) (F G : List Frame), ((u.setFrames F).setVm vm').setFrames G = (u.setVm vm').setFrames G := fun u F G => State.setFrames_setFrames (u.setVm vm') F G
  rw [hr, List.tail_cons, State.pushFrame, hv, State.setTop_of_frames _ hr, hv]
  exact hrest
theorem t_refl (vm : Vm) (c0 : ClassId) : vm.assignable c0 c0 = true := by
  show vm.assignableAux (255 + 1) c0 c0 = true
  rw [Vm.assignableAux, Bool.or_eq_true, beq_iff_eq]
  exact Or.inl rfl
/-- a cold or warm class link of the method's own class, at a state of the walk -/
theorem t_lnk (X : Stand p l e R s m args below meth c T locs cells slots) {own name : String} {ct : Nat} {cT : ClassId} (hown : s.vm.findClass own = some m.cls) (hlink : (Cond.classLink own ct name).before args s = true) (hcT : s.vm.findClass name = some cT) :
    T.vm.ClassLinks e.platform m.cls ct cT ∧ s.WarmedH (T.vm.noted m.cls ct (.cls cT)) ∧ ∃ k, T.vm.classes[cT]? = some k := by
  have hpl : e.platform.magicAccessors = ({} : Platform).magicAccessors := by rw [X.admits.platform]
  obtain ⟨c', hc', hcl⟩ := Cond.classLink_spec hown hlink e.platform hpl
  cases hcT.symm.trans hc'
  obtain ⟨dk, _, _, kt, hd, _, _, _, _, hkt, _, hopen⟩ := hcl.here
  obtain ⟨kt', hkt', -⟩ := X.warmed.alike.2.2 _ _ hkt
  exact ⟨X.warmed.classLinks hcl, X.warmed.noted hd hopen (State.rightAt_cls hcl), kt', hkt'⟩
/-- the first row of the table takes it -/
theorem t_catch1 (X : Stand p l e R s m args below meth c T locs cells slots) {a : Addr} {g : JFrame} (hg : g.method = m) {own name : String} (hown : s.vm.findClass own = some m.cls) {x : ExceptionTableEntry} {rest : List ExceptionTableEntry} (htab : c.exceptionTable.toList = x :: rest) (hx : covers x g.pc = true) (h0 : x.catchType ≠ 0)
    (hlink : (Cond.classLink own x.catchType name).before args s = true) {cell : Cell} (hcell : T.heap[a]? = some cell) (hv : cell.vm = .none) (hcl : T.vm.findClass name = some cell.cls) :
    ∃ vm', Stand p l e R s m args below meth c (T.setVm vm') locs cells slots ∧ ∀ target, Steps p.tables e below ((T.setVm vm').setTop { g with pc := x.handlerPc, stack := [.ref a] }) target → Steps p.tables e below ((T.setTop g).pushFrame (.throwing a)) target := by
  have hcs : s.vm.findClass name = some cell.cls := by rw [← X.warmed.alike.findClass]; exact hcl
  obtain ⟨l1, w1, k1⟩ := t_lnk X hown hlink hcs
  refine ⟨_, X.noted w1, fun target hrest => ?_⟩
  subst hg
  refine t_caught X.here (vm' := T.vm.noted g.method.cls x.catchType (.cls cell.cls)) (fun Q E d acts => ?_) hrest
  rw [W.findHandler_eq (s := (T.setTop g).pushFrame (.throwing a)) (meth := meth) (code := c) X.method' X.code, htab, t_go (s := (T.setTop g).pushFrame (.throwing a)) (cT := cell.cls) (cell := cell) hx h0 l1 hcell (fun k h => by rw [hv] at h; cases h) k1 k1]
  exact (if_pos (t_refl _ _)).symm ▸ Iff.rfl
/-- the first row does not take it, the second does -/
theorem t_catch2 (X : Stand p l e R s m args below meth c T locs cells slots) {a : Addr} {g : JFrame} (hg : g.method = m) {own n1 name : String} (hown : s.vm.findClass own = some m.cls) {x1 x : ExceptionTableEntry} {rest : List ExceptionTableEntry} (htab : c.exceptionTable.toList = x1 :: x :: rest)
    (hx1 : covers x1 g.pc = true) (h01 : x1.catchType ≠ 0) (hlink1 : (Cond.classLink own x1.catchType n1).before args s = true) (hno : va_Nc name n1 s) (hx : covers x g.pc = true) (h0 : x.catchType ≠ 0)
    (hlink : (Cond.classLink own x.catchType name).before args s = true) {cell : Cell} (hcell : T.heap[a]? = some cell) (hv : cell.vm = .none) (hcl : T.vm.findClass name = some cell.cls) :
    ∃ vm', Stand p l e R s m args below meth c (T.setVm vm') locs cells slots ∧ ∀ target, Steps p.tables e below ((T.setVm vm').setTop { g with pc := x.handlerPc, stack := [.ref a] }) target → Steps p.tables e below ((T.setTop g).pushFrame (.throwing a)) target := by
  have hcs : s.vm.findClass name = some cell.cls := by rw [← X.warmed.alike.findClass]; exact hcl
  obtain ⟨cC, cN, hC, hN, hasg⟩ := hno
  cases hC.symm.trans hcs
  obtain ⟨l1, w1, k1⟩ := t_lnk X hown hlink1 hN
  have X1 := X.noted w1
  obtain ⟨l2, w2, k2⟩ := t_lnk X1 hown hlink hcs
  obtain ⟨-, -, k3⟩ := t_lnk X hown hlink hcs
  have hn1 : T.vm.assignable cell.cls cN = false := by rw [X.warmed.alike.assignable]; exact hasg
  refine ⟨_, X1.noted w2, fun target hrest => ?_⟩
  subst hg
  refine t_caught X.here (vm' := (T.vm.noted g.method.cls x1.catchType (.cls cN)).noted g.method.cls x.catchType (.cls cell.cls)) (fun Q E d acts => ?_) hrest
  have hob : ∀ k, cell.vm ≠ .statics k := fun k h => by rw [hv] at h; cases h
  rw [W.findHandler_eq (s := (T.setTop g).pushFrame (.throwing a)) (meth := meth) (code := c) X.method' X.code, htab, t_go (s := (T.setTop g).pushFrame (.throwing a)) (cT := cN) (cell := cell) hx1 h01 l1 hcell hob k3 k1]
  rw [if_neg (fun h => by rw [show ((T.setTop g).pushFrame (.throwing a)).vm.assignable cell.cls cN = false from hn1] at h; cases h)]
  have h2 := t_go (Q := Q) (E := E) (d := d) (acts := acts) (f := g) (a := a) (t := rest) (s := ((T.setTop g).pushFrame (.throwing a)).setVm (T.vm.noted g.method.cls x1.catchType (.cls cN))) (cT := cell.cls) (cell := cell) hx h0 l2 hcell hob k2 k2
  refine h2.trans ?_
  exact (if_pos (t_refl _ _)).symm ▸ Iff.rfl
end TH
section TI
variable {p : Program} {l : Launch} {e : Env} {R : Room} {s : State} {m : MethodId} {args : Array Value} {below : List Frame} {meth : Method} {c : Code} {H : Heap} {locs : List Loc} {cells slots mc ms : Nat} {Q : State → Prop}
variable {cc bytes : ByteArray} {pc maxL nL n index : Nat} {ls : Array Slot} {rest st0 As : List Value} {D : va_G} {tys : List (ClassId × FieldType)} {A A0 : Nat → Prop} {y : MethodName} {ret : Option FieldType} {wsc Ts : List Cond} {rm : Room} {own cls : String} {hh : List (Nat × Nat × Nat × Nat)}
abbrev t_tab (c : Code) : List (Nat × Nat × Nat × Nat) := c.exceptionTable.toList.map (fun h => (h.startPc, h.endPc, h.handlerPc, h.catchType))
theorem t_tab1 {q : Nat × Nat × Nat × Nat} {qs : List (Nat × Nat × Nat × Nat)} (h : t_tab c = q :: qs) : ∃ x r, c.exceptionTable.toList = x :: r ∧ (x.startPc, x.endPc, x.handlerPc, x.catchType) = q ∧ r.map (fun h => (h.startPc, h.endPc, h.handlerPc, h.catchType)) = qs := by
  unfold t_tab at h
  cases ht : c.exceptionTable.toList with
  | nil => rw [ht] at h; cases h
  | cons x r => rw [ht] at h; simp only [List.map_cons, List.cons.injEq] at h; exact ⟨x, r, rfl, h.1, h.2⟩
theorem w_catch1 {s0 e0 h0 ct : Nat} {qs : List (Nat × Nat × Nat × Nat)} (hr : t_Run p l e R s m args below meth c H locs cells slots mc ms (F0 m pc ls st0) rest cls) (ht : t_tab c = (s0, e0, h0, ct) :: qs) (hown : s.vm.findClass own = some m.cls) (hcv : s0 ≤ pc ∧ pc < e0 ∧ ct ≠ 0)
    (hlink : (Cond.classLink own ct cls).before args s = true)
    (kk : ∀ (H1 : Heap) (x : Nat), (∀ (q : Addr) (cell : Cell), H[q]? = some cell → H1[q]? = some cell) → W p l e R s m args below meth c H1 locs (cells + mc) (slots + ms) Q (F0 m h0 ls [.ref x])) : W p l e R s m args below meth c H locs cells slots Q (F0 m pc ls st0) := by
  obtain ⟨x, r, h1, h2, -⟩ := t_tab1 ht
  cases h2
  intro T hT X
  obtain ⟨a, ce, T', X', hce, hv, hcl, hkeep, st⟩ := hr T hT X
  obtain ⟨vm', X2, st2⟩ := t_catch1 X' (g := { (F0 m pc ls st0) with stack := rest }) rfl hown h1 (by show (decide (x.startPc ≤ pc) && decide (pc < x.endPc)) = true; simp [hcv.1, hcv.2.1]) hcv.2.2 hlink hce hv hcl
  obtain ⟨t, a1, b1⟩ := kk T'.heap a hkeep (T'.setVm vm') rfl X2
  exact ⟨t, st t (st2 t a1), b1⟩
theorem w_catch2 {s1 e1 h1 c1 s0 e0 h0 ct : Nat} {n1 : String} {qs : List (Nat × Nat × Nat × Nat)} (hr : t_Run p l e R s m args below meth c H locs cells slots mc ms (F0 m pc ls st0) rest cls) (ht : t_tab c = (s1, e1, h1, c1) :: (s0, e0, h0, ct) :: qs) (hown : s.vm.findClass own = some m.cls) (hcv1 : s1 ≤ pc ∧ pc < e1 ∧ c1 ≠ 0) (hcv : s0 ≤ pc ∧ pc < e0 ∧ ct ≠ 0)
    (hlink1 : (Cond.classLink own c1 n1).before args s = true) (hno : va_Nc cls n1 s) (hlink : (Cond.classLink own ct cls).before args s = true)
    (kk : ∀ (H1 : Heap) (x : Nat), (∀ (q : Addr) (cell : Cell), H[q]? = some cell → H1[q]? = some cell) → W p l e R s m args below meth c H1 locs (cells + mc) (slots + ms) Q (F0 m h0 ls [.ref x])) : W p l e R s m args below meth c H locs cells slots Q (F0 m pc ls st0) := by
  obtain ⟨x1, r, g1, g2, g3⟩ := t_tab1 ht
  cases g2
  cases r with
  | nil => cases g3
  | cons x r =>
    simp only [List.map_cons, List.cons.injEq] at g3
    obtain ⟨g4, -⟩ := g3
    cases g4
    intro T hT X
    obtain ⟨a, ce, T', X', hce, hv, hcl, hkeep, st⟩ := hr T hT X
    obtain ⟨vm', X2, st2⟩ := t_catch2 X' (g := { (F0 m pc ls st0) with stack := rest }) rfl hown g1 (by show (decide (x1.startPc ≤ pc) && decide (pc < x1.endPc)) = true; simp [hcv1.1, hcv1.2.1]) hcv1.2.2 hlink1 hno (by show (decide (x.startPc ≤ pc) && decide (pc < x.endPc)) = true; simp [hcv.1, hcv.2.1]) hcv.2.2 hlink hce hv hcl
    obtain ⟨t, a1, b1⟩ := kk T'.heap a hkeep (T'.setVm vm') rfl X2
    exact ⟨t, st t (st2 t a1), b1⟩
theorem w_enter {S : Type} {w : S → va_W} {v : S} {av : List Value} {Qc : Array Value → State → Outcome → State → Prop} (hy : plainName y.cls = true) (hw : wsc = Cond.codeWith y cc maxL ret hh :: bigW) (hlen : (lg_sl av).length ≤ maxL)
    (body : ∀ (p : Program) (e : Env) (s : State) (m : MethodId) (below : List Frame) (meth : Method) (c : Code) (ls : Array Slot), gFix p c cc meth ret m s av.toArray bigW y.cls maxL → t_tab c = hh → va_K D vwCl tys s → va_P D vwCl (w v) s.heap → tF s → lv_has ls maxL (lv_args 0 av) →
      W p l e rm s m av.toArray below meth c s.heap [] 0 0 (MQ below Qc av.toArray s mc ms A) (F0 m 0 ls [])) : Met l y wsc rm (va_Pc av (tPre D tys w v)) Qc mc ms A := by
  refine va_MetW (cc := cc) (maxL := maxL) (ret := ret) hy hw ?_
  intro p e s m args below meth c s₁ B hml hv
  obtain ⟨rfl, ⟨hP, hK⟩, hT⟩ := hv
  have hts0 := atoms_spec (ws := wsc) B.pre
  have hts : ∀ w ∈ bigW, w.before av.toArray s = true := fun w h => hts0 w (by rw [hw]; exact List.mem_cons_of_mem _ h)
  have hown : s.vm.findClass y.cls = some m.cls := findClass_of_methodNamed B.named
  obtain ⟨m9, meth9, c9, hn9, h1, h2, -, -, h5, -⟩ := Cond.codeWith_spec (hts0 _ (by rw [hw]; exact List.mem_cons_self))
  cases B.named.symm.trans hn9
  cases B.method.symm.trans h1
  cases (Stand.of_body B).code.symm.trans h2
  have hl := lv_entry av (n := maxL) hlen
  rw [lg_entry_eq]
  exact body p e s m below meth c _ ⟨B.exec, B.bytes, B.returns, hml, hown, hts, B.notSynchronized⟩ h5 hK hP hT hl
/-- a static method with a table of handlers is called -/
theorem w_runS {Pc : Array Value → State → Prop} {Qc : Array Value → State → Outcome → State → Prop} {free : Addr → Prop} {g : JFrame} (S0 : CallFix p m c cc nL s args Ts own) (hTs : GoodIn Ts wsc) (hM : Met l y wsc rm Pc Qc mc ms free) (hcw : Cond.codeWith y bytes maxL ret hh ∈ wsc) (hlink : (Cond.methodLink own index y).before args s = true) (hstat : (Cond.static y).before args s = true) (hini : (Cond.initialized y.cls).before args s = true)
    (hrc : rm.cells = mc) (hrs : rm.slots = ms) (hR : rm.frames + 1 ≤ R.frames ∧ 8 + (maxL + 11) + rm.locals ≤ R.locals) (hd : y.cls ≠ "java/lang/invoke/MethodHandle" ∧ y.cls ≠ "java/lang/invoke/VarHandle" ∧ (parseMethodDescriptor y.desc).map (fun d => d.parameters.length) = some n) (hp : PreS s H Pc As)
    (hg : g.method = m) (hn : As.length = n) (hsize : g.locals.size = nL) (hstack : g.stack = As.reverse ++ rest) (hW : 2 * g.monitorRoom + (rest.map fun v => v.category).sum ≤ 8) (hdg : decode cc g.pc = .ok (.invokestatic index, 3)) (hf : cells + mc ≤ R.cells ∧ slots + ms ≤ R.slots) :
    va_Run p l e R s m args below meth c H locs cells slots mc ms g rest (Qc As.toArray) free := by
  obtain ⟨hx, hb, hml, ho, hts⟩ := S0
  have hws := pay_in hts hTs
  have hK : Back l R p e below s args y 3 8 (PreOf R mc ms Pc) (PostOf Qc mc ms free) := va_backW (hh := hh) (bytes := bytes) (maxL := maxL) (ret := ret) hM hp.1 hrc hrs hR.1 hR.2 hws hcw (fun a' U hW => word_at hW (Or.inl (by first | rfl | simp [Cond.onTables, Cond.keeps, Cond.steady])) hini)
  have hcode : (Cond.codeWith y bytes maxL ret hh).before args s = true := hws _ hcw args s (State.WarmedH.refl s)
  obtain ⟨mk, methM, cM, hnamed, hmethM, -, -, -, -, -, -, hsigM⟩ := Cond.codeWith_spec hcode
  have hstatic : methM.isStatic = true := Cond.static_spec hnamed hmethM hstat
  obtain ⟨kP, hkP, -⟩ := className_of_methodNamed hnamed
  have hinitP : kP.init = .initialized := Cond.initialized_spec (findClass_of_methodNamed hnamed) hkP hini
  have hlen : As.length = methM.sig.parameters.length := by
    have h2 := hd.2.2
    rw [hsigM] at h2
    exact hn.trans (Option.some.inj h2).symm
  intro T hT X
  obtain ⟨vm₁, X₁, hstep₁⟩ := X.invokestatic hx ho hlink hnamed hmethM hstatic hkP hinitP ⟨hd.1, hd.2.1⟩ (g := g) hg (argsL := As) (rest := rest) hlen hstack (by rw [hb]; exact hdg)
  obtain ⟨v, ⟨U', l2, c2, s2⟩, X', ⟨g', mk', t, L, e1, e2, hq, h1, hL, h2, h3⟩, hsteps⟩ := hK m meth c ⟨T.setVm vm₁, locs, cells, slots⟩ { g with stack := rest } (.invokestatic index) mk As.toArray X₁ hg (hsize.trans hml.symm) (by rw [hb]; exact hdg) hW (X₁.named hnamed) ⟨hf.1, hf.2, hp.2 (T.setVm vm₁) hT X₁.warmed⟩
  dsimp only [Pt.U, Pt.locs, Pt.cells, Pt.slots] at X' e1 e2 h1 h2 h3 hsteps
  subst h1; subst h2; subst h3
  exact ⟨v, (T.setVm vm₁).calling g' mk' As.toArray, t, U', L, hT, X', hL, e1, e2, hq, fun target h => hstep₁ _ fun acts => by rw [doInvoke_state]; exact hsteps.trans h⟩
end TI
