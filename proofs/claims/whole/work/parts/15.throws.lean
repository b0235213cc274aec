/-! Methods that end by throwing a new exception of a JDK class, having written nothing. -/
def tQ (cls : String) : Array Value → State → Outcome → State → Prop := fun _ _ o t => ∃ (x : Addr) (ce : Cell), o = .threw x ∧ t.heap[x]? = some ce ∧ ce.vm = .none ∧ t.vm.findClass cls = some ce.cls
def Tet (l : Launch) (y : MethodName) (ws : List Cond) (rm : Room) (Pc : Array Value → State → Prop) (cls : String) (mc ms : Nat) : Prop :=
  MetFree l y (headSpec ws rm) Pc (fun _ _ _ _ _ => True) (fun a st o t => tQ cls a st o t ∧ FramedT st o t [] mc ms)
def MQT (below : List Frame) (cls : String) (a : Array Value) (s : State) (mc ms : Nat) : State → Prop := fun t =>
  ∃ o, t.status = .running ∧ Ended t below o ∧ tQ cls a s o t ∧ FramedT s o t [] mc ms
section TW
variable {l : Launch}
theorem t_ofW {y : MethodName} {ws ws' : List Cond} {rm : Room} {Pc : Array Value → State → Prop} {cls : String} {mc ms : Nat} {cc : ByteArray} {maxL : Nat} {ret : Option FieldType}
    (hy : plainName y.cls = true) (hw : ws = Cond.code y cc maxL ret :: ws')
    (body : ∀ p e s m args below meth c s₁, BodyLoose p l y (headSpec ws rm) cc maxL ret e s m args below meth c s₁ → c.maxLocals = maxL → Pc args s →
      W p l e (headSpec ws rm).room s m args below meth c s.heap [] 0 0 (MQT below cls args s mc ms) (entryFrame m args maxL)) : Tet l y ws rm Pc cls mc ms := by
  refine MetFree.of_bodyS (code := cc) (maxLocals := maxL) (ret := ret) hy ?_ ?_
  · intro args s m h hn
    obtain ⟨meth, c, h1, h2, h3, h4, h5, h6, -, -⟩ := Cond.code_spec hn (atoms_spec (ws := ws) h _ (by rw [hw]; exact List.mem_cons_self))
    exact ⟨meth, c, h1, h2, h3, h4, h5, h6⟩
  · intro p e s m args below meth c s₁ B hml hP _
    have hh0 : s₁.heap = s.heap := by rw [B.state]; rfl
    obtain ⟨t, a1, o, b1, b2, b3⟩ := body p e s m args below meth c s₁ B hml hP s₁ hh0 (Stand.of_body B)
    exact ⟨t, o, a1, b1, b2, b3⟩
end TW
section TB
variable {l : Launch} {R : Room} {p : Program} {e : Env} {below : List Frame} {s : State} {sargs : Array Value} {y : MethodName} {len W0 : Nat}
theorem t_back {ws : List Cond} {rm : Room} {Pc : Array Value → State → Prop} {cls : String} {mc ms : Nat} {bytes : ByteArray} {maxL : Nat} {ret : Option FieldType}
    (hM : Tet l y ws rm Pc cls mc ms) (hblind : FrameBlind Pc) (hrc : rm.cells = mc) (hrs : rm.slots = ms)
    (hframes : rm.frames + 1 ≤ R.frames) (hlocals : W0 + (maxL + 11) + rm.locals ≤ R.locals)
    {m : MethodId} {meth : Method} {c : Code} {U : State} {locs : List Loc} {cells slots : Nat} (X : Stand p l e R s m sargs below meth c U locs cells slots)
    (hws : ∀ w ∈ ws, ∀ a' U, s.WarmedH U.vm → w.before a' U = true) (hcode : Cond.code y bytes maxL ret ∈ ws) (hinit : ∀ a' U, s.WarmedH U.vm → (Cond.initialized y.cls).before a' U = true)
    {g : JFrame} {ig : Instr} {mk : MethodId} {a : Array Value} (hg : g.method = m) (hsize : g.locals.size = c.maxLocals) (hdg : decode c.code g.pc = .ok (ig, len))
    (hW : 2 * g.monitorRoom + (g.stack.map fun v => v.category).sum ≤ W0) (hn : U.methodNamed? y = some mk) (hc : cells + mc ≤ R.cells) (hs : slots + ms ≤ R.slots) (hp : Pc a U) :
    ∃ (x : Addr) (ce : Cell) (T' : State), Stand p l e R s m sargs below meth c T' locs (cells + mc) (slots + ms) ∧ T'.heap[x]? = some ce ∧ ce.vm = .none ∧ T'.vm.findClass cls = some ce.cls ∧ U.WarmedH T'.vm ∧ (∀ (q : Addr) (cell : Cell), U.heap[q]? = some cell → T'.heap[q]? = some cell) ∧
      Steps p.tables e below (doInvoke e (U.setTop g) [] mk a).1 ((T'.setTop g).pushFrame (.throwing x)) := by
  have h1 : (headSpec ws rm).pre.before a U = true := atoms_intro fun w hw => hws w hw _ _ X.warmed
  have h2 : (Cond.code y bytes maxL ret).before a U = true := hws _ hcode _ _ X.warmed
  have h3 : (Cond.initialized y.cls).before a U = true := hinit _ _ X.warmed
  obtain ⟨methY, cY, hmY, hcY, -, hlY, -, -, -, -⟩ := Cond.code_spec hn h2
  obtain ⟨kY, hkY, -⟩ := className_of_methodNamed hn
  have hinitY : kY.init = .initialized := Cond.initialized_spec (findClass_of_methodNamed hn) hkY h3
  have h : At U g.method c below := by rw [hg]; exact X.here
  have happ : (headSpec ws rm).appliesLoose y e.platform (U.calling g mk a) = true :=
    Spec.appliesLoose_calling (g := g) h hdg hn hkY hinitY
      (X.room_calling (g := g) (R' := (headSpec ws rm).room) hsize hmY hcY hframes (by rw [hlY]; show 2 * g.monitorRoom + (g.stack.map fun v => v.category).sum + (maxL + 11) + rm.locals ≤ R.locals; omega) (by show cells + rm.cells ≤ R.cells; omega) (by show slots + rm.slots ≤ R.slots; omega)) h1
  obtain ⟨mid, hmid⟩ := h.above
  have hfr : (U.setTop g).frames = (.java g :: mid) ++ below := by rw [State.frames_setTop' g h.top, hmid]; rfl
  obtain ⟨o, s₂, hsteps, -, hend, hq⟩ := Steps.callFree hM p X.admits X.cas X.clock (acts := []) hfr happ (hblind _ _ _ _ hp) trivial
  obtain ⟨⟨x, ce, hx, hce, hv, hcl⟩, -, hW₂, hsame⟩ := hq
  subst hx
  rw [State.frames_setTop' g h.top, X.tail] at hend
  obtain ⟨T', X', hWT, hsm, ht⟩ := X.outOfThrown hg hend hW₂ hsame
  have hvm : T'.vm = s₂.vm := by rw [ht]; rw [Stand.throwing_vm]
  have hhp : T'.heap = s₂.heap := by rw [ht]; rw [Stand.throwing_heap]
  refine ⟨x, ce, T', by simpa using X', by rw [hhp]; exact hce, hv, by rw [hvm]; exact hcl, hWT, fun q cell hqc => ?_, ?_⟩
  · have := hsm.old_cell hqc
    exact this
  · rw [← ht]; exact hsteps
end TB
section TC
variable {p : Program} {l : Launch} {e : Env} {R : Room} {s : State} {m : MethodId} {args : Array Value} {below : List Frame} {meth : Method} {c : Code} {H : Heap} {locs : List Loc} {cells slots : Nat}
variable {y : MethodName} {bytes cc : ByteArray} {maxL nL mc ms n index : Nat} {ret : Option FieldType} {ws : List Cond} {rm : Room} {Pc : Array Value → State → Prop} {Ts : List Cond} {own C cls : String} {b : Addr} {As rest : List Value} {g : JFrame}
/-- a call that throws: the walk stands with the note laid over the caller's frame -/
def t_Run (p : Program) (l : Launch) (e : Env) (R : Room) (s : State) (m : MethodId) (args : Array Value) (below : List Frame) (meth : Method) (c : Code) (H : Heap) (locs : List Loc) (cells slots mc ms : Nat) (g : JFrame) (rest : List Value) (cls : String) : Prop :=
  ∀ T : State, T.heap = H → Stand p l e R s m args below meth c T locs cells slots → ∃ (x : Addr) (ce : Cell) (T' : State), Stand p l e R s m args below meth c T' locs (cells + mc) (slots + ms) ∧ T'.heap[x]? = some ce ∧ ce.vm = .none ∧ T'.vm.findClass cls = some ce.cls ∧ (∀ (q : Addr) (cell : Cell), H[q]? = some cell → T'.heap[q]? = some cell) ∧
    ∀ target, Steps p.tables e below ((T'.setTop { g with stack := rest }).pushFrame (.throwing x)) target → Steps p.tables e below (T.setTop g) target
theorem t_runV (S0 : CallFix p m c cc nL s args Ts own) (hM : Tet l y ws rm Pc cls mc ms) (cw : CallW R s args own C index y bytes maxL ret ws rm mc ms n) (hp : PreV s H C b Pc As)
    (hg : g.method = m) (hn : As.length = n) (hsize : g.locals.size = nL) (hstack : g.stack = As.reverse ++ .ref b :: rest) (hW : 2 * g.monitorRoom + (rest.map fun v => v.category).sum ≤ 8) (hdg : decode cc g.pc = .ok (.invokevirtual index, 3)) (hf : cells + mc ≤ R.cells ∧ slots + ms ≤ R.slots) :
    t_Run p l e R s m args below meth c H locs cells slots mc ms g rest cls := by
  obtain ⟨⟨hrc, hrs, hfr, hlo, hws, hcw, hcode, hini, hy, hlen, hl⟩, hin, hse⟩ := cw
  obtain ⟨hx, hb, hml, ho, -⟩ := S0
  obtain ⟨hbl, ⟨cellB, hcB, hoB, hclB⟩, hPc⟩ := hp
  intro T hT X
  obtain ⟨mk, methM, hnamed, hmethM, hstM, habM⟩ := Cond.instanceMethod_spec hin
  obtain ⟨methM', cM, hmethM', -, -, -, -, -, -, hsigM⟩ := Cond.code_spec hnamed hcode
  cases hmethM.symm.trans hmethM'
  obtain ⟨c2, r2, m2, q1, q2, q3, q4, kP, hkP, hkPi⟩ := Cond.selects_spec hse
  cases hclB.symm.trans q1
  cases (State.methodFound?_of_named hnamed hy).symm.trans q2
  cases hnamed.symm.trans q3
  have hselP : selectMethod e.platform s.vm cellB.cls mk = .method mk := by rw [Launch.admits_selectMethod X.admits]; exact q4
  obtain ⟨vm₁, X₁, hstep₁⟩ := X.invokevirtual hx ho hl hnamed hmethM hstM hkP hkPi hy (a := b) (cell := cellB) (by rw [hT]; exact hcB)
    (fun z h => by rw [h] at hoB; cases hoB) hselP hmethM habM hkP hkPi (g := g) hg (argsL := As) (rest := rest) (hn.trans (hlen _ hsigM)) hstack (by rw [hb]; exact hdg)
  obtain ⟨x, ce, T', X', h1, h2, h3, h4, h5, hst⟩ := t_back (bytes := bytes) (maxL := maxL) (ret := ret) (len := 3) (W0 := 8) hM hbl hrc hrs hfr hlo X₁ hws hcw (fun a' U hW => word_at hW (Or.inl (by first | rfl | simp [Cond.onTables, Cond.keeps, Cond.steady])) hini)
    (g := { g with stack := rest }) (ig := .invokevirtual index) (mk := mk) (a := (Value.ref b :: As).toArray) hg (hsize.trans hml.symm) (by rw [hb]; exact hdg) hW (X₁.named hnamed) hf.1 hf.2 (hPc (T.setVm vm₁) hT X₁.warmed)
  exact ⟨x, ce, T', X', h1, h2, h3, fun q cell hq => h5 q cell (by show T.heap[q]? = some cell; rw [hT]; exact hq), fun target h => hstep₁ _ fun acts => by rw [doInvoke_state]; exact hst.trans h⟩
theorem t_runS (S0 : CallFix p m c cc nL s args Ts own) (hM : Tet l y ws rm Pc cls mc ms) (cw : CallB R s args own index y bytes maxL ret ws rm mc ms n ∧ (Cond.static y).before args s = true) (hp : PreS s H Pc As)
    (hg : g.method = m) (hn : As.length = n) (hsize : g.locals.size = nL) (hstack : g.stack = As.reverse ++ rest) (hW : 2 * g.monitorRoom + (rest.map fun v => v.category).sum ≤ 8) (hdg : decode cc g.pc = .ok (.invokestatic index, 3)) (hf : cells + mc ≤ R.cells ∧ slots + ms ≤ R.slots) :
    t_Run p l e R s m args below meth c H locs cells slots mc ms g rest cls := by
  obtain ⟨⟨hrc, hrs, hfr, hlo, hws, hcw, hcode, hini, hy, hlen, hl⟩, hstat⟩ := cw
  obtain ⟨hx, hb, hml, ho, -⟩ := S0
  obtain ⟨hbl, hPc⟩ := hp
  intro T hT X
  obtain ⟨mk, hnamed⟩ := Cond.code_named hcode
  obtain ⟨methM, cM, hmethM, -, -, -, -, -, -, hsigM⟩ := Cond.code_spec hnamed hcode
  have hstatic : methM.isStatic = true := Cond.static_spec hnamed hmethM hstat
  obtain ⟨kP, hkP, -⟩ := className_of_methodNamed hnamed
  have hinitP : kP.init = .initialized := Cond.initialized_spec (findClass_of_methodNamed hnamed) hkP hini
  obtain ⟨vm₁, X₁, hstep₁⟩ := X.invokestatic hx ho hl hnamed hmethM hstatic hkP hinitP hy (g := g) hg (argsL := As) (rest := rest) (hn.trans (hlen _ hsigM)) hstack (by rw [hb]; exact hdg)
  obtain ⟨x, ce, T', X', h1, h2, h3, h4, h5, hst⟩ := t_back (bytes := bytes) (maxL := maxL) (ret := ret) (len := 3) (W0 := 8) hM hbl hrc hrs hfr hlo X₁ hws hcw (fun a' U hW => word_at hW (Or.inl (by first | rfl | simp [Cond.onTables, Cond.keeps, Cond.steady])) hini)
    (g := { g with stack := rest }) (ig := .invokestatic index) (mk := mk) (a := As.toArray) hg (hsize.trans hml.symm) (by rw [hb]; exact hdg) hW (X₁.named hnamed) hf.1 hf.2 (hPc (T.setVm vm₁) hT X₁.warmed)
  exact ⟨x, ce, T', X', h1, h2, h3, fun q cell hq => h5 q cell (by show T.heap[q]? = some cell; rw [hT]; exact hq), fun target h => hstep₁ _ fun acts => by rw [doInvoke_state]; exact hst.trans h⟩
/-- no handler here: the method throws what its callee threw -/
theorem t_pass {pc : Nat} {ls : Array Slot} {st0 : List Value} (hr : t_Run p l e R s m args below meth c s.heap [] cells slots mc ms (F0 m pc ls st0) rest cls) (hne : c.exceptionTable.toList = []) (hlocks : meth.locks = false) :
    W p l e R s m args below meth c s.heap [] cells slots (MQT below cls args s (cells + mc) (slots + ms)) (F0 m pc ls st0) := by
  intro T hT X
  obtain ⟨x, ce, T', X', h1, h2, h3, h4, st⟩ := hr T hT X
  obtain ⟨hwalk, hrun, hend, hW, hsame⟩ := X'.leaveThrown x (g := { (F0 m pc ls st0) with stack := rest }) rfl rfl rfl (by rw [hne]; intro z hz; cases hz) hlocks
  exact ⟨_, st _ hwalk, .threw x, hrun, hend, ⟨x, ce, rfl, h1, h2, h3⟩, ⟨x, rfl⟩, hW, hsame⟩
end TC
/-! What a throw of a JDK exception rests on, beside the good words: kept from a state to a later one -/
def faceW : List Cond := lw_tbl.filter (fun w => w.onTables && w.keepsFace)
def isStr : Cond → Bool
  | .stringRef _ _ _ => true
  | _ => false
def strW : List Cond := lw_tbl.filter isStr
abbrev tThr : String := "java/lang/Throwable"
abbrev tSte : String := "[Ljava/lang/StackTraceElement;"
abbrev tLst : String := "Ljava/util/List;"
abbrev tS1 : List Cond := [.laysStatic tThr "UNASSIGNED_STACK" tSte, .laysStatic tThr "SUPPRESSED_SENTINEL" tLst]
abbrev tS2 : List Cond := [.isRef (.static tThr "UNASSIGNED_STACK" tSte), .isRef (.static tThr "SUPPRESSED_SENTINEL" tLst)]
abbrev exUp : List String := ["java/lang/RuntimeException", "java/lang/Exception"]
abbrev xIA : String := "java/lang/IllegalArgumentException"
abbrev xIS : String := "java/lang/IllegalStateException"
def tF (U : State) : Prop := (∀ w ∈ faceW, w.before #[] U = true) ∧ (∀ w ∈ strW, w.before #[] U = true) ∧ (∀ w ∈ tS1, w.before #[] U = true) ∧ (∀ w ∈ tS2, w.before #[] U = true) ∧ va_Nc xIS xIA U
/-- cells of statics stay -/
def tKeep (s U : State) : Prop := ∀ (q : Addr) (cell : Cell), s.heap[q]? = some cell → cell.vm.isStatics = true → U.heap[q]? = some cell
theorem tk_ls {o n d : String} {A A' : Array Value} {s U : State} (hW : s.WarmedH U.vm) (hk : tKeep s U) (h : (Cond.laysStatic o n d).before A s = true) : (Cond.laysStatic o n d).before A' U = true := by
  have h1 : (Cond.laysStatic o n d).before A (s.setVm U.vm) = true := Cond.before_shiftedFace (State.Shifted.of_warmed hW) _ rfl h
  obtain ⟨c, k, i, f, a, cell, q1, q2, q3, q4, q5, q6, q7, q8, q9⟩ := Cond.laysStatic_spec h1
  have e5 : U.heap[a]? = some cell := hk a cell q5 q6
  have e1 : U.vm.findClass o = some c := q1
  have e2 : U.fieldFound? o n d = some (c, k, i, f) := q2
  simp [Cond.before, Cond.holds, Cond.value, e1, e2, q3, q4, e5, q6, q7, q8, q9]
theorem tk_ir {o n d : String} {A A' : Array Value} {s U : State} (hW : s.WarmedH U.vm) (hk : tKeep s U) (hl : (Cond.laysStatic o n d).before A s = true) (h : (Cond.isRef (.static o n d)).before A s = true) : (Cond.isRef (.static o n d)).before A' U = true := by
  have h1 : (Cond.laysStatic o n d).before A (s.setVm U.vm) = true := Cond.before_shiftedFace (State.Shifted.of_warmed hW) _ rfl hl
  have h2 : (Cond.isRef (.static o n d)).before A (s.setVm U.vm) = true := Cond.before_shiftedFace (State.Shifted.of_warmed hW) _ rfl h
  obtain ⟨c, k, i, f, a, cell, q1, q2, q3, q4, q5, q6, q7, q8, q9⟩ := Cond.laysStatic_spec h1
  have e5 : U.heap[a]? = some cell := hk a cell q5 q6
  have e2 : U.fieldFound? o n d = some (c, k, i, f) := q2
  obtain ⟨u, hu⟩ := Cond.staticRefV (s := s.setVm U.vm) q2 q3 q4 q5 q6 h2
  have he : (Term.static o n d).eval A' U none [] U = some u.v := by
    simp [Term.eval, State.fieldNamed?, e2, q3, q4, e5, q6, hu]
  simp only [Cond.before, Cond.holds, Cond.value, he]
  obtain ⟨uv, ok⟩ := u
  cases uv <;> first | rfl | (simp [Value.isRef] at ok)
theorem tF.moved {s U : State} (hW : s.WarmedH U.vm) (hk : tKeep s U) (h : tF s) : tF U := by
  obtain ⟨h1, h2, h3, h4, h5⟩ := h
  refine ⟨fun w hw => ?_, fun w hw => ?_, fun w hw => ?_, fun w hw => ?_, h5.moved hW.alike⟩
  · have hf := (List.mem_filter.mp hw).2
    rw [Bool.and_eq_true] at hf
    have h6 : w.before #[] (s.setVm U.vm) = true := Cond.before_shiftedFace (State.Shifted.of_warmed hW) _ hf.2 (h1 w hw)
    exact va_tabs hf.1 (rfl : (s.setVm U.vm).vm = U.vm) h6
  · have hf := (List.mem_filter.mp hw).2
    have hb := h2 w hw
    cases w with
    | stringRef c i t =>
      obtain ⟨cur, hcur⟩ : ∃ cur, s.vm.findClass c = some cur := by
        have h1 := hb
        simp only [Cond.before, Cond.holds, Cond.value] at h1
        cases hc : s.vm.findClass c with
        | none => simp [hc] at h1
        | some cur => exact ⟨cur, rfl⟩
      obtain ⟨-, -, -, a, -, -, -, -, -, hev⟩ := Cond.stringRef_spec hcur hb
      exact (vk_R.warm hW (vk_R.of hb hev)).1
    | _ => simp [isStr] at hf
  · simp only [List.mem_cons, List.not_mem_nil, or_false] at hw
    rcases hw with rfl | rfl
    · exact tk_ls hW hk (h3 _ (by simp))
    · exact tk_ls hW hk (h3 _ (by simp))
  · simp only [List.mem_cons, List.not_mem_nil, or_false] at hw
    rcases hw with rfl | rfl
    · exact tk_ir hW hk (h3 (.laysStatic tThr "UNASSIGNED_STACK" tSte) (by simp)) (h4 _ (by simp))
    · exact tk_ir hW hk (h3 (.laysStatic tThr "SUPPRESSED_SENTINEL" tLst) (by simp)) (h4 _ (by simp))
theorem tKeep.rf (s : State) : tKeep s s := fun _ _ h _ => h
/-- the world with what a throw rests on -/
abbrev tPre {S : Type} (D : va_G) (tys : List (ClassId × FieldType)) (w : S → va_W) (u : S) (t : State) : Prop := gG D tys w u t ∧ tF t
def exOk (own : String) (ic : Nat) (cls : String) : Bool := (Bundle.ownAtoms own ic cls exUp).all (fun a => (a.onTables && a.keepsFace && decide (a ∈ lw_tbl)) || (decide (a ∈ tS1) || decide (a ∈ tS2)))
theorem exUse {own cls : String} {ic : Nat} {args : Array Value} {s : State} (h : exOk own ic cls = true) (hT : tF s) : ∀ a ∈ Bundle.ownAtoms own ic cls exUp, a.before args s = true := by
  intro a ha
  have h1 := List.all_eq_true.mp h a ha
  simp only [Bool.or_eq_true, Bool.and_eq_true, decide_eq_true_eq] at h1
  rcases h1 with h1 | h1 | h1
  · exact va_tabs h1.1.1 rfl (hT.1 a (List.mem_filter.mpr ⟨h1.2, by rw [h1.1.1, h1.1.2]; rfl⟩))
  · simp only [List.mem_cons, List.not_mem_nil, or_false] at h1
    rcases h1 with rfl | rfl
    · exact tk_ls (State.WarmedH.refl s) (tKeep.rf s) (hT.2.2.1 _ (by simp))
    · exact tk_ls (State.WarmedH.refl s) (tKeep.rf s) (hT.2.2.1 _ (by simp))
  · simp only [List.mem_cons, List.not_mem_nil, or_false] at h1
    rcases h1 with rfl | rfl
    · exact tk_ir (State.WarmedH.refl s) (tKeep.rf s) (hT.2.2.1 (.laysStatic tThr "UNASSIGNED_STACK" tSte) (by simp)) (hT.2.2.2.1 _ (by simp))
    · exact tk_ir (State.WarmedH.refl s) (tKeep.rf s) (hT.2.2.1 (.laysStatic tThr "SUPPRESSED_SENTINEL" tLst) (by simp)) (hT.2.2.2.1 _ (by simp))
set_option maxRecDepth 100000 in
theorem exIA : exOk "DeskBench" 131 xIA = true := by decide +kernel
set_option maxRecDepth 100000 in
theorem exIS : exOk "DeskBench" 139 xIS = true := by decide +kernel
section TT
variable {p : Program} {l : Launch} {e : Env} {R : Room} {s : State} {m : MethodId} {args : Array Value} {below : List Frame} {meth : Method} {c : Code} {cells slots : Nat}
variable {cc bytes : ByteArray} {pc maxL nL n index : Nat} {ls : Array Slot} {rest st0 As : List Value} {D : va_G} {tys : List (ClassId × FieldType)} {b : Addr} {y : MethodName} {ret : Option FieldType} {wsc Ts : List Cond} {rm : Room} {own C cls text : String}
theorem t_throw {ik is ic : Nat} (hex : exOk own ic cls = true) (hfit : Bundle.fit cls = true) (hexec : p.tables.exec = Jvm.exec) (hb : c.code = cc) (hL : l.stackTraces = false) (hown : s.vm.findClass own = some m.cls) (hts : ∀ w ∈ bigW, w.before args s = true) (hT : tF s)
    (hk : Cond.classLink own ik cls ∈ bigW) (hi : Cond.initialized cls ∈ bigW) (hst : Cond.stringRef own is text ∈ strW) (hne : c.exceptionTable.toList = []) (hsz : ls.size = nL) (hml : c.maxLocals = nL)
    (d0 : decode cc pc = .ok (.new ik, 3)) (d3 : decode cc (pc + 3) = .ok (.dup, 1)) (d4 : decode cc (pc + 4) = .ok (.ldc is, 2)) (d6 : decode cc (pc + 6) = .ok (.invokespecial ic, 3)) (d9 : decode cc (pc + 9) = .ok (.athrow, 1))
    (r1 : 5 < R.frames) (r2 : (rest.map fun v => v.category).sum + 82 ≤ R.locals) (r3 : cells + 1 ≤ R.cells) (r4 : slots + 6 ≤ R.slots) (hlocks : meth.locks = false) :
    W p l e R s m args below meth c s.heap [] cells slots (MQT below cls args s (cells + 1) (slots + 6)) (F0 m pc ls rest) := by
  intro T hT0 X
  have htr : e.platform.stackTraces = false := by rw [X.admits.platform]; exact hL
  have hat := exUse (args := args) hex hT
  have hins : (Cond.instantiable cls 6).before args s = true := hat _ (by simp [Bundle.ownAtoms])
  obtain ⟨vm₁, cX, kX, hfX, hkX, -, -, X₁, st1⟩ := X.newCold hexec (own := own) (C := cls) (index := ik) (n := 6) hown (hts _ hk) hins (hts _ hi) (g := F0 m pc ls rest) rfl (by rw [hb]; exact d0) r3 r4
  generalize hT1 : (T.setVm vm₁).pushCell { cls := cX, slots := kX.instanceTypes.map defaultValue, vm := .none } = T1 at X₁ st1
  have hcellA : T1.heap[T.heap.size]? = some (freshCell cX kX) := by rw [← hT1]; exact State.heap_pushCell_size _ _
  have hs : (Cond.stringRef own is text).before args s = true := hT.2.1 _ hst
  obtain ⟨-, -, -, sa, -, -, -, -, -, hev⟩ := Cond.stringRef_spec hown hs
  have hcat : (Value.ref T.heap.size).category = 1 := rfl
  obtain ⟨U, hsteps, hrun, hend, hW, hsame, ce, hce, K⟩ := X₁.ctorThrowS hexec htr (own := own) (cls := cls) (names := exUp) (ic := ic) hown hfit (by decide +kernel) hat (fun x hx => by cases hx) hfX hkX hcellA (by rw [hT0]; exact Nat.le_refl _) (msg := .ref sa) rfl
    (g := F0 m (pc + 6) ls (.ref sa :: .ref T.heap.size :: .ref T.heap.size :: rest)) rfl (hsz.trans hml.symm) rfl rfl (rest := rest) rfl (by rw [hb]; exact d6) (by rw [hb]; exact d9) (by rw [hne]; intro x hx; cases hx)
    (by simpa using r1) (by simp only [List.map_cons, List.sum_cons, hcat, List.length_cons, List.length_nil]; have : (F0 m (pc + 6) ls (.ref sa :: .ref T.heap.size :: .ref T.heap.size :: rest)).monitorRoom = 0 := rfl; omega) hlocks
  refine ⟨U, ?_, .threw T.heap.size, hrun, hend, ⟨T.heap.size, ce, rfl, hce, K.vm, by rw [hW.alike.findClass]; exact K.cls⟩, ⟨_, rfl⟩, hW, hsame⟩
  refine st1 _ ?_
  show Steps p.tables e below (T1.setTop (F0 m (pc + 3) ls (.ref T.heap.size :: rest))) _
  jvm_step X₁.here [X₁.here.top, hexec, hb, d3, Value.category]
  exact X₁.ldcString hexec (own := own) (text := text) (index := is) (a := sa) hown hs hev (g := F0 m (pc + 4) ls (.ref T.heap.size :: .ref T.heap.size :: rest)) rfl (by rw [hb]; exact d4) _ hsteps
theorem tPre_blind {S : Type} {w : S → va_W} {v : S} {av : List Value} : FrameBlind (va_Pc av (tPre D tys w v)) := fun a U g mk q => ⟨q.1, ⟨q.2.1.1, va_K.moved (u := U) (U := U.calling g mk a) (Vm.Alike.refl U.vm) q.2.1.2⟩, tF.moved (s := U) (U := U.calling g mk a) (State.WarmedH.refl U) (tKeep.rf U) q.2.2⟩
theorem t_passV {S : Type} {w : S → va_W} {v : S} (S0 : CallFix p m c cc nL s args Ts own) (hM : Tet l y wsc rm (va_Pc (.ref b :: As) (tPre D tys w v)) cls 1 6) (cw : CallW R s args own C index y bytes maxL ret wsc rm 1 6 n) (hK : va_K D vwCl tys s) (hP : va_P D vwCl (w v) s.heap) (hT : tF s)
    (hrc : ∃ cell : Cell, s.heap[b]? = some cell ∧ cell.vm.isStatics = false ∧ s.vm.findClass C = some cell.cls) (hn : As.length = n) (hsz : ls.size = nL) (hst : st0 = As.reverse ++ .ref b :: rest) (hW : (rest.map fun v => v.category).sum ≤ 8) (hdg : decode cc pc = .ok (.invokevirtual index, 3)) (hf : 1 ≤ R.cells ∧ 6 ≤ R.slots)
    (hne : c.exceptionTable.toList = []) (hlocks : meth.locks = false) : W p l e R s m args below meth c s.heap [] 0 0 (MQT below cls args s 1 6) (F0 m pc ls st0) :=
  t_pass (cells := 0) (slots := 0) (mc := 1) (ms := 6) (t_runV (As := As) (rest := rest) S0 hM cw ⟨tPre_blind, hrc, fun U hU hW => ⟨rfl, ⟨by rw [hU]; exact hP, va_K.moved hW.alike hK⟩, hT.moved hW (fun q cell h _ => by rw [hU]; exact h)⟩⟩ rfl hn hsz hst (lv_room hW) hdg ⟨by omega, by omega⟩) hne hlocks
theorem t_passS {S : Type} {w : S → va_W} {v : S} (S0 : CallFix p m c cc nL s args Ts own) (hM : Tet l y wsc rm (va_Pc As (tPre D tys w v)) cls 1 6) (cw : CallB R s args own index y bytes maxL ret wsc rm 1 6 n ∧ (Cond.static y).before args s = true) (hK : va_K D vwCl tys s) (hP : va_P D vwCl (w v) s.heap) (hT : tF s)
    (hn : As.length = n) (hsz : ls.size = nL) (hst : st0 = As.reverse ++ rest) (hW : (rest.map fun v => v.category).sum ≤ 8) (hdg : decode cc pc = .ok (.invokestatic index, 3)) (hf : 1 ≤ R.cells ∧ 6 ≤ R.slots)
    (hne : c.exceptionTable.toList = []) (hlocks : meth.locks = false) : W p l e R s m args below meth c s.heap [] 0 0 (MQT below cls args s 1 6) (F0 m pc ls st0) :=
  t_pass (cells := 0) (slots := 0) (mc := 1) (ms := 6) (t_runS (As := As) (rest := rest) S0 hM cw ⟨tPre_blind, fun U hU hW => ⟨rfl, ⟨by rw [hU]; exact hP, va_K.moved hW.alike hK⟩, hT.moved hW (fun q cell h _ => by rw [hU]; exact h)⟩⟩ rfl hn hsz hst (lv_room hW) hdg ⟨by omega, by omega⟩) hne hlocks
theorem t_enter {S : Type} {w : S → va_W} {v : S} {av : List Value} (hy : plainName y.cls = true) (hw : wsc = Cond.code y cc maxL ret :: bigW) (hlen : (lg_sl av).length ≤ maxL)
    (body : ∀ (p : Program) (e : Env) (s : State) (m : MethodId) (below : List Frame) (meth : Method) (c : Code) (ls : Array Slot), gFix p c cc meth ret m s av.toArray bigW y.cls maxL → c.exceptionTable.toList = [] → va_K D vwCl tys s → va_P D vwCl (w v) s.heap → tF s → lv_has ls maxL (lv_args 0 av) →
      W p l e rm s m av.toArray below meth c s.heap [] 0 0 (MQT below cls av.toArray s 1 6) (F0 m 0 ls [])) : Tet l y wsc rm (va_Pc av (tPre D tys w v)) cls 1 6 := by
  refine t_ofW (cc := cc) (maxL := maxL) (ret := ret) hy hw ?_
  intro p e s m args below meth c s₁ B hml hv
  obtain ⟨rfl, ⟨hP, hK⟩, hT⟩ := hv
  have hts0 := atoms_spec (ws := wsc) B.pre
  have hts : ∀ w ∈ bigW, w.before av.toArray s = true := fun w h => hts0 w (by rw [hw]; exact List.mem_cons_of_mem _ h)
  have hown : s.vm.findClass y.cls = some m.cls := findClass_of_methodNamed B.named
  have he : c.exceptionTable.isEmpty = true := B.noHandlers (hts0 _ (by rw [hw]; exact List.mem_cons_self))
  have hne : c.exceptionTable.toList = [] := by
    have h0 : c.exceptionTable.size = 0 := by simpa [Array.isEmpty] using he
    exact List.eq_nil_of_length_eq_zero (by simpa using h0)
  have hl := lv_entry av (n := maxL) hlen
  rw [lg_entry_eq]
  exact body p e s m below meth c _ ⟨B.exec, B.bytes, B.returns, hml, hown, hts, B.notSynchronized⟩ hne hK hP hT hl
end TT
/-! which arguments are legal, as the class tests them -/
def fDB_isPort (x : Int32) : Bool := if x < 0 then false else if x < 8 then true else false
def fDB_isNum (x : Int32) : Bool := if x < 1 then false else if x ≤ 1000000000 then true else false
def fDB_isTick (x : Int32) : Bool := if x < 1 then false else if x ≤ 2000 then true else false
def fDB_isPart (x : Int32) : Bool := if x < 0 then false else if x < 6 then true else false
