/-! Rows of our own, over the kit's: a world that is a function of a state (w : S → cells), one contract form, calls in that form. -/
/-- an int that is -1 or a place -/
def oi (o : Option Nat) : Int32 := match o with
  | none => -1
  | some k => nI k
/-- an int that is a boolean -/
def bi (b : Bool) : Int32 := cond b 1 0
def bI (k : Nat) : Int32 := 1 <<< (nI k &&& 31)
def bL (k : Nat) : Int64 := 1 <<< ((nI k).toInt64 &&& 63)
def ush (x : Int64) (y : Int32) : Int64 := (x.toUInt64 >>> (y.toInt64.toUInt64 &&& Int64.toUInt64 63)).toInt64
def bc1 (w : Int64) : Int64 := w - (ush w 1 &&& 6148914691236517205)
def bc2 (w : Int64) : Int64 := (w &&& 3689348814741910323) + (ush w 2 &&& 3689348814741910323)
def bc3 (w : Int64) : Int64 := (w + ush w 4) &&& 1085102592571150095
def bc4 (y : Int32) (w : Int64) : Int64 := w + ush w y
/-- how many bits are set, as the JDK counts them -/
def bcN (w : Int64) : Int32 := (bc4 32 (bc4 16 (bc4 8 (bc3 (bc2 (bc1 w)))))).toInt32 &&& 127
def bW (x : Int32) : Int64 := 1 <<< (x.toInt64 &&& 63)
theorem cond_yes {α : Type} {b : Bool} {x y : α} (h : b = true) : cond b x y = x := by rw [h]; rfl
theorem cond_no {α : Type} {b : Bool} {x y : α} (h : b = false) : cond b x y = y := by rw [h]; rfl
theorem bi_inj {x y : Bool} (h : bi x = bi y) : x = y := by
  cases x <;> cases y <;> first | rfl | (exact absurd h (by decide))
theorem bi_0 {b : Bool} : bi b = 0 ↔ b = false := by cases b <;> decide
theorem nI_m1 {k : Nat} (h : k < 2 ^ 31) : ¬ nI k = -1 := by
  intro q
  have h1 := nI_toInt h
  rw [q] at h1
  have h2 : (-1 : Int32).toInt = -1 := by decide
  omega
theorem nI_z {k : Nat} (h : k < 2 ^ 31) : nI k = 0 ↔ k = 0 := by
  constructor
  · intro q
    have h1 := nI_toInt h
    rw [q, Int32.toInt_zero] at h1
    omega
  · intro q
    subst q
    exact nI_0
theorem nI_sub1 {k : Nat} (h : 0 < k) : nI k - 1 = nI (k - 1) := by
  obtain ⟨j, rfl⟩ : ∃ j, k = j + 1 := ⟨k - 1, by omega⟩
  exact nI_pred j
/-- what a method knows of its own frame -/
abbrev gFix (p : Program) (c : Code) (cc : ByteArray) (meth : Method) (ret : Option FieldType) (m : MethodId) (s : State) (args : Array Value) (ws : List Cond) (own : String) (nL : Nat) : Prop :=
  p.tables.exec = Jvm.exec ∧ c.code = cc ∧ meth.sig.returnType = ret ∧ c.maxLocals = nL ∧ s.vm.findClass own = some m.cls ∧ (∀ w ∈ ws, w.before args s = true) ∧ meth.locks = false
/-- the world holds the state u -/
abbrev gG {S : Type} (D : va_G) (tys : List (ClassId × FieldType)) (w : S → va_W) (u : S) (t : State) : Prop := va_P D vwCl (w u) t.heap ∧ va_K D vwCl tys t
section GR
variable {p : Program} {l : Launch} {e : Env} {R : Room} {s : State} {m : MethodId} {args : Array Value} {below : List Frame} {meth : Method} {c : Code} {H : Heap} {locs : List Loc} {cells slots : Nat} {Q : State → Prop}
variable {cc : ByteArray} {pc : Nat} {ls : Array Slot} {rest : List Value} {D : va_G} {tys : List (ClassId × FieldType)} {ws : va_W} {A : Nat → Prop} {H0 : Heap} {a : Nat}
theorem lv_eqi {x y : Int32} (h : x = y) (k : W p l e R s m args below meth c H locs cells slots Q (F0 m pc ls (.int y :: rest))) : W p l e R s m args below meth c H locs cells slots Q (F0 m pc ls (.int x :: rest)) := by
  subst h; exact k
theorem lv_eql {x y : Int64} (h : x = y) (k : W p l e R s m args below meth c H locs cells slots Q (F0 m pc ls (.long y :: rest))) : W p l e R s m args below meth c H locs cells slots Q (F0 m pc ls (.long x :: rest)) := by
  subst h; exact k
theorem lv_if_eqb (hexec : p.tables.exec = Jvm.exec) (hb : c.code = cc) {b : Bool} {off : Int} {tgt : Nat} (hdg : decode cc pc = .ok (.ifCond .eq off, 3)) (ht : (pc : Int) + off = (tgt : Int))
    (kt : b = false → W p l e R s m args below meth c H locs cells slots Q (F0 m tgt ls rest)) (kf : b = true → W p l e R s m args below meth c H locs cells slots Q (F0 m (pc + 3) ls rest)) : W p l e R s m args below meth c H locs cells slots Q (F0 m pc ls (.int (bi b) :: rest)) :=
  lv_if_eq hexec hb hdg ht (fun h => kt (bi_0.mp h)) (fun h => kf (by cases b with | false => exact absurd rfl h | true => rfl))
theorem lv_if_neb (hexec : p.tables.exec = Jvm.exec) (hb : c.code = cc) {b : Bool} {off : Int} {tgt : Nat} (hdg : decode cc pc = .ok (.ifCond .ne off, 3)) (ht : (pc : Int) + off = (tgt : Int))
    (kt : b = true → W p l e R s m args below meth c H locs cells slots Q (F0 m tgt ls rest)) (kf : b = false → W p l e R s m args below meth c H locs cells slots Q (F0 m (pc + 3) ls rest)) : W p l e R s m args below meth c H locs cells slots Q (F0 m pc ls (.int (bi b) :: rest)) :=
  lv_if_ne hexec hb hdg ht (fun h => kt (by cases b with | false => exact absurd rfl h | true => rfl)) (fun h => kf (bi_0.mp h))
theorem lv_lif_eq (hexec : p.tables.exec = Jvm.exec) (hb : c.code = cc) {x y : Int64} {off : Int} {tgt : Nat} (hd1 : decode cc pc = .ok (.lcmp, 1)) (hd2 : decode cc (pc + 1) = .ok (.ifCond .eq off, 3)) (ht : ((pc + 1 : Nat) : Int) + off = (tgt : Int))
    (kt : x = y → W p l e R s m args below meth c H locs cells slots Q (F0 m tgt ls rest)) (kf : ¬ x = y → W p l e R s m args below meth c H locs cells slots Q (F0 m (pc + 1 + 3) ls rest)) : W p l e R s m args below meth c H locs cells slots Q (F0 m pc ls (.long y :: .long x :: rest)) :=
  W.lcmp hexec hb hd1 (lv_if_eq hexec hb hd2 ht (fun h => kt ((lg_cmp_eq x y).mp h)) (fun h => kf (fun q => h ((lg_cmp_eq x y).mpr q))))
theorem lv_lif_ne (hexec : p.tables.exec = Jvm.exec) (hb : c.code = cc) {x y : Int64} {off : Int} {tgt : Nat} (hd1 : decode cc pc = .ok (.lcmp, 1)) (hd2 : decode cc (pc + 1) = .ok (.ifCond .ne off, 3)) (ht : ((pc + 1 : Nat) : Int) + off = (tgt : Int))
    (kt : ¬ x = y → W p l e R s m args below meth c H locs cells slots Q (F0 m tgt ls rest)) (kf : x = y → W p l e R s m args below meth c H locs cells slots Q (F0 m (pc + 1 + 3) ls rest)) : W p l e R s m args below meth c H locs cells slots Q (F0 m pc ls (.long y :: .long x :: rest)) :=
  W.lcmp hexec hb hd1 (lv_if_ne hexec hb hd2 ht (fun h => kt (fun q => h ((lg_cmp_eq x y).mpr q))) (fun h => kf ((lg_cmp_eq x y).mp h)))
theorem ir_iald (hexec : p.tables.exec = Jvm.exec) (hb : c.code = cc) (hK : va_K D vwCl tys s) (hP : va_P D vwCl ws H) (q0 t0 : Nat) {cA : ClassId} {n : Nat} {f : Nat → Int32} (ha : ws[q0]? = some (a, .inl (cA, n, .inl f))) (ht : tys[t0]? = some (cA, .int)) {k : Nat} (hk : k < n) (hn : n < 2 ^ 31) (hdg : decode cc pc = .ok (.iaload, 1))
    (kk : W p l e R s m args below meth c H locs cells slots Q (F0 m (pc + 1) ls (.int (f k) :: rest))) : W p l e R s m args below meth c H locs cells slots Q (F0 m pc ls (.int (nI k) :: .ref a :: rest)) := by
  refine va_iald hexec hb hK hP q0 t0 ha ht (vp_in_nI hk hn) hdg ?_
  rw [nI_clamp (by omega)]
  exact kk
theorem ir_lald (hexec : p.tables.exec = Jvm.exec) (hb : c.code = cc) (hK : va_K D vwCl tys s) (hP : va_P D vwCl ws H) (q0 t0 : Nat) {cA : ClassId} {n : Nat} {f : Nat → Int64} (ha : ws[q0]? = some (a, .inl (cA, n, .inr (.inl f)))) (ht : tys[t0]? = some (cA, .long)) {k : Nat} (hk : k < n) (hn : n < 2 ^ 31) (hdg : decode cc pc = .ok (.laload, 1))
    (kk : W p l e R s m args below meth c H locs cells slots Q (F0 m (pc + 1) ls (.long (f k) :: rest))) : W p l e R s m args below meth c H locs cells slots Q (F0 m pc ls (.int (nI k) :: .ref a :: rest)) := by
  refine va_lald hexec hb hK hP q0 t0 ha ht (vp_in_nI hk hn) hdg ?_
  rw [nI_clamp (by omega)]
  exact kk
theorem ir_iast (hexec : p.tables.exec = Jvm.exec) (hb : c.code = cc) (hK : va_K D vwCl tys s) (hP : va_P D vwCl ws H) (hD : va_D A ws) (hS : va_S A H0 H locs) (q0 t0 : Nat) {cA : ClassId} {n : Nat} {f : Nat → Int32} (ha : ws[q0]? = some (a, .inl (cA, n, .inl f))) (ht : tys[t0]? = some (cA, .int)) {k : Nat} {x : Int32} (hk : k < n) (hn : n < 2 ^ 31) (hdg : decode cc pc = .ok (.iastore, 1))
    (kk : ∀ (H1 : Heap) (locs1 : List Loc), va_P D vwCl (ws.set q0 (a, .inl (cA, n, .inl (upd f k x)))) H1 → va_S A H0 H1 locs1 → W p l e R s m args below meth c H1 locs1 cells slots Q (F0 m (pc + 1) ls rest)) : W p l e R s m args below meth c H locs cells slots Q (F0 m pc ls (.int x :: .int (nI k) :: .ref a :: rest)) := by
  refine va_iast hexec hb hK hP hD hS q0 t0 ha ht (vp_in_nI hk hn) hdg (fun H1 locs1 hP1 _ hS1 => ?_)
  rw [nI_clamp (by omega)] at hP1
  exact kk H1 locs1 hP1 hS1
theorem ir_last (hexec : p.tables.exec = Jvm.exec) (hb : c.code = cc) (hK : va_K D vwCl tys s) (hP : va_P D vwCl ws H) (hD : va_D A ws) (hS : va_S A H0 H locs) (q0 t0 : Nat) {cA : ClassId} {n : Nat} {f : Nat → Int64} (ha : ws[q0]? = some (a, .inl (cA, n, .inr (.inl f)))) (ht : tys[t0]? = some (cA, .long)) {k : Nat} {x : Int64} (hk : k < n) (hn : n < 2 ^ 31) (hdg : decode cc pc = .ok (.lastore, 1))
    (kk : ∀ (H1 : Heap) (locs1 : List Loc), va_P D vwCl (ws.set q0 (a, .inl (cA, n, .inr (.inl (vp_updL f k x))))) H1 → va_S A H0 H1 locs1 → W p l e R s m args below meth c H1 locs1 cells slots Q (F0 m (pc + 1) ls rest)) : W p l e R s m args below meth c H locs cells slots Q (F0 m pc ls (.long x :: .int (nI k) :: .ref a :: rest)) := by
  refine va_last hexec hb hK hP hD hS q0 t0 ha ht (vp_in_nI hk hn) hdg (fun H1 locs1 hP1 _ hS1 => ?_)
  rw [nI_clamp (by omega)] at hP1
  exact kk H1 locs1 hP1 hS1
theorem g_iret {S : Type} {w : S → va_W} {post : Int32 → S → Prop} {v : S} {r : Int32} (hexec : p.tables.exec = Jvm.exec) (hb : c.code = cc) (hr : meth.sig.returnType = some .int) (hK : va_K D vwCl tys s) (hP : va_P D vwCl (w v) H) (hS : va_S A s.heap H locs) (hq : post r v) (hlocks : meth.locks = false) (hdg : decode cc pc = .ok (.ireturn, 1)) :
    W p l e R s m args below meth c H locs cells slots (MQ below (va_Qi post (gG D tys w) A) args s cells slots A) (F0 m pc ls [.int r]) :=
  W.iret (v := r) hexec hb hr (fun t ht hW => ⟨⟨r, v, rfl, hq, by rw [ht]; exact hP, va_K.moved hW.alike hK⟩, hS.F ht⟩) hS.2.2 hdg hlocks
theorem g_zret {S : Type} {w : S → va_W} {post : Int32 → S → Prop} {v : S} {b : Bool} (hexec : p.tables.exec = Jvm.exec) (hb : c.code = cc) (hr : meth.sig.returnType = some .boolean) (hK : va_K D vwCl tys s) (hP : va_P D vwCl (w v) H) (hS : va_S A s.heap H locs) (hq : post (bi b) v) (hlocks : meth.locks = false) (hdg : decode cc pc = .ok (.ireturn, 1)) :
    W p l e R s m args below meth c H locs cells slots (MQ below (va_Qi post (gG D tys w) A) args s cells slots A) (F0 m pc ls [.int (bi b)]) :=
  W.zret (v := bi b) hexec hb hr (by cases b <;> rfl) (fun t ht hW => ⟨⟨bi b, v, rfl, hq, by rw [ht]; exact hP, va_K.moved hW.alike hK⟩, hS.F ht⟩) hS.2.2 hdg hlocks
theorem g_lret {S : Type} {w : S → va_W} {post : Int64 → S → Prop} {v : S} {r : Int64} (hexec : p.tables.exec = Jvm.exec) (hb : c.code = cc) (hr : meth.sig.returnType = some .long) (hK : va_K D vwCl tys s) (hP : va_P D vwCl (w v) H) (hS : va_S A s.heap H locs) (hq : post r v) (hlocks : meth.locks = false) (hdg : decode cc pc = .ok (.lreturn, 1)) :
    W p l e R s m args below meth c H locs cells slots (MQ below (va_Ql post (gG D tys w) A) args s cells slots A) (F0 m pc ls [.long r]) :=
  W.lret (v := r) hexec hb hr (fun t ht hW => ⟨⟨r, v, rfl, hq, by rw [ht]; exact hP, va_K.moved hW.alike hK⟩, hS.F ht⟩) hS.2.2 hdg hlocks
theorem g_vret {S : Type} {w : S → va_W} {post : S → Prop} {v : S} (hexec : p.tables.exec = Jvm.exec) (hb : c.code = cc) (hr : meth.sig.returnType = none) (hK : va_K D vwCl tys s) (hP : va_P D vwCl (w v) H) (hS : va_S A s.heap H locs) (hq : post v) (hlocks : meth.locks = false) (hdg : decode cc pc = .ok (.return_, 1)) :
    W p l e R s m args below meth c H locs cells slots (MQ below (va_Qv post (gG D tys w) A) args s cells slots A) (F0 m pc ls []) :=
  W.vret hexec hb hr (fun t ht hW => ⟨⟨v, rfl, hq, by rw [ht]; exact hP, va_K.moved hW.alike hK⟩, hS.F ht⟩) hS.2.2 hdg hlocks
end GR
section GS
variable {R : Room} {s : State} {args : Array Value} {own : String} {index maxL mc ms : Nat} {y : MethodName} {bytes : ByteArray} {ret : Option FieldType} {wsc ws' : List Cond} {rm : Room}
theorem cw_S (n : Nat) (ht : ∀ w ∈ bigW, w.before args s = true) (h1 : Cond.methodLink own index y ∈ bigW) (h2 : Cond.static y ∈ bigW) (h3 : Cond.initialized y.cls ∈ bigW) (h4 : Cond.code y bytes maxL ret ∈ bigW) (hw : wsc = Cond.code y bytes maxL ret :: bigW) (hrc : rm.cells = mc) (hrs : rm.slots = ms)
    (hd : y.cls ≠ "java/lang/invoke/MethodHandle" ∧ y.cls ≠ "java/lang/invoke/VarHandle" ∧ (parseMethodDescriptor y.desc).map (fun d => d.parameters.length) = some n) (hR : rm.frames + 1 ≤ R.frames ∧ 8 + (maxL + 11) + rm.locals ≤ R.locals) :
    CallB R s args own index y bytes maxL ret wsc rm mc ms n ∧ (Cond.static y).before args s = true :=
  ⟨callB_of n ht (by rw [hw]; exact gw_I h4) hw hrc hrs (ht _ h3) (ht _ h1) hd hR, ht _ h2⟩
end GS
section GC
variable {p : Program} {l : Launch} {e : Env} {R : Room} {s : State} {m : MethodId} {args : Array Value} {below : List Frame} {meth : Method} {c : Code} {H : Heap} {locs : List Loc} {cells slots : Nat} {Q : State → Prop}
variable {cc bytes : ByteArray} {pc maxL nL n index : Nat} {ls : Array Slot} {rest st0 As : List Value} {D : va_G} {tys : List (ClassId × FieldType)} {A A0 : Nat → Prop} {H0 : Heap} {b : Addr} {y : MethodName} {ret : Option FieldType} {wsc Ts : List Cond} {rm : Room} {own C : String}
theorem g_callVi {S : Type} {w : S → va_W} {v v' : S} {r : Int32} (S0 : CallFix p m c cc nL s args Ts own) (hM : Met l y wsc rm (va_Pc (.ref b :: As) (gG D tys w v)) (va_Qi (fun r1 u => r1 = r ∧ u = v') (gG D tys w) A) 0 0 A) (cw : CallW R s args own C index y bytes maxL ret wsc rm 0 0 n) (hK : va_K D vwCl tys s) (hP : va_P D vwCl (w v) H)
    (hrc : ∃ cell : Cell, H[b]? = some cell ∧ cell.vm.isStatics = false ∧ s.vm.findClass C = some cell.cls) (hn : As.length = n) (hsz : ls.size = nL) (hst : st0 = As.reverse ++ .ref b :: rest) (hW : (rest.map fun v => v.category).sum ≤ 8) (hdg : decode cc pc = .ok (.invokevirtual index, 3)) (hf : cells ≤ R.cells ∧ slots ≤ R.slots) (hAA : ∀ q, A q → A0 q) (hS : va_S A0 H0 H locs)
    (kk : ∀ (H1 : Heap) (locs1 : List Loc), va_P D vwCl (w v') H1 → va_S A0 H0 H1 locs1 → W p l e R s m args below meth c H1 locs1 cells slots Q (F0 m (pc + 3) ls (.int r :: rest))) : W p l e R s m args below meth c H locs cells slots Q (F0 m pc ls st0) := by
  refine va_calli (va_runV (As := As) (rest := rest) S0 hM cw ⟨fun a U g mk q => ⟨q.1, q.2.1, va_K.moved (u := U) (U := U.calling g mk a) (Vm.Alike.refl U.vm) q.2.2⟩, hrc, fun U hU hW => ⟨rfl, by rw [hU]; exact hP, va_K.moved hW.alike hK⟩⟩ rfl hn hsz hst (lv_room hW) hdg hf) hS (fun q _ h => hAA q h) hAA (fun r1 u t H1 locs1 ht hvm hw hB hz1 hk1 hS1 => ?_)
  obtain ⟨rfl, rfl⟩ := hw
  exact kk H1 locs1 (by rw [← ht]; exact hB.1) hS1
theorem g_callVl {S : Type} {w : S → va_W} {v v' : S} {r : Int64} (S0 : CallFix p m c cc nL s args Ts own) (hM : Met l y wsc rm (va_Pc (.ref b :: As) (gG D tys w v)) (va_Ql (fun r1 u => r1 = r ∧ u = v') (gG D tys w) A) 0 0 A) (cw : CallW R s args own C index y bytes maxL ret wsc rm 0 0 n) (hK : va_K D vwCl tys s) (hP : va_P D vwCl (w v) H)
    (hrc : ∃ cell : Cell, H[b]? = some cell ∧ cell.vm.isStatics = false ∧ s.vm.findClass C = some cell.cls) (hn : As.length = n) (hsz : ls.size = nL) (hst : st0 = As.reverse ++ .ref b :: rest) (hW : (rest.map fun v => v.category).sum ≤ 8) (hdg : decode cc pc = .ok (.invokevirtual index, 3)) (hf : cells ≤ R.cells ∧ slots ≤ R.slots) (hAA : ∀ q, A q → A0 q) (hS : va_S A0 H0 H locs)
    (kk : ∀ (H1 : Heap) (locs1 : List Loc), va_P D vwCl (w v') H1 → va_S A0 H0 H1 locs1 → W p l e R s m args below meth c H1 locs1 cells slots Q (F0 m (pc + 3) ls (.long r :: rest))) : W p l e R s m args below meth c H locs cells slots Q (F0 m pc ls st0) := by
  refine va_calll (va_runV (As := As) (rest := rest) S0 hM cw ⟨fun a U g mk q => ⟨q.1, q.2.1, va_K.moved (u := U) (U := U.calling g mk a) (Vm.Alike.refl U.vm) q.2.2⟩, hrc, fun U hU hW => ⟨rfl, by rw [hU]; exact hP, va_K.moved hW.alike hK⟩⟩ rfl hn hsz hst (lv_room hW) hdg hf) hS (fun q _ h => hAA q h) hAA (fun r1 u t H1 locs1 ht hvm hw hB hz1 hk1 hS1 => ?_)
  obtain ⟨rfl, rfl⟩ := hw
  exact kk H1 locs1 (by rw [← ht]; exact hB.1) hS1
theorem g_callVv {S : Type} {w : S → va_W} {v v' : S} (S0 : CallFix p m c cc nL s args Ts own) (hM : Met l y wsc rm (va_Pc (.ref b :: As) (gG D tys w v)) (va_Qv (fun u => u = v') (gG D tys w) A) 0 0 A) (cw : CallW R s args own C index y bytes maxL ret wsc rm 0 0 n) (hK : va_K D vwCl tys s) (hP : va_P D vwCl (w v) H)
    (hrc : ∃ cell : Cell, H[b]? = some cell ∧ cell.vm.isStatics = false ∧ s.vm.findClass C = some cell.cls) (hn : As.length = n) (hsz : ls.size = nL) (hst : st0 = As.reverse ++ .ref b :: rest) (hW : (rest.map fun v => v.category).sum ≤ 8) (hdg : decode cc pc = .ok (.invokevirtual index, 3)) (hf : cells ≤ R.cells ∧ slots ≤ R.slots) (hAA : ∀ q, A q → A0 q) (hS : va_S A0 H0 H locs)
    (kk : ∀ (H1 : Heap) (locs1 : List Loc), va_P D vwCl (w v') H1 → va_S A0 H0 H1 locs1 → W p l e R s m args below meth c H1 locs1 cells slots Q (F0 m (pc + 3) ls rest)) : W p l e R s m args below meth c H locs cells slots Q (F0 m pc ls st0) := by
  refine va_callv (va_runV (As := As) (rest := rest) S0 hM cw ⟨fun a U g mk q => ⟨q.1, q.2.1, va_K.moved (u := U) (U := U.calling g mk a) (Vm.Alike.refl U.vm) q.2.2⟩, hrc, fun U hU hW => ⟨rfl, by rw [hU]; exact hP, va_K.moved hW.alike hK⟩⟩ rfl hn hsz hst (lv_room hW) hdg hf) hS (fun q _ h => hAA q h) hAA (fun u t H1 locs1 ht hvm hw hB hz1 hk1 hS1 => ?_)
  subst hw
  exact kk H1 locs1 (by rw [← ht]; exact hB.1) hS1
theorem g_callSi {S : Type} {w : S → va_W} {v v' : S} {r : Int32} (S0 : CallFix p m c cc nL s args Ts own) (hM : Met l y wsc rm (va_Pc As (gG D tys w v)) (va_Qi (fun r1 u => r1 = r ∧ u = v') (gG D tys w) A) 0 0 A) (cw : CallB R s args own index y bytes maxL ret wsc rm 0 0 n ∧ (Cond.static y).before args s = true) (hK : va_K D vwCl tys s) (hP : va_P D vwCl (w v) H)
    (hn : As.length = n) (hsz : ls.size = nL) (hst : st0 = As.reverse ++ rest) (hW : (rest.map fun v => v.category).sum ≤ 8) (hdg : decode cc pc = .ok (.invokestatic index, 3)) (hf : cells ≤ R.cells ∧ slots ≤ R.slots) (hAA : ∀ q, A q → A0 q) (hS : va_S A0 H0 H locs)
    (kk : ∀ (H1 : Heap) (locs1 : List Loc), va_P D vwCl (w v') H1 → va_S A0 H0 H1 locs1 → W p l e R s m args below meth c H1 locs1 cells slots Q (F0 m (pc + 3) ls (.int r :: rest))) : W p l e R s m args below meth c H locs cells slots Q (F0 m pc ls st0) := by
  refine va_calli (va_runS (As := As) (rest := rest) S0 hM cw ⟨fun a U g mk q => ⟨q.1, q.2.1, va_K.moved (u := U) (U := U.calling g mk a) (Vm.Alike.refl U.vm) q.2.2⟩, fun U hU hW => ⟨rfl, by rw [hU]; exact hP, va_K.moved hW.alike hK⟩⟩ rfl hn hsz hst (lv_room hW) hdg hf) hS (fun q _ h => hAA q h) hAA (fun r1 u t H1 locs1 ht hvm hw hB hz1 hk1 hS1 => ?_)
  obtain ⟨rfl, rfl⟩ := hw
  exact kk H1 locs1 (by rw [← ht]; exact hB.1) hS1
theorem g_callSv {S : Type} {w : S → va_W} {v v' : S} (S0 : CallFix p m c cc nL s args Ts own) (hM : Met l y wsc rm (va_Pc As (gG D tys w v)) (va_Qv (fun u => u = v') (gG D tys w) A) 0 0 A) (cw : CallB R s args own index y bytes maxL ret wsc rm 0 0 n ∧ (Cond.static y).before args s = true) (hK : va_K D vwCl tys s) (hP : va_P D vwCl (w v) H)
    (hn : As.length = n) (hsz : ls.size = nL) (hst : st0 = As.reverse ++ rest) (hW : (rest.map fun v => v.category).sum ≤ 8) (hdg : decode cc pc = .ok (.invokestatic index, 3)) (hf : cells ≤ R.cells ∧ slots ≤ R.slots) (hAA : ∀ q, A q → A0 q) (hS : va_S A0 H0 H locs)
    (kk : ∀ (H1 : Heap) (locs1 : List Loc), va_P D vwCl (w v') H1 → va_S A0 H0 H1 locs1 → W p l e R s m args below meth c H1 locs1 cells slots Q (F0 m (pc + 3) ls rest)) : W p l e R s m args below meth c H locs cells slots Q (F0 m pc ls st0) := by
  refine va_callv (va_runS (As := As) (rest := rest) S0 hM cw ⟨fun a U g mk q => ⟨q.1, q.2.1, va_K.moved (u := U) (U := U.calling g mk a) (Vm.Alike.refl U.vm) q.2.2⟩, fun U hU hW => ⟨rfl, by rw [hU]; exact hP, va_K.moved hW.alike hK⟩⟩ rfl hn hsz hst (lv_room hW) hdg hf) hS (fun q _ h => hAA q h) hAA (fun u t H1 locs1 ht hvm hw hB hz1 hk1 hS1 => ?_)
  subst hw
  exact kk H1 locs1 (by rw [← ht]; exact hB.1) hS1
theorem g_enter {S : Type} {w : S → va_W} {v : S} {av : List Value} {Qc : Array Value → State → Outcome → State → Prop} (hy : plainName y.cls = true) (hw : wsc = Cond.code y cc maxL ret :: bigW) (hlen : (lg_sl av).length ≤ maxL)
    (body : ∀ (p : Program) (e : Env) (s : State) (m : MethodId) (below : List Frame) (meth : Method) (c : Code) (ls : Array Slot), gFix p c cc meth ret m s av.toArray bigW y.cls maxL → va_K D vwCl tys s → va_P D vwCl (w v) s.heap → lv_has ls maxL (lv_args 0 av) →
      W p l e rm s m av.toArray below meth c s.heap [] 0 0 (MQ below Qc av.toArray s 0 0 A) (F0 m 0 ls [])) : Met l y wsc rm (va_Pc av (gG D tys w v)) Qc 0 0 A := by
  refine Met.ofW (cc := cc) (maxL := maxL) (ret := ret) hy hw ?_
  intro p e s m args below meth c s₁ B hml hv
  obtain ⟨rfl, hP, hK⟩ := hv
  have hts : ∀ w ∈ bigW, w.before av.toArray s = true := fun w h => atoms_spec (ws := wsc) B.pre w (by rw [hw]; exact List.mem_cons_of_mem _ h)
  have hown : s.vm.findClass y.cls = some m.cls := findClass_of_methodNamed B.named
  have hl := lv_entry av (n := maxL) hlen
  rw [lg_entry_eq]
  exact body p e s m below meth c _ ⟨B.exec, B.bytes, B.returns, hml, hown, hts, B.notSynchronized⟩ hK hP hl
end GC
section GRO
variable {p : Program} {l : Launch} {e : Env} {R : Room} {s : State} {m : MethodId} {args : Array Value} {below : List Frame} {meth : Method} {c : Code} {H : Heap} {locs : List Loc} {cells slots : Nat} {Q : State → Prop}
variable {cc bytes : ByteArray} {pc maxL nL n index : Nat} {ls : Array Slot} {rest st0 As : List Value} {D : va_G} {tys : List (ClassId × FieldType)} {b : Addr} {y : MethodName} {ret : Option FieldType} {wsc Ts : List Cond} {rm : Room} {own C : String}
/-! methods that write nothing -/
theorem r_iret {post : Int32 → Prop} {r : Int32} (hexec : p.tables.exec = Jvm.exec) (hb : c.code = cc) (hr : meth.sig.returnType = some .int) (hq : post r) (hlocks : meth.locks = false) (hdg : decode cc pc = .ok (.ireturn, 1)) :
    W p l e R s m args below meth c s.heap [] cells slots (MQ below (vp_Si post) args s cells slots (fun _ => False)) (F0 m pc ls [.int r]) :=
  W.iret (v := r) hexec hb hr (fun t ht hW => ⟨r, rfl, hq, ht⟩) (fun q h => by cases h) hdg hlocks
theorem r_zret {post : Int32 → Prop} {b : Bool} (hexec : p.tables.exec = Jvm.exec) (hb : c.code = cc) (hr : meth.sig.returnType = some .boolean) (hq : post (bi b)) (hlocks : meth.locks = false) (hdg : decode cc pc = .ok (.ireturn, 1)) :
    W p l e R s m args below meth c s.heap [] cells slots (MQ below (vp_Si post) args s cells slots (fun _ => False)) (F0 m pc ls [.int (bi b)]) :=
  W.zret (v := bi b) hexec hb hr (by cases b <;> rfl) (fun t ht hW => ⟨bi b, rfl, hq, ht⟩) (fun q h => by cases h) hdg hlocks
theorem r_lret {post : Int64 → Prop} {r : Int64} (hexec : p.tables.exec = Jvm.exec) (hb : c.code = cc) (hr : meth.sig.returnType = some .long) (hq : post r) (hlocks : meth.locks = false) (hdg : decode cc pc = .ok (.lreturn, 1)) :
    W p l e R s m args below meth c s.heap [] cells slots (MQ below (vp_Sl post) args s cells slots (fun _ => False)) (F0 m pc ls [.long r]) :=
  W.lret (v := r) hexec hb hr (fun t ht hW => ⟨r, rfl, hq, ht⟩) (fun q h => by cases h) hdg hlocks
theorem r_vret {post : Unit → Prop} (hexec : p.tables.exec = Jvm.exec) (hb : c.code = cc) (hr : meth.sig.returnType = none) (hq : post ()) (hlocks : meth.locks = false) (hdg : decode cc pc = .ok (.return_, 1)) :
    W p l e R s m args below meth c s.heap [] cells slots (MQ below (va_Sv post) args s cells slots (fun _ => False)) (F0 m pc ls []) :=
  W.vret hexec hb hr (fun t ht hW => ⟨rfl, hq, ht⟩) (fun q h => by cases h) hdg hlocks
theorem g_roVi {S : Type} {w : S → va_W} {v : S} {r : Int32} (S0 : CallFix p m c cc nL s args Ts own) (hM : Met l y wsc rm (va_Pc (.ref b :: As) (gG D tys w v)) (vp_Si (fun r1 => r1 = r)) 0 0 (fun _ => False)) (cw : CallW R s args own C index y bytes maxL ret wsc rm 0 0 n) (hK : va_K D vwCl tys s) (hP : va_P D vwCl (w v) H)
    (hrc : ∃ cell : Cell, H[b]? = some cell ∧ cell.vm.isStatics = false ∧ s.vm.findClass C = some cell.cls) (hn : As.length = n) (hsz : ls.size = nL) (hst : st0 = As.reverse ++ .ref b :: rest) (hW : (rest.map fun v => v.category).sum ≤ 8) (hdg : decode cc pc = .ok (.invokevirtual index, 3)) (hf : cells ≤ R.cells ∧ slots ≤ R.slots)
    (kk : W p l e R s m args below meth c H locs cells slots Q (F0 m (pc + 3) ls (.int r :: rest))) : W p l e R s m args below meth c H locs cells slots Q (F0 m pc ls st0) := by
  refine vp_callSi (W.runV (As := As) (rest := rest) S0 hM cw ⟨fun a U g mk q => ⟨q.1, q.2.1, va_K.moved (u := U) (U := U.calling g mk a) (Vm.Alike.refl U.vm) q.2.2⟩, hrc, fun U hU hW => ⟨rfl, by rw [hU]; exact hP, va_K.moved hW.alike hK⟩⟩ rfl hn hsz hst (lv_room hW) hdg hf) (fun r1 h1 => ?_)
  subst h1
  exact kk
theorem g_roVl {S : Type} {w : S → va_W} {v : S} {r : Int64} (S0 : CallFix p m c cc nL s args Ts own) (hM : Met l y wsc rm (va_Pc (.ref b :: As) (gG D tys w v)) (vp_Sl (fun r1 => r1 = r)) 0 0 (fun _ => False)) (cw : CallW R s args own C index y bytes maxL ret wsc rm 0 0 n) (hK : va_K D vwCl tys s) (hP : va_P D vwCl (w v) H)
    (hrc : ∃ cell : Cell, H[b]? = some cell ∧ cell.vm.isStatics = false ∧ s.vm.findClass C = some cell.cls) (hn : As.length = n) (hsz : ls.size = nL) (hst : st0 = As.reverse ++ .ref b :: rest) (hW : (rest.map fun v => v.category).sum ≤ 8) (hdg : decode cc pc = .ok (.invokevirtual index, 3)) (hf : cells ≤ R.cells ∧ slots ≤ R.slots)
    (kk : W p l e R s m args below meth c H locs cells slots Q (F0 m (pc + 3) ls (.long r :: rest))) : W p l e R s m args below meth c H locs cells slots Q (F0 m pc ls st0) := by
  refine vp_callSl (W.runV (As := As) (rest := rest) S0 hM cw ⟨fun a U g mk q => ⟨q.1, q.2.1, va_K.moved (u := U) (U := U.calling g mk a) (Vm.Alike.refl U.vm) q.2.2⟩, hrc, fun U hU hW => ⟨rfl, by rw [hU]; exact hP, va_K.moved hW.alike hK⟩⟩ rfl hn hsz hst (lv_room hW) hdg hf) (fun r1 h1 => ?_)
  subst h1
  exact kk
theorem g_roVv {S : Type} {w : S → va_W} {v : S} (S0 : CallFix p m c cc nL s args Ts own) (hM : Met l y wsc rm (va_Pc (.ref b :: As) (gG D tys w v)) (va_Sv (fun _ => True)) 0 0 (fun _ => False)) (cw : CallW R s args own C index y bytes maxL ret wsc rm 0 0 n) (hK : va_K D vwCl tys s) (hP : va_P D vwCl (w v) H)
    (hrc : ∃ cell : Cell, H[b]? = some cell ∧ cell.vm.isStatics = false ∧ s.vm.findClass C = some cell.cls) (hn : As.length = n) (hsz : ls.size = nL) (hst : st0 = As.reverse ++ .ref b :: rest) (hW : (rest.map fun v => v.category).sum ≤ 8) (hdg : decode cc pc = .ok (.invokevirtual index, 3)) (hf : cells ≤ R.cells ∧ slots ≤ R.slots)
    (kk : W p l e R s m args below meth c H locs cells slots Q (F0 m (pc + 3) ls rest)) : W p l e R s m args below meth c H locs cells slots Q (F0 m pc ls st0) :=
  va_csv (W.runV (As := As) (rest := rest) S0 hM cw ⟨fun a U g mk q => ⟨q.1, q.2.1, va_K.moved (u := U) (U := U.calling g mk a) (Vm.Alike.refl U.vm) q.2.2⟩, hrc, fun U hU hW => ⟨rfl, by rw [hU]; exact hP, va_K.moved hW.alike hK⟩⟩ rfl hn hsz hst (lv_room hW) hdg hf) (fun _ => kk)
theorem g_roSi {S : Type} {w : S → va_W} {v : S} {r : Int32} (S0 : CallFix p m c cc nL s args Ts own) (hM : Met l y wsc rm (va_Pc As (gG D tys w v)) (vp_Si (fun r1 => r1 = r)) 0 0 (fun _ => False)) (cw : CallB R s args own index y bytes maxL ret wsc rm 0 0 n ∧ (Cond.static y).before args s = true) (hK : va_K D vwCl tys s) (hP : va_P D vwCl (w v) H)
    (hn : As.length = n) (hsz : ls.size = nL) (hst : st0 = As.reverse ++ rest) (hW : (rest.map fun v => v.category).sum ≤ 8) (hdg : decode cc pc = .ok (.invokestatic index, 3)) (hf : cells ≤ R.cells ∧ slots ≤ R.slots)
    (kk : W p l e R s m args below meth c H locs cells slots Q (F0 m (pc + 3) ls (.int r :: rest))) : W p l e R s m args below meth c H locs cells slots Q (F0 m pc ls st0) := by
  refine vp_callSi (W.runS (As := As) (rest := rest) S0 hM cw ⟨fun a U g mk q => ⟨q.1, q.2.1, va_K.moved (u := U) (U := U.calling g mk a) (Vm.Alike.refl U.vm) q.2.2⟩, fun U hU hW => ⟨rfl, by rw [hU]; exact hP, va_K.moved hW.alike hK⟩⟩ rfl hn hsz hst (lv_room hW) hdg hf) (fun r1 h1 => ?_)
  subst h1
  exact kk
theorem g_roSv {S : Type} {w : S → va_W} {v : S} (S0 : CallFix p m c cc nL s args Ts own) (hM : Met l y wsc rm (va_Pc As (gG D tys w v)) (va_Sv (fun _ => True)) 0 0 (fun _ => False)) (cw : CallB R s args own index y bytes maxL ret wsc rm 0 0 n ∧ (Cond.static y).before args s = true) (hK : va_K D vwCl tys s) (hP : va_P D vwCl (w v) H)
    (hn : As.length = n) (hsz : ls.size = nL) (hst : st0 = As.reverse ++ rest) (hW : (rest.map fun v => v.category).sum ≤ 8) (hdg : decode cc pc = .ok (.invokestatic index, 3)) (hf : cells ≤ R.cells ∧ slots ≤ R.slots)
    (kk : W p l e R s m args below meth c H locs cells slots Q (F0 m (pc + 3) ls rest)) : W p l e R s m args below meth c H locs cells slots Q (F0 m pc ls st0) :=
  va_csv (W.runS (As := As) (rest := rest) S0 hM cw ⟨fun a U g mk q => ⟨q.1, q.2.1, va_K.moved (u := U) (U := U.calling g mk a) (Vm.Alike.refl U.vm) q.2.2⟩, fun U hU hW => ⟨rfl, by rw [hU]; exact hP, va_K.moved hW.alike hK⟩⟩ rfl hn hsz hst (lv_room hW) hdg hf) (fun _ => kk)
end GRO
/-! boolean arrays -/
def updB (f : Nat → Bool) (k : Nat) (x : Bool) : Nat → Bool := fun j => if j = k then x else f j
theorem updB_bi (f : Nat → Bool) (k : Nat) (x : Bool) : upd (fun j => bi (f j)) k (bi x) = fun j => bi (updB f k x j) := by
  funext j
  unfold upd updB
  by_cases h : j = k
  · rw [if_pos h, if_pos h]
  · rw [if_neg h, if_neg h]
theorem nar_bi (x : Bool) : vp_nar .boolean (bi x) = bi x := by cases x <;> rfl
theorem nI_le0 {k : Nat} (h : k < 2 ^ 31) (h0 : nI k ≤ 0) : k = 0 := by
  rw [Int32.le_iff_toInt_le, nI_toInt h, Int32.toInt_zero] at h0
  omega
/-- a place that goes down: -1 behind the last -/
def dn (k : Nat) : Int32 := match k with
  | 0 => -1
  | k + 1 => nI k
theorem dn_pred (k : Nat) : nI k + (-1) = dn k := by
  cases k with
  | zero => decide
  | succ k => exact pk_m1 k
theorem nI_cl {x : Int32} (h : 0 ≤ x) : nI x.toNatClampNeg = x := by
  have h1 : ¬ x < 0 := fun q => by rw [Int32.lt_iff_toInt_lt, Int32.toInt_zero] at q; rw [Int32.le_iff_toInt_le, Int32.toInt_zero] at h; omega
  obtain ⟨j, hj, rfl⟩ := nI_of h1
  rw [nI_clamp hj]
section GZ
variable {p : Program} {l : Launch} {e : Env} {R : Room} {s : State} {m : MethodId} {args : Array Value} {below : List Frame} {meth : Method} {c : Code} {H : Heap} {locs : List Loc} {cells slots : Nat} {Q : State → Prop}
variable {cc : ByteArray} {pc : Nat} {ls : Array Slot} {rest : List Value} {D : va_G} {tys : List (ClassId × FieldType)} {ws : va_W} {A : Nat → Prop} {H0 : Heap} {a : Nat}
theorem ir_zald (hexec : p.tables.exec = Jvm.exec) (hb : c.code = cc) (hK : va_K D vwCl tys s) (hP : va_P D vwCl ws H) (q0 t0 : Nat) {cA : ClassId} {n : Nat} {f : Nat → Bool} (ha : ws[q0]? = some (a, .inl (cA, n, .inl (fun j => bi (f j))))) (ht : tys[t0]? = some (cA, .boolean)) {k : Nat} (hk : k < n) (hn : n < 2 ^ 31) (hdg : decode cc pc = .ok (.baload, 1))
    (kk : W p l e R s m args below meth c H locs cells slots Q (F0 m (pc + 1) ls (.int (bi (f k)) :: rest))) : W p l e R s m args below meth c H locs cells slots Q (F0 m pc ls (.int (nI k) :: .ref a :: rest)) := by
  refine va_zald hexec hb hK hP q0 t0 ha ht (vp_in_nI hk hn) hdg ?_
  rw [nI_clamp (by omega)]
  exact kk
theorem ir_zast (hexec : p.tables.exec = Jvm.exec) (hb : c.code = cc) (hK : va_K D vwCl tys s) (hP : va_P D vwCl ws H) (hD : va_D A ws) (hS : va_S A H0 H locs) (q0 t0 : Nat) {cA : ClassId} {n : Nat} {f : Nat → Bool} (ha : ws[q0]? = some (a, .inl (cA, n, .inl (fun j => bi (f j))))) (ht : tys[t0]? = some (cA, .boolean)) {k : Nat} {x : Bool} (hk : k < n) (hn : n < 2 ^ 31) (hdg : decode cc pc = .ok (.bastore, 1))
    (kk : ∀ (H1 : Heap) (locs1 : List Loc), va_P D vwCl (ws.set q0 (a, .inl (cA, n, .inl (fun j => bi (updB f k x j))))) H1 → va_S A H0 H1 locs1 → W p l e R s m args below meth c H1 locs1 cells slots Q (F0 m (pc + 1) ls rest)) : W p l e R s m args below meth c H locs cells slots Q (F0 m pc ls (.int (bi x) :: .int (nI k) :: .ref a :: rest)) := by
  refine va_zast hexec hb hK hP hD hS q0 t0 ha ht (vp_in_nI hk hn) hdg (fun H1 locs1 hP1 _ hS1 => ?_)
  rw [nI_clamp (by omega), nar_bi, updB_bi] at hP1
  exact kk H1 locs1 hP1 hS1
end GZ
/-! What a state of the class is: the contents of its 19 cells; addresses a 0 .. a 18. -/
abbrev CS : Type := (Nat × Int32 × Int32 × Int32 × Int32) × ((Nat → Int32) × (Nat → Int32)) × ((Nat → Int32) × (Nat → Int32) × (Nat → Int32) × (Nat → Int32) × (Nat → Int64) × (Nat → Int64) × (Nat → Int32)) × ((Nat → Int32) × (Nat → Int32) × (Nat → Int32) × (Nat → Int32) × Nat × Nat) × ((Nat → Int32) × Int64)
abbrev tyC (cI cL : ClassId) : List (ClassId × FieldType) := [(cI, .int), (cL, .long)]
def wC (cI cL : ClassId) (a : Nat → Nat) (v : CS) : va_W := match v with
  | ((dI, dO, dG, dN, dT), (aN, aB), (nS, nP, nR, nG, nO, nU, nT), (tP, tR, tO, tN, tF, tZ), (mP, mN)) =>
    [(a 0, .inr (4, [.int (nI dI), .ref (a 1), .ref (a 4), .ref (a 12), .ref (a 17), .int dO, .int dG, .int dN, .int dT])),
     (a 1, .inr (0, [.ref (a 2), .ref (a 3)])), (a 2, .inl (cI, 64, .inl aN)), (a 3, .inl (cI, 64, .inl aB)),
     (a 4, .inr (2, [.ref (a 5), .ref (a 6), .ref (a 7), .ref (a 8), .ref (a 9), .ref (a 10), .ref (a 11)])),
     (a 5, .inl (cI, 16, .inl nS)), (a 6, .inl (cI, 16, .inl nP)), (a 7, .inl (cI, 16, .inl nR)), (a 8, .inl (cI, 16, .inl nG)), (a 9, .inl (cL, 16, .inr (.inl nO))), (a 10, .inl (cL, 16, .inr (.inl nU))), (a 11, .inl (cI, 1024, .inl nT)),
     (a 12, .inr (3, [.ref (a 13), .ref (a 14), .ref (a 15), .ref (a 16), .int (nI tF), .int (nI tZ)])), (a 13, .inl (cI, 64, .inl tP)), (a 14, .inl (cI, 64, .inl tR)), (a 15, .inl (cI, 64, .inl tO)), (a 16, .inl (cI, 64, .inl tN)),
     (a 17, .inr (1, [.ref (a 18), .long mN])), (a 18, .inl (cI, 6, .inl mP))]
