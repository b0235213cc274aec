/-! Constructors -/
section IC
variable {p : Program} {l : Launch} {e : Env} {R : Room} {s : State} {m : MethodId} {args : Array Value} {below : List Frame} {meth : Method} {c : Code} {H : Heap} {locs : List Loc} {cells slots : Nat} {Q : State → Prop}
variable {cc : ByteArray} {pc maxL : Nat} {ls : Array Slot} {rest : List Value} {D : va_G} {tys : List (ClassId × FieldType)} {ws : va_W} {A : Nat → Prop} {H0 : Heap} {a : Nat} {y : MethodName} {wsc : List Cond} {rm : Room}
theorem g_newa (hexec : p.tables.exec = Jvm.exec) (hb : c.code = cc) {atype : ArrayType} (harr : (Cond.arrayClass (newarray.typeOf atype)).before args s = true) {ty : FieldType} (hty : newarray.typeOf atype = ty) (hK : va_K D vwCl tys s) (hP : va_P D vwCl ws H) (hD : va_D A ws) (hS : va_S A H0 H locs) (hA : ∀ q, H0.size ≤ q → A q)
    (t0 : Nat) {cA : ClassId} (ht : tys[t0]? = some (cA, ty)) (hnm : ∀ cB : ClassId, va_RA s cB ty → va_RA s cA ty → cB = cA)
    {n : Int32} {N' : Nat} {a0 : vp_A} (ha : ∀ cA : ClassId, vp_cell cA a0 = arrV cA N' (fun _ => defaultValue ty)) (hn : ¬ n < 0) (hN : n.toNatClampNeg = N') (hbytes : N' * componentBytes ty ≤ 536870912) (hcells : cells + 1 ≤ R.cells) (hslots : slots + N' ≤ R.slots) (hdg : decode cc pc = .ok (.newarray atype, 2))
    (kk : ∀ (q : Nat) (H1 : Heap), va_P D vwCl (ws ++ [(q, .inl (cA, a0))]) H1 → va_D A (ws ++ [(q, .inl (cA, a0))]) → va_S A H0 H1 locs →
      W p l e R s m args below meth c H1 locs (cells + 1) (slots + N') Q (F0 m (pc + 2) ls (.ref q :: rest))) : W p l e R s m args below meth c H locs cells slots Q (F0 m pc ls (.int n :: rest)) := by
  refine va_newa hexec hb harr hty hK hP hD hS hA ha hn hN hbytes hcells hslots hdg (fun q cB H1 hK1 hP1 hD1 hS1 => ?_)
  have h1 := (hK1.2 tys.length (cB, ty) (by simp)).2
  have h2 := (hK.2 t0 (cA, ty) ht).2
  cases hnm cB h1 h2
  exact kk q H1 hP1 hD1 hS1
theorem ra_int {cA cB : ClassId} (h1 : va_RA s cB .int) (h2 : va_RA s cA .int) : cB = cA := Option.some.inj ((va_nm_int h1).symm.trans (va_nm_int h2))
theorem ra_long {cA cB : ClassId} (h1 : va_RA s cB .long) (h2 : va_RA s cA .long) : cB = cA := Option.some.inj ((va_nm_long h1).symm.trans (va_nm_long h2))
theorem ra_bool {cA cB : ClassId} (h1 : va_RA s cB .boolean) (h2 : va_RA s cA .boolean) : cB = cA := Option.some.inj ((va_nm_boolean h1).symm.trans (va_nm_boolean h2))
/-- what a constructor begins with: its own cell, fresh, and what X says of the state -/
def iPre (D : va_G) (tys : List (ClassId × FieldType)) (w0 : va_W) (sz : Nat) (X : State → Prop) (U : State) : Prop := U.heap.size = sz ∧ va_P D vwCl w0 U.heap ∧ va_K D vwCl tys U ∧ X U
theorem i_enter {w0 : va_W} {sz : Nat} {av : List Value} {X : State → Prop} {Qc : Array Value → State → Outcome → State → Prop} {mc ms : Nat} {free : Addr → Prop} (hy : plainName y.cls = true) (hi : y.name = "<init>") (hw : wsc = Cond.code y cc maxL none :: bigW) (hlen : (lg_sl av).length ≤ maxL)
    (body : ∀ (p : Program) (e : Env) (s : State) (m : MethodId) (below : List Frame) (meth : Method) (c : Code) (ls : Array Slot), gFix p c cc meth none m s av.toArray bigW y.cls maxL → meth.name = "<init>" → s.heap.size = sz → va_K D vwCl tys s → va_P D vwCl w0 s.heap → X s → lv_has ls maxL (lv_args 0 av) →
      W p l e rm s m av.toArray below meth c s.heap [] 0 0 (MQ below Qc av.toArray s mc ms free) (F0 m 0 ls [])) : Met l y wsc rm (va_Pc av (iPre D tys w0 sz X)) Qc mc ms free := by
  refine Met.ofW (cc := cc) (maxL := maxL) (ret := none) hy hw ?_
  intro p e s m args below meth c s₁ B hml hv
  obtain ⟨rfl, hsz, hP, hK, hX⟩ := hv
  have hts : ∀ w ∈ bigW, w.before av.toArray s = true := fun w h => atoms_spec (ws := wsc) B.pre w (by rw [hw]; exact List.mem_cons_of_mem _ h)
  have hown : s.vm.findClass y.cls = some m.cls := findClass_of_methodNamed B.named
  have hin : meth.name = "<init>" := by rw [← hi]; exact (name_of_methodNamed B.named B.method).1
  have hl := lv_entry av (n := maxL) hlen
  rw [lg_entry_eq]
  exact body p e s m below meth c _ ⟨B.exec, B.bytes, B.returns, hml, hown, hts, B.notSynchronized⟩ hin hsz hK hP hX hl
theorem iD1 {q : Nat × va_E} {sz : Nat} : va_D (va_A [q] sz) [q] := by
  refine ⟨fun i j p1 q1 hi hj _ => ?_, fun k x hk => va_A.in hk⟩
  have h1 := (List.getElem?_eq_some_iff.mp hi).1
  have h2 := (List.getElem?_eq_some_iff.mp hj).1
  simp at h1 h2
  omega
theorem i_vret {S : Type} {B : S → State → Prop} {v : S} (hexec : p.tables.exec = Jvm.exec) (hb : c.code = cc) (hr : meth.sig.returnType = none) (hS : va_S A s.heap H locs) (hB : ∀ t : State, t.heap = H → B v t) (hlocks : meth.locks = false) (hdg : decode cc pc = .ok (.return_, 1)) :
    W p l e R s m args below meth c H locs cells slots (MQ below (va_Qv (fun _ : S => True) B A) args s cells slots A) (F0 m pc ls []) :=
  W.vret hexec hb hr (fun t ht hW => ⟨⟨v, rfl, trivial, hB t ht⟩, hS.F ht⟩) hS.2.2 hdg hlocks
end IC
def iFill : Nat → Nat → (Nat → Int32) → (Nat → Int32)
  | 0, _, f => f
  | n + 1, k, f => iFill n (k + 1) (upd f k (-1))
theorem iFill_at : ∀ (n k : Nat) (f : Nat → Int32) (j : Nat), iFill n k f j = if k ≤ j ∧ j < k + n then -1 else f j := by
  intro n
  induction n with
  | zero => intro k f j; rw [if_neg (by omega)]; rfl
  | succ n ih =>
    intro k f j
    show iFill n (k + 1) (upd f k (-1)) j = _
    rw [ih]
    by_cases h : j = k
    · subst h; rw [if_neg (by omega), if_pos (by omega)]; simp [upd]
    · by_cases h2 : k + 1 ≤ j ∧ j < k + 1 + n
      · rw [if_pos h2, if_pos (by omega)]
      · rw [if_neg h2, if_neg (by omega)]; simp [upd, h]
def fItself (x : Int32) : Nat := if x < 0 then 0 else if x < 64 then x.toNatClampNeg else 0
set_option maxHeartbeats 4000000 in
set_option maxRecDepth 100000 in
theorem c_AD_init (l : Launch) {D : va_G} {cI cL : ClassId} (h0 sz : Nat)  : Met l yAD_init wsAD_init ({ frames := 1, cells := 2, slots := 128, locals := 12 }) (va_Pc [.ref h0] (iPre D (tyC cI cL) [(h0, .inr (0, [.null, .null]))] sz (fun _ => True))) (va_Qv (fun _ : Nat → Nat => True) (fun u t => u 0 = h0 ∧ va_P D vwCl [(u 0, .inr (0, [.ref (u 1), .ref (u 2)])), (u 1, .inl (cI, 64, .inl (fun _ => 0))), (u 2, .inl (cI, 64, .inl (fun _ => 0)))] t.heap ∧ va_D (va_A [(h0, .inr (0, [.null, .null]))] sz) [(u 0, .inr (0, [.ref (u 1), .ref (u 2)])), (u 1, .inl (cI, 64, .inl (fun _ => 0))), (u 2, .inl (cI, 64, .inl (fun _ => 0)))]) (va_A [(h0, .inr (0, [.null, .null]))] sz)) 2 128 (va_A [(h0, .inr (0, [.null, .null]))] sz) := by
  refine i_enter (by decide) rfl rfl (Nat.le_of_ble_eq_true rfl) ?_
  intro p e s m below meth c ls F hin hsz hK hP hX hl
  obtain ⟨hx, hb, hr, hml, hown, hts, hlocks⟩ := id F
  subst hsz
  have hD := iD1 (q := (h0, .inr (0, [.null, .null]))) (sz := s.heap.size)
  generalize hAe : va_A [(h0, .inr (0, [.null, .null]))] s.heap.size = A at hD ⊢
  have hA : ∀ q : Nat, s.heap.size ≤ q → A q := fun q h => by rw [← hAe]; exact Or.inr h
  have hS : va_S A s.heap s.heap [] := va_S.rf
  have hP : va_P D vwCl [(h0, .inr (0, [.null, .null]))] s.heap := hP
  have hl : lv_has ls 1 [(0, .ref h0)] := hl
  refine lv_aload_n hx hb dAD_init_0 rfl (lv_at hl 0 rfl) ?_
  refine W.objInit hx hb hown (hts _ k52) (hts _ k45) (hts _ k46) rfl (by rw [hml]; exact hl.1) rfl dAD_init_1 (Nat.le_of_ble_eq_true rfl) (Nat.le_of_ble_eq_true rfl) ?_
  refine W.eq (g2 := F0 m 4 ls []) rfl ?_
  refine lv_aload_n hx hb dAD_init_4 rfl (lv_at hl 0 rfl) ?_
  refine lv_bipush (v := 64) hx hb dAD_init_5 (by decide) ?_
  refine g_newa (atype := .int) (a0 := (64, .inl (fun _ => 0))) hx hb (hts _ k60) rfl hK hP hD hS hA 0 rfl (fun _ h1 h2 => ra_int h1 h2) (fun _ => rfl) (by decide) (by decide +kernel) (by decide +kernel) (Nat.le_of_ble_eq_true rfl) (Nat.le_of_ble_eq_true rfl) dAD_init_7 (fun q1 H hP hD hS => ?_)
  have hP : va_P D vwCl [(h0, .inr (0, [.null, .null])), (q1, .inl (cI, 64, .inl (fun _ => 0)))] H := hP
  have hD : va_D A [(h0, .inr (0, [.null, .null])), (q1, .inl (cI, 64, .inl (fun _ => 0)))] := hD
  refine va_putF (ci := 0) (v := .ref q1) (ty := .array .int) (C := RAD) (T := TAD) (N := 2) hx hb hts inAD tyAD tyAD_ok nmAD hown hK hP hD hS 0 rfl rfl 0 (by decide) (hts _ k53) (fun _ h9 => h9) rfl hin rfl (by decide +kernel) rfl rfl (Nat.le_of_ble_eq_true rfl) dAD_init_9 (fun H locs hP hD hS => ?_)
  have hP : va_P D vwCl [(h0, .inr (0, [.ref q1, .null])), (q1, .inl (cI, 64, .inl (fun _ => 0)))] H := hP
  have hD : va_D A [(h0, .inr (0, [.ref q1, .null])), (q1, .inl (cI, 64, .inl (fun _ => 0)))] := hD
  refine lv_aload_n hx hb dAD_init_12 rfl (lv_at hl 0 rfl) ?_
  refine lv_bipush (v := 64) hx hb dAD_init_13 (by decide) ?_
  refine g_newa (atype := .int) (a0 := (64, .inl (fun _ => 0))) hx hb (hts _ k60) rfl hK hP hD hS hA 0 rfl (fun _ h1 h2 => ra_int h1 h2) (fun _ => rfl) (by decide) (by decide +kernel) (by decide +kernel) (Nat.le_of_ble_eq_true rfl) (Nat.le_of_ble_eq_true rfl) dAD_init_15 (fun q2 H hP hD hS => ?_)
  have hP : va_P D vwCl [(h0, .inr (0, [.ref q1, .null])), (q1, .inl (cI, 64, .inl (fun _ => 0))), (q2, .inl (cI, 64, .inl (fun _ => 0)))] H := hP
  have hD : va_D A [(h0, .inr (0, [.ref q1, .null])), (q1, .inl (cI, 64, .inl (fun _ => 0))), (q2, .inl (cI, 64, .inl (fun _ => 0)))] := hD
  refine va_putF (ci := 0) (v := .ref q2) (ty := .array .int) (C := RAD) (T := TAD) (N := 2) hx hb hts inAD tyAD tyAD_ok nmAD hown hK hP hD hS 0 rfl rfl 1 (by decide) (hts _ k54) (fun _ h9 => h9) rfl hin rfl (by decide +kernel) rfl rfl (Nat.le_of_ble_eq_true rfl) dAD_init_17 (fun H locs hP hD hS => ?_)
  have hP : va_P D vwCl [(h0, .inr (0, [.ref q1, .ref q2])), (q1, .inl (cI, 64, .inl (fun _ => 0))), (q2, .inl (cI, 64, .inl (fun _ => 0)))] H := hP
  have hD : va_D A [(h0, .inr (0, [.ref q1, .ref q2])), (q1, .inl (cI, 64, .inl (fun _ => 0))), (q2, .inl (cI, 64, .inl (fun _ => 0)))] := hD
  exact i_vret (v := fun k => [h0, q1, q2].getD k 0) hx hb hr hS (fun t ht => ⟨rfl, by rw [ht]; exact hP, hD⟩) hlocks dAD_init_20
set_option maxHeartbeats 4000000 in
set_option maxRecDepth 100000 in
theorem c_NB_init (l : Launch) {D : va_G} {cI cL : ClassId} (h0 sz : Nat)  : Met l yNB_init wsNB_init ({ frames := 1, cells := 7, slots := 1120, locals := 12 }) (va_Pc [.ref h0] (iPre D (tyC cI cL) [(h0, .inr (2, [.null, .null, .null, .null, .null, .null, .null]))] sz (fun _ => True))) (va_Qv (fun _ : Nat → Nat => True) (fun u t => u 0 = h0 ∧ va_P D vwCl [(u 0, .inr (2, [.ref (u 1), .ref (u 2), .ref (u 3), .ref (u 4), .ref (u 5), .ref (u 6), .ref (u 7)])), (u 1, .inl (cI, 16, .inl (fun _ => 0))), (u 2, .inl (cI, 16, .inl (fun _ => 0))), (u 3, .inl (cI, 16, .inl (fun _ => 0))), (u 4, .inl (cI, 16, .inl (fun _ => 0))), (u 5, .inl (cL, 16, .inr (.inl (fun _ => 0)))), (u 6, .inl (cL, 16, .inr (.inl (fun _ => 0)))), (u 7, .inl (cI, 1024, .inl (fun _ => 0)))] t.heap ∧ va_D (va_A [(h0, .inr (2, [.null, .null, .null, .null, .null, .null, .null]))] sz) [(u 0, .inr (2, [.ref (u 1), .ref (u 2), .ref (u 3), .ref (u 4), .ref (u 5), .ref (u 6), .ref (u 7)])), (u 1, .inl (cI, 16, .inl (fun _ => 0))), (u 2, .inl (cI, 16, .inl (fun _ => 0))), (u 3, .inl (cI, 16, .inl (fun _ => 0))), (u 4, .inl (cI, 16, .inl (fun _ => 0))), (u 5, .inl (cL, 16, .inr (.inl (fun _ => 0)))), (u 6, .inl (cL, 16, .inr (.inl (fun _ => 0)))), (u 7, .inl (cI, 1024, .inl (fun _ => 0)))]) (va_A [(h0, .inr (2, [.null, .null, .null, .null, .null, .null, .null]))] sz)) 7 1120 (va_A [(h0, .inr (2, [.null, .null, .null, .null, .null, .null, .null]))] sz) := by
  refine i_enter (by decide) rfl rfl (Nat.le_of_ble_eq_true rfl) ?_
  intro p e s m below meth c ls F hin hsz hK hP hX hl
  obtain ⟨hx, hb, hr, hml, hown, hts, hlocks⟩ := id F
  subst hsz
  have hD := iD1 (q := (h0, .inr (2, [.null, .null, .null, .null, .null, .null, .null]))) (sz := s.heap.size)
  generalize hAe : va_A [(h0, .inr (2, [.null, .null, .null, .null, .null, .null, .null]))] s.heap.size = A at hD ⊢
  have hA : ∀ q : Nat, s.heap.size ≤ q → A q := fun q h => by rw [← hAe]; exact Or.inr h
  have hS : va_S A s.heap s.heap [] := va_S.rf
  have hP : va_P D vwCl [(h0, .inr (2, [.null, .null, .null, .null, .null, .null, .null]))] s.heap := hP
  have hl : lv_has ls 1 [(0, .ref h0)] := hl
  refine lv_aload_n hx hb dNB_init_0 rfl (lv_at hl 0 rfl) ?_
  refine W.objInit hx hb hown (hts _ k66) (hts _ k45) (hts _ k46) rfl (by rw [hml]; exact hl.1) rfl dNB_init_1 (Nat.le_of_ble_eq_true rfl) (Nat.le_of_ble_eq_true rfl) ?_
  refine W.eq (g2 := F0 m 4 ls []) rfl ?_
  refine lv_aload_n hx hb dNB_init_4 rfl (lv_at hl 0 rfl) ?_
  refine lv_bipush (v := 16) hx hb dNB_init_5 (by decide) ?_
  refine g_newa (atype := .int) (a0 := (16, .inl (fun _ => 0))) hx hb (hts _ k60) rfl hK hP hD hS hA 0 rfl (fun _ h1 h2 => ra_int h1 h2) (fun _ => rfl) (by decide) (by decide +kernel) (by decide +kernel) (Nat.le_of_ble_eq_true rfl) (Nat.le_of_ble_eq_true rfl) dNB_init_7 (fun q1 H hP hD hS => ?_)
  have hP : va_P D vwCl [(h0, .inr (2, [.null, .null, .null, .null, .null, .null, .null])), (q1, .inl (cI, 16, .inl (fun _ => 0)))] H := hP
  have hD : va_D A [(h0, .inr (2, [.null, .null, .null, .null, .null, .null, .null])), (q1, .inl (cI, 16, .inl (fun _ => 0)))] := hD
  refine va_putF (ci := 2) (v := .ref q1) (ty := .array .int) (C := RNB) (T := TNB) (N := 7) hx hb hts inNB tyNB tyNB_ok nmNB hown hK hP hD hS 0 rfl rfl 0 (by decide) (hts _ k67) (fun _ h9 => h9) rfl hin rfl (by decide +kernel) rfl rfl (Nat.le_of_ble_eq_true rfl) dNB_init_9 (fun H locs hP hD hS => ?_)
  have hP : va_P D vwCl [(h0, .inr (2, [.ref q1, .null, .null, .null, .null, .null, .null])), (q1, .inl (cI, 16, .inl (fun _ => 0)))] H := hP
  have hD : va_D A [(h0, .inr (2, [.ref q1, .null, .null, .null, .null, .null, .null])), (q1, .inl (cI, 16, .inl (fun _ => 0)))] := hD
  refine lv_aload_n hx hb dNB_init_12 rfl (lv_at hl 0 rfl) ?_
  refine lv_bipush (v := 16) hx hb dNB_init_13 (by decide) ?_
  refine g_newa (atype := .int) (a0 := (16, .inl (fun _ => 0))) hx hb (hts _ k60) rfl hK hP hD hS hA 0 rfl (fun _ h1 h2 => ra_int h1 h2) (fun _ => rfl) (by decide) (by decide +kernel) (by decide +kernel) (Nat.le_of_ble_eq_true rfl) (Nat.le_of_ble_eq_true rfl) dNB_init_15 (fun q2 H hP hD hS => ?_)
  have hP : va_P D vwCl [(h0, .inr (2, [.ref q1, .null, .null, .null, .null, .null, .null])), (q1, .inl (cI, 16, .inl (fun _ => 0))), (q2, .inl (cI, 16, .inl (fun _ => 0)))] H := hP
  have hD : va_D A [(h0, .inr (2, [.ref q1, .null, .null, .null, .null, .null, .null])), (q1, .inl (cI, 16, .inl (fun _ => 0))), (q2, .inl (cI, 16, .inl (fun _ => 0)))] := hD
  refine va_putF (ci := 2) (v := .ref q2) (ty := .array .int) (C := RNB) (T := TNB) (N := 7) hx hb hts inNB tyNB tyNB_ok nmNB hown hK hP hD hS 0 rfl rfl 1 (by decide) (hts _ k68) (fun _ h9 => h9) rfl hin rfl (by decide +kernel) rfl rfl (Nat.le_of_ble_eq_true rfl) dNB_init_17 (fun H locs hP hD hS => ?_)
  have hP : va_P D vwCl [(h0, .inr (2, [.ref q1, .ref q2, .null, .null, .null, .null, .null])), (q1, .inl (cI, 16, .inl (fun _ => 0))), (q2, .inl (cI, 16, .inl (fun _ => 0)))] H := hP
  have hD : va_D A [(h0, .inr (2, [.ref q1, .ref q2, .null, .null, .null, .null, .null])), (q1, .inl (cI, 16, .inl (fun _ => 0))), (q2, .inl (cI, 16, .inl (fun _ => 0)))] := hD
  refine lv_aload_n hx hb dNB_init_20 rfl (lv_at hl 0 rfl) ?_
  refine lv_bipush (v := 16) hx hb dNB_init_21 (by decide) ?_
  refine g_newa (atype := .int) (a0 := (16, .inl (fun _ => 0))) hx hb (hts _ k60) rfl hK hP hD hS hA 0 rfl (fun _ h1 h2 => ra_int h1 h2) (fun _ => rfl) (by decide) (by decide +kernel) (by decide +kernel) (Nat.le_of_ble_eq_true rfl) (Nat.le_of_ble_eq_true rfl) dNB_init_23 (fun q3 H hP hD hS => ?_)
  have hP : va_P D vwCl [(h0, .inr (2, [.ref q1, .ref q2, .null, .null, .null, .null, .null])), (q1, .inl (cI, 16, .inl (fun _ => 0))), (q2, .inl (cI, 16, .inl (fun _ => 0))), (q3, .inl (cI, 16, .inl (fun _ => 0)))] H := hP
  have hD : va_D A [(h0, .inr (2, [.ref q1, .ref q2, .null, .null, .null, .null, .null])), (q1, .inl (cI, 16, .inl (fun _ => 0))), (q2, .inl (cI, 16, .inl (fun _ => 0))), (q3, .inl (cI, 16, .inl (fun _ => 0)))] := hD
  refine va_putF (ci := 2) (v := .ref q3) (ty := .array .int) (C := RNB) (T := TNB) (N := 7) hx hb hts inNB tyNB tyNB_ok nmNB hown hK hP hD hS 0 rfl rfl 2 (by decide) (hts _ k69) (fun _ h9 => h9) rfl hin rfl (by decide +kernel) rfl rfl (Nat.le_of_ble_eq_true rfl) dNB_init_25 (fun H locs hP hD hS => ?_)
  have hP : va_P D vwCl [(h0, .inr (2, [.ref q1, .ref q2, .ref q3, .null, .null, .null, .null])), (q1, .inl (cI, 16, .inl (fun _ => 0))), (q2, .inl (cI, 16, .inl (fun _ => 0))), (q3, .inl (cI, 16, .inl (fun _ => 0)))] H := hP
  have hD : va_D A [(h0, .inr (2, [.ref q1, .ref q2, .ref q3, .null, .null, .null, .null])), (q1, .inl (cI, 16, .inl (fun _ => 0))), (q2, .inl (cI, 16, .inl (fun _ => 0))), (q3, .inl (cI, 16, .inl (fun _ => 0)))] := hD
  refine lv_aload_n hx hb dNB_init_28 rfl (lv_at hl 0 rfl) ?_
  refine lv_bipush (v := 16) hx hb dNB_init_29 (by decide) ?_
  refine g_newa (atype := .int) (a0 := (16, .inl (fun _ => 0))) hx hb (hts _ k60) rfl hK hP hD hS hA 0 rfl (fun _ h1 h2 => ra_int h1 h2) (fun _ => rfl) (by decide) (by decide +kernel) (by decide +kernel) (Nat.le_of_ble_eq_true rfl) (Nat.le_of_ble_eq_true rfl) dNB_init_31 (fun q4 H hP hD hS => ?_)
  have hP : va_P D vwCl [(h0, .inr (2, [.ref q1, .ref q2, .ref q3, .null, .null, .null, .null])), (q1, .inl (cI, 16, .inl (fun _ => 0))), (q2, .inl (cI, 16, .inl (fun _ => 0))), (q3, .inl (cI, 16, .inl (fun _ => 0))), (q4, .inl (cI, 16, .inl (fun _ => 0)))] H := hP
  have hD : va_D A [(h0, .inr (2, [.ref q1, .ref q2, .ref q3, .null, .null, .null, .null])), (q1, .inl (cI, 16, .inl (fun _ => 0))), (q2, .inl (cI, 16, .inl (fun _ => 0))), (q3, .inl (cI, 16, .inl (fun _ => 0))), (q4, .inl (cI, 16, .inl (fun _ => 0)))] := hD
  refine va_putF (ci := 2) (v := .ref q4) (ty := .array .int) (C := RNB) (T := TNB) (N := 7) hx hb hts inNB tyNB tyNB_ok nmNB hown hK hP hD hS 0 rfl rfl 3 (by decide) (hts _ k70) (fun _ h9 => h9) rfl hin rfl (by decide +kernel) rfl rfl (Nat.le_of_ble_eq_true rfl) dNB_init_33 (fun H locs hP hD hS => ?_)
  have hP : va_P D vwCl [(h0, .inr (2, [.ref q1, .ref q2, .ref q3, .ref q4, .null, .null, .null])), (q1, .inl (cI, 16, .inl (fun _ => 0))), (q2, .inl (cI, 16, .inl (fun _ => 0))), (q3, .inl (cI, 16, .inl (fun _ => 0))), (q4, .inl (cI, 16, .inl (fun _ => 0)))] H := hP
  have hD : va_D A [(h0, .inr (2, [.ref q1, .ref q2, .ref q3, .ref q4, .null, .null, .null])), (q1, .inl (cI, 16, .inl (fun _ => 0))), (q2, .inl (cI, 16, .inl (fun _ => 0))), (q3, .inl (cI, 16, .inl (fun _ => 0))), (q4, .inl (cI, 16, .inl (fun _ => 0)))] := hD
  refine lv_aload_n hx hb dNB_init_36 rfl (lv_at hl 0 rfl) ?_
  refine lv_bipush (v := 16) hx hb dNB_init_37 (by decide) ?_
  refine g_newa (atype := .long) (a0 := (16, .inr (.inl (fun _ => 0)))) hx hb (hts _ k89) rfl hK hP hD hS hA 1 rfl (fun _ h1 h2 => ra_long h1 h2) (fun _ => rfl) (by decide) (by decide +kernel) (by decide +kernel) (Nat.le_of_ble_eq_true rfl) (Nat.le_of_ble_eq_true rfl) dNB_init_39 (fun q5 H hP hD hS => ?_)
  have hP : va_P D vwCl [(h0, .inr (2, [.ref q1, .ref q2, .ref q3, .ref q4, .null, .null, .null])), (q1, .inl (cI, 16, .inl (fun _ => 0))), (q2, .inl (cI, 16, .inl (fun _ => 0))), (q3, .inl (cI, 16, .inl (fun _ => 0))), (q4, .inl (cI, 16, .inl (fun _ => 0))), (q5, .inl (cL, 16, .inr (.inl (fun _ => 0))))] H := hP
  have hD : va_D A [(h0, .inr (2, [.ref q1, .ref q2, .ref q3, .ref q4, .null, .null, .null])), (q1, .inl (cI, 16, .inl (fun _ => 0))), (q2, .inl (cI, 16, .inl (fun _ => 0))), (q3, .inl (cI, 16, .inl (fun _ => 0))), (q4, .inl (cI, 16, .inl (fun _ => 0))), (q5, .inl (cL, 16, .inr (.inl (fun _ => 0))))] := hD
  refine va_putF (ci := 2) (v := .ref q5) (ty := .array .long) (C := RNB) (T := TNB) (N := 7) hx hb hts inNB tyNB tyNB_ok nmNB hown hK hP hD hS 0 rfl rfl 4 (by decide) (hts _ k71) (fun _ h9 => h9) rfl hin rfl (by decide +kernel) rfl rfl (Nat.le_of_ble_eq_true rfl) dNB_init_41 (fun H locs hP hD hS => ?_)
  have hP : va_P D vwCl [(h0, .inr (2, [.ref q1, .ref q2, .ref q3, .ref q4, .ref q5, .null, .null])), (q1, .inl (cI, 16, .inl (fun _ => 0))), (q2, .inl (cI, 16, .inl (fun _ => 0))), (q3, .inl (cI, 16, .inl (fun _ => 0))), (q4, .inl (cI, 16, .inl (fun _ => 0))), (q5, .inl (cL, 16, .inr (.inl (fun _ => 0))))] H := hP
  have hD : va_D A [(h0, .inr (2, [.ref q1, .ref q2, .ref q3, .ref q4, .ref q5, .null, .null])), (q1, .inl (cI, 16, .inl (fun _ => 0))), (q2, .inl (cI, 16, .inl (fun _ => 0))), (q3, .inl (cI, 16, .inl (fun _ => 0))), (q4, .inl (cI, 16, .inl (fun _ => 0))), (q5, .inl (cL, 16, .inr (.inl (fun _ => 0))))] := hD
  refine lv_aload_n hx hb dNB_init_44 rfl (lv_at hl 0 rfl) ?_
  refine lv_bipush (v := 16) hx hb dNB_init_45 (by decide) ?_
  refine g_newa (atype := .long) (a0 := (16, .inr (.inl (fun _ => 0)))) hx hb (hts _ k89) rfl hK hP hD hS hA 1 rfl (fun _ h1 h2 => ra_long h1 h2) (fun _ => rfl) (by decide) (by decide +kernel) (by decide +kernel) (Nat.le_of_ble_eq_true rfl) (Nat.le_of_ble_eq_true rfl) dNB_init_47 (fun q6 H hP hD hS => ?_)
  have hP : va_P D vwCl [(h0, .inr (2, [.ref q1, .ref q2, .ref q3, .ref q4, .ref q5, .null, .null])), (q1, .inl (cI, 16, .inl (fun _ => 0))), (q2, .inl (cI, 16, .inl (fun _ => 0))), (q3, .inl (cI, 16, .inl (fun _ => 0))), (q4, .inl (cI, 16, .inl (fun _ => 0))), (q5, .inl (cL, 16, .inr (.inl (fun _ => 0)))), (q6, .inl (cL, 16, .inr (.inl (fun _ => 0))))] H := hP
  have hD : va_D A [(h0, .inr (2, [.ref q1, .ref q2, .ref q3, .ref q4, .ref q5, .null, .null])), (q1, .inl (cI, 16, .inl (fun _ => 0))), (q2, .inl (cI, 16, .inl (fun _ => 0))), (q3, .inl (cI, 16, .inl (fun _ => 0))), (q4, .inl (cI, 16, .inl (fun _ => 0))), (q5, .inl (cL, 16, .inr (.inl (fun _ => 0)))), (q6, .inl (cL, 16, .inr (.inl (fun _ => 0))))] := hD
  refine va_putF (ci := 2) (v := .ref q6) (ty := .array .long) (C := RNB) (T := TNB) (N := 7) hx hb hts inNB tyNB tyNB_ok nmNB hown hK hP hD hS 0 rfl rfl 5 (by decide) (hts _ k72) (fun _ h9 => h9) rfl hin rfl (by decide +kernel) rfl rfl (Nat.le_of_ble_eq_true rfl) dNB_init_49 (fun H locs hP hD hS => ?_)
  have hP : va_P D vwCl [(h0, .inr (2, [.ref q1, .ref q2, .ref q3, .ref q4, .ref q5, .ref q6, .null])), (q1, .inl (cI, 16, .inl (fun _ => 0))), (q2, .inl (cI, 16, .inl (fun _ => 0))), (q3, .inl (cI, 16, .inl (fun _ => 0))), (q4, .inl (cI, 16, .inl (fun _ => 0))), (q5, .inl (cL, 16, .inr (.inl (fun _ => 0)))), (q6, .inl (cL, 16, .inr (.inl (fun _ => 0))))] H := hP
  have hD : va_D A [(h0, .inr (2, [.ref q1, .ref q2, .ref q3, .ref q4, .ref q5, .ref q6, .null])), (q1, .inl (cI, 16, .inl (fun _ => 0))), (q2, .inl (cI, 16, .inl (fun _ => 0))), (q3, .inl (cI, 16, .inl (fun _ => 0))), (q4, .inl (cI, 16, .inl (fun _ => 0))), (q5, .inl (cL, 16, .inr (.inl (fun _ => 0)))), (q6, .inl (cL, 16, .inr (.inl (fun _ => 0))))] := hD
  refine lv_aload_n hx hb dNB_init_52 rfl (lv_at hl 0 rfl) ?_
  refine lv_sipush (v := 1024) hx hb dNB_init_53 (by decide) ?_
  refine g_newa (atype := .int) (a0 := (1024, .inl (fun _ => 0))) hx hb (hts _ k60) rfl hK hP hD hS hA 0 rfl (fun _ h1 h2 => ra_int h1 h2) (fun _ => rfl) (by decide) (by decide +kernel) (by decide +kernel) (Nat.le_of_ble_eq_true rfl) (Nat.le_of_ble_eq_true rfl) dNB_init_56 (fun q7 H hP hD hS => ?_)
  have hP : va_P D vwCl [(h0, .inr (2, [.ref q1, .ref q2, .ref q3, .ref q4, .ref q5, .ref q6, .null])), (q1, .inl (cI, 16, .inl (fun _ => 0))), (q2, .inl (cI, 16, .inl (fun _ => 0))), (q3, .inl (cI, 16, .inl (fun _ => 0))), (q4, .inl (cI, 16, .inl (fun _ => 0))), (q5, .inl (cL, 16, .inr (.inl (fun _ => 0)))), (q6, .inl (cL, 16, .inr (.inl (fun _ => 0)))), (q7, .inl (cI, 1024, .inl (fun _ => 0)))] H := hP
  have hD : va_D A [(h0, .inr (2, [.ref q1, .ref q2, .ref q3, .ref q4, .ref q5, .ref q6, .null])), (q1, .inl (cI, 16, .inl (fun _ => 0))), (q2, .inl (cI, 16, .inl (fun _ => 0))), (q3, .inl (cI, 16, .inl (fun _ => 0))), (q4, .inl (cI, 16, .inl (fun _ => 0))), (q5, .inl (cL, 16, .inr (.inl (fun _ => 0)))), (q6, .inl (cL, 16, .inr (.inl (fun _ => 0)))), (q7, .inl (cI, 1024, .inl (fun _ => 0)))] := hD
  refine va_putF (ci := 2) (v := .ref q7) (ty := .array .int) (C := RNB) (T := TNB) (N := 7) hx hb hts inNB tyNB tyNB_ok nmNB hown hK hP hD hS 0 rfl rfl 6 (by decide) (hts _ k73) (fun _ h9 => h9) rfl hin rfl (by decide +kernel) rfl rfl (Nat.le_of_ble_eq_true rfl) dNB_init_58 (fun H locs hP hD hS => ?_)
  have hP : va_P D vwCl [(h0, .inr (2, [.ref q1, .ref q2, .ref q3, .ref q4, .ref q5, .ref q6, .ref q7])), (q1, .inl (cI, 16, .inl (fun _ => 0))), (q2, .inl (cI, 16, .inl (fun _ => 0))), (q3, .inl (cI, 16, .inl (fun _ => 0))), (q4, .inl (cI, 16, .inl (fun _ => 0))), (q5, .inl (cL, 16, .inr (.inl (fun _ => 0)))), (q6, .inl (cL, 16, .inr (.inl (fun _ => 0)))), (q7, .inl (cI, 1024, .inl (fun _ => 0)))] H := hP
  have hD : va_D A [(h0, .inr (2, [.ref q1, .ref q2, .ref q3, .ref q4, .ref q5, .ref q6, .ref q7])), (q1, .inl (cI, 16, .inl (fun _ => 0))), (q2, .inl (cI, 16, .inl (fun _ => 0))), (q3, .inl (cI, 16, .inl (fun _ => 0))), (q4, .inl (cI, 16, .inl (fun _ => 0))), (q5, .inl (cL, 16, .inr (.inl (fun _ => 0)))), (q6, .inl (cL, 16, .inr (.inl (fun _ => 0)))), (q7, .inl (cI, 1024, .inl (fun _ => 0)))] := hD
  exact i_vret (v := fun k => [h0, q1, q2, q3, q4, q5, q6, q7].getD k 0) hx hb hr hS (fun t ht => ⟨rfl, by rw [ht]; exact hP, hD⟩) hlocks dNB_init_61
set_option maxHeartbeats 4000000 in
set_option maxRecDepth 100000 in
theorem c_TQ_init (l : Launch) {D : va_G} {cI cL : ClassId} (h0 sz : Nat)  : Met l yTQ_init wsTQ_init ({ frames := 1, cells := 4, slots := 256, locals := 12 }) (va_Pc [.ref h0] (iPre D (tyC cI cL) [(h0, .inr (3, [.null, .null, .null, .null, .int 0, .int 0]))] sz (fun _ => True))) (va_Qv (fun _ : Nat → Nat => True) (fun u t => u 0 = h0 ∧ va_P D vwCl [(u 0, .inr (3, [.ref (u 1), .ref (u 2), .ref (u 3), .ref (u 4), .int 0, .int 0])), (u 1, .inl (cI, 64, .inl (fun _ => 0))), (u 2, .inl (cI, 64, .inl (fun _ => 0))), (u 3, .inl (cI, 64, .inl (fun _ => 0))), (u 4, .inl (cI, 64, .inl (fun _ => 0)))] t.heap ∧ va_D (va_A [(h0, .inr (3, [.null, .null, .null, .null, .int 0, .int 0]))] sz) [(u 0, .inr (3, [.ref (u 1), .ref (u 2), .ref (u 3), .ref (u 4), .int 0, .int 0])), (u 1, .inl (cI, 64, .inl (fun _ => 0))), (u 2, .inl (cI, 64, .inl (fun _ => 0))), (u 3, .inl (cI, 64, .inl (fun _ => 0))), (u 4, .inl (cI, 64, .inl (fun _ => 0)))]) (va_A [(h0, .inr (3, [.null, .null, .null, .null, .int 0, .int 0]))] sz)) 4 256 (va_A [(h0, .inr (3, [.null, .null, .null, .null, .int 0, .int 0]))] sz) := by
  refine i_enter (by decide) rfl rfl (Nat.le_of_ble_eq_true rfl) ?_
  intro p e s m below meth c ls F hin hsz hK hP hX hl
  obtain ⟨hx, hb, hr, hml, hown, hts, hlocks⟩ := id F
  subst hsz
  have hD := iD1 (q := (h0, .inr (3, [.null, .null, .null, .null, .int 0, .int 0]))) (sz := s.heap.size)
  generalize hAe : va_A [(h0, .inr (3, [.null, .null, .null, .null, .int 0, .int 0]))] s.heap.size = A at hD ⊢
  have hA : ∀ q : Nat, s.heap.size ≤ q → A q := fun q h => by rw [← hAe]; exact Or.inr h
  have hS : va_S A s.heap s.heap [] := va_S.rf
  have hP : va_P D vwCl [(h0, .inr (3, [.null, .null, .null, .null, .int 0, .int 0]))] s.heap := hP
  have hl : lv_has ls 1 [(0, .ref h0)] := hl
  refine lv_aload_n hx hb dTQ_init_0 rfl (lv_at hl 0 rfl) ?_
  refine W.objInit hx hb hown (hts _ k95) (hts _ k45) (hts _ k46) rfl (by rw [hml]; exact hl.1) rfl dTQ_init_1 (Nat.le_of_ble_eq_true rfl) (Nat.le_of_ble_eq_true rfl) ?_
  refine W.eq (g2 := F0 m 4 ls []) rfl ?_
  refine lv_aload_n hx hb dTQ_init_4 rfl (lv_at hl 0 rfl) ?_
  refine lv_bipush (v := 64) hx hb dTQ_init_5 (by decide) ?_
  refine g_newa (atype := .int) (a0 := (64, .inl (fun _ => 0))) hx hb (hts _ k60) rfl hK hP hD hS hA 0 rfl (fun _ h1 h2 => ra_int h1 h2) (fun _ => rfl) (by decide) (by decide +kernel) (by decide +kernel) (Nat.le_of_ble_eq_true rfl) (Nat.le_of_ble_eq_true rfl) dTQ_init_7 (fun q1 H hP hD hS => ?_)
  have hP : va_P D vwCl [(h0, .inr (3, [.null, .null, .null, .null, .int 0, .int 0])), (q1, .inl (cI, 64, .inl (fun _ => 0)))] H := hP
  have hD : va_D A [(h0, .inr (3, [.null, .null, .null, .null, .int 0, .int 0])), (q1, .inl (cI, 64, .inl (fun _ => 0)))] := hD
  refine va_putF (ci := 3) (v := .ref q1) (ty := .array .int) (C := RTQ) (T := TTQ) (N := 6) hx hb hts inTQ tyTQ tyTQ_ok nmTQ hown hK hP hD hS 0 rfl rfl 0 (by decide) (hts _ k96) (fun _ h9 => h9) rfl hin rfl (by decide +kernel) rfl rfl (Nat.le_of_ble_eq_true rfl) dTQ_init_9 (fun H locs hP hD hS => ?_)
  have hP : va_P D vwCl [(h0, .inr (3, [.ref q1, .null, .null, .null, .int 0, .int 0])), (q1, .inl (cI, 64, .inl (fun _ => 0)))] H := hP
  have hD : va_D A [(h0, .inr (3, [.ref q1, .null, .null, .null, .int 0, .int 0])), (q1, .inl (cI, 64, .inl (fun _ => 0)))] := hD
  refine lv_aload_n hx hb dTQ_init_12 rfl (lv_at hl 0 rfl) ?_
  refine lv_bipush (v := 64) hx hb dTQ_init_13 (by decide) ?_
  refine g_newa (atype := .int) (a0 := (64, .inl (fun _ => 0))) hx hb (hts _ k60) rfl hK hP hD hS hA 0 rfl (fun _ h1 h2 => ra_int h1 h2) (fun _ => rfl) (by decide) (by decide +kernel) (by decide +kernel) (Nat.le_of_ble_eq_true rfl) (Nat.le_of_ble_eq_true rfl) dTQ_init_15 (fun q2 H hP hD hS => ?_)
  have hP : va_P D vwCl [(h0, .inr (3, [.ref q1, .null, .null, .null, .int 0, .int 0])), (q1, .inl (cI, 64, .inl (fun _ => 0))), (q2, .inl (cI, 64, .inl (fun _ => 0)))] H := hP
  have hD : va_D A [(h0, .inr (3, [.ref q1, .null, .null, .null, .int 0, .int 0])), (q1, .inl (cI, 64, .inl (fun _ => 0))), (q2, .inl (cI, 64, .inl (fun _ => 0)))] := hD
  refine va_putF (ci := 3) (v := .ref q2) (ty := .array .int) (C := RTQ) (T := TTQ) (N := 6) hx hb hts inTQ tyTQ tyTQ_ok nmTQ hown hK hP hD hS 0 rfl rfl 1 (by decide) (hts _ k97) (fun _ h9 => h9) rfl hin rfl (by decide +kernel) rfl rfl (Nat.le_of_ble_eq_true rfl) dTQ_init_17 (fun H locs hP hD hS => ?_)
  have hP : va_P D vwCl [(h0, .inr (3, [.ref q1, .ref q2, .null, .null, .int 0, .int 0])), (q1, .inl (cI, 64, .inl (fun _ => 0))), (q2, .inl (cI, 64, .inl (fun _ => 0)))] H := hP
  have hD : va_D A [(h0, .inr (3, [.ref q1, .ref q2, .null, .null, .int 0, .int 0])), (q1, .inl (cI, 64, .inl (fun _ => 0))), (q2, .inl (cI, 64, .inl (fun _ => 0)))] := hD
  refine lv_aload_n hx hb dTQ_init_20 rfl (lv_at hl 0 rfl) ?_
  refine lv_bipush (v := 64) hx hb dTQ_init_21 (by decide) ?_
  refine g_newa (atype := .int) (a0 := (64, .inl (fun _ => 0))) hx hb (hts _ k60) rfl hK hP hD hS hA 0 rfl (fun _ h1 h2 => ra_int h1 h2) (fun _ => rfl) (by decide) (by decide +kernel) (by decide +kernel) (Nat.le_of_ble_eq_true rfl) (Nat.le_of_ble_eq_true rfl) dTQ_init_23 (fun q3 H hP hD hS => ?_)
  have hP : va_P D vwCl [(h0, .inr (3, [.ref q1, .ref q2, .null, .null, .int 0, .int 0])), (q1, .inl (cI, 64, .inl (fun _ => 0))), (q2, .inl (cI, 64, .inl (fun _ => 0))), (q3, .inl (cI, 64, .inl (fun _ => 0)))] H := hP
  have hD : va_D A [(h0, .inr (3, [.ref q1, .ref q2, .null, .null, .int 0, .int 0])), (q1, .inl (cI, 64, .inl (fun _ => 0))), (q2, .inl (cI, 64, .inl (fun _ => 0))), (q3, .inl (cI, 64, .inl (fun _ => 0)))] := hD
  refine va_putF (ci := 3) (v := .ref q3) (ty := .array .int) (C := RTQ) (T := TTQ) (N := 6) hx hb hts inTQ tyTQ tyTQ_ok nmTQ hown hK hP hD hS 0 rfl rfl 2 (by decide) (hts _ k98) (fun _ h9 => h9) rfl hin rfl (by decide +kernel) rfl rfl (Nat.le_of_ble_eq_true rfl) dTQ_init_25 (fun H locs hP hD hS => ?_)
  have hP : va_P D vwCl [(h0, .inr (3, [.ref q1, .ref q2, .ref q3, .null, .int 0, .int 0])), (q1, .inl (cI, 64, .inl (fun _ => 0))), (q2, .inl (cI, 64, .inl (fun _ => 0))), (q3, .inl (cI, 64, .inl (fun _ => 0)))] H := hP
  have hD : va_D A [(h0, .inr (3, [.ref q1, .ref q2, .ref q3, .null, .int 0, .int 0])), (q1, .inl (cI, 64, .inl (fun _ => 0))), (q2, .inl (cI, 64, .inl (fun _ => 0))), (q3, .inl (cI, 64, .inl (fun _ => 0)))] := hD
  refine lv_aload_n hx hb dTQ_init_28 rfl (lv_at hl 0 rfl) ?_
  refine lv_bipush (v := 64) hx hb dTQ_init_29 (by decide) ?_
  refine g_newa (atype := .int) (a0 := (64, .inl (fun _ => 0))) hx hb (hts _ k60) rfl hK hP hD hS hA 0 rfl (fun _ h1 h2 => ra_int h1 h2) (fun _ => rfl) (by decide) (by decide +kernel) (by decide +kernel) (Nat.le_of_ble_eq_true rfl) (Nat.le_of_ble_eq_true rfl) dTQ_init_31 (fun q4 H hP hD hS => ?_)
  have hP : va_P D vwCl [(h0, .inr (3, [.ref q1, .ref q2, .ref q3, .null, .int 0, .int 0])), (q1, .inl (cI, 64, .inl (fun _ => 0))), (q2, .inl (cI, 64, .inl (fun _ => 0))), (q3, .inl (cI, 64, .inl (fun _ => 0))), (q4, .inl (cI, 64, .inl (fun _ => 0)))] H := hP
  have hD : va_D A [(h0, .inr (3, [.ref q1, .ref q2, .ref q3, .null, .int 0, .int 0])), (q1, .inl (cI, 64, .inl (fun _ => 0))), (q2, .inl (cI, 64, .inl (fun _ => 0))), (q3, .inl (cI, 64, .inl (fun _ => 0))), (q4, .inl (cI, 64, .inl (fun _ => 0)))] := hD
  refine va_putF (ci := 3) (v := .ref q4) (ty := .array .int) (C := RTQ) (T := TTQ) (N := 6) hx hb hts inTQ tyTQ tyTQ_ok nmTQ hown hK hP hD hS 0 rfl rfl 3 (by decide) (hts _ k99) (fun _ h9 => h9) rfl hin rfl (by decide +kernel) rfl rfl (Nat.le_of_ble_eq_true rfl) dTQ_init_33 (fun H locs hP hD hS => ?_)
  have hP : va_P D vwCl [(h0, .inr (3, [.ref q1, .ref q2, .ref q3, .ref q4, .int 0, .int 0])), (q1, .inl (cI, 64, .inl (fun _ => 0))), (q2, .inl (cI, 64, .inl (fun _ => 0))), (q3, .inl (cI, 64, .inl (fun _ => 0))), (q4, .inl (cI, 64, .inl (fun _ => 0)))] H := hP
  have hD : va_D A [(h0, .inr (3, [.ref q1, .ref q2, .ref q3, .ref q4, .int 0, .int 0])), (q1, .inl (cI, 64, .inl (fun _ => 0))), (q2, .inl (cI, 64, .inl (fun _ => 0))), (q3, .inl (cI, 64, .inl (fun _ => 0))), (q4, .inl (cI, 64, .inl (fun _ => 0)))] := hD
  exact i_vret (v := fun k => [h0, q1, q2, q3, q4].getD k 0) hx hb hr hS (fun t ht => ⟨rfl, by rw [ht]; exact hP, hD⟩) hlocks dTQ_init_36
set_option maxHeartbeats 4000000 in
set_option maxRecDepth 100000 in
theorem c_MS_init (l : Launch) {D : va_G} {cI cL : ClassId} (h0 sz : Nat)  : Met l yMS_init wsMS_init ({ frames := 1, cells := 1, slots := 6, locals := 12 }) (va_Pc [.ref h0] (iPre D (tyC cI cL) [(h0, .inr (1, [.null, .long 0]))] sz (fun _ => True))) (va_Qv (fun _ : Nat → Nat => True) (fun u t => u 0 = h0 ∧ va_P D vwCl [(u 0, .inr (1, [.ref (u 1), .long 0])), (u 1, .inl (cI, 6, .inl (fun _ => 0)))] t.heap ∧ va_D (va_A [(h0, .inr (1, [.null, .long 0]))] sz) [(u 0, .inr (1, [.ref (u 1), .long 0])), (u 1, .inl (cI, 6, .inl (fun _ => 0)))]) (va_A [(h0, .inr (1, [.null, .long 0]))] sz)) 1 6 (va_A [(h0, .inr (1, [.null, .long 0]))] sz) := by
  refine i_enter (by decide) rfl rfl (Nat.le_of_ble_eq_true rfl) ?_
  intro p e s m below meth c ls F hin hsz hK hP hX hl
  obtain ⟨hx, hb, hr, hml, hown, hts, hlocks⟩ := id F
  subst hsz
  have hD := iD1 (q := (h0, .inr (1, [.null, .long 0]))) (sz := s.heap.size)
  generalize hAe : va_A [(h0, .inr (1, [.null, .long 0]))] s.heap.size = A at hD ⊢
  have hA : ∀ q : Nat, s.heap.size ≤ q → A q := fun q h => by rw [← hAe]; exact Or.inr h
  have hS : va_S A s.heap s.heap [] := va_S.rf
  have hP : va_P D vwCl [(h0, .inr (1, [.null, .long 0]))] s.heap := hP
  have hl : lv_has ls 1 [(0, .ref h0)] := hl
  refine lv_aload_n hx hb dMS_init_0 rfl (lv_at hl 0 rfl) ?_
  refine W.objInit hx hb hown (hts _ k120) (hts _ k45) (hts _ k46) rfl (by rw [hml]; exact hl.1) rfl dMS_init_1 (Nat.le_of_ble_eq_true rfl) (Nat.le_of_ble_eq_true rfl) ?_
  refine W.eq (g2 := F0 m 4 ls []) rfl ?_
  refine lv_aload_n hx hb dMS_init_4 rfl (lv_at hl 0 rfl) ?_
  refine lv_bipush (v := 6) hx hb dMS_init_5 (by decide) ?_
  refine g_newa (atype := .int) (a0 := (6, .inl (fun _ => 0))) hx hb (hts _ k60) rfl hK hP hD hS hA 0 rfl (fun _ h1 h2 => ra_int h1 h2) (fun _ => rfl) (by decide) (by decide +kernel) (by decide +kernel) (Nat.le_of_ble_eq_true rfl) (Nat.le_of_ble_eq_true rfl) dMS_init_7 (fun q1 H hP hD hS => ?_)
  have hP : va_P D vwCl [(h0, .inr (1, [.null, .long 0])), (q1, .inl (cI, 6, .inl (fun _ => 0)))] H := hP
  have hD : va_D A [(h0, .inr (1, [.null, .long 0])), (q1, .inl (cI, 6, .inl (fun _ => 0)))] := hD
  refine va_putF (ci := 1) (v := .ref q1) (ty := .array .int) (C := RMS) (T := TMS) (N := 2) hx hb hts inMS tyMS tyMS_ok nmMS hown hK hP hD hS 0 rfl rfl 0 (by decide) (hts _ k121) (fun _ h9 => h9) rfl hin rfl (by decide +kernel) rfl rfl (Nat.le_of_ble_eq_true rfl) dMS_init_9 (fun H locs hP hD hS => ?_)
  have hP : va_P D vwCl [(h0, .inr (1, [.ref q1, .long 0])), (q1, .inl (cI, 6, .inl (fun _ => 0)))] H := hP
  have hD : va_D A [(h0, .inr (1, [.ref q1, .long 0])), (q1, .inl (cI, 6, .inl (fun _ => 0)))] := hD
  exact i_vret (v := fun k => [h0, q1].getD k 0) hx hb hr hS (fun t ht => ⟨rfl, by rw [ht]; exact hP, hD⟩) hlocks dMS_init_12
def v0C (i : Nat) : CS := ((i, 0, 0, 0, 0), (fun _ => 0, fun _ => 0), (fun _ => 0, fun _ => 0, fun _ => 0, fun _ => 0, fun _ => 0, fun _ => 0, fun _ => 0), (fun _ => 0, fun _ => 0, fun _ => 0, fun _ => 0, 0, 0), (fun _ => 0, 0))
def v0R (i : Nat) : RS := ((i, 0, 0), (fun _ => false, fun _ => false), (iFill 16 0 (fun _ => 0), fun _ => 0, fun _ => false, iFill 1024 0 (fun _ => 0)), (fun _ => 0, fun _ => 0, 0), (0, fun _ => 0), (fun _ => 0, 0))
set_option maxHeartbeats 4000000 in
set_option maxRecDepth 100000 in
theorem c_DB_init (l : Launch) {D : va_G} {cI cL : ClassId} (h0 sz : Nat) (x : Int32) : Met l yDB_init wsDB_init ({ frames := 2, cells := 18, slots := 1527, locals := 32 }) (va_Pc [.ref h0, .int x] (iPre D (tyC cI cL) [(h0, .inr (4, [.int 0, .null, .null, .null, .null, .int 0, .int 0, .int 0, .int 0]))] sz (fun U => va_Nw (Cond.methodLinkNest "DeskBench" (15 : Nat) ({ cls := "DeskBench$Adverts", name := "<init>", desc := "()V" } : Jvm.MethodName) "DeskBench") U ∧ va_Nw (Cond.methodLinkNest "DeskBench" (22 : Nat) ({ cls := "DeskBench$Neighbours", name := "<init>", desc := "()V" } : Jvm.MethodName) "DeskBench") U ∧ va_Nw (Cond.methodLinkNest "DeskBench" (29 : Nat) ({ cls := "DeskBench$ThanksQueue", name := "<init>", desc := "()V" } : Jvm.MethodName) "DeskBench") U ∧ va_Nw (Cond.methodLinkNest "DeskBench" (36 : Nat) ({ cls := "DeskBench$Message", name := "<init>", desc := "()V" } : Jvm.MethodName) "DeskBench") U))) (va_Qv (fun _ : Nat → Nat => True) (fun u t => u 0 = h0 ∧ va_P D vwCl (wC cI cL u (v0C (fItself x))) t.heap ∧ va_D (va_A [(h0, .inr (4, [.int 0, .null, .null, .null, .null, .int 0, .int 0, .int 0, .int 0]))] sz) (wC cI cL u (v0C (fItself x)))) (va_A [(h0, .inr (4, [.int 0, .null, .null, .null, .null, .int 0, .int 0, .int 0, .int 0]))] sz)) 18 1527 (va_A [(h0, .inr (4, [.int 0, .null, .null, .null, .null, .int 0, .int 0, .int 0, .int 0]))] sz) := by
  refine i_enter (by decide) rfl rfl (Nat.le_of_ble_eq_true rfl) ?_
  intro p e s m below meth c ls F hin hsz hK hP hX hl
  obtain ⟨hx, hb, hr, hml, hown, hts, hlocks⟩ := id F
  subst hsz
  have hD := iD1 (q := (h0, .inr (4, [.int 0, .null, .null, .null, .null, .int 0, .int 0, .int 0, .int 0]))) (sz := s.heap.size)
  generalize hAe : va_A [(h0, .inr (4, [.int 0, .null, .null, .null, .null, .int 0, .int 0, .int 0, .int 0]))] s.heap.size = A at hD ⊢
  have hA : ∀ q : Nat, s.heap.size ≤ q → A q := fun q h => by rw [← hAe]; exact Or.inr h
  have hS : va_S A s.heap s.heap [] := va_S.rf
  have hP : va_P D vwCl [(h0, .inr (4, [.int 0, .null, .null, .null, .null, .int 0, .int 0, .int 0, .int 0]))] s.heap := hP
  have hl : lv_has ls 2 [(0, .ref h0), (1, .int x)] := hl
  refine lv_aload_n hx hb dDB_init_0 rfl (lv_at hl 0 rfl) ?_
  refine W.objInit hx hb hown (hts _ k44) (hts _ k45) (hts _ k46) rfl (by rw [hml]; exact hl.1) rfl dDB_init_1 (Nat.le_of_ble_eq_true rfl) (Nat.le_of_ble_eq_true rfl) ?_
  refine W.eq (g2 := F0 m 4 ls []) rfl ?_
  refine lv_aload_n hx hb dDB_init_4 rfl (lv_at hl 0 rfl) ?_
  have key : ∀ z : Int32, z = nI (fItself x) → W p l e ({ frames := 2, cells := 18, slots := 1527, locals := 32 }) s m [.ref h0, .int x].toArray below meth c s.heap [] 0 0 (MQ below (va_Qv (fun _ : Nat → Nat => True) (fun u t => u 0 = h0 ∧ va_P D vwCl (wC cI cL u (v0C (fItself x))) t.heap ∧ va_D A (wC cI cL u (v0C (fItself x)))) A) [.ref h0, .int x].toArray s 18 1527 A) (F0 m 20 ls [.int z, .ref h0]) := by
    intro z hz
    subst hz
    refine va_putF (ci := 4) (v := .int (nI (fItself x))) (ty := .int) (C := RDB) (T := TDB) (N := 9) hx hb hts inDB tyDB tyDB_ok nmDB hown hK hP hD hS 0 rfl rfl 0 (by decide) (hts _ k128) (fun _ h9 => h9) rfl hin rfl (by decide +kernel) rfl rfl (Nat.le_of_ble_eq_true rfl) dDB_init_20 (fun H locs hP hD hS => ?_)
    have hP : va_P D vwCl [(h0, .inr (4, [.int (nI (fItself x)), .null, .null, .null, .null, .int 0, .int 0, .int 0, .int 0]))] H := hP
    have hD : va_D A [(h0, .inr (4, [.int (nI (fItself x)), .null, .null, .null, .null, .int 0, .int 0, .int 0, .int 0]))] := hD
    refine lv_aload_n hx hb dDB_init_23 rfl (lv_at hl 0 rfl) ?_
    refine va_new (ci := 0) (fs := [.null, .null]) (C := RAD) (T := TAD) (N := 2) hx hb hts inAD tyAD tyAD_ok hown (hts _ k47) (hts _ k48) (hts _ k28) hK hP hD hS hA rfl (fun j hj => by rcases (show j = 0 ∨ j = 1 by omega) with rfl | rfl <;> rfl) (Nat.le_of_ble_eq_true rfl) (Nat.le_of_ble_eq_true rfl) dDB_init_24 (fun q1 H hP hD hS => ?_)
    have hP : va_P D vwCl [(h0, .inr (4, [.int (nI (fItself x)), .null, .null, .null, .null, .int 0, .int 0, .int 0, .int 0])), (q1, .inr (0, [.null, .null]))] H := hP
    have hD : va_D A [(h0, .inr (4, [.int (nI (fItself x)), .null, .null, .null, .null, .int 0, .int 0, .int 0, .int 0])), (q1, .inr (0, [.null, .null]))] := hD
    refine lv_dup hx hb dDB_init_27 rfl ?_
    have hPc := hP.sub (ws' := [(q1, .inr (0, [.null, .null]))]) [1] rfl
    have hFc := va_free (wc := [(q1, .inr (0, [.null, .null]))]) hD hS hA [1] rfl
    refine va_callv (va_runIN (As := []) (rest := [.ref q1, .ref h0]) (S := ⟨hx, hb, hml, hown, hts⟩) (c_AD_init l q1 H.size) ⟨va_cnB 0 hts (gw_I k51) rfl rfl rfl (hX.1) (hts _ k28) (by decide +kernel) ⟨Nat.le_of_ble_eq_true rfl, Nat.le_of_ble_eq_true rfl⟩, rfl, hts _ k50⟩ ⟨fun a U g mk q => by obtain ⟨q0, q1, qP, qK, qX⟩ := q; exact ⟨q0, q1, qP, va_K.moved (u := U) (U := U.calling g mk a) (Vm.Alike.refl U.vm) qK, qX⟩, fun U hU hW => ⟨rfl, by rw [hU], by rw [hU]; exact hPc, va_K.moved hW.alike hK, trivial⟩⟩ rfl rfl hl.1 rfl (lv_room (Nat.le_of_ble_eq_true rfl)) dDB_init_28 ⟨Nat.le_of_ble_eq_true rfl, Nat.le_of_ble_eq_true rfl⟩) hS (fun q _ h => hFc q h) hFc (fun u t H1 locs ht hvm _ hB hz1 hk1 hS => ?_)
    obtain ⟨hu0, hP1, hD1⟩ := hB
    rw [ht] at hP1
    obtain ⟨hP, hD⟩ := va_join (wr := [(h0, .inr (4, [.int (nI (fItself x)), .null, .null, .null, .null, .int 0, .int 0, .int 0, .int 0]))]) hP hD [1] [0] rfl rfl (by decide) (by decide) hk1 hFc hP1 hD1
    generalize H1 = H at hP hS ⊢
    generalize u 1 = q2 at hP hD
    generalize u 2 = q3 at hP hD
    rw [hu0] at hP hD
    have hP : va_P D vwCl [(h0, .inr (4, [.int (nI (fItself x)), .null, .null, .null, .null, .int 0, .int 0, .int 0, .int 0])), (q1, .inr (0, [.ref q2, .ref q3])), (q2, .inl (cI, 64, .inl (fun _ => 0))), (q3, .inl (cI, 64, .inl (fun _ => 0)))] H := hP
    have hD : va_D A [(h0, .inr (4, [.int (nI (fItself x)), .null, .null, .null, .null, .int 0, .int 0, .int 0, .int 0])), (q1, .inr (0, [.ref q2, .ref q3])), (q2, .inl (cI, 64, .inl (fun _ => 0))), (q3, .inl (cI, 64, .inl (fun _ => 0)))] := hD
    refine va_putF (ci := 4) (v := .ref q1) (ty := .object "DeskBench$Adverts") (C := RDB) (T := TDB) (N := 9) hx hb hts inDB tyDB tyDB_ok nmDB hown hK hP hD hS 0 rfl rfl 1 (by decide) (hts _ k129) (fun _ h9 => h9) rfl hin rfl (by decide +kernel) rfl rfl (Nat.le_of_ble_eq_true rfl) dDB_init_31 (fun H locs hP hD hS => ?_)
    have hP : va_P D vwCl [(h0, .inr (4, [.int (nI (fItself x)), .ref q1, .null, .null, .null, .int 0, .int 0, .int 0, .int 0])), (q1, .inr (0, [.ref q2, .ref q3])), (q2, .inl (cI, 64, .inl (fun _ => 0))), (q3, .inl (cI, 64, .inl (fun _ => 0)))] H := hP
    have hD : va_D A [(h0, .inr (4, [.int (nI (fItself x)), .ref q1, .null, .null, .null, .int 0, .int 0, .int 0, .int 0])), (q1, .inr (0, [.ref q2, .ref q3])), (q2, .inl (cI, 64, .inl (fun _ => 0))), (q3, .inl (cI, 64, .inl (fun _ => 0)))] := hD
    refine lv_aload_n hx hb dDB_init_34 rfl (lv_at hl 0 rfl) ?_
    refine va_new (ci := 2) (fs := [.null, .null, .null, .null, .null, .null, .null]) (C := RNB) (T := TNB) (N := 7) hx hb hts inNB tyNB tyNB_ok hown (hts _ k61) (hts _ k62) (hts _ k29) hK hP hD hS hA rfl (fun j hj => by rcases (show j = 0 ∨ j = 1 ∨ j = 2 ∨ j = 3 ∨ j = 4 ∨ j = 5 ∨ j = 6 by omega) with rfl | rfl | rfl | rfl | rfl | rfl | rfl <;> rfl) (Nat.le_of_ble_eq_true rfl) (Nat.le_of_ble_eq_true rfl) dDB_init_35 (fun q4 H hP hD hS => ?_)
    have hP : va_P D vwCl [(h0, .inr (4, [.int (nI (fItself x)), .ref q1, .null, .null, .null, .int 0, .int 0, .int 0, .int 0])), (q1, .inr (0, [.ref q2, .ref q3])), (q2, .inl (cI, 64, .inl (fun _ => 0))), (q3, .inl (cI, 64, .inl (fun _ => 0))), (q4, .inr (2, [.null, .null, .null, .null, .null, .null, .null]))] H := hP
    have hD : va_D A [(h0, .inr (4, [.int (nI (fItself x)), .ref q1, .null, .null, .null, .int 0, .int 0, .int 0, .int 0])), (q1, .inr (0, [.ref q2, .ref q3])), (q2, .inl (cI, 64, .inl (fun _ => 0))), (q3, .inl (cI, 64, .inl (fun _ => 0))), (q4, .inr (2, [.null, .null, .null, .null, .null, .null, .null]))] := hD
    refine lv_dup hx hb dDB_init_38 rfl ?_
    have hPc := hP.sub (ws' := [(q4, .inr (2, [.null, .null, .null, .null, .null, .null, .null]))]) [4] rfl
    have hFc := va_free (wc := [(q4, .inr (2, [.null, .null, .null, .null, .null, .null, .null]))]) hD hS hA [4] rfl
    refine va_callv (va_runIN (As := []) (rest := [.ref q4, .ref h0]) (S := ⟨hx, hb, hml, hown, hts⟩) (c_NB_init l q4 H.size) ⟨va_cnB 0 hts (gw_I k65) rfl rfl rfl (hX.2.1) (hts _ k29) (by decide +kernel) ⟨Nat.le_of_ble_eq_true rfl, Nat.le_of_ble_eq_true rfl⟩, rfl, hts _ k64⟩ ⟨fun a U g mk q => by obtain ⟨q0, q1, qP, qK, qX⟩ := q; exact ⟨q0, q1, qP, va_K.moved (u := U) (U := U.calling g mk a) (Vm.Alike.refl U.vm) qK, qX⟩, fun U hU hW => ⟨rfl, by rw [hU], by rw [hU]; exact hPc, va_K.moved hW.alike hK, trivial⟩⟩ rfl rfl hl.1 rfl (lv_room (Nat.le_of_ble_eq_true rfl)) dDB_init_39 ⟨Nat.le_of_ble_eq_true rfl, Nat.le_of_ble_eq_true rfl⟩) hS (fun q _ h => hFc q h) hFc (fun u t H1 locs ht hvm _ hB hz1 hk1 hS => ?_)
    obtain ⟨hu0, hP1, hD1⟩ := hB
    rw [ht] at hP1
    obtain ⟨hP, hD⟩ := va_join (wr := [(h0, .inr (4, [.int (nI (fItself x)), .ref q1, .null, .null, .null, .int 0, .int 0, .int 0, .int 0])), (q1, .inr (0, [.ref q2, .ref q3])), (q2, .inl (cI, 64, .inl (fun _ => 0))), (q3, .inl (cI, 64, .inl (fun _ => 0)))]) hP hD [4] [0, 1, 2, 3] rfl rfl (by decide) (by decide) hk1 hFc hP1 hD1
    generalize H1 = H at hP hS ⊢
    generalize u 1 = q5 at hP hD
    generalize u 2 = q6 at hP hD
    generalize u 3 = q7 at hP hD
    generalize u 4 = q8 at hP hD
    generalize u 5 = q9 at hP hD
    generalize u 6 = q10 at hP hD
    generalize u 7 = q11 at hP hD
    rw [hu0] at hP hD
    have hP : va_P D vwCl [(h0, .inr (4, [.int (nI (fItself x)), .ref q1, .null, .null, .null, .int 0, .int 0, .int 0, .int 0])), (q1, .inr (0, [.ref q2, .ref q3])), (q2, .inl (cI, 64, .inl (fun _ => 0))), (q3, .inl (cI, 64, .inl (fun _ => 0))), (q4, .inr (2, [.ref q5, .ref q6, .ref q7, .ref q8, .ref q9, .ref q10, .ref q11])), (q5, .inl (cI, 16, .inl (fun _ => 0))), (q6, .inl (cI, 16, .inl (fun _ => 0))), (q7, .inl (cI, 16, .inl (fun _ => 0))), (q8, .inl (cI, 16, .inl (fun _ => 0))), (q9, .inl (cL, 16, .inr (.inl (fun _ => 0)))), (q10, .inl (cL, 16, .inr (.inl (fun _ => 0)))), (q11, .inl (cI, 1024, .inl (fun _ => 0)))] H := hP
    have hD : va_D A [(h0, .inr (4, [.int (nI (fItself x)), .ref q1, .null, .null, .null, .int 0, .int 0, .int 0, .int 0])), (q1, .inr (0, [.ref q2, .ref q3])), (q2, .inl (cI, 64, .inl (fun _ => 0))), (q3, .inl (cI, 64, .inl (fun _ => 0))), (q4, .inr (2, [.ref q5, .ref q6, .ref q7, .ref q8, .ref q9, .ref q10, .ref q11])), (q5, .inl (cI, 16, .inl (fun _ => 0))), (q6, .inl (cI, 16, .inl (fun _ => 0))), (q7, .inl (cI, 16, .inl (fun _ => 0))), (q8, .inl (cI, 16, .inl (fun _ => 0))), (q9, .inl (cL, 16, .inr (.inl (fun _ => 0)))), (q10, .inl (cL, 16, .inr (.inl (fun _ => 0)))), (q11, .inl (cI, 1024, .inl (fun _ => 0)))] := hD
    refine va_putF (ci := 4) (v := .ref q4) (ty := .object "DeskBench$Neighbours") (C := RDB) (T := TDB) (N := 9) hx hb hts inDB tyDB tyDB_ok nmDB hown hK hP hD hS 0 rfl rfl 2 (by decide) (hts _ k130) (fun _ h9 => h9) rfl hin rfl (by decide +kernel) rfl rfl (Nat.le_of_ble_eq_true rfl) dDB_init_42 (fun H locs hP hD hS => ?_)
    have hP : va_P D vwCl [(h0, .inr (4, [.int (nI (fItself x)), .ref q1, .ref q4, .null, .null, .int 0, .int 0, .int 0, .int 0])), (q1, .inr (0, [.ref q2, .ref q3])), (q2, .inl (cI, 64, .inl (fun _ => 0))), (q3, .inl (cI, 64, .inl (fun _ => 0))), (q4, .inr (2, [.ref q5, .ref q6, .ref q7, .ref q8, .ref q9, .ref q10, .ref q11])), (q5, .inl (cI, 16, .inl (fun _ => 0))), (q6, .inl (cI, 16, .inl (fun _ => 0))), (q7, .inl (cI, 16, .inl (fun _ => 0))), (q8, .inl (cI, 16, .inl (fun _ => 0))), (q9, .inl (cL, 16, .inr (.inl (fun _ => 0)))), (q10, .inl (cL, 16, .inr (.inl (fun _ => 0)))), (q11, .inl (cI, 1024, .inl (fun _ => 0)))] H := hP
    have hD : va_D A [(h0, .inr (4, [.int (nI (fItself x)), .ref q1, .ref q4, .null, .null, .int 0, .int 0, .int 0, .int 0])), (q1, .inr (0, [.ref q2, .ref q3])), (q2, .inl (cI, 64, .inl (fun _ => 0))), (q3, .inl (cI, 64, .inl (fun _ => 0))), (q4, .inr (2, [.ref q5, .ref q6, .ref q7, .ref q8, .ref q9, .ref q10, .ref q11])), (q5, .inl (cI, 16, .inl (fun _ => 0))), (q6, .inl (cI, 16, .inl (fun _ => 0))), (q7, .inl (cI, 16, .inl (fun _ => 0))), (q8, .inl (cI, 16, .inl (fun _ => 0))), (q9, .inl (cL, 16, .inr (.inl (fun _ => 0)))), (q10, .inl (cL, 16, .inr (.inl (fun _ => 0)))), (q11, .inl (cI, 1024, .inl (fun _ => 0)))] := hD
    refine lv_aload_n hx hb dDB_init_45 rfl (lv_at hl 0 rfl) ?_
    refine va_new (ci := 3) (fs := [.null, .null, .null, .null, .int 0, .int 0]) (C := RTQ) (T := TTQ) (N := 6) hx hb hts inTQ tyTQ tyTQ_ok hown (hts _ k90) (hts _ k91) (hts _ k30) hK hP hD hS hA rfl (fun j hj => by rcases (show j = 0 ∨ j = 1 ∨ j = 2 ∨ j = 3 ∨ j = 4 ∨ j = 5 by omega) with rfl | rfl | rfl | rfl | rfl | rfl <;> rfl) (Nat.le_of_ble_eq_true rfl) (Nat.le_of_ble_eq_true rfl) dDB_init_46 (fun q12 H hP hD hS => ?_)
    have hP : va_P D vwCl [(h0, .inr (4, [.int (nI (fItself x)), .ref q1, .ref q4, .null, .null, .int 0, .int 0, .int 0, .int 0])), (q1, .inr (0, [.ref q2, .ref q3])), (q2, .inl (cI, 64, .inl (fun _ => 0))), (q3, .inl (cI, 64, .inl (fun _ => 0))), (q4, .inr (2, [.ref q5, .ref q6, .ref q7, .ref q8, .ref q9, .ref q10, .ref q11])), (q5, .inl (cI, 16, .inl (fun _ => 0))), (q6, .inl (cI, 16, .inl (fun _ => 0))), (q7, .inl (cI, 16, .inl (fun _ => 0))), (q8, .inl (cI, 16, .inl (fun _ => 0))), (q9, .inl (cL, 16, .inr (.inl (fun _ => 0)))), (q10, .inl (cL, 16, .inr (.inl (fun _ => 0)))), (q11, .inl (cI, 1024, .inl (fun _ => 0))), (q12, .inr (3, [.null, .null, .null, .null, .int 0, .int 0]))] H := hP
    have hD : va_D A [(h0, .inr (4, [.int (nI (fItself x)), .ref q1, .ref q4, .null, .null, .int 0, .int 0, .int 0, .int 0])), (q1, .inr (0, [.ref q2, .ref q3])), (q2, .inl (cI, 64, .inl (fun _ => 0))), (q3, .inl (cI, 64, .inl (fun _ => 0))), (q4, .inr (2, [.ref q5, .ref q6, .ref q7, .ref q8, .ref q9, .ref q10, .ref q11])), (q5, .inl (cI, 16, .inl (fun _ => 0))), (q6, .inl (cI, 16, .inl (fun _ => 0))), (q7, .inl (cI, 16, .inl (fun _ => 0))), (q8, .inl (cI, 16, .inl (fun _ => 0))), (q9, .inl (cL, 16, .inr (.inl (fun _ => 0)))), (q10, .inl (cL, 16, .inr (.inl (fun _ => 0)))), (q11, .inl (cI, 1024, .inl (fun _ => 0))), (q12, .inr (3, [.null, .null, .null, .null, .int 0, .int 0]))] := hD
    refine lv_dup hx hb dDB_init_49 rfl ?_
    have hPc := hP.sub (ws' := [(q12, .inr (3, [.null, .null, .null, .null, .int 0, .int 0]))]) [12] rfl
    have hFc := va_free (wc := [(q12, .inr (3, [.null, .null, .null, .null, .int 0, .int 0]))]) hD hS hA [12] rfl
    refine va_callv (va_runIN (As := []) (rest := [.ref q12, .ref h0]) (S := ⟨hx, hb, hml, hown, hts⟩) (c_TQ_init l q12 H.size) ⟨va_cnB 0 hts (gw_I k94) rfl rfl rfl (hX.2.2.1) (hts _ k30) (by decide +kernel) ⟨Nat.le_of_ble_eq_true rfl, Nat.le_of_ble_eq_true rfl⟩, rfl, hts _ k93⟩ ⟨fun a U g mk q => by obtain ⟨q0, q1, qP, qK, qX⟩ := q; exact ⟨q0, q1, qP, va_K.moved (u := U) (U := U.calling g mk a) (Vm.Alike.refl U.vm) qK, qX⟩, fun U hU hW => ⟨rfl, by rw [hU], by rw [hU]; exact hPc, va_K.moved hW.alike hK, trivial⟩⟩ rfl rfl hl.1 rfl (lv_room (Nat.le_of_ble_eq_true rfl)) dDB_init_50 ⟨Nat.le_of_ble_eq_true rfl, Nat.le_of_ble_eq_true rfl⟩) hS (fun q _ h => hFc q h) hFc (fun u t H1 locs ht hvm _ hB hz1 hk1 hS => ?_)
    obtain ⟨hu0, hP1, hD1⟩ := hB
    rw [ht] at hP1
    obtain ⟨hP, hD⟩ := va_join (wr := [(h0, .inr (4, [.int (nI (fItself x)), .ref q1, .ref q4, .null, .null, .int 0, .int 0, .int 0, .int 0])), (q1, .inr (0, [.ref q2, .ref q3])), (q2, .inl (cI, 64, .inl (fun _ => 0))), (q3, .inl (cI, 64, .inl (fun _ => 0))), (q4, .inr (2, [.ref q5, .ref q6, .ref q7, .ref q8, .ref q9, .ref q10, .ref q11])), (q5, .inl (cI, 16, .inl (fun _ => 0))), (q6, .inl (cI, 16, .inl (fun _ => 0))), (q7, .inl (cI, 16, .inl (fun _ => 0))), (q8, .inl (cI, 16, .inl (fun _ => 0))), (q9, .inl (cL, 16, .inr (.inl (fun _ => 0)))), (q10, .inl (cL, 16, .inr (.inl (fun _ => 0)))), (q11, .inl (cI, 1024, .inl (fun _ => 0)))]) hP hD [12] [0, 1, 2, 3, 4, 5, 6, 7, 8, 9, 10, 11] rfl rfl (by decide) (by decide) hk1 hFc hP1 hD1
    generalize H1 = H at hP hS ⊢
    generalize u 1 = q13 at hP hD
    generalize u 2 = q14 at hP hD
    generalize u 3 = q15 at hP hD
    generalize u 4 = q16 at hP hD
    rw [hu0] at hP hD
    have hP : va_P D vwCl [(h0, .inr (4, [.int (nI (fItself x)), .ref q1, .ref q4, .null, .null, .int 0, .int 0, .int 0, .int 0])), (q1, .inr (0, [.ref q2, .ref q3])), (q2, .inl (cI, 64, .inl (fun _ => 0))), (q3, .inl (cI, 64, .inl (fun _ => 0))), (q4, .inr (2, [.ref q5, .ref q6, .ref q7, .ref q8, .ref q9, .ref q10, .ref q11])), (q5, .inl (cI, 16, .inl (fun _ => 0))), (q6, .inl (cI, 16, .inl (fun _ => 0))), (q7, .inl (cI, 16, .inl (fun _ => 0))), (q8, .inl (cI, 16, .inl (fun _ => 0))), (q9, .inl (cL, 16, .inr (.inl (fun _ => 0)))), (q10, .inl (cL, 16, .inr (.inl (fun _ => 0)))), (q11, .inl (cI, 1024, .inl (fun _ => 0))), (q12, .inr (3, [.ref q13, .ref q14, .ref q15, .ref q16, .int 0, .int 0])), (q13, .inl (cI, 64, .inl (fun _ => 0))), (q14, .inl (cI, 64, .inl (fun _ => 0))), (q15, .inl (cI, 64, .inl (fun _ => 0))), (q16, .inl (cI, 64, .inl (fun _ => 0)))] H := hP
    have hD : va_D A [(h0, .inr (4, [.int (nI (fItself x)), .ref q1, .ref q4, .null, .null, .int 0, .int 0, .int 0, .int 0])), (q1, .inr (0, [.ref q2, .ref q3])), (q2, .inl (cI, 64, .inl (fun _ => 0))), (q3, .inl (cI, 64, .inl (fun _ => 0))), (q4, .inr (2, [.ref q5, .ref q6, .ref q7, .ref q8, .ref q9, .ref q10, .ref q11])), (q5, .inl (cI, 16, .inl (fun _ => 0))), (q6, .inl (cI, 16, .inl (fun _ => 0))), (q7, .inl (cI, 16, .inl (fun _ => 0))), (q8, .inl (cI, 16, .inl (fun _ => 0))), (q9, .inl (cL, 16, .inr (.inl (fun _ => 0)))), (q10, .inl (cL, 16, .inr (.inl (fun _ => 0)))), (q11, .inl (cI, 1024, .inl (fun _ => 0))), (q12, .inr (3, [.ref q13, .ref q14, .ref q15, .ref q16, .int 0, .int 0])), (q13, .inl (cI, 64, .inl (fun _ => 0))), (q14, .inl (cI, 64, .inl (fun _ => 0))), (q15, .inl (cI, 64, .inl (fun _ => 0))), (q16, .inl (cI, 64, .inl (fun _ => 0)))] := hD
    refine va_putF (ci := 4) (v := .ref q12) (ty := .object "DeskBench$ThanksQueue") (C := RDB) (T := TDB) (N := 9) hx hb hts inDB tyDB tyDB_ok nmDB hown hK hP hD hS 0 rfl rfl 3 (by decide) (hts _ k131) (fun _ h9 => h9) rfl hin rfl (by decide +kernel) rfl rfl (Nat.le_of_ble_eq_true rfl) dDB_init_53 (fun H locs hP hD hS => ?_)
    have hP : va_P D vwCl [(h0, .inr (4, [.int (nI (fItself x)), .ref q1, .ref q4, .ref q12, .null, .int 0, .int 0, .int 0, .int 0])), (q1, .inr (0, [.ref q2, .ref q3])), (q2, .inl (cI, 64, .inl (fun _ => 0))), (q3, .inl (cI, 64, .inl (fun _ => 0))), (q4, .inr (2, [.ref q5, .ref q6, .ref q7, .ref q8, .ref q9, .ref q10, .ref q11])), (q5, .inl (cI, 16, .inl (fun _ => 0))), (q6, .inl (cI, 16, .inl (fun _ => 0))), (q7, .inl (cI, 16, .inl (fun _ => 0))), (q8, .inl (cI, 16, .inl (fun _ => 0))), (q9, .inl (cL, 16, .inr (.inl (fun _ => 0)))), (q10, .inl (cL, 16, .inr (.inl (fun _ => 0)))), (q11, .inl (cI, 1024, .inl (fun _ => 0))), (q12, .inr (3, [.ref q13, .ref q14, .ref q15, .ref q16, .int 0, .int 0])), (q13, .inl (cI, 64, .inl (fun _ => 0))), (q14, .inl (cI, 64, .inl (fun _ => 0))), (q15, .inl (cI, 64, .inl (fun _ => 0))), (q16, .inl (cI, 64, .inl (fun _ => 0)))] H := hP
    have hD : va_D A [(h0, .inr (4, [.int (nI (fItself x)), .ref q1, .ref q4, .ref q12, .null, .int 0, .int 0, .int 0, .int 0])), (q1, .inr (0, [.ref q2, .ref q3])), (q2, .inl (cI, 64, .inl (fun _ => 0))), (q3, .inl (cI, 64, .inl (fun _ => 0))), (q4, .inr (2, [.ref q5, .ref q6, .ref q7, .ref q8, .ref q9, .ref q10, .ref q11])), (q5, .inl (cI, 16, .inl (fun _ => 0))), (q6, .inl (cI, 16, .inl (fun _ => 0))), (q7, .inl (cI, 16, .inl (fun _ => 0))), (q8, .inl (cI, 16, .inl (fun _ => 0))), (q9, .inl (cL, 16, .inr (.inl (fun _ => 0)))), (q10, .inl (cL, 16, .inr (.inl (fun _ => 0)))), (q11, .inl (cI, 1024, .inl (fun _ => 0))), (q12, .inr (3, [.ref q13, .ref q14, .ref q15, .ref q16, .int 0, .int 0])), (q13, .inl (cI, 64, .inl (fun _ => 0))), (q14, .inl (cI, 64, .inl (fun _ => 0))), (q15, .inl (cI, 64, .inl (fun _ => 0))), (q16, .inl (cI, 64, .inl (fun _ => 0)))] := hD
    refine lv_aload_n hx hb dDB_init_56 rfl (lv_at hl 0 rfl) ?_
    refine va_new (ci := 1) (fs := [.null, .long 0]) (C := RMS) (T := TMS) (N := 2) hx hb hts inMS tyMS tyMS_ok hown (hts _ k115) (hts _ k116) (hts _ k31) hK hP hD hS hA rfl (fun j hj => by rcases (show j = 0 ∨ j = 1 by omega) with rfl | rfl <;> rfl) (Nat.le_of_ble_eq_true rfl) (Nat.le_of_ble_eq_true rfl) dDB_init_57 (fun q17 H hP hD hS => ?_)
    have hP : va_P D vwCl [(h0, .inr (4, [.int (nI (fItself x)), .ref q1, .ref q4, .ref q12, .null, .int 0, .int 0, .int 0, .int 0])), (q1, .inr (0, [.ref q2, .ref q3])), (q2, .inl (cI, 64, .inl (fun _ => 0))), (q3, .inl (cI, 64, .inl (fun _ => 0))), (q4, .inr (2, [.ref q5, .ref q6, .ref q7, .ref q8, .ref q9, .ref q10, .ref q11])), (q5, .inl (cI, 16, .inl (fun _ => 0))), (q6, .inl (cI, 16, .inl (fun _ => 0))), (q7, .inl (cI, 16, .inl (fun _ => 0))), (q8, .inl (cI, 16, .inl (fun _ => 0))), (q9, .inl (cL, 16, .inr (.inl (fun _ => 0)))), (q10, .inl (cL, 16, .inr (.inl (fun _ => 0)))), (q11, .inl (cI, 1024, .inl (fun _ => 0))), (q12, .inr (3, [.ref q13, .ref q14, .ref q15, .ref q16, .int 0, .int 0])), (q13, .inl (cI, 64, .inl (fun _ => 0))), (q14, .inl (cI, 64, .inl (fun _ => 0))), (q15, .inl (cI, 64, .inl (fun _ => 0))), (q16, .inl (cI, 64, .inl (fun _ => 0))), (q17, .inr (1, [.null, .long 0]))] H := hP
    have hD : va_D A [(h0, .inr (4, [.int (nI (fItself x)), .ref q1, .ref q4, .ref q12, .null, .int 0, .int 0, .int 0, .int 0])), (q1, .inr (0, [.ref q2, .ref q3])), (q2, .inl (cI, 64, .inl (fun _ => 0))), (q3, .inl (cI, 64, .inl (fun _ => 0))), (q4, .inr (2, [.ref q5, .ref q6, .ref q7, .ref q8, .ref q9, .ref q10, .ref q11])), (q5, .inl (cI, 16, .inl (fun _ => 0))), (q6, .inl (cI, 16, .inl (fun _ => 0))), (q7, .inl (cI, 16, .inl (fun _ => 0))), (q8, .inl (cI, 16, .inl (fun _ => 0))), (q9, .inl (cL, 16, .inr (.inl (fun _ => 0)))), (q10, .inl (cL, 16, .inr (.inl (fun _ => 0)))), (q11, .inl (cI, 1024, .inl (fun _ => 0))), (q12, .inr (3, [.ref q13, .ref q14, .ref q15, .ref q16, .int 0, .int 0])), (q13, .inl (cI, 64, .inl (fun _ => 0))), (q14, .inl (cI, 64, .inl (fun _ => 0))), (q15, .inl (cI, 64, .inl (fun _ => 0))), (q16, .inl (cI, 64, .inl (fun _ => 0))), (q17, .inr (1, [.null, .long 0]))] := hD
    refine lv_dup hx hb dDB_init_60 rfl ?_
    have hPc := hP.sub (ws' := [(q17, .inr (1, [.null, .long 0]))]) [17] rfl
    have hFc := va_free (wc := [(q17, .inr (1, [.null, .long 0]))]) hD hS hA [17] rfl
    refine va_callv (va_runIN (As := []) (rest := [.ref q17, .ref h0]) (S := ⟨hx, hb, hml, hown, hts⟩) (c_MS_init l q17 H.size) ⟨va_cnB 0 hts (gw_I k119) rfl rfl rfl (hX.2.2.2) (hts _ k31) (by decide +kernel) ⟨Nat.le_of_ble_eq_true rfl, Nat.le_of_ble_eq_true rfl⟩, rfl, hts _ k118⟩ ⟨fun a U g mk q => by obtain ⟨q0, q1, qP, qK, qX⟩ := q; exact ⟨q0, q1, qP, va_K.moved (u := U) (U := U.calling g mk a) (Vm.Alike.refl U.vm) qK, qX⟩, fun U hU hW => ⟨rfl, by rw [hU], by rw [hU]; exact hPc, va_K.moved hW.alike hK, trivial⟩⟩ rfl rfl hl.1 rfl (lv_room (Nat.le_of_ble_eq_true rfl)) dDB_init_61 ⟨Nat.le_of_ble_eq_true rfl, Nat.le_of_ble_eq_true rfl⟩) hS (fun q _ h => hFc q h) hFc (fun u t H1 locs ht hvm _ hB hz1 hk1 hS => ?_)
    obtain ⟨hu0, hP1, hD1⟩ := hB
    rw [ht] at hP1
    obtain ⟨hP, hD⟩ := va_join (wr := [(h0, .inr (4, [.int (nI (fItself x)), .ref q1, .ref q4, .ref q12, .null, .int 0, .int 0, .int 0, .int 0])), (q1, .inr (0, [.ref q2, .ref q3])), (q2, .inl (cI, 64, .inl (fun _ => 0))), (q3, .inl (cI, 64, .inl (fun _ => 0))), (q4, .inr (2, [.ref q5, .ref q6, .ref q7, .ref q8, .ref q9, .ref q10, .ref q11])), (q5, .inl (cI, 16, .inl (fun _ => 0))), (q6, .inl (cI, 16, .inl (fun _ => 0))), (q7, .inl (cI, 16, .inl (fun _ => 0))), (q8, .inl (cI, 16, .inl (fun _ => 0))), (q9, .inl (cL, 16, .inr (.inl (fun _ => 0)))), (q10, .inl (cL, 16, .inr (.inl (fun _ => 0)))), (q11, .inl (cI, 1024, .inl (fun _ => 0))), (q12, .inr (3, [.ref q13, .ref q14, .ref q15, .ref q16, .int 0, .int 0])), (q13, .inl (cI, 64, .inl (fun _ => 0))), (q14, .inl (cI, 64, .inl (fun _ => 0))), (q15, .inl (cI, 64, .inl (fun _ => 0))), (q16, .inl (cI, 64, .inl (fun _ => 0)))]) hP hD [17] [0, 1, 2, 3, 4, 5, 6, 7, 8, 9, 10, 11, 12, 13, 14, 15, 16] rfl rfl (by decide) (by decide) hk1 hFc hP1 hD1
    generalize H1 = H at hP hS ⊢
    generalize u 1 = q18 at hP hD
    rw [hu0] at hP hD
    have hP : va_P D vwCl [(h0, .inr (4, [.int (nI (fItself x)), .ref q1, .ref q4, .ref q12, .null, .int 0, .int 0, .int 0, .int 0])), (q1, .inr (0, [.ref q2, .ref q3])), (q2, .inl (cI, 64, .inl (fun _ => 0))), (q3, .inl (cI, 64, .inl (fun _ => 0))), (q4, .inr (2, [.ref q5, .ref q6, .ref q7, .ref q8, .ref q9, .ref q10, .ref q11])), (q5, .inl (cI, 16, .inl (fun _ => 0))), (q6, .inl (cI, 16, .inl (fun _ => 0))), (q7, .inl (cI, 16, .inl (fun _ => 0))), (q8, .inl (cI, 16, .inl (fun _ => 0))), (q9, .inl (cL, 16, .inr (.inl (fun _ => 0)))), (q10, .inl (cL, 16, .inr (.inl (fun _ => 0)))), (q11, .inl (cI, 1024, .inl (fun _ => 0))), (q12, .inr (3, [.ref q13, .ref q14, .ref q15, .ref q16, .int 0, .int 0])), (q13, .inl (cI, 64, .inl (fun _ => 0))), (q14, .inl (cI, 64, .inl (fun _ => 0))), (q15, .inl (cI, 64, .inl (fun _ => 0))), (q16, .inl (cI, 64, .inl (fun _ => 0))), (q17, .inr (1, [.ref q18, .long 0])), (q18, .inl (cI, 6, .inl (fun _ => 0)))] H := hP
    have hD : va_D A [(h0, .inr (4, [.int (nI (fItself x)), .ref q1, .ref q4, .ref q12, .null, .int 0, .int 0, .int 0, .int 0])), (q1, .inr (0, [.ref q2, .ref q3])), (q2, .inl (cI, 64, .inl (fun _ => 0))), (q3, .inl (cI, 64, .inl (fun _ => 0))), (q4, .inr (2, [.ref q5, .ref q6, .ref q7, .ref q8, .ref q9, .ref q10, .ref q11])), (q5, .inl (cI, 16, .inl (fun _ => 0))), (q6, .inl (cI, 16, .inl (fun _ => 0))), (q7, .inl (cI, 16, .inl (fun _ => 0))), (q8, .inl (cI, 16, .inl (fun _ => 0))), (q9, .inl (cL, 16, .inr (.inl (fun _ => 0)))), (q10, .inl (cL, 16, .inr (.inl (fun _ => 0)))), (q11, .inl (cI, 1024, .inl (fun _ => 0))), (q12, .inr (3, [.ref q13, .ref q14, .ref q15, .ref q16, .int 0, .int 0])), (q13, .inl (cI, 64, .inl (fun _ => 0))), (q14, .inl (cI, 64, .inl (fun _ => 0))), (q15, .inl (cI, 64, .inl (fun _ => 0))), (q16, .inl (cI, 64, .inl (fun _ => 0))), (q17, .inr (1, [.ref q18, .long 0])), (q18, .inl (cI, 6, .inl (fun _ => 0)))] := hD
    refine va_putF (ci := 4) (v := .ref q17) (ty := .object "DeskBench$Message") (C := RDB) (T := TDB) (N := 9) hx hb hts inDB tyDB tyDB_ok nmDB hown hK hP hD hS 0 rfl rfl 4 (by decide) (hts _ k132) (fun _ h9 => h9) rfl hin rfl (by decide +kernel) rfl rfl (Nat.le_of_ble_eq_true rfl) dDB_init_64 (fun H locs hP hD hS => ?_)
    have hP : va_P D vwCl [(h0, .inr (4, [.int (nI (fItself x)), .ref q1, .ref q4, .ref q12, .ref q17, .int 0, .int 0, .int 0, .int 0])), (q1, .inr (0, [.ref q2, .ref q3])), (q2, .inl (cI, 64, .inl (fun _ => 0))), (q3, .inl (cI, 64, .inl (fun _ => 0))), (q4, .inr (2, [.ref q5, .ref q6, .ref q7, .ref q8, .ref q9, .ref q10, .ref q11])), (q5, .inl (cI, 16, .inl (fun _ => 0))), (q6, .inl (cI, 16, .inl (fun _ => 0))), (q7, .inl (cI, 16, .inl (fun _ => 0))), (q8, .inl (cI, 16, .inl (fun _ => 0))), (q9, .inl (cL, 16, .inr (.inl (fun _ => 0)))), (q10, .inl (cL, 16, .inr (.inl (fun _ => 0)))), (q11, .inl (cI, 1024, .inl (fun _ => 0))), (q12, .inr (3, [.ref q13, .ref q14, .ref q15, .ref q16, .int 0, .int 0])), (q13, .inl (cI, 64, .inl (fun _ => 0))), (q14, .inl (cI, 64, .inl (fun _ => 0))), (q15, .inl (cI, 64, .inl (fun _ => 0))), (q16, .inl (cI, 64, .inl (fun _ => 0))), (q17, .inr (1, [.ref q18, .long 0])), (q18, .inl (cI, 6, .inl (fun _ => 0)))] H := hP
    have hD : va_D A [(h0, .inr (4, [.int (nI (fItself x)), .ref q1, .ref q4, .ref q12, .ref q17, .int 0, .int 0, .int 0, .int 0])), (q1, .inr (0, [.ref q2, .ref q3])), (q2, .inl (cI, 64, .inl (fun _ => 0))), (q3, .inl (cI, 64, .inl (fun _ => 0))), (q4, .inr (2, [.ref q5, .ref q6, .ref q7, .ref q8, .ref q9, .ref q10, .ref q11])), (q5, .inl (cI, 16, .inl (fun _ => 0))), (q6, .inl (cI, 16, .inl (fun _ => 0))), (q7, .inl (cI, 16, .inl (fun _ => 0))), (q8, .inl (cI, 16, .inl (fun _ => 0))), (q9, .inl (cL, 16, .inr (.inl (fun _ => 0)))), (q10, .inl (cL, 16, .inr (.inl (fun _ => 0)))), (q11, .inl (cI, 1024, .inl (fun _ => 0))), (q12, .inr (3, [.ref q13, .ref q14, .ref q15, .ref q16, .int 0, .int 0])), (q13, .inl (cI, 64, .inl (fun _ => 0))), (q14, .inl (cI, 64, .inl (fun _ => 0))), (q15, .inl (cI, 64, .inl (fun _ => 0))), (q16, .inl (cI, 64, .inl (fun _ => 0))), (q17, .inr (1, [.ref q18, .long 0])), (q18, .inl (cI, 6, .inl (fun _ => 0)))] := hD
    exact i_vret (v := fun k => [h0, q1, q2, q3, q4, q5, q6, q7, q8, q9, q10, q11, q12, q13, q14, q15, q16, q17, q18].getD k 0) hx hb hr hS (fun t ht => ⟨rfl, by rw [ht]; exact hP, hD⟩) hlocks dDB_init_67
  refine lv_iload_n hx hb dDB_init_5 rfl (lv_at hl 1 rfl) ?_
  refine lv_if_lt hx hb (tgt := 19) dDB_init_6 (by decide) (fun c1 => ?_) (fun c1 => ?_)
  · refine lv_iconst (v := 0) hx hb dDB_init_19 (by decide) ?_
    exact key 0 (by unfold fItself; rw [if_pos c1]; rfl)
  · refine lv_iload_n hx hb dDB_init_9 rfl (lv_at hl 1 rfl) ?_
    refine lv_bipush (v := 64) hx hb dDB_init_10 (by decide) ?_
    refine lv_icmp_ge hx hb (tgt := 19) dDB_init_12 (by decide) (fun c2 => ?_) (fun c2 => ?_)
    · refine lv_iconst (v := 0) hx hb dDB_init_19 (by decide) ?_
      exact key 0 (by unfold fItself; rw [if_neg c1, if_neg (fun h3 => by rw [Int32.lt_iff_toInt_lt] at h3; rw [Int32.le_iff_toInt_le] at c2; omega)]; rfl)
    · refine lv_iload_n hx hb dDB_init_15 rfl (lv_at hl 1 rfl) ?_
      refine lv_goto hx hb (tgt := 20) dDB_init_16 (by decide) ?_
      exact key x (by unfold fItself; rw [if_neg c1, if_pos (by rw [Int32.lt_iff_toInt_lt]; rw [Int32.le_iff_toInt_le] at c2; omega)]; exact (nI_cl (by rw [Int32.le_iff_toInt_le]; rw [Int32.lt_iff_toInt_lt] at c1; omega)).symm)
theorem i63 {x : Int32} (h : x ≤ 63) : x < 64 := by
  rw [Int32.le_iff_toInt_le] at h; rw [Int32.lt_iff_toInt_lt]; have h1 : (63 : Int32).toInt = 63 := by decide
  have h2 : (64 : Int32).toInt = 64 := by decide
  omega
theorem i63n {x : Int32} (h : x < 64) : x ≤ 63 := by
  rw [Int32.lt_iff_toInt_lt] at h; rw [Int32.le_iff_toInt_le]; have h1 : (63 : Int32).toInt = 63 := by decide
  have h2 : (64 : Int32).toInt = 64 := by decide
  omega
set_option maxHeartbeats 4000000 in
set_option maxRecDepth 100000 in
theorem c_RM_init (l : Launch) {D : va_G} {cI cZ : ClassId} (h0 sz : Nat) (x : Int32) : Met l yRM_init wsRM_init ({ frames := 1, cells := 10, slots := 1482, locals := 12 }) (va_Pc [.ref h0, .int x] (iPre D (tyR cI cZ) [(h0, .inr (5, [.int 0, .int 0, .int 0, .null, .null, .null, .null, .null, .null, .null, .null, .int 0, .int 0, .null, .null, .long 0]))] sz (fun _ => True))) (va_Qv (fun _ : Nat → Nat => True) (fun u t => u 0 = h0 ∧ va_P D vwCl (wR cI cZ u (v0R (fItself x))) t.heap ∧ va_D (va_A [(h0, .inr (5, [.int 0, .int 0, .int 0, .null, .null, .null, .null, .null, .null, .null, .null, .int 0, .int 0, .null, .null, .long 0]))] sz) (wR cI cZ u (v0R (fItself x)))) (va_A [(h0, .inr (5, [.int 0, .int 0, .int 0, .null, .null, .null, .null, .null, .null, .null, .null, .int 0, .int 0, .null, .null, .long 0]))] sz)) 10 1482 (va_A [(h0, .inr (5, [.int 0, .int 0, .int 0, .null, .null, .null, .null, .null, .null, .null, .null, .int 0, .int 0, .null, .null, .long 0]))] sz) := by
  refine i_enter (by decide) rfl rfl (Nat.le_of_ble_eq_true rfl) ?_
  intro p e s m below meth c ls F hin hsz hK hP hX hl
  obtain ⟨hx, hb, hr, hml, hown, hts, hlocks⟩ := id F
  subst hsz
  have hD := iD1 (q := (h0, .inr (5, [.int 0, .int 0, .int 0, .null, .null, .null, .null, .null, .null, .null, .null, .int 0, .int 0, .null, .null, .long 0]))) (sz := s.heap.size)
  generalize hAe : va_A [(h0, .inr (5, [.int 0, .int 0, .int 0, .null, .null, .null, .null, .null, .null, .null, .null, .int 0, .int 0, .null, .null, .long 0]))] s.heap.size = A at hD ⊢
  have hA : ∀ q : Nat, s.heap.size ≤ q → A q := fun q h => by rw [← hAe]; exact Or.inr h
  have hS : va_S A s.heap s.heap [] := va_S.rf
  have hP : va_P D vwCl [(h0, .inr (5, [.int 0, .int 0, .int 0, .null, .null, .null, .null, .null, .null, .null, .null, .int 0, .int 0, .null, .null, .long 0]))] s.heap := hP
  have hl : lv_has ls 3 [(0, .ref h0), (1, .int x)] := hl
  refine lv_aload_n hx hb dRM_init_0 rfl (lv_at hl 0 rfl) ?_
  refine W.objInit hx hb hown (hts _ k574) (hts _ k45) (hts _ k46) rfl (by rw [hml]; exact hl.1) rfl dRM_init_1 (Nat.le_of_ble_eq_true rfl) (Nat.le_of_ble_eq_true rfl) ?_
  refine W.eq (g2 := F0 m 4 ls []) rfl ?_
  refine lv_aload_n hx hb dRM_init_4 rfl (lv_at hl 0 rfl) ?_
  refine lv_bipush (v := 8) hx hb dRM_init_5 (by decide) ?_
  refine g_newa (atype := .boolean) (a0 := (8, .inl (fun _ => 0))) hx hb (hts _ k624) rfl hK hP hD hS hA 1 rfl (fun _ h1 h2 => ra_bool h1 h2) (fun _ => rfl) (by decide) (by decide +kernel) (by decide +kernel) (Nat.le_of_ble_eq_true rfl) (Nat.le_of_ble_eq_true rfl) dRM_init_7 (fun q1 H hP hD hS => ?_)
  have hP : va_P D vwCl [(h0, .inr (5, [.int 0, .int 0, .int 0, .null, .null, .null, .null, .null, .null, .null, .null, .int 0, .int 0, .null, .null, .long 0])), (q1, .inl (cZ, 8, .inl (fun _ => 0)))] H := hP
  have hD : va_D A [(h0, .inr (5, [.int 0, .int 0, .int 0, .null, .null, .null, .null, .null, .null, .null, .null, .int 0, .int 0, .null, .null, .long 0])), (q1, .inl (cZ, 8, .inl (fun _ => 0)))] := hD
  refine va_putF (ci := 5) (v := .ref q1) (ty := .array .boolean) (C := RRM) (T := TRM) (N := 16) hx hb hts inRM tyRM tyRM_ok nmRM hown hK hP hD hS 0 rfl rfl 3 (by decide) (hts _ k578) (fun _ h9 => h9) rfl hin rfl (by decide +kernel) rfl rfl (Nat.le_of_ble_eq_true rfl) dRM_init_9 (fun H locs hP hD hS => ?_)
  have hP : va_P D vwCl [(h0, .inr (5, [.int 0, .int 0, .int 0, .ref q1, .null, .null, .null, .null, .null, .null, .null, .int 0, .int 0, .null, .null, .long 0])), (q1, .inl (cZ, 8, .inl (fun _ => 0)))] H := hP
  have hD : va_D A [(h0, .inr (5, [.int 0, .int 0, .int 0, .ref q1, .null, .null, .null, .null, .null, .null, .null, .int 0, .int 0, .null, .null, .long 0])), (q1, .inl (cZ, 8, .inl (fun _ => 0)))] := hD
  refine lv_aload_n hx hb dRM_init_12 rfl (lv_at hl 0 rfl) ?_
  refine lv_bipush (v := 8) hx hb dRM_init_13 (by decide) ?_
  refine g_newa (atype := .boolean) (a0 := (8, .inl (fun _ => 0))) hx hb (hts _ k624) rfl hK hP hD hS hA 1 rfl (fun _ h1 h2 => ra_bool h1 h2) (fun _ => rfl) (by decide) (by decide +kernel) (by decide +kernel) (Nat.le_of_ble_eq_true rfl) (Nat.le_of_ble_eq_true rfl) dRM_init_15 (fun q2 H hP hD hS => ?_)
  have hP : va_P D vwCl [(h0, .inr (5, [.int 0, .int 0, .int 0, .ref q1, .null, .null, .null, .null, .null, .null, .null, .int 0, .int 0, .null, .null, .long 0])), (q1, .inl (cZ, 8, .inl (fun _ => 0))), (q2, .inl (cZ, 8, .inl (fun _ => 0)))] H := hP
  have hD : va_D A [(h0, .inr (5, [.int 0, .int 0, .int 0, .ref q1, .null, .null, .null, .null, .null, .null, .null, .int 0, .int 0, .null, .null, .long 0])), (q1, .inl (cZ, 8, .inl (fun _ => 0))), (q2, .inl (cZ, 8, .inl (fun _ => 0)))] := hD
  refine va_putF (ci := 5) (v := .ref q2) (ty := .array .boolean) (C := RRM) (T := TRM) (N := 16) hx hb hts inRM tyRM tyRM_ok nmRM hown hK hP hD hS 0 rfl rfl 4 (by decide) (hts _ k579) (fun _ h9 => h9) rfl hin rfl (by decide +kernel) rfl rfl (Nat.le_of_ble_eq_true rfl) dRM_init_17 (fun H locs hP hD hS => ?_)
  have hP : va_P D vwCl [(h0, .inr (5, [.int 0, .int 0, .int 0, .ref q1, .ref q2, .null, .null, .null, .null, .null, .null, .int 0, .int 0, .null, .null, .long 0])), (q1, .inl (cZ, 8, .inl (fun _ => 0))), (q2, .inl (cZ, 8, .inl (fun _ => 0)))] H := hP
  have hD : va_D A [(h0, .inr (5, [.int 0, .int 0, .int 0, .ref q1, .ref q2, .null, .null, .null, .null, .null, .null, .int 0, .int 0, .null, .null, .long 0])), (q1, .inl (cZ, 8, .inl (fun _ => 0))), (q2, .inl (cZ, 8, .inl (fun _ => 0)))] := hD
  refine lv_aload_n hx hb dRM_init_20 rfl (lv_at hl 0 rfl) ?_
  refine lv_bipush (v := 16) hx hb dRM_init_21 (by decide) ?_
  refine g_newa (atype := .int) (a0 := (16, .inl (fun _ => 0))) hx hb (hts _ k60) rfl hK hP hD hS hA 0 rfl (fun _ h1 h2 => ra_int h1 h2) (fun _ => rfl) (by decide) (by decide +kernel) (by decide +kernel) (Nat.le_of_ble_eq_true rfl) (Nat.le_of_ble_eq_true rfl) dRM_init_23 (fun q3 H hP hD hS => ?_)
  have hP : va_P D vwCl [(h0, .inr (5, [.int 0, .int 0, .int 0, .ref q1, .ref q2, .null, .null, .null, .null, .null, .null, .int 0, .int 0, .null, .null, .long 0])), (q1, .inl (cZ, 8, .inl (fun _ => 0))), (q2, .inl (cZ, 8, .inl (fun _ => 0))), (q3, .inl (cI, 16, .inl (fun _ => 0)))] H := hP
  have hD : va_D A [(h0, .inr (5, [.int 0, .int 0, .int 0, .ref q1, .ref q2, .null, .null, .null, .null, .null, .null, .int 0, .int 0, .null, .null, .long 0])), (q1, .inl (cZ, 8, .inl (fun _ => 0))), (q2, .inl (cZ, 8, .inl (fun _ => 0))), (q3, .inl (cI, 16, .inl (fun _ => 0)))] := hD
  refine va_putF (ci := 5) (v := .ref q3) (ty := .array .int) (C := RRM) (T := TRM) (N := 16) hx hb hts inRM tyRM tyRM_ok nmRM hown hK hP hD hS 0 rfl rfl 5 (by decide) (hts _ k580) (fun _ h9 => h9) rfl hin rfl (by decide +kernel) rfl rfl (Nat.le_of_ble_eq_true rfl) dRM_init_25 (fun H locs hP hD hS => ?_)
  have hP : va_P D vwCl [(h0, .inr (5, [.int 0, .int 0, .int 0, .ref q1, .ref q2, .ref q3, .null, .null, .null, .null, .null, .int 0, .int 0, .null, .null, .long 0])), (q1, .inl (cZ, 8, .inl (fun _ => 0))), (q2, .inl (cZ, 8, .inl (fun _ => 0))), (q3, .inl (cI, 16, .inl (fun _ => 0)))] H := hP
  have hD : va_D A [(h0, .inr (5, [.int 0, .int 0, .int 0, .ref q1, .ref q2, .ref q3, .null, .null, .null, .null, .null, .int 0, .int 0, .null, .null, .long 0])), (q1, .inl (cZ, 8, .inl (fun _ => 0))), (q2, .inl (cZ, 8, .inl (fun _ => 0))), (q3, .inl (cI, 16, .inl (fun _ => 0)))] := hD
  refine lv_aload_n hx hb dRM_init_28 rfl (lv_at hl 0 rfl) ?_
  refine lv_bipush (v := 16) hx hb dRM_init_29 (by decide) ?_
  refine g_newa (atype := .int) (a0 := (16, .inl (fun _ => 0))) hx hb (hts _ k60) rfl hK hP hD hS hA 0 rfl (fun _ h1 h2 => ra_int h1 h2) (fun _ => rfl) (by decide) (by decide +kernel) (by decide +kernel) (Nat.le_of_ble_eq_true rfl) (Nat.le_of_ble_eq_true rfl) dRM_init_31 (fun q4 H hP hD hS => ?_)
  have hP : va_P D vwCl [(h0, .inr (5, [.int 0, .int 0, .int 0, .ref q1, .ref q2, .ref q3, .null, .null, .null, .null, .null, .int 0, .int 0, .null, .null, .long 0])), (q1, .inl (cZ, 8, .inl (fun _ => 0))), (q2, .inl (cZ, 8, .inl (fun _ => 0))), (q3, .inl (cI, 16, .inl (fun _ => 0))), (q4, .inl (cI, 16, .inl (fun _ => 0)))] H := hP
  have hD : va_D A [(h0, .inr (5, [.int 0, .int 0, .int 0, .ref q1, .ref q2, .ref q3, .null, .null, .null, .null, .null, .int 0, .int 0, .null, .null, .long 0])), (q1, .inl (cZ, 8, .inl (fun _ => 0))), (q2, .inl (cZ, 8, .inl (fun _ => 0))), (q3, .inl (cI, 16, .inl (fun _ => 0))), (q4, .inl (cI, 16, .inl (fun _ => 0)))] := hD
  refine va_putF (ci := 5) (v := .ref q4) (ty := .array .int) (C := RRM) (T := TRM) (N := 16) hx hb hts inRM tyRM tyRM_ok nmRM hown hK hP hD hS 0 rfl rfl 6 (by decide) (hts _ k581) (fun _ h9 => h9) rfl hin rfl (by decide +kernel) rfl rfl (Nat.le_of_ble_eq_true rfl) dRM_init_33 (fun H locs hP hD hS => ?_)
  have hP : va_P D vwCl [(h0, .inr (5, [.int 0, .int 0, .int 0, .ref q1, .ref q2, .ref q3, .ref q4, .null, .null, .null, .null, .int 0, .int 0, .null, .null, .long 0])), (q1, .inl (cZ, 8, .inl (fun _ => 0))), (q2, .inl (cZ, 8, .inl (fun _ => 0))), (q3, .inl (cI, 16, .inl (fun _ => 0))), (q4, .inl (cI, 16, .inl (fun _ => 0)))] H := hP
  have hD : va_D A [(h0, .inr (5, [.int 0, .int 0, .int 0, .ref q1, .ref q2, .ref q3, .ref q4, .null, .null, .null, .null, .int 0, .int 0, .null, .null, .long 0])), (q1, .inl (cZ, 8, .inl (fun _ => 0))), (q2, .inl (cZ, 8, .inl (fun _ => 0))), (q3, .inl (cI, 16, .inl (fun _ => 0))), (q4, .inl (cI, 16, .inl (fun _ => 0)))] := hD
  refine lv_aload_n hx hb dRM_init_36 rfl (lv_at hl 0 rfl) ?_
  refine lv_bipush (v := 16) hx hb dRM_init_37 (by decide) ?_
  refine g_newa (atype := .boolean) (a0 := (16, .inl (fun _ => 0))) hx hb (hts _ k624) rfl hK hP hD hS hA 1 rfl (fun _ h1 h2 => ra_bool h1 h2) (fun _ => rfl) (by decide) (by decide +kernel) (by decide +kernel) (Nat.le_of_ble_eq_true rfl) (Nat.le_of_ble_eq_true rfl) dRM_init_39 (fun q5 H hP hD hS => ?_)
  have hP : va_P D vwCl [(h0, .inr (5, [.int 0, .int 0, .int 0, .ref q1, .ref q2, .ref q3, .ref q4, .null, .null, .null, .null, .int 0, .int 0, .null, .null, .long 0])), (q1, .inl (cZ, 8, .inl (fun _ => 0))), (q2, .inl (cZ, 8, .inl (fun _ => 0))), (q3, .inl (cI, 16, .inl (fun _ => 0))), (q4, .inl (cI, 16, .inl (fun _ => 0))), (q5, .inl (cZ, 16, .inl (fun _ => 0)))] H := hP
  have hD : va_D A [(h0, .inr (5, [.int 0, .int 0, .int 0, .ref q1, .ref q2, .ref q3, .ref q4, .null, .null, .null, .null, .int 0, .int 0, .null, .null, .long 0])), (q1, .inl (cZ, 8, .inl (fun _ => 0))), (q2, .inl (cZ, 8, .inl (fun _ => 0))), (q3, .inl (cI, 16, .inl (fun _ => 0))), (q4, .inl (cI, 16, .inl (fun _ => 0))), (q5, .inl (cZ, 16, .inl (fun _ => 0)))] := hD
  refine va_putF (ci := 5) (v := .ref q5) (ty := .array .boolean) (C := RRM) (T := TRM) (N := 16) hx hb hts inRM tyRM tyRM_ok nmRM hown hK hP hD hS 0 rfl rfl 7 (by decide) (hts _ k582) (fun _ h9 => h9) rfl hin rfl (by decide +kernel) rfl rfl (Nat.le_of_ble_eq_true rfl) dRM_init_41 (fun H locs hP hD hS => ?_)
  have hP : va_P D vwCl [(h0, .inr (5, [.int 0, .int 0, .int 0, .ref q1, .ref q2, .ref q3, .ref q4, .ref q5, .null, .null, .null, .int 0, .int 0, .null, .null, .long 0])), (q1, .inl (cZ, 8, .inl (fun _ => 0))), (q2, .inl (cZ, 8, .inl (fun _ => 0))), (q3, .inl (cI, 16, .inl (fun _ => 0))), (q4, .inl (cI, 16, .inl (fun _ => 0))), (q5, .inl (cZ, 16, .inl (fun _ => 0)))] H := hP
  have hD : va_D A [(h0, .inr (5, [.int 0, .int 0, .int 0, .ref q1, .ref q2, .ref q3, .ref q4, .ref q5, .null, .null, .null, .int 0, .int 0, .null, .null, .long 0])), (q1, .inl (cZ, 8, .inl (fun _ => 0))), (q2, .inl (cZ, 8, .inl (fun _ => 0))), (q3, .inl (cI, 16, .inl (fun _ => 0))), (q4, .inl (cI, 16, .inl (fun _ => 0))), (q5, .inl (cZ, 16, .inl (fun _ => 0)))] := hD
  refine lv_aload_n hx hb dRM_init_44 rfl (lv_at hl 0 rfl) ?_
  refine lv_sipush (v := 1024) hx hb dRM_init_45 (by decide) ?_
  refine g_newa (atype := .int) (a0 := (1024, .inl (fun _ => 0))) hx hb (hts _ k60) rfl hK hP hD hS hA 0 rfl (fun _ h1 h2 => ra_int h1 h2) (fun _ => rfl) (by decide) (by decide +kernel) (by decide +kernel) (Nat.le_of_ble_eq_true rfl) (Nat.le_of_ble_eq_true rfl) dRM_init_48 (fun q6 H hP hD hS => ?_)
  have hP : va_P D vwCl [(h0, .inr (5, [.int 0, .int 0, .int 0, .ref q1, .ref q2, .ref q3, .ref q4, .ref q5, .null, .null, .null, .int 0, .int 0, .null, .null, .long 0])), (q1, .inl (cZ, 8, .inl (fun _ => 0))), (q2, .inl (cZ, 8, .inl (fun _ => 0))), (q3, .inl (cI, 16, .inl (fun _ => 0))), (q4, .inl (cI, 16, .inl (fun _ => 0))), (q5, .inl (cZ, 16, .inl (fun _ => 0))), (q6, .inl (cI, 1024, .inl (fun _ => 0)))] H := hP
  have hD : va_D A [(h0, .inr (5, [.int 0, .int 0, .int 0, .ref q1, .ref q2, .ref q3, .ref q4, .ref q5, .null, .null, .null, .int 0, .int 0, .null, .null, .long 0])), (q1, .inl (cZ, 8, .inl (fun _ => 0))), (q2, .inl (cZ, 8, .inl (fun _ => 0))), (q3, .inl (cI, 16, .inl (fun _ => 0))), (q4, .inl (cI, 16, .inl (fun _ => 0))), (q5, .inl (cZ, 16, .inl (fun _ => 0))), (q6, .inl (cI, 1024, .inl (fun _ => 0)))] := hD
  refine va_putF (ci := 5) (v := .ref q6) (ty := .array .int) (C := RRM) (T := TRM) (N := 16) hx hb hts inRM tyRM tyRM_ok nmRM hown hK hP hD hS 0 rfl rfl 8 (by decide) (hts _ k583) (fun _ h9 => h9) rfl hin rfl (by decide +kernel) rfl rfl (Nat.le_of_ble_eq_true rfl) dRM_init_50 (fun H locs hP hD hS => ?_)
  have hP : va_P D vwCl [(h0, .inr (5, [.int 0, .int 0, .int 0, .ref q1, .ref q2, .ref q3, .ref q4, .ref q5, .ref q6, .null, .null, .int 0, .int 0, .null, .null, .long 0])), (q1, .inl (cZ, 8, .inl (fun _ => 0))), (q2, .inl (cZ, 8, .inl (fun _ => 0))), (q3, .inl (cI, 16, .inl (fun _ => 0))), (q4, .inl (cI, 16, .inl (fun _ => 0))), (q5, .inl (cZ, 16, .inl (fun _ => 0))), (q6, .inl (cI, 1024, .inl (fun _ => 0)))] H := hP
  have hD : va_D A [(h0, .inr (5, [.int 0, .int 0, .int 0, .ref q1, .ref q2, .ref q3, .ref q4, .ref q5, .ref q6, .null, .null, .int 0, .int 0, .null, .null, .long 0])), (q1, .inl (cZ, 8, .inl (fun _ => 0))), (q2, .inl (cZ, 8, .inl (fun _ => 0))), (q3, .inl (cI, 16, .inl (fun _ => 0))), (q4, .inl (cI, 16, .inl (fun _ => 0))), (q5, .inl (cZ, 16, .inl (fun _ => 0))), (q6, .inl (cI, 1024, .inl (fun _ => 0)))] := hD
  refine lv_aload_n hx hb dRM_init_53 rfl (lv_at hl 0 rfl) ?_
  refine lv_bipush (v := 64) hx hb dRM_init_54 (by decide) ?_
  refine g_newa (atype := .int) (a0 := (64, .inl (fun _ => 0))) hx hb (hts _ k60) rfl hK hP hD hS hA 0 rfl (fun _ h1 h2 => ra_int h1 h2) (fun _ => rfl) (by decide) (by decide +kernel) (by decide +kernel) (Nat.le_of_ble_eq_true rfl) (Nat.le_of_ble_eq_true rfl) dRM_init_56 (fun q7 H hP hD hS => ?_)
  have hP : va_P D vwCl [(h0, .inr (5, [.int 0, .int 0, .int 0, .ref q1, .ref q2, .ref q3, .ref q4, .ref q5, .ref q6, .null, .null, .int 0, .int 0, .null, .null, .long 0])), (q1, .inl (cZ, 8, .inl (fun _ => 0))), (q2, .inl (cZ, 8, .inl (fun _ => 0))), (q3, .inl (cI, 16, .inl (fun _ => 0))), (q4, .inl (cI, 16, .inl (fun _ => 0))), (q5, .inl (cZ, 16, .inl (fun _ => 0))), (q6, .inl (cI, 1024, .inl (fun _ => 0))), (q7, .inl (cI, 64, .inl (fun _ => 0)))] H := hP
  have hD : va_D A [(h0, .inr (5, [.int 0, .int 0, .int 0, .ref q1, .ref q2, .ref q3, .ref q4, .ref q5, .ref q6, .null, .null, .int 0, .int 0, .null, .null, .long 0])), (q1, .inl (cZ, 8, .inl (fun _ => 0))), (q2, .inl (cZ, 8, .inl (fun _ => 0))), (q3, .inl (cI, 16, .inl (fun _ => 0))), (q4, .inl (cI, 16, .inl (fun _ => 0))), (q5, .inl (cZ, 16, .inl (fun _ => 0))), (q6, .inl (cI, 1024, .inl (fun _ => 0))), (q7, .inl (cI, 64, .inl (fun _ => 0)))] := hD
  refine va_putF (ci := 5) (v := .ref q7) (ty := .array .int) (C := RRM) (T := TRM) (N := 16) hx hb hts inRM tyRM tyRM_ok nmRM hown hK hP hD hS 0 rfl rfl 9 (by decide) (hts _ k584) (fun _ h9 => h9) rfl hin rfl (by decide +kernel) rfl rfl (Nat.le_of_ble_eq_true rfl) dRM_init_58 (fun H locs hP hD hS => ?_)
  have hP : va_P D vwCl [(h0, .inr (5, [.int 0, .int 0, .int 0, .ref q1, .ref q2, .ref q3, .ref q4, .ref q5, .ref q6, .ref q7, .null, .int 0, .int 0, .null, .null, .long 0])), (q1, .inl (cZ, 8, .inl (fun _ => 0))), (q2, .inl (cZ, 8, .inl (fun _ => 0))), (q3, .inl (cI, 16, .inl (fun _ => 0))), (q4, .inl (cI, 16, .inl (fun _ => 0))), (q5, .inl (cZ, 16, .inl (fun _ => 0))), (q6, .inl (cI, 1024, .inl (fun _ => 0))), (q7, .inl (cI, 64, .inl (fun _ => 0)))] H := hP
  have hD : va_D A [(h0, .inr (5, [.int 0, .int 0, .int 0, .ref q1, .ref q2, .ref q3, .ref q4, .ref q5, .ref q6, .ref q7, .null, .int 0, .int 0, .null, .null, .long 0])), (q1, .inl (cZ, 8, .inl (fun _ => 0))), (q2, .inl (cZ, 8, .inl (fun _ => 0))), (q3, .inl (cI, 16, .inl (fun _ => 0))), (q4, .inl (cI, 16, .inl (fun _ => 0))), (q5, .inl (cZ, 16, .inl (fun _ => 0))), (q6, .inl (cI, 1024, .inl (fun _ => 0))), (q7, .inl (cI, 64, .inl (fun _ => 0)))] := hD
  refine lv_aload_n hx hb dRM_init_61 rfl (lv_at hl 0 rfl) ?_
  refine lv_bipush (v := 64) hx hb dRM_init_62 (by decide) ?_
  refine g_newa (atype := .int) (a0 := (64, .inl (fun _ => 0))) hx hb (hts _ k60) rfl hK hP hD hS hA 0 rfl (fun _ h1 h2 => ra_int h1 h2) (fun _ => rfl) (by decide) (by decide +kernel) (by decide +kernel) (Nat.le_of_ble_eq_true rfl) (Nat.le_of_ble_eq_true rfl) dRM_init_64 (fun q8 H hP hD hS => ?_)
  have hP : va_P D vwCl [(h0, .inr (5, [.int 0, .int 0, .int 0, .ref q1, .ref q2, .ref q3, .ref q4, .ref q5, .ref q6, .ref q7, .null, .int 0, .int 0, .null, .null, .long 0])), (q1, .inl (cZ, 8, .inl (fun _ => 0))), (q2, .inl (cZ, 8, .inl (fun _ => 0))), (q3, .inl (cI, 16, .inl (fun _ => 0))), (q4, .inl (cI, 16, .inl (fun _ => 0))), (q5, .inl (cZ, 16, .inl (fun _ => 0))), (q6, .inl (cI, 1024, .inl (fun _ => 0))), (q7, .inl (cI, 64, .inl (fun _ => 0))), (q8, .inl (cI, 64, .inl (fun _ => 0)))] H := hP
  have hD : va_D A [(h0, .inr (5, [.int 0, .int 0, .int 0, .ref q1, .ref q2, .ref q3, .ref q4, .ref q5, .ref q6, .ref q7, .null, .int 0, .int 0, .null, .null, .long 0])), (q1, .inl (cZ, 8, .inl (fun _ => 0))), (q2, .inl (cZ, 8, .inl (fun _ => 0))), (q3, .inl (cI, 16, .inl (fun _ => 0))), (q4, .inl (cI, 16, .inl (fun _ => 0))), (q5, .inl (cZ, 16, .inl (fun _ => 0))), (q6, .inl (cI, 1024, .inl (fun _ => 0))), (q7, .inl (cI, 64, .inl (fun _ => 0))), (q8, .inl (cI, 64, .inl (fun _ => 0)))] := hD
  refine va_putF (ci := 5) (v := .ref q8) (ty := .array .int) (C := RRM) (T := TRM) (N := 16) hx hb hts inRM tyRM tyRM_ok nmRM hown hK hP hD hS 0 rfl rfl 10 (by decide) (hts _ k585) (fun _ h9 => h9) rfl hin rfl (by decide +kernel) rfl rfl (Nat.le_of_ble_eq_true rfl) dRM_init_66 (fun H locs hP hD hS => ?_)
  have hP : va_P D vwCl [(h0, .inr (5, [.int 0, .int 0, .int 0, .ref q1, .ref q2, .ref q3, .ref q4, .ref q5, .ref q6, .ref q7, .ref q8, .int 0, .int 0, .null, .null, .long 0])), (q1, .inl (cZ, 8, .inl (fun _ => 0))), (q2, .inl (cZ, 8, .inl (fun _ => 0))), (q3, .inl (cI, 16, .inl (fun _ => 0))), (q4, .inl (cI, 16, .inl (fun _ => 0))), (q5, .inl (cZ, 16, .inl (fun _ => 0))), (q6, .inl (cI, 1024, .inl (fun _ => 0))), (q7, .inl (cI, 64, .inl (fun _ => 0))), (q8, .inl (cI, 64, .inl (fun _ => 0)))] H := hP
  have hD : va_D A [(h0, .inr (5, [.int 0, .int 0, .int 0, .ref q1, .ref q2, .ref q3, .ref q4, .ref q5, .ref q6, .ref q7, .ref q8, .int 0, .int 0, .null, .null, .long 0])), (q1, .inl (cZ, 8, .inl (fun _ => 0))), (q2, .inl (cZ, 8, .inl (fun _ => 0))), (q3, .inl (cI, 16, .inl (fun _ => 0))), (q4, .inl (cI, 16, .inl (fun _ => 0))), (q5, .inl (cZ, 16, .inl (fun _ => 0))), (q6, .inl (cI, 1024, .inl (fun _ => 0))), (q7, .inl (cI, 64, .inl (fun _ => 0))), (q8, .inl (cI, 64, .inl (fun _ => 0)))] := hD
  refine lv_aload_n hx hb dRM_init_69 rfl (lv_at hl 0 rfl) ?_
  refine lv_sipush (v := 260) hx hb dRM_init_70 (by decide) ?_
  refine g_newa (atype := .int) (a0 := (260, .inl (fun _ => 0))) hx hb (hts _ k60) rfl hK hP hD hS hA 0 rfl (fun _ h1 h2 => ra_int h1 h2) (fun _ => rfl) (by decide) (by decide +kernel) (by decide +kernel) (Nat.le_of_ble_eq_true rfl) (Nat.le_of_ble_eq_true rfl) dRM_init_73 (fun q9 H hP hD hS => ?_)
  have hP : va_P D vwCl [(h0, .inr (5, [.int 0, .int 0, .int 0, .ref q1, .ref q2, .ref q3, .ref q4, .ref q5, .ref q6, .ref q7, .ref q8, .int 0, .int 0, .null, .null, .long 0])), (q1, .inl (cZ, 8, .inl (fun _ => 0))), (q2, .inl (cZ, 8, .inl (fun _ => 0))), (q3, .inl (cI, 16, .inl (fun _ => 0))), (q4, .inl (cI, 16, .inl (fun _ => 0))), (q5, .inl (cZ, 16, .inl (fun _ => 0))), (q6, .inl (cI, 1024, .inl (fun _ => 0))), (q7, .inl (cI, 64, .inl (fun _ => 0))), (q8, .inl (cI, 64, .inl (fun _ => 0))), (q9, .inl (cI, 260, .inl (fun _ => 0)))] H := hP
  have hD : va_D A [(h0, .inr (5, [.int 0, .int 0, .int 0, .ref q1, .ref q2, .ref q3, .ref q4, .ref q5, .ref q6, .ref q7, .ref q8, .int 0, .int 0, .null, .null, .long 0])), (q1, .inl (cZ, 8, .inl (fun _ => 0))), (q2, .inl (cZ, 8, .inl (fun _ => 0))), (q3, .inl (cI, 16, .inl (fun _ => 0))), (q4, .inl (cI, 16, .inl (fun _ => 0))), (q5, .inl (cZ, 16, .inl (fun _ => 0))), (q6, .inl (cI, 1024, .inl (fun _ => 0))), (q7, .inl (cI, 64, .inl (fun _ => 0))), (q8, .inl (cI, 64, .inl (fun _ => 0))), (q9, .inl (cI, 260, .inl (fun _ => 0)))] := hD
  refine va_putF (ci := 5) (v := .ref q9) (ty := .array .int) (C := RRM) (T := TRM) (N := 16) hx hb hts inRM tyRM tyRM_ok nmRM hown hK hP hD hS 0 rfl rfl 13 (by decide) (hts _ k588) (fun _ h9 => h9) rfl hin rfl (by decide +kernel) rfl rfl (Nat.le_of_ble_eq_true rfl) dRM_init_75 (fun H locs hP hD hS => ?_)
  have hP : va_P D vwCl [(h0, .inr (5, [.int 0, .int 0, .int 0, .ref q1, .ref q2, .ref q3, .ref q4, .ref q5, .ref q6, .ref q7, .ref q8, .int 0, .int 0, .ref q9, .null, .long 0])), (q1, .inl (cZ, 8, .inl (fun _ => 0))), (q2, .inl (cZ, 8, .inl (fun _ => 0))), (q3, .inl (cI, 16, .inl (fun _ => 0))), (q4, .inl (cI, 16, .inl (fun _ => 0))), (q5, .inl (cZ, 16, .inl (fun _ => 0))), (q6, .inl (cI, 1024, .inl (fun _ => 0))), (q7, .inl (cI, 64, .inl (fun _ => 0))), (q8, .inl (cI, 64, .inl (fun _ => 0))), (q9, .inl (cI, 260, .inl (fun _ => 0)))] H := hP
  have hD : va_D A [(h0, .inr (5, [.int 0, .int 0, .int 0, .ref q1, .ref q2, .ref q3, .ref q4, .ref q5, .ref q6, .ref q7, .ref q8, .int 0, .int 0, .ref q9, .null, .long 0])), (q1, .inl (cZ, 8, .inl (fun _ => 0))), (q2, .inl (cZ, 8, .inl (fun _ => 0))), (q3, .inl (cI, 16, .inl (fun _ => 0))), (q4, .inl (cI, 16, .inl (fun _ => 0))), (q5, .inl (cZ, 16, .inl (fun _ => 0))), (q6, .inl (cI, 1024, .inl (fun _ => 0))), (q7, .inl (cI, 64, .inl (fun _ => 0))), (q8, .inl (cI, 64, .inl (fun _ => 0))), (q9, .inl (cI, 260, .inl (fun _ => 0)))] := hD
  refine lv_aload_n hx hb dRM_init_78 rfl (lv_at hl 0 rfl) ?_
  refine lv_bipush (v := 6) hx hb dRM_init_79 (by decide) ?_
  refine g_newa (atype := .int) (a0 := (6, .inl (fun _ => 0))) hx hb (hts _ k60) rfl hK hP hD hS hA 0 rfl (fun _ h1 h2 => ra_int h1 h2) (fun _ => rfl) (by decide) (by decide +kernel) (by decide +kernel) (Nat.le_of_ble_eq_true rfl) (Nat.le_of_ble_eq_true rfl) dRM_init_81 (fun q10 H hP hD hS => ?_)
  have hP : va_P D vwCl [(h0, .inr (5, [.int 0, .int 0, .int 0, .ref q1, .ref q2, .ref q3, .ref q4, .ref q5, .ref q6, .ref q7, .ref q8, .int 0, .int 0, .ref q9, .null, .long 0])), (q1, .inl (cZ, 8, .inl (fun _ => 0))), (q2, .inl (cZ, 8, .inl (fun _ => 0))), (q3, .inl (cI, 16, .inl (fun _ => 0))), (q4, .inl (cI, 16, .inl (fun _ => 0))), (q5, .inl (cZ, 16, .inl (fun _ => 0))), (q6, .inl (cI, 1024, .inl (fun _ => 0))), (q7, .inl (cI, 64, .inl (fun _ => 0))), (q8, .inl (cI, 64, .inl (fun _ => 0))), (q9, .inl (cI, 260, .inl (fun _ => 0))), (q10, .inl (cI, 6, .inl (fun _ => 0)))] H := hP
  have hD : va_D A [(h0, .inr (5, [.int 0, .int 0, .int 0, .ref q1, .ref q2, .ref q3, .ref q4, .ref q5, .ref q6, .ref q7, .ref q8, .int 0, .int 0, .ref q9, .null, .long 0])), (q1, .inl (cZ, 8, .inl (fun _ => 0))), (q2, .inl (cZ, 8, .inl (fun _ => 0))), (q3, .inl (cI, 16, .inl (fun _ => 0))), (q4, .inl (cI, 16, .inl (fun _ => 0))), (q5, .inl (cZ, 16, .inl (fun _ => 0))), (q6, .inl (cI, 1024, .inl (fun _ => 0))), (q7, .inl (cI, 64, .inl (fun _ => 0))), (q8, .inl (cI, 64, .inl (fun _ => 0))), (q9, .inl (cI, 260, .inl (fun _ => 0))), (q10, .inl (cI, 6, .inl (fun _ => 0)))] := hD
  refine va_putF (ci := 5) (v := .ref q10) (ty := .array .int) (C := RRM) (T := TRM) (N := 16) hx hb hts inRM tyRM tyRM_ok nmRM hown hK hP hD hS 0 rfl rfl 14 (by decide) (hts _ k589) (fun _ h9 => h9) rfl hin rfl (by decide +kernel) rfl rfl (Nat.le_of_ble_eq_true rfl) dRM_init_83 (fun H locs hP hD hS => ?_)
  have hP : va_P D vwCl [(h0, .inr (5, [.int 0, .int 0, .int 0, .ref q1, .ref q2, .ref q3, .ref q4, .ref q5, .ref q6, .ref q7, .ref q8, .int 0, .int 0, .ref q9, .ref q10, .long 0])), (q1, .inl (cZ, 8, .inl (fun _ => 0))), (q2, .inl (cZ, 8, .inl (fun _ => 0))), (q3, .inl (cI, 16, .inl (fun _ => 0))), (q4, .inl (cI, 16, .inl (fun _ => 0))), (q5, .inl (cZ, 16, .inl (fun _ => 0))), (q6, .inl (cI, 1024, .inl (fun _ => 0))), (q7, .inl (cI, 64, .inl (fun _ => 0))), (q8, .inl (cI, 64, .inl (fun _ => 0))), (q9, .inl (cI, 260, .inl (fun _ => 0))), (q10, .inl (cI, 6, .inl (fun _ => 0)))] H := hP
  have hD : va_D A [(h0, .inr (5, [.int 0, .int 0, .int 0, .ref q1, .ref q2, .ref q3, .ref q4, .ref q5, .ref q6, .ref q7, .ref q8, .int 0, .int 0, .ref q9, .ref q10, .long 0])), (q1, .inl (cZ, 8, .inl (fun _ => 0))), (q2, .inl (cZ, 8, .inl (fun _ => 0))), (q3, .inl (cI, 16, .inl (fun _ => 0))), (q4, .inl (cI, 16, .inl (fun _ => 0))), (q5, .inl (cZ, 16, .inl (fun _ => 0))), (q6, .inl (cI, 1024, .inl (fun _ => 0))), (q7, .inl (cI, 64, .inl (fun _ => 0))), (q8, .inl (cI, 64, .inl (fun _ => 0))), (q9, .inl (cI, 260, .inl (fun _ => 0))), (q10, .inl (cI, 6, .inl (fun _ => 0)))] := hD
  have lp1 : ∀ (n k : Nat) (f : Nat → Int32) (ls : Array Slot) (H : Heap) (locs : List Loc), k + n = 16 → va_P D vwCl [(h0, .inr (5, [.int (nI (fItself x)), .int 0, .int 0, .ref q1, .ref q2, .ref q3, .ref q4, .ref q5, .ref q6, .ref q7, .ref q8, .int 0, .int 0, .ref q9, .ref q10, .long 0])), (q1, .inl (cZ, 8, .inl (fun _ => 0))), (q2, .inl (cZ, 8, .inl (fun _ => 0))), (q3, .inl (cI, 16, .inl f)), (q4, .inl (cI, 16, .inl (fun _ => 0))), (q5, .inl (cZ, 16, .inl (fun _ => 0))), (q6, .inl (cI, 1024, .inl (fun _ => 0))), (q7, .inl (cI, 64, .inl (fun _ => 0))), (q8, .inl (cI, 64, .inl (fun _ => 0))), (q9, .inl (cI, 260, .inl (fun _ => 0))), (q10, .inl (cI, 6, .inl (fun _ => 0)))] H → va_D A [(h0, .inr (5, [.int (nI (fItself x)), .int 0, .int 0, .ref q1, .ref q2, .ref q3, .ref q4, .ref q5, .ref q6, .ref q7, .ref q8, .int 0, .int 0, .ref q9, .ref q10, .long 0])), (q1, .inl (cZ, 8, .inl (fun _ => 0))), (q2, .inl (cZ, 8, .inl (fun _ => 0))), (q3, .inl (cI, 16, .inl f)), (q4, .inl (cI, 16, .inl (fun _ => 0))), (q5, .inl (cZ, 16, .inl (fun _ => 0))), (q6, .inl (cI, 1024, .inl (fun _ => 0))), (q7, .inl (cI, 64, .inl (fun _ => 0))), (q8, .inl (cI, 64, .inl (fun _ => 0))), (q9, .inl (cI, 260, .inl (fun _ => 0))), (q10, .inl (cI, 6, .inl (fun _ => 0)))] → va_S A s.heap H locs → lv_has ls 3 [(2, .int (nI k)), (0, .ref h0), (1, .int x)] → (∀ (ls : Array Slot) (H : Heap) (locs : List Loc), va_P D vwCl [(h0, .inr (5, [.int (nI (fItself x)), .int 0, .int 0, .ref q1, .ref q2, .ref q3, .ref q4, .ref q5, .ref q6, .ref q7, .ref q8, .int 0, .int 0, .ref q9, .ref q10, .long 0])), (q1, .inl (cZ, 8, .inl (fun _ => 0))), (q2, .inl (cZ, 8, .inl (fun _ => 0))), (q3, .inl (cI, 16, .inl (iFill n k f))), (q4, .inl (cI, 16, .inl (fun _ => 0))), (q5, .inl (cZ, 16, .inl (fun _ => 0))), (q6, .inl (cI, 1024, .inl (fun _ => 0))), (q7, .inl (cI, 64, .inl (fun _ => 0))), (q8, .inl (cI, 64, .inl (fun _ => 0))), (q9, .inl (cI, 260, .inl (fun _ => 0))), (q10, .inl (cI, 6, .inl (fun _ => 0)))] H → va_D A [(h0, .inr (5, [.int (nI (fItself x)), .int 0, .int 0, .ref q1, .ref q2, .ref q3, .ref q4, .ref q5, .ref q6, .ref q7, .ref q8, .int 0, .int 0, .ref q9, .ref q10, .long 0])), (q1, .inl (cZ, 8, .inl (fun _ => 0))), (q2, .inl (cZ, 8, .inl (fun _ => 0))), (q3, .inl (cI, 16, .inl (iFill n k f))), (q4, .inl (cI, 16, .inl (fun _ => 0))), (q5, .inl (cZ, 16, .inl (fun _ => 0))), (q6, .inl (cI, 1024, .inl (fun _ => 0))), (q7, .inl (cI, 64, .inl (fun _ => 0))), (q8, .inl (cI, 64, .inl (fun _ => 0))), (q9, .inl (cI, 260, .inl (fun _ => 0))), (q10, .inl (cI, 6, .inl (fun _ => 0)))] → va_S A s.heap H locs → lv_has ls 3 [(0, .ref h0), (1, .int x)] → W p l e ({ frames := 1, cells := 10, slots := 1482, locals := 12 }) s m [.ref h0, .int x].toArray below meth c H locs 10 1482 (MQ below (va_Qv (fun _ : Nat → Nat => True) (fun u t => u 0 = h0 ∧ va_P D vwCl (wR cI cZ u (v0R (fItself x))) t.heap ∧ va_D A (wR cI cZ u (v0R (fItself x)))) A) [.ref h0, .int x].toArray s 10 1482 A) (F0 m 126 ls [])) → W p l e ({ frames := 1, cells := 10, slots := 1482, locals := 12 }) s m [.ref h0, .int x].toArray below meth c H locs 10 1482 (MQ below (va_Qv (fun _ : Nat → Nat => True) (fun u t => u 0 = h0 ∧ va_P D vwCl (wR cI cZ u (v0R (fItself x))) t.heap ∧ va_D A (wR cI cZ u (v0R (fItself x)))) A) [.ref h0, .int x].toArray s 10 1482 A) (F0 m 107 ls []) := by
    intro n
    induction n with
    | zero =>
      intro k f ls H locs hkn hP hD hS hl kk
      refine lv_iload_n hx hb dRM_init_107 rfl (lv_at hl 0 rfl) ?_
      refine lv_bipush (v := nI 16) hx hb dRM_init_108 (by decide) ?_
      refine lv_icmp_ge hx hb (tgt := 126) dRM_init_110 (by decide) (fun c1 => ?_) (fun c1 => ?_)
      · exact kk ls H locs hP hD hS (lv_sub hl [1, 2] rfl)
      · exact absurd (show nI 16 ≤ nI k from by rw [show k = 16 by omega]; exact Int32.le_refl _) c1
    | succ n ih =>
      intro k f ls H locs hkn hP hD hS hl kk
      refine lv_iload_n hx hb dRM_init_107 rfl (lv_at hl 0 rfl) ?_
      refine lv_bipush (v := nI 16) hx hb dRM_init_108 (by decide) ?_
      refine lv_icmp_ge hx hb (tgt := 126) dRM_init_110 (by decide) (fun c1 => ?_) (fun c1 => ?_)
      · exact absurd c1 (nI_ge (by omega) (by decide))
      · refine lv_aload_n hx hb dRM_init_113 rfl (lv_at hl 1 rfl) ?_
        refine va_get (ci := 5) (v := .ref q3) (C := RRM) (T := TRM) (N := 16) hx hb hts inRM hown hK hP 0 rfl rfl 5 (by decide) (hts _ k580) (fun _ h9 => h9) rfl dRM_init_114 ?_
        refine lv_iload_n hx hb dRM_init_117 rfl (lv_at hl 0 rfl) ?_
        refine lv_iconst (v := -1) hx hb dRM_init_118 (by decide) ?_
        refine ir_iast hx hb hK hP hD hS 3 0 rfl rfl (show k < 16 by omega) (by decide) dRM_init_119 (fun H locs hP hS => ?_)
        refine lv_iinc (v := nI (k + 1)) (lv' := [(2, .int (nI (k + 1))), (0, .ref h0), (1, .int x)]) hx hb dRM_init_120 hl (k := 0) rfl (nI_1 k) (by decide) rfl (fun ls hl => ?_)
        refine lv_goto hx hb (tgt := 107) dRM_init_123 (by decide) ?_
        exact ih (k + 1) (upd f k (-1)) ls H locs (by omega) hP (hD.set (p := 3) rfl) hS hl kk
  have lp2 : ∀ (n k : Nat) (f : Nat → Int32) (ls : Array Slot) (H : Heap) (locs : List Loc), k + n = 1024 → va_P D vwCl [(h0, .inr (5, [.int (nI (fItself x)), .int 0, .int 0, .ref q1, .ref q2, .ref q3, .ref q4, .ref q5, .ref q6, .ref q7, .ref q8, .int 0, .int 0, .ref q9, .ref q10, .long 0])), (q1, .inl (cZ, 8, .inl (fun _ => 0))), (q2, .inl (cZ, 8, .inl (fun _ => 0))), (q3, .inl (cI, 16, .inl (iFill 16 0 (fun _ => 0)))), (q4, .inl (cI, 16, .inl (fun _ => 0))), (q5, .inl (cZ, 16, .inl (fun _ => 0))), (q6, .inl (cI, 1024, .inl f)), (q7, .inl (cI, 64, .inl (fun _ => 0))), (q8, .inl (cI, 64, .inl (fun _ => 0))), (q9, .inl (cI, 260, .inl (fun _ => 0))), (q10, .inl (cI, 6, .inl (fun _ => 0)))] H → va_D A [(h0, .inr (5, [.int (nI (fItself x)), .int 0, .int 0, .ref q1, .ref q2, .ref q3, .ref q4, .ref q5, .ref q6, .ref q7, .ref q8, .int 0, .int 0, .ref q9, .ref q10, .long 0])), (q1, .inl (cZ, 8, .inl (fun _ => 0))), (q2, .inl (cZ, 8, .inl (fun _ => 0))), (q3, .inl (cI, 16, .inl (iFill 16 0 (fun _ => 0)))), (q4, .inl (cI, 16, .inl (fun _ => 0))), (q5, .inl (cZ, 16, .inl (fun _ => 0))), (q6, .inl (cI, 1024, .inl f)), (q7, .inl (cI, 64, .inl (fun _ => 0))), (q8, .inl (cI, 64, .inl (fun _ => 0))), (q9, .inl (cI, 260, .inl (fun _ => 0))), (q10, .inl (cI, 6, .inl (fun _ => 0)))] → va_S A s.heap H locs → lv_has ls 3 [(2, .int (nI k)), (0, .ref h0), (1, .int x)] → (∀ (ls : Array Slot) (H : Heap) (locs : List Loc), va_P D vwCl [(h0, .inr (5, [.int (nI (fItself x)), .int 0, .int 0, .ref q1, .ref q2, .ref q3, .ref q4, .ref q5, .ref q6, .ref q7, .ref q8, .int 0, .int 0, .ref q9, .ref q10, .long 0])), (q1, .inl (cZ, 8, .inl (fun _ => 0))), (q2, .inl (cZ, 8, .inl (fun _ => 0))), (q3, .inl (cI, 16, .inl (iFill 16 0 (fun _ => 0)))), (q4, .inl (cI, 16, .inl (fun _ => 0))), (q5, .inl (cZ, 16, .inl (fun _ => 0))), (q6, .inl (cI, 1024, .inl (iFill n k f))), (q7, .inl (cI, 64, .inl (fun _ => 0))), (q8, .inl (cI, 64, .inl (fun _ => 0))), (q9, .inl (cI, 260, .inl (fun _ => 0))), (q10, .inl (cI, 6, .inl (fun _ => 0)))] H → va_D A [(h0, .inr (5, [.int (nI (fItself x)), .int 0, .int 0, .ref q1, .ref q2, .ref q3, .ref q4, .ref q5, .ref q6, .ref q7, .ref q8, .int 0, .int 0, .ref q9, .ref q10, .long 0])), (q1, .inl (cZ, 8, .inl (fun _ => 0))), (q2, .inl (cZ, 8, .inl (fun _ => 0))), (q3, .inl (cI, 16, .inl (iFill 16 0 (fun _ => 0)))), (q4, .inl (cI, 16, .inl (fun _ => 0))), (q5, .inl (cZ, 16, .inl (fun _ => 0))), (q6, .inl (cI, 1024, .inl (iFill n k f))), (q7, .inl (cI, 64, .inl (fun _ => 0))), (q8, .inl (cI, 64, .inl (fun _ => 0))), (q9, .inl (cI, 260, .inl (fun _ => 0))), (q10, .inl (cI, 6, .inl (fun _ => 0)))] → va_S A s.heap H locs → lv_has ls 3 [(0, .ref h0), (1, .int x)] → W p l e ({ frames := 1, cells := 10, slots := 1482, locals := 12 }) s m [.ref h0, .int x].toArray below meth c H locs 10 1482 (MQ below (va_Qv (fun _ : Nat → Nat => True) (fun u t => u 0 = h0 ∧ va_P D vwCl (wR cI cZ u (v0R (fItself x))) t.heap ∧ va_D A (wR cI cZ u (v0R (fItself x)))) A) [.ref h0, .int x].toArray s 10 1482 A) (F0 m 148 ls [])) → W p l e ({ frames := 1, cells := 10, slots := 1482, locals := 12 }) s m [.ref h0, .int x].toArray below meth c H locs 10 1482 (MQ below (va_Qv (fun _ : Nat → Nat => True) (fun u t => u 0 = h0 ∧ va_P D vwCl (wR cI cZ u (v0R (fItself x))) t.heap ∧ va_D A (wR cI cZ u (v0R (fItself x)))) A) [.ref h0, .int x].toArray s 10 1482 A) (F0 m 128 ls []) := by
    intro n
    induction n with
    | zero =>
      intro k f ls H locs hkn hP hD hS hl kk
      refine lv_iload_n hx hb dRM_init_128 rfl (lv_at hl 0 rfl) ?_
      refine lv_sipush (v := nI 1024) hx hb dRM_init_129 (by decide) ?_
      refine lv_icmp_ge hx hb (tgt := 148) dRM_init_132 (by decide) (fun c1 => ?_) (fun c1 => ?_)
      · exact kk ls H locs hP hD hS (lv_sub hl [1, 2] rfl)
      · exact absurd (show nI 1024 ≤ nI k from by rw [show k = 1024 by omega]; exact Int32.le_refl _) c1
    | succ n ih =>
      intro k f ls H locs hkn hP hD hS hl kk
      refine lv_iload_n hx hb dRM_init_128 rfl (lv_at hl 0 rfl) ?_
      refine lv_sipush (v := nI 1024) hx hb dRM_init_129 (by decide) ?_
      refine lv_icmp_ge hx hb (tgt := 148) dRM_init_132 (by decide) (fun c1 => ?_) (fun c1 => ?_)
      · exact absurd c1 (nI_ge (by omega) (by decide))
      · refine lv_aload_n hx hb dRM_init_135 rfl (lv_at hl 1 rfl) ?_
        refine va_get (ci := 5) (v := .ref q6) (C := RRM) (T := TRM) (N := 16) hx hb hts inRM hown hK hP 0 rfl rfl 8 (by decide) (hts _ k583) (fun _ h9 => h9) rfl dRM_init_136 ?_
        refine lv_iload_n hx hb dRM_init_139 rfl (lv_at hl 0 rfl) ?_
        refine lv_iconst (v := -1) hx hb dRM_init_140 (by decide) ?_
        refine ir_iast hx hb hK hP hD hS 6 0 rfl rfl (show k < 1024 by omega) (by decide) dRM_init_141 (fun H locs hP hS => ?_)
        refine lv_iinc (v := nI (k + 1)) (lv' := [(2, .int (nI (k + 1))), (0, .ref h0), (1, .int x)]) hx hb dRM_init_142 hl (k := 0) rfl (nI_1 k) (by decide) rfl (fun ls hl => ?_)
        refine lv_goto hx hb (tgt := 128) dRM_init_145 (by decide) ?_
        exact ih (k + 1) (upd f k (-1)) ls H locs (by omega) hP (hD.set (p := 6) rfl) hS hl kk
  refine lv_aload_n hx hb dRM_init_86 rfl (lv_at hl 0 rfl) ?_
  have key : ∀ z : Int32, z = nI (fItself x) → W p l e ({ frames := 1, cells := 10, slots := 1482, locals := 12 }) s m [.ref h0, .int x].toArray below meth c H locs 10 1482 (MQ below (va_Qv (fun _ : Nat → Nat => True) (fun u t => u 0 = h0 ∧ va_P D vwCl (wR cI cZ u (v0R (fItself x))) t.heap ∧ va_D A (wR cI cZ u (v0R (fItself x)))) A) [.ref h0, .int x].toArray s 10 1482 A) (F0 m 102 ls [.int z, .ref h0]) := by
    intro z hz
    subst hz
    refine va_putF (ci := 5) (v := .int (nI (fItself x))) (ty := .int) (C := RRM) (T := TRM) (N := 16) hx hb hts inRM tyRM tyRM_ok nmRM hown hK hP hD hS 0 rfl rfl 0 (by decide) (hts _ k575) (fun _ h9 => h9) rfl hin rfl (by decide +kernel) rfl rfl (Nat.le_of_ble_eq_true rfl) dRM_init_102 (fun H locs hP hD hS => ?_)
    have hP : va_P D vwCl [(h0, .inr (5, [.int (nI (fItself x)), .int 0, .int 0, .ref q1, .ref q2, .ref q3, .ref q4, .ref q5, .ref q6, .ref q7, .ref q8, .int 0, .int 0, .ref q9, .ref q10, .long 0])), (q1, .inl (cZ, 8, .inl (fun _ => 0))), (q2, .inl (cZ, 8, .inl (fun _ => 0))), (q3, .inl (cI, 16, .inl (fun _ => 0))), (q4, .inl (cI, 16, .inl (fun _ => 0))), (q5, .inl (cZ, 16, .inl (fun _ => 0))), (q6, .inl (cI, 1024, .inl (fun _ => 0))), (q7, .inl (cI, 64, .inl (fun _ => 0))), (q8, .inl (cI, 64, .inl (fun _ => 0))), (q9, .inl (cI, 260, .inl (fun _ => 0))), (q10, .inl (cI, 6, .inl (fun _ => 0)))] H := hP
    have hD : va_D A [(h0, .inr (5, [.int (nI (fItself x)), .int 0, .int 0, .ref q1, .ref q2, .ref q3, .ref q4, .ref q5, .ref q6, .ref q7, .ref q8, .int 0, .int 0, .ref q9, .ref q10, .long 0])), (q1, .inl (cZ, 8, .inl (fun _ => 0))), (q2, .inl (cZ, 8, .inl (fun _ => 0))), (q3, .inl (cI, 16, .inl (fun _ => 0))), (q4, .inl (cI, 16, .inl (fun _ => 0))), (q5, .inl (cZ, 16, .inl (fun _ => 0))), (q6, .inl (cI, 1024, .inl (fun _ => 0))), (q7, .inl (cI, 64, .inl (fun _ => 0))), (q8, .inl (cI, 64, .inl (fun _ => 0))), (q9, .inl (cI, 260, .inl (fun _ => 0))), (q10, .inl (cI, 6, .inl (fun _ => 0)))] := hD
    refine lv_iconst (v := nI 0) hx hb dRM_init_105 (by decide) ?_
    refine lv_istore_n (lv' := [(2, .int (nI 0)), (0, .ref h0), (1, .int x)]) hx hb dRM_init_106 rfl hl (by decide) rfl (fun ls hl => ?_)
    refine lp1 16 0 (fun _ => 0) ls H locs rfl hP hD hS hl (fun ls H locs hP hD hS hl => ?_)
    refine lv_iconst (v := nI 0) hx hb dRM_init_126 (by decide) ?_
    refine lv_istore_n (lv' := [(2, .int (nI 0)), (0, .ref h0), (1, .int x)]) hx hb dRM_init_127 rfl hl (by decide) rfl (fun ls hl => ?_)
    refine lp2 1024 0 (fun _ => 0) ls H locs rfl hP hD hS hl (fun ls H locs hP hD hS hl => ?_)
    exact i_vret (v := fun k => [h0, q1, q2, q3, q4, q5, q6, q7, q8, q9, q10].getD k 0) hx hb hr hS (fun t ht => ⟨rfl, by rw [ht]; exact hP, hD⟩) hlocks dRM_init_148
  refine lv_iload_n hx hb dRM_init_87 rfl (lv_at hl 1 rfl) ?_
  refine lv_if_lt hx hb (tgt := 97) dRM_init_88 (by decide) (fun c1 => ?_) (fun c1 => ?_)
  · refine lv_iconst (v := 0) hx hb dRM_init_97 (by decide) ?_
    refine lv_goto hx hb (tgt := 102) dRM_init_98 (by decide) ?_
    exact key 0 (by unfold fItself; rw [if_pos c1]; rfl)
  · refine lv_iload_n hx hb dRM_init_91 rfl (lv_at hl 1 rfl) ?_
    refine lv_bipush (v := 63) hx hb dRM_init_92 (by decide) ?_
    refine lv_icmp_le hx hb (tgt := 101) dRM_init_94 (by decide) (fun c2 => ?_) (fun c2 => ?_)
    · refine lv_iload_n hx hb dRM_init_101 rfl (lv_at hl 1 rfl) ?_
      exact key x (by unfold fItself; rw [if_neg c1, if_pos (i63 c2)]; exact (nI_cl (by rw [Int32.le_iff_toInt_le]; rw [Int32.lt_iff_toInt_lt] at c1; omega)).symm)
    · refine lv_iconst (v := 0) hx hb dRM_init_97 (by decide) ?_
      refine lv_goto hx hb (tgt := 102) dRM_init_98 (by decide) ?_
      exact key 0 (by unfold fItself; rw [if_neg c1, if_neg (fun h => c2 (i63n h))]; rfl)
