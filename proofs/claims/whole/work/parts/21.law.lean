/-! The law's body, call by call -/
abbrev lA (s : State) : Nat → Prop := fun q => s.heap.size ≤ q
def dNz (x : Int32) : Bool := if x = 0 then false else true
abbrev codeR (r : RS) : Int32 := r.1.2.1
/-- a contract of one of the law's helpers, in some room that fits -/
def hMet (l : Launch) (D : va_G) (cI cL : ClassId) (a : Nat → Nat) (y : MethodName) (ws : List Cond) (mL : Nat) (av : List Value) (v : LZ) (k : Int32) (v' : LZ) : Prop :=
  ∃ rm : Room, rm.cells = 1 ∧ rm.slots = 6 ∧ (rm.frames + 1 ≤ 12 ∧ 8 + (mL + 11) + rm.locals ≤ 446) ∧ Met l y ws rm (va_Pc av (tPre D (tyC cI cL) (wL cI cL a) v)) (va_Qi (fun (r : Int32) (u : LZ) => r = k ∧ u = v') (gG D (tyC cI cL) (wL cI cL a)) (aS a 20)) 1 6 (aS a 20)
/-- a contract of the reference -/
def rMet (l : Launch) (D : va_G) (cI cZ : ClassId) (a : Nat → Nat) (y : MethodName) (ws : List Cond) (mL : Nat) (av : List Value) (r : RS) (k : Int32) (r' : RS) : Prop :=
  ∃ rm : Room, rm.cells = 0 ∧ rm.slots = 0 ∧ (rm.frames + 1 ≤ 12 ∧ 8 + (mL + 11) + rm.locals ≤ 446) ∧ Met l y ws rm (va_Pc av (gG D (tyR cI cZ) (wR cI cZ a) r)) (va_Qi (fun (r1 : Int32) (u : RS) => r1 = k ∧ u = r') (gG D (tyR cI cZ) (wR cI cZ a)) (aS a 11)) 0 0 (aS a 11)
def rMetL (l : Launch) (D : va_G) (cI cZ : ClassId) (a : Nat → Nat) (y : MethodName) (ws : List Cond) (mL : Nat) (av : List Value) (r : RS) (k : Int64) (r' : RS) : Prop :=
  ∃ rm : Room, rm.cells = 0 ∧ rm.slots = 0 ∧ (rm.frames + 1 ≤ 12 ∧ 8 + (mL + 11) + rm.locals ≤ 446) ∧ Met l y ws rm (va_Pc av (gG D (tyR cI cZ) (wR cI cZ a) r)) (va_Ql (fun (r1 : Int64) (u : RS) => r1 = k ∧ u = r') (gG D (tyR cI cZ) (wR cI cZ a)) (aS a 11)) 0 0 (aS a 11)
/-- a contract of the class that the law calls itself -/
def cMet (l : Launch) (D : va_G) (cI cL : ClassId) (a : Nat → Nat) (y : MethodName) (ws : List Cond) (mL : Nat) (av : List Value) (v : CS) (k : Int32) (v' : CS) : Prop :=
  ∃ rm : Room, rm.cells = 0 ∧ rm.slots = 0 ∧ (rm.frames + 1 ≤ 12 ∧ 8 + (mL + 11) + rm.locals ≤ 446) ∧ Met l y ws rm (va_Pc av (gG D (tyC cI cL) (wC cI cL a) v)) (va_Qi (fun (r : Int32) (u : CS) => r = k ∧ u = v') (gG D (tyC cI cL) (wC cI cL a)) (aS a 19)) 0 0 (aS a 19)
def cRo (l : Launch) (D : va_G) (cI cL : ClassId) (a : Nat → Nat) (y : MethodName) (ws : List Cond) (mL : Nat) (av : List Value) (v : CS) (k : Int32) : Prop :=
  ∃ rm : Room, rm.cells = 0 ∧ rm.slots = 0 ∧ (rm.frames + 1 ≤ 12 ∧ 8 + (mL + 11) + rm.locals ≤ 446) ∧ Met l y ws rm (va_Pc av (gG D (tyC cI cL) (wC cI cL a) v)) (vp_Si (fun r : Int32 => r = k)) 0 0 (fun _ => False)
def cRoL (l : Launch) (D : va_G) (cI cL : ClassId) (a : Nat → Nat) (y : MethodName) (ws : List Cond) (mL : Nat) (av : List Value) (v : CS) (k : Int64) : Prop :=
  ∃ rm : Room, rm.cells = 0 ∧ rm.slots = 0 ∧ (rm.frames + 1 ≤ 12 ∧ 8 + (mL + 11) + rm.locals ≤ 446) ∧ Met l y ws rm (va_Pc av (gG D (tyC cI cL) (wC cI cL a) v)) (vp_Sl (fun r : Int64 => r = k)) 0 0 (fun _ => False)
theorem thrown_any (l : Launch) {D : va_G} {cI cZ : ClassId} {a : Nat → Nat} (r : RS) : Met l yRM_thrown wsRM_thrown { frames := 0, cells := 0, slots := 0, locals := 0 } (va_Pc [.ref (a 0)] (gG D (tyR cI cZ) (wR cI cZ a) r)) (vp_Si (fun x : Int32 => x = codeR r)) 0 0 (fun _ => False) := by
  obtain ⟨⟨rI, rC, rN⟩, ⟨rO, rG⟩, ⟨rW, rH, rF, rT⟩, ⟨rM, rB, rX⟩, ⟨rQ, rA⟩, ⟨rE, rD⟩⟩ := r
  exact c_RM_thrown l rI rC rN rO rG rW rH rF rT rM rB rX rQ rA rE rD
/-- what holds throughout the law's loop -/
abbrev lx (p : Program) (s : State) (m : MethodId) (meth : Method) (c : Code) (b L : Nat) (xs : Nat → Int32) (D : va_G) (cI cL cZ : ClassId) (a a' : Nat → Nat) : Prop :=
  CallFix p m c code 7 s #[Value.ref b] bigW RLW ∧ (meth.sig.returnType = ret ∧ meth.locks = false) ∧ (va_X b L xs s s.heap ∧ b < s.heap.size ∧ L ≤ 3073) ∧ (va_K D vwCl (tyC cI cL) s ∧ va_K D vwCl (tyR cI cZ) s ∧ tF s) ∧
  (∀ (v : CS) (f : Nat → Int64) (r : RS), va_D (lA s) (wL cI cL a (v, f) ++ wR cI cZ a' r)) ∧ aI a 20 ∧ aI a' 11
theorem wL_out {cI cL : ClassId} {a : Nat → Nat} {v : CS} {f : Nat → Int64} {Z : va_W} : (wL cI cL a (v, f) ++ Z)[19]? = some (a 19, .inl (cL, 1, .inr (.inl f))) := by
  obtain ⟨⟨dI, dO, dG, dN, dT⟩, ⟨aN, aB⟩, ⟨nS, nP, nR, nG, nO, nU, nT⟩, ⟨tP, tR, tO, tN, tF, tZ⟩, ⟨mP, mN⟩⟩ := v
  rfl
theorem wC_rc {s : State} {H : Heap} {D : va_G} {cI cL : ClassId} {a : Nat → Nat} {v : CS} {tys : List (ClassId × FieldType)} (hK : va_K D vwCl tys s) (hP : va_P D vwCl (wC cI cL a v) H) : ∃ cell : Cell, H[a 0]? = some cell ∧ cell.vm.isStatics = false ∧ s.vm.findClass RDB = some cell.cls := by
  obtain ⟨⟨dI, dO, dG, dN, dT⟩, ⟨aN, aB⟩, ⟨nS, nP, nR, nG, nO, nU, nT⟩, ⟨tP, tR, tO, tN, tF, tZ⟩, ⟨mP, mN⟩⟩ := v
  exact va_recv (q0 := 0) (ci := 4) (q := (RDB, TDB, 9)) hK hP rfl rfl
theorem wR_rc {s : State} {H : Heap} {D : va_G} {cI cZ : ClassId} {a : Nat → Nat} {r : RS} {tys : List (ClassId × FieldType)} (hK : va_K D vwCl tys s) (hP : va_P D vwCl (wR cI cZ a r) H) : ∃ cell : Cell, H[a 0]? = some cell ∧ cell.vm.isStatics = false ∧ s.vm.findClass RRM = some cell.cls := by
  obtain ⟨⟨rI, rC, rN⟩, ⟨rO, rG⟩, ⟨rW, rH, rF, rT⟩, ⟨rM, rB, rX⟩, ⟨rQ, rA⟩, ⟨rE, rD⟩⟩ := r
  exact va_recv (q0 := 0) (ci := 5) (q := (RRM, TRM, 16)) hK hP rfl rfl
theorem wL_as {cI cL : ClassId} {a : Nat → Nat} {v : CS} {f : Nat → Int64} {Z : va_W} : wL cI cL a (v, f) ++ Z = [] ++ (wC cI cL a v ++ ([(a 19, .inl (cL, 1, .inr (.inl f)))] ++ Z)) := by
  unfold wL
  rw [List.append_assoc]
  rfl
section LR
variable {p : Program} {l : Launch} {e : Env} {R : Room} {s : State} {m : MethodId} {args : Array Value} {below : List Frame} {meth : Method} {c : Code} {H : Heap} {locs : List Loc} {cells slots : Nat} {Q : State → Prop}
variable {cc : ByteArray} {pc : Nat} {ls : Array Slot} {rest : List Value}
theorem ir_sld (hexec : p.tables.exec = Jvm.exec) (hb : c.code = cc) {b L : Nat} {xs : Nat → Int32} (hX : va_X b L xs s s.heap) (hbl : b < s.heap.size) (hS : va_S (lA s) s.heap H locs) {k : Nat} (hk : k < L) (hL : L ≤ 3073) (hdg : decode cc pc = .ok (.iaload, 1))
    (kk : W p l e R s m args below meth c H locs cells slots Q (F0 m (pc + 1) ls (.int (xs k) :: rest))) : W p l e R s m args below meth c H locs cells slots Q (F0 m pc ls (.int (nI k) :: .ref b :: rest)) := by
  refine va_sld hexec hb hX hbl (fun h : s.heap.size ≤ b => by omega) hS (vp_in_nI hk (by omega)) hdg ?_
  rw [nI_clamp (by omega)]
  exact kk
/-- a boolean out of an int: not 0 -/
theorem w_nz (hexec : p.tables.exec = Jvm.exec) (hb : c.code = cc) {x : Int32} (d0 : decode cc pc = .ok (.ifCond .eq 7, 3)) (d1 : decode cc (pc + 3) = .ok (.iconst 1, 1)) (d2 : decode cc (pc + 4) = .ok (.goto 4, 3)) (d3 : decode cc (pc + 7) = .ok (.iconst 0, 1))
    (kk : W p l e R s m args below meth c H locs cells slots Q (F0 m (pc + 8) ls (.int (bi (dNz x)) :: rest))) : W p l e R s m args below meth c H locs cells slots Q (F0 m pc ls (.int x :: rest)) := by
  refine lv_if_eq hexec hb (tgt := pc + 7) d0 (by omega) (fun c1 => ?_) (fun c1 => ?_)
  · refine lv_iconst (v := 0) hexec hb d3 (by decide) ?_
    have : bi (dNz x) = 0 := by unfold dNz; rw [if_pos c1]; rfl
    rw [this] at kk; exact kk
  · refine lv_iconst (v := 1) hexec hb d1 (by decide) ?_
    refine lv_goto hexec hb (tgt := pc + 8) d2 (by omega) ?_
    have : bi (dNz x) = 1 := by unfold dNz; rw [if_neg c1]; rfl
    rw [this] at kk; exact kk
theorem lA_keep {s : State} {H : Heap} {locs : List Loc} (hS : va_S (lA s) s.heap H locs) : ∀ (q : Addr) (cell : Cell), s.heap[q]? = some cell → cell.vm.isStatics = true → H[q]? = some cell := fun q cell h _ => by
  have h1 := (Array.getElem?_eq_some_iff.mp h).1
  rw [hS.2.1 q h1 (fun h2 : s.heap.size ≤ q => by omega)]; exact h
end LR
set_option maxHeartbeats 4000000 in
set_option maxRecDepth 100000 in
theorem law_port {p : Program} {l : Launch} {e : Env} {s : State} {m : MethodId} {below : List Frame} {meth : Method} {c : Code} {Q : State → Prop} {b L : Nat} {xs : Nat → Int32} {D : va_G} {cI cL cZ : ClassId} {a a' : Nat → Nat} (C : lx p s m meth c b L xs D cI cL cZ a a') {j : Nat} (hj : 6 * j + 7 ≤ L) {v : CS} {fo : Nat → Int64} {r : RS} {k : Int32} {v' : CS} {fo' : Nat → Int64} {bb : Bool} {r' : RS} (h1 : hMet l D cI cL a yLW_port wsLW_port 5 [.ref (a 0), .int (xs (6 * j + 1 + 1)), .int (bi (dNz (xs (6 * j + 1 + 2)))), .ref (a 19)] (v, fo) k (v', fo')) (h2 : rMet l D cI cZ a' yRM_port wsRM_port 5 [.ref (a' 0), .int (xs (6 * j + 1 + 1)), .int (bi (dNz (xs (6 * j + 1 + 2))))] r (bi bb) r') (hc : codeR r' = k) (hz : k = 0 → fo' 0 = cond bb 1 0) {ls : Array Slot} {H : Heap} {locs : List Loc} (hP : va_P D vwCl (wL cI cL a (v, fo) ++ wR cI cZ a' r) H) (hS : va_S (lA s) s.heap H locs) (hl : lv_has ls 7 [(0, .ref b), (1, .ref (a 0)), (2, .ref (a' 0)), (3, .ref (a 19)), (4, .int (nI (6 * j + 1)))])
    (kk : ∀ (ls : Array Slot) (H : Heap) (locs : List Loc), va_P D vwCl (wL cI cL a (v', fo') ++ wR cI cZ a' r') H → va_S (lA s) s.heap H locs → lv_has ls 7 [(0, .ref b), (1, .ref (a 0)), (2, .ref (a' 0)), (3, .ref (a 19)), (4, .int (nI (6 * j + 1)))] → W p l e room_1 s m #[Value.ref b] below meth c H locs (32 + j) (3041 + 6 * j) Q (F0 m 1047 ls [])) : W p l e room_1 s m #[Value.ref b] below meth c H locs (31 + j) (3035 + 6 * j) Q (F0 m 128 ls []) := by
  obtain ⟨⟨hx, hb, hml, hown, hts⟩, ⟨hr, hlocks⟩, ⟨hX, hbl, hL⟩, ⟨hK, hKR, hT⟩, hDD, hIa, hIb⟩ := C
  obtain ⟨m1, e1, e2, e3, M1⟩ := h1
  obtain ⟨m2, g1, g2, g3, M2⟩ := h2
  have hAa : ∀ q, aS a 20 q → lA s q := fun q h => by obtain ⟨k0, h0, h9⟩ := h; obtain ⟨ee, he⟩ := adr_in (wL_ad cI cL a (v, fo)) h0; subst h9; exact (hDD v fo r).2 k0 _ (by rw [List.getElem?_append_left ((List.getElem?_eq_some_iff.mp he).1)]; exact he)
  have hAb : ∀ q, aS a' 11 q → lA s q := fun q h => by obtain ⟨k0, h0, h9⟩ := h; obtain ⟨ee, he⟩ := adr_in (wR_ad cI cZ a' r) h0; subst h9; exact (hDD v fo r).2 ((wL cI cL a (v, fo)).length + k0) _ (by rw [List.getElem?_append_right (by omega), show (wL cI cL a (v, fo)).length + k0 - (wL cI cL a (v, fo)).length = k0 by omega]; exact he)
  refine lv_aload_n hx hb dLaw_128 rfl (lv_at hl 1 rfl) ?_
  refine lv_aload_n hx hb dLaw_129 rfl (lv_at hl 0 rfl) ?_
  refine lv_iload hx hb dLaw_130 (lv_at hl 4 rfl) ?_
  refine lv_iconst (v := nI 1) hx hb dLaw_132 (by decide) ?_
  refine lv_iadd hx hb dLaw_133 ?_
  refine lv_eqi (y := nI (6 * j + 1 + 1)) (nI_add (6 * j + 1) 1) ?_
  refine ir_sld hx hb hX hbl hS (by omega) hL dLaw_134 ?_
  refine lv_aload_n hx hb dLaw_135 rfl (lv_at hl 0 rfl) ?_
  refine lv_iload hx hb dLaw_136 (lv_at hl 4 rfl) ?_
  refine lv_iconst (v := nI 2) hx hb dLaw_138 (by decide) ?_
  refine lv_iadd hx hb dLaw_139 ?_
  refine lv_eqi (y := nI (6 * j + 1 + 2)) (nI_add (6 * j + 1) 2) ?_
  refine ir_sld hx hb hX hbl hS (by omega) hL dLaw_140 ?_
  refine w_nz hx hb dLaw_141 dLaw_144 dLaw_145 dLaw_148 ?_
  refine lv_aload_n hx hb dLaw_149 rfl (lv_at hl 3 rfl) ?_
  refine w_callSi (a := a) (n0 := 20) (w := wL cI cL a) (v := (v, fo)) (v' := (v', fo')) (Y := []) (X := wR cI cZ a' r) (As := [.ref (a 0), .int (xs (6 * j + 1 + 1)), .int (bi (dNz (xs (6 * j + 1 + 2)))), .ref (a 19)]) (rest := []) ⟨hx, hb, hml, hown, hts⟩ (gw_c k279 bigW_good) M1 List.mem_cons_self (hts _ k277) (hts _ k278) (hts _ k26) e1 e2 e3 (n := 4) (by decide +kernel) hK hT (lA_keep hS) (wL_ad cI cL a _) hP (hDD _ _ _) rfl hl.1 rfl (Nat.le_of_ble_eq_true rfl) dLaw_150 ⟨by show _ ≤ 1064; omega, by show _ ≤ 11281; omega⟩ hAa hS (fun H locs hP hS => ?_)
  have hP : va_P D vwCl (wL cI cL a (v', fo') ++ wR cI cZ a' r) H := hP
  refine W.widen (k := 32 + j) (n := 3041 + 6 * j) (by omega) (by omega) ?_
  refine lv_istore (lv' := (5, .int k) :: [(0, .ref b), (1, .ref (a 0)), (2, .ref (a' 0)), (3, .ref (a 19)), (4, .int (nI (6 * j + 1)))]) hx hb dLaw_153 hl (by decide) rfl (fun ls hl => ?_)
  refine lv_aload_n hx hb dLaw_155 rfl (lv_at hl 3 rfl) ?_
  refine lv_aload_n hx hb dLaw_156 rfl (lv_at hl 1 rfl) ?_
  refine lv_iload hx hb dLaw_157 (lv_at hl 5 rfl) ?_
  refine lv_iconst (v := nI 1) hx hb dLaw_159 (by decide) ?_
  refine lv_iadd hx hb dLaw_160 ?_
  refine lv_eqi (y := nI (6 * j + 1 + 1)) (nI_add (6 * j + 1) 1) ?_
  refine ir_sld hx hb hX hbl hS (by omega) hL dLaw_161 ?_
  refine lv_aload_n hx hb dLaw_162 rfl (lv_at hl 1 rfl) ?_
  refine lv_iload hx hb dLaw_163 (lv_at hl 5 rfl) ?_
  refine lv_iconst (v := nI 2) hx hb dLaw_165 (by decide) ?_
  refine lv_iadd hx hb dLaw_166 ?_
  refine lv_eqi (y := nI (6 * j + 1 + 2)) (nI_add (6 * j + 1) 2) ?_
  refine ir_sld hx hb hX hbl hS (by omega) hL dLaw_167 ?_
  refine w_nz hx hb dLaw_168 dLaw_171 dLaw_172 dLaw_175 ?_
  refine w_callVi (a := a') (n0 := 11) (w := wR cI cZ a') (v := r) (v' := r') (Y := wL cI cL a (v', fo')) (X := []) (As := [.int (xs (6 * j + 1 + 1)), .int (bi (dNz (xs (6 * j + 1 + 2))))]) (rest := []) ⟨hx, hb, hml, hown, hts⟩ M2 (cwV 2 hts (gw_V k629 k630 k631 k32 k632) rfl g1 g2 (by decide +kernel) g3) hKR (wR_ad cI cZ a' r) (by rw [List.append_nil]; exact hP) (by rw [List.append_nil]; exact hDD _ _ _) (wR_rc hKR (va_P_right hP)) rfl hl.1 rfl (Nat.le_of_ble_eq_true rfl) dLaw_176 ⟨by show _ ≤ 1064; omega, by show _ ≤ 11281; omega⟩ hAb hS (fun H locs hP hS => ?_)
  rw [List.append_nil] at hP
  refine lv_istore (lv' := (6, .int (bi bb)) :: (5, .int k) :: [(0, .ref b), (1, .ref (a 0)), (2, .ref (a' 0)), (3, .ref (a 19)), (4, .int (nI (6 * j + 1)))]) hx hb dLaw_179 hl (by decide) rfl (fun ls hl => ?_)
  refine lv_aload_n hx hb dLaw_181 rfl (lv_at hl 4 rfl) ?_
  refine g_roVi (w := wR cI cZ a') (v := r') (As := []) (rest := []) ⟨hx, hb, hml, hown, hts⟩ (thrown_any l r') (cwV 0 hts (gw_V k625 k626 k627 k32 k628) rfl rfl rfl (by decide +kernel) ⟨by decide, by decide⟩) hKR (va_P_right hP) (wR_rc hKR (va_P_right hP)) rfl hl.1 rfl (Nat.le_of_ble_eq_true rfl) dLaw_182 ⟨by show _ ≤ 1064; omega, by show _ ≤ 11281; omega⟩ ?_
  refine lv_iload hx hb dLaw_185 (lv_at hl 1 rfl) ?_
  refine lv_icmp_eq hx hb (tgt := 192) dLaw_187 (by decide) (fun _ => ?_) (fun h9 => absurd hc h9)
  refine lv_iload hx hb dLaw_192 (lv_at hl 1 rfl) ?_
  have fin : W p l e room_1 s m #[Value.ref b] below meth c H locs (32 + j) (3041 + 6 * j) Q (F0 m 216 ls []) := lv_goto hx hb (tgt := 1047) dLaw_216 (by decide) (kk ls H locs hP hS (lv_sub hl [2, 3, 4, 5, 6] rfl))
  refine lv_if_ne hx hb (tgt := 216) dLaw_194 (by decide) (fun _ => fin) (fun hk0 => ?_)
  refine lv_aload_n hx hb dLaw_197 rfl (lv_at hl 5 rfl) ?_
  refine lv_iconst (v := nI 0) hx hb dLaw_198 (by decide) ?_
  refine ir_lald hx hb hK hP 19 1 wL_out rfl (k := 0) (by decide) (by decide) dLaw_199 ?_
  refine lv_iload hx hb dLaw_200 (lv_at hl 0 rfl) ?_
  refine lv_if_eqb hx hb (tgt := 209) dLaw_202 (by decide) (fun c1 => ?_) (fun c1 => ?_)
  · refine lv_lconst (v := 0) hx hb dLaw_209 (by decide) ?_
    exact lv_lif_eq hx hb (tgt := 216) dLaw_210 dLaw_211 (by decide) (fun _ => fin) (fun h9 => absurd ((hz hk0).trans (cond_no c1)) h9)
  · refine lv_lconst (v := 1) hx hb dLaw_205 (by decide) ?_
    refine lv_goto hx hb (tgt := 210) dLaw_206 (by decide) ?_
    exact lv_lif_eq hx hb (tgt := 216) dLaw_210 dLaw_211 (by decide) (fun _ => fin) (fun h9 => absurd ((hz hk0).trans (cond_yes c1)) h9)
set_option maxHeartbeats 4000000 in
set_option maxRecDepth 100000 in
theorem law_greeting {p : Program} {l : Launch} {e : Env} {s : State} {m : MethodId} {below : List Frame} {meth : Method} {c : Code} {Q : State → Prop} {b L : Nat} {xs : Nat → Int32} {D : va_G} {cI cL cZ : ClassId} {a a' : Nat → Nat} (C : lx p s m meth c b L xs D cI cL cZ a a') {j : Nat} (hj : 6 * j + 7 ≤ L) {v : CS} {fo : Nat → Int64} {r : RS} {k : Int32} {v' : CS} {fo' : Nat → Int64} {bb : Int32} {r' : RS} (h1 : hMet l D cI cL a yLW_greeting wsLW_greeting 6 [.ref (a 0), .int (xs (6 * j + 1 + 1)), .int (xs (6 * j + 1 + 2)), .int (bi (dNz (xs (6 * j + 1 + 3)))), .ref (a 19)] (v, fo) k (v', fo')) (h2 : rMet l D cI cZ a' yRM_greeting wsRM_greeting 7 [.ref (a' 0), .int (xs (6 * j + 1 + 1)), .int (xs (6 * j + 1 + 2)), .int (bi (dNz (xs (6 * j + 1 + 3))))] r (bb) r') (hc : codeR r' = k) (hz : k = 0 → fo' 0 = bb.toInt64) {ls : Array Slot} {H : Heap} {locs : List Loc} (hP : va_P D vwCl (wL cI cL a (v, fo) ++ wR cI cZ a' r) H) (hS : va_S (lA s) s.heap H locs) (hl : lv_has ls 7 [(0, .ref b), (1, .ref (a 0)), (2, .ref (a' 0)), (3, .ref (a 19)), (4, .int (nI (6 * j + 1)))])
    (kk : ∀ (ls : Array Slot) (H : Heap) (locs : List Loc), va_P D vwCl (wL cI cL a (v', fo') ++ wR cI cZ a' r') H → va_S (lA s) s.heap H locs → lv_has ls 7 [(0, .ref b), (1, .ref (a 0)), (2, .ref (a' 0)), (3, .ref (a 19)), (4, .int (nI (6 * j + 1)))] → W p l e room_1 s m #[Value.ref b] below meth c H locs (32 + j) (3041 + 6 * j) Q (F0 m 1047 ls [])) : W p l e room_1 s m #[Value.ref b] below meth c H locs (31 + j) (3035 + 6 * j) Q (F0 m 219 ls []) := by
  obtain ⟨⟨hx, hb, hml, hown, hts⟩, ⟨hr, hlocks⟩, ⟨hX, hbl, hL⟩, ⟨hK, hKR, hT⟩, hDD, hIa, hIb⟩ := C
  obtain ⟨m1, e1, e2, e3, M1⟩ := h1
  obtain ⟨m2, g1, g2, g3, M2⟩ := h2
  have hAa : ∀ q, aS a 20 q → lA s q := fun q h => by obtain ⟨k0, h0, h9⟩ := h; obtain ⟨ee, he⟩ := adr_in (wL_ad cI cL a (v, fo)) h0; subst h9; exact (hDD v fo r).2 k0 _ (by rw [List.getElem?_append_left ((List.getElem?_eq_some_iff.mp he).1)]; exact he)
  have hAb : ∀ q, aS a' 11 q → lA s q := fun q h => by obtain ⟨k0, h0, h9⟩ := h; obtain ⟨ee, he⟩ := adr_in (wR_ad cI cZ a' r) h0; subst h9; exact (hDD v fo r).2 ((wL cI cL a (v, fo)).length + k0) _ (by rw [List.getElem?_append_right (by omega), show (wL cI cL a (v, fo)).length + k0 - (wL cI cL a (v, fo)).length = k0 by omega]; exact he)
  refine lv_aload_n hx hb dLaw_219 rfl (lv_at hl 1 rfl) ?_
  refine lv_aload_n hx hb dLaw_220 rfl (lv_at hl 0 rfl) ?_
  refine lv_iload hx hb dLaw_221 (lv_at hl 4 rfl) ?_
  refine lv_iconst (v := nI 1) hx hb dLaw_223 (by decide) ?_
  refine lv_iadd hx hb dLaw_224 ?_
  refine lv_eqi (y := nI (6 * j + 1 + 1)) (nI_add (6 * j + 1) 1) ?_
  refine ir_sld hx hb hX hbl hS (by omega) hL dLaw_225 ?_
  refine lv_aload_n hx hb dLaw_226 rfl (lv_at hl 0 rfl) ?_
  refine lv_iload hx hb dLaw_227 (lv_at hl 4 rfl) ?_
  refine lv_iconst (v := nI 2) hx hb dLaw_229 (by decide) ?_
  refine lv_iadd hx hb dLaw_230 ?_
  refine lv_eqi (y := nI (6 * j + 1 + 2)) (nI_add (6 * j + 1) 2) ?_
  refine ir_sld hx hb hX hbl hS (by omega) hL dLaw_231 ?_
  refine lv_aload_n hx hb dLaw_232 rfl (lv_at hl 0 rfl) ?_
  refine lv_iload hx hb dLaw_233 (lv_at hl 4 rfl) ?_
  refine lv_iconst (v := nI 3) hx hb dLaw_235 (by decide) ?_
  refine lv_iadd hx hb dLaw_236 ?_
  refine lv_eqi (y := nI (6 * j + 1 + 3)) (nI_add (6 * j + 1) 3) ?_
  refine ir_sld hx hb hX hbl hS (by omega) hL dLaw_237 ?_
  refine w_nz hx hb dLaw_238 dLaw_241 dLaw_242 dLaw_245 ?_
  refine lv_aload_n hx hb dLaw_246 rfl (lv_at hl 3 rfl) ?_
  refine w_callSi (a := a) (n0 := 20) (w := wL cI cL a) (v := (v, fo)) (v' := (v', fo')) (Y := []) (X := wR cI cZ a' r) (As := [.ref (a 0), .int (xs (6 * j + 1 + 1)), .int (xs (6 * j + 1 + 2)), .int (bi (dNz (xs (6 * j + 1 + 3)))), .ref (a 19)]) (rest := []) ⟨hx, hb, hml, hown, hts⟩ (gw_c k373 bigW_good) M1 List.mem_cons_self (hts _ k371) (hts _ k372) (hts _ k26) e1 e2 e3 (n := 5) (by decide +kernel) hK hT (lA_keep hS) (wL_ad cI cL a _) hP (hDD _ _ _) rfl hl.1 rfl (Nat.le_of_ble_eq_true rfl) dLaw_247 ⟨by show _ ≤ 1064; omega, by show _ ≤ 11281; omega⟩ hAa hS (fun H locs hP hS => ?_)
  have hP : va_P D vwCl (wL cI cL a (v', fo') ++ wR cI cZ a' r) H := hP
  refine W.widen (k := 32 + j) (n := 3041 + 6 * j) (by omega) (by omega) ?_
  refine lv_istore (lv' := (5, .int k) :: [(0, .ref b), (1, .ref (a 0)), (2, .ref (a' 0)), (3, .ref (a 19)), (4, .int (nI (6 * j + 1)))]) hx hb dLaw_250 hl (by decide) rfl (fun ls hl => ?_)
  refine lv_aload_n hx hb dLaw_252 rfl (lv_at hl 3 rfl) ?_
  refine lv_aload_n hx hb dLaw_253 rfl (lv_at hl 1 rfl) ?_
  refine lv_iload hx hb dLaw_254 (lv_at hl 5 rfl) ?_
  refine lv_iconst (v := nI 1) hx hb dLaw_256 (by decide) ?_
  refine lv_iadd hx hb dLaw_257 ?_
  refine lv_eqi (y := nI (6 * j + 1 + 1)) (nI_add (6 * j + 1) 1) ?_
  refine ir_sld hx hb hX hbl hS (by omega) hL dLaw_258 ?_
  refine lv_aload_n hx hb dLaw_259 rfl (lv_at hl 1 rfl) ?_
  refine lv_iload hx hb dLaw_260 (lv_at hl 5 rfl) ?_
  refine lv_iconst (v := nI 2) hx hb dLaw_262 (by decide) ?_
  refine lv_iadd hx hb dLaw_263 ?_
  refine lv_eqi (y := nI (6 * j + 1 + 2)) (nI_add (6 * j + 1) 2) ?_
  refine ir_sld hx hb hX hbl hS (by omega) hL dLaw_264 ?_
  refine lv_aload_n hx hb dLaw_265 rfl (lv_at hl 1 rfl) ?_
  refine lv_iload hx hb dLaw_266 (lv_at hl 5 rfl) ?_
  refine lv_iconst (v := nI 3) hx hb dLaw_268 (by decide) ?_
  refine lv_iadd hx hb dLaw_269 ?_
  refine lv_eqi (y := nI (6 * j + 1 + 3)) (nI_add (6 * j + 1) 3) ?_
  refine ir_sld hx hb hX hbl hS (by omega) hL dLaw_270 ?_
  refine w_nz hx hb dLaw_271 dLaw_274 dLaw_275 dLaw_278 ?_
  refine w_callVi (a := a') (n0 := 11) (w := wR cI cZ a') (v := r) (v' := r') (Y := wL cI cL a (v', fo')) (X := []) (As := [.int (xs (6 * j + 1 + 1)), .int (xs (6 * j + 1 + 2)), .int (bi (dNz (xs (6 * j + 1 + 3))))]) (rest := []) ⟨hx, hb, hml, hown, hts⟩ M2 (cwV 3 hts (gw_V k644 k645 k646 k32 k647) rfl g1 g2 (by decide +kernel) g3) hKR (wR_ad cI cZ a' r) (by rw [List.append_nil]; exact hP) (by rw [List.append_nil]; exact hDD _ _ _) (wR_rc hKR (va_P_right hP)) rfl hl.1 rfl (Nat.le_of_ble_eq_true rfl) dLaw_279 ⟨by show _ ≤ 1064; omega, by show _ ≤ 11281; omega⟩ hAb hS (fun H locs hP hS => ?_)
  rw [List.append_nil] at hP
  refine lv_istore (lv' := (6, .int (bb)) :: (5, .int k) :: [(0, .ref b), (1, .ref (a 0)), (2, .ref (a' 0)), (3, .ref (a 19)), (4, .int (nI (6 * j + 1)))]) hx hb dLaw_282 hl (by decide) rfl (fun ls hl => ?_)
  refine lv_aload_n hx hb dLaw_284 rfl (lv_at hl 4 rfl) ?_
  refine g_roVi (w := wR cI cZ a') (v := r') (As := []) (rest := []) ⟨hx, hb, hml, hown, hts⟩ (thrown_any l r') (cwV 0 hts (gw_V k625 k626 k627 k32 k628) rfl rfl rfl (by decide +kernel) ⟨by decide, by decide⟩) hKR (va_P_right hP) (wR_rc hKR (va_P_right hP)) rfl hl.1 rfl (Nat.le_of_ble_eq_true rfl) dLaw_285 ⟨by show _ ≤ 1064; omega, by show _ ≤ 11281; omega⟩ ?_
  refine lv_iload hx hb dLaw_288 (lv_at hl 1 rfl) ?_
  refine lv_icmp_eq hx hb (tgt := 295) dLaw_290 (by decide) (fun _ => ?_) (fun h9 => absurd hc h9)
  refine lv_iload hx hb dLaw_295 (lv_at hl 1 rfl) ?_
  have fin : W p l e room_1 s m #[Value.ref b] below meth c H locs (32 + j) (3041 + 6 * j) Q (F0 m 312 ls []) := lv_goto hx hb (tgt := 1047) dLaw_312 (by decide) (kk ls H locs hP hS (lv_sub hl [2, 3, 4, 5, 6] rfl))
  refine lv_if_ne hx hb (tgt := 312) dLaw_297 (by decide) (fun _ => fin) (fun hk0 => ?_)
  refine lv_aload_n hx hb dLaw_300 rfl (lv_at hl 5 rfl) ?_
  refine lv_iconst (v := nI 0) hx hb dLaw_301 (by decide) ?_
  refine ir_lald hx hb hK hP 19 1 wL_out rfl (k := 0) (by decide) (by decide) dLaw_302 ?_
  refine lv_iload hx hb dLaw_303 (lv_at hl 0 rfl) ?_
  refine lv_i2l (v := bb.toInt64) hx hb dLaw_305 rfl ?_
  exact lv_lif_eq hx hb (tgt := 312) dLaw_306 dLaw_307 (by decide) (fun _ => fin) (fun h9 => absurd (hz hk0) h9)
set_option maxHeartbeats 4000000 in
set_option maxRecDepth 100000 in
theorem law_advert {p : Program} {l : Launch} {e : Env} {s : State} {m : MethodId} {below : List Frame} {meth : Method} {c : Code} {Q : State → Prop} {b L : Nat} {xs : Nat → Int32} {D : va_G} {cI cL cZ : ClassId} {a a' : Nat → Nat} (C : lx p s m meth c b L xs D cI cL cZ a a') {j : Nat} (hj : 6 * j + 7 ≤ L) {v : CS} {fo : Nat → Int64} {r : RS} {k : Int32} {v' : CS} {fo' : Nat → Int64} {bb : Int32} {r' : RS} (h1 : hMet l D cI cL a yLW_advert wsLW_advert 8 [.ref (a 0), .int (xs (6 * j + 1 + 1)), .int (xs (6 * j + 1 + 2)), .int (xs (6 * j + 1 + 3)), .int (xs (6 * j + 1 + 4)), .int (xs (6 * j + 1 + 5)), .ref (a 19)] (v, fo) k (v', fo')) (h2 : rMet l D cI cZ a' yRM_advert wsRM_advert 10 [.ref (a' 0), .int (xs (6 * j + 1 + 1)), .int (xs (6 * j + 1 + 2)), .int (xs (6 * j + 1 + 3)), .int (xs (6 * j + 1 + 4)), .int (xs (6 * j + 1 + 5))] r (bb) r') (hc : codeR r' = k) (hz : k = 0 → fo' 0 = bb.toInt64) {ls : Array Slot} {H : Heap} {locs : List Loc} (hP : va_P D vwCl (wL cI cL a (v, fo) ++ wR cI cZ a' r) H) (hS : va_S (lA s) s.heap H locs) (hl : lv_has ls 7 [(0, .ref b), (1, .ref (a 0)), (2, .ref (a' 0)), (3, .ref (a 19)), (4, .int (nI (6 * j + 1)))])
    (kk : ∀ (ls : Array Slot) (H : Heap) (locs : List Loc), va_P D vwCl (wL cI cL a (v', fo') ++ wR cI cZ a' r') H → va_S (lA s) s.heap H locs → lv_has ls 7 [(0, .ref b), (1, .ref (a 0)), (2, .ref (a' 0)), (3, .ref (a 19)), (4, .int (nI (6 * j + 1)))] → W p l e room_1 s m #[Value.ref b] below meth c H locs (32 + j) (3041 + 6 * j) Q (F0 m 1047 ls [])) : W p l e room_1 s m #[Value.ref b] below meth c H locs (31 + j) (3035 + 6 * j) Q (F0 m 315 ls []) := by
  obtain ⟨⟨hx, hb, hml, hown, hts⟩, ⟨hr, hlocks⟩, ⟨hX, hbl, hL⟩, ⟨hK, hKR, hT⟩, hDD, hIa, hIb⟩ := C
  obtain ⟨m1, e1, e2, e3, M1⟩ := h1
  obtain ⟨m2, g1, g2, g3, M2⟩ := h2
  have hAa : ∀ q, aS a 20 q → lA s q := fun q h => by obtain ⟨k0, h0, h9⟩ := h; obtain ⟨ee, he⟩ := adr_in (wL_ad cI cL a (v, fo)) h0; subst h9; exact (hDD v fo r).2 k0 _ (by rw [List.getElem?_append_left ((List.getElem?_eq_some_iff.mp he).1)]; exact he)
  have hAb : ∀ q, aS a' 11 q → lA s q := fun q h => by obtain ⟨k0, h0, h9⟩ := h; obtain ⟨ee, he⟩ := adr_in (wR_ad cI cZ a' r) h0; subst h9; exact (hDD v fo r).2 ((wL cI cL a (v, fo)).length + k0) _ (by rw [List.getElem?_append_right (by omega), show (wL cI cL a (v, fo)).length + k0 - (wL cI cL a (v, fo)).length = k0 by omega]; exact he)
  refine lv_aload_n hx hb dLaw_315 rfl (lv_at hl 1 rfl) ?_
  refine lv_aload_n hx hb dLaw_316 rfl (lv_at hl 0 rfl) ?_
  refine lv_iload hx hb dLaw_317 (lv_at hl 4 rfl) ?_
  refine lv_iconst (v := nI 1) hx hb dLaw_319 (by decide) ?_
  refine lv_iadd hx hb dLaw_320 ?_
  refine lv_eqi (y := nI (6 * j + 1 + 1)) (nI_add (6 * j + 1) 1) ?_
  refine ir_sld hx hb hX hbl hS (by omega) hL dLaw_321 ?_
  refine lv_aload_n hx hb dLaw_322 rfl (lv_at hl 0 rfl) ?_
  refine lv_iload hx hb dLaw_323 (lv_at hl 4 rfl) ?_
  refine lv_iconst (v := nI 2) hx hb dLaw_325 (by decide) ?_
  refine lv_iadd hx hb dLaw_326 ?_
  refine lv_eqi (y := nI (6 * j + 1 + 2)) (nI_add (6 * j + 1) 2) ?_
  refine ir_sld hx hb hX hbl hS (by omega) hL dLaw_327 ?_
  refine lv_aload_n hx hb dLaw_328 rfl (lv_at hl 0 rfl) ?_
  refine lv_iload hx hb dLaw_329 (lv_at hl 4 rfl) ?_
  refine lv_iconst (v := nI 3) hx hb dLaw_331 (by decide) ?_
  refine lv_iadd hx hb dLaw_332 ?_
  refine lv_eqi (y := nI (6 * j + 1 + 3)) (nI_add (6 * j + 1) 3) ?_
  refine ir_sld hx hb hX hbl hS (by omega) hL dLaw_333 ?_
  refine lv_aload_n hx hb dLaw_334 rfl (lv_at hl 0 rfl) ?_
  refine lv_iload hx hb dLaw_335 (lv_at hl 4 rfl) ?_
  refine lv_iconst (v := nI 4) hx hb dLaw_337 (by decide) ?_
  refine lv_iadd hx hb dLaw_338 ?_
  refine lv_eqi (y := nI (6 * j + 1 + 4)) (nI_add (6 * j + 1) 4) ?_
  refine ir_sld hx hb hX hbl hS (by omega) hL dLaw_339 ?_
  refine lv_aload_n hx hb dLaw_340 rfl (lv_at hl 0 rfl) ?_
  refine lv_iload hx hb dLaw_341 (lv_at hl 4 rfl) ?_
  refine lv_iconst (v := nI 5) hx hb dLaw_343 (by decide) ?_
  refine lv_iadd hx hb dLaw_344 ?_
  refine lv_eqi (y := nI (6 * j + 1 + 5)) (nI_add (6 * j + 1) 5) ?_
  refine ir_sld hx hb hX hbl hS (by omega) hL dLaw_345 ?_
  refine lv_aload_n hx hb dLaw_346 rfl (lv_at hl 3 rfl) ?_
  refine w_callSi (a := a) (n0 := 20) (w := wL cI cL a) (v := (v, fo)) (v' := (v', fo')) (Y := []) (X := wR cI cZ a' r) (As := [.ref (a 0), .int (xs (6 * j + 1 + 1)), .int (xs (6 * j + 1 + 2)), .int (xs (6 * j + 1 + 3)), .int (xs (6 * j + 1 + 4)), .int (xs (6 * j + 1 + 5)), .ref (a 19)]) (rest := []) ⟨hx, hb, hml, hown, hts⟩ (gw_c k429 bigW_good) M1 List.mem_cons_self (hts _ k427) (hts _ k428) (hts _ k26) e1 e2 e3 (n := 7) (by decide +kernel) hK hT (lA_keep hS) (wL_ad cI cL a _) hP (hDD _ _ _) rfl hl.1 rfl (Nat.le_of_ble_eq_true rfl) dLaw_347 ⟨by show _ ≤ 1064; omega, by show _ ≤ 11281; omega⟩ hAa hS (fun H locs hP hS => ?_)
  have hP : va_P D vwCl (wL cI cL a (v', fo') ++ wR cI cZ a' r) H := hP
  refine W.widen (k := 32 + j) (n := 3041 + 6 * j) (by omega) (by omega) ?_
  refine lv_istore (lv' := (5, .int k) :: [(0, .ref b), (1, .ref (a 0)), (2, .ref (a' 0)), (3, .ref (a 19)), (4, .int (nI (6 * j + 1)))]) hx hb dLaw_350 hl (by decide) rfl (fun ls hl => ?_)
  refine lv_aload_n hx hb dLaw_352 rfl (lv_at hl 3 rfl) ?_
  refine lv_aload_n hx hb dLaw_353 rfl (lv_at hl 1 rfl) ?_
  refine lv_iload hx hb dLaw_354 (lv_at hl 5 rfl) ?_
  refine lv_iconst (v := nI 1) hx hb dLaw_356 (by decide) ?_
  refine lv_iadd hx hb dLaw_357 ?_
  refine lv_eqi (y := nI (6 * j + 1 + 1)) (nI_add (6 * j + 1) 1) ?_
  refine ir_sld hx hb hX hbl hS (by omega) hL dLaw_358 ?_
  refine lv_aload_n hx hb dLaw_359 rfl (lv_at hl 1 rfl) ?_
  refine lv_iload hx hb dLaw_360 (lv_at hl 5 rfl) ?_
  refine lv_iconst (v := nI 2) hx hb dLaw_362 (by decide) ?_
  refine lv_iadd hx hb dLaw_363 ?_
  refine lv_eqi (y := nI (6 * j + 1 + 2)) (nI_add (6 * j + 1) 2) ?_
  refine ir_sld hx hb hX hbl hS (by omega) hL dLaw_364 ?_
  refine lv_aload_n hx hb dLaw_365 rfl (lv_at hl 1 rfl) ?_
  refine lv_iload hx hb dLaw_366 (lv_at hl 5 rfl) ?_
  refine lv_iconst (v := nI 3) hx hb dLaw_368 (by decide) ?_
  refine lv_iadd hx hb dLaw_369 ?_
  refine lv_eqi (y := nI (6 * j + 1 + 3)) (nI_add (6 * j + 1) 3) ?_
  refine ir_sld hx hb hX hbl hS (by omega) hL dLaw_370 ?_
  refine lv_aload_n hx hb dLaw_371 rfl (lv_at hl 1 rfl) ?_
  refine lv_iload hx hb dLaw_372 (lv_at hl 5 rfl) ?_
  refine lv_iconst (v := nI 4) hx hb dLaw_374 (by decide) ?_
  refine lv_iadd hx hb dLaw_375 ?_
  refine lv_eqi (y := nI (6 * j + 1 + 4)) (nI_add (6 * j + 1) 4) ?_
  refine ir_sld hx hb hX hbl hS (by omega) hL dLaw_376 ?_
  refine lv_aload_n hx hb dLaw_377 rfl (lv_at hl 1 rfl) ?_
  refine lv_iload hx hb dLaw_378 (lv_at hl 5 rfl) ?_
  refine lv_iconst (v := nI 5) hx hb dLaw_380 (by decide) ?_
  refine lv_iadd hx hb dLaw_381 ?_
  refine lv_eqi (y := nI (6 * j + 1 + 5)) (nI_add (6 * j + 1) 5) ?_
  refine ir_sld hx hb hX hbl hS (by omega) hL dLaw_382 ?_
  refine w_callVi (a := a') (n0 := 11) (w := wR cI cZ a') (v := r) (v' := r') (Y := wL cI cL a (v', fo')) (X := []) (As := [.int (xs (6 * j + 1 + 1)), .int (xs (6 * j + 1 + 2)), .int (xs (6 * j + 1 + 3)), .int (xs (6 * j + 1 + 4)), .int (xs (6 * j + 1 + 5))]) (rest := []) ⟨hx, hb, hml, hown, hts⟩ M2 (cwV 5 hts (gw_V k656 k657 k658 k32 k659) rfl g1 g2 (by decide +kernel) g3) hKR (wR_ad cI cZ a' r) (by rw [List.append_nil]; exact hP) (by rw [List.append_nil]; exact hDD _ _ _) (wR_rc hKR (va_P_right hP)) rfl hl.1 rfl (Nat.le_of_ble_eq_true rfl) dLaw_383 ⟨by show _ ≤ 1064; omega, by show _ ≤ 11281; omega⟩ hAb hS (fun H locs hP hS => ?_)
  rw [List.append_nil] at hP
  refine lv_istore (lv' := (6, .int (bb)) :: (5, .int k) :: [(0, .ref b), (1, .ref (a 0)), (2, .ref (a' 0)), (3, .ref (a 19)), (4, .int (nI (6 * j + 1)))]) hx hb dLaw_386 hl (by decide) rfl (fun ls hl => ?_)
  refine lv_aload_n hx hb dLaw_388 rfl (lv_at hl 4 rfl) ?_
  refine g_roVi (w := wR cI cZ a') (v := r') (As := []) (rest := []) ⟨hx, hb, hml, hown, hts⟩ (thrown_any l r') (cwV 0 hts (gw_V k625 k626 k627 k32 k628) rfl rfl rfl (by decide +kernel) ⟨by decide, by decide⟩) hKR (va_P_right hP) (wR_rc hKR (va_P_right hP)) rfl hl.1 rfl (Nat.le_of_ble_eq_true rfl) dLaw_389 ⟨by show _ ≤ 1064; omega, by show _ ≤ 11281; omega⟩ ?_
  refine lv_iload hx hb dLaw_392 (lv_at hl 1 rfl) ?_
  refine lv_icmp_eq hx hb (tgt := 399) dLaw_394 (by decide) (fun _ => ?_) (fun h9 => absurd hc h9)
  refine lv_iload hx hb dLaw_399 (lv_at hl 1 rfl) ?_
  have fin : W p l e room_1 s m #[Value.ref b] below meth c H locs (32 + j) (3041 + 6 * j) Q (F0 m 416 ls []) := lv_goto hx hb (tgt := 1047) dLaw_416 (by decide) (kk ls H locs hP hS (lv_sub hl [2, 3, 4, 5, 6] rfl))
  refine lv_if_ne hx hb (tgt := 416) dLaw_401 (by decide) (fun _ => fin) (fun hk0 => ?_)
  refine lv_aload_n hx hb dLaw_404 rfl (lv_at hl 5 rfl) ?_
  refine lv_iconst (v := nI 0) hx hb dLaw_405 (by decide) ?_
  refine ir_lald hx hb hK hP 19 1 wL_out rfl (k := 0) (by decide) (by decide) dLaw_406 ?_
  refine lv_iload hx hb dLaw_407 (lv_at hl 0 rfl) ?_
  refine lv_i2l (v := bb.toInt64) hx hb dLaw_409 rfl ?_
  exact lv_lif_eq hx hb (tgt := 416) dLaw_410 dLaw_411 (by decide) (fun _ => fin) (fun h9 => absurd (hz hk0) h9)
set_option maxHeartbeats 4000000 in
set_option maxRecDepth 100000 in
theorem law_thanks {p : Program} {l : Launch} {e : Env} {s : State} {m : MethodId} {below : List Frame} {meth : Method} {c : Code} {Q : State → Prop} {b L : Nat} {xs : Nat → Int32} {D : va_G} {cI cL cZ : ClassId} {a a' : Nat → Nat} (C : lx p s m meth c b L xs D cI cL cZ a a') {j : Nat} (hj : 6 * j + 7 ≤ L) {v : CS} {fo : Nat → Int64} {r : RS} {k : Int32} {v' : CS} {fo' : Nat → Int64} {bb : Bool} {r' : RS} (h1 : hMet l D cI cL a yLW_thanks wsLW_thanks 7 [.ref (a 0), .int (xs (6 * j + 1 + 1)), .int (xs (6 * j + 1 + 2)), .int (xs (6 * j + 1 + 3)), .int (xs (6 * j + 1 + 4)), .ref (a 19)] (v, fo) k (v', fo')) (h2 : rMet l D cI cZ a' yRM_thanks wsRM_thanks 7 [.ref (a' 0), .int (xs (6 * j + 1 + 1)), .int (xs (6 * j + 1 + 2)), .int (xs (6 * j + 1 + 3)), .int (xs (6 * j + 1 + 4))] r (bi bb) r') (hc : codeR r' = k) (hz : k = 0 → fo' 0 = cond bb 1 0) {ls : Array Slot} {H : Heap} {locs : List Loc} (hP : va_P D vwCl (wL cI cL a (v, fo) ++ wR cI cZ a' r) H) (hS : va_S (lA s) s.heap H locs) (hl : lv_has ls 7 [(0, .ref b), (1, .ref (a 0)), (2, .ref (a' 0)), (3, .ref (a 19)), (4, .int (nI (6 * j + 1)))])
    (kk : ∀ (ls : Array Slot) (H : Heap) (locs : List Loc), va_P D vwCl (wL cI cL a (v', fo') ++ wR cI cZ a' r') H → va_S (lA s) s.heap H locs → lv_has ls 7 [(0, .ref b), (1, .ref (a 0)), (2, .ref (a' 0)), (3, .ref (a 19)), (4, .int (nI (6 * j + 1)))] → W p l e room_1 s m #[Value.ref b] below meth c H locs (32 + j) (3041 + 6 * j) Q (F0 m 1047 ls [])) : W p l e room_1 s m #[Value.ref b] below meth c H locs (31 + j) (3035 + 6 * j) Q (F0 m 419 ls []) := by
  obtain ⟨⟨hx, hb, hml, hown, hts⟩, ⟨hr, hlocks⟩, ⟨hX, hbl, hL⟩, ⟨hK, hKR, hT⟩, hDD, hIa, hIb⟩ := C
  obtain ⟨m1, e1, e2, e3, M1⟩ := h1
  obtain ⟨m2, g1, g2, g3, M2⟩ := h2
  have hAa : ∀ q, aS a 20 q → lA s q := fun q h => by obtain ⟨k0, h0, h9⟩ := h; obtain ⟨ee, he⟩ := adr_in (wL_ad cI cL a (v, fo)) h0; subst h9; exact (hDD v fo r).2 k0 _ (by rw [List.getElem?_append_left ((List.getElem?_eq_some_iff.mp he).1)]; exact he)
  have hAb : ∀ q, aS a' 11 q → lA s q := fun q h => by obtain ⟨k0, h0, h9⟩ := h; obtain ⟨ee, he⟩ := adr_in (wR_ad cI cZ a' r) h0; subst h9; exact (hDD v fo r).2 ((wL cI cL a (v, fo)).length + k0) _ (by rw [List.getElem?_append_right (by omega), show (wL cI cL a (v, fo)).length + k0 - (wL cI cL a (v, fo)).length = k0 by omega]; exact he)
  refine lv_aload_n hx hb dLaw_419 rfl (lv_at hl 1 rfl) ?_
  refine lv_aload_n hx hb dLaw_420 rfl (lv_at hl 0 rfl) ?_
  refine lv_iload hx hb dLaw_421 (lv_at hl 4 rfl) ?_
  refine lv_iconst (v := nI 1) hx hb dLaw_423 (by decide) ?_
  refine lv_iadd hx hb dLaw_424 ?_
  refine lv_eqi (y := nI (6 * j + 1 + 1)) (nI_add (6 * j + 1) 1) ?_
  refine ir_sld hx hb hX hbl hS (by omega) hL dLaw_425 ?_
  refine lv_aload_n hx hb dLaw_426 rfl (lv_at hl 0 rfl) ?_
  refine lv_iload hx hb dLaw_427 (lv_at hl 4 rfl) ?_
  refine lv_iconst (v := nI 2) hx hb dLaw_429 (by decide) ?_
  refine lv_iadd hx hb dLaw_430 ?_
  refine lv_eqi (y := nI (6 * j + 1 + 2)) (nI_add (6 * j + 1) 2) ?_
  refine ir_sld hx hb hX hbl hS (by omega) hL dLaw_431 ?_
  refine lv_aload_n hx hb dLaw_432 rfl (lv_at hl 0 rfl) ?_
  refine lv_iload hx hb dLaw_433 (lv_at hl 4 rfl) ?_
  refine lv_iconst (v := nI 3) hx hb dLaw_435 (by decide) ?_
  refine lv_iadd hx hb dLaw_436 ?_
  refine lv_eqi (y := nI (6 * j + 1 + 3)) (nI_add (6 * j + 1) 3) ?_
  refine ir_sld hx hb hX hbl hS (by omega) hL dLaw_437 ?_
  refine lv_aload_n hx hb dLaw_438 rfl (lv_at hl 0 rfl) ?_
  refine lv_iload hx hb dLaw_439 (lv_at hl 4 rfl) ?_
  refine lv_iconst (v := nI 4) hx hb dLaw_441 (by decide) ?_
  refine lv_iadd hx hb dLaw_442 ?_
  refine lv_eqi (y := nI (6 * j + 1 + 4)) (nI_add (6 * j + 1) 4) ?_
  refine ir_sld hx hb hX hbl hS (by omega) hL dLaw_443 ?_
  refine lv_aload_n hx hb dLaw_444 rfl (lv_at hl 3 rfl) ?_
  refine w_callSi (a := a) (n0 := 20) (w := wL cI cL a) (v := (v, fo)) (v' := (v', fo')) (Y := []) (X := wR cI cZ a' r) (As := [.ref (a 0), .int (xs (6 * j + 1 + 1)), .int (xs (6 * j + 1 + 2)), .int (xs (6 * j + 1 + 3)), .int (xs (6 * j + 1 + 4)), .ref (a 19)]) (rest := []) ⟨hx, hb, hml, hown, hts⟩ (gw_c k470 bigW_good) M1 List.mem_cons_self (hts _ k468) (hts _ k469) (hts _ k26) e1 e2 e3 (n := 6) (by decide +kernel) hK hT (lA_keep hS) (wL_ad cI cL a _) hP (hDD _ _ _) rfl hl.1 rfl (Nat.le_of_ble_eq_true rfl) dLaw_445 ⟨by show _ ≤ 1064; omega, by show _ ≤ 11281; omega⟩ hAa hS (fun H locs hP hS => ?_)
  have hP : va_P D vwCl (wL cI cL a (v', fo') ++ wR cI cZ a' r) H := hP
  refine W.widen (k := 32 + j) (n := 3041 + 6 * j) (by omega) (by omega) ?_
  refine lv_istore (lv' := (5, .int k) :: [(0, .ref b), (1, .ref (a 0)), (2, .ref (a' 0)), (3, .ref (a 19)), (4, .int (nI (6 * j + 1)))]) hx hb dLaw_448 hl (by decide) rfl (fun ls hl => ?_)
  refine lv_aload_n hx hb dLaw_450 rfl (lv_at hl 3 rfl) ?_
  refine lv_aload_n hx hb dLaw_451 rfl (lv_at hl 1 rfl) ?_
  refine lv_iload hx hb dLaw_452 (lv_at hl 5 rfl) ?_
  refine lv_iconst (v := nI 1) hx hb dLaw_454 (by decide) ?_
  refine lv_iadd hx hb dLaw_455 ?_
  refine lv_eqi (y := nI (6 * j + 1 + 1)) (nI_add (6 * j + 1) 1) ?_
  refine ir_sld hx hb hX hbl hS (by omega) hL dLaw_456 ?_
  refine lv_aload_n hx hb dLaw_457 rfl (lv_at hl 1 rfl) ?_
  refine lv_iload hx hb dLaw_458 (lv_at hl 5 rfl) ?_
  refine lv_iconst (v := nI 2) hx hb dLaw_460 (by decide) ?_
  refine lv_iadd hx hb dLaw_461 ?_
  refine lv_eqi (y := nI (6 * j + 1 + 2)) (nI_add (6 * j + 1) 2) ?_
  refine ir_sld hx hb hX hbl hS (by omega) hL dLaw_462 ?_
  refine lv_aload_n hx hb dLaw_463 rfl (lv_at hl 1 rfl) ?_
  refine lv_iload hx hb dLaw_464 (lv_at hl 5 rfl) ?_
  refine lv_iconst (v := nI 3) hx hb dLaw_466 (by decide) ?_
  refine lv_iadd hx hb dLaw_467 ?_
  refine lv_eqi (y := nI (6 * j + 1 + 3)) (nI_add (6 * j + 1) 3) ?_
  refine ir_sld hx hb hX hbl hS (by omega) hL dLaw_468 ?_
  refine lv_aload_n hx hb dLaw_469 rfl (lv_at hl 1 rfl) ?_
  refine lv_iload hx hb dLaw_470 (lv_at hl 5 rfl) ?_
  refine lv_iconst (v := nI 4) hx hb dLaw_472 (by decide) ?_
  refine lv_iadd hx hb dLaw_473 ?_
  refine lv_eqi (y := nI (6 * j + 1 + 4)) (nI_add (6 * j + 1) 4) ?_
  refine ir_sld hx hb hX hbl hS (by omega) hL dLaw_474 ?_
  refine w_callVi (a := a') (n0 := 11) (w := wR cI cZ a') (v := r) (v' := r') (Y := wL cI cL a (v', fo')) (X := []) (As := [.int (xs (6 * j + 1 + 1)), .int (xs (6 * j + 1 + 2)), .int (xs (6 * j + 1 + 3)), .int (xs (6 * j + 1 + 4))]) (rest := []) ⟨hx, hb, hml, hown, hts⟩ M2 (cwV 4 hts (gw_V k669 k670 k671 k32 k672) rfl g1 g2 (by decide +kernel) g3) hKR (wR_ad cI cZ a' r) (by rw [List.append_nil]; exact hP) (by rw [List.append_nil]; exact hDD _ _ _) (wR_rc hKR (va_P_right hP)) rfl hl.1 rfl (Nat.le_of_ble_eq_true rfl) dLaw_475 ⟨by show _ ≤ 1064; omega, by show _ ≤ 11281; omega⟩ hAb hS (fun H locs hP hS => ?_)
  rw [List.append_nil] at hP
  refine lv_istore (lv' := (6, .int (bi bb)) :: (5, .int k) :: [(0, .ref b), (1, .ref (a 0)), (2, .ref (a' 0)), (3, .ref (a 19)), (4, .int (nI (6 * j + 1)))]) hx hb dLaw_478 hl (by decide) rfl (fun ls hl => ?_)
  refine lv_aload_n hx hb dLaw_480 rfl (lv_at hl 4 rfl) ?_
  refine g_roVi (w := wR cI cZ a') (v := r') (As := []) (rest := []) ⟨hx, hb, hml, hown, hts⟩ (thrown_any l r') (cwV 0 hts (gw_V k625 k626 k627 k32 k628) rfl rfl rfl (by decide +kernel) ⟨by decide, by decide⟩) hKR (va_P_right hP) (wR_rc hKR (va_P_right hP)) rfl hl.1 rfl (Nat.le_of_ble_eq_true rfl) dLaw_481 ⟨by show _ ≤ 1064; omega, by show _ ≤ 11281; omega⟩ ?_
  refine lv_iload hx hb dLaw_484 (lv_at hl 1 rfl) ?_
  refine lv_icmp_eq hx hb (tgt := 491) dLaw_486 (by decide) (fun _ => ?_) (fun h9 => absurd hc h9)
  refine lv_iload hx hb dLaw_491 (lv_at hl 1 rfl) ?_
  have fin : W p l e room_1 s m #[Value.ref b] below meth c H locs (32 + j) (3041 + 6 * j) Q (F0 m 515 ls []) := lv_goto hx hb (tgt := 1047) dLaw_515 (by decide) (kk ls H locs hP hS (lv_sub hl [2, 3, 4, 5, 6] rfl))
  refine lv_if_ne hx hb (tgt := 515) dLaw_493 (by decide) (fun _ => fin) (fun hk0 => ?_)
  refine lv_aload_n hx hb dLaw_496 rfl (lv_at hl 5 rfl) ?_
  refine lv_iconst (v := nI 0) hx hb dLaw_497 (by decide) ?_
  refine ir_lald hx hb hK hP 19 1 wL_out rfl (k := 0) (by decide) (by decide) dLaw_498 ?_
  refine lv_iload hx hb dLaw_499 (lv_at hl 0 rfl) ?_
  refine lv_if_eqb hx hb (tgt := 508) dLaw_501 (by decide) (fun c1 => ?_) (fun c1 => ?_)
  · refine lv_lconst (v := 0) hx hb dLaw_508 (by decide) ?_
    exact lv_lif_eq hx hb (tgt := 515) dLaw_509 dLaw_510 (by decide) (fun _ => fin) (fun h9 => absurd ((hz hk0).trans (cond_no c1)) h9)
  · refine lv_lconst (v := 1) hx hb dLaw_504 (by decide) ?_
    refine lv_goto hx hb (tgt := 509) dLaw_505 (by decide) ?_
    exact lv_lif_eq hx hb (tgt := 515) dLaw_509 dLaw_510 (by decide) (fun _ => fin) (fun h9 => absurd ((hz hk0).trans (cond_yes c1)) h9)
set_option maxHeartbeats 4000000 in
set_option maxRecDepth 100000 in
theorem law_own {p : Program} {l : Launch} {e : Env} {s : State} {m : MethodId} {below : List Frame} {meth : Method} {c : Code} {Q : State → Prop} {b L : Nat} {xs : Nat → Int32} {D : va_G} {cI cL cZ : ClassId} {a a' : Nat → Nat} (C : lx p s m meth c b L xs D cI cL cZ a a') {j : Nat} (hj : 6 * j + 7 ≤ L) {v : CS} {fo : Nat → Int64} {r : RS} {v' : CS} {bb : Int32} {r' : RS} (h1 : cMet l D cI cL a yDB_own wsDB_own 2 [.ref (a 0), .int (xs (6 * j + 1 + 1))] v (bb) v') (h2 : rMet l D cI cZ a' yRM_own wsRM_own 2 [.ref (a' 0), .int (xs (6 * j + 1 + 1))] r (bb) r') {ls : Array Slot} {H : Heap} {locs : List Loc} (hP : va_P D vwCl (wL cI cL a (v, fo) ++ wR cI cZ a' r) H) (hS : va_S (lA s) s.heap H locs) (hl : lv_has ls 7 [(0, .ref b), (1, .ref (a 0)), (2, .ref (a' 0)), (3, .ref (a 19)), (4, .int (nI (6 * j + 1)))])
    (kk : ∀ (ls : Array Slot) (H : Heap) (locs : List Loc), va_P D vwCl (wL cI cL a (v', fo) ++ wR cI cZ a' r') H → va_S (lA s) s.heap H locs → lv_has ls 7 [(0, .ref b), (1, .ref (a 0)), (2, .ref (a' 0)), (3, .ref (a 19)), (4, .int (nI (6 * j + 1)))] → W p l e room_1 s m #[Value.ref b] below meth c H locs (32 + j) (3041 + 6 * j) Q (F0 m 1047 ls [])) : W p l e room_1 s m #[Value.ref b] below meth c H locs (31 + j) (3035 + 6 * j) Q (F0 m 518 ls []) := by
  obtain ⟨⟨hx, hb, hml, hown, hts⟩, ⟨hr, hlocks⟩, ⟨hX, hbl, hL⟩, ⟨hK, hKR, hT⟩, hDD, hIa, hIb⟩ := C
  obtain ⟨m1, e1, e2, e3, M1⟩ := h1
  obtain ⟨m2, g1, g2, g3, M2⟩ := h2
  have hAa : ∀ q, aS a 20 q → lA s q := fun q h => by obtain ⟨k0, h0, h9⟩ := h; obtain ⟨ee, he⟩ := adr_in (wL_ad cI cL a (v, fo)) h0; subst h9; exact (hDD v fo r).2 k0 _ (by rw [List.getElem?_append_left ((List.getElem?_eq_some_iff.mp he).1)]; exact he)
  have hAb : ∀ q, aS a' 11 q → lA s q := fun q h => by obtain ⟨k0, h0, h9⟩ := h; obtain ⟨ee, he⟩ := adr_in (wR_ad cI cZ a' r) h0; subst h9; exact (hDD v fo r).2 ((wL cI cL a (v, fo)).length + k0) _ (by rw [List.getElem?_append_right (by omega), show (wL cI cL a (v, fo)).length + k0 - (wL cI cL a (v, fo)).length = k0 by omega]; exact he)
  refine lv_aload_n hx hb dLaw_518 rfl (lv_at hl 1 rfl) ?_
  refine lv_aload_n hx hb dLaw_519 rfl (lv_at hl 0 rfl) ?_
  refine lv_iload hx hb dLaw_520 (lv_at hl 4 rfl) ?_
  refine lv_iconst (v := nI 1) hx hb dLaw_522 (by decide) ?_
  refine lv_iadd hx hb dLaw_523 ?_
  refine lv_eqi (y := nI (6 * j + 1 + 1)) (nI_add (6 * j + 1) 1) ?_
  refine ir_sld hx hb hX hbl hS (by omega) hL dLaw_524 ?_
  have hPc : va_P D vwCl (wC cI cL a v) H := va_P_left (va_P_left hP)
  rw [wL_as] at hP
  refine w_callVi (a := a) (n0 := 19) (w := wC cI cL a) (v := v) (v' := v') (Y := []) (X := [(a 19, .inl (cL, 1, .inr (.inl fo)))] ++ wR cI cZ a' r) (As := [.int (xs (6 * j + 1 + 1))]) (rest := []) ⟨hx, hb, hml, hown, hts⟩ M1 (cwV 1 hts (gw_V k156 k157 k158 k27 k159) rfl e1 e2 (by decide +kernel) e3) hK (wC_ad cI cL a v) hP (by have := hDD v fo r; rw [wL_as] at this; exact this) (wC_rc hK hPc) rfl hl.1 rfl (Nat.le_of_ble_eq_true rfl) dLaw_525 ⟨by show _ ≤ 1064; omega, by show _ ≤ 11281; omega⟩ (fun q h => hAa q (by obtain ⟨k0, h0, h9⟩ := h; exact ⟨k0, by omega, h9⟩)) hS (fun H locs hP hS => ?_)
  rw [← wL_as] at hP
  refine lv_aload_n hx hb dLaw_528 rfl (lv_at hl 2 rfl) ?_
  refine lv_aload_n hx hb dLaw_529 rfl (lv_at hl 0 rfl) ?_
  refine lv_iload hx hb dLaw_530 (lv_at hl 4 rfl) ?_
  refine lv_iconst (v := nI 1) hx hb dLaw_532 (by decide) ?_
  refine lv_iadd hx hb dLaw_533 ?_
  refine lv_eqi (y := nI (6 * j + 1 + 1)) (nI_add (6 * j + 1) 1) ?_
  refine ir_sld hx hb hX hbl hS (by omega) hL dLaw_534 ?_
  refine w_callVi (a := a') (n0 := 11) (w := wR cI cZ a') (v := r) (v' := r') (Y := wL cI cL a (v', fo)) (X := []) (As := [.int (xs (6 * j + 1 + 1))]) (rest := [.int (bb)]) ⟨hx, hb, hml, hown, hts⟩ M2 (cwV 1 hts (gw_V k673 k674 k675 k32 k676) rfl g1 g2 (by decide +kernel) g3) hKR (wR_ad cI cZ a' r) (by rw [List.append_nil]; exact hP) (by rw [List.append_nil]; exact hDD _ _ _) (wR_rc hKR (va_P_right hP)) rfl hl.1 rfl (Nat.le_of_ble_eq_true rfl) dLaw_535 ⟨by show _ ≤ 1064; omega, by show _ ≤ 11281; omega⟩ hAb hS (fun H locs hP hS => ?_)
  rw [List.append_nil] at hP
  refine W.widen (k := 32 + j) (n := 3041 + 6 * j) (by omega) (by omega) ?_
  exact lv_icmp_eq hx hb (tgt := 1047) dLaw_538 (by decide) (fun _ => kk ls H locs hP hS hl) (fun h9 => absurd rfl h9)
set_option maxHeartbeats 4000000 in
set_option maxRecDepth 100000 in
theorem law_forget {p : Program} {l : Launch} {e : Env} {s : State} {m : MethodId} {below : List Frame} {meth : Method} {c : Code} {Q : State → Prop} {b L : Nat} {xs : Nat → Int32} {D : va_G} {cI cL cZ : ClassId} {a a' : Nat → Nat} (C : lx p s m meth c b L xs D cI cL cZ a a') {j : Nat} (hj : 6 * j + 7 ≤ L) {v : CS} {fo : Nat → Int64} {r : RS} {k : Int32} {v' : CS} {fo' : Nat → Int64} {bb : Bool} {r' : RS} (h1 : hMet l D cI cL a yLW_forget wsLW_forget 4 [.ref (a 0), .int (xs (6 * j + 1 + 1)), .ref (a 19)] (v, fo) k (v', fo')) (h2 : rMet l D cI cZ a' yRM_forget wsRM_forget 4 [.ref (a' 0), .int (xs (6 * j + 1 + 1))] r (bi bb) r') (hc : codeR r' = k) (hz : k = 0 → fo' 0 = cond bb 1 0) {ls : Array Slot} {H : Heap} {locs : List Loc} (hP : va_P D vwCl (wL cI cL a (v, fo) ++ wR cI cZ a' r) H) (hS : va_S (lA s) s.heap H locs) (hl : lv_has ls 7 [(0, .ref b), (1, .ref (a 0)), (2, .ref (a' 0)), (3, .ref (a 19)), (4, .int (nI (6 * j + 1)))])
    (kk : ∀ (ls : Array Slot) (H : Heap) (locs : List Loc), va_P D vwCl (wL cI cL a (v', fo') ++ wR cI cZ a' r') H → va_S (lA s) s.heap H locs → lv_has ls 7 [(0, .ref b), (1, .ref (a 0)), (2, .ref (a' 0)), (3, .ref (a 19)), (4, .int (nI (6 * j + 1)))] → W p l e room_1 s m #[Value.ref b] below meth c H locs (32 + j) (3041 + 6 * j) Q (F0 m 1047 ls [])) : W p l e room_1 s m #[Value.ref b] below meth c H locs (31 + j) (3035 + 6 * j) Q (F0 m 543 ls []) := by
  obtain ⟨⟨hx, hb, hml, hown, hts⟩, ⟨hr, hlocks⟩, ⟨hX, hbl, hL⟩, ⟨hK, hKR, hT⟩, hDD, hIa, hIb⟩ := C
  obtain ⟨m1, e1, e2, e3, M1⟩ := h1
  obtain ⟨m2, g1, g2, g3, M2⟩ := h2
  have hAa : ∀ q, aS a 20 q → lA s q := fun q h => by obtain ⟨k0, h0, h9⟩ := h; obtain ⟨ee, he⟩ := adr_in (wL_ad cI cL a (v, fo)) h0; subst h9; exact (hDD v fo r).2 k0 _ (by rw [List.getElem?_append_left ((List.getElem?_eq_some_iff.mp he).1)]; exact he)
  have hAb : ∀ q, aS a' 11 q → lA s q := fun q h => by obtain ⟨k0, h0, h9⟩ := h; obtain ⟨ee, he⟩ := adr_in (wR_ad cI cZ a' r) h0; subst h9; exact (hDD v fo r).2 ((wL cI cL a (v, fo)).length + k0) _ (by rw [List.getElem?_append_right (by omega), show (wL cI cL a (v, fo)).length + k0 - (wL cI cL a (v, fo)).length = k0 by omega]; exact he)
  refine lv_aload_n hx hb dLaw_543 rfl (lv_at hl 1 rfl) ?_
  refine lv_aload_n hx hb dLaw_544 rfl (lv_at hl 0 rfl) ?_
  refine lv_iload hx hb dLaw_545 (lv_at hl 4 rfl) ?_
  refine lv_iconst (v := nI 1) hx hb dLaw_547 (by decide) ?_
  refine lv_iadd hx hb dLaw_548 ?_
  refine lv_eqi (y := nI (6 * j + 1 + 1)) (nI_add (6 * j + 1) 1) ?_
  refine ir_sld hx hb hX hbl hS (by omega) hL dLaw_549 ?_
  refine lv_aload_n hx hb dLaw_550 rfl (lv_at hl 3 rfl) ?_
  refine w_callSi (a := a) (n0 := 20) (w := wL cI cL a) (v := (v, fo)) (v' := (v', fo')) (Y := []) (X := wR cI cZ a' r) (As := [.ref (a 0), .int (xs (6 * j + 1 + 1)), .ref (a 19)]) (rest := []) ⟨hx, hb, hml, hown, hts⟩ (gw_c k477 bigW_good) M1 List.mem_cons_self (hts _ k475) (hts _ k476) (hts _ k26) e1 e2 e3 (n := 3) (by decide +kernel) hK hT (lA_keep hS) (wL_ad cI cL a _) hP (hDD _ _ _) rfl hl.1 rfl (Nat.le_of_ble_eq_true rfl) dLaw_551 ⟨by show _ ≤ 1064; omega, by show _ ≤ 11281; omega⟩ hAa hS (fun H locs hP hS => ?_)
  have hP : va_P D vwCl (wL cI cL a (v', fo') ++ wR cI cZ a' r) H := hP
  refine W.widen (k := 32 + j) (n := 3041 + 6 * j) (by omega) (by omega) ?_
  refine lv_istore (lv' := (5, .int k) :: [(0, .ref b), (1, .ref (a 0)), (2, .ref (a' 0)), (3, .ref (a 19)), (4, .int (nI (6 * j + 1)))]) hx hb dLaw_554 hl (by decide) rfl (fun ls hl => ?_)
  refine lv_aload_n hx hb dLaw_556 rfl (lv_at hl 3 rfl) ?_
  refine lv_aload_n hx hb dLaw_557 rfl (lv_at hl 1 rfl) ?_
  refine lv_iload hx hb dLaw_558 (lv_at hl 5 rfl) ?_
  refine lv_iconst (v := nI 1) hx hb dLaw_560 (by decide) ?_
  refine lv_iadd hx hb dLaw_561 ?_
  refine lv_eqi (y := nI (6 * j + 1 + 1)) (nI_add (6 * j + 1) 1) ?_
  refine ir_sld hx hb hX hbl hS (by omega) hL dLaw_562 ?_
  refine w_callVi (a := a') (n0 := 11) (w := wR cI cZ a') (v := r) (v' := r') (Y := wL cI cL a (v', fo')) (X := []) (As := [.int (xs (6 * j + 1 + 1))]) (rest := []) ⟨hx, hb, hml, hown, hts⟩ M2 (cwV 1 hts (gw_V k677 k678 k679 k32 k680) rfl g1 g2 (by decide +kernel) g3) hKR (wR_ad cI cZ a' r) (by rw [List.append_nil]; exact hP) (by rw [List.append_nil]; exact hDD _ _ _) (wR_rc hKR (va_P_right hP)) rfl hl.1 rfl (Nat.le_of_ble_eq_true rfl) dLaw_563 ⟨by show _ ≤ 1064; omega, by show _ ≤ 11281; omega⟩ hAb hS (fun H locs hP hS => ?_)
  rw [List.append_nil] at hP
  refine lv_istore (lv' := (6, .int (bi bb)) :: (5, .int k) :: [(0, .ref b), (1, .ref (a 0)), (2, .ref (a' 0)), (3, .ref (a 19)), (4, .int (nI (6 * j + 1)))]) hx hb dLaw_566 hl (by decide) rfl (fun ls hl => ?_)
  refine lv_aload_n hx hb dLaw_568 rfl (lv_at hl 4 rfl) ?_
  refine g_roVi (w := wR cI cZ a') (v := r') (As := []) (rest := []) ⟨hx, hb, hml, hown, hts⟩ (thrown_any l r') (cwV 0 hts (gw_V k625 k626 k627 k32 k628) rfl rfl rfl (by decide +kernel) ⟨by decide, by decide⟩) hKR (va_P_right hP) (wR_rc hKR (va_P_right hP)) rfl hl.1 rfl (Nat.le_of_ble_eq_true rfl) dLaw_569 ⟨by show _ ≤ 1064; omega, by show _ ≤ 11281; omega⟩ ?_
  refine lv_iload hx hb dLaw_572 (lv_at hl 1 rfl) ?_
  refine lv_icmp_eq hx hb (tgt := 579) dLaw_574 (by decide) (fun _ => ?_) (fun h9 => absurd hc h9)
  refine lv_iload hx hb dLaw_579 (lv_at hl 1 rfl) ?_
  have fin : W p l e room_1 s m #[Value.ref b] below meth c H locs (32 + j) (3041 + 6 * j) Q (F0 m 603 ls []) := lv_goto hx hb (tgt := 1047) dLaw_603 (by decide) (kk ls H locs hP hS (lv_sub hl [2, 3, 4, 5, 6] rfl))
  refine lv_if_ne hx hb (tgt := 603) dLaw_581 (by decide) (fun _ => fin) (fun hk0 => ?_)
  refine lv_aload_n hx hb dLaw_584 rfl (lv_at hl 5 rfl) ?_
  refine lv_iconst (v := nI 0) hx hb dLaw_585 (by decide) ?_
  refine ir_lald hx hb hK hP 19 1 wL_out rfl (k := 0) (by decide) (by decide) dLaw_586 ?_
  refine lv_iload hx hb dLaw_587 (lv_at hl 0 rfl) ?_
  refine lv_if_eqb hx hb (tgt := 596) dLaw_589 (by decide) (fun c1 => ?_) (fun c1 => ?_)
  · refine lv_lconst (v := 0) hx hb dLaw_596 (by decide) ?_
    exact lv_lif_eq hx hb (tgt := 603) dLaw_597 dLaw_598 (by decide) (fun _ => fin) (fun h9 => absurd ((hz hk0).trans (cond_no c1)) h9)
  · refine lv_lconst (v := 1) hx hb dLaw_592 (by decide) ?_
    refine lv_goto hx hb (tgt := 597) dLaw_593 (by decide) ?_
    exact lv_lif_eq hx hb (tgt := 603) dLaw_597 dLaw_598 (by decide) (fun _ => fin) (fun h9 => absurd ((hz hk0).trans (cond_yes c1)) h9)
set_option maxHeartbeats 4000000 in
set_option maxRecDepth 100000 in
theorem law_run {p : Program} {l : Launch} {e : Env} {s : State} {m : MethodId} {below : List Frame} {meth : Method} {c : Code} {Q : State → Prop} {b L : Nat} {xs : Nat → Int32} {D : va_G} {cI cL cZ : ClassId} {a a' : Nat → Nat} (C : lx p s m meth c b L xs D cI cL cZ a a') {j : Nat} (hj : 6 * j + 7 ≤ L) {v : CS} {fo : Nat → Int64} {r : RS} {k : Int32} {v' : CS} {fo' : Nat → Int64} {bb : Int32} {r' : RS} (h1 : hMet l D cI cL a yLW_run wsLW_run 4 [.ref (a 0), .int (xs (6 * j + 1 + 1)), .ref (a 19)] (v, fo) k (v', fo')) (h2 : rMet l D cI cZ a' yRM_run wsRM_run 4 [.ref (a' 0), .int (xs (6 * j + 1 + 1))] r (bb) r') (hc : codeR r' = k) (hz : k = 0 → fo' 0 = bb.toInt64) {ls : Array Slot} {H : Heap} {locs : List Loc} (hP : va_P D vwCl (wL cI cL a (v, fo) ++ wR cI cZ a' r) H) (hS : va_S (lA s) s.heap H locs) (hl : lv_has ls 7 [(0, .ref b), (1, .ref (a 0)), (2, .ref (a' 0)), (3, .ref (a 19)), (4, .int (nI (6 * j + 1)))])
    (kk : ∀ (ls : Array Slot) (H : Heap) (locs : List Loc), va_P D vwCl (wL cI cL a (v', fo') ++ wR cI cZ a' r') H → va_S (lA s) s.heap H locs → lv_has ls 7 [(0, .ref b), (1, .ref (a 0)), (2, .ref (a' 0)), (3, .ref (a 19)), (4, .int (nI (6 * j + 1)))] → W p l e room_1 s m #[Value.ref b] below meth c H locs (32 + j) (3041 + 6 * j) Q (F0 m 1047 ls [])) : W p l e room_1 s m #[Value.ref b] below meth c H locs (31 + j) (3035 + 6 * j) Q (F0 m 606 ls []) := by
  obtain ⟨⟨hx, hb, hml, hown, hts⟩, ⟨hr, hlocks⟩, ⟨hX, hbl, hL⟩, ⟨hK, hKR, hT⟩, hDD, hIa, hIb⟩ := C
  obtain ⟨m1, e1, e2, e3, M1⟩ := h1
  obtain ⟨m2, g1, g2, g3, M2⟩ := h2
  have hAa : ∀ q, aS a 20 q → lA s q := fun q h => by obtain ⟨k0, h0, h9⟩ := h; obtain ⟨ee, he⟩ := adr_in (wL_ad cI cL a (v, fo)) h0; subst h9; exact (hDD v fo r).2 k0 _ (by rw [List.getElem?_append_left ((List.getElem?_eq_some_iff.mp he).1)]; exact he)
  have hAb : ∀ q, aS a' 11 q → lA s q := fun q h => by obtain ⟨k0, h0, h9⟩ := h; obtain ⟨ee, he⟩ := adr_in (wR_ad cI cZ a' r) h0; subst h9; exact (hDD v fo r).2 ((wL cI cL a (v, fo)).length + k0) _ (by rw [List.getElem?_append_right (by omega), show (wL cI cL a (v, fo)).length + k0 - (wL cI cL a (v, fo)).length = k0 by omega]; exact he)
  refine lv_aload_n hx hb dLaw_606 rfl (lv_at hl 1 rfl) ?_
  refine lv_aload_n hx hb dLaw_607 rfl (lv_at hl 0 rfl) ?_
  refine lv_iload hx hb dLaw_608 (lv_at hl 4 rfl) ?_
  refine lv_iconst (v := nI 1) hx hb dLaw_610 (by decide) ?_
  refine lv_iadd hx hb dLaw_611 ?_
  refine lv_eqi (y := nI (6 * j + 1 + 1)) (nI_add (6 * j + 1) 1) ?_
  refine ir_sld hx hb hX hbl hS (by omega) hL dLaw_612 ?_
  refine lv_aload_n hx hb dLaw_613 rfl (lv_at hl 3 rfl) ?_
  refine w_callSi (a := a) (n0 := 20) (w := wL cI cL a) (v := (v, fo)) (v' := (v', fo')) (Y := []) (X := wR cI cZ a' r) (As := [.ref (a 0), .int (xs (6 * j + 1 + 1)), .ref (a 19)]) (rest := []) ⟨hx, hb, hml, hown, hts⟩ (gw_c k498 bigW_good) M1 List.mem_cons_self (hts _ k496) (hts _ k497) (hts _ k26) e1 e2 e3 (n := 3) (by decide +kernel) hK hT (lA_keep hS) (wL_ad cI cL a _) hP (hDD _ _ _) rfl hl.1 rfl (Nat.le_of_ble_eq_true rfl) dLaw_614 ⟨by show _ ≤ 1064; omega, by show _ ≤ 11281; omega⟩ hAa hS (fun H locs hP hS => ?_)
  have hP : va_P D vwCl (wL cI cL a (v', fo') ++ wR cI cZ a' r) H := hP
  refine W.widen (k := 32 + j) (n := 3041 + 6 * j) (by omega) (by omega) ?_
  refine lv_istore (lv' := (5, .int k) :: [(0, .ref b), (1, .ref (a 0)), (2, .ref (a' 0)), (3, .ref (a 19)), (4, .int (nI (6 * j + 1)))]) hx hb dLaw_617 hl (by decide) rfl (fun ls hl => ?_)
  refine lv_aload_n hx hb dLaw_619 rfl (lv_at hl 3 rfl) ?_
  refine lv_aload_n hx hb dLaw_620 rfl (lv_at hl 1 rfl) ?_
  refine lv_iload hx hb dLaw_621 (lv_at hl 5 rfl) ?_
  refine lv_iconst (v := nI 1) hx hb dLaw_623 (by decide) ?_
  refine lv_iadd hx hb dLaw_624 ?_
  refine lv_eqi (y := nI (6 * j + 1 + 1)) (nI_add (6 * j + 1) 1) ?_
  refine ir_sld hx hb hX hbl hS (by omega) hL dLaw_625 ?_
  refine w_callVi (a := a') (n0 := 11) (w := wR cI cZ a') (v := r) (v' := r') (Y := wL cI cL a (v', fo')) (X := []) (As := [.int (xs (6 * j + 1 + 1))]) (rest := []) ⟨hx, hb, hml, hown, hts⟩ M2 (cwV 1 hts (gw_V k681 k682 k683 k32 k684) rfl g1 g2 (by decide +kernel) g3) hKR (wR_ad cI cZ a' r) (by rw [List.append_nil]; exact hP) (by rw [List.append_nil]; exact hDD _ _ _) (wR_rc hKR (va_P_right hP)) rfl hl.1 rfl (Nat.le_of_ble_eq_true rfl) dLaw_626 ⟨by show _ ≤ 1064; omega, by show _ ≤ 11281; omega⟩ hAb hS (fun H locs hP hS => ?_)
  rw [List.append_nil] at hP
  refine lv_istore (lv' := (6, .int (bb)) :: (5, .int k) :: [(0, .ref b), (1, .ref (a 0)), (2, .ref (a' 0)), (3, .ref (a 19)), (4, .int (nI (6 * j + 1)))]) hx hb dLaw_629 hl (by decide) rfl (fun ls hl => ?_)
  refine lv_aload_n hx hb dLaw_631 rfl (lv_at hl 4 rfl) ?_
  refine g_roVi (w := wR cI cZ a') (v := r') (As := []) (rest := []) ⟨hx, hb, hml, hown, hts⟩ (thrown_any l r') (cwV 0 hts (gw_V k625 k626 k627 k32 k628) rfl rfl rfl (by decide +kernel) ⟨by decide, by decide⟩) hKR (va_P_right hP) (wR_rc hKR (va_P_right hP)) rfl hl.1 rfl (Nat.le_of_ble_eq_true rfl) dLaw_632 ⟨by show _ ≤ 1064; omega, by show _ ≤ 11281; omega⟩ ?_
  refine lv_iload hx hb dLaw_635 (lv_at hl 1 rfl) ?_
  refine lv_icmp_eq hx hb (tgt := 642) dLaw_637 (by decide) (fun _ => ?_) (fun h9 => absurd hc h9)
  refine lv_iload hx hb dLaw_642 (lv_at hl 1 rfl) ?_
  have fin : W p l e room_1 s m #[Value.ref b] below meth c H locs (32 + j) (3041 + 6 * j) Q (F0 m 659 ls []) := lv_goto hx hb (tgt := 1047) dLaw_659 (by decide) (kk ls H locs hP hS (lv_sub hl [2, 3, 4, 5, 6] rfl))
  refine lv_if_ne hx hb (tgt := 659) dLaw_644 (by decide) (fun _ => fin) (fun hk0 => ?_)
  refine lv_aload_n hx hb dLaw_647 rfl (lv_at hl 5 rfl) ?_
  refine lv_iconst (v := nI 0) hx hb dLaw_648 (by decide) ?_
  refine ir_lald hx hb hK hP 19 1 wL_out rfl (k := 0) (by decide) (by decide) dLaw_649 ?_
  refine lv_iload hx hb dLaw_650 (lv_at hl 0 rfl) ?_
  refine lv_i2l (v := bb.toInt64) hx hb dLaw_652 rfl ?_
  exact lv_lif_eq hx hb (tgt := 659) dLaw_653 dLaw_654 (by decide) (fun _ => fin) (fun h9 => absurd (hz hk0) h9)
set_option maxHeartbeats 4000000 in
set_option maxRecDepth 100000 in
theorem law_next {p : Program} {l : Launch} {e : Env} {s : State} {m : MethodId} {below : List Frame} {meth : Method} {c : Code} {Q : State → Prop} {b L : Nat} {xs : Nat → Int32} {D : va_G} {cI cL cZ : ClassId} {a a' : Nat → Nat} (C : lx p s m meth c b L xs D cI cL cZ a a') {j : Nat} (hj : 6 * j + 7 ≤ L) {v : CS} {fo : Nat → Int64} {r : RS} {v' : CS} {bb : Bool} {r' : RS} (h1 : cMet l D cI cL a yDB_next wsDB_next 1 [.ref (a 0)] v (bi bb) v') (h2 : rMet l D cI cZ a' yRM_next wsRM_next 4 [.ref (a' 0)] r (bi bb) r') {ls : Array Slot} {H : Heap} {locs : List Loc} (hP : va_P D vwCl (wL cI cL a (v, fo) ++ wR cI cZ a' r) H) (hS : va_S (lA s) s.heap H locs) (hl : lv_has ls 7 [(0, .ref b), (1, .ref (a 0)), (2, .ref (a' 0)), (3, .ref (a 19)), (4, .int (nI (6 * j + 1)))])
    (kk : ∀ (ls : Array Slot) (H : Heap) (locs : List Loc), va_P D vwCl (wL cI cL a (v', fo) ++ wR cI cZ a' r') H → va_S (lA s) s.heap H locs → lv_has ls 7 [(0, .ref b), (1, .ref (a 0)), (2, .ref (a' 0)), (3, .ref (a 19)), (4, .int (nI (6 * j + 1)))] → W p l e room_1 s m #[Value.ref b] below meth c H locs (32 + j) (3041 + 6 * j) Q (F0 m 1047 ls [])) : W p l e room_1 s m #[Value.ref b] below meth c H locs (31 + j) (3035 + 6 * j) Q (F0 m 662 ls []) := by
  obtain ⟨⟨hx, hb, hml, hown, hts⟩, ⟨hr, hlocks⟩, ⟨hX, hbl, hL⟩, ⟨hK, hKR, hT⟩, hDD, hIa, hIb⟩ := C
  obtain ⟨m1, e1, e2, e3, M1⟩ := h1
  obtain ⟨m2, g1, g2, g3, M2⟩ := h2
  have hAa : ∀ q, aS a 20 q → lA s q := fun q h => by obtain ⟨k0, h0, h9⟩ := h; obtain ⟨ee, he⟩ := adr_in (wL_ad cI cL a (v, fo)) h0; subst h9; exact (hDD v fo r).2 k0 _ (by rw [List.getElem?_append_left ((List.getElem?_eq_some_iff.mp he).1)]; exact he)
  have hAb : ∀ q, aS a' 11 q → lA s q := fun q h => by obtain ⟨k0, h0, h9⟩ := h; obtain ⟨ee, he⟩ := adr_in (wR_ad cI cZ a' r) h0; subst h9; exact (hDD v fo r).2 ((wL cI cL a (v, fo)).length + k0) _ (by rw [List.getElem?_append_right (by omega), show (wL cI cL a (v, fo)).length + k0 - (wL cI cL a (v, fo)).length = k0 by omega]; exact he)
  refine lv_aload_n hx hb dLaw_662 rfl (lv_at hl 1 rfl) ?_
  have hPc : va_P D vwCl (wC cI cL a v) H := va_P_left (va_P_left hP)
  rw [wL_as] at hP
  refine w_callVi (a := a) (n0 := 19) (w := wC cI cL a) (v := v) (v' := v') (Y := []) (X := [(a 19, .inl (cL, 1, .inr (.inl fo)))] ++ wR cI cZ a' r) (As := []) (rest := []) ⟨hx, hb, hml, hown, hts⟩ M1 (cwV 0 hts (gw_V k172 k173 k174 k27 k175) rfl e1 e2 (by decide +kernel) e3) hK (wC_ad cI cL a v) hP (by have := hDD v fo r; rw [wL_as] at this; exact this) (wC_rc hK hPc) rfl hl.1 rfl (Nat.le_of_ble_eq_true rfl) dLaw_663 ⟨by show _ ≤ 1064; omega, by show _ ≤ 11281; omega⟩ (fun q h => hAa q (by obtain ⟨k0, h0, h9⟩ := h; exact ⟨k0, by omega, h9⟩)) hS (fun H locs hP hS => ?_)
  rw [← wL_as] at hP
  refine lv_aload_n hx hb dLaw_666 rfl (lv_at hl 2 rfl) ?_
  refine w_callVi (a := a') (n0 := 11) (w := wR cI cZ a') (v := r) (v' := r') (Y := wL cI cL a (v', fo)) (X := []) (As := []) (rest := [.int (bi bb)]) ⟨hx, hb, hml, hown, hts⟩ M2 (cwV 0 hts (gw_V k686 k687 k688 k32 k689) rfl g1 g2 (by decide +kernel) g3) hKR (wR_ad cI cZ a' r) (by rw [List.append_nil]; exact hP) (by rw [List.append_nil]; exact hDD _ _ _) (wR_rc hKR (va_P_right hP)) rfl hl.1 rfl (Nat.le_of_ble_eq_true rfl) dLaw_667 ⟨by show _ ≤ 1064; omega, by show _ ≤ 11281; omega⟩ hAb hS (fun H locs hP hS => ?_)
  rw [List.append_nil] at hP
  refine W.widen (k := 32 + j) (n := 3041 + 6 * j) (by omega) (by omega) ?_
  exact lv_icmp_eq hx hb (tgt := 1047) dLaw_670 (by decide) (fun _ => kk ls H locs hP hS hl) (fun h9 => absurd rfl h9)
set_option maxHeartbeats 4000000 in
set_option maxRecDepth 100000 in
theorem law_message {p : Program} {l : Launch} {e : Env} {s : State} {m : MethodId} {below : List Frame} {meth : Method} {c : Code} {Q : State → Prop} {b L : Nat} {xs : Nat → Int32} {D : va_G} {cI cL cZ : ClassId} {a a' : Nat → Nat} (C : lx p s m meth c b L xs D cI cL cZ a a') {j : Nat} (hj : 6 * j + 7 ≤ L) {v : CS} {fo : Nat → Int64} {r : RS} {k : Int32} {v' : CS} {fo' : Nat → Int64} {bb : Int32} {r' : RS} (h1 : hMet l D cI cL a yLW_message wsLW_message 4 [.ref (a 0), .int (xs (6 * j + 1 + 1)), .ref (a 19)] (v, fo) k (v', fo')) (h2 : rMet l D cI cZ a' yRM_message wsRM_message 2 [.ref (a' 0), .int (xs (6 * j + 1 + 1))] r (bb) r') (hc : codeR r' = k) (hz : k = 0 → fo' 0 = bb.toInt64) {ls : Array Slot} {H : Heap} {locs : List Loc} (hP : va_P D vwCl (wL cI cL a (v, fo) ++ wR cI cZ a' r) H) (hS : va_S (lA s) s.heap H locs) (hl : lv_has ls 7 [(0, .ref b), (1, .ref (a 0)), (2, .ref (a' 0)), (3, .ref (a 19)), (4, .int (nI (6 * j + 1)))])
    (kk : ∀ (ls : Array Slot) (H : Heap) (locs : List Loc), va_P D vwCl (wL cI cL a (v', fo') ++ wR cI cZ a' r') H → va_S (lA s) s.heap H locs → lv_has ls 7 [(0, .ref b), (1, .ref (a 0)), (2, .ref (a' 0)), (3, .ref (a 19)), (4, .int (nI (6 * j + 1)))] → W p l e room_1 s m #[Value.ref b] below meth c H locs (32 + j) (3041 + 6 * j) Q (F0 m 1047 ls [])) : W p l e room_1 s m #[Value.ref b] below meth c H locs (31 + j) (3035 + 6 * j) Q (F0 m 675 ls []) := by
  obtain ⟨⟨hx, hb, hml, hown, hts⟩, ⟨hr, hlocks⟩, ⟨hX, hbl, hL⟩, ⟨hK, hKR, hT⟩, hDD, hIa, hIb⟩ := C
  obtain ⟨m1, e1, e2, e3, M1⟩ := h1
  obtain ⟨m2, g1, g2, g3, M2⟩ := h2
  have hAa : ∀ q, aS a 20 q → lA s q := fun q h => by obtain ⟨k0, h0, h9⟩ := h; obtain ⟨ee, he⟩ := adr_in (wL_ad cI cL a (v, fo)) h0; subst h9; exact (hDD v fo r).2 k0 _ (by rw [List.getElem?_append_left ((List.getElem?_eq_some_iff.mp he).1)]; exact he)
  have hAb : ∀ q, aS a' 11 q → lA s q := fun q h => by obtain ⟨k0, h0, h9⟩ := h; obtain ⟨ee, he⟩ := adr_in (wR_ad cI cZ a' r) h0; subst h9; exact (hDD v fo r).2 ((wL cI cL a (v, fo)).length + k0) _ (by rw [List.getElem?_append_right (by omega), show (wL cI cL a (v, fo)).length + k0 - (wL cI cL a (v, fo)).length = k0 by omega]; exact he)
  refine lv_aload_n hx hb dLaw_675 rfl (lv_at hl 1 rfl) ?_
  refine lv_aload_n hx hb dLaw_676 rfl (lv_at hl 0 rfl) ?_
  refine lv_iload hx hb dLaw_677 (lv_at hl 4 rfl) ?_
  refine lv_iconst (v := nI 1) hx hb dLaw_679 (by decide) ?_
  refine lv_iadd hx hb dLaw_680 ?_
  refine lv_eqi (y := nI (6 * j + 1 + 1)) (nI_add (6 * j + 1) 1) ?_
  refine ir_sld hx hb hX hbl hS (by omega) hL dLaw_681 ?_
  refine lv_aload_n hx hb dLaw_682 rfl (lv_at hl 3 rfl) ?_
  refine w_callSi (a := a) (n0 := 20) (w := wL cI cL a) (v := (v, fo)) (v' := (v', fo')) (Y := []) (X := wR cI cZ a' r) (As := [.ref (a 0), .int (xs (6 * j + 1 + 1)), .ref (a 19)]) (rest := []) ⟨hx, hb, hml, hown, hts⟩ (gw_c k512 bigW_good) M1 List.mem_cons_self (hts _ k510) (hts _ k511) (hts _ k26) e1 e2 e3 (n := 3) (by decide +kernel) hK hT (lA_keep hS) (wL_ad cI cL a _) hP (hDD _ _ _) rfl hl.1 rfl (Nat.le_of_ble_eq_true rfl) dLaw_683 ⟨by show _ ≤ 1064; omega, by show _ ≤ 11281; omega⟩ hAa hS (fun H locs hP hS => ?_)
  have hP : va_P D vwCl (wL cI cL a (v', fo') ++ wR cI cZ a' r) H := hP
  refine W.widen (k := 32 + j) (n := 3041 + 6 * j) (by omega) (by omega) ?_
  refine lv_istore (lv' := (5, .int k) :: [(0, .ref b), (1, .ref (a 0)), (2, .ref (a' 0)), (3, .ref (a 19)), (4, .int (nI (6 * j + 1)))]) hx hb dLaw_686 hl (by decide) rfl (fun ls hl => ?_)
  refine lv_aload_n hx hb dLaw_688 rfl (lv_at hl 3 rfl) ?_
  refine lv_aload_n hx hb dLaw_689 rfl (lv_at hl 1 rfl) ?_
  refine lv_iload hx hb dLaw_690 (lv_at hl 5 rfl) ?_
  refine lv_iconst (v := nI 1) hx hb dLaw_692 (by decide) ?_
  refine lv_iadd hx hb dLaw_693 ?_
  refine lv_eqi (y := nI (6 * j + 1 + 1)) (nI_add (6 * j + 1) 1) ?_
  refine ir_sld hx hb hX hbl hS (by omega) hL dLaw_694 ?_
  refine w_callVi (a := a') (n0 := 11) (w := wR cI cZ a') (v := r) (v' := r') (Y := wL cI cL a (v', fo')) (X := []) (As := [.int (xs (6 * j + 1 + 1))]) (rest := []) ⟨hx, hb, hml, hown, hts⟩ M2 (cwV 1 hts (gw_V k702 k703 k704 k32 k705) rfl g1 g2 (by decide +kernel) g3) hKR (wR_ad cI cZ a' r) (by rw [List.append_nil]; exact hP) (by rw [List.append_nil]; exact hDD _ _ _) (wR_rc hKR (va_P_right hP)) rfl hl.1 rfl (Nat.le_of_ble_eq_true rfl) dLaw_695 ⟨by show _ ≤ 1064; omega, by show _ ≤ 11281; omega⟩ hAb hS (fun H locs hP hS => ?_)
  rw [List.append_nil] at hP
  refine lv_istore (lv' := (6, .int (bb)) :: (5, .int k) :: [(0, .ref b), (1, .ref (a 0)), (2, .ref (a' 0)), (3, .ref (a 19)), (4, .int (nI (6 * j + 1)))]) hx hb dLaw_698 hl (by decide) rfl (fun ls hl => ?_)
  refine lv_aload_n hx hb dLaw_700 rfl (lv_at hl 4 rfl) ?_
  refine g_roVi (w := wR cI cZ a') (v := r') (As := []) (rest := []) ⟨hx, hb, hml, hown, hts⟩ (thrown_any l r') (cwV 0 hts (gw_V k625 k626 k627 k32 k628) rfl rfl rfl (by decide +kernel) ⟨by decide, by decide⟩) hKR (va_P_right hP) (wR_rc hKR (va_P_right hP)) rfl hl.1 rfl (Nat.le_of_ble_eq_true rfl) dLaw_701 ⟨by show _ ≤ 1064; omega, by show _ ≤ 11281; omega⟩ ?_
  refine lv_iload hx hb dLaw_704 (lv_at hl 1 rfl) ?_
  refine lv_icmp_eq hx hb (tgt := 711) dLaw_706 (by decide) (fun _ => ?_) (fun h9 => absurd hc h9)
  refine lv_iload hx hb dLaw_711 (lv_at hl 1 rfl) ?_
  have fin : W p l e room_1 s m #[Value.ref b] below meth c H locs (32 + j) (3041 + 6 * j) Q (F0 m 728 ls []) := lv_goto hx hb (tgt := 1047) dLaw_728 (by decide) (kk ls H locs hP hS (lv_sub hl [2, 3, 4, 5, 6] rfl))
  refine lv_if_ne hx hb (tgt := 728) dLaw_713 (by decide) (fun _ => fin) (fun hk0 => ?_)
  refine lv_aload_n hx hb dLaw_716 rfl (lv_at hl 5 rfl) ?_
  refine lv_iconst (v := nI 0) hx hb dLaw_717 (by decide) ?_
  refine ir_lald hx hb hK hP 19 1 wL_out rfl (k := 0) (by decide) (by decide) dLaw_718 ?_
  refine lv_iload hx hb dLaw_719 (lv_at hl 0 rfl) ?_
  refine lv_i2l (v := bb.toInt64) hx hb dLaw_721 rfl ?_
  exact lv_lif_eq hx hb (tgt := 728) dLaw_722 dLaw_723 (by decide) (fun _ => fin) (fun h9 => absurd (hz hk0) h9)
set_option maxHeartbeats 4000000 in
set_option maxRecDepth 100000 in
theorem law_named {p : Program} {l : Launch} {e : Env} {s : State} {m : MethodId} {below : List Frame} {meth : Method} {c : Code} {Q : State → Prop} {b L : Nat} {xs : Nat → Int32} {D : va_G} {cI cL cZ : ClassId} {a a' : Nat → Nat} (C : lx p s m meth c b L xs D cI cL cZ a a') {j : Nat} (hj : 6 * j + 7 ≤ L) {v : CS} {fo : Nat → Int64} {r : RS} {bb : Int64} {r' : RS} (h1 : cRoL l D cI cL a yDB_named wsDB_named 1 [.ref (a 0)] v (bb)) (h2 : rMetL l D cI cZ a' yRM_named wsRM_named 1 [.ref (a' 0)] r (bb) r') {ls : Array Slot} {H : Heap} {locs : List Loc} (hP : va_P D vwCl (wL cI cL a (v, fo) ++ wR cI cZ a' r) H) (hS : va_S (lA s) s.heap H locs) (hl : lv_has ls 7 [(0, .ref b), (1, .ref (a 0)), (2, .ref (a' 0)), (3, .ref (a 19)), (4, .int (nI (6 * j + 1)))])
    (kk : ∀ (ls : Array Slot) (H : Heap) (locs : List Loc), va_P D vwCl (wL cI cL a (v, fo) ++ wR cI cZ a' r') H → va_S (lA s) s.heap H locs → lv_has ls 7 [(0, .ref b), (1, .ref (a 0)), (2, .ref (a' 0)), (3, .ref (a 19)), (4, .int (nI (6 * j + 1)))] → W p l e room_1 s m #[Value.ref b] below meth c H locs (32 + j) (3041 + 6 * j) Q (F0 m 1047 ls [])) : W p l e room_1 s m #[Value.ref b] below meth c H locs (31 + j) (3035 + 6 * j) Q (F0 m 731 ls []) := by
  obtain ⟨⟨hx, hb, hml, hown, hts⟩, ⟨hr, hlocks⟩, ⟨hX, hbl, hL⟩, ⟨hK, hKR, hT⟩, hDD, hIa, hIb⟩ := C
  obtain ⟨m1, e1, e2, e3, M1⟩ := h1
  obtain ⟨m2, g1, g2, g3, M2⟩ := h2
  have hAa : ∀ q, aS a 20 q → lA s q := fun q h => by obtain ⟨k0, h0, h9⟩ := h; obtain ⟨ee, he⟩ := adr_in (wL_ad cI cL a (v, fo)) h0; subst h9; exact (hDD v fo r).2 k0 _ (by rw [List.getElem?_append_left ((List.getElem?_eq_some_iff.mp he).1)]; exact he)
  have hAb : ∀ q, aS a' 11 q → lA s q := fun q h => by obtain ⟨k0, h0, h9⟩ := h; obtain ⟨ee, he⟩ := adr_in (wR_ad cI cZ a' r) h0; subst h9; exact (hDD v fo r).2 ((wL cI cL a (v, fo)).length + k0) _ (by rw [List.getElem?_append_right (by omega), show (wL cI cL a (v, fo)).length + k0 - (wL cI cL a (v, fo)).length = k0 by omega]; exact he)
  refine lv_aload_n hx hb dLaw_731 rfl (lv_at hl 1 rfl) ?_
  have hPc : va_P D vwCl (wC cI cL a v) H := va_P_left (va_P_left hP)
  refine g_roVl (w := wC cI cL a) (v := v) (As := []) (rest := []) ⟨hx, hb, hml, hown, hts⟩ M1 (cwV 0 hts (gw_V k254 k255 k256 k27 k257) rfl e1 e2 (by decide +kernel) e3) hK hPc (wC_rc hK hPc) rfl hl.1 rfl (Nat.le_of_ble_eq_true rfl) dLaw_732 ⟨by show _ ≤ 1064; omega, by show _ ≤ 11281; omega⟩ ?_
  refine lv_aload_n hx hb dLaw_735 rfl (lv_at hl 2 rfl) ?_
  refine w_callVl (a := a') (n0 := 11) (w := wR cI cZ a') (v := r) (v' := r') (Y := wL cI cL a (v, fo)) (X := []) (As := []) (rest := [.long (bb)]) ⟨hx, hb, hml, hown, hts⟩ M2 (cwV 0 hts (gw_V k706 k707 k708 k32 k709) rfl g1 g2 (by decide +kernel) g3) hKR (wR_ad cI cZ a' r) (by rw [List.append_nil]; exact hP) (by rw [List.append_nil]; exact hDD _ _ _) (wR_rc hKR (va_P_right hP)) rfl hl.1 rfl (Nat.le_of_ble_eq_true rfl) dLaw_736 ⟨by show _ ≤ 1064; omega, by show _ ≤ 11281; omega⟩ hAb hS (fun H locs hP hS => ?_)
  rw [List.append_nil] at hP
  refine W.widen (k := 32 + j) (n := 3041 + 6 * j) (by omega) (by omega) ?_
  exact lv_lif_eq hx hb (tgt := 1047) dLaw_739 dLaw_740 (by decide) (fun _ => kk ls H locs hP hS hl) (fun h9 => absurd rfl h9)
set_option maxHeartbeats 4000000 in
set_option maxRecDepth 100000 in
theorem law_state {p : Program} {l : Launch} {e : Env} {s : State} {m : MethodId} {below : List Frame} {meth : Method} {c : Code} {Q : State → Prop} {b L : Nat} {xs : Nat → Int32} {D : va_G} {cI cL cZ : ClassId} {a a' : Nat → Nat} (C : lx p s m meth c b L xs D cI cL cZ a a') {j : Nat} (hj : 6 * j + 7 ≤ L) {v : CS} {fo : Nat → Int64} {r : RS} {k : Int32} {v' : CS} {fo' : Nat → Int64} {bb : Int32} {r' : RS} (h1 : hMet l D cI cL a yLW_state wsLW_state 5 [.ref (a 0), .int (xs (6 * j + 1 + 1)), .int (xs (6 * j + 1 + 2)), .ref (a 19)] (v, fo) k (v', fo')) (h2 : rMet l D cI cZ a' yRM_state wsRM_state 4 [.ref (a' 0), .int (xs (6 * j + 1 + 1)), .int (xs (6 * j + 1 + 2))] r (bb) r') (hc : codeR r' = k) (hz : k = 0 → fo' 0 = bb.toInt64) {ls : Array Slot} {H : Heap} {locs : List Loc} (hP : va_P D vwCl (wL cI cL a (v, fo) ++ wR cI cZ a' r) H) (hS : va_S (lA s) s.heap H locs) (hl : lv_has ls 7 [(0, .ref b), (1, .ref (a 0)), (2, .ref (a' 0)), (3, .ref (a 19)), (4, .int (nI (6 * j + 1)))])
    (kk : ∀ (ls : Array Slot) (H : Heap) (locs : List Loc), va_P D vwCl (wL cI cL a (v', fo') ++ wR cI cZ a' r') H → va_S (lA s) s.heap H locs → lv_has ls 7 [(0, .ref b), (1, .ref (a 0)), (2, .ref (a' 0)), (3, .ref (a 19)), (4, .int (nI (6 * j + 1)))] → W p l e room_1 s m #[Value.ref b] below meth c H locs (32 + j) (3041 + 6 * j) Q (F0 m 1047 ls [])) : W p l e room_1 s m #[Value.ref b] below meth c H locs (31 + j) (3035 + 6 * j) Q (F0 m 745 ls []) := by
  obtain ⟨⟨hx, hb, hml, hown, hts⟩, ⟨hr, hlocks⟩, ⟨hX, hbl, hL⟩, ⟨hK, hKR, hT⟩, hDD, hIa, hIb⟩ := C
  obtain ⟨m1, e1, e2, e3, M1⟩ := h1
  obtain ⟨m2, g1, g2, g3, M2⟩ := h2
  have hAa : ∀ q, aS a 20 q → lA s q := fun q h => by obtain ⟨k0, h0, h9⟩ := h; obtain ⟨ee, he⟩ := adr_in (wL_ad cI cL a (v, fo)) h0; subst h9; exact (hDD v fo r).2 k0 _ (by rw [List.getElem?_append_left ((List.getElem?_eq_some_iff.mp he).1)]; exact he)
  have hAb : ∀ q, aS a' 11 q → lA s q := fun q h => by obtain ⟨k0, h0, h9⟩ := h; obtain ⟨ee, he⟩ := adr_in (wR_ad cI cZ a' r) h0; subst h9; exact (hDD v fo r).2 ((wL cI cL a (v, fo)).length + k0) _ (by rw [List.getElem?_append_right (by omega), show (wL cI cL a (v, fo)).length + k0 - (wL cI cL a (v, fo)).length = k0 by omega]; exact he)
  refine lv_aload_n hx hb dLaw_745 rfl (lv_at hl 1 rfl) ?_
  refine lv_aload_n hx hb dLaw_746 rfl (lv_at hl 0 rfl) ?_
  refine lv_iload hx hb dLaw_747 (lv_at hl 4 rfl) ?_
  refine lv_iconst (v := nI 1) hx hb dLaw_749 (by decide) ?_
  refine lv_iadd hx hb dLaw_750 ?_
  refine lv_eqi (y := nI (6 * j + 1 + 1)) (nI_add (6 * j + 1) 1) ?_
  refine ir_sld hx hb hX hbl hS (by omega) hL dLaw_751 ?_
  refine lv_aload_n hx hb dLaw_752 rfl (lv_at hl 0 rfl) ?_
  refine lv_iload hx hb dLaw_753 (lv_at hl 4 rfl) ?_
  refine lv_iconst (v := nI 2) hx hb dLaw_755 (by decide) ?_
  refine lv_iadd hx hb dLaw_756 ?_
  refine lv_eqi (y := nI (6 * j + 1 + 2)) (nI_add (6 * j + 1) 2) ?_
  refine ir_sld hx hb hX hbl hS (by omega) hL dLaw_757 ?_
  refine lv_aload_n hx hb dLaw_758 rfl (lv_at hl 3 rfl) ?_
  refine w_callSi (a := a) (n0 := 20) (w := wL cI cL a) (v := (v, fo)) (v' := (v', fo')) (Y := []) (X := wR cI cZ a' r) (As := [.ref (a 0), .int (xs (6 * j + 1 + 1)), .int (xs (6 * j + 1 + 2)), .ref (a 19)]) (rest := []) ⟨hx, hb, hml, hown, hts⟩ (gw_c k529 bigW_good) M1 List.mem_cons_self (hts _ k527) (hts _ k528) (hts _ k26) e1 e2 e3 (n := 4) (by decide +kernel) hK hT (lA_keep hS) (wL_ad cI cL a _) hP (hDD _ _ _) rfl hl.1 rfl (Nat.le_of_ble_eq_true rfl) dLaw_759 ⟨by show _ ≤ 1064; omega, by show _ ≤ 11281; omega⟩ hAa hS (fun H locs hP hS => ?_)
  have hP : va_P D vwCl (wL cI cL a (v', fo') ++ wR cI cZ a' r) H := hP
  refine W.widen (k := 32 + j) (n := 3041 + 6 * j) (by omega) (by omega) ?_
  refine lv_istore (lv' := (5, .int k) :: [(0, .ref b), (1, .ref (a 0)), (2, .ref (a' 0)), (3, .ref (a 19)), (4, .int (nI (6 * j + 1)))]) hx hb dLaw_762 hl (by decide) rfl (fun ls hl => ?_)
  refine lv_aload_n hx hb dLaw_764 rfl (lv_at hl 3 rfl) ?_
  refine lv_aload_n hx hb dLaw_765 rfl (lv_at hl 1 rfl) ?_
  refine lv_iload hx hb dLaw_766 (lv_at hl 5 rfl) ?_
  refine lv_iconst (v := nI 1) hx hb dLaw_768 (by decide) ?_
  refine lv_iadd hx hb dLaw_769 ?_
  refine lv_eqi (y := nI (6 * j + 1 + 1)) (nI_add (6 * j + 1) 1) ?_
  refine ir_sld hx hb hX hbl hS (by omega) hL dLaw_770 ?_
  refine lv_aload_n hx hb dLaw_771 rfl (lv_at hl 1 rfl) ?_
  refine lv_iload hx hb dLaw_772 (lv_at hl 5 rfl) ?_
  refine lv_iconst (v := nI 2) hx hb dLaw_774 (by decide) ?_
  refine lv_iadd hx hb dLaw_775 ?_
  refine lv_eqi (y := nI (6 * j + 1 + 2)) (nI_add (6 * j + 1) 2) ?_
  refine ir_sld hx hb hX hbl hS (by omega) hL dLaw_776 ?_
  refine w_callVi (a := a') (n0 := 11) (w := wR cI cZ a') (v := r) (v' := r') (Y := wL cI cL a (v', fo')) (X := []) (As := [.int (xs (6 * j + 1 + 1)), .int (xs (6 * j + 1 + 2))]) (rest := []) ⟨hx, hb, hml, hown, hts⟩ M2 (cwV 2 hts (gw_V k710 k711 k712 k32 k713) rfl g1 g2 (by decide +kernel) g3) hKR (wR_ad cI cZ a' r) (by rw [List.append_nil]; exact hP) (by rw [List.append_nil]; exact hDD _ _ _) (wR_rc hKR (va_P_right hP)) rfl hl.1 rfl (Nat.le_of_ble_eq_true rfl) dLaw_777 ⟨by show _ ≤ 1064; omega, by show _ ≤ 11281; omega⟩ hAb hS (fun H locs hP hS => ?_)
  rw [List.append_nil] at hP
  refine lv_istore (lv' := (6, .int (bb)) :: (5, .int k) :: [(0, .ref b), (1, .ref (a 0)), (2, .ref (a' 0)), (3, .ref (a 19)), (4, .int (nI (6 * j + 1)))]) hx hb dLaw_780 hl (by decide) rfl (fun ls hl => ?_)
  refine lv_aload_n hx hb dLaw_782 rfl (lv_at hl 4 rfl) ?_
  refine g_roVi (w := wR cI cZ a') (v := r') (As := []) (rest := []) ⟨hx, hb, hml, hown, hts⟩ (thrown_any l r') (cwV 0 hts (gw_V k625 k626 k627 k32 k628) rfl rfl rfl (by decide +kernel) ⟨by decide, by decide⟩) hKR (va_P_right hP) (wR_rc hKR (va_P_right hP)) rfl hl.1 rfl (Nat.le_of_ble_eq_true rfl) dLaw_783 ⟨by show _ ≤ 1064; omega, by show _ ≤ 11281; omega⟩ ?_
  refine lv_iload hx hb dLaw_786 (lv_at hl 1 rfl) ?_
  refine lv_icmp_eq hx hb (tgt := 793) dLaw_788 (by decide) (fun _ => ?_) (fun h9 => absurd hc h9)
  refine lv_iload hx hb dLaw_793 (lv_at hl 1 rfl) ?_
  have fin : W p l e room_1 s m #[Value.ref b] below meth c H locs (32 + j) (3041 + 6 * j) Q (F0 m 810 ls []) := lv_goto hx hb (tgt := 1047) dLaw_810 (by decide) (kk ls H locs hP hS (lv_sub hl [2, 3, 4, 5, 6] rfl))
  refine lv_if_ne hx hb (tgt := 810) dLaw_795 (by decide) (fun _ => fin) (fun hk0 => ?_)
  refine lv_aload_n hx hb dLaw_798 rfl (lv_at hl 5 rfl) ?_
  refine lv_iconst (v := nI 0) hx hb dLaw_799 (by decide) ?_
  refine ir_lald hx hb hK hP 19 1 wL_out rfl (k := 0) (by decide) (by decide) dLaw_800 ?_
  refine lv_iload hx hb dLaw_801 (lv_at hl 0 rfl) ?_
  refine lv_i2l (v := bb.toInt64) hx hb dLaw_803 rfl ?_
  exact lv_lif_eq hx hb (tgt := 810) dLaw_804 dLaw_805 (by decide) (fun _ => fin) (fun h9 => absurd (hz hk0) h9)
set_option maxHeartbeats 4000000 in
set_option maxRecDepth 100000 in
theorem law_known {p : Program} {l : Launch} {e : Env} {s : State} {m : MethodId} {below : List Frame} {meth : Method} {c : Code} {Q : State → Prop} {b L : Nat} {xs : Nat → Int32} {D : va_G} {cI cL cZ : ClassId} {a a' : Nat → Nat} (C : lx p s m meth c b L xs D cI cL cZ a a') {j : Nat} (hj : 6 * j + 7 ≤ L) {v : CS} {fo : Nat → Int64} {r : RS} {k : Int32} {v' : CS} {fo' : Nat → Int64} {bb : Int32} {r' : RS} (h1 : hMet l D cI cL a yLW_known wsLW_known 4 [.ref (a 0), .int (xs (6 * j + 1 + 1)), .ref (a 19)] (v, fo) k (v', fo')) (h2 : rMet l D cI cZ a' yRM_known wsRM_known 2 [.ref (a' 0), .int (xs (6 * j + 1 + 1))] r (bb) r') (hc : codeR r' = k) (hz : k = 0 → fo' 0 = bb.toInt64) {ls : Array Slot} {H : Heap} {locs : List Loc} (hP : va_P D vwCl (wL cI cL a (v, fo) ++ wR cI cZ a' r) H) (hS : va_S (lA s) s.heap H locs) (hl : lv_has ls 7 [(0, .ref b), (1, .ref (a 0)), (2, .ref (a' 0)), (3, .ref (a 19)), (4, .int (nI (6 * j + 1)))])
    (kk : ∀ (ls : Array Slot) (H : Heap) (locs : List Loc), va_P D vwCl (wL cI cL a (v', fo') ++ wR cI cZ a' r') H → va_S (lA s) s.heap H locs → lv_has ls 7 [(0, .ref b), (1, .ref (a 0)), (2, .ref (a' 0)), (3, .ref (a 19)), (4, .int (nI (6 * j + 1)))] → W p l e room_1 s m #[Value.ref b] below meth c H locs (32 + j) (3041 + 6 * j) Q (F0 m 1047 ls [])) : W p l e room_1 s m #[Value.ref b] below meth c H locs (31 + j) (3035 + 6 * j) Q (F0 m 813 ls []) := by
  obtain ⟨⟨hx, hb, hml, hown, hts⟩, ⟨hr, hlocks⟩, ⟨hX, hbl, hL⟩, ⟨hK, hKR, hT⟩, hDD, hIa, hIb⟩ := C
  obtain ⟨m1, e1, e2, e3, M1⟩ := h1
  obtain ⟨m2, g1, g2, g3, M2⟩ := h2
  have hAa : ∀ q, aS a 20 q → lA s q := fun q h => by obtain ⟨k0, h0, h9⟩ := h; obtain ⟨ee, he⟩ := adr_in (wL_ad cI cL a (v, fo)) h0; subst h9; exact (hDD v fo r).2 k0 _ (by rw [List.getElem?_append_left ((List.getElem?_eq_some_iff.mp he).1)]; exact he)
  have hAb : ∀ q, aS a' 11 q → lA s q := fun q h => by obtain ⟨k0, h0, h9⟩ := h; obtain ⟨ee, he⟩ := adr_in (wR_ad cI cZ a' r) h0; subst h9; exact (hDD v fo r).2 ((wL cI cL a (v, fo)).length + k0) _ (by rw [List.getElem?_append_right (by omega), show (wL cI cL a (v, fo)).length + k0 - (wL cI cL a (v, fo)).length = k0 by omega]; exact he)
  refine lv_aload_n hx hb dLaw_813 rfl (lv_at hl 1 rfl) ?_
  refine lv_aload_n hx hb dLaw_814 rfl (lv_at hl 0 rfl) ?_
  refine lv_iload hx hb dLaw_815 (lv_at hl 4 rfl) ?_
  refine lv_iconst (v := nI 1) hx hb dLaw_817 (by decide) ?_
  refine lv_iadd hx hb dLaw_818 ?_
  refine lv_eqi (y := nI (6 * j + 1 + 1)) (nI_add (6 * j + 1) 1) ?_
  refine ir_sld hx hb hX hbl hS (by omega) hL dLaw_819 ?_
  refine lv_aload_n hx hb dLaw_820 rfl (lv_at hl 3 rfl) ?_
  refine w_callSi (a := a) (n0 := 20) (w := wL cI cL a) (v := (v, fo)) (v' := (v', fo')) (Y := []) (X := wR cI cZ a' r) (As := [.ref (a 0), .int (xs (6 * j + 1 + 1)), .ref (a 19)]) (rest := []) ⟨hx, hb, hml, hown, hts⟩ (gw_c k540 bigW_good) M1 List.mem_cons_self (hts _ k538) (hts _ k539) (hts _ k26) e1 e2 e3 (n := 3) (by decide +kernel) hK hT (lA_keep hS) (wL_ad cI cL a _) hP (hDD _ _ _) rfl hl.1 rfl (Nat.le_of_ble_eq_true rfl) dLaw_821 ⟨by show _ ≤ 1064; omega, by show _ ≤ 11281; omega⟩ hAa hS (fun H locs hP hS => ?_)
  have hP : va_P D vwCl (wL cI cL a (v', fo') ++ wR cI cZ a' r) H := hP
  refine W.widen (k := 32 + j) (n := 3041 + 6 * j) (by omega) (by omega) ?_
  refine lv_istore (lv' := (5, .int k) :: [(0, .ref b), (1, .ref (a 0)), (2, .ref (a' 0)), (3, .ref (a 19)), (4, .int (nI (6 * j + 1)))]) hx hb dLaw_824 hl (by decide) rfl (fun ls hl => ?_)
  refine lv_aload_n hx hb dLaw_826 rfl (lv_at hl 3 rfl) ?_
  refine lv_aload_n hx hb dLaw_827 rfl (lv_at hl 1 rfl) ?_
  refine lv_iload hx hb dLaw_828 (lv_at hl 5 rfl) ?_
  refine lv_iconst (v := nI 1) hx hb dLaw_830 (by decide) ?_
  refine lv_iadd hx hb dLaw_831 ?_
  refine lv_eqi (y := nI (6 * j + 1 + 1)) (nI_add (6 * j + 1) 1) ?_
  refine ir_sld hx hb hX hbl hS (by omega) hL dLaw_832 ?_
  refine w_callVi (a := a') (n0 := 11) (w := wR cI cZ a') (v := r) (v' := r') (Y := wL cI cL a (v', fo')) (X := []) (As := [.int (xs (6 * j + 1 + 1))]) (rest := []) ⟨hx, hb, hml, hown, hts⟩ M2 (cwV 1 hts (gw_V k714 k715 k716 k32 k717) rfl g1 g2 (by decide +kernel) g3) hKR (wR_ad cI cZ a' r) (by rw [List.append_nil]; exact hP) (by rw [List.append_nil]; exact hDD _ _ _) (wR_rc hKR (va_P_right hP)) rfl hl.1 rfl (Nat.le_of_ble_eq_true rfl) dLaw_833 ⟨by show _ ≤ 1064; omega, by show _ ≤ 11281; omega⟩ hAb hS (fun H locs hP hS => ?_)
  rw [List.append_nil] at hP
  refine lv_istore (lv' := (6, .int (bb)) :: (5, .int k) :: [(0, .ref b), (1, .ref (a 0)), (2, .ref (a' 0)), (3, .ref (a 19)), (4, .int (nI (6 * j + 1)))]) hx hb dLaw_836 hl (by decide) rfl (fun ls hl => ?_)
  refine lv_aload_n hx hb dLaw_838 rfl (lv_at hl 4 rfl) ?_
  refine g_roVi (w := wR cI cZ a') (v := r') (As := []) (rest := []) ⟨hx, hb, hml, hown, hts⟩ (thrown_any l r') (cwV 0 hts (gw_V k625 k626 k627 k32 k628) rfl rfl rfl (by decide +kernel) ⟨by decide, by decide⟩) hKR (va_P_right hP) (wR_rc hKR (va_P_right hP)) rfl hl.1 rfl (Nat.le_of_ble_eq_true rfl) dLaw_839 ⟨by show _ ≤ 1064; omega, by show _ ≤ 11281; omega⟩ ?_
  refine lv_iload hx hb dLaw_842 (lv_at hl 1 rfl) ?_
  refine lv_icmp_eq hx hb (tgt := 849) dLaw_844 (by decide) (fun _ => ?_) (fun h9 => absurd hc h9)
  refine lv_iload hx hb dLaw_849 (lv_at hl 1 rfl) ?_
  have fin : W p l e room_1 s m #[Value.ref b] below meth c H locs (32 + j) (3041 + 6 * j) Q (F0 m 866 ls []) := lv_goto hx hb (tgt := 1047) dLaw_866 (by decide) (kk ls H locs hP hS (lv_sub hl [2, 3, 4, 5, 6] rfl))
  refine lv_if_ne hx hb (tgt := 866) dLaw_851 (by decide) (fun _ => fin) (fun hk0 => ?_)
  refine lv_aload_n hx hb dLaw_854 rfl (lv_at hl 5 rfl) ?_
  refine lv_iconst (v := nI 0) hx hb dLaw_855 (by decide) ?_
  refine ir_lald hx hb hK hP 19 1 wL_out rfl (k := 0) (by decide) (by decide) dLaw_856 ?_
  refine lv_iload hx hb dLaw_857 (lv_at hl 0 rfl) ?_
  refine lv_i2l (v := bb.toInt64) hx hb dLaw_859 rfl ?_
  exact lv_lif_eq hx hb (tgt := 866) dLaw_860 dLaw_861 (by decide) (fun _ => fin) (fun h9 => absurd (hz hk0) h9)
set_option maxHeartbeats 4000000 in
set_option maxRecDepth 100000 in
theorem law_body {p : Program} {l : Launch} {e : Env} {s : State} {m : MethodId} {below : List Frame} {meth : Method} {c : Code} {Q : State → Prop} {b L : Nat} {xs : Nat → Int32} {D : va_G} {cI cL cZ : ClassId} {a a' : Nat → Nat} (C : lx p s m meth c b L xs D cI cL cZ a a') {j : Nat} (hj : 6 * j + 7 ≤ L) {v : CS} {fo : Nat → Int64} {r : RS} {k : Int32} {v' : CS} {fo' : Nat → Int64} {bb : Int32} {r' : RS} (h1 : hMet l D cI cL a yLW_body wsLW_body 4 [.ref (a 0), .int (xs (6 * j + 1 + 1)), .ref (a 19)] (v, fo) k (v', fo')) (h2 : rMet l D cI cZ a' yRM_body wsRM_body 2 [.ref (a' 0), .int (xs (6 * j + 1 + 1))] r (bb) r') (hc : codeR r' = k) (hz : k = 0 → fo' 0 = bb.toInt64) {ls : Array Slot} {H : Heap} {locs : List Loc} (hP : va_P D vwCl (wL cI cL a (v, fo) ++ wR cI cZ a' r) H) (hS : va_S (lA s) s.heap H locs) (hl : lv_has ls 7 [(0, .ref b), (1, .ref (a 0)), (2, .ref (a' 0)), (3, .ref (a 19)), (4, .int (nI (6 * j + 1)))])
    (kk : ∀ (ls : Array Slot) (H : Heap) (locs : List Loc), va_P D vwCl (wL cI cL a (v', fo') ++ wR cI cZ a' r') H → va_S (lA s) s.heap H locs → lv_has ls 7 [(0, .ref b), (1, .ref (a 0)), (2, .ref (a' 0)), (3, .ref (a 19)), (4, .int (nI (6 * j + 1)))] → W p l e room_1 s m #[Value.ref b] below meth c H locs (32 + j) (3041 + 6 * j) Q (F0 m 1047 ls [])) : W p l e room_1 s m #[Value.ref b] below meth c H locs (31 + j) (3035 + 6 * j) Q (F0 m 869 ls []) := by
  obtain ⟨⟨hx, hb, hml, hown, hts⟩, ⟨hr, hlocks⟩, ⟨hX, hbl, hL⟩, ⟨hK, hKR, hT⟩, hDD, hIa, hIb⟩ := C
  obtain ⟨m1, e1, e2, e3, M1⟩ := h1
  obtain ⟨m2, g1, g2, g3, M2⟩ := h2
  have hAa : ∀ q, aS a 20 q → lA s q := fun q h => by obtain ⟨k0, h0, h9⟩ := h; obtain ⟨ee, he⟩ := adr_in (wL_ad cI cL a (v, fo)) h0; subst h9; exact (hDD v fo r).2 k0 _ (by rw [List.getElem?_append_left ((List.getElem?_eq_some_iff.mp he).1)]; exact he)
  have hAb : ∀ q, aS a' 11 q → lA s q := fun q h => by obtain ⟨k0, h0, h9⟩ := h; obtain ⟨ee, he⟩ := adr_in (wR_ad cI cZ a' r) h0; subst h9; exact (hDD v fo r).2 ((wL cI cL a (v, fo)).length + k0) _ (by rw [List.getElem?_append_right (by omega), show (wL cI cL a (v, fo)).length + k0 - (wL cI cL a (v, fo)).length = k0 by omega]; exact he)
  refine lv_aload_n hx hb dLaw_869 rfl (lv_at hl 1 rfl) ?_
  refine lv_aload_n hx hb dLaw_870 rfl (lv_at hl 0 rfl) ?_
  refine lv_iload hx hb dLaw_871 (lv_at hl 4 rfl) ?_
  refine lv_iconst (v := nI 1) hx hb dLaw_873 (by decide) ?_
  refine lv_iadd hx hb dLaw_874 ?_
  refine lv_eqi (y := nI (6 * j + 1 + 1)) (nI_add (6 * j + 1) 1) ?_
  refine ir_sld hx hb hX hbl hS (by omega) hL dLaw_875 ?_
  refine lv_aload_n hx hb dLaw_876 rfl (lv_at hl 3 rfl) ?_
  refine w_callSi (a := a) (n0 := 20) (w := wL cI cL a) (v := (v, fo)) (v' := (v', fo')) (Y := []) (X := wR cI cZ a' r) (As := [.ref (a 0), .int (xs (6 * j + 1 + 1)), .ref (a 19)]) (rest := []) ⟨hx, hb, hml, hown, hts⟩ (gw_c k547 bigW_good) M1 List.mem_cons_self (hts _ k545) (hts _ k546) (hts _ k26) e1 e2 e3 (n := 3) (by decide +kernel) hK hT (lA_keep hS) (wL_ad cI cL a _) hP (hDD _ _ _) rfl hl.1 rfl (Nat.le_of_ble_eq_true rfl) dLaw_877 ⟨by show _ ≤ 1064; omega, by show _ ≤ 11281; omega⟩ hAa hS (fun H locs hP hS => ?_)
  have hP : va_P D vwCl (wL cI cL a (v', fo') ++ wR cI cZ a' r) H := hP
  refine W.widen (k := 32 + j) (n := 3041 + 6 * j) (by omega) (by omega) ?_
  refine lv_istore (lv' := (5, .int k) :: [(0, .ref b), (1, .ref (a 0)), (2, .ref (a' 0)), (3, .ref (a 19)), (4, .int (nI (6 * j + 1)))]) hx hb dLaw_880 hl (by decide) rfl (fun ls hl => ?_)
  refine lv_aload_n hx hb dLaw_882 rfl (lv_at hl 3 rfl) ?_
  refine lv_aload_n hx hb dLaw_883 rfl (lv_at hl 1 rfl) ?_
  refine lv_iload hx hb dLaw_884 (lv_at hl 5 rfl) ?_
  refine lv_iconst (v := nI 1) hx hb dLaw_886 (by decide) ?_
  refine lv_iadd hx hb dLaw_887 ?_
  refine lv_eqi (y := nI (6 * j + 1 + 1)) (nI_add (6 * j + 1) 1) ?_
  refine ir_sld hx hb hX hbl hS (by omega) hL dLaw_888 ?_
  refine w_callVi (a := a') (n0 := 11) (w := wR cI cZ a') (v := r) (v' := r') (Y := wL cI cL a (v', fo')) (X := []) (As := [.int (xs (6 * j + 1 + 1))]) (rest := []) ⟨hx, hb, hml, hown, hts⟩ M2 (cwV 1 hts (gw_V k718 k719 k720 k32 k721) rfl g1 g2 (by decide +kernel) g3) hKR (wR_ad cI cZ a' r) (by rw [List.append_nil]; exact hP) (by rw [List.append_nil]; exact hDD _ _ _) (wR_rc hKR (va_P_right hP)) rfl hl.1 rfl (Nat.le_of_ble_eq_true rfl) dLaw_889 ⟨by show _ ≤ 1064; omega, by show _ ≤ 11281; omega⟩ hAb hS (fun H locs hP hS => ?_)
  rw [List.append_nil] at hP
  refine lv_istore (lv' := (6, .int (bb)) :: (5, .int k) :: [(0, .ref b), (1, .ref (a 0)), (2, .ref (a' 0)), (3, .ref (a 19)), (4, .int (nI (6 * j + 1)))]) hx hb dLaw_892 hl (by decide) rfl (fun ls hl => ?_)
  refine lv_aload_n hx hb dLaw_894 rfl (lv_at hl 4 rfl) ?_
  refine g_roVi (w := wR cI cZ a') (v := r') (As := []) (rest := []) ⟨hx, hb, hml, hown, hts⟩ (thrown_any l r') (cwV 0 hts (gw_V k625 k626 k627 k32 k628) rfl rfl rfl (by decide +kernel) ⟨by decide, by decide⟩) hKR (va_P_right hP) (wR_rc hKR (va_P_right hP)) rfl hl.1 rfl (Nat.le_of_ble_eq_true rfl) dLaw_895 ⟨by show _ ≤ 1064; omega, by show _ ≤ 11281; omega⟩ ?_
  refine lv_iload hx hb dLaw_898 (lv_at hl 1 rfl) ?_
  refine lv_icmp_eq hx hb (tgt := 905) dLaw_900 (by decide) (fun _ => ?_) (fun h9 => absurd hc h9)
  refine lv_iload hx hb dLaw_905 (lv_at hl 1 rfl) ?_
  have fin : W p l e room_1 s m #[Value.ref b] below meth c H locs (32 + j) (3041 + 6 * j) Q (F0 m 922 ls []) := lv_goto hx hb (tgt := 1047) dLaw_922 (by decide) (kk ls H locs hP hS (lv_sub hl [2, 3, 4, 5, 6] rfl))
  refine lv_if_ne hx hb (tgt := 922) dLaw_907 (by decide) (fun _ => fin) (fun hk0 => ?_)
  refine lv_aload_n hx hb dLaw_910 rfl (lv_at hl 5 rfl) ?_
  refine lv_iconst (v := nI 0) hx hb dLaw_911 (by decide) ?_
  refine ir_lald hx hb hK hP 19 1 wL_out rfl (k := 0) (by decide) (by decide) dLaw_912 ?_
  refine lv_iload hx hb dLaw_913 (lv_at hl 0 rfl) ?_
  refine lv_i2l (v := bb.toInt64) hx hb dLaw_915 rfl ?_
  exact lv_lif_eq hx hb (tgt := 922) dLaw_916 dLaw_917 (by decide) (fun _ => fin) (fun h9 => absurd (hz hk0) h9)
set_option maxHeartbeats 4000000 in
set_option maxRecDepth 100000 in
theorem law_due {p : Program} {l : Launch} {e : Env} {s : State} {m : MethodId} {below : List Frame} {meth : Method} {c : Code} {Q : State → Prop} {b L : Nat} {xs : Nat → Int32} {D : va_G} {cI cL cZ : ClassId} {a a' : Nat → Nat} (C : lx p s m meth c b L xs D cI cL cZ a a') {j : Nat} (hj : 6 * j + 7 ≤ L) {v : CS} {fo : Nat → Int64} {r : RS} {k : Int32} {v' : CS} {fo' : Nat → Int64} {bb : Int32} {r' : RS} (h1 : hMet l D cI cL a yLW_due wsLW_due 5 [.ref (a 0), .int (xs (6 * j + 1 + 1)), .int (xs (6 * j + 1 + 2)), .ref (a 19)] (v, fo) k (v', fo')) (h2 : rMet l D cI cZ a' yRM_due wsRM_due 6 [.ref (a' 0), .int (xs (6 * j + 1 + 1)), .int (xs (6 * j + 1 + 2))] r (bb) r') (hc : codeR r' = k) (hz : k = 0 → fo' 0 = bb.toInt64) {ls : Array Slot} {H : Heap} {locs : List Loc} (hP : va_P D vwCl (wL cI cL a (v, fo) ++ wR cI cZ a' r) H) (hS : va_S (lA s) s.heap H locs) (hl : lv_has ls 7 [(0, .ref b), (1, .ref (a 0)), (2, .ref (a' 0)), (3, .ref (a 19)), (4, .int (nI (6 * j + 1)))])
    (kk : ∀ (ls : Array Slot) (H : Heap) (locs : List Loc), va_P D vwCl (wL cI cL a (v', fo') ++ wR cI cZ a' r') H → va_S (lA s) s.heap H locs → lv_has ls 7 [(0, .ref b), (1, .ref (a 0)), (2, .ref (a' 0)), (3, .ref (a 19)), (4, .int (nI (6 * j + 1)))] → W p l e room_1 s m #[Value.ref b] below meth c H locs (32 + j) (3041 + 6 * j) Q (F0 m 1047 ls [])) : W p l e room_1 s m #[Value.ref b] below meth c H locs (31 + j) (3035 + 6 * j) Q (F0 m 925 ls []) := by
  obtain ⟨⟨hx, hb, hml, hown, hts⟩, ⟨hr, hlocks⟩, ⟨hX, hbl, hL⟩, ⟨hK, hKR, hT⟩, hDD, hIa, hIb⟩ := C
  obtain ⟨m1, e1, e2, e3, M1⟩ := h1
  obtain ⟨m2, g1, g2, g3, M2⟩ := h2
  have hAa : ∀ q, aS a 20 q → lA s q := fun q h => by obtain ⟨k0, h0, h9⟩ := h; obtain ⟨ee, he⟩ := adr_in (wL_ad cI cL a (v, fo)) h0; subst h9; exact (hDD v fo r).2 k0 _ (by rw [List.getElem?_append_left ((List.getElem?_eq_some_iff.mp he).1)]; exact he)
  have hAb : ∀ q, aS a' 11 q → lA s q := fun q h => by obtain ⟨k0, h0, h9⟩ := h; obtain ⟨ee, he⟩ := adr_in (wR_ad cI cZ a' r) h0; subst h9; exact (hDD v fo r).2 ((wL cI cL a (v, fo)).length + k0) _ (by rw [List.getElem?_append_right (by omega), show (wL cI cL a (v, fo)).length + k0 - (wL cI cL a (v, fo)).length = k0 by omega]; exact he)
  refine lv_aload_n hx hb dLaw_925 rfl (lv_at hl 1 rfl) ?_
  refine lv_aload_n hx hb dLaw_926 rfl (lv_at hl 0 rfl) ?_
  refine lv_iload hx hb dLaw_927 (lv_at hl 4 rfl) ?_
  refine lv_iconst (v := nI 1) hx hb dLaw_929 (by decide) ?_
  refine lv_iadd hx hb dLaw_930 ?_
  refine lv_eqi (y := nI (6 * j + 1 + 1)) (nI_add (6 * j + 1) 1) ?_
  refine ir_sld hx hb hX hbl hS (by omega) hL dLaw_931 ?_
  refine lv_aload_n hx hb dLaw_932 rfl (lv_at hl 0 rfl) ?_
  refine lv_iload hx hb dLaw_933 (lv_at hl 4 rfl) ?_
  refine lv_iconst (v := nI 2) hx hb dLaw_935 (by decide) ?_
  refine lv_iadd hx hb dLaw_936 ?_
  refine lv_eqi (y := nI (6 * j + 1 + 2)) (nI_add (6 * j + 1) 2) ?_
  refine ir_sld hx hb hX hbl hS (by omega) hL dLaw_937 ?_
  refine lv_aload_n hx hb dLaw_938 rfl (lv_at hl 3 rfl) ?_
  refine w_callSi (a := a) (n0 := 20) (w := wL cI cL a) (v := (v, fo)) (v' := (v', fo')) (Y := []) (X := wR cI cZ a' r) (As := [.ref (a 0), .int (xs (6 * j + 1 + 1)), .int (xs (6 * j + 1 + 2)), .ref (a 19)]) (rest := []) ⟨hx, hb, hml, hown, hts⟩ (gw_c k554 bigW_good) M1 List.mem_cons_self (hts _ k552) (hts _ k553) (hts _ k26) e1 e2 e3 (n := 4) (by decide +kernel) hK hT (lA_keep hS) (wL_ad cI cL a _) hP (hDD _ _ _) rfl hl.1 rfl (Nat.le_of_ble_eq_true rfl) dLaw_939 ⟨by show _ ≤ 1064; omega, by show _ ≤ 11281; omega⟩ hAa hS (fun H locs hP hS => ?_)
  have hP : va_P D vwCl (wL cI cL a (v', fo') ++ wR cI cZ a' r) H := hP
  refine W.widen (k := 32 + j) (n := 3041 + 6 * j) (by omega) (by omega) ?_
  refine lv_istore (lv' := (5, .int k) :: [(0, .ref b), (1, .ref (a 0)), (2, .ref (a' 0)), (3, .ref (a 19)), (4, .int (nI (6 * j + 1)))]) hx hb dLaw_942 hl (by decide) rfl (fun ls hl => ?_)
  refine lv_aload_n hx hb dLaw_944 rfl (lv_at hl 3 rfl) ?_
  refine lv_aload_n hx hb dLaw_945 rfl (lv_at hl 1 rfl) ?_
  refine lv_iload hx hb dLaw_946 (lv_at hl 5 rfl) ?_
  refine lv_iconst (v := nI 1) hx hb dLaw_948 (by decide) ?_
  refine lv_iadd hx hb dLaw_949 ?_
  refine lv_eqi (y := nI (6 * j + 1 + 1)) (nI_add (6 * j + 1) 1) ?_
  refine ir_sld hx hb hX hbl hS (by omega) hL dLaw_950 ?_
  refine lv_aload_n hx hb dLaw_951 rfl (lv_at hl 1 rfl) ?_
  refine lv_iload hx hb dLaw_952 (lv_at hl 5 rfl) ?_
  refine lv_iconst (v := nI 2) hx hb dLaw_954 (by decide) ?_
  refine lv_iadd hx hb dLaw_955 ?_
  refine lv_eqi (y := nI (6 * j + 1 + 2)) (nI_add (6 * j + 1) 2) ?_
  refine ir_sld hx hb hX hbl hS (by omega) hL dLaw_956 ?_
  refine w_callVi (a := a') (n0 := 11) (w := wR cI cZ a') (v := r) (v' := r') (Y := wL cI cL a (v', fo')) (X := []) (As := [.int (xs (6 * j + 1 + 1)), .int (xs (6 * j + 1 + 2))]) (rest := []) ⟨hx, hb, hml, hown, hts⟩ M2 (cwV 2 hts (gw_V k722 k723 k724 k32 k725) rfl g1 g2 (by decide +kernel) g3) hKR (wR_ad cI cZ a' r) (by rw [List.append_nil]; exact hP) (by rw [List.append_nil]; exact hDD _ _ _) (wR_rc hKR (va_P_right hP)) rfl hl.1 rfl (Nat.le_of_ble_eq_true rfl) dLaw_957 ⟨by show _ ≤ 1064; omega, by show _ ≤ 11281; omega⟩ hAb hS (fun H locs hP hS => ?_)
  rw [List.append_nil] at hP
  refine lv_istore (lv' := (6, .int (bb)) :: (5, .int k) :: [(0, .ref b), (1, .ref (a 0)), (2, .ref (a' 0)), (3, .ref (a 19)), (4, .int (nI (6 * j + 1)))]) hx hb dLaw_960 hl (by decide) rfl (fun ls hl => ?_)
  refine lv_aload_n hx hb dLaw_962 rfl (lv_at hl 4 rfl) ?_
  refine g_roVi (w := wR cI cZ a') (v := r') (As := []) (rest := []) ⟨hx, hb, hml, hown, hts⟩ (thrown_any l r') (cwV 0 hts (gw_V k625 k626 k627 k32 k628) rfl rfl rfl (by decide +kernel) ⟨by decide, by decide⟩) hKR (va_P_right hP) (wR_rc hKR (va_P_right hP)) rfl hl.1 rfl (Nat.le_of_ble_eq_true rfl) dLaw_963 ⟨by show _ ≤ 1064; omega, by show _ ≤ 11281; omega⟩ ?_
  refine lv_iload hx hb dLaw_966 (lv_at hl 1 rfl) ?_
  refine lv_icmp_eq hx hb (tgt := 973) dLaw_968 (by decide) (fun _ => ?_) (fun h9 => absurd hc h9)
  refine lv_iload hx hb dLaw_973 (lv_at hl 1 rfl) ?_
  have fin : W p l e room_1 s m #[Value.ref b] below meth c H locs (32 + j) (3041 + 6 * j) Q (F0 m 990 ls []) := lv_goto hx hb (tgt := 1047) dLaw_990 (by decide) (kk ls H locs hP hS (lv_sub hl [2, 3, 4, 5, 6] rfl))
  refine lv_if_ne hx hb (tgt := 990) dLaw_975 (by decide) (fun _ => fin) (fun hk0 => ?_)
  refine lv_aload_n hx hb dLaw_978 rfl (lv_at hl 5 rfl) ?_
  refine lv_iconst (v := nI 0) hx hb dLaw_979 (by decide) ?_
  refine ir_lald hx hb hK hP 19 1 wL_out rfl (k := 0) (by decide) (by decide) dLaw_980 ?_
  refine lv_iload hx hb dLaw_981 (lv_at hl 0 rfl) ?_
  refine lv_i2l (v := bb.toInt64) hx hb dLaw_983 rfl ?_
  exact lv_lif_eq hx hb (tgt := 990) dLaw_984 dLaw_985 (by decide) (fun _ => fin) (fun h9 => absurd (hz hk0) h9)
set_option maxHeartbeats 4000000 in
set_option maxRecDepth 100000 in
theorem law_count {p : Program} {l : Launch} {e : Env} {s : State} {m : MethodId} {below : List Frame} {meth : Method} {c : Code} {Q : State → Prop} {b L : Nat} {xs : Nat → Int32} {D : va_G} {cI cL cZ : ClassId} {a a' : Nat → Nat} (C : lx p s m meth c b L xs D cI cL cZ a a') {j : Nat} (hj : 6 * j + 7 ≤ L) {v : CS} {fo : Nat → Int64} {r : RS} {bb : Int32} {r' : RS} (h1 : cRo l D cI cL a yDB_count wsDB_count 2 [.ref (a 0), .int (bi (dNz (xs (6 * j + 1 + 1))))] v (bb)) (h2 : rMet l D cI cZ a' yRM_count wsRM_count 4 [.ref (a' 0), .int (bi (dNz (xs (6 * j + 1 + 1))))] r (bb) r') {ls : Array Slot} {H : Heap} {locs : List Loc} (hP : va_P D vwCl (wL cI cL a (v, fo) ++ wR cI cZ a' r) H) (hS : va_S (lA s) s.heap H locs) (hl : lv_has ls 7 [(0, .ref b), (1, .ref (a 0)), (2, .ref (a' 0)), (3, .ref (a 19)), (4, .int (nI (6 * j + 1)))])
    (kk : ∀ (ls : Array Slot) (H : Heap) (locs : List Loc), va_P D vwCl (wL cI cL a (v, fo) ++ wR cI cZ a' r') H → va_S (lA s) s.heap H locs → lv_has ls 7 [(0, .ref b), (1, .ref (a 0)), (2, .ref (a' 0)), (3, .ref (a 19)), (4, .int (nI (6 * j + 1)))] → W p l e room_1 s m #[Value.ref b] below meth c H locs (32 + j) (3041 + 6 * j) Q (F0 m 1047 ls [])) : W p l e room_1 s m #[Value.ref b] below meth c H locs (31 + j) (3035 + 6 * j) Q (F0 m 993 ls []) := by
  obtain ⟨⟨hx, hb, hml, hown, hts⟩, ⟨hr, hlocks⟩, ⟨hX, hbl, hL⟩, ⟨hK, hKR, hT⟩, hDD, hIa, hIb⟩ := C
  obtain ⟨m1, e1, e2, e3, M1⟩ := h1
  obtain ⟨m2, g1, g2, g3, M2⟩ := h2
  have hAa : ∀ q, aS a 20 q → lA s q := fun q h => by obtain ⟨k0, h0, h9⟩ := h; obtain ⟨ee, he⟩ := adr_in (wL_ad cI cL a (v, fo)) h0; subst h9; exact (hDD v fo r).2 k0 _ (by rw [List.getElem?_append_left ((List.getElem?_eq_some_iff.mp he).1)]; exact he)
  have hAb : ∀ q, aS a' 11 q → lA s q := fun q h => by obtain ⟨k0, h0, h9⟩ := h; obtain ⟨ee, he⟩ := adr_in (wR_ad cI cZ a' r) h0; subst h9; exact (hDD v fo r).2 ((wL cI cL a (v, fo)).length + k0) _ (by rw [List.getElem?_append_right (by omega), show (wL cI cL a (v, fo)).length + k0 - (wL cI cL a (v, fo)).length = k0 by omega]; exact he)
  refine lv_aload_n hx hb dLaw_993 rfl (lv_at hl 1 rfl) ?_
  refine lv_aload_n hx hb dLaw_994 rfl (lv_at hl 0 rfl) ?_
  refine lv_iload hx hb dLaw_995 (lv_at hl 4 rfl) ?_
  refine lv_iconst (v := nI 1) hx hb dLaw_997 (by decide) ?_
  refine lv_iadd hx hb dLaw_998 ?_
  refine lv_eqi (y := nI (6 * j + 1 + 1)) (nI_add (6 * j + 1) 1) ?_
  refine ir_sld hx hb hX hbl hS (by omega) hL dLaw_999 ?_
  refine w_nz hx hb dLaw_1000 dLaw_1003 dLaw_1004 dLaw_1007 ?_
  have hPc : va_P D vwCl (wC cI cL a v) H := va_P_left (va_P_left hP)
  refine g_roVi (w := wC cI cL a) (v := v) (As := [.int (bi (dNz (xs (6 * j + 1 + 1))))]) (rest := []) ⟨hx, hb, hml, hown, hts⟩ M1 (cwV 1 hts (gw_V k262 k263 k264 k27 k265) rfl e1 e2 (by decide +kernel) e3) hK hPc (wC_rc hK hPc) rfl hl.1 rfl (Nat.le_of_ble_eq_true rfl) dLaw_1008 ⟨by show _ ≤ 1064; omega, by show _ ≤ 11281; omega⟩ ?_
  refine lv_aload_n hx hb dLaw_1011 rfl (lv_at hl 2 rfl) ?_
  refine lv_aload_n hx hb dLaw_1012 rfl (lv_at hl 0 rfl) ?_
  refine lv_iload hx hb dLaw_1013 (lv_at hl 4 rfl) ?_
  refine lv_iconst (v := nI 1) hx hb dLaw_1015 (by decide) ?_
  refine lv_iadd hx hb dLaw_1016 ?_
  refine lv_eqi (y := nI (6 * j + 1 + 1)) (nI_add (6 * j + 1) 1) ?_
  refine ir_sld hx hb hX hbl hS (by omega) hL dLaw_1017 ?_
  refine w_nz hx hb dLaw_1018 dLaw_1021 dLaw_1022 dLaw_1025 ?_
  refine w_callVi (a := a') (n0 := 11) (w := wR cI cZ a') (v := r) (v' := r') (Y := wL cI cL a (v, fo)) (X := []) (As := [.int (bi (dNz (xs (6 * j + 1 + 1))))]) (rest := [.int (bb)]) ⟨hx, hb, hml, hown, hts⟩ M2 (cwV 1 hts (gw_V k726 k727 k728 k32 k729) rfl g1 g2 (by decide +kernel) g3) hKR (wR_ad cI cZ a' r) (by rw [List.append_nil]; exact hP) (by rw [List.append_nil]; exact hDD _ _ _) (wR_rc hKR (va_P_right hP)) rfl hl.1 rfl (Nat.le_of_ble_eq_true rfl) dLaw_1026 ⟨by show _ ≤ 1064; omega, by show _ ≤ 11281; omega⟩ hAb hS (fun H locs hP hS => ?_)
  rw [List.append_nil] at hP
  refine W.widen (k := 32 + j) (n := 3041 + 6 * j) (by omega) (by omega) ?_
  exact lv_icmp_eq hx hb (tgt := 1047) dLaw_1029 (by decide) (fun _ => kk ls H locs hP hS hl) (fun h9 => absurd rfl h9)
set_option maxHeartbeats 4000000 in
set_option maxRecDepth 100000 in
theorem law_time {p : Program} {l : Launch} {e : Env} {s : State} {m : MethodId} {below : List Frame} {meth : Method} {c : Code} {Q : State → Prop} {b L : Nat} {xs : Nat → Int32} {D : va_G} {cI cL cZ : ClassId} {a a' : Nat → Nat} (C : lx p s m meth c b L xs D cI cL cZ a a') {j : Nat} (hj : 6 * j + 7 ≤ L) {v : CS} {fo : Nat → Int64} {r : RS} {bb : Int32} {r' : RS} (h1 : cRo l D cI cL a yDB_time wsDB_time 1 [.ref (a 0)] v (bb)) (h2 : rMet l D cI cZ a' yRM_time wsRM_time 1 [.ref (a' 0)] r (bb) r') {ls : Array Slot} {H : Heap} {locs : List Loc} (hP : va_P D vwCl (wL cI cL a (v, fo) ++ wR cI cZ a' r) H) (hS : va_S (lA s) s.heap H locs) (hl : lv_has ls 7 [(0, .ref b), (1, .ref (a 0)), (2, .ref (a' 0)), (3, .ref (a 19)), (4, .int (nI (6 * j + 1)))])
    (kk : ∀ (ls : Array Slot) (H : Heap) (locs : List Loc), va_P D vwCl (wL cI cL a (v, fo) ++ wR cI cZ a' r') H → va_S (lA s) s.heap H locs → lv_has ls 7 [(0, .ref b), (1, .ref (a 0)), (2, .ref (a' 0)), (3, .ref (a 19)), (4, .int (nI (6 * j + 1)))] → W p l e room_1 s m #[Value.ref b] below meth c H locs (32 + j) (3041 + 6 * j) Q (F0 m 1047 ls [])) : W p l e room_1 s m #[Value.ref b] below meth c H locs (31 + j) (3035 + 6 * j) Q (F0 m 1034 ls []) := by
  obtain ⟨⟨hx, hb, hml, hown, hts⟩, ⟨hr, hlocks⟩, ⟨hX, hbl, hL⟩, ⟨hK, hKR, hT⟩, hDD, hIa, hIb⟩ := C
  obtain ⟨m1, e1, e2, e3, M1⟩ := h1
  obtain ⟨m2, g1, g2, g3, M2⟩ := h2
  have hAa : ∀ q, aS a 20 q → lA s q := fun q h => by obtain ⟨k0, h0, h9⟩ := h; obtain ⟨ee, he⟩ := adr_in (wL_ad cI cL a (v, fo)) h0; subst h9; exact (hDD v fo r).2 k0 _ (by rw [List.getElem?_append_left ((List.getElem?_eq_some_iff.mp he).1)]; exact he)
  have hAb : ∀ q, aS a' 11 q → lA s q := fun q h => by obtain ⟨k0, h0, h9⟩ := h; obtain ⟨ee, he⟩ := adr_in (wR_ad cI cZ a' r) h0; subst h9; exact (hDD v fo r).2 ((wL cI cL a (v, fo)).length + k0) _ (by rw [List.getElem?_append_right (by omega), show (wL cI cL a (v, fo)).length + k0 - (wL cI cL a (v, fo)).length = k0 by omega]; exact he)
  refine lv_aload_n hx hb dLaw_1034 rfl (lv_at hl 1 rfl) ?_
  have hPc : va_P D vwCl (wC cI cL a v) H := va_P_left (va_P_left hP)
  refine g_roVi (w := wC cI cL a) (v := v) (As := []) (rest := []) ⟨hx, hb, hml, hown, hts⟩ M1 (cwV 0 hts (gw_V k270 k271 k272 k27 k273) rfl e1 e2 (by decide +kernel) e3) hK hPc (wC_rc hK hPc) rfl hl.1 rfl (Nat.le_of_ble_eq_true rfl) dLaw_1035 ⟨by show _ ≤ 1064; omega, by show _ ≤ 11281; omega⟩ ?_
  refine lv_aload_n hx hb dLaw_1038 rfl (lv_at hl 2 rfl) ?_
  refine w_callVi (a := a') (n0 := 11) (w := wR cI cZ a') (v := r) (v' := r') (Y := wL cI cL a (v, fo)) (X := []) (As := []) (rest := [.int (bb)]) ⟨hx, hb, hml, hown, hts⟩ M2 (cwV 0 hts (gw_V k730 k731 k732 k32 k733) rfl g1 g2 (by decide +kernel) g3) hKR (wR_ad cI cZ a' r) (by rw [List.append_nil]; exact hP) (by rw [List.append_nil]; exact hDD _ _ _) (wR_rc hKR (va_P_right hP)) rfl hl.1 rfl (Nat.le_of_ble_eq_true rfl) dLaw_1039 ⟨by show _ ≤ 1064; omega, by show _ ≤ 11281; omega⟩ hAb hS (fun H locs hP hS => ?_)
  rw [List.append_nil] at hP
  refine W.widen (k := 32 + j) (n := 3041 + 6 * j) (by omega) (by omega) ?_
  exact lv_icmp_eq hx hb (tgt := 1047) dLaw_1042 (by decide) (fun _ => kk ls H locs hP hS hl) (fun h9 => absurd rfl h9)
