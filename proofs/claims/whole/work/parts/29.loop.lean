/-! THE CLAIM OUT OF ONE WALK OF THE LAW'S BODY. Your part is whole_start (and what it stands on); all else here is the same for every law, but numbers. -/
def R_law : String := "DeskBenchLaw"
def lw_P (b : Addr) (xs : List Int32) (args : Array Value) (s : State) : Prop := args = #[.ref b] ∧ s.IntsAt b xs ∧ xs.length ≤ 3073 ∧ (Jvm.Cond.and given_1 narrow_1).before args s = true
def lw_Q (_ : Array Value) (s : State) (o : Outcome) (t : State) : Prop := o = .returned (some (.int 1)) ∧ Framed s o t [] 1064 11281
def lw_Z (below : List Frame) (a : Array Value) (s : State) : State → Prop := fun t => ∃ o, t.status = .running ∧ Ended t below o ∧ lw_Q a s o t
/-- the law's own end, with 1 on the stack, nothing written that was there before, its room as the claim has it -/
theorem lw_ret {p : Program} {l : Launch} {e : Env} {s : State} {m : MethodId} {below : List Frame} {meth : Method} {c : Code} {b : Nat} (hx : p.tables.exec = Jvm.exec) (hb : c.code = code) (hr : meth.sig.returnType = ret) (hlocks : meth.locks = false) {pc : Nat} {H : Heap} {ls : Array Slot} (hdg : decode code pc = .ok (.ireturn, 1)) : W p l e room_1 s m #[Value.ref b] below meth c H [] 1064 11281 (lw_Z below #[Value.ref b] s) (F0 m pc ls [.int 1]) := by
  intro T hT X
  obtain ⟨fs, hret, hrun, hended, hW, hframe⟩ := X.leave (v := some (.int 1)) (hlocks := hlocks) (fun h => by rw [hr] at h; cases h)
  have hmeth' : T.vm.method? m = some meth := X.method'
  refine ⟨T.setFrames fs, ?_, .returned (some (.int 1)), hrun, hended, rfl, ⟨_, rfl⟩, hW, hframe⟩
  jvm_step X.here [X.here.top, hx, hb, hdg, hmeth', hr, ret, narrow_b1]
  (try refine ⟨rfl, ?_⟩); (try refine ⟨rfl, ?_⟩)
  first | (intro acts; rw [hret _ acts rfl rfl rfl]) | rw [hret _ _ rfl rfl rfl]
  exact Steps.refl _
/-- what holds at the law's entry: the machine, the code, the tables' words (any of lw_tbl by 'hts w (by decide +kernel)'), the script of L ints xs at the cell b, what the Statement gives of the start (any of its parts by flat_of_before) -/
def lw_At (p : Program) (s : State) (m : MethodId) (meth : Method) (c : Code) (b L : Nat) (xs : Nat → Int32) : Prop :=
  p.tables.exec = Jvm.exec ∧ c.code = code ∧ meth.sig.returnType = ret ∧ c.maxLocals = 7 ∧ s.vm.findClass R_law = some m.cls ∧ (∀ w ∈ lw_tbl, w.before #[Value.ref b] s = true) ∧ va_X b L xs s s.heap ∧ b < s.heap.size ∧ meth.locks = false ∧ (Jvm.Cond.and given_1 narrow_1).before #[Value.ref b] s = true
theorem arr_known {s : State} {args : Array Value} {ty : FieldType} (h : (Cond.arrayClass ty).before args s = true) : ∃ cA, ArrOfT s cA ty ∧ s.vm.findClass ("[" ++ ty.toString) = some cA := by
  obtain ⟨cA, kA, comp, h1, h2, h3⟩ := Cond.arrayClass_spec h
  exact ⟨cA, fun n z => ⟨fun k h => (by cases h), kA, h2, comp, h3⟩, h1⟩
theorem va_D_fst {A : Nat → Prop} {w w' : va_W} (h : w.map Prod.fst = w'.map Prod.fst) (hD : va_D A w) : va_D A w' := by
  have at' : ∀ (i : Nat) (q : Nat × va_E), w'[i]? = some q → ∃ e, w[i]? = some (q.1, e) := by
    intro i q hq
    have h1 : (w'.map Prod.fst)[i]? = some q.1 := by rw [List.getElem?_map, hq]; rfl
    rw [← h, List.getElem?_map] at h1
    cases hw : w[i]? with
    | none => rw [hw] at h1; cases h1
    | some x =>
      rw [hw] at h1
      have h2 : x.1 = q.1 := Option.some.inj h1
      exact ⟨x.2, congrArg some (Prod.ext h2 rfl)⟩
  refine ⟨fun i j p q hp hq e => ?_, fun k q hq => ?_⟩
  · obtain ⟨e1, g1⟩ := at' i p hp
    obtain ⟨e2, g2⟩ := at' j q hq
    exact hD.1 i j _ _ g1 g2 e
  · obtain ⟨e1, g1⟩ := at' k q hq
    exact hD.2 k (q.1, e1) g1
set_option maxHeartbeats 4000000 in
set_option maxRecDepth 100000 in
theorem c_LW_cell (l : Launch) {b L : Nat} {xs : Nat → Int32} (hL : L ≤ 3073) : Met l yLW_cell wsLW_cell ({ frames := 0, cells := 0, slots := 0, locals := 0 }) (va_Pc [.ref b, .int 0] (fun U => va_X b L xs U U.heap)) (vp_Si (fun r : Int32 => r = if 0 < L then xs 0 else 0)) 0 0 (fun _ => False) := by
  refine Met.ofW (cc := cLW_cell) (maxL := 2) (ret := some .int) (by decide) rfl ?_
  intro p e s m args below meth c s₁ B hml hv
  obtain ⟨rfl, hX⟩ := hv
  have hx := B.exec
  have hb := B.bytes
  have hr := B.returns
  have hlocks := B.notSynchronized
  have hbl : b < s.heap.size := by obtain ⟨scr, h1, -⟩ := hX; exact (Array.getElem?_eq_some_iff.mp h1).1
  have hl := lv_entry ([.ref b, .int 0]) (n := 2) (Nat.le_of_ble_eq_true rfl)
  rw [lg_entry_eq]
  generalize (lg_sl ([.ref b, .int 0]) ++ List.replicate (2 - (lg_sl ([.ref b, .int 0])).length) Slot.unset).toArray = ls at hl ⊢
  have hl : lv_has ls 2 [(0, .ref b), (1, .int 0)] := hl
  have hS : va_S (lA s) s.heap s.heap [] := va_S.rf
  refine lv_iload_n hx hb dLW_cell_0 rfl (lv_at hl 1 rfl) ?_
  refine lv_aload_n hx hb dLW_cell_1 rfl (lv_at hl 0 rfl) ?_
  refine va_slen hx hb hX hbl (fun h : s.heap.size ≤ b => by omega) hS dLW_cell_2 ?_
  refine lv_icmp_ge hx hb (tgt := 12) dLW_cell_3 (by decide) (fun c1 => ?_) (fun c1 => ?_)
  · refine lv_iconst (v := 0) hx hb dLW_cell_12 (by decide) ?_
    have h0 : ¬ 0 < L := fun h => nI_nle h (by omega) c1
    exact r_iret hx hb hr (by rw [if_neg h0]) hlocks dLW_cell_13
  · have h0 : 0 < L := Nat.pos_of_ne_zero (fun h => c1 (by subst h; exact Int32.le_refl _))
    refine lv_aload_n hx hb dLW_cell_6 rfl (lv_at hl 0 rfl) ?_
    refine lv_iload_n hx hb dLW_cell_7 rfl (lv_at hl 1 rfl) ?_
    refine ir_sld (k := 0) hx hb hX hbl hS h0 hL dLW_cell_8 ?_
    refine lv_goto hx hb (tgt := 13) dLW_cell_9 (by decide) ?_
    exact r_iret hx hb hr (by rw [if_pos h0]) hlocks dLW_cell_13
set_option maxRecDepth 100000 in
theorem tF_of {s : State} {args : Array Value} (hts : ∀ w ∈ lw_tbl, w.before args s = true) (hgv : (Jvm.Cond.and given_1 narrow_1).before args s = true) : tF s := by
  have hfl := flat_of_before _ hgv
  have l1 : (Cond.laysStatic tThr "UNASSIGNED_STACK" tSte).before args s = true := hts _ (by decide +kernel)
  have l2 : (Cond.laysStatic tThr "SUPPRESSED_SENTINEL" tLst).before args s = true := hts _ (by decide +kernel)
  have r1 : (Cond.isRef (.static tThr "UNASSIGNED_STACK" tSte)).before args s = true := hfl _ (by decide +kernel)
  have r2 : (Cond.isRef (.static tThr "SUPPRESSED_SENTINEL" tLst)).before args s = true := hfl _ (by decide +kernel)
  refine ⟨fun w hw => ?_, fun w hw => ?_, fun w hw => ?_, fun w hw => ?_, va_Nc.of (hfl _ (by decide +kernel))⟩
  · have hf := List.mem_filter.mp hw
    have h2 := hf.2
    rw [Bool.and_eq_true] at h2
    exact va_tabs h2.1 rfl (hts w hf.1)
  · have hf := List.mem_filter.mp hw
    have h1 := hts w hf.1
    have h2 := hf.2
    cases w with
    | stringRef c i t => exact h1
    | _ => simp [isStr] at h2
  · simp only [List.mem_cons, List.not_mem_nil, or_false] at hw
    rcases hw with rfl | rfl
    · exact tk_ls (State.WarmedH.refl s) (tKeep.rf s) l1
    · exact tk_ls (State.WarmedH.refl s) (tKeep.rf s) l2
  · simp only [List.mem_cons, List.not_mem_nil, or_false] at hw
    rcases hw with rfl | rfl
    · exact tk_ir (State.WarmedH.refl s) (tKeep.rf s) l1 r1
    · exact tk_ir (State.WarmedH.refl s) (tKeep.rf s) l2 r2
theorem fItself_lt (x : Int32) : fItself x < 64 := by
  unfold fItself
  split
  · decide
  · rename_i h0
    split
    · rename_i h1
      obtain ⟨k, hk, rfl⟩ := nI_of h0
      rw [nI_clamp hk]
      exact (nI_ltI (b := 64) hk (by decide)).mp h1
    · decide
theorem aI.ofR {w X : va_W} {n : Nat} {a : Nat → Nat} {A : Nat → Prop} (h : X.map Prod.fst = (List.range n).map a) (hD : va_D A (w ++ X)) : aI a n := by
  intro i j hi hj e
  obtain ⟨e1, h1⟩ := adr_in h hi
  obtain ⟨e2, h2⟩ := adr_in h hj
  have at' : ∀ (k : Nat) (q : Nat × va_E), X[k]? = some q → (w ++ X)[w.length + k]? = some q := fun k q hq => by
    rw [List.getElem?_append_right (by omega), show w.length + k - w.length = k by omega]; exact hq
  have := hD.1 _ _ _ _ (at' i _ h1) (at' j _ h2) e
  omega
theorem law_go {L j : Nat} (hL : L ≤ 3073) (hj : 6 * j ≤ L) (hg : ¬ Int32.ofNat L - nI 6 < nI (6 * j + 1)) : 6 * j + 7 ≤ L := by
  rw [Int32.lt_iff_toInt_lt, nI_toInt (by omega), show (Int32.ofNat L - nI 6).toInt = (L : Int) - (6 : Nat) from pk_sub_toInt (by omega) (by decide)] at hg
  omega
/-- a made cell's world is put in its place -/
theorem start_join {D : va_G} {w wc w1 : va_W} {H H1 : Heap} {A0 : Nat → Prop} (hP : va_P D vwCl (w ++ (wc ++ [])) H) (hD : va_D A0 (w ++ (wc ++ []))) (hk : ∀ q : Nat, q < H.size → ¬ va_A wc H.size q → H1[q]? = H[q]?) (hF : ∀ q, va_A wc H.size q → A0 q) (hP1 : va_P D vwCl w1 H1) (hD1 : va_D (va_A wc H.size) w1) : va_P D vwCl (w ++ w1) H1 ∧ va_D A0 (w ++ w1) := by
  have apart : ∀ (i : Nat) (q : Nat × va_E), w[i]? = some q → q.1 < H.size ∧ ¬ va_A wc H.size q.1 := by
    intro i q hi
    have hi2 : (w ++ (wc ++ []))[i]? = some q := by rw [List.getElem?_append_left ((List.getElem?_eq_some_iff.mp hi).1)]; exact hi
    have hlt := (hP i q hi2).lt
    refine ⟨hlt, ?_⟩
    rintro (⟨k, e, hk2⟩ | h2)
    · have hk3 : (w ++ (wc ++ []))[w.length + k]? = some (q.1, e) := by
        rw [List.getElem?_append_right (by omega), show w.length + k - w.length = k by omega, List.append_nil]; exact hk2
      have h5 := hD.1 _ _ _ _ hi2 hk3 rfl
      have h6 := (List.getElem?_eq_some_iff.mp hi).1
      omega
    · omega
  have hDw : va_D A0 w := ⟨fun i j p q hp hq e => hD.1 i j p q (by rw [List.getElem?_append_left ((List.getElem?_eq_some_iff.mp hp).1)]; exact hp) (by rw [List.getElem?_append_left ((List.getElem?_eq_some_iff.mp hq).1)]; exact hq) e, fun k q hq => hD.2 k q (by rw [List.getElem?_append_left ((List.getElem?_eq_some_iff.mp hq).1)]; exact hq)⟩
  refine ⟨((va_P_left hP).kept (fun i q hi => hk q.1 (apart i q hi).1 (apart i q hi).2)).app hP1, hDw.app (hD1.weaken (fun _ q _ h => hF q.1 h)) (fun i j p q hp hq e => ?_)⟩
  exact (apart i p hp).2 (by rw [e]; exact hD1.2 j q hq)
/-- the array out, made last, comes behind the class's cells -/
theorem start_perm {D : va_G} {A : Nat → Prop} {H : Heap} {cI cL cZ : ClassId} {u1 u aa : Nat → Nat} {v : CS} {r : RS} {qo : Nat} (h19 : aa 19 = qo) (hw : wC cI cL aa v = wC cI cL u1 v) (hP : va_P D vwCl ((wC cI cL u1 v ++ wR cI cZ u r) ++ [(qo, .inl (cL, 1, .inr (.inl (fun _ => 0))))]) H) (hD : va_D A ((wC cI cL u1 v ++ wR cI cZ u r) ++ [(qo, .inl (cL, 1, .inr (.inl (fun _ => 0))))])) :
    va_P D vwCl (wL cI cL aa (v, fun _ => 0) ++ wR cI cZ u r) H ∧ va_D A (wL cI cL aa (v, fun _ => 0) ++ wR cI cZ u r) := by
  have e : wL cI cL aa (v, fun _ => 0) ++ wR cI cZ u r = (wC cI cL u1 v ++ [(qo, .inl (cL, 1, .inr (.inl (fun _ => 0))))]) ++ wR cI cZ u r := by
    unfold wL
    rw [h19]
    show (wC cI cL aa v ++ _) ++ _ = _
    rw [hw]
  rw [e]
  exact ⟨hP.swap, hD.swap⟩
set_option maxHeartbeats 4000000 in
set_option maxRecDepth 100000 in
theorem law_loop {p : Program} {l : Launch} (hLt : l.stackTraces = false) {e : Env} {s : State} {m : MethodId} {below : List Frame} {meth : Method} {c : Code} {b L : Nat} {xs : Nat → Int32} {D : va_G} {cI cL cZ : ClassId} {a a' : Nat → Nat} (C : lx p s m meth c b L xs D cI cL cZ a a') : ∀ (n j : Nat) (v : CS) (fo : Nat → Int64) (r : RS) (ls : Array Slot) (H : Heap) (locs : List Loc), L < 6 * (j + n) + 7 → 6 * j ≤ L → Rel j v r → va_P D vwCl (wL cI cL a (v, fo) ++ wR cI cZ a' r) H → va_S (lA s) s.heap H locs → lv_has ls 7 [(0, .ref b), (1, .ref (a 0)), (2, .ref (a' 0)), (3, .ref (a 19)), (4, .int (nI (6 * j + 1)))] → W p l e room_1 s m #[Value.ref b] below meth c H locs (31 + j) (3035 + 6 * j) (lw_Z below #[Value.ref b] s) (F0 m 33 ls []) := by
  intro n
  induction n with
  | zero =>
    intro j v fo r ls H locs hn hj hR hP hS hl
    obtain ⟨⟨hx, hb, hml, hown, hts⟩, ⟨hr, hlocks⟩, ⟨hX, hbl, hL⟩, ⟨hK, hKR, hT⟩, hDD, hIa, hIb⟩ := id C
    refine lv_iload hx hb dLaw_33 (lv_at hl 4 rfl) ?_
    refine lv_aload_n hx hb dLaw_35 rfl (lv_at hl 0 rfl) ?_
    refine va_slen hx hb hX hbl (fun h : s.heap.size ≤ b => by omega) hS dLaw_36 ?_
    refine lv_bipush (v := nI 6) hx hb dLaw_37 (by decide) ?_
    refine lv_isub hx hb dLaw_39 ?_
    have hfin : W p l e room_1 s m #[Value.ref b] below meth c H locs (31 + j) (3035 + 6 * j) (lw_Z below #[Value.ref b] s) (F0 m 1053 ls []) := by
      refine va_forget (fun q hq => hS.2.2 q hq) ?_
      refine W.widen (k := 1064) (n := 11281) (by omega) (by omega) ?_
      refine lv_iconst (v := 1) hx hb dLaw_1053 (by decide) ?_
      exact lw_ret hx hb hr hlocks dLaw_1054
    refine lv_icmp_gt hx hb (tgt := 1053) dLaw_40 (by decide) (fun _ => hfin) (fun hg => ?_)
    have hjL : 6 * j + 7 ≤ L := law_go hL (by omega) hg
    exact absurd hjL (by omega)
  | succ n ih =>
    intro j v fo r ls H locs hn hj hR hP hS hl
    obtain ⟨⟨hx, hb, hml, hown, hts⟩, ⟨hr, hlocks⟩, ⟨hX, hbl, hL⟩, ⟨hK, hKR, hT⟩, hDD, hIa, hIb⟩ := id C
    refine lv_iload hx hb dLaw_33 (lv_at hl 4 rfl) ?_
    refine lv_aload_n hx hb dLaw_35 rfl (lv_at hl 0 rfl) ?_
    refine va_slen hx hb hX hbl (fun h : s.heap.size ≤ b => by omega) hS dLaw_36 ?_
    refine lv_bipush (v := nI 6) hx hb dLaw_37 (by decide) ?_
    refine lv_isub hx hb dLaw_39 ?_
    have hfin : W p l e room_1 s m #[Value.ref b] below meth c H locs (31 + j) (3035 + 6 * j) (lw_Z below #[Value.ref b] s) (F0 m 1053 ls []) := by
      refine va_forget (fun q hq => hS.2.2 q hq) ?_
      refine W.widen (k := 1064) (n := 11281) (by omega) (by omega) ?_
      refine lv_iconst (v := 1) hx hb dLaw_1053 (by decide) ?_
      exact lw_ret hx hb hr hlocks dLaw_1054
    refine lv_icmp_gt hx hb (tgt := 1053) dLaw_40 (by decide) (fun _ => hfin) (fun hg => ?_)
    have hjL : 6 * j + 7 ≤ L := law_go hL (by omega) hg
    refine lv_aload_n hx hb dLaw_43 rfl (lv_at hl 0 rfl) ?_
    refine lv_iload hx hb dLaw_44 (lv_at hl 4 rfl) ?_
    refine ir_sld hx hb hX hbl hS (show 6 * j + 1 < L by omega) hL dLaw_46 ?_
    refine lv_bipush (v := 15) hx hb dLaw_47 (by decide) ?_
    refine lv_iand hx hb dLaw_49 ?_
    obtain ⟨q, hq, hqe⟩ := pk_andE (xs (6 * j + 1)) (m := 15) 4 (by decide)
    rw [hqe]
    have again : ∀ (v : CS) (fo : Nat → Int64) (r : RS), Rel (j + 1) v r → ∀ (ls : Array Slot) (H : Heap) (locs : List Loc), va_P D vwCl (wL cI cL a (v, fo) ++ wR cI cZ a' r) H → va_S (lA s) s.heap H locs → lv_has ls 7 [(0, .ref b), (1, .ref (a 0)), (2, .ref (a' 0)), (3, .ref (a 19)), (4, .int (nI (6 * j + 1)))] → W p l e room_1 s m #[Value.ref b] below meth c H locs (32 + j) (3041 + 6 * j) (lw_Z below #[Value.ref b] s) (F0 m 1047 ls []) := by
      intro v fo r hR ls H locs hP hS hl
      refine lv_iinc (v := nI (6 * (j + 1) + 1)) (lv' := [(4, .int (nI (6 * (j + 1) + 1))), (0, .ref b), (1, .ref (a 0)), (2, .ref (a' 0)), (3, .ref (a 19))]) hx hb dLaw_1047 hl (k := 4) rfl (by show nI (6 * j + 1) + nI 6 = _; rw [nI_add, show 6 * j + 1 + 6 = 6 * (j + 1) + 1 by omega]) (by decide) rfl (fun ls hl => ?_)
      refine lv_goto hx hb (tgt := 33) dLaw_1050 (by decide) ?_
      have hk := ih (j + 1) v fo r ls H locs (by omega) (by omega) hR hP hS (lv_sub hl [1, 2, 3, 4, 0] rfl)
      rw [show 31 + (j + 1) = 32 + j by omega, show 3035 + 6 * (j + 1) = 3041 + 6 * j by omega] at hk
      exact hk
    have hlo : ∀ q : Nat, q < 16 → (nI q).toInt = q := fun q hq => nI_toInt (by omega)
    have hj6 : j < 600 := by omega
    match q, hq with
    | 0, _ =>
      refine lv_tableIn hx hb (off := 78) (tgt := 128) dLaw_50 (by decide) (by decide) (by decide) (by decide) ?_
      obtain ⟨k, v', fo', bb, r', h1, h2, hc, hz, hR'⟩ := step_port hLt (D := D) (cI := cI) (cL := cL) (cZ := cZ) hIa hIb hR hj6 fo (xs (6 * j + 1 + 1)) (dNz (xs (6 * j + 1 + 2)))
      exact law_port C hjL h1 h2 hc hz hP hS hl (again v' fo' r' hR')
    | 1, _ =>
      refine lv_tableIn hx hb (off := 169) (tgt := 219) dLaw_50 (by decide) (by decide) (by decide) (by decide) ?_
      obtain ⟨k, v', fo', bb, r', h1, h2, hc, hz, hR'⟩ := step_greeting hLt (D := D) (cI := cI) (cL := cL) (cZ := cZ) hIa hIb hR hj6 fo (xs (6 * j + 1 + 1)) (xs (6 * j + 1 + 2)) (dNz (xs (6 * j + 1 + 3)))
      exact law_greeting C hjL h1 h2 hc hz hP hS hl (again v' fo' r' hR')
    | 2, _ =>
      refine lv_tableIn hx hb (off := 265) (tgt := 315) dLaw_50 (by decide) (by decide) (by decide) (by decide) ?_
      obtain ⟨k, v', fo', bb, r', h1, h2, hc, hz, hR'⟩ := step_advert hLt (D := D) (cI := cI) (cL := cL) (cZ := cZ) hIa hIb hR hj6 fo (xs (6 * j + 1 + 1)) (xs (6 * j + 1 + 2)) (xs (6 * j + 1 + 3)) (xs (6 * j + 1 + 4)) (xs (6 * j + 1 + 5))
      exact law_advert C hjL h1 h2 hc hz hP hS hl (again v' fo' r' hR')
    | 3, _ =>
      refine lv_tableIn hx hb (off := 369) (tgt := 419) dLaw_50 (by decide) (by decide) (by decide) (by decide) ?_
      obtain ⟨k, v', fo', bb, r', h1, h2, hc, hz, hR'⟩ := step_thanks hLt (D := D) (cI := cI) (cL := cL) (cZ := cZ) hIa hIb hR hj6 fo (xs (6 * j + 1 + 1)) (xs (6 * j + 1 + 2)) (xs (6 * j + 1 + 3)) (xs (6 * j + 1 + 4))
      exact law_thanks C hjL h1 h2 hc hz hP hS hl (again v' fo' r' hR')
    | 4, _ =>
      refine lv_tableIn hx hb (off := 468) (tgt := 518) dLaw_50 (by decide) (by decide) (by decide) (by decide) ?_
      obtain ⟨v', bb, r', h1, h2, hR'⟩ := step_own hLt (D := D) (cI := cI) (cL := cL) (cZ := cZ) hIa hIb hR hj6 (xs (6 * j + 1 + 1))
      exact law_own C hjL h1 h2 hP hS hl (again v' fo r' hR')
    | 5, _ =>
      refine lv_tableIn hx hb (off := 493) (tgt := 543) dLaw_50 (by decide) (by decide) (by decide) (by decide) ?_
      obtain ⟨k, v', fo', bb, r', h1, h2, hc, hz, hR'⟩ := step_forget hLt (D := D) (cI := cI) (cL := cL) (cZ := cZ) hIa hIb hR hj6 fo (xs (6 * j + 1 + 1))
      exact law_forget C hjL h1 h2 hc hz hP hS hl (again v' fo' r' hR')
    | 6, _ =>
      refine lv_tableIn hx hb (off := 556) (tgt := 606) dLaw_50 (by decide) (by decide) (by decide) (by decide) ?_
      obtain ⟨k, v', fo', bb, r', h1, h2, hc, hz, hR'⟩ := step_run hLt (D := D) (cI := cI) (cL := cL) (cZ := cZ) hIa hIb hR hj6 fo (xs (6 * j + 1 + 1))
      exact law_run C hjL h1 h2 hc hz hP hS hl (again v' fo' r' hR')
    | 7, _ =>
      refine lv_tableIn hx hb (off := 612) (tgt := 662) dLaw_50 (by decide) (by decide) (by decide) (by decide) ?_
      obtain ⟨v', bb, r', h1, h2, hR'⟩ := step_next hLt (D := D) (cI := cI) (cL := cL) (cZ := cZ) hIa hIb hR hj6 
      exact law_next C hjL h1 h2 hP hS hl (again v' fo r' hR')
    | 8, _ =>
      refine lv_tableIn hx hb (off := 625) (tgt := 675) dLaw_50 (by decide) (by decide) (by decide) (by decide) ?_
      obtain ⟨k, v', fo', bb, r', h1, h2, hc, hz, hR'⟩ := step_message hLt (D := D) (cI := cI) (cL := cL) (cZ := cZ) hIa hIb hR hj6 fo (xs (6 * j + 1 + 1))
      exact law_message C hjL h1 h2 hc hz hP hS hl (again v' fo' r' hR')
    | 9, _ =>
      refine lv_tableIn hx hb (off := 681) (tgt := 731) dLaw_50 (by decide) (by decide) (by decide) (by decide) ?_
      obtain ⟨bb, r', h1, h2, hR'⟩ := step_named hLt (D := D) (cI := cI) (cL := cL) (cZ := cZ) hIa hIb hR hj6 
      exact law_named C hjL h1 h2 hP hS hl (again v fo r' hR')
    | 10, _ =>
      refine lv_tableIn hx hb (off := 695) (tgt := 745) dLaw_50 (by decide) (by decide) (by decide) (by decide) ?_
      obtain ⟨k, v', fo', bb, r', h1, h2, hc, hz, hR'⟩ := step_state hLt (D := D) (cI := cI) (cL := cL) (cZ := cZ) hIa hIb hR hj6 fo (xs (6 * j + 1 + 1)) (xs (6 * j + 1 + 2))
      exact law_state C hjL h1 h2 hc hz hP hS hl (again v' fo' r' hR')
    | 11, _ =>
      refine lv_tableIn hx hb (off := 763) (tgt := 813) dLaw_50 (by decide) (by decide) (by decide) (by decide) ?_
      obtain ⟨k, v', fo', bb, r', h1, h2, hc, hz, hR'⟩ := step_known hLt (D := D) (cI := cI) (cL := cL) (cZ := cZ) hIa hIb hR hj6 fo (xs (6 * j + 1 + 1))
      exact law_known C hjL h1 h2 hc hz hP hS hl (again v' fo' r' hR')
    | 12, _ =>
      refine lv_tableIn hx hb (off := 819) (tgt := 869) dLaw_50 (by decide) (by decide) (by decide) (by decide) ?_
      obtain ⟨k, v', fo', bb, r', h1, h2, hc, hz, hR'⟩ := step_body hLt (D := D) (cI := cI) (cL := cL) (cZ := cZ) hIa hIb hR hj6 fo (xs (6 * j + 1 + 1))
      exact law_body C hjL h1 h2 hc hz hP hS hl (again v' fo' r' hR')
    | 13, _ =>
      refine lv_tableIn hx hb (off := 875) (tgt := 925) dLaw_50 (by decide) (by decide) (by decide) (by decide) ?_
      obtain ⟨k, v', fo', bb, r', h1, h2, hc, hz, hR'⟩ := step_due hLt (D := D) (cI := cI) (cL := cL) (cZ := cZ) hIa hIb hR hj6 fo (xs (6 * j + 1 + 1)) (xs (6 * j + 1 + 2))
      exact law_due C hjL h1 h2 hc hz hP hS hl (again v' fo' r' hR')
    | 14, _ =>
      refine lv_tableIn hx hb (off := 943) (tgt := 993) dLaw_50 (by decide) (by decide) (by decide) (by decide) ?_
      obtain ⟨bb, r', h1, h2, hR'⟩ := step_count hLt (D := D) (cI := cI) (cL := cL) (cZ := cZ) hIa hIb hR hj6 (dNz (xs (6 * j + 1 + 1)))
      exact law_count C hjL h1 h2 hP hS hl (again v fo r' hR')
    | 15, _ =>
      refine lv_tableIn hx hb (off := 984) (tgt := 1034) dLaw_50 (by decide) (by decide) (by decide) (by decide) ?_
      obtain ⟨bb, r', h1, h2, hR'⟩ := step_time hLt (D := D) (cI := cI) (cL := cL) (cZ := cZ) hIa hIb hR hj6 
      exact law_time C hjL h1 h2 hP hS hl (again v fo r' hR')
    | q + 16, hq => omega
