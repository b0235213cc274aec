set_option maxHeartbeats 4000000 in
set_option maxRecDepth 100000 in
theorem whole_start {p : Program} {e : Env} {s : State} {m : MethodId} {below : List Frame} {meth : Method} {c : Code} (l : Launch) (hLt : l.stackTraces = false) {b L : Nat} {xs : Nat → Int32} (hL : L ≤ 3073) (C0 : lw_At p s m meth c b L xs) : W p l e room_1 s m #[Value.ref b] below meth c s.heap [] 0 0 (lw_Z below #[Value.ref b] s) (entryFrame m ([Value.ref b] : List Value).toArray 7) := by
  obtain ⟨hx, hb, hr, hml, hown, hts0, hX, hbl, hlocks, hgv⟩ := id C0
  have hts : ∀ w ∈ bigW, w.before #[Value.ref b] s = true := fun w h => hts0 w (bigW_in w h)
  have hown : s.vm.findClass RLW = some m.cls := hown
  have hT : tF s := tF_of hts0 hgv
  have hA : ∀ q : Nat, s.heap.size ≤ q → lA s q := fun _ h => h
  obtain ⟨c0, i0, n0⟩ := u_known (C := RAD) (T := TAD) (N := 2) (n := 2) hts inAD (hts _ k48)
  obtain ⟨c1, i1, n1⟩ := u_known (C := RMS) (T := TMS) (N := 2) (n := 2) hts inMS (hts _ k116)
  obtain ⟨c2, i2, n2⟩ := u_known (C := RNB) (T := TNB) (N := 7) (n := 7) hts inNB (hts _ k62)
  obtain ⟨c3, i3, n3⟩ := u_known (C := RTQ) (T := TTQ) (N := 6) (n := 6) hts inTQ (hts _ k91)
  obtain ⟨c4, i4, n4⟩ := u_known (C := RDB) (T := TDB) (N := 9) (n := 9) hts inDB (hts _ k40)
  obtain ⟨c5, i5, n5⟩ := u_known (C := RRM) (T := TRM) (N := 16) (n := 16) hts inRM (hts _ k570)
  obtain ⟨D, hKc⟩ : ∃ D : va_G, ∀ (k : Nat) (q : vw_C), vwCl[k]? = some q → u_Kn s q.1 q.2.1 q.2.2 (D.1 k) (D.2 k) := by
    refine ⟨(fun k => [c0, c1, c2, c3, c4, c5].getD k c0, fun k => [i0, i1, i2, i3, i4, i5].getD k i0), ?_⟩
    intro k q hq
    match k, hq with
    | 0, hq => cases hq; exact n0
    | 1, hq => cases hq; exact n1
    | 2, hq => cases hq; exact n2
    | 3, hq => cases hq; exact n3
    | 4, hq => cases hq; exact n4
    | 5, hq => cases hq; exact n5
    | k + 6, hq => simp [vwCl] at hq
  obtain ⟨cI, cI1, cI2⟩ := arr_known (hts _ k60)
  obtain ⟨cL, cL1, cL2⟩ := arr_known (hts _ k89)
  obtain ⟨cZ, cZ1, cZ2⟩ := arr_known (hts _ k624)
  have hK : va_K D vwCl (tyC cI cL) s := ⟨hKc, fun k q h => by
    match k, h with
    | 0, h => cases h; exact ⟨cI1, cI2⟩
    | 1, h => cases h; exact ⟨cL1, cL2⟩
    | k + 2, h => simp at h⟩
  have hKR : va_K D vwCl (tyR cI cZ) s := ⟨hKc, fun k q h => by
    match k, h with
    | 0, h => cases h; exact ⟨cI1, cI2⟩
    | 1, h => cases h; exact ⟨cZ1, cZ2⟩
    | k + 2, h => simp at h⟩
  have hS : va_S (lA s) s.heap s.heap [] := va_S.rf
  have hP : va_P D vwCl [] s.heap := fun k q h => by simp at h
  have hD : va_D (lA s) [] := ⟨fun i j p q h => by simp at h, fun k q h => by simp at h⟩
  have hl := lv_entry ([.ref b]) (n := 7) (Nat.le_of_ble_eq_true rfl)
  rw [lg_entry_eq]
  generalize (lg_sl ([.ref b]) ++ List.replicate (7 - (lg_sl ([.ref b])).length) Slot.unset).toArray = ls at hl ⊢
  have hl : lv_has ls 7 [(0, .ref b)] := hl
  refine va_new (ci := 4) (fs := [.int 0, .null, .null, .null, .null, .int 0, .int 0, .int 0, .int 0]) (C := RDB) (T := TDB) (N := 9) hx hb hts inDB tyDB tyDB_ok hown (hts _ k39) (hts _ k40) (hts _ k27) hK hP hD hS hA rfl (fun j hj => by rcases (show j = 0 ∨ j = 1 ∨ j = 2 ∨ j = 3 ∨ j = 4 ∨ j = 5 ∨ j = 6 ∨ j = 7 ∨ j = 8 by omega) with rfl | rfl | rfl | rfl | rfl | rfl | rfl | rfl | rfl <;> rfl) (Nat.le_of_ble_eq_true rfl) (Nat.le_of_ble_eq_true rfl) dLaw_0 (fun d0 H hP hD hS => ?_)
  have hP : va_P D vwCl (([] : va_W) ++ ([(d0, .inr (4, [.int 0, .null, .null, .null, .null, .int 0, .int 0, .int 0, .int 0]))] ++ [])) H := hP
  have hD : va_D (lA s) (([] : va_W) ++ ([(d0, .inr (4, [.int 0, .null, .null, .null, .null, .int 0, .int 0, .int 0, .int 0]))] ++ [])) := hD
  refine W.widen (k := 1) (n := 9) (by decide) (by decide) ?_
  refine lv_dup hx hb dLaw_3 rfl ?_
  refine lv_aload_n hx hb dLaw_4 rfl (lv_at hl 0 rfl) ?_
  refine lv_iconst (v := 0) hx hb dLaw_5 (by decide) ?_
  refine vp_callSi (W.runS (As := [.ref b, .int 0]) (rest := [.ref d0, .ref d0]) ⟨hx, hb, hml, hown, hts⟩ (c_LW_cell l (b := b) (xs := xs) hL) (cw_S 2 hts k274 k275 k26 k276 rfl rfl rfl (by decide +kernel) ⟨Nat.le_of_ble_eq_true rfl, Nat.le_of_ble_eq_true rfl⟩) ⟨fun a U g mk q => ⟨q.1, va_X.moved (u := U) (U := U.calling g mk a) (Vm.Alike.refl U.vm) q.2⟩, fun U hU hW => ⟨rfl, by show va_X b L xs U U.heap; rw [hU]; exact va_X.moved hW.alike (by obtain ⟨scr, g1, g2⟩ := hX; exact ⟨scr, by rw [hS.2.1 b hbl (fun h : s.heap.size ≤ b => by omega)]; exact g1, g2⟩)⟩⟩ rfl rfl hl.1 rfl (lv_room (Nat.le_of_ble_eq_true rfl)) dLaw_6 ⟨Nat.le_of_ble_eq_true rfl, Nat.le_of_ble_eq_true rfl⟩) (fun rx hrx => ?_)
  subst hrx
  have hFc : ∀ q, va_A [(d0, .inr (4, [.int 0, .null, .null, .null, .null, .int 0, .int 0, .int 0, .int 0]))] H.size q → lA s q := fun q h => by
    rcases h with ⟨k0, e0, h0⟩ | h0
    · have h1 := (List.getElem?_eq_some_iff.mp h0).1
      simp at h1
      subst h1
      cases h0
      exact hD.2 (([] : va_W)).length _ (by rw [List.getElem?_append_right (by omega), Nat.sub_self]; rfl)
    · exact Nat.le_trans hS.1 h0
  refine va_callv (va_runI (As := [.int (if 0 < L then xs 0 else 0)]) (rest := [.ref d0]) ⟨hx, hb, hml, hown, hts⟩ (c_DB_init l d0 H.size (if 0 < L then xs 0 else 0)) (cwI 1 hts (gw_I k43) rfl rfl rfl (hts _ k27) (hts _ k41) (hts _ k42) rfl (by decide +kernel) ⟨Nat.le_of_ble_eq_true rfl, Nat.le_of_ble_eq_true rfl⟩) ⟨fun a U g mk q => by obtain ⟨q0, q1, qP, qK, qX⟩ := q; exact ⟨q0, q1, qP, va_K.moved (u := U) (U := U.calling g mk a) (Vm.Alike.refl U.vm) qK, qX⟩, fun U hU hW => ⟨rfl, by rw [hU], by rw [hU]; exact va_P_left (va_P_right hP), va_K.moved hW.alike hK, ⟨va_Nw.warmM hW (va_Nw.of rfl (hts0 (Cond.methodLinkNest "DeskBench" (15 : Nat) ({ cls := "DeskBench$Adverts", name := "<init>", desc := "()V" } : Jvm.MethodName) "DeskBench") (List.mem_of_getElem? (i := 49) (by decide +kernel)))), va_Nw.warmM hW (va_Nw.of rfl (hts0 (Cond.methodLinkNest "DeskBench" (22 : Nat) ({ cls := "DeskBench$Neighbours", name := "<init>", desc := "()V" } : Jvm.MethodName) "DeskBench") (List.mem_of_getElem? (i := 63) (by decide +kernel)))), va_Nw.warmM hW (va_Nw.of rfl (hts0 (Cond.methodLinkNest "DeskBench" (29 : Nat) ({ cls := "DeskBench$ThanksQueue", name := "<init>", desc := "()V" } : Jvm.MethodName) "DeskBench") (List.mem_of_getElem? (i := 92) (by decide +kernel)))), va_Nw.warmM hW (va_Nw.of rfl (hts0 (Cond.methodLinkNest "DeskBench" (36 : Nat) ({ cls := "DeskBench$Message", name := "<init>", desc := "()V" } : Jvm.MethodName) "DeskBench") (List.mem_of_getElem? (i := 117) (by decide +kernel))))⟩⟩⟩ rfl rfl hl.1 rfl (lv_room (Nat.le_of_ble_eq_true rfl)) dLaw_9 ⟨Nat.le_of_ble_eq_true rfl, Nat.le_of_ble_eq_true rfl⟩) hS (fun q _ h => hFc q h) hFc (fun u1 t H1 locs ht hvm _ hB hz1 hk1 hS => ?_)
  obtain ⟨hu1, hP1, hD1⟩ := hB
  rw [ht] at hP1
  have hj := start_join (w := ([] : va_W)) hP hD hk1 hFc hP1 hD1
  obtain ⟨hP, hD⟩ := hj
  generalize H1 = H at hP hS ⊢
  refine W.widen (k := 19) (n := 1536) (by decide) (by decide) ?_
  have hP : va_P D vwCl (wC cI cL u1 (v0C (fItself (if 0 < L then xs 0 else 0)))) H := hP
  have hD : va_D (lA s) (wC cI cL u1 (v0C (fItself (if 0 < L then xs 0 else 0)))) := hD
  refine lv_astore_n (lv' := [(1, .ref d0), (0, .ref b)]) hx hb dLaw_12 rfl hl (by decide) rfl (fun ls hl => ?_)
  refine va_new (ci := 5) (fs := [.int 0, .int 0, .int 0, .null, .null, .null, .null, .null, .null, .null, .null, .int 0, .int 0, .null, .null, .long 0]) (C := RRM) (T := TRM) (N := 16) hx hb hts inRM tyRM tyRM_ok hown (hts _ k569) (hts _ k570) (hts _ k32) hKR hP hD hS hA rfl (fun j hj => by rcases (show j = 0 ∨ j = 1 ∨ j = 2 ∨ j = 3 ∨ j = 4 ∨ j = 5 ∨ j = 6 ∨ j = 7 ∨ j = 8 ∨ j = 9 ∨ j = 10 ∨ j = 11 ∨ j = 12 ∨ j = 13 ∨ j = 14 ∨ j = 15 by omega) with rfl | rfl | rfl | rfl | rfl | rfl | rfl | rfl | rfl | rfl | rfl | rfl | rfl | rfl | rfl | rfl <;> rfl) (Nat.le_of_ble_eq_true rfl) (Nat.le_of_ble_eq_true rfl) dLaw_13 (fun d1 H hP hD hS => ?_)
  have hP : va_P D vwCl ((wC cI cL u1 (v0C (fItself (if 0 < L then xs 0 else 0)))) ++ ([(d1, .inr (5, [.int 0, .int 0, .int 0, .null, .null, .null, .null, .null, .null, .null, .null, .int 0, .int 0, .null, .null, .long 0]))] ++ [])) H := hP
  have hD : va_D (lA s) ((wC cI cL u1 (v0C (fItself (if 0 < L then xs 0 else 0)))) ++ ([(d1, .inr (5, [.int 0, .int 0, .int 0, .null, .null, .null, .null, .null, .null, .null, .null, .int 0, .int 0, .null, .null, .long 0]))] ++ [])) := hD
  refine W.widen (k := 20) (n := 1552) (by decide) (by decide) ?_
  refine lv_dup hx hb dLaw_16 rfl ?_
  refine lv_aload_n hx hb dLaw_17 rfl (lv_at hl 1 rfl) ?_
  refine lv_iconst (v := 0) hx hb dLaw_18 (by decide) ?_
  refine vp_callSi (W.runS (As := [.ref b, .int 0]) (rest := [.ref d1, .ref d1]) ⟨hx, hb, hml, hown, hts⟩ (c_LW_cell l (b := b) (xs := xs) hL) (cw_S 2 hts k274 k275 k26 k276 rfl rfl rfl (by decide +kernel) ⟨Nat.le_of_ble_eq_true rfl, Nat.le_of_ble_eq_true rfl⟩) ⟨fun a U g mk q => ⟨q.1, va_X.moved (u := U) (U := U.calling g mk a) (Vm.Alike.refl U.vm) q.2⟩, fun U hU hW => ⟨rfl, by show va_X b L xs U U.heap; rw [hU]; exact va_X.moved hW.alike (by obtain ⟨scr, g1, g2⟩ := hX; exact ⟨scr, by rw [hS.2.1 b hbl (fun h : s.heap.size ≤ b => by omega)]; exact g1, g2⟩)⟩⟩ rfl rfl hl.1 rfl (lv_room (Nat.le_of_ble_eq_true rfl)) dLaw_19 ⟨Nat.le_of_ble_eq_true rfl, Nat.le_of_ble_eq_true rfl⟩) (fun rx hrx => ?_)
  subst hrx
  have hFc : ∀ q, va_A [(d1, .inr (5, [.int 0, .int 0, .int 0, .null, .null, .null, .null, .null, .null, .null, .null, .int 0, .int 0, .null, .null, .long 0]))] H.size q → lA s q := fun q h => by
    rcases h with ⟨k0, e0, h0⟩ | h0
    · have h1 := (List.getElem?_eq_some_iff.mp h0).1
      simp at h1
      subst h1
      cases h0
      exact hD.2 ((wC cI cL u1 (v0C (fItself (if 0 < L then xs 0 else 0))))).length _ (by rw [List.getElem?_append_right (by omega), Nat.sub_self]; rfl)
    · exact Nat.le_trans hS.1 h0
  refine va_callv (va_runI (As := [.int (if 0 < L then xs 0 else 0)]) (rest := [.ref d1]) ⟨hx, hb, hml, hown, hts⟩ (c_RM_init l d1 H.size (if 0 < L then xs 0 else 0)) (cwI 1 hts (gw_I k573) rfl rfl rfl (hts _ k32) (hts _ k571) (hts _ k572) rfl (by decide +kernel) ⟨Nat.le_of_ble_eq_true rfl, Nat.le_of_ble_eq_true rfl⟩) ⟨fun a U g mk q => by obtain ⟨q0, q1, qP, qK, qX⟩ := q; exact ⟨q0, q1, qP, va_K.moved (u := U) (U := U.calling g mk a) (Vm.Alike.refl U.vm) qK, qX⟩, fun U hU hW => ⟨rfl, by rw [hU], by rw [hU]; exact va_P_left (va_P_right hP), va_K.moved hW.alike hKR, trivial⟩⟩ rfl rfl hl.1 rfl (lv_room (Nat.le_of_ble_eq_true rfl)) dLaw_22 ⟨Nat.le_of_ble_eq_true rfl, Nat.le_of_ble_eq_true rfl⟩) hS (fun q _ h => hFc q h) hFc (fun u t H1 locs ht hvm _ hB hz1 hk1 hS => ?_)
  obtain ⟨hu, hP1, hD1⟩ := hB
  rw [ht] at hP1
  have hj := start_join (w := (wC cI cL u1 (v0C (fItself (if 0 < L then xs 0 else 0))))) hP hD hk1 hFc hP1 hD1
  obtain ⟨hP, hD⟩ := hj
  generalize H1 = H at hP hS ⊢
  refine W.widen (k := 30) (n := 3034) (by decide) (by decide) ?_
  refine lv_astore_n (lv' := [(2, .ref d1), (1, .ref d0), (0, .ref b)]) hx hb dLaw_25 rfl hl (by decide) rfl (fun ls hl => ?_)
  refine lv_iconst (v := 1) hx hb dLaw_26 (by decide) ?_
  refine g_newa (atype := .long) (a0 := (1, .inr (.inl (fun _ => 0)))) hx hb (hts _ k89) rfl hK hP hD hS hA 1 rfl (fun _ h1 h2 => ra_long h1 h2) (fun _ => rfl) (by decide) (by decide +kernel) (by decide +kernel) (Nat.le_of_ble_eq_true rfl) (Nat.le_of_ble_eq_true rfl) dLaw_27 (fun qo H hP hD hS => ?_)
  refine W.widen (k := 31) (n := 3035) (by decide) (by decide) ?_
  refine lv_astore_n (lv' := [(3, .ref qo), (2, .ref d1), (1, .ref d0), (0, .ref b)]) hx hb dLaw_29 rfl hl (by decide) rfl (fun ls hl => ?_)
  refine lv_iconst (v := nI 1) hx hb dLaw_30 (by decide) ?_
  refine lv_istore (lv' := [(4, .int (nI 1)), (3, .ref qo), (2, .ref d1), (1, .ref d0), (0, .ref b)]) hx hb dLaw_31 hl (by decide) rfl (fun ls hl => ?_)
  generalize hae : (fun k => if k = 19 then qo else u1 k) = aa
  have ha19 : aa 19 = qo := by rw [← hae]; rfl
  have ha0 : aa 0 = d0 := by rw [← hae]; exact hu1
  obtain ⟨hP, hD⟩ := start_perm (aa := aa) (by rw [← hae]; rfl) (by rw [← hae]; rfl) hP hD
  have hDD : ∀ (v : CS) (f : Nat → Int64) (r : RS), va_D (lA s) (wL cI cL aa (v, f) ++ wR cI cZ u r) := fun v f r => va_D_fst (by rw [List.map_append, List.map_append, wL_ad, wL_ad, wR_ad, wR_ad]) hD
  have hIa : aI aa 20 := (aI.of (wL_ad cI cL aa _) hD).1
  have hIb : aI u 11 := aI.ofR (wR_ad cI cZ u _) hD
  have C : lx p s m meth c b L xs D cI cL cZ aa u := ⟨⟨hx, hb, hml, hown, hts⟩, ⟨hr, hlocks⟩, ⟨hX, hbl, hL⟩, ⟨hK, hKR, hT⟩, hDD, hIa, hIb⟩
  refine law_loop hLt C (L + 1) 0 (v0C (fItself (if 0 < L then xs 0 else 0))) (fun _ => 0) (v0R (fItself (if 0 < L then xs 0 else 0))) ls H locs (by omega) (by omega) (rel_start _ (fItself_lt _)) hP hS ?_
  rw [ha0, ha19, hu]
  exact lv_sub hl [4, 3, 2, 1, 0] rfl
set_option maxHeartbeats 4000000 in
theorem lw_walk (l : Launch) (hLt : l.stackTraces = false) (b : Addr) (xs : List Int32) : MetFree l x (headSpec (Jvm.Cond.code x code maxLocals ret :: tables_1) room_1) (lw_P b xs) (fun _ _ _ _ _ => True) lw_Q := by
  refine MetFree.of_bodyS (code := code) (maxLocals := maxLocals) (ret := ret) (by decide) ?_ ?_
  · intro args s m h hn
    obtain ⟨meth, c, h1, h2, h3, h4, h5, h6, -, -⟩ := Cond.code_spec hn (atoms_spec (ws := Jvm.Cond.code x code maxLocals ret :: tables_1) h _ List.mem_cons_self)
    exact ⟨meth, c, h1, h2, h3, h4, h5, h6⟩
  · intro p e s m args below meth c s₁ B hml0 hP _
    obtain ⟨rfl, hx, hbd, hgv⟩ := hP
    obtain ⟨scr, harrAt, hlist, hof, hsmall⟩ := hx
    obtain ⟨hcb, hkn, -, -⟩ := State.arrayAt?_spec harrAt
    have hown : s.vm.findClass R_law = some m.cls := findClass_of_methodNamed B.named
    have hts0 : ∀ c ∈ (Jvm.Cond.code x code maxLocals ret :: tables_1), c.before #[Value.ref b] s = true := atoms_spec (ws := Jvm.Cond.code x code maxLocals ret :: tables_1) B.pre
    have hts : ∀ w ∈ lw_tbl, w.before #[Value.ref b] s = true := k2_hts_sels lw_privs (fun w hw => hts0 w (List.mem_cons_of_mem _ hw)) lw_privs_ok
    have hml : c.maxLocals = 7 := B.maxLocals_eq (hts0 _ List.mem_cons_self)
    have X₀ : Stand p l e room_1 s m #[Value.ref b] below meth c s₁ [] 0 0 := Stand.of_body B
    have hh0 : s₁.heap = s.heap := by rw [B.state]; rfl
    have hsz : scr.slots.size = xs.length := by rw [← Array.length_toList, hlist, List.length_map]
    have hval : ∀ j : Nat, j < xs.length → scr.slots[j]? = some (.int (xs.getD j 0)) := fun j hj => by
      rw [← Array.getElem?_toList, hlist]
      simp [hj]
    have hbl : b < s.heap.size := (Array.getElem?_eq_some_iff.mp hcb).1
    have hX : va_X b xs.length (fun j => xs.getD j 0) s s.heap := ⟨scr, hcb, hof, hkn, hsz, hval⟩
    have K : W p l e room_1 s m #[Value.ref b] below meth c s₁.heap [] 0 0 (lw_Z below #[Value.ref b] s) (entryFrame m ([Value.ref b] : List Value).toArray 7) := by
      rw [hh0]
      exact whole_start l hLt hbd ⟨B.exec, B.bytes, B.returns, hml, hown, hts, hX, hbl, B.notSynchronized, hgv⟩
    obtain ⟨t, a1, o, b1, b2, b3⟩ := K s₁ rfl X₀
    exact ⟨t, o, a1, b1, b2, b3⟩
theorem lw_pre_spec {args : Array Value} {s : State} (h : (Jvm.Cond.and given_1 narrow_1).before args s = true) (hr : rest_1_c.before args s = true) : ∃ (b : Addr) (xs : List Int32), lw_P b xs args s := by
  have hs := flat_of_before _ h
  have hq := flat_of_before _ hr
  have hc : (Cond.count 1).before args s = true := hs _ (by decide +kernel)
  have harr : (Cond.arrayOf (.arg 0) .int).before args s = true := hs _ (by decide +kernel)
  have hle : (Cond.le (.length (.arg 0)) (.int 3073)).before args s = true := hs _ (by decide +kernel)
  have hlen : (Cond.isInt (.length (.arg 0))).before args s = true := hq _ (by decide +kernel)
  have hall : (Cond.all (.arg 0) (.isInt (.elem (.arg 0) (.index 0)))).before args s = true := hq _ (by decide +kernel)
  obtain ⟨b, xs, hb, hx⟩ := State.ints_of_pre rfl harr hlen hall
  have hsm : xs.length < 2 ^ 31 := hx.choose_spec.2.2.2
  have hev : (Term.length (.arg 0)).eval args s none [] s = some (.int xs.length.toInt32) := hx.length_eval hb
  have hv := Cond.le_ints hev (show (Term.int 3073).eval args s none [] s = some (.int 3073) from rfl)
  have hd : xs.length.toInt32 ≤ 3073 := by
    simpa [Cond.before, Cond.holds, hv] using hle
  have hN : xs.length ≤ 3073 := (Int32.ofNat_le_ofNat hsm (by decide)).mp (show Int32.ofNat xs.length ≤ Int32.ofNat 3073 from hd)
  exact ⟨b, xs, Cond.one_arg hc (show args[0]? = some (.ref b) from hb), hx, hN, h⟩
theorem lw_comes (l : Launch) (hLt : l.stackTraces = false) : Comes l x (Jvm.Cond.code x code maxLocals ret :: tables_1) room_1 (fun tb e args s => Calls_1 tb e args s ∧ rest_1 tb e args s ∧ Pre_1 tb e args s)
    (fun _ _ args s o t => lw_Q args s o t) := by
  intro p e ha hc hk s m args below hf hfit hheap happ hpre
  obtain ⟨b, xs, hP⟩ := lw_pre_spec hpre.2.2 hpre.2.1
  obtain ⟨k, o, h1, h2, h3, hQ⟩ := lw_walk l hLt b xs p e ha hc hk s m args below hf ((Spec.applies_iff_loose hf).mp happ).1 hP trivial
  exact ⟨k, o, h1, h2, h3, hQ⟩
theorem lw_frame {s t : State} {o : Outcome} {args : Array Value} (h : Framed s o t [] 1064 11281) :
    Framed s o t (fieldLocs frame_1_writes args s ++ arrayLocs frame_1_arrays args s ++ staticLocs frame_1_statics s) 1064 11281 := h
theorem lw_limb (L : Cond) (hL : ∀ (args : Array Value) (s t : State), L.after args s (.returned (some (.int 1))) t = true) :
    ArmFor flags0 classFile x code maxLocals ret World_1 tables_1 room_1 Calls_1 rest_1 Pre_1
      (fun tb e a s o t => postC L tb e a s o t ∧ Framed s o t (fieldLocs frame_1_writes a s ++ arrayLocs frame_1_arrays a s ++ staticLocs frame_1_statics s) 1064 11281) := by
  intro l hfl _ _ p e ha hc hk s m args below hf hfit hheap happ hpre
  have hLt : l.stackTraces = false := by
    unfold Launch.stackTraces; rw [hfl]; decide +kernel
  obtain ⟨k, o, h1, h2, h3, rfl, hF⟩ := lw_comes l hLt p e ha hc hk s m args below hf hfit hheap happ hpre
  exact ⟨k, _, h1, h2, h3, hL args s _, lw_frame hF⟩
theorem i_vc : Claimed_1_1 ∧ Claimed_1_2 := ⟨lw_limb limb_1_1 (fun args s t => by simp [limb_1_1, Cond.after, Cond.holds, Cond.value]), lw_limb limb_1_2 (fun args s t => Cond.after_iff.mpr (by
  first | (rw [show limb_1_2 = Cond.eq .result (.int 1) from rfl, Cond.eq_ints (x := 1) (y := 1) rfl rfl]; simp; done) | (simp [limb_1_2, Cond.value, Term.eval]; done)))⟩
