def fAD_has (aN : Nat → Int32) (o : Nat) : Bool := (if (aN o) = 0 then false else true)
set_option maxHeartbeats 4000000 in
set_option maxRecDepth 100000 in
theorem c_AD_has (l : Launch) {D : va_G} {cI cL : ClassId} {a : Nat → Nat}  (dI : Nat) (dO dG dN dT : Int32) (aN aB : Nat → Int32) (nS nP nR nG : Nat → Int32) (nO nU : Nat → Int64) (nT : Nat → Int32) (tP tR tO tN : Nat → Int32) (tF tZ : Nat) (mP : Nat → Int32) (mN : Int64) (o : Nat) (ho : o < 64) : Met l yAD_has wsAD_has ({ frames := 0, cells := 0, slots := 0, locals := 0 }) (va_Pc [.ref (a 1), .int (nI o)] (gG D (tyC cI cL) (wC cI cL a) ((dI, dO, dG, dN, dT), (aN, aB), (nS, nP, nR, nG, nO, nU, nT), (tP, tR, tO, tN, tF, tZ), (mP, mN)))) (vp_Si (fun r : Int32 => r = bi (fAD_has aN o))) 0 0 (fun _ => False) := by
  refine g_enter (by decide) rfl (Nat.le_of_ble_eq_true rfl) ?_
  intro p e s m below meth c ls F hK hP hl
  obtain ⟨hx, hb, hr, hml, hown, hts, hlocks⟩ := id F
  have hl : lv_has ls 2 [(0, .ref (a 1)), (1, .int (nI o))] := hl
  refine lv_aload_n hx hb dAD_has_0 rfl (lv_at hl 0 rfl) ?_
  refine va_get (D := D) (ci := 0) (v := .ref (a 2)) (C := RAD) (T := TAD) (N := 2) hx hb hts inAD hown hK hP 1 rfl rfl 0 (by decide) (hts _ k53) (fun _ h9 => h9) rfl dAD_has_1 ?_
  refine lv_iload_n hx hb dAD_has_4 rfl (lv_at hl 1 rfl) ?_
  refine ir_iald hx hb hK hP 2 0 rfl rfl (k := o) (by omega) (by decide) dAD_has_5 ?_
  refine lv_if_eq (tgt := 13) hx hb dAD_has_6 (by decide) (fun c1 => ?_) (fun c1 => ?_)
  · refine lv_iconst (v := bi false) hx hb dAD_has_13 (by decide) ?_
    have e1 : fAD_has aN o = false := by simp only [fAD_has, if_pos c1]
    exact r_zret hx hb hr (by first | rfl | (rw [e1] <;> rfl)) hlocks dAD_has_14
  · refine lv_iconst (v := bi true) hx hb dAD_has_9 (by decide) ?_
    refine lv_goto (tgt := 14) hx hb dAD_has_10 (by decide) ?_
    have e1 : fAD_has aN o = true := by simp only [fAD_has, if_neg c1]
    exact r_zret hx hb hr (by first | rfl | (rw [e1] <;> rfl)) hlocks dAD_has_14
set_option maxHeartbeats 4000000 in
set_option maxRecDepth 100000 in
theorem c_AD_numberOf (l : Launch) {D : va_G} {cI cL : ClassId} {a : Nat → Nat}  (dI : Nat) (dO dG dN dT : Int32) (aN aB : Nat → Int32) (nS nP nR nG : Nat → Int32) (nO nU : Nat → Int64) (nT : Nat → Int32) (tP tR tO tN : Nat → Int32) (tF tZ : Nat) (mP : Nat → Int32) (mN : Int64) (o : Nat) (ho : o < 64) : Met l yAD_numberOf wsAD_numberOf ({ frames := 0, cells := 0, slots := 0, locals := 0 }) (va_Pc [.ref (a 1), .int (nI o)] (gG D (tyC cI cL) (wC cI cL a) ((dI, dO, dG, dN, dT), (aN, aB), (nS, nP, nR, nG, nO, nU, nT), (tP, tR, tO, tN, tF, tZ), (mP, mN)))) (vp_Si (fun r : Int32 => r = aN o)) 0 0 (fun _ => False) := by
  refine g_enter (by decide) rfl (Nat.le_of_ble_eq_true rfl) ?_
  intro p e s m below meth c ls F hK hP hl
  obtain ⟨hx, hb, hr, hml, hown, hts, hlocks⟩ := id F
  have hl : lv_has ls 2 [(0, .ref (a 1)), (1, .int (nI o))] := hl
  refine lv_aload_n hx hb dAD_numberOf_0 rfl (lv_at hl 0 rfl) ?_
  refine va_get (D := D) (ci := 0) (v := .ref (a 2)) (C := RAD) (T := TAD) (N := 2) hx hb hts inAD hown hK hP 1 rfl rfl 0 (by decide) (hts _ k53) (fun _ h9 => h9) rfl dAD_numberOf_1 ?_
  refine lv_iload_n hx hb dAD_numberOf_4 rfl (lv_at hl 1 rfl) ?_
  refine ir_iald hx hb hK hP 2 0 rfl rfl (k := o) (by omega) (by decide) dAD_numberOf_5 ?_
  exact r_iret hx hb hr (rfl) hlocks dAD_numberOf_6
set_option maxHeartbeats 4000000 in
set_option maxRecDepth 100000 in
theorem c_AD_bodyOf (l : Launch) {D : va_G} {cI cL : ClassId} {a : Nat → Nat}  (dI : Nat) (dO dG dN dT : Int32) (aN aB : Nat → Int32) (nS nP nR nG : Nat → Int32) (nO nU : Nat → Int64) (nT : Nat → Int32) (tP tR tO tN : Nat → Int32) (tF tZ : Nat) (mP : Nat → Int32) (mN : Int64) (o : Nat) (ho : o < 64) : Met l yAD_bodyOf wsAD_bodyOf ({ frames := 0, cells := 0, slots := 0, locals := 0 }) (va_Pc [.ref (a 1), .int (nI o)] (gG D (tyC cI cL) (wC cI cL a) ((dI, dO, dG, dN, dT), (aN, aB), (nS, nP, nR, nG, nO, nU, nT), (tP, tR, tO, tN, tF, tZ), (mP, mN)))) (vp_Si (fun r : Int32 => r = aB o)) 0 0 (fun _ => False) := by
  refine g_enter (by decide) rfl (Nat.le_of_ble_eq_true rfl) ?_
  intro p e s m below meth c ls F hK hP hl
  obtain ⟨hx, hb, hr, hml, hown, hts, hlocks⟩ := id F
  have hl : lv_has ls 2 [(0, .ref (a 1)), (1, .int (nI o))] := hl
  refine lv_aload_n hx hb dAD_bodyOf_0 rfl (lv_at hl 0 rfl) ?_
  refine va_get (D := D) (ci := 0) (v := .ref (a 3)) (C := RAD) (T := TAD) (N := 2) hx hb hts inAD hown hK hP 1 rfl rfl 1 (by decide) (hts _ k54) (fun _ h9 => h9) rfl dAD_bodyOf_1 ?_
  refine lv_iload_n hx hb dAD_bodyOf_4 rfl (lv_at hl 1 rfl) ?_
  refine ir_iald hx hb hK hP 3 0 rfl rfl (k := o) (by omega) (by decide) dAD_bodyOf_5 ?_
  exact r_iret hx hb hr (rfl) hlocks dAD_bodyOf_6
set_option maxHeartbeats 4000000 in
set_option maxRecDepth 100000 in
theorem c_AD_put (l : Launch) {D : va_G} {cI cL : ClassId} {a : Nat → Nat} {A : Nat → Prop} (hA : ∀ v : CS, va_D A (wC cI cL a v)) (dI : Nat) (dO dG dN dT : Int32) (aN aB : Nat → Int32) (nS nP nR nG : Nat → Int32) (nO nU : Nat → Int64) (nT : Nat → Int32) (tP tR tO tN : Nat → Int32) (tF tZ : Nat) (mP : Nat → Int32) (mN : Int64) (o : Nat) (x : Int32) (y : Int32) (ho : o < 64) : Met l yAD_put wsAD_put ({ frames := 0, cells := 0, slots := 0, locals := 0 }) (va_Pc [.ref (a 1), .int (nI o), .int x, .int y] (gG D (tyC cI cL) (wC cI cL a) ((dI, dO, dG, dN, dT), (aN, aB), (nS, nP, nR, nG, nO, nU, nT), (tP, tR, tO, tN, tF, tZ), (mP, mN)))) (va_Qv (fun u : CS => u = ((dI, dO, dG, dN, dT), (upd aN o x, upd aB o y), (nS, nP, nR, nG, nO, nU, nT), (tP, tR, tO, tN, tF, tZ), (mP, mN))) (gG D (tyC cI cL) (wC cI cL a)) A) 0 0 A := by
  refine g_enter (by decide) rfl (Nat.le_of_ble_eq_true rfl) ?_
  intro p e s m below meth c ls F hK hP hl
  obtain ⟨hx, hb, hr, hml, hown, hts, hlocks⟩ := id F
  have hS : va_S A s.heap s.heap [] := va_S.rf
  have hl : lv_has ls 4 [(0, .ref (a 1)), (1, .int (nI o)), (2, .int x), (3, .int y)] := hl
  refine lv_aload_n hx hb dAD_put_0 rfl (lv_at hl 0 rfl) ?_
  refine va_get (D := D) (ci := 0) (v := .ref (a 2)) (C := RAD) (T := TAD) (N := 2) hx hb hts inAD hown hK hP 1 rfl rfl 0 (by decide) (hts _ k53) (fun _ h9 => h9) rfl dAD_put_1 ?_
  refine lv_iload_n hx hb dAD_put_4 rfl (lv_at hl 1 rfl) ?_
  refine lv_iload_n hx hb dAD_put_5 rfl (lv_at hl 2 rfl) ?_
  refine ir_iast hx hb hK hP (hA _) hS 2 0 rfl rfl (k := o) (by omega) (by decide) dAD_put_6 (fun H locs hP hS => ?_)
  have hP : va_P D vwCl (wC cI cL a ((dI, dO, dG, dN, dT), (upd aN o x, aB), (nS, nP, nR, nG, nO, nU, nT), (tP, tR, tO, tN, tF, tZ), (mP, mN))) H := hP
  refine lv_aload_n hx hb dAD_put_7 rfl (lv_at hl 0 rfl) ?_
  refine va_get (D := D) (ci := 0) (v := .ref (a 3)) (C := RAD) (T := TAD) (N := 2) hx hb hts inAD hown hK hP 1 rfl rfl 1 (by decide) (hts _ k54) (fun _ h9 => h9) rfl dAD_put_8 ?_
  refine lv_iload_n hx hb dAD_put_11 rfl (lv_at hl 1 rfl) ?_
  refine lv_iload_n hx hb dAD_put_12 rfl (lv_at hl 3 rfl) ?_
  refine ir_iast hx hb hK hP (hA _) hS 3 0 rfl rfl (k := o) (by omega) (by decide) dAD_put_13 (fun H locs hP hS => ?_)
  have hP : va_P D vwCl (wC cI cL a ((dI, dO, dG, dN, dT), (upd aN o x, upd aB o y), (nS, nP, nR, nG, nO, nU, nT), (tP, tR, tO, tN, tF, tZ), (mP, mN))) H := hP
  exact g_vret (v := ((dI, dO, dG, dN, dT), (upd aN o x, upd aB o y), (nS, nP, nR, nG, nO, nU, nT), (tP, tR, tO, tN, tF, tZ), (mP, mN))) hx hb hr hK hP hS (rfl) hlocks dAD_put_14
set_option maxHeartbeats 4000000 in
set_option maxRecDepth 100000 in
theorem c_AD_remove (l : Launch) {D : va_G} {cI cL : ClassId} {a : Nat → Nat} {A : Nat → Prop} (hA : ∀ v : CS, va_D A (wC cI cL a v)) (dI : Nat) (dO dG dN dT : Int32) (aN aB : Nat → Int32) (nS nP nR nG : Nat → Int32) (nO nU : Nat → Int64) (nT : Nat → Int32) (tP tR tO tN : Nat → Int32) (tF tZ : Nat) (mP : Nat → Int32) (mN : Int64) (o : Nat) (ho : o < 64) : Met l yAD_remove wsAD_remove ({ frames := 1, cells := 0, slots := 0, locals := 23 }) (va_Pc [.ref (a 1), .int (nI o)] (gG D (tyC cI cL) (wC cI cL a) ((dI, dO, dG, dN, dT), (aN, aB), (nS, nP, nR, nG, nO, nU, nT), (tP, tR, tO, tN, tF, tZ), (mP, mN)))) (va_Qv (fun u : CS => u = ((dI, dO, dG, dN, dT), (upd aN o 0, upd aB o 0), (nS, nP, nR, nG, nO, nU, nT), (tP, tR, tO, tN, tF, tZ), (mP, mN))) (gG D (tyC cI cL) (wC cI cL a)) A) 0 0 A := by
  refine g_enter (by decide) rfl (Nat.le_of_ble_eq_true rfl) ?_
  intro p e s m below meth c ls F hK hP hl
  obtain ⟨hx, hb, hr, hml, hown, hts, hlocks⟩ := id F
  have hS : va_S A s.heap s.heap [] := va_S.rf
  have hl : lv_has ls 2 [(0, .ref (a 1)), (1, .int (nI o))] := hl
  refine lv_aload_n hx hb dAD_remove_0 rfl (lv_at hl 0 rfl) ?_
  refine lv_iload_n hx hb dAD_remove_1 rfl (lv_at hl 1 rfl) ?_
  refine lv_iconst (v := 0) hx hb dAD_remove_2 (by decide) ?_
  refine lv_iconst (v := 0) hx hb dAD_remove_3 (by decide) ?_
  refine g_callVv (As := [.int (nI o), .int 0, .int 0]) (rest := []) ⟨hx, hb, hml, hown, hts⟩ (c_AD_put l hA dI dO dG dN dT aN aB nS nP nR nG nO nU nT tP tR tO tN tF tZ mP mN o 0 0 (by first | omega | assumption)) (cwV 3 hts (gw_V k490 k161 k162 k28 k163) rfl rfl rfl (by decide +kernel) ⟨Nat.le_of_ble_eq_true rfl, Nat.le_of_ble_eq_true rfl⟩) hK hP (va_recv hK hP (ci := 0) (q0 := 1) rfl rfl) rfl hl.1 rfl (Nat.le_of_ble_eq_true rfl) dAD_remove_4 ⟨Nat.zero_le _, Nat.zero_le _⟩ (fun q h => h) hS (fun H locs hP hS => ?_)
  have hP : va_P D vwCl (wC cI cL a ((dI, dO, dG, dN, dT), (upd aN o 0, upd aB o 0), (nS, nP, nR, nG, nO, nU, nT), (tP, tR, tO, tN, tF, tZ), (mP, mN))) H := hP
  exact g_vret (v := ((dI, dO, dG, dN, dT), (upd aN o 0, upd aB o 0), (nS, nP, nR, nG, nO, nU, nT), (tP, tR, tO, tN, tF, tZ), (mP, mN))) hx hb hr hK hP hS (rfl) hlocks dAD_remove_7
def LAD_allOrigins (aN : Nat → Int32) : Nat → Nat → Int64 → Int64
  | 0, k, w => w
  | n + 1, k, w => (if (aN k) = 0 then LAD_allOrigins aN n (k + 1) w else LAD_allOrigins aN n (k + 1) (w ||| (bL k)))
set_option maxHeartbeats 4000000 in
set_option maxRecDepth 100000 in
theorem lpAD_allOrigins {p : Program} {l : Launch} {e : Env} {s : State} {m : MethodId} {args : Array Value} {below : List Frame} {meth : Method} {c : Code} {D : va_G} {cI cL : ClassId} {a : Nat → Nat}  (F : gFix p c cAD_allOrigins meth (some .long) m s args bigW RAD 4) (hK : va_K D vwCl (tyC cI cL) s) {dI : Nat} {dO : Int32} {dG : Int32} {dN : Int32} {dT : Int32} {aN : Nat → Int32} {aB : Nat → Int32} {nS : Nat → Int32} {nP : Nat → Int32} {nR : Nat → Int32} {nG : Nat → Int32} {nO : Nat → Int64} {nU : Nat → Int64} {nT : Nat → Int32} {tP : Nat → Int32} {tR : Nat → Int32} {tO : Nat → Int32} {tN : Nat → Int32} {tF : Nat} {tZ : Nat} {mP : Nat → Int32} {mN : Int64}   (post : Int64 → Prop) : ∀ (n k : Nat) (w : Int64)  (ls : Array Slot), k + n = 64 → va_P D vwCl (wC cI cL a ((dI, dO, dG, dN, dT), (aN, aB), (nS, nP, nR, nG, nO, nU, nT), (tP, tR, tO, tN, tF, tZ), (mP, mN))) s.heap → lv_has ls 4 [(3, .int (nI k)), (1, .long w), (0, .ref (a 1))] → post (LAD_allOrigins aN n k w) → W p l e ({ frames := 0, cells := 0, slots := 0, locals := 0 }) s m args below meth c s.heap [] 0 0 (MQ below (vp_Sl post) args s 0 0 (fun _ => False)) (F0 m 4 ls []) := by
  obtain ⟨hx, hb, hr, hml, hown, hts, hlocks⟩ := F
  intro n
  induction n with
  | zero =>
    intro k w ls hkn  hP hl hq
    refine lv_iload_n hx hb dAD_allOrigins_4 rfl (lv_at hl 0 rfl) ?_
    refine lv_bipush (v := nI 64) hx hb dAD_allOrigins_5 (by decide) ?_
    refine lv_icmp_ge (tgt := 31) hx hb dAD_allOrigins_7 (by decide) (fun _ => ?_) (fun c0 => absurd (nI_le (by omega) (by omega)) c0)
    refine lv_lload_n hx hb dAD_allOrigins_31 rfl (lv_at hl 1 rfl) ?_
    have e1 : LAD_allOrigins aN 0 k w = w := by simp only [LAD_allOrigins]
    rw [e1] at hq
    exact r_lret hx hb hr hq hlocks dAD_allOrigins_32
  | succ n ih =>
    intro k w ls hkn  hP hl hq
    refine lv_iload_n hx hb dAD_allOrigins_4 rfl (lv_at hl 0 rfl) ?_
    refine lv_bipush (v := nI 64) hx hb dAD_allOrigins_5 (by decide) ?_
    refine lv_icmp_ge (tgt := 31) hx hb dAD_allOrigins_7 (by decide) (fun c0 => absurd c0 (nI_ge (by omega) (by decide))) (fun _ => ?_)
    refine lv_aload_n hx hb dAD_allOrigins_10 rfl (lv_at hl 2 rfl) ?_
    refine va_get (D := D) (ci := 0) (v := .ref (a 2)) (C := RAD) (T := TAD) (N := 2) hx hb hts inAD hown hK hP 1 rfl rfl 0 (by decide) (hts _ k53) (fun _ h9 => h9) rfl dAD_allOrigins_11 ?_
    refine lv_iload_n hx hb dAD_allOrigins_14 rfl (lv_at hl 0 rfl) ?_
    refine ir_iald hx hb hK hP 2 0 rfl rfl (k := k) (by omega) (by decide) dAD_allOrigins_15 ?_
    refine lv_if_eq (tgt := 25) hx hb dAD_allOrigins_16 (by decide) (fun c3 => ?_) (fun c3 => ?_)
    · refine lv_iinc (v := nI (k + 1)) (lv' := [(3, .int (nI (k + 1))), (1, .long w), (0, .ref (a 1))]) hx hb dAD_allOrigins_25 hl (k := 0) rfl (nI_1 k) (by decide) rfl (fun ls hl => ?_)
      refine lv_goto (tgt := 4) hx hb dAD_allOrigins_28 (by decide) ?_
      have e1 : LAD_allOrigins aN (n + 1) k w = LAD_allOrigins aN n (k + 1) w := by simp only [LAD_allOrigins, if_pos c3]
      rw [e1] at hq
      exact ih (k + 1) w ls (by omega)  hP (lv_sub hl [0, 1, 2] rfl) hq
    · refine lv_lload_n hx hb dAD_allOrigins_19 rfl (lv_at hl 1 rfl) ?_
      refine lv_lconst (v := 1) hx hb dAD_allOrigins_20 (by decide) ?_
      refine lv_iload_n hx hb dAD_allOrigins_21 rfl (lv_at hl 0 rfl) ?_
      refine lv_lshl (v := bL k) hx hb dAD_allOrigins_22 rfl ?_
      refine lv_lor hx hb dAD_allOrigins_23 ?_
      refine lv_lstore_n (lv' := [(1, .long (w ||| (bL k))), (3, .int (nI k)), (0, .ref (a 1))]) hx hb dAD_allOrigins_24 rfl hl (by decide) rfl (fun ls hl => ?_)
      refine lv_iinc (v := nI (k + 1)) (lv' := [(3, .int (nI (k + 1))), (1, .long (w ||| (bL k))), (0, .ref (a 1))]) hx hb dAD_allOrigins_25 hl (k := 1) rfl (nI_1 k) (by decide) rfl (fun ls hl => ?_)
      refine lv_goto (tgt := 4) hx hb dAD_allOrigins_28 (by decide) ?_
      have e1 : LAD_allOrigins aN (n + 1) k w = LAD_allOrigins aN n (k + 1) (w ||| (bL k)) := by simp only [LAD_allOrigins, if_neg c3]
      rw [e1] at hq
      exact ih (k + 1) (w ||| (bL k)) ls (by omega)  hP (lv_sub hl [0, 1, 2] rfl) hq
set_option maxHeartbeats 4000000 in
set_option maxRecDepth 100000 in
theorem c_AD_allOrigins (l : Launch) {D : va_G} {cI cL : ClassId} {a : Nat → Nat}  (dI : Nat) (dO dG dN dT : Int32) (aN aB : Nat → Int32) (nS nP nR nG : Nat → Int32) (nO nU : Nat → Int64) (nT : Nat → Int32) (tP tR tO tN : Nat → Int32) (tF tZ : Nat) (mP : Nat → Int32) (mN : Int64)   : Met l yAD_allOrigins wsAD_allOrigins ({ frames := 0, cells := 0, slots := 0, locals := 0 }) (va_Pc [.ref (a 1)] (gG D (tyC cI cL) (wC cI cL a) ((dI, dO, dG, dN, dT), (aN, aB), (nS, nP, nR, nG, nO, nU, nT), (tP, tR, tO, tN, tF, tZ), (mP, mN)))) (vp_Sl (fun r : Int64 => r = LAD_allOrigins aN 64 0 0)) 0 0 (fun _ => False) := by
  refine g_enter (by decide) rfl (Nat.le_of_ble_eq_true rfl) ?_
  intro p e s m below meth c ls F hK hP hl
  obtain ⟨hx, hb, hr, hml, hown, hts, hlocks⟩ := id F
  have hl : lv_has ls 4 [(0, .ref (a 1))] := hl
  refine lv_lconst (v := 0) hx hb dAD_allOrigins_0 (by decide) ?_
  refine lv_lstore_n (lv' := [(1, .long 0), (0, .ref (a 1))]) hx hb dAD_allOrigins_1 rfl hl (by decide) rfl (fun ls hl => ?_)
  refine lv_iconst (v := nI 0) hx hb dAD_allOrigins_2 (by decide) ?_
  refine lv_istore_n (lv' := [(3, .int (nI 0)), (1, .long 0), (0, .ref (a 1))]) hx hb dAD_allOrigins_3 rfl hl (by decide) rfl (fun ls hl => ?_)
  exact lpAD_allOrigins F hK  _ 64 0 0 ls rfl  hP (lv_sub hl [0, 1, 2] rfl) rfl
def fMS_isMade (mP : Nat → Int32) : Bool := (if (mP 0) = 0 then false else true)
set_option maxHeartbeats 4000000 in
set_option maxRecDepth 100000 in
theorem c_MS_isMade (l : Launch) {D : va_G} {cI cL : ClassId} {a : Nat → Nat}  (dI : Nat) (dO dG dN dT : Int32) (aN aB : Nat → Int32) (nS nP nR nG : Nat → Int32) (nO nU : Nat → Int64) (nT : Nat → Int32) (tP tR tO tN : Nat → Int32) (tF tZ : Nat) (mP : Nat → Int32) (mN : Int64)   : Met l yMS_isMade wsMS_isMade ({ frames := 0, cells := 0, slots := 0, locals := 0 }) (va_Pc [.ref (a 17)] (gG D (tyC cI cL) (wC cI cL a) ((dI, dO, dG, dN, dT), (aN, aB), (nS, nP, nR, nG, nO, nU, nT), (tP, tR, tO, tN, tF, tZ), (mP, mN)))) (vp_Si (fun r : Int32 => r = bi (fMS_isMade mP))) 0 0 (fun _ => False) := by
  refine g_enter (by decide) rfl (Nat.le_of_ble_eq_true rfl) ?_
  intro p e s m below meth c ls F hK hP hl
  obtain ⟨hx, hb, hr, hml, hown, hts, hlocks⟩ := id F
  have hl : lv_has ls 1 [(0, .ref (a 17))] := hl
  refine lv_aload_n hx hb dMS_isMade_0 rfl (lv_at hl 0 rfl) ?_
  refine va_get (D := D) (ci := 1) (v := .ref (a 18)) (C := RMS) (T := TMS) (N := 2) hx hb hts inMS hown hK hP 17 rfl rfl 0 (by decide) (hts _ k121) (fun _ h9 => h9) rfl dMS_isMade_1 ?_
  refine lv_iconst (v := nI 0) hx hb dMS_isMade_4 (by decide) ?_
  refine ir_iald hx hb hK hP 18 0 rfl rfl (k := 0) (by omega) (by decide) dMS_isMade_5 ?_
  refine lv_if_eq (tgt := 13) hx hb dMS_isMade_6 (by decide) (fun c1 => ?_) (fun c1 => ?_)
  · refine lv_iconst (v := bi false) hx hb dMS_isMade_13 (by decide) ?_
    have e1 : fMS_isMade mP = false := by simp only [fMS_isMade, if_pos c1]
    exact r_zret hx hb hr (by first | rfl | (rw [e1] <;> rfl)) hlocks dMS_isMade_14
  · refine lv_iconst (v := bi true) hx hb dMS_isMade_9 (by decide) ?_
    refine lv_goto (tgt := 14) hx hb dMS_isMade_10 (by decide) ?_
    have e1 : fMS_isMade mP = true := by simp only [fMS_isMade, if_neg c1]
    exact r_zret hx hb hr (by first | rfl | (rw [e1] <;> rfl)) hlocks dMS_isMade_14
set_option maxHeartbeats 4000000 in
set_option maxRecDepth 100000 in
theorem c_MS_part (l : Launch) {D : va_G} {cI cL : ClassId} {a : Nat → Nat}  (dI : Nat) (dO dG dN dT : Int32) (aN aB : Nat → Int32) (nS nP nR nG : Nat → Int32) (nO nU : Nat → Int64) (nT : Nat → Int32) (tP tR tO tN : Nat → Int32) (tF tZ : Nat) (mP : Nat → Int32) (mN : Int64) (i : Nat) (hi : i < 6) : Met l yMS_part wsMS_part ({ frames := 0, cells := 0, slots := 0, locals := 0 }) (va_Pc [.ref (a 17), .int (nI i)] (gG D (tyC cI cL) (wC cI cL a) ((dI, dO, dG, dN, dT), (aN, aB), (nS, nP, nR, nG, nO, nU, nT), (tP, tR, tO, tN, tF, tZ), (mP, mN)))) (vp_Si (fun r : Int32 => r = mP i)) 0 0 (fun _ => False) := by
  refine g_enter (by decide) rfl (Nat.le_of_ble_eq_true rfl) ?_
  intro p e s m below meth c ls F hK hP hl
  obtain ⟨hx, hb, hr, hml, hown, hts, hlocks⟩ := id F
  have hl : lv_has ls 2 [(0, .ref (a 17)), (1, .int (nI i))] := hl
  refine lv_aload_n hx hb dMS_part_0 rfl (lv_at hl 0 rfl) ?_
  refine va_get (D := D) (ci := 1) (v := .ref (a 18)) (C := RMS) (T := TMS) (N := 2) hx hb hts inMS hown hK hP 17 rfl rfl 0 (by decide) (hts _ k121) (fun _ h9 => h9) rfl dMS_part_1 ?_
  refine lv_iload_n hx hb dMS_part_4 rfl (lv_at hl 1 rfl) ?_
  refine ir_iald hx hb hK hP 18 0 rfl rfl (k := i) (by omega) (by decide) dMS_part_5 ?_
  exact r_iret hx hb hr (rfl) hlocks dMS_part_6
set_option maxHeartbeats 4000000 in
set_option maxRecDepth 100000 in
theorem c_MS_namedRouters (l : Launch) {D : va_G} {cI cL : ClassId} {a : Nat → Nat}  (dI : Nat) (dO dG dN dT : Int32) (aN aB : Nat → Int32) (nS nP nR nG : Nat → Int32) (nO nU : Nat → Int64) (nT : Nat → Int32) (tP tR tO tN : Nat → Int32) (tF tZ : Nat) (mP : Nat → Int32) (mN : Int64)   : Met l yMS_namedRouters wsMS_namedRouters ({ frames := 0, cells := 0, slots := 0, locals := 0 }) (va_Pc [.ref (a 17)] (gG D (tyC cI cL) (wC cI cL a) ((dI, dO, dG, dN, dT), (aN, aB), (nS, nP, nR, nG, nO, nU, nT), (tP, tR, tO, tN, tF, tZ), (mP, mN)))) (vp_Sl (fun r : Int64 => r = mN)) 0 0 (fun _ => False) := by
  refine g_enter (by decide) rfl (Nat.le_of_ble_eq_true rfl) ?_
  intro p e s m below meth c ls F hK hP hl
  obtain ⟨hx, hb, hr, hml, hown, hts, hlocks⟩ := id F
  have hl : lv_has ls 1 [(0, .ref (a 17))] := hl
  refine lv_aload_n hx hb dMS_namedRouters_0 rfl (lv_at hl 0 rfl) ?_
  refine va_get (D := D) (ci := 1) (v := .long mN) (C := RMS) (T := TMS) (N := 2) hx hb hts inMS hown hK hP 17 rfl rfl 1 (by decide) (hts _ k122) (fun _ h9 => h9) rfl dMS_namedRouters_1 ?_
  exact r_lret hx hb hr (rfl) hlocks dMS_namedRouters_4
set_option maxHeartbeats 4000000 in
set_option maxRecDepth 100000 in
theorem c_MS_address (l : Launch) {D : va_G} {cI cL : ClassId} {a : Nat → Nat} {A : Nat → Prop} (hA : ∀ v : CS, va_D A (wC cI cL a v)) (dI : Nat) (dO dG dN dT : Int32) (aN aB : Nat → Int32) (nS nP nR nG : Nat → Int32) (nO nU : Nat → Int64) (nT : Nat → Int32) (tP tR tO tN : Nat → Int32) (tF tZ : Nat) (mP : Nat → Int32) (mN : Int64) (x : Int32) (y : Int32) (z : Int32)  : Met l yMS_address wsMS_address ({ frames := 0, cells := 0, slots := 0, locals := 0 }) (va_Pc [.ref (a 17), .int x, .int y, .int z] (gG D (tyC cI cL) (wC cI cL a) ((dI, dO, dG, dN, dT), (aN, aB), (nS, nP, nR, nG, nO, nU, nT), (tP, tR, tO, tN, tF, tZ), (mP, mN)))) (va_Qv (fun u : CS => u = ((dI, dO, dG, dN, dT), (aN, aB), (nS, nP, nR, nG, nO, nU, nT), (tP, tR, tO, tN, tF, tZ), (upd (upd (upd mP 0 x) 1 y) 2 z, mN))) (gG D (tyC cI cL) (wC cI cL a)) A) 0 0 A := by
  refine g_enter (by decide) rfl (Nat.le_of_ble_eq_true rfl) ?_
  intro p e s m below meth c ls F hK hP hl
  obtain ⟨hx, hb, hr, hml, hown, hts, hlocks⟩ := id F
  have hS : va_S A s.heap s.heap [] := va_S.rf
  have hl : lv_has ls 4 [(0, .ref (a 17)), (1, .int x), (2, .int y), (3, .int z)] := hl
  refine lv_aload_n hx hb dMS_address_0 rfl (lv_at hl 0 rfl) ?_
  refine va_get (D := D) (ci := 1) (v := .ref (a 18)) (C := RMS) (T := TMS) (N := 2) hx hb hts inMS hown hK hP 17 rfl rfl 0 (by decide) (hts _ k121) (fun _ h9 => h9) rfl dMS_address_1 ?_
  refine lv_iconst (v := nI 0) hx hb dMS_address_4 (by decide) ?_
  refine lv_iload_n hx hb dMS_address_5 rfl (lv_at hl 1 rfl) ?_
  refine ir_iast hx hb hK hP (hA _) hS 18 0 rfl rfl (k := 0) (by omega) (by decide) dMS_address_6 (fun H locs hP hS => ?_)
  have hP : va_P D vwCl (wC cI cL a ((dI, dO, dG, dN, dT), (aN, aB), (nS, nP, nR, nG, nO, nU, nT), (tP, tR, tO, tN, tF, tZ), (upd mP 0 x, mN))) H := hP
  refine lv_aload_n hx hb dMS_address_7 rfl (lv_at hl 0 rfl) ?_
  refine va_get (D := D) (ci := 1) (v := .ref (a 18)) (C := RMS) (T := TMS) (N := 2) hx hb hts inMS hown hK hP 17 rfl rfl 0 (by decide) (hts _ k121) (fun _ h9 => h9) rfl dMS_address_8 ?_
  refine lv_iconst (v := nI 1) hx hb dMS_address_11 (by decide) ?_
  refine lv_iload_n hx hb dMS_address_12 rfl (lv_at hl 2 rfl) ?_
  refine ir_iast hx hb hK hP (hA _) hS 18 0 rfl rfl (k := 1) (by omega) (by decide) dMS_address_13 (fun H locs hP hS => ?_)
  have hP : va_P D vwCl (wC cI cL a ((dI, dO, dG, dN, dT), (aN, aB), (nS, nP, nR, nG, nO, nU, nT), (tP, tR, tO, tN, tF, tZ), (upd (upd mP 0 x) 1 y, mN))) H := hP
  refine lv_aload_n hx hb dMS_address_14 rfl (lv_at hl 0 rfl) ?_
  refine va_get (D := D) (ci := 1) (v := .ref (a 18)) (C := RMS) (T := TMS) (N := 2) hx hb hts inMS hown hK hP 17 rfl rfl 0 (by decide) (hts _ k121) (fun _ h9 => h9) rfl dMS_address_15 ?_
  refine lv_iconst (v := nI 2) hx hb dMS_address_18 (by decide) ?_
  refine lv_iload_n hx hb dMS_address_19 rfl (lv_at hl 3 rfl) ?_
  refine ir_iast hx hb hK hP (hA _) hS 18 0 rfl rfl (k := 2) (by omega) (by decide) dMS_address_20 (fun H locs hP hS => ?_)
  have hP : va_P D vwCl (wC cI cL a ((dI, dO, dG, dN, dT), (aN, aB), (nS, nP, nR, nG, nO, nU, nT), (tP, tR, tO, tN, tF, tZ), (upd (upd (upd mP 0 x) 1 y) 2 z, mN))) H := hP
  exact g_vret (v := ((dI, dO, dG, dN, dT), (aN, aB), (nS, nP, nR, nG, nO, nU, nT), (tP, tR, tO, tN, tF, tZ), (upd (upd (upd mP 0 x) 1 y) 2 z, mN))) hx hb hr hK hP hS (rfl) hlocks dMS_address_21
set_option maxHeartbeats 4000000 in
set_option maxRecDepth 100000 in
theorem c_MS_fill (l : Launch) {D : va_G} {cI cL : ClassId} {a : Nat → Nat} {A : Nat → Prop} (hA : ∀ v : CS, va_D A (wC cI cL a v)) (dI : Nat) (dO dG dN dT : Int32) (aN aB : Nat → Int32) (nS nP nR nG : Nat → Int32) (nO nU : Nat → Int64) (nT : Nat → Int32) (tP tR tO tN : Nat → Int32) (tF tZ : Nat) (mP : Nat → Int32) (mN : Int64) (x : Int32) (y : Int32) (z : Int32)  : Met l yMS_fill wsMS_fill ({ frames := 0, cells := 0, slots := 0, locals := 0 }) (va_Pc [.ref (a 17), .int x, .int y, .int z] (gG D (tyC cI cL) (wC cI cL a) ((dI, dO, dG, dN, dT), (aN, aB), (nS, nP, nR, nG, nO, nU, nT), (tP, tR, tO, tN, tF, tZ), (mP, mN)))) (va_Qv (fun u : CS => u = ((dI, dO, dG, dN, dT), (aN, aB), (nS, nP, nR, nG, nO, nU, nT), (tP, tR, tO, tN, tF, tZ), (upd (upd (upd mP 3 x) 4 y) 5 z, mN))) (gG D (tyC cI cL) (wC cI cL a)) A) 0 0 A := by
  refine g_enter (by decide) rfl (Nat.le_of_ble_eq_true rfl) ?_
  intro p e s m below meth c ls F hK hP hl
  obtain ⟨hx, hb, hr, hml, hown, hts, hlocks⟩ := id F
  have hS : va_S A s.heap s.heap [] := va_S.rf
  have hl : lv_has ls 4 [(0, .ref (a 17)), (1, .int x), (2, .int y), (3, .int z)] := hl
  refine lv_aload_n hx hb dMS_fill_0 rfl (lv_at hl 0 rfl) ?_
  refine va_get (D := D) (ci := 1) (v := .ref (a 18)) (C := RMS) (T := TMS) (N := 2) hx hb hts inMS hown hK hP 17 rfl rfl 0 (by decide) (hts _ k121) (fun _ h9 => h9) rfl dMS_fill_1 ?_
  refine lv_iconst (v := nI 3) hx hb dMS_fill_4 (by decide) ?_
  refine lv_iload_n hx hb dMS_fill_5 rfl (lv_at hl 1 rfl) ?_
  refine ir_iast hx hb hK hP (hA _) hS 18 0 rfl rfl (k := 3) (by omega) (by decide) dMS_fill_6 (fun H locs hP hS => ?_)
  have hP : va_P D vwCl (wC cI cL a ((dI, dO, dG, dN, dT), (aN, aB), (nS, nP, nR, nG, nO, nU, nT), (tP, tR, tO, tN, tF, tZ), (upd mP 3 x, mN))) H := hP
  refine lv_aload_n hx hb dMS_fill_7 rfl (lv_at hl 0 rfl) ?_
  refine va_get (D := D) (ci := 1) (v := .ref (a 18)) (C := RMS) (T := TMS) (N := 2) hx hb hts inMS hown hK hP 17 rfl rfl 0 (by decide) (hts _ k121) (fun _ h9 => h9) rfl dMS_fill_8 ?_
  refine lv_iconst (v := nI 4) hx hb dMS_fill_11 (by decide) ?_
  refine lv_iload_n hx hb dMS_fill_12 rfl (lv_at hl 2 rfl) ?_
  refine ir_iast hx hb hK hP (hA _) hS 18 0 rfl rfl (k := 4) (by omega) (by decide) dMS_fill_13 (fun H locs hP hS => ?_)
  have hP : va_P D vwCl (wC cI cL a ((dI, dO, dG, dN, dT), (aN, aB), (nS, nP, nR, nG, nO, nU, nT), (tP, tR, tO, tN, tF, tZ), (upd (upd mP 3 x) 4 y, mN))) H := hP
  refine lv_aload_n hx hb dMS_fill_14 rfl (lv_at hl 0 rfl) ?_
  refine va_get (D := D) (ci := 1) (v := .ref (a 18)) (C := RMS) (T := TMS) (N := 2) hx hb hts inMS hown hK hP 17 rfl rfl 0 (by decide) (hts _ k121) (fun _ h9 => h9) rfl dMS_fill_15 ?_
  refine lv_iconst (v := nI 5) hx hb dMS_fill_18 (by decide) ?_
  refine lv_iload_n hx hb dMS_fill_19 rfl (lv_at hl 3 rfl) ?_
  refine ir_iast hx hb hK hP (hA _) hS 18 0 rfl rfl (k := 5) (by omega) (by decide) dMS_fill_20 (fun H locs hP hS => ?_)
  have hP : va_P D vwCl (wC cI cL a ((dI, dO, dG, dN, dT), (aN, aB), (nS, nP, nR, nG, nO, nU, nT), (tP, tR, tO, tN, tF, tZ), (upd (upd (upd mP 3 x) 4 y) 5 z, mN))) H := hP
  exact g_vret (v := ((dI, dO, dG, dN, dT), (aN, aB), (nS, nP, nR, nG, nO, nU, nT), (tP, tR, tO, tN, tF, tZ), (upd (upd (upd mP 3 x) 4 y) 5 z, mN))) hx hb hr hK hP hS (rfl) hlocks dMS_fill_21
set_option maxHeartbeats 4000000 in
set_option maxRecDepth 100000 in
theorem c_MS_makeGreeting (l : Launch) {D : va_G} {cI cL : ClassId} {a : Nat → Nat} {A : Nat → Prop} (hA : ∀ v : CS, va_D A (wC cI cL a v)) (dI : Nat) (dO dG dN dT : Int32) (aN aB : Nat → Int32) (nS nP nR nG : Nat → Int32) (nO nU : Nat → Int64) (nT : Nat → Int32) (tP tR tO tN : Nat → Int32) (tF tZ : Nat) (mP : Nat → Int32) (mN : Int64) (x : Int32) (w : Int64)  : Met l yMS_makeGreeting wsMS_makeGreeting ({ frames := 1, cells := 0, slots := 0, locals := 23 }) (va_Pc [.ref (a 17), .int x, .long w] (gG D (tyC cI cL) (wC cI cL a) ((dI, dO, dG, dN, dT), (aN, aB), (nS, nP, nR, nG, nO, nU, nT), (tP, tR, tO, tN, tF, tZ), (mP, mN)))) (va_Qv (fun u : CS => u = ((dI, dO, dG, dN, dT), (aN, aB), (nS, nP, nR, nG, nO, nU, nT), (tP, tR, tO, tN, tF, tZ), (upd (upd (upd (upd (upd (upd mP 0 1) 1 x) 2 (-1)) 3 (-1)) 4 0) 5 0, w))) (gG D (tyC cI cL) (wC cI cL a)) A) 0 0 A := by
  refine g_enter (by decide) rfl (Nat.le_of_ble_eq_true rfl) ?_
  intro p e s m below meth c ls F hK hP hl
  obtain ⟨hx, hb, hr, hml, hown, hts, hlocks⟩ := id F
  have hS : va_S A s.heap s.heap [] := va_S.rf
  have hl : lv_has ls 4 [(0, .ref (a 17)), (1, .int x), (2, .long w)] := hl
  refine lv_aload_n hx hb dMS_makeGreeting_0 rfl (lv_at hl 0 rfl) ?_
  refine lv_iconst (v := 1) hx hb dMS_makeGreeting_1 (by decide) ?_
  refine lv_iload_n hx hb dMS_makeGreeting_2 rfl (lv_at hl 1 rfl) ?_
  refine lv_iconst (v := (-1)) hx hb dMS_makeGreeting_3 (by decide) ?_
  refine g_callVv (As := [.int 1, .int x, .int (-1)]) (rest := []) ⟨hx, hb, hml, hown, hts⟩ (c_MS_address l hA dI dO dG dN dT aN aB nS nP nR nG nO nU nT tP tR tO tN tF tZ mP mN 1 x (-1)) (cwV 3 hts (gw_V k188 k190 k1 k31 k191) rfl rfl rfl (by decide +kernel) ⟨Nat.le_of_ble_eq_true rfl, Nat.le_of_ble_eq_true rfl⟩) hK hP (va_recv hK hP (ci := 1) (q0 := 17) rfl rfl) rfl hl.1 rfl (Nat.le_of_ble_eq_true rfl) dMS_makeGreeting_4 ⟨Nat.zero_le _, Nat.zero_le _⟩ (fun q h => h) hS (fun H locs hP hS => ?_)
  have hP : va_P D vwCl (wC cI cL a ((dI, dO, dG, dN, dT), (aN, aB), (nS, nP, nR, nG, nO, nU, nT), (tP, tR, tO, tN, tF, tZ), (upd (upd (upd mP 0 1) 1 x) 2 (-1), mN))) H := hP
  refine lv_aload_n hx hb dMS_makeGreeting_7 rfl (lv_at hl 0 rfl) ?_
  refine lv_iconst (v := (-1)) hx hb dMS_makeGreeting_8 (by decide) ?_
  refine lv_iconst (v := 0) hx hb dMS_makeGreeting_9 (by decide) ?_
  refine lv_iconst (v := 0) hx hb dMS_makeGreeting_10 (by decide) ?_
  refine g_callVv (As := [.int (-1), .int 0, .int 0]) (rest := []) ⟨hx, hb, hml, hown, hts⟩ (c_MS_fill l hA dI dO dG dN dT aN aB nS nP nR nG nO nU nT tP tR tO tN tF tZ (upd (upd (upd mP 0 1) 1 x) 2 (-1)) mN (-1) 0 0) (cwV 3 hts (gw_V k192 k194 k2 k31 k195) rfl rfl rfl (by decide +kernel) ⟨Nat.le_of_ble_eq_true rfl, Nat.le_of_ble_eq_true rfl⟩) hK hP (va_recv hK hP (ci := 1) (q0 := 17) rfl rfl) rfl hl.1 rfl (Nat.le_of_ble_eq_true rfl) dMS_makeGreeting_11 ⟨Nat.zero_le _, Nat.zero_le _⟩ (fun q h => h) hS (fun H locs hP hS => ?_)
  have hP : va_P D vwCl (wC cI cL a ((dI, dO, dG, dN, dT), (aN, aB), (nS, nP, nR, nG, nO, nU, nT), (tP, tR, tO, tN, tF, tZ), (upd (upd (upd (upd (upd (upd mP 0 1) 1 x) 2 (-1)) 3 (-1)) 4 0) 5 0, mN))) H := hP
  refine lv_aload_n hx hb dMS_makeGreeting_14 rfl (lv_at hl 0 rfl) ?_
  refine lv_lload_n hx hb dMS_makeGreeting_15 rfl (lv_at hl 2 rfl) ?_
  refine va_put (D := D) (ci := 1) (v := .long w) (ty := .long) (C := RMS) (T := TMS) (N := 2) hx hb hts inMS tyMS tyMS_ok nmMS hown hK hP (hA _) hS 17 rfl rfl 1 (by decide) (hts _ k122) (fun _ h9 => h9) rfl (by decide +kernel) rfl rfl (Nat.le_of_ble_eq_true rfl) dMS_makeGreeting_16 (fun H locs hP _ hS => ?_)
  have hP : va_P D vwCl (wC cI cL a ((dI, dO, dG, dN, dT), (aN, aB), (nS, nP, nR, nG, nO, nU, nT), (tP, tR, tO, tN, tF, tZ), (upd (upd (upd (upd (upd (upd mP 0 1) 1 x) 2 (-1)) 3 (-1)) 4 0) 5 0, w))) H := hP
  exact g_vret (v := ((dI, dO, dG, dN, dT), (aN, aB), (nS, nP, nR, nG, nO, nU, nT), (tP, tR, tO, tN, tF, tZ), (upd (upd (upd (upd (upd (upd mP 0 1) 1 x) 2 (-1)) 3 (-1)) 4 0) 5 0, w))) hx hb hr hK hP hS (rfl) hlocks dMS_makeGreeting_19
set_option maxHeartbeats 4000000 in
set_option maxRecDepth 100000 in
theorem c_MS_makeThanks (l : Launch) {D : va_G} {cI cL : ClassId} {a : Nat → Nat} {A : Nat → Prop} (hA : ∀ v : CS, va_D A (wC cI cL a v)) (dI : Nat) (dO dG dN dT : Int32) (aN aB : Nat → Int32) (nS nP nR nG : Nat → Int32) (nO nU : Nat → Int64) (nT : Nat → Int32) (tP tR tO tN : Nat → Int32) (tF tZ : Nat) (mP : Nat → Int32) (mN : Int64) (x : Int32) (y : Int32) (z : Int32) (q : Int32)  : Met l yMS_makeThanks wsMS_makeThanks ({ frames := 1, cells := 0, slots := 0, locals := 23 }) (va_Pc [.ref (a 17), .int x, .int y, .int z, .int q] (gG D (tyC cI cL) (wC cI cL a) ((dI, dO, dG, dN, dT), (aN, aB), (nS, nP, nR, nG, nO, nU, nT), (tP, tR, tO, tN, tF, tZ), (mP, mN)))) (va_Qv (fun u : CS => u = ((dI, dO, dG, dN, dT), (aN, aB), (nS, nP, nR, nG, nO, nU, nT), (tP, tR, tO, tN, tF, tZ), (upd (upd (upd (upd (upd (upd mP 0 2) 1 x) 2 y) 3 z) 4 q) 5 0, 0))) (gG D (tyC cI cL) (wC cI cL a)) A) 0 0 A := by
  refine g_enter (by decide) rfl (Nat.le_of_ble_eq_true rfl) ?_
  intro p e s m below meth c ls F hK hP hl
  obtain ⟨hx, hb, hr, hml, hown, hts, hlocks⟩ := id F
  have hS : va_S A s.heap s.heap [] := va_S.rf
  have hl : lv_has ls 5 [(0, .ref (a 17)), (1, .int x), (2, .int y), (3, .int z), (4, .int q)] := hl
  refine lv_aload_n hx hb dMS_makeThanks_0 rfl (lv_at hl 0 rfl) ?_
  refine lv_iconst (v := 2) hx hb dMS_makeThanks_1 (by decide) ?_
  refine lv_iload_n hx hb dMS_makeThanks_2 rfl (lv_at hl 1 rfl) ?_
  refine lv_iload_n hx hb dMS_makeThanks_3 rfl (lv_at hl 2 rfl) ?_
  refine g_callVv (As := [.int 2, .int x, .int y]) (rest := []) ⟨hx, hb, hml, hown, hts⟩ (c_MS_address l hA dI dO dG dN dT aN aB nS nP nR nG nO nU nT tP tR tO tN tF tZ mP mN 2 x y) (cwV 3 hts (gw_V k188 k190 k1 k31 k191) rfl rfl rfl (by decide +kernel) ⟨Nat.le_of_ble_eq_true rfl, Nat.le_of_ble_eq_true rfl⟩) hK hP (va_recv hK hP (ci := 1) (q0 := 17) rfl rfl) rfl hl.1 rfl (Nat.le_of_ble_eq_true rfl) dMS_makeThanks_4 ⟨Nat.zero_le _, Nat.zero_le _⟩ (fun q h => h) hS (fun H locs hP hS => ?_)
  have hP : va_P D vwCl (wC cI cL a ((dI, dO, dG, dN, dT), (aN, aB), (nS, nP, nR, nG, nO, nU, nT), (tP, tR, tO, tN, tF, tZ), (upd (upd (upd mP 0 2) 1 x) 2 y, mN))) H := hP
  refine lv_aload_n hx hb dMS_makeThanks_7 rfl (lv_at hl 0 rfl) ?_
  refine lv_iload_n hx hb dMS_makeThanks_8 rfl (lv_at hl 3 rfl) ?_
  refine lv_iload hx hb dMS_makeThanks_9 (lv_at hl 4 rfl) ?_
  refine lv_iconst (v := 0) hx hb dMS_makeThanks_11 (by decide) ?_
  refine g_callVv (As := [.int z, .int q, .int 0]) (rest := []) ⟨hx, hb, hml, hown, hts⟩ (c_MS_fill l hA dI dO dG dN dT aN aB nS nP nR nG nO nU nT tP tR tO tN tF tZ (upd (upd (upd mP 0 2) 1 x) 2 y) mN z q 0) (cwV 3 hts (gw_V k192 k194 k2 k31 k195) rfl rfl rfl (by decide +kernel) ⟨Nat.le_of_ble_eq_true rfl, Nat.le_of_ble_eq_true rfl⟩) hK hP (va_recv hK hP (ci := 1) (q0 := 17) rfl rfl) rfl hl.1 rfl (Nat.le_of_ble_eq_true rfl) dMS_makeThanks_12 ⟨Nat.zero_le _, Nat.zero_le _⟩ (fun q h => h) hS (fun H locs hP hS => ?_)
  have hP : va_P D vwCl (wC cI cL a ((dI, dO, dG, dN, dT), (aN, aB), (nS, nP, nR, nG, nO, nU, nT), (tP, tR, tO, tN, tF, tZ), (upd (upd (upd (upd (upd (upd mP 0 2) 1 x) 2 y) 3 z) 4 q) 5 0, mN))) H := hP
  refine lv_aload_n hx hb dMS_makeThanks_15 rfl (lv_at hl 0 rfl) ?_
  refine lv_lconst (v := 0) hx hb dMS_makeThanks_16 (by decide) ?_
  refine va_put (D := D) (ci := 1) (v := .long 0) (ty := .long) (C := RMS) (T := TMS) (N := 2) hx hb hts inMS tyMS tyMS_ok nmMS hown hK hP (hA _) hS 17 rfl rfl 1 (by decide) (hts _ k122) (fun _ h9 => h9) rfl (by decide +kernel) rfl rfl (Nat.le_of_ble_eq_true rfl) dMS_makeThanks_17 (fun H locs hP _ hS => ?_)
  have hP : va_P D vwCl (wC cI cL a ((dI, dO, dG, dN, dT), (aN, aB), (nS, nP, nR, nG, nO, nU, nT), (tP, tR, tO, tN, tF, tZ), (upd (upd (upd (upd (upd (upd mP 0 2) 1 x) 2 y) 3 z) 4 q) 5 0, 0))) H := hP
  exact g_vret (v := ((dI, dO, dG, dN, dT), (aN, aB), (nS, nP, nR, nG, nO, nU, nT), (tP, tR, tO, tN, tF, tZ), (upd (upd (upd (upd (upd (upd mP 0 2) 1 x) 2 y) 3 z) 4 q) 5 0, 0))) hx hb hr hK hP hS (rfl) hlocks dMS_makeThanks_20
set_option maxHeartbeats 4000000 in
set_option maxRecDepth 100000 in
theorem c_MS_makeAdvert (l : Launch) {D : va_G} {cI cL : ClassId} {a : Nat → Nat} {A : Nat → Prop} (hA : ∀ v : CS, va_D A (wC cI cL a v)) (dI : Nat) (dO dG dN dT : Int32) (aN aB : Nat → Int32) (nS nP nR nG : Nat → Int32) (nO nU : Nat → Int64) (nT : Nat → Int32) (tP tR tO tN : Nat → Int32) (tF tZ : Nat) (mP : Nat → Int32) (mN : Int64) (x : Int32) (y : Int32) (z : Int32) (q : Int32) (b : Int32)  : Met l yMS_makeAdvert wsMS_makeAdvert ({ frames := 1, cells := 0, slots := 0, locals := 23 }) (va_Pc [.ref (a 17), .int x, .int y, .int z, .int q, .int b] (gG D (tyC cI cL) (wC cI cL a) ((dI, dO, dG, dN, dT), (aN, aB), (nS, nP, nR, nG, nO, nU, nT), (tP, tR, tO, tN, tF, tZ), (mP, mN)))) (va_Qv (fun u : CS => u = ((dI, dO, dG, dN, dT), (aN, aB), (nS, nP, nR, nG, nO, nU, nT), (tP, tR, tO, tN, tF, tZ), (upd (upd (upd (upd (upd (upd mP 0 3) 1 x) 2 y) 3 z) 4 q) 5 b, 0))) (gG D (tyC cI cL) (wC cI cL a)) A) 0 0 A := by
  refine g_enter (by decide) rfl (Nat.le_of_ble_eq_true rfl) ?_
  intro p e s m below meth c ls F hK hP hl
  obtain ⟨hx, hb, hr, hml, hown, hts, hlocks⟩ := id F
  have hS : va_S A s.heap s.heap [] := va_S.rf
  have hl : lv_has ls 6 [(0, .ref (a 17)), (1, .int x), (2, .int y), (3, .int z), (4, .int q), (5, .int b)] := hl
  refine lv_aload_n hx hb dMS_makeAdvert_0 rfl (lv_at hl 0 rfl) ?_
  refine lv_iconst (v := 3) hx hb dMS_makeAdvert_1 (by decide) ?_
  refine lv_iload_n hx hb dMS_makeAdvert_2 rfl (lv_at hl 1 rfl) ?_
  refine lv_iload_n hx hb dMS_makeAdvert_3 rfl (lv_at hl 2 rfl) ?_
  refine g_callVv (As := [.int 3, .int x, .int y]) (rest := []) ⟨hx, hb, hml, hown, hts⟩ (c_MS_address l hA dI dO dG dN dT aN aB nS nP nR nG nO nU nT tP tR tO tN tF tZ mP mN 3 x y) (cwV 3 hts (gw_V k188 k190 k1 k31 k191) rfl rfl rfl (by decide +kernel) ⟨Nat.le_of_ble_eq_true rfl, Nat.le_of_ble_eq_true rfl⟩) hK hP (va_recv hK hP (ci := 1) (q0 := 17) rfl rfl) rfl hl.1 rfl (Nat.le_of_ble_eq_true rfl) dMS_makeAdvert_4 ⟨Nat.zero_le _, Nat.zero_le _⟩ (fun q h => h) hS (fun H locs hP hS => ?_)
  have hP : va_P D vwCl (wC cI cL a ((dI, dO, dG, dN, dT), (aN, aB), (nS, nP, nR, nG, nO, nU, nT), (tP, tR, tO, tN, tF, tZ), (upd (upd (upd mP 0 3) 1 x) 2 y, mN))) H := hP
  refine lv_aload_n hx hb dMS_makeAdvert_7 rfl (lv_at hl 0 rfl) ?_
  refine lv_iload_n hx hb dMS_makeAdvert_8 rfl (lv_at hl 3 rfl) ?_
  refine lv_iload hx hb dMS_makeAdvert_9 (lv_at hl 4 rfl) ?_
  refine lv_iload hx hb dMS_makeAdvert_11 (lv_at hl 5 rfl) ?_
  refine g_callVv (As := [.int z, .int q, .int b]) (rest := []) ⟨hx, hb, hml, hown, hts⟩ (c_MS_fill l hA dI dO dG dN dT aN aB nS nP nR nG nO nU nT tP tR tO tN tF tZ (upd (upd (upd mP 0 3) 1 x) 2 y) mN z q b) (cwV 3 hts (gw_V k192 k194 k2 k31 k195) rfl rfl rfl (by decide +kernel) ⟨Nat.le_of_ble_eq_true rfl, Nat.le_of_ble_eq_true rfl⟩) hK hP (va_recv hK hP (ci := 1) (q0 := 17) rfl rfl) rfl hl.1 rfl (Nat.le_of_ble_eq_true rfl) dMS_makeAdvert_13 ⟨Nat.zero_le _, Nat.zero_le _⟩ (fun q h => h) hS (fun H locs hP hS => ?_)
  have hP : va_P D vwCl (wC cI cL a ((dI, dO, dG, dN, dT), (aN, aB), (nS, nP, nR, nG, nO, nU, nT), (tP, tR, tO, tN, tF, tZ), (upd (upd (upd (upd (upd (upd mP 0 3) 1 x) 2 y) 3 z) 4 q) 5 b, mN))) H := hP
  refine lv_aload_n hx hb dMS_makeAdvert_16 rfl (lv_at hl 0 rfl) ?_
  refine lv_lconst (v := 0) hx hb dMS_makeAdvert_17 (by decide) ?_
  refine va_put (D := D) (ci := 1) (v := .long 0) (ty := .long) (C := RMS) (T := TMS) (N := 2) hx hb hts inMS tyMS tyMS_ok nmMS hown hK hP (hA _) hS 17 rfl rfl 1 (by decide) (hts _ k122) (fun _ h9 => h9) rfl (by decide +kernel) rfl rfl (Nat.le_of_ble_eq_true rfl) dMS_makeAdvert_18 (fun H locs hP _ hS => ?_)
  have hP : va_P D vwCl (wC cI cL a ((dI, dO, dG, dN, dT), (aN, aB), (nS, nP, nR, nG, nO, nU, nT), (tP, tR, tO, tN, tF, tZ), (upd (upd (upd (upd (upd (upd mP 0 3) 1 x) 2 y) 3 z) 4 q) 5 b, 0))) H := hP
  exact g_vret (v := ((dI, dO, dG, dN, dT), (aN, aB), (nS, nP, nR, nG, nO, nU, nT), (tP, tR, tO, tN, tF, tZ), (upd (upd (upd (upd (upd (upd mP 0 3) 1 x) 2 y) 3 z) 4 q) 5 b, 0))) hx hb hr hK hP hS (rfl) hlocks dMS_makeAdvert_21
