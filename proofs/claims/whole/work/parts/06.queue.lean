def fTQ_isEmpty (tZ : Nat) : Bool := (if tZ = 0 then true else false)
set_option maxHeartbeats 4000000 in
set_option maxRecDepth 100000 in
theorem c_TQ_isEmpty (l : Launch) {D : va_G} {cI cL : ClassId} {a : Nat → Nat}  (dI : Nat) (dO dG dN dT : Int32) (aN aB : Nat → Int32) (nS nP nR nG : Nat → Int32) (nO nU : Nat → Int64) (nT : Nat → Int32) (tP tR tO tN : Nat → Int32) (tF tZ : Nat) (mP : Nat → Int32) (mN : Int64)  (hZ : tZ ≤ 64) : Met l yTQ_isEmpty wsTQ_isEmpty ({ frames := 0, cells := 0, slots := 0, locals := 0 }) (va_Pc [.ref (a 12)] (gG D (tyC cI cL) (wC cI cL a) ((dI, dO, dG, dN, dT), (aN, aB), (nS, nP, nR, nG, nO, nU, nT), (tP, tR, tO, tN, tF, tZ), (mP, mN)))) (vp_Si (fun r : Int32 => r = bi (fTQ_isEmpty tZ))) 0 0 (fun _ => False) := by
  refine g_enter (by decide) rfl (Nat.le_of_ble_eq_true rfl) ?_
  intro p e s m below meth c ls F hK hP hl
  obtain ⟨hx, hb, hr, hml, hown, hts, hlocks⟩ := id F
  have hl : lv_has ls 1 [(0, .ref (a 12))] := hl
  refine lv_aload_n hx hb dTQ_isEmpty_0 rfl (lv_at hl 0 rfl) ?_
  refine va_get (D := D) (ci := 3) (v := .int (nI tZ)) (C := RTQ) (T := TTQ) (N := 6) hx hb hts inTQ hown hK hP 12 rfl rfl 5 (by decide) (hts _ k101) (fun _ h9 => h9) rfl dTQ_isEmpty_1 ?_
  refine lv_if_ne (tgt := 11) hx hb dTQ_isEmpty_4 (by decide) (fun c1 => ?_) (fun c1 => ?_)
  · have c1 : ¬ tZ = 0 := fun q => c1 ((nI_z (by omega)).mpr q)
    refine lv_iconst (v := bi false) hx hb dTQ_isEmpty_11 (by decide) ?_
    have e1 : fTQ_isEmpty tZ = false := by simp only [fTQ_isEmpty, if_neg c1]
    exact r_zret hx hb hr (by first | rfl | (rw [e1] <;> rfl)) hlocks dTQ_isEmpty_12
  · have c1 := (nI_z (by omega)).mp c1
    refine lv_iconst (v := bi true) hx hb dTQ_isEmpty_7 (by decide) ?_
    refine lv_goto (tgt := 12) hx hb dTQ_isEmpty_8 (by decide) ?_
    have e1 : fTQ_isEmpty tZ = true := by simp only [fTQ_isEmpty, if_pos c1]
    exact r_zret hx hb hr (by first | rfl | (rw [e1] <;> rfl)) hlocks dTQ_isEmpty_12
theorem isEmpty_pos {z : Nat} (h : fTQ_isEmpty z = false) : 0 < z := by
  unfold fTQ_isEmpty at h
  by_cases hz : z = 0
  · rw [if_pos hz] at h; cases h
  · omega
def fTQ_add (tP : Nat → Int32) (tR : Nat → Int32) (tO : Nat → Int32) (tN : Nat → Int32) (tF : Nat) (tZ : Nat) (x : Int32) (y : Int32) (z : Int32) (q : Int32) : (Nat → Int32) × (Nat → Int32) × (Nat → Int32) × (Nat → Int32) × Nat := (if tZ < 64 then (upd tP ((tF + tZ) % 64) x, upd tR ((tF + tZ) % 64) y, upd tO ((tF + tZ) % 64) z, upd tN ((tF + tZ) % 64) q, tZ + 1) else (tP, tR, tO, tN, tZ))
set_option maxHeartbeats 4000000 in
set_option maxRecDepth 100000 in
theorem c_TQ_add (l : Launch) {D : va_G} {cI cL : ClassId} {a : Nat → Nat} {A : Nat → Prop} (hA : ∀ v : CS, va_D A (wC cI cL a v)) (dI : Nat) (dO dG dN dT : Int32) (aN aB : Nat → Int32) (nS nP nR nG : Nat → Int32) (nO nU : Nat → Int64) (nT : Nat → Int32) (tP tR tO tN : Nat → Int32) (tF tZ : Nat) (mP : Nat → Int32) (mN : Int64) (x : Int32) (y : Int32) (z : Int32) (q : Int32) (hF : tF < 64) (hZ : tZ ≤ 64) : Met l yTQ_add wsTQ_add ({ frames := 0, cells := 0, slots := 0, locals := 0 }) (va_Pc [.ref (a 12), .int x, .int y, .int z, .int q] (gG D (tyC cI cL) (wC cI cL a) ((dI, dO, dG, dN, dT), (aN, aB), (nS, nP, nR, nG, nO, nU, nT), (tP, tR, tO, tN, tF, tZ), (mP, mN)))) (va_Qv (fun u : CS => u = ((dI, dO, dG, dN, dT), (aN, aB), (nS, nP, nR, nG, nO, nU, nT), ((fTQ_add tP tR tO tN tF tZ x y z q).1, (fTQ_add tP tR tO tN tF tZ x y z q).2.1, (fTQ_add tP tR tO tN tF tZ x y z q).2.2.1, (fTQ_add tP tR tO tN tF tZ x y z q).2.2.2.1, tF, (fTQ_add tP tR tO tN tF tZ x y z q).2.2.2.2), (mP, mN))) (gG D (tyC cI cL) (wC cI cL a)) A) 0 0 A := by
  refine g_enter (by decide) rfl (Nat.le_of_ble_eq_true rfl) ?_
  intro p e s m below meth c ls F hK hP hl
  obtain ⟨hx, hb, hr, hml, hown, hts, hlocks⟩ := id F
  have hS : va_S A s.heap s.heap [] := va_S.rf
  have hl : lv_has ls 6 [(0, .ref (a 12)), (1, .int x), (2, .int y), (3, .int z), (4, .int q)] := hl
  refine lv_aload_n hx hb dTQ_add_0 rfl (lv_at hl 0 rfl) ?_
  refine va_get (D := D) (ci := 3) (v := .int (nI tZ)) (C := RTQ) (T := TTQ) (N := 6) hx hb hts inTQ hown hK hP 12 rfl rfl 5 (by decide) (hts _ k101) (fun _ h9 => h9) rfl dTQ_add_1 ?_
  refine lv_bipush (v := nI 64) hx hb dTQ_add_4 (by decide) ?_
  refine lv_icmp_lt (tgt := 10) hx hb dTQ_add_6 (by decide) (fun c1 => ?_) (fun c1 => ?_)
  · have c1 := (nI_ltI (a := tZ) (b := 64) (by omega) (by omega)).mp c1
    refine lv_aload_n hx hb dTQ_add_10 rfl (lv_at hl 0 rfl) ?_
    refine va_get (D := D) (ci := 3) (v := .int (nI tF)) (C := RTQ) (T := TTQ) (N := 6) hx hb hts inTQ hown hK hP 12 rfl rfl 4 (by decide) (hts _ k100) (fun _ h9 => h9) rfl dTQ_add_11 ?_
    refine lv_aload_n hx hb dTQ_add_14 rfl (lv_at hl 0 rfl) ?_
    refine va_get (D := D) (ci := 3) (v := .int (nI tZ)) (C := RTQ) (T := TTQ) (N := 6) hx hb hts inTQ hown hK hP 12 rfl rfl 5 (by decide) (hts _ k101) (fun _ h9 => h9) rfl dTQ_add_15 ?_
    refine lv_iadd hx hb dTQ_add_18 ?_
    refine lv_eqi (y := nI (tF + tZ)) (nI_add tF tZ) ?_
    refine lv_bipush (v := nI 64) hx hb dTQ_add_19 (by decide) ?_
    refine lv_irem hx hb dTQ_add_21 (by decide) ?_
    refine lv_eqi (y := nI ((tF + tZ) % 64)) (pk_rem (by omega) (by decide) (by decide)) ?_
    refine lv_istore (lv' := [(5, .int (nI ((tF + tZ) % 64))), (0, .ref (a 12)), (1, .int x), (2, .int y), (3, .int z), (4, .int q)]) hx hb dTQ_add_22 hl (by decide) rfl (fun ls hl => ?_)
    refine lv_aload_n hx hb dTQ_add_24 rfl (lv_at hl 1 rfl) ?_
    refine va_get (D := D) (ci := 3) (v := .ref (a 13)) (C := RTQ) (T := TTQ) (N := 6) hx hb hts inTQ hown hK hP 12 rfl rfl 0 (by decide) (hts _ k96) (fun _ h9 => h9) rfl dTQ_add_25 ?_
    refine lv_iload hx hb dTQ_add_28 (lv_at hl 0 rfl) ?_
    refine lv_iload_n hx hb dTQ_add_30 rfl (lv_at hl 2 rfl) ?_
    refine ir_iast hx hb hK hP (hA _) hS 13 0 rfl rfl (k := (tF + tZ) % 64) (by omega) (by decide) dTQ_add_31 (fun H locs hP hS => ?_)
    have hP : va_P D vwCl (wC cI cL a ((dI, dO, dG, dN, dT), (aN, aB), (nS, nP, nR, nG, nO, nU, nT), (upd tP ((tF + tZ) % 64) x, tR, tO, tN, tF, tZ), (mP, mN))) H := hP
    refine lv_aload_n hx hb dTQ_add_32 rfl (lv_at hl 1 rfl) ?_
    refine va_get (D := D) (ci := 3) (v := .ref (a 14)) (C := RTQ) (T := TTQ) (N := 6) hx hb hts inTQ hown hK hP 12 rfl rfl 1 (by decide) (hts _ k97) (fun _ h9 => h9) rfl dTQ_add_33 ?_
    refine lv_iload hx hb dTQ_add_36 (lv_at hl 0 rfl) ?_
    refine lv_iload_n hx hb dTQ_add_38 rfl (lv_at hl 3 rfl) ?_
    refine ir_iast hx hb hK hP (hA _) hS 14 0 rfl rfl (k := (tF + tZ) % 64) (by omega) (by decide) dTQ_add_39 (fun H locs hP hS => ?_)
    have hP : va_P D vwCl (wC cI cL a ((dI, dO, dG, dN, dT), (aN, aB), (nS, nP, nR, nG, nO, nU, nT), (upd tP ((tF + tZ) % 64) x, upd tR ((tF + tZ) % 64) y, tO, tN, tF, tZ), (mP, mN))) H := hP
    refine lv_aload_n hx hb dTQ_add_40 rfl (lv_at hl 1 rfl) ?_
    refine va_get (D := D) (ci := 3) (v := .ref (a 15)) (C := RTQ) (T := TTQ) (N := 6) hx hb hts inTQ hown hK hP 12 rfl rfl 2 (by decide) (hts _ k98) (fun _ h9 => h9) rfl dTQ_add_41 ?_
    refine lv_iload hx hb dTQ_add_44 (lv_at hl 0 rfl) ?_
    refine lv_iload_n hx hb dTQ_add_46 rfl (lv_at hl 4 rfl) ?_
    refine ir_iast hx hb hK hP (hA _) hS 15 0 rfl rfl (k := (tF + tZ) % 64) (by omega) (by decide) dTQ_add_47 (fun H locs hP hS => ?_)
    have hP : va_P D vwCl (wC cI cL a ((dI, dO, dG, dN, dT), (aN, aB), (nS, nP, nR, nG, nO, nU, nT), (upd tP ((tF + tZ) % 64) x, upd tR ((tF + tZ) % 64) y, upd tO ((tF + tZ) % 64) z, tN, tF, tZ), (mP, mN))) H := hP
    refine lv_aload_n hx hb dTQ_add_48 rfl (lv_at hl 1 rfl) ?_
    refine va_get (D := D) (ci := 3) (v := .ref (a 16)) (C := RTQ) (T := TTQ) (N := 6) hx hb hts inTQ hown hK hP 12 rfl rfl 3 (by decide) (hts _ k99) (fun _ h9 => h9) rfl dTQ_add_49 ?_
    refine lv_iload hx hb dTQ_add_52 (lv_at hl 0 rfl) ?_
    refine lv_iload hx hb dTQ_add_54 (lv_at hl 5 rfl) ?_
    refine ir_iast hx hb hK hP (hA _) hS 16 0 rfl rfl (k := (tF + tZ) % 64) (by omega) (by decide) dTQ_add_56 (fun H locs hP hS => ?_)
    have hP : va_P D vwCl (wC cI cL a ((dI, dO, dG, dN, dT), (aN, aB), (nS, nP, nR, nG, nO, nU, nT), (upd tP ((tF + tZ) % 64) x, upd tR ((tF + tZ) % 64) y, upd tO ((tF + tZ) % 64) z, upd tN ((tF + tZ) % 64) q, tF, tZ), (mP, mN))) H := hP
    refine lv_aload_n hx hb dTQ_add_57 rfl (lv_at hl 1 rfl) ?_
    refine lv_dup hx hb dTQ_add_58 rfl ?_
    refine va_get (D := D) (ci := 3) (v := .int (nI tZ)) (C := RTQ) (T := TTQ) (N := 6) hx hb hts inTQ hown hK hP 12 rfl rfl 5 (by decide) (hts _ k101) (fun _ h9 => h9) rfl dTQ_add_59 ?_
    refine lv_iconst (v := 1) hx hb dTQ_add_62 (by decide) ?_
    refine lv_iadd hx hb dTQ_add_63 ?_
    refine lv_eqi (y := nI (tZ + 1)) (nI_add tZ 1) ?_
    refine va_put (D := D) (ci := 3) (v := .int (nI (tZ + 1))) (ty := .int) (C := RTQ) (T := TTQ) (N := 6) hx hb hts inTQ tyTQ tyTQ_ok nmTQ hown hK hP (hA _) hS 12 rfl rfl 5 (by decide) (hts _ k101) (fun _ h9 => h9) rfl (by decide +kernel) rfl rfl (Nat.le_of_ble_eq_true rfl) dTQ_add_64 (fun H locs hP _ hS => ?_)
    have hP : va_P D vwCl (wC cI cL a ((dI, dO, dG, dN, dT), (aN, aB), (nS, nP, nR, nG, nO, nU, nT), (upd tP ((tF + tZ) % 64) x, upd tR ((tF + tZ) % 64) y, upd tO ((tF + tZ) % 64) z, upd tN ((tF + tZ) % 64) q, tF, tZ + 1), (mP, mN))) H := hP
    have e1 : fTQ_add tP tR tO tN tF tZ x y z q = (upd tP ((tF + tZ) % 64) x, upd tR ((tF + tZ) % 64) y, upd tO ((tF + tZ) % 64) z, upd tN ((tF + tZ) % 64) q, tZ + 1) := by simp only [fTQ_add, if_pos c1]
    exact g_vret (v := ((dI, dO, dG, dN, dT), (aN, aB), (nS, nP, nR, nG, nO, nU, nT), (upd tP ((tF + tZ) % 64) x, upd tR ((tF + tZ) % 64) y, upd tO ((tF + tZ) % 64) z, upd tN ((tF + tZ) % 64) q, tF, tZ + 1), (mP, mN))) hx hb hr hK hP hS (by first | rfl | (rw [e1] <;> rfl)) hlocks dTQ_add_67
  · have c1 : ¬ tZ < 64 := fun q => c1 ((nI_ltI (a := tZ) (b := 64) (by omega) (by omega)).mpr q)
    have e1 : fTQ_add tP tR tO tN tF tZ x y z q = (tP, tR, tO, tN, tZ) := by simp only [fTQ_add, if_neg c1]
    exact g_vret (v := ((dI, dO, dG, dN, dT), (aN, aB), (nS, nP, nR, nG, nO, nU, nT), (tP, tR, tO, tN, tF, tZ), (mP, mN))) hx hb hr hK hP hS (by first | rfl | (rw [e1] <;> rfl)) hlocks dTQ_add_9
set_option maxHeartbeats 4000000 in
set_option maxRecDepth 100000 in
theorem c_TQ_moveFirstTo (l : Launch) {D : va_G} {cI cL : ClassId} {a : Nat → Nat} {A : Nat → Prop} (hA : ∀ v : CS, va_D A (wC cI cL a v)) (dI : Nat) (dO dG dN dT : Int32) (aN aB : Nat → Int32) (nS nP nR nG : Nat → Int32) (nO nU : Nat → Int64) (nT : Nat → Int32) (tP tR tO tN : Nat → Int32) (tF tZ : Nat) (mP : Nat → Int32) (mN : Int64)  (hF : tF < 64) (hZ : 0 < tZ ∧ tZ ≤ 64) : Met l yTQ_moveFirstTo wsTQ_moveFirstTo ({ frames := 2, cells := 0, slots := 0, locals := 47 }) (va_Pc [.ref (a 12), .ref (a 17)] (gG D (tyC cI cL) (wC cI cL a) ((dI, dO, dG, dN, dT), (aN, aB), (nS, nP, nR, nG, nO, nU, nT), (tP, tR, tO, tN, tF, tZ), (mP, mN)))) (va_Qv (fun u : CS => u = ((dI, dO, dG, dN, dT), (aN, aB), (nS, nP, nR, nG, nO, nU, nT), (tP, tR, tO, tN, (tF + 1) % 64, tZ - 1), (upd (upd (upd (upd (upd (upd mP 0 2) 1 (tP tF)) 2 (tR tF)) 3 (tO tF)) 4 (tN tF)) 5 0, 0))) (gG D (tyC cI cL) (wC cI cL a)) A) 0 0 A := by
  refine g_enter (by decide) rfl (Nat.le_of_ble_eq_true rfl) ?_
  intro p e s m below meth c ls F hK hP hl
  obtain ⟨hx, hb, hr, hml, hown, hts, hlocks⟩ := id F
  have hS : va_S A s.heap s.heap [] := va_S.rf
  have hl : lv_has ls 2 [(0, .ref (a 12)), (1, .ref (a 17))] := hl
  refine lv_aload_n hx hb dTQ_moveFirstTo_0 rfl (lv_at hl 1 rfl) ?_
  refine lv_aload_n hx hb dTQ_moveFirstTo_1 rfl (lv_at hl 0 rfl) ?_
  refine va_get (D := D) (ci := 3) (v := .ref (a 13)) (C := RTQ) (T := TTQ) (N := 6) hx hb hts inTQ hown hK hP 12 rfl rfl 0 (by decide) (hts _ k96) (fun _ h9 => h9) rfl dTQ_moveFirstTo_2 ?_
  refine lv_aload_n hx hb dTQ_moveFirstTo_5 rfl (lv_at hl 0 rfl) ?_
  refine va_get (D := D) (ci := 3) (v := .int (nI tF)) (C := RTQ) (T := TTQ) (N := 6) hx hb hts inTQ hown hK hP 12 rfl rfl 4 (by decide) (hts _ k100) (fun _ h9 => h9) rfl dTQ_moveFirstTo_6 ?_
  refine ir_iald hx hb hK hP 13 0 rfl rfl (k := tF) (by omega) (by decide) dTQ_moveFirstTo_9 ?_
  refine lv_aload_n hx hb dTQ_moveFirstTo_10 rfl (lv_at hl 0 rfl) ?_
  refine va_get (D := D) (ci := 3) (v := .ref (a 14)) (C := RTQ) (T := TTQ) (N := 6) hx hb hts inTQ hown hK hP 12 rfl rfl 1 (by decide) (hts _ k97) (fun _ h9 => h9) rfl dTQ_moveFirstTo_11 ?_
  refine lv_aload_n hx hb dTQ_moveFirstTo_14 rfl (lv_at hl 0 rfl) ?_
  refine va_get (D := D) (ci := 3) (v := .int (nI tF)) (C := RTQ) (T := TTQ) (N := 6) hx hb hts inTQ hown hK hP 12 rfl rfl 4 (by decide) (hts _ k100) (fun _ h9 => h9) rfl dTQ_moveFirstTo_15 ?_
  refine ir_iald hx hb hK hP 14 0 rfl rfl (k := tF) (by omega) (by decide) dTQ_moveFirstTo_18 ?_
  refine lv_aload_n hx hb dTQ_moveFirstTo_19 rfl (lv_at hl 0 rfl) ?_
  refine va_get (D := D) (ci := 3) (v := .ref (a 15)) (C := RTQ) (T := TTQ) (N := 6) hx hb hts inTQ hown hK hP 12 rfl rfl 2 (by decide) (hts _ k98) (fun _ h9 => h9) rfl dTQ_moveFirstTo_20 ?_
  refine lv_aload_n hx hb dTQ_moveFirstTo_23 rfl (lv_at hl 0 rfl) ?_
  refine va_get (D := D) (ci := 3) (v := .int (nI tF)) (C := RTQ) (T := TTQ) (N := 6) hx hb hts inTQ hown hK hP 12 rfl rfl 4 (by decide) (hts _ k100) (fun _ h9 => h9) rfl dTQ_moveFirstTo_24 ?_
  refine ir_iald hx hb hK hP 15 0 rfl rfl (k := tF) (by omega) (by decide) dTQ_moveFirstTo_27 ?_
  refine lv_aload_n hx hb dTQ_moveFirstTo_28 rfl (lv_at hl 0 rfl) ?_
  refine va_get (D := D) (ci := 3) (v := .ref (a 16)) (C := RTQ) (T := TTQ) (N := 6) hx hb hts inTQ hown hK hP 12 rfl rfl 3 (by decide) (hts _ k99) (fun _ h9 => h9) rfl dTQ_moveFirstTo_29 ?_
  refine lv_aload_n hx hb dTQ_moveFirstTo_32 rfl (lv_at hl 0 rfl) ?_
  refine va_get (D := D) (ci := 3) (v := .int (nI tF)) (C := RTQ) (T := TTQ) (N := 6) hx hb hts inTQ hown hK hP 12 rfl rfl 4 (by decide) (hts _ k100) (fun _ h9 => h9) rfl dTQ_moveFirstTo_33 ?_
  refine ir_iald hx hb hK hP 16 0 rfl rfl (k := tF) (by omega) (by decide) dTQ_moveFirstTo_36 ?_
  refine g_callVv (As := [.int (tP tF), .int (tR tF), .int (tO tF), .int (tN tF)]) (rest := []) ⟨hx, hb, hml, hown, hts⟩ (c_MS_makeThanks l hA dI dO dG dN dT aN aB nS nP nR nG nO nU nT tP tR tO tN tF tZ mP mN (tP tF) (tR tF) (tO tF) (tN tF)) (cwV 4 hts (gw_V k208 k209 k210 k31 k211) rfl rfl rfl (by decide +kernel) ⟨Nat.le_of_ble_eq_true rfl, Nat.le_of_ble_eq_true rfl⟩) hK hP (va_recv hK hP (ci := 1) (q0 := 17) rfl rfl) rfl hl.1 rfl (Nat.le_of_ble_eq_true rfl) dTQ_moveFirstTo_37 ⟨Nat.zero_le _, Nat.zero_le _⟩ (fun q h => h) hS (fun H locs hP hS => ?_)
  have hP : va_P D vwCl (wC cI cL a ((dI, dO, dG, dN, dT), (aN, aB), (nS, nP, nR, nG, nO, nU, nT), (tP, tR, tO, tN, tF, tZ), (upd (upd (upd (upd (upd (upd mP 0 2) 1 (tP tF)) 2 (tR tF)) 3 (tO tF)) 4 (tN tF)) 5 0, 0))) H := hP
  refine lv_aload_n hx hb dTQ_moveFirstTo_40 rfl (lv_at hl 0 rfl) ?_
  refine lv_aload_n hx hb dTQ_moveFirstTo_41 rfl (lv_at hl 0 rfl) ?_
  refine va_get (D := D) (ci := 3) (v := .int (nI tF)) (C := RTQ) (T := TTQ) (N := 6) hx hb hts inTQ hown hK hP 12 rfl rfl 4 (by decide) (hts _ k100) (fun _ h9 => h9) rfl dTQ_moveFirstTo_42 ?_
  refine lv_iconst (v := 1) hx hb dTQ_moveFirstTo_45 (by decide) ?_
  refine lv_iadd hx hb dTQ_moveFirstTo_46 ?_
  refine lv_eqi (y := nI (tF + 1)) (nI_add tF 1) ?_
  refine lv_bipush (v := nI 64) hx hb dTQ_moveFirstTo_47 (by decide) ?_
  refine lv_irem hx hb dTQ_moveFirstTo_49 (by decide) ?_
  refine lv_eqi (y := nI ((tF + 1) % 64)) (pk_rem (by omega) (by decide) (by decide)) ?_
  refine va_put (D := D) (ci := 3) (v := .int (nI ((tF + 1) % 64))) (ty := .int) (C := RTQ) (T := TTQ) (N := 6) hx hb hts inTQ tyTQ tyTQ_ok nmTQ hown hK hP (hA _) hS 12 rfl rfl 4 (by decide) (hts _ k100) (fun _ h9 => h9) rfl (by decide +kernel) rfl rfl (Nat.le_of_ble_eq_true rfl) dTQ_moveFirstTo_50 (fun H locs hP _ hS => ?_)
  have hP : va_P D vwCl (wC cI cL a ((dI, dO, dG, dN, dT), (aN, aB), (nS, nP, nR, nG, nO, nU, nT), (tP, tR, tO, tN, (tF + 1) % 64, tZ), (upd (upd (upd (upd (upd (upd mP 0 2) 1 (tP tF)) 2 (tR tF)) 3 (tO tF)) 4 (tN tF)) 5 0, 0))) H := hP
  refine lv_aload_n hx hb dTQ_moveFirstTo_53 rfl (lv_at hl 0 rfl) ?_
  refine lv_dup hx hb dTQ_moveFirstTo_54 rfl ?_
  refine va_get (D := D) (ci := 3) (v := .int (nI tZ)) (C := RTQ) (T := TTQ) (N := 6) hx hb hts inTQ hown hK hP 12 rfl rfl 5 (by decide) (hts _ k101) (fun _ h9 => h9) rfl dTQ_moveFirstTo_55 ?_
  refine lv_iconst (v := 1) hx hb dTQ_moveFirstTo_58 (by decide) ?_
  refine lv_isub hx hb dTQ_moveFirstTo_59 ?_
  refine lv_eqi (y := nI (tZ - 1)) (nI_sub1 (by omega)) ?_
  refine va_put (D := D) (ci := 3) (v := .int (nI (tZ - 1))) (ty := .int) (C := RTQ) (T := TTQ) (N := 6) hx hb hts inTQ tyTQ tyTQ_ok nmTQ hown hK hP (hA _) hS 12 rfl rfl 5 (by decide) (hts _ k101) (fun _ h9 => h9) rfl (by decide +kernel) rfl rfl (Nat.le_of_ble_eq_true rfl) dTQ_moveFirstTo_60 (fun H locs hP _ hS => ?_)
  have hP : va_P D vwCl (wC cI cL a ((dI, dO, dG, dN, dT), (aN, aB), (nS, nP, nR, nG, nO, nU, nT), (tP, tR, tO, tN, (tF + 1) % 64, tZ - 1), (upd (upd (upd (upd (upd (upd mP 0 2) 1 (tP tF)) 2 (tR tF)) 3 (tO tF)) 4 (tN tF)) 5 0, 0))) H := hP
  exact g_vret (v := ((dI, dO, dG, dN, dT), (aN, aB), (nS, nP, nR, nG, nO, nU, nT), (tP, tR, tO, tN, (tF + 1) % 64, tZ - 1), (upd (upd (upd (upd (upd (upd mP 0 2) 1 (tP tF)) 2 (tR tF)) 3 (tO tF)) 4 (tN tF)) 5 0, 0))) hx hb hr hK hP hS (rfl) hlocks dTQ_moveFirstTo_63
