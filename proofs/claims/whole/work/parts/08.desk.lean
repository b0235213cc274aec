def fDB_isRouter (x : Int32) : Bool := (if x < 0 then false else (if 64 ≤ x then false else true))
set_option maxHeartbeats 4000000 in
set_option maxRecDepth 100000 in
theorem c_DB_isRouter (l : Launch) {D : va_G} {cI cL : ClassId} {a : Nat → Nat}  (dI : Nat) (dO dG dN dT : Int32) (aN aB : Nat → Int32) (nS nP nR nG : Nat → Int32) (nO nU : Nat → Int64) (nT : Nat → Int32) (tP tR tO tN : Nat → Int32) (tF tZ : Nat) (mP : Nat → Int32) (mN : Int64) (x : Int32)  : Met l yDB_isRouter wsDB_isRouter ({ frames := 0, cells := 0, slots := 0, locals := 0 }) (va_Pc [.int x] (gG D (tyC cI cL) (wC cI cL a) ((dI, dO, dG, dN, dT), (aN, aB), (nS, nP, nR, nG, nO, nU, nT), (tP, tR, tO, tN, tF, tZ), (mP, mN)))) (vp_Si (fun r : Int32 => r = bi (fDB_isRouter x))) 0 0 (fun _ => False) := by
  refine g_enter (by decide) rfl (Nat.le_of_ble_eq_true rfl) ?_
  intro p e s m below meth c ls F hK hP hl
  obtain ⟨hx, hb, hr, hml, hown, hts, hlocks⟩ := id F
  have hl : lv_has ls 1 [(0, .int x)] := hl
  refine lv_iload_n hx hb dDB_isRouter_0 rfl (lv_at hl 0 rfl) ?_
  refine lv_if_lt (tgt := 14) hx hb dDB_isRouter_1 (by decide) (fun c1 => ?_) (fun c1 => ?_)
  · refine lv_iconst (v := bi false) hx hb dDB_isRouter_14 (by decide) ?_
    have e1 : fDB_isRouter x = false := by simp only [fDB_isRouter, if_pos c1]
    exact r_zret hx hb hr (by first | rfl | (rw [e1] <;> rfl)) hlocks dDB_isRouter_15
  · refine lv_iload_n hx hb dDB_isRouter_4 rfl (lv_at hl 0 rfl) ?_
    refine lv_bipush (v := 64) hx hb dDB_isRouter_5 (by decide) ?_
    refine lv_icmp_ge (tgt := 14) hx hb dDB_isRouter_7 (by decide) (fun c2 => ?_) (fun c2 => ?_)
    · refine lv_iconst (v := bi false) hx hb dDB_isRouter_14 (by decide) ?_
      have e1 : fDB_isRouter x = false := by first | (simp only [fDB_isRouter, if_neg c1, if_pos c2]; done) | (simp only [fDB_isRouter, if_neg c1]; simp only [if_pos c2])
      exact r_zret hx hb hr (by first | rfl | (rw [e1] <;> rfl)) hlocks dDB_isRouter_15
    · refine lv_iconst (v := bi true) hx hb dDB_isRouter_10 (by decide) ?_
      refine lv_goto (tgt := 15) hx hb dDB_isRouter_11 (by decide) ?_
      have e1 : fDB_isRouter x = true := by first | (simp only [fDB_isRouter, if_neg c1, if_neg c2]; done) | (simp only [fDB_isRouter, if_neg c1]; simp only [if_neg c2])
      exact r_zret hx hb hr (by first | rfl | (rw [e1] <;> rfl)) hlocks dDB_isRouter_15
theorem isRouter_K {k : Nat} (h : k < 64) : fDB_isRouter (nI k) = true := by
  unfold fDB_isRouter
  rw [if_neg (nI_pos (by omega)), if_neg (show ¬ (64 : Int32) ≤ nI k from nI_ge (a := k) (b := 64) h (by decide))]
set_option maxHeartbeats 4000000 in
set_option maxRecDepth 100000 in
theorem c_DB_requireRouter (l : Launch) {D : va_G} {cI cL : ClassId} {a : Nat → Nat}  (dI : Nat) (dO dG dN dT : Int32) (aN aB : Nat → Int32) (nS nP nR nG : Nat → Int32) (nO nU : Nat → Int64) (nT : Nat → Int32) (tP tR tO tN : Nat → Int32) (tF tZ : Nat) (mP : Nat → Int32) (mN : Int64) (o : Nat) (ho : o < 64) : Met l yDB_requireRouter wsDB_requireRouter ({ frames := 1, cells := 0, slots := 0, locals := 20 }) (va_Pc [.int (nI o)] (gG D (tyC cI cL) (wC cI cL a) ((dI, dO, dG, dN, dT), (aN, aB), (nS, nP, nR, nG, nO, nU, nT), (tP, tR, tO, tN, tF, tZ), (mP, mN)))) (va_Sv (fun _ => True)) 0 0 (fun _ => False) := by
  refine g_enter (by decide) rfl (Nat.le_of_ble_eq_true rfl) ?_
  intro p e s m below meth c ls F hK hP hl
  obtain ⟨hx, hb, hr, hml, hown, hts, hlocks⟩ := id F
  have hl : lv_has ls 1 [(0, .int (nI o))] := hl
  refine lv_iload_n hx hb dDB_requireRouter_0 rfl (lv_at hl 0 rfl) ?_
  refine g_roSi (As := [.int (nI o)]) (rest := []) ⟨hx, hb, hml, hown, hts⟩ (c_DB_isRouter l dI dO dG dN dT aN aB nS nP nR nG nO nU nT tP tR tO tN tF tZ mP mN (nI o)) (cw_S 1 hts k383 k384 k27 k385 rfl rfl rfl (by decide +kernel) ⟨Nat.le_of_ble_eq_true rfl, Nat.le_of_ble_eq_true rfl⟩) hK hP rfl hl.1 rfl (Nat.le_of_ble_eq_true rfl) dDB_requireRouter_1 ⟨Nat.zero_le _, Nat.zero_le _⟩ ?_
  refine lv_if_neb (tgt := 17) hx hb dDB_requireRouter_4 (by decide) (fun c1 => ?_) (fun c1 => absurd c1 (by rw [isRouter_K (by omega)]; decide))
  exact r_vret hx hb hr trivial hlocks dDB_requireRouter_17
set_option maxHeartbeats 4000000 in
set_option maxRecDepth 100000 in
theorem c_DB_requirePort (l : Launch) {D : va_G} {cI cL : ClassId} {a : Nat → Nat}  (dI : Nat) (dO dG dN dT : Int32) (aN aB : Nat → Int32) (nS nP nR nG : Nat → Int32) (nO nU : Nat → Int64) (nT : Nat → Int32) (tP tR tO tN : Nat → Int32) (tF tZ : Nat) (mP : Nat → Int32) (mN : Int64) (q : Nat) (hq : q < 8) : Met l yDB_requirePort wsDB_requirePort ({ frames := 0, cells := 0, slots := 0, locals := 0 }) (va_Pc [.int (nI q)] (gG D (tyC cI cL) (wC cI cL a) ((dI, dO, dG, dN, dT), (aN, aB), (nS, nP, nR, nG, nO, nU, nT), (tP, tR, tO, tN, tF, tZ), (mP, mN)))) (va_Sv (fun _ => True)) 0 0 (fun _ => False) := by
  refine g_enter (by decide) rfl (Nat.le_of_ble_eq_true rfl) ?_
  intro p e s m below meth c ls F hK hP hl
  obtain ⟨hx, hb, hr, hml, hown, hts, hlocks⟩ := id F
  have hl : lv_has ls 1 [(0, .int (nI q))] := hl
  refine lv_iload_n hx hb dDB_requirePort_0 rfl (lv_at hl 0 rfl) ?_
  refine lv_if_lt (tgt := 10) hx hb dDB_requirePort_1 (by decide) (fun c1 => absurd c1 (nI_pos (by omega))) (fun c1 => ?_)
  refine lv_iload_n hx hb dDB_requirePort_4 rfl (lv_at hl 0 rfl) ?_
  refine lv_bipush (v := nI 8) hx hb dDB_requirePort_5 (by decide) ?_
  refine lv_icmp_lt (tgt := 20) hx hb dDB_requirePort_7 (by decide) (fun c2 => ?_) (fun c2 => absurd ((nI_ltI (a := q) (b := 8) (by omega) (by omega)).mpr (by omega)) c2)
  exact r_vret hx hb hr trivial hlocks dDB_requirePort_20
set_option maxHeartbeats 4000000 in
set_option maxRecDepth 100000 in
theorem c_DB_requireNumber (l : Launch) {D : va_G} {cI cL : ClassId} {a : Nat → Nat}  (dI : Nat) (dO dG dN dT : Int32) (aN aB : Nat → Int32) (nS nP nR nG : Nat → Int32) (nO nU : Nat → Int64) (nT : Nat → Int32) (tP tR tO tN : Nat → Int32) (tF tZ : Nat) (mP : Nat → Int32) (mN : Int64) (x : Int32) (h1 : ¬ x < 1) (h2 : x ≤ 1000000000) : Met l yDB_requireNumber wsDB_requireNumber ({ frames := 0, cells := 0, slots := 0, locals := 0 }) (va_Pc [.int x] (gG D (tyC cI cL) (wC cI cL a) ((dI, dO, dG, dN, dT), (aN, aB), (nS, nP, nR, nG, nO, nU, nT), (tP, tR, tO, tN, tF, tZ), (mP, mN)))) (va_Sv (fun _ => True)) 0 0 (fun _ => False) := by
  refine g_enter (by decide) rfl (Nat.le_of_ble_eq_true rfl) ?_
  intro p e s m below meth c ls F hK hP hl
  obtain ⟨hx, hb, hr, hml, hown, hts, hlocks⟩ := id F
  have hl : lv_has ls 1 [(0, .int x)] := hl
  refine lv_iload_n hx hb dDB_requireNumber_0 rfl (lv_at hl 0 rfl) ?_
  refine lv_iconst (v := 1) hx hb dDB_requireNumber_1 (by decide) ?_
  refine lv_icmp_lt (tgt := 11) hx hb dDB_requireNumber_2 (by decide) (fun c1 => absurd c1 h1) (fun c1 => ?_)
  refine lv_iload_n hx hb dDB_requireNumber_5 rfl (lv_at hl 0 rfl) ?_
  refine lv_ldc (v := 1000000000) hx hb hown (hts _ k445) dDB_requireNumber_6 ?_
  refine lv_icmp_le (tgt := 21) hx hb dDB_requireNumber_8 (by decide) (fun c2 => ?_) (fun c2 => absurd h2 c2)
  exact r_vret hx hb hr trivial hlocks dDB_requireNumber_21
set_option maxHeartbeats 4000000 in
set_option maxRecDepth 100000 in
theorem c_DB_requireSender (l : Launch) {D : va_G} {cI cL : ClassId} {a : Nat → Nat}  (dI : Nat) (dO dG dN dT : Int32) (aN aB : Nat → Int32) (nS nP nR nG : Nat → Int32) (nO nU : Nat → Int64) (nT : Nat → Int32) (tP tR tO tN : Nat → Int32) (tF tZ : Nat) (mP : Nat → Int32) (mN : Int64) (o : Nat) (ho : o < 64) (hne : ¬ o = dI) (hI : dI < 64) : Met l yDB_requireSender wsDB_requireSender ({ frames := 1, cells := 0, slots := 0, locals := 20 }) (va_Pc [.ref (a 0), .int (nI o)] (gG D (tyC cI cL) (wC cI cL a) ((dI, dO, dG, dN, dT), (aN, aB), (nS, nP, nR, nG, nO, nU, nT), (tP, tR, tO, tN, tF, tZ), (mP, mN)))) (va_Sv (fun _ => True)) 0 0 (fun _ => False) := by
  refine g_enter (by decide) rfl (Nat.le_of_ble_eq_true rfl) ?_
  intro p e s m below meth c ls F hK hP hl
  obtain ⟨hx, hb, hr, hml, hown, hts, hlocks⟩ := id F
  have hl : lv_has ls 2 [(0, .ref (a 0)), (1, .int (nI o))] := hl
  refine lv_iload_n hx hb dDB_requireSender_0 rfl (lv_at hl 1 rfl) ?_
  refine g_roSi (As := [.int (nI o)]) (rest := []) ⟨hx, hb, hml, hown, hts⟩ (c_DB_isRouter l dI dO dG dN dT aN aB nS nP nR nG nO nU nT tP tR tO tN tF tZ mP mN (nI o)) (cw_S 1 hts k383 k384 k27 k385 rfl rfl rfl (by decide +kernel) ⟨Nat.le_of_ble_eq_true rfl, Nat.le_of_ble_eq_true rfl⟩) hK hP rfl hl.1 rfl (Nat.le_of_ble_eq_true rfl) dDB_requireSender_1 ⟨Nat.zero_le _, Nat.zero_le _⟩ ?_
  refine lv_if_eqb (tgt := 15) hx hb dDB_requireSender_4 (by decide) (fun c1 => absurd c1 (by rw [isRouter_K (by omega)]; decide)) (fun c1 => ?_)
  refine lv_iload_n hx hb dDB_requireSender_7 rfl (lv_at hl 1 rfl) ?_
  refine lv_aload_n hx hb dDB_requireSender_8 rfl (lv_at hl 0 rfl) ?_
  refine va_get (D := D) (ci := 4) (v := .int (nI dI)) (C := RDB) (T := TDB) (N := 9) hx hb hts inDB hown hK hP 0 rfl rfl 0 (by decide) (hts _ k128) (fun _ h9 => h9) rfl dDB_requireSender_9 ?_
  refine lv_icmp_ne (tgt := 25) hx hb dDB_requireSender_12 (by decide) (fun c2 => ?_) (fun c2 => absurd ((nI_eq (a := o) (b := dI) (by omega) (by omega)).mp c2) (by omega))
  exact r_vret hx hb hr trivial hlocks dDB_requireSender_25
def fDB_isOn (dO : Int32) (q : Nat) : Bool := (if (dO &&& (bI q)) = 0 then false else true)
set_option maxHeartbeats 4000000 in
set_option maxRecDepth 100000 in
theorem c_DB_isOn (l : Launch) {D : va_G} {cI cL : ClassId} {a : Nat → Nat}  (dI : Nat) (dO dG dN dT : Int32) (aN aB : Nat → Int32) (nS nP nR nG : Nat → Int32) (nO nU : Nat → Int64) (nT : Nat → Int32) (tP tR tO tN : Nat → Int32) (tF tZ : Nat) (mP : Nat → Int32) (mN : Int64) (q : Nat) (hq : q < 8) : Met l yDB_isOn wsDB_isOn ({ frames := 0, cells := 0, slots := 0, locals := 0 }) (va_Pc [.ref (a 0), .int (nI q)] (gG D (tyC cI cL) (wC cI cL a) ((dI, dO, dG, dN, dT), (aN, aB), (nS, nP, nR, nG, nO, nU, nT), (tP, tR, tO, tN, tF, tZ), (mP, mN)))) (vp_Si (fun r : Int32 => r = bi (fDB_isOn dO q))) 0 0 (fun _ => False) := by
  refine g_enter (by decide) rfl (Nat.le_of_ble_eq_true rfl) ?_
  intro p e s m below meth c ls F hK hP hl
  obtain ⟨hx, hb, hr, hml, hown, hts, hlocks⟩ := id F
  have hl : lv_has ls 2 [(0, .ref (a 0)), (1, .int (nI q))] := hl
  refine lv_aload_n hx hb dDB_isOn_0 rfl (lv_at hl 0 rfl) ?_
  refine va_get (D := D) (ci := 4) (v := .int dO) (C := RDB) (T := TDB) (N := 9) hx hb hts inDB hown hK hP 0 rfl rfl 5 (by decide) (hts _ k133) (fun _ h9 => h9) rfl dDB_isOn_1 ?_
  refine lv_iconst (v := 1) hx hb dDB_isOn_4 (by decide) ?_
  refine lv_iload_n hx hb dDB_isOn_5 rfl (lv_at hl 1 rfl) ?_
  refine lv_ishl hx hb dDB_isOn_6 ?_
  refine lv_eqi (y := bI q) rfl ?_
  refine lv_iand hx hb dDB_isOn_7 ?_
  refine lv_if_eq (tgt := 15) hx hb dDB_isOn_8 (by decide) (fun c1 => ?_) (fun c1 => ?_)
  · refine lv_iconst (v := bi false) hx hb dDB_isOn_15 (by decide) ?_
    have e1 : fDB_isOn dO q = false := by simp only [fDB_isOn, if_pos c1]
    exact r_zret hx hb hr (by first | rfl | (rw [e1] <;> rfl)) hlocks dDB_isOn_16
  · refine lv_iconst (v := bi true) hx hb dDB_isOn_11 (by decide) ?_
    refine lv_goto (tgt := 16) hx hb dDB_isOn_12 (by decide) ?_
    have e1 : fDB_isOn dO q = true := by simp only [fDB_isOn, if_neg c1]
    exact r_zret hx hb hr (by first | rfl | (rw [e1] <;> rfl)) hlocks dDB_isOn_16
set_option maxHeartbeats 4000000 in
set_option maxRecDepth 100000 in
theorem c_DB_requireOn (l : Launch) {D : va_G} {cI cL : ClassId} {a : Nat → Nat}  (dI : Nat) (dO dG dN dT : Int32) (aN aB : Nat → Int32) (nS nP nR nG : Nat → Int32) (nO nU : Nat → Int64) (nT : Nat → Int32) (tP tR tO tN : Nat → Int32) (tF tZ : Nat) (mP : Nat → Int32) (mN : Int64) (q : Nat) (hq : q < 8) (hon : fDB_isOn dO q = true) : Met l yDB_requireOn wsDB_requireOn ({ frames := 1, cells := 0, slots := 0, locals := 21 }) (va_Pc [.ref (a 0), .int (nI q)] (gG D (tyC cI cL) (wC cI cL a) ((dI, dO, dG, dN, dT), (aN, aB), (nS, nP, nR, nG, nO, nU, nT), (tP, tR, tO, tN, tF, tZ), (mP, mN)))) (va_Sv (fun _ => True)) 0 0 (fun _ => False) := by
  refine g_enter (by decide) rfl (Nat.le_of_ble_eq_true rfl) ?_
  intro p e s m below meth c ls F hK hP hl
  obtain ⟨hx, hb, hr, hml, hown, hts, hlocks⟩ := id F
  have hl : lv_has ls 2 [(0, .ref (a 0)), (1, .int (nI q))] := hl
  refine lv_aload_n hx hb dDB_requireOn_0 rfl (lv_at hl 0 rfl) ?_
  refine lv_iload_n hx hb dDB_requireOn_1 rfl (lv_at hl 1 rfl) ?_
  refine g_roVi (As := [.int (nI q)]) (rest := []) ⟨hx, hb, hml, hown, hts⟩ (c_DB_isOn l dI dO dG dN dT aN aB nS nP nR nG nO nU nT tP tR tO tN tF tZ mP mN q (by first | omega | assumption)) (cwV 1 hts (gw_V k355 k357 k7 k27 k358) rfl rfl rfl (by decide +kernel) ⟨Nat.le_of_ble_eq_true rfl, Nat.le_of_ble_eq_true rfl⟩) hK hP (va_recv hK hP (ci := 4) (q0 := 0) rfl rfl) rfl hl.1 rfl (Nat.le_of_ble_eq_true rfl) dDB_requireOn_2 ⟨Nat.zero_le _, Nat.zero_le _⟩ ?_
  refine lv_if_neb (tgt := 18) hx hb dDB_requireOn_5 (by decide) (fun c1 => ?_) (fun c1 => absurd (c1.symm.trans hon) (by decide))
  exact r_vret hx hb hr trivial hlocks dDB_requireOn_18
set_option maxHeartbeats 4000000 in
set_option maxRecDepth 100000 in
theorem c_DB_requireLegal (l : Launch) {D : va_G} {cI cL : ClassId} {a : Nat → Nat}  (dI : Nat) (dO dG dN dT : Int32) (aN aB : Nat → Int32) (nS nP nR nG : Nat → Int32) (nO nU : Nat → Int64) (nT : Nat → Int32) (tP tR tO tN : Nat → Int32) (tF tZ : Nat) (mP : Nat → Int32) (mN : Int64) (q : Nat) (o : Nat) (g : Nat) (x : Int32) (hq : q < 8) (ho : o < 64) (hne : ¬ o = dI) (hI : dI < 64) (hg : g < 64) (h1 : ¬ x < 1) (h2 : x ≤ 1000000000) (hon : fDB_isOn dO q = true) : Met l yDB_requireLegal wsDB_requireLegal ({ frames := 2, cells := 0, slots := 0, locals := 42 }) (va_Pc [.ref (a 0), .int (nI q), .int (nI o), .int (nI g), .int x] (gG D (tyC cI cL) (wC cI cL a) ((dI, dO, dG, dN, dT), (aN, aB), (nS, nP, nR, nG, nO, nU, nT), (tP, tR, tO, tN, tF, tZ), (mP, mN)))) (va_Sv (fun _ => True)) 0 0 (fun _ => False) := by
  refine g_enter (by decide) rfl (Nat.le_of_ble_eq_true rfl) ?_
  intro p e s m below meth c ls F hK hP hl
  obtain ⟨hx, hb, hr, hml, hown, hts, hlocks⟩ := id F
  have hl : lv_has ls 5 [(0, .ref (a 0)), (1, .int (nI q)), (2, .int (nI o)), (3, .int (nI g)), (4, .int x)] := hl
  refine lv_iload_n hx hb dDB_requireLegal_0 rfl (lv_at hl 1 rfl) ?_
  refine g_roSv (As := [.int (nI q)]) (rest := []) ⟨hx, hb, hml, hown, hts⟩ (c_DB_requirePort l dI dO dG dN dT aN aB nS nP nR nG nO nU nT tP tR tO tN tF tZ mP mN q (by first | omega | assumption)) (cw_S 1 hts k285 k286 k27 k287 rfl rfl rfl (by decide +kernel) ⟨Nat.le_of_ble_eq_true rfl, Nat.le_of_ble_eq_true rfl⟩) hK hP rfl hl.1 rfl (Nat.le_of_ble_eq_true rfl) dDB_requireLegal_1 ⟨Nat.zero_le _, Nat.zero_le _⟩ ?_
  refine lv_aload_n hx hb dDB_requireLegal_4 rfl (lv_at hl 0 rfl) ?_
  refine lv_iload_n hx hb dDB_requireLegal_5 rfl (lv_at hl 2 rfl) ?_
  refine g_roVv (As := [.int (nI o)]) (rest := []) ⟨hx, hb, hml, hown, hts⟩ (c_DB_requireSender l dI dO dG dN dT aN aB nS nP nR nG nO nU nT tP tR tO tN tF tZ mP mN o (by first | omega | assumption) (by first | omega | assumption) (by first | omega | assumption)) (cwV 1 hts (gw_V k379 k381 k10 k27 k382) rfl rfl rfl (by decide +kernel) ⟨Nat.le_of_ble_eq_true rfl, Nat.le_of_ble_eq_true rfl⟩) hK hP (va_recv hK hP (ci := 4) (q0 := 0) rfl rfl) rfl hl.1 rfl (Nat.le_of_ble_eq_true rfl) dDB_requireLegal_6 ⟨Nat.zero_le _, Nat.zero_le _⟩ ?_
  refine lv_iload_n hx hb dDB_requireLegal_9 rfl (lv_at hl 3 rfl) ?_
  refine g_roSv (As := [.int (nI g)]) (rest := []) ⟨hx, hb, hml, hown, hts⟩ (c_DB_requireRouter l dI dO dG dN dT aN aB nS nP nR nG nO nU nT tP tR tO tN tF tZ mP mN g (by first | omega | assumption)) (cw_S 1 hts k438 k439 k27 k440 rfl rfl rfl (by decide +kernel) ⟨Nat.le_of_ble_eq_true rfl, Nat.le_of_ble_eq_true rfl⟩) hK hP rfl hl.1 rfl (Nat.le_of_ble_eq_true rfl) dDB_requireLegal_10 ⟨Nat.zero_le _, Nat.zero_le _⟩ ?_
  refine lv_iload hx hb dDB_requireLegal_13 (lv_at hl 4 rfl) ?_
  refine g_roSv (As := [.int x]) (rest := []) ⟨hx, hb, hml, hown, hts⟩ (c_DB_requireNumber l dI dO dG dN dT aN aB nS nP nR nG nO nU nT tP tR tO tN tF tZ mP mN x (by first | omega | assumption) (by first | omega | assumption)) (cw_S 1 hts k442 k443 k27 k444 rfl rfl rfl (by decide +kernel) ⟨Nat.le_of_ble_eq_true rfl, Nat.le_of_ble_eq_true rfl⟩) hK hP rfl hl.1 rfl (Nat.le_of_ble_eq_true rfl) dDB_requireLegal_15 ⟨Nat.zero_le _, Nat.zero_le _⟩ ?_
  refine lv_aload_n hx hb dDB_requireLegal_18 rfl (lv_at hl 0 rfl) ?_
  refine lv_iload_n hx hb dDB_requireLegal_19 rfl (lv_at hl 1 rfl) ?_
  refine g_roVv (As := [.int (nI q)]) (rest := []) ⟨hx, hb, hml, hown, hts⟩ (c_DB_requireOn l dI dO dG dN dT aN aB nS nP nR nG nO nU nT tP tR tO tN tF tZ mP mN q (by first | omega | assumption) (by first | omega | assumption)) (cwV 1 hts (gw_V k387 k389 k11 k27 k390) rfl rfl rfl (by decide +kernel) ⟨Nat.le_of_ble_eq_true rfl, Nat.le_of_ble_eq_true rfl⟩) hK hP (va_recv hK hP (ci := 4) (q0 := 0) rfl rfl) rfl hl.1 rfl (Nat.le_of_ble_eq_true rfl) dDB_requireLegal_20 ⟨Nat.zero_le _, Nat.zero_le _⟩ ?_
  exact r_vret hx hb hr trivial hlocks dDB_requireLegal_23
def fDB_port (dO : Int32) (dG : Int32) (nS : Nat → Int32) (nP : Nat → Int32) (nO : Nat → Int64) (nU : Nat → Int64) (q : Nat) (b : Bool) : Bool × Int32 × Int32 × (Nat → Int32) × (Nat → Int64) × (Nat → Int64) := (if (fDB_isOn dO q) = b then (false, dO, dG, nS, nO, nU) else (cond b (true, dO ||| (bI q), dG, nS, nO, nU) (true, dO &&& ((bI q) ^^^ (-1)), dG &&& ((bI q) ^^^ (-1)), (LNB_dropPort nP (nI q) 16 0 nS nO nU).1, (LNB_dropPort nP (nI q) 16 0 nS nO nU).2.1, (LNB_dropPort nP (nI q) 16 0 nS nO nU).2.2)))
set_option maxHeartbeats 4000000 in
set_option maxRecDepth 100000 in
theorem c_DB_port (l : Launch) {D : va_G} {cI cL : ClassId} {a : Nat → Nat} {A : Nat → Prop} (hA : ∀ v : CS, va_D A (wC cI cL a v)) (dI : Nat) (dO dG dN dT : Int32) (aN aB : Nat → Int32) (nS nP nR nG : Nat → Int32) (nO nU : Nat → Int64) (nT : Nat → Int32) (tP tR tO tN : Nat → Int32) (tF tZ : Nat) (mP : Nat → Int32) (mN : Int64) (q : Nat) (b : Bool) (hq : q < 8) : Met l yDB_port wsDB_port ({ frames := 3, cells := 0, slots := 0, locals := 66 }) (va_Pc [.ref (a 0), .int (nI q), .int (bi b)] (gG D (tyC cI cL) (wC cI cL a) ((dI, dO, dG, dN, dT), (aN, aB), (nS, nP, nR, nG, nO, nU, nT), (tP, tR, tO, tN, tF, tZ), (mP, mN)))) (va_Qi (fun (r : Int32) (u : CS) => r = bi ((fDB_port dO dG nS nP nO nU q b).1) ∧ u = ((dI, (fDB_port dO dG nS nP nO nU q b).2.1, (fDB_port dO dG nS nP nO nU q b).2.2.1, dN, dT), (aN, aB), ((fDB_port dO dG nS nP nO nU q b).2.2.2.1, nP, nR, nG, (fDB_port dO dG nS nP nO nU q b).2.2.2.2.1, (fDB_port dO dG nS nP nO nU q b).2.2.2.2.2, nT), (tP, tR, tO, tN, tF, tZ), (mP, mN))) (gG D (tyC cI cL) (wC cI cL a)) A) 0 0 A := by
  refine g_enter (by decide) rfl (Nat.le_of_ble_eq_true rfl) ?_
  intro p e s m below meth c ls F hK hP hl
  obtain ⟨hx, hb, hr, hml, hown, hts, hlocks⟩ := id F
  have hS : va_S A s.heap s.heap [] := va_S.rf
  have hl : lv_has ls 3 [(0, .ref (a 0)), (1, .int (nI q)), (2, .int (bi b))] := hl
  refine lv_iload_n hx hb dDB_port_0 rfl (lv_at hl 1 rfl) ?_
  refine g_roSv (As := [.int (nI q)]) (rest := []) ⟨hx, hb, hml, hown, hts⟩ (c_DB_requirePort l dI dO dG dN dT aN aB nS nP nR nG nO nU nT tP tR tO tN tF tZ mP mN q (by first | omega | assumption)) (cw_S 1 hts k285 k286 k27 k287 rfl rfl rfl (by decide +kernel) ⟨Nat.le_of_ble_eq_true rfl, Nat.le_of_ble_eq_true rfl⟩) hK hP rfl hl.1 rfl (Nat.le_of_ble_eq_true rfl) dDB_port_1 ⟨Nat.zero_le _, Nat.zero_le _⟩ ?_
  refine lv_aload_n hx hb dDB_port_4 rfl (lv_at hl 0 rfl) ?_
  refine lv_iload_n hx hb dDB_port_5 rfl (lv_at hl 1 rfl) ?_
  refine g_roVi (As := [.int (nI q)]) (rest := []) ⟨hx, hb, hml, hown, hts⟩ (c_DB_isOn l dI dO dG dN dT aN aB nS nP nR nG nO nU nT tP tR tO tN tF tZ mP mN q (by first | omega | assumption)) (cwV 1 hts (gw_V k355 k357 k7 k27 k358) rfl rfl rfl (by decide +kernel) ⟨Nat.le_of_ble_eq_true rfl, Nat.le_of_ble_eq_true rfl⟩) hK hP (va_recv hK hP (ci := 4) (q0 := 0) rfl rfl) rfl hl.1 rfl (Nat.le_of_ble_eq_true rfl) dDB_port_6 ⟨Nat.zero_le _, Nat.zero_le _⟩ ?_
  refine lv_iload_n hx hb dDB_port_9 rfl (lv_at hl 2 rfl) ?_
  refine lv_icmp_ne (tgt := 15) hx hb dDB_port_10 (by decide) (fun c1 => ?_) (fun c1 => ?_)
  · have c1 : ¬ (fDB_isOn dO q) = b := fun q => c1 (by rw [q])
    refine lv_iload_n hx hb dDB_port_15 rfl (lv_at hl 2 rfl) ?_
    refine lv_if_eqb (tgt := 34) hx hb dDB_port_16 (by decide) (fun c2 => ?_) (fun c2 => ?_)
    · refine lv_aload_n hx hb dDB_port_34 rfl (lv_at hl 0 rfl) ?_
      refine lv_dup hx hb dDB_port_35 rfl ?_
      refine va_get (D := D) (ci := 4) (v := .int dO) (C := RDB) (T := TDB) (N := 9) hx hb hts inDB hown hK hP 0 rfl rfl 5 (by decide) (hts _ k133) (fun _ h9 => h9) rfl dDB_port_36 ?_
      refine lv_iconst (v := 1) hx hb dDB_port_39 (by decide) ?_
      refine lv_iload_n hx hb dDB_port_40 rfl (lv_at hl 1 rfl) ?_
      refine lv_ishl hx hb dDB_port_41 ?_
      refine lv_eqi (y := bI q) rfl ?_
      refine lv_iconst (v := (-1)) hx hb dDB_port_42 (by decide) ?_
      refine lv_ixor hx hb dDB_port_43 ?_
      refine lv_iand hx hb dDB_port_44 ?_
      refine va_put (D := D) (ci := 4) (v := .int (dO &&& ((bI q) ^^^ (-1)))) (ty := .int) (C := RDB) (T := TDB) (N := 9) hx hb hts inDB tyDB tyDB_ok nmDB hown hK hP (hA _) hS 0 rfl rfl 5 (by decide) (hts _ k133) (fun _ h9 => h9) rfl (by decide +kernel) rfl rfl (Nat.le_of_ble_eq_true rfl) dDB_port_45 (fun H locs hP _ hS => ?_)
      have hP : va_P D vwCl (wC cI cL a ((dI, dO &&& ((bI q) ^^^ (-1)), dG, dN, dT), (aN, aB), (nS, nP, nR, nG, nO, nU, nT), (tP, tR, tO, tN, tF, tZ), (mP, mN))) H := hP
      refine lv_aload_n hx hb dDB_port_48 rfl (lv_at hl 0 rfl) ?_
      refine lv_dup hx hb dDB_port_49 rfl ?_
      refine va_get (D := D) (ci := 4) (v := .int dG) (C := RDB) (T := TDB) (N := 9) hx hb hts inDB hown hK hP 0 rfl rfl 6 (by decide) (hts _ k134) (fun _ h9 => h9) rfl dDB_port_50 ?_
      refine lv_iconst (v := 1) hx hb dDB_port_53 (by decide) ?_
      refine lv_iload_n hx hb dDB_port_54 rfl (lv_at hl 1 rfl) ?_
      refine lv_ishl hx hb dDB_port_55 ?_
      refine lv_eqi (y := bI q) rfl ?_
      refine lv_iconst (v := (-1)) hx hb dDB_port_56 (by decide) ?_
      refine lv_ixor hx hb dDB_port_57 ?_
      refine lv_iand hx hb dDB_port_58 ?_
      refine va_put (D := D) (ci := 4) (v := .int (dG &&& ((bI q) ^^^ (-1)))) (ty := .int) (C := RDB) (T := TDB) (N := 9) hx hb hts inDB tyDB tyDB_ok nmDB hown hK hP (hA _) hS 0 rfl rfl 6 (by decide) (hts _ k134) (fun _ h9 => h9) rfl (by decide +kernel) rfl rfl (Nat.le_of_ble_eq_true rfl) dDB_port_59 (fun H locs hP _ hS => ?_)
      have hP : va_P D vwCl (wC cI cL a ((dI, dO &&& ((bI q) ^^^ (-1)), dG &&& ((bI q) ^^^ (-1)), dN, dT), (aN, aB), (nS, nP, nR, nG, nO, nU, nT), (tP, tR, tO, tN, tF, tZ), (mP, mN))) H := hP
      refine lv_aload_n hx hb dDB_port_62 rfl (lv_at hl 0 rfl) ?_
      refine va_get (D := D) (ci := 4) (v := .ref (a 4)) (C := RDB) (T := TDB) (N := 9) hx hb hts inDB hown hK hP 0 rfl rfl 2 (by decide) (hts _ k130) (fun _ h9 => h9) rfl dDB_port_63 ?_
      refine lv_iload_n hx hb dDB_port_66 rfl (lv_at hl 1 rfl) ?_
      refine g_callVv (As := [.int (nI q)]) (rest := []) ⟨hx, hb, hml, hown, hts⟩ (c_NB_dropPort l hA dI (dO &&& ((bI q) ^^^ (-1))) (dG &&& ((bI q) ^^^ (-1))) dN dT aN aB nS nP nR nG nO nU nT tP tR tO tN tF tZ mP mN (nI q)) (cwV 1 hts (gw_V k359 k360 k361 k29 k362) rfl rfl rfl (by decide +kernel) ⟨Nat.le_of_ble_eq_true rfl, Nat.le_of_ble_eq_true rfl⟩) hK hP (va_recv hK hP (ci := 2) (q0 := 4) rfl rfl) rfl hl.1 rfl (Nat.le_of_ble_eq_true rfl) dDB_port_67 ⟨Nat.zero_le _, Nat.zero_le _⟩ (fun q h => h) hS (fun H locs hP hS => ?_)
      have hP : va_P D vwCl (wC cI cL a ((dI, dO &&& ((bI q) ^^^ (-1)), dG &&& ((bI q) ^^^ (-1)), dN, dT), (aN, aB), ((LNB_dropPort nP (nI q) 16 0 nS nO nU).1, nP, nR, nG, (LNB_dropPort nP (nI q) 16 0 nS nO nU).2.1, (LNB_dropPort nP (nI q) 16 0 nS nO nU).2.2, nT), (tP, tR, tO, tN, tF, tZ), (mP, mN))) H := hP
      refine lv_iconst (v := bi true) hx hb dDB_port_70 (by decide) ?_
      have e1 : fDB_port dO dG nS nP nO nU q b = (true, dO &&& ((bI q) ^^^ (-1)), dG &&& ((bI q) ^^^ (-1)), (LNB_dropPort nP (nI q) 16 0 nS nO nU).1, (LNB_dropPort nP (nI q) 16 0 nS nO nU).2.1, (LNB_dropPort nP (nI q) 16 0 nS nO nU).2.2) := by first | (simp only [fDB_port, if_neg c1, cond_no c2]; done) | (simp only [fDB_port, if_neg c1]; simp only [cond_no c2])
      exact g_zret (v := ((dI, dO &&& ((bI q) ^^^ (-1)), dG &&& ((bI q) ^^^ (-1)), dN, dT), (aN, aB), ((LNB_dropPort nP (nI q) 16 0 nS nO nU).1, nP, nR, nG, (LNB_dropPort nP (nI q) 16 0 nS nO nU).2.1, (LNB_dropPort nP (nI q) 16 0 nS nO nU).2.2, nT), (tP, tR, tO, tN, tF, tZ), (mP, mN))) hx hb hr hK hP hS ⟨by first | rfl | (rw [e1] <;> rfl), by first | rfl | (rw [e1] <;> rfl)⟩ hlocks dDB_port_71
    · refine lv_aload_n hx hb dDB_port_19 rfl (lv_at hl 0 rfl) ?_
      refine lv_dup hx hb dDB_port_20 rfl ?_
      refine va_get (D := D) (ci := 4) (v := .int dO) (C := RDB) (T := TDB) (N := 9) hx hb hts inDB hown hK hP 0 rfl rfl 5 (by decide) (hts _ k133) (fun _ h9 => h9) rfl dDB_port_21 ?_
      refine lv_iconst (v := 1) hx hb dDB_port_24 (by decide) ?_
      refine lv_iload_n hx hb dDB_port_25 rfl (lv_at hl 1 rfl) ?_
      refine lv_ishl hx hb dDB_port_26 ?_
      refine lv_eqi (y := bI q) rfl ?_
      refine lv_ior hx hb dDB_port_27 ?_
      refine va_put (D := D) (ci := 4) (v := .int (dO ||| (bI q))) (ty := .int) (C := RDB) (T := TDB) (N := 9) hx hb hts inDB tyDB tyDB_ok nmDB hown hK hP (hA _) hS 0 rfl rfl 5 (by decide) (hts _ k133) (fun _ h9 => h9) rfl (by decide +kernel) rfl rfl (Nat.le_of_ble_eq_true rfl) dDB_port_28 (fun H locs hP _ hS => ?_)
      have hP : va_P D vwCl (wC cI cL a ((dI, dO ||| (bI q), dG, dN, dT), (aN, aB), (nS, nP, nR, nG, nO, nU, nT), (tP, tR, tO, tN, tF, tZ), (mP, mN))) H := hP
      refine lv_goto (tgt := 70) hx hb dDB_port_31 (by decide) ?_
      refine lv_iconst (v := bi true) hx hb dDB_port_70 (by decide) ?_
      have e1 : fDB_port dO dG nS nP nO nU q b = (true, dO ||| (bI q), dG, nS, nO, nU) := by first | (simp only [fDB_port, if_neg c1, cond_yes c2]; done) | (simp only [fDB_port, if_neg c1]; simp only [cond_yes c2])
      exact g_zret (v := ((dI, dO ||| (bI q), dG, dN, dT), (aN, aB), (nS, nP, nR, nG, nO, nU, nT), (tP, tR, tO, tN, tF, tZ), (mP, mN))) hx hb hr hK hP hS ⟨by first | rfl | (rw [e1] <;> rfl), by first | rfl | (rw [e1] <;> rfl)⟩ hlocks dDB_port_71
  · have c1 := bi_inj c1
    refine lv_iconst (v := bi false) hx hb dDB_port_13 (by decide) ?_
    have e1 : fDB_port dO dG nS nP nO nU q b = (false, dO, dG, nS, nO, nU) := by simp only [fDB_port, if_pos c1]
    exact g_zret (v := ((dI, dO, dG, dN, dT), (aN, aB), (nS, nP, nR, nG, nO, nU, nT), (tP, tR, tO, tN, tF, tZ), (mP, mN))) hx hb hr hK hP hS ⟨by first | rfl | (rw [e1] <;> rfl), by first | rfl | (rw [e1] <;> rfl)⟩ hlocks dDB_port_14
def fDB_greeting (dT : Int32) (aN : Nat → Int32) (nS : Nat → Int32) (nP : Nat → Int32) (nR : Nat → Int32) (nG : Nat → Int32) (nO : Nat → Int64) (nU : Nat → Int64) (q : Nat) (o : Nat) (b : Bool) : Int32 × (Nat → Int32) × (Nat → Int32) × (Nat → Int64) × (Nat → Int64) := (match (fNB_placeFor nS nP nR (nI q) (nI o)).1 with | none => (0, (fNB_placeFor nS nP nR (nI q) (nI o)).2.1, nG, nO, nU) | some k1 => ((fNB_greeted ((fNB_placeFor nS nP nR (nI q) (nI o)).2.1) nO nU k1 b (LAD_allOrigins aN 64 0 0)).1, (fNB_greeted ((fNB_placeFor nS nP nR (nI q) (nI o)).2.1) nO nU k1 b (LAD_allOrigins aN 64 0 0)).2.1, upd nG k1 dT, (fNB_greeted ((fNB_placeFor nS nP nR (nI q) (nI o)).2.1) nO nU k1 b (LAD_allOrigins aN 64 0 0)).2.2.1, (fNB_greeted ((fNB_placeFor nS nP nR (nI q) (nI o)).2.1) nO nU k1 b (LAD_allOrigins aN 64 0 0)).2.2.2))
set_option maxHeartbeats 4000000 in
set_option maxRecDepth 100000 in
theorem c_DB_greeting (l : Launch) {D : va_G} {cI cL : ClassId} {a : Nat → Nat} {A : Nat → Prop} (hA : ∀ v : CS, va_D A (wC cI cL a v)) (dI : Nat) (dO dG dN dT : Int32) (aN aB : Nat → Int32) (nS nP nR nG : Nat → Int32) (nO nU : Nat → Int64) (nT : Nat → Int32) (tP tR tO tN : Nat → Int32) (tF tZ : Nat) (mP : Nat → Int32) (mN : Int64) (q : Nat) (o : Nat) (b : Bool) (hq : q < 8) (ho : o < 64) (hne : ¬ o = dI) (hI : dI < 64) (hon : fDB_isOn dO q = true) : Met l yDB_greeting wsDB_greeting ({ frames := 2, cells := 0, slots := 0, locals := 48 }) (va_Pc [.ref (a 0), .int (nI q), .int (nI o), .int (bi b)] (gG D (tyC cI cL) (wC cI cL a) ((dI, dO, dG, dN, dT), (aN, aB), (nS, nP, nR, nG, nO, nU, nT), (tP, tR, tO, tN, tF, tZ), (mP, mN)))) (va_Qi (fun (r : Int32) (u : CS) => r = (fDB_greeting dT aN nS nP nR nG nO nU q o b).1 ∧ u = ((dI, dO, dG, dN, dT), (aN, aB), ((fDB_greeting dT aN nS nP nR nG nO nU q o b).2.1, (fNB_placeFor nS nP nR (nI q) (nI o)).2.2.1, (fNB_placeFor nS nP nR (nI q) (nI o)).2.2.2, (fDB_greeting dT aN nS nP nR nG nO nU q o b).2.2.1, (fDB_greeting dT aN nS nP nR nG nO nU q o b).2.2.2.1, (fDB_greeting dT aN nS nP nR nG nO nU q o b).2.2.2.2, nT), (tP, tR, tO, tN, tF, tZ), (mP, mN))) (gG D (tyC cI cL) (wC cI cL a)) A) 0 0 A := by
  refine g_enter (by decide) rfl (Nat.le_of_ble_eq_true rfl) ?_
  intro p e s m below meth c ls F hK hP hl
  obtain ⟨hx, hb, hr, hml, hown, hts, hlocks⟩ := id F
  have hS : va_S A s.heap s.heap [] := va_S.rf
  have hl : lv_has ls 5 [(0, .ref (a 0)), (1, .int (nI q)), (2, .int (nI o)), (3, .int (bi b))] := hl
  refine lv_iload_n hx hb dDB_greeting_0 rfl (lv_at hl 1 rfl) ?_
  refine g_roSv (As := [.int (nI q)]) (rest := []) ⟨hx, hb, hml, hown, hts⟩ (c_DB_requirePort l dI dO dG dN dT aN aB nS nP nR nG nO nU nT tP tR tO tN tF tZ mP mN q (by first | omega | assumption)) (cw_S 1 hts k285 k286 k27 k287 rfl rfl rfl (by decide +kernel) ⟨Nat.le_of_ble_eq_true rfl, Nat.le_of_ble_eq_true rfl⟩) hK hP rfl hl.1 rfl (Nat.le_of_ble_eq_true rfl) dDB_greeting_1 ⟨Nat.zero_le _, Nat.zero_le _⟩ ?_
  refine lv_aload_n hx hb dDB_greeting_4 rfl (lv_at hl 0 rfl) ?_
  refine lv_iload_n hx hb dDB_greeting_5 rfl (lv_at hl 2 rfl) ?_
  refine g_roVv (As := [.int (nI o)]) (rest := []) ⟨hx, hb, hml, hown, hts⟩ (c_DB_requireSender l dI dO dG dN dT aN aB nS nP nR nG nO nU nT tP tR tO tN tF tZ mP mN o (by first | omega | assumption) (by first | omega | assumption) (by first | omega | assumption)) (cwV 1 hts (gw_V k379 k381 k10 k27 k382) rfl rfl rfl (by decide +kernel) ⟨Nat.le_of_ble_eq_true rfl, Nat.le_of_ble_eq_true rfl⟩) hK hP (va_recv hK hP (ci := 4) (q0 := 0) rfl rfl) rfl hl.1 rfl (Nat.le_of_ble_eq_true rfl) dDB_greeting_6 ⟨Nat.zero_le _, Nat.zero_le _⟩ ?_
  refine lv_aload_n hx hb dDB_greeting_9 rfl (lv_at hl 0 rfl) ?_
  refine lv_iload_n hx hb dDB_greeting_10 rfl (lv_at hl 1 rfl) ?_
  refine g_roVv (As := [.int (nI q)]) (rest := []) ⟨hx, hb, hml, hown, hts⟩ (c_DB_requireOn l dI dO dG dN dT aN aB nS nP nR nG nO nU nT tP tR tO tN tF tZ mP mN q (by first | omega | assumption) (by first | omega | assumption)) (cwV 1 hts (gw_V k387 k389 k11 k27 k390) rfl rfl rfl (by decide +kernel) ⟨Nat.le_of_ble_eq_true rfl, Nat.le_of_ble_eq_true rfl⟩) hK hP (va_recv hK hP (ci := 4) (q0 := 0) rfl rfl) rfl hl.1 rfl (Nat.le_of_ble_eq_true rfl) dDB_greeting_11 ⟨Nat.zero_le _, Nat.zero_le _⟩ ?_
  refine lv_aload_n hx hb dDB_greeting_14 rfl (lv_at hl 0 rfl) ?_
  refine va_get (D := D) (ci := 4) (v := .ref (a 4)) (C := RDB) (T := TDB) (N := 9) hx hb hts inDB hown hK hP 0 rfl rfl 2 (by decide) (hts _ k130) (fun _ h9 => h9) rfl dDB_greeting_15 ?_
  refine lv_iload_n hx hb dDB_greeting_18 rfl (lv_at hl 1 rfl) ?_
  refine lv_iload_n hx hb dDB_greeting_19 rfl (lv_at hl 2 rfl) ?_
  refine g_callVi (As := [.int (nI q), .int (nI o)]) (rest := []) ⟨hx, hb, hml, hown, hts⟩ (c_NB_placeFor l hA dI dO dG dN dT aN aB nS nP nR nG nO nU nT tP tR tO tN tF tZ mP mN (nI q) (nI o)) (cwV 2 hts (gw_V k407 k408 k409 k29 k410) rfl rfl rfl (by decide +kernel) ⟨Nat.le_of_ble_eq_true rfl, Nat.le_of_ble_eq_true rfl⟩) hK hP (va_recv hK hP (ci := 2) (q0 := 4) rfl rfl) rfl hl.1 rfl (Nat.le_of_ble_eq_true rfl) dDB_greeting_20 ⟨Nat.zero_le _, Nat.zero_le _⟩ (fun q h => h) hS (fun H locs hP hS => ?_)
  have hP : va_P D vwCl (wC cI cL a ((dI, dO, dG, dN, dT), (aN, aB), ((fNB_placeFor nS nP nR (nI q) (nI o)).2.1, (fNB_placeFor nS nP nR (nI q) (nI o)).2.2.1, (fNB_placeFor nS nP nR (nI q) (nI o)).2.2.2, nG, nO, nU, nT), (tP, tR, tO, tN, tF, tZ), (mP, mN))) H := hP
  rcases ho2 : (fNB_placeFor nS nP nR (nI q) (nI o)).1 with _ | k1
  · refine lv_istore (lv' := [(4, .int (oi none)), (0, .ref (a 0)), (1, .int (nI q)), (2, .int (nI o)), (3, .int (bi b))]) hx hb dDB_greeting_23 hl (by decide) rfl (fun ls hl => ?_)
    refine lv_iload hx hb dDB_greeting_25 (lv_at hl 0 rfl) ?_
    refine lv_iconst (v := (-1)) hx hb dDB_greeting_27 (by decide) ?_
    refine lv_icmp_ne (tgt := 33) hx hb dDB_greeting_28 (by decide) (fun c0 => absurd rfl c0) (fun _ => ?_)
    refine lv_iconst (v := 0) hx hb dDB_greeting_31 (by decide) ?_
    have e1 : fDB_greeting dT aN nS nP nR nG nO nU q o b = (0, (fNB_placeFor nS nP nR (nI q) (nI o)).2.1, nG, nO, nU) := by simp only [fDB_greeting, ho2]
    exact g_iret (v := ((dI, dO, dG, dN, dT), (aN, aB), ((fNB_placeFor nS nP nR (nI q) (nI o)).2.1, (fNB_placeFor nS nP nR (nI q) (nI o)).2.2.1, (fNB_placeFor nS nP nR (nI q) (nI o)).2.2.2, nG, nO, nU, nT), (tP, tR, tO, tN, tF, tZ), (mP, mN))) hx hb hr hK hP hS ⟨by first | rfl | (rw [e1] <;> rfl), by first | rfl | (rw [e1] <;> rfl)⟩ hlocks dDB_greeting_32
  · have hk1 := c_NB_placeFor_lt ho2
    refine lv_istore (lv' := [(4, .int (nI k1)), (0, .ref (a 0)), (1, .int (nI q)), (2, .int (nI o)), (3, .int (bi b))]) hx hb dDB_greeting_23 hl (by decide) rfl (fun ls hl => ?_)
    refine lv_iload hx hb dDB_greeting_25 (lv_at hl 0 rfl) ?_
    refine lv_iconst (v := (-1)) hx hb dDB_greeting_27 (by decide) ?_
    refine lv_icmp_ne (tgt := 33) hx hb dDB_greeting_28 (by decide) (fun _ => ?_) (fun c0 => absurd c0 (nI_m1 (by omega)))
    refine lv_aload_n hx hb dDB_greeting_33 rfl (lv_at hl 1 rfl) ?_
    refine va_get (D := D) (ci := 4) (v := .ref (a 4)) (C := RDB) (T := TDB) (N := 9) hx hb hts inDB hown hK hP 0 rfl rfl 2 (by decide) (hts _ k130) (fun _ h9 => h9) rfl dDB_greeting_34 ?_
    refine lv_iload hx hb dDB_greeting_37 (lv_at hl 0 rfl) ?_
    refine lv_aload_n hx hb dDB_greeting_39 rfl (lv_at hl 1 rfl) ?_
    refine va_get (D := D) (ci := 4) (v := .int dT) (C := RDB) (T := TDB) (N := 9) hx hb hts inDB hown hK hP 0 rfl rfl 8 (by decide) (hts _ k136) (fun _ h9 => h9) rfl dDB_greeting_40 ?_
    refine lv_iload_n hx hb dDB_greeting_43 rfl (lv_at hl 4 rfl) ?_
    refine lv_aload_n hx hb dDB_greeting_44 rfl (lv_at hl 1 rfl) ?_
    refine va_get (D := D) (ci := 4) (v := .ref (a 1)) (C := RDB) (T := TDB) (N := 9) hx hb hts inDB hown hK hP 0 rfl rfl 1 (by decide) (hts _ k129) (fun _ h9 => h9) rfl dDB_greeting_45 ?_
    refine g_roVl (As := []) (rest := [.int (bi b), .int dT, .int (nI k1), .ref (a 4)]) ⟨hx, hb, hml, hown, hts⟩ (c_AD_allOrigins l dI dO dG dN dT aN aB ((fNB_placeFor nS nP nR (nI q) (nI o)).2.1) ((fNB_placeFor nS nP nR (nI q) (nI o)).2.2.1) ((fNB_placeFor nS nP nR (nI q) (nI o)).2.2.2) nG nO nU nT tP tR tO tN tF tZ mP mN) (cwV 0 hts (gw_V k419 k420 k421 k28 k422) rfl rfl rfl (by decide +kernel) ⟨Nat.le_of_ble_eq_true rfl, Nat.le_of_ble_eq_true rfl⟩) hK hP (va_recv hK hP (ci := 0) (q0 := 1) rfl rfl) rfl hl.1 rfl (Nat.le_of_ble_eq_true rfl) dDB_greeting_48 ⟨Nat.zero_le _, Nat.zero_le _⟩ ?_
    refine g_callVi (As := [.int (nI k1), .int dT, .int (bi b), .long (LAD_allOrigins aN 64 0 0)]) (rest := []) ⟨hx, hb, hml, hown, hts⟩ (c_NB_greeted l hA dI dO dG dN dT aN aB ((fNB_placeFor nS nP nR (nI q) (nI o)).2.1) ((fNB_placeFor nS nP nR (nI q) (nI o)).2.2.1) ((fNB_placeFor nS nP nR (nI q) (nI o)).2.2.2) nG nO nU nT tP tR tO tN tF tZ mP mN k1 dT b (LAD_allOrigins aN 64 0 0) (by first | omega | assumption)) (cwV 4 hts (gw_V k423 k424 k425 k29 k426) rfl rfl rfl (by decide +kernel) ⟨Nat.le_of_ble_eq_true rfl, Nat.le_of_ble_eq_true rfl⟩) hK hP (va_recv hK hP (ci := 2) (q0 := 4) rfl rfl) rfl hl.1 rfl (Nat.le_of_ble_eq_true rfl) dDB_greeting_51 ⟨Nat.zero_le _, Nat.zero_le _⟩ (fun q h => h) hS (fun H locs hP hS => ?_)
    have hP : va_P D vwCl (wC cI cL a ((dI, dO, dG, dN, dT), (aN, aB), ((fNB_greeted ((fNB_placeFor nS nP nR (nI q) (nI o)).2.1) nO nU k1 b (LAD_allOrigins aN 64 0 0)).2.1, (fNB_placeFor nS nP nR (nI q) (nI o)).2.2.1, (fNB_placeFor nS nP nR (nI q) (nI o)).2.2.2, upd nG k1 dT, (fNB_greeted ((fNB_placeFor nS nP nR (nI q) (nI o)).2.1) nO nU k1 b (LAD_allOrigins aN 64 0 0)).2.2.1, (fNB_greeted ((fNB_placeFor nS nP nR (nI q) (nI o)).2.1) nO nU k1 b (LAD_allOrigins aN 64 0 0)).2.2.2, nT), (tP, tR, tO, tN, tF, tZ), (mP, mN))) H := hP
    have e1 : fDB_greeting dT aN nS nP nR nG nO nU q o b = ((fNB_greeted ((fNB_placeFor nS nP nR (nI q) (nI o)).2.1) nO nU k1 b (LAD_allOrigins aN 64 0 0)).1, (fNB_greeted ((fNB_placeFor nS nP nR (nI q) (nI o)).2.1) nO nU k1 b (LAD_allOrigins aN 64 0 0)).2.1, upd nG k1 dT, (fNB_greeted ((fNB_placeFor nS nP nR (nI q) (nI o)).2.1) nO nU k1 b (LAD_allOrigins aN 64 0 0)).2.2.1, (fNB_greeted ((fNB_placeFor nS nP nR (nI q) (nI o)).2.1) nO nU k1 b (LAD_allOrigins aN 64 0 0)).2.2.2) := by simp only [fDB_greeting, ho2]
    exact g_iret (v := ((dI, dO, dG, dN, dT), (aN, aB), ((fNB_greeted ((fNB_placeFor nS nP nR (nI q) (nI o)).2.1) nO nU k1 b (LAD_allOrigins aN 64 0 0)).2.1, (fNB_placeFor nS nP nR (nI q) (nI o)).2.2.1, (fNB_placeFor nS nP nR (nI q) (nI o)).2.2.2, upd nG k1 dT, (fNB_greeted ((fNB_placeFor nS nP nR (nI q) (nI o)).2.1) nO nU k1 b (LAD_allOrigins aN 64 0 0)).2.2.1, (fNB_greeted ((fNB_placeFor nS nP nR (nI q) (nI o)).2.1) nO nU k1 b (LAD_allOrigins aN 64 0 0)).2.2.2, nT), (tP, tR, tO, tN, tF, tZ), (mP, mN))) hx hb hr hK hP hS ⟨by first | rfl | (rw [e1] <;> rfl), by first | rfl | (rw [e1] <;> rfl)⟩ hlocks dDB_greeting_54
def fDB_takeOwnBack (dI : Nat) (dN : Int32) (aN : Nat → Int32) (nO : Nat → Int64) (nU : Nat → Int64) (j : Nat) (x : Int32) : Int32 × Int32 × (Nat → Int64) × (Nat → Int64) := (if x ≤ dN then (if (aN dI) ≤ x then (1, dN, nO, nU) else (2, dN, vp_updL nO j ((nO j) ||| (bL dI)), vp_updL nU j ((nU j) ||| (bL dI)))) else (3, x, nO, nU))
set_option maxHeartbeats 4000000 in
set_option maxRecDepth 100000 in
theorem c_DB_takeOwnBack (l : Launch) {D : va_G} {cI cL : ClassId} {a : Nat → Nat} {A : Nat → Prop} (hA : ∀ v : CS, va_D A (wC cI cL a v)) (dI : Nat) (dO dG dN dT : Int32) (aN aB : Nat → Int32) (nS nP nR nG : Nat → Int32) (nO nU : Nat → Int64) (nT : Nat → Int32) (tP tR tO tN : Nat → Int32) (tF tZ : Nat) (mP : Nat → Int32) (mN : Int64) (j : Nat) (x : Int32) (hj : j < 16) (hI : dI < 64) : Met l yDB_takeOwnBack wsDB_takeOwnBack ({ frames := 1, cells := 0, slots := 0, locals := 22 }) (va_Pc [.ref (a 0), .int (nI j), .int x] (gG D (tyC cI cL) (wC cI cL a) ((dI, dO, dG, dN, dT), (aN, aB), (nS, nP, nR, nG, nO, nU, nT), (tP, tR, tO, tN, tF, tZ), (mP, mN)))) (va_Qi (fun (r : Int32) (u : CS) => r = (fDB_takeOwnBack dI dN aN nO nU j x).1 ∧ u = ((dI, dO, dG, (fDB_takeOwnBack dI dN aN nO nU j x).2.1, dT), (aN, aB), (nS, nP, nR, nG, (fDB_takeOwnBack dI dN aN nO nU j x).2.2.1, (fDB_takeOwnBack dI dN aN nO nU j x).2.2.2, nT), (tP, tR, tO, tN, tF, tZ), (mP, mN))) (gG D (tyC cI cL) (wC cI cL a)) A) 0 0 A := by
  refine g_enter (by decide) rfl (Nat.le_of_ble_eq_true rfl) ?_
  intro p e s m below meth c ls F hK hP hl
  obtain ⟨hx, hb, hr, hml, hown, hts, hlocks⟩ := id F
  have hS : va_S A s.heap s.heap [] := va_S.rf
  have hl : lv_has ls 3 [(0, .ref (a 0)), (1, .int (nI j)), (2, .int x)] := hl
  refine lv_iload_n hx hb dDB_takeOwnBack_0 rfl (lv_at hl 2 rfl) ?_
  refine lv_aload_n hx hb dDB_takeOwnBack_1 rfl (lv_at hl 0 rfl) ?_
  refine va_get (D := D) (ci := 4) (v := .int dN) (C := RDB) (T := TDB) (N := 9) hx hb hts inDB hown hK hP 0 rfl rfl 7 (by decide) (hts _ k135) (fun _ h9 => h9) rfl dDB_takeOwnBack_2 ?_
  refine lv_icmp_le (tgt := 15) hx hb dDB_takeOwnBack_5 (by decide) (fun c1 => ?_) (fun c1 => ?_)
  · refine lv_aload_n hx hb dDB_takeOwnBack_15 rfl (lv_at hl 0 rfl) ?_
    refine va_get (D := D) (ci := 4) (v := .ref (a 1)) (C := RDB) (T := TDB) (N := 9) hx hb hts inDB hown hK hP 0 rfl rfl 1 (by decide) (hts _ k129) (fun _ h9 => h9) rfl dDB_takeOwnBack_16 ?_
    refine lv_aload_n hx hb dDB_takeOwnBack_19 rfl (lv_at hl 0 rfl) ?_
    refine va_get (D := D) (ci := 4) (v := .int (nI dI)) (C := RDB) (T := TDB) (N := 9) hx hb hts inDB hown hK hP 0 rfl rfl 0 (by decide) (hts _ k128) (fun _ h9 => h9) rfl dDB_takeOwnBack_20 ?_
    refine g_roVi (As := [.int (nI dI)]) (rest := []) ⟨hx, hb, hml, hown, hts⟩ (c_AD_numberOf l dI dO dG dN dT aN aB nS nP nR nG nO nU nT tP tR tO tN tF tZ mP mN dI (by first | omega | assumption)) (cwV 1 hts (gw_V k242 k243 k244 k28 k245) rfl rfl rfl (by decide +kernel) ⟨Nat.le_of_ble_eq_true rfl, Nat.le_of_ble_eq_true rfl⟩) hK hP (va_recv hK hP (ci := 0) (q0 := 1) rfl rfl) rfl hl.1 rfl (Nat.le_of_ble_eq_true rfl) dDB_takeOwnBack_23 ⟨Nat.zero_le _, Nat.zero_le _⟩ ?_
    refine lv_iload_n hx hb dDB_takeOwnBack_26 rfl (lv_at hl 2 rfl) ?_
    refine lv_icmp_le (tgt := 44) hx hb dDB_takeOwnBack_27 (by decide) (fun c2 => ?_) (fun c2 => ?_)
    · refine lv_iconst (v := 1) hx hb dDB_takeOwnBack_44 (by decide) ?_
      have e1 : fDB_takeOwnBack dI dN aN nO nU j x = (1, dN, nO, nU) := by first | (simp only [fDB_takeOwnBack, if_pos c1, if_pos c2]; done) | (simp only [fDB_takeOwnBack, if_pos c1]; simp only [if_pos c2])
      exact g_iret (v := ((dI, dO, dG, dN, dT), (aN, aB), (nS, nP, nR, nG, nO, nU, nT), (tP, tR, tO, tN, tF, tZ), (mP, mN))) hx hb hr hK hP hS ⟨by first | rfl | (rw [e1] <;> rfl), by first | rfl | (rw [e1] <;> rfl)⟩ hlocks dDB_takeOwnBack_45
    · refine lv_aload_n hx hb dDB_takeOwnBack_30 rfl (lv_at hl 0 rfl) ?_
      refine va_get (D := D) (ci := 4) (v := .ref (a 4)) (C := RDB) (T := TDB) (N := 9) hx hb hts inDB hown hK hP 0 rfl rfl 2 (by decide) (hts _ k130) (fun _ h9 => h9) rfl dDB_takeOwnBack_31 ?_
      refine lv_iload_n hx hb dDB_takeOwnBack_34 rfl (lv_at hl 1 rfl) ?_
      refine lv_aload_n hx hb dDB_takeOwnBack_35 rfl (lv_at hl 0 rfl) ?_
      refine va_get (D := D) (ci := 4) (v := .int (nI dI)) (C := RDB) (T := TDB) (N := 9) hx hb hts inDB hown hK hP 0 rfl rfl 0 (by decide) (hts _ k128) (fun _ h9 => h9) rfl dDB_takeOwnBack_36 ?_
      refine g_callVv (As := [.int (nI j), .int (nI dI)]) (rest := []) ⟨hx, hb, hml, hown, hts⟩ (c_NB_owe l hA dI dO dG dN dT aN aB nS nP nR nG nO nU nT tP tR tO tN tF tZ mP mN j dI (by first | omega | assumption) (by first | omega | assumption)) (cwV 2 hts (gw_V k463 k169 k170 k29 k171) rfl rfl rfl (by decide +kernel) ⟨Nat.le_of_ble_eq_true rfl, Nat.le_of_ble_eq_true rfl⟩) hK hP (va_recv hK hP (ci := 2) (q0 := 4) rfl rfl) rfl hl.1 rfl (Nat.le_of_ble_eq_true rfl) dDB_takeOwnBack_39 ⟨Nat.zero_le _, Nat.zero_le _⟩ (fun q h => h) hS (fun H locs hP hS => ?_)
      have hP : va_P D vwCl (wC cI cL a ((dI, dO, dG, dN, dT), (aN, aB), (nS, nP, nR, nG, vp_updL nO j ((nO j) ||| (bL dI)), vp_updL nU j ((nU j) ||| (bL dI)), nT), (tP, tR, tO, tN, tF, tZ), (mP, mN))) H := hP
      refine lv_iconst (v := 2) hx hb dDB_takeOwnBack_42 (by decide) ?_
      have e1 : fDB_takeOwnBack dI dN aN nO nU j x = (2, dN, vp_updL nO j ((nO j) ||| (bL dI)), vp_updL nU j ((nU j) ||| (bL dI))) := by first | (simp only [fDB_takeOwnBack, if_pos c1, if_neg c2]; done) | (simp only [fDB_takeOwnBack, if_pos c1]; simp only [if_neg c2])
      exact g_iret (v := ((dI, dO, dG, dN, dT), (aN, aB), (nS, nP, nR, nG, vp_updL nO j ((nO j) ||| (bL dI)), vp_updL nU j ((nU j) ||| (bL dI)), nT), (tP, tR, tO, tN, tF, tZ), (mP, mN))) hx hb hr hK hP hS ⟨by first | rfl | (rw [e1] <;> rfl), by first | rfl | (rw [e1] <;> rfl)⟩ hlocks dDB_takeOwnBack_43
  · refine lv_aload_n hx hb dDB_takeOwnBack_8 rfl (lv_at hl 0 rfl) ?_
    refine lv_iload_n hx hb dDB_takeOwnBack_9 rfl (lv_at hl 2 rfl) ?_
    refine va_put (D := D) (ci := 4) (v := .int x) (ty := .int) (C := RDB) (T := TDB) (N := 9) hx hb hts inDB tyDB tyDB_ok nmDB hown hK hP (hA _) hS 0 rfl rfl 7 (by decide) (hts _ k135) (fun _ h9 => h9) rfl (by decide +kernel) rfl rfl (Nat.le_of_ble_eq_true rfl) dDB_takeOwnBack_10 (fun H locs hP _ hS => ?_)
    have hP : va_P D vwCl (wC cI cL a ((dI, dO, dG, x, dT), (aN, aB), (nS, nP, nR, nG, nO, nU, nT), (tP, tR, tO, tN, tF, tZ), (mP, mN))) H := hP
    refine lv_iconst (v := 3) hx hb dDB_takeOwnBack_13 (by decide) ?_
    have e1 : fDB_takeOwnBack dI dN aN nO nU j x = (3, x, nO, nU) := by simp only [fDB_takeOwnBack, if_neg c1]
    exact g_iret (v := ((dI, dO, dG, x, dT), (aN, aB), (nS, nP, nR, nG, nO, nU, nT), (tP, tR, tO, tN, tF, tZ), (mP, mN))) hx hb hr hK hP hS ⟨by first | rfl | (rw [e1] <;> rfl), by first | rfl | (rw [e1] <;> rfl)⟩ hlocks dDB_takeOwnBack_14
def fDB_takeAdvert (aN : Nat → Int32) (aB : Nat → Int32) (nS : Nat → Int32) (nO : Nat → Int64) (nU : Nat → Int64) (j : Nat) (o : Nat) (x : Int32) (y : Int32) : Int32 × (Nat → Int32) × (Nat → Int32) × (Nat → Int64) × (Nat → Int64) := (if x ≤ (aN o) then (if x = (aN o) then (1, aN, aB, nO, nU) else (2, aN, aB, vp_updL nO j ((nO j) ||| (bL o)), vp_updL nU j ((nU j) ||| (bL o)))) else (0, upd aN o x, upd aB o y, (LNB_oweToFriendsBut nS (some j) o 16 0 nO nU).1, (LNB_oweToFriendsBut nS (some j) o 16 0 nO nU).2))
set_option maxHeartbeats 4000000 in
set_option maxRecDepth 100000 in
theorem c_DB_takeAdvert (l : Launch) {D : va_G} {cI cL : ClassId} {a : Nat → Nat} {A : Nat → Prop} (hA : ∀ v : CS, va_D A (wC cI cL a v)) (dI : Nat) (dO dG dN dT : Int32) (aN aB : Nat → Int32) (nS nP nR nG : Nat → Int32) (nO nU : Nat → Int64) (nT : Nat → Int32) (tP tR tO tN : Nat → Int32) (tF tZ : Nat) (mP : Nat → Int32) (mN : Int64) (j : Nat) (o : Nat) (x : Int32) (y : Int32) (hj : j < 16) (ho : o < 64) : Met l yDB_takeAdvert wsDB_takeAdvert ({ frames := 2, cells := 0, slots := 0, locals := 45 }) (va_Pc [.ref (a 0), .int (nI j), .int (nI o), .int x, .int y] (gG D (tyC cI cL) (wC cI cL a) ((dI, dO, dG, dN, dT), (aN, aB), (nS, nP, nR, nG, nO, nU, nT), (tP, tR, tO, tN, tF, tZ), (mP, mN)))) (va_Qi (fun (r : Int32) (u : CS) => r = (fDB_takeAdvert aN aB nS nO nU j o x y).1 ∧ u = ((dI, dO, dG, dN, dT), ((fDB_takeAdvert aN aB nS nO nU j o x y).2.1, (fDB_takeAdvert aN aB nS nO nU j o x y).2.2.1), (nS, nP, nR, nG, (fDB_takeAdvert aN aB nS nO nU j o x y).2.2.2.1, (fDB_takeAdvert aN aB nS nO nU j o x y).2.2.2.2, nT), (tP, tR, tO, tN, tF, tZ), (mP, mN))) (gG D (tyC cI cL) (wC cI cL a)) A) 0 0 A := by
  refine g_enter (by decide) rfl (Nat.le_of_ble_eq_true rfl) ?_
  intro p e s m below meth c ls F hK hP hl
  obtain ⟨hx, hb, hr, hml, hown, hts, hlocks⟩ := id F
  have hS : va_S A s.heap s.heap [] := va_S.rf
  have hl : lv_has ls 6 [(0, .ref (a 0)), (1, .int (nI j)), (2, .int (nI o)), (3, .int x), (4, .int y)] := hl
  refine lv_aload_n hx hb dDB_takeAdvert_0 rfl (lv_at hl 0 rfl) ?_
  refine va_get (D := D) (ci := 4) (v := .ref (a 1)) (C := RDB) (T := TDB) (N := 9) hx hb hts inDB hown hK hP 0 rfl rfl 1 (by decide) (hts _ k129) (fun _ h9 => h9) rfl dDB_takeAdvert_1 ?_
  refine lv_iload_n hx hb dDB_takeAdvert_4 rfl (lv_at hl 2 rfl) ?_
  refine g_roVi (As := [.int (nI o)]) (rest := []) ⟨hx, hb, hml, hown, hts⟩ (c_AD_numberOf l dI dO dG dN dT aN aB nS nP nR nG nO nU nT tP tR tO tN tF tZ mP mN o (by first | omega | assumption)) (cwV 1 hts (gw_V k242 k243 k244 k28 k245) rfl rfl rfl (by decide +kernel) ⟨Nat.le_of_ble_eq_true rfl, Nat.le_of_ble_eq_true rfl⟩) hK hP (va_recv hK hP (ci := 0) (q0 := 1) rfl rfl) rfl hl.1 rfl (Nat.le_of_ble_eq_true rfl) dDB_takeAdvert_5 ⟨Nat.zero_le _, Nat.zero_le _⟩ ?_
  refine lv_istore (lv' := [(5, .int (aN o)), (0, .ref (a 0)), (1, .int (nI j)), (2, .int (nI o)), (3, .int x), (4, .int y)]) hx hb dDB_takeAdvert_8 hl (by decide) rfl (fun ls hl => ?_)
  refine lv_iload_n hx hb dDB_takeAdvert_10 rfl (lv_at hl 4 rfl) ?_
  refine lv_iload hx hb dDB_takeAdvert_11 (lv_at hl 0 rfl) ?_
  refine lv_icmp_le (tgt := 38) hx hb dDB_takeAdvert_13 (by decide) (fun c1 => ?_) (fun c1 => ?_)
  · refine lv_iload_n hx hb dDB_takeAdvert_38 rfl (lv_at hl 4 rfl) ?_
    refine lv_iload hx hb dDB_takeAdvert_39 (lv_at hl 0 rfl) ?_
    refine lv_icmp_ne (tgt := 46) hx hb dDB_takeAdvert_41 (by decide) (fun c2 => ?_) (fun c2 => ?_)
    · refine lv_aload_n hx hb dDB_takeAdvert_46 rfl (lv_at hl 1 rfl) ?_
      refine va_get (D := D) (ci := 4) (v := .ref (a 4)) (C := RDB) (T := TDB) (N := 9) hx hb hts inDB hown hK hP 0 rfl rfl 2 (by decide) (hts _ k130) (fun _ h9 => h9) rfl dDB_takeAdvert_47 ?_
      refine lv_iload_n hx hb dDB_takeAdvert_50 rfl (lv_at hl 2 rfl) ?_
      refine lv_iload_n hx hb dDB_takeAdvert_51 rfl (lv_at hl 3 rfl) ?_
      refine g_callVv (As := [.int (nI j), .int (nI o)]) (rest := []) ⟨hx, hb, hml, hown, hts⟩ (c_NB_owe l hA dI dO dG dN dT aN aB nS nP nR nG nO nU nT tP tR tO tN tF tZ mP mN j o (by first | omega | assumption) (by first | omega | assumption)) (cwV 2 hts (gw_V k463 k169 k170 k29 k171) rfl rfl rfl (by decide +kernel) ⟨Nat.le_of_ble_eq_true rfl, Nat.le_of_ble_eq_true rfl⟩) hK hP (va_recv hK hP (ci := 2) (q0 := 4) rfl rfl) rfl hl.1 rfl (Nat.le_of_ble_eq_true rfl) dDB_takeAdvert_52 ⟨Nat.zero_le _, Nat.zero_le _⟩ (fun q h => h) hS (fun H locs hP hS => ?_)
      have hP : va_P D vwCl (wC cI cL a ((dI, dO, dG, dN, dT), (aN, aB), (nS, nP, nR, nG, vp_updL nO j ((nO j) ||| (bL o)), vp_updL nU j ((nU j) ||| (bL o)), nT), (tP, tR, tO, tN, tF, tZ), (mP, mN))) H := hP
      refine lv_iconst (v := 2) hx hb dDB_takeAdvert_55 (by decide) ?_
      have e1 : fDB_takeAdvert aN aB nS nO nU j o x y = (2, aN, aB, vp_updL nO j ((nO j) ||| (bL o)), vp_updL nU j ((nU j) ||| (bL o))) := by first | (simp only [fDB_takeAdvert, if_pos c1, if_neg c2]; done) | (simp only [fDB_takeAdvert, if_pos c1]; simp only [if_neg c2])
      exact g_iret (v := ((dI, dO, dG, dN, dT), (aN, aB), (nS, nP, nR, nG, vp_updL nO j ((nO j) ||| (bL o)), vp_updL nU j ((nU j) ||| (bL o)), nT), (tP, tR, tO, tN, tF, tZ), (mP, mN))) hx hb hr hK hP hS ⟨by first | rfl | (rw [e1] <;> rfl), by first | rfl | (rw [e1] <;> rfl)⟩ hlocks dDB_takeAdvert_56
    · refine lv_iconst (v := 1) hx hb dDB_takeAdvert_44 (by decide) ?_
      have e1 : fDB_takeAdvert aN aB nS nO nU j o x y = (1, aN, aB, nO, nU) := by first | (simp only [fDB_takeAdvert, if_pos c1, if_pos c2]; done) | (simp only [fDB_takeAdvert, if_pos c1]; simp only [if_pos c2])
      exact g_iret (v := ((dI, dO, dG, dN, dT), (aN, aB), (nS, nP, nR, nG, nO, nU, nT), (tP, tR, tO, tN, tF, tZ), (mP, mN))) hx hb hr hK hP hS ⟨by first | rfl | (rw [e1] <;> rfl), by first | rfl | (rw [e1] <;> rfl)⟩ hlocks dDB_takeAdvert_45
  · refine lv_aload_n hx hb dDB_takeAdvert_16 rfl (lv_at hl 1 rfl) ?_
    refine va_get (D := D) (ci := 4) (v := .ref (a 1)) (C := RDB) (T := TDB) (N := 9) hx hb hts inDB hown hK hP 0 rfl rfl 1 (by decide) (hts _ k129) (fun _ h9 => h9) rfl dDB_takeAdvert_17 ?_
    refine lv_iload_n hx hb dDB_takeAdvert_20 rfl (lv_at hl 3 rfl) ?_
    refine lv_iload_n hx hb dDB_takeAdvert_21 rfl (lv_at hl 4 rfl) ?_
    refine lv_iload hx hb dDB_takeAdvert_22 (lv_at hl 5 rfl) ?_
    refine g_callVv (As := [.int (nI o), .int x, .int y]) (rest := []) ⟨hx, hb, hml, hown, hts⟩ (c_AD_put l hA dI dO dG dN dT aN aB nS nP nR nG nO nU nT tP tR tO tN tF tZ mP mN o x y (by first | omega | assumption)) (cwV 3 hts (gw_V k160 k161 k162 k28 k163) rfl rfl rfl (by decide +kernel) ⟨Nat.le_of_ble_eq_true rfl, Nat.le_of_ble_eq_true rfl⟩) hK hP (va_recv hK hP (ci := 0) (q0 := 1) rfl rfl) rfl hl.1 rfl (Nat.le_of_ble_eq_true rfl) dDB_takeAdvert_24 ⟨Nat.zero_le _, Nat.zero_le _⟩ (fun q h => h) hS (fun H locs hP hS => ?_)
    have hP : va_P D vwCl (wC cI cL a ((dI, dO, dG, dN, dT), (upd aN o x, upd aB o y), (nS, nP, nR, nG, nO, nU, nT), (tP, tR, tO, tN, tF, tZ), (mP, mN))) H := hP
    refine lv_aload_n hx hb dDB_takeAdvert_27 rfl (lv_at hl 1 rfl) ?_
    refine va_get (D := D) (ci := 4) (v := .ref (a 4)) (C := RDB) (T := TDB) (N := 9) hx hb hts inDB hown hK hP 0 rfl rfl 2 (by decide) (hts _ k130) (fun _ h9 => h9) rfl dDB_takeAdvert_28 ?_
    refine lv_iload_n hx hb dDB_takeAdvert_31 rfl (lv_at hl 2 rfl) ?_
    refine lv_iload_n hx hb dDB_takeAdvert_32 rfl (lv_at hl 3 rfl) ?_
    refine g_callVv (As := [.int (nI j), .int (nI o)]) (rest := []) ⟨hx, hb, hml, hown, hts⟩ (c_NB_oweToFriendsBut l hA dI dO dG dN dT (upd aN o x) (upd aB o y) nS nP nR nG nO nU nT tP tR tO tN tF tZ mP mN (some j) o (by first | omega | assumption)) (cwV 2 hts (gw_V k164 k165 k166 k29 k167) rfl rfl rfl (by decide +kernel) ⟨Nat.le_of_ble_eq_true rfl, Nat.le_of_ble_eq_true rfl⟩) hK hP (va_recv hK hP (ci := 2) (q0 := 4) rfl rfl) rfl hl.1 rfl (Nat.le_of_ble_eq_true rfl) dDB_takeAdvert_33 ⟨Nat.zero_le _, Nat.zero_le _⟩ (fun q h => h) hS (fun H locs hP hS => ?_)
    have hP : va_P D vwCl (wC cI cL a ((dI, dO, dG, dN, dT), (upd aN o x, upd aB o y), (nS, nP, nR, nG, (LNB_oweToFriendsBut nS (some j) o 16 0 nO nU).1, (LNB_oweToFriendsBut nS (some j) o 16 0 nO nU).2, nT), (tP, tR, tO, tN, tF, tZ), (mP, mN))) H := hP
    refine lv_iconst (v := 0) hx hb dDB_takeAdvert_36 (by decide) ?_
    have e1 : fDB_takeAdvert aN aB nS nO nU j o x y = (0, upd aN o x, upd aB o y, (LNB_oweToFriendsBut nS (some j) o 16 0 nO nU).1, (LNB_oweToFriendsBut nS (some j) o 16 0 nO nU).2) := by simp only [fDB_takeAdvert, if_neg c1]
    exact g_iret (v := ((dI, dO, dG, dN, dT), (upd aN o x, upd aB o y), (nS, nP, nR, nG, (LNB_oweToFriendsBut nS (some j) o 16 0 nO nU).1, (LNB_oweToFriendsBut nS (some j) o 16 0 nO nU).2, nT), (tP, tR, tO, tN, tF, tZ), (mP, mN))) hx hb hr hK hP hS ⟨by first | rfl | (rw [e1] <;> rfl), by first | rfl | (rw [e1] <;> rfl)⟩ hlocks dDB_takeAdvert_37
def fDB_advert (dI : Nat) (dN : Int32) (aN : Nat → Int32) (aB : Nat → Int32) (nS : Nat → Int32) (nP : Nat → Int32) (nR : Nat → Int32) (nO : Nat → Int64) (nU : Nat → Int64) (tP : Nat → Int32) (tR : Nat → Int32) (tO : Nat → Int32) (tN : Nat → Int32) (tF : Nat) (tZ : Nat) (q : Nat) (o : Nat) (g : Nat) (x : Int32) (y : Int32) : Int32 × Int32 × (Nat → Int32) × (Nat → Int32) × (Nat → Int64) × (Nat → Int64) × (Nat → Int32) × (Nat → Int32) × (Nat → Int32) × (Nat → Int32) × Nat := (match fNB_friendPlace nS nP nR (nI q) (nI o) with | none => ((-1), dN, aN, aB, nO, nU, tP, tR, tO, tN, tZ) | some k1 => (if x < (aN g) then (if g = dI then ((fDB_takeOwnBack dI dN aN nO nU k1 x).1, (fDB_takeOwnBack dI dN aN nO nU k1 x).2.1, aN, aB, (fDB_takeOwnBack dI dN aN nO nU k1 x).2.2.1, (fDB_takeOwnBack dI dN aN nO nU k1 x).2.2.2, (fTQ_add tP tR tO tN tF tZ (nI q) (nI o) (nI g) x).1, (fTQ_add tP tR tO tN tF tZ (nI q) (nI o) (nI g) x).2.1, (fTQ_add tP tR tO tN tF tZ (nI q) (nI o) (nI g) x).2.2.1, (fTQ_add tP tR tO tN tF tZ (nI q) (nI o) (nI g) x).2.2.2.1, (fTQ_add tP tR tO tN tF tZ (nI q) (nI o) (nI g) x).2.2.2.2) else ((fDB_takeAdvert aN aB nS nO nU k1 g x y).1, dN, (fDB_takeAdvert aN aB nS nO nU k1 g x y).2.1, (fDB_takeAdvert aN aB nS nO nU k1 g x y).2.2.1, (fDB_takeAdvert aN aB nS nO nU k1 g x y).2.2.2.1, (fDB_takeAdvert aN aB nS nO nU k1 g x y).2.2.2.2, (fTQ_add tP tR tO tN tF tZ (nI q) (nI o) (nI g) x).1, (fTQ_add tP tR tO tN tF tZ (nI q) (nI o) (nI g) x).2.1, (fTQ_add tP tR tO tN tF tZ (nI q) (nI o) (nI g) x).2.2.1, (fTQ_add tP tR tO tN tF tZ (nI q) (nI o) (nI g) x).2.2.2.1, (fTQ_add tP tR tO tN tF tZ (nI q) (nI o) (nI g) x).2.2.2.2)) else (if g = dI then ((fDB_takeOwnBack dI dN aN (vp_updL nO k1 ((nO k1) &&& ((bL g) ^^^ (-1)))) (vp_updL nU k1 ((nU k1) &&& ((bL g) ^^^ (-1)))) k1 x).1, (fDB_takeOwnBack dI dN aN (vp_updL nO k1 ((nO k1) &&& ((bL g) ^^^ (-1)))) (vp_updL nU k1 ((nU k1) &&& ((bL g) ^^^ (-1)))) k1 x).2.1, aN, aB, (fDB_takeOwnBack dI dN aN (vp_updL nO k1 ((nO k1) &&& ((bL g) ^^^ (-1)))) (vp_updL nU k1 ((nU k1) &&& ((bL g) ^^^ (-1)))) k1 x).2.2.1, (fDB_takeOwnBack dI dN aN (vp_updL nO k1 ((nO k1) &&& ((bL g) ^^^ (-1)))) (vp_updL nU k1 ((nU k1) &&& ((bL g) ^^^ (-1)))) k1 x).2.2.2, (fTQ_add tP tR tO tN tF tZ (nI q) (nI o) (nI g) x).1, (fTQ_add tP tR tO tN tF tZ (nI q) (nI o) (nI g) x).2.1, (fTQ_add tP tR tO tN tF tZ (nI q) (nI o) (nI g) x).2.2.1, (fTQ_add tP tR tO tN tF tZ (nI q) (nI o) (nI g) x).2.2.2.1, (fTQ_add tP tR tO tN tF tZ (nI q) (nI o) (nI g) x).2.2.2.2) else ((fDB_takeAdvert aN aB nS (vp_updL nO k1 ((nO k1) &&& ((bL g) ^^^ (-1)))) (vp_updL nU k1 ((nU k1) &&& ((bL g) ^^^ (-1)))) k1 g x y).1, dN, (fDB_takeAdvert aN aB nS (vp_updL nO k1 ((nO k1) &&& ((bL g) ^^^ (-1)))) (vp_updL nU k1 ((nU k1) &&& ((bL g) ^^^ (-1)))) k1 g x y).2.1, (fDB_takeAdvert aN aB nS (vp_updL nO k1 ((nO k1) &&& ((bL g) ^^^ (-1)))) (vp_updL nU k1 ((nU k1) &&& ((bL g) ^^^ (-1)))) k1 g x y).2.2.1, (fDB_takeAdvert aN aB nS (vp_updL nO k1 ((nO k1) &&& ((bL g) ^^^ (-1)))) (vp_updL nU k1 ((nU k1) &&& ((bL g) ^^^ (-1)))) k1 g x y).2.2.2.1, (fDB_takeAdvert aN aB nS (vp_updL nO k1 ((nO k1) &&& ((bL g) ^^^ (-1)))) (vp_updL nU k1 ((nU k1) &&& ((bL g) ^^^ (-1)))) k1 g x y).2.2.2.2, (fTQ_add tP tR tO tN tF tZ (nI q) (nI o) (nI g) x).1, (fTQ_add tP tR tO tN tF tZ (nI q) (nI o) (nI g) x).2.1, (fTQ_add tP tR tO tN tF tZ (nI q) (nI o) (nI g) x).2.2.1, (fTQ_add tP tR tO tN tF tZ (nI q) (nI o) (nI g) x).2.2.2.1, (fTQ_add tP tR tO tN tF tZ (nI q) (nI o) (nI g) x).2.2.2.2))))
set_option maxHeartbeats 4000000 in
set_option maxRecDepth 100000 in
theorem c_DB_advert (l : Launch) {D : va_G} {cI cL : ClassId} {a : Nat → Nat} {A : Nat → Prop} (hA : ∀ v : CS, va_D A (wC cI cL a v)) (dI : Nat) (dO dG dN dT : Int32) (aN aB : Nat → Int32) (nS nP nR nG : Nat → Int32) (nO nU : Nat → Int64) (nT : Nat → Int32) (tP tR tO tN : Nat → Int32) (tF tZ : Nat) (mP : Nat → Int32) (mN : Int64) (q : Nat) (o : Nat) (g : Nat) (x : Int32) (y : Int32) (hq : q < 8) (ho : o < 64) (hne : ¬ o = dI) (hI : dI < 64) (hg : g < 64) (h1 : ¬ x < 1) (h2 : x ≤ 1000000000) (hon : fDB_isOn dO q = true) (hF : tF < 64) (hZ : tZ ≤ 64) : Met l yDB_advert wsDB_advert ({ frames := 3, cells := 0, slots := 0, locals := 70 }) (va_Pc [.ref (a 0), .int (nI q), .int (nI o), .int (nI g), .int x, .int y] (gG D (tyC cI cL) (wC cI cL a) ((dI, dO, dG, dN, dT), (aN, aB), (nS, nP, nR, nG, nO, nU, nT), (tP, tR, tO, tN, tF, tZ), (mP, mN)))) (va_Qi (fun (r : Int32) (u : CS) => r = (fDB_advert dI dN aN aB nS nP nR nO nU tP tR tO tN tF tZ q o g x y).1 ∧ u = ((dI, dO, dG, (fDB_advert dI dN aN aB nS nP nR nO nU tP tR tO tN tF tZ q o g x y).2.1, dT), ((fDB_advert dI dN aN aB nS nP nR nO nU tP tR tO tN tF tZ q o g x y).2.2.1, (fDB_advert dI dN aN aB nS nP nR nO nU tP tR tO tN tF tZ q o g x y).2.2.2.1), (nS, nP, nR, nG, (fDB_advert dI dN aN aB nS nP nR nO nU tP tR tO tN tF tZ q o g x y).2.2.2.2.1, (fDB_advert dI dN aN aB nS nP nR nO nU tP tR tO tN tF tZ q o g x y).2.2.2.2.2.1, nT), ((fDB_advert dI dN aN aB nS nP nR nO nU tP tR tO tN tF tZ q o g x y).2.2.2.2.2.2.1, (fDB_advert dI dN aN aB nS nP nR nO nU tP tR tO tN tF tZ q o g x y).2.2.2.2.2.2.2.1, (fDB_advert dI dN aN aB nS nP nR nO nU tP tR tO tN tF tZ q o g x y).2.2.2.2.2.2.2.2.1, (fDB_advert dI dN aN aB nS nP nR nO nU tP tR tO tN tF tZ q o g x y).2.2.2.2.2.2.2.2.2.1, tF, (fDB_advert dI dN aN aB nS nP nR nO nU tP tR tO tN tF tZ q o g x y).2.2.2.2.2.2.2.2.2.2), (mP, mN))) (gG D (tyC cI cL) (wC cI cL a)) A) 0 0 A := by
  refine g_enter (by decide) rfl (Nat.le_of_ble_eq_true rfl) ?_
  intro p e s m below meth c ls F hK hP hl
  obtain ⟨hx, hb, hr, hml, hown, hts, hlocks⟩ := id F
  have hS : va_S A s.heap s.heap [] := va_S.rf
  have hl : lv_has ls 7 [(0, .ref (a 0)), (1, .int (nI q)), (2, .int (nI o)), (3, .int (nI g)), (4, .int x), (5, .int y)] := hl
  refine lv_aload_n hx hb dDB_advert_0 rfl (lv_at hl 0 rfl) ?_
  refine lv_iload_n hx hb dDB_advert_1 rfl (lv_at hl 1 rfl) ?_
  refine lv_iload_n hx hb dDB_advert_2 rfl (lv_at hl 2 rfl) ?_
  refine lv_iload_n hx hb dDB_advert_3 rfl (lv_at hl 3 rfl) ?_
  refine lv_iload hx hb dDB_advert_4 (lv_at hl 4 rfl) ?_
  refine g_roVv (As := [.int (nI q), .int (nI o), .int (nI g), .int x]) (rest := []) ⟨hx, hb, hml, hown, hts⟩ (c_DB_requireLegal l dI dO dG dN dT aN aB nS nP nR nG nO nU nT tP tR tO tN tF tZ mP mN q o g x (by first | omega | assumption) (by first | omega | assumption) (by first | omega | assumption) (by first | omega | assumption) (by first | omega | assumption) (by first | omega | assumption) (by first | omega | assumption) (by first | omega | assumption)) (cwV 4 hts (gw_V k434 k436 k14 k27 k437) rfl rfl rfl (by decide +kernel) ⟨Nat.le_of_ble_eq_true rfl, Nat.le_of_ble_eq_true rfl⟩) hK hP (va_recv hK hP (ci := 4) (q0 := 0) rfl rfl) rfl hl.1 rfl (Nat.le_of_ble_eq_true rfl) dDB_advert_6 ⟨Nat.zero_le _, Nat.zero_le _⟩ ?_
  refine lv_aload_n hx hb dDB_advert_9 rfl (lv_at hl 0 rfl) ?_
  refine va_get (D := D) (ci := 4) (v := .ref (a 4)) (C := RDB) (T := TDB) (N := 9) hx hb hts inDB hown hK hP 0 rfl rfl 2 (by decide) (hts _ k130) (fun _ h9 => h9) rfl dDB_advert_10 ?_
  refine lv_iload_n hx hb dDB_advert_13 rfl (lv_at hl 1 rfl) ?_
  refine lv_iload_n hx hb dDB_advert_14 rfl (lv_at hl 2 rfl) ?_
  refine g_roVi (As := [.int (nI q), .int (nI o)]) (rest := []) ⟨hx, hb, hml, hown, hts⟩ (c_NB_friendPlace l dI dO dG dN dT aN aB nS nP nR nG nO nU nT tP tR tO tN tF tZ mP mN (nI q) (nI o)) (cwV 2 hts (gw_V k447 k448 k449 k29 k450) rfl rfl rfl (by decide +kernel) ⟨Nat.le_of_ble_eq_true rfl, Nat.le_of_ble_eq_true rfl⟩) hK hP (va_recv hK hP (ci := 2) (q0 := 4) rfl rfl) rfl hl.1 rfl (Nat.le_of_ble_eq_true rfl) dDB_advert_15 ⟨Nat.zero_le _, Nat.zero_le _⟩ ?_
  rcases ho2 : fNB_friendPlace nS nP nR (nI q) (nI o) with _ | k1
  · refine lv_istore (lv' := [(6, .int (oi none)), (0, .ref (a 0)), (1, .int (nI q)), (2, .int (nI o)), (3, .int (nI g)), (4, .int x), (5, .int y)]) hx hb dDB_advert_18 hl (by decide) rfl (fun ls hl => ?_)
    refine lv_iload hx hb dDB_advert_20 (lv_at hl 0 rfl) ?_
    refine lv_iconst (v := (-1)) hx hb dDB_advert_22 (by decide) ?_
    refine lv_icmp_ne (tgt := 28) hx hb dDB_advert_23 (by decide) (fun c0 => absurd rfl c0) (fun _ => ?_)
    refine lv_iconst (v := (-1)) hx hb dDB_advert_26 (by decide) ?_
    have e1 : fDB_advert dI dN aN aB nS nP nR nO nU tP tR tO tN tF tZ q o g x y = ((-1), dN, aN, aB, nO, nU, tP, tR, tO, tN, tZ) := by simp only [fDB_advert, ho2]
    exact g_iret (v := ((dI, dO, dG, dN, dT), (aN, aB), (nS, nP, nR, nG, nO, nU, nT), (tP, tR, tO, tN, tF, tZ), (mP, mN))) hx hb hr hK hP hS ⟨by first | rfl | (rw [e1] <;> rfl), by first | rfl | (rw [e1] <;> rfl)⟩ hlocks dDB_advert_27
  · have hk1 := c_NB_friendPlace_lt ho2
    refine lv_istore (lv' := [(6, .int (nI k1)), (0, .ref (a 0)), (1, .int (nI q)), (2, .int (nI o)), (3, .int (nI g)), (4, .int x), (5, .int y)]) hx hb dDB_advert_18 hl (by decide) rfl (fun ls hl => ?_)
    refine lv_iload hx hb dDB_advert_20 (lv_at hl 0 rfl) ?_
    refine lv_iconst (v := (-1)) hx hb dDB_advert_22 (by decide) ?_
    refine lv_icmp_ne (tgt := 28) hx hb dDB_advert_23 (by decide) (fun _ => ?_) (fun c0 => absurd c0 (nI_m1 (by omega)))
    refine lv_aload_n hx hb dDB_advert_28 rfl (lv_at hl 1 rfl) ?_
    refine va_get (D := D) (ci := 4) (v := .ref (a 12)) (C := RDB) (T := TDB) (N := 9) hx hb hts inDB hown hK hP 0 rfl rfl 3 (by decide) (hts _ k131) (fun _ h9 => h9) rfl dDB_advert_29 ?_
    refine lv_iload_n hx hb dDB_advert_32 rfl (lv_at hl 2 rfl) ?_
    refine lv_iload_n hx hb dDB_advert_33 rfl (lv_at hl 3 rfl) ?_
    refine lv_iload_n hx hb dDB_advert_34 rfl (lv_at hl 4 rfl) ?_
    refine lv_iload hx hb dDB_advert_35 (lv_at hl 5 rfl) ?_
    refine g_callVv (As := [.int (nI q), .int (nI o), .int (nI g), .int x]) (rest := []) ⟨hx, hb, hml, hown, hts⟩ (c_TQ_add l hA dI dO dG dN dT aN aB nS nP nR nG nO nU nT tP tR tO tN tF tZ mP mN (nI q) (nI o) (nI g) x (by first | omega | assumption) (by first | omega | assumption)) (cwV 4 hts (gw_V k451 k452 k453 k30 k454) rfl rfl rfl (by decide +kernel) ⟨Nat.le_of_ble_eq_true rfl, Nat.le_of_ble_eq_true rfl⟩) hK hP (va_recv hK hP (ci := 3) (q0 := 12) rfl rfl) rfl hl.1 rfl (Nat.le_of_ble_eq_true rfl) dDB_advert_37 ⟨Nat.zero_le _, Nat.zero_le _⟩ (fun q h => h) hS (fun H locs hP hS => ?_)
    have hP : va_P D vwCl (wC cI cL a ((dI, dO, dG, dN, dT), (aN, aB), (nS, nP, nR, nG, nO, nU, nT), ((fTQ_add tP tR tO tN tF tZ (nI q) (nI o) (nI g) x).1, (fTQ_add tP tR tO tN tF tZ (nI q) (nI o) (nI g) x).2.1, (fTQ_add tP tR tO tN tF tZ (nI q) (nI o) (nI g) x).2.2.1, (fTQ_add tP tR tO tN tF tZ (nI q) (nI o) (nI g) x).2.2.2.1, tF, (fTQ_add tP tR tO tN tF tZ (nI q) (nI o) (nI g) x).2.2.2.2), (mP, mN))) H := hP
    refine lv_iload hx hb dDB_advert_40 (lv_at hl 5 rfl) ?_
    refine lv_aload_n hx hb dDB_advert_42 rfl (lv_at hl 1 rfl) ?_
    refine va_get (D := D) (ci := 4) (v := .ref (a 1)) (C := RDB) (T := TDB) (N := 9) hx hb hts inDB hown hK hP 0 rfl rfl 1 (by decide) (hts _ k129) (fun _ h9 => h9) rfl dDB_advert_43 ?_
    refine lv_iload_n hx hb dDB_advert_46 rfl (lv_at hl 4 rfl) ?_
    refine g_roVi (As := [.int (nI g)]) (rest := [.int x]) ⟨hx, hb, hml, hown, hts⟩ (c_AD_numberOf l dI dO dG dN dT aN aB nS nP nR nG nO nU nT ((fTQ_add tP tR tO tN tF tZ (nI q) (nI o) (nI g) x).1) ((fTQ_add tP tR tO tN tF tZ (nI q) (nI o) (nI g) x).2.1) ((fTQ_add tP tR tO tN tF tZ (nI q) (nI o) (nI g) x).2.2.1) ((fTQ_add tP tR tO tN tF tZ (nI q) (nI o) (nI g) x).2.2.2.1) tF ((fTQ_add tP tR tO tN tF tZ (nI q) (nI o) (nI g) x).2.2.2.2) mP mN g (by first | omega | assumption)) (cwV 1 hts (gw_V k242 k243 k244 k28 k245) rfl rfl rfl (by decide +kernel) ⟨Nat.le_of_ble_eq_true rfl, Nat.le_of_ble_eq_true rfl⟩) hK hP (va_recv hK hP (ci := 0) (q0 := 1) rfl rfl) rfl hl.1 rfl (Nat.le_of_ble_eq_true rfl) dDB_advert_47 ⟨Nat.zero_le _, Nat.zero_le _⟩ ?_
    refine lv_icmp_lt (tgt := 64) hx hb dDB_advert_50 (by decide) (fun c5 => ?_) (fun c5 => ?_)
    · refine lv_iload_n hx hb dDB_advert_64 rfl (lv_at hl 4 rfl) ?_
      refine lv_aload_n hx hb dDB_advert_65 rfl (lv_at hl 1 rfl) ?_
      refine va_get (D := D) (ci := 4) (v := .int (nI dI)) (C := RDB) (T := TDB) (N := 9) hx hb hts inDB hown hK hP 0 rfl rfl 0 (by decide) (hts _ k128) (fun _ h9 => h9) rfl dDB_advert_66 ?_
      refine lv_icmp_ne (tgt := 81) hx hb dDB_advert_69 (by decide) (fun c6 => ?_) (fun c6 => ?_)
      · have c6 : ¬ g = dI := fun q => c6 ((nI_eq (a := g) (b := dI) (by omega) (by omega)).mpr q)
        refine lv_aload_n hx hb dDB_advert_81 rfl (lv_at hl 1 rfl) ?_
        refine lv_iload hx hb dDB_advert_82 (lv_at hl 0 rfl) ?_
        refine lv_iload_n hx hb dDB_advert_84 rfl (lv_at hl 4 rfl) ?_
        refine lv_iload hx hb dDB_advert_85 (lv_at hl 5 rfl) ?_
        refine lv_iload hx hb dDB_advert_87 (lv_at hl 6 rfl) ?_
        refine g_callVi (As := [.int (nI k1), .int (nI g), .int x, .int y]) (rest := []) ⟨hx, hb, hml, hown, hts⟩ (c_DB_takeAdvert l hA dI dO dG dN dT aN aB nS nP nR nG nO nU nT ((fTQ_add tP tR tO tN tF tZ (nI q) (nI o) (nI g) x).1) ((fTQ_add tP tR tO tN tF tZ (nI q) (nI o) (nI g) x).2.1) ((fTQ_add tP tR tO tN tF tZ (nI q) (nI o) (nI g) x).2.2.1) ((fTQ_add tP tR tO tN tF tZ (nI q) (nI o) (nI g) x).2.2.2.1) tF ((fTQ_add tP tR tO tN tF tZ (nI q) (nI o) (nI g) x).2.2.2.2) mP mN k1 g x y (by first | omega | assumption) (by first | omega | assumption)) (cwV 4 hts (gw_V k464 k466 k16 k27 k467) rfl rfl rfl (by decide +kernel) ⟨Nat.le_of_ble_eq_true rfl, Nat.le_of_ble_eq_true rfl⟩) hK hP (va_recv hK hP (ci := 4) (q0 := 0) rfl rfl) rfl hl.1 rfl (Nat.le_of_ble_eq_true rfl) dDB_advert_89 ⟨Nat.zero_le _, Nat.zero_le _⟩ (fun q h => h) hS (fun H locs hP hS => ?_)
        have hP : va_P D vwCl (wC cI cL a ((dI, dO, dG, dN, dT), ((fDB_takeAdvert aN aB nS nO nU k1 g x y).2.1, (fDB_takeAdvert aN aB nS nO nU k1 g x y).2.2.1), (nS, nP, nR, nG, (fDB_takeAdvert aN aB nS nO nU k1 g x y).2.2.2.1, (fDB_takeAdvert aN aB nS nO nU k1 g x y).2.2.2.2, nT), ((fTQ_add tP tR tO tN tF tZ (nI q) (nI o) (nI g) x).1, (fTQ_add tP tR tO tN tF tZ (nI q) (nI o) (nI g) x).2.1, (fTQ_add tP tR tO tN tF tZ (nI q) (nI o) (nI g) x).2.2.1, (fTQ_add tP tR tO tN tF tZ (nI q) (nI o) (nI g) x).2.2.2.1, tF, (fTQ_add tP tR tO tN tF tZ (nI q) (nI o) (nI g) x).2.2.2.2), (mP, mN))) H := hP
        have e1 : fDB_advert dI dN aN aB nS nP nR nO nU tP tR tO tN tF tZ q o g x y = ((fDB_takeAdvert aN aB nS nO nU k1 g x y).1, dN, (fDB_takeAdvert aN aB nS nO nU k1 g x y).2.1, (fDB_takeAdvert aN aB nS nO nU k1 g x y).2.2.1, (fDB_takeAdvert aN aB nS nO nU k1 g x y).2.2.2.1, (fDB_takeAdvert aN aB nS nO nU k1 g x y).2.2.2.2, (fTQ_add tP tR tO tN tF tZ (nI q) (nI o) (nI g) x).1, (fTQ_add tP tR tO tN tF tZ (nI q) (nI o) (nI g) x).2.1, (fTQ_add tP tR tO tN tF tZ (nI q) (nI o) (nI g) x).2.2.1, (fTQ_add tP tR tO tN tF tZ (nI q) (nI o) (nI g) x).2.2.2.1, (fTQ_add tP tR tO tN tF tZ (nI q) (nI o) (nI g) x).2.2.2.2) := by first | (simp only [fDB_advert, ho2, if_pos c5, if_neg c6]; done) | (simp only [fDB_advert, ho2]; simp only [if_pos c5]; simp only [if_neg c6])
        exact g_iret (v := ((dI, dO, dG, dN, dT), ((fDB_takeAdvert aN aB nS nO nU k1 g x y).2.1, (fDB_takeAdvert aN aB nS nO nU k1 g x y).2.2.1), (nS, nP, nR, nG, (fDB_takeAdvert aN aB nS nO nU k1 g x y).2.2.2.1, (fDB_takeAdvert aN aB nS nO nU k1 g x y).2.2.2.2, nT), ((fTQ_add tP tR tO tN tF tZ (nI q) (nI o) (nI g) x).1, (fTQ_add tP tR tO tN tF tZ (nI q) (nI o) (nI g) x).2.1, (fTQ_add tP tR tO tN tF tZ (nI q) (nI o) (nI g) x).2.2.1, (fTQ_add tP tR tO tN tF tZ (nI q) (nI o) (nI g) x).2.2.2.1, tF, (fTQ_add tP tR tO tN tF tZ (nI q) (nI o) (nI g) x).2.2.2.2), (mP, mN))) hx hb hr hK hP hS ⟨by first | rfl | (rw [e1] <;> rfl), by first | rfl | (rw [e1] <;> rfl)⟩ hlocks dDB_advert_92
      · have c6 := (nI_eq (a := g) (b := dI) (by omega) (by omega)).mp c6
        refine lv_aload_n hx hb dDB_advert_72 rfl (lv_at hl 1 rfl) ?_
        refine lv_iload hx hb dDB_advert_73 (lv_at hl 0 rfl) ?_
        refine lv_iload hx hb dDB_advert_75 (lv_at hl 5 rfl) ?_
        refine g_callVi (As := [.int (nI k1), .int x]) (rest := []) ⟨hx, hb, hml, hown, hts⟩ (c_DB_takeOwnBack l hA dI dO dG dN dT aN aB nS nP nR nG nO nU nT ((fTQ_add tP tR tO tN tF tZ (nI q) (nI o) (nI g) x).1) ((fTQ_add tP tR tO tN tF tZ (nI q) (nI o) (nI g) x).2.1) ((fTQ_add tP tR tO tN tF tZ (nI q) (nI o) (nI g) x).2.2.1) ((fTQ_add tP tR tO tN tF tZ (nI q) (nI o) (nI g) x).2.2.2.1) tF ((fTQ_add tP tR tO tN tF tZ (nI q) (nI o) (nI g) x).2.2.2.2) mP mN k1 x (by first | omega | assumption) (by first | omega | assumption)) (cwV 2 hts (gw_V k459 k461 k15 k27 k462) rfl rfl rfl (by decide +kernel) ⟨Nat.le_of_ble_eq_true rfl, Nat.le_of_ble_eq_true rfl⟩) hK hP (va_recv hK hP (ci := 4) (q0 := 0) rfl rfl) rfl hl.1 rfl (Nat.le_of_ble_eq_true rfl) dDB_advert_77 ⟨Nat.zero_le _, Nat.zero_le _⟩ (fun q h => h) hS (fun H locs hP hS => ?_)
        have hP : va_P D vwCl (wC cI cL a ((dI, dO, dG, (fDB_takeOwnBack dI dN aN nO nU k1 x).2.1, dT), (aN, aB), (nS, nP, nR, nG, (fDB_takeOwnBack dI dN aN nO nU k1 x).2.2.1, (fDB_takeOwnBack dI dN aN nO nU k1 x).2.2.2, nT), ((fTQ_add tP tR tO tN tF tZ (nI q) (nI o) (nI g) x).1, (fTQ_add tP tR tO tN tF tZ (nI q) (nI o) (nI g) x).2.1, (fTQ_add tP tR tO tN tF tZ (nI q) (nI o) (nI g) x).2.2.1, (fTQ_add tP tR tO tN tF tZ (nI q) (nI o) (nI g) x).2.2.2.1, tF, (fTQ_add tP tR tO tN tF tZ (nI q) (nI o) (nI g) x).2.2.2.2), (mP, mN))) H := hP
        have e1 : fDB_advert dI dN aN aB nS nP nR nO nU tP tR tO tN tF tZ q o g x y = ((fDB_takeOwnBack dI dN aN nO nU k1 x).1, (fDB_takeOwnBack dI dN aN nO nU k1 x).2.1, aN, aB, (fDB_takeOwnBack dI dN aN nO nU k1 x).2.2.1, (fDB_takeOwnBack dI dN aN nO nU k1 x).2.2.2, (fTQ_add tP tR tO tN tF tZ (nI q) (nI o) (nI g) x).1, (fTQ_add tP tR tO tN tF tZ (nI q) (nI o) (nI g) x).2.1, (fTQ_add tP tR tO tN tF tZ (nI q) (nI o) (nI g) x).2.2.1, (fTQ_add tP tR tO tN tF tZ (nI q) (nI o) (nI g) x).2.2.2.1, (fTQ_add tP tR tO tN tF tZ (nI q) (nI o) (nI g) x).2.2.2.2) := by first | (simp only [fDB_advert, ho2, if_pos c5, if_pos c6]; done) | (simp only [fDB_advert, ho2]; simp only [if_pos c5]; simp only [if_pos c6])
        exact g_iret (v := ((dI, dO, dG, (fDB_takeOwnBack dI dN aN nO nU k1 x).2.1, dT), (aN, aB), (nS, nP, nR, nG, (fDB_takeOwnBack dI dN aN nO nU k1 x).2.2.1, (fDB_takeOwnBack dI dN aN nO nU k1 x).2.2.2, nT), ((fTQ_add tP tR tO tN tF tZ (nI q) (nI o) (nI g) x).1, (fTQ_add tP tR tO tN tF tZ (nI q) (nI o) (nI g) x).2.1, (fTQ_add tP tR tO tN tF tZ (nI q) (nI o) (nI g) x).2.2.1, (fTQ_add tP tR tO tN tF tZ (nI q) (nI o) (nI g) x).2.2.2.1, tF, (fTQ_add tP tR tO tN tF tZ (nI q) (nI o) (nI g) x).2.2.2.2), (mP, mN))) hx hb hr hK hP hS ⟨by first | rfl | (rw [e1] <;> rfl), by first | rfl | (rw [e1] <;> rfl)⟩ hlocks dDB_advert_80
    · refine lv_aload_n hx hb dDB_advert_53 rfl (lv_at hl 1 rfl) ?_
      refine va_get (D := D) (ci := 4) (v := .ref (a 4)) (C := RDB) (T := TDB) (N := 9) hx hb hts inDB hown hK hP 0 rfl rfl 2 (by decide) (hts _ k130) (fun _ h9 => h9) rfl dDB_advert_54 ?_
      refine lv_iload hx hb dDB_advert_57 (lv_at hl 0 rfl) ?_
      refine lv_iload_n hx hb dDB_advert_59 rfl (lv_at hl 4 rfl) ?_
      refine g_callVi (As := [.int (nI k1), .int (nI g)]) (rest := []) ⟨hx, hb, hml, hown, hts⟩ (c_NB_settle l hA dI dO dG dN dT aN aB nS nP nR nG nO nU nT ((fTQ_add tP tR tO tN tF tZ (nI q) (nI o) (nI g) x).1) ((fTQ_add tP tR tO tN tF tZ (nI q) (nI o) (nI g) x).2.1) ((fTQ_add tP tR tO tN tF tZ (nI q) (nI o) (nI g) x).2.2.1) ((fTQ_add tP tR tO tN tF tZ (nI q) (nI o) (nI g) x).2.2.2.1) tF ((fTQ_add tP tR tO tN tF tZ (nI q) (nI o) (nI g) x).2.2.2.2) mP mN k1 g (by first | omega | assumption) (by first | omega | assumption)) (cwV 2 hts (gw_V k455 k456 k457 k29 k458) rfl rfl rfl (by decide +kernel) ⟨Nat.le_of_ble_eq_true rfl, Nat.le_of_ble_eq_true rfl⟩) hK hP (va_recv hK hP (ci := 2) (q0 := 4) rfl rfl) rfl hl.1 rfl (Nat.le_of_ble_eq_true rfl) dDB_advert_60 ⟨Nat.zero_le _, Nat.zero_le _⟩ (fun q h => h) hS (fun H locs hP hS => ?_)
      have hP : va_P D vwCl (wC cI cL a ((dI, dO, dG, dN, dT), (aN, aB), (nS, nP, nR, nG, vp_updL nO k1 ((nO k1) &&& ((bL g) ^^^ (-1))), vp_updL nU k1 ((nU k1) &&& ((bL g) ^^^ (-1))), nT), ((fTQ_add tP tR tO tN tF tZ (nI q) (nI o) (nI g) x).1, (fTQ_add tP tR tO tN tF tZ (nI q) (nI o) (nI g) x).2.1, (fTQ_add tP tR tO tN tF tZ (nI q) (nI o) (nI g) x).2.2.1, (fTQ_add tP tR tO tN tF tZ (nI q) (nI o) (nI g) x).2.2.2.1, tF, (fTQ_add tP tR tO tN tF tZ (nI q) (nI o) (nI g) x).2.2.2.2), (mP, mN))) H := hP
      refine lv_pop hx hb dDB_advert_63 rfl ?_
      refine lv_iload_n hx hb dDB_advert_64 rfl (lv_at hl 4 rfl) ?_
      refine lv_aload_n hx hb dDB_advert_65 rfl (lv_at hl 1 rfl) ?_
      refine va_get (D := D) (ci := 4) (v := .int (nI dI)) (C := RDB) (T := TDB) (N := 9) hx hb hts inDB hown hK hP 0 rfl rfl 0 (by decide) (hts _ k128) (fun _ h9 => h9) rfl dDB_advert_66 ?_
      refine lv_icmp_ne (tgt := 81) hx hb dDB_advert_69 (by decide) (fun c7 => ?_) (fun c7 => ?_)
      · have c7 : ¬ g = dI := fun q => c7 ((nI_eq (a := g) (b := dI) (by omega) (by omega)).mpr q)
        refine lv_aload_n hx hb dDB_advert_81 rfl (lv_at hl 1 rfl) ?_
        refine lv_iload hx hb dDB_advert_82 (lv_at hl 0 rfl) ?_
        refine lv_iload_n hx hb dDB_advert_84 rfl (lv_at hl 4 rfl) ?_
        refine lv_iload hx hb dDB_advert_85 (lv_at hl 5 rfl) ?_
        refine lv_iload hx hb dDB_advert_87 (lv_at hl 6 rfl) ?_
        refine g_callVi (As := [.int (nI k1), .int (nI g), .int x, .int y]) (rest := []) ⟨hx, hb, hml, hown, hts⟩ (c_DB_takeAdvert l hA dI dO dG dN dT aN aB nS nP nR nG (vp_updL nO k1 ((nO k1) &&& ((bL g) ^^^ (-1)))) (vp_updL nU k1 ((nU k1) &&& ((bL g) ^^^ (-1)))) nT ((fTQ_add tP tR tO tN tF tZ (nI q) (nI o) (nI g) x).1) ((fTQ_add tP tR tO tN tF tZ (nI q) (nI o) (nI g) x).2.1) ((fTQ_add tP tR tO tN tF tZ (nI q) (nI o) (nI g) x).2.2.1) ((fTQ_add tP tR tO tN tF tZ (nI q) (nI o) (nI g) x).2.2.2.1) tF ((fTQ_add tP tR tO tN tF tZ (nI q) (nI o) (nI g) x).2.2.2.2) mP mN k1 g x y (by first | omega | assumption) (by first | omega | assumption)) (cwV 4 hts (gw_V k464 k466 k16 k27 k467) rfl rfl rfl (by decide +kernel) ⟨Nat.le_of_ble_eq_true rfl, Nat.le_of_ble_eq_true rfl⟩) hK hP (va_recv hK hP (ci := 4) (q0 := 0) rfl rfl) rfl hl.1 rfl (Nat.le_of_ble_eq_true rfl) dDB_advert_89 ⟨Nat.zero_le _, Nat.zero_le _⟩ (fun q h => h) hS (fun H locs hP hS => ?_)
        have hP : va_P D vwCl (wC cI cL a ((dI, dO, dG, dN, dT), ((fDB_takeAdvert aN aB nS (vp_updL nO k1 ((nO k1) &&& ((bL g) ^^^ (-1)))) (vp_updL nU k1 ((nU k1) &&& ((bL g) ^^^ (-1)))) k1 g x y).2.1, (fDB_takeAdvert aN aB nS (vp_updL nO k1 ((nO k1) &&& ((bL g) ^^^ (-1)))) (vp_updL nU k1 ((nU k1) &&& ((bL g) ^^^ (-1)))) k1 g x y).2.2.1), (nS, nP, nR, nG, (fDB_takeAdvert aN aB nS (vp_updL nO k1 ((nO k1) &&& ((bL g) ^^^ (-1)))) (vp_updL nU k1 ((nU k1) &&& ((bL g) ^^^ (-1)))) k1 g x y).2.2.2.1, (fDB_takeAdvert aN aB nS (vp_updL nO k1 ((nO k1) &&& ((bL g) ^^^ (-1)))) (vp_updL nU k1 ((nU k1) &&& ((bL g) ^^^ (-1)))) k1 g x y).2.2.2.2, nT), ((fTQ_add tP tR tO tN tF tZ (nI q) (nI o) (nI g) x).1, (fTQ_add tP tR tO tN tF tZ (nI q) (nI o) (nI g) x).2.1, (fTQ_add tP tR tO tN tF tZ (nI q) (nI o) (nI g) x).2.2.1, (fTQ_add tP tR tO tN tF tZ (nI q) (nI o) (nI g) x).2.2.2.1, tF, (fTQ_add tP tR tO tN tF tZ (nI q) (nI o) (nI g) x).2.2.2.2), (mP, mN))) H := hP
        have e1 : fDB_advert dI dN aN aB nS nP nR nO nU tP tR tO tN tF tZ q o g x y = ((fDB_takeAdvert aN aB nS (vp_updL nO k1 ((nO k1) &&& ((bL g) ^^^ (-1)))) (vp_updL nU k1 ((nU k1) &&& ((bL g) ^^^ (-1)))) k1 g x y).1, dN, (fDB_takeAdvert aN aB nS (vp_updL nO k1 ((nO k1) &&& ((bL g) ^^^ (-1)))) (vp_updL nU k1 ((nU k1) &&& ((bL g) ^^^ (-1)))) k1 g x y).2.1, (fDB_takeAdvert aN aB nS (vp_updL nO k1 ((nO k1) &&& ((bL g) ^^^ (-1)))) (vp_updL nU k1 ((nU k1) &&& ((bL g) ^^^ (-1)))) k1 g x y).2.2.1, (fDB_takeAdvert aN aB nS (vp_updL nO k1 ((nO k1) &&& ((bL g) ^^^ (-1)))) (vp_updL nU k1 ((nU k1) &&& ((bL g) ^^^ (-1)))) k1 g x y).2.2.2.1, (fDB_takeAdvert aN aB nS (vp_updL nO k1 ((nO k1) &&& ((bL g) ^^^ (-1)))) (vp_updL nU k1 ((nU k1) &&& ((bL g) ^^^ (-1)))) k1 g x y).2.2.2.2, (fTQ_add tP tR tO tN tF tZ (nI q) (nI o) (nI g) x).1, (fTQ_add tP tR tO tN tF tZ (nI q) (nI o) (nI g) x).2.1, (fTQ_add tP tR tO tN tF tZ (nI q) (nI o) (nI g) x).2.2.1, (fTQ_add tP tR tO tN tF tZ (nI q) (nI o) (nI g) x).2.2.2.1, (fTQ_add tP tR tO tN tF tZ (nI q) (nI o) (nI g) x).2.2.2.2) := by first | (simp only [fDB_advert, ho2, if_neg c5, if_neg c7]; done) | (simp only [fDB_advert, ho2]; simp only [if_neg c5]; simp only [if_neg c7])
        exact g_iret (v := ((dI, dO, dG, dN, dT), ((fDB_takeAdvert aN aB nS (vp_updL nO k1 ((nO k1) &&& ((bL g) ^^^ (-1)))) (vp_updL nU k1 ((nU k1) &&& ((bL g) ^^^ (-1)))) k1 g x y).2.1, (fDB_takeAdvert aN aB nS (vp_updL nO k1 ((nO k1) &&& ((bL g) ^^^ (-1)))) (vp_updL nU k1 ((nU k1) &&& ((bL g) ^^^ (-1)))) k1 g x y).2.2.1), (nS, nP, nR, nG, (fDB_takeAdvert aN aB nS (vp_updL nO k1 ((nO k1) &&& ((bL g) ^^^ (-1)))) (vp_updL nU k1 ((nU k1) &&& ((bL g) ^^^ (-1)))) k1 g x y).2.2.2.1, (fDB_takeAdvert aN aB nS (vp_updL nO k1 ((nO k1) &&& ((bL g) ^^^ (-1)))) (vp_updL nU k1 ((nU k1) &&& ((bL g) ^^^ (-1)))) k1 g x y).2.2.2.2, nT), ((fTQ_add tP tR tO tN tF tZ (nI q) (nI o) (nI g) x).1, (fTQ_add tP tR tO tN tF tZ (nI q) (nI o) (nI g) x).2.1, (fTQ_add tP tR tO tN tF tZ (nI q) (nI o) (nI g) x).2.2.1, (fTQ_add tP tR tO tN tF tZ (nI q) (nI o) (nI g) x).2.2.2.1, tF, (fTQ_add tP tR tO tN tF tZ (nI q) (nI o) (nI g) x).2.2.2.2), (mP, mN))) hx hb hr hK hP hS ⟨by first | rfl | (rw [e1] <;> rfl), by first | rfl | (rw [e1] <;> rfl)⟩ hlocks dDB_advert_92
      · have c7 := (nI_eq (a := g) (b := dI) (by omega) (by omega)).mp c7
        refine lv_aload_n hx hb dDB_advert_72 rfl (lv_at hl 1 rfl) ?_
        refine lv_iload hx hb dDB_advert_73 (lv_at hl 0 rfl) ?_
        refine lv_iload hx hb dDB_advert_75 (lv_at hl 5 rfl) ?_
        refine g_callVi (As := [.int (nI k1), .int x]) (rest := []) ⟨hx, hb, hml, hown, hts⟩ (c_DB_takeOwnBack l hA dI dO dG dN dT aN aB nS nP nR nG (vp_updL nO k1 ((nO k1) &&& ((bL g) ^^^ (-1)))) (vp_updL nU k1 ((nU k1) &&& ((bL g) ^^^ (-1)))) nT ((fTQ_add tP tR tO tN tF tZ (nI q) (nI o) (nI g) x).1) ((fTQ_add tP tR tO tN tF tZ (nI q) (nI o) (nI g) x).2.1) ((fTQ_add tP tR tO tN tF tZ (nI q) (nI o) (nI g) x).2.2.1) ((fTQ_add tP tR tO tN tF tZ (nI q) (nI o) (nI g) x).2.2.2.1) tF ((fTQ_add tP tR tO tN tF tZ (nI q) (nI o) (nI g) x).2.2.2.2) mP mN k1 x (by first | omega | assumption) (by first | omega | assumption)) (cwV 2 hts (gw_V k459 k461 k15 k27 k462) rfl rfl rfl (by decide +kernel) ⟨Nat.le_of_ble_eq_true rfl, Nat.le_of_ble_eq_true rfl⟩) hK hP (va_recv hK hP (ci := 4) (q0 := 0) rfl rfl) rfl hl.1 rfl (Nat.le_of_ble_eq_true rfl) dDB_advert_77 ⟨Nat.zero_le _, Nat.zero_le _⟩ (fun q h => h) hS (fun H locs hP hS => ?_)
        have hP : va_P D vwCl (wC cI cL a ((dI, dO, dG, (fDB_takeOwnBack dI dN aN (vp_updL nO k1 ((nO k1) &&& ((bL g) ^^^ (-1)))) (vp_updL nU k1 ((nU k1) &&& ((bL g) ^^^ (-1)))) k1 x).2.1, dT), (aN, aB), (nS, nP, nR, nG, (fDB_takeOwnBack dI dN aN (vp_updL nO k1 ((nO k1) &&& ((bL g) ^^^ (-1)))) (vp_updL nU k1 ((nU k1) &&& ((bL g) ^^^ (-1)))) k1 x).2.2.1, (fDB_takeOwnBack dI dN aN (vp_updL nO k1 ((nO k1) &&& ((bL g) ^^^ (-1)))) (vp_updL nU k1 ((nU k1) &&& ((bL g) ^^^ (-1)))) k1 x).2.2.2, nT), ((fTQ_add tP tR tO tN tF tZ (nI q) (nI o) (nI g) x).1, (fTQ_add tP tR tO tN tF tZ (nI q) (nI o) (nI g) x).2.1, (fTQ_add tP tR tO tN tF tZ (nI q) (nI o) (nI g) x).2.2.1, (fTQ_add tP tR tO tN tF tZ (nI q) (nI o) (nI g) x).2.2.2.1, tF, (fTQ_add tP tR tO tN tF tZ (nI q) (nI o) (nI g) x).2.2.2.2), (mP, mN))) H := hP
        have e1 : fDB_advert dI dN aN aB nS nP nR nO nU tP tR tO tN tF tZ q o g x y = ((fDB_takeOwnBack dI dN aN (vp_updL nO k1 ((nO k1) &&& ((bL g) ^^^ (-1)))) (vp_updL nU k1 ((nU k1) &&& ((bL g) ^^^ (-1)))) k1 x).1, (fDB_takeOwnBack dI dN aN (vp_updL nO k1 ((nO k1) &&& ((bL g) ^^^ (-1)))) (vp_updL nU k1 ((nU k1) &&& ((bL g) ^^^ (-1)))) k1 x).2.1, aN, aB, (fDB_takeOwnBack dI dN aN (vp_updL nO k1 ((nO k1) &&& ((bL g) ^^^ (-1)))) (vp_updL nU k1 ((nU k1) &&& ((bL g) ^^^ (-1)))) k1 x).2.2.1, (fDB_takeOwnBack dI dN aN (vp_updL nO k1 ((nO k1) &&& ((bL g) ^^^ (-1)))) (vp_updL nU k1 ((nU k1) &&& ((bL g) ^^^ (-1)))) k1 x).2.2.2, (fTQ_add tP tR tO tN tF tZ (nI q) (nI o) (nI g) x).1, (fTQ_add tP tR tO tN tF tZ (nI q) (nI o) (nI g) x).2.1, (fTQ_add tP tR tO tN tF tZ (nI q) (nI o) (nI g) x).2.2.1, (fTQ_add tP tR tO tN tF tZ (nI q) (nI o) (nI g) x).2.2.2.1, (fTQ_add tP tR tO tN tF tZ (nI q) (nI o) (nI g) x).2.2.2.2) := by first | (simp only [fDB_advert, ho2, if_neg c5, if_pos c7]; done) | (simp only [fDB_advert, ho2]; simp only [if_neg c5]; simp only [if_pos c7])
        exact g_iret (v := ((dI, dO, dG, (fDB_takeOwnBack dI dN aN (vp_updL nO k1 ((nO k1) &&& ((bL g) ^^^ (-1)))) (vp_updL nU k1 ((nU k1) &&& ((bL g) ^^^ (-1)))) k1 x).2.1, dT), (aN, aB), (nS, nP, nR, nG, (fDB_takeOwnBack dI dN aN (vp_updL nO k1 ((nO k1) &&& ((bL g) ^^^ (-1)))) (vp_updL nU k1 ((nU k1) &&& ((bL g) ^^^ (-1)))) k1 x).2.2.1, (fDB_takeOwnBack dI dN aN (vp_updL nO k1 ((nO k1) &&& ((bL g) ^^^ (-1)))) (vp_updL nU k1 ((nU k1) &&& ((bL g) ^^^ (-1)))) k1 x).2.2.2, nT), ((fTQ_add tP tR tO tN tF tZ (nI q) (nI o) (nI g) x).1, (fTQ_add tP tR tO tN tF tZ (nI q) (nI o) (nI g) x).2.1, (fTQ_add tP tR tO tN tF tZ (nI q) (nI o) (nI g) x).2.2.1, (fTQ_add tP tR tO tN tF tZ (nI q) (nI o) (nI g) x).2.2.2.1, tF, (fTQ_add tP tR tO tN tF tZ (nI q) (nI o) (nI g) x).2.2.2.2), (mP, mN))) hx hb hr hK hP hS ⟨by first | rfl | (rw [e1] <;> rfl), by first | rfl | (rw [e1] <;> rfl)⟩ hlocks dDB_advert_80
def fDB_thanks (aN : Nat → Int32) (nS : Nat → Int32) (nP : Nat → Int32) (nR : Nat → Int32) (nO : Nat → Int64) (nU : Nat → Int64) (q : Nat) (o : Nat) (g : Nat) (x : Int32) : Bool × (Nat → Int64) × (Nat → Int64) := (match fNB_friendPlace nS nP nR (nI q) (nI o) with | none => (false, nO, nU) | some k1 => (if x = (aN g) then (fNB_settle nO k1 g, vp_updL nO k1 ((nO k1) &&& ((bL g) ^^^ (-1))), vp_updL nU k1 ((nU k1) &&& ((bL g) ^^^ (-1)))) else (false, nO, nU)))
set_option maxHeartbeats 4000000 in
set_option maxRecDepth 100000 in
theorem c_DB_thanks (l : Launch) {D : va_G} {cI cL : ClassId} {a : Nat → Nat} {A : Nat → Prop} (hA : ∀ v : CS, va_D A (wC cI cL a v)) (dI : Nat) (dO dG dN dT : Int32) (aN aB : Nat → Int32) (nS nP nR nG : Nat → Int32) (nO nU : Nat → Int64) (nT : Nat → Int32) (tP tR tO tN : Nat → Int32) (tF tZ : Nat) (mP : Nat → Int32) (mN : Int64) (q : Nat) (o : Nat) (g : Nat) (x : Int32) (hq : q < 8) (ho : o < 64) (hne : ¬ o = dI) (hI : dI < 64) (hg : g < 64) (h1 : ¬ x < 1) (h2 : x ≤ 1000000000) (hon : fDB_isOn dO q = true) : Met l yDB_thanks wsDB_thanks ({ frames := 3, cells := 0, slots := 0, locals := 66 }) (va_Pc [.ref (a 0), .int (nI q), .int (nI o), .int (nI g), .int x] (gG D (tyC cI cL) (wC cI cL a) ((dI, dO, dG, dN, dT), (aN, aB), (nS, nP, nR, nG, nO, nU, nT), (tP, tR, tO, tN, tF, tZ), (mP, mN)))) (va_Qi (fun (r : Int32) (u : CS) => r = bi ((fDB_thanks aN nS nP nR nO nU q o g x).1) ∧ u = ((dI, dO, dG, dN, dT), (aN, aB), (nS, nP, nR, nG, (fDB_thanks aN nS nP nR nO nU q o g x).2.1, (fDB_thanks aN nS nP nR nO nU q o g x).2.2, nT), (tP, tR, tO, tN, tF, tZ), (mP, mN))) (gG D (tyC cI cL) (wC cI cL a)) A) 0 0 A := by
  refine g_enter (by decide) rfl (Nat.le_of_ble_eq_true rfl) ?_
  intro p e s m below meth c ls F hK hP hl
  obtain ⟨hx, hb, hr, hml, hown, hts, hlocks⟩ := id F
  have hS : va_S A s.heap s.heap [] := va_S.rf
  have hl : lv_has ls 6 [(0, .ref (a 0)), (1, .int (nI q)), (2, .int (nI o)), (3, .int (nI g)), (4, .int x)] := hl
  refine lv_aload_n hx hb dDB_thanks_0 rfl (lv_at hl 0 rfl) ?_
  refine lv_iload_n hx hb dDB_thanks_1 rfl (lv_at hl 1 rfl) ?_
  refine lv_iload_n hx hb dDB_thanks_2 rfl (lv_at hl 2 rfl) ?_
  refine lv_iload_n hx hb dDB_thanks_3 rfl (lv_at hl 3 rfl) ?_
  refine lv_iload hx hb dDB_thanks_4 (lv_at hl 4 rfl) ?_
  refine g_roVv (As := [.int (nI q), .int (nI o), .int (nI g), .int x]) (rest := []) ⟨hx, hb, hml, hown, hts⟩ (c_DB_requireLegal l dI dO dG dN dT aN aB nS nP nR nG nO nU nT tP tR tO tN tF tZ mP mN q o g x (by first | omega | assumption) (by first | omega | assumption) (by first | omega | assumption) (by first | omega | assumption) (by first | omega | assumption) (by first | omega | assumption) (by first | omega | assumption) (by first | omega | assumption)) (cwV 4 hts (gw_V k434 k436 k14 k27 k437) rfl rfl rfl (by decide +kernel) ⟨Nat.le_of_ble_eq_true rfl, Nat.le_of_ble_eq_true rfl⟩) hK hP (va_recv hK hP (ci := 4) (q0 := 0) rfl rfl) rfl hl.1 rfl (Nat.le_of_ble_eq_true rfl) dDB_thanks_6 ⟨Nat.zero_le _, Nat.zero_le _⟩ ?_
  refine lv_aload_n hx hb dDB_thanks_9 rfl (lv_at hl 0 rfl) ?_
  refine va_get (D := D) (ci := 4) (v := .ref (a 4)) (C := RDB) (T := TDB) (N := 9) hx hb hts inDB hown hK hP 0 rfl rfl 2 (by decide) (hts _ k130) (fun _ h9 => h9) rfl dDB_thanks_10 ?_
  refine lv_iload_n hx hb dDB_thanks_13 rfl (lv_at hl 1 rfl) ?_
  refine lv_iload_n hx hb dDB_thanks_14 rfl (lv_at hl 2 rfl) ?_
  refine g_roVi (As := [.int (nI q), .int (nI o)]) (rest := []) ⟨hx, hb, hml, hown, hts⟩ (c_NB_friendPlace l dI dO dG dN dT aN aB nS nP nR nG nO nU nT tP tR tO tN tF tZ mP mN (nI q) (nI o)) (cwV 2 hts (gw_V k447 k448 k449 k29 k450) rfl rfl rfl (by decide +kernel) ⟨Nat.le_of_ble_eq_true rfl, Nat.le_of_ble_eq_true rfl⟩) hK hP (va_recv hK hP (ci := 2) (q0 := 4) rfl rfl) rfl hl.1 rfl (Nat.le_of_ble_eq_true rfl) dDB_thanks_15 ⟨Nat.zero_le _, Nat.zero_le _⟩ ?_
  rcases ho2 : fNB_friendPlace nS nP nR (nI q) (nI o) with _ | k1
  · refine lv_istore (lv' := [(5, .int (oi none)), (0, .ref (a 0)), (1, .int (nI q)), (2, .int (nI o)), (3, .int (nI g)), (4, .int x)]) hx hb dDB_thanks_18 hl (by decide) rfl (fun ls hl => ?_)
    refine lv_iload hx hb dDB_thanks_20 (lv_at hl 0 rfl) ?_
    refine lv_iconst (v := (-1)) hx hb dDB_thanks_22 (by decide) ?_
    refine lv_icmp_eq (tgt := 39) hx hb dDB_thanks_23 (by decide) (fun _ => ?_) (fun c0 => absurd rfl c0)
    refine lv_iconst (v := bi false) hx hb dDB_thanks_39 (by decide) ?_
    have e1 : fDB_thanks aN nS nP nR nO nU q o g x = (false, nO, nU) := by simp only [fDB_thanks, ho2]
    exact g_zret (v := ((dI, dO, dG, dN, dT), (aN, aB), (nS, nP, nR, nG, nO, nU, nT), (tP, tR, tO, tN, tF, tZ), (mP, mN))) hx hb hr hK hP hS ⟨by first | rfl | (rw [e1] <;> rfl), by first | rfl | (rw [e1] <;> rfl)⟩ hlocks dDB_thanks_40
  · have hk1 := c_NB_friendPlace_lt ho2
    refine lv_istore (lv' := [(5, .int (nI k1)), (0, .ref (a 0)), (1, .int (nI q)), (2, .int (nI o)), (3, .int (nI g)), (4, .int x)]) hx hb dDB_thanks_18 hl (by decide) rfl (fun ls hl => ?_)
    refine lv_iload hx hb dDB_thanks_20 (lv_at hl 0 rfl) ?_
    refine lv_iconst (v := (-1)) hx hb dDB_thanks_22 (by decide) ?_
    refine lv_icmp_eq (tgt := 39) hx hb dDB_thanks_23 (by decide) (fun c0 => absurd c0 (nI_m1 (by omega))) (fun _ => ?_)
    refine lv_iload hx hb dDB_thanks_26 (lv_at hl 5 rfl) ?_
    refine lv_aload_n hx hb dDB_thanks_28 rfl (lv_at hl 1 rfl) ?_
    refine va_get (D := D) (ci := 4) (v := .ref (a 1)) (C := RDB) (T := TDB) (N := 9) hx hb hts inDB hown hK hP 0 rfl rfl 1 (by decide) (hts _ k129) (fun _ h9 => h9) rfl dDB_thanks_29 ?_
    refine lv_iload_n hx hb dDB_thanks_32 rfl (lv_at hl 4 rfl) ?_
    refine g_roVi (As := [.int (nI g)]) (rest := [.int x]) ⟨hx, hb, hml, hown, hts⟩ (c_AD_numberOf l dI dO dG dN dT aN aB nS nP nR nG nO nU nT tP tR tO tN tF tZ mP mN g (by first | omega | assumption)) (cwV 1 hts (gw_V k242 k243 k244 k28 k245) rfl rfl rfl (by decide +kernel) ⟨Nat.le_of_ble_eq_true rfl, Nat.le_of_ble_eq_true rfl⟩) hK hP (va_recv hK hP (ci := 0) (q0 := 1) rfl rfl) rfl hl.1 rfl (Nat.le_of_ble_eq_true rfl) dDB_thanks_33 ⟨Nat.zero_le _, Nat.zero_le _⟩ ?_
    refine lv_icmp_eq (tgt := 41) hx hb dDB_thanks_36 (by decide) (fun c5 => ?_) (fun c5 => ?_)
    · refine lv_aload_n hx hb dDB_thanks_41 rfl (lv_at hl 1 rfl) ?_
      refine va_get (D := D) (ci := 4) (v := .ref (a 4)) (C := RDB) (T := TDB) (N := 9) hx hb hts inDB hown hK hP 0 rfl rfl 2 (by decide) (hts _ k130) (fun _ h9 => h9) rfl dDB_thanks_42 ?_
      refine lv_iload hx hb dDB_thanks_45 (lv_at hl 0 rfl) ?_
      refine lv_iload_n hx hb dDB_thanks_47 rfl (lv_at hl 4 rfl) ?_
      refine g_callVi (As := [.int (nI k1), .int (nI g)]) (rest := []) ⟨hx, hb, hml, hown, hts⟩ (c_NB_settle l hA dI dO dG dN dT aN aB nS nP nR nG nO nU nT tP tR tO tN tF tZ mP mN k1 g (by first | omega | assumption) (by first | omega | assumption)) (cwV 2 hts (gw_V k455 k456 k457 k29 k458) rfl rfl rfl (by decide +kernel) ⟨Nat.le_of_ble_eq_true rfl, Nat.le_of_ble_eq_true rfl⟩) hK hP (va_recv hK hP (ci := 2) (q0 := 4) rfl rfl) rfl hl.1 rfl (Nat.le_of_ble_eq_true rfl) dDB_thanks_48 ⟨Nat.zero_le _, Nat.zero_le _⟩ (fun q h => h) hS (fun H locs hP hS => ?_)
      have hP : va_P D vwCl (wC cI cL a ((dI, dO, dG, dN, dT), (aN, aB), (nS, nP, nR, nG, vp_updL nO k1 ((nO k1) &&& ((bL g) ^^^ (-1))), vp_updL nU k1 ((nU k1) &&& ((bL g) ^^^ (-1))), nT), (tP, tR, tO, tN, tF, tZ), (mP, mN))) H := hP
      have e1 : fDB_thanks aN nS nP nR nO nU q o g x = (fNB_settle nO k1 g, vp_updL nO k1 ((nO k1) &&& ((bL g) ^^^ (-1))), vp_updL nU k1 ((nU k1) &&& ((bL g) ^^^ (-1)))) := by first | (simp only [fDB_thanks, ho2, if_pos c5]; done) | (simp only [fDB_thanks, ho2]; simp only [if_pos c5])
      exact g_zret (v := ((dI, dO, dG, dN, dT), (aN, aB), (nS, nP, nR, nG, vp_updL nO k1 ((nO k1) &&& ((bL g) ^^^ (-1))), vp_updL nU k1 ((nU k1) &&& ((bL g) ^^^ (-1))), nT), (tP, tR, tO, tN, tF, tZ), (mP, mN))) hx hb hr hK hP hS ⟨by first | rfl | (rw [e1] <;> rfl), by first | rfl | (rw [e1] <;> rfl)⟩ hlocks dDB_thanks_51
    · refine lv_iconst (v := bi false) hx hb dDB_thanks_39 (by decide) ?_
      have e1 : fDB_thanks aN nS nP nR nO nU q o g x = (false, nO, nU) := by first | (simp only [fDB_thanks, ho2, if_neg c5]; done) | (simp only [fDB_thanks, ho2]; simp only [if_neg c5])
      exact g_zret (v := ((dI, dO, dG, dN, dT), (aN, aB), (nS, nP, nR, nG, nO, nU, nT), (tP, tR, tO, tN, tF, tZ), (mP, mN))) hx hb hr hK hP hS ⟨by first | rfl | (rw [e1] <;> rfl), by first | rfl | (rw [e1] <;> rfl)⟩ hlocks dDB_thanks_40
set_option maxHeartbeats 4000000 in
set_option maxRecDepth 100000 in
theorem c_DB_own (l : Launch) {D : va_G} {cI cL : ClassId} {a : Nat → Nat} {A : Nat → Prop} (hA : ∀ v : CS, va_D A (wC cI cL a v)) (dI : Nat) (dO dG dN dT : Int32) (aN aB : Nat → Int32) (nS nP nR nG : Nat → Int32) (nO nU : Nat → Int64) (nT : Nat → Int32) (tP tR tO tN : Nat → Int32) (tF tZ : Nat) (mP : Nat → Int32) (mN : Int64) (x : Int32) (hI : dI < 64) : Met l yDB_own wsDB_own ({ frames := 2, cells := 0, slots := 0, locals := 45 }) (va_Pc [.ref (a 0), .int x] (gG D (tyC cI cL) (wC cI cL a) ((dI, dO, dG, dN, dT), (aN, aB), (nS, nP, nR, nG, nO, nU, nT), (tP, tR, tO, tN, tF, tZ), (mP, mN)))) (va_Qi (fun (r : Int32) (u : CS) => r = dN + 1 ∧ u = ((dI, dO, dG, dN + 1, dT), (upd aN dI (dN + 1), upd aB dI x), (nS, nP, nR, nG, (LNB_oweToFriendsBut nS none dI 16 0 nO nU).1, (LNB_oweToFriendsBut nS none dI 16 0 nO nU).2, nT), (tP, tR, tO, tN, tF, tZ), (mP, mN))) (gG D (tyC cI cL) (wC cI cL a)) A) 0 0 A := by
  refine g_enter (by decide) rfl (Nat.le_of_ble_eq_true rfl) ?_
  intro p e s m below meth c ls F hK hP hl
  obtain ⟨hx, hb, hr, hml, hown, hts, hlocks⟩ := id F
  have hS : va_S A s.heap s.heap [] := va_S.rf
  have hl : lv_has ls 2 [(0, .ref (a 0)), (1, .int x)] := hl
  refine lv_aload_n hx hb dDB_own_0 rfl (lv_at hl 0 rfl) ?_
  refine lv_dup hx hb dDB_own_1 rfl ?_
  refine va_get (D := D) (ci := 4) (v := .int dN) (C := RDB) (T := TDB) (N := 9) hx hb hts inDB hown hK hP 0 rfl rfl 7 (by decide) (hts _ k135) (fun _ h9 => h9) rfl dDB_own_2 ?_
  refine lv_iconst (v := 1) hx hb dDB_own_5 (by decide) ?_
  refine lv_iadd hx hb dDB_own_6 ?_
  refine va_put (D := D) (ci := 4) (v := .int (dN + 1)) (ty := .int) (C := RDB) (T := TDB) (N := 9) hx hb hts inDB tyDB tyDB_ok nmDB hown hK hP (hA _) hS 0 rfl rfl 7 (by decide) (hts _ k135) (fun _ h9 => h9) rfl (by decide +kernel) rfl rfl (Nat.le_of_ble_eq_true rfl) dDB_own_7 (fun H locs hP _ hS => ?_)
  have hP : va_P D vwCl (wC cI cL a ((dI, dO, dG, dN + 1, dT), (aN, aB), (nS, nP, nR, nG, nO, nU, nT), (tP, tR, tO, tN, tF, tZ), (mP, mN))) H := hP
  refine lv_aload_n hx hb dDB_own_10 rfl (lv_at hl 0 rfl) ?_
  refine va_get (D := D) (ci := 4) (v := .ref (a 1)) (C := RDB) (T := TDB) (N := 9) hx hb hts inDB hown hK hP 0 rfl rfl 1 (by decide) (hts _ k129) (fun _ h9 => h9) rfl dDB_own_11 ?_
  refine lv_aload_n hx hb dDB_own_14 rfl (lv_at hl 0 rfl) ?_
  refine va_get (D := D) (ci := 4) (v := .int (nI dI)) (C := RDB) (T := TDB) (N := 9) hx hb hts inDB hown hK hP 0 rfl rfl 0 (by decide) (hts _ k128) (fun _ h9 => h9) rfl dDB_own_15 ?_
  refine lv_aload_n hx hb dDB_own_18 rfl (lv_at hl 0 rfl) ?_
  refine va_get (D := D) (ci := 4) (v := .int (dN + 1)) (C := RDB) (T := TDB) (N := 9) hx hb hts inDB hown hK hP 0 rfl rfl 7 (by decide) (hts _ k135) (fun _ h9 => h9) rfl dDB_own_19 ?_
  refine lv_iload_n hx hb dDB_own_22 rfl (lv_at hl 1 rfl) ?_
  refine g_callVv (As := [.int (nI dI), .int (dN + 1), .int x]) (rest := []) ⟨hx, hb, hml, hown, hts⟩ (c_AD_put l hA dI dO dG (dN + 1) dT aN aB nS nP nR nG nO nU nT tP tR tO tN tF tZ mP mN dI (dN + 1) x (by first | omega | assumption)) (cwV 3 hts (gw_V k160 k161 k162 k28 k163) rfl rfl rfl (by decide +kernel) ⟨Nat.le_of_ble_eq_true rfl, Nat.le_of_ble_eq_true rfl⟩) hK hP (va_recv hK hP (ci := 0) (q0 := 1) rfl rfl) rfl hl.1 rfl (Nat.le_of_ble_eq_true rfl) dDB_own_23 ⟨Nat.zero_le _, Nat.zero_le _⟩ (fun q h => h) hS (fun H locs hP hS => ?_)
  have hP : va_P D vwCl (wC cI cL a ((dI, dO, dG, dN + 1, dT), (upd aN dI (dN + 1), upd aB dI x), (nS, nP, nR, nG, nO, nU, nT), (tP, tR, tO, tN, tF, tZ), (mP, mN))) H := hP
  refine lv_aload_n hx hb dDB_own_26 rfl (lv_at hl 0 rfl) ?_
  refine va_get (D := D) (ci := 4) (v := .ref (a 4)) (C := RDB) (T := TDB) (N := 9) hx hb hts inDB hown hK hP 0 rfl rfl 2 (by decide) (hts _ k130) (fun _ h9 => h9) rfl dDB_own_27 ?_
  refine lv_iconst (v := (-1)) hx hb dDB_own_30 (by decide) ?_
  refine lv_aload_n hx hb dDB_own_31 rfl (lv_at hl 0 rfl) ?_
  refine va_get (D := D) (ci := 4) (v := .int (nI dI)) (C := RDB) (T := TDB) (N := 9) hx hb hts inDB hown hK hP 0 rfl rfl 0 (by decide) (hts _ k128) (fun _ h9 => h9) rfl dDB_own_32 ?_
  refine g_callVv (As := [.int (-1), .int (nI dI)]) (rest := []) ⟨hx, hb, hml, hown, hts⟩ (c_NB_oweToFriendsBut l hA dI dO dG (dN + 1) dT (upd aN dI (dN + 1)) (upd aB dI x) nS nP nR nG nO nU nT tP tR tO tN tF tZ mP mN none dI (by first | omega | assumption)) (cwV 2 hts (gw_V k164 k165 k166 k29 k167) rfl rfl rfl (by decide +kernel) ⟨Nat.le_of_ble_eq_true rfl, Nat.le_of_ble_eq_true rfl⟩) hK hP (va_recv hK hP (ci := 2) (q0 := 4) rfl rfl) rfl hl.1 rfl (Nat.le_of_ble_eq_true rfl) dDB_own_35 ⟨Nat.zero_le _, Nat.zero_le _⟩ (fun q h => h) hS (fun H locs hP hS => ?_)
  have hP : va_P D vwCl (wC cI cL a ((dI, dO, dG, dN + 1, dT), (upd aN dI (dN + 1), upd aB dI x), (nS, nP, nR, nG, (LNB_oweToFriendsBut nS none dI 16 0 nO nU).1, (LNB_oweToFriendsBut nS none dI 16 0 nO nU).2, nT), (tP, tR, tO, tN, tF, tZ), (mP, mN))) H := hP
  refine lv_aload_n hx hb dDB_own_38 rfl (lv_at hl 0 rfl) ?_
  refine va_get (D := D) (ci := 4) (v := .int (dN + 1)) (C := RDB) (T := TDB) (N := 9) hx hb hts inDB hown hK hP 0 rfl rfl 7 (by decide) (hts _ k135) (fun _ h9 => h9) rfl dDB_own_39 ?_
  exact g_iret (v := ((dI, dO, dG, dN + 1, dT), (upd aN dI (dN + 1), upd aB dI x), (nS, nP, nR, nG, (LNB_oweToFriendsBut nS none dI 16 0 nO nU).1, (LNB_oweToFriendsBut nS none dI 16 0 nO nU).2, nT), (tP, tR, tO, tN, tF, tZ), (mP, mN))) hx hb hr hK hP hS ⟨rfl, rfl⟩ hlocks dDB_own_42
def fDB_forget (aN : Nat → Int32) (aB : Nat → Int32) (nO : Nat → Int64) (nU : Nat → Int64) (g : Nat) : Bool × (Nat → Int32) × (Nat → Int32) × (Nat → Int64) × (Nat → Int64) := (cond (fAD_has aN g) (true, upd aN g 0, upd aB g 0, (LNB_settleAll g 16 0 nO nU).1, (LNB_settleAll g 16 0 nO nU).2) (false, aN, aB, nO, nU))
set_option maxHeartbeats 4000000 in
set_option maxRecDepth 100000 in
theorem c_DB_forget (l : Launch) {D : va_G} {cI cL : ClassId} {a : Nat → Nat} {A : Nat → Prop} (hA : ∀ v : CS, va_D A (wC cI cL a v)) (dI : Nat) (dO dG dN dT : Int32) (aN aB : Nat → Int32) (nS nP nR nG : Nat → Int32) (nO nU : Nat → Int64) (nT : Nat → Int32) (tP tR tO tN : Nat → Int32) (tF tZ : Nat) (mP : Nat → Int32) (mN : Int64) (g : Nat) (hg : g < 64) : Met l yDB_forget wsDB_forget ({ frames := 2, cells := 0, slots := 0, locals := 47 }) (va_Pc [.ref (a 0), .int (nI g)] (gG D (tyC cI cL) (wC cI cL a) ((dI, dO, dG, dN, dT), (aN, aB), (nS, nP, nR, nG, nO, nU, nT), (tP, tR, tO, tN, tF, tZ), (mP, mN)))) (va_Qi (fun (r : Int32) (u : CS) => r = bi ((fDB_forget aN aB nO nU g).1) ∧ u = ((dI, dO, dG, dN, dT), ((fDB_forget aN aB nO nU g).2.1, (fDB_forget aN aB nO nU g).2.2.1), (nS, nP, nR, nG, (fDB_forget aN aB nO nU g).2.2.2.1, (fDB_forget aN aB nO nU g).2.2.2.2, nT), (tP, tR, tO, tN, tF, tZ), (mP, mN))) (gG D (tyC cI cL) (wC cI cL a)) A) 0 0 A := by
  refine g_enter (by decide) rfl (Nat.le_of_ble_eq_true rfl) ?_
  intro p e s m below meth c ls F hK hP hl
  obtain ⟨hx, hb, hr, hml, hown, hts, hlocks⟩ := id F
  have hS : va_S A s.heap s.heap [] := va_S.rf
  have hl : lv_has ls 2 [(0, .ref (a 0)), (1, .int (nI g))] := hl
  refine lv_iload_n hx hb dDB_forget_0 rfl (lv_at hl 1 rfl) ?_
  refine g_roSv (As := [.int (nI g)]) (rest := []) ⟨hx, hb, hml, hown, hts⟩ (c_DB_requireRouter l dI dO dG dN dT aN aB nS nP nR nG nO nU nT tP tR tO tN tF tZ mP mN g (by first | omega | assumption)) (cw_S 1 hts k438 k439 k27 k440 rfl rfl rfl (by decide +kernel) ⟨Nat.le_of_ble_eq_true rfl, Nat.le_of_ble_eq_true rfl⟩) hK hP rfl hl.1 rfl (Nat.le_of_ble_eq_true rfl) dDB_forget_1 ⟨Nat.zero_le _, Nat.zero_le _⟩ ?_
  refine lv_aload_n hx hb dDB_forget_4 rfl (lv_at hl 0 rfl) ?_
  refine va_get (D := D) (ci := 4) (v := .ref (a 1)) (C := RDB) (T := TDB) (N := 9) hx hb hts inDB hown hK hP 0 rfl rfl 1 (by decide) (hts _ k129) (fun _ h9 => h9) rfl dDB_forget_5 ?_
  refine lv_iload_n hx hb dDB_forget_8 rfl (lv_at hl 1 rfl) ?_
  refine g_roVi (As := [.int (nI g)]) (rest := []) ⟨hx, hb, hml, hown, hts⟩ (c_AD_has l dI dO dG dN dT aN aB nS nP nR nG nO nU nT tP tR tO tN tF tZ mP mN g (by first | omega | assumption)) (cwV 1 hts (gw_V k482 k483 k484 k28 k485) rfl rfl rfl (by decide +kernel) ⟨Nat.le_of_ble_eq_true rfl, Nat.le_of_ble_eq_true rfl⟩) hK hP (va_recv hK hP (ci := 0) (q0 := 1) rfl rfl) rfl hl.1 rfl (Nat.le_of_ble_eq_true rfl) dDB_forget_9 ⟨Nat.zero_le _, Nat.zero_le _⟩ ?_
  refine lv_if_neb (tgt := 17) hx hb dDB_forget_12 (by decide) (fun c1 => ?_) (fun c1 => ?_)
  · refine lv_aload_n hx hb dDB_forget_17 rfl (lv_at hl 0 rfl) ?_
    refine va_get (D := D) (ci := 4) (v := .ref (a 1)) (C := RDB) (T := TDB) (N := 9) hx hb hts inDB hown hK hP 0 rfl rfl 1 (by decide) (hts _ k129) (fun _ h9 => h9) rfl dDB_forget_18 ?_
    refine lv_iload_n hx hb dDB_forget_21 rfl (lv_at hl 1 rfl) ?_
    refine g_callVv (As := [.int (nI g)]) (rest := []) ⟨hx, hb, hml, hown, hts⟩ (c_AD_remove l hA dI dO dG dN dT aN aB nS nP nR nG nO nU nT tP tR tO tN tF tZ mP mN g (by first | omega | assumption)) (cwV 1 hts (gw_V k486 k487 k488 k28 k489) rfl rfl rfl (by decide +kernel) ⟨Nat.le_of_ble_eq_true rfl, Nat.le_of_ble_eq_true rfl⟩) hK hP (va_recv hK hP (ci := 0) (q0 := 1) rfl rfl) rfl hl.1 rfl (Nat.le_of_ble_eq_true rfl) dDB_forget_22 ⟨Nat.zero_le _, Nat.zero_le _⟩ (fun q h => h) hS (fun H locs hP hS => ?_)
    have hP : va_P D vwCl (wC cI cL a ((dI, dO, dG, dN, dT), (upd aN g 0, upd aB g 0), (nS, nP, nR, nG, nO, nU, nT), (tP, tR, tO, tN, tF, tZ), (mP, mN))) H := hP
    refine lv_aload_n hx hb dDB_forget_25 rfl (lv_at hl 0 rfl) ?_
    refine va_get (D := D) (ci := 4) (v := .ref (a 4)) (C := RDB) (T := TDB) (N := 9) hx hb hts inDB hown hK hP 0 rfl rfl 2 (by decide) (hts _ k130) (fun _ h9 => h9) rfl dDB_forget_26 ?_
    refine lv_iload_n hx hb dDB_forget_29 rfl (lv_at hl 1 rfl) ?_
    refine g_callVv (As := [.int (nI g)]) (rest := []) ⟨hx, hb, hml, hown, hts⟩ (c_NB_settleAll l hA dI dO dG dN dT (upd aN g 0) (upd aB g 0) nS nP nR nG nO nU nT tP tR tO tN tF tZ mP mN g (by first | omega | assumption)) (cwV 1 hts (gw_V k491 k492 k493 k29 k494) rfl rfl rfl (by decide +kernel) ⟨Nat.le_of_ble_eq_true rfl, Nat.le_of_ble_eq_true rfl⟩) hK hP (va_recv hK hP (ci := 2) (q0 := 4) rfl rfl) rfl hl.1 rfl (Nat.le_of_ble_eq_true rfl) dDB_forget_30 ⟨Nat.zero_le _, Nat.zero_le _⟩ (fun q h => h) hS (fun H locs hP hS => ?_)
    have hP : va_P D vwCl (wC cI cL a ((dI, dO, dG, dN, dT), (upd aN g 0, upd aB g 0), (nS, nP, nR, nG, (LNB_settleAll g 16 0 nO nU).1, (LNB_settleAll g 16 0 nO nU).2, nT), (tP, tR, tO, tN, tF, tZ), (mP, mN))) H := hP
    refine lv_iconst (v := bi true) hx hb dDB_forget_33 (by decide) ?_
    have e1 : fDB_forget aN aB nO nU g = (true, upd aN g 0, upd aB g 0, (LNB_settleAll g 16 0 nO nU).1, (LNB_settleAll g 16 0 nO nU).2) := by simp only [fDB_forget, cond_yes c1]
    exact g_zret (v := ((dI, dO, dG, dN, dT), (upd aN g 0, upd aB g 0), (nS, nP, nR, nG, (LNB_settleAll g 16 0 nO nU).1, (LNB_settleAll g 16 0 nO nU).2, nT), (tP, tR, tO, tN, tF, tZ), (mP, mN))) hx hb hr hK hP hS ⟨by first | rfl | (rw [e1] <;> rfl), by first | rfl | (rw [e1] <;> rfl)⟩ hlocks dDB_forget_34
  · refine lv_iconst (v := bi false) hx hb dDB_forget_15 (by decide) ?_
    have e1 : fDB_forget aN aB nO nU g = (false, aN, aB, nO, nU) := by simp only [fDB_forget, cond_no c1]
    exact g_zret (v := ((dI, dO, dG, dN, dT), (aN, aB), (nS, nP, nR, nG, nO, nU, nT), (tP, tR, tO, tN, tF, tZ), (mP, mN))) hx hb hr hK hP hS ⟨by first | rfl | (rw [e1] <;> rfl), by first | rfl | (rw [e1] <;> rfl)⟩ hlocks dDB_forget_16
def fDB_run (dO : Int32) (dG : Int32) (dT : Int32) (x : Int32) : Int32 := (if ((dT + x) / 20) ≤ (dT / 20) then dG else dO)
set_option maxHeartbeats 4000000 in
set_option maxRecDepth 100000 in
theorem c_DB_run (l : Launch) {D : va_G} {cI cL : ClassId} {a : Nat → Nat} {A : Nat → Prop} (hA : ∀ v : CS, va_D A (wC cI cL a v)) (dI : Nat) (dO dG dN dT : Int32) (aN aB : Nat → Int32) (nS nP nR nG : Nat → Int32) (nO nU : Nat → Int64) (nT : Nat → Int32) (tP tR tO tN : Nat → Int32) (tF tZ : Nat) (mP : Nat → Int32) (mN : Int64) (x : Int32) (h1 : ¬ x < 1) (h2 : x ≤ 2000) (h3 : x ≤ 1000000 - dT) : Met l yDB_run wsDB_run ({ frames := 3, cells := 0, slots := 0, locals := 66 }) (va_Pc [.ref (a 0), .int x] (gG D (tyC cI cL) (wC cI cL a) ((dI, dO, dG, dN, dT), (aN, aB), (nS, nP, nR, nG, nO, nU, nT), (tP, tR, tO, tN, tF, tZ), (mP, mN)))) (va_Qi (fun (r : Int32) (u : CS) => r = dT + x ∧ u = ((dI, dO, fDB_run dO dG dT x, dN, dT + x), (aN, aB), ((LNB_dropSilent nG (dT + x) 16 0 nS nO nU).1, nP, nR, nG, (LNB_dropSilent nG (dT + x) 16 0 nS nO nU).2.1, (LNB_dropSilent nG (dT + x) 16 0 nS nO nU).2.2, nT), (tP, tR, tO, tN, tF, tZ), (mP, mN))) (gG D (tyC cI cL) (wC cI cL a)) A) 0 0 A := by
  refine g_enter (by decide) rfl (Nat.le_of_ble_eq_true rfl) ?_
  intro p e s m below meth c ls F hK hP hl
  obtain ⟨hx, hb, hr, hml, hown, hts, hlocks⟩ := id F
  have hS : va_S A s.heap s.heap [] := va_S.rf
  have hl : lv_has ls 3 [(0, .ref (a 0)), (1, .int x)] := hl
  refine lv_iload_n hx hb dDB_run_0 rfl (lv_at hl 1 rfl) ?_
  refine lv_iconst (v := 1) hx hb dDB_run_1 (by decide) ?_
  refine lv_icmp_lt (tgt := 12) hx hb dDB_run_2 (by decide) (fun c1 => absurd c1 h1) (fun c1 => ?_)
  refine lv_iload_n hx hb dDB_run_5 rfl (lv_at hl 1 rfl) ?_
  refine lv_sipush (v := 2000) hx hb dDB_run_6 (by decide) ?_
  refine lv_icmp_le (tgt := 22) hx hb dDB_run_9 (by decide) (fun c2 => ?_) (fun c2 => absurd h2 c2)
  refine lv_iload_n hx hb dDB_run_22 rfl (lv_at hl 1 rfl) ?_
  refine lv_ldc (v := 1000000) hx hb hown (hts _ k504) dDB_run_23 ?_
  refine lv_aload_n hx hb dDB_run_25 rfl (lv_at hl 0 rfl) ?_
  refine va_get (D := D) (ci := 4) (v := .int dT) (C := RDB) (T := TDB) (N := 9) hx hb hts inDB hown hK hP 0 rfl rfl 8 (by decide) (hts _ k136) (fun _ h9 => h9) rfl dDB_run_26 ?_
  refine lv_isub hx hb dDB_run_29 ?_
  refine lv_icmp_le (tgt := 43) hx hb dDB_run_30 (by decide) (fun c3 => ?_) (fun c3 => absurd h3 c3)
  refine lv_aload_n hx hb dDB_run_43 rfl (lv_at hl 0 rfl) ?_
  refine va_get (D := D) (ci := 4) (v := .int dT) (C := RDB) (T := TDB) (N := 9) hx hb hts inDB hown hK hP 0 rfl rfl 8 (by decide) (hts _ k136) (fun _ h9 => h9) rfl dDB_run_44 ?_
  refine lv_bipush (v := 20) hx hb dDB_run_47 (by decide) ?_
  refine lv_idiv hx hb dDB_run_49 (by decide) ?_
  refine lv_istore_n (lv' := [(2, .int (dT / 20)), (0, .ref (a 0)), (1, .int x)]) hx hb dDB_run_50 rfl hl (by decide) rfl (fun ls hl => ?_)
  refine lv_aload_n hx hb dDB_run_51 rfl (lv_at hl 1 rfl) ?_
  refine lv_dup hx hb dDB_run_52 rfl ?_
  refine va_get (D := D) (ci := 4) (v := .int dT) (C := RDB) (T := TDB) (N := 9) hx hb hts inDB hown hK hP 0 rfl rfl 8 (by decide) (hts _ k136) (fun _ h9 => h9) rfl dDB_run_53 ?_
  refine lv_iload_n hx hb dDB_run_56 rfl (lv_at hl 2 rfl) ?_
  refine lv_iadd hx hb dDB_run_57 ?_
  refine va_put (D := D) (ci := 4) (v := .int (dT + x)) (ty := .int) (C := RDB) (T := TDB) (N := 9) hx hb hts inDB tyDB tyDB_ok nmDB hown hK hP (hA _) hS 0 rfl rfl 8 (by decide) (hts _ k136) (fun _ h9 => h9) rfl (by decide +kernel) rfl rfl (Nat.le_of_ble_eq_true rfl) dDB_run_58 (fun H locs hP _ hS => ?_)
  have hP : va_P D vwCl (wC cI cL a ((dI, dO, dG, dN, dT + x), (aN, aB), (nS, nP, nR, nG, nO, nU, nT), (tP, tR, tO, tN, tF, tZ), (mP, mN))) H := hP
  refine lv_aload_n hx hb dDB_run_61 rfl (lv_at hl 1 rfl) ?_
  refine va_get (D := D) (ci := 4) (v := .int (dT + x)) (C := RDB) (T := TDB) (N := 9) hx hb hts inDB hown hK hP 0 rfl rfl 8 (by decide) (hts _ k136) (fun _ h9 => h9) rfl dDB_run_62 ?_
  refine lv_bipush (v := 20) hx hb dDB_run_65 (by decide) ?_
  refine lv_idiv hx hb dDB_run_67 (by decide) ?_
  refine lv_iload_n hx hb dDB_run_68 rfl (lv_at hl 0 rfl) ?_
  refine lv_icmp_le (tgt := 80) hx hb dDB_run_69 (by decide) (fun c4 => ?_) (fun c4 => ?_)
  · refine lv_aload_n hx hb dDB_run_80 rfl (lv_at hl 1 rfl) ?_
    refine va_get (D := D) (ci := 4) (v := .ref (a 4)) (C := RDB) (T := TDB) (N := 9) hx hb hts inDB hown hK hP 0 rfl rfl 2 (by decide) (hts _ k130) (fun _ h9 => h9) rfl dDB_run_81 ?_
    refine lv_aload_n hx hb dDB_run_84 rfl (lv_at hl 1 rfl) ?_
    refine va_get (D := D) (ci := 4) (v := .int (dT + x)) (C := RDB) (T := TDB) (N := 9) hx hb hts inDB hown hK hP 0 rfl rfl 8 (by decide) (hts _ k136) (fun _ h9 => h9) rfl dDB_run_85 ?_
    refine g_callVv (As := [.int (dT + x)]) (rest := []) ⟨hx, hb, hml, hown, hts⟩ (c_NB_dropSilent l hA dI dO dG dN (dT + x) aN aB nS nP nR nG nO nU nT tP tR tO tN tF tZ mP mN (dT + x)) (cwV 1 hts (gw_V k506 k507 k508 k29 k509) rfl rfl rfl (by decide +kernel) ⟨Nat.le_of_ble_eq_true rfl, Nat.le_of_ble_eq_true rfl⟩) hK hP (va_recv hK hP (ci := 2) (q0 := 4) rfl rfl) rfl hl.1 rfl (Nat.le_of_ble_eq_true rfl) dDB_run_88 ⟨Nat.zero_le _, Nat.zero_le _⟩ (fun q h => h) hS (fun H locs hP hS => ?_)
    have hP : va_P D vwCl (wC cI cL a ((dI, dO, dG, dN, dT + x), (aN, aB), ((LNB_dropSilent nG (dT + x) 16 0 nS nO nU).1, nP, nR, nG, (LNB_dropSilent nG (dT + x) 16 0 nS nO nU).2.1, (LNB_dropSilent nG (dT + x) 16 0 nS nO nU).2.2, nT), (tP, tR, tO, tN, tF, tZ), (mP, mN))) H := hP
    refine lv_aload_n hx hb dDB_run_91 rfl (lv_at hl 1 rfl) ?_
    refine va_get (D := D) (ci := 4) (v := .int (dT + x)) (C := RDB) (T := TDB) (N := 9) hx hb hts inDB hown hK hP 0 rfl rfl 8 (by decide) (hts _ k136) (fun _ h9 => h9) rfl dDB_run_92 ?_
    have e1 : fDB_run dO dG dT x = dG := by simp only [fDB_run, if_pos c4]
    exact g_iret (v := ((dI, dO, dG, dN, dT + x), (aN, aB), ((LNB_dropSilent nG (dT + x) 16 0 nS nO nU).1, nP, nR, nG, (LNB_dropSilent nG (dT + x) 16 0 nS nO nU).2.1, (LNB_dropSilent nG (dT + x) 16 0 nS nO nU).2.2, nT), (tP, tR, tO, tN, tF, tZ), (mP, mN))) hx hb hr hK hP hS ⟨by first | rfl | (rw [e1] <;> rfl), by first | rfl | (rw [e1] <;> rfl)⟩ hlocks dDB_run_95
  · refine lv_aload_n hx hb dDB_run_72 rfl (lv_at hl 1 rfl) ?_
    refine lv_aload_n hx hb dDB_run_73 rfl (lv_at hl 1 rfl) ?_
    refine va_get (D := D) (ci := 4) (v := .int dO) (C := RDB) (T := TDB) (N := 9) hx hb hts inDB hown hK hP 0 rfl rfl 5 (by decide) (hts _ k133) (fun _ h9 => h9) rfl dDB_run_74 ?_
    refine va_put (D := D) (ci := 4) (v := .int dO) (ty := .int) (C := RDB) (T := TDB) (N := 9) hx hb hts inDB tyDB tyDB_ok nmDB hown hK hP (hA _) hS 0 rfl rfl 6 (by decide) (hts _ k134) (fun _ h9 => h9) rfl (by decide +kernel) rfl rfl (Nat.le_of_ble_eq_true rfl) dDB_run_77 (fun H locs hP _ hS => ?_)
    have hP : va_P D vwCl (wC cI cL a ((dI, dO, dO, dN, dT + x), (aN, aB), (nS, nP, nR, nG, nO, nU, nT), (tP, tR, tO, tN, tF, tZ), (mP, mN))) H := hP
    refine lv_aload_n hx hb dDB_run_80 rfl (lv_at hl 1 rfl) ?_
    refine va_get (D := D) (ci := 4) (v := .ref (a 4)) (C := RDB) (T := TDB) (N := 9) hx hb hts inDB hown hK hP 0 rfl rfl 2 (by decide) (hts _ k130) (fun _ h9 => h9) rfl dDB_run_81 ?_
    refine lv_aload_n hx hb dDB_run_84 rfl (lv_at hl 1 rfl) ?_
    refine va_get (D := D) (ci := 4) (v := .int (dT + x)) (C := RDB) (T := TDB) (N := 9) hx hb hts inDB hown hK hP 0 rfl rfl 8 (by decide) (hts _ k136) (fun _ h9 => h9) rfl dDB_run_85 ?_
    refine g_callVv (As := [.int (dT + x)]) (rest := []) ⟨hx, hb, hml, hown, hts⟩ (c_NB_dropSilent l hA dI dO dO dN (dT + x) aN aB nS nP nR nG nO nU nT tP tR tO tN tF tZ mP mN (dT + x)) (cwV 1 hts (gw_V k506 k507 k508 k29 k509) rfl rfl rfl (by decide +kernel) ⟨Nat.le_of_ble_eq_true rfl, Nat.le_of_ble_eq_true rfl⟩) hK hP (va_recv hK hP (ci := 2) (q0 := 4) rfl rfl) rfl hl.1 rfl (Nat.le_of_ble_eq_true rfl) dDB_run_88 ⟨Nat.zero_le _, Nat.zero_le _⟩ (fun q h => h) hS (fun H locs hP hS => ?_)
    have hP : va_P D vwCl (wC cI cL a ((dI, dO, dO, dN, dT + x), (aN, aB), ((LNB_dropSilent nG (dT + x) 16 0 nS nO nU).1, nP, nR, nG, (LNB_dropSilent nG (dT + x) 16 0 nS nO nU).2.1, (LNB_dropSilent nG (dT + x) 16 0 nS nO nU).2.2, nT), (tP, tR, tO, tN, tF, tZ), (mP, mN))) H := hP
    refine lv_aload_n hx hb dDB_run_91 rfl (lv_at hl 1 rfl) ?_
    refine va_get (D := D) (ci := 4) (v := .int (dT + x)) (C := RDB) (T := TDB) (N := 9) hx hb hts inDB hown hK hP 0 rfl rfl 8 (by decide) (hts _ k136) (fun _ h9 => h9) rfl dDB_run_92 ?_
    have e1 : fDB_run dO dG dT x = dO := by simp only [fDB_run, if_neg c4]
    exact g_iret (v := ((dI, dO, dO, dN, dT + x), (aN, aB), ((LNB_dropSilent nG (dT + x) 16 0 nS nO nU).1, nP, nR, nG, (LNB_dropSilent nG (dT + x) 16 0 nS nO nU).2.1, (LNB_dropSilent nG (dT + x) 16 0 nS nO nU).2.2, nT), (tP, tR, tO, tN, tF, tZ), (mP, mN))) hx hb hr hK hP hS ⟨by first | rfl | (rw [e1] <;> rfl), by first | rfl | (rw [e1] <;> rfl)⟩ hlocks dDB_run_95
def LDB_makeGreeting (dG : Int32) (nS : Nat → Int32) (nP : Nat → Int32) (nR : Nat → Int32) (mP : Nat → Int32) (mN : Int64) : Nat → Nat → Bool × Int32 × (Nat → Int32) × Int64
  | 0, k => (false, dG, mP, mN)
  | n + 1, k => (if (dG &&& (bI k)) = 0 then LDB_makeGreeting dG nS nP nR mP mN n (k + 1)  else (true, dG &&& ((bI k) ^^^ (-1)), upd (upd (upd (upd (upd (upd mP 0 1) 1 (nI k)) 2 (-1)) 3 (-1)) 4 0) 5 0, (LNB_heardOn nS nP nR (nI k) 16 0 0)))
set_option maxHeartbeats 4000000 in
set_option maxRecDepth 100000 in
theorem lpDB_makeGreeting {p : Program} {l : Launch} {e : Env} {s : State} {m : MethodId} {args : Array Value} {below : List Frame} {meth : Method} {c : Code} {D : va_G} {cI cL : ClassId} {a : Nat → Nat} {A : Nat → Prop} (hA : ∀ v : CS, va_D A (wC cI cL a v)) (F : gFix p c cDB_makeGreeting meth (some .boolean) m s args bigW RDB 3) (hK : va_K D vwCl (tyC cI cL) s) {dI : Nat} {dO : Int32} {dG : Int32} {dN : Int32} {dT : Int32} {aN : Nat → Int32} {aB : Nat → Int32} {nS : Nat → Int32} {nP : Nat → Int32} {nR : Nat → Int32} {nG : Nat → Int32} {nO : Nat → Int64} {nU : Nat → Int64} {nT : Nat → Int32} {tP : Nat → Int32} {tR : Nat → Int32} {tO : Nat → Int32} {tN : Nat → Int32} {tF : Nat} {tZ : Nat} {mP : Nat → Int32} {mN : Int64}   (post : Int32 → CS → Prop) : ∀ (n k : Nat)   (ls : Array Slot) (H : Heap) (locs : List Loc), k + n = 8 → va_P D vwCl (wC cI cL a ((dI, dO, dG, dN, dT), (aN, aB), (nS, nP, nR, nG, nO, nU, nT), (tP, tR, tO, tN, tF, tZ), (mP, mN))) H → va_S A s.heap H locs → lv_has ls 3 [(1, .int (nI k)), (0, .ref (a 0))] → post (bi ((LDB_makeGreeting dG nS nP nR mP mN n k ).1)) ((dI, dO, (LDB_makeGreeting dG nS nP nR mP mN n k ).2.1, dN, dT), (aN, aB), (nS, nP, nR, nG, nO, nU, nT), (tP, tR, tO, tN, tF, tZ), ((LDB_makeGreeting dG nS nP nR mP mN n k ).2.2.1, (LDB_makeGreeting dG nS nP nR mP mN n k ).2.2.2)) → W p l e ({ frames := 2, cells := 0, slots := 0, locals := 46 }) s m args below meth c H locs 0 0 (MQ below (va_Qi post (gG D (tyC cI cL) (wC cI cL a)) A) args s 0 0 A) (F0 m 2 ls []) := by
  obtain ⟨hx, hb, hr, hml, hown, hts, hlocks⟩ := F
  intro n
  induction n with
  | zero =>
    intro k  ls H locs hkn  hP hS hl hq
    refine lv_iload_n hx hb dDB_makeGreeting_2 rfl (lv_at hl 0 rfl) ?_
    refine lv_bipush (v := nI 8) hx hb dDB_makeGreeting_3 (by decide) ?_
    refine lv_icmp_ge (tgt := 57) hx hb dDB_makeGreeting_5 (by decide) (fun _ => ?_) (fun c0 => absurd (nI_le (by omega) (by omega)) c0)
    refine lv_iconst (v := bi false) hx hb dDB_makeGreeting_57 (by decide) ?_
    have e1 : LDB_makeGreeting dG nS nP nR mP mN 0 k  = (false, dG, mP, mN) := by simp only [LDB_makeGreeting]
    rw [e1] at hq
    exact g_zret hx hb hr hK hP hS hq hlocks dDB_makeGreeting_58
  | succ n ih =>
    intro k  ls H locs hkn  hP hS hl hq
    refine lv_iload_n hx hb dDB_makeGreeting_2 rfl (lv_at hl 0 rfl) ?_
    refine lv_bipush (v := nI 8) hx hb dDB_makeGreeting_3 (by decide) ?_
    refine lv_icmp_ge (tgt := 57) hx hb dDB_makeGreeting_5 (by decide) (fun c0 => absurd c0 (nI_ge (by omega) (by decide))) (fun _ => ?_)
    refine lv_iconst (v := 1) hx hb dDB_makeGreeting_8 (by decide) ?_
    refine lv_iload_n hx hb dDB_makeGreeting_9 rfl (lv_at hl 0 rfl) ?_
    refine lv_ishl hx hb dDB_makeGreeting_10 ?_
    refine lv_eqi (y := bI k) rfl ?_
    refine lv_istore_n (lv' := [(2, .int (bI k)), (1, .int (nI k)), (0, .ref (a 0))]) hx hb dDB_makeGreeting_11 rfl hl (by decide) rfl (fun ls hl => ?_)
    refine lv_aload_n hx hb dDB_makeGreeting_12 rfl (lv_at hl 2 rfl) ?_
    refine va_get (D := D) (ci := 4) (v := .int dG) (C := RDB) (T := TDB) (N := 9) hx hb hts inDB hown hK hP 0 rfl rfl 6 (by decide) (hts _ k134) (fun _ h9 => h9) rfl dDB_makeGreeting_13 ?_
    refine lv_iload_n hx hb dDB_makeGreeting_16 rfl (lv_at hl 0 rfl) ?_
    refine lv_iand hx hb dDB_makeGreeting_17 ?_
    refine lv_if_eq (tgt := 51) hx hb dDB_makeGreeting_18 (by decide) (fun c3 => ?_) (fun c3 => ?_)
    · refine lv_iinc (v := nI (k + 1)) (lv' := [(1, .int (nI (k + 1))), (2, .int (bI k)), (0, .ref (a 0))]) hx hb dDB_makeGreeting_51 hl (k := 1) rfl (nI_1 k) (by decide) rfl (fun ls hl => ?_)
      refine lv_goto (tgt := 2) hx hb dDB_makeGreeting_54 (by decide) ?_
      have e1 : LDB_makeGreeting dG nS nP nR mP mN (n + 1) k  = LDB_makeGreeting dG nS nP nR mP mN n (k + 1)  := by simp only [LDB_makeGreeting, if_pos c3]
      rw [e1] at hq
      exact ih (k + 1)  ls H locs (by omega)  hP hS (lv_sub hl [0, 2] rfl) hq
    · refine lv_aload_n hx hb dDB_makeGreeting_21 rfl (lv_at hl 2 rfl) ?_
      refine lv_dup hx hb dDB_makeGreeting_22 rfl ?_
      refine va_get (D := D) (ci := 4) (v := .int dG) (C := RDB) (T := TDB) (N := 9) hx hb hts inDB hown hK hP 0 rfl rfl 6 (by decide) (hts _ k134) (fun _ h9 => h9) rfl dDB_makeGreeting_23 ?_
      refine lv_iload_n hx hb dDB_makeGreeting_26 rfl (lv_at hl 0 rfl) ?_
      refine lv_iconst (v := (-1)) hx hb dDB_makeGreeting_27 (by decide) ?_
      refine lv_ixor hx hb dDB_makeGreeting_28 ?_
      refine lv_iand hx hb dDB_makeGreeting_29 ?_
      refine va_put (D := D) (ci := 4) (v := .int (dG &&& ((bI k) ^^^ (-1)))) (ty := .int) (C := RDB) (T := TDB) (N := 9) hx hb hts inDB tyDB tyDB_ok nmDB hown hK hP (hA _) hS 0 rfl rfl 6 (by decide) (hts _ k134) (fun _ h9 => h9) rfl (by decide +kernel) rfl rfl (Nat.le_of_ble_eq_true rfl) dDB_makeGreeting_30 (fun H locs hP _ hS => ?_)
      have hP : va_P D vwCl (wC cI cL a ((dI, dO, dG &&& ((bI k) ^^^ (-1)), dN, dT), (aN, aB), (nS, nP, nR, nG, nO, nU, nT), (tP, tR, tO, tN, tF, tZ), (mP, mN))) H := hP
      refine lv_aload_n hx hb dDB_makeGreeting_33 rfl (lv_at hl 2 rfl) ?_
      refine va_get (D := D) (ci := 4) (v := .ref (a 17)) (C := RDB) (T := TDB) (N := 9) hx hb hts inDB hown hK hP 0 rfl rfl 4 (by decide) (hts _ k132) (fun _ h9 => h9) rfl dDB_makeGreeting_34 ?_
      refine lv_iload_n hx hb dDB_makeGreeting_37 rfl (lv_at hl 1 rfl) ?_
      refine lv_aload_n hx hb dDB_makeGreeting_38 rfl (lv_at hl 2 rfl) ?_
      refine va_get (D := D) (ci := 4) (v := .ref (a 4)) (C := RDB) (T := TDB) (N := 9) hx hb hts inDB hown hK hP 0 rfl rfl 2 (by decide) (hts _ k130) (fun _ h9 => h9) rfl dDB_makeGreeting_39 ?_
      refine lv_iload_n hx hb dDB_makeGreeting_42 rfl (lv_at hl 1 rfl) ?_
      refine g_roVl (As := [.int (nI k)]) (rest := [.int (nI k), .ref (a 17)]) ⟨hx, hb, hml, hown, hts⟩ (c_NB_heardOn l dI dO (dG &&& ((bI k) ^^^ (-1))) dN dT aN aB nS nP nR nG nO nU nT tP tR tO tN tF tZ mP mN (nI k)) (cwV 1 hts (gw_V k180 k181 k182 k29 k183) rfl rfl rfl (by decide +kernel) ⟨Nat.le_of_ble_eq_true rfl, Nat.le_of_ble_eq_true rfl⟩) hK hP (va_recv hK hP (ci := 2) (q0 := 4) rfl rfl) rfl hl.1 rfl (Nat.le_of_ble_eq_true rfl) dDB_makeGreeting_43 ⟨Nat.zero_le _, Nat.zero_le _⟩ ?_
      refine g_callVv (As := [.int (nI k), .long (LNB_heardOn nS nP nR (nI k) 16 0 0)]) (rest := []) ⟨hx, hb, hml, hown, hts⟩ (c_MS_makeGreeting l hA dI dO (dG &&& ((bI k) ^^^ (-1))) dN dT aN aB nS nP nR nG nO nU nT tP tR tO tN tF tZ mP mN (nI k) (LNB_heardOn nS nP nR (nI k) 16 0 0)) (cwV 2 hts (gw_V k184 k185 k186 k31 k187) rfl rfl rfl (by decide +kernel) ⟨Nat.le_of_ble_eq_true rfl, Nat.le_of_ble_eq_true rfl⟩) hK hP (va_recv hK hP (ci := 1) (q0 := 17) rfl rfl) rfl hl.1 rfl (Nat.le_of_ble_eq_true rfl) dDB_makeGreeting_46 ⟨Nat.zero_le _, Nat.zero_le _⟩ (fun q h => h) hS (fun H locs hP hS => ?_)
      have hP : va_P D vwCl (wC cI cL a ((dI, dO, dG &&& ((bI k) ^^^ (-1)), dN, dT), (aN, aB), (nS, nP, nR, nG, nO, nU, nT), (tP, tR, tO, tN, tF, tZ), (upd (upd (upd (upd (upd (upd mP 0 1) 1 (nI k)) 2 (-1)) 3 (-1)) 4 0) 5 0, (LNB_heardOn nS nP nR (nI k) 16 0 0)))) H := hP
      refine lv_iconst (v := bi true) hx hb dDB_makeGreeting_49 (by decide) ?_
      have e1 : LDB_makeGreeting dG nS nP nR mP mN (n + 1) k  = (true, dG &&& ((bI k) ^^^ (-1)), upd (upd (upd (upd (upd (upd mP 0 1) 1 (nI k)) 2 (-1)) 3 (-1)) 4 0) 5 0, (LNB_heardOn nS nP nR (nI k) 16 0 0)) := by simp only [LDB_makeGreeting, if_neg c3]
      rw [e1] at hq
      exact g_zret hx hb hr hK hP hS hq hlocks dDB_makeGreeting_50
set_option maxHeartbeats 4000000 in
set_option maxRecDepth 100000 in
theorem c_DB_makeGreeting (l : Launch) {D : va_G} {cI cL : ClassId} {a : Nat → Nat} {A : Nat → Prop} (hA : ∀ v : CS, va_D A (wC cI cL a v)) (dI : Nat) (dO dG dN dT : Int32) (aN aB : Nat → Int32) (nS nP nR nG : Nat → Int32) (nO nU : Nat → Int64) (nT : Nat → Int32) (tP tR tO tN : Nat → Int32) (tF tZ : Nat) (mP : Nat → Int32) (mN : Int64)   : Met l yDB_makeGreeting wsDB_makeGreeting ({ frames := 2, cells := 0, slots := 0, locals := 46 }) (va_Pc [.ref (a 0)] (gG D (tyC cI cL) (wC cI cL a) ((dI, dO, dG, dN, dT), (aN, aB), (nS, nP, nR, nG, nO, nU, nT), (tP, tR, tO, tN, tF, tZ), (mP, mN)))) (va_Qi (fun (r : Int32) (u : CS) => r = bi ((LDB_makeGreeting dG nS nP nR mP mN 8 0 ).1) ∧ u = ((dI, dO, (LDB_makeGreeting dG nS nP nR mP mN 8 0 ).2.1, dN, dT), (aN, aB), (nS, nP, nR, nG, nO, nU, nT), (tP, tR, tO, tN, tF, tZ), ((LDB_makeGreeting dG nS nP nR mP mN 8 0 ).2.2.1, (LDB_makeGreeting dG nS nP nR mP mN 8 0 ).2.2.2))) (gG D (tyC cI cL) (wC cI cL a)) A) 0 0 A := by
  refine g_enter (by decide) rfl (Nat.le_of_ble_eq_true rfl) ?_
  intro p e s m below meth c ls F hK hP hl
  obtain ⟨hx, hb, hr, hml, hown, hts, hlocks⟩ := id F
  have hS : va_S A s.heap s.heap [] := va_S.rf
  have hl : lv_has ls 3 [(0, .ref (a 0))] := hl
  refine lv_iconst (v := nI 0) hx hb dDB_makeGreeting_0 (by decide) ?_
  refine lv_istore_n (lv' := [(1, .int (nI 0)), (0, .ref (a 0))]) hx hb dDB_makeGreeting_1 rfl hl (by decide) rfl (fun ls hl => ?_)
  exact lpDB_makeGreeting hA F hK  _ 8 0  ls _ _ rfl  hP hS (lv_sub hl [0, 1] rfl) ⟨rfl, rfl⟩
def fDB_makeThanks (tP : Nat → Int32) (tR : Nat → Int32) (tO : Nat → Int32) (tN : Nat → Int32) (tF : Nat) (tZ : Nat) (mP : Nat → Int32) (mN : Int64) : Bool × Nat × Nat × (Nat → Int32) × Int64 := (cond (fTQ_isEmpty tZ) (false, tF, tZ, mP, mN) (true, (tF + 1) % 64, tZ - 1, upd (upd (upd (upd (upd (upd mP 0 2) 1 (tP tF)) 2 (tR tF)) 3 (tO tF)) 4 (tN tF)) 5 0, 0))
set_option maxHeartbeats 4000000 in
set_option maxRecDepth 100000 in
theorem c_DB_makeThanks (l : Launch) {D : va_G} {cI cL : ClassId} {a : Nat → Nat} {A : Nat → Prop} (hA : ∀ v : CS, va_D A (wC cI cL a v)) (dI : Nat) (dO dG dN dT : Int32) (aN aB : Nat → Int32) (nS nP nR nG : Nat → Int32) (nO nU : Nat → Int64) (nT : Nat → Int32) (tP tR tO tN : Nat → Int32) (tF tZ : Nat) (mP : Nat → Int32) (mN : Int64)  (hF : tF < 64) (hZ : tZ ≤ 64) : Met l yDB_makeThanks wsDB_makeThanks ({ frames := 3, cells := 0, slots := 0, locals := 68 }) (va_Pc [.ref (a 0)] (gG D (tyC cI cL) (wC cI cL a) ((dI, dO, dG, dN, dT), (aN, aB), (nS, nP, nR, nG, nO, nU, nT), (tP, tR, tO, tN, tF, tZ), (mP, mN)))) (va_Qi (fun (r : Int32) (u : CS) => r = bi ((fDB_makeThanks tP tR tO tN tF tZ mP mN).1) ∧ u = ((dI, dO, dG, dN, dT), (aN, aB), (nS, nP, nR, nG, nO, nU, nT), (tP, tR, tO, tN, (fDB_makeThanks tP tR tO tN tF tZ mP mN).2.1, (fDB_makeThanks tP tR tO tN tF tZ mP mN).2.2.1), ((fDB_makeThanks tP tR tO tN tF tZ mP mN).2.2.2.1, (fDB_makeThanks tP tR tO tN tF tZ mP mN).2.2.2.2))) (gG D (tyC cI cL) (wC cI cL a)) A) 0 0 A := by
  refine g_enter (by decide) rfl (Nat.le_of_ble_eq_true rfl) ?_
  intro p e s m below meth c ls F hK hP hl
  obtain ⟨hx, hb, hr, hml, hown, hts, hlocks⟩ := id F
  have hS : va_S A s.heap s.heap [] := va_S.rf
  have hl : lv_has ls 1 [(0, .ref (a 0))] := hl
  refine lv_aload_n hx hb dDB_makeThanks_0 rfl (lv_at hl 0 rfl) ?_
  refine va_get (D := D) (ci := 4) (v := .ref (a 12)) (C := RDB) (T := TDB) (N := 9) hx hb hts inDB hown hK hP 0 rfl rfl 3 (by decide) (hts _ k131) (fun _ h9 => h9) rfl dDB_makeThanks_1 ?_
  refine g_roVi (As := []) (rest := []) ⟨hx, hb, hml, hown, hts⟩ (c_TQ_isEmpty l dI dO dG dN dT aN aB nS nP nR nG nO nU nT tP tR tO tN tF tZ mP mN (by first | omega | assumption)) (cwV 0 hts (gw_V k200 k201 k202 k30 k203) rfl rfl rfl (by decide +kernel) ⟨Nat.le_of_ble_eq_true rfl, Nat.le_of_ble_eq_true rfl⟩) hK hP (va_recv hK hP (ci := 3) (q0 := 12) rfl rfl) rfl hl.1 rfl (Nat.le_of_ble_eq_true rfl) dDB_makeThanks_4 ⟨Nat.zero_le _, Nat.zero_le _⟩ ?_
  refine lv_if_eqb (tgt := 12) hx hb dDB_makeThanks_7 (by decide) (fun c1 => ?_) (fun c1 => ?_)
  · have hZ0 := isEmpty_pos c1
    refine lv_aload_n hx hb dDB_makeThanks_12 rfl (lv_at hl 0 rfl) ?_
    refine va_get (D := D) (ci := 4) (v := .ref (a 12)) (C := RDB) (T := TDB) (N := 9) hx hb hts inDB hown hK hP 0 rfl rfl 3 (by decide) (hts _ k131) (fun _ h9 => h9) rfl dDB_makeThanks_13 ?_
    refine lv_aload_n hx hb dDB_makeThanks_16 rfl (lv_at hl 0 rfl) ?_
    refine va_get (D := D) (ci := 4) (v := .ref (a 17)) (C := RDB) (T := TDB) (N := 9) hx hb hts inDB hown hK hP 0 rfl rfl 4 (by decide) (hts _ k132) (fun _ h9 => h9) rfl dDB_makeThanks_17 ?_
    refine g_callVv (As := [.ref (a 17)]) (rest := []) ⟨hx, hb, hml, hown, hts⟩ (c_TQ_moveFirstTo l hA dI dO dG dN dT aN aB nS nP nR nG nO nU nT tP tR tO tN tF tZ mP mN (by first | omega | assumption) (by first | omega | assumption)) (cwV 1 hts (gw_V k204 k205 k206 k30 k207) rfl rfl rfl (by decide +kernel) ⟨Nat.le_of_ble_eq_true rfl, Nat.le_of_ble_eq_true rfl⟩) hK hP (va_recv hK hP (ci := 3) (q0 := 12) rfl rfl) rfl hl.1 rfl (Nat.le_of_ble_eq_true rfl) dDB_makeThanks_20 ⟨Nat.zero_le _, Nat.zero_le _⟩ (fun q h => h) hS (fun H locs hP hS => ?_)
    have hP : va_P D vwCl (wC cI cL a ((dI, dO, dG, dN, dT), (aN, aB), (nS, nP, nR, nG, nO, nU, nT), (tP, tR, tO, tN, (tF + 1) % 64, tZ - 1), (upd (upd (upd (upd (upd (upd mP 0 2) 1 (tP tF)) 2 (tR tF)) 3 (tO tF)) 4 (tN tF)) 5 0, 0))) H := hP
    refine lv_iconst (v := bi true) hx hb dDB_makeThanks_23 (by decide) ?_
    have e1 : fDB_makeThanks tP tR tO tN tF tZ mP mN = (true, (tF + 1) % 64, tZ - 1, upd (upd (upd (upd (upd (upd mP 0 2) 1 (tP tF)) 2 (tR tF)) 3 (tO tF)) 4 (tN tF)) 5 0, 0) := by simp only [fDB_makeThanks, cond_no c1]
    exact g_zret (v := ((dI, dO, dG, dN, dT), (aN, aB), (nS, nP, nR, nG, nO, nU, nT), (tP, tR, tO, tN, (tF + 1) % 64, tZ - 1), (upd (upd (upd (upd (upd (upd mP 0 2) 1 (tP tF)) 2 (tR tF)) 3 (tO tF)) 4 (tN tF)) 5 0, 0))) hx hb hr hK hP hS ⟨by first | rfl | (rw [e1] <;> rfl), by first | rfl | (rw [e1] <;> rfl)⟩ hlocks dDB_makeThanks_24
  · refine lv_iconst (v := bi false) hx hb dDB_makeThanks_10 (by decide) ?_
    have e1 : fDB_makeThanks tP tR tO tN tF tZ mP mN = (false, tF, tZ, mP, mN) := by simp only [fDB_makeThanks, cond_yes c1]
    exact g_zret (v := ((dI, dO, dG, dN, dT), (aN, aB), (nS, nP, nR, nG, nO, nU, nT), (tP, tR, tO, tN, tF, tZ), (mP, mN))) hx hb hr hK hP hS ⟨by first | rfl | (rw [e1] <;> rfl), by first | rfl | (rw [e1] <;> rfl)⟩ hlocks dDB_makeThanks_11
def fDB_makeAdvert (dT : Int32) (aN : Nat → Int32) (aB : Nat → Int32) (nP : Nat → Int32) (nR : Nat → Int32) (nO : Nat → Int64) (nU : Nat → Int64) (nT : Nat → Int32) (mP : Nat → Int32) (mN : Int64) : Bool × (Nat → Int64) × (Nat → Int32) × (Nat → Int32) × Int64 := (match LNB_firstToServe nP nR nO nU nT dT 16 0 none 512 with | none => (false, nU, nT, mP, mN) | some k1 => (match LNB_firstToSend nO nU nT k1 dT 64 0  with | none => (false, nU, nT, mP, mN) | some k5 => (true, vp_updL nU k1 ((nU k1) &&& ((bL k5) ^^^ (-1))), upd nT ((k1 * 64) + k5) dT, upd (upd (upd (upd (upd (upd mP 0 3) 1 (nP k1)) 2 (nR k1)) 3 (nI k5)) 4 (aN k5)) 5 (aB k5), 0)))
set_option maxHeartbeats 4000000 in
set_option maxRecDepth 100000 in
theorem c_DB_makeAdvert (l : Launch) {D : va_G} {cI cL : ClassId} {a : Nat → Nat} {A : Nat → Prop} (hA : ∀ v : CS, va_D A (wC cI cL a v)) (dI : Nat) (dO dG dN dT : Int32) (aN aB : Nat → Int32) (nS nP nR nG : Nat → Int32) (nO nU : Nat → Int64) (nT : Nat → Int32) (tP tR tO tN : Nat → Int32) (tF tZ : Nat) (mP : Nat → Int32) (mN : Int64)   : Met l yDB_makeAdvert wsDB_makeAdvert ({ frames := 3, cells := 0, slots := 0, locals := 73 }) (va_Pc [.ref (a 0)] (gG D (tyC cI cL) (wC cI cL a) ((dI, dO, dG, dN, dT), (aN, aB), (nS, nP, nR, nG, nO, nU, nT), (tP, tR, tO, tN, tF, tZ), (mP, mN)))) (va_Qi (fun (r : Int32) (u : CS) => r = bi ((fDB_makeAdvert dT aN aB nP nR nO nU nT mP mN).1) ∧ u = ((dI, dO, dG, dN, dT), (aN, aB), (nS, nP, nR, nG, nO, (fDB_makeAdvert dT aN aB nP nR nO nU nT mP mN).2.1, (fDB_makeAdvert dT aN aB nP nR nO nU nT mP mN).2.2.1), (tP, tR, tO, tN, tF, tZ), ((fDB_makeAdvert dT aN aB nP nR nO nU nT mP mN).2.2.2.1, (fDB_makeAdvert dT aN aB nP nR nO nU nT mP mN).2.2.2.2))) (gG D (tyC cI cL) (wC cI cL a)) A) 0 0 A := by
  refine g_enter (by decide) rfl (Nat.le_of_ble_eq_true rfl) ?_
  intro p e s m below meth c ls F hK hP hl
  obtain ⟨hx, hb, hr, hml, hown, hts, hlocks⟩ := id F
  have hS : va_S A s.heap s.heap [] := va_S.rf
  have hl : lv_has ls 3 [(0, .ref (a 0))] := hl
  refine lv_aload_n hx hb dDB_makeAdvert_0 rfl (lv_at hl 0 rfl) ?_
  refine va_get (D := D) (ci := 4) (v := .ref (a 4)) (C := RDB) (T := TDB) (N := 9) hx hb hts inDB hown hK hP 0 rfl rfl 2 (by decide) (hts _ k130) (fun _ h9 => h9) rfl dDB_makeAdvert_1 ?_
  refine lv_aload_n hx hb dDB_makeAdvert_4 rfl (lv_at hl 0 rfl) ?_
  refine va_get (D := D) (ci := 4) (v := .int dT) (C := RDB) (T := TDB) (N := 9) hx hb hts inDB hown hK hP 0 rfl rfl 8 (by decide) (hts _ k136) (fun _ h9 => h9) rfl dDB_makeAdvert_5 ?_
  refine g_roVi (As := [.int dT]) (rest := []) ⟨hx, hb, hml, hown, hts⟩ (c_NB_firstToServe l dI dO dG dN dT aN aB nS nP nR nG nO nU nT tP tR tO tN tF tZ mP mN dT) (cwV 1 hts (gw_V k216 k217 k218 k29 k219) rfl rfl rfl (by decide +kernel) ⟨Nat.le_of_ble_eq_true rfl, Nat.le_of_ble_eq_true rfl⟩) hK hP (va_recv hK hP (ci := 2) (q0 := 4) rfl rfl) rfl hl.1 rfl (Nat.le_of_ble_eq_true rfl) dDB_makeAdvert_8 ⟨Nat.zero_le _, Nat.zero_le _⟩ ?_
  rcases ho2 : LNB_firstToServe nP nR nO nU nT dT 16 0 none 512 with _ | k1
  · refine lv_istore_n (lv' := [(1, .int (oi none)), (0, .ref (a 0))]) hx hb dDB_makeAdvert_11 rfl hl (by decide) rfl (fun ls hl => ?_)
    refine lv_iload_n hx hb dDB_makeAdvert_12 rfl (lv_at hl 0 rfl) ?_
    refine lv_iconst (v := (-1)) hx hb dDB_makeAdvert_13 (by decide) ?_
    refine lv_icmp_ne (tgt := 19) hx hb dDB_makeAdvert_14 (by decide) (fun c0 => absurd rfl c0) (fun _ => ?_)
    refine lv_iconst (v := bi false) hx hb dDB_makeAdvert_17 (by decide) ?_
    have e1 : fDB_makeAdvert dT aN aB nP nR nO nU nT mP mN = (false, nU, nT, mP, mN) := by simp only [fDB_makeAdvert, ho2]
    exact g_zret (v := ((dI, dO, dG, dN, dT), (aN, aB), (nS, nP, nR, nG, nO, nU, nT), (tP, tR, tO, tN, tF, tZ), (mP, mN))) hx hb hr hK hP hS ⟨by first | rfl | (rw [e1] <;> rfl), by first | rfl | (rw [e1] <;> rfl)⟩ hlocks dDB_makeAdvert_18
  · have hk1 := c_NB_firstToServe_lt ho2
    refine lv_istore_n (lv' := [(1, .int (nI k1)), (0, .ref (a 0))]) hx hb dDB_makeAdvert_11 rfl hl (by decide) rfl (fun ls hl => ?_)
    refine lv_iload_n hx hb dDB_makeAdvert_12 rfl (lv_at hl 0 rfl) ?_
    refine lv_iconst (v := (-1)) hx hb dDB_makeAdvert_13 (by decide) ?_
    refine lv_icmp_ne (tgt := 19) hx hb dDB_makeAdvert_14 (by decide) (fun _ => ?_) (fun c0 => absurd c0 (nI_m1 (by omega)))
    refine lv_aload_n hx hb dDB_makeAdvert_19 rfl (lv_at hl 1 rfl) ?_
    refine va_get (D := D) (ci := 4) (v := .ref (a 4)) (C := RDB) (T := TDB) (N := 9) hx hb hts inDB hown hK hP 0 rfl rfl 2 (by decide) (hts _ k130) (fun _ h9 => h9) rfl dDB_makeAdvert_20 ?_
    refine lv_iload_n hx hb dDB_makeAdvert_23 rfl (lv_at hl 0 rfl) ?_
    refine lv_aload_n hx hb dDB_makeAdvert_24 rfl (lv_at hl 1 rfl) ?_
    refine va_get (D := D) (ci := 4) (v := .int dT) (C := RDB) (T := TDB) (N := 9) hx hb hts inDB hown hK hP 0 rfl rfl 8 (by decide) (hts _ k136) (fun _ h9 => h9) rfl dDB_makeAdvert_25 ?_
    refine g_roVi (As := [.int (nI k1), .int dT]) (rest := []) ⟨hx, hb, hml, hown, hts⟩ (c_NB_firstToSend l dI dO dG dN dT aN aB nS nP nR nG nO nU nT tP tR tO tN tF tZ mP mN k1 dT (by first | omega | assumption)) (cwV 2 hts (gw_V k228 k221 k222 k29 k223) rfl rfl rfl (by decide +kernel) ⟨Nat.le_of_ble_eq_true rfl, Nat.le_of_ble_eq_true rfl⟩) hK hP (va_recv hK hP (ci := 2) (q0 := 4) rfl rfl) rfl hl.1 rfl (Nat.le_of_ble_eq_true rfl) dDB_makeAdvert_28 ⟨Nat.zero_le _, Nat.zero_le _⟩ ?_
    rcases ho6 : LNB_firstToSend nO nU nT k1 dT 64 0  with _ | k5
    · refine lv_istore_n (lv' := [(2, .int (oi none)), (1, .int (nI k1)), (0, .ref (a 0))]) hx hb dDB_makeAdvert_31 rfl hl (by decide) rfl (fun ls hl => ?_)
      refine lv_iload_n hx hb dDB_makeAdvert_32 rfl (lv_at hl 0 rfl) ?_
      refine lv_iconst (v := (-1)) hx hb dDB_makeAdvert_33 (by decide) ?_
      refine lv_icmp_ne (tgt := 39) hx hb dDB_makeAdvert_34 (by decide) (fun c0 => absurd rfl c0) (fun _ => ?_)
      refine lv_iconst (v := bi false) hx hb dDB_makeAdvert_37 (by decide) ?_
      have e1 : fDB_makeAdvert dT aN aB nP nR nO nU nT mP mN = (false, nU, nT, mP, mN) := by first | (simp only [fDB_makeAdvert, ho2, ho6]; done) | (simp only [fDB_makeAdvert, ho2]; simp only [ho6])
      exact g_zret (v := ((dI, dO, dG, dN, dT), (aN, aB), (nS, nP, nR, nG, nO, nU, nT), (tP, tR, tO, tN, tF, tZ), (mP, mN))) hx hb hr hK hP hS ⟨by first | rfl | (rw [e1] <;> rfl), by first | rfl | (rw [e1] <;> rfl)⟩ hlocks dDB_makeAdvert_38
    · have hk5 := c_NB_firstToSend_lt ho6
      refine lv_istore_n (lv' := [(2, .int (nI k5)), (1, .int (nI k1)), (0, .ref (a 0))]) hx hb dDB_makeAdvert_31 rfl hl (by decide) rfl (fun ls hl => ?_)
      refine lv_iload_n hx hb dDB_makeAdvert_32 rfl (lv_at hl 0 rfl) ?_
      refine lv_iconst (v := (-1)) hx hb dDB_makeAdvert_33 (by decide) ?_
      refine lv_icmp_ne (tgt := 39) hx hb dDB_makeAdvert_34 (by decide) (fun _ => ?_) (fun c0 => absurd c0 (nI_m1 (by omega)))
      refine lv_aload_n hx hb dDB_makeAdvert_39 rfl (lv_at hl 2 rfl) ?_
      refine va_get (D := D) (ci := 4) (v := .ref (a 4)) (C := RDB) (T := TDB) (N := 9) hx hb hts inDB hown hK hP 0 rfl rfl 2 (by decide) (hts _ k130) (fun _ h9 => h9) rfl dDB_makeAdvert_40 ?_
      refine lv_iload_n hx hb dDB_makeAdvert_43 rfl (lv_at hl 1 rfl) ?_
      refine lv_iload_n hx hb dDB_makeAdvert_44 rfl (lv_at hl 0 rfl) ?_
      refine lv_aload_n hx hb dDB_makeAdvert_45 rfl (lv_at hl 2 rfl) ?_
      refine va_get (D := D) (ci := 4) (v := .int dT) (C := RDB) (T := TDB) (N := 9) hx hb hts inDB hown hK hP 0 rfl rfl 8 (by decide) (hts _ k136) (fun _ h9 => h9) rfl dDB_makeAdvert_46 ?_
      refine g_callVv (As := [.int (nI k1), .int (nI k5), .int dT]) (rest := []) ⟨hx, hb, hml, hown, hts⟩ (c_NB_sent l hA dI dO dG dN dT aN aB nS nP nR nG nO nU nT tP tR tO tN tF tZ mP mN k1 k5 dT (by first | omega | assumption) (by first | omega | assumption)) (cwV 3 hts (gw_V k229 k230 k231 k29 k232) rfl rfl rfl (by decide +kernel) ⟨Nat.le_of_ble_eq_true rfl, Nat.le_of_ble_eq_true rfl⟩) hK hP (va_recv hK hP (ci := 2) (q0 := 4) rfl rfl) rfl hl.1 rfl (Nat.le_of_ble_eq_true rfl) dDB_makeAdvert_49 ⟨Nat.zero_le _, Nat.zero_le _⟩ (fun q h => h) hS (fun H locs hP hS => ?_)
      have hP : va_P D vwCl (wC cI cL a ((dI, dO, dG, dN, dT), (aN, aB), (nS, nP, nR, nG, nO, vp_updL nU k1 ((nU k1) &&& ((bL k5) ^^^ (-1))), upd nT ((k1 * 64) + k5) dT), (tP, tR, tO, tN, tF, tZ), (mP, mN))) H := hP
      refine lv_aload_n hx hb dDB_makeAdvert_52 rfl (lv_at hl 2 rfl) ?_
      refine va_get (D := D) (ci := 4) (v := .ref (a 17)) (C := RDB) (T := TDB) (N := 9) hx hb hts inDB hown hK hP 0 rfl rfl 4 (by decide) (hts _ k132) (fun _ h9 => h9) rfl dDB_makeAdvert_53 ?_
      refine lv_aload_n hx hb dDB_makeAdvert_56 rfl (lv_at hl 2 rfl) ?_
      refine va_get (D := D) (ci := 4) (v := .ref (a 4)) (C := RDB) (T := TDB) (N := 9) hx hb hts inDB hown hK hP 0 rfl rfl 2 (by decide) (hts _ k130) (fun _ h9 => h9) rfl dDB_makeAdvert_57 ?_
      refine lv_iload_n hx hb dDB_makeAdvert_60 rfl (lv_at hl 1 rfl) ?_
      refine g_roVi (As := [.int (nI k1)]) (rest := [.ref (a 17)]) ⟨hx, hb, hml, hown, hts⟩ (c_NB_portAt l dI dO dG dN dT aN aB nS nP nR nG nO (vp_updL nU k1 ((nU k1) &&& ((bL k5) ^^^ (-1)))) (upd nT ((k1 * 64) + k5) dT) tP tR tO tN tF tZ mP mN k1 (by first | omega | assumption)) (cwV 1 hts (gw_V k234 k235 k236 k29 k237) rfl rfl rfl (by decide +kernel) ⟨Nat.le_of_ble_eq_true rfl, Nat.le_of_ble_eq_true rfl⟩) hK hP (va_recv hK hP (ci := 2) (q0 := 4) rfl rfl) rfl hl.1 rfl (Nat.le_of_ble_eq_true rfl) dDB_makeAdvert_61 ⟨Nat.zero_le _, Nat.zero_le _⟩ ?_
      refine lv_aload_n hx hb dDB_makeAdvert_64 rfl (lv_at hl 2 rfl) ?_
      refine va_get (D := D) (ci := 4) (v := .ref (a 4)) (C := RDB) (T := TDB) (N := 9) hx hb hts inDB hown hK hP 0 rfl rfl 2 (by decide) (hts _ k130) (fun _ h9 => h9) rfl dDB_makeAdvert_65 ?_
      refine lv_iload_n hx hb dDB_makeAdvert_68 rfl (lv_at hl 1 rfl) ?_
      refine g_roVi (As := [.int (nI k1)]) (rest := [.int (nP k1), .ref (a 17)]) ⟨hx, hb, hml, hown, hts⟩ (c_NB_routerAt l dI dO dG dN dT aN aB nS nP nR nG nO (vp_updL nU k1 ((nU k1) &&& ((bL k5) ^^^ (-1)))) (upd nT ((k1 * 64) + k5) dT) tP tR tO tN tF tZ mP mN k1 (by first | omega | assumption)) (cwV 1 hts (gw_V k238 k239 k240 k29 k241) rfl rfl rfl (by decide +kernel) ⟨Nat.le_of_ble_eq_true rfl, Nat.le_of_ble_eq_true rfl⟩) hK hP (va_recv hK hP (ci := 2) (q0 := 4) rfl rfl) rfl hl.1 rfl (Nat.le_of_ble_eq_true rfl) dDB_makeAdvert_69 ⟨Nat.zero_le _, Nat.zero_le _⟩ ?_
      refine lv_iload_n hx hb dDB_makeAdvert_72 rfl (lv_at hl 0 rfl) ?_
      refine lv_aload_n hx hb dDB_makeAdvert_73 rfl (lv_at hl 2 rfl) ?_
      refine va_get (D := D) (ci := 4) (v := .ref (a 1)) (C := RDB) (T := TDB) (N := 9) hx hb hts inDB hown hK hP 0 rfl rfl 1 (by decide) (hts _ k129) (fun _ h9 => h9) rfl dDB_makeAdvert_74 ?_
      refine lv_iload_n hx hb dDB_makeAdvert_77 rfl (lv_at hl 0 rfl) ?_
      refine g_roVi (As := [.int (nI k5)]) (rest := [.int (nI k5), .int (nR k1), .int (nP k1), .ref (a 17)]) ⟨hx, hb, hml, hown, hts⟩ (c_AD_numberOf l dI dO dG dN dT aN aB nS nP nR nG nO (vp_updL nU k1 ((nU k1) &&& ((bL k5) ^^^ (-1)))) (upd nT ((k1 * 64) + k5) dT) tP tR tO tN tF tZ mP mN k5 (by first | omega | assumption)) (cwV 1 hts (gw_V k242 k243 k244 k28 k245) rfl rfl rfl (by decide +kernel) ⟨Nat.le_of_ble_eq_true rfl, Nat.le_of_ble_eq_true rfl⟩) hK hP (va_recv hK hP (ci := 0) (q0 := 1) rfl rfl) rfl hl.1 rfl (Nat.le_of_ble_eq_true rfl) dDB_makeAdvert_78 ⟨Nat.zero_le _, Nat.zero_le _⟩ ?_
      refine lv_aload_n hx hb dDB_makeAdvert_81 rfl (lv_at hl 2 rfl) ?_
      refine va_get (D := D) (ci := 4) (v := .ref (a 1)) (C := RDB) (T := TDB) (N := 9) hx hb hts inDB hown hK hP 0 rfl rfl 1 (by decide) (hts _ k129) (fun _ h9 => h9) rfl dDB_makeAdvert_82 ?_
      refine lv_iload_n hx hb dDB_makeAdvert_85 rfl (lv_at hl 0 rfl) ?_
      refine g_roVi (As := [.int (nI k5)]) (rest := [.int (aN k5), .int (nI k5), .int (nR k1), .int (nP k1), .ref (a 17)]) ⟨hx, hb, hml, hown, hts⟩ (c_AD_bodyOf l dI dO dG dN dT aN aB nS nP nR nG nO (vp_updL nU k1 ((nU k1) &&& ((bL k5) ^^^ (-1)))) (upd nT ((k1 * 64) + k5) dT) tP tR tO tN tF tZ mP mN k5 (by first | omega | assumption)) (cwV 1 hts (gw_V k246 k247 k248 k28 k249) rfl rfl rfl (by decide +kernel) ⟨Nat.le_of_ble_eq_true rfl, Nat.le_of_ble_eq_true rfl⟩) hK hP (va_recv hK hP (ci := 0) (q0 := 1) rfl rfl) rfl hl.1 rfl (Nat.le_of_ble_eq_true rfl) dDB_makeAdvert_86 ⟨Nat.zero_le _, Nat.zero_le _⟩ ?_
      refine g_callVv (As := [.int (nP k1), .int (nR k1), .int (nI k5), .int (aN k5), .int (aB k5)]) (rest := []) ⟨hx, hb, hml, hown, hts⟩ (c_MS_makeAdvert l hA dI dO dG dN dT aN aB nS nP nR nG nO (vp_updL nU k1 ((nU k1) &&& ((bL k5) ^^^ (-1)))) (upd nT ((k1 * 64) + k5) dT) tP tR tO tN tF tZ mP mN (nP k1) (nR k1) (nI k5) (aN k5) (aB k5)) (cwV 5 hts (gw_V k250 k251 k252 k31 k253) rfl rfl rfl (by decide +kernel) ⟨Nat.le_of_ble_eq_true rfl, Nat.le_of_ble_eq_true rfl⟩) hK hP (va_recv hK hP (ci := 1) (q0 := 17) rfl rfl) rfl hl.1 rfl (Nat.le_of_ble_eq_true rfl) dDB_makeAdvert_89 ⟨Nat.zero_le _, Nat.zero_le _⟩ (fun q h => h) hS (fun H locs hP hS => ?_)
      have hP : va_P D vwCl (wC cI cL a ((dI, dO, dG, dN, dT), (aN, aB), (nS, nP, nR, nG, nO, vp_updL nU k1 ((nU k1) &&& ((bL k5) ^^^ (-1))), upd nT ((k1 * 64) + k5) dT), (tP, tR, tO, tN, tF, tZ), (upd (upd (upd (upd (upd (upd mP 0 3) 1 (nP k1)) 2 (nR k1)) 3 (nI k5)) 4 (aN k5)) 5 (aB k5), 0))) H := hP
      refine lv_iconst (v := bi true) hx hb dDB_makeAdvert_92 (by decide) ?_
      have e1 : fDB_makeAdvert dT aN aB nP nR nO nU nT mP mN = (true, vp_updL nU k1 ((nU k1) &&& ((bL k5) ^^^ (-1))), upd nT ((k1 * 64) + k5) dT, upd (upd (upd (upd (upd (upd mP 0 3) 1 (nP k1)) 2 (nR k1)) 3 (nI k5)) 4 (aN k5)) 5 (aB k5), 0) := by first | (simp only [fDB_makeAdvert, ho2, ho6]; done) | (simp only [fDB_makeAdvert, ho2]; simp only [ho6])
      exact g_zret (v := ((dI, dO, dG, dN, dT), (aN, aB), (nS, nP, nR, nG, nO, vp_updL nU k1 ((nU k1) &&& ((bL k5) ^^^ (-1))), upd nT ((k1 * 64) + k5) dT), (tP, tR, tO, tN, tF, tZ), (upd (upd (upd (upd (upd (upd mP 0 3) 1 (nP k1)) 2 (nR k1)) 3 (nI k5)) 4 (aN k5)) 5 (aB k5), 0))) hx hb hr hK hP hS ⟨by first | rfl | (rw [e1] <;> rfl), by first | rfl | (rw [e1] <;> rfl)⟩ hlocks dDB_makeAdvert_93
def fDB_next (dG : Int32) (dT : Int32) (aN : Nat → Int32) (aB : Nat → Int32) (nS : Nat → Int32) (nP : Nat → Int32) (nR : Nat → Int32) (nO : Nat → Int64) (nU : Nat → Int64) (nT : Nat → Int32) (tP : Nat → Int32) (tR : Nat → Int32) (tO : Nat → Int32) (tN : Nat → Int32) (tF : Nat) (tZ : Nat) (mP : Nat → Int32) (mN : Int64) : Bool × (Nat → Int64) × (Nat → Int32) × Nat × Nat × (Nat → Int32) × Int64 := (cond ((LDB_makeGreeting dG nS nP nR mP mN 8 0 ).1) (true, nU, nT, tF, tZ, (LDB_makeGreeting dG nS nP nR mP mN 8 0 ).2.2.1, (LDB_makeGreeting dG nS nP nR mP mN 8 0 ).2.2.2) (cond ((fDB_makeThanks tP tR tO tN tF tZ ((LDB_makeGreeting dG nS nP nR mP mN 8 0 ).2.2.1) ((LDB_makeGreeting dG nS nP nR mP mN 8 0 ).2.2.2)).1) (true, nU, nT, (fDB_makeThanks tP tR tO tN tF tZ ((LDB_makeGreeting dG nS nP nR mP mN 8 0 ).2.2.1) ((LDB_makeGreeting dG nS nP nR mP mN 8 0 ).2.2.2)).2.1, (fDB_makeThanks tP tR tO tN tF tZ ((LDB_makeGreeting dG nS nP nR mP mN 8 0 ).2.2.1) ((LDB_makeGreeting dG nS nP nR mP mN 8 0 ).2.2.2)).2.2.1, (fDB_makeThanks tP tR tO tN tF tZ ((LDB_makeGreeting dG nS nP nR mP mN 8 0 ).2.2.1) ((LDB_makeGreeting dG nS nP nR mP mN 8 0 ).2.2.2)).2.2.2.1, (fDB_makeThanks tP tR tO tN tF tZ ((LDB_makeGreeting dG nS nP nR mP mN 8 0 ).2.2.1) ((LDB_makeGreeting dG nS nP nR mP mN 8 0 ).2.2.2)).2.2.2.2) (cond ((fDB_makeAdvert dT aN aB nP nR nO nU nT ((fDB_makeThanks tP tR tO tN tF tZ ((LDB_makeGreeting dG nS nP nR mP mN 8 0 ).2.2.1) ((LDB_makeGreeting dG nS nP nR mP mN 8 0 ).2.2.2)).2.2.2.1) ((fDB_makeThanks tP tR tO tN tF tZ ((LDB_makeGreeting dG nS nP nR mP mN 8 0 ).2.2.1) ((LDB_makeGreeting dG nS nP nR mP mN 8 0 ).2.2.2)).2.2.2.2)).1) (true, (fDB_makeAdvert dT aN aB nP nR nO nU nT ((fDB_makeThanks tP tR tO tN tF tZ ((LDB_makeGreeting dG nS nP nR mP mN 8 0 ).2.2.1) ((LDB_makeGreeting dG nS nP nR mP mN 8 0 ).2.2.2)).2.2.2.1) ((fDB_makeThanks tP tR tO tN tF tZ ((LDB_makeGreeting dG nS nP nR mP mN 8 0 ).2.2.1) ((LDB_makeGreeting dG nS nP nR mP mN 8 0 ).2.2.2)).2.2.2.2)).2.1, (fDB_makeAdvert dT aN aB nP nR nO nU nT ((fDB_makeThanks tP tR tO tN tF tZ ((LDB_makeGreeting dG nS nP nR mP mN 8 0 ).2.2.1) ((LDB_makeGreeting dG nS nP nR mP mN 8 0 ).2.2.2)).2.2.2.1) ((fDB_makeThanks tP tR tO tN tF tZ ((LDB_makeGreeting dG nS nP nR mP mN 8 0 ).2.2.1) ((LDB_makeGreeting dG nS nP nR mP mN 8 0 ).2.2.2)).2.2.2.2)).2.2.1, (fDB_makeThanks tP tR tO tN tF tZ ((LDB_makeGreeting dG nS nP nR mP mN 8 0 ).2.2.1) ((LDB_makeGreeting dG nS nP nR mP mN 8 0 ).2.2.2)).2.1, (fDB_makeThanks tP tR tO tN tF tZ ((LDB_makeGreeting dG nS nP nR mP mN 8 0 ).2.2.1) ((LDB_makeGreeting dG nS nP nR mP mN 8 0 ).2.2.2)).2.2.1, (fDB_makeAdvert dT aN aB nP nR nO nU nT ((fDB_makeThanks tP tR tO tN tF tZ ((LDB_makeGreeting dG nS nP nR mP mN 8 0 ).2.2.1) ((LDB_makeGreeting dG nS nP nR mP mN 8 0 ).2.2.2)).2.2.2.1) ((fDB_makeThanks tP tR tO tN tF tZ ((LDB_makeGreeting dG nS nP nR mP mN 8 0 ).2.2.1) ((LDB_makeGreeting dG nS nP nR mP mN 8 0 ).2.2.2)).2.2.2.2)).2.2.2.1, (fDB_makeAdvert dT aN aB nP nR nO nU nT ((fDB_makeThanks tP tR tO tN tF tZ ((LDB_makeGreeting dG nS nP nR mP mN 8 0 ).2.2.1) ((LDB_makeGreeting dG nS nP nR mP mN 8 0 ).2.2.2)).2.2.2.1) ((fDB_makeThanks tP tR tO tN tF tZ ((LDB_makeGreeting dG nS nP nR mP mN 8 0 ).2.2.1) ((LDB_makeGreeting dG nS nP nR mP mN 8 0 ).2.2.2)).2.2.2.2)).2.2.2.2) (false, (fDB_makeAdvert dT aN aB nP nR nO nU nT ((fDB_makeThanks tP tR tO tN tF tZ ((LDB_makeGreeting dG nS nP nR mP mN 8 0 ).2.2.1) ((LDB_makeGreeting dG nS nP nR mP mN 8 0 ).2.2.2)).2.2.2.1) ((fDB_makeThanks tP tR tO tN tF tZ ((LDB_makeGreeting dG nS nP nR mP mN 8 0 ).2.2.1) ((LDB_makeGreeting dG nS nP nR mP mN 8 0 ).2.2.2)).2.2.2.2)).2.1, (fDB_makeAdvert dT aN aB nP nR nO nU nT ((fDB_makeThanks tP tR tO tN tF tZ ((LDB_makeGreeting dG nS nP nR mP mN 8 0 ).2.2.1) ((LDB_makeGreeting dG nS nP nR mP mN 8 0 ).2.2.2)).2.2.2.1) ((fDB_makeThanks tP tR tO tN tF tZ ((LDB_makeGreeting dG nS nP nR mP mN 8 0 ).2.2.1) ((LDB_makeGreeting dG nS nP nR mP mN 8 0 ).2.2.2)).2.2.2.2)).2.2.1, (fDB_makeThanks tP tR tO tN tF tZ ((LDB_makeGreeting dG nS nP nR mP mN 8 0 ).2.2.1) ((LDB_makeGreeting dG nS nP nR mP mN 8 0 ).2.2.2)).2.1, (fDB_makeThanks tP tR tO tN tF tZ ((LDB_makeGreeting dG nS nP nR mP mN 8 0 ).2.2.1) ((LDB_makeGreeting dG nS nP nR mP mN 8 0 ).2.2.2)).2.2.1, (fDB_makeAdvert dT aN aB nP nR nO nU nT ((fDB_makeThanks tP tR tO tN tF tZ ((LDB_makeGreeting dG nS nP nR mP mN 8 0 ).2.2.1) ((LDB_makeGreeting dG nS nP nR mP mN 8 0 ).2.2.2)).2.2.2.1) ((fDB_makeThanks tP tR tO tN tF tZ ((LDB_makeGreeting dG nS nP nR mP mN 8 0 ).2.2.1) ((LDB_makeGreeting dG nS nP nR mP mN 8 0 ).2.2.2)).2.2.2.2)).2.2.2.1, (fDB_makeAdvert dT aN aB nP nR nO nU nT ((fDB_makeThanks tP tR tO tN tF tZ ((LDB_makeGreeting dG nS nP nR mP mN 8 0 ).2.2.1) ((LDB_makeGreeting dG nS nP nR mP mN 8 0 ).2.2.2)).2.2.2.1) ((fDB_makeThanks tP tR tO tN tF tZ ((LDB_makeGreeting dG nS nP nR mP mN 8 0 ).2.2.1) ((LDB_makeGreeting dG nS nP nR mP mN 8 0 ).2.2.2)).2.2.2.2)).2.2.2.2))))
set_option maxHeartbeats 4000000 in
set_option maxRecDepth 100000 in
theorem c_DB_next (l : Launch) {D : va_G} {cI cL : ClassId} {a : Nat → Nat} {A : Nat → Prop} (hA : ∀ v : CS, va_D A (wC cI cL a v)) (dI : Nat) (dO dG dN dT : Int32) (aN aB : Nat → Int32) (nS nP nR nG : Nat → Int32) (nO nU : Nat → Int64) (nT : Nat → Int32) (tP tR tO tN : Nat → Int32) (tF tZ : Nat) (mP : Nat → Int32) (mN : Int64)  (hF : tF < 64) (hZ : tZ ≤ 64) : Met l yDB_next wsDB_next ({ frames := 4, cells := 0, slots := 0, locals := 95 }) (va_Pc [.ref (a 0)] (gG D (tyC cI cL) (wC cI cL a) ((dI, dO, dG, dN, dT), (aN, aB), (nS, nP, nR, nG, nO, nU, nT), (tP, tR, tO, tN, tF, tZ), (mP, mN)))) (va_Qi (fun (r : Int32) (u : CS) => r = bi ((fDB_next dG dT aN aB nS nP nR nO nU nT tP tR tO tN tF tZ mP mN).1) ∧ u = ((dI, dO, (LDB_makeGreeting dG nS nP nR mP mN 8 0 ).2.1, dN, dT), (aN, aB), (nS, nP, nR, nG, nO, (fDB_next dG dT aN aB nS nP nR nO nU nT tP tR tO tN tF tZ mP mN).2.1, (fDB_next dG dT aN aB nS nP nR nO nU nT tP tR tO tN tF tZ mP mN).2.2.1), (tP, tR, tO, tN, (fDB_next dG dT aN aB nS nP nR nO nU nT tP tR tO tN tF tZ mP mN).2.2.2.1, (fDB_next dG dT aN aB nS nP nR nO nU nT tP tR tO tN tF tZ mP mN).2.2.2.2.1), ((fDB_next dG dT aN aB nS nP nR nO nU nT tP tR tO tN tF tZ mP mN).2.2.2.2.2.1, (fDB_next dG dT aN aB nS nP nR nO nU nT tP tR tO tN tF tZ mP mN).2.2.2.2.2.2))) (gG D (tyC cI cL) (wC cI cL a)) A) 0 0 A := by
  refine g_enter (by decide) rfl (Nat.le_of_ble_eq_true rfl) ?_
  intro p e s m below meth c ls F hK hP hl
  obtain ⟨hx, hb, hr, hml, hown, hts, hlocks⟩ := id F
  have hS : va_S A s.heap s.heap [] := va_S.rf
  have hl : lv_has ls 1 [(0, .ref (a 0))] := hl
  refine lv_aload_n hx hb dDB_next_0 rfl (lv_at hl 0 rfl) ?_
  refine g_callVi (As := []) (rest := []) ⟨hx, hb, hml, hown, hts⟩ (c_DB_makeGreeting l hA dI dO dG dN dT aN aB nS nP nR nG nO nU nT tP tR tO tN tF tZ mP mN) (cwV 0 hts (gw_V k176 k178 k0 k27 k179) rfl rfl rfl (by decide +kernel) ⟨Nat.le_of_ble_eq_true rfl, Nat.le_of_ble_eq_true rfl⟩) hK hP (va_recv hK hP (ci := 4) (q0 := 0) rfl rfl) rfl hl.1 rfl (Nat.le_of_ble_eq_true rfl) dDB_next_1 ⟨Nat.zero_le _, Nat.zero_le _⟩ (fun q h => h) hS (fun H locs hP hS => ?_)
  have hP : va_P D vwCl (wC cI cL a ((dI, dO, (LDB_makeGreeting dG nS nP nR mP mN 8 0 ).2.1, dN, dT), (aN, aB), (nS, nP, nR, nG, nO, nU, nT), (tP, tR, tO, tN, tF, tZ), ((LDB_makeGreeting dG nS nP nR mP mN 8 0 ).2.2.1, (LDB_makeGreeting dG nS nP nR mP mN 8 0 ).2.2.2))) H := hP
  refine lv_if_neb (tgt := 21) hx hb dDB_next_4 (by decide) (fun c1 => ?_) (fun c1 => ?_)
  · refine lv_iconst (v := bi true) hx hb dDB_next_21 (by decide) ?_
    refine lv_goto (tgt := 26) hx hb dDB_next_22 (by decide) ?_
    have e1 : fDB_next dG dT aN aB nS nP nR nO nU nT tP tR tO tN tF tZ mP mN = (true, nU, nT, tF, tZ, (LDB_makeGreeting dG nS nP nR mP mN 8 0 ).2.2.1, (LDB_makeGreeting dG nS nP nR mP mN 8 0 ).2.2.2) := by simp only [fDB_next, cond_yes c1]
    exact g_zret (v := ((dI, dO, (LDB_makeGreeting dG nS nP nR mP mN 8 0 ).2.1, dN, dT), (aN, aB), (nS, nP, nR, nG, nO, nU, nT), (tP, tR, tO, tN, tF, tZ), ((LDB_makeGreeting dG nS nP nR mP mN 8 0 ).2.2.1, (LDB_makeGreeting dG nS nP nR mP mN 8 0 ).2.2.2))) hx hb hr hK hP hS ⟨by first | rfl | (rw [e1] <;> rfl), by first | rfl | (rw [e1] <;> rfl)⟩ hlocks dDB_next_26
  · refine lv_aload_n hx hb dDB_next_7 rfl (lv_at hl 0 rfl) ?_
    refine g_callVi (As := []) (rest := []) ⟨hx, hb, hml, hown, hts⟩ (c_DB_makeThanks l hA dI dO ((LDB_makeGreeting dG nS nP nR mP mN 8 0 ).2.1) dN dT aN aB nS nP nR nG nO nU nT tP tR tO tN tF tZ ((LDB_makeGreeting dG nS nP nR mP mN 8 0 ).2.2.1) ((LDB_makeGreeting dG nS nP nR mP mN 8 0 ).2.2.2) (by first | omega | assumption) (by first | omega | assumption)) (cwV 0 hts (gw_V k196 k198 k3 k27 k199) rfl rfl rfl (by decide +kernel) ⟨Nat.le_of_ble_eq_true rfl, Nat.le_of_ble_eq_true rfl⟩) hK hP (va_recv hK hP (ci := 4) (q0 := 0) rfl rfl) rfl hl.1 rfl (Nat.le_of_ble_eq_true rfl) dDB_next_8 ⟨Nat.zero_le _, Nat.zero_le _⟩ (fun q h => h) hS (fun H locs hP hS => ?_)
    have hP : va_P D vwCl (wC cI cL a ((dI, dO, (LDB_makeGreeting dG nS nP nR mP mN 8 0 ).2.1, dN, dT), (aN, aB), (nS, nP, nR, nG, nO, nU, nT), (tP, tR, tO, tN, (fDB_makeThanks tP tR tO tN tF tZ ((LDB_makeGreeting dG nS nP nR mP mN 8 0 ).2.2.1) ((LDB_makeGreeting dG nS nP nR mP mN 8 0 ).2.2.2)).2.1, (fDB_makeThanks tP tR tO tN tF tZ ((LDB_makeGreeting dG nS nP nR mP mN 8 0 ).2.2.1) ((LDB_makeGreeting dG nS nP nR mP mN 8 0 ).2.2.2)).2.2.1), ((fDB_makeThanks tP tR tO tN tF tZ ((LDB_makeGreeting dG nS nP nR mP mN 8 0 ).2.2.1) ((LDB_makeGreeting dG nS nP nR mP mN 8 0 ).2.2.2)).2.2.2.1, (fDB_makeThanks tP tR tO tN tF tZ ((LDB_makeGreeting dG nS nP nR mP mN 8 0 ).2.2.1) ((LDB_makeGreeting dG nS nP nR mP mN 8 0 ).2.2.2)).2.2.2.2))) H := hP
    refine lv_if_neb (tgt := 21) hx hb dDB_next_11 (by decide) (fun c2 => ?_) (fun c2 => ?_)
    · refine lv_iconst (v := bi true) hx hb dDB_next_21 (by decide) ?_
      refine lv_goto (tgt := 26) hx hb dDB_next_22 (by decide) ?_
      have e1 : fDB_next dG dT aN aB nS nP nR nO nU nT tP tR tO tN tF tZ mP mN = (true, nU, nT, (fDB_makeThanks tP tR tO tN tF tZ ((LDB_makeGreeting dG nS nP nR mP mN 8 0 ).2.2.1) ((LDB_makeGreeting dG nS nP nR mP mN 8 0 ).2.2.2)).2.1, (fDB_makeThanks tP tR tO tN tF tZ ((LDB_makeGreeting dG nS nP nR mP mN 8 0 ).2.2.1) ((LDB_makeGreeting dG nS nP nR mP mN 8 0 ).2.2.2)).2.2.1, (fDB_makeThanks tP tR tO tN tF tZ ((LDB_makeGreeting dG nS nP nR mP mN 8 0 ).2.2.1) ((LDB_makeGreeting dG nS nP nR mP mN 8 0 ).2.2.2)).2.2.2.1, (fDB_makeThanks tP tR tO tN tF tZ ((LDB_makeGreeting dG nS nP nR mP mN 8 0 ).2.2.1) ((LDB_makeGreeting dG nS nP nR mP mN 8 0 ).2.2.2)).2.2.2.2) := by first | (simp only [fDB_next, cond_no c1, cond_yes c2]; done) | (simp only [fDB_next, cond_no c1]; simp only [cond_yes c2])
      exact g_zret (v := ((dI, dO, (LDB_makeGreeting dG nS nP nR mP mN 8 0 ).2.1, dN, dT), (aN, aB), (nS, nP, nR, nG, nO, nU, nT), (tP, tR, tO, tN, (fDB_makeThanks tP tR tO tN tF tZ ((LDB_makeGreeting dG nS nP nR mP mN 8 0 ).2.2.1) ((LDB_makeGreeting dG nS nP nR mP mN 8 0 ).2.2.2)).2.1, (fDB_makeThanks tP tR tO tN tF tZ ((LDB_makeGreeting dG nS nP nR mP mN 8 0 ).2.2.1) ((LDB_makeGreeting dG nS nP nR mP mN 8 0 ).2.2.2)).2.2.1), ((fDB_makeThanks tP tR tO tN tF tZ ((LDB_makeGreeting dG nS nP nR mP mN 8 0 ).2.2.1) ((LDB_makeGreeting dG nS nP nR mP mN 8 0 ).2.2.2)).2.2.2.1, (fDB_makeThanks tP tR tO tN tF tZ ((LDB_makeGreeting dG nS nP nR mP mN 8 0 ).2.2.1) ((LDB_makeGreeting dG nS nP nR mP mN 8 0 ).2.2.2)).2.2.2.2))) hx hb hr hK hP hS ⟨by first | rfl | (rw [e1] <;> rfl), by first | rfl | (rw [e1] <;> rfl)⟩ hlocks dDB_next_26
    · refine lv_aload_n hx hb dDB_next_14 rfl (lv_at hl 0 rfl) ?_
      refine g_callVi (As := []) (rest := []) ⟨hx, hb, hml, hown, hts⟩ (c_DB_makeAdvert l hA dI dO ((LDB_makeGreeting dG nS nP nR mP mN 8 0 ).2.1) dN dT aN aB nS nP nR nG nO nU nT tP tR tO tN ((fDB_makeThanks tP tR tO tN tF tZ ((LDB_makeGreeting dG nS nP nR mP mN 8 0 ).2.2.1) ((LDB_makeGreeting dG nS nP nR mP mN 8 0 ).2.2.2)).2.1) ((fDB_makeThanks tP tR tO tN tF tZ ((LDB_makeGreeting dG nS nP nR mP mN 8 0 ).2.2.1) ((LDB_makeGreeting dG nS nP nR mP mN 8 0 ).2.2.2)).2.2.1) ((fDB_makeThanks tP tR tO tN tF tZ ((LDB_makeGreeting dG nS nP nR mP mN 8 0 ).2.2.1) ((LDB_makeGreeting dG nS nP nR mP mN 8 0 ).2.2.2)).2.2.2.1) ((fDB_makeThanks tP tR tO tN tF tZ ((LDB_makeGreeting dG nS nP nR mP mN 8 0 ).2.2.1) ((LDB_makeGreeting dG nS nP nR mP mN 8 0 ).2.2.2)).2.2.2.2)) (cwV 0 hts (gw_V k212 k214 k4 k27 k215) rfl rfl rfl (by decide +kernel) ⟨Nat.le_of_ble_eq_true rfl, Nat.le_of_ble_eq_true rfl⟩) hK hP (va_recv hK hP (ci := 4) (q0 := 0) rfl rfl) rfl hl.1 rfl (Nat.le_of_ble_eq_true rfl) dDB_next_15 ⟨Nat.zero_le _, Nat.zero_le _⟩ (fun q h => h) hS (fun H locs hP hS => ?_)
      have hP : va_P D vwCl (wC cI cL a ((dI, dO, (LDB_makeGreeting dG nS nP nR mP mN 8 0 ).2.1, dN, dT), (aN, aB), (nS, nP, nR, nG, nO, (fDB_makeAdvert dT aN aB nP nR nO nU nT ((fDB_makeThanks tP tR tO tN tF tZ ((LDB_makeGreeting dG nS nP nR mP mN 8 0 ).2.2.1) ((LDB_makeGreeting dG nS nP nR mP mN 8 0 ).2.2.2)).2.2.2.1) ((fDB_makeThanks tP tR tO tN tF tZ ((LDB_makeGreeting dG nS nP nR mP mN 8 0 ).2.2.1) ((LDB_makeGreeting dG nS nP nR mP mN 8 0 ).2.2.2)).2.2.2.2)).2.1, (fDB_makeAdvert dT aN aB nP nR nO nU nT ((fDB_makeThanks tP tR tO tN tF tZ ((LDB_makeGreeting dG nS nP nR mP mN 8 0 ).2.2.1) ((LDB_makeGreeting dG nS nP nR mP mN 8 0 ).2.2.2)).2.2.2.1) ((fDB_makeThanks tP tR tO tN tF tZ ((LDB_makeGreeting dG nS nP nR mP mN 8 0 ).2.2.1) ((LDB_makeGreeting dG nS nP nR mP mN 8 0 ).2.2.2)).2.2.2.2)).2.2.1), (tP, tR, tO, tN, (fDB_makeThanks tP tR tO tN tF tZ ((LDB_makeGreeting dG nS nP nR mP mN 8 0 ).2.2.1) ((LDB_makeGreeting dG nS nP nR mP mN 8 0 ).2.2.2)).2.1, (fDB_makeThanks tP tR tO tN tF tZ ((LDB_makeGreeting dG nS nP nR mP mN 8 0 ).2.2.1) ((LDB_makeGreeting dG nS nP nR mP mN 8 0 ).2.2.2)).2.2.1), ((fDB_makeAdvert dT aN aB nP nR nO nU nT ((fDB_makeThanks tP tR tO tN tF tZ ((LDB_makeGreeting dG nS nP nR mP mN 8 0 ).2.2.1) ((LDB_makeGreeting dG nS nP nR mP mN 8 0 ).2.2.2)).2.2.2.1) ((fDB_makeThanks tP tR tO tN tF tZ ((LDB_makeGreeting dG nS nP nR mP mN 8 0 ).2.2.1) ((LDB_makeGreeting dG nS nP nR mP mN 8 0 ).2.2.2)).2.2.2.2)).2.2.2.1, (fDB_makeAdvert dT aN aB nP nR nO nU nT ((fDB_makeThanks tP tR tO tN tF tZ ((LDB_makeGreeting dG nS nP nR mP mN 8 0 ).2.2.1) ((LDB_makeGreeting dG nS nP nR mP mN 8 0 ).2.2.2)).2.2.2.1) ((fDB_makeThanks tP tR tO tN tF tZ ((LDB_makeGreeting dG nS nP nR mP mN 8 0 ).2.2.1) ((LDB_makeGreeting dG nS nP nR mP mN 8 0 ).2.2.2)).2.2.2.2)).2.2.2.2))) H := hP
      refine lv_if_eqb (tgt := 25) hx hb dDB_next_18 (by decide) (fun c3 => ?_) (fun c3 => ?_)
      · refine lv_iconst (v := bi false) hx hb dDB_next_25 (by decide) ?_
        have e1 : fDB_next dG dT aN aB nS nP nR nO nU nT tP tR tO tN tF tZ mP mN = (false, (fDB_makeAdvert dT aN aB nP nR nO nU nT ((fDB_makeThanks tP tR tO tN tF tZ ((LDB_makeGreeting dG nS nP nR mP mN 8 0 ).2.2.1) ((LDB_makeGreeting dG nS nP nR mP mN 8 0 ).2.2.2)).2.2.2.1) ((fDB_makeThanks tP tR tO tN tF tZ ((LDB_makeGreeting dG nS nP nR mP mN 8 0 ).2.2.1) ((LDB_makeGreeting dG nS nP nR mP mN 8 0 ).2.2.2)).2.2.2.2)).2.1, (fDB_makeAdvert dT aN aB nP nR nO nU nT ((fDB_makeThanks tP tR tO tN tF tZ ((LDB_makeGreeting dG nS nP nR mP mN 8 0 ).2.2.1) ((LDB_makeGreeting dG nS nP nR mP mN 8 0 ).2.2.2)).2.2.2.1) ((fDB_makeThanks tP tR tO tN tF tZ ((LDB_makeGreeting dG nS nP nR mP mN 8 0 ).2.2.1) ((LDB_makeGreeting dG nS nP nR mP mN 8 0 ).2.2.2)).2.2.2.2)).2.2.1, (fDB_makeThanks tP tR tO tN tF tZ ((LDB_makeGreeting dG nS nP nR mP mN 8 0 ).2.2.1) ((LDB_makeGreeting dG nS nP nR mP mN 8 0 ).2.2.2)).2.1, (fDB_makeThanks tP tR tO tN tF tZ ((LDB_makeGreeting dG nS nP nR mP mN 8 0 ).2.2.1) ((LDB_makeGreeting dG nS nP nR mP mN 8 0 ).2.2.2)).2.2.1, (fDB_makeAdvert dT aN aB nP nR nO nU nT ((fDB_makeThanks tP tR tO tN tF tZ ((LDB_makeGreeting dG nS nP nR mP mN 8 0 ).2.2.1) ((LDB_makeGreeting dG nS nP nR mP mN 8 0 ).2.2.2)).2.2.2.1) ((fDB_makeThanks tP tR tO tN tF tZ ((LDB_makeGreeting dG nS nP nR mP mN 8 0 ).2.2.1) ((LDB_makeGreeting dG nS nP nR mP mN 8 0 ).2.2.2)).2.2.2.2)).2.2.2.1, (fDB_makeAdvert dT aN aB nP nR nO nU nT ((fDB_makeThanks tP tR tO tN tF tZ ((LDB_makeGreeting dG nS nP nR mP mN 8 0 ).2.2.1) ((LDB_makeGreeting dG nS nP nR mP mN 8 0 ).2.2.2)).2.2.2.1) ((fDB_makeThanks tP tR tO tN tF tZ ((LDB_makeGreeting dG nS nP nR mP mN 8 0 ).2.2.1) ((LDB_makeGreeting dG nS nP nR mP mN 8 0 ).2.2.2)).2.2.2.2)).2.2.2.2) := by first | (simp only [fDB_next, cond_no c1, cond_no c2, cond_no c3]; done) | (simp only [fDB_next, cond_no c1]; simp only [cond_no c2]; simp only [cond_no c3])
        exact g_zret (v := ((dI, dO, (LDB_makeGreeting dG nS nP nR mP mN 8 0 ).2.1, dN, dT), (aN, aB), (nS, nP, nR, nG, nO, (fDB_makeAdvert dT aN aB nP nR nO nU nT ((fDB_makeThanks tP tR tO tN tF tZ ((LDB_makeGreeting dG nS nP nR mP mN 8 0 ).2.2.1) ((LDB_makeGreeting dG nS nP nR mP mN 8 0 ).2.2.2)).2.2.2.1) ((fDB_makeThanks tP tR tO tN tF tZ ((LDB_makeGreeting dG nS nP nR mP mN 8 0 ).2.2.1) ((LDB_makeGreeting dG nS nP nR mP mN 8 0 ).2.2.2)).2.2.2.2)).2.1, (fDB_makeAdvert dT aN aB nP nR nO nU nT ((fDB_makeThanks tP tR tO tN tF tZ ((LDB_makeGreeting dG nS nP nR mP mN 8 0 ).2.2.1) ((LDB_makeGreeting dG nS nP nR mP mN 8 0 ).2.2.2)).2.2.2.1) ((fDB_makeThanks tP tR tO tN tF tZ ((LDB_makeGreeting dG nS nP nR mP mN 8 0 ).2.2.1) ((LDB_makeGreeting dG nS nP nR mP mN 8 0 ).2.2.2)).2.2.2.2)).2.2.1), (tP, tR, tO, tN, (fDB_makeThanks tP tR tO tN tF tZ ((LDB_makeGreeting dG nS nP nR mP mN 8 0 ).2.2.1) ((LDB_makeGreeting dG nS nP nR mP mN 8 0 ).2.2.2)).2.1, (fDB_makeThanks tP tR tO tN tF tZ ((LDB_makeGreeting dG nS nP nR mP mN 8 0 ).2.2.1) ((LDB_makeGreeting dG nS nP nR mP mN 8 0 ).2.2.2)).2.2.1), ((fDB_makeAdvert dT aN aB nP nR nO nU nT ((fDB_makeThanks tP tR tO tN tF tZ ((LDB_makeGreeting dG nS nP nR mP mN 8 0 ).2.2.1) ((LDB_makeGreeting dG nS nP nR mP mN 8 0 ).2.2.2)).2.2.2.1) ((fDB_makeThanks tP tR tO tN tF tZ ((LDB_makeGreeting dG nS nP nR mP mN 8 0 ).2.2.1) ((LDB_makeGreeting dG nS nP nR mP mN 8 0 ).2.2.2)).2.2.2.2)).2.2.2.1, (fDB_makeAdvert dT aN aB nP nR nO nU nT ((fDB_makeThanks tP tR tO tN tF tZ ((LDB_makeGreeting dG nS nP nR mP mN 8 0 ).2.2.1) ((LDB_makeGreeting dG nS nP nR mP mN 8 0 ).2.2.2)).2.2.2.1) ((fDB_makeThanks tP tR tO tN tF tZ ((LDB_makeGreeting dG nS nP nR mP mN 8 0 ).2.2.1) ((LDB_makeGreeting dG nS nP nR mP mN 8 0 ).2.2.2)).2.2.2.2)).2.2.2.2))) hx hb hr hK hP hS ⟨by first | rfl | (rw [e1] <;> rfl), by first | rfl | (rw [e1] <;> rfl)⟩ hlocks dDB_next_26
      · refine lv_iconst (v := bi true) hx hb dDB_next_21 (by decide) ?_
        refine lv_goto (tgt := 26) hx hb dDB_next_22 (by decide) ?_
        have e1 : fDB_next dG dT aN aB nS nP nR nO nU nT tP tR tO tN tF tZ mP mN = (true, (fDB_makeAdvert dT aN aB nP nR nO nU nT ((fDB_makeThanks tP tR tO tN tF tZ ((LDB_makeGreeting dG nS nP nR mP mN 8 0 ).2.2.1) ((LDB_makeGreeting dG nS nP nR mP mN 8 0 ).2.2.2)).2.2.2.1) ((fDB_makeThanks tP tR tO tN tF tZ ((LDB_makeGreeting dG nS nP nR mP mN 8 0 ).2.2.1) ((LDB_makeGreeting dG nS nP nR mP mN 8 0 ).2.2.2)).2.2.2.2)).2.1, (fDB_makeAdvert dT aN aB nP nR nO nU nT ((fDB_makeThanks tP tR tO tN tF tZ ((LDB_makeGreeting dG nS nP nR mP mN 8 0 ).2.2.1) ((LDB_makeGreeting dG nS nP nR mP mN 8 0 ).2.2.2)).2.2.2.1) ((fDB_makeThanks tP tR tO tN tF tZ ((LDB_makeGreeting dG nS nP nR mP mN 8 0 ).2.2.1) ((LDB_makeGreeting dG nS nP nR mP mN 8 0 ).2.2.2)).2.2.2.2)).2.2.1, (fDB_makeThanks tP tR tO tN tF tZ ((LDB_makeGreeting dG nS nP nR mP mN 8 0 ).2.2.1) ((LDB_makeGreeting dG nS nP nR mP mN 8 0 ).2.2.2)).2.1, (fDB_makeThanks tP tR tO tN tF tZ ((LDB_makeGreeting dG nS nP nR mP mN 8 0 ).2.2.1) ((LDB_makeGreeting dG nS nP nR mP mN 8 0 ).2.2.2)).2.2.1, (fDB_makeAdvert dT aN aB nP nR nO nU nT ((fDB_makeThanks tP tR tO tN tF tZ ((LDB_makeGreeting dG nS nP nR mP mN 8 0 ).2.2.1) ((LDB_makeGreeting dG nS nP nR mP mN 8 0 ).2.2.2)).2.2.2.1) ((fDB_makeThanks tP tR tO tN tF tZ ((LDB_makeGreeting dG nS nP nR mP mN 8 0 ).2.2.1) ((LDB_makeGreeting dG nS nP nR mP mN 8 0 ).2.2.2)).2.2.2.2)).2.2.2.1, (fDB_makeAdvert dT aN aB nP nR nO nU nT ((fDB_makeThanks tP tR tO tN tF tZ ((LDB_makeGreeting dG nS nP nR mP mN 8 0 ).2.2.1) ((LDB_makeGreeting dG nS nP nR mP mN 8 0 ).2.2.2)).2.2.2.1) ((fDB_makeThanks tP tR tO tN tF tZ ((LDB_makeGreeting dG nS nP nR mP mN 8 0 ).2.2.1) ((LDB_makeGreeting dG nS nP nR mP mN 8 0 ).2.2.2)).2.2.2.2)).2.2.2.2) := by first | (simp only [fDB_next, cond_no c1, cond_no c2, cond_yes c3]; done) | (simp only [fDB_next, cond_no c1]; simp only [cond_no c2]; simp only [cond_yes c3])
        exact g_zret (v := ((dI, dO, (LDB_makeGreeting dG nS nP nR mP mN 8 0 ).2.1, dN, dT), (aN, aB), (nS, nP, nR, nG, nO, (fDB_makeAdvert dT aN aB nP nR nO nU nT ((fDB_makeThanks tP tR tO tN tF tZ ((LDB_makeGreeting dG nS nP nR mP mN 8 0 ).2.2.1) ((LDB_makeGreeting dG nS nP nR mP mN 8 0 ).2.2.2)).2.2.2.1) ((fDB_makeThanks tP tR tO tN tF tZ ((LDB_makeGreeting dG nS nP nR mP mN 8 0 ).2.2.1) ((LDB_makeGreeting dG nS nP nR mP mN 8 0 ).2.2.2)).2.2.2.2)).2.1, (fDB_makeAdvert dT aN aB nP nR nO nU nT ((fDB_makeThanks tP tR tO tN tF tZ ((LDB_makeGreeting dG nS nP nR mP mN 8 0 ).2.2.1) ((LDB_makeGreeting dG nS nP nR mP mN 8 0 ).2.2.2)).2.2.2.1) ((fDB_makeThanks tP tR tO tN tF tZ ((LDB_makeGreeting dG nS nP nR mP mN 8 0 ).2.2.1) ((LDB_makeGreeting dG nS nP nR mP mN 8 0 ).2.2.2)).2.2.2.2)).2.2.1), (tP, tR, tO, tN, (fDB_makeThanks tP tR tO tN tF tZ ((LDB_makeGreeting dG nS nP nR mP mN 8 0 ).2.2.1) ((LDB_makeGreeting dG nS nP nR mP mN 8 0 ).2.2.2)).2.1, (fDB_makeThanks tP tR tO tN tF tZ ((LDB_makeGreeting dG nS nP nR mP mN 8 0 ).2.2.1) ((LDB_makeGreeting dG nS nP nR mP mN 8 0 ).2.2.2)).2.2.1), ((fDB_makeAdvert dT aN aB nP nR nO nU nT ((fDB_makeThanks tP tR tO tN tF tZ ((LDB_makeGreeting dG nS nP nR mP mN 8 0 ).2.2.1) ((LDB_makeGreeting dG nS nP nR mP mN 8 0 ).2.2.2)).2.2.2.1) ((fDB_makeThanks tP tR tO tN tF tZ ((LDB_makeGreeting dG nS nP nR mP mN 8 0 ).2.2.1) ((LDB_makeGreeting dG nS nP nR mP mN 8 0 ).2.2.2)).2.2.2.2)).2.2.2.1, (fDB_makeAdvert dT aN aB nP nR nO nU nT ((fDB_makeThanks tP tR tO tN tF tZ ((LDB_makeGreeting dG nS nP nR mP mN 8 0 ).2.2.1) ((LDB_makeGreeting dG nS nP nR mP mN 8 0 ).2.2.2)).2.2.2.1) ((fDB_makeThanks tP tR tO tN tF tZ ((LDB_makeGreeting dG nS nP nR mP mN 8 0 ).2.2.1) ((LDB_makeGreeting dG nS nP nR mP mN 8 0 ).2.2.2)).2.2.2.2)).2.2.2.2))) hx hb hr hK hP hS ⟨by first | rfl | (rw [e1] <;> rfl), by first | rfl | (rw [e1] <;> rfl)⟩ hlocks dDB_next_26
set_option maxHeartbeats 4000000 in
set_option maxRecDepth 100000 in
theorem c_DB_message (l : Launch) {D : va_G} {cI cL : ClassId} {a : Nat → Nat}  (dI : Nat) (dO dG dN dT : Int32) (aN aB : Nat → Int32) (nS nP nR nG : Nat → Int32) (nO nU : Nat → Int64) (nT : Nat → Int32) (tP tR tO tN : Nat → Int32) (tF tZ : Nat) (mP : Nat → Int32) (mN : Int64) (i : Nat) (hi : i < 6) (hm : fMS_isMade mP = true) : Met l yDB_message wsDB_message ({ frames := 1, cells := 0, slots := 0, locals := 21 }) (va_Pc [.ref (a 0), .int (nI i)] (gG D (tyC cI cL) (wC cI cL a) ((dI, dO, dG, dN, dT), (aN, aB), (nS, nP, nR, nG, nO, nU, nT), (tP, tR, tO, tN, tF, tZ), (mP, mN)))) (vp_Si (fun r : Int32 => r = mP i)) 0 0 (fun _ => False) := by
  refine g_enter (by decide) rfl (Nat.le_of_ble_eq_true rfl) ?_
  intro p e s m below meth c ls F hK hP hl
  obtain ⟨hx, hb, hr, hml, hown, hts, hlocks⟩ := id F
  have hl : lv_has ls 2 [(0, .ref (a 0)), (1, .int (nI i))] := hl
  refine lv_iload_n hx hb dDB_message_0 rfl (lv_at hl 1 rfl) ?_
  refine lv_if_lt (tgt := 10) hx hb dDB_message_1 (by decide) (fun c1 => absurd c1 (nI_pos (by omega))) (fun c1 => ?_)
  refine lv_iload_n hx hb dDB_message_4 rfl (lv_at hl 1 rfl) ?_
  refine lv_bipush (v := nI 6) hx hb dDB_message_5 (by decide) ?_
  refine lv_icmp_lt (tgt := 20) hx hb dDB_message_7 (by decide) (fun c2 => ?_) (fun c2 => absurd ((nI_ltI (a := i) (b := 6) (by omega) (by omega)).mpr (by omega)) c2)
  refine lv_aload_n hx hb dDB_message_20 rfl (lv_at hl 0 rfl) ?_
  refine va_get (D := D) (ci := 4) (v := .ref (a 17)) (C := RDB) (T := TDB) (N := 9) hx hb hts inDB hown hK hP 0 rfl rfl 4 (by decide) (hts _ k132) (fun _ h9 => h9) rfl dDB_message_21 ?_
  refine g_roVi (As := []) (rest := []) ⟨hx, hb, hml, hown, hts⟩ (c_MS_isMade l dI dO dG dN dT aN aB nS nP nR nG nO nU nT tP tR tO tN tF tZ mP mN) (cwV 0 hts (gw_V k518 k519 k520 k31 k521) rfl rfl rfl (by decide +kernel) ⟨Nat.le_of_ble_eq_true rfl, Nat.le_of_ble_eq_true rfl⟩) hK hP (va_recv hK hP (ci := 1) (q0 := 17) rfl rfl) rfl hl.1 rfl (Nat.le_of_ble_eq_true rfl) dDB_message_24 ⟨Nat.zero_le _, Nat.zero_le _⟩ ?_
  refine lv_if_neb (tgt := 40) hx hb dDB_message_27 (by decide) (fun c3 => ?_) (fun c3 => absurd (c3.symm.trans hm) (by decide))
  refine lv_aload_n hx hb dDB_message_40 rfl (lv_at hl 0 rfl) ?_
  refine va_get (D := D) (ci := 4) (v := .ref (a 17)) (C := RDB) (T := TDB) (N := 9) hx hb hts inDB hown hK hP 0 rfl rfl 4 (by decide) (hts _ k132) (fun _ h9 => h9) rfl dDB_message_41 ?_
  refine lv_iload_n hx hb dDB_message_44 rfl (lv_at hl 1 rfl) ?_
  refine g_roVi (As := [.int (nI i)]) (rest := []) ⟨hx, hb, hml, hown, hts⟩ (c_MS_part l dI dO dG dN dT aN aB nS nP nR nG nO nU nT tP tR tO tN tF tZ mP mN i (by first | omega | assumption)) (cwV 1 hts (gw_V k523 k524 k525 k31 k526) rfl rfl rfl (by decide +kernel) ⟨Nat.le_of_ble_eq_true rfl, Nat.le_of_ble_eq_true rfl⟩) hK hP (va_recv hK hP (ci := 1) (q0 := 17) rfl rfl) rfl hl.1 rfl (Nat.le_of_ble_eq_true rfl) dDB_message_45 ⟨Nat.zero_le _, Nat.zero_le _⟩ ?_
  exact r_iret hx hb hr (rfl) hlocks dDB_message_48
set_option maxHeartbeats 4000000 in
set_option maxRecDepth 100000 in
theorem c_DB_named (l : Launch) {D : va_G} {cI cL : ClassId} {a : Nat → Nat}  (dI : Nat) (dO dG dN dT : Int32) (aN aB : Nat → Int32) (nS nP nR nG : Nat → Int32) (nO nU : Nat → Int64) (nT : Nat → Int32) (tP tR tO tN : Nat → Int32) (tF tZ : Nat) (mP : Nat → Int32) (mN : Int64)   : Met l yDB_named wsDB_named ({ frames := 1, cells := 0, slots := 0, locals := 20 }) (va_Pc [.ref (a 0)] (gG D (tyC cI cL) (wC cI cL a) ((dI, dO, dG, dN, dT), (aN, aB), (nS, nP, nR, nG, nO, nU, nT), (tP, tR, tO, tN, tF, tZ), (mP, mN)))) (vp_Sl (fun r : Int64 => r = mN)) 0 0 (fun _ => False) := by
  refine g_enter (by decide) rfl (Nat.le_of_ble_eq_true rfl) ?_
  intro p e s m below meth c ls F hK hP hl
  obtain ⟨hx, hb, hr, hml, hown, hts, hlocks⟩ := id F
  have hl : lv_has ls 1 [(0, .ref (a 0))] := hl
  refine lv_aload_n hx hb dDB_named_0 rfl (lv_at hl 0 rfl) ?_
  refine va_get (D := D) (ci := 4) (v := .ref (a 17)) (C := RDB) (T := TDB) (N := 9) hx hb hts inDB hown hK hP 0 rfl rfl 4 (by decide) (hts _ k132) (fun _ h9 => h9) rfl dDB_named_1 ?_
  refine g_roVl (As := []) (rest := []) ⟨hx, hb, hml, hown, hts⟩ (c_MS_namedRouters l dI dO dG dN dT aN aB nS nP nR nG nO nU nT tP tR tO tN tF tZ mP mN) (cwV 0 hts (gw_V k258 k259 k260 k31 k261) rfl rfl rfl (by decide +kernel) ⟨Nat.le_of_ble_eq_true rfl, Nat.le_of_ble_eq_true rfl⟩) hK hP (va_recv hK hP (ci := 1) (q0 := 17) rfl rfl) rfl hl.1 rfl (Nat.le_of_ble_eq_true rfl) dDB_named_4 ⟨Nat.zero_le _, Nat.zero_le _⟩ ?_
  exact r_lret hx hb hr (rfl) hlocks dDB_named_7
set_option maxHeartbeats 4000000 in
set_option maxRecDepth 100000 in
theorem c_DB_state (l : Launch) {D : va_G} {cI cL : ClassId} {a : Nat → Nat}  (dI : Nat) (dO dG dN dT : Int32) (aN aB : Nat → Int32) (nS nP nR nG : Nat → Int32) (nO nU : Nat → Int64) (nT : Nat → Int32) (tP tR tO tN : Nat → Int32) (tF tZ : Nat) (mP : Nat → Int32) (mN : Int64) (q : Nat) (o : Nat) (hq : q < 8) (ho : o < 64) : Met l yDB_state wsDB_state ({ frames := 2, cells := 0, slots := 0, locals := 46 }) (va_Pc [.ref (a 0), .int (nI q), .int (nI o)] (gG D (tyC cI cL) (wC cI cL a) ((dI, dO, dG, dN, dT), (aN, aB), (nS, nP, nR, nG, nO, nU, nT), (tP, tR, tO, tN, tF, tZ), (mP, mN)))) (vp_Si (fun r : Int32 => r = fNB_standingOf nS nP nR (nI q) (nI o))) 0 0 (fun _ => False) := by
  refine g_enter (by decide) rfl (Nat.le_of_ble_eq_true rfl) ?_
  intro p e s m below meth c ls F hK hP hl
  obtain ⟨hx, hb, hr, hml, hown, hts, hlocks⟩ := id F
  have hl : lv_has ls 3 [(0, .ref (a 0)), (1, .int (nI q)), (2, .int (nI o))] := hl
  refine lv_iload_n hx hb dDB_state_0 rfl (lv_at hl 1 rfl) ?_
  refine g_roSv (As := [.int (nI q)]) (rest := []) ⟨hx, hb, hml, hown, hts⟩ (c_DB_requirePort l dI dO dG dN dT aN aB nS nP nR nG nO nU nT tP tR tO tN tF tZ mP mN q (by first | omega | assumption)) (cw_S 1 hts k285 k286 k27 k287 rfl rfl rfl (by decide +kernel) ⟨Nat.le_of_ble_eq_true rfl, Nat.le_of_ble_eq_true rfl⟩) hK hP rfl hl.1 rfl (Nat.le_of_ble_eq_true rfl) dDB_state_1 ⟨Nat.zero_le _, Nat.zero_le _⟩ ?_
  refine lv_iload_n hx hb dDB_state_4 rfl (lv_at hl 2 rfl) ?_
  refine g_roSv (As := [.int (nI o)]) (rest := []) ⟨hx, hb, hml, hown, hts⟩ (c_DB_requireRouter l dI dO dG dN dT aN aB nS nP nR nG nO nU nT tP tR tO tN tF tZ mP mN o (by first | omega | assumption)) (cw_S 1 hts k438 k439 k27 k440 rfl rfl rfl (by decide +kernel) ⟨Nat.le_of_ble_eq_true rfl, Nat.le_of_ble_eq_true rfl⟩) hK hP rfl hl.1 rfl (Nat.le_of_ble_eq_true rfl) dDB_state_5 ⟨Nat.zero_le _, Nat.zero_le _⟩ ?_
  refine lv_aload_n hx hb dDB_state_8 rfl (lv_at hl 0 rfl) ?_
  refine va_get (D := D) (ci := 4) (v := .ref (a 4)) (C := RDB) (T := TDB) (N := 9) hx hb hts inDB hown hK hP 0 rfl rfl 2 (by decide) (hts _ k130) (fun _ h9 => h9) rfl dDB_state_9 ?_
  refine lv_iload_n hx hb dDB_state_12 rfl (lv_at hl 1 rfl) ?_
  refine lv_iload_n hx hb dDB_state_13 rfl (lv_at hl 2 rfl) ?_
  refine g_roVi (As := [.int (nI q), .int (nI o)]) (rest := []) ⟨hx, hb, hml, hown, hts⟩ (c_NB_standingOf l dI dO dG dN dT aN aB nS nP nR nG nO nU nT tP tR tO tN tF tZ mP mN (nI q) (nI o)) (cwV 2 hts (gw_V k534 k535 k536 k29 k537) rfl rfl rfl (by decide +kernel) ⟨Nat.le_of_ble_eq_true rfl, Nat.le_of_ble_eq_true rfl⟩) hK hP (va_recv hK hP (ci := 2) (q0 := 4) rfl rfl) rfl hl.1 rfl (Nat.le_of_ble_eq_true rfl) dDB_state_14 ⟨Nat.zero_le _, Nat.zero_le _⟩ ?_
  exact r_iret hx hb hr (rfl) hlocks dDB_state_17
def fDB_known (aN : Nat → Int32) (g : Nat) : Int32 := (cond (fAD_has aN g) (aN g) (-1))
set_option maxHeartbeats 4000000 in
set_option maxRecDepth 100000 in
theorem c_DB_known (l : Launch) {D : va_G} {cI cL : ClassId} {a : Nat → Nat}  (dI : Nat) (dO dG dN dT : Int32) (aN aB : Nat → Int32) (nS nP nR nG : Nat → Int32) (nO nU : Nat → Int64) (nT : Nat → Int32) (tP tR tO tN : Nat → Int32) (tF tZ : Nat) (mP : Nat → Int32) (mN : Int64) (g : Nat) (hg : g < 64) : Met l yDB_known wsDB_known ({ frames := 2, cells := 0, slots := 0, locals := 40 }) (va_Pc [.ref (a 0), .int (nI g)] (gG D (tyC cI cL) (wC cI cL a) ((dI, dO, dG, dN, dT), (aN, aB), (nS, nP, nR, nG, nO, nU, nT), (tP, tR, tO, tN, tF, tZ), (mP, mN)))) (vp_Si (fun r : Int32 => r = fDB_known aN g)) 0 0 (fun _ => False) := by
  refine g_enter (by decide) rfl (Nat.le_of_ble_eq_true rfl) ?_
  intro p e s m below meth c ls F hK hP hl
  obtain ⟨hx, hb, hr, hml, hown, hts, hlocks⟩ := id F
  have hl : lv_has ls 2 [(0, .ref (a 0)), (1, .int (nI g))] := hl
  refine lv_iload_n hx hb dDB_known_0 rfl (lv_at hl 1 rfl) ?_
  refine g_roSv (As := [.int (nI g)]) (rest := []) ⟨hx, hb, hml, hown, hts⟩ (c_DB_requireRouter l dI dO dG dN dT aN aB nS nP nR nG nO nU nT tP tR tO tN tF tZ mP mN g (by first | omega | assumption)) (cw_S 1 hts k438 k439 k27 k440 rfl rfl rfl (by decide +kernel) ⟨Nat.le_of_ble_eq_true rfl, Nat.le_of_ble_eq_true rfl⟩) hK hP rfl hl.1 rfl (Nat.le_of_ble_eq_true rfl) dDB_known_1 ⟨Nat.zero_le _, Nat.zero_le _⟩ ?_
  refine lv_aload_n hx hb dDB_known_4 rfl (lv_at hl 0 rfl) ?_
  refine va_get (D := D) (ci := 4) (v := .ref (a 1)) (C := RDB) (T := TDB) (N := 9) hx hb hts inDB hown hK hP 0 rfl rfl 1 (by decide) (hts _ k129) (fun _ h9 => h9) rfl dDB_known_5 ?_
  refine lv_iload_n hx hb dDB_known_8 rfl (lv_at hl 1 rfl) ?_
  refine g_roVi (As := [.int (nI g)]) (rest := []) ⟨hx, hb, hml, hown, hts⟩ (c_AD_has l dI dO dG dN dT aN aB nS nP nR nG nO nU nT tP tR tO tN tF tZ mP mN g (by first | omega | assumption)) (cwV 1 hts (gw_V k482 k483 k484 k28 k485) rfl rfl rfl (by decide +kernel) ⟨Nat.le_of_ble_eq_true rfl, Nat.le_of_ble_eq_true rfl⟩) hK hP (va_recv hK hP (ci := 0) (q0 := 1) rfl rfl) rfl hl.1 rfl (Nat.le_of_ble_eq_true rfl) dDB_known_9 ⟨Nat.zero_le _, Nat.zero_le _⟩ ?_
  refine lv_if_eqb (tgt := 26) hx hb dDB_known_12 (by decide) (fun c1 => ?_) (fun c1 => ?_)
  · refine lv_iconst (v := (-1)) hx hb dDB_known_26 (by decide) ?_
    have e1 : fDB_known aN g = (-1) := by simp only [fDB_known, cond_no c1]
    exact r_iret hx hb hr (by first | rfl | (rw [e1] <;> rfl)) hlocks dDB_known_27
  · refine lv_aload_n hx hb dDB_known_15 rfl (lv_at hl 0 rfl) ?_
    refine va_get (D := D) (ci := 4) (v := .ref (a 1)) (C := RDB) (T := TDB) (N := 9) hx hb hts inDB hown hK hP 0 rfl rfl 1 (by decide) (hts _ k129) (fun _ h9 => h9) rfl dDB_known_16 ?_
    refine lv_iload_n hx hb dDB_known_19 rfl (lv_at hl 1 rfl) ?_
    refine g_roVi (As := [.int (nI g)]) (rest := []) ⟨hx, hb, hml, hown, hts⟩ (c_AD_numberOf l dI dO dG dN dT aN aB nS nP nR nG nO nU nT tP tR tO tN tF tZ mP mN g (by first | omega | assumption)) (cwV 1 hts (gw_V k242 k243 k244 k28 k245) rfl rfl rfl (by decide +kernel) ⟨Nat.le_of_ble_eq_true rfl, Nat.le_of_ble_eq_true rfl⟩) hK hP (va_recv hK hP (ci := 0) (q0 := 1) rfl rfl) rfl hl.1 rfl (Nat.le_of_ble_eq_true rfl) dDB_known_20 ⟨Nat.zero_le _, Nat.zero_le _⟩ ?_
    refine lv_goto (tgt := 27) hx hb dDB_known_23 (by decide) ?_
    have e1 : fDB_known aN g = aN g := by simp only [fDB_known, cond_yes c1]
    exact r_iret hx hb hr (by first | rfl | (rw [e1] <;> rfl)) hlocks dDB_known_27
set_option maxHeartbeats 4000000 in
set_option maxRecDepth 100000 in
theorem c_DB_body (l : Launch) {D : va_G} {cI cL : ClassId} {a : Nat → Nat}  (dI : Nat) (dO dG dN dT : Int32) (aN aB : Nat → Int32) (nS nP nR nG : Nat → Int32) (nO nU : Nat → Int64) (nT : Nat → Int32) (tP tR tO tN : Nat → Int32) (tF tZ : Nat) (mP : Nat → Int32) (mN : Int64) (g : Nat) (hg : g < 64) : Met l yDB_body wsDB_body ({ frames := 2, cells := 0, slots := 0, locals := 40 }) (va_Pc [.ref (a 0), .int (nI g)] (gG D (tyC cI cL) (wC cI cL a) ((dI, dO, dG, dN, dT), (aN, aB), (nS, nP, nR, nG, nO, nU, nT), (tP, tR, tO, tN, tF, tZ), (mP, mN)))) (vp_Si (fun r : Int32 => r = aB g)) 0 0 (fun _ => False) := by
  refine g_enter (by decide) rfl (Nat.le_of_ble_eq_true rfl) ?_
  intro p e s m below meth c ls F hK hP hl
  obtain ⟨hx, hb, hr, hml, hown, hts, hlocks⟩ := id F
  have hl : lv_has ls 2 [(0, .ref (a 0)), (1, .int (nI g))] := hl
  refine lv_iload_n hx hb dDB_body_0 rfl (lv_at hl 1 rfl) ?_
  refine g_roSv (As := [.int (nI g)]) (rest := []) ⟨hx, hb, hml, hown, hts⟩ (c_DB_requireRouter l dI dO dG dN dT aN aB nS nP nR nG nO nU nT tP tR tO tN tF tZ mP mN g (by first | omega | assumption)) (cw_S 1 hts k438 k439 k27 k440 rfl rfl rfl (by decide +kernel) ⟨Nat.le_of_ble_eq_true rfl, Nat.le_of_ble_eq_true rfl⟩) hK hP rfl hl.1 rfl (Nat.le_of_ble_eq_true rfl) dDB_body_1 ⟨Nat.zero_le _, Nat.zero_le _⟩ ?_
  refine lv_aload_n hx hb dDB_body_4 rfl (lv_at hl 0 rfl) ?_
  refine va_get (D := D) (ci := 4) (v := .ref (a 1)) (C := RDB) (T := TDB) (N := 9) hx hb hts inDB hown hK hP 0 rfl rfl 1 (by decide) (hts _ k129) (fun _ h9 => h9) rfl dDB_body_5 ?_
  refine lv_iload_n hx hb dDB_body_8 rfl (lv_at hl 1 rfl) ?_
  refine g_roVi (As := [.int (nI g)]) (rest := []) ⟨hx, hb, hml, hown, hts⟩ (c_AD_bodyOf l dI dO dG dN dT aN aB nS nP nR nG nO nU nT tP tR tO tN tF tZ mP mN g (by first | omega | assumption)) (cwV 1 hts (gw_V k246 k247 k248 k28 k249) rfl rfl rfl (by decide +kernel) ⟨Nat.le_of_ble_eq_true rfl, Nat.le_of_ble_eq_true rfl⟩) hK hP (va_recv hK hP (ci := 0) (q0 := 1) rfl rfl) rfl hl.1 rfl (Nat.le_of_ble_eq_true rfl) dDB_body_9 ⟨Nat.zero_le _, Nat.zero_le _⟩ ?_
  exact r_iret hx hb hr (rfl) hlocks dDB_body_12
set_option maxHeartbeats 4000000 in
set_option maxRecDepth 100000 in
theorem c_DB_due (l : Launch) {D : va_G} {cI cL : ClassId} {a : Nat → Nat}  (dI : Nat) (dO dG dN dT : Int32) (aN aB : Nat → Int32) (nS nP nR nG : Nat → Int32) (nO nU : Nat → Int64) (nT : Nat → Int32) (tP tR tO tN : Nat → Int32) (tF tZ : Nat) (mP : Nat → Int32) (mN : Int64) (q : Nat) (o : Nat) (hq : q < 8) (ho : o < 64) : Met l yDB_due wsDB_due ({ frames := 2, cells := 0, slots := 0, locals := 46 }) (va_Pc [.ref (a 0), .int (nI q), .int (nI o)] (gG D (tyC cI cL) (wC cI cL a) ((dI, dO, dG, dN, dT), (aN, aB), (nS, nP, nR, nG, nO, nU, nT), (tP, tR, tO, tN, tF, tZ), (mP, mN)))) (vp_Si (fun r : Int32 => r = fNB_owedTo nS nP nR nO (nI q) (nI o))) 0 0 (fun _ => False) := by
  refine g_enter (by decide) rfl (Nat.le_of_ble_eq_true rfl) ?_
  intro p e s m below meth c ls F hK hP hl
  obtain ⟨hx, hb, hr, hml, hown, hts, hlocks⟩ := id F
  have hl : lv_has ls 3 [(0, .ref (a 0)), (1, .int (nI q)), (2, .int (nI o))] := hl
  refine lv_iload_n hx hb dDB_due_0 rfl (lv_at hl 1 rfl) ?_
  refine g_roSv (As := [.int (nI q)]) (rest := []) ⟨hx, hb, hml, hown, hts⟩ (c_DB_requirePort l dI dO dG dN dT aN aB nS nP nR nG nO nU nT tP tR tO tN tF tZ mP mN q (by first | omega | assumption)) (cw_S 1 hts k285 k286 k27 k287 rfl rfl rfl (by decide +kernel) ⟨Nat.le_of_ble_eq_true rfl, Nat.le_of_ble_eq_true rfl⟩) hK hP rfl hl.1 rfl (Nat.le_of_ble_eq_true rfl) dDB_due_1 ⟨Nat.zero_le _, Nat.zero_le _⟩ ?_
  refine lv_iload_n hx hb dDB_due_4 rfl (lv_at hl 2 rfl) ?_
  refine g_roSv (As := [.int (nI o)]) (rest := []) ⟨hx, hb, hml, hown, hts⟩ (c_DB_requireRouter l dI dO dG dN dT aN aB nS nP nR nG nO nU nT tP tR tO tN tF tZ mP mN o (by first | omega | assumption)) (cw_S 1 hts k438 k439 k27 k440 rfl rfl rfl (by decide +kernel) ⟨Nat.le_of_ble_eq_true rfl, Nat.le_of_ble_eq_true rfl⟩) hK hP rfl hl.1 rfl (Nat.le_of_ble_eq_true rfl) dDB_due_5 ⟨Nat.zero_le _, Nat.zero_le _⟩ ?_
  refine lv_aload_n hx hb dDB_due_8 rfl (lv_at hl 0 rfl) ?_
  refine va_get (D := D) (ci := 4) (v := .ref (a 4)) (C := RDB) (T := TDB) (N := 9) hx hb hts inDB hown hK hP 0 rfl rfl 2 (by decide) (hts _ k130) (fun _ h9 => h9) rfl dDB_due_9 ?_
  refine lv_iload_n hx hb dDB_due_12 rfl (lv_at hl 1 rfl) ?_
  refine lv_iload_n hx hb dDB_due_13 rfl (lv_at hl 2 rfl) ?_
  refine g_roVi (As := [.int (nI q), .int (nI o)]) (rest := []) ⟨hx, hb, hml, hown, hts⟩ (c_NB_owedTo l dI dO dG dN dT aN aB nS nP nR nG nO nU nT tP tR tO tN tF tZ mP mN (nI q) (nI o)) (cwV 2 hts (gw_V k559 k560 k561 k29 k562) rfl rfl rfl (by decide +kernel) ⟨Nat.le_of_ble_eq_true rfl, Nat.le_of_ble_eq_true rfl⟩) hK hP (va_recv hK hP (ci := 2) (q0 := 4) rfl rfl) rfl hl.1 rfl (Nat.le_of_ble_eq_true rfl) dDB_due_14 ⟨Nat.zero_le _, Nat.zero_le _⟩ ?_
  exact r_iret hx hb hr (rfl) hlocks dDB_due_17
def fDB_count (nS : Nat → Int32) (b : Bool) : Int32 := (cond b (LNB_atLeast nS 2 16 0 0) (LNB_atLeast nS 1 16 0 0))
set_option maxHeartbeats 4000000 in
set_option maxRecDepth 100000 in
theorem c_DB_count (l : Launch) {D : va_G} {cI cL : ClassId} {a : Nat → Nat}  (dI : Nat) (dO dG dN dT : Int32) (aN aB : Nat → Int32) (nS nP nR nG : Nat → Int32) (nO nU : Nat → Int64) (nT : Nat → Int32) (tP tR tO tN : Nat → Int32) (tF tZ : Nat) (mP : Nat → Int32) (mN : Int64) (b : Bool)  : Met l yDB_count wsDB_count ({ frames := 1, cells := 0, slots := 0, locals := 23 }) (va_Pc [.ref (a 0), .int (bi b)] (gG D (tyC cI cL) (wC cI cL a) ((dI, dO, dG, dN, dT), (aN, aB), (nS, nP, nR, nG, nO, nU, nT), (tP, tR, tO, tN, tF, tZ), (mP, mN)))) (vp_Si (fun r : Int32 => r = fDB_count nS b)) 0 0 (fun _ => False) := by
  refine g_enter (by decide) rfl (Nat.le_of_ble_eq_true rfl) ?_
  intro p e s m below meth c ls F hK hP hl
  obtain ⟨hx, hb, hr, hml, hown, hts, hlocks⟩ := id F
  have hl : lv_has ls 2 [(0, .ref (a 0)), (1, .int (bi b))] := hl
  refine lv_aload_n hx hb dDB_count_0 rfl (lv_at hl 0 rfl) ?_
  refine va_get (D := D) (ci := 4) (v := .ref (a 4)) (C := RDB) (T := TDB) (N := 9) hx hb hts inDB hown hK hP 0 rfl rfl 2 (by decide) (hts _ k130) (fun _ h9 => h9) rfl dDB_count_1 ?_
  refine lv_iload_n hx hb dDB_count_4 rfl (lv_at hl 1 rfl) ?_
  refine lv_if_eqb (tgt := 12) hx hb dDB_count_5 (by decide) (fun c1 => ?_) (fun c1 => ?_)
  · refine lv_iconst (v := 1) hx hb dDB_count_12 (by decide) ?_
    refine g_roVi (As := [.int 1]) (rest := []) ⟨hx, hb, hml, hown, hts⟩ (c_NB_atLeast l dI dO dG dN dT aN aB nS nP nR nG nO nU nT tP tR tO tN tF tZ mP mN 1) (cwV 1 hts (gw_V k266 k267 k268 k29 k269) rfl rfl rfl (by decide +kernel) ⟨Nat.le_of_ble_eq_true rfl, Nat.le_of_ble_eq_true rfl⟩) hK hP (va_recv hK hP (ci := 2) (q0 := 4) rfl rfl) rfl hl.1 rfl (Nat.le_of_ble_eq_true rfl) dDB_count_13 ⟨Nat.zero_le _, Nat.zero_le _⟩ ?_
    have e1 : fDB_count nS b = LNB_atLeast nS 1 16 0 0 := by simp only [fDB_count, cond_no c1]
    exact r_iret hx hb hr (by first | rfl | (rw [e1] <;> rfl)) hlocks dDB_count_16
  · refine lv_iconst (v := 2) hx hb dDB_count_8 (by decide) ?_
    refine lv_goto (tgt := 13) hx hb dDB_count_9 (by decide) ?_
    refine g_roVi (As := [.int 2]) (rest := []) ⟨hx, hb, hml, hown, hts⟩ (c_NB_atLeast l dI dO dG dN dT aN aB nS nP nR nG nO nU nT tP tR tO tN tF tZ mP mN 2) (cwV 1 hts (gw_V k266 k267 k268 k29 k269) rfl rfl rfl (by decide +kernel) ⟨Nat.le_of_ble_eq_true rfl, Nat.le_of_ble_eq_true rfl⟩) hK hP (va_recv hK hP (ci := 2) (q0 := 4) rfl rfl) rfl hl.1 rfl (Nat.le_of_ble_eq_true rfl) dDB_count_13 ⟨Nat.zero_le _, Nat.zero_le _⟩ ?_
    have e1 : fDB_count nS b = LNB_atLeast nS 2 16 0 0 := by simp only [fDB_count, cond_yes c1]
    exact r_iret hx hb hr (by first | rfl | (rw [e1] <;> rfl)) hlocks dDB_count_16
set_option maxHeartbeats 4000000 in
set_option maxRecDepth 100000 in
theorem c_DB_time (l : Launch) {D : va_G} {cI cL : ClassId} {a : Nat → Nat}  (dI : Nat) (dO dG dN dT : Int32) (aN aB : Nat → Int32) (nS nP nR nG : Nat → Int32) (nO nU : Nat → Int64) (nT : Nat → Int32) (tP tR tO tN : Nat → Int32) (tF tZ : Nat) (mP : Nat → Int32) (mN : Int64)   : Met l yDB_time wsDB_time ({ frames := 0, cells := 0, slots := 0, locals := 0 }) (va_Pc [.ref (a 0)] (gG D (tyC cI cL) (wC cI cL a) ((dI, dO, dG, dN, dT), (aN, aB), (nS, nP, nR, nG, nO, nU, nT), (tP, tR, tO, tN, tF, tZ), (mP, mN)))) (vp_Si (fun r : Int32 => r = dT)) 0 0 (fun _ => False) := by
  refine g_enter (by decide) rfl (Nat.le_of_ble_eq_true rfl) ?_
  intro p e s m below meth c ls F hK hP hl
  obtain ⟨hx, hb, hr, hml, hown, hts, hlocks⟩ := id F
  have hl : lv_has ls 1 [(0, .ref (a 0))] := hl
  refine lv_aload_n hx hb dDB_time_0 rfl (lv_at hl 0 rfl) ?_
  refine va_get (D := D) (ci := 4) (v := .int dT) (C := RDB) (T := TDB) (N := 9) hx hb hts inDB hown hK hP 0 rfl rfl 8 (by decide) (hts _ k136) (fun _ h9 => h9) rfl dDB_time_1 ?_
  exact r_iret hx hb hr (rfl) hlocks dDB_time_4
