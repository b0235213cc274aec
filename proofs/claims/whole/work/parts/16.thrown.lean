set_option maxRecDepth 20000 in
theorem sw328 : Cond.stringRef "DeskBench" (183 : Nat) "not a port" ∈ strW := List.mem_filter.mpr ⟨List.mem_of_getElem? (i := 328) (by decide +kernel), rfl⟩
set_option maxRecDepth 20000 in
theorem sw386 : Cond.stringRef "DeskBench" (188 : Nat) "not another router" ∈ strW := List.mem_filter.mpr ⟨List.mem_of_getElem? (i := 386) (by decide +kernel), rfl⟩
set_option maxRecDepth 20000 in
theorem sw400 : Cond.stringRef "DeskBench" (190 : Nat) "the port is off" ∈ strW := List.mem_filter.mpr ⟨List.mem_of_getElem? (i := 400) (by decide +kernel), rfl⟩
set_option maxRecDepth 20000 in
theorem sw441 : Cond.stringRef "DeskBench" (181 : Nat) "not a router" ∈ strW := List.mem_filter.mpr ⟨List.mem_of_getElem? (i := 441) (by decide +kernel), rfl⟩
set_option maxRecDepth 20000 in
theorem sw446 : Cond.stringRef "DeskBench" (186 : Nat) "not a number of an advert" ∈ strW := List.mem_filter.mpr ⟨List.mem_of_getElem? (i := 446) (by decide +kernel), rfl⟩
set_option maxRecDepth 20000 in
theorem sw503 : Cond.stringRef "DeskBench" (129 : Nat) "not 1 .. 2000 ticks" ∈ strW := List.mem_filter.mpr ⟨List.mem_of_getElem? (i := 503) (by decide +kernel), rfl⟩
set_option maxRecDepth 20000 in
theorem sw505 : Cond.stringRef "DeskBench" (137 : Nat) "the time would be more than 1000000" ∈ strW := List.mem_filter.mpr ⟨List.mem_of_getElem? (i := 505) (by decide +kernel), rfl⟩
set_option maxRecDepth 20000 in
theorem sw517 : Cond.stringRef "DeskBench" (153 : Nat) "a message has no such part" ∈ strW := List.mem_filter.mpr ⟨List.mem_of_getElem? (i := 517) (by decide +kernel), rfl⟩
set_option maxRecDepth 20000 in
theorem sw522 : Cond.stringRef "DeskBench" (158 : Nat) "no message was made" ∈ strW := List.mem_filter.mpr ⟨List.mem_of_getElem? (i := 522) (by decide +kernel), rfl⟩
set_option maxHeartbeats 4000000 in
set_option maxRecDepth 100000 in
theorem c_DB_requirePort_T (l : Launch) (hL : l.stackTraces = false) {D : va_G} {cI cL : ClassId} {a : Nat → Nat} (dI : Nat) (dO dG dN dT : Int32) (aN aB : Nat → Int32) (nS nP nR nG : Nat → Int32) (nO nU : Nat → Int64) (nT : Nat → Int32) (tP tR tO tN : Nat → Int32) (tF tZ : Nat) (mP : Nat → Int32) (mN : Int64) (x : Int32) (hb0 : fDB_isPort x = false) : Tet l yDB_requirePort wsDB_requirePort ({ frames := 6, cells := 1, slots := 6, locals := 82 }) (va_Pc [.int x] (tPre D (tyC cI cL) (wC cI cL a) ((dI, dO, dG, dN, dT), (aN, aB), (nS, nP, nR, nG, nO, nU, nT), (tP, tR, tO, tN, tF, tZ), (mP, mN)))) "java/lang/IllegalArgumentException" 1 6 := by
  refine t_enter (by decide) rfl (Nat.le_of_ble_eq_true rfl) ?_
  intro p e s m below meth c ls F hne hK hP hT hl
  obtain ⟨hx, hb, hr, hml, hown, hts, hlocks⟩ := id F
  have hl : lv_has ls 1 [(0, .int x)] := hl
  refine lv_iload_n hx hb dDB_requirePort_0 rfl (lv_at hl 0 rfl) ?_
  refine lv_if_lt (tgt := 10) hx hb dDB_requirePort_1 (by decide) (fun c1 => ?_) (fun c1 => ?_)
  · exact t_throw (text := "not a port") exIA (by decide +kernel) hx hb hL hown hts hT k288 k36 sw328 hne hl.1 hml dDB_requirePort_10 dDB_requirePort_13 dDB_requirePort_14 dDB_requirePort_16 dDB_requirePort_19 (Nat.le_of_ble_eq_true rfl) (Nat.le_of_ble_eq_true rfl) (Nat.le_of_ble_eq_true rfl) (Nat.le_of_ble_eq_true rfl) hlocks
  · refine lv_iload_n hx hb dDB_requirePort_4 rfl (lv_at hl 0 rfl) ?_
    refine lv_bipush (v := 8) hx hb dDB_requirePort_5 (by decide) ?_
    refine lv_icmp_lt (tgt := 20) hx hb dDB_requirePort_7 (by decide) (fun c2 => absurd (show fDB_isPort x = true by simp only [fDB_isPort, if_neg c1, if_pos c2]) (by rw [hb0]; decide)) (fun c2 => ?_)
    exact t_throw (text := "not a port") exIA (by decide +kernel) hx hb hL hown hts hT k288 k36 sw328 hne hl.1 hml dDB_requirePort_10 dDB_requirePort_13 dDB_requirePort_14 dDB_requirePort_16 dDB_requirePort_19 (Nat.le_of_ble_eq_true rfl) (Nat.le_of_ble_eq_true rfl) (Nat.le_of_ble_eq_true rfl) (Nat.le_of_ble_eq_true rfl) hlocks
set_option maxHeartbeats 4000000 in
set_option maxRecDepth 100000 in
theorem c_DB_requireRouter_T (l : Launch) (hL : l.stackTraces = false) {D : va_G} {cI cL : ClassId} {a : Nat → Nat} (dI : Nat) (dO dG dN dT : Int32) (aN aB : Nat → Int32) (nS nP nR nG : Nat → Int32) (nO nU : Nat → Int64) (nT : Nat → Int32) (tP tR tO tN : Nat → Int32) (tF tZ : Nat) (mP : Nat → Int32) (mN : Int64) (x : Int32) (hb0 : fDB_isRouter x = false) : Tet l yDB_requireRouter wsDB_requireRouter ({ frames := 6, cells := 1, slots := 6, locals := 82 }) (va_Pc [.int x] (tPre D (tyC cI cL) (wC cI cL a) ((dI, dO, dG, dN, dT), (aN, aB), (nS, nP, nR, nG, nO, nU, nT), (tP, tR, tO, tN, tF, tZ), (mP, mN)))) "java/lang/IllegalArgumentException" 1 6 := by
  refine t_enter (by decide) rfl (Nat.le_of_ble_eq_true rfl) ?_
  intro p e s m below meth c ls F hne hK hP hT hl
  obtain ⟨hx, hb, hr, hml, hown, hts, hlocks⟩ := id F
  have hl : lv_has ls 1 [(0, .int x)] := hl
  refine lv_iload_n hx hb dDB_requireRouter_0 rfl (lv_at hl 0 rfl) ?_
  refine g_roSi (As := [.int x]) (rest := []) ⟨hx, hb, hml, hown, hts⟩ (c_DB_isRouter l dI dO dG dN dT aN aB nS nP nR nG nO nU nT tP tR tO tN tF tZ mP mN x) (cw_S 1 hts k383 k384 k27 k385 rfl rfl rfl (by decide +kernel) ⟨Nat.le_of_ble_eq_true rfl, Nat.le_of_ble_eq_true rfl⟩) hK hP rfl hl.1 rfl (Nat.le_of_ble_eq_true rfl) dDB_requireRouter_1 ⟨Nat.zero_le _, Nat.zero_le _⟩ ?_
  refine lv_if_neb (tgt := 17) hx hb dDB_requireRouter_4 (by decide) (fun c1 => absurd (c1.symm.trans hb0) (by decide)) (fun c1 => ?_)
  exact t_throw (text := "not a router") exIA (by decide +kernel) hx hb hL hown hts hT k288 k36 sw441 hne hl.1 hml dDB_requireRouter_7 dDB_requireRouter_10 dDB_requireRouter_11 dDB_requireRouter_13 dDB_requireRouter_16 (Nat.le_of_ble_eq_true rfl) (Nat.le_of_ble_eq_true rfl) (Nat.le_of_ble_eq_true rfl) (Nat.le_of_ble_eq_true rfl) hlocks
set_option maxHeartbeats 4000000 in
set_option maxRecDepth 100000 in
theorem c_DB_requireNumber_T (l : Launch) (hL : l.stackTraces = false) {D : va_G} {cI cL : ClassId} {a : Nat → Nat} (dI : Nat) (dO dG dN dT : Int32) (aN aB : Nat → Int32) (nS nP nR nG : Nat → Int32) (nO nU : Nat → Int64) (nT : Nat → Int32) (tP tR tO tN : Nat → Int32) (tF tZ : Nat) (mP : Nat → Int32) (mN : Int64) (x : Int32) (hb0 : fDB_isNum x = false) : Tet l yDB_requireNumber wsDB_requireNumber ({ frames := 6, cells := 1, slots := 6, locals := 82 }) (va_Pc [.int x] (tPre D (tyC cI cL) (wC cI cL a) ((dI, dO, dG, dN, dT), (aN, aB), (nS, nP, nR, nG, nO, nU, nT), (tP, tR, tO, tN, tF, tZ), (mP, mN)))) "java/lang/IllegalArgumentException" 1 6 := by
  refine t_enter (by decide) rfl (Nat.le_of_ble_eq_true rfl) ?_
  intro p e s m below meth c ls F hne hK hP hT hl
  obtain ⟨hx, hb, hr, hml, hown, hts, hlocks⟩ := id F
  have hl : lv_has ls 1 [(0, .int x)] := hl
  refine lv_iload_n hx hb dDB_requireNumber_0 rfl (lv_at hl 0 rfl) ?_
  refine lv_iconst (v := 1) hx hb dDB_requireNumber_1 (by decide) ?_
  refine lv_icmp_lt (tgt := 11) hx hb dDB_requireNumber_2 (by decide) (fun c1 => ?_) (fun c1 => ?_)
  · exact t_throw (text := "not a number of an advert") exIA (by decide +kernel) hx hb hL hown hts hT k288 k36 sw446 hne hl.1 hml dDB_requireNumber_11 dDB_requireNumber_14 dDB_requireNumber_15 dDB_requireNumber_17 dDB_requireNumber_20 (Nat.le_of_ble_eq_true rfl) (Nat.le_of_ble_eq_true rfl) (Nat.le_of_ble_eq_true rfl) (Nat.le_of_ble_eq_true rfl) hlocks
  · refine lv_iload_n hx hb dDB_requireNumber_5 rfl (lv_at hl 0 rfl) ?_
    refine lv_ldc (v := 1000000000) hx hb hown (hts _ k445) dDB_requireNumber_6 ?_
    refine lv_icmp_le (tgt := 21) hx hb dDB_requireNumber_8 (by decide) (fun c2 => absurd (show fDB_isNum x = true by simp only [fDB_isNum, if_neg c1, if_pos c2]) (by rw [hb0]; decide)) (fun c2 => ?_)
    exact t_throw (text := "not a number of an advert") exIA (by decide +kernel) hx hb hL hown hts hT k288 k36 sw446 hne hl.1 hml dDB_requireNumber_11 dDB_requireNumber_14 dDB_requireNumber_15 dDB_requireNumber_17 dDB_requireNumber_20 (Nat.le_of_ble_eq_true rfl) (Nat.le_of_ble_eq_true rfl) (Nat.le_of_ble_eq_true rfl) (Nat.le_of_ble_eq_true rfl) hlocks
set_option maxHeartbeats 4000000 in
set_option maxRecDepth 100000 in
theorem c_DB_requireSender_T (l : Launch) (hL : l.stackTraces = false) {D : va_G} {cI cL : ClassId} {a : Nat → Nat} (dI : Nat) (dO dG dN dT : Int32) (aN aB : Nat → Int32) (nS nP nR nG : Nat → Int32) (nO nU : Nat → Int64) (nT : Nat → Int32) (tP tR tO tN : Nat → Int32) (tF tZ : Nat) (mP : Nat → Int32) (mN : Int64) (y : Int32) (hbad : fDB_isRouter y = true → ¬ y = nI dI → False) : Tet l yDB_requireSender wsDB_requireSender ({ frames := 6, cells := 1, slots := 6, locals := 82 }) (va_Pc [.ref (a 0), .int y] (tPre D (tyC cI cL) (wC cI cL a) ((dI, dO, dG, dN, dT), (aN, aB), (nS, nP, nR, nG, nO, nU, nT), (tP, tR, tO, tN, tF, tZ), (mP, mN)))) "java/lang/IllegalArgumentException" 1 6 := by
  refine t_enter (by decide) rfl (Nat.le_of_ble_eq_true rfl) ?_
  intro p e s m below meth c ls F hne hK hP hT hl
  obtain ⟨hx, hb, hr, hml, hown, hts, hlocks⟩ := id F
  have hl : lv_has ls 2 [(0, .ref (a 0)), (1, .int y)] := hl
  refine lv_iload_n hx hb dDB_requireSender_0 rfl (lv_at hl 1 rfl) ?_
  refine g_roSi (As := [.int y]) (rest := []) ⟨hx, hb, hml, hown, hts⟩ (c_DB_isRouter l dI dO dG dN dT aN aB nS nP nR nG nO nU nT tP tR tO tN tF tZ mP mN y) (cw_S 1 hts k383 k384 k27 k385 rfl rfl rfl (by decide +kernel) ⟨Nat.le_of_ble_eq_true rfl, Nat.le_of_ble_eq_true rfl⟩) hK hP rfl hl.1 rfl (Nat.le_of_ble_eq_true rfl) dDB_requireSender_1 ⟨Nat.zero_le _, Nat.zero_le _⟩ ?_
  refine lv_if_eqb (tgt := 15) hx hb dDB_requireSender_4 (by decide) (fun c1 => ?_) (fun c1 => ?_)
  · exact t_throw (text := "not another router") exIA (by decide +kernel) hx hb hL hown hts hT k288 k36 sw386 hne hl.1 hml dDB_requireSender_15 dDB_requireSender_18 dDB_requireSender_19 dDB_requireSender_21 dDB_requireSender_24 (Nat.le_of_ble_eq_true rfl) (Nat.le_of_ble_eq_true rfl) (Nat.le_of_ble_eq_true rfl) (Nat.le_of_ble_eq_true rfl) hlocks
  · refine lv_iload_n hx hb dDB_requireSender_7 rfl (lv_at hl 1 rfl) ?_
    refine lv_aload_n hx hb dDB_requireSender_8 rfl (lv_at hl 0 rfl) ?_
    refine va_get (D := D) (ci := 4) (v := .int (nI dI)) (C := RDB) (T := TDB) (N := 9) hx hb hts inDB hown hK hP 0 rfl rfl 0 (by decide) (hts _ k128) (fun _ h9 => h9) rfl dDB_requireSender_9 ?_
    refine lv_icmp_ne (tgt := 25) hx hb dDB_requireSender_12 (by decide) (fun c2 => (hbad c1 c2).elim) (fun c2 => ?_)
    exact t_throw (text := "not another router") exIA (by decide +kernel) hx hb hL hown hts hT k288 k36 sw386 hne hl.1 hml dDB_requireSender_15 dDB_requireSender_18 dDB_requireSender_19 dDB_requireSender_21 dDB_requireSender_24 (Nat.le_of_ble_eq_true rfl) (Nat.le_of_ble_eq_true rfl) (Nat.le_of_ble_eq_true rfl) (Nat.le_of_ble_eq_true rfl) hlocks
set_option maxHeartbeats 4000000 in
set_option maxRecDepth 100000 in
theorem c_DB_requireOn_T (l : Launch) (hL : l.stackTraces = false) {D : va_G} {cI cL : ClassId} {a : Nat → Nat} (dI : Nat) (dO dG dN dT : Int32) (aN aB : Nat → Int32) (nS nP nR nG : Nat → Int32) (nO nU : Nat → Int64) (nT : Nat → Int32) (tP tR tO tN : Nat → Int32) (tF tZ : Nat) (mP : Nat → Int32) (mN : Int64) (q : Nat) (hq : q < 8) (hoff : fDB_isOn dO q = false) : Tet l yDB_requireOn wsDB_requireOn ({ frames := 6, cells := 1, slots := 6, locals := 82 }) (va_Pc [.ref (a 0), .int (nI q)] (tPre D (tyC cI cL) (wC cI cL a) ((dI, dO, dG, dN, dT), (aN, aB), (nS, nP, nR, nG, nO, nU, nT), (tP, tR, tO, tN, tF, tZ), (mP, mN)))) "java/lang/IllegalStateException" 1 6 := by
  refine t_enter (by decide) rfl (Nat.le_of_ble_eq_true rfl) ?_
  intro p e s m below meth c ls F hne hK hP hT hl
  obtain ⟨hx, hb, hr, hml, hown, hts, hlocks⟩ := id F
  have hl : lv_has ls 2 [(0, .ref (a 0)), (1, .int (nI q))] := hl
  refine lv_aload_n hx hb dDB_requireOn_0 rfl (lv_at hl 0 rfl) ?_
  refine lv_iload_n hx hb dDB_requireOn_1 rfl (lv_at hl 1 rfl) ?_
  refine g_roVi (As := [.int (nI q)]) (rest := []) ⟨hx, hb, hml, hown, hts⟩ (c_DB_isOn l dI dO dG dN dT aN aB nS nP nR nG nO nU nT tP tR tO tN tF tZ mP mN q (by first | omega | assumption)) (cwV 1 hts (gw_V k355 k357 k7 k27 k358) rfl rfl rfl (by decide +kernel) ⟨Nat.le_of_ble_eq_true rfl, Nat.le_of_ble_eq_true rfl⟩) hK hP (va_recv hK hP (ci := 4) (q0 := 0) rfl rfl) rfl hl.1 rfl (Nat.le_of_ble_eq_true rfl) dDB_requireOn_2 ⟨Nat.zero_le _, Nat.zero_le _⟩ ?_
  refine lv_if_neb (tgt := 18) hx hb dDB_requireOn_5 (by decide) (fun c1 => absurd (c1.symm.trans hoff) (by decide)) (fun c1 => ?_)
  exact t_throw (text := "the port is off") exIS (by decide +kernel) hx hb hL hown hts hT k391 k37 sw400 hne hl.1 hml dDB_requireOn_8 dDB_requireOn_11 dDB_requireOn_12 dDB_requireOn_14 dDB_requireOn_17 (Nat.le_of_ble_eq_true rfl) (Nat.le_of_ble_eq_true rfl) (Nat.le_of_ble_eq_true rfl) (Nat.le_of_ble_eq_true rfl) hlocks
set_option maxHeartbeats 4000000 in
set_option maxRecDepth 100000 in
theorem c_DB_requireLegal_T1 (l : Launch) (hL : l.stackTraces = false) {D : va_G} {cI cL : ClassId} {a : Nat → Nat} (dI : Nat) (dO dG dN dT : Int32) (aN aB : Nat → Int32) (nS nP nR nG : Nat → Int32) (nO nU : Nat → Int64) (nT : Nat → Int32) (tP tR tO tN : Nat → Int32) (tF tZ : Nat) (mP : Nat → Int32) (mN : Int64) (x : Int32) (y : Int32) (z : Int32) (x4 : Int32) (hb0 : fDB_isPort x = false) : Tet l yDB_requireLegal wsDB_requireLegal ({ frames := 7, cells := 1, slots := 6, locals := 102 }) (va_Pc [.ref (a 0), .int x, .int y, .int z, .int x4] (tPre D (tyC cI cL) (wC cI cL a) ((dI, dO, dG, dN, dT), (aN, aB), (nS, nP, nR, nG, nO, nU, nT), (tP, tR, tO, tN, tF, tZ), (mP, mN)))) "java/lang/IllegalArgumentException" 1 6 := by
  refine t_enter (by decide) rfl (Nat.le_of_ble_eq_true rfl) ?_
  intro p e s m below meth c ls F hne hK hP hT hl
  obtain ⟨hx, hb, hr, hml, hown, hts, hlocks⟩ := id F
  have hl : lv_has ls 5 [(0, .ref (a 0)), (1, .int x), (2, .int y), (3, .int z), (4, .int x4)] := hl
  refine lv_iload_n hx hb dDB_requireLegal_0 rfl (lv_at hl 1 rfl) ?_
  exact t_passS (As := [.int x]) (rest := []) ⟨hx, hb, hml, hown, hts⟩ (c_DB_requirePort_T l hL dI dO dG dN dT aN aB nS nP nR nG nO nU nT tP tR tO tN tF tZ mP mN x (by first | omega | assumption)) (cw_S 1 hts k285 k286 k27 k287 rfl rfl rfl (by decide +kernel) ⟨Nat.le_of_ble_eq_true rfl, Nat.le_of_ble_eq_true rfl⟩) hK hP hT rfl hl.1 rfl (Nat.le_of_ble_eq_true rfl) dDB_requireLegal_1 ⟨Nat.le_of_ble_eq_true rfl, Nat.le_of_ble_eq_true rfl⟩ hne hlocks
set_option maxHeartbeats 4000000 in
set_option maxRecDepth 100000 in
theorem c_DB_requireLegal_T2 (l : Launch) (hL : l.stackTraces = false) {D : va_G} {cI cL : ClassId} {a : Nat → Nat} (dI : Nat) (dO dG dN dT : Int32) (aN aB : Nat → Int32) (nS nP nR nG : Nat → Int32) (nO nU : Nat → Int64) (nT : Nat → Int32) (tP tR tO tN : Nat → Int32) (tF tZ : Nat) (mP : Nat → Int32) (mN : Int64) (q : Nat) (y : Int32) (z : Int32) (x4 : Int32) (hq : q < 8) (hbad : fDB_isRouter y = true → ¬ y = nI dI → False) : Tet l yDB_requireLegal wsDB_requireLegal ({ frames := 7, cells := 1, slots := 6, locals := 103 }) (va_Pc [.ref (a 0), .int (nI q), .int y, .int z, .int x4] (tPre D (tyC cI cL) (wC cI cL a) ((dI, dO, dG, dN, dT), (aN, aB), (nS, nP, nR, nG, nO, nU, nT), (tP, tR, tO, tN, tF, tZ), (mP, mN)))) "java/lang/IllegalArgumentException" 1 6 := by
  refine t_enter (by decide) rfl (Nat.le_of_ble_eq_true rfl) ?_
  intro p e s m below meth c ls F hne hK hP hT hl
  obtain ⟨hx, hb, hr, hml, hown, hts, hlocks⟩ := id F
  have hl : lv_has ls 5 [(0, .ref (a 0)), (1, .int (nI q)), (2, .int y), (3, .int z), (4, .int x4)] := hl
  refine lv_iload_n hx hb dDB_requireLegal_0 rfl (lv_at hl 1 rfl) ?_
  refine g_roSv (As := [.int (nI q)]) (rest := []) ⟨hx, hb, hml, hown, hts⟩ (c_DB_requirePort l dI dO dG dN dT aN aB nS nP nR nG nO nU nT tP tR tO tN tF tZ mP mN q (by first | omega | assumption)) (cw_S 1 hts k285 k286 k27 k287 rfl rfl rfl (by decide +kernel) ⟨Nat.le_of_ble_eq_true rfl, Nat.le_of_ble_eq_true rfl⟩) hK hP rfl hl.1 rfl (Nat.le_of_ble_eq_true rfl) dDB_requireLegal_1 ⟨Nat.zero_le _, Nat.zero_le _⟩ ?_
  refine lv_aload_n hx hb dDB_requireLegal_4 rfl (lv_at hl 0 rfl) ?_
  refine lv_iload_n hx hb dDB_requireLegal_5 rfl (lv_at hl 2 rfl) ?_
  exact t_passV (As := [.int y]) (rest := []) ⟨hx, hb, hml, hown, hts⟩ (c_DB_requireSender_T l hL dI dO dG dN dT aN aB nS nP nR nG nO nU nT tP tR tO tN tF tZ mP mN y (by first | omega | assumption)) (cwV 1 hts (gw_V k379 k381 k10 k27 k382) rfl rfl rfl (by decide +kernel) ⟨Nat.le_of_ble_eq_true rfl, Nat.le_of_ble_eq_true rfl⟩) hK hP hT (va_recv hK hP (ci := 4) (q0 := 0) rfl rfl) rfl hl.1 rfl (Nat.le_of_ble_eq_true rfl) dDB_requireLegal_6 ⟨Nat.le_of_ble_eq_true rfl, Nat.le_of_ble_eq_true rfl⟩ hne hlocks
set_option maxHeartbeats 4000000 in
set_option maxRecDepth 100000 in
theorem c_DB_requireLegal_T3 (l : Launch) (hL : l.stackTraces = false) {D : va_G} {cI cL : ClassId} {a : Nat → Nat} (dI : Nat) (dO dG dN dT : Int32) (aN aB : Nat → Int32) (nS nP nR nG : Nat → Int32) (nO nU : Nat → Int64) (nT : Nat → Int32) (tP tR tO tN : Nat → Int32) (tF tZ : Nat) (mP : Nat → Int32) (mN : Int64) (q : Nat) (o : Nat) (x : Int32) (x4 : Int32) (hq : q < 8) (ho : o < 64) (hne0 : ¬ o = dI) (hI : dI < 64) (hb0 : fDB_isRouter x = false) : Tet l yDB_requireLegal wsDB_requireLegal ({ frames := 7, cells := 1, slots := 6, locals := 102 }) (va_Pc [.ref (a 0), .int (nI q), .int (nI o), .int x, .int x4] (tPre D (tyC cI cL) (wC cI cL a) ((dI, dO, dG, dN, dT), (aN, aB), (nS, nP, nR, nG, nO, nU, nT), (tP, tR, tO, tN, tF, tZ), (mP, mN)))) "java/lang/IllegalArgumentException" 1 6 := by
  refine t_enter (by decide) rfl (Nat.le_of_ble_eq_true rfl) ?_
  intro p e s m below meth c ls F hne hK hP hT hl
  obtain ⟨hx, hb, hr, hml, hown, hts, hlocks⟩ := id F
  have hl : lv_has ls 5 [(0, .ref (a 0)), (1, .int (nI q)), (2, .int (nI o)), (3, .int x), (4, .int x4)] := hl
  refine lv_iload_n hx hb dDB_requireLegal_0 rfl (lv_at hl 1 rfl) ?_
  refine g_roSv (As := [.int (nI q)]) (rest := []) ⟨hx, hb, hml, hown, hts⟩ (c_DB_requirePort l dI dO dG dN dT aN aB nS nP nR nG nO nU nT tP tR tO tN tF tZ mP mN q (by first | omega | assumption)) (cw_S 1 hts k285 k286 k27 k287 rfl rfl rfl (by decide +kernel) ⟨Nat.le_of_ble_eq_true rfl, Nat.le_of_ble_eq_true rfl⟩) hK hP rfl hl.1 rfl (Nat.le_of_ble_eq_true rfl) dDB_requireLegal_1 ⟨Nat.zero_le _, Nat.zero_le _⟩ ?_
  refine lv_aload_n hx hb dDB_requireLegal_4 rfl (lv_at hl 0 rfl) ?_
  refine lv_iload_n hx hb dDB_requireLegal_5 rfl (lv_at hl 2 rfl) ?_
  refine g_roVv (As := [.int (nI o)]) (rest := []) ⟨hx, hb, hml, hown, hts⟩ (c_DB_requireSender l dI dO dG dN dT aN aB nS nP nR nG nO nU nT tP tR tO tN tF tZ mP mN o (by first | omega | assumption) (by first | omega | assumption) (by first | omega | assumption)) (cwV 1 hts (gw_V k379 k381 k10 k27 k382) rfl rfl rfl (by decide +kernel) ⟨Nat.le_of_ble_eq_true rfl, Nat.le_of_ble_eq_true rfl⟩) hK hP (va_recv hK hP (ci := 4) (q0 := 0) rfl rfl) rfl hl.1 rfl (Nat.le_of_ble_eq_true rfl) dDB_requireLegal_6 ⟨Nat.zero_le _, Nat.zero_le _⟩ ?_
  refine lv_iload_n hx hb dDB_requireLegal_9 rfl (lv_at hl 3 rfl) ?_
  exact t_passS (As := [.int x]) (rest := []) ⟨hx, hb, hml, hown, hts⟩ (c_DB_requireRouter_T l hL dI dO dG dN dT aN aB nS nP nR nG nO nU nT tP tR tO tN tF tZ mP mN x (by first | omega | assumption)) (cw_S 1 hts k438 k439 k27 k440 rfl rfl rfl (by decide +kernel) ⟨Nat.le_of_ble_eq_true rfl, Nat.le_of_ble_eq_true rfl⟩) hK hP hT rfl hl.1 rfl (Nat.le_of_ble_eq_true rfl) dDB_requireLegal_10 ⟨Nat.le_of_ble_eq_true rfl, Nat.le_of_ble_eq_true rfl⟩ hne hlocks
set_option maxHeartbeats 4000000 in
set_option maxRecDepth 100000 in
theorem c_DB_requireLegal_T4 (l : Launch) (hL : l.stackTraces = false) {D : va_G} {cI cL : ClassId} {a : Nat → Nat} (dI : Nat) (dO dG dN dT : Int32) (aN aB : Nat → Int32) (nS nP nR nG : Nat → Int32) (nO nU : Nat → Int64) (nT : Nat → Int32) (tP tR tO tN : Nat → Int32) (tF tZ : Nat) (mP : Nat → Int32) (mN : Int64) (q : Nat) (o : Nat) (g : Nat) (x : Int32) (hq : q < 8) (ho : o < 64) (hne0 : ¬ o = dI) (hI : dI < 64) (hg : g < 64) (hb0 : fDB_isNum x = false) : Tet l yDB_requireLegal wsDB_requireLegal ({ frames := 7, cells := 1, slots := 6, locals := 102 }) (va_Pc [.ref (a 0), .int (nI q), .int (nI o), .int (nI g), .int x] (tPre D (tyC cI cL) (wC cI cL a) ((dI, dO, dG, dN, dT), (aN, aB), (nS, nP, nR, nG, nO, nU, nT), (tP, tR, tO, tN, tF, tZ), (mP, mN)))) "java/lang/IllegalArgumentException" 1 6 := by
  refine t_enter (by decide) rfl (Nat.le_of_ble_eq_true rfl) ?_
  intro p e s m below meth c ls F hne hK hP hT hl
  obtain ⟨hx, hb, hr, hml, hown, hts, hlocks⟩ := id F
  have hl : lv_has ls 5 [(0, .ref (a 0)), (1, .int (nI q)), (2, .int (nI o)), (3, .int (nI g)), (4, .int x)] := hl
  refine lv_iload_n hx hb dDB_requireLegal_0 rfl (lv_at hl 1 rfl) ?_
  refine g_roSv (As := [.int (nI q)]) (rest := []) ⟨hx, hb, hml, hown, hts⟩ (c_DB_requirePort l dI dO dG dN dT aN aB nS nP nR nG nO nU nT tP tR tO tN tF tZ mP mN q (by first | omega | assumption)) (cw_S 1 hts k285 k286 k27 k287 rfl rfl rfl (by decide +kernel) ⟨Nat.le_of_ble_eq_true rfl, Nat.le_of_ble_eq_true rfl⟩) hK hP rfl hl.1 rfl (Nat.le_of_ble_eq_true rfl) dDB_requireLegal_1 ⟨Nat.zero_le _, Nat.zero_le _⟩ ?_
  refine lv_aload_n hx hb dDB_requireLegal_4 rfl (lv_at hl 0 rfl) ?_
  refine lv_iload_n hx hb dDB_requireLegal_5 rfl (lv_at hl 2 rfl) ?_
  refine g_roVv (As := [.int (nI o)]) (rest := []) ⟨hx, hb, hml, hown, hts⟩ (c_DB_requireSender l dI dO dG dN dT aN aB nS nP nR nG nO nU nT tP tR tO tN tF tZ mP mN o (by first | omega | assumption) (by first | omega | assumption) (by first | omega | assumption)) (cwV 1 hts (gw_V k379 k381 k10 k27 k382) rfl rfl rfl (by decide +kernel) ⟨Nat.le_of_ble_eq_true rfl, Nat.le_of_ble_eq_true rfl⟩) hK hP (va_recv hK hP (ci := 4) (q0 := 0) rfl rfl) rfl hl.1 rfl (Nat.le_of_ble_eq_true rfl) dDB_requireLegal_6 ⟨Nat.zero_le _, Nat.zero_le _⟩ ?_
  refine lv_iload_n hx hb dDB_requireLegal_9 rfl (lv_at hl 3 rfl) ?_
  refine g_roSv (As := [.int (nI g)]) (rest := []) ⟨hx, hb, hml, hown, hts⟩ (c_DB_requireRouter l dI dO dG dN dT aN aB nS nP nR nG nO nU nT tP tR tO tN tF tZ mP mN g (by first | omega | assumption)) (cw_S 1 hts k438 k439 k27 k440 rfl rfl rfl (by decide +kernel) ⟨Nat.le_of_ble_eq_true rfl, Nat.le_of_ble_eq_true rfl⟩) hK hP rfl hl.1 rfl (Nat.le_of_ble_eq_true rfl) dDB_requireLegal_10 ⟨Nat.zero_le _, Nat.zero_le _⟩ ?_
  refine lv_iload hx hb dDB_requireLegal_13 (lv_at hl 4 rfl) ?_
  exact t_passS (As := [.int x]) (rest := []) ⟨hx, hb, hml, hown, hts⟩ (c_DB_requireNumber_T l hL dI dO dG dN dT aN aB nS nP nR nG nO nU nT tP tR tO tN tF tZ mP mN x (by first | omega | assumption)) (cw_S 1 hts k442 k443 k27 k444 rfl rfl rfl (by decide +kernel) ⟨Nat.le_of_ble_eq_true rfl, Nat.le_of_ble_eq_true rfl⟩) hK hP hT rfl hl.1 rfl (Nat.le_of_ble_eq_true rfl) dDB_requireLegal_15 ⟨Nat.le_of_ble_eq_true rfl, Nat.le_of_ble_eq_true rfl⟩ hne hlocks
set_option maxHeartbeats 4000000 in
set_option maxRecDepth 100000 in
theorem c_DB_requireLegal_T5 (l : Launch) (hL : l.stackTraces = false) {D : va_G} {cI cL : ClassId} {a : Nat → Nat} (dI : Nat) (dO dG dN dT : Int32) (aN aB : Nat → Int32) (nS nP nR nG : Nat → Int32) (nO nU : Nat → Int64) (nT : Nat → Int32) (tP tR tO tN : Nat → Int32) (tF tZ : Nat) (mP : Nat → Int32) (mN : Int64) (q : Nat) (o : Nat) (g : Nat) (x : Int32) (hq : q < 8) (ho : o < 64) (hne0 : ¬ o = dI) (hI : dI < 64) (hg : g < 64) (h1 : ¬ x < 1) (h2 : x ≤ 1000000000) (hoff : fDB_isOn dO q = false) : Tet l yDB_requireLegal wsDB_requireLegal ({ frames := 7, cells := 1, slots := 6, locals := 103 }) (va_Pc [.ref (a 0), .int (nI q), .int (nI o), .int (nI g), .int x] (tPre D (tyC cI cL) (wC cI cL a) ((dI, dO, dG, dN, dT), (aN, aB), (nS, nP, nR, nG, nO, nU, nT), (tP, tR, tO, tN, tF, tZ), (mP, mN)))) "java/lang/IllegalStateException" 1 6 := by
  refine t_enter (by decide) rfl (Nat.le_of_ble_eq_true rfl) ?_
  intro p e s m below meth c ls F hne hK hP hT hl
  obtain ⟨hx, hb, hr, hml, hown, hts, hlocks⟩ := id F
  have hl : lv_has ls 5 [(0, .ref (a 0)), (1, .int (nI q)), (2, .int (nI o)), (3, .int (nI g)), (4, .int x)] := hl
  refine lv_iload_n hx hb dDB_requireLegal_0 rfl (lv_at hl 1 rfl) ?_
  refine g_roSv (As := [.int (nI q)]) (rest := []) ⟨hx, hb, hml, hown, hts⟩ (c_DB_requirePort l dI dO dG dN dT aN aB nS nP nR nG nO nU nT tP tR tO tN tF tZ mP mN q (by first | omega | assumption)) (cw_S 1 hts k285 k286 k27 k287 rfl rfl rfl (by decide +kernel) ⟨Nat.le_of_ble_eq_true rfl, Nat.le_of_ble_eq_true rfl⟩) hK hP rfl hl.1 rfl (Nat.le_of_ble_eq_true rfl) dDB_requireLegal_1 ⟨Nat.zero_le _, Nat.zero_le _⟩ ?_
  refine lv_aload_n hx hb dDB_requireLegal_4 rfl (lv_at hl 0 rfl) ?_
  refine lv_iload_n hx hb dDB_requireLegal_5 rfl (lv_at hl 2 rfl) ?_
  refine g_roVv (As := [.int (nI o)]) (rest := []) ⟨hx, hb, hml, hown, hts⟩ (c_DB_requireSender l dI dO dG dN dT aN aB nS nP nR nG nO nU nT tP tR tO tN tF tZ mP mN o (by first | omega | assumption) (by first | omega | assumption) (by first | omega | assumption)) (cwV 1 hts (gw_V k379 k381 k10 k27 k382) rfl rfl rfl (by decide +kernel) ⟨Nat.le_of_ble_eq_true rfl, Nat.le_of_ble_eq_true rfl⟩) hK hP (va_recv hK hP (ci := 4) (q0 := 0) rfl rfl) rfl hl.1 rfl (Nat.le_of_ble_eq_true rfl) dDB_requireLegal_6 ⟨Nat.zero_le _, Nat.zero_le _⟩ ?_
  refine lv_iload_n hx hb dDB_requireLegal_9 rfl (lv_at hl 3 rfl) ?_
  refine g_roSv (As := [.int (nI g)]) (rest := []) ⟨hx, hb, hml, hown, hts⟩ (c_DB_requireRouter l dI dO dG dN dT aN aB nS nP nR nG nO nU nT tP tR tO tN tF tZ mP mN g (by first | omega | assumption)) (cw_S 1 hts k438 k439 k27 k440 rfl rfl rfl (by decide +kernel) ⟨Nat.le_of_ble_eq_true rfl, Nat.le_of_ble_eq_true rfl⟩) hK hP rfl hl.1 rfl (Nat.le_of_ble_eq_true rfl) dDB_requireLegal_10 ⟨Nat.zero_le _, Nat.zero_le _⟩ ?_
  refine lv_iload hx hb dDB_requireLegal_13 (lv_at hl 4 rfl) ?_
  refine g_roSv (As := [.int x]) (rest := []) ⟨hx, hb, hml, hown, hts⟩ (c_DB_requireNumber l dI dO dG dN dT aN aB nS nP nR nG nO nU nT tP tR tO tN tF tZ mP mN x (by first | omega | assumption) (by first | omega | assumption)) (cw_S 1 hts k442 k443 k27 k444 rfl rfl rfl (by decide +kernel) ⟨Nat.le_of_ble_eq_true rfl, Nat.le_of_ble_eq_true rfl⟩) hK hP rfl hl.1 rfl (Nat.le_of_ble_eq_true rfl) dDB_requireLegal_15 ⟨Nat.zero_le _, Nat.zero_le _⟩ ?_
  refine lv_aload_n hx hb dDB_requireLegal_18 rfl (lv_at hl 0 rfl) ?_
  refine lv_iload_n hx hb dDB_requireLegal_19 rfl (lv_at hl 1 rfl) ?_
  exact t_passV (As := [.int (nI q)]) (rest := []) ⟨hx, hb, hml, hown, hts⟩ (c_DB_requireOn_T l hL dI dO dG dN dT aN aB nS nP nR nG nO nU nT tP tR tO tN tF tZ mP mN q (by first | omega | assumption) (by first | omega | assumption)) (cwV 1 hts (gw_V k387 k389 k11 k27 k390) rfl rfl rfl (by decide +kernel) ⟨Nat.le_of_ble_eq_true rfl, Nat.le_of_ble_eq_true rfl⟩) hK hP hT (va_recv hK hP (ci := 4) (q0 := 0) rfl rfl) rfl hl.1 rfl (Nat.le_of_ble_eq_true rfl) dDB_requireLegal_20 ⟨Nat.le_of_ble_eq_true rfl, Nat.le_of_ble_eq_true rfl⟩ hne hlocks
set_option maxHeartbeats 4000000 in
set_option maxRecDepth 100000 in
theorem c_DB_port_T (l : Launch) (hL : l.stackTraces = false) {D : va_G} {cI cL : ClassId} {a : Nat → Nat} (dI : Nat) (dO dG dN dT : Int32) (aN aB : Nat → Int32) (nS nP nR nG : Nat → Int32) (nO nU : Nat → Int64) (nT : Nat → Int32) (tP tR tO tN : Nat → Int32) (tF tZ : Nat) (mP : Nat → Int32) (mN : Int64) (x : Int32) (b : Bool) (hb0 : fDB_isPort x = false) : Tet l yDB_port wsDB_port ({ frames := 7, cells := 1, slots := 6, locals := 102 }) (va_Pc [.ref (a 0), .int x, .int (bi b)] (tPre D (tyC cI cL) (wC cI cL a) ((dI, dO, dG, dN, dT), (aN, aB), (nS, nP, nR, nG, nO, nU, nT), (tP, tR, tO, tN, tF, tZ), (mP, mN)))) "java/lang/IllegalArgumentException" 1 6 := by
  refine t_enter (by decide) rfl (Nat.le_of_ble_eq_true rfl) ?_
  intro p e s m below meth c ls F hne hK hP hT hl
  obtain ⟨hx, hb, hr, hml, hown, hts, hlocks⟩ := id F
  have hl : lv_has ls 3 [(0, .ref (a 0)), (1, .int x), (2, .int (bi b))] := hl
  refine lv_iload_n hx hb dDB_port_0 rfl (lv_at hl 1 rfl) ?_
  exact t_passS (As := [.int x]) (rest := []) ⟨hx, hb, hml, hown, hts⟩ (c_DB_requirePort_T l hL dI dO dG dN dT aN aB nS nP nR nG nO nU nT tP tR tO tN tF tZ mP mN x (by first | omega | assumption)) (cw_S 1 hts k285 k286 k27 k287 rfl rfl rfl (by decide +kernel) ⟨Nat.le_of_ble_eq_true rfl, Nat.le_of_ble_eq_true rfl⟩) hK hP hT rfl hl.1 rfl (Nat.le_of_ble_eq_true rfl) dDB_port_1 ⟨Nat.le_of_ble_eq_true rfl, Nat.le_of_ble_eq_true rfl⟩ hne hlocks
set_option maxHeartbeats 4000000 in
set_option maxRecDepth 100000 in
theorem c_DB_greeting_T1 (l : Launch) (hL : l.stackTraces = false) {D : va_G} {cI cL : ClassId} {a : Nat → Nat} (dI : Nat) (dO dG dN dT : Int32) (aN aB : Nat → Int32) (nS nP nR nG : Nat → Int32) (nO nU : Nat → Int64) (nT : Nat → Int32) (tP tR tO tN : Nat → Int32) (tF tZ : Nat) (mP : Nat → Int32) (mN : Int64) (x : Int32) (y : Int32) (b : Bool) (hb0 : fDB_isPort x = false) : Tet l yDB_greeting wsDB_greeting ({ frames := 7, cells := 1, slots := 6, locals := 102 }) (va_Pc [.ref (a 0), .int x, .int y, .int (bi b)] (tPre D (tyC cI cL) (wC cI cL a) ((dI, dO, dG, dN, dT), (aN, aB), (nS, nP, nR, nG, nO, nU, nT), (tP, tR, tO, tN, tF, tZ), (mP, mN)))) "java/lang/IllegalArgumentException" 1 6 := by
  refine t_enter (by decide) rfl (Nat.le_of_ble_eq_true rfl) ?_
  intro p e s m below meth c ls F hne hK hP hT hl
  obtain ⟨hx, hb, hr, hml, hown, hts, hlocks⟩ := id F
  have hl : lv_has ls 5 [(0, .ref (a 0)), (1, .int x), (2, .int y), (3, .int (bi b))] := hl
  refine lv_iload_n hx hb dDB_greeting_0 rfl (lv_at hl 1 rfl) ?_
  exact t_passS (As := [.int x]) (rest := []) ⟨hx, hb, hml, hown, hts⟩ (c_DB_requirePort_T l hL dI dO dG dN dT aN aB nS nP nR nG nO nU nT tP tR tO tN tF tZ mP mN x (by first | omega | assumption)) (cw_S 1 hts k285 k286 k27 k287 rfl rfl rfl (by decide +kernel) ⟨Nat.le_of_ble_eq_true rfl, Nat.le_of_ble_eq_true rfl⟩) hK hP hT rfl hl.1 rfl (Nat.le_of_ble_eq_true rfl) dDB_greeting_1 ⟨Nat.le_of_ble_eq_true rfl, Nat.le_of_ble_eq_true rfl⟩ hne hlocks
set_option maxHeartbeats 4000000 in
set_option maxRecDepth 100000 in
theorem c_DB_greeting_T2 (l : Launch) (hL : l.stackTraces = false) {D : va_G} {cI cL : ClassId} {a : Nat → Nat} (dI : Nat) (dO dG dN dT : Int32) (aN aB : Nat → Int32) (nS nP nR nG : Nat → Int32) (nO nU : Nat → Int64) (nT : Nat → Int32) (tP tR tO tN : Nat → Int32) (tF tZ : Nat) (mP : Nat → Int32) (mN : Int64) (q : Nat) (y : Int32) (b : Bool) (hq : q < 8) (hbad : fDB_isRouter y = true → ¬ y = nI dI → False) : Tet l yDB_greeting wsDB_greeting ({ frames := 7, cells := 1, slots := 6, locals := 103 }) (va_Pc [.ref (a 0), .int (nI q), .int y, .int (bi b)] (tPre D (tyC cI cL) (wC cI cL a) ((dI, dO, dG, dN, dT), (aN, aB), (nS, nP, nR, nG, nO, nU, nT), (tP, tR, tO, tN, tF, tZ), (mP, mN)))) "java/lang/IllegalArgumentException" 1 6 := by
  refine t_enter (by decide) rfl (Nat.le_of_ble_eq_true rfl) ?_
  intro p e s m below meth c ls F hne hK hP hT hl
  obtain ⟨hx, hb, hr, hml, hown, hts, hlocks⟩ := id F
  have hl : lv_has ls 5 [(0, .ref (a 0)), (1, .int (nI q)), (2, .int y), (3, .int (bi b))] := hl
  refine lv_iload_n hx hb dDB_greeting_0 rfl (lv_at hl 1 rfl) ?_
  refine g_roSv (As := [.int (nI q)]) (rest := []) ⟨hx, hb, hml, hown, hts⟩ (c_DB_requirePort l dI dO dG dN dT aN aB nS nP nR nG nO nU nT tP tR tO tN tF tZ mP mN q (by first | omega | assumption)) (cw_S 1 hts k285 k286 k27 k287 rfl rfl rfl (by decide +kernel) ⟨Nat.le_of_ble_eq_true rfl, Nat.le_of_ble_eq_true rfl⟩) hK hP rfl hl.1 rfl (Nat.le_of_ble_eq_true rfl) dDB_greeting_1 ⟨Nat.zero_le _, Nat.zero_le _⟩ ?_
  refine lv_aload_n hx hb dDB_greeting_4 rfl (lv_at hl 0 rfl) ?_
  refine lv_iload_n hx hb dDB_greeting_5 rfl (lv_at hl 2 rfl) ?_
  exact t_passV (As := [.int y]) (rest := []) ⟨hx, hb, hml, hown, hts⟩ (c_DB_requireSender_T l hL dI dO dG dN dT aN aB nS nP nR nG nO nU nT tP tR tO tN tF tZ mP mN y (by first | omega | assumption)) (cwV 1 hts (gw_V k379 k381 k10 k27 k382) rfl rfl rfl (by decide +kernel) ⟨Nat.le_of_ble_eq_true rfl, Nat.le_of_ble_eq_true rfl⟩) hK hP hT (va_recv hK hP (ci := 4) (q0 := 0) rfl rfl) rfl hl.1 rfl (Nat.le_of_ble_eq_true rfl) dDB_greeting_6 ⟨Nat.le_of_ble_eq_true rfl, Nat.le_of_ble_eq_true rfl⟩ hne hlocks
set_option maxHeartbeats 4000000 in
set_option maxRecDepth 100000 in
theorem c_DB_greeting_T3 (l : Launch) (hL : l.stackTraces = false) {D : va_G} {cI cL : ClassId} {a : Nat → Nat} (dI : Nat) (dO dG dN dT : Int32) (aN aB : Nat → Int32) (nS nP nR nG : Nat → Int32) (nO nU : Nat → Int64) (nT : Nat → Int32) (tP tR tO tN : Nat → Int32) (tF tZ : Nat) (mP : Nat → Int32) (mN : Int64) (q : Nat) (o : Nat) (b : Bool) (hq : q < 8) (ho : o < 64) (hne0 : ¬ o = dI) (hI : dI < 64) (hoff : fDB_isOn dO q = false) : Tet l yDB_greeting wsDB_greeting ({ frames := 7, cells := 1, slots := 6, locals := 103 }) (va_Pc [.ref (a 0), .int (nI q), .int (nI o), .int (bi b)] (tPre D (tyC cI cL) (wC cI cL a) ((dI, dO, dG, dN, dT), (aN, aB), (nS, nP, nR, nG, nO, nU, nT), (tP, tR, tO, tN, tF, tZ), (mP, mN)))) "java/lang/IllegalStateException" 1 6 := by
  refine t_enter (by decide) rfl (Nat.le_of_ble_eq_true rfl) ?_
  intro p e s m below meth c ls F hne hK hP hT hl
  obtain ⟨hx, hb, hr, hml, hown, hts, hlocks⟩ := id F
  have hl : lv_has ls 5 [(0, .ref (a 0)), (1, .int (nI q)), (2, .int (nI o)), (3, .int (bi b))] := hl
  refine lv_iload_n hx hb dDB_greeting_0 rfl (lv_at hl 1 rfl) ?_
  refine g_roSv (As := [.int (nI q)]) (rest := []) ⟨hx, hb, hml, hown, hts⟩ (c_DB_requirePort l dI dO dG dN dT aN aB nS nP nR nG nO nU nT tP tR tO tN tF tZ mP mN q (by first | omega | assumption)) (cw_S 1 hts k285 k286 k27 k287 rfl rfl rfl (by decide +kernel) ⟨Nat.le_of_ble_eq_true rfl, Nat.le_of_ble_eq_true rfl⟩) hK hP rfl hl.1 rfl (Nat.le_of_ble_eq_true rfl) dDB_greeting_1 ⟨Nat.zero_le _, Nat.zero_le _⟩ ?_
  refine lv_aload_n hx hb dDB_greeting_4 rfl (lv_at hl 0 rfl) ?_
  refine lv_iload_n hx hb dDB_greeting_5 rfl (lv_at hl 2 rfl) ?_
  refine g_roVv (As := [.int (nI o)]) (rest := []) ⟨hx, hb, hml, hown, hts⟩ (c_DB_requireSender l dI dO dG dN dT aN aB nS nP nR nG nO nU nT tP tR tO tN tF tZ mP mN o (by first | omega | assumption) (by first | omega | assumption) (by first | omega | assumption)) (cwV 1 hts (gw_V k379 k381 k10 k27 k382) rfl rfl rfl (by decide +kernel) ⟨Nat.le_of_ble_eq_true rfl, Nat.le_of_ble_eq_true rfl⟩) hK hP (va_recv hK hP (ci := 4) (q0 := 0) rfl rfl) rfl hl.1 rfl (Nat.le_of_ble_eq_true rfl) dDB_greeting_6 ⟨Nat.zero_le _, Nat.zero_le _⟩ ?_
  refine lv_aload_n hx hb dDB_greeting_9 rfl (lv_at hl 0 rfl) ?_
  refine lv_iload_n hx hb dDB_greeting_10 rfl (lv_at hl 1 rfl) ?_
  exact t_passV (As := [.int (nI q)]) (rest := []) ⟨hx, hb, hml, hown, hts⟩ (c_DB_requireOn_T l hL dI dO dG dN dT aN aB nS nP nR nG nO nU nT tP tR tO tN tF tZ mP mN q (by first | omega | assumption) (by first | omega | assumption)) (cwV 1 hts (gw_V k387 k389 k11 k27 k390) rfl rfl rfl (by decide +kernel) ⟨Nat.le_of_ble_eq_true rfl, Nat.le_of_ble_eq_true rfl⟩) hK hP hT (va_recv hK hP (ci := 4) (q0 := 0) rfl rfl) rfl hl.1 rfl (Nat.le_of_ble_eq_true rfl) dDB_greeting_11 ⟨Nat.le_of_ble_eq_true rfl, Nat.le_of_ble_eq_true rfl⟩ hne hlocks
set_option maxHeartbeats 4000000 in
set_option maxRecDepth 100000 in
theorem c_DB_advert_T1 (l : Launch) (hL : l.stackTraces = false) {D : va_G} {cI cL : ClassId} {a : Nat → Nat} (dI : Nat) (dO dG dN dT : Int32) (aN aB : Nat → Int32) (nS nP nR nG : Nat → Int32) (nO nU : Nat → Int64) (nT : Nat → Int32) (tP tR tO tN : Nat → Int32) (tF tZ : Nat) (mP : Nat → Int32) (mN : Int64) (x : Int32) (y : Int32) (z : Int32) (x4 : Int32) (x5 : Int32) (hb0 : fDB_isPort x = false) : Tet l yDB_advert wsDB_advert ({ frames := 8, cells := 1, slots := 6, locals := 126 }) (va_Pc [.ref (a 0), .int x, .int y, .int z, .int x4, .int x5] (tPre D (tyC cI cL) (wC cI cL a) ((dI, dO, dG, dN, dT), (aN, aB), (nS, nP, nR, nG, nO, nU, nT), (tP, tR, tO, tN, tF, tZ), (mP, mN)))) "java/lang/IllegalArgumentException" 1 6 := by
  refine t_enter (by decide) rfl (Nat.le_of_ble_eq_true rfl) ?_
  intro p e s m below meth c ls F hne hK hP hT hl
  obtain ⟨hx, hb, hr, hml, hown, hts, hlocks⟩ := id F
  have hl : lv_has ls 7 [(0, .ref (a 0)), (1, .int x), (2, .int y), (3, .int z), (4, .int x4), (5, .int x5)] := hl
  refine lv_aload_n hx hb dDB_advert_0 rfl (lv_at hl 0 rfl) ?_
  refine lv_iload_n hx hb dDB_advert_1 rfl (lv_at hl 1 rfl) ?_
  refine lv_iload_n hx hb dDB_advert_2 rfl (lv_at hl 2 rfl) ?_
  refine lv_iload_n hx hb dDB_advert_3 rfl (lv_at hl 3 rfl) ?_
  refine lv_iload hx hb dDB_advert_4 (lv_at hl 4 rfl) ?_
  exact t_passV (As := [.int x, .int y, .int z, .int x4]) (rest := []) ⟨hx, hb, hml, hown, hts⟩ (c_DB_requireLegal_T1 l hL dI dO dG dN dT aN aB nS nP nR nG nO nU nT tP tR tO tN tF tZ mP mN x y z x4 (by first | omega | assumption)) (cwV 4 hts (gw_V k434 k436 k14 k27 k437) rfl rfl rfl (by decide +kernel) ⟨Nat.le_of_ble_eq_true rfl, Nat.le_of_ble_eq_true rfl⟩) hK hP hT (va_recv hK hP (ci := 4) (q0 := 0) rfl rfl) rfl hl.1 rfl (Nat.le_of_ble_eq_true rfl) dDB_advert_6 ⟨Nat.le_of_ble_eq_true rfl, Nat.le_of_ble_eq_true rfl⟩ hne hlocks
set_option maxHeartbeats 4000000 in
set_option maxRecDepth 100000 in
theorem c_DB_advert_T2 (l : Launch) (hL : l.stackTraces = false) {D : va_G} {cI cL : ClassId} {a : Nat → Nat} (dI : Nat) (dO dG dN dT : Int32) (aN aB : Nat → Int32) (nS nP nR nG : Nat → Int32) (nO nU : Nat → Int64) (nT : Nat → Int32) (tP tR tO tN : Nat → Int32) (tF tZ : Nat) (mP : Nat → Int32) (mN : Int64) (q : Nat) (y : Int32) (z : Int32) (x4 : Int32) (x5 : Int32) (hq : q < 8) (hbad : fDB_isRouter y = true → ¬ y = nI dI → False) : Tet l yDB_advert wsDB_advert ({ frames := 8, cells := 1, slots := 6, locals := 127 }) (va_Pc [.ref (a 0), .int (nI q), .int y, .int z, .int x4, .int x5] (tPre D (tyC cI cL) (wC cI cL a) ((dI, dO, dG, dN, dT), (aN, aB), (nS, nP, nR, nG, nO, nU, nT), (tP, tR, tO, tN, tF, tZ), (mP, mN)))) "java/lang/IllegalArgumentException" 1 6 := by
  refine t_enter (by decide) rfl (Nat.le_of_ble_eq_true rfl) ?_
  intro p e s m below meth c ls F hne hK hP hT hl
  obtain ⟨hx, hb, hr, hml, hown, hts, hlocks⟩ := id F
  have hl : lv_has ls 7 [(0, .ref (a 0)), (1, .int (nI q)), (2, .int y), (3, .int z), (4, .int x4), (5, .int x5)] := hl
  refine lv_aload_n hx hb dDB_advert_0 rfl (lv_at hl 0 rfl) ?_
  refine lv_iload_n hx hb dDB_advert_1 rfl (lv_at hl 1 rfl) ?_
  refine lv_iload_n hx hb dDB_advert_2 rfl (lv_at hl 2 rfl) ?_
  refine lv_iload_n hx hb dDB_advert_3 rfl (lv_at hl 3 rfl) ?_
  refine lv_iload hx hb dDB_advert_4 (lv_at hl 4 rfl) ?_
  exact t_passV (As := [.int (nI q), .int y, .int z, .int x4]) (rest := []) ⟨hx, hb, hml, hown, hts⟩ (c_DB_requireLegal_T2 l hL dI dO dG dN dT aN aB nS nP nR nG nO nU nT tP tR tO tN tF tZ mP mN q y z x4 (by first | omega | assumption) (by first | omega | assumption)) (cwV 4 hts (gw_V k434 k436 k14 k27 k437) rfl rfl rfl (by decide +kernel) ⟨Nat.le_of_ble_eq_true rfl, Nat.le_of_ble_eq_true rfl⟩) hK hP hT (va_recv hK hP (ci := 4) (q0 := 0) rfl rfl) rfl hl.1 rfl (Nat.le_of_ble_eq_true rfl) dDB_advert_6 ⟨Nat.le_of_ble_eq_true rfl, Nat.le_of_ble_eq_true rfl⟩ hne hlocks
set_option maxHeartbeats 4000000 in
set_option maxRecDepth 100000 in
theorem c_DB_advert_T3 (l : Launch) (hL : l.stackTraces = false) {D : va_G} {cI cL : ClassId} {a : Nat → Nat} (dI : Nat) (dO dG dN dT : Int32) (aN aB : Nat → Int32) (nS nP nR nG : Nat → Int32) (nO nU : Nat → Int64) (nT : Nat → Int32) (tP tR tO tN : Nat → Int32) (tF tZ : Nat) (mP : Nat → Int32) (mN : Int64) (q : Nat) (o : Nat) (x : Int32) (x4 : Int32) (x5 : Int32) (hq : q < 8) (ho : o < 64) (hne0 : ¬ o = dI) (hI : dI < 64) (hb0 : fDB_isRouter x = false) : Tet l yDB_advert wsDB_advert ({ frames := 8, cells := 1, slots := 6, locals := 126 }) (va_Pc [.ref (a 0), .int (nI q), .int (nI o), .int x, .int x4, .int x5] (tPre D (tyC cI cL) (wC cI cL a) ((dI, dO, dG, dN, dT), (aN, aB), (nS, nP, nR, nG, nO, nU, nT), (tP, tR, tO, tN, tF, tZ), (mP, mN)))) "java/lang/IllegalArgumentException" 1 6 := by
  refine t_enter (by decide) rfl (Nat.le_of_ble_eq_true rfl) ?_
  intro p e s m below meth c ls F hne hK hP hT hl
  obtain ⟨hx, hb, hr, hml, hown, hts, hlocks⟩ := id F
  have hl : lv_has ls 7 [(0, .ref (a 0)), (1, .int (nI q)), (2, .int (nI o)), (3, .int x), (4, .int x4), (5, .int x5)] := hl
  refine lv_aload_n hx hb dDB_advert_0 rfl (lv_at hl 0 rfl) ?_
  refine lv_iload_n hx hb dDB_advert_1 rfl (lv_at hl 1 rfl) ?_
  refine lv_iload_n hx hb dDB_advert_2 rfl (lv_at hl 2 rfl) ?_
  refine lv_iload_n hx hb dDB_advert_3 rfl (lv_at hl 3 rfl) ?_
  refine lv_iload hx hb dDB_advert_4 (lv_at hl 4 rfl) ?_
  exact t_passV (As := [.int (nI q), .int (nI o), .int x, .int x4]) (rest := []) ⟨hx, hb, hml, hown, hts⟩ (c_DB_requireLegal_T3 l hL dI dO dG dN dT aN aB nS nP nR nG nO nU nT tP tR tO tN tF tZ mP mN q o x x4 (by first | omega | assumption) (by first | omega | assumption) (by first | omega | assumption) (by first | omega | assumption) (by first | omega | assumption)) (cwV 4 hts (gw_V k434 k436 k14 k27 k437) rfl rfl rfl (by decide +kernel) ⟨Nat.le_of_ble_eq_true rfl, Nat.le_of_ble_eq_true rfl⟩) hK hP hT (va_recv hK hP (ci := 4) (q0 := 0) rfl rfl) rfl hl.1 rfl (Nat.le_of_ble_eq_true rfl) dDB_advert_6 ⟨Nat.le_of_ble_eq_true rfl, Nat.le_of_ble_eq_true rfl⟩ hne hlocks
set_option maxHeartbeats 4000000 in
set_option maxRecDepth 100000 in
theorem c_DB_advert_T4 (l : Launch) (hL : l.stackTraces = false) {D : va_G} {cI cL : ClassId} {a : Nat → Nat} (dI : Nat) (dO dG dN dT : Int32) (aN aB : Nat → Int32) (nS nP nR nG : Nat → Int32) (nO nU : Nat → Int64) (nT : Nat → Int32) (tP tR tO tN : Nat → Int32) (tF tZ : Nat) (mP : Nat → Int32) (mN : Int64) (q : Nat) (o : Nat) (g : Nat) (x : Int32) (x5 : Int32) (hq : q < 8) (ho : o < 64) (hne0 : ¬ o = dI) (hI : dI < 64) (hg : g < 64) (hb0 : fDB_isNum x = false) : Tet l yDB_advert wsDB_advert ({ frames := 8, cells := 1, slots := 6, locals := 126 }) (va_Pc [.ref (a 0), .int (nI q), .int (nI o), .int (nI g), .int x, .int x5] (tPre D (tyC cI cL) (wC cI cL a) ((dI, dO, dG, dN, dT), (aN, aB), (nS, nP, nR, nG, nO, nU, nT), (tP, tR, tO, tN, tF, tZ), (mP, mN)))) "java/lang/IllegalArgumentException" 1 6 := by
  refine t_enter (by decide) rfl (Nat.le_of_ble_eq_true rfl) ?_
  intro p e s m below meth c ls F hne hK hP hT hl
  obtain ⟨hx, hb, hr, hml, hown, hts, hlocks⟩ := id F
  have hl : lv_has ls 7 [(0, .ref (a 0)), (1, .int (nI q)), (2, .int (nI o)), (3, .int (nI g)), (4, .int x), (5, .int x5)] := hl
  refine lv_aload_n hx hb dDB_advert_0 rfl (lv_at hl 0 rfl) ?_
  refine lv_iload_n hx hb dDB_advert_1 rfl (lv_at hl 1 rfl) ?_
  refine lv_iload_n hx hb dDB_advert_2 rfl (lv_at hl 2 rfl) ?_
  refine lv_iload_n hx hb dDB_advert_3 rfl (lv_at hl 3 rfl) ?_
  refine lv_iload hx hb dDB_advert_4 (lv_at hl 4 rfl) ?_
  exact t_passV (As := [.int (nI q), .int (nI o), .int (nI g), .int x]) (rest := []) ⟨hx, hb, hml, hown, hts⟩ (c_DB_requireLegal_T4 l hL dI dO dG dN dT aN aB nS nP nR nG nO nU nT tP tR tO tN tF tZ mP mN q o g x (by first | omega | assumption) (by first | omega | assumption) (by first | omega | assumption) (by first | omega | assumption) (by first | omega | assumption) (by first | omega | assumption)) (cwV 4 hts (gw_V k434 k436 k14 k27 k437) rfl rfl rfl (by decide +kernel) ⟨Nat.le_of_ble_eq_true rfl, Nat.le_of_ble_eq_true rfl⟩) hK hP hT (va_recv hK hP (ci := 4) (q0 := 0) rfl rfl) rfl hl.1 rfl (Nat.le_of_ble_eq_true rfl) dDB_advert_6 ⟨Nat.le_of_ble_eq_true rfl, Nat.le_of_ble_eq_true rfl⟩ hne hlocks
set_option maxHeartbeats 4000000 in
set_option maxRecDepth 100000 in
theorem c_DB_advert_T5 (l : Launch) (hL : l.stackTraces = false) {D : va_G} {cI cL : ClassId} {a : Nat → Nat} (dI : Nat) (dO dG dN dT : Int32) (aN aB : Nat → Int32) (nS nP nR nG : Nat → Int32) (nO nU : Nat → Int64) (nT : Nat → Int32) (tP tR tO tN : Nat → Int32) (tF tZ : Nat) (mP : Nat → Int32) (mN : Int64) (q : Nat) (o : Nat) (g : Nat) (x : Int32) (x5 : Int32) (hq : q < 8) (ho : o < 64) (hne0 : ¬ o = dI) (hI : dI < 64) (hg : g < 64) (h1 : ¬ x < 1) (h2 : x ≤ 1000000000) (hoff : fDB_isOn dO q = false) : Tet l yDB_advert wsDB_advert ({ frames := 8, cells := 1, slots := 6, locals := 127 }) (va_Pc [.ref (a 0), .int (nI q), .int (nI o), .int (nI g), .int x, .int x5] (tPre D (tyC cI cL) (wC cI cL a) ((dI, dO, dG, dN, dT), (aN, aB), (nS, nP, nR, nG, nO, nU, nT), (tP, tR, tO, tN, tF, tZ), (mP, mN)))) "java/lang/IllegalStateException" 1 6 := by
  refine t_enter (by decide) rfl (Nat.le_of_ble_eq_true rfl) ?_
  intro p e s m below meth c ls F hne hK hP hT hl
  obtain ⟨hx, hb, hr, hml, hown, hts, hlocks⟩ := id F
  have hl : lv_has ls 7 [(0, .ref (a 0)), (1, .int (nI q)), (2, .int (nI o)), (3, .int (nI g)), (4, .int x), (5, .int x5)] := hl
  refine lv_aload_n hx hb dDB_advert_0 rfl (lv_at hl 0 rfl) ?_
  refine lv_iload_n hx hb dDB_advert_1 rfl (lv_at hl 1 rfl) ?_
  refine lv_iload_n hx hb dDB_advert_2 rfl (lv_at hl 2 rfl) ?_
  refine lv_iload_n hx hb dDB_advert_3 rfl (lv_at hl 3 rfl) ?_
  refine lv_iload hx hb dDB_advert_4 (lv_at hl 4 rfl) ?_
  exact t_passV (As := [.int (nI q), .int (nI o), .int (nI g), .int x]) (rest := []) ⟨hx, hb, hml, hown, hts⟩ (c_DB_requireLegal_T5 l hL dI dO dG dN dT aN aB nS nP nR nG nO nU nT tP tR tO tN tF tZ mP mN q o g x (by first | omega | assumption) (by first | omega | assumption) (by first | omega | assumption) (by first | omega | assumption) (by first | omega | assumption) (by first | omega | assumption) (by first | omega | assumption) (by first | omega | assumption)) (cwV 4 hts (gw_V k434 k436 k14 k27 k437) rfl rfl rfl (by decide +kernel) ⟨Nat.le_of_ble_eq_true rfl, Nat.le_of_ble_eq_true rfl⟩) hK hP hT (va_recv hK hP (ci := 4) (q0 := 0) rfl rfl) rfl hl.1 rfl (Nat.le_of_ble_eq_true rfl) dDB_advert_6 ⟨Nat.le_of_ble_eq_true rfl, Nat.le_of_ble_eq_true rfl⟩ hne hlocks
set_option maxHeartbeats 4000000 in
set_option maxRecDepth 100000 in
theorem c_DB_thanks_T1 (l : Launch) (hL : l.stackTraces = false) {D : va_G} {cI cL : ClassId} {a : Nat → Nat} (dI : Nat) (dO dG dN dT : Int32) (aN aB : Nat → Int32) (nS nP nR nG : Nat → Int32) (nO nU : Nat → Int64) (nT : Nat → Int32) (tP tR tO tN : Nat → Int32) (tF tZ : Nat) (mP : Nat → Int32) (mN : Int64) (x : Int32) (y : Int32) (z : Int32) (x4 : Int32) (hb0 : fDB_isPort x = false) : Tet l yDB_thanks wsDB_thanks ({ frames := 8, cells := 1, slots := 6, locals := 126 }) (va_Pc [.ref (a 0), .int x, .int y, .int z, .int x4] (tPre D (tyC cI cL) (wC cI cL a) ((dI, dO, dG, dN, dT), (aN, aB), (nS, nP, nR, nG, nO, nU, nT), (tP, tR, tO, tN, tF, tZ), (mP, mN)))) "java/lang/IllegalArgumentException" 1 6 := by
  refine t_enter (by decide) rfl (Nat.le_of_ble_eq_true rfl) ?_
  intro p e s m below meth c ls F hne hK hP hT hl
  obtain ⟨hx, hb, hr, hml, hown, hts, hlocks⟩ := id F
  have hl : lv_has ls 6 [(0, .ref (a 0)), (1, .int x), (2, .int y), (3, .int z), (4, .int x4)] := hl
  refine lv_aload_n hx hb dDB_thanks_0 rfl (lv_at hl 0 rfl) ?_
  refine lv_iload_n hx hb dDB_thanks_1 rfl (lv_at hl 1 rfl) ?_
  refine lv_iload_n hx hb dDB_thanks_2 rfl (lv_at hl 2 rfl) ?_
  refine lv_iload_n hx hb dDB_thanks_3 rfl (lv_at hl 3 rfl) ?_
  refine lv_iload hx hb dDB_thanks_4 (lv_at hl 4 rfl) ?_
  exact t_passV (As := [.int x, .int y, .int z, .int x4]) (rest := []) ⟨hx, hb, hml, hown, hts⟩ (c_DB_requireLegal_T1 l hL dI dO dG dN dT aN aB nS nP nR nG nO nU nT tP tR tO tN tF tZ mP mN x y z x4 (by first | omega | assumption)) (cwV 4 hts (gw_V k434 k436 k14 k27 k437) rfl rfl rfl (by decide +kernel) ⟨Nat.le_of_ble_eq_true rfl, Nat.le_of_ble_eq_true rfl⟩) hK hP hT (va_recv hK hP (ci := 4) (q0 := 0) rfl rfl) rfl hl.1 rfl (Nat.le_of_ble_eq_true rfl) dDB_thanks_6 ⟨Nat.le_of_ble_eq_true rfl, Nat.le_of_ble_eq_true rfl⟩ hne hlocks
set_option maxHeartbeats 4000000 in
set_option maxRecDepth 100000 in
theorem c_DB_thanks_T2 (l : Launch) (hL : l.stackTraces = false) {D : va_G} {cI cL : ClassId} {a : Nat → Nat} (dI : Nat) (dO dG dN dT : Int32) (aN aB : Nat → Int32) (nS nP nR nG : Nat → Int32) (nO nU : Nat → Int64) (nT : Nat → Int32) (tP tR tO tN : Nat → Int32) (tF tZ : Nat) (mP : Nat → Int32) (mN : Int64) (q : Nat) (y : Int32) (z : Int32) (x4 : Int32) (hq : q < 8) (hbad : fDB_isRouter y = true → ¬ y = nI dI → False) : Tet l yDB_thanks wsDB_thanks ({ frames := 8, cells := 1, slots := 6, locals := 127 }) (va_Pc [.ref (a 0), .int (nI q), .int y, .int z, .int x4] (tPre D (tyC cI cL) (wC cI cL a) ((dI, dO, dG, dN, dT), (aN, aB), (nS, nP, nR, nG, nO, nU, nT), (tP, tR, tO, tN, tF, tZ), (mP, mN)))) "java/lang/IllegalArgumentException" 1 6 := by
  refine t_enter (by decide) rfl (Nat.le_of_ble_eq_true rfl) ?_
  intro p e s m below meth c ls F hne hK hP hT hl
  obtain ⟨hx, hb, hr, hml, hown, hts, hlocks⟩ := id F
  have hl : lv_has ls 6 [(0, .ref (a 0)), (1, .int (nI q)), (2, .int y), (3, .int z), (4, .int x4)] := hl
  refine lv_aload_n hx hb dDB_thanks_0 rfl (lv_at hl 0 rfl) ?_
  refine lv_iload_n hx hb dDB_thanks_1 rfl (lv_at hl 1 rfl) ?_
  refine lv_iload_n hx hb dDB_thanks_2 rfl (lv_at hl 2 rfl) ?_
  refine lv_iload_n hx hb dDB_thanks_3 rfl (lv_at hl 3 rfl) ?_
  refine lv_iload hx hb dDB_thanks_4 (lv_at hl 4 rfl) ?_
  exact t_passV (As := [.int (nI q), .int y, .int z, .int x4]) (rest := []) ⟨hx, hb, hml, hown, hts⟩ (c_DB_requireLegal_T2 l hL dI dO dG dN dT aN aB nS nP nR nG nO nU nT tP tR tO tN tF tZ mP mN q y z x4 (by first | omega | assumption) (by first | omega | assumption)) (cwV 4 hts (gw_V k434 k436 k14 k27 k437) rfl rfl rfl (by decide +kernel) ⟨Nat.le_of_ble_eq_true rfl, Nat.le_of_ble_eq_true rfl⟩) hK hP hT (va_recv hK hP (ci := 4) (q0 := 0) rfl rfl) rfl hl.1 rfl (Nat.le_of_ble_eq_true rfl) dDB_thanks_6 ⟨Nat.le_of_ble_eq_true rfl, Nat.le_of_ble_eq_true rfl⟩ hne hlocks
set_option maxHeartbeats 4000000 in
set_option maxRecDepth 100000 in
theorem c_DB_thanks_T3 (l : Launch) (hL : l.stackTraces = false) {D : va_G} {cI cL : ClassId} {a : Nat → Nat} (dI : Nat) (dO dG dN dT : Int32) (aN aB : Nat → Int32) (nS nP nR nG : Nat → Int32) (nO nU : Nat → Int64) (nT : Nat → Int32) (tP tR tO tN : Nat → Int32) (tF tZ : Nat) (mP : Nat → Int32) (mN : Int64) (q : Nat) (o : Nat) (x : Int32) (x4 : Int32) (hq : q < 8) (ho : o < 64) (hne0 : ¬ o = dI) (hI : dI < 64) (hb0 : fDB_isRouter x = false) : Tet l yDB_thanks wsDB_thanks ({ frames := 8, cells := 1, slots := 6, locals := 126 }) (va_Pc [.ref (a 0), .int (nI q), .int (nI o), .int x, .int x4] (tPre D (tyC cI cL) (wC cI cL a) ((dI, dO, dG, dN, dT), (aN, aB), (nS, nP, nR, nG, nO, nU, nT), (tP, tR, tO, tN, tF, tZ), (mP, mN)))) "java/lang/IllegalArgumentException" 1 6 := by
  refine t_enter (by decide) rfl (Nat.le_of_ble_eq_true rfl) ?_
  intro p e s m below meth c ls F hne hK hP hT hl
  obtain ⟨hx, hb, hr, hml, hown, hts, hlocks⟩ := id F
  have hl : lv_has ls 6 [(0, .ref (a 0)), (1, .int (nI q)), (2, .int (nI o)), (3, .int x), (4, .int x4)] := hl
  refine lv_aload_n hx hb dDB_thanks_0 rfl (lv_at hl 0 rfl) ?_
  refine lv_iload_n hx hb dDB_thanks_1 rfl (lv_at hl 1 rfl) ?_
  refine lv_iload_n hx hb dDB_thanks_2 rfl (lv_at hl 2 rfl) ?_
  refine lv_iload_n hx hb dDB_thanks_3 rfl (lv_at hl 3 rfl) ?_
  refine lv_iload hx hb dDB_thanks_4 (lv_at hl 4 rfl) ?_
  exact t_passV (As := [.int (nI q), .int (nI o), .int x, .int x4]) (rest := []) ⟨hx, hb, hml, hown, hts⟩ (c_DB_requireLegal_T3 l hL dI dO dG dN dT aN aB nS nP nR nG nO nU nT tP tR tO tN tF tZ mP mN q o x x4 (by first | omega | assumption) (by first | omega | assumption) (by first | omega | assumption) (by first | omega | assumption) (by first | omega | assumption)) (cwV 4 hts (gw_V k434 k436 k14 k27 k437) rfl rfl rfl (by decide +kernel) ⟨Nat.le_of_ble_eq_true rfl, Nat.le_of_ble_eq_true rfl⟩) hK hP hT (va_recv hK hP (ci := 4) (q0 := 0) rfl rfl) rfl hl.1 rfl (Nat.le_of_ble_eq_true rfl) dDB_thanks_6 ⟨Nat.le_of_ble_eq_true rfl, Nat.le_of_ble_eq_true rfl⟩ hne hlocks
set_option maxHeartbeats 4000000 in
set_option maxRecDepth 100000 in
theorem c_DB_thanks_T4 (l : Launch) (hL : l.stackTraces = false) {D : va_G} {cI cL : ClassId} {a : Nat → Nat} (dI : Nat) (dO dG dN dT : Int32) (aN aB : Nat → Int32) (nS nP nR nG : Nat → Int32) (nO nU : Nat → Int64) (nT : Nat → Int32) (tP tR tO tN : Nat → Int32) (tF tZ : Nat) (mP : Nat → Int32) (mN : Int64) (q : Nat) (o : Nat) (g : Nat) (x : Int32) (hq : q < 8) (ho : o < 64) (hne0 : ¬ o = dI) (hI : dI < 64) (hg : g < 64) (hb0 : fDB_isNum x = false) : Tet l yDB_thanks wsDB_thanks ({ frames := 8, cells := 1, slots := 6, locals := 126 }) (va_Pc [.ref (a 0), .int (nI q), .int (nI o), .int (nI g), .int x] (tPre D (tyC cI cL) (wC cI cL a) ((dI, dO, dG, dN, dT), (aN, aB), (nS, nP, nR, nG, nO, nU, nT), (tP, tR, tO, tN, tF, tZ), (mP, mN)))) "java/lang/IllegalArgumentException" 1 6 := by
  refine t_enter (by decide) rfl (Nat.le_of_ble_eq_true rfl) ?_
  intro p e s m below meth c ls F hne hK hP hT hl
  obtain ⟨hx, hb, hr, hml, hown, hts, hlocks⟩ := id F
  have hl : lv_has ls 6 [(0, .ref (a 0)), (1, .int (nI q)), (2, .int (nI o)), (3, .int (nI g)), (4, .int x)] := hl
  refine lv_aload_n hx hb dDB_thanks_0 rfl (lv_at hl 0 rfl) ?_
  refine lv_iload_n hx hb dDB_thanks_1 rfl (lv_at hl 1 rfl) ?_
  refine lv_iload_n hx hb dDB_thanks_2 rfl (lv_at hl 2 rfl) ?_
  refine lv_iload_n hx hb dDB_thanks_3 rfl (lv_at hl 3 rfl) ?_
  refine lv_iload hx hb dDB_thanks_4 (lv_at hl 4 rfl) ?_
  exact t_passV (As := [.int (nI q), .int (nI o), .int (nI g), .int x]) (rest := []) ⟨hx, hb, hml, hown, hts⟩ (c_DB_requireLegal_T4 l hL dI dO dG dN dT aN aB nS nP nR nG nO nU nT tP tR tO tN tF tZ mP mN q o g x (by first | omega | assumption) (by first | omega | assumption) (by first | omega | assumption) (by first | omega | assumption) (by first | omega | assumption) (by first | omega | assumption)) (cwV 4 hts (gw_V k434 k436 k14 k27 k437) rfl rfl rfl (by decide +kernel) ⟨Nat.le_of_ble_eq_true rfl, Nat.le_of_ble_eq_true rfl⟩) hK hP hT (va_recv hK hP (ci := 4) (q0 := 0) rfl rfl) rfl hl.1 rfl (Nat.le_of_ble_eq_true rfl) dDB_thanks_6 ⟨Nat.le_of_ble_eq_true rfl, Nat.le_of_ble_eq_true rfl⟩ hne hlocks
set_option maxHeartbeats 4000000 in
set_option maxRecDepth 100000 in
theorem c_DB_thanks_T5 (l : Launch) (hL : l.stackTraces = false) {D : va_G} {cI cL : ClassId} {a : Nat → Nat} (dI : Nat) (dO dG dN dT : Int32) (aN aB : Nat → Int32) (nS nP nR nG : Nat → Int32) (nO nU : Nat → Int64) (nT : Nat → Int32) (tP tR tO tN : Nat → Int32) (tF tZ : Nat) (mP : Nat → Int32) (mN : Int64) (q : Nat) (o : Nat) (g : Nat) (x : Int32) (hq : q < 8) (ho : o < 64) (hne0 : ¬ o = dI) (hI : dI < 64) (hg : g < 64) (h1 : ¬ x < 1) (h2 : x ≤ 1000000000) (hoff : fDB_isOn dO q = false) : Tet l yDB_thanks wsDB_thanks ({ frames := 8, cells := 1, slots := 6, locals := 127 }) (va_Pc [.ref (a 0), .int (nI q), .int (nI o), .int (nI g), .int x] (tPre D (tyC cI cL) (wC cI cL a) ((dI, dO, dG, dN, dT), (aN, aB), (nS, nP, nR, nG, nO, nU, nT), (tP, tR, tO, tN, tF, tZ), (mP, mN)))) "java/lang/IllegalStateException" 1 6 := by
  refine t_enter (by decide) rfl (Nat.le_of_ble_eq_true rfl) ?_
  intro p e s m below meth c ls F hne hK hP hT hl
  obtain ⟨hx, hb, hr, hml, hown, hts, hlocks⟩ := id F
  have hl : lv_has ls 6 [(0, .ref (a 0)), (1, .int (nI q)), (2, .int (nI o)), (3, .int (nI g)), (4, .int x)] := hl
  refine lv_aload_n hx hb dDB_thanks_0 rfl (lv_at hl 0 rfl) ?_
  refine lv_iload_n hx hb dDB_thanks_1 rfl (lv_at hl 1 rfl) ?_
  refine lv_iload_n hx hb dDB_thanks_2 rfl (lv_at hl 2 rfl) ?_
  refine lv_iload_n hx hb dDB_thanks_3 rfl (lv_at hl 3 rfl) ?_
  refine lv_iload hx hb dDB_thanks_4 (lv_at hl 4 rfl) ?_
  exact t_passV (As := [.int (nI q), .int (nI o), .int (nI g), .int x]) (rest := []) ⟨hx, hb, hml, hown, hts⟩ (c_DB_requireLegal_T5 l hL dI dO dG dN dT aN aB nS nP nR nG nO nU nT tP tR tO tN tF tZ mP mN q o g x (by first | omega | assumption) (by first | omega | assumption) (by first | omega | assumption) (by first | omega | assumption) (by first | omega | assumption) (by first | omega | assumption) (by first | omega | assumption) (by first | omega | assumption)) (cwV 4 hts (gw_V k434 k436 k14 k27 k437) rfl rfl rfl (by decide +kernel) ⟨Nat.le_of_ble_eq_true rfl, Nat.le_of_ble_eq_true rfl⟩) hK hP hT (va_recv hK hP (ci := 4) (q0 := 0) rfl rfl) rfl hl.1 rfl (Nat.le_of_ble_eq_true rfl) dDB_thanks_6 ⟨Nat.le_of_ble_eq_true rfl, Nat.le_of_ble_eq_true rfl⟩ hne hlocks
set_option maxHeartbeats 4000000 in
set_option maxRecDepth 100000 in
theorem c_DB_forget_T (l : Launch) (hL : l.stackTraces = false) {D : va_G} {cI cL : ClassId} {a : Nat → Nat} (dI : Nat) (dO dG dN dT : Int32) (aN aB : Nat → Int32) (nS nP nR nG : Nat → Int32) (nO nU : Nat → Int64) (nT : Nat → Int32) (tP tR tO tN : Nat → Int32) (tF tZ : Nat) (mP : Nat → Int32) (mN : Int64) (x : Int32) (hb0 : fDB_isRouter x = false) : Tet l yDB_forget wsDB_forget ({ frames := 7, cells := 1, slots := 6, locals := 102 }) (va_Pc [.ref (a 0), .int x] (tPre D (tyC cI cL) (wC cI cL a) ((dI, dO, dG, dN, dT), (aN, aB), (nS, nP, nR, nG, nO, nU, nT), (tP, tR, tO, tN, tF, tZ), (mP, mN)))) "java/lang/IllegalArgumentException" 1 6 := by
  refine t_enter (by decide) rfl (Nat.le_of_ble_eq_true rfl) ?_
  intro p e s m below meth c ls F hne hK hP hT hl
  obtain ⟨hx, hb, hr, hml, hown, hts, hlocks⟩ := id F
  have hl : lv_has ls 2 [(0, .ref (a 0)), (1, .int x)] := hl
  refine lv_iload_n hx hb dDB_forget_0 rfl (lv_at hl 1 rfl) ?_
  exact t_passS (As := [.int x]) (rest := []) ⟨hx, hb, hml, hown, hts⟩ (c_DB_requireRouter_T l hL dI dO dG dN dT aN aB nS nP nR nG nO nU nT tP tR tO tN tF tZ mP mN x (by first | omega | assumption)) (cw_S 1 hts k438 k439 k27 k440 rfl rfl rfl (by decide +kernel) ⟨Nat.le_of_ble_eq_true rfl, Nat.le_of_ble_eq_true rfl⟩) hK hP hT rfl hl.1 rfl (Nat.le_of_ble_eq_true rfl) dDB_forget_1 ⟨Nat.le_of_ble_eq_true rfl, Nat.le_of_ble_eq_true rfl⟩ hne hlocks
set_option maxHeartbeats 4000000 in
set_option maxRecDepth 100000 in
theorem c_DB_known_T (l : Launch) (hL : l.stackTraces = false) {D : va_G} {cI cL : ClassId} {a : Nat → Nat} (dI : Nat) (dO dG dN dT : Int32) (aN aB : Nat → Int32) (nS nP nR nG : Nat → Int32) (nO nU : Nat → Int64) (nT : Nat → Int32) (tP tR tO tN : Nat → Int32) (tF tZ : Nat) (mP : Nat → Int32) (mN : Int64) (x : Int32) (hb0 : fDB_isRouter x = false) : Tet l yDB_known wsDB_known ({ frames := 7, cells := 1, slots := 6, locals := 102 }) (va_Pc [.ref (a 0), .int x] (tPre D (tyC cI cL) (wC cI cL a) ((dI, dO, dG, dN, dT), (aN, aB), (nS, nP, nR, nG, nO, nU, nT), (tP, tR, tO, tN, tF, tZ), (mP, mN)))) "java/lang/IllegalArgumentException" 1 6 := by
  refine t_enter (by decide) rfl (Nat.le_of_ble_eq_true rfl) ?_
  intro p e s m below meth c ls F hne hK hP hT hl
  obtain ⟨hx, hb, hr, hml, hown, hts, hlocks⟩ := id F
  have hl : lv_has ls 2 [(0, .ref (a 0)), (1, .int x)] := hl
  refine lv_iload_n hx hb dDB_known_0 rfl (lv_at hl 1 rfl) ?_
  exact t_passS (As := [.int x]) (rest := []) ⟨hx, hb, hml, hown, hts⟩ (c_DB_requireRouter_T l hL dI dO dG dN dT aN aB nS nP nR nG nO nU nT tP tR tO tN tF tZ mP mN x (by first | omega | assumption)) (cw_S 1 hts k438 k439 k27 k440 rfl rfl rfl (by decide +kernel) ⟨Nat.le_of_ble_eq_true rfl, Nat.le_of_ble_eq_true rfl⟩) hK hP hT rfl hl.1 rfl (Nat.le_of_ble_eq_true rfl) dDB_known_1 ⟨Nat.le_of_ble_eq_true rfl, Nat.le_of_ble_eq_true rfl⟩ hne hlocks
set_option maxHeartbeats 4000000 in
set_option maxRecDepth 100000 in
theorem c_DB_body_T (l : Launch) (hL : l.stackTraces = false) {D : va_G} {cI cL : ClassId} {a : Nat → Nat} (dI : Nat) (dO dG dN dT : Int32) (aN aB : Nat → Int32) (nS nP nR nG : Nat → Int32) (nO nU : Nat → Int64) (nT : Nat → Int32) (tP tR tO tN : Nat → Int32) (tF tZ : Nat) (mP : Nat → Int32) (mN : Int64) (x : Int32) (hb0 : fDB_isRouter x = false) : Tet l yDB_body wsDB_body ({ frames := 7, cells := 1, slots := 6, locals := 102 }) (va_Pc [.ref (a 0), .int x] (tPre D (tyC cI cL) (wC cI cL a) ((dI, dO, dG, dN, dT), (aN, aB), (nS, nP, nR, nG, nO, nU, nT), (tP, tR, tO, tN, tF, tZ), (mP, mN)))) "java/lang/IllegalArgumentException" 1 6 := by
  refine t_enter (by decide) rfl (Nat.le_of_ble_eq_true rfl) ?_
  intro p e s m below meth c ls F hne hK hP hT hl
  obtain ⟨hx, hb, hr, hml, hown, hts, hlocks⟩ := id F
  have hl : lv_has ls 2 [(0, .ref (a 0)), (1, .int x)] := hl
  refine lv_iload_n hx hb dDB_body_0 rfl (lv_at hl 1 rfl) ?_
  exact t_passS (As := [.int x]) (rest := []) ⟨hx, hb, hml, hown, hts⟩ (c_DB_requireRouter_T l hL dI dO dG dN dT aN aB nS nP nR nG nO nU nT tP tR tO tN tF tZ mP mN x (by first | omega | assumption)) (cw_S 1 hts k438 k439 k27 k440 rfl rfl rfl (by decide +kernel) ⟨Nat.le_of_ble_eq_true rfl, Nat.le_of_ble_eq_true rfl⟩) hK hP hT rfl hl.1 rfl (Nat.le_of_ble_eq_true rfl) dDB_body_1 ⟨Nat.le_of_ble_eq_true rfl, Nat.le_of_ble_eq_true rfl⟩ hne hlocks
set_option maxHeartbeats 4000000 in
set_option maxRecDepth 100000 in
theorem c_DB_run_T1 (l : Launch) (hL : l.stackTraces = false) {D : va_G} {cI cL : ClassId} {a : Nat → Nat} (dI : Nat) (dO dG dN dT : Int32) (aN aB : Nat → Int32) (nS nP nR nG : Nat → Int32) (nO nU : Nat → Int64) (nT : Nat → Int32) (tP tR tO tN : Nat → Int32) (tF tZ : Nat) (mP : Nat → Int32) (mN : Int64) (x : Int32) (hb0 : fDB_isTick x = false) : Tet l yDB_run wsDB_run ({ frames := 6, cells := 1, slots := 6, locals := 82 }) (va_Pc [.ref (a 0), .int x] (tPre D (tyC cI cL) (wC cI cL a) ((dI, dO, dG, dN, dT), (aN, aB), (nS, nP, nR, nG, nO, nU, nT), (tP, tR, tO, tN, tF, tZ), (mP, mN)))) "java/lang/IllegalArgumentException" 1 6 := by
  refine t_enter (by decide) rfl (Nat.le_of_ble_eq_true rfl) ?_
  intro p e s m below meth c ls F hne hK hP hT hl
  obtain ⟨hx, hb, hr, hml, hown, hts, hlocks⟩ := id F
  have hl : lv_has ls 3 [(0, .ref (a 0)), (1, .int x)] := hl
  refine lv_iload_n hx hb dDB_run_0 rfl (lv_at hl 1 rfl) ?_
  refine lv_iconst (v := 1) hx hb dDB_run_1 (by decide) ?_
  refine lv_icmp_lt (tgt := 12) hx hb dDB_run_2 (by decide) (fun c1 => ?_) (fun c1 => ?_)
  · exact t_throw (text := "not 1 .. 2000 ticks") exIA (by decide +kernel) hx hb hL hown hts hT k288 k36 sw503 hne hl.1 hml dDB_run_12 dDB_run_15 dDB_run_16 dDB_run_18 dDB_run_21 (Nat.le_of_ble_eq_true rfl) (Nat.le_of_ble_eq_true rfl) (Nat.le_of_ble_eq_true rfl) (Nat.le_of_ble_eq_true rfl) hlocks
  · refine lv_iload_n hx hb dDB_run_5 rfl (lv_at hl 1 rfl) ?_
    refine lv_sipush (v := 2000) hx hb dDB_run_6 (by decide) ?_
    refine lv_icmp_le (tgt := 22) hx hb dDB_run_9 (by decide) (fun c2 => absurd (show fDB_isTick x = true by simp only [fDB_isTick, if_neg c1, if_pos c2]) (by rw [hb0]; decide)) (fun c2 => ?_)
    exact t_throw (text := "not 1 .. 2000 ticks") exIA (by decide +kernel) hx hb hL hown hts hT k288 k36 sw503 hne hl.1 hml dDB_run_12 dDB_run_15 dDB_run_16 dDB_run_18 dDB_run_21 (Nat.le_of_ble_eq_true rfl) (Nat.le_of_ble_eq_true rfl) (Nat.le_of_ble_eq_true rfl) (Nat.le_of_ble_eq_true rfl) hlocks
set_option maxHeartbeats 4000000 in
set_option maxRecDepth 100000 in
theorem c_DB_run_T2 (l : Launch) (hL : l.stackTraces = false) {D : va_G} {cI cL : ClassId} {a : Nat → Nat} (dI : Nat) (dO dG dN dT : Int32) (aN aB : Nat → Int32) (nS nP nR nG : Nat → Int32) (nO nU : Nat → Int64) (nT : Nat → Int32) (tP tR tO tN : Nat → Int32) (tF tZ : Nat) (mP : Nat → Int32) (mN : Int64) (x : Int32) (h1 : ¬ x < 1) (h2 : x ≤ 2000) (h3 : ¬ x ≤ 1000000 - dT) : Tet l yDB_run wsDB_run ({ frames := 6, cells := 1, slots := 6, locals := 82 }) (va_Pc [.ref (a 0), .int x] (tPre D (tyC cI cL) (wC cI cL a) ((dI, dO, dG, dN, dT), (aN, aB), (nS, nP, nR, nG, nO, nU, nT), (tP, tR, tO, tN, tF, tZ), (mP, mN)))) "java/lang/IllegalStateException" 1 6 := by
  refine t_enter (by decide) rfl (Nat.le_of_ble_eq_true rfl) ?_
  intro p e s m below meth c ls F hne hK hP hT hl
  obtain ⟨hx, hb, hr, hml, hown, hts, hlocks⟩ := id F
  have hl : lv_has ls 3 [(0, .ref (a 0)), (1, .int x)] := hl
  refine lv_iload_n hx hb dDB_run_0 rfl (lv_at hl 1 rfl) ?_
  refine lv_iconst (v := 1) hx hb dDB_run_1 (by decide) ?_
  refine lv_icmp_lt (tgt := 12) hx hb dDB_run_2 (by decide) (fun c1 => absurd c1 h1) (fun c1 => ?_)
  refine lv_iload_n hx hb dDB_run_5 rfl (lv_at hl 1 rfl) ?_
  refine lv_sipush (v := 2000) hx hb dDB_run_6 (by decide) ?_
  refine lv_icmp_le (tgt := 22) hx hb dDB_run_9 (by decide) (fun c2 => ?_) (fun c2 => absurd h2 c2)
  refine lv_iload_n hx hb dDB_run_22 rfl (lv_at hl 1 rfl) ?_
  refine lv_ldc (v := 1000000) hx hb hown (hts _ k504) dDB_run_23 ?_
  refine lv_aload_n hx hb dDB_run_25 rfl (lv_at hl 0 rfl) ?_
  refine va_get (D := D) (ci := 4) (v := .int dT) (C := RDB) (T := TDB) (N := 9) hx hb hts inDB hown hK hP 0 rfl rfl 8 (by decide) (hts _ k136) (fun _ h9 => h9) rfl dDB_run_26 ?_
  refine lv_isub hx hb dDB_run_29 ?_
  refine lv_icmp_le (tgt := 43) hx hb dDB_run_30 (by decide) (fun c3 => absurd c3 h3) (fun c3 => ?_)
  exact t_throw (text := "the time would be more than 1000000") exIS (by decide +kernel) hx hb hL hown hts hT k391 k37 sw505 hne hl.1 hml dDB_run_33 dDB_run_36 dDB_run_37 dDB_run_39 dDB_run_42 (Nat.le_of_ble_eq_true rfl) (Nat.le_of_ble_eq_true rfl) (Nat.le_of_ble_eq_true rfl) (Nat.le_of_ble_eq_true rfl) hlocks
set_option maxHeartbeats 4000000 in
set_option maxRecDepth 100000 in
theorem c_DB_message_T1 (l : Launch) (hL : l.stackTraces = false) {D : va_G} {cI cL : ClassId} {a : Nat → Nat} (dI : Nat) (dO dG dN dT : Int32) (aN aB : Nat → Int32) (nS nP nR nG : Nat → Int32) (nO nU : Nat → Int64) (nT : Nat → Int32) (tP tR tO tN : Nat → Int32) (tF tZ : Nat) (mP : Nat → Int32) (mN : Int64) (x : Int32) (hb0 : fDB_isPart x = false) : Tet l yDB_message wsDB_message ({ frames := 6, cells := 1, slots := 6, locals := 82 }) (va_Pc [.ref (a 0), .int x] (tPre D (tyC cI cL) (wC cI cL a) ((dI, dO, dG, dN, dT), (aN, aB), (nS, nP, nR, nG, nO, nU, nT), (tP, tR, tO, tN, tF, tZ), (mP, mN)))) "java/lang/IllegalArgumentException" 1 6 := by
  refine t_enter (by decide) rfl (Nat.le_of_ble_eq_true rfl) ?_
  intro p e s m below meth c ls F hne hK hP hT hl
  obtain ⟨hx, hb, hr, hml, hown, hts, hlocks⟩ := id F
  have hl : lv_has ls 2 [(0, .ref (a 0)), (1, .int x)] := hl
  refine lv_iload_n hx hb dDB_message_0 rfl (lv_at hl 1 rfl) ?_
  refine lv_if_lt (tgt := 10) hx hb dDB_message_1 (by decide) (fun c1 => ?_) (fun c1 => ?_)
  · exact t_throw (text := "a message has no such part") exIA (by decide +kernel) hx hb hL hown hts hT k288 k36 sw517 hne hl.1 hml dDB_message_10 dDB_message_13 dDB_message_14 dDB_message_16 dDB_message_19 (Nat.le_of_ble_eq_true rfl) (Nat.le_of_ble_eq_true rfl) (Nat.le_of_ble_eq_true rfl) (Nat.le_of_ble_eq_true rfl) hlocks
  · refine lv_iload_n hx hb dDB_message_4 rfl (lv_at hl 1 rfl) ?_
    refine lv_bipush (v := 6) hx hb dDB_message_5 (by decide) ?_
    refine lv_icmp_lt (tgt := 20) hx hb dDB_message_7 (by decide) (fun c2 => absurd (show fDB_isPart x = true by simp only [fDB_isPart, if_neg c1, if_pos c2]) (by rw [hb0]; decide)) (fun c2 => ?_)
    exact t_throw (text := "a message has no such part") exIA (by decide +kernel) hx hb hL hown hts hT k288 k36 sw517 hne hl.1 hml dDB_message_10 dDB_message_13 dDB_message_14 dDB_message_16 dDB_message_19 (Nat.le_of_ble_eq_true rfl) (Nat.le_of_ble_eq_true rfl) (Nat.le_of_ble_eq_true rfl) (Nat.le_of_ble_eq_true rfl) hlocks
set_option maxHeartbeats 4000000 in
set_option maxRecDepth 100000 in
theorem c_DB_message_T2 (l : Launch) (hL : l.stackTraces = false) {D : va_G} {cI cL : ClassId} {a : Nat → Nat} (dI : Nat) (dO dG dN dT : Int32) (aN aB : Nat → Int32) (nS nP nR nG : Nat → Int32) (nO nU : Nat → Int64) (nT : Nat → Int32) (tP tR tO tN : Nat → Int32) (tF tZ : Nat) (mP : Nat → Int32) (mN : Int64) (i : Nat) (hi : i < 6) (hm : fMS_isMade mP = false) : Tet l yDB_message wsDB_message ({ frames := 6, cells := 1, slots := 6, locals := 82 }) (va_Pc [.ref (a 0), .int (nI i)] (tPre D (tyC cI cL) (wC cI cL a) ((dI, dO, dG, dN, dT), (aN, aB), (nS, nP, nR, nG, nO, nU, nT), (tP, tR, tO, tN, tF, tZ), (mP, mN)))) "java/lang/IllegalStateException" 1 6 := by
  refine t_enter (by decide) rfl (Nat.le_of_ble_eq_true rfl) ?_
  intro p e s m below meth c ls F hne hK hP hT hl
  obtain ⟨hx, hb, hr, hml, hown, hts, hlocks⟩ := id F
  have hl : lv_has ls 2 [(0, .ref (a 0)), (1, .int (nI i))] := hl
  refine lv_iload_n hx hb dDB_message_0 rfl (lv_at hl 1 rfl) ?_
  refine lv_if_lt (tgt := 10) hx hb dDB_message_1 (by decide) (fun c1 => absurd c1 (nI_pos (by omega))) (fun c1 => ?_)
  refine lv_iload_n hx hb dDB_message_4 rfl (lv_at hl 1 rfl) ?_
  refine lv_bipush (v := nI 6) hx hb dDB_message_5 (by decide) ?_
  refine lv_icmp_lt (tgt := 20) hx hb dDB_message_7 (by decide) (fun c2 => ?_) (fun c2 => absurd ((nI_ltI (a := i) (b := 6) (by omega) (by omega)).mpr (by omega)) c2)
  refine lv_aload_n hx hb dDB_message_20 rfl (lv_at hl 0 rfl) ?_
  refine va_get (D := D) (ci := 4) (v := .ref (a 17)) (C := RDB) (T := TDB) (N := 9) hx hb hts inDB hown hK hP 0 rfl rfl 4 (by decide) (hts _ k132) (fun _ h9 => h9) rfl dDB_message_21 ?_
  refine g_roVi (As := []) (rest := []) ⟨hx, hb, hml, hown, hts⟩ (c_MS_isMade l dI dO dG dN dT aN aB nS nP nR nG nO nU nT tP tR tO tN tF tZ mP mN) (cwV 0 hts (gw_V k518 k519 k520 k31 k521) rfl rfl rfl (by decide +kernel) ⟨Nat.le_of_ble_eq_true rfl, Nat.le_of_ble_eq_true rfl⟩) hK hP (va_recv hK hP (ci := 1) (q0 := 17) rfl rfl) rfl hl.1 rfl (Nat.le_of_ble_eq_true rfl) dDB_message_24 ⟨Nat.zero_le _, Nat.zero_le _⟩ ?_
  refine lv_if_neb (tgt := 40) hx hb dDB_message_27 (by decide) (fun c3 => absurd (c3.symm.trans hm) (by decide)) (fun c3 => ?_)
  exact t_throw (text := "no message was made") exIS (by decide +kernel) hx hb hL hown hts hT k391 k37 sw522 hne hl.1 hml dDB_message_30 dDB_message_33 dDB_message_34 dDB_message_36 dDB_message_39 (Nat.le_of_ble_eq_true rfl) (Nat.le_of_ble_eq_true rfl) (Nat.le_of_ble_eq_true rfl) (Nat.le_of_ble_eq_true rfl) hlocks
set_option maxHeartbeats 4000000 in
set_option maxRecDepth 100000 in
theorem c_DB_state_T1 (l : Launch) (hL : l.stackTraces = false) {D : va_G} {cI cL : ClassId} {a : Nat → Nat} (dI : Nat) (dO dG dN dT : Int32) (aN aB : Nat → Int32) (nS nP nR nG : Nat → Int32) (nO nU : Nat → Int64) (nT : Nat → Int32) (tP tR tO tN : Nat → Int32) (tF tZ : Nat) (mP : Nat → Int32) (mN : Int64) (x : Int32) (y : Int32) (hb0 : fDB_isPort x = false) : Tet l yDB_state wsDB_state ({ frames := 7, cells := 1, slots := 6, locals := 102 }) (va_Pc [.ref (a 0), .int x, .int y] (tPre D (tyC cI cL) (wC cI cL a) ((dI, dO, dG, dN, dT), (aN, aB), (nS, nP, nR, nG, nO, nU, nT), (tP, tR, tO, tN, tF, tZ), (mP, mN)))) "java/lang/IllegalArgumentException" 1 6 := by
  refine t_enter (by decide) rfl (Nat.le_of_ble_eq_true rfl) ?_
  intro p e s m below meth c ls F hne hK hP hT hl
  obtain ⟨hx, hb, hr, hml, hown, hts, hlocks⟩ := id F
  have hl : lv_has ls 3 [(0, .ref (a 0)), (1, .int x), (2, .int y)] := hl
  refine lv_iload_n hx hb dDB_state_0 rfl (lv_at hl 1 rfl) ?_
  exact t_passS (As := [.int x]) (rest := []) ⟨hx, hb, hml, hown, hts⟩ (c_DB_requirePort_T l hL dI dO dG dN dT aN aB nS nP nR nG nO nU nT tP tR tO tN tF tZ mP mN x (by first | omega | assumption)) (cw_S 1 hts k285 k286 k27 k287 rfl rfl rfl (by decide +kernel) ⟨Nat.le_of_ble_eq_true rfl, Nat.le_of_ble_eq_true rfl⟩) hK hP hT rfl hl.1 rfl (Nat.le_of_ble_eq_true rfl) dDB_state_1 ⟨Nat.le_of_ble_eq_true rfl, Nat.le_of_ble_eq_true rfl⟩ hne hlocks
set_option maxHeartbeats 4000000 in
set_option maxRecDepth 100000 in
theorem c_DB_state_T2 (l : Launch) (hL : l.stackTraces = false) {D : va_G} {cI cL : ClassId} {a : Nat → Nat} (dI : Nat) (dO dG dN dT : Int32) (aN aB : Nat → Int32) (nS nP nR nG : Nat → Int32) (nO nU : Nat → Int64) (nT : Nat → Int32) (tP tR tO tN : Nat → Int32) (tF tZ : Nat) (mP : Nat → Int32) (mN : Int64) (q : Nat) (x : Int32) (hq : q < 8) (hb0 : fDB_isRouter x = false) : Tet l yDB_state wsDB_state ({ frames := 7, cells := 1, slots := 6, locals := 102 }) (va_Pc [.ref (a 0), .int (nI q), .int x] (tPre D (tyC cI cL) (wC cI cL a) ((dI, dO, dG, dN, dT), (aN, aB), (nS, nP, nR, nG, nO, nU, nT), (tP, tR, tO, tN, tF, tZ), (mP, mN)))) "java/lang/IllegalArgumentException" 1 6 := by
  refine t_enter (by decide) rfl (Nat.le_of_ble_eq_true rfl) ?_
  intro p e s m below meth c ls F hne hK hP hT hl
  obtain ⟨hx, hb, hr, hml, hown, hts, hlocks⟩ := id F
  have hl : lv_has ls 3 [(0, .ref (a 0)), (1, .int (nI q)), (2, .int x)] := hl
  refine lv_iload_n hx hb dDB_state_0 rfl (lv_at hl 1 rfl) ?_
  refine g_roSv (As := [.int (nI q)]) (rest := []) ⟨hx, hb, hml, hown, hts⟩ (c_DB_requirePort l dI dO dG dN dT aN aB nS nP nR nG nO nU nT tP tR tO tN tF tZ mP mN q (by first | omega | assumption)) (cw_S 1 hts k285 k286 k27 k287 rfl rfl rfl (by decide +kernel) ⟨Nat.le_of_ble_eq_true rfl, Nat.le_of_ble_eq_true rfl⟩) hK hP rfl hl.1 rfl (Nat.le_of_ble_eq_true rfl) dDB_state_1 ⟨Nat.zero_le _, Nat.zero_le _⟩ ?_
  refine lv_iload_n hx hb dDB_state_4 rfl (lv_at hl 2 rfl) ?_
  exact t_passS (As := [.int x]) (rest := []) ⟨hx, hb, hml, hown, hts⟩ (c_DB_requireRouter_T l hL dI dO dG dN dT aN aB nS nP nR nG nO nU nT tP tR tO tN tF tZ mP mN x (by first | omega | assumption)) (cw_S 1 hts k438 k439 k27 k440 rfl rfl rfl (by decide +kernel) ⟨Nat.le_of_ble_eq_true rfl, Nat.le_of_ble_eq_true rfl⟩) hK hP hT rfl hl.1 rfl (Nat.le_of_ble_eq_true rfl) dDB_state_5 ⟨Nat.le_of_ble_eq_true rfl, Nat.le_of_ble_eq_true rfl⟩ hne hlocks
set_option maxHeartbeats 4000000 in
set_option maxRecDepth 100000 in
theorem c_DB_due_T1 (l : Launch) (hL : l.stackTraces = false) {D : va_G} {cI cL : ClassId} {a : Nat → Nat} (dI : Nat) (dO dG dN dT : Int32) (aN aB : Nat → Int32) (nS nP nR nG : Nat → Int32) (nO nU : Nat → Int64) (nT : Nat → Int32) (tP tR tO tN : Nat → Int32) (tF tZ : Nat) (mP : Nat → Int32) (mN : Int64) (x : Int32) (y : Int32) (hb0 : fDB_isPort x = false) : Tet l yDB_due wsDB_due ({ frames := 7, cells := 1, slots := 6, locals := 102 }) (va_Pc [.ref (a 0), .int x, .int y] (tPre D (tyC cI cL) (wC cI cL a) ((dI, dO, dG, dN, dT), (aN, aB), (nS, nP, nR, nG, nO, nU, nT), (tP, tR, tO, tN, tF, tZ), (mP, mN)))) "java/lang/IllegalArgumentException" 1 6 := by
  refine t_enter (by decide) rfl (Nat.le_of_ble_eq_true rfl) ?_
  intro p e s m below meth c ls F hne hK hP hT hl
  obtain ⟨hx, hb, hr, hml, hown, hts, hlocks⟩ := id F
  have hl : lv_has ls 3 [(0, .ref (a 0)), (1, .int x), (2, .int y)] := hl
  refine lv_iload_n hx hb dDB_due_0 rfl (lv_at hl 1 rfl) ?_
  exact t_passS (As := [.int x]) (rest := []) ⟨hx, hb, hml, hown, hts⟩ (c_DB_requirePort_T l hL dI dO dG dN dT aN aB nS nP nR nG nO nU nT tP tR tO tN tF tZ mP mN x (by first | omega | assumption)) (cw_S 1 hts k285 k286 k27 k287 rfl rfl rfl (by decide +kernel) ⟨Nat.le_of_ble_eq_true rfl, Nat.le_of_ble_eq_true rfl⟩) hK hP hT rfl hl.1 rfl (Nat.le_of_ble_eq_true rfl) dDB_due_1 ⟨Nat.le_of_ble_eq_true rfl, Nat.le_of_ble_eq_true rfl⟩ hne hlocks
set_option maxHeartbeats 4000000 in
set_option maxRecDepth 100000 in
theorem c_DB_due_T2 (l : Launch) (hL : l.stackTraces = false) {D : va_G} {cI cL : ClassId} {a : Nat → Nat} (dI : Nat) (dO dG dN dT : Int32) (aN aB : Nat → Int32) (nS nP nR nG : Nat → Int32) (nO nU : Nat → Int64) (nT : Nat → Int32) (tP tR tO tN : Nat → Int32) (tF tZ : Nat) (mP : Nat → Int32) (mN : Int64) (q : Nat) (x : Int32) (hq : q < 8) (hb0 : fDB_isRouter x = false) : Tet l yDB_due wsDB_due ({ frames := 7, cells := 1, slots := 6, locals := 102 }) (va_Pc [.ref (a 0), .int (nI q), .int x] (tPre D (tyC cI cL) (wC cI cL a) ((dI, dO, dG, dN, dT), (aN, aB), (nS, nP, nR, nG, nO, nU, nT), (tP, tR, tO, tN, tF, tZ), (mP, mN)))) "java/lang/IllegalArgumentException" 1 6 := by
  refine t_enter (by decide) rfl (Nat.le_of_ble_eq_true rfl) ?_
  intro p e s m below meth c ls F hne hK hP hT hl
  obtain ⟨hx, hb, hr, hml, hown, hts, hlocks⟩ := id F
  have hl : lv_has ls 3 [(0, .ref (a 0)), (1, .int (nI q)), (2, .int x)] := hl
  refine lv_iload_n hx hb dDB_due_0 rfl (lv_at hl 1 rfl) ?_
  refine g_roSv (As := [.int (nI q)]) (rest := []) ⟨hx, hb, hml, hown, hts⟩ (c_DB_requirePort l dI dO dG dN dT aN aB nS nP nR nG nO nU nT tP tR tO tN tF tZ mP mN q (by first | omega | assumption)) (cw_S 1 hts k285 k286 k27 k287 rfl rfl rfl (by decide +kernel) ⟨Nat.le_of_ble_eq_true rfl, Nat.le_of_ble_eq_true rfl⟩) hK hP rfl hl.1 rfl (Nat.le_of_ble_eq_true rfl) dDB_due_1 ⟨Nat.zero_le _, Nat.zero_le _⟩ ?_
  refine lv_iload_n hx hb dDB_due_4 rfl (lv_at hl 2 rfl) ?_
  exact t_passS (As := [.int x]) (rest := []) ⟨hx, hb, hml, hown, hts⟩ (c_DB_requireRouter_T l hL dI dO dG dN dT aN aB nS nP nR nG nO nU nT tP tR tO tN tF tZ mP mN x (by first | omega | assumption)) (cw_S 1 hts k438 k439 k27 k440 rfl rfl rfl (by decide +kernel) ⟨Nat.le_of_ble_eq_true rfl, Nat.le_of_ble_eq_true rfl⟩) hK hP hT rfl hl.1 rfl (Nat.le_of_ble_eq_true rfl) dDB_due_5 ⟨Nat.le_of_ble_eq_true rfl, Nat.le_of_ble_eq_true rfl⟩ hne hlocks
