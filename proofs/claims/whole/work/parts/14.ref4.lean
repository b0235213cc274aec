set_option maxHeartbeats 4000000 in
set_option maxRecDepth 100000 in
theorem c_RM_wrong_bad (l : Launch) {D : va_G} {cI cZ : ClassId} {a : Nat → Nat}  (rI : Nat) (rC rN : Int32) (rO rG : Nat → Bool) (rW rH : Nat → Int32) (rF : Nat → Bool) (rT : Nat → Int32) (rM rB : Nat → Int32) (rX : Int32) (rQ : Nat) (rA : Nat → Int32) (rE : Nat → Int32) (rD : Int64) (x : Int32) (y : Int32) (hbad : fRM_in x 0 7 = true → fRM_in y 0 63 = true → ¬ y = nI rI → False) : Met l yRM_wrong wsRM_wrong ({ frames := 1, cells := 0, slots := 0, locals := 22 }) (va_Pc [.ref (a 0), .int x, .int y] (gG D (tyR cI cZ) (wR cI cZ a) ((rI, rC, rN), (rO, rG), (rW, rH, rF, rT), (rM, rB, rX), (rQ, rA), (rE, rD)))) (vp_Si (fun r : Int32 => r = 1)) 0 0 (fun _ => False) := by
  refine g_enter (by decide) rfl (Nat.le_of_ble_eq_true rfl) ?_
  intro p e s m below meth c ls F hK hP hl
  obtain ⟨hx, hb, hr, hml, hown, hts, hlocks⟩ := id F
  have hl : lv_has ls 3 [(0, .ref (a 0)), (1, .int x), (2, .int y)] := hl
  refine lv_iload_n hx hb dRM_wrong_0 rfl (lv_at hl 1 rfl) ?_
  refine lv_iconst (v := 0) hx hb dRM_wrong_1 (by decide) ?_
  refine lv_bipush (v := 7) hx hb dRM_wrong_2 (by decide) ?_
  refine g_roSi (As := [.int x, .int 0, .int 7]) (rest := []) ⟨hx, hb, hml, hown, hts⟩ (c_RM_in l rI rC rN rO rG rW rH rF rT rM rB rX rQ rA rE rD x 0 7) (cw_S 3 hts k633 k634 k32 k635 rfl rfl rfl (by decide +kernel) ⟨Nat.le_of_ble_eq_true rfl, Nat.le_of_ble_eq_true rfl⟩) hK hP rfl hl.1 rfl (Nat.le_of_ble_eq_true rfl) dRM_wrong_4 ⟨Nat.zero_le _, Nat.zero_le _⟩ ?_
  refine lv_if_eqb (tgt := 28) hx hb dRM_wrong_7 (by decide) (fun c1 => ?_) (fun c1 => ?_)
  · refine lv_iconst (v := 1) hx hb dRM_wrong_28 (by decide) ?_
    refine lv_goto (tgt := 46) hx hb dRM_wrong_29 (by decide) ?_
    exact r_iret hx hb hr (rfl) hlocks dRM_wrong_46
  · refine lv_iload_n hx hb dRM_wrong_10 rfl (lv_at hl 2 rfl) ?_
    refine lv_iconst (v := 0) hx hb dRM_wrong_11 (by decide) ?_
    refine lv_bipush (v := 63) hx hb dRM_wrong_12 (by decide) ?_
    refine g_roSi (As := [.int y, .int 0, .int 63]) (rest := []) ⟨hx, hb, hml, hown, hts⟩ (c_RM_in l rI rC rN rO rG rW rH rF rT rM rB rX rQ rA rE rD y 0 63) (cw_S 3 hts k633 k634 k32 k635 rfl rfl rfl (by decide +kernel) ⟨Nat.le_of_ble_eq_true rfl, Nat.le_of_ble_eq_true rfl⟩) hK hP rfl hl.1 rfl (Nat.le_of_ble_eq_true rfl) dRM_wrong_14 ⟨Nat.zero_le _, Nat.zero_le _⟩ ?_
    refine lv_if_eqb (tgt := 28) hx hb dRM_wrong_17 (by decide) (fun c2 => ?_) (fun c2 => ?_)
    · refine lv_iconst (v := 1) hx hb dRM_wrong_28 (by decide) ?_
      refine lv_goto (tgt := 46) hx hb dRM_wrong_29 (by decide) ?_
      exact r_iret hx hb hr (rfl) hlocks dRM_wrong_46
    · refine lv_iload_n hx hb dRM_wrong_20 rfl (lv_at hl 2 rfl) ?_
      refine lv_aload_n hx hb dRM_wrong_21 rfl (lv_at hl 0 rfl) ?_
      refine va_get (D := D) (ci := 5) (v := .int (nI rI)) (C := RRM) (T := TRM) (N := 16) hx hb hts inRM hown hK hP 0 rfl rfl 0 (by decide) (hts _ k575) (fun _ h9 => h9) rfl dRM_wrong_22 ?_
      refine lv_icmp_ne (tgt := 32) hx hb dRM_wrong_25 (by decide) (fun c3 => (hbad c1 c2 c3).elim) (fun c3 => ?_)
      refine lv_iconst (v := 1) hx hb dRM_wrong_28 (by decide) ?_
      refine lv_goto (tgt := 46) hx hb dRM_wrong_29 (by decide) ?_
      exact r_iret hx hb hr (rfl) hlocks dRM_wrong_46
set_option maxHeartbeats 4000000 in
set_option maxRecDepth 100000 in
theorem c_RM_port_bad (l : Launch) {D : va_G} {cI cZ : ClassId} {a : Nat → Nat} {A : Nat → Prop} (hA : ∀ v : RS, va_D A (wR cI cZ a v)) (rI : Nat) (rC rN : Int32) (rO rG : Nat → Bool) (rW rH : Nat → Int32) (rF : Nat → Bool) (rT : Nat → Int32) (rM rB : Nat → Int32) (rX : Int32) (rQ : Nat) (rA : Nat → Int32) (rE : Nat → Int32) (rD : Int64) (x : Int32) (b : Bool) (hb0 : fRM_in x 0 7 = false) : Met l yRM_port wsRM_port ({ frames := 1, cells := 0, slots := 0, locals := 22 }) (va_Pc [.ref (a 0), .int x, .int (bi b)] (gG D (tyR cI cZ) (wR cI cZ a) ((rI, rC, rN), (rO, rG), (rW, rH, rF, rT), (rM, rB, rX), (rQ, rA), (rE, rD)))) (va_Qi (fun (r : Int32) (u : RS) => r = bi false ∧ u = ((rI, 1, rN), (rO, rG), (rW, rH, rF, rT), (rM, rB, rX), (rQ, rA), (rE, rD))) (gG D (tyR cI cZ) (wR cI cZ a)) A) 0 0 A := by
  refine g_enter (by decide) rfl (Nat.le_of_ble_eq_true rfl) ?_
  intro p e s m below meth c ls F hK hP hl
  obtain ⟨hx, hb, hr, hml, hown, hts, hlocks⟩ := id F
  have hS : va_S A s.heap s.heap [] := va_S.rf
  have hl : lv_has ls 5 [(0, .ref (a 0)), (1, .int x), (2, .int (bi b))] := hl
  refine lv_aload_n hx hb dRM_port_0 rfl (lv_at hl 0 rfl) ?_
  refine lv_iload_n hx hb dRM_port_1 rfl (lv_at hl 1 rfl) ?_
  refine lv_iconst (v := 0) hx hb dRM_port_2 (by decide) ?_
  refine lv_bipush (v := 7) hx hb dRM_port_3 (by decide) ?_
  refine g_roSi (As := [.int x, .int 0, .int 7]) (rest := [.ref (a 0)]) ⟨hx, hb, hml, hown, hts⟩ (c_RM_in l rI rC rN rO rG rW rH rF rT rM rB rX rQ rA rE rD x 0 7) (cw_S 3 hts k633 k634 k32 k635 rfl rfl rfl (by decide +kernel) ⟨Nat.le_of_ble_eq_true rfl, Nat.le_of_ble_eq_true rfl⟩) hK hP rfl hl.1 rfl (Nat.le_of_ble_eq_true rfl) dRM_port_5 ⟨Nat.zero_le _, Nat.zero_le _⟩ ?_
  refine lv_if_eqb (tgt := 15) hx hb dRM_port_8 (by decide) (fun c1 => ?_) (fun c1 => absurd (c1.symm.trans hb0) (by decide))
  refine lv_iconst (v := 1) hx hb dRM_port_15 (by decide) ?_
  refine va_put (D := D) (ci := 5) (v := .int 1) (ty := .int) (C := RRM) (T := TRM) (N := 16) hx hb hts inRM tyRM tyRM_ok nmRM hown hK hP (hA _) hS 0 rfl rfl 1 (by decide) (hts _ k576) (fun _ h9 => h9) rfl (by decide +kernel) rfl rfl (Nat.le_of_ble_eq_true rfl) dRM_port_16 (fun H locs hP _ hS => ?_)
  have hP : va_P D vwCl (wR cI cZ a ((rI, 1, rN), (rO, rG), (rW, rH, rF, rT), (rM, rB, rX), (rQ, rA), (rE, rD))) H := hP
  refine lv_aload_n hx hb dRM_port_19 rfl (lv_at hl 0 rfl) ?_
  refine va_get (D := D) (ci := 5) (v := .int 1) (C := RRM) (T := TRM) (N := 16) hx hb hts inRM hown hK hP 0 rfl rfl 1 (by decide) (hts _ k576) (fun _ h9 => h9) rfl dRM_port_20 ?_
  refine lv_if_le (tgt := 28) hx hb dRM_port_23 (by decide) (fun c0 => absurd c0 (by decide)) (fun _ => ?_)
  refine lv_iconst (v := bi false) hx hb dRM_port_26 (by decide) ?_
  exact g_zret (v := ((rI, 1, rN), (rO, rG), (rW, rH, rF, rT), (rM, rB, rX), (rQ, rA), (rE, rD))) hx hb hr hK hP hS ⟨rfl, rfl⟩ hlocks dRM_port_27
set_option maxHeartbeats 4000000 in
set_option maxRecDepth 100000 in
theorem c_RM_greeting_bad (l : Launch) {D : va_G} {cI cZ : ClassId} {a : Nat → Nat} {A : Nat → Prop} (hA : ∀ v : RS, va_D A (wR cI cZ a v)) (rI : Nat) (rC rN : Int32) (rO rG : Nat → Bool) (rW rH : Nat → Int32) (rF : Nat → Bool) (rT : Nat → Int32) (rM rB : Nat → Int32) (rX : Int32) (rQ : Nat) (rA : Nat → Int32) (rE : Nat → Int32) (rD : Int64) (x : Int32) (y : Int32) (b : Bool) (hbad : fRM_in x 0 7 = true → fRM_in y 0 63 = true → ¬ y = nI rI → False) : Met l yRM_greeting wsRM_greeting ({ frames := 2, cells := 0, slots := 0, locals := 44 }) (va_Pc [.ref (a 0), .int x, .int y, .int (bi b)] (gG D (tyR cI cZ) (wR cI cZ a) ((rI, rC, rN), (rO, rG), (rW, rH, rF, rT), (rM, rB, rX), (rQ, rA), (rE, rD)))) (va_Qi (fun (r : Int32) (u : RS) => r = 0 ∧ u = ((rI, 1, rN), (rO, rG), (rW, rH, rF, rT), (rM, rB, rX), (rQ, rA), (rE, rD))) (gG D (tyR cI cZ) (wR cI cZ a)) A) 0 0 A := by
  refine g_enter (by decide) rfl (Nat.le_of_ble_eq_true rfl) ?_
  intro p e s m below meth c ls F hK hP hl
  obtain ⟨hx, hb, hr, hml, hown, hts, hlocks⟩ := id F
  have hS : va_S A s.heap s.heap [] := va_S.rf
  have hl : lv_has ls 7 [(0, .ref (a 0)), (1, .int x), (2, .int y), (3, .int (bi b))] := hl
  refine lv_aload_n hx hb dRM_greeting_0 rfl (lv_at hl 0 rfl) ?_
  refine lv_aload_n hx hb dRM_greeting_1 rfl (lv_at hl 0 rfl) ?_
  refine lv_iload_n hx hb dRM_greeting_2 rfl (lv_at hl 1 rfl) ?_
  refine lv_iload_n hx hb dRM_greeting_3 rfl (lv_at hl 2 rfl) ?_
  refine g_roVi (As := [.int x, .int y]) (rest := [.ref (a 0)]) ⟨hx, hb, hml, hown, hts⟩ (c_RM_wrong_bad l rI rC rN rO rG rW rH rF rT rM rB rX rQ rA rE rD x y (by first | omega | assumption)) (cwV 2 hts (gw_V k648 k650 k19 k32 k651) rfl rfl rfl (by decide +kernel) ⟨Nat.le_of_ble_eq_true rfl, Nat.le_of_ble_eq_true rfl⟩) hK hP (va_recv hK hP (ci := 5) (q0 := 0) rfl rfl) rfl hl.1 rfl (Nat.le_of_ble_eq_true rfl) dRM_greeting_4 ⟨Nat.zero_le _, Nat.zero_le _⟩ ?_
  refine va_put (D := D) (ci := 5) (v := .int 1) (ty := .int) (C := RRM) (T := TRM) (N := 16) hx hb hts inRM tyRM tyRM_ok nmRM hown hK hP (hA _) hS 0 rfl rfl 1 (by decide) (hts _ k576) (fun _ h9 => h9) rfl (by decide +kernel) rfl rfl (Nat.le_of_ble_eq_true rfl) dRM_greeting_7 (fun H locs hP _ hS => ?_)
  have hP : va_P D vwCl (wR cI cZ a ((rI, 1, rN), (rO, rG), (rW, rH, rF, rT), (rM, rB, rX), (rQ, rA), (rE, rD))) H := hP
  refine lv_aload_n hx hb dRM_greeting_10 rfl (lv_at hl 0 rfl) ?_
  refine va_get (D := D) (ci := 5) (v := .int 1) (C := RRM) (T := TRM) (N := 16) hx hb hts inRM hown hK hP 0 rfl rfl 1 (by decide) (hts _ k576) (fun _ h9 => h9) rfl dRM_greeting_11 ?_
  refine lv_if_le (tgt := 19) hx hb dRM_greeting_14 (by decide) (fun c0 => absurd c0 (by decide)) (fun _ => ?_)
  refine lv_iconst (v := 0) hx hb dRM_greeting_17 (by decide) ?_
  exact g_iret (v := ((rI, 1, rN), (rO, rG), (rW, rH, rF, rT), (rM, rB, rX), (rQ, rA), (rE, rD))) hx hb hr hK hP hS ⟨rfl, rfl⟩ hlocks dRM_greeting_18
set_option maxHeartbeats 4000000 in
set_option maxRecDepth 100000 in
theorem c_RM_greeting_off (l : Launch) {D : va_G} {cI cZ : ClassId} {a : Nat → Nat} {A : Nat → Prop} (hA : ∀ v : RS, va_D A (wR cI cZ a v)) (rI : Nat) (rC rN : Int32) (rO rG : Nat → Bool) (rW rH : Nat → Int32) (rF : Nat → Bool) (rT : Nat → Int32) (rM rB : Nat → Int32) (rX : Int32) (rQ : Nat) (rA : Nat → Int32) (rE : Nat → Int32) (rD : Int64) (q : Nat) (o : Nat) (b : Bool) (hq : q < 8) (ho : o < 64) (hI : rI < 64) (hne : ¬ o = rI) (hoff : rO q = false) : Met l yRM_greeting wsRM_greeting ({ frames := 2, cells := 0, slots := 0, locals := 44 }) (va_Pc [.ref (a 0), .int (nI q), .int (nI o), .int (bi b)] (gG D (tyR cI cZ) (wR cI cZ a) ((rI, rC, rN), (rO, rG), (rW, rH, rF, rT), (rM, rB, rX), (rQ, rA), (rE, rD)))) (va_Qi (fun (r : Int32) (u : RS) => r = 0 ∧ u = ((rI, fRM_wrong rO q, rN), (rO, rG), (rW, rH, rF, rT), (rM, rB, rX), (rQ, rA), (rE, rD))) (gG D (tyR cI cZ) (wR cI cZ a)) A) 0 0 A := by
  refine g_enter (by decide) rfl (Nat.le_of_ble_eq_true rfl) ?_
  intro p e s m below meth c ls F hK hP hl
  obtain ⟨hx, hb, hr, hml, hown, hts, hlocks⟩ := id F
  have hS : va_S A s.heap s.heap [] := va_S.rf
  have hl : lv_has ls 7 [(0, .ref (a 0)), (1, .int (nI q)), (2, .int (nI o)), (3, .int (bi b))] := hl
  refine lv_aload_n hx hb dRM_greeting_0 rfl (lv_at hl 0 rfl) ?_
  refine lv_aload_n hx hb dRM_greeting_1 rfl (lv_at hl 0 rfl) ?_
  refine lv_iload_n hx hb dRM_greeting_2 rfl (lv_at hl 1 rfl) ?_
  refine lv_iload_n hx hb dRM_greeting_3 rfl (lv_at hl 2 rfl) ?_
  refine g_roVi (As := [.int (nI q), .int (nI o)]) (rest := [.ref (a 0)]) ⟨hx, hb, hml, hown, hts⟩ (c_RM_wrong l rI rC rN rO rG rW rH rF rT rM rB rX rQ rA rE rD q o (by first | omega | assumption) (by first | omega | assumption) (by first | omega | assumption) (by first | omega | assumption)) (cwV 2 hts (gw_V k648 k650 k19 k32 k651) rfl rfl rfl (by decide +kernel) ⟨Nat.le_of_ble_eq_true rfl, Nat.le_of_ble_eq_true rfl⟩) hK hP (va_recv hK hP (ci := 5) (q0 := 0) rfl rfl) rfl hl.1 rfl (Nat.le_of_ble_eq_true rfl) dRM_greeting_4 ⟨Nat.zero_le _, Nat.zero_le _⟩ ?_
  refine va_put (D := D) (ci := 5) (v := .int (fRM_wrong rO q)) (ty := .int) (C := RRM) (T := TRM) (N := 16) hx hb hts inRM tyRM tyRM_ok nmRM hown hK hP (hA _) hS 0 rfl rfl 1 (by decide) (hts _ k576) (fun _ h9 => h9) rfl (by decide +kernel) rfl rfl (Nat.le_of_ble_eq_true rfl) dRM_greeting_7 (fun H locs hP _ hS => ?_)
  have hP : va_P D vwCl (wR cI cZ a ((rI, fRM_wrong rO q, rN), (rO, rG), (rW, rH, rF, rT), (rM, rB, rX), (rQ, rA), (rE, rD))) H := hP
  refine lv_aload_n hx hb dRM_greeting_10 rfl (lv_at hl 0 rfl) ?_
  refine va_get (D := D) (ci := 5) (v := .int (fRM_wrong rO q)) (C := RRM) (T := TRM) (N := 16) hx hb hts inRM hown hK hP 0 rfl rfl 1 (by decide) (hts _ k576) (fun _ h9 => h9) rfl dRM_greeting_11 ?_
  refine lv_if_le (tgt := 19) hx hb dRM_greeting_14 (by decide) (fun c1 => absurd c1 (by rw [wrong_off hoff]; decide)) (fun c1 => ?_)
  refine lv_iconst (v := 0) hx hb dRM_greeting_17 (by decide) ?_
  exact g_iret (v := ((rI, fRM_wrong rO q, rN), (rO, rG), (rW, rH, rF, rT), (rM, rB, rX), (rQ, rA), (rE, rD))) hx hb hr hK hP hS ⟨rfl, rfl⟩ hlocks dRM_greeting_18
set_option maxHeartbeats 4000000 in
set_option maxRecDepth 100000 in
theorem c_RM_advert_badA (l : Launch) {D : va_G} {cI cZ : ClassId} {a : Nat → Nat} {A : Nat → Prop} (hA : ∀ v : RS, va_D A (wR cI cZ a v)) (rI : Nat) (rC rN : Int32) (rO rG : Nat → Bool) (rW rH : Nat → Int32) (rF : Nat → Bool) (rT : Nat → Int32) (rM rB : Nat → Int32) (rX : Int32) (rQ : Nat) (rA : Nat → Int32) (rE : Nat → Int32) (rD : Int64) (x : Int32) (y : Int32) (z : Int32) (x4 : Int32) (x5 : Int32) (hbad : fRM_in z 0 63 = true → fRM_in x4 1 1000000000 = true → False) : Met l yRM_advert wsRM_advert ({ frames := 1, cells := 0, slots := 0, locals := 22 }) (va_Pc [.ref (a 0), .int x, .int y, .int z, .int x4, .int x5] (gG D (tyR cI cZ) (wR cI cZ a) ((rI, rC, rN), (rO, rG), (rW, rH, rF, rT), (rM, rB, rX), (rQ, rA), (rE, rD)))) (va_Qi (fun (r : Int32) (u : RS) => r = 0 ∧ u = ((rI, 1, rN), (rO, rG), (rW, rH, rF, rT), (rM, rB, rX), (rQ, rA), (rE, rD))) (gG D (tyR cI cZ) (wR cI cZ a)) A) 0 0 A := by
  refine g_enter (by decide) rfl (Nat.le_of_ble_eq_true rfl) ?_
  intro p e s m below meth c ls F hK hP hl
  obtain ⟨hx, hb, hr, hml, hown, hts, hlocks⟩ := id F
  have hS : va_S A s.heap s.heap [] := va_S.rf
  have hl : lv_has ls 10 [(0, .ref (a 0)), (1, .int x), (2, .int y), (3, .int z), (4, .int x4), (5, .int x5)] := hl
  refine lv_aload_n hx hb dRM_advert_0 rfl (lv_at hl 0 rfl) ?_
  refine lv_iload_n hx hb dRM_advert_1 rfl (lv_at hl 3 rfl) ?_
  refine lv_iconst (v := 0) hx hb dRM_advert_2 (by decide) ?_
  refine lv_bipush (v := 63) hx hb dRM_advert_3 (by decide) ?_
  refine g_roSi (As := [.int z, .int 0, .int 63]) (rest := [.ref (a 0)]) ⟨hx, hb, hml, hown, hts⟩ (c_RM_in l rI rC rN rO rG rW rH rF rT rM rB rX rQ rA rE rD z 0 63) (cw_S 3 hts k633 k634 k32 k635 rfl rfl rfl (by decide +kernel) ⟨Nat.le_of_ble_eq_true rfl, Nat.le_of_ble_eq_true rfl⟩) hK hP rfl hl.1 rfl (Nat.le_of_ble_eq_true rfl) dRM_advert_5 ⟨Nat.zero_le _, Nat.zero_le _⟩ ?_
  refine lv_if_eqb (tgt := 22) hx hb dRM_advert_8 (by decide) (fun c1 => ?_) (fun c1 => ?_)
  · refine lv_iconst (v := 1) hx hb dRM_advert_22 (by decide) ?_
    refine lv_goto (tgt := 32) hx hb dRM_advert_23 (by decide) ?_
    refine va_put (D := D) (ci := 5) (v := .int 1) (ty := .int) (C := RRM) (T := TRM) (N := 16) hx hb hts inRM tyRM tyRM_ok nmRM hown hK hP (hA _) hS 0 rfl rfl 1 (by decide) (hts _ k576) (fun _ h9 => h9) rfl (by decide +kernel) rfl rfl (Nat.le_of_ble_eq_true rfl) dRM_advert_32 (fun H locs hP _ hS => ?_)
    have hP : va_P D vwCl (wR cI cZ a ((rI, 1, rN), (rO, rG), (rW, rH, rF, rT), (rM, rB, rX), (rQ, rA), (rE, rD))) H := hP
    refine lv_aload_n hx hb dRM_advert_35 rfl (lv_at hl 0 rfl) ?_
    refine va_get (D := D) (ci := 5) (v := .int 1) (C := RRM) (T := TRM) (N := 16) hx hb hts inRM hown hK hP 0 rfl rfl 1 (by decide) (hts _ k576) (fun _ h9 => h9) rfl dRM_advert_36 ?_
    refine lv_if_le (tgt := 44) hx hb dRM_advert_39 (by decide) (fun c0 => absurd c0 (by decide)) (fun _ => ?_)
    refine lv_iconst (v := 0) hx hb dRM_advert_42 (by decide) ?_
    exact g_iret (v := ((rI, 1, rN), (rO, rG), (rW, rH, rF, rT), (rM, rB, rX), (rQ, rA), (rE, rD))) hx hb hr hK hP hS ⟨rfl, rfl⟩ hlocks dRM_advert_43
  · refine lv_iload hx hb dRM_advert_11 (lv_at hl 4 rfl) ?_
    refine lv_iconst (v := 1) hx hb dRM_advert_13 (by decide) ?_
    refine lv_ldc (v := 1000000000) hx hb hown (hts _ k660) dRM_advert_14 ?_
    refine g_roSi (As := [.int x4, .int 1, .int 1000000000]) (rest := [.ref (a 0)]) ⟨hx, hb, hml, hown, hts⟩ (c_RM_in l rI rC rN rO rG rW rH rF rT rM rB rX rQ rA rE rD x4 1 1000000000) (cw_S 3 hts k633 k634 k32 k635 rfl rfl rfl (by decide +kernel) ⟨Nat.le_of_ble_eq_true rfl, Nat.le_of_ble_eq_true rfl⟩) hK hP rfl hl.1 rfl (Nat.le_of_ble_eq_true rfl) dRM_advert_16 ⟨Nat.zero_le _, Nat.zero_le _⟩ ?_
    refine lv_if_neb (tgt := 26) hx hb dRM_advert_19 (by decide) (fun c3 => (hbad c1 c3).elim) (fun c3 => ?_)
    refine lv_iconst (v := 1) hx hb dRM_advert_22 (by decide) ?_
    refine lv_goto (tgt := 32) hx hb dRM_advert_23 (by decide) ?_
    refine va_put (D := D) (ci := 5) (v := .int 1) (ty := .int) (C := RRM) (T := TRM) (N := 16) hx hb hts inRM tyRM tyRM_ok nmRM hown hK hP (hA _) hS 0 rfl rfl 1 (by decide) (hts _ k576) (fun _ h9 => h9) rfl (by decide +kernel) rfl rfl (Nat.le_of_ble_eq_true rfl) dRM_advert_32 (fun H locs hP _ hS => ?_)
    have hP : va_P D vwCl (wR cI cZ a ((rI, 1, rN), (rO, rG), (rW, rH, rF, rT), (rM, rB, rX), (rQ, rA), (rE, rD))) H := hP
    refine lv_aload_n hx hb dRM_advert_35 rfl (lv_at hl 0 rfl) ?_
    refine va_get (D := D) (ci := 5) (v := .int 1) (C := RRM) (T := TRM) (N := 16) hx hb hts inRM hown hK hP 0 rfl rfl 1 (by decide) (hts _ k576) (fun _ h9 => h9) rfl dRM_advert_36 ?_
    refine lv_if_le (tgt := 44) hx hb dRM_advert_39 (by decide) (fun c0 => absurd c0 (by decide)) (fun _ => ?_)
    refine lv_iconst (v := 0) hx hb dRM_advert_42 (by decide) ?_
    exact g_iret (v := ((rI, 1, rN), (rO, rG), (rW, rH, rF, rT), (rM, rB, rX), (rQ, rA), (rE, rD))) hx hb hr hK hP hS ⟨rfl, rfl⟩ hlocks dRM_advert_43
set_option maxHeartbeats 4000000 in
set_option maxRecDepth 100000 in
theorem c_RM_advert_badB (l : Launch) {D : va_G} {cI cZ : ClassId} {a : Nat → Nat} {A : Nat → Prop} (hA : ∀ v : RS, va_D A (wR cI cZ a v)) (rI : Nat) (rC rN : Int32) (rO rG : Nat → Bool) (rW rH : Nat → Int32) (rF : Nat → Bool) (rT : Nat → Int32) (rM rB : Nat → Int32) (rX : Int32) (rQ : Nat) (rA : Nat → Int32) (rE : Nat → Int32) (rD : Int64) (x : Int32) (y : Int32) (g : Nat) (x4 : Int32) (x5 : Int32) (hg : g < 64) (h1 : ¬ x4 < 1) (h2 : x4 ≤ 1000000000) (hbad : fRM_in x 0 7 = true → fRM_in y 0 63 = true → ¬ y = nI rI → False) : Met l yRM_advert wsRM_advert ({ frames := 2, cells := 0, slots := 0, locals := 44 }) (va_Pc [.ref (a 0), .int x, .int y, .int (nI g), .int x4, .int x5] (gG D (tyR cI cZ) (wR cI cZ a) ((rI, rC, rN), (rO, rG), (rW, rH, rF, rT), (rM, rB, rX), (rQ, rA), (rE, rD)))) (va_Qi (fun (r : Int32) (u : RS) => r = 0 ∧ u = ((rI, 1, rN), (rO, rG), (rW, rH, rF, rT), (rM, rB, rX), (rQ, rA), (rE, rD))) (gG D (tyR cI cZ) (wR cI cZ a)) A) 0 0 A := by
  refine g_enter (by decide) rfl (Nat.le_of_ble_eq_true rfl) ?_
  intro p e s m below meth c ls F hK hP hl
  obtain ⟨hx, hb, hr, hml, hown, hts, hlocks⟩ := id F
  have hS : va_S A s.heap s.heap [] := va_S.rf
  have hl : lv_has ls 10 [(0, .ref (a 0)), (1, .int x), (2, .int y), (3, .int (nI g)), (4, .int x4), (5, .int x5)] := hl
  refine lv_aload_n hx hb dRM_advert_0 rfl (lv_at hl 0 rfl) ?_
  refine lv_iload_n hx hb dRM_advert_1 rfl (lv_at hl 3 rfl) ?_
  refine lv_iconst (v := 0) hx hb dRM_advert_2 (by decide) ?_
  refine lv_bipush (v := 63) hx hb dRM_advert_3 (by decide) ?_
  refine g_roSi (As := [.int (nI g), .int 0, .int 63]) (rest := [.ref (a 0)]) ⟨hx, hb, hml, hown, hts⟩ (c_RM_in l rI rC rN rO rG rW rH rF rT rM rB rX rQ rA rE rD (nI g) 0 63) (cw_S 3 hts k633 k634 k32 k635 rfl rfl rfl (by decide +kernel) ⟨Nat.le_of_ble_eq_true rfl, Nat.le_of_ble_eq_true rfl⟩) hK hP rfl hl.1 rfl (Nat.le_of_ble_eq_true rfl) dRM_advert_5 ⟨Nat.zero_le _, Nat.zero_le _⟩ ?_
  refine lv_if_eqb (tgt := 22) hx hb dRM_advert_8 (by decide) (fun c1 => absurd (c1.symm.trans (in_K (b := 63) (by omega) (by decide))) (by decide)) (fun c1 => ?_)
  refine lv_iload hx hb dRM_advert_11 (lv_at hl 4 rfl) ?_
  refine lv_iconst (v := 1) hx hb dRM_advert_13 (by decide) ?_
  refine lv_ldc (v := 1000000000) hx hb hown (hts _ k660) dRM_advert_14 ?_
  refine g_roSi (As := [.int x4, .int 1, .int 1000000000]) (rest := [.ref (a 0)]) ⟨hx, hb, hml, hown, hts⟩ (c_RM_in l rI rC rN rO rG rW rH rF rT rM rB rX rQ rA rE rD x4 1 1000000000) (cw_S 3 hts k633 k634 k32 k635 rfl rfl rfl (by decide +kernel) ⟨Nat.le_of_ble_eq_true rfl, Nat.le_of_ble_eq_true rfl⟩) hK hP rfl hl.1 rfl (Nat.le_of_ble_eq_true rfl) dRM_advert_16 ⟨Nat.zero_le _, Nat.zero_le _⟩ ?_
  refine lv_if_neb (tgt := 26) hx hb dRM_advert_19 (by decide) (fun c2 => ?_) (fun c2 => absurd (c2.symm.trans (in_ok h1 h2)) (by decide))
  refine lv_aload_n hx hb dRM_advert_26 rfl (lv_at hl 0 rfl) ?_
  refine lv_iload_n hx hb dRM_advert_27 rfl (lv_at hl 1 rfl) ?_
  refine lv_iload_n hx hb dRM_advert_28 rfl (lv_at hl 2 rfl) ?_
  refine g_roVi (As := [.int x, .int y]) (rest := [.ref (a 0)]) ⟨hx, hb, hml, hown, hts⟩ (c_RM_wrong_bad l rI rC rN rO rG rW rH rF rT rM rB rX rQ rA rE rD x y (by first | omega | assumption)) (cwV 2 hts (gw_V k648 k650 k19 k32 k651) rfl rfl rfl (by decide +kernel) ⟨Nat.le_of_ble_eq_true rfl, Nat.le_of_ble_eq_true rfl⟩) hK hP (va_recv hK hP (ci := 5) (q0 := 0) rfl rfl) rfl hl.1 rfl (Nat.le_of_ble_eq_true rfl) dRM_advert_29 ⟨Nat.zero_le _, Nat.zero_le _⟩ ?_
  refine va_put (D := D) (ci := 5) (v := .int 1) (ty := .int) (C := RRM) (T := TRM) (N := 16) hx hb hts inRM tyRM tyRM_ok nmRM hown hK hP (hA _) hS 0 rfl rfl 1 (by decide) (hts _ k576) (fun _ h9 => h9) rfl (by decide +kernel) rfl rfl (Nat.le_of_ble_eq_true rfl) dRM_advert_32 (fun H locs hP _ hS => ?_)
  have hP : va_P D vwCl (wR cI cZ a ((rI, 1, rN), (rO, rG), (rW, rH, rF, rT), (rM, rB, rX), (rQ, rA), (rE, rD))) H := hP
  refine lv_aload_n hx hb dRM_advert_35 rfl (lv_at hl 0 rfl) ?_
  refine va_get (D := D) (ci := 5) (v := .int 1) (C := RRM) (T := TRM) (N := 16) hx hb hts inRM hown hK hP 0 rfl rfl 1 (by decide) (hts _ k576) (fun _ h9 => h9) rfl dRM_advert_36 ?_
  refine lv_if_le (tgt := 44) hx hb dRM_advert_39 (by decide) (fun c0 => absurd c0 (by decide)) (fun _ => ?_)
  refine lv_iconst (v := 0) hx hb dRM_advert_42 (by decide) ?_
  exact g_iret (v := ((rI, 1, rN), (rO, rG), (rW, rH, rF, rT), (rM, rB, rX), (rQ, rA), (rE, rD))) hx hb hr hK hP hS ⟨rfl, rfl⟩ hlocks dRM_advert_43
set_option maxHeartbeats 4000000 in
set_option maxRecDepth 100000 in
theorem c_RM_advert_off (l : Launch) {D : va_G} {cI cZ : ClassId} {a : Nat → Nat} {A : Nat → Prop} (hA : ∀ v : RS, va_D A (wR cI cZ a v)) (rI : Nat) (rC rN : Int32) (rO rG : Nat → Bool) (rW rH : Nat → Int32) (rF : Nat → Bool) (rT : Nat → Int32) (rM rB : Nat → Int32) (rX : Int32) (rQ : Nat) (rA : Nat → Int32) (rE : Nat → Int32) (rD : Int64) (q : Nat) (o : Nat) (g : Nat) (x4 : Int32) (x5 : Int32) (hg : g < 64) (h1 : ¬ x4 < 1) (h2 : x4 ≤ 1000000000) (hq : q < 8) (ho : o < 64) (hI : rI < 64) (hne : ¬ o = rI) (hoff : rO q = false) : Met l yRM_advert wsRM_advert ({ frames := 2, cells := 0, slots := 0, locals := 44 }) (va_Pc [.ref (a 0), .int (nI q), .int (nI o), .int (nI g), .int x4, .int x5] (gG D (tyR cI cZ) (wR cI cZ a) ((rI, rC, rN), (rO, rG), (rW, rH, rF, rT), (rM, rB, rX), (rQ, rA), (rE, rD)))) (va_Qi (fun (r : Int32) (u : RS) => r = 0 ∧ u = ((rI, fRM_wrong rO q, rN), (rO, rG), (rW, rH, rF, rT), (rM, rB, rX), (rQ, rA), (rE, rD))) (gG D (tyR cI cZ) (wR cI cZ a)) A) 0 0 A := by
  refine g_enter (by decide) rfl (Nat.le_of_ble_eq_true rfl) ?_
  intro p e s m below meth c ls F hK hP hl
  obtain ⟨hx, hb, hr, hml, hown, hts, hlocks⟩ := id F
  have hS : va_S A s.heap s.heap [] := va_S.rf
  have hl : lv_has ls 10 [(0, .ref (a 0)), (1, .int (nI q)), (2, .int (nI o)), (3, .int (nI g)), (4, .int x4), (5, .int x5)] := hl
  refine lv_aload_n hx hb dRM_advert_0 rfl (lv_at hl 0 rfl) ?_
  refine lv_iload_n hx hb dRM_advert_1 rfl (lv_at hl 3 rfl) ?_
  refine lv_iconst (v := 0) hx hb dRM_advert_2 (by decide) ?_
  refine lv_bipush (v := 63) hx hb dRM_advert_3 (by decide) ?_
  refine g_roSi (As := [.int (nI g), .int 0, .int 63]) (rest := [.ref (a 0)]) ⟨hx, hb, hml, hown, hts⟩ (c_RM_in l rI rC rN rO rG rW rH rF rT rM rB rX rQ rA rE rD (nI g) 0 63) (cw_S 3 hts k633 k634 k32 k635 rfl rfl rfl (by decide +kernel) ⟨Nat.le_of_ble_eq_true rfl, Nat.le_of_ble_eq_true rfl⟩) hK hP rfl hl.1 rfl (Nat.le_of_ble_eq_true rfl) dRM_advert_5 ⟨Nat.zero_le _, Nat.zero_le _⟩ ?_
  refine lv_if_eqb (tgt := 22) hx hb dRM_advert_8 (by decide) (fun c1 => absurd (c1.symm.trans (in_K (b := 63) (by omega) (by decide))) (by decide)) (fun c1 => ?_)
  refine lv_iload hx hb dRM_advert_11 (lv_at hl 4 rfl) ?_
  refine lv_iconst (v := 1) hx hb dRM_advert_13 (by decide) ?_
  refine lv_ldc (v := 1000000000) hx hb hown (hts _ k660) dRM_advert_14 ?_
  refine g_roSi (As := [.int x4, .int 1, .int 1000000000]) (rest := [.ref (a 0)]) ⟨hx, hb, hml, hown, hts⟩ (c_RM_in l rI rC rN rO rG rW rH rF rT rM rB rX rQ rA rE rD x4 1 1000000000) (cw_S 3 hts k633 k634 k32 k635 rfl rfl rfl (by decide +kernel) ⟨Nat.le_of_ble_eq_true rfl, Nat.le_of_ble_eq_true rfl⟩) hK hP rfl hl.1 rfl (Nat.le_of_ble_eq_true rfl) dRM_advert_16 ⟨Nat.zero_le _, Nat.zero_le _⟩ ?_
  refine lv_if_neb (tgt := 26) hx hb dRM_advert_19 (by decide) (fun c2 => ?_) (fun c2 => absurd (c2.symm.trans (in_ok h1 h2)) (by decide))
  refine lv_aload_n hx hb dRM_advert_26 rfl (lv_at hl 0 rfl) ?_
  refine lv_iload_n hx hb dRM_advert_27 rfl (lv_at hl 1 rfl) ?_
  refine lv_iload_n hx hb dRM_advert_28 rfl (lv_at hl 2 rfl) ?_
  refine g_roVi (As := [.int (nI q), .int (nI o)]) (rest := [.ref (a 0)]) ⟨hx, hb, hml, hown, hts⟩ (c_RM_wrong l rI rC rN rO rG rW rH rF rT rM rB rX rQ rA rE rD q o (by first | omega | assumption) (by first | omega | assumption) (by first | omega | assumption) (by first | omega | assumption)) (cwV 2 hts (gw_V k648 k650 k19 k32 k651) rfl rfl rfl (by decide +kernel) ⟨Nat.le_of_ble_eq_true rfl, Nat.le_of_ble_eq_true rfl⟩) hK hP (va_recv hK hP (ci := 5) (q0 := 0) rfl rfl) rfl hl.1 rfl (Nat.le_of_ble_eq_true rfl) dRM_advert_29 ⟨Nat.zero_le _, Nat.zero_le _⟩ ?_
  refine va_put (D := D) (ci := 5) (v := .int (fRM_wrong rO q)) (ty := .int) (C := RRM) (T := TRM) (N := 16) hx hb hts inRM tyRM tyRM_ok nmRM hown hK hP (hA _) hS 0 rfl rfl 1 (by decide) (hts _ k576) (fun _ h9 => h9) rfl (by decide +kernel) rfl rfl (Nat.le_of_ble_eq_true rfl) dRM_advert_32 (fun H locs hP _ hS => ?_)
  have hP : va_P D vwCl (wR cI cZ a ((rI, fRM_wrong rO q, rN), (rO, rG), (rW, rH, rF, rT), (rM, rB, rX), (rQ, rA), (rE, rD))) H := hP
  refine lv_aload_n hx hb dRM_advert_35 rfl (lv_at hl 0 rfl) ?_
  refine va_get (D := D) (ci := 5) (v := .int (fRM_wrong rO q)) (C := RRM) (T := TRM) (N := 16) hx hb hts inRM hown hK hP 0 rfl rfl 1 (by decide) (hts _ k576) (fun _ h9 => h9) rfl dRM_advert_36 ?_
  refine lv_if_le (tgt := 44) hx hb dRM_advert_39 (by decide) (fun c3 => absurd c3 (by rw [wrong_off hoff]; decide)) (fun c3 => ?_)
  refine lv_iconst (v := 0) hx hb dRM_advert_42 (by decide) ?_
  exact g_iret (v := ((rI, fRM_wrong rO q, rN), (rO, rG), (rW, rH, rF, rT), (rM, rB, rX), (rQ, rA), (rE, rD))) hx hb hr hK hP hS ⟨rfl, rfl⟩ hlocks dRM_advert_43
set_option maxHeartbeats 4000000 in
set_option maxRecDepth 100000 in
theorem c_RM_thanks_badA (l : Launch) {D : va_G} {cI cZ : ClassId} {a : Nat → Nat} {A : Nat → Prop} (hA : ∀ v : RS, va_D A (wR cI cZ a v)) (rI : Nat) (rC rN : Int32) (rO rG : Nat → Bool) (rW rH : Nat → Int32) (rF : Nat → Bool) (rT : Nat → Int32) (rM rB : Nat → Int32) (rX : Int32) (rQ : Nat) (rA : Nat → Int32) (rE : Nat → Int32) (rD : Int64) (x : Int32) (y : Int32) (z : Int32) (x4 : Int32) (hbad : fRM_in z 0 63 = true → fRM_in x4 1 1000000000 = true → False) : Met l yRM_thanks wsRM_thanks ({ frames := 1, cells := 0, slots := 0, locals := 22 }) (va_Pc [.ref (a 0), .int x, .int y, .int z, .int x4] (gG D (tyR cI cZ) (wR cI cZ a) ((rI, rC, rN), (rO, rG), (rW, rH, rF, rT), (rM, rB, rX), (rQ, rA), (rE, rD)))) (va_Qi (fun (r : Int32) (u : RS) => r = bi false ∧ u = ((rI, 1, rN), (rO, rG), (rW, rH, rF, rT), (rM, rB, rX), (rQ, rA), (rE, rD))) (gG D (tyR cI cZ) (wR cI cZ a)) A) 0 0 A := by
  refine g_enter (by decide) rfl (Nat.le_of_ble_eq_true rfl) ?_
  intro p e s m below meth c ls F hK hP hl
  obtain ⟨hx, hb, hr, hml, hown, hts, hlocks⟩ := id F
  have hS : va_S A s.heap s.heap [] := va_S.rf
  have hl : lv_has ls 7 [(0, .ref (a 0)), (1, .int x), (2, .int y), (3, .int z), (4, .int x4)] := hl
  refine lv_aload_n hx hb dRM_thanks_0 rfl (lv_at hl 0 rfl) ?_
  refine lv_iload_n hx hb dRM_thanks_1 rfl (lv_at hl 3 rfl) ?_
  refine lv_iconst (v := 0) hx hb dRM_thanks_2 (by decide) ?_
  refine lv_bipush (v := 63) hx hb dRM_thanks_3 (by decide) ?_
  refine g_roSi (As := [.int z, .int 0, .int 63]) (rest := [.ref (a 0)]) ⟨hx, hb, hml, hown, hts⟩ (c_RM_in l rI rC rN rO rG rW rH rF rT rM rB rX rQ rA rE rD z 0 63) (cw_S 3 hts k633 k634 k32 k635 rfl rfl rfl (by decide +kernel) ⟨Nat.le_of_ble_eq_true rfl, Nat.le_of_ble_eq_true rfl⟩) hK hP rfl hl.1 rfl (Nat.le_of_ble_eq_true rfl) dRM_thanks_5 ⟨Nat.zero_le _, Nat.zero_le _⟩ ?_
  refine lv_if_eqb (tgt := 22) hx hb dRM_thanks_8 (by decide) (fun c1 => ?_) (fun c1 => ?_)
  · refine lv_iconst (v := 1) hx hb dRM_thanks_22 (by decide) ?_
    refine lv_goto (tgt := 32) hx hb dRM_thanks_23 (by decide) ?_
    refine va_put (D := D) (ci := 5) (v := .int 1) (ty := .int) (C := RRM) (T := TRM) (N := 16) hx hb hts inRM tyRM tyRM_ok nmRM hown hK hP (hA _) hS 0 rfl rfl 1 (by decide) (hts _ k576) (fun _ h9 => h9) rfl (by decide +kernel) rfl rfl (Nat.le_of_ble_eq_true rfl) dRM_thanks_32 (fun H locs hP _ hS => ?_)
    have hP : va_P D vwCl (wR cI cZ a ((rI, 1, rN), (rO, rG), (rW, rH, rF, rT), (rM, rB, rX), (rQ, rA), (rE, rD))) H := hP
    refine lv_aload_n hx hb dRM_thanks_35 rfl (lv_at hl 0 rfl) ?_
    refine va_get (D := D) (ci := 5) (v := .int 1) (C := RRM) (T := TRM) (N := 16) hx hb hts inRM hown hK hP 0 rfl rfl 1 (by decide) (hts _ k576) (fun _ h9 => h9) rfl dRM_thanks_36 ?_
    refine lv_if_le (tgt := 46) hx hb dRM_thanks_39 (by decide) (fun c0 => absurd c0 (by decide)) (fun _ => ?_)
    refine lv_iconst (v := (-1)) hx hb dRM_thanks_42 (by decide) ?_
    refine lv_goto (tgt := 52) hx hb dRM_thanks_43 (by decide) ?_
    refine lv_istore (lv' := [(5, .int (-1)), (0, .ref (a 0)), (1, .int x), (2, .int y), (3, .int z), (4, .int x4)]) hx hb dRM_thanks_52 hl (by decide) rfl (fun ls hl => ?_)
    refine lv_iload hx hb dRM_thanks_54 (lv_at hl 0 rfl) ?_
    refine lv_if_lt (tgt := 70) hx hb dRM_thanks_56 (by decide) (fun _ => ?_) (fun c0 => absurd (by decide) c0)
    refine lv_iconst (v := bi false) hx hb dRM_thanks_70 (by decide) ?_
    exact g_zret (v := ((rI, 1, rN), (rO, rG), (rW, rH, rF, rT), (rM, rB, rX), (rQ, rA), (rE, rD))) hx hb hr hK hP hS ⟨rfl, rfl⟩ hlocks dRM_thanks_71
  · refine lv_iload hx hb dRM_thanks_11 (lv_at hl 4 rfl) ?_
    refine lv_iconst (v := 1) hx hb dRM_thanks_13 (by decide) ?_
    refine lv_ldc (v := 1000000000) hx hb hown (hts _ k660) dRM_thanks_14 ?_
    refine g_roSi (As := [.int x4, .int 1, .int 1000000000]) (rest := [.ref (a 0)]) ⟨hx, hb, hml, hown, hts⟩ (c_RM_in l rI rC rN rO rG rW rH rF rT rM rB rX rQ rA rE rD x4 1 1000000000) (cw_S 3 hts k633 k634 k32 k635 rfl rfl rfl (by decide +kernel) ⟨Nat.le_of_ble_eq_true rfl, Nat.le_of_ble_eq_true rfl⟩) hK hP rfl hl.1 rfl (Nat.le_of_ble_eq_true rfl) dRM_thanks_16 ⟨Nat.zero_le _, Nat.zero_le _⟩ ?_
    refine lv_if_neb (tgt := 26) hx hb dRM_thanks_19 (by decide) (fun c4 => (hbad c1 c4).elim) (fun c4 => ?_)
    refine lv_iconst (v := 1) hx hb dRM_thanks_22 (by decide) ?_
    refine lv_goto (tgt := 32) hx hb dRM_thanks_23 (by decide) ?_
    refine va_put (D := D) (ci := 5) (v := .int 1) (ty := .int) (C := RRM) (T := TRM) (N := 16) hx hb hts inRM tyRM tyRM_ok nmRM hown hK hP (hA _) hS 0 rfl rfl 1 (by decide) (hts _ k576) (fun _ h9 => h9) rfl (by decide +kernel) rfl rfl (Nat.le_of_ble_eq_true rfl) dRM_thanks_32 (fun H locs hP _ hS => ?_)
    have hP : va_P D vwCl (wR cI cZ a ((rI, 1, rN), (rO, rG), (rW, rH, rF, rT), (rM, rB, rX), (rQ, rA), (rE, rD))) H := hP
    refine lv_aload_n hx hb dRM_thanks_35 rfl (lv_at hl 0 rfl) ?_
    refine va_get (D := D) (ci := 5) (v := .int 1) (C := RRM) (T := TRM) (N := 16) hx hb hts inRM hown hK hP 0 rfl rfl 1 (by decide) (hts _ k576) (fun _ h9 => h9) rfl dRM_thanks_36 ?_
    refine lv_if_le (tgt := 46) hx hb dRM_thanks_39 (by decide) (fun c0 => absurd c0 (by decide)) (fun _ => ?_)
    refine lv_iconst (v := (-1)) hx hb dRM_thanks_42 (by decide) ?_
    refine lv_goto (tgt := 52) hx hb dRM_thanks_43 (by decide) ?_
    refine lv_istore (lv' := [(5, .int (-1)), (0, .ref (a 0)), (1, .int x), (2, .int y), (3, .int z), (4, .int x4)]) hx hb dRM_thanks_52 hl (by decide) rfl (fun ls hl => ?_)
    refine lv_iload hx hb dRM_thanks_54 (lv_at hl 0 rfl) ?_
    refine lv_if_lt (tgt := 70) hx hb dRM_thanks_56 (by decide) (fun _ => ?_) (fun c0 => absurd (by decide) c0)
    refine lv_iconst (v := bi false) hx hb dRM_thanks_70 (by decide) ?_
    exact g_zret (v := ((rI, 1, rN), (rO, rG), (rW, rH, rF, rT), (rM, rB, rX), (rQ, rA), (rE, rD))) hx hb hr hK hP hS ⟨rfl, rfl⟩ hlocks dRM_thanks_71
set_option maxHeartbeats 4000000 in
set_option maxRecDepth 100000 in
theorem c_RM_thanks_badB (l : Launch) {D : va_G} {cI cZ : ClassId} {a : Nat → Nat} {A : Nat → Prop} (hA : ∀ v : RS, va_D A (wR cI cZ a v)) (rI : Nat) (rC rN : Int32) (rO rG : Nat → Bool) (rW rH : Nat → Int32) (rF : Nat → Bool) (rT : Nat → Int32) (rM rB : Nat → Int32) (rX : Int32) (rQ : Nat) (rA : Nat → Int32) (rE : Nat → Int32) (rD : Int64) (x : Int32) (y : Int32) (g : Nat) (x4 : Int32) (hg : g < 64) (h1 : ¬ x4 < 1) (h2 : x4 ≤ 1000000000) (hbad : fRM_in x 0 7 = true → fRM_in y 0 63 = true → ¬ y = nI rI → False) : Met l yRM_thanks wsRM_thanks ({ frames := 2, cells := 0, slots := 0, locals := 44 }) (va_Pc [.ref (a 0), .int x, .int y, .int (nI g), .int x4] (gG D (tyR cI cZ) (wR cI cZ a) ((rI, rC, rN), (rO, rG), (rW, rH, rF, rT), (rM, rB, rX), (rQ, rA), (rE, rD)))) (va_Qi (fun (r : Int32) (u : RS) => r = bi false ∧ u = ((rI, 1, rN), (rO, rG), (rW, rH, rF, rT), (rM, rB, rX), (rQ, rA), (rE, rD))) (gG D (tyR cI cZ) (wR cI cZ a)) A) 0 0 A := by
  refine g_enter (by decide) rfl (Nat.le_of_ble_eq_true rfl) ?_
  intro p e s m below meth c ls F hK hP hl
  obtain ⟨hx, hb, hr, hml, hown, hts, hlocks⟩ := id F
  have hS : va_S A s.heap s.heap [] := va_S.rf
  have hl : lv_has ls 7 [(0, .ref (a 0)), (1, .int x), (2, .int y), (3, .int (nI g)), (4, .int x4)] := hl
  refine lv_aload_n hx hb dRM_thanks_0 rfl (lv_at hl 0 rfl) ?_
  refine lv_iload_n hx hb dRM_thanks_1 rfl (lv_at hl 3 rfl) ?_
  refine lv_iconst (v := 0) hx hb dRM_thanks_2 (by decide) ?_
  refine lv_bipush (v := 63) hx hb dRM_thanks_3 (by decide) ?_
  refine g_roSi (As := [.int (nI g), .int 0, .int 63]) (rest := [.ref (a 0)]) ⟨hx, hb, hml, hown, hts⟩ (c_RM_in l rI rC rN rO rG rW rH rF rT rM rB rX rQ rA rE rD (nI g) 0 63) (cw_S 3 hts k633 k634 k32 k635 rfl rfl rfl (by decide +kernel) ⟨Nat.le_of_ble_eq_true rfl, Nat.le_of_ble_eq_true rfl⟩) hK hP rfl hl.1 rfl (Nat.le_of_ble_eq_true rfl) dRM_thanks_5 ⟨Nat.zero_le _, Nat.zero_le _⟩ ?_
  refine lv_if_eqb (tgt := 22) hx hb dRM_thanks_8 (by decide) (fun c1 => absurd (c1.symm.trans (in_K (b := 63) (by omega) (by decide))) (by decide)) (fun c1 => ?_)
  refine lv_iload hx hb dRM_thanks_11 (lv_at hl 4 rfl) ?_
  refine lv_iconst (v := 1) hx hb dRM_thanks_13 (by decide) ?_
  refine lv_ldc (v := 1000000000) hx hb hown (hts _ k660) dRM_thanks_14 ?_
  refine g_roSi (As := [.int x4, .int 1, .int 1000000000]) (rest := [.ref (a 0)]) ⟨hx, hb, hml, hown, hts⟩ (c_RM_in l rI rC rN rO rG rW rH rF rT rM rB rX rQ rA rE rD x4 1 1000000000) (cw_S 3 hts k633 k634 k32 k635 rfl rfl rfl (by decide +kernel) ⟨Nat.le_of_ble_eq_true rfl, Nat.le_of_ble_eq_true rfl⟩) hK hP rfl hl.1 rfl (Nat.le_of_ble_eq_true rfl) dRM_thanks_16 ⟨Nat.zero_le _, Nat.zero_le _⟩ ?_
  refine lv_if_neb (tgt := 26) hx hb dRM_thanks_19 (by decide) (fun c2 => ?_) (fun c2 => absurd (c2.symm.trans (in_ok h1 h2)) (by decide))
  refine lv_aload_n hx hb dRM_thanks_26 rfl (lv_at hl 0 rfl) ?_
  refine lv_iload_n hx hb dRM_thanks_27 rfl (lv_at hl 1 rfl) ?_
  refine lv_iload_n hx hb dRM_thanks_28 rfl (lv_at hl 2 rfl) ?_
  refine g_roVi (As := [.int x, .int y]) (rest := [.ref (a 0)]) ⟨hx, hb, hml, hown, hts⟩ (c_RM_wrong_bad l rI rC rN rO rG rW rH rF rT rM rB rX rQ rA rE rD x y (by first | omega | assumption)) (cwV 2 hts (gw_V k648 k650 k19 k32 k651) rfl rfl rfl (by decide +kernel) ⟨Nat.le_of_ble_eq_true rfl, Nat.le_of_ble_eq_true rfl⟩) hK hP (va_recv hK hP (ci := 5) (q0 := 0) rfl rfl) rfl hl.1 rfl (Nat.le_of_ble_eq_true rfl) dRM_thanks_29 ⟨Nat.zero_le _, Nat.zero_le _⟩ ?_
  refine va_put (D := D) (ci := 5) (v := .int 1) (ty := .int) (C := RRM) (T := TRM) (N := 16) hx hb hts inRM tyRM tyRM_ok nmRM hown hK hP (hA _) hS 0 rfl rfl 1 (by decide) (hts _ k576) (fun _ h9 => h9) rfl (by decide +kernel) rfl rfl (Nat.le_of_ble_eq_true rfl) dRM_thanks_32 (fun H locs hP _ hS => ?_)
  have hP : va_P D vwCl (wR cI cZ a ((rI, 1, rN), (rO, rG), (rW, rH, rF, rT), (rM, rB, rX), (rQ, rA), (rE, rD))) H := hP
  refine lv_aload_n hx hb dRM_thanks_35 rfl (lv_at hl 0 rfl) ?_
  refine va_get (D := D) (ci := 5) (v := .int 1) (C := RRM) (T := TRM) (N := 16) hx hb hts inRM hown hK hP 0 rfl rfl 1 (by decide) (hts _ k576) (fun _ h9 => h9) rfl dRM_thanks_36 ?_
  refine lv_if_le (tgt := 46) hx hb dRM_thanks_39 (by decide) (fun c0 => absurd c0 (by decide)) (fun _ => ?_)
  refine lv_iconst (v := (-1)) hx hb dRM_thanks_42 (by decide) ?_
  refine lv_goto (tgt := 52) hx hb dRM_thanks_43 (by decide) ?_
  refine lv_istore (lv' := [(5, .int (-1)), (0, .ref (a 0)), (1, .int x), (2, .int y), (3, .int (nI g)), (4, .int x4)]) hx hb dRM_thanks_52 hl (by decide) rfl (fun ls hl => ?_)
  refine lv_iload hx hb dRM_thanks_54 (lv_at hl 0 rfl) ?_
  refine lv_if_lt (tgt := 70) hx hb dRM_thanks_56 (by decide) (fun _ => ?_) (fun c0 => absurd (by decide) c0)
  refine lv_iconst (v := bi false) hx hb dRM_thanks_70 (by decide) ?_
  exact g_zret (v := ((rI, 1, rN), (rO, rG), (rW, rH, rF, rT), (rM, rB, rX), (rQ, rA), (rE, rD))) hx hb hr hK hP hS ⟨rfl, rfl⟩ hlocks dRM_thanks_71
set_option maxHeartbeats 4000000 in
set_option maxRecDepth 100000 in
theorem c_RM_thanks_off (l : Launch) {D : va_G} {cI cZ : ClassId} {a : Nat → Nat} {A : Nat → Prop} (hA : ∀ v : RS, va_D A (wR cI cZ a v)) (rI : Nat) (rC rN : Int32) (rO rG : Nat → Bool) (rW rH : Nat → Int32) (rF : Nat → Bool) (rT : Nat → Int32) (rM rB : Nat → Int32) (rX : Int32) (rQ : Nat) (rA : Nat → Int32) (rE : Nat → Int32) (rD : Int64) (q : Nat) (o : Nat) (g : Nat) (x4 : Int32) (hg : g < 64) (h1 : ¬ x4 < 1) (h2 : x4 ≤ 1000000000) (hq : q < 8) (ho : o < 64) (hI : rI < 64) (hne : ¬ o = rI) (hoff : rO q = false) : Met l yRM_thanks wsRM_thanks ({ frames := 2, cells := 0, slots := 0, locals := 44 }) (va_Pc [.ref (a 0), .int (nI q), .int (nI o), .int (nI g), .int x4] (gG D (tyR cI cZ) (wR cI cZ a) ((rI, rC, rN), (rO, rG), (rW, rH, rF, rT), (rM, rB, rX), (rQ, rA), (rE, rD)))) (va_Qi (fun (r : Int32) (u : RS) => r = bi false ∧ u = ((rI, fRM_wrong rO q, rN), (rO, rG), (rW, rH, rF, rT), (rM, rB, rX), (rQ, rA), (rE, rD))) (gG D (tyR cI cZ) (wR cI cZ a)) A) 0 0 A := by
  refine g_enter (by decide) rfl (Nat.le_of_ble_eq_true rfl) ?_
  intro p e s m below meth c ls F hK hP hl
  obtain ⟨hx, hb, hr, hml, hown, hts, hlocks⟩ := id F
  have hS : va_S A s.heap s.heap [] := va_S.rf
  have hl : lv_has ls 7 [(0, .ref (a 0)), (1, .int (nI q)), (2, .int (nI o)), (3, .int (nI g)), (4, .int x4)] := hl
  refine lv_aload_n hx hb dRM_thanks_0 rfl (lv_at hl 0 rfl) ?_
  refine lv_iload_n hx hb dRM_thanks_1 rfl (lv_at hl 3 rfl) ?_
  refine lv_iconst (v := 0) hx hb dRM_thanks_2 (by decide) ?_
  refine lv_bipush (v := 63) hx hb dRM_thanks_3 (by decide) ?_
  refine g_roSi (As := [.int (nI g), .int 0, .int 63]) (rest := [.ref (a 0)]) ⟨hx, hb, hml, hown, hts⟩ (c_RM_in l rI rC rN rO rG rW rH rF rT rM rB rX rQ rA rE rD (nI g) 0 63) (cw_S 3 hts k633 k634 k32 k635 rfl rfl rfl (by decide +kernel) ⟨Nat.le_of_ble_eq_true rfl, Nat.le_of_ble_eq_true rfl⟩) hK hP rfl hl.1 rfl (Nat.le_of_ble_eq_true rfl) dRM_thanks_5 ⟨Nat.zero_le _, Nat.zero_le _⟩ ?_
  refine lv_if_eqb (tgt := 22) hx hb dRM_thanks_8 (by decide) (fun c1 => absurd (c1.symm.trans (in_K (b := 63) (by omega) (by decide))) (by decide)) (fun c1 => ?_)
  refine lv_iload hx hb dRM_thanks_11 (lv_at hl 4 rfl) ?_
  refine lv_iconst (v := 1) hx hb dRM_thanks_13 (by decide) ?_
  refine lv_ldc (v := 1000000000) hx hb hown (hts _ k660) dRM_thanks_14 ?_
  refine g_roSi (As := [.int x4, .int 1, .int 1000000000]) (rest := [.ref (a 0)]) ⟨hx, hb, hml, hown, hts⟩ (c_RM_in l rI rC rN rO rG rW rH rF rT rM rB rX rQ rA rE rD x4 1 1000000000) (cw_S 3 hts k633 k634 k32 k635 rfl rfl rfl (by decide +kernel) ⟨Nat.le_of_ble_eq_true rfl, Nat.le_of_ble_eq_true rfl⟩) hK hP rfl hl.1 rfl (Nat.le_of_ble_eq_true rfl) dRM_thanks_16 ⟨Nat.zero_le _, Nat.zero_le _⟩ ?_
  refine lv_if_neb (tgt := 26) hx hb dRM_thanks_19 (by decide) (fun c2 => ?_) (fun c2 => absurd (c2.symm.trans (in_ok h1 h2)) (by decide))
  refine lv_aload_n hx hb dRM_thanks_26 rfl (lv_at hl 0 rfl) ?_
  refine lv_iload_n hx hb dRM_thanks_27 rfl (lv_at hl 1 rfl) ?_
  refine lv_iload_n hx hb dRM_thanks_28 rfl (lv_at hl 2 rfl) ?_
  refine g_roVi (As := [.int (nI q), .int (nI o)]) (rest := [.ref (a 0)]) ⟨hx, hb, hml, hown, hts⟩ (c_RM_wrong l rI rC rN rO rG rW rH rF rT rM rB rX rQ rA rE rD q o (by first | omega | assumption) (by first | omega | assumption) (by first | omega | assumption) (by first | omega | assumption)) (cwV 2 hts (gw_V k648 k650 k19 k32 k651) rfl rfl rfl (by decide +kernel) ⟨Nat.le_of_ble_eq_true rfl, Nat.le_of_ble_eq_true rfl⟩) hK hP (va_recv hK hP (ci := 5) (q0 := 0) rfl rfl) rfl hl.1 rfl (Nat.le_of_ble_eq_true rfl) dRM_thanks_29 ⟨Nat.zero_le _, Nat.zero_le _⟩ ?_
  refine va_put (D := D) (ci := 5) (v := .int (fRM_wrong rO q)) (ty := .int) (C := RRM) (T := TRM) (N := 16) hx hb hts inRM tyRM tyRM_ok nmRM hown hK hP (hA _) hS 0 rfl rfl 1 (by decide) (hts _ k576) (fun _ h9 => h9) rfl (by decide +kernel) rfl rfl (Nat.le_of_ble_eq_true rfl) dRM_thanks_32 (fun H locs hP _ hS => ?_)
  have hP : va_P D vwCl (wR cI cZ a ((rI, fRM_wrong rO q, rN), (rO, rG), (rW, rH, rF, rT), (rM, rB, rX), (rQ, rA), (rE, rD))) H := hP
  refine lv_aload_n hx hb dRM_thanks_35 rfl (lv_at hl 0 rfl) ?_
  refine va_get (D := D) (ci := 5) (v := .int (fRM_wrong rO q)) (C := RRM) (T := TRM) (N := 16) hx hb hts inRM hown hK hP 0 rfl rfl 1 (by decide) (hts _ k576) (fun _ h9 => h9) rfl dRM_thanks_36 ?_
  refine lv_if_le (tgt := 46) hx hb dRM_thanks_39 (by decide) (fun c3 => absurd c3 (by rw [wrong_off hoff]; decide)) (fun c3 => ?_)
  refine lv_iconst (v := (-1)) hx hb dRM_thanks_42 (by decide) ?_
  refine lv_goto (tgt := 52) hx hb dRM_thanks_43 (by decide) ?_
  refine lv_istore (lv' := [(5, .int (-1)), (0, .ref (a 0)), (1, .int (nI q)), (2, .int (nI o)), (3, .int (nI g)), (4, .int x4)]) hx hb dRM_thanks_52 hl (by decide) rfl (fun ls hl => ?_)
  refine lv_iload hx hb dRM_thanks_54 (lv_at hl 0 rfl) ?_
  refine lv_if_lt (tgt := 70) hx hb dRM_thanks_56 (by decide) (fun _ => ?_) (fun c0 => absurd (by decide) c0)
  refine lv_iconst (v := bi false) hx hb dRM_thanks_70 (by decide) ?_
  exact g_zret (v := ((rI, fRM_wrong rO q, rN), (rO, rG), (rW, rH, rF, rT), (rM, rB, rX), (rQ, rA), (rE, rD))) hx hb hr hK hP hS ⟨rfl, rfl⟩ hlocks dRM_thanks_71
set_option maxHeartbeats 4000000 in
set_option maxRecDepth 100000 in
theorem c_RM_forget_bad (l : Launch) {D : va_G} {cI cZ : ClassId} {a : Nat → Nat} {A : Nat → Prop} (hA : ∀ v : RS, va_D A (wR cI cZ a v)) (rI : Nat) (rC rN : Int32) (rO rG : Nat → Bool) (rW rH : Nat → Int32) (rF : Nat → Bool) (rT : Nat → Int32) (rM rB : Nat → Int32) (rX : Int32) (rQ : Nat) (rA : Nat → Int32) (rE : Nat → Int32) (rD : Int64) (x : Int32) (hb0 : fRM_in x 0 63 = false) : Met l yRM_forget wsRM_forget ({ frames := 1, cells := 0, slots := 0, locals := 22 }) (va_Pc [.ref (a 0), .int x] (gG D (tyR cI cZ) (wR cI cZ a) ((rI, rC, rN), (rO, rG), (rW, rH, rF, rT), (rM, rB, rX), (rQ, rA), (rE, rD)))) (va_Qi (fun (r : Int32) (u : RS) => r = bi false ∧ u = ((rI, 1, rN), (rO, rG), (rW, rH, rF, rT), (rM, rB, rX), (rQ, rA), (rE, rD))) (gG D (tyR cI cZ) (wR cI cZ a)) A) 0 0 A := by
  refine g_enter (by decide) rfl (Nat.le_of_ble_eq_true rfl) ?_
  intro p e s m below meth c ls F hK hP hl
  obtain ⟨hx, hb, hr, hml, hown, hts, hlocks⟩ := id F
  have hS : va_S A s.heap s.heap [] := va_S.rf
  have hl : lv_has ls 4 [(0, .ref (a 0)), (1, .int x)] := hl
  refine lv_aload_n hx hb dRM_forget_0 rfl (lv_at hl 0 rfl) ?_
  refine lv_iload_n hx hb dRM_forget_1 rfl (lv_at hl 1 rfl) ?_
  refine lv_iconst (v := 0) hx hb dRM_forget_2 (by decide) ?_
  refine lv_bipush (v := 63) hx hb dRM_forget_3 (by decide) ?_
  refine g_roSi (As := [.int x, .int 0, .int 63]) (rest := [.ref (a 0)]) ⟨hx, hb, hml, hown, hts⟩ (c_RM_in l rI rC rN rO rG rW rH rF rT rM rB rX rQ rA rE rD x 0 63) (cw_S 3 hts k633 k634 k32 k635 rfl rfl rfl (by decide +kernel) ⟨Nat.le_of_ble_eq_true rfl, Nat.le_of_ble_eq_true rfl⟩) hK hP rfl hl.1 rfl (Nat.le_of_ble_eq_true rfl) dRM_forget_5 ⟨Nat.zero_le _, Nat.zero_le _⟩ ?_
  refine lv_if_eqb (tgt := 15) hx hb dRM_forget_8 (by decide) (fun c1 => ?_) (fun c1 => absurd (c1.symm.trans hb0) (by decide))
  refine lv_iconst (v := 1) hx hb dRM_forget_15 (by decide) ?_
  refine va_put (D := D) (ci := 5) (v := .int 1) (ty := .int) (C := RRM) (T := TRM) (N := 16) hx hb hts inRM tyRM tyRM_ok nmRM hown hK hP (hA _) hS 0 rfl rfl 1 (by decide) (hts _ k576) (fun _ h9 => h9) rfl (by decide +kernel) rfl rfl (Nat.le_of_ble_eq_true rfl) dRM_forget_16 (fun H locs hP _ hS => ?_)
  have hP : va_P D vwCl (wR cI cZ a ((rI, 1, rN), (rO, rG), (rW, rH, rF, rT), (rM, rB, rX), (rQ, rA), (rE, rD))) H := hP
  refine lv_aload_n hx hb dRM_forget_19 rfl (lv_at hl 0 rfl) ?_
  refine va_get (D := D) (ci := 5) (v := .int 1) (C := RRM) (T := TRM) (N := 16) hx hb hts inRM hown hK hP 0 rfl rfl 1 (by decide) (hts _ k576) (fun _ h9 => h9) rfl dRM_forget_20 ?_
  refine lv_if_le (tgt := 28) hx hb dRM_forget_23 (by decide) (fun c0 => absurd c0 (by decide)) (fun _ => ?_)
  refine lv_iconst (v := bi false) hx hb dRM_forget_26 (by decide) ?_
  exact g_zret (v := ((rI, 1, rN), (rO, rG), (rW, rH, rF, rT), (rM, rB, rX), (rQ, rA), (rE, rD))) hx hb hr hK hP hS ⟨rfl, rfl⟩ hlocks dRM_forget_27
set_option maxHeartbeats 4000000 in
set_option maxRecDepth 100000 in
theorem c_RM_run_bad (l : Launch) {D : va_G} {cI cZ : ClassId} {a : Nat → Nat} {A : Nat → Prop} (hA : ∀ v : RS, va_D A (wR cI cZ a v)) (rI : Nat) (rC rN : Int32) (rO rG : Nat → Bool) (rW rH : Nat → Int32) (rF : Nat → Bool) (rT : Nat → Int32) (rM rB : Nat → Int32) (rX : Int32) (rQ : Nat) (rA : Nat → Int32) (rE : Nat → Int32) (rD : Int64) (x : Int32) (hb0 : fRM_in x 1 2000 = false) : Met l yRM_run wsRM_run ({ frames := 1, cells := 0, slots := 0, locals := 22 }) (va_Pc [.ref (a 0), .int x] (gG D (tyR cI cZ) (wR cI cZ a) ((rI, rC, rN), (rO, rG), (rW, rH, rF, rT), (rM, rB, rX), (rQ, rA), (rE, rD)))) (va_Qi (fun (r : Int32) (u : RS) => r = 0 ∧ u = ((rI, 1, rN), (rO, rG), (rW, rH, rF, rT), (rM, rB, rX), (rQ, rA), (rE, rD))) (gG D (tyR cI cZ) (wR cI cZ a)) A) 0 0 A := by
  refine g_enter (by decide) rfl (Nat.le_of_ble_eq_true rfl) ?_
  intro p e s m below meth c ls F hK hP hl
  obtain ⟨hx, hb, hr, hml, hown, hts, hlocks⟩ := id F
  have hS : va_S A s.heap s.heap [] := va_S.rf
  have hl : lv_has ls 4 [(0, .ref (a 0)), (1, .int x)] := hl
  refine lv_aload_n hx hb dRM_run_0 rfl (lv_at hl 0 rfl) ?_
  refine lv_iload_n hx hb dRM_run_1 rfl (lv_at hl 1 rfl) ?_
  refine lv_iconst (v := 1) hx hb dRM_run_2 (by decide) ?_
  refine lv_sipush (v := 2000) hx hb dRM_run_3 (by decide) ?_
  refine g_roSi (As := [.int x, .int 1, .int 2000]) (rest := [.ref (a 0)]) ⟨hx, hb, hml, hown, hts⟩ (c_RM_in l rI rC rN rO rG rW rH rF rT rM rB rX rQ rA rE rD x 1 2000) (cw_S 3 hts k633 k634 k32 k635 rfl rfl rfl (by decide +kernel) ⟨Nat.le_of_ble_eq_true rfl, Nat.le_of_ble_eq_true rfl⟩) hK hP rfl hl.1 rfl (Nat.le_of_ble_eq_true rfl) dRM_run_6 ⟨Nat.zero_le _, Nat.zero_le _⟩ ?_
  refine lv_if_neb (tgt := 16) hx hb dRM_run_9 (by decide) (fun c1 => absurd (c1.symm.trans hb0) (by decide)) (fun c1 => ?_)
  refine lv_iconst (v := 1) hx hb dRM_run_12 (by decide) ?_
  refine lv_goto (tgt := 32) hx hb dRM_run_13 (by decide) ?_
  refine va_put (D := D) (ci := 5) (v := .int 1) (ty := .int) (C := RRM) (T := TRM) (N := 16) hx hb hts inRM tyRM tyRM_ok nmRM hown hK hP (hA _) hS 0 rfl rfl 1 (by decide) (hts _ k576) (fun _ h9 => h9) rfl (by decide +kernel) rfl rfl (Nat.le_of_ble_eq_true rfl) dRM_run_32 (fun H locs hP _ hS => ?_)
  have hP : va_P D vwCl (wR cI cZ a ((rI, 1, rN), (rO, rG), (rW, rH, rF, rT), (rM, rB, rX), (rQ, rA), (rE, rD))) H := hP
  refine lv_aload_n hx hb dRM_run_35 rfl (lv_at hl 0 rfl) ?_
  refine va_get (D := D) (ci := 5) (v := .int 1) (C := RRM) (T := TRM) (N := 16) hx hb hts inRM hown hK hP 0 rfl rfl 1 (by decide) (hts _ k576) (fun _ h9 => h9) rfl dRM_run_36 ?_
  refine lv_if_le (tgt := 44) hx hb dRM_run_39 (by decide) (fun c0 => absurd c0 (by decide)) (fun _ => ?_)
  refine lv_iconst (v := 0) hx hb dRM_run_42 (by decide) ?_
  exact g_iret (v := ((rI, 1, rN), (rO, rG), (rW, rH, rF, rT), (rM, rB, rX), (rQ, rA), (rE, rD))) hx hb hr hK hP hS ⟨rfl, rfl⟩ hlocks dRM_run_43
set_option maxHeartbeats 4000000 in
set_option maxRecDepth 100000 in
theorem c_RM_run_late (l : Launch) {D : va_G} {cI cZ : ClassId} {a : Nat → Nat} {A : Nat → Prop} (hA : ∀ v : RS, va_D A (wR cI cZ a v)) (rI : Nat) (rC rN : Int32) (rO rG : Nat → Bool) (rW rH : Nat → Int32) (rF : Nat → Bool) (rT : Nat → Int32) (rM rB : Nat → Int32) (rX : Int32) (rQ : Nat) (rA : Nat → Int32) (rE : Nat → Int32) (rD : Int64) (x : Int32) (hb1 : fRM_in x 1 2000 = true) (h3 : ¬ rN + x ≤ 1000000) : Met l yRM_run wsRM_run ({ frames := 1, cells := 0, slots := 0, locals := 22 }) (va_Pc [.ref (a 0), .int x] (gG D (tyR cI cZ) (wR cI cZ a) ((rI, rC, rN), (rO, rG), (rW, rH, rF, rT), (rM, rB, rX), (rQ, rA), (rE, rD)))) (va_Qi (fun (r : Int32) (u : RS) => r = 0 ∧ u = ((rI, 2, rN), (rO, rG), (rW, rH, rF, rT), (rM, rB, rX), (rQ, rA), (rE, rD))) (gG D (tyR cI cZ) (wR cI cZ a)) A) 0 0 A := by
  refine g_enter (by decide) rfl (Nat.le_of_ble_eq_true rfl) ?_
  intro p e s m below meth c ls F hK hP hl
  obtain ⟨hx, hb, hr, hml, hown, hts, hlocks⟩ := id F
  have hS : va_S A s.heap s.heap [] := va_S.rf
  have hl : lv_has ls 4 [(0, .ref (a 0)), (1, .int x)] := hl
  refine lv_aload_n hx hb dRM_run_0 rfl (lv_at hl 0 rfl) ?_
  refine lv_iload_n hx hb dRM_run_1 rfl (lv_at hl 1 rfl) ?_
  refine lv_iconst (v := 1) hx hb dRM_run_2 (by decide) ?_
  refine lv_sipush (v := 2000) hx hb dRM_run_3 (by decide) ?_
  refine g_roSi (As := [.int x, .int 1, .int 2000]) (rest := [.ref (a 0)]) ⟨hx, hb, hml, hown, hts⟩ (c_RM_in l rI rC rN rO rG rW rH rF rT rM rB rX rQ rA rE rD x 1 2000) (cw_S 3 hts k633 k634 k32 k635 rfl rfl rfl (by decide +kernel) ⟨Nat.le_of_ble_eq_true rfl, Nat.le_of_ble_eq_true rfl⟩) hK hP rfl hl.1 rfl (Nat.le_of_ble_eq_true rfl) dRM_run_6 ⟨Nat.zero_le _, Nat.zero_le _⟩ ?_
  refine lv_if_neb (tgt := 16) hx hb dRM_run_9 (by decide) (fun c1 => ?_) (fun c1 => absurd (c1.symm.trans hb1) (by decide))
  refine lv_aload_n hx hb dRM_run_16 rfl (lv_at hl 0 rfl) ?_
  refine va_get (D := D) (ci := 5) (v := .int rN) (C := RRM) (T := TRM) (N := 16) hx hb hts inRM hown hK hP 0 rfl rfl 2 (by decide) (hts _ k577) (fun _ h9 => h9) rfl dRM_run_17 ?_
  refine lv_iload_n hx hb dRM_run_20 rfl (lv_at hl 1 rfl) ?_
  refine lv_iadd hx hb dRM_run_21 ?_
  refine lv_ldc (v := 1000000) hx hb hown (hts _ k685) dRM_run_22 ?_
  refine lv_icmp_le (tgt := 31) hx hb dRM_run_24 (by decide) (fun c2 => absurd c2 h3) (fun c2 => ?_)
  refine lv_iconst (v := 2) hx hb dRM_run_27 (by decide) ?_
  refine lv_goto (tgt := 32) hx hb dRM_run_28 (by decide) ?_
  refine va_put (D := D) (ci := 5) (v := .int 2) (ty := .int) (C := RRM) (T := TRM) (N := 16) hx hb hts inRM tyRM tyRM_ok nmRM hown hK hP (hA _) hS 0 rfl rfl 1 (by decide) (hts _ k576) (fun _ h9 => h9) rfl (by decide +kernel) rfl rfl (Nat.le_of_ble_eq_true rfl) dRM_run_32 (fun H locs hP _ hS => ?_)
  have hP : va_P D vwCl (wR cI cZ a ((rI, 2, rN), (rO, rG), (rW, rH, rF, rT), (rM, rB, rX), (rQ, rA), (rE, rD))) H := hP
  refine lv_aload_n hx hb dRM_run_35 rfl (lv_at hl 0 rfl) ?_
  refine va_get (D := D) (ci := 5) (v := .int 2) (C := RRM) (T := TRM) (N := 16) hx hb hts inRM hown hK hP 0 rfl rfl 1 (by decide) (hts _ k576) (fun _ h9 => h9) rfl dRM_run_36 ?_
  refine lv_if_le (tgt := 44) hx hb dRM_run_39 (by decide) (fun c0 => absurd c0 (by decide)) (fun _ => ?_)
  refine lv_iconst (v := 0) hx hb dRM_run_42 (by decide) ?_
  exact g_iret (v := ((rI, 2, rN), (rO, rG), (rW, rH, rF, rT), (rM, rB, rX), (rQ, rA), (rE, rD))) hx hb hr hK hP hS ⟨rfl, rfl⟩ hlocks dRM_run_43
set_option maxHeartbeats 4000000 in
set_option maxRecDepth 100000 in
theorem c_RM_message_bad (l : Launch) {D : va_G} {cI cZ : ClassId} {a : Nat → Nat} {A : Nat → Prop} (hA : ∀ v : RS, va_D A (wR cI cZ a v)) (rI : Nat) (rC rN : Int32) (rO rG : Nat → Bool) (rW rH : Nat → Int32) (rF : Nat → Bool) (rT : Nat → Int32) (rM rB : Nat → Int32) (rX : Int32) (rQ : Nat) (rA : Nat → Int32) (rE : Nat → Int32) (rD : Int64) (x : Int32) (hb0 : fRM_in x 0 5 = false) : Met l yRM_message wsRM_message ({ frames := 1, cells := 0, slots := 0, locals := 22 }) (va_Pc [.ref (a 0), .int x] (gG D (tyR cI cZ) (wR cI cZ a) ((rI, rC, rN), (rO, rG), (rW, rH, rF, rT), (rM, rB, rX), (rQ, rA), (rE, rD)))) (va_Qi (fun (r : Int32) (u : RS) => r = 0 ∧ u = ((rI, 1, rN), (rO, rG), (rW, rH, rF, rT), (rM, rB, rX), (rQ, rA), (rE, rD))) (gG D (tyR cI cZ) (wR cI cZ a)) A) 0 0 A := by
  refine g_enter (by decide) rfl (Nat.le_of_ble_eq_true rfl) ?_
  intro p e s m below meth c ls F hK hP hl
  obtain ⟨hx, hb, hr, hml, hown, hts, hlocks⟩ := id F
  have hS : va_S A s.heap s.heap [] := va_S.rf
  have hl : lv_has ls 2 [(0, .ref (a 0)), (1, .int x)] := hl
  refine lv_aload_n hx hb dRM_message_0 rfl (lv_at hl 0 rfl) ?_
  refine lv_iload_n hx hb dRM_message_1 rfl (lv_at hl 1 rfl) ?_
  refine lv_iconst (v := 0) hx hb dRM_message_2 (by decide) ?_
  refine lv_iconst (v := 5) hx hb dRM_message_3 (by decide) ?_
  refine g_roSi (As := [.int x, .int 0, .int 5]) (rest := [.ref (a 0)]) ⟨hx, hb, hml, hown, hts⟩ (c_RM_in l rI rC rN rO rG rW rH rF rT rM rB rX rQ rA rE rD x 0 5) (cw_S 3 hts k633 k634 k32 k635 rfl rfl rfl (by decide +kernel) ⟨Nat.le_of_ble_eq_true rfl, Nat.le_of_ble_eq_true rfl⟩) hK hP rfl hl.1 rfl (Nat.le_of_ble_eq_true rfl) dRM_message_4 ⟨Nat.zero_le _, Nat.zero_le _⟩ ?_
  refine lv_if_neb (tgt := 14) hx hb dRM_message_7 (by decide) (fun c1 => absurd (c1.symm.trans hb0) (by decide)) (fun c1 => ?_)
  refine lv_iconst (v := 1) hx hb dRM_message_10 (by decide) ?_
  refine lv_goto (tgt := 28) hx hb dRM_message_11 (by decide) ?_
  refine va_put (D := D) (ci := 5) (v := .int 1) (ty := .int) (C := RRM) (T := TRM) (N := 16) hx hb hts inRM tyRM tyRM_ok nmRM hown hK hP (hA _) hS 0 rfl rfl 1 (by decide) (hts _ k576) (fun _ h9 => h9) rfl (by decide +kernel) rfl rfl (Nat.le_of_ble_eq_true rfl) dRM_message_28 (fun H locs hP _ hS => ?_)
  have hP : va_P D vwCl (wR cI cZ a ((rI, 1, rN), (rO, rG), (rW, rH, rF, rT), (rM, rB, rX), (rQ, rA), (rE, rD))) H := hP
  refine lv_aload_n hx hb dRM_message_31 rfl (lv_at hl 0 rfl) ?_
  refine va_get (D := D) (ci := 5) (v := .int 1) (C := RRM) (T := TRM) (N := 16) hx hb hts inRM hown hK hP 0 rfl rfl 1 (by decide) (hts _ k576) (fun _ h9 => h9) rfl dRM_message_32 ?_
  refine lv_if_le (tgt := 42) hx hb dRM_message_35 (by decide) (fun c0 => absurd c0 (by decide)) (fun _ => ?_)
  refine lv_iconst (v := 0) hx hb dRM_message_38 (by decide) ?_
  refine lv_goto (tgt := 48) hx hb dRM_message_39 (by decide) ?_
  exact g_iret (v := ((rI, 1, rN), (rO, rG), (rW, rH, rF, rT), (rM, rB, rX), (rQ, rA), (rE, rD))) hx hb hr hK hP hS ⟨rfl, rfl⟩ hlocks dRM_message_48
set_option maxHeartbeats 4000000 in
set_option maxRecDepth 100000 in
theorem c_RM_known_bad (l : Launch) {D : va_G} {cI cZ : ClassId} {a : Nat → Nat} {A : Nat → Prop} (hA : ∀ v : RS, va_D A (wR cI cZ a v)) (rI : Nat) (rC rN : Int32) (rO rG : Nat → Bool) (rW rH : Nat → Int32) (rF : Nat → Bool) (rT : Nat → Int32) (rM rB : Nat → Int32) (rX : Int32) (rQ : Nat) (rA : Nat → Int32) (rE : Nat → Int32) (rD : Int64) (x : Int32) (hb0 : fRM_in x 0 63 = false) : Met l yRM_known wsRM_known ({ frames := 1, cells := 0, slots := 0, locals := 22 }) (va_Pc [.ref (a 0), .int x] (gG D (tyR cI cZ) (wR cI cZ a) ((rI, rC, rN), (rO, rG), (rW, rH, rF, rT), (rM, rB, rX), (rQ, rA), (rE, rD)))) (va_Qi (fun (r : Int32) (u : RS) => r = 0 ∧ u = ((rI, 1, rN), (rO, rG), (rW, rH, rF, rT), (rM, rB, rX), (rQ, rA), (rE, rD))) (gG D (tyR cI cZ) (wR cI cZ a)) A) 0 0 A := by
  refine g_enter (by decide) rfl (Nat.le_of_ble_eq_true rfl) ?_
  intro p e s m below meth c ls F hK hP hl
  obtain ⟨hx, hb, hr, hml, hown, hts, hlocks⟩ := id F
  have hS : va_S A s.heap s.heap [] := va_S.rf
  have hl : lv_has ls 2 [(0, .ref (a 0)), (1, .int x)] := hl
  refine lv_aload_n hx hb dRM_known_0 rfl (lv_at hl 0 rfl) ?_
  refine lv_iload_n hx hb dRM_known_1 rfl (lv_at hl 1 rfl) ?_
  refine lv_iconst (v := 0) hx hb dRM_known_2 (by decide) ?_
  refine lv_bipush (v := 63) hx hb dRM_known_3 (by decide) ?_
  refine g_roSi (As := [.int x, .int 0, .int 63]) (rest := [.ref (a 0)]) ⟨hx, hb, hml, hown, hts⟩ (c_RM_in l rI rC rN rO rG rW rH rF rT rM rB rX rQ rA rE rD x 0 63) (cw_S 3 hts k633 k634 k32 k635 rfl rfl rfl (by decide +kernel) ⟨Nat.le_of_ble_eq_true rfl, Nat.le_of_ble_eq_true rfl⟩) hK hP rfl hl.1 rfl (Nat.le_of_ble_eq_true rfl) dRM_known_5 ⟨Nat.zero_le _, Nat.zero_le _⟩ ?_
  refine lv_if_eqb (tgt := 15) hx hb dRM_known_8 (by decide) (fun c1 => ?_) (fun c1 => absurd (c1.symm.trans hb0) (by decide))
  refine lv_iconst (v := 1) hx hb dRM_known_15 (by decide) ?_
  refine va_put (D := D) (ci := 5) (v := .int 1) (ty := .int) (C := RRM) (T := TRM) (N := 16) hx hb hts inRM tyRM tyRM_ok nmRM hown hK hP (hA _) hS 0 rfl rfl 1 (by decide) (hts _ k576) (fun _ h9 => h9) rfl (by decide +kernel) rfl rfl (Nat.le_of_ble_eq_true rfl) dRM_known_16 (fun H locs hP _ hS => ?_)
  have hP : va_P D vwCl (wR cI cZ a ((rI, 1, rN), (rO, rG), (rW, rH, rF, rT), (rM, rB, rX), (rQ, rA), (rE, rD))) H := hP
  refine lv_aload_n hx hb dRM_known_19 rfl (lv_at hl 0 rfl) ?_
  refine va_get (D := D) (ci := 5) (v := .int 1) (C := RRM) (T := TRM) (N := 16) hx hb hts inRM hown hK hP 0 rfl rfl 1 (by decide) (hts _ k576) (fun _ h9 => h9) rfl dRM_known_20 ?_
  refine lv_if_le (tgt := 30) hx hb dRM_known_23 (by decide) (fun c0 => absurd c0 (by decide)) (fun _ => ?_)
  refine lv_iconst (v := 0) hx hb dRM_known_26 (by decide) ?_
  refine lv_goto (tgt := 49) hx hb dRM_known_27 (by decide) ?_
  exact g_iret (v := ((rI, 1, rN), (rO, rG), (rW, rH, rF, rT), (rM, rB, rX), (rQ, rA), (rE, rD))) hx hb hr hK hP hS ⟨rfl, rfl⟩ hlocks dRM_known_49
set_option maxHeartbeats 4000000 in
set_option maxRecDepth 100000 in
theorem c_RM_body_bad (l : Launch) {D : va_G} {cI cZ : ClassId} {a : Nat → Nat} {A : Nat → Prop} (hA : ∀ v : RS, va_D A (wR cI cZ a v)) (rI : Nat) (rC rN : Int32) (rO rG : Nat → Bool) (rW rH : Nat → Int32) (rF : Nat → Bool) (rT : Nat → Int32) (rM rB : Nat → Int32) (rX : Int32) (rQ : Nat) (rA : Nat → Int32) (rE : Nat → Int32) (rD : Int64) (x : Int32) (hb0 : fRM_in x 0 63 = false) : Met l yRM_body wsRM_body ({ frames := 1, cells := 0, slots := 0, locals := 22 }) (va_Pc [.ref (a 0), .int x] (gG D (tyR cI cZ) (wR cI cZ a) ((rI, rC, rN), (rO, rG), (rW, rH, rF, rT), (rM, rB, rX), (rQ, rA), (rE, rD)))) (va_Qi (fun (r : Int32) (u : RS) => r = 0 ∧ u = ((rI, 1, rN), (rO, rG), (rW, rH, rF, rT), (rM, rB, rX), (rQ, rA), (rE, rD))) (gG D (tyR cI cZ) (wR cI cZ a)) A) 0 0 A := by
  refine g_enter (by decide) rfl (Nat.le_of_ble_eq_true rfl) ?_
  intro p e s m below meth c ls F hK hP hl
  obtain ⟨hx, hb, hr, hml, hown, hts, hlocks⟩ := id F
  have hS : va_S A s.heap s.heap [] := va_S.rf
  have hl : lv_has ls 2 [(0, .ref (a 0)), (1, .int x)] := hl
  refine lv_aload_n hx hb dRM_body_0 rfl (lv_at hl 0 rfl) ?_
  refine lv_iload_n hx hb dRM_body_1 rfl (lv_at hl 1 rfl) ?_
  refine lv_iconst (v := 0) hx hb dRM_body_2 (by decide) ?_
  refine lv_bipush (v := 63) hx hb dRM_body_3 (by decide) ?_
  refine g_roSi (As := [.int x, .int 0, .int 63]) (rest := [.ref (a 0)]) ⟨hx, hb, hml, hown, hts⟩ (c_RM_in l rI rC rN rO rG rW rH rF rT rM rB rX rQ rA rE rD x 0 63) (cw_S 3 hts k633 k634 k32 k635 rfl rfl rfl (by decide +kernel) ⟨Nat.le_of_ble_eq_true rfl, Nat.le_of_ble_eq_true rfl⟩) hK hP rfl hl.1 rfl (Nat.le_of_ble_eq_true rfl) dRM_body_5 ⟨Nat.zero_le _, Nat.zero_le _⟩ ?_
  refine lv_if_eqb (tgt := 15) hx hb dRM_body_8 (by decide) (fun c1 => ?_) (fun c1 => absurd (c1.symm.trans hb0) (by decide))
  refine lv_iconst (v := 1) hx hb dRM_body_15 (by decide) ?_
  refine va_put (D := D) (ci := 5) (v := .int 1) (ty := .int) (C := RRM) (T := TRM) (N := 16) hx hb hts inRM tyRM tyRM_ok nmRM hown hK hP (hA _) hS 0 rfl rfl 1 (by decide) (hts _ k576) (fun _ h9 => h9) rfl (by decide +kernel) rfl rfl (Nat.le_of_ble_eq_true rfl) dRM_body_16 (fun H locs hP _ hS => ?_)
  have hP : va_P D vwCl (wR cI cZ a ((rI, 1, rN), (rO, rG), (rW, rH, rF, rT), (rM, rB, rX), (rQ, rA), (rE, rD))) H := hP
  refine lv_aload_n hx hb dRM_body_19 rfl (lv_at hl 0 rfl) ?_
  refine va_get (D := D) (ci := 5) (v := .int 1) (C := RRM) (T := TRM) (N := 16) hx hb hts inRM hown hK hP 0 rfl rfl 1 (by decide) (hts _ k576) (fun _ h9 => h9) rfl dRM_body_20 ?_
  refine lv_if_le (tgt := 30) hx hb dRM_body_23 (by decide) (fun c0 => absurd c0 (by decide)) (fun _ => ?_)
  refine lv_iconst (v := 0) hx hb dRM_body_26 (by decide) ?_
  refine lv_goto (tgt := 36) hx hb dRM_body_27 (by decide) ?_
  exact g_iret (v := ((rI, 1, rN), (rO, rG), (rW, rH, rF, rT), (rM, rB, rX), (rQ, rA), (rE, rD))) hx hb hr hK hP hS ⟨rfl, rfl⟩ hlocks dRM_body_36
set_option maxHeartbeats 4000000 in
set_option maxRecDepth 100000 in
theorem c_RM_state_bad (l : Launch) {D : va_G} {cI cZ : ClassId} {a : Nat → Nat} {A : Nat → Prop} (hA : ∀ v : RS, va_D A (wR cI cZ a v)) (rI : Nat) (rC rN : Int32) (rO rG : Nat → Bool) (rW rH : Nat → Int32) (rF : Nat → Bool) (rT : Nat → Int32) (rM rB : Nat → Int32) (rX : Int32) (rQ : Nat) (rA : Nat → Int32) (rE : Nat → Int32) (rD : Int64) (x : Int32) (y : Int32) (hbad : fRM_in x 0 7 = true → fRM_in y 0 63 = true → False) : Met l yRM_state wsRM_state ({ frames := 1, cells := 0, slots := 0, locals := 22 }) (va_Pc [.ref (a 0), .int x, .int y] (gG D (tyR cI cZ) (wR cI cZ a) ((rI, rC, rN), (rO, rG), (rW, rH, rF, rT), (rM, rB, rX), (rQ, rA), (rE, rD)))) (va_Qi (fun (r : Int32) (u : RS) => r = 0 ∧ u = ((rI, 1, rN), (rO, rG), (rW, rH, rF, rT), (rM, rB, rX), (rQ, rA), (rE, rD))) (gG D (tyR cI cZ) (wR cI cZ a)) A) 0 0 A := by
  refine g_enter (by decide) rfl (Nat.le_of_ble_eq_true rfl) ?_
  intro p e s m below meth c ls F hK hP hl
  obtain ⟨hx, hb, hr, hml, hown, hts, hlocks⟩ := id F
  have hS : va_S A s.heap s.heap [] := va_S.rf
  have hl : lv_has ls 4 [(0, .ref (a 0)), (1, .int x), (2, .int y)] := hl
  refine lv_aload_n hx hb dRM_state_0 rfl (lv_at hl 0 rfl) ?_
  refine lv_iload_n hx hb dRM_state_1 rfl (lv_at hl 1 rfl) ?_
  refine lv_iconst (v := 0) hx hb dRM_state_2 (by decide) ?_
  refine lv_bipush (v := 7) hx hb dRM_state_3 (by decide) ?_
  refine g_roSi (As := [.int x, .int 0, .int 7]) (rest := [.ref (a 0)]) ⟨hx, hb, hml, hown, hts⟩ (c_RM_in l rI rC rN rO rG rW rH rF rT rM rB rX rQ rA rE rD x 0 7) (cw_S 3 hts k633 k634 k32 k635 rfl rfl rfl (by decide +kernel) ⟨Nat.le_of_ble_eq_true rfl, Nat.le_of_ble_eq_true rfl⟩) hK hP rfl hl.1 rfl (Nat.le_of_ble_eq_true rfl) dRM_state_5 ⟨Nat.zero_le _, Nat.zero_le _⟩ ?_
  refine lv_if_eqb (tgt := 25) hx hb dRM_state_8 (by decide) (fun c1 => ?_) (fun c1 => ?_)
  · refine lv_iconst (v := 1) hx hb dRM_state_25 (by decide) ?_
    refine va_put (D := D) (ci := 5) (v := .int 1) (ty := .int) (C := RRM) (T := TRM) (N := 16) hx hb hts inRM tyRM tyRM_ok nmRM hown hK hP (hA _) hS 0 rfl rfl 1 (by decide) (hts _ k576) (fun _ h9 => h9) rfl (by decide +kernel) rfl rfl (Nat.le_of_ble_eq_true rfl) dRM_state_26 (fun H locs hP _ hS => ?_)
    have hP : va_P D vwCl (wR cI cZ a ((rI, 1, rN), (rO, rG), (rW, rH, rF, rT), (rM, rB, rX), (rQ, rA), (rE, rD))) H := hP
    refine lv_aload_n hx hb dRM_state_29 rfl (lv_at hl 0 rfl) ?_
    refine va_get (D := D) (ci := 5) (v := .int 1) (C := RRM) (T := TRM) (N := 16) hx hb hts inRM hown hK hP 0 rfl rfl 1 (by decide) (hts _ k576) (fun _ h9 => h9) rfl dRM_state_30 ?_
    refine lv_if_le (tgt := 40) hx hb dRM_state_33 (by decide) (fun c0 => absurd c0 (by decide)) (fun _ => ?_)
    refine lv_iconst (v := (-1)) hx hb dRM_state_36 (by decide) ?_
    refine lv_goto (tgt := 46) hx hb dRM_state_37 (by decide) ?_
    refine lv_istore_n (lv' := [(3, .int (-1)), (0, .ref (a 0)), (1, .int x), (2, .int y)]) hx hb dRM_state_46 rfl hl (by decide) rfl (fun ls hl => ?_)
    refine lv_iload_n hx hb dRM_state_47 rfl (lv_at hl 0 rfl) ?_
    refine lv_if_ge (tgt := 55) hx hb dRM_state_48 (by decide) (fun c0 => absurd c0 (by decide)) (fun _ => ?_)
    refine lv_iconst (v := 0) hx hb dRM_state_51 (by decide) ?_
    refine lv_goto (tgt := 69) hx hb dRM_state_52 (by decide) ?_
    exact g_iret (v := ((rI, 1, rN), (rO, rG), (rW, rH, rF, rT), (rM, rB, rX), (rQ, rA), (rE, rD))) hx hb hr hK hP hS ⟨rfl, rfl⟩ hlocks dRM_state_69
  · refine lv_iload_n hx hb dRM_state_11 rfl (lv_at hl 2 rfl) ?_
    refine lv_iconst (v := 0) hx hb dRM_state_12 (by decide) ?_
    refine lv_bipush (v := 63) hx hb dRM_state_13 (by decide) ?_
    refine g_roSi (As := [.int y, .int 0, .int 63]) (rest := [.ref (a 0)]) ⟨hx, hb, hml, hown, hts⟩ (c_RM_in l rI rC rN rO rG rW rH rF rT rM rB rX rQ rA rE rD y 0 63) (cw_S 3 hts k633 k634 k32 k635 rfl rfl rfl (by decide +kernel) ⟨Nat.le_of_ble_eq_true rfl, Nat.le_of_ble_eq_true rfl⟩) hK hP rfl hl.1 rfl (Nat.le_of_ble_eq_true rfl) dRM_state_15 ⟨Nat.zero_le _, Nat.zero_le _⟩ ?_
    refine lv_if_eqb (tgt := 25) hx hb dRM_state_18 (by decide) (fun c4 => ?_) (fun c4 => (hbad c1 c4).elim)
    refine lv_iconst (v := 1) hx hb dRM_state_25 (by decide) ?_
    refine va_put (D := D) (ci := 5) (v := .int 1) (ty := .int) (C := RRM) (T := TRM) (N := 16) hx hb hts inRM tyRM tyRM_ok nmRM hown hK hP (hA _) hS 0 rfl rfl 1 (by decide) (hts _ k576) (fun _ h9 => h9) rfl (by decide +kernel) rfl rfl (Nat.le_of_ble_eq_true rfl) dRM_state_26 (fun H locs hP _ hS => ?_)
    have hP : va_P D vwCl (wR cI cZ a ((rI, 1, rN), (rO, rG), (rW, rH, rF, rT), (rM, rB, rX), (rQ, rA), (rE, rD))) H := hP
    refine lv_aload_n hx hb dRM_state_29 rfl (lv_at hl 0 rfl) ?_
    refine va_get (D := D) (ci := 5) (v := .int 1) (C := RRM) (T := TRM) (N := 16) hx hb hts inRM hown hK hP 0 rfl rfl 1 (by decide) (hts _ k576) (fun _ h9 => h9) rfl dRM_state_30 ?_
    refine lv_if_le (tgt := 40) hx hb dRM_state_33 (by decide) (fun c0 => absurd c0 (by decide)) (fun _ => ?_)
    refine lv_iconst (v := (-1)) hx hb dRM_state_36 (by decide) ?_
    refine lv_goto (tgt := 46) hx hb dRM_state_37 (by decide) ?_
    refine lv_istore_n (lv' := [(3, .int (-1)), (0, .ref (a 0)), (1, .int x), (2, .int y)]) hx hb dRM_state_46 rfl hl (by decide) rfl (fun ls hl => ?_)
    refine lv_iload_n hx hb dRM_state_47 rfl (lv_at hl 0 rfl) ?_
    refine lv_if_ge (tgt := 55) hx hb dRM_state_48 (by decide) (fun c0 => absurd c0 (by decide)) (fun _ => ?_)
    refine lv_iconst (v := 0) hx hb dRM_state_51 (by decide) ?_
    refine lv_goto (tgt := 69) hx hb dRM_state_52 (by decide) ?_
    exact g_iret (v := ((rI, 1, rN), (rO, rG), (rW, rH, rF, rT), (rM, rB, rX), (rQ, rA), (rE, rD))) hx hb hr hK hP hS ⟨rfl, rfl⟩ hlocks dRM_state_69
set_option maxHeartbeats 4000000 in
set_option maxRecDepth 100000 in
theorem c_RM_due_bad (l : Launch) {D : va_G} {cI cZ : ClassId} {a : Nat → Nat} {A : Nat → Prop} (hA : ∀ v : RS, va_D A (wR cI cZ a v)) (rI : Nat) (rC rN : Int32) (rO rG : Nat → Bool) (rW rH : Nat → Int32) (rF : Nat → Bool) (rT : Nat → Int32) (rM rB : Nat → Int32) (rX : Int32) (rQ : Nat) (rA : Nat → Int32) (rE : Nat → Int32) (rD : Int64) (x : Int32) (y : Int32) (hbad : fRM_in x 0 7 = true → fRM_in y 0 63 = true → False) : Met l yRM_due wsRM_due ({ frames := 1, cells := 0, slots := 0, locals := 22 }) (va_Pc [.ref (a 0), .int x, .int y] (gG D (tyR cI cZ) (wR cI cZ a) ((rI, rC, rN), (rO, rG), (rW, rH, rF, rT), (rM, rB, rX), (rQ, rA), (rE, rD)))) (va_Qi (fun (r : Int32) (u : RS) => r = 0 ∧ u = ((rI, 1, rN), (rO, rG), (rW, rH, rF, rT), (rM, rB, rX), (rQ, rA), (rE, rD))) (gG D (tyR cI cZ) (wR cI cZ a)) A) 0 0 A := by
  refine g_enter (by decide) rfl (Nat.le_of_ble_eq_true rfl) ?_
  intro p e s m below meth c ls F hK hP hl
  obtain ⟨hx, hb, hr, hml, hown, hts, hlocks⟩ := id F
  have hS : va_S A s.heap s.heap [] := va_S.rf
  have hl : lv_has ls 6 [(0, .ref (a 0)), (1, .int x), (2, .int y)] := hl
  refine lv_aload_n hx hb dRM_due_0 rfl (lv_at hl 0 rfl) ?_
  refine lv_iload_n hx hb dRM_due_1 rfl (lv_at hl 1 rfl) ?_
  refine lv_iconst (v := 0) hx hb dRM_due_2 (by decide) ?_
  refine lv_bipush (v := 7) hx hb dRM_due_3 (by decide) ?_
  refine g_roSi (As := [.int x, .int 0, .int 7]) (rest := [.ref (a 0)]) ⟨hx, hb, hml, hown, hts⟩ (c_RM_in l rI rC rN rO rG rW rH rF rT rM rB rX rQ rA rE rD x 0 7) (cw_S 3 hts k633 k634 k32 k635 rfl rfl rfl (by decide +kernel) ⟨Nat.le_of_ble_eq_true rfl, Nat.le_of_ble_eq_true rfl⟩) hK hP rfl hl.1 rfl (Nat.le_of_ble_eq_true rfl) dRM_due_5 ⟨Nat.zero_le _, Nat.zero_le _⟩ ?_
  refine lv_if_eqb (tgt := 25) hx hb dRM_due_8 (by decide) (fun c1 => ?_) (fun c1 => ?_)
  · refine lv_iconst (v := 1) hx hb dRM_due_25 (by decide) ?_
    refine va_put (D := D) (ci := 5) (v := .int 1) (ty := .int) (C := RRM) (T := TRM) (N := 16) hx hb hts inRM tyRM tyRM_ok nmRM hown hK hP (hA _) hS 0 rfl rfl 1 (by decide) (hts _ k576) (fun _ h9 => h9) rfl (by decide +kernel) rfl rfl (Nat.le_of_ble_eq_true rfl) dRM_due_26 (fun H locs hP _ hS => ?_)
    have hP : va_P D vwCl (wR cI cZ a ((rI, 1, rN), (rO, rG), (rW, rH, rF, rT), (rM, rB, rX), (rQ, rA), (rE, rD))) H := hP
    refine lv_aload_n hx hb dRM_due_29 rfl (lv_at hl 0 rfl) ?_
    refine va_get (D := D) (ci := 5) (v := .int 1) (C := RRM) (T := TRM) (N := 16) hx hb hts inRM hown hK hP 0 rfl rfl 1 (by decide) (hts _ k576) (fun _ h9 => h9) rfl dRM_due_30 ?_
    refine lv_if_le (tgt := 40) hx hb dRM_due_33 (by decide) (fun c0 => absurd c0 (by decide)) (fun _ => ?_)
    refine lv_iconst (v := (-1)) hx hb dRM_due_36 (by decide) ?_
    refine lv_goto (tgt := 46) hx hb dRM_due_37 (by decide) ?_
    refine lv_istore_n (lv' := [(3, .int (-1)), (0, .ref (a 0)), (1, .int x), (2, .int y)]) hx hb dRM_due_46 rfl hl (by decide) rfl (fun ls hl => ?_)
    refine lv_iconst (v := 0) hx hb dRM_due_47 (by decide) ?_
    refine lv_istore (lv' := [(4, .int 0), (3, .int (-1)), (0, .ref (a 0)), (1, .int x), (2, .int y)]) hx hb dRM_due_48 hl (by decide) rfl (fun ls hl => ?_)
    refine lv_iconst (v := nI 0) hx hb dRM_due_50 (by decide) ?_
    refine lv_istore (lv' := [(5, .int (nI 0)), (4, .int 0), (3, .int (-1)), (0, .ref (a 0)), (1, .int x), (2, .int y)]) hx hb dRM_due_51 hl (by decide) rfl (fun ls hl => ?_)
    refine lv_iload hx hb dRM_due_53 (lv_at hl 0 rfl) ?_
    refine lv_bipush (v := nI 64) hx hb dRM_due_55 (by decide) ?_
    refine lv_icmp_ge (tgt := 95) hx hb dRM_due_57 (by decide) (fun c3 => ?_) (fun c3 => ?_)
    · have c3 := (nI_leI (a := 64) (b := 0) (by omega) (by omega)).mp c3
      refine lv_iload hx hb dRM_due_95 (lv_at hl 1 rfl) ?_
      exact g_iret (v := ((rI, 1, rN), (rO, rG), (rW, rH, rF, rT), (rM, rB, rX), (rQ, rA), (rE, rD))) hx hb hr hK hP hS ⟨rfl, rfl⟩ hlocks dRM_due_97
    · have c3 : ¬ 64 ≤ 0 := fun q => c3 ((nI_leI (a := 64) (b := 0) (by omega) (by omega)).mpr q)
      refine lv_iload_n hx hb dRM_due_60 rfl (lv_at hl 2 rfl) ?_
      refine lv_if_lt (tgt := 95) hx hb dRM_due_61 (by decide) (fun _ => ?_) (fun c0 => absurd (by decide) c0)
      refine lv_iload hx hb dRM_due_95 (lv_at hl 1 rfl) ?_
      exact g_iret (v := ((rI, 1, rN), (rO, rG), (rW, rH, rF, rT), (rM, rB, rX), (rQ, rA), (rE, rD))) hx hb hr hK hP hS ⟨rfl, rfl⟩ hlocks dRM_due_97
  · refine lv_iload_n hx hb dRM_due_11 rfl (lv_at hl 2 rfl) ?_
    refine lv_iconst (v := 0) hx hb dRM_due_12 (by decide) ?_
    refine lv_bipush (v := 63) hx hb dRM_due_13 (by decide) ?_
    refine g_roSi (As := [.int y, .int 0, .int 63]) (rest := [.ref (a 0)]) ⟨hx, hb, hml, hown, hts⟩ (c_RM_in l rI rC rN rO rG rW rH rF rT rM rB rX rQ rA rE rD y 0 63) (cw_S 3 hts k633 k634 k32 k635 rfl rfl rfl (by decide +kernel) ⟨Nat.le_of_ble_eq_true rfl, Nat.le_of_ble_eq_true rfl⟩) hK hP rfl hl.1 rfl (Nat.le_of_ble_eq_true rfl) dRM_due_15 ⟨Nat.zero_le _, Nat.zero_le _⟩ ?_
    refine lv_if_eqb (tgt := 25) hx hb dRM_due_18 (by decide) (fun c5 => ?_) (fun c5 => (hbad c1 c5).elim)
    refine lv_iconst (v := 1) hx hb dRM_due_25 (by decide) ?_
    refine va_put (D := D) (ci := 5) (v := .int 1) (ty := .int) (C := RRM) (T := TRM) (N := 16) hx hb hts inRM tyRM tyRM_ok nmRM hown hK hP (hA _) hS 0 rfl rfl 1 (by decide) (hts _ k576) (fun _ h9 => h9) rfl (by decide +kernel) rfl rfl (Nat.le_of_ble_eq_true rfl) dRM_due_26 (fun H locs hP _ hS => ?_)
    have hP : va_P D vwCl (wR cI cZ a ((rI, 1, rN), (rO, rG), (rW, rH, rF, rT), (rM, rB, rX), (rQ, rA), (rE, rD))) H := hP
    refine lv_aload_n hx hb dRM_due_29 rfl (lv_at hl 0 rfl) ?_
    refine va_get (D := D) (ci := 5) (v := .int 1) (C := RRM) (T := TRM) (N := 16) hx hb hts inRM hown hK hP 0 rfl rfl 1 (by decide) (hts _ k576) (fun _ h9 => h9) rfl dRM_due_30 ?_
    refine lv_if_le (tgt := 40) hx hb dRM_due_33 (by decide) (fun c0 => absurd c0 (by decide)) (fun _ => ?_)
    refine lv_iconst (v := (-1)) hx hb dRM_due_36 (by decide) ?_
    refine lv_goto (tgt := 46) hx hb dRM_due_37 (by decide) ?_
    refine lv_istore_n (lv' := [(3, .int (-1)), (0, .ref (a 0)), (1, .int x), (2, .int y)]) hx hb dRM_due_46 rfl hl (by decide) rfl (fun ls hl => ?_)
    refine lv_iconst (v := 0) hx hb dRM_due_47 (by decide) ?_
    refine lv_istore (lv' := [(4, .int 0), (3, .int (-1)), (0, .ref (a 0)), (1, .int x), (2, .int y)]) hx hb dRM_due_48 hl (by decide) rfl (fun ls hl => ?_)
    refine lv_iconst (v := nI 0) hx hb dRM_due_50 (by decide) ?_
    refine lv_istore (lv' := [(5, .int (nI 0)), (4, .int 0), (3, .int (-1)), (0, .ref (a 0)), (1, .int x), (2, .int y)]) hx hb dRM_due_51 hl (by decide) rfl (fun ls hl => ?_)
    refine lv_iload hx hb dRM_due_53 (lv_at hl 0 rfl) ?_
    refine lv_bipush (v := nI 64) hx hb dRM_due_55 (by decide) ?_
    refine lv_icmp_ge (tgt := 95) hx hb dRM_due_57 (by decide) (fun c7 => ?_) (fun c7 => ?_)
    · have c7 := (nI_leI (a := 64) (b := 0) (by omega) (by omega)).mp c7
      refine lv_iload hx hb dRM_due_95 (lv_at hl 1 rfl) ?_
      exact g_iret (v := ((rI, 1, rN), (rO, rG), (rW, rH, rF, rT), (rM, rB, rX), (rQ, rA), (rE, rD))) hx hb hr hK hP hS ⟨rfl, rfl⟩ hlocks dRM_due_97
    · have c7 : ¬ 64 ≤ 0 := fun q => c7 ((nI_leI (a := 64) (b := 0) (by omega) (by omega)).mpr q)
      refine lv_iload_n hx hb dRM_due_60 rfl (lv_at hl 2 rfl) ?_
      refine lv_if_lt (tgt := 95) hx hb dRM_due_61 (by decide) (fun _ => ?_) (fun c0 => absurd (by decide) c0)
      refine lv_iload hx hb dRM_due_95 (lv_at hl 1 rfl) ?_
      exact g_iret (v := ((rI, 1, rN), (rO, rG), (rW, rH, rF, rT), (rM, rB, rX), (rQ, rA), (rE, rD))) hx hb hr hK hP hS ⟨rfl, rfl⟩ hlocks dRM_due_97
