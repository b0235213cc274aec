def LNB_heardPlace (nS : Nat → Int32) (nP : Nat → Int32) (nR : Nat → Int32) (x : Int32) (y : Int32) : Nat → Nat → Option Nat
  | 0, k => none
  | n + 1, k => (if (nS k) = 0 then LNB_heardPlace nS nP nR x y n (k + 1)  else (if (nP k) = x then (if (nR k) = y then some k else LNB_heardPlace nS nP nR x y n (k + 1) ) else LNB_heardPlace nS nP nR x y n (k + 1) ))
set_option maxHeartbeats 4000000 in
set_option maxRecDepth 100000 in
theorem lpNB_heardPlace {p : Program} {l : Launch} {e : Env} {s : State} {m : MethodId} {args : Array Value} {below : List Frame} {meth : Method} {c : Code} {D : va_G} {cI cL : ClassId} {a : Nat → Nat}  (F : gFix p c cNB_heardPlace meth (some .int) m s args bigW RNB 4) (hK : va_K D vwCl (tyC cI cL) s) {dI : Nat} {dO : Int32} {dG : Int32} {dN : Int32} {dT : Int32} {aN : Nat → Int32} {aB : Nat → Int32} {nS : Nat → Int32} {nP : Nat → Int32} {nR : Nat → Int32} {nG : Nat → Int32} {nO : Nat → Int64} {nU : Nat → Int64} {nT : Nat → Int32} {tP : Nat → Int32} {tR : Nat → Int32} {tO : Nat → Int32} {tN : Nat → Int32} {tF : Nat} {tZ : Nat} {mP : Nat → Int32} {mN : Int64} {x : Int32} {y : Int32}  (post : Int32 → Prop) : ∀ (n k : Nat)   (ls : Array Slot), k + n = 16 → va_P D vwCl (wC cI cL a ((dI, dO, dG, dN, dT), (aN, aB), (nS, nP, nR, nG, nO, nU, nT), (tP, tR, tO, tN, tF, tZ), (mP, mN))) s.heap → lv_has ls 4 [(3, .int (nI k)), (0, .ref (a 4)), (1, .int x), (2, .int y)] → post (oi (LNB_heardPlace nS nP nR x y n k )) → W p l e ({ frames := 0, cells := 0, slots := 0, locals := 0 }) s m args below meth c s.heap [] 0 0 (MQ below (vp_Si post) args s 0 0 (fun _ => False)) (F0 m 2 ls []) := by
  obtain ⟨hx, hb, hr, hml, hown, hts, hlocks⟩ := F
  intro n
  induction n with
  | zero =>
    intro k  ls hkn  hP hl hq
    refine lv_iload_n hx hb dNB_heardPlace_2 rfl (lv_at hl 0 rfl) ?_
    refine lv_bipush (v := nI 16) hx hb dNB_heardPlace_3 (by decide) ?_
    refine lv_icmp_ge (tgt := 45) hx hb dNB_heardPlace_5 (by decide) (fun _ => ?_) (fun c0 => absurd (nI_le (by omega) (by omega)) c0)
    refine lv_iconst (v := oi none) hx hb dNB_heardPlace_45 (by decide) ?_
    have e1 : LNB_heardPlace nS nP nR x y 0 k  = none := by simp only [LNB_heardPlace]
    rw [e1] at hq
    exact r_iret hx hb hr hq hlocks dNB_heardPlace_46
  | succ n ih =>
    intro k  ls hkn  hP hl hq
    refine lv_iload_n hx hb dNB_heardPlace_2 rfl (lv_at hl 0 rfl) ?_
    refine lv_bipush (v := nI 16) hx hb dNB_heardPlace_3 (by decide) ?_
    refine lv_icmp_ge (tgt := 45) hx hb dNB_heardPlace_5 (by decide) (fun c0 => absurd c0 (nI_ge (by omega) (by decide))) (fun _ => ?_)
    refine lv_aload_n hx hb dNB_heardPlace_8 rfl (lv_at hl 1 rfl) ?_
    refine va_get (D := D) (ci := 2) (v := .ref (a 5)) (C := RNB) (T := TNB) (N := 7) hx hb hts inNB hown hK hP 4 rfl rfl 0 (by decide) (hts _ k67) (fun _ h9 => h9) rfl dNB_heardPlace_9 ?_
    refine lv_iload_n hx hb dNB_heardPlace_12 rfl (lv_at hl 0 rfl) ?_
    refine ir_iald hx hb hK hP 5 0 rfl rfl (k := k) (by omega) (by decide) dNB_heardPlace_13 ?_
    refine lv_if_eq (tgt := 39) hx hb dNB_heardPlace_14 (by decide) (fun c3 => ?_) (fun c3 => ?_)
    · refine lv_iinc (v := nI (k + 1)) (lv' := [(3, .int (nI (k + 1))), (0, .ref (a 4)), (1, .int x), (2, .int y)]) hx hb dNB_heardPlace_39 hl (k := 0) rfl (nI_1 k) (by decide) rfl (fun ls hl => ?_)
      refine lv_goto (tgt := 2) hx hb dNB_heardPlace_42 (by decide) ?_
      have e1 : LNB_heardPlace nS nP nR x y (n + 1) k  = LNB_heardPlace nS nP nR x y n (k + 1)  := by simp only [LNB_heardPlace, if_pos c3]
      rw [e1] at hq
      exact ih (k + 1)  ls (by omega)  hP (lv_sub hl [0, 1, 2, 3] rfl) hq
    · refine lv_aload_n hx hb dNB_heardPlace_17 rfl (lv_at hl 1 rfl) ?_
      refine va_get (D := D) (ci := 2) (v := .ref (a 6)) (C := RNB) (T := TNB) (N := 7) hx hb hts inNB hown hK hP 4 rfl rfl 1 (by decide) (hts _ k68) (fun _ h9 => h9) rfl dNB_heardPlace_18 ?_
      refine lv_iload_n hx hb dNB_heardPlace_21 rfl (lv_at hl 0 rfl) ?_
      refine ir_iald hx hb hK hP 6 0 rfl rfl (k := k) (by omega) (by decide) dNB_heardPlace_22 ?_
      refine lv_iload_n hx hb dNB_heardPlace_23 rfl (lv_at hl 2 rfl) ?_
      refine lv_icmp_ne (tgt := 39) hx hb dNB_heardPlace_24 (by decide) (fun c4 => ?_) (fun c4 => ?_)
      · refine lv_iinc (v := nI (k + 1)) (lv' := [(3, .int (nI (k + 1))), (0, .ref (a 4)), (1, .int x), (2, .int y)]) hx hb dNB_heardPlace_39 hl (k := 0) rfl (nI_1 k) (by decide) rfl (fun ls hl => ?_)
        refine lv_goto (tgt := 2) hx hb dNB_heardPlace_42 (by decide) ?_
        have e1 : LNB_heardPlace nS nP nR x y (n + 1) k  = LNB_heardPlace nS nP nR x y n (k + 1)  := by first | (simp only [LNB_heardPlace, if_neg c3, if_neg c4]; done) | (simp only [LNB_heardPlace, if_neg c3]; simp only [if_neg c4])
        rw [e1] at hq
        exact ih (k + 1)  ls (by omega)  hP (lv_sub hl [0, 1, 2, 3] rfl) hq
      · refine lv_aload_n hx hb dNB_heardPlace_27 rfl (lv_at hl 1 rfl) ?_
        refine va_get (D := D) (ci := 2) (v := .ref (a 7)) (C := RNB) (T := TNB) (N := 7) hx hb hts inNB hown hK hP 4 rfl rfl 2 (by decide) (hts _ k69) (fun _ h9 => h9) rfl dNB_heardPlace_28 ?_
        refine lv_iload_n hx hb dNB_heardPlace_31 rfl (lv_at hl 0 rfl) ?_
        refine ir_iald hx hb hK hP 7 0 rfl rfl (k := k) (by omega) (by decide) dNB_heardPlace_32 ?_
        refine lv_iload_n hx hb dNB_heardPlace_33 rfl (lv_at hl 3 rfl) ?_
        refine lv_icmp_ne (tgt := 39) hx hb dNB_heardPlace_34 (by decide) (fun c5 => ?_) (fun c5 => ?_)
        · refine lv_iinc (v := nI (k + 1)) (lv' := [(3, .int (nI (k + 1))), (0, .ref (a 4)), (1, .int x), (2, .int y)]) hx hb dNB_heardPlace_39 hl (k := 0) rfl (nI_1 k) (by decide) rfl (fun ls hl => ?_)
          refine lv_goto (tgt := 2) hx hb dNB_heardPlace_42 (by decide) ?_
          have e1 : LNB_heardPlace nS nP nR x y (n + 1) k  = LNB_heardPlace nS nP nR x y n (k + 1)  := by first | (simp only [LNB_heardPlace, if_neg c3, if_pos c4, if_neg c5]; done) | (simp only [LNB_heardPlace, if_neg c3]; simp only [if_pos c4]; simp only [if_neg c5])
          rw [e1] at hq
          exact ih (k + 1)  ls (by omega)  hP (lv_sub hl [0, 1, 2, 3] rfl) hq
        · refine lv_iload_n hx hb dNB_heardPlace_37 rfl (lv_at hl 0 rfl) ?_
          have e1 : LNB_heardPlace nS nP nR x y (n + 1) k  = some k := by first | (simp only [LNB_heardPlace, if_neg c3, if_pos c4, if_pos c5]; done) | (simp only [LNB_heardPlace, if_neg c3]; simp only [if_pos c4]; simp only [if_pos c5])
          rw [e1] at hq
          exact r_iret hx hb hr hq hlocks dNB_heardPlace_38
set_option maxHeartbeats 4000000 in
set_option maxRecDepth 100000 in
theorem c_NB_heardPlace (l : Launch) {D : va_G} {cI cL : ClassId} {a : Nat → Nat}  (dI : Nat) (dO dG dN dT : Int32) (aN aB : Nat → Int32) (nS nP nR nG : Nat → Int32) (nO nU : Nat → Int64) (nT : Nat → Int32) (tP tR tO tN : Nat → Int32) (tF tZ : Nat) (mP : Nat → Int32) (mN : Int64) (x : Int32) (y : Int32)  : Met l yNB_heardPlace wsNB_heardPlace ({ frames := 0, cells := 0, slots := 0, locals := 0 }) (va_Pc [.ref (a 4), .int x, .int y] (gG D (tyC cI cL) (wC cI cL a) ((dI, dO, dG, dN, dT), (aN, aB), (nS, nP, nR, nG, nO, nU, nT), (tP, tR, tO, tN, tF, tZ), (mP, mN)))) (vp_Si (fun r : Int32 => r = oi (LNB_heardPlace nS nP nR x y 16 0 ))) 0 0 (fun _ => False) := by
  refine g_enter (by decide) rfl (Nat.le_of_ble_eq_true rfl) ?_
  intro p e s m below meth c ls F hK hP hl
  obtain ⟨hx, hb, hr, hml, hown, hts, hlocks⟩ := id F
  have hl : lv_has ls 4 [(0, .ref (a 4)), (1, .int x), (2, .int y)] := hl
  refine lv_iconst (v := nI 0) hx hb dNB_heardPlace_0 (by decide) ?_
  refine lv_istore_n (lv' := [(3, .int (nI 0)), (0, .ref (a 4)), (1, .int x), (2, .int y)]) hx hb dNB_heardPlace_1 rfl hl (by decide) rfl (fun ls hl => ?_)
  exact lpNB_heardPlace F hK  _ 16 0  ls rfl  hP (lv_sub hl [0, 1, 2, 3] rfl) rfl
theorem LNB_heardPlace_lt {nS nP nR : Nat → Int32} {x y : Int32} : ∀ (n k j : Nat), LNB_heardPlace nS nP nR x y n k = some j → j < k + n := by
  intro n
  induction n with
  | zero => intro k j h; simp only [LNB_heardPlace] at h; cases h
  | succ n ih =>
    intro k j h
    simp only [LNB_heardPlace] at h
    repeat' split at h
    all_goals first | (have := ih _ _ h; omega) | (cases h; omega)
theorem c_NB_heardPlace_lt {nS nP nR : Nat → Int32} {x y : Int32} {k : Nat} (h : LNB_heardPlace nS nP nR x y 16 0 = some k) : k < 16 := by
  have := LNB_heardPlace_lt _ _ _ h; omega
def fNB_friendPlace (nS : Nat → Int32) (nP : Nat → Int32) (nR : Nat → Int32) (x : Int32) (y : Int32) : Option Nat := (match LNB_heardPlace nS nP nR x y 16 0  with | none => none | some k1 => (if (nS k1) = 2 then some k1 else none))
set_option maxHeartbeats 4000000 in
set_option maxRecDepth 100000 in
theorem c_NB_friendPlace (l : Launch) {D : va_G} {cI cL : ClassId} {a : Nat → Nat}  (dI : Nat) (dO dG dN dT : Int32) (aN aB : Nat → Int32) (nS nP nR nG : Nat → Int32) (nO nU : Nat → Int64) (nT : Nat → Int32) (tP tR tO tN : Nat → Int32) (tF tZ : Nat) (mP : Nat → Int32) (mN : Int64) (x : Int32) (y : Int32)  : Met l yNB_friendPlace wsNB_friendPlace ({ frames := 1, cells := 0, slots := 0, locals := 23 }) (va_Pc [.ref (a 4), .int x, .int y] (gG D (tyC cI cL) (wC cI cL a) ((dI, dO, dG, dN, dT), (aN, aB), (nS, nP, nR, nG, nO, nU, nT), (tP, tR, tO, tN, tF, tZ), (mP, mN)))) (vp_Si (fun r : Int32 => r = oi (fNB_friendPlace nS nP nR x y))) 0 0 (fun _ => False) := by
  refine g_enter (by decide) rfl (Nat.le_of_ble_eq_true rfl) ?_
  intro p e s m below meth c ls F hK hP hl
  obtain ⟨hx, hb, hr, hml, hown, hts, hlocks⟩ := id F
  have hl : lv_has ls 4 [(0, .ref (a 4)), (1, .int x), (2, .int y)] := hl
  refine lv_aload_n hx hb dNB_friendPlace_0 rfl (lv_at hl 0 rfl) ?_
  refine lv_iload_n hx hb dNB_friendPlace_1 rfl (lv_at hl 1 rfl) ?_
  refine lv_iload_n hx hb dNB_friendPlace_2 rfl (lv_at hl 2 rfl) ?_
  refine g_roVi (As := [.int x, .int y]) (rest := []) ⟨hx, hb, hml, hown, hts⟩ (c_NB_heardPlace l dI dO dG dN dT aN aB nS nP nR nG nO nU nT tP tR tO tN tF tZ mP mN x y) (cwV 2 hts (gw_V k411 k413 k12 k29 k414) rfl rfl rfl (by decide +kernel) ⟨Nat.le_of_ble_eq_true rfl, Nat.le_of_ble_eq_true rfl⟩) hK hP (va_recv hK hP (ci := 2) (q0 := 4) rfl rfl) rfl hl.1 rfl (Nat.le_of_ble_eq_true rfl) dNB_friendPlace_3 ⟨Nat.zero_le _, Nat.zero_le _⟩ ?_
  rcases ho2 : LNB_heardPlace nS nP nR x y 16 0  with _ | k1
  · refine lv_istore_n (lv' := [(3, .int (oi none)), (0, .ref (a 4)), (1, .int x), (2, .int y)]) hx hb dNB_friendPlace_6 rfl hl (by decide) rfl (fun ls hl => ?_)
    refine lv_iload_n hx hb dNB_friendPlace_7 rfl (lv_at hl 0 rfl) ?_
    refine lv_iconst (v := (-1)) hx hb dNB_friendPlace_8 (by decide) ?_
    refine lv_icmp_eq (tgt := 26) hx hb dNB_friendPlace_9 (by decide) (fun _ => ?_) (fun c0 => absurd rfl c0)
    refine lv_iconst (v := oi none) hx hb dNB_friendPlace_26 (by decide) ?_
    have e1 : fNB_friendPlace nS nP nR x y = none := by simp only [fNB_friendPlace, ho2]
    exact r_iret hx hb hr (by first | rfl | (rw [e1] <;> rfl)) hlocks dNB_friendPlace_27
  · have hk1 := c_NB_heardPlace_lt ho2
    refine lv_istore_n (lv' := [(3, .int (nI k1)), (0, .ref (a 4)), (1, .int x), (2, .int y)]) hx hb dNB_friendPlace_6 rfl hl (by decide) rfl (fun ls hl => ?_)
    refine lv_iload_n hx hb dNB_friendPlace_7 rfl (lv_at hl 0 rfl) ?_
    refine lv_iconst (v := (-1)) hx hb dNB_friendPlace_8 (by decide) ?_
    refine lv_icmp_eq (tgt := 26) hx hb dNB_friendPlace_9 (by decide) (fun c0 => absurd c0 (nI_m1 (by omega))) (fun _ => ?_)
    refine lv_aload_n hx hb dNB_friendPlace_12 rfl (lv_at hl 1 rfl) ?_
    refine va_get (D := D) (ci := 2) (v := .ref (a 5)) (C := RNB) (T := TNB) (N := 7) hx hb hts inNB hown hK hP 4 rfl rfl 0 (by decide) (hts _ k67) (fun _ h9 => h9) rfl dNB_friendPlace_13 ?_
    refine lv_iload_n hx hb dNB_friendPlace_16 rfl (lv_at hl 0 rfl) ?_
    refine ir_iald hx hb hK hP 5 0 rfl rfl (k := k1) (by omega) (by decide) dNB_friendPlace_17 ?_
    refine lv_iconst (v := 2) hx hb dNB_friendPlace_18 (by decide) ?_
    refine lv_icmp_ne (tgt := 26) hx hb dNB_friendPlace_19 (by decide) (fun c5 => ?_) (fun c5 => ?_)
    · refine lv_iconst (v := oi none) hx hb dNB_friendPlace_26 (by decide) ?_
      have e1 : fNB_friendPlace nS nP nR x y = none := by first | (simp only [fNB_friendPlace, ho2, if_neg c5]; done) | (simp only [fNB_friendPlace, ho2]; simp only [if_neg c5])
      exact r_iret hx hb hr (by first | rfl | (rw [e1] <;> rfl)) hlocks dNB_friendPlace_27
    · refine lv_iload_n hx hb dNB_friendPlace_22 rfl (lv_at hl 0 rfl) ?_
      refine lv_goto (tgt := 27) hx hb dNB_friendPlace_23 (by decide) ?_
      have e1 : fNB_friendPlace nS nP nR x y = some k1 := by first | (simp only [fNB_friendPlace, ho2, if_pos c5]; done) | (simp only [fNB_friendPlace, ho2]; simp only [if_pos c5])
      exact r_iret hx hb hr (by first | rfl | (rw [e1] <;> rfl)) hlocks dNB_friendPlace_27
theorem c_NB_friendPlace_lt {nS nP nR : Nat → Int32} {x y : Int32} {k : Nat} (h : fNB_friendPlace nS nP nR x y = some k) : k < 16 := by
  unfold fNB_friendPlace at h
  split at h
  · cases h
  · rename_i j hj
    split at h
    · cases h; exact c_NB_heardPlace_lt hj
    · cases h
def LNB_takeFreePlace (nS : Nat → Int32) (nP : Nat → Int32) (nR : Nat → Int32) (x : Int32) (y : Int32) : Nat → Nat → Option Nat × (Nat → Int32) × (Nat → Int32) × (Nat → Int32)
  | 0, k => (none, nS, nP, nR)
  | n + 1, k => (if (nS k) = 0 then (some k, upd nS k 1, upd nP k x, upd nR k y) else LNB_takeFreePlace nS nP nR x y n (k + 1) )
set_option maxHeartbeats 4000000 in
set_option maxRecDepth 100000 in
theorem lpNB_takeFreePlace {p : Program} {l : Launch} {e : Env} {s : State} {m : MethodId} {args : Array Value} {below : List Frame} {meth : Method} {c : Code} {D : va_G} {cI cL : ClassId} {a : Nat → Nat} {A : Nat → Prop} (hA : ∀ v : CS, va_D A (wC cI cL a v)) (F : gFix p c cNB_takeFreePlace meth (some .int) m s args bigW RNB 4) (hK : va_K D vwCl (tyC cI cL) s) {dI : Nat} {dO : Int32} {dG : Int32} {dN : Int32} {dT : Int32} {aN : Nat → Int32} {aB : Nat → Int32} {nS : Nat → Int32} {nP : Nat → Int32} {nR : Nat → Int32} {nG : Nat → Int32} {nO : Nat → Int64} {nU : Nat → Int64} {nT : Nat → Int32} {tP : Nat → Int32} {tR : Nat → Int32} {tO : Nat → Int32} {tN : Nat → Int32} {tF : Nat} {tZ : Nat} {mP : Nat → Int32} {mN : Int64} {x : Int32} {y : Int32}  (post : Int32 → CS → Prop) : ∀ (n k : Nat)   (ls : Array Slot) (H : Heap) (locs : List Loc), k + n = 16 → va_P D vwCl (wC cI cL a ((dI, dO, dG, dN, dT), (aN, aB), (nS, nP, nR, nG, nO, nU, nT), (tP, tR, tO, tN, tF, tZ), (mP, mN))) H → va_S A s.heap H locs → lv_has ls 4 [(3, .int (nI k)), (0, .ref (a 4)), (1, .int x), (2, .int y)] → post (oi ((LNB_takeFreePlace nS nP nR x y n k ).1)) ((dI, dO, dG, dN, dT), (aN, aB), ((LNB_takeFreePlace nS nP nR x y n k ).2.1, (LNB_takeFreePlace nS nP nR x y n k ).2.2.1, (LNB_takeFreePlace nS nP nR x y n k ).2.2.2, nG, nO, nU, nT), (tP, tR, tO, tN, tF, tZ), (mP, mN)) → W p l e ({ frames := 0, cells := 0, slots := 0, locals := 0 }) s m args below meth c H locs 0 0 (MQ below (va_Qi post (gG D (tyC cI cL) (wC cI cL a)) A) args s 0 0 A) (F0 m 2 ls []) := by
  obtain ⟨hx, hb, hr, hml, hown, hts, hlocks⟩ := F
  intro n
  induction n with
  | zero =>
    intro k  ls H locs hkn  hP hS hl hq
    refine lv_iload_n hx hb dNB_takeFreePlace_2 rfl (lv_at hl 0 rfl) ?_
    refine lv_bipush (v := nI 16) hx hb dNB_takeFreePlace_3 (by decide) ?_
    refine lv_icmp_ge (tgt := 46) hx hb dNB_takeFreePlace_5 (by decide) (fun _ => ?_) (fun c0 => absurd (nI_le (by omega) (by omega)) c0)
    refine lv_iconst (v := oi none) hx hb dNB_takeFreePlace_46 (by decide) ?_
    have e1 : LNB_takeFreePlace nS nP nR x y 0 k  = (none, nS, nP, nR) := by simp only [LNB_takeFreePlace]
    rw [e1] at hq
    exact g_iret hx hb hr hK hP hS hq hlocks dNB_takeFreePlace_47
  | succ n ih =>
    intro k  ls H locs hkn  hP hS hl hq
    refine lv_iload_n hx hb dNB_takeFreePlace_2 rfl (lv_at hl 0 rfl) ?_
    refine lv_bipush (v := nI 16) hx hb dNB_takeFreePlace_3 (by decide) ?_
    refine lv_icmp_ge (tgt := 46) hx hb dNB_takeFreePlace_5 (by decide) (fun c0 => absurd c0 (nI_ge (by omega) (by decide))) (fun _ => ?_)
    refine lv_aload_n hx hb dNB_takeFreePlace_8 rfl (lv_at hl 1 rfl) ?_
    refine va_get (D := D) (ci := 2) (v := .ref (a 5)) (C := RNB) (T := TNB) (N := 7) hx hb hts inNB hown hK hP 4 rfl rfl 0 (by decide) (hts _ k67) (fun _ h9 => h9) rfl dNB_takeFreePlace_9 ?_
    refine lv_iload_n hx hb dNB_takeFreePlace_12 rfl (lv_at hl 0 rfl) ?_
    refine ir_iald hx hb hK hP 5 0 rfl rfl (k := k) (by omega) (by decide) dNB_takeFreePlace_13 ?_
    refine lv_if_ne (tgt := 40) hx hb dNB_takeFreePlace_14 (by decide) (fun c3 => ?_) (fun c3 => ?_)
    · refine lv_iinc (v := nI (k + 1)) (lv' := [(3, .int (nI (k + 1))), (0, .ref (a 4)), (1, .int x), (2, .int y)]) hx hb dNB_takeFreePlace_40 hl (k := 0) rfl (nI_1 k) (by decide) rfl (fun ls hl => ?_)
      refine lv_goto (tgt := 2) hx hb dNB_takeFreePlace_43 (by decide) ?_
      have e1 : LNB_takeFreePlace nS nP nR x y (n + 1) k  = LNB_takeFreePlace nS nP nR x y n (k + 1)  := by simp only [LNB_takeFreePlace, if_neg c3]
      rw [e1] at hq
      exact ih (k + 1)  ls H locs (by omega)  hP hS (lv_sub hl [0, 1, 2, 3] rfl) hq
    · refine lv_aload_n hx hb dNB_takeFreePlace_17 rfl (lv_at hl 1 rfl) ?_
      refine va_get (D := D) (ci := 2) (v := .ref (a 5)) (C := RNB) (T := TNB) (N := 7) hx hb hts inNB hown hK hP 4 rfl rfl 0 (by decide) (hts _ k67) (fun _ h9 => h9) rfl dNB_takeFreePlace_18 ?_
      refine lv_iload_n hx hb dNB_takeFreePlace_21 rfl (lv_at hl 0 rfl) ?_
      refine lv_iconst (v := 1) hx hb dNB_takeFreePlace_22 (by decide) ?_
      refine ir_iast hx hb hK hP (hA _) hS 5 0 rfl rfl (k := k) (by omega) (by decide) dNB_takeFreePlace_23 (fun H locs hP hS => ?_)
      have hP : va_P D vwCl (wC cI cL a ((dI, dO, dG, dN, dT), (aN, aB), (upd nS k 1, nP, nR, nG, nO, nU, nT), (tP, tR, tO, tN, tF, tZ), (mP, mN))) H := hP
      refine lv_aload_n hx hb dNB_takeFreePlace_24 rfl (lv_at hl 1 rfl) ?_
      refine va_get (D := D) (ci := 2) (v := .ref (a 6)) (C := RNB) (T := TNB) (N := 7) hx hb hts inNB hown hK hP 4 rfl rfl 1 (by decide) (hts _ k68) (fun _ h9 => h9) rfl dNB_takeFreePlace_25 ?_
      refine lv_iload_n hx hb dNB_takeFreePlace_28 rfl (lv_at hl 0 rfl) ?_
      refine lv_iload_n hx hb dNB_takeFreePlace_29 rfl (lv_at hl 2 rfl) ?_
      refine ir_iast hx hb hK hP (hA _) hS 6 0 rfl rfl (k := k) (by omega) (by decide) dNB_takeFreePlace_30 (fun H locs hP hS => ?_)
      have hP : va_P D vwCl (wC cI cL a ((dI, dO, dG, dN, dT), (aN, aB), (upd nS k 1, upd nP k x, nR, nG, nO, nU, nT), (tP, tR, tO, tN, tF, tZ), (mP, mN))) H := hP
      refine lv_aload_n hx hb dNB_takeFreePlace_31 rfl (lv_at hl 1 rfl) ?_
      refine va_get (D := D) (ci := 2) (v := .ref (a 7)) (C := RNB) (T := TNB) (N := 7) hx hb hts inNB hown hK hP 4 rfl rfl 2 (by decide) (hts _ k69) (fun _ h9 => h9) rfl dNB_takeFreePlace_32 ?_
      refine lv_iload_n hx hb dNB_takeFreePlace_35 rfl (lv_at hl 0 rfl) ?_
      refine lv_iload_n hx hb dNB_takeFreePlace_36 rfl (lv_at hl 3 rfl) ?_
      refine ir_iast hx hb hK hP (hA _) hS 7 0 rfl rfl (k := k) (by omega) (by decide) dNB_takeFreePlace_37 (fun H locs hP hS => ?_)
      have hP : va_P D vwCl (wC cI cL a ((dI, dO, dG, dN, dT), (aN, aB), (upd nS k 1, upd nP k x, upd nR k y, nG, nO, nU, nT), (tP, tR, tO, tN, tF, tZ), (mP, mN))) H := hP
      refine lv_iload_n hx hb dNB_takeFreePlace_38 rfl (lv_at hl 0 rfl) ?_
      have e1 : LNB_takeFreePlace nS nP nR x y (n + 1) k  = (some k, upd nS k 1, upd nP k x, upd nR k y) := by simp only [LNB_takeFreePlace, if_pos c3]
      rw [e1] at hq
      exact g_iret hx hb hr hK hP hS hq hlocks dNB_takeFreePlace_39
set_option maxHeartbeats 4000000 in
set_option maxRecDepth 100000 in
theorem c_NB_takeFreePlace (l : Launch) {D : va_G} {cI cL : ClassId} {a : Nat → Nat} {A : Nat → Prop} (hA : ∀ v : CS, va_D A (wC cI cL a v)) (dI : Nat) (dO dG dN dT : Int32) (aN aB : Nat → Int32) (nS nP nR nG : Nat → Int32) (nO nU : Nat → Int64) (nT : Nat → Int32) (tP tR tO tN : Nat → Int32) (tF tZ : Nat) (mP : Nat → Int32) (mN : Int64) (x : Int32) (y : Int32)  : Met l yNB_takeFreePlace wsNB_takeFreePlace ({ frames := 0, cells := 0, slots := 0, locals := 0 }) (va_Pc [.ref (a 4), .int x, .int y] (gG D (tyC cI cL) (wC cI cL a) ((dI, dO, dG, dN, dT), (aN, aB), (nS, nP, nR, nG, nO, nU, nT), (tP, tR, tO, tN, tF, tZ), (mP, mN)))) (va_Qi (fun (r : Int32) (u : CS) => r = oi ((LNB_takeFreePlace nS nP nR x y 16 0 ).1) ∧ u = ((dI, dO, dG, dN, dT), (aN, aB), ((LNB_takeFreePlace nS nP nR x y 16 0 ).2.1, (LNB_takeFreePlace nS nP nR x y 16 0 ).2.2.1, (LNB_takeFreePlace nS nP nR x y 16 0 ).2.2.2, nG, nO, nU, nT), (tP, tR, tO, tN, tF, tZ), (mP, mN))) (gG D (tyC cI cL) (wC cI cL a)) A) 0 0 A := by
  refine g_enter (by decide) rfl (Nat.le_of_ble_eq_true rfl) ?_
  intro p e s m below meth c ls F hK hP hl
  obtain ⟨hx, hb, hr, hml, hown, hts, hlocks⟩ := id F
  have hS : va_S A s.heap s.heap [] := va_S.rf
  have hl : lv_has ls 4 [(0, .ref (a 4)), (1, .int x), (2, .int y)] := hl
  refine lv_iconst (v := nI 0) hx hb dNB_takeFreePlace_0 (by decide) ?_
  refine lv_istore_n (lv' := [(3, .int (nI 0)), (0, .ref (a 4)), (1, .int x), (2, .int y)]) hx hb dNB_takeFreePlace_1 rfl hl (by decide) rfl (fun ls hl => ?_)
  exact lpNB_takeFreePlace hA F hK  _ 16 0  ls _ _ rfl  hP hS (lv_sub hl [0, 1, 2, 3] rfl) ⟨rfl, rfl⟩
theorem LNB_takeFreePlace_lt {nS nP nR : Nat → Int32} {x y : Int32} : ∀ (n k j : Nat), (LNB_takeFreePlace nS nP nR x y n k).1 = some j → j < k + n := by
  intro n
  induction n with
  | zero => intro k j h; simp only [LNB_takeFreePlace] at h; cases h
  | succ n ih =>
    intro k j h
    simp only [LNB_takeFreePlace] at h
    split at h
    · cases h; omega
    · have := ih _ _ h; omega
theorem c_NB_takeFreePlace_lt {nS nP nR : Nat → Int32} {x y : Int32} {k : Nat} (h : (LNB_takeFreePlace nS nP nR x y 16 0).1 = some k) : k < 16 := by
  have := LNB_takeFreePlace_lt _ _ _ h; omega
def fNB_placeFor (nS : Nat → Int32) (nP : Nat → Int32) (nR : Nat → Int32) (x : Int32) (y : Int32) : Option Nat × (Nat → Int32) × (Nat → Int32) × (Nat → Int32) := (match LNB_heardPlace nS nP nR x y 16 0  with | none => (match (LNB_takeFreePlace nS nP nR x y 16 0 ).1 with | none => (none, (LNB_takeFreePlace nS nP nR x y 16 0 ).2.1, (LNB_takeFreePlace nS nP nR x y 16 0 ).2.2.1, (LNB_takeFreePlace nS nP nR x y 16 0 ).2.2.2) | some k4 => (some k4, (LNB_takeFreePlace nS nP nR x y 16 0 ).2.1, (LNB_takeFreePlace nS nP nR x y 16 0 ).2.2.1, (LNB_takeFreePlace nS nP nR x y 16 0 ).2.2.2)) | some k1 => (some k1, nS, nP, nR))
set_option maxHeartbeats 4000000 in
set_option maxRecDepth 100000 in
theorem c_NB_placeFor (l : Launch) {D : va_G} {cI cL : ClassId} {a : Nat → Nat} {A : Nat → Prop} (hA : ∀ v : CS, va_D A (wC cI cL a v)) (dI : Nat) (dO dG dN dT : Int32) (aN aB : Nat → Int32) (nS nP nR nG : Nat → Int32) (nO nU : Nat → Int64) (nT : Nat → Int32) (tP tR tO tN : Nat → Int32) (tF tZ : Nat) (mP : Nat → Int32) (mN : Int64) (x : Int32) (y : Int32)  : Met l yNB_placeFor wsNB_placeFor ({ frames := 1, cells := 0, slots := 0, locals := 23 }) (va_Pc [.ref (a 4), .int x, .int y] (gG D (tyC cI cL) (wC cI cL a) ((dI, dO, dG, dN, dT), (aN, aB), (nS, nP, nR, nG, nO, nU, nT), (tP, tR, tO, tN, tF, tZ), (mP, mN)))) (va_Qi (fun (r : Int32) (u : CS) => r = oi ((fNB_placeFor nS nP nR x y).1) ∧ u = ((dI, dO, dG, dN, dT), (aN, aB), ((fNB_placeFor nS nP nR x y).2.1, (fNB_placeFor nS nP nR x y).2.2.1, (fNB_placeFor nS nP nR x y).2.2.2, nG, nO, nU, nT), (tP, tR, tO, tN, tF, tZ), (mP, mN))) (gG D (tyC cI cL) (wC cI cL a)) A) 0 0 A := by
  refine g_enter (by decide) rfl (Nat.le_of_ble_eq_true rfl) ?_
  intro p e s m below meth c ls F hK hP hl
  obtain ⟨hx, hb, hr, hml, hown, hts, hlocks⟩ := id F
  have hS : va_S A s.heap s.heap [] := va_S.rf
  have hl : lv_has ls 4 [(0, .ref (a 4)), (1, .int x), (2, .int y)] := hl
  refine lv_aload_n hx hb dNB_placeFor_0 rfl (lv_at hl 0 rfl) ?_
  refine lv_iload_n hx hb dNB_placeFor_1 rfl (lv_at hl 1 rfl) ?_
  refine lv_iload_n hx hb dNB_placeFor_2 rfl (lv_at hl 2 rfl) ?_
  refine g_roVi (As := [.int x, .int y]) (rest := []) ⟨hx, hb, hml, hown, hts⟩ (c_NB_heardPlace l dI dO dG dN dT aN aB nS nP nR nG nO nU nT tP tR tO tN tF tZ mP mN x y) (cwV 2 hts (gw_V k411 k413 k12 k29 k414) rfl rfl rfl (by decide +kernel) ⟨Nat.le_of_ble_eq_true rfl, Nat.le_of_ble_eq_true rfl⟩) hK hP (va_recv hK hP (ci := 2) (q0 := 4) rfl rfl) rfl hl.1 rfl (Nat.le_of_ble_eq_true rfl) dNB_placeFor_3 ⟨Nat.zero_le _, Nat.zero_le _⟩ ?_
  rcases ho2 : LNB_heardPlace nS nP nR x y 16 0  with _ | k1
  · refine lv_istore_n (lv' := [(3, .int (oi none)), (0, .ref (a 4)), (1, .int x), (2, .int y)]) hx hb dNB_placeFor_6 rfl hl (by decide) rfl (fun ls hl => ?_)
    refine lv_iload_n hx hb dNB_placeFor_7 rfl (lv_at hl 0 rfl) ?_
    refine lv_iconst (v := (-1)) hx hb dNB_placeFor_8 (by decide) ?_
    refine lv_icmp_eq (tgt := 16) hx hb dNB_placeFor_9 (by decide) (fun _ => ?_) (fun c0 => absurd rfl c0)
    refine lv_aload_n hx hb dNB_placeFor_16 rfl (lv_at hl 1 rfl) ?_
    refine lv_iload_n hx hb dNB_placeFor_17 rfl (lv_at hl 2 rfl) ?_
    refine lv_iload_n hx hb dNB_placeFor_18 rfl (lv_at hl 3 rfl) ?_
    refine g_callVi (As := [.int x, .int y]) (rest := []) ⟨hx, hb, hml, hown, hts⟩ (c_NB_takeFreePlace l hA dI dO dG dN dT aN aB nS nP nR nG nO nU nT tP tR tO tN tF tZ mP mN x y) (cwV 2 hts (gw_V k415 k417 k13 k29 k418) rfl rfl rfl (by decide +kernel) ⟨Nat.le_of_ble_eq_true rfl, Nat.le_of_ble_eq_true rfl⟩) hK hP (va_recv hK hP (ci := 2) (q0 := 4) rfl rfl) rfl hl.1 rfl (Nat.le_of_ble_eq_true rfl) dNB_placeFor_19 ⟨Nat.zero_le _, Nat.zero_le _⟩ (fun q h => h) hS (fun H locs hP hS => ?_)
    have hP : va_P D vwCl (wC cI cL a ((dI, dO, dG, dN, dT), (aN, aB), ((LNB_takeFreePlace nS nP nR x y 16 0 ).2.1, (LNB_takeFreePlace nS nP nR x y 16 0 ).2.2.1, (LNB_takeFreePlace nS nP nR x y 16 0 ).2.2.2, nG, nO, nU, nT), (tP, tR, tO, tN, tF, tZ), (mP, mN))) H := hP
    rcases ho5 : (LNB_takeFreePlace nS nP nR x y 16 0 ).1 with _ | k4
    · have e1 : fNB_placeFor nS nP nR x y = (none, (LNB_takeFreePlace nS nP nR x y 16 0 ).2.1, (LNB_takeFreePlace nS nP nR x y 16 0 ).2.2.1, (LNB_takeFreePlace nS nP nR x y 16 0 ).2.2.2) := by first | (simp only [fNB_placeFor, ho2, ho5]; done) | (simp only [fNB_placeFor, ho2]; simp only [ho5])
      exact g_iret (v := ((dI, dO, dG, dN, dT), (aN, aB), ((LNB_takeFreePlace nS nP nR x y 16 0 ).2.1, (LNB_takeFreePlace nS nP nR x y 16 0 ).2.2.1, (LNB_takeFreePlace nS nP nR x y 16 0 ).2.2.2, nG, nO, nU, nT), (tP, tR, tO, tN, tF, tZ), (mP, mN))) hx hb hr hK hP hS ⟨by first | rfl | (rw [e1] <;> rfl), by first | rfl | (rw [e1] <;> rfl)⟩ hlocks dNB_placeFor_22
    · have hk4 := c_NB_takeFreePlace_lt ho5
      have e1 : fNB_placeFor nS nP nR x y = (some k4, (LNB_takeFreePlace nS nP nR x y 16 0 ).2.1, (LNB_takeFreePlace nS nP nR x y 16 0 ).2.2.1, (LNB_takeFreePlace nS nP nR x y 16 0 ).2.2.2) := by first | (simp only [fNB_placeFor, ho2, ho5]; done) | (simp only [fNB_placeFor, ho2]; simp only [ho5])
      exact g_iret (v := ((dI, dO, dG, dN, dT), (aN, aB), ((LNB_takeFreePlace nS nP nR x y 16 0 ).2.1, (LNB_takeFreePlace nS nP nR x y 16 0 ).2.2.1, (LNB_takeFreePlace nS nP nR x y 16 0 ).2.2.2, nG, nO, nU, nT), (tP, tR, tO, tN, tF, tZ), (mP, mN))) hx hb hr hK hP hS ⟨by first | rfl | (rw [e1] <;> rfl), by first | rfl | (rw [e1] <;> rfl)⟩ hlocks dNB_placeFor_22
  · have hk1 := c_NB_heardPlace_lt ho2
    refine lv_istore_n (lv' := [(3, .int (nI k1)), (0, .ref (a 4)), (1, .int x), (2, .int y)]) hx hb dNB_placeFor_6 rfl hl (by decide) rfl (fun ls hl => ?_)
    refine lv_iload_n hx hb dNB_placeFor_7 rfl (lv_at hl 0 rfl) ?_
    refine lv_iconst (v := (-1)) hx hb dNB_placeFor_8 (by decide) ?_
    refine lv_icmp_eq (tgt := 16) hx hb dNB_placeFor_9 (by decide) (fun c0 => absurd c0 (nI_m1 (by omega))) (fun _ => ?_)
    refine lv_iload_n hx hb dNB_placeFor_12 rfl (lv_at hl 0 rfl) ?_
    refine lv_goto (tgt := 22) hx hb dNB_placeFor_13 (by decide) ?_
    have e1 : fNB_placeFor nS nP nR x y = (some k1, nS, nP, nR) := by simp only [fNB_placeFor, ho2]
    exact g_iret (v := ((dI, dO, dG, dN, dT), (aN, aB), (nS, nP, nR, nG, nO, nU, nT), (tP, tR, tO, tN, tF, tZ), (mP, mN))) hx hb hr hK hP hS ⟨by first | rfl | (rw [e1] <;> rfl), by first | rfl | (rw [e1] <;> rfl)⟩ hlocks dNB_placeFor_22
theorem c_NB_placeFor_lt {nS nP nR : Nat → Int32} {x y : Int32} {k : Nat} (h : (fNB_placeFor nS nP nR x y).1 = some k) : k < 16 := by
  unfold fNB_placeFor at h
  split at h
  · split at h
    · cases h
    · rename_i j hj
      cases h; exact c_NB_takeFreePlace_lt hj
  · rename_i j hj
    cases h; exact c_NB_heardPlace_lt hj
set_option maxHeartbeats 4000000 in
set_option maxRecDepth 100000 in
theorem c_NB_oweExactly (l : Launch) {D : va_G} {cI cL : ClassId} {a : Nat → Nat} {A : Nat → Prop} (hA : ∀ v : CS, va_D A (wC cI cL a v)) (dI : Nat) (dO dG dN dT : Int32) (aN aB : Nat → Int32) (nS nP nR nG : Nat → Int32) (nO nU : Nat → Int64) (nT : Nat → Int32) (tP tR tO tN : Nat → Int32) (tF tZ : Nat) (mP : Nat → Int32) (mN : Int64) (j : Nat) (w : Int64) (hj : j < 16) : Met l yNB_oweExactly wsNB_oweExactly ({ frames := 0, cells := 0, slots := 0, locals := 0 }) (va_Pc [.ref (a 4), .int (nI j), .long w] (gG D (tyC cI cL) (wC cI cL a) ((dI, dO, dG, dN, dT), (aN, aB), (nS, nP, nR, nG, nO, nU, nT), (tP, tR, tO, tN, tF, tZ), (mP, mN)))) (va_Qv (fun u : CS => u = ((dI, dO, dG, dN, dT), (aN, aB), (nS, nP, nR, nG, vp_updL nO j w, vp_updL nU j w, nT), (tP, tR, tO, tN, tF, tZ), (mP, mN))) (gG D (tyC cI cL) (wC cI cL a)) A) 0 0 A := by
  refine g_enter (by decide) rfl (Nat.le_of_ble_eq_true rfl) ?_
  intro p e s m below meth c ls F hK hP hl
  obtain ⟨hx, hb, hr, hml, hown, hts, hlocks⟩ := id F
  have hS : va_S A s.heap s.heap [] := va_S.rf
  have hl : lv_has ls 4 [(0, .ref (a 4)), (1, .int (nI j)), (2, .long w)] := hl
  refine lv_aload_n hx hb dNB_oweExactly_0 rfl (lv_at hl 0 rfl) ?_
  refine va_get (D := D) (ci := 2) (v := .ref (a 9)) (C := RNB) (T := TNB) (N := 7) hx hb hts inNB hown hK hP 4 rfl rfl 4 (by decide) (hts _ k71) (fun _ h9 => h9) rfl dNB_oweExactly_1 ?_
  refine lv_iload_n hx hb dNB_oweExactly_4 rfl (lv_at hl 1 rfl) ?_
  refine lv_lload_n hx hb dNB_oweExactly_5 rfl (lv_at hl 2 rfl) ?_
  refine ir_last hx hb hK hP (hA _) hS 9 1 rfl rfl (k := j) (by omega) (by decide) dNB_oweExactly_6 (fun H locs hP hS => ?_)
  have hP : va_P D vwCl (wC cI cL a ((dI, dO, dG, dN, dT), (aN, aB), (nS, nP, nR, nG, vp_updL nO j w, nU, nT), (tP, tR, tO, tN, tF, tZ), (mP, mN))) H := hP
  refine lv_aload_n hx hb dNB_oweExactly_7 rfl (lv_at hl 0 rfl) ?_
  refine va_get (D := D) (ci := 2) (v := .ref (a 10)) (C := RNB) (T := TNB) (N := 7) hx hb hts inNB hown hK hP 4 rfl rfl 5 (by decide) (hts _ k72) (fun _ h9 => h9) rfl dNB_oweExactly_8 ?_
  refine lv_iload_n hx hb dNB_oweExactly_11 rfl (lv_at hl 1 rfl) ?_
  refine lv_lload_n hx hb dNB_oweExactly_12 rfl (lv_at hl 2 rfl) ?_
  refine ir_last hx hb hK hP (hA _) hS 10 1 rfl rfl (k := j) (by omega) (by decide) dNB_oweExactly_13 (fun H locs hP hS => ?_)
  have hP : va_P D vwCl (wC cI cL a ((dI, dO, dG, dN, dT), (aN, aB), (nS, nP, nR, nG, vp_updL nO j w, vp_updL nU j w, nT), (tP, tR, tO, tN, tF, tZ), (mP, mN))) H := hP
  exact g_vret (v := ((dI, dO, dG, dN, dT), (aN, aB), (nS, nP, nR, nG, vp_updL nO j w, vp_updL nU j w, nT), (tP, tR, tO, tN, tF, tZ), (mP, mN))) hx hb hr hK hP hS (rfl) hlocks dNB_oweExactly_14
def fNB_greeted (nS : Nat → Int32) (nO : Nat → Int64) (nU : Nat → Int64) (j : Nat) (b : Bool) (w : Int64) : Int32 × (Nat → Int32) × (Nat → Int64) × (Nat → Int64) := (cond b (if (nS j) = 2 then (nS j, nS, nO, nU) else ((upd nS j 2) j, upd nS j 2, vp_updL nO j w, vp_updL nU j w)) ((upd nS j 1) j, upd nS j 1, vp_updL nO j 0, vp_updL nU j 0))
set_option maxHeartbeats 4000000 in
set_option maxRecDepth 100000 in
theorem c_NB_greeted (l : Launch) {D : va_G} {cI cL : ClassId} {a : Nat → Nat} {A : Nat → Prop} (hA : ∀ v : CS, va_D A (wC cI cL a v)) (dI : Nat) (dO dG dN dT : Int32) (aN aB : Nat → Int32) (nS nP nR nG : Nat → Int32) (nO nU : Nat → Int64) (nT : Nat → Int32) (tP tR tO tN : Nat → Int32) (tF tZ : Nat) (mP : Nat → Int32) (mN : Int64) (j : Nat) (x : Int32) (b : Bool) (w : Int64) (hj : j < 16) : Met l yNB_greeted wsNB_greeted ({ frames := 1, cells := 0, slots := 0, locals := 23 }) (va_Pc [.ref (a 4), .int (nI j), .int x, .int (bi b), .long w] (gG D (tyC cI cL) (wC cI cL a) ((dI, dO, dG, dN, dT), (aN, aB), (nS, nP, nR, nG, nO, nU, nT), (tP, tR, tO, tN, tF, tZ), (mP, mN)))) (va_Qi (fun (r : Int32) (u : CS) => r = (fNB_greeted nS nO nU j b w).1 ∧ u = ((dI, dO, dG, dN, dT), (aN, aB), ((fNB_greeted nS nO nU j b w).2.1, nP, nR, upd nG j x, (fNB_greeted nS nO nU j b w).2.2.1, (fNB_greeted nS nO nU j b w).2.2.2, nT), (tP, tR, tO, tN, tF, tZ), (mP, mN))) (gG D (tyC cI cL) (wC cI cL a)) A) 0 0 A := by
  refine g_enter (by decide) rfl (Nat.le_of_ble_eq_true rfl) ?_
  intro p e s m below meth c ls F hK hP hl
  obtain ⟨hx, hb, hr, hml, hown, hts, hlocks⟩ := id F
  have hS : va_S A s.heap s.heap [] := va_S.rf
  have hl : lv_has ls 6 [(0, .ref (a 4)), (1, .int (nI j)), (2, .int x), (3, .int (bi b)), (4, .long w)] := hl
  refine lv_aload_n hx hb dNB_greeted_0 rfl (lv_at hl 0 rfl) ?_
  refine va_get (D := D) (ci := 2) (v := .ref (a 8)) (C := RNB) (T := TNB) (N := 7) hx hb hts inNB hown hK hP 4 rfl rfl 3 (by decide) (hts _ k70) (fun _ h9 => h9) rfl dNB_greeted_1 ?_
  refine lv_iload_n hx hb dNB_greeted_4 rfl (lv_at hl 1 rfl) ?_
  refine lv_iload_n hx hb dNB_greeted_5 rfl (lv_at hl 2 rfl) ?_
  refine ir_iast hx hb hK hP (hA _) hS 8 0 rfl rfl (k := j) (by omega) (by decide) dNB_greeted_6 (fun H locs hP hS => ?_)
  have hP : va_P D vwCl (wC cI cL a ((dI, dO, dG, dN, dT), (aN, aB), (nS, nP, nR, upd nG j x, nO, nU, nT), (tP, tR, tO, tN, tF, tZ), (mP, mN))) H := hP
  refine lv_iload_n hx hb dNB_greeted_7 rfl (lv_at hl 3 rfl) ?_
  refine lv_if_neb (tgt := 27) hx hb dNB_greeted_8 (by decide) (fun c1 => ?_) (fun c1 => ?_)
  · refine lv_aload_n hx hb dNB_greeted_27 rfl (lv_at hl 0 rfl) ?_
    refine va_get (D := D) (ci := 2) (v := .ref (a 5)) (C := RNB) (T := TNB) (N := 7) hx hb hts inNB hown hK hP 4 rfl rfl 0 (by decide) (hts _ k67) (fun _ h9 => h9) rfl dNB_greeted_28 ?_
    refine lv_iload_n hx hb dNB_greeted_31 rfl (lv_at hl 1 rfl) ?_
    refine ir_iald hx hb hK hP 5 0 rfl rfl (k := j) (by omega) (by decide) dNB_greeted_32 ?_
    refine lv_iconst (v := 2) hx hb dNB_greeted_33 (by decide) ?_
    refine lv_icmp_eq (tgt := 51) hx hb dNB_greeted_34 (by decide) (fun c2 => ?_) (fun c2 => ?_)
    · refine lv_aload_n hx hb dNB_greeted_51 rfl (lv_at hl 0 rfl) ?_
      refine va_get (D := D) (ci := 2) (v := .ref (a 5)) (C := RNB) (T := TNB) (N := 7) hx hb hts inNB hown hK hP 4 rfl rfl 0 (by decide) (hts _ k67) (fun _ h9 => h9) rfl dNB_greeted_52 ?_
      refine lv_iload_n hx hb dNB_greeted_55 rfl (lv_at hl 1 rfl) ?_
      refine ir_iald hx hb hK hP 5 0 rfl rfl (k := j) (by omega) (by decide) dNB_greeted_56 ?_
      have e1 : fNB_greeted nS nO nU j b w = (nS j, nS, nO, nU) := by first | (simp only [fNB_greeted, cond_yes c1, if_pos c2]; done) | (simp only [fNB_greeted, cond_yes c1]; simp only [if_pos c2])
      exact g_iret (v := ((dI, dO, dG, dN, dT), (aN, aB), (nS, nP, nR, upd nG j x, nO, nU, nT), (tP, tR, tO, tN, tF, tZ), (mP, mN))) hx hb hr hK hP hS ⟨by first | rfl | (rw [e1] <;> rfl), by first | rfl | (rw [e1] <;> rfl)⟩ hlocks dNB_greeted_57
    · refine lv_aload_n hx hb dNB_greeted_37 rfl (lv_at hl 0 rfl) ?_
      refine va_get (D := D) (ci := 2) (v := .ref (a 5)) (C := RNB) (T := TNB) (N := 7) hx hb hts inNB hown hK hP 4 rfl rfl 0 (by decide) (hts _ k67) (fun _ h9 => h9) rfl dNB_greeted_38 ?_
      refine lv_iload_n hx hb dNB_greeted_41 rfl (lv_at hl 1 rfl) ?_
      refine lv_iconst (v := 2) hx hb dNB_greeted_42 (by decide) ?_
      refine ir_iast hx hb hK hP (hA _) hS 5 0 rfl rfl (k := j) (by omega) (by decide) dNB_greeted_43 (fun H locs hP hS => ?_)
      have hP : va_P D vwCl (wC cI cL a ((dI, dO, dG, dN, dT), (aN, aB), (upd nS j 2, nP, nR, upd nG j x, nO, nU, nT), (tP, tR, tO, tN, tF, tZ), (mP, mN))) H := hP
      refine lv_aload_n hx hb dNB_greeted_44 rfl (lv_at hl 0 rfl) ?_
      refine lv_iload_n hx hb dNB_greeted_45 rfl (lv_at hl 1 rfl) ?_
      refine lv_lload hx hb dNB_greeted_46 (lv_at hl 4 rfl) ?_
      refine g_callVv (As := [.int (nI j), .long w]) (rest := []) ⟨hx, hb, hml, hown, hts⟩ (c_NB_oweExactly l hA dI dO dG dN dT aN aB (upd nS j 2) nP nR (upd nG j x) nO nU nT tP tR tO tN tF tZ mP mN j w (by first | omega | assumption)) (cwV 2 hts (gw_V k367 k369 k9 k29 k370) rfl rfl rfl (by decide +kernel) ⟨Nat.le_of_ble_eq_true rfl, Nat.le_of_ble_eq_true rfl⟩) hK hP (va_recv hK hP (ci := 2) (q0 := 4) rfl rfl) rfl hl.1 rfl (Nat.le_of_ble_eq_true rfl) dNB_greeted_48 ⟨Nat.zero_le _, Nat.zero_le _⟩ (fun q h => h) hS (fun H locs hP hS => ?_)
      have hP : va_P D vwCl (wC cI cL a ((dI, dO, dG, dN, dT), (aN, aB), (upd nS j 2, nP, nR, upd nG j x, vp_updL nO j w, vp_updL nU j w, nT), (tP, tR, tO, tN, tF, tZ), (mP, mN))) H := hP
      refine lv_aload_n hx hb dNB_greeted_51 rfl (lv_at hl 0 rfl) ?_
      refine va_get (D := D) (ci := 2) (v := .ref (a 5)) (C := RNB) (T := TNB) (N := 7) hx hb hts inNB hown hK hP 4 rfl rfl 0 (by decide) (hts _ k67) (fun _ h9 => h9) rfl dNB_greeted_52 ?_
      refine lv_iload_n hx hb dNB_greeted_55 rfl (lv_at hl 1 rfl) ?_
      refine ir_iald hx hb hK hP 5 0 rfl rfl (k := j) (by omega) (by decide) dNB_greeted_56 ?_
      have e1 : fNB_greeted nS nO nU j b w = ((upd nS j 2) j, upd nS j 2, vp_updL nO j w, vp_updL nU j w) := by first | (simp only [fNB_greeted, cond_yes c1, if_neg c2]; done) | (simp only [fNB_greeted, cond_yes c1]; simp only [if_neg c2])
      exact g_iret (v := ((dI, dO, dG, dN, dT), (aN, aB), (upd nS j 2, nP, nR, upd nG j x, vp_updL nO j w, vp_updL nU j w, nT), (tP, tR, tO, tN, tF, tZ), (mP, mN))) hx hb hr hK hP hS ⟨by first | rfl | (rw [e1] <;> rfl), by first | rfl | (rw [e1] <;> rfl)⟩ hlocks dNB_greeted_57
  · refine lv_aload_n hx hb dNB_greeted_11 rfl (lv_at hl 0 rfl) ?_
    refine va_get (D := D) (ci := 2) (v := .ref (a 5)) (C := RNB) (T := TNB) (N := 7) hx hb hts inNB hown hK hP 4 rfl rfl 0 (by decide) (hts _ k67) (fun _ h9 => h9) rfl dNB_greeted_12 ?_
    refine lv_iload_n hx hb dNB_greeted_15 rfl (lv_at hl 1 rfl) ?_
    refine lv_iconst (v := 1) hx hb dNB_greeted_16 (by decide) ?_
    refine ir_iast hx hb hK hP (hA _) hS 5 0 rfl rfl (k := j) (by omega) (by decide) dNB_greeted_17 (fun H locs hP hS => ?_)
    have hP : va_P D vwCl (wC cI cL a ((dI, dO, dG, dN, dT), (aN, aB), (upd nS j 1, nP, nR, upd nG j x, nO, nU, nT), (tP, tR, tO, tN, tF, tZ), (mP, mN))) H := hP
    refine lv_aload_n hx hb dNB_greeted_18 rfl (lv_at hl 0 rfl) ?_
    refine lv_iload_n hx hb dNB_greeted_19 rfl (lv_at hl 1 rfl) ?_
    refine lv_lconst (v := 0) hx hb dNB_greeted_20 (by decide) ?_
    refine g_callVv (As := [.int (nI j), .long 0]) (rest := []) ⟨hx, hb, hml, hown, hts⟩ (c_NB_oweExactly l hA dI dO dG dN dT aN aB (upd nS j 1) nP nR (upd nG j x) nO nU nT tP tR tO tN tF tZ mP mN j 0 (by first | omega | assumption)) (cwV 2 hts (gw_V k367 k369 k9 k29 k370) rfl rfl rfl (by decide +kernel) ⟨Nat.le_of_ble_eq_true rfl, Nat.le_of_ble_eq_true rfl⟩) hK hP (va_recv hK hP (ci := 2) (q0 := 4) rfl rfl) rfl hl.1 rfl (Nat.le_of_ble_eq_true rfl) dNB_greeted_21 ⟨Nat.zero_le _, Nat.zero_le _⟩ (fun q h => h) hS (fun H locs hP hS => ?_)
    have hP : va_P D vwCl (wC cI cL a ((dI, dO, dG, dN, dT), (aN, aB), (upd nS j 1, nP, nR, upd nG j x, vp_updL nO j 0, vp_updL nU j 0, nT), (tP, tR, tO, tN, tF, tZ), (mP, mN))) H := hP
    refine lv_goto (tgt := 51) hx hb dNB_greeted_24 (by decide) ?_
    refine lv_aload_n hx hb dNB_greeted_51 rfl (lv_at hl 0 rfl) ?_
    refine va_get (D := D) (ci := 2) (v := .ref (a 5)) (C := RNB) (T := TNB) (N := 7) hx hb hts inNB hown hK hP 4 rfl rfl 0 (by decide) (hts _ k67) (fun _ h9 => h9) rfl dNB_greeted_52 ?_
    refine lv_iload_n hx hb dNB_greeted_55 rfl (lv_at hl 1 rfl) ?_
    refine ir_iald hx hb hK hP 5 0 rfl rfl (k := j) (by omega) (by decide) dNB_greeted_56 ?_
    have e1 : fNB_greeted nS nO nU j b w = ((upd nS j 1) j, upd nS j 1, vp_updL nO j 0, vp_updL nU j 0) := by simp only [fNB_greeted, cond_no c1]
    exact g_iret (v := ((dI, dO, dG, dN, dT), (aN, aB), (upd nS j 1, nP, nR, upd nG j x, vp_updL nO j 0, vp_updL nU j 0, nT), (tP, tR, tO, tN, tF, tZ), (mP, mN))) hx hb hr hK hP hS ⟨by first | rfl | (rw [e1] <;> rfl), by first | rfl | (rw [e1] <;> rfl)⟩ hlocks dNB_greeted_57
set_option maxHeartbeats 4000000 in
set_option maxRecDepth 100000 in
theorem c_NB_drop (l : Launch) {D : va_G} {cI cL : ClassId} {a : Nat → Nat} {A : Nat → Prop} (hA : ∀ v : CS, va_D A (wC cI cL a v)) (dI : Nat) (dO dG dN dT : Int32) (aN aB : Nat → Int32) (nS nP nR nG : Nat → Int32) (nO nU : Nat → Int64) (nT : Nat → Int32) (tP tR tO tN : Nat → Int32) (tF tZ : Nat) (mP : Nat → Int32) (mN : Int64) (j : Nat) (hj : j < 16) : Met l yNB_drop wsNB_drop ({ frames := 1, cells := 0, slots := 0, locals := 23 }) (va_Pc [.ref (a 4), .int (nI j)] (gG D (tyC cI cL) (wC cI cL a) ((dI, dO, dG, dN, dT), (aN, aB), (nS, nP, nR, nG, nO, nU, nT), (tP, tR, tO, tN, tF, tZ), (mP, mN)))) (va_Qv (fun u : CS => u = ((dI, dO, dG, dN, dT), (aN, aB), (upd nS j 0, nP, nR, nG, vp_updL nO j 0, vp_updL nU j 0, nT), (tP, tR, tO, tN, tF, tZ), (mP, mN))) (gG D (tyC cI cL) (wC cI cL a)) A) 0 0 A := by
  refine g_enter (by decide) rfl (Nat.le_of_ble_eq_true rfl) ?_
  intro p e s m below meth c ls F hK hP hl
  obtain ⟨hx, hb, hr, hml, hown, hts, hlocks⟩ := id F
  have hS : va_S A s.heap s.heap [] := va_S.rf
  have hl : lv_has ls 2 [(0, .ref (a 4)), (1, .int (nI j))] := hl
  refine lv_aload_n hx hb dNB_drop_0 rfl (lv_at hl 0 rfl) ?_
  refine va_get (D := D) (ci := 2) (v := .ref (a 5)) (C := RNB) (T := TNB) (N := 7) hx hb hts inNB hown hK hP 4 rfl rfl 0 (by decide) (hts _ k67) (fun _ h9 => h9) rfl dNB_drop_1 ?_
  refine lv_iload_n hx hb dNB_drop_4 rfl (lv_at hl 1 rfl) ?_
  refine lv_iconst (v := 0) hx hb dNB_drop_5 (by decide) ?_
  refine ir_iast hx hb hK hP (hA _) hS 5 0 rfl rfl (k := j) (by omega) (by decide) dNB_drop_6 (fun H locs hP hS => ?_)
  have hP : va_P D vwCl (wC cI cL a ((dI, dO, dG, dN, dT), (aN, aB), (upd nS j 0, nP, nR, nG, nO, nU, nT), (tP, tR, tO, tN, tF, tZ), (mP, mN))) H := hP
  refine lv_aload_n hx hb dNB_drop_7 rfl (lv_at hl 0 rfl) ?_
  refine lv_iload_n hx hb dNB_drop_8 rfl (lv_at hl 1 rfl) ?_
  refine lv_lconst (v := 0) hx hb dNB_drop_9 (by decide) ?_
  refine g_callVv (As := [.int (nI j), .long 0]) (rest := []) ⟨hx, hb, hml, hown, hts⟩ (c_NB_oweExactly l hA dI dO dG dN dT aN aB (upd nS j 0) nP nR nG nO nU nT tP tR tO tN tF tZ mP mN j 0 (by first | omega | assumption)) (cwV 2 hts (gw_V k367 k369 k9 k29 k370) rfl rfl rfl (by decide +kernel) ⟨Nat.le_of_ble_eq_true rfl, Nat.le_of_ble_eq_true rfl⟩) hK hP (va_recv hK hP (ci := 2) (q0 := 4) rfl rfl) rfl hl.1 rfl (Nat.le_of_ble_eq_true rfl) dNB_drop_10 ⟨Nat.zero_le _, Nat.zero_le _⟩ (fun q h => h) hS (fun H locs hP hS => ?_)
  have hP : va_P D vwCl (wC cI cL a ((dI, dO, dG, dN, dT), (aN, aB), (upd nS j 0, nP, nR, nG, vp_updL nO j 0, vp_updL nU j 0, nT), (tP, tR, tO, tN, tF, tZ), (mP, mN))) H := hP
  exact g_vret (v := ((dI, dO, dG, dN, dT), (aN, aB), (upd nS j 0, nP, nR, nG, vp_updL nO j 0, vp_updL nU j 0, nT), (tP, tR, tO, tN, tF, tZ), (mP, mN))) hx hb hr hK hP hS (rfl) hlocks dNB_drop_13
def LNB_dropPort (nP : Nat → Int32) (x : Int32) : Nat → Nat → (Nat → Int32) → (Nat → Int64) → (Nat → Int64) → (Nat → Int32) × (Nat → Int64) × (Nat → Int64)
  | 0, k, nS, nO, nU => (nS, nO, nU)
  | n + 1, k, nS, nO, nU => (if (nS k) = 0 then LNB_dropPort nP x n (k + 1) nS nO nU else (if (nP k) = x then LNB_dropPort nP x n (k + 1) (upd nS k 0) (vp_updL nO k 0) (vp_updL nU k 0) else LNB_dropPort nP x n (k + 1) nS nO nU))
set_option maxHeartbeats 4000000 in
set_option maxRecDepth 100000 in
theorem lpNB_dropPort {p : Program} {l : Launch} {e : Env} {s : State} {m : MethodId} {args : Array Value} {below : List Frame} {meth : Method} {c : Code} {D : va_G} {cI cL : ClassId} {a : Nat → Nat} {A : Nat → Prop} (hA : ∀ v : CS, va_D A (wC cI cL a v)) (F : gFix p c cNB_dropPort meth (none) m s args bigW RNB 3) (hK : va_K D vwCl (tyC cI cL) s) {dI : Nat} {dO : Int32} {dG : Int32} {dN : Int32} {dT : Int32} {aN : Nat → Int32} {aB : Nat → Int32} {nP : Nat → Int32} {nR : Nat → Int32} {nG : Nat → Int32} {nT : Nat → Int32} {tP : Nat → Int32} {tR : Nat → Int32} {tO : Nat → Int32} {tN : Nat → Int32} {tF : Nat} {tZ : Nat} {mP : Nat → Int32} {mN : Int64} {x : Int32}  (post : CS → Prop) : ∀ (n k : Nat)  (nS : Nat → Int32) (nO : Nat → Int64) (nU : Nat → Int64) (ls : Array Slot) (H : Heap) (locs : List Loc), k + n = 16 → va_P D vwCl (wC cI cL a ((dI, dO, dG, dN, dT), (aN, aB), (nS, nP, nR, nG, nO, nU, nT), (tP, tR, tO, tN, tF, tZ), (mP, mN))) H → va_S A s.heap H locs → lv_has ls 3 [(2, .int (nI k)), (0, .ref (a 4)), (1, .int x)] → post  ((dI, dO, dG, dN, dT), (aN, aB), ((LNB_dropPort nP x n k nS nO nU).1, nP, nR, nG, (LNB_dropPort nP x n k nS nO nU).2.1, (LNB_dropPort nP x n k nS nO nU).2.2, nT), (tP, tR, tO, tN, tF, tZ), (mP, mN)) → W p l e ({ frames := 2, cells := 0, slots := 0, locals := 44 }) s m args below meth c H locs 0 0 (MQ below (va_Qv post (gG D (tyC cI cL) (wC cI cL a)) A) args s 0 0 A) (F0 m 2 ls []) := by
  obtain ⟨hx, hb, hr, hml, hown, hts, hlocks⟩ := F
  intro n
  induction n with
  | zero =>
    intro k nS nO nU ls H locs hkn  hP hS hl hq
    refine lv_iload_n hx hb dNB_dropPort_2 rfl (lv_at hl 0 rfl) ?_
    refine lv_bipush (v := nI 16) hx hb dNB_dropPort_3 (by decide) ?_
    refine lv_icmp_ge (tgt := 38) hx hb dNB_dropPort_5 (by decide) (fun _ => ?_) (fun c0 => absurd (nI_le (by omega) (by omega)) c0)
    have e1 : LNB_dropPort nP x 0 k nS nO nU = (nS, nO, nU) := by simp only [LNB_dropPort]
    rw [e1] at hq
    exact g_vret hx hb hr hK hP hS hq hlocks dNB_dropPort_38
  | succ n ih =>
    intro k nS nO nU ls H locs hkn  hP hS hl hq
    refine lv_iload_n hx hb dNB_dropPort_2 rfl (lv_at hl 0 rfl) ?_
    refine lv_bipush (v := nI 16) hx hb dNB_dropPort_3 (by decide) ?_
    refine lv_icmp_ge (tgt := 38) hx hb dNB_dropPort_5 (by decide) (fun c0 => absurd c0 (nI_ge (by omega) (by decide))) (fun _ => ?_)
    refine lv_aload_n hx hb dNB_dropPort_8 rfl (lv_at hl 1 rfl) ?_
    refine va_get (D := D) (ci := 2) (v := .ref (a 5)) (C := RNB) (T := TNB) (N := 7) hx hb hts inNB hown hK hP 4 rfl rfl 0 (by decide) (hts _ k67) (fun _ h9 => h9) rfl dNB_dropPort_9 ?_
    refine lv_iload_n hx hb dNB_dropPort_12 rfl (lv_at hl 0 rfl) ?_
    refine ir_iald hx hb hK hP 5 0 rfl rfl (k := k) (by omega) (by decide) dNB_dropPort_13 ?_
    refine lv_if_eq (tgt := 32) hx hb dNB_dropPort_14 (by decide) (fun c3 => ?_) (fun c3 => ?_)
    · refine lv_iinc (v := nI (k + 1)) (lv' := [(2, .int (nI (k + 1))), (0, .ref (a 4)), (1, .int x)]) hx hb dNB_dropPort_32 hl (k := 0) rfl (nI_1 k) (by decide) rfl (fun ls hl => ?_)
      refine lv_goto (tgt := 2) hx hb dNB_dropPort_35 (by decide) ?_
      have e1 : LNB_dropPort nP x (n + 1) k nS nO nU = LNB_dropPort nP x n (k + 1) nS nO nU := by simp only [LNB_dropPort, if_pos c3]
      rw [e1] at hq
      exact ih (k + 1) nS nO nU ls H locs (by omega)  hP hS (lv_sub hl [0, 1, 2] rfl) hq
    · refine lv_aload_n hx hb dNB_dropPort_17 rfl (lv_at hl 1 rfl) ?_
      refine va_get (D := D) (ci := 2) (v := .ref (a 6)) (C := RNB) (T := TNB) (N := 7) hx hb hts inNB hown hK hP 4 rfl rfl 1 (by decide) (hts _ k68) (fun _ h9 => h9) rfl dNB_dropPort_18 ?_
      refine lv_iload_n hx hb dNB_dropPort_21 rfl (lv_at hl 0 rfl) ?_
      refine ir_iald hx hb hK hP 6 0 rfl rfl (k := k) (by omega) (by decide) dNB_dropPort_22 ?_
      refine lv_iload_n hx hb dNB_dropPort_23 rfl (lv_at hl 2 rfl) ?_
      refine lv_icmp_ne (tgt := 32) hx hb dNB_dropPort_24 (by decide) (fun c4 => ?_) (fun c4 => ?_)
      · refine lv_iinc (v := nI (k + 1)) (lv' := [(2, .int (nI (k + 1))), (0, .ref (a 4)), (1, .int x)]) hx hb dNB_dropPort_32 hl (k := 0) rfl (nI_1 k) (by decide) rfl (fun ls hl => ?_)
        refine lv_goto (tgt := 2) hx hb dNB_dropPort_35 (by decide) ?_
        have e1 : LNB_dropPort nP x (n + 1) k nS nO nU = LNB_dropPort nP x n (k + 1) nS nO nU := by first | (simp only [LNB_dropPort, if_neg c3, if_neg c4]; done) | (simp only [LNB_dropPort, if_neg c3]; simp only [if_neg c4])
        rw [e1] at hq
        exact ih (k + 1) nS nO nU ls H locs (by omega)  hP hS (lv_sub hl [0, 1, 2] rfl) hq
      · refine lv_aload_n hx hb dNB_dropPort_27 rfl (lv_at hl 1 rfl) ?_
        refine lv_iload_n hx hb dNB_dropPort_28 rfl (lv_at hl 0 rfl) ?_
        refine g_callVv (As := [.int (nI k)]) (rest := []) ⟨hx, hb, hml, hown, hts⟩ (c_NB_drop l hA dI dO dG dN dT aN aB nS nP nR nG nO nU nT tP tR tO tN tF tZ mP mN k (by first | omega | assumption)) (cwV 1 hts (gw_V k363 k365 k8 k29 k366) rfl rfl rfl (by decide +kernel) ⟨Nat.le_of_ble_eq_true rfl, Nat.le_of_ble_eq_true rfl⟩) hK hP (va_recv hK hP (ci := 2) (q0 := 4) rfl rfl) rfl hl.1 rfl (Nat.le_of_ble_eq_true rfl) dNB_dropPort_29 ⟨Nat.zero_le _, Nat.zero_le _⟩ (fun q h => h) hS (fun H locs hP hS => ?_)
        have hP : va_P D vwCl (wC cI cL a ((dI, dO, dG, dN, dT), (aN, aB), (upd nS k 0, nP, nR, nG, vp_updL nO k 0, vp_updL nU k 0, nT), (tP, tR, tO, tN, tF, tZ), (mP, mN))) H := hP
        refine lv_iinc (v := nI (k + 1)) (lv' := [(2, .int (nI (k + 1))), (0, .ref (a 4)), (1, .int x)]) hx hb dNB_dropPort_32 hl (k := 0) rfl (nI_1 k) (by decide) rfl (fun ls hl => ?_)
        refine lv_goto (tgt := 2) hx hb dNB_dropPort_35 (by decide) ?_
        have e1 : LNB_dropPort nP x (n + 1) k nS nO nU = LNB_dropPort nP x n (k + 1) (upd nS k 0) (vp_updL nO k 0) (vp_updL nU k 0) := by first | (simp only [LNB_dropPort, if_neg c3, if_pos c4]; done) | (simp only [LNB_dropPort, if_neg c3]; simp only [if_pos c4])
        rw [e1] at hq
        exact ih (k + 1) (upd nS k 0) (vp_updL nO k 0) (vp_updL nU k 0) ls H locs (by omega)  hP hS (lv_sub hl [0, 1, 2] rfl) hq
set_option maxHeartbeats 4000000 in
set_option maxRecDepth 100000 in
theorem c_NB_dropPort (l : Launch) {D : va_G} {cI cL : ClassId} {a : Nat → Nat} {A : Nat → Prop} (hA : ∀ v : CS, va_D A (wC cI cL a v)) (dI : Nat) (dO dG dN dT : Int32) (aN aB : Nat → Int32) (nS nP nR nG : Nat → Int32) (nO nU : Nat → Int64) (nT : Nat → Int32) (tP tR tO tN : Nat → Int32) (tF tZ : Nat) (mP : Nat → Int32) (mN : Int64) (x : Int32)  : Met l yNB_dropPort wsNB_dropPort ({ frames := 2, cells := 0, slots := 0, locals := 44 }) (va_Pc [.ref (a 4), .int x] (gG D (tyC cI cL) (wC cI cL a) ((dI, dO, dG, dN, dT), (aN, aB), (nS, nP, nR, nG, nO, nU, nT), (tP, tR, tO, tN, tF, tZ), (mP, mN)))) (va_Qv (fun u : CS => u = ((dI, dO, dG, dN, dT), (aN, aB), ((LNB_dropPort nP x 16 0 nS nO nU).1, nP, nR, nG, (LNB_dropPort nP x 16 0 nS nO nU).2.1, (LNB_dropPort nP x 16 0 nS nO nU).2.2, nT), (tP, tR, tO, tN, tF, tZ), (mP, mN))) (gG D (tyC cI cL) (wC cI cL a)) A) 0 0 A := by
  refine g_enter (by decide) rfl (Nat.le_of_ble_eq_true rfl) ?_
  intro p e s m below meth c ls F hK hP hl
  obtain ⟨hx, hb, hr, hml, hown, hts, hlocks⟩ := id F
  have hS : va_S A s.heap s.heap [] := va_S.rf
  have hl : lv_has ls 3 [(0, .ref (a 4)), (1, .int x)] := hl
  refine lv_iconst (v := nI 0) hx hb dNB_dropPort_0 (by decide) ?_
  refine lv_istore_n (lv' := [(2, .int (nI 0)), (0, .ref (a 4)), (1, .int x)]) hx hb dNB_dropPort_1 rfl hl (by decide) rfl (fun ls hl => ?_)
  exact lpNB_dropPort hA F hK  _ 16 0 nS nO nU ls _ _ rfl  hP hS (lv_sub hl [0, 1, 2] rfl) rfl
def LNB_dropSilent (nG : Nat → Int32) (x : Int32) : Nat → Nat → (Nat → Int32) → (Nat → Int64) → (Nat → Int64) → (Nat → Int32) × (Nat → Int64) × (Nat → Int64)
  | 0, k, nS, nO, nU => (nS, nO, nU)
  | n + 1, k, nS, nO, nU => (if (nS k) = 0 then LNB_dropSilent nG x n (k + 1) nS nO nU else (if (x - (nG k)) < 80 then LNB_dropSilent nG x n (k + 1) nS nO nU else LNB_dropSilent nG x n (k + 1) (upd nS k 0) (vp_updL nO k 0) (vp_updL nU k 0)))
set_option maxHeartbeats 4000000 in
set_option maxRecDepth 100000 in
theorem lpNB_dropSilent {p : Program} {l : Launch} {e : Env} {s : State} {m : MethodId} {args : Array Value} {below : List Frame} {meth : Method} {c : Code} {D : va_G} {cI cL : ClassId} {a : Nat → Nat} {A : Nat → Prop} (hA : ∀ v : CS, va_D A (wC cI cL a v)) (F : gFix p c cNB_dropSilent meth (none) m s args bigW RNB 3) (hK : va_K D vwCl (tyC cI cL) s) {dI : Nat} {dO : Int32} {dG : Int32} {dN : Int32} {dT : Int32} {aN : Nat → Int32} {aB : Nat → Int32} {nP : Nat → Int32} {nR : Nat → Int32} {nG : Nat → Int32} {nT : Nat → Int32} {tP : Nat → Int32} {tR : Nat → Int32} {tO : Nat → Int32} {tN : Nat → Int32} {tF : Nat} {tZ : Nat} {mP : Nat → Int32} {mN : Int64} {x : Int32}  (post : CS → Prop) : ∀ (n k : Nat)  (nS : Nat → Int32) (nO : Nat → Int64) (nU : Nat → Int64) (ls : Array Slot) (H : Heap) (locs : List Loc), k + n = 16 → va_P D vwCl (wC cI cL a ((dI, dO, dG, dN, dT), (aN, aB), (nS, nP, nR, nG, nO, nU, nT), (tP, tR, tO, tN, tF, tZ), (mP, mN))) H → va_S A s.heap H locs → lv_has ls 3 [(2, .int (nI k)), (0, .ref (a 4)), (1, .int x)] → post  ((dI, dO, dG, dN, dT), (aN, aB), ((LNB_dropSilent nG x n k nS nO nU).1, nP, nR, nG, (LNB_dropSilent nG x n k nS nO nU).2.1, (LNB_dropSilent nG x n k nS nO nU).2.2, nT), (tP, tR, tO, tN, tF, tZ), (mP, mN)) → W p l e ({ frames := 2, cells := 0, slots := 0, locals := 44 }) s m args below meth c H locs 0 0 (MQ below (va_Qv post (gG D (tyC cI cL) (wC cI cL a)) A) args s 0 0 A) (F0 m 2 ls []) := by
  obtain ⟨hx, hb, hr, hml, hown, hts, hlocks⟩ := F
  intro n
  induction n with
  | zero =>
    intro k nS nO nU ls H locs hkn  hP hS hl hq
    refine lv_iload_n hx hb dNB_dropSilent_2 rfl (lv_at hl 0 rfl) ?_
    refine lv_bipush (v := nI 16) hx hb dNB_dropSilent_3 (by decide) ?_
    refine lv_icmp_ge (tgt := 41) hx hb dNB_dropSilent_5 (by decide) (fun _ => ?_) (fun c0 => absurd (nI_le (by omega) (by omega)) c0)
    have e1 : LNB_dropSilent nG x 0 k nS nO nU = (nS, nO, nU) := by simp only [LNB_dropSilent]
    rw [e1] at hq
    exact g_vret hx hb hr hK hP hS hq hlocks dNB_dropSilent_41
  | succ n ih =>
    intro k nS nO nU ls H locs hkn  hP hS hl hq
    refine lv_iload_n hx hb dNB_dropSilent_2 rfl (lv_at hl 0 rfl) ?_
    refine lv_bipush (v := nI 16) hx hb dNB_dropSilent_3 (by decide) ?_
    refine lv_icmp_ge (tgt := 41) hx hb dNB_dropSilent_5 (by decide) (fun c0 => absurd c0 (nI_ge (by omega) (by decide))) (fun _ => ?_)
    refine lv_aload_n hx hb dNB_dropSilent_8 rfl (lv_at hl 1 rfl) ?_
    refine va_get (D := D) (ci := 2) (v := .ref (a 5)) (C := RNB) (T := TNB) (N := 7) hx hb hts inNB hown hK hP 4 rfl rfl 0 (by decide) (hts _ k67) (fun _ h9 => h9) rfl dNB_dropSilent_9 ?_
    refine lv_iload_n hx hb dNB_dropSilent_12 rfl (lv_at hl 0 rfl) ?_
    refine ir_iald hx hb hK hP 5 0 rfl rfl (k := k) (by omega) (by decide) dNB_dropSilent_13 ?_
    refine lv_if_eq (tgt := 35) hx hb dNB_dropSilent_14 (by decide) (fun c3 => ?_) (fun c3 => ?_)
    · refine lv_iinc (v := nI (k + 1)) (lv' := [(2, .int (nI (k + 1))), (0, .ref (a 4)), (1, .int x)]) hx hb dNB_dropSilent_35 hl (k := 0) rfl (nI_1 k) (by decide) rfl (fun ls hl => ?_)
      refine lv_goto (tgt := 2) hx hb dNB_dropSilent_38 (by decide) ?_
      have e1 : LNB_dropSilent nG x (n + 1) k nS nO nU = LNB_dropSilent nG x n (k + 1) nS nO nU := by simp only [LNB_dropSilent, if_pos c3]
      rw [e1] at hq
      exact ih (k + 1) nS nO nU ls H locs (by omega)  hP hS (lv_sub hl [0, 1, 2] rfl) hq
    · refine lv_iload_n hx hb dNB_dropSilent_17 rfl (lv_at hl 2 rfl) ?_
      refine lv_aload_n hx hb dNB_dropSilent_18 rfl (lv_at hl 1 rfl) ?_
      refine va_get (D := D) (ci := 2) (v := .ref (a 8)) (C := RNB) (T := TNB) (N := 7) hx hb hts inNB hown hK hP 4 rfl rfl 3 (by decide) (hts _ k70) (fun _ h9 => h9) rfl dNB_dropSilent_19 ?_
      refine lv_iload_n hx hb dNB_dropSilent_22 rfl (lv_at hl 0 rfl) ?_
      refine ir_iald hx hb hK hP 8 0 rfl rfl (k := k) (by omega) (by decide) dNB_dropSilent_23 ?_
      refine lv_isub hx hb dNB_dropSilent_24 ?_
      refine lv_bipush (v := 80) hx hb dNB_dropSilent_25 (by decide) ?_
      refine lv_icmp_lt (tgt := 35) hx hb dNB_dropSilent_27 (by decide) (fun c4 => ?_) (fun c4 => ?_)
      · refine lv_iinc (v := nI (k + 1)) (lv' := [(2, .int (nI (k + 1))), (0, .ref (a 4)), (1, .int x)]) hx hb dNB_dropSilent_35 hl (k := 0) rfl (nI_1 k) (by decide) rfl (fun ls hl => ?_)
        refine lv_goto (tgt := 2) hx hb dNB_dropSilent_38 (by decide) ?_
        have e1 : LNB_dropSilent nG x (n + 1) k nS nO nU = LNB_dropSilent nG x n (k + 1) nS nO nU := by first | (simp only [LNB_dropSilent, if_neg c3, if_pos c4]; done) | (simp only [LNB_dropSilent, if_neg c3]; simp only [if_pos c4])
        rw [e1] at hq
        exact ih (k + 1) nS nO nU ls H locs (by omega)  hP hS (lv_sub hl [0, 1, 2] rfl) hq
      · refine lv_aload_n hx hb dNB_dropSilent_30 rfl (lv_at hl 1 rfl) ?_
        refine lv_iload_n hx hb dNB_dropSilent_31 rfl (lv_at hl 0 rfl) ?_
        refine g_callVv (As := [.int (nI k)]) (rest := []) ⟨hx, hb, hml, hown, hts⟩ (c_NB_drop l hA dI dO dG dN dT aN aB nS nP nR nG nO nU nT tP tR tO tN tF tZ mP mN k (by first | omega | assumption)) (cwV 1 hts (gw_V k363 k365 k8 k29 k366) rfl rfl rfl (by decide +kernel) ⟨Nat.le_of_ble_eq_true rfl, Nat.le_of_ble_eq_true rfl⟩) hK hP (va_recv hK hP (ci := 2) (q0 := 4) rfl rfl) rfl hl.1 rfl (Nat.le_of_ble_eq_true rfl) dNB_dropSilent_32 ⟨Nat.zero_le _, Nat.zero_le _⟩ (fun q h => h) hS (fun H locs hP hS => ?_)
        have hP : va_P D vwCl (wC cI cL a ((dI, dO, dG, dN, dT), (aN, aB), (upd nS k 0, nP, nR, nG, vp_updL nO k 0, vp_updL nU k 0, nT), (tP, tR, tO, tN, tF, tZ), (mP, mN))) H := hP
        refine lv_iinc (v := nI (k + 1)) (lv' := [(2, .int (nI (k + 1))), (0, .ref (a 4)), (1, .int x)]) hx hb dNB_dropSilent_35 hl (k := 0) rfl (nI_1 k) (by decide) rfl (fun ls hl => ?_)
        refine lv_goto (tgt := 2) hx hb dNB_dropSilent_38 (by decide) ?_
        have e1 : LNB_dropSilent nG x (n + 1) k nS nO nU = LNB_dropSilent nG x n (k + 1) (upd nS k 0) (vp_updL nO k 0) (vp_updL nU k 0) := by first | (simp only [LNB_dropSilent, if_neg c3, if_neg c4]; done) | (simp only [LNB_dropSilent, if_neg c3]; simp only [if_neg c4])
        rw [e1] at hq
        exact ih (k + 1) (upd nS k 0) (vp_updL nO k 0) (vp_updL nU k 0) ls H locs (by omega)  hP hS (lv_sub hl [0, 1, 2] rfl) hq
set_option maxHeartbeats 4000000 in
set_option maxRecDepth 100000 in
theorem c_NB_dropSilent (l : Launch) {D : va_G} {cI cL : ClassId} {a : Nat → Nat} {A : Nat → Prop} (hA : ∀ v : CS, va_D A (wC cI cL a v)) (dI : Nat) (dO dG dN dT : Int32) (aN aB : Nat → Int32) (nS nP nR nG : Nat → Int32) (nO nU : Nat → Int64) (nT : Nat → Int32) (tP tR tO tN : Nat → Int32) (tF tZ : Nat) (mP : Nat → Int32) (mN : Int64) (x : Int32)  : Met l yNB_dropSilent wsNB_dropSilent ({ frames := 2, cells := 0, slots := 0, locals := 44 }) (va_Pc [.ref (a 4), .int x] (gG D (tyC cI cL) (wC cI cL a) ((dI, dO, dG, dN, dT), (aN, aB), (nS, nP, nR, nG, nO, nU, nT), (tP, tR, tO, tN, tF, tZ), (mP, mN)))) (va_Qv (fun u : CS => u = ((dI, dO, dG, dN, dT), (aN, aB), ((LNB_dropSilent nG x 16 0 nS nO nU).1, nP, nR, nG, (LNB_dropSilent nG x 16 0 nS nO nU).2.1, (LNB_dropSilent nG x 16 0 nS nO nU).2.2, nT), (tP, tR, tO, tN, tF, tZ), (mP, mN))) (gG D (tyC cI cL) (wC cI cL a)) A) 0 0 A := by
  refine g_enter (by decide) rfl (Nat.le_of_ble_eq_true rfl) ?_
  intro p e s m below meth c ls F hK hP hl
  obtain ⟨hx, hb, hr, hml, hown, hts, hlocks⟩ := id F
  have hS : va_S A s.heap s.heap [] := va_S.rf
  have hl : lv_has ls 3 [(0, .ref (a 4)), (1, .int x)] := hl
  refine lv_iconst (v := nI 0) hx hb dNB_dropSilent_0 (by decide) ?_
  refine lv_istore_n (lv' := [(2, .int (nI 0)), (0, .ref (a 4)), (1, .int x)]) hx hb dNB_dropSilent_1 rfl hl (by decide) rfl (fun ls hl => ?_)
  exact lpNB_dropSilent hA F hK  _ 16 0 nS nO nU ls _ _ rfl  hP hS (lv_sub hl [0, 1, 2] rfl) rfl
set_option maxHeartbeats 4000000 in
set_option maxRecDepth 100000 in
theorem c_NB_owe (l : Launch) {D : va_G} {cI cL : ClassId} {a : Nat → Nat} {A : Nat → Prop} (hA : ∀ v : CS, va_D A (wC cI cL a v)) (dI : Nat) (dO dG dN dT : Int32) (aN aB : Nat → Int32) (nS nP nR nG : Nat → Int32) (nO nU : Nat → Int64) (nT : Nat → Int32) (tP tR tO tN : Nat → Int32) (tF tZ : Nat) (mP : Nat → Int32) (mN : Int64) (j : Nat) (o : Nat) (hj : j < 16) (ho : o < 64) : Met l yNB_owe wsNB_owe ({ frames := 0, cells := 0, slots := 0, locals := 0 }) (va_Pc [.ref (a 4), .int (nI j), .int (nI o)] (gG D (tyC cI cL) (wC cI cL a) ((dI, dO, dG, dN, dT), (aN, aB), (nS, nP, nR, nG, nO, nU, nT), (tP, tR, tO, tN, tF, tZ), (mP, mN)))) (va_Qv (fun u : CS => u = ((dI, dO, dG, dN, dT), (aN, aB), (nS, nP, nR, nG, vp_updL nO j ((nO j) ||| (bL o)), vp_updL nU j ((nU j) ||| (bL o)), nT), (tP, tR, tO, tN, tF, tZ), (mP, mN))) (gG D (tyC cI cL) (wC cI cL a)) A) 0 0 A := by
  refine g_enter (by decide) rfl (Nat.le_of_ble_eq_true rfl) ?_
  intro p e s m below meth c ls F hK hP hl
  obtain ⟨hx, hb, hr, hml, hown, hts, hlocks⟩ := id F
  have hS : va_S A s.heap s.heap [] := va_S.rf
  have hl : lv_has ls 3 [(0, .ref (a 4)), (1, .int (nI j)), (2, .int (nI o))] := hl
  refine lv_aload_n hx hb dNB_owe_0 rfl (lv_at hl 0 rfl) ?_
  refine va_get (D := D) (ci := 2) (v := .ref (a 9)) (C := RNB) (T := TNB) (N := 7) hx hb hts inNB hown hK hP 4 rfl rfl 4 (by decide) (hts _ k71) (fun _ h9 => h9) rfl dNB_owe_1 ?_
  refine lv_iload_n hx hb dNB_owe_4 rfl (lv_at hl 1 rfl) ?_
  refine lv_dup2_11 hx hb dNB_owe_5 rfl rfl ?_
  refine ir_lald hx hb hK hP 9 1 rfl rfl (k := j) (by omega) (by decide) dNB_owe_6 ?_
  refine lv_lconst (v := 1) hx hb dNB_owe_7 (by decide) ?_
  refine lv_iload_n hx hb dNB_owe_8 rfl (lv_at hl 2 rfl) ?_
  refine lv_lshl (v := bL o) hx hb dNB_owe_9 rfl ?_
  refine lv_lor hx hb dNB_owe_10 ?_
  refine ir_last hx hb hK hP (hA _) hS 9 1 rfl rfl (k := j) (by omega) (by decide) dNB_owe_11 (fun H locs hP hS => ?_)
  have hP : va_P D vwCl (wC cI cL a ((dI, dO, dG, dN, dT), (aN, aB), (nS, nP, nR, nG, vp_updL nO j ((nO j) ||| (bL o)), nU, nT), (tP, tR, tO, tN, tF, tZ), (mP, mN))) H := hP
  refine lv_aload_n hx hb dNB_owe_12 rfl (lv_at hl 0 rfl) ?_
  refine va_get (D := D) (ci := 2) (v := .ref (a 10)) (C := RNB) (T := TNB) (N := 7) hx hb hts inNB hown hK hP 4 rfl rfl 5 (by decide) (hts _ k72) (fun _ h9 => h9) rfl dNB_owe_13 ?_
  refine lv_iload_n hx hb dNB_owe_16 rfl (lv_at hl 1 rfl) ?_
  refine lv_dup2_11 hx hb dNB_owe_17 rfl rfl ?_
  refine ir_lald hx hb hK hP 10 1 rfl rfl (k := j) (by omega) (by decide) dNB_owe_18 ?_
  refine lv_lconst (v := 1) hx hb dNB_owe_19 (by decide) ?_
  refine lv_iload_n hx hb dNB_owe_20 rfl (lv_at hl 2 rfl) ?_
  refine lv_lshl (v := bL o) hx hb dNB_owe_21 rfl ?_
  refine lv_lor hx hb dNB_owe_22 ?_
  refine ir_last hx hb hK hP (hA _) hS 10 1 rfl rfl (k := j) (by omega) (by decide) dNB_owe_23 (fun H locs hP hS => ?_)
  have hP : va_P D vwCl (wC cI cL a ((dI, dO, dG, dN, dT), (aN, aB), (nS, nP, nR, nG, vp_updL nO j ((nO j) ||| (bL o)), vp_updL nU j ((nU j) ||| (bL o)), nT), (tP, tR, tO, tN, tF, tZ), (mP, mN))) H := hP
  exact g_vret (v := ((dI, dO, dG, dN, dT), (aN, aB), (nS, nP, nR, nG, vp_updL nO j ((nO j) ||| (bL o)), vp_updL nU j ((nU j) ||| (bL o)), nT), (tP, tR, tO, tN, tF, tZ), (mP, mN))) hx hb hr hK hP hS (rfl) hlocks dNB_owe_24
def LNB_oweToFriendsBut (nS : Nat → Int32) (q : Option Nat) (o : Nat) : Nat → Nat → (Nat → Int64) → (Nat → Int64) → (Nat → Int64) × (Nat → Int64)
  | 0, k, nO, nU => (nO, nU)
  | n + 1, k, nO, nU => (if (nS k) = 2 then (if (nI k) = (oi q) then LNB_oweToFriendsBut nS q o n (k + 1) nO nU else LNB_oweToFriendsBut nS q o n (k + 1) (vp_updL nO k ((nO k) ||| (bL o))) (vp_updL nU k ((nU k) ||| (bL o)))) else LNB_oweToFriendsBut nS q o n (k + 1) nO nU)
set_option maxHeartbeats 4000000 in
set_option maxRecDepth 100000 in
theorem lpNB_oweToFriendsBut {p : Program} {l : Launch} {e : Env} {s : State} {m : MethodId} {args : Array Value} {below : List Frame} {meth : Method} {c : Code} {D : va_G} {cI cL : ClassId} {a : Nat → Nat} {A : Nat → Prop} (hA : ∀ v : CS, va_D A (wC cI cL a v)) (F : gFix p c cNB_oweToFriendsBut meth (none) m s args bigW RNB 4) (hK : va_K D vwCl (tyC cI cL) s) {dI : Nat} {dO : Int32} {dG : Int32} {dN : Int32} {dT : Int32} {aN : Nat → Int32} {aB : Nat → Int32} {nS : Nat → Int32} {nP : Nat → Int32} {nR : Nat → Int32} {nG : Nat → Int32} {nT : Nat → Int32} {tP : Nat → Int32} {tR : Nat → Int32} {tO : Nat → Int32} {tN : Nat → Int32} {tF : Nat} {tZ : Nat} {mP : Nat → Int32} {mN : Int64} {q : Option Nat} {o : Nat} (ho : o < 64) (post : CS → Prop) : ∀ (n k : Nat)  (nO : Nat → Int64) (nU : Nat → Int64) (ls : Array Slot) (H : Heap) (locs : List Loc), k + n = 16 → va_P D vwCl (wC cI cL a ((dI, dO, dG, dN, dT), (aN, aB), (nS, nP, nR, nG, nO, nU, nT), (tP, tR, tO, tN, tF, tZ), (mP, mN))) H → va_S A s.heap H locs → lv_has ls 4 [(3, .int (nI k)), (0, .ref (a 4)), (1, .int (oi q)), (2, .int (nI o))] → post  ((dI, dO, dG, dN, dT), (aN, aB), (nS, nP, nR, nG, (LNB_oweToFriendsBut nS q o n k nO nU).1, (LNB_oweToFriendsBut nS q o n k nO nU).2, nT), (tP, tR, tO, tN, tF, tZ), (mP, mN)) → W p l e ({ frames := 1, cells := 0, slots := 0, locals := 22 }) s m args below meth c H locs 0 0 (MQ below (va_Qv post (gG D (tyC cI cL) (wC cI cL a)) A) args s 0 0 A) (F0 m 2 ls []) := by
  obtain ⟨hx, hb, hr, hml, hown, hts, hlocks⟩ := F
  intro n
  induction n with
  | zero =>
    intro k nO nU ls H locs hkn  hP hS hl hq
    refine lv_iload_n hx hb dNB_oweToFriendsBut_2 rfl (lv_at hl 0 rfl) ?_
    refine lv_bipush (v := nI 16) hx hb dNB_oweToFriendsBut_3 (by decide) ?_
    refine lv_icmp_ge (tgt := 35) hx hb dNB_oweToFriendsBut_5 (by decide) (fun _ => ?_) (fun c0 => absurd (nI_le (by omega) (by omega)) c0)
    have e1 : LNB_oweToFriendsBut nS q o 0 k nO nU = (nO, nU) := by simp only [LNB_oweToFriendsBut]
    rw [e1] at hq
    exact g_vret hx hb hr hK hP hS hq hlocks dNB_oweToFriendsBut_35
  | succ n ih =>
    intro k nO nU ls H locs hkn  hP hS hl hq
    refine lv_iload_n hx hb dNB_oweToFriendsBut_2 rfl (lv_at hl 0 rfl) ?_
    refine lv_bipush (v := nI 16) hx hb dNB_oweToFriendsBut_3 (by decide) ?_
    refine lv_icmp_ge (tgt := 35) hx hb dNB_oweToFriendsBut_5 (by decide) (fun c0 => absurd c0 (nI_ge (by omega) (by decide))) (fun _ => ?_)
    refine lv_aload_n hx hb dNB_oweToFriendsBut_8 rfl (lv_at hl 1 rfl) ?_
    refine va_get (D := D) (ci := 2) (v := .ref (a 5)) (C := RNB) (T := TNB) (N := 7) hx hb hts inNB hown hK hP 4 rfl rfl 0 (by decide) (hts _ k67) (fun _ h9 => h9) rfl dNB_oweToFriendsBut_9 ?_
    refine lv_iload_n hx hb dNB_oweToFriendsBut_12 rfl (lv_at hl 0 rfl) ?_
    refine ir_iald hx hb hK hP 5 0 rfl rfl (k := k) (by omega) (by decide) dNB_oweToFriendsBut_13 ?_
    refine lv_iconst (v := 2) hx hb dNB_oweToFriendsBut_14 (by decide) ?_
    refine lv_icmp_ne (tgt := 29) hx hb dNB_oweToFriendsBut_15 (by decide) (fun c3 => ?_) (fun c3 => ?_)
    · refine lv_iinc (v := nI (k + 1)) (lv' := [(3, .int (nI (k + 1))), (0, .ref (a 4)), (1, .int (oi q)), (2, .int (nI o))]) hx hb dNB_oweToFriendsBut_29 hl (k := 0) rfl (nI_1 k) (by decide) rfl (fun ls hl => ?_)
      refine lv_goto (tgt := 2) hx hb dNB_oweToFriendsBut_32 (by decide) ?_
      have e1 : LNB_oweToFriendsBut nS q o (n + 1) k nO nU = LNB_oweToFriendsBut nS q o n (k + 1) nO nU := by simp only [LNB_oweToFriendsBut, if_neg c3]
      rw [e1] at hq
      exact ih (k + 1) nO nU ls H locs (by omega)  hP hS (lv_sub hl [0, 1, 2, 3] rfl) hq
    · refine lv_iload_n hx hb dNB_oweToFriendsBut_18 rfl (lv_at hl 0 rfl) ?_
      refine lv_iload_n hx hb dNB_oweToFriendsBut_19 rfl (lv_at hl 2 rfl) ?_
      refine lv_icmp_eq (tgt := 29) hx hb dNB_oweToFriendsBut_20 (by decide) (fun c4 => ?_) (fun c4 => ?_)
      · refine lv_iinc (v := nI (k + 1)) (lv' := [(3, .int (nI (k + 1))), (0, .ref (a 4)), (1, .int (oi q)), (2, .int (nI o))]) hx hb dNB_oweToFriendsBut_29 hl (k := 0) rfl (nI_1 k) (by decide) rfl (fun ls hl => ?_)
        refine lv_goto (tgt := 2) hx hb dNB_oweToFriendsBut_32 (by decide) ?_
        have e1 : LNB_oweToFriendsBut nS q o (n + 1) k nO nU = LNB_oweToFriendsBut nS q o n (k + 1) nO nU := by first | (simp only [LNB_oweToFriendsBut, if_pos c3, if_pos c4]; done) | (simp only [LNB_oweToFriendsBut, if_pos c3]; simp only [if_pos c4])
        rw [e1] at hq
        exact ih (k + 1) nO nU ls H locs (by omega)  hP hS (lv_sub hl [0, 1, 2, 3] rfl) hq
      · refine lv_aload_n hx hb dNB_oweToFriendsBut_23 rfl (lv_at hl 1 rfl) ?_
        refine lv_iload_n hx hb dNB_oweToFriendsBut_24 rfl (lv_at hl 0 rfl) ?_
        refine lv_iload_n hx hb dNB_oweToFriendsBut_25 rfl (lv_at hl 3 rfl) ?_
        refine g_callVv (As := [.int (nI k), .int (nI o)]) (rest := []) ⟨hx, hb, hml, hown, hts⟩ (c_NB_owe l hA dI dO dG dN dT aN aB nS nP nR nG nO nU nT tP tR tO tN tF tZ mP mN k o (by first | omega | assumption) (by first | omega | assumption)) (cwV 2 hts (gw_V k168 k169 k170 k29 k171) rfl rfl rfl (by decide +kernel) ⟨Nat.le_of_ble_eq_true rfl, Nat.le_of_ble_eq_true rfl⟩) hK hP (va_recv hK hP (ci := 2) (q0 := 4) rfl rfl) rfl hl.1 rfl (Nat.le_of_ble_eq_true rfl) dNB_oweToFriendsBut_26 ⟨Nat.zero_le _, Nat.zero_le _⟩ (fun q h => h) hS (fun H locs hP hS => ?_)
        have hP : va_P D vwCl (wC cI cL a ((dI, dO, dG, dN, dT), (aN, aB), (nS, nP, nR, nG, vp_updL nO k ((nO k) ||| (bL o)), vp_updL nU k ((nU k) ||| (bL o)), nT), (tP, tR, tO, tN, tF, tZ), (mP, mN))) H := hP
        refine lv_iinc (v := nI (k + 1)) (lv' := [(3, .int (nI (k + 1))), (0, .ref (a 4)), (1, .int (oi q)), (2, .int (nI o))]) hx hb dNB_oweToFriendsBut_29 hl (k := 0) rfl (nI_1 k) (by decide) rfl (fun ls hl => ?_)
        refine lv_goto (tgt := 2) hx hb dNB_oweToFriendsBut_32 (by decide) ?_
        have e1 : LNB_oweToFriendsBut nS q o (n + 1) k nO nU = LNB_oweToFriendsBut nS q o n (k + 1) (vp_updL nO k ((nO k) ||| (bL o))) (vp_updL nU k ((nU k) ||| (bL o))) := by first | (simp only [LNB_oweToFriendsBut, if_pos c3, if_neg c4]; done) | (simp only [LNB_oweToFriendsBut, if_pos c3]; simp only [if_neg c4])
        rw [e1] at hq
        exact ih (k + 1) (vp_updL nO k ((nO k) ||| (bL o))) (vp_updL nU k ((nU k) ||| (bL o))) ls H locs (by omega)  hP hS (lv_sub hl [0, 1, 2, 3] rfl) hq
set_option maxHeartbeats 4000000 in
set_option maxRecDepth 100000 in
theorem c_NB_oweToFriendsBut (l : Launch) {D : va_G} {cI cL : ClassId} {a : Nat → Nat} {A : Nat → Prop} (hA : ∀ v : CS, va_D A (wC cI cL a v)) (dI : Nat) (dO dG dN dT : Int32) (aN aB : Nat → Int32) (nS nP nR nG : Nat → Int32) (nO nU : Nat → Int64) (nT : Nat → Int32) (tP tR tO tN : Nat → Int32) (tF tZ : Nat) (mP : Nat → Int32) (mN : Int64) (q : Option Nat) (o : Nat) (ho : o < 64) : Met l yNB_oweToFriendsBut wsNB_oweToFriendsBut ({ frames := 1, cells := 0, slots := 0, locals := 22 }) (va_Pc [.ref (a 4), .int (oi q), .int (nI o)] (gG D (tyC cI cL) (wC cI cL a) ((dI, dO, dG, dN, dT), (aN, aB), (nS, nP, nR, nG, nO, nU, nT), (tP, tR, tO, tN, tF, tZ), (mP, mN)))) (va_Qv (fun u : CS => u = ((dI, dO, dG, dN, dT), (aN, aB), (nS, nP, nR, nG, (LNB_oweToFriendsBut nS q o 16 0 nO nU).1, (LNB_oweToFriendsBut nS q o 16 0 nO nU).2, nT), (tP, tR, tO, tN, tF, tZ), (mP, mN))) (gG D (tyC cI cL) (wC cI cL a)) A) 0 0 A := by
  refine g_enter (by decide) rfl (Nat.le_of_ble_eq_true rfl) ?_
  intro p e s m below meth c ls F hK hP hl
  obtain ⟨hx, hb, hr, hml, hown, hts, hlocks⟩ := id F
  have hS : va_S A s.heap s.heap [] := va_S.rf
  have hl : lv_has ls 4 [(0, .ref (a 4)), (1, .int (oi q)), (2, .int (nI o))] := hl
  refine lv_iconst (v := nI 0) hx hb dNB_oweToFriendsBut_0 (by decide) ?_
  refine lv_istore_n (lv' := [(3, .int (nI 0)), (0, .ref (a 4)), (1, .int (oi q)), (2, .int (nI o))]) hx hb dNB_oweToFriendsBut_1 rfl hl (by decide) rfl (fun ls hl => ?_)
  exact lpNB_oweToFriendsBut hA F hK ho _ 16 0 nO nU ls _ _ rfl  hP hS (lv_sub hl [0, 1, 2, 3] rfl) rfl
def fNB_settle (nO : Nat → Int64) (j : Nat) (o : Nat) : Bool := (if ((nO j) &&& (bL o)) = 0 then false else true)
set_option maxHeartbeats 4000000 in
set_option maxRecDepth 100000 in
theorem c_NB_settle (l : Launch) {D : va_G} {cI cL : ClassId} {a : Nat → Nat} {A : Nat → Prop} (hA : ∀ v : CS, va_D A (wC cI cL a v)) (dI : Nat) (dO dG dN dT : Int32) (aN aB : Nat → Int32) (nS nP nR nG : Nat → Int32) (nO nU : Nat → Int64) (nT : Nat → Int32) (tP tR tO tN : Nat → Int32) (tF tZ : Nat) (mP : Nat → Int32) (mN : Int64) (j : Nat) (o : Nat) (hj : j < 16) (ho : o < 64) : Met l yNB_settle wsNB_settle ({ frames := 0, cells := 0, slots := 0, locals := 0 }) (va_Pc [.ref (a 4), .int (nI j), .int (nI o)] (gG D (tyC cI cL) (wC cI cL a) ((dI, dO, dG, dN, dT), (aN, aB), (nS, nP, nR, nG, nO, nU, nT), (tP, tR, tO, tN, tF, tZ), (mP, mN)))) (va_Qi (fun (r : Int32) (u : CS) => r = bi (fNB_settle nO j o) ∧ u = ((dI, dO, dG, dN, dT), (aN, aB), (nS, nP, nR, nG, vp_updL nO j ((nO j) &&& ((bL o) ^^^ (-1))), vp_updL nU j ((nU j) &&& ((bL o) ^^^ (-1))), nT), (tP, tR, tO, tN, tF, tZ), (mP, mN))) (gG D (tyC cI cL) (wC cI cL a)) A) 0 0 A := by
  refine g_enter (by decide) rfl (Nat.le_of_ble_eq_true rfl) ?_
  intro p e s m below meth c ls F hK hP hl
  obtain ⟨hx, hb, hr, hml, hown, hts, hlocks⟩ := id F
  have hS : va_S A s.heap s.heap [] := va_S.rf
  have hl : lv_has ls 6 [(0, .ref (a 4)), (1, .int (nI j)), (2, .int (nI o))] := hl
  refine lv_lconst (v := 1) hx hb dNB_settle_0 (by decide) ?_
  refine lv_iload_n hx hb dNB_settle_1 rfl (lv_at hl 2 rfl) ?_
  refine lv_lshl (v := bL o) hx hb dNB_settle_2 rfl ?_
  refine lv_lstore_n (lv' := [(3, .long (bL o)), (0, .ref (a 4)), (1, .int (nI j)), (2, .int (nI o))]) hx hb dNB_settle_3 rfl hl (by decide) rfl (fun ls hl => ?_)
  refine lv_aload_n hx hb dNB_settle_4 rfl (lv_at hl 1 rfl) ?_
  refine va_get (D := D) (ci := 2) (v := .ref (a 9)) (C := RNB) (T := TNB) (N := 7) hx hb hts inNB hown hK hP 4 rfl rfl 4 (by decide) (hts _ k71) (fun _ h9 => h9) rfl dNB_settle_5 ?_
  refine lv_iload_n hx hb dNB_settle_8 rfl (lv_at hl 2 rfl) ?_
  refine ir_lald hx hb hK hP 9 1 rfl rfl (k := j) (by omega) (by decide) dNB_settle_9 ?_
  refine lv_lload_n hx hb dNB_settle_10 rfl (lv_at hl 0 rfl) ?_
  refine lv_land hx hb dNB_settle_11 ?_
  refine lv_lconst (v := 0) hx hb dNB_settle_12 (by decide) ?_
  refine lv_lif_eq (tgt := 21) hx hb dNB_settle_13 dNB_settle_14 (by decide) (fun c1 => ?_) (fun c1 => ?_)
  · refine lv_iconst (v := bi false) hx hb dNB_settle_21 (by decide) ?_
    refine lv_istore (lv' := [(5, .int (bi false)), (3, .long (bL o)), (0, .ref (a 4)), (1, .int (nI j)), (2, .int (nI o))]) hx hb dNB_settle_22 hl (by decide) rfl (fun ls hl => ?_)
    refine lv_aload_n hx hb dNB_settle_24 rfl (lv_at hl 2 rfl) ?_
    refine va_get (D := D) (ci := 2) (v := .ref (a 9)) (C := RNB) (T := TNB) (N := 7) hx hb hts inNB hown hK hP 4 rfl rfl 4 (by decide) (hts _ k71) (fun _ h9 => h9) rfl dNB_settle_25 ?_
    refine lv_iload_n hx hb dNB_settle_28 rfl (lv_at hl 3 rfl) ?_
    refine lv_dup2_11 hx hb dNB_settle_29 rfl rfl ?_
    refine ir_lald hx hb hK hP 9 1 rfl rfl (k := j) (by omega) (by decide) dNB_settle_30 ?_
    refine lv_lload_n hx hb dNB_settle_31 rfl (lv_at hl 1 rfl) ?_
    refine lv_ldc2 (v := (-1)) hx hb hown (hts _ k233) dNB_settle_32 ?_
    refine lv_lxor hx hb dNB_settle_35 ?_
    refine lv_land hx hb dNB_settle_36 ?_
    refine ir_last hx hb hK hP (hA _) hS 9 1 rfl rfl (k := j) (by omega) (by decide) dNB_settle_37 (fun H locs hP hS => ?_)
    have hP : va_P D vwCl (wC cI cL a ((dI, dO, dG, dN, dT), (aN, aB), (nS, nP, nR, nG, vp_updL nO j ((nO j) &&& ((bL o) ^^^ (-1))), nU, nT), (tP, tR, tO, tN, tF, tZ), (mP, mN))) H := hP
    refine lv_aload_n hx hb dNB_settle_38 rfl (lv_at hl 2 rfl) ?_
    refine va_get (D := D) (ci := 2) (v := .ref (a 10)) (C := RNB) (T := TNB) (N := 7) hx hb hts inNB hown hK hP 4 rfl rfl 5 (by decide) (hts _ k72) (fun _ h9 => h9) rfl dNB_settle_39 ?_
    refine lv_iload_n hx hb dNB_settle_42 rfl (lv_at hl 3 rfl) ?_
    refine lv_dup2_11 hx hb dNB_settle_43 rfl rfl ?_
    refine ir_lald hx hb hK hP 10 1 rfl rfl (k := j) (by omega) (by decide) dNB_settle_44 ?_
    refine lv_lload_n hx hb dNB_settle_45 rfl (lv_at hl 1 rfl) ?_
    refine lv_ldc2 (v := (-1)) hx hb hown (hts _ k233) dNB_settle_46 ?_
    refine lv_lxor hx hb dNB_settle_49 ?_
    refine lv_land hx hb dNB_settle_50 ?_
    refine ir_last hx hb hK hP (hA _) hS 10 1 rfl rfl (k := j) (by omega) (by decide) dNB_settle_51 (fun H locs hP hS => ?_)
    have hP : va_P D vwCl (wC cI cL a ((dI, dO, dG, dN, dT), (aN, aB), (nS, nP, nR, nG, vp_updL nO j ((nO j) &&& ((bL o) ^^^ (-1))), vp_updL nU j ((nU j) &&& ((bL o) ^^^ (-1))), nT), (tP, tR, tO, tN, tF, tZ), (mP, mN))) H := hP
    refine lv_iload hx hb dNB_settle_52 (lv_at hl 0 rfl) ?_
    have e1 : fNB_settle nO j o = false := by simp only [fNB_settle, if_pos c1]
    exact g_zret (v := ((dI, dO, dG, dN, dT), (aN, aB), (nS, nP, nR, nG, vp_updL nO j ((nO j) &&& ((bL o) ^^^ (-1))), vp_updL nU j ((nU j) &&& ((bL o) ^^^ (-1))), nT), (tP, tR, tO, tN, tF, tZ), (mP, mN))) hx hb hr hK hP hS ⟨by first | rfl | (rw [e1] <;> rfl), by first | rfl | (rw [e1] <;> rfl)⟩ hlocks dNB_settle_54
  · refine lv_iconst (v := bi true) hx hb dNB_settle_17 (by decide) ?_
    refine lv_goto (tgt := 22) hx hb dNB_settle_18 (by decide) ?_
    refine lv_istore (lv' := [(5, .int (bi true)), (3, .long (bL o)), (0, .ref (a 4)), (1, .int (nI j)), (2, .int (nI o))]) hx hb dNB_settle_22 hl (by decide) rfl (fun ls hl => ?_)
    refine lv_aload_n hx hb dNB_settle_24 rfl (lv_at hl 2 rfl) ?_
    refine va_get (D := D) (ci := 2) (v := .ref (a 9)) (C := RNB) (T := TNB) (N := 7) hx hb hts inNB hown hK hP 4 rfl rfl 4 (by decide) (hts _ k71) (fun _ h9 => h9) rfl dNB_settle_25 ?_
    refine lv_iload_n hx hb dNB_settle_28 rfl (lv_at hl 3 rfl) ?_
    refine lv_dup2_11 hx hb dNB_settle_29 rfl rfl ?_
    refine ir_lald hx hb hK hP 9 1 rfl rfl (k := j) (by omega) (by decide) dNB_settle_30 ?_
    refine lv_lload_n hx hb dNB_settle_31 rfl (lv_at hl 1 rfl) ?_
    refine lv_ldc2 (v := (-1)) hx hb hown (hts _ k233) dNB_settle_32 ?_
    refine lv_lxor hx hb dNB_settle_35 ?_
    refine lv_land hx hb dNB_settle_36 ?_
    refine ir_last hx hb hK hP (hA _) hS 9 1 rfl rfl (k := j) (by omega) (by decide) dNB_settle_37 (fun H locs hP hS => ?_)
    have hP : va_P D vwCl (wC cI cL a ((dI, dO, dG, dN, dT), (aN, aB), (nS, nP, nR, nG, vp_updL nO j ((nO j) &&& ((bL o) ^^^ (-1))), nU, nT), (tP, tR, tO, tN, tF, tZ), (mP, mN))) H := hP
    refine lv_aload_n hx hb dNB_settle_38 rfl (lv_at hl 2 rfl) ?_
    refine va_get (D := D) (ci := 2) (v := .ref (a 10)) (C := RNB) (T := TNB) (N := 7) hx hb hts inNB hown hK hP 4 rfl rfl 5 (by decide) (hts _ k72) (fun _ h9 => h9) rfl dNB_settle_39 ?_
    refine lv_iload_n hx hb dNB_settle_42 rfl (lv_at hl 3 rfl) ?_
    refine lv_dup2_11 hx hb dNB_settle_43 rfl rfl ?_
    refine ir_lald hx hb hK hP 10 1 rfl rfl (k := j) (by omega) (by decide) dNB_settle_44 ?_
    refine lv_lload_n hx hb dNB_settle_45 rfl (lv_at hl 1 rfl) ?_
    refine lv_ldc2 (v := (-1)) hx hb hown (hts _ k233) dNB_settle_46 ?_
    refine lv_lxor hx hb dNB_settle_49 ?_
    refine lv_land hx hb dNB_settle_50 ?_
    refine ir_last hx hb hK hP (hA _) hS 10 1 rfl rfl (k := j) (by omega) (by decide) dNB_settle_51 (fun H locs hP hS => ?_)
    have hP : va_P D vwCl (wC cI cL a ((dI, dO, dG, dN, dT), (aN, aB), (nS, nP, nR, nG, vp_updL nO j ((nO j) &&& ((bL o) ^^^ (-1))), vp_updL nU j ((nU j) &&& ((bL o) ^^^ (-1))), nT), (tP, tR, tO, tN, tF, tZ), (mP, mN))) H := hP
    refine lv_iload hx hb dNB_settle_52 (lv_at hl 0 rfl) ?_
    have e1 : fNB_settle nO j o = true := by simp only [fNB_settle, if_neg c1]
    exact g_zret (v := ((dI, dO, dG, dN, dT), (aN, aB), (nS, nP, nR, nG, vp_updL nO j ((nO j) &&& ((bL o) ^^^ (-1))), vp_updL nU j ((nU j) &&& ((bL o) ^^^ (-1))), nT), (tP, tR, tO, tN, tF, tZ), (mP, mN))) hx hb hr hK hP hS ⟨by first | rfl | (rw [e1] <;> rfl), by first | rfl | (rw [e1] <;> rfl)⟩ hlocks dNB_settle_54
def LNB_settleAll (o : Nat) : Nat → Nat → (Nat → Int64) → (Nat → Int64) → (Nat → Int64) × (Nat → Int64)
  | 0, k, nO, nU => (nO, nU)
  | n + 1, k, nO, nU => LNB_settleAll o n (k + 1) (vp_updL nO k ((nO k) &&& ((bL o) ^^^ (-1)))) (vp_updL nU k ((nU k) &&& ((bL o) ^^^ (-1))))
set_option maxHeartbeats 4000000 in
set_option maxRecDepth 100000 in
theorem lpNB_settleAll {p : Program} {l : Launch} {e : Env} {s : State} {m : MethodId} {args : Array Value} {below : List Frame} {meth : Method} {c : Code} {D : va_G} {cI cL : ClassId} {a : Nat → Nat} {A : Nat → Prop} (hA : ∀ v : CS, va_D A (wC cI cL a v)) (F : gFix p c cNB_settleAll meth (none) m s args bigW RNB 3) (hK : va_K D vwCl (tyC cI cL) s) {dI : Nat} {dO : Int32} {dG : Int32} {dN : Int32} {dT : Int32} {aN : Nat → Int32} {aB : Nat → Int32} {nS : Nat → Int32} {nP : Nat → Int32} {nR : Nat → Int32} {nG : Nat → Int32} {nT : Nat → Int32} {tP : Nat → Int32} {tR : Nat → Int32} {tO : Nat → Int32} {tN : Nat → Int32} {tF : Nat} {tZ : Nat} {mP : Nat → Int32} {mN : Int64} {o : Nat} (ho : o < 64) (post : CS → Prop) : ∀ (n k : Nat)  (nO : Nat → Int64) (nU : Nat → Int64) (ls : Array Slot) (H : Heap) (locs : List Loc), k + n = 16 → va_P D vwCl (wC cI cL a ((dI, dO, dG, dN, dT), (aN, aB), (nS, nP, nR, nG, nO, nU, nT), (tP, tR, tO, tN, tF, tZ), (mP, mN))) H → va_S A s.heap H locs → lv_has ls 3 [(2, .int (nI k)), (0, .ref (a 4)), (1, .int (nI o))] → post  ((dI, dO, dG, dN, dT), (aN, aB), (nS, nP, nR, nG, (LNB_settleAll o n k nO nU).1, (LNB_settleAll o n k nO nU).2, nT), (tP, tR, tO, tN, tF, tZ), (mP, mN)) → W p l e ({ frames := 1, cells := 0, slots := 0, locals := 25 }) s m args below meth c H locs 0 0 (MQ below (va_Qv post (gG D (tyC cI cL) (wC cI cL a)) A) args s 0 0 A) (F0 m 2 ls []) := by
  obtain ⟨hx, hb, hr, hml, hown, hts, hlocks⟩ := F
  intro n
  induction n with
  | zero =>
    intro k nO nU ls H locs hkn  hP hS hl hq
    refine lv_iload_n hx hb dNB_settleAll_2 rfl (lv_at hl 0 rfl) ?_
    refine lv_bipush (v := nI 16) hx hb dNB_settleAll_3 (by decide) ?_
    refine lv_icmp_ge (tgt := 21) hx hb dNB_settleAll_5 (by decide) (fun _ => ?_) (fun c0 => absurd (nI_le (by omega) (by omega)) c0)
    have e1 : LNB_settleAll o 0 k nO nU = (nO, nU) := by simp only [LNB_settleAll]
    rw [e1] at hq
    exact g_vret hx hb hr hK hP hS hq hlocks dNB_settleAll_21
  | succ n ih =>
    intro k nO nU ls H locs hkn  hP hS hl hq
    refine lv_iload_n hx hb dNB_settleAll_2 rfl (lv_at hl 0 rfl) ?_
    refine lv_bipush (v := nI 16) hx hb dNB_settleAll_3 (by decide) ?_
    refine lv_icmp_ge (tgt := 21) hx hb dNB_settleAll_5 (by decide) (fun c0 => absurd c0 (nI_ge (by omega) (by decide))) (fun _ => ?_)
    refine lv_aload_n hx hb dNB_settleAll_8 rfl (lv_at hl 1 rfl) ?_
    refine lv_iload_n hx hb dNB_settleAll_9 rfl (lv_at hl 0 rfl) ?_
    refine lv_iload_n hx hb dNB_settleAll_10 rfl (lv_at hl 2 rfl) ?_
    refine g_callVi (As := [.int (nI k), .int (nI o)]) (rest := []) ⟨hx, hb, hml, hown, hts⟩ (c_NB_settle l hA dI dO dG dN dT aN aB nS nP nR nG nO nU nT tP tR tO tN tF tZ mP mN k o (by first | omega | assumption) (by first | omega | assumption)) (cwV 2 hts (gw_V k495 k456 k457 k29 k458) rfl rfl rfl (by decide +kernel) ⟨Nat.le_of_ble_eq_true rfl, Nat.le_of_ble_eq_true rfl⟩) hK hP (va_recv hK hP (ci := 2) (q0 := 4) rfl rfl) rfl hl.1 rfl (Nat.le_of_ble_eq_true rfl) dNB_settleAll_11 ⟨Nat.zero_le _, Nat.zero_le _⟩ (fun q h => h) hS (fun H locs hP hS => ?_)
    have hP : va_P D vwCl (wC cI cL a ((dI, dO, dG, dN, dT), (aN, aB), (nS, nP, nR, nG, vp_updL nO k ((nO k) &&& ((bL o) ^^^ (-1))), vp_updL nU k ((nU k) &&& ((bL o) ^^^ (-1))), nT), (tP, tR, tO, tN, tF, tZ), (mP, mN))) H := hP
    refine lv_pop hx hb dNB_settleAll_14 rfl ?_
    refine lv_iinc (v := nI (k + 1)) (lv' := [(2, .int (nI (k + 1))), (0, .ref (a 4)), (1, .int (nI o))]) hx hb dNB_settleAll_15 hl (k := 0) rfl (nI_1 k) (by decide) rfl (fun ls hl => ?_)
    refine lv_goto (tgt := 2) hx hb dNB_settleAll_18 (by decide) ?_
    have e1 : LNB_settleAll o (n + 1) k nO nU = LNB_settleAll o n (k + 1) (vp_updL nO k ((nO k) &&& ((bL o) ^^^ (-1)))) (vp_updL nU k ((nU k) &&& ((bL o) ^^^ (-1)))) := by simp only [LNB_settleAll]
    rw [e1] at hq
    exact ih (k + 1) (vp_updL nO k ((nO k) &&& ((bL o) ^^^ (-1)))) (vp_updL nU k ((nU k) &&& ((bL o) ^^^ (-1)))) ls H locs (by omega)  hP hS (lv_sub hl [0, 1, 2] rfl) hq
set_option maxHeartbeats 4000000 in
set_option maxRecDepth 100000 in
theorem c_NB_settleAll (l : Launch) {D : va_G} {cI cL : ClassId} {a : Nat → Nat} {A : Nat → Prop} (hA : ∀ v : CS, va_D A (wC cI cL a v)) (dI : Nat) (dO dG dN dT : Int32) (aN aB : Nat → Int32) (nS nP nR nG : Nat → Int32) (nO nU : Nat → Int64) (nT : Nat → Int32) (tP tR tO tN : Nat → Int32) (tF tZ : Nat) (mP : Nat → Int32) (mN : Int64) (o : Nat) (ho : o < 64) : Met l yNB_settleAll wsNB_settleAll ({ frames := 1, cells := 0, slots := 0, locals := 25 }) (va_Pc [.ref (a 4), .int (nI o)] (gG D (tyC cI cL) (wC cI cL a) ((dI, dO, dG, dN, dT), (aN, aB), (nS, nP, nR, nG, nO, nU, nT), (tP, tR, tO, tN, tF, tZ), (mP, mN)))) (va_Qv (fun u : CS => u = ((dI, dO, dG, dN, dT), (aN, aB), (nS, nP, nR, nG, (LNB_settleAll o 16 0 nO nU).1, (LNB_settleAll o 16 0 nO nU).2, nT), (tP, tR, tO, tN, tF, tZ), (mP, mN))) (gG D (tyC cI cL) (wC cI cL a)) A) 0 0 A := by
  refine g_enter (by decide) rfl (Nat.le_of_ble_eq_true rfl) ?_
  intro p e s m below meth c ls F hK hP hl
  obtain ⟨hx, hb, hr, hml, hown, hts, hlocks⟩ := id F
  have hS : va_S A s.heap s.heap [] := va_S.rf
  have hl : lv_has ls 3 [(0, .ref (a 4)), (1, .int (nI o))] := hl
  refine lv_iconst (v := nI 0) hx hb dNB_settleAll_0 (by decide) ?_
  refine lv_istore_n (lv' := [(2, .int (nI 0)), (0, .ref (a 4)), (1, .int (nI o))]) hx hb dNB_settleAll_1 rfl hl (by decide) rfl (fun ls hl => ?_)
  exact lpNB_settleAll hA F hK ho _ 16 0 nO nU ls _ _ rfl  hP hS (lv_sub hl [0, 1, 2] rfl) rfl
set_option maxHeartbeats 4000000 in
set_option maxRecDepth 100000 in
theorem c_NB_sent (l : Launch) {D : va_G} {cI cL : ClassId} {a : Nat → Nat} {A : Nat → Prop} (hA : ∀ v : CS, va_D A (wC cI cL a v)) (dI : Nat) (dO dG dN dT : Int32) (aN aB : Nat → Int32) (nS nP nR nG : Nat → Int32) (nO nU : Nat → Int64) (nT : Nat → Int32) (tP tR tO tN : Nat → Int32) (tF tZ : Nat) (mP : Nat → Int32) (mN : Int64) (j : Nat) (o : Nat) (x : Int32) (hj : j < 16) (ho : o < 64) : Met l yNB_sent wsNB_sent ({ frames := 0, cells := 0, slots := 0, locals := 0 }) (va_Pc [.ref (a 4), .int (nI j), .int (nI o), .int x] (gG D (tyC cI cL) (wC cI cL a) ((dI, dO, dG, dN, dT), (aN, aB), (nS, nP, nR, nG, nO, nU, nT), (tP, tR, tO, tN, tF, tZ), (mP, mN)))) (va_Qv (fun u : CS => u = ((dI, dO, dG, dN, dT), (aN, aB), (nS, nP, nR, nG, nO, vp_updL nU j ((nU j) &&& ((bL o) ^^^ (-1))), upd nT ((j * 64) + o) x), (tP, tR, tO, tN, tF, tZ), (mP, mN))) (gG D (tyC cI cL) (wC cI cL a)) A) 0 0 A := by
  refine g_enter (by decide) rfl (Nat.le_of_ble_eq_true rfl) ?_
  intro p e s m below meth c ls F hK hP hl
  obtain ⟨hx, hb, hr, hml, hown, hts, hlocks⟩ := id F
  have hS : va_S A s.heap s.heap [] := va_S.rf
  have hl : lv_has ls 4 [(0, .ref (a 4)), (1, .int (nI j)), (2, .int (nI o)), (3, .int x)] := hl
  refine lv_aload_n hx hb dNB_sent_0 rfl (lv_at hl 0 rfl) ?_
  refine va_get (D := D) (ci := 2) (v := .ref (a 10)) (C := RNB) (T := TNB) (N := 7) hx hb hts inNB hown hK hP 4 rfl rfl 5 (by decide) (hts _ k72) (fun _ h9 => h9) rfl dNB_sent_1 ?_
  refine lv_iload_n hx hb dNB_sent_4 rfl (lv_at hl 1 rfl) ?_
  refine lv_dup2_11 hx hb dNB_sent_5 rfl rfl ?_
  refine ir_lald hx hb hK hP 10 1 rfl rfl (k := j) (by omega) (by decide) dNB_sent_6 ?_
  refine lv_lconst (v := 1) hx hb dNB_sent_7 (by decide) ?_
  refine lv_iload_n hx hb dNB_sent_8 rfl (lv_at hl 2 rfl) ?_
  refine lv_lshl (v := bL o) hx hb dNB_sent_9 rfl ?_
  refine lv_ldc2 (v := (-1)) hx hb hown (hts _ k233) dNB_sent_10 ?_
  refine lv_lxor hx hb dNB_sent_13 ?_
  refine lv_land hx hb dNB_sent_14 ?_
  refine ir_last hx hb hK hP (hA _) hS 10 1 rfl rfl (k := j) (by omega) (by decide) dNB_sent_15 (fun H locs hP hS => ?_)
  have hP : va_P D vwCl (wC cI cL a ((dI, dO, dG, dN, dT), (aN, aB), (nS, nP, nR, nG, nO, vp_updL nU j ((nU j) &&& ((bL o) ^^^ (-1))), nT), (tP, tR, tO, tN, tF, tZ), (mP, mN))) H := hP
  refine lv_aload_n hx hb dNB_sent_16 rfl (lv_at hl 0 rfl) ?_
  refine va_get (D := D) (ci := 2) (v := .ref (a 11)) (C := RNB) (T := TNB) (N := 7) hx hb hts inNB hown hK hP 4 rfl rfl 6 (by decide) (hts _ k73) (fun _ h9 => h9) rfl dNB_sent_17 ?_
  refine lv_iload_n hx hb dNB_sent_20 rfl (lv_at hl 1 rfl) ?_
  refine lv_bipush (v := nI 64) hx hb dNB_sent_21 (by decide) ?_
  refine lv_imul hx hb dNB_sent_23 ?_
  refine lv_eqi (y := nI (j * 64)) (pk_mul j 64) ?_
  refine lv_iload_n hx hb dNB_sent_24 rfl (lv_at hl 2 rfl) ?_
  refine lv_iadd hx hb dNB_sent_25 ?_
  refine lv_eqi (y := nI ((j * 64) + o)) (nI_add (j * 64) o) ?_
  refine lv_iload_n hx hb dNB_sent_26 rfl (lv_at hl 3 rfl) ?_
  refine ir_iast hx hb hK hP (hA _) hS 11 0 rfl rfl (k := (j * 64) + o) (by omega) (by decide) dNB_sent_27 (fun H locs hP hS => ?_)
  have hP : va_P D vwCl (wC cI cL a ((dI, dO, dG, dN, dT), (aN, aB), (nS, nP, nR, nG, nO, vp_updL nU j ((nU j) &&& ((bL o) ^^^ (-1))), upd nT ((j * 64) + o) x), (tP, tR, tO, tN, tF, tZ), (mP, mN))) H := hP
  exact g_vret (v := ((dI, dO, dG, dN, dT), (aN, aB), (nS, nP, nR, nG, nO, vp_updL nU j ((nU j) &&& ((bL o) ^^^ (-1))), upd nT ((j * 64) + o) x), (tP, tR, tO, tN, tF, tZ), (mP, mN))) hx hb hr hK hP hS (rfl) hlocks dNB_sent_28
def fNB_isToBeSent (nO : Nat → Int64) (nU : Nat → Int64) (nT : Nat → Int32) (j : Nat) (o : Nat) (x : Int32) : Bool := (if ((nO j) &&& (bL o)) = 0 then false else (if ((nU j) &&& (bL o)) = 0 then (if (x - (nT ((j * 64) + o))) < 15 then false else true) else true))
set_option maxHeartbeats 4000000 in
set_option maxRecDepth 100000 in
theorem c_NB_isToBeSent (l : Launch) {D : va_G} {cI cL : ClassId} {a : Nat → Nat}  (dI : Nat) (dO dG dN dT : Int32) (aN aB : Nat → Int32) (nS nP nR nG : Nat → Int32) (nO nU : Nat → Int64) (nT : Nat → Int32) (tP tR tO tN : Nat → Int32) (tF tZ : Nat) (mP : Nat → Int32) (mN : Int64) (j : Nat) (o : Nat) (x : Int32) (hj : j < 16) (ho : o < 64) : Met l yNB_isToBeSent wsNB_isToBeSent ({ frames := 0, cells := 0, slots := 0, locals := 0 }) (va_Pc [.ref (a 4), .int (nI j), .int (nI o), .int x] (gG D (tyC cI cL) (wC cI cL a) ((dI, dO, dG, dN, dT), (aN, aB), (nS, nP, nR, nG, nO, nU, nT), (tP, tR, tO, tN, tF, tZ), (mP, mN)))) (vp_Si (fun r : Int32 => r = bi (fNB_isToBeSent nO nU nT j o x))) 0 0 (fun _ => False) := by
  refine g_enter (by decide) rfl (Nat.le_of_ble_eq_true rfl) ?_
  intro p e s m below meth c ls F hK hP hl
  obtain ⟨hx, hb, hr, hml, hown, hts, hlocks⟩ := id F
  have hl : lv_has ls 6 [(0, .ref (a 4)), (1, .int (nI j)), (2, .int (nI o)), (3, .int x)] := hl
  refine lv_lconst (v := 1) hx hb dNB_isToBeSent_0 (by decide) ?_
  refine lv_iload_n hx hb dNB_isToBeSent_1 rfl (lv_at hl 2 rfl) ?_
  refine lv_lshl (v := bL o) hx hb dNB_isToBeSent_2 rfl ?_
  refine lv_lstore (lv' := [(4, .long (bL o)), (0, .ref (a 4)), (1, .int (nI j)), (2, .int (nI o)), (3, .int x)]) hx hb dNB_isToBeSent_3 hl (by decide) rfl (fun ls hl => ?_)
  refine lv_aload_n hx hb dNB_isToBeSent_5 rfl (lv_at hl 1 rfl) ?_
  refine va_get (D := D) (ci := 2) (v := .ref (a 9)) (C := RNB) (T := TNB) (N := 7) hx hb hts inNB hown hK hP 4 rfl rfl 4 (by decide) (hts _ k71) (fun _ h9 => h9) rfl dNB_isToBeSent_6 ?_
  refine lv_iload_n hx hb dNB_isToBeSent_9 rfl (lv_at hl 2 rfl) ?_
  refine ir_lald hx hb hK hP 9 1 rfl rfl (k := j) (by omega) (by decide) dNB_isToBeSent_10 ?_
  refine lv_lload hx hb dNB_isToBeSent_11 (lv_at hl 0 rfl) ?_
  refine lv_land hx hb dNB_isToBeSent_13 ?_
  refine lv_lconst (v := 0) hx hb dNB_isToBeSent_14 (by decide) ?_
  refine lv_lif_ne (tgt := 21) hx hb dNB_isToBeSent_15 dNB_isToBeSent_16 (by decide) (fun c1 => ?_) (fun c1 => ?_)
  · refine lv_aload_n hx hb dNB_isToBeSent_21 rfl (lv_at hl 1 rfl) ?_
    refine va_get (D := D) (ci := 2) (v := .ref (a 10)) (C := RNB) (T := TNB) (N := 7) hx hb hts inNB hown hK hP 4 rfl rfl 5 (by decide) (hts _ k72) (fun _ h9 => h9) rfl dNB_isToBeSent_22 ?_
    refine lv_iload_n hx hb dNB_isToBeSent_25 rfl (lv_at hl 2 rfl) ?_
    refine ir_lald hx hb hK hP 10 1 rfl rfl (k := j) (by omega) (by decide) dNB_isToBeSent_26 ?_
    refine lv_lload hx hb dNB_isToBeSent_27 (lv_at hl 0 rfl) ?_
    refine lv_land hx hb dNB_isToBeSent_29 ?_
    refine lv_lconst (v := 0) hx hb dNB_isToBeSent_30 (by decide) ?_
    refine lv_lif_ne (tgt := 53) hx hb dNB_isToBeSent_31 dNB_isToBeSent_32 (by decide) (fun c2 => ?_) (fun c2 => ?_)
    · refine lv_iconst (v := bi true) hx hb dNB_isToBeSent_53 (by decide) ?_
      refine lv_goto (tgt := 58) hx hb dNB_isToBeSent_54 (by decide) ?_
      have e1 : fNB_isToBeSent nO nU nT j o x = true := by first | (simp only [fNB_isToBeSent, if_neg c1, if_neg c2]; done) | (simp only [fNB_isToBeSent, if_neg c1]; simp only [if_neg c2])
      exact r_zret hx hb hr (by first | rfl | (rw [e1] <;> rfl)) hlocks dNB_isToBeSent_58
    · refine lv_iload_n hx hb dNB_isToBeSent_35 rfl (lv_at hl 4 rfl) ?_
      refine lv_aload_n hx hb dNB_isToBeSent_36 rfl (lv_at hl 1 rfl) ?_
      refine va_get (D := D) (ci := 2) (v := .ref (a 11)) (C := RNB) (T := TNB) (N := 7) hx hb hts inNB hown hK hP 4 rfl rfl 6 (by decide) (hts _ k73) (fun _ h9 => h9) rfl dNB_isToBeSent_37 ?_
      refine lv_iload_n hx hb dNB_isToBeSent_40 rfl (lv_at hl 2 rfl) ?_
      refine lv_bipush (v := nI 64) hx hb dNB_isToBeSent_41 (by decide) ?_
      refine lv_imul hx hb dNB_isToBeSent_43 ?_
      refine lv_eqi (y := nI (j * 64)) (pk_mul j 64) ?_
      refine lv_iload_n hx hb dNB_isToBeSent_44 rfl (lv_at hl 3 rfl) ?_
      refine lv_iadd hx hb dNB_isToBeSent_45 ?_
      refine lv_eqi (y := nI ((j * 64) + o)) (nI_add (j * 64) o) ?_
      refine ir_iald hx hb hK hP 11 0 rfl rfl (k := (j * 64) + o) (by omega) (by decide) dNB_isToBeSent_46 ?_
      refine lv_isub hx hb dNB_isToBeSent_47 ?_
      refine lv_bipush (v := 15) hx hb dNB_isToBeSent_48 (by decide) ?_
      refine lv_icmp_lt (tgt := 57) hx hb dNB_isToBeSent_50 (by decide) (fun c3 => ?_) (fun c3 => ?_)
      · refine lv_iconst (v := bi false) hx hb dNB_isToBeSent_57 (by decide) ?_
        have e1 : fNB_isToBeSent nO nU nT j o x = false := by first | (simp only [fNB_isToBeSent, if_neg c1, if_pos c2, if_pos c3]; done) | (simp only [fNB_isToBeSent, if_neg c1]; simp only [if_pos c2]; simp only [if_pos c3])
        exact r_zret hx hb hr (by first | rfl | (rw [e1] <;> rfl)) hlocks dNB_isToBeSent_58
      · refine lv_iconst (v := bi true) hx hb dNB_isToBeSent_53 (by decide) ?_
        refine lv_goto (tgt := 58) hx hb dNB_isToBeSent_54 (by decide) ?_
        have e1 : fNB_isToBeSent nO nU nT j o x = true := by first | (simp only [fNB_isToBeSent, if_neg c1, if_pos c2, if_neg c3]; done) | (simp only [fNB_isToBeSent, if_neg c1]; simp only [if_pos c2]; simp only [if_neg c3])
        exact r_zret hx hb hr (by first | rfl | (rw [e1] <;> rfl)) hlocks dNB_isToBeSent_58
  · refine lv_iconst (v := bi false) hx hb dNB_isToBeSent_19 (by decide) ?_
    have e1 : fNB_isToBeSent nO nU nT j o x = false := by simp only [fNB_isToBeSent, if_pos c1]
    exact r_zret hx hb hr (by first | rfl | (rw [e1] <;> rfl)) hlocks dNB_isToBeSent_20
def LNB_firstToSend (nO : Nat → Int64) (nU : Nat → Int64) (nT : Nat → Int32) (j : Nat) (x : Int32) : Nat → Nat → Option Nat
  | 0, k => none
  | n + 1, k => (cond (fNB_isToBeSent nO nU nT j k x) (some k) (LNB_firstToSend nO nU nT j x n (k + 1) ))
set_option maxHeartbeats 4000000 in
set_option maxRecDepth 100000 in
theorem lpNB_firstToSend {p : Program} {l : Launch} {e : Env} {s : State} {m : MethodId} {args : Array Value} {below : List Frame} {meth : Method} {c : Code} {D : va_G} {cI cL : ClassId} {a : Nat → Nat}  (F : gFix p c cNB_firstToSend meth (some .int) m s args bigW RNB 4) (hK : va_K D vwCl (tyC cI cL) s) {dI : Nat} {dO : Int32} {dG : Int32} {dN : Int32} {dT : Int32} {aN : Nat → Int32} {aB : Nat → Int32} {nS : Nat → Int32} {nP : Nat → Int32} {nR : Nat → Int32} {nG : Nat → Int32} {nO : Nat → Int64} {nU : Nat → Int64} {nT : Nat → Int32} {tP : Nat → Int32} {tR : Nat → Int32} {tO : Nat → Int32} {tN : Nat → Int32} {tF : Nat} {tZ : Nat} {mP : Nat → Int32} {mN : Int64} {j : Nat} {x : Int32} (hj : j < 16) (post : Int32 → Prop) : ∀ (n k : Nat)   (ls : Array Slot), k + n = 64 → va_P D vwCl (wC cI cL a ((dI, dO, dG, dN, dT), (aN, aB), (nS, nP, nR, nG, nO, nU, nT), (tP, tR, tO, tN, tF, tZ), (mP, mN))) s.heap → lv_has ls 4 [(3, .int (nI k)), (0, .ref (a 4)), (1, .int (nI j)), (2, .int x)] → post (oi (LNB_firstToSend nO nU nT j x n k )) → W p l e ({ frames := 1, cells := 0, slots := 0, locals := 25 }) s m args below meth c s.heap [] 0 0 (MQ below (vp_Si post) args s 0 0 (fun _ => False)) (F0 m 2 ls []) := by
  obtain ⟨hx, hb, hr, hml, hown, hts, hlocks⟩ := F
  intro n
  induction n with
  | zero =>
    intro k  ls hkn  hP hl hq
    refine lv_iload_n hx hb dNB_firstToSend_2 rfl (lv_at hl 0 rfl) ?_
    refine lv_bipush (v := nI 64) hx hb dNB_firstToSend_3 (by decide) ?_
    refine lv_icmp_ge (tgt := 26) hx hb dNB_firstToSend_5 (by decide) (fun _ => ?_) (fun c0 => absurd (nI_le (by omega) (by omega)) c0)
    refine lv_iconst (v := oi none) hx hb dNB_firstToSend_26 (by decide) ?_
    have e1 : LNB_firstToSend nO nU nT j x 0 k  = none := by simp only [LNB_firstToSend]
    rw [e1] at hq
    exact r_iret hx hb hr hq hlocks dNB_firstToSend_27
  | succ n ih =>
    intro k  ls hkn  hP hl hq
    refine lv_iload_n hx hb dNB_firstToSend_2 rfl (lv_at hl 0 rfl) ?_
    refine lv_bipush (v := nI 64) hx hb dNB_firstToSend_3 (by decide) ?_
    refine lv_icmp_ge (tgt := 26) hx hb dNB_firstToSend_5 (by decide) (fun c0 => absurd c0 (nI_ge (by omega) (by decide))) (fun _ => ?_)
    refine lv_aload_n hx hb dNB_firstToSend_8 rfl (lv_at hl 1 rfl) ?_
    refine lv_iload_n hx hb dNB_firstToSend_9 rfl (lv_at hl 2 rfl) ?_
    refine lv_iload_n hx hb dNB_firstToSend_10 rfl (lv_at hl 0 rfl) ?_
    refine lv_iload_n hx hb dNB_firstToSend_11 rfl (lv_at hl 3 rfl) ?_
    refine g_roVi (As := [.int (nI j), .int (nI k), .int x]) (rest := []) ⟨hx, hb, hml, hown, hts⟩ (c_NB_isToBeSent l dI dO dG dN dT aN aB nS nP nR nG nO nU nT tP tR tO tN tF tZ mP mN j k x (by first | omega | assumption) (by first | omega | assumption)) (cwV 3 hts (gw_V k224 k226 k5 k29 k227) rfl rfl rfl (by decide +kernel) ⟨Nat.le_of_ble_eq_true rfl, Nat.le_of_ble_eq_true rfl⟩) hK hP (va_recv hK hP (ci := 2) (q0 := 4) rfl rfl) rfl hl.1 rfl (Nat.le_of_ble_eq_true rfl) dNB_firstToSend_12 ⟨Nat.zero_le _, Nat.zero_le _⟩ ?_
    refine lv_if_eqb (tgt := 20) hx hb dNB_firstToSend_15 (by decide) (fun c3 => ?_) (fun c3 => ?_)
    · refine lv_iinc (v := nI (k + 1)) (lv' := [(3, .int (nI (k + 1))), (0, .ref (a 4)), (1, .int (nI j)), (2, .int x)]) hx hb dNB_firstToSend_20 hl (k := 0) rfl (nI_1 k) (by decide) rfl (fun ls hl => ?_)
      refine lv_goto (tgt := 2) hx hb dNB_firstToSend_23 (by decide) ?_
      have e1 : LNB_firstToSend nO nU nT j x (n + 1) k  = LNB_firstToSend nO nU nT j x n (k + 1)  := by simp only [LNB_firstToSend, cond_no c3]
      rw [e1] at hq
      exact ih (k + 1)  ls (by omega)  hP (lv_sub hl [0, 1, 2, 3] rfl) hq
    · refine lv_iload_n hx hb dNB_firstToSend_18 rfl (lv_at hl 0 rfl) ?_
      have e1 : LNB_firstToSend nO nU nT j x (n + 1) k  = some k := by simp only [LNB_firstToSend, cond_yes c3]
      rw [e1] at hq
      exact r_iret hx hb hr hq hlocks dNB_firstToSend_19
set_option maxHeartbeats 4000000 in
set_option maxRecDepth 100000 in
theorem c_NB_firstToSend (l : Launch) {D : va_G} {cI cL : ClassId} {a : Nat → Nat}  (dI : Nat) (dO dG dN dT : Int32) (aN aB : Nat → Int32) (nS nP nR nG : Nat → Int32) (nO nU : Nat → Int64) (nT : Nat → Int32) (tP tR tO tN : Nat → Int32) (tF tZ : Nat) (mP : Nat → Int32) (mN : Int64) (j : Nat) (x : Int32) (hj : j < 16) : Met l yNB_firstToSend wsNB_firstToSend ({ frames := 1, cells := 0, slots := 0, locals := 25 }) (va_Pc [.ref (a 4), .int (nI j), .int x] (gG D (tyC cI cL) (wC cI cL a) ((dI, dO, dG, dN, dT), (aN, aB), (nS, nP, nR, nG, nO, nU, nT), (tP, tR, tO, tN, tF, tZ), (mP, mN)))) (vp_Si (fun r : Int32 => r = oi (LNB_firstToSend nO nU nT j x 64 0 ))) 0 0 (fun _ => False) := by
  refine g_enter (by decide) rfl (Nat.le_of_ble_eq_true rfl) ?_
  intro p e s m below meth c ls F hK hP hl
  obtain ⟨hx, hb, hr, hml, hown, hts, hlocks⟩ := id F
  have hl : lv_has ls 4 [(0, .ref (a 4)), (1, .int (nI j)), (2, .int x)] := hl
  refine lv_iconst (v := nI 0) hx hb dNB_firstToSend_0 (by decide) ?_
  refine lv_istore_n (lv' := [(3, .int (nI 0)), (0, .ref (a 4)), (1, .int (nI j)), (2, .int x)]) hx hb dNB_firstToSend_1 rfl hl (by decide) rfl (fun ls hl => ?_)
  exact lpNB_firstToSend F hK hj _ 64 0  ls rfl  hP (lv_sub hl [0, 1, 2, 3] rfl) rfl
theorem LNB_firstToSend_lt {nO nU : Nat → Int64} {nT : Nat → Int32} {i : Nat} {x : Int32} : ∀ (n k j : Nat), LNB_firstToSend nO nU nT i x n k = some j → j < k + n := by
  intro n
  induction n with
  | zero => intro k j h; simp only [LNB_firstToSend] at h; cases h
  | succ n ih =>
    intro k j h
    simp only [LNB_firstToSend] at h
    cases hb : fNB_isToBeSent nO nU nT i k x
    · simp only [hb, cond_false] at h; have := ih _ _ h; omega
    · simp only [hb, cond_true] at h; cases h; omega
theorem c_NB_firstToSend_lt {nO nU : Nat → Int64} {nT : Nat → Int32} {i : Nat} {x : Int32} {k : Nat} (h : LNB_firstToSend nO nU nT i x 64 0 = some k) : k < 64 := by
  have := LNB_firstToSend_lt _ _ _ h; omega
def LNB_firstToServe (nP : Nat → Int32) (nR : Nat → Int32) (nO : Nat → Int64) (nU : Nat → Int64) (nT : Nat → Int32) (x : Int32) : Nat → Nat → Option Nat → Int32 → Option Nat
  | 0, k, f, g => f
  | n + 1, k, f, g => (if (nO k) = 0 then LNB_firstToServe nP nR nO nU nT x n (k + 1) f g else (if g ≤ (((nP k) * (nI 64)) + (nR k)) then LNB_firstToServe nP nR nO nU nT x n (k + 1) f g else (match LNB_firstToSend nO nU nT k x 64 0  with | none => LNB_firstToServe nP nR nO nU nT x n (k + 1) f g | some k5 => LNB_firstToServe nP nR nO nU nT x n (k + 1) (some k) (((nP k) * (nI 64)) + (nR k)))))
set_option maxHeartbeats 4000000 in
set_option maxRecDepth 100000 in
theorem lpNB_firstToServe {p : Program} {l : Launch} {e : Env} {s : State} {m : MethodId} {args : Array Value} {below : List Frame} {meth : Method} {c : Code} {D : va_G} {cI cL : ClassId} {a : Nat → Nat}  (F : gFix p c cNB_firstToServe meth (some .int) m s args bigW RNB 6) (hK : va_K D vwCl (tyC cI cL) s) {dI : Nat} {dO : Int32} {dG : Int32} {dN : Int32} {dT : Int32} {aN : Nat → Int32} {aB : Nat → Int32} {nS : Nat → Int32} {nP : Nat → Int32} {nR : Nat → Int32} {nG : Nat → Int32} {nO : Nat → Int64} {nU : Nat → Int64} {nT : Nat → Int32} {tP : Nat → Int32} {tR : Nat → Int32} {tO : Nat → Int32} {tN : Nat → Int32} {tF : Nat} {tZ : Nat} {mP : Nat → Int32} {mN : Int64} {x : Int32}  (post : Int32 → Prop) : ∀ (n k : Nat) (f : Option Nat) (g : Int32)  (ls : Array Slot), k + n = 16 → va_P D vwCl (wC cI cL a ((dI, dO, dG, dN, dT), (aN, aB), (nS, nP, nR, nG, nO, nU, nT), (tP, tR, tO, tN, tF, tZ), (mP, mN))) s.heap → lv_has ls 6 [(4, .int (nI k)), (3, .int g), (2, .int (oi f)), (0, .ref (a 4)), (1, .int x)] → post (oi (LNB_firstToServe nP nR nO nU nT x n k f g)) → W p l e ({ frames := 2, cells := 0, slots := 0, locals := 48 }) s m args below meth c s.heap [] 0 0 (MQ below (vp_Si post) args s 0 0 (fun _ => False)) (F0 m 9 ls []) := by
  obtain ⟨hx, hb, hr, hml, hown, hts, hlocks⟩ := F
  intro n
  induction n with
  | zero =>
    intro k f g ls hkn  hP hl hq
    refine lv_iload hx hb dNB_firstToServe_9 (lv_at hl 0 rfl) ?_
    refine lv_bipush (v := nI 16) hx hb dNB_firstToServe_11 (by decide) ?_
    refine lv_icmp_ge (tgt := 77) hx hb dNB_firstToServe_13 (by decide) (fun _ => ?_) (fun c0 => absurd (nI_le (by omega) (by omega)) c0)
    refine lv_iload_n hx hb dNB_firstToServe_77 rfl (lv_at hl 2 rfl) ?_
    have e1 : LNB_firstToServe nP nR nO nU nT x 0 k f g = f := by simp only [LNB_firstToServe]
    rw [e1] at hq
    exact r_iret hx hb hr hq hlocks dNB_firstToServe_78
  | succ n ih =>
    intro k f g ls hkn  hP hl hq
    refine lv_iload hx hb dNB_firstToServe_9 (lv_at hl 0 rfl) ?_
    refine lv_bipush (v := nI 16) hx hb dNB_firstToServe_11 (by decide) ?_
    refine lv_icmp_ge (tgt := 77) hx hb dNB_firstToServe_13 (by decide) (fun c0 => absurd c0 (nI_ge (by omega) (by decide))) (fun _ => ?_)
    refine lv_aload_n hx hb dNB_firstToServe_16 rfl (lv_at hl 3 rfl) ?_
    refine va_get (D := D) (ci := 2) (v := .ref (a 6)) (C := RNB) (T := TNB) (N := 7) hx hb hts inNB hown hK hP 4 rfl rfl 1 (by decide) (hts _ k68) (fun _ h9 => h9) rfl dNB_firstToServe_17 ?_
    refine lv_iload hx hb dNB_firstToServe_20 (lv_at hl 0 rfl) ?_
    refine ir_iald hx hb hK hP 6 0 rfl rfl (k := k) (by omega) (by decide) dNB_firstToServe_22 ?_
    refine lv_bipush (v := nI 64) hx hb dNB_firstToServe_23 (by decide) ?_
    refine lv_imul hx hb dNB_firstToServe_25 ?_
    refine lv_aload_n hx hb dNB_firstToServe_26 rfl (lv_at hl 3 rfl) ?_
    refine va_get (D := D) (ci := 2) (v := .ref (a 7)) (C := RNB) (T := TNB) (N := 7) hx hb hts inNB hown hK hP 4 rfl rfl 2 (by decide) (hts _ k69) (fun _ h9 => h9) rfl dNB_firstToServe_27 ?_
    refine lv_iload hx hb dNB_firstToServe_30 (lv_at hl 0 rfl) ?_
    refine ir_iald hx hb hK hP 7 0 rfl rfl (k := k) (by omega) (by decide) dNB_firstToServe_32 ?_
    refine lv_iadd hx hb dNB_firstToServe_33 ?_
    refine lv_istore (lv' := [(5, .int (((nP k) * (nI 64)) + (nR k))), (4, .int (nI k)), (3, .int g), (2, .int (oi f)), (0, .ref (a 4)), (1, .int x)]) hx hb dNB_firstToServe_34 hl (by decide) rfl (fun ls hl => ?_)
    refine lv_aload_n hx hb dNB_firstToServe_36 rfl (lv_at hl 4 rfl) ?_
    refine va_get (D := D) (ci := 2) (v := .ref (a 9)) (C := RNB) (T := TNB) (N := 7) hx hb hts inNB hown hK hP 4 rfl rfl 4 (by decide) (hts _ k71) (fun _ h9 => h9) rfl dNB_firstToServe_37 ?_
    refine lv_iload hx hb dNB_firstToServe_40 (lv_at hl 1 rfl) ?_
    refine ir_lald hx hb hK hP 9 1 rfl rfl (k := k) (by omega) (by decide) dNB_firstToServe_42 ?_
    refine lv_lconst (v := 0) hx hb dNB_firstToServe_43 (by decide) ?_
    refine lv_lif_eq (tgt := 71) hx hb dNB_firstToServe_44 dNB_firstToServe_45 (by decide) (fun c3 => ?_) (fun c3 => ?_)
    · refine lv_iinc (v := nI (k + 1)) (lv' := [(4, .int (nI (k + 1))), (5, .int (((nP k) * (nI 64)) + (nR k))), (3, .int g), (2, .int (oi f)), (0, .ref (a 4)), (1, .int x)]) hx hb dNB_firstToServe_71 hl (k := 1) rfl (nI_1 k) (by decide) rfl (fun ls hl => ?_)
      refine lv_goto (tgt := 9) hx hb dNB_firstToServe_74 (by decide) ?_
      have e1 : LNB_firstToServe nP nR nO nU nT x (n + 1) k f g = LNB_firstToServe nP nR nO nU nT x n (k + 1) f g := by simp only [LNB_firstToServe, if_pos c3]
      rw [e1] at hq
      exact ih (k + 1) f g ls (by omega)  hP (lv_sub hl [0, 2, 3, 4, 5] rfl) hq
    · refine lv_iload hx hb dNB_firstToServe_48 (lv_at hl 0 rfl) ?_
      refine lv_iload_n hx hb dNB_firstToServe_50 rfl (lv_at hl 2 rfl) ?_
      refine lv_icmp_ge (tgt := 71) hx hb dNB_firstToServe_51 (by decide) (fun c4 => ?_) (fun c4 => ?_)
      · refine lv_iinc (v := nI (k + 1)) (lv' := [(4, .int (nI (k + 1))), (5, .int (((nP k) * (nI 64)) + (nR k))), (3, .int g), (2, .int (oi f)), (0, .ref (a 4)), (1, .int x)]) hx hb dNB_firstToServe_71 hl (k := 1) rfl (nI_1 k) (by decide) rfl (fun ls hl => ?_)
        refine lv_goto (tgt := 9) hx hb dNB_firstToServe_74 (by decide) ?_
        have e1 : LNB_firstToServe nP nR nO nU nT x (n + 1) k f g = LNB_firstToServe nP nR nO nU nT x n (k + 1) f g := by first | (simp only [LNB_firstToServe, if_neg c3, if_pos c4]; done) | (simp only [LNB_firstToServe, if_neg c3]; simp only [if_pos c4])
        rw [e1] at hq
        exact ih (k + 1) f g ls (by omega)  hP (lv_sub hl [0, 2, 3, 4, 5] rfl) hq
      · refine lv_aload_n hx hb dNB_firstToServe_54 rfl (lv_at hl 4 rfl) ?_
        refine lv_iload hx hb dNB_firstToServe_55 (lv_at hl 1 rfl) ?_
        refine lv_iload_n hx hb dNB_firstToServe_57 rfl (lv_at hl 5 rfl) ?_
        refine g_roVi (As := [.int (nI k), .int x]) (rest := []) ⟨hx, hb, hml, hown, hts⟩ (c_NB_firstToSend l dI dO dG dN dT aN aB nS nP nR nG nO nU nT tP tR tO tN tF tZ mP mN k x (by first | omega | assumption)) (cwV 2 hts (gw_V k220 k221 k222 k29 k223) rfl rfl rfl (by decide +kernel) ⟨Nat.le_of_ble_eq_true rfl, Nat.le_of_ble_eq_true rfl⟩) hK hP (va_recv hK hP (ci := 2) (q0 := 4) rfl rfl) rfl hl.1 rfl (Nat.le_of_ble_eq_true rfl) dNB_firstToServe_58 ⟨Nat.zero_le _, Nat.zero_le _⟩ ?_
        rcases ho6 : LNB_firstToSend nO nU nT k x 64 0  with _ | k5
        · refine lv_iconst (v := (-1)) hx hb dNB_firstToServe_61 (by decide) ?_
          refine lv_icmp_eq (tgt := 71) hx hb dNB_firstToServe_62 (by decide) (fun _ => ?_) (fun c0 => absurd rfl c0)
          refine lv_iinc (v := nI (k + 1)) (lv' := [(4, .int (nI (k + 1))), (5, .int (((nP k) * (nI 64)) + (nR k))), (3, .int g), (2, .int (oi f)), (0, .ref (a 4)), (1, .int x)]) hx hb dNB_firstToServe_71 hl (k := 1) rfl (nI_1 k) (by decide) rfl (fun ls hl => ?_)
          refine lv_goto (tgt := 9) hx hb dNB_firstToServe_74 (by decide) ?_
          have e1 : LNB_firstToServe nP nR nO nU nT x (n + 1) k f g = LNB_firstToServe nP nR nO nU nT x n (k + 1) f g := by first | (simp only [LNB_firstToServe, if_neg c3, if_neg c4, ho6]; done) | (simp only [LNB_firstToServe, if_neg c3]; simp only [if_neg c4]; simp only [ho6])
          rw [e1] at hq
          exact ih (k + 1) f g ls (by omega)  hP (lv_sub hl [0, 2, 3, 4, 5] rfl) hq
        · have hk5 := c_NB_firstToSend_lt ho6
          refine lv_iconst (v := (-1)) hx hb dNB_firstToServe_61 (by decide) ?_
          refine lv_icmp_eq (tgt := 71) hx hb dNB_firstToServe_62 (by decide) (fun c0 => absurd c0 (nI_m1 (by omega))) (fun _ => ?_)
          refine lv_iload hx hb dNB_firstToServe_65 (lv_at hl 1 rfl) ?_
          refine lv_istore_n (lv' := [(2, .int (nI k)), (5, .int (((nP k) * (nI 64)) + (nR k))), (4, .int (nI k)), (3, .int g), (0, .ref (a 4)), (1, .int x)]) hx hb dNB_firstToServe_67 rfl hl (by decide) rfl (fun ls hl => ?_)
          refine lv_iload hx hb dNB_firstToServe_68 (lv_at hl 1 rfl) ?_
          refine lv_istore_n (lv' := [(3, .int (((nP k) * (nI 64)) + (nR k))), (2, .int (nI k)), (5, .int (((nP k) * (nI 64)) + (nR k))), (4, .int (nI k)), (0, .ref (a 4)), (1, .int x)]) hx hb dNB_firstToServe_70 rfl hl (by decide) rfl (fun ls hl => ?_)
          refine lv_iinc (v := nI (k + 1)) (lv' := [(4, .int (nI (k + 1))), (3, .int (((nP k) * (nI 64)) + (nR k))), (2, .int (nI k)), (5, .int (((nP k) * (nI 64)) + (nR k))), (0, .ref (a 4)), (1, .int x)]) hx hb dNB_firstToServe_71 hl (k := 3) rfl (nI_1 k) (by decide) rfl (fun ls hl => ?_)
          refine lv_goto (tgt := 9) hx hb dNB_firstToServe_74 (by decide) ?_
          have e1 : LNB_firstToServe nP nR nO nU nT x (n + 1) k f g = LNB_firstToServe nP nR nO nU nT x n (k + 1) (some k) (((nP k) * (nI 64)) + (nR k)) := by first | (simp only [LNB_firstToServe, if_neg c3, if_neg c4, ho6]; done) | (simp only [LNB_firstToServe, if_neg c3]; simp only [if_neg c4]; simp only [ho6])
          rw [e1] at hq
          exact ih (k + 1) (some k) (((nP k) * (nI 64)) + (nR k)) ls (by omega)  hP (lv_sub hl [0, 1, 2, 4, 5] rfl) hq
set_option maxHeartbeats 4000000 in
set_option maxRecDepth 100000 in
theorem c_NB_firstToServe (l : Launch) {D : va_G} {cI cL : ClassId} {a : Nat → Nat}  (dI : Nat) (dO dG dN dT : Int32) (aN aB : Nat → Int32) (nS nP nR nG : Nat → Int32) (nO nU : Nat → Int64) (nT : Nat → Int32) (tP tR tO tN : Nat → Int32) (tF tZ : Nat) (mP : Nat → Int32) (mN : Int64) (x : Int32)  : Met l yNB_firstToServe wsNB_firstToServe ({ frames := 2, cells := 0, slots := 0, locals := 48 }) (va_Pc [.ref (a 4), .int x] (gG D (tyC cI cL) (wC cI cL a) ((dI, dO, dG, dN, dT), (aN, aB), (nS, nP, nR, nG, nO, nU, nT), (tP, tR, tO, tN, tF, tZ), (mP, mN)))) (vp_Si (fun r : Int32 => r = oi (LNB_firstToServe nP nR nO nU nT x 16 0 none 512))) 0 0 (fun _ => False) := by
  refine g_enter (by decide) rfl (Nat.le_of_ble_eq_true rfl) ?_
  intro p e s m below meth c ls F hK hP hl
  obtain ⟨hx, hb, hr, hml, hown, hts, hlocks⟩ := id F
  have hl : lv_has ls 6 [(0, .ref (a 4)), (1, .int x)] := hl
  refine lv_iconst (v := (-1)) hx hb dNB_firstToServe_0 (by decide) ?_
  refine lv_istore_n (lv' := [(2, .int (-1)), (0, .ref (a 4)), (1, .int x)]) hx hb dNB_firstToServe_1 rfl hl (by decide) rfl (fun ls hl => ?_)
  refine lv_sipush (v := 512) hx hb dNB_firstToServe_2 (by decide) ?_
  refine lv_istore_n (lv' := [(3, .int 512), (2, .int (-1)), (0, .ref (a 4)), (1, .int x)]) hx hb dNB_firstToServe_5 rfl hl (by decide) rfl (fun ls hl => ?_)
  refine lv_iconst (v := nI 0) hx hb dNB_firstToServe_6 (by decide) ?_
  refine lv_istore (lv' := [(4, .int (nI 0)), (3, .int 512), (2, .int (-1)), (0, .ref (a 4)), (1, .int x)]) hx hb dNB_firstToServe_7 hl (by decide) rfl (fun ls hl => ?_)
  exact lpNB_firstToServe F hK  _ 16 0 none 512 ls rfl  hP (lv_sub hl [0, 1, 2, 3, 4] rfl) rfl
theorem LNB_firstToServe_lt {nP nR : Nat → Int32} {nO nU : Nat → Int64} {nT : Nat → Int32} {x : Int32} : ∀ (n k : Nat) (f : Option Nat) (g : Int32) (j : Nat), LNB_firstToServe nP nR nO nU nT x n k f g = some j → f = some j ∨ j < k + n := by
  intro n
  induction n with
  | zero => intro k f g j h; simp only [LNB_firstToServe] at h; exact Or.inl h
  | succ n ih =>
    intro k f g j h
    simp only [LNB_firstToServe] at h
    repeat' split at h
    all_goals (rcases ih _ _ _ _ h with h1 | h1 <;> first | exact Or.inl h1 | (right; omega) | (cases h1; right; omega))
theorem c_NB_firstToServe_lt {nP nR : Nat → Int32} {nO nU : Nat → Int64} {nT : Nat → Int32} {x : Int32} {k : Nat} (h : LNB_firstToServe nP nR nO nU nT x 16 0 none 512 = some k) : k < 16 := by
  rcases LNB_firstToServe_lt _ _ _ _ _ h with h1 | h1
  · cases h1
  · omega
set_option maxHeartbeats 4000000 in
set_option maxRecDepth 100000 in
theorem c_NB_portAt (l : Launch) {D : va_G} {cI cL : ClassId} {a : Nat → Nat}  (dI : Nat) (dO dG dN dT : Int32) (aN aB : Nat → Int32) (nS nP nR nG : Nat → Int32) (nO nU : Nat → Int64) (nT : Nat → Int32) (tP tR tO tN : Nat → Int32) (tF tZ : Nat) (mP : Nat → Int32) (mN : Int64) (j : Nat) (hj : j < 16) : Met l yNB_portAt wsNB_portAt ({ frames := 0, cells := 0, slots := 0, locals := 0 }) (va_Pc [.ref (a 4), .int (nI j)] (gG D (tyC cI cL) (wC cI cL a) ((dI, dO, dG, dN, dT), (aN, aB), (nS, nP, nR, nG, nO, nU, nT), (tP, tR, tO, tN, tF, tZ), (mP, mN)))) (vp_Si (fun r : Int32 => r = nP j)) 0 0 (fun _ => False) := by
  refine g_enter (by decide) rfl (Nat.le_of_ble_eq_true rfl) ?_
  intro p e s m below meth c ls F hK hP hl
  obtain ⟨hx, hb, hr, hml, hown, hts, hlocks⟩ := id F
  have hl : lv_has ls 2 [(0, .ref (a 4)), (1, .int (nI j))] := hl
  refine lv_aload_n hx hb dNB_portAt_0 rfl (lv_at hl 0 rfl) ?_
  refine va_get (D := D) (ci := 2) (v := .ref (a 6)) (C := RNB) (T := TNB) (N := 7) hx hb hts inNB hown hK hP 4 rfl rfl 1 (by decide) (hts _ k68) (fun _ h9 => h9) rfl dNB_portAt_1 ?_
  refine lv_iload_n hx hb dNB_portAt_4 rfl (lv_at hl 1 rfl) ?_
  refine ir_iald hx hb hK hP 6 0 rfl rfl (k := j) (by omega) (by decide) dNB_portAt_5 ?_
  exact r_iret hx hb hr (rfl) hlocks dNB_portAt_6
set_option maxHeartbeats 4000000 in
set_option maxRecDepth 100000 in
theorem c_NB_routerAt (l : Launch) {D : va_G} {cI cL : ClassId} {a : Nat → Nat}  (dI : Nat) (dO dG dN dT : Int32) (aN aB : Nat → Int32) (nS nP nR nG : Nat → Int32) (nO nU : Nat → Int64) (nT : Nat → Int32) (tP tR tO tN : Nat → Int32) (tF tZ : Nat) (mP : Nat → Int32) (mN : Int64) (j : Nat) (hj : j < 16) : Met l yNB_routerAt wsNB_routerAt ({ frames := 0, cells := 0, slots := 0, locals := 0 }) (va_Pc [.ref (a 4), .int (nI j)] (gG D (tyC cI cL) (wC cI cL a) ((dI, dO, dG, dN, dT), (aN, aB), (nS, nP, nR, nG, nO, nU, nT), (tP, tR, tO, tN, tF, tZ), (mP, mN)))) (vp_Si (fun r : Int32 => r = nR j)) 0 0 (fun _ => False) := by
  refine g_enter (by decide) rfl (Nat.le_of_ble_eq_true rfl) ?_
  intro p e s m below meth c ls F hK hP hl
  obtain ⟨hx, hb, hr, hml, hown, hts, hlocks⟩ := id F
  have hl : lv_has ls 2 [(0, .ref (a 4)), (1, .int (nI j))] := hl
  refine lv_aload_n hx hb dNB_routerAt_0 rfl (lv_at hl 0 rfl) ?_
  refine va_get (D := D) (ci := 2) (v := .ref (a 7)) (C := RNB) (T := TNB) (N := 7) hx hb hts inNB hown hK hP 4 rfl rfl 2 (by decide) (hts _ k69) (fun _ h9 => h9) rfl dNB_routerAt_1 ?_
  refine lv_iload_n hx hb dNB_routerAt_4 rfl (lv_at hl 1 rfl) ?_
  refine ir_iald hx hb hK hP 7 0 rfl rfl (k := j) (by omega) (by decide) dNB_routerAt_5 ?_
  exact r_iret hx hb hr (rfl) hlocks dNB_routerAt_6
def LNB_heardOn (nS : Nat → Int32) (nP : Nat → Int32) (nR : Nat → Int32) (x : Int32) : Nat → Nat → Int64 → Int64
  | 0, k, w => w
  | n + 1, k, w => (if (nS k) = 0 then LNB_heardOn nS nP nR x n (k + 1) w else (if (nP k) = x then LNB_heardOn nS nP nR x n (k + 1) (w ||| (bW (nR k))) else LNB_heardOn nS nP nR x n (k + 1) w))
set_option maxHeartbeats 4000000 in
set_option maxRecDepth 100000 in
theorem lpNB_heardOn {p : Program} {l : Launch} {e : Env} {s : State} {m : MethodId} {args : Array Value} {below : List Frame} {meth : Method} {c : Code} {D : va_G} {cI cL : ClassId} {a : Nat → Nat}  (F : gFix p c cNB_heardOn meth (some .long) m s args bigW RNB 5) (hK : va_K D vwCl (tyC cI cL) s) {dI : Nat} {dO : Int32} {dG : Int32} {dN : Int32} {dT : Int32} {aN : Nat → Int32} {aB : Nat → Int32} {nS : Nat → Int32} {nP : Nat → Int32} {nR : Nat → Int32} {nG : Nat → Int32} {nO : Nat → Int64} {nU : Nat → Int64} {nT : Nat → Int32} {tP : Nat → Int32} {tR : Nat → Int32} {tO : Nat → Int32} {tN : Nat → Int32} {tF : Nat} {tZ : Nat} {mP : Nat → Int32} {mN : Int64} {x : Int32}  (post : Int64 → Prop) : ∀ (n k : Nat) (w : Int64)  (ls : Array Slot), k + n = 16 → va_P D vwCl (wC cI cL a ((dI, dO, dG, dN, dT), (aN, aB), (nS, nP, nR, nG, nO, nU, nT), (tP, tR, tO, tN, tF, tZ), (mP, mN))) s.heap → lv_has ls 5 [(4, .int (nI k)), (2, .long w), (0, .ref (a 4)), (1, .int x)] → post (LNB_heardOn nS nP nR x n k w) → W p l e ({ frames := 0, cells := 0, slots := 0, locals := 0 }) s m args below meth c s.heap [] 0 0 (MQ below (vp_Sl post) args s 0 0 (fun _ => False)) (F0 m 5 ls []) := by
  obtain ⟨hx, hb, hr, hml, hown, hts, hlocks⟩ := F
  intro n
  induction n with
  | zero =>
    intro k w ls hkn  hP hl hq
    refine lv_iload hx hb dNB_heardOn_5 (lv_at hl 0 rfl) ?_
    refine lv_bipush (v := nI 16) hx hb dNB_heardOn_7 (by decide) ?_
    refine lv_icmp_ge (tgt := 51) hx hb dNB_heardOn_9 (by decide) (fun _ => ?_) (fun c0 => absurd (nI_le (by omega) (by omega)) c0)
    refine lv_lload_n hx hb dNB_heardOn_51 rfl (lv_at hl 1 rfl) ?_
    have e1 : LNB_heardOn nS nP nR x 0 k w = w := by simp only [LNB_heardOn]
    rw [e1] at hq
    exact r_lret hx hb hr hq hlocks dNB_heardOn_52
  | succ n ih =>
    intro k w ls hkn  hP hl hq
    refine lv_iload hx hb dNB_heardOn_5 (lv_at hl 0 rfl) ?_
    refine lv_bipush (v := nI 16) hx hb dNB_heardOn_7 (by decide) ?_
    refine lv_icmp_ge (tgt := 51) hx hb dNB_heardOn_9 (by decide) (fun c0 => absurd c0 (nI_ge (by omega) (by decide))) (fun _ => ?_)
    refine lv_aload_n hx hb dNB_heardOn_12 rfl (lv_at hl 2 rfl) ?_
    refine va_get (D := D) (ci := 2) (v := .ref (a 5)) (C := RNB) (T := TNB) (N := 7) hx hb hts inNB hown hK hP 4 rfl rfl 0 (by decide) (hts _ k67) (fun _ h9 => h9) rfl dNB_heardOn_13 ?_
    refine lv_iload hx hb dNB_heardOn_16 (lv_at hl 0 rfl) ?_
    refine ir_iald hx hb hK hP 5 0 rfl rfl (k := k) (by omega) (by decide) dNB_heardOn_18 ?_
    refine lv_if_eq (tgt := 45) hx hb dNB_heardOn_19 (by decide) (fun c3 => ?_) (fun c3 => ?_)
    · refine lv_iinc (v := nI (k + 1)) (lv' := [(4, .int (nI (k + 1))), (2, .long w), (0, .ref (a 4)), (1, .int x)]) hx hb dNB_heardOn_45 hl (k := 0) rfl (nI_1 k) (by decide) rfl (fun ls hl => ?_)
      refine lv_goto (tgt := 5) hx hb dNB_heardOn_48 (by decide) ?_
      have e1 : LNB_heardOn nS nP nR x (n + 1) k w = LNB_heardOn nS nP nR x n (k + 1) w := by simp only [LNB_heardOn, if_pos c3]
      rw [e1] at hq
      exact ih (k + 1) w ls (by omega)  hP (lv_sub hl [0, 1, 2, 3] rfl) hq
    · refine lv_aload_n hx hb dNB_heardOn_22 rfl (lv_at hl 2 rfl) ?_
      refine va_get (D := D) (ci := 2) (v := .ref (a 6)) (C := RNB) (T := TNB) (N := 7) hx hb hts inNB hown hK hP 4 rfl rfl 1 (by decide) (hts _ k68) (fun _ h9 => h9) rfl dNB_heardOn_23 ?_
      refine lv_iload hx hb dNB_heardOn_26 (lv_at hl 0 rfl) ?_
      refine ir_iald hx hb hK hP 6 0 rfl rfl (k := k) (by omega) (by decide) dNB_heardOn_28 ?_
      refine lv_iload_n hx hb dNB_heardOn_29 rfl (lv_at hl 3 rfl) ?_
      refine lv_icmp_ne (tgt := 45) hx hb dNB_heardOn_30 (by decide) (fun c4 => ?_) (fun c4 => ?_)
      · refine lv_iinc (v := nI (k + 1)) (lv' := [(4, .int (nI (k + 1))), (2, .long w), (0, .ref (a 4)), (1, .int x)]) hx hb dNB_heardOn_45 hl (k := 0) rfl (nI_1 k) (by decide) rfl (fun ls hl => ?_)
        refine lv_goto (tgt := 5) hx hb dNB_heardOn_48 (by decide) ?_
        have e1 : LNB_heardOn nS nP nR x (n + 1) k w = LNB_heardOn nS nP nR x n (k + 1) w := by first | (simp only [LNB_heardOn, if_neg c3, if_neg c4]; done) | (simp only [LNB_heardOn, if_neg c3]; simp only [if_neg c4])
        rw [e1] at hq
        exact ih (k + 1) w ls (by omega)  hP (lv_sub hl [0, 1, 2, 3] rfl) hq
      · refine lv_lload_n hx hb dNB_heardOn_33 rfl (lv_at hl 1 rfl) ?_
        refine lv_lconst (v := 1) hx hb dNB_heardOn_34 (by decide) ?_
        refine lv_aload_n hx hb dNB_heardOn_35 rfl (lv_at hl 2 rfl) ?_
        refine va_get (D := D) (ci := 2) (v := .ref (a 7)) (C := RNB) (T := TNB) (N := 7) hx hb hts inNB hown hK hP 4 rfl rfl 2 (by decide) (hts _ k69) (fun _ h9 => h9) rfl dNB_heardOn_36 ?_
        refine lv_iload hx hb dNB_heardOn_39 (lv_at hl 0 rfl) ?_
        refine ir_iald hx hb hK hP 7 0 rfl rfl (k := k) (by omega) (by decide) dNB_heardOn_41 ?_
        refine lv_lshl (v := bW (nR k)) hx hb dNB_heardOn_42 rfl ?_
        refine lv_lor hx hb dNB_heardOn_43 ?_
        refine lv_lstore_n (lv' := [(2, .long (w ||| (bW (nR k)))), (4, .int (nI k)), (0, .ref (a 4)), (1, .int x)]) hx hb dNB_heardOn_44 rfl hl (by decide) rfl (fun ls hl => ?_)
        refine lv_iinc (v := nI (k + 1)) (lv' := [(4, .int (nI (k + 1))), (2, .long (w ||| (bW (nR k)))), (0, .ref (a 4)), (1, .int x)]) hx hb dNB_heardOn_45 hl (k := 1) rfl (nI_1 k) (by decide) rfl (fun ls hl => ?_)
        refine lv_goto (tgt := 5) hx hb dNB_heardOn_48 (by decide) ?_
        have e1 : LNB_heardOn nS nP nR x (n + 1) k w = LNB_heardOn nS nP nR x n (k + 1) (w ||| (bW (nR k))) := by first | (simp only [LNB_heardOn, if_neg c3, if_pos c4]; done) | (simp only [LNB_heardOn, if_neg c3]; simp only [if_pos c4])
        rw [e1] at hq
        exact ih (k + 1) (w ||| (bW (nR k))) ls (by omega)  hP (lv_sub hl [0, 1, 2, 3] rfl) hq
set_option maxHeartbeats 4000000 in
set_option maxRecDepth 100000 in
theorem c_NB_heardOn (l : Launch) {D : va_G} {cI cL : ClassId} {a : Nat → Nat}  (dI : Nat) (dO dG dN dT : Int32) (aN aB : Nat → Int32) (nS nP nR nG : Nat → Int32) (nO nU : Nat → Int64) (nT : Nat → Int32) (tP tR tO tN : Nat → Int32) (tF tZ : Nat) (mP : Nat → Int32) (mN : Int64) (x : Int32)  : Met l yNB_heardOn wsNB_heardOn ({ frames := 0, cells := 0, slots := 0, locals := 0 }) (va_Pc [.ref (a 4), .int x] (gG D (tyC cI cL) (wC cI cL a) ((dI, dO, dG, dN, dT), (aN, aB), (nS, nP, nR, nG, nO, nU, nT), (tP, tR, tO, tN, tF, tZ), (mP, mN)))) (vp_Sl (fun r : Int64 => r = LNB_heardOn nS nP nR x 16 0 0)) 0 0 (fun _ => False) := by
  refine g_enter (by decide) rfl (Nat.le_of_ble_eq_true rfl) ?_
  intro p e s m below meth c ls F hK hP hl
  obtain ⟨hx, hb, hr, hml, hown, hts, hlocks⟩ := id F
  have hl : lv_has ls 5 [(0, .ref (a 4)), (1, .int x)] := hl
  refine lv_lconst (v := 0) hx hb dNB_heardOn_0 (by decide) ?_
  refine lv_lstore_n (lv' := [(2, .long 0), (0, .ref (a 4)), (1, .int x)]) hx hb dNB_heardOn_1 rfl hl (by decide) rfl (fun ls hl => ?_)
  refine lv_iconst (v := nI 0) hx hb dNB_heardOn_2 (by decide) ?_
  refine lv_istore (lv' := [(4, .int (nI 0)), (2, .long 0), (0, .ref (a 4)), (1, .int x)]) hx hb dNB_heardOn_3 hl (by decide) rfl (fun ls hl => ?_)
  exact lpNB_heardOn F hK  _ 16 0 0 ls rfl  hP (lv_sub hl [0, 1, 2, 3] rfl) rfl
def fNB_standingOf (nS : Nat → Int32) (nP : Nat → Int32) (nR : Nat → Int32) (x : Int32) (y : Int32) : Int32 := (match LNB_heardPlace nS nP nR x y 16 0  with | none => 0 | some k1 => nS k1)
set_option maxHeartbeats 4000000 in
set_option maxRecDepth 100000 in
theorem c_NB_standingOf (l : Launch) {D : va_G} {cI cL : ClassId} {a : Nat → Nat}  (dI : Nat) (dO dG dN dT : Int32) (aN aB : Nat → Int32) (nS nP nR nG : Nat → Int32) (nO nU : Nat → Int64) (nT : Nat → Int32) (tP tR tO tN : Nat → Int32) (tF tZ : Nat) (mP : Nat → Int32) (mN : Int64) (x : Int32) (y : Int32)  : Met l yNB_standingOf wsNB_standingOf ({ frames := 1, cells := 0, slots := 0, locals := 23 }) (va_Pc [.ref (a 4), .int x, .int y] (gG D (tyC cI cL) (wC cI cL a) ((dI, dO, dG, dN, dT), (aN, aB), (nS, nP, nR, nG, nO, nU, nT), (tP, tR, tO, tN, tF, tZ), (mP, mN)))) (vp_Si (fun r : Int32 => r = fNB_standingOf nS nP nR x y)) 0 0 (fun _ => False) := by
  refine g_enter (by decide) rfl (Nat.le_of_ble_eq_true rfl) ?_
  intro p e s m below meth c ls F hK hP hl
  obtain ⟨hx, hb, hr, hml, hown, hts, hlocks⟩ := id F
  have hl : lv_has ls 4 [(0, .ref (a 4)), (1, .int x), (2, .int y)] := hl
  refine lv_aload_n hx hb dNB_standingOf_0 rfl (lv_at hl 0 rfl) ?_
  refine lv_iload_n hx hb dNB_standingOf_1 rfl (lv_at hl 1 rfl) ?_
  refine lv_iload_n hx hb dNB_standingOf_2 rfl (lv_at hl 2 rfl) ?_
  refine g_roVi (As := [.int x, .int y]) (rest := []) ⟨hx, hb, hml, hown, hts⟩ (c_NB_heardPlace l dI dO dG dN dT aN aB nS nP nR nG nO nU nT tP tR tO tN tF tZ mP mN x y) (cwV 2 hts (gw_V k411 k413 k12 k29 k414) rfl rfl rfl (by decide +kernel) ⟨Nat.le_of_ble_eq_true rfl, Nat.le_of_ble_eq_true rfl⟩) hK hP (va_recv hK hP (ci := 2) (q0 := 4) rfl rfl) rfl hl.1 rfl (Nat.le_of_ble_eq_true rfl) dNB_standingOf_3 ⟨Nat.zero_le _, Nat.zero_le _⟩ ?_
  rcases ho2 : LNB_heardPlace nS nP nR x y 16 0  with _ | k1
  · refine lv_istore_n (lv' := [(3, .int (oi none)), (0, .ref (a 4)), (1, .int x), (2, .int y)]) hx hb dNB_standingOf_6 rfl hl (by decide) rfl (fun ls hl => ?_)
    refine lv_iload_n hx hb dNB_standingOf_7 rfl (lv_at hl 0 rfl) ?_
    refine lv_iconst (v := (-1)) hx hb dNB_standingOf_8 (by decide) ?_
    refine lv_icmp_ne (tgt := 16) hx hb dNB_standingOf_9 (by decide) (fun c0 => absurd rfl c0) (fun _ => ?_)
    refine lv_iconst (v := 0) hx hb dNB_standingOf_12 (by decide) ?_
    refine lv_goto (tgt := 22) hx hb dNB_standingOf_13 (by decide) ?_
    have e1 : fNB_standingOf nS nP nR x y = 0 := by simp only [fNB_standingOf, ho2]
    exact r_iret hx hb hr (by first | rfl | (rw [e1] <;> rfl)) hlocks dNB_standingOf_22
  · have hk1 := c_NB_heardPlace_lt ho2
    refine lv_istore_n (lv' := [(3, .int (nI k1)), (0, .ref (a 4)), (1, .int x), (2, .int y)]) hx hb dNB_standingOf_6 rfl hl (by decide) rfl (fun ls hl => ?_)
    refine lv_iload_n hx hb dNB_standingOf_7 rfl (lv_at hl 0 rfl) ?_
    refine lv_iconst (v := (-1)) hx hb dNB_standingOf_8 (by decide) ?_
    refine lv_icmp_ne (tgt := 16) hx hb dNB_standingOf_9 (by decide) (fun _ => ?_) (fun c0 => absurd c0 (nI_m1 (by omega)))
    refine lv_aload_n hx hb dNB_standingOf_16 rfl (lv_at hl 1 rfl) ?_
    refine va_get (D := D) (ci := 2) (v := .ref (a 5)) (C := RNB) (T := TNB) (N := 7) hx hb hts inNB hown hK hP 4 rfl rfl 0 (by decide) (hts _ k67) (fun _ h9 => h9) rfl dNB_standingOf_17 ?_
    refine lv_iload_n hx hb dNB_standingOf_20 rfl (lv_at hl 0 rfl) ?_
    refine ir_iald hx hb hK hP 5 0 rfl rfl (k := k1) (by omega) (by decide) dNB_standingOf_21 ?_
    have e1 : fNB_standingOf nS nP nR x y = nS k1 := by simp only [fNB_standingOf, ho2]
    exact r_iret hx hb hr (by first | rfl | (rw [e1] <;> rfl)) hlocks dNB_standingOf_22
set_option maxHeartbeats 4000000 in
set_option maxRecDepth 100000 in
theorem c_LG_bitCount (l : Launch) {D : va_G} {cI cL : ClassId} {a : Nat → Nat}  (dI : Nat) (dO dG dN dT : Int32) (aN aB : Nat → Int32) (nS nP nR nG : Nat → Int32) (nO nU : Nat → Int64) (nT : Nat → Int32) (tP tR tO tN : Nat → Int32) (tF tZ : Nat) (mP : Nat → Int32) (mN : Int64) (w : Int64)  : Met l yLG_bitCount wsLG_bitCount ({ frames := 0, cells := 0, slots := 0, locals := 0 }) (va_Pc [.long w] (gG D (tyC cI cL) (wC cI cL a) ((dI, dO, dG, dN, dT), (aN, aB), (nS, nP, nR, nG, nO, nU, nT), (tP, tR, tO, tN, tF, tZ), (mP, mN)))) (vp_Si (fun r : Int32 => r = bcN w)) 0 0 (fun _ => False) := by
  refine g_enter (by decide) rfl (Nat.le_of_ble_eq_true rfl) ?_
  intro p e s m below meth c ls F hK hP hl
  obtain ⟨hx, hb, hr, hml, hown, hts, hlocks⟩ := id F
  have hl : lv_has ls 2 [(0, .long w)] := hl
  refine lv_lload_n hx hb dLG_bitCount_0 rfl (lv_at hl 0 rfl) ?_
  refine lv_lload_n hx hb dLG_bitCount_1 rfl (lv_at hl 0 rfl) ?_
  refine lv_iconst (v := 1) hx hb dLG_bitCount_2 (by decide) ?_
  refine lv_lushr (v := ush w 1) hx hb dLG_bitCount_3 rfl ?_
  refine lv_ldc2 (v := 6148914691236517205) hx hb hown (hts _ k566) dLG_bitCount_4 ?_
  refine lv_land hx hb dLG_bitCount_7 ?_
  refine lv_lsub hx hb dLG_bitCount_8 ?_
  refine lv_eql (y := bc1 w) rfl ?_
  refine lv_lstore_n (lv' := [(0, .long (bc1 w))]) hx hb dLG_bitCount_9 rfl hl (by decide) rfl (fun ls hl => ?_)
  refine lv_lload_n hx hb dLG_bitCount_10 rfl (lv_at hl 0 rfl) ?_
  refine lv_ldc2 (v := 3689348814741910323) hx hb hown (hts _ k567) dLG_bitCount_11 ?_
  refine lv_land hx hb dLG_bitCount_14 ?_
  refine lv_lload_n hx hb dLG_bitCount_15 rfl (lv_at hl 0 rfl) ?_
  refine lv_iconst (v := 2) hx hb dLG_bitCount_16 (by decide) ?_
  refine lv_lushr (v := ush (bc1 w) 2) hx hb dLG_bitCount_17 rfl ?_
  refine lv_ldc2 (v := 3689348814741910323) hx hb hown (hts _ k567) dLG_bitCount_18 ?_
  refine lv_land hx hb dLG_bitCount_21 ?_
  refine lv_ladd hx hb dLG_bitCount_22 ?_
  refine lv_eql (y := bc2 (bc1 w)) rfl ?_
  refine lv_lstore_n (lv' := [(0, .long (bc2 (bc1 w)))]) hx hb dLG_bitCount_23 rfl hl (by decide) rfl (fun ls hl => ?_)
  refine lv_lload_n hx hb dLG_bitCount_24 rfl (lv_at hl 0 rfl) ?_
  refine lv_lload_n hx hb dLG_bitCount_25 rfl (lv_at hl 0 rfl) ?_
  refine lv_iconst (v := 4) hx hb dLG_bitCount_26 (by decide) ?_
  refine lv_lushr (v := ush (bc2 (bc1 w)) 4) hx hb dLG_bitCount_27 rfl ?_
  refine lv_ladd hx hb dLG_bitCount_28 ?_
  refine lv_ldc2 (v := 1085102592571150095) hx hb hown (hts _ k568) dLG_bitCount_29 ?_
  refine lv_land hx hb dLG_bitCount_32 ?_
  refine lv_eql (y := bc3 (bc2 (bc1 w))) rfl ?_
  refine lv_lstore_n (lv' := [(0, .long (bc3 (bc2 (bc1 w))))]) hx hb dLG_bitCount_33 rfl hl (by decide) rfl (fun ls hl => ?_)
  refine lv_lload_n hx hb dLG_bitCount_34 rfl (lv_at hl 0 rfl) ?_
  refine lv_lload_n hx hb dLG_bitCount_35 rfl (lv_at hl 0 rfl) ?_
  refine lv_bipush (v := 8) hx hb dLG_bitCount_36 (by decide) ?_
  refine lv_lushr (v := ush (bc3 (bc2 (bc1 w))) 8) hx hb dLG_bitCount_38 rfl ?_
  refine lv_ladd hx hb dLG_bitCount_39 ?_
  refine lv_eql (y := bc4 8 (bc3 (bc2 (bc1 w)))) rfl ?_
  refine lv_lstore_n (lv' := [(0, .long (bc4 8 (bc3 (bc2 (bc1 w)))))]) hx hb dLG_bitCount_40 rfl hl (by decide) rfl (fun ls hl => ?_)
  refine lv_lload_n hx hb dLG_bitCount_41 rfl (lv_at hl 0 rfl) ?_
  refine lv_lload_n hx hb dLG_bitCount_42 rfl (lv_at hl 0 rfl) ?_
  refine lv_bipush (v := 16) hx hb dLG_bitCount_43 (by decide) ?_
  refine lv_lushr (v := ush (bc4 8 (bc3 (bc2 (bc1 w)))) 16) hx hb dLG_bitCount_45 rfl ?_
  refine lv_ladd hx hb dLG_bitCount_46 ?_
  refine lv_eql (y := bc4 16 (bc4 8 (bc3 (bc2 (bc1 w))))) rfl ?_
  refine lv_lstore_n (lv' := [(0, .long (bc4 16 (bc4 8 (bc3 (bc2 (bc1 w))))))]) hx hb dLG_bitCount_47 rfl hl (by decide) rfl (fun ls hl => ?_)
  refine lv_lload_n hx hb dLG_bitCount_48 rfl (lv_at hl 0 rfl) ?_
  refine lv_lload_n hx hb dLG_bitCount_49 rfl (lv_at hl 0 rfl) ?_
  refine lv_bipush (v := 32) hx hb dLG_bitCount_50 (by decide) ?_
  refine lv_lushr (v := ush (bc4 16 (bc4 8 (bc3 (bc2 (bc1 w))))) 32) hx hb dLG_bitCount_52 rfl ?_
  refine lv_ladd hx hb dLG_bitCount_53 ?_
  refine lv_eql (y := bc4 32 (bc4 16 (bc4 8 (bc3 (bc2 (bc1 w)))))) rfl ?_
  refine lv_lstore_n (lv' := [(0, .long (bc4 32 (bc4 16 (bc4 8 (bc3 (bc2 (bc1 w)))))))]) hx hb dLG_bitCount_54 rfl hl (by decide) rfl (fun ls hl => ?_)
  refine lv_lload_n hx hb dLG_bitCount_55 rfl (lv_at hl 0 rfl) ?_
  refine lv_l2i (v := (bc4 32 (bc4 16 (bc4 8 (bc3 (bc2 (bc1 w)))))).toInt32) hx hb dLG_bitCount_56 rfl ?_
  refine lv_bipush (v := 127) hx hb dLG_bitCount_57 (by decide) ?_
  refine lv_iand hx hb dLG_bitCount_59 ?_
  refine lv_eqi (y := bcN w) (rfl) ?_
  exact r_iret hx hb hr (rfl) hlocks dLG_bitCount_60
def fNB_owedTo (nS : Nat → Int32) (nP : Nat → Int32) (nR : Nat → Int32) (nO : Nat → Int64) (x : Int32) (y : Int32) : Int32 := (match LNB_heardPlace nS nP nR x y 16 0  with | none => 0 | some k1 => bcN (nO k1))
set_option maxHeartbeats 4000000 in
set_option maxRecDepth 100000 in
theorem c_NB_owedTo (l : Launch) {D : va_G} {cI cL : ClassId} {a : Nat → Nat}  (dI : Nat) (dO dG dN dT : Int32) (aN aB : Nat → Int32) (nS nP nR nG : Nat → Int32) (nO nU : Nat → Int64) (nT : Nat → Int32) (tP tR tO tN : Nat → Int32) (tF tZ : Nat) (mP : Nat → Int32) (mN : Int64) (x : Int32) (y : Int32)  : Met l yNB_owedTo wsNB_owedTo ({ frames := 1, cells := 0, slots := 0, locals := 23 }) (va_Pc [.ref (a 4), .int x, .int y] (gG D (tyC cI cL) (wC cI cL a) ((dI, dO, dG, dN, dT), (aN, aB), (nS, nP, nR, nG, nO, nU, nT), (tP, tR, tO, tN, tF, tZ), (mP, mN)))) (vp_Si (fun r : Int32 => r = fNB_owedTo nS nP nR nO x y)) 0 0 (fun _ => False) := by
  refine g_enter (by decide) rfl (Nat.le_of_ble_eq_true rfl) ?_
  intro p e s m below meth c ls F hK hP hl
  obtain ⟨hx, hb, hr, hml, hown, hts, hlocks⟩ := id F
  have hl : lv_has ls 4 [(0, .ref (a 4)), (1, .int x), (2, .int y)] := hl
  refine lv_aload_n hx hb dNB_owedTo_0 rfl (lv_at hl 0 rfl) ?_
  refine lv_iload_n hx hb dNB_owedTo_1 rfl (lv_at hl 1 rfl) ?_
  refine lv_iload_n hx hb dNB_owedTo_2 rfl (lv_at hl 2 rfl) ?_
  refine g_roVi (As := [.int x, .int y]) (rest := []) ⟨hx, hb, hml, hown, hts⟩ (c_NB_heardPlace l dI dO dG dN dT aN aB nS nP nR nG nO nU nT tP tR tO tN tF tZ mP mN x y) (cwV 2 hts (gw_V k411 k413 k12 k29 k414) rfl rfl rfl (by decide +kernel) ⟨Nat.le_of_ble_eq_true rfl, Nat.le_of_ble_eq_true rfl⟩) hK hP (va_recv hK hP (ci := 2) (q0 := 4) rfl rfl) rfl hl.1 rfl (Nat.le_of_ble_eq_true rfl) dNB_owedTo_3 ⟨Nat.zero_le _, Nat.zero_le _⟩ ?_
  rcases ho2 : LNB_heardPlace nS nP nR x y 16 0  with _ | k1
  · refine lv_istore_n (lv' := [(3, .int (oi none)), (0, .ref (a 4)), (1, .int x), (2, .int y)]) hx hb dNB_owedTo_6 rfl hl (by decide) rfl (fun ls hl => ?_)
    refine lv_iload_n hx hb dNB_owedTo_7 rfl (lv_at hl 0 rfl) ?_
    refine lv_iconst (v := (-1)) hx hb dNB_owedTo_8 (by decide) ?_
    refine lv_icmp_ne (tgt := 16) hx hb dNB_owedTo_9 (by decide) (fun c0 => absurd rfl c0) (fun _ => ?_)
    refine lv_iconst (v := 0) hx hb dNB_owedTo_12 (by decide) ?_
    refine lv_goto (tgt := 25) hx hb dNB_owedTo_13 (by decide) ?_
    have e1 : fNB_owedTo nS nP nR nO x y = 0 := by simp only [fNB_owedTo, ho2]
    exact r_iret hx hb hr (by first | rfl | (rw [e1] <;> rfl)) hlocks dNB_owedTo_25
  · have hk1 := c_NB_heardPlace_lt ho2
    refine lv_istore_n (lv' := [(3, .int (nI k1)), (0, .ref (a 4)), (1, .int x), (2, .int y)]) hx hb dNB_owedTo_6 rfl hl (by decide) rfl (fun ls hl => ?_)
    refine lv_iload_n hx hb dNB_owedTo_7 rfl (lv_at hl 0 rfl) ?_
    refine lv_iconst (v := (-1)) hx hb dNB_owedTo_8 (by decide) ?_
    refine lv_icmp_ne (tgt := 16) hx hb dNB_owedTo_9 (by decide) (fun _ => ?_) (fun c0 => absurd c0 (nI_m1 (by omega)))
    refine lv_aload_n hx hb dNB_owedTo_16 rfl (lv_at hl 1 rfl) ?_
    refine va_get (D := D) (ci := 2) (v := .ref (a 9)) (C := RNB) (T := TNB) (N := 7) hx hb hts inNB hown hK hP 4 rfl rfl 4 (by decide) (hts _ k71) (fun _ h9 => h9) rfl dNB_owedTo_17 ?_
    refine lv_iload_n hx hb dNB_owedTo_20 rfl (lv_at hl 0 rfl) ?_
    refine ir_lald hx hb hK hP 9 1 rfl rfl (k := k1) (by omega) (by decide) dNB_owedTo_21 ?_
    refine g_roSi (As := [.long (nO k1)]) (rest := []) ⟨hx, hb, hml, hown, hts⟩ (c_LG_bitCount l dI dO dG dN dT aN aB nS nP nR nG nO nU nT tP tR tO tN tF tZ mP mN (nO k1)) (cw_S 1 hts k563 k564 k38 k565 rfl rfl rfl (by decide +kernel) ⟨Nat.le_of_ble_eq_true rfl, Nat.le_of_ble_eq_true rfl⟩) hK hP rfl hl.1 rfl (Nat.le_of_ble_eq_true rfl) dNB_owedTo_22 ⟨Nat.zero_le _, Nat.zero_le _⟩ ?_
    have e1 : fNB_owedTo nS nP nR nO x y = bcN (nO k1) := by simp only [fNB_owedTo, ho2]
    exact r_iret hx hb hr (by first | rfl | (rw [e1] <;> rfl)) hlocks dNB_owedTo_25
def LNB_atLeast (nS : Nat → Int32) (x : Int32) : Nat → Nat → Int32 → Int32
  | 0, k, g => g
  | n + 1, k, g => (if (nS k) < x then LNB_atLeast nS x n (k + 1) g else LNB_atLeast nS x n (k + 1) (g + 1))
set_option maxHeartbeats 4000000 in
set_option maxRecDepth 100000 in
theorem lpNB_atLeast {p : Program} {l : Launch} {e : Env} {s : State} {m : MethodId} {args : Array Value} {below : List Frame} {meth : Method} {c : Code} {D : va_G} {cI cL : ClassId} {a : Nat → Nat}  (F : gFix p c cNB_atLeast meth (some .int) m s args bigW RNB 4) (hK : va_K D vwCl (tyC cI cL) s) {dI : Nat} {dO : Int32} {dG : Int32} {dN : Int32} {dT : Int32} {aN : Nat → Int32} {aB : Nat → Int32} {nS : Nat → Int32} {nP : Nat → Int32} {nR : Nat → Int32} {nG : Nat → Int32} {nO : Nat → Int64} {nU : Nat → Int64} {nT : Nat → Int32} {tP : Nat → Int32} {tR : Nat → Int32} {tO : Nat → Int32} {tN : Nat → Int32} {tF : Nat} {tZ : Nat} {mP : Nat → Int32} {mN : Int64} {x : Int32}  (post : Int32 → Prop) : ∀ (n k : Nat) (g : Int32)  (ls : Array Slot), k + n = 16 → va_P D vwCl (wC cI cL a ((dI, dO, dG, dN, dT), (aN, aB), (nS, nP, nR, nG, nO, nU, nT), (tP, tR, tO, tN, tF, tZ), (mP, mN))) s.heap → lv_has ls 4 [(3, .int (nI k)), (2, .int g), (0, .ref (a 4)), (1, .int x)] → post (LNB_atLeast nS x n k g) → W p l e ({ frames := 0, cells := 0, slots := 0, locals := 0 }) s m args below meth c s.heap [] 0 0 (MQ below (vp_Si post) args s 0 0 (fun _ => False)) (F0 m 4 ls []) := by
  obtain ⟨hx, hb, hr, hml, hown, hts, hlocks⟩ := F
  intro n
  induction n with
  | zero =>
    intro k g ls hkn  hP hl hq
    refine lv_iload_n hx hb dNB_atLeast_4 rfl (lv_at hl 0 rfl) ?_
    refine lv_bipush (v := nI 16) hx hb dNB_atLeast_5 (by decide) ?_
    refine lv_icmp_ge (tgt := 29) hx hb dNB_atLeast_7 (by decide) (fun _ => ?_) (fun c0 => absurd (nI_le (by omega) (by omega)) c0)
    refine lv_iload_n hx hb dNB_atLeast_29 rfl (lv_at hl 1 rfl) ?_
    have e1 : LNB_atLeast nS x 0 k g = g := by simp only [LNB_atLeast]
    rw [e1] at hq
    exact r_iret hx hb hr hq hlocks dNB_atLeast_30
  | succ n ih =>
    intro k g ls hkn  hP hl hq
    refine lv_iload_n hx hb dNB_atLeast_4 rfl (lv_at hl 0 rfl) ?_
    refine lv_bipush (v := nI 16) hx hb dNB_atLeast_5 (by decide) ?_
    refine lv_icmp_ge (tgt := 29) hx hb dNB_atLeast_7 (by decide) (fun c0 => absurd c0 (nI_ge (by omega) (by decide))) (fun _ => ?_)
    refine lv_aload_n hx hb dNB_atLeast_10 rfl (lv_at hl 2 rfl) ?_
    refine va_get (D := D) (ci := 2) (v := .ref (a 5)) (C := RNB) (T := TNB) (N := 7) hx hb hts inNB hown hK hP 4 rfl rfl 0 (by decide) (hts _ k67) (fun _ h9 => h9) rfl dNB_atLeast_11 ?_
    refine lv_iload_n hx hb dNB_atLeast_14 rfl (lv_at hl 0 rfl) ?_
    refine ir_iald hx hb hK hP 5 0 rfl rfl (k := k) (by omega) (by decide) dNB_atLeast_15 ?_
    refine lv_iload_n hx hb dNB_atLeast_16 rfl (lv_at hl 3 rfl) ?_
    refine lv_icmp_lt (tgt := 23) hx hb dNB_atLeast_17 (by decide) (fun c3 => ?_) (fun c3 => ?_)
    · refine lv_iinc (v := nI (k + 1)) (lv' := [(3, .int (nI (k + 1))), (2, .int g), (0, .ref (a 4)), (1, .int x)]) hx hb dNB_atLeast_23 hl (k := 0) rfl (nI_1 k) (by decide) rfl (fun ls hl => ?_)
      refine lv_goto (tgt := 4) hx hb dNB_atLeast_26 (by decide) ?_
      have e1 : LNB_atLeast nS x (n + 1) k g = LNB_atLeast nS x n (k + 1) g := by simp only [LNB_atLeast, if_pos c3]
      rw [e1] at hq
      exact ih (k + 1) g ls (by omega)  hP (lv_sub hl [0, 1, 2, 3] rfl) hq
    · refine lv_iinc (v := g + 1) (lv' := [(2, .int (g + 1)), (3, .int (nI k)), (0, .ref (a 4)), (1, .int x)]) hx hb dNB_atLeast_20 hl (k := 1) rfl rfl (by decide) rfl (fun ls hl => ?_)
      refine lv_iinc (v := nI (k + 1)) (lv' := [(3, .int (nI (k + 1))), (2, .int (g + 1)), (0, .ref (a 4)), (1, .int x)]) hx hb dNB_atLeast_23 hl (k := 1) rfl (nI_1 k) (by decide) rfl (fun ls hl => ?_)
      refine lv_goto (tgt := 4) hx hb dNB_atLeast_26 (by decide) ?_
      have e1 : LNB_atLeast nS x (n + 1) k g = LNB_atLeast nS x n (k + 1) (g + 1) := by simp only [LNB_atLeast, if_neg c3]
      rw [e1] at hq
      exact ih (k + 1) (g + 1) ls (by omega)  hP (lv_sub hl [0, 1, 2, 3] rfl) hq
set_option maxHeartbeats 4000000 in
set_option maxRecDepth 100000 in
theorem c_NB_atLeast (l : Launch) {D : va_G} {cI cL : ClassId} {a : Nat → Nat}  (dI : Nat) (dO dG dN dT : Int32) (aN aB : Nat → Int32) (nS nP nR nG : Nat → Int32) (nO nU : Nat → Int64) (nT : Nat → Int32) (tP tR tO tN : Nat → Int32) (tF tZ : Nat) (mP : Nat → Int32) (mN : Int64) (x : Int32)  : Met l yNB_atLeast wsNB_atLeast ({ frames := 0, cells := 0, slots := 0, locals := 0 }) (va_Pc [.ref (a 4), .int x] (gG D (tyC cI cL) (wC cI cL a) ((dI, dO, dG, dN, dT), (aN, aB), (nS, nP, nR, nG, nO, nU, nT), (tP, tR, tO, tN, tF, tZ), (mP, mN)))) (vp_Si (fun r : Int32 => r = LNB_atLeast nS x 16 0 0)) 0 0 (fun _ => False) := by
  refine g_enter (by decide) rfl (Nat.le_of_ble_eq_true rfl) ?_
  intro p e s m below meth c ls F hK hP hl
  obtain ⟨hx, hb, hr, hml, hown, hts, hlocks⟩ := id F
  have hl : lv_has ls 4 [(0, .ref (a 4)), (1, .int x)] := hl
  refine lv_iconst (v := 0) hx hb dNB_atLeast_0 (by decide) ?_
  refine lv_istore_n (lv' := [(2, .int 0), (0, .ref (a 4)), (1, .int x)]) hx hb dNB_atLeast_1 rfl hl (by decide) rfl (fun ls hl => ?_)
  refine lv_iconst (v := nI 0) hx hb dNB_atLeast_2 (by decide) ?_
  refine lv_istore_n (lv' := [(3, .int (nI 0)), (2, .int 0), (0, .ref (a 4)), (1, .int x)]) hx hb dNB_atLeast_3 rfl hl (by decide) rfl (fun ls hl => ?_)
  exact lpNB_atLeast F hK  _ 16 0 0 ls rfl  hP (lv_sub hl [0, 1, 2, 3] rfl) rfl
