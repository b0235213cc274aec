def fRM_thank (rW : Nat → Int32) (rQ : Nat) (rA : Nat → Int32) (j : Nat) (g : Nat) (x : Int32) : Nat × (Nat → Int32) := (if 64 ≤ rQ then (rQ, rA) else (rQ + 1, upd (upd (upd (upd rA (4 * rQ) ((rW j) / 64)) ((4 * rQ) + 1) ((rW j) - (rW j) / (nI 64) * (nI 64))) ((4 * rQ) + 2) (nI g)) ((4 * rQ) + 3) x))
set_option maxHeartbeats 4000000 in
set_option maxRecDepth 100000 in
theorem c_RM_thank (l : Launch) {D : va_G} {cI cZ : ClassId} {a : Nat → Nat} {A : Nat → Prop} (hA : ∀ v : RS, va_D A (wR cI cZ a v)) (rI : Nat) (rC rN : Int32) (rO rG : Nat → Bool) (rW rH : Nat → Int32) (rF : Nat → Bool) (rT : Nat → Int32) (rM rB : Nat → Int32) (rX : Int32) (rQ : Nat) (rA : Nat → Int32) (rE : Nat → Int32) (rD : Int64) (j : Nat) (g : Nat) (x : Int32) (hj : j < 16) (hg : g < 64) (hQ : rQ ≤ 64) : Met l yRM_thank wsRM_thank ({ frames := 0, cells := 0, slots := 0, locals := 0 }) (va_Pc [.ref (a 0), .int (nI j), .int (nI g), .int x] (gG D (tyR cI cZ) (wR cI cZ a) ((rI, rC, rN), (rO, rG), (rW, rH, rF, rT), (rM, rB, rX), (rQ, rA), (rE, rD)))) (va_Qv (fun u : RS => u = ((rI, rC, rN), (rO, rG), (rW, rH, rF, rT), (rM, rB, rX), ((fRM_thank rW rQ rA j g x).1, (fRM_thank rW rQ rA j g x).2), (rE, rD))) (gG D (tyR cI cZ) (wR cI cZ a)) A) 0 0 A := by
  refine g_enter (by decide) rfl (Nat.le_of_ble_eq_true rfl) ?_
  intro p e s m below meth c ls F hK hP hl
  obtain ⟨hx, hb, hr, hml, hown, hts, hlocks⟩ := id F
  have hS : va_S A s.heap s.heap [] := va_S.rf
  have hl : lv_has ls 4 [(0, .ref (a 0)), (1, .int (nI j)), (2, .int (nI g)), (3, .int x)] := hl
  refine lv_aload_n hx hb dRM_thank_0 rfl (lv_at hl 0 rfl) ?_
  refine va_get (D := D) (ci := 5) (v := .int (nI rQ)) (C := RRM) (T := TRM) (N := 16) hx hb hts inRM hown hK hP 0 rfl rfl 12 (by decide) (hts _ k587) (fun _ h9 => h9) rfl dRM_thank_1 ?_
  refine lv_bipush (v := 64) hx hb dRM_thank_4 (by decide) ?_
  refine lv_icmp_ge (tgt := 89) hx hb dRM_thank_6 (by decide) (fun c1 => ?_) (fun c1 => ?_)
  · have c1 := (nI_leI (a := 64) (b := rQ) (by omega) (by omega)).mp c1
    have e1 : fRM_thank rW rQ rA j g x = (rQ, rA) := by simp only [fRM_thank, if_pos c1]
    exact g_vret (v := ((rI, rC, rN), (rO, rG), (rW, rH, rF, rT), (rM, rB, rX), (rQ, rA), (rE, rD))) hx hb hr hK hP hS (by first | rfl | (rw [e1] <;> rfl)) hlocks dRM_thank_89
  · have c1 : ¬ 64 ≤ rQ := fun q => c1 ((nI_leI (a := 64) (b := rQ) (by omega) (by omega)).mpr q)
    refine lv_aload_n hx hb dRM_thank_9 rfl (lv_at hl 0 rfl) ?_
    refine va_get (D := D) (ci := 5) (v := .ref (a 9)) (C := RRM) (T := TRM) (N := 16) hx hb hts inRM hown hK hP 0 rfl rfl 13 (by decide) (hts _ k588) (fun _ h9 => h9) rfl dRM_thank_10 ?_
    refine lv_iconst (v := 4) hx hb dRM_thank_13 (by decide) ?_
    refine lv_aload_n hx hb dRM_thank_14 rfl (lv_at hl 0 rfl) ?_
    refine va_get (D := D) (ci := 5) (v := .int (nI rQ)) (C := RRM) (T := TRM) (N := 16) hx hb hts inRM hown hK hP 0 rfl rfl 12 (by decide) (hts _ k587) (fun _ h9 => h9) rfl dRM_thank_15 ?_
    refine lv_imul hx hb dRM_thank_18 ?_
    refine lv_eqi (y := nI (4 * rQ)) (pk_mul 4 rQ) ?_
    refine lv_aload_n hx hb dRM_thank_19 rfl (lv_at hl 0 rfl) ?_
    refine va_get (D := D) (ci := 5) (v := .ref (a 3)) (C := RRM) (T := TRM) (N := 16) hx hb hts inRM hown hK hP 0 rfl rfl 5 (by decide) (hts _ k580) (fun _ h9 => h9) rfl dRM_thank_20 ?_
    refine lv_iload_n hx hb dRM_thank_23 rfl (lv_at hl 1 rfl) ?_
    refine ir_iald hx hb hK hP 3 0 rfl rfl (k := j) (by omega) (by decide) dRM_thank_24 ?_
    refine lv_bipush (v := 64) hx hb dRM_thank_25 (by decide) ?_
    refine lv_idiv hx hb dRM_thank_27 (by decide) ?_
    refine ir_iast hx hb hK hP (hA _) hS 9 0 rfl rfl (k := 4 * rQ) (by omega) (by decide) dRM_thank_28 (fun H locs hP hS => ?_)
    have hP : va_P D vwCl (wR cI cZ a ((rI, rC, rN), (rO, rG), (rW, rH, rF, rT), (rM, rB, rX), (rQ, upd rA (4 * rQ) ((rW j) / 64)), (rE, rD))) H := hP
    refine lv_aload_n hx hb dRM_thank_29 rfl (lv_at hl 0 rfl) ?_
    refine va_get (D := D) (ci := 5) (v := .ref (a 9)) (C := RRM) (T := TRM) (N := 16) hx hb hts inRM hown hK hP 0 rfl rfl 13 (by decide) (hts _ k588) (fun _ h9 => h9) rfl dRM_thank_30 ?_
    refine lv_iconst (v := 4) hx hb dRM_thank_33 (by decide) ?_
    refine lv_aload_n hx hb dRM_thank_34 rfl (lv_at hl 0 rfl) ?_
    refine va_get (D := D) (ci := 5) (v := .int (nI rQ)) (C := RRM) (T := TRM) (N := 16) hx hb hts inRM hown hK hP 0 rfl rfl 12 (by decide) (hts _ k587) (fun _ h9 => h9) rfl dRM_thank_35 ?_
    refine lv_imul hx hb dRM_thank_38 ?_
    refine lv_eqi (y := nI (4 * rQ)) (pk_mul 4 rQ) ?_
    refine lv_iconst (v := 1) hx hb dRM_thank_39 (by decide) ?_
    refine lv_iadd hx hb dRM_thank_40 ?_
    refine lv_eqi (y := nI ((4 * rQ) + 1)) (nI_add (4 * rQ) 1) ?_
    refine lv_aload_n hx hb dRM_thank_41 rfl (lv_at hl 0 rfl) ?_
    refine va_get (D := D) (ci := 5) (v := .ref (a 3)) (C := RRM) (T := TRM) (N := 16) hx hb hts inRM hown hK hP 0 rfl rfl 5 (by decide) (hts _ k580) (fun _ h9 => h9) rfl dRM_thank_42 ?_
    refine lv_iload_n hx hb dRM_thank_45 rfl (lv_at hl 1 rfl) ?_
    refine ir_iald hx hb hK hP 3 0 rfl rfl (k := j) (by omega) (by decide) dRM_thank_46 ?_
    refine lv_bipush (v := nI 64) hx hb dRM_thank_47 (by decide) ?_
    refine lv_irem hx hb dRM_thank_49 (by decide) ?_
    refine ir_iast hx hb hK hP (hA _) hS 9 0 rfl rfl (k := (4 * rQ) + 1) (by omega) (by decide) dRM_thank_50 (fun H locs hP hS => ?_)
    have hP : va_P D vwCl (wR cI cZ a ((rI, rC, rN), (rO, rG), (rW, rH, rF, rT), (rM, rB, rX), (rQ, upd (upd rA (4 * rQ) ((rW j) / 64)) ((4 * rQ) + 1) ((rW j) - (rW j) / (nI 64) * (nI 64))), (rE, rD))) H := hP
    refine lv_aload_n hx hb dRM_thank_51 rfl (lv_at hl 0 rfl) ?_
    refine va_get (D := D) (ci := 5) (v := .ref (a 9)) (C := RRM) (T := TRM) (N := 16) hx hb hts inRM hown hK hP 0 rfl rfl 13 (by decide) (hts _ k588) (fun _ h9 => h9) rfl dRM_thank_52 ?_
    refine lv_iconst (v := 4) hx hb dRM_thank_55 (by decide) ?_
    refine lv_aload_n hx hb dRM_thank_56 rfl (lv_at hl 0 rfl) ?_
    refine va_get (D := D) (ci := 5) (v := .int (nI rQ)) (C := RRM) (T := TRM) (N := 16) hx hb hts inRM hown hK hP 0 rfl rfl 12 (by decide) (hts _ k587) (fun _ h9 => h9) rfl dRM_thank_57 ?_
    refine lv_imul hx hb dRM_thank_60 ?_
    refine lv_eqi (y := nI (4 * rQ)) (pk_mul 4 rQ) ?_
    refine lv_iconst (v := 2) hx hb dRM_thank_61 (by decide) ?_
    refine lv_iadd hx hb dRM_thank_62 ?_
    refine lv_eqi (y := nI ((4 * rQ) + 2)) (nI_add (4 * rQ) 2) ?_
    refine lv_iload_n hx hb dRM_thank_63 rfl (lv_at hl 2 rfl) ?_
    refine ir_iast hx hb hK hP (hA _) hS 9 0 rfl rfl (k := (4 * rQ) + 2) (by omega) (by decide) dRM_thank_64 (fun H locs hP hS => ?_)
    have hP : va_P D vwCl (wR cI cZ a ((rI, rC, rN), (rO, rG), (rW, rH, rF, rT), (rM, rB, rX), (rQ, upd (upd (upd rA (4 * rQ) ((rW j) / 64)) ((4 * rQ) + 1) ((rW j) - (rW j) / (nI 64) * (nI 64))) ((4 * rQ) + 2) (nI g)), (rE, rD))) H := hP
    refine lv_aload_n hx hb dRM_thank_65 rfl (lv_at hl 0 rfl) ?_
    refine va_get (D := D) (ci := 5) (v := .ref (a 9)) (C := RRM) (T := TRM) (N := 16) hx hb hts inRM hown hK hP 0 rfl rfl 13 (by decide) (hts _ k588) (fun _ h9 => h9) rfl dRM_thank_66 ?_
    refine lv_iconst (v := 4) hx hb dRM_thank_69 (by decide) ?_
    refine lv_aload_n hx hb dRM_thank_70 rfl (lv_at hl 0 rfl) ?_
    refine va_get (D := D) (ci := 5) (v := .int (nI rQ)) (C := RRM) (T := TRM) (N := 16) hx hb hts inRM hown hK hP 0 rfl rfl 12 (by decide) (hts _ k587) (fun _ h9 => h9) rfl dRM_thank_71 ?_
    refine lv_imul hx hb dRM_thank_74 ?_
    refine lv_eqi (y := nI (4 * rQ)) (pk_mul 4 rQ) ?_
    refine lv_iconst (v := 3) hx hb dRM_thank_75 (by decide) ?_
    refine lv_iadd hx hb dRM_thank_76 ?_
    refine lv_eqi (y := nI ((4 * rQ) + 3)) (nI_add (4 * rQ) 3) ?_
    refine lv_iload_n hx hb dRM_thank_77 rfl (lv_at hl 3 rfl) ?_
    refine ir_iast hx hb hK hP (hA _) hS 9 0 rfl rfl (k := (4 * rQ) + 3) (by omega) (by decide) dRM_thank_78 (fun H locs hP hS => ?_)
    have hP : va_P D vwCl (wR cI cZ a ((rI, rC, rN), (rO, rG), (rW, rH, rF, rT), (rM, rB, rX), (rQ, upd (upd (upd (upd rA (4 * rQ) ((rW j) / 64)) ((4 * rQ) + 1) ((rW j) - (rW j) / (nI 64) * (nI 64))) ((4 * rQ) + 2) (nI g)) ((4 * rQ) + 3) x), (rE, rD))) H := hP
    refine lv_aload_n hx hb dRM_thank_79 rfl (lv_at hl 0 rfl) ?_
    refine lv_dup hx hb dRM_thank_80 rfl ?_
    refine va_get (D := D) (ci := 5) (v := .int (nI rQ)) (C := RRM) (T := TRM) (N := 16) hx hb hts inRM hown hK hP 0 rfl rfl 12 (by decide) (hts _ k587) (fun _ h9 => h9) rfl dRM_thank_81 ?_
    refine lv_iconst (v := 1) hx hb dRM_thank_84 (by decide) ?_
    refine lv_iadd hx hb dRM_thank_85 ?_
    refine lv_eqi (y := nI (rQ + 1)) (nI_add rQ 1) ?_
    refine va_put (D := D) (ci := 5) (v := .int (nI (rQ + 1))) (ty := .int) (C := RRM) (T := TRM) (N := 16) hx hb hts inRM tyRM tyRM_ok nmRM hown hK hP (hA _) hS 0 rfl rfl 12 (by decide) (hts _ k587) (fun _ h9 => h9) rfl (by decide +kernel) rfl rfl (Nat.le_of_ble_eq_true rfl) dRM_thank_86 (fun H locs hP _ hS => ?_)
    have hP : va_P D vwCl (wR cI cZ a ((rI, rC, rN), (rO, rG), (rW, rH, rF, rT), (rM, rB, rX), (rQ + 1, upd (upd (upd (upd rA (4 * rQ) ((rW j) / 64)) ((4 * rQ) + 1) ((rW j) - (rW j) / (nI 64) * (nI 64))) ((4 * rQ) + 2) (nI g)) ((4 * rQ) + 3) x), (rE, rD))) H := hP
    have e1 : fRM_thank rW rQ rA j g x = (rQ + 1, upd (upd (upd (upd rA (4 * rQ) ((rW j) / 64)) ((4 * rQ) + 1) ((rW j) - (rW j) / (nI 64) * (nI 64))) ((4 * rQ) + 2) (nI g)) ((4 * rQ) + 3) x) := by simp only [fRM_thank, if_neg c1]
    exact g_vret (v := ((rI, rC, rN), (rO, rG), (rW, rH, rF, rT), (rM, rB, rX), (rQ + 1, upd (upd (upd (upd rA (4 * rQ) ((rW j) / 64)) ((4 * rQ) + 1) ((rW j) - (rW j) / (nI 64) * (nI 64))) ((4 * rQ) + 2) (nI g)) ((4 * rQ) + 3) x), (rE, rD))) hx hb hr hK hP hS (by first | rfl | (rw [e1] <;> rfl)) hlocks dRM_thank_89
def QRM_learn_17 (rN : Int32) (rF : Nat → Bool) (o : Nat) (q : Option Nat) : Nat → Nat → (Nat → Int32) → (Nat → Int32)
  | 0, k, rT => rT
  | n + 1, k, rT => (if (nI k) = (oi q) then QRM_learn_17 rN rF o q n (k + 1) (upd rT ((64 * k) + o) (-1)) else (cond (rF k) (QRM_learn_17 rN rF o q n (k + 1) (upd rT ((64 * k) + o) rN)) (QRM_learn_17 rN rF o q n (k + 1) rT)))
set_option maxHeartbeats 4000000 in
set_option maxRecDepth 100000 in
theorem lqRM_learn_17 {p : Program} {l : Launch} {e : Env} {s : State} {m : MethodId} {args : Array Value} {below : List Frame} {meth : Method} {c : Code} {D : va_G} {cI cZ : ClassId} {a : Nat → Nat} {A : Nat → Prop} (hA : ∀ v : RS, va_D A (wR cI cZ a v)) (F : gFix p c cRM_learn meth (none) m s args bigW RRM 6) (hK : va_K D vwCl (tyR cI cZ) s) (rI : Nat) (rC : Int32) (rN : Int32) (rO : Nat → Bool) (rG : Nat → Bool) (rW : Nat → Int32) (rH : Nat → Int32) (rF : Nat → Bool) (rM : Nat → Int32) (rB : Nat → Int32) (rX : Int32) (rQ : Nat) (rA : Nat → Int32) (rE : Nat → Int32) (rD : Int64)  {o : Nat} {x : Int32} {y : Int32} {q : Option Nat} (ho : o < 64) (Q : State → Prop) : ∀ (n k : Nat)  (rT : Nat → Int32) (ls : Array Slot) (H : Heap) (locs : List Loc), k + n = 16 → va_P D vwCl (wR cI cZ a ((rI, rC, rN), (rO, rG), (rW, rH, rF, rT), (rM, rB, rX), (rQ, rA), (rE, rD))) H → va_S A s.heap H locs → lv_has ls 6 [(5, .int (nI k)), (0, .ref (a 0)), (1, .int (nI o)), (2, .int x), (3, .int y), (4, .int (oi q))] → (∀ (ls : Array Slot) (H : Heap) (locs : List Loc), va_P D vwCl (wR cI cZ a ((rI, rC, rN), (rO, rG), (rW, rH, rF, QRM_learn_17 rN rF o q n k rT), (rM, rB, rX), (rQ, rA), (rE, rD))) H → va_S A s.heap H locs → lv_has ls 6 [(5, .int (nI 16)), (0, .ref (a 0)), (1, .int (nI o)), (2, .int x), (3, .int y), (4, .int (oi q))] → W p l e ({ frames := 0, cells := 0, slots := 0, locals := 0 }) s m args below meth c H locs 0 0 Q (F0 m 79 ls [])) → W p l e ({ frames := 0, cells := 0, slots := 0, locals := 0 }) s m args below meth c H locs 0 0 Q (F0 m 17 ls []) := by
  obtain ⟨hx, hb, hr, hml, hown, hts, hlocks⟩ := id F
  intro n
  induction n with
  | zero =>
    intro k rT ls H locs hkn  hP hS hl hkk
    refine lv_iload hx hb dRM_learn_17 (lv_at hl 0 rfl) ?_
    refine lv_bipush (v := nI 16) hx hb dRM_learn_19 (by decide) ?_
    refine lv_icmp_ge (tgt := 79) hx hb dRM_learn_21 (by decide) (fun _ => ?_) (fun c0 => absurd (nI_le (by omega) (by omega)) c0)
    obtain rfl : k = 16 := by omega
    exact hkk ls H locs hP hS (lv_sub hl [0, 1, 2, 3, 4, 5] rfl)
  | succ n ih =>
    intro k rT ls H locs hkn  hP hS hl hkk
    refine lv_iload hx hb dRM_learn_17 (lv_at hl 0 rfl) ?_
    refine lv_bipush (v := nI 16) hx hb dRM_learn_19 (by decide) ?_
    refine lv_icmp_ge (tgt := 79) hx hb dRM_learn_21 (by decide) (fun c0 => absurd c0 (nI_ge (by omega) (by omega))) (fun _ => ?_)
    refine lv_iload hx hb dRM_learn_24 (lv_at hl 0 rfl) ?_
    refine lv_iload hx hb dRM_learn_26 (lv_at hl 5 rfl) ?_
    refine lv_icmp_ne (tgt := 47) hx hb dRM_learn_28 (by decide) (fun c3 => ?_) (fun c3 => ?_)
    · refine lv_aload_n hx hb dRM_learn_47 rfl (lv_at hl 1 rfl) ?_
      refine va_get (D := D) (ci := 5) (v := .ref (a 5)) (C := RRM) (T := TRM) (N := 16) hx hb hts inRM hown hK hP 0 rfl rfl 7 (by decide) (hts _ k582) (fun _ h9 => h9) rfl dRM_learn_48 ?_
      refine lv_iload hx hb dRM_learn_51 (lv_at hl 0 rfl) ?_
      refine ir_zald hx hb hK hP 5 1 rfl rfl (k := k) (by omega) (by decide) dRM_learn_53 ?_
      refine lv_if_eqb (tgt := 73) hx hb dRM_learn_54 (by decide) (fun c4 => ?_) (fun c4 => ?_)
      · refine lv_iinc (v := nI (k + 1)) (lv' := [(5, .int (nI (k + 1))), (0, .ref (a 0)), (1, .int (nI o)), (2, .int x), (3, .int y), (4, .int (oi q))]) hx hb dRM_learn_73 hl (k := 0) rfl (nI_1 k) (by decide) rfl (fun ls hl => ?_)
        refine lv_goto (tgt := 17) hx hb dRM_learn_76 (by decide) ?_
        have e1 : QRM_learn_17 rN rF o q (n + 1) k rT = QRM_learn_17 rN rF o q n (k + 1) rT := by first | (simp only [QRM_learn_17, if_neg c3, cond_no c4]; done) | (simp only [QRM_learn_17, if_neg c3]; simp only [cond_no c4])
        rw [e1] at hkk
        exact ih (k + 1) rT ls H locs (by omega)  hP hS (lv_sub hl [0, 1, 2, 3, 4, 5] rfl) hkk
      · refine lv_aload_n hx hb dRM_learn_57 rfl (lv_at hl 1 rfl) ?_
        refine va_get (D := D) (ci := 5) (v := .ref (a 6)) (C := RRM) (T := TRM) (N := 16) hx hb hts inRM hown hK hP 0 rfl rfl 8 (by decide) (hts _ k583) (fun _ h9 => h9) rfl dRM_learn_58 ?_
        refine lv_bipush (v := 64) hx hb dRM_learn_61 (by decide) ?_
        refine lv_iload hx hb dRM_learn_63 (lv_at hl 0 rfl) ?_
        refine lv_imul hx hb dRM_learn_65 ?_
        refine lv_eqi (y := nI (64 * k)) (pk_mul 64 k) ?_
        refine lv_iload_n hx hb dRM_learn_66 rfl (lv_at hl 2 rfl) ?_
        refine lv_iadd hx hb dRM_learn_67 ?_
        refine lv_eqi (y := nI ((64 * k) + o)) (nI_add (64 * k) o) ?_
        refine lv_aload_n hx hb dRM_learn_68 rfl (lv_at hl 1 rfl) ?_
        refine va_get (D := D) (ci := 5) (v := .int rN) (C := RRM) (T := TRM) (N := 16) hx hb hts inRM hown hK hP 0 rfl rfl 2 (by decide) (hts _ k577) (fun _ h9 => h9) rfl dRM_learn_69 ?_
        refine ir_iast hx hb hK hP (hA _) hS 6 0 rfl rfl (k := (64 * k) + o) (by omega) (by decide) dRM_learn_72 (fun H locs hP hS => ?_)
        have hP : va_P D vwCl (wR cI cZ a ((rI, rC, rN), (rO, rG), (rW, rH, rF, upd rT ((64 * k) + o) rN), (rM, rB, rX), (rQ, rA), (rE, rD))) H := hP
        refine lv_iinc (v := nI (k + 1)) (lv' := [(5, .int (nI (k + 1))), (0, .ref (a 0)), (1, .int (nI o)), (2, .int x), (3, .int y), (4, .int (oi q))]) hx hb dRM_learn_73 hl (k := 0) rfl (nI_1 k) (by decide) rfl (fun ls hl => ?_)
        refine lv_goto (tgt := 17) hx hb dRM_learn_76 (by decide) ?_
        have e1 : QRM_learn_17 rN rF o q (n + 1) k rT = QRM_learn_17 rN rF o q n (k + 1) (upd rT ((64 * k) + o) rN) := by first | (simp only [QRM_learn_17, if_neg c3, cond_yes c4]; done) | (simp only [QRM_learn_17, if_neg c3]; simp only [cond_yes c4])
        rw [e1] at hkk
        exact ih (k + 1) (upd rT ((64 * k) + o) rN) ls H locs (by omega)  hP hS (lv_sub hl [0, 1, 2, 3, 4, 5] rfl) hkk
    · refine lv_aload_n hx hb dRM_learn_31 rfl (lv_at hl 1 rfl) ?_
      refine va_get (D := D) (ci := 5) (v := .ref (a 6)) (C := RRM) (T := TRM) (N := 16) hx hb hts inRM hown hK hP 0 rfl rfl 8 (by decide) (hts _ k583) (fun _ h9 => h9) rfl dRM_learn_32 ?_
      refine lv_bipush (v := 64) hx hb dRM_learn_35 (by decide) ?_
      refine lv_iload hx hb dRM_learn_37 (lv_at hl 0 rfl) ?_
      refine lv_imul hx hb dRM_learn_39 ?_
      refine lv_eqi (y := nI (64 * k)) (pk_mul 64 k) ?_
      refine lv_iload_n hx hb dRM_learn_40 rfl (lv_at hl 2 rfl) ?_
      refine lv_iadd hx hb dRM_learn_41 ?_
      refine lv_eqi (y := nI ((64 * k) + o)) (nI_add (64 * k) o) ?_
      refine lv_iconst (v := (-1)) hx hb dRM_learn_42 (by decide) ?_
      refine ir_iast hx hb hK hP (hA _) hS 6 0 rfl rfl (k := (64 * k) + o) (by omega) (by decide) dRM_learn_43 (fun H locs hP hS => ?_)
      have hP : va_P D vwCl (wR cI cZ a ((rI, rC, rN), (rO, rG), (rW, rH, rF, upd rT ((64 * k) + o) (-1)), (rM, rB, rX), (rQ, rA), (rE, rD))) H := hP
      refine lv_goto (tgt := 73) hx hb dRM_learn_44 (by decide) ?_
      refine lv_iinc (v := nI (k + 1)) (lv' := [(5, .int (nI (k + 1))), (0, .ref (a 0)), (1, .int (nI o)), (2, .int x), (3, .int y), (4, .int (oi q))]) hx hb dRM_learn_73 hl (k := 0) rfl (nI_1 k) (by decide) rfl (fun ls hl => ?_)
      refine lv_goto (tgt := 17) hx hb dRM_learn_76 (by decide) ?_
      have e1 : QRM_learn_17 rN rF o q (n + 1) k rT = QRM_learn_17 rN rF o q n (k + 1) (upd rT ((64 * k) + o) (-1)) := by simp only [QRM_learn_17, if_pos c3]
      rw [e1] at hkk
      exact ih (k + 1) (upd rT ((64 * k) + o) (-1)) ls H locs (by omega)  hP hS (lv_sub hl [0, 1, 2, 3, 4, 5] rfl) hkk
set_option maxHeartbeats 4000000 in
set_option maxRecDepth 100000 in
theorem c_RM_learn (l : Launch) {D : va_G} {cI cZ : ClassId} {a : Nat → Nat} {A : Nat → Prop} (hA : ∀ v : RS, va_D A (wR cI cZ a v)) (rI : Nat) (rC rN : Int32) (rO rG : Nat → Bool) (rW rH : Nat → Int32) (rF : Nat → Bool) (rT : Nat → Int32) (rM rB : Nat → Int32) (rX : Int32) (rQ : Nat) (rA : Nat → Int32) (rE : Nat → Int32) (rD : Int64) (o : Nat) (x : Int32) (y : Int32) (q : Option Nat) (ho : o < 64) : Met l yRM_learn wsRM_learn ({ frames := 0, cells := 0, slots := 0, locals := 0 }) (va_Pc [.ref (a 0), .int (nI o), .int x, .int y, .int (oi q)] (gG D (tyR cI cZ) (wR cI cZ a) ((rI, rC, rN), (rO, rG), (rW, rH, rF, rT), (rM, rB, rX), (rQ, rA), (rE, rD)))) (va_Qv (fun u : RS => u = ((rI, rC, rN), (rO, rG), (rW, rH, rF, QRM_learn_17 rN rF o q 16 0 rT), (upd rM o x, upd rB o y, rX), (rQ, rA), (rE, rD))) (gG D (tyR cI cZ) (wR cI cZ a)) A) 0 0 A := by
  refine g_enter (by decide) rfl (Nat.le_of_ble_eq_true rfl) ?_
  intro p e s m below meth c ls F hK hP hl
  obtain ⟨hx, hb, hr, hml, hown, hts, hlocks⟩ := id F
  have hS : va_S A s.heap s.heap [] := va_S.rf
  have hl : lv_has ls 6 [(0, .ref (a 0)), (1, .int (nI o)), (2, .int x), (3, .int y), (4, .int (oi q))] := hl
  refine lv_aload_n hx hb dRM_learn_0 rfl (lv_at hl 0 rfl) ?_
  refine va_get (D := D) (ci := 5) (v := .ref (a 7)) (C := RRM) (T := TRM) (N := 16) hx hb hts inRM hown hK hP 0 rfl rfl 9 (by decide) (hts _ k584) (fun _ h9 => h9) rfl dRM_learn_1 ?_
  refine lv_iload_n hx hb dRM_learn_4 rfl (lv_at hl 1 rfl) ?_
  refine lv_iload_n hx hb dRM_learn_5 rfl (lv_at hl 2 rfl) ?_
  refine ir_iast hx hb hK hP (hA _) hS 7 0 rfl rfl (k := o) (by omega) (by decide) dRM_learn_6 (fun H locs hP hS => ?_)
  have hP : va_P D vwCl (wR cI cZ a ((rI, rC, rN), (rO, rG), (rW, rH, rF, rT), (upd rM o x, rB, rX), (rQ, rA), (rE, rD))) H := hP
  refine lv_aload_n hx hb dRM_learn_7 rfl (lv_at hl 0 rfl) ?_
  refine va_get (D := D) (ci := 5) (v := .ref (a 8)) (C := RRM) (T := TRM) (N := 16) hx hb hts inRM hown hK hP 0 rfl rfl 10 (by decide) (hts _ k585) (fun _ h9 => h9) rfl dRM_learn_8 ?_
  refine lv_iload_n hx hb dRM_learn_11 rfl (lv_at hl 1 rfl) ?_
  refine lv_iload_n hx hb dRM_learn_12 rfl (lv_at hl 3 rfl) ?_
  refine ir_iast hx hb hK hP (hA _) hS 8 0 rfl rfl (k := o) (by omega) (by decide) dRM_learn_13 (fun H locs hP hS => ?_)
  have hP : va_P D vwCl (wR cI cZ a ((rI, rC, rN), (rO, rG), (rW, rH, rF, rT), (upd rM o x, upd rB o y, rX), (rQ, rA), (rE, rD))) H := hP
  refine lv_iconst (v := nI 0) hx hb dRM_learn_14 (by decide) ?_
  refine lv_istore (lv' := [(5, .int (nI 0)), (0, .ref (a 0)), (1, .int (nI o)), (2, .int x), (3, .int y), (4, .int (oi q))]) hx hb dRM_learn_15 hl (by decide) rfl (fun ls hl => ?_)
  refine lqRM_learn_17 hA F hK rI rC rN rO rG rW rH rF (upd rM o x) (upd rB o y) rX rQ rA rE rD  (by first | omega | assumption)  _ 16 0 rT ls H locs (by omega)  hP hS (lv_sub hl [0, 1, 2, 3, 4, 5] rfl) (fun ls H locs hP hS hl => ?_)
  have hP : va_P D vwCl (wR cI cZ a ((rI, rC, rN), (rO, rG), (rW, rH, rF, QRM_learn_17 rN rF o q 16 0 rT), (upd rM o x, upd rB o y, rX), (rQ, rA), (rE, rD))) H := hP
  exact g_vret (v := ((rI, rC, rN), (rO, rG), (rW, rH, rF, QRM_learn_17 rN rF o q 16 0 rT), (upd rM o x, upd rB o y, rX), (rQ, rA), (rE, rD))) hx hb hr hK hP hS (rfl) hlocks dRM_learn_79
def fRM_advert (rI : Nat) (rN : Int32) (rW : Nat → Int32) (rF : Nat → Bool) (rT : Nat → Int32) (rM : Nat → Int32) (rB : Nat → Int32) (rX : Int32) (rQ : Nat) (rA : Nat → Int32) (q : Nat) (o : Nat) (g : Nat) (x : Int32) (y : Int32) : Int32 × (Nat → Int32) × (Nat → Int32) × (Nat → Int32) × Int32 × Nat × (Nat → Int32) := (match QRM_find_5 rW q o 16 0 none with | none => ((-1), rT, rM, rB, rX, rQ, rA) | some k4 => (cond (rF k4) (if (rM g) ≤ x then (if g = rI then (if x ≤ rX then (1, upd rT ((64 * k4) + g) (-1), rM, rB, rX, (fRM_thank rW rQ rA k4 g x).1, (fRM_thank rW rQ rA k4 g x).2) else (3, upd rT ((64 * k4) + g) (-1), rM, rB, x, (fRM_thank rW rQ rA k4 g x).1, (fRM_thank rW rQ rA k4 g x).2)) else (if x = (rM g) then (1, upd rT ((64 * k4) + g) (-1), rM, rB, rX, (fRM_thank rW rQ rA k4 g x).1, (fRM_thank rW rQ rA k4 g x).2) else (0, QRM_learn_17 rN rF g (some k4) 16 0 (upd rT ((64 * k4) + g) (-1)), upd rM g x, upd rB g y, rX, (fRM_thank rW rQ rA k4 g x).1, (fRM_thank rW rQ rA k4 g x).2))) else (2, upd rT ((64 * k4) + g) rN, rM, rB, rX, (fRM_thank rW rQ rA k4 g x).1, (fRM_thank rW rQ rA k4 g x).2)) ((-1), rT, rM, rB, rX, rQ, rA)))
set_option maxHeartbeats 4000000 in
set_option maxRecDepth 100000 in
theorem c_RM_advert (l : Launch) {D : va_G} {cI cZ : ClassId} {a : Nat → Nat} {A : Nat → Prop} (hA : ∀ v : RS, va_D A (wR cI cZ a v)) (rI : Nat) (rC rN : Int32) (rO rG : Nat → Bool) (rW rH : Nat → Int32) (rF : Nat → Bool) (rT : Nat → Int32) (rM rB : Nat → Int32) (rX : Int32) (rQ : Nat) (rA : Nat → Int32) (rE : Nat → Int32) (rD : Int64) (q : Nat) (o : Nat) (g : Nat) (x : Int32) (y : Int32) (hq : q < 8) (ho : o < 64) (hI : rI < 64) (hne : ¬ o = rI) (hg : g < 64) (h1 : ¬ x < 1) (h2 : x ≤ 1000000000) (hon : rO q = true) (hQ : rQ ≤ 64) : Met l yRM_advert wsRM_advert ({ frames := 2, cells := 0, slots := 0, locals := 44 }) (va_Pc [.ref (a 0), .int (nI q), .int (nI o), .int (nI g), .int x, .int y] (gG D (tyR cI cZ) (wR cI cZ a) ((rI, rC, rN), (rO, rG), (rW, rH, rF, rT), (rM, rB, rX), (rQ, rA), (rE, rD)))) (va_Qi (fun (r : Int32) (u : RS) => r = (fRM_advert rI rN rW rF rT rM rB rX rQ rA q o g x y).1 ∧ u = ((rI, fRM_wrong rO q, rN), (rO, rG), (rW, rH, rF, (fRM_advert rI rN rW rF rT rM rB rX rQ rA q o g x y).2.1), ((fRM_advert rI rN rW rF rT rM rB rX rQ rA q o g x y).2.2.1, (fRM_advert rI rN rW rF rT rM rB rX rQ rA q o g x y).2.2.2.1, (fRM_advert rI rN rW rF rT rM rB rX rQ rA q o g x y).2.2.2.2.1), ((fRM_advert rI rN rW rF rT rM rB rX rQ rA q o g x y).2.2.2.2.2.1, (fRM_advert rI rN rW rF rT rM rB rX rQ rA q o g x y).2.2.2.2.2.2), (rE, rD))) (gG D (tyR cI cZ) (wR cI cZ a)) A) 0 0 A := by
  refine g_enter (by decide) rfl (Nat.le_of_ble_eq_true rfl) ?_
  intro p e s m below meth c ls F hK hP hl
  obtain ⟨hx, hb, hr, hml, hown, hts, hlocks⟩ := id F
  have hS : va_S A s.heap s.heap [] := va_S.rf
  have hl : lv_has ls 10 [(0, .ref (a 0)), (1, .int (nI q)), (2, .int (nI o)), (3, .int (nI g)), (4, .int x), (5, .int y)] := hl
  refine lv_aload_n hx hb dRM_advert_0 rfl (lv_at hl 0 rfl) ?_
  refine lv_iload_n hx hb dRM_advert_1 rfl (lv_at hl 3 rfl) ?_
  refine lv_iconst (v := 0) hx hb dRM_advert_2 (by decide) ?_
  refine lv_bipush (v := 63) hx hb dRM_advert_3 (by decide) ?_
  refine g_roSi (As := [.int (nI g), .int 0, .int 63]) (rest := [.ref (a 0)]) ⟨hx, hb, hml, hown, hts⟩ (c_RM_in l rI rC rN rO rG rW rH rF rT rM rB rX rQ rA rE rD (nI g) 0 63) (cw_S 3 hts k633 k634 k32 k635 rfl rfl rfl (by decide +kernel) ⟨Nat.le_of_ble_eq_true rfl, Nat.le_of_ble_eq_true rfl⟩) hK hP rfl hl.1 rfl (Nat.le_of_ble_eq_true rfl) dRM_advert_5 ⟨Nat.zero_le _, Nat.zero_le _⟩ ?_
  refine lv_if_eqb (tgt := 22) hx hb dRM_advert_8 (by decide) (fun c1 => absurd (c1.symm.trans (in_K (b := 63) (by omega) (by decide))) (by decide)) (fun c1 => ?_)
  refine lv_iload hx hb dRM_advert_11 (lv_at hl 4 rfl) ?_
  refine lv_iconst (v := 1) hx hb dRM_advert_13 (by decide) ?_
  refine lv_ldc (v := 1000000000) hx hb hown (hts _ k660) dRM_advert_14 ?_
  refine g_roSi (As := [.int x, .int 1, .int 1000000000]) (rest := [.ref (a 0)]) ⟨hx, hb, hml, hown, hts⟩ (c_RM_in l rI rC rN rO rG rW rH rF rT rM rB rX rQ rA rE rD x 1 1000000000) (cw_S 3 hts k633 k634 k32 k635 rfl rfl rfl (by decide +kernel) ⟨Nat.le_of_ble_eq_true rfl, Nat.le_of_ble_eq_true rfl⟩) hK hP rfl hl.1 rfl (Nat.le_of_ble_eq_true rfl) dRM_advert_16 ⟨Nat.zero_le _, Nat.zero_le _⟩ ?_
  refine lv_if_neb (tgt := 26) hx hb dRM_advert_19 (by decide) (fun c2 => ?_) (fun c2 => absurd (c2.symm.trans (in_ok h1 h2)) (by decide))
  refine lv_aload_n hx hb dRM_advert_26 rfl (lv_at hl 0 rfl) ?_
  refine lv_iload_n hx hb dRM_advert_27 rfl (lv_at hl 1 rfl) ?_
  refine lv_iload_n hx hb dRM_advert_28 rfl (lv_at hl 2 rfl) ?_
  refine g_roVi (As := [.int (nI q), .int (nI o)]) (rest := [.ref (a 0)]) ⟨hx, hb, hml, hown, hts⟩ (c_RM_wrong l rI rC rN rO rG rW rH rF rT rM rB rX rQ rA rE rD q o (by first | omega | assumption) (by first | omega | assumption) (by first | omega | assumption) (by first | omega | assumption)) (cwV 2 hts (gw_V k648 k650 k19 k32 k651) rfl rfl rfl (by decide +kernel) ⟨Nat.le_of_ble_eq_true rfl, Nat.le_of_ble_eq_true rfl⟩) hK hP (va_recv hK hP (ci := 5) (q0 := 0) rfl rfl) rfl hl.1 rfl (Nat.le_of_ble_eq_true rfl) dRM_advert_29 ⟨Nat.zero_le _, Nat.zero_le _⟩ ?_
  refine va_put (D := D) (ci := 5) (v := .int (fRM_wrong rO q)) (ty := .int) (C := RRM) (T := TRM) (N := 16) hx hb hts inRM tyRM tyRM_ok nmRM hown hK hP (hA _) hS 0 rfl rfl 1 (by decide) (hts _ k576) (fun _ h9 => h9) rfl (by decide +kernel) rfl rfl (Nat.le_of_ble_eq_true rfl) dRM_advert_32 (fun H locs hP _ hS => ?_)
  have hP : va_P D vwCl (wR cI cZ a ((rI, fRM_wrong rO q, rN), (rO, rG), (rW, rH, rF, rT), (rM, rB, rX), (rQ, rA), (rE, rD))) H := hP
  refine lv_aload_n hx hb dRM_advert_35 rfl (lv_at hl 0 rfl) ?_
  refine va_get (D := D) (ci := 5) (v := .int (fRM_wrong rO q)) (C := RRM) (T := TRM) (N := 16) hx hb hts inRM hown hK hP 0 rfl rfl 1 (by decide) (hts _ k576) (fun _ h9 => h9) rfl dRM_advert_36 ?_
  refine lv_if_le (tgt := 44) hx hb dRM_advert_39 (by decide) (fun c3 => ?_) (fun c3 => absurd (by rw [wrong_ok hon]; decide) c3)
  refine lv_aload_n hx hb dRM_advert_44 rfl (lv_at hl 0 rfl) ?_
  refine lv_iload_n hx hb dRM_advert_45 rfl (lv_at hl 1 rfl) ?_
  refine lv_iload_n hx hb dRM_advert_46 rfl (lv_at hl 2 rfl) ?_
  refine g_callVi (As := [.int (nI q), .int (nI o)]) (rest := []) ⟨hx, hb, hml, hown, hts⟩ (c_RM_find l hA rI (fRM_wrong rO q) rN rO rG rW rH rF rT rM rB rX rQ rA rE rD q o (by first | omega | assumption) (by first | omega | assumption)) (cwV 2 hts (gw_V k652 k654 k20 k32 k655) rfl rfl rfl (by decide +kernel) ⟨Nat.le_of_ble_eq_true rfl, Nat.le_of_ble_eq_true rfl⟩) hK hP (va_recv hK hP (ci := 5) (q0 := 0) rfl rfl) rfl hl.1 rfl (Nat.le_of_ble_eq_true rfl) dRM_advert_47 ⟨Nat.zero_le _, Nat.zero_le _⟩ (fun q h => h) hS (fun H locs hP hS => ?_)
  rcases ho5 : QRM_find_5 rW q o 16 0 none with _ | k4
  · refine lv_istore (lv' := [(6, .int (oi none)), (0, .ref (a 0)), (1, .int (nI q)), (2, .int (nI o)), (3, .int (nI g)), (4, .int x), (5, .int y)]) hx hb dRM_advert_50 hl (by decide) rfl (fun ls hl => ?_)
    refine lv_iload hx hb dRM_advert_52 (lv_at hl 0 rfl) ?_
    refine lv_if_lt (tgt := 67) hx hb dRM_advert_54 (by decide) (fun _ => ?_) (fun c0 => absurd (by decide) c0)
    refine lv_iconst (v := (-1)) hx hb dRM_advert_67 (by decide) ?_
    have e1 : fRM_advert rI rN rW rF rT rM rB rX rQ rA q o g x y = ((-1), rT, rM, rB, rX, rQ, rA) := by simp only [fRM_advert, ho5]
    exact g_iret (v := ((rI, fRM_wrong rO q, rN), (rO, rG), (rW, rH, rF, rT), (rM, rB, rX), (rQ, rA), (rE, rD))) hx hb hr hK hP hS ⟨by first | rfl | (rw [e1] <;> rfl), by first | rfl | (rw [e1] <;> rfl)⟩ hlocks dRM_advert_68
  · have hk4 := c_RM_find_lt ho5
    refine lv_istore (lv' := [(6, .int (nI k4)), (0, .ref (a 0)), (1, .int (nI q)), (2, .int (nI o)), (3, .int (nI g)), (4, .int x), (5, .int y)]) hx hb dRM_advert_50 hl (by decide) rfl (fun ls hl => ?_)
    refine lv_iload hx hb dRM_advert_52 (lv_at hl 0 rfl) ?_
    refine lv_if_lt (tgt := 67) hx hb dRM_advert_54 (by decide) (fun c0 => absurd c0 (nI_pos (by omega))) (fun _ => ?_)
    refine lv_aload_n hx hb dRM_advert_57 rfl (lv_at hl 1 rfl) ?_
    refine va_get (D := D) (ci := 5) (v := .ref (a 5)) (C := RRM) (T := TRM) (N := 16) hx hb hts inRM hown hK hP 0 rfl rfl 7 (by decide) (hts _ k582) (fun _ h9 => h9) rfl dRM_advert_58 ?_
    refine lv_iload hx hb dRM_advert_61 (lv_at hl 0 rfl) ?_
    refine ir_zald hx hb hK hP 5 1 rfl rfl (k := k4) (by omega) (by decide) dRM_advert_63 ?_
    refine lv_if_neb (tgt := 69) hx hb dRM_advert_64 (by decide) (fun c8 => ?_) (fun c8 => ?_)
    · refine lv_aload_n hx hb dRM_advert_69 rfl (lv_at hl 1 rfl) ?_
      refine lv_iload hx hb dRM_advert_70 (lv_at hl 0 rfl) ?_
      refine lv_iload_n hx hb dRM_advert_72 rfl (lv_at hl 4 rfl) ?_
      refine lv_iload hx hb dRM_advert_73 (lv_at hl 5 rfl) ?_
      refine g_callVv (As := [.int (nI k4), .int (nI g), .int x]) (rest := []) ⟨hx, hb, hml, hown, hts⟩ (c_RM_thank l hA rI (fRM_wrong rO q) rN rO rG rW rH rF rT rM rB rX rQ rA rE rD k4 g x (by first | omega | assumption) (by first | omega | assumption) (by first | omega | assumption)) (cwV 3 hts (gw_V k661 k663 k21 k32 k664) rfl rfl rfl (by decide +kernel) ⟨Nat.le_of_ble_eq_true rfl, Nat.le_of_ble_eq_true rfl⟩) hK hP (va_recv hK hP (ci := 5) (q0 := 0) rfl rfl) rfl hl.1 rfl (Nat.le_of_ble_eq_true rfl) dRM_advert_75 ⟨Nat.zero_le _, Nat.zero_le _⟩ (fun q h => h) hS (fun H locs hP hS => ?_)
      have hP : va_P D vwCl (wR cI cZ a ((rI, fRM_wrong rO q, rN), (rO, rG), (rW, rH, rF, rT), (rM, rB, rX), ((fRM_thank rW rQ rA k4 g x).1, (fRM_thank rW rQ rA k4 g x).2), (rE, rD))) H := hP
      refine lv_aload_n hx hb dRM_advert_78 rfl (lv_at hl 1 rfl) ?_
      refine va_get (D := D) (ci := 5) (v := .ref (a 7)) (C := RRM) (T := TRM) (N := 16) hx hb hts inRM hown hK hP 0 rfl rfl 9 (by decide) (hts _ k584) (fun _ h9 => h9) rfl dRM_advert_79 ?_
      refine lv_iload_n hx hb dRM_advert_82 rfl (lv_at hl 4 rfl) ?_
      refine ir_iald hx hb hK hP 7 0 rfl rfl (k := g) (by omega) (by decide) dRM_advert_83 ?_
      refine lv_istore (lv' := [(7, .int (rM g)), (6, .int (nI k4)), (0, .ref (a 0)), (1, .int (nI q)), (2, .int (nI o)), (3, .int (nI g)), (4, .int x), (5, .int y)]) hx hb dRM_advert_84 hl (by decide) rfl (fun ls hl => ?_)
      refine lv_bipush (v := 64) hx hb dRM_advert_86 (by decide) ?_
      refine lv_iload hx hb dRM_advert_88 (lv_at hl 1 rfl) ?_
      refine lv_imul hx hb dRM_advert_90 ?_
      refine lv_eqi (y := nI (64 * k4)) (pk_mul 64 k4) ?_
      refine lv_iload_n hx hb dRM_advert_91 rfl (lv_at hl 5 rfl) ?_
      refine lv_iadd hx hb dRM_advert_92 ?_
      refine lv_eqi (y := nI ((64 * k4) + g)) (nI_add (64 * k4) g) ?_
      refine lv_istore (lv' := [(8, .int (nI ((64 * k4) + g))), (7, .int (rM g)), (6, .int (nI k4)), (0, .ref (a 0)), (1, .int (nI q)), (2, .int (nI o)), (3, .int (nI g)), (4, .int x), (5, .int y)]) hx hb dRM_advert_93 hl (by decide) rfl (fun ls hl => ?_)
      refine lv_iload hx hb dRM_advert_95 (lv_at hl 7 rfl) ?_
      refine lv_iload hx hb dRM_advert_97 (lv_at hl 1 rfl) ?_
      refine lv_icmp_ge (tgt := 115) hx hb dRM_advert_99 (by decide) (fun c9 => ?_) (fun c9 => ?_)
      · refine lv_aload_n hx hb dRM_advert_115 rfl (lv_at hl 3 rfl) ?_
        refine va_get (D := D) (ci := 5) (v := .ref (a 6)) (C := RRM) (T := TRM) (N := 16) hx hb hts inRM hown hK hP 0 rfl rfl 8 (by decide) (hts _ k583) (fun _ h9 => h9) rfl dRM_advert_116 ?_
        refine lv_iload hx hb dRM_advert_119 (lv_at hl 0 rfl) ?_
        refine lv_iconst (v := (-1)) hx hb dRM_advert_121 (by decide) ?_
        refine ir_iast hx hb hK hP (hA _) hS 6 0 rfl rfl (k := (64 * k4) + g) (by omega) (by decide) dRM_advert_122 (fun H locs hP hS => ?_)
        have hP : va_P D vwCl (wR cI cZ a ((rI, fRM_wrong rO q, rN), (rO, rG), (rW, rH, rF, upd rT ((64 * k4) + g) (-1)), (rM, rB, rX), ((fRM_thank rW rQ rA k4 g x).1, (fRM_thank rW rQ rA k4 g x).2), (rE, rD))) H := hP
        refine lv_iload_n hx hb dRM_advert_123 rfl (lv_at hl 6 rfl) ?_
        refine lv_aload_n hx hb dRM_advert_124 rfl (lv_at hl 3 rfl) ?_
        refine va_get (D := D) (ci := 5) (v := .int (nI rI)) (C := RRM) (T := TRM) (N := 16) hx hb hts inRM hown hK hP 0 rfl rfl 0 (by decide) (hts _ k575) (fun _ h9 => h9) rfl dRM_advert_125 ?_
        refine lv_icmp_ne (tgt := 176) hx hb dRM_advert_128 (by decide) (fun c10 => ?_) (fun c10 => ?_)
        · have c10 : ¬ g = rI := fun q => c10 ((nI_eq (a := g) (b := rI) (by omega) (by omega)).mpr q)
          refine lv_iload hx hb dRM_advert_176 (lv_at hl 7 rfl) ?_
          refine lv_iload hx hb dRM_advert_178 (lv_at hl 1 rfl) ?_
          refine lv_icmp_ne (tgt := 185) hx hb dRM_advert_180 (by decide) (fun c11 => ?_) (fun c11 => ?_)
          · refine lv_aload_n hx hb dRM_advert_185 rfl (lv_at hl 3 rfl) ?_
            refine lv_iload_n hx hb dRM_advert_186 rfl (lv_at hl 6 rfl) ?_
            refine lv_iload hx hb dRM_advert_187 (lv_at hl 7 rfl) ?_
            refine lv_iload hx hb dRM_advert_189 (lv_at hl 8 rfl) ?_
            refine lv_iload hx hb dRM_advert_191 (lv_at hl 2 rfl) ?_
            refine g_callVv (As := [.int (nI g), .int x, .int y, .int (nI k4)]) (rest := []) ⟨hx, hb, hml, hown, hts⟩ (c_RM_learn l hA rI (fRM_wrong rO q) rN rO rG rW rH rF (upd rT ((64 * k4) + g) (-1)) rM rB rX ((fRM_thank rW rQ rA k4 g x).1) ((fRM_thank rW rQ rA k4 g x).2) rE rD g x y (some k4) (by first | omega | assumption)) (cwV 4 hts (gw_V k665 k667 k22 k32 k668) rfl rfl rfl (by decide +kernel) ⟨Nat.le_of_ble_eq_true rfl, Nat.le_of_ble_eq_true rfl⟩) hK hP (va_recv hK hP (ci := 5) (q0 := 0) rfl rfl) rfl hl.1 rfl (Nat.le_of_ble_eq_true rfl) dRM_advert_193 ⟨Nat.zero_le _, Nat.zero_le _⟩ (fun q h => h) hS (fun H locs hP hS => ?_)
            have hP : va_P D vwCl (wR cI cZ a ((rI, fRM_wrong rO q, rN), (rO, rG), (rW, rH, rF, QRM_learn_17 rN rF g (some k4) 16 0 (upd rT ((64 * k4) + g) (-1))), (upd rM g x, upd rB g y, rX), ((fRM_thank rW rQ rA k4 g x).1, (fRM_thank rW rQ rA k4 g x).2), (rE, rD))) H := hP
            refine lv_iconst (v := 0) hx hb dRM_advert_196 (by decide) ?_
            have e1 : fRM_advert rI rN rW rF rT rM rB rX rQ rA q o g x y = (0, QRM_learn_17 rN rF g (some k4) 16 0 (upd rT ((64 * k4) + g) (-1)), upd rM g x, upd rB g y, rX, (fRM_thank rW rQ rA k4 g x).1, (fRM_thank rW rQ rA k4 g x).2) := by first | (simp only [fRM_advert, ho5, cond_yes c8, if_pos c9, if_neg c10, if_neg c11]; done) | (simp only [fRM_advert, ho5]; simp only [cond_yes c8]; simp only [if_pos c9]; simp only [if_neg c10]; simp only [if_neg c11])
            exact g_iret (v := ((rI, fRM_wrong rO q, rN), (rO, rG), (rW, rH, rF, QRM_learn_17 rN rF g (some k4) 16 0 (upd rT ((64 * k4) + g) (-1))), (upd rM g x, upd rB g y, rX), ((fRM_thank rW rQ rA k4 g x).1, (fRM_thank rW rQ rA k4 g x).2), (rE, rD))) hx hb hr hK hP hS ⟨by first | rfl | (rw [e1] <;> rfl), by first | rfl | (rw [e1] <;> rfl)⟩ hlocks dRM_advert_197
          · refine lv_iconst (v := 1) hx hb dRM_advert_183 (by decide) ?_
            have e1 : fRM_advert rI rN rW rF rT rM rB rX rQ rA q o g x y = (1, upd rT ((64 * k4) + g) (-1), rM, rB, rX, (fRM_thank rW rQ rA k4 g x).1, (fRM_thank rW rQ rA k4 g x).2) := by first | (simp only [fRM_advert, ho5, cond_yes c8, if_pos c9, if_neg c10, if_pos c11]; done) | (simp only [fRM_advert, ho5]; simp only [cond_yes c8]; simp only [if_pos c9]; simp only [if_neg c10]; simp only [if_pos c11])
            exact g_iret (v := ((rI, fRM_wrong rO q, rN), (rO, rG), (rW, rH, rF, upd rT ((64 * k4) + g) (-1)), (rM, rB, rX), ((fRM_thank rW rQ rA k4 g x).1, (fRM_thank rW rQ rA k4 g x).2), (rE, rD))) hx hb hr hK hP hS ⟨by first | rfl | (rw [e1] <;> rfl), by first | rfl | (rw [e1] <;> rfl)⟩ hlocks dRM_advert_184
        · have c10 := (nI_eq (a := g) (b := rI) (by omega) (by omega)).mp c10
          refine lv_iload hx hb dRM_advert_131 (lv_at hl 7 rfl) ?_
          refine lv_aload_n hx hb dRM_advert_133 rfl (lv_at hl 3 rfl) ?_
          refine va_get (D := D) (ci := 5) (v := .int rX) (C := RRM) (T := TRM) (N := 16) hx hb hts inRM hown hK hP 0 rfl rfl 11 (by decide) (hts _ k586) (fun _ h9 => h9) rfl dRM_advert_134 ?_
          refine lv_icmp_le (tgt := 144) hx hb dRM_advert_137 (by decide) (fun c12 => ?_) (fun c12 => ?_)
          · refine lv_iconst (v := bi false) hx hb dRM_advert_144 (by decide) ?_
            refine lv_istore (lv' := [(9, .int (bi false)), (8, .int (nI ((64 * k4) + g))), (7, .int (rM g)), (6, .int (nI k4)), (0, .ref (a 0)), (1, .int (nI q)), (2, .int (nI o)), (3, .int (nI g)), (4, .int x), (5, .int y)]) hx hb dRM_advert_145 hl (by decide) rfl (fun ls hl => ?_)
            refine lv_aload_n hx hb dRM_advert_147 rfl (lv_at hl 4 rfl) ?_
            refine lv_iload hx hb dRM_advert_148 (lv_at hl 0 rfl) ?_
            refine lv_if_eqb (tgt := 158) hx hb dRM_advert_150 (by decide) (fun _ => ?_) (fun c13 => by cases c13)
            refine lv_aload_n hx hb dRM_advert_158 rfl (lv_at hl 4 rfl) ?_
            refine va_get (D := D) (ci := 5) (v := .int rX) (C := RRM) (T := TRM) (N := 16) hx hb hts inRM hown hK hP 0 rfl rfl 11 (by decide) (hts _ k586) (fun _ h9 => h9) rfl dRM_advert_159 ?_
            refine va_put (D := D) (ci := 5) (v := .int rX) (ty := .int) (C := RRM) (T := TRM) (N := 16) hx hb hts inRM tyRM tyRM_ok nmRM hown hK hP (hA _) hS 0 rfl rfl 11 (by decide) (hts _ k586) (fun _ h9 => h9) rfl (by decide +kernel) rfl rfl (Nat.le_of_ble_eq_true rfl) dRM_advert_162 (fun H locs hP _ hS => ?_)
            have hP : va_P D vwCl (wR cI cZ a ((rI, fRM_wrong rO q, rN), (rO, rG), (rW, rH, rF, upd rT ((64 * k4) + g) (-1)), (rM, rB, rX), ((fRM_thank rW rQ rA k4 g x).1, (fRM_thank rW rQ rA k4 g x).2), (rE, rD))) H := hP
            refine lv_iload hx hb dRM_advert_165 (lv_at hl 0 rfl) ?_
            refine lv_if_eqb (tgt := 174) hx hb dRM_advert_167 (by decide) (fun _ => ?_) (fun c14 => by cases c14)
            refine lv_iconst (v := 1) hx hb dRM_advert_174 (by decide) ?_
            have e1 : fRM_advert rI rN rW rF rT rM rB rX rQ rA q o g x y = (1, upd rT ((64 * k4) + g) (-1), rM, rB, rX, (fRM_thank rW rQ rA k4 g x).1, (fRM_thank rW rQ rA k4 g x).2) := by first | (simp only [fRM_advert, ho5, cond_yes c8, if_pos c9, if_pos c10, if_pos c12]; done) | (simp only [fRM_advert, ho5]; simp only [cond_yes c8]; simp only [if_pos c9]; simp only [if_pos c10]; simp only [if_pos c12])
            exact g_iret (v := ((rI, fRM_wrong rO q, rN), (rO, rG), (rW, rH, rF, upd rT ((64 * k4) + g) (-1)), (rM, rB, rX), ((fRM_thank rW rQ rA k4 g x).1, (fRM_thank rW rQ rA k4 g x).2), (rE, rD))) hx hb hr hK hP hS ⟨by first | rfl | (rw [e1] <;> rfl), by first | rfl | (rw [e1] <;> rfl)⟩ hlocks dRM_advert_175
          · refine lv_iconst (v := bi true) hx hb dRM_advert_140 (by decide) ?_
            refine lv_goto (tgt := 145) hx hb dRM_advert_141 (by decide) ?_
            refine lv_istore (lv' := [(9, .int (bi true)), (8, .int (nI ((64 * k4) + g))), (7, .int (rM g)), (6, .int (nI k4)), (0, .ref (a 0)), (1, .int (nI q)), (2, .int (nI o)), (3, .int (nI g)), (4, .int x), (5, .int y)]) hx hb dRM_advert_145 hl (by decide) rfl (fun ls hl => ?_)
            refine lv_aload_n hx hb dRM_advert_147 rfl (lv_at hl 4 rfl) ?_
            refine lv_iload hx hb dRM_advert_148 (lv_at hl 0 rfl) ?_
            refine lv_if_eqb (tgt := 158) hx hb dRM_advert_150 (by decide) (fun c15 => by cases c15) (fun _ => ?_)
            refine lv_iload hx hb dRM_advert_153 (lv_at hl 8 rfl) ?_
            refine lv_goto (tgt := 162) hx hb dRM_advert_155 (by decide) ?_
            refine va_put (D := D) (ci := 5) (v := .int x) (ty := .int) (C := RRM) (T := TRM) (N := 16) hx hb hts inRM tyRM tyRM_ok nmRM hown hK hP (hA _) hS 0 rfl rfl 11 (by decide) (hts _ k586) (fun _ h9 => h9) rfl (by decide +kernel) rfl rfl (Nat.le_of_ble_eq_true rfl) dRM_advert_162 (fun H locs hP _ hS => ?_)
            have hP : va_P D vwCl (wR cI cZ a ((rI, fRM_wrong rO q, rN), (rO, rG), (rW, rH, rF, upd rT ((64 * k4) + g) (-1)), (rM, rB, x), ((fRM_thank rW rQ rA k4 g x).1, (fRM_thank rW rQ rA k4 g x).2), (rE, rD))) H := hP
            refine lv_iload hx hb dRM_advert_165 (lv_at hl 0 rfl) ?_
            refine lv_if_eqb (tgt := 174) hx hb dRM_advert_167 (by decide) (fun c16 => by cases c16) (fun _ => ?_)
            refine lv_iconst (v := 3) hx hb dRM_advert_170 (by decide) ?_
            refine lv_goto (tgt := 175) hx hb dRM_advert_171 (by decide) ?_
            have e1 : fRM_advert rI rN rW rF rT rM rB rX rQ rA q o g x y = (3, upd rT ((64 * k4) + g) (-1), rM, rB, x, (fRM_thank rW rQ rA k4 g x).1, (fRM_thank rW rQ rA k4 g x).2) := by first | (simp only [fRM_advert, ho5, cond_yes c8, if_pos c9, if_pos c10, if_neg c12]; done) | (simp only [fRM_advert, ho5]; simp only [cond_yes c8]; simp only [if_pos c9]; simp only [if_pos c10]; simp only [if_neg c12])
            exact g_iret (v := ((rI, fRM_wrong rO q, rN), (rO, rG), (rW, rH, rF, upd rT ((64 * k4) + g) (-1)), (rM, rB, x), ((fRM_thank rW rQ rA k4 g x).1, (fRM_thank rW rQ rA k4 g x).2), (rE, rD))) hx hb hr hK hP hS ⟨by first | rfl | (rw [e1] <;> rfl), by first | rfl | (rw [e1] <;> rfl)⟩ hlocks dRM_advert_175
      · refine lv_aload_n hx hb dRM_advert_102 rfl (lv_at hl 3 rfl) ?_
        refine va_get (D := D) (ci := 5) (v := .ref (a 6)) (C := RRM) (T := TRM) (N := 16) hx hb hts inRM hown hK hP 0 rfl rfl 8 (by decide) (hts _ k583) (fun _ h9 => h9) rfl dRM_advert_103 ?_
        refine lv_iload hx hb dRM_advert_106 (lv_at hl 0 rfl) ?_
        refine lv_aload_n hx hb dRM_advert_108 rfl (lv_at hl 3 rfl) ?_
        refine va_get (D := D) (ci := 5) (v := .int rN) (C := RRM) (T := TRM) (N := 16) hx hb hts inRM hown hK hP 0 rfl rfl 2 (by decide) (hts _ k577) (fun _ h9 => h9) rfl dRM_advert_109 ?_
        refine ir_iast hx hb hK hP (hA _) hS 6 0 rfl rfl (k := (64 * k4) + g) (by omega) (by decide) dRM_advert_112 (fun H locs hP hS => ?_)
        have hP : va_P D vwCl (wR cI cZ a ((rI, fRM_wrong rO q, rN), (rO, rG), (rW, rH, rF, upd rT ((64 * k4) + g) rN), (rM, rB, rX), ((fRM_thank rW rQ rA k4 g x).1, (fRM_thank rW rQ rA k4 g x).2), (rE, rD))) H := hP
        refine lv_iconst (v := 2) hx hb dRM_advert_113 (by decide) ?_
        have e1 : fRM_advert rI rN rW rF rT rM rB rX rQ rA q o g x y = (2, upd rT ((64 * k4) + g) rN, rM, rB, rX, (fRM_thank rW rQ rA k4 g x).1, (fRM_thank rW rQ rA k4 g x).2) := by first | (simp only [fRM_advert, ho5, cond_yes c8, if_neg c9]; done) | (simp only [fRM_advert, ho5]; simp only [cond_yes c8]; simp only [if_neg c9])
        exact g_iret (v := ((rI, fRM_wrong rO q, rN), (rO, rG), (rW, rH, rF, upd rT ((64 * k4) + g) rN), (rM, rB, rX), ((fRM_thank rW rQ rA k4 g x).1, (fRM_thank rW rQ rA k4 g x).2), (rE, rD))) hx hb hr hK hP hS ⟨by first | rfl | (rw [e1] <;> rfl), by first | rfl | (rw [e1] <;> rfl)⟩ hlocks dRM_advert_114
    · refine lv_iconst (v := (-1)) hx hb dRM_advert_67 (by decide) ?_
      have e1 : fRM_advert rI rN rW rF rT rM rB rX rQ rA q o g x y = ((-1), rT, rM, rB, rX, rQ, rA) := by first | (simp only [fRM_advert, ho5, cond_no c8]; done) | (simp only [fRM_advert, ho5]; simp only [cond_no c8])
      exact g_iret (v := ((rI, fRM_wrong rO q, rN), (rO, rG), (rW, rH, rF, rT), (rM, rB, rX), (rQ, rA), (rE, rD))) hx hb hr hK hP hS ⟨by first | rfl | (rw [e1] <;> rfl), by first | rfl | (rw [e1] <;> rfl)⟩ hlocks dRM_advert_68
def fRM_thanks (rW : Nat → Int32) (rT : Nat → Int32) (rM : Nat → Int32) (q : Nat) (o : Nat) (g : Nat) (x : Int32) : Bool × (Nat → Int32) := (match QRM_find_5 rW q o 16 0 none with | none => (false, rT) | some k4 => (if x = (rM g) then (if (rT ((64 * k4) + g)) < 0 then (false, upd rT ((64 * k4) + g) (-1)) else (true, upd rT ((64 * k4) + g) (-1))) else (false, rT)))
set_option maxHeartbeats 4000000 in
set_option maxRecDepth 100000 in
theorem c_RM_thanks (l : Launch) {D : va_G} {cI cZ : ClassId} {a : Nat → Nat} {A : Nat → Prop} (hA : ∀ v : RS, va_D A (wR cI cZ a v)) (rI : Nat) (rC rN : Int32) (rO rG : Nat → Bool) (rW rH : Nat → Int32) (rF : Nat → Bool) (rT : Nat → Int32) (rM rB : Nat → Int32) (rX : Int32) (rQ : Nat) (rA : Nat → Int32) (rE : Nat → Int32) (rD : Int64) (q : Nat) (o : Nat) (g : Nat) (x : Int32) (hq : q < 8) (ho : o < 64) (hI : rI < 64) (hne : ¬ o = rI) (hg : g < 64) (h1 : ¬ x < 1) (h2 : x ≤ 1000000000) (hon : rO q = true) : Met l yRM_thanks wsRM_thanks ({ frames := 2, cells := 0, slots := 0, locals := 44 }) (va_Pc [.ref (a 0), .int (nI q), .int (nI o), .int (nI g), .int x] (gG D (tyR cI cZ) (wR cI cZ a) ((rI, rC, rN), (rO, rG), (rW, rH, rF, rT), (rM, rB, rX), (rQ, rA), (rE, rD)))) (va_Qi (fun (r : Int32) (u : RS) => r = bi ((fRM_thanks rW rT rM q o g x).1) ∧ u = ((rI, fRM_wrong rO q, rN), (rO, rG), (rW, rH, rF, (fRM_thanks rW rT rM q o g x).2), (rM, rB, rX), (rQ, rA), (rE, rD))) (gG D (tyR cI cZ) (wR cI cZ a)) A) 0 0 A := by
  refine g_enter (by decide) rfl (Nat.le_of_ble_eq_true rfl) ?_
  intro p e s m below meth c ls F hK hP hl
  obtain ⟨hx, hb, hr, hml, hown, hts, hlocks⟩ := id F
  have hS : va_S A s.heap s.heap [] := va_S.rf
  have hl : lv_has ls 7 [(0, .ref (a 0)), (1, .int (nI q)), (2, .int (nI o)), (3, .int (nI g)), (4, .int x)] := hl
  refine lv_aload_n hx hb dRM_thanks_0 rfl (lv_at hl 0 rfl) ?_
  refine lv_iload_n hx hb dRM_thanks_1 rfl (lv_at hl 3 rfl) ?_
  refine lv_iconst (v := 0) hx hb dRM_thanks_2 (by decide) ?_
  refine lv_bipush (v := 63) hx hb dRM_thanks_3 (by decide) ?_
  refine g_roSi (As := [.int (nI g), .int 0, .int 63]) (rest := [.ref (a 0)]) ⟨hx, hb, hml, hown, hts⟩ (c_RM_in l rI rC rN rO rG rW rH rF rT rM rB rX rQ rA rE rD (nI g) 0 63) (cw_S 3 hts k633 k634 k32 k635 rfl rfl rfl (by decide +kernel) ⟨Nat.le_of_ble_eq_true rfl, Nat.le_of_ble_eq_true rfl⟩) hK hP rfl hl.1 rfl (Nat.le_of_ble_eq_true rfl) dRM_thanks_5 ⟨Nat.zero_le _, Nat.zero_le _⟩ ?_
  refine lv_if_eqb (tgt := 22) hx hb dRM_thanks_8 (by decide) (fun c1 => absurd (c1.symm.trans (in_K (b := 63) (by omega) (by decide))) (by decide)) (fun c1 => ?_)
  refine lv_iload hx hb dRM_thanks_11 (lv_at hl 4 rfl) ?_
  refine lv_iconst (v := 1) hx hb dRM_thanks_13 (by decide) ?_
  refine lv_ldc (v := 1000000000) hx hb hown (hts _ k660) dRM_thanks_14 ?_
  refine g_roSi (As := [.int x, .int 1, .int 1000000000]) (rest := [.ref (a 0)]) ⟨hx, hb, hml, hown, hts⟩ (c_RM_in l rI rC rN rO rG rW rH rF rT rM rB rX rQ rA rE rD x 1 1000000000) (cw_S 3 hts k633 k634 k32 k635 rfl rfl rfl (by decide +kernel) ⟨Nat.le_of_ble_eq_true rfl, Nat.le_of_ble_eq_true rfl⟩) hK hP rfl hl.1 rfl (Nat.le_of_ble_eq_true rfl) dRM_thanks_16 ⟨Nat.zero_le _, Nat.zero_le _⟩ ?_
  refine lv_if_neb (tgt := 26) hx hb dRM_thanks_19 (by decide) (fun c2 => ?_) (fun c2 => absurd (c2.symm.trans (in_ok h1 h2)) (by decide))
  refine lv_aload_n hx hb dRM_thanks_26 rfl (lv_at hl 0 rfl) ?_
  refine lv_iload_n hx hb dRM_thanks_27 rfl (lv_at hl 1 rfl) ?_
  refine lv_iload_n hx hb dRM_thanks_28 rfl (lv_at hl 2 rfl) ?_
  refine g_roVi (As := [.int (nI q), .int (nI o)]) (rest := [.ref (a 0)]) ⟨hx, hb, hml, hown, hts⟩ (c_RM_wrong l rI rC rN rO rG rW rH rF rT rM rB rX rQ rA rE rD q o (by first | omega | assumption) (by first | omega | assumption) (by first | omega | assumption) (by first | omega | assumption)) (cwV 2 hts (gw_V k648 k650 k19 k32 k651) rfl rfl rfl (by decide +kernel) ⟨Nat.le_of_ble_eq_true rfl, Nat.le_of_ble_eq_true rfl⟩) hK hP (va_recv hK hP (ci := 5) (q0 := 0) rfl rfl) rfl hl.1 rfl (Nat.le_of_ble_eq_true rfl) dRM_thanks_29 ⟨Nat.zero_le _, Nat.zero_le _⟩ ?_
  refine va_put (D := D) (ci := 5) (v := .int (fRM_wrong rO q)) (ty := .int) (C := RRM) (T := TRM) (N := 16) hx hb hts inRM tyRM tyRM_ok nmRM hown hK hP (hA _) hS 0 rfl rfl 1 (by decide) (hts _ k576) (fun _ h9 => h9) rfl (by decide +kernel) rfl rfl (Nat.le_of_ble_eq_true rfl) dRM_thanks_32 (fun H locs hP _ hS => ?_)
  have hP : va_P D vwCl (wR cI cZ a ((rI, fRM_wrong rO q, rN), (rO, rG), (rW, rH, rF, rT), (rM, rB, rX), (rQ, rA), (rE, rD))) H := hP
  refine lv_aload_n hx hb dRM_thanks_35 rfl (lv_at hl 0 rfl) ?_
  refine va_get (D := D) (ci := 5) (v := .int (fRM_wrong rO q)) (C := RRM) (T := TRM) (N := 16) hx hb hts inRM hown hK hP 0 rfl rfl 1 (by decide) (hts _ k576) (fun _ h9 => h9) rfl dRM_thanks_36 ?_
  refine lv_if_le (tgt := 46) hx hb dRM_thanks_39 (by decide) (fun c3 => ?_) (fun c3 => absurd (by rw [wrong_ok hon]; decide) c3)
  refine lv_aload_n hx hb dRM_thanks_46 rfl (lv_at hl 0 rfl) ?_
  refine lv_iload_n hx hb dRM_thanks_47 rfl (lv_at hl 1 rfl) ?_
  refine lv_iload_n hx hb dRM_thanks_48 rfl (lv_at hl 2 rfl) ?_
  refine g_callVi (As := [.int (nI q), .int (nI o)]) (rest := []) ⟨hx, hb, hml, hown, hts⟩ (c_RM_find l hA rI (fRM_wrong rO q) rN rO rG rW rH rF rT rM rB rX rQ rA rE rD q o (by first | omega | assumption) (by first | omega | assumption)) (cwV 2 hts (gw_V k652 k654 k20 k32 k655) rfl rfl rfl (by decide +kernel) ⟨Nat.le_of_ble_eq_true rfl, Nat.le_of_ble_eq_true rfl⟩) hK hP (va_recv hK hP (ci := 5) (q0 := 0) rfl rfl) rfl hl.1 rfl (Nat.le_of_ble_eq_true rfl) dRM_thanks_49 ⟨Nat.zero_le _, Nat.zero_le _⟩ (fun q h => h) hS (fun H locs hP hS => ?_)
  rcases ho5 : QRM_find_5 rW q o 16 0 none with _ | k4
  · refine lv_istore (lv' := [(5, .int (oi none)), (0, .ref (a 0)), (1, .int (nI q)), (2, .int (nI o)), (3, .int (nI g)), (4, .int x)]) hx hb dRM_thanks_52 hl (by decide) rfl (fun ls hl => ?_)
    refine lv_iload hx hb dRM_thanks_54 (lv_at hl 0 rfl) ?_
    refine lv_if_lt (tgt := 70) hx hb dRM_thanks_56 (by decide) (fun _ => ?_) (fun c0 => absurd (by decide) c0)
    refine lv_iconst (v := bi false) hx hb dRM_thanks_70 (by decide) ?_
    have e1 : fRM_thanks rW rT rM q o g x = (false, rT) := by simp only [fRM_thanks, ho5]
    exact g_zret (v := ((rI, fRM_wrong rO q, rN), (rO, rG), (rW, rH, rF, rT), (rM, rB, rX), (rQ, rA), (rE, rD))) hx hb hr hK hP hS ⟨by first | rfl | (rw [e1] <;> rfl), by first | rfl | (rw [e1] <;> rfl)⟩ hlocks dRM_thanks_71
  · have hk4 := c_RM_find_lt ho5
    refine lv_istore (lv' := [(5, .int (nI k4)), (0, .ref (a 0)), (1, .int (nI q)), (2, .int (nI o)), (3, .int (nI g)), (4, .int x)]) hx hb dRM_thanks_52 hl (by decide) rfl (fun ls hl => ?_)
    refine lv_iload hx hb dRM_thanks_54 (lv_at hl 0 rfl) ?_
    refine lv_if_lt (tgt := 70) hx hb dRM_thanks_56 (by decide) (fun c0 => absurd c0 (nI_pos (by omega))) (fun _ => ?_)
    refine lv_iload hx hb dRM_thanks_59 (lv_at hl 5 rfl) ?_
    refine lv_aload_n hx hb dRM_thanks_61 rfl (lv_at hl 1 rfl) ?_
    refine va_get (D := D) (ci := 5) (v := .ref (a 7)) (C := RRM) (T := TRM) (N := 16) hx hb hts inRM hown hK hP 0 rfl rfl 9 (by decide) (hts _ k584) (fun _ h9 => h9) rfl dRM_thanks_62 ?_
    refine lv_iload_n hx hb dRM_thanks_65 rfl (lv_at hl 4 rfl) ?_
    refine ir_iald hx hb hK hP 7 0 rfl rfl (k := g) (by omega) (by decide) dRM_thanks_66 ?_
    refine lv_icmp_eq (tgt := 72) hx hb dRM_thanks_67 (by decide) (fun c8 => ?_) (fun c8 => ?_)
    · refine lv_aload_n hx hb dRM_thanks_72 rfl (lv_at hl 1 rfl) ?_
      refine va_get (D := D) (ci := 5) (v := .ref (a 6)) (C := RRM) (T := TRM) (N := 16) hx hb hts inRM hown hK hP 0 rfl rfl 8 (by decide) (hts _ k583) (fun _ h9 => h9) rfl dRM_thanks_73 ?_
      refine lv_bipush (v := 64) hx hb dRM_thanks_76 (by decide) ?_
      refine lv_iload hx hb dRM_thanks_78 (lv_at hl 0 rfl) ?_
      refine lv_imul hx hb dRM_thanks_80 ?_
      refine lv_eqi (y := nI (64 * k4)) (pk_mul 64 k4) ?_
      refine lv_iload_n hx hb dRM_thanks_81 rfl (lv_at hl 4 rfl) ?_
      refine lv_iadd hx hb dRM_thanks_82 ?_
      refine lv_eqi (y := nI ((64 * k4) + g)) (nI_add (64 * k4) g) ?_
      refine ir_iald hx hb hK hP 6 0 rfl rfl (k := (64 * k4) + g) (by omega) (by decide) dRM_thanks_83 ?_
      refine lv_if_lt (tgt := 91) hx hb dRM_thanks_84 (by decide) (fun c9 => ?_) (fun c9 => ?_)
      · refine lv_iconst (v := bi false) hx hb dRM_thanks_91 (by decide) ?_
        refine lv_istore (lv' := [(6, .int (bi false)), (5, .int (nI k4)), (0, .ref (a 0)), (1, .int (nI q)), (2, .int (nI o)), (3, .int (nI g)), (4, .int x)]) hx hb dRM_thanks_92 hl (by decide) rfl (fun ls hl => ?_)
        refine lv_aload_n hx hb dRM_thanks_94 rfl (lv_at hl 2 rfl) ?_
        refine va_get (D := D) (ci := 5) (v := .ref (a 6)) (C := RRM) (T := TRM) (N := 16) hx hb hts inRM hown hK hP 0 rfl rfl 8 (by decide) (hts _ k583) (fun _ h9 => h9) rfl dRM_thanks_95 ?_
        refine lv_bipush (v := 64) hx hb dRM_thanks_98 (by decide) ?_
        refine lv_iload hx hb dRM_thanks_100 (lv_at hl 1 rfl) ?_
        refine lv_imul hx hb dRM_thanks_102 ?_
        refine lv_eqi (y := nI (64 * k4)) (pk_mul 64 k4) ?_
        refine lv_iload_n hx hb dRM_thanks_103 rfl (lv_at hl 5 rfl) ?_
        refine lv_iadd hx hb dRM_thanks_104 ?_
        refine lv_eqi (y := nI ((64 * k4) + g)) (nI_add (64 * k4) g) ?_
        refine lv_iconst (v := (-1)) hx hb dRM_thanks_105 (by decide) ?_
        refine ir_iast hx hb hK hP (hA _) hS 6 0 rfl rfl (k := (64 * k4) + g) (by omega) (by decide) dRM_thanks_106 (fun H locs hP hS => ?_)
        have hP : va_P D vwCl (wR cI cZ a ((rI, fRM_wrong rO q, rN), (rO, rG), (rW, rH, rF, upd rT ((64 * k4) + g) (-1)), (rM, rB, rX), (rQ, rA), (rE, rD))) H := hP
        refine lv_iload hx hb dRM_thanks_107 (lv_at hl 0 rfl) ?_
        have e1 : fRM_thanks rW rT rM q o g x = (false, upd rT ((64 * k4) + g) (-1)) := by first | (simp only [fRM_thanks, ho5, if_pos c8, if_pos c9]; done) | (simp only [fRM_thanks, ho5]; simp only [if_pos c8]; simp only [if_pos c9])
        exact g_zret (v := ((rI, fRM_wrong rO q, rN), (rO, rG), (rW, rH, rF, upd rT ((64 * k4) + g) (-1)), (rM, rB, rX), (rQ, rA), (rE, rD))) hx hb hr hK hP hS ⟨by first | rfl | (rw [e1] <;> rfl), by first | rfl | (rw [e1] <;> rfl)⟩ hlocks dRM_thanks_109
      · refine lv_iconst (v := bi true) hx hb dRM_thanks_87 (by decide) ?_
        refine lv_goto (tgt := 92) hx hb dRM_thanks_88 (by decide) ?_
        refine lv_istore (lv' := [(6, .int (bi true)), (5, .int (nI k4)), (0, .ref (a 0)), (1, .int (nI q)), (2, .int (nI o)), (3, .int (nI g)), (4, .int x)]) hx hb dRM_thanks_92 hl (by decide) rfl (fun ls hl => ?_)
        refine lv_aload_n hx hb dRM_thanks_94 rfl (lv_at hl 2 rfl) ?_
        refine va_get (D := D) (ci := 5) (v := .ref (a 6)) (C := RRM) (T := TRM) (N := 16) hx hb hts inRM hown hK hP 0 rfl rfl 8 (by decide) (hts _ k583) (fun _ h9 => h9) rfl dRM_thanks_95 ?_
        refine lv_bipush (v := 64) hx hb dRM_thanks_98 (by decide) ?_
        refine lv_iload hx hb dRM_thanks_100 (lv_at hl 1 rfl) ?_
        refine lv_imul hx hb dRM_thanks_102 ?_
        refine lv_eqi (y := nI (64 * k4)) (pk_mul 64 k4) ?_
        refine lv_iload_n hx hb dRM_thanks_103 rfl (lv_at hl 5 rfl) ?_
        refine lv_iadd hx hb dRM_thanks_104 ?_
        refine lv_eqi (y := nI ((64 * k4) + g)) (nI_add (64 * k4) g) ?_
        refine lv_iconst (v := (-1)) hx hb dRM_thanks_105 (by decide) ?_
        refine ir_iast hx hb hK hP (hA _) hS 6 0 rfl rfl (k := (64 * k4) + g) (by omega) (by decide) dRM_thanks_106 (fun H locs hP hS => ?_)
        have hP : va_P D vwCl (wR cI cZ a ((rI, fRM_wrong rO q, rN), (rO, rG), (rW, rH, rF, upd rT ((64 * k4) + g) (-1)), (rM, rB, rX), (rQ, rA), (rE, rD))) H := hP
        refine lv_iload hx hb dRM_thanks_107 (lv_at hl 0 rfl) ?_
        have e1 : fRM_thanks rW rT rM q o g x = (true, upd rT ((64 * k4) + g) (-1)) := by first | (simp only [fRM_thanks, ho5, if_pos c8, if_neg c9]; done) | (simp only [fRM_thanks, ho5]; simp only [if_pos c8]; simp only [if_neg c9])
        exact g_zret (v := ((rI, fRM_wrong rO q, rN), (rO, rG), (rW, rH, rF, upd rT ((64 * k4) + g) (-1)), (rM, rB, rX), (rQ, rA), (rE, rD))) hx hb hr hK hP hS ⟨by first | rfl | (rw [e1] <;> rfl), by first | rfl | (rw [e1] <;> rfl)⟩ hlocks dRM_thanks_109
    · refine lv_iconst (v := bi false) hx hb dRM_thanks_70 (by decide) ?_
      have e1 : fRM_thanks rW rT rM q o g x = (false, rT) := by first | (simp only [fRM_thanks, ho5, if_neg c8]; done) | (simp only [fRM_thanks, ho5]; simp only [if_neg c8])
      exact g_zret (v := ((rI, fRM_wrong rO q, rN), (rO, rG), (rW, rH, rF, rT), (rM, rB, rX), (rQ, rA), (rE, rD))) hx hb hr hK hP hS ⟨by first | rfl | (rw [e1] <;> rfl), by first | rfl | (rw [e1] <;> rfl)⟩ hlocks dRM_thanks_71
set_option maxHeartbeats 4000000 in
set_option maxRecDepth 100000 in
theorem c_RM_own (l : Launch) {D : va_G} {cI cZ : ClassId} {a : Nat → Nat} {A : Nat → Prop} (hA : ∀ v : RS, va_D A (wR cI cZ a v)) (rI : Nat) (rC rN : Int32) (rO rG : Nat → Bool) (rW rH : Nat → Int32) (rF : Nat → Bool) (rT : Nat → Int32) (rM rB : Nat → Int32) (rX : Int32) (rQ : Nat) (rA : Nat → Int32) (rE : Nat → Int32) (rD : Int64) (x : Int32) (hI : rI < 64) : Met l yRM_own wsRM_own ({ frames := 1, cells := 0, slots := 0, locals := 25 }) (va_Pc [.ref (a 0), .int x] (gG D (tyR cI cZ) (wR cI cZ a) ((rI, rC, rN), (rO, rG), (rW, rH, rF, rT), (rM, rB, rX), (rQ, rA), (rE, rD)))) (va_Qi (fun (r : Int32) (u : RS) => r = rX + 1 ∧ u = ((rI, 0, rN), (rO, rG), (rW, rH, rF, QRM_learn_17 rN rF rI none 16 0 rT), (upd rM rI (rX + 1), upd rB rI x, rX + 1), (rQ, rA), (rE, rD))) (gG D (tyR cI cZ) (wR cI cZ a)) A) 0 0 A := by
  refine g_enter (by decide) rfl (Nat.le_of_ble_eq_true rfl) ?_
  intro p e s m below meth c ls F hK hP hl
  obtain ⟨hx, hb, hr, hml, hown, hts, hlocks⟩ := id F
  have hS : va_S A s.heap s.heap [] := va_S.rf
  have hl : lv_has ls 2 [(0, .ref (a 0)), (1, .int x)] := hl
  refine lv_aload_n hx hb dRM_own_0 rfl (lv_at hl 0 rfl) ?_
  refine lv_iconst (v := 0) hx hb dRM_own_1 (by decide) ?_
  refine va_put (D := D) (ci := 5) (v := .int 0) (ty := .int) (C := RRM) (T := TRM) (N := 16) hx hb hts inRM tyRM tyRM_ok nmRM hown hK hP (hA _) hS 0 rfl rfl 1 (by decide) (hts _ k576) (fun _ h9 => h9) rfl (by decide +kernel) rfl rfl (Nat.le_of_ble_eq_true rfl) dRM_own_2 (fun H locs hP _ hS => ?_)
  have hP : va_P D vwCl (wR cI cZ a ((rI, 0, rN), (rO, rG), (rW, rH, rF, rT), (rM, rB, rX), (rQ, rA), (rE, rD))) H := hP
  refine lv_aload_n hx hb dRM_own_5 rfl (lv_at hl 0 rfl) ?_
  refine lv_dup hx hb dRM_own_6 rfl ?_
  refine va_get (D := D) (ci := 5) (v := .int rX) (C := RRM) (T := TRM) (N := 16) hx hb hts inRM hown hK hP 0 rfl rfl 11 (by decide) (hts _ k586) (fun _ h9 => h9) rfl dRM_own_7 ?_
  refine lv_iconst (v := 1) hx hb dRM_own_10 (by decide) ?_
  refine lv_iadd hx hb dRM_own_11 ?_
  refine va_put (D := D) (ci := 5) (v := .int (rX + 1)) (ty := .int) (C := RRM) (T := TRM) (N := 16) hx hb hts inRM tyRM tyRM_ok nmRM hown hK hP (hA _) hS 0 rfl rfl 11 (by decide) (hts _ k586) (fun _ h9 => h9) rfl (by decide +kernel) rfl rfl (Nat.le_of_ble_eq_true rfl) dRM_own_12 (fun H locs hP _ hS => ?_)
  have hP : va_P D vwCl (wR cI cZ a ((rI, 0, rN), (rO, rG), (rW, rH, rF, rT), (rM, rB, rX + 1), (rQ, rA), (rE, rD))) H := hP
  refine lv_aload_n hx hb dRM_own_15 rfl (lv_at hl 0 rfl) ?_
  refine lv_aload_n hx hb dRM_own_16 rfl (lv_at hl 0 rfl) ?_
  refine va_get (D := D) (ci := 5) (v := .int (nI rI)) (C := RRM) (T := TRM) (N := 16) hx hb hts inRM hown hK hP 0 rfl rfl 0 (by decide) (hts _ k575) (fun _ h9 => h9) rfl dRM_own_17 ?_
  refine lv_aload_n hx hb dRM_own_20 rfl (lv_at hl 0 rfl) ?_
  refine va_get (D := D) (ci := 5) (v := .int (rX + 1)) (C := RRM) (T := TRM) (N := 16) hx hb hts inRM hown hK hP 0 rfl rfl 11 (by decide) (hts _ k586) (fun _ h9 => h9) rfl dRM_own_21 ?_
  refine lv_iload_n hx hb dRM_own_24 rfl (lv_at hl 1 rfl) ?_
  refine lv_iconst (v := (-1)) hx hb dRM_own_25 (by decide) ?_
  refine g_callVv (As := [.int (nI rI), .int (rX + 1), .int x, .int (-1)]) (rest := []) ⟨hx, hb, hml, hown, hts⟩ (c_RM_learn l hA rI 0 rN rO rG rW rH rF rT rM rB (rX + 1) rQ rA rE rD rI (rX + 1) x none (by first | omega | assumption)) (cwV 4 hts (gw_V k665 k667 k22 k32 k668) rfl rfl rfl (by decide +kernel) ⟨Nat.le_of_ble_eq_true rfl, Nat.le_of_ble_eq_true rfl⟩) hK hP (va_recv hK hP (ci := 5) (q0 := 0) rfl rfl) rfl hl.1 rfl (Nat.le_of_ble_eq_true rfl) dRM_own_26 ⟨Nat.zero_le _, Nat.zero_le _⟩ (fun q h => h) hS (fun H locs hP hS => ?_)
  have hP : va_P D vwCl (wR cI cZ a ((rI, 0, rN), (rO, rG), (rW, rH, rF, QRM_learn_17 rN rF rI none 16 0 rT), (upd rM rI (rX + 1), upd rB rI x, rX + 1), (rQ, rA), (rE, rD))) H := hP
  refine lv_aload_n hx hb dRM_own_29 rfl (lv_at hl 0 rfl) ?_
  refine va_get (D := D) (ci := 5) (v := .int (rX + 1)) (C := RRM) (T := TRM) (N := 16) hx hb hts inRM hown hK hP 0 rfl rfl 11 (by decide) (hts _ k586) (fun _ h9 => h9) rfl dRM_own_30 ?_
  exact g_iret (v := ((rI, 0, rN), (rO, rG), (rW, rH, rF, QRM_learn_17 rN rF rI none 16 0 rT), (upd rM rI (rX + 1), upd rB rI x, rX + 1), (rQ, rA), (rE, rD))) hx hb hr hK hP hS ⟨rfl, rfl⟩ hlocks dRM_own_33
def QRM_forget_59 (g : Nat) : Nat → Nat → (Nat → Int32) → (Nat → Int32)
  | 0, k, rT => rT
  | n + 1, k, rT => QRM_forget_59 g n (k + 1) (upd rT ((64 * k) + g) (-1))
set_option maxHeartbeats 4000000 in
set_option maxRecDepth 100000 in
theorem lqRM_forget_59 {p : Program} {l : Launch} {e : Env} {s : State} {m : MethodId} {args : Array Value} {below : List Frame} {meth : Method} {c : Code} {D : va_G} {cI cZ : ClassId} {a : Nat → Nat} {A : Nat → Prop} (hA : ∀ v : RS, va_D A (wR cI cZ a v)) (F : gFix p c cRM_forget meth (some .boolean) m s args bigW RRM 4) (hK : va_K D vwCl (tyR cI cZ) s) (rI : Nat) (rC : Int32) (rN : Int32) (rO : Nat → Bool) (rG : Nat → Bool) (rW : Nat → Int32) (rH : Nat → Int32) (rF : Nat → Bool) (rM : Nat → Int32) (rB : Nat → Int32) (rX : Int32) (rQ : Nat) (rA : Nat → Int32) (rE : Nat → Int32) (rD : Int64) (u : Bool) {g : Nat} (hg : g < 64) (Q : State → Prop) : ∀ (n k : Nat)  (rT : Nat → Int32) (ls : Array Slot) (H : Heap) (locs : List Loc), k + n = 16 → va_P D vwCl (wR cI cZ a ((rI, rC, rN), (rO, rG), (rW, rH, rF, rT), (rM, rB, rX), (rQ, rA), (rE, rD))) H → va_S A s.heap H locs → lv_has ls 4 [(3, .int (nI k)), (2, .int (bi u)), (0, .ref (a 0)), (1, .int (nI g))] → (∀ (ls : Array Slot) (H : Heap) (locs : List Loc), va_P D vwCl (wR cI cZ a ((rI, rC, rN), (rO, rG), (rW, rH, rF, QRM_forget_59 g n k rT), (rM, rB, rX), (rQ, rA), (rE, rD))) H → va_S A s.heap H locs → lv_has ls 4 [(3, .int (nI 16)), (2, .int (bi u)), (0, .ref (a 0)), (1, .int (nI g))] → W p l e ({ frames := 1, cells := 0, slots := 0, locals := 22 }) s m args below meth c H locs 0 0 Q (F0 m 83 ls [])) → W p l e ({ frames := 1, cells := 0, slots := 0, locals := 22 }) s m args below meth c H locs 0 0 Q (F0 m 59 ls []) := by
  obtain ⟨hx, hb, hr, hml, hown, hts, hlocks⟩ := id F
  intro n
  induction n with
  | zero =>
    intro k rT ls H locs hkn  hP hS hl hkk
    refine lv_iload_n hx hb dRM_forget_59 rfl (lv_at hl 0 rfl) ?_
    refine lv_bipush (v := nI 16) hx hb dRM_forget_60 (by decide) ?_
    refine lv_icmp_ge (tgt := 83) hx hb dRM_forget_62 (by decide) (fun _ => ?_) (fun c0 => absurd (nI_le (by omega) (by omega)) c0)
    obtain rfl : k = 16 := by omega
    exact hkk ls H locs hP hS (lv_sub hl [0, 1, 2, 3] rfl)
  | succ n ih =>
    intro k rT ls H locs hkn  hP hS hl hkk
    refine lv_iload_n hx hb dRM_forget_59 rfl (lv_at hl 0 rfl) ?_
    refine lv_bipush (v := nI 16) hx hb dRM_forget_60 (by decide) ?_
    refine lv_icmp_ge (tgt := 83) hx hb dRM_forget_62 (by decide) (fun c0 => absurd c0 (nI_ge (by omega) (by omega))) (fun _ => ?_)
    refine lv_aload_n hx hb dRM_forget_65 rfl (lv_at hl 2 rfl) ?_
    refine va_get (D := D) (ci := 5) (v := .ref (a 6)) (C := RRM) (T := TRM) (N := 16) hx hb hts inRM hown hK hP 0 rfl rfl 8 (by decide) (hts _ k583) (fun _ h9 => h9) rfl dRM_forget_66 ?_
    refine lv_bipush (v := 64) hx hb dRM_forget_69 (by decide) ?_
    refine lv_iload_n hx hb dRM_forget_71 rfl (lv_at hl 0 rfl) ?_
    refine lv_imul hx hb dRM_forget_72 ?_
    refine lv_eqi (y := nI (64 * k)) (pk_mul 64 k) ?_
    refine lv_iload_n hx hb dRM_forget_73 rfl (lv_at hl 3 rfl) ?_
    refine lv_iadd hx hb dRM_forget_74 ?_
    refine lv_eqi (y := nI ((64 * k) + g)) (nI_add (64 * k) g) ?_
    refine lv_iconst (v := (-1)) hx hb dRM_forget_75 (by decide) ?_
    refine ir_iast hx hb hK hP (hA _) hS 6 0 rfl rfl (k := (64 * k) + g) (by omega) (by decide) dRM_forget_76 (fun H locs hP hS => ?_)
    have hP : va_P D vwCl (wR cI cZ a ((rI, rC, rN), (rO, rG), (rW, rH, rF, upd rT ((64 * k) + g) (-1)), (rM, rB, rX), (rQ, rA), (rE, rD))) H := hP
    refine lv_iinc (v := nI (k + 1)) (lv' := [(3, .int (nI (k + 1))), (2, .int (bi u)), (0, .ref (a 0)), (1, .int (nI g))]) hx hb dRM_forget_77 hl (k := 0) rfl (nI_1 k) (by decide) rfl (fun ls hl => ?_)
    refine lv_goto (tgt := 59) hx hb dRM_forget_80 (by decide) ?_
    have e1 : QRM_forget_59 g (n + 1) k rT = QRM_forget_59 g n (k + 1) (upd rT ((64 * k) + g) (-1)) := by simp only [QRM_forget_59]
    rw [e1] at hkk
    exact ih (k + 1) (upd rT ((64 * k) + g) (-1)) ls H locs (by omega)  hP hS (lv_sub hl [0, 1, 2, 3] rfl) hkk
def fRM_forget (rM : Nat → Int32) (g : Nat) : Bool := (if (rM g) ≤ 0 then false else true)
set_option maxHeartbeats 4000000 in
set_option maxRecDepth 100000 in
theorem c_RM_forget (l : Launch) {D : va_G} {cI cZ : ClassId} {a : Nat → Nat} {A : Nat → Prop} (hA : ∀ v : RS, va_D A (wR cI cZ a v)) (rI : Nat) (rC rN : Int32) (rO rG : Nat → Bool) (rW rH : Nat → Int32) (rF : Nat → Bool) (rT : Nat → Int32) (rM rB : Nat → Int32) (rX : Int32) (rQ : Nat) (rA : Nat → Int32) (rE : Nat → Int32) (rD : Int64) (g : Nat) (hg : g < 64) : Met l yRM_forget wsRM_forget ({ frames := 1, cells := 0, slots := 0, locals := 22 }) (va_Pc [.ref (a 0), .int (nI g)] (gG D (tyR cI cZ) (wR cI cZ a) ((rI, rC, rN), (rO, rG), (rW, rH, rF, rT), (rM, rB, rX), (rQ, rA), (rE, rD)))) (va_Qi (fun (r : Int32) (u : RS) => r = bi (fRM_forget rM g) ∧ u = ((rI, 0, rN), (rO, rG), (rW, rH, rF, QRM_forget_59 g 16 0 rT), (upd rM g 0, upd rB g 0, rX), (rQ, rA), (rE, rD))) (gG D (tyR cI cZ) (wR cI cZ a)) A) 0 0 A := by
  refine g_enter (by decide) rfl (Nat.le_of_ble_eq_true rfl) ?_
  intro p e s m below meth c ls F hK hP hl
  obtain ⟨hx, hb, hr, hml, hown, hts, hlocks⟩ := id F
  have hS : va_S A s.heap s.heap [] := va_S.rf
  have hl : lv_has ls 4 [(0, .ref (a 0)), (1, .int (nI g))] := hl
  refine lv_aload_n hx hb dRM_forget_0 rfl (lv_at hl 0 rfl) ?_
  refine lv_iload_n hx hb dRM_forget_1 rfl (lv_at hl 1 rfl) ?_
  refine lv_iconst (v := 0) hx hb dRM_forget_2 (by decide) ?_
  refine lv_bipush (v := 63) hx hb dRM_forget_3 (by decide) ?_
  refine g_roSi (As := [.int (nI g), .int 0, .int 63]) (rest := [.ref (a 0)]) ⟨hx, hb, hml, hown, hts⟩ (c_RM_in l rI rC rN rO rG rW rH rF rT rM rB rX rQ rA rE rD (nI g) 0 63) (cw_S 3 hts k633 k634 k32 k635 rfl rfl rfl (by decide +kernel) ⟨Nat.le_of_ble_eq_true rfl, Nat.le_of_ble_eq_true rfl⟩) hK hP rfl hl.1 rfl (Nat.le_of_ble_eq_true rfl) dRM_forget_5 ⟨Nat.zero_le _, Nat.zero_le _⟩ ?_
  refine lv_if_eqb (tgt := 15) hx hb dRM_forget_8 (by decide) (fun c1 => absurd (c1.symm.trans (in_K (b := 63) (by omega) (by decide))) (by decide)) (fun c1 => ?_)
  refine lv_iconst (v := 0) hx hb dRM_forget_11 (by decide) ?_
  refine lv_goto (tgt := 16) hx hb dRM_forget_12 (by decide) ?_
  refine va_put (D := D) (ci := 5) (v := .int 0) (ty := .int) (C := RRM) (T := TRM) (N := 16) hx hb hts inRM tyRM tyRM_ok nmRM hown hK hP (hA _) hS 0 rfl rfl 1 (by decide) (hts _ k576) (fun _ h9 => h9) rfl (by decide +kernel) rfl rfl (Nat.le_of_ble_eq_true rfl) dRM_forget_16 (fun H locs hP _ hS => ?_)
  have hP : va_P D vwCl (wR cI cZ a ((rI, 0, rN), (rO, rG), (rW, rH, rF, rT), (rM, rB, rX), (rQ, rA), (rE, rD))) H := hP
  refine lv_aload_n hx hb dRM_forget_19 rfl (lv_at hl 0 rfl) ?_
  refine va_get (D := D) (ci := 5) (v := .int 0) (C := RRM) (T := TRM) (N := 16) hx hb hts inRM hown hK hP 0 rfl rfl 1 (by decide) (hts _ k576) (fun _ h9 => h9) rfl dRM_forget_20 ?_
  refine lv_if_le (tgt := 28) hx hb dRM_forget_23 (by decide) (fun _ => ?_) (fun c0 => absurd (by decide) c0)
  refine lv_aload_n hx hb dRM_forget_28 rfl (lv_at hl 0 rfl) ?_
  refine va_get (D := D) (ci := 5) (v := .ref (a 7)) (C := RRM) (T := TRM) (N := 16) hx hb hts inRM hown hK hP 0 rfl rfl 9 (by decide) (hts _ k584) (fun _ h9 => h9) rfl dRM_forget_29 ?_
  refine lv_iload_n hx hb dRM_forget_32 rfl (lv_at hl 1 rfl) ?_
  refine ir_iald hx hb hK hP 7 0 rfl rfl (k := g) (by omega) (by decide) dRM_forget_33 ?_
  refine lv_if_le (tgt := 41) hx hb dRM_forget_34 (by decide) (fun c3 => ?_) (fun c3 => ?_)
  · refine lv_iconst (v := bi false) hx hb dRM_forget_41 (by decide) ?_
    refine lv_istore_n (lv' := [(2, .int (bi false)), (0, .ref (a 0)), (1, .int (nI g))]) hx hb dRM_forget_42 rfl hl (by decide) rfl (fun ls hl => ?_)
    refine lv_aload_n hx hb dRM_forget_43 rfl (lv_at hl 1 rfl) ?_
    refine va_get (D := D) (ci := 5) (v := .ref (a 7)) (C := RRM) (T := TRM) (N := 16) hx hb hts inRM hown hK hP 0 rfl rfl 9 (by decide) (hts _ k584) (fun _ h9 => h9) rfl dRM_forget_44 ?_
    refine lv_iload_n hx hb dRM_forget_47 rfl (lv_at hl 2 rfl) ?_
    refine lv_iconst (v := 0) hx hb dRM_forget_48 (by decide) ?_
    refine ir_iast hx hb hK hP (hA _) hS 7 0 rfl rfl (k := g) (by omega) (by decide) dRM_forget_49 (fun H locs hP hS => ?_)
    have hP : va_P D vwCl (wR cI cZ a ((rI, 0, rN), (rO, rG), (rW, rH, rF, rT), (upd rM g 0, rB, rX), (rQ, rA), (rE, rD))) H := hP
    refine lv_aload_n hx hb dRM_forget_50 rfl (lv_at hl 1 rfl) ?_
    refine va_get (D := D) (ci := 5) (v := .ref (a 8)) (C := RRM) (T := TRM) (N := 16) hx hb hts inRM hown hK hP 0 rfl rfl 10 (by decide) (hts _ k585) (fun _ h9 => h9) rfl dRM_forget_51 ?_
    refine lv_iload_n hx hb dRM_forget_54 rfl (lv_at hl 2 rfl) ?_
    refine lv_iconst (v := 0) hx hb dRM_forget_55 (by decide) ?_
    refine ir_iast hx hb hK hP (hA _) hS 8 0 rfl rfl (k := g) (by omega) (by decide) dRM_forget_56 (fun H locs hP hS => ?_)
    have hP : va_P D vwCl (wR cI cZ a ((rI, 0, rN), (rO, rG), (rW, rH, rF, rT), (upd rM g 0, upd rB g 0, rX), (rQ, rA), (rE, rD))) H := hP
    refine lv_iconst (v := nI 0) hx hb dRM_forget_57 (by decide) ?_
    refine lv_istore_n (lv' := [(3, .int (nI 0)), (2, .int (bi false)), (0, .ref (a 0)), (1, .int (nI g))]) hx hb dRM_forget_58 rfl hl (by decide) rfl (fun ls hl => ?_)
    refine lqRM_forget_59 hA F hK rI 0 rN rO rG rW rH rF (upd rM g 0) (upd rB g 0) rX rQ rA rE rD false (by first | omega | assumption)  _ 16 0 rT ls H locs (by omega)  hP hS (lv_sub hl [0, 1, 2, 3] rfl) (fun ls H locs hP hS hl => ?_)
    have hP : va_P D vwCl (wR cI cZ a ((rI, 0, rN), (rO, rG), (rW, rH, rF, QRM_forget_59 g 16 0 rT), (upd rM g 0, upd rB g 0, rX), (rQ, rA), (rE, rD))) H := hP
    refine lv_iload_n hx hb dRM_forget_83 rfl (lv_at hl 1 rfl) ?_
    have e1 : fRM_forget rM g = false := by simp only [fRM_forget, if_pos c3]
    exact g_zret (v := ((rI, 0, rN), (rO, rG), (rW, rH, rF, QRM_forget_59 g 16 0 rT), (upd rM g 0, upd rB g 0, rX), (rQ, rA), (rE, rD))) hx hb hr hK hP hS ⟨by first | rfl | (rw [e1] <;> rfl), by first | rfl | (rw [e1] <;> rfl)⟩ hlocks dRM_forget_84
  · refine lv_iconst (v := bi true) hx hb dRM_forget_37 (by decide) ?_
    refine lv_goto (tgt := 42) hx hb dRM_forget_38 (by decide) ?_
    refine lv_istore_n (lv' := [(2, .int (bi true)), (0, .ref (a 0)), (1, .int (nI g))]) hx hb dRM_forget_42 rfl hl (by decide) rfl (fun ls hl => ?_)
    refine lv_aload_n hx hb dRM_forget_43 rfl (lv_at hl 1 rfl) ?_
    refine va_get (D := D) (ci := 5) (v := .ref (a 7)) (C := RRM) (T := TRM) (N := 16) hx hb hts inRM hown hK hP 0 rfl rfl 9 (by decide) (hts _ k584) (fun _ h9 => h9) rfl dRM_forget_44 ?_
    refine lv_iload_n hx hb dRM_forget_47 rfl (lv_at hl 2 rfl) ?_
    refine lv_iconst (v := 0) hx hb dRM_forget_48 (by decide) ?_
    refine ir_iast hx hb hK hP (hA _) hS 7 0 rfl rfl (k := g) (by omega) (by decide) dRM_forget_49 (fun H locs hP hS => ?_)
    have hP : va_P D vwCl (wR cI cZ a ((rI, 0, rN), (rO, rG), (rW, rH, rF, rT), (upd rM g 0, rB, rX), (rQ, rA), (rE, rD))) H := hP
    refine lv_aload_n hx hb dRM_forget_50 rfl (lv_at hl 1 rfl) ?_
    refine va_get (D := D) (ci := 5) (v := .ref (a 8)) (C := RRM) (T := TRM) (N := 16) hx hb hts inRM hown hK hP 0 rfl rfl 10 (by decide) (hts _ k585) (fun _ h9 => h9) rfl dRM_forget_51 ?_
    refine lv_iload_n hx hb dRM_forget_54 rfl (lv_at hl 2 rfl) ?_
    refine lv_iconst (v := 0) hx hb dRM_forget_55 (by decide) ?_
    refine ir_iast hx hb hK hP (hA _) hS 8 0 rfl rfl (k := g) (by omega) (by decide) dRM_forget_56 (fun H locs hP hS => ?_)
    have hP : va_P D vwCl (wR cI cZ a ((rI, 0, rN), (rO, rG), (rW, rH, rF, rT), (upd rM g 0, upd rB g 0, rX), (rQ, rA), (rE, rD))) H := hP
    refine lv_iconst (v := nI 0) hx hb dRM_forget_57 (by decide) ?_
    refine lv_istore_n (lv' := [(3, .int (nI 0)), (2, .int (bi true)), (0, .ref (a 0)), (1, .int (nI g))]) hx hb dRM_forget_58 rfl hl (by decide) rfl (fun ls hl => ?_)
    refine lqRM_forget_59 hA F hK rI 0 rN rO rG rW rH rF (upd rM g 0) (upd rB g 0) rX rQ rA rE rD true (by first | omega | assumption)  _ 16 0 rT ls H locs (by omega)  hP hS (lv_sub hl [0, 1, 2, 3] rfl) (fun ls H locs hP hS hl => ?_)
    have hP : va_P D vwCl (wR cI cZ a ((rI, 0, rN), (rO, rG), (rW, rH, rF, QRM_forget_59 g 16 0 rT), (upd rM g 0, upd rB g 0, rX), (rQ, rA), (rE, rD))) H := hP
    refine lv_iload_n hx hb dRM_forget_83 rfl (lv_at hl 1 rfl) ?_
    have e1 : fRM_forget rM g = true := by simp only [fRM_forget, if_neg c3]
    exact g_zret (v := ((rI, 0, rN), (rO, rG), (rW, rH, rF, QRM_forget_59 g 16 0 rT), (upd rM g 0, upd rB g 0, rX), (rQ, rA), (rE, rD))) hx hb hr hK hP hS ⟨by first | rfl | (rw [e1] <;> rfl), by first | rfl | (rw [e1] <;> rfl)⟩ hlocks dRM_forget_84
def QRM_run_63 (rN : Int32) (rO : Nat → Bool) : Nat → Nat → (Nat → Bool) → (Nat → Bool)
  | 0, k, rG => rG
  | n + 1, k, rG => (cond (rG k) (QRM_run_63 rN rO n (k + 1) (updB rG k true)) (cond (rO k) (if (rN - rN / (nI 20) * (nI 20)) = 0 then QRM_run_63 rN rO n (k + 1) (updB rG k true) else QRM_run_63 rN rO n (k + 1) (updB rG k false)) (QRM_run_63 rN rO n (k + 1) (updB rG k false))))
set_option maxHeartbeats 4000000 in
set_option maxRecDepth 100000 in
theorem lqRM_run_63 {p : Program} {l : Launch} {e : Env} {s : State} {m : MethodId} {args : Array Value} {below : List Frame} {meth : Method} {c : Code} {D : va_G} {cI cZ : ClassId} {a : Nat → Nat} {A : Nat → Prop} (hA : ∀ v : RS, va_D A (wR cI cZ a v)) (F : gFix p c cRM_run meth (some .int) m s args bigW RRM 4) (hK : va_K D vwCl (tyR cI cZ) s) (rI : Nat) (rC : Int32) (rN : Int32) (rO : Nat → Bool) (rW : Nat → Int32) (rH : Nat → Int32) (rF : Nat → Bool) (rT : Nat → Int32) (rM : Nat → Int32) (rB : Nat → Int32) (rX : Int32) (rQ : Nat) (rA : Nat → Int32) (rE : Nat → Int32) (rD : Int64) (t : Nat) {x : Nat} (hx1 : 1 ≤ x) (hx2 : x ≤ 2000) (Q : State → Prop) : ∀ (n k : Nat)  (rG : Nat → Bool) (ls : Array Slot) (H : Heap) (locs : List Loc), k + n = 8 → va_P D vwCl (wR cI cZ a ((rI, rC, rN), (rO, rG), (rW, rH, rF, rT), (rM, rB, rX), (rQ, rA), (rE, rD))) H → va_S A s.heap H locs → lv_has ls 4 [(3, .int (nI k)), (2, .int (nI t)), (0, .ref (a 0)), (1, .int (nI x))] → (∀ (ls : Array Slot) (H : Heap) (locs : List Loc), va_P D vwCl (wR cI cZ a ((rI, rC, rN), (rO, QRM_run_63 rN rO n k rG), (rW, rH, rF, rT), (rM, rB, rX), (rQ, rA), (rE, rD))) H → va_S A s.heap H locs → lv_has ls 4 [(3, .int (nI 8)), (2, .int (nI t)), (0, .ref (a 0)), (1, .int (nI x))] → W p l e ({ frames := 2, cells := 0, slots := 0, locals := 43 }) s m args below meth c H locs 0 0 Q (F0 m 114 ls [])) → W p l e ({ frames := 2, cells := 0, slots := 0, locals := 43 }) s m args below meth c H locs 0 0 Q (F0 m 63 ls []) := by
  obtain ⟨hx, hb, hr, hml, hown, hts, hlocks⟩ := id F
  intro n
  induction n with
  | zero =>
    intro k rG ls H locs hkn  hP hS hl hkk
    refine lv_iload_n hx hb dRM_run_63 rfl (lv_at hl 0 rfl) ?_
    refine lv_bipush (v := nI 8) hx hb dRM_run_64 (by decide) ?_
    refine lv_icmp_ge (tgt := 114) hx hb dRM_run_66 (by decide) (fun _ => ?_) (fun c0 => absurd (nI_le (by omega) (by omega)) c0)
    obtain rfl : k = 8 := by omega
    exact hkk ls H locs hP hS (lv_sub hl [0, 1, 2, 3] rfl)
  | succ n ih =>
    intro k rG ls H locs hkn  hP hS hl hkk
    refine lv_iload_n hx hb dRM_run_63 rfl (lv_at hl 0 rfl) ?_
    refine lv_bipush (v := nI 8) hx hb dRM_run_64 (by decide) ?_
    refine lv_icmp_ge (tgt := 114) hx hb dRM_run_66 (by decide) (fun c0 => absurd c0 (nI_ge (by omega) (by omega))) (fun _ => ?_)
    refine lv_aload_n hx hb dRM_run_69 rfl (lv_at hl 2 rfl) ?_
    refine va_get (D := D) (ci := 5) (v := .ref (a 2)) (C := RRM) (T := TRM) (N := 16) hx hb hts inRM hown hK hP 0 rfl rfl 4 (by decide) (hts _ k579) (fun _ h9 => h9) rfl dRM_run_70 ?_
    refine lv_iload_n hx hb dRM_run_73 rfl (lv_at hl 0 rfl) ?_
    refine lv_aload_n hx hb dRM_run_74 rfl (lv_at hl 2 rfl) ?_
    refine va_get (D := D) (ci := 5) (v := .ref (a 2)) (C := RRM) (T := TRM) (N := 16) hx hb hts inRM hown hK hP 0 rfl rfl 4 (by decide) (hts _ k579) (fun _ h9 => h9) rfl dRM_run_75 ?_
    refine lv_iload_n hx hb dRM_run_78 rfl (lv_at hl 0 rfl) ?_
    refine ir_zald hx hb hK hP 2 1 rfl rfl (k := k) (by omega) (by decide) dRM_run_79 ?_
    refine lv_if_neb (tgt := 102) hx hb dRM_run_80 (by decide) (fun c8 => ?_) (fun c8 => ?_)
    · refine lv_iconst (v := bi true) hx hb dRM_run_102 (by decide) ?_
      refine lv_goto (tgt := 107) hx hb dRM_run_103 (by decide) ?_
      refine ir_zast hx hb hK hP (hA _) hS 2 1 rfl rfl (k := k) (by omega) (by decide) dRM_run_107 (fun H locs hP hS => ?_)
      have hP : va_P D vwCl (wR cI cZ a ((rI, rC, rN), (rO, updB rG k true), (rW, rH, rF, rT), (rM, rB, rX), (rQ, rA), (rE, rD))) H := hP
      refine lv_iinc (v := nI (k + 1)) (lv' := [(3, .int (nI (k + 1))), (2, .int (nI t)), (0, .ref (a 0)), (1, .int (nI x))]) hx hb dRM_run_108 hl (k := 0) rfl (nI_1 k) (by decide) rfl (fun ls hl => ?_)
      refine lv_goto (tgt := 63) hx hb dRM_run_111 (by decide) ?_
      have e1 : QRM_run_63 rN rO (n + 1) k rG = QRM_run_63 rN rO n (k + 1) (updB rG k true) := by simp only [QRM_run_63, cond_yes c8]
      rw [e1] at hkk
      exact ih (k + 1) (updB rG k true) ls H locs (by omega)  hP hS (lv_sub hl [0, 1, 2, 3] rfl) hkk
    · refine lv_aload_n hx hb dRM_run_83 rfl (lv_at hl 2 rfl) ?_
      refine va_get (D := D) (ci := 5) (v := .ref (a 1)) (C := RRM) (T := TRM) (N := 16) hx hb hts inRM hown hK hP 0 rfl rfl 3 (by decide) (hts _ k578) (fun _ h9 => h9) rfl dRM_run_84 ?_
      refine lv_iload_n hx hb dRM_run_87 rfl (lv_at hl 0 rfl) ?_
      refine ir_zald hx hb hK hP 1 1 rfl rfl (k := k) (by omega) (by decide) dRM_run_88 ?_
      refine lv_if_eqb (tgt := 106) hx hb dRM_run_89 (by decide) (fun c9 => ?_) (fun c9 => ?_)
      · refine lv_iconst (v := bi false) hx hb dRM_run_106 (by decide) ?_
        refine ir_zast hx hb hK hP (hA _) hS 2 1 rfl rfl (k := k) (by omega) (by decide) dRM_run_107 (fun H locs hP hS => ?_)
        have hP : va_P D vwCl (wR cI cZ a ((rI, rC, rN), (rO, updB rG k false), (rW, rH, rF, rT), (rM, rB, rX), (rQ, rA), (rE, rD))) H := hP
        refine lv_iinc (v := nI (k + 1)) (lv' := [(3, .int (nI (k + 1))), (2, .int (nI t)), (0, .ref (a 0)), (1, .int (nI x))]) hx hb dRM_run_108 hl (k := 0) rfl (nI_1 k) (by decide) rfl (fun ls hl => ?_)
        refine lv_goto (tgt := 63) hx hb dRM_run_111 (by decide) ?_
        have e1 : QRM_run_63 rN rO (n + 1) k rG = QRM_run_63 rN rO n (k + 1) (updB rG k false) := by first | (simp only [QRM_run_63, cond_no c8, cond_no c9]; done) | (simp only [QRM_run_63, cond_no c8]; simp only [cond_no c9])
        rw [e1] at hkk
        exact ih (k + 1) (updB rG k false) ls H locs (by omega)  hP hS (lv_sub hl [0, 1, 2, 3] rfl) hkk
      · refine lv_aload_n hx hb dRM_run_92 rfl (lv_at hl 2 rfl) ?_
        refine va_get (D := D) (ci := 5) (v := .int rN) (C := RRM) (T := TRM) (N := 16) hx hb hts inRM hown hK hP 0 rfl rfl 2 (by decide) (hts _ k577) (fun _ h9 => h9) rfl dRM_run_93 ?_
        refine lv_bipush (v := nI 20) hx hb dRM_run_96 (by decide) ?_
        refine lv_irem hx hb dRM_run_98 (by decide) ?_
        refine lv_if_ne (tgt := 106) hx hb dRM_run_99 (by decide) (fun c10 => ?_) (fun c10 => ?_)
        · refine lv_iconst (v := bi false) hx hb dRM_run_106 (by decide) ?_
          refine ir_zast hx hb hK hP (hA _) hS 2 1 rfl rfl (k := k) (by omega) (by decide) dRM_run_107 (fun H locs hP hS => ?_)
          have hP : va_P D vwCl (wR cI cZ a ((rI, rC, rN), (rO, updB rG k false), (rW, rH, rF, rT), (rM, rB, rX), (rQ, rA), (rE, rD))) H := hP
          refine lv_iinc (v := nI (k + 1)) (lv' := [(3, .int (nI (k + 1))), (2, .int (nI t)), (0, .ref (a 0)), (1, .int (nI x))]) hx hb dRM_run_108 hl (k := 0) rfl (nI_1 k) (by decide) rfl (fun ls hl => ?_)
          refine lv_goto (tgt := 63) hx hb dRM_run_111 (by decide) ?_
          have e1 : QRM_run_63 rN rO (n + 1) k rG = QRM_run_63 rN rO n (k + 1) (updB rG k false) := by first | (simp only [QRM_run_63, cond_no c8, cond_yes c9, if_neg c10]; done) | (simp only [QRM_run_63, cond_no c8]; simp only [cond_yes c9]; simp only [if_neg c10])
          rw [e1] at hkk
          exact ih (k + 1) (updB rG k false) ls H locs (by omega)  hP hS (lv_sub hl [0, 1, 2, 3] rfl) hkk
        · refine lv_iconst (v := bi true) hx hb dRM_run_102 (by decide) ?_
          refine lv_goto (tgt := 107) hx hb dRM_run_103 (by decide) ?_
          refine ir_zast hx hb hK hP (hA _) hS 2 1 rfl rfl (k := k) (by omega) (by decide) dRM_run_107 (fun H locs hP hS => ?_)
          have hP : va_P D vwCl (wR cI cZ a ((rI, rC, rN), (rO, updB rG k true), (rW, rH, rF, rT), (rM, rB, rX), (rQ, rA), (rE, rD))) H := hP
          refine lv_iinc (v := nI (k + 1)) (lv' := [(3, .int (nI (k + 1))), (2, .int (nI t)), (0, .ref (a 0)), (1, .int (nI x))]) hx hb dRM_run_108 hl (k := 0) rfl (nI_1 k) (by decide) rfl (fun ls hl => ?_)
          refine lv_goto (tgt := 63) hx hb dRM_run_111 (by decide) ?_
          have e1 : QRM_run_63 rN rO (n + 1) k rG = QRM_run_63 rN rO n (k + 1) (updB rG k true) := by first | (simp only [QRM_run_63, cond_no c8, cond_yes c9, if_pos c10]; done) | (simp only [QRM_run_63, cond_no c8]; simp only [cond_yes c9]; simp only [if_pos c10])
          rw [e1] at hkk
          exact ih (k + 1) (updB rG k true) ls H locs (by omega)  hP hS (lv_sub hl [0, 1, 2, 3] rfl) hkk
def QRM_run_116 (rN : Int32) (rH : Nat → Int32) : Nat → Nat → (Nat → Int32) → (Nat → Bool) → (Nat → Int32) → (Nat → Int32) × (Nat → Bool) × (Nat → Int32)
  | 0, k, rW, rF, rT => (rW, rF, rT)
  | n + 1, k, rW, rF, rT => (if (rW k) < 0 then QRM_run_116 rN rH n (k + 1) rW rF rT else (if (rN - (rH k)) < 80 then QRM_run_116 rN rH n (k + 1) rW rF rT else QRM_run_116 rN rH n (k + 1) (upd rW k (-1)) (updB rF k false) (QRM_settleAll_2 k 64 0 rT)))
set_option maxHeartbeats 4000000 in
set_option maxRecDepth 100000 in
theorem lqRM_run_116 {p : Program} {l : Launch} {e : Env} {s : State} {m : MethodId} {args : Array Value} {below : List Frame} {meth : Method} {c : Code} {D : va_G} {cI cZ : ClassId} {a : Nat → Nat} {A : Nat → Prop} (hA : ∀ v : RS, va_D A (wR cI cZ a v)) (F : gFix p c cRM_run meth (some .int) m s args bigW RRM 4) (hK : va_K D vwCl (tyR cI cZ) s) (rI : Nat) (rC : Int32) (rN : Int32) (rO : Nat → Bool) (rG : Nat → Bool) (rH : Nat → Int32) (rM : Nat → Int32) (rB : Nat → Int32) (rX : Int32) (rQ : Nat) (rA : Nat → Int32) (rE : Nat → Int32) (rD : Int64) (t : Nat) {x : Nat} (hx1 : 1 ≤ x) (hx2 : x ≤ 2000) (Q : State → Prop) : ∀ (n k : Nat)  (rW : Nat → Int32) (rF : Nat → Bool) (rT : Nat → Int32) (ls : Array Slot) (H : Heap) (locs : List Loc), k + n = 16 → va_P D vwCl (wR cI cZ a ((rI, rC, rN), (rO, rG), (rW, rH, rF, rT), (rM, rB, rX), (rQ, rA), (rE, rD))) H → va_S A s.heap H locs → lv_has ls 4 [(3, .int (nI k)), (2, .int (nI t)), (0, .ref (a 0)), (1, .int (nI x))] → (∀ (ls : Array Slot) (H : Heap) (locs : List Loc), va_P D vwCl (wR cI cZ a ((rI, rC, rN), (rO, rG), ((QRM_run_116 rN rH n k rW rF rT).1, rH, (QRM_run_116 rN rH n k rW rF rT).2.1, (QRM_run_116 rN rH n k rW rF rT).2.2), (rM, rB, rX), (rQ, rA), (rE, rD))) H → va_S A s.heap H locs → lv_has ls 4 [(3, .int (nI 16)), (2, .int (nI t)), (0, .ref (a 0)), (1, .int (nI x))] → W p l e ({ frames := 2, cells := 0, slots := 0, locals := 43 }) s m args below meth c H locs 0 0 Q (F0 m 158 ls [])) → W p l e ({ frames := 2, cells := 0, slots := 0, locals := 43 }) s m args below meth c H locs 0 0 Q (F0 m 116 ls []) := by
  obtain ⟨hx, hb, hr, hml, hown, hts, hlocks⟩ := id F
  intro n
  induction n with
  | zero =>
    intro k rW rF rT ls H locs hkn  hP hS hl hkk
    refine lv_iload_n hx hb dRM_run_116 rfl (lv_at hl 0 rfl) ?_
    refine lv_bipush (v := nI 16) hx hb dRM_run_117 (by decide) ?_
    refine lv_icmp_ge (tgt := 158) hx hb dRM_run_119 (by decide) (fun _ => ?_) (fun c0 => absurd (nI_le (by omega) (by omega)) c0)
    obtain rfl : k = 16 := by omega
    exact hkk ls H locs hP hS (lv_sub hl [0, 1, 2, 3] rfl)
  | succ n ih =>
    intro k rW rF rT ls H locs hkn  hP hS hl hkk
    refine lv_iload_n hx hb dRM_run_116 rfl (lv_at hl 0 rfl) ?_
    refine lv_bipush (v := nI 16) hx hb dRM_run_117 (by decide) ?_
    refine lv_icmp_ge (tgt := 158) hx hb dRM_run_119 (by decide) (fun c0 => absurd c0 (nI_ge (by omega) (by omega))) (fun _ => ?_)
    refine lv_aload_n hx hb dRM_run_122 rfl (lv_at hl 2 rfl) ?_
    refine va_get (D := D) (ci := 5) (v := .ref (a 3)) (C := RRM) (T := TRM) (N := 16) hx hb hts inRM hown hK hP 0 rfl rfl 5 (by decide) (hts _ k580) (fun _ h9 => h9) rfl dRM_run_123 ?_
    refine lv_iload_n hx hb dRM_run_126 rfl (lv_at hl 0 rfl) ?_
    refine ir_iald hx hb hK hP 3 0 rfl rfl (k := k) (by omega) (by decide) dRM_run_127 ?_
    refine lv_if_lt (tgt := 152) hx hb dRM_run_128 (by decide) (fun c13 => ?_) (fun c13 => ?_)
    · refine lv_iinc (v := nI (k + 1)) (lv' := [(3, .int (nI (k + 1))), (2, .int (nI t)), (0, .ref (a 0)), (1, .int (nI x))]) hx hb dRM_run_152 hl (k := 0) rfl (nI_1 k) (by decide) rfl (fun ls hl => ?_)
      refine lv_goto (tgt := 116) hx hb dRM_run_155 (by decide) ?_
      have e1 : QRM_run_116 rN rH (n + 1) k rW rF rT = QRM_run_116 rN rH n (k + 1) rW rF rT := by simp only [QRM_run_116, if_pos c13]
      rw [e1] at hkk
      exact ih (k + 1) rW rF rT ls H locs (by omega)  hP hS (lv_sub hl [0, 1, 2, 3] rfl) hkk
    · refine lv_aload_n hx hb dRM_run_131 rfl (lv_at hl 2 rfl) ?_
      refine va_get (D := D) (ci := 5) (v := .int rN) (C := RRM) (T := TRM) (N := 16) hx hb hts inRM hown hK hP 0 rfl rfl 2 (by decide) (hts _ k577) (fun _ h9 => h9) rfl dRM_run_132 ?_
      refine lv_aload_n hx hb dRM_run_135 rfl (lv_at hl 2 rfl) ?_
      refine va_get (D := D) (ci := 5) (v := .ref (a 4)) (C := RRM) (T := TRM) (N := 16) hx hb hts inRM hown hK hP 0 rfl rfl 6 (by decide) (hts _ k581) (fun _ h9 => h9) rfl dRM_run_136 ?_
      refine lv_iload_n hx hb dRM_run_139 rfl (lv_at hl 0 rfl) ?_
      refine ir_iald hx hb hK hP 4 0 rfl rfl (k := k) (by omega) (by decide) dRM_run_140 ?_
      refine lv_isub hx hb dRM_run_141 ?_
      refine lv_bipush (v := 80) hx hb dRM_run_142 (by decide) ?_
      refine lv_icmp_lt (tgt := 152) hx hb dRM_run_144 (by decide) (fun c14 => ?_) (fun c14 => ?_)
      · refine lv_iinc (v := nI (k + 1)) (lv' := [(3, .int (nI (k + 1))), (2, .int (nI t)), (0, .ref (a 0)), (1, .int (nI x))]) hx hb dRM_run_152 hl (k := 0) rfl (nI_1 k) (by decide) rfl (fun ls hl => ?_)
        refine lv_goto (tgt := 116) hx hb dRM_run_155 (by decide) ?_
        have e1 : QRM_run_116 rN rH (n + 1) k rW rF rT = QRM_run_116 rN rH n (k + 1) rW rF rT := by first | (simp only [QRM_run_116, if_neg c13, if_pos c14]; done) | (simp only [QRM_run_116, if_neg c13]; simp only [if_pos c14])
        rw [e1] at hkk
        exact ih (k + 1) rW rF rT ls H locs (by omega)  hP hS (lv_sub hl [0, 1, 2, 3] rfl) hkk
      · refine lv_aload_n hx hb dRM_run_147 rfl (lv_at hl 2 rfl) ?_
        refine lv_iload_n hx hb dRM_run_148 rfl (lv_at hl 0 rfl) ?_
        refine g_callVv (As := [.int (nI k)]) (rest := []) ⟨hx, hb, hml, hown, hts⟩ (c_RM_remove l hA rI rC rN rO rG rW rH rF rT rM rB rX rQ rA rE rD k (by first | omega | assumption)) (cwV 1 hts (gw_V k636 k638 k17 k32 k639) rfl rfl rfl (by decide +kernel) ⟨Nat.le_of_ble_eq_true rfl, Nat.le_of_ble_eq_true rfl⟩) hK hP (va_recv hK hP (ci := 5) (q0 := 0) rfl rfl) rfl hl.1 rfl (Nat.le_of_ble_eq_true rfl) dRM_run_149 ⟨Nat.zero_le _, Nat.zero_le _⟩ (fun q h => h) hS (fun H locs hP hS => ?_)
        have hP : va_P D vwCl (wR cI cZ a ((rI, rC, rN), (rO, rG), (upd rW k (-1), rH, updB rF k false, QRM_settleAll_2 k 64 0 rT), (rM, rB, rX), (rQ, rA), (rE, rD))) H := hP
        refine lv_iinc (v := nI (k + 1)) (lv' := [(3, .int (nI (k + 1))), (2, .int (nI t)), (0, .ref (a 0)), (1, .int (nI x))]) hx hb dRM_run_152 hl (k := 0) rfl (nI_1 k) (by decide) rfl (fun ls hl => ?_)
        refine lv_goto (tgt := 116) hx hb dRM_run_155 (by decide) ?_
        have e1 : QRM_run_116 rN rH (n + 1) k rW rF rT = QRM_run_116 rN rH n (k + 1) (upd rW k (-1)) (updB rF k false) (QRM_settleAll_2 k 64 0 rT) := by first | (simp only [QRM_run_116, if_neg c13, if_neg c14]; done) | (simp only [QRM_run_116, if_neg c13]; simp only [if_neg c14])
        rw [e1] at hkk
        exact ih (k + 1) (upd rW k (-1)) (updB rF k false) (QRM_settleAll_2 k 64 0 rT) ls H locs (by omega)  hP hS (lv_sub hl [0, 1, 2, 3] rfl) hkk
def QRM_run_46 (rO : Nat → Bool) (rH : Nat → Int32) : Nat → Nat → (Int32) → (Nat → Bool) → (Nat → Int32) → (Nat → Bool) → (Nat → Int32) → Int32 × (Nat → Bool) × (Nat → Int32) × (Nat → Bool) × (Nat → Int32)
  | 0, k, rN, rG, rW, rF, rT => (rN, rG, rW, rF, rT)
  | n + 1, k, rN, rG, rW, rF, rT => QRM_run_46 rO rH n (k + 1) (rN + 1) (QRM_run_63 (rN + 1) rO 8 0 rG) ((QRM_run_116 (rN + 1) rH 16 0 rW rF rT).1) ((QRM_run_116 (rN + 1) rH 16 0 rW rF rT).2.1) ((QRM_run_116 (rN + 1) rH 16 0 rW rF rT).2.2)
set_option maxHeartbeats 4000000 in
set_option maxRecDepth 100000 in
theorem lqRM_run_46 {p : Program} {l : Launch} {e : Env} {s : State} {m : MethodId} {args : Array Value} {below : List Frame} {meth : Method} {c : Code} {D : va_G} {cI cZ : ClassId} {a : Nat → Nat} {A : Nat → Prop} (hA : ∀ v : RS, va_D A (wR cI cZ a v)) (F : gFix p c cRM_run meth (some .int) m s args bigW RRM 4) (hK : va_K D vwCl (tyR cI cZ) s) (rI : Nat) (rC : Int32) (rO : Nat → Bool) (rH : Nat → Int32) (rM : Nat → Int32) (rB : Nat → Int32) (rX : Int32) (rQ : Nat) (rA : Nat → Int32) (rE : Nat → Int32) (rD : Int64)  {x : Nat} (hx1 : 1 ≤ x) (hx2 : x ≤ 2000) (Q : State → Prop) : ∀ (n k : Nat)  (rN : Int32) (rG : Nat → Bool) (rW : Nat → Int32) (rF : Nat → Bool) (rT : Nat → Int32) (ls : Array Slot) (H : Heap) (locs : List Loc), k + n = x → va_P D vwCl (wR cI cZ a ((rI, rC, rN), (rO, rG), (rW, rH, rF, rT), (rM, rB, rX), (rQ, rA), (rE, rD))) H → va_S A s.heap H locs → lv_has ls 4 [(2, .int (nI k)), (0, .ref (a 0)), (1, .int (nI x))] → (∀ (ls : Array Slot) (H : Heap) (locs : List Loc), va_P D vwCl (wR cI cZ a ((rI, rC, (QRM_run_46 rO rH n k rN rG rW rF rT).1), (rO, (QRM_run_46 rO rH n k rN rG rW rF rT).2.1), ((QRM_run_46 rO rH n k rN rG rW rF rT).2.2.1, rH, (QRM_run_46 rO rH n k rN rG rW rF rT).2.2.2.1, (QRM_run_46 rO rH n k rN rG rW rF rT).2.2.2.2), (rM, rB, rX), (rQ, rA), (rE, rD))) H → va_S A s.heap H locs → lv_has ls 4 [(2, .int (nI x)), (0, .ref (a 0)), (1, .int (nI x))] → W p l e ({ frames := 2, cells := 0, slots := 0, locals := 43 }) s m args below meth c H locs 0 0 Q (F0 m 164 ls [])) → W p l e ({ frames := 2, cells := 0, slots := 0, locals := 43 }) s m args below meth c H locs 0 0 Q (F0 m 46 ls []) := by
  obtain ⟨hx, hb, hr, hml, hown, hts, hlocks⟩ := id F
  intro n
  induction n with
  | zero =>
    intro k rN rG rW rF rT ls H locs hkn  hP hS hl hkk
    refine lv_iload_n hx hb dRM_run_46 rfl (lv_at hl 0 rfl) ?_
    refine lv_iload_n hx hb dRM_run_47 rfl (lv_at hl 2 rfl) ?_
    refine lv_icmp_ge (tgt := 164) hx hb dRM_run_48 (by decide) (fun _ => ?_) (fun c0 => absurd (nI_le (by omega) (by omega)) c0)
    obtain rfl : k = x := by omega
    exact hkk ls H locs hP hS (lv_sub hl [0, 1, 2] rfl)
  | succ n ih =>
    intro k rN rG rW rF rT ls H locs hkn  hP hS hl hkk
    refine lv_iload_n hx hb dRM_run_46 rfl (lv_at hl 0 rfl) ?_
    refine lv_iload_n hx hb dRM_run_47 rfl (lv_at hl 2 rfl) ?_
    refine lv_icmp_ge (tgt := 164) hx hb dRM_run_48 (by decide) (fun c0 => absurd c0 (nI_ge (by omega) (by omega))) (fun _ => ?_)
    refine lv_aload_n hx hb dRM_run_51 rfl (lv_at hl 1 rfl) ?_
    refine lv_dup hx hb dRM_run_52 rfl ?_
    refine va_get (D := D) (ci := 5) (v := .int rN) (C := RRM) (T := TRM) (N := 16) hx hb hts inRM hown hK hP 0 rfl rfl 2 (by decide) (hts _ k577) (fun _ h9 => h9) rfl dRM_run_53 ?_
    refine lv_iconst (v := 1) hx hb dRM_run_56 (by decide) ?_
    refine lv_iadd hx hb dRM_run_57 ?_
    refine va_put (D := D) (ci := 5) (v := .int (rN + 1)) (ty := .int) (C := RRM) (T := TRM) (N := 16) hx hb hts inRM tyRM tyRM_ok nmRM hown hK hP (hA _) hS 0 rfl rfl 2 (by decide) (hts _ k577) (fun _ h9 => h9) rfl (by decide +kernel) rfl rfl (Nat.le_of_ble_eq_true rfl) dRM_run_58 (fun H locs hP _ hS => ?_)
    have hP : va_P D vwCl (wR cI cZ a ((rI, rC, rN + 1), (rO, rG), (rW, rH, rF, rT), (rM, rB, rX), (rQ, rA), (rE, rD))) H := hP
    refine lv_iconst (v := nI 0) hx hb dRM_run_61 (by decide) ?_
    refine lv_istore_n (lv' := [(3, .int (nI 0)), (2, .int (nI k)), (0, .ref (a 0)), (1, .int (nI x))]) hx hb dRM_run_62 rfl hl (by decide) rfl (fun ls hl => ?_)
    refine lqRM_run_63 hA F hK rI rC (rN + 1) rO rW rH rF rT rM rB rX rQ rA rE rD k (by first | omega | assumption) (by first | omega | assumption)  _ 8 0 rG ls H locs (by omega)  hP hS (lv_sub hl [0, 1, 2, 3] rfl) (fun ls H locs hP hS hl => ?_)
    have hP : va_P D vwCl (wR cI cZ a ((rI, rC, rN + 1), (rO, QRM_run_63 (rN + 1) rO 8 0 rG), (rW, rH, rF, rT), (rM, rB, rX), (rQ, rA), (rE, rD))) H := hP
    refine lv_iconst (v := nI 0) hx hb dRM_run_114 (by decide) ?_
    refine lv_istore_n (lv' := [(3, .int (nI 0)), (2, .int (nI k)), (0, .ref (a 0)), (1, .int (nI x))]) hx hb dRM_run_115 rfl hl (by decide) rfl (fun ls hl => ?_)
    refine lqRM_run_116 hA F hK rI rC (rN + 1) rO (QRM_run_63 (rN + 1) rO 8 0 rG) rH rM rB rX rQ rA rE rD k (by first | omega | assumption) (by first | omega | assumption)  _ 16 0 rW rF rT ls H locs (by omega)  hP hS (lv_sub hl [0, 1, 2, 3] rfl) (fun ls H locs hP hS hl => ?_)
    have hP : va_P D vwCl (wR cI cZ a ((rI, rC, rN + 1), (rO, QRM_run_63 (rN + 1) rO 8 0 rG), ((QRM_run_116 (rN + 1) rH 16 0 rW rF rT).1, rH, (QRM_run_116 (rN + 1) rH 16 0 rW rF rT).2.1, (QRM_run_116 (rN + 1) rH 16 0 rW rF rT).2.2), (rM, rB, rX), (rQ, rA), (rE, rD))) H := hP
    refine lv_iinc (v := nI (k + 1)) (lv' := [(2, .int (nI (k + 1))), (3, .int (nI 16)), (0, .ref (a 0)), (1, .int (nI x))]) hx hb dRM_run_158 hl (k := 1) rfl (nI_1 k) (by decide) rfl (fun ls hl => ?_)
    refine lv_goto (tgt := 46) hx hb dRM_run_161 (by decide) ?_
    have e1 : QRM_run_46 rO rH (n + 1) k rN rG rW rF rT = QRM_run_46 rO rH n (k + 1) (rN + 1) (QRM_run_63 (rN + 1) rO 8 0 rG) ((QRM_run_116 (rN + 1) rH 16 0 rW rF rT).1) ((QRM_run_116 (rN + 1) rH 16 0 rW rF rT).2.1) ((QRM_run_116 (rN + 1) rH 16 0 rW rF rT).2.2) := by simp only [QRM_run_46]
    rw [e1] at hkk
    exact ih (k + 1) (rN + 1) (QRM_run_63 (rN + 1) rO 8 0 rG) ((QRM_run_116 (rN + 1) rH 16 0 rW rF rT).1) ((QRM_run_116 (rN + 1) rH 16 0 rW rF rT).2.1) ((QRM_run_116 (rN + 1) rH 16 0 rW rF rT).2.2) ls H locs (by omega)  hP hS (lv_sub hl [0, 2, 3] rfl) hkk
set_option maxHeartbeats 4000000 in
set_option maxRecDepth 100000 in
theorem c_RM_run (l : Launch) {D : va_G} {cI cZ : ClassId} {a : Nat → Nat} {A : Nat → Prop} (hA : ∀ v : RS, va_D A (wR cI cZ a v)) (rI : Nat) (rC rN : Int32) (rO rG : Nat → Bool) (rW rH : Nat → Int32) (rF : Nat → Bool) (rT : Nat → Int32) (rM rB : Nat → Int32) (rX : Int32) (rQ : Nat) (rA : Nat → Int32) (rE : Nat → Int32) (rD : Int64) (x : Nat) (hx1 : 1 ≤ x) (hx2 : x ≤ 2000) (h3 : rN + nI x ≤ 1000000) : Met l yRM_run wsRM_run ({ frames := 2, cells := 0, slots := 0, locals := 43 }) (va_Pc [.ref (a 0), .int (nI x)] (gG D (tyR cI cZ) (wR cI cZ a) ((rI, rC, rN), (rO, rG), (rW, rH, rF, rT), (rM, rB, rX), (rQ, rA), (rE, rD)))) (va_Qi (fun (r : Int32) (u : RS) => r = (QRM_run_46 rO rH x 0 rN rG rW rF rT).1 ∧ u = ((rI, 0, (QRM_run_46 rO rH x 0 rN rG rW rF rT).1), (rO, (QRM_run_46 rO rH x 0 rN rG rW rF rT).2.1), ((QRM_run_46 rO rH x 0 rN rG rW rF rT).2.2.1, rH, (QRM_run_46 rO rH x 0 rN rG rW rF rT).2.2.2.1, (QRM_run_46 rO rH x 0 rN rG rW rF rT).2.2.2.2), (rM, rB, rX), (rQ, rA), (rE, rD))) (gG D (tyR cI cZ) (wR cI cZ a)) A) 0 0 A := by
  refine g_enter (by decide) rfl (Nat.le_of_ble_eq_true rfl) ?_
  intro p e s m below meth c ls F hK hP hl
  obtain ⟨hx, hb, hr, hml, hown, hts, hlocks⟩ := id F
  have hS : va_S A s.heap s.heap [] := va_S.rf
  have hl : lv_has ls 4 [(0, .ref (a 0)), (1, .int (nI x))] := hl
  refine lv_aload_n hx hb dRM_run_0 rfl (lv_at hl 0 rfl) ?_
  refine lv_iload_n hx hb dRM_run_1 rfl (lv_at hl 1 rfl) ?_
  refine lv_iconst (v := 1) hx hb dRM_run_2 (by decide) ?_
  refine lv_sipush (v := 2000) hx hb dRM_run_3 (by decide) ?_
  refine g_roSi (As := [.int (nI x), .int 1, .int 2000]) (rest := [.ref (a 0)]) ⟨hx, hb, hml, hown, hts⟩ (c_RM_in l rI rC rN rO rG rW rH rF rT rM rB rX rQ rA rE rD (nI x) 1 2000) (cw_S 3 hts k633 k634 k32 k635 rfl rfl rfl (by decide +kernel) ⟨Nat.le_of_ble_eq_true rfl, Nat.le_of_ble_eq_true rfl⟩) hK hP rfl hl.1 rfl (Nat.le_of_ble_eq_true rfl) dRM_run_6 ⟨Nat.zero_le _, Nat.zero_le _⟩ ?_
  refine lv_if_neb (tgt := 16) hx hb dRM_run_9 (by decide) (fun c1 => ?_) (fun c1 => absurd (c1.symm.trans (in_K1 (b := 2000) (by omega) (by decide))) (by decide))
  refine lv_aload_n hx hb dRM_run_16 rfl (lv_at hl 0 rfl) ?_
  refine va_get (D := D) (ci := 5) (v := .int rN) (C := RRM) (T := TRM) (N := 16) hx hb hts inRM hown hK hP 0 rfl rfl 2 (by decide) (hts _ k577) (fun _ h9 => h9) rfl dRM_run_17 ?_
  refine lv_iload_n hx hb dRM_run_20 rfl (lv_at hl 1 rfl) ?_
  refine lv_iadd hx hb dRM_run_21 ?_
  refine lv_ldc (v := 1000000) hx hb hown (hts _ k685) dRM_run_22 ?_
  refine lv_icmp_le (tgt := 31) hx hb dRM_run_24 (by decide) (fun c2 => ?_) (fun c2 => absurd h3 c2)
  refine lv_iconst (v := 0) hx hb dRM_run_31 (by decide) ?_
  refine va_put (D := D) (ci := 5) (v := .int 0) (ty := .int) (C := RRM) (T := TRM) (N := 16) hx hb hts inRM tyRM tyRM_ok nmRM hown hK hP (hA _) hS 0 rfl rfl 1 (by decide) (hts _ k576) (fun _ h9 => h9) rfl (by decide +kernel) rfl rfl (Nat.le_of_ble_eq_true rfl) dRM_run_32 (fun H locs hP _ hS => ?_)
  have hP : va_P D vwCl (wR cI cZ a ((rI, 0, rN), (rO, rG), (rW, rH, rF, rT), (rM, rB, rX), (rQ, rA), (rE, rD))) H := hP
  refine lv_aload_n hx hb dRM_run_35 rfl (lv_at hl 0 rfl) ?_
  refine va_get (D := D) (ci := 5) (v := .int 0) (C := RRM) (T := TRM) (N := 16) hx hb hts inRM hown hK hP 0 rfl rfl 1 (by decide) (hts _ k576) (fun _ h9 => h9) rfl dRM_run_36 ?_
  refine lv_if_le (tgt := 44) hx hb dRM_run_39 (by decide) (fun _ => ?_) (fun c0 => absurd (by decide) c0)
  refine lv_iconst (v := nI 0) hx hb dRM_run_44 (by decide) ?_
  refine lv_istore_n (lv' := [(2, .int (nI 0)), (0, .ref (a 0)), (1, .int (nI x))]) hx hb dRM_run_45 rfl hl (by decide) rfl (fun ls hl => ?_)
  refine lqRM_run_46 hA F hK rI 0 rO rH rM rB rX rQ rA rE rD  (by first | omega | assumption) (by first | omega | assumption)  _ x 0 rN rG rW rF rT ls H locs (by omega)  hP hS (lv_sub hl [0, 1, 2] rfl) (fun ls H locs hP hS hl => ?_)
  have hP : va_P D vwCl (wR cI cZ a ((rI, 0, (QRM_run_46 rO rH x 0 rN rG rW rF rT).1), (rO, (QRM_run_46 rO rH x 0 rN rG rW rF rT).2.1), ((QRM_run_46 rO rH x 0 rN rG rW rF rT).2.2.1, rH, (QRM_run_46 rO rH x 0 rN rG rW rF rT).2.2.2.1, (QRM_run_46 rO rH x 0 rN rG rW rF rT).2.2.2.2), (rM, rB, rX), (rQ, rA), (rE, rD))) H := hP
  refine lv_aload_n hx hb dRM_run_164 rfl (lv_at hl 1 rfl) ?_
  refine va_get (D := D) (ci := 5) (v := .int ((QRM_run_46 rO rH x 0 rN rG rW rF rT).1)) (C := RRM) (T := TRM) (N := 16) hx hb hts inRM hown hK hP 0 rfl rfl 2 (by decide) (hts _ k577) (fun _ h9 => h9) rfl dRM_run_165 ?_
  exact g_iret (v := ((rI, 0, (QRM_run_46 rO rH x 0 rN rG rW rF rT).1), (rO, (QRM_run_46 rO rH x 0 rN rG rW rF rT).2.1), ((QRM_run_46 rO rH x 0 rN rG rW rF rT).2.2.1, rH, (QRM_run_46 rO rH x 0 rN rG rW rF rT).2.2.2.1, (QRM_run_46 rO rH x 0 rN rG rW rF rT).2.2.2.2), (rM, rB, rX), (rQ, rA), (rE, rD))) hx hb hr hK hP hS ⟨rfl, rfl⟩ hlocks dRM_run_168
set_option maxHeartbeats 4000000 in
set_option maxRecDepth 100000 in
theorem c_RM_make (l : Launch) {D : va_G} {cI cZ : ClassId} {a : Nat → Nat} {A : Nat → Prop} (hA : ∀ v : RS, va_D A (wR cI cZ a v)) (rI : Nat) (rC rN : Int32) (rO rG : Nat → Bool) (rW rH : Nat → Int32) (rF : Nat → Bool) (rT : Nat → Int32) (rM rB : Nat → Int32) (rX : Int32) (rQ : Nat) (rA : Nat → Int32) (rE : Nat → Int32) (rD : Int64) (x : Int32) (y : Int32) (z : Int32) (x4 : Int32) (x5 : Int32) (x6 : Int32)  : Met l yRM_make wsRM_make ({ frames := 0, cells := 0, slots := 0, locals := 0 }) (va_Pc [.ref (a 0), .int x, .int y, .int z, .int x4, .int x5, .int x6] (gG D (tyR cI cZ) (wR cI cZ a) ((rI, rC, rN), (rO, rG), (rW, rH, rF, rT), (rM, rB, rX), (rQ, rA), (rE, rD)))) (va_Qv (fun u : RS => u = ((rI, rC, rN), (rO, rG), (rW, rH, rF, rT), (rM, rB, rX), (rQ, rA), (upd (upd (upd (upd (upd (upd rE 0 x) 1 y) 2 z) 3 x4) 4 x5) 5 x6, 0))) (gG D (tyR cI cZ) (wR cI cZ a)) A) 0 0 A := by
  refine g_enter (by decide) rfl (Nat.le_of_ble_eq_true rfl) ?_
  intro p e s m below meth c ls F hK hP hl
  obtain ⟨hx, hb, hr, hml, hown, hts, hlocks⟩ := id F
  have hS : va_S A s.heap s.heap [] := va_S.rf
  have hl : lv_has ls 7 [(0, .ref (a 0)), (1, .int x), (2, .int y), (3, .int z), (4, .int x4), (5, .int x5), (6, .int x6)] := hl
  refine lv_aload_n hx hb dRM_make_0 rfl (lv_at hl 0 rfl) ?_
  refine va_get (D := D) (ci := 5) (v := .ref (a 10)) (C := RRM) (T := TRM) (N := 16) hx hb hts inRM hown hK hP 0 rfl rfl 14 (by decide) (hts _ k589) (fun _ h9 => h9) rfl dRM_make_1 ?_
  refine lv_iconst (v := nI 0) hx hb dRM_make_4 (by decide) ?_
  refine lv_iload_n hx hb dRM_make_5 rfl (lv_at hl 1 rfl) ?_
  refine ir_iast hx hb hK hP (hA _) hS 10 0 rfl rfl (k := 0) (by omega) (by decide) dRM_make_6 (fun H locs hP hS => ?_)
  have hP : va_P D vwCl (wR cI cZ a ((rI, rC, rN), (rO, rG), (rW, rH, rF, rT), (rM, rB, rX), (rQ, rA), (upd rE 0 x, rD))) H := hP
  refine lv_aload_n hx hb dRM_make_7 rfl (lv_at hl 0 rfl) ?_
  refine va_get (D := D) (ci := 5) (v := .ref (a 10)) (C := RRM) (T := TRM) (N := 16) hx hb hts inRM hown hK hP 0 rfl rfl 14 (by decide) (hts _ k589) (fun _ h9 => h9) rfl dRM_make_8 ?_
  refine lv_iconst (v := nI 1) hx hb dRM_make_11 (by decide) ?_
  refine lv_iload_n hx hb dRM_make_12 rfl (lv_at hl 2 rfl) ?_
  refine ir_iast hx hb hK hP (hA _) hS 10 0 rfl rfl (k := 1) (by omega) (by decide) dRM_make_13 (fun H locs hP hS => ?_)
  have hP : va_P D vwCl (wR cI cZ a ((rI, rC, rN), (rO, rG), (rW, rH, rF, rT), (rM, rB, rX), (rQ, rA), (upd (upd rE 0 x) 1 y, rD))) H := hP
  refine lv_aload_n hx hb dRM_make_14 rfl (lv_at hl 0 rfl) ?_
  refine va_get (D := D) (ci := 5) (v := .ref (a 10)) (C := RRM) (T := TRM) (N := 16) hx hb hts inRM hown hK hP 0 rfl rfl 14 (by decide) (hts _ k589) (fun _ h9 => h9) rfl dRM_make_15 ?_
  refine lv_iconst (v := nI 2) hx hb dRM_make_18 (by decide) ?_
  refine lv_iload_n hx hb dRM_make_19 rfl (lv_at hl 3 rfl) ?_
  refine ir_iast hx hb hK hP (hA _) hS 10 0 rfl rfl (k := 2) (by omega) (by decide) dRM_make_20 (fun H locs hP hS => ?_)
  have hP : va_P D vwCl (wR cI cZ a ((rI, rC, rN), (rO, rG), (rW, rH, rF, rT), (rM, rB, rX), (rQ, rA), (upd (upd (upd rE 0 x) 1 y) 2 z, rD))) H := hP
  refine lv_aload_n hx hb dRM_make_21 rfl (lv_at hl 0 rfl) ?_
  refine va_get (D := D) (ci := 5) (v := .ref (a 10)) (C := RRM) (T := TRM) (N := 16) hx hb hts inRM hown hK hP 0 rfl rfl 14 (by decide) (hts _ k589) (fun _ h9 => h9) rfl dRM_make_22 ?_
  refine lv_iconst (v := nI 3) hx hb dRM_make_25 (by decide) ?_
  refine lv_iload hx hb dRM_make_26 (lv_at hl 4 rfl) ?_
  refine ir_iast hx hb hK hP (hA _) hS 10 0 rfl rfl (k := 3) (by omega) (by decide) dRM_make_28 (fun H locs hP hS => ?_)
  have hP : va_P D vwCl (wR cI cZ a ((rI, rC, rN), (rO, rG), (rW, rH, rF, rT), (rM, rB, rX), (rQ, rA), (upd (upd (upd (upd rE 0 x) 1 y) 2 z) 3 x4, rD))) H := hP
  refine lv_aload_n hx hb dRM_make_29 rfl (lv_at hl 0 rfl) ?_
  refine va_get (D := D) (ci := 5) (v := .ref (a 10)) (C := RRM) (T := TRM) (N := 16) hx hb hts inRM hown hK hP 0 rfl rfl 14 (by decide) (hts _ k589) (fun _ h9 => h9) rfl dRM_make_30 ?_
  refine lv_iconst (v := nI 4) hx hb dRM_make_33 (by decide) ?_
  refine lv_iload hx hb dRM_make_34 (lv_at hl 5 rfl) ?_
  refine ir_iast hx hb hK hP (hA _) hS 10 0 rfl rfl (k := 4) (by omega) (by decide) dRM_make_36 (fun H locs hP hS => ?_)
  have hP : va_P D vwCl (wR cI cZ a ((rI, rC, rN), (rO, rG), (rW, rH, rF, rT), (rM, rB, rX), (rQ, rA), (upd (upd (upd (upd (upd rE 0 x) 1 y) 2 z) 3 x4) 4 x5, rD))) H := hP
  refine lv_aload_n hx hb dRM_make_37 rfl (lv_at hl 0 rfl) ?_
  refine va_get (D := D) (ci := 5) (v := .ref (a 10)) (C := RRM) (T := TRM) (N := 16) hx hb hts inRM hown hK hP 0 rfl rfl 14 (by decide) (hts _ k589) (fun _ h9 => h9) rfl dRM_make_38 ?_
  refine lv_iconst (v := nI 5) hx hb dRM_make_41 (by decide) ?_
  refine lv_iload hx hb dRM_make_42 (lv_at hl 6 rfl) ?_
  refine ir_iast hx hb hK hP (hA _) hS 10 0 rfl rfl (k := 5) (by omega) (by decide) dRM_make_44 (fun H locs hP hS => ?_)
  have hP : va_P D vwCl (wR cI cZ a ((rI, rC, rN), (rO, rG), (rW, rH, rF, rT), (rM, rB, rX), (rQ, rA), (upd (upd (upd (upd (upd (upd rE 0 x) 1 y) 2 z) 3 x4) 4 x5) 5 x6, rD))) H := hP
  refine lv_aload_n hx hb dRM_make_45 rfl (lv_at hl 0 rfl) ?_
  refine lv_lconst (v := 0) hx hb dRM_make_46 (by decide) ?_
  refine va_put (D := D) (ci := 5) (v := .long 0) (ty := .long) (C := RRM) (T := TRM) (N := 16) hx hb hts inRM tyRM tyRM_ok nmRM hown hK hP (hA _) hS 0 rfl rfl 15 (by decide) (hts _ k590) (fun _ h9 => h9) rfl (by decide +kernel) rfl rfl (Nat.le_of_ble_eq_true rfl) dRM_make_47 (fun H locs hP _ hS => ?_)
  have hP : va_P D vwCl (wR cI cZ a ((rI, rC, rN), (rO, rG), (rW, rH, rF, rT), (rM, rB, rX), (rQ, rA), (upd (upd (upd (upd (upd (upd rE 0 x) 1 y) 2 z) 3 x4) 4 x5) 5 x6, 0))) H := hP
  exact g_vret (v := ((rI, rC, rN), (rO, rG), (rW, rH, rF, rT), (rM, rB, rX), (rQ, rA), (upd (upd (upd (upd (upd (upd rE 0 x) 1 y) 2 z) 3 x4) 4 x5) 5 x6, 0))) hx hb hr hK hP hS (rfl) hlocks dRM_make_50
def QRM_greet_19 (rW : Nat → Int32) (q : Nat) : Nat → Nat → (Int64) → Int64
  | 0, k, rD => rD
  | n + 1, k, rD => (if (rW k) < 0 then QRM_greet_19 rW q n (k + 1) (rD ||| 0) else (if ((rW k) / 64) = (nI q) then QRM_greet_19 rW q n (k + 1) (rD ||| (bW ((rW k) - (rW k) / (nI 64) * (nI 64)))) else QRM_greet_19 rW q n (k + 1) (rD ||| 0)))
set_option maxHeartbeats 4000000 in
set_option maxRecDepth 100000 in
theorem lqRM_greet_19 {p : Program} {l : Launch} {e : Env} {s : State} {m : MethodId} {args : Array Value} {below : List Frame} {meth : Method} {c : Code} {D : va_G} {cI cZ : ClassId} {a : Nat → Nat} {A : Nat → Prop} (hA : ∀ v : RS, va_D A (wR cI cZ a v)) (F : gFix p c cRM_greet meth (none) m s args bigW RRM 3) (hK : va_K D vwCl (tyR cI cZ) s) (rI : Nat) (rC : Int32) (rN : Int32) (rO : Nat → Bool) (rG : Nat → Bool) (rW : Nat → Int32) (rH : Nat → Int32) (rF : Nat → Bool) (rT : Nat → Int32) (rM : Nat → Int32) (rB : Nat → Int32) (rX : Int32) (rQ : Nat) (rA : Nat → Int32) (rE : Nat → Int32)  {q : Nat} (hq : q < 8) (Q : State → Prop) : ∀ (n k : Nat)  (rD : Int64) (ls : Array Slot) (H : Heap) (locs : List Loc), k + n = 16 → va_P D vwCl (wR cI cZ a ((rI, rC, rN), (rO, rG), (rW, rH, rF, rT), (rM, rB, rX), (rQ, rA), (rE, rD))) H → va_S A s.heap H locs → lv_has ls 3 [(2, .int (nI k)), (0, .ref (a 0)), (1, .int (nI q))] → (∀ (ls : Array Slot) (H : Heap) (locs : List Loc), va_P D vwCl (wR cI cZ a ((rI, rC, rN), (rO, rG), (rW, rH, rF, rT), (rM, rB, rX), (rQ, rA), (rE, QRM_greet_19 rW q n k rD))) H → va_S A s.heap H locs → lv_has ls 3 [(2, .int (nI 16)), (0, .ref (a 0)), (1, .int (nI q))] → W p l e ({ frames := 1, cells := 0, slots := 0, locals := 26 }) s m args below meth c H locs 0 0 Q (F0 m 77 ls [])) → W p l e ({ frames := 1, cells := 0, slots := 0, locals := 26 }) s m args below meth c H locs 0 0 Q (F0 m 19 ls []) := by
  obtain ⟨hx, hb, hr, hml, hown, hts, hlocks⟩ := id F
  intro n
  induction n with
  | zero =>
    intro k rD ls H locs hkn  hP hS hl hkk
    refine lv_iload_n hx hb dRM_greet_19 rfl (lv_at hl 0 rfl) ?_
    refine lv_bipush (v := nI 16) hx hb dRM_greet_20 (by decide) ?_
    refine lv_icmp_ge (tgt := 77) hx hb dRM_greet_22 (by decide) (fun _ => ?_) (fun c0 => absurd (nI_le (by omega) (by omega)) c0)
    obtain rfl : k = 16 := by omega
    exact hkk ls H locs hP hS (lv_sub hl [0, 1, 2] rfl)
  | succ n ih =>
    intro k rD ls H locs hkn  hP hS hl hkk
    refine lv_iload_n hx hb dRM_greet_19 rfl (lv_at hl 0 rfl) ?_
    refine lv_bipush (v := nI 16) hx hb dRM_greet_20 (by decide) ?_
    refine lv_icmp_ge (tgt := 77) hx hb dRM_greet_22 (by decide) (fun c0 => absurd c0 (nI_ge (by omega) (by omega))) (fun _ => ?_)
    refine lv_aload_n hx hb dRM_greet_25 rfl (lv_at hl 1 rfl) ?_
    refine lv_dup hx hb dRM_greet_26 rfl ?_
    refine va_get (D := D) (ci := 5) (v := .long rD) (C := RRM) (T := TRM) (N := 16) hx hb hts inRM hown hK hP 0 rfl rfl 15 (by decide) (hts _ k590) (fun _ h9 => h9) rfl dRM_greet_27 ?_
    refine lv_aload_n hx hb dRM_greet_30 rfl (lv_at hl 1 rfl) ?_
    refine va_get (D := D) (ci := 5) (v := .ref (a 3)) (C := RRM) (T := TRM) (N := 16) hx hb hts inRM hown hK hP 0 rfl rfl 5 (by decide) (hts _ k580) (fun _ h9 => h9) rfl dRM_greet_31 ?_
    refine lv_iload_n hx hb dRM_greet_34 rfl (lv_at hl 0 rfl) ?_
    refine ir_iald hx hb hK hP 3 0 rfl rfl (k := k) (by omega) (by decide) dRM_greet_35 ?_
    refine lv_if_lt (tgt := 66) hx hb dRM_greet_36 (by decide) (fun c3 => ?_) (fun c3 => ?_)
    · refine lv_lconst (v := 0) hx hb dRM_greet_66 (by decide) ?_
      refine lv_lor hx hb dRM_greet_67 ?_
      refine va_put (D := D) (ci := 5) (v := .long (rD ||| 0)) (ty := .long) (C := RRM) (T := TRM) (N := 16) hx hb hts inRM tyRM tyRM_ok nmRM hown hK hP (hA _) hS 0 rfl rfl 15 (by decide) (hts _ k590) (fun _ h9 => h9) rfl (by decide +kernel) rfl rfl (Nat.le_of_ble_eq_true rfl) dRM_greet_68 (fun H locs hP _ hS => ?_)
      have hP : va_P D vwCl (wR cI cZ a ((rI, rC, rN), (rO, rG), (rW, rH, rF, rT), (rM, rB, rX), (rQ, rA), (rE, rD ||| 0))) H := hP
      refine lv_iinc (v := nI (k + 1)) (lv' := [(2, .int (nI (k + 1))), (0, .ref (a 0)), (1, .int (nI q))]) hx hb dRM_greet_71 hl (k := 0) rfl (nI_1 k) (by decide) rfl (fun ls hl => ?_)
      refine lv_goto (tgt := 19) hx hb dRM_greet_74 (by decide) ?_
      have e1 : QRM_greet_19 rW q (n + 1) k rD = QRM_greet_19 rW q n (k + 1) (rD ||| 0) := by simp only [QRM_greet_19, if_pos c3]
      rw [e1] at hkk
      exact ih (k + 1) (rD ||| 0) ls H locs (by omega)  hP hS (lv_sub hl [0, 1, 2] rfl) hkk
    · refine lv_aload_n hx hb dRM_greet_39 rfl (lv_at hl 1 rfl) ?_
      refine va_get (D := D) (ci := 5) (v := .ref (a 3)) (C := RRM) (T := TRM) (N := 16) hx hb hts inRM hown hK hP 0 rfl rfl 5 (by decide) (hts _ k580) (fun _ h9 => h9) rfl dRM_greet_40 ?_
      refine lv_iload_n hx hb dRM_greet_43 rfl (lv_at hl 0 rfl) ?_
      refine ir_iald hx hb hK hP 3 0 rfl rfl (k := k) (by omega) (by decide) dRM_greet_44 ?_
      refine lv_bipush (v := 64) hx hb dRM_greet_45 (by decide) ?_
      refine lv_idiv hx hb dRM_greet_47 (by decide) ?_
      refine lv_iload_n hx hb dRM_greet_48 rfl (lv_at hl 2 rfl) ?_
      refine lv_icmp_ne (tgt := 66) hx hb dRM_greet_49 (by decide) (fun c4 => ?_) (fun c4 => ?_)
      · refine lv_lconst (v := 0) hx hb dRM_greet_66 (by decide) ?_
        refine lv_lor hx hb dRM_greet_67 ?_
        refine va_put (D := D) (ci := 5) (v := .long (rD ||| 0)) (ty := .long) (C := RRM) (T := TRM) (N := 16) hx hb hts inRM tyRM tyRM_ok nmRM hown hK hP (hA _) hS 0 rfl rfl 15 (by decide) (hts _ k590) (fun _ h9 => h9) rfl (by decide +kernel) rfl rfl (Nat.le_of_ble_eq_true rfl) dRM_greet_68 (fun H locs hP _ hS => ?_)
        have hP : va_P D vwCl (wR cI cZ a ((rI, rC, rN), (rO, rG), (rW, rH, rF, rT), (rM, rB, rX), (rQ, rA), (rE, rD ||| 0))) H := hP
        refine lv_iinc (v := nI (k + 1)) (lv' := [(2, .int (nI (k + 1))), (0, .ref (a 0)), (1, .int (nI q))]) hx hb dRM_greet_71 hl (k := 0) rfl (nI_1 k) (by decide) rfl (fun ls hl => ?_)
        refine lv_goto (tgt := 19) hx hb dRM_greet_74 (by decide) ?_
        have e1 : QRM_greet_19 rW q (n + 1) k rD = QRM_greet_19 rW q n (k + 1) (rD ||| 0) := by first | (simp only [QRM_greet_19, if_neg c3, if_neg c4]; done) | (simp only [QRM_greet_19, if_neg c3]; simp only [if_neg c4])
        rw [e1] at hkk
        exact ih (k + 1) (rD ||| 0) ls H locs (by omega)  hP hS (lv_sub hl [0, 1, 2] rfl) hkk
      · refine lv_lconst (v := 1) hx hb dRM_greet_52 (by decide) ?_
        refine lv_aload_n hx hb dRM_greet_53 rfl (lv_at hl 1 rfl) ?_
        refine va_get (D := D) (ci := 5) (v := .ref (a 3)) (C := RRM) (T := TRM) (N := 16) hx hb hts inRM hown hK hP 0 rfl rfl 5 (by decide) (hts _ k580) (fun _ h9 => h9) rfl dRM_greet_54 ?_
        refine lv_iload_n hx hb dRM_greet_57 rfl (lv_at hl 0 rfl) ?_
        refine ir_iald hx hb hK hP 3 0 rfl rfl (k := k) (by omega) (by decide) dRM_greet_58 ?_
        refine lv_bipush (v := nI 64) hx hb dRM_greet_59 (by decide) ?_
        refine lv_irem hx hb dRM_greet_61 (by decide) ?_
        refine lv_lshl (v := bW ((rW k) - (rW k) / (nI 64) * (nI 64))) hx hb dRM_greet_62 rfl ?_
        refine lv_goto (tgt := 67) hx hb dRM_greet_63 (by decide) ?_
        refine lv_lor hx hb dRM_greet_67 ?_
        refine va_put (D := D) (ci := 5) (v := .long (rD ||| (bW ((rW k) - (rW k) / (nI 64) * (nI 64))))) (ty := .long) (C := RRM) (T := TRM) (N := 16) hx hb hts inRM tyRM tyRM_ok nmRM hown hK hP (hA _) hS 0 rfl rfl 15 (by decide) (hts _ k590) (fun _ h9 => h9) rfl (by decide +kernel) rfl rfl (Nat.le_of_ble_eq_true rfl) dRM_greet_68 (fun H locs hP _ hS => ?_)
        have hP : va_P D vwCl (wR cI cZ a ((rI, rC, rN), (rO, rG), (rW, rH, rF, rT), (rM, rB, rX), (rQ, rA), (rE, rD ||| (bW ((rW k) - (rW k) / (nI 64) * (nI 64)))))) H := hP
        refine lv_iinc (v := nI (k + 1)) (lv' := [(2, .int (nI (k + 1))), (0, .ref (a 0)), (1, .int (nI q))]) hx hb dRM_greet_71 hl (k := 0) rfl (nI_1 k) (by decide) rfl (fun ls hl => ?_)
        refine lv_goto (tgt := 19) hx hb dRM_greet_74 (by decide) ?_
        have e1 : QRM_greet_19 rW q (n + 1) k rD = QRM_greet_19 rW q n (k + 1) (rD ||| (bW ((rW k) - (rW k) / (nI 64) * (nI 64)))) := by first | (simp only [QRM_greet_19, if_neg c3, if_pos c4]; done) | (simp only [QRM_greet_19, if_neg c3]; simp only [if_pos c4])
        rw [e1] at hkk
        exact ih (k + 1) (rD ||| (bW ((rW k) - (rW k) / (nI 64) * (nI 64)))) ls H locs (by omega)  hP hS (lv_sub hl [0, 1, 2] rfl) hkk
set_option maxHeartbeats 4000000 in
set_option maxRecDepth 100000 in
theorem c_RM_greet (l : Launch) {D : va_G} {cI cZ : ClassId} {a : Nat → Nat} {A : Nat → Prop} (hA : ∀ v : RS, va_D A (wR cI cZ a v)) (rI : Nat) (rC rN : Int32) (rO rG : Nat → Bool) (rW rH : Nat → Int32) (rF : Nat → Bool) (rT : Nat → Int32) (rM rB : Nat → Int32) (rX : Int32) (rQ : Nat) (rA : Nat → Int32) (rE : Nat → Int32) (rD : Int64) (q : Nat) (hq : q < 8) : Met l yRM_greet wsRM_greet ({ frames := 1, cells := 0, slots := 0, locals := 26 }) (va_Pc [.ref (a 0), .int (nI q)] (gG D (tyR cI cZ) (wR cI cZ a) ((rI, rC, rN), (rO, rG), (rW, rH, rF, rT), (rM, rB, rX), (rQ, rA), (rE, rD)))) (va_Qv (fun u : RS => u = ((rI, rC, rN), (rO, updB rG q false), (rW, rH, rF, rT), (rM, rB, rX), (rQ, rA), (upd (upd (upd (upd (upd (upd rE 0 1) 1 (nI q)) 2 (-1)) 3 (-1)) 4 0) 5 0, QRM_greet_19 rW q 16 0 0))) (gG D (tyR cI cZ) (wR cI cZ a)) A) 0 0 A := by
  refine g_enter (by decide) rfl (Nat.le_of_ble_eq_true rfl) ?_
  intro p e s m below meth c ls F hK hP hl
  obtain ⟨hx, hb, hr, hml, hown, hts, hlocks⟩ := id F
  have hS : va_S A s.heap s.heap [] := va_S.rf
  have hl : lv_has ls 3 [(0, .ref (a 0)), (1, .int (nI q))] := hl
  refine lv_aload_n hx hb dRM_greet_0 rfl (lv_at hl 0 rfl) ?_
  refine va_get (D := D) (ci := 5) (v := .ref (a 2)) (C := RRM) (T := TRM) (N := 16) hx hb hts inRM hown hK hP 0 rfl rfl 4 (by decide) (hts _ k579) (fun _ h9 => h9) rfl dRM_greet_1 ?_
  refine lv_iload_n hx hb dRM_greet_4 rfl (lv_at hl 1 rfl) ?_
  refine lv_iconst (v := bi false) hx hb dRM_greet_5 (by decide) ?_
  refine ir_zast hx hb hK hP (hA _) hS 2 1 rfl rfl (k := q) (by omega) (by decide) dRM_greet_6 (fun H locs hP hS => ?_)
  have hP : va_P D vwCl (wR cI cZ a ((rI, rC, rN), (rO, updB rG q false), (rW, rH, rF, rT), (rM, rB, rX), (rQ, rA), (rE, rD))) H := hP
  refine lv_aload_n hx hb dRM_greet_7 rfl (lv_at hl 0 rfl) ?_
  refine lv_iconst (v := 1) hx hb dRM_greet_8 (by decide) ?_
  refine lv_iload_n hx hb dRM_greet_9 rfl (lv_at hl 1 rfl) ?_
  refine lv_iconst (v := (-1)) hx hb dRM_greet_10 (by decide) ?_
  refine lv_iconst (v := (-1)) hx hb dRM_greet_11 (by decide) ?_
  refine lv_iconst (v := 0) hx hb dRM_greet_12 (by decide) ?_
  refine lv_iconst (v := 0) hx hb dRM_greet_13 (by decide) ?_
  refine g_callVv (As := [.int 1, .int (nI q), .int (-1), .int (-1), .int 0, .int 0]) (rest := []) ⟨hx, hb, hml, hown, hts⟩ (c_RM_make l hA rI rC rN rO (updB rG q false) rW rH rF rT rM rB rX rQ rA rE rD 1 (nI q) (-1) (-1) 0 0) (cwV 6 hts (gw_V k694 k696 k24 k32 k697) rfl rfl rfl (by decide +kernel) ⟨Nat.le_of_ble_eq_true rfl, Nat.le_of_ble_eq_true rfl⟩) hK hP (va_recv hK hP (ci := 5) (q0 := 0) rfl rfl) rfl hl.1 rfl (Nat.le_of_ble_eq_true rfl) dRM_greet_14 ⟨Nat.zero_le _, Nat.zero_le _⟩ (fun q h => h) hS (fun H locs hP hS => ?_)
  have hP : va_P D vwCl (wR cI cZ a ((rI, rC, rN), (rO, updB rG q false), (rW, rH, rF, rT), (rM, rB, rX), (rQ, rA), (upd (upd (upd (upd (upd (upd rE 0 1) 1 (nI q)) 2 (-1)) 3 (-1)) 4 0) 5 0, 0))) H := hP
  refine lv_iconst (v := nI 0) hx hb dRM_greet_17 (by decide) ?_
  refine lv_istore_n (lv' := [(2, .int (nI 0)), (0, .ref (a 0)), (1, .int (nI q))]) hx hb dRM_greet_18 rfl hl (by decide) rfl (fun ls hl => ?_)
  refine lqRM_greet_19 hA F hK rI rC rN rO (updB rG q false) rW rH rF rT rM rB rX rQ rA (upd (upd (upd (upd (upd (upd rE 0 1) 1 (nI q)) 2 (-1)) 3 (-1)) 4 0) 5 0)  (by first | omega | assumption)  _ 16 0 0 ls H locs (by omega)  hP hS (lv_sub hl [0, 1, 2] rfl) (fun ls H locs hP hS hl => ?_)
  have hP : va_P D vwCl (wR cI cZ a ((rI, rC, rN), (rO, updB rG q false), (rW, rH, rF, rT), (rM, rB, rX), (rQ, rA), (upd (upd (upd (upd (upd (upd rE 0 1) 1 (nI q)) 2 (-1)) 3 (-1)) 4 0) 5 0, QRM_greet_19 rW q 16 0 0))) H := hP
  exact g_vret (v := ((rI, rC, rN), (rO, updB rG q false), (rW, rH, rF, rT), (rM, rB, rX), (rQ, rA), (upd (upd (upd (upd (upd (upd rE 0 1) 1 (nI q)) 2 (-1)) 3 (-1)) 4 0) 5 0, QRM_greet_19 rW q 16 0 0))) hx hb hr hK hP hS (rfl) hlocks dRM_greet_77
