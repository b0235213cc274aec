def QRM_firstAdvert_13 (rN : Int32) (rW : Nat → Int32) (rT : Nat → Int32) (t : Nat) : Nat → Int32 → Int32
  | 0, f => f
  | k + 1, f => (if (rT ((64 * t) + k)) < 0 then QRM_firstAdvert_13 rN rW rT t k f else (if rN < (rT ((64 * t) + k)) then QRM_firstAdvert_13 rN rW rT t k f else (if f < 0 then QRM_firstAdvert_13 rN rW rT t k (((1024 * (rW t)) + (nI (64 * t))) + (nI k)) else (if f ≤ (((1024 * (rW t)) + (nI (64 * t))) + (nI k)) then QRM_firstAdvert_13 rN rW rT t k f else QRM_firstAdvert_13 rN rW rT t k (((1024 * (rW t)) + (nI (64 * t))) + (nI k))))))
set_option maxHeartbeats 4000000 in
set_option maxRecDepth 100000 in
theorem lqRM_firstAdvert_13 {p : Program} {l : Launch} {e : Env} {s : State} {m : MethodId} {args : Array Value} {below : List Frame} {meth : Method} {c : Code} {D : va_G} {cI cZ : ClassId} {a : Nat → Nat} {A : Nat → Prop} (hA : ∀ v : RS, va_D A (wR cI cZ a v)) (F : gFix p c cRM_firstAdvert meth (some .int) m s args bigW RRM 6) (hK : va_K D vwCl (tyR cI cZ) s) (rI : Nat) (rC : Int32) (rN : Int32) (rO : Nat → Bool) (rG : Nat → Bool) (rW : Nat → Int32) (rH : Nat → Int32) (rF : Nat → Bool) (rT : Nat → Int32) (rM : Nat → Int32) (rB : Nat → Int32) (rX : Int32) (rQ : Nat) (rA : Nat → Int32) (rE : Nat → Int32) (rD : Int64) (t : Nat)  (ht : t < 16) (Q : State → Prop) : ∀ (k : Nat) (f : Int32)  (ls : Array Slot) (H : Heap) (locs : List Loc), k ≤ 64 → va_P D vwCl (wR cI cZ a ((rI, rC, rN), (rO, rG), (rW, rH, rF, rT), (rM, rB, rX), (rQ, rA), (rE, rD))) H → va_S A s.heap H locs → lv_has ls 6 [(3, .int (dn k)), (2, .int (nI t)), (1, .int f), (0, .ref (a 0))] → (∀ (ls : Array Slot) (H : Heap) (locs : List Loc), va_P D vwCl (wR cI cZ a ((rI, rC, rN), (rO, rG), (rW, rH, rF, rT), (rM, rB, rX), (rQ, rA), (rE, rD))) H → va_S A s.heap H locs → lv_has ls 6 [(3, .int (-1)), (2, .int (nI t)), (1, .int (QRM_firstAdvert_13 rN rW rT t k f)), (0, .ref (a 0))] → W p l e ({ frames := 0, cells := 0, slots := 0, locals := 0 }) s m args below meth c H locs 0 0 Q (F0 m 103 ls [])) → W p l e ({ frames := 0, cells := 0, slots := 0, locals := 0 }) s m args below meth c H locs 0 0 Q (F0 m 13 ls []) := by
  obtain ⟨hx, hb, hr, hml, hown, hts, hlocks⟩ := id F
  intro k
  induction k with
  | zero =>
    intro f ls H locs hkn  hP hS hl hkk
    have hl : lv_has ls 6 [(3, .int (-1)), (2, .int (nI t)), (1, .int f), (0, .ref (a 0))] := hl
    refine lv_iload_n hx hb dRM_firstAdvert_13 rfl (lv_at hl 0 rfl) ?_
    refine lv_if_lt (tgt := 103) hx hb dRM_firstAdvert_14 (by decide) (fun _ => ?_) (fun c0 => absurd (by decide) c0)
    exact hkk ls H locs hP hS (lv_sub hl [0, 1, 2, 3] rfl)
  | succ k ih =>
    intro f ls H locs hkn  hP hS hl hkk
    have hl : lv_has ls 6 [(3, .int (nI k)), (2, .int (nI t)), (1, .int f), (0, .ref (a 0))] := hl
    refine lv_iload_n hx hb dRM_firstAdvert_13 rfl (lv_at hl 0 rfl) ?_
    refine lv_if_lt (tgt := 103) hx hb dRM_firstAdvert_14 (by decide) (fun c0 => absurd c0 (nI_pos (by omega))) (fun _ => ?_)
    refine lv_aload_n hx hb dRM_firstAdvert_17 rfl (lv_at hl 3 rfl) ?_
    refine va_get (D := D) (ci := 5) (v := .ref (a 6)) (C := RRM) (T := TRM) (N := 16) hx hb hts inRM hown hK hP 0 rfl rfl 8 (by decide) (hts _ k583) (fun _ h9 => h9) rfl dRM_firstAdvert_18 ?_
    refine lv_bipush (v := 64) hx hb dRM_firstAdvert_21 (by decide) ?_
    refine lv_iload_n hx hb dRM_firstAdvert_23 rfl (lv_at hl 1 rfl) ?_
    refine lv_imul hx hb dRM_firstAdvert_24 ?_
    refine lv_eqi (y := nI (64 * t)) (pk_mul 64 t) ?_
    refine lv_iload_n hx hb dRM_firstAdvert_25 rfl (lv_at hl 0 rfl) ?_
    refine lv_iadd hx hb dRM_firstAdvert_26 ?_
    refine lv_eqi (y := nI ((64 * t) + k)) (nI_add (64 * t) k) ?_
    refine ir_iald hx hb hK hP 6 0 rfl rfl (k := (64 * t) + k) (by omega) (by decide) dRM_firstAdvert_27 ?_
    refine lv_if_lt (tgt := 53) hx hb dRM_firstAdvert_28 (by decide) (fun c5 => ?_) (fun c5 => ?_)
    · refine lv_iconst (v := bi false) hx hb dRM_firstAdvert_53 (by decide) ?_
      refine lv_istore (lv' := [(4, .int (bi false)), (3, .int (nI k)), (2, .int (nI t)), (1, .int f), (0, .ref (a 0))]) hx hb dRM_firstAdvert_54 hl (by decide) rfl (fun ls hl => ?_)
      refine lv_sipush (v := 1024) hx hb dRM_firstAdvert_56 (by decide) ?_
      refine lv_aload_n hx hb dRM_firstAdvert_59 rfl (lv_at hl 4 rfl) ?_
      refine va_get (D := D) (ci := 5) (v := .ref (a 3)) (C := RRM) (T := TRM) (N := 16) hx hb hts inRM hown hK hP 0 rfl rfl 5 (by decide) (hts _ k580) (fun _ h9 => h9) rfl dRM_firstAdvert_60 ?_
      refine lv_iload_n hx hb dRM_firstAdvert_63 rfl (lv_at hl 2 rfl) ?_
      refine ir_iald hx hb hK hP 3 0 rfl rfl (k := t) (by omega) (by decide) dRM_firstAdvert_64 ?_
      refine lv_imul hx hb dRM_firstAdvert_65 ?_
      refine lv_bipush (v := 64) hx hb dRM_firstAdvert_66 (by decide) ?_
      refine lv_iload_n hx hb dRM_firstAdvert_68 rfl (lv_at hl 2 rfl) ?_
      refine lv_imul hx hb dRM_firstAdvert_69 ?_
      refine lv_eqi (y := nI (64 * t)) (pk_mul 64 t) ?_
      refine lv_iadd hx hb dRM_firstAdvert_70 ?_
      refine lv_iload_n hx hb dRM_firstAdvert_71 rfl (lv_at hl 1 rfl) ?_
      refine lv_iadd hx hb dRM_firstAdvert_72 ?_
      refine lv_istore (lv' := [(5, .int (((1024 * (rW t)) + (nI (64 * t))) + (nI k))), (4, .int (bi false)), (3, .int (nI k)), (2, .int (nI t)), (1, .int f), (0, .ref (a 0))]) hx hb dRM_firstAdvert_73 hl (by decide) rfl (fun ls hl => ?_)
      refine lv_iload hx hb dRM_firstAdvert_75 (lv_at hl 1 rfl) ?_
      refine lv_if_eqb (tgt := 95) hx hb dRM_firstAdvert_77 (by decide) (fun _ => ?_) (fun c6 => by cases c6)
      refine lv_iload_n hx hb dRM_firstAdvert_95 rfl (lv_at hl 4 rfl) ?_
      refine lv_istore_n (lv' := [(1, .int f), (5, .int (((1024 * (rW t)) + (nI (64 * t))) + (nI k))), (4, .int (bi false)), (3, .int (nI k)), (2, .int (nI t)), (0, .ref (a 0))]) hx hb dRM_firstAdvert_96 rfl hl (by decide) rfl (fun ls hl => ?_)
      refine lv_iinc (v := dn k) (lv' := [(3, .int (dn k)), (1, .int f), (5, .int (((1024 * (rW t)) + (nI (64 * t))) + (nI k))), (4, .int (bi false)), (2, .int (nI t)), (0, .ref (a 0))]) hx hb dRM_firstAdvert_97 hl (k := 3) rfl (dn_pred k) (by decide) rfl (fun ls hl => ?_)
      refine lv_goto (tgt := 13) hx hb dRM_firstAdvert_100 (by decide) ?_
      have e1 : QRM_firstAdvert_13 rN rW rT t (k + 1) f = QRM_firstAdvert_13 rN rW rT t k f := by simp only [QRM_firstAdvert_13, if_pos c5]
      rw [e1] at hkk
      exact ih  f ls H locs (by omega)  hP hS (lv_sub hl [0, 4, 1, 5] rfl) hkk
    · refine lv_aload_n hx hb dRM_firstAdvert_31 rfl (lv_at hl 3 rfl) ?_
      refine va_get (D := D) (ci := 5) (v := .ref (a 6)) (C := RRM) (T := TRM) (N := 16) hx hb hts inRM hown hK hP 0 rfl rfl 8 (by decide) (hts _ k583) (fun _ h9 => h9) rfl dRM_firstAdvert_32 ?_
      refine lv_bipush (v := 64) hx hb dRM_firstAdvert_35 (by decide) ?_
      refine lv_iload_n hx hb dRM_firstAdvert_37 rfl (lv_at hl 1 rfl) ?_
      refine lv_imul hx hb dRM_firstAdvert_38 ?_
      refine lv_eqi (y := nI (64 * t)) (pk_mul 64 t) ?_
      refine lv_iload_n hx hb dRM_firstAdvert_39 rfl (lv_at hl 0 rfl) ?_
      refine lv_iadd hx hb dRM_firstAdvert_40 ?_
      refine lv_eqi (y := nI ((64 * t) + k)) (nI_add (64 * t) k) ?_
      refine ir_iald hx hb hK hP 6 0 rfl rfl (k := (64 * t) + k) (by omega) (by decide) dRM_firstAdvert_41 ?_
      refine lv_aload_n hx hb dRM_firstAdvert_42 rfl (lv_at hl 3 rfl) ?_
      refine va_get (D := D) (ci := 5) (v := .int rN) (C := RRM) (T := TRM) (N := 16) hx hb hts inRM hown hK hP 0 rfl rfl 2 (by decide) (hts _ k577) (fun _ h9 => h9) rfl dRM_firstAdvert_43 ?_
      refine lv_icmp_gt (tgt := 53) hx hb dRM_firstAdvert_46 (by decide) (fun c7 => ?_) (fun c7 => ?_)
      · refine lv_iconst (v := bi false) hx hb dRM_firstAdvert_53 (by decide) ?_
        refine lv_istore (lv' := [(4, .int (bi false)), (3, .int (nI k)), (2, .int (nI t)), (1, .int f), (0, .ref (a 0))]) hx hb dRM_firstAdvert_54 hl (by decide) rfl (fun ls hl => ?_)
        refine lv_sipush (v := 1024) hx hb dRM_firstAdvert_56 (by decide) ?_
        refine lv_aload_n hx hb dRM_firstAdvert_59 rfl (lv_at hl 4 rfl) ?_
        refine va_get (D := D) (ci := 5) (v := .ref (a 3)) (C := RRM) (T := TRM) (N := 16) hx hb hts inRM hown hK hP 0 rfl rfl 5 (by decide) (hts _ k580) (fun _ h9 => h9) rfl dRM_firstAdvert_60 ?_
        refine lv_iload_n hx hb dRM_firstAdvert_63 rfl (lv_at hl 2 rfl) ?_
        refine ir_iald hx hb hK hP 3 0 rfl rfl (k := t) (by omega) (by decide) dRM_firstAdvert_64 ?_
        refine lv_imul hx hb dRM_firstAdvert_65 ?_
        refine lv_bipush (v := 64) hx hb dRM_firstAdvert_66 (by decide) ?_
        refine lv_iload_n hx hb dRM_firstAdvert_68 rfl (lv_at hl 2 rfl) ?_
        refine lv_imul hx hb dRM_firstAdvert_69 ?_
        refine lv_eqi (y := nI (64 * t)) (pk_mul 64 t) ?_
        refine lv_iadd hx hb dRM_firstAdvert_70 ?_
        refine lv_iload_n hx hb dRM_firstAdvert_71 rfl (lv_at hl 1 rfl) ?_
        refine lv_iadd hx hb dRM_firstAdvert_72 ?_
        refine lv_istore (lv' := [(5, .int (((1024 * (rW t)) + (nI (64 * t))) + (nI k))), (4, .int (bi false)), (3, .int (nI k)), (2, .int (nI t)), (1, .int f), (0, .ref (a 0))]) hx hb dRM_firstAdvert_73 hl (by decide) rfl (fun ls hl => ?_)
        refine lv_iload hx hb dRM_firstAdvert_75 (lv_at hl 1 rfl) ?_
        refine lv_if_eqb (tgt := 95) hx hb dRM_firstAdvert_77 (by decide) (fun _ => ?_) (fun c8 => by cases c8)
        refine lv_iload_n hx hb dRM_firstAdvert_95 rfl (lv_at hl 4 rfl) ?_
        refine lv_istore_n (lv' := [(1, .int f), (5, .int (((1024 * (rW t)) + (nI (64 * t))) + (nI k))), (4, .int (bi false)), (3, .int (nI k)), (2, .int (nI t)), (0, .ref (a 0))]) hx hb dRM_firstAdvert_96 rfl hl (by decide) rfl (fun ls hl => ?_)
        refine lv_iinc (v := dn k) (lv' := [(3, .int (dn k)), (1, .int f), (5, .int (((1024 * (rW t)) + (nI (64 * t))) + (nI k))), (4, .int (bi false)), (2, .int (nI t)), (0, .ref (a 0))]) hx hb dRM_firstAdvert_97 hl (k := 3) rfl (dn_pred k) (by decide) rfl (fun ls hl => ?_)
        refine lv_goto (tgt := 13) hx hb dRM_firstAdvert_100 (by decide) ?_
        have e1 : QRM_firstAdvert_13 rN rW rT t (k + 1) f = QRM_firstAdvert_13 rN rW rT t k f := by first | (simp only [QRM_firstAdvert_13, if_neg c5, if_pos c7]; done) | (simp only [QRM_firstAdvert_13, if_neg c5]; simp only [if_pos c7])
        rw [e1] at hkk
        exact ih  f ls H locs (by omega)  hP hS (lv_sub hl [0, 4, 1, 5] rfl) hkk
      · refine lv_iconst (v := bi true) hx hb dRM_firstAdvert_49 (by decide) ?_
        refine lv_goto (tgt := 54) hx hb dRM_firstAdvert_50 (by decide) ?_
        refine lv_istore (lv' := [(4, .int (bi true)), (3, .int (nI k)), (2, .int (nI t)), (1, .int f), (0, .ref (a 0))]) hx hb dRM_firstAdvert_54 hl (by decide) rfl (fun ls hl => ?_)
        refine lv_sipush (v := 1024) hx hb dRM_firstAdvert_56 (by decide) ?_
        refine lv_aload_n hx hb dRM_firstAdvert_59 rfl (lv_at hl 4 rfl) ?_
        refine va_get (D := D) (ci := 5) (v := .ref (a 3)) (C := RRM) (T := TRM) (N := 16) hx hb hts inRM hown hK hP 0 rfl rfl 5 (by decide) (hts _ k580) (fun _ h9 => h9) rfl dRM_firstAdvert_60 ?_
        refine lv_iload_n hx hb dRM_firstAdvert_63 rfl (lv_at hl 2 rfl) ?_
        refine ir_iald hx hb hK hP 3 0 rfl rfl (k := t) (by omega) (by decide) dRM_firstAdvert_64 ?_
        refine lv_imul hx hb dRM_firstAdvert_65 ?_
        refine lv_bipush (v := 64) hx hb dRM_firstAdvert_66 (by decide) ?_
        refine lv_iload_n hx hb dRM_firstAdvert_68 rfl (lv_at hl 2 rfl) ?_
        refine lv_imul hx hb dRM_firstAdvert_69 ?_
        refine lv_eqi (y := nI (64 * t)) (pk_mul 64 t) ?_
        refine lv_iadd hx hb dRM_firstAdvert_70 ?_
        refine lv_iload_n hx hb dRM_firstAdvert_71 rfl (lv_at hl 1 rfl) ?_
        refine lv_iadd hx hb dRM_firstAdvert_72 ?_
        refine lv_istore (lv' := [(5, .int (((1024 * (rW t)) + (nI (64 * t))) + (nI k))), (4, .int (bi true)), (3, .int (nI k)), (2, .int (nI t)), (1, .int f), (0, .ref (a 0))]) hx hb dRM_firstAdvert_73 hl (by decide) rfl (fun ls hl => ?_)
        refine lv_iload hx hb dRM_firstAdvert_75 (lv_at hl 1 rfl) ?_
        refine lv_if_eqb (tgt := 95) hx hb dRM_firstAdvert_77 (by decide) (fun c9 => by cases c9) (fun _ => ?_)
        refine lv_iload_n hx hb dRM_firstAdvert_80 rfl (lv_at hl 4 rfl) ?_
        refine lv_if_lt (tgt := 90) hx hb dRM_firstAdvert_81 (by decide) (fun c10 => ?_) (fun c10 => ?_)
        · refine lv_iload hx hb dRM_firstAdvert_90 (lv_at hl 0 rfl) ?_
          refine lv_goto (tgt := 96) hx hb dRM_firstAdvert_92 (by decide) ?_
          refine lv_istore_n (lv' := [(1, .int (((1024 * (rW t)) + (nI (64 * t))) + (nI k))), (5, .int (((1024 * (rW t)) + (nI (64 * t))) + (nI k))), (4, .int (bi true)), (3, .int (nI k)), (2, .int (nI t)), (0, .ref (a 0))]) hx hb dRM_firstAdvert_96 rfl hl (by decide) rfl (fun ls hl => ?_)
          refine lv_iinc (v := dn k) (lv' := [(3, .int (dn k)), (1, .int (((1024 * (rW t)) + (nI (64 * t))) + (nI k))), (5, .int (((1024 * (rW t)) + (nI (64 * t))) + (nI k))), (4, .int (bi true)), (2, .int (nI t)), (0, .ref (a 0))]) hx hb dRM_firstAdvert_97 hl (k := 3) rfl (dn_pred k) (by decide) rfl (fun ls hl => ?_)
          refine lv_goto (tgt := 13) hx hb dRM_firstAdvert_100 (by decide) ?_
          have e1 : QRM_firstAdvert_13 rN rW rT t (k + 1) f = QRM_firstAdvert_13 rN rW rT t k (((1024 * (rW t)) + (nI (64 * t))) + (nI k)) := by first | (simp only [QRM_firstAdvert_13, if_neg c5, if_neg c7, if_pos c10]; done) | (simp only [QRM_firstAdvert_13, if_neg c5]; simp only [if_neg c7]; simp only [if_pos c10])
          rw [e1] at hkk
          exact ih  (((1024 * (rW t)) + (nI (64 * t))) + (nI k)) ls H locs (by omega)  hP hS (lv_sub hl [0, 4, 1, 5] rfl) hkk
        · refine lv_iload hx hb dRM_firstAdvert_84 (lv_at hl 0 rfl) ?_
          refine lv_iload_n hx hb dRM_firstAdvert_86 rfl (lv_at hl 4 rfl) ?_
          refine lv_icmp_ge (tgt := 95) hx hb dRM_firstAdvert_87 (by decide) (fun c11 => ?_) (fun c11 => ?_)
          · refine lv_iload_n hx hb dRM_firstAdvert_95 rfl (lv_at hl 4 rfl) ?_
            refine lv_istore_n (lv' := [(1, .int f), (5, .int (((1024 * (rW t)) + (nI (64 * t))) + (nI k))), (4, .int (bi true)), (3, .int (nI k)), (2, .int (nI t)), (0, .ref (a 0))]) hx hb dRM_firstAdvert_96 rfl hl (by decide) rfl (fun ls hl => ?_)
            refine lv_iinc (v := dn k) (lv' := [(3, .int (dn k)), (1, .int f), (5, .int (((1024 * (rW t)) + (nI (64 * t))) + (nI k))), (4, .int (bi true)), (2, .int (nI t)), (0, .ref (a 0))]) hx hb dRM_firstAdvert_97 hl (k := 3) rfl (dn_pred k) (by decide) rfl (fun ls hl => ?_)
            refine lv_goto (tgt := 13) hx hb dRM_firstAdvert_100 (by decide) ?_
            have e1 : QRM_firstAdvert_13 rN rW rT t (k + 1) f = QRM_firstAdvert_13 rN rW rT t k f := by first | (simp only [QRM_firstAdvert_13, if_neg c5, if_neg c7, if_neg c10, if_pos c11]; done) | (simp only [QRM_firstAdvert_13, if_neg c5]; simp only [if_neg c7]; simp only [if_neg c10]; simp only [if_pos c11])
            rw [e1] at hkk
            exact ih  f ls H locs (by omega)  hP hS (lv_sub hl [0, 4, 1, 5] rfl) hkk
          · refine lv_iload hx hb dRM_firstAdvert_90 (lv_at hl 0 rfl) ?_
            refine lv_goto (tgt := 96) hx hb dRM_firstAdvert_92 (by decide) ?_
            refine lv_istore_n (lv' := [(1, .int (((1024 * (rW t)) + (nI (64 * t))) + (nI k))), (5, .int (((1024 * (rW t)) + (nI (64 * t))) + (nI k))), (4, .int (bi true)), (3, .int (nI k)), (2, .int (nI t)), (0, .ref (a 0))]) hx hb dRM_firstAdvert_96 rfl hl (by decide) rfl (fun ls hl => ?_)
            refine lv_iinc (v := dn k) (lv' := [(3, .int (dn k)), (1, .int (((1024 * (rW t)) + (nI (64 * t))) + (nI k))), (5, .int (((1024 * (rW t)) + (nI (64 * t))) + (nI k))), (4, .int (bi true)), (2, .int (nI t)), (0, .ref (a 0))]) hx hb dRM_firstAdvert_97 hl (k := 3) rfl (dn_pred k) (by decide) rfl (fun ls hl => ?_)
            refine lv_goto (tgt := 13) hx hb dRM_firstAdvert_100 (by decide) ?_
            have e1 : QRM_firstAdvert_13 rN rW rT t (k + 1) f = QRM_firstAdvert_13 rN rW rT t k (((1024 * (rW t)) + (nI (64 * t))) + (nI k)) := by first | (simp only [QRM_firstAdvert_13, if_neg c5, if_neg c7, if_neg c10, if_neg c11]; done) | (simp only [QRM_firstAdvert_13, if_neg c5]; simp only [if_neg c7]; simp only [if_neg c10]; simp only [if_neg c11])
            rw [e1] at hkk
            exact ih  (((1024 * (rW t)) + (nI (64 * t))) + (nI k)) ls H locs (by omega)  hP hS (lv_sub hl [0, 4, 1, 5] rfl) hkk
def QRM_firstAdvert_4 (rN : Int32) (rW : Nat → Int32) (rT : Nat → Int32) : Nat → Nat → Int32 → Int32
  | 0, k, f => f
  | n + 1, k, f => QRM_firstAdvert_4 rN rW rT n (k + 1) (QRM_firstAdvert_13 rN rW rT k 64 f)
set_option maxHeartbeats 4000000 in
set_option maxRecDepth 100000 in
theorem lqRM_firstAdvert_4 {p : Program} {l : Launch} {e : Env} {s : State} {m : MethodId} {args : Array Value} {below : List Frame} {meth : Method} {c : Code} {D : va_G} {cI cZ : ClassId} {a : Nat → Nat} {A : Nat → Prop} (hA : ∀ v : RS, va_D A (wR cI cZ a v)) (F : gFix p c cRM_firstAdvert meth (some .int) m s args bigW RRM 6) (hK : va_K D vwCl (tyR cI cZ) s) (rI : Nat) (rC : Int32) (rN : Int32) (rO : Nat → Bool) (rG : Nat → Bool) (rW : Nat → Int32) (rH : Nat → Int32) (rF : Nat → Bool) (rT : Nat → Int32) (rM : Nat → Int32) (rB : Nat → Int32) (rX : Int32) (rQ : Nat) (rA : Nat → Int32) (rE : Nat → Int32) (rD : Int64)    (Q : State → Prop) : ∀ (n k : Nat) (f : Int32)  (ls : Array Slot) (H : Heap) (locs : List Loc), k + n = 16 → va_P D vwCl (wR cI cZ a ((rI, rC, rN), (rO, rG), (rW, rH, rF, rT), (rM, rB, rX), (rQ, rA), (rE, rD))) H → va_S A s.heap H locs → lv_has ls 6 [(2, .int (nI k)), (1, .int f), (0, .ref (a 0))] → (∀ (ls : Array Slot) (H : Heap) (locs : List Loc), va_P D vwCl (wR cI cZ a ((rI, rC, rN), (rO, rG), (rW, rH, rF, rT), (rM, rB, rX), (rQ, rA), (rE, rD))) H → va_S A s.heap H locs → lv_has ls 6 [(2, .int (nI 16)), (1, .int (QRM_firstAdvert_4 rN rW rT n k f)), (0, .ref (a 0))] → W p l e ({ frames := 0, cells := 0, slots := 0, locals := 0 }) s m args below meth c H locs 0 0 Q (F0 m 109 ls [])) → W p l e ({ frames := 0, cells := 0, slots := 0, locals := 0 }) s m args below meth c H locs 0 0 Q (F0 m 4 ls []) := by
  obtain ⟨hx, hb, hr, hml, hown, hts, hlocks⟩ := id F
  intro n
  induction n with
  | zero =>
    intro k f ls H locs hkn  hP hS hl hkk
    refine lv_iload_n hx hb dRM_firstAdvert_4 rfl (lv_at hl 0 rfl) ?_
    refine lv_bipush (v := nI 16) hx hb dRM_firstAdvert_5 (by decide) ?_
    refine lv_icmp_ge (tgt := 109) hx hb dRM_firstAdvert_7 (by decide) (fun _ => ?_) (fun c0 => absurd (nI_le (by omega) (by omega)) c0)
    obtain rfl : k = 16 := by omega
    exact hkk ls H locs hP hS (lv_sub hl [0, 1, 2] rfl)
  | succ n ih =>
    intro k f ls H locs hkn  hP hS hl hkk
    refine lv_iload_n hx hb dRM_firstAdvert_4 rfl (lv_at hl 0 rfl) ?_
    refine lv_bipush (v := nI 16) hx hb dRM_firstAdvert_5 (by decide) ?_
    refine lv_icmp_ge (tgt := 109) hx hb dRM_firstAdvert_7 (by decide) (fun c0 => absurd c0 (nI_ge (by omega) (by omega))) (fun _ => ?_)
    refine lv_bipush (v := nI 63) hx hb dRM_firstAdvert_10 (by decide) ?_
    refine lv_istore_n (lv' := [(3, .int (nI 63)), (2, .int (nI k)), (1, .int f), (0, .ref (a 0))]) hx hb dRM_firstAdvert_12 rfl hl (by decide) rfl (fun ls hl => ?_)
    refine lqRM_firstAdvert_13 hA F hK rI rC rN rO rG rW rH rF rT rM rB rX rQ rA rE rD k  (by first | omega | assumption) _ 64  f ls H locs (by omega)  hP hS (lv_sub hl [0, 1, 2, 3] rfl) (fun ls H locs hP hS hl => ?_)
    have hP : va_P D vwCl (wR cI cZ a ((rI, rC, rN), (rO, rG), (rW, rH, rF, rT), (rM, rB, rX), (rQ, rA), (rE, rD))) H := hP
    refine lv_iinc (v := nI (k + 1)) (lv' := [(2, .int (nI (k + 1))), (3, .int (-1)), (1, .int (QRM_firstAdvert_13 rN rW rT k 64 f)), (0, .ref (a 0))]) hx hb dRM_firstAdvert_103 hl (k := 1) rfl (nI_1 k) (by decide) rfl (fun ls hl => ?_)
    refine lv_goto (tgt := 4) hx hb dRM_firstAdvert_106 (by decide) ?_
    have e1 : QRM_firstAdvert_4 rN rW rT (n + 1) k f = QRM_firstAdvert_4 rN rW rT n (k + 1) (QRM_firstAdvert_13 rN rW rT k 64 f) := by simp only [QRM_firstAdvert_4]
    rw [e1] at hkk
    exact ih (k + 1) (QRM_firstAdvert_13 rN rW rT k 64 f) ls H locs (by omega)  hP hS (lv_sub hl [0, 2, 3] rfl) hkk
set_option maxHeartbeats 4000000 in
set_option maxRecDepth 100000 in
theorem c_RM_firstAdvert (l : Launch) {D : va_G} {cI cZ : ClassId} {a : Nat → Nat} {A : Nat → Prop} (hA : ∀ v : RS, va_D A (wR cI cZ a v)) (rI : Nat) (rC rN : Int32) (rO rG : Nat → Bool) (rW rH : Nat → Int32) (rF : Nat → Bool) (rT : Nat → Int32) (rM rB : Nat → Int32) (rX : Int32) (rQ : Nat) (rA : Nat → Int32) (rE : Nat → Int32) (rD : Int64)   : Met l yRM_firstAdvert wsRM_firstAdvert ({ frames := 0, cells := 0, slots := 0, locals := 0 }) (va_Pc [.ref (a 0)] (gG D (tyR cI cZ) (wR cI cZ a) ((rI, rC, rN), (rO, rG), (rW, rH, rF, rT), (rM, rB, rX), (rQ, rA), (rE, rD)))) (va_Qi (fun (r : Int32) (u : RS) => r = QRM_firstAdvert_4 rN rW rT 16 0 (-1) ∧ u = ((rI, rC, rN), (rO, rG), (rW, rH, rF, rT), (rM, rB, rX), (rQ, rA), (rE, rD))) (gG D (tyR cI cZ) (wR cI cZ a)) A) 0 0 A := by
  refine g_enter (by decide) rfl (Nat.le_of_ble_eq_true rfl) ?_
  intro p e s m below meth c ls F hK hP hl
  obtain ⟨hx, hb, hr, hml, hown, hts, hlocks⟩ := id F
  have hS : va_S A s.heap s.heap [] := va_S.rf
  have hl : lv_has ls 6 [(0, .ref (a 0))] := hl
  refine lv_iconst (v := (-1)) hx hb dRM_firstAdvert_0 (by decide) ?_
  refine lv_istore_n (lv' := [(1, .int (-1)), (0, .ref (a 0))]) hx hb dRM_firstAdvert_1 rfl hl (by decide) rfl (fun ls hl => ?_)
  refine lv_iconst (v := nI 0) hx hb dRM_firstAdvert_2 (by decide) ?_
  refine lv_istore_n (lv' := [(2, .int (nI 0)), (1, .int (-1)), (0, .ref (a 0))]) hx hb dRM_firstAdvert_3 rfl hl (by decide) rfl (fun ls hl => ?_)
  refine lqRM_firstAdvert_4 hA F hK rI rC rN rO rG rW rH rF rT rM rB rX rQ rA rE rD    _ 16 0 (-1) ls s.heap [] (by omega)  hP hS (lv_sub hl [0, 1, 2] rfl) (fun ls H locs hP hS hl => ?_)
  have hP : va_P D vwCl (wR cI cZ a ((rI, rC, rN), (rO, rG), (rW, rH, rF, rT), (rM, rB, rX), (rQ, rA), (rE, rD))) H := hP
  refine lv_iload_n hx hb dRM_firstAdvert_109 rfl (lv_at hl 1 rfl) ?_
  exact g_iret (v := ((rI, rC, rN), (rO, rG), (rW, rH, rF, rT), (rM, rB, rX), (rQ, rA), (rE, rD))) hx hb hr hK hP hS ⟨rfl, rfl⟩ hlocks dRM_firstAdvert_110
def QRM_next_7 (rG : Nat → Bool) : Nat → Nat → Option Nat
  | 0, k => none
  | n + 1, k => (cond (rG k) (some k) (QRM_next_7 rG n (k + 1)))
set_option maxHeartbeats 4000000 in
set_option maxRecDepth 100000 in
theorem lqRM_next_7 {p : Program} {l : Launch} {e : Env} {s : State} {m : MethodId} {args : Array Value} {below : List Frame} {meth : Method} {c : Code} {D : va_G} {cI cZ : ClassId} {a : Nat → Nat} {A : Nat → Prop} (hA : ∀ v : RS, va_D A (wR cI cZ a v)) (F : gFix p c cRM_next meth (some .boolean) m s args bigW RRM 4) (hK : va_K D vwCl (tyR cI cZ) s) (rI : Nat) (rC : Int32) (rN : Int32) (rO : Nat → Bool) (rG : Nat → Bool) (rW : Nat → Int32) (rH : Nat → Int32) (rF : Nat → Bool) (rT : Nat → Int32) (rM : Nat → Int32) (rB : Nat → Int32) (rX : Int32) (rQ : Nat) (rA : Nat → Int32) (rE : Nat → Int32) (rD : Int64)   (hQ : rQ ≤ 64) (Q : State → Prop) : ∀ (n k : Nat)   (ls : Array Slot) (H : Heap) (locs : List Loc), k + n = 8 → va_P D vwCl (wR cI cZ a ((rI, rC, rN), (rO, rG), (rW, rH, rF, rT), (rM, rB, rX), (rQ, rA), (rE, rD))) H → va_S A s.heap H locs → lv_has ls 4 [(1, .int (nI k)), (0, .ref (a 0))] → (∀ (ls : Array Slot) (H : Heap) (locs : List Loc), QRM_next_7 rG n k = none → va_P D vwCl (wR cI cZ a ((rI, rC, rN), (rO, rG), (rW, rH, rF, rT), (rM, rB, rX), (rQ, rA), (rE, rD))) H → va_S A s.heap H locs → lv_has ls 4 [(1, .int (nI 8)), (0, .ref (a 0))] → W p l e ({ frames := 2, cells := 0, slots := 0, locals := 48 }) s m args below meth c H locs 0 0 Q (F0 m 35 ls [])) → (∀ (kb : Nat), kb < 8 → ∀ (ls : Array Slot) (H : Heap) (locs : List Loc), QRM_next_7 rG n k = some kb → va_P D vwCl (wR cI cZ a ((rI, rC, rN), (rO, rG), (rW, rH, rF, rT), (rM, rB, rX), (rQ, rA), (rE, rD))) H → va_S A s.heap H locs → lv_has ls 4 [(1, .int (nI kb)), (0, .ref (a 0))] → W p l e ({ frames := 2, cells := 0, slots := 0, locals := 48 }) s m args below meth c H locs 0 0 Q (F0 m 22 ls [])) → W p l e ({ frames := 2, cells := 0, slots := 0, locals := 48 }) s m args below meth c H locs 0 0 Q (F0 m 7 ls []) := by
  obtain ⟨hx, hb, hr, hml, hown, hts, hlocks⟩ := id F
  intro n
  induction n with
  | zero =>
    intro k  ls H locs hkn  hP hS hl hkk hbk
    refine lv_iload_n hx hb dRM_next_7 rfl (lv_at hl 0 rfl) ?_
    refine lv_bipush (v := nI 8) hx hb dRM_next_8 (by decide) ?_
    refine lv_icmp_ge (tgt := 35) hx hb dRM_next_10 (by decide) (fun _ => ?_) (fun c0 => absurd (nI_le (by omega) (by omega)) c0)
    obtain rfl : k = 8 := by omega
    exact hkk ls H locs (by simp only [QRM_next_7]) hP hS (lv_sub hl [0, 1] rfl)
  | succ n ih =>
    intro k  ls H locs hkn  hP hS hl hkk hbk
    refine lv_iload_n hx hb dRM_next_7 rfl (lv_at hl 0 rfl) ?_
    refine lv_bipush (v := nI 8) hx hb dRM_next_8 (by decide) ?_
    refine lv_icmp_ge (tgt := 35) hx hb dRM_next_10 (by decide) (fun c0 => absurd c0 (nI_ge (by omega) (by omega))) (fun _ => ?_)
    refine lv_aload_n hx hb dRM_next_13 rfl (lv_at hl 1 rfl) ?_
    refine va_get (D := D) (ci := 5) (v := .ref (a 2)) (C := RRM) (T := TRM) (N := 16) hx hb hts inRM hown hK hP 0 rfl rfl 4 (by decide) (hts _ k579) (fun _ h9 => h9) rfl dRM_next_14 ?_
    refine lv_iload_n hx hb dRM_next_17 rfl (lv_at hl 0 rfl) ?_
    refine ir_zald hx hb hK hP 2 1 rfl rfl (k := k) (by omega) (by decide) dRM_next_18 ?_
    refine lv_if_eqb (tgt := 29) hx hb dRM_next_19 (by decide) (fun c3 => ?_) (fun c3 => ?_)
    · refine lv_iinc (v := nI (k + 1)) (lv' := [(1, .int (nI (k + 1))), (0, .ref (a 0))]) hx hb dRM_next_29 hl (k := 0) rfl (nI_1 k) (by decide) rfl (fun ls hl => ?_)
      refine lv_goto (tgt := 7) hx hb dRM_next_32 (by decide) ?_
      have e1 : QRM_next_7 rG (n + 1) k = QRM_next_7 rG n (k + 1) := by simp only [QRM_next_7, cond_no c3]
      rw [e1] at hkk hbk
      exact ih (k + 1)  ls H locs (by omega)  hP hS (lv_sub hl [0, 1] rfl) hkk hbk
    · exact hbk k (by omega) ls H locs (by simp only [QRM_next_7, cond_yes c3]) hP hS (lv_sub hl [0, 1] rfl)
def QRM_next_84  : Nat → Nat → (Nat → Int32) → (Nat → Int32)
  | 0, k, rA => rA
  | n + 1, k, rA => QRM_next_84 n (k + 1) (upd rA k (rA (k + 4)))
set_option maxHeartbeats 4000000 in
set_option maxRecDepth 100000 in
theorem lqRM_next_84 {p : Program} {l : Launch} {e : Env} {s : State} {m : MethodId} {args : Array Value} {below : List Frame} {meth : Method} {c : Code} {D : va_G} {cI cZ : ClassId} {a : Nat → Nat} {A : Nat → Prop} (hA : ∀ v : RS, va_D A (wR cI cZ a v)) (F : gFix p c cRM_next meth (some .boolean) m s args bigW RRM 4) (hK : va_K D vwCl (tyR cI cZ) s) (rI : Nat) (rC : Int32) (rN : Int32) (rO : Nat → Bool) (rG : Nat → Bool) (rW : Nat → Int32) (rH : Nat → Int32) (rF : Nat → Bool) (rT : Nat → Int32) (rM : Nat → Int32) (rB : Nat → Int32) (rX : Int32) (rQ : Nat) (rE : Nat → Int32) (rD : Int64)   (hQ : rQ ≤ 64) (hQ3 : rQ ≤ 63) (Q : State → Prop) : ∀ (n k : Nat)  (rA : Nat → Int32) (ls : Array Slot) (H : Heap) (locs : List Loc), k + n = 4 * rQ → va_P D vwCl (wR cI cZ a ((rI, rC, rN), (rO, rG), (rW, rH, rF, rT), (rM, rB, rX), (rQ, rA), (rE, rD))) H → va_S A s.heap H locs → lv_has ls 4 [(1, .int (nI k)), (0, .ref (a 0))] → (∀ (ls : Array Slot) (H : Heap) (locs : List Loc), va_P D vwCl (wR cI cZ a ((rI, rC, rN), (rO, rG), (rW, rH, rF, rT), (rM, rB, rX), (rQ, QRM_next_84 n k rA), (rE, rD))) H → va_S A s.heap H locs → lv_has ls 4 [(1, .int (nI (4 * rQ))), (0, .ref (a 0))] → W p l e ({ frames := 2, cells := 0, slots := 0, locals := 48 }) s m args below meth c H locs 0 0 Q (F0 m 114 ls [])) → W p l e ({ frames := 2, cells := 0, slots := 0, locals := 48 }) s m args below meth c H locs 0 0 Q (F0 m 84 ls []) := by
  obtain ⟨hx, hb, hr, hml, hown, hts, hlocks⟩ := id F
  intro n
  induction n with
  | zero =>
    intro k rA ls H locs hkn  hP hS hl hkk
    refine lv_iload_n hx hb dRM_next_84 rfl (lv_at hl 0 rfl) ?_
    refine lv_iconst (v := 4) hx hb dRM_next_85 (by decide) ?_
    refine lv_aload_n hx hb dRM_next_86 rfl (lv_at hl 1 rfl) ?_
    refine va_get (D := D) (ci := 5) (v := .int (nI rQ)) (C := RRM) (T := TRM) (N := 16) hx hb hts inRM hown hK hP 0 rfl rfl 12 (by decide) (hts _ k587) (fun _ h9 => h9) rfl dRM_next_87 ?_
    refine lv_imul hx hb dRM_next_90 ?_
    refine lv_eqi (y := nI (4 * rQ)) (pk_mul 4 rQ) ?_
    refine lv_icmp_ge (tgt := 114) hx hb dRM_next_91 (by decide) (fun _ => ?_) (fun c0 => absurd (nI_le (by omega) (by omega)) c0)
    obtain rfl : k = 4 * rQ := by omega
    exact hkk ls H locs hP hS (lv_sub hl [0, 1] rfl)
  | succ n ih =>
    intro k rA ls H locs hkn  hP hS hl hkk
    refine lv_iload_n hx hb dRM_next_84 rfl (lv_at hl 0 rfl) ?_
    refine lv_iconst (v := 4) hx hb dRM_next_85 (by decide) ?_
    refine lv_aload_n hx hb dRM_next_86 rfl (lv_at hl 1 rfl) ?_
    refine va_get (D := D) (ci := 5) (v := .int (nI rQ)) (C := RRM) (T := TRM) (N := 16) hx hb hts inRM hown hK hP 0 rfl rfl 12 (by decide) (hts _ k587) (fun _ h9 => h9) rfl dRM_next_87 ?_
    refine lv_imul hx hb dRM_next_90 ?_
    refine lv_eqi (y := nI (4 * rQ)) (pk_mul 4 rQ) ?_
    refine lv_icmp_ge (tgt := 114) hx hb dRM_next_91 (by decide) (fun c0 => absurd c0 (nI_ge (by omega) (by omega))) (fun _ => ?_)
    refine lv_aload_n hx hb dRM_next_94 rfl (lv_at hl 1 rfl) ?_
    refine va_get (D := D) (ci := 5) (v := .ref (a 9)) (C := RRM) (T := TRM) (N := 16) hx hb hts inRM hown hK hP 0 rfl rfl 13 (by decide) (hts _ k588) (fun _ h9 => h9) rfl dRM_next_95 ?_
    refine lv_iload_n hx hb dRM_next_98 rfl (lv_at hl 0 rfl) ?_
    refine lv_aload_n hx hb dRM_next_99 rfl (lv_at hl 1 rfl) ?_
    refine va_get (D := D) (ci := 5) (v := .ref (a 9)) (C := RRM) (T := TRM) (N := 16) hx hb hts inRM hown hK hP 0 rfl rfl 13 (by decide) (hts _ k588) (fun _ h9 => h9) rfl dRM_next_100 ?_
    refine lv_iload_n hx hb dRM_next_103 rfl (lv_at hl 0 rfl) ?_
    refine lv_iconst (v := 4) hx hb dRM_next_104 (by decide) ?_
    refine lv_iadd hx hb dRM_next_105 ?_
    refine lv_eqi (y := nI (k + 4)) (nI_add k 4) ?_
    refine ir_iald hx hb hK hP 9 0 rfl rfl (k := k + 4) (by omega) (by decide) dRM_next_106 ?_
    refine ir_iast hx hb hK hP (hA _) hS 9 0 rfl rfl (k := k) (by omega) (by decide) dRM_next_107 (fun H locs hP hS => ?_)
    have hP : va_P D vwCl (wR cI cZ a ((rI, rC, rN), (rO, rG), (rW, rH, rF, rT), (rM, rB, rX), (rQ, upd rA k (rA (k + 4))), (rE, rD))) H := hP
    refine lv_iinc (v := nI (k + 1)) (lv' := [(1, .int (nI (k + 1))), (0, .ref (a 0))]) hx hb dRM_next_108 hl (k := 0) rfl (nI_1 k) (by decide) rfl (fun ls hl => ?_)
    refine lv_goto (tgt := 84) hx hb dRM_next_111 (by decide) ?_
    have e1 : QRM_next_84 (n + 1) k rA = QRM_next_84 n (k + 1) (upd rA k (rA (k + 4))) := by simp only [QRM_next_84]
    rw [e1] at hkk
    exact ih (k + 1) (upd rA k (rA (k + 4))) ls H locs (by omega)  hP hS (lv_sub hl [0, 1] rfl) hkk
def fRM_next (rN : Int32) (rG : Nat → Bool) (rW : Nat → Int32) (rT : Nat → Int32) (rM : Nat → Int32) (rB : Nat → Int32) (rQ : Nat) (rA : Nat → Int32) (rE : Nat → Int32) (rD : Int64) : Bool × (Nat → Bool) × (Nat → Int32) × Nat × (Nat → Int32) × (Nat → Int32) × Int64 := (match QRM_next_7 rG 8 0 with | none => (if rQ = 0 then (if 0 ≤ (QRM_firstAdvert_4 rN rW rT 16 0 (-1)) then (true, rG, upd rT (((QRM_firstAdvert_4 rN rW rT 16 0 (-1)).toNatClampNeg) % 1024) (rN + 15), rQ, rA, upd (upd (upd (upd (upd (upd rE 0 3) 1 ((rW ((((QRM_firstAdvert_4 rN rW rT 16 0 (-1)).toNatClampNeg) % 1024) / 64)) / 64)) 2 ((rW ((((QRM_firstAdvert_4 rN rW rT 16 0 (-1)).toNatClampNeg) % 1024) / 64)) - (rW ((((QRM_firstAdvert_4 rN rW rT 16 0 (-1)).toNatClampNeg) % 1024) / 64)) / (nI 64) * (nI 64))) 3 (nI ((((QRM_firstAdvert_4 rN rW rT 16 0 (-1)).toNatClampNeg) % 1024) % 64))) 4 (rM ((((QRM_firstAdvert_4 rN rW rT 16 0 (-1)).toNatClampNeg) % 1024) % 64))) 5 (rB ((((QRM_firstAdvert_4 rN rW rT 16 0 (-1)).toNatClampNeg) % 1024) % 64)), 0) else (false, rG, rT, rQ, rA, rE, rD)) else (true, rG, rT, rQ - 1, QRM_next_84 (4 * (rQ - 1)) 0 rA, upd (upd (upd (upd (upd (upd rE 0 2) 1 (rA 0)) 2 (rA 1)) 3 (rA 2)) 4 (rA 3)) 5 0, 0)) | some kb => (true, updB rG kb false, rT, rQ, rA, upd (upd (upd (upd (upd (upd rE 0 1) 1 (nI kb)) 2 (-1)) 3 (-1)) 4 0) 5 0, QRM_greet_19 rW kb 16 0 0))
set_option maxHeartbeats 4000000 in
set_option maxRecDepth 100000 in
theorem c_RM_next (l : Launch) {D : va_G} {cI cZ : ClassId} {a : Nat → Nat} {A : Nat → Prop} (hA : ∀ v : RS, va_D A (wR cI cZ a v)) (rI : Nat) (rC rN : Int32) (rO rG : Nat → Bool) (rW rH : Nat → Int32) (rF : Nat → Bool) (rT : Nat → Int32) (rM rB : Nat → Int32) (rX : Int32) (rQ : Nat) (rA : Nat → Int32) (rE : Nat → Int32) (rD : Int64)  (hQ : rQ ≤ 64) : Met l yRM_next wsRM_next ({ frames := 2, cells := 0, slots := 0, locals := 48 }) (va_Pc [.ref (a 0)] (gG D (tyR cI cZ) (wR cI cZ a) ((rI, rC, rN), (rO, rG), (rW, rH, rF, rT), (rM, rB, rX), (rQ, rA), (rE, rD)))) (va_Qi (fun (r : Int32) (u : RS) => r = bi ((fRM_next rN rG rW rT rM rB rQ rA rE rD).1) ∧ u = ((rI, 0, rN), (rO, (fRM_next rN rG rW rT rM rB rQ rA rE rD).2.1), (rW, rH, rF, (fRM_next rN rG rW rT rM rB rQ rA rE rD).2.2.1), (rM, rB, rX), ((fRM_next rN rG rW rT rM rB rQ rA rE rD).2.2.2.1, (fRM_next rN rG rW rT rM rB rQ rA rE rD).2.2.2.2.1), ((fRM_next rN rG rW rT rM rB rQ rA rE rD).2.2.2.2.2.1, (fRM_next rN rG rW rT rM rB rQ rA rE rD).2.2.2.2.2.2))) (gG D (tyR cI cZ) (wR cI cZ a)) A) 0 0 A := by
  refine g_enter (by decide) rfl (Nat.le_of_ble_eq_true rfl) ?_
  intro p e s m below meth c ls F hK hP hl
  obtain ⟨hx, hb, hr, hml, hown, hts, hlocks⟩ := id F
  have hS : va_S A s.heap s.heap [] := va_S.rf
  have hl : lv_has ls 4 [(0, .ref (a 0))] := hl
  refine lv_aload_n hx hb dRM_next_0 rfl (lv_at hl 0 rfl) ?_
  refine lv_iconst (v := 0) hx hb dRM_next_1 (by decide) ?_
  refine va_put (D := D) (ci := 5) (v := .int 0) (ty := .int) (C := RRM) (T := TRM) (N := 16) hx hb hts inRM tyRM tyRM_ok nmRM hown hK hP (hA _) hS 0 rfl rfl 1 (by decide) (hts _ k576) (fun _ h9 => h9) rfl (by decide +kernel) rfl rfl (Nat.le_of_ble_eq_true rfl) dRM_next_2 (fun H locs hP _ hS => ?_)
  have hP : va_P D vwCl (wR cI cZ a ((rI, 0, rN), (rO, rG), (rW, rH, rF, rT), (rM, rB, rX), (rQ, rA), (rE, rD))) H := hP
  refine lv_iconst (v := nI 0) hx hb dRM_next_5 (by decide) ?_
  refine lv_istore_n (lv' := [(1, .int (nI 0)), (0, .ref (a 0))]) hx hb dRM_next_6 rfl hl (by decide) rfl (fun ls hl => ?_)
  refine lqRM_next_7 hA F hK rI 0 rN rO rG rW rH rF rT rM rB rX rQ rA rE rD  (by first | omega | assumption)  _ 8 0  ls H locs (by omega)  hP hS (lv_sub hl [0, 1] rfl) (fun ls H locs ho hP hS hl => ?_) (fun kb hkb ls H locs ho hP hS hl => ?_)
  · have hP : va_P D vwCl (wR cI cZ a ((rI, 0, rN), (rO, rG), (rW, rH, rF, rT), (rM, rB, rX), (rQ, rA), (rE, rD))) H := hP
    refine lv_aload_n hx hb dRM_next_35 rfl (lv_at hl 1 rfl) ?_
    refine va_get (D := D) (ci := 5) (v := .int (nI rQ)) (C := RRM) (T := TRM) (N := 16) hx hb hts inRM hown hK hP 0 rfl rfl 12 (by decide) (hts _ k587) (fun _ h9 => h9) rfl dRM_next_36 ?_
    refine lv_if_le (tgt := 116) hx hb dRM_next_39 (by decide) (fun c4 => ?_) (fun c4 => ?_)
    · have c4 := nI_le0 (by omega) c4
      refine lv_aload_n hx hb dRM_next_116 rfl (lv_at hl 1 rfl) ?_
      refine g_callVi (As := []) (rest := []) ⟨hx, hb, hml, hown, hts⟩ (c_RM_firstAdvert l hA rI 0 rN rO rG rW rH rF rT rM rB rX rQ rA rE rD) (cwV 0 hts (gw_V k698 k700 k25 k32 k701) rfl rfl rfl (by decide +kernel) ⟨Nat.le_of_ble_eq_true rfl, Nat.le_of_ble_eq_true rfl⟩) hK hP (va_recv hK hP (ci := 5) (q0 := 0) rfl rfl) rfl hl.1 rfl (Nat.le_of_ble_eq_true rfl) dRM_next_117 ⟨Nat.zero_le _, Nat.zero_le _⟩ (fun q h => h) hS (fun H locs hP hS => ?_)
      refine lv_istore_n (lv' := [(1, .int (QRM_firstAdvert_4 rN rW rT 16 0 (-1))), (0, .ref (a 0))]) hx hb dRM_next_120 rfl hl (by decide) rfl (fun ls hl => ?_)
      refine lv_iload_n hx hb dRM_next_121 rfl (lv_at hl 0 rfl) ?_
      refine lv_if_ge (tgt := 127) hx hb dRM_next_122 (by decide) (fun c5 => ?_) (fun c5 => ?_)
      · refine lv_iload_n hx hb dRM_next_127 rfl (lv_at hl 0 rfl) ?_
        have hn := tnc_lt (QRM_firstAdvert_4 rN rW rT 16 0 (-1))
        refine lv_eqi (y := nI ((QRM_firstAdvert_4 rN rW rT 16 0 (-1)).toNatClampNeg)) (nI_cl c5).symm ?_
        refine lv_sipush (v := nI 1024) hx hb dRM_next_128 (by decide) ?_
        refine lv_irem hx hb dRM_next_131 (by decide) ?_
        refine lv_eqi (y := nI (((QRM_firstAdvert_4 rN rW rT 16 0 (-1)).toNatClampNeg) % 1024)) (pk_rem (by omega) (by decide) (by decide)) ?_
        refine lv_istore_n (lv' := [(2, .int (nI (((QRM_firstAdvert_4 rN rW rT 16 0 (-1)).toNatClampNeg) % 1024))), (1, .int (QRM_firstAdvert_4 rN rW rT 16 0 (-1))), (0, .ref (a 0))]) hx hb dRM_next_132 rfl hl (by decide) rfl (fun ls hl => ?_)
        refine lv_iload_n hx hb dRM_next_133 rfl (lv_at hl 0 rfl) ?_
        refine lv_bipush (v := nI 64) hx hb dRM_next_134 (by decide) ?_
        refine lv_irem hx hb dRM_next_136 (by decide) ?_
        refine lv_eqi (y := nI ((((QRM_firstAdvert_4 rN rW rT 16 0 (-1)).toNatClampNeg) % 1024) % 64)) (pk_rem (by omega) (by decide) (by decide)) ?_
        refine lv_istore_n (lv' := [(3, .int (nI ((((QRM_firstAdvert_4 rN rW rT 16 0 (-1)).toNatClampNeg) % 1024) % 64))), (2, .int (nI (((QRM_firstAdvert_4 rN rW rT 16 0 (-1)).toNatClampNeg) % 1024))), (1, .int (QRM_firstAdvert_4 rN rW rT 16 0 (-1))), (0, .ref (a 0))]) hx hb dRM_next_137 rfl hl (by decide) rfl (fun ls hl => ?_)
        refine lv_aload_n hx hb dRM_next_138 rfl (lv_at hl 3 rfl) ?_
        refine va_get (D := D) (ci := 5) (v := .ref (a 6)) (C := RRM) (T := TRM) (N := 16) hx hb hts inRM hown hK hP 0 rfl rfl 8 (by decide) (hts _ k583) (fun _ h9 => h9) rfl dRM_next_139 ?_
        refine lv_iload_n hx hb dRM_next_142 rfl (lv_at hl 1 rfl) ?_
        refine lv_aload_n hx hb dRM_next_143 rfl (lv_at hl 3 rfl) ?_
        refine va_get (D := D) (ci := 5) (v := .int rN) (C := RRM) (T := TRM) (N := 16) hx hb hts inRM hown hK hP 0 rfl rfl 2 (by decide) (hts _ k577) (fun _ h9 => h9) rfl dRM_next_144 ?_
        refine lv_bipush (v := 15) hx hb dRM_next_147 (by decide) ?_
        refine lv_iadd hx hb dRM_next_149 ?_
        refine ir_iast hx hb hK hP (hA _) hS 6 0 rfl rfl (k := ((QRM_firstAdvert_4 rN rW rT 16 0 (-1)).toNatClampNeg) % 1024) (by omega) (by decide) dRM_next_150 (fun H locs hP hS => ?_)
        have hP : va_P D vwCl (wR cI cZ a ((rI, 0, rN), (rO, rG), (rW, rH, rF, upd rT (((QRM_firstAdvert_4 rN rW rT 16 0 (-1)).toNatClampNeg) % 1024) (rN + 15)), (rM, rB, rX), (rQ, rA), (rE, rD))) H := hP
        refine lv_aload_n hx hb dRM_next_151 rfl (lv_at hl 3 rfl) ?_
        refine lv_iconst (v := 3) hx hb dRM_next_152 (by decide) ?_
        refine lv_aload_n hx hb dRM_next_153 rfl (lv_at hl 3 rfl) ?_
        refine va_get (D := D) (ci := 5) (v := .ref (a 3)) (C := RRM) (T := TRM) (N := 16) hx hb hts inRM hown hK hP 0 rfl rfl 5 (by decide) (hts _ k580) (fun _ h9 => h9) rfl dRM_next_154 ?_
        refine lv_iload_n hx hb dRM_next_157 rfl (lv_at hl 1 rfl) ?_
        refine lv_bipush (v := 64) hx hb dRM_next_158 (by decide) ?_
        refine lv_idiv hx hb dRM_next_160 (by decide) ?_
        refine lv_eqi (y := nI ((((QRM_firstAdvert_4 rN rW rT 16 0 (-1)).toNatClampNeg) % 1024) / 64)) (pk_div (by omega) (by decide) (by decide)) ?_
        refine ir_iald hx hb hK hP 3 0 rfl rfl (k := (((QRM_firstAdvert_4 rN rW rT 16 0 (-1)).toNatClampNeg) % 1024) / 64) (by omega) (by decide) dRM_next_161 ?_
        refine lv_bipush (v := 64) hx hb dRM_next_162 (by decide) ?_
        refine lv_idiv hx hb dRM_next_164 (by decide) ?_
        refine lv_aload_n hx hb dRM_next_165 rfl (lv_at hl 3 rfl) ?_
        refine va_get (D := D) (ci := 5) (v := .ref (a 3)) (C := RRM) (T := TRM) (N := 16) hx hb hts inRM hown hK hP 0 rfl rfl 5 (by decide) (hts _ k580) (fun _ h9 => h9) rfl dRM_next_166 ?_
        refine lv_iload_n hx hb dRM_next_169 rfl (lv_at hl 1 rfl) ?_
        refine lv_bipush (v := 64) hx hb dRM_next_170 (by decide) ?_
        refine lv_idiv hx hb dRM_next_172 (by decide) ?_
        refine lv_eqi (y := nI ((((QRM_firstAdvert_4 rN rW rT 16 0 (-1)).toNatClampNeg) % 1024) / 64)) (pk_div (by omega) (by decide) (by decide)) ?_
        refine ir_iald hx hb hK hP 3 0 rfl rfl (k := (((QRM_firstAdvert_4 rN rW rT 16 0 (-1)).toNatClampNeg) % 1024) / 64) (by omega) (by decide) dRM_next_173 ?_
        refine lv_bipush (v := nI 64) hx hb dRM_next_174 (by decide) ?_
        refine lv_irem hx hb dRM_next_176 (by decide) ?_
        refine lv_iload_n hx hb dRM_next_177 rfl (lv_at hl 0 rfl) ?_
        refine lv_aload_n hx hb dRM_next_178 rfl (lv_at hl 3 rfl) ?_
        refine va_get (D := D) (ci := 5) (v := .ref (a 7)) (C := RRM) (T := TRM) (N := 16) hx hb hts inRM hown hK hP 0 rfl rfl 9 (by decide) (hts _ k584) (fun _ h9 => h9) rfl dRM_next_179 ?_
        refine lv_iload_n hx hb dRM_next_182 rfl (lv_at hl 0 rfl) ?_
        refine ir_iald hx hb hK hP 7 0 rfl rfl (k := (((QRM_firstAdvert_4 rN rW rT 16 0 (-1)).toNatClampNeg) % 1024) % 64) (by omega) (by decide) dRM_next_183 ?_
        refine lv_aload_n hx hb dRM_next_184 rfl (lv_at hl 3 rfl) ?_
        refine va_get (D := D) (ci := 5) (v := .ref (a 8)) (C := RRM) (T := TRM) (N := 16) hx hb hts inRM hown hK hP 0 rfl rfl 10 (by decide) (hts _ k585) (fun _ h9 => h9) rfl dRM_next_185 ?_
        refine lv_iload_n hx hb dRM_next_188 rfl (lv_at hl 0 rfl) ?_
        refine ir_iald hx hb hK hP 8 0 rfl rfl (k := (((QRM_firstAdvert_4 rN rW rT 16 0 (-1)).toNatClampNeg) % 1024) % 64) (by omega) (by decide) dRM_next_189 ?_
        refine g_callVv (As := [.int 3, .int ((rW ((((QRM_firstAdvert_4 rN rW rT 16 0 (-1)).toNatClampNeg) % 1024) / 64)) / 64), .int ((rW ((((QRM_firstAdvert_4 rN rW rT 16 0 (-1)).toNatClampNeg) % 1024) / 64)) - (rW ((((QRM_firstAdvert_4 rN rW rT 16 0 (-1)).toNatClampNeg) % 1024) / 64)) / (nI 64) * (nI 64)), .int (nI ((((QRM_firstAdvert_4 rN rW rT 16 0 (-1)).toNatClampNeg) % 1024) % 64)), .int (rM ((((QRM_firstAdvert_4 rN rW rT 16 0 (-1)).toNatClampNeg) % 1024) % 64)), .int (rB ((((QRM_firstAdvert_4 rN rW rT 16 0 (-1)).toNatClampNeg) % 1024) % 64))]) (rest := []) ⟨hx, hb, hml, hown, hts⟩ (c_RM_make l hA rI 0 rN rO rG rW rH rF (upd rT (((QRM_firstAdvert_4 rN rW rT 16 0 (-1)).toNatClampNeg) % 1024) (rN + 15)) rM rB rX rQ rA rE rD 3 ((rW ((((QRM_firstAdvert_4 rN rW rT 16 0 (-1)).toNatClampNeg) % 1024) / 64)) / 64) ((rW ((((QRM_firstAdvert_4 rN rW rT 16 0 (-1)).toNatClampNeg) % 1024) / 64)) - (rW ((((QRM_firstAdvert_4 rN rW rT 16 0 (-1)).toNatClampNeg) % 1024) / 64)) / (nI 64) * (nI 64)) (nI ((((QRM_firstAdvert_4 rN rW rT 16 0 (-1)).toNatClampNeg) % 1024) % 64)) (rM ((((QRM_firstAdvert_4 rN rW rT 16 0 (-1)).toNatClampNeg) % 1024) % 64)) (rB ((((QRM_firstAdvert_4 rN rW rT 16 0 (-1)).toNatClampNeg) % 1024) % 64))) (cwV 6 hts (gw_V k694 k696 k24 k32 k697) rfl rfl rfl (by decide +kernel) ⟨Nat.le_of_ble_eq_true rfl, Nat.le_of_ble_eq_true rfl⟩) hK hP (va_recv hK hP (ci := 5) (q0 := 0) rfl rfl) rfl hl.1 rfl (Nat.le_of_ble_eq_true rfl) dRM_next_190 ⟨Nat.zero_le _, Nat.zero_le _⟩ (fun q h => h) hS (fun H locs hP hS => ?_)
        have hP : va_P D vwCl (wR cI cZ a ((rI, 0, rN), (rO, rG), (rW, rH, rF, upd rT (((QRM_firstAdvert_4 rN rW rT 16 0 (-1)).toNatClampNeg) % 1024) (rN + 15)), (rM, rB, rX), (rQ, rA), (upd (upd (upd (upd (upd (upd rE 0 3) 1 ((rW ((((QRM_firstAdvert_4 rN rW rT 16 0 (-1)).toNatClampNeg) % 1024) / 64)) / 64)) 2 ((rW ((((QRM_firstAdvert_4 rN rW rT 16 0 (-1)).toNatClampNeg) % 1024) / 64)) - (rW ((((QRM_firstAdvert_4 rN rW rT 16 0 (-1)).toNatClampNeg) % 1024) / 64)) / (nI 64) * (nI 64))) 3 (nI ((((QRM_firstAdvert_4 rN rW rT 16 0 (-1)).toNatClampNeg) % 1024) % 64))) 4 (rM ((((QRM_firstAdvert_4 rN rW rT 16 0 (-1)).toNatClampNeg) % 1024) % 64))) 5 (rB ((((QRM_firstAdvert_4 rN rW rT 16 0 (-1)).toNatClampNeg) % 1024) % 64)), 0))) H := hP
        refine lv_iconst (v := bi true) hx hb dRM_next_193 (by decide) ?_
        have e1 : fRM_next rN rG rW rT rM rB rQ rA rE rD = (true, rG, upd rT (((QRM_firstAdvert_4 rN rW rT 16 0 (-1)).toNatClampNeg) % 1024) (rN + 15), rQ, rA, upd (upd (upd (upd (upd (upd rE 0 3) 1 ((rW ((((QRM_firstAdvert_4 rN rW rT 16 0 (-1)).toNatClampNeg) % 1024) / 64)) / 64)) 2 ((rW ((((QRM_firstAdvert_4 rN rW rT 16 0 (-1)).toNatClampNeg) % 1024) / 64)) - (rW ((((QRM_firstAdvert_4 rN rW rT 16 0 (-1)).toNatClampNeg) % 1024) / 64)) / (nI 64) * (nI 64))) 3 (nI ((((QRM_firstAdvert_4 rN rW rT 16 0 (-1)).toNatClampNeg) % 1024) % 64))) 4 (rM ((((QRM_firstAdvert_4 rN rW rT 16 0 (-1)).toNatClampNeg) % 1024) % 64))) 5 (rB ((((QRM_firstAdvert_4 rN rW rT 16 0 (-1)).toNatClampNeg) % 1024) % 64)), 0) := by first | (simp only [fRM_next, ho, if_pos c4, if_pos c5]; done) | (simp only [fRM_next, ho]; simp only [if_pos c4]; simp only [if_pos c5])
        exact g_zret (v := ((rI, 0, rN), (rO, rG), (rW, rH, rF, upd rT (((QRM_firstAdvert_4 rN rW rT 16 0 (-1)).toNatClampNeg) % 1024) (rN + 15)), (rM, rB, rX), (rQ, rA), (upd (upd (upd (upd (upd (upd rE 0 3) 1 ((rW ((((QRM_firstAdvert_4 rN rW rT 16 0 (-1)).toNatClampNeg) % 1024) / 64)) / 64)) 2 ((rW ((((QRM_firstAdvert_4 rN rW rT 16 0 (-1)).toNatClampNeg) % 1024) / 64)) - (rW ((((QRM_firstAdvert_4 rN rW rT 16 0 (-1)).toNatClampNeg) % 1024) / 64)) / (nI 64) * (nI 64))) 3 (nI ((((QRM_firstAdvert_4 rN rW rT 16 0 (-1)).toNatClampNeg) % 1024) % 64))) 4 (rM ((((QRM_firstAdvert_4 rN rW rT 16 0 (-1)).toNatClampNeg) % 1024) % 64))) 5 (rB ((((QRM_firstAdvert_4 rN rW rT 16 0 (-1)).toNatClampNeg) % 1024) % 64)), 0))) hx hb hr hK hP hS ⟨by first | rfl | (rw [e1] <;> rfl), by first | rfl | (rw [e1] <;> rfl)⟩ hlocks dRM_next_194
      · refine lv_iconst (v := bi false) hx hb dRM_next_125 (by decide) ?_
        have e1 : fRM_next rN rG rW rT rM rB rQ rA rE rD = (false, rG, rT, rQ, rA, rE, rD) := by first | (simp only [fRM_next, ho, if_pos c4, if_neg c5]; done) | (simp only [fRM_next, ho]; simp only [if_pos c4]; simp only [if_neg c5])
        exact g_zret (v := ((rI, 0, rN), (rO, rG), (rW, rH, rF, rT), (rM, rB, rX), (rQ, rA), (rE, rD))) hx hb hr hK hP hS ⟨by first | rfl | (rw [e1] <;> rfl), by first | rfl | (rw [e1] <;> rfl)⟩ hlocks dRM_next_126
    · have c4 : ¬ rQ = 0 := fun q => c4 (by rw [q]; decide)
      refine lv_aload_n hx hb dRM_next_42 rfl (lv_at hl 1 rfl) ?_
      refine lv_iconst (v := 2) hx hb dRM_next_43 (by decide) ?_
      refine lv_aload_n hx hb dRM_next_44 rfl (lv_at hl 1 rfl) ?_
      refine va_get (D := D) (ci := 5) (v := .ref (a 9)) (C := RRM) (T := TRM) (N := 16) hx hb hts inRM hown hK hP 0 rfl rfl 13 (by decide) (hts _ k588) (fun _ h9 => h9) rfl dRM_next_45 ?_
      refine lv_iconst (v := nI 0) hx hb dRM_next_48 (by decide) ?_
      refine ir_iald hx hb hK hP 9 0 rfl rfl (k := 0) (by omega) (by decide) dRM_next_49 ?_
      refine lv_aload_n hx hb dRM_next_50 rfl (lv_at hl 1 rfl) ?_
      refine va_get (D := D) (ci := 5) (v := .ref (a 9)) (C := RRM) (T := TRM) (N := 16) hx hb hts inRM hown hK hP 0 rfl rfl 13 (by decide) (hts _ k588) (fun _ h9 => h9) rfl dRM_next_51 ?_
      refine lv_iconst (v := nI 1) hx hb dRM_next_54 (by decide) ?_
      refine ir_iald hx hb hK hP 9 0 rfl rfl (k := 1) (by omega) (by decide) dRM_next_55 ?_
      refine lv_aload_n hx hb dRM_next_56 rfl (lv_at hl 1 rfl) ?_
      refine va_get (D := D) (ci := 5) (v := .ref (a 9)) (C := RRM) (T := TRM) (N := 16) hx hb hts inRM hown hK hP 0 rfl rfl 13 (by decide) (hts _ k588) (fun _ h9 => h9) rfl dRM_next_57 ?_
      refine lv_iconst (v := nI 2) hx hb dRM_next_60 (by decide) ?_
      refine ir_iald hx hb hK hP 9 0 rfl rfl (k := 2) (by omega) (by decide) dRM_next_61 ?_
      refine lv_aload_n hx hb dRM_next_62 rfl (lv_at hl 1 rfl) ?_
      refine va_get (D := D) (ci := 5) (v := .ref (a 9)) (C := RRM) (T := TRM) (N := 16) hx hb hts inRM hown hK hP 0 rfl rfl 13 (by decide) (hts _ k588) (fun _ h9 => h9) rfl dRM_next_63 ?_
      refine lv_iconst (v := nI 3) hx hb dRM_next_66 (by decide) ?_
      refine ir_iald hx hb hK hP 9 0 rfl rfl (k := 3) (by omega) (by decide) dRM_next_67 ?_
      refine lv_iconst (v := 0) hx hb dRM_next_68 (by decide) ?_
      refine g_callVv (As := [.int 2, .int (rA 0), .int (rA 1), .int (rA 2), .int (rA 3), .int 0]) (rest := []) ⟨hx, hb, hml, hown, hts⟩ (c_RM_make l hA rI 0 rN rO rG rW rH rF rT rM rB rX rQ rA rE rD 2 (rA 0) (rA 1) (rA 2) (rA 3) 0) (cwV 6 hts (gw_V k694 k696 k24 k32 k697) rfl rfl rfl (by decide +kernel) ⟨Nat.le_of_ble_eq_true rfl, Nat.le_of_ble_eq_true rfl⟩) hK hP (va_recv hK hP (ci := 5) (q0 := 0) rfl rfl) rfl hl.1 rfl (Nat.le_of_ble_eq_true rfl) dRM_next_69 ⟨Nat.zero_le _, Nat.zero_le _⟩ (fun q h => h) hS (fun H locs hP hS => ?_)
      have hP : va_P D vwCl (wR cI cZ a ((rI, 0, rN), (rO, rG), (rW, rH, rF, rT), (rM, rB, rX), (rQ, rA), (upd (upd (upd (upd (upd (upd rE 0 2) 1 (rA 0)) 2 (rA 1)) 3 (rA 2)) 4 (rA 3)) 5 0, 0))) H := hP
      refine lv_aload_n hx hb dRM_next_72 rfl (lv_at hl 1 rfl) ?_
      refine lv_dup hx hb dRM_next_73 rfl ?_
      refine va_get (D := D) (ci := 5) (v := .int (nI rQ)) (C := RRM) (T := TRM) (N := 16) hx hb hts inRM hown hK hP 0 rfl rfl 12 (by decide) (hts _ k587) (fun _ h9 => h9) rfl dRM_next_74 ?_
      refine lv_iconst (v := 1) hx hb dRM_next_77 (by decide) ?_
      refine lv_isub hx hb dRM_next_78 ?_
      refine lv_eqi (y := nI (rQ - 1)) (nI_sub1 (by omega)) ?_
      refine va_put (D := D) (ci := 5) (v := .int (nI (rQ - 1))) (ty := .int) (C := RRM) (T := TRM) (N := 16) hx hb hts inRM tyRM tyRM_ok nmRM hown hK hP (hA _) hS 0 rfl rfl 12 (by decide) (hts _ k587) (fun _ h9 => h9) rfl (by decide +kernel) rfl rfl (Nat.le_of_ble_eq_true rfl) dRM_next_79 (fun H locs hP _ hS => ?_)
      have hP : va_P D vwCl (wR cI cZ a ((rI, 0, rN), (rO, rG), (rW, rH, rF, rT), (rM, rB, rX), (rQ - 1, rA), (upd (upd (upd (upd (upd (upd rE 0 2) 1 (rA 0)) 2 (rA 1)) 3 (rA 2)) 4 (rA 3)) 5 0, 0))) H := hP
      refine lv_iconst (v := nI 0) hx hb dRM_next_82 (by decide) ?_
      refine lv_istore_n (lv' := [(1, .int (nI 0)), (0, .ref (a 0))]) hx hb dRM_next_83 rfl hl (by decide) rfl (fun ls hl => ?_)
      refine lqRM_next_84 hA F hK rI 0 rN rO rG rW rH rF rT rM rB rX (rQ - 1) (upd (upd (upd (upd (upd (upd rE 0 2) 1 (rA 0)) 2 (rA 1)) 3 (rA 2)) 4 (rA 3)) 5 0) 0  (by first | omega | assumption) (by first | omega | assumption) _ (4 * (rQ - 1)) 0 rA ls H locs (by omega)  hP hS (lv_sub hl [0, 1] rfl) (fun ls H locs hP hS hl => ?_)
      have hP : va_P D vwCl (wR cI cZ a ((rI, 0, rN), (rO, rG), (rW, rH, rF, rT), (rM, rB, rX), (rQ - 1, QRM_next_84 (4 * (rQ - 1)) 0 rA), (upd (upd (upd (upd (upd (upd rE 0 2) 1 (rA 0)) 2 (rA 1)) 3 (rA 2)) 4 (rA 3)) 5 0, 0))) H := hP
      refine lv_iconst (v := bi true) hx hb dRM_next_114 (by decide) ?_
      have e1 : fRM_next rN rG rW rT rM rB rQ rA rE rD = (true, rG, rT, rQ - 1, QRM_next_84 (4 * (rQ - 1)) 0 rA, upd (upd (upd (upd (upd (upd rE 0 2) 1 (rA 0)) 2 (rA 1)) 3 (rA 2)) 4 (rA 3)) 5 0, 0) := by first | (simp only [fRM_next, ho, if_neg c4]; done) | (simp only [fRM_next, ho]; simp only [if_neg c4])
      exact g_zret (v := ((rI, 0, rN), (rO, rG), (rW, rH, rF, rT), (rM, rB, rX), (rQ - 1, QRM_next_84 (4 * (rQ - 1)) 0 rA), (upd (upd (upd (upd (upd (upd rE 0 2) 1 (rA 0)) 2 (rA 1)) 3 (rA 2)) 4 (rA 3)) 5 0, 0))) hx hb hr hK hP hS ⟨by first | rfl | (rw [e1] <;> rfl), by first | rfl | (rw [e1] <;> rfl)⟩ hlocks dRM_next_115
  · have hP : va_P D vwCl (wR cI cZ a ((rI, 0, rN), (rO, rG), (rW, rH, rF, rT), (rM, rB, rX), (rQ, rA), (rE, rD))) H := hP
    refine lv_aload_n hx hb dRM_next_22 rfl (lv_at hl 1 rfl) ?_
    refine lv_iload_n hx hb dRM_next_23 rfl (lv_at hl 0 rfl) ?_
    refine g_callVv (As := [.int (nI kb)]) (rest := []) ⟨hx, hb, hml, hown, hts⟩ (c_RM_greet l hA rI 0 rN rO rG rW rH rF rT rM rB rX rQ rA rE rD kb (by first | omega | assumption)) (cwV 1 hts (gw_V k690 k692 k23 k32 k693) rfl rfl rfl (by decide +kernel) ⟨Nat.le_of_ble_eq_true rfl, Nat.le_of_ble_eq_true rfl⟩) hK hP (va_recv hK hP (ci := 5) (q0 := 0) rfl rfl) rfl hl.1 rfl (Nat.le_of_ble_eq_true rfl) dRM_next_24 ⟨Nat.zero_le _, Nat.zero_le _⟩ (fun q h => h) hS (fun H locs hP hS => ?_)
    have hP : va_P D vwCl (wR cI cZ a ((rI, 0, rN), (rO, updB rG kb false), (rW, rH, rF, rT), (rM, rB, rX), (rQ, rA), (upd (upd (upd (upd (upd (upd rE 0 1) 1 (nI kb)) 2 (-1)) 3 (-1)) 4 0) 5 0, QRM_greet_19 rW kb 16 0 0))) H := hP
    refine lv_iconst (v := bi true) hx hb dRM_next_27 (by decide) ?_
    have e1 : fRM_next rN rG rW rT rM rB rQ rA rE rD = (true, updB rG kb false, rT, rQ, rA, upd (upd (upd (upd (upd (upd rE 0 1) 1 (nI kb)) 2 (-1)) 3 (-1)) 4 0) 5 0, QRM_greet_19 rW kb 16 0 0) := by simp only [fRM_next, ho]
    exact g_zret (v := ((rI, 0, rN), (rO, updB rG kb false), (rW, rH, rF, rT), (rM, rB, rX), (rQ, rA), (upd (upd (upd (upd (upd (upd rE 0 1) 1 (nI kb)) 2 (-1)) 3 (-1)) 4 0) 5 0, QRM_greet_19 rW kb 16 0 0))) hx hb hr hK hP hS ⟨by first | rfl | (rw [e1] <;> rfl), by first | rfl | (rw [e1] <;> rfl)⟩ hlocks dRM_next_28
def fRM_message (rE : Nat → Int32) (i : Nat) : Int32 × Int32 := (if (rE 0) = 0 then (0, 2) else (rE i, 0))
set_option maxHeartbeats 4000000 in
set_option maxRecDepth 100000 in
theorem c_RM_message (l : Launch) {D : va_G} {cI cZ : ClassId} {a : Nat → Nat} {A : Nat → Prop} (hA : ∀ v : RS, va_D A (wR cI cZ a v)) (rI : Nat) (rC rN : Int32) (rO rG : Nat → Bool) (rW rH : Nat → Int32) (rF : Nat → Bool) (rT : Nat → Int32) (rM rB : Nat → Int32) (rX : Int32) (rQ : Nat) (rA : Nat → Int32) (rE : Nat → Int32) (rD : Int64) (i : Nat) (hi : i < 6) : Met l yRM_message wsRM_message ({ frames := 1, cells := 0, slots := 0, locals := 22 }) (va_Pc [.ref (a 0), .int (nI i)] (gG D (tyR cI cZ) (wR cI cZ a) ((rI, rC, rN), (rO, rG), (rW, rH, rF, rT), (rM, rB, rX), (rQ, rA), (rE, rD)))) (va_Qi (fun (r : Int32) (u : RS) => r = (fRM_message rE i).1 ∧ u = ((rI, (fRM_message rE i).2, rN), (rO, rG), (rW, rH, rF, rT), (rM, rB, rX), (rQ, rA), (rE, rD))) (gG D (tyR cI cZ) (wR cI cZ a)) A) 0 0 A := by
  refine g_enter (by decide) rfl (Nat.le_of_ble_eq_true rfl) ?_
  intro p e s m below meth c ls F hK hP hl
  obtain ⟨hx, hb, hr, hml, hown, hts, hlocks⟩ := id F
  have hS : va_S A s.heap s.heap [] := va_S.rf
  have hl : lv_has ls 2 [(0, .ref (a 0)), (1, .int (nI i))] := hl
  refine lv_aload_n hx hb dRM_message_0 rfl (lv_at hl 0 rfl) ?_
  refine lv_iload_n hx hb dRM_message_1 rfl (lv_at hl 1 rfl) ?_
  refine lv_iconst (v := 0) hx hb dRM_message_2 (by decide) ?_
  refine lv_iconst (v := 5) hx hb dRM_message_3 (by decide) ?_
  refine g_roSi (As := [.int (nI i), .int 0, .int 5]) (rest := [.ref (a 0)]) ⟨hx, hb, hml, hown, hts⟩ (c_RM_in l rI rC rN rO rG rW rH rF rT rM rB rX rQ rA rE rD (nI i) 0 5) (cw_S 3 hts k633 k634 k32 k635 rfl rfl rfl (by decide +kernel) ⟨Nat.le_of_ble_eq_true rfl, Nat.le_of_ble_eq_true rfl⟩) hK hP rfl hl.1 rfl (Nat.le_of_ble_eq_true rfl) dRM_message_4 ⟨Nat.zero_le _, Nat.zero_le _⟩ ?_
  refine lv_if_neb (tgt := 14) hx hb dRM_message_7 (by decide) (fun c1 => ?_) (fun c1 => absurd (c1.symm.trans (in_K (b := 5) (by omega) (by decide))) (by decide))
  refine lv_aload_n hx hb dRM_message_14 rfl (lv_at hl 0 rfl) ?_
  refine va_get (D := D) (ci := 5) (v := .ref (a 10)) (C := RRM) (T := TRM) (N := 16) hx hb hts inRM hown hK hP 0 rfl rfl 14 (by decide) (hts _ k589) (fun _ h9 => h9) rfl dRM_message_15 ?_
  refine lv_iconst (v := nI 0) hx hb dRM_message_18 (by decide) ?_
  refine ir_iald hx hb hK hP 10 0 rfl rfl (k := 0) (by omega) (by decide) dRM_message_19 ?_
  refine lv_if_ne (tgt := 27) hx hb dRM_message_20 (by decide) (fun c2 => ?_) (fun c2 => ?_)
  · refine lv_iconst (v := 0) hx hb dRM_message_27 (by decide) ?_
    refine va_put (D := D) (ci := 5) (v := .int 0) (ty := .int) (C := RRM) (T := TRM) (N := 16) hx hb hts inRM tyRM tyRM_ok nmRM hown hK hP (hA _) hS 0 rfl rfl 1 (by decide) (hts _ k576) (fun _ h9 => h9) rfl (by decide +kernel) rfl rfl (Nat.le_of_ble_eq_true rfl) dRM_message_28 (fun H locs hP _ hS => ?_)
    have hP : va_P D vwCl (wR cI cZ a ((rI, 0, rN), (rO, rG), (rW, rH, rF, rT), (rM, rB, rX), (rQ, rA), (rE, rD))) H := hP
    refine lv_aload_n hx hb dRM_message_31 rfl (lv_at hl 0 rfl) ?_
    refine va_get (D := D) (ci := 5) (v := .int 0) (C := RRM) (T := TRM) (N := 16) hx hb hts inRM hown hK hP 0 rfl rfl 1 (by decide) (hts _ k576) (fun _ h9 => h9) rfl dRM_message_32 ?_
    refine lv_if_le (tgt := 42) hx hb dRM_message_35 (by decide) (fun _ => ?_) (fun c0 => absurd (by decide) c0)
    refine lv_aload_n hx hb dRM_message_42 rfl (lv_at hl 0 rfl) ?_
    refine va_get (D := D) (ci := 5) (v := .ref (a 10)) (C := RRM) (T := TRM) (N := 16) hx hb hts inRM hown hK hP 0 rfl rfl 14 (by decide) (hts _ k589) (fun _ h9 => h9) rfl dRM_message_43 ?_
    refine lv_iload_n hx hb dRM_message_46 rfl (lv_at hl 1 rfl) ?_
    refine ir_iald hx hb hK hP 10 0 rfl rfl (k := i) (by omega) (by decide) dRM_message_47 ?_
    have e1 : fRM_message rE i = (rE i, 0) := by simp only [fRM_message, if_neg c2]
    exact g_iret (v := ((rI, 0, rN), (rO, rG), (rW, rH, rF, rT), (rM, rB, rX), (rQ, rA), (rE, rD))) hx hb hr hK hP hS ⟨by first | rfl | (rw [e1] <;> rfl), by first | rfl | (rw [e1] <;> rfl)⟩ hlocks dRM_message_48
  · refine lv_iconst (v := 2) hx hb dRM_message_23 (by decide) ?_
    refine lv_goto (tgt := 28) hx hb dRM_message_24 (by decide) ?_
    refine va_put (D := D) (ci := 5) (v := .int 2) (ty := .int) (C := RRM) (T := TRM) (N := 16) hx hb hts inRM tyRM tyRM_ok nmRM hown hK hP (hA _) hS 0 rfl rfl 1 (by decide) (hts _ k576) (fun _ h9 => h9) rfl (by decide +kernel) rfl rfl (Nat.le_of_ble_eq_true rfl) dRM_message_28 (fun H locs hP _ hS => ?_)
    have hP : va_P D vwCl (wR cI cZ a ((rI, 2, rN), (rO, rG), (rW, rH, rF, rT), (rM, rB, rX), (rQ, rA), (rE, rD))) H := hP
    refine lv_aload_n hx hb dRM_message_31 rfl (lv_at hl 0 rfl) ?_
    refine va_get (D := D) (ci := 5) (v := .int 2) (C := RRM) (T := TRM) (N := 16) hx hb hts inRM hown hK hP 0 rfl rfl 1 (by decide) (hts _ k576) (fun _ h9 => h9) rfl dRM_message_32 ?_
    refine lv_if_le (tgt := 42) hx hb dRM_message_35 (by decide) (fun c0 => absurd c0 (by decide)) (fun _ => ?_)
    refine lv_iconst (v := 0) hx hb dRM_message_38 (by decide) ?_
    refine lv_goto (tgt := 48) hx hb dRM_message_39 (by decide) ?_
    have e1 : fRM_message rE i = (0, 2) := by simp only [fRM_message, if_pos c2]
    exact g_iret (v := ((rI, 2, rN), (rO, rG), (rW, rH, rF, rT), (rM, rB, rX), (rQ, rA), (rE, rD))) hx hb hr hK hP hS ⟨by first | rfl | (rw [e1] <;> rfl), by first | rfl | (rw [e1] <;> rfl)⟩ hlocks dRM_message_48
set_option maxHeartbeats 4000000 in
set_option maxRecDepth 100000 in
theorem c_RM_named (l : Launch) {D : va_G} {cI cZ : ClassId} {a : Nat → Nat} {A : Nat → Prop} (hA : ∀ v : RS, va_D A (wR cI cZ a v)) (rI : Nat) (rC rN : Int32) (rO rG : Nat → Bool) (rW rH : Nat → Int32) (rF : Nat → Bool) (rT : Nat → Int32) (rM rB : Nat → Int32) (rX : Int32) (rQ : Nat) (rA : Nat → Int32) (rE : Nat → Int32) (rD : Int64)   : Met l yRM_named wsRM_named ({ frames := 0, cells := 0, slots := 0, locals := 0 }) (va_Pc [.ref (a 0)] (gG D (tyR cI cZ) (wR cI cZ a) ((rI, rC, rN), (rO, rG), (rW, rH, rF, rT), (rM, rB, rX), (rQ, rA), (rE, rD)))) (va_Ql (fun (r : Int64) (u : RS) => r = rD ∧ u = ((rI, 0, rN), (rO, rG), (rW, rH, rF, rT), (rM, rB, rX), (rQ, rA), (rE, rD))) (gG D (tyR cI cZ) (wR cI cZ a)) A) 0 0 A := by
  refine g_enter (by decide) rfl (Nat.le_of_ble_eq_true rfl) ?_
  intro p e s m below meth c ls F hK hP hl
  obtain ⟨hx, hb, hr, hml, hown, hts, hlocks⟩ := id F
  have hS : va_S A s.heap s.heap [] := va_S.rf
  have hl : lv_has ls 1 [(0, .ref (a 0))] := hl
  refine lv_aload_n hx hb dRM_named_0 rfl (lv_at hl 0 rfl) ?_
  refine lv_iconst (v := 0) hx hb dRM_named_1 (by decide) ?_
  refine va_put (D := D) (ci := 5) (v := .int 0) (ty := .int) (C := RRM) (T := TRM) (N := 16) hx hb hts inRM tyRM tyRM_ok nmRM hown hK hP (hA _) hS 0 rfl rfl 1 (by decide) (hts _ k576) (fun _ h9 => h9) rfl (by decide +kernel) rfl rfl (Nat.le_of_ble_eq_true rfl) dRM_named_2 (fun H locs hP _ hS => ?_)
  have hP : va_P D vwCl (wR cI cZ a ((rI, 0, rN), (rO, rG), (rW, rH, rF, rT), (rM, rB, rX), (rQ, rA), (rE, rD))) H := hP
  refine lv_aload_n hx hb dRM_named_5 rfl (lv_at hl 0 rfl) ?_
  refine va_get (D := D) (ci := 5) (v := .long rD) (C := RRM) (T := TRM) (N := 16) hx hb hts inRM hown hK hP 0 rfl rfl 15 (by decide) (hts _ k590) (fun _ h9 => h9) rfl dRM_named_6 ?_
  exact g_lret (v := ((rI, 0, rN), (rO, rG), (rW, rH, rF, rT), (rM, rB, rX), (rQ, rA), (rE, rD))) hx hb hr hK hP hS ⟨rfl, rfl⟩ hlocks dRM_named_9
def fRM_state (rW : Nat → Int32) (rF : Nat → Bool) (q : Nat) (o : Nat) : Int32 := (match QRM_find_5 rW q o 16 0 none with | none => 0 | some k4 => (cond (rF k4) 2 1))
set_option maxHeartbeats 4000000 in
set_option maxRecDepth 100000 in
theorem c_RM_state (l : Launch) {D : va_G} {cI cZ : ClassId} {a : Nat → Nat} {A : Nat → Prop} (hA : ∀ v : RS, va_D A (wR cI cZ a v)) (rI : Nat) (rC rN : Int32) (rO rG : Nat → Bool) (rW rH : Nat → Int32) (rF : Nat → Bool) (rT : Nat → Int32) (rM rB : Nat → Int32) (rX : Int32) (rQ : Nat) (rA : Nat → Int32) (rE : Nat → Int32) (rD : Int64) (q : Nat) (o : Nat) (hq : q < 8) (ho : o < 64) : Met l yRM_state wsRM_state ({ frames := 1, cells := 0, slots := 0, locals := 24 }) (va_Pc [.ref (a 0), .int (nI q), .int (nI o)] (gG D (tyR cI cZ) (wR cI cZ a) ((rI, rC, rN), (rO, rG), (rW, rH, rF, rT), (rM, rB, rX), (rQ, rA), (rE, rD)))) (va_Qi (fun (r : Int32) (u : RS) => r = fRM_state rW rF q o ∧ u = ((rI, 0, rN), (rO, rG), (rW, rH, rF, rT), (rM, rB, rX), (rQ, rA), (rE, rD))) (gG D (tyR cI cZ) (wR cI cZ a)) A) 0 0 A := by
  refine g_enter (by decide) rfl (Nat.le_of_ble_eq_true rfl) ?_
  intro p e s m below meth c ls F hK hP hl
  obtain ⟨hx, hb, hr, hml, hown, hts, hlocks⟩ := id F
  have hS : va_S A s.heap s.heap [] := va_S.rf
  have hl : lv_has ls 4 [(0, .ref (a 0)), (1, .int (nI q)), (2, .int (nI o))] := hl
  refine lv_aload_n hx hb dRM_state_0 rfl (lv_at hl 0 rfl) ?_
  refine lv_iload_n hx hb dRM_state_1 rfl (lv_at hl 1 rfl) ?_
  refine lv_iconst (v := 0) hx hb dRM_state_2 (by decide) ?_
  refine lv_bipush (v := 7) hx hb dRM_state_3 (by decide) ?_
  refine g_roSi (As := [.int (nI q), .int 0, .int 7]) (rest := [.ref (a 0)]) ⟨hx, hb, hml, hown, hts⟩ (c_RM_in l rI rC rN rO rG rW rH rF rT rM rB rX rQ rA rE rD (nI q) 0 7) (cw_S 3 hts k633 k634 k32 k635 rfl rfl rfl (by decide +kernel) ⟨Nat.le_of_ble_eq_true rfl, Nat.le_of_ble_eq_true rfl⟩) hK hP rfl hl.1 rfl (Nat.le_of_ble_eq_true rfl) dRM_state_5 ⟨Nat.zero_le _, Nat.zero_le _⟩ ?_
  refine lv_if_eqb (tgt := 25) hx hb dRM_state_8 (by decide) (fun c1 => absurd (c1.symm.trans (in_K (b := 7) (by omega) (by decide))) (by decide)) (fun c1 => ?_)
  refine lv_iload_n hx hb dRM_state_11 rfl (lv_at hl 2 rfl) ?_
  refine lv_iconst (v := 0) hx hb dRM_state_12 (by decide) ?_
  refine lv_bipush (v := 63) hx hb dRM_state_13 (by decide) ?_
  refine g_roSi (As := [.int (nI o), .int 0, .int 63]) (rest := [.ref (a 0)]) ⟨hx, hb, hml, hown, hts⟩ (c_RM_in l rI rC rN rO rG rW rH rF rT rM rB rX rQ rA rE rD (nI o) 0 63) (cw_S 3 hts k633 k634 k32 k635 rfl rfl rfl (by decide +kernel) ⟨Nat.le_of_ble_eq_true rfl, Nat.le_of_ble_eq_true rfl⟩) hK hP rfl hl.1 rfl (Nat.le_of_ble_eq_true rfl) dRM_state_15 ⟨Nat.zero_le _, Nat.zero_le _⟩ ?_
  refine lv_if_eqb (tgt := 25) hx hb dRM_state_18 (by decide) (fun c2 => absurd (c2.symm.trans (in_K (b := 63) (by omega) (by decide))) (by decide)) (fun c2 => ?_)
  refine lv_iconst (v := 0) hx hb dRM_state_21 (by decide) ?_
  refine lv_goto (tgt := 26) hx hb dRM_state_22 (by decide) ?_
  refine va_put (D := D) (ci := 5) (v := .int 0) (ty := .int) (C := RRM) (T := TRM) (N := 16) hx hb hts inRM tyRM tyRM_ok nmRM hown hK hP (hA _) hS 0 rfl rfl 1 (by decide) (hts _ k576) (fun _ h9 => h9) rfl (by decide +kernel) rfl rfl (Nat.le_of_ble_eq_true rfl) dRM_state_26 (fun H locs hP _ hS => ?_)
  have hP : va_P D vwCl (wR cI cZ a ((rI, 0, rN), (rO, rG), (rW, rH, rF, rT), (rM, rB, rX), (rQ, rA), (rE, rD))) H := hP
  refine lv_aload_n hx hb dRM_state_29 rfl (lv_at hl 0 rfl) ?_
  refine va_get (D := D) (ci := 5) (v := .int 0) (C := RRM) (T := TRM) (N := 16) hx hb hts inRM hown hK hP 0 rfl rfl 1 (by decide) (hts _ k576) (fun _ h9 => h9) rfl dRM_state_30 ?_
  refine lv_if_le (tgt := 40) hx hb dRM_state_33 (by decide) (fun _ => ?_) (fun c0 => absurd (by decide) c0)
  refine lv_aload_n hx hb dRM_state_40 rfl (lv_at hl 0 rfl) ?_
  refine lv_iload_n hx hb dRM_state_41 rfl (lv_at hl 1 rfl) ?_
  refine lv_iload_n hx hb dRM_state_42 rfl (lv_at hl 2 rfl) ?_
  refine g_callVi (As := [.int (nI q), .int (nI o)]) (rest := []) ⟨hx, hb, hml, hown, hts⟩ (c_RM_find l hA rI 0 rN rO rG rW rH rF rT rM rB rX rQ rA rE rD q o (by first | omega | assumption) (by first | omega | assumption)) (cwV 2 hts (gw_V k652 k654 k20 k32 k655) rfl rfl rfl (by decide +kernel) ⟨Nat.le_of_ble_eq_true rfl, Nat.le_of_ble_eq_true rfl⟩) hK hP (va_recv hK hP (ci := 5) (q0 := 0) rfl rfl) rfl hl.1 rfl (Nat.le_of_ble_eq_true rfl) dRM_state_43 ⟨Nat.zero_le _, Nat.zero_le _⟩ (fun q h => h) hS (fun H locs hP hS => ?_)
  rcases ho5 : QRM_find_5 rW q o 16 0 none with _ | k4
  · refine lv_istore_n (lv' := [(3, .int (oi none)), (0, .ref (a 0)), (1, .int (nI q)), (2, .int (nI o))]) hx hb dRM_state_46 rfl hl (by decide) rfl (fun ls hl => ?_)
    refine lv_iload_n hx hb dRM_state_47 rfl (lv_at hl 0 rfl) ?_
    refine lv_if_ge (tgt := 55) hx hb dRM_state_48 (by decide) (fun c0 => absurd c0 (by decide)) (fun _ => ?_)
    refine lv_iconst (v := 0) hx hb dRM_state_51 (by decide) ?_
    refine lv_goto (tgt := 69) hx hb dRM_state_52 (by decide) ?_
    have e1 : fRM_state rW rF q o = 0 := by simp only [fRM_state, ho5]
    exact g_iret (v := ((rI, 0, rN), (rO, rG), (rW, rH, rF, rT), (rM, rB, rX), (rQ, rA), (rE, rD))) hx hb hr hK hP hS ⟨by first | rfl | (rw [e1] <;> rfl), by first | rfl | (rw [e1] <;> rfl)⟩ hlocks dRM_state_69
  · have hk4 := c_RM_find_lt ho5
    refine lv_istore_n (lv' := [(3, .int (nI k4)), (0, .ref (a 0)), (1, .int (nI q)), (2, .int (nI o))]) hx hb dRM_state_46 rfl hl (by decide) rfl (fun ls hl => ?_)
    refine lv_iload_n hx hb dRM_state_47 rfl (lv_at hl 0 rfl) ?_
    refine lv_if_ge (tgt := 55) hx hb dRM_state_48 (by decide) (fun _ => ?_) (fun c0 => absurd (nI_pos' (by omega)) c0)
    refine lv_aload_n hx hb dRM_state_55 rfl (lv_at hl 1 rfl) ?_
    refine va_get (D := D) (ci := 5) (v := .ref (a 5)) (C := RRM) (T := TRM) (N := 16) hx hb hts inRM hown hK hP 0 rfl rfl 7 (by decide) (hts _ k582) (fun _ h9 => h9) rfl dRM_state_56 ?_
    refine lv_iload_n hx hb dRM_state_59 rfl (lv_at hl 0 rfl) ?_
    refine ir_zald hx hb hK hP 5 1 rfl rfl (k := k4) (by omega) (by decide) dRM_state_60 ?_
    refine lv_if_eqb (tgt := 68) hx hb dRM_state_61 (by decide) (fun c8 => ?_) (fun c8 => ?_)
    · refine lv_iconst (v := 1) hx hb dRM_state_68 (by decide) ?_
      have e1 : fRM_state rW rF q o = 1 := by first | (simp only [fRM_state, ho5, cond_no c8]; done) | (simp only [fRM_state, ho5]; simp only [cond_no c8])
      exact g_iret (v := ((rI, 0, rN), (rO, rG), (rW, rH, rF, rT), (rM, rB, rX), (rQ, rA), (rE, rD))) hx hb hr hK hP hS ⟨by first | rfl | (rw [e1] <;> rfl), by first | rfl | (rw [e1] <;> rfl)⟩ hlocks dRM_state_69
    · refine lv_iconst (v := 2) hx hb dRM_state_64 (by decide) ?_
      refine lv_goto (tgt := 69) hx hb dRM_state_65 (by decide) ?_
      have e1 : fRM_state rW rF q o = 2 := by first | (simp only [fRM_state, ho5, cond_yes c8]; done) | (simp only [fRM_state, ho5]; simp only [cond_yes c8])
      exact g_iret (v := ((rI, 0, rN), (rO, rG), (rW, rH, rF, rT), (rM, rB, rX), (rQ, rA), (rE, rD))) hx hb hr hK hP hS ⟨by first | rfl | (rw [e1] <;> rfl), by first | rfl | (rw [e1] <;> rfl)⟩ hlocks dRM_state_69
def fRM_known (rM : Nat → Int32) (g : Nat) : Int32 := (if (rM g) ≤ 0 then (-1) else rM g)
set_option maxHeartbeats 4000000 in
set_option maxRecDepth 100000 in
theorem c_RM_known (l : Launch) {D : va_G} {cI cZ : ClassId} {a : Nat → Nat} {A : Nat → Prop} (hA : ∀ v : RS, va_D A (wR cI cZ a v)) (rI : Nat) (rC rN : Int32) (rO rG : Nat → Bool) (rW rH : Nat → Int32) (rF : Nat → Bool) (rT : Nat → Int32) (rM rB : Nat → Int32) (rX : Int32) (rQ : Nat) (rA : Nat → Int32) (rE : Nat → Int32) (rD : Int64) (g : Nat) (hg : g < 64) : Met l yRM_known wsRM_known ({ frames := 1, cells := 0, slots := 0, locals := 22 }) (va_Pc [.ref (a 0), .int (nI g)] (gG D (tyR cI cZ) (wR cI cZ a) ((rI, rC, rN), (rO, rG), (rW, rH, rF, rT), (rM, rB, rX), (rQ, rA), (rE, rD)))) (va_Qi (fun (r : Int32) (u : RS) => r = fRM_known rM g ∧ u = ((rI, 0, rN), (rO, rG), (rW, rH, rF, rT), (rM, rB, rX), (rQ, rA), (rE, rD))) (gG D (tyR cI cZ) (wR cI cZ a)) A) 0 0 A := by
  refine g_enter (by decide) rfl (Nat.le_of_ble_eq_true rfl) ?_
  intro p e s m below meth c ls F hK hP hl
  obtain ⟨hx, hb, hr, hml, hown, hts, hlocks⟩ := id F
  have hS : va_S A s.heap s.heap [] := va_S.rf
  have hl : lv_has ls 2 [(0, .ref (a 0)), (1, .int (nI g))] := hl
  refine lv_aload_n hx hb dRM_known_0 rfl (lv_at hl 0 rfl) ?_
  refine lv_iload_n hx hb dRM_known_1 rfl (lv_at hl 1 rfl) ?_
  refine lv_iconst (v := 0) hx hb dRM_known_2 (by decide) ?_
  refine lv_bipush (v := 63) hx hb dRM_known_3 (by decide) ?_
  refine g_roSi (As := [.int (nI g), .int 0, .int 63]) (rest := [.ref (a 0)]) ⟨hx, hb, hml, hown, hts⟩ (c_RM_in l rI rC rN rO rG rW rH rF rT rM rB rX rQ rA rE rD (nI g) 0 63) (cw_S 3 hts k633 k634 k32 k635 rfl rfl rfl (by decide +kernel) ⟨Nat.le_of_ble_eq_true rfl, Nat.le_of_ble_eq_true rfl⟩) hK hP rfl hl.1 rfl (Nat.le_of_ble_eq_true rfl) dRM_known_5 ⟨Nat.zero_le _, Nat.zero_le _⟩ ?_
  refine lv_if_eqb (tgt := 15) hx hb dRM_known_8 (by decide) (fun c1 => absurd (c1.symm.trans (in_K (b := 63) (by omega) (by decide))) (by decide)) (fun c1 => ?_)
  refine lv_iconst (v := 0) hx hb dRM_known_11 (by decide) ?_
  refine lv_goto (tgt := 16) hx hb dRM_known_12 (by decide) ?_
  refine va_put (D := D) (ci := 5) (v := .int 0) (ty := .int) (C := RRM) (T := TRM) (N := 16) hx hb hts inRM tyRM tyRM_ok nmRM hown hK hP (hA _) hS 0 rfl rfl 1 (by decide) (hts _ k576) (fun _ h9 => h9) rfl (by decide +kernel) rfl rfl (Nat.le_of_ble_eq_true rfl) dRM_known_16 (fun H locs hP _ hS => ?_)
  have hP : va_P D vwCl (wR cI cZ a ((rI, 0, rN), (rO, rG), (rW, rH, rF, rT), (rM, rB, rX), (rQ, rA), (rE, rD))) H := hP
  refine lv_aload_n hx hb dRM_known_19 rfl (lv_at hl 0 rfl) ?_
  refine va_get (D := D) (ci := 5) (v := .int 0) (C := RRM) (T := TRM) (N := 16) hx hb hts inRM hown hK hP 0 rfl rfl 1 (by decide) (hts _ k576) (fun _ h9 => h9) rfl dRM_known_20 ?_
  refine lv_if_le (tgt := 30) hx hb dRM_known_23 (by decide) (fun _ => ?_) (fun c0 => absurd (by decide) c0)
  refine lv_aload_n hx hb dRM_known_30 rfl (lv_at hl 0 rfl) ?_
  refine va_get (D := D) (ci := 5) (v := .ref (a 7)) (C := RRM) (T := TRM) (N := 16) hx hb hts inRM hown hK hP 0 rfl rfl 9 (by decide) (hts _ k584) (fun _ h9 => h9) rfl dRM_known_31 ?_
  refine lv_iload_n hx hb dRM_known_34 rfl (lv_at hl 1 rfl) ?_
  refine ir_iald hx hb hK hP 7 0 rfl rfl (k := g) (by omega) (by decide) dRM_known_35 ?_
  refine lv_if_le (tgt := 48) hx hb dRM_known_36 (by decide) (fun c3 => ?_) (fun c3 => ?_)
  · refine lv_iconst (v := (-1)) hx hb dRM_known_48 (by decide) ?_
    have e1 : fRM_known rM g = (-1) := by simp only [fRM_known, if_pos c3]
    exact g_iret (v := ((rI, 0, rN), (rO, rG), (rW, rH, rF, rT), (rM, rB, rX), (rQ, rA), (rE, rD))) hx hb hr hK hP hS ⟨by first | rfl | (rw [e1] <;> rfl), by first | rfl | (rw [e1] <;> rfl)⟩ hlocks dRM_known_49
  · refine lv_aload_n hx hb dRM_known_39 rfl (lv_at hl 0 rfl) ?_
    refine va_get (D := D) (ci := 5) (v := .ref (a 7)) (C := RRM) (T := TRM) (N := 16) hx hb hts inRM hown hK hP 0 rfl rfl 9 (by decide) (hts _ k584) (fun _ h9 => h9) rfl dRM_known_40 ?_
    refine lv_iload_n hx hb dRM_known_43 rfl (lv_at hl 1 rfl) ?_
    refine ir_iald hx hb hK hP 7 0 rfl rfl (k := g) (by omega) (by decide) dRM_known_44 ?_
    refine lv_goto (tgt := 49) hx hb dRM_known_45 (by decide) ?_
    have e1 : fRM_known rM g = rM g := by simp only [fRM_known, if_neg c3]
    exact g_iret (v := ((rI, 0, rN), (rO, rG), (rW, rH, rF, rT), (rM, rB, rX), (rQ, rA), (rE, rD))) hx hb hr hK hP hS ⟨by first | rfl | (rw [e1] <;> rfl), by first | rfl | (rw [e1] <;> rfl)⟩ hlocks dRM_known_49
set_option maxHeartbeats 4000000 in
set_option maxRecDepth 100000 in
theorem c_RM_body (l : Launch) {D : va_G} {cI cZ : ClassId} {a : Nat → Nat} {A : Nat → Prop} (hA : ∀ v : RS, va_D A (wR cI cZ a v)) (rI : Nat) (rC rN : Int32) (rO rG : Nat → Bool) (rW rH : Nat → Int32) (rF : Nat → Bool) (rT : Nat → Int32) (rM rB : Nat → Int32) (rX : Int32) (rQ : Nat) (rA : Nat → Int32) (rE : Nat → Int32) (rD : Int64) (g : Nat) (hg : g < 64) : Met l yRM_body wsRM_body ({ frames := 1, cells := 0, slots := 0, locals := 22 }) (va_Pc [.ref (a 0), .int (nI g)] (gG D (tyR cI cZ) (wR cI cZ a) ((rI, rC, rN), (rO, rG), (rW, rH, rF, rT), (rM, rB, rX), (rQ, rA), (rE, rD)))) (va_Qi (fun (r : Int32) (u : RS) => r = rB g ∧ u = ((rI, 0, rN), (rO, rG), (rW, rH, rF, rT), (rM, rB, rX), (rQ, rA), (rE, rD))) (gG D (tyR cI cZ) (wR cI cZ a)) A) 0 0 A := by
  refine g_enter (by decide) rfl (Nat.le_of_ble_eq_true rfl) ?_
  intro p e s m below meth c ls F hK hP hl
  obtain ⟨hx, hb, hr, hml, hown, hts, hlocks⟩ := id F
  have hS : va_S A s.heap s.heap [] := va_S.rf
  have hl : lv_has ls 2 [(0, .ref (a 0)), (1, .int (nI g))] := hl
  refine lv_aload_n hx hb dRM_body_0 rfl (lv_at hl 0 rfl) ?_
  refine lv_iload_n hx hb dRM_body_1 rfl (lv_at hl 1 rfl) ?_
  refine lv_iconst (v := 0) hx hb dRM_body_2 (by decide) ?_
  refine lv_bipush (v := 63) hx hb dRM_body_3 (by decide) ?_
  refine g_roSi (As := [.int (nI g), .int 0, .int 63]) (rest := [.ref (a 0)]) ⟨hx, hb, hml, hown, hts⟩ (c_RM_in l rI rC rN rO rG rW rH rF rT rM rB rX rQ rA rE rD (nI g) 0 63) (cw_S 3 hts k633 k634 k32 k635 rfl rfl rfl (by decide +kernel) ⟨Nat.le_of_ble_eq_true rfl, Nat.le_of_ble_eq_true rfl⟩) hK hP rfl hl.1 rfl (Nat.le_of_ble_eq_true rfl) dRM_body_5 ⟨Nat.zero_le _, Nat.zero_le _⟩ ?_
  refine lv_if_eqb (tgt := 15) hx hb dRM_body_8 (by decide) (fun c1 => absurd (c1.symm.trans (in_K (b := 63) (by omega) (by decide))) (by decide)) (fun c1 => ?_)
  refine lv_iconst (v := 0) hx hb dRM_body_11 (by decide) ?_
  refine lv_goto (tgt := 16) hx hb dRM_body_12 (by decide) ?_
  refine va_put (D := D) (ci := 5) (v := .int 0) (ty := .int) (C := RRM) (T := TRM) (N := 16) hx hb hts inRM tyRM tyRM_ok nmRM hown hK hP (hA _) hS 0 rfl rfl 1 (by decide) (hts _ k576) (fun _ h9 => h9) rfl (by decide +kernel) rfl rfl (Nat.le_of_ble_eq_true rfl) dRM_body_16 (fun H locs hP _ hS => ?_)
  have hP : va_P D vwCl (wR cI cZ a ((rI, 0, rN), (rO, rG), (rW, rH, rF, rT), (rM, rB, rX), (rQ, rA), (rE, rD))) H := hP
  refine lv_aload_n hx hb dRM_body_19 rfl (lv_at hl 0 rfl) ?_
  refine va_get (D := D) (ci := 5) (v := .int 0) (C := RRM) (T := TRM) (N := 16) hx hb hts inRM hown hK hP 0 rfl rfl 1 (by decide) (hts _ k576) (fun _ h9 => h9) rfl dRM_body_20 ?_
  refine lv_if_le (tgt := 30) hx hb dRM_body_23 (by decide) (fun _ => ?_) (fun c0 => absurd (by decide) c0)
  refine lv_aload_n hx hb dRM_body_30 rfl (lv_at hl 0 rfl) ?_
  refine va_get (D := D) (ci := 5) (v := .ref (a 8)) (C := RRM) (T := TRM) (N := 16) hx hb hts inRM hown hK hP 0 rfl rfl 10 (by decide) (hts _ k585) (fun _ h9 => h9) rfl dRM_body_31 ?_
  refine lv_iload_n hx hb dRM_body_34 rfl (lv_at hl 1 rfl) ?_
  refine ir_iald hx hb hK hP 8 0 rfl rfl (k := g) (by omega) (by decide) dRM_body_35 ?_
  exact g_iret (v := ((rI, 0, rN), (rO, rG), (rW, rH, rF, rT), (rM, rB, rX), (rQ, rA), (rE, rD))) hx hb hr hK hP hS ⟨rfl, rfl⟩ hlocks dRM_body_36
def QRM_due_53 (rT : Nat → Int32) (j : Nat) : Nat → Nat → Int32 → Int32
  | 0, k, g => g
  | n + 1, k, g => (if (rT ((64 * j) + k)) < 0 then QRM_due_53 rT j n (k + 1) (g + 0) else QRM_due_53 rT j n (k + 1) (g + 1))
set_option maxHeartbeats 4000000 in
set_option maxRecDepth 100000 in
theorem lqRM_due_53 {p : Program} {l : Launch} {e : Env} {s : State} {m : MethodId} {args : Array Value} {below : List Frame} {meth : Method} {c : Code} {D : va_G} {cI cZ : ClassId} {a : Nat → Nat} {A : Nat → Prop} (hA : ∀ v : RS, va_D A (wR cI cZ a v)) (F : gFix p c cRM_due meth (some .int) m s args bigW RRM 6) (hK : va_K D vwCl (tyR cI cZ) s) (rI : Nat) (rC : Int32) (rN : Int32) (rO : Nat → Bool) (rG : Nat → Bool) (rW : Nat → Int32) (rH : Nat → Int32) (rF : Nat → Bool) (rT : Nat → Int32) (rM : Nat → Int32) (rB : Nat → Int32) (rX : Int32) (rQ : Nat) (rA : Nat → Int32) (rE : Nat → Int32) (rD : Int64) (j : Nat) {q : Nat} {o : Nat} (hq : q < 8) (ho : o < 64) (hj : j < 16) (Q : State → Prop) : ∀ (n k : Nat) (g : Int32)  (ls : Array Slot) (H : Heap) (locs : List Loc), k + n = 64 → va_P D vwCl (wR cI cZ a ((rI, rC, rN), (rO, rG), (rW, rH, rF, rT), (rM, rB, rX), (rQ, rA), (rE, rD))) H → va_S A s.heap H locs → lv_has ls 6 [(5, .int (nI k)), (4, .int g), (3, .int (nI j)), (0, .ref (a 0)), (1, .int (nI q)), (2, .int (nI o))] → (∀ (ls : Array Slot) (H : Heap) (locs : List Loc), va_P D vwCl (wR cI cZ a ((rI, rC, rN), (rO, rG), (rW, rH, rF, rT), (rM, rB, rX), (rQ, rA), (rE, rD))) H → va_S A s.heap H locs → lv_has ls 6 [(5, .int (nI 64)), (4, .int (QRM_due_53 rT j n k g)), (3, .int (nI j)), (0, .ref (a 0)), (1, .int (nI q)), (2, .int (nI o))] → W p l e ({ frames := 1, cells := 0, slots := 0, locals := 24 }) s m args below meth c H locs 0 0 Q (F0 m 95 ls [])) → W p l e ({ frames := 1, cells := 0, slots := 0, locals := 24 }) s m args below meth c H locs 0 0 Q (F0 m 53 ls []) := by
  obtain ⟨hx, hb, hr, hml, hown, hts, hlocks⟩ := id F
  intro n
  induction n with
  | zero =>
    intro k g ls H locs hkn  hP hS hl hkk
    refine lv_iload hx hb dRM_due_53 (lv_at hl 0 rfl) ?_
    refine lv_bipush (v := nI 64) hx hb dRM_due_55 (by decide) ?_
    refine lv_icmp_ge (tgt := 95) hx hb dRM_due_57 (by decide) (fun _ => ?_) (fun c0 => absurd (nI_le (by omega) (by omega)) c0)
    obtain rfl : k = 64 := by omega
    exact hkk ls H locs hP hS (lv_sub hl [0, 1, 2, 3, 4, 5] rfl)
  | succ n ih =>
    intro k g ls H locs hkn  hP hS hl hkk
    refine lv_iload hx hb dRM_due_53 (lv_at hl 0 rfl) ?_
    refine lv_bipush (v := nI 64) hx hb dRM_due_55 (by decide) ?_
    refine lv_icmp_ge (tgt := 95) hx hb dRM_due_57 (by decide) (fun c0 => absurd c0 (nI_ge (by omega) (by omega))) (fun _ => ?_)
    refine lv_iload_n hx hb dRM_due_60 rfl (lv_at hl 2 rfl) ?_
    refine lv_if_lt (tgt := 95) hx hb dRM_due_61 (by decide) (fun c0 => absurd c0 (nI_pos (by omega))) (fun _ => ?_)
    refine lv_iload hx hb dRM_due_64 (lv_at hl 1 rfl) ?_
    refine lv_aload_n hx hb dRM_due_66 rfl (lv_at hl 3 rfl) ?_
    refine va_get (D := D) (ci := 5) (v := .ref (a 6)) (C := RRM) (T := TRM) (N := 16) hx hb hts inRM hown hK hP 0 rfl rfl 8 (by decide) (hts _ k583) (fun _ h9 => h9) rfl dRM_due_67 ?_
    refine lv_bipush (v := 64) hx hb dRM_due_70 (by decide) ?_
    refine lv_iload_n hx hb dRM_due_72 rfl (lv_at hl 2 rfl) ?_
    refine lv_imul hx hb dRM_due_73 ?_
    refine lv_eqi (y := nI (64 * j)) (pk_mul 64 j) ?_
    refine lv_iload hx hb dRM_due_74 (lv_at hl 0 rfl) ?_
    refine lv_iadd hx hb dRM_due_76 ?_
    refine lv_eqi (y := nI ((64 * j) + k)) (nI_add (64 * j) k) ?_
    refine ir_iald hx hb hK hP 6 0 rfl rfl (k := (64 * j) + k) (by omega) (by decide) dRM_due_77 ?_
    refine lv_if_lt (tgt := 85) hx hb dRM_due_78 (by decide) (fun c11 => ?_) (fun c11 => ?_)
    · refine lv_iconst (v := 0) hx hb dRM_due_85 (by decide) ?_
      refine lv_iadd hx hb dRM_due_86 ?_
      refine lv_istore (lv' := [(4, .int (g + 0)), (5, .int (nI k)), (3, .int (nI j)), (0, .ref (a 0)), (1, .int (nI q)), (2, .int (nI o))]) hx hb dRM_due_87 hl (by decide) rfl (fun ls hl => ?_)
      refine lv_iinc (v := nI (k + 1)) (lv' := [(5, .int (nI (k + 1))), (4, .int (g + 0)), (3, .int (nI j)), (0, .ref (a 0)), (1, .int (nI q)), (2, .int (nI o))]) hx hb dRM_due_89 hl (k := 1) rfl (nI_1 k) (by decide) rfl (fun ls hl => ?_)
      refine lv_goto (tgt := 53) hx hb dRM_due_92 (by decide) ?_
      have e1 : QRM_due_53 rT j (n + 1) k g = QRM_due_53 rT j n (k + 1) (g + 0) := by simp only [QRM_due_53, if_pos c11]
      rw [e1] at hkk
      exact ih (k + 1) (g + 0) ls H locs (by omega)  hP hS (lv_sub hl [0, 1, 2, 3, 4, 5] rfl) hkk
    · refine lv_iconst (v := 1) hx hb dRM_due_81 (by decide) ?_
      refine lv_goto (tgt := 86) hx hb dRM_due_82 (by decide) ?_
      refine lv_iadd hx hb dRM_due_86 ?_
      refine lv_istore (lv' := [(4, .int (g + 1)), (5, .int (nI k)), (3, .int (nI j)), (0, .ref (a 0)), (1, .int (nI q)), (2, .int (nI o))]) hx hb dRM_due_87 hl (by decide) rfl (fun ls hl => ?_)
      refine lv_iinc (v := nI (k + 1)) (lv' := [(5, .int (nI (k + 1))), (4, .int (g + 1)), (3, .int (nI j)), (0, .ref (a 0)), (1, .int (nI q)), (2, .int (nI o))]) hx hb dRM_due_89 hl (k := 1) rfl (nI_1 k) (by decide) rfl (fun ls hl => ?_)
      refine lv_goto (tgt := 53) hx hb dRM_due_92 (by decide) ?_
      have e1 : QRM_due_53 rT j (n + 1) k g = QRM_due_53 rT j n (k + 1) (g + 1) := by simp only [QRM_due_53, if_neg c11]
      rw [e1] at hkk
      exact ih (k + 1) (g + 1) ls H locs (by omega)  hP hS (lv_sub hl [0, 1, 2, 3, 4, 5] rfl) hkk
def fRM_due (rW : Nat → Int32) (rT : Nat → Int32) (q : Nat) (o : Nat) : Int32 := (match QRM_find_5 rW q o 16 0 none with | none => (if 64 ≤ 0 then 0 else 0) | some k4 => QRM_due_53 rT k4 64 0 0)
set_option maxHeartbeats 4000000 in
set_option maxRecDepth 100000 in
theorem c_RM_due (l : Launch) {D : va_G} {cI cZ : ClassId} {a : Nat → Nat} {A : Nat → Prop} (hA : ∀ v : RS, va_D A (wR cI cZ a v)) (rI : Nat) (rC rN : Int32) (rO rG : Nat → Bool) (rW rH : Nat → Int32) (rF : Nat → Bool) (rT : Nat → Int32) (rM rB : Nat → Int32) (rX : Int32) (rQ : Nat) (rA : Nat → Int32) (rE : Nat → Int32) (rD : Int64) (q : Nat) (o : Nat) (hq : q < 8) (ho : o < 64) : Met l yRM_due wsRM_due ({ frames := 1, cells := 0, slots := 0, locals := 24 }) (va_Pc [.ref (a 0), .int (nI q), .int (nI o)] (gG D (tyR cI cZ) (wR cI cZ a) ((rI, rC, rN), (rO, rG), (rW, rH, rF, rT), (rM, rB, rX), (rQ, rA), (rE, rD)))) (va_Qi (fun (r : Int32) (u : RS) => r = fRM_due rW rT q o ∧ u = ((rI, 0, rN), (rO, rG), (rW, rH, rF, rT), (rM, rB, rX), (rQ, rA), (rE, rD))) (gG D (tyR cI cZ) (wR cI cZ a)) A) 0 0 A := by
  refine g_enter (by decide) rfl (Nat.le_of_ble_eq_true rfl) ?_
  intro p e s m below meth c ls F hK hP hl
  obtain ⟨hx, hb, hr, hml, hown, hts, hlocks⟩ := id F
  have hS : va_S A s.heap s.heap [] := va_S.rf
  have hl : lv_has ls 6 [(0, .ref (a 0)), (1, .int (nI q)), (2, .int (nI o))] := hl
  refine lv_aload_n hx hb dRM_due_0 rfl (lv_at hl 0 rfl) ?_
  refine lv_iload_n hx hb dRM_due_1 rfl (lv_at hl 1 rfl) ?_
  refine lv_iconst (v := 0) hx hb dRM_due_2 (by decide) ?_
  refine lv_bipush (v := 7) hx hb dRM_due_3 (by decide) ?_
  refine g_roSi (As := [.int (nI q), .int 0, .int 7]) (rest := [.ref (a 0)]) ⟨hx, hb, hml, hown, hts⟩ (c_RM_in l rI rC rN rO rG rW rH rF rT rM rB rX rQ rA rE rD (nI q) 0 7) (cw_S 3 hts k633 k634 k32 k635 rfl rfl rfl (by decide +kernel) ⟨Nat.le_of_ble_eq_true rfl, Nat.le_of_ble_eq_true rfl⟩) hK hP rfl hl.1 rfl (Nat.le_of_ble_eq_true rfl) dRM_due_5 ⟨Nat.zero_le _, Nat.zero_le _⟩ ?_
  refine lv_if_eqb (tgt := 25) hx hb dRM_due_8 (by decide) (fun c1 => absurd (c1.symm.trans (in_K (b := 7) (by omega) (by decide))) (by decide)) (fun c1 => ?_)
  refine lv_iload_n hx hb dRM_due_11 rfl (lv_at hl 2 rfl) ?_
  refine lv_iconst (v := 0) hx hb dRM_due_12 (by decide) ?_
  refine lv_bipush (v := 63) hx hb dRM_due_13 (by decide) ?_
  refine g_roSi (As := [.int (nI o), .int 0, .int 63]) (rest := [.ref (a 0)]) ⟨hx, hb, hml, hown, hts⟩ (c_RM_in l rI rC rN rO rG rW rH rF rT rM rB rX rQ rA rE rD (nI o) 0 63) (cw_S 3 hts k633 k634 k32 k635 rfl rfl rfl (by decide +kernel) ⟨Nat.le_of_ble_eq_true rfl, Nat.le_of_ble_eq_true rfl⟩) hK hP rfl hl.1 rfl (Nat.le_of_ble_eq_true rfl) dRM_due_15 ⟨Nat.zero_le _, Nat.zero_le _⟩ ?_
  refine lv_if_eqb (tgt := 25) hx hb dRM_due_18 (by decide) (fun c2 => absurd (c2.symm.trans (in_K (b := 63) (by omega) (by decide))) (by decide)) (fun c2 => ?_)
  refine lv_iconst (v := 0) hx hb dRM_due_21 (by decide) ?_
  refine lv_goto (tgt := 26) hx hb dRM_due_22 (by decide) ?_
  refine va_put (D := D) (ci := 5) (v := .int 0) (ty := .int) (C := RRM) (T := TRM) (N := 16) hx hb hts inRM tyRM tyRM_ok nmRM hown hK hP (hA _) hS 0 rfl rfl 1 (by decide) (hts _ k576) (fun _ h9 => h9) rfl (by decide +kernel) rfl rfl (Nat.le_of_ble_eq_true rfl) dRM_due_26 (fun H locs hP _ hS => ?_)
  have hP : va_P D vwCl (wR cI cZ a ((rI, 0, rN), (rO, rG), (rW, rH, rF, rT), (rM, rB, rX), (rQ, rA), (rE, rD))) H := hP
  refine lv_aload_n hx hb dRM_due_29 rfl (lv_at hl 0 rfl) ?_
  refine va_get (D := D) (ci := 5) (v := .int 0) (C := RRM) (T := TRM) (N := 16) hx hb hts inRM hown hK hP 0 rfl rfl 1 (by decide) (hts _ k576) (fun _ h9 => h9) rfl dRM_due_30 ?_
  refine lv_if_le (tgt := 40) hx hb dRM_due_33 (by decide) (fun _ => ?_) (fun c0 => absurd (by decide) c0)
  refine lv_aload_n hx hb dRM_due_40 rfl (lv_at hl 0 rfl) ?_
  refine lv_iload_n hx hb dRM_due_41 rfl (lv_at hl 1 rfl) ?_
  refine lv_iload_n hx hb dRM_due_42 rfl (lv_at hl 2 rfl) ?_
  refine g_callVi (As := [.int (nI q), .int (nI o)]) (rest := []) ⟨hx, hb, hml, hown, hts⟩ (c_RM_find l hA rI 0 rN rO rG rW rH rF rT rM rB rX rQ rA rE rD q o (by first | omega | assumption) (by first | omega | assumption)) (cwV 2 hts (gw_V k652 k654 k20 k32 k655) rfl rfl rfl (by decide +kernel) ⟨Nat.le_of_ble_eq_true rfl, Nat.le_of_ble_eq_true rfl⟩) hK hP (va_recv hK hP (ci := 5) (q0 := 0) rfl rfl) rfl hl.1 rfl (Nat.le_of_ble_eq_true rfl) dRM_due_43 ⟨Nat.zero_le _, Nat.zero_le _⟩ (fun q h => h) hS (fun H locs hP hS => ?_)
  rcases ho5 : QRM_find_5 rW q o 16 0 none with _ | k4
  · refine lv_istore_n (lv' := [(3, .int (oi none)), (0, .ref (a 0)), (1, .int (nI q)), (2, .int (nI o))]) hx hb dRM_due_46 rfl hl (by decide) rfl (fun ls hl => ?_)
    refine lv_iconst (v := 0) hx hb dRM_due_47 (by decide) ?_
    refine lv_istore (lv' := [(4, .int 0), (3, .int (oi none)), (0, .ref (a 0)), (1, .int (nI q)), (2, .int (nI o))]) hx hb dRM_due_48 hl (by decide) rfl (fun ls hl => ?_)
    refine lv_iconst (v := nI 0) hx hb dRM_due_50 (by decide) ?_
    refine lv_istore (lv' := [(5, .int (nI 0)), (4, .int 0), (3, .int (oi none)), (0, .ref (a 0)), (1, .int (nI q)), (2, .int (nI o))]) hx hb dRM_due_51 hl (by decide) rfl (fun ls hl => ?_)
    refine lv_iload hx hb dRM_due_53 (lv_at hl 0 rfl) ?_
    refine lv_bipush (v := nI 64) hx hb dRM_due_55 (by decide) ?_
    refine lv_icmp_ge (tgt := 95) hx hb dRM_due_57 (by decide) (fun c6 => ?_) (fun c6 => ?_)
    · have c6 := (nI_leI (a := 64) (b := 0) (by omega) (by omega)).mp c6
      refine lv_iload hx hb dRM_due_95 (lv_at hl 1 rfl) ?_
      have e1 : fRM_due rW rT q o = 0 := by first | (simp only [fRM_due, ho5, if_pos c6]; done) | (simp only [fRM_due, ho5]; simp only [if_pos c6])
      exact g_iret (v := ((rI, 0, rN), (rO, rG), (rW, rH, rF, rT), (rM, rB, rX), (rQ, rA), (rE, rD))) hx hb hr hK hP hS ⟨by first | rfl | (rw [e1] <;> rfl), by first | rfl | (rw [e1] <;> rfl)⟩ hlocks dRM_due_97
    · have c6 : ¬ 64 ≤ 0 := fun q => c6 ((nI_leI (a := 64) (b := 0) (by omega) (by omega)).mpr q)
      refine lv_iload_n hx hb dRM_due_60 rfl (lv_at hl 2 rfl) ?_
      refine lv_if_lt (tgt := 95) hx hb dRM_due_61 (by decide) (fun _ => ?_) (fun c0 => absurd (by decide) c0)
      refine lv_iload hx hb dRM_due_95 (lv_at hl 1 rfl) ?_
      have e1 : fRM_due rW rT q o = 0 := by first | (simp only [fRM_due, ho5, if_neg c6]; done) | (simp only [fRM_due, ho5]; simp only [if_neg c6])
      exact g_iret (v := ((rI, 0, rN), (rO, rG), (rW, rH, rF, rT), (rM, rB, rX), (rQ, rA), (rE, rD))) hx hb hr hK hP hS ⟨by first | rfl | (rw [e1] <;> rfl), by first | rfl | (rw [e1] <;> rfl)⟩ hlocks dRM_due_97
  · have hk4 := c_RM_find_lt ho5
    refine lv_istore_n (lv' := [(3, .int (nI k4)), (0, .ref (a 0)), (1, .int (nI q)), (2, .int (nI o))]) hx hb dRM_due_46 rfl hl (by decide) rfl (fun ls hl => ?_)
    refine lv_iconst (v := 0) hx hb dRM_due_47 (by decide) ?_
    refine lv_istore (lv' := [(4, .int 0), (3, .int (nI k4)), (0, .ref (a 0)), (1, .int (nI q)), (2, .int (nI o))]) hx hb dRM_due_48 hl (by decide) rfl (fun ls hl => ?_)
    refine lv_iconst (v := nI 0) hx hb dRM_due_50 (by decide) ?_
    refine lv_istore (lv' := [(5, .int (nI 0)), (4, .int 0), (3, .int (nI k4)), (0, .ref (a 0)), (1, .int (nI q)), (2, .int (nI o))]) hx hb dRM_due_51 hl (by decide) rfl (fun ls hl => ?_)
    refine lqRM_due_53 hA F hK rI 0 rN rO rG rW rH rF rT rM rB rX rQ rA rE rD k4 (by first | omega | assumption) (by first | omega | assumption) (by first | omega | assumption) _ 64 0 0 ls H locs (by omega)  hP hS (lv_sub hl [0, 1, 2, 3, 4, 5] rfl) (fun ls H locs hP hS hl => ?_)
    have hP : va_P D vwCl (wR cI cZ a ((rI, 0, rN), (rO, rG), (rW, rH, rF, rT), (rM, rB, rX), (rQ, rA), (rE, rD))) H := hP
    refine lv_iload hx hb dRM_due_95 (lv_at hl 1 rfl) ?_
    have e1 : fRM_due rW rT q o = QRM_due_53 rT k4 64 0 0 := by simp only [fRM_due, ho5]
    exact g_iret (v := ((rI, 0, rN), (rO, rG), (rW, rH, rF, rT), (rM, rB, rX), (rQ, rA), (rE, rD))) hx hb hr hK hP hS ⟨by first | rfl | (rw [e1] <;> rfl), by first | rfl | (rw [e1] <;> rfl)⟩ hlocks dRM_due_97
def QRM_count_9 (rW : Nat → Int32) (rF : Nat → Bool) (b : Bool) : Nat → Nat → Int32 → Int32
  | 0, k, g => g
  | n + 1, k, g => (if (rW k) < 0 then QRM_count_9 rW rF b n (k + 1) (g + 0) else (cond b (cond (rF k) (QRM_count_9 rW rF b n (k + 1) (g + 1)) (QRM_count_9 rW rF b n (k + 1) (g + 0))) (QRM_count_9 rW rF b n (k + 1) (g + 1))))
set_option maxHeartbeats 4000000 in
set_option maxRecDepth 100000 in
theorem lqRM_count_9 {p : Program} {l : Launch} {e : Env} {s : State} {m : MethodId} {args : Array Value} {below : List Frame} {meth : Method} {c : Code} {D : va_G} {cI cZ : ClassId} {a : Nat → Nat} {A : Nat → Prop} (hA : ∀ v : RS, va_D A (wR cI cZ a v)) (F : gFix p c cRM_count meth (some .int) m s args bigW RRM 4) (hK : va_K D vwCl (tyR cI cZ) s) (rI : Nat) (rC : Int32) (rN : Int32) (rO : Nat → Bool) (rG : Nat → Bool) (rW : Nat → Int32) (rH : Nat → Int32) (rF : Nat → Bool) (rT : Nat → Int32) (rM : Nat → Int32) (rB : Nat → Int32) (rX : Int32) (rQ : Nat) (rA : Nat → Int32) (rE : Nat → Int32) (rD : Int64)  {b : Bool}  (Q : State → Prop) : ∀ (n k : Nat) (g : Int32)  (ls : Array Slot) (H : Heap) (locs : List Loc), k + n = 16 → va_P D vwCl (wR cI cZ a ((rI, rC, rN), (rO, rG), (rW, rH, rF, rT), (rM, rB, rX), (rQ, rA), (rE, rD))) H → va_S A s.heap H locs → lv_has ls 4 [(3, .int (nI k)), (2, .int g), (0, .ref (a 0)), (1, .int (bi b))] → (∀ (ls : Array Slot) (H : Heap) (locs : List Loc), va_P D vwCl (wR cI cZ a ((rI, rC, rN), (rO, rG), (rW, rH, rF, rT), (rM, rB, rX), (rQ, rA), (rE, rD))) H → va_S A s.heap H locs → lv_has ls 4 [(3, .int (nI 16)), (2, .int (QRM_count_9 rW rF b n k g)), (0, .ref (a 0)), (1, .int (bi b))] → W p l e ({ frames := 0, cells := 0, slots := 0, locals := 0 }) s m args below meth c H locs 0 0 Q (F0 m 51 ls [])) → W p l e ({ frames := 0, cells := 0, slots := 0, locals := 0 }) s m args below meth c H locs 0 0 Q (F0 m 9 ls []) := by
  obtain ⟨hx, hb, hr, hml, hown, hts, hlocks⟩ := id F
  intro n
  induction n with
  | zero =>
    intro k g ls H locs hkn  hP hS hl hkk
    refine lv_iload_n hx hb dRM_count_9 rfl (lv_at hl 0 rfl) ?_
    refine lv_bipush (v := nI 16) hx hb dRM_count_10 (by decide) ?_
    refine lv_icmp_ge (tgt := 51) hx hb dRM_count_12 (by decide) (fun _ => ?_) (fun c0 => absurd (nI_le (by omega) (by omega)) c0)
    obtain rfl : k = 16 := by omega
    exact hkk ls H locs hP hS (lv_sub hl [0, 1, 2, 3] rfl)
  | succ n ih =>
    intro k g ls H locs hkn  hP hS hl hkk
    refine lv_iload_n hx hb dRM_count_9 rfl (lv_at hl 0 rfl) ?_
    refine lv_bipush (v := nI 16) hx hb dRM_count_10 (by decide) ?_
    refine lv_icmp_ge (tgt := 51) hx hb dRM_count_12 (by decide) (fun c0 => absurd c0 (nI_ge (by omega) (by omega))) (fun _ => ?_)
    refine lv_iload_n hx hb dRM_count_15 rfl (lv_at hl 1 rfl) ?_
    refine lv_aload_n hx hb dRM_count_16 rfl (lv_at hl 2 rfl) ?_
    refine va_get (D := D) (ci := 5) (v := .ref (a 3)) (C := RRM) (T := TRM) (N := 16) hx hb hts inRM hown hK hP 0 rfl rfl 5 (by decide) (hts _ k580) (fun _ h9 => h9) rfl dRM_count_17 ?_
    refine lv_iload_n hx hb dRM_count_20 rfl (lv_at hl 0 rfl) ?_
    refine ir_iald hx hb hK hP 3 0 rfl rfl (k := k) (by omega) (by decide) dRM_count_21 ?_
    refine lv_if_lt (tgt := 42) hx hb dRM_count_22 (by decide) (fun c3 => ?_) (fun c3 => ?_)
    · refine lv_iconst (v := 0) hx hb dRM_count_42 (by decide) ?_
      refine lv_iadd hx hb dRM_count_43 ?_
      refine lv_istore_n (lv' := [(2, .int (g + 0)), (3, .int (nI k)), (0, .ref (a 0)), (1, .int (bi b))]) hx hb dRM_count_44 rfl hl (by decide) rfl (fun ls hl => ?_)
      refine lv_iinc (v := nI (k + 1)) (lv' := [(3, .int (nI (k + 1))), (2, .int (g + 0)), (0, .ref (a 0)), (1, .int (bi b))]) hx hb dRM_count_45 hl (k := 1) rfl (nI_1 k) (by decide) rfl (fun ls hl => ?_)
      refine lv_goto (tgt := 9) hx hb dRM_count_48 (by decide) ?_
      have e1 : QRM_count_9 rW rF b (n + 1) k g = QRM_count_9 rW rF b n (k + 1) (g + 0) := by simp only [QRM_count_9, if_pos c3]
      rw [e1] at hkk
      exact ih (k + 1) (g + 0) ls H locs (by omega)  hP hS (lv_sub hl [0, 1, 2, 3] rfl) hkk
    · refine lv_iload_n hx hb dRM_count_25 rfl (lv_at hl 3 rfl) ?_
      refine lv_if_eqb (tgt := 38) hx hb dRM_count_26 (by decide) (fun c4 => ?_) (fun c4 => ?_)
      · refine lv_iconst (v := 1) hx hb dRM_count_38 (by decide) ?_
        refine lv_goto (tgt := 43) hx hb dRM_count_39 (by decide) ?_
        refine lv_iadd hx hb dRM_count_43 ?_
        refine lv_istore_n (lv' := [(2, .int (g + 1)), (3, .int (nI k)), (0, .ref (a 0)), (1, .int (bi b))]) hx hb dRM_count_44 rfl hl (by decide) rfl (fun ls hl => ?_)
        refine lv_iinc (v := nI (k + 1)) (lv' := [(3, .int (nI (k + 1))), (2, .int (g + 1)), (0, .ref (a 0)), (1, .int (bi b))]) hx hb dRM_count_45 hl (k := 1) rfl (nI_1 k) (by decide) rfl (fun ls hl => ?_)
        refine lv_goto (tgt := 9) hx hb dRM_count_48 (by decide) ?_
        have e1 : QRM_count_9 rW rF b (n + 1) k g = QRM_count_9 rW rF b n (k + 1) (g + 1) := by first | (simp only [QRM_count_9, if_neg c3, cond_no c4]; done) | (simp only [QRM_count_9, if_neg c3]; simp only [cond_no c4])
        rw [e1] at hkk
        exact ih (k + 1) (g + 1) ls H locs (by omega)  hP hS (lv_sub hl [0, 1, 2, 3] rfl) hkk
      · refine lv_aload_n hx hb dRM_count_29 rfl (lv_at hl 2 rfl) ?_
        refine va_get (D := D) (ci := 5) (v := .ref (a 5)) (C := RRM) (T := TRM) (N := 16) hx hb hts inRM hown hK hP 0 rfl rfl 7 (by decide) (hts _ k582) (fun _ h9 => h9) rfl dRM_count_30 ?_
        refine lv_iload_n hx hb dRM_count_33 rfl (lv_at hl 0 rfl) ?_
        refine ir_zald hx hb hK hP 5 1 rfl rfl (k := k) (by omega) (by decide) dRM_count_34 ?_
        refine lv_if_eqb (tgt := 42) hx hb dRM_count_35 (by decide) (fun c5 => ?_) (fun c5 => ?_)
        · refine lv_iconst (v := 0) hx hb dRM_count_42 (by decide) ?_
          refine lv_iadd hx hb dRM_count_43 ?_
          refine lv_istore_n (lv' := [(2, .int (g + 0)), (3, .int (nI k)), (0, .ref (a 0)), (1, .int (bi b))]) hx hb dRM_count_44 rfl hl (by decide) rfl (fun ls hl => ?_)
          refine lv_iinc (v := nI (k + 1)) (lv' := [(3, .int (nI (k + 1))), (2, .int (g + 0)), (0, .ref (a 0)), (1, .int (bi b))]) hx hb dRM_count_45 hl (k := 1) rfl (nI_1 k) (by decide) rfl (fun ls hl => ?_)
          refine lv_goto (tgt := 9) hx hb dRM_count_48 (by decide) ?_
          have e1 : QRM_count_9 rW rF b (n + 1) k g = QRM_count_9 rW rF b n (k + 1) (g + 0) := by first | (simp only [QRM_count_9, if_neg c3, cond_yes c4, cond_no c5]; done) | (simp only [QRM_count_9, if_neg c3]; simp only [cond_yes c4]; simp only [cond_no c5])
          rw [e1] at hkk
          exact ih (k + 1) (g + 0) ls H locs (by omega)  hP hS (lv_sub hl [0, 1, 2, 3] rfl) hkk
        · refine lv_iconst (v := 1) hx hb dRM_count_38 (by decide) ?_
          refine lv_goto (tgt := 43) hx hb dRM_count_39 (by decide) ?_
          refine lv_iadd hx hb dRM_count_43 ?_
          refine lv_istore_n (lv' := [(2, .int (g + 1)), (3, .int (nI k)), (0, .ref (a 0)), (1, .int (bi b))]) hx hb dRM_count_44 rfl hl (by decide) rfl (fun ls hl => ?_)
          refine lv_iinc (v := nI (k + 1)) (lv' := [(3, .int (nI (k + 1))), (2, .int (g + 1)), (0, .ref (a 0)), (1, .int (bi b))]) hx hb dRM_count_45 hl (k := 1) rfl (nI_1 k) (by decide) rfl (fun ls hl => ?_)
          refine lv_goto (tgt := 9) hx hb dRM_count_48 (by decide) ?_
          have e1 : QRM_count_9 rW rF b (n + 1) k g = QRM_count_9 rW rF b n (k + 1) (g + 1) := by first | (simp only [QRM_count_9, if_neg c3, cond_yes c4, cond_yes c5]; done) | (simp only [QRM_count_9, if_neg c3]; simp only [cond_yes c4]; simp only [cond_yes c5])
          rw [e1] at hkk
          exact ih (k + 1) (g + 1) ls H locs (by omega)  hP hS (lv_sub hl [0, 1, 2, 3] rfl) hkk
set_option maxHeartbeats 4000000 in
set_option maxRecDepth 100000 in
theorem c_RM_count (l : Launch) {D : va_G} {cI cZ : ClassId} {a : Nat → Nat} {A : Nat → Prop} (hA : ∀ v : RS, va_D A (wR cI cZ a v)) (rI : Nat) (rC rN : Int32) (rO rG : Nat → Bool) (rW rH : Nat → Int32) (rF : Nat → Bool) (rT : Nat → Int32) (rM rB : Nat → Int32) (rX : Int32) (rQ : Nat) (rA : Nat → Int32) (rE : Nat → Int32) (rD : Int64) (b : Bool)  : Met l yRM_count wsRM_count ({ frames := 0, cells := 0, slots := 0, locals := 0 }) (va_Pc [.ref (a 0), .int (bi b)] (gG D (tyR cI cZ) (wR cI cZ a) ((rI, rC, rN), (rO, rG), (rW, rH, rF, rT), (rM, rB, rX), (rQ, rA), (rE, rD)))) (va_Qi (fun (r : Int32) (u : RS) => r = QRM_count_9 rW rF b 16 0 0 ∧ u = ((rI, 0, rN), (rO, rG), (rW, rH, rF, rT), (rM, rB, rX), (rQ, rA), (rE, rD))) (gG D (tyR cI cZ) (wR cI cZ a)) A) 0 0 A := by
  refine g_enter (by decide) rfl (Nat.le_of_ble_eq_true rfl) ?_
  intro p e s m below meth c ls F hK hP hl
  obtain ⟨hx, hb, hr, hml, hown, hts, hlocks⟩ := id F
  have hS : va_S A s.heap s.heap [] := va_S.rf
  have hl : lv_has ls 4 [(0, .ref (a 0)), (1, .int (bi b))] := hl
  refine lv_aload_n hx hb dRM_count_0 rfl (lv_at hl 0 rfl) ?_
  refine lv_iconst (v := 0) hx hb dRM_count_1 (by decide) ?_
  refine va_put (D := D) (ci := 5) (v := .int 0) (ty := .int) (C := RRM) (T := TRM) (N := 16) hx hb hts inRM tyRM tyRM_ok nmRM hown hK hP (hA _) hS 0 rfl rfl 1 (by decide) (hts _ k576) (fun _ h9 => h9) rfl (by decide +kernel) rfl rfl (Nat.le_of_ble_eq_true rfl) dRM_count_2 (fun H locs hP _ hS => ?_)
  have hP : va_P D vwCl (wR cI cZ a ((rI, 0, rN), (rO, rG), (rW, rH, rF, rT), (rM, rB, rX), (rQ, rA), (rE, rD))) H := hP
  refine lv_iconst (v := 0) hx hb dRM_count_5 (by decide) ?_
  refine lv_istore_n (lv' := [(2, .int 0), (0, .ref (a 0)), (1, .int (bi b))]) hx hb dRM_count_6 rfl hl (by decide) rfl (fun ls hl => ?_)
  refine lv_iconst (v := nI 0) hx hb dRM_count_7 (by decide) ?_
  refine lv_istore_n (lv' := [(3, .int (nI 0)), (2, .int 0), (0, .ref (a 0)), (1, .int (bi b))]) hx hb dRM_count_8 rfl hl (by decide) rfl (fun ls hl => ?_)
  refine lqRM_count_9 hA F hK rI 0 rN rO rG rW rH rF rT rM rB rX rQ rA rE rD    _ 16 0 0 ls H locs (by omega)  hP hS (lv_sub hl [0, 1, 2, 3] rfl) (fun ls H locs hP hS hl => ?_)
  have hP : va_P D vwCl (wR cI cZ a ((rI, 0, rN), (rO, rG), (rW, rH, rF, rT), (rM, rB, rX), (rQ, rA), (rE, rD))) H := hP
  refine lv_iload_n hx hb dRM_count_51 rfl (lv_at hl 1 rfl) ?_
  exact g_iret (v := ((rI, 0, rN), (rO, rG), (rW, rH, rF, rT), (rM, rB, rX), (rQ, rA), (rE, rD))) hx hb hr hK hP hS ⟨rfl, rfl⟩ hlocks dRM_count_52
set_option maxHeartbeats 4000000 in
set_option maxRecDepth 100000 in
theorem c_RM_time (l : Launch) {D : va_G} {cI cZ : ClassId} {a : Nat → Nat} {A : Nat → Prop} (hA : ∀ v : RS, va_D A (wR cI cZ a v)) (rI : Nat) (rC rN : Int32) (rO rG : Nat → Bool) (rW rH : Nat → Int32) (rF : Nat → Bool) (rT : Nat → Int32) (rM rB : Nat → Int32) (rX : Int32) (rQ : Nat) (rA : Nat → Int32) (rE : Nat → Int32) (rD : Int64)   : Met l yRM_time wsRM_time ({ frames := 0, cells := 0, slots := 0, locals := 0 }) (va_Pc [.ref (a 0)] (gG D (tyR cI cZ) (wR cI cZ a) ((rI, rC, rN), (rO, rG), (rW, rH, rF, rT), (rM, rB, rX), (rQ, rA), (rE, rD)))) (va_Qi (fun (r : Int32) (u : RS) => r = rN ∧ u = ((rI, 0, rN), (rO, rG), (rW, rH, rF, rT), (rM, rB, rX), (rQ, rA), (rE, rD))) (gG D (tyR cI cZ) (wR cI cZ a)) A) 0 0 A := by
  refine g_enter (by decide) rfl (Nat.le_of_ble_eq_true rfl) ?_
  intro p e s m below meth c ls F hK hP hl
  obtain ⟨hx, hb, hr, hml, hown, hts, hlocks⟩ := id F
  have hS : va_S A s.heap s.heap [] := va_S.rf
  have hl : lv_has ls 1 [(0, .ref (a 0))] := hl
  refine lv_aload_n hx hb dRM_time_0 rfl (lv_at hl 0 rfl) ?_
  refine lv_iconst (v := 0) hx hb dRM_time_1 (by decide) ?_
  refine va_put (D := D) (ci := 5) (v := .int 0) (ty := .int) (C := RRM) (T := TRM) (N := 16) hx hb hts inRM tyRM tyRM_ok nmRM hown hK hP (hA _) hS 0 rfl rfl 1 (by decide) (hts _ k576) (fun _ h9 => h9) rfl (by decide +kernel) rfl rfl (Nat.le_of_ble_eq_true rfl) dRM_time_2 (fun H locs hP _ hS => ?_)
  have hP : va_P D vwCl (wR cI cZ a ((rI, 0, rN), (rO, rG), (rW, rH, rF, rT), (rM, rB, rX), (rQ, rA), (rE, rD))) H := hP
  refine lv_aload_n hx hb dRM_time_5 rfl (lv_at hl 0 rfl) ?_
  refine va_get (D := D) (ci := 5) (v := .int rN) (C := RRM) (T := TRM) (N := 16) hx hb hts inRM hown hK hP 0 rfl rfl 2 (by decide) (hts _ k577) (fun _ h9 => h9) rfl dRM_time_6 ?_
  exact g_iret (v := ((rI, 0, rN), (rO, rG), (rW, rH, rF, rT), (rM, rB, rX), (rQ, rA), (rE, rD))) hx hb hr hK hP hS ⟨rfl, rfl⟩ hlocks dRM_time_9
