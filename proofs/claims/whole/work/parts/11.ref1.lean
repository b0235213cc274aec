set_option maxHeartbeats 4000000 in
set_option maxRecDepth 100000 in
theorem c_RM_thrown (l : Launch) {D : va_G} {cI cZ : ClassId} {a : Nat → Nat}  (rI : Nat) (rC rN : Int32) (rO rG : Nat → Bool) (rW rH : Nat → Int32) (rF : Nat → Bool) (rT : Nat → Int32) (rM rB : Nat → Int32) (rX : Int32) (rQ : Nat) (rA : Nat → Int32) (rE : Nat → Int32) (rD : Int64)   : Met l yRM_thrown wsRM_thrown ({ frames := 0, cells := 0, slots := 0, locals := 0 }) (va_Pc [.ref (a 0)] (gG D (tyR cI cZ) (wR cI cZ a) ((rI, rC, rN), (rO, rG), (rW, rH, rF, rT), (rM, rB, rX), (rQ, rA), (rE, rD)))) (vp_Si (fun r : Int32 => r = rC)) 0 0 (fun _ => False) := by
  refine g_enter (by decide) rfl (Nat.le_of_ble_eq_true rfl) ?_
  intro p e s m below meth c ls F hK hP hl
  obtain ⟨hx, hb, hr, hml, hown, hts, hlocks⟩ := id F
  have hl : lv_has ls 1 [(0, .ref (a 0))] := hl
  refine lv_aload_n hx hb dRM_thrown_0 rfl (lv_at hl 0 rfl) ?_
  refine va_get (D := D) (ci := 5) (v := .int rC) (C := RRM) (T := TRM) (N := 16) hx hb hts inRM hown hK hP 0 rfl rfl 1 (by decide) (hts _ k576) (fun _ h9 => h9) rfl dRM_thrown_1 ?_
  exact r_iret hx hb hr (rfl) hlocks dRM_thrown_4
def fRM_in (x : Int32) (y : Int32) (z : Int32) : Bool := (if x < y then false else (if z < x then false else true))
set_option maxHeartbeats 4000000 in
set_option maxRecDepth 100000 in
theorem c_RM_in (l : Launch) {D : va_G} {cI cZ : ClassId} {a : Nat → Nat}  (rI : Nat) (rC rN : Int32) (rO rG : Nat → Bool) (rW rH : Nat → Int32) (rF : Nat → Bool) (rT : Nat → Int32) (rM rB : Nat → Int32) (rX : Int32) (rQ : Nat) (rA : Nat → Int32) (rE : Nat → Int32) (rD : Int64) (x : Int32) (y : Int32) (z : Int32)  : Met l yRM_in wsRM_in ({ frames := 0, cells := 0, slots := 0, locals := 0 }) (va_Pc [.int x, .int y, .int z] (gG D (tyR cI cZ) (wR cI cZ a) ((rI, rC, rN), (rO, rG), (rW, rH, rF, rT), (rM, rB, rX), (rQ, rA), (rE, rD)))) (vp_Si (fun r : Int32 => r = bi (fRM_in x y z))) 0 0 (fun _ => False) := by
  refine g_enter (by decide) rfl (Nat.le_of_ble_eq_true rfl) ?_
  intro p e s m below meth c ls F hK hP hl
  obtain ⟨hx, hb, hr, hml, hown, hts, hlocks⟩ := id F
  have hl : lv_has ls 3 [(0, .int x), (1, .int y), (2, .int z)] := hl
  refine lv_iload_n hx hb dRM_in_0 rfl (lv_at hl 0 rfl) ?_
  refine lv_iload_n hx hb dRM_in_1 rfl (lv_at hl 1 rfl) ?_
  refine lv_icmp_lt (tgt := 14) hx hb dRM_in_2 (by decide) (fun c1 => ?_) (fun c1 => ?_)
  · refine lv_iconst (v := bi false) hx hb dRM_in_14 (by decide) ?_
    have e1 : fRM_in x y z = false := by simp only [fRM_in, if_pos c1]
    exact r_zret hx hb hr (by first | rfl | (rw [e1] <;> rfl)) hlocks dRM_in_15
  · refine lv_iload_n hx hb dRM_in_5 rfl (lv_at hl 0 rfl) ?_
    refine lv_iload_n hx hb dRM_in_6 rfl (lv_at hl 2 rfl) ?_
    refine lv_icmp_gt (tgt := 14) hx hb dRM_in_7 (by decide) (fun c2 => ?_) (fun c2 => ?_)
    · refine lv_iconst (v := bi false) hx hb dRM_in_14 (by decide) ?_
      have e1 : fRM_in x y z = false := by first | (simp only [fRM_in, if_neg c1, if_pos c2]; done) | (simp only [fRM_in, if_neg c1]; simp only [if_pos c2])
      exact r_zret hx hb hr (by first | rfl | (rw [e1] <;> rfl)) hlocks dRM_in_15
    · refine lv_iconst (v := bi true) hx hb dRM_in_10 (by decide) ?_
      refine lv_goto (tgt := 15) hx hb dRM_in_11 (by decide) ?_
      have e1 : fRM_in x y z = true := by first | (simp only [fRM_in, if_neg c1, if_neg c2]; done) | (simp only [fRM_in, if_neg c1]; simp only [if_neg c2])
      exact r_zret hx hb hr (by first | rfl | (rw [e1] <;> rfl)) hlocks dRM_in_15
theorem in_K {k b : Nat} (h : k ≤ b) (hb : b < 2 ^ 31) : fRM_in (nI k) 0 (nI b) = true := by
  unfold fRM_in
  rw [if_neg (nI_pos (by omega)), if_neg (nI_nlt (by omega) (by omega))]
theorem in_K1 {k b : Nat} (h : 1 ≤ k ∧ k ≤ b) (hb : b < 2 ^ 31) : fRM_in (nI k) 1 (nI b) = true := by
  unfold fRM_in
  rw [if_neg (show ¬ nI k < 1 from nI_nlt (a := k) (b := 1) (by omega) (by omega)), if_neg (nI_nlt (by omega) (by omega))]
theorem in_ok {x a b : Int32} (h1 : ¬ x < a) (h2 : x ≤ b) : fRM_in x a b = true := by
  unfold fRM_in
  rw [if_neg h1, if_neg (fun q => by rw [Int32.lt_iff_toInt_lt] at q; rw [Int32.le_iff_toInt_le] at h2; omega)]
theorem tnc_lt (x : Int32) : x.toNatClampNeg < 2 ^ 31 := by
  by_cases h : x < 0
  · have h1 : x.toInt < 0 := by rw [Int32.lt_iff_toInt_lt, Int32.toInt_zero] at h; exact h
    have h2 : x.toNatClampNeg = x.toInt.toNat := rfl
    omega
  · obtain ⟨j, hj, rfl⟩ := nI_of h
    rw [nI_clamp hj]; exact hj
def QRM_find_5 (rW : Nat → Int32) (q : Nat) (o : Nat) : Nat → Nat → Option Nat → Option Nat
  | 0, k, f => f
  | n + 1, k, f => (if (rW k) = (nI ((64 * q) + o)) then QRM_find_5 rW q o n (k + 1) (some k) else QRM_find_5 rW q o n (k + 1) f)
set_option maxHeartbeats 4000000 in
set_option maxRecDepth 100000 in
theorem lqRM_find_5 {p : Program} {l : Launch} {e : Env} {s : State} {m : MethodId} {args : Array Value} {below : List Frame} {meth : Method} {c : Code} {D : va_G} {cI cZ : ClassId} {a : Nat → Nat} {A : Nat → Prop} (hA : ∀ v : RS, va_D A (wR cI cZ a v)) (F : gFix p c cRM_find meth (some .int) m s args bigW RRM 5) (hK : va_K D vwCl (tyR cI cZ) s) (rI : Nat) (rC : Int32) (rN : Int32) (rO : Nat → Bool) (rG : Nat → Bool) (rW : Nat → Int32) (rH : Nat → Int32) (rF : Nat → Bool) (rT : Nat → Int32) (rM : Nat → Int32) (rB : Nat → Int32) (rX : Int32) (rQ : Nat) (rA : Nat → Int32) (rE : Nat → Int32) (rD : Int64)  {q : Nat} {o : Nat} (hq : q < 8) (ho : o < 64) (Q : State → Prop) : ∀ (n k : Nat) (f : Option Nat)  (ls : Array Slot) (H : Heap) (locs : List Loc), k + n = 16 → va_P D vwCl (wR cI cZ a ((rI, rC, rN), (rO, rG), (rW, rH, rF, rT), (rM, rB, rX), (rQ, rA), (rE, rD))) H → va_S A s.heap H locs → lv_has ls 5 [(4, .int (nI k)), (3, .int (oi f)), (0, .ref (a 0)), (1, .int (nI q)), (2, .int (nI o))] → (∀ (ls : Array Slot) (H : Heap) (locs : List Loc), va_P D vwCl (wR cI cZ a ((rI, rC, rN), (rO, rG), (rW, rH, rF, rT), (rM, rB, rX), (rQ, rA), (rE, rD))) H → va_S A s.heap H locs → lv_has ls 5 [(4, .int (nI 16)), (3, .int (oi (QRM_find_5 rW q o n k f))), (0, .ref (a 0)), (1, .int (nI q)), (2, .int (nI o))] → W p l e ({ frames := 0, cells := 0, slots := 0, locals := 0 }) s m args below meth c H locs 0 0 Q (F0 m 41 ls [])) → W p l e ({ frames := 0, cells := 0, slots := 0, locals := 0 }) s m args below meth c H locs 0 0 Q (F0 m 5 ls []) := by
  obtain ⟨hx, hb, hr, hml, hown, hts, hlocks⟩ := id F
  intro n
  induction n with
  | zero =>
    intro k f ls H locs hkn  hP hS hl hkk
    refine lv_iload hx hb dRM_find_5 (lv_at hl 0 rfl) ?_
    refine lv_bipush (v := nI 16) hx hb dRM_find_7 (by decide) ?_
    refine lv_icmp_ge (tgt := 41) hx hb dRM_find_9 (by decide) (fun _ => ?_) (fun c0 => absurd (nI_le (by omega) (by omega)) c0)
    obtain rfl : k = 16 := by omega
    exact hkk ls H locs hP hS (lv_sub hl [0, 1, 2, 3, 4] rfl)
  | succ n ih =>
    intro k f ls H locs hkn  hP hS hl hkk
    refine lv_iload hx hb dRM_find_5 (lv_at hl 0 rfl) ?_
    refine lv_bipush (v := nI 16) hx hb dRM_find_7 (by decide) ?_
    refine lv_icmp_ge (tgt := 41) hx hb dRM_find_9 (by decide) (fun c0 => absurd c0 (nI_ge (by omega) (by omega))) (fun _ => ?_)
    refine lv_aload_n hx hb dRM_find_12 rfl (lv_at hl 2 rfl) ?_
    refine va_get (D := D) (ci := 5) (v := .ref (a 3)) (C := RRM) (T := TRM) (N := 16) hx hb hts inRM hown hK hP 0 rfl rfl 5 (by decide) (hts _ k580) (fun _ h9 => h9) rfl dRM_find_13 ?_
    refine lv_iload hx hb dRM_find_16 (lv_at hl 0 rfl) ?_
    refine ir_iald hx hb hK hP 3 0 rfl rfl (k := k) (by omega) (by decide) dRM_find_18 ?_
    refine lv_bipush (v := 64) hx hb dRM_find_19 (by decide) ?_
    refine lv_iload_n hx hb dRM_find_21 rfl (lv_at hl 3 rfl) ?_
    refine lv_imul hx hb dRM_find_22 ?_
    refine lv_eqi (y := nI (64 * q)) (pk_mul 64 q) ?_
    refine lv_iload_n hx hb dRM_find_23 rfl (lv_at hl 4 rfl) ?_
    refine lv_iadd hx hb dRM_find_24 ?_
    refine lv_eqi (y := nI ((64 * q) + o)) (nI_add (64 * q) o) ?_
    refine lv_icmp_ne (tgt := 33) hx hb dRM_find_25 (by decide) (fun c3 => ?_) (fun c3 => ?_)
    · refine lv_iload_n hx hb dRM_find_33 rfl (lv_at hl 1 rfl) ?_
      refine lv_istore_n (lv' := [(3, .int (oi f)), (4, .int (nI k)), (0, .ref (a 0)), (1, .int (nI q)), (2, .int (nI o))]) hx hb dRM_find_34 rfl hl (by decide) rfl (fun ls hl => ?_)
      refine lv_iinc (v := nI (k + 1)) (lv' := [(4, .int (nI (k + 1))), (3, .int (oi f)), (0, .ref (a 0)), (1, .int (nI q)), (2, .int (nI o))]) hx hb dRM_find_35 hl (k := 1) rfl (nI_1 k) (by decide) rfl (fun ls hl => ?_)
      refine lv_goto (tgt := 5) hx hb dRM_find_38 (by decide) ?_
      have e1 : QRM_find_5 rW q o (n + 1) k f = QRM_find_5 rW q o n (k + 1) f := by simp only [QRM_find_5, if_neg c3]
      rw [e1] at hkk
      exact ih (k + 1) f ls H locs (by omega)  hP hS (lv_sub hl [0, 1, 2, 3, 4] rfl) hkk
    · refine lv_iload hx hb dRM_find_28 (lv_at hl 0 rfl) ?_
      refine lv_goto (tgt := 34) hx hb dRM_find_30 (by decide) ?_
      refine lv_istore_n (lv' := [(3, .int (nI k)), (4, .int (nI k)), (0, .ref (a 0)), (1, .int (nI q)), (2, .int (nI o))]) hx hb dRM_find_34 rfl hl (by decide) rfl (fun ls hl => ?_)
      refine lv_iinc (v := nI (k + 1)) (lv' := [(4, .int (nI (k + 1))), (3, .int (nI k)), (0, .ref (a 0)), (1, .int (nI q)), (2, .int (nI o))]) hx hb dRM_find_35 hl (k := 1) rfl (nI_1 k) (by decide) rfl (fun ls hl => ?_)
      refine lv_goto (tgt := 5) hx hb dRM_find_38 (by decide) ?_
      have e1 : QRM_find_5 rW q o (n + 1) k f = QRM_find_5 rW q o n (k + 1) (some k) := by simp only [QRM_find_5, if_pos c3]
      rw [e1] at hkk
      exact ih (k + 1) (some k) ls H locs (by omega)  hP hS (lv_sub hl [0, 1, 2, 3, 4] rfl) hkk
set_option maxHeartbeats 4000000 in
set_option maxRecDepth 100000 in
theorem c_RM_find (l : Launch) {D : va_G} {cI cZ : ClassId} {a : Nat → Nat} {A : Nat → Prop} (hA : ∀ v : RS, va_D A (wR cI cZ a v)) (rI : Nat) (rC rN : Int32) (rO rG : Nat → Bool) (rW rH : Nat → Int32) (rF : Nat → Bool) (rT : Nat → Int32) (rM rB : Nat → Int32) (rX : Int32) (rQ : Nat) (rA : Nat → Int32) (rE : Nat → Int32) (rD : Int64) (q : Nat) (o : Nat) (hq : q < 8) (ho : o < 64) : Met l yRM_find wsRM_find ({ frames := 0, cells := 0, slots := 0, locals := 0 }) (va_Pc [.ref (a 0), .int (nI q), .int (nI o)] (gG D (tyR cI cZ) (wR cI cZ a) ((rI, rC, rN), (rO, rG), (rW, rH, rF, rT), (rM, rB, rX), (rQ, rA), (rE, rD)))) (va_Qi (fun (r : Int32) (u : RS) => r = oi (QRM_find_5 rW q o 16 0 none) ∧ u = ((rI, rC, rN), (rO, rG), (rW, rH, rF, rT), (rM, rB, rX), (rQ, rA), (rE, rD))) (gG D (tyR cI cZ) (wR cI cZ a)) A) 0 0 A := by
  refine g_enter (by decide) rfl (Nat.le_of_ble_eq_true rfl) ?_
  intro p e s m below meth c ls F hK hP hl
  obtain ⟨hx, hb, hr, hml, hown, hts, hlocks⟩ := id F
  have hS : va_S A s.heap s.heap [] := va_S.rf
  have hl : lv_has ls 5 [(0, .ref (a 0)), (1, .int (nI q)), (2, .int (nI o))] := hl
  refine lv_iconst (v := (-1)) hx hb dRM_find_0 (by decide) ?_
  refine lv_istore_n (lv' := [(3, .int (-1)), (0, .ref (a 0)), (1, .int (nI q)), (2, .int (nI o))]) hx hb dRM_find_1 rfl hl (by decide) rfl (fun ls hl => ?_)
  refine lv_iconst (v := nI 0) hx hb dRM_find_2 (by decide) ?_
  refine lv_istore (lv' := [(4, .int (nI 0)), (3, .int (-1)), (0, .ref (a 0)), (1, .int (nI q)), (2, .int (nI o))]) hx hb dRM_find_3 hl (by decide) rfl (fun ls hl => ?_)
  refine lqRM_find_5 hA F hK rI rC rN rO rG rW rH rF rT rM rB rX rQ rA rE rD  (by first | omega | assumption) (by first | omega | assumption)  _ 16 0 none ls s.heap [] (by omega)  hP hS (lv_sub hl [0, 1, 2, 3, 4] rfl) (fun ls H locs hP hS hl => ?_)
  have hP : va_P D vwCl (wR cI cZ a ((rI, rC, rN), (rO, rG), (rW, rH, rF, rT), (rM, rB, rX), (rQ, rA), (rE, rD))) H := hP
  refine lv_iload_n hx hb dRM_find_41 rfl (lv_at hl 1 rfl) ?_
  exact g_iret (v := ((rI, rC, rN), (rO, rG), (rW, rH, rF, rT), (rM, rB, rX), (rQ, rA), (rE, rD))) hx hb hr hK hP hS ⟨rfl, rfl⟩ hlocks dRM_find_42
theorem QRM_find_5_lt {rW : Nat → Int32} {q o : Nat} : ∀ (n k : Nat) (f : Option Nat) (j : Nat), QRM_find_5 rW q o n k f = some j → f = some j ∨ j < k + n := by
  intro n
  induction n with
  | zero => intro k f j h; simp only [QRM_find_5] at h; exact Or.inl h
  | succ n ih =>
    intro k f j h
    simp only [QRM_find_5] at h
    split at h
    · rcases ih _ _ _ h with h1 | h1
      · cases h1; right; omega
      · right; omega
    · rcases ih _ _ _ h with h1 | h1
      · exact Or.inl h1
      · right; omega
theorem c_RM_find_lt {rW : Nat → Int32} {q o k : Nat} (h : QRM_find_5 rW q o 16 0 none = some k) : k < 16 := by
  rcases QRM_find_5_lt _ _ _ _ h with h1 | h1
  · cases h1
  · omega
def QRM_settleAll_2 (j : Nat) : Nat → Nat → (Nat → Int32) → (Nat → Int32)
  | 0, k, rT => rT
  | n + 1, k, rT => QRM_settleAll_2 j n (k + 1) (upd rT ((64 * j) + k) (-1))
set_option maxHeartbeats 4000000 in
set_option maxRecDepth 100000 in
theorem lqRM_settleAll_2 {p : Program} {l : Launch} {e : Env} {s : State} {m : MethodId} {args : Array Value} {below : List Frame} {meth : Method} {c : Code} {D : va_G} {cI cZ : ClassId} {a : Nat → Nat} {A : Nat → Prop} (hA : ∀ v : RS, va_D A (wR cI cZ a v)) (F : gFix p c cRM_settleAll meth (none) m s args bigW RRM 3) (hK : va_K D vwCl (tyR cI cZ) s) (rI : Nat) (rC : Int32) (rN : Int32) (rO : Nat → Bool) (rG : Nat → Bool) (rW : Nat → Int32) (rH : Nat → Int32) (rF : Nat → Bool) (rM : Nat → Int32) (rB : Nat → Int32) (rX : Int32) (rQ : Nat) (rA : Nat → Int32) (rE : Nat → Int32) (rD : Int64)  {j : Nat} (hj : j < 16) (Q : State → Prop) : ∀ (n k : Nat)  (rT : Nat → Int32) (ls : Array Slot) (H : Heap) (locs : List Loc), k + n = 64 → va_P D vwCl (wR cI cZ a ((rI, rC, rN), (rO, rG), (rW, rH, rF, rT), (rM, rB, rX), (rQ, rA), (rE, rD))) H → va_S A s.heap H locs → lv_has ls 3 [(2, .int (nI k)), (0, .ref (a 0)), (1, .int (nI j))] → (∀ (ls : Array Slot) (H : Heap) (locs : List Loc), va_P D vwCl (wR cI cZ a ((rI, rC, rN), (rO, rG), (rW, rH, rF, QRM_settleAll_2 j n k rT), (rM, rB, rX), (rQ, rA), (rE, rD))) H → va_S A s.heap H locs → lv_has ls 3 [(2, .int (nI 64)), (0, .ref (a 0)), (1, .int (nI j))] → W p l e ({ frames := 0, cells := 0, slots := 0, locals := 0 }) s m args below meth c H locs 0 0 Q (F0 m 26 ls [])) → W p l e ({ frames := 0, cells := 0, slots := 0, locals := 0 }) s m args below meth c H locs 0 0 Q (F0 m 2 ls []) := by
  obtain ⟨hx, hb, hr, hml, hown, hts, hlocks⟩ := id F
  intro n
  induction n with
  | zero =>
    intro k rT ls H locs hkn  hP hS hl hkk
    refine lv_iload_n hx hb dRM_settleAll_2 rfl (lv_at hl 0 rfl) ?_
    refine lv_bipush (v := nI 64) hx hb dRM_settleAll_3 (by decide) ?_
    refine lv_icmp_ge (tgt := 26) hx hb dRM_settleAll_5 (by decide) (fun _ => ?_) (fun c0 => absurd (nI_le (by omega) (by omega)) c0)
    obtain rfl : k = 64 := by omega
    exact hkk ls H locs hP hS (lv_sub hl [0, 1, 2] rfl)
  | succ n ih =>
    intro k rT ls H locs hkn  hP hS hl hkk
    refine lv_iload_n hx hb dRM_settleAll_2 rfl (lv_at hl 0 rfl) ?_
    refine lv_bipush (v := nI 64) hx hb dRM_settleAll_3 (by decide) ?_
    refine lv_icmp_ge (tgt := 26) hx hb dRM_settleAll_5 (by decide) (fun c0 => absurd c0 (nI_ge (by omega) (by omega))) (fun _ => ?_)
    refine lv_aload_n hx hb dRM_settleAll_8 rfl (lv_at hl 1 rfl) ?_
    refine va_get (D := D) (ci := 5) (v := .ref (a 6)) (C := RRM) (T := TRM) (N := 16) hx hb hts inRM hown hK hP 0 rfl rfl 8 (by decide) (hts _ k583) (fun _ h9 => h9) rfl dRM_settleAll_9 ?_
    refine lv_bipush (v := 64) hx hb dRM_settleAll_12 (by decide) ?_
    refine lv_iload_n hx hb dRM_settleAll_14 rfl (lv_at hl 2 rfl) ?_
    refine lv_imul hx hb dRM_settleAll_15 ?_
    refine lv_eqi (y := nI (64 * j)) (pk_mul 64 j) ?_
    refine lv_iload_n hx hb dRM_settleAll_16 rfl (lv_at hl 0 rfl) ?_
    refine lv_iadd hx hb dRM_settleAll_17 ?_
    refine lv_eqi (y := nI ((64 * j) + k)) (nI_add (64 * j) k) ?_
    refine lv_iconst (v := (-1)) hx hb dRM_settleAll_18 (by decide) ?_
    refine ir_iast hx hb hK hP (hA _) hS 6 0 rfl rfl (k := (64 * j) + k) (by omega) (by decide) dRM_settleAll_19 (fun H locs hP hS => ?_)
    have hP : va_P D vwCl (wR cI cZ a ((rI, rC, rN), (rO, rG), (rW, rH, rF, upd rT ((64 * j) + k) (-1)), (rM, rB, rX), (rQ, rA), (rE, rD))) H := hP
    refine lv_iinc (v := nI (k + 1)) (lv' := [(2, .int (nI (k + 1))), (0, .ref (a 0)), (1, .int (nI j))]) hx hb dRM_settleAll_20 hl (k := 0) rfl (nI_1 k) (by decide) rfl (fun ls hl => ?_)
    refine lv_goto (tgt := 2) hx hb dRM_settleAll_23 (by decide) ?_
    have e1 : QRM_settleAll_2 j (n + 1) k rT = QRM_settleAll_2 j n (k + 1) (upd rT ((64 * j) + k) (-1)) := by simp only [QRM_settleAll_2]
    rw [e1] at hkk
    exact ih (k + 1) (upd rT ((64 * j) + k) (-1)) ls H locs (by omega)  hP hS (lv_sub hl [0, 1, 2] rfl) hkk
set_option maxHeartbeats 4000000 in
set_option maxRecDepth 100000 in
theorem c_RM_settleAll (l : Launch) {D : va_G} {cI cZ : ClassId} {a : Nat → Nat} {A : Nat → Prop} (hA : ∀ v : RS, va_D A (wR cI cZ a v)) (rI : Nat) (rC rN : Int32) (rO rG : Nat → Bool) (rW rH : Nat → Int32) (rF : Nat → Bool) (rT : Nat → Int32) (rM rB : Nat → Int32) (rX : Int32) (rQ : Nat) (rA : Nat → Int32) (rE : Nat → Int32) (rD : Int64) (j : Nat) (hj : j < 16) : Met l yRM_settleAll wsRM_settleAll ({ frames := 0, cells := 0, slots := 0, locals := 0 }) (va_Pc [.ref (a 0), .int (nI j)] (gG D (tyR cI cZ) (wR cI cZ a) ((rI, rC, rN), (rO, rG), (rW, rH, rF, rT), (rM, rB, rX), (rQ, rA), (rE, rD)))) (va_Qv (fun u : RS => u = ((rI, rC, rN), (rO, rG), (rW, rH, rF, QRM_settleAll_2 j 64 0 rT), (rM, rB, rX), (rQ, rA), (rE, rD))) (gG D (tyR cI cZ) (wR cI cZ a)) A) 0 0 A := by
  refine g_enter (by decide) rfl (Nat.le_of_ble_eq_true rfl) ?_
  intro p e s m below meth c ls F hK hP hl
  obtain ⟨hx, hb, hr, hml, hown, hts, hlocks⟩ := id F
  have hS : va_S A s.heap s.heap [] := va_S.rf
  have hl : lv_has ls 3 [(0, .ref (a 0)), (1, .int (nI j))] := hl
  refine lv_iconst (v := nI 0) hx hb dRM_settleAll_0 (by decide) ?_
  refine lv_istore_n (lv' := [(2, .int (nI 0)), (0, .ref (a 0)), (1, .int (nI j))]) hx hb dRM_settleAll_1 rfl hl (by decide) rfl (fun ls hl => ?_)
  refine lqRM_settleAll_2 hA F hK rI rC rN rO rG rW rH rF rM rB rX rQ rA rE rD  (by first | omega | assumption)  _ 64 0 rT ls s.heap [] (by omega)  hP hS (lv_sub hl [0, 1, 2] rfl) (fun ls H locs hP hS hl => ?_)
  have hP : va_P D vwCl (wR cI cZ a ((rI, rC, rN), (rO, rG), (rW, rH, rF, QRM_settleAll_2 j 64 0 rT), (rM, rB, rX), (rQ, rA), (rE, rD))) H := hP
  exact g_vret (v := ((rI, rC, rN), (rO, rG), (rW, rH, rF, QRM_settleAll_2 j 64 0 rT), (rM, rB, rX), (rQ, rA), (rE, rD))) hx hb hr hK hP hS (rfl) hlocks dRM_settleAll_26
set_option maxHeartbeats 4000000 in
set_option maxRecDepth 100000 in
theorem c_RM_remove (l : Launch) {D : va_G} {cI cZ : ClassId} {a : Nat → Nat} {A : Nat → Prop} (hA : ∀ v : RS, va_D A (wR cI cZ a v)) (rI : Nat) (rC rN : Int32) (rO rG : Nat → Bool) (rW rH : Nat → Int32) (rF : Nat → Bool) (rT : Nat → Int32) (rM rB : Nat → Int32) (rX : Int32) (rQ : Nat) (rA : Nat → Int32) (rE : Nat → Int32) (rD : Int64) (j : Nat) (hj : j < 16) : Met l yRM_remove wsRM_remove ({ frames := 1, cells := 0, slots := 0, locals := 22 }) (va_Pc [.ref (a 0), .int (nI j)] (gG D (tyR cI cZ) (wR cI cZ a) ((rI, rC, rN), (rO, rG), (rW, rH, rF, rT), (rM, rB, rX), (rQ, rA), (rE, rD)))) (va_Qv (fun u : RS => u = ((rI, rC, rN), (rO, rG), (upd rW j (-1), rH, updB rF j false, QRM_settleAll_2 j 64 0 rT), (rM, rB, rX), (rQ, rA), (rE, rD))) (gG D (tyR cI cZ) (wR cI cZ a)) A) 0 0 A := by
  refine g_enter (by decide) rfl (Nat.le_of_ble_eq_true rfl) ?_
  intro p e s m below meth c ls F hK hP hl
  obtain ⟨hx, hb, hr, hml, hown, hts, hlocks⟩ := id F
  have hS : va_S A s.heap s.heap [] := va_S.rf
  have hl : lv_has ls 2 [(0, .ref (a 0)), (1, .int (nI j))] := hl
  refine lv_aload_n hx hb dRM_remove_0 rfl (lv_at hl 0 rfl) ?_
  refine va_get (D := D) (ci := 5) (v := .ref (a 3)) (C := RRM) (T := TRM) (N := 16) hx hb hts inRM hown hK hP 0 rfl rfl 5 (by decide) (hts _ k580) (fun _ h9 => h9) rfl dRM_remove_1 ?_
  refine lv_iload_n hx hb dRM_remove_4 rfl (lv_at hl 1 rfl) ?_
  refine lv_iconst (v := (-1)) hx hb dRM_remove_5 (by decide) ?_
  refine ir_iast hx hb hK hP (hA _) hS 3 0 rfl rfl (k := j) (by omega) (by decide) dRM_remove_6 (fun H locs hP hS => ?_)
  have hP : va_P D vwCl (wR cI cZ a ((rI, rC, rN), (rO, rG), (upd rW j (-1), rH, rF, rT), (rM, rB, rX), (rQ, rA), (rE, rD))) H := hP
  refine lv_aload_n hx hb dRM_remove_7 rfl (lv_at hl 0 rfl) ?_
  refine va_get (D := D) (ci := 5) (v := .ref (a 5)) (C := RRM) (T := TRM) (N := 16) hx hb hts inRM hown hK hP 0 rfl rfl 7 (by decide) (hts _ k582) (fun _ h9 => h9) rfl dRM_remove_8 ?_
  refine lv_iload_n hx hb dRM_remove_11 rfl (lv_at hl 1 rfl) ?_
  refine lv_iconst (v := bi false) hx hb dRM_remove_12 (by decide) ?_
  refine ir_zast hx hb hK hP (hA _) hS 5 1 rfl rfl (k := j) (by omega) (by decide) dRM_remove_13 (fun H locs hP hS => ?_)
  have hP : va_P D vwCl (wR cI cZ a ((rI, rC, rN), (rO, rG), (upd rW j (-1), rH, updB rF j false, rT), (rM, rB, rX), (rQ, rA), (rE, rD))) H := hP
  refine lv_aload_n hx hb dRM_remove_14 rfl (lv_at hl 0 rfl) ?_
  refine lv_iload_n hx hb dRM_remove_15 rfl (lv_at hl 1 rfl) ?_
  refine g_callVv (As := [.int (nI j)]) (rest := []) ⟨hx, hb, hml, hown, hts⟩ (c_RM_settleAll l hA rI rC rN rO rG (upd rW j (-1)) rH (updB rF j false) rT rM rB rX rQ rA rE rD j (by first | omega | assumption)) (cwV 1 hts (gw_V k640 k642 k18 k32 k643) rfl rfl rfl (by decide +kernel) ⟨Nat.le_of_ble_eq_true rfl, Nat.le_of_ble_eq_true rfl⟩) hK hP (va_recv hK hP (ci := 5) (q0 := 0) rfl rfl) rfl hl.1 rfl (Nat.le_of_ble_eq_true rfl) dRM_remove_16 ⟨Nat.zero_le _, Nat.zero_le _⟩ (fun q h => h) hS (fun H locs hP hS => ?_)
  have hP : va_P D vwCl (wR cI cZ a ((rI, rC, rN), (rO, rG), (upd rW j (-1), rH, updB rF j false, QRM_settleAll_2 j 64 0 rT), (rM, rB, rX), (rQ, rA), (rE, rD))) H := hP
  exact g_vret (v := ((rI, rC, rN), (rO, rG), (upd rW j (-1), rH, updB rF j false, QRM_settleAll_2 j 64 0 rT), (rM, rB, rX), (rQ, rA), (rE, rD))) hx hb hr hK hP hS (rfl) hlocks dRM_remove_19
def QRM_port_69 (q : Nat) (b : Bool) : Nat → Nat → (Nat → Int32) → (Nat → Bool) → (Nat → Int32) → (Nat → Int32) × (Nat → Bool) × (Nat → Int32)
  | 0, k, rW, rF, rT => (rW, rF, rT)
  | n + 1, k, rW, rF, rT => (cond b (QRM_port_69 q b n (k + 1) rW rF rT) (if (rW k) < 0 then QRM_port_69 q b n (k + 1) rW rF rT else (if ((rW k) / 64) = (nI q) then QRM_port_69 q b n (k + 1) (upd rW k (-1)) (updB rF k false) (QRM_settleAll_2 k 64 0 rT) else QRM_port_69 q b n (k + 1) rW rF rT)))
set_option maxHeartbeats 4000000 in
set_option maxRecDepth 100000 in
theorem lqRM_port_69 {p : Program} {l : Launch} {e : Env} {s : State} {m : MethodId} {args : Array Value} {below : List Frame} {meth : Method} {c : Code} {D : va_G} {cI cZ : ClassId} {a : Nat → Nat} {A : Nat → Prop} (hA : ∀ v : RS, va_D A (wR cI cZ a v)) (F : gFix p c cRM_port meth (some .boolean) m s args bigW RRM 5) (hK : va_K D vwCl (tyR cI cZ) s) (rI : Nat) (rC : Int32) (rN : Int32) (rO : Nat → Bool) (rG : Nat → Bool) (rH : Nat → Int32) (rM : Nat → Int32) (rB : Nat → Int32) (rX : Int32) (rQ : Nat) (rA : Nat → Int32) (rE : Nat → Int32) (rD : Int64) (u : Bool) {q : Nat} {b : Bool} (hq : q < 8) (Q : State → Prop) : ∀ (n k : Nat)  (rW : Nat → Int32) (rF : Nat → Bool) (rT : Nat → Int32) (ls : Array Slot) (H : Heap) (locs : List Loc), k + n = 16 → va_P D vwCl (wR cI cZ a ((rI, rC, rN), (rO, rG), (rW, rH, rF, rT), (rM, rB, rX), (rQ, rA), (rE, rD))) H → va_S A s.heap H locs → lv_has ls 5 [(4, .int (nI k)), (3, .int (bi u)), (0, .ref (a 0)), (1, .int (nI q)), (2, .int (bi b))] → (∀ (ls : Array Slot) (H : Heap) (locs : List Loc), va_P D vwCl (wR cI cZ a ((rI, rC, rN), (rO, rG), ((QRM_port_69 q b n k rW rF rT).1, rH, (QRM_port_69 q b n k rW rF rT).2.1, (QRM_port_69 q b n k rW rF rT).2.2), (rM, rB, rX), (rQ, rA), (rE, rD))) H → va_S A s.heap H locs → lv_has ls 5 [(4, .int (nI 16)), (3, .int (bi u)), (0, .ref (a 0)), (1, .int (nI q)), (2, .int (bi b))] → W p l e ({ frames := 2, cells := 0, slots := 0, locals := 43 }) s m args below meth c H locs 0 0 Q (F0 m 116 ls [])) → W p l e ({ frames := 2, cells := 0, slots := 0, locals := 43 }) s m args below meth c H locs 0 0 Q (F0 m 69 ls []) := by
  obtain ⟨hx, hb, hr, hml, hown, hts, hlocks⟩ := id F
  intro n
  induction n with
  | zero =>
    intro k rW rF rT ls H locs hkn  hP hS hl hkk
    refine lv_iload hx hb dRM_port_69 (lv_at hl 0 rfl) ?_
    refine lv_bipush (v := nI 16) hx hb dRM_port_71 (by decide) ?_
    refine lv_icmp_ge (tgt := 116) hx hb dRM_port_73 (by decide) (fun _ => ?_) (fun c0 => absurd (nI_le (by omega) (by omega)) c0)
    obtain rfl : k = 16 := by omega
    exact hkk ls H locs hP hS (lv_sub hl [0, 1, 2, 3, 4] rfl)
  | succ n ih =>
    intro k rW rF rT ls H locs hkn  hP hS hl hkk
    refine lv_iload hx hb dRM_port_69 (lv_at hl 0 rfl) ?_
    refine lv_bipush (v := nI 16) hx hb dRM_port_71 (by decide) ?_
    refine lv_icmp_ge (tgt := 116) hx hb dRM_port_73 (by decide) (fun c0 => absurd c0 (nI_ge (by omega) (by omega))) (fun _ => ?_)
    refine lv_iload_n hx hb dRM_port_76 rfl (lv_at hl 4 rfl) ?_
    refine lv_if_neb (tgt := 110) hx hb dRM_port_77 (by decide) (fun c6 => ?_) (fun c6 => ?_)
    · refine lv_iinc (v := nI (k + 1)) (lv' := [(4, .int (nI (k + 1))), (3, .int (bi u)), (0, .ref (a 0)), (1, .int (nI q)), (2, .int (bi b))]) hx hb dRM_port_110 hl (k := 0) rfl (nI_1 k) (by decide) rfl (fun ls hl => ?_)
      refine lv_goto (tgt := 69) hx hb dRM_port_113 (by decide) ?_
      have e1 : QRM_port_69 q b (n + 1) k rW rF rT = QRM_port_69 q b n (k + 1) rW rF rT := by simp only [QRM_port_69, cond_yes c6]
      rw [e1] at hkk
      exact ih (k + 1) rW rF rT ls H locs (by omega)  hP hS (lv_sub hl [0, 1, 2, 3, 4] rfl) hkk
    · refine lv_aload_n hx hb dRM_port_80 rfl (lv_at hl 2 rfl) ?_
      refine va_get (D := D) (ci := 5) (v := .ref (a 3)) (C := RRM) (T := TRM) (N := 16) hx hb hts inRM hown hK hP 0 rfl rfl 5 (by decide) (hts _ k580) (fun _ h9 => h9) rfl dRM_port_81 ?_
      refine lv_iload hx hb dRM_port_84 (lv_at hl 0 rfl) ?_
      refine ir_iald hx hb hK hP 3 0 rfl rfl (k := k) (by omega) (by decide) dRM_port_86 ?_
      refine lv_if_lt (tgt := 110) hx hb dRM_port_87 (by decide) (fun c7 => ?_) (fun c7 => ?_)
      · refine lv_iinc (v := nI (k + 1)) (lv' := [(4, .int (nI (k + 1))), (3, .int (bi u)), (0, .ref (a 0)), (1, .int (nI q)), (2, .int (bi b))]) hx hb dRM_port_110 hl (k := 0) rfl (nI_1 k) (by decide) rfl (fun ls hl => ?_)
        refine lv_goto (tgt := 69) hx hb dRM_port_113 (by decide) ?_
        have e1 : QRM_port_69 q b (n + 1) k rW rF rT = QRM_port_69 q b n (k + 1) rW rF rT := by first | (simp only [QRM_port_69, cond_no c6, if_pos c7]; done) | (simp only [QRM_port_69, cond_no c6]; simp only [if_pos c7])
        rw [e1] at hkk
        exact ih (k + 1) rW rF rT ls H locs (by omega)  hP hS (lv_sub hl [0, 1, 2, 3, 4] rfl) hkk
      · refine lv_aload_n hx hb dRM_port_90 rfl (lv_at hl 2 rfl) ?_
        refine va_get (D := D) (ci := 5) (v := .ref (a 3)) (C := RRM) (T := TRM) (N := 16) hx hb hts inRM hown hK hP 0 rfl rfl 5 (by decide) (hts _ k580) (fun _ h9 => h9) rfl dRM_port_91 ?_
        refine lv_iload hx hb dRM_port_94 (lv_at hl 0 rfl) ?_
        refine ir_iald hx hb hK hP 3 0 rfl rfl (k := k) (by omega) (by decide) dRM_port_96 ?_
        refine lv_bipush (v := 64) hx hb dRM_port_97 (by decide) ?_
        refine lv_idiv hx hb dRM_port_99 (by decide) ?_
        refine lv_iload_n hx hb dRM_port_100 rfl (lv_at hl 3 rfl) ?_
        refine lv_icmp_ne (tgt := 110) hx hb dRM_port_101 (by decide) (fun c8 => ?_) (fun c8 => ?_)
        · refine lv_iinc (v := nI (k + 1)) (lv' := [(4, .int (nI (k + 1))), (3, .int (bi u)), (0, .ref (a 0)), (1, .int (nI q)), (2, .int (bi b))]) hx hb dRM_port_110 hl (k := 0) rfl (nI_1 k) (by decide) rfl (fun ls hl => ?_)
          refine lv_goto (tgt := 69) hx hb dRM_port_113 (by decide) ?_
          have e1 : QRM_port_69 q b (n + 1) k rW rF rT = QRM_port_69 q b n (k + 1) rW rF rT := by first | (simp only [QRM_port_69, cond_no c6, if_neg c7, if_neg c8]; done) | (simp only [QRM_port_69, cond_no c6]; simp only [if_neg c7]; simp only [if_neg c8])
          rw [e1] at hkk
          exact ih (k + 1) rW rF rT ls H locs (by omega)  hP hS (lv_sub hl [0, 1, 2, 3, 4] rfl) hkk
        · refine lv_aload_n hx hb dRM_port_104 rfl (lv_at hl 2 rfl) ?_
          refine lv_iload hx hb dRM_port_105 (lv_at hl 0 rfl) ?_
          refine g_callVv (As := [.int (nI k)]) (rest := []) ⟨hx, hb, hml, hown, hts⟩ (c_RM_remove l hA rI rC rN rO rG rW rH rF rT rM rB rX rQ rA rE rD k (by first | omega | assumption)) (cwV 1 hts (gw_V k636 k638 k17 k32 k639) rfl rfl rfl (by decide +kernel) ⟨Nat.le_of_ble_eq_true rfl, Nat.le_of_ble_eq_true rfl⟩) hK hP (va_recv hK hP (ci := 5) (q0 := 0) rfl rfl) rfl hl.1 rfl (Nat.le_of_ble_eq_true rfl) dRM_port_107 ⟨Nat.zero_le _, Nat.zero_le _⟩ (fun q h => h) hS (fun H locs hP hS => ?_)
          have hP : va_P D vwCl (wR cI cZ a ((rI, rC, rN), (rO, rG), (upd rW k (-1), rH, updB rF k false, QRM_settleAll_2 k 64 0 rT), (rM, rB, rX), (rQ, rA), (rE, rD))) H := hP
          refine lv_iinc (v := nI (k + 1)) (lv' := [(4, .int (nI (k + 1))), (3, .int (bi u)), (0, .ref (a 0)), (1, .int (nI q)), (2, .int (bi b))]) hx hb dRM_port_110 hl (k := 0) rfl (nI_1 k) (by decide) rfl (fun ls hl => ?_)
          refine lv_goto (tgt := 69) hx hb dRM_port_113 (by decide) ?_
          have e1 : QRM_port_69 q b (n + 1) k rW rF rT = QRM_port_69 q b n (k + 1) (upd rW k (-1)) (updB rF k false) (QRM_settleAll_2 k 64 0 rT) := by first | (simp only [QRM_port_69, cond_no c6, if_neg c7, if_pos c8]; done) | (simp only [QRM_port_69, cond_no c6]; simp only [if_neg c7]; simp only [if_pos c8])
          rw [e1] at hkk
          exact ih (k + 1) (upd rW k (-1)) (updB rF k false) (QRM_settleAll_2 k 64 0 rT) ls H locs (by omega)  hP hS (lv_sub hl [0, 1, 2, 3, 4] rfl) hkk
def fRM_port (rO : Nat → Bool) (rG : Nat → Bool) (q : Nat) (b : Bool) : Bool × (Nat → Bool) := (cond (rG q) (cond b (if (rO q) = b then (false, updB rG q true) else (true, updB rG q true)) (if (rO q) = b then (false, updB rG q false) else (true, updB rG q false))) (if (rO q) = b then (false, updB rG q false) else (true, updB rG q false)))
set_option maxHeartbeats 4000000 in
set_option maxRecDepth 100000 in
theorem c_RM_port (l : Launch) {D : va_G} {cI cZ : ClassId} {a : Nat → Nat} {A : Nat → Prop} (hA : ∀ v : RS, va_D A (wR cI cZ a v)) (rI : Nat) (rC rN : Int32) (rO rG : Nat → Bool) (rW rH : Nat → Int32) (rF : Nat → Bool) (rT : Nat → Int32) (rM rB : Nat → Int32) (rX : Int32) (rQ : Nat) (rA : Nat → Int32) (rE : Nat → Int32) (rD : Int64) (q : Nat) (b : Bool) (hq : q < 8) : Met l yRM_port wsRM_port ({ frames := 2, cells := 0, slots := 0, locals := 43 }) (va_Pc [.ref (a 0), .int (nI q), .int (bi b)] (gG D (tyR cI cZ) (wR cI cZ a) ((rI, rC, rN), (rO, rG), (rW, rH, rF, rT), (rM, rB, rX), (rQ, rA), (rE, rD)))) (va_Qi (fun (r : Int32) (u : RS) => r = bi ((fRM_port rO rG q b).1) ∧ u = ((rI, 0, rN), (updB rO q b, (fRM_port rO rG q b).2), ((QRM_port_69 q b 16 0 rW rF rT).1, rH, (QRM_port_69 q b 16 0 rW rF rT).2.1, (QRM_port_69 q b 16 0 rW rF rT).2.2), (rM, rB, rX), (rQ, rA), (rE, rD))) (gG D (tyR cI cZ) (wR cI cZ a)) A) 0 0 A := by
  refine g_enter (by decide) rfl (Nat.le_of_ble_eq_true rfl) ?_
  intro p e s m below meth c ls F hK hP hl
  obtain ⟨hx, hb, hr, hml, hown, hts, hlocks⟩ := id F
  have hS : va_S A s.heap s.heap [] := va_S.rf
  have hl : lv_has ls 5 [(0, .ref (a 0)), (1, .int (nI q)), (2, .int (bi b))] := hl
  refine lv_aload_n hx hb dRM_port_0 rfl (lv_at hl 0 rfl) ?_
  refine lv_iload_n hx hb dRM_port_1 rfl (lv_at hl 1 rfl) ?_
  refine lv_iconst (v := 0) hx hb dRM_port_2 (by decide) ?_
  refine lv_bipush (v := 7) hx hb dRM_port_3 (by decide) ?_
  refine g_roSi (As := [.int (nI q), .int 0, .int 7]) (rest := [.ref (a 0)]) ⟨hx, hb, hml, hown, hts⟩ (c_RM_in l rI rC rN rO rG rW rH rF rT rM rB rX rQ rA rE rD (nI q) 0 7) (cw_S 3 hts k633 k634 k32 k635 rfl rfl rfl (by decide +kernel) ⟨Nat.le_of_ble_eq_true rfl, Nat.le_of_ble_eq_true rfl⟩) hK hP rfl hl.1 rfl (Nat.le_of_ble_eq_true rfl) dRM_port_5 ⟨Nat.zero_le _, Nat.zero_le _⟩ ?_
  refine lv_if_eqb (tgt := 15) hx hb dRM_port_8 (by decide) (fun c1 => absurd (c1.symm.trans (in_K (b := 7) (by omega) (by decide))) (by decide)) (fun c1 => ?_)
  refine lv_iconst (v := 0) hx hb dRM_port_11 (by decide) ?_
  refine lv_goto (tgt := 16) hx hb dRM_port_12 (by decide) ?_
  refine va_put (D := D) (ci := 5) (v := .int 0) (ty := .int) (C := RRM) (T := TRM) (N := 16) hx hb hts inRM tyRM tyRM_ok nmRM hown hK hP (hA _) hS 0 rfl rfl 1 (by decide) (hts _ k576) (fun _ h9 => h9) rfl (by decide +kernel) rfl rfl (Nat.le_of_ble_eq_true rfl) dRM_port_16 (fun H locs hP _ hS => ?_)
  have hP : va_P D vwCl (wR cI cZ a ((rI, 0, rN), (rO, rG), (rW, rH, rF, rT), (rM, rB, rX), (rQ, rA), (rE, rD))) H := hP
  refine lv_aload_n hx hb dRM_port_19 rfl (lv_at hl 0 rfl) ?_
  refine va_get (D := D) (ci := 5) (v := .int 0) (C := RRM) (T := TRM) (N := 16) hx hb hts inRM hown hK hP 0 rfl rfl 1 (by decide) (hts _ k576) (fun _ h9 => h9) rfl dRM_port_20 ?_
  refine lv_if_le (tgt := 28) hx hb dRM_port_23 (by decide) (fun _ => ?_) (fun c0 => absurd (by decide) c0)
  refine lv_aload_n hx hb dRM_port_28 rfl (lv_at hl 0 rfl) ?_
  refine va_get (D := D) (ci := 5) (v := .ref (a 1)) (C := RRM) (T := TRM) (N := 16) hx hb hts inRM hown hK hP 0 rfl rfl 3 (by decide) (hts _ k578) (fun _ h9 => h9) rfl dRM_port_29 ?_
  refine lv_iload_n hx hb dRM_port_32 rfl (lv_at hl 1 rfl) ?_
  refine ir_zald hx hb hK hP 1 1 rfl rfl (k := q) (by omega) (by decide) dRM_port_33 ?_
  refine lv_istore_n (lv' := [(3, .int (bi (rO q))), (0, .ref (a 0)), (1, .int (nI q)), (2, .int (bi b))]) hx hb dRM_port_34 rfl hl (by decide) rfl (fun ls hl => ?_)
  refine lv_aload_n hx hb dRM_port_35 rfl (lv_at hl 1 rfl) ?_
  refine va_get (D := D) (ci := 5) (v := .ref (a 1)) (C := RRM) (T := TRM) (N := 16) hx hb hts inRM hown hK hP 0 rfl rfl 3 (by decide) (hts _ k578) (fun _ h9 => h9) rfl dRM_port_36 ?_
  refine lv_iload_n hx hb dRM_port_39 rfl (lv_at hl 2 rfl) ?_
  refine lv_iload_n hx hb dRM_port_40 rfl (lv_at hl 3 rfl) ?_
  refine ir_zast hx hb hK hP (hA _) hS 1 1 rfl rfl (k := q) (by omega) (by decide) dRM_port_41 (fun H locs hP hS => ?_)
  have hP : va_P D vwCl (wR cI cZ a ((rI, 0, rN), (updB rO q b, rG), (rW, rH, rF, rT), (rM, rB, rX), (rQ, rA), (rE, rD))) H := hP
  refine lv_aload_n hx hb dRM_port_42 rfl (lv_at hl 1 rfl) ?_
  refine va_get (D := D) (ci := 5) (v := .ref (a 2)) (C := RRM) (T := TRM) (N := 16) hx hb hts inRM hown hK hP 0 rfl rfl 4 (by decide) (hts _ k579) (fun _ h9 => h9) rfl dRM_port_43 ?_
  refine lv_iload_n hx hb dRM_port_46 rfl (lv_at hl 2 rfl) ?_
  refine lv_aload_n hx hb dRM_port_47 rfl (lv_at hl 1 rfl) ?_
  refine va_get (D := D) (ci := 5) (v := .ref (a 2)) (C := RRM) (T := TRM) (N := 16) hx hb hts inRM hown hK hP 0 rfl rfl 4 (by decide) (hts _ k579) (fun _ h9 => h9) rfl dRM_port_48 ?_
  refine lv_iload_n hx hb dRM_port_51 rfl (lv_at hl 2 rfl) ?_
  refine ir_zald hx hb hK hP 2 1 rfl rfl (k := q) (by omega) (by decide) dRM_port_52 ?_
  refine lv_if_eqb (tgt := 64) hx hb dRM_port_53 (by decide) (fun c3 => ?_) (fun c3 => ?_)
  · refine lv_iconst (v := bi false) hx hb dRM_port_64 (by decide) ?_
    refine ir_zast hx hb hK hP (hA _) hS 2 1 rfl rfl (k := q) (by omega) (by decide) dRM_port_65 (fun H locs hP hS => ?_)
    have hP : va_P D vwCl (wR cI cZ a ((rI, 0, rN), (updB rO q b, updB rG q false), (rW, rH, rF, rT), (rM, rB, rX), (rQ, rA), (rE, rD))) H := hP
    refine lv_iconst (v := nI 0) hx hb dRM_port_66 (by decide) ?_
    refine lv_istore (lv' := [(4, .int (nI 0)), (3, .int (bi (rO q))), (0, .ref (a 0)), (1, .int (nI q)), (2, .int (bi b))]) hx hb dRM_port_67 hl (by decide) rfl (fun ls hl => ?_)
    refine lqRM_port_69 hA F hK rI 0 rN (updB rO q b) (updB rG q false) rH rM rB rX rQ rA rE rD (rO q) (by first | omega | assumption)  _ 16 0 rW rF rT ls H locs (by omega)  hP hS (lv_sub hl [0, 1, 2, 3, 4] rfl) (fun ls H locs hP hS hl => ?_)
    have hP : va_P D vwCl (wR cI cZ a ((rI, 0, rN), (updB rO q b, updB rG q false), ((QRM_port_69 q b 16 0 rW rF rT).1, rH, (QRM_port_69 q b 16 0 rW rF rT).2.1, (QRM_port_69 q b 16 0 rW rF rT).2.2), (rM, rB, rX), (rQ, rA), (rE, rD))) H := hP
    refine lv_iload_n hx hb dRM_port_116 rfl (lv_at hl 1 rfl) ?_
    refine lv_iload_n hx hb dRM_port_117 rfl (lv_at hl 4 rfl) ?_
    refine lv_icmp_eq (tgt := 125) hx hb dRM_port_118 (by decide) (fun c9 => ?_) (fun c9 => ?_)
    · have c9 := bi_inj c9
      refine lv_iconst (v := bi false) hx hb dRM_port_125 (by decide) ?_
      have e1 : fRM_port rO rG q b = (false, updB rG q false) := by first | (simp only [fRM_port, cond_no c3, if_pos c9]; done) | (simp only [fRM_port, cond_no c3]; simp only [if_pos c9])
      exact g_zret (v := ((rI, 0, rN), (updB rO q b, updB rG q false), ((QRM_port_69 q b 16 0 rW rF rT).1, rH, (QRM_port_69 q b 16 0 rW rF rT).2.1, (QRM_port_69 q b 16 0 rW rF rT).2.2), (rM, rB, rX), (rQ, rA), (rE, rD))) hx hb hr hK hP hS ⟨by first | rfl | (rw [e1] <;> rfl), by first | rfl | (rw [e1] <;> rfl)⟩ hlocks dRM_port_126
    · have c9 : ¬ (rO q) = b := fun q => c9 (by rw [q])
      refine lv_iconst (v := bi true) hx hb dRM_port_121 (by decide) ?_
      refine lv_goto (tgt := 126) hx hb dRM_port_122 (by decide) ?_
      have e1 : fRM_port rO rG q b = (true, updB rG q false) := by first | (simp only [fRM_port, cond_no c3, if_neg c9]; done) | (simp only [fRM_port, cond_no c3]; simp only [if_neg c9])
      exact g_zret (v := ((rI, 0, rN), (updB rO q b, updB rG q false), ((QRM_port_69 q b 16 0 rW rF rT).1, rH, (QRM_port_69 q b 16 0 rW rF rT).2.1, (QRM_port_69 q b 16 0 rW rF rT).2.2), (rM, rB, rX), (rQ, rA), (rE, rD))) hx hb hr hK hP hS ⟨by first | rfl | (rw [e1] <;> rfl), by first | rfl | (rw [e1] <;> rfl)⟩ hlocks dRM_port_126
  · refine lv_iload_n hx hb dRM_port_56 rfl (lv_at hl 3 rfl) ?_
    refine lv_if_eqb (tgt := 64) hx hb dRM_port_57 (by decide) (fun c10 => ?_) (fun c10 => ?_)
    · refine lv_iconst (v := bi false) hx hb dRM_port_64 (by decide) ?_
      refine ir_zast hx hb hK hP (hA _) hS 2 1 rfl rfl (k := q) (by omega) (by decide) dRM_port_65 (fun H locs hP hS => ?_)
      have hP : va_P D vwCl (wR cI cZ a ((rI, 0, rN), (updB rO q b, updB rG q false), (rW, rH, rF, rT), (rM, rB, rX), (rQ, rA), (rE, rD))) H := hP
      refine lv_iconst (v := nI 0) hx hb dRM_port_66 (by decide) ?_
      refine lv_istore (lv' := [(4, .int (nI 0)), (3, .int (bi (rO q))), (0, .ref (a 0)), (1, .int (nI q)), (2, .int (bi b))]) hx hb dRM_port_67 hl (by decide) rfl (fun ls hl => ?_)
      refine lqRM_port_69 hA F hK rI 0 rN (updB rO q b) (updB rG q false) rH rM rB rX rQ rA rE rD (rO q) (by first | omega | assumption)  _ 16 0 rW rF rT ls H locs (by omega)  hP hS (lv_sub hl [0, 1, 2, 3, 4] rfl) (fun ls H locs hP hS hl => ?_)
      have hP : va_P D vwCl (wR cI cZ a ((rI, 0, rN), (updB rO q b, updB rG q false), ((QRM_port_69 q b 16 0 rW rF rT).1, rH, (QRM_port_69 q b 16 0 rW rF rT).2.1, (QRM_port_69 q b 16 0 rW rF rT).2.2), (rM, rB, rX), (rQ, rA), (rE, rD))) H := hP
      refine lv_iload_n hx hb dRM_port_116 rfl (lv_at hl 1 rfl) ?_
      refine lv_iload_n hx hb dRM_port_117 rfl (lv_at hl 4 rfl) ?_
      refine lv_icmp_eq (tgt := 125) hx hb dRM_port_118 (by decide) (fun c11 => ?_) (fun c11 => ?_)
      · have c11 := bi_inj c11
        refine lv_iconst (v := bi false) hx hb dRM_port_125 (by decide) ?_
        have e1 : fRM_port rO rG q b = (false, updB rG q false) := by first | (simp only [fRM_port, cond_yes c3, cond_no c10, if_pos c11]; done) | (simp only [fRM_port, cond_yes c3]; simp only [cond_no c10]; simp only [if_pos c11])
        exact g_zret (v := ((rI, 0, rN), (updB rO q b, updB rG q false), ((QRM_port_69 q b 16 0 rW rF rT).1, rH, (QRM_port_69 q b 16 0 rW rF rT).2.1, (QRM_port_69 q b 16 0 rW rF rT).2.2), (rM, rB, rX), (rQ, rA), (rE, rD))) hx hb hr hK hP hS ⟨by first | rfl | (rw [e1] <;> rfl), by first | rfl | (rw [e1] <;> rfl)⟩ hlocks dRM_port_126
      · have c11 : ¬ (rO q) = b := fun q => c11 (by rw [q])
        refine lv_iconst (v := bi true) hx hb dRM_port_121 (by decide) ?_
        refine lv_goto (tgt := 126) hx hb dRM_port_122 (by decide) ?_
        have e1 : fRM_port rO rG q b = (true, updB rG q false) := by first | (simp only [fRM_port, cond_yes c3, cond_no c10, if_neg c11]; done) | (simp only [fRM_port, cond_yes c3]; simp only [cond_no c10]; simp only [if_neg c11])
        exact g_zret (v := ((rI, 0, rN), (updB rO q b, updB rG q false), ((QRM_port_69 q b 16 0 rW rF rT).1, rH, (QRM_port_69 q b 16 0 rW rF rT).2.1, (QRM_port_69 q b 16 0 rW rF rT).2.2), (rM, rB, rX), (rQ, rA), (rE, rD))) hx hb hr hK hP hS ⟨by first | rfl | (rw [e1] <;> rfl), by first | rfl | (rw [e1] <;> rfl)⟩ hlocks dRM_port_126
    · refine lv_iconst (v := bi true) hx hb dRM_port_60 (by decide) ?_
      refine lv_goto (tgt := 65) hx hb dRM_port_61 (by decide) ?_
      refine ir_zast hx hb hK hP (hA _) hS 2 1 rfl rfl (k := q) (by omega) (by decide) dRM_port_65 (fun H locs hP hS => ?_)
      have hP : va_P D vwCl (wR cI cZ a ((rI, 0, rN), (updB rO q b, updB rG q true), (rW, rH, rF, rT), (rM, rB, rX), (rQ, rA), (rE, rD))) H := hP
      refine lv_iconst (v := nI 0) hx hb dRM_port_66 (by decide) ?_
      refine lv_istore (lv' := [(4, .int (nI 0)), (3, .int (bi (rO q))), (0, .ref (a 0)), (1, .int (nI q)), (2, .int (bi b))]) hx hb dRM_port_67 hl (by decide) rfl (fun ls hl => ?_)
      refine lqRM_port_69 hA F hK rI 0 rN (updB rO q b) (updB rG q true) rH rM rB rX rQ rA rE rD (rO q) (by first | omega | assumption)  _ 16 0 rW rF rT ls H locs (by omega)  hP hS (lv_sub hl [0, 1, 2, 3, 4] rfl) (fun ls H locs hP hS hl => ?_)
      have hP : va_P D vwCl (wR cI cZ a ((rI, 0, rN), (updB rO q b, updB rG q true), ((QRM_port_69 q b 16 0 rW rF rT).1, rH, (QRM_port_69 q b 16 0 rW rF rT).2.1, (QRM_port_69 q b 16 0 rW rF rT).2.2), (rM, rB, rX), (rQ, rA), (rE, rD))) H := hP
      refine lv_iload_n hx hb dRM_port_116 rfl (lv_at hl 1 rfl) ?_
      refine lv_iload_n hx hb dRM_port_117 rfl (lv_at hl 4 rfl) ?_
      refine lv_icmp_eq (tgt := 125) hx hb dRM_port_118 (by decide) (fun c12 => ?_) (fun c12 => ?_)
      · have c12 := bi_inj c12
        refine lv_iconst (v := bi false) hx hb dRM_port_125 (by decide) ?_
        have e1 : fRM_port rO rG q b = (false, updB rG q true) := by first | (simp only [fRM_port, cond_yes c3, cond_yes c10, if_pos c12]; done) | (simp only [fRM_port, cond_yes c3]; simp only [cond_yes c10]; simp only [if_pos c12])
        exact g_zret (v := ((rI, 0, rN), (updB rO q b, updB rG q true), ((QRM_port_69 q b 16 0 rW rF rT).1, rH, (QRM_port_69 q b 16 0 rW rF rT).2.1, (QRM_port_69 q b 16 0 rW rF rT).2.2), (rM, rB, rX), (rQ, rA), (rE, rD))) hx hb hr hK hP hS ⟨by first | rfl | (rw [e1] <;> rfl), by first | rfl | (rw [e1] <;> rfl)⟩ hlocks dRM_port_126
      · have c12 : ¬ (rO q) = b := fun q => c12 (by rw [q])
        refine lv_iconst (v := bi true) hx hb dRM_port_121 (by decide) ?_
        refine lv_goto (tgt := 126) hx hb dRM_port_122 (by decide) ?_
        have e1 : fRM_port rO rG q b = (true, updB rG q true) := by first | (simp only [fRM_port, cond_yes c3, cond_yes c10, if_neg c12]; done) | (simp only [fRM_port, cond_yes c3]; simp only [cond_yes c10]; simp only [if_neg c12])
        exact g_zret (v := ((rI, 0, rN), (updB rO q b, updB rG q true), ((QRM_port_69 q b 16 0 rW rF rT).1, rH, (QRM_port_69 q b 16 0 rW rF rT).2.1, (QRM_port_69 q b 16 0 rW rF rT).2.2), (rM, rB, rX), (rQ, rA), (rE, rD))) hx hb hr hK hP hS ⟨by first | rfl | (rw [e1] <;> rfl), by first | rfl | (rw [e1] <;> rfl)⟩ hlocks dRM_port_126
def fRM_wrong (rO : Nat → Bool) (q : Nat) : Int32 := (cond (rO q) 0 2)
set_option maxHeartbeats 4000000 in
set_option maxRecDepth 100000 in
theorem c_RM_wrong (l : Launch) {D : va_G} {cI cZ : ClassId} {a : Nat → Nat}  (rI : Nat) (rC rN : Int32) (rO rG : Nat → Bool) (rW rH : Nat → Int32) (rF : Nat → Bool) (rT : Nat → Int32) (rM rB : Nat → Int32) (rX : Int32) (rQ : Nat) (rA : Nat → Int32) (rE : Nat → Int32) (rD : Int64) (q : Nat) (o : Nat) (hq : q < 8) (ho : o < 64) (hI : rI < 64) (hne : ¬ o = rI) : Met l yRM_wrong wsRM_wrong ({ frames := 1, cells := 0, slots := 0, locals := 22 }) (va_Pc [.ref (a 0), .int (nI q), .int (nI o)] (gG D (tyR cI cZ) (wR cI cZ a) ((rI, rC, rN), (rO, rG), (rW, rH, rF, rT), (rM, rB, rX), (rQ, rA), (rE, rD)))) (vp_Si (fun r : Int32 => r = fRM_wrong rO q)) 0 0 (fun _ => False) := by
  refine g_enter (by decide) rfl (Nat.le_of_ble_eq_true rfl) ?_
  intro p e s m below meth c ls F hK hP hl
  obtain ⟨hx, hb, hr, hml, hown, hts, hlocks⟩ := id F
  have hl : lv_has ls 3 [(0, .ref (a 0)), (1, .int (nI q)), (2, .int (nI o))] := hl
  refine lv_iload_n hx hb dRM_wrong_0 rfl (lv_at hl 1 rfl) ?_
  refine lv_iconst (v := 0) hx hb dRM_wrong_1 (by decide) ?_
  refine lv_bipush (v := 7) hx hb dRM_wrong_2 (by decide) ?_
  refine g_roSi (As := [.int (nI q), .int 0, .int 7]) (rest := []) ⟨hx, hb, hml, hown, hts⟩ (c_RM_in l rI rC rN rO rG rW rH rF rT rM rB rX rQ rA rE rD (nI q) 0 7) (cw_S 3 hts k633 k634 k32 k635 rfl rfl rfl (by decide +kernel) ⟨Nat.le_of_ble_eq_true rfl, Nat.le_of_ble_eq_true rfl⟩) hK hP rfl hl.1 rfl (Nat.le_of_ble_eq_true rfl) dRM_wrong_4 ⟨Nat.zero_le _, Nat.zero_le _⟩ ?_
  refine lv_if_eqb (tgt := 28) hx hb dRM_wrong_7 (by decide) (fun c1 => absurd (c1.symm.trans (in_K (b := 7) (by omega) (by decide))) (by decide)) (fun c1 => ?_)
  refine lv_iload_n hx hb dRM_wrong_10 rfl (lv_at hl 2 rfl) ?_
  refine lv_iconst (v := 0) hx hb dRM_wrong_11 (by decide) ?_
  refine lv_bipush (v := 63) hx hb dRM_wrong_12 (by decide) ?_
  refine g_roSi (As := [.int (nI o), .int 0, .int 63]) (rest := []) ⟨hx, hb, hml, hown, hts⟩ (c_RM_in l rI rC rN rO rG rW rH rF rT rM rB rX rQ rA rE rD (nI o) 0 63) (cw_S 3 hts k633 k634 k32 k635 rfl rfl rfl (by decide +kernel) ⟨Nat.le_of_ble_eq_true rfl, Nat.le_of_ble_eq_true rfl⟩) hK hP rfl hl.1 rfl (Nat.le_of_ble_eq_true rfl) dRM_wrong_14 ⟨Nat.zero_le _, Nat.zero_le _⟩ ?_
  refine lv_if_eqb (tgt := 28) hx hb dRM_wrong_17 (by decide) (fun c2 => absurd (c2.symm.trans (in_K (b := 63) (by omega) (by decide))) (by decide)) (fun c2 => ?_)
  refine lv_iload_n hx hb dRM_wrong_20 rfl (lv_at hl 2 rfl) ?_
  refine lv_aload_n hx hb dRM_wrong_21 rfl (lv_at hl 0 rfl) ?_
  refine va_get (D := D) (ci := 5) (v := .int (nI rI)) (C := RRM) (T := TRM) (N := 16) hx hb hts inRM hown hK hP 0 rfl rfl 0 (by decide) (hts _ k575) (fun _ h9 => h9) rfl dRM_wrong_22 ?_
  refine lv_icmp_ne (tgt := 32) hx hb dRM_wrong_25 (by decide) (fun c3 => ?_) (fun c3 => absurd ((nI_eq (a := o) (b := rI) (by omega) (by omega)).mp c3) (by omega))
  refine lv_aload_n hx hb dRM_wrong_32 rfl (lv_at hl 0 rfl) ?_
  refine va_get (D := D) (ci := 5) (v := .ref (a 1)) (C := RRM) (T := TRM) (N := 16) hx hb hts inRM hown hK hP 0 rfl rfl 3 (by decide) (hts _ k578) (fun _ h9 => h9) rfl dRM_wrong_33 ?_
  refine lv_iload_n hx hb dRM_wrong_36 rfl (lv_at hl 1 rfl) ?_
  refine ir_zald hx hb hK hP 1 1 rfl rfl (k := q) (by omega) (by decide) dRM_wrong_37 ?_
  refine lv_if_neb (tgt := 45) hx hb dRM_wrong_38 (by decide) (fun c4 => ?_) (fun c4 => ?_)
  · refine lv_iconst (v := 0) hx hb dRM_wrong_45 (by decide) ?_
    have e1 : fRM_wrong rO q = 0 := by simp only [fRM_wrong, cond_yes c4]
    exact r_iret hx hb hr (by first | rfl | (rw [e1] <;> rfl)) hlocks dRM_wrong_46
  · refine lv_iconst (v := 2) hx hb dRM_wrong_41 (by decide) ?_
    refine lv_goto (tgt := 46) hx hb dRM_wrong_42 (by decide) ?_
    have e1 : fRM_wrong rO q = 2 := by simp only [fRM_wrong, cond_no c4]
    exact r_iret hx hb hr (by first | rfl | (rw [e1] <;> rfl)) hlocks dRM_wrong_46
theorem wrong_ok {rO : Nat → Bool} {q : Nat} (h : rO q = true) : fRM_wrong rO q = 0 := by
  unfold fRM_wrong; rw [h]; rfl
theorem wrong_off {rO : Nat → Bool} {q : Nat} (h : rO q = false) : fRM_wrong rO q = 2 := by
  unfold fRM_wrong; rw [h]; rfl
def QRM_greeting_39 (rW : Nat → Int32) : Nat → Option Nat → Option Nat
  | 0, f => f
  | k + 1, f => (if 0 ≤ (rW k) then QRM_greeting_39 rW k f else QRM_greeting_39 rW k (some k))
set_option maxHeartbeats 4000000 in
set_option maxRecDepth 100000 in
theorem lqRM_greeting_39 {p : Program} {l : Launch} {e : Env} {s : State} {m : MethodId} {args : Array Value} {below : List Frame} {meth : Method} {c : Code} {D : va_G} {cI cZ : ClassId} {a : Nat → Nat} {A : Nat → Prop} (hA : ∀ v : RS, va_D A (wR cI cZ a v)) (F : gFix p c cRM_greeting meth (some .int) m s args bigW RRM 7) (hK : va_K D vwCl (tyR cI cZ) s) (rI : Nat) (rC : Int32) (rN : Int32) (rO : Nat → Bool) (rG : Nat → Bool) (rW : Nat → Int32) (rH : Nat → Int32) (rF : Nat → Bool) (rT : Nat → Int32) (rM : Nat → Int32) (rB : Nat → Int32) (rX : Int32) (rQ : Nat) (rA : Nat → Int32) (rE : Nat → Int32) (rD : Int64) (u : Option Nat) {q : Nat} {o : Nat} {b : Bool} (hq : q < 8) (ho : o < 64) (hI : rI < 64) (hne : ¬ o = rI) (hon : rO q = true) (Q : State → Prop) : ∀ (k : Nat) (f : Option Nat)  (ls : Array Slot) (H : Heap) (locs : List Loc), k ≤ 16 → va_P D vwCl (wR cI cZ a ((rI, rC, rN), (rO, rG), (rW, rH, rF, rT), (rM, rB, rX), (rQ, rA), (rE, rD))) H → va_S A s.heap H locs → lv_has ls 7 [(6, .int (dn k)), (5, .int (oi f)), (4, .int (oi u)), (0, .ref (a 0)), (1, .int (nI q)), (2, .int (nI o)), (3, .int (bi b))] → (∀ (ls : Array Slot) (H : Heap) (locs : List Loc), va_P D vwCl (wR cI cZ a ((rI, rC, rN), (rO, rG), (rW, rH, rF, rT), (rM, rB, rX), (rQ, rA), (rE, rD))) H → va_S A s.heap H locs → lv_has ls 7 [(6, .int (-1)), (5, .int (oi (QRM_greeting_39 rW k f))), (4, .int (oi u)), (0, .ref (a 0)), (1, .int (nI q)), (2, .int (nI o)), (3, .int (bi b))] → W p l e ({ frames := 2, cells := 0, slots := 0, locals := 44 }) s m args below meth c H locs 0 0 Q (F0 m 69 ls [])) → W p l e ({ frames := 2, cells := 0, slots := 0, locals := 44 }) s m args below meth c H locs 0 0 Q (F0 m 39 ls []) := by
  obtain ⟨hx, hb, hr, hml, hown, hts, hlocks⟩ := id F
  intro k
  induction k with
  | zero =>
    intro f ls H locs hkn  hP hS hl hkk
    have hl : lv_has ls 7 [(6, .int (-1)), (5, .int (oi f)), (4, .int (oi u)), (0, .ref (a 0)), (1, .int (nI q)), (2, .int (nI o)), (3, .int (bi b))] := hl
    refine lv_iload hx hb dRM_greeting_39 (lv_at hl 0 rfl) ?_
    refine lv_if_lt (tgt := 69) hx hb dRM_greeting_41 (by decide) (fun _ => ?_) (fun c0 => absurd (by decide) c0)
    exact hkk ls H locs hP hS (lv_sub hl [0, 1, 2, 3, 4, 5, 6] rfl)
  | succ k ih =>
    intro f ls H locs hkn  hP hS hl hkk
    have hl : lv_has ls 7 [(6, .int (nI k)), (5, .int (oi f)), (4, .int (oi u)), (0, .ref (a 0)), (1, .int (nI q)), (2, .int (nI o)), (3, .int (bi b))] := hl
    refine lv_iload hx hb dRM_greeting_39 (lv_at hl 0 rfl) ?_
    refine lv_if_lt (tgt := 69) hx hb dRM_greeting_41 (by decide) (fun c0 => absurd c0 (nI_pos (by omega))) (fun _ => ?_)
    refine lv_aload_n hx hb dRM_greeting_44 rfl (lv_at hl 3 rfl) ?_
    refine va_get (D := D) (ci := 5) (v := .ref (a 3)) (C := RRM) (T := TRM) (N := 16) hx hb hts inRM hown hK hP 0 rfl rfl 5 (by decide) (hts _ k580) (fun _ h9 => h9) rfl dRM_greeting_45 ?_
    refine lv_iload hx hb dRM_greeting_48 (lv_at hl 0 rfl) ?_
    refine ir_iald hx hb hK hP 3 0 rfl rfl (k := k) (by omega) (by decide) dRM_greeting_50 ?_
    refine lv_if_ge (tgt := 59) hx hb dRM_greeting_51 (by decide) (fun c7 => ?_) (fun c7 => ?_)
    · refine lv_iload hx hb dRM_greeting_59 (lv_at hl 1 rfl) ?_
      refine lv_istore (lv' := [(5, .int (oi f)), (6, .int (nI k)), (4, .int (oi u)), (0, .ref (a 0)), (1, .int (nI q)), (2, .int (nI o)), (3, .int (bi b))]) hx hb dRM_greeting_61 hl (by decide) rfl (fun ls hl => ?_)
      refine lv_iinc (v := dn k) (lv' := [(6, .int (dn k)), (5, .int (oi f)), (4, .int (oi u)), (0, .ref (a 0)), (1, .int (nI q)), (2, .int (nI o)), (3, .int (bi b))]) hx hb dRM_greeting_63 hl (k := 1) rfl (dn_pred k) (by decide) rfl (fun ls hl => ?_)
      refine lv_goto (tgt := 39) hx hb dRM_greeting_66 (by decide) ?_
      have e1 : QRM_greeting_39 rW (k + 1) f = QRM_greeting_39 rW k f := by simp only [QRM_greeting_39, if_pos c7]
      rw [e1] at hkk
      exact ih  f ls H locs (by omega)  hP hS (lv_sub hl [0, 1, 2, 3, 4, 5, 6] rfl) hkk
    · refine lv_iload hx hb dRM_greeting_54 (lv_at hl 0 rfl) ?_
      refine lv_goto (tgt := 61) hx hb dRM_greeting_56 (by decide) ?_
      refine lv_istore (lv' := [(5, .int (nI k)), (6, .int (nI k)), (4, .int (oi u)), (0, .ref (a 0)), (1, .int (nI q)), (2, .int (nI o)), (3, .int (bi b))]) hx hb dRM_greeting_61 hl (by decide) rfl (fun ls hl => ?_)
      refine lv_iinc (v := dn k) (lv' := [(6, .int (dn k)), (5, .int (nI k)), (4, .int (oi u)), (0, .ref (a 0)), (1, .int (nI q)), (2, .int (nI o)), (3, .int (bi b))]) hx hb dRM_greeting_63 hl (k := 1) rfl (dn_pred k) (by decide) rfl (fun ls hl => ?_)
      refine lv_goto (tgt := 39) hx hb dRM_greeting_66 (by decide) ?_
      have e1 : QRM_greeting_39 rW (k + 1) f = QRM_greeting_39 rW k (some k) := by simp only [QRM_greeting_39, if_neg c7]
      rw [e1] at hkk
      exact ih  (some k) ls H locs (by omega)  hP hS (lv_sub hl [0, 1, 2, 3, 4, 5, 6] rfl) hkk
def QRM_greeting_107 (rN : Int32) (rF : Nat → Bool) (rM : Nat → Int32) (b : Bool) (j : Nat) : Nat → Nat → (Nat → Int32) → (Nat → Int32)
  | 0, k, rT => rT
  | n + 1, k, rT => (cond b (cond (rF j) (QRM_greeting_107 rN rF rM b j n (k + 1) (upd rT ((64 * j) + k) (rT ((64 * j) + k)))) (if (rM k) ≤ 0 then QRM_greeting_107 rN rF rM b j n (k + 1) (upd rT ((64 * j) + k) (rT ((64 * j) + k))) else QRM_greeting_107 rN rF rM b j n (k + 1) (upd rT ((64 * j) + k) rN))) (QRM_greeting_107 rN rF rM b j n (k + 1) (upd rT ((64 * j) + k) (-1))))
set_option maxHeartbeats 4000000 in
set_option maxRecDepth 100000 in
theorem lqRM_greeting_107 {p : Program} {l : Launch} {e : Env} {s : State} {m : MethodId} {args : Array Value} {below : List Frame} {meth : Method} {c : Code} {D : va_G} {cI cZ : ClassId} {a : Nat → Nat} {A : Nat → Prop} (hA : ∀ v : RS, va_D A (wR cI cZ a v)) (F : gFix p c cRM_greeting meth (some .int) m s args bigW RRM 7) (hK : va_K D vwCl (tyR cI cZ) s) (rI : Nat) (rC : Int32) (rN : Int32) (rO : Nat → Bool) (rG : Nat → Bool) (rW : Nat → Int32) (rH : Nat → Int32) (rF : Nat → Bool) (rM : Nat → Int32) (rB : Nat → Int32) (rX : Int32) (rQ : Nat) (rA : Nat → Int32) (rE : Nat → Int32) (rD : Int64) (j : Nat) {q : Nat} {o : Nat} {b : Bool} (hq : q < 8) (ho : o < 64) (hI : rI < 64) (hne : ¬ o = rI) (hon : rO q = true) (hj : j < 16) (Q : State → Prop) : ∀ (n k : Nat)  (rT : Nat → Int32) (ls : Array Slot) (H : Heap) (locs : List Loc), k + n = 64 → va_P D vwCl (wR cI cZ a ((rI, rC, rN), (rO, rG), (rW, rH, rF, rT), (rM, rB, rX), (rQ, rA), (rE, rD))) H → va_S A s.heap H locs → lv_has ls 7 [(5, .int (nI k)), (4, .int (nI j)), (0, .ref (a 0)), (1, .int (nI q)), (2, .int (nI o)), (3, .int (bi b))] → (∀ (ls : Array Slot) (H : Heap) (locs : List Loc), va_P D vwCl (wR cI cZ a ((rI, rC, rN), (rO, rG), (rW, rH, rF, QRM_greeting_107 rN rF rM b j n k rT), (rM, rB, rX), (rQ, rA), (rE, rD))) H → va_S A s.heap H locs → lv_has ls 7 [(5, .int (nI 64)), (4, .int (nI j)), (0, .ref (a 0)), (1, .int (nI q)), (2, .int (nI o)), (3, .int (bi b))] → W p l e ({ frames := 2, cells := 0, slots := 0, locals := 44 }) s m args below meth c H locs 0 0 Q (F0 m 197 ls [])) → W p l e ({ frames := 2, cells := 0, slots := 0, locals := 44 }) s m args below meth c H locs 0 0 Q (F0 m 107 ls []) := by
  obtain ⟨hx, hb, hr, hml, hown, hts, hlocks⟩ := id F
  intro n
  induction n with
  | zero =>
    intro k rT ls H locs hkn  hP hS hl hkk
    refine lv_iload hx hb dRM_greeting_107 (lv_at hl 0 rfl) ?_
    refine lv_bipush (v := nI 64) hx hb dRM_greeting_109 (by decide) ?_
    refine lv_icmp_ge (tgt := 197) hx hb dRM_greeting_111 (by decide) (fun _ => ?_) (fun c0 => absurd (nI_le (by omega) (by omega)) c0)
    obtain rfl : k = 64 := by omega
    exact hkk ls H locs hP hS (lv_sub hl [0, 1, 2, 3, 4, 5] rfl)
  | succ n ih =>
    intro k rT ls H locs hkn  hP hS hl hkk
    refine lv_iload hx hb dRM_greeting_107 (lv_at hl 0 rfl) ?_
    refine lv_bipush (v := nI 64) hx hb dRM_greeting_109 (by decide) ?_
    refine lv_icmp_ge (tgt := 197) hx hb dRM_greeting_111 (by decide) (fun c0 => absurd c0 (nI_ge (by omega) (by omega))) (fun _ => ?_)
    refine lv_iload_n hx hb dRM_greeting_114 rfl (lv_at hl 5 rfl) ?_
    refine lv_if_eqb (tgt := 142) hx hb dRM_greeting_115 (by decide) (fun c15 => ?_) (fun c15 => ?_)
    · refine lv_iconst (v := bi false) hx hb dRM_greeting_142 (by decide) ?_
      refine lv_istore (lv' := [(6, .int (bi false)), (5, .int (nI k)), (4, .int (nI j)), (0, .ref (a 0)), (1, .int (nI q)), (2, .int (nI o)), (3, .int (bi b))]) hx hb dRM_greeting_143 hl (by decide) rfl (fun ls hl => ?_)
      refine lv_aload_n hx hb dRM_greeting_145 rfl (lv_at hl 3 rfl) ?_
      refine va_get (D := D) (ci := 5) (v := .ref (a 6)) (C := RRM) (T := TRM) (N := 16) hx hb hts inRM hown hK hP 0 rfl rfl 8 (by decide) (hts _ k583) (fun _ h9 => h9) rfl dRM_greeting_146 ?_
      refine lv_bipush (v := 64) hx hb dRM_greeting_149 (by decide) ?_
      refine lv_iload hx hb dRM_greeting_151 (lv_at hl 2 rfl) ?_
      refine lv_imul hx hb dRM_greeting_153 ?_
      refine lv_eqi (y := nI (64 * j)) (pk_mul 64 j) ?_
      refine lv_iload hx hb dRM_greeting_154 (lv_at hl 1 rfl) ?_
      refine lv_iadd hx hb dRM_greeting_156 ?_
      refine lv_eqi (y := nI ((64 * j) + k)) (nI_add (64 * j) k) ?_
      refine lv_iload hx hb dRM_greeting_157 (lv_at hl 0 rfl) ?_
      refine lv_if_eqb (tgt := 169) hx hb dRM_greeting_159 (by decide) (fun _ => ?_) (fun c16 => by cases c16)
      refine lv_iload_n hx hb dRM_greeting_169 rfl (lv_at hl 6 rfl) ?_
      refine lv_if_eqb (tgt := 189) hx hb dRM_greeting_170 (by decide) (fun _ => ?_) (fun c17 => absurd (c17.symm.trans c15) (by decide))
      refine lv_iconst (v := (-1)) hx hb dRM_greeting_189 (by decide) ?_
      refine ir_iast hx hb hK hP (hA _) hS 6 0 rfl rfl (k := (64 * j) + k) (by omega) (by decide) dRM_greeting_190 (fun H locs hP hS => ?_)
      have hP : va_P D vwCl (wR cI cZ a ((rI, rC, rN), (rO, rG), (rW, rH, rF, upd rT ((64 * j) + k) (-1)), (rM, rB, rX), (rQ, rA), (rE, rD))) H := hP
      refine lv_iinc (v := nI (k + 1)) (lv' := [(5, .int (nI (k + 1))), (6, .int (bi false)), (4, .int (nI j)), (0, .ref (a 0)), (1, .int (nI q)), (2, .int (nI o)), (3, .int (bi b))]) hx hb dRM_greeting_191 hl (k := 1) rfl (nI_1 k) (by decide) rfl (fun ls hl => ?_)
      refine lv_goto (tgt := 107) hx hb dRM_greeting_194 (by decide) ?_
      have e1 : QRM_greeting_107 rN rF rM b j (n + 1) k rT = QRM_greeting_107 rN rF rM b j n (k + 1) (upd rT ((64 * j) + k) (-1)) := by simp only [QRM_greeting_107, cond_no c15]
      rw [e1] at hkk
      exact ih (k + 1) (upd rT ((64 * j) + k) (-1)) ls H locs (by omega)  hP hS (lv_sub hl [0, 2, 3, 4, 5, 6] rfl) hkk
    · refine lv_aload_n hx hb dRM_greeting_118 rfl (lv_at hl 2 rfl) ?_
      refine va_get (D := D) (ci := 5) (v := .ref (a 5)) (C := RRM) (T := TRM) (N := 16) hx hb hts inRM hown hK hP 0 rfl rfl 7 (by decide) (hts _ k582) (fun _ h9 => h9) rfl dRM_greeting_119 ?_
      refine lv_iload hx hb dRM_greeting_122 (lv_at hl 1 rfl) ?_
      refine ir_zald hx hb hK hP 5 1 rfl rfl (k := j) (by omega) (by decide) dRM_greeting_124 ?_
      refine lv_if_neb (tgt := 142) hx hb dRM_greeting_125 (by decide) (fun c18 => ?_) (fun c18 => ?_)
      · refine lv_iconst (v := bi false) hx hb dRM_greeting_142 (by decide) ?_
        refine lv_istore (lv' := [(6, .int (bi false)), (5, .int (nI k)), (4, .int (nI j)), (0, .ref (a 0)), (1, .int (nI q)), (2, .int (nI o)), (3, .int (bi b))]) hx hb dRM_greeting_143 hl (by decide) rfl (fun ls hl => ?_)
        refine lv_aload_n hx hb dRM_greeting_145 rfl (lv_at hl 3 rfl) ?_
        refine va_get (D := D) (ci := 5) (v := .ref (a 6)) (C := RRM) (T := TRM) (N := 16) hx hb hts inRM hown hK hP 0 rfl rfl 8 (by decide) (hts _ k583) (fun _ h9 => h9) rfl dRM_greeting_146 ?_
        refine lv_bipush (v := 64) hx hb dRM_greeting_149 (by decide) ?_
        refine lv_iload hx hb dRM_greeting_151 (lv_at hl 2 rfl) ?_
        refine lv_imul hx hb dRM_greeting_153 ?_
        refine lv_eqi (y := nI (64 * j)) (pk_mul 64 j) ?_
        refine lv_iload hx hb dRM_greeting_154 (lv_at hl 1 rfl) ?_
        refine lv_iadd hx hb dRM_greeting_156 ?_
        refine lv_eqi (y := nI ((64 * j) + k)) (nI_add (64 * j) k) ?_
        refine lv_iload hx hb dRM_greeting_157 (lv_at hl 0 rfl) ?_
        refine lv_if_eqb (tgt := 169) hx hb dRM_greeting_159 (by decide) (fun _ => ?_) (fun c19 => by cases c19)
        refine lv_iload_n hx hb dRM_greeting_169 rfl (lv_at hl 6 rfl) ?_
        refine lv_if_eqb (tgt := 189) hx hb dRM_greeting_170 (by decide) (fun c20 => absurd (c20.symm.trans c15) (by decide)) (fun _ => ?_)
        refine lv_aload_n hx hb dRM_greeting_173 rfl (lv_at hl 3 rfl) ?_
        refine va_get (D := D) (ci := 5) (v := .ref (a 6)) (C := RRM) (T := TRM) (N := 16) hx hb hts inRM hown hK hP 0 rfl rfl 8 (by decide) (hts _ k583) (fun _ h9 => h9) rfl dRM_greeting_174 ?_
        refine lv_bipush (v := 64) hx hb dRM_greeting_177 (by decide) ?_
        refine lv_iload hx hb dRM_greeting_179 (lv_at hl 2 rfl) ?_
        refine lv_imul hx hb dRM_greeting_181 ?_
        refine lv_eqi (y := nI (64 * j)) (pk_mul 64 j) ?_
        refine lv_iload hx hb dRM_greeting_182 (lv_at hl 1 rfl) ?_
        refine lv_iadd hx hb dRM_greeting_184 ?_
        refine lv_eqi (y := nI ((64 * j) + k)) (nI_add (64 * j) k) ?_
        refine ir_iald hx hb hK hP 6 0 rfl rfl (k := (64 * j) + k) (by omega) (by decide) dRM_greeting_185 ?_
        refine lv_goto (tgt := 190) hx hb dRM_greeting_186 (by decide) ?_
        refine ir_iast hx hb hK hP (hA _) hS 6 0 rfl rfl (k := (64 * j) + k) (by omega) (by decide) dRM_greeting_190 (fun H locs hP hS => ?_)
        have hP : va_P D vwCl (wR cI cZ a ((rI, rC, rN), (rO, rG), (rW, rH, rF, upd rT ((64 * j) + k) (rT ((64 * j) + k))), (rM, rB, rX), (rQ, rA), (rE, rD))) H := hP
        refine lv_iinc (v := nI (k + 1)) (lv' := [(5, .int (nI (k + 1))), (6, .int (bi false)), (4, .int (nI j)), (0, .ref (a 0)), (1, .int (nI q)), (2, .int (nI o)), (3, .int (bi b))]) hx hb dRM_greeting_191 hl (k := 1) rfl (nI_1 k) (by decide) rfl (fun ls hl => ?_)
        refine lv_goto (tgt := 107) hx hb dRM_greeting_194 (by decide) ?_
        have e1 : QRM_greeting_107 rN rF rM b j (n + 1) k rT = QRM_greeting_107 rN rF rM b j n (k + 1) (upd rT ((64 * j) + k) (rT ((64 * j) + k))) := by first | (simp only [QRM_greeting_107, cond_yes c15, cond_yes c18]; done) | (simp only [QRM_greeting_107, cond_yes c15]; simp only [cond_yes c18])
        rw [e1] at hkk
        exact ih (k + 1) (upd rT ((64 * j) + k) (rT ((64 * j) + k))) ls H locs (by omega)  hP hS (lv_sub hl [0, 2, 3, 4, 5, 6] rfl) hkk
      · refine lv_aload_n hx hb dRM_greeting_128 rfl (lv_at hl 2 rfl) ?_
        refine va_get (D := D) (ci := 5) (v := .ref (a 7)) (C := RRM) (T := TRM) (N := 16) hx hb hts inRM hown hK hP 0 rfl rfl 9 (by decide) (hts _ k584) (fun _ h9 => h9) rfl dRM_greeting_129 ?_
        refine lv_iload hx hb dRM_greeting_132 (lv_at hl 0 rfl) ?_
        refine ir_iald hx hb hK hP 7 0 rfl rfl (k := k) (by omega) (by decide) dRM_greeting_134 ?_
        refine lv_if_le (tgt := 142) hx hb dRM_greeting_135 (by decide) (fun c21 => ?_) (fun c21 => ?_)
        · refine lv_iconst (v := bi false) hx hb dRM_greeting_142 (by decide) ?_
          refine lv_istore (lv' := [(6, .int (bi false)), (5, .int (nI k)), (4, .int (nI j)), (0, .ref (a 0)), (1, .int (nI q)), (2, .int (nI o)), (3, .int (bi b))]) hx hb dRM_greeting_143 hl (by decide) rfl (fun ls hl => ?_)
          refine lv_aload_n hx hb dRM_greeting_145 rfl (lv_at hl 3 rfl) ?_
          refine va_get (D := D) (ci := 5) (v := .ref (a 6)) (C := RRM) (T := TRM) (N := 16) hx hb hts inRM hown hK hP 0 rfl rfl 8 (by decide) (hts _ k583) (fun _ h9 => h9) rfl dRM_greeting_146 ?_
          refine lv_bipush (v := 64) hx hb dRM_greeting_149 (by decide) ?_
          refine lv_iload hx hb dRM_greeting_151 (lv_at hl 2 rfl) ?_
          refine lv_imul hx hb dRM_greeting_153 ?_
          refine lv_eqi (y := nI (64 * j)) (pk_mul 64 j) ?_
          refine lv_iload hx hb dRM_greeting_154 (lv_at hl 1 rfl) ?_
          refine lv_iadd hx hb dRM_greeting_156 ?_
          refine lv_eqi (y := nI ((64 * j) + k)) (nI_add (64 * j) k) ?_
          refine lv_iload hx hb dRM_greeting_157 (lv_at hl 0 rfl) ?_
          refine lv_if_eqb (tgt := 169) hx hb dRM_greeting_159 (by decide) (fun _ => ?_) (fun c22 => by cases c22)
          refine lv_iload_n hx hb dRM_greeting_169 rfl (lv_at hl 6 rfl) ?_
          refine lv_if_eqb (tgt := 189) hx hb dRM_greeting_170 (by decide) (fun c23 => absurd (c23.symm.trans c15) (by decide)) (fun _ => ?_)
          refine lv_aload_n hx hb dRM_greeting_173 rfl (lv_at hl 3 rfl) ?_
          refine va_get (D := D) (ci := 5) (v := .ref (a 6)) (C := RRM) (T := TRM) (N := 16) hx hb hts inRM hown hK hP 0 rfl rfl 8 (by decide) (hts _ k583) (fun _ h9 => h9) rfl dRM_greeting_174 ?_
          refine lv_bipush (v := 64) hx hb dRM_greeting_177 (by decide) ?_
          refine lv_iload hx hb dRM_greeting_179 (lv_at hl 2 rfl) ?_
          refine lv_imul hx hb dRM_greeting_181 ?_
          refine lv_eqi (y := nI (64 * j)) (pk_mul 64 j) ?_
          refine lv_iload hx hb dRM_greeting_182 (lv_at hl 1 rfl) ?_
          refine lv_iadd hx hb dRM_greeting_184 ?_
          refine lv_eqi (y := nI ((64 * j) + k)) (nI_add (64 * j) k) ?_
          refine ir_iald hx hb hK hP 6 0 rfl rfl (k := (64 * j) + k) (by omega) (by decide) dRM_greeting_185 ?_
          refine lv_goto (tgt := 190) hx hb dRM_greeting_186 (by decide) ?_
          refine ir_iast hx hb hK hP (hA _) hS 6 0 rfl rfl (k := (64 * j) + k) (by omega) (by decide) dRM_greeting_190 (fun H locs hP hS => ?_)
          have hP : va_P D vwCl (wR cI cZ a ((rI, rC, rN), (rO, rG), (rW, rH, rF, upd rT ((64 * j) + k) (rT ((64 * j) + k))), (rM, rB, rX), (rQ, rA), (rE, rD))) H := hP
          refine lv_iinc (v := nI (k + 1)) (lv' := [(5, .int (nI (k + 1))), (6, .int (bi false)), (4, .int (nI j)), (0, .ref (a 0)), (1, .int (nI q)), (2, .int (nI o)), (3, .int (bi b))]) hx hb dRM_greeting_191 hl (k := 1) rfl (nI_1 k) (by decide) rfl (fun ls hl => ?_)
          refine lv_goto (tgt := 107) hx hb dRM_greeting_194 (by decide) ?_
          have e1 : QRM_greeting_107 rN rF rM b j (n + 1) k rT = QRM_greeting_107 rN rF rM b j n (k + 1) (upd rT ((64 * j) + k) (rT ((64 * j) + k))) := by first | (simp only [QRM_greeting_107, cond_yes c15, cond_no c18, if_pos c21]; done) | (simp only [QRM_greeting_107, cond_yes c15]; simp only [cond_no c18]; simp only [if_pos c21])
          rw [e1] at hkk
          exact ih (k + 1) (upd rT ((64 * j) + k) (rT ((64 * j) + k))) ls H locs (by omega)  hP hS (lv_sub hl [0, 2, 3, 4, 5, 6] rfl) hkk
        · refine lv_iconst (v := bi true) hx hb dRM_greeting_138 (by decide) ?_
          refine lv_goto (tgt := 143) hx hb dRM_greeting_139 (by decide) ?_
          refine lv_istore (lv' := [(6, .int (bi true)), (5, .int (nI k)), (4, .int (nI j)), (0, .ref (a 0)), (1, .int (nI q)), (2, .int (nI o)), (3, .int (bi b))]) hx hb dRM_greeting_143 hl (by decide) rfl (fun ls hl => ?_)
          refine lv_aload_n hx hb dRM_greeting_145 rfl (lv_at hl 3 rfl) ?_
          refine va_get (D := D) (ci := 5) (v := .ref (a 6)) (C := RRM) (T := TRM) (N := 16) hx hb hts inRM hown hK hP 0 rfl rfl 8 (by decide) (hts _ k583) (fun _ h9 => h9) rfl dRM_greeting_146 ?_
          refine lv_bipush (v := 64) hx hb dRM_greeting_149 (by decide) ?_
          refine lv_iload hx hb dRM_greeting_151 (lv_at hl 2 rfl) ?_
          refine lv_imul hx hb dRM_greeting_153 ?_
          refine lv_eqi (y := nI (64 * j)) (pk_mul 64 j) ?_
          refine lv_iload hx hb dRM_greeting_154 (lv_at hl 1 rfl) ?_
          refine lv_iadd hx hb dRM_greeting_156 ?_
          refine lv_eqi (y := nI ((64 * j) + k)) (nI_add (64 * j) k) ?_
          refine lv_iload hx hb dRM_greeting_157 (lv_at hl 0 rfl) ?_
          refine lv_if_eqb (tgt := 169) hx hb dRM_greeting_159 (by decide) (fun c24 => by cases c24) (fun _ => ?_)
          refine lv_aload_n hx hb dRM_greeting_162 rfl (lv_at hl 3 rfl) ?_
          refine va_get (D := D) (ci := 5) (v := .int rN) (C := RRM) (T := TRM) (N := 16) hx hb hts inRM hown hK hP 0 rfl rfl 2 (by decide) (hts _ k577) (fun _ h9 => h9) rfl dRM_greeting_163 ?_
          refine lv_goto (tgt := 190) hx hb dRM_greeting_166 (by decide) ?_
          refine ir_iast hx hb hK hP (hA _) hS 6 0 rfl rfl (k := (64 * j) + k) (by omega) (by decide) dRM_greeting_190 (fun H locs hP hS => ?_)
          have hP : va_P D vwCl (wR cI cZ a ((rI, rC, rN), (rO, rG), (rW, rH, rF, upd rT ((64 * j) + k) rN), (rM, rB, rX), (rQ, rA), (rE, rD))) H := hP
          refine lv_iinc (v := nI (k + 1)) (lv' := [(5, .int (nI (k + 1))), (6, .int (bi true)), (4, .int (nI j)), (0, .ref (a 0)), (1, .int (nI q)), (2, .int (nI o)), (3, .int (bi b))]) hx hb dRM_greeting_191 hl (k := 1) rfl (nI_1 k) (by decide) rfl (fun ls hl => ?_)
          refine lv_goto (tgt := 107) hx hb dRM_greeting_194 (by decide) ?_
          have e1 : QRM_greeting_107 rN rF rM b j (n + 1) k rT = QRM_greeting_107 rN rF rM b j n (k + 1) (upd rT ((64 * j) + k) rN) := by first | (simp only [QRM_greeting_107, cond_yes c15, cond_no c18, if_neg c21]; done) | (simp only [QRM_greeting_107, cond_yes c15]; simp only [cond_no c18]; simp only [if_neg c21])
          rw [e1] at hkk
          exact ih (k + 1) (upd rT ((64 * j) + k) rN) ls H locs (by omega)  hP hS (lv_sub hl [0, 2, 3, 4, 5, 6] rfl) hkk
theorem QRM_greeting_39_lt {rW : Nat → Int32} : ∀ (k : Nat) (f : Option Nat) (j : Nat), QRM_greeting_39 rW k f = some j → f = some j ∨ j < k := by
  intro k
  induction k with
  | zero => intro f j h; simp only [QRM_greeting_39] at h; exact Or.inl h
  | succ k ih =>
    intro f j h
    simp only [QRM_greeting_39] at h
    split at h
    · rcases ih _ _ h with h1 | h1
      · first | exact Or.inl h1 | (cases h1; right; omega)
      · right; omega
    · rcases ih _ _ h with h1 | h1
      · first | exact Or.inl h1 | (cases h1; right; omega)
      · right; omega
theorem QRM_greeting_39_lt16 {rW : Nat → Int32} {j : Nat} (h : QRM_greeting_39 rW 16 none = some j) : j < 16 := by
  rcases QRM_greeting_39_lt _ _ _ h with h1 | h1
  · cases h1
  · exact h1
def fRM_greeting (rN : Int32) (rW : Nat → Int32) (rH : Nat → Int32) (rF : Nat → Bool) (rT : Nat → Int32) (rM : Nat → Int32) (q : Nat) (o : Nat) (b : Bool) : Int32 × (Nat → Int32) × (Nat → Int32) × (Nat → Bool) × (Nat → Int32) := (match QRM_find_5 rW q o 16 0 none with | none => (match QRM_greeting_39 rW 16 none with | none => (0, rW, rH, rF, rT) | some k9 => (cond b (2, upd rW k9 (nI ((64 * q) + o)), upd rH k9 rN, updB rF k9 b, QRM_greeting_107 rN rF rM b k9 64 0 rT) (1, upd rW k9 (nI ((64 * q) + o)), upd rH k9 rN, updB rF k9 b, QRM_greeting_107 rN rF rM b k9 64 0 rT))) | some k2 => (cond b (2, rW, upd rH k2 rN, updB rF k2 b, QRM_greeting_107 rN rF rM b k2 64 0 rT) (1, rW, upd rH k2 rN, updB rF k2 b, QRM_greeting_107 rN rF rM b k2 64 0 rT)))
set_option maxHeartbeats 4000000 in
set_option maxRecDepth 100000 in
theorem c_RM_greeting (l : Launch) {D : va_G} {cI cZ : ClassId} {a : Nat → Nat} {A : Nat → Prop} (hA : ∀ v : RS, va_D A (wR cI cZ a v)) (rI : Nat) (rC rN : Int32) (rO rG : Nat → Bool) (rW rH : Nat → Int32) (rF : Nat → Bool) (rT : Nat → Int32) (rM rB : Nat → Int32) (rX : Int32) (rQ : Nat) (rA : Nat → Int32) (rE : Nat → Int32) (rD : Int64) (q : Nat) (o : Nat) (b : Bool) (hq : q < 8) (ho : o < 64) (hI : rI < 64) (hne : ¬ o = rI) (hon : rO q = true) : Met l yRM_greeting wsRM_greeting ({ frames := 2, cells := 0, slots := 0, locals := 44 }) (va_Pc [.ref (a 0), .int (nI q), .int (nI o), .int (bi b)] (gG D (tyR cI cZ) (wR cI cZ a) ((rI, rC, rN), (rO, rG), (rW, rH, rF, rT), (rM, rB, rX), (rQ, rA), (rE, rD)))) (va_Qi (fun (r : Int32) (u : RS) => r = (fRM_greeting rN rW rH rF rT rM q o b).1 ∧ u = ((rI, fRM_wrong rO q, rN), (rO, rG), ((fRM_greeting rN rW rH rF rT rM q o b).2.1, (fRM_greeting rN rW rH rF rT rM q o b).2.2.1, (fRM_greeting rN rW rH rF rT rM q o b).2.2.2.1, (fRM_greeting rN rW rH rF rT rM q o b).2.2.2.2), (rM, rB, rX), (rQ, rA), (rE, rD))) (gG D (tyR cI cZ) (wR cI cZ a)) A) 0 0 A := by
  refine g_enter (by decide) rfl (Nat.le_of_ble_eq_true rfl) ?_
  intro p e s m below meth c ls F hK hP hl
  obtain ⟨hx, hb, hr, hml, hown, hts, hlocks⟩ := id F
  have hS : va_S A s.heap s.heap [] := va_S.rf
  have hl : lv_has ls 7 [(0, .ref (a 0)), (1, .int (nI q)), (2, .int (nI o)), (3, .int (bi b))] := hl
  refine lv_aload_n hx hb dRM_greeting_0 rfl (lv_at hl 0 rfl) ?_
  refine lv_aload_n hx hb dRM_greeting_1 rfl (lv_at hl 0 rfl) ?_
  refine lv_iload_n hx hb dRM_greeting_2 rfl (lv_at hl 1 rfl) ?_
  refine lv_iload_n hx hb dRM_greeting_3 rfl (lv_at hl 2 rfl) ?_
  refine g_roVi (As := [.int (nI q), .int (nI o)]) (rest := [.ref (a 0)]) ⟨hx, hb, hml, hown, hts⟩ (c_RM_wrong l rI rC rN rO rG rW rH rF rT rM rB rX rQ rA rE rD q o (by first | omega | assumption) (by first | omega | assumption) (by first | omega | assumption) (by first | omega | assumption)) (cwV 2 hts (gw_V k648 k650 k19 k32 k651) rfl rfl rfl (by decide +kernel) ⟨Nat.le_of_ble_eq_true rfl, Nat.le_of_ble_eq_true rfl⟩) hK hP (va_recv hK hP (ci := 5) (q0 := 0) rfl rfl) rfl hl.1 rfl (Nat.le_of_ble_eq_true rfl) dRM_greeting_4 ⟨Nat.zero_le _, Nat.zero_le _⟩ ?_
  refine va_put (D := D) (ci := 5) (v := .int (fRM_wrong rO q)) (ty := .int) (C := RRM) (T := TRM) (N := 16) hx hb hts inRM tyRM tyRM_ok nmRM hown hK hP (hA _) hS 0 rfl rfl 1 (by decide) (hts _ k576) (fun _ h9 => h9) rfl (by decide +kernel) rfl rfl (Nat.le_of_ble_eq_true rfl) dRM_greeting_7 (fun H locs hP _ hS => ?_)
  have hP : va_P D vwCl (wR cI cZ a ((rI, fRM_wrong rO q, rN), (rO, rG), (rW, rH, rF, rT), (rM, rB, rX), (rQ, rA), (rE, rD))) H := hP
  refine lv_aload_n hx hb dRM_greeting_10 rfl (lv_at hl 0 rfl) ?_
  refine va_get (D := D) (ci := 5) (v := .int (fRM_wrong rO q)) (C := RRM) (T := TRM) (N := 16) hx hb hts inRM hown hK hP 0 rfl rfl 1 (by decide) (hts _ k576) (fun _ h9 => h9) rfl dRM_greeting_11 ?_
  refine lv_if_le (tgt := 19) hx hb dRM_greeting_14 (by decide) (fun c1 => ?_) (fun c1 => absurd (by rw [wrong_ok hon]; decide) c1)
  refine lv_aload_n hx hb dRM_greeting_19 rfl (lv_at hl 0 rfl) ?_
  refine lv_iload_n hx hb dRM_greeting_20 rfl (lv_at hl 1 rfl) ?_
  refine lv_iload_n hx hb dRM_greeting_21 rfl (lv_at hl 2 rfl) ?_
  refine g_callVi (As := [.int (nI q), .int (nI o)]) (rest := []) ⟨hx, hb, hml, hown, hts⟩ (c_RM_find l hA rI (fRM_wrong rO q) rN rO rG rW rH rF rT rM rB rX rQ rA rE rD q o (by first | omega | assumption) (by first | omega | assumption)) (cwV 2 hts (gw_V k652 k654 k20 k32 k655) rfl rfl rfl (by decide +kernel) ⟨Nat.le_of_ble_eq_true rfl, Nat.le_of_ble_eq_true rfl⟩) hK hP (va_recv hK hP (ci := 5) (q0 := 0) rfl rfl) rfl hl.1 rfl (Nat.le_of_ble_eq_true rfl) dRM_greeting_22 ⟨Nat.zero_le _, Nat.zero_le _⟩ (fun q h => h) hS (fun H locs hP hS => ?_)
  rcases ho3 : QRM_find_5 rW q o 16 0 none with _ | k2
  · refine lv_istore (lv' := [(4, .int (oi none)), (0, .ref (a 0)), (1, .int (nI q)), (2, .int (nI o)), (3, .int (bi b))]) hx hb dRM_greeting_25 hl (by decide) rfl (fun ls hl => ?_)
    refine lv_iload hx hb dRM_greeting_27 (lv_at hl 0 rfl) ?_
    refine lv_if_ge (tgt := 93) hx hb dRM_greeting_29 (by decide) (fun c0 => absurd c0 (by decide)) (fun _ => ?_)
    refine lv_iconst (v := (-1)) hx hb dRM_greeting_32 (by decide) ?_
    refine lv_istore (lv' := [(5, .int (-1)), (4, .int (oi none)), (0, .ref (a 0)), (1, .int (nI q)), (2, .int (nI o)), (3, .int (bi b))]) hx hb dRM_greeting_33 hl (by decide) rfl (fun ls hl => ?_)
    refine lv_bipush (v := nI 15) hx hb dRM_greeting_35 (by decide) ?_
    refine lv_istore (lv' := [(6, .int (nI 15)), (5, .int (-1)), (4, .int (oi none)), (0, .ref (a 0)), (1, .int (nI q)), (2, .int (nI o)), (3, .int (bi b))]) hx hb dRM_greeting_37 hl (by decide) rfl (fun ls hl => ?_)
    refine lqRM_greeting_39 hA F hK rI (fRM_wrong rO q) rN rO rG rW rH rF rT rM rB rX rQ rA rE rD none (by first | omega | assumption) (by first | omega | assumption) (by first | omega | assumption) (by first | omega | assumption) (by first | omega | assumption)  _ 16  none ls H locs (by omega)  hP hS (lv_sub hl [0, 1, 2, 3, 4, 5, 6] rfl) (fun ls H locs hP hS hl => ?_)
    have hP : va_P D vwCl (wR cI cZ a ((rI, fRM_wrong rO q, rN), (rO, rG), (rW, rH, rF, rT), (rM, rB, rX), (rQ, rA), (rE, rD))) H := hP
    refine lv_iload hx hb dRM_greeting_69 (lv_at hl 1 rfl) ?_
    rcases ho10 : QRM_greeting_39 rW 16 none with _ | k9
    · rw [ho10] at hl
      refine lv_if_ge (tgt := 76) hx hb dRM_greeting_71 (by decide) (fun c0 => absurd c0 (by decide)) (fun _ => ?_)
      refine lv_iconst (v := 0) hx hb dRM_greeting_74 (by decide) ?_
      have e1 : fRM_greeting rN rW rH rF rT rM q o b = (0, rW, rH, rF, rT) := by first | (simp only [fRM_greeting, ho3, ho10]; done) | (simp only [fRM_greeting, ho3]; simp only [ho10])
      exact g_iret (v := ((rI, fRM_wrong rO q, rN), (rO, rG), (rW, rH, rF, rT), (rM, rB, rX), (rQ, rA), (rE, rD))) hx hb hr hK hP hS ⟨by first | rfl | (rw [e1] <;> rfl), by first | rfl | (rw [e1] <;> rfl)⟩ hlocks dRM_greeting_75
    · rw [ho10] at hl
      have hk9 := QRM_greeting_39_lt16 ho10
      refine lv_if_ge (tgt := 76) hx hb dRM_greeting_71 (by decide) (fun _ => ?_) (fun c0 => absurd (nI_pos' (by omega)) c0)
      refine lv_iload hx hb dRM_greeting_76 (lv_at hl 1 rfl) ?_
      refine lv_istore (lv' := [(4, .int (nI k9)), (6, .int (-1)), (5, .int (nI k9)), (0, .ref (a 0)), (1, .int (nI q)), (2, .int (nI o)), (3, .int (bi b))]) hx hb dRM_greeting_78 hl (by decide) rfl (fun ls hl => ?_)
      refine lv_aload_n hx hb dRM_greeting_80 rfl (lv_at hl 3 rfl) ?_
      refine va_get (D := D) (ci := 5) (v := .ref (a 3)) (C := RRM) (T := TRM) (N := 16) hx hb hts inRM hown hK hP 0 rfl rfl 5 (by decide) (hts _ k580) (fun _ h9 => h9) rfl dRM_greeting_81 ?_
      refine lv_iload hx hb dRM_greeting_84 (lv_at hl 0 rfl) ?_
      refine lv_bipush (v := 64) hx hb dRM_greeting_86 (by decide) ?_
      refine lv_iload_n hx hb dRM_greeting_88 rfl (lv_at hl 4 rfl) ?_
      refine lv_imul hx hb dRM_greeting_89 ?_
      refine lv_eqi (y := nI (64 * q)) (pk_mul 64 q) ?_
      refine lv_iload_n hx hb dRM_greeting_90 rfl (lv_at hl 5 rfl) ?_
      refine lv_iadd hx hb dRM_greeting_91 ?_
      refine lv_eqi (y := nI ((64 * q) + o)) (nI_add (64 * q) o) ?_
      refine ir_iast hx hb hK hP (hA _) hS 3 0 rfl rfl (k := k9) (by omega) (by decide) dRM_greeting_92 (fun H locs hP hS => ?_)
      have hP : va_P D vwCl (wR cI cZ a ((rI, fRM_wrong rO q, rN), (rO, rG), (upd rW k9 (nI ((64 * q) + o)), rH, rF, rT), (rM, rB, rX), (rQ, rA), (rE, rD))) H := hP
      refine lv_aload_n hx hb dRM_greeting_93 rfl (lv_at hl 3 rfl) ?_
      refine va_get (D := D) (ci := 5) (v := .ref (a 4)) (C := RRM) (T := TRM) (N := 16) hx hb hts inRM hown hK hP 0 rfl rfl 6 (by decide) (hts _ k581) (fun _ h9 => h9) rfl dRM_greeting_94 ?_
      refine lv_iload hx hb dRM_greeting_97 (lv_at hl 0 rfl) ?_
      refine lv_aload_n hx hb dRM_greeting_99 rfl (lv_at hl 3 rfl) ?_
      refine va_get (D := D) (ci := 5) (v := .int rN) (C := RRM) (T := TRM) (N := 16) hx hb hts inRM hown hK hP 0 rfl rfl 2 (by decide) (hts _ k577) (fun _ h9 => h9) rfl dRM_greeting_100 ?_
      refine ir_iast hx hb hK hP (hA _) hS 4 0 rfl rfl (k := k9) (by omega) (by decide) dRM_greeting_103 (fun H locs hP hS => ?_)
      have hP : va_P D vwCl (wR cI cZ a ((rI, fRM_wrong rO q, rN), (rO, rG), (upd rW k9 (nI ((64 * q) + o)), upd rH k9 rN, rF, rT), (rM, rB, rX), (rQ, rA), (rE, rD))) H := hP
      refine lv_iconst (v := nI 0) hx hb dRM_greeting_104 (by decide) ?_
      refine lv_istore (lv' := [(5, .int (nI 0)), (4, .int (nI k9)), (6, .int (-1)), (0, .ref (a 0)), (1, .int (nI q)), (2, .int (nI o)), (3, .int (bi b))]) hx hb dRM_greeting_105 hl (by decide) rfl (fun ls hl => ?_)
      refine lqRM_greeting_107 hA F hK rI (fRM_wrong rO q) rN rO rG (upd rW k9 (nI ((64 * q) + o))) (upd rH k9 rN) rF rM rB rX rQ rA rE rD k9 (by first | omega | assumption) (by first | omega | assumption) (by first | omega | assumption) (by first | omega | assumption) (by first | omega | assumption) (by first | omega | assumption) _ 64 0 rT ls H locs (by omega)  hP hS (lv_sub hl [0, 1, 3, 4, 5, 6] rfl) (fun ls H locs hP hS hl => ?_)
      have hP : va_P D vwCl (wR cI cZ a ((rI, fRM_wrong rO q, rN), (rO, rG), (upd rW k9 (nI ((64 * q) + o)), upd rH k9 rN, rF, QRM_greeting_107 rN rF rM b k9 64 0 rT), (rM, rB, rX), (rQ, rA), (rE, rD))) H := hP
      refine lv_aload_n hx hb dRM_greeting_197 rfl (lv_at hl 2 rfl) ?_
      refine va_get (D := D) (ci := 5) (v := .ref (a 5)) (C := RRM) (T := TRM) (N := 16) hx hb hts inRM hown hK hP 0 rfl rfl 7 (by decide) (hts _ k582) (fun _ h9 => h9) rfl dRM_greeting_198 ?_
      refine lv_iload hx hb dRM_greeting_201 (lv_at hl 1 rfl) ?_
      refine lv_iload_n hx hb dRM_greeting_203 rfl (lv_at hl 5 rfl) ?_
      refine ir_zast hx hb hK hP (hA _) hS 5 1 rfl rfl (k := k9) (by omega) (by decide) dRM_greeting_204 (fun H locs hP hS => ?_)
      have hP : va_P D vwCl (wR cI cZ a ((rI, fRM_wrong rO q, rN), (rO, rG), (upd rW k9 (nI ((64 * q) + o)), upd rH k9 rN, updB rF k9 b, QRM_greeting_107 rN rF rM b k9 64 0 rT), (rM, rB, rX), (rQ, rA), (rE, rD))) H := hP
      refine lv_iload_n hx hb dRM_greeting_205 rfl (lv_at hl 5 rfl) ?_
      refine lv_if_eqb (tgt := 213) hx hb dRM_greeting_206 (by decide) (fun c25 => ?_) (fun c25 => ?_)
      · refine lv_iconst (v := 1) hx hb dRM_greeting_213 (by decide) ?_
        have e1 : fRM_greeting rN rW rH rF rT rM q o b = (1, upd rW k9 (nI ((64 * q) + o)), upd rH k9 rN, updB rF k9 b, QRM_greeting_107 rN rF rM b k9 64 0 rT) := by first | (simp only [fRM_greeting, ho3, ho10, cond_no c25]; done) | (simp only [fRM_greeting, ho3]; simp only [ho10]; simp only [cond_no c25])
        exact g_iret (v := ((rI, fRM_wrong rO q, rN), (rO, rG), (upd rW k9 (nI ((64 * q) + o)), upd rH k9 rN, updB rF k9 b, QRM_greeting_107 rN rF rM b k9 64 0 rT), (rM, rB, rX), (rQ, rA), (rE, rD))) hx hb hr hK hP hS ⟨by first | rfl | (rw [e1] <;> rfl), by first | rfl | (rw [e1] <;> rfl)⟩ hlocks dRM_greeting_214
      · refine lv_iconst (v := 2) hx hb dRM_greeting_209 (by decide) ?_
        refine lv_goto (tgt := 214) hx hb dRM_greeting_210 (by decide) ?_
        have e1 : fRM_greeting rN rW rH rF rT rM q o b = (2, upd rW k9 (nI ((64 * q) + o)), upd rH k9 rN, updB rF k9 b, QRM_greeting_107 rN rF rM b k9 64 0 rT) := by first | (simp only [fRM_greeting, ho3, ho10, cond_yes c25]; done) | (simp only [fRM_greeting, ho3]; simp only [ho10]; simp only [cond_yes c25])
        exact g_iret (v := ((rI, fRM_wrong rO q, rN), (rO, rG), (upd rW k9 (nI ((64 * q) + o)), upd rH k9 rN, updB rF k9 b, QRM_greeting_107 rN rF rM b k9 64 0 rT), (rM, rB, rX), (rQ, rA), (rE, rD))) hx hb hr hK hP hS ⟨by first | rfl | (rw [e1] <;> rfl), by first | rfl | (rw [e1] <;> rfl)⟩ hlocks dRM_greeting_214
  · have hk2 := c_RM_find_lt ho3
    refine lv_istore (lv' := [(4, .int (nI k2)), (0, .ref (a 0)), (1, .int (nI q)), (2, .int (nI o)), (3, .int (bi b))]) hx hb dRM_greeting_25 hl (by decide) rfl (fun ls hl => ?_)
    refine lv_iload hx hb dRM_greeting_27 (lv_at hl 0 rfl) ?_
    refine lv_if_ge (tgt := 93) hx hb dRM_greeting_29 (by decide) (fun _ => ?_) (fun c0 => absurd (nI_pos' (by omega)) c0)
    refine lv_aload_n hx hb dRM_greeting_93 rfl (lv_at hl 1 rfl) ?_
    refine va_get (D := D) (ci := 5) (v := .ref (a 4)) (C := RRM) (T := TRM) (N := 16) hx hb hts inRM hown hK hP 0 rfl rfl 6 (by decide) (hts _ k581) (fun _ h9 => h9) rfl dRM_greeting_94 ?_
    refine lv_iload hx hb dRM_greeting_97 (lv_at hl 0 rfl) ?_
    refine lv_aload_n hx hb dRM_greeting_99 rfl (lv_at hl 1 rfl) ?_
    refine va_get (D := D) (ci := 5) (v := .int rN) (C := RRM) (T := TRM) (N := 16) hx hb hts inRM hown hK hP 0 rfl rfl 2 (by decide) (hts _ k577) (fun _ h9 => h9) rfl dRM_greeting_100 ?_
    refine ir_iast hx hb hK hP (hA _) hS 4 0 rfl rfl (k := k2) (by omega) (by decide) dRM_greeting_103 (fun H locs hP hS => ?_)
    have hP : va_P D vwCl (wR cI cZ a ((rI, fRM_wrong rO q, rN), (rO, rG), (rW, upd rH k2 rN, rF, rT), (rM, rB, rX), (rQ, rA), (rE, rD))) H := hP
    refine lv_iconst (v := nI 0) hx hb dRM_greeting_104 (by decide) ?_
    refine lv_istore (lv' := [(5, .int (nI 0)), (4, .int (nI k2)), (0, .ref (a 0)), (1, .int (nI q)), (2, .int (nI o)), (3, .int (bi b))]) hx hb dRM_greeting_105 hl (by decide) rfl (fun ls hl => ?_)
    refine lqRM_greeting_107 hA F hK rI (fRM_wrong rO q) rN rO rG rW (upd rH k2 rN) rF rM rB rX rQ rA rE rD k2 (by first | omega | assumption) (by first | omega | assumption) (by first | omega | assumption) (by first | omega | assumption) (by first | omega | assumption) (by first | omega | assumption) _ 64 0 rT ls H locs (by omega)  hP hS (lv_sub hl [0, 1, 2, 3, 4, 5] rfl) (fun ls H locs hP hS hl => ?_)
    have hP : va_P D vwCl (wR cI cZ a ((rI, fRM_wrong rO q, rN), (rO, rG), (rW, upd rH k2 rN, rF, QRM_greeting_107 rN rF rM b k2 64 0 rT), (rM, rB, rX), (rQ, rA), (rE, rD))) H := hP
    refine lv_aload_n hx hb dRM_greeting_197 rfl (lv_at hl 2 rfl) ?_
    refine va_get (D := D) (ci := 5) (v := .ref (a 5)) (C := RRM) (T := TRM) (N := 16) hx hb hts inRM hown hK hP 0 rfl rfl 7 (by decide) (hts _ k582) (fun _ h9 => h9) rfl dRM_greeting_198 ?_
    refine lv_iload hx hb dRM_greeting_201 (lv_at hl 1 rfl) ?_
    refine lv_iload_n hx hb dRM_greeting_203 rfl (lv_at hl 5 rfl) ?_
    refine ir_zast hx hb hK hP (hA _) hS 5 1 rfl rfl (k := k2) (by omega) (by decide) dRM_greeting_204 (fun H locs hP hS => ?_)
    have hP : va_P D vwCl (wR cI cZ a ((rI, fRM_wrong rO q, rN), (rO, rG), (rW, upd rH k2 rN, updB rF k2 b, QRM_greeting_107 rN rF rM b k2 64 0 rT), (rM, rB, rX), (rQ, rA), (rE, rD))) H := hP
    refine lv_iload_n hx hb dRM_greeting_205 rfl (lv_at hl 5 rfl) ?_
    refine lv_if_eqb (tgt := 213) hx hb dRM_greeting_206 (by decide) (fun c27 => ?_) (fun c27 => ?_)
    · refine lv_iconst (v := 1) hx hb dRM_greeting_213 (by decide) ?_
      have e1 : fRM_greeting rN rW rH rF rT rM q o b = (1, rW, upd rH k2 rN, updB rF k2 b, QRM_greeting_107 rN rF rM b k2 64 0 rT) := by first | (simp only [fRM_greeting, ho3, cond_no c27]; done) | (simp only [fRM_greeting, ho3]; simp only [cond_no c27])
      exact g_iret (v := ((rI, fRM_wrong rO q, rN), (rO, rG), (rW, upd rH k2 rN, updB rF k2 b, QRM_greeting_107 rN rF rM b k2 64 0 rT), (rM, rB, rX), (rQ, rA), (rE, rD))) hx hb hr hK hP hS ⟨by first | rfl | (rw [e1] <;> rfl), by first | rfl | (rw [e1] <;> rfl)⟩ hlocks dRM_greeting_214
    · refine lv_iconst (v := 2) hx hb dRM_greeting_209 (by decide) ?_
      refine lv_goto (tgt := 214) hx hb dRM_greeting_210 (by decide) ?_
      have e1 : fRM_greeting rN rW rH rF rT rM q o b = (2, rW, upd rH k2 rN, updB rF k2 b, QRM_greeting_107 rN rF rM b k2 64 0 rT) := by first | (simp only [fRM_greeting, ho3, cond_yes c27]; done) | (simp only [fRM_greeting, ho3]; simp only [cond_yes c27])
      exact g_iret (v := ((rI, fRM_wrong rO q, rN), (rO, rG), (rW, upd rH k2 rN, updB rF k2 b, QRM_greeting_107 rN rF rM b k2 64 0 rT), (rM, rB, rX), (rQ, rA), (rE, rD))) hx hb hr hK hP hS ⟨by first | rfl | (rw [e1] <;> rfl), by first | rfl | (rw [e1] <;> rfl)⟩ hlocks dRM_greeting_214
