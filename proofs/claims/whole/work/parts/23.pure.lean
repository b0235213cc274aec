/-! Bits (the family bt is the kit's, pasted) -/
def bt (x : Int32) (i : Nat) : Bool := x.toBitVec.getLsbD i
theorem b_ext {x y : Int32} (h : ∀ i, i < 32 → bt x i = bt y i) : x = y := Int32.toBitVec_inj.mp (BitVec.eq_of_getLsbD_eq (fun i hi => h i hi))
theorem b_or (x y : Int32) (i : Nat) : bt (x ||| y) i = (bt x i || bt y i) := by unfold bt; rw [Int32.toBitVec_or, BitVec.getLsbD_or]
theorem b_and (x y : Int32) (i : Nat) : bt (x &&& y) i = (bt x i && bt y i) := by unfold bt; rw [Int32.toBitVec_and, BitVec.getLsbD_and]
theorem b_xor (x y : Int32) (i : Nat) : bt (x ^^^ y) i = (bt x i ^^ bt y i) := by unfold bt; rw [Int32.toBitVec_xor, BitVec.getLsbD_xor]
theorem b_m1 : ∀ i, i < 32 → bt (-1) i = true := by decide +kernel
theorem b_0 (i : Nat) : bt 0 i = false := BitVec.getLsbD_zero
theorem s_l : ∀ n, n < 32 → ((nI n &&& 31).toBitVec.smod 32).toNat = n := by decide +kernel
theorem b_shl (n : Nat) (hn : n < 32) (x : Int32) {i : Nat} (hi : i < 32) : bt (x <<< (nI n &&& 31)) i = (decide (n ≤ i) && bt x (i - n)) := by
  unfold bt
  rw [Int32.toBitVec_shiftLeft]
  show (x.toBitVec <<< ((nI n &&& 31).toBitVec.smod 32).toNat).getLsbD i = _
  rw [s_l n hn, BitVec.getLsbD_shiftLeft]
  rcases Nat.lt_or_ge i n with h | h
  · simp [h, Nat.not_le.mpr h]
  · simp [hi, h, Nat.not_lt.mpr h]
theorem bt_1 : ∀ k, k < 32 → bt 1 k = decide (k = 0) := by decide +kernel
theorem bt_bI {q i : Nat} (hq : q < 32) (hi : i < 32) : bt (bI q) i = decide (i = q) := by
  unfold bI
  rw [b_shl q hq 1 hi, bt_1 _ (by omega)]
  by_cases h : i = q
  · subst h; simp
  · rw [decide_eq_false h]
    rcases Nat.lt_or_ge i q with h2 | h2
    · simp [Nat.not_le.mpr h2]
    · simp; omega
theorem isOn_bt {d : Int32} {q : Nat} (hq : q < 32) : fDB_isOn d q = bt d q := by
  unfold fDB_isOn
  cases hb : bt d q
  · rw [if_pos]
    refine b_ext fun i hi => ?_
    rw [b_and, bt_bI hq hi, b_0]
    by_cases h : i = q
    · subst h; rw [hb]; rfl
    · rw [decide_eq_false h, Bool.and_false]
  · rw [if_neg]
    intro h
    have h2 := congrArg (fun z => bt z q) h
    simp only [b_and, bt_bI hq hq, b_0, hb] at h2
    simp at h2
theorem isOn_or {d : Int32} {p q : Nat} (hp : p < 8) (hq : q < 8) : fDB_isOn (d ||| bI p) q = (fDB_isOn d q || decide (q = p)) := by
  rw [isOn_bt (by omega), isOn_bt (by omega), b_or, bt_bI (by omega) (by omega)]
theorem isOn_clr {d : Int32} {p q : Nat} (hp : p < 8) (hq : q < 8) : fDB_isOn (d &&& (bI p ^^^ (-1))) q = (fDB_isOn d q && !decide (q = p)) := by
  rw [isOn_bt (by omega), isOn_bt (by omega), b_and, b_xor, bt_bI (by omega) (by omega), b_m1 q (by omega), Bool.xor_true]
theorem isOn_z {q : Nat} (hq : q < 8) : fDB_isOn 0 q = false := by rw [isOn_bt (by omega), b_0]
theorem l_ext {x y : Int64} (h : ∀ i, i < 64 → btL x i = btL y i) : x = y := Int64.toBitVec_inj.mp (BitVec.eq_of_getLsbD_eq (fun i hi => h i hi))
theorem l_or (x y : Int64) (i : Nat) : btL (x ||| y) i = (btL x i || btL y i) := by unfold btL; rw [Int64.toBitVec_or, BitVec.getLsbD_or]
theorem l_and (x y : Int64) (i : Nat) : btL (x &&& y) i = (btL x i && btL y i) := by unfold btL; rw [Int64.toBitVec_and, BitVec.getLsbD_and]
theorem l_xor (x y : Int64) (i : Nat) : btL (x ^^^ y) i = (btL x i ^^ btL y i) := by unfold btL; rw [Int64.toBitVec_xor, BitVec.getLsbD_xor]
theorem l_0 (i : Nat) : btL 0 i = false := BitVec.getLsbD_zero
theorem l_m1 : ∀ i, i < 64 → btL (-1) i = true := by decide +kernel
theorem l_s : ∀ n, n < 64 → (((nI n).toInt64 &&& 63).toBitVec.smod 64).toNat = n := by decide +kernel
theorem l_1 : ∀ k, k < 64 → (1 : Int64).toBitVec.getLsbD k = decide (k = 0) := by decide +kernel
theorem btL_bL {q i : Nat} (hq : q < 64) (hi : i < 64) : btL (bL q) i = decide (i = q) := by
  unfold bL btL
  rw [Int64.toBitVec_shiftLeft]
  show ((1 : Int64).toBitVec <<< (((nI q).toInt64 &&& 63).toBitVec.smod 64).toNat).getLsbD i = _
  rw [l_s q hq, BitVec.getLsbD_shiftLeft, l_1 _ (by omega)]
  by_cases h : i = q
  · subst h; simp [hi]
  · rw [decide_eq_false h]
    rcases Nat.lt_or_ge i q with h2 | h2
    · simp [h2]
    · simp; omega
theorem l_set {w : Int64} {o i : Nat} (ho : o < 64) (hi : i < 64) : btL (w ||| bL o) i = (btL w i || decide (i = o)) := by rw [l_or, btL_bL ho hi]
theorem l_clr {w : Int64} {o i : Nat} (ho : o < 64) (hi : i < 64) : btL (w &&& (bL o ^^^ (-1))) i = (btL w i && !decide (i = o)) := by rw [l_and, l_xor, btL_bL ho hi, l_m1 i hi, Bool.xor_true]
theorem l_zero {w : Int64} : w = 0 ↔ ∀ i, i < 64 → btL w i = false := ⟨fun h i _ => by rw [h, l_0], fun h => l_ext fun i hi => by rw [h i hi, l_0]⟩
theorem and_bL {w : Int64} {o : Nat} (ho : o < 64) : w &&& bL o = 0 ↔ btL w o = false := by
  rw [l_zero]
  constructor
  · intro h
    have h2 := h o ho
    rw [l_and, btL_bL ho ho, decide_eq_true rfl, Bool.and_true] at h2
    exact h2
  · intro h i hi
    rw [l_and, btL_bL ho hi]
    by_cases hio : i = o
    · subst hio; rw [h]; rfl
    · rw [decide_eq_false hio, Bool.and_false]
theorem settle_bt {nO : Nat → Int64} {j o : Nat} (ho : o < 64) : fNB_settle nO j o = btL (nO j) o := by
  unfold fNB_settle
  cases hb : btL (nO j) o
  · rw [if_pos ((and_bL ho).mpr hb)]
  · rw [if_neg (fun h => by rw [and_bL ho, hb] at h; cases h)]
theorem allO_at {aN : Nat → Int32} : ∀ (n k : Nat) (w : Int64) (i : Nat), k + n ≤ 64 → i < 64 → btL (LAD_allOrigins aN n k w) i = (btL w i || (decide (k ≤ i ∧ i < k + n) && !decide (aN i = 0))) := by
  intro n
  induction n with
  | zero => intro k w i h hi; simp only [LAD_allOrigins]; rw [decide_eq_false (show ¬ (k ≤ i ∧ i < k + 0) by omega)]; simp
  | succ n ih =>
    intro k w i h hi
    simp only [LAD_allOrigins]
    have e1 : i ≠ k → decide (k + 1 ≤ i ∧ i < k + 1 + n) = decide (k ≤ i ∧ i < k + (n + 1)) := fun h2 => decide_eq_decide.mpr (by omega)
    split
    · rename_i hz
      rw [ih _ _ _ (by omega) hi]
      by_cases h2 : i = k
      · subst h2; rw [decide_eq_true hz]; simp
      · rw [e1 h2]
    · rename_i hz
      rw [ih _ _ _ (by omega) hi, l_set (by omega) hi]
      by_cases h2 : i = k
      · subst h2; rw [decide_eq_false hz, decide_eq_true rfl, decide_eq_true (show i ≤ i ∧ i < i + (n + 1) by omega)]; simp
      · rw [e1 h2, decide_eq_false h2]; simp
/-! which arguments are legal -/
theorem port_ok {x : Int32} (h : fDB_isPort x = true) : ∃ q, q < 8 ∧ x = nI q := by
  unfold fDB_isPort at h
  split at h
  · cases h
  · rename_i h0
    split at h
    · rename_i h1
      obtain ⟨k, hk, rfl⟩ := nI_of h0
      exact ⟨k, (nI_ltI (b := 8) hk (by decide)).mp h1, rfl⟩
    · cases h
theorem router_ok {x : Int32} (h : fDB_isRouter x = true) : ∃ q, q < 64 ∧ x = nI q := by
  unfold fDB_isRouter at h
  split at h
  · cases h
  · rename_i h0
    split at h
    · cases h
    · rename_i h1
      obtain ⟨k, hk, rfl⟩ := nI_of h0
      exact ⟨k, Nat.not_le.mp (fun q => h1 (nI_le q hk)), rfl⟩
theorem num_ok {x : Int32} (h : fDB_isNum x = true) : ¬ x < 1 ∧ x ≤ 1000000000 := by
  unfold fDB_isNum at h
  split at h
  · cases h
  · rename_i h0
    split at h
    · rename_i h1; exact ⟨h0, h1⟩
    · cases h
theorem tick_ok {x : Int32} (h : fDB_isTick x = true) : ¬ x < 1 ∧ x ≤ 2000 := by
  unfold fDB_isTick at h
  split at h
  · cases h
  · rename_i h0
    split at h
    · rename_i h1; exact ⟨h0, h1⟩
    · cases h
theorem part_ok {x : Int32} (h : fDB_isPart x = true) : ∃ q, q < 6 ∧ x = nI q := by
  unfold fDB_isPart at h
  split at h
  · cases h
  · rename_i h0
    split at h
    · rename_i h1
      obtain ⟨k, hk, rfl⟩ := nI_of h0
      exact ⟨k, (nI_ltI (b := 6) hk (by decide)).mp h1, rfl⟩
    · cases h
theorem i32_nle {x y : Int32} : ¬ x ≤ y ↔ y < x := by rw [Int32.le_iff_toInt_le, Int32.lt_iff_toInt_lt]; omega
theorem i32_nlt {x y : Int32} : ¬ x < y ↔ y ≤ x := by rw [Int32.le_iff_toInt_le, Int32.lt_iff_toInt_lt]; omega
theorem in_not {x a b : Int32} : fRM_in x a b = true ↔ (a ≤ x ∧ x ≤ b) := by
  unfold fRM_in
  split
  · rename_i h; constructor
    · intro h2; cases h2
    · intro h2; exact absurd h2.1 (i32_nle.mpr h)
  · rename_i h
    split
    · rename_i h3; constructor
      · intro h2; cases h2
      · intro h2; exact absurd h2.2 (i32_nle.mpr h3)
    · rename_i h3; exact ⟨fun _ => ⟨i32_nlt.mp h, i32_nlt.mp h3⟩, fun _ => rfl⟩
theorem in_of {x a b : Int32} (f : Bool) (h : f = false) (hi : fRM_in x a b = true → f = true) : fRM_in x a b = false := by
  cases hb : fRM_in x a b
  · rfl
  · exact absurd ((hi hb).symm.trans h) (by decide)
theorem in_port {x : Int32} (h : fRM_in x 0 7 = true) : fDB_isPort x = true := by
  rw [in_not] at h
  obtain ⟨k, hk, rfl⟩ := nI_of (i32_nlt.mpr h.1)
  have h1 := (nI_leI (b := 7) hk (by decide)).mp h.2
  unfold fDB_isPort
  rw [if_neg (nI_pos hk), if_pos (show nI k < 8 from nI_lt (b := 8) (by omega) (by decide))]
theorem in_router {x : Int32} (h : fRM_in x 0 63 = true) : fDB_isRouter x = true := by
  rw [in_not] at h
  obtain ⟨k, hk, rfl⟩ := nI_of (i32_nlt.mpr h.1)
  have h1 := (nI_leI (b := 63) hk (by decide)).mp h.2
  exact isRouter_K (by omega)
theorem in_part {x : Int32} (h : fRM_in x 0 5 = true) : fDB_isPart x = true := by
  rw [in_not] at h
  obtain ⟨k, hk, rfl⟩ := nI_of (i32_nlt.mpr h.1)
  have h1 := (nI_leI (b := 5) hk (by decide)).mp h.2
  unfold fDB_isPart
  rw [if_neg (nI_pos hk), if_pos (show nI k < 6 from nI_lt (b := 6) (by omega) (by decide))]
theorem in_num {x : Int32} (h : fRM_in x 1 1000000000 = true) : fDB_isNum x = true := by
  rw [in_not] at h
  unfold fDB_isNum
  rw [if_neg (i32_nlt.mpr h.1), if_pos h.2]
theorem in_tick {x : Int32} (h : fRM_in x 1 2000 = true) : fDB_isTick x = true := by
  rw [in_not] at h
  unfold fDB_isTick
  rw [if_neg (i32_nlt.mpr h.1), if_pos h.2]
/-! finding a place -/
theorem place_iff {t : Nat} {rO : Nat → Bool} {nS nP nR nG rW rH : Nat → Int32} {rF : Nat → Bool} {i q o : Nat} (h : rPlace t rO nS nP nR nG rW rH rF i) (hq : q < 8) (ho : o < 64) : (¬ nS i = 0 ∧ nP i = nI q ∧ nR i = nI o) ↔ rW i = nI (64 * q + o) := by
  rcases h with ⟨h1, h2, -⟩ | ⟨p, o', h', hp, ho', -, h1, h2, h3, h4, -⟩
  · rw [h1, h2]
    constructor
    · intro h; exact absurd rfl h.1
    · intro h; exact absurd h.symm (nI_m1 (by omega))
  · rw [h1, h2, h3, h4, nI_eq (by omega) (by omega), nI_eq (by omega) (by omega), nI_eq (by omega) (by omega)]
    constructor
    · intro h; omega
    · intro h
      refine ⟨?_, by omega, by omega⟩
      cases rF i <;> decide
theorem place_heard {t : Nat} {rO : Nat → Bool} {nS nP nR nG rW rH : Nat → Int32} {rF : Nat → Bool} {i : Nat} (h : rPlace t rO nS nP nR nG rW rH rF i) (hw : ¬ rW i < 0) : ∃ p o h, p < 8 ∧ o < 64 ∧ h ≤ t ∧ nS i = cond (rF i) 2 1 ∧ nP i = nI p ∧ nR i = nI o ∧ rW i = nI (64 * p + o) ∧ rO p = true ∧ nG i = nI h ∧ rH i = nI h := by
  rcases h with ⟨h1, h2, -⟩ | h
  · rw [h2] at hw; exact absurd (by decide) hw
  · exact h
theorem place_neg {t : Nat} {rO : Nat → Bool} {nS nP nR nG rW rH : Nat → Int32} {rF : Nat → Bool} {i : Nat} (h : rPlace t rO nS nP nR nG rW rH rF i) : nS i = 0 ↔ rW i < 0 := by
  rcases h with ⟨h1, h2, -⟩ | ⟨p, o', h', hp, ho', -, h1, h2, h3, h4, -⟩
  · rw [h1, h2]; decide
  · rw [h1, h4]
    constructor
    · intro h; exact absurd h (by cases rF i <;> decide)
    · intro h; exact absurd h (nI_pos (by omega))
theorem hp_spec {nS nP nR : Nat → Int32} {x y : Int32} : ∀ (n k : Nat), (LNB_heardPlace nS nP nR x y n k = none ∧ ∀ i, k ≤ i → i < k + n → ¬ (¬ nS i = 0 ∧ nP i = x ∧ nR i = y)) ∨ (∃ j, LNB_heardPlace nS nP nR x y n k = some j ∧ k ≤ j ∧ j < k + n ∧ ¬ nS j = 0 ∧ nP j = x ∧ nR j = y) := by
  intro n
  induction n with
  | zero => intro k; left; exact ⟨rfl, fun i h1 h2 => by omega⟩
  | succ n ih =>
    intro k
    have go : ¬ (¬ nS k = 0 ∧ nP k = x ∧ nR k = y) → LNB_heardPlace nS nP nR x y (n + 1) k = LNB_heardPlace nS nP nR x y n (k + 1) := by
      intro h
      simp only [LNB_heardPlace]
      by_cases h1 : nS k = 0
      · rw [if_pos h1]
      · rw [if_neg h1]
        by_cases h2 : nP k = x
        · rw [if_pos h2]
          by_cases h3 : nR k = y
          · exact absurd ⟨h1, h2, h3⟩ h
          · rw [if_neg h3]
        · rw [if_neg h2]
    by_cases h : ¬ nS k = 0 ∧ nP k = x ∧ nR k = y
    · right
      refine ⟨k, ?_, by omega, by omega, h⟩
      simp only [LNB_heardPlace]
      rw [if_neg h.1, if_pos h.2.1, if_pos h.2.2]
    · rw [go h]
      rcases ih (k + 1) with ⟨h1, h2⟩ | ⟨j, h1, h2, h3, h4⟩
      · left
        refine ⟨h1, fun i g1 g2 => ?_⟩
        by_cases hik : i = k
        · subst hik; exact h
        · exact h2 i (by omega) (by omega)
      · right; exact ⟨j, h1, by omega, by omega, h4⟩
theorem fd_spec {rW : Nat → Int32} {q o : Nat} : ∀ (n k : Nat) (f : Option Nat), (QRM_find_5 rW q o n k f = f ∧ ∀ i, k ≤ i → i < k + n → ¬ rW i = nI (64 * q + o)) ∨ (∃ j, QRM_find_5 rW q o n k f = some j ∧ k ≤ j ∧ j < k + n ∧ rW j = nI (64 * q + o)) := by
  intro n
  induction n with
  | zero => intro k f; left; exact ⟨rfl, fun i h1 h2 => by omega⟩
  | succ n ih =>
    intro k f
    simp only [QRM_find_5]
    split
    · rename_i h
      right
      rcases ih (k + 1) (some k) with ⟨h1, h2⟩ | ⟨j, h1, h2, h3, h4⟩
      · exact ⟨k, h1, by omega, by omega, h⟩
      · exact ⟨j, h1, by omega, by omega, h4⟩
    · rename_i h
      rcases ih (k + 1) f with ⟨h1, h2⟩ | ⟨j, h1, h2, h3, h4⟩
      · left
        refine ⟨h1, fun i g1 g2 => ?_⟩
        by_cases hik : i = k
        · subst hik; exact h
        · exact h2 i (by omega) (by omega)
      · right; exact ⟨j, h1, by omega, by omega, h4⟩
theorem find_eq {t : Nat} {rO : Nat → Bool} {nS nP nR nG rW rH : Nat → Int32} {rF : Nat → Bool} (hPl : ∀ k, k < 16 → rPlace t rO nS nP nR nG rW rH rF k) (hUn : rUniq rW) {q o : Nat} (hq : q < 8) (ho : o < 64) : LNB_heardPlace nS nP nR (nI q) (nI o) 16 0 = QRM_find_5 rW q o 16 0 none := by
  rcases hp_spec (nS := nS) (nP := nP) (nR := nR) (x := nI q) (y := nI o) 16 0 with ⟨h1, h2⟩ | ⟨j, h1, h2, h3, h4⟩
  · rcases fd_spec (rW := rW) (q := q) (o := o) 16 0 none with ⟨g1, g2⟩ | ⟨i, g1, g2, g3, g4⟩
    · rw [h1, g1]
    · exact absurd ((place_iff (hPl i (by omega)) hq ho).mpr g4) (h2 i (by omega) (by omega))
  · have h5 := (place_iff (hPl j (by omega)) hq ho).mp h4
    rcases fd_spec (rW := rW) (q := q) (o := o) 16 0 none with ⟨g1, g2⟩ | ⟨i, g1, g2, g3, g4⟩
    · exact absurd h5 (g2 j (by omega) (by omega))
    · have : j = i := hUn j i (by omega) (by omega) (by rw [h5]; exact nI_pos' (by omega)) (h5.trans g4.symm)
      rw [h1, g1, this]
theorem fd_some {rW : Nat → Int32} {q o k : Nat} (h : QRM_find_5 rW q o 16 0 none = some k) : k < 16 ∧ rW k = nI (64 * q + o) := by
  rcases fd_spec (rW := rW) (q := q) (o := o) 16 0 none with ⟨h1, h2⟩ | ⟨j, h1, h2, h3, h4⟩
  · rw [h1] at h; cases h
  · rw [h1] at h; cases h; exact ⟨by omega, h4⟩
theorem fd_none {rW : Nat → Int32} {q o : Nat} (h : QRM_find_5 rW q o 16 0 none = none) : ∀ i, i < 16 → ¬ rW i = nI (64 * q + o) := by
  rcases fd_spec (rW := rW) (q := q) (o := o) 16 0 none with ⟨h1, h2⟩ | ⟨j, h1, h2, h3, h4⟩
  · exact fun i hi => h2 i (by omega) (by omega)
  · rw [h1] at h; cases h
theorem tk_spec {nS nP nR : Nat → Int32} {x y : Int32} : ∀ (n k : Nat), (LNB_takeFreePlace nS nP nR x y n k = (none, nS, nP, nR) ∧ ∀ i, k ≤ i → i < k + n → ¬ nS i = 0) ∨ (∃ j, LNB_takeFreePlace nS nP nR x y n k = (some j, upd nS j 1, upd nP j x, upd nR j y) ∧ k ≤ j ∧ j < k + n ∧ nS j = 0 ∧ ∀ i, k ≤ i → i < j → ¬ nS i = 0) := by
  intro n
  induction n with
  | zero => intro k; left; exact ⟨rfl, fun i h1 h2 => by omega⟩
  | succ n ih =>
    intro k
    simp only [LNB_takeFreePlace]
    split
    · rename_i h; right; exact ⟨k, rfl, by omega, by omega, h, fun i h1 h2 => by omega⟩
    · rename_i h
      rcases ih (k + 1) with ⟨h1, h2⟩ | ⟨j, h1, h2, h3, h4, h5⟩
      · left
        refine ⟨h1, fun i g1 g2 => ?_⟩
        by_cases hik : i = k
        · subst hik; exact h
        · exact h2 i (by omega) (by omega)
      · right
        refine ⟨j, h1, by omega, by omega, h4, fun i g1 g2 => ?_⟩
        by_cases hik : i = k
        · subst hik; exact h
        · exact h5 i (by omega) (by omega)
theorem fr_spec {rW : Nat → Int32} : ∀ (k : Nat) (f : Option Nat), (QRM_greeting_39 rW k f = f ∧ ∀ i, i < k → 0 ≤ rW i) ∨ (∃ j, QRM_greeting_39 rW k f = some j ∧ j < k ∧ ¬ 0 ≤ rW j ∧ ∀ i, i < j → 0 ≤ rW i) := by
  intro k
  induction k with
  | zero => intro f; left; exact ⟨rfl, fun i h => by omega⟩
  | succ k ih =>
    intro f
    simp only [QRM_greeting_39]
    split
    · rename_i h
      rcases ih f with ⟨h1, h2⟩ | ⟨j, h1, h2, h3, h4⟩
      · left
        refine ⟨h1, fun i g1 => ?_⟩
        by_cases hik : i = k
        · subst hik; exact h
        · exact h2 i (by omega)
      · right; exact ⟨j, h1, by omega, h3, h4⟩
    · rename_i h
      right
      rcases ih (some k) with ⟨h1, h2⟩ | ⟨j, h1, h2, h3, h4⟩
      · exact ⟨k, h1, by omega, h, h2⟩
      · exact ⟨j, h1, by omega, h3, h4⟩
theorem free_eq {t : Nat} {rO : Nat → Bool} {nS nP nR nG rW rH : Nat → Int32} {rF : Nat → Bool} (hPl : ∀ k, k < 16 → rPlace t rO nS nP nR nG rW rH rF k) (x y : Int32) :
    (LNB_takeFreePlace nS nP nR x y 16 0 = (none, nS, nP, nR) ∧ QRM_greeting_39 rW 16 none = none) ∨ (∃ j, j < 16 ∧ nS j = 0 ∧ LNB_takeFreePlace nS nP nR x y 16 0 = (some j, upd nS j 1, upd nP j x, upd nR j y) ∧ QRM_greeting_39 rW 16 none = some j) := by
  have ng : ∀ i, i < 16 → (nS i = 0 ↔ ¬ 0 ≤ rW i) := fun i hi => by rw [place_neg (hPl i hi), i32_nle]
  rcases tk_spec (nS := nS) (nP := nP) (nR := nR) (x := x) (y := y) 16 0 with ⟨h1, h2⟩ | ⟨j, h1, h2, h3, h4, h5⟩
  · left
    refine ⟨h1, ?_⟩
    rcases fr_spec (rW := rW) 16 none with ⟨g1, g2⟩ | ⟨i, g1, g2, g3, g4⟩
    · exact g1
    · exact absurd ((ng i (by omega)).mpr g3) (h2 i (by omega) (by omega))
  · right
    refine ⟨j, by omega, h4, h1, ?_⟩
    rcases fr_spec (rW := rW) 16 none with ⟨g1, g2⟩ | ⟨i, g1, g2, g3, g4⟩
    · exact absurd (g2 j (by omega)) ((ng j (by omega)).mp h4)
    · have e : i = j := by
        rcases Nat.lt_trichotomy i j with h | h | h
        · exact absurd ((ng i (by omega)).mpr g3) (h5 i (by omega) h)
        · exact h
        · exact absurd (g4 j h) ((ng j (by omega)).mp h4)
      rw [g1, e]
