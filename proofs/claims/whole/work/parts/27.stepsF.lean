theorem r63_at {T : Nat} (hT : T < 2 ^ 31) {rO : Nat → Bool} : ∀ (n k : Nat) (rG : Nat → Bool) (q : Nat), QRM_run_63 (nI T) rO n k rG q = if k ≤ q ∧ q < k + n then (rG q || (rO q && decide (T % 20 = 0))) else rG q := by
  intro n
  induction n with
  | zero => intro k rG q; rw [if_neg (by omega)]; rfl
  | succ n ih =>
    intro k rG q
    have e : nI T - nI T / nI 20 * nI 20 = nI (T % 20) := pk_rem hT (by decide) (by decide)
    have fin : ∀ b : Bool, b = (rG k || (rO k && decide (T % 20 = 0))) → QRM_run_63 (nI T) rO n (k + 1) (updB rG k b) q = if k ≤ q ∧ q < k + (n + 1) then (rG q || (rO q && decide (T % 20 = 0))) else rG q := by
      intro b hb
      rw [ih]
      by_cases h : q = k
      · subst h; rw [if_neg (by omega), if_pos (by omega), updB_s, hb]
      · rw [updB_n h]
        by_cases h2 : k + 1 ≤ q ∧ q < k + 1 + n
        · rw [if_pos h2, if_pos (show k ≤ q ∧ q < k + (n + 1) by omega)]
        · rw [if_neg h2, if_neg (by omega)]
    simp only [QRM_run_63]
    rw [e]
    cases hG : rG k
    · cases hO : rO k
      · exact fin _ (by rw [hG, hO]; rfl)
      · simp only [cond_false, cond_true]
        by_cases hz : T % 20 = 0
        · rw [if_pos ((nI_z (by omega)).mpr hz)]; exact fin _ (by rw [hG, hO, decide_eq_true hz]; rfl)
        · rw [if_neg (fun h => hz ((nI_z (by omega)).mp h))]; exact fin _ (by rw [hG, hO, decide_eq_false hz]; rfl)
    · exact fin _ (by rw [hG]; rfl)
theorem silent_iff {T h : Nat} (hT : T ≤ 1000000) (hh : h ≤ T) : nI T - nI h < 80 ↔ T - h < 80 := by
  rw [pk_sub hh]
  exact nI_ltI (b := 80) (by omega) (by decide)
theorem r46_at {rO : Nat → Bool} {rH : Nat → Int32} : ∀ (n k T : Nat) (rG : Nat → Bool) (rW : Nat → Int32) (rF : Nat → Bool) (rT : Nat → Int32), T + n ≤ 1000000 →
    (QRM_run_46 rO rH n k (nI T) rG rW rF rT).1 = nI (T + n) ∧ (∀ q, q < 8 → (QRM_run_46 rO rH n k (nI T) rG rW rF rT).2.1 q = (rG q || (rO q && decide (T / 20 < (T + n) / 20)))) ∧
    (∀ i h, i < 16 → h ≤ T → (¬ rW i < 0 → rH i = nI h) → dropR (1 ≤ n ∧ ¬ rW i < 0 ∧ 80 ≤ T + n - h) (rW i) ((QRM_run_46 rO rH n k (nI T) rG rW rF rT).2.2.1 i) (rF i) ((QRM_run_46 rO rH n k (nI T) rG rW rF rT).2.2.2.1 i) i rT (QRM_run_46 rO rH n k (nI T) rG rW rF rT).2.2.2.2) := by
  intro n
  induction n with
  | zero =>
    intro k T rG rW rF rT hT
    refine ⟨rfl, fun q hq => ?_, fun i h hi hh hr => dropR_iff ⟨fun z => z.elim, fun z => by omega⟩ dropR_no⟩
    rw [decide_eq_false (by omega), Bool.and_false, Bool.or_false]; rfl
  | succ n ih =>
    intro k T rG rW rF rT hT
    simp only [QRM_run_46]
    rw [nI_1]
    have hA := fun i => r116_at (rN := nI (T + 1)) (rH := rH) 16 0 rW rF rT i
    generalize QRM_run_116 (nI (T + 1)) rH 16 0 rW rF rT = S at hA ⊢
    obtain ⟨W, F, X⟩ := S
    obtain ⟨i1, i2, i3⟩ := ih (k + 1) (T + 1) (QRM_run_63 (nI (T + 1)) rO 8 0 rG) W F X (by omega)
    refine ⟨i1.trans (by rw [show T + 1 + n = T + (n + 1) by omega]), fun q hq => ?_, fun i h hi hh hr => ?_⟩
    · rw [i2 q hq, r63_at (by omega), if_pos (by omega)]
      cases hG : rG q
      · cases hO : rO q
        · rfl
        · simp only [Bool.false_or, Bool.true_and]
          by_cases h1 : (T + 1) % 20 = 0
          · rw [decide_eq_true h1, decide_eq_true (show T / 20 < (T + (n + 1)) / 20 by omega)]; rfl
          · rw [decide_eq_false h1, Bool.false_or]
            exact decide_eq_decide.mpr (by omega)
      · simp only [Bool.true_or]
    · obtain ⟨a1, a2⟩ := hA i
      dsimp only at a1 a2 ⊢
      by_cases hW : rW i < 0
      · obtain ⟨b1, b2, b3⟩ := a2 (fun z => z.2.2.1 hW)
        obtain ⟨-, c2⟩ := i3 i h hi (by omega) (fun z => absurd (b1 ▸ hW) z)
        obtain ⟨d1, d2, d3⟩ := c2 (fun z => z.2.1 (b1 ▸ hW))
        exact ⟨fun z => absurd hW z.2.1, fun _ => ⟨d1.trans b1, d2.trans b2, fun o ho => (d3 o ho).trans (b3 o ho)⟩⟩
      · have hs := silent_iff (T := T + 1) (h := h) (by omega) (by omega)
        rw [← hr hW] at hs
        by_cases hd : T + 1 - h < 80
        · obtain ⟨b1, b2, b3⟩ := a2 (fun z => z.2.2.2 (hs.mpr hd))
          obtain ⟨c1, c2⟩ := i3 i h hi (by omega) (fun _ => hr hW)
          rw [b1] at c1 c2
          refine ⟨fun z => c1 ⟨by omega, hW, by omega⟩, fun z => ?_⟩
          obtain ⟨d1, d2, d3⟩ := c2 (fun y => z ⟨by omega, hW, by omega⟩)
          exact ⟨d1, d2.trans b2, fun o ho => (d3 o ho).trans (b3 o ho)⟩
        · obtain ⟨b1, b2, b3⟩ := a1 ⟨by omega, by omega, hW, fun z => hd (hs.mp z)⟩
          have hn : W i < 0 := by rw [b1]; exact m1_neg
          obtain ⟨-, c2⟩ := i3 i h hi (by omega) (fun z => absurd hn z)
          obtain ⟨d1, d2, d3⟩ := c2 (fun z => z.2.1 hn)
          exact ⟨fun _ => ⟨d1.trans b1, d2.trans b2, fun o ho => (d3 o ho).trans (b3 o ho)⟩, fun z => absurd ⟨by omega, hW, by omega⟩ z⟩
theorem run_rel {t n : Nat} (hn : 1 ≤ n) (htn : t + n ≤ 1000000) {dO dG : Int32} {rO rG : Nat → Bool} {nS nP nR nG rW rH : Nat → Int32} {nO nU : Nat → Int64} {nT : Nat → Int32} {rF : Nat → Bool} {rM rT : Nat → Int32} (hPl : ∀ k, k < 16 → rPlace t rO nS nP nR nG rW rH rF k) (hOw : rOwe t nO nU nT rF rM rT) (hUn : rUniq rW) (hPo : rPorts dO dG rO rG) :
    (QRM_run_46 rO rH n 0 (nI t) rG rW rF rT).1 = nI (t + n) ∧ (∀ k, k < 16 → rPlace (t + n) rO (LNB_dropSilent nG (nI (t + n)) 16 0 nS nO nU).1 nP nR nG (QRM_run_46 rO rH n 0 (nI t) rG rW rF rT).2.2.1 rH (QRM_run_46 rO rH n 0 (nI t) rG rW rF rT).2.2.2.1 k) ∧
    rOwe (t + n) (LNB_dropSilent nG (nI (t + n)) 16 0 nS nO nU).2.1 (LNB_dropSilent nG (nI (t + n)) 16 0 nS nO nU).2.2 nT (QRM_run_46 rO rH n 0 (nI t) rG rW rF rT).2.2.2.1 rM (QRM_run_46 rO rH n 0 (nI t) rG rW rF rT).2.2.2.2 ∧ rUniq (QRM_run_46 rO rH n 0 (nI t) rG rW rF rT).2.2.1 ∧
    rPorts dO (fDB_run dO dG (nI t) (nI n)) rO (QRM_run_46 rO rH n 0 (nI t) rG rW rF rT).2.1 := by
  obtain ⟨s1, s2, s3⟩ := r46_at (rO := rO) (rH := rH) n 0 t rG rW rF rT htn
  have hh : ∀ i, i < 16 → ∃ h, h ≤ t ∧ (¬ rW i < 0 → rH i = nI h ∧ nG i = nI h) := fun i hi => by
    by_cases hw : rW i < 0
    · exact ⟨0, by omega, fun z => absurd hw z⟩
    · obtain ⟨p, o, h, -, -, h1, -, -, -, -, -, h2, h3⟩ := place_heard (hPl i hi) hw
      exact ⟨h, h1, fun _ => ⟨h3, h2⟩⟩
  obtain ⟨d1, d2, d3⟩ := drop_rel (nT := nT) (rM := rM) (rO' := rO) (t' := t + n) (fun i => 0 ≤ i ∧ i < 0 + 16 ∧ ¬ nS i = 0 ∧ ¬ nI (t + n) - nG i < 80) (Nat.le_add_right t n) hPl hOw hUn (fun i hi => ds_at 16 0 nS nO nU i) (fun i hi => by
    obtain ⟨h, h1, h2⟩ := hh i hi
    refine dropR_iff ?_ (s3 i h hi h1 (fun z => (h2 z).1))
    rw [place_neg (hPl i hi)]
    by_cases hw : rW i < 0
    · exact ⟨fun z => absurd hw z.2.1, fun z => absurd hw z.2.2.1⟩
    · rw [(h2 hw).2, silent_iff htn (by omega)]
      exact ⟨fun z => ⟨by omega, by omega, hw, by omega⟩, fun z => ⟨hn, hw, by omega⟩⟩) (fun i hi hc p o hp ho h4 h5 => h5)
  refine ⟨s1, d1, d2, d3, fun q hq => ?_⟩
  obtain ⟨w1, w2, w3⟩ := hPo q hq
  rw [s2 q hq]
  have e1 : (nI t + nI n) / 20 = nI ((t + n) / 20) := by rw [nI_add]; exact pk_div (d := 20) (by omega) (by decide) (by decide)
  have e2 : nI t / 20 = nI (t / 20) := pk_div (d := 20) (by omega) (by decide) (by decide)
  unfold fDB_run
  rw [e1, e2]
  by_cases hd : t / 20 < (t + n) / 20
  · rw [if_neg (nI_ge hd (by omega)), decide_eq_true hd, Bool.and_true]
    refine ⟨w1, ?_, ?_⟩
    · rw [w1]; cases hG : rG q
      · rfl
      · rw [w3 hG]; rfl
    · intro h; cases hG : rG q
      · rw [hG, Bool.false_or] at h; exact h
      · exact w3 hG
  · rw [if_pos (nI_le (by omega) (by omega)), decide_eq_false hd, Bool.and_false, Bool.or_false]
    exact ⟨w1, w2, w3⟩
set_option maxHeartbeats 4000000 in
set_option maxRecDepth 100000 in
theorem step_run {l : Launch} (hL : l.stackTraces = false) {D : va_G} {cI cL cZ : ClassId} {a a' : Nat → Nat} (hIa : aI a 20) (hIb : aI a' 11) {j : Nat} {v : CS} {r : RS} (h : Rel j v r) (hj : j < 600) (fo : Nat → Int64) (x1 : Int32) : ∃ (k : Int32) (v' : CS) (fo' : Nat → Int64) (bb : Int32) (r' : RS), hMet l D cI cL a yLW_run wsLW_run 4 [.ref (a 0), .int x1, .ref (a 19)] (v, fo) k (v', fo') ∧ rMet l D cI cZ a' yRM_run wsRM_run 4 [.ref (a' 0), .int x1] r (bb) r' ∧ codeR r' = k ∧ (k = 0 → fo' 0 = bb.toInt64) ∧ Rel (j + 1) v' r' := by
  obtain ⟨⟨dI, dO, dG, dN, dT⟩, ⟨aN, aB⟩, ⟨nS, nP, nR, nG, nO, nU, nT⟩, ⟨tP, tR, tO, tN, tF, tZ⟩, ⟨mP, mN⟩⟩ := v
  obtain ⟨⟨rI, rC, rN⟩, ⟨rO, rG⟩, ⟨rW, rH, rF, rT⟩, ⟨rM, rB, rX⟩, ⟨rQ, rA⟩, ⟨rE, rD⟩⟩ := r
  have hm := h.mono hj
  have hAR : ∀ u : RS, va_D (aS a' 11) (wR cI cZ a' u) := fun u => dS (wR_ad cI cZ a' u) hIb
  have hAC : ∀ u : CS, va_D (aS a 19) (wC cI cL a u) := fun u => dS (wC_ad cI cL a u) (hIa.le (by decide))
  obtain ⟨⟨e1, hI, hj0⟩, ⟨t, ⟨ht, hT1, hT2⟩, hPl, hOw⟩, hPo, ⟨hA1, ⟨g0, n0, hg0, hA2, hn0, hA3⟩, hA4⟩, hUn, ⟨hQ1, hQ2, hQ3, hQ4⟩, ⟨hM1, hM2⟩⟩ := id h
  subst e1 hT1 hT2 hA2 hA1 hQ1 hM2
  cases hx : fDB_isTick x1 with
  | false => exact ⟨1, _, _, _, _, hM_of (h_run_T1 l hL hIa dI dO dG (nI g0) (nI t) aN aB nS nP nR nG nO nU nT tP tR tO tN tF tZ mP mN fo x1 hx) rfl rfl (by decide), rM_of (c_RM_run_bad l hAR dI rC (nI t) rO rG rW rH rF rT rM rB (nI g0) tZ rA rE mN x1 (in_of _ hx in_tick)) rfl rfl (by decide), rfl, fun h => absurd h (by decide), hm⟩
  | true =>
    obtain ⟨h1, h2⟩ := tick_ok hx
    have h0 : ¬ x1 < 0 := fun z => h1 (Int32.lt_iff_toInt_lt.mpr (Int.lt_trans (Int32.lt_iff_toInt_lt.mp z) (by decide)))
    obtain ⟨n, hn2, rfl⟩ := nI_of2 (n := 2000) (by decide) h0 h2
    have hn1 : 1 ≤ n := Nat.pos_of_ne_zero (fun z => h1 (by subst z; decide))
    have e3 : (1000000 : Int32) - nI t = nI (1000000 - t) := pk_sub ht
    by_cases hl : t + n ≤ 1000000
    · have h3 : nI n ≤ 1000000 - nI t := by rw [e3]; exact nI_le (by omega) (by omega)
      have M1 := h_run l hL hIa (D := D) (cI := cI) (cL := cL) dI dO dG (nI g0) (nI t) aN aB nS nP nR nG nO nU nT tP tR tO tN tF tZ mP mN fo (nI n) h1 h2 h3
      have M2 := c_RM_run l hAR (D := D) (cI := cI) (cZ := cZ) dI rC (nI t) rO rG rW rH rF rT rM rB (nI g0) tZ rA rE mN n hn1 hn2 (by rw [nI_add]; exact nI_le (b := 1000000) hl (by decide))
      obtain ⟨s1, d1, d2, d3, d4⟩ := run_rel hn1 hl hPl hOw hUn hPo
      rw [nI_add] at M1
      rw [s1] at M2
      refine ⟨0, _, _, _, _, hM_of M1 rfl rfl (by decide), rM_of M2 rfl rfl (by decide), rfl, fun _ => by rw [pk_uLs], ?_⟩
      exact ⟨⟨rfl, hI, by omega⟩, ⟨t + n, ⟨hl, rfl, rfl⟩, d1, d2⟩, d4, ⟨rfl, ⟨g0, n0, by omega, rfl, hn0, hA3⟩, hA4⟩, d3, ⟨rfl, hQ2, hQ3, hQ4⟩, ⟨hM1, rfl⟩⟩
    · have h3 : ¬ nI n ≤ 1000000 - nI t := by rw [e3]; exact nI_ge (by omega) (by omega)
      have h4 : ¬ nI t + nI n ≤ 1000000 := by rw [nI_add]; exact nI_ge (a := 1000000) (by omega) (by omega)
      exact ⟨2, _, _, _, _, hM_of (h_run_T2 l hL hIa dI dO dG (nI g0) (nI t) aN aB nS nP nR nG nO nU nT tP tR tO tN tF tZ mP mN fo (nI n) h1 h2 h3) rfl rfl (by decide), rM_of (c_RM_run_late l hAR dI rC (nI t) rO rG rW rH rF rT rM rB (nI g0) tZ rA rE mN (nI n) (in_not.mpr ⟨i32_nlt.mp h1, h2⟩) h4) rfl rfl (by decide), rfl, fun h => absurd h (by decide), hm⟩
