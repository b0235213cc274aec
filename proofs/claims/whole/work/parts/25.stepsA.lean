theorem Rel.mono {j : Nat} {v : CS} {r : RS} (h : Rel j v r) (hj : j < 600) : Rel (j + 1) v r := by
  obtain ⟨⟨dI, dO, dG, dN, dT⟩, ⟨aN, aB⟩, ⟨nS, nP, nR, nG, nO, nU, nT⟩, ⟨tP, tR, tO, tN, tF, tZ⟩, ⟨mP, mN⟩⟩ := v
  obtain ⟨⟨rI, rC, rN⟩, ⟨rO, rG⟩, ⟨rW, rH, rF, rT⟩, ⟨rM, rB, rX⟩, ⟨rQ, rA⟩, ⟨rE, rD⟩⟩ := r
  obtain ⟨⟨e1, hI, hj0⟩, hp, h2, ⟨a1, ⟨g, n, h3, h4, h5, h6⟩, h7⟩, hr⟩ := h
  exact ⟨⟨e1, hI, by omega⟩, hp, h2, ⟨a1, ⟨g, n, by omega, h4, h5, h6⟩, h7⟩, hr⟩
theorem owe_set {t : Nat} {b u : Bool} {n w : Int32} (hw : w < 0) (hb : b = false) : rOwe1 t b u n w := Or.inl ⟨hb, hw⟩
theorem owe_now {t : Nat} {b u : Bool} {n : Int32} (hb : b = true) (hu : u = true) : rOwe1 t b u n (nI t) := Or.inr ⟨hb, t, rfl, Or.inl ⟨hu, Nat.le_refl t⟩⟩
theorem owe_later {t t' : Nat} {b u : Bool} {n w : Int32} (h : rOwe1 t b u n w) (ht : t ≤ t') : rOwe1 t' b u n w := by
  rcases h with h | ⟨hb, c, hc, ⟨hu, h1⟩ | ⟨hu, tt, h1, h2⟩⟩
  · exact Or.inl h
  · exact Or.inr ⟨hb, c, hc, Or.inl ⟨hu, by omega⟩⟩
  · exact Or.inr ⟨hb, c, hc, Or.inr ⟨hu, tt, by omega, h2⟩⟩
theorem owe_b {t : Nat} {b u : Bool} {n w : Int32} (h : rOwe1 t b u n w) (ht : t ≤ 1000000) : b = true ↔ ¬ w < 0 := by
  rcases h with ⟨h1, h2⟩ | ⟨hb, c, hc, hd⟩
  · subst h1; exact ⟨fun h => (by cases h), fun h => absurd h2 h⟩
  · refine ⟨fun _ => ?_, fun _ => hb⟩
    rw [hc]
    refine nI_pos ?_
    rcases hd with ⟨-, h1⟩ | ⟨-, tt, h1, -, h3⟩ <;> omega
theorem friend_iff {t : Nat} {rO : Nat → Bool} {nS nP nR nG rW rH : Nat → Int32} {rF : Nat → Bool} {i : Nat} (h : rPlace t rO nS nP nR nG rW rH rF i) : nS i = 2 ↔ rF i = true := by
  rcases h with ⟨h1, -, h3⟩ | ⟨p, o, h', -, -, -, h1, -⟩
  · rw [h1, h3]; decide
  · rw [h1]; cases rF i <;> decide
theorem m1_neg : (-1 : Int32) < 0 := by decide
set_option maxRecDepth 100000 in
theorem rel_start (i : Nat) (h : i < 64) : Rel 0 (v0C i) (v0R i) := by
  have hw : ∀ k, k < 16 → iFill 16 0 (fun _ => 0) k = -1 := fun k hk => by rw [iFill_at, if_pos (by omega)]
  have ht : ∀ k, k < 1024 → iFill 1024 0 (fun _ => 0) k = -1 := fun k hk => by rw [iFill_at, if_pos (by omega)]
  refine ⟨⟨rfl, h, by decide⟩, ⟨0, ⟨by decide, rfl, rfl⟩, fun k hk => Or.inl ⟨rfl, hw k hk, rfl⟩, fun k hk o ho => ?_⟩, fun q hq => ⟨isOn_z hq, isOn_z hq, fun h => by cases h⟩, ⟨rfl, ⟨0, 0, by decide, rfl, by decide, rfl⟩, fun o ho => ⟨rfl, rfl, (show (0 : Int32) ≤ 0 by decide), fun _ => rfl⟩⟩, fun a b ha hb h1 _ => ?_, ⟨rfl, by decide, by decide, fun i hi => by omega⟩, ⟨fun i hi => rfl, rfl⟩⟩
  · rw [ht (64 * k + o) (by omega)]
    exact ⟨owe_set m1_neg (l_0 o), fun _ => m1_neg⟩
  · rw [hw a ha] at h1; exact absurd h1 (by decide)
set_option maxHeartbeats 4000000 in
set_option maxRecDepth 100000 in
theorem step_time {l : Launch} (hL : l.stackTraces = false) {D : va_G} {cI cL cZ : ClassId} {a a' : Nat → Nat} (hIa : aI a 20) (hIb : aI a' 11) {j : Nat} {v : CS} {r : RS} (h : Rel j v r) (hj : j < 600)  : ∃ (bb : Int32) (r' : RS), cRo l D cI cL a yDB_time wsDB_time 1 [.ref (a 0)] v (bb) ∧ rMet l D cI cZ a' yRM_time wsRM_time 1 [.ref (a' 0)] r (bb) r' ∧ Rel (j + 1) v r' := by
  obtain ⟨⟨dI, dO, dG, dN, dT⟩, ⟨aN, aB⟩, ⟨nS, nP, nR, nG, nO, nU, nT⟩, ⟨tP, tR, tO, tN, tF, tZ⟩, ⟨mP, mN⟩⟩ := v
  obtain ⟨⟨rI, rC, rN⟩, ⟨rO, rG⟩, ⟨rW, rH, rF, rT⟩, ⟨rM, rB, rX⟩, ⟨rQ, rA⟩, ⟨rE, rD⟩⟩ := r
  have hm := h.mono hj
  have hAR : ∀ u : RS, va_D (aS a' 11) (wR cI cZ a' u) := fun u => dS (wR_ad cI cZ a' u) hIb
  have hAC : ∀ u : CS, va_D (aS a 19) (wC cI cL a u) := fun u => dS (wC_ad cI cL a u) (hIa.le (by decide))
  obtain ⟨⟨e1, hI, hj0⟩, ⟨t, ⟨ht, hT1, hT2⟩, hPl, hOw⟩, hPo, ⟨hA1, ⟨g0, n0, hg0, hA2, hn0, hA3⟩, hA4⟩, hUn, ⟨hQ1, hQ2, hQ3, hQ4⟩, ⟨hM1, hM2⟩⟩ := id h
  subst e1 hT1 hT2 hA2 hA1 hQ1 hM2
  exact ⟨_, _, cRo_of (c_DB_time l dI dO dG (nI g0) (nI t) aN aB nS nP nR nG nO nU nT tP tR tO tN tF tZ mP mN) rfl rfl (by decide), rM_of (c_RM_time l hAR dI rC (nI t) rO rG rW rH rF rT rM rB (nI g0) tZ rA rE mN) rfl rfl (by decide), hm⟩
set_option maxHeartbeats 4000000 in
set_option maxRecDepth 100000 in
theorem step_named {l : Launch} (hL : l.stackTraces = false) {D : va_G} {cI cL cZ : ClassId} {a a' : Nat → Nat} (hIa : aI a 20) (hIb : aI a' 11) {j : Nat} {v : CS} {r : RS} (h : Rel j v r) (hj : j < 600)  : ∃ (bb : Int64) (r' : RS), cRoL l D cI cL a yDB_named wsDB_named 1 [.ref (a 0)] v (bb) ∧ rMetL l D cI cZ a' yRM_named wsRM_named 1 [.ref (a' 0)] r (bb) r' ∧ Rel (j + 1) v r' := by
  obtain ⟨⟨dI, dO, dG, dN, dT⟩, ⟨aN, aB⟩, ⟨nS, nP, nR, nG, nO, nU, nT⟩, ⟨tP, tR, tO, tN, tF, tZ⟩, ⟨mP, mN⟩⟩ := v
  obtain ⟨⟨rI, rC, rN⟩, ⟨rO, rG⟩, ⟨rW, rH, rF, rT⟩, ⟨rM, rB, rX⟩, ⟨rQ, rA⟩, ⟨rE, rD⟩⟩ := r
  have hm := h.mono hj
  have hAR : ∀ u : RS, va_D (aS a' 11) (wR cI cZ a' u) := fun u => dS (wR_ad cI cZ a' u) hIb
  have hAC : ∀ u : CS, va_D (aS a 19) (wC cI cL a u) := fun u => dS (wC_ad cI cL a u) (hIa.le (by decide))
  obtain ⟨⟨e1, hI, hj0⟩, ⟨t, ⟨ht, hT1, hT2⟩, hPl, hOw⟩, hPo, ⟨hA1, ⟨g0, n0, hg0, hA2, hn0, hA3⟩, hA4⟩, hUn, ⟨hQ1, hQ2, hQ3, hQ4⟩, ⟨hM1, hM2⟩⟩ := id h
  subst e1 hT1 hT2 hA2 hA1 hQ1 hM2
  exact ⟨_, _, cRoL_of (c_DB_named l dI dO dG (nI g0) (nI t) aN aB nS nP nR nG nO nU nT tP tR tO tN tF tZ mP mN) rfl rfl (by decide), rML_of (c_RM_named l hAR dI rC (nI t) rO rG rW rH rF rT rM rB (nI g0) tZ rA rE mN) rfl rfl (by decide), hm⟩
set_option maxHeartbeats 4000000 in
set_option maxRecDepth 100000 in
theorem step_count {l : Launch} (hL : l.stackTraces = false) {D : va_G} {cI cL cZ : ClassId} {a a' : Nat → Nat} (hIa : aI a 20) (hIb : aI a' 11) {j : Nat} {v : CS} {r : RS} (h : Rel j v r) (hj : j < 600) (x1 : Bool) : ∃ (bb : Int32) (r' : RS), cRo l D cI cL a yDB_count wsDB_count 2 [.ref (a 0), .int (bi x1)] v (bb) ∧ rMet l D cI cZ a' yRM_count wsRM_count 4 [.ref (a' 0), .int (bi x1)] r (bb) r' ∧ Rel (j + 1) v r' := by
  obtain ⟨⟨dI, dO, dG, dN, dT⟩, ⟨aN, aB⟩, ⟨nS, nP, nR, nG, nO, nU, nT⟩, ⟨tP, tR, tO, tN, tF, tZ⟩, ⟨mP, mN⟩⟩ := v
  obtain ⟨⟨rI, rC, rN⟩, ⟨rO, rG⟩, ⟨rW, rH, rF, rT⟩, ⟨rM, rB, rX⟩, ⟨rQ, rA⟩, ⟨rE, rD⟩⟩ := r
  have hm := h.mono hj
  have hAR : ∀ u : RS, va_D (aS a' 11) (wR cI cZ a' u) := fun u => dS (wR_ad cI cZ a' u) hIb
  have hAC : ∀ u : CS, va_D (aS a 19) (wC cI cL a u) := fun u => dS (wC_ad cI cL a u) (hIa.le (by decide))
  obtain ⟨⟨e1, hI, hj0⟩, ⟨t, ⟨ht, hT1, hT2⟩, hPl, hOw⟩, hPo, ⟨hA1, ⟨g0, n0, hg0, hA2, hn0, hA3⟩, hA4⟩, hUn, ⟨hQ1, hQ2, hQ3, hQ4⟩, ⟨hM1, hM2⟩⟩ := id h
  subst e1 hT1 hT2 hA2 hA1 hQ1 hM2
  have e : fDB_count nS x1 = QRM_count_9 rW rF x1 16 0 0 := by
    have := count_eq hPl x1 16 0 0 (by decide)
    unfold fDB_count
    cases x1 <;> exact this
  have M := c_DB_count l (D := D) (cI := cI) (cL := cL) (a := a) dI dO dG (nI g0) (nI t) aN aB nS nP nR nG nO nU nT tP tR tO tN tF tZ mP mN x1
  rw [e] at M
  exact ⟨_, _, cRo_of M rfl rfl (by decide), rM_of (c_RM_count l hAR dI rC (nI t) rO rG rW rH rF rT rM rB (nI g0) tZ rA rE mN x1) rfl rfl (by decide), hm⟩
set_option maxHeartbeats 4000000 in
set_option maxRecDepth 100000 in
theorem step_known {l : Launch} (hL : l.stackTraces = false) {D : va_G} {cI cL cZ : ClassId} {a a' : Nat → Nat} (hIa : aI a 20) (hIb : aI a' 11) {j : Nat} {v : CS} {r : RS} (h : Rel j v r) (hj : j < 600) (fo : Nat → Int64) (x1 : Int32) : ∃ (k : Int32) (v' : CS) (fo' : Nat → Int64) (bb : Int32) (r' : RS), hMet l D cI cL a yLW_known wsLW_known 4 [.ref (a 0), .int x1, .ref (a 19)] (v, fo) k (v', fo') ∧ rMet l D cI cZ a' yRM_known wsRM_known 2 [.ref (a' 0), .int x1] r (bb) r' ∧ codeR r' = k ∧ (k = 0 → fo' 0 = bb.toInt64) ∧ Rel (j + 1) v' r' := by
  obtain ⟨⟨dI, dO, dG, dN, dT⟩, ⟨aN, aB⟩, ⟨nS, nP, nR, nG, nO, nU, nT⟩, ⟨tP, tR, tO, tN, tF, tZ⟩, ⟨mP, mN⟩⟩ := v
  obtain ⟨⟨rI, rC, rN⟩, ⟨rO, rG⟩, ⟨rW, rH, rF, rT⟩, ⟨rM, rB, rX⟩, ⟨rQ, rA⟩, ⟨rE, rD⟩⟩ := r
  have hm := h.mono hj
  have hAR : ∀ u : RS, va_D (aS a' 11) (wR cI cZ a' u) := fun u => dS (wR_ad cI cZ a' u) hIb
  have hAC : ∀ u : CS, va_D (aS a 19) (wC cI cL a u) := fun u => dS (wC_ad cI cL a u) (hIa.le (by decide))
  obtain ⟨⟨e1, hI, hj0⟩, ⟨t, ⟨ht, hT1, hT2⟩, hPl, hOw⟩, hPo, ⟨hA1, ⟨g0, n0, hg0, hA2, hn0, hA3⟩, hA4⟩, hUn, ⟨hQ1, hQ2, hQ3, hQ4⟩, ⟨hM1, hM2⟩⟩ := id h
  subst e1 hT1 hT2 hA2 hA1 hQ1 hM2
  cases hx : fDB_isRouter x1 with
  | false => exact ⟨1, _, _, _, _, hM_of (h_known_T l hL hIa dI dO dG (nI g0) (nI t) aN aB nS nP nR nG nO nU nT tP tR tO tN tF tZ mP mN fo x1 hx) rfl rfl (by decide), rM_of (c_RM_known_bad l hAR dI rC (nI t) rO rG rW rH rF rT rM rB (nI g0) tZ rA rE mN x1 (in_of _ hx in_router)) rfl rfl (by decide), rfl, fun h => absurd h (by decide), hm⟩
  | true =>
    obtain ⟨g, hg, rfl⟩ := router_ok hx
    have e : fDB_known aN g = fRM_known rM g := by
      obtain ⟨m, hmm, e⟩ := nI_of (i32_nlt.mpr (hA4 g hg).2.2.1)
      unfold fDB_known fRM_known fAD_has
      rw [(hA4 g hg).1, e]
      by_cases h0 : m = 0
      · subst h0; rfl
      · rw [if_neg (nI_ne0 (by omega) hmm), if_neg (nI_nle (by omega) hmm)]; rfl
    exact ⟨0, _, _, _, _, hM_of (h_known l hL hIa dI dO dG (nI g0) (nI t) aN aB nS nP nR nG nO nU nT tP tR tO tN tF tZ mP mN fo g hg) rfl rfl (by decide), rM_of (c_RM_known l hAR dI rC (nI t) rO rG rW rH rF rT rM rB (nI g0) tZ rA rE mN g hg) rfl rfl (by decide), rfl, fun _ => by rw [pk_uLs, e], hm⟩
set_option maxHeartbeats 4000000 in
set_option maxRecDepth 100000 in
theorem step_body {l : Launch} (hL : l.stackTraces = false) {D : va_G} {cI cL cZ : ClassId} {a a' : Nat → Nat} (hIa : aI a 20) (hIb : aI a' 11) {j : Nat} {v : CS} {r : RS} (h : Rel j v r) (hj : j < 600) (fo : Nat → Int64) (x1 : Int32) : ∃ (k : Int32) (v' : CS) (fo' : Nat → Int64) (bb : Int32) (r' : RS), hMet l D cI cL a yLW_body wsLW_body 4 [.ref (a 0), .int x1, .ref (a 19)] (v, fo) k (v', fo') ∧ rMet l D cI cZ a' yRM_body wsRM_body 2 [.ref (a' 0), .int x1] r (bb) r' ∧ codeR r' = k ∧ (k = 0 → fo' 0 = bb.toInt64) ∧ Rel (j + 1) v' r' := by
  obtain ⟨⟨dI, dO, dG, dN, dT⟩, ⟨aN, aB⟩, ⟨nS, nP, nR, nG, nO, nU, nT⟩, ⟨tP, tR, tO, tN, tF, tZ⟩, ⟨mP, mN⟩⟩ := v
  obtain ⟨⟨rI, rC, rN⟩, ⟨rO, rG⟩, ⟨rW, rH, rF, rT⟩, ⟨rM, rB, rX⟩, ⟨rQ, rA⟩, ⟨rE, rD⟩⟩ := r
  have hm := h.mono hj
  have hAR : ∀ u : RS, va_D (aS a' 11) (wR cI cZ a' u) := fun u => dS (wR_ad cI cZ a' u) hIb
  have hAC : ∀ u : CS, va_D (aS a 19) (wC cI cL a u) := fun u => dS (wC_ad cI cL a u) (hIa.le (by decide))
  obtain ⟨⟨e1, hI, hj0⟩, ⟨t, ⟨ht, hT1, hT2⟩, hPl, hOw⟩, hPo, ⟨hA1, ⟨g0, n0, hg0, hA2, hn0, hA3⟩, hA4⟩, hUn, ⟨hQ1, hQ2, hQ3, hQ4⟩, ⟨hM1, hM2⟩⟩ := id h
  subst e1 hT1 hT2 hA2 hA1 hQ1 hM2
  cases hx : fDB_isRouter x1 with
  | false => exact ⟨1, _, _, _, _, hM_of (h_body_T l hL hIa dI dO dG (nI g0) (nI t) aN aB nS nP nR nG nO nU nT tP tR tO tN tF tZ mP mN fo x1 hx) rfl rfl (by decide), rM_of (c_RM_body_bad l hAR dI rC (nI t) rO rG rW rH rF rT rM rB (nI g0) tZ rA rE mN x1 (in_of _ hx in_router)) rfl rfl (by decide), rfl, fun h => absurd h (by decide), hm⟩
  | true =>
    obtain ⟨g, hg, rfl⟩ := router_ok hx
    exact ⟨0, _, _, _, _, hM_of (h_body l hL hIa dI dO dG (nI g0) (nI t) aN aB nS nP nR nG nO nU nT tP tR tO tN tF tZ mP mN fo g hg) rfl rfl (by decide), rM_of (c_RM_body l hAR dI rC (nI t) rO rG rW rH rF rT rM rB (nI g0) tZ rA rE mN g hg) rfl rfl (by decide), rfl, fun _ => by rw [pk_uLs, (hA4 g hg).2.1], hm⟩
set_option maxHeartbeats 4000000 in
set_option maxRecDepth 100000 in
theorem step_message {l : Launch} (hL : l.stackTraces = false) {D : va_G} {cI cL cZ : ClassId} {a a' : Nat → Nat} (hIa : aI a 20) (hIb : aI a' 11) {j : Nat} {v : CS} {r : RS} (h : Rel j v r) (hj : j < 600) (fo : Nat → Int64) (x1 : Int32) : ∃ (k : Int32) (v' : CS) (fo' : Nat → Int64) (bb : Int32) (r' : RS), hMet l D cI cL a yLW_message wsLW_message 4 [.ref (a 0), .int x1, .ref (a 19)] (v, fo) k (v', fo') ∧ rMet l D cI cZ a' yRM_message wsRM_message 2 [.ref (a' 0), .int x1] r (bb) r' ∧ codeR r' = k ∧ (k = 0 → fo' 0 = bb.toInt64) ∧ Rel (j + 1) v' r' := by
  obtain ⟨⟨dI, dO, dG, dN, dT⟩, ⟨aN, aB⟩, ⟨nS, nP, nR, nG, nO, nU, nT⟩, ⟨tP, tR, tO, tN, tF, tZ⟩, ⟨mP, mN⟩⟩ := v
  obtain ⟨⟨rI, rC, rN⟩, ⟨rO, rG⟩, ⟨rW, rH, rF, rT⟩, ⟨rM, rB, rX⟩, ⟨rQ, rA⟩, ⟨rE, rD⟩⟩ := r
  have hm := h.mono hj
  have hAR : ∀ u : RS, va_D (aS a' 11) (wR cI cZ a' u) := fun u => dS (wR_ad cI cZ a' u) hIb
  have hAC : ∀ u : CS, va_D (aS a 19) (wC cI cL a u) := fun u => dS (wC_ad cI cL a u) (hIa.le (by decide))
  obtain ⟨⟨e1, hI, hj0⟩, ⟨t, ⟨ht, hT1, hT2⟩, hPl, hOw⟩, hPo, ⟨hA1, ⟨g0, n0, hg0, hA2, hn0, hA3⟩, hA4⟩, hUn, ⟨hQ1, hQ2, hQ3, hQ4⟩, ⟨hM1, hM2⟩⟩ := id h
  subst e1 hT1 hT2 hA2 hA1 hQ1 hM2
  cases hx : fDB_isPart x1 with
  | false => exact ⟨1, _, _, _, _, hM_of (h_message_T1 l hL hIa dI dO dG (nI g0) (nI t) aN aB nS nP nR nG nO nU nT tP tR tO tN tF tZ mP mN fo x1 hx) rfl rfl (by decide), rM_of (c_RM_message_bad l hAR dI rC (nI t) rO rG rW rH rF rT rM rB (nI g0) tZ rA rE mN x1 (in_of _ hx in_part)) rfl rfl (by decide), rfl, fun h => absurd h (by decide), hm⟩
  | true =>
    obtain ⟨i, hi, rfl⟩ := part_ok hx
    cases hmd : fMS_isMade mP with
    | false =>
      have h0 : rE 0 = 0 := by
        rw [← hM1 0 (by decide)]
        unfold fMS_isMade at hmd
        split at hmd
        · assumption
        · cases hmd
      exact ⟨2, _, _, _, _, hM_of (h_message_T2 l hL hIa dI dO dG (nI g0) (nI t) aN aB nS nP nR nG nO nU nT tP tR tO tN tF tZ mP mN fo i hi hmd) rfl rfl (by decide), rM_of (c_RM_message l hAR dI rC (nI t) rO rG rW rH rF rT rM rB (nI g0) tZ rA rE mN i hi) rfl rfl (by decide), (by show (fRM_message rE i).2 = 2; unfold fRM_message; rw [if_pos h0]), fun h => absurd h (by decide), hm⟩
    | true =>
      have h0 : ¬ rE 0 = 0 := by
        rw [← hM1 0 (by decide)]
        unfold fMS_isMade at hmd
        split at hmd
        · cases hmd
        · assumption
      exact ⟨0, _, _, _, _, hM_of (h_message l hL hIa dI dO dG (nI g0) (nI t) aN aB nS nP nR nG nO nU nT tP tR tO tN tF tZ mP mN fo i hi hmd) rfl rfl (by decide), rM_of (c_RM_message l hAR dI rC (nI t) rO rG rW rH rF rT rM rB (nI g0) tZ rA rE mN i hi) rfl rfl (by decide), (by show (fRM_message rE i).2 = 0; unfold fRM_message; rw [if_neg h0]), fun _ => by rw [pk_uLs, hM1 i hi]; unfold fRM_message; rw [if_neg h0], hm⟩
set_option maxHeartbeats 4000000 in
set_option maxRecDepth 100000 in
theorem step_state {l : Launch} (hL : l.stackTraces = false) {D : va_G} {cI cL cZ : ClassId} {a a' : Nat → Nat} (hIa : aI a 20) (hIb : aI a' 11) {j : Nat} {v : CS} {r : RS} (h : Rel j v r) (hj : j < 600) (fo : Nat → Int64) (x1 : Int32) (x2 : Int32) : ∃ (k : Int32) (v' : CS) (fo' : Nat → Int64) (bb : Int32) (r' : RS), hMet l D cI cL a yLW_state wsLW_state 5 [.ref (a 0), .int x1, .int x2, .ref (a 19)] (v, fo) k (v', fo') ∧ rMet l D cI cZ a' yRM_state wsRM_state 4 [.ref (a' 0), .int x1, .int x2] r (bb) r' ∧ codeR r' = k ∧ (k = 0 → fo' 0 = bb.toInt64) ∧ Rel (j + 1) v' r' := by
  obtain ⟨⟨dI, dO, dG, dN, dT⟩, ⟨aN, aB⟩, ⟨nS, nP, nR, nG, nO, nU, nT⟩, ⟨tP, tR, tO, tN, tF, tZ⟩, ⟨mP, mN⟩⟩ := v
  obtain ⟨⟨rI, rC, rN⟩, ⟨rO, rG⟩, ⟨rW, rH, rF, rT⟩, ⟨rM, rB, rX⟩, ⟨rQ, rA⟩, ⟨rE, rD⟩⟩ := r
  have hm := h.mono hj
  have hAR : ∀ u : RS, va_D (aS a' 11) (wR cI cZ a' u) := fun u => dS (wR_ad cI cZ a' u) hIb
  have hAC : ∀ u : CS, va_D (aS a 19) (wC cI cL a u) := fun u => dS (wC_ad cI cL a u) (hIa.le (by decide))
  obtain ⟨⟨e1, hI, hj0⟩, ⟨t, ⟨ht, hT1, hT2⟩, hPl, hOw⟩, hPo, ⟨hA1, ⟨g0, n0, hg0, hA2, hn0, hA3⟩, hA4⟩, hUn, ⟨hQ1, hQ2, hQ3, hQ4⟩, ⟨hM1, hM2⟩⟩ := id h
  subst e1 hT1 hT2 hA2 hA1 hQ1 hM2
  cases hx : fDB_isPort x1 with
  | false => exact ⟨1, _, _, _, _, hM_of (h_state_T1 l hL hIa dI dO dG (nI g0) (nI t) aN aB nS nP nR nG nO nU nT tP tR tO tN tF tZ mP mN fo x1 x2 hx) rfl rfl (by decide), rM_of (c_RM_state_bad l hAR dI rC (nI t) rO rG rW rH rF rT rM rB (nI g0) tZ rA rE mN x1 x2 (fun h _ => absurd ((in_port h).symm.trans hx) (by decide))) rfl rfl (by decide), rfl, fun h => absurd h (by decide), hm⟩
  | true =>
    obtain ⟨q, hq, rfl⟩ := port_ok hx
    cases hy : fDB_isRouter x2 with
    | false => exact ⟨1, _, _, _, _, hM_of (h_state_T2 l hL hIa dI dO dG (nI g0) (nI t) aN aB nS nP nR nG nO nU nT tP tR tO tN tF tZ mP mN fo q x2 hq hy) rfl rfl (by decide), rM_of (c_RM_state_bad l hAR dI rC (nI t) rO rG rW rH rF rT rM rB (nI g0) tZ rA rE mN (nI q) x2 (fun _ h => absurd ((in_router h).symm.trans hy) (by decide))) rfl rfl (by decide), rfl, fun h => absurd h (by decide), hm⟩
    | true =>
      obtain ⟨o, ho, rfl⟩ := router_ok hy
      have e : fNB_standingOf nS nP nR (nI q) (nI o) = fRM_state rW rF q o := by
        unfold fNB_standingOf fRM_state
        rw [find_eq hPl hUn hq ho]
        cases hf : QRM_find_5 rW q o 16 0 none with
        | none => rfl
        | some k =>
          obtain ⟨hk, hw⟩ := fd_some hf
          obtain ⟨p, o', h', -, -, -, h1, -⟩ := place_heard (hPl k hk) (by rw [hw]; exact nI_pos (by omega))
          exact h1
      exact ⟨0, _, _, _, _, hM_of (h_state l hL hIa dI dO dG (nI g0) (nI t) aN aB nS nP nR nG nO nU nT tP tR tO tN tF tZ mP mN fo q o hq ho) rfl rfl (by decide), rM_of (c_RM_state l hAR dI rC (nI t) rO rG rW rH rF rT rM rB (nI g0) tZ rA rE mN q o hq ho) rfl rfl (by decide), rfl, fun _ => by rw [pk_uLs, e], hm⟩
