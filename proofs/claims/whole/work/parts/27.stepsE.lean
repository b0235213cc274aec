theorem due_n {rT : Nat → Int32} {j : Nat} : ∀ (n k m : Nat), QRM_due_53 rT j n k (nI m) = nI (m + dcnt (fun o => !decide (rT (64 * j + o) < 0)) n k) := by
  intro n
  induction n with
  | zero => intro k m; rfl
  | succ n ih =>
    intro k m
    simp only [QRM_due_53]
    show _ = nI (m + (cond (!decide (rT (64 * j + k) < 0)) 1 0 + dcnt _ n (k + 1)))
    by_cases h : rT (64 * j + k) < 0
    · rw [if_pos h, decide_eq_true h, Int32.add_zero, ih]; show nI (m + _) = nI (m + (0 + _)); rw [Nat.zero_add]
    · rw [if_neg h, decide_eq_false h, nI_1, ih]; show nI (m + 1 + _) = nI (m + (1 + _)); rw [Nat.add_assoc]
set_option maxHeartbeats 4000000 in
set_option maxRecDepth 100000 in
theorem step_due {l : Launch} (hL : l.stackTraces = false) {D : va_G} {cI cL cZ : ClassId} {a a' : Nat → Nat} (hIa : aI a 20) (hIb : aI a' 11) {j : Nat} {v : CS} {r : RS} (h : Rel j v r) (hj : j < 600) (fo : Nat → Int64) (x1 : Int32) (x2 : Int32) : ∃ (k : Int32) (v' : CS) (fo' : Nat → Int64) (bb : Int32) (r' : RS), hMet l D cI cL a yLW_due wsLW_due 5 [.ref (a 0), .int x1, .int x2, .ref (a 19)] (v, fo) k (v', fo') ∧ rMet l D cI cZ a' yRM_due wsRM_due 6 [.ref (a' 0), .int x1, .int x2] r (bb) r' ∧ codeR r' = k ∧ (k = 0 → fo' 0 = bb.toInt64) ∧ Rel (j + 1) v' r' := by
  obtain ⟨⟨dI, dO, dG, dN, dT⟩, ⟨aN, aB⟩, ⟨nS, nP, nR, nG, nO, nU, nT⟩, ⟨tP, tR, tO, tN, tF, tZ⟩, ⟨mP, mN⟩⟩ := v
  obtain ⟨⟨rI, rC, rN⟩, ⟨rO, rG⟩, ⟨rW, rH, rF, rT⟩, ⟨rM, rB, rX⟩, ⟨rQ, rA⟩, ⟨rE, rD⟩⟩ := r
  have hm := h.mono hj
  have hAR : ∀ u : RS, va_D (aS a' 11) (wR cI cZ a' u) := fun u => dS (wR_ad cI cZ a' u) hIb
  have hAC : ∀ u : CS, va_D (aS a 19) (wC cI cL a u) := fun u => dS (wC_ad cI cL a u) (hIa.le (by decide))
  obtain ⟨⟨e1, hI, hj0⟩, ⟨t, ⟨ht, hT1, hT2⟩, hPl, hOw⟩, hPo, ⟨hA1, ⟨g0, n0, hg0, hA2, hn0, hA3⟩, hA4⟩, hUn, ⟨hQ1, hQ2, hQ3, hQ4⟩, ⟨hM1, hM2⟩⟩ := id h
  subst e1 hT1 hT2 hA2 hA1 hQ1 hM2
  cases hx : fDB_isPort x1 with
  | false => exact ⟨1, _, _, _, _, hM_of (h_due_T1 l hL hIa dI dO dG (nI g0) (nI t) aN aB nS nP nR nG nO nU nT tP tR tO tN tF tZ mP mN fo x1 x2 hx) rfl rfl (by decide), rM_of (c_RM_due_bad l hAR dI rC (nI t) rO rG rW rH rF rT rM rB (nI g0) tZ rA rE mN x1 x2 (fun h _ => absurd ((in_port h).symm.trans hx) (by decide))) rfl rfl (by decide), rfl, fun h => absurd h (by decide), hm⟩
  | true =>
    obtain ⟨q, hq, rfl⟩ := port_ok hx
    cases hy : fDB_isRouter x2 with
    | false => exact ⟨1, _, _, _, _, hM_of (h_due_T2 l hL hIa dI dO dG (nI g0) (nI t) aN aB nS nP nR nG nO nU nT tP tR tO tN tF tZ mP mN fo q x2 hq hy) rfl rfl (by decide), rM_of (c_RM_due_bad l hAR dI rC (nI t) rO rG rW rH rF rT rM rB (nI g0) tZ rA rE mN (nI q) x2 (fun _ h => absurd ((in_router h).symm.trans hy) (by decide))) rfl rfl (by decide), rfl, fun h => absurd h (by decide), hm⟩
    | true =>
      obtain ⟨o, ho, rfl⟩ := router_ok hy
      have e : fNB_owedTo nS nP nR nO (nI q) (nI o) = fRM_due rW rT q o := by
        unfold fNB_owedTo fRM_due
        rw [find_eq hPl hUn hq ho]
        cases hf : QRM_find_5 rW q o 16 0 none with
        | none => rfl
        | some k =>
          obtain ⟨hk, hw⟩ := fd_some hf
          show bcN (nO k) = QRM_due_53 rT k 64 0 (nI 0)
          rw [bcN_eq, due_n, Nat.zero_add]
          refine congrArg nI (dcnt_cong 64 0 (fun i _ hi => ?_))
          have h1 := owe_b (hOw k hk i (by omega)).1 ht
          cases hb : btL (nO k) i
          · rw [hb] at h1
            rw [decide_eq_true (Classical.not_not.mp (fun z => absurd (h1.mpr z) (by decide)))]; rfl
          · rw [hb] at h1
            rw [decide_eq_false (h1.mp rfl)]; rfl
      exact ⟨0, _, _, _, _, hM_of (h_due l hL hIa dI dO dG (nI g0) (nI t) aN aB nS nP nR nG nO nU nT tP tR tO tN tF tZ mP mN fo q o hq ho) rfl rfl (by decide), rM_of (c_RM_due l hAR dI rC (nI t) rO rG rW rH rF rT rM rB (nI g0) tZ rA rE mN q o hq ho) rfl rfl (by decide), rfl, fun _ => by rw [pk_uLs, e], hm⟩
