set_option maxHeartbeats 4000000 in
set_option maxRecDepth 100000 in
theorem step_thanks {l : Launch} (hL : l.stackTraces = false) {D : va_G} {cI cL cZ : ClassId} {a a' : Nat → Nat} (hIa : aI a 20) (hIb : aI a' 11) {j : Nat} {v : CS} {r : RS} (h : Rel j v r) (hj : j < 600) (fo : Nat → Int64) (x1 : Int32) (x2 : Int32) (x3 : Int32) (x4 : Int32) : ∃ (k : Int32) (v' : CS) (fo' : Nat → Int64) (bb : Bool) (r' : RS), hMet l D cI cL a yLW_thanks wsLW_thanks 7 [.ref (a 0), .int x1, .int x2, .int x3, .int x4, .ref (a 19)] (v, fo) k (v', fo') ∧ rMet l D cI cZ a' yRM_thanks wsRM_thanks 7 [.ref (a' 0), .int x1, .int x2, .int x3, .int x4] r (bi bb) r' ∧ codeR r' = k ∧ (k = 0 → fo' 0 = cond bb 1 0) ∧ Rel (j + 1) v' r' := by
  obtain ⟨⟨dI, dO, dG, dN, dT⟩, ⟨aN, aB⟩, ⟨nS, nP, nR, nG, nO, nU, nT⟩, ⟨tP, tR, tO, tN, tF, tZ⟩, ⟨mP, mN⟩⟩ := v
  obtain ⟨⟨rI, rC, rN⟩, ⟨rO, rG⟩, ⟨rW, rH, rF, rT⟩, ⟨rM, rB, rX⟩, ⟨rQ, rA⟩, ⟨rE, rD⟩⟩ := r
  have hm := h.mono hj
  have hAR : ∀ u : RS, va_D (aS a' 11) (wR cI cZ a' u) := fun u => dS (wR_ad cI cZ a' u) hIb
  have hAC : ∀ u : CS, va_D (aS a 19) (wC cI cL a u) := fun u => dS (wC_ad cI cL a u) (hIa.le (by decide))
  obtain ⟨⟨e1, hI, hj0⟩, ⟨t, ⟨ht, hT1, hT2⟩, hPl, hOw⟩, hPo, ⟨hA1, ⟨g0, n0, hg0, hA2, hn0, hA3⟩, hA4⟩, hUn, ⟨hQ1, hQ2, hQ3, hQ4⟩, ⟨hM1, hM2⟩⟩ := id h
  subst e1 hT1 hT2 hA2 hA1 hQ1 hM2
  have rb : (fRM_in x1 0 7 = true → fRM_in x2 0 63 = true → ¬ x2 = nI dI → False) → rMet l D cI cZ a' yRM_thanks wsRM_thanks 7 [.ref (a' 0), .int x1, .int x2, .int x3, .int x4] ((dI, rC, nI t), (rO, rG), (rW, rH, rF, rT), (rM, rB, nI g0), (tZ, rA), (rE, mN)) (bi false) ((dI, 1, nI t), (rO, rG), (rW, rH, rF, rT), (rM, rB, nI g0), (tZ, rA), (rE, mN)) := by
    intro hbad
    by_cases hA : fRM_in x3 0 63 = true ∧ fRM_in x4 1 1000000000 = true
    · obtain ⟨g, hg, rfl⟩ := router_ok (in_router hA.1)
      obtain ⟨n1, n2⟩ := num_ok (in_num hA.2)
      exact rM_of (c_RM_thanks_badB l hAR dI rC (nI t) rO rG rW rH rF rT rM rB (nI g0) tZ rA rE mN x1 x2 g x4 hg n1 n2 hbad) rfl rfl (by decide)
    · exact rM_of (c_RM_thanks_badA l hAR dI rC (nI t) rO rG rW rH rF rT rM rB (nI g0) tZ rA rE mN x1 x2 x3 x4 (fun h1 h2 => hA ⟨h1, h2⟩)) rfl rfl (by decide)
  cases hx : fDB_isPort x1 with
  | false => exact ⟨1, _, _, _, _, hM_of (h_thanks_T1 l hL hIa dI dO dG (nI g0) (nI t) aN aB nS nP nR nG nO nU nT tP tR tO tN tF tZ mP mN fo x1 x2 x3 x4 hx) rfl rfl (by decide), rb (fun h _ _ => absurd ((in_port h).symm.trans hx) (by decide)), rfl, fun h => absurd h (by decide), hm⟩
  | true =>
    obtain ⟨q, hq, rfl⟩ := port_ok hx
    by_cases hs : fDB_isRouter x2 = true ∧ ¬ x2 = nI dI
    · obtain ⟨o, ho, rfl⟩ := router_ok hs.1
      have hne : ¬ o = dI := fun e => hs.2 (by rw [e])
      cases hy : fDB_isRouter x3 with
      | false => exact ⟨1, _, _, _, _, hM_of (h_thanks_T3 l hL hIa dI dO dG (nI g0) (nI t) aN aB nS nP nR nG nO nU nT tP tR tO tN tF tZ mP mN fo q o x3 x4 hq ho hne hI hy) rfl rfl (by decide), rM_of (c_RM_thanks_badA l hAR dI rC (nI t) rO rG rW rH rF rT rM rB (nI g0) tZ rA rE mN (nI q) (nI o) x3 x4 (fun h1 _ => absurd ((in_router h1).symm.trans hy) (by decide))) rfl rfl (by decide), rfl, fun h => absurd h (by decide), hm⟩
      | true =>
        obtain ⟨g, hg, rfl⟩ := router_ok hy
        cases hn : fDB_isNum x4 with
        | false => exact ⟨1, _, _, _, _, hM_of (h_thanks_T4 l hL hIa dI dO dG (nI g0) (nI t) aN aB nS nP nR nG nO nU nT tP tR tO tN tF tZ mP mN fo q o g x4 hq ho hne hI hg hn) rfl rfl (by decide), rM_of (c_RM_thanks_badA l hAR dI rC (nI t) rO rG rW rH rF rT rM rB (nI g0) tZ rA rE mN (nI q) (nI o) (nI g) x4 (fun _ h1 => absurd ((in_num h1).symm.trans hn) (by decide))) rfl rfl (by decide), rfl, fun h => absurd h (by decide), hm⟩
        | true =>
          obtain ⟨n1, n2⟩ := num_ok hn
          obtain ⟨p1, -, -⟩ := hPo q hq
          cases hon : rO q with
          | false => exact ⟨2, _, _, _, _, hM_of (h_thanks_T5 l hL hIa dI dO dG (nI g0) (nI t) aN aB nS nP nR nG nO nU nT tP tR tO tN tF tZ mP mN fo q o g x4 hq ho hne hI hg n1 n2 (p1.trans hon)) rfl rfl (by decide), rM_of (c_RM_thanks_off l hAR dI rC (nI t) rO rG rW rH rF rT rM rB (nI g0) tZ rA rE mN q o g x4 hg n1 n2 hq ho hI hne hon) rfl rfl (by decide), wrong_off hon, fun h => absurd h (by decide), hm⟩
          | true =>
            have M1 := h_thanks l hL hIa (D := D) (cI := cI) (cL := cL) dI dO dG (nI g0) (nI t) aN aB nS nP nR nG nO nU nT tP tR tO tN tF tZ mP mN fo q o g x4 hq ho hne hI hg n1 n2 (p1.trans hon)
            have M2 := c_RM_thanks l hAR (D := D) (cI := cI) (cZ := cZ) dI rC (nI t) rO rG rW rH rF rT rM rB (nI g0) tZ rA rE mN q o g x4 hq ho hI hne hg n1 n2 hon
            have ef := friendP_eq hPl hUn hq ho
            cases hf : QRM_find_5 rW q o 16 0 none with
            | none =>
              rw [hf] at ef
              have e1 : fDB_thanks aN nS nP nR nO nU q o g x4 = (false, nO, nU) := by unfold fDB_thanks; rw [ef]
              have e2 : fRM_thanks rW rT rM q o g x4 = (false, rT) := by unfold fRM_thanks; rw [hf]
              rw [e1] at M1; rw [e2] at M2
              exact ⟨0, _, _, _, _, hM_of M1 rfl rfl (by decide), rM_of M2 rfl rfl (by decide), wrong_ok hon, fun _ => by rw [pk_uLs], hm⟩
            | some k =>
              rw [hf] at ef
              obtain ⟨hk, hw⟩ := fd_some hf
              obtain ⟨h1, h2⟩ := hOw k hk g hg
              cases hF : rF k with
              | false =>
                have e1 : fDB_thanks aN nS nP nR nO nU q o g x4 = (false, nO, nU) := by unfold fDB_thanks; rw [ef]; show (match cond (rF k) (some k) none with | none => _ | some k1 => _) = _; rw [hF]; rfl
                have e2 : fRM_thanks rW rT rM q o g x4 = (false, if x4 = rM g then upd rT (64 * k + g) (-1) else rT) := by
                  unfold fRM_thanks; rw [hf]
                  show (if x4 = rM g then (if rT (64 * k + g) < 0 then _ else _) else _) = _
                  rw [if_pos (h2 (Or.inl hF))]
                  split <;> rfl
                rw [e1] at M1; rw [e2] at M2
                refine ⟨0, _, _, _, _, hM_of M1 rfl rfl (by decide), rM_of M2 rfl rfl (by decide), wrong_ok hon, fun _ => by rw [pk_uLs], ?_⟩
                refine ⟨⟨rfl, hI, by omega⟩, ⟨t, ⟨ht, rfl, rfl⟩, hPl, fun i hi o' ho' => ?_⟩, hPo, ⟨rfl, ⟨g0, n0, by omega, rfl, hn0, hA3⟩, hA4⟩, hUn, ⟨rfl, hQ2, hQ3, hQ4⟩, ⟨hM1, rfl⟩⟩
                dsimp only
                by_cases hx4 : x4 = rM g
                · rw [if_pos hx4]
                  by_cases hi2 : i = k ∧ o' = g
                  · obtain ⟨rfl, rfl⟩ := hi2
                    rw [pk_us]
                    refine ⟨owe_set m1_neg ?_, fun _ => m1_neg⟩
                    cases hb : btL (nO i) o'
                    · rfl
                    · rw [hb] at h1; exact absurd (h2 (Or.inl hF)) ((owe_b h1 ht).mp rfl)
                  · rw [pk_un (by omega)]; exact hOw i hi o' ho'
                · rw [if_neg hx4]; exact hOw i hi o' ho'
              | true =>
                by_cases hx4 : x4 = rM g
                · have e1 : fDB_thanks aN nS nP nR nO nU q o g x4 = (fNB_settle nO k g, vp_updL nO k (nO k &&& (bL g ^^^ (-1))), vp_updL nU k (nU k &&& (bL g ^^^ (-1)))) := by
                    unfold fDB_thanks; rw [ef]; show (match cond (rF k) (some k) none with | none => _ | some k1 => _) = _; rw [hF]
                    exact if_pos (hx4.trans (hA4 g hg).1.symm)
                  have e2 : fRM_thanks rW rT rM q o g x4 = (btL (nO k) g, upd rT (64 * k + g) (-1)) := by
                    unfold fRM_thanks; rw [hf]
                    show (if x4 = rM g then (if rT (64 * k + g) < 0 then _ else _) else _) = _
                    rw [if_pos hx4]
                    cases hb : btL (nO k) g
                    · rw [hb] at h1
                      have : rT (64 * k + g) < 0 := Classical.not_not.mp (fun z => absurd ((owe_b h1 ht).mpr z) (by decide))
                      rw [if_pos this]
                    · rw [hb] at h1; rw [if_neg ((owe_b h1 ht).mp rfl)]
                  rw [e1] at M1; rw [e2] at M2
                  refine ⟨0, _, _, _, _, hM_of M1 rfl rfl (by decide), rM_of M2 rfl rfl (by decide), wrong_ok hon, fun _ => by rw [pk_uLs, settle_bt hg], ?_⟩
                  exact ⟨⟨rfl, hI, by omega⟩, ⟨t, ⟨ht, rfl, rfl⟩, hPl, ow_settle hOw hk hg⟩, hPo, ⟨rfl, ⟨g0, n0, by omega, rfl, hn0, hA3⟩, hA4⟩, hUn, ⟨rfl, hQ2, hQ3, hQ4⟩, ⟨hM1, rfl⟩⟩
                · have e1 : fDB_thanks aN nS nP nR nO nU q o g x4 = (false, nO, nU) := by
                    unfold fDB_thanks; rw [ef]; show (match cond (rF k) (some k) none with | none => _ | some k1 => _) = _; rw [hF]
                    exact if_neg (fun z => hx4 (z.trans (hA4 g hg).1))
                  have e2 : fRM_thanks rW rT rM q o g x4 = (false, rT) := by unfold fRM_thanks; rw [hf]; exact if_neg hx4
                  rw [e1] at M1; rw [e2] at M2
                  exact ⟨0, _, _, _, _, hM_of M1 rfl rfl (by decide), rM_of M2 rfl rfl (by decide), wrong_ok hon, fun _ => by rw [pk_uLs], hm⟩
    · exact ⟨1, _, _, _, _, hM_of (h_thanks_T2 l hL hIa dI dO dG (nI g0) (nI t) aN aB nS nP nR nG nO nU nT tP tR tO tN tF tZ mP mN fo q x2 x3 x4 hq (fun h1 h2 => hs ⟨h1, h2⟩)) rfl rfl (by decide), rb (fun _ h2 h3 => hs ⟨in_router h2, h3⟩), rfl, fun h => absurd h (by decide), hm⟩
theorem greet_rel {t : Nat} {rO : Nat → Bool} {nS nP nR nG rW rH : Nat → Int32} {nO nU : Nat → Int64} {aN nT : Nat → Int32} {rF : Nat → Bool} {rM rT : Nat → Int32} {k q o : Nat} (b : Bool) (hk : k < 16) (hq : q < 8) (ho : o < 64) (hA : ∀ o, o < 64 → aN o = rM o ∧ 0 ≤ rM o) (hPl : ∀ i, i < 16 → i ≠ k → rPlace t rO nS nP nR nG rW rH rF i) (hOw : rOwe t nO nU nT rF rM rT) (h1 : nS k = cond (rF k) 2 1) (h2 : nP k = nI q) (h3 : nR k = nI o) (h4 : rW k = nI (64 * q + o)) (h5 : rO q = true) :
    (fNB_greeted nS nO nU k b (LAD_allOrigins aN 64 0 0)).1 = cond b 2 1 ∧ (∀ i, i < 16 → rPlace t rO (fNB_greeted nS nO nU k b (LAD_allOrigins aN 64 0 0)).2.1 nP nR (upd nG k (nI t)) rW (upd rH k (nI t)) (updB rF k b) i) ∧ rOwe t (fNB_greeted nS nO nU k b (LAD_allOrigins aN 64 0 0)).2.2.1 (fNB_greeted nS nO nU k b (LAD_allOrigins aN 64 0 0)).2.2.2 nT (updB rF k b) rM (QRM_greeting_107 (nI t) rF rM b k 64 0 rT) := by
  have other : ∀ (nS' : Nat → Int32), (∀ i, i ≠ k → nS' i = nS i) → nS' k = cond b 2 1 → ∀ i, i < 16 → rPlace t rO nS' nP nR (upd nG k (nI t)) rW (upd rH k (nI t)) (updB rF k b) i := by
    intro nS' g1 g2 i hi
    by_cases hik : i = k
    · subst hik
      exact Or.inr ⟨q, o, t, hq, ho, Nat.le_refl t, by rw [g2, updB_s], h2, h3, h4, h5, pk_us, pk_us⟩
    · rcases hPl i hi hik with ⟨a1, a2, a3⟩ | ⟨p, o', h', hp, ho', hh, a1, a2, a3, a4, a5, a6, a7⟩
      · exact Or.inl ⟨by rw [g1 i hik]; exact a1, a2, by rw [updB_n hik]; exact a3⟩
      · exact Or.inr ⟨p, o', h', hp, ho', hh, by rw [g1 i hik, updB_n hik]; exact a1, a2, a3, a4, a5, by rw [pk_un hik]; exact a6, by rw [pk_un hik]; exact a7⟩
  have g7 : ∀ i o', o' < 64 → QRM_greeting_107 (nI t) rF rM b k 64 0 rT (64 * i + o') = if i = k then cond b (cond (rF k) (rT (64 * i + o')) (if rM o' ≤ 0 then rT (64 * i + o') else nI t)) (-1) else rT (64 * i + o') := by
    intro i o' ho'
    rw [g107_at 64 0 rT i o' (by omega) ho']
    by_cases hik : i = k
    · rw [if_pos (show i = k ∧ 0 ≤ o' ∧ o' < 0 + 64 by omega), if_pos hik]
    · rw [if_neg (show ¬ (i = k ∧ 0 ≤ o' ∧ o' < 0 + 64) by omega), if_neg hik]
  have rest : ∀ (nO' nU' : Nat → Int64), (∀ i, i ≠ k → nO' i = nO i ∧ nU' i = nU i) → (∀ o', o' < 64 → rOwe1 t (btL (nO' k) o') (btL (nU' k) o') (nT (k * 64 + o')) (QRM_greeting_107 (nI t) rF rM b k 64 0 rT (64 * k + o')) ∧ ((b = false ∨ rM o' = 0) → QRM_greeting_107 (nI t) rF rM b k 64 0 rT (64 * k + o') < 0)) → rOwe t nO' nU' nT (updB rF k b) rM (QRM_greeting_107 (nI t) rF rM b k 64 0 rT) := by
    intro nO' nU' g1 g2 i hi o' ho'
    by_cases hik : i = k
    · subst hik; rw [updB_s]; exact g2 o' ho'
    · rw [(g1 i hik).1, (g1 i hik).2, updB_n hik, g7 i o' ho', if_neg hik]; exact hOw i hi o' ho'
  cases b with
  | false =>
    have e : fNB_greeted nS nO nU k false (LAD_allOrigins aN 64 0 0) = (upd nS k 1 k, upd nS k 1, vp_updL nO k 0, vp_updL nU k 0) := rfl
    rw [e]
    refine ⟨pk_us, other _ (fun i hik => pk_un hik) pk_us, rest _ _ (fun i hik => ⟨pk_uLn hik, pk_uLn hik⟩) (fun o' ho' => ?_)⟩
    dsimp only
    rw [pk_uLs, pk_uLs, g7 k o' ho', if_pos rfl]
    exact ⟨owe_set m1_neg (l_0 o'), fun _ => m1_neg⟩
  | true =>
    cases hF : rF k with
    | true =>
      have hS2 : nS k = 2 := by rw [h1, hF]; rfl
      have e : fNB_greeted nS nO nU k true (LAD_allOrigins aN 64 0 0) = (nS k, nS, nO, nU) := if_pos hS2
      rw [e]
      refine ⟨hS2, other _ (fun i hik => rfl) hS2, rest _ _ (fun i hik => ⟨rfl, rfl⟩) (fun o' ho' => ?_)⟩
      obtain ⟨a1, a2⟩ := hOw k hk o' ho'
      rw [g7 k o' ho', if_pos rfl, hF]
      exact ⟨a1, fun h => a2 (Or.inr (h.resolve_left (by decide)))⟩
    | false =>
      have hS1 : nS k = 1 := by rw [h1, hF]; rfl
      have e : fNB_greeted nS nO nU k true (LAD_allOrigins aN 64 0 0) = (upd nS k 2 k, upd nS k 2, vp_updL nO k (LAD_allOrigins aN 64 0 0), vp_updL nU k (LAD_allOrigins aN 64 0 0)) := if_neg (by rw [hS1]; decide)
      rw [e]
      refine ⟨pk_us, other _ (fun i hik => pk_un hik) pk_us, rest _ _ (fun i hik => ⟨pk_uLn hik, pk_uLn hik⟩) (fun o' ho' => ?_)⟩
      obtain ⟨a1, a2⟩ := hOw k hk o' ho'
      obtain ⟨b1, b2⟩ := hA o' ho'
      dsimp only
      rw [pk_uLs, pk_uLs, g7 k o' ho', if_pos rfl, hF, allO_at 64 0 0 o' (by omega) ho', l_0, Bool.false_or, decide_eq_true (show 0 ≤ o' ∧ o' < 0 + 64 by omega), Bool.true_and, b1]
      by_cases h0 : rM o' = 0
      · rw [decide_eq_true h0, h0]
        simp only [cond_true, cond_false]
        rw [if_pos (show (0 : Int32) ≤ 0 by decide)]
        exact ⟨owe_set (a2 (Or.inl hF)) rfl, fun _ => a2 (Or.inl hF)⟩
      · rw [decide_eq_false h0]
        simp only [cond_true, cond_false]
        rw [if_neg (fun z => h0 (Int32.le_antisymm z b2))]
        exact ⟨owe_now rfl rfl, fun h => by rcases h with h | h; cases h; exact absurd h h0⟩
set_option maxHeartbeats 4000000 in
set_option maxRecDepth 100000 in
theorem step_greeting {l : Launch} (hL : l.stackTraces = false) {D : va_G} {cI cL cZ : ClassId} {a a' : Nat → Nat} (hIa : aI a 20) (hIb : aI a' 11) {j : Nat} {v : CS} {r : RS} (h : Rel j v r) (hj : j < 600) (fo : Nat → Int64) (x1 : Int32) (x2 : Int32) (x3 : Bool) : ∃ (k : Int32) (v' : CS) (fo' : Nat → Int64) (bb : Int32) (r' : RS), hMet l D cI cL a yLW_greeting wsLW_greeting 6 [.ref (a 0), .int x1, .int x2, .int (bi x3), .ref (a 19)] (v, fo) k (v', fo') ∧ rMet l D cI cZ a' yRM_greeting wsRM_greeting 7 [.ref (a' 0), .int x1, .int x2, .int (bi x3)] r (bb) r' ∧ codeR r' = k ∧ (k = 0 → fo' 0 = bb.toInt64) ∧ Rel (j + 1) v' r' := by
  obtain ⟨⟨dI, dO, dG, dN, dT⟩, ⟨aN, aB⟩, ⟨nS, nP, nR, nG, nO, nU, nT⟩, ⟨tP, tR, tO, tN, tF, tZ⟩, ⟨mP, mN⟩⟩ := v
  obtain ⟨⟨rI, rC, rN⟩, ⟨rO, rG⟩, ⟨rW, rH, rF, rT⟩, ⟨rM, rB, rX⟩, ⟨rQ, rA⟩, ⟨rE, rD⟩⟩ := r
  have hm := h.mono hj
  have hAR : ∀ u : RS, va_D (aS a' 11) (wR cI cZ a' u) := fun u => dS (wR_ad cI cZ a' u) hIb
  have hAC : ∀ u : CS, va_D (aS a 19) (wC cI cL a u) := fun u => dS (wC_ad cI cL a u) (hIa.le (by decide))
  obtain ⟨⟨e1, hI, hj0⟩, ⟨t, ⟨ht, hT1, hT2⟩, hPl, hOw⟩, hPo, ⟨hA1, ⟨g0, n0, hg0, hA2, hn0, hA3⟩, hA4⟩, hUn, ⟨hQ1, hQ2, hQ3, hQ4⟩, ⟨hM1, hM2⟩⟩ := id h
  subst e1 hT1 hT2 hA2 hA1 hQ1 hM2
  cases hx : fDB_isPort x1 with
  | false => exact ⟨1, _, _, _, _, hM_of (h_greeting_T1 l hL hIa dI dO dG (nI g0) (nI t) aN aB nS nP nR nG nO nU nT tP tR tO tN tF tZ mP mN fo x1 x2 x3 hx) rfl rfl (by decide), rM_of (c_RM_greeting_bad l hAR dI rC (nI t) rO rG rW rH rF rT rM rB (nI g0) tZ rA rE mN x1 x2 x3 (fun h _ _ => absurd ((in_port h).symm.trans hx) (by decide))) rfl rfl (by decide), rfl, fun h => absurd h (by decide), hm⟩
  | true =>
    obtain ⟨q, hq, rfl⟩ := port_ok hx
    by_cases hs : fDB_isRouter x2 = true ∧ ¬ x2 = nI dI
    · obtain ⟨o, ho, rfl⟩ := router_ok hs.1
      have hne : ¬ o = dI := fun e => hs.2 (by rw [e])
      obtain ⟨p1, -, -⟩ := hPo q hq
      cases hon : rO q with
      | false => exact ⟨2, _, _, _, _, hM_of (h_greeting_T3 l hL hIa dI dO dG (nI g0) (nI t) aN aB nS nP nR nG nO nU nT tP tR tO tN tF tZ mP mN fo q o x3 hq ho hne hI (p1.trans hon)) rfl rfl (by decide), rM_of (c_RM_greeting_off l hAR dI rC (nI t) rO rG rW rH rF rT rM rB (nI g0) tZ rA rE mN q o x3 hq ho hI hne hon) rfl rfl (by decide), wrong_off hon, fun h => absurd h (by decide), hm⟩
      | true =>
        have M1 := h_greeting l hL hIa (D := D) (cI := cI) (cL := cL) dI dO dG (nI g0) (nI t) aN aB nS nP nR nG nO nU nT tP tR tO tN tF tZ mP mN fo q o x3 hq ho hne hI (p1.trans hon)
        have M2 := c_RM_greeting l hAR (D := D) (cI := cI) (cZ := cZ) dI rC (nI t) rO rG rW rH rF rT rM rB (nI g0) tZ rA rE mN q o x3 hq ho hI hne hon
        have hA : ∀ o, o < 64 → aN o = rM o ∧ 0 ≤ rM o := fun o ho => ⟨(hA4 o ho).1, (hA4 o ho).2.2.1⟩
        have ef := find_eq hPl hUn hq ho
        cases hf : QRM_find_5 rW q o 16 0 none with
        | some k =>
          rw [hf] at ef
          obtain ⟨hk, hw⟩ := fd_some hf
          have e0 : fNB_placeFor nS nP nR (nI q) (nI o) = (some k, nS, nP, nR) := by unfold fNB_placeFor; rw [ef]
          have e1 : fDB_greeting (nI t) aN nS nP nR nG nO nU q o x3 = ((fNB_greeted nS nO nU k x3 (LAD_allOrigins aN 64 0 0)).1, (fNB_greeted nS nO nU k x3 (LAD_allOrigins aN 64 0 0)).2.1, upd nG k (nI t), (fNB_greeted nS nO nU k x3 (LAD_allOrigins aN 64 0 0)).2.2.1, (fNB_greeted nS nO nU k x3 (LAD_allOrigins aN 64 0 0)).2.2.2) := by unfold fDB_greeting; rw [e0]
          have e2 : fRM_greeting (nI t) rW rH rF rT rM q o x3 = (cond x3 2 1, rW, upd rH k (nI t), updB rF k x3, QRM_greeting_107 (nI t) rF rM x3 k 64 0 rT) := by unfold fRM_greeting; rw [hf]; cases x3 <;> rfl
          rw [e0, e1] at M1; rw [e2] at M2
          obtain ⟨p, o', h', hp, ho', hh, a1, a2, a3, a4, a5, -⟩ := place_heard (hPl k hk) (by rw [hw]; exact nI_pos (by omega))
          have epo : p = q ∧ o' = o := by
            have := a4.symm.trans hw
            rw [nI_eq (by omega) (by omega)] at this
            omega
          obtain ⟨rfl, rfl⟩ := epo
          obtain ⟨d1, d2, d3⟩ := greet_rel (nG := nG) (rH := rH) (nU := nU) (nT := nT) (rT := rT) x3 hk hq ho hA (fun i hi _ => hPl i hi) hOw a1 a2 a3 hw hon
          refine ⟨0, _, _, _, _, hM_of M1 rfl rfl (by decide), rM_of M2 rfl rfl (by decide), wrong_ok hon, fun _ => by rw [pk_uLs]; dsimp only; rw [d1], ?_⟩
          exact ⟨⟨rfl, hI, by omega⟩, ⟨t, ⟨ht, rfl, rfl⟩, d2, d3⟩, hPo, ⟨rfl, ⟨g0, n0, by omega, rfl, hn0, hA3⟩, hA4⟩, hUn, ⟨rfl, hQ2, hQ3, hQ4⟩, ⟨hM1, rfl⟩⟩
        | none =>
          rw [hf] at ef
          have hnone := fd_none hf
          rcases free_eq hPl (nI q) (nI o) with ⟨f1, f2⟩ | ⟨k, hk, hS0, f1, f2⟩
          · have e0 : fNB_placeFor nS nP nR (nI q) (nI o) = (none, nS, nP, nR) := by unfold fNB_placeFor; rw [ef, f1]
            have e1 : fDB_greeting (nI t) aN nS nP nR nG nO nU q o x3 = (0, nS, nG, nO, nU) := by unfold fDB_greeting; rw [e0]
            have e2 : fRM_greeting (nI t) rW rH rF rT rM q o x3 = (0, rW, rH, rF, rT) := by unfold fRM_greeting; rw [hf, f2]
            rw [e0, e1] at M1; rw [e2] at M2
            exact ⟨0, _, _, _, _, hM_of M1 rfl rfl (by decide), rM_of M2 rfl rfl (by decide), wrong_ok hon, fun _ => by rw [pk_uLs], hm⟩
          · have e0 : fNB_placeFor nS nP nR (nI q) (nI o) = (some k, upd nS k 1, upd nP k (nI q), upd nR k (nI o)) := by unfold fNB_placeFor; rw [ef, f1]
            have e1 : fDB_greeting (nI t) aN nS nP nR nG nO nU q o x3 = ((fNB_greeted (upd nS k 1) nO nU k x3 (LAD_allOrigins aN 64 0 0)).1, (fNB_greeted (upd nS k 1) nO nU k x3 (LAD_allOrigins aN 64 0 0)).2.1, upd nG k (nI t), (fNB_greeted (upd nS k 1) nO nU k x3 (LAD_allOrigins aN 64 0 0)).2.2.1, (fNB_greeted (upd nS k 1) nO nU k x3 (LAD_allOrigins aN 64 0 0)).2.2.2) := by unfold fDB_greeting; rw [e0]
            have e2 : fRM_greeting (nI t) rW rH rF rT rM q o x3 = (cond x3 2 1, upd rW k (nI (64 * q + o)), upd rH k (nI t), updB rF k x3, QRM_greeting_107 (nI t) rF rM x3 k 64 0 rT) := by unfold fRM_greeting; rw [hf, f2]; cases x3 <;> rfl
            rw [e0, e1] at M1; rw [e2] at M2
            have hF0 : rF k = false := by
              rcases hPl k hk with ⟨-, -, z⟩ | ⟨p, o', h', -, -, -, z, -⟩
              · exact z
              · rw [hS0] at z; exact absurd z.symm (by cases rF k <;> decide)
            obtain ⟨d1, d2, d3⟩ := greet_rel (t := t) (rO := rO) (nS := upd nS k 1) (nP := upd nP k (nI q)) (nR := upd nR k (nI o)) (nG := nG) (rW := upd rW k (nI (64 * q + o))) (rH := rH) (nU := nU) (nT := nT) (rT := rT) x3 hk hq ho hA (fun i hi hik => by
              rcases hPl i hi with ⟨a1, a2, a3⟩ | ⟨p, o', h', hp, ho', hh, a1, a2, a3, a4, a5⟩
              · exact Or.inl ⟨by rw [pk_un hik]; exact a1, by rw [pk_un hik]; exact a2, a3⟩
              · exact Or.inr ⟨p, o', h', hp, ho', hh, by rw [pk_un hik]; exact a1, by rw [pk_un hik]; exact a2, by rw [pk_un hik]; exact a3, by rw [pk_un hik]; exact a4, a5⟩) hOw (by rw [pk_us, hF0]; rfl) pk_us pk_us pk_us hon
            refine ⟨0, _, _, _, _, hM_of M1 rfl rfl (by decide), rM_of M2 rfl rfl (by decide), wrong_ok hon, fun _ => by rw [pk_uLs]; dsimp only; rw [d1], ?_⟩
            refine ⟨⟨rfl, hI, by omega⟩, ⟨t, ⟨ht, rfl, rfl⟩, d2, d3⟩, hPo, ⟨rfl, ⟨g0, n0, by omega, rfl, hn0, hA3⟩, hA4⟩, fun i i' hi hi' w1 w2 => ?_, ⟨rfl, hQ2, hQ3, hQ4⟩, ⟨hM1, rfl⟩⟩
            dsimp only at w1 w2
            by_cases c1 : i = k
            · by_cases c2 : i' = k
              · rw [c1, c2]
              · rw [c1, pk_us, pk_un c2] at w2; exact absurd w2.symm (hnone i' hi')
            · by_cases c2 : i' = k
              · rw [c2, pk_us, pk_un c1] at w2; exact absurd w2 (hnone i hi)
              · rw [pk_un c1] at w1 w2; rw [pk_un c2] at w2; exact hUn i i' hi hi' w1 w2
    · exact ⟨1, _, _, _, _, hM_of (h_greeting_T2 l hL hIa dI dO dG (nI g0) (nI t) aN aB nS nP nR nG nO nU nT tP tR tO tN tF tZ mP mN fo q x2 x3 hq (fun h1 h2 => hs ⟨h1, h2⟩)) rfl rfl (by decide), rM_of (c_RM_greeting_bad l hAR dI rC (nI t) rO rG rW rH rF rT rM rB (nI g0) tZ rA rE mN (nI q) x2 x3 (fun _ h2 h3 => hs ⟨in_router h2, h3⟩)) rfl rfl (by decide), rfl, fun h => absurd h (by decide), hm⟩
