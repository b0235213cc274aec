set_option maxHeartbeats 4000000 in
set_option maxRecDepth 100000 in
theorem step_advert {l : Launch} (hL : l.stackTraces = false) {D : va_G} {cI cL cZ : ClassId} {a a' : Nat → Nat} (hIa : aI a 20) (hIb : aI a' 11) {j : Nat} {v : CS} {r : RS} (h : Rel j v r) (hj : j < 600) (fo : Nat → Int64) (x1 : Int32) (x2 : Int32) (x3 : Int32) (x4 : Int32) (x5 : Int32) : ∃ (k : Int32) (v' : CS) (fo' : Nat → Int64) (bb : Int32) (r' : RS), hMet l D cI cL a yLW_advert wsLW_advert 8 [.ref (a 0), .int x1, .int x2, .int x3, .int x4, .int x5, .ref (a 19)] (v, fo) k (v', fo') ∧ rMet l D cI cZ a' yRM_advert wsRM_advert 10 [.ref (a' 0), .int x1, .int x2, .int x3, .int x4, .int x5] r (bb) r' ∧ codeR r' = k ∧ (k = 0 → fo' 0 = bb.toInt64) ∧ Rel (j + 1) v' r' := by
  obtain ⟨⟨dI, dO, dG, dN, dT⟩, ⟨aN, aB⟩, ⟨nS, nP, nR, nG, nO, nU, nT⟩, ⟨tP, tR, tO, tN, tF, tZ⟩, ⟨mP, mN⟩⟩ := v
  obtain ⟨⟨rI, rC, rN⟩, ⟨rO, rG⟩, ⟨rW, rH, rF, rT⟩, ⟨rM, rB, rX⟩, ⟨rQ, rA⟩, ⟨rE, rD⟩⟩ := r
  have hm := h.mono hj
  have hAR : ∀ u : RS, va_D (aS a' 11) (wR cI cZ a' u) := fun u => dS (wR_ad cI cZ a' u) hIb
  have hAC : ∀ u : CS, va_D (aS a 19) (wC cI cL a u) := fun u => dS (wC_ad cI cL a u) (hIa.le (by decide))
  obtain ⟨⟨e1, hI, hj0⟩, ⟨t, ⟨ht, hT1, hT2⟩, hPl, hOw⟩, hPo, ⟨hA1, ⟨g0, n0, hg0, hA2, hn0, hA3⟩, hA4⟩, hUn, ⟨hQ1, hQ2, hQ3, hQ4⟩, ⟨hM1, hM2⟩⟩ := id h
  subst e1 hT1 hT2 hA2 hA1 hQ1 hM2
  have rb : (fRM_in x1 0 7 = true → fRM_in x2 0 63 = true → ¬ x2 = nI dI → False) → rMet l D cI cZ a' yRM_advert wsRM_advert 10 [.ref (a' 0), .int x1, .int x2, .int x3, .int x4, .int x5] ((dI, rC, nI t), (rO, rG), (rW, rH, rF, rT), (rM, rB, nI g0), (tZ, rA), (rE, mN)) 0 ((dI, 1, nI t), (rO, rG), (rW, rH, rF, rT), (rM, rB, nI g0), (tZ, rA), (rE, mN)) := by
    intro hbad
    by_cases hA : fRM_in x3 0 63 = true ∧ fRM_in x4 1 1000000000 = true
    · obtain ⟨g, hg, rfl⟩ := router_ok (in_router hA.1)
      obtain ⟨n1, n2⟩ := num_ok (in_num hA.2)
      exact rM_of (c_RM_advert_badB l hAR dI rC (nI t) rO rG rW rH rF rT rM rB (nI g0) tZ rA rE mN x1 x2 g x4 x5 hg n1 n2 hbad) rfl rfl (by decide)
    · exact rM_of (c_RM_advert_badA l hAR dI rC (nI t) rO rG rW rH rF rT rM rB (nI g0) tZ rA rE mN x1 x2 x3 x4 x5 (fun h1 h2 => hA ⟨h1, h2⟩)) rfl rfl (by decide)
  cases hx : fDB_isPort x1 with
  | false => exact ⟨1, _, _, _, _, hM_of (h_advert_T1 l hL hIa dI dO dG (nI g0) (nI t) aN aB nS nP nR nG nO nU nT tP tR tO tN tF tZ mP mN fo x1 x2 x3 x4 x5 hx) rfl rfl (by decide), rb (fun h _ _ => absurd ((in_port h).symm.trans hx) (by decide)), rfl, fun h => absurd h (by decide), hm⟩
  | true =>
    obtain ⟨q, hq, rfl⟩ := port_ok hx
    by_cases hs : fDB_isRouter x2 = true ∧ ¬ x2 = nI dI
    · obtain ⟨o, ho, rfl⟩ := router_ok hs.1
      have hne : ¬ o = dI := fun e => hs.2 (by rw [e])
      cases hy : fDB_isRouter x3 with
      | false => exact ⟨1, _, _, _, _, hM_of (h_advert_T3 l hL hIa dI dO dG (nI g0) (nI t) aN aB nS nP nR nG nO nU nT tP tR tO tN tF tZ mP mN fo q o x3 x4 x5 hq ho hne hI hy) rfl rfl (by decide), rM_of (c_RM_advert_badA l hAR dI rC (nI t) rO rG rW rH rF rT rM rB (nI g0) tZ rA rE mN (nI q) (nI o) x3 x4 x5 (fun h1 _ => absurd ((in_router h1).symm.trans hy) (by decide))) rfl rfl (by decide), rfl, fun h => absurd h (by decide), hm⟩
      | true =>
        obtain ⟨g, hg, rfl⟩ := router_ok hy
        cases hn : fDB_isNum x4 with
        | false => exact ⟨1, _, _, _, _, hM_of (h_advert_T4 l hL hIa dI dO dG (nI g0) (nI t) aN aB nS nP nR nG nO nU nT tP tR tO tN tF tZ mP mN fo q o g x4 x5 hq ho hne hI hg hn) rfl rfl (by decide), rM_of (c_RM_advert_badA l hAR dI rC (nI t) rO rG rW rH rF rT rM rB (nI g0) tZ rA rE mN (nI q) (nI o) (nI g) x4 x5 (fun _ h1 => absurd ((in_num h1).symm.trans hn) (by decide))) rfl rfl (by decide), rfl, fun h => absurd h (by decide), hm⟩
        | true =>
          obtain ⟨n1, n2⟩ := num_ok hn
          obtain ⟨p1, -, -⟩ := hPo q hq
          cases hon : rO q with
          | false => exact ⟨2, _, _, _, _, hM_of (h_advert_T5 l hL hIa dI dO dG (nI g0) (nI t) aN aB nS nP nR nG nO nU nT tP tR tO tN tF tZ mP mN fo q o g x4 x5 hq ho hne hI hg n1 n2 (p1.trans hon)) rfl rfl (by decide), rM_of (c_RM_advert_off l hAR dI rC (nI t) rO rG rW rH rF rT rM rB (nI g0) tZ rA rE mN q o g x4 x5 hg n1 n2 hq ho hI hne hon) rfl rfl (by decide), wrong_off hon, fun h => absurd h (by decide), hm⟩
          | true =>
            have M1 := h_advert l hL hIa (D := D) (cI := cI) (cL := cL) dI dO dG (nI g0) (nI t) aN aB nS nP nR nG nO nU nT tP tR tO tN tF tZ mP mN fo q o g x4 x5 hq ho hne hI hg n1 n2 (p1.trans hon) hQ3 hQ2
            have M2 := c_RM_advert l hAR (D := D) (cI := cI) (cZ := cZ) dI rC (nI t) rO rG rW rH rF rT rM rB (nI g0) tZ rA rE mN q o g x4 x5 hq ho hI hne hg n1 n2 hon hQ2
            have ef := friendP_eq hPl hUn hq ho
            obtain ⟨a1, a2, a3, a4⟩ := hA4 g hg
            have hx0 : ¬ x4 = 0 := fun e => n1 (by rw [e]; decide)
            have hxp : 0 ≤ x4 := by
              rw [i32_nlt, Int32.le_iff_toInt_le] at n1
              rw [Int32.le_iff_toInt_le]
              have e1 : (1 : Int32).toInt = 1 := by decide
              have e0 : (0 : Int32).toInt = 0 := by decide
              omega
            have hxn : ∃ xn, xn ≤ 1000000000 ∧ x4 = nI xn := nI_of2 (by decide) (i32_nlt.mpr hxp) n2
            obtain ⟨xn, hxn1, rfl⟩ := hxn
            cases hf : QRM_find_5 rW q o 16 0 none with
            | none =>
              rw [hf] at ef
              have e1 : fDB_advert dI (nI g0) aN aB nS nP nR nO nU tP tR tO tN tF tZ q o g (nI xn) x5 = (-1, nI g0, aN, aB, nO, nU, tP, tR, tO, tN, tZ) := by unfold fDB_advert; rw [ef]
              have e2 : fRM_advert dI (nI t) rW rF rT rM rB (nI g0) tZ rA q o g (nI xn) x5 = (-1, rT, rM, rB, nI g0, tZ, rA) := by unfold fRM_advert; rw [hf]
              rw [e1] at M1; rw [e2] at M2
              exact ⟨0, _, _, _, _, hM_of M1 rfl rfl (by decide), rM_of M2 rfl rfl (by decide), wrong_ok hon, fun _ => by rw [pk_uLs], hm⟩
            | some k =>
              rw [hf] at ef
              obtain ⟨hk, hw⟩ := fd_some hf
              cases hF : rF k with
              | false =>
                have ef2 : fNB_friendPlace nS nP nR (nI q) (nI o) = none := by rw [ef]; show cond (rF k) (some k) none = none; rw [hF]; rfl
                have e1 : fDB_advert dI (nI g0) aN aB nS nP nR nO nU tP tR tO tN tF tZ q o g (nI xn) x5 = (-1, nI g0, aN, aB, nO, nU, tP, tR, tO, tN, tZ) := by unfold fDB_advert; rw [ef2]
                have e2 : fRM_advert dI (nI t) rW rF rT rM rB (nI g0) tZ rA q o g (nI xn) x5 = (-1, rT, rM, rB, nI g0, tZ, rA) := by unfold fRM_advert; rw [hf]; show cond (rF k) _ _ = _; rw [hF]; rfl
                rw [e1] at M1; rw [e2] at M2
                exact ⟨0, _, _, _, _, hM_of M1 rfl rfl (by decide), rM_of M2 rfl rfl (by decide), wrong_ok hon, fun _ => by rw [pk_uLs], hm⟩
              | true =>
                have ef2 : fNB_friendPlace nS nP nR (nI q) (nI o) = some k := by rw [ef]; show cond (rF k) (some k) none = some k; rw [hF]; rfl
                have hQ := que_add (x := nI xn) (g := g) hQ2 hQ3 hQ4 hq ho hw
                have uR : fRM_advert dI (nI t) rW rF rT rM rB (nI g0) tZ rA q o g (nI xn) x5 = (if rM g ≤ nI xn then (if g = dI then (if nI xn ≤ nI g0 then (1, upd rT (64 * k + g) (-1), rM, rB, nI g0, (fRM_thank rW tZ rA k g (nI xn)).1, (fRM_thank rW tZ rA k g (nI xn)).2) else (3, upd rT (64 * k + g) (-1), rM, rB, nI xn, (fRM_thank rW tZ rA k g (nI xn)).1, (fRM_thank rW tZ rA k g (nI xn)).2)) else (if nI xn = rM g then (1, upd rT (64 * k + g) (-1), rM, rB, nI g0, (fRM_thank rW tZ rA k g (nI xn)).1, (fRM_thank rW tZ rA k g (nI xn)).2) else (0, QRM_learn_17 (nI t) rF g (some k) 16 0 (upd rT (64 * k + g) (-1)), upd rM g (nI xn), upd rB g x5, nI g0, (fRM_thank rW tZ rA k g (nI xn)).1, (fRM_thank rW tZ rA k g (nI xn)).2))) else (2, upd rT (64 * k + g) (nI t), rM, rB, nI g0, (fRM_thank rW tZ rA k g (nI xn)).1, (fRM_thank rW tZ rA k g (nI xn)).2)) := by
                  unfold fRM_advert; rw [hf]; show cond (rF k) _ _ = _; rw [hF]; rfl
                by_cases hlt : nI xn < aN g
                · have hMg : ¬ rM g = 0 := fun e => by
                    rw [a1, e] at hlt; exact absurd hlt (i32_nlt.mpr hxp)
                  have e1 : fDB_advert dI (nI g0) aN aB nS nP nR nO nU tP tR tO tN tF tZ q o g (nI xn) x5 = (2, nI g0, aN, aB, vp_updL nO k (nO k ||| bL g), vp_updL nU k (nU k ||| bL g), fTQ_add tP tR tO tN tF tZ (nI q) (nI o) (nI g) (nI xn)) := by
                    unfold fDB_advert
                    rw [ef2]
                    show (if nI xn < aN g then _ else _) = _
                    rw [if_pos hlt]
                    by_cases hgd : g = dI
                    · subst hgd
                      rw [a1, hA3, nI_ltI (by omega) (by omega)] at hlt
                      have et : fDB_takeOwnBack g (nI g0) aN nO nU k (nI xn) = (2, nI g0, vp_updL nO k (nO k ||| bL g), vp_updL nU k (nU k ||| bL g)) := by
                        unfold fDB_takeOwnBack
                        rw [if_pos (nI_le (by omega) (by omega)), a1, hA3, if_neg (nI_ge hlt (by omega))]
                      rw [if_pos rfl, et]
                    · have et : fDB_takeAdvert aN aB nS nO nU k g (nI xn) x5 = (2, aN, aB, vp_updL nO k (nO k ||| bL g), vp_updL nU k (nU k ||| bL g)) := by
                        unfold fDB_takeAdvert
                        rw [if_pos (i32_nlt.mp (fun z => absurd z (i32_nlt.mpr (Int32.le_of_lt hlt)))), if_neg (fun z => by rw [z] at hlt; exact absurd hlt (i32_nlt.mpr (Int32.le_refl _)))]
                      rw [if_neg hgd, et]
                  have e2 : fRM_advert dI (nI t) rW rF rT rM rB (nI g0) tZ rA q o g (nI xn) x5 = (2, upd rT (64 * k + g) (nI t), rM, rB, nI g0, (fRM_thank rW tZ rA k g (nI xn)).1, (fRM_thank rW tZ rA k g (nI xn)).2) := by
                    rw [uR, if_neg (by rw [← a1]; exact i32_nle.mpr hlt)]
                  rw [e1] at M1; rw [e2] at M2
                  refine ⟨0, _, _, _, _, hM_of M1 rfl rfl (by decide), rM_of M2 rfl rfl (by decide), wrong_ok hon, fun _ => by rw [pk_uLs], ?_⟩
                  exact ⟨⟨rfl, hI, by omega⟩, ⟨t, ⟨ht, rfl, rfl⟩, hPl, ow_owe hOw hk hg hF hMg⟩, hPo, ⟨rfl, ⟨g0, n0, by omega, rfl, hn0, hA3⟩, hA4⟩, hUn, hQ, ⟨hM1, rfl⟩⟩
                · have hle : aN g ≤ nI xn := i32_nlt.mp hlt
                  have hleR : rM g ≤ nI xn := by rw [← a1]; exact hle
                  have hOs := ow_settle hOw hk hg
                  by_cases hgd : g = dI
                  · subst hgd
                    by_cases hxg : nI xn ≤ nI g0
                    · have e1 : fDB_advert g (nI g0) aN aB nS nP nR nO nU tP tR tO tN tF tZ q o g (nI xn) x5 = (1, nI g0, aN, aB, vp_updL nO k (nO k &&& (bL g ^^^ (-1))), vp_updL nU k (nU k &&& (bL g ^^^ (-1))), fTQ_add tP tR tO tN tF tZ (nI q) (nI o) (nI g) (nI xn)) := by
                        unfold fDB_advert
                        rw [ef2]
                        show (if nI xn < aN g then _ else _) = _
                        have et : fDB_takeOwnBack g (nI g0) aN (vp_updL nO k (nO k &&& (bL g ^^^ (-1)))) (vp_updL nU k (nU k &&& (bL g ^^^ (-1)))) k (nI xn) = (1, nI g0, vp_updL nO k (nO k &&& (bL g ^^^ (-1))), vp_updL nU k (nU k &&& (bL g ^^^ (-1)))) := by
                          unfold fDB_takeOwnBack
                          rw [if_pos hxg, if_pos hle]
                        rw [if_neg hlt, if_pos rfl, et]
                      have e2 := uR
                      rw [if_pos hleR, if_pos rfl, if_pos hxg] at e2
                      rw [e1] at M1; rw [e2] at M2
                      refine ⟨0, _, _, _, _, hM_of M1 rfl rfl (by decide), rM_of M2 rfl rfl (by decide), wrong_ok hon, fun _ => by rw [pk_uLs], ?_⟩
                      exact ⟨⟨rfl, hI, by omega⟩, ⟨t, ⟨ht, rfl, rfl⟩, hPl, hOs⟩, hPo, ⟨rfl, ⟨g0, n0, by omega, rfl, hn0, hA3⟩, hA4⟩, hUn, hQ, ⟨hM1, rfl⟩⟩
                    · have e1 : fDB_advert g (nI g0) aN aB nS nP nR nO nU tP tR tO tN tF tZ q o g (nI xn) x5 = (3, nI xn, aN, aB, vp_updL nO k (nO k &&& (bL g ^^^ (-1))), vp_updL nU k (nU k &&& (bL g ^^^ (-1))), fTQ_add tP tR tO tN tF tZ (nI q) (nI o) (nI g) (nI xn)) := by
                        unfold fDB_advert
                        rw [ef2]
                        show (if nI xn < aN g then _ else _) = _
                        have et : fDB_takeOwnBack g (nI g0) aN (vp_updL nO k (nO k &&& (bL g ^^^ (-1)))) (vp_updL nU k (nU k &&& (bL g ^^^ (-1)))) k (nI xn) = (3, nI xn, vp_updL nO k (nO k &&& (bL g ^^^ (-1))), vp_updL nU k (nU k &&& (bL g ^^^ (-1)))) := by
                          unfold fDB_takeOwnBack
                          rw [if_neg hxg]
                        rw [if_neg hlt, if_pos rfl, et]
                      have e2 := uR
                      rw [if_pos hleR, if_pos rfl, if_neg hxg] at e2
                      rw [e1] at M1; rw [e2] at M2
                      refine ⟨0, _, _, _, _, hM_of M1 rfl rfl (by decide), rM_of M2 rfl rfl (by decide), wrong_ok hon, fun _ => by rw [pk_uLs], ?_⟩
                      have hbig : g0 < xn := by rw [nI_leI (by omega) (by omega)] at hxg; omega
                      exact ⟨⟨rfl, hI, by omega⟩, ⟨t, ⟨ht, rfl, rfl⟩, hPl, hOs⟩, hPo, ⟨rfl, ⟨xn, n0, by omega, rfl, by omega, hA3⟩, hA4⟩, hUn, hQ, ⟨hM1, rfl⟩⟩
                  · by_cases hxe : nI xn = aN g
                    · have e1 : fDB_advert dI (nI g0) aN aB nS nP nR nO nU tP tR tO tN tF tZ q o g (nI xn) x5 = (1, nI g0, aN, aB, vp_updL nO k (nO k &&& (bL g ^^^ (-1))), vp_updL nU k (nU k &&& (bL g ^^^ (-1))), fTQ_add tP tR tO tN tF tZ (nI q) (nI o) (nI g) (nI xn)) := by
                        unfold fDB_advert
                        rw [ef2]
                        show (if nI xn < aN g then _ else _) = _
                        have et : fDB_takeAdvert aN aB nS (vp_updL nO k (nO k &&& (bL g ^^^ (-1)))) (vp_updL nU k (nU k &&& (bL g ^^^ (-1)))) k g (nI xn) x5 = (1, aN, aB, vp_updL nO k (nO k &&& (bL g ^^^ (-1))), vp_updL nU k (nU k &&& (bL g ^^^ (-1)))) := by
                          unfold fDB_takeAdvert
                          rw [if_pos (by rw [hxe]; exact Int32.le_refl _), if_pos hxe]
                        rw [if_neg hlt, if_neg hgd, et]
                      have e2 := uR
                      rw [if_pos hleR, if_neg hgd, if_pos (hxe.trans a1)] at e2
                      rw [e1] at M1; rw [e2] at M2
                      refine ⟨0, _, _, _, _, hM_of M1 rfl rfl (by decide), rM_of M2 rfl rfl (by decide), wrong_ok hon, fun _ => by rw [pk_uLs], ?_⟩
                      exact ⟨⟨rfl, hI, by omega⟩, ⟨t, ⟨ht, rfl, rfl⟩, hPl, hOs⟩, hPo, ⟨rfl, ⟨g0, n0, by omega, rfl, hn0, hA3⟩, hA4⟩, hUn, hQ, ⟨hM1, rfl⟩⟩
                    · have hnl : ¬ nI xn ≤ aN g := fun z => hxe (Int32.le_antisymm z hle)
                      have e1 : fDB_advert dI (nI g0) aN aB nS nP nR nO nU tP tR tO tN tF tZ q o g (nI xn) x5 = (0, nI g0, upd aN g (nI xn), upd aB g x5, (LNB_oweToFriendsBut nS (some k) g 16 0 (vp_updL nO k (nO k &&& (bL g ^^^ (-1)))) (vp_updL nU k (nU k &&& (bL g ^^^ (-1))))).1, (LNB_oweToFriendsBut nS (some k) g 16 0 (vp_updL nO k (nO k &&& (bL g ^^^ (-1)))) (vp_updL nU k (nU k &&& (bL g ^^^ (-1))))).2, fTQ_add tP tR tO tN tF tZ (nI q) (nI o) (nI g) (nI xn)) := by
                        unfold fDB_advert
                        rw [ef2]
                        show (if nI xn < aN g then _ else _) = _
                        have et : fDB_takeAdvert aN aB nS (vp_updL nO k (nO k &&& (bL g ^^^ (-1)))) (vp_updL nU k (nU k &&& (bL g ^^^ (-1)))) k g (nI xn) x5 = (0, upd aN g (nI xn), upd aB g x5, (LNB_oweToFriendsBut nS (some k) g 16 0 (vp_updL nO k (nO k &&& (bL g ^^^ (-1)))) (vp_updL nU k (nU k &&& (bL g ^^^ (-1))))).1, (LNB_oweToFriendsBut nS (some k) g 16 0 (vp_updL nO k (nO k &&& (bL g ^^^ (-1)))) (vp_updL nU k (nU k &&& (bL g ^^^ (-1))))).2) := by
                          unfold fDB_takeAdvert
                          rw [if_neg hnl]
                        rw [if_neg hlt, if_neg hgd, et]
                      have e2 := uR
                      rw [if_pos hleR, if_neg hgd, if_neg (fun z => hxe (z.trans a1.symm))] at e2
                      rw [e1] at M1; rw [e2] at M2
                      refine ⟨0, _, _, _, _, hM_of M1 rfl rfl (by decide), rM_of M2 rfl rfl (by decide), wrong_ok hon, fun _ => by rw [pk_uLs], ?_⟩
                      refine ⟨⟨rfl, hI, by omega⟩, ⟨t, ⟨ht, rfl, rfl⟩, hPl, ow_learn hPl hOs hg hx0 (fun i hi h => ?_)⟩, hPo, ⟨rfl, ⟨g0, n0, by omega, rfl, hn0, by dsimp only; rw [pk_un (fun z => hgd z.symm)]; exact hA3⟩, fun o' ho' => ?_⟩, hUn, hQ, ⟨hM1, rfl⟩⟩
                      · have hik : i = k := (nI_eq (by omega) (by omega)).mp h
                        subst hik
                        rw [pk_uLs, l_clr hg hg]; simp
                      · dsimp only
                        by_cases hog : o' = g
                        · subst hog; rw [pk_us, pk_us, pk_us, pk_us]; exact ⟨rfl, rfl, hxp, fun h => absurd h hx0⟩
                        · rw [pk_un hog, pk_un hog, pk_un hog, pk_un hog]; exact hA4 o' ho'
    · exact ⟨1, _, _, _, _, hM_of (h_advert_T2 l hL hIa dI dO dG (nI g0) (nI t) aN aB nS nP nR nG nO nU nT tP tR tO tN tF tZ mP mN fo q x2 x3 x4 x5 hq (fun h1 h2 => hs ⟨h1, h2⟩)) rfl rfl (by decide), rb (fun _ h2 h3 => hs ⟨in_router h2, h3⟩), rfl, fun h => absurd h (by decide), hm⟩
