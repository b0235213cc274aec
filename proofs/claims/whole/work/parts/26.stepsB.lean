theorem ow_settle {t : Nat} {nO nU : Nat → Int64} {nT : Nat → Int32} {rF : Nat → Bool} {rM rT : Nat → Int32} (hOw : rOwe t nO nU nT rF rM rT) {k g : Nat} (hk : k < 16) (hg : g < 64) : rOwe t (vp_updL nO k (nO k &&& (bL g ^^^ (-1)))) (vp_updL nU k (nU k &&& (bL g ^^^ (-1)))) nT rF rM (upd rT (64 * k + g) (-1)) := by
  intro i hi o ho
  obtain ⟨h1, h2⟩ := hOw i hi o ho
  by_cases hik : i = k
  · subst hik
    rw [pk_uLs, pk_uLs, l_clr hg ho, l_clr hg ho]
    by_cases hog : o = g
    · subst hog; rw [pk_us]; exact ⟨owe_set m1_neg (by simp), fun _ => m1_neg⟩
    · rw [pk_un (by omega), decide_eq_false hog, Bool.not_false, Bool.and_true, Bool.and_true]; exact ⟨h1, h2⟩
  · rw [pk_uLn hik, pk_uLn hik, pk_un (by omega)]; exact ⟨h1, h2⟩
theorem ow_owe {t : Nat} {nO nU : Nat → Int64} {nT : Nat → Int32} {rF : Nat → Bool} {rM rT : Nat → Int32} (hOw : rOwe t nO nU nT rF rM rT) {k g : Nat} (hk : k < 16) (hg : g < 64) (hF : rF k = true) (hM : ¬ rM g = 0) : rOwe t (vp_updL nO k (nO k ||| bL g)) (vp_updL nU k (nU k ||| bL g)) nT rF rM (upd rT (64 * k + g) (nI t)) := by
  intro i hi o ho
  obtain ⟨h1, h2⟩ := hOw i hi o ho
  by_cases hik : i = k
  · subst hik
    rw [pk_uLs, pk_uLs, l_set hg ho, l_set hg ho]
    by_cases hog : o = g
    · subst hog; rw [pk_us, hF, decide_eq_true rfl, Bool.or_true, Bool.or_true]
      exact ⟨owe_now rfl rfl, fun h => by rcases h with h | h; cases h; exact absurd h hM⟩
    · rw [pk_un (by omega), decide_eq_false hog, Bool.or_false, Bool.or_false]; exact ⟨h1, h2⟩
  · rw [pk_uLn hik, pk_uLn hik, pk_un (by omega)]; exact ⟨h1, h2⟩
theorem ow_learn {t : Nat} {rO : Nat → Bool} {nS nP nR nG rW rH : Nat → Int32} {nO nU : Nat → Int64} {nT : Nat → Int32} {rF : Nat → Bool} {rM rT : Nat → Int32} (hPl : ∀ k, k < 16 → rPlace t rO nS nP nR nG rW rH rF k) (hOw : rOwe t nO nU nT rF rM rT) {q : Option Nat} {g : Nat} {x : Int32} (hg : g < 64) (hx : ¬ x = 0) (hb : ∀ i, i < 16 → nI i = oi q → btL (nO i) g = false) : rOwe t (LNB_oweToFriendsBut nS q g 16 0 nO nU).1 (LNB_oweToFriendsBut nS q g 16 0 nO nU).2 nT rF (upd rM g x) (QRM_learn_17 (nI t) rF g q 16 0 rT) := by
  intro i hi o ho
  obtain ⟨h1, h2⟩ := hOw i hi o ho
  have hof := of_at (nS := nS) (q := q) (o := g) 16 0 nO nU i
  rw [ln_at hg 16 0 rT i o ho]
  have hun : o ≠ g → (rF i = false ∨ upd rM g x o = 0) → rT (64 * i + o) < 0 := fun hog h => h2 (h.imp id (fun z => by rw [pk_un hog] at z; exact z))
  by_cases hc : nS i = 2 ∧ ¬ nI i = oi q
  · obtain ⟨e1, e2⟩ := hof.1 ⟨by omega, by omega, hc.1, hc.2⟩
    rw [e1, e2, l_set hg ho, l_set hg ho]
    have hF := (friend_iff (hPl i hi)).mp hc.1
    by_cases hog : o = g
    · subst hog
      rw [if_pos ⟨by omega, by omega, rfl⟩, if_neg hc.2, hF, decide_eq_true rfl, Bool.or_true, Bool.or_true, pk_us]
      exact ⟨owe_now rfl rfl, fun h => by rcases h with h | h; cases h; exact absurd h hx⟩
    · rw [if_neg (fun z => hog z.2.2), decide_eq_false hog, Bool.or_false, Bool.or_false]; exact ⟨h1, hun hog⟩
  · obtain ⟨e1, e2⟩ := hof.2 (fun z => hc ⟨z.2.2.1, z.2.2.2⟩)
    rw [e1, e2]
    by_cases hog : o = g
    · subst hog
      rw [if_pos ⟨by omega, by omega, rfl⟩]
      by_cases hq : nI i = oi q
      · rw [if_pos hq]; exact ⟨owe_set m1_neg (hb i hi hq), fun _ => m1_neg⟩
      · have hF : rF i = false := by
          cases hF : rF i
          · rfl
          · exact absurd ⟨(friend_iff (hPl i hi)).mpr hF, hq⟩ hc
        rw [if_neg hq, hF]
        exact ⟨h1, fun _ => h2 (Or.inl hF)⟩
    · rw [if_neg (fun z => hog z.2.2)]; exact ⟨h1, hun hog⟩
theorem rw_div {rW : Nat → Int32} {k q o : Nat} (hq : q < 8) (ho : o < 64) (hw : rW k = nI (64 * q + o)) : rW k / 64 = nI q ∧ rW k - rW k / nI 64 * nI 64 = nI o := by
  rw [hw]
  exact ⟨(pk_div (d := 64) (by omega) (by decide) (by decide)).trans (by rw [show (64 * q + o) / 64 = q by omega]), (pk_rem (by omega) (by decide) (by decide)).trans (by rw [show (64 * q + o) % 64 = o by omega])⟩
theorem que_add {tP tR tO tN rA rW : Nat → Int32} {tF tZ k q o g : Nat} {x : Int32} (h2 : tZ ≤ 64) (h3 : tF < 64) (h4 : ∀ i, i < tZ → tP ((tF + i) % 64) = rA (4 * i) ∧ tR ((tF + i) % 64) = rA (4 * i + 1) ∧ tO ((tF + i) % 64) = rA (4 * i + 2) ∧ tN ((tF + i) % 64) = rA (4 * i + 3)) (hq : q < 8) (ho : o < 64) (hw : rW k = nI (64 * q + o)) :
    rQue (fTQ_add tP tR tO tN tF tZ (nI q) (nI o) (nI g) x).1 (fTQ_add tP tR tO tN tF tZ (nI q) (nI o) (nI g) x).2.1 (fTQ_add tP tR tO tN tF tZ (nI q) (nI o) (nI g) x).2.2.1 (fTQ_add tP tR tO tN tF tZ (nI q) (nI o) (nI g) x).2.2.2.1 tF (fTQ_add tP tR tO tN tF tZ (nI q) (nI o) (nI g) x).2.2.2.2 (fRM_thank rW tZ rA k g x).1 (fRM_thank rW tZ rA k g x).2 := by
  obtain ⟨e1, e2⟩ := rw_div hq ho hw
  unfold fTQ_add fRM_thank
  by_cases h : tZ < 64
  · rw [if_pos h, if_neg (by omega)]
    refine ⟨rfl, h, h3, fun i hi => ?_⟩
    have hi' : i < tZ + 1 := hi
    dsimp only
    by_cases hz : i = tZ
    · subst hz
      refine ⟨?_, ?_, ?_, ?_⟩
      · rw [pk_us, pk_un (by omega), pk_un (by omega), pk_un (by omega), pk_us, e1]
      · rw [pk_us, pk_un (by omega), pk_un (by omega), pk_us, e2]
      · rw [pk_us, pk_un (by omega), pk_us]
      · rw [pk_us, pk_us]
    · have hne : (tF + i) % 64 ≠ (tF + tZ) % 64 := by omega
      obtain ⟨a1, a2, a3, a4⟩ := h4 i (by omega)
      rw [pk_un hne, pk_un hne, pk_un hne, pk_un hne]
      refine ⟨?_, ?_, ?_, ?_⟩
      · rw [pk_un (by omega), pk_un (by omega), pk_un (by omega), pk_un (by omega)]; exact a1
      · rw [pk_un (by omega), pk_un (by omega), pk_un (by omega), pk_un (by omega)]; exact a2
      · rw [pk_un (by omega), pk_un (by omega), pk_un (by omega), pk_un (by omega)]; exact a3
      · rw [pk_un (by omega), pk_un (by omega), pk_un (by omega), pk_un (by omega)]; exact a4
  · rw [if_neg h, if_pos (by omega)]; exact ⟨rfl, h2, h3, h4⟩
theorem dropR_iff {b c : Prop} {w w' : Int32} {f f' : Bool} {k : Nat} {rT rT' : Nat → Int32} (h : b ↔ c) (hR : dropR b w w' f f' k rT rT') : dropR c w w' f f' k rT rT' := ⟨fun g => hR.1 (h.mpr g), fun g => hR.2 (fun z => g (h.mp z))⟩
theorem dropC_iff {b c : Prop} {s s' : Int32} {o o' u u' : Int64} (h : b ↔ c) (hR : dropC b s s' o o' u u') : dropC c s s' o o' u u' := ⟨fun g => hR.1 (h.mpr g), fun g => hR.2 (fun z => g (h.mp z))⟩
theorem dropC_no {s : Int32} {o u : Int64} : dropC False s s o o u u := ⟨fun h => h.elim, fun _ => ⟨rfl, rfl, rfl⟩⟩
theorem dropR_no {w : Int32} {f : Bool} {k : Nat} {rT : Nat → Int32} : dropR False w w f f k rT rT := ⟨fun h => h.elim, fun _ => ⟨rfl, rfl, fun _ _ => rfl⟩⟩
theorem drop_rel {t t' : Nat} {rO rO' : Nat → Bool} {nS nP nR nG rW rH nS' rW' : Nat → Int32} {nO nU nO' nU' : Nat → Int64} {nT : Nat → Int32} {rF rF' : Nat → Bool} {rM rT rT' : Nat → Int32} (c : Nat → Prop) (htt : t ≤ t') (hPl : ∀ k, k < 16 → rPlace t rO nS nP nR nG rW rH rF k) (hOw : rOwe t nO nU nT rF rM rT) (hUn : rUniq rW)
    (hC : ∀ i, i < 16 → dropC (c i) (nS i) (nS' i) (nO i) (nO' i) (nU i) (nU' i)) (hR : ∀ i, i < 16 → dropR (c i) (rW i) (rW' i) (rF i) (rF' i) i rT rT') (hO : ∀ i, i < 16 → ¬ c i → ∀ p o, p < 8 → o < 64 → rW i = nI (64 * p + o) → rO p = true → rO' p = true) :
    (∀ k, k < 16 → rPlace t' rO' nS' nP nR nG rW' rH rF' k) ∧ rOwe t' nO' nU' nT rF' rM rT' ∧ rUniq rW' := by
  refine ⟨fun k hk => ?_, fun k hk o ho => ?_, fun i k hi hk h1 h2 => ?_⟩
  · by_cases hc : c k
    · exact Or.inl ⟨((hC k hk).1 hc).1, ((hR k hk).1 hc).1, ((hR k hk).1 hc).2.1⟩
    · obtain ⟨e1, -, -⟩ := (hC k hk).2 hc
      obtain ⟨e2, e3, -⟩ := (hR k hk).2 hc
      rcases hPl k hk with ⟨a1, a2, a3⟩ | ⟨p, o, h', hp, ho, hh, a1, a2, a3, a4, a5, a6⟩
      · exact Or.inl ⟨e1.trans a1, e2.trans a2, e3.trans a3⟩
      · exact Or.inr ⟨p, o, h', hp, ho, by omega, by rw [e1, e3]; exact a1, a2, a3, e2.trans a4, hO k hk hc p o hp ho a4 a5, a6⟩
  · by_cases hc : c k
    · obtain ⟨-, e1, e2⟩ := (hC k hk).1 hc
      obtain ⟨-, -, e3⟩ := (hR k hk).1 hc
      rw [e1, e2, e3 o ho]
      exact ⟨owe_set m1_neg (l_0 o), fun _ => m1_neg⟩
    · obtain ⟨-, e1, e2⟩ := (hC k hk).2 hc
      obtain ⟨-, e4, e3⟩ := (hR k hk).2 hc
      rw [e1, e2, e3 o ho, e4]
      exact ⟨owe_later (hOw k hk o ho).1 htt, (hOw k hk o ho).2⟩
  · by_cases ci : c i
    · rw [((hR i hi).1 ci).1] at h1; exact absurd h1 (by decide)
    · rw [((hR i hi).2 ci).1] at h1 h2
      by_cases ck : c k
      · rw [((hR k hk).1 ck).1] at h2; rw [h2] at h1; exact absurd h1 (by decide)
      · rw [((hR k hk).2 ck).1] at h2; exact hUn i k hi hk h1 h2
theorem fport_eq {rO rG : Nat → Bool} {q : Nat} {b : Bool} : fRM_port rO rG q b = (!(rO q == b), updB rG q (rG q && b)) := by
  unfold fRM_port
  cases rG q <;> cases b <;> cases rO q <;> rfl
theorem friendP_eq {t : Nat} {rO : Nat → Bool} {nS nP nR nG rW rH : Nat → Int32} {rF : Nat → Bool} (hPl : ∀ k, k < 16 → rPlace t rO nS nP nR nG rW rH rF k) (hUn : rUniq rW) {q o : Nat} (hq : q < 8) (ho : o < 64) : fNB_friendPlace nS nP nR (nI q) (nI o) = match QRM_find_5 rW q o 16 0 none with | none => none | some k => cond (rF k) (some k) none := by
  unfold fNB_friendPlace
  rw [find_eq hPl hUn hq ho]
  cases hf : QRM_find_5 rW q o 16 0 none with
  | none => rfl
  | some k =>
    obtain ⟨hk, -⟩ := fd_some hf
    have := friend_iff (hPl k hk)
    show (if nS k = 2 then some k else none) = cond (rF k) (some k) none
    cases hF : rF k
    · rw [if_neg (fun h => by rw [this, hF] at h; cases h)]; rfl
    · rw [if_pos (this.mpr hF)]; rfl
set_option maxHeartbeats 4000000 in
set_option maxRecDepth 100000 in
theorem step_own {l : Launch} (hL : l.stackTraces = false) {D : va_G} {cI cL cZ : ClassId} {a a' : Nat → Nat} (hIa : aI a 20) (hIb : aI a' 11) {j : Nat} {v : CS} {r : RS} (h : Rel j v r) (hj : j < 600) (x1 : Int32) : ∃ (v' : CS) (bb : Int32) (r' : RS), cMet l D cI cL a yDB_own wsDB_own 2 [.ref (a 0), .int x1] v (bb) v' ∧ rMet l D cI cZ a' yRM_own wsRM_own 2 [.ref (a' 0), .int x1] r (bb) r' ∧ Rel (j + 1) v' r' := by
  obtain ⟨⟨dI, dO, dG, dN, dT⟩, ⟨aN, aB⟩, ⟨nS, nP, nR, nG, nO, nU, nT⟩, ⟨tP, tR, tO, tN, tF, tZ⟩, ⟨mP, mN⟩⟩ := v
  obtain ⟨⟨rI, rC, rN⟩, ⟨rO, rG⟩, ⟨rW, rH, rF, rT⟩, ⟨rM, rB, rX⟩, ⟨rQ, rA⟩, ⟨rE, rD⟩⟩ := r
  have hm := h.mono hj
  have hAR : ∀ u : RS, va_D (aS a' 11) (wR cI cZ a' u) := fun u => dS (wR_ad cI cZ a' u) hIb
  have hAC : ∀ u : CS, va_D (aS a 19) (wC cI cL a u) := fun u => dS (wC_ad cI cL a u) (hIa.le (by decide))
  obtain ⟨⟨e1, hI, hj0⟩, ⟨t, ⟨ht, hT1, hT2⟩, hPl, hOw⟩, hPo, ⟨hA1, ⟨g0, n0, hg0, hA2, hn0, hA3⟩, hA4⟩, hUn, ⟨hQ1, hQ2, hQ3, hQ4⟩, ⟨hM1, hM2⟩⟩ := id h
  subst e1 hT1 hT2 hA2 hA1 hQ1 hM2
  have M2 := c_RM_own l hAR (D := D) (cI := cI) (cZ := cZ) dI rC (nI t) rO rG rW rH rF rT rM rB (nI g0) tZ rA rE mN x1 hI
  refine ⟨_, _, _, cM_of (c_DB_own l hAC dI dO dG (nI g0) (nI t) aN aB nS nP nR nG nO nU nT tP tR tO tN tF tZ mP mN x1 hI) rfl rfl (by decide), rM_of M2 rfl rfl (by decide), ?_⟩
  have hx : ¬ nI g0 + 1 = 0 := by rw [nI_1]; exact nI_ne0 (by omega) (by omega)
  refine ⟨⟨rfl, hI, by omega⟩, ⟨t, ⟨ht, rfl, rfl⟩, hPl, ow_learn hPl hOw hI hx (fun i hi h => absurd h (nI_m1 (by omega)))⟩, hPo, ⟨rfl, ⟨g0 + 1, g0 + 1, by omega, nI_1 g0, Nat.le_refl _, by rw [pk_us, nI_1]⟩, fun o ho => ?_⟩, hUn, ⟨rfl, hQ2, hQ3, hQ4⟩, ⟨hM1, rfl⟩⟩
  by_cases hod : o = dI
  · subst hod; rw [pk_us, pk_us, pk_us, pk_us]; exact ⟨rfl, rfl, by rw [nI_1]; exact nI_pos' (by omega), fun h => absurd h hx⟩
  · rw [pk_un hod, pk_un hod, pk_un hod, pk_un hod]; exact hA4 o ho
set_option maxHeartbeats 4000000 in
set_option maxRecDepth 100000 in
theorem step_forget {l : Launch} (hL : l.stackTraces = false) {D : va_G} {cI cL cZ : ClassId} {a a' : Nat → Nat} (hIa : aI a 20) (hIb : aI a' 11) {j : Nat} {v : CS} {r : RS} (h : Rel j v r) (hj : j < 600) (fo : Nat → Int64) (x1 : Int32) : ∃ (k : Int32) (v' : CS) (fo' : Nat → Int64) (bb : Bool) (r' : RS), hMet l D cI cL a yLW_forget wsLW_forget 4 [.ref (a 0), .int x1, .ref (a 19)] (v, fo) k (v', fo') ∧ rMet l D cI cZ a' yRM_forget wsRM_forget 4 [.ref (a' 0), .int x1] r (bi bb) r' ∧ codeR r' = k ∧ (k = 0 → fo' 0 = cond bb 1 0) ∧ Rel (j + 1) v' r' := by
  obtain ⟨⟨dI, dO, dG, dN, dT⟩, ⟨aN, aB⟩, ⟨nS, nP, nR, nG, nO, nU, nT⟩, ⟨tP, tR, tO, tN, tF, tZ⟩, ⟨mP, mN⟩⟩ := v
  obtain ⟨⟨rI, rC, rN⟩, ⟨rO, rG⟩, ⟨rW, rH, rF, rT⟩, ⟨rM, rB, rX⟩, ⟨rQ, rA⟩, ⟨rE, rD⟩⟩ := r
  have hm := h.mono hj
  have hAR : ∀ u : RS, va_D (aS a' 11) (wR cI cZ a' u) := fun u => dS (wR_ad cI cZ a' u) hIb
  have hAC : ∀ u : CS, va_D (aS a 19) (wC cI cL a u) := fun u => dS (wC_ad cI cL a u) (hIa.le (by decide))
  obtain ⟨⟨e1, hI, hj0⟩, ⟨t, ⟨ht, hT1, hT2⟩, hPl, hOw⟩, hPo, ⟨hA1, ⟨g0, n0, hg0, hA2, hn0, hA3⟩, hA4⟩, hUn, ⟨hQ1, hQ2, hQ3, hQ4⟩, ⟨hM1, hM2⟩⟩ := id h
  subst e1 hT1 hT2 hA2 hA1 hQ1 hM2
  cases hx : fDB_isRouter x1 with
  | false => exact ⟨1, _, _, _, _, hM_of (h_forget_T l hL hIa dI dO dG (nI g0) (nI t) aN aB nS nP nR nG nO nU nT tP tR tO tN tF tZ mP mN fo x1 hx) rfl rfl (by decide), rM_of (c_RM_forget_bad l hAR dI rC (nI t) rO rG rW rH rF rT rM rB (nI g0) tZ rA rE mN x1 (in_of _ hx in_router)) rfl rfl (by decide), rfl, fun h => absurd h (by decide), hm⟩
  | true =>
    obtain ⟨g, hg, rfl⟩ := router_ok hx
    have M1 := h_forget l hL hIa (D := D) (cI := cI) (cL := cL) dI dO dG (nI g0) (nI t) aN aB nS nP nR nG nO nU nT tP tR tO tN tF tZ mP mN fo g hg
    have M2 := c_RM_forget l hAR (D := D) (cI := cI) (cZ := cZ) dI rC (nI t) rO rG rW rH rF rT rM rB (nI g0) tZ rA rE mN g hg
    obtain ⟨a1, a2, a3, a4⟩ := hA4 g hg
    have hA : ∀ o, o < 64 → upd aN g 0 o = upd rM g 0 o ∧ upd aB g 0 o = upd rB g 0 o ∧ 0 ≤ upd rM g 0 o ∧ (upd rM g 0 o = 0 → upd rB g 0 o = 0) := fun o ho => by
      by_cases hog : o = g
      · subst hog; rw [pk_us, pk_us, pk_us, pk_us]; exact ⟨rfl, rfl, by decide, fun _ => rfl⟩
      · rw [pk_un hog, pk_un hog, pk_un hog, pk_un hog]; exact hA4 o ho
    have hN : ∃ g1 n1, g1 ≤ 1000000000 + (j + 1) ∧ nI g0 = nI g1 ∧ n1 ≤ g1 ∧ upd rM g 0 dI = nI n1 := by
      by_cases hgd : dI = g
      · subst hgd; exact ⟨g0, 0, by omega, rfl, by omega, by rw [pk_us]; rfl⟩
      · exact ⟨g0, n0, by omega, rfl, hn0, by rw [pk_un hgd]; exact hA3⟩
    cases hh : fAD_has aN g with
    | true =>
      have e2 : fDB_forget aN aB nO nU g = (true, upd aN g 0, upd aB g 0, (LNB_settleAll g 16 0 nO nU).1, (LNB_settleAll g 16 0 nO nU).2) := by unfold fDB_forget; rw [hh]; rfl
      have e3 : fRM_forget rM g = true := by
        unfold fAD_has at hh
        unfold fRM_forget
        split at hh
        · cases hh
        · rename_i h0
          rw [if_neg (fun h => h0 (by rw [a1]; exact Int32.le_antisymm h a3))]
      rw [e2] at M1
      rw [e3] at M2
      refine ⟨0, _, _, _, _, hM_of M1 rfl rfl (by decide), rM_of M2 rfl rfl (by decide), rfl, fun _ => by rw [pk_uLs], ?_⟩
      refine ⟨⟨rfl, hI, by omega⟩, ⟨t, ⟨ht, rfl, rfl⟩, hPl, fun k hk o ho => ?_⟩, hPo, ⟨rfl, hN, hA⟩, hUn, ⟨rfl, hQ2, hQ3, hQ4⟩, ⟨hM1, rfl⟩⟩
      obtain ⟨s1, s2⟩ := (sA_at (o := g) 16 0 nO nU k).1 (by omega)
      obtain ⟨h1, h2⟩ := hOw k hk o ho
      dsimp only
      rw [s1, s2, fg_at hg 16 0 rT k o ho, l_clr hg ho, l_clr hg ho]
      by_cases hog : o = g
      · subst hog; rw [if_pos ⟨by omega, by omega, rfl⟩]; exact ⟨owe_set m1_neg (by simp), fun _ => m1_neg⟩
      · rw [if_neg (fun z => hog z.2.2), decide_eq_false hog, Bool.not_false, Bool.and_true, Bool.and_true, pk_un hog]; exact ⟨h1, h2⟩
    | false =>
      have h0 : aN g = 0 := by
        unfold fAD_has at hh
        split at hh
        · assumption
        · cases hh
      have h0' : rM g = 0 := a1 ▸ h0
      have e2 : fDB_forget aN aB nO nU g = (false, aN, aB, nO, nU) := by unfold fDB_forget; rw [hh]; rfl
      have e3 : fRM_forget rM g = false := by unfold fRM_forget; rw [h0', if_pos (by decide)]
      rw [e2] at M1
      rw [e3] at M2
      refine ⟨0, _, _, _, _, hM_of M1 rfl rfl (by decide), rM_of M2 rfl rfl (by decide), rfl, fun _ => by rw [pk_uLs], ?_⟩
      refine ⟨⟨rfl, hI, by omega⟩, ⟨t, ⟨ht, rfl, rfl⟩, hPl, fun k hk o ho => ?_⟩, hPo, ⟨rfl, hN, fun o ho => ?_⟩, hUn, ⟨rfl, hQ2, hQ3, hQ4⟩, ⟨hM1, rfl⟩⟩
      · obtain ⟨h1, h2⟩ := hOw k hk o ho
        dsimp only
        rw [fg_at hg 16 0 rT k o ho]
        by_cases hog : o = g
        · subst hog
          rw [if_pos ⟨by omega, by omega, rfl⟩]
          refine ⟨owe_set m1_neg ?_, fun _ => m1_neg⟩
          cases hb : btL (nO k) o
          · rfl
          · rw [hb] at h1; exact absurd (h2 (Or.inr h0')) ((owe_b h1 ht).mp rfl)
        · rw [if_neg (fun z => hog z.2.2), pk_un hog]; exact ⟨h1, h2⟩
      · have h9 := hA o ho
        by_cases hog : o = g
        · subst hog; rw [pk_us, pk_us]; exact ⟨h0, a2.trans (a4 h0'), by decide, fun _ => rfl⟩
        · rw [pk_un hog, pk_un hog]; exact hA4 o ho
set_option maxHeartbeats 4000000 in
set_option maxRecDepth 100000 in
theorem step_port {l : Launch} (hL : l.stackTraces = false) {D : va_G} {cI cL cZ : ClassId} {a a' : Nat → Nat} (hIa : aI a 20) (hIb : aI a' 11) {j : Nat} {v : CS} {r : RS} (h : Rel j v r) (hj : j < 600) (fo : Nat → Int64) (x1 : Int32) (x2 : Bool) : ∃ (k : Int32) (v' : CS) (fo' : Nat → Int64) (bb : Bool) (r' : RS), hMet l D cI cL a yLW_port wsLW_port 5 [.ref (a 0), .int x1, .int (bi x2), .ref (a 19)] (v, fo) k (v', fo') ∧ rMet l D cI cZ a' yRM_port wsRM_port 5 [.ref (a' 0), .int x1, .int (bi x2)] r (bi bb) r' ∧ codeR r' = k ∧ (k = 0 → fo' 0 = cond bb 1 0) ∧ Rel (j + 1) v' r' := by
  obtain ⟨⟨dI, dO, dG, dN, dT⟩, ⟨aN, aB⟩, ⟨nS, nP, nR, nG, nO, nU, nT⟩, ⟨tP, tR, tO, tN, tF, tZ⟩, ⟨mP, mN⟩⟩ := v
  obtain ⟨⟨rI, rC, rN⟩, ⟨rO, rG⟩, ⟨rW, rH, rF, rT⟩, ⟨rM, rB, rX⟩, ⟨rQ, rA⟩, ⟨rE, rD⟩⟩ := r
  have hm := h.mono hj
  have hAR : ∀ u : RS, va_D (aS a' 11) (wR cI cZ a' u) := fun u => dS (wR_ad cI cZ a' u) hIb
  have hAC : ∀ u : CS, va_D (aS a 19) (wC cI cL a u) := fun u => dS (wC_ad cI cL a u) (hIa.le (by decide))
  obtain ⟨⟨e1, hI, hj0⟩, ⟨t, ⟨ht, hT1, hT2⟩, hPl, hOw⟩, hPo, ⟨hA1, ⟨g0, n0, hg0, hA2, hn0, hA3⟩, hA4⟩, hUn, ⟨hQ1, hQ2, hQ3, hQ4⟩, ⟨hM1, hM2⟩⟩ := id h
  subst e1 hT1 hT2 hA2 hA1 hQ1 hM2
  cases hx : fDB_isPort x1 with
  | false => exact ⟨1, _, _, _, _, hM_of (h_port_T l hL hIa dI dO dG (nI g0) (nI t) aN aB nS nP nR nG nO nU nT tP tR tO tN tF tZ mP mN fo x1 x2 hx) rfl rfl (by decide), rM_of (c_RM_port_bad l hAR dI rC (nI t) rO rG rW rH rF rT rM rB (nI g0) tZ rA rE mN x1 x2 (in_of _ hx in_port)) rfl rfl (by decide), rfl, fun h => absurd h (by decide), hm⟩
  | true =>
    obtain ⟨q, hq, rfl⟩ := port_ok hx
    have M1 := h_port l hL hIa (D := D) (cI := cI) (cL := cL) dI dO dG (nI g0) (nI t) aN aB nS nP nR nG nO nU nT tP tR tO tN tF tZ mP mN fo q x2 hq
    have M2 := c_RM_port l hAR (D := D) (cI := cI) (cZ := cZ) dI rC (nI t) rO rG rW rH rF rT rM rB (nI g0) tZ rA rE mN q x2 hq
    rw [fport_eq] at M2
    obtain ⟨p1, p2, p3⟩ := hPo q hq
    by_cases hb : rO q = x2
    · have e2 : fDB_port dO dG nS nP nO nU q x2 = (false, dO, dG, nS, nO, nU) := by unfold fDB_port; rw [if_pos (p1.trans hb)]
      rw [e2] at M1
      refine ⟨0, _, _, _, _, hM_of M1 rfl rfl (by decide), rM_of M2 rfl rfl (by decide), rfl, fun _ => by rw [pk_uLs, hb]; cases x2 <;> rfl, ?_⟩
      have hR : ∀ i, i < 16 → dropR False (rW i) ((QRM_port_69 q x2 16 0 rW rF rT).1 i) (rF i) ((QRM_port_69 q x2 16 0 rW rF rT).2.1 i) i rT (QRM_port_69 q x2 16 0 rW rF rT).2.2 := fun i hi => by
        cases x2
        · refine dropR_iff ⟨fun g => ?_, fun g => g.elim⟩ (p69_at (q := q) 16 0 rW rF rT i)
          obtain ⟨p, o, h', hp, ho, -, -, -, -, a4, a5, -⟩ := place_heard (hPl i hi) g.2.2.1
          have := (rw_div hp ho a4).1.symm.trans g.2.2.2
          rw [nI_eq (by omega) (by omega)] at this
          subst this
          rw [hb] at a5; cases a5
        · rw [p69_t]; exact dropR_no
      obtain ⟨d1, d2, d3⟩ := drop_rel (nT := nT) (rM := rM) (rO' := updB rO q x2) (fun _ => False) (Nat.le_refl t) hPl hOw hUn (fun i hi => dropC_no) hR (fun i hi _ p o hp ho _ h5 => by
        by_cases hpq : p = q
        · subst hpq; rw [updB_s, ← hb]; exact h5
        · rw [updB_n hpq]; exact h5)
      refine ⟨⟨rfl, hI, by omega⟩, ⟨t, ⟨ht, rfl, rfl⟩, d1, d2⟩, fun p hp => ?_, ⟨rfl, ⟨g0, n0, by omega, rfl, hn0, hA3⟩, hA4⟩, d3, ⟨rfl, hQ2, hQ3, hQ4⟩, ⟨hM1, rfl⟩⟩
      obtain ⟨w1, w2, w3⟩ := hPo p hp
      by_cases hpq : p = q
      · subst hpq
        dsimp only
        rw [updB_s, updB_s]
        refine ⟨w1.trans hb, ?_, ?_⟩
        · rw [w2]; cases hG : rG p
          · rfl
          · rw [hb] at p3; rw [p3 hG]; rfl
        · intro h; cases x2
          · rw [Bool.and_false] at h; exact h
          · rfl
      · dsimp only
        rw [updB_n hpq, updB_n hpq]; exact ⟨w1, w2, w3⟩
    · cases x2 with
      | true =>
        have hO : rO q = false := by cases h9 : rO q; rfl; exact absurd h9 hb
        have e2 : fDB_port dO dG nS nP nO nU q true = (true, dO ||| bI q, dG, nS, nO, nU) := by unfold fDB_port; rw [if_neg (fun z => by rw [p1, hO] at z; cases z)]; rfl
        rw [e2] at M1
        rw [p69_t] at M2
        refine ⟨0, _, _, _, _, hM_of M1 rfl rfl (by decide), rM_of M2 rfl rfl (by decide), rfl, fun _ => by rw [pk_uLs, hO]; rfl, ?_⟩
        refine ⟨⟨rfl, hI, by omega⟩, ⟨t, ⟨ht, rfl, rfl⟩, fun k hk => ?_, hOw⟩, fun p hp => ?_, ⟨rfl, ⟨g0, n0, by omega, rfl, hn0, hA3⟩, hA4⟩, hUn, ⟨rfl, hQ2, hQ3, hQ4⟩, ⟨hM1, rfl⟩⟩
        · rcases hPl k hk with z | ⟨p, o, h', hp, ho, hh, a1, a2, a3, a4, a5, a6⟩
          · exact Or.inl z
          · refine Or.inr ⟨p, o, h', hp, ho, hh, a1, a2, a3, a4, ?_, a6⟩
            by_cases hpq : p = q
            · subst hpq; exact updB_s
            · rw [updB_n hpq]; exact a5
        · obtain ⟨w1, w2, w3⟩ := hPo p hp
          dsimp only
          rw [isOn_or hq hp, w1, w2]
          by_cases hpq : p = q
          · subst hpq; rw [updB_s, updB_s, decide_eq_true rfl, Bool.or_true, Bool.and_true]; exact ⟨rfl, rfl, fun _ => rfl⟩
          · rw [updB_n hpq, updB_n hpq, decide_eq_false hpq, Bool.or_false]; exact ⟨rfl, rfl, w3⟩
      | false =>
        have hO : rO q = true := by cases h9 : rO q; exact absurd h9 hb; rfl
        have e2 : fDB_port dO dG nS nP nO nU q false = (true, dO &&& (bI q ^^^ (-1)), dG &&& (bI q ^^^ (-1)), (LNB_dropPort nP (nI q) 16 0 nS nO nU).1, (LNB_dropPort nP (nI q) 16 0 nS nO nU).2.1, (LNB_dropPort nP (nI q) 16 0 nS nO nU).2.2) := by unfold fDB_port; rw [if_neg (fun z => by rw [p1, hO] at z; cases z)]; rfl
        rw [e2] at M1
        refine ⟨0, _, _, _, _, hM_of M1 rfl rfl (by decide), rM_of M2 rfl rfl (by decide), rfl, fun _ => by rw [pk_uLs, hO]; rfl, ?_⟩
        have iff1 : ∀ i, i < 16 → ((0 ≤ i ∧ i < 0 + 16 ∧ ¬ rW i < 0 ∧ rW i / 64 = nI q) ↔ (0 ≤ i ∧ i < 0 + 16 ∧ ¬ nS i = 0 ∧ nP i = nI q)) := fun i hi => by
          rw [place_neg (hPl i hi)]
          refine and_congr_right fun _ => and_congr_right fun _ => and_congr_right fun h3 => ?_
          obtain ⟨p, o, h', hp, ho, -, -, a2, -, a4, -⟩ := place_heard (hPl i hi) h3
          rw [(rw_div hp ho a4).1, a2]
        obtain ⟨d1, d2, d3⟩ := drop_rel (nT := nT) (rM := rM) (rO' := updB rO q false) (fun i => 0 ≤ i ∧ i < 0 + 16 ∧ ¬ nS i = 0 ∧ nP i = nI q) (Nat.le_refl t) hPl hOw hUn (fun i hi => dp_at 16 0 nS nO nU i) (fun i hi => dropR_iff (iff1 i hi) (p69_at 16 0 rW rF rT i)) (fun i hi hc p o hp ho h4 h5 => by
          by_cases hpq : p = q
          · subst hpq
            refine absurd ((iff1 i hi).mp ⟨by omega, by omega, by rw [h4]; exact nI_pos (by omega), (rw_div hp ho h4).1⟩) hc
          · rw [updB_n hpq]; exact h5)
        refine ⟨⟨rfl, hI, by omega⟩, ⟨t, ⟨ht, rfl, rfl⟩, d1, d2⟩, fun p hp => ?_, ⟨rfl, ⟨g0, n0, by omega, rfl, hn0, hA3⟩, hA4⟩, d3, ⟨rfl, hQ2, hQ3, hQ4⟩, ⟨hM1, rfl⟩⟩
        obtain ⟨w1, w2, w3⟩ := hPo p hp
        dsimp only
        rw [isOn_clr hq hp, isOn_clr hq hp, w1, w2]
        by_cases hpq : p = q
        · subst hpq; rw [updB_s, updB_s, decide_eq_true rfl, Bool.not_true]; exact ⟨Bool.and_false _, rfl, fun h => by rw [Bool.and_false] at h; cases h⟩
        · rw [updB_n hpq, updB_n hpq, decide_eq_false hpq, Bool.not_false, Bool.and_true, Bool.and_true]; exact ⟨rfl, rfl, w3⟩
