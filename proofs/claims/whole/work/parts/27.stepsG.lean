def m6 (f : Nat → Int32) (a b c d e g : Int32) : Nat → Int32 := upd (upd (upd (upd (upd (upd f 0 a) 1 b) 2 c) 3 d) 4 e) 5 g
theorem m6_eq {f f' : Nat → Int32} {a b c d e g a' b' c' d' e' g' : Int32} (h1 : a = a') (h2 : b = b') (h3 : c = c') (h4 : d = d') (h5 : e = e') (h6 : g = g') : ∀ i, i < 6 → m6 f a b c d e g i = m6 f' a' b' c' d' e' g' i := by
  subst h1 h2 h3 h4 h5 h6
  intro i hi
  have : i = 0 ∨ i = 1 ∨ i = 2 ∨ i = 3 ∨ i = 4 ∨ i = 5 := by omega
  rcases this with rfl | rfl | rfl | rfl | rfl | rfl <;> rfl
theorem n7_some {rG : Nat → Bool} {q : Nat} : ∀ (n k : Nat), QRM_next_7 rG n k = some q → k ≤ q ∧ q < k + n ∧ rG q = true := by
  intro n
  induction n with
  | zero => intro k h; cases h
  | succ n ih =>
    intro k h
    simp only [QRM_next_7] at h
    cases hG : rG k
    · rw [hG] at h
      obtain ⟨h1, h2, h3⟩ := ih (k + 1) h
      exact ⟨by omega, by omega, h3⟩
    · rw [hG] at h
      cases h
      exact ⟨by omega, by omega, hG⟩
theorem mg_at {dG : Int32} {nS nP nR mP : Nat → Int32} {mN : Int64} {rG : Nat → Bool} (hG : ∀ q, q < 8 → fDB_isOn dG q = rG q) : ∀ n k, k + n ≤ 8 → LDB_makeGreeting dG nS nP nR mP mN n k = match QRM_next_7 rG n k with | none => (false, dG, mP, mN) | some q => (true, dG &&& ((bI q) ^^^ (-1)), m6 mP 1 (nI q) (-1) (-1) 0 0, LNB_heardOn nS nP nR (nI q) 16 0 0) := by
  intro n
  induction n with
  | zero => intro k h; rfl
  | succ n ih =>
    intro k h
    have h1 := hG k (by omega)
    unfold fDB_isOn at h1
    simp only [LDB_makeGreeting, QRM_next_7]
    by_cases hz : (dG &&& (bI k)) = 0
    · rw [if_pos hz] at h1 ⊢
      rw [← h1, ih (k + 1) (by omega)]
      rfl
    · rw [if_neg hz] at h1 ⊢
      rw [← h1]
      rfl
theorem its_iff {t k o : Nat} {nO nU : Nat → Int64} {nT rT : Nat → Int32} (ht : t ≤ 1000000) (ho : o < 64) (h : rOwe1 t (btL (nO k) o) (btL (nU k) o) (nT (k * 64 + o)) (rT (64 * k + o))) : fNB_isToBeSent nO nU nT k o (nI t) = true ↔ (¬ rT (64 * k + o) < 0 ∧ ¬ nI t < rT (64 * k + o)) := by
  unfold fNB_isToBeSent
  rcases h with ⟨h1, h2⟩ | ⟨h1, c, h2, ⟨h3, h4⟩ | ⟨h3, tt, h4, h5, h6⟩⟩
  · rw [if_pos ((and_bL ho).mpr h1)]
    exact ⟨fun z => absurd z (by decide), fun z => absurd h2 z.1⟩
  · rw [if_neg (fun z => by rw [and_bL ho, h1] at z; cases z), if_neg (fun z => by rw [and_bL ho, h3] at z; cases z), h2]
    exact ⟨fun _ => ⟨nI_pos (by omega), nI_nlt h4 (by omega)⟩, fun _ => rfl⟩
  · rw [if_neg (fun z => by rw [and_bL ho, h1] at z; cases z), if_pos ((and_bL ho).mpr h3), h2, h5, pk_sub h4]
    have e : nI (t - tt) < 15 ↔ t - tt < 15 := nI_ltI (b := 15) (by omega) (by decide)
    by_cases hd : t - tt < 15
    · rw [if_pos (e.mpr hd)]
      exact ⟨fun z => absurd z (by decide), fun z => absurd (nI_lt (by omega) (by omega)) z.2⟩
    · rw [if_neg (fun z => hd (e.mp z))]
      exact ⟨fun _ => ⟨nI_pos (by omega), nI_nlt (by omega) (by omega)⟩, fun _ => rfl⟩
theorem fs_spec {nO nU : Nat → Int64} {nT : Nat → Int32} {j : Nat} {x : Int32} : ∀ (n k : Nat), (LNB_firstToSend nO nU nT j x n k = none ∧ ∀ i, k ≤ i → i < k + n → fNB_isToBeSent nO nU nT j i x = false) ∨ (∃ o, LNB_firstToSend nO nU nT j x n k = some o ∧ k ≤ o ∧ o < k + n ∧ fNB_isToBeSent nO nU nT j o x = true ∧ ∀ i, k ≤ i → i < o → fNB_isToBeSent nO nU nT j i x = false) := by
  intro n
  induction n with
  | zero => intro k; left; exact ⟨rfl, fun i h1 h2 => by omega⟩
  | succ n ih =>
    intro k
    simp only [LNB_firstToSend]
    cases hc : fNB_isToBeSent nO nU nT j k x
    · rcases ih (k + 1) with ⟨h1, h2⟩ | ⟨o, h1, h2, h3, h4, h5⟩
      · left
        refine ⟨h1, fun i g1 g2 => ?_⟩
        by_cases hik : i = k
        · subst hik; exact hc
        · exact h2 i (by omega) (by omega)
      · right
        refine ⟨o, h1, by omega, by omega, h4, fun i g1 g2 => ?_⟩
        by_cases hik : i = k
        · subst hik; exact hc
        · exact h5 i (by omega) (by omega)
    · right; exact ⟨k, rfl, by omega, by omega, hc, fun i h1 h2 => by omega⟩
/-- a place that has something to be sent -/
def toServe (nO nU : Nat → Int64) (nT : Nat → Int32) (x : Int32) (i : Nat) : Prop := ∃ o, o < 64 ∧ fNB_isToBeSent nO nU nT i o x = true
theorem fsv_spec {nP nR nT : Nat → Int32} {nO nU : Nat → Int64} {x : Int32} {cw : Nat → Nat} (hS : ∀ i, i < 16 → toServe nO nU nT x i → ¬ nO i = 0 ∧ nP i * nI 64 + nR i = nI (cw i) ∧ cw i < 512) : ∀ (n k : Nat) (f : Option Nat) (G : Nat), k + n ≤ 16 → G ≤ 512 →
    (LNB_firstToServe nP nR nO nU nT x n k f (nI G) = f ∧ ∀ i, k ≤ i → i < k + n → toServe nO nU nT x i → G ≤ cw i) ∨ (∃ j, LNB_firstToServe nP nR nO nU nT x n k f (nI G) = some j ∧ k ≤ j ∧ j < k + n ∧ toServe nO nU nT x j ∧ cw j < G ∧ ∀ i, k ≤ i → i < k + n → toServe nO nU nT x i → cw j ≤ cw i) := by
  intro n
  induction n with
  | zero => intro k f G _ _; left; exact ⟨rfl, fun i h1 h2 => by omega⟩
  | succ n ih =>
    intro k f G hk hG
    have skip : LNB_firstToServe nP nR nO nU nT x (n + 1) k f (nI G) = LNB_firstToServe nP nR nO nU nT x n (k + 1) f (nI G) → (toServe nO nU nT x k → G ≤ cw k) → (LNB_firstToServe nP nR nO nU nT x (n + 1) k f (nI G) = f ∧ ∀ i, k ≤ i → i < k + (n + 1) → toServe nO nU nT x i → G ≤ cw i) ∨ (∃ j, LNB_firstToServe nP nR nO nU nT x (n + 1) k f (nI G) = some j ∧ k ≤ j ∧ j < k + (n + 1) ∧ toServe nO nU nT x j ∧ cw j < G ∧ ∀ i, k ≤ i → i < k + (n + 1) → toServe nO nU nT x i → cw j ≤ cw i) := by
      intro e hs
      rw [e]
      rcases ih (k + 1) f G (by omega) hG with ⟨h1, h2⟩ | ⟨j, h1, h2, h3, h4, h5, h6⟩
      · left
        refine ⟨h1, fun i g1 g2 g3 => ?_⟩
        by_cases hik : i = k
        · subst hik; exact hs g3
        · exact h2 i (by omega) (by omega) g3
      · right
        refine ⟨j, h1, by omega, by omega, h4, h5, fun i g1 g2 g3 => ?_⟩
        by_cases hik : i = k
        · subst hik; have := hs g3; omega
        · exact h6 i (by omega) (by omega) g3
    by_cases hz : nO k = 0
    · exact skip (by simp only [LNB_firstToServe]; rw [if_pos hz]) (fun z => absurd hz (hS k (by omega) z).1)
    · by_cases hl : nI G ≤ nP k * nI 64 + nR k
      · exact skip (by simp only [LNB_firstToServe]; rw [if_neg hz, if_pos hl]) (fun z => by
          obtain ⟨-, h1, h2⟩ := hS k (by omega) z
          rw [h1] at hl
          exact (nI_leI (by omega) (by omega)).mp hl)
      · rcases fs_spec (nO := nO) (nU := nU) (nT := nT) (j := k) (x := x) 64 0 with ⟨h1, h2⟩ | ⟨o, h1, h2, h3, h4, h5⟩
        · exact skip (by simp only [LNB_firstToServe]; rw [if_neg hz, if_neg hl, h1]) (fun z => by
            obtain ⟨o, g1, g2⟩ := z
            rw [h2 o (by omega) (by omega)] at g2; cases g2)
        · have hk' : toServe nO nU nT x k := ⟨o, by omega, h4⟩
          obtain ⟨-, c1, c2⟩ := hS k (by omega) hk'
          have hlt : cw k < G := by
            rw [c1] at hl
            exact Nat.not_le.mp (fun z => hl (nI_le z (by omega)))
          have e : LNB_firstToServe nP nR nO nU nT x (n + 1) k f (nI G) = LNB_firstToServe nP nR nO nU nT x n (k + 1) (some k) (nI (cw k)) := by
            simp only [LNB_firstToServe]; rw [if_neg hz, if_neg hl, h1]
            dsimp only
            rw [c1]
          rw [e]
          right
          rcases ih (k + 1) (some k) (cw k) (by omega) (by omega) with ⟨i1, i2⟩ | ⟨j, i1, i2, i3, i4, i5, i6⟩
          · refine ⟨k, i1, by omega, by omega, hk', hlt, fun i g1 g2 g3 => ?_⟩
            by_cases hik : i = k
            · subst hik; omega
            · exact i2 i (by omega) (by omega) g3
          · refine ⟨j, i1, by omega, by omega, i4, by omega, fun i g1 g2 g3 => ?_⟩
            by_cases hik : i = k
            · subst hik; omega
            · exact i6 i (by omega) (by omega) g3
/-- the reference's first advert: the least number of those that are to be sent -/
def oLe (f : Option Nat) (x : Nat) : Prop := ∃ F, f = some F ∧ F ≤ x
theorem fa13_at {rN : Int32} {rW rT : Nat → Int32} {i c : Nat} (hi : i < 16) (hc : c < 512) : ∀ (k : Nat) (f : Option Nat), k ≤ 64 → (∀ F, f = some F → F < 2 ^ 20) → (∀ o, o < 64 → ¬ rT (64 * i + o) < 0 → rW i = nI c) →
    ∃ f', QRM_firstAdvert_13 rN rW rT i k (oi f) = oi f' ∧ (f' = f ∨ ∃ o, o < k ∧ ¬ rT (64 * i + o) < 0 ∧ ¬ rN < rT (64 * i + o) ∧ f' = some (1024 * c + 64 * i + o)) ∧ (∀ x, oLe f x → oLe f' x) ∧ (∀ o, o < k → ¬ rT (64 * i + o) < 0 → ¬ rN < rT (64 * i + o) → oLe f' (1024 * c + 64 * i + o)) := by
  intro k
  induction k with
  | zero => intro f _ _ _; exact ⟨f, rfl, Or.inl rfl, fun _ h => h, fun o h => by omega⟩
  | succ k ih =>
    intro f hk hf hw
    have keep : QRM_firstAdvert_13 rN rW rT i (k + 1) (oi f) = QRM_firstAdvert_13 rN rW rT i k (oi f) → (¬ rT (64 * i + k) < 0 → ¬ rN < rT (64 * i + k) → oLe f (1024 * c + 64 * i + k)) → ∃ f', QRM_firstAdvert_13 rN rW rT i (k + 1) (oi f) = oi f' ∧ (f' = f ∨ ∃ o, o < k + 1 ∧ ¬ rT (64 * i + o) < 0 ∧ ¬ rN < rT (64 * i + o) ∧ f' = some (1024 * c + 64 * i + o)) ∧ (∀ x, oLe f x → oLe f' x) ∧ (∀ o, o < k + 1 → ¬ rT (64 * i + o) < 0 → ¬ rN < rT (64 * i + o) → oLe f' (1024 * c + 64 * i + o)) := by
      intro e hs
      obtain ⟨f', h1, h2, h3, h4⟩ := ih f (by omega) hf hw
      refine ⟨f', e.trans h1, ?_, h3, fun o g1 g2 g3 => ?_⟩
      · rcases h2 with h2 | ⟨o, g1, g2⟩
        · exact Or.inl h2
        · exact Or.inr ⟨o, by omega, g2⟩
      · by_cases hok : o = k
        · subst hok; exact h3 _ (hs g2 g3)
        · exact h4 o (by omega) g2 g3
    by_cases h1 : rT (64 * i + k) < 0
    · exact keep (by simp only [QRM_firstAdvert_13]; rw [if_pos h1]) (fun z => absurd h1 z)
    · by_cases h2 : rN < rT (64 * i + k)
      · exact keep (by simp only [QRM_firstAdvert_13]; rw [if_neg h1, if_pos h2]) (fun _ z => absurd h2 z)
      · have e0 : ((1024 * (rW i)) + (nI (64 * i))) + (nI k) = nI (1024 * c + 64 * i + k) := by
          rw [hw k (by omega) h1, show (1024 : Int32) = nI 1024 from rfl, pk_mul, nI_add, nI_add]
        have take : (∀ x, oLe f x → oLe (some (1024 * c + 64 * i + k)) x) → QRM_firstAdvert_13 rN rW rT i (k + 1) (oi f) = QRM_firstAdvert_13 rN rW rT i k (oi (some (1024 * c + 64 * i + k))) → ∃ f', QRM_firstAdvert_13 rN rW rT i (k + 1) (oi f) = oi f' ∧ (f' = f ∨ ∃ o, o < k + 1 ∧ ¬ rT (64 * i + o) < 0 ∧ ¬ rN < rT (64 * i + o) ∧ f' = some (1024 * c + 64 * i + o)) ∧ (∀ x, oLe f x → oLe f' x) ∧ (∀ o, o < k + 1 → ¬ rT (64 * i + o) < 0 → ¬ rN < rT (64 * i + o) → oLe f' (1024 * c + 64 * i + o)) := by
          intro hm e
          obtain ⟨f', g1, g2, g3, g4⟩ := ih (some (1024 * c + 64 * i + k)) (by omega) (fun F hF => by cases hF; omega) hw
          refine ⟨f', e.trans g1, Or.inr ?_, fun x hx => g3 x (hm x hx), fun o p1 p2 p3 => ?_⟩
          · rcases g2 with g2 | ⟨o, p1, p2⟩
            · exact ⟨k, by omega, h1, h2, g2⟩
            · exact ⟨o, by omega, p2⟩
          · by_cases hok : o = k
            · subst hok; exact g3 _ ⟨_, rfl, Nat.le_refl _⟩
            · exact g4 o (by omega) p2 p3
        cases f with
        | none => exact take (fun x hx => by obtain ⟨F, hF, -⟩ := hx; cases hF) (by simp only [QRM_firstAdvert_13]; rw [if_neg h1, if_neg h2, if_pos (show oi none < 0 by decide), e0]; rfl)
        | some F =>
          have hF := hf F rfl
          have hp : ¬ oi (some F) < 0 := nI_pos (show F < 2 ^ 31 by omega)
          by_cases hl : F ≤ 1024 * c + 64 * i + k
          · refine keep ?_ (fun _ _ => ⟨F, rfl, hl⟩)
            simp only [QRM_firstAdvert_13]; rw [if_neg h1, if_neg h2, if_neg hp, e0, if_pos (show oi (some F) ≤ _ from nI_le hl (by omega))]
          · refine take (fun x hx => ?_) ?_
            · obtain ⟨G, hG, hx⟩ := hx
              cases hG
              exact ⟨_, rfl, by omega⟩
            · simp only [QRM_firstAdvert_13]; rw [if_neg h1, if_neg h2, if_neg hp, e0, if_neg (show ¬ oi (some F) ≤ _ from nI_ge (by omega) (by omega))]; rfl
theorem fa4_at {rN : Int32} {rW rT : Nat → Int32} {cw : Nat → Nat} (hw : ∀ i, i < 16 → cw i < 512 ∧ ∀ o, o < 64 → ¬ rT (64 * i + o) < 0 → rW i = nI (cw i)) : ∀ (n k : Nat) (f : Option Nat), k + n ≤ 16 → (∀ F, f = some F → F < 2 ^ 20) →
    ∃ f', QRM_firstAdvert_4 rN rW rT n k (oi f) = oi f' ∧ (f' = f ∨ ∃ i o, k ≤ i ∧ i < k + n ∧ o < 64 ∧ ¬ rT (64 * i + o) < 0 ∧ ¬ rN < rT (64 * i + o) ∧ f' = some (1024 * cw i + 64 * i + o)) ∧ (∀ x, oLe f x → oLe f' x) ∧ (∀ i o, k ≤ i → i < k + n → o < 64 → ¬ rT (64 * i + o) < 0 → ¬ rN < rT (64 * i + o) → oLe f' (1024 * cw i + 64 * i + o)) := by
  intro n
  induction n with
  | zero => intro k f _ _; exact ⟨f, rfl, Or.inl rfl, fun _ h => h, fun i o h1 h2 => by omega⟩
  | succ n ih =>
    intro k f hk hf
    obtain ⟨hc, hw1⟩ := hw k (by omega)
    obtain ⟨f1, a1, a2, a3, a4⟩ := fa13_at (rN := rN) (rW := rW) (rT := rT) (i := k) (c := cw k) (by omega) hc 64 f (by omega) hf hw1
    have hf1 : ∀ F, f1 = some F → F < 2 ^ 20 := by
      intro F hF
      rcases a2 with a2 | ⟨o, p1, -, -, p2⟩
      · exact hf F (a2 ▸ hF)
      · rw [p2] at hF; cases hF; omega
    obtain ⟨f2, b1, b2, b3, b4⟩ := ih (k + 1) f1 (by omega) hf1
    refine ⟨f2, ?_, ?_, fun x hx => b3 x (a3 x hx), fun i o p1 p2 p3 p4 p5 => ?_⟩
    · simp only [QRM_firstAdvert_4]; rw [a1]; exact b1
    · rcases b2 with b2 | ⟨i, o, p1, p2, p3⟩
      · rcases a2 with a2 | ⟨o, p1, p2, p3, p4⟩
        · exact Or.inl (b2.trans a2)
        · exact Or.inr ⟨k, o, by omega, by omega, p1, p2, p3, b2.trans p4⟩
      · exact Or.inr ⟨i, o, by omega, by omega, p3⟩
    · by_cases hik : i = k
      · subst hik; exact b3 _ (a4 o p3 p4 p5)
      · exact b4 i o (by omega) (by omega) p3 p4 p5
/-- the same advert is chosen on both sides -/
theorem pick_eq {t : Nat} {rO : Nat → Bool} {nS nP nR nG rW rH : Nat → Int32} {nO nU : Nat → Int64} {nT : Nat → Int32} {rF : Nat → Bool} {rM rT : Nat → Int32} (ht : t ≤ 1000000) (hPl : ∀ k, k < 16 → rPlace t rO nS nP nR nG rW rH rF k) (hOw : rOwe t nO nU nT rF rM rT) (hUn : rUniq rW) :
    (LNB_firstToServe nP nR nO nU nT (nI t) 16 0 none 512 = none ∧ QRM_firstAdvert_4 (nI t) rW rT 16 0 (-1) = -1) ∨
    (∃ k g p o, k < 16 ∧ g < 64 ∧ p < 8 ∧ o < 64 ∧ LNB_firstToServe nP nR nO nU nT (nI t) 16 0 none 512 = some k ∧ LNB_firstToSend nO nU nT k (nI t) 64 0 = some g ∧ QRM_firstAdvert_4 (nI t) rW rT 16 0 (-1) = nI (1024 * (64 * p + o) + 64 * k + g) ∧ ¬ rT (64 * k + g) < 0 ∧ nP k = nI p ∧ nR k = nI o ∧ rW k = nI (64 * p + o)) := by
  have hd : ∀ i o, i < 16 → o < 64 → (fNB_isToBeSent nO nU nT i o (nI t) = true ↔ (¬ rT (64 * i + o) < 0 ∧ ¬ nI t < rT (64 * i + o))) := fun i o hi ho => its_iff ht ho (hOw i hi o ho).1
  have hh : ∀ i, i < 16 → ∀ o, o < 64 → ¬ rT (64 * i + o) < 0 → ¬ rW i < 0 := fun i hi o ho h hw => by
    refine h ((hOw i hi o ho).2 (Or.inl ?_))
    rcases hPl i hi with ⟨-, -, h3⟩ | ⟨p, o', h', hp, ho', -, -, -, -, h4, -⟩
    · exact h3
    · rw [h4] at hw; exact absurd hw (nI_pos (by omega))
  have hcw : ∀ i, i < 16 → (rW i).toNatClampNeg < 512 ∧ ∀ o, o < 64 → ¬ rT (64 * i + o) < 0 → rW i = nI (rW i).toNatClampNeg := fun i hi => by
    rcases hPl i hi with ⟨-, h2, -⟩ | ⟨p, o', h', hp, ho', -, -, -, -, h4, -⟩
    · rw [h2]
      refine ⟨by decide, fun o ho h => absurd (h2 ▸ m1_neg) (hh i hi o ho h)⟩
    · rw [h4, nI_clamp (by omega)]
      exact ⟨by omega, fun _ _ _ => rfl⟩
  have hS : ∀ i, i < 16 → toServe nO nU nT (nI t) i → ¬ nO i = 0 ∧ nP i * nI 64 + nR i = nI (rW i).toNatClampNeg ∧ (rW i).toNatClampNeg < 512 := fun i hi hs => by
    obtain ⟨o, ho, h1⟩ := hs
    obtain ⟨h2, -⟩ := (hd i o hi ho).mp h1
    refine ⟨fun z => ?_, ?_, (hcw i hi).1⟩
    · have h3 := (owe_b (hOw i hi o ho).1 ht).mpr h2
      rw [z, l_0] at h3; cases h3
    · obtain ⟨p, o', h', hp, ho', -, -, a2, a3, a4, -⟩ := place_heard (hPl i hi) (hh i hi o ho h2)
      rw [a2, a3, a4, nI_clamp (by omega), pk_mul, nI_add, Nat.mul_comm]
  obtain ⟨f', b1, b2, b3, b4⟩ := fa4_at (rN := nI t) (rW := rW) (rT := rT) (cw := fun i => (rW i).toNatClampNeg) hcw 16 0 none (by omega) (fun F hF => by cases hF)
  rcases fsv_spec (cw := fun i => (rW i).toNatClampNeg) hS 16 0 none 512 (by omega) (by omega) with ⟨h1, h2⟩ | ⟨k, h1, h2, h3, h4, h5, h6⟩
  · left
    refine ⟨h1, ?_⟩
    rcases b2 with b2 | ⟨i, o, p1, p2, p3, p4, p5, p6⟩
    · rw [b2] at b1; exact b1
    · have := h2 i (by omega) (by omega) ⟨o, p3, (hd i o (by omega) p3).mpr ⟨p4, p5⟩⟩
      have := (hcw i (by omega)).1
      omega
  · right
    rcases fs_spec (nO := nO) (nU := nU) (nT := nT) (j := k) (x := nI t) 64 0 with ⟨g1, g2⟩ | ⟨g, g1, g2, g3, g4, g5⟩
    · obtain ⟨o, q1, q2⟩ := h4
      rw [g2 o (by omega) (by omega)] at q2; cases q2
    · obtain ⟨d1, d2⟩ := (hd k g (by omega) (by omega)).mp g4
      obtain ⟨p, o, h', hp, ho, -, -, a2, a3, a4, -⟩ := place_heard (hPl k (by omega)) (hh k (by omega) g (by omega) d1)
      refine ⟨k, g, p, o, by omega, by omega, hp, ho, h1, g1, ?_, d1, a2, a3, a4⟩
      have ck : (rW k).toNatClampNeg = 64 * p + o := by rw [a4, nI_clamp (by omega)]
      obtain ⟨F, c1, c2⟩ := b4 k g (by omega) (by omega) (by omega) d1 d2
      rcases b2 with b2 | ⟨i, g', p1, p2, p3, p4, p5, p6⟩
      · rw [b2] at c1; cases c1
      · rw [c1] at p6
        have e6 := Option.some.inj p6
        have m1 := h6 i (by omega) (by omega) ⟨g', p3, (hd i g' (by omega) p3).mpr ⟨p4, p5⟩⟩
        have e6 : F = 1024 * (rW i).toNatClampNeg + 64 * i + g' := e6
        have m1 : (rW k).toNatClampNeg ≤ (rW i).toNatClampNeg := m1
        have c2 : F ≤ 1024 * (rW k).toNatClampNeg + 64 * k + g := c2
        have hik : i = k := by
          have e7 : (rW i).toNatClampNeg = (rW k).toNatClampNeg := by omega
          have e8 : rW i = rW k := by rw [(hcw i (by omega)).2 g' p3 p4, e7]; exact ((hcw k (by omega)).2 g (by omega) d1).symm
          refine (hUn k i (by omega) (by omega) ?_ e8.symm).symm
          rw [a4]; exact nI_pos' (by omega)
        subst hik
        have hgg : g' = g := by
          rcases Nat.lt_or_ge g' g with hlt | hge
          · have := g5 g' (by omega) hlt
            rw [(hd i g' (by omega) p3).mpr ⟨p4, p5⟩] at this; cases this
          · omega
        subst hgg
        have b5 : QRM_firstAdvert_4 (nI t) rW rT 16 0 (-1) = oi f' := b1
        rw [b5, c1, e6, ck]
        rfl
theorem fn_greet {dG dT : Int32} {aN aB nS nP nR nT tP tR tO tN mP : Nat → Int32} {nO nU : Nat → Int64} {tF tZ : Nat} {mN : Int64} {rG : Nat → Bool} {q : Nat} (hG : ∀ q, q < 8 → fDB_isOn dG q = rG q) (h : QRM_next_7 rG 8 0 = some q) :
    fDB_next dG dT aN aB nS nP nR nO nU nT tP tR tO tN tF tZ mP mN = (true, nU, nT, tF, tZ, m6 mP 1 (nI q) (-1) (-1) 0 0, LNB_heardOn nS nP nR (nI q) 16 0 0) := by
  unfold fDB_next
  rw [mg_at hG 8 0 (by omega), h]
  rfl
theorem fn_thank {dG dT : Int32} {aN aB nS nP nR nT tP tR tO tN mP : Nat → Int32} {nO nU : Nat → Int64} {tF tZ : Nat} {mN : Int64} {rG : Nat → Bool} (hG : ∀ q, q < 8 → fDB_isOn dG q = rG q) (h : QRM_next_7 rG 8 0 = none) (hZ : ¬ tZ = 0) :
    fDB_next dG dT aN aB nS nP nR nO nU nT tP tR tO tN tF tZ mP mN = (true, nU, nT, (tF + 1) % 64, tZ - 1, m6 mP 2 (tP tF) (tR tF) (tO tF) (tN tF) 0, 0) := by
  unfold fDB_next
  rw [mg_at hG 8 0 (by omega), h]
  have e : fDB_makeThanks tP tR tO tN tF tZ mP mN = (true, (tF + 1) % 64, tZ - 1, m6 mP 2 (tP tF) (tR tF) (tO tF) (tN tF) 0, 0) := by
    unfold fDB_makeThanks fTQ_isEmpty
    rw [if_neg hZ]
    rfl
  dsimp only [cond_false]
  rw [e]
  rfl
theorem fn_advert {dG dT : Int32} {aN aB nS nP nR nT tP tR tO tN mP : Nat → Int32} {nO nU : Nat → Int64} {tF : Nat} {mN : Int64} {rG : Nat → Bool} (hG : ∀ q, q < 8 → fDB_isOn dG q = rG q) (h : QRM_next_7 rG 8 0 = none) :
    fDB_next dG dT aN aB nS nP nR nO nU nT tP tR tO tN tF 0 mP mN = ((fDB_makeAdvert dT aN aB nP nR nO nU nT mP mN).1, (fDB_makeAdvert dT aN aB nP nR nO nU nT mP mN).2.1, (fDB_makeAdvert dT aN aB nP nR nO nU nT mP mN).2.2.1, tF, 0, (fDB_makeAdvert dT aN aB nP nR nO nU nT mP mN).2.2.2.1, (fDB_makeAdvert dT aN aB nP nR nO nU nT mP mN).2.2.2.2) := by
  unfold fDB_next
  rw [mg_at hG 8 0 (by omega), h]
  have e : fDB_makeThanks tP tR tO tN tF 0 mP mN = (false, tF, 0, mP, mN) := by
    unfold fDB_makeThanks fTQ_isEmpty
    rw [if_pos rfl]
    rfl
  dsimp only [cond_false]
  rw [e]
  dsimp only [cond_false]
  cases (fDB_makeAdvert dT aN aB nP nR nO nU nT mP mN).1 <;> rfl
theorem ow_sent {t : Nat} {nO nU : Nat → Int64} {nT : Nat → Int32} {rF : Nat → Bool} {rM rT : Nat → Int32} (ht : t ≤ 1000000) (hOw : rOwe t nO nU nT rF rM rT) {k g : Nat} (hk : k < 16) (hg : g < 64) (hT : ¬ rT (64 * k + g) < 0) : rOwe t nO (vp_updL nU k (nU k &&& (bL g ^^^ (-1)))) (upd nT (k * 64 + g) (nI t)) rF rM (upd rT (64 * k + g) (nI t + 15)) := by
  intro i hi o ho
  obtain ⟨h1, h2⟩ := hOw i hi o ho
  by_cases hik : i = k
  · subst hik
    rw [pk_uLs, l_clr hg ho]
    by_cases hog : o = g
    · subst hog
      rw [pk_us, pk_us, decide_eq_true rfl]
      refine ⟨Or.inr ⟨(owe_b h1 ht).mpr hT, t + 15, by rw [← nI_add]; rfl, Or.inr ⟨Bool.and_false _, t, Nat.le_refl t, rfl, rfl⟩⟩, fun z => absurd (h2 z) hT⟩
    · rw [pk_un (by omega), pk_un (by omega), decide_eq_false hog, Bool.not_false, Bool.and_true]
      exact ⟨h1, h2⟩
  · rw [pk_uLn hik, pk_un (by omega), pk_un (by omega)]
    exact ⟨h1, h2⟩
theorem que_pop {tP tR tO tN rA : Nat → Int32} {tF tZ : Nat} (h2 : tZ ≤ 64) (h3 : tF < 64) (hZ : ¬ tZ = 0) (h4 : ∀ i, i < tZ → tP ((tF + i) % 64) = rA (4 * i) ∧ tR ((tF + i) % 64) = rA (4 * i + 1) ∧ tO ((tF + i) % 64) = rA (4 * i + 2) ∧ tN ((tF + i) % 64) = rA (4 * i + 3)) :
    rQue tP tR tO tN ((tF + 1) % 64) (tZ - 1) (tZ - 1) (QRM_next_84 (4 * (tZ - 1)) 0 rA) ∧ tP tF = rA 0 ∧ tR tF = rA 1 ∧ tO tF = rA 2 ∧ tN tF = rA 3 := by
  have e0 := h4 0 (by omega)
  rw [Nat.add_zero, Nat.mod_eq_of_lt h3] at e0
  refine ⟨⟨rfl, by omega, by omega, fun i hi => ?_⟩, e0⟩
  have e := h4 (i + 1) (by omega)
  rw [show (tF + 1) % 64 + i = (tF + 1) % 64 + i from rfl, show ((tF + 1) % 64 + i) % 64 = (tF + (i + 1)) % 64 by omega, n84_at, n84_at, n84_at, n84_at, if_pos (by omega), if_pos (by omega), if_pos (by omega), if_pos (by omega)]
  rw [show 4 * i + 4 = 4 * (i + 1) by omega, show 4 * i + 1 + 4 = 4 * (i + 1) + 1 by omega, show 4 * i + 2 + 4 = 4 * (i + 1) + 2 by omega, show 4 * i + 3 + 4 = 4 * (i + 1) + 3 by omega]
  exact e
theorem fr_greet {rN : Int32} {rG : Nat → Bool} {rW rT rM rB rA rE : Nat → Int32} {rQ : Nat} {rD : Int64} {q : Nat} (h : QRM_next_7 rG 8 0 = some q) :
    fRM_next rN rG rW rT rM rB rQ rA rE rD = (true, updB rG q false, rT, rQ, rA, m6 rE 1 (nI q) (-1) (-1) 0 0, QRM_greet_19 rW q 16 0 0) := by
  unfold fRM_next
  rw [h]
  rfl
theorem fr_thank {rN : Int32} {rG : Nat → Bool} {rW rT rM rB rA rE : Nat → Int32} {rQ : Nat} {rD : Int64} (h : QRM_next_7 rG 8 0 = none) (hZ : ¬ rQ = 0) :
    fRM_next rN rG rW rT rM rB rQ rA rE rD = (true, rG, rT, rQ - 1, QRM_next_84 (4 * (rQ - 1)) 0 rA, m6 rE 2 (rA 0) (rA 1) (rA 2) (rA 3) 0, 0) := by
  unfold fRM_next
  rw [h]
  dsimp only
  rw [if_neg hZ]
  rfl
theorem fr_none {rN : Int32} {rG : Nat → Bool} {rW rT rM rB rA rE : Nat → Int32} {rD : Int64} (h : QRM_next_7 rG 8 0 = none) (hf : QRM_firstAdvert_4 rN rW rT 16 0 (-1) = -1) :
    fRM_next rN rG rW rT rM rB 0 rA rE rD = (false, rG, rT, 0, rA, rE, rD) := by
  unfold fRM_next
  rw [h, hf]
  rfl
theorem fr_advert {rN : Int32} {rG : Nat → Bool} {rW rT rM rB rA rE : Nat → Int32} {rD : Int64} {k g p o : Nat} (hk : k < 16) (hg : g < 64) (hp : p < 8) (ho : o < 64) (h : QRM_next_7 rG 8 0 = none) (hf : QRM_firstAdvert_4 rN rW rT 16 0 (-1) = nI (1024 * (64 * p + o) + 64 * k + g)) (hw : rW k = nI (64 * p + o)) :
    fRM_next rN rG rW rT rM rB 0 rA rE rD = (true, rG, upd rT (64 * k + g) (rN + 15), 0, rA, m6 rE 3 (nI p) (nI o) (nI g) (rM g) (rB g), 0) := by
  unfold fRM_next
  rw [h, hf, nI_clamp (by omega), show (1024 * (64 * p + o) + 64 * k + g) % 1024 = 64 * k + g by omega, show (64 * k + g) / 64 = k by omega, show (64 * k + g) % 64 = g by omega, (rw_div hp ho hw).1, (rw_div hp ho hw).2]
  dsimp only
  rw [if_pos rfl, if_pos (nI_pos' (by omega))]
  rfl
set_option maxHeartbeats 4000000 in
set_option maxRecDepth 100000 in
theorem step_next {l : Launch} (hL : l.stackTraces = false) {D : va_G} {cI cL cZ : ClassId} {a a' : Nat → Nat} (hIa : aI a 20) (hIb : aI a' 11) {j : Nat} {v : CS} {r : RS} (h : Rel j v r) (hj : j < 600)  : ∃ (v' : CS) (bb : Bool) (r' : RS), cMet l D cI cL a yDB_next wsDB_next 1 [.ref (a 0)] v (bi bb) v' ∧ rMet l D cI cZ a' yRM_next wsRM_next 4 [.ref (a' 0)] r (bi bb) r' ∧ Rel (j + 1) v' r' := by
  obtain ⟨⟨dI, dO, dG, dN, dT⟩, ⟨aN, aB⟩, ⟨nS, nP, nR, nG, nO, nU, nT⟩, ⟨tP, tR, tO, tN, tF, tZ⟩, ⟨mP, mN⟩⟩ := v
  obtain ⟨⟨rI, rC, rN⟩, ⟨rO, rG⟩, ⟨rW, rH, rF, rT⟩, ⟨rM, rB, rX⟩, ⟨rQ, rA⟩, ⟨rE, rD⟩⟩ := r
  have hm := h.mono hj
  have hAR : ∀ u : RS, va_D (aS a' 11) (wR cI cZ a' u) := fun u => dS (wR_ad cI cZ a' u) hIb
  have hAC : ∀ u : CS, va_D (aS a 19) (wC cI cL a u) := fun u => dS (wC_ad cI cL a u) (hIa.le (by decide))
  obtain ⟨⟨e1, hI, hj0⟩, ⟨t, ⟨ht, hT1, hT2⟩, hPl, hOw⟩, hPo, ⟨hA1, ⟨g0, n0, hg0, hA2, hn0, hA3⟩, hA4⟩, hUn, ⟨hQ1, hQ2, hQ3, hQ4⟩, ⟨hM1, hM2⟩⟩ := id h
  subst e1 hT1 hT2 hA2 hA1 hQ1 hM2
  have hG : ∀ q, q < 8 → fDB_isOn dG q = rG q := fun q hq => (hPo q hq).2.1
  have M1 := c_DB_next l hAC (D := D) (cI := cI) (cL := cL) dI dO dG (nI g0) (nI t) aN aB nS nP nR nG nO nU nT tP tR tO tN tF tZ mP mN hQ3 hQ2
  have M2 := c_RM_next l hAR (D := D) (cI := cI) (cZ := cZ) dI rC (nI t) rO rG rW rH rF rT rM rB (nI g0) tZ rA rE mN hQ2
  have e0 := mg_at (nS := nS) (nP := nP) (nR := nR) (mP := mP) (mN := mN) hG 8 0 (by omega)
  cases h7 : QRM_next_7 rG 8 0 with
  | some q =>
    obtain ⟨-, hq, hGq⟩ := n7_some 8 0 h7
    rw [h7] at e0
    rw [fn_greet hG h7, e0] at M1
    rw [fr_greet h7] at M2
    refine ⟨_, true, _, cM_of M1 rfl rfl (by decide), rM_of M2 rfl rfl (by decide), ?_⟩
    refine ⟨⟨rfl, hI, by omega⟩, ⟨t, ⟨ht, rfl, rfl⟩, hPl, hOw⟩, fun p hp => ?_, ⟨rfl, ⟨g0, n0, by omega, rfl, hn0, hA3⟩, hA4⟩, hUn, ⟨rfl, hQ2, hQ3, hQ4⟩, ⟨m6_eq rfl rfl rfl rfl rfl rfl, heardOn_eq hPl (by omega) 16 0 0 (by omega)⟩⟩
    obtain ⟨w1, w2, w3⟩ := hPo p hp
    dsimp only
    rw [isOn_clr (by omega) hp, w2]
    by_cases hpq : p = q
    · subst hpq; rw [updB_s, decide_eq_true rfl, Bool.not_true]; exact ⟨w1, Bool.and_false _, fun h => by cases h⟩
    · rw [updB_n hpq, decide_eq_false hpq, Bool.not_false, Bool.and_true]; exact ⟨w1, rfl, w3⟩
  | none =>
    rw [h7] at e0
    by_cases hZ : tZ = 0
    · subst hZ
      rw [fn_advert hG h7, e0] at M1
      rcases pick_eq ht hPl hOw hUn with ⟨p1, p2⟩ | ⟨k, g, p, o, hk, hg, hp, ho, p1, p2, p3, p4, p5, p6, p7⟩
      · have e1 : fDB_makeAdvert (nI t) aN aB nP nR nO nU nT mP mN = (false, nU, nT, mP, mN) := by unfold fDB_makeAdvert; rw [p1]
        rw [e1] at M1
        rw [fr_none h7 p2] at M2
        exact ⟨_, false, _, cM_of M1 rfl rfl (by decide), rM_of M2 rfl rfl (by decide), ⟨⟨rfl, hI, by omega⟩, ⟨t, ⟨ht, rfl, rfl⟩, hPl, hOw⟩, hPo, ⟨rfl, ⟨g0, n0, by omega, rfl, hn0, hA3⟩, hA4⟩, hUn, ⟨rfl, hQ2, hQ3, hQ4⟩, ⟨hM1, rfl⟩⟩⟩
      · have e1 : fDB_makeAdvert (nI t) aN aB nP nR nO nU nT mP mN = (true, vp_updL nU k ((nU k) &&& ((bL g) ^^^ (-1))), upd nT ((k * 64) + g) (nI t), m6 mP 3 (nI p) (nI o) (nI g) (aN g) (aB g), 0) := by
          unfold fDB_makeAdvert; rw [p1]; dsimp only; rw [p2, p5, p6]; rfl
        rw [e1] at M1
        rw [fr_advert hk hg hp ho h7 p3 p7] at M2
        obtain ⟨a1, a2, -⟩ := hA4 g hg
        exact ⟨_, true, _, cM_of M1 rfl rfl (by decide), rM_of M2 rfl rfl (by decide), ⟨⟨rfl, hI, by omega⟩, ⟨t, ⟨ht, rfl, rfl⟩, hPl, ow_sent ht hOw hk hg p4⟩, hPo, ⟨rfl, ⟨g0, n0, by omega, rfl, hn0, hA3⟩, hA4⟩, hUn, ⟨rfl, hQ2, hQ3, hQ4⟩, ⟨m6_eq rfl rfl rfl rfl a1 a2, rfl⟩⟩⟩
    · rw [fn_thank hG h7 hZ, e0] at M1
      rw [fr_thank h7 hZ] at M2
      obtain ⟨z1, z2, z3, z4, z5⟩ := que_pop hQ2 hQ3 hZ hQ4
      exact ⟨_, true, _, cM_of M1 rfl rfl (by decide), rM_of M2 rfl rfl (by decide), ⟨⟨rfl, hI, by omega⟩, ⟨t, ⟨ht, rfl, rfl⟩, hPl, hOw⟩, hPo, ⟨rfl, ⟨g0, n0, by omega, rfl, hn0, hA3⟩, hA4⟩, hUn, z1, ⟨m6_eq rfl z2 z3 z4 z5 rfl, rfl⟩⟩⟩
