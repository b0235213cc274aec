/-! What each loop does to a place -/
theorem updB_s {f : Nat → Bool} {k : Nat} {x : Bool} : updB f k x k = x := if_pos rfl
theorem updB_n {f : Nat → Bool} {k j : Nat} {x : Bool} (h : j ≠ k) : updB f k x j = f j := if_neg h
theorem sa2_at {j : Nat} : ∀ (n k : Nat) (rT : Nat → Int32) (q : Nat), QRM_settleAll_2 j n k rT q = if 64 * j + k ≤ q ∧ q < 64 * j + k + n then -1 else rT q := by
  intro n
  induction n with
  | zero => intro k rT q; rw [if_neg (by omega)]; rfl
  | succ n ih =>
    intro k rT q
    simp only [QRM_settleAll_2]
    rw [ih]
    by_cases h : q = 64 * j + k
    · subst h; rw [if_neg (by omega), if_pos (by omega), pk_us]
    · by_cases h2 : 64 * j + (k + 1) ≤ q ∧ q < 64 * j + (k + 1) + n
      · rw [if_pos h2, if_pos (by omega)]
      · rw [if_neg h2, if_neg (by omega), pk_un h]
/-- a place that is taken away, or stays: the class's side -/
def dropC (b : Prop) (s s' : Int32) (o o' u u' : Int64) : Prop := (b → s' = 0 ∧ o' = 0 ∧ u' = 0) ∧ (¬ b → s' = s ∧ o' = o ∧ u' = u)
/-- the reference's side -/
def dropR (b : Prop) (w w' : Int32) (f f' : Bool) (k : Nat) (rT rT' : Nat → Int32) : Prop := (b → w' = -1 ∧ f' = false ∧ ∀ o, o < 64 → rT' (64 * k + o) = -1) ∧ (¬ b → w' = w ∧ f' = f ∧ ∀ o, o < 64 → rT' (64 * k + o) = rT (64 * k + o))
theorem dp_at {nP : Nat → Int32} {x : Int32} : ∀ (n k : Nat) (nS : Nat → Int32) (nO nU : Nat → Int64) (i : Nat), dropC (k ≤ i ∧ i < k + n ∧ ¬ nS i = 0 ∧ nP i = x) (nS i) ((LNB_dropPort nP x n k nS nO nU).1 i) (nO i) ((LNB_dropPort nP x n k nS nO nU).2.1 i) (nU i) ((LNB_dropPort nP x n k nS nO nU).2.2 i) := by
  intro n
  induction n with
  | zero => intro k nS nO nU i; exact ⟨fun h => by omega, fun _ => ⟨rfl, rfl, rfl⟩⟩
  | succ n ih =>
    intro k nS nO nU i
    have keep : (nS k = 0 ∨ ¬ nP k = x) → LNB_dropPort nP x (n + 1) k nS nO nU = LNB_dropPort nP x n (k + 1) nS nO nU := by
      intro h
      simp only [LNB_dropPort]
      by_cases h1 : nS k = 0
      · rw [if_pos h1]
      · rw [if_neg h1, if_neg (h.resolve_left h1)]
    by_cases h : nS k = 0 ∨ ¬ nP k = x
    · rw [keep h]
      have := ih (k + 1) nS nO nU i
      refine ⟨fun g => this.1 ⟨?_, by omega, g.2.2⟩, fun g => this.2 (fun g2 => g ⟨by omega, by omega, g2.2.2⟩)⟩
      have : i ≠ k := fun e => by subst e; rcases h with h | h; exact g.2.2.1 h; exact h g.2.2.2
      omega
    · have h1 : ¬ nS k = 0 := fun e => h (Or.inl e)
      have h2 : nP k = x := Classical.not_not.mp (fun e => h (Or.inr e))
      simp only [LNB_dropPort]
      rw [if_neg h1, if_pos h2]
      have := ih (k + 1) (upd nS k 0) (vp_updL nO k 0) (vp_updL nU k 0) i
      by_cases hik : i = k
      · subst hik
        have h3 := this.2 (by omega)
        rw [pk_us, pk_uLs, pk_uLs] at h3
        exact ⟨fun _ => h3, fun g => absurd ⟨by omega, by omega, h1, h2⟩ g⟩
      · rw [pk_un hik, pk_uLn hik, pk_uLn hik] at this
        exact ⟨fun g => this.1 ⟨by omega, by omega, g.2.2⟩, fun g => this.2 (fun g2 => g ⟨by omega, by omega, g2.2.2⟩)⟩
theorem ds_at {nG : Nat → Int32} {x : Int32} : ∀ (n k : Nat) (nS : Nat → Int32) (nO nU : Nat → Int64) (i : Nat), dropC (k ≤ i ∧ i < k + n ∧ ¬ nS i = 0 ∧ ¬ x - nG i < 80) (nS i) ((LNB_dropSilent nG x n k nS nO nU).1 i) (nO i) ((LNB_dropSilent nG x n k nS nO nU).2.1 i) (nU i) ((LNB_dropSilent nG x n k nS nO nU).2.2 i) := by
  intro n
  induction n with
  | zero => intro k nS nO nU i; exact ⟨fun h => by omega, fun _ => ⟨rfl, rfl, rfl⟩⟩
  | succ n ih =>
    intro k nS nO nU i
    have keep : (nS k = 0 ∨ x - nG k < 80) → LNB_dropSilent nG x (n + 1) k nS nO nU = LNB_dropSilent nG x n (k + 1) nS nO nU := by
      intro h
      simp only [LNB_dropSilent]
      by_cases h1 : nS k = 0
      · rw [if_pos h1]
      · rw [if_neg h1, if_pos (h.resolve_left h1)]
    by_cases h : nS k = 0 ∨ x - nG k < 80
    · rw [keep h]
      have := ih (k + 1) nS nO nU i
      refine ⟨fun g => this.1 ⟨?_, by omega, g.2.2⟩, fun g => this.2 (fun g2 => g ⟨by omega, by omega, g2.2.2⟩)⟩
      have : i ≠ k := fun e => by subst e; rcases h with h | h; exact g.2.2.1 h; exact g.2.2.2 h
      omega
    · have h1 : ¬ nS k = 0 := fun e => h (Or.inl e)
      have h2 : ¬ x - nG k < 80 := fun e => h (Or.inr e)
      simp only [LNB_dropSilent]
      rw [if_neg h1, if_neg h2]
      have := ih (k + 1) (upd nS k 0) (vp_updL nO k 0) (vp_updL nU k 0) i
      by_cases hik : i = k
      · subst hik
        have h3 := this.2 (by omega)
        rw [pk_us, pk_uLs, pk_uLs] at h3
        exact ⟨fun _ => h3, fun g => absurd ⟨by omega, by omega, h1, h2⟩ g⟩
      · rw [pk_un hik, pk_uLn hik, pk_uLn hik] at this
        exact ⟨fun g => this.1 ⟨by omega, by omega, g.2.2⟩, fun g => this.2 (fun g2 => g ⟨by omega, by omega, g2.2.2⟩)⟩
theorem sa2_row {k : Nat} {rT : Nat → Int32} {o : Nat} (ho : o < 64) : QRM_settleAll_2 k 64 0 rT (64 * k + o) = -1 := by rw [sa2_at, if_pos (by omega)]
theorem sa2_off {k i : Nat} {rT : Nat → Int32} {o : Nat} (ho : o < 64) (h : i ≠ k) : QRM_settleAll_2 k 64 0 rT (64 * i + o) = rT (64 * i + o) := by rw [sa2_at, if_neg (by omega)]
theorem p69_at {q : Nat} : ∀ (n k : Nat) (rW : Nat → Int32) (rF : Nat → Bool) (rT : Nat → Int32) (i : Nat), dropR (k ≤ i ∧ i < k + n ∧ ¬ rW i < 0 ∧ rW i / 64 = nI q) (rW i) ((QRM_port_69 q false n k rW rF rT).1 i) (rF i) ((QRM_port_69 q false n k rW rF rT).2.1 i) i rT (QRM_port_69 q false n k rW rF rT).2.2 := by
  intro n
  induction n with
  | zero => intro k rW rF rT i; exact ⟨fun h => by omega, fun _ => ⟨rfl, rfl, fun _ _ => rfl⟩⟩
  | succ n ih =>
    intro k rW rF rT i
    have keep : (rW k < 0 ∨ ¬ rW k / 64 = nI q) → QRM_port_69 q false (n + 1) k rW rF rT = QRM_port_69 q false n (k + 1) rW rF rT := by
      intro h
      simp only [QRM_port_69, cond_false]
      by_cases h1 : rW k < 0
      · rw [if_pos h1]
      · rw [if_neg h1, if_neg (h.resolve_left h1)]
    by_cases h : rW k < 0 ∨ ¬ rW k / 64 = nI q
    · rw [keep h]
      have := ih (k + 1) rW rF rT i
      refine ⟨fun g => this.1 ⟨?_, by omega, g.2.2⟩, fun g => this.2 (fun g2 => g ⟨by omega, by omega, g2.2.2⟩)⟩
      have : i ≠ k := fun e => by subst e; rcases h with h | h; exact g.2.2.1 h; exact h g.2.2.2
      omega
    · have h1 : ¬ rW k < 0 := fun e => h (Or.inl e)
      have h2 : rW k / 64 = nI q := Classical.not_not.mp (fun e => h (Or.inr e))
      simp only [QRM_port_69, cond_false]
      rw [if_neg h1, if_pos h2]
      have := ih (k + 1) (upd rW k (-1)) (updB rF k false) (QRM_settleAll_2 k 64 0 rT) i
      by_cases hik : i = k
      · subst hik
        have h3 := this.2 (by omega)
        rw [pk_us, updB_s] at h3
        exact ⟨fun _ => ⟨h3.1, h3.2.1, fun o ho => by rw [h3.2.2 o ho, sa2_row ho]⟩, fun g => absurd ⟨by omega, by omega, h1, h2⟩ g⟩
      · rw [pk_un hik, updB_n hik] at this
        exact ⟨fun g => this.1 ⟨by omega, by omega, g.2.2⟩, fun g => by
          have h3 := this.2 (fun g2 => g ⟨by omega, by omega, g2.2.2⟩)
          exact ⟨h3.1, h3.2.1, fun o ho => by rw [h3.2.2 o ho, sa2_off ho hik]⟩⟩
theorem p69_t {q : Nat} : ∀ (n k : Nat) (rW : Nat → Int32) (rF : Nat → Bool) (rT : Nat → Int32), QRM_port_69 q true n k rW rF rT = (rW, rF, rT) := by
  intro n
  induction n with
  | zero => intro k rW rF rT; rfl
  | succ n ih => intro k rW rF rT; simp only [QRM_port_69, cond_true]; exact ih _ _ _ _
theorem r116_at {rN : Int32} {rH : Nat → Int32} : ∀ (n k : Nat) (rW : Nat → Int32) (rF : Nat → Bool) (rT : Nat → Int32) (i : Nat), dropR (k ≤ i ∧ i < k + n ∧ ¬ rW i < 0 ∧ ¬ rN - rH i < 80) (rW i) ((QRM_run_116 rN rH n k rW rF rT).1 i) (rF i) ((QRM_run_116 rN rH n k rW rF rT).2.1 i) i rT (QRM_run_116 rN rH n k rW rF rT).2.2 := by
  intro n
  induction n with
  | zero => intro k rW rF rT i; exact ⟨fun h => by omega, fun _ => ⟨rfl, rfl, fun _ _ => rfl⟩⟩
  | succ n ih =>
    intro k rW rF rT i
    have keep : (rW k < 0 ∨ rN - rH k < 80) → QRM_run_116 rN rH (n + 1) k rW rF rT = QRM_run_116 rN rH n (k + 1) rW rF rT := by
      intro h
      simp only [QRM_run_116]
      by_cases h1 : rW k < 0
      · rw [if_pos h1]
      · rw [if_neg h1, if_pos (h.resolve_left h1)]
    by_cases h : rW k < 0 ∨ rN - rH k < 80
    · rw [keep h]
      have := ih (k + 1) rW rF rT i
      refine ⟨fun g => this.1 ⟨?_, by omega, g.2.2⟩, fun g => this.2 (fun g2 => g ⟨by omega, by omega, g2.2.2⟩)⟩
      have : i ≠ k := fun e => by subst e; rcases h with h | h; exact g.2.2.1 h; exact g.2.2.2 h
      omega
    · have h1 : ¬ rW k < 0 := fun e => h (Or.inl e)
      have h2 : ¬ rN - rH k < 80 := fun e => h (Or.inr e)
      simp only [QRM_run_116]
      rw [if_neg h1, if_neg h2]
      have := ih (k + 1) (upd rW k (-1)) (updB rF k false) (QRM_settleAll_2 k 64 0 rT) i
      by_cases hik : i = k
      · subst hik
        have h3 := this.2 (by omega)
        rw [pk_us, updB_s] at h3
        exact ⟨fun _ => ⟨h3.1, h3.2.1, fun o ho => by rw [h3.2.2 o ho, sa2_row ho]⟩, fun g => absurd ⟨by omega, by omega, h1, h2⟩ g⟩
      · rw [pk_un hik, updB_n hik] at this
        exact ⟨fun g => this.1 ⟨by omega, by omega, g.2.2⟩, fun g => by
          have h3 := this.2 (fun g2 => g ⟨by omega, by omega, g2.2.2⟩)
          exact ⟨h3.1, h3.2.1, fun o ho => by rw [h3.2.2 o ho, sa2_off ho hik]⟩⟩
theorem of_at {nS : Nat → Int32} {q : Option Nat} {o : Nat} : ∀ (n k : Nat) (nO nU : Nat → Int64) (i : Nat),
    ((k ≤ i ∧ i < k + n ∧ nS i = 2 ∧ ¬ nI i = oi q) → (LNB_oweToFriendsBut nS q o n k nO nU).1 i = nO i ||| bL o ∧ (LNB_oweToFriendsBut nS q o n k nO nU).2 i = nU i ||| bL o) ∧
    (¬ (k ≤ i ∧ i < k + n ∧ nS i = 2 ∧ ¬ nI i = oi q) → (LNB_oweToFriendsBut nS q o n k nO nU).1 i = nO i ∧ (LNB_oweToFriendsBut nS q o n k nO nU).2 i = nU i) := by
  intro n
  induction n with
  | zero => intro k nO nU i; exact ⟨fun h => by omega, fun _ => ⟨rfl, rfl⟩⟩
  | succ n ih =>
    intro k nO nU i
    have keep : (¬ nS k = 2 ∨ nI k = oi q) → LNB_oweToFriendsBut nS q o (n + 1) k nO nU = LNB_oweToFriendsBut nS q o n (k + 1) nO nU := by
      intro h
      simp only [LNB_oweToFriendsBut]
      by_cases h1 : nS k = 2
      · rw [if_pos h1, if_pos (h.resolve_left (fun g => g h1))]
      · rw [if_neg h1]
    by_cases h : ¬ nS k = 2 ∨ nI k = oi q
    · rw [keep h]
      have := ih (k + 1) nO nU i
      refine ⟨fun g => this.1 ⟨?_, by omega, g.2.2⟩, fun g => this.2 (fun g2 => g ⟨by omega, by omega, g2.2.2⟩)⟩
      have : i ≠ k := fun e => by subst e; rcases h with h | h; exact h g.2.2.1; exact g.2.2.2 h
      omega
    · have h1 : nS k = 2 := Classical.not_not.mp (fun e => h (Or.inl e))
      have h2 : ¬ nI k = oi q := fun e => h (Or.inr e)
      simp only [LNB_oweToFriendsBut]
      rw [if_pos h1, if_neg h2]
      have := ih (k + 1) (vp_updL nO k (nO k ||| bL o)) (vp_updL nU k (nU k ||| bL o)) i
      by_cases hik : i = k
      · subst hik
        have h3 := this.2 (by omega)
        rw [pk_uLs, pk_uLs] at h3
        exact ⟨fun _ => h3, fun g => absurd ⟨by omega, by omega, h1, h2⟩ g⟩
      · rw [pk_uLn hik, pk_uLn hik] at this
        exact ⟨fun g => this.1 ⟨by omega, by omega, g.2.2⟩, fun g => this.2 (fun g2 => g ⟨by omega, by omega, g2.2.2⟩)⟩
theorem ln_at {rN : Int32} {rF : Nat → Bool} {o : Nat} {q : Option Nat} (ho : o < 64) : ∀ (n k : Nat) (rT : Nat → Int32) (i o' : Nat), o' < 64 →
    QRM_learn_17 rN rF o q n k rT (64 * i + o') = if k ≤ i ∧ i < k + n ∧ o' = o then (if nI i = oi q then -1 else cond (rF i) rN (rT (64 * i + o'))) else rT (64 * i + o') := by
  intro n
  induction n with
  | zero => intro k rT i o' h; rw [if_neg (by omega)]; rfl
  | succ n ih =>
    intro k rT i o' h
    have one : ∀ z : Int32, QRM_learn_17 rN rF o q n (k + 1) (upd rT (64 * k + o) z) (64 * i + o') = if i = k ∧ o' = o then z else if k ≤ i ∧ i < k + (n + 1) ∧ o' = o then (if nI i = oi q then -1 else cond (rF i) rN (rT (64 * i + o'))) else rT (64 * i + o') := by
      intro z
      rw [ih _ _ _ _ h]
      by_cases h2 : i = k ∧ o' = o
      · obtain ⟨rfl, rfl⟩ := h2; rw [if_neg (by omega), pk_us, if_pos ⟨rfl, rfl⟩]
      · rw [pk_un (by omega), if_neg h2]
        by_cases h3 : k + 1 ≤ i ∧ i < k + 1 + n ∧ o' = o
        · rw [if_pos h3, if_pos (show k ≤ i ∧ i < k + (n + 1) ∧ o' = o by omega)]
        · rw [if_neg h3, if_neg (by omega)]
    simp only [QRM_learn_17]
    by_cases h1 : nI k = oi q
    · rw [if_pos h1, one]
      by_cases h2 : i = k ∧ o' = o
      · obtain ⟨rfl, rfl⟩ := h2; rw [if_pos ⟨rfl, rfl⟩, if_pos (show i ≤ i ∧ i < i + (n + 1) ∧ o' = o' by omega), if_pos h1]
      · rw [if_neg h2]
    · rw [if_neg h1]
      cases hF : rF k
      · simp only [cond_false]
        rw [ih _ _ _ _ h]
        by_cases h2 : i = k ∧ o' = o
        · obtain ⟨rfl, rfl⟩ := h2; rw [if_neg (by omega), if_pos (show i ≤ i ∧ i < i + (n + 1) ∧ o' = o' by omega), if_neg h1, hF]; rfl
        · by_cases h3 : k + 1 ≤ i ∧ i < k + 1 + n ∧ o' = o
          · rw [if_pos h3, if_pos (show k ≤ i ∧ i < k + (n + 1) ∧ o' = o by omega)]
          · rw [if_neg h3, if_neg (by omega)]
      · simp only [cond_true]
        rw [one]
        by_cases h2 : i = k ∧ o' = o
        · obtain ⟨rfl, rfl⟩ := h2; rw [if_pos ⟨rfl, rfl⟩, if_pos (show i ≤ i ∧ i < i + (n + 1) ∧ o' = o' by omega), if_neg h1, hF]; rfl
        · rw [if_neg h2]
theorem sA_at {o : Nat} : ∀ (n k : Nat) (nO nU : Nat → Int64) (i : Nat), (k ≤ i ∧ i < k + n → (LNB_settleAll o n k nO nU).1 i = nO i &&& (bL o ^^^ (-1)) ∧ (LNB_settleAll o n k nO nU).2 i = nU i &&& (bL o ^^^ (-1))) ∧ (¬ (k ≤ i ∧ i < k + n) → (LNB_settleAll o n k nO nU).1 i = nO i ∧ (LNB_settleAll o n k nO nU).2 i = nU i) := by
  intro n
  induction n with
  | zero => intro k nO nU i; exact ⟨fun h => by omega, fun _ => ⟨rfl, rfl⟩⟩
  | succ n ih =>
    intro k nO nU i
    simp only [LNB_settleAll]
    have := ih (k + 1) (vp_updL nO k (nO k &&& (bL o ^^^ (-1)))) (vp_updL nU k (nU k &&& (bL o ^^^ (-1)))) i
    by_cases hik : i = k
    · subst hik
      have h3 := this.2 (by omega)
      rw [pk_uLs, pk_uLs] at h3
      exact ⟨fun _ => h3, fun g => by omega⟩
    · rw [pk_uLn hik, pk_uLn hik] at this
      exact ⟨fun g => this.1 (by omega), fun g => this.2 (by omega)⟩
theorem fg_at {g : Nat} (hg : g < 64) : ∀ (n k : Nat) (rT : Nat → Int32) (i o : Nat), o < 64 → QRM_forget_59 g n k rT (64 * i + o) = if k ≤ i ∧ i < k + n ∧ o = g then -1 else rT (64 * i + o) := by
  intro n
  induction n with
  | zero => intro k rT i o h; rw [if_neg (by omega)]; rfl
  | succ n ih =>
    intro k rT i o h
    simp only [QRM_forget_59]
    rw [ih _ _ _ _ h]
    by_cases h2 : i = k ∧ o = g
    · obtain ⟨rfl, rfl⟩ := h2; rw [if_neg (by omega), if_pos (by omega), pk_us]
    · rw [pk_un (by omega)]
      by_cases h3 : k + 1 ≤ i ∧ i < k + 1 + n ∧ o = g
      · rw [if_pos h3, if_pos (by omega)]
      · rw [if_neg h3, if_neg (by omega)]
theorem g107_at {rN : Int32} {rF : Nat → Bool} {rM : Nat → Int32} {b : Bool} {j : Nat} : ∀ (n k : Nat) (rT : Nat → Int32) (i o : Nat), k + n ≤ 64 → o < 64 →
    QRM_greeting_107 rN rF rM b j n k rT (64 * i + o) = if i = j ∧ k ≤ o ∧ o < k + n then cond b (cond (rF j) (rT (64 * i + o)) (if rM o ≤ 0 then rT (64 * i + o) else rN)) (-1) else rT (64 * i + o) := by
  intro n
  induction n with
  | zero => intro k rT i o h ho; rw [if_neg (by omega)]; rfl
  | succ n ih =>
    intro k rT i o h ho
    have one : ∀ z : Int32, QRM_greeting_107 rN rF rM b j n (k + 1) (upd rT (64 * j + k) z) (64 * i + o) = if i = j ∧ o = k then z else if i = j ∧ k ≤ o ∧ o < k + (n + 1) then cond b (cond (rF j) (rT (64 * i + o)) (if rM o ≤ 0 then rT (64 * i + o) else rN)) (-1) else rT (64 * i + o) := by
      intro z
      rw [ih _ _ _ _ (by omega) ho]
      by_cases h2 : i = j ∧ o = k
      · obtain ⟨rfl, rfl⟩ := h2; rw [if_neg (by omega), pk_us, if_pos ⟨rfl, rfl⟩]
      · rw [pk_un (by omega), if_neg h2]
        by_cases h3 : i = j ∧ k + 1 ≤ o ∧ o < k + 1 + n
        · rw [if_pos h3, if_pos (show i = j ∧ k ≤ o ∧ o < k + (n + 1) by omega)]
        · rw [if_neg h3, if_neg (by omega)]
    have fin : ∀ z : Int32, (i = j ∧ o = k → z = cond b (cond (rF j) (rT (64 * i + o)) (if rM o ≤ 0 then rT (64 * i + o) else rN)) (-1)) → QRM_greeting_107 rN rF rM b j n (k + 1) (upd rT (64 * j + k) z) (64 * i + o) = if i = j ∧ k ≤ o ∧ o < k + (n + 1) then cond b (cond (rF j) (rT (64 * i + o)) (if rM o ≤ 0 then rT (64 * i + o) else rN)) (-1) else rT (64 * i + o) := by
      intro z hz
      rw [one]
      by_cases h2 : i = j ∧ o = k
      · rw [if_pos h2, hz h2, if_pos (show i = j ∧ k ≤ o ∧ o < k + (n + 1) by omega)]
      · rw [if_neg h2]
    simp only [QRM_greeting_107]
    cases b
    · simp only [cond_false]; exact fin _ (fun _ => rfl)
    · simp only [cond_true] at fin ⊢
      cases hF : rF j
      · simp only [cond_false]
        rw [hF] at fin
        simp only [cond_false] at fin
        split
        · rename_i hM; exact fin _ (fun e => by obtain ⟨rfl, rfl⟩ := e; rw [if_pos hM])
        · rename_i hM; exact fin _ (fun e => by obtain ⟨rfl, rfl⟩ := e; rw [if_neg hM])
      · simp only [cond_true]
        rw [hF] at fin
        simp only [cond_true] at fin
        exact fin _ (fun e => by obtain ⟨rfl, rfl⟩ := e; rfl)
theorem n84_at : ∀ (n k : Nat) (rA : Nat → Int32) (j : Nat), QRM_next_84 n k rA j = if k ≤ j ∧ j < k + n then rA (j + 4) else rA j := by
  intro n
  induction n with
  | zero => intro k rA j; rw [if_neg (by omega)]; rfl
  | succ n ih =>
    intro k rA j
    simp only [QRM_next_84]
    rw [ih]
    by_cases h : j = k
    · subst h; rw [if_neg (by omega), if_pos (by omega), pk_us]
    · by_cases h2 : k + 1 ≤ j ∧ j < k + 1 + n
      · rw [if_pos h2, if_pos (by omega), pk_un (by omega)]
      · rw [if_neg h2, if_neg (by omega), pk_un h]
/-! loops of both sides that run alike -/
theorem count_eq {t : Nat} {rO : Nat → Bool} {nS nP nR nG rW rH : Nat → Int32} {rF : Nat → Bool} (hPl : ∀ k, k < 16 → rPlace t rO nS nP nR nG rW rH rF k) (b : Bool) : ∀ (n k : Nat) (g : Int32), k + n ≤ 16 → LNB_atLeast nS (cond b 2 1) n k g = QRM_count_9 rW rF b n k g := by
  intro n
  induction n with
  | zero => intro k g _; rfl
  | succ n ih =>
    intro k g h
    simp only [LNB_atLeast, QRM_count_9]
    rw [ih _ _ (by omega), ih _ _ (by omega), show g + 0 = g from Int32.add_zero g]
    rcases hPl k (by omega) with ⟨h1, h2, h3⟩ | ⟨p, o, h', hp, ho, -, h1, h2, h3, h4, -⟩
    · rw [h1, h2, if_pos (show (-1 : Int32) < 0 by decide), if_pos (by cases b <;> decide)]
    · rw [h4, if_neg (nI_pos (by omega)), h1]
      cases b <;> cases rF k <;> first | rw [if_pos (by decide)]; rfl | rw [if_neg (by decide)]; rfl
theorem heardOn_eq {t : Nat} {rO : Nat → Bool} {nS nP nR nG rW rH : Nat → Int32} {rF : Nat → Bool} (hPl : ∀ k, k < 16 → rPlace t rO nS nP nR nG rW rH rF k) {q : Nat} (hq : q < 8) : ∀ (n k : Nat) (w : Int64), k + n ≤ 16 → LNB_heardOn nS nP nR (nI q) n k w = QRM_greet_19 rW q n k w := by
  intro n
  induction n with
  | zero => intro k w _; rfl
  | succ n ih =>
    intro k w h
    have e0 : w ||| 0 = w := l_ext fun i hi => by rw [l_or, l_0, Bool.or_false]
    simp only [LNB_heardOn, QRM_greet_19]
    rw [ih _ _ (by omega), ih _ _ (by omega), e0]
    rcases hPl k (by omega) with ⟨h1, h2, h3⟩ | ⟨p, o, h', hp, ho, -, h1, h2, h3, h4, -⟩
    · rw [h1, h2, if_pos rfl, if_pos (show (-1 : Int32) < 0 by decide)]
    · have e1 : nI (64 * p + o) / 64 = nI p := (pk_div (d := 64) (by omega) (by decide) (by decide)).trans (by rw [show (64 * p + o) / 64 = p by omega])
      have e2 : nI (64 * p + o) - nI (64 * p + o) / nI 64 * nI 64 = nI o := (pk_rem (by omega) (by decide) (by decide)).trans (by rw [show (64 * p + o) % 64 = o by omega])
      rw [h4, if_neg (nI_pos (by omega)), h1, if_neg (by cases rF k <;> decide), h2, h3, e1, e2]
