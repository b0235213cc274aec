theorem land_split {l c h m : Nat} (hl : l < 256) (hc : c < 256) : (l + 256 * h) &&& (c + 256 * m) = (l &&& c) + 256 * (h &&& m) := by
  have e1 : ((l + 256 * h) &&& (c + 256 * m)) % 2 ^ 8 = l &&& c := by
    rw [Nat.and_mod_two_pow, show (l + 256 * h) % 2 ^ 8 = l by omega, show (c + 256 * m) % 2 ^ 8 = c by omega]
  have e2 : ((l + 256 * h) &&& (c + 256 * m)) / 2 ^ 8 = h &&& m := by
    rw [Nat.and_div_two_pow, show (l + 256 * h) / 2 ^ 8 = h by omega, show (c + 256 * m) / 2 ^ 8 = m by omega]
  have e3 := Nat.mod_add_div ((l + 256 * h) &&& (c + 256 * m)) (2 ^ 8)
  rw [e1, e2] at e3
  exact e3.symm
def pc1 (m x : Nat) : Nat := x - ((x / 2) &&& m)
def pc2 (m x : Nat) : Nat := (x &&& m) + ((x / 4) &&& m)
def pc3 (m x : Nat) : Nat := (x + x / 16) &&& m
def pmk (c : Nat) : Nat → Nat
  | 0 => 0
  | n + 1 => c + 256 * pmk c n
def py8 (b : Nat) : Nat := pc2 51 (pc1 85 b)
def pf8 (b : Nat) : Nat := pc3 15 (py8 b)
def dcnt (f : Nat → Bool) : Nat → Nat → Nat
  | 0, _ => 0
  | n + 1, k => cond (f k) 1 0 + dcnt f n (k + 1)
theorem pb1 : ∀ b, b < 256 → (b / 2 + 128) &&& 85 = (b / 2) &&& 85 := by decide +kernel
theorem pb2 : ∀ b, b < 256 → ∀ r, r < 4 → (b / 4 + 64 * r) &&& 51 = (b / 4) &&& 51 := by decide +kernel
theorem pb3 : ∀ b, b < 256 → ∀ r, r < 16 → (b + b / 16 + 16 * r) &&& 15 = (b + b / 16) &&& 15 := by decide +kernel
theorem pb4 : ∀ b, b < 256 → pc1 85 b < 256 ∧ py8 b ≤ 68 ∧ py8 b % 16 ≤ 4 ∧ pf8 b ≤ 8 := by decide +kernel
theorem pb5 : ∀ b, b < 256 → pf8 b = dcnt (fun i => b.testBit i) 8 0 := by decide +kernel
theorem pc1_split {b x m : Nat} (hb : b < 256) : pc1 (85 + 256 * m) (b + 256 * x) = pc1 85 b + 256 * pc1 m x := by
  unfold pc1
  rw [show (b + 256 * x) / 2 = (b / 2 + 128 * (x % 2)) + 256 * (x / 2) by omega, land_split (by omega) (by decide)]
  have e : (b / 2 + 128 * (x % 2)) &&& 85 = (b / 2) &&& 85 := by
    rcases (show x % 2 = 0 ∨ x % 2 = 1 by omega) with h | h
    · rw [h, Nat.mul_zero, Nat.add_zero]
    · rw [h]; exact pb1 b hb
  rw [e]
  have h1 : (b / 2) &&& 85 ≤ b / 2 := Nat.and_le_left
  have h2 : (x / 2) &&& m ≤ x / 2 := Nat.and_le_left
  omega
theorem pc2_split {b x m : Nat} (hb : b < 256) : pc2 (51 + 256 * m) (b + 256 * x) = pc2 51 b + 256 * pc2 m x := by
  unfold pc2
  rw [land_split hb (by decide), show (b + 256 * x) / 4 = (b / 4 + 64 * (x % 4)) + 256 * (x / 4) by omega, land_split (by omega) (by decide), pb2 b hb (x % 4) (by omega)]
  omega
theorem pc3_split {b x m : Nat} (hb : b ≤ 68) (hx : x % 16 ≤ 4) : pc3 (15 + 256 * m) (b + 256 * x) = pc3 15 b + 256 * pc3 m x := by
  unfold pc3
  rw [show b + 256 * x + (b + 256 * x) / 16 = (b + b / 16 + 16 * (x % 16)) + 256 * (x + x / 16) by omega, land_split (by omega) (by decide), pb3 b (by omega) (x % 16) (by omega)]
def pyn (n x : Nat) : Nat := pc2 (pmk 51 n) (pc1 (pmk 85 n) x)
def ppn (n x : Nat) : Nat := pc3 (pmk 15 n) (pyn n x)
theorem pyn_s {n b x : Nat} (hb : b < 256) : pyn (n + 1) (b + 256 * x) = py8 b + 256 * pyn n x := by
  unfold pyn
  show pc2 (51 + 256 * pmk 51 n) (pc1 (85 + 256 * pmk 85 n) (b + 256 * x)) = _
  rw [pc1_split hb, pc2_split (pb4 b hb).1]
  rfl
theorem pyn_low : ∀ (n x : Nat), x < 256 ^ n → pyn n x % 16 ≤ 4 := by
  intro n x hx
  cases n with
  | zero =>
    have : x = 0 := by simp at hx; exact hx
    subst this; decide
  | succ n =>
    have e : x = x % 256 + 256 * (x / 256) := (Nat.mod_add_div x 256).symm
    rw [e, pyn_s (by omega)]
    have := (pb4 (x % 256) (by omega)).2.2.1
    omega
theorem ppn_s {n b x : Nat} (hb : b < 256) (hx : x < 256 ^ n) : ppn (n + 1) (b + 256 * x) = pf8 b + 256 * ppn n x := by
  unfold ppn
  rw [pyn_s hb]
  show pc3 (15 + 256 * pmk 15 n) _ = _
  rw [pc3_split (pb4 b hb).2.1 (pyn_low n x hx)]
  rfl
theorem dcnt_cong {f g : Nat → Bool} : ∀ (n k : Nat), (∀ i, k ≤ i → i < k + n → f i = g i) → dcnt f n k = dcnt g n k := by
  intro n
  induction n with
  | zero => intro k _; rfl
  | succ n ih => intro k h; show cond (f k) 1 0 + _ = cond (g k) 1 0 + _; rw [h k (by omega) (by omega), ih (k + 1) (fun i h1 h2 => h i (by omega) (by omega))]
theorem dcnt_add {f : Nat → Bool} : ∀ (n m k : Nat), dcnt f (n + m) k = dcnt f n k + dcnt f m (k + n) := by
  intro n
  induction n with
  | zero => intro m k; show _ = 0 + _; rw [Nat.zero_add, Nat.zero_add]; rfl
  | succ n ih =>
    intro m k
    rw [show n + 1 + m = (n + m) + 1 by omega]
    show cond (f k) 1 0 + dcnt f (n + m) (k + 1) = cond (f k) 1 0 + dcnt f n (k + 1) + _
    rw [ih, show k + 1 + n = k + (n + 1) by omega]
    omega
theorem dcnt_sh {f : Nat → Bool} {d : Nat} : ∀ (n k : Nat), dcnt f n (k + d) = dcnt (fun i => f (i + d)) n k := by
  intro n
  induction n with
  | zero => intro k; rfl
  | succ n ih => intro k; show cond (f (k + d)) 1 0 + _ = cond (f (k + d)) 1 0 + _; rw [← ih (k + 1), show k + d + 1 = k + 1 + d by omega]
/-- one byte: what the count makes of it, and how many bits it has -/
theorem byte_s {n x : Nat} (hx : x < 256 ^ (n + 1)) : ∃ c, c ≤ 8 ∧ x / 256 < 256 ^ n ∧ ppn (n + 1) x = c + 256 * ppn n (x / 256) ∧ dcnt (fun i => x.testBit i) (8 * (n + 1)) 0 = c + dcnt (fun i => (x / 256).testBit i) (8 * n) 0 := by
  have hX : x / 256 < 256 ^ n := by
    rw [Nat.div_lt_iff_lt_mul (by decide)]
    rw [Nat.pow_succ] at hx
    exact hx
  refine ⟨pf8 (x % 256), (pb4 _ (by omega)).2.2.2, hX, ?_, ?_⟩
  · have e : x = x % 256 + 256 * (x / 256) := (Nat.mod_add_div x 256).symm
    have := ppn_s (n := n) (b := x % 256) (x := x / 256) (by omega) hX
    rw [← e] at this
    exact this
  · rw [show 8 * (n + 1) = 8 + 8 * n by omega, dcnt_add, pb5 _ (by omega)]
    congr 1
    · refine dcnt_cong 8 0 (fun i _ hi => ?_)
      rw [show x % 256 = x % 2 ^ 8 from rfl, Nat.testBit_mod_two_pow, decide_eq_true (by omega), Bool.true_and]
    · rw [dcnt_sh (d := 8) (8 * n) 0]
      refine dcnt_cong _ 0 (fun i _ hi => ?_)
      rw [show x / 256 = x / 2 ^ 8 from rfl, Nat.testBit_div_two_pow]
theorem ush_n (w : Int64) (y : Int32) (k : Nat) (hs : ((y.toInt64.toUInt64 &&& Int64.toUInt64 63).toBitVec % 64).toNat = k) : (ush w y).toBitVec.toNat = w.toBitVec.toNat / 2 ^ k := by
  have e : (ush w y).toBitVec = w.toBitVec >>> k := by
    rw [← hs]
    exact UInt64.toBitVec_shiftRight _ _
  rw [e, BitVec.toNat_ushiftRight, Nat.shiftRight_eq_div_pow]
theorem l_andn (x y : Int64) : (x &&& y).toBitVec.toNat = x.toBitVec.toNat &&& y.toBitVec.toNat := by rw [Int64.toBitVec_and, BitVec.toNat_and]
theorem l_addn (x y : Int64) (h : x.toBitVec.toNat + y.toBitVec.toNat < 2 ^ 64) : (x + y).toBitVec.toNat = x.toBitVec.toNat + y.toBitVec.toNat := by rw [Int64.toBitVec_add, BitVec.toNat_add, Nat.mod_eq_of_lt h]
theorem l_subn (x y : Int64) (h : y.toBitVec.toNat ≤ x.toBitVec.toNat) : (x - y).toBitVec.toNat = x.toBitVec.toNat - y.toBitVec.toNat := by
  rw [Int64.toBitVec_sub, BitVec.toNat_sub]
  have := x.toBitVec.isLt
  omega
theorem ppn_bound {x : Nat} (hx : x < 256 ^ 8) : ∃ c0 c1 c2 c3 c4 c5 c6 c7, (c0 ≤ 8 ∧ c1 ≤ 8 ∧ c2 ≤ 8 ∧ c3 ≤ 8 ∧ c4 ≤ 8 ∧ c5 ≤ 8 ∧ c6 ≤ 8 ∧ c7 ≤ 8) ∧ ppn 8 x = c0 + 256 * (c1 + 256 * (c2 + 256 * (c3 + 256 * (c4 + 256 * (c5 + 256 * (c6 + 256 * c7)))))) ∧ dcnt (fun i => x.testBit i) 64 0 = c0 + (c1 + (c2 + (c3 + (c4 + (c5 + (c6 + c7)))))) := by
  obtain ⟨c0, h0, x1, e0, d0⟩ := byte_s hx
  obtain ⟨c1, h1, x2, e1, d1⟩ := byte_s x1
  obtain ⟨c2, h2, x3, e2, d2⟩ := byte_s x2
  obtain ⟨c3, h3, x4, e3, d3⟩ := byte_s x3
  obtain ⟨c4, h4, x5, e4, d4⟩ := byte_s x4
  obtain ⟨c5, h5, x6, e5, d5⟩ := byte_s x5
  obtain ⟨c6, h6, x7, e6, d6⟩ := byte_s x6
  obtain ⟨c7, h7, x8, e7, d7⟩ := byte_s x7
  refine ⟨c0, c1, c2, c3, c4, c5, c6, c7, ⟨h0, h1, h2, h3, h4, h5, h6, h7⟩, ?_, ?_⟩
  · rw [e0, e1, e2, e3, e4, e5, e6, e7]
    have hz : ∀ z, z < 256 ^ 0 → ppn 0 z = 0 := fun z hz => by
      have : z = 0 := by simp at hz; exact hz
      subst this; decide
    rw [hz _ x8]
    rfl
  · rw [show (64 : Nat) = 8 * (7 + 1) from rfl, d0, d1, d2, d3, d4, d5, d6, d7]
    rfl
theorem pc1_le {m x : Nat} : ((x / 2) &&& m) ≤ x := Nat.le_trans Nat.and_le_left (Nat.div_le_self _ _)
theorem bc_m1 : (6148914691236517205 : Int64).toBitVec.toNat = pmk 85 8 := by decide +kernel
theorem bc_m2 : (3689348814741910323 : Int64).toBitVec.toNat = pmk 51 8 := by decide +kernel
theorem bc_m3 : (1085102592571150095 : Int64).toBitVec.toNat = pmk 15 8 := by decide +kernel
theorem bc_51 : pmk 51 8 = 3689348814741910323 := by decide +kernel
theorem bc_b1 (w : Int64) : (bc1 w).toBitVec.toNat = pc1 (pmk 85 8) w.toBitVec.toNat := by
  unfold bc1 pc1
  have e : (ush w 1 &&& 6148914691236517205).toBitVec.toNat = (w.toBitVec.toNat / 2) &&& pmk 85 8 := by rw [l_andn, ush_n w 1 1 (by decide +kernel), bc_m1]
  rw [l_subn _ _ (by rw [e]; exact pc1_le), e]
theorem bc_b2 (v : Int64) {x : Nat} (hv : v.toBitVec.toNat = x) : (bc2 v).toBitVec.toNat = pc2 (pmk 51 8) x ∧ pc2 (pmk 51 8) x ≤ 2 * 3689348814741910323 := by
  unfold bc2 pc2
  have e1 : (v &&& 3689348814741910323).toBitVec.toNat = x &&& pmk 51 8 := by rw [l_andn, hv, bc_m2]
  have e2 : (ush v 2 &&& 3689348814741910323).toBitVec.toNat = (x / 4) &&& pmk 51 8 := by rw [l_andn, ush_n _ 2 2 (by decide +kernel), hv, bc_m2]
  have g1 : x &&& pmk 51 8 ≤ 3689348814741910323 := bc_51 ▸ Nat.and_le_right
  have g2 : (x / 4) &&& pmk 51 8 ≤ 3689348814741910323 := bc_51 ▸ Nat.and_le_right
  generalize x &&& pmk 51 8 = A at e1 g1 ⊢
  generalize (x / 4) &&& pmk 51 8 = B at e2 g2 ⊢
  rw [l_addn _ _ (by rw [e1, e2]; omega), e1, e2]
  exact ⟨rfl, by omega⟩
theorem bc_b3 (v : Int64) {x : Nat} (hv : v.toBitVec.toNat = x) (hx : x ≤ 2 * 3689348814741910323) : (bc3 v).toBitVec.toNat = pc3 (pmk 15 8) x := by
  unfold bc3 pc3
  have e1 : (ush v 4).toBitVec.toNat = x / 16 := by rw [ush_n _ 4 4 (by decide +kernel), hv]
  rw [l_andn, l_addn _ _ (by rw [hv, e1]; omega), hv, e1, bc_m3]
theorem bc_b4 (z : Int64) (y : Int32) (k : Nat) {Y : Nat} (hz : z.toBitVec.toNat = Y) (hk : ((y.toInt64.toUInt64 &&& Int64.toUInt64 63).toBitVec % 64).toNat = k) (hY : Y + Y / 2 ^ k < 2 ^ 64) : (bc4 y z).toBitVec.toNat = Y + Y / 2 ^ k := by
  unfold bc4
  have e1 := ush_n z y k hk
  rw [hz] at e1
  rw [l_addn _ _ (by rw [e1, hz]; exact hY), e1, hz]
theorem bf1 {Y c X : Nat} (h : Y = c + 256 * X) (hc : c ≤ 8) : Y / 2 ^ 8 = X := by omega
theorem bf2 {Y a b Z : Nat} (h : Y = a + 256 * b + 65536 * Z) (ha : a ≤ 16) (hb : b ≤ 16) : Y / 2 ^ 16 = Z := by omega
theorem bf3 {Y M V : Nat} (h : Y = M + 4294967296 * V) (hM : M < 4294967296) : Y / 2 ^ 32 = V := by omega
theorem bf4 {c0 c1 c2 X1 X2 X3 : Nat} (h1 : X1 = c1 + 256 * X2) (h2 : X2 = c2 + 256 * X3) : c0 + 256 * X1 + X1 = (c0 + c1) + 256 * (c1 + c2) + 65536 * (X2 + X3) := by omega
theorem bf5 {Y1 c0 c1 c2 c3 c4 c5 c6 X2 X3 X4 X5 X6 X7 : Nat} (h0 : Y1 = (c0 + c1) + 256 * (c1 + c2) + 65536 * (X2 + X3)) (h2 : X2 = c2 + 256 * X3) (h3 : X3 = c3 + 256 * X4) (h4 : X4 = c4 + 256 * X5) (h5 : X5 = c5 + 256 * X6) (h6 : X6 = c6 + 256 * X7) :
    Y1 + (X2 + X3) = ((c0 + c1 + c2 + c3) + 256 * (c1 + c2 + c3 + c4) + 65536 * (c2 + c3 + c4 + c5) + 16777216 * (c3 + c4 + c5 + c6)) + 4294967296 * (X4 + X5 + X6 + X7) := by omega
theorem bf6 {c0 c1 c2 c3 A B C V c4 c5 c6 c7 X4 X5 X6 X7 : Nat} (h4 : X4 = c4 + 256 * X5) (h5 : X5 = c5 + 256 * X6) (h6 : X6 = c6 + 256 * X7) (h7 : X7 = c7) (hs : c0 + c1 + c2 + c3 + c4 + c5 + c6 + c7 ≤ 64) :
    ((c0 + c1 + c2 + c3) + 256 * A + 65536 * B + 16777216 * C + 4294967296 * V + (X4 + X5 + X6 + X7)) % 2 ^ 32 % 2 ^ 7 = c0 + (c1 + (c2 + (c3 + (c4 + (c5 + (c6 + c7)))))) := by omega
theorem bf7 {X c Z B : Nat} (h : X = c + 256 * Z) (hc : c ≤ 8) (hZ : Z ≤ B) : X ≤ 8 + 256 * B := by omega
theorem bf8 {c0 c1 c2 c3 c4 c5 c6 : Nat} (h0 : c0 ≤ 8) (h1 : c1 ≤ 8) (h2 : c2 ≤ 8) (h3 : c3 ≤ 8) (h4 : c4 ≤ 8) (h5 : c5 ≤ 8) (h6 : c6 ≤ 8) : (c0 + c1 + c2 + c3) + 256 * (c1 + c2 + c3 + c4) + 65536 * (c2 + c3 + c4 + c5) + 16777216 * (c3 + c4 + c5 + c6) < 4294967296 := by omega
theorem bf9 {c0 c1 c2 c3 c4 c5 c6 c7 : Nat} (h0 : c0 ≤ 8) (h1 : c1 ≤ 8) (h2 : c2 ≤ 8) (h3 : c3 ≤ 8) (h4 : c4 ≤ 8) (h5 : c5 ≤ 8) (h6 : c6 ≤ 8) (h7 : c7 ≤ 8) : c0 + c1 + c2 + c3 + c4 + c5 + c6 + c7 ≤ 64 := by omega
theorem bf10 {c0 X1 X2 X3 X4 X5 X6 X7 : Nat} (h0 : c0 ≤ 8) (b1 : X1 ≤ 8 + 256 * (8 + 256 * (8 + 256 * (8 + 256 * (8 + 256 * (8 + 256 * 8)))))) (b2 : X2 ≤ 8 + 256 * (8 + 256 * (8 + 256 * (8 + 256 * (8 + 256 * 8))))) (b3 : X3 ≤ 8 + 256 * (8 + 256 * (8 + 256 * (8 + 256 * 8)))) (b4 : X4 ≤ 8 + 256 * (8 + 256 * (8 + 256 * 8))) (b5 : X5 ≤ 8 + 256 * (8 + 256 * 8)) (b6 : X6 ≤ 8 + 256 * 8) (b7 : X7 ≤ 8) :
    c0 + 256 * X1 + X1 < 2 ^ 64 ∧ c0 + 256 * X1 + X1 + (X2 + X3) < 2 ^ 64 ∧ c0 + 256 * X1 + X1 + (X2 + X3) + (X4 + X5 + X6 + X7) < 2 ^ 64 := by omega
theorem bc_fin {Y c0 c1 c2 c3 c4 c5 c6 c7 : Nat} (h : c0 ≤ 8 ∧ c1 ≤ 8 ∧ c2 ≤ 8 ∧ c3 ≤ 8 ∧ c4 ≤ 8 ∧ c5 ≤ 8 ∧ c6 ≤ 8 ∧ c7 ≤ 8) (hp : Y = c0 + 256 * (c1 + 256 * (c2 + 256 * (c3 + 256 * (c4 + 256 * (c5 + 256 * (c6 + 256 * c7))))))) :
    ∃ Y1 Y2 Y3, Y1 = Y + Y / 2 ^ 8 ∧ Y2 = Y1 + Y1 / 2 ^ 16 ∧ Y3 = Y2 + Y2 / 2 ^ 32 ∧ Y1 < 2 ^ 64 ∧ Y2 < 2 ^ 64 ∧ Y3 < 2 ^ 64 ∧ Y3 % 2 ^ 32 % 2 ^ 7 = c0 + (c1 + (c2 + (c3 + (c4 + (c5 + (c6 + c7)))))) := by
  obtain ⟨h0, h1, h2, h3, h4, h5, h6, h7⟩ := h
  obtain ⟨X7, e7⟩ : ∃ X, X = c7 := ⟨_, rfl⟩
  obtain ⟨X6, e6⟩ : ∃ X, X = c6 + 256 * X7 := ⟨_, rfl⟩
  obtain ⟨X5, e5⟩ : ∃ X, X = c5 + 256 * X6 := ⟨_, rfl⟩
  obtain ⟨X4, e4⟩ : ∃ X, X = c4 + 256 * X5 := ⟨_, rfl⟩
  obtain ⟨X3, e3⟩ : ∃ X, X = c3 + 256 * X4 := ⟨_, rfl⟩
  obtain ⟨X2, e2⟩ : ∃ X, X = c2 + 256 * X3 := ⟨_, rfl⟩
  obtain ⟨X1, e1⟩ : ∃ X, X = c1 + 256 * X2 := ⟨_, rfl⟩
  rw [← e7, ← e6, ← e5, ← e4, ← e3, ← e2, ← e1] at hp
  have b7 : X7 ≤ 8 := by rw [e7]; exact h7
  have b6 := bf7 e6 h6 b7
  have b5 := bf7 e5 h5 b6
  have b4 := bf7 e4 h4 b5
  have b3 := bf7 e3 h3 b4
  have b2 := bf7 e2 h2 b3
  have b1 := bf7 e1 h1 b2
  have q1 := bf1 hp h0
  have s1 := bf4 (c0 := c0) e1 e2
  have q2 := bf2 s1 (Nat.add_le_add h0 h1) (Nat.add_le_add h1 h2)
  have s2 : c0 + 256 * X1 + X1 + (X2 + X3) = _ := bf5 s1 e2 e3 e4 e5 e6
  have q3 := bf3 s2 (bf8 h0 h1 h2 h3 h4 h5 h6)
  have f := bf6 (c0 := c0) (c1 := c1) (c2 := c2) (c3 := c3) (A := c1 + c2 + c3 + c4) (B := c2 + c3 + c4 + c5) (C := c3 + c4 + c5 + c6) (V := X4 + X5 + X6 + X7) e4 e5 e6 e7 (bf9 h0 h1 h2 h3 h4 h5 h6 h7)
  obtain ⟨l1, l2, l3⟩ := bf10 h0 b1 b2 b3 b4 b5 b6 b7
  refine ⟨c0 + 256 * X1 + X1, c0 + 256 * X1 + X1 + (X2 + X3), c0 + 256 * X1 + X1 + (X2 + X3) + (X4 + X5 + X6 + X7), by rw [q1, hp], by rw [q2], by rw [q3], l1, l2, l3, ?_⟩
  rw [s2]; exact f
theorem bcN_eq (w : Int64) : bcN w = nI (dcnt (btL w) 64 0) := by
  have hx : w.toBitVec.toNat < 256 ^ 8 := w.toBitVec.isLt
  obtain ⟨c0, c1, c2, c3, c4, c5, c6, c7, hc, hp, hd⟩ := ppn_bound hx
  have hb : btL w = fun i => w.toBitVec.toNat.testBit i := rfl
  rw [hb, hd]
  obtain ⟨b2, b2'⟩ := bc_b2 (bc1 w) (bc_b1 w)
  have b3 := bc_b3 (bc2 (bc1 w)) b2 b2'
  unfold bcN
  generalize bc3 (bc2 (bc1 w)) = z at b3 ⊢
  unfold ppn pyn at hp
  generalize pc3 (pmk 15 8) (pc2 (pmk 51 8) (pc1 (pmk 85 8) w.toBitVec.toNat)) = Y at hp b3
  obtain ⟨Y1, Y2, Y3, e1, e2, e3, l1, l2, l3, hfin⟩ := bc_fin hc hp
  have s1 := bc_b4 z 8 8 b3 (by decide +kernel) (by rw [← e1]; exact l1)
  rw [← e1] at s1
  have s2 := bc_b4 (bc4 8 z) 16 16 s1 (by decide +kernel) (by rw [← e2]; exact l2)
  rw [← e2] at s2
  have s3 := bc_b4 (bc4 16 (bc4 8 z)) 32 32 s2 (by decide +kernel) (by rw [← e3]; exact l3)
  rw [← e3] at s3
  generalize bc4 32 (bc4 16 (bc4 8 z)) = v at s3 ⊢
  have fin : v.toInt32.toBitVec.toNat = v.toBitVec.toNat % 2 ^ 32 := by
    show (BitVec.signExtend 32 v.toBitVec).toNat = _
    first
      | rw [BitVec.signExtend_eq_setWidth_of_le _ (by decide), BitVec.toNat_setWidth]
      | rw [BitVec.signExtend_eq_setWidth_of_lt _ (by decide), BitVec.toNat_setWidth]
      | rw [BitVec.signExtend_eq_truncate_of_lt _ (by decide), BitVec.toNat_setWidth]
  rw [pk_and _ 7 (by decide +kernel), fin, s3, hfin]
