/-! How a state of the class and one of the reference belong together -/
def btL (x : Int64) (i : Nat) : Bool := x.toBitVec.getLsbD i
def rTime (dT rN : Int32) (t : Nat) : Prop := t ≤ 1000000 ∧ dT = nI t ∧ rN = nI t
def rPorts (dO dG : Int32) (rO rG : Nat → Bool) : Prop := ∀ q, q < 8 → fDB_isOn dO q = rO q ∧ fDB_isOn dG q = rG q ∧ (rG q = true → rO q = true)
def rAdv (j dI : Nat) (dN : Int32) (aN aB rM rB : Nat → Int32) (rX : Int32) : Prop := dN = rX ∧ (∃ g n, g ≤ 1000000000 + j ∧ rX = nI g ∧ n ≤ g ∧ rM dI = nI n) ∧ ∀ o, o < 64 → aN o = rM o ∧ aB o = rB o ∧ 0 ≤ rM o ∧ (rM o = 0 → rB o = 0)
def rPlace (t : Nat) (rO : Nat → Bool) (nS nP nR nG rW rH : Nat → Int32) (rF : Nat → Bool) (k : Nat) : Prop :=
  (nS k = 0 ∧ rW k = -1 ∧ rF k = false) ∨ (∃ p o h, p < 8 ∧ o < 64 ∧ h ≤ t ∧ nS k = cond (rF k) 2 1 ∧ nP k = nI p ∧ nR k = nI o ∧ rW k = nI (64 * p + o) ∧ rO p = true ∧ nG k = nI h ∧ rH k = nI h)
def rUniq (rW : Nat → Int32) : Prop := ∀ i k, i < 16 → k < 16 → 0 ≤ rW i → rW i = rW k → i = k
def rOwe1 (t : Nat) (b u : Bool) (n w : Int32) : Prop := (b = false ∧ w < 0) ∨ (b = true ∧ ∃ c, w = nI c ∧ ((u = true ∧ c ≤ t) ∨ (u = false ∧ ∃ tt, tt ≤ t ∧ n = nI tt ∧ c = tt + 15)))
def rOwe (t : Nat) (nO nU : Nat → Int64) (nT : Nat → Int32) (rF : Nat → Bool) (rM rT : Nat → Int32) : Prop := ∀ k, k < 16 → ∀ o, o < 64 → rOwe1 t (btL (nO k) o) (btL (nU k) o) (nT (k * 64 + o)) (rT (64 * k + o)) ∧ ((rF k = false ∨ rM o = 0) → rT (64 * k + o) < 0)
def rQue (tP tR tO tN : Nat → Int32) (tF tZ rQ : Nat) (rA : Nat → Int32) : Prop := tZ = rQ ∧ tZ ≤ 64 ∧ tF < 64 ∧ ∀ i, i < tZ → tP ((tF + i) % 64) = rA (4 * i) ∧ tR ((tF + i) % 64) = rA (4 * i + 1) ∧ tO ((tF + i) % 64) = rA (4 * i + 2) ∧ tN ((tF + i) % 64) = rA (4 * i + 3)
def rMsg (mP : Nat → Int32) (mN : Int64) (rE : Nat → Int32) (rD : Int64) : Prop := (∀ i, i < 6 → mP i = rE i) ∧ mN = rD
def Rel (j : Nat) (v : CS) (r : RS) : Prop := match v, r with
  | ((dI, dO, dG, dN, dT), (aN, aB), (nS, nP, nR, nG, nO, nU, nT), (tP, tR, tO, tN, tF, tZ), (mP, mN)), ((rI, _, rN), (rO, rG), (rW, rH, rF, rT), (rM, rB, rX), (rQ, rA), (rE, rD)) =>
    (dI = rI ∧ dI < 64 ∧ j ≤ 600) ∧ (∃ t, rTime dT rN t ∧ (∀ k, k < 16 → rPlace t rO nS nP nR nG rW rH rF k) ∧ rOwe t nO nU nT rF rM rT) ∧ rPorts dO dG rO rG ∧ rAdv j dI dN aN aB rM rB rX ∧ rUniq rW ∧ rQue tP tR tO tN tF tZ rQ rA ∧ rMsg mP mN rE rD
section MO
variable {l : Launch} {D : va_G} {cI cL cZ : ClassId} {a : Nat → Nat} {y : MethodName} {ws : List Cond} {mL : Nat} {av : List Value} {rm : Room}
theorem hM_of {v v' : LZ} {k : Int32} (M : Met l y ws rm (va_Pc av (tPre D (tyC cI cL) (wL cI cL a) v)) (va_Qi (fun (r : Int32) (u : LZ) => r = k ∧ u = v') (gG D (tyC cI cL) (wL cI cL a)) (aS a 20)) 1 6 (aS a 20)) (h1 : rm.cells = 1) (h2 : rm.slots = 6) (h3 : rm.frames + 1 ≤ 12 ∧ 8 + (mL + 11) + rm.locals ≤ 446) : hMet l D cI cL a y ws mL av v k v' := ⟨rm, h1, h2, h3, M⟩
theorem rM_of {r r' : RS} {k : Int32} (M : Met l y ws rm (va_Pc av (gG D (tyR cI cZ) (wR cI cZ a) r)) (va_Qi (fun (r1 : Int32) (u : RS) => r1 = k ∧ u = r') (gG D (tyR cI cZ) (wR cI cZ a)) (aS a 11)) 0 0 (aS a 11)) (h1 : rm.cells = 0) (h2 : rm.slots = 0) (h3 : rm.frames + 1 ≤ 12 ∧ 8 + (mL + 11) + rm.locals ≤ 446) : rMet l D cI cZ a y ws mL av r k r' := ⟨rm, h1, h2, h3, M⟩
theorem rML_of {r r' : RS} {k : Int64} (M : Met l y ws rm (va_Pc av (gG D (tyR cI cZ) (wR cI cZ a) r)) (va_Ql (fun (r1 : Int64) (u : RS) => r1 = k ∧ u = r') (gG D (tyR cI cZ) (wR cI cZ a)) (aS a 11)) 0 0 (aS a 11)) (h1 : rm.cells = 0) (h2 : rm.slots = 0) (h3 : rm.frames + 1 ≤ 12 ∧ 8 + (mL + 11) + rm.locals ≤ 446) : rMetL l D cI cZ a y ws mL av r k r' := ⟨rm, h1, h2, h3, M⟩
theorem cM_of {v v' : CS} {k : Int32} (M : Met l y ws rm (va_Pc av (gG D (tyC cI cL) (wC cI cL a) v)) (va_Qi (fun (r : Int32) (u : CS) => r = k ∧ u = v') (gG D (tyC cI cL) (wC cI cL a)) (aS a 19)) 0 0 (aS a 19)) (h1 : rm.cells = 0) (h2 : rm.slots = 0) (h3 : rm.frames + 1 ≤ 12 ∧ 8 + (mL + 11) + rm.locals ≤ 446) : cMet l D cI cL a y ws mL av v k v' := ⟨rm, h1, h2, h3, M⟩
theorem cRo_of {v : CS} {k : Int32} (M : Met l y ws rm (va_Pc av (gG D (tyC cI cL) (wC cI cL a) v)) (vp_Si (fun r : Int32 => r = k)) 0 0 (fun _ => False)) (h1 : rm.cells = 0) (h2 : rm.slots = 0) (h3 : rm.frames + 1 ≤ 12 ∧ 8 + (mL + 11) + rm.locals ≤ 446) : cRo l D cI cL a y ws mL av v k := ⟨rm, h1, h2, h3, M⟩
theorem cRoL_of {v : CS} {k : Int64} (M : Met l y ws rm (va_Pc av (gG D (tyC cI cL) (wC cI cL a) v)) (vp_Sl (fun r : Int64 => r = k)) 0 0 (fun _ => False)) (h1 : rm.cells = 0) (h2 : rm.slots = 0) (h3 : rm.frames + 1 ≤ 12 ∧ 8 + (mL + 11) + rm.locals ≤ 446) : cRoL l D cI cL a y ws mL av v k := ⟨rm, h1, h2, h3, M⟩
end MO
