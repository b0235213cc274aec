/-! What a state of the reference is: the contents of its 11 cells; addresses a 0 .. a 10. -/
abbrev RS : Type := (Nat × Int32 × Int32) × ((Nat → Bool) × (Nat → Bool)) × ((Nat → Int32) × (Nat → Int32) × (Nat → Bool) × (Nat → Int32)) × ((Nat → Int32) × (Nat → Int32) × Int32) × (Nat × (Nat → Int32)) × ((Nat → Int32) × Int64)
abbrev tyR (cI cZ : ClassId) : List (ClassId × FieldType) := [(cI, .int), (cZ, .boolean)]
def wR (cI cZ : ClassId) (a : Nat → Nat) (v : RS) : va_W := match v with
  | ((rI, rC, rN), (rO, rG), (rW, rH, rF, rT), (rM, rB, rX), (rQ, rA), (rE, rD)) =>
    [(a 0, .inr (5, [.int (nI rI), .int rC, .int rN, .ref (a 1), .ref (a 2), .ref (a 3), .ref (a 4), .ref (a 5), .ref (a 6), .ref (a 7), .ref (a 8), .int rX, .int (nI rQ), .ref (a 9), .ref (a 10), .long rD])),
     (a 1, .inl (cZ, 8, .inl (fun j => bi (rO j)))), (a 2, .inl (cZ, 8, .inl (fun j => bi (rG j)))), (a 3, .inl (cI, 16, .inl rW)), (a 4, .inl (cI, 16, .inl rH)), (a 5, .inl (cZ, 16, .inl (fun j => bi (rF j)))), (a 6, .inl (cI, 1024, .inl rT)),
     (a 7, .inl (cI, 64, .inl rM)), (a 8, .inl (cI, 64, .inl rB)), (a 9, .inl (cI, 260, .inl rA)), (a 10, .inl (cI, 6, .inl rE))]
