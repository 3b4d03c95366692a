/-! ===== the constructors ===== -/
def h00 : Hp := (fun _ _ => 0, fun _ _ => 0, fun _ _ => none, 0)
def rfOK (w n m : Nat) (H : Hp) : Bool := (List.range n).all fun c => (List.range m).all fun j => match srf w c j with
  | none => true
  | some q => decide (hR H c j = some q)
/-- what the new object's cells hold, as far as it matters: a row is a cell, from, how many, the value -/
def fctX (n : Int32) : List (Nat × Nat × Nat × Int32) := [(2, 3, 1, 0), (2, 4, 1, 0), (2, 5, 1, 0), (6, 3, 1, 0), (6, 4, 1, 0), (6, 5, 1, 0), (10, 3, 1, 0), (10, 4, 1, 0), (10, 5, 1, 0), (14, 3, 1, 0), (14, 4, 1, 0), (14, 5, 1, 0), (18, 3, 1, 0), (18, 4, 1, 0), (18, 5, 1, 0), (22, 3, 1, 0), (22, 4, 1, 0), (26, 1, 1, 0), (26, 2, 1, 0), (26, 3, 1, 0), (26, 5, 1, 0), (26, 6, 1, 0), (26, 7, 1, 0), (26, 8, 1, 0), (26, 9, 1, 0), (27, 6, 1, 0), (27, 7, 1, (-1)), (28, 0, 1, 0), (28, 1, 1, 0), (28, 2, 1, 0), (28, 3, 1, 1), (28, 4, 1, 0), (28, 5, 1, 0), (28, 6, 1, 1), (29, 3, 1, 0), (29, 4, 1, 0), (33, 1, 1, 0), (34, 0, 24, 0), (35, 1, 1, 0), (36, 0, 12, 0), (37, 3, 1, 0), (37, 4, 1, 0), (38, 0, 60, 0), (39, 0, 60, 0), (40, 0, 60, 0), (41, 0, 1, n), (41, 3, 1, 0), (41, 4, 1, 0), (42, 0, 36, 9), (43, 0, 8, 2), (44, 6, 1, 0), (44, 7, 1, (-1)), (45, 0, 1, 0), (45, 1, 1, 0), (45, 2, 1, 0), (45, 3, 1, 1), (45, 4, 1, 0), (45, 5, 1, 0), (45, 6, 1, 1), (46, 3, 1, 0), (46, 4, 1, 0), (50, 1, 1, 0), (51, 0, 24, 0), (52, 1, 1, 0), (53, 0, 12, 0), (54, 3, 1, 0), (54, 4, 1, 0), (55, 0, 60, 0), (56, 0, 60, 0), (57, 0, 60, 0), (58, 0, 1, n), (58, 3, 1, 0), (58, 4, 1, 0), (59, 0, 36, 9), (60, 0, 8, 2), (64, 10, 1, 0), (64, 11, 1, 0), (64, 12, 1, 0), (64, 13, 1, 0)]
def fctOK (H : Hp) (l : List (Nat × Nat × Nat × Int32)) : Bool := l.all fun q => (List.range q.2.2.1).all fun j => decide (hI H q.1 (q.2.1 + j) = q.2.2.2)
def dynX : List (Nat × Nat × Nat) := [(26, 4, 2), (61, 1, 18), (64, 6, 69), (64, 7, 70), (64, 8, 71), (64, 9, 72)]
def cxOK (n : Int32) : Bool := match run 0 1500 60 90 8 [some (.ref 0), none, some (.int n), none] [] (hNew h00) with
  | some (none, H) => decide (hN H = 73) && rfOK 0 73 14 H && fctOK H (fctX n) && dynX.all fun q => decide (hR H q.1 q.2.1 = some q.2.2)
  | _ => false
theorem cx4 : cxOK 4 = true := by decide +kernel
theorem cx5 : cxOK 5 = true := by decide +kernel
theorem cx6 : cxOK 6 = true := by decide +kernel
theorem cx7 : cxOK 7 = true := by decide +kernel
theorem cx8 : cxOK 8 = true := by decide +kernel
theorem cx9 : cxOK 9 = true := by decide +kernel
theorem cx10 : cxOK 10 = true := by decide +kernel
theorem cx11 : cxOK 11 = true := by decide +kernel
theorem cx12 : cxOK 12 = true := by decide +kernel
