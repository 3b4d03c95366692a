/-! ===== the relation of the two heaps ===== -/
/-! equalities: S k is the class's k-th row of a scene, a the reference's row -/
def ah (a : Nat → Int32) (lap : Int32) : Nat → Int32
  | 0 => 0
  | k + 1 => if a (107 + 3 * k) < lap then (if a (106 + 3 * k) = 1 then ah a lap k ||| ((1 : Int32) <<< (a (105 + 3 * k) &&& 31)) else ah a lap k &&& (((1 : Int32) <<< (a (105 + 3 * k) &&& 31)) ^^^ (-1 : Int32))) else ah a lap k
def tn (x : Int32) : Nat := x.toInt.toNat
def QSea (S : Nat → Nat → Int32) (a : Nat → Int32) : Prop := S 14 3 = a 0 ∧ S 14 4 = a 1 ∧ (∀ j, j < 36 → S 15 j = a (30 + j)) ∧ (∀ j, j < 8 → S 16 j = a (20 + j))
def QShip (S : Nat → Nat → Int32) (a : Nat → Int32) : Prop := S 1 0 = a 10 ∧ S 1 1 = a 11 ∧ S 1 2 = a 12 ∧ S 1 3 = a 13 ∧ S 1 4 = a 15 ∧ S 1 5 = a 16 ∧ S 1 6 = a 14
def QTx (S : Nat → Nat → Int32) (a : Nat → Int32) : Prop := S 0 6 = a 2 ∧ S 0 7 = a 3
def QCourse (S : Nat → Nat → Int32) (a : Nat → Int32) : Prop := S 6 1 = a 4 ∧ (∀ j, j < 24 → S 7 j = a (66 + j))
def QGoods (S : Nat → Nat → Int32) (a : Nat → Int32) : Prop := S 8 1 = a 6 ∧ (∀ j, j < 12 → S 9 j = a (90 + j))
def QCrew (S : Nat → Nat → Int32) (a : Nat → Int32) : Prop := S 10 3 = a 7 ∧ S 10 4 = ah a 1000000 (tn (a 7)) ∧ (∀ j, j < 60 → S 11 j = a (105 + 3 * j) ∧ S 12 j = a (107 + 3 * j) ∧ S 13 j = a (106 + 3 * j))
def QWake (S : Nat → Nat → Int32) (a : Nat → Int32) : Prop := S 2 4 = a 5 ∧ ∃ nx : Nat, nx < 30 ∧ S 2 3 = nI nx ∧ ∀ i, i < tn (a 5) → S 3 ((nx + 30 - tn (a 5) + i) % 30) = f143 (a (290 + 7 * i)) (a (291 + 7 * i)) (a (292 + 7 * i)) (a (293 + 7 * i)) ∧ S 4 ((nx + 30 - tn (a 5) + i) % 30) = a (295 + 7 * i) ∧ S 5 ((nx + 30 - tn (a 5) + i) % 30) = a (296 + 7 * i)
/-! ranges -/
def NSea (a : Nat → Int32) : Prop := 0 ≤ (a 1).toInt ∧ (a 1).toInt ≤ 99 ∧ (∀ j, j < 8 → 1 ≤ (a (20 + j)).toInt ∧ (a (20 + j)).toInt ≤ 15)
def NSt (n L : Nat) (b : Nat → Int32) : Prop := 0 ≤ (b 0).toInt ∧ (b 0).toInt ≤ 2 ∧ 0 ≤ (b 1).toInt ∧ (b 1).toInt < (n : Int) ∧ 0 ≤ (b 2).toInt ∧ (b 2).toInt ≤ 7 ∧ 1 ≤ (b 3).toInt ∧ (b 3).toInt ≤ 4 ∧ (b 4 = 0 ∨ b 4 = 1) ∧ 0 ≤ (b 6).toInt ∧ (b 6).toInt ≤ (L : Int)
def NShip (n L : Nat) (a : Nat → Int32) : Prop := NSt n L (fun j => a (10 + j))
def NTx (a : Nat → Int32) : Prop := 0 ≤ (a 2).toInt ∧ (a 2).toInt ≤ 4 ∧ -1 ≤ (a 3).toInt ∧ (a 3).toInt < (a 2).toInt
def NCourse (a : Nat → Int32) : Prop := 0 ≤ (a 4).toInt ∧ (a 4).toInt ≤ 24 ∧ (∀ j, j < 24 → 0 ≤ (a (66 + j)).toInt ∧ (a (66 + j)).toInt ≤ 11)
def NGoods (a : Nat → Int32) : Prop := 0 ≤ (a 6).toInt ∧ (a 6).toInt ≤ 12 ∧ (∀ j, j < 12 → 0 ≤ (a (90 + j)).toInt ∧ (a (90 + j)).toInt ≤ 99)
def NCrew (a : Nat → Int32) : Prop := 0 ≤ (a 7).toInt ∧ (a 7).toInt ≤ 60 ∧ (∀ j, j < 60 → 0 ≤ (a (105 + 3 * j)).toInt ∧ (a (105 + 3 * j)).toInt ≤ 9 ∧ (a (106 + 3 * j) = 0 ∨ a (106 + 3 * j) = 1)) ∧ (∀ j, j < tn (a 7) → 0 ≤ (a (107 + 3 * j)).toInt ∧ (a (107 + 3 * j)).toInt ≤ (a 16).toInt) ∧ (∀ i j, i < j → j < tn (a 7) → (a (107 + 3 * i)).toInt ≤ (a (107 + 3 * j)).toInt) ∧ (∀ j, j < tn (a 7) → (f123 (ah a 1000000 j) (a (105 + 3 * j)) = 0 ↔ a (106 + 3 * j) = 1))
def NWake (n L : Nat) (a : Nat → Int32) : Prop := 0 ≤ (a 5).toInt ∧ (a 5).toInt ≤ 30 ∧ (∀ i, i < tn (a 5) → NSt n L (fun j => a (290 + 7 * i + j)) ∧ a (294 + 7 * i) = 1 ∧ ∀ j, j < tn (a 7) → (a (107 + 3 * j)).toInt ≤ (a (296 + 7 * i)).toInt)
def Sc (n L : Nat) (S : Nat → Nat → Int32) (a : Nat → Int32) : Prop := QSea S a ∧ QShip S a ∧ QTx S a ∧ QCourse S a ∧ QGoods S a ∧ QCrew S a ∧ QWake S a ∧ NSea a ∧ NShip n L a ∧ NTx a ∧ NCourse a ∧ NGoods a ∧ NCrew a ∧ NWake n L a
/-! tape and fault -/
def Tp (hx hm : Hp) : Prop := hI hx 22 3 = hI hm 0 5 ∧ 0 ≤ (hI hm 0 5).toInt ∧ (hI hm 0 5).toInt ≤ 300 ∧ ∀ j, j < tn (hI hm 0 5) → ∃ b : Nat, b < 256 ∧ hI hm 4 j = nI b ∧ hI hx 23 j = (nI b).toInt8.toInt32
def Fl (hx hm : Hp) : Prop := (hI hx 26 1 = 0 ∧ hI hm 0 6 = -1 ∧ hI hm 0 7 = -1) ∨ (hI hx 26 1 = 1 ∧ hI hx 26 2 = hI hm 0 6 ∧ hI hx 26 3 = hI hm 0 7)
/-! texts: T i c is the row of operations of clause c of text i, in the class's numbers -/
abbrev Tc : Type := Nat → Option (List Nat)
def mo (o : Nat) : Nat × Nat := if 100 ≤ o then (0, o - 100) else if o < 8 then (1, o) else if o = 29 then (2, 0) else if o = 14 then (3, 0) else if o = 15 then (4, 0) else if o = 16 then (5, 0) else if o = 17 then (6, 0) else if o = 10 then (20, 0) else if o = 8 then (21, 0) else if o = 9 then (22, 0) else (o - 8, 0)
def TxX (T : Tc) (h : Hp) (c : Nat) : Prop := (∀ k, k < 3 → (T k = none → f123 (hI h c 4) (nI k) = 0) ∧ ∀ l, T k = some l → f123 (hI h c 4) (nI k) = 1 ∧ ∃ f : Nat, hI h (c + 2) k = nI f ∧ hI h (c + 3) k = nI (f + l.length) ∧ f + l.length ≤ 300 ∧ ∀ j o, l[j]? = some o → hI h (c + 1) (f + j) = nI o) ∧ (∀ q, q < 8 → f123 (hI h c 5) (nI q) = 0 → ∀ l, T 0 = some l → ¬ q ∈ l)
def TxM (T : Tc) (r : Nat → Int32) (b : Nat) : Prop := ∃ m : Nat, m ≤ 3 ∧ r b = nI m ∧ (∀ k, k < m → ∃ s l, ∃ f : Nat, s < 3 ∧ T s = some l ∧ r (b + 1 + 3 * k) = nI s ∧ r (b + 2 + 3 * k) = nI f ∧ r (b + 3 + 3 * k) = nI (f + l.length) ∧ f + l.length ≤ 300 ∧ ∀ j o, l[j]? = some o → r (b + 15 + 2 * (f + j)) = nI (mo o).1 ∧ r (b + 16 + 2 * (f + j)) = nI (mo o).2) ∧ (∀ s, s < 3 → T s ≠ none → ∃ k, k < m ∧ r (b + 1 + 3 * k) = nI s)
/-- an operation's kind on a stack of nv values above nt truths -/
def tc1 (o : Nat) (p : Nat × Nat) : Option (Nat × Nat) :=
  if 100 ≤ o ∨ o < 8 then (if p.1 + p.2 < 32 then some (p.1 + 1, p.2) else none)
  else if o = 29 then (if 1 ≤ p.1 then some p else none)
  else if o = 10 then (if p.1 = 0 ∧ 1 ≤ p.2 then some p else none)
  else if o = 8 ∨ o = 9 then (if p.1 = 0 ∧ 2 ≤ p.2 then some (0, p.2 - 1) else none)
  else if 14 ≤ o ∧ o ≤ 17 then (if 2 ≤ p.1 then some (p.1 - 1, p.2) else none)
  else if 18 ≤ o ∧ o ≤ 23 then (if p.1 = 2 then some (0, p.2 + 1) else none)
  else none
def tcs : List Nat → Nat × Nat → Option (Nat × Nat)
  | [], p => some p
  | o :: l, p => (tc1 o p).bind (tcs l)
def okn (s q : Nat) : Prop := q = 0 ∨ q = 1 ∨ (s = 0 ∧ q < 7) ∨ (s = 1 ∧ q = 7) ∨ (s = 2 ∧ q = 5)
def WfT (T : Tc) : Prop := ∀ s l, s < 3 → T s = some l → tcs l (0, 0) = some (if s = 2 then (0, 1) else (1, 0)) ∧ (∀ o, o ∈ l → o ≤ 10099 ∧ (o < 8 → okn s o))
def Tx (T : Nat → Tc) (hx hm : Hp) : Prop := (∀ i, i < tn (hI hm 1 2) → TxX (T i) hx (2 + 4 * i) ∧ TxM (T i) (hI hm 3) (620 * i) ∧ WfT (T i)) ∧ hI hx 18 4 = 0 ∧ (hI hm 2 2).toInt ≤ (hI hm 1 2).toInt
/-- THE TEXT -/
def Tr (T : Nat → Tc) (r : Int32) : Tc := if r < 0 then fun _ => none else T (tn r)
def Lw (hx hm : Hp) : Prop := hR hx 61 1 = some (if hI hm 1 3 < 0 then 18 else 2 + 4 * tn (hI hm 1 3))
