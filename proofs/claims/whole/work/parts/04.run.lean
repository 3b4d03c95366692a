/-- what an instruction reads of the cells -/
def hrd (w op : Nat) (a : Int32) (b c : Nat) (st : List Value) (h : Hp) : Option (List Value) :=
  if op = 90 then (match st with
    | .ref q :: st => if (shp w q).1 = b ∧ q < hN h then some (.int (hI h q c) :: st) else none
    | _ => none)
  else if op = 91 then (match st with
    | .ref q :: st => if (shp w q).1 = b ∧ q < hN h then some (.long (hL h q c) :: st) else none
    | _ => none)
  else if op = 92 then (match st with
    | .ref q :: st => if (shp w q).1 = b ∧ q < hN h then some (rv (hR h q c) :: st) else none
    | _ => none)
  else if op = 93 then (match st with
    | .int i :: .ref q :: st => if q = 1200 then (if inb i 16 then some (.int (wth (ix i)) :: st) else none)
      else if (shp w q).1 = 100 ∧ q < hN h ∧ inb i (shp w q).2 then some (.int (hI h q (ix i)) :: st) else none
    | _ => none)
  else if op = 94 then (match st with
    | .int i :: .ref q :: st => if (shp w q).1 = 101 ∧ q < hN h ∧ inb i (shp w q).2 then some (.int (hI h q (ix i)) :: st) else none
    | _ => none)
  else if op = 95 then (match st with
    | .int i :: .ref q :: st => if (shp w q).1 = 102 ∧ q < hN h ∧ inb i (shp w q).2 then some (.int (hI h q (ix i)) :: st) else none
    | _ => none)
  else if op = 96 then (match st with
    | .int i :: .ref q :: st => if (shp w q).1 = 103 ∧ q < hN h ∧ inb i (shp w q).2 then some (.long (hL h q (ix i)) :: st) else none
    | _ => none)
  else if op = 97 then (match st with
    | .int i :: .ref q :: st => if (shp w q).1 = 104 ∧ q < hN h ∧ inb i (shp w q).2 then some (rv (hR h q (ix i)) :: st) else none
    | _ => none)
  else if op = 98 then (match st with
    | .ref q :: st => if (shp w q).1 = 100 ∧ q < hN h then some (.int (Int32.ofNat (shp w q).2) :: st) else none
    | _ => none)
  else if op = 99 then some (.ref 1200 :: st)
  else if op = 100 then some (.ref (1000 + ix a) :: st)
  else none
/-- what it writes -/
def hwr (w op : Nat) (b c : Nat) (st : List Value) (h : Hp) : Option (List Value × Hp) :=
  if op = 110 then (match st with
    | .int v :: .ref q :: st => if (shp w q).1 = b ∧ q < hN h then some (st, uI h q c v) else none
    | _ => none)
  else if op = 111 then (match st with
    | .int v :: .ref q :: st => if (shp w q).1 = b ∧ q < hN h ∧ (v = 0 ∨ v = 1) then some (st, uI h q c v) else none
    | _ => none)
  else if op = 112 then (match st with
    | .long v :: .ref q :: st => if (shp w q).1 = b ∧ q < hN h then some (st, uL h q c v) else none
    | _ => none)
  else if op = 113 then (match st with
    | .ref r :: .ref q :: st => if (shp w q).1 = b ∧ q < hN h ∧ (srf w q c = none ∨ srf w q c = some r) then some (st, uR h q c (some r)) else none
    | _ => none)
  else if op = 114 then (match st with
    | .int v :: .int i :: .ref q :: st => if (shp w q).1 = 100 ∧ q < hN h ∧ inb i (shp w q).2 then some (st, uI h q (ix i) v) else none
    | _ => none)
  else if op = 115 then (match st with
    | .int v :: .int i :: .ref q :: st => if (shp w q).1 = 101 ∧ q < hN h ∧ inb i (shp w q).2 then some (st, uI h q (ix i) v.toInt8.toInt32) else none
    | _ => none)
  else if op = 116 then (match st with
    | .int v :: .int i :: .ref q :: st => if (shp w q).1 = 102 ∧ q < hN h ∧ inb i (shp w q).2 then some (st, uI h q (ix i) (v &&& 1)) else none
    | _ => none)
  else if op = 117 then (match st with
    | .long v :: .int i :: .ref q :: st => if (shp w q).1 = 103 ∧ q < hN h ∧ inb i (shp w q).2 then some (st, uL h q (ix i) v) else none
    | _ => none)
  else if op = 118 then (match st with
    | .ref r :: .int i :: .ref q :: st => if (shp w q).1 = 104 ∧ q < hN h ∧ inb i (shp w q).2 ∧ (shp w r).1 = 8 ∧ r < hN h ∧ (srf w q (ix i) = none ∨ srf w q (ix i) = some r) then some (st, uR h q (ix i) (some r)) else none
    | _ => none)
  else if op = 119 then (match st with
    | .int n :: .int dp :: .ref q1 :: .int sp :: .ref q0 :: st => if (shp w q0).1 = 100 ∧ q0 < hN h ∧ (shp w q1).1 = 100 ∧ q1 < hN h ∧ 0 ≤ sp.toInt ∧ 0 ≤ dp.toInt ∧ 0 ≤ n.toInt ∧ sp.toInt + n.toInt ≤ ((shp w q0).2 : Int) ∧ dp.toInt + n.toInt ≤ ((shp w q1).2 : Int) ∧ csum st ≤ 8 then some (st, uA h q1 (va_cpy (hI h q0) (hI h q1) (ix sp) (ix dp) (ix n))) else none
    | _ => none)
  else none
/-- what it makes: the new reference lies on the stack -/
def hal (w op b : Nat) (st : List Value) (h : Hp) : Option (List Value × Hp) :=
  if op = 120 then (if (shp w (hN h)).1 = b ∧ hN h < cap w then some (.ref (hN h) :: st, hNew h) else none)
  else (match st with
    | .int v :: st => if (shp w (hN h)).1 = b ∧ hN h < cap w ∧ v.toInt = ((shp w (hN h)).2 : Int) then some (.ref (hN h) :: st, hNew h) else none
    | _ => none)
/-- Math's own, and two of String's over constants: what comes of the stack, and what was below -/
def lib (op : Nat) (st : List Value) : Option (Value × List Value) :=
  if op = 45 then (match st with
    | .ref q :: st => if 1000 ≤ q ∧ q < 1014 then some (.int (Int32.ofNat (slen (q - 1000))), st) else none
    | _ => none)
  else if op = 46 then (match st with
    | .int i :: .ref q :: st => if 1000 ≤ q ∧ q < 1014 ∧ inb i (slen (q - 1000)) then some (.int (schr (q - 1000) (ix i)), st) else none
    | _ => none)
  else mst op st
/-- the receiver of a virtual call is an object of the method's class -/
def rok (w op b : Nat) (vs : List Value) (h : Hp) : Bool := Nat.ble (lay vs).length (mL b) && (if op = 132 then (match vs with
  | .ref q :: _ => decide ((shp w q).1 = mCi b ∧ q < hN h)
  | _ => false) else if op < 132 then true else (match vs with
  | .ref _ :: _ => true
  | _ => false))
/-- how a method ends -/
def rtn (op : Nat) (st : List Value) : Option (Option Value) :=
  if op = 140 then (match st with
    | [.int v] => some (some (.int v))
    | _ => none)
  else if op = 141 then (match st with
    | [.int v] => some (some (.int (v &&& 1)))
    | _ => none)
  else if op = 142 then (match st with
    | [.long v] => some (some (.long v))
    | _ => none)
  else if op = 143 then (match st with
    | [.ref v] => some (some (.ref v))
    | _ => none)
  else if op = 144 then (match st with
    | [] => some none
    | _ => none)
  else none
/-- one instruction of the method k at i, calls at most d deep; f goes on -/
def stp (w : Nat) (f : Nat → Nat → Nat → Lv → List Value → Hp → Option (Option Value × Hp)) (d k i : Nat) (ls : Lv) (st : List Value) (h : Hp) : Option (Option Value × Hp) :=
    match ins k i with
    | (op, a, b, c) =>
      if op < 40 then (pst op a st).bind fun st' => f d k (i + 1) ls st' h
      else if op < 50 then (lib op st).bind fun q => if 5 ≤ d ∧ csum q.2 ≤ 8 then f d k (i + 1) ls (q.1 :: q.2) h else none
      else if op < 60 then (ldv op b ls).bind fun v => f d k (i + 1) ls (v :: st) h
      else if op < 66 then (stv op b ls st).bind fun q => f d k (i + 1) q.1 q.2 h
      else if op = 66 then (match lget ls b with
        | some (.int x) => (st1 ls b (.int (x + a))).bind fun l => f d k (i + 1) l st h
        | _ => none)
      else if op < 82 then (brc op st).bind fun q => f d k (if q.1 then b else i + 1) ls q.2 h
      else if op = 82 then f d k b ls st h
      else if op = 83 then (match st with
        | .int x :: st => f d k (swf x a (swt b) c) ls st h
        | _ => none)
      else if op < 110 then (hrd w op a b c st h).bind fun st' => f d k (i + 1) ls st' h
      else if op < 120 then (hwr w op b c st h).bind fun q => if 5 ≤ d then f d k (i + 1) ls q.1 q.2 else none
      else if op < 130 then (hal w op b st h).bind fun q => f d k (i + 1) ls q.1 q.2
      else if op < 135 then (match d with
        | 0 => none
        | d' + 1 => (cut c st).bind fun q => if csum q.2 ≤ 8 ∧ rok w op b q.1 h = true then (f d' b 0 (entry q.1 (mL b)) [] h).bind fun z => f (d' + 1) k (i + 1) ls (z.1.toList ++ q.2) z.2 else none)
      else if op = 135 then (match st with
        | .ref _ :: st => if 5 ≤ d ∧ csum st ≤ 8 then f d k (i + 1) ls st h else none
        | _ => none)
      else (rtn op st).map fun r => (r, h)
/-- the machine: n steps at most -/
def run (w : Nat) : Nat → Nat → Nat → Nat → Lv → List Value → Hp → Option (Option Value × Hp)
  | 0 => fun _ _ _ _ _ _ => none
  | n + 1 => stp w (run w n)
theorem stp_up {w : Nat} {f g : Nat → Nat → Nat → Lv → List Value → Hp → Option (Option Value × Hp)} (hfg : ∀ d k i ls st h x, f d k i ls st h = some x → g d k i ls st h = some x) (d k i : Nat) (ls : Lv) (st : List Value) (h : Hp) (x : Option Value × Hp) (e : stp w f d k i ls st h = some x) : stp w g d k i ls st h = some x := by
  unfold stp at e ⊢
  rcases hq : ins k i with ⟨op, a, b, c⟩
  rw [hq] at e
  dsimp only at e ⊢
  have hb : ∀ {α : Type} {o : Option α} {F G : α → Option (Option Value × Hp)}, (∀ q y, F q = some y → G q = some y) → o.bind F = some x → o.bind G = some x := by
    intro α o F G hFG ho
    cases o with
    | none => cases ho
    | some q => exact hFG q x ho
  have hi : ∀ {c : Prop} [Decidable c] {A B : Option (Option Value × Hp)} {y : Option Value × Hp}, (A = some y → B = some y) → (if c then A else none) = some y → (if c then B else none) = some y := by
    intro c _ A B y hAB ho
    by_cases hc : c
    · rw [if_pos hc] at ho ⊢; exact hAB ho
    · rw [if_neg hc] at ho; cases ho
  by_cases ho : op < 40
  · rw [if_pos ho] at e ⊢
    exact hb (fun q y => hfg _ _ _ _ _ _ _) e
  rw [if_neg ho] at e ⊢
  clear ho
  by_cases ho : op < 50
  · rw [if_pos ho] at e ⊢
    exact hb (fun q y => hi (hfg _ _ _ _ _ _ _)) e
  rw [if_neg ho] at e ⊢
  clear ho
  by_cases ho : op < 60
  · rw [if_pos ho] at e ⊢
    exact hb (fun q y => hfg _ _ _ _ _ _ _) e
  rw [if_neg ho] at e ⊢
  clear ho
  by_cases ho : op < 66
  · rw [if_pos ho] at e ⊢
    exact hb (fun q y => hfg _ _ _ _ _ _ _) e
  rw [if_neg ho] at e ⊢
  clear ho
  by_cases ho : op = 66
  · rw [if_pos ho] at e ⊢
    generalize lget ls b = v at e ⊢
    match v, e with
    | some (.int x), e => exact hb (fun q y => hfg _ _ _ _ _ _ _) e
  rw [if_neg ho] at e ⊢
  clear ho
  by_cases ho : op < 82
  · rw [if_pos ho] at e ⊢
    exact hb (fun q y => hfg _ _ _ _ _ _ _) e
  rw [if_neg ho] at e ⊢
  clear ho
  by_cases ho : op = 82
  · rw [if_pos ho] at e ⊢
    exact hfg _ _ _ _ _ _ _ e
  rw [if_neg ho] at e ⊢
  clear ho
  by_cases ho : op = 83
  · rw [if_pos ho] at e ⊢
    match st, e with
    | .int x :: st, e => exact hfg _ _ _ _ _ _ _ e
  rw [if_neg ho] at e ⊢
  clear ho
  by_cases ho : op < 110
  · rw [if_pos ho] at e ⊢
    exact hb (fun q y => hfg _ _ _ _ _ _ _) e
  rw [if_neg ho] at e ⊢
  clear ho
  by_cases ho : op < 120
  · rw [if_pos ho] at e ⊢
    exact hb (fun q y => hi (hfg _ _ _ _ _ _ _)) e
  rw [if_neg ho] at e ⊢
  clear ho
  by_cases ho : op < 130
  · rw [if_pos ho] at e ⊢
    exact hb (fun q y => hfg _ _ _ _ _ _ _) e
  rw [if_neg ho] at e ⊢
  clear ho
  by_cases ho : op < 135
  · rw [if_pos ho] at e ⊢
    cases d with
    | zero => cases e
    | succ d' =>
      refine hb (fun q y => hi (fun o => ?_)) e
      cases hz : f d' b 0 (entry q.1 (mL b)) [] h with
      | none => rw [hz] at o; cases o
      | some z =>
        rw [hz] at o
        rw [hfg _ _ _ _ _ _ _ hz]
        exact hfg _ _ _ _ _ _ _ o
  rw [if_neg ho] at e ⊢
  clear ho
  by_cases ho : op = 135
  · rw [if_pos ho] at e ⊢
    match st, e with
    | .ref _ :: st, e => exact hi (hfg _ _ _ _ _ _ _) e
  rw [if_neg ho] at e ⊢
  clear ho
  exact e
theorem run_up {w : Nat} : ∀ (n d k i : Nat) (ls : Lv) (st : List Value) (h : Hp) (x : Option Value × Hp), run w n d k i ls st h = some x → run w (n + 1) d k i ls st h = some x := by
  intro n
  induction n with
  | zero => intro d k i ls st h x e; cases e
  | succ n ih => intro d k i ls st h x e; exact stp_up ih d k i ls st h x e
theorem run_le {w n m : Nat} (hnm : n ≤ m) {d k i : Nat} {ls : Lv} {st : List Value} {h : Hp} {x : Option Value × Hp} (e : run w n d k i ls st h = some x) : run w m d k i ls st h = some x := by
  induction hnm with
  | refl => exact e
  | step _ ih => exact run_up _ _ _ _ _ _ _ _ ih
