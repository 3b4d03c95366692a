/-! ===== the pure part: a calculus of what a function answers, reads of a changed heap, numbers ===== -/
def Wp {α : Type} (o : Option α) (Q : α → Prop) : Prop := ∃ a, o = some a ∧ Q a
theorem Wp_some {α : Type} {a : α} {Q : α → Prop} : Wp (some a) Q ↔ Q a := ⟨fun ⟨_, e, q⟩ => Option.some.inj e ▸ q, fun q => ⟨a, rfl, q⟩⟩
theorem Wp_bind {α β : Type} {o : Option α} {f : α → Option β} {Q : β → Prop} : Wp (o.bind f) Q ↔ Wp o (fun a => Wp (f a) Q) := by
  cases o with
  | none => exact ⟨fun ⟨_, e, _⟩ => (nomatch e), fun ⟨_, e, _⟩ => (nomatch e)⟩
  | some a => exact (Wp_some (Q := fun a => Wp (f a) Q)).symm
theorem Wp_gd {c : Prop} [Decidable c] {α : Type} {o : Option α} {Q : α → Prop} : Wp (gd c o) Q ↔ c ∧ Wp o Q := by
  unfold gd
  by_cases hc : c
  · rw [if_pos hc]; exact ⟨fun h => ⟨hc, h⟩, fun h => h.2⟩
  · rw [if_neg hc]; exact ⟨fun ⟨_, e, _⟩ => (nomatch e), fun h => absurd h.1 hc⟩
theorem Wp_bnd {α β : Type} {x : α} {f : α → Option β} {Q : β → Prop} : Wp (bnd x f) Q ↔ Wp (f x) Q := Iff.rfl
theorem Wp_pos {c : Prop} [Decidable c] {α : Type} {a b : Option α} {Q : α → Prop} (h : c) (w : Wp a Q) : Wp (if c then a else b) Q := by rw [if_pos h]; exact w
theorem Wp_neg {c : Prop} [Decidable c] {α : Type} {a b : Option α} {Q : α → Prop} (h : ¬ c) (w : Wp b Q) : Wp (if c then a else b) Q := by rw [if_neg h]; exact w
theorem Wp_if {c : Prop} [Decidable c] {α : Type} {a b : Option α} {Q : α → Prop} (h1 : c → Wp a Q) (h2 : ¬ c → Wp b Q) : Wp (if c then a else b) Q := by
  by_cases h : c
  · exact Wp_pos h (h1 h)
  · exact Wp_neg h (h2 h)
theorem Wp_ite {c : Prop} [Decidable c] {α : Type} {a b : Option α} {Q : α → Prop} : Wp (if c then a else b) Q ↔ (c → Wp a Q) ∧ (¬ c → Wp b Q) := by
  by_cases h : c
  · rw [if_pos h]; exact ⟨fun w => ⟨fun _ => w, fun g => absurd h g⟩, fun w => w.1 h⟩
  · rw [if_neg h]; exact ⟨fun w => ⟨fun g => absurd g h, fun _ => w⟩, fun w => w.2 h⟩
theorem Wp_mono {α : Type} {o : Option α} {Q P : α → Prop} (h : Wp o Q) (hq : ∀ a, Q a → P a) : Wp o P := by
  obtain ⟨a, e, q⟩ := h
  exact ⟨a, e, hq a q⟩
theorem Wp_eq {α : Type} {o : Option α} {a : α} {Q : α → Prop} (e : o = some a) (q : Q a) : Wp o Q := ⟨a, e, q⟩
/-- a loop with an invariant that counts down -/
theorem Wp_lp {S : Type} {body : S → Option (Nat × S)} {Q : Nat × S → Prop} (I : Nat → S → Prop) (hb : ∀ m s, I m s → Wp (body s) (fun q => (q.1 = 0 ∧ ∃ m', m' < m ∧ I m' q.2) ∨ (∃ e, q.1 = e + 1 ∧ Q (e, q.2)))) : ∀ (N m : Nat) (s : S), m < N → I m s → Wp (lp body N s) Q := by
  intro N
  induction N with
  | zero => intro m s h; exact absurd h (Nat.not_lt_zero m)
  | succ N ih =>
    intro m s h hI
    obtain ⟨⟨j, s1⟩, e1, h1⟩ := hb m s hI
    show Wp ((body s).bind fun q => match q.1 with
      | 0 => lp body N q.2
      | j + 1 => some (j, q.2)) Q
    rw [e1]
    rcases h1 with ⟨hj, m', hm, hI'⟩ | ⟨e, hj, hq⟩
    · dsimp only at hj hI'
      subst hj
      exact ih m' s1 (by omega) hI'
    · dsimp only at hj hq
      subst hj
      exact Wp_some.2 hq
/-! reads of a changed heap -/
def pu (f : Nat → Int32) (j : Nat) (v : Int32) : Nat → Int32 := fun j' => if j' = j then v else f j'
def puL (f : Nat → Int64) (j : Nat) (v : Int64) : Nat → Int64 := fun j' => if j' = j then v else f j'
theorem pu_eq {f : Nat → Int32} {j : Nat} {v : Int32} : pu f j v j = v := if_pos rfl
theorem pu_ne {f : Nat → Int32} {j j' : Nat} {v : Int32} (h : j' ≠ j) : pu f j v j' = f j' := if_neg h
theorem puL_eq {f : Nat → Int64} {j : Nat} {v : Int64} : puL f j v j = v := if_pos rfl
theorem puL_ne {f : Nat → Int64} {j j' : Nat} {v : Int64} (h : j' ≠ j) : puL f j v j' = f j' := if_neg h
theorem hI_uI_eq {h : Hp} {c j : Nat} {v : Int32} : hI (uI h c j v) c = pu (hI h c) j v := by
  funext j'
  show up2 h.1 c j v c j' = _
  unfold up2 pu
  by_cases e : j' = j
  · rw [if_pos ⟨rfl, e⟩, if_pos e]
  · rw [if_neg (fun z => e z.2), if_neg e]; rfl
theorem hI_uI_ne {h : Hp} {c c' j : Nat} {v : Int32} (e : c' ≠ c) : hI (uI h c j v) c' = hI h c' := by
  funext j'
  show up2 h.1 c j v c' j' = _
  unfold up2
  rw [if_neg (fun z => e z.1)]; rfl
theorem hI_uL {h : Hp} {c j : Nat} {v : Int64} : hI (uL h c j v) = hI h := rfl
theorem hI_uR {h : Hp} {c j : Nat} {v : Option Nat} : hI (uR h c j v) = hI h := rfl
theorem hI_uA_eq {h : Hp} {c : Nat} {f : Nat → Int32} : hI (uA h c f) c = f := by
  funext j'
  show (if c = c then f j' else h.1 c j') = _
  rw [if_pos rfl]
theorem hI_uA_ne {h : Hp} {c c' : Nat} {f : Nat → Int32} (e : c' ≠ c) : hI (uA h c f) c' = hI h c' := by
  funext j'
  show (if c' = c then f j' else h.1 c' j') = _
  rw [if_neg e]; rfl
theorem hL_uI {h : Hp} {c j : Nat} {v : Int32} : hL (uI h c j v) = hL h := rfl
theorem hL_uR {h : Hp} {c j : Nat} {v : Option Nat} : hL (uR h c j v) = hL h := rfl
theorem hL_uA {h : Hp} {c : Nat} {f : Nat → Int32} : hL (uA h c f) = hL h := rfl
theorem hL_uL_eq {h : Hp} {c j : Nat} {v : Int64} : hL (uL h c j v) c = puL (hL h c) j v := by
  funext j'
  show up2 h.2.1 c j v c j' = _
  unfold up2 puL
  by_cases e : j' = j
  · rw [if_pos ⟨rfl, e⟩, if_pos e]
  · rw [if_neg (fun z => e z.2), if_neg e]; rfl
theorem hL_uL_ne {h : Hp} {c c' j : Nat} {v : Int64} (e : c' ≠ c) : hL (uL h c j v) c' = hL h c' := by
  funext j'
  show up2 h.2.1 c j v c' j' = _
  unfold up2
  rw [if_neg (fun z => e z.1)]; rfl
theorem hR_uI {h : Hp} {c j : Nat} {v : Int32} : hR (uI h c j v) = hR h := rfl
theorem hR_uL {h : Hp} {c j : Nat} {v : Int64} : hR (uL h c j v) = hR h := rfl
theorem hR_uA {h : Hp} {c : Nat} {f : Nat → Int32} : hR (uA h c f) = hR h := rfl
theorem hR_uR_eq {h : Hp} {c j : Nat} {v : Option Nat} : hR (uR h c j v) c j = v := by
  show up2 h.2.2.1 c j v c j = _
  unfold up2
  rw [if_pos ⟨rfl, rfl⟩]
theorem hR_uR_ne {h : Hp} {c c' j j' : Nat} {v : Option Nat} (e : c' ≠ c ∨ j' ≠ j) : hR (uR h c j v) c' j' = hR h c' j' := by
  show up2 h.2.2.1 c j v c' j' = _
  unfold up2
  rw [if_neg (fun z => e.elim (fun e => e z.1) (fun e => e z.2))]; rfl
/-! numbers: a signed number by its value -/
theorem ti_mk {x : Int} (h1 : -2147483648 ≤ x) (h2 : x < 2147483648) : x.bmod (2 ^ 32) = x := by
  have e : (2 ^ 32 : Nat) = 4294967296 := by decide
  rw [e]
  unfold Int.bmod
  by_cases h : x % ((4294967296 : Nat) : Int) < (((4294967296 : Nat) : Int) + 1) / 2
  · rw [if_pos h]; omega
  · rw [if_neg h]; omega
theorem ti_add {a b : Int32} (h1 : -2147483648 ≤ a.toInt + b.toInt) (h2 : a.toInt + b.toInt < 2147483648) : (a + b).toInt = a.toInt + b.toInt := by rw [Int32.toInt_add, ti_mk h1 h2]
theorem ti_sub {a b : Int32} (h1 : -2147483648 ≤ a.toInt - b.toInt) (h2 : a.toInt - b.toInt < 2147483648) : (a - b).toInt = a.toInt - b.toInt := by rw [Int32.toInt_sub, ti_mk h1 h2]
theorem ti_mul {a b : Int32} (h1 : -2147483648 ≤ a.toInt * b.toInt) (h2 : a.toInt * b.toInt < 2147483648) : (a * b).toInt = a.toInt * b.toInt := by rw [Int32.toInt_mul, ti_mk h1 h2]
theorem ti_neg {a : Int32} (h2 : -2147483648 < a.toInt) : (-a).toInt = - a.toInt := by
  have := a.toInt_lt
  rw [Int32.toInt_neg, ti_mk (by omega) (by omega)]
theorem ti_lt {a b : Int32} : a < b ↔ a.toInt < b.toInt := Int32.lt_iff_toInt_lt
theorem ti_le {a b : Int32} : a ≤ b ↔ a.toInt ≤ b.toInt := Int32.le_iff_toInt_le
theorem ti_eq {a b : Int32} : a = b ↔ a.toInt = b.toInt := Int32.toInt_inj.symm
theorem ti_ix (a : Int32) : ix a = a.toInt.toNat := rfl
theorem ti_nI {n : Nat} (h : n < 2147483648) : (nI n).toInt = (n : Int) := nI_toInt (by omega)
theorem ti_div {a b : Int32} (h0 : 0 ≤ a.toInt) (h1 : 0 < b.toInt) : (a / b).toInt = a.toInt / b.toInt := by
  obtain ⟨n, hn, rfl⟩ := nI_of (x := a) (by rw [ti_lt]; show ¬ a.toInt < 0; omega)
  obtain ⟨m, hm, rfl⟩ := nI_of (x := b) (by rw [ti_lt]; show ¬ b.toInt < 0; omega)
  rw [nI_toInt hm] at h1
  rw [pk_div hn (by omega) hm, nI_toInt hn, nI_toInt hm, nI_toInt (Nat.lt_of_le_of_lt (Nat.div_le_self n m) hn)]
  omega
theorem ti_rem {a b : Int32} (h0 : 0 ≤ a.toInt) (h1 : 0 < b.toInt) : (irem a b).toInt = a.toInt % b.toInt := by
  obtain ⟨n, hn, rfl⟩ := nI_of (x := a) (by rw [ti_lt]; show ¬ a.toInt < 0; omega)
  obtain ⟨m, hm, rfl⟩ := nI_of (x := b) (by rw [ti_lt]; show ¬ b.toInt < 0; omega)
  rw [nI_toInt hm] at h1
  show (nI n - nI n / nI m * nI m).toInt = _
  rw [pk_rem hn (by omega) hm, nI_toInt hn, nI_toInt hm, nI_toInt (Nat.lt_of_le_of_lt (Nat.mod_le n m) hn)]
  omega
