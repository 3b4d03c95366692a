/-! ===== where the fixed references are ===== -/
theorem blt_f {j k : Nat} (h : k ≤ j) : Nat.blt j k = false := by
  cases hb : Nat.blt j k with
  | false => rfl
  | true => rw [Nat.blt_eq] at hb; omega
theorem srfX_j {c j : Nat} (hj : 14 ≤ j) : srfX c j = none := by
  have h1 := blt_f (j := j) (k := 1) (by omega)
  have h2 := blt_f (j := j) (k := 2) (by omega)
  have h3 := blt_f (j := j) (k := 3) (by omega)
  have h4 := blt_f (j := j) (k := 4) (by omega)
  have h5 := blt_f (j := j) (k := 5) (by omega)
  have h6 := blt_f (j := j) (k := 6) (by omega)
  have h7 := blt_f (j := j) (k := 7) (by omega)
  have h8 := blt_f (j := j) (k := 8) (by omega)
  have h9 := blt_f (j := j) (k := 9) (by omega)
  have h10 := blt_f (j := j) (k := 10) (by omega)
  have h11 := blt_f (j := j) (k := 11) (by omega)
  have h12 := blt_f (j := j) (k := 12) (by omega)
  have h13 := blt_f (j := j) (k := 13) (by omega)
  unfold srfX
  have ap : ∀ (b : Bool) (f g : Nat → Option Nat), (cond b f g) j = cond b (f j) (g j) := fun b f g => by cases b <;> rfl
  simp only [ap, h1, h2, h3, h4, h5, h6, h7, h8, h9, h10, h11, h12, h13, cond_false, Bool.cond_self]
theorem srfX_c {c j : Nat} (hc : 73 ≤ c) : srfX c j = none := by
  unfold srfX
  have ap : ∀ (b : Bool) (f g : Nat → Option Nat), (cond b f g) j = cond b (f j) (g j) := fun b f g => by cases b <;> rfl
  have b : ∀ k, k ≤ 73 → Nat.blt c k = false := fun k hk => blt_f (by omega)
  rw [ap, b 37 (by omega)]
  simp only [ap, cond_false, cond_true, b 55 (by omega), b 64 (by omega), b 68 (by omega), b 70 (by omega), b 71 (by omega), b 72 (by omega), b 69 (by omega), b 65 (by omega), b 66 (by omega), b 67 (by omega), b 60 (by omega), b 61 (by omega), b 62 (by omega), b 63 (by omega), b 73 (by omega), Bool.cond_self]
