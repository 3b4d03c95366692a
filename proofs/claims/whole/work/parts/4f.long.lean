/-! ===== long numbers ===== -/
theorem tl_mk {x : Int} (h1 : -9223372036854775808 ≤ x) (h2 : x < 9223372036854775808) : x.bmod (2 ^ 64) = x := by
  have e : (2 ^ 64 : Nat) = 18446744073709551616 := by decide
  rw [e]
  unfold Int.bmod
  by_cases h : x % ((18446744073709551616 : Nat) : Int) < (((18446744073709551616 : Nat) : Int) + 1) / 2
  · rw [if_pos h]; omega
  · rw [if_neg h]; omega
theorem tl_add {a b : Int64} (h1 : -9223372036854775808 ≤ a.toInt + b.toInt) (h2 : a.toInt + b.toInt < 9223372036854775808) : (a + b).toInt = a.toInt + b.toInt := by rw [Int64.toInt_add, tl_mk h1 h2]
theorem tl_sub {a b : Int64} (h1 : -9223372036854775808 ≤ a.toInt - b.toInt) (h2 : a.toInt - b.toInt < 9223372036854775808) : (a - b).toInt = a.toInt - b.toInt := by rw [Int64.toInt_sub, tl_mk h1 h2]
theorem tl_mul {a b : Int64} (h1 : -9223372036854775808 ≤ a.toInt * b.toInt) (h2 : a.toInt * b.toInt < 9223372036854775808) : (a * b).toInt = a.toInt * b.toInt := by rw [Int64.toInt_mul, tl_mk h1 h2]
theorem tl_neg {a : Int64} (h1 : -9223372036854775808 < a.toInt) : (-a).toInt = -a.toInt := by
  have := a.toInt_lt
  rw [Int64.toInt_neg, tl_mk (by omega) (by omega)]
theorem tl_div {a b : Int64} (h1 : -9223372036854775808 ≤ a.toInt.tdiv b.toInt) (h2 : a.toInt.tdiv b.toInt < 9223372036854775808) : (a / b).toInt = a.toInt.tdiv b.toInt := by rw [Int64.toInt_div, tl_mk h1 h2]
theorem tl_lt {a b : Int64} : a < b ↔ a.toInt < b.toInt := Int64.lt_iff_toInt_lt
theorem tl_le {a b : Int64} : a ≤ b ↔ a.toInt ≤ b.toInt := Int64.le_iff_toInt_le
theorem tl_eq {a b : Int64} : a = b ↔ a.toInt = b.toInt := Int64.toInt_inj.symm
theorem tl_i (a : Int32) : a.toInt64.toInt = a.toInt := Int32.toInt_toInt64 a
theorem ti_l {a : Int64} (h1 : -2147483648 ≤ a.toInt) (h2 : a.toInt < 2147483648) : a.toInt32.toInt = a.toInt := by rw [Int64.toInt_toInt32, ti_mk h1 h2]
theorem lc3 (a b : Int64) : (b.toInt < a.toInt ∧ lg_cmp a b = 1) ∨ (a.toInt = b.toInt ∧ lg_cmp a b = 0) ∨ (a.toInt < b.toInt ∧ lg_cmp a b = -1) := by
  unfold lg_cmp
  by_cases h1 : a > b
  · refine Or.inl ⟨tl_lt.1 h1, if_pos h1⟩
  · rw [if_neg h1]
    have h1 : ¬ b < a := h1
    rw [tl_lt] at h1
    by_cases h2 : a = b
    · exact Or.inr (Or.inl ⟨tl_eq.1 h2, if_pos h2⟩)
    · refine Or.inr (Or.inr ⟨?_, if_neg h2⟩)
      rw [tl_eq] at h2; omega
theorem lc_0 {a b : Int64} : lg_cmp a b = 0 ↔ a.toInt = b.toInt := by
  rcases lc3 a b with ⟨h, e⟩ | ⟨h, e⟩ | ⟨h, e⟩ <;> rw [e]
  · exact ⟨fun z => absurd z (by decide), fun z => by omega⟩
  · exact ⟨fun _ => h, fun _ => rfl⟩
  · exact ⟨fun z => absurd z (by decide), fun z => by omega⟩
theorem lc_le0 {a b : Int64} : lg_cmp a b ≤ 0 ↔ a.toInt ≤ b.toInt := by
  rcases lc3 a b with ⟨h, e⟩ | ⟨h, e⟩ | ⟨h, e⟩ <;> rw [e]
  · exact ⟨fun z => absurd z (by decide), fun z => by omega⟩
  · exact ⟨fun _ => by omega, fun _ => by decide⟩
  · exact ⟨fun _ => by omega, fun _ => by decide⟩
theorem lc_lt0 {a b : Int64} : lg_cmp a b < 0 ↔ a.toInt < b.toInt := by
  rcases lc3 a b with ⟨h, e⟩ | ⟨h, e⟩ | ⟨h, e⟩ <;> rw [e]
  · exact ⟨fun z => absurd z (by decide), fun z => by omega⟩
  · exact ⟨fun z => absurd z (by decide), fun z => by omega⟩
  · exact ⟨fun _ => h, fun _ => by decide⟩
theorem lc_0le {a b : Int64} : 0 ≤ lg_cmp a b ↔ b.toInt ≤ a.toInt := by
  rcases lc3 a b with ⟨h, e⟩ | ⟨h, e⟩ | ⟨h, e⟩ <;> rw [e]
  · exact ⟨fun _ => by omega, fun _ => by decide⟩
  · exact ⟨fun _ => by omega, fun _ => by decide⟩
  · exact ⟨fun z => absurd z (by decide), fun z => by omega⟩
theorem lc_0lt {a b : Int64} : 0 < lg_cmp a b ↔ b.toInt < a.toInt := by
  rcases lc3 a b with ⟨h, e⟩ | ⟨h, e⟩ | ⟨h, e⟩ <;> rw [e]
  · exact ⟨fun _ => h, fun _ => by decide⟩
  · exact ⟨fun z => absurd z (by decide), fun z => by omega⟩
  · exact ⟨fun z => absurd z (by decide), fun z => by omega⟩
theorem clamp_t (q : Int64) : (Int64.toInt32 (mminl (mmaxl q (-1000000 : Int64)) (1000000 : Int64))).toInt = clp q.toInt := by
  have t1 : (-1000000 : Int64).toInt = -1000000 := rfl
  have t2 : (1000000 : Int64).toInt = 1000000 := rfl
  unfold mminl mmaxl clp
  by_cases h1 : (-1000000 : Int64) < q
  · rw [if_pos h1]
    rw [tl_lt, t1] at h1
    rw [if_neg (show ¬ q.toInt < -1000000 by omega)]
    by_cases h2 : (1000000 : Int64) < q
    · rw [if_pos h2]
      rw [tl_lt, t2] at h2
      rw [if_pos (show 1000000 < q.toInt by omega)]; rfl
    · rw [if_neg h2]
      rw [tl_lt, t2] at h2
      rw [if_neg (show ¬ 1000000 < q.toInt by omega), ti_l (by omega) (by omega)]
  · rw [if_neg h1]
    rw [tl_lt, t1] at h1
    by_cases h3 : q.toInt < -1000000
    · rw [if_pos h3]; rfl
    · have : q.toInt = -1000000 := by omega
      rw [if_neg h3, if_neg (show ¬ 1000000 < q.toInt by omega), this]; rfl
theorem clip_t (q : Int64) : (f185 q).toInt = clp q.toInt := by
  have t1 : (-1000000 : Int64).toInt = -1000000 := rfl
  have t2 : (1000000 : Int64).toInt = 1000000 := rfl
  unfold f185 clp
  by_cases h1 : lg_cmp q 1000000 ≤ 0
  · rw [if_pos h1]
    rw [lc_le0, t2] at h1
    by_cases h2 : 0 ≤ lg_cmp q (-1000000)
    · rw [if_pos h2]
      rw [lc_0le, t1] at h2
      rw [if_neg (by omega), if_neg (by omega)]
    · rw [if_neg h2]
      rw [lc_0le, t1] at h2
      rw [if_pos (by omega), t1]
  · rw [if_neg h1]
    rw [lc_le0, t2] at h1
    rw [if_neg (by omega), if_pos (by omega), t2]
theorem clp_bd (x : Int) : -1000000 ≤ clp x ∧ clp x ≤ 1000000 := by
  unfold clp
  by_cases h1 : x < -1000000
  · rw [if_pos h1]; omega
  · rw [if_neg h1]
    by_cases h2 : 1000000 < x
    · rw [if_pos h2]; omega
    · rw [if_neg h2]; omega
theorem tdiv_bd {x y : Int} (h : -1000000 ≤ x) (h2 : x ≤ 1000000) : -1000000 ≤ x.tdiv y ∧ x.tdiv y ≤ 1000000 := by
  have h3 : (x.tdiv y).natAbs ≤ x.natAbs := by
    rw [Int.natAbs_tdiv]; exact Nat.div_le_self _ _
  omega
theorem mul_bd {x y : Int} (h : -1000000 ≤ x) (h2 : x ≤ 1000000) (h3 : -1000000 ≤ y) (h4 : y ≤ 1000000) : -1000000000000 ≤ x * y ∧ x * y ≤ 1000000000000 := by
  have h5 : (x * y).natAbs ≤ 1000000 * 1000000 := by
    rw [Int.natAbs_mul]; exact Nat.mul_le_mul (by omega) (by omega)
  omega
