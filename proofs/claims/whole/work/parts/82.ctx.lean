/-! ===== the class's constructor, from its start ===== -/
def clN (p : Int32) : Nat := if p < 4 then 4 else if 12 < p then 12 else tn p
theorem clN_b (p : Int32) : 4 ≤ clN p ∧ clN p ≤ 12 := by
  have t4 : (4 : Int32).toInt = 4 := rfl
  have t12 : (12 : Int32).toInt = 12 := rfl
  unfold clN
  by_cases c1 : p < 4
  · rw [if_pos c1]; omega
  · rw [if_neg c1]
    by_cases c2 : (12 : Int32) < p
    · rw [if_pos c2]; omega
    · rw [if_neg c2]
      rw [ti_lt] at c1 c2
      unfold tn; omega
theorem clN_x (p : Int32) : mmin (mmax p 4) 12 = nI (clN p) := by
  have t4 : (4 : Int32).toInt = 4 := rfl
  have t12 : (12 : Int32).toInt = 12 := rfl
  unfold mmin mmax clN
  by_cases c1 : p < 4
  · rw [if_pos c1, if_pos c1, if_neg (by decide)]; rfl
  · rw [if_neg c1, if_neg c1]
    by_cases c2 : (12 : Int32) < p
    · rw [if_pos c2, if_pos c2]; rfl
    · rw [if_neg c2, if_neg c2]
      rw [ti_lt] at c1
      exact (nI_tn (by omega)).symm
def fctP (H : Hp) (l : List (Nat × Nat × Nat × Int32)) : Prop := ∀ q, q ∈ l → ∀ j, j < q.2.2.1 → hI H q.1 (q.2.1 + j) = q.2.2.2
/-- what the new object is -/
def NwX (n : Int32) (H : Hp) : Prop := hN H = 73 ∧ (∀ c j q, c < 73 → j < 14 → srf 0 c j = some q → hR H c j = some q) ∧ fctP H (fctX n) ∧ ∀ q, q ∈ dynX → hR H q.1 q.2.1 = some q.2.2
theorem cx_get {n : Int32} (h : cxOK n = true) : R 0 60 90 8 [some (.ref 0), none, some (.int n), none] [] (hNew h00) (fun r H => r = none ∧ NwX n H) := by
  unfold cxOK at h
  cases hr : run 0 1500 60 90 8 [some (.ref 0), none, some (.int n), none] [] (hNew h00) with
  | none => rw [hr] at h; cases h
  | some q =>
    obtain ⟨r, H⟩ := q
    rw [hr] at h
    cases r with
    | some v => cases h
    | none =>
      refine ⟨1500, none, H, hr, rfl, ?_⟩
      dsimp only at h
      rw [Bool.and_eq_true, Bool.and_eq_true, Bool.and_eq_true] at h
      obtain ⟨⟨⟨h1, h2⟩, h3⟩, h4⟩ := h
      refine ⟨of_decide_eq_true h1, fun c j q hc hj hs => ?_, fun q hq j hj => ?_, fun q hq => ?_⟩
      · unfold rfOK at h2
        have := List.all_eq_true.1 (List.all_eq_true.1 h2 c (List.mem_range.2 hc)) j (List.mem_range.2 hj)
        rw [hs] at this
        exact of_decide_eq_true this
      · unfold fctOK at h3
        exact of_decide_eq_true (List.all_eq_true.1 (List.all_eq_true.1 h3 q hq) j (List.mem_range.2 hj))
      · exact of_decide_eq_true (List.all_eq_true.1 h4 q hq)
theorem ctX (p : Int32) : R 0 60 90 0 [some (.ref 0), some (.int p), none, none] [] (hNew h00) (fun r H => r = none ∧ NwX (nI (clN p)) H) := by
  refine R_aload_n (i := 0) rfl rfl ?_
  refine R_oinit (i := 1) rfl (by omega) (Nat.le_of_ble_eq_true rfl) ?_
  refine R_iload_n (i := 2) rfl rfl ?_
  refine R_iconst (i := 3) rfl ?_
  refine R_mmax (i := 4) rfl (by omega) (Nat.le_of_ble_eq_true rfl) ?_
  refine R_bipush (i := 5) rfl ?_
  refine R_mmin (i := 6) rfl (by omega) (Nat.le_of_ble_eq_true rfl) ?_
  rw [show mmin (mmax p (4 : Int32)) (12 : Int32) = nI (clN p) from clN_x p]
  refine R_istore_n [some (.ref 0), some (.int p), some (.int (nI (clN p))), none] (i := 7) rfl rfl ?_
  refine R_weak [some (.ref 0), none, some (.int (nI (clN p))), none] ⟨Or.inr rfl, Or.inl rfl, Or.inr rfl, Or.inl rfl, trivial⟩ ?_
  obtain ⟨b1, b2⟩ := clN_b p
  generalize clN p = n at b1 b2
  have : n = 4 ∨ n = 5 ∨ n = 6 ∨ n = 7 ∨ n = 8 ∨ n = 9 ∨ n = 10 ∨ n = 11 ∨ n = 12 := by omega
  rcases this with rfl | rfl | rfl | rfl | rfl | rfl | rfl | rfl | rfl
  · exact cx_get cx4
  · exact cx_get cx5
  · exact cx_get cx6
  · exact cx_get cx7
  · exact cx_get cx8
  · exact cx_get cx9
  · exact cx_get cx10
  · exact cx_get cx11
  · exact cx_get cx12
