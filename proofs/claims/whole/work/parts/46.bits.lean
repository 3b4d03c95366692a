/-! ===== bits ===== -/
theorem bt_iff {x : Int32} {k : Nat} (h : k < 32) : bt x k ↔ x.toBitVec.getLsbD k = true := by
  have hk : ∀ k, k < 32 → ((nI k &&& 31).toBitVec.smod 32).toNat = k := by decide
  have e : (x >>> (nI k &&& 31)).toBitVec = x.toBitVec.sshiftRight k := by
    rw [Int32.toBitVec_shiftRight]
    show x.toBitVec.sshiftRight ((nI k &&& 31).toBitVec.smod 32).toNat = _
    rw [hk k h]
  have e2 : ((x >>> (nI k &&& 31)) &&& 1 = 0) ↔ x.toBitVec.getLsbD k = false := by
    rw [← Int32.toBitVec_inj, Int32.toBitVec_and, e]
    constructor
    · intro z
      have := congrArg (fun b => b.getLsbD 0) z
      simp only [BitVec.getLsbD_and, BitVec.getLsbD_sshiftRight] at this
      simpa [h] using this
    · intro z
      refine BitVec.eq_of_getLsbD_eq fun i hi => ?_
      simp only [BitVec.getLsbD_and, BitVec.getLsbD_sshiftRight]
      by_cases i0 : i = 0
      · subst i0; simp [h]; rw [← BitVec.getLsbD_eq_getElem]; exact z
      · have : (1 : Int32).toBitVec.getLsbD i = false := by
          show (1#32).getLsbD i = false
          rw [BitVec.getLsbD_one]; simp [i0]
        rw [this, Bool.and_false]
        show false = (0#32).getLsbD i
        rw [BitVec.getLsbD_zero]
  unfold bt f123
  by_cases c : (x >>> (nI k &&& 31)) &&& 1 = 0
  · rw [if_pos c]
    rw [e2] at c
    rw [c]
    exact ⟨fun z => absurd z (by decide), fun z => absurd z (by decide)⟩
  · rw [if_neg c]
    have : x.toBitVec.getLsbD k = true := by
      cases hc : x.toBitVec.getLsbD k with
      | true => rfl
      | false => exact absurd (e2.2 hc) c
    exact ⟨fun _ => this, fun _ => rfl⟩
theorem bt01 (x p : Int32) : f123 x p = 0 ∨ f123 x p = 1 := by
  unfold f123
  by_cases c : (x >>> (p &&& 31)) &&& 1 = 0
  · rw [if_pos c]; exact Or.inl rfl
  · rw [if_neg c]; exact Or.inr rfl
theorem bt_n {x : Int32} {k : Nat} : ¬ bt x k ↔ f123 x (nI k) = 0 := by
  unfold bt
  rcases bt01 x (nI k) with h | h
  · rw [h]; exact ⟨fun _ => rfl, fun _ z => absurd z (by decide)⟩
  · rw [h]; exact ⟨fun z => absurd rfl z, fun z => absurd z (by decide)⟩
theorem bt_or {x y : Int32} {k : Nat} (h : k < 32) : bt (x ||| y) k ↔ bt x k ∨ bt y k := by
  rw [bt_iff h, bt_iff h, bt_iff h, Int32.toBitVec_or, BitVec.getLsbD_or, Bool.or_eq_true]
theorem bt_and {x y : Int32} {k : Nat} (h : k < 32) : bt (x &&& y) k ↔ bt x k ∧ bt y k := by
  rw [bt_iff h, bt_iff h, bt_iff h, Int32.toBitVec_and, BitVec.getLsbD_and, Bool.and_eq_true]
theorem bt_not {x : Int32} {k : Nat} (h : k < 32) : bt (x ^^^ (-1 : Int32)) k ↔ ¬ bt x k := by
  rw [bt_iff h, bt_iff h, Int32.toBitVec_xor, BitVec.getLsbD_xor]
  have : (-1 : Int32).toBitVec.getLsbD k = true := by
    have : ∀ k, k < 32 → (-1 : Int32).toBitVec.getLsbD k = true := by decide
    exact this k h
  rw [this]
  cases x.toBitVec.getLsbD k <;> decide
theorem bt_xor {x y : Int32} {k : Nat} (h : k < 32) : bt (x ^^^ y) k ↔ ¬ (bt x k ↔ bt y k) := by
  rw [bt_iff h, bt_iff h, bt_iff h, Int32.toBitVec_xor, BitVec.getLsbD_xor]
  cases x.toBitVec.getLsbD k <;> cases y.toBitVec.getLsbD k <;> decide
theorem bt_one {j k : Nat} (hj : j < 32) (h : k < 32) : bt ((1 : Int32) <<< (nI j &&& 31)) k ↔ k = j := by
  have : ∀ j, j < 32 → ∀ k, k < 32 → (f123 ((1 : Int32) <<< (nI j &&& 31)) (nI k) = 1 ↔ k = j) := by decide
  exact this j hj k h
theorem bt_0 {k : Nat} (h : k < 32) : ¬ bt 0 k := by
  have : ∀ k, k < 32 → ¬ f123 0 (nI k) = 1 := by decide
  exact this k h
theorem bt_ext {x y : Int32} (h : ∀ k, k < 32 → (bt x k ↔ bt y k)) : x = y := by
  refine Int32.toBitVec_inj.1 (BitVec.eq_of_getLsbD_eq fun i hi => ?_)
  have := h i hi
  rw [bt_iff hi, bt_iff hi] at this
  cases h1 : x.toBitVec.getLsbD i <;> cases h2 : y.toBitVec.getLsbD i <;> simp_all
/-- the reference's `has` -/
theorem e141 (x p : Int32) : f141 x p = f123 x p := by
  unfold f141 f123
  have h : ∀ z : Int32, z &&& 1 = 0 ∨ z &&& 1 = 1 := fun z => by
    rcases pk_andE z (m := 1) 1 (by decide) with ⟨j, hj, e⟩
    rw [e]
    have : j = 0 ∨ j = 1 := by omega
    rcases this with rfl | rfl
    · exact Or.inl rfl
    · exact Or.inr rfl
  rcases h (x >>> (p &&& 31)) with e | e
  · rw [e]; decide
  · rw [e]; decide
