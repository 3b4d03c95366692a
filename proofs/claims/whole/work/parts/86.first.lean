/-! ===== at first the two are alike ===== -/
def S0 (S : Nat → Nat → Int32) : Prop := S 0 6 = 0 ∧ S 0 7 = -1 ∧ (S 1 0 = 0 ∧ S 1 1 = 0 ∧ S 1 2 = 0 ∧ S 1 3 = 1 ∧ S 1 4 = 0 ∧ S 1 5 = 0 ∧ S 1 6 = 1) ∧ (S 2 3 = 0 ∧ S 2 4 = 0) ∧ (S 6 1 = 0 ∧ ∀ j, j < 24 → S 7 j = 0) ∧ (S 8 1 = 0 ∧ ∀ j, j < 12 → S 9 j = 0) ∧ (S 10 3 = 0 ∧ S 10 4 = 0 ∧ (∀ j, j < 60 → S 11 j = 0) ∧ (∀ j, j < 60 → S 12 j = 0) ∧ (∀ j, j < 60 → S 13 j = 0)) ∧ S 14 3 = 0 ∧ S 14 4 = 0 ∧ (∀ j, j < 36 → S 15 j = 9) ∧ (∀ j, j < 8 → S 16 j = 2)
theorem S0_27 {n : Int32} {H : Hp} (x : fctP H (fctX n)) : S0 (fun k => hI H (27 + k)) := ⟨(x _ (List.mem_of_getElem? (i := 25) rfl) 0 Nat.zero_lt_one), (x _ (List.mem_of_getElem? (i := 26) rfl) 0 Nat.zero_lt_one), ⟨(x _ (List.mem_of_getElem? (i := 27) rfl) 0 Nat.zero_lt_one), (x _ (List.mem_of_getElem? (i := 28) rfl) 0 Nat.zero_lt_one), (x _ (List.mem_of_getElem? (i := 29) rfl) 0 Nat.zero_lt_one), (x _ (List.mem_of_getElem? (i := 30) rfl) 0 Nat.zero_lt_one), (x _ (List.mem_of_getElem? (i := 31) rfl) 0 Nat.zero_lt_one), (x _ (List.mem_of_getElem? (i := 32) rfl) 0 Nat.zero_lt_one), (x _ (List.mem_of_getElem? (i := 33) rfl) 0 Nat.zero_lt_one)⟩, ⟨(x _ (List.mem_of_getElem? (i := 34) rfl) 0 Nat.zero_lt_one), (x _ (List.mem_of_getElem? (i := 35) rfl) 0 Nat.zero_lt_one)⟩, ⟨(x _ (List.mem_of_getElem? (i := 36) rfl) 0 Nat.zero_lt_one), (fun j hj => by have := x _ (List.mem_of_getElem? (i := 37) rfl) j hj; dsimp only at this; rw [Nat.zero_add] at this; exact this)⟩, ⟨(x _ (List.mem_of_getElem? (i := 38) rfl) 0 Nat.zero_lt_one), (fun j hj => by have := x _ (List.mem_of_getElem? (i := 39) rfl) j hj; dsimp only at this; rw [Nat.zero_add] at this; exact this)⟩, ⟨(x _ (List.mem_of_getElem? (i := 40) rfl) 0 Nat.zero_lt_one), (x _ (List.mem_of_getElem? (i := 41) rfl) 0 Nat.zero_lt_one), (fun j hj => by have := x _ (List.mem_of_getElem? (i := 42) rfl) j hj; dsimp only at this; rw [Nat.zero_add] at this; exact this), (fun j hj => by have := x _ (List.mem_of_getElem? (i := 43) rfl) j hj; dsimp only at this; rw [Nat.zero_add] at this; exact this), (fun j hj => by have := x _ (List.mem_of_getElem? (i := 44) rfl) j hj; dsimp only at this; rw [Nat.zero_add] at this; exact this)⟩, (x _ (List.mem_of_getElem? (i := 46) rfl) 0 Nat.zero_lt_one), (x _ (List.mem_of_getElem? (i := 47) rfl) 0 Nat.zero_lt_one), (fun j hj => by have := x _ (List.mem_of_getElem? (i := 48) rfl) j hj; dsimp only at this; rw [Nat.zero_add] at this; exact this), (fun j hj => by have := x _ (List.mem_of_getElem? (i := 49) rfl) j hj; dsimp only at this; rw [Nat.zero_add] at this; exact this)⟩
theorem S0_44 {n : Int32} {H : Hp} (x : fctP H (fctX n)) : S0 (fun k => hI H (44 + k)) := ⟨(x _ (List.mem_of_getElem? (i := 50) rfl) 0 Nat.zero_lt_one), (x _ (List.mem_of_getElem? (i := 51) rfl) 0 Nat.zero_lt_one), ⟨(x _ (List.mem_of_getElem? (i := 52) rfl) 0 Nat.zero_lt_one), (x _ (List.mem_of_getElem? (i := 53) rfl) 0 Nat.zero_lt_one), (x _ (List.mem_of_getElem? (i := 54) rfl) 0 Nat.zero_lt_one), (x _ (List.mem_of_getElem? (i := 55) rfl) 0 Nat.zero_lt_one), (x _ (List.mem_of_getElem? (i := 56) rfl) 0 Nat.zero_lt_one), (x _ (List.mem_of_getElem? (i := 57) rfl) 0 Nat.zero_lt_one), (x _ (List.mem_of_getElem? (i := 58) rfl) 0 Nat.zero_lt_one)⟩, ⟨(x _ (List.mem_of_getElem? (i := 59) rfl) 0 Nat.zero_lt_one), (x _ (List.mem_of_getElem? (i := 60) rfl) 0 Nat.zero_lt_one)⟩, ⟨(x _ (List.mem_of_getElem? (i := 61) rfl) 0 Nat.zero_lt_one), (fun j hj => by have := x _ (List.mem_of_getElem? (i := 62) rfl) j hj; dsimp only at this; rw [Nat.zero_add] at this; exact this)⟩, ⟨(x _ (List.mem_of_getElem? (i := 63) rfl) 0 Nat.zero_lt_one), (fun j hj => by have := x _ (List.mem_of_getElem? (i := 64) rfl) j hj; dsimp only at this; rw [Nat.zero_add] at this; exact this)⟩, ⟨(x _ (List.mem_of_getElem? (i := 65) rfl) 0 Nat.zero_lt_one), (x _ (List.mem_of_getElem? (i := 66) rfl) 0 Nat.zero_lt_one), (fun j hj => by have := x _ (List.mem_of_getElem? (i := 67) rfl) j hj; dsimp only at this; rw [Nat.zero_add] at this; exact this), (fun j hj => by have := x _ (List.mem_of_getElem? (i := 68) rfl) j hj; dsimp only at this; rw [Nat.zero_add] at this; exact this), (fun j hj => by have := x _ (List.mem_of_getElem? (i := 69) rfl) j hj; dsimp only at this; rw [Nat.zero_add] at this; exact this)⟩, (x _ (List.mem_of_getElem? (i := 71) rfl) 0 Nat.zero_lt_one), (x _ (List.mem_of_getElem? (i := 72) rfl) 0 Nat.zero_lt_one), (fun j hj => by have := x _ (List.mem_of_getElem? (i := 73) rfl) j hj; dsimp only at this; rw [Nat.zero_add] at this; exact this), (fun j hj => by have := x _ (List.mem_of_getElem? (i := 74) rfl) j hj; dsimp only at this; rw [Nat.zero_add] at this; exact this)⟩
theorem A0_z {j : Nat} (h : j ≠ 3 ∧ j ≠ 13 ∧ j ≠ 14 ∧ (j < 20 ∨ 28 ≤ j) ∧ (j < 30 ∨ 66 ≤ j)) : A0 j = 0 := by
  unfold A0
  rw [if_neg (by omega), if_neg (by omega), if_neg (by omega), if_neg (by omega)]
theorem A0_2 {j : Nat} (h : j < 8) : A0 (20 + j) = 2 := by
  unfold A0
  rw [if_neg (by omega), if_neg (by omega), if_pos (by omega)]
theorem A0_9 {j : Nat} (h : j < 36) : A0 (30 + j) = 9 := by
  unfold A0
  rw [if_neg (by omega), if_neg (by omega), if_neg (by omega), if_pos (by omega)]
theorem Sc0 {n L : Nat} (hn : 4 ≤ n) {S : Nat → Nat → Int32} {a : Nat → Int32} (ha : ∀ j, j < 500 → a j = A0 j) (hS : S0 S) : Sc n L S a := by
  obtain ⟨s06, s07, ⟨s10, s11, s12, s13, s14, s15, s16⟩, ⟨s23, s24⟩, ⟨s61, s7⟩, ⟨s81, s9⟩, ⟨s103, s104, t11, t12, t13⟩, s143, s144, t15, t16⟩ := hS
  have z : ∀ j, j < 500 → (j ≠ 3 ∧ j ≠ 13 ∧ j ≠ 14 ∧ (j < 20 ∨ 28 ≤ j) ∧ (j < 30 ∨ 66 ≤ j)) → a j = 0 := fun j h1 h2 => (ha j h1).trans (A0_z h2)
  have z0 : ∀ j, j < 500 → (j ≠ 3 ∧ j ≠ 13 ∧ j ≠ 14 ∧ (j < 20 ∨ 28 ≤ j) ∧ (j < 30 ∨ 66 ≤ j)) → (a j).toInt = 0 := fun j h1 h2 => by rw [z j h1 h2]; rfl
  have a3 : a 3 = -1 := ha 3 (by omega)
  have a13 : a 13 = 1 := ha 13 (by omega)
  have a14 : a 14 = 1 := ha 14 (by omega)
  have n5 : tn (a 5) = 0 := by unfold tn; rw [z0 5 (by omega) (by omega)]; rfl
  have n7 : tn (a 7) = 0 := by unfold tn; rw [z0 7 (by omega) (by omega)]; rfl
  refine ⟨?_, ?_, ?_, ?_, ?_, ?_, ?_, ?_, ?_, ?_, ?_, ?_, ?_, ?_⟩
  · exact ⟨s143.trans (z 0 (by omega) (by omega)).symm, s144.trans (z 1 (by omega) (by omega)).symm, fun j hj => (t15 j hj).trans ((ha _ (by omega)).trans (A0_9 hj)).symm, fun j hj => (t16 j hj).trans ((ha _ (by omega)).trans (A0_2 hj)).symm⟩
  · exact ⟨s10.trans (z 10 (by omega) (by omega)).symm, s11.trans (z 11 (by omega) (by omega)).symm, s12.trans (z 12 (by omega) (by omega)).symm, s13.trans a13.symm, s14.trans (z 15 (by omega) (by omega)).symm, s15.trans (z 16 (by omega) (by omega)).symm, s16.trans a14.symm⟩
  · exact ⟨s06.trans (z 2 (by omega) (by omega)).symm, s07.trans a3.symm⟩
  · exact ⟨s61.trans (z 4 (by omega) (by omega)).symm, fun j hj => (s7 j hj).trans (z _ (by omega) (by omega)).symm⟩
  · exact ⟨s81.trans (z 6 (by omega) (by omega)).symm, fun j hj => (s9 j hj).trans (z _ (by omega) (by omega)).symm⟩
  · refine ⟨s103.trans (z 7 (by omega) (by omega)).symm, ?_, fun j hj => ⟨(t11 j hj).trans (z _ (by omega) (by omega)).symm, (t12 j hj).trans (z _ (by omega) (by omega)).symm, (t13 j hj).trans (z _ (by omega) (by omega)).symm⟩⟩
    rw [n7]; exact s104
  · refine ⟨s24.trans (z 5 (by omega) (by omega)).symm, 0, by omega, s23, fun i hi => ?_⟩
    rw [n5] at hi; omega
  · refine ⟨?_, ?_, fun j hj => ?_⟩
    · rw [z0 1 (by omega) (by omega)]; omega
    · rw [z0 1 (by omega) (by omega)]; omega
    · rw [(ha _ (by omega)).trans (A0_2 hj)]; decide
  · unfold NShip NSt
    dsimp only
    rw [z0 (10 + 0) (by omega) (by omega), z0 (10 + 1) (by omega) (by omega), z0 (10 + 2) (by omega) (by omega), show a (10 + 3) = 1 from a13, show a (10 + 4) = 1 from a14, z0 (10 + 6) (by omega) (by omega)]
    have t1 : (1 : Int32).toInt = 1 := rfl
    rw [t1]
    refine ⟨by omega, by omega, by omega, by omega, by omega, by omega, by omega, by omega, Or.inr rfl, by omega, by omega⟩
  · unfold NTx
    rw [z0 2 (by omega) (by omega), a3]
    decide
  · unfold NCourse
    rw [z0 4 (by omega) (by omega)]
    refine ⟨by omega, by omega, fun j hj => ?_⟩
    rw [z0 _ (by omega) (by omega)]; omega
  · unfold NGoods
    rw [z0 6 (by omega) (by omega)]
    refine ⟨by omega, by omega, fun j hj => ?_⟩
    rw [z0 _ (by omega) (by omega)]; omega
  · unfold NCrew
    rw [z0 7 (by omega) (by omega), n7]
    refine ⟨by omega, by omega, fun j hj => ⟨?_, ?_, Or.inl (z _ (by omega) (by omega))⟩, fun j hj => absurd hj (by omega), fun i j _ hj => absurd hj (by omega), fun j hj => absurd hj (by omega)⟩
    · rw [z0 _ (by omega) (by omega)]; omega
    · rw [z0 _ (by omega) (by omega)]; omega
  · unfold NWake
    rw [z0 5 (by omega) (by omega), n5]
    exact ⟨by omega, by omega, fun i hi => absurd hi (by omega)⟩
theorem bt_z {h : Nat} (hh : h < 8) : ¬ bt 0 h := by
  have : h = 0 ∨ h = 1 ∨ h = 2 ∨ h = 3 ∨ h = 4 ∨ h = 5 ∨ h = 6 ∨ h = 7 := by omega
  unfold bt
  rcases this with rfl | rfl | rfl | rfl | rfl | rfl | rfl | rfl <;> decide +kernel
theorem Nw_WF {n : Int32} {H : Hp} (x : NwX n H) : WF 0 H := by
  obtain ⟨h1, h2, -⟩ := x
  refine ⟨h1, fun c j q hs => ?_⟩
  rcases Nat.lt_or_ge c 73 with hc | hc
  · rcases Nat.lt_or_ge j 14 with hj | hj
    · exact h2 c j q hc hj hs
    · rw [show srf 0 c j = srfX c j from rfl, srfX_j hj] at hs; cases hs
  · rw [show srf 0 c j = srfX c j from rfl, srfX_c hc] at hs; cases hs
theorem Rl_first {n : Nat} {H Hm : Hp} (hn : 4 ≤ n ∧ n ≤ 12) (xx : NwX (nI n) H) (y : NwM (nI n) Hm) : Rl n 0 (fun _ _ => none) H Hm := by
  obtain ⟨-, -, x, dy⟩ := xx
  obtain ⟨-, y2, y5, y6, y7, y27, ya, yb⟩ := y
  have a2 : hI Hm 1 2 = 0 := ya 2 (by omega)
  have a3 : hI Hm 1 3 = -1 := ya 3 (by omega)
  have b2 : hI Hm 2 2 = 0 := yb 2 (by omega)
  have t0 : tn 0 = 0 := rfl
  refine ⟨hn, (x _ (List.mem_of_getElem? (i := 45) rfl) 0 Nat.zero_lt_one), y2, Sc0 hn.1 ya (S0_27 x), Sc0 hn.1 yb (S0_44 x), ?_, ?_, ?_, ?_, ?_, ?_⟩
  · refine ⟨(x _ (List.mem_of_getElem? (i := 15) rfl) 0 Nat.zero_lt_one).trans y5.symm, ?_, ?_, fun j hj => ?_⟩
    · rw [y5]; decide
    · rw [y5]; decide
    · rw [y5, t0] at hj; omega
  · exact Or.inl ⟨(x _ (List.mem_of_getElem? (i := 17) rfl) 0 Nat.zero_lt_one), y6, y7⟩
  · refine ⟨fun i hi => ?_, (x _ (List.mem_of_getElem? (i := 13) rfl) 0 Nat.zero_lt_one), ?_⟩
    · rw [a2, t0] at hi; omega
    · rw [a2, b2]; decide
  · unfold Lw
    rw [a3, if_pos (by decide)]
    exact dy (61, 1, 18) (by decide)
  · have x10 : hI H 64 10 = 0 := (x _ (List.mem_of_getElem? (i := 75) rfl) 0 Nat.zero_lt_one)
    have x11 : hI H 64 11 = 0 := (x _ (List.mem_of_getElem? (i := 76) rfl) 0 Nat.zero_lt_one)
    refine ⟨fun h hh hb => ?_, fun h hh hb => ?_, Or.inl (x _ (List.mem_of_getElem? (i := 77) rfl) 0 Nat.zero_lt_one), Or.inl ⟨dy (64, 6, 69) (by decide), dy (64, 7, 70) (by decide)⟩, Or.inl ⟨dy (64, 8, 71) (by decide), dy (64, 9, 72) (by decide)⟩⟩
    · rw [x10] at hb; exact absurd hb (bt_z hh)
    · rw [x11] at hb; exact absurd hb (bt_z hh)
  · exact Or.inl y27
