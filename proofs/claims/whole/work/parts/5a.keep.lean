/-! ===== the wake: keep, remember ===== -/
section
variable {N : Nat} {h : Hp}
theorem shift_w (hN : 1000 ≤ N) : Wp (lp (f200_l8 N) N ((0 : Int32), h)) fun q => (∀ k, k ≠ 1 → hI q.2.2 k = hI h k) ∧ (∀ j, j < 203 → hI q.2.2 1 (290 + j) = hI h 1 (297 + j)) ∧ (∀ j, j < 290 ∨ 493 ≤ j → hI q.2.2 1 j = hI h 1 j) := by
  have t203 : (203 : Int32).toInt = 203 := rfl
  refine Wp_lp (fun m s => ∃ i : Nat, s.1 = nI i ∧ i + m = 203 ∧ (∀ k, k ≠ 1 → hI s.2 k = hI h k) ∧ (∀ j, j < i → hI s.2 1 (290 + j) = hI h 1 (297 + j)) ∧ (∀ j, j < 290 ∨ 290 + i ≤ j → hI s.2 1 j = hI h 1 j)) ?_ N 203 _ (by omega) ⟨0, rfl, rfl, fun k _ => rfl, fun j hj => absurd hj (Nat.not_lt_zero j), fun j _ => rfl⟩
  rintro m ⟨s1, g⟩ ⟨i, hs, hi, hf, hg, ho⟩
  dsimp only at hs hf hg ho ⊢
  subst hs
  have ti : (nI i).toInt = (i : Int) := ti_nI (by omega)
  have v1 : (297 : Int32) + nI i = nI (297 + i) := nI_add 297 i
  have v2 : (290 : Int32) + nI i = nI (290 + i) := nI_add 290 i
  unfold f200_l8
  dsimp only
  by_cases c : i = 203
  · refine Wp_pos (by rw [ti_le, ti, t203]; omega) ?_
    rw [Wp_some]
    exact Or.inr ⟨0, rfl, hf, fun j hj => hg j (by omega), fun j hj => ho j (by omega)⟩
  · refine Wp_neg (by rw [ti_le, ti, t203]; omega) ?_
    rw [v1, v2, nix (show 297 + i < 2147483648 by omega), nix (show 290 + i < 2147483648 by omega)]
    simp only [Wp_gd, Wp_bnd, Wp_some]
    refine ⟨nbk (by omega) (by omega), nbk (by omega) (by omega), Or.inl ⟨trivial, m - 1, by omega, i + 1, nI_1 i, by omega, fun k hk => by rw [hI_uI_ne hk, hf k hk], fun j hj => ?_, fun j hj => ?_⟩⟩
    · rw [hI_uI_eq]
      by_cases e : j = i
      · rw [e, pu_eq, ho _ (by omega)]
      · rw [pu_ne (by omega)]; exact hg j (by omega)
    · rw [hI_uI_eq, pu_ne (by omega)]; exact ho j (by omega)
theorem copy7_w {c : Nat} (hN : 1000 ≤ N) (hc : hI h 1 5 = nI c) (h30 : c < 30) : Wp (lp (f200_l35 N) N ((0 : Int32), h)) fun q => (∀ k, k ≠ 1 → hI q.2.2 k = hI h k) ∧ (∀ j, j < 7 → hI q.2.2 1 (290 + 7 * c + j) = hI h 1 (10 + j)) ∧ (∀ j, j < 290 + 7 * c ∨ 297 + 7 * c ≤ j → hI q.2.2 1 j = hI h 1 j) := by
  have t7 : (7 : Int32).toInt = 7 := rfl
  have i5 : ix (5 : Int32) = 5 := rfl
  refine Wp_lp (fun m s => ∃ i : Nat, s.1 = nI i ∧ i + m = 7 ∧ (∀ k, k ≠ 1 → hI s.2 k = hI h k) ∧ (∀ j, j < i → hI s.2 1 (290 + 7 * c + j) = hI h 1 (10 + j)) ∧ (∀ j, j < 290 + 7 * c ∨ 290 + 7 * c + i ≤ j → hI s.2 1 j = hI h 1 j)) ?_ N 7 _ (by omega) ⟨0, rfl, rfl, fun k _ => rfl, fun j hj => absurd hj (Nat.not_lt_zero j), fun j _ => rfl⟩
  rintro m ⟨s1, g⟩ ⟨i, hs, hi, hf, hg, ho⟩
  dsimp only at hs hf hg ho ⊢
  subst hs
  have ti : (nI i).toInt = (i : Int) := ti_nI (by omega)
  unfold f200_l35
  dsimp only
  rw [i5, ho 5 (by omega), hc]
  have v1 : (10 : Int32) + nI i = nI (10 + i) := nI_add 10 i
  have v2 : (290 : Int32) + 7 * nI c + nI i = nI (290 + 7 * c + i) := by
    show nI 290 + nI 7 * nI c + nI i = _
    rw [pk_mul, nI_add, nI_add]
  by_cases cc : i = 7
  · refine Wp_pos (by rw [ti_le, ti, t7]; omega) ?_
    rw [Wp_some]
    exact Or.inr ⟨0, rfl, hf, fun j hj => hg j (by omega), fun j hj => ho j (by omega)⟩
  · refine Wp_neg (by rw [ti_le, ti, t7]; omega) ?_
    rw [v1, v2, nix (show 10 + i < 2147483648 by omega), nix (show 290 + 7 * c + i < 2147483648 by omega)]
    simp only [Wp_gd, Wp_bnd, Wp_some]
    refine ⟨nbk (by omega) (by omega), nbk (by omega) (by omega), Or.inl ⟨trivial, m - 1, by omega, i + 1, nI_1 i, by omega, fun k hk => by rw [hI_uI_ne hk, hf k hk], fun j hj => ?_, fun j hj => ?_⟩⟩
    · rw [hI_uI_eq]
      by_cases e : j = i
      · rw [e, pu_eq, ho _ (by omega)]
      · rw [pu_ne (by omega)]; exact hg j (by omega)
    · rw [hI_uI_eq, pu_ne (by omega)]; exact ho j (by omega)
/-- the reference's keep: with c steps before, d steps lost, c' = c + 1 - d steps after -/
theorem keep_w {c : Nat} (hN : 1000 ≤ N) (hc : hI h 1 5 = nI c) (h30 : c ≤ 30) : Wp (f200 N h) fun g => ∃ d, d = (if c = 30 then 1 else 0) ∧ (∀ k, k ≠ 1 → hI g k = hI h k) ∧ hI g 1 5 = nI (c + 1 - d) ∧ (∀ j, j ≠ 5 → j < 290 → hI g 1 j = hI h 1 j) ∧ (∀ j, j < 7 → hI g 1 (290 + 7 * (c - d) + j) = hI h 1 (10 + j)) ∧ (∀ i j, i < c - d → j < 7 → hI g 1 (290 + 7 * i + j) = hI h 1 (290 + 7 * (i + d) + j)) := by
  have i5 : ix (5 : Int32) = 5 := rfl
  have fin : ∀ {g0 : Hp} {c' : Nat}, hI g0 1 5 = nI c' → c' < 30 → Wp (f200_b33 N g0) fun g => (∀ k, k ≠ 1 → hI g k = hI g0 k) ∧ hI g 1 5 = nI (c' + 1) ∧ (∀ j, j ≠ 5 → j < 290 → hI g 1 j = hI g0 1 j) ∧ (∀ j, j < 7 → hI g 1 (290 + 7 * c' + j) = hI g0 1 (10 + j)) ∧ (∀ i j, i < c' → j < 7 → hI g 1 (290 + 7 * i + j) = hI g0 1 (290 + 7 * i + j)) := fun {g0 c'} e1 e2 => by
    unfold f200_b33
    rw [Wp_bind]
    refine Wp_mono (copy7_w hN e1 e2) (fun q ⟨q1, q2, q3⟩ => ?_)
    rw [Wp_bnd, Wp_some, i5, q3 5 (by omega), e1, nI_1]
    refine ⟨fun k hk => by rw [hI_uI_ne hk, q1 k hk], by rw [hI_uI_eq, pu_eq], fun j h1 h2 => by rw [hI_uI_eq, pu_ne h1, q3 j (by omega)], fun j hj => by rw [hI_uI_eq, pu_ne (by omega), q2 j hj], fun i j hi hj => by rw [hI_uI_eq, pu_ne (by omega), q3 _ (by omega)]⟩
  have t30 : (30 : Int32) = nI 30 := rfl
  unfold f200
  rw [i5, hc]
  by_cases cc : c = 30
  · subst cc
    refine Wp_pos rfl ?_
    rw [Wp_bind]
    refine Wp_mono (shift_w hN) (fun q ⟨q1, q2, q3⟩ => ?_)
    have e5 : hI q.2.2 1 5 - 1 = nI 29 := by rw [q3 5 (by omega), hc]; rfl
    rw [Wp_bnd, e5]
    refine Wp_mono (fin (g0 := uI q.2.2 1 5 (nI 29)) (c' := 29) (by rw [hI_uI_eq, pu_eq]) (by omega)) (fun g ⟨a1, a2, a3, a4, a5⟩ => ?_)
    refine ⟨1, by rw [if_pos rfl], fun k hk => by rw [a1 k hk, hI_uI_ne hk, q1 k hk], a2, fun j h1 h2 => by rw [a3 j h1 h2, hI_uI_eq, pu_ne h1, q3 j (by omega)], fun j hj => ?_, fun i j hi hj => ?_⟩
    · have := a4 j hj
      rw [this, hI_uI_eq, pu_ne (by omega), q3 _ (by omega)]
    · rw [a5 i j (by omega) hj, hI_uI_eq, pu_ne (by omega)]
      have e1 : 290 + 7 * i + j = 290 + (7 * i + j) := by omega
      have e2 : 290 + 7 * (i + 1) + j = 297 + (7 * i + j) := by omega
      rw [e1, e2, q2 _ (by omega)]
  · refine Wp_neg (fun z => cc ((nI_eq (by omega) (by omega)).1 (z.trans t30))) ?_
    refine Wp_mono (fin hc (by omega)) (fun g ⟨a1, a2, a3, a4, a5⟩ => ?_)
    exact ⟨0, by rw [if_neg cc], a1, a2, a3, a4, a5⟩
end
