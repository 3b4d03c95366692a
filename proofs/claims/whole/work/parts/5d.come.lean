/-! ===== comeTo, of both ===== -/
section
variable {N : Nat} {g : Hp}
theorem st_dec {l p hh sp : Nat} (hl : l < 3) (hp : p < 12) (h8 : hh < 8) (hs : sp ≤ 4) : f129 (nI (((12 * l + p) * 8 + hh) * 5 + sp)) = nI l ∧ f130 (nI (((12 * l + p) * 8 + hh) * 5 + sp)) = nI p ∧ f131 (nI (((12 * l + p) * 8 + hh) * 5 + sp)) = nI hh ∧ f132 (nI (((12 * l + p) * 8 + hh) * 5 + sp)) = nI sp := by
  obtain ⟨d1, d2, d3, d4⟩ := nI_dec (((12 * l + p) * 8 + hh) * 5 + sp) (by omega)
  rw [d1, d2, d3, d4]
  refine ⟨?_, ?_, ?_, ?_⟩ <;> congr 1 <;> omega
theorem comeS_w {l p hh sp : Nat} {p2 : Int32} (hl : l < 3) (hp : p < 12) (h8 : hh < 8) (hs : sp ≤ 4) : Wp (f84 N (nI (((12 * l + p) * 8 + hh) * 5 + sp)) p2 g) fun x => (∀ k, k ≠ 28 → hI x k = hI g k) ∧ hR x = hR g ∧ hI x 28 0 = nI l ∧ hI x 28 1 = nI p ∧ hI x 28 2 = nI hh ∧ hI x 28 3 = nI sp ∧ hI x 28 4 = hI g 28 4 + (if nI hh = 0 then 1 else 0) ∧ hI x 28 5 = hI g 28 5 + (if hI g 28 1 < nI p then 0 else 1) ∧ hI x 28 6 = hI g 28 6 := by
  obtain ⟨d1, d2, d3, d4⟩ := st_dec hl hp h8 hs
  have k : nI (((12 * l + p) * 8 + hh) * 5 + sp) < 2000 := by rw [ti_lt, ti_nI (by omega)]; show _ < (2000 : Int); omega
  generalize nI (((12 * l + p) * 8 + hh) * 5 + sp) = v at *
  unfold f84 f83 f84_b36 f84_b38
  by_cases c1 : nI hh = 0 <;> by_cases c2 : hI g 28 1 < nI p <;>
    simp [Wp_bnd, Wp_bind, Wp_some, k, d1, d2, d3, d4, c1, c2, hI_uI_eq, hI_uI_ne, pu_eq, pu_ne, hR_uI] <;>
    (intro k hk; simp [hI_uI_ne, hk])
theorem mtailS_w {l p hh sp : Nat} (hl : l < 3) (hp : p < 12) (h8 : hh < 8) (hs : sp ≤ 4) : Wp (mtail N (nI (((12 * l + p) * 8 + hh) * 5 + sp)) g) fun y => y.1 = nI (((12 * l + p) * 8 + hh) * 5 + sp) ∧ (∀ k, k ≠ 1 → hI y.2 k = hI g k) ∧ (∀ j, j < 10 ∨ 17 ≤ j → hI y.2 1 j = hI g 1 j) ∧ hI y.2 1 10 = nI l ∧ hI y.2 1 11 = nI p ∧ hI y.2 1 12 = nI hh ∧ hI y.2 1 13 = nI sp ∧ hI y.2 1 15 = hI g 1 15 + (if nI hh = 0 then 1 else 0) ∧ hI y.2 1 16 = hI g 1 16 + (if hI g 1 11 < nI p then 0 else 1) ∧ hI y.2 1 14 = hI g 1 14 := by
  obtain ⟨d1, d2, d3, d4⟩ := st_dec hl hp h8 hs
  have k : nI (((12 * l + p) * 8 + hh) * 5 + sp) < 2000 := by rw [ti_lt, ti_nI (by omega)]; show _ < (2000 : Int); omega
  generalize nI (((12 * l + p) * 8 + hh) * 5 + sp) = v at *
  have d1 : f144 v = nI l := d1
  have d2 : f145 v = nI p := d2
  have d3 : f146 v = nI hh := d3
  have d4 : f147 v = nI sp := d4
  have i10 : ix (10 : Int32) = 10 := rfl
  have i11 : ix (11 : Int32) = 11 := rfl
  have i12 : ix (12 : Int32) = 12 := rfl
  have i13 : ix (13 : Int32) = 13 := rfl
  have i15 : ix (15 : Int32) = 15 := rfl
  have i16 : ix (16 : Int32) = 16 := rfl
  have ib : inb (15 : Int32) 500 := by decide
  unfold mtail f201_b111 f201_b113
  by_cases c1 : nI hh = 0 <;> by_cases c2 : hI g 1 11 < nI p <;>
    simp [Wp_bnd, Wp_gd, Wp_some, k, d1, d2, d3, d4, c1, c2, i10, i11, i12, i13, i15, i16, ib, hI_uI_eq, pu_eq, pu_ne] <;>
    exact ⟨ib, fun k hk => by simp [hI_uI_ne, hk], fun j hj => by simp [pu, show ¬ j = 10 by omega, show ¬ j = 11 by omega, show ¬ j = 12 by omega, show ¬ j = 13 by omega, show ¬ j = 15 by omega, show ¬ j = 16 by omega]⟩
theorem gr_dec {l p : Nat} (hl : l < 3) (hp : p < 12) : ¬ nI (2000 + 12 * l + p) < 2000 ∧ (nI (2000 + 12 * l + p) - 2000) / 12 = nI l ∧ irem (nI (2000 + 12 * l + p) - 2000) 12 = nI p := by
  have e : nI (2000 + 12 * l + p) - 2000 = nI (12 * l + p) := by
    show nI (2000 + 12 * l + p) - nI 2000 = _
    rw [pk_sub (by omega), show 2000 + 12 * l + p - 2000 = 12 * l + p by omega]
  refine ⟨by rw [ti_lt, ti_nI (by omega)]; show ¬ _ < (2000 : Int); omega, ?_, ?_⟩
  · rw [e]
    show nI (12 * l + p) / nI 12 = _
    rw [pk_div (by omega) (by omega) (by omega)]; congr 1; omega
  · rw [e]
    have := pk_rem (a := 12 * l + p) (d := 12) (by omega) (by omega) (by omega)
    show nI (12 * l + p) - nI (12 * l + p) / nI 12 * nI 12 = _
    rw [this]; congr 1; omega
theorem comeG_w {l p : Nat} {p2 : Int32} (hl : l < 3) (hp : p < 12) : Wp (f84 N (nI (2000 + 12 * l + p)) p2 g) fun x => (∀ k, k ≠ 28 → hI x k = hI g k) ∧ hR x = hR g ∧ hI x 28 0 = nI l ∧ hI x 28 1 = nI p ∧ hI x 28 2 = hI g 28 2 ∧ hI x 28 3 = hI g 28 3 ∧ hI x 28 4 = hI g 28 4 ∧ hI x 28 5 = hI g 28 5 + (if hI g 28 1 < nI p then 0 else 1) ∧ hI x 28 6 = 0 := by
  obtain ⟨k, d1, d2⟩ := gr_dec hl hp
  generalize nI (2000 + 12 * l + p) = v at *
  unfold f84 f84_b38
  by_cases c2 : hI g 28 1 < nI p <;>
    simp [Wp_bnd, Wp_bind, Wp_some, k, d1, d2, c2, hI_uI_eq, hI_uI_ne, pu_eq, pu_ne, hR_uI] <;>
    (intro k hk; simp [hI_uI_ne, hk])
theorem mtailG_w {l p : Nat} (hl : l < 3) (hp : p < 12) : Wp (mtail N (nI (2000 + 12 * l + p)) g) fun y => y.1 = nI (2000 + 12 * l + p) ∧ (∀ k, k ≠ 1 → hI y.2 k = hI g k) ∧ (∀ j, j < 10 ∨ 17 ≤ j → hI y.2 1 j = hI g 1 j) ∧ hI y.2 1 10 = nI l ∧ hI y.2 1 11 = nI p ∧ hI y.2 1 12 = hI g 1 12 ∧ hI y.2 1 13 = hI g 1 13 ∧ hI y.2 1 15 = hI g 1 15 ∧ hI y.2 1 16 = hI g 1 16 + (if hI g 1 11 < nI p then 0 else 1) ∧ hI y.2 1 14 = 0 := by
  obtain ⟨k, d1, d2⟩ := gr_dec hl hp
  generalize nI (2000 + 12 * l + p) = v at *
  have i10 : ix (10 : Int32) = 10 := rfl
  have i11 : ix (11 : Int32) = 11 := rfl
  have i14 : ix (14 : Int32) = 14 := rfl
  have i16 : ix (16 : Int32) = 16 := rfl
  unfold mtail f201_b113
  by_cases c2 : hI g 1 11 < nI p <;>
    simp [Wp_bnd, Wp_gd, Wp_some, k, d1, d2, c2, i10, i11, i14, i16, hI_uI_eq, pu_eq, pu_ne] <;>
    exact ⟨fun k hk => by simp [hI_uI_ne, hk], fun j hj => by simp [pu, show ¬ j = 10 by omega, show ¬ j = 11 by omega, show ¬ j = 14 by omega, show ¬ j = 16 by omega]⟩
end
section
variable {n L N : Nat} {T : Nat → Tc} {hx hm : Hp}
/-- both come to where the outcome says -/
theorem come_r {v p2 : Int32} (hL : L < 1000000) (r : Rl n L T hx hm) (hv : (∃ l p hh sp, l < 3 ∧ p < n ∧ hh < 8 ∧ 1 ≤ sp ∧ sp ≤ 4 ∧ v = nI (((12 * l + p) * 8 + hh) * 5 + sp)) ∨ ∃ l p, l < 3 ∧ p < n ∧ v = nI (2000 + 12 * l + p)) : Wp (f84 N v p2 hx) fun x => Wp (mtail N v hm) fun y => y.1 = v ∧ Rl n (L + 1) T x y.2 ∧ hR x = hR hx ∧ ∀ j, j < 10 ∨ 17 ≤ j → hI y.2 1 j = hI hm 1 j := by
  have n12 := r.n12
  obtain ⟨a0, a1, a2, a3, a4, a5, a6⟩ := r.sc.2.1
  have a1 : hI hx 28 1 = hI hm 1 11 := a1
  have a2 : hI hx 28 2 = hI hm 1 12 := a2
  have a3 : hI hx 28 3 = hI hm 1 13 := a3
  have a4 : hI hx 28 4 = hI hm 1 15 := a4
  have a5 : hI hx 28 5 = hI hm 1 16 := a5
  have a6 : hI hx 28 6 = hI hm 1 14 := a6
  obtain ⟨u1, u2, u3, u4, u5, u6, u7, u8, u9, u10, u11⟩ := r.sc.2.2.2.2.2.2.2.2.1
  dsimp only [Nat.reduceAdd] at u1 u2 u3 u4 u5 u6 u7 u8 u9 u10 u11
  have lp : ∀ p : Nat, (hI hm 1 16).toInt ≤ (hI hm 1 16 + (if hI hm 1 11 < nI p then 0 else 1)).toInt ∧ (hI hm 1 16 + (if hI hm 1 11 < nI p then 0 else 1)).toInt ≤ ((L + 1 : Nat) : Int) := fun p => by
    by_cases k : hI hm 1 11 < nI p
    · have e : hI hm 1 16 + 0 = hI hm 1 16 := Int32.add_zero _
      rw [if_pos k, e]; omega
    · rw [if_neg k, ti_inc (by omega)]; omega
  rcases hv with ⟨l, p, hh, sp, hl, hp, h8, hs1, hs4, rfl⟩ | ⟨l, p, hl, hp, rfl⟩
  · refine Wp_mono (comeS_w hl (by omega) h8 hs4) (fun x ⟨xf, xr, x0, x1, x2, x3, x4, x5, x6⟩ => ?_)
    refine Wp_mono (mtailS_w hl (by omega) h8 hs4) (fun y ⟨yv, yf, ya, y0, y1, y2, y3, y5, y6, y4⟩ => ?_)
    refine ⟨yv, ship_r r xf xr yf ya ⟨x0.trans y0.symm, x1.trans y1.symm, x2.trans y2.symm, x3.trans y3.symm, ?_, ?_, ?_⟩ ?_ ?_, xr, ya⟩
    · rw [y5, ← a4]; exact x4
    · rw [y6, ← a5, ← a1]; exact x5
    · rw [y4, ← a6]; exact x6
    · unfold NShip NSt
      dsimp only [Nat.reduceAdd]
      rw [y0, y1, y2, y3, y4, y6, ti_nI (show l < 2147483648 by omega), ti_nI (show p < 2147483648 by omega), ti_nI (show hh < 2147483648 by omega), ti_nI (show sp < 2147483648 by omega)]
      have := lp p
      exact ⟨by omega, by omega, by omega, by omega, by omega, by omega, by omega, by omega, u9, by omega, by omega⟩
    · rw [y6]; exact (lp p).1
  · refine Wp_mono (comeG_w hl (by omega)) (fun x ⟨xf, xr, x0, x1, x2, x3, x4, x5, x6⟩ => ?_)
    refine Wp_mono (mtailG_w hl (by omega)) (fun y ⟨yv, yf, ya, y0, y1, y2, y3, y5, y6, y4⟩ => ?_)
    refine ⟨yv, ship_r r xf xr yf ya ⟨x0.trans y0.symm, x1.trans y1.symm, ?_, ?_, ?_, ?_, x6.trans y4.symm⟩ ?_ ?_, xr, ya⟩
    · rw [y2, ← a2]; exact x2
    · rw [y3, ← a3]; exact x3
    · rw [y5, ← a4]; exact x4
    · rw [y6, ← a5, ← a1]; exact x5
    · unfold NShip NSt
      dsimp only [Nat.reduceAdd]
      rw [y0, y1, y2, y3, y4, y6, ti_nI (show l < 2147483648 by omega), ti_nI (show p < 2147483648 by omega)]
      have := lp p
      exact ⟨by omega, by omega, by omega, by omega, u5, u6, u7, u8, Or.inl rfl, by omega, by omega⟩
    · rw [y6]; exact (lp p).1
end
