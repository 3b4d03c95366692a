/-! ===== feed ===== -/
section
variable {n L N : Nat} {T : Nat → Tc} {hx hm : Hp}
theorem t8_ext {x y : Int32} (h : ∀ i, i < 8 → x.toBitVec.getLsbD i = y.toBitVec.getLsbD i) : x.toInt8 = y.toInt8 := by
  refine Int8.toBitVec_inj.1 (BitVec.eq_of_getLsbD_eq fun i hi => ?_)
  rw [Int32.toBitVec_toInt8, Int32.toBitVec_toInt8, BitVec.getLsbD_signExtend, BitVec.getLsbD_signExtend, if_pos (by omega), if_pos (by omega), h i hi]
theorem t8_t8 (x : Int32) : x.toInt8.toInt32.toInt8 = x.toInt8 := by
  refine t8_ext fun i hi => ?_
  rw [Int8.toBitVec_toInt32, BitVec.getLsbD_signExtend, if_pos hi, Int32.toBitVec_toInt8, BitVec.getLsbD_signExtend, if_pos (by omega)]
  have h1 : decide (i < 32) = true := decide_eq_true (by omega)
  have h2 : decide (i < 8) = true := decide_eq_true hi
  rw [h1, h2, Bool.true_and, Bool.true_and]
theorem sh_bits (v : Int32) (i : Nat) (h : i < 4) : (iushr v (nI (24 - 8 * i))).toBitVec = v.toBitVec >>> (24 - 8 * i) ∧ (v >>> (nI (24 - 8 * i) &&& 31)).toBitVec = v.toBitVec.sshiftRight (24 - 8 * i) := by
  have e : i = 0 ∨ i = 1 ∨ i = 2 ∨ i = 3 := by omega
  rcases e with rfl | rfl | rfl | rfl
  · exact ⟨rfl, rfl⟩
  · exact ⟨rfl, rfl⟩
  · exact ⟨rfl, rfl⟩
  · exact ⟨rfl, rfl⟩
theorem byte_eq (v : Int32) (i : Nat) (h : i < 4) : ∃ b : Nat, b < 256 ∧ (v >>> (nI (24 - 8 * i) &&& 31)) &&& 255 = nI b ∧ Int8.toInt32 (Int32.toInt8 (Int8.toInt32 (Int32.toInt8 (iushr v (nI (24 - 8 * i)))))) = (nI b).toInt8.toInt32 := by
  obtain ⟨s1, s2⟩ := sh_bits v i h
  obtain ⟨b, hb, e⟩ := pk_andE (v >>> (nI (24 - 8 * i) &&& 31)) (m := 255) 8 (by decide)
  refine ⟨b, hb, e, ?_⟩
  rw [t8_t8, ← e]
  refine congrArg Int8.toInt32 (t8_ext fun j hj => ?_)
  rw [s1, Int32.toBitVec_and, s2, BitVec.getLsbD_and, BitVec.getLsbD_ushiftRight, BitVec.getLsbD_sshiftRight, if_pos (by omega)]
  have h1 : decide (32 ≤ j) = false := decide_eq_false (by omega)
  have h2 : ∀ j, j < 8 → (255 : Int32).toBitVec.getLsbD j = true := by decide
  rw [h1, h2 j hj]
  simp
theorem put_w {h : Hp} (v : Int32) (hN : 600 ≤ N) (h0 : 0 ≤ (hI h 22 3).toInt) (h1 : (hI h 22 3).toInt ≤ 296) : Wp (f64 N v h) fun h' => (∀ c, c ≠ 22 → c ≠ 23 → hI h' c = hI h c) ∧ hR h' = hR h ∧ (∀ j, j ≠ 3 → hI h' 22 j = hI h 22 j) ∧ (hI h' 22 3).toInt = (hI h 22 3).toInt + 4 ∧ (∀ j, j < tn (hI h 22 3) → hI h' 23 j = hI h 23 j) ∧ ∀ i, i < 4 → hI h' 23 (tn (hI h 22 3) + i) = Int8.toInt32 (Int32.toInt8 (Int8.toInt32 (Int32.toInt8 (iushr v (nI (24 - 8 * i)))))) := by
  have t300 : (300 : Int32).toInt = 300 := rfl
  have t0 : (0 : Int32).toInt = 0 := rfl
  have t8 : (-8 : Int32).toInt = -8 := rfl
  generalize hl : hI h 22 3 = l at h0 h1 ⊢
  unfold f64
  rw [Wp_bind]
  refine Wp_lp (fun m s => ∃ i : Nat, s.1.toInt = 24 - 8 * (i : Int) ∧ i + m = 4 ∧ (∀ c, c ≠ 22 → c ≠ 23 → hI s.2 c = hI h c) ∧ hR s.2 = hR h ∧ (∀ j, j ≠ 3 → hI s.2 22 j = hI h 22 j) ∧ (hI s.2 22 3).toInt = l.toInt + i ∧ (∀ j, j < tn l → hI s.2 23 j = hI h 23 j) ∧ ∀ k, k < i → hI s.2 23 (tn l + k) = Int8.toInt32 (Int32.toInt8 (Int8.toInt32 (Int32.toInt8 (iushr v (nI (24 - 8 * k))))))) ?_ N 4 _ (by omega) ⟨0, rfl, rfl, fun c _ _ => rfl, rfl, fun j _ => rfl, by rw [hl]; simp, fun j _ => rfl, fun k hk => absurd hk (Nat.not_lt_zero k)⟩
  rintro m ⟨s1, g⟩ ⟨i, hs, hi, hf, hr, hq, hlen, hb, hk⟩
  dsimp only at hs hf hr hq hlen hb hk ⊢
  unfold f64_l2
  dsimp only
  by_cases c : i = 4
  · refine Wp_pos (by rw [ti_lt, t0]; omega) ?_
    rw [Wp_some]
    refine Or.inr ⟨0, rfl, ?_⟩
    rw [Wp_some]
    subst c
    exact ⟨hf, hr, hq, hlen, hb, hk⟩
  · refine Wp_neg (by rw [ti_lt, t0]; omega) (Wp_neg (by rw [ti_le, t300]; omega) ?_)
    have e1 : s1 = nI (24 - 8 * i) := by rw [ti_eq, hs, ti_nI (by omega)]; omega
    have e2 : ix (hI g 22 3) = tn l + i := by rw [ti_ix, hlen]; unfold tn; omega
    simp only [Wp_gd, Wp_bnd, Wp_some]
    rw [e2]
    refine ⟨inb_mk (by omega) (by omega), Or.inl ⟨trivial, m - 1, by omega, i + 1, ?_, by omega, fun c h1 h2 => by rw [hI_uI_ne h1, hI_uI_ne h2, hf c h1 h2], hr, fun j hj => by rw [hI_uI_eq, pu_ne hj, hI_uI_ne (by omega), hq j hj], ?_, fun j hj => by rw [hI_uI_ne (by omega), hI_uI_eq, pu_ne (by omega), hb j hj], fun k hk' => ?_⟩⟩
    · rw [ti_add (by omega) (by omega), hs, t8]; omega
    · rw [hI_uI_eq, pu_eq, hI_uI_ne (by omega), ti_inc (by omega), hlen]; omega
    · rw [hI_uI_ne (by omega), hI_uI_eq]
      by_cases e : k = i
      · subst e; rw [pu_eq, e1]
      · rw [pu_ne (by omega)]; exact hk k (by omega)
theorem four_w {h : Hp} (v : Int32) (hN : 600 ≤ N) (h0 : 0 ≤ (hI h 0 5).toInt) (h1 : (hI h 0 5).toInt ≤ 296) : Wp (f153 N v h) fun h' => (∀ c, c ≠ 0 → c ≠ 4 → hI h' c = hI h c) ∧ (∀ j, j ≠ 5 → hI h' 0 j = hI h 0 j) ∧ (hI h' 0 5).toInt = (hI h 0 5).toInt + 4 ∧ (∀ j, j < tn (hI h 0 5) → hI h' 4 j = hI h 4 j) ∧ ∀ i, i < 4 → hI h' 4 (tn (hI h 0 5) + i) = (v >>> (nI (24 - 8 * i) &&& 31)) &&& 255 := by
  have t300 : (300 : Int32).toInt = 300 := rfl
  have t0 : (0 : Int32).toInt = 0 := rfl
  have t8 : (-8 : Int32).toInt = -8 := rfl
  generalize hl : hI h 0 5 = l at h0 h1 ⊢
  unfold f153
  rw [Wp_bind]
  refine Wp_lp (fun m s => ∃ i : Nat, s.1.toInt = 24 - 8 * (i : Int) ∧ i + m = 4 ∧ (∀ c, c ≠ 0 → c ≠ 4 → hI s.2 c = hI h c) ∧ (∀ j, j ≠ 5 → hI s.2 0 j = hI h 0 j) ∧ (hI s.2 0 5).toInt = l.toInt + i ∧ (∀ j, j < tn l → hI s.2 4 j = hI h 4 j) ∧ ∀ k, k < i → hI s.2 4 (tn l + k) = (v >>> (nI (24 - 8 * k) &&& 31)) &&& 255) ?_ N 4 _ (by omega) ⟨0, rfl, rfl, fun c _ _ => rfl, fun j _ => rfl, by rw [hl]; simp, fun j _ => rfl, fun k hk => absurd hk (Nat.not_lt_zero k)⟩
  rintro m ⟨s1, g⟩ ⟨i, hs, hi, hf, hq, hlen, hb, hk⟩
  dsimp only at hs hf hq hlen hb hk ⊢
  unfold f153_l2
  dsimp only
  by_cases c : i = 4
  · refine Wp_pos (by rw [ti_lt, t0]; omega) ?_
    rw [Wp_some]
    refine Or.inr ⟨0, rfl, ?_⟩
    rw [Wp_some]
    subst c
    exact ⟨hf, hq, hlen, hb, hk⟩
  · refine Wp_neg (by rw [ti_lt, t0]; omega) ?_
    have e1 : s1 = nI (24 - 8 * i) := by rw [ti_eq, hs, ti_nI (by omega)]; omega
    have e2 : ix (hI g 0 5) = tn l + i := by rw [ti_ix, hlen]; unfold tn; omega
    simp only [Wp_gd, Wp_bnd, Wp_some]
    rw [e2]
    refine ⟨inb_mk (by omega) (by omega), Or.inl ⟨trivial, m - 1, by omega, i + 1, ?_, by omega, fun c h1 h2 => by rw [hI_uI_ne h1, hI_uI_ne h2, hf c h1 h2], fun j hj => by rw [hI_uI_eq, pu_ne hj, hI_uI_ne (by omega), hq j hj], ?_, fun j hj => by rw [hI_uI_ne (by omega), hI_uI_eq, pu_ne (by omega), hb j hj], fun k hk' => ?_⟩⟩
    · rw [ti_add (by omega) (by omega), hs, t8]; omega
    · rw [hI_uI_eq, pu_eq, hI_uI_ne (by omega), ti_inc (by omega), hlen]; omega
    · rw [hI_uI_ne (by omega), hI_uI_eq]
      by_cases e : k = i
      · subst e; rw [pu_eq, e1]
      · rw [pu_ne (by omega)]; exact hk k (by omega)
/-- a step of both: the relation holds on -/
theorem put_r (v : Int32) (hN : 600 ≤ N) (r : Rl n L T hx hm) (h1 : (hI hm 0 5).toInt ≤ 296) : Wp (f64 N v hx) fun x => Wp (f153 N v hm) fun y => Rl n L T x y ∧ (hI y 0 5).toInt = (hI hm 0 5).toInt + 4 := by
  obtain ⟨q1, q2, q3, q4⟩ := r.tp
  refine Wp_mono (put_w v hN (by rw [q1]; exact q2) (by rw [q1]; exact h1)) (fun x ⟨xf, xr, x22, xl, xb, xk⟩ => ?_)
  refine Wp_mono (four_w v hN q2 h1) (fun y ⟨yf, y0, yl, yb, yk⟩ => ?_)
  refine ⟨⟨r.1, ?_, ?_, ?_, ?_, ⟨?_, ?_, ?_, fun j hj => ?_⟩, ?_, ?_, ?_, ?_, ?_⟩, yl⟩
  · rw [xf _ (by omega) (by omega)]; exact r.pX
  · rw [y0 _ (by omega)]; exact r.pM
  · exact Sc_c r.sc (fun k hk => xf _ (by omega) (by omega)) (fun j hj => by rw [yf _ (by omega) (by omega)])
  · exact Sc_c r.scI (fun k hk => xf _ (by omega) (by omega)) (fun j hj => by rw [yf _ (by omega) (by omega)])
  · rw [ti_eq, xl, yl, q1]
  · omega
  · omega
  · have e : tn (hI y 0 5) = tn (hI hm 0 5) + 4 := by unfold tn; omega
    by_cases c : j < tn (hI hm 0 5)
    · rw [xb j (by rw [q1]; exact c), yb j c]; exact q4 j c
    · obtain ⟨i, rfl⟩ : ∃ i, j = tn (hI hm 0 5) + i := ⟨j - tn (hI hm 0 5), by omega⟩
      have hi : i < 4 := by omega
      have xk' := xk i hi
      rw [q1] at xk'
      rw [xk', yk i hi]
      exact byte_eq v i hi
  · exact Fl_c r.fl (xf _ (by omega) (by omega)) (y0 _ (by omega)) (y0 _ (by omega))
  · exact Tx_c r.tx r.sc.2.2.2.2.2.2.2.2.2.1.2.1 (fun c h1 h2 => xf _ (by omega) (by omega)) (by rw [yf _ (by omega) (by omega)]) (yf _ (by omega) (by omega)) (by rw [yf _ (by omega) (by omega)])
  · exact Lw_c r.lw (by rw [xr]) (by rw [yf _ (by omega) (by omega)])
  · rw [yf _ (by omega) (by omega)]
    exact Ch_c r.ch (xf _ (by omega) (by omega)) (xf _ (by omega) (by omega)) (xf _ (by omega) (by omega)) (xf _ (by omega) (by omega)) (xf _ (by omega) (by omega)) (by rw [xr]) (fun j h => rfl)
  · rw [yf _ (by omega) (by omega)]
    exact Tb_c r.tb (y0 _ (by omega)) (yf _ (by omega) (by omega)) (fun j h => by rw [yf _ (by omega) (by omega)])
theorem op_feed (p1 p2 p3 p4 p5 : Int32) (hN : 600 ≤ N) (r : Rl n L T hx hm) : Wp (f95 N p1 p2 p3 p4 p5 hx) fun x => Wp (f154 N p1 p2 p3 p4 p5 hm) fun y => x.1 = y.1 ∧ Rl n L T x.2 y.2 := by
  obtain ⟨q1, q2, q3, q4⟩ := r.tp
  have t20 : (20 : Int32).toInt = 20 := rfl
  have t300 : (300 : Int32).toInt = 300 := rfl
  have e : (hI hm 0 5 + 20).toInt = (hI hm 0 5).toInt + 20 := by rw [ti_add (by omega) (by omega), t20]
  by_cases c : hI hm 0 5 + 20 ≤ 300
  · have c' := c
    rw [ti_le, e, t300] at c'
    obtain ⟨x1, ex1, y1, ey1, r1, l1⟩ := put_r (N := N) p1 hN r (by omega)
    obtain ⟨x2, ex2, y2, ey2, r2, l2⟩ := put_r (N := N) p2 hN r1 (by omega)
    obtain ⟨x3, ex3, y3, ey3, r3, l3⟩ := put_r (N := N) p3 hN r2 (by omega)
    obtain ⟨x4, ex4, y4, ey4, r4, l4⟩ := put_r (N := N) p4 hN r3 (by omega)
    obtain ⟨x5, ex5, y5, ey5, r5, l5⟩ := put_r (N := N) p5 hN r4 (by omega)
    simp only [f95, f154, q1, c, ex1, ex2, ex3, ex4, ex5, ey1, ey2, ey3, ey4, ey5, if_true, Option.bind_some, Wp_some]
    exact ⟨r5.tp.1, r5⟩
  · simp only [f95, f154, q1, c, if_false, Wp_some, true_and]
    exact r
end
