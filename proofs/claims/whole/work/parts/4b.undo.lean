/-! ===== undo ===== -/
section
variable {n L N : Nat} {T : Nat → Tc} {hx hm : Hp}
theorem st_t {l p h s : Int32} (l0 : 0 ≤ l.toInt) (l1 : l.toInt ≤ 2) (p0 : 0 ≤ p.toInt) (p1 : p.toInt < 12) (h0 : 0 ≤ h.toInt) (h1 : h.toInt ≤ 7) (s0 : 0 ≤ s.toInt) (s1 : s.toInt ≤ 4) : (f143 l p h s).toInt = ((12 * l.toInt + p.toInt) * 8 + h.toInt) * 5 + s.toInt := by
  have t12 : (12 : Int32).toInt = 12 := rfl
  have t8 : (8 : Int32).toInt = 8 := rfl
  have t5 : (5 : Int32).toInt = 5 := rfl
  have a1 : (12 * l).toInt = 12 * l.toInt := by rw [ti_mul (by rw [t12]; omega) (by rw [t12]; omega), t12]
  have a2 : (12 * l + p).toInt = 12 * l.toInt + p.toInt := by rw [ti_add (by omega) (by omega), a1]
  have a3 : ((12 * l + p) * 8).toInt = (12 * l.toInt + p.toInt) * 8 := by rw [ti_mul (by rw [t8]; omega) (by rw [t8]; omega), a2, t8]
  have a4 : ((12 * l + p) * 8 + h).toInt = (12 * l.toInt + p.toInt) * 8 + h.toInt := by rw [ti_add (by omega) (by omega), a3]
  have a5 : (((12 * l + p) * 8 + h) * 5).toInt = ((12 * l.toInt + p.toInt) * 8 + h.toInt) * 5 := by rw [ti_mul (by rw [t5]; omega) (by rw [t5]; omega), a4, t5]
  show (((12 * l + p) * 8 + h) * 5 + s).toInt = _
  rw [ti_add (by omega) (by omega), a5]
theorem dec_t {x : Int32} (h0 : 0 ≤ x.toInt) : (f129 x).toInt = x.toInt / 480 ∧ (f130 x).toInt = x.toInt / 40 % 12 ∧ (f131 x).toInt = x.toInt / 5 % 8 ∧ (f132 x).toInt = x.toInt % 5 := by
  have t480 : (480 : Int32).toInt = 480 := rfl
  have t40 : (40 : Int32).toInt = 40 := rfl
  have t12 : (12 : Int32).toInt = 12 := rfl
  have t8 : (8 : Int32).toInt = 8 := rfl
  have t5 : (5 : Int32).toInt = 5 := rfl
  have d40 : (x / 40).toInt = x.toInt / 40 := by rw [ti_div h0 (by omega), t40]
  have d5 : (x / 5).toInt = x.toInt / 5 := by rw [ti_div h0 (by omega), t5]
  refine ⟨?_, ?_, ?_, ?_⟩
  · unfold f129; rw [ti_div h0 (by omega), t480]
  · unfold f130; rw [ti_rem (by omega) (by omega), d40, t12]
  · unfold f131; rw [ti_rem (by omega) (by omega), d5, t8]
  · unfold f132; rw [ti_rem h0 (by omega), t5]
theorem dec_st {l p h s : Int32} (l0 : 0 ≤ l.toInt) (l1 : l.toInt ≤ 2) (p0 : 0 ≤ p.toInt) (p1 : p.toInt < 12) (h0 : 0 ≤ h.toInt) (h1 : h.toInt ≤ 7) (s0 : 0 ≤ s.toInt) (s1 : s.toInt ≤ 4) : f129 (f143 l p h s) = l ∧ f130 (f143 l p h s) = p ∧ f131 (f143 l p h s) = h ∧ f132 (f143 l p h s) = s := by
  have e := st_t l0 l1 p0 p1 h0 h1 s0 s1
  obtain ⟨d1, d2, d3, d4⟩ := dec_t (x := f143 l p h s) (by omega)
  refine ⟨?_, ?_, ?_, ?_⟩
  · rw [ti_eq, d1, e]; omega
  · rw [ti_eq, d2, e]; omega
  · rw [ti_eq, d3, e]; omega
  · rw [ti_eq, d4, e]; omega
theorem NSt_s {a : Nat → Int32} {c : Nat} (h : NSt n L (fun j => a (290 + 7 * c + j))) : 0 ≤ (a (290 + 7 * c)).toInt ∧ (a (290 + 7 * c)).toInt ≤ 2 ∧ 0 ≤ (a (291 + 7 * c)).toInt ∧ (a (291 + 7 * c)).toInt < (n : Int) ∧ 0 ≤ (a (292 + 7 * c)).toInt ∧ (a (292 + 7 * c)).toInt ≤ 7 ∧ 1 ≤ (a (293 + 7 * c)).toInt ∧ (a (293 + 7 * c)).toInt ≤ 4 ∧ (a (294 + 7 * c) = 0 ∨ a (294 + 7 * c) = 1) ∧ 0 ≤ (a (296 + 7 * c)).toInt ∧ (a (296 + 7 * c)).toInt ≤ (L : Int) := by
  have e1 : 291 + 7 * c = 290 + 7 * c + 1 := by omega
  have e2 : 292 + 7 * c = 290 + 7 * c + 2 := by omega
  have e3 : 293 + 7 * c = 290 + 7 * c + 3 := by omega
  have e4 : 294 + 7 * c = 290 + 7 * c + 4 := by omega
  have e6 : 296 + 7 * c = 290 + 7 * c + 6 := by omega
  rw [e1, e2, e3, e4, e6]
  exact h
/-- the reference's loop of undo -/
theorem und_m {h : Hp} {c : Nat} (hN : 600 ≤ N) (hc : hI h 1 5 = nI c) (h30 : c < 30) : Wp (lp (f205_l17 N) N (0, h)) fun q => (∀ k, k ≠ 1 → hI q.2.2 k = hI h k) ∧ (∀ j, j < 10 ∨ 17 ≤ j → hI q.2.2 1 j = hI h 1 j) ∧ ∀ j, j < 7 → hI q.2.2 1 (10 + j) = hI h 1 (290 + 7 * c + j) := by
  have t7 : (7 : Int32).toInt = 7 := rfl
  have t10 : (10 : Int32).toInt = 10 := rfl
  have t290 : (290 : Int32).toInt = 290 := rfl
  have i5 : ix (5 : Int32) = 5 := rfl
  have tc : (nI c).toInt = (c : Int) := ti_nI (by omega)
  refine Wp_lp (fun m s => ∃ i : Nat, s.1 = nI i ∧ i + m = 7 ∧ (∀ k, k ≠ 1 → hI s.2 k = hI h k) ∧ (∀ j, j < 10 ∨ 17 ≤ j → hI s.2 1 j = hI h 1 j) ∧ ∀ j, j < i → hI s.2 1 (10 + j) = hI h 1 (290 + 7 * c + j)) ?_ N 7 _ (by omega) ⟨0, rfl, rfl, fun c _ => rfl, fun j _ => rfl, fun j hj => absurd hj (Nat.not_lt_zero j)⟩
  rintro m ⟨s1, g⟩ ⟨i, hs, hi, hf, ho, hg⟩
  dsimp only at hs hf ho hg ⊢
  subst hs
  have ti : (nI i).toInt = (i : Int) := ti_nI (by omega)
  unfold f205_l17
  dsimp only
  by_cases cc : i = 7
  · refine Wp_pos (by rw [ti_le, ti, t7]; omega) ?_
    rw [Wp_some]
    exact Or.inr ⟨0, rfl, hf, ho, fun j hj => hg j (by omega)⟩
  · refine Wp_neg (by rw [ti_le, ti, t7]; omega) ?_
    rw [i5, ho 5 (by omega), hc]
    have m1 : ((7 : Int32) * nI c).toInt = 7 * c := by rw [ti_mul (by rw [t7, tc]; omega) (by rw [t7, tc]; omega), t7, tc]
    have m2 : ((290 : Int32) + 7 * nI c).toInt = 290 + 7 * c := by rw [ti_add (by omega) (by omega), m1, t290]
    have m3 : ((290 : Int32) + 7 * nI c + nI i).toInt = 290 + 7 * c + i := by rw [ti_add (by omega) (by omega), m2, ti]
    have m4 : ((10 : Int32) + nI i).toInt = 10 + i := by rw [ti_add (by omega) (by omega), t10, ti]
    have x3 : ix ((290 : Int32) + 7 * nI c + nI i) = 290 + 7 * c + i := by rw [ti_ix, m3]; omega
    have x4 : ix ((10 : Int32) + nI i) = 10 + i := by rw [ti_ix, m4]; omega
    simp only [Wp_gd, Wp_bnd, Wp_some, x3, x4]
    refine ⟨inb_mk (by omega) (by omega), inb_mk (by omega) (by omega), Or.inl ⟨trivial, m - 1, by omega, i + 1, (nI_succ i).symm, by omega, fun k hk => by rw [hI_uI_ne hk, hf k hk], fun j hj => by rw [hI_uI_eq, pu_ne (by omega), ho j hj], fun j hj => ?_⟩⟩
    rw [hI_uI_eq]
    by_cases e : j = i
    · rw [e, pu_eq, ho _ (by omega)]
    · rw [pu_ne (by omega)]; exact hg j (by omega)
theorem op_undo (hN : 600 ≤ N) (r : Rl n L T hx hm) : Wp (f104 N hx) fun x => Wp (f205 N hm) fun y => x.1 = y.1 ∧ Rl n L T x.2 y.2 := by
  have n12 := r.n12
  have t0 : (0 : Int32).toInt = 0 := rfl
  have t1 : (1 : Int32).toInt = 1 := rfl
  have t30 : (30 : Int32).toInt = 30 := rfl
  have i5 : ix (5 : Int32) = 5 := rfl
  obtain ⟨q1, nx, q2, q3, q4⟩ := r.sc.2.2.2.2.2.2.1
  have q1 : hI hx 29 4 = hI hm 1 5 := q1
  have q3 : hI hx 29 3 = nI nx := q3
  obtain ⟨w0, w1, w2⟩ := r.sc.2.2.2.2.2.2.2.2.2.2.2.2.2
  by_cases c0 : hI hm 1 5 = 0
  · have d : ¬ 0 < hI hm 1 5 := by rw [c0]; decide
    simp only [f104, f88, f205, q1, i5, c0, d, if_true, if_false, Wp_bind, Wp_some, true_and, show ¬ (0 : Int32) < 0 by decide]
    exact r
  · obtain ⟨c, hc, hcn⟩ : ∃ c : Nat, tn (hI hm 1 5) = c + 1 ∧ c < 30 := by
      rw [ti_eq, t0] at c0
      exact ⟨tn (hI hm 1 5) - 1, by unfold tn; omega, by unfold tn; omega⟩
    have tc : (hI hm 1 5).toInt = (c : Int) + 1 := by unfold tn at hc; omega
    have d : 0 < hI hm 1 5 := by rw [ti_lt, t0]; omega
    have e1 : hI hm 1 5 - 1 = nI c := by rw [ti_eq, ti_sub (by omega) (by omega), tc, t1, ti_nI (by omega)]; omega
    have tnx : (nI nx).toInt = (nx : Int) := ti_nI (by omega)
    have e2 : (nI nx + 30).toInt = nx + 30 := by rw [ti_add (by omega) (by omega), tnx, t30]
    have e3 : (nI nx + 30 - 1).toInt = nx + 29 := by rw [ti_sub (by omega) (by omega), e2, t1]; omega
    have e4 : irem (nI nx + 30 - 1) 30 = nI ((nx + 29) % 30) := by rw [ti_eq, ti_rem (by omega) (by omega), e3, t30, ti_nI (by omega)]; omega
    have tn' : (nI ((nx + 29) % 30)).toInt = (((nx + 29) % 30 : Nat) : Int) := ti_nI (by omega)
    have x5 : ix (nI ((nx + 29) % 30)) = (nx + 29) % 30 := nI_clamp (by omega)
    have g1 : hI (uI hm 1 5 (nI c)) 1 5 = nI c := by rw [hI_uI_eq, pu_eq]
    obtain ⟨q, eq, hf, ho, hg⟩ := und_m (N := N) (h := uI hm 1 5 (nI c)) hN g1 hcn
    obtain ⟨v1, v2, v3⟩ := w2 c (by omega)
    obtain ⟨u1, u2, u3, u4, u5, u6, u7, u8, u9, u10, u11⟩ := NSt_s v1
    obtain ⟨k1, k2, k3⟩ := q4 c (by omega)
    have ei : (nx + 30 - tn (hI hm 1 5) + c) % 30 = (nx + 29) % 30 := by omega
    rw [ei] at k1 k2 k3
    have k1 : hI hx 30 ((nx + 29) % 30) = _ := k1
    have k2 : hI hx 31 ((nx + 29) % 30) = _ := k2
    have k3 : hI hx 32 ((nx + 29) % 30) = _ := k3
    obtain ⟨y1, y2, y3, y4⟩ := dec_st u1 u2 u3 (by omega) u5 u6 (by omega) u8
    simp only [f104, f88, f83, f205, q1, q3, i5, c0, d, e1, e4, x5, eq, if_true, if_false, Wp_bind, Wp_bnd, Wp_gd, Wp_some, Option.bind_some, hI_uI_eq, hI_uI_ne, pu_eq, pu_ne, ne_eq, Nat.reduceEqDiff, not_false_eq_true, k1, k2, k3, y1, y2, y3, y4]
    refine ⟨inb_mk (by omega) (by omega), inb_mk (by omega) (by omega), inb_mk (by omega) (by omega), ?_, ?_⟩
    · rw [ho 5 (by omega), g1]
    · have m1 : ∀ j, j ≠ 5 → j < 10 ∨ 17 ≤ j → hI q.2.2 1 j = hI hm 1 j := fun j h1 h2 => by rw [ho j h2, hI_uI_eq, pu_ne h1]
      have m5 : hI q.2.2 1 5 = nI c := by rw [ho 5 (by omega), g1]
      have mg : ∀ j, j < 7 → hI q.2.2 1 (10 + j) = hI hm 1 (290 + 7 * c + j) := fun j hj => by rw [hg j hj, hI_uI_eq, pu_ne (by omega)]
      have m0 : ∀ k, k ≠ 1 → hI q.2.2 k = hI hm k := fun k hk => by rw [hf k hk, hI_uI_ne hk]
      have tn5 : tn (hI q.2.2 1 5) = c := by rw [m5]; unfold tn; rw [ti_nI (by omega)]; omega
      have z : ∀ i, 290 + 7 * c + i = 290 + i + 7 * c := fun i => by omega
      refine Rl.now r (Nat.le_refl L) (fun k hk => ?_) rfl ?_ (fun k hk => m0 k (by omega)) (fun j hj => m1 j (by omega) (by omega)) ?_
      · rw [hI_uI_ne (by omega), hI_uI_ne (by omega), hI_uI_ne (by omega), hI_uI_ne (by omega), hI_uI_ne (by omega), hI_uI_ne (by omega), hI_uI_ne (by omega), hI_uI_ne (by omega), hI_uI_ne (by omega)]
      · rw [hI_uI_ne (by omega), hI_uI_ne (by omega), hI_uI_ne (by omega), hI_uI_ne (by omega), hI_uI_ne (by omega), hI_uI_ne (by omega), hI_uI_ne (by omega), hI_uI_ne (by omega), hI_uI_ne (by omega)]
      · refine Sc_ship r.sc (fun k h1 h2 => ?_) (fun j h1 h2 => m1 j (by omega) (by omega)) ?_ ?_ ?_ ?_ (fun j hj => ?_)
        · rw [hI_uI_ne (by omega), hI_uI_ne (by omega), hI_uI_ne (by omega), hI_uI_ne (by omega), hI_uI_ne (by omega), hI_uI_ne (by omega), hI_uI_ne (by omega), hI_uI_ne (by omega), hI_uI_ne (by omega)]
        · refine ⟨?_, ?_, ?_, ?_, ?_, ?_, ?_⟩
          · rw [mg 0 (by omega)]; simp [hI_uI_eq, pu_eq, pu_ne]
          · rw [mg 1 (by omega), z]; simp [hI_uI_eq, pu_eq, pu_ne]
          · rw [mg 2 (by omega), z]; simp [hI_uI_eq, pu_eq, pu_ne]
          · rw [mg 3 (by omega), z]; simp [hI_uI_eq, pu_eq, pu_ne]
          · rw [mg 5 (by omega), z]; simp [hI_uI_eq, pu_eq, pu_ne]
          · rw [mg 6 (by omega), z]; simp [hI_uI_eq, pu_eq, pu_ne]
          · rw [mg 4 (by omega), z, v2]; simp [hI_uI_eq, pu_eq, pu_ne]
        · refine ⟨?_, (nx + 29) % 30, by omega, ?_, fun i hi => ?_⟩
          · rw [m5]; simp [hI_uI_ne, hI_uI_eq, pu_eq, pu_ne]
          · simp [hI_uI_ne, hI_uI_eq, pu_eq, pu_ne]
          · rw [tn5] at hi ⊢
            have e9 : ((nx + 29) % 30 + 30 - c + i) % 30 = (nx + 30 - tn (hI hm 1 5) + i) % 30 := by omega
            rw [e9, m1 (290 + 7 * i) (by omega) (by omega), m1 (291 + 7 * i) (by omega) (by omega), m1 (292 + 7 * i) (by omega) (by omega), m1 (293 + 7 * i) (by omega) (by omega), m1 (295 + 7 * i) (by omega) (by omega), m1 (296 + 7 * i) (by omega) (by omega)]
            have g := q4 i (by omega)
            simp only [hI_uI_ne, ne_eq, Nat.reduceEqDiff, Nat.reduceAdd, not_false_eq_true] at g ⊢
            exact g
        · exact NSt_c v1 (fun j hj => mg j hj)
        · refine ⟨?_, ?_, fun i hi => ⟨?_, ?_, fun j hj => ?_⟩⟩
          · rw [m5, ti_nI (by omega)]; omega
          · rw [m5, ti_nI (by omega)]; omega
          · rw [tn5] at hi
            exact NSt_c (w2 i (by omega)).1 (fun j hj => m1 _ (by omega) (by omega))
          · rw [tn5] at hi
            rw [m1 _ (by omega) (by omega)]; exact (w2 i (by omega)).2.1
          · rw [tn5] at hi
            rw [m1 7 (by omega) (by omega)] at hj
            rw [m1 _ (by omega) (by omega), m1 _ (by omega) (by omega)]; exact (w2 i (by omega)).2.2 j hj
        · rw [mg 6 (by omega), z]; exact v3 j hj
end
