/-! ===== about, by ===== -/
section
variable {n L N : Nat} {T : Nat → Tc} {hx hm : Hp}
theorem hR_uR_row {h : Hp} {c c' j : Nat} {v : Option Nat} (e : c' ≠ c) : hR (uR h c j v) c' = hR h c' := by
  funext j'
  exact hR_uR_ne (Or.inl e)
theorem op_about (p1 : Int32) (r : Rl n L T hx hm) : Wp (f118 N p1 hx) fun x => Wp (f228 N p1 hm) fun y => x = y := by
  have n4 := r.n4
  have n12 := r.n12
  have t10 : (10 : Int32).toInt = 10 := rfl
  have t12 : (12 : Int32).toInt = 12 := rfl
  have t17 : (17 : Int32).toInt = 17 := rfl
  have t18 : (18 : Int32).toInt = 18 := rfl
  have t20 : (20 : Int32).toInt = 20 := rfl
  have t30 : (30 : Int32).toInt = 30 := rfl
  have t55 : (55 : Int32).toInt = 55 := rfl
  have t56 : (56 : Int32).toInt = 56 := rfl
  obtain ⟨s1, s2, s3, s4⟩ := r.sc.1
  have s1 : hI hx 41 3 = hI hm 1 0 := s1
  have s2 : hI hx 41 4 = hI hm 1 1 := s2
  have s3 : ∀ j, j < 36 → hI hx 42 j = hI hm 1 (30 + j) := s3
  have s4 : ∀ j, j < 8 → hI hx 43 j = hI hm 1 (20 + j) := s4
  have s5 : hI hx 27 6 = hI hm 1 2 := r.sc.2.2.1.1
  have s6 : hI hx 27 7 = hI hm 1 3 := r.sc.2.2.1.2
  have s7 : hI hx 33 1 = hI hm 1 4 := r.sc.2.2.2.1.1
  have s8 : hI hx 29 4 = hI hm 1 5 := r.sc.2.2.2.2.2.2.1.1
  have s9 : hI hx 35 1 = hI hm 1 6 := r.sc.2.2.2.2.1.1
  have s10 : hI hx 37 3 = hI hm 1 7 := r.sc.2.2.2.2.2.1.1
  have s11 : hI hx 22 3 = hI hm 0 5 := r.tp.1
  by_cases c1 : 10 ≤ p1.toInt ∧ p1.toInt ≤ 17
  · have d1 : ¬ p1 < 10 := by rw [ti_lt]; omega
    have d2 : ¬ (18 : Int32) ≤ p1 := by rw [ti_le]; omega
    have d3 : ¬ f139 p1 10 17 = 0 := fun z => i139.1 z c1
    have e1 : (p1 - 10).toInt = p1.toInt - 10 := by rw [ti_sub (by omega) (by omega), t10]
    have e2 : (20 + p1).toInt = 20 + p1.toInt := by rw [ti_add (by omega) (by omega), t20]
    have e3 : (20 + p1 - 10).toInt = 20 + p1.toInt - 10 := by rw [ti_sub (by omega) (by omega), e2, t10]
    have e4 : ix (20 + p1 - 10) = 20 + ix (p1 - 10) := by rw [ti_ix, ti_ix, e3, e1]; omega
    simp only [f118, f228, d1, d2, d3, e4, if_false, Wp_gd, Wp_some]
    exact ⟨inb_mk (by omega) (by omega), inb_mk (by omega) (by omega), s4 _ (by rw [ti_ix]; omega)⟩
  · have d3 : f139 p1 10 17 = 0 := i139.2 c1
    have k1 : f118 N p1 hx = f118_b15 N p1 hx := by
      unfold f118
      by_cases d1 : p1 < 10
      · rw [if_pos d1]
      · rw [if_neg d1, if_pos]
        rw [ti_lt] at d1; rw [ti_le]; omega
    rw [k1]
    have fin : Wp (f118_b42 N p1 hx) fun x => Wp (f228_b36 N p1 hm) fun y => x = y := by
      unfold f118_b42 f228_b36
      by_cases e0 : p1 = 0
      · simp only [e0, if_true, Wp_some, r.pX, r.pM]
      by_cases e1 : p1 = 1
      · subst e1; simp only [s1, if_true, if_false, Wp_some, Wp_gd, show ¬ (1 : Int32) = 0 by decide]; exact ⟨by decide, rfl⟩
      by_cases e2 : p1 = 2
      · subst e2; simp only [s2, if_true, if_false, Wp_some, Wp_gd, show ¬ (2 : Int32) = 0 by decide, show ¬ (2 : Int32) = 1 by decide]; exact ⟨by decide, rfl⟩
      by_cases e3 : p1 = 3
      · subst e3; simp only [s5, if_true, if_false, Wp_some, Wp_gd, show ¬ (3 : Int32) = 0 by decide, show ¬ (3 : Int32) = 1 by decide, show ¬ (3 : Int32) = 2 by decide]; exact ⟨by decide, rfl⟩
      by_cases e4 : p1 = 4
      · subst e4; simp only [s6, if_true, if_false, Wp_some, Wp_gd, show ¬ (4 : Int32) = 0 by decide, show ¬ (4 : Int32) = 1 by decide, show ¬ (4 : Int32) = 2 by decide, show ¬ (4 : Int32) = 3 by decide]; exact ⟨by decide, rfl⟩
      by_cases e5 : p1 = 5
      · subst e5; simp only [s7, if_true, if_false, Wp_some, Wp_gd, show ¬ (5 : Int32) = 0 by decide, show ¬ (5 : Int32) = 1 by decide, show ¬ (5 : Int32) = 2 by decide, show ¬ (5 : Int32) = 3 by decide, show ¬ (5 : Int32) = 4 by decide]; exact ⟨by decide, rfl⟩
      by_cases e6 : p1 = 6
      · subst e6; simp only [s8, if_true, if_false, Wp_some, Wp_gd, show ¬ (6 : Int32) = 0 by decide, show ¬ (6 : Int32) = 1 by decide, show ¬ (6 : Int32) = 2 by decide, show ¬ (6 : Int32) = 3 by decide, show ¬ (6 : Int32) = 4 by decide, show ¬ (6 : Int32) = 5 by decide]; exact ⟨by decide, rfl⟩
      by_cases e7 : p1 = 7
      · subst e7; simp only [s9, if_true, if_false, Wp_some, Wp_gd, show ¬ (7 : Int32) = 0 by decide, show ¬ (7 : Int32) = 1 by decide, show ¬ (7 : Int32) = 2 by decide, show ¬ (7 : Int32) = 3 by decide, show ¬ (7 : Int32) = 4 by decide, show ¬ (7 : Int32) = 5 by decide, show ¬ (7 : Int32) = 6 by decide]; exact ⟨by decide, rfl⟩
      by_cases e8 : p1 = 8
      · subst e8; simp only [s10, if_true, if_false, Wp_some, Wp_gd, show ¬ (8 : Int32) = 0 by decide, show ¬ (8 : Int32) = 1 by decide, show ¬ (8 : Int32) = 2 by decide, show ¬ (8 : Int32) = 3 by decide, show ¬ (8 : Int32) = 4 by decide, show ¬ (8 : Int32) = 5 by decide, show ¬ (8 : Int32) = 6 by decide, show ¬ (8 : Int32) = 7 by decide]; exact ⟨by decide, rfl⟩
      by_cases e9 : p1 = 9
      · subst e9; simp only [s11, if_true, if_false, Wp_some, show ¬ (9 : Int32) = 0 by decide, show ¬ (9 : Int32) = 1 by decide, show ¬ (9 : Int32) = 2 by decide, show ¬ (9 : Int32) = 3 by decide, show ¬ (9 : Int32) = 4 by decide, show ¬ (9 : Int32) = 5 by decide, show ¬ (9 : Int32) = 6 by decide, show ¬ (9 : Int32) = 7 by decide, show ¬ (9 : Int32) = 8 by decide]
      simp only [e0, e1, e2, e3, e4, e5, e6, e7, e8, e9, if_false, Wp_some]
    by_cases c2 : 20 ≤ p1.toInt ∧ p1.toInt ≤ 55
    · have d4 : ¬ f139 p1 20 55 = 0 := fun z => i139.1 z c2
      have d5 : ¬ p1 < 20 := by rw [ti_lt]; omega
      have d6 : ¬ (56 : Int32) ≤ p1 := by rw [ti_le]; omega
      have e1 : (p1 - 20).toInt = p1.toInt - 20 := by rw [ti_sub (by omega) (by omega), t20]
      have e2 : (30 + p1).toInt = 30 + p1.toInt := by rw [ti_add (by omega) (by omega), t30]
      have e3 : (30 + p1 - 20).toInt = 30 + p1.toInt - 20 := by rw [ti_sub (by omega) (by omega), e2, t20]
      have e4 : ix (30 + p1 - 20) = 30 + ix (p1 - 20) := by rw [ti_ix, ti_ix, e3, e1]; omega
      have z1 : (1 : Int32) = 0 ↔ False := by decide
      have k3 := i59 (N := N) (irem (p1 - 20) 12) r
      have k4 := i142 (N := N) (irem (p1 - 20) 12) r
      by_cases c3 : 0 ≤ (irem (p1 - 20) 12).toInt ∧ (irem (p1 - 20) 12).toInt < (n : Int)
      · rw [if_pos c3] at k3 k4
        simp only [f118_b15, f228, d3, d4, d5, d6, k3, k4, e4, z1, if_true, if_false, Option.bind_some, Wp_gd, Wp_some]
        exact ⟨inb_mk (by omega) (by omega), inb_mk (by omega) (by omega), s3 _ (by rw [ti_ix]; omega)⟩
      · rw [if_neg c3] at k3 k4
        simp only [f118_b15, f228, d3, d4, d5, d6, k3, k4, if_true, if_false, Option.bind_some, Wp_some]
        have q : ∀ k : Int32, k.toInt < 20 → ¬ p1 = k := fun k hk e => by rw [e] at c2; omega
        unfold f228_b36
        simp only [q 0 (by decide), q 1 (by decide), q 2 (by decide), q 3 (by decide), q 4 (by decide), q 5 (by decide), q 6 (by decide), q 7 (by decide), q 8 (by decide), q 9 (by decide), if_false, Wp_some]
    · have d4 : f139 p1 20 55 = 0 := i139.2 c2
      have k2 : f118_b15 N p1 hx = f118_b42 N p1 hx := by
        unfold f118_b15
        by_cases d1 : p1 < 20
        · rw [if_pos d1]
        · rw [if_neg d1, if_pos]
          rw [ti_lt] at d1; rw [ti_le]; omega
      have k3 : f228 N p1 hm = f228_b36 N p1 hm := by
        unfold f228
        rw [if_pos d3, if_pos d4]
      rw [k2, k3]
      exact fin
def RF (h : Hp) : Prop := ∀ c j q, srf 0 c j = some q → hR h c j = some q
theorem tx_ref {i : Nat} (wf : RF hx) (h : i < 4) : hR hx 1 i = some (2 + 4 * i) := by
  have : ∀ i, i < 4 → srf 0 1 i = some (2 + 4 * i) := by decide
  exact wf 1 i _ (this i h)
/-- followRuling -/
theorem follow {h : Hp} (wf : RF h) (h0 : -1 ≤ (hI h 27 7).toInt) (h1 : (hI h 27 7).toInt < 4) : f119 N h = some (uI (uI (uI (uR h 61 1 (some (if hI h 27 7 < 0 then 18 else 2 + 4 * tn (hI h 27 7)))) 64 10 0) 64 11 0) 64 12 0) := by
  have t0 : (0 : Int32).toInt = 0 := rfl
  have t4 : (4 : Int32).toInt = 4 := rfl
  unfold f119 f119_b11 f119_b12 f119_b26
  by_cases c : hI h 27 7 < 0
  · rw [if_pos c, if_pos rfl, if_pos c]; rfl
  · have c' := c
    rw [ti_lt] at c'
    have d : ¬ (4 : Int32) ≤ hI h 27 7 := by rw [ti_le]; omega
    have e := tx_ref (i := tn (hI h 27 7)) wf (by unfold tn; omega)
    rw [if_neg c, if_neg d, if_neg (by decide), if_neg c, gd_pos (inb_mk (by omega) (by omega)), ixt, e]
    rfl
theorem op_by (p1 : Int32) (r : Rl n L T hx hm) (wf : WF 0 hx) : Wp (f99 N p1 hx) fun x => Wp (f184 N p1 hm) fun y => x.1 = y.1 ∧ Rl n L T x.2 y.2 := by
  have tm : (-1 : Int32).toInt = -1 := rfl
  have t1 : (1 : Int32).toInt = 1 := rfl
  have q1 : hI hx 27 6 = hI hm 1 2 := r.sc.2.2.1.1
  obtain ⟨n1, n2, n3, n4⟩ := r.sc.2.2.2.2.2.2.2.2.2.1
  have i2 : ix (2 : Int32) = 2 := rfl
  have i3 : ix (3 : Int32) = 3 := rfl
  have e1 : (hI hm 1 2 - 1).toInt = (hI hm 1 2).toInt - 1 := by rw [ti_sub (by omega) (by omega), t1]
  by_cases c : -1 ≤ p1.toInt ∧ p1.toInt < (hI hm 1 2).toInt
  · have d1 : ¬ p1 < -1 := by rw [ti_lt]; omega
    have d2 : p1 < hI hm 1 2 := by rw [ti_lt]; omega
    have d3 : ¬ f139 p1 (-1) (hI hm 1 2 - 1) = 0 := fun z => i139.1 z ⟨by omega, by omega⟩
    have k : hI (uI hx 27 7 p1) 27 7 = p1 := by rw [hI_uI_eq, pu_eq]
    have d4 := follow (N := N) (h := uI hx 27 7 p1) wf.2 (by rw [k]; omega) (by rw [k]; omega)
    rw [k] at d4
    simp only [f99, f184, q1, i2, i3, d1, d2, d3, d4, if_true, if_false, Option.bind_some, Wp_bnd, Wp_bind, Wp_some, true_and]
    have xf : ∀ c, c ≠ 27 → c ≠ 64 → hI (uI (uI (uI (uR (uI hx 27 7 p1) 61 1 (some (if p1 < 0 then 18 else 2 + 4 * tn p1))) 64 10 0) 64 11 0) 64 12 0) c = hI hx c := fun c h1 h2 => by
      rw [hI_uI_ne h2, hI_uI_ne h2, hI_uI_ne h2, hI_uR, hI_uI_ne h1]
    have mf : ∀ c, c ≠ 0 → c ≠ 1 → hI (uI (uI hm 1 3 p1) 0 27 0) c = hI hm c := fun c h1 h2 => by rw [hI_uI_ne h1, hI_uI_ne h2]
    have m0 : ∀ j, j ≠ 27 → hI (uI (uI hm 1 3 p1) 0 27 0) 0 j = hI hm 0 j := fun j h => by rw [hI_uI_eq, pu_ne h, hI_uI_ne (by omega)]
    have m1 : ∀ j, j ≠ 3 → hI (uI (uI hm 1 3 p1) 0 27 0) 1 j = hI hm 1 j := fun j h => by rw [hI_uI_ne (by omega), hI_uI_eq, pu_ne h]
    have m3 : hI (uI (uI hm 1 3 p1) 0 27 0) 1 3 = p1 := by rw [hI_uI_ne (by omega), hI_uI_eq, pu_eq]
    refine ⟨r.1, ?_, ?_, ?_, ?_, ?_, ?_, ?_, ?_, ?_, ?_⟩
    · rw [xf _ (by omega) (by omega)]; exact r.pX
    · rw [m0 _ (by omega)]; exact r.pM
    · refine Sc_tx r.sc (fun k h1 h2 => xf _ (by omega) (by omega)) (fun j h1 h2 => m1 j (by omega)) ⟨?_, ?_⟩ ?_
      · show hI _ 27 6 = _
        rw [m1 2 (by omega), hI_uI_ne (by omega), hI_uI_ne (by omega), hI_uI_ne (by omega), hI_uR, hI_uI_eq, pu_ne (by omega)]; exact q1
      · show hI _ 27 7 = _
        rw [m3, hI_uI_ne (by omega), hI_uI_ne (by omega), hI_uI_ne (by omega), hI_uR, hI_uI_eq, pu_eq]
      · unfold NTx
        rw [m3, m1 2 (by omega)]; exact ⟨n1, n2, c.1, c.2⟩
    · exact Sc_c r.scI (fun k hk => xf _ (by omega) (by omega)) (fun j hj => by rw [mf 2 (by omega) (by omega)])
    · exact Tp_c r.tp (xf _ (by omega) (by omega)) (xf _ (by omega) (by omega)) (m0 5 (by omega)) (mf 4 (by omega) (by omega))
    · exact Fl_c r.fl (xf _ (by omega) (by omega)) (m0 6 (by omega)) (m0 7 (by omega))
    · exact Tx_c r.tx n2 (fun c h1 h2 => xf c (by omega) (by omega)) (m1 2 (by omega)) (mf 3 (by omega) (by omega)) (by rw [mf 2 (by omega) (by omega)])
    · unfold Lw
      rw [m3, hR_uI, hR_uI, hR_uI, hR_uR_eq]
    · exact Ch_all r.ch (by rw [hR_uI, hR_uI, hR_uI, hR_uR_row (by omega), hR_uI]) (by simp [hI_uI_eq, pu_ne, pu_eq]) (by simp [hI_uI_eq, pu_ne, pu_eq]) (by rw [hI_uI_eq, pu_eq])
    · exact Or.inl (by rw [hI_uI_eq, pu_eq])
  · have d3 : f139 p1 (-1) (hI hm 1 2 - 1) = 0 := i139.2 (by omega)
    by_cases d1 : p1 < -1
    · simp only [f99, f184, i2, d1, d3, if_true, Wp_some, true_and]
      exact r
    · have d2 : ¬ p1 < hI hm 1 2 := by rw [ti_lt] at d1 ⊢; omega
      simp only [f99, f184, q1, i2, d1, d2, d3, if_true, if_false, Wp_some, true_and]
      exact r
end
