/-! ===== the simple calls ===== -/
section
variable {n L N : Nat} {T : Nat → Tc} {hx hm : Hp}
theorem Rl.sc (r : Rl n L T hx hm) : Sc n L (fun k => hI hx (27 + k)) (hI hm 1) := r.2.2.2.1
theorem Rl.scI (r : Rl n L T hx hm) : Sc n L (fun k => hI hx (44 + k)) (hI hm 2) := r.2.2.2.2.1
theorem Rl.n4 (r : Rl n L T hx hm) : 4 ≤ n := r.1.1
theorem Rl.n12 (r : Rl n L T hx hm) : n ≤ 12 := r.1.2
theorem Rl.pX (r : Rl n L T hx hm) : hI hx 41 0 = nI n := r.2.1
theorem Rl.pM (r : Rl n L T hx hm) : hI hm 0 2 = nI n := r.2.2.1
theorem Rl.pXt (r : Rl n L T hx hm) : (hI hx 41 0).toInt = (n : Int) := by rw [r.pX, ti_nI (by have := r.n12; omega)]
theorem Rl.pMt (r : Rl n L T hx hm) : (hI hm 0 2).toInt = (n : Int) := by rw [r.pM, ti_nI (by have := r.n12; omega)]
theorem Rl.tp (r : Rl n L T hx hm) : Tp hx hm := r.2.2.2.2.2.1
theorem Rl.fl (r : Rl n L T hx hm) : Fl hx hm := r.2.2.2.2.2.2.1
theorem Rl.tx (r : Rl n L T hx hm) : Tx T hx hm := r.2.2.2.2.2.2.2.1
theorem Rl.lw (r : Rl n L T hx hm) : Lw hx hm := r.2.2.2.2.2.2.2.2.1
theorem Rl.ch (r : Rl n L T hx hm) : Ch n (Tr T (hI hm 1 3)) hx (hI hm 1) := r.2.2.2.2.2.2.2.2.2.1
theorem Rl.tb (r : Rl n L T hx hm) : Tb n (Tr T (hI hm 1 3)) hm := r.2.2.2.2.2.2.2.2.2.2
theorem Rl.mono {L' : Nat} (r : Rl n L T hx hm) (h : L ≤ L') : Rl n L' T hx hm := ⟨r.1, r.pX, r.pM, Sc_L r.sc h, Sc_L r.scI h, r.tp, r.fl, r.tx, r.lw, r.ch, r.tb⟩
/-- only the scene that is now changes, and neither its sea nor its text -/
theorem Rl.now {L' : Nat} {hx' hm' : Hp} (r : Rl n L T hx hm) (hL : L ≤ L') (ex : ∀ c, (c < 27 ∨ (44 ≤ c ∧ c ≠ 62 ∧ c ≠ 63)) → hI hx' c = hI hx c) (er : hR hx' = hR hx) (e41 : hI hx' 41 0 = hI hx 41 0) (em : ∀ c, (c = 0 ∨ c = 2 ∨ c = 3 ∨ c = 4 ∨ c = 9) → hI hm' c = hI hm c) (ea : ∀ j, (j < 4 ∨ (20 ≤ j ∧ j < 28) ∨ (30 ≤ j ∧ j < 66)) → hI hm' 1 j = hI hm 1 j) (sc : Sc n L' (fun k => hI hx' (27 + k)) (hI hm' 1)) : Rl n L' T hx' hm' := by
  refine ⟨r.1, e41.trans r.pX, ?_, sc, ?_, ?_, ?_, ?_, ?_, ?_, ?_⟩
  · rw [em 0 (by omega)]; exact r.pM
  · exact Sc_L (Sc_c r.scI (fun k hk => ex _ (by omega)) (fun j hj => by rw [em 2 (by omega)])) hL
  · exact Tp_c r.tp (ex _ (by omega)) (ex _ (by omega)) (by rw [em 0 (by omega)]) (em 4 (by omega))
  · exact Fl_c r.fl (ex _ (by omega)) (by rw [em 0 (by omega)]) (by rw [em 0 (by omega)])
  · exact Tx_c r.tx r.sc.2.2.2.2.2.2.2.2.2.1.2.1 (fun c h1 h2 => ex c (by omega)) (ea 2 (by omega)) (em 3 (by omega)) (by rw [em 2 (by omega)])
  · exact Lw_c r.lw (by rw [er]) (ea 3 (by omega))
  · rw [ea 3 (by omega)]
    exact Ch_c r.ch (ex _ (by omega)) (ex _ (by omega)) (ex _ (by omega)) (ex _ (by omega)) (ex _ (by omega)) (by rw [er]) (fun j h => ea j (by omega))
  · rw [ea 3 (by omega)]
    exact Tb_c r.tb (by rw [em 0 (by omega)]) (em 9 (by omega)) (fun j h => ea j (by omega))
theorem i139 {x lo hi : Int32} : f139 x lo hi = 0 ↔ ¬ (lo.toInt ≤ x.toInt ∧ x.toInt ≤ hi.toInt) := by
  unfold f139 f139_b8
  by_cases h1 : x < lo
  · rw [if_pos h1]; rw [ti_lt] at h1; exact ⟨fun _ => by omega, fun _ => rfl⟩
  · rw [if_neg h1]
    by_cases h2 : hi < x
    · rw [if_pos h2]; rw [ti_lt] at h2; exact ⟨fun _ => by omega, fun _ => rfl⟩
    · rw [if_neg h2]; rw [ti_lt] at h1 h2; exact ⟨fun e => absurd e (by decide), fun z => absurd ⟨by omega, by omega⟩ z⟩
theorem i126 {x : Int32} : f126 x = 0 ↔ ¬ (0 ≤ x.toInt ∧ x.toInt ≤ 11) := by
  unfold f126 f126_b7
  by_cases h1 : x < 0
  · rw [if_pos h1]; rw [ti_lt] at h1; exact ⟨fun _ => by have : (0 : Int32).toInt = 0 := rfl; omega, fun _ => rfl⟩
  · rw [if_neg h1]
    by_cases h2 : (12 : Int32) ≤ x
    · rw [if_pos h2]; rw [ti_le] at h2; exact ⟨fun _ => by have : (12 : Int32).toInt = 12 := rfl; omega, fun _ => rfl⟩
    · rw [if_neg h2]; rw [ti_lt] at h1; rw [ti_le] at h2
      have e0 : (0 : Int32).toInt = 0 := rfl
      have e12 : (12 : Int32).toInt = 12 := rfl
      exact ⟨fun e => absurd e (by decide), fun z => absurd ⟨by omega, by omega⟩ z⟩
theorem inb_mk {i : Int32} {m : Nat} (h0 : 0 ≤ i.toInt) (h1 : i.toInt < (m : Int)) : inb i m := ⟨h0, h1⟩
theorem ixa {k x : Int32} {m : Nat} (hk : k.toInt = (m : Int)) (h0 : 0 ≤ x.toInt) (h1 : x.toInt + m < 2147483648) : (k + x).toInt = m + x.toInt ∧ ix (k + x) = m + tn x := by
  have e : (k + x).toInt = m + x.toInt := by rw [ti_add (by omega) (by omega), hk]
  refine ⟨e, ?_⟩
  rw [ti_ix, e]; unfold tn; omega
theorem ixt (x : Int32) : ix x = tn x := rfl
theorem ti_inc {x : Int32} (h1 : x.toInt < 2147483647) : (x + 1).toInt = x.toInt + 1 := by
  have := x.le_toInt
  have e : (1 : Int32).toInt = 1 := rfl
  rw [ti_add (by omega) (by omega), e]
theorem op_course (p1 : Int32) (r : Rl n L T hx hm) : Wp (f102 N p1 hx) fun x => Wp (f202 N p1 hm) fun y => x.1 = y.1 ∧ Rl n L T x.2 y.2 := by
  obtain ⟨qe, qa⟩ := r.sc.2.2.2.1
  obtain ⟨n0, n1, n2⟩ := r.sc.2.2.2.2.2.2.2.2.2.2.1
  have qe : hI hx 33 1 = hI hm 1 4 := qe
  have qa : ∀ j, j < 24 → hI hx 34 j = hI hm 1 (66 + j) := qa
  have i4 : ix (4 : Int32) = 4 := rfl
  by_cases c1 : p1 = -1
  · simp only [f102, f202, c1, i4, if_true, Wp_bnd, Wp_some, true_and]
    refine Rl.now r (Nat.le_refl L) (fun c h => hI_uI_ne (by omega)) rfl (by rw [hI_uI_ne (by omega)]) (fun c h => hI_uI_ne (by omega)) (fun j h => by rw [hI_uI_eq, pu_ne (by omega)]) ?_
    refine Sc_course r.sc (fun k h1 h2 h3 => hI_uI_ne (by omega)) (fun j h1 h2 => by rw [hI_uI_eq, pu_ne (by omega)]) ⟨?_, fun j hj => ?_⟩ ⟨?_, ?_, fun j hj => ?_⟩
    · show hI (uI hx 33 1 0) 33 1 = _
      rw [hI_uI_eq, hI_uI_eq, pu_eq, pu_eq]
    · show hI (uI hx 33 1 0) 34 j = _
      rw [hI_uI_eq, hI_uI_ne (by omega), pu_ne (by omega)]
      exact qa j hj
    · rw [hI_uI_eq, pu_eq]; decide
    · rw [hI_uI_eq, pu_eq]; decide
    · rw [hI_uI_eq, pu_ne (by omega)]; exact n2 j hj
  · by_cases c2 : 0 ≤ p1.toInt ∧ p1.toInt ≤ 11
    · have d1 : ¬ f126 p1 = 0 := fun z => i126.1 z c2
      have d2 : ¬ f139 p1 0 11 = 0 := fun z => i139.1 z c2
      by_cases c3 : hI hm 1 4 = 24
      · have d3 : ¬ hI hm 1 4 < 24 := by rw [c3]; decide
        have d4 : (hI hm 1 4 = 24) = True := eq_true c3
        simp only [f102, f202, f53, c1, d1, d2, d3, d4, qe, i4, if_true, if_false, Wp_bnd, Wp_bind, Wp_some, true_and]
        exact r
      · have d5 : (hI hm 1 4).toInt < 24 := by rw [ti_eq] at c3; have : (24 : Int32).toInt = 24 := rfl; omega
        have d3 : hI hm 1 4 < 24 := by rw [ti_lt]; exact d5
        obtain ⟨e1, e2⟩ := ixa (k := 66) (m := 66) rfl n0 (by omega)
        have e3 : tn (hI hm 1 4) < 24 := by unfold tn; omega
        have e4 : (hI hm 1 4 + 1).toInt = (hI hm 1 4).toInt + 1 := ti_inc (by omega)
        simp only [f102, f202, f53, c1, d1, d2, d3, c3, qe, i4, e2, ixt, if_true, if_false, Wp_bnd, Wp_bind, Wp_some, Wp_gd, hI_uI_ne, hI_uI_eq, pu_eq, ne_eq, not_false_eq_true, Nat.reduceEqDiff]
        rw [pu_ne (show 4 ≠ 66 + tn (hI hm 1 4) by omega)]
        refine ⟨inb_mk n0 d5, inb_mk (by omega) (by omega), rfl, ?_⟩
        refine Rl.now r (Nat.le_refl L) (fun c h => by rw [hI_uI_ne (by omega), hI_uI_ne (by omega)]) rfl (by rw [hI_uI_ne (by omega), hI_uI_ne (by omega)]) (fun c h => by rw [hI_uI_ne (by omega), hI_uI_ne (by omega)]) (fun j h => by rw [hI_uI_eq, pu_ne (by omega), hI_uI_eq, pu_ne (by omega)]) ?_
        refine Sc_course r.sc (fun k h1 h2 h3 => by rw [hI_uI_ne (by omega), hI_uI_ne (by omega)]) (fun j h1 h2 => by rw [hI_uI_eq, pu_ne (by omega), hI_uI_eq, pu_ne (by omega)]) ⟨?_, fun j hj => ?_⟩ ⟨?_, ?_, fun j hj => ?_⟩
        · show hI (uI (uI hx 34 _ _) 33 1 _) 33 1 = _
          rw [hI_uI_eq, hI_uI_eq, pu_eq, pu_eq]
        · show hI (uI (uI hx 34 _ _) 33 1 _) 34 j = _
          rw [hI_uI_eq, hI_uI_ne (by omega), hI_uI_eq, hI_uI_eq, pu_ne (by omega : 66 + j ≠ 4)]
          by_cases hj2 : j = tn (hI hm 1 4)
          · rw [hj2, pu_eq, pu_eq]
          · rw [pu_ne hj2, pu_ne (by omega)]; exact qa j hj
        · rw [hI_uI_eq, pu_eq]; omega
        · rw [hI_uI_eq, pu_eq]; omega
        · rw [hI_uI_eq, pu_ne (by omega), hI_uI_eq]
          by_cases hj2 : j = tn (hI hm 1 4)
          · rw [hj2, pu_eq]; exact c2
          · rw [pu_ne (by omega)]; exact n2 j hj
    · have d1 : f126 p1 = 0 := i126.2 c2
      have d2 : f139 p1 0 11 = 0 := i139.2 c2
      simp only [f102, f202, c1, d1, d2, if_true, if_false, Wp_some, true_and]
      exact r
theorem op_goods (p1 : Int32) (r : Rl n L T hx hm) : Wp (f112 N p1 hx) fun x => Wp (f221 N p1 hm) fun y => x.1 = y.1 ∧ Rl n L T x.2 y.2 := by
  obtain ⟨qe, qa⟩ := r.sc.2.2.2.2.1
  obtain ⟨n0, n1, n2⟩ := r.sc.2.2.2.2.2.2.2.2.2.2.2.1
  have qe : hI hx 35 1 = hI hm 1 6 := qe
  have qa : ∀ j, j < 12 → hI hx 36 j = hI hm 1 (90 + j) := qa
  have i4 : ix (6 : Int32) = 6 := rfl
  by_cases c1 : p1 = -1
  · simp only [f112, f221, c1, i4, if_true, Wp_bnd, Wp_some, true_and]
    refine Rl.now r (Nat.le_refl L) (fun c h => hI_uI_ne (by omega)) rfl (by rw [hI_uI_ne (by omega)]) (fun c h => hI_uI_ne (by omega)) (fun j h => by rw [hI_uI_eq, pu_ne (by omega)]) ?_
    refine Sc_goods r.sc (fun k h1 h2 h3 => hI_uI_ne (by omega)) (fun j h1 h2 => by rw [hI_uI_eq, pu_ne (by omega)]) ⟨?_, fun j hj => ?_⟩ ⟨?_, ?_, fun j hj => ?_⟩
    · show hI (uI hx 35 1 0) 35 1 = _
      rw [hI_uI_eq, hI_uI_eq, pu_eq, pu_eq]
    · show hI (uI hx 35 1 0) 36 j = _
      rw [hI_uI_eq, hI_uI_ne (by omega), pu_ne (by omega)]
      exact qa j hj
    · rw [hI_uI_eq, pu_eq]; decide
    · rw [hI_uI_eq, pu_eq]; decide
    · rw [hI_uI_eq, pu_ne (by omega)]; exact n2 j hj
  · by_cases c2 : 1 ≤ p1.toInt ∧ p1.toInt ≤ 99
    · have d1 : ¬ p1 < 1 := by rw [ti_lt]; have : (1 : Int32).toInt = 1 := rfl; omega
      have d6 : ¬ (99 : Int32) < p1 := by rw [ti_lt]; have : (99 : Int32).toInt = 99 := rfl; omega
      have d2 : ¬ f139 p1 1 99 = 0 := fun z => i139.1 z c2
      by_cases c3 : hI hm 1 6 = 12
      · have d3 : ¬ hI hm 1 6 < 12 := by rw [c3]; decide
        have d4 : (hI hm 1 6 = 12) = True := eq_true c3
        simp only [f112, f221, f53_35, c1, d1, d6, d2, d3, d4, qe, i4, if_true, if_false, Wp_bnd, Wp_bind, Wp_some, true_and]
        exact r
      · have d5 : (hI hm 1 6).toInt < 12 := by rw [ti_eq] at c3; have : (12 : Int32).toInt = 12 := rfl; omega
        have d3 : hI hm 1 6 < 12 := by rw [ti_lt]; exact d5
        obtain ⟨e1, e2⟩ := ixa (k := 90) (m := 90) rfl n0 (by omega)
        have e3 : tn (hI hm 1 6) < 12 := by unfold tn; omega
        have e4 : (hI hm 1 6 + 1).toInt = (hI hm 1 6).toInt + 1 := ti_inc (by omega)
        simp only [f112, f221, f53_35, c1, d1, d6, d2, d3, c3, qe, i4, e2, ixt, if_true, if_false, Wp_bnd, Wp_bind, Wp_some, Wp_gd, hI_uI_ne, hI_uI_eq, pu_eq, ne_eq, not_false_eq_true, Nat.reduceEqDiff]
        rw [pu_ne (show 6 ≠ 90 + tn (hI hm 1 6) by omega)]
        refine ⟨inb_mk n0 d5, inb_mk (by omega) (by omega), rfl, ?_⟩
        refine Rl.now r (Nat.le_refl L) (fun c h => by rw [hI_uI_ne (by omega), hI_uI_ne (by omega)]) rfl (by rw [hI_uI_ne (by omega), hI_uI_ne (by omega)]) (fun c h => by rw [hI_uI_ne (by omega), hI_uI_ne (by omega)]) (fun j h => by rw [hI_uI_eq, pu_ne (by omega), hI_uI_eq, pu_ne (by omega)]) ?_
        refine Sc_goods r.sc (fun k h1 h2 h3 => by rw [hI_uI_ne (by omega), hI_uI_ne (by omega)]) (fun j h1 h2 => by rw [hI_uI_eq, pu_ne (by omega), hI_uI_eq, pu_ne (by omega)]) ⟨?_, fun j hj => ?_⟩ ⟨?_, ?_, fun j hj => ?_⟩
        · show hI (uI (uI hx 36 _ _) 35 1 _) 35 1 = _
          rw [hI_uI_eq, hI_uI_eq, pu_eq, pu_eq]
        · show hI (uI (uI hx 36 _ _) 35 1 _) 36 j = _
          rw [hI_uI_eq, hI_uI_ne (by omega), hI_uI_eq, hI_uI_eq, pu_ne (by omega : 90 + j ≠ 6)]
          by_cases hj2 : j = tn (hI hm 1 6)
          · rw [hj2, pu_eq, pu_eq]
          · rw [pu_ne hj2, pu_ne (by omega)]; exact qa j hj
        · rw [hI_uI_eq, pu_eq]; omega
        · rw [hI_uI_eq, pu_eq]; omega
        · rw [hI_uI_eq, pu_ne (by omega), hI_uI_eq]
          by_cases hj2 : j = tn (hI hm 1 6)
          · rw [hj2, pu_eq]; omega
          · rw [pu_ne (by omega)]; exact n2 j hj
    · have d2 : f139 p1 1 99 = 0 := i139.2 c2
      by_cases d1 : p1 < 1
      · simp only [f112, f112_b22, f221, c1, d1, d2, if_true, if_false, Wp_some, true_and]
        exact r
      · have d6 : (99 : Int32) < p1 := by rw [ti_lt] at d1 ⊢; have e1 : (99 : Int32).toInt = 99 := rfl; have e2 : (1 : Int32).toInt = 1 := rfl; omega
        simp only [f112, f112_b22, f221, c1, d1, d2, d6, if_true, if_false, Wp_some, true_and]
        exact r
end
