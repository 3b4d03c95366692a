/-! ===== the sea, about, by ===== -/
section
variable {n L N : Nat} {T : Nat → Tc} {hx hm : Hp}
theorem i59 (p : Int32) (r : Rl n L T hx hm) : f59 N p hx = some (if 0 ≤ p.toInt ∧ p.toInt < (n : Int) then 1 else 0) := by
  have e := r.pXt
  have e0 : (0 : Int32).toInt = 0 := rfl
  unfold f59 f59_b8
  by_cases c1 : p < 0
  · rw [if_pos c1]; rw [ti_lt] at c1
    rw [if_neg (show ¬ (0 ≤ p.toInt ∧ p.toInt < (n : Int)) by omega)]
  · rw [if_neg c1]; rw [ti_lt] at c1
    by_cases c2 : hI hx 41 0 ≤ p
    · rw [if_pos c2]; rw [ti_le] at c2
      rw [if_neg (show ¬ (0 ≤ p.toInt ∧ p.toInt < (n : Int)) by omega)]
    · rw [if_neg c2]; rw [ti_le] at c2
      rw [if_pos (show (0 ≤ p.toInt ∧ p.toInt < (n : Int)) by omega)]
theorem i142 (p : Int32) (r : Rl n L T hx hm) : f142 N p hm = some (if 0 ≤ p.toInt ∧ p.toInt < (n : Int) then 1 else 0) := by
  have e := r.pMt
  have n4 := r.n4
  have e0 : (0 : Int32).toInt = 0 := rfl
  have e1 : (1 : Int32).toInt = 1 := rfl
  have e2 : (hI hm 0 2 - 1).toInt = (n : Int) - 1 := by
    rw [ti_sub (by have := r.n12; omega) (by have := r.n12; omega), e, e1]
  unfold f142 f139 f139_b8
  by_cases c1 : p < 0
  · rw [if_pos c1]; rw [ti_lt] at c1
    rw [if_neg (show ¬ (0 ≤ p.toInt ∧ p.toInt < (n : Int)) by omega)]
    rfl
  · rw [if_neg c1]; rw [ti_lt] at c1
    by_cases c2 : hI hm 0 2 - 1 < p
    · rw [if_pos c2]; rw [ti_lt] at c2
      rw [if_neg (show ¬ (0 ≤ p.toInt ∧ p.toInt < (n : Int)) by omega)]
      rfl
    · rw [if_neg c2]; rw [ti_lt] at c2
      rw [if_pos (show (0 ≤ p.toInt ∧ p.toInt < (n : Int)) by omega)]
      rfl
theorem i125 {x : Int32} : f125 x = 0 ↔ ¬ (0 ≤ x.toInt ∧ x.toInt ≤ 2) := by
  have e0 : (0 : Int32).toInt = 0 := rfl
  have e3 : (3 : Int32).toInt = 3 := rfl
  unfold f125 f125_b7
  by_cases h1 : x < 0
  · rw [if_pos h1]; rw [ti_lt] at h1; exact ⟨fun _ => by omega, fun _ => rfl⟩
  · rw [if_neg h1]
    by_cases h2 : (3 : Int32) ≤ x
    · rw [if_pos h2]; rw [ti_le] at h2; exact ⟨fun _ => by omega, fun _ => rfl⟩
    · rw [if_neg h2]; rw [ti_lt] at h1; rw [ti_le] at h2
      exact ⟨fun e => absurd e (by decide), fun z => absurd ⟨by omega, by omega⟩ z⟩
theorem i127 {x : Int32} : f127 x = 0 ↔ ¬ (0 ≤ x.toInt ∧ x.toInt ≤ 3) := by
  have e0 : (0 : Int32).toInt = 0 := rfl
  have e3 : (4 : Int32).toInt = 4 := rfl
  unfold f127 f127_b7
  by_cases h1 : x < 0
  · rw [if_pos h1]; rw [ti_lt] at h1; exact ⟨fun _ => by omega, fun _ => rfl⟩
  · rw [if_neg h1]
    by_cases h2 : (4 : Int32) ≤ x
    · rw [if_pos h2]; rw [ti_le] at h2; exact ⟨fun _ => by omega, fun _ => rfl⟩
    · rw [if_neg h2]; rw [ti_lt] at h1; rw [ti_le] at h2
      exact ⟨fun e => absurd e (by decide), fun z => absurd ⟨by omega, by omega⟩ z⟩
/-- only the sea that is now changes -/
theorem Rl.seaR {hx' hm' : Hp} (r : Rl n L T hx hm) (ex : ∀ c, (c < 41 ∨ (44 ≤ c ∧ c ≠ 64)) → hI hx' c = hI hx c) (er : hR hx' = hR hx) (e41 : hI hx' 41 0 = hI hx 41 0) (em : ∀ c, (c = 2 ∨ c = 3 ∨ c = 4 ∨ c = 9) → hI hm' c = hI hm c) (e0 : ∀ j, j ≠ 27 → hI hm' 0 j = hI hm 0 j) (ea : ∀ j, j < 500 → ¬ (j < 2 ∨ (20 ≤ j ∧ j < 28) ∨ (30 ≤ j ∧ j < 66)) → hI hm' 1 j = hI hm 1 j) (hq : QSea (fun k => hI hx' (27 + k)) (hI hm' 1)) (hn : NSea (hI hm' 1)) (ch : Ch n (Tr T (hI hm 1 3)) hx' (hI hm' 1)) (tb : Tb n (Tr T (hI hm 1 3)) hm') : Rl n L T hx' hm' := by
  refine ⟨r.1, e41.trans r.pX, ?_, ?_, ?_, ?_, ?_, ?_, ?_, ?_, ?_⟩
  · rw [e0 2 (by omega)]; exact r.pM
  · exact Sc_sea r.sc (fun k hk => ex _ (by omega)) ea hq hn
  · exact Sc_c r.scI (fun k hk => ex _ (by omega)) (fun j hj => by rw [em 2 (by omega)])
  · exact Tp_c r.tp (ex _ (by omega)) (ex _ (by omega)) (e0 5 (by omega)) (em 4 (by omega))
  · exact Fl_c r.fl (ex _ (by omega)) (e0 6 (by omega)) (e0 7 (by omega))
  · exact Tx_c r.tx r.sc.2.2.2.2.2.2.2.2.2.1.2.1 (fun c h1 h2 => ex c (by omega)) (ea 2 (by omega) (by omega)) (em 3 (by omega)) (by rw [em 2 (by omega)])
  · exact Lw_c r.lw (by rw [er]) (ea 3 (by omega) (by omega))
  · rw [ea 3 (by omega) (by omega)]; exact ch
  · rw [ea 3 (by omega) (by omega)]; exact tb
theorem Ch_fg {T : Tc} {hx hx' : Hp} {a a' : Nat → Int32} (h : Ch n T hx a) (e5 : hI hx' 65 = hI hx 65) (e6 : hI hx' 66 = hI hx 66) (er : hR hx' 64 = hR hx 64) (b0 : hI hx' 64 10 = hI hx 64 10) (b1 : hI hx' 64 11 = 0) (b2 : hI hx' 64 12 = 0) (a1 : a' 1 = a 1) (aw : ∀ j, j < 8 → a' (20 + j) = a (20 + j)) : Ch n T hx' a' := by
  obtain ⟨h1, h2, h3, h4, h5⟩ := h
  unfold Ch
  rw [e5, e6, er, b0, b1, b2, a1]
  exact ⟨fun q hq hb => by rw [aw q hq]; exact h1 q hq hb, fun q hq hb => absurd hb (bt_0 (by omega)), Or.inl rfl, h4, h5⟩
theorem Ch_all {T T' : Tc} {hx hx' : Hp} {a a' : Nat → Int32} (h : Ch n T hx a) (er : hR hx' 64 = hR hx 64) (b0 : hI hx' 64 10 = 0) (b1 : hI hx' 64 11 = 0) (b2 : hI hx' 64 12 = 0) : Ch n T' hx' a' := by
  obtain ⟨h1, h2, h3, h4, h5⟩ := h
  unfold Ch
  rw [er, b0, b1, b2]
  exact ⟨fun q hq hb => absurd hb (bt_0 (by omega)), fun q hq hb => absurd hb (bt_0 (by omega)), Or.inl rfl, h4, h5⟩
theorem op_depth (p1 p2 p3 : Int32) (r : Rl n L T hx hm) : Wp (f91 N p1 p2 p3 hx) fun x => Wp (f149 N p1 p2 p3 hm) fun y => x.1 = y.1 ∧ Rl n L T x.2 y.2 := by
  have n4 := r.n4
  have n12 := r.n12
  have t0 : (0 : Int32).toInt = 0 := rfl
  have t9 : (9 : Int32).toInt = 9 := rfl
  have t12 : (12 : Int32).toInt = 12 := rfl
  have t30 : (30 : Int32).toInt = 30 := rfl
  have z1 : (1 : Int32) = 0 ↔ False := by decide
  by_cases c1 : 0 ≤ p1.toInt ∧ p1.toInt ≤ 2
  · have d1 : ¬ f125 p1 = 0 := fun z => i125.1 z c1
    have d2 : ¬ f139 p1 0 2 = 0 := fun z => i139.1 z c1
    by_cases c2 : 0 ≤ p2.toInt ∧ p2.toInt < (n : Int)
    · have d3 := i59 (N := N) p2 r
      have d4 := i142 (N := N) p2 r
      rw [if_pos c2] at d3 d4
      by_cases c3 : 0 ≤ p3.toInt ∧ p3.toInt ≤ 9
      · have d5 : ¬ f139 p3 0 9 = 0 := fun z => i139.1 z c3
        have d6 : ¬ p3 < 0 := by rw [ti_lt]; omega
        have d7 : p3 ≤ 9 := by rw [ti_le]; omega
        have m1 : (p1 * 12).toInt = p1.toInt * 12 := by rw [ti_mul (by rw [t12]; omega) (by rw [t12]; omega), t12]
        have m2 : (f133 p1 p2).toInt = p1.toInt * 12 + p2.toInt := by
          unfold f133
          rw [ti_add (by omega) (by omega), m1]
        have m3 : (12 * p1).toInt = 12 * p1.toInt := by rw [ti_mul (by rw [t12]; omega) (by rw [t12]; omega), t12]
        have m4 : (30 + 12 * p1).toInt = 30 + 12 * p1.toInt := by rw [ti_add (by omega) (by omega), m3, t30]
        have m5 : (30 + 12 * p1 + p2).toInt = 30 + 12 * p1.toInt + p2.toInt := by rw [ti_add (by omega) (by omega), m4]
        have x1 : ix (30 + 12 * p1 + p2) = 30 + ix (f133 p1 p2) := by rw [ti_ix, ti_ix, m5, m2]; omega
        have x2 : ix (f133 p1 p2) < 36 := by rw [ti_ix, m2]; omega
        simp only [f91, f149, f1, d1, d2, d3, d4, d5, d6, d7, z1, x1, if_true, if_false, Option.bind_some, Wp_bnd, Wp_bind, Wp_some, Wp_gd, true_and]
        refine ⟨inb_mk (by omega) (by omega), inb_mk (by omega) (by omega), ?_⟩
        generalize ix (f133 p1 p2) = j at x2
        refine Rl.seaR r (fun c h => by rw [hI_uI_ne (by omega), hI_uI_ne (by omega), hI_uI_ne (by omega)]) rfl (by rw [hI_uI_ne (by omega), hI_uI_ne (by omega), hI_uI_ne (by omega)]) (fun c h => by rw [hI_uI_ne (by omega), hI_uI_ne (by omega)]) (fun j h => by rw [hI_uI_eq, pu_ne h, hI_uI_ne (by omega)]) (fun j h1 h2 => by rw [hI_uI_ne (by omega), hI_uI_eq, pu_ne (by omega)]) ?_ ?_ ?_ ?_
        · obtain ⟨h1, h2, h3, h4⟩ := r.sc.1
          refine ⟨?_, ?_, fun i hi => ?_, fun i hi => ?_⟩
          · show hI (uI (uI (uI hx _ _ _) _ _ _) _ _ _) 41 3 = _
            rw [hI_uI_ne (by omega), hI_uI_ne (by omega), hI_uI_ne (by omega), hI_uI_ne (by omega), hI_uI_eq, pu_ne (by omega)]; exact h1
          · show hI (uI (uI (uI hx _ _ _) _ _ _) _ _ _) 41 4 = _
            rw [hI_uI_ne (by omega), hI_uI_ne (by omega), hI_uI_ne (by omega), hI_uI_ne (by omega), hI_uI_eq, pu_ne (by omega)]; exact h2
          · show hI (uI (uI (uI hx _ _ _) _ _ _) _ _ _) 42 i = _
            rw [hI_uI_ne (by omega), hI_uI_ne (by omega), hI_uI_eq, hI_uI_ne (by omega), hI_uI_eq]
            by_cases e : i = j
            · rw [e, pu_eq, pu_eq]
            · rw [pu_ne e, pu_ne (by omega)]; exact h3 i hi
          · show hI (uI (uI (uI hx _ _ _) _ _ _) _ _ _) 43 i = _
            rw [hI_uI_ne (by omega), hI_uI_ne (by omega), hI_uI_ne (by omega), hI_uI_ne (by omega), hI_uI_eq, pu_ne (by omega)]; exact h4 i hi
        · exact NSea_c r.sc.2.2.2.2.2.2.2.1 (fun i hi => by rw [hI_uI_ne (by omega), hI_uI_eq, pu_ne (by omega)])
        · exact Ch_fg r.ch (by simp only [hI_uI_ne, ne_eq, Nat.reduceEqDiff, not_false_eq_true]) (by simp only [hI_uI_ne, ne_eq, Nat.reduceEqDiff, not_false_eq_true]) rfl (by simp [hI_uI_ne, hI_uI_eq, pu_ne]) (by simp [hI_uI_eq, pu_ne, pu_eq]) (by rw [hI_uI_eq, pu_eq]) (by rw [hI_uI_ne (by omega), hI_uI_eq, pu_ne (by omega)]) (fun i hi => by rw [hI_uI_ne (by omega), hI_uI_eq, pu_ne (by omega)])
        · exact Or.inl (by rw [hI_uI_eq, pu_eq])
      · have d5 : f139 p3 0 9 = 0 := i139.2 c3
        by_cases d6 : p3 < 0
        · simp only [f91, f149, d1, d2, d3, d4, d5, d6, z1, if_true, if_false, Option.bind_some, Wp_some, true_and]
          exact r
        · have d7 : ¬ p3 ≤ 9 := by rw [ti_lt] at d6; rw [ti_le]; omega
          simp only [f91, f149, d1, d2, d3, d4, d5, d6, d7, z1, if_true, if_false, Option.bind_some, Wp_some, true_and]
          exact r
    · have d3 := i59 (N := N) p2 r
      have d4 := i142 (N := N) p2 r
      rw [if_neg c2] at d3 d4
      simp only [f91, f149, d1, d2, d3, d4, if_true, if_false, Option.bind_some, Wp_some, true_and]
      exact r
  · have d1 : f125 p1 = 0 := i125.2 c1
    have d2 : f139 p1 0 2 = 0 := i139.2 c1
    simp only [f91, f149, d1, d2, if_true, Wp_some, true_and]
    exact r
theorem op_rocks (p1 : Int32) (r : Rl n L T hx hm) : Wp (f92 N p1 hx) fun x => Wp (f150 N p1 hm) fun y => x.1 = y.1 ∧ Rl n L T x.2 y.2 := by
  have n4 := r.n4
  have n12 := r.n12
  have t0 : (0 : Int32).toInt = 0 := rfl
  have t1 : (1 : Int32).toInt = 1 := rfl
  have hp : ∀ m, 4 ≤ m → m ≤ 12 → 0 < ((1 : Int32) <<< (nI m &&& 31)).toInt ∧ (((1 : Int32) <<< (nI m &&& 31)) - 1).toInt = ((1 : Int32) <<< (nI m &&& 31)).toInt - 1 := by
    have : ∀ m, m < 13 → 4 ≤ m → m ≤ 12 → 0 < ((1 : Int32) <<< (nI m &&& 31)).toInt ∧ (((1 : Int32) <<< (nI m &&& 31)) - 1).toInt = ((1 : Int32) <<< (nI m &&& 31)).toInt - 1 := by decide
    exact fun m a b => this m (by omega) a b
  obtain ⟨hp1, hp2⟩ := hp n n4 n12
  have pX := r.pX
  have pM := r.pM
  have z0 : ix (0 : Int32) = 0 := rfl
  by_cases c : 0 ≤ p1.toInt ∧ p1.toInt < ((1 : Int32) <<< (nI n &&& 31)).toInt
  · have d1 : ¬ p1 < 0 := by rw [ti_lt]; omega
    have d2 : p1 < (1 : Int32) <<< (nI n &&& 31) := by rw [ti_lt]; omega
    have d3 : ¬ f139 p1 0 (((1 : Int32) <<< (nI n &&& 31)) - 1) = 0 := fun z => i139.1 z ⟨c.1, by omega⟩
    simp only [f92, f150, f1, pX, pM, z0, d1, d2, d3, if_true, if_false, Option.bind_some, Wp_bnd, Wp_bind, Wp_some, true_and]
    refine Rl.seaR r (fun c h => by rw [hI_uI_ne (by omega), hI_uI_ne (by omega), hI_uI_ne (by omega)]) rfl (by simp [hI_uI_ne, hI_uI_eq, pu_ne]) (fun c h => by rw [hI_uI_ne (by omega), hI_uI_ne (by omega)]) (fun j h => by rw [hI_uI_eq, pu_ne h, hI_uI_ne (by omega)]) (fun j h1 h2 => by rw [hI_uI_ne (by omega), hI_uI_eq, pu_ne (by omega)]) ?_ ?_ ?_ ?_
    · obtain ⟨h1, h2, h3, h4⟩ := r.sc.1
      refine ⟨?_, ?_, fun i hi => ?_, fun i hi => ?_⟩
      · simp [hI_uI_ne, hI_uI_eq, pu_eq]
      · show hI (uI (uI (uI hx _ _ _) _ _ _) _ _ _) 41 4 = _
        rw [hI_uI_ne (by omega), hI_uI_ne (by omega), hI_uI_eq, pu_ne (by omega), hI_uI_ne (by omega), hI_uI_eq, pu_ne (by omega)]; exact h2
      · show hI (uI (uI (uI hx _ _ _) _ _ _) _ _ _) 42 i = _
        rw [hI_uI_ne (by omega), hI_uI_ne (by omega), hI_uI_ne (by omega), hI_uI_ne (by omega), hI_uI_eq, pu_ne (by omega)]; exact h3 i hi
      · show hI (uI (uI (uI hx _ _ _) _ _ _) _ _ _) 43 i = _
        rw [hI_uI_ne (by omega), hI_uI_ne (by omega), hI_uI_ne (by omega), hI_uI_ne (by omega), hI_uI_eq, pu_ne (by omega)]; exact h4 i hi
    · obtain ⟨h1, h2, h3⟩ := r.sc.2.2.2.2.2.2.2.1
      refine ⟨?_, ?_, fun i hi => ?_⟩
      · rw [hI_uI_ne (by omega), hI_uI_eq, pu_ne (by omega)]; exact h1
      · rw [hI_uI_ne (by omega), hI_uI_eq, pu_ne (by omega)]; exact h2
      · rw [hI_uI_ne (by omega), hI_uI_eq, pu_ne (by omega)]; exact h3 i hi
    · exact Ch_fg r.ch (by simp only [hI_uI_ne, ne_eq, Nat.reduceEqDiff, not_false_eq_true]) (by simp only [hI_uI_ne, ne_eq, Nat.reduceEqDiff, not_false_eq_true]) rfl (by simp [hI_uI_ne, hI_uI_eq, pu_ne]) (by simp [hI_uI_eq, pu_ne, pu_eq]) (by rw [hI_uI_eq, pu_eq]) (by rw [hI_uI_ne (by omega), hI_uI_eq, pu_ne (by omega)]) (fun i hi => by rw [hI_uI_ne (by omega), hI_uI_eq, pu_ne (by omega)])
    · exact Or.inl (by rw [hI_uI_eq, pu_eq])
  · have d3 : f139 p1 0 (((1 : Int32) <<< (nI n &&& 31)) - 1) = 0 := i139.2 (by omega)
    by_cases d1 : p1 < 0
    · simp only [f92, f150, pM, d1, d3, if_true, Wp_some, true_and]
      exact r
    · have d2 : ¬ p1 < (1 : Int32) <<< (nI n &&& 31) := by rw [ti_lt] at d1 ⊢; omega
      simp only [f92, f150, pX, pM, d1, d2, d3, if_true, if_false, Wp_some, true_and]
      exact r
theorem op_weigh (p1 : Int32) (r : Rl n L T hx hm) : Wp (f94 N p1 hx) fun x => Wp (f152 N p1 hm) fun y => x.1 = y.1 ∧ Rl n L T x.2 y.2 := by
  have t0 : (0 : Int32).toInt = 0 := rfl
  have t1 : (99 : Int32).toInt = 99 := rfl
  have z1 : ix (1 : Int32) = 1 := rfl
  by_cases c : 0 ≤ p1.toInt ∧ p1.toInt ≤ 99
  · have d1 : ¬ p1 < 0 := by rw [ti_lt]; omega
    have d2 : p1 ≤ 99 := by rw [ti_le]; omega
    have d3 : ¬ f139 p1 0 99 = 0 := fun z => i139.1 z c
    simp only [f94, f152, f3, z1, d1, d2, d3, if_true, if_false, Option.bind_some, Wp_bnd, Wp_bind, Wp_some, true_and]
    refine Rl.seaR r (fun c h => by rw [hI_uI_ne (by omega), hI_uI_ne (by omega), hI_uI_ne (by omega), hI_uI_ne (by omega)]) rfl (by simp [hI_uI_ne, hI_uI_eq, pu_ne]) (fun c h => by rw [hI_uI_ne (by omega), hI_uI_ne (by omega)]) (fun j h => by rw [hI_uI_eq, pu_ne h, hI_uI_ne (by omega)]) (fun j h1 h2 => by rw [hI_uI_ne (by omega), hI_uI_eq, pu_ne (by omega)]) ?_ ?_ ?_ ?_
    · obtain ⟨h1, h2, h3, h4⟩ := r.sc.1
      refine ⟨?_, ?_, fun i hi => ?_, fun i hi => ?_⟩
      · show hI (uI (uI (uI (uI hx _ _ _) _ _ _) _ _ _) _ _ _) 41 3 = _
        rw [hI_uI_ne (by omega), hI_uI_ne (by omega), hI_uI_ne (by omega), hI_uI_eq, pu_ne (by omega), hI_uI_ne (by omega), hI_uI_eq, pu_ne (by omega)]; exact h1
      · simp [hI_uI_ne, hI_uI_eq, pu_eq]
      · show hI (uI (uI (uI (uI hx _ _ _) _ _ _) _ _ _) _ _ _) 42 i = _
        rw [hI_uI_ne (by omega), hI_uI_ne (by omega), hI_uI_ne (by omega), hI_uI_ne (by omega), hI_uI_ne (by omega), hI_uI_eq, pu_ne (by omega)]; exact h3 i hi
      · show hI (uI (uI (uI (uI hx _ _ _) _ _ _) _ _ _) _ _ _) 43 i = _
        rw [hI_uI_ne (by omega), hI_uI_ne (by omega), hI_uI_ne (by omega), hI_uI_ne (by omega), hI_uI_ne (by omega), hI_uI_eq, pu_ne (by omega)]; exact h4 i hi
    · obtain ⟨h1, h2, h3⟩ := r.sc.2.2.2.2.2.2.2.1
      refine ⟨?_, ?_, fun i hi => ?_⟩
      · rw [hI_uI_ne (by omega), hI_uI_eq, pu_eq]; exact c.1
      · rw [hI_uI_ne (by omega), hI_uI_eq, pu_eq]; exact c.2
      · rw [hI_uI_ne (by omega), hI_uI_eq, pu_ne (by omega)]; exact h3 i hi
    · exact Ch_all r.ch rfl (by simp [hI_uI_eq, pu_ne, pu_eq]) (by simp [hI_uI_eq, pu_ne, pu_eq]) (by rw [hI_uI_eq, pu_eq])
    · exact Or.inl (by rw [hI_uI_eq, pu_eq])
  · have d3 : f139 p1 0 99 = 0 := i139.2 c
    by_cases d1 : p1 < 0
    · simp only [f94, f152, d1, d3, if_true, Wp_some, true_and]
      exact r
    · have d2 : ¬ p1 ≤ 99 := by rw [ti_lt] at d1; rw [ti_le]; omega
      simp only [f94, f152, d1, d2, d3, if_true, if_false, Wp_some, true_and]
      exact r
theorem op_winds (p1 p2 : Int32) (r : Rl n L T hx hm) : Wp (f93 N p1 p2 hx) fun x => Wp (f151 N p1 p2 hm) fun y => x.1 = y.1 ∧ Rl n L T x.2 y.2 := by
  have t0 : (0 : Int32).toInt = 0 := rfl
  have t1 : (1 : Int32).toInt = 1 := rfl
  have t8 : (8 : Int32).toInt = 8 := rfl
  have t16 : (16 : Int32).toInt = 16 := rfl
  have t20 : (20 : Int32).toInt = (20 : Nat) := rfl
  by_cases c1 : 0 ≤ p1.toInt ∧ p1.toInt ≤ 7
  · have d1 : ¬ p1 < 0 := by rw [ti_lt]; omega
    have d2 : ¬ (8 : Int32) ≤ p1 := by rw [ti_le]; omega
    have d3 : ¬ f139 p1 0 7 = 0 := fun z => i139.1 z c1
    by_cases c2 : 1 ≤ p2.toInt ∧ p2.toInt ≤ 15
    · have d4 : ¬ p2 < 1 := by rw [ti_lt]; omega
      have d5 : p2 < 16 := by rw [ti_lt]; omega
      have d6 : ¬ f139 p2 1 15 = 0 := fun z => i139.1 z c2
      obtain ⟨x1, x2⟩ := ixa t20 c1.1 (by omega)
      have x3 : tn p1 < 8 := by unfold tn; omega
      have x4 : nI (tn p1) = p1 := by
        rw [ti_eq, ti_nI (by omega)]; unfold tn; omega
      simp only [f93, f151, f2, d1, d2, d3, d4, d5, d6, x2, ixt, if_true, if_false, Option.bind_some, Wp_bnd, Wp_bind, Wp_some, Wp_gd, true_and]
      refine ⟨inb_mk (by omega) (by omega), inb_mk (by omega) (by omega), ?_⟩
      refine Rl.seaR r (fun c h => by rw [hI_uI_ne (by omega), hI_uI_ne (by omega), hI_uI_ne (by omega)]) rfl (by rw [hI_uI_ne (by omega), hI_uI_ne (by omega), hI_uI_ne (by omega)]) (fun c h => by rw [hI_uI_ne (by omega)]) (fun j h => by rw [hI_uI_ne (by omega)]) (fun j h1 h2 => by rw [hI_uI_eq, pu_ne (by omega)]) ?_ ?_ ?_ ?_
      · obtain ⟨h1, h2, h3, h4⟩ := r.sc.1
        refine ⟨?_, ?_, fun i hi => ?_, fun i hi => ?_⟩
        · show hI (uI (uI (uI hx _ _ _) _ _ _) _ _ _) 41 3 = _
          rw [hI_uI_ne (by omega), hI_uI_ne (by omega), hI_uI_ne (by omega), hI_uI_eq, pu_ne (by omega)]; exact h1
        · show hI (uI (uI (uI hx _ _ _) _ _ _) _ _ _) 41 4 = _
          rw [hI_uI_ne (by omega), hI_uI_ne (by omega), hI_uI_ne (by omega), hI_uI_eq, pu_ne (by omega)]; exact h2
        · show hI (uI (uI (uI hx _ _ _) _ _ _) _ _ _) 42 i = _
          rw [hI_uI_ne (by omega), hI_uI_ne (by omega), hI_uI_ne (by omega), hI_uI_eq, pu_ne (by omega)]; exact h3 i hi
        · show hI (uI (uI (uI hx _ _ _) _ _ _) _ _ _) 43 i = _
          rw [hI_uI_ne (by omega), hI_uI_ne (by omega), hI_uI_eq, hI_uI_eq]
          by_cases e : i = tn p1
          · rw [e, pu_eq, pu_eq]
          · rw [pu_ne e, pu_ne (by omega)]; exact h4 i hi
      · obtain ⟨h1, h2, h3⟩ := r.sc.2.2.2.2.2.2.2.1
        refine ⟨?_, ?_, fun i hi => ?_⟩
        · rw [hI_uI_eq, pu_ne (by omega)]; exact h1
        · rw [hI_uI_eq, pu_ne (by omega)]; exact h2
        · rw [hI_uI_eq]
          by_cases e : i = tn p1
          · rw [e, pu_eq]; exact c2
          · rw [pu_ne (by omega)]; exact h3 i hi
      · obtain ⟨h1, h2, h3, h4, h5⟩ := r.ch
        have s1 : sea (hI (uI hm 1 (20 + tn p1) p2) 1) = sea (hI hm 1) := sea_c (fun j h => by rw [hI_uI_eq, pu_ne (by omega)])
        refine ⟨fun q hq hb => ?_, fun q hq hb => ?_, Or.inl ?_, h4, h5⟩
        · have hb : bt (hI hx 64 10 &&& ((1 : Int32) <<< (p1 &&& 31) ^^^ -1)) q := by
            rw [hI_uI_eq, pu_ne (by omega), hI_uI_eq, pu_eq, hI_uI_ne (by omega)] at hb; exact hb
          rw [bt_and (by omega), bt_not (by omega), ← x4, bt_one (by omega) (by omega)] at hb
          have g1 := h1 q hq hb.1
          simp only [hI_uI_ne, hI_uI_eq, ne_eq, Nat.reduceEqDiff, not_false_eq_true]
          rw [pu_ne (by omega), pu_ne (by omega)]
          exact g1
        · have hb : bt (hI hx 64 11) q := by
            rw [hI_uI_eq, pu_ne (by omega), hI_uI_eq, pu_ne (by omega), hI_uI_ne (by omega)] at hb; exact hb
          rw [s1, hI_uI_ne (by omega), hI_uI_ne (by omega), hI_uI_ne (by omega)]
          exact h2 q hq hb
        · rw [hI_uI_eq, pu_eq]
      · exact Tb_c r.tb (by rw [hI_uI_ne (by omega)]) (hI_uI_ne (by omega)) (fun j h => by rw [hI_uI_eq, pu_ne (by omega)])
    · have d6 : f139 p2 1 15 = 0 := i139.2 c2
      by_cases d4 : p2 < 1
      · simp only [f93, f151, d1, d2, d3, d4, d6, if_true, if_false, Wp_some, true_and]
        exact r
      · have d5 : ¬ p2 < 16 := by rw [ti_lt] at d4 ⊢; omega
        simp only [f93, f151, d1, d2, d3, d4, d5, d6, if_true, if_false, Wp_some, true_and]
        exact r
  · have d3 : f139 p1 0 7 = 0 := i139.2 c1
    by_cases d1 : p1 < 0
    · simp only [f93, f151, d1, d3, if_true, if_false, Wp_some, true_and]
      exact r
    · have d2 : (8 : Int32) ≤ p1 := by rw [ti_lt] at d1; rw [ti_le]; omega
      simp only [f93, f151, d1, d2, d3, if_true, if_false, Wp_some, true_and]
      exact r
end
