/-! ===== what a change leaves as it was ===== -/
section
variable {S S' : Nat → Nat → Int32} {a a' : Nat → Int32} {n L : Nat}
theorem ah_c {lap : Int32} : ∀ k, (∀ j, 105 ≤ j → j < 105 + 3 * k → a' j = a j) → ah a' lap k = ah a lap k
  | 0, _ => rfl
  | k + 1, ha => by
    show (if a' (107 + 3 * k) < lap then (if a' (106 + 3 * k) = 1 then ah a' lap k ||| _ else _) else _) = (if a (107 + 3 * k) < lap then (if a (106 + 3 * k) = 1 then ah a lap k ||| _ else _) else _)
    rw [ha (107 + 3 * k) (by omega) (by omega), ha (106 + 3 * k) (by omega) (by omega), ha (105 + 3 * k) (by omega) (by omega), ah_c k (fun j h1 h2 => ha j h1 (by omega))]
theorem QSea_c (h : QSea S a) (s14 : S' 14 = S 14) (s15 : S' 15 = S 15) (s16 : S' 16 = S 16) (ha : ∀ j, (j < 2 ∨ (20 ≤ j ∧ j < 28) ∨ (30 ≤ j ∧ j < 66)) → a' j = a j) : QSea S' a' := by
  obtain ⟨h1, h2, h3, h4⟩ := h
  refine ⟨?_, ?_, fun j hj => ?_, fun j hj => ?_⟩
  · rw [s14, ha 0 (by omega)]; exact h1
  · rw [s14, ha 1 (by omega)]; exact h2
  · rw [s15, ha (30 + j) (by omega)]; exact h3 j hj
  · rw [s16, ha (20 + j) (by omega)]; exact h4 j hj
theorem QShip_c (h : QShip S a) (s1 : S' 1 = S 1) (ha : ∀ j, (10 ≤ j ∧ j < 17) → a' j = a j) : QShip S' a' := by
  obtain ⟨h1, h2, h3, h4, h5, h6, h7⟩ := h
  refine ⟨?_, ?_, ?_, ?_, ?_, ?_, ?_⟩
  · rw [s1, ha 10 (by omega)]; exact h1
  · rw [s1, ha 11 (by omega)]; exact h2
  · rw [s1, ha 12 (by omega)]; exact h3
  · rw [s1, ha 13 (by omega)]; exact h4
  · rw [s1, ha 15 (by omega)]; exact h5
  · rw [s1, ha 16 (by omega)]; exact h6
  · rw [s1, ha 14 (by omega)]; exact h7
theorem QTx_c (h : QTx S a) (s0 : S' 0 = S 0) (ha : ∀ j, (2 ≤ j ∧ j < 4) → a' j = a j) : QTx S' a' := by
  obtain ⟨h1, h2⟩ := h
  refine ⟨?_, ?_⟩
  · rw [s0, ha 2 (by omega)]; exact h1
  · rw [s0, ha 3 (by omega)]; exact h2
theorem QCourse_c (h : QCourse S a) (s6 : S' 6 = S 6) (s7 : S' 7 = S 7) (ha : ∀ j, (j = 4 ∨ (66 ≤ j ∧ j < 90)) → a' j = a j) : QCourse S' a' := by
  obtain ⟨h1, h2⟩ := h
  refine ⟨?_, fun j hj => ?_⟩
  · rw [s6, ha 4 (by omega)]; exact h1
  · rw [s7, ha (66 + j) (by omega)]; exact h2 j hj
theorem QGoods_c (h : QGoods S a) (s6 : S' 8 = S 8) (s7 : S' 9 = S 9) (ha : ∀ j, (j = 6 ∨ (90 ≤ j ∧ j < 102)) → a' j = a j) : QGoods S' a' := by
  obtain ⟨h1, h2⟩ := h
  refine ⟨?_, fun j hj => ?_⟩
  · rw [s6, ha 6 (by omega)]; exact h1
  · rw [s7, ha (90 + j) (by omega)]; exact h2 j hj
theorem QCrew_c (h : QCrew S a) (hn : tn (a 7) ≤ 60) (s0 : S' 10 = S 10) (s1 : S' 11 = S 11) (s2 : S' 12 = S 12) (s3 : S' 13 = S 13) (ha : ∀ j, (j = 7 ∨ (105 ≤ j ∧ j < 285)) → a' j = a j) : QCrew S' a' := by
  obtain ⟨h1, h2, h3⟩ := h
  refine ⟨?_, ?_, fun j hj => ⟨?_, ?_, ?_⟩⟩
  · rw [s0, ha 7 (by omega)]; exact h1
  · rw [s0, ha 7 (by omega), ah_c _ (fun j h1 h2 => ha j (by omega))]; exact h2
  · rw [s1, ha (105 + 3 * j) (by omega)]; exact (h3 j hj).1
  · rw [s2, ha (107 + 3 * j) (by omega)]; exact (h3 j hj).2.1
  · rw [s3, ha (106 + 3 * j) (by omega)]; exact (h3 j hj).2.2
theorem QWake_c (h : QWake S a) (hn : tn (a 5) ≤ 30) (s2 : S' 2 = S 2) (s3 : S' 3 = S 3) (s4 : S' 4 = S 4) (s5 : S' 5 = S 5) (ha : ∀ j, (j = 5 ∨ (290 ≤ j ∧ j < 500)) → a' j = a j) : QWake S' a' := by
  obtain ⟨h1, nx, h2, h3, h4⟩ := h
  refine ⟨?_, nx, h2, ?_, fun i hi => ?_⟩
  · rw [s2, ha 5 (by omega)]; exact h1
  · rw [s2]; exact h3
  · rw [ha 5 (by omega)] at hi ⊢
    rw [s3, s4, s5, ha (290 + 7 * i) (by omega), ha (291 + 7 * i) (by omega), ha (292 + 7 * i) (by omega), ha (293 + 7 * i) (by omega), ha (295 + 7 * i) (by omega), ha (296 + 7 * i) (by omega)]
    exact h4 i hi
theorem NSea_c (h : NSea a) (ha : ∀ j, (j < 2 ∨ (20 ≤ j ∧ j < 28)) → a' j = a j) : NSea a' := by
  obtain ⟨h1, h2, h3⟩ := h
  refine ⟨?_, ?_, fun j hj => ?_⟩
  · rw [ha 1 (by omega)]; exact h1
  · rw [ha 1 (by omega)]; exact h2
  · rw [ha (20 + j) (by omega)]; exact h3 j hj
theorem NSt_c {b b' : Nat → Int32} (h : NSt n L b) (hb : ∀ j, j < 7 → b' j = b j) : NSt n L b' := by
  unfold NSt at h ⊢
  rw [hb 0 (by omega), hb 1 (by omega), hb 2 (by omega), hb 3 (by omega), hb 4 (by omega), hb 6 (by omega)]
  exact h
theorem NShip_c (h : NShip n L a) (ha : ∀ j, (10 ≤ j ∧ j < 17) → a' j = a j) : NShip n L a' := NSt_c h (fun j hj => ha (10 + j) (by omega))
theorem NTx_c (h : NTx a) (ha : ∀ j, (2 ≤ j ∧ j < 4) → a' j = a j) : NTx a' := by
  unfold NTx at h ⊢
  rw [ha 2 (by omega), ha 3 (by omega)]
  exact h
theorem NCourse_c (h : NCourse a) (ha : ∀ j, (j = 4 ∨ (66 ≤ j ∧ j < 90)) → a' j = a j) : NCourse a' := by
  obtain ⟨h1, h2, h3⟩ := h
  refine ⟨?_, ?_, fun j hj => ?_⟩
  · rw [ha 4 (by omega)]; exact h1
  · rw [ha 4 (by omega)]; exact h2
  · rw [ha (66 + j) (by omega)]; exact h3 j hj
theorem NGoods_c (h : NGoods a) (ha : ∀ j, (j = 6 ∨ (90 ≤ j ∧ j < 102)) → a' j = a j) : NGoods a' := by
  obtain ⟨h1, h2, h3⟩ := h
  refine ⟨?_, ?_, fun j hj => ?_⟩
  · rw [ha 6 (by omega)]; exact h1
  · rw [ha 6 (by omega)]; exact h2
  · rw [ha (90 + j) (by omega)]; exact h3 j hj
theorem tn_le {x : Int32} {m : Nat} (h : x.toInt ≤ (m : Int)) : tn x ≤ m := by unfold tn; omega
theorem NCrew_c (h : NCrew a) (ha : ∀ j, (j = 7 ∨ j = 16 ∨ (105 ≤ j ∧ j < 285)) → a' j = a j) : NCrew a' := by
  obtain ⟨h1, h2, h3, h4, h5, h6⟩ := h
  have hn : tn (a 7) ≤ 60 := tn_le h2
  refine ⟨?_, ?_, fun j hj => ?_, fun j hj => ?_, fun i j hi hj => ?_, fun j hj => ?_⟩
  · rw [ha 7 (by omega)]; exact h1
  · rw [ha 7 (by omega)]; exact h2
  · rw [ha (105 + 3 * j) (by omega), ha (106 + 3 * j) (by omega)]; exact h3 j hj
  · rw [ha 7 (by omega)] at hj
    rw [ha (107 + 3 * j) (by omega), ha 16 (by omega)]; exact h4 j hj
  · rw [ha 7 (by omega)] at hj
    rw [ha (107 + 3 * j) (by omega), ha (107 + 3 * i) (by omega)]; exact h5 i j hi hj
  · rw [ha 7 (by omega)] at hj
    rw [ha (105 + 3 * j) (by omega), ha (106 + 3 * j) (by omega), ah_c _ (fun j h1 h2 => ha j (by omega))]; exact h6 j hj
theorem NWake_c (h : NWake n L a) (hc : tn (a 7) ≤ 60) (ha : ∀ j, (j = 5 ∨ j = 7 ∨ (105 ≤ j ∧ j < 285) ∨ (290 ≤ j ∧ j < 500)) → a' j = a j) : NWake n L a' := by
  obtain ⟨h1, h2, h3⟩ := h
  have hn : tn (a 5) ≤ 30 := tn_le h2
  refine ⟨?_, ?_, fun i hi => ⟨?_, ?_, fun j hj => ?_⟩⟩
  · rw [ha 5 (by omega)]; exact h1
  · rw [ha 5 (by omega)]; exact h2
  · rw [ha 5 (by omega)] at hi
    exact NSt_c (h3 i hi).1 (fun j hj => ha _ (by omega))
  · rw [ha 5 (by omega)] at hi
    rw [ha _ (by omega)]; exact (h3 i hi).2.1
  · rw [ha 5 (by omega)] at hi
    rw [ha 7 (by omega)] at hj
    rw [ha (107 + 3 * j) (by omega), ha (296 + 7 * i) (by omega)]; exact (h3 i hi).2.2 j hj
theorem NSt_L {L' : Nat} {b : Nat → Int32} (h : NSt n L b) (hL : L ≤ L') : NSt n L' b := by
  obtain ⟨h1, h2, h3, h4, h5, h6, h7, h8, h9, h10, h11⟩ := h
  exact ⟨h1, h2, h3, h4, h5, h6, h7, h8, h9, h10, by omega⟩
theorem Sc_L {L' : Nat} (h : Sc n L S a) (hL : L ≤ L') : Sc n L' S a := by
  obtain ⟨q1, q2, q3, q4, q5, q6, q7, n1, n2, n3, n4, n5, n6, n7⟩ := h
  exact ⟨q1, q2, q3, q4, q5, q6, q7, n1, NSt_L n2 hL, n3, n4, n5, n6, n7.1, n7.2.1, fun i hi => ⟨NSt_L (n7.2.2 i hi).1 hL, (n7.2.2 i hi).2⟩⟩
theorem Sc_c (h : Sc n L S a) (hS : ∀ k, k ≤ 16 → S' k = S k) (ha : ∀ j, j < 500 → a' j = a j) : Sc n L S' a' := by
  obtain ⟨q1, q2, q3, q4, q5, q6, q7, n1, n2, n3, n4, n5, n6, n7⟩ := h
  exact ⟨QSea_c q1 (hS _ (by omega)) (hS _ (by omega)) (hS _ (by omega)) (fun j h => ha j (by omega)), QShip_c q2 (hS _ (by omega)) (fun j h => ha j (by omega)), QTx_c q3 (hS _ (by omega)) (fun j h => ha j (by omega)), QCourse_c q4 (hS _ (by omega)) (hS _ (by omega)) (fun j h => ha j (by omega)), QGoods_c q5 (hS _ (by omega)) (hS _ (by omega)) (fun j h => ha j (by omega)), QCrew_c q6 (tn_le n6.2.1) (hS _ (by omega)) (hS _ (by omega)) (hS _ (by omega)) (hS _ (by omega)) (fun j h => ha j (by omega)), QWake_c q7 (tn_le n7.2.1) (hS _ (by omega)) (hS _ (by omega)) (hS _ (by omega)) (hS _ (by omega)) (fun j h => ha j (by omega)), NSea_c n1 (fun j h => ha j (by omega)), NShip_c n2 (fun j h => ha j (by omega)), NTx_c n3 (fun j h => ha j (by omega)), NCourse_c n4 (fun j h => ha j (by omega)), NGoods_c n5 (fun j h => ha j (by omega)), NCrew_c n6 (fun j h => ha j (by omega)), NWake_c n7 (tn_le n6.2.1) (fun j h => ha j (by omega))⟩
theorem Sc_sea (h : Sc n L S a) (hS : ∀ k, k ≤ 13 → S' k = S k) (ha : ∀ j, j < 500 → ¬ (j < 2 ∨ (20 ≤ j ∧ j < 28) ∨ (30 ≤ j ∧ j < 66)) → a' j = a j) (hq : QSea S' a') (hn : NSea a') : Sc n L S' a' := by
  obtain ⟨q1, q2, q3, q4, q5, q6, q7, n1, n2, n3, n4, n5, n6, n7⟩ := h
  exact ⟨hq, QShip_c q2 (hS _ (by omega)) (fun j h => ha j (by omega) (by omega)), QTx_c q3 (hS _ (by omega)) (fun j h => ha j (by omega) (by omega)), QCourse_c q4 (hS _ (by omega)) (hS _ (by omega)) (fun j h => ha j (by omega) (by omega)), QGoods_c q5 (hS _ (by omega)) (hS _ (by omega)) (fun j h => ha j (by omega) (by omega)), QCrew_c q6 (tn_le n6.2.1) (hS _ (by omega)) (hS _ (by omega)) (hS _ (by omega)) (hS _ (by omega)) (fun j h => ha j (by omega) (by omega)), QWake_c q7 (tn_le n7.2.1) (hS _ (by omega)) (hS _ (by omega)) (hS _ (by omega)) (hS _ (by omega)) (fun j h => ha j (by omega) (by omega)), hn, NShip_c n2 (fun j h => ha j (by omega) (by omega)), NTx_c n3 (fun j h => ha j (by omega) (by omega)), NCourse_c n4 (fun j h => ha j (by omega) (by omega)), NGoods_c n5 (fun j h => ha j (by omega) (by omega)), NCrew_c n6 (fun j h => ha j (by omega) (by omega)), NWake_c n7 (tn_le n6.2.1) (fun j h => ha j (by omega) (by omega))⟩
theorem Sc_tx (h : Sc n L S a) (hS : ∀ k, 1 ≤ k → k ≤ 16 → S' k = S k) (ha : ∀ j, j < 500 → ¬ (2 ≤ j ∧ j < 4) → a' j = a j) (hq : QTx S' a') (hn : NTx a') : Sc n L S' a' := by
  obtain ⟨q1, q2, q3, q4, q5, q6, q7, n1, n2, n3, n4, n5, n6, n7⟩ := h
  exact ⟨QSea_c q1 (hS _ (by omega) (by omega)) (hS _ (by omega) (by omega)) (hS _ (by omega) (by omega)) (fun j h => ha j (by omega) (by omega)), QShip_c q2 (hS _ (by omega) (by omega)) (fun j h => ha j (by omega) (by omega)), hq, QCourse_c q4 (hS _ (by omega) (by omega)) (hS _ (by omega) (by omega)) (fun j h => ha j (by omega) (by omega)), QGoods_c q5 (hS _ (by omega) (by omega)) (hS _ (by omega) (by omega)) (fun j h => ha j (by omega) (by omega)), QCrew_c q6 (tn_le n6.2.1) (hS _ (by omega) (by omega)) (hS _ (by omega) (by omega)) (hS _ (by omega) (by omega)) (hS _ (by omega) (by omega)) (fun j h => ha j (by omega) (by omega)), QWake_c q7 (tn_le n7.2.1) (hS _ (by omega) (by omega)) (hS _ (by omega) (by omega)) (hS _ (by omega) (by omega)) (hS _ (by omega) (by omega)) (fun j h => ha j (by omega) (by omega)), NSea_c n1 (fun j h => ha j (by omega) (by omega)), NShip_c n2 (fun j h => ha j (by omega) (by omega)), hn, NCourse_c n4 (fun j h => ha j (by omega) (by omega)), NGoods_c n5 (fun j h => ha j (by omega) (by omega)), NCrew_c n6 (fun j h => ha j (by omega) (by omega)), NWake_c n7 (tn_le n6.2.1) (fun j h => ha j (by omega) (by omega))⟩
theorem Sc_course (h : Sc n L S a) (hS : ∀ k, k ≤ 16 → k ≠ 6 → k ≠ 7 → S' k = S k) (ha : ∀ j, j < 500 → ¬ (j = 4 ∨ (66 ≤ j ∧ j < 90)) → a' j = a j) (hq : QCourse S' a') (hn : NCourse a') : Sc n L S' a' := by
  obtain ⟨q1, q2, q3, q4, q5, q6, q7, n1, n2, n3, n4, n5, n6, n7⟩ := h
  exact ⟨QSea_c q1 (hS _ (by omega) (by omega) (by omega)) (hS _ (by omega) (by omega) (by omega)) (hS _ (by omega) (by omega) (by omega)) (fun j h => ha j (by omega) (by omega)), QShip_c q2 (hS _ (by omega) (by omega) (by omega)) (fun j h => ha j (by omega) (by omega)), QTx_c q3 (hS _ (by omega) (by omega) (by omega)) (fun j h => ha j (by omega) (by omega)), hq, QGoods_c q5 (hS _ (by omega) (by omega) (by omega)) (hS _ (by omega) (by omega) (by omega)) (fun j h => ha j (by omega) (by omega)), QCrew_c q6 (tn_le n6.2.1) (hS _ (by omega) (by omega) (by omega)) (hS _ (by omega) (by omega) (by omega)) (hS _ (by omega) (by omega) (by omega)) (hS _ (by omega) (by omega) (by omega)) (fun j h => ha j (by omega) (by omega)), QWake_c q7 (tn_le n7.2.1) (hS _ (by omega) (by omega) (by omega)) (hS _ (by omega) (by omega) (by omega)) (hS _ (by omega) (by omega) (by omega)) (hS _ (by omega) (by omega) (by omega)) (fun j h => ha j (by omega) (by omega)), NSea_c n1 (fun j h => ha j (by omega) (by omega)), NShip_c n2 (fun j h => ha j (by omega) (by omega)), NTx_c n3 (fun j h => ha j (by omega) (by omega)), hn, NGoods_c n5 (fun j h => ha j (by omega) (by omega)), NCrew_c n6 (fun j h => ha j (by omega) (by omega)), NWake_c n7 (tn_le n6.2.1) (fun j h => ha j (by omega) (by omega))⟩
theorem Sc_goods (h : Sc n L S a) (hS : ∀ k, k ≤ 16 → k ≠ 8 → k ≠ 9 → S' k = S k) (ha : ∀ j, j < 500 → ¬ (j = 6 ∨ (90 ≤ j ∧ j < 102)) → a' j = a j) (hq : QGoods S' a') (hn : NGoods a') : Sc n L S' a' := by
  obtain ⟨q1, q2, q3, q4, q5, q6, q7, n1, n2, n3, n4, n5, n6, n7⟩ := h
  exact ⟨QSea_c q1 (hS _ (by omega) (by omega) (by omega)) (hS _ (by omega) (by omega) (by omega)) (hS _ (by omega) (by omega) (by omega)) (fun j h => ha j (by omega) (by omega)), QShip_c q2 (hS _ (by omega) (by omega) (by omega)) (fun j h => ha j (by omega) (by omega)), QTx_c q3 (hS _ (by omega) (by omega) (by omega)) (fun j h => ha j (by omega) (by omega)), QCourse_c q4 (hS _ (by omega) (by omega) (by omega)) (hS _ (by omega) (by omega) (by omega)) (fun j h => ha j (by omega) (by omega)), hq, QCrew_c q6 (tn_le n6.2.1) (hS _ (by omega) (by omega) (by omega)) (hS _ (by omega) (by omega) (by omega)) (hS _ (by omega) (by omega) (by omega)) (hS _ (by omega) (by omega) (by omega)) (fun j h => ha j (by omega) (by omega)), QWake_c q7 (tn_le n7.2.1) (hS _ (by omega) (by omega) (by omega)) (hS _ (by omega) (by omega) (by omega)) (hS _ (by omega) (by omega) (by omega)) (hS _ (by omega) (by omega) (by omega)) (fun j h => ha j (by omega) (by omega)), NSea_c n1 (fun j h => ha j (by omega) (by omega)), NShip_c n2 (fun j h => ha j (by omega) (by omega)), NTx_c n3 (fun j h => ha j (by omega) (by omega)), NCourse_c n4 (fun j h => ha j (by omega) (by omega)), hn, NCrew_c n6 (fun j h => ha j (by omega) (by omega)), NWake_c n7 (tn_le n6.2.1) (fun j h => ha j (by omega) (by omega))⟩
/-- ship and wake (and the crew's laps) change -/
theorem Sc_ship (h : Sc n L S a) {L' : Nat} (hS : ∀ k, k ≤ 16 → (k = 0 ∨ 6 ≤ k) → S' k = S k) (ha : ∀ j, j < 500 → ¬ ((10 ≤ j ∧ j < 17) ∨ j = 5 ∨ (290 ≤ j ∧ j < 500)) → a' j = a j) (hq : QShip S' a') (hw : QWake S' a') (hn : NShip n L' a') (hv : NWake n L' a') (hl : ∀ j, j < tn (a 7) → (a (107 + 3 * j)).toInt ≤ (a' 16).toInt) : Sc n L' S' a' := by
  obtain ⟨q1, q2, q3, q4, q5, q6, q7, n1, n2, n3, n4, n5, n6, n7⟩ := h
  have hc : tn (a 7) ≤ 60 := tn_le n6.2.1
  refine ⟨QSea_c q1 (hS _ (by omega) (by omega)) (hS _ (by omega) (by omega)) (hS _ (by omega) (by omega)) (fun j h => ha j (by omega) (by omega)), hq, QTx_c q3 (hS _ (by omega) (by omega)) (fun j h => ha j (by omega) (by omega)), QCourse_c q4 (hS _ (by omega) (by omega)) (hS _ (by omega) (by omega)) (fun j h => ha j (by omega) (by omega)), QGoods_c q5 (hS _ (by omega) (by omega)) (hS _ (by omega) (by omega)) (fun j h => ha j (by omega) (by omega)), QCrew_c q6 (tn_le n6.2.1) (hS _ (by omega) (by omega)) (hS _ (by omega) (by omega)) (hS _ (by omega) (by omega)) (hS _ (by omega) (by omega)) (fun j h => ha j (by omega) (by omega)), hw, NSea_c n1 (fun j h => ha j (by omega) (by omega)), hn, NTx_c n3 (fun j h => ha j (by omega) (by omega)), NCourse_c n4 (fun j h => ha j (by omega) (by omega)), NGoods_c n5 (fun j h => ha j (by omega) (by omega)), ?_, hv⟩
  obtain ⟨h1, h2, h3, h4, h5, h6⟩ := n6
  refine ⟨?_, ?_, fun j hj => ?_, fun j hj => ?_, fun i j hi hj => ?_, fun j hj => ?_⟩
  · rw [ha 7 (by omega) (by omega)]; exact h1
  · rw [ha 7 (by omega) (by omega)]; exact h2
  · rw [ha (105 + 3 * j) (by omega) (by omega), ha (106 + 3 * j) (by omega) (by omega)]; exact h3 j hj
  · rw [ha 7 (by omega) (by omega)] at hj
    rw [ha (107 + 3 * j) (by omega) (by omega)]; exact ⟨(h4 j hj).1, hl j hj⟩
  · rw [ha 7 (by omega) (by omega)] at hj
    rw [ha (107 + 3 * j) (by omega) (by omega), ha (107 + 3 * i) (by omega) (by omega)]; exact h5 i j hi hj
  · rw [ha 7 (by omega) (by omega)] at hj
    rw [ha (105 + 3 * j) (by omega) (by omega), ha (106 + 3 * j) (by omega) (by omega), ah_c _ (fun j h1 h2 => ha j (by omega) (by omega))]; exact h6 j hj
/-- the crew changes, and the wake is emptied -/
theorem Sc_crew (h : Sc n L S a) (hS : ∀ k, k ≤ 16 → ¬ (2 ≤ k ∧ k ≤ 5) → ¬ (10 ≤ k ∧ k ≤ 13) → S' k = S k) (ha : ∀ j, j < 500 → ¬ (j = 5 ∨ j = 7 ∨ (105 ≤ j ∧ j < 285)) → a' j = a j) (hq : QCrew S' a') (hn : NCrew a') (hw : QWake S' a') (hv : NWake n L a') : Sc n L S' a' := by
  obtain ⟨q1, q2, q3, q4, q5, q6, q7, n1, n2, n3, n4, n5, n6, n7⟩ := h
  exact ⟨QSea_c q1 (hS _ (by omega) (by omega) (by omega)) (hS _ (by omega) (by omega) (by omega)) (hS _ (by omega) (by omega) (by omega)) (fun j h => ha j (by omega) (by omega)), QShip_c q2 (hS _ (by omega) (by omega) (by omega)) (fun j h => ha j (by omega) (by omega)), QTx_c q3 (hS _ (by omega) (by omega) (by omega)) (fun j h => ha j (by omega) (by omega)), QCourse_c q4 (hS _ (by omega) (by omega) (by omega)) (hS _ (by omega) (by omega) (by omega)) (fun j h => ha j (by omega) (by omega)), QGoods_c q5 (hS _ (by omega) (by omega) (by omega)) (hS _ (by omega) (by omega) (by omega)) (fun j h => ha j (by omega) (by omega)), hq, hw, NSea_c n1 (fun j h => ha j (by omega) (by omega)), NShip_c n2 (fun j h => ha j (by omega) (by omega)), NTx_c n3 (fun j h => ha j (by omega) (by omega)), NCourse_c n4 (fun j h => ha j (by omega) (by omega)), NGoods_c n5 (fun j h => ha j (by omega) (by omega)), hn, hv⟩
/-! the rest -/
theorem sea_c (ha : ∀ j, (j < 2 ∨ (30 ≤ j ∧ j < 66)) → a' j = a j) : sea a' = sea a := by
  funext j
  unfold sea
  by_cases h : j < 2 ∨ (30 ≤ j ∧ j < 66)
  · rw [if_pos h, if_pos h, ha j h]
  · rw [if_neg h, if_neg h]
theorem Kp_c {T : Tc} (hs : sea a' = sea a) (hw : ∀ j, j < 8 → a' (20 + j) = a (20 + j)) : ∀ k s, Kp n T a' k s ↔ Kp n T a k s
  | 0, _ => Iff.rfl
  | k + 1, s => by
    have ih := Kp_c (T := T) hs hw k
    show (ist n s ∧ ∃ c, c < 12 ∧ ∀ w, w < 4 → bt (a' (20 + s / 5 % 8)) w → ∃ r, r < 1440 ∧ Oc n T (sea a') s c w (nI r) ∧ Kp n T a' k r) ↔ (ist n s ∧ ∃ c, c < 12 ∧ ∀ w, w < 4 → bt (a (20 + s / 5 % 8)) w → ∃ r, r < 1440 ∧ Oc n T (sea a) s c w (nI r) ∧ Kp n T a k r)
    rw [hs, hw (s / 5 % 8) (by omega)]
    constructor
    · rintro ⟨h1, c, h2, h3⟩
      refine ⟨h1, c, h2, fun w h4 h5 => ?_⟩
      obtain ⟨r, h6, h7, h8⟩ := h3 w h4 h5
      exact ⟨r, h6, h7, (ih r).1 h8⟩
    · rintro ⟨h1, c, h2, h3⟩
      refine ⟨h1, c, h2, fun w h4 h5 => ?_⟩
      obtain ⟨r, h6, h7, h8⟩ := h3 w h4 h5
      exact ⟨r, h6, h7, (ih r).2 h8⟩
theorem Settled_c {T : Tc} {ho : Nat → Int32} {ad : Int32} (h : Settled n T a ho ad) (hs : sea a' = sea a) (hw : ∀ j, j < 8 → a' (20 + j) = a (20 + j)) : Settled n T a' ho ad := by
  obtain ⟨A, h1, h2, h3, h4⟩ := h
  refine ⟨A, h1, h2, fun s hst => ?_, fun k hk => ?_⟩
  · rcases h3 s hst with ⟨e, f⟩ | ⟨m, e1, e2, e3, e4⟩
    · exact Or.inl ⟨e, fun k => (Kp_c hs hw k s).2 (f k)⟩
    · exact Or.inr ⟨m, e1, e2, (Kp_c hs hw m s).2 e3, fun z => e4 ((Kp_c hs hw _ s).1 z)⟩
  · obtain ⟨s, e1, e2⟩ := h4 k hk
    exact ⟨s, (Kp_c hs hw k s).2 e1, fun z => e2 ((Kp_c hs hw _ s).1 z)⟩
theorem Ch_c {T : Tc} {hx hx' : Hp} (h : Ch n T hx a) (e4 : hI hx' 64 = hI hx 64) (e5 : hI hx' 65 = hI hx 65) (e6 : hI hx' 66 = hI hx 66) (e7 : hI hx' 67 = hI hx 67) (e8 : hI hx' 68 = hI hx 68) (er : hR hx' 64 = hR hx 64) (ha : ∀ j, (j < 2 ∨ (20 ≤ j ∧ j < 28) ∨ (30 ≤ j ∧ j < 66)) → a' j = a j) : Ch n T hx' a' := by
  have hs : sea a' = sea a := sea_c (fun j h => ha j (by omega))
  have hw : ∀ j, j < 8 → a' (20 + j) = a (20 + j) := fun j h => ha _ (by omega)
  obtain ⟨h1, h2, h3, h4, h5⟩ := h
  unfold Ch
  rw [e4, e5, e6, e7, e8, er, hs, ha 1 (by omega)]
  refine ⟨fun q hq hb => ?_, h2, ?_, h4, h5⟩
  · rw [hw q hq]; exact h1 q hq hb
  · rcases h3 with h3 | ⟨h3, h6, h7⟩
    · exact Or.inl h3
    · exact Or.inr ⟨h3, Settled_c h6 hs hw, h7⟩
theorem Tb_c {T : Tc} {hm hm' : Hp} (h : Tb n T hm) (e0 : hI hm' 0 27 = hI hm 0 27) (e9 : hI hm' 9 = hI hm 9) (ha : ∀ j, (j < 2 ∨ (30 ≤ j ∧ j < 66)) → hI hm' 1 j = hI hm 1 j) : Tb n T hm' := by
  unfold Tb at h ⊢
  rw [e0, e9, sea_c ha]
  exact h
theorem Tp_c {hx hx' hm hm' : Hp} (h : Tp hx hm) (e1 : hI hx' 22 = hI hx 22) (e2 : hI hx' 23 = hI hx 23) (e3 : hI hm' 0 5 = hI hm 0 5) (e4 : hI hm' 4 = hI hm 4) : Tp hx' hm' := by
  unfold Tp at h ⊢
  rw [e1, e2, e3, e4]; exact h
theorem Fl_c {hx hx' hm hm' : Hp} (h : Fl hx hm) (e1 : hI hx' 26 = hI hx 26) (e2 : hI hm' 0 6 = hI hm 0 6) (e3 : hI hm' 0 7 = hI hm 0 7) : Fl hx' hm' := by
  unfold Fl at h ⊢
  rw [e1, e2, e3]; exact h
theorem TxX_c {T : Tc} {h h' : Hp} {c : Nat} (x : TxX T h c) (e1 : hI h' c = hI h c) (e2 : hI h' (c + 1) = hI h (c + 1)) (e3 : hI h' (c + 2) = hI h (c + 2)) (e4 : hI h' (c + 3) = hI h (c + 3)) : TxX T h' c := by
  unfold TxX at x ⊢
  rw [e1, e2, e3, e4]; exact x
theorem Tx_c {T : Nat → Tc} {hx hx' hm hm' : Hp} (h : Tx T hx hm) (ht : (hI hm 1 2).toInt ≤ 4) (e1 : ∀ c, 2 ≤ c → c < 22 → hI hx' c = hI hx c) (e2 : hI hm' 1 2 = hI hm 1 2) (e3 : hI hm' 3 = hI hm 3) (e4 : hI hm' 2 2 = hI hm 2 2) : Tx T hx' hm' := by
  unfold Tx at h ⊢
  rw [e2, e3, e4]
  have hn : tn (hI hm 1 2) ≤ 4 := tn_le ht
  refine ⟨fun i hi => ⟨TxX_c (h.1 i hi).1 (e1 _ (by omega) (by omega)) (e1 _ (by omega) (by omega)) (e1 _ (by omega) (by omega)) (e1 _ (by omega) (by omega)), (h.1 i hi).2⟩, ?_, h.2.2⟩
  rw [e1 18 (by omega) (by omega)]; exact h.2.1
theorem Lw_c {hx hx' hm hm' : Hp} (h : Lw hx hm) (e1 : hR hx' 61 = hR hx 61) (e2 : hI hm' 1 3 = hI hm 1 3) : Lw hx' hm' := by
  unfold Lw at h ⊢
  rw [e1, e2]; exact h
end
