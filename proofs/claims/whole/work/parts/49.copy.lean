/-! ===== image, back (printed by gen_copy.py) ===== -/
section
variable {n L N : Nat} {T : Nat → Tc} {hx hm : Hp}
theorem Sc_e {S S' : Nat → Nat → Int32} {a a' : Nat → Int32} (h : Sc n L S a) (e03 : S' 0 6 = S 0 6) (e04 : S' 0 7 = S 0 7) (e1 : ∀ j, j < 7 → S' 1 j = S 1 j) (e23 : S' 2 3 = S 2 3) (e24 : S' 2 4 = S 2 4) (e3 : ∀ j, j < 30 → S' 3 j = S 3 j) (e4 : ∀ j, j < 30 → S' 4 j = S 4 j) (e5 : ∀ j, j < 30 → S' 5 j = S 5 j) (e6 : S' 6 1 = S 6 1) (e7 : ∀ j, j < 24 → S' 7 j = S 7 j) (e8 : S' 8 1 = S 8 1) (e9 : ∀ j, j < 12 → S' 9 j = S 9 j) (e103 : S' 10 3 = S 10 3) (e104 : S' 10 4 = S 10 4) (e11 : ∀ j, j < 60 → S' 11 j = S 11 j) (e12 : ∀ j, j < 60 → S' 12 j = S 12 j) (e13 : ∀ j, j < 60 → S' 13 j = S 13 j) (e143 : S' 14 3 = S 14 3) (e144 : S' 14 4 = S 14 4) (e15 : ∀ j, j < 36 → S' 15 j = S 15 j) (e16 : ∀ j, j < 8 → S' 16 j = S 16 j) (ha : ∀ j, j < 500 → a' j = a j) : Sc n L S' a' := by
  refine Sc_c (S := S') (a := a) ?_ (fun k _ => rfl) ha
  obtain ⟨⟨q11, q12, q13, q14⟩, ⟨q21, q22, q23, q24, q25, q26, q27⟩, ⟨q31, q32⟩, ⟨q41, q42⟩, ⟨q51, q52⟩, ⟨q61, q62, q63⟩, ⟨q71, nx, q72, q73, q74⟩, n1⟩ := h
  refine ⟨⟨?_, ?_, fun j hj => ?_, fun j hj => ?_⟩, ⟨?_, ?_, ?_, ?_, ?_, ?_, ?_⟩, ⟨?_, ?_⟩, ⟨?_, fun j hj => ?_⟩, ⟨?_, fun j hj => ?_⟩, ⟨?_, ?_, fun j hj => ?_⟩, ⟨?_, nx, q72, ?_, fun i hi => ?_⟩, n1⟩
  · rw [e143]; exact q11
  · rw [e144]; exact q12
  · rw [e15 j hj]; exact q13 j hj
  · rw [e16 j hj]; exact q14 j hj
  · rw [e1 _ (by omega)]; exact q21
  · rw [e1 _ (by omega)]; exact q22
  · rw [e1 _ (by omega)]; exact q23
  · rw [e1 _ (by omega)]; exact q24
  · rw [e1 _ (by omega)]; exact q25
  · rw [e1 _ (by omega)]; exact q26
  · rw [e1 _ (by omega)]; exact q27
  · rw [e03]; exact q31
  · rw [e04]; exact q32
  · rw [e6]; exact q41
  · rw [e7 j hj]; exact q42 j hj
  · rw [e8]; exact q51
  · rw [e9 j hj]; exact q52 j hj
  · rw [e103]; exact q61
  · rw [e104]; exact q62
  · rw [e11 j hj, e12 j hj, e13 j hj]; exact q63 j hj
  · rw [e24]; exact q71
  · rw [e23]; exact q73
  · rw [e3 _ (Nat.mod_lt _ (by omega)), e4 _ (Nat.mod_lt _ (by omega)), e5 _ (Nat.mod_lt _ (by omega))]; exact q74 i hi
theorem f58_w {h : Hp} : Wp (f58 N h) fun h' => (∀ c, c ≠ 58 → c ≠ 59 → c ≠ 60 → hI h' c = hI h c) ∧ hR h' = hR h ∧ (∀ j, j ≠ 3 → j ≠ 4 → hI h' 58 j = hI h 58 j) ∧ hI h' 58 3 = hI h 41 3 ∧ hI h' 58 4 = hI h 41 4 ∧ (∀ j, j < 36 → hI h' 59 j = hI h 42 j) ∧ (∀ j, j < 8 → hI h' 60 j = hI h 43 j) := by
  unfold f58
  simp only [Wp_bnd, Wp_some]
  refine ⟨fun c h1 h2 h3 => ?_, rfl, fun j h1 h2 => ?_, ?_, ?_, fun j hj => ?_, fun j hj => ?_⟩
  · rw [hI_uI_ne h1, hI_uI_ne h1, hI_uA_ne h3, hI_uA_ne h2]
  · rw [hI_uI_eq, pu_ne h2, hI_uI_eq, pu_ne h1, hI_uA_ne (by omega), hI_uA_ne (by omega)]
  · rw [hI_uI_eq, pu_ne (by omega), hI_uI_eq, pu_eq, hI_uA_ne (by omega), hI_uA_ne (by omega)]
  · rw [hI_uI_eq, pu_eq, hI_uI_ne (by omega), hI_uA_ne (by omega), hI_uA_ne (by omega)]
  · rw [hI_uI_ne (by omega), hI_uI_ne (by omega), hI_uA_ne (by omega), hI_uA_eq]; exact sb_cpy0 hj
  · rw [hI_uI_ne (by omega), hI_uI_ne (by omega), hI_uA_eq, hI_uA_ne (by omega)]; exact sb_cpy0 hj
theorem f85_w {h : Hp} (hb : hI h 28 6 = 0 ∨ hI h 28 6 = 1) : Wp (f85 N h) fun h' => (∀ c, c ≠ 45 → hI h' c = hI h c) ∧ hR h' = hR h ∧ (∀ j, j < 7 → hI h' 45 j = hI h 28 j) := by
  unfold f85
  simp only [Wp_bnd, Wp_some, Wp_gd]
  refine ⟨?_, fun c h1 => ?_, rfl, fun j hj => ?_⟩
  · rw [hI_uI_ne (by omega), hI_uI_ne (by omega), hI_uI_ne (by omega), hI_uI_ne (by omega), hI_uI_ne (by omega), hI_uI_ne (by omega)]; exact hb
  · rw [hI_uI_ne h1, hI_uI_ne h1, hI_uI_ne h1, hI_uI_ne h1, hI_uI_ne h1, hI_uI_ne h1, hI_uI_ne h1]
  · have e : j = 0 ∨ j = 1 ∨ j = 2 ∨ j = 3 ∨ j = 4 ∨ j = 5 ∨ j = 6 := by omega
    rcases e with rfl | rfl | rfl | rfl | rfl | rfl | rfl <;> simp [hI_uI_eq, hI_uI_ne, pu_eq, pu_ne]
theorem f89_w {h : Hp} : Wp (f89 N h) fun h' => (∀ c, c ≠ 46 → c ≠ 47 → c ≠ 48 → c ≠ 49 → hI h' c = hI h c) ∧ hR h' = hR h ∧ hI h' 46 3 = hI h 29 3 ∧ hI h' 46 4 = hI h 29 4 ∧ (∀ j, j < 30 → hI h' 47 j = hI h 30 j) ∧ (∀ j, j < 30 → hI h' 48 j = hI h 31 j) ∧ (∀ j, j < 30 → hI h' 49 j = hI h 32 j) := by
  unfold f89
  simp only [Wp_bnd, Wp_some]
  refine ⟨fun c h1 h2 h3 h4 => ?_, rfl, ?_, ?_, fun j hj => ?_, fun j hj => ?_, fun j hj => ?_⟩
  · rw [hI_uI_ne h1, hI_uI_ne h1, hI_uA_ne h4, hI_uA_ne h3, hI_uA_ne h2]
  · rw [hI_uI_eq, pu_ne (by omega), hI_uI_eq, pu_eq, hI_uA_ne (by omega), hI_uA_ne (by omega), hI_uA_ne (by omega)]
  · rw [hI_uI_eq, pu_eq, hI_uI_ne (by omega), hI_uA_ne (by omega), hI_uA_ne (by omega), hI_uA_ne (by omega)]
  · rw [hI_uI_ne (by omega), hI_uI_ne (by omega), hI_uA_ne (by omega), hI_uA_ne (by omega), hI_uA_eq]; exact sb_cpy0 hj
  · rw [hI_uI_ne (by omega), hI_uI_ne (by omega), hI_uA_ne (by omega), hI_uA_eq, hI_uA_ne (by omega)]; exact sb_cpy0 hj
  · rw [hI_uI_ne (by omega), hI_uI_ne (by omega), hI_uA_eq, hI_uA_ne (by omega), hI_uA_ne (by omega)]; exact sb_cpy0 hj
theorem f54_w {h : Hp} : Wp (f54 N h) fun h' => (∀ c, c ≠ 50 → c ≠ 51 → hI h' c = hI h c) ∧ hR h' = hR h ∧ hI h' 50 1 = hI h 33 1 ∧ (∀ j, j < 24 → hI h' 51 j = hI h 34 j) := by
  unfold f54
  simp only [Wp_bnd, Wp_some, Wp_gd]
  refine ⟨by decide, fun c h1 h2 => ?_, rfl, ?_, fun j hj => ?_⟩
  · rw [hI_uI_ne h1, hI_uA_ne h2]
  · rw [hI_uI_eq, pu_eq, hI_uA_ne (by omega)]
  · rw [hI_uI_ne (by omega), hI_uA_eq]; exact sb_cpy0 hj
theorem f54_52_35_w {h : Hp} : Wp (f54_52_35 N h) fun h' => (∀ c, c ≠ 52 → c ≠ 53 → hI h' c = hI h c) ∧ hR h' = hR h ∧ hI h' 52 1 = hI h 35 1 ∧ (∀ j, j < 12 → hI h' 53 j = hI h 36 j) := by
  unfold f54_52_35
  simp only [Wp_bnd, Wp_some, Wp_gd]
  refine ⟨by decide, fun c h1 h2 => ?_, rfl, ?_, fun j hj => ?_⟩
  · rw [hI_uI_ne h1, hI_uA_ne h2]
  · rw [hI_uI_eq, pu_eq, hI_uA_ne (by omega)]
  · rw [hI_uI_ne (by omega), hI_uA_eq]; exact sb_cpy0 hj
theorem f29_w {h : Hp} : Wp (f29 N h) fun h' => (∀ c, c ≠ 54 → c ≠ 55 → c ≠ 56 → c ≠ 57 → hI h' c = hI h c) ∧ hR h' = hR h ∧ hI h' 54 3 = hI h 37 3 ∧ hI h' 54 4 = hI h 37 4 ∧ (∀ j, j < 60 → hI h' 55 j = hI h 38 j) ∧ (∀ j, j < 60 → hI h' 56 j = hI h 39 j) ∧ (∀ j, j < 60 → hI h' 57 j = hI h 40 j) := by
  unfold f29
  simp only [Wp_bnd, Wp_some]
  refine ⟨fun c h1 h2 h3 h4 => ?_, rfl, ?_, ?_, fun j hj => ?_, fun j hj => ?_, fun j hj => ?_⟩
  · rw [hI_uI_ne h1, hI_uI_ne h1, hI_uA_ne h4, hI_uA_ne h3, hI_uA_ne h2]
  · rw [hI_uI_eq, pu_ne (by omega), hI_uI_eq, pu_eq, hI_uA_ne (by omega), hI_uA_ne (by omega), hI_uA_ne (by omega)]
  · rw [hI_uI_eq, pu_eq, hI_uI_ne (by omega), hI_uA_ne (by omega), hI_uA_ne (by omega), hI_uA_ne (by omega)]
  · rw [hI_uI_ne (by omega), hI_uI_ne (by omega), hI_uA_ne (by omega), hI_uA_ne (by omega), hI_uA_eq]; exact sb_cpy0 hj
  · rw [hI_uI_ne (by omega), hI_uI_ne (by omega), hI_uA_ne (by omega), hI_uA_eq, hI_uA_ne (by omega)]; exact sb_cpy0 hj
  · rw [hI_uI_ne (by omega), hI_uI_ne (by omega), hI_uA_eq, hI_uA_ne (by omega), hI_uA_ne (by omega)]; exact sb_cpy0 hj
theorem f56_w {h : Hp} {a a' : Nat → Int32} (sc : Sc n L (fun k => hI h (27 + k)) a) (ha : ∀ j, j < 500 → a' j = a j) : Wp (f56 N h) fun h' => (∀ c, c < 44 ∨ 61 ≤ c → hI h' c = hI h c) ∧ hR h' = hR h ∧ hI h' 58 0 = hI h 58 0 ∧ Sc n L (fun k => hI h' (44 + k)) a' := by
  have hb : hI h 28 6 = 0 ∨ hI h 28 6 = 1 := by
    have e1 : hI h 28 6 = a 14 := sc.2.1.2.2.2.2.2.2
    have e2 : a 14 = 0 ∨ a 14 = 1 := sc.2.2.2.2.2.2.2.2.1.2.2.2.2.2.2.2.2.1
    rw [e1]; exact e2
  unfold f56
  simp only [Wp_bnd, Wp_bind, Wp_some]
  refine Wp_mono f58_w (fun h1 ⟨a1, r1, b1, b2, b3, b4, b5⟩ => ?_)
  refine Wp_mono (f85_w (by rw [a1 _ (by omega) (by omega) (by omega)]; exact hb)) (fun h2 ⟨a2, r2, c1⟩ => ?_)
  refine Wp_mono f89_w (fun h3 ⟨a3, r3, d1, d2, d3, d4, d5⟩ => ?_)
  refine Wp_mono f54_w (fun h4 ⟨a4, r4, e1, e2⟩ => ?_)
  refine Wp_mono f54_52_35_w (fun h5 ⟨a5, r5, f1, f2⟩ => ?_)
  refine Wp_mono f29_w (fun h6 ⟨a6, r6, g1, g2, g3, g4, g5⟩ => ?_)
  have x6 : ∀ c, c < 44 ∨ 61 ≤ c → hI h6 c = hI h c := fun c hc => by
    rw [a6 _ (by omega) (by omega) (by omega) (by omega), a5 _ (by omega) (by omega), a4 _ (by omega) (by omega), a3 _ (by omega) (by omega) (by omega) (by omega), a2 _ (by omega), a1 _ (by omega) (by omega) (by omega)]
  have y14 : hI h6 58 = hI h1 58 := by rw [a6 _ (by omega) (by omega) (by omega) (by omega), a5 _ (by omega) (by omega), a4 _ (by omega) (by omega), a3 _ (by omega) (by omega) (by omega) (by omega), a2 _ (by omega)]
  have y15 : hI h6 59 = hI h1 59 := by rw [a6 _ (by omega) (by omega) (by omega) (by omega), a5 _ (by omega) (by omega), a4 _ (by omega) (by omega), a3 _ (by omega) (by omega) (by omega) (by omega), a2 _ (by omega)]
  have y16 : hI h6 60 = hI h1 60 := by rw [a6 _ (by omega) (by omega) (by omega) (by omega), a5 _ (by omega) (by omega), a4 _ (by omega) (by omega), a3 _ (by omega) (by omega) (by omega) (by omega), a2 _ (by omega)]
  have y1 : hI h6 45 = hI h2 45 := by rw [a6 _ (by omega) (by omega) (by omega) (by omega), a5 _ (by omega) (by omega), a4 _ (by omega) (by omega), a3 _ (by omega) (by omega) (by omega) (by omega)]
  have y2 : ∀ c, 46 ≤ c → c ≤ 49 → hI h6 c = hI h3 c := fun c h1 h2 => by rw [a6 _ (by omega) (by omega) (by omega) (by omega), a5 _ (by omega) (by omega), a4 _ (by omega) (by omega)]
  have y6 : ∀ c, 50 ≤ c → c ≤ 51 → hI h6 c = hI h4 c := fun c h1 h2 => by rw [a6 _ (by omega) (by omega) (by omega) (by omega), a5 _ (by omega) (by omega)]
  have y8 : ∀ c, 52 ≤ c → c ≤ 53 → hI h6 c = hI h5 c := fun c h1 h2 => by rw [a6 _ (by omega) (by omega) (by omega) (by omega)]
  have s1 : ∀ c, 27 ≤ c → c < 44 → hI h1 c = hI h c := fun c h1 h2 => by rw [a1 _ (by omega) (by omega) (by omega)]
  have s2 : ∀ c, 27 ≤ c → c < 44 → hI h2 c = hI h c := fun c h1 h2 => by rw [a2 _ (by omega), s1 c h1 h2]
  have s3 : ∀ c, 27 ≤ c → c < 44 → hI h3 c = hI h c := fun c h1 h2 => by rw [a3 _ (by omega) (by omega) (by omega) (by omega), s2 c h1 h2]
  have s4 : ∀ c, 27 ≤ c → c < 44 → hI h4 c = hI h c := fun c h1 h2 => by rw [a4 _ (by omega) (by omega), s3 c h1 h2]
  have s5 : ∀ c, 27 ≤ c → c < 44 → hI h5 c = hI h c := fun c h1 h2 => by rw [a5 _ (by omega) (by omega), s4 c h1 h2]
  have s6 : ∀ c, 27 ≤ c → c < 44 → hI h6 c = hI h c := fun c h1 h2 => by rw [a6 _ (by omega) (by omega) (by omega) (by omega), s5 c h1 h2]
  refine ⟨fun c hc => by rw [hI_uI_ne (by omega), hI_uI_ne (by omega), x6 c hc], ?_, ?_, ?_⟩
  · rw [hR_uI, hR_uI, r6, r5, r4, r3, r2, r1]
  · rw [hI_uI_ne (by omega), hI_uI_ne (by omega), y14, b1 _ (by omega) (by omega)]
  · have fr : ∀ c, c ≠ 44 → hI (uI (uI h6 44 6 (hI h6 27 6)) 44 7 (hI (uI h6 44 6 (hI h6 27 6)) 27 7)) c = hI h6 c := fun c hc => by rw [hI_uI_ne hc, hI_uI_ne hc]
    refine Sc_e sc ?_ ?_ (fun j hj => ?_) ?_ ?_ (fun j hj => ?_) (fun j hj => ?_) (fun j hj => ?_) ?_ (fun j hj => ?_) ?_ (fun j hj => ?_) ?_ ?_ (fun j hj => ?_) (fun j hj => ?_) (fun j hj => ?_) ?_ ?_ (fun j hj => ?_) (fun j hj => ?_) ha
    · show hI _ 44 6 = hI h 27 6
      rw [hI_uI_eq, pu_ne (by omega), hI_uI_eq, pu_eq, s6 _ (by omega) (by omega)]
    · show hI _ 44 7 = hI h 27 7
      rw [hI_uI_eq, pu_eq, hI_uI_ne (by omega), s6 _ (by omega) (by omega)]
    · show hI _ 45 j = hI h 28 j
      rw [fr _ (by omega), y1, c1 j hj, s1 _ (by omega) (by omega)]
    · show hI _ 46 3 = hI h 29 3
      rw [fr _ (by omega), y2 _ (by omega) (by omega), d1, s2 _ (by omega) (by omega)]
    · show hI _ 46 4 = hI h 29 4
      rw [fr _ (by omega), y2 _ (by omega) (by omega), d2, s2 _ (by omega) (by omega)]
    · show hI _ 47 j = hI h 30 j
      rw [fr _ (by omega), y2 _ (by omega) (by omega), d3 j hj, s2 _ (by omega) (by omega)]
    · show hI _ 48 j = hI h 31 j
      rw [fr _ (by omega), y2 _ (by omega) (by omega), d4 j hj, s2 _ (by omega) (by omega)]
    · show hI _ 49 j = hI h 32 j
      rw [fr _ (by omega), y2 _ (by omega) (by omega), d5 j hj, s2 _ (by omega) (by omega)]
    · show hI _ 50 1 = hI h 33 1
      rw [fr _ (by omega), y6 _ (by omega) (by omega), e1, s3 _ (by omega) (by omega)]
    · show hI _ 51 j = hI h 34 j
      rw [fr _ (by omega), y6 _ (by omega) (by omega), e2 j hj, s3 _ (by omega) (by omega)]
    · show hI _ 52 1 = hI h 35 1
      rw [fr _ (by omega), y8 _ (by omega) (by omega), f1, s4 _ (by omega) (by omega)]
    · show hI _ 53 j = hI h 36 j
      rw [fr _ (by omega), y8 _ (by omega) (by omega), f2 j hj, s4 _ (by omega) (by omega)]
    · show hI _ 54 3 = hI h 37 3
      rw [fr _ (by omega), g1, s5 _ (by omega) (by omega)]
    · show hI _ 54 4 = hI h 37 4
      rw [fr _ (by omega), g2, s5 _ (by omega) (by omega)]
    · show hI _ 55 j = hI h 38 j
      rw [fr _ (by omega), g3 j hj, s5 _ (by omega) (by omega)]
    · show hI _ 56 j = hI h 39 j
      rw [fr _ (by omega), g4 j hj, s5 _ (by omega) (by omega)]
    · show hI _ 57 j = hI h 40 j
      rw [fr _ (by omega), g5 j hj, s5 _ (by omega) (by omega)]
    · show hI _ 58 3 = hI h 41 3
      rw [fr _ (by omega), y14, b2]
    · show hI _ 58 4 = hI h 41 4
      rw [fr _ (by omega), y14, b3]
    · show hI _ 59 j = hI h 42 j
      rw [fr _ (by omega), y15, b4 j hj]
    · show hI _ 60 j = hI h 43 j
      rw [fr _ (by omega), y16, b5 j hj]
theorem f58_41_58_w {h : Hp} : Wp (f58_41_58 N h) fun h' => (∀ c, c ≠ 41 → c ≠ 42 → c ≠ 43 → hI h' c = hI h c) ∧ hR h' = hR h ∧ (∀ j, j ≠ 3 → j ≠ 4 → hI h' 41 j = hI h 41 j) ∧ hI h' 41 3 = hI h 58 3 ∧ hI h' 41 4 = hI h 58 4 ∧ (∀ j, j < 36 → hI h' 42 j = hI h 59 j) ∧ (∀ j, j < 8 → hI h' 43 j = hI h 60 j) := by
  unfold f58_41_58
  simp only [Wp_bnd, Wp_some]
  refine ⟨fun c h1 h2 h3 => ?_, rfl, fun j h1 h2 => ?_, ?_, ?_, fun j hj => ?_, fun j hj => ?_⟩
  · rw [hI_uI_ne h1, hI_uI_ne h1, hI_uA_ne h3, hI_uA_ne h2]
  · rw [hI_uI_eq, pu_ne h2, hI_uI_eq, pu_ne h1, hI_uA_ne (by omega), hI_uA_ne (by omega)]
  · rw [hI_uI_eq, pu_ne (by omega), hI_uI_eq, pu_eq, hI_uA_ne (by omega), hI_uA_ne (by omega)]
  · rw [hI_uI_eq, pu_eq, hI_uI_ne (by omega), hI_uA_ne (by omega), hI_uA_ne (by omega)]
  · rw [hI_uI_ne (by omega), hI_uI_ne (by omega), hI_uA_ne (by omega), hI_uA_eq]; exact sb_cpy0 hj
  · rw [hI_uI_ne (by omega), hI_uI_ne (by omega), hI_uA_eq, hI_uA_ne (by omega)]; exact sb_cpy0 hj
theorem f85_28_45_w {h : Hp} (hb : hI h 45 6 = 0 ∨ hI h 45 6 = 1) : Wp (f85_28_45 N h) fun h' => (∀ c, c ≠ 28 → hI h' c = hI h c) ∧ hR h' = hR h ∧ (∀ j, j < 7 → hI h' 28 j = hI h 45 j) := by
  unfold f85_28_45
  simp only [Wp_bnd, Wp_some, Wp_gd]
  refine ⟨?_, fun c h1 => ?_, rfl, fun j hj => ?_⟩
  · rw [hI_uI_ne (by omega), hI_uI_ne (by omega), hI_uI_ne (by omega), hI_uI_ne (by omega), hI_uI_ne (by omega), hI_uI_ne (by omega)]; exact hb
  · rw [hI_uI_ne h1, hI_uI_ne h1, hI_uI_ne h1, hI_uI_ne h1, hI_uI_ne h1, hI_uI_ne h1, hI_uI_ne h1]
  · have e : j = 0 ∨ j = 1 ∨ j = 2 ∨ j = 3 ∨ j = 4 ∨ j = 5 ∨ j = 6 := by omega
    rcases e with rfl | rfl | rfl | rfl | rfl | rfl | rfl <;> simp [hI_uI_eq, hI_uI_ne, pu_eq, pu_ne]
theorem f89_29_46_w {h : Hp} : Wp (f89_29_46 N h) fun h' => (∀ c, c ≠ 29 → c ≠ 30 → c ≠ 31 → c ≠ 32 → hI h' c = hI h c) ∧ hR h' = hR h ∧ hI h' 29 3 = hI h 46 3 ∧ hI h' 29 4 = hI h 46 4 ∧ (∀ j, j < 30 → hI h' 30 j = hI h 47 j) ∧ (∀ j, j < 30 → hI h' 31 j = hI h 48 j) ∧ (∀ j, j < 30 → hI h' 32 j = hI h 49 j) := by
  unfold f89_29_46
  simp only [Wp_bnd, Wp_some]
  refine ⟨fun c h1 h2 h3 h4 => ?_, rfl, ?_, ?_, fun j hj => ?_, fun j hj => ?_, fun j hj => ?_⟩
  · rw [hI_uI_ne h1, hI_uI_ne h1, hI_uA_ne h4, hI_uA_ne h3, hI_uA_ne h2]
  · rw [hI_uI_eq, pu_ne (by omega), hI_uI_eq, pu_eq, hI_uA_ne (by omega), hI_uA_ne (by omega), hI_uA_ne (by omega)]
  · rw [hI_uI_eq, pu_eq, hI_uI_ne (by omega), hI_uA_ne (by omega), hI_uA_ne (by omega), hI_uA_ne (by omega)]
  · rw [hI_uI_ne (by omega), hI_uI_ne (by omega), hI_uA_ne (by omega), hI_uA_ne (by omega), hI_uA_eq]; exact sb_cpy0 hj
  · rw [hI_uI_ne (by omega), hI_uI_ne (by omega), hI_uA_ne (by omega), hI_uA_eq, hI_uA_ne (by omega)]; exact sb_cpy0 hj
  · rw [hI_uI_ne (by omega), hI_uI_ne (by omega), hI_uA_eq, hI_uA_ne (by omega), hI_uA_ne (by omega)]; exact sb_cpy0 hj
theorem f54_33_50_w {h : Hp} : Wp (f54_33_50 N h) fun h' => (∀ c, c ≠ 33 → c ≠ 34 → hI h' c = hI h c) ∧ hR h' = hR h ∧ hI h' 33 1 = hI h 50 1 ∧ (∀ j, j < 24 → hI h' 34 j = hI h 51 j) := by
  unfold f54_33_50
  simp only [Wp_bnd, Wp_some, Wp_gd]
  refine ⟨by decide, fun c h1 h2 => ?_, rfl, ?_, fun j hj => ?_⟩
  · rw [hI_uI_ne h1, hI_uA_ne h2]
  · rw [hI_uI_eq, pu_eq, hI_uA_ne (by omega)]
  · rw [hI_uI_ne (by omega), hI_uA_eq]; exact sb_cpy0 hj
theorem f54_35_52_w {h : Hp} : Wp (f54_35_52 N h) fun h' => (∀ c, c ≠ 35 → c ≠ 36 → hI h' c = hI h c) ∧ hR h' = hR h ∧ hI h' 35 1 = hI h 52 1 ∧ (∀ j, j < 12 → hI h' 36 j = hI h 53 j) := by
  unfold f54_35_52
  simp only [Wp_bnd, Wp_some, Wp_gd]
  refine ⟨by decide, fun c h1 h2 => ?_, rfl, ?_, fun j hj => ?_⟩
  · rw [hI_uI_ne h1, hI_uA_ne h2]
  · rw [hI_uI_eq, pu_eq, hI_uA_ne (by omega)]
  · rw [hI_uI_ne (by omega), hI_uA_eq]; exact sb_cpy0 hj
theorem f29_37_54_w {h : Hp} : Wp (f29_37_54 N h) fun h' => (∀ c, c ≠ 37 → c ≠ 38 → c ≠ 39 → c ≠ 40 → hI h' c = hI h c) ∧ hR h' = hR h ∧ hI h' 37 3 = hI h 54 3 ∧ hI h' 37 4 = hI h 54 4 ∧ (∀ j, j < 60 → hI h' 38 j = hI h 55 j) ∧ (∀ j, j < 60 → hI h' 39 j = hI h 56 j) ∧ (∀ j, j < 60 → hI h' 40 j = hI h 57 j) := by
  unfold f29_37_54
  simp only [Wp_bnd, Wp_some]
  refine ⟨fun c h1 h2 h3 h4 => ?_, rfl, ?_, ?_, fun j hj => ?_, fun j hj => ?_, fun j hj => ?_⟩
  · rw [hI_uI_ne h1, hI_uI_ne h1, hI_uA_ne h4, hI_uA_ne h3, hI_uA_ne h2]
  · rw [hI_uI_eq, pu_ne (by omega), hI_uI_eq, pu_eq, hI_uA_ne (by omega), hI_uA_ne (by omega), hI_uA_ne (by omega)]
  · rw [hI_uI_eq, pu_eq, hI_uI_ne (by omega), hI_uA_ne (by omega), hI_uA_ne (by omega), hI_uA_ne (by omega)]
  · rw [hI_uI_ne (by omega), hI_uI_ne (by omega), hI_uA_ne (by omega), hI_uA_ne (by omega), hI_uA_eq]; exact sb_cpy0 hj
  · rw [hI_uI_ne (by omega), hI_uI_ne (by omega), hI_uA_ne (by omega), hI_uA_eq, hI_uA_ne (by omega)]; exact sb_cpy0 hj
  · rw [hI_uI_ne (by omega), hI_uI_ne (by omega), hI_uA_eq, hI_uA_ne (by omega), hI_uA_ne (by omega)]; exact sb_cpy0 hj
theorem f56_27_44_w {h : Hp} {a a' : Nat → Int32} (sc : Sc n L (fun k => hI h (44 + k)) a) (ha : ∀ j, j < 500 → a' j = a j) : Wp (f56_27_44 N h) fun h' => (∀ c, c < 27 ∨ 44 ≤ c → hI h' c = hI h c) ∧ hR h' = hR h ∧ hI h' 41 0 = hI h 41 0 ∧ Sc n L (fun k => hI h' (27 + k)) a' := by
  have hb : hI h 45 6 = 0 ∨ hI h 45 6 = 1 := by
    have e1 : hI h 45 6 = a 14 := sc.2.1.2.2.2.2.2.2
    have e2 : a 14 = 0 ∨ a 14 = 1 := sc.2.2.2.2.2.2.2.2.1.2.2.2.2.2.2.2.2.1
    rw [e1]; exact e2
  unfold f56_27_44
  simp only [Wp_bnd, Wp_bind, Wp_some]
  refine Wp_mono f58_41_58_w (fun h1 ⟨a1, r1, b1, b2, b3, b4, b5⟩ => ?_)
  refine Wp_mono (f85_28_45_w (by rw [a1 _ (by omega) (by omega) (by omega)]; exact hb)) (fun h2 ⟨a2, r2, c1⟩ => ?_)
  refine Wp_mono f89_29_46_w (fun h3 ⟨a3, r3, d1, d2, d3, d4, d5⟩ => ?_)
  refine Wp_mono f54_33_50_w (fun h4 ⟨a4, r4, e1, e2⟩ => ?_)
  refine Wp_mono f54_35_52_w (fun h5 ⟨a5, r5, f1, f2⟩ => ?_)
  refine Wp_mono f29_37_54_w (fun h6 ⟨a6, r6, g1, g2, g3, g4, g5⟩ => ?_)
  have x6 : ∀ c, c < 27 ∨ 44 ≤ c → hI h6 c = hI h c := fun c hc => by
    rw [a6 _ (by omega) (by omega) (by omega) (by omega), a5 _ (by omega) (by omega), a4 _ (by omega) (by omega), a3 _ (by omega) (by omega) (by omega) (by omega), a2 _ (by omega), a1 _ (by omega) (by omega) (by omega)]
  have y14 : hI h6 41 = hI h1 41 := by rw [a6 _ (by omega) (by omega) (by omega) (by omega), a5 _ (by omega) (by omega), a4 _ (by omega) (by omega), a3 _ (by omega) (by omega) (by omega) (by omega), a2 _ (by omega)]
  have y15 : hI h6 42 = hI h1 42 := by rw [a6 _ (by omega) (by omega) (by omega) (by omega), a5 _ (by omega) (by omega), a4 _ (by omega) (by omega), a3 _ (by omega) (by omega) (by omega) (by omega), a2 _ (by omega)]
  have y16 : hI h6 43 = hI h1 43 := by rw [a6 _ (by omega) (by omega) (by omega) (by omega), a5 _ (by omega) (by omega), a4 _ (by omega) (by omega), a3 _ (by omega) (by omega) (by omega) (by omega), a2 _ (by omega)]
  have y1 : hI h6 28 = hI h2 28 := by rw [a6 _ (by omega) (by omega) (by omega) (by omega), a5 _ (by omega) (by omega), a4 _ (by omega) (by omega), a3 _ (by omega) (by omega) (by omega) (by omega)]
  have y2 : ∀ c, 29 ≤ c → c ≤ 32 → hI h6 c = hI h3 c := fun c h1 h2 => by rw [a6 _ (by omega) (by omega) (by omega) (by omega), a5 _ (by omega) (by omega), a4 _ (by omega) (by omega)]
  have y6 : ∀ c, 33 ≤ c → c ≤ 34 → hI h6 c = hI h4 c := fun c h1 h2 => by rw [a6 _ (by omega) (by omega) (by omega) (by omega), a5 _ (by omega) (by omega)]
  have y8 : ∀ c, 35 ≤ c → c ≤ 36 → hI h6 c = hI h5 c := fun c h1 h2 => by rw [a6 _ (by omega) (by omega) (by omega) (by omega)]
  have s1 : ∀ c, 44 ≤ c → c < 61 → hI h1 c = hI h c := fun c h1 h2 => by rw [a1 _ (by omega) (by omega) (by omega)]
  have s2 : ∀ c, 44 ≤ c → c < 61 → hI h2 c = hI h c := fun c h1 h2 => by rw [a2 _ (by omega), s1 c h1 h2]
  have s3 : ∀ c, 44 ≤ c → c < 61 → hI h3 c = hI h c := fun c h1 h2 => by rw [a3 _ (by omega) (by omega) (by omega) (by omega), s2 c h1 h2]
  have s4 : ∀ c, 44 ≤ c → c < 61 → hI h4 c = hI h c := fun c h1 h2 => by rw [a4 _ (by omega) (by omega), s3 c h1 h2]
  have s5 : ∀ c, 44 ≤ c → c < 61 → hI h5 c = hI h c := fun c h1 h2 => by rw [a5 _ (by omega) (by omega), s4 c h1 h2]
  have s6 : ∀ c, 44 ≤ c → c < 61 → hI h6 c = hI h c := fun c h1 h2 => by rw [a6 _ (by omega) (by omega) (by omega) (by omega), s5 c h1 h2]
  refine ⟨fun c hc => by rw [hI_uI_ne (by omega), hI_uI_ne (by omega), x6 c hc], ?_, ?_, ?_⟩
  · rw [hR_uI, hR_uI, r6, r5, r4, r3, r2, r1]
  · rw [hI_uI_ne (by omega), hI_uI_ne (by omega), y14, b1 _ (by omega) (by omega)]
  · have fr : ∀ c, c ≠ 27 → hI (uI (uI h6 27 6 (hI h6 44 6)) 27 7 (hI (uI h6 27 6 (hI h6 44 6)) 44 7)) c = hI h6 c := fun c hc => by rw [hI_uI_ne hc, hI_uI_ne hc]
    refine Sc_e sc ?_ ?_ (fun j hj => ?_) ?_ ?_ (fun j hj => ?_) (fun j hj => ?_) (fun j hj => ?_) ?_ (fun j hj => ?_) ?_ (fun j hj => ?_) ?_ ?_ (fun j hj => ?_) (fun j hj => ?_) (fun j hj => ?_) ?_ ?_ (fun j hj => ?_) (fun j hj => ?_) ha
    · show hI _ 27 6 = hI h 44 6
      rw [hI_uI_eq, pu_ne (by omega), hI_uI_eq, pu_eq, s6 _ (by omega) (by omega)]
    · show hI _ 27 7 = hI h 44 7
      rw [hI_uI_eq, pu_eq, hI_uI_ne (by omega), s6 _ (by omega) (by omega)]
    · show hI _ 28 j = hI h 45 j
      rw [fr _ (by omega), y1, c1 j hj, s1 _ (by omega) (by omega)]
    · show hI _ 29 3 = hI h 46 3
      rw [fr _ (by omega), y2 _ (by omega) (by omega), d1, s2 _ (by omega) (by omega)]
    · show hI _ 29 4 = hI h 46 4
      rw [fr _ (by omega), y2 _ (by omega) (by omega), d2, s2 _ (by omega) (by omega)]
    · show hI _ 30 j = hI h 47 j
      rw [fr _ (by omega), y2 _ (by omega) (by omega), d3 j hj, s2 _ (by omega) (by omega)]
    · show hI _ 31 j = hI h 48 j
      rw [fr _ (by omega), y2 _ (by omega) (by omega), d4 j hj, s2 _ (by omega) (by omega)]
    · show hI _ 32 j = hI h 49 j
      rw [fr _ (by omega), y2 _ (by omega) (by omega), d5 j hj, s2 _ (by omega) (by omega)]
    · show hI _ 33 1 = hI h 50 1
      rw [fr _ (by omega), y6 _ (by omega) (by omega), e1, s3 _ (by omega) (by omega)]
    · show hI _ 34 j = hI h 51 j
      rw [fr _ (by omega), y6 _ (by omega) (by omega), e2 j hj, s3 _ (by omega) (by omega)]
    · show hI _ 35 1 = hI h 52 1
      rw [fr _ (by omega), y8 _ (by omega) (by omega), f1, s4 _ (by omega) (by omega)]
    · show hI _ 36 j = hI h 53 j
      rw [fr _ (by omega), y8 _ (by omega) (by omega), f2 j hj, s4 _ (by omega) (by omega)]
    · show hI _ 37 3 = hI h 54 3
      rw [fr _ (by omega), g1, s5 _ (by omega) (by omega)]
    · show hI _ 37 4 = hI h 54 4
      rw [fr _ (by omega), g2, s5 _ (by omega) (by omega)]
    · show hI _ 38 j = hI h 55 j
      rw [fr _ (by omega), g3 j hj, s5 _ (by omega) (by omega)]
    · show hI _ 39 j = hI h 56 j
      rw [fr _ (by omega), g4 j hj, s5 _ (by omega) (by omega)]
    · show hI _ 40 j = hI h 57 j
      rw [fr _ (by omega), g5 j hj, s5 _ (by omega) (by omega)]
    · show hI _ 41 3 = hI h 58 3
      rw [fr _ (by omega), y14, b2]
    · show hI _ 41 4 = hI h 58 4
      rw [fr _ (by omega), y14, b3]
    · show hI _ 42 j = hI h 59 j
      rw [fr _ (by omega), y15, b4 j hj]
    · show hI _ 43 j = hI h 60 j
      rw [fr _ (by omega), y16, b5 j hj]
theorem f138_w {h : Hp} (hN : 600 ≤ N) : Wp (f138 N h) fun h' => (∀ c, c ≠ 2 → hI h' c = hI h c) ∧ ∀ j, j < 500 → hI h' 2 j = hI h 1 j := by
  have t500 : (500 : Int32).toInt = 500 := rfl
  unfold f138
  rw [Wp_bind]
  refine Wp_lp (fun m s => ∃ i : Nat, s.1 = nI i ∧ i + m = 500 ∧ (∀ c, c ≠ 2 → hI s.2 c = hI h c) ∧ ∀ j, j < i → hI s.2 2 j = hI h 1 j) ?_ N 500 _ (by omega) ⟨0, rfl, rfl, fun c _ => rfl, fun j hj => absurd hj (Nat.not_lt_zero j)⟩
  rintro m ⟨s1, g⟩ ⟨i, hs, hi, hf, hg⟩
  dsimp only at hs hf hg ⊢
  subst hs
  have ti : (nI i).toInt = (i : Int) := ti_nI (by omega)
  unfold f138_l2
  dsimp only
  by_cases c : i = 500
  · refine Wp_pos (by rw [ti_le, ti, t500]; omega) ?_
    rw [Wp_some]
    refine Or.inr ⟨0, rfl, ?_⟩
    rw [Wp_some]
    exact ⟨hf, fun j hj => hg j (by omega)⟩
  · refine Wp_neg (by rw [ti_le, ti, t500]; omega) ?_
    simp only [Wp_gd, Wp_bnd, Wp_some]
    refine ⟨inb_mk (by omega) (by omega), inb_mk (by omega) (by omega), Or.inl ⟨trivial, m - 1, by omega, i + 1, ?_, by omega, fun c hc => by rw [hI_uI_ne hc, hf c hc], fun j hj => ?_⟩⟩
    · exact (nI_succ i).symm
    · have ei : ix (nI i) = i := nI_clamp (by omega)
      rw [hI_uI_eq, ei]
      by_cases e : j = i
      · rw [e, pu_eq, hf _ (by omega)]
      · rw [pu_ne e]; exact hg j (by omega)
theorem f138_2_1_w {h : Hp} (hN : 600 ≤ N) : Wp (f138_2_1 N h) fun h' => (∀ c, c ≠ 1 → hI h' c = hI h c) ∧ ∀ j, j < 500 → hI h' 1 j = hI h 2 j := by
  have t500 : (500 : Int32).toInt = 500 := rfl
  unfold f138_2_1
  rw [Wp_bind]
  refine Wp_lp (fun m s => ∃ i : Nat, s.1 = nI i ∧ i + m = 500 ∧ (∀ c, c ≠ 1 → hI s.2 c = hI h c) ∧ ∀ j, j < i → hI s.2 1 j = hI h 2 j) ?_ N 500 _ (by omega) ⟨0, rfl, rfl, fun c _ => rfl, fun j hj => absurd hj (Nat.not_lt_zero j)⟩
  rintro m ⟨s1, g⟩ ⟨i, hs, hi, hf, hg⟩
  dsimp only at hs hf hg ⊢
  subst hs
  have ti : (nI i).toInt = (i : Int) := ti_nI (by omega)
  unfold f138_2_1_l2
  dsimp only
  by_cases c : i = 500
  · refine Wp_pos (by rw [ti_le, ti, t500]; omega) ?_
    rw [Wp_some]
    refine Or.inr ⟨0, rfl, ?_⟩
    rw [Wp_some]
    exact ⟨hf, fun j hj => hg j (by omega)⟩
  · refine Wp_neg (by rw [ti_le, ti, t500]; omega) ?_
    simp only [Wp_gd, Wp_bnd, Wp_some]
    refine ⟨inb_mk (by omega) (by omega), inb_mk (by omega) (by omega), Or.inl ⟨trivial, m - 1, by omega, i + 1, ?_, by omega, fun c hc => by rw [hI_uI_ne hc, hf c hc], fun j hj => ?_⟩⟩
    · exact (nI_succ i).symm
    · have ei : ix (nI i) = i := nI_clamp (by omega)
      rw [hI_uI_eq, ei]
      by_cases e : j = i
      · rw [e, pu_eq, hf _ (by omega)]
      · rw [pu_ne e]; exact hg j (by omega)
theorem op_image (r : Rl n L T hx hm) (hN : 600 ≤ N) : Wp (f116 N hx) fun x => Wp (f226 N hm) fun y => x.1 = y.1 ∧ Rl n L T x.2 y.2 := by
  have i16 : ix (16 : Int32) = 16 := rfl
  unfold f116 f226
  simp only [Wp_bind, Wp_some]
  have hlp : hI hx 28 5 = hI hm 1 16 := r.sc.2.1.2.2.2.2.2.1
  have k : Wp (f138 N hm) _ := f138_w hN
  obtain ⟨g, eg, hf, hg⟩ := k
  refine Wp_mono (f56_w r.sc hg) (fun h1 ⟨a1, r1, b1, s1⟩ => ?_)
  rw [eg, Wp_some]
  refine ⟨?_, r.1, ?_, ?_, ?_, s1, ?_, ?_, ?_, ?_, ?_, ?_⟩
  · rw [a1 _ (by omega), hf _ (by omega), i16]; exact hlp
  · rw [a1 _ (by omega)]; exact r.pX
  · rw [hf _ (by omega)]; exact r.pM
  · exact Sc_c r.sc (fun k hk => a1 _ (by omega)) (fun j hj => by rw [hf _ (by omega)])
  · exact Tp_c r.tp (a1 _ (by omega)) (a1 _ (by omega)) (by rw [hf _ (by omega)]) (hf _ (by omega))
  · exact Fl_c r.fl (a1 _ (by omega)) (by rw [hf _ (by omega)]) (by rw [hf _ (by omega)])
  · obtain ⟨t1, t2, t3⟩ := r.tx
    have nt : tn (hI hm 1 2) ≤ 4 := tn_le r.sc.2.2.2.2.2.2.2.2.2.1.2.1
    refine ⟨fun i hi => ?_, ?_, ?_⟩
    · rw [hf _ (by omega)] at hi
      rw [hf _ (by omega)]
      exact ⟨TxX_c (t1 i hi).1 (a1 _ (by omega)) (a1 _ (by omega)) (a1 _ (by omega)) (a1 _ (by omega)), (t1 i hi).2⟩
    · rw [a1 _ (by omega)]; exact t2
    · rw [hg 2 (by omega), hf _ (by omega)]; exact Int.le_refl _
  · exact Lw_c r.lw (by rw [r1]) (by rw [hf _ (by omega)])
  · rw [hf _ (by omega)]
    exact Ch_c r.ch (a1 _ (by omega)) (a1 _ (by omega)) (a1 _ (by omega)) (a1 _ (by omega)) (a1 _ (by omega)) (by rw [r1]) (fun j h => rfl)
  · rw [hf _ (by omega)]
    exact Tb_c r.tb (by rw [hf _ (by omega)]) (hf _ (by omega)) (fun j h => by rw [hf _ (by omega)])
theorem op_back (r : Rl n L T hx hm) (wf : WF 0 hx) (hN : 600 ≤ N) : Wp (f117 N hx) fun x => Wp (f227 N hm) fun y => x.1 = y.1 ∧ Rl n L T x.2 y.2 := by
  have i16 : ix (16 : Int32) = 16 := rfl
  have hlp : hI hx 45 5 = hI hm 2 16 := r.scI.2.1.2.2.2.2.2.1
  obtain ⟨n1, n2, n3, n4⟩ := r.scI.2.2.2.2.2.2.2.2.2.1
  have k : Wp (f138_2_1 N hm) _ := f138_2_1_w hN
  obtain ⟨g, eg, hf, hg⟩ := k
  obtain ⟨h1, e1, a1, r1, b1, s1⟩ := f56_27_44_w (N := N) r.scI hg
  have q7 : hI h1 27 7 = hI hm 2 3 := by
    have : hI h1 27 7 = hI g 1 3 := s1.2.2.1.2
    rw [this, hg 3 (by omega)]
  have q5 : hI h1 28 5 = hI hm 2 16 := by
    have : hI h1 28 5 = hI g 1 16 := s1.2.1.2.2.2.2.2.1
    rw [this, hg 16 (by omega)]
  have wf1 : RF h1 := fun c j q hq => by rw [r1]; exact wf.2 c j q hq
  have d4 := follow (N := N) (h := h1) wf1 (by rw [q7]; exact n3) (by rw [q7]; omega)
  have nt : tn (hI hm 1 2) ≤ 4 := tn_le r.sc.2.2.2.2.2.2.2.2.2.1.2.1
  simp only [f117, f227, e1, eg, d4, Option.bind_some, Wp_bnd, Wp_some, i16]
  generalize hv : (if hI h1 27 7 < 0 then 18 else 2 + 4 * tn (hI h1 27 7)) = v
  have xf : ∀ c, c ≠ 64 → hI (uI (uI (uI (uR h1 61 1 (some v)) 64 10 0) 64 11 0) 64 12 0) c = hI h1 c := fun c h2 => by
    rw [hI_uI_ne h2, hI_uI_ne h2, hI_uI_ne h2, hI_uR]
  have mf : ∀ c, c ≠ 0 → hI (uI g 0 27 0) c = hI g c := fun c h1 => by rw [hI_uI_ne h1]
  have m0 : ∀ j, j ≠ 27 → hI (uI g 0 27 0) 0 j = hI hm 0 j := fun j h => by rw [hI_uI_eq, pu_ne h, hf _ (by omega)]
  refine ⟨?_, r.1, ?_, ?_, ?_, ?_, ?_, ?_, ?_, ?_, ?_, ?_⟩
  · rw [xf _ (by omega), mf _ (by omega), hg 16 (by omega)]; exact q5
  · rw [xf _ (by omega), b1]; exact r.pX
  · rw [m0 _ (by omega)]; exact r.pM
  · exact Sc_c s1 (fun k hk => xf _ (by omega)) (fun j hj => by rw [mf _ (by omega)])
  · exact Sc_c r.scI (fun k hk => by rw [xf _ (by omega), a1 _ (by omega)]) (fun j hj => by rw [mf _ (by omega), hf _ (by omega)])
  · exact Tp_c r.tp (by rw [xf _ (by omega), a1 _ (by omega)]) (by rw [xf _ (by omega), a1 _ (by omega)]) (m0 _ (by omega)) (by rw [mf _ (by omega), hf _ (by omega)])
  · exact Fl_c r.fl (by rw [xf _ (by omega), a1 _ (by omega)]) (m0 _ (by omega)) (m0 _ (by omega))
  · obtain ⟨t1, t2, t3⟩ := r.tx
    refine ⟨fun i hi => ?_, ?_, ?_⟩
    · rw [mf _ (by omega), hg 2 (by omega)] at hi
      have hi' : i < tn (hI hm 1 2) := by unfold tn at hi ⊢; omega
      rw [mf _ (by omega), hf _ (by omega)]
      exact ⟨TxX_c (t1 i hi').1 (by rw [xf _ (by omega), a1 _ (by omega)]) (by rw [xf _ (by omega), a1 _ (by omega)]) (by rw [xf _ (by omega), a1 _ (by omega)]) (by rw [xf _ (by omega), a1 _ (by omega)]), (t1 i hi').2⟩
    · rw [xf _ (by omega), a1 _ (by omega)]; exact t2
    · rw [mf _ (by omega), mf _ (by omega), hg 2 (by omega), hf _ (by omega)]; exact Int.le_refl _
  · unfold Lw
    rw [hR_uI, hR_uI, hR_uI, hR_uR_eq, mf _ (by omega), hg 3 (by omega), ← hv, q7]
  · exact Ch_all r.ch (by rw [hR_uI, hR_uI, hR_uI, hR_uR_row (by omega), r1]) (by simp [hI_uI_eq, pu_ne, pu_eq]) (by simp [hI_uI_eq, pu_ne, pu_eq]) (by rw [hI_uI_eq, pu_eq])
  · exact Or.inl (by rw [hI_uI_eq, pu_eq])
end
