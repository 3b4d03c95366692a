/-! ===== the reference's constructor: its end ===== -/
theorem hI_eq2 {h : Hp} {c j : Nat} {v : Int32} : hI (uI h c j v) c j = v := by
  show up2 h.1 c j v c j = _
  unfold up2
  rw [if_pos ⟨rfl, rfl⟩]
theorem hI_ne2 {h : Hp} {c c' j j' : Nat} {v : Int32} (e : c' ≠ c ∨ j' ≠ j) : hI (uI h c j v) c' j' = hI h c' j' := by
  show up2 h.1 c j v c' j' = _
  unfold up2
  rw [if_neg (fun z => e.elim (fun e => e z.1) (fun e => e z.2))]; rfl
theorem ctM_e {d : Nat} {p : Int32} {H : Hp} {n : Int32} (hd : 12 ≤ d) (hW : WF 1 H) (k2 : hI H 0 2 = n) (k5 : hI H 0 5 = 0) (k6 : hI H 0 6 = -1) (k7 : hI H 0 7 = -1) (k27 : hI H 0 27 = 0) (ka : ∀ j, j < 500 → hI H 1 j = A0 j) (x : Int32) : R 1 d 137 120 [some (.ref 0), some (.int p), some (.int x)] [] H (fun r H => r = none ∧ NwM n H) := by
  refine R_aload_n (i := 120) rfl rfl ?_
  refine R_getF hW (i := 121) rfl rfl (by decide) rfl ?_
  refine R_aload_n (i := 122) rfl rfl ?_
  refine R_getF hW (i := 123) rfl rfl (by decide) rfl ?_
  obtain ⟨d', rfl⟩ : ∃ d', d = d' + 1 := ⟨d - 1, by omega⟩
  obtain ⟨H', eH, f1, f2⟩ := f138_w (N := 1000) (h := H) (by omega)
  refine R_call (vs := [.ref 1, .ref 2]) (st' := []) (i := 124) rfl (by decide) (by decide) rfl rfl (Nat.le_of_ble_eq_true rfl) rfl (f138_l eH hW (by omega) (fun hW1 => ?_))
  refine R_vret (i := 125) rfl ⟨rfl, hW1, ?_, ?_, ?_, ?_, ?_, fun j hj => ?_, fun j hj => ?_⟩
  · rw [f1 0 (by omega)]; exact k2
  · rw [f1 0 (by omega)]; exact k5
  · rw [f1 0 (by omega)]; exact k6
  · rw [f1 0 (by omega)]; exact k7
  · rw [f1 0 (by omega)]; exact k27
  · rw [f1 1 (by omega)]; exact ka j hj
  · rw [f2 j hj]; exact ka j hj
theorem ctM_b {d : Nat} {p n : Int32} (hd : 12 ≤ d) : R 1 d 137 76 [some (.ref 0), some (.int p), none] [.int n, .ref 0] hM64 (fun r H => r = none ∧ NwM n H) := by
  have hd5 : 5 ≤ d := by omega
  refine R_putI hM_wf (i := 76) rfl rfl (by decide) hd5 (fun H1 e1 => ?_)
  have w1 : WF 1 H1 := e1 ▸ hM_wf.uI
  refine R_aload_n (i := 77) rfl rfl ?_
  refine R_getF w1 (i := 78) rfl rfl (by decide) rfl ?_
  refine R_iconst (i := 79) rfl ?_
  refine R_iconst (i := 80) rfl ?_
  refine R_iastore w1 (i := 81) rfl rfl (by decide) hd5 (fun H2 e2 => ?_)
  have w2 : WF 1 H2 := e2 ▸ w1.uI
  refine R_aload_n (i := 82) rfl rfl ?_
  refine R_getF w2 (i := 83) rfl rfl (by decide) rfl ?_
  refine R_bipush (i := 84) rfl ?_
  refine R_iconst (i := 85) rfl ?_
  refine R_iastore w2 (i := 86) rfl rfl (by decide) hd5 (fun H3 e3 => ?_)
  have w3 : WF 1 H3 := e3 ▸ w2.uI
  refine R_aload_n (i := 87) rfl rfl ?_
  refine R_getF w3 (i := 88) rfl rfl (by decide) rfl ?_
  refine R_bipush (i := 89) rfl ?_
  refine R_iconst (i := 90) rfl ?_
  refine R_iastore w3 (i := 91) rfl rfl (by decide) hd5 (fun H4 e4 => ?_)
  have w4 : WF 1 H4 := e4 ▸ w3.uI
  have i0 : ∀ j, j ≠ 2 → hI H4 0 j = hI hM64 0 j := by
    intro j hj
    rw [e4, hI_ne2 (Or.inl (by omega)), e3, hI_ne2 (Or.inl (by omega)), e2, hI_ne2 (Or.inl (by omega)), e1, hI_ne2 (Or.inr hj)]
  have i2 : hI H4 0 2 = n := by
    rw [e4, hI_ne2 (Or.inl (by omega)), e3, hI_ne2 (Or.inl (by omega)), e2, hI_ne2 (Or.inl (by omega)), e1, hI_eq2]
  have i1 : ∀ j, hI H4 1 j = if j = 3 then -1 else if j = 13 ∨ j = 14 then 1 else 0 := by
    intro j
    have x3 : ix (3 : Int32) = 3 := rfl
    have x13 : ix (13 : Int32) = 13 := rfl
    have x14 : ix (14 : Int32) = 14 := rfl
    rw [x14] at e4
    rw [x13] at e3
    rw [x3] at e2
    by_cases c14 : j = 14
    · rw [c14, e4, hI_eq2]; rfl
    · rw [e4, hI_ne2 (Or.inr c14), e3]
      by_cases c13 : j = 13
      · rw [c13, hI_eq2]; rfl
      · rw [hI_ne2 (Or.inr c13), e2]
        by_cases c3 : j = 3
        · rw [c3, hI_eq2]; rfl
        · rw [hI_ne2 (Or.inr c3), e1, hI_ne2 (Or.inl (by omega)), hM_1, if_neg c3, if_neg (by omega)]
  refine R_iconst (i := 92) rfl ?_
  refine R_istore_n [some (.ref 0), some (.int p), some (.int (nI 0))] (i := 93) rfl rfl ?_
  refine ctM_A hd5 (H0 := H4) (fun H5 z5 => ?_) 8 0 H4 (by omega) ⟨w4, fun j => rfl, fun j => (if_neg (by omega)).symm⟩
  refine R_iconst (i := 106) rfl ?_
  refine R_istore_n [some (.ref 0), some (.int p), some (.int (nI 0))] (i := 107) rfl rfl ?_
  refine ctM_B hd5 (H0 := H5) (fun H6 z6 => ?_) 36 0 H5 (by omega) ⟨z5.1, fun j => rfl, fun j => (if_neg (by omega)).symm⟩
  refine ctM_e hd z6.1 ?_ ?_ ?_ ?_ ?_ (fun j hj => ?_) _
  · rw [z6.2.1, z5.2.1, i2]
  · rw [z6.2.1, z5.2.1, i0 5 (by omega)]; exact hM_0.1
  · rw [z6.2.1, z5.2.1, i0 6 (by omega)]; exact hM_0.2.1
  · rw [z6.2.1, z5.2.1, i0 7 (by omega)]; exact hM_0.2.2.1
  · rw [z6.2.1, z5.2.1, i0 27 (by omega)]; exact hM_0.2.2.2
  · rw [z6.2.2, z5.2.2, i1]
    unfold A0
    by_cases c1 : 30 ≤ j ∧ j < 30 + 36
    · rw [if_pos c1, if_neg (by omega), if_neg (by omega), if_neg (by omega), if_pos (by omega)]
    · rw [if_neg c1]
      by_cases c2 : 20 ≤ j ∧ j < 20 + 8
      · rw [if_pos c2, if_neg (by omega), if_neg (by omega), if_pos (by omega)]
      · rw [if_neg c2, if_neg (show ¬ (20 ≤ j ∧ j < 28) by omega), if_neg (show ¬ (30 ≤ j ∧ j < 66) by omega)]
theorem ctM {d : Nat} (p : Int32) (hd : 12 ≤ d) : R 1 d 137 0 [some (.ref 0), some (.int p), none] [] (hNew h00) (fun r H => r = none ∧ NwM (nI (clN p)) H) := by
  refine ctM_a (by omega) ?_
  refine R_aload_n (i := 64) rfl rfl ?_
  refine R_iload_n (i := 65) rfl rfl ?_
  refine R_iconst (i := 66) rfl ?_
  unfold clN
  refine R_icmpge (i := 67) rfl (fun c => ?_) (fun c => ?_)
  · have c' : ¬ p < 4 := by rw [ti_lt]; rw [ti_le] at c; omega
    rw [if_neg c']
    refine R_iload_n (i := 70) rfl rfl ?_
    refine R_bipush (i := 71) rfl ?_
    refine R_icmple (i := 72) rfl (fun e => ?_) (fun e => ?_)
    · have e' : ¬ (12 : Int32) < p := by rw [ti_lt]; rw [ti_le] at e; omega
      rw [if_neg e', show nI (tn p) = p from nI_tn (by rw [ti_le] at c; have t4 : (4 : Int32).toInt = 4 := rfl; omega)]
      refine R_iload_n (i := 75) rfl rfl ?_
      exact ctM_b hd
    · have e' : (12 : Int32) < p := by rw [ti_lt]; rw [ti_le] at e; omega
      rw [if_pos e']
      refine R_bipush (i := 73) rfl ?_
      refine R_goto (i := 74) rfl ?_
      exact ctM_b hd
  · have c' : p < 4 := by rw [ti_lt]; rw [ti_le] at c; omega
    rw [if_pos c']
    refine R_iconst (i := 68) rfl ?_
    refine R_goto (i := 69) rfl ?_
    exact ctM_b hd
