/-! ===== sail, as it is called ===== -/
section
variable {n L N : Nat} {T : Nat → Tc} {hx hm : Hp}
theorem op_sail (p1 : Int32) (hN : 1000 ≤ N) (hL : L + 24 < 1000000) (r : Rl n L T hx hm) (wf : WF 0 hx) : Wp (f103 N p1 hx) fun x => Wp (f204 N p1 hm) fun y => x.1 = y.1 ∧ Rl n (L + 24) T x.2 y.2 := by
  have t0 : (0 : Int32).toInt = 0 := rfl
  have t4 : ix (4 : Int32) = 4 := rfl
  have i14 : ix (14 : Int32) = 14 := rfl
  have i12 : ix (12 : Int32) = 12 := rfl
  have i10 : ix (10 : Int32) = 10 := rfl
  by_cases c : 0 ≤ p1.toInt ∧ p1.toInt ≤ 9999
  · have d1 : ¬ p1 < 0 := by rw [ti_lt]; omega
    have d2 : p1 ≤ 9999 := by rw [ti_le]; show _ ≤ (9999 : Int); omega
    have d3 : ¬ f139 p1 0 9999 = 0 := fun z => i139.1 z c
    obtain ⟨sd, rfl, hsd⟩ : ∃ s, p1 = nI s ∧ s < 10000 := ⟨tn p1, (nI_tn c.1).symm, by unfold tn; omega⟩
    have x0 : nI sd * 5 + 3 = nI (sd * 5 + 3) := by
      show nI sd * nI 5 + nI 3 = _
      rw [pk_mul, nI_add]
    obtain ⟨n0, n1, n2⟩ := r.sc.2.2.2.2.2.2.2.2.2.2.1
    have hC := nI_tn n0
    have hC24 : tn (hI hm 1 4) ≤ 24 := tn_le n1
    generalize tn (hI hm 1 4) = C at hC hC24
    obtain ⟨q, q', e1, e2, h1, h2⟩ := lp_two (b := f103_l17 N) (b' := f204_l15 N) (JS n L T C) (sail_step hN hL hC24) N C (nI (sd * 5 + 3), (0 : Int32), (0 : Int32), hx) (nI (sd * 5 + 3), (0 : Int32), hm) (by omega) ⟨0, sd * 5 + 3, by omega, by omega, rfl, rfl, rfl, rfl, rfl, r, wf.2, hC.symm⟩
    simp only [f103, f204, d1, d2, d3, x0, e1, e2, if_true, if_false, Wp_bnd, Option.bind_some, ite_self, Wp_some]
    by_cases k : q'.1 = 0
    · rw [if_pos k] at h1
      rw [if_pos k, Wp_some]; exact ⟨h1, h2⟩
    · rw [if_neg k] at h1
      rw [if_neg k, Wp_some]; exact ⟨h1, h2⟩
  · have d3 : f139 p1 0 9999 = 0 := i139.2 c
    have r' := r.mono (show L ≤ L + 24 by omega)
    by_cases d1 : p1 < 0
    · simp only [f103, f204, d1, d3, if_true, Wp_some, true_and]
      exact r'
    · have d2 : ¬ p1 ≤ 9999 := by rw [ti_lt] at d1; rw [ti_le]; show ¬ _ ≤ (9999 : Int); omega
      simp only [f103, f204, d1, d2, d3, if_true, if_false, Wp_some, true_and]
      exact r'
end
