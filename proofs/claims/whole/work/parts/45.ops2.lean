/-! ===== end, fault, ship, about, the sea ===== -/
section
variable {n L N : Nat} {T : Nat → Tc} {hx hm : Hp}
theorem op_end (p1 : Int32) (r : Rl n L T hx hm) : Wp (f96 N p1 hx) fun x => Wp (f155 N p1 hm) fun y => x.1 = y.1 ∧ Rl n L T x.2 y.2 := by
  obtain ⟨q1, q2, q3, q4⟩ := r.tp
  by_cases c : 0 ≤ p1.toInt ∧ p1.toInt ≤ (hI hm 0 5).toInt
  · have d1 : ¬ p1 < 0 := by rw [ti_lt]; have : (0 : Int32).toInt = 0 := rfl; omega
    have d2 : p1 ≤ hI hm 0 5 := by rw [ti_le]; exact c.2
    have d3 : ¬ f139 p1 0 (hI hm 0 5) = 0 := fun z => i139.1 z c
    simp only [f96, f155, q1, d1, d2, d3, if_true, if_false, Wp_bnd, Wp_some, true_and]
    refine ⟨r.1, (by rw [hI_uI_ne (by omega)]; exact r.pX), (by rw [hI_uI_eq, pu_ne (by omega)]; exact r.pM), Sc_c r.sc (fun k hk => hI_uI_ne (by omega)) (fun j hj => by rw [hI_uI_ne (by omega)]), Sc_c r.scI (fun k hk => hI_uI_ne (by omega)) (fun j hj => by rw [hI_uI_ne (by omega)]), ?_, Fl_c r.fl (hI_uI_ne (by omega)) (by rw [hI_uI_eq, pu_ne (by omega)]) (by rw [hI_uI_eq, pu_ne (by omega)]), Tx_c r.tx r.sc.2.2.2.2.2.2.2.2.2.1.2.1 (fun c h1 h2 => hI_uI_ne (by omega)) (by rw [hI_uI_ne (by omega)]) (hI_uI_ne (by omega)) (by rw [hI_uI_ne (by omega)]), Lw_c r.lw rfl (by rw [hI_uI_ne (by omega)]), ?_, ?_⟩
    · refine ⟨?_, ?_, ?_, fun j hj => ?_⟩
      · rw [hI_uI_eq, hI_uI_eq, pu_eq, pu_eq]
      · rw [hI_uI_eq, pu_eq]; exact c.1
      · rw [hI_uI_eq, pu_eq]; omega
      · rw [hI_uI_eq, pu_eq] at hj
        rw [hI_uI_ne (by omega), hI_uI_ne (by omega)]
        refine q4 j ?_
        unfold tn at hj ⊢
        omega
    · rw [hI_uI_ne (by omega)]
      exact Ch_c r.ch (hI_uI_ne (by omega)) (hI_uI_ne (by omega)) (hI_uI_ne (by omega)) (hI_uI_ne (by omega)) (hI_uI_ne (by omega)) rfl (fun j h => rfl)
    · rw [hI_uI_ne (by omega)]
      exact Tb_c r.tb (by rw [hI_uI_eq, pu_ne (by omega)]) (hI_uI_ne (by omega)) (fun j h => by rw [hI_uI_ne (by omega)])
  · have d3 : f139 p1 0 (hI hm 0 5) = 0 := i139.2 c
    by_cases d1 : p1 < 0
    · simp only [f96, f155, d1, d3, if_true, Wp_some, true_and]
      exact r
    · have d2 : ¬ p1 ≤ hI hm 0 5 := by rw [ti_lt] at d1; rw [ti_le]; have : (0 : Int32).toInt = 0 := rfl; omega
      simp only [f96, f155, q1, d1, d2, d3, if_true, if_false, Wp_some, true_and]
      exact r
theorem op_fault (p1 : Int32) (r : Rl n L T hx hm) : Wp (f98 N p1 hx) fun x => Wp (f183 N p1 hm) fun y => x = y := by
  by_cases c1 : p1 = 0
  · rcases r.fl with ⟨e1, e2, e3⟩ | ⟨e1, e2, e3⟩
    · simp only [f98, f183, c1, e1, e2, if_true, Wp_some]
    · have d : ¬ (1 : Int32) = 0 := by decide
      simp only [f98, f183, c1, e1, e2, d, if_true, if_false, Wp_some]
  · by_cases c2 : p1 = 1
    · have d : ¬ (1 : Int32) = 0 := by decide
      rcases r.fl with ⟨e1, e2, e3⟩ | ⟨e1, e2, e3⟩
      · simp only [f98, f183, c2, e1, e3, d, if_true, if_false, Wp_some]
      · simp only [f98, f183, c2, e1, e3, d, if_true, if_false, Wp_some]
    · have d : ¬ (1 : Int32) = 0 := by decide
      rcases r.fl with ⟨e1, e2, e3⟩ | ⟨e1, e2, e3⟩
      · simp only [f98, f183, c1, c2, e1, if_true, if_false, Wp_some]
      · simp only [f98, f183, c1, c2, e1, d, if_true, if_false, Wp_some]
theorem e143 (a b c d : Int32) : f135 a b c d = f143 a b c d := by
  unfold f135 f143
  rw [Int32.mul_comm a 12]
theorem op_ship (p1 : Int32) (r : Rl n L T hx hm) : Wp (f105 N p1 hx) fun x => Wp (f206 N p1 hm) fun y => x = y := by
  obtain ⟨q1, q2, q3, q4, q5, q6, q7⟩ := r.sc.2.1
  have q1 : hI hx 28 0 = hI hm 1 10 := q1
  have q2 : hI hx 28 1 = hI hm 1 11 := q2
  have q3 : hI hx 28 2 = hI hm 1 12 := q3
  have q4 : hI hx 28 3 = hI hm 1 13 := q4
  have q5 : hI hx 28 4 = hI hm 1 15 := q5
  have q6 : hI hx 28 5 = hI hm 1 16 := q6
  have q7 : hI hx 28 6 = hI hm 1 14 := q7
  have qa := r.sc.2.2.2.2.2.2.2.2.1.2.2.2.2.2.2.2.2.1
  have qa : hI hm 1 14 = 0 ∨ hI hm 1 14 = 1 := qa
  by_cases c0 : p1 = 0
  · simp only [f105, f206, f82, f198, c0, if_true, Wp_bind, Wp_some, q1, q2, q3, q4]
    exact e143 _ _ _ _
  · by_cases c1 : p1 = 1
    · subst c1
      have d0 : ¬ (1 : Int32) = 0 := by decide
      have d1 : ¬ f139 1 1 3 = 0 := by decide
      have d2 : ix ((14 : Int32) + 1 - 1) = 14 := by decide
      have d3 : inb ((14 : Int32) + 1 - 1) 500 := by decide
      simp only [f105, f206, d0, d1, d2, if_true, if_false, Wp_ite, Wp_gd, Wp_some, q7]
      exact ⟨fun z => ⟨d3, z.symm⟩, fun z => ⟨d3, (qa.resolve_left z).symm⟩⟩
    · by_cases c2 : p1 = 2
      · subst c2
        have d0 : ¬ (2 : Int32) = 0 := by decide
        have d4 : ¬ (2 : Int32) = 1 := by decide
        have d1 : ¬ f139 2 1 3 = 0 := by decide
        have d2 : ix ((14 : Int32) + 2 - 1) = 15 := by decide
        have d3 : inb ((14 : Int32) + 2 - 1) 500 := by decide
        simp only [f105, f206, d0, d1, d2, d4, if_true, if_false, Wp_gd, Wp_some, q5]
        exact ⟨d3, trivial⟩
      · by_cases c3 : p1 = 3
        · subst c3
          have d0 : ¬ (3 : Int32) = 0 := by decide
          have d4 : ¬ (3 : Int32) = 1 := by decide
          have d5 : ¬ (3 : Int32) = 2 := by decide
          have d1 : ¬ f139 3 1 3 = 0 := by decide
          have d2 : ix ((14 : Int32) + 3 - 1) = 16 := by decide
          have d3 : inb ((14 : Int32) + 3 - 1) 500 := by decide
          simp only [f105, f206, d0, d1, d2, d4, d5, if_true, if_false, Wp_gd, Wp_some, q6]
          exact ⟨d3, trivial⟩
        · have d1 : f139 p1 1 3 = 0 := by
            refine i139.2 ?_
            rw [ti_eq] at c1 c2 c3
            have e1 : (1 : Int32).toInt = 1 := rfl
            have e2 : (2 : Int32).toInt = 2 := rfl
            have e3 : (3 : Int32).toInt = 3 := rfl
            omega
          simp only [f105, f206, c0, c1, c2, c3, d1, if_true, if_false, Wp_some]
end
