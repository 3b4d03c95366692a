/-! ===== go, as it is called ===== -/
section
variable {n L N : Nat} {T : Nat → Tc} {hx hm : Hp}
theorem op_go (p1 p2 : Int32) (hN : 1000 ≤ N) (hL : L < 1000000) (r : Rl n L T hx hm) (wf : WF 0 hx) : Wp (f101 N p1 p2 hx) fun x => Wp (f201 N p1 p2 hm) fun y => x.1 = y.1 ∧ Rl n (L + 1) T x.2 y.2 := by
  have r' := r.mono (Nat.le_succ L)
  have a2 : hI hx 28 2 = hI hm 1 12 := r.sc.2.1.2.2.1
  have a6 : hI hx 28 6 = hI hm 1 14 := r.sc.2.1.2.2.2.2.2.2
  obtain ⟨u1, u2, u3, u4, u5, u6, u7, u8, u9, u10, u11⟩ := r.sc.2.2.2.2.2.2.2.2.1
  dsimp only [Nat.reduceAdd] at u5 u6 u9
  have w43 : ∀ j, j < 8 → hI hx 43 j = hI hm 1 (20 + j) := r.sc.1.2.2.2
  have i12 : ix (12 : Int32) = 12 := rfl
  have i14 : ix (14 : Int32) = 14 := rfl
  have e2 := nI_tn (x := hI hm 1 12) u5
  have b2 : tn (hI hm 1 12) < 8 := by unfold tn; omega
  by_cases c1 : hI hm 1 14 = 0
  · simp only [f101, f201, a6, i14, c1, if_true, Wp_some, true_and]
    exact r'
  have haf := u9.resolve_left c1
  by_cases c2 : 0 ≤ p1.toInt ∧ p1.toInt ≤ 11
  · have d1 : ¬ f126 p1 = 0 := fun z => i126.1 z c2
    have d2 : ¬ f139 p1 0 11 = 0 := fun z => i139.1 z c2
    by_cases c3 : 0 ≤ p2.toInt ∧ p2.toInt ≤ 3
    · have d3 : ¬ f127 p2 = 0 := fun z => i127.1 z c3
      have d4 : ¬ f139 p2 0 3 = 0 := fun z => i139.1 z c3
      obtain ⟨c, rfl, hc⟩ : ∃ c, p1 = nI c ∧ c < 12 := ⟨tn p1, (nI_tn c2.1).symm, by unfold tn; omega⟩
      obtain ⟨w, rfl, hw⟩ : ∃ w, p2 = nI w ∧ w < 4 := ⟨tn p2, (nI_tn c3.1).symm, by unfold tn; omega⟩
      have X : f101 N (nI c) (nI w) hx = if f123 (hI hm 1 (20 + tn (hI hm 1 12))) (nI w) = 0 then some (-1, hx) else (f120 N (nI c) (nI w) hx).bind fun q7 => some (q7.1, q7.2) := by
        unfold f101
        rw [a6, if_neg c1, if_neg d1, if_neg d3, a2, gd_pos (inb_mk u5 (by omega)), ixt, w43 _ b2]
        rfl
      rw [X]
      by_cases c4 : f123 (hI hm 1 (20 + tn (hI hm 1 12))) (nI w) = 0
      · have v20 : (20 : Int32) + hI hm 1 12 = nI (20 + tn (hI hm 1 12)) := by
          have := nI_add 20 (tn (hI hm 1 12))
          rw [e2] at this; exact this
        have Y : f201 N (nI c) (nI w) hm = some (-1, hm) := by
          unfold f201
          rw [i14, if_neg c1, if_neg d2, if_neg d4, i12, v20, gd_pos (nbk (by omega) (by omega)), nix (show 20 + tn (hI hm 1 12) < 2147483648 by omega), if_pos (by rw [e141]; exact c4)]
        rw [if_pos c4, Y, Wp_some, Wp_some]
        exact ⟨rfl, r'⟩
      · rw [if_neg c4, Wp_bind]
        refine Wp_mono (go_r hN hL r wf.2 haf hc hw ((bt01 _ _).resolve_left c4)) (fun x hx => ?_)
        rw [Wp_some]
        exact Wp_mono hx (fun y ⟨h1, h2, _⟩ => ⟨h1, h2⟩)
    · have d3 : f127 p2 = 0 := i127.2 c3
      have d4 : f139 p2 0 3 = 0 := i139.2 c3
      simp only [f101, f201, a6, i14, c1, d1, d2, d3, d4, if_true, if_false, Wp_some, true_and]
      exact r'
  · have d1 : f126 p1 = 0 := i126.2 c2
    have d2 : f139 p1 0 11 = 0 := i139.2 c2
    simp only [f101, f201, a6, i14, c1, d1, d2, if_true, if_false, Wp_some, true_and]
    exact r'
end
