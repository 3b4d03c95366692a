/-! ===== sum, and all of them ===== -/
section
variable {N e c so fm : Nat} {kd st : Nat → Nat}
theorem sum_s {n i d : Nat} {ops P : List Nat} {h : Hp} (hN : 1000 ≤ N) (he : e ≤ 300) (hend : kd e = 27 ∨ kd e = 28) (hkd : ∀ j, j ≤ e → kd j ≤ 10100) (tc : TC c) (hso : so < 3) (ih : ∀ i ops P h, hd1 P → ops.length ≤ i → CS kd st e c so fm i d ops h → Wp (fG N n 49 h) fun u => ProB kd st e c so fm i d ops P h u ∨ FailB kd st e c so i (d, ops, P, 0) h u) (hP : hd0 P) (hl : ops.length ≤ i) (cs : CS kd st e c so fm i d ops h) : Wp (f48 (fG N n) N h) fun u => SumB kd st e c so fm i d ops P h u ∨ FailB kd st e c so i (d, ops, P, 0) h u := by
  have s1 := (tc_shp tc).1
  have n40 : ∀ pend : List Nat, (pend = [] ∨ pend = [5] ∨ pend = [6]) → ¬ 40 ∈ pend := by
    rintro pend (rfl | rfl | rfl) <;> decide
  unfold f48
  rw [Wp_bind]
  refine Wp_mono (ih i ops P h (Or.inl hP) hl cs) (fun u hu => ?_)
  rw [Wp_bind]
  refine Wp_lp (fun m x => ∃ j : Nat, x.1 = nI j ∧ ((∃ i' w o' pend, e + 1 - i' ≤ m ∧ j ≤ i' ∧ i ≤ i' ∧ w.length + i ≤ i' ∧ CS kd st e c so fm i' d (ops ++ w) x.2 ∧ SyR kd so (i' - i) i (d, ops, P, 0) (d, o', pend ++ P, 1) ∧ sySt 3 (pend ++ P) o' = (ops ++ w, P) ∧ ¬ 40 ∈ pend ∧ (kd i' ≠ 16 ∧ kd i' ≠ 17) ∧ Ty w (3 + 2 * (8 - d)) ∧ Wd so w ∧ FR c so h x.2) ∨ FailB kd st e c so i (d, ops, P, 0) h x.2)) ?_ N (e + 1) _ (by omega) ?_
  · rintro m ⟨_, x⟩ ⟨j, hj, hx⟩
    dsimp only at hj hx
    subst hj
    unfold f48_l4
    dsimp only
    rcases hx with ⟨i', w, o', pend, mi, ji, ii, wl, cx, rx, ex, px, kx, ty, wd, fx⟩ | fb
    · have hie := cx.2.1.1
      have kb := hkd i' hie
      have ne : ∀ v, v < 20000 → (nI (kd i') = nI v ↔ kd i' = v) := fun v hv => ⟨fun z => nI_inj (by omega) (by omega) z, fun z => by rw [z]⟩
      rw [cx.1.2.1]
      by_cases ck : kd i' = 14 ∨ kd i' = 15
      · have hlt : i' < e := by
          refine Classical.byContradiction fun hh => ?_
          have e1 : i' = e := by omega
          rw [e1] at ck
          omega
        have b15 : Wp (f48_b15 (fG N n) N (nI j) x) (fun q => (q.1 = 0 ∧ ∃ m', m' < m ∧ ∃ j : Nat, q.2.1 = nI j ∧ ((∃ i' w o' pend, e + 1 - i' ≤ m' ∧ j ≤ i' ∧ i ≤ i' ∧ w.length + i ≤ i' ∧ CS kd st e c so fm i' d (ops ++ w) q.2.2 ∧ SyR kd so (i' - i) i (d, ops, P, 0) (d, o', pend ++ P, 1) ∧ sySt 3 (pend ++ P) o' = (ops ++ w, P) ∧ ¬ 40 ∈ pend ∧ (kd i' ≠ 16 ∧ kd i' ≠ 17) ∧ Ty w (3 + 2 * (8 - d)) ∧ Wd so w ∧ FR c so h q.2.2) ∨ FailB kd st e c so i (d, ops, P, 0) h q.2.2))) := by
          unfold f48_b15
          rw [Wp_bnd, cx.1.2.1, Wp_bind]
          refine Wp_mono (step_w he tc hlt cx) (fun y ⟨y1, y2⟩ => ?_)
          rw [Wp_bind]
          have hl2 : (ops ++ w).length ≤ i' + 1 := by rw [List.length_append]; omega
          have sx : Sy1 kd so i' (d, o', pend ++ P, 1) (d, ops ++ w, (kd i' - 11) :: P, 0) := by
            refine Or.inr (Or.inr (Or.inr (Or.inl ⟨rfl, ck, ?_⟩)))
            dsimp only
            rw [ex]
          have rx2 : SyR kd so (i' + 1 - i) i (d, ops, P, 0) (d, ops ++ w, (kd i' - 11) :: P, 0) := by
            have := SyR_t (i' - i) rx (by rw [show i + (i' - i) = i' by omega]; exact SyR_1 sx)
            rw [show i' - i + 1 = i' + 1 - i by omega] at this
            exact this
          refine Wp_mono (ih (i' + 1) (ops ++ w) ((kd i' - 11) :: P) y (Or.inr ⟨_, _, rfl, by omega⟩) hl2 y1) (fun z hz => ?_)
          rcases hz with ⟨i2, w2, o2, p2, z1, z2, z3, z4, z5, z6, z7, z8, z9, z10, z11⟩ | ⟨code, k, z1, z2, z3, z4⟩
          · rw [z3.2.2.1.1, Option.bind_some, gd_pos s1, z3.1.2.2.2.2.1, Wp_bind]
            have hl3 : (ops ++ w ++ w2).length < 300 := by rw [List.length_append, List.length_append]; have := z3.2.1.1; omega
            refine Wp_mono (add_w tc hso hl3 (by omega) z3) (fun v ⟨v1, v2⟩ => ?_)
            rw [Wp_bnd, Wp_some, nI_1]
            have e4 : ops ++ w ++ w2 ++ [kd i'] = ops ++ (w ++ w2 ++ [kd i']) := by rw [List.append_assoc, List.append_assoc, List.append_assoc]
            rw [e4] at v1
            have e5 : p2 ++ [kd i' - 11] ++ P = p2 ++ (kd i' - 11) :: P := by rw [List.append_assoc]; rfl
            refine ⟨rfl, m - 1, by omega, j + 1, rfl, Or.inl ⟨i2, w ++ w2 ++ [kd i'], o2, p2 ++ [kd i' - 11], by omega, by omega, by omega, ?_, v1, ?_, ?_, ?_, ⟨z7, z8⟩, ?_, Wd_a (Wd_a wd z10) (Wd_1 (by omega) (by omega)), fx.trans (y2.trans (z11.trans v2))⟩⟩
            · rw [List.length_append, List.length_append]; show w.length + w2.length + 1 + i ≤ i2; omega
            · rw [e5]
              have := SyR_t (i' + 1 - i) rx2 (by rw [show i + (i' + 1 - i) = i' + 1 by omega]; exact z4)
              rw [show i' + 1 - i + (i2 - (i' + 1)) = i2 - i by omega] at this
              exact this
            · rw [e5, st3 z6 z5]
              show (if kd i' - 11 < 40 ∧ 3 ≤ kd i' - 11 then sySt 3 P (ops ++ w ++ w2 ++ [clsO (kd i' - 11)]) else _) = _
              have : clsO (kd i' - 11) = kd i' := by unfold clsO; rw [if_neg (by omega)]; omega
              rw [if_pos (by omega), this, sySt_0 (by omega) hP, e4]
            · intro zz
              rcases List.mem_append.1 zz with q | q
              · exact n40 p2 z6 q
              · rcases List.mem_cons.1 q with q | q
                · omega
                · cases q
            · have := Ty_op (q := 2 + 2 * (8 - d)) (by rw [show 2 + 2 * (8 - d) + 1 = 3 + 2 * (8 - d) by omega]; exact ty) z9 (show 14 ≤ kd i' ∧ kd i' ≤ 17 by omega)
              rw [show 2 + 2 * (8 - d) + 1 = 3 + 2 * (8 - d) by omega] at this
              exact this
          · rw [z3.2.2.2.2.2.1.1, Option.bind_some, gd_pos s1, z3.2.2.2.2.1, Wp_bind]
            refine Wp_mono (addF_w tc hso z3) (fun v ⟨v1, v2⟩ => ?_)
            rw [Wp_bnd, Wp_some, nI_1]
            refine ⟨rfl, m - 1, by omega, j + 1, rfl, Or.inr ⟨code, i' + 1 - i + k, by omega, FailP_t rx2 (by rw [show i + (i' + 1 - i) = i' + 1 by omega]; exact z2), by rw [show i + (i' + 1 - i + k) = i' + 1 + k by omega]; exact v1, fx.trans (y2.trans (z4.trans v2))⟩⟩
        rw [if_neg (show ¬ (300 : Int32) ≤ nI j by rw [ti_le, ti_nI (by omega)]; show ¬ (300 : Int) ≤ _; omega)]
        by_cases c16 : kd i' = 14
        · rw [if_pos (show nI (kd i') = 14 from (ne 14 (by omega)).2 c16)]
          exact Wp_mono b15 (fun q hq => Or.inl hq)
        · rw [if_neg (show ¬ nI (kd i') = 14 from fun z => c16 ((ne 14 (by omega)).1 z)), if_pos (show nI (kd i') = 15 from (ne 15 (by omega)).2 (by omega))]
          exact Wp_mono b15 (fun q hq => Or.inl hq)
      · rw [ex3 (show ¬ nI (kd i') = 14 from fun z => ck (Or.inl ((ne 14 (by omega)).1 z))) (show ¬ nI (kd i') = 15 from fun z => ck (Or.inr ((ne 15 (by omega)).1 z))), Wp_some]
        refine Or.inr ⟨0, rfl, ?_⟩
        rw [Wp_some]
        exact Or.inl ⟨i', w, o', pend, ii, wl, cx, rx, ex, px, ⟨fun z => ck (Or.inl z), fun z => ck (Or.inr z), kx.1, kx.2⟩, ty, wd, fx⟩
    · have k28 : hI x 26 6 = 28 := by obtain ⟨code, k, f1, f2, f3, f4⟩ := fb; exact f3.2.2.2.1
      rw [k28, ex3 (by decide) (by decide), Wp_some]
      refine Or.inr ⟨0, rfl, ?_⟩
      rw [Wp_some]
      exact Or.inr fb
  · refine ⟨0, rfl, ?_⟩
    dsimp only
    rcases hu with ⟨i', w, o', pend, u1, u2, u3, u4, u5, u6, u7, u8, u9, u10, u11⟩ | fb
    · refine Or.inl ⟨i', w, o', pend, by omega, by omega, u1, u2, u3, u4, ?_, n40 pend u6, ⟨u7, u8⟩, Ty_m u9 (by omega), u10, u11⟩
      rw [st3 u6 u5, sySt_0 (by omega) hP]
    · exact Or.inr fb
/-- with enough fuel, all three do so -/
theorem desc (hN : 1000 ≤ N) (he : e ≤ 300) (hend : kd e = 27 ∨ kd e = 28) (hkd : ∀ j, j ≤ e → kd j ≤ 10100) (tc : TC c) (hso : so < 3) : ∀ n d, d ≤ 8 → (3 * (8 - d) + 1 ≤ n → ∀ i ops P h, ops.length ≤ i → CS kd st e c so fm i d ops h → Wp (fG N n 50 h) fun u => OneB kd st e c so fm i d ops P h u ∨ FailB kd st e c so i (d, ops, P, 0) h u) ∧ (3 * (8 - d) + 2 ≤ n → ∀ i ops P h, hd1 P → ops.length ≤ i → CS kd st e c so fm i d ops h → Wp (fG N n 49 h) fun u => ProB kd st e c so fm i d ops P h u ∨ FailB kd st e c so i (d, ops, P, 0) h u) ∧ (3 * (8 - d) + 3 ≤ n → ∀ i ops P h, hd0 P → ops.length ≤ i → CS kd st e c so fm i d ops h → Wp (fG N n 48 h) fun u => SumB kd st e c so fm i d ops P h u ∨ FailB kd st e c so i (d, ops, P, 0) h u) := by
  intro n
  induction n with
  | zero => intro d d8; exact ⟨fun z => by omega, fun z => by omega, fun z => by omega⟩
  | succ n ih =>
    intro d d8
    refine ⟨fun hn i ops P h hl cs => ?_, fun hn i ops P h hP hl cs => ?_, fun hn i ops P h hP hl cs => ?_⟩
    · show Wp (f50 (fG N n) N h) _
      exact one_s he hend hkd tc hso (fun i ops P h hd hl cs => (ih (d + 1) hd).1 (by omega) i ops P h hl cs) (fun i ops P h hd hP hl cs => (ih (d + 1) hd).2.2 (by omega) i ops P h hP hl cs) d8 hl cs
    · show Wp (f49 (fG N n) N h) _
      exact prod_s hN he hend hkd tc hso (fun i ops P h hl cs => (ih d d8).1 (by omega) i ops P h hl cs) hP hl cs
    · show Wp (f48 (fG N n) N h) _
      exact sum_s hN he hend hkd tc hso (fun i ops P h hP hl cs => (ih d d8).2.1 (by omega) i ops P h hP hl cs) hP hl cs
end
