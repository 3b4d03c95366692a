/-! ===== product and sum ===== -/
theorem st5 {pend P o' w : List Nat} (hP : hd1 P) (hp : pend = [] ∨ pend = [5] ∨ pend = [6]) (e : w = o' ++ pend.map clsO) : sySt 5 (pend ++ P) o' = (w, P) := by
  have z : sySt 5 P w = (w, P) := by
    rcases hP with h | ⟨x, q, h, hx⟩
    · exact sySt_0 (by omega) h
    · rw [h]
      show (if x < 40 ∧ 5 ≤ x then _ else _) = _
      rw [if_neg (by omega)]
  rcases hp with rfl | rfl | rfl
  · have : w = o' := by rw [e]; show o' ++ [] = o'; rw [List.append_nil]
    rw [← this]; exact z
  · show (if 5 < 40 ∧ 5 ≤ 5 then sySt 5 P (o' ++ [clsO 5]) else _) = _
    rw [if_pos (by omega)]
    have : o' ++ [clsO 5] = w := e.symm
    rw [this]; exact z
  · show (if 6 < 40 ∧ 5 ≤ 6 then sySt 5 P (o' ++ [clsO 6]) else _) = _
    rw [if_pos (by omega)]
    have : o' ++ [clsO 6] = w := e.symm
    rw [this]; exact z
theorem st3 {pend P o' w : List Nat} (hp : pend = [] ∨ pend = [5] ∨ pend = [6]) (e : w = o' ++ pend.map clsO) : sySt 3 (pend ++ P) o' = sySt 3 P w := by
  rcases hp with rfl | rfl | rfl
  · have : w = o' := by rw [e]; show o' ++ [] = o'; rw [List.append_nil]
    rw [← this]; rfl
  · show (if 5 < 40 ∧ 3 ≤ 5 then sySt 3 P (o' ++ [clsO 5]) else _) = _
    rw [if_pos (by omega)]
    have : o' ++ [clsO 5] = w := e.symm
    rw [this]
  · show (if 6 < 40 ∧ 3 ≤ 6 then sySt 3 P (o' ++ [clsO 6]) else _) = _
    rw [if_pos (by omega)]
    have : o' ++ [clsO 6] = w := e.symm
    rw [this]
theorem ex3 {j : Nat} {k : Int32} {a b : Int32} {α : Type} {A B : Option α} (h1 : ¬ k = a) (h2 : ¬ k = b) : (if (300 : Int32) ≤ nI j then A else (if k = a then B else (if k = b then B else A))) = A := by
  by_cases c : (300 : Int32) ≤ nI j
  · rw [if_pos c]
  · rw [if_neg c, if_neg h1, if_neg h2]
section
variable {N e c so fm : Nat} {kd st : Nat → Nat}
theorem prod_s {n i d : Nat} {ops P : List Nat} {h : Hp} (hN : 1000 ≤ N) (he : e ≤ 300) (hend : kd e = 27 ∨ kd e = 28) (hkd : ∀ j, j ≤ e → kd j ≤ 10100) (tc : TC c) (hso : so < 3) (ih : ∀ i ops P h, ops.length ≤ i → CS kd st e c so fm i d ops h → Wp (fG N n 50 h) fun u => OneB kd st e c so fm i d ops P h u ∨ FailB kd st e c so i (d, ops, P, 0) h u) (hP : hd1 P) (hl : ops.length ≤ i) (cs : CS kd st e c so fm i d ops h) : Wp (f49 (fG N n) N h) fun u => ProB kd st e c so fm i d ops P h u ∨ FailB kd st e c so i (d, ops, P, 0) h u := by
  have s1 := (tc_shp tc).1
  unfold f49
  rw [Wp_bind]
  refine Wp_mono (ih i ops P h hl cs) (fun u hu => ?_)
  rw [Wp_bind]
  refine Wp_lp (fun m x => ∃ j : Nat, x.1 = nI j ∧ ((∃ i' w o' pend, e + 1 - i' ≤ m ∧ j ≤ i' ∧ i ≤ i' ∧ w.length + i ≤ i' ∧ CS kd st e c so fm i' d (ops ++ w) x.2 ∧ SyR kd so (i' - i) i (d, ops, P, 0) (d, o', pend ++ P, 1) ∧ ops ++ w = o' ++ pend.map clsO ∧ (pend = [] ∨ pend = [5] ∨ pend = [6]) ∧ Ty w (2 + 2 * (8 - d)) ∧ Wd so w ∧ FR c so h x.2) ∨ FailB kd st e c so i (d, ops, P, 0) h x.2)) ?_ N (e + 1) _ (by omega) ?_
  · rintro m ⟨_, x⟩ ⟨j, hj, hx⟩
    dsimp only at hj hx
    subst hj
    unfold f49_l4
    dsimp only
    rcases hx with ⟨i', w, o', pend, mi, ji, ii, wl, cx, rx, ex, px, ty, wd, fx⟩ | fb
    · have hie := cx.2.1.1
      have kb := hkd i' hie
      have ne : ∀ v, v < 20000 → (nI (kd i') = nI v ↔ kd i' = v) := fun v hv => ⟨fun z => nI_inj (by omega) (by omega) z, fun z => by rw [z]⟩
      rw [cx.1.2.1]
      by_cases ck : kd i' = 16 ∨ kd i' = 17
      · have hlt : i' < e := by
          refine Classical.byContradiction fun hh => ?_
          have e1 : i' = e := by omega
          rw [e1] at ck
          omega
        have b15 : Wp (f49_b15 (fG N n) N (nI j) x) (fun q => (q.1 = 0 ∧ ∃ m', m' < m ∧ ∃ j : Nat, q.2.1 = nI j ∧ ((∃ i' w o' pend, e + 1 - i' ≤ m' ∧ j ≤ i' ∧ i ≤ i' ∧ w.length + i ≤ i' ∧ CS kd st e c so fm i' d (ops ++ w) q.2.2 ∧ SyR kd so (i' - i) i (d, ops, P, 0) (d, o', pend ++ P, 1) ∧ ops ++ w = o' ++ pend.map clsO ∧ (pend = [] ∨ pend = [5] ∨ pend = [6]) ∧ Ty w (2 + 2 * (8 - d)) ∧ Wd so w ∧ FR c so h q.2.2) ∨ FailB kd st e c so i (d, ops, P, 0) h q.2.2))) := by
          unfold f49_b15
          rw [Wp_bnd, cx.1.2.1, Wp_bind]
          refine Wp_mono (step_w he tc hlt cx) (fun y ⟨y1, y2⟩ => ?_)
          rw [Wp_bind]
          have hl2 : (ops ++ w).length ≤ i' + 1 := by rw [List.length_append]; omega
          have sx : Sy1 kd so i' (d, o', pend ++ P, 1) (d, ops ++ w, (kd i' - 11) :: P, 0) := by
            refine Or.inr (Or.inr (Or.inr (Or.inr (Or.inl ⟨rfl, ck, ?_⟩))))
            dsimp only
            rw [st5 hP px ex]
          have rx2 : SyR kd so (i' + 1 - i) i (d, ops, P, 0) (d, ops ++ w, (kd i' - 11) :: P, 0) := by
            have := SyR_t (i' - i) rx (by rw [show i + (i' - i) = i' by omega]; exact SyR_1 sx)
            rw [show i' - i + 1 = i' + 1 - i by omega] at this
            exact this
          refine Wp_mono (ih (i' + 1) (ops ++ w) ((kd i' - 11) :: P) y hl2 y1) (fun z hz => ?_)
          rcases hz with ⟨i2, w2, z1, z2, z3, z4, z5, z6, z7⟩ | ⟨code, k, z1, z2, z3, z4⟩
          · rw [z3.2.2.1.1, Option.bind_some, gd_pos s1, z3.1.2.2.2.2.1, Wp_bind]
            have hl3 : (ops ++ w ++ w2).length < 300 := by rw [List.length_append, List.length_append]; have := z3.2.1.1; omega
            refine Wp_mono (add_w tc hso hl3 (by omega) z3) (fun v ⟨v1, v2⟩ => ?_)
            rw [Wp_bnd, Wp_some, nI_1]
            have e4 : ops ++ w ++ w2 ++ [kd i'] = ops ++ (w ++ w2 ++ [kd i']) := by rw [List.append_assoc, List.append_assoc, List.append_assoc]
            rw [e4] at v1
            rw [syWh_1 (Or.inr ⟨_, _, rfl, by omega⟩)] at z4
            refine ⟨rfl, m - 1, by omega, j + 1, rfl, Or.inl ⟨i2, w ++ w2 ++ [kd i'], ops ++ w ++ w2, [kd i' - 11], by omega, by omega, by omega, ?_, v1, ?_, ?_, by rcases ck with zz | zz; exact Or.inr (Or.inl (by rw [zz])); exact Or.inr (Or.inr (by rw [zz])), ?_, Wd_a (Wd_a wd z6) (Wd_1 (by omega) (by omega)), fx.trans (y2.trans (z7.trans v2))⟩⟩
            · rw [List.length_append, List.length_append]; show w.length + w2.length + 1 + i ≤ i2; omega
            · have := SyR_t (i' + 1 - i) rx2 (by rw [show i + (i' + 1 - i) = i' + 1 by omega]; exact z4)
              rw [show i' + 1 - i + (i2 - (i' + 1)) = i2 - i by omega] at this
              exact this
            · rw [← e4]
              have : clsO (kd i' - 11) = kd i' := by unfold clsO; rw [if_neg (by omega)]; omega
              show _ = ops ++ w ++ w2 ++ [clsO (kd i' - 11)]
              rw [this]
            · have := Ty_op (q := 1 + 2 * (8 - d)) (by rw [show 1 + 2 * (8 - d) + 1 = 2 + 2 * (8 - d) by omega]; exact ty) z5 (show 14 ≤ kd i' ∧ kd i' ≤ 17 by omega)
              rw [show 1 + 2 * (8 - d) + 1 = 2 + 2 * (8 - d) by omega] at this
              exact this
          · rw [z3.2.2.2.2.2.1.1, Option.bind_some, gd_pos s1, z3.2.2.2.2.1, Wp_bind]
            refine Wp_mono (addF_w tc hso z3) (fun v ⟨v1, v2⟩ => ?_)
            rw [Wp_bnd, Wp_some, nI_1]
            refine ⟨rfl, m - 1, by omega, j + 1, rfl, Or.inr ⟨code, i' + 1 - i + k, by omega, FailP_t rx2 (by rw [show i + (i' + 1 - i) = i' + 1 by omega]; exact z2), by rw [show i + (i' + 1 - i + k) = i' + 1 + k by omega]; exact v1, fx.trans (y2.trans (z4.trans v2))⟩⟩
        rw [if_neg (show ¬ (300 : Int32) ≤ nI j by rw [ti_le, ti_nI (by omega)]; show ¬ (300 : Int) ≤ _; omega)]
        by_cases c16 : kd i' = 16
        · rw [if_pos (show nI (kd i') = 16 from (ne 16 (by omega)).2 c16)]
          exact Wp_mono b15 (fun q hq => Or.inl hq)
        · rw [if_neg (show ¬ nI (kd i') = 16 from fun z => c16 ((ne 16 (by omega)).1 z)), if_pos (show nI (kd i') = 17 from (ne 17 (by omega)).2 (by omega))]
          exact Wp_mono b15 (fun q hq => Or.inl hq)
      · rw [ex3 (show ¬ nI (kd i') = 16 from fun z => ck (Or.inl ((ne 16 (by omega)).1 z))) (show ¬ nI (kd i') = 17 from fun z => ck (Or.inr ((ne 17 (by omega)).1 z))), Wp_some]
        refine Or.inr ⟨0, rfl, ?_⟩
        rw [Wp_some]
        exact Or.inl ⟨i', w, o', pend, ii, wl, cx, rx, ex, px, fun z => ck (Or.inl z), fun z => ck (Or.inr z), ty, wd, fx⟩
    · have k28 : hI x 26 6 = 28 := by obtain ⟨code, k, f1, f2, f3, f4⟩ := fb; exact f3.2.2.2.1
      rw [k28, ex3 (by decide) (by decide), Wp_some]
      refine Or.inr ⟨0, rfl, ?_⟩
      rw [Wp_some]
      exact Or.inr fb
  · refine ⟨0, rfl, ?_⟩
    dsimp only
    rcases hu with ⟨i', w, u1, u2, u3, u4, u5, u6, u7⟩ | fb
    · rw [syWh_1 (Or.inl hP)] at u4
      exact Or.inl ⟨i', w, ops ++ w, [], by omega, by omega, u1, u2, u3, u4, by show _ = ops ++ w ++ []; rw [List.append_nil], Or.inl rfl, Ty_m u5 (by omega), u6, u7⟩
    · exact Or.inr fb
end
