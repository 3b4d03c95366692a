/-! ===== text: the call ===== -/
section
variable {n L N : Nat} {T : Nat → Tc} {hx hm : Hp}
theorem Tr_c {T T' : Nat → Tc} {r : Int32} (h : ¬ r < 0 → T' (tn r) = T (tn r)) : Tr T' r = Tr T r := by
  unfold Tr
  by_cases c : r < 0
  · rw [if_pos c, if_pos c]
  · rw [if_neg c, if_neg c]; exact h c
/-- what reading leaves of the whole -/
theorem Rl.read {T' : Nat → Tc} {hx' hm' : Hp} {sl : Nat} (r : Rl n L T hx hm) (hsl : sl < 4) (h2 : hI hm 1 2 = nI sl) (fx : ∀ x, x ≠ 26 → x ≠ 2 + 4 * sl → x ≠ 3 + 4 * sl → x ≠ 4 + 4 * sl → x ≠ 5 + 4 * sl → x ≠ 22 → x ≠ 24 → x ≠ 25 → x ≠ 27 → hI hx' x = hI hx x) (fr : ∀ x j, (x ≠ 26 ∨ j ≠ 4) → hR hx' x j = hR hx x j) (fe : ∀ c, c ≠ 0 → c ≠ 1 → c ≠ 3 → c ≠ 5 → hI hm' c = hI hm c) (fe0 : ∀ j, ¬ (8 ≤ j ∧ j ≤ 22) → j ≠ 5 → j ≠ 6 → j ≠ 7 → hI hm' 0 j = hI hm 0 j) (fe1 : ∀ j, j ≠ 2 → hI hm' 1 j = hI hm 1 j) (fe3 : ∀ q, (q < 620 * sl ∨ 620 * sl + 620 ≤ q) → hI hm' 3 q = hI hm 3 q) (x22 : hI hx' 22 3 = 0) (m5 : hI hm' 0 5 = 0) (fl : Fl hx' hm') (s27 : ∀ j, j ≠ 6 → hI hx' 27 j = hI hx 27 j) (q27 : hI hx' 27 6 = hI hm' 1 2) (t12 : hI hm' 1 2 = nI sl ∨ (hI hm' 1 2 = nI (sl + 1) ∧ TxX (T' sl) hx' (2 + 4 * sl) ∧ TxM (T' sl) (hI hm' 3) (620 * sl) ∧ WfT (T' sl))) (tt : ∀ i, i < sl → T' i = T i) : Rl n L T' hx' hm' := by
  have q1 : hI hx 27 6 = hI hm 1 2 := r.sc.2.2.1.1
  obtain ⟨n1, n2, n3, n4⟩ := r.sc.2.2.2.2.2.2.2.2.2.1
  obtain ⟨x1, x2, x3⟩ := r.tx
  rw [h2, ti_nI (by omega)] at n4
  have eT : Tr T' (hI hm' 1 3) = Tr T (hI hm 1 3) := by
    rw [fe1 3 (by omega)]
    refine Tr_c (fun hc => tt _ ?_)
    rw [ti_lt] at hc
    have t0 : (0 : Int32).toInt = 0 := rfl
    unfold tn; omega
  have tn2 : tn (hI hm 1 2) = sl := by unfold tn; rw [h2, ti_nI (by omega)]; omega
  have up : (hI hm' 1 2).toInt = (sl : Int) ∨ (hI hm' 1 2).toInt = ((sl + 1 : Nat) : Int) := by
    rcases t12 with z | z
    · exact Or.inl (by rw [z, ti_nI (by omega)])
    · exact Or.inr (by rw [z.1, ti_nI (by omega)])
  refine ⟨r.1, ?_, ?_, ?_, ?_, ?_, fl, ?_, ?_, ?_, ?_⟩
  · rw [fx 41 (by omega) (by omega) (by omega) (by omega) (by omega) (by omega) (by omega) (by omega) (by omega)]; exact r.pX
  · rw [fe0 2 (by omega) (by omega) (by omega) (by omega)]; exact r.pM
  · refine Sc_tx r.sc (fun k k1 k2 => fx _ (by omega) (by omega) (by omega) (by omega) (by omega) (by omega) (by omega) (by omega) (by omega)) (fun j _ hj => fe1 j (by omega)) ⟨q27, ?_⟩ ⟨by omega, by omega, by rw [fe1 3 (by omega)]; exact n3, by rw [fe1 3 (by omega)]; omega⟩
    show hI hx' 27 7 = hI hm' 1 3
    rw [s27 7 (by omega), fe1 3 (by omega)]; exact r.sc.2.2.1.2
  · exact Sc_c r.scI (fun k hk => fx _ (by omega) (by omega) (by omega) (by omega) (by omega) (by omega) (by omega) (by omega) (by omega)) (fun j _ => by rw [fe 2 (by omega) (by omega) (by omega) (by omega)])
  · refine ⟨by rw [x22, m5], by rw [m5]; decide, by rw [m5]; decide, fun j hj => ?_⟩
    rw [m5] at hj
    exact absurd hj (Nat.not_lt_zero j)
  · refine ⟨fun i hi => ?_, ?_, ?_⟩
    · by_cases ci : i < sl
      · obtain ⟨y1, y2, y3⟩ := x1 i (by rw [tn2]; exact ci)
        rw [tt i ci]
        refine ⟨TxX_c y1 (fx _ (by omega) (by omega) (by omega) (by omega) (by omega) (by omega) (by omega) (by omega) (by omega)) (fx _ (by omega) (by omega) (by omega) (by omega) (by omega) (by omega) (by omega) (by omega) (by omega)) (fx _ (by omega) (by omega) (by omega) (by omega) (by omega) (by omega) (by omega) (by omega) (by omega)) (fx _ (by omega) (by omega) (by omega) (by omega) (by omega) (by omega) (by omega) (by omega) (by omega)), ?_, y3⟩
        obtain ⟨mm, m1, m2, m3, m4⟩ := y2
        refine ⟨mm, m1, by rw [fe3 _ (by omega)]; exact m2, fun k hk => ?_, fun s hs hT => ?_⟩
        · obtain ⟨s, l, f, a1, a2, a3, a4, a5, a6, a7⟩ := m3 k hk
          refine ⟨s, l, f, a1, a2, by rw [fe3 _ (by omega)]; exact a3, by rw [fe3 _ (by omega)]; exact a4, by rw [fe3 _ (by omega)]; exact a5, a6, fun j o hj => ?_⟩
          have hlt : j < l.length := by
            refine Classical.byContradiction fun hh => ?_
            rw [List.getElem?_eq_none (by omega)] at hj
            cases hj
          rw [fe3 _ (by omega), fe3 _ (by omega)]
          exact a7 j o hj
        · obtain ⟨k, k1, k2⟩ := m4 s hs hT
          exact ⟨k, k1, by rw [fe3 _ (by omega)]; exact k2⟩
      · rcases t12 with z | ⟨z1, z2, z3, z4⟩
        · have : tn (hI hm' 1 2) = sl := by unfold tn; rw [z, ti_nI (by omega)]; omega
          rw [this] at hi; omega
        · have : tn (hI hm' 1 2) = sl + 1 := by unfold tn; rw [z1, ti_nI (by omega)]; omega
          rw [this] at hi
          have ei : i = sl := by omega
          subst ei
          exact ⟨z2, z3, z4⟩
    · rw [fx 18 (by omega) (by omega) (by omega) (by omega) (by omega) (by omega) (by omega) (by omega) (by omega)]; exact x2
    · rw [fe 2 (by omega) (by omega) (by omega) (by omega)]
      rw [h2, ti_nI (by omega)] at x3
      omega
  · exact Lw_c r.lw (funext fun j => fr 61 j (by omega)) (fe1 3 (by omega))
  · rw [eT]
    have f : ∀ x, 64 ≤ x → hI hx' x = hI hx x := fun x h => fx x (by omega) (by omega) (by omega) (by omega) (by omega) (by omega) (by omega) (by omega) (by omega)
    exact Ch_c r.ch (f 64 (by omega)) (f 65 (by omega)) (f 66 (by omega)) (f 67 (by omega)) (f 68 (by omega)) (funext fun j => fr 64 j (by omega)) (fun j hj => fe1 j (by omega))
  · rw [eT]
    exact Tb_c r.tb (fe0 27 (by omega) (by omega) (by omega) (by omega)) (fe 9 (by omega) (by omega) (by omega) (by omega)) (fun j hj => fe1 j (by omega))
theorem op_text (hN : 2000 ≤ N) (r : Rl n L T hx hm) (wf : WF 0 hx) : Wp (f97 N hx) fun x => Wp (f182 N hm) fun y => x.1 = y.1 ∧ ∃ T', Rl n L T' x.2 y.2 := by
  have q1 : hI hx 27 6 = hI hm 1 2 := r.sc.2.2.1.1
  obtain ⟨n1, n2, n3, n4⟩ := r.sc.2.2.2.2.2.2.2.2.2.1
  obtain ⟨sl, h2, hs4⟩ : ∃ sl, hI hm 1 2 = nI sl ∧ sl ≤ 4 := ⟨tn (hI hm 1 2), (nI_tn n1).symm, by unfold tn; omega⟩
  have i2 : ix (2 : Int32) = 2 := rfl
  unfold f97 f182
  rw [q1, h2, i2, h2, if_neg (show ¬ nI sl < 0 by rw [ti_lt, ti_nI (by omega)]; show ¬ _ < (0 : Int); omega)]
  by_cases c4 : sl = 4
  · rw [if_neg (show ¬ nI sl < 4 by rw [c4]; decide), if_pos (show nI sl = 4 by rw [c4]; rfl), Wp_some, Wp_some]
    exact ⟨rfl, T, r⟩
  have hsl : sl < 4 := by omega
  rw [if_pos (show nI sl < 4 by rw [ti_lt, ti_nI (by omega)]; show _ < (4 : Int); omega), if_neg (show ¬ nI sl = 4 from fun z => c4 (nI_inj (by omega) (by omega) (show nI sl = nI 4 from z))), Wp_gd, nix (by omega), tx_ref wf.2 hsl, Option.bind_some]
  refine ⟨nbk hsl (by omega), ?_⟩
  have tc : TC (2 + 4 * sl) := by unfold TC; omega
  -- the tape
  obtain ⟨t1, t2, t3, t4⟩ := r.tp
  have en : hI hm 0 5 = nI (tn (hI hm 0 5)) := (nI_tn t2).symm
  have hn3 : tn (hI hm 0 5) ≤ 300 := by unfold tn; omega
  have by' : ∀ j, j < tn (hI hm 0 5) → tn (hI hm 4 j) < 256 ∧ hI hm 4 j = nI (tn (hI hm 4 j)) ∧ hI hx 23 j = sb (tn (hI hm 4 j)) := fun j hj => by
    obtain ⟨v, v1, v2, v3⟩ := t4 j hj
    have e : tn (hI hm 4 j) = v := by unfold tn; rw [v2, ti_nI (by omega)]; omega
    rw [e]
    exact ⟨v1, v2, v3⟩
  have bx : ByX hx (fun j => tn (hI hm 4 j)) (tn (hI hm 0 5)) := ⟨t1.trans en, hn3, fun j hj => ⟨(by' j hj).1, (by' j hj).2.2⟩⟩
  have bm : ByM hm (fun j => tn (hI hm 4 j)) (tn (hI hm 0 5)) := ⟨en, hn3, fun j hj => ⟨(by' j hj).1, (by' j hj).2.1⟩⟩
  rw [Wp_bind]
  refine Wp_mono (read_j hN tc hsl h2 wf.2 bx bm) (fun x hx' => ?_)
  obtain ⟨y, ey, fx, fe, hxy⟩ := hx'
  rw [ey, Wp_bnd, Option.bind_some]
  have q27 : hI x.2 27 = hI hx 27 := fx.1 27 (by omega) (by omega) (by omega) (by omega) (by omega) (by omega) (by omega) (by omega)
  have m1 : hI y.2 1 = hI hm 1 := fe.1 1 (by omega) (by omega) (by omega)
  -- cells of the class and of the reference
  have X : ∀ (hx' : Hp), (∀ z, z ≠ 22 → z ≠ 27 → hI hx' z = hI x.2 z) → ∀ z, z ≠ 26 → z ≠ 2 + 4 * sl → z ≠ 3 + 4 * sl → z ≠ 4 + 4 * sl → z ≠ 5 + 4 * sl → z ≠ 22 → z ≠ 24 → z ≠ 25 → z ≠ 27 → hI hx' z = hI hx z := fun hx' e z z1 z2 z3 z4 z5 z6 z7 z8 z9 => (e z z6 z9).trans (fx.1 z z1 z2 (by omega) (by omega) (by omega) z6 z7 z8)
  rcases hxy with ⟨a1, a2, a3, a4, T1, a5, a6, a7⟩ | ⟨a1, a2, a3, a4⟩
  · -- it is read
    rw [if_neg (by rw [a1]; decide), Wp_bnd, Wp_some]
    have e27 : hI (uI x.2 22 3 0) 27 6 = nI sl := by rw [hI_uI_ne (by omega), q27, q1, h2]
    rw [e27, nI_1]
    have e6 : hI (uI y.2 0 6 y.1) 0 6 = 0 := by rw [hI_uI_eq, pu_eq]; exact a2
    rw [Wp_bnd, if_pos e6]
    unfold f182_b20
    rw [Wp_bnd, Wp_bnd]
    have g6 : hI (uI (uI (uI y.2 0 6 y.1) 0 7 (-1)) 0 5 0) 0 6 = 0 := by rw [hI_uI_eq, pu_ne (by omega), hI_uI_eq, pu_ne (by omega)]; exact e6
    have g1 : hI (uI (uI (uI y.2 0 6 y.1) 0 7 (-1)) 0 5 0) 1 = hI hm 1 := by rw [hI_uI_ne (by omega), hI_uI_ne (by omega), hI_uI_ne (by omega)]; exact m1
    rw [if_pos g6, Wp_bnd, Wp_some, i2, g1, h2, nI_1]
    generalize hw : uI (uI (uI (uI y.2 0 6 y.1) 0 7 (-1)) 0 5 0) 1 2 (nI (sl + 1)) = w
    have w0 : hI w 0 = pu (pu (pu (hI y.2 0) 6 y.1) 7 (-1)) 5 0 := by rw [← hw, hI_uI_ne (by omega), hI_uI_eq, hI_uI_eq, hI_uI_eq]
    have w1 : hI w 1 = pu (hI hm 1) 2 (nI (sl + 1)) := by rw [← hw, hI_uI_eq, g1]
    have wz : ∀ z, z ≠ 0 → z ≠ 1 → hI w z = hI y.2 z := fun z z1 z2 => by rw [← hw, hI_uI_ne z2, hI_uI_ne z1, hI_uI_ne z1, hI_uI_ne z1]
    clear hw
    generalize hv : uI (uI x.2 22 3 0) 27 6 (nI (sl + 1)) = v
    have vz : ∀ z, z ≠ 22 → z ≠ 27 → hI v z = hI x.2 z := fun z z1 z2 => by rw [← hv, hI_uI_ne z2, hI_uI_ne z1]
    have v27 : hI v 27 = pu (hI hx 27) 6 (nI (sl + 1)) := by rw [← hv, hI_uI_eq, hI_uI_ne (by omega), q27]
    have v22 : hI v 22 3 = 0 := by rw [← hv, hI_uI_ne (by omega), hI_uI_eq, pu_eq]
    have vR : hR v = hR x.2 := by rw [← hv]; rfl
    clear hv
    refine ⟨by rw [v27, w1, pu_eq, pu_eq], fun i => if i = sl then T1 else T i, ?_⟩
    refine r.read hsl h2 (X v vz) (fun z j hh => by rw [vR]; exact fx.2.2.1 z j hh) (fun z z1 z2 z3 z4 => by rw [wz z z1 z2]; exact fe.1 z z1 z3 z4) (fun j j1 j2 j3 j4 => by rw [w0, pu_ne j2, pu_ne j4, pu_ne j3]; exact fe.2.1 j j1) (fun j hj => by rw [w1, pu_ne hj]) (fun q hq => by rw [wz 3 (by omega) (by omega)]; exact fe.2.2 q hq) v22 (by rw [w0, pu_eq]) ?_ (fun j hj => by rw [v27, pu_ne hj]) (by rw [v27, pu_eq, w1, pu_eq]) (Or.inr ⟨by rw [w1, pu_eq], ?_, ?_, ?_⟩) (fun i hi => if_neg (by omega))
    · refine Or.inr ⟨by rw [vz 26 (by omega) (by omega)]; exact fx.2.2.2, ?_, ?_⟩
      · rw [vz 26 (by omega) (by omega), a3, w0, pu_ne (by omega), pu_ne (by omega), pu_eq, a2]
      · rw [vz 26 (by omega) (by omega), a4, w0, pu_ne (by omega), pu_eq]
    · dsimp only
      rw [if_pos rfl]
      exact TxX_c a5 (vz _ (by omega) (by omega)) (vz _ (by omega) (by omega)) (vz _ (by omega) (by omega)) (vz _ (by omega) (by omega))
    · dsimp only
      rw [if_pos rfl, wz 3 (by omega) (by omega)]
      exact a6
    · skip
      rw [if_pos rfl]; exact a7
  · -- it is not
    rw [if_pos a1, Wp_some]
    have e6 : hI (uI y.2 0 6 y.1) 0 6 = y.1 := by rw [hI_uI_eq, pu_eq]
    have e9 : hI (uI y.2 0 6 y.1) 0 9 = hI y.2 0 9 := by rw [hI_uI_eq, pu_ne (by omega)]
    rw [Wp_bnd, e6, if_neg a2, e9]
    unfold f182_b20
    rw [Wp_bnd, Wp_bnd]
    have g6 : hI (uI (uI (uI y.2 0 6 y.1) 0 7 (hI y.2 0 9)) 0 5 0) 0 6 = y.1 := by rw [hI_uI_eq, pu_ne (by omega), hI_uI_eq, pu_ne (by omega)]; exact e6
    rw [g6, if_neg a2, Wp_some]
    generalize hw : uI (uI (uI y.2 0 6 y.1) 0 7 (hI y.2 0 9)) 0 5 0 = w
    have w0 : hI w 0 = pu (pu (pu (hI y.2 0) 6 y.1) 7 (hI y.2 0 9)) 5 0 := by rw [← hw, hI_uI_eq, hI_uI_eq, hI_uI_eq]
    have wz : ∀ z, z ≠ 0 → hI w z = hI y.2 z := fun z z1 => by rw [← hw, hI_uI_ne z1, hI_uI_ne z1, hI_uI_ne z1]
    clear hw
    refine ⟨rfl, T, ?_⟩
    refine r.read hsl h2 (X _ (fun z z1 _ => hI_uI_ne z1)) (fun z j hh => fx.2.2.1 z j hh) (fun z z1 z2 z3 z4 => by rw [wz z z1]; exact fe.1 z z1 z3 z4) (fun j j1 j2 j3 j4 => by rw [w0, pu_ne j2, pu_ne j4, pu_ne j3]; exact fe.2.1 j j1) (fun j hj => by rw [wz 1 (by omega), m1]) (fun q hq => by rw [wz 3 (by omega)]; exact fe.2.2 q hq) (by rw [hI_uI_eq, pu_eq]) (by rw [w0, pu_eq]) ?_ (fun j hj => by rw [hI_uI_ne (by omega), q27]) (by rw [hI_uI_ne (by omega), q27, q1, wz 1 (by omega), m1]) (Or.inl (by rw [wz 1 (by omega), m1]; exact h2)) (fun _ _ => rfl)
    refine Or.inr ⟨by rw [hI_uI_ne (by omega)]; exact fx.2.2.2, ?_, ?_⟩
    · rw [hI_uI_ne (by omega), a3, w0, pu_ne (by omega), pu_ne (by omega), pu_eq]
    · rw [hI_uI_ne (by omega), a4, w0, pu_ne (by omega), pu_eq]
end
