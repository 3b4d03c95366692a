/-! ===== text ===== -/
section
variable {N c sl n : Nat} {b : Nat → Nat} {h m : Hp}
theorem XT_x {kd st : Nat → Nat} {e i : Nat} {T : Tc} {ops : List Nat} (tc : TC c) (hl : ops.length ≤ 300) (cb : CB kd st e c i ops h) (xt : XT T ops c h) : TxX T h c := by
  obtain ⟨x1, x2, x3⟩ := xt
  refine ⟨fun k hk => ⟨fun z => bt_n.1 (fun y => ((x1 k hk).1 y) z), fun l hl' => ⟨(x1 k hk).2 (by rw [hl']; intro z; cases z), ?_⟩⟩, x3⟩
  obtain ⟨f, f1, f2, f3, f4⟩ := x2 k l hk hl'
  exact ⟨f, f1, f2, by omega, fun j o hj => cb.2.2.2.2 (f + j) o (f4 j o hj)⟩
theorem MT_m {kd st ps : Nat → Nat} {nn i d cnt : Nat} {T : Tc} {ops : List Nat} (hl : ops.length ≤ 300) (mc : MC b nn kd st ps sl i d ops m) (mt : MT T ops sl cnt m) : TxM T (hI m 3) (620 * sl) := by
  have c3 := MT_3 mt
  obtain ⟨x1, x2, x3, x4, x5⟩ := mt
  refine ⟨cnt, c3, x1, fun k hk => ?_, x3⟩
  obtain ⟨s, l, f, q1, q2, q3, q4, q5, q6, q7⟩ := x2 k hk
  refine ⟨s, l, f, q1, q2, q3, q4, q5, by omega, fun j o hj => ?_⟩
  exact mc.2.2.2.2.2.2.2 (f + j) o (q7 j o hj)
theorem nsrf : srf 0 26 4 = none := by decide
theorem kb_of {kd st ps : Nat → Nat} {e : Nat} (ts : Tks b n kd st ps e) : ∀ j, j ≤ e → kd j ≤ 10100 := fun j hj => (TkA_q (ts.2.1 j hj).2.2.2.2).2.2
/-- what reading a text leaves of the class -/
def FRX (c : Nat) (h h' : Hp) : Prop := (∀ x, x ≠ 26 → x ≠ c → x ≠ c + 1 → x ≠ c + 2 → x ≠ c + 3 → x ≠ 22 → x ≠ 24 → x ≠ 25 → hI h' x = hI h x) ∧ (∀ j, j ≠ 4 → hI h' 22 j = hI h 22 j) ∧ (∀ x j, (x ≠ 26 ∨ j ≠ 4) → hR h' x j = hR h x j) ∧ hI h' 26 1 = 1
def FEX (sl : Nat) (m m' : Hp) : Prop := (∀ c, c ≠ 0 → c ≠ 3 → c ≠ 5 → hI m' c = hI m c) ∧ (∀ j, ¬ (8 ≤ j ∧ j ≤ 22) → hI m' 0 j = hI m 0 j) ∧ ∀ r, (r < 620 * sl ∨ 620 * sl + 620 ≤ r) → hI m' 3 r = hI m 3 r
/-- the class begins -/
theorem begX {P : Int32 × Hp → Prop} {k : Hp → Option (Int32 × Hp)} (hN : 1000 ≤ N) (tc : TC c) (rf : RF h) (bx : ByX h b n) (next : ∀ u kd st ps e, Tks b n kd st ps e → CB kd st e c 0 [] u → XT (fun _ => none) [] c u → FRX c h u → hI u 26 3 = -1 → Wp (k u) P) : Wp (bnd (uI h 26 1 (1 : Int32)) fun h1 => bnd (uI h1 26 2 (0 : Int32)) fun h2 => bnd (uI h2 26 3 (-1 : Int32)) fun h3 => bnd (uR h3 26 4 (some c)) fun h4 => (hR h4 26 4).bind fun r5 => gd ((shp 0 r5).1 = 8) <| (f77 N r5 h4).bind fun q7 => bnd (uI q7 26 9 (0 : Int32)) fun h8 => (f65 N h8).bind fun q9 => bnd (uI q9 26 5 (0 : Int32)) fun h10 => bnd (uI h10 26 6 (hI h10 24 (ix (0 : Int32)))) fun h11 => k h11) P := by
  have s1 := (tc_shp tc).1
  have t := tc_26 tc
  have tt : c ≠ 22 ∧ c + 1 ≠ 22 ∧ c + 2 ≠ 22 ∧ c + 3 ≠ 22 ∧ c ≠ 23 ∧ c + 1 ≠ 23 ∧ c + 2 ≠ 23 ∧ c + 3 ≠ 23 ∧ c + 2 ≠ 26 ∧ c + 2 ≠ 24 ∧ c + 2 ≠ 25 := by rcases tc with rfl | rfl | rfl | rfl | rfl <;> omega
  unfold f77
  rw [Wp_bnd, Wp_bnd, Wp_bnd, Wp_bnd, hR_uR_eq, Option.bind_some, gd_pos s1, gd_pos s1, Wp_bind, Wp_bnd, gd_pos s1, Wp_bnd, gd_pos s1, Wp_bnd, Wp_some, Wp_bnd]
  generalize hg : uI (uI (uI (uI (uR (uI (uI (uI h 26 1 1) 26 2 0) 26 3 (-1)) 26 4 (some c)) c 3 0) c 4 0) c 5 0) 26 9 0 = g
  have gI : ∀ x, x ≠ 26 → x ≠ c → hI g x = hI h x := fun x x1 x2 => by rw [← hg, hI_uI_ne x1, hI_uI_ne x2, hI_uI_ne x2, hI_uI_ne x2, hI_uR, hI_uI_ne x1, hI_uI_ne x1, hI_uI_ne x1]
  have gc : hI g c 3 = 0 ∧ hI g c 4 = 0 ∧ hI g c 5 = 0 := by
    rw [← hg, hI_uI_ne t.1, hI_uI_eq, hI_uI_eq, hI_uI_eq]
    exact ⟨by rw [pu_ne (by omega), pu_ne (by omega), pu_eq], by rw [pu_ne (by omega), pu_eq], pu_eq⟩
  have g26 : hI g 26 1 = 1 ∧ hI g 26 2 = 0 ∧ hI g 26 3 = -1 ∧ hI g 26 9 = 0 := by
    have e : hI g 26 = pu (pu (pu (pu (hI h 26) 1 1) 2 0) 3 (-1)) 9 0 := by rw [← hg, hI_uI_eq, hI_uI_ne (Ne.symm t.1), hI_uI_ne (Ne.symm t.1), hI_uI_ne (Ne.symm t.1), hI_uR, hI_uI_eq, hI_uI_eq, hI_uI_eq]
    rw [e]
    exact ⟨by rw [pu_ne (by omega), pu_ne (by omega), pu_ne (by omega), pu_eq], by rw [pu_ne (by omega), pu_ne (by omega), pu_eq], by rw [pu_ne (by omega), pu_eq], pu_eq⟩
  have gR : hR g 26 4 = some c ∧ ∀ x j, (x ≠ 26 ∨ j ≠ 4) → hR g x j = hR h x j := by
    have e : hR g = hR (uR (uI (uI (uI h 26 1 1) 26 2 0) 26 3 (-1)) 26 4 (some c)) := by rw [← hg]; rfl
    rw [e]
    exact ⟨hR_uR_eq, fun x j hh => by rw [hR_uR_ne hh]; rfl⟩
  clear hg
  have gRF : RF g := fun x j q hq => by
    by_cases cc : x = 26 ∧ j = 4
    · obtain ⟨rfl, rfl⟩ := cc
      rw [nsrf] at hq; cases hq
    · rw [gR.2 x j (by omega)]; exact rf x j q hq
  have bg : ByX g b n := ⟨by rw [gI 22 (by omega) (Ne.symm tt.1)]; exact bx.1, bx.2.1, fun j hj => ⟨(bx.2.2 j hj).1, by rw [gI 23 (by omega) (by omega)]; exact (bx.2.2 j hj).2⟩⟩
  rw [Wp_bind]
  refine Wp_mono (cut_w (by omega) bg) (fun x ⟨⟨x1, x2, x3⟩, kd, st, ps, e, ts, tr⟩ => ?_)
  have he := ts.2.2.2.2
  have e24 : hI (uI x 26 5 0) 24 (ix (0 : Int32)) = nI (kd 0) := by rw [hI_uI_ne (by omega)]; exact (tr 0 (by omega)).1
  rw [Wp_bnd, Wp_bnd, e24]
  generalize hu : uI (uI x 26 5 0) 26 6 (nI (kd 0)) = u
  have uI' : ∀ z, z ≠ 26 → hI u z = hI x z := fun z hz => by rw [← hu, hI_uI_ne hz, hI_uI_ne hz]
  have u26 : ∀ j, j ≠ 5 → j ≠ 6 → hI u 26 j = hI g 26 j := fun j j1 j2 => by rw [← hu, hI_uI_eq, pu_ne j2, hI_uI_eq, pu_ne j1, x1 26 (by omega) (by omega) (by omega)]
  have uR' : hR u = hR g := by rw [← hu]; exact x3
  have u5 : hI u 26 5 = nI 0 ∧ hI u 26 6 = nI (kd 0) := ⟨by rw [← hu, hI_uI_eq, pu_ne (by omega), hI_uI_eq, pu_eq]; rfl, by rw [← hu, hI_uI_eq, pu_eq]⟩
  clear hu
  have uc : hI u c = hI g c := by rw [uI' c t.1, x1 c (by omega) (by omega) (by omega)]
  refine next u kd st ps e ts ?_ ?_ ?_ ?_
  · exact ⟨⟨u5.1, u5.2, by rw [u26 2 (by omega) (by omega)]; exact g26.2.1, by rw [u26 9 (by omega) (by omega)]; exact g26.2.2.2⟩, ⟨by omega, fun j hj => by rw [uI' 24 (by omega), uI' 25 (by omega)]; exact tr j hj⟩, ⟨by rw [uR']; exact gR.1, fun a1 a2 a3 a4 => by rw [uR']; exact gRF a1 a2 a3 a4⟩, by rw [uc]; exact gc.1, fun j o hj => by cases hj⟩
  · exact ⟨fun k hk => ⟨fun z => (by rw [uc, gc.2.1] at z; exact absurd z (bt_0 (by omega))), fun z => absurd rfl z⟩, fun k l _ z => (nomatch z), fun q _ _ l z => (nomatch z)⟩
  · exact ⟨fun z z1 z2 z3 z4 z5 z6 z7 z8 => by rw [uI' z z1, x1 z z6 z7 z8]; exact gI z z1 z2, fun j hj => by rw [uI' 22 (by omega), x2 j hj, gI 22 (by omega) (Ne.symm tt.1)], fun z j hh => by rw [uR']; exact gR.2 z j hh, by rw [u26 1 (by omega) (by omega)]; exact g26.1⟩
  · rw [u26 3 (by omega) (by omega)]; exact g26.2.2.1
/-- the reference begins -/
theorem begM {P : Int32 × Hp → Prop} {k : Hp → Option (Int32 × Hp)} {kd st ps : Nat → Nat} {e : Nat} (hN : 1000 ≤ N) (hsl : sl < 4) (h2 : hI m 1 2 = nI sl) (bm : ByM m b n) (ts : Tks b n kd st ps e) (next : ∀ u, MC b n kd st ps sl 0 0 [] u → MT (fun _ => none) [] sl 0 u → FEX sl m u → Wp (k u) P) : Wp (bnd (uI m 0 13 ((620 : Int32) * (hI m 1 (ix (2 : Int32))))) fun h1 => gd (inb (hI h1 0 13) 2480) <| bnd (uI h1 3 (ix (hI h1 0 13)) (0 : Int32)) fun h3 => bnd (uI h3 0 15 (0 : Int32)) fun h4 => bnd (uI h4 0 19 (0 : Int32)) fun h5 => bnd (uI h5 0 22 (0 : Int32)) fun h6 => bnd (uI h6 0 8 (0 : Int32)) fun h7 => (f159 N h7).bind fun q8 => k q8) P := by
  have e13 : (620 : Int32) * hI m 1 (ix (2 : Int32)) = nI (620 * sl) := by
    show nI 620 * hI m 1 2 = _
    rw [h2, pk_mul]
  have e1 : hI (uI m 0 13 (nI (620 * sl))) 0 13 = nI (620 * sl) := by rw [hI_uI_eq, pu_eq]
  rw [e13, Wp_bnd, Wp_gd, e1, nix (by omega), Wp_bnd, Wp_bnd, Wp_bnd, Wp_bnd, Wp_bnd]
  refine ⟨nbk (by omega) (by omega), ?_⟩
  generalize hw : uI (uI (uI (uI (uI (uI m 0 13 (nI (620 * sl))) 3 (620 * sl) 0) 0 15 0) 0 19 0) 0 22 0) 0 8 0 = w
  have w0 : ∀ j, j ≠ 13 → j ≠ 15 → j ≠ 19 → j ≠ 22 → j ≠ 8 → hI w 0 j = hI m 0 j := fun j j1 j2 j3 j4 j5 => by rw [← hw, hI_uI_eq, pu_ne j5, hI_uI_eq, pu_ne j4, hI_uI_eq, pu_ne j3, hI_uI_eq, pu_ne j2, hI_uI_ne (by omega), hI_uI_eq, pu_ne j1]
  have wz : ∀ z, z ≠ 0 → z ≠ 3 → hI w z = hI m z := fun z z1 z2 => by rw [← hw, hI_uI_ne z1, hI_uI_ne z1, hI_uI_ne z1, hI_uI_ne z1, hI_uI_ne z2, hI_uI_ne z1]
  have w3 : hI w 3 = pu (hI m 3) (620 * sl) 0 := by rw [← hw, hI_uI_ne (by omega), hI_uI_ne (by omega), hI_uI_ne (by omega), hI_uI_ne (by omega), hI_uI_eq, hI_uI_ne (by omega)]
  have w13 : hI w 0 13 = nI (620 * sl) ∧ hI w 0 15 = 0 ∧ hI w 0 19 = 0 ∧ hI w 0 22 = 0 ∧ hI w 0 8 = 0 := by
    have e : hI w 0 = pu (pu (pu (pu (pu (hI m 0) 13 (nI (620 * sl))) 15 0) 19 0) 22 0) 8 0 := by rw [← hw, hI_uI_eq, hI_uI_eq, hI_uI_eq, hI_uI_eq, hI_uI_ne (by omega), hI_uI_eq]
    rw [e]
    exact ⟨by rw [pu_ne (by omega), pu_ne (by omega), pu_ne (by omega), pu_ne (by omega), pu_eq], by rw [pu_ne (by omega), pu_ne (by omega), pu_ne (by omega), pu_eq], by rw [pu_ne (by omega), pu_ne (by omega), pu_eq], by rw [pu_ne (by omega), pu_eq], pu_eq⟩
  clear hw
  have bw : ByM w b n := ⟨by rw [w0 5 (by omega) (by omega) (by omega) (by omega) (by omega)]; exact bm.1, bm.2.1, fun j hj => by rw [wz 4 (by omega) (by omega)]; exact bm.2.2 j hj⟩
  rw [Wp_bind]
  refine Wp_mono (nextM_w (N := N) (by omega) bw (ts.2.1 0 (by omega)) (by rw [w13.2.2.2.2, ts.1]; rfl)) (fun m1 ⟨n1, n2, n3, n4⟩ => ?_)
  refine next m1 ⟨ByM_n bw n1, n2, n3, n4, by rw [n1.2 19 (by omega)]; exact w13.2.2.1, by rw [n1.2 13 (by omega)]; exact w13.1, by rw [n1.2 15 (by omega)]; exact w13.2.1, fun j o hj => (nomatch hj)⟩ ⟨by rw [n1.1 3 (by omega), w3, pu_eq]; rfl, fun k hk => by omega, fun s _ z => absurd rfl z, fun k k' hk => by omega, fun s hs => ⟨fun z => (by rw [n1.2 22 (by omega), w13.2.2.2.1] at z; exact absurd z (bt_0 (by omega))), fun z => absurd rfl z⟩⟩ ⟨fun z z1 z2 z3 => by rw [n1.1 z z1]; exact wz z z1 z2, fun j hj => by rw [n1.2 j (by omega)]; exact w0 j (by omega) (by omega) (by omega) (by omega) (by omega), fun r hr => by rw [n1.1 3 (by omega), w3, pu_ne (by omega)]⟩
/-- what both make of the text -/
def RdB (c sl : Nat) (u m1 : Hp) (x : Int32 × Hp) (y : Int32 × Hp) : Prop := FRT c u x.2 ∧ FEM sl m1 y.2 ∧ ((x.1 = 1 ∧ y.1 = 0 ∧ hI x.2 26 2 = 0 ∧ hI x.2 26 3 = -1 ∧ ∃ T', TxX T' x.2 c ∧ TxM T' (hI y.2 3) (620 * sl) ∧ WfT T') ∨ (x.1 = 0 ∧ ¬ y.1 = 0 ∧ hI x.2 26 2 = y.1 ∧ hI x.2 26 3 = hI y.2 0 9))
theorem loop_j {kd st ps : Nat → Nat} {e : Nat} {u m1 : Hp} (hN : 2000 ≤ N) (tc : TC c) (hsl : sl < 4) (ts : Tks b n kd st ps e) (cb0 : CB kd st e c 0 [] u) (xt0 : XT (fun _ => none) [] c u) (u3 : hI u 26 3 = -1) (mc0 : MC b n kd st ps sl 0 0 [] m1) (mt0 : MT (fun _ => none) [] sl 0 m1) : Wp ((lp (f40_l33 N) N ((0 : Int32), u)).bind fun q17 => if (hI q17.2.2 26 2) = 0 then some ((1 : Int32), q17.2.2) else some ((0 : Int32), q17.2.2)) fun x => Wp ((lp (f181_l28 N) N ((0 : Int32), m1)).bind fun q12 => if q12.1 = 0 then some (q12.2.1, q12.2.2) else some ((0 : Int32), q12.2.2)) fun y => RdB c sl u m1 x y := by
  have he := ts.2.2.2.2
  have hkd := kb_of ts
  have endM : ∀ (q : Nat × (Int32 × Hp)) (P : Int32 × Hp → Prop), lp (f181_l28 N) N ((0 : Int32), m1) = some q → P ((if q.1 = 0 then q.2.1 else 0), q.2.2) → Wp ((lp (f181_l28 N) N ((0 : Int32), m1)).bind fun q12 => if q12.1 = 0 then some (q12.2.1, q12.2.2) else some ((0 : Int32), q12.2.2)) P := by
    intro q P hq hP
    rw [hq, Option.bind_some]
    by_cases c0 : q.1 = 0
    · rw [if_pos c0, Wp_some]; rw [if_pos c0] at hP; exact hP
    · rw [if_neg c0, Wp_some]; rw [if_neg c0] at hP; exact hP
  rw [Wp_bind]
  refine Wp_lp (fun mm x => ∃ j : Nat, x.1 = nI j ∧ j ≤ 4 ∧ ((∃ i ops T y, mm + j = 5 ∧ ops.length ≤ i ∧ CB kd st e c i ops x.2 ∧ XT T ops c x.2 ∧ MC b n kd st ps sl i 0 ops y ∧ MT T ops sl j y ∧ WfT T ∧ FRT c u x.2 ∧ FEM sl m1 y ∧ ∀ f, lp (f181_l28 N) (f + j) ((0 : Int32), m1) = lp (f181_l28 N) f ((0 : Int32), y)) ∨ ∃ code jj y, FdE code (st jj) x.2 ∧ FRT c u x.2 ∧ hI y 0 9 = nI (st jj) ∧ FEM sl m1 y ∧ lp (f181_l28 N) N ((0 : Int32), m1) = some (0, (nI code, y)))) ?_ N 5 _ (by omega) ?_
  case refine_2 =>
    refine ⟨0, rfl, by omega, Or.inl ⟨0, [], fun _ => none, m1, ?_, ?_, cb0, xt0, mc0, mt0, ?_, FRT.rfl', FEM.rfl', ?_⟩⟩
    · omega
    · exact Nat.le_refl 0
    · intro s l _ z; cases z
    · intro f; rw [Nat.add_zero]
  rintro mm ⟨_, z⟩ ⟨j, hj, j4, hx⟩
  dsimp only at hj hx
  subst hj
  unfold f40_l33
  dsimp only
  rcases hx with ⟨i, ops, T, y, mj, hl, cb, xt, mc, mt, wf, fz, fy, ry⟩ | ⟨code, jj, y, f1, f2, f3, f4, f5⟩
  · have c3 := MT_3 mt
    have hi := cb.2.1.1
    have kb := hkd i hi
    rw [if_neg (show ¬ (3 : Int32) < nI j by rw [ti_lt, ti_nI (by omega)]; show ¬ (3 : Int) < _; omega), cb.1.2.1]
    have tk0 := (tk_lo mc.2.2.2.1).1
    by_cases c27 : kd i = 27
    · rw [if_pos (show nI (kd i) = 27 by rw [c27]; rfl), Wp_some]
      refine Or.inr ⟨0, rfl, ?_⟩
      dsimp only
      rw [cb.1.2.2.1, if_pos rfl, Wp_some]
      have el : lp (f181_l28 N) N ((0 : Int32), m1) = some (1, ((0 : Int32), y)) := by
        have := ry (N - j)
        rw [show N - j + j = N by omega] at this
        rw [this, show N - j = (N - j - 1) + 1 by omega]
        show (f181_l28 N (0, y)).bind _ = _
        have : f181_l28 N ((0 : Int32), y) = some (2, ((0 : Int32), y)) := by
          unfold f181_l28
          dsimp only
          rw [if_pos (tk0.2 c27)]
        rw [this]
        rfl
      refine endM _ _ el ?_
      exact ⟨fz, fy, Or.inl ⟨rfl, rfl, cb.1.2.2.1, (fz.2.2.2 cb.1.2.2.1).2.trans u3, T, XT_x tc (by omega) cb xt, MT_m (by omega) mc mt, wf⟩⟩
    · rw [if_neg (show ¬ nI (kd i) = 27 from fun q => c27 (nI_inj (by omega) (by omega) (show nI (kd i) = nI 27 from q))), cb.1.2.2.1, if_pos rfl, Wp_bind]
      refine Wp_mono (clause_j hN ts hkd tc hsl hl wf cb xt mc mt) (fun v hv => ?_)
      obtain ⟨y', q1, q2⟩ := hv
      rw [Wp_bnd, Wp_some, nI_1]
      have step : ∀ f, lp (f181_l28 N) (f + 1) ((0 : Int32), y) = (if y'.1 = 0 then lp (f181_l28 N) f (y'.1, y'.2) else some (0, (y'.1, y'.2))) := fun f => by
        have e : f181_l28 N ((0 : Int32), y) = if y'.1 = 0 then some (0, (y'.1, y'.2)) else some (1, (y'.1, y'.2)) := by
          unfold f181_l28
          dsimp only
          rw [if_neg (fun q => c27 (tk0.1 q)), q1, Option.bind_some]
        show (f181_l28 N (0, y)).bind _ = _
        rw [e]
        by_cases c0 : y'.1 = 0
        · rw [if_pos c0, if_pos c0]; rfl
        · rw [if_neg c0, if_neg c0]; rfl
      rcases q2 with ⟨i', ops', T', a1, a2, a3, a4, a5, a6, a7, a8, a9, a10⟩ | ⟨code, jj, a1, a2, a3, a4, a5⟩
      · refine Or.inl ⟨rfl, mm - 1, by omega, j + 1, rfl, by omega, Or.inl ⟨i', ops', T', y'.2, by omega, a2, a3, a4, a6, a7, a8, fz.trans a9, fy.trans a10, fun f => ?_⟩⟩
        have := ry (f + 1)
        rw [show f + 1 + j = f + (j + 1) by omega, step f, if_pos a5, a5] at this
        exact this
      · have c5 := a1.1
        refine Or.inl ⟨rfl, mm - 1, by omega, j + 1, rfl, by omega, Or.inr ⟨code, jj, y'.2, a1, fz.trans a2, a4, fy.trans a5, ?_⟩⟩
        have := ry (N - j)
        rw [show N - j + j = N by omega, show N - j = (N - j - 1) + 1 by omega, step, if_neg (by rw [a3, ti_eq, ti_nI (by omega)]; show ¬ _ = (0 : Int); omega), a3] at this
        exact this
  · have c5 := f1.1
    have e2 : ¬ hI z 26 2 = 0 := by rw [f1.2.1, ti_eq, ti_nI (by omega)]; show ¬ _ = (0 : Int); omega
    have ex : (if (3 : Int32) < nI j then (some (1, (nI j, z)) : Option (Nat × (Int32 × Hp))) else (if hI z 26 6 = (27 : Int32) then some (1, (nI j, z)) else (if hI z 26 2 = 0 then (f44 N z).bind fun q15 => bnd (nI j + (1 : Int32)) fun v16 => some (0, (v16, q15)) else some (1, (nI j, z))))) = some (1, (nI j, z)) := by
      by_cases c3 : (3 : Int32) < nI j
      · rw [if_pos c3]
      · rw [if_neg c3, f1.2.2.2, if_neg (by decide), if_neg e2]
    rw [ex, Wp_some]
    refine Or.inr ⟨0, rfl, ?_⟩
    dsimp only
    rw [if_neg e2, Wp_some]
    refine endM _ _ f5 ?_
    refine ⟨f2, f4, Or.inr ⟨rfl, ?_, ?_, ?_⟩⟩
    · dsimp only; rw [if_pos rfl, ti_eq, ti_nI (by omega)]; show ¬ _ = (0 : Int); omega
    · dsimp only; rw [if_pos rfl]; exact f1.2.1
    · dsimp only; rw [f1.2.2.1]; exact f3.symm
theorem read_j (hN : 2000 ≤ N) (tc : TC c) (hsl : sl < 4) (h2 : hI m 1 2 = nI sl) (rf : RF h) (bx : ByX h b n) (bm : ByM m b n) : Wp (f40 N c h) fun x => Wp (f181 N m) fun y => FRX c h x.2 ∧ FEX sl m y.2 ∧ ((x.1 = 1 ∧ y.1 = 0 ∧ hI x.2 26 2 = 0 ∧ hI x.2 26 3 = -1 ∧ ∃ T', TxX T' x.2 c ∧ TxM T' (hI y.2 3) (620 * sl) ∧ WfT T') ∨ (x.1 = 0 ∧ ¬ y.1 = 0 ∧ hI x.2 26 2 = y.1 ∧ hI x.2 26 3 = hI y.2 0 9)) := by
  have t := tc_26 tc
  have tt : c ≠ 22 ∧ c + 1 ≠ 22 ∧ c + 2 ≠ 22 ∧ c + 3 ≠ 22 := by rcases tc with rfl | rfl | rfl | rfl | rfl <;> omega
  refine begX (k := fun h11 => (lp (f40_l33 N) N ((0 : Int32), h11)).bind fun q17 => if (hI q17.2.2 26 2) = 0 then some ((1 : Int32), q17.2.2) else some ((0 : Int32), q17.2.2)) (by omega) tc rf bx (fun u kd st ps e ts cb xt fu u3 => ?_)
  refine Wp_swap ?_
  refine begM (k := fun q8 => (lp (f181_l28 N) N ((0 : Int32), q8)).bind fun q12 => if q12.1 = 0 then some (q12.2.1, q12.2.2) else some ((0 : Int32), q12.2.2)) (by omega) hsl h2 bm ts (fun m1 mc mt fm => ?_)
  refine Wp_swap ?_
  refine Wp_mono (loop_j hN tc hsl ts cb xt u3 mc mt) (fun x hx => Wp_mono hx (fun y ⟨f1, f2, f3⟩ => ⟨⟨fun a a1 a2 a3 a4 a5 a6 a7 a8 => (f1.1 a a1 a2 a3 a4 a5).trans (fu.1 a a1 a2 a3 a4 a5 a6 a7 a8), fun j hj => by rw [f1.1 22 (by omega) (Ne.symm tt.1) (Ne.symm tt.2.1) (Ne.symm tt.2.2.1) (Ne.symm tt.2.2.2)]; exact fu.2.1 j hj, fun a j hh => by rw [f1.2.2.1]; exact fu.2.2.1 a j hh, by rw [f1.2.1]; exact fu.2.2.2⟩, ⟨fun a a1 a2 a3 => (f2.1 a a1 a2 a3).trans (fm.1 a a1 a2 a3), fun j hj => (f2.2.1 j (by omega) (by omega) (by omega)).trans (fm.2.1 j hj), fun r hr => (f2.2.2 r hr).trans (fm.2.2 r hr)⟩, f3⟩))
end
