/-! ===== a clause: all of it ===== -/
def putT (T : Tc) (s : Nat) (w : List Nat) : Tc := fun k => if k = s then some w else T k
theorem putT_s {T : Tc} {s : Nat} {w : List Nat} : putT T s w s = some w := if_pos rfl
theorem putT_n {T : Tc} {s k : Nat} {w : List Nat} (h : k ≠ s) : putT T s w k = T k := if_neg h
theorem Wp_and {α : Type} {o : Option α} {Q P : α → Prop} (h1 : Wp o Q) (h2 : Wp o P) : Wp o (fun a => Q a ∧ P a) := by
  obtain ⟨a, e, q⟩ := h1
  obtain ⟨a', e', q'⟩ := h2
  rw [e] at e'
  have : a = a' := Option.some.inj e'
  subst this
  exact ⟨a, e, q, q'⟩
theorem Wp_swap {α β : Type} {A : Option α} {B : Option β} {R : α → β → Prop} (h : Wp A fun a => Wp B fun b => R a b) : Wp B fun b => Wp A fun a => R a b := by
  obtain ⟨a, ea, b, eb, r⟩ := h
  exact ⟨b, eb, a, ea, r⟩
theorem step_x {N i : Nat} {h : Hp} (hi : i < 300) (x : hI h 26 5 = nI i) : Wp (f41 N h) fun u => ∀ z, z ≠ 26 → hI u z = hI h z := by
  unfold f41
  have e5 : hI (uI h 26 5 (nI (i + 1))) 26 5 = nI (i + 1) := by rw [hI_uI_eq, pu_eq]
  rw [x, nI_1, if_neg (show ¬ (301 : Int32) ≤ nI (i + 1) by rw [ti_le, ti_nI (by omega)]; show ¬ (301 : Int) ≤ _; omega), Wp_bnd, Wp_gd, e5]
  refine ⟨nbk (by omega) (by omega), ?_⟩
  rw [Wp_bnd, Wp_some]
  exact fun z hz => by rw [hI_uI_ne hz, hI_uI_ne hz]
theorem MT_c {T : Tc} {ops : List Nat} {sl cnt : Nat} {m m' : Hp} (x : MT T ops sl cnt m) (e3 : ∀ r, r < 620 * sl + 15 → hI m' 3 r = hI m 3 r) (e22 : hI m' 0 22 = hI m 0 22) : MT T ops sl cnt m' := by
  have c3 := MT_3 x
  obtain ⟨x1, x2, x3, x4, x5⟩ := x
  refine ⟨by rw [e3 _ (by omega)]; exact x1, fun k hk => ?_, fun s hs hT => ?_, fun k k' hk hk' => ?_, fun s hs => by rw [e22]; exact x5 s hs⟩
  · rw [e3 _ (by omega), e3 _ (by omega), e3 _ (by omega)]; exact x2 k hk
  · obtain ⟨k, k1, k2⟩ := x3 s hs hT
    exact ⟨k, k1, by rw [e3 _ (by omega)]; exact k2⟩
  · rw [e3 _ (by omega), e3 _ (by omega)]; exact x4 k k' hk hk'
section
variable {N e c sl i : Nat} {kd st ps b : Nat → Nat} {ops : List Nat} {h m : Hp} {nn : Nat} {T : Tc}
theorem fin_j {s cnt i' : Nat} {w : List Nat} {v z m1 y : Hp} (hN : 1000 ≤ N) (ts : Tks b nn kd st ps e) (hkd : ∀ j, j ≤ e → kd j ≤ 10100) (tc : TC c) (hs : s < 3) (hsl : sl < 4) (hc : cnt ≤ 2) (hi : i < i') (hw : w.length + i ≤ i') (hl : ops.length ≤ i) (wf : WfT T) (ty : tcs w (0, 0) = some (if s = 2 then (0, 1) else (1, 0))) (wd : Wd s w) (xt : XT T ops c h) (mt : MT T ops sl cnt m) (Ts : T s = none)
    (cz : CS kd st e c s ops.length i' 0 (ops ++ w) z) (fz : FR c s v z) (fv : FRT c h v) (v5 : hI v c 5 = hI h c 5) (v4 : ∀ k, k < 32 → (bt (hI v c 4) k ↔ bt (hI h c 4) k ∨ k = s)) (v23 : ∀ k, k ≠ s → hI v (c + 2) k = hI h (c + 2) k ∧ hI v (c + 3) k = hI h (c + 3) k) (v2 : hI v (c + 2) s = nI ops.length)
    (my : MC b nn kd st ps sl i' 0 (ops ++ w) y) (fy : FE sl m1 y) (fm1 : FEM sl m m1) (h22 : ∀ k, k < 3 → (bt (hI m1 0 22) k ↔ bt (hI m 0 22) k ∨ k = s)) (m3 : ∀ r, r ≠ 620 * sl + 1 + 3 * cnt → r ≠ 620 * sl + 2 + 3 * cnt → hI m1 3 r = hI m 3 r) (m3a : hI m1 3 (620 * sl + 1 + 3 * cnt) = nI s) (m3b : hI m1 3 (620 * sl + 2 + 3 * cnt) = nI ops.length) : Wp (f43 N (26 : Int32) z) fun u => Wp (f180_b64 N (nI (620 * sl + 1 + 3 * cnt)) 0 y) fun y => ClB b nn kd st ps e c sl i cnt T h m u y := by
  have he := ts.2.2.2.2
  have hi' := cz.2.1.1
  have kb := hkd i' hi'
  have t := tc_26 tc
  have t2 : c + 2 ≠ 26 := by rcases tc with rfl | rfl | rfl | rfl | rfl <;> omega
  obtain ⟨mt1, mt2, mt3, mt4, mt5⟩ := mt
  obtain ⟨xt1, xt2, xt3⟩ := xt
  have my0 := my
  obtain ⟨⟨a1, a2, a3⟩, x2, x3, x4, x5, x6, x7, x8⟩ := my
  have el : (ops ++ w).length = ops.length + w.length := List.length_append
  -- the reference's head
  have yr : ∀ r, r < 620 * sl + 15 → r ≠ 620 * sl + 1 + 3 * cnt → r ≠ 620 * sl + 2 + 3 * cnt → hI y 3 r = hI m 3 r := fun r h1 h2 h3 => (fy.2.2 r (Or.inl h1)).trans (m3 r h2 h3)
  have ya : hI y 3 (620 * sl + 1 + 3 * cnt) = nI s := (fy.2.2 _ (Or.inl (by omega))).trans m3a
  have yb : hI y 3 (620 * sl + 2 + 3 * cnt) = nI ops.length := (fy.2.2 _ (Or.inl (by omega))).trans m3b
  generalize hg : uI (uI y 3 (620 * sl + 1 + 3 * cnt + 2) (nI (ops ++ w).length)) 3 (620 * sl) (nI (cnt + 1)) = g
  have g3 : ∀ r, hI g 3 r = if r = 620 * sl then nI (cnt + 1) else if r = 620 * sl + 1 + 3 * cnt + 2 then nI (ops ++ w).length else hI y 3 r := fun r => by
    rw [← hg, hI_uI_eq]
    unfold pu
    rw [hI_uI_eq]
    unfold pu
    rfl
  have gz : ∀ x, x ≠ 3 → hI g x = hI y x := fun x hx => by rw [← hg, hI_uI_ne hx, hI_uI_ne hx]
  have mg : MC b nn kd st ps sl i' 0 (ops ++ w) g := by
    refine ⟨⟨by rw [gz 0 (by omega)]; exact a1, a2, fun k hk => by rw [gz 4 (by omega)]; exact a3 k hk⟩, by rw [gz 0 (by omega)]; exact x2, by rw [gz 0 (by omega)]; exact x3, ?_, by rw [gz 0 (by omega)]; exact x5, by rw [gz 0 (by omega)]; exact x6, by rw [gz 0 (by omega)]; exact x7, fun j o hj => ?_⟩
    · unfold Tk
      rw [gz 0 (by omega), show hL g = hL y by rw [← hg, hL_uI, hL_uI]]
      exact x4
    · rw [g3, g3, if_neg (by omega), if_neg (by omega), if_neg (by omega), if_neg (by omega)]
      exact x8 j o hj
  have fg : FEM sl m g := by
    rw [← hg]
    exact fm1.trans ((FEM.e fy).trans ((FEM.h (by omega) (by omega)).trans (FEM.h (by omega) (by omega))))
  have hb64 : f180_b64 N (nI (620 * sl + 1 + 3 * cnt)) 0 y = if hI g 0 10 = 59 then (f159 N g).bind fun q22 => some ((0 : Int32), q22) else some ((1 : Int32), g) := by
    have e2 : nI (620 * sl + 1 + 3 * cnt) + 2 = nI (620 * sl + 1 + 3 * cnt + 2) := nI_add _ 2
    have y0 : hI (uI y 3 (620 * sl + 1 + 3 * cnt + 2) (nI (ops ++ w).length)) 0 = hI y 0 := hI_uI_ne (by omega)
    have y3 : hI (uI y 3 (620 * sl + 1 + 3 * cnt + 2) (nI (ops ++ w).length)) 3 (620 * sl) = nI cnt := by rw [hI_uI_eq, pu_ne (by omega), yr _ (by omega) (by omega) (by omega)]; exact mt1
    unfold f180_b64
    rw [if_pos rfl, e2, gd_pos (nbk (by omega) (by omega)), nix (by omega), x7]
    show gd _ (gd _ (bnd _ _)) = _
    rw [y0, x6, gd_pos (nbk (by omega) (by omega)), gd_pos (nbk (by omega) (by omega)), nix (by omega), y3, nI_1]
    unfold bnd
    dsimp only
    rw [hg]
  -- the class's rows
  have z4 : hI z c 4 = hI v c 4 := fz.2.1
  have z2 : hI z (c + 2) = hI v (c + 2) := fz.1 (c + 2) t2 (by omega) (by omega) (by omega)
  have xtz : ∀ u : Hp, hI u c = hI z c → hI u (c + 2) = hI z (c + 2) → hI u (c + 3) = hI z (c + 3) → XT (putT T s w) (ops ++ w) c u := fun u u1 u2 u3 => by
    refine ⟨fun k hk => ?_, fun k l hk hl' => ?_, fun q hq hz l hl' => ?_⟩
    · rw [u1, z4, v4 k (by omega), xt1 k hk]
      by_cases ck : k = s
      · subst ck; rw [putT_s]; exact ⟨fun _ => (by intro zz; cases zz), fun _ => Or.inr rfl⟩
      · rw [putT_n ck]; exact ⟨fun zz => zz.resolve_right ck, Or.inl⟩
    · by_cases ck : k = s
      · subst ck
        rw [putT_s] at hl'
        have : w = l := Option.some.inj hl'
        subst this
        refine ⟨ops.length, by rw [u2, z2]; exact v2, by rw [u3, cz.2.2.2.2.2.1, el], by omega, fun j o hj => ?_⟩
        rw [List.getElem?_append_right (by omega), show ops.length + j - ops.length = j by omega]; exact hj
      · rw [putT_n ck] at hl'
        obtain ⟨f, f1, f2, f3, f4⟩ := xt2 k l hk hl'
        refine ⟨f, by rw [u2, z2, (v23 k ck).1]; exact f1, by rw [u3, fz.2.2.1 k ck, (v23 k ck).2]; exact f2, by omega, fun j o hj => ?_⟩
        have := f4 j o hj
        have hlt : f + j < ops.length := by
          refine Classical.byContradiction fun hh => ?_
          rw [List.getElem?_eq_none (by omega)] at this
          cases this
        rw [List.getElem?_append_left hlt]; exact this
    · by_cases c0 : s = 0
      · subst c0
        rw [putT_s] at hl'
        have : w = l := Option.some.inj hl'
        subst this
        intro hm
        obtain ⟨j, hj, ej⟩ := List.getElem_of_mem hm
        have gj : (ops ++ w)[ops.length + j]? = some q := by
          rw [List.getElem?_append_right (by omega), show ops.length + j - ops.length = j by omega, List.getElem?_eq_getElem hj, ej]
        have := cz.2.2.2.2.2.2 (ops.length + j) q (by omega) gj hq rfl
        rw [← u1] at this
        exact bt_n.2 hz this
      · rw [putT_n (Ne.symm c0)] at hl'
        refine xt3 q hq ?_ l hl'
        rw [u1, fz.2.2.2.2.2.1 c0, v5] at hz
        exact hz
  have mtg : MT (putT T s w) (ops ++ w) sl (cnt + 1) g := by
    have sne : ∀ k s' l', k < cnt → T s' = some l' → hI m 3 (620 * sl + 1 + 3 * k) = nI s' → s' ≠ s := fun k s' l' _ h2 _ h3 => by
      rw [h3, Ts] at h2; cases h2
    have gold : ∀ k d, k < cnt → 1 ≤ d → d ≤ 3 → hI g 3 (620 * sl + d + 3 * k) = hI m 3 (620 * sl + d + 3 * k) := fun k d hk h1 h3 => by
      rw [g3, if_neg (by omega), if_neg (by omega)]
      exact yr _ (by omega) (by omega) (by omega)
    have gna : hI g 3 (620 * sl + 1 + 3 * cnt) = nI s := by rw [g3, if_neg (by omega), if_neg (by omega)]; exact ya
    refine ⟨by rw [g3, if_pos rfl], fun k hk => ?_, fun s' hs' hT => ?_, fun k k' hk hk' hE => ?_, fun s' hs' => ?_⟩
    · by_cases ck : k = cnt
      · subst ck
        refine ⟨s, w, ops.length, hs, putT_s, gna, ?_, ?_, by omega, fun j o hj => ?_⟩
        · rw [g3, if_neg (by omega), if_neg (by omega)]; exact yb
        · rw [g3, if_neg (by omega), if_pos (by omega), el]
        · rw [List.getElem?_append_right (by omega), show ops.length + j - ops.length = j by omega]; exact hj
      · obtain ⟨s', l, f, q1, q2, q3, q4, q5, q6, q7⟩ := mt2 k (by omega)
        refine ⟨s', l, f, q1, ?_, by rw [gold k 1 (by omega) (by omega) (by omega)]; exact q3, by rw [gold k 2 (by omega) (by omega) (by omega)]; exact q4, by rw [gold k 3 (by omega) (by omega) (by omega)]; exact q5, by omega, fun j o hj => ?_⟩
        · rw [putT_n (sne k s' l (by omega) q2 q3)]; exact q2
        · have := q7 j o hj
          have hlt : f + j < ops.length := by
            refine Classical.byContradiction fun hh => ?_
            rw [List.getElem?_eq_none (by omega)] at this
            cases this
          rw [List.getElem?_append_left hlt]; exact this
    · by_cases cs : s' = s
      · subst cs; exact ⟨cnt, by omega, gna⟩
      · rw [putT_n cs] at hT
        obtain ⟨k, k1, k2⟩ := mt3 s' hs' hT
        exact ⟨k, by omega, by rw [gold k 1 k1 (by omega) (by omega)]; exact k2⟩
    · have diff : ∀ k, k < cnt → ¬ hI m 3 (620 * sl + 1 + 3 * k) = nI s := fun k hk z => by
        obtain ⟨s', l, f, q1, q2, q3, _⟩ := mt2 k hk
        exact sne k s' l hk q2 q3 (nI_inj (by omega) (by omega) (q3.symm.trans z))
      by_cases ck : k = cnt
      · by_cases ck' : k' = cnt
        · omega
        · subst ck
          rw [gna, gold k' 1 (by omega) (by omega) (by omega)] at hE
          exact absurd hE.symm (diff k' (by omega))
      · by_cases ck' : k' = cnt
        · subst ck'
          rw [gna, gold k 1 (by omega) (by omega) (by omega)] at hE
          exact absurd hE (diff k (by omega))
        · rw [gold k 1 (by omega) (by omega) (by omega), gold k' 1 (by omega) (by omega) (by omega)] at hE
          exact mt4 k k' (by omega) (by omega) hE
    · have e22 : hI g 0 22 = hI m1 0 22 := by rw [gz 0 (by omega)]; exact fy.2.1 22 (by omega) (by omega) (by omega)
      rw [e22, h22 s' hs', mt5 s' hs']
      by_cases cs : s' = s
      · subst cs; rw [putT_s]; exact ⟨fun _ => (by intro zz; cases zz), fun _ => Or.inr rfl⟩
      · rw [putT_n cs]; exact ⟨fun zz => zz.resolve_right cs, Or.inl⟩
  have wfT : WfT (putT T s w) := fun s' l hs' hl' => by
    by_cases cs : s' = s
    · subst cs
      rw [putT_s] at hl'
      have : w = l := Option.some.inj hl'
      subst this
      exact ⟨ty, wd⟩
    · rw [putT_n cs] at hl'
      exact wf s' l hs' hl'
  have tkg : hI g 0 10 = 59 ↔ kd i' = 26 := tk_sg mg.2.2.2.1 (c := 26) (by omega) (by omega)
  have fvz : FRT c h z := fv.trans (FRT.r fz)
  unfold f43
  rw [cz.1.2.1, hb64]
  by_cases c26 : kd i' = 26
  · have hlt : i' < e := by
      refine Classical.byContradiction fun hh => ?_
      have e1 : i' = e := by omega
      rw [e1] at c26
      rcases ts.2.2.1 with q | q <;> omega
    rw [if_pos (show nI (kd i') = 26 by rw [c26]; rfl), if_pos (tkg.2 c26), Wp_bind]
    refine Wp_mono (Wp_and (step_w he tc hlt cz) (step_x (by omega) cz.1.1)) (fun u ⟨⟨u1, u2⟩, u3⟩ => ?_)
    rw [Wp_some, Wp_bind]
    refine Wp_mono (MC_n hN ts hlt mg) (fun r ⟨r1, r2⟩ => ?_)
    rw [Wp_some]
    exact Or.inl ⟨i' + 1, ops ++ w, putT T s w, by omega, by omega, ⟨⟨u1.1.1, u1.1.2.1, u1.1.2.2.1, u1.1.2.2.2.1⟩, u1.2.1, u1.2.2.1, u1.2.2.2.1, u1.2.2.2.2.1⟩, xtz u (u3 c (by omega)) (u3 (c + 2) t2) (u3 (c + 3) (by omega)), rfl, r2, MT_c mtg (fun r' _ => by rw [r1.1 3 (by omega)]) (r1.2 22 (by omega)), wfT, fvz.trans (FRT.r u2), fg.trans (FEM.e (FE.n r1))⟩
  · rw [if_neg (show ¬ nI (kd i') = 26 from fun q => c26 (nI_inj (by omega) (by omega) (show nI (kd i') = nI 26 from q))), if_neg (fun q => c26 (tkg.1 q)), Wp_bind]
    refine Wp_mono (show Wp (f42 N (nI 1) z) _ from fail_w (code := 1) he tc (by omega) (by omega) (by omega) cz) (fun u ⟨u1, u2⟩ => ?_)
    rw [Wp_some, Wp_some]
    exact Or.inr ⟨1, i', ⟨u1.1, u1.2.1, u1.2.2.1, u1.2.2.2.1⟩, fvz.trans (FRT.r u2), rfl, mg.2.2.1, fg⟩
theorem clause_j {cnt : Nat} (hN : 2000 ≤ N) (ts : Tks b nn kd st ps e) (hkd : ∀ j, j ≤ e → kd j ≤ 10100) (tc : TC c) (hsl : sl < 4) (hl : ops.length ≤ i) (wf : WfT T) (cb : CB kd st e c i ops h) (xt : XT T ops c h) (mc : MC b nn kd st ps sl i 0 ops m) (mt : MT T ops sl cnt m) : Wp (f44 N h) fun u => Wp (f180 N m) fun y => ClB b nn kd st ps e c sl i cnt T h m u y := by
  have he := ts.2.2.2.2
  have s1 := (tc_shp tc).1
  have t := tc_26 tc
  have hi := cb.2.1.1
  have kb := hkd i hi
  have c3 := MT_3 mt
  have tk := mc.2.2.2.1
  unfold f44 f180
  rw [cb.1.2.1, sort_w tk, Option.bind_some]
  have fl : ¬ (11 ≤ kd i ∧ kd i ≤ 13) → Wp ((f42 N (1 : Int32) h).bind fun q => some q) fun u => Wp (some ((1 : Int32), m)) fun y => ClB b nn kd st ps e c sl i cnt T h m u y := fun hk => by
    rw [Wp_bind]
    refine Wp_mono (show Wp (f42 N (nI 1) h) _ from failB_w (code := 1) he (by omega) (by omega) cb) (fun u ⟨u1, u2⟩ => ?_)
    rw [Wp_some, Wp_some]
    exact Or.inr ⟨1, i, u1, u2, rfl, mc.2.2.1, FEM.rfl'⟩
  by_cases ck : 11 ≤ kd i ∧ kd i ≤ 13
  · rw [if_neg (show ¬ nI (kd i) < 11 by rw [ti_lt, ti_nI (by omega)]; show ¬ _ < (11 : Int); omega), if_pos (show nI (kd i) ≤ 13 by rw [ti_le, ti_nI (by omega)]; show _ ≤ (13 : Int); omega), Wp_bnd]
    rw [if_pos ck, if_pos (show 0 ≤ nI (kd i - 11) by rw [ti_le, ti_nI (by omega)]; show (0 : Int) ≤ _; omega), show nI (kd i) - (11 : Int32) = nI (kd i - 11) from pk_sub (a := kd i) (b := 11) (by omega)]
    generalize hs' : kd i - 11 = s
    have hs : s < 3 := by omega
    have hlt : i < e := by
      refine Classical.byContradiction fun hh => ?_
      have e1 : i = e := by omega
      rw [e1] at ck
      rcases ts.2.2.1 with q | q <;> omega
    -- the class has noted the clause
    have cb4 : CB kd st e c i ops (uI h 26 7 (nI s)) := by
      obtain ⟨⟨x1, x2, x3, x4⟩, ⟨x7, x8⟩, ⟨x9, x10⟩, x11, x12⟩ := cb
      have r : ∀ k, k ≠ 7 → hI (uI h 26 7 (nI s)) 26 k = hI h 26 k := fun k k1 => by rw [hI_uI_eq, pu_ne k1]
      have rc : ∀ z, z ≠ 26 → hI (uI h 26 7 (nI s)) z = hI h z := fun z hz => hI_uI_ne hz
      exact ⟨⟨by rw [r 5 (by omega)]; exact x1, by rw [r 6 (by omega)]; exact x2, by rw [r 2 (by omega)]; exact x3, by rw [r 9 (by omega)]; exact x4⟩, ⟨x7, fun j hj => by rw [rc 24 (by omega), rc 25 (by omega)]; exact x8 j hj⟩, ⟨x9, x10⟩, by rw [rc c t.1]; exact x11, fun j o hj => by rw [rc (c + 1) t.2.1]; exact x12 j o hj⟩
    have h7 : hI (uI h 26 7 (nI s)) 26 7 = nI s := by rw [hI_uI_eq, pu_eq]
    rw [cb4.2.2.1.1, Option.bind_some, gd_pos s1, h7]
    unfold f78
    rw [gd_pos s1, Option.bind_some, hI_uI_ne t.1]
    have hx4 := xt.1 s hs
    have hm22 := mt.2.2.2.2 s hs
    by_cases cT : T s = none
    · have b0 : f123 (hI h c 4) (nI s) = 0 := bt_n.1 (fun z => (hx4.1 z) cT)
      have nb : ¬ bt (hI m 0 22) s := fun z => (hm22.1 z) cT
      rw [b0, if_pos (show (0 : Int32) &&& 1 = 0 from rfl), Option.bind_some, gd_pos s1, Wp_bind, if_neg (fun z => nb ((bit1 (by omega)).1 z))]
      refine Wp_mono (begin_c tc hs cb4 h7) (fun u ⟨u1, u2, u3, u4, u5, u6, u7⟩ => ?_)
      have h6 : hI u 26 6 = nI (kd i) := by rw [u3]; exact cb4.1.2.1
      -- the mask
      have mk : ∀ X : Option Hp, f44_b47 N (nI (nmk s)) u = X → (if hI u 26 6 = (11 : Int32) then f44_b47 N (127 : Int32) u else (if hI u 26 6 = (12 : Int32) then f44_b47 N (131 : Int32) u else f44_b47 N (35 : Int32) u)) = X := fun X hX => by
        rw [h6]
        have : s = 0 ∨ s = 1 ∨ s = 2 := by omega
        rcases this with q | q | q
        · rw [if_pos (show nI (kd i) = 11 by rw [show kd i = 11 by omega]; rfl)]
          rw [q] at hX; exact hX
        · rw [if_neg (show ¬ nI (kd i) = 11 by rw [show kd i = 12 by omega]; decide), if_pos (show nI (kd i) = 12 by rw [show kd i = 12 by omega]; rfl)]
          rw [q] at hX; exact hX
        · rw [if_neg (show ¬ nI (kd i) = 11 by rw [show kd i = 13 by omega]; decide), if_neg (show ¬ nI (kd i) = 12 by rw [show kd i = 13 by omega]; decide)]
          rw [q] at hX; exact hX
      rw [mk _ rfl]
      unfold f44_b47
      rw [Wp_bnd]
      have h66 : hI (uI u 26 8 (nI (nmk s))) 26 6 = nI (kd i) := by rw [hI_uI_eq, pu_ne (by omega)]; exact h6
      rw [h66]
      have b55 : ∀ t0 : Int32, (t0 = 0 ↔ s ≠ 2) → Wp (f44_b55 N t0 (uI u 26 8 (nI (nmk s)))) fun u => Wp (bnd (uI m 0 22 ((hI m 0 22) ||| ((1 : Int32) <<< (nI s &&& 31)))) fun h4 => bnd (uI h4 0 21 (nI s)) fun h5 => (f159 N h5).bind fun q6 => gd (inb (hI q6 0 13) 2480) <| bnd (((hI q6 0 13) + (1 : Int32)) + ((3 : Int32) * (hI q6 3 (ix (hI q6 0 13))))) fun v8 => gd (inb v8 2480) <| bnd (uI q6 3 (ix v8) (nI s)) fun h10 => gd (inb (v8 + (1 : Int32)) 2480) <| bnd (uI h10 3 (ix (v8 + (1 : Int32))) (hI h10 0 15)) fun h12 => if nI s = (2 : Int32) then (f178 N h12).bind fun q23 => f180_b64 N v8 q23.1 q23.2 else (f175 N h12).bind fun q14 => f180_b64 N v8 q14.1 q14.2) fun y => ClB b nn kd st ps e c sl i cnt T h m u y := by
        intro t0 ht0
        unfold f44_b55
        rw [Wp_bind]
        refine Wp_mono (Wp_and (step_w he tc hlt u1) (step_x (by omega) u1.1.1)) (fun v ⟨⟨v1, v2⟩, vx⟩ => ?_)
        have fv : FRT c h v := (FRT.u (by omega)).trans (u2.trans ((FRT.u (by omega)).trans (FRT.r v2)))
        have vc : ∀ z, z ≠ 26 → hI v z = hI u z := fun z hz => (vx z hz).trans (hI_uI_ne hz)
        have v5 : hI v c 5 = hI h c 5 := by rw [vc c t.1, u4, hI_uI_ne t.1]
        have v4 : ∀ k, k < 32 → (bt (hI v c 4) k ↔ bt (hI h c 4) k ∨ k = s) := fun k hk => by rw [vc c t.1, u5 k hk, hI_uI_ne t.1]
        have t2 : c + 2 ≠ 26 := by rcases tc with rfl | rfl | rfl | rfl | rfl <;> omega
        have v23 : ∀ k, k ≠ s → hI v (c + 2) k = hI h (c + 2) k ∧ hI v (c + 3) k = hI h (c + 3) k := fun k hk => by
          rw [vc (c + 2) t2, vc (c + 3) t.2.2.1, (u6 k hk).1, (u6 k hk).2, hI_uI_ne t2, hI_uI_ne t.2.2.1]; exact ⟨rfl, rfl⟩
        have vs : hI v (c + 2) s = nI ops.length := by rw [vc (c + 2) t2]; exact u7
        -- the reference's
        obtain ⟨m1, e1, n1, n2⟩ := MC_n (N := N) (by omega) ts hlt (MC_u (j := 21) (v := nI s) (MC_u (j := 22) (v := (hI m 0 22) ||| ((1 : Int32) <<< (nI s &&& 31))) mc (by omega)) (by omega))
        have m30 : hI m1 3 = hI m 3 := by rw [n1.1 3 (by omega), hI_uI_ne (by omega), hI_uI_ne (by omega)]
        have mh : ∀ (Q : Int32 × Hp → Prop) (kk : Int32 → Hp → Option (Int32 × Hp)), (∀ u', MC b nn kd st ps sl (i + 1) 0 ops u' → FEM sl m u' → hI u' 0 21 = nI s → (∀ k, k < 3 → (bt (hI u' 0 22) k ↔ bt (hI m 0 22) k ∨ k = s)) → (∀ r, r ≠ 620 * sl + 1 + 3 * cnt → r ≠ 620 * sl + 2 + 3 * cnt → hI u' 3 r = hI m 3 r) → hI u' 3 (620 * sl + 1 + 3 * cnt) = nI s → hI u' 3 (620 * sl + 2 + 3 * cnt) = nI ops.length → Wp (kk (nI (620 * sl + 1 + 3 * cnt)) u') Q) → Wp (bnd (uI m 0 22 ((hI m 0 22) ||| ((1 : Int32) <<< (nI s &&& 31)))) fun h4 => bnd (uI h4 0 21 (nI s)) fun h5 => (f159 N h5).bind fun q6 => gd (inb (hI q6 0 13) 2480) <| bnd (((hI q6 0 13) + (1 : Int32)) + ((3 : Int32) * (hI q6 3 (ix (hI q6 0 13))))) fun v8 => gd (inb v8 2480) <| bnd (uI q6 3 (ix v8) (nI s)) fun h10 => gd (inb (v8 + (1 : Int32)) 2480) <| bnd (uI h10 3 (ix (v8 + (1 : Int32))) (hI h10 0 15)) fun h12 => kk v8 h12) Q := by
          intro Q kk hk
          rw [Wp_bnd, Wp_bnd, e1, Option.bind_some]
          refine head_w hsl hs c3 n2 (by rw [m30]; exact mt.1) (k := kk) (fun u' a1 a2 a3 a4 a5 a6 => ?_)
          refine hk u' a1 ((FEM.u (by omega)).trans ((FEM.u (by omega)).trans ((FEM.e (FE.n n1)).trans a2))) ?_ (fun k hk3 => ?_) (fun r r1 r2 => by rw [a4 r r1 r2, m30]) a5 a6
          · rw [a3, n1.2 21 (by omega), hI_uI_eq, pu_eq]
          · rw [a3, n1.2 22 (by omega), hI_uI_eq, pu_ne (by omega), hI_uI_eq, pu_eq, bt_or (by omega), bt_one (by omega) (by omega)]
        have cnt2 : cnt ≤ 2 := by
          refine Classical.byContradiction fun hh => ?_
          have c3' : cnt = 3 := by omega
          obtain ⟨mt1, mt2, mt3, mt4, mt5⟩ := mt
          have := holes 3 4 (fun k x => (k < 3 ∧ x < 3 ∧ hI m 3 (620 * sl + 1 + 3 * k) = nI x) ∨ (k = 3 ∧ x = s)) (fun k hk => by
            by_cases k3 : k = 3
            · exact ⟨s, hs, Or.inr ⟨k3, rfl⟩⟩
            · obtain ⟨s', l, f, q1, q2, q3, _⟩ := mt2 k (by omega)
              exact ⟨s', q1, Or.inl ⟨by omega, q1, q3⟩⟩) (fun k k' x a1 a2 => by
            have no : ∀ k, k < 3 → ¬ hI m 3 (620 * sl + 1 + 3 * k) = nI s := fun k hk z => by
              obtain ⟨s', l, f, q1, q2, q3, _⟩ := mt2 k (by omega)
              have : s' = s := nI_inj (by omega) (by omega) (q3.symm.trans z)
              rw [this, cT] at q2; cases q2
            rcases a1 with ⟨a1, a1', a1''⟩ | ⟨a1, a1'⟩ <;> rcases a2 with ⟨a2, a2', a2''⟩ | ⟨a2, a2'⟩
            · exact mt4 k k' (by omega) (by omega) (a1''.trans a2''.symm)
            · subst a2'; exact absurd a1'' (no k a1)
            · subst a1'; exact absurd a2'' (no k' a2)
            · omega)
          omega
        refine Wp_swap ?_
        refine mh _ _ (fun u' a1 a2 a3 a4 a5 a6 a7 => ?_)
        refine Wp_swap ?_
        -- failed inside
        have bad : ∀ (z : Hp) (y : Int32 × Hp), BoF st c s sl v u' z y → Wp (f43 N (26 : Int32) z) fun u => Wp (f180_b64 N (nI (620 * sl + 1 + 3 * cnt)) y.1 y.2) fun y => ClB b nn kd st ps e c sl i cnt T h m u y := by
          rintro z y ⟨code, j, b1, b2, b3, b4, b5⟩
          have c5 := b1.1
          unfold f43 f180_b64
          rw [b1.2.2.2.1, if_neg (by decide), Wp_bind]
          refine Wp_mono (failF_w tc b1) (fun w ⟨w1, w2⟩ => ?_)
          rw [Wp_some, b3, if_neg (by rw [ti_eq, ti_nI (by omega)]; show ¬ _ = (0 : Int); omega), Wp_some]
          exact Or.inr ⟨code, j, ⟨w1.1, w1.2.1, w1.2.2.1, w1.2.2.2.1⟩, fv.trans ((FRT.r b2).trans (FRT.r w2)), rfl, b4, a2.trans (FEM.e b5)⟩
        by_cases s2 : s = 2
        · rw [if_neg (fun z => (ht0.1 z) s2), if_pos (show nI s = 2 by rw [s2]; rfl), Wp_bind]
          refine Wp_mono (either_j (N := N) hN ts hkd tc hs hsl (show ops.length ≤ i + 1 by omega) v1 a1 a3) (fun z hz => ?_)
          obtain ⟨y, y1, y2⟩ := hz
          rw [y1, Option.bind_some, Wp_bind]
          rcases y2 with ⟨i', w, b1, b2, b3, b4, b5, b6, b7, b8, b9, b10⟩ | y2
          · rw [b4]
            refine Wp_mono (fin_j (m1 := u') (by omega) ts hkd tc hs hsl cnt2 (show i < i' by omega) (by omega) hl wf ?_ b8 xt mt cT b3 b9 fv v5 v4 v23 vs b5 b10 a2 a4 a5 a6 a7) (fun q hq => ?_)
            · rw [if_pos s2]; exact b7 0 (by omega)
            · rw [Wp_some]; exact hq
          · exact Wp_mono (bad z y y2) (fun q hq => by rw [Wp_some]; exact hq)
        · rw [if_pos (ht0.2 s2), if_neg (show ¬ nI s = 2 from fun z => s2 (nI_inj (by omega) (by omega) (show nI s = nI 2 from z))), Wp_bind]
          refine Wp_mono (summed_j (N := N) (n := 60) (by omega) ts hkd tc hs hsl (by omega) (by omega) (show ops.length ≤ i + 1 by omega) v1 a1 a3) (fun z hz => ?_)
          obtain ⟨y, y1, y2⟩ := hz
          rw [y1, Option.bind_some, Wp_bind]
          rcases y2 with ⟨i', w, b1, b2, b3, b4, b5, b6, b7, b8, b9, b10⟩ | y2
          · rw [b4]
            refine Wp_mono (fin_j (m1 := u') (by omega) ts hkd tc hs hsl cnt2 (show i < i' by omega) (by omega) hl wf ?_ b8 xt mt cT b3 b9 fv v5 v4 v23 vs b5 b10 a2 a4 a5 a6 a7) (fun q hq => ?_)
            · rw [if_neg s2]; exact b7 0 0 (by omega)
            · rw [Wp_some]; exact hq
          · exact Wp_mono (bad z y y2) (fun q hq => by rw [Wp_some]; exact hq)
      by_cases s2 : s = 2
      · rw [if_pos (show nI (kd i) = 13 by rw [show kd i = 13 by omega]; rfl)]
        exact b55 1 ⟨fun z => absurd z (by decide), fun z => absurd s2 z⟩
      · rw [if_neg (show ¬ nI (kd i) = 13 from fun z => by have := nI_inj (by omega) (by omega) (show nI (kd i) = nI 13 from z); omega)]
        exact b55 0 ⟨fun _ => s2, fun _ => rfl⟩
    · have b1 : f123 (hI h c 4) (nI s) = 1 := hx4.2 cT
      rw [b1, if_neg (show ¬ (1 : Int32) &&& 1 = 0 by decide), if_pos ((bit1 (by omega)).2 (hm22.2 cT)), Wp_bind]
      refine Wp_mono (show Wp (f42 N (nI 4) _) _ from failB_w (code := 4) he (by omega) (by omega) cb4) (fun u ⟨u1, u2⟩ => ?_)
      rw [Wp_some, Wp_some]
      exact Or.inr ⟨4, i, u1, (FRT.u (by omega)).trans u2, rfl, mc.2.2.1, FEM.rfl'⟩
  · rw [if_neg ck, if_neg (show ¬ (0 : Int32) ≤ -1 by decide)]
    by_cases c11 : kd i < 11
    · rw [if_pos (show nI (kd i) < 11 by rw [ti_lt, ti_nI (by omega)]; show _ < (11 : Int); omega)]
      exact fl ck
    · rw [if_neg (show ¬ nI (kd i) < 11 by rw [ti_lt, ti_nI (by omega)]; show ¬ _ < (11 : Int); omega), if_neg (show ¬ nI (kd i) ≤ 13 by rw [ti_le, ti_nI (by omega)]; show ¬ _ ≤ (13 : Int); omega)]
      exact fl ck
end
