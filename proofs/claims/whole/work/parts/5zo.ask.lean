/-! ===== asks ===== -/
/-- both have failed alike -/
def BoF (st : Nat → Nat) (c so sl : Nat) (h m u : Hp) (y : Int32 × Hp) : Prop := ∃ code j, FdS code (st j) c so u ∧ FR c so h u ∧ y.1 = nI code ∧ hI y.2 0 9 = nI (st j) ∧ FE sl m y.2
theorem BoF_t {st : Nat → Nat} {c so sl : Nat} {h m u h' m' : Hp} {y : Int32 × Hp} (f1 : FR c so h h') (f2 : FE sl m m') (x : BoF st c so sl h' m' u y) : BoF st c so sl h m u y := by
  obtain ⟨code, j, x1, x2, x3, x4, x5⟩ := x
  exact ⟨code, j, x1, f1.trans x2, x3, x4, f2.trans x5⟩
def TyA (w : List Nat) : Prop := ∀ t, t + 20 ≤ 32 → tcs w (0, t) = some (0, t + 1)
theorem TyA_c {w w2 : List Nat} {d o : Nat} (h1 : Ty w (3 + 2 * (8 - d))) (h2 : Ty w2 (3 + 2 * (8 - d))) (ho : 18 ≤ o ∧ o ≤ 23) : TyA (w ++ w2 ++ [o]) := fun t ht => by
  rw [tcs_app, tcs_app, h1 0 t (by omega), Option.bind_some, h2 (0 + 1) t (by omega), Option.bind_some]
  show (tc1 o (0 + 1 + 1, t)).bind (tcs []) = _
  unfold tc1
  rw [if_neg (by omega), if_neg (by omega), if_neg (by omega), if_neg (by omega), if_neg (by omega), if_pos ho, if_pos rfl]
  rfl
theorem TyA_n {w : List Nat} (h : TyA w) : TyA (w ++ [10]) := fun t ht => by
  rw [tcs_app, h t ht, Option.bind_some]
  show (tc1 10 (0, t + 1)).bind (tcs []) = _
  unfold tc1
  rw [if_neg (by omega), if_neg (by omega), if_pos rfl, if_pos ⟨rfl, by omega⟩]
  rfl
section
variable {N e c so fm sl n i d : Nat} {kd st ps b : Nat → Nat} {ops : List Nat} {h m : Hp} {nn : Nat}
theorem summed_j (hN : 1000 ≤ N) (ts : Tks b nn kd st ps e) (hkd : ∀ j, j ≤ e → kd j ≤ 10100) (tc : TC c) (hso : so < 3) (hsl : sl < 4) (d8 : d ≤ 8) (hn : 3 * (8 - d) + 3 ≤ n) (hl : ops.length ≤ i) (cs : CS kd st e c so fm i d ops h) (mc : MC b nn kd st ps sl i d ops m) (m21 : hI m 0 21 = nI so) : Wp (fG N n 48 h) fun u => Wp (f175 N m) fun y => (∃ i' w, i ≤ i' ∧ w.length + i ≤ i' ∧ CS kd st e c so fm i' d (ops ++ w) u ∧ y.1 = 0 ∧ MC b nn kd st ps sl i' d (ops ++ w) y.2 ∧ hI y.2 0 21 = nI so ∧ Ty w (3 + 2 * (8 - d)) ∧ Wd so w ∧ FR c so h u ∧ FE sl m y.2) ∨ BoF st c so sl h m u y := by
  have he := ts.2.2.2.2
  refine Wp_mono ((desc hN he ts.2.2.1 hkd tc hso n d d8).2.2 hn i ops [] h (Or.inl rfl) hl cs) (fun u hu => ?_)
  rcases hu with ⟨i', w, o', pend, u1, u2, u3, u4, u5, u6, u7, u8, u9, u10⟩ | ⟨code, k, u1, ⟨t, u2, u3⟩, u4, u5⟩
  · have hi' := u3.2.1.1
    refine Wp_mono (sum_x (k := i' - i) hN ts hsl hso (by omega) d8 hl mc m21 u4 ?_) (fun y ⟨y1, y2, y3, y4⟩ => ?_)
    · rw [show i + (i' - i) = i' by omega]
      refine ⟨rfl, u7.1, u7.2.1, u7.2.2.1, u7.2.2.2, fun z => u6 ?_⟩
      have := z.2
      dsimp only at this
      rw [List.append_nil] at this
      exact this
    · dsimp only at y1 y2
      rw [u5] at y1 y2
      rw [if_pos rfl] at y1
      rw [show i + (i' - i) = i' by omega] at y2
      exact Or.inl ⟨i', w, u1, u2, u3, y1, y2, y4, u8, u9, u10, y3⟩
  · rcases u3 with u3 | ⟨rfl, u6, u7⟩
    · refine Wp_mono (sum_f hN ts hsl hso u1 d8 hl mc m21 u2 u3) (fun y ⟨y1, y2, y3⟩ => ?_)
      exact Or.inr ⟨code, i + k, u4, u5, y1, y2, y3⟩
    · refine Wp_mono (sum_x hN ts hsl hso u1 d8 hl mc m21 u2 u6) (fun y ⟨y1, y2, y3, y4⟩ => ?_)
      rw [if_neg u7] at y1
      exact Or.inr ⟨1, i + k, u4, u5, y1, y2.2.2.1, y3⟩
/-- what follows the nots -/
def askT (N : Nat) (q7 : Nat × (Int32 × Hp)) : Option (Int32 × Hp) :=
  if q7.1 = 0 then (  some ((3 : Int32), q7.2.2)) else (  (f175 N q7.2.2).bind fun q8 =>
  if q8.1 = 0 then (  (f176 N q8.2).bind fun q10 =>
  if 0 ≤ q10 then (  (f159 N q8.2).bind fun q12 =>
  (f175 N q12).bind fun q13 =>
  if q13.1 = 0 then (  (f165 N q10 (0 : Int32) q13.2).bind fun q15 =>
  bnd (uI q15 0 19 ((hI q15 0 19) - q7.2.1)) fun h16 =>
  (lp (f177_l60 N q7.2.1) N ((0 : Int32), h16)).bind fun q20 =>
    some ((0 : Int32), q20.2.2)) else (  some (q13.1, q13.2))) else (  some ((1 : Int32), q8.2))) else (  some (q8.1, q8.2)))
theorem f177_e : f177 N m = (lp (f177_l2 N) N ((0 : Int32), m)).bind (askT N) := rfl
theorem cmp_w {k : Nat} (t : Tk m k) : f176 N m = some (if 18 ≤ k ∧ k ≤ 23 then nI (k - 8) else -1) := by
  have sg : ∀ c, 14 ≤ c → c ≤ 26 → (hI m 0 10 = nI (sgb c) ↔ k = c) := fun c a1 a2 => tk_sg t a1 a2
  have step : ∀ (j : Nat) (p v : Int32) (r : Option Int32), 18 ≤ j → j ≤ 23 → p = nI (sgb j) → v = nI (j - 8) → (¬ k = j → r = some (if 18 ≤ k ∧ k ≤ 23 then nI (k - 8) else -1)) → (if hI m 0 10 = p then some v else r) = some (if 18 ≤ k ∧ k ≤ 23 then nI (k - 8) else -1) := fun j p v r h1 h2 hp hv hr => by
    rw [hp]
    by_cases c : k = j
    · rw [if_pos ((sg j (by omega) (by omega)).2 c), if_pos (by omega), hv, c]
    · rw [if_neg (fun z => c ((sg j (by omega) (by omega)).1 z))]; exact hr c
  unfold f176
  refine step 18 _ _ _ (by omega) (by omega) rfl rfl (fun c0 => ?_)
  refine step 19 _ _ _ (by omega) (by omega) rfl rfl (fun c1 => ?_)
  refine step 20 _ _ _ (by omega) (by omega) rfl rfl (fun c2 => ?_)
  refine step 21 _ _ _ (by omega) (by omega) rfl rfl (fun c3 => ?_)
  refine step 22 _ _ _ (by omega) (by omega) rfl rfl (fun c4 => ?_)
  refine step 23 _ _ _ (by omega) (by omega) rfl rfl (fun c5 => ?_)
  rw [if_neg (by omega)]
/-- x nots put -/
theorem nots_w {x : Nat} (hN : 1000 ≤ N) (hsl : sl < 4) (hx : x ≤ 8) (hl : ops.length + x ≤ 300) (mc : MC b nn kd st ps sl i d ops m) (m21 : hI m 0 21 = nI so) : Wp (lp (f177_l60 N (nI x)) N ((0 : Int32), m)) fun q => MC b nn kd st ps sl i d (ops ++ List.replicate x 10) q.2.2 ∧ FE sl m q.2.2 ∧ hI q.2.2 0 21 = nI so := by
  refine Wp_for (fun (j : Nat) (w : Hp) => (nI j, w)) x (fun j w => MC b nn kd st ps sl i d (ops ++ List.replicate j 10) w ∧ FE sl m w ∧ hI w 0 21 = nI so) ?_ ?_ (i0 := 0) (x0 := m) (by omega) (by omega) ⟨by show MC b nn kd st ps sl i d (ops ++ []) m; rw [List.append_nil]; exact mc, FE.rfl', m21⟩
  · rintro j w hj ⟨w1, w2, w3⟩
    unfold f177_l60
    dsimp only
    rw [if_neg (by rw [ti_le, ti_nI (by omega), ti_nI (by omega)]; omega), Wp_bind]
    refine Wp_mono (emit_w (o := 10) rfl rfl (by rw [List.length_append, List.length_replicate]; omega) hsl w1) (fun u ⟨u1, u2, u3, u4⟩ => ?_)
    rw [Wp_bnd, Wp_some, nI_1]
    refine Or.inl ⟨rfl, u, rfl, ?_, w2.trans u2, by rw [u4 21 (by omega)]; exact w3⟩
    rw [List.append_assoc, show List.replicate j 10 ++ [10] = List.replicate (j + 1) 10 from (List.replicate_succ' (n := j) (a := 10)).symm] at u1
    exact u1
  · rintro w ⟨w1, w2, w3⟩
    unfold f177_l60
    dsimp only
    rw [if_pos (by rw [ti_le]; omega), Wp_some]
    exact ⟨0, rfl, w1, w2, w3⟩
def AskB (b : Nat → Nat) (nn : Nat) (kd st ps : Nat → Nat) (e c so fm sl i d x : Nat) (ops : List Nat) (h m u : Hp) (y : Int32 × Hp) : Prop := ∃ i' w, i < i' ∧ w.length + i ≤ i' ∧ CS kd st e c so fm i' d (ops ++ w) u ∧ y.1 = 0 ∧ MC b nn kd st ps sl i' (d - x) (ops ++ w ++ List.replicate x 10) y.2 ∧ hI y.2 0 21 = nI so ∧ TyA w ∧ Wd so w ∧ FR c so h u ∧ FE sl m y.2
theorem ask_s (hN : 1000 ≤ N) (ts : Tks b nn kd st ps e) (hkd : ∀ j, j ≤ e → kd j ≤ 10100) (tc : TC c) (hso : so < 3) (hsl : sl < 4) : ∀ n d x K i ops h m, d ≤ 8 → 3 * (8 - d) + 4 ≤ n → x ≤ d → 8 - d + 1 ≤ K → ops.length + x ≤ i → CS kd st e c so fm i d ops h → MC b nn kd st ps sl i d ops m → hI m 0 21 = nI so → Wp (fG N n 47 h) fun u => Wp ((lp (f177_l2 N) K (nI x, m)).bind (askT N)) fun y => AskB b nn kd st ps e c so fm sl i d x ops h m u y ∨ BoF st c so sl h m u y := by
  have he := ts.2.2.2.2
  have s1 := (tc_shp tc).1
  intro n
  induction n with
  | zero => intro d x K i ops h m d8 hn; omega
  | succ n ih =>
    intro d x K i ops h m d8 hn hx hK hl cs mc m21
    have cs0 := cs
    obtain ⟨⟨x1, x2, x3, x4, x5, x6⟩, ⟨x7, x8⟩, ⟨x9, x10⟩, x11, x12, x13, x14⟩ := cs
    have kb := hkd i x7
    have tk := mc.2.2.2.1
    have lt : ∀ j, j ≤ e → kd j ≠ 27 → kd j ≠ 28 → j < e := fun j hj a1 a2 => by
      refine Classical.byContradiction fun hh => ?_
      have : j = e := by omega
      subst this
      rcases ts.2.2.1 with z | z
      · exact a1 z
      · exact a2 z
    have nt : f164 N (f160 110 111 116) m = some (if kd i = 10 then 1 else 0) := isw_w tk (by omega) (by decide)
    obtain ⟨K', rfl⟩ : ∃ K', K = K' + 1 := ⟨K - 1, by omega⟩
    show Wp (f47 (fG N n) N h) _
    unfold f47
    rw [x2]
    by_cases c10 : kd i = 10
    · rw [if_pos (show nI (kd i) = 10 by rw [c10]; rfl), Wp_bind]
      have hie := lt i x7 (by omega) (by omega)
      unfold f51
      rw [x4]
      by_cases cd : d < 8
      · rw [if_pos (by rw [ti_lt, ti_nI (by omega)]; show _ < (8 : Int); omega), Wp_bnd, nI_1, Wp_bind]
        refine Wp_mono (step_w he tc hie (CS_d tc cs0 rfl)) (fun v ⟨v1, v2⟩ => ?_)
        rw [Wp_some, if_neg (show ¬ ((1 : Int32), v).1 = 0 from (show ¬ (1 : Int32) = 0 by decide)), Wp_bind]
        -- the reference goes on, too
        obtain ⟨m1, e1, n1, n2⟩ := MC_n (N := N) hN ts hie (MC_d (d' := d + 1) mc rfl)
        have em : lp (f177_l2 N) (K' + 1) (nI x, m) = lp (f177_l2 N) K' (nI (x + 1), m1) := by
          show (f177_l2 N (nI x, m)).bind _ = _
          have : f177_l2 N (nI x, m) = some (0, (nI (x + 1), m1)) := by
            unfold f177_l2
            dsimp only
            rw [nt, if_pos c10, Option.bind_some, if_neg (by decide), mc.2.2.2.2.1, if_neg (show ¬ nI d = 8 from fun z => by have := nI_inj (by omega) (by omega) (show nI d = nI 8 from z); omega), nI_1, nI_1]
            unfold bnd
            dsimp only
            rw [e1]
            rfl
          rw [this]
          rfl
        rw [em]
        have m121 : hI m1 0 21 = nI so := by rw [n1.2 21 (by omega), hI_uI_eq, pu_ne (by omega)]; exact m21
        refine Wp_mono (ih (d + 1) (x + 1) K' (i + 1) ops v m1 (by omega) (by omega) (by omega) (by omega) (by omega) v1 n2 m121) (fun z hz => ?_)
        rw [Wp_bnd]
        obtain ⟨y, y1, y2⟩ := hz
        have fv : FR c so h v := (FR.u tc (by omega)).trans v2
        have fm1 : FE sl m m1 := (FE.u (by omega)).trans (FE.n n1)
        rcases y2 with ⟨i', w, a1, a2, a3, a4, a5, a6, a7, a8, a9, a10⟩ | ⟨code, j, a1, a2, a3, a4, a5⟩
        · have hv9 : hI z 26 9 - 1 = nI d := by rw [a3.1.2.2.2.1]; exact nI_pred d
          have cv := CS_d tc a3 hv9
          rw [cv.2.2.1.1, Option.bind_some, gd_pos s1, cv.1.2.2.2.2.1, Wp_bind]
          have hl' : (ops ++ w).length < 300 := by rw [List.length_append]; have := a3.2.1.1; omega
          refine Wp_mono (show Wp (f80 N c (nI so) (nI 10) _) _ from add_w tc hso hl' (by omega) cv) (fun q ⟨q1, q2⟩ => ?_)
          rw [Wp_some]
          refine ⟨y, y1, Or.inl ⟨i', w ++ [10], by omega, by rw [List.length_append]; show w.length + 1 + i ≤ i'; omega, by rw [← List.append_assoc]; exact q1, a4, ?_, a6, TyA_n a7, Wd_a a8 (Wd_1 (by omega) (by omega)), fv.trans (a9.trans ((FR.u tc (by omega)).trans q2)), fm1.trans a10⟩⟩
          rw [show d + 1 - (x + 1) = d - x by omega] at a5
          have : ops ++ (w ++ [10]) ++ List.replicate x 10 = ops ++ w ++ List.replicate (x + 1) 10 := by
            rw [List.replicate_succ, List.append_assoc, List.append_assoc, List.append_assoc]; rfl
          rw [this]
          exact a5
        · have cv := FdS_u (v := hI z 26 9 - 1) tc a1
          rw [cv.2.2.2.2.2.1.1, Option.bind_some, gd_pos s1, cv.2.2.2.2.1, Wp_bind]
          refine Wp_mono (addF_w tc hso cv) (fun q ⟨q1, q2⟩ => ?_)
          rw [Wp_some]
          exact ⟨y, y1, Or.inr ⟨code, j, q1, fv.trans (a2.trans ((FR.u tc (by omega)).trans q2)), a3, a4, fm1.trans a5⟩⟩
      · rw [if_neg (by rw [ti_lt, ti_nI (by omega)]; show ¬ _ < (8 : Int); omega), Wp_bind]
        refine Wp_mono (fail_w (code := 3) he tc (by omega) (by omega) (by omega) cs0) (fun u ⟨u1, u2⟩ => ?_)
        rw [Wp_some, if_pos rfl, Wp_some]
        have em : lp (f177_l2 N) (K' + 1) (nI x, m) = some (0, (nI x, m)) := by
          show (f177_l2 N (nI x, m)).bind _ = _
          have : f177_l2 N (nI x, m) = some (1, (nI x, m)) := by
            unfold f177_l2
            dsimp only
            rw [nt, if_pos c10, Option.bind_some, if_neg (by decide), mc.2.2.2.2.1, if_pos (show nI d = 8 by rw [show d = 8 by omega]; rfl)]
          rw [this]
          rfl
        rw [em, Option.bind_some]
        unfold askT
        rw [if_pos rfl, Wp_some]
        exact Or.inr ⟨3, i, u1, u2, rfl, mc.2.2.1, FE.rfl'⟩
    · rw [if_neg (show ¬ nI (kd i) = 10 from fun z => c10 (nI_inj (by omega) (by omega) (show nI (kd i) = nI 10 from z))), Wp_bind]
      have em : lp (f177_l2 N) (K' + 1) (nI x, m) = some (1, (nI x, m)) := by
        show (f177_l2 N (nI x, m)).bind _ = _
        have : f177_l2 N (nI x, m) = some (2, (nI x, m)) := by
          unfold f177_l2
          dsimp only
          rw [nt, if_neg c10, Option.bind_some, if_pos rfl]
        rw [this]
        rfl
      rw [em, Option.bind_some]
      unfold askT
      rw [if_neg (show ¬ (1, (nI x, m)).1 = 0 from (show ¬ 1 = 0 by omega))]
      dsimp only
      refine Wp_mono (summed_j (N := N) (n := n) hN ts hkd tc hso hsl d8 (by omega) (by omega) cs0 mc m21) (fun u hu => ?_)
      obtain ⟨y, y1, y2⟩ := hu
      rw [y1, Option.bind_some]
      rcases y2 with ⟨i', w, a1, a2, a3, a4, a5, a6, a7, a8, a9, a10⟩ | ⟨code, j, a1, a2, a3, a4, a5⟩
      · have hi' := a3.2.1.1
        have kb' := hkd i' hi'
        have hl' : (ops ++ w).length ≤ 300 := by rw [List.length_append]; omega
        rw [a3.1.2.1, if_pos a4, cmp_w a5.2.2.2.1, Option.bind_some]
        by_cases ck : 18 ≤ kd i' ∧ kd i' ≤ 23
        · have hie' := lt i' hi' (by omega) (by omega)
          rw [if_neg (by rw [ti_lt, ti_nI (by omega)]; show ¬ _ < (18 : Int); omega), if_pos (by rw [ti_le, ti_nI (by omega)]; show _ ≤ (23 : Int); omega), Wp_bnd, if_pos ck, if_pos (show 0 ≤ nI (kd i' - 8) by rw [ti_le, ti_nI (by omega)]; show (0 : Int) ≤ _; omega), Wp_bind]
          refine Wp_mono (step_w he tc hie' a3) (fun v ⟨v1, v2⟩ => ?_)
          obtain ⟨m1, e1, n1, n2⟩ := MC_n (N := N) hN ts hie' a5
          rw [e1, Option.bind_some, Wp_bind]
          have m121 : hI m1 0 21 = nI so := by rw [n1.2 21 (by omega)]; exact a6
          refine Wp_mono (summed_j (N := N) (n := n) hN ts hkd tc hso hsl d8 (by omega) (by rw [List.length_append]; omega) v1 n2 m121) (fun z hz => ?_)
          obtain ⟨y2, q1, q2⟩ := hz
          rw [q1, Option.bind_some]
          have fz : FR c so h v := a9.trans v2
          have fe1 : FE sl m m1 := a10.trans (FE.n n1)
          rcases q2 with ⟨i2, w2, b1, b2, b3, b4, b5, b6, b7, b8, b9, b10⟩ | ⟨code, j, b1, b2, b3, b4, b5⟩
          · have hi2 := b3.2.1.1
            have hl3 : (ops ++ w ++ w2).length < 300 := by rw [List.length_append, List.length_append]; omega
            rw [b3.2.2.1.1, Option.bind_some, gd_pos s1, b3.1.2.2.2.2.1, Wp_bind]
            refine Wp_mono (add_w tc hso hl3 (by omega) b3) (fun q ⟨g1, g2⟩ => ?_)
            rw [Wp_some, if_pos b4, Wp_bind]
            have hmo : mo (kd i') = (kd i' - 8, 0) := by
              have : ∀ k, k < 24 → 18 ≤ k → mo k = (k - 8, 0) := by decide
              exact this (kd i') (by omega) ck.1
            refine Wp_mono (emit_w (o := kd i') (by rw [hmo]) (by rw [hmo]; rfl) hl3 hsl b5) (fun p ⟨p1, p2, p3, p4⟩ => ?_)
            rw [Wp_bnd]
            have e19 : hI p 0 19 - nI x = nI (d - x) := by rw [p1.2.2.2.2.1]; exact pk_sub hx
            have e4 : ops ++ w ++ w2 ++ [kd i'] = ops ++ (w ++ w2 ++ [kd i']) := by rw [List.append_assoc, List.append_assoc, List.append_assoc]
            have hl4 : (ops ++ w ++ w2 ++ [kd i']).length + x ≤ 300 := by
              rw [List.length_append, List.length_append, List.length_append]
              show ops.length + w.length + w2.length + 1 + x ≤ 300
              omega
            rw [Wp_bind]
            refine Wp_mono (nots_w (so := so) hN hsl (by omega) hl4 (MC_d (d' := d - x) p1 e19) (by rw [hI_uI_eq, pu_ne (by omega), p4 21 (by omega)]; exact b6)) (fun r ⟨r1, r2, r3⟩ => ?_)
            rw [Wp_some]
            rw [e4] at g1 r1
            refine Or.inl ⟨i2, w ++ w2 ++ [kd i'], by omega, ?_, g1, rfl, r1, r3, TyA_c a7 b7 ck, Wd_a (Wd_a a8 b8) (Wd_1 (by omega) (by omega)), fz.trans (b9.trans g2), fe1.trans (b10.trans (p2.trans ((FE.u (by omega)).trans r2)))⟩
            rw [List.length_append, List.length_append]; show w.length + w2.length + 1 + i ≤ i2; omega
          · rw [b1.2.2.2.2.2.1.1, Option.bind_some, gd_pos s1, b1.2.2.2.2.1, Wp_bind]
            refine Wp_mono (addF_w tc hso b1) (fun q ⟨g1, g2⟩ => ?_)
            have c5 := b1.1
            rw [Wp_some, if_neg (by rw [b3, ti_eq, ti_nI (by omega)]; show ¬ _ = (0 : Int); omega), Wp_some]
            exact Or.inr ⟨code, j, g1, fz.trans (b2.trans g2), b3, b4, fe1.trans b5⟩
        · rw [if_neg ck, if_neg (show ¬ (0 : Int32) ≤ -1 by decide)]
          have fin : Wp ((f42 N (1 : Int32) u).bind fun q => some q) fun u => Wp (some ((1 : Int32), y.2)) fun y => AskB b nn kd st ps e c so fm sl i d x ops h m u y ∨ BoF st c so sl h m u y := by
            rw [Wp_bind]
            refine Wp_mono (show Wp (f42 N (nI 1) u) _ from fail_w (code := 1) he tc (by omega) (by omega) hl' a3) (fun v ⟨v1, v2⟩ => ?_)
            rw [Wp_some, Wp_some]
            exact Or.inr ⟨1, i', v1, a9.trans v2, rfl, a5.2.2.1, a10⟩
          by_cases c18 : kd i' < 18
          · rw [if_pos (show nI (kd i') < 18 by rw [ti_lt, ti_nI (by omega)]; show _ < (18 : Int); omega)]
            exact fin
          · rw [if_neg (show ¬ nI (kd i') < 18 by rw [ti_lt, ti_nI (by omega)]; show ¬ _ < (18 : Int); omega), if_neg (show ¬ nI (kd i') ≤ 23 by rw [ti_le, ti_nI (by omega)]; show ¬ _ ≤ (23 : Int); omega)]
            exact fin
      · have c5 := a1.1
        rw [a1.2.2.2.1, if_neg (by decide), if_neg (by decide), Wp_bind]
        refine Wp_mono (failF_w tc a1) (fun v ⟨v1, v2⟩ => ?_)
        rw [Wp_some, if_neg (by rw [a3, ti_eq, ti_nI (by omega)]; show ¬ _ = (0 : Int); omega), Wp_some]
        exact Or.inr ⟨code, j, v1, a2.trans v2, a3, a4, a5⟩
end
