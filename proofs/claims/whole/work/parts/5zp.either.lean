/-! ===== either ===== -/
def cnt8 (N f : Nat) (q : Nat × (Int32 × Int32 × Int32 × Int32 × Hp)) : Option (Nat × (Int32 × Int32 × Int32 × Int32 × Hp)) := match q.1 with
  | 0 => lp (f178_l6 N) f q.2
  | j + 1 => some (j, q.2)
theorem lp_8 {N f : Nat} {s : Int32 × Int32 × Int32 × Int32 × Hp} : lp (f178_l6 N) (f + 1) s = (f178_l6 N s).bind (cnt8 N f) := rfl
def TyB (w : List Nat) (q : Nat) : Prop := ∀ t, t + q ≤ 32 → tcs w (0, t) = some (0, t + 1)
theorem TyB_op {w w2 : List Nat} {q o : Nat} (h1 : TyB w (q + 1)) (h2 : TyB w2 q) (ho : o = 8 ∨ o = 9) : TyB (w ++ w2 ++ [o]) (q + 1) := fun t ht => by
  rw [tcs_app, tcs_app, h1 t ht, Option.bind_some, h2 (t + 1) (by omega), Option.bind_some]
  show (tc1 o (0, t + 1 + 1)).bind (tcs []) = _
  unfold tc1
  rw [if_neg (by omega), if_neg (by omega), if_neg (by omega), if_pos ho, if_pos ⟨rfl, by omega⟩]
  rfl
theorem TyB_m {w : List Nat} {q q' : Nat} (h : TyB w q) (hq : q ≤ q') : TyB w q' := fun t ht => h t (by omega)
section
variable {N e c so fm sl i : Nat} {kd st ps b : Nat → Nat} {ops : List Nat} {h m : Hp} {nn : Nat}
def orL (O : Nat) : List Nat := if O = 1 then [9] else []
/-- the look at what follows -/
theorem look8 {O : Nat} (hN : 1000 ≤ N) (ts : Tks b nn kd st ps e) (hie : i ≤ e) (hsl : sl < 4) (hO : O = 0 ∨ O = 1) (hl : ops.length < 300) (mc : MC b nn kd st ps sl i 0 ops m) : (kd i = 8 → ∃ m', f178_b21 N (nI O) m = some (0, (1, nI O, 1, 0, m')) ∧ MC b nn kd st ps sl (i + 1) 0 ops m' ∧ FE sl m m' ∧ hI m' 0 21 = hI m 0 21) ∧ (kd i = 9 → ∃ m', f178_b21 N (nI O) m = some (0, (0, 1, 1, 0, m')) ∧ MC b nn kd st ps sl (i + 1) 0 (ops ++ orL O) m' ∧ FE sl m m' ∧ hI m' 0 21 = hI m 0 21) ∧ (kd i ≠ 8 → kd i ≠ 9 → ∃ m', f178_b21 N (nI O) m = some (0, (0, 0, 0, 0, m')) ∧ MC b nn kd st ps sl i 0 (ops ++ orL O) m' ∧ FE sl m m' ∧ hI m' 0 21 = hI m 0 21) := by
  have tk := mc.2.2.2.1
  have lt : kd i ≠ 27 → kd i ≠ 28 → i < e := fun a1 a2 => by
    refine Classical.byContradiction fun hh => ?_
    have : i = e := by omega
    subst this
    rcases ts.2.2.1 with z | z
    · exact a1 z
    · exact a2 z
  have ea : f164 N (f160 97 110 100) m = some (if kd i = 8 then 1 else 0) := isw_w tk (by omega) (by decide)
  have ho : (if hI m 0 10 = 2 then (if lg_cmp (hL m 0 12) 28530 = 0 then f178_b40 N (if kd i = 8 then 1 else 0) (nI O) 1 m else f178_b39 N (if kd i = 8 then 1 else 0) (nI O) m) else f178_b39 N (if kd i = 8 then 1 else 0) (nI O) m) = f178_b40 N (if kd i = 8 then 1 else 0) (nI O) (if kd i = 9 then 1 else 0) m := by
    have e9 : (28530 : Int64) = wcode 9 := by decide
    unfold f178_b39
    by_cases h2 : hI m 0 10 = 2
    · rw [if_pos h2, e9]
      by_cases c : kd i = 9
      · rw [if_pos ((tk_wd tk (by omega) h2).2 c), if_pos c]
      · rw [if_neg (fun z => c ((tk_wd tk (by omega) h2).1 z)), if_neg c]
    · rw [if_neg h2, if_neg (show ¬ kd i = 9 from fun z => h2 ((tk_lo tk).2.2.2 (by omega)))]
  have eb : f178_b21 N (nI O) m = f178_b40 N (if kd i = 8 then 1 else 0) (nI O) (if kd i = 9 then 1 else 0) m := by
    unfold f178_b21
    rw [ea, Option.bind_some]
    exact ho
  -- the or that waits
  have wait : ∃ m', (if nI O = 0 then (some m : Option Hp) else (f165 N 22 0 m).bind fun q13 => some q13) = some m' ∧ MC b nn kd st ps sl i 0 (ops ++ orL O) m' ∧ FE sl m m' ∧ hI m' 0 21 = hI m 0 21 := by
    rcases hO with rfl | rfl
    · exact ⟨m, if_pos rfl, by show MC b nn kd st ps sl i 0 (ops ++ []) m; rw [List.append_nil]; exact mc, FE.rfl', rfl⟩
    · obtain ⟨u, u1, u2, u3, u4, u5⟩ := emit_w (N := N) (o := 9) (p1 := 22) (p2 := 0) rfl rfl hl hsl mc
      exact ⟨u, by rw [if_neg (by decide), u1]; rfl, u2, u3, u5 21 (by omega)⟩
  rw [eb]
  refine ⟨fun c8 => ?_, fun c9 => ?_, fun n8 n9 => ?_⟩
  · rw [if_pos c8]
    obtain ⟨u, u1, u2, u3⟩ := MC_n (N := N) hN ts (lt (by omega) (by omega)) mc
    refine ⟨u, ?_, u3, FE.n u2, u2.2 21 (by omega)⟩
    unfold f178_b40 f178_b51 f178_b55 f178_b58 f178_b63
    rw [if_neg (by decide), if_neg (by decide), if_neg (by decide), u1]
    rfl
  · rw [if_neg (by omega), if_pos c9]
    obtain ⟨m', w1, w2, w3, w4⟩ := wait
    obtain ⟨u, u1, u2, u3⟩ := MC_n (N := N) hN ts (lt (by omega) (by omega)) w2
    refine ⟨u, ?_, u3, w3.trans (FE.n u2), by rw [u2.2 21 (by omega)]; exact w4⟩
    have fin : f178_b49 N 0 1 m' = some (0, (0, 1, 1, 0, u)) := by
      unfold f178_b49 f178_b51 f178_b55 f178_b58 f178_b63
      rw [if_pos rfl, if_neg (by decide), if_neg (by decide), u1]
      rfl
    unfold f178_b40
    rw [if_pos rfl]
    rcases hO with rfl | rfl
    · rw [if_pos (show nI 0 = 0 from rfl)] at w1
      have : m = m' := Option.some.inj w1
      rw [if_pos (show nI 0 = 0 from rfl), this]; exact fin
    · rw [if_neg (by decide)] at w1
      cases hf : f165 N 22 0 m with
      | none => rw [hf] at w1; cases w1
      | some q =>
        rw [hf] at w1
        have : q = m' := Option.some.inj w1
        rw [if_neg (by decide), Option.bind_some, this]; exact fin
  · rw [if_neg n8, if_neg n9]
    obtain ⟨m', w1, w2, w3, w4⟩ := wait
    refine ⟨m', ?_, w2, w3, w4⟩
    have fin : f178_b49 N 0 0 m' = some (0, (0, 0, 0, 0, m')) := by
      unfold f178_b49 f178_b51 f178_b58 f178_b63
      rw [if_pos rfl, if_pos rfl, if_pos rfl]
    unfold f178_b40
    rw [if_pos rfl]
    rcases hO with rfl | rfl
    · rw [if_pos (show nI 0 = 0 from rfl)] at w1
      have : m = m' := Option.some.inj w1
      rw [if_pos (show nI 0 = 0 from rfl), this]; exact fin
    · rw [if_neg (by decide)] at w1
      cases hf : f165 N 22 0 m with
      | none => rw [hf] at w1; cases w1
      | some q =>
        rw [hf] at w1
        have : q = m' := Option.some.inj w1
        rw [if_neg (by decide), Option.bind_some, this]; exact fin
/-- readAsk and asks, at the top -/
theorem ask_0 (hN : 1000 ≤ N) (ts : Tks b nn kd st ps e) (hkd : ∀ j, j ≤ e → kd j ≤ 10100) (tc : TC c) (hso : so < 3) (hsl : sl < 4) (hl : ops.length ≤ i) (cs : CS kd st e c so fm i 0 ops h) (mc : MC b nn kd st ps sl i 0 ops m) (m21 : hI m 0 21 = nI so) : Wp (fG N 60 47 h) fun u => Wp (f177 N m) fun y => (∃ i' w, i < i' ∧ w.length + i ≤ i' ∧ CS kd st e c so fm i' 0 (ops ++ w) u ∧ y.1 = 0 ∧ MC b nn kd st ps sl i' 0 (ops ++ w) y.2 ∧ hI y.2 0 21 = nI so ∧ TyB w 20 ∧ Wd so w ∧ FR c so h u ∧ FE sl m y.2) ∨ BoF st c so sl h m u y := by
  refine Wp_mono (ask_s (N := N) hN ts hkd tc hso hsl 60 0 0 N i ops h m (by omega) (by omega) (by omega) (by omega) (by omega) cs mc m21) (fun u hu => ?_)
  rw [f177_e]
  refine Wp_mono (show Wp ((lp (f177_l2 N) N (nI 0, m)).bind (askT N)) _ from hu) (fun y hy => ?_)
  rcases hy with ⟨i', w, a1, a2, a3, a4, a5, a6, a7, a8, a9, a10⟩ | z
  · have : ops ++ w ++ List.replicate 0 10 = ops ++ w := List.append_nil _
    rw [this] at a5
    exact Or.inl ⟨i', w, a1, a2, a3, a4, a5, a6, a7, a8, a9, a10⟩
  · exact Or.inr z
/-- the reference's loop has failed -/
def F8 (N k : Nat) (s : Int32 × Int32 × Int32 × Int32 × Hp) (y : Int32 × Hp) : Prop := ∃ a1 a2 a3, ∀ f, lp (f178_l6 N) (f + k + 1) s = some (0, (a1, a2, a3, y.1, y.2))
/-- readBoth -/
def BotB (N : Nat) (b : Nat → Nat) (nn : Nat) (kd st ps : Nat → Nat) (e c so fm sl i O : Nat) (ops : List Nat) (h m u : Hp) : Prop := (∃ i' w m' k, i ≤ i' ∧ w.length + i ≤ i' ∧ k ≤ i' - i ∧ CS kd st e c so fm i' 0 (ops ++ w) u ∧ MC b nn kd st ps sl i' 0 (ops ++ w) m' ∧ hI m' 0 21 = nI so ∧ kd i' ≠ 8 ∧ TyB w 21 ∧ Wd so w ∧ FR c so h u ∧ FE sl m m' ∧ ∀ f, lp (f178_l6 N) (f + k + 1) ((0 : Int32), nI O, (1 : Int32), (0 : Int32), m) = (f178_b21 N (nI O) m').bind (cnt8 N f)) ∨ ∃ k y, k ≤ 300 - i ∧ BoF st c so sl h m u y ∧ F8 N k ((0 : Int32), nI O, (1 : Int32), (0 : Int32), m) y
theorem ex1 {j : Nat} {k a : Int32} {α : Type} {A B : Option α} (h1 : ¬ k = a) : (if (300 : Int32) ≤ nI j then A else (if k = a then B else A)) = A := by
  by_cases c : (300 : Int32) ≤ nI j
  · rw [if_pos c]
  · rw [if_neg c, if_neg h1]
/-- one round of the reference, with asks at hand -/
theorem rd8_ok {A O : Nat} {y : Int32 × Hp} (hO : O < 100) (hA : A = 0 ∨ A = 1) (e1 : f177 N m = some y) (y0 : y.1 = 0) (w : Hp) (ew : (if nI A = 0 then (some y.2 : Option Hp) else (f165 N 21 0 y.2).bind fun q => some q) = some w) : f178_l6 N (nI A, nI O, (1 : Int32), (0 : Int32), m) = f178_b21 N (nI O) w := by
  unfold f178_l6
  dsimp only
  rw [if_neg (by decide), e1, Option.bind_some, if_pos y0]
  rcases hA with rfl | rfl
  · rw [if_pos (show nI 0 = 0 from rfl)] at ew ⊢
    rw [Option.some.inj ew]
  · rw [if_neg (show ¬ nI 1 = 0 by decide)] at ew ⊢
    cases hf : f165 N 21 0 y.2 with
    | none => rw [hf] at ew; cases ew
    | some q =>
      rw [hf] at ew
      rw [Option.bind_some, Option.some.inj ew]
theorem rd8_f {A O : Nat} {y : Int32 × Hp} (e1 : f177 N m = some y) (y0 : ¬ y.1 = 0) : f178_l6 N (nI A, nI O, (1 : Int32), (0 : Int32), m) = some (1, (nI A, nI O, 1, y.1, y.2)) := by
  unfold f178_l6
  dsimp only
  rw [if_neg (by decide), e1, Option.bind_some, if_neg y0]
theorem both_j {O : Nat} (hN : 1000 ≤ N) (ts : Tks b nn kd st ps e) (hkd : ∀ j, j ≤ e → kd j ≤ 10100) (tc : TC c) (hso : so < 3) (hsl : sl < 4) (hO : O = 0 ∨ O = 1) (hl : ops.length ≤ i) (cs : CS kd st e c so fm i 0 ops h) (mc : MC b nn kd st ps sl i 0 ops m) (m21 : hI m 0 21 = nI so) : Wp (f46 N h) fun u => BotB N b nn kd st ps e c so fm sl i O ops h m u := by
  have he := ts.2.2.2.2
  have s1 := (tc_shp tc).1
  unfold f46
  rw [Wp_bind]
  refine Wp_mono (ask_0 hN ts hkd tc hso hsl hl cs mc m21) (fun u hu => ?_)
  obtain ⟨y, y1, y2⟩ := hu
  rw [Wp_bind]
  refine Wp_lp (fun mm x => ∃ j : Nat, x.1 = nI j ∧ ((∃ i' w m' k, e + 1 - i' ≤ mm ∧ j ≤ i' ∧ i ≤ i' ∧ w.length + i ≤ i' ∧ k ≤ i' - i ∧ CS kd st e c so fm i' 0 (ops ++ w) x.2 ∧ MC b nn kd st ps sl i' 0 (ops ++ w) m' ∧ hI m' 0 21 = nI so ∧ TyB w 21 ∧ Wd so w ∧ FR c so h x.2 ∧ FE sl m m' ∧ ∀ f, lp (f178_l6 N) (f + k + 1) ((0 : Int32), nI O, (1 : Int32), (0 : Int32), m) = (f178_b21 N (nI O) m').bind (cnt8 N f)) ∨ ∃ k y, k ≤ 300 - i ∧ BoF st c so sl h m x.2 y ∧ F8 N k ((0 : Int32), nI O, (1 : Int32), (0 : Int32), m) y)) ?_ N (e + 1) _ (by omega) ?_
  · rintro mm ⟨_, x⟩ ⟨j, hj, hx⟩
    dsimp only at hj hx
    subst hj
    unfold f46_l4
    dsimp only
    rcases hx with ⟨i', w, m', k, mi, ji, ii, wl, kl, cx, mx, x21, ty, wd, fx, ex, rx⟩ | fb
    · have hie := cx.2.1.1
      have kb := hkd i' hie
      rw [cx.1.2.1]
      by_cases ck : kd i' = 8
      · have hlt : i' < e := by
          refine Classical.byContradiction fun hh => ?_
          have e1 : i' = e := by omega
          rw [e1] at ck
          rcases ts.2.2.1 with z | z <;> omega
        obtain ⟨m1, l1, l2, l3, l4⟩ := (look8 hN ts hie hsl hO (by rw [List.length_append]; omega) mx).1 ck
        rw [if_neg (show ¬ (300 : Int32) ≤ nI j by rw [ti_le, ti_nI (by omega)]; show ¬ (300 : Int) ≤ _; omega), if_pos (show nI (kd i') = 8 by rw [ck]; rfl), Wp_bind]
        refine Wp_mono (step_w he tc hlt cx) (fun v ⟨v1, v2⟩ => ?_)
        rw [Wp_bind]
        refine Wp_mono (ask_0 hN ts hkd tc hso hsl (show (ops ++ w).length ≤ i' + 1 by rw [List.length_append]; omega) v1 l2 (by rw [l4]; exact x21)) (fun z hz => ?_)
        obtain ⟨y', q1, q2⟩ := hz
        have rx' : ∀ f, lp (f178_l6 N) (f + (k + 1) + 1) ((0 : Int32), nI O, (1 : Int32), (0 : Int32), m) = (f178_l6 N (nI 1, nI O, (1 : Int32), (0 : Int32), m1)).bind (cnt8 N f) := fun f => by
          have := rx (f + 1)
          rw [show f + 1 + k + 1 = f + (k + 1) + 1 by omega, l1] at this
          exact this
        rcases q2 with ⟨i2, w2, b1, b2, b3, b4, b5, b6, b7, b8, b9, b10⟩ | ⟨code, j2, b1, b2, b3, b4, b5⟩
        · have hi2 := b3.2.1.1
          have hl3 : (ops ++ w ++ w2).length < 300 := by rw [List.length_append, List.length_append]; omega
          rw [b3.2.2.1.1, Option.bind_some, gd_pos s1, b3.1.2.2.2.2.1, Wp_bind]
          refine Wp_mono (show Wp (f80 N c (nI so) (nI 8) _) _ from add_w tc hso hl3 (by omega) b3) (fun q ⟨g1, g2⟩ => ?_)
          rw [Wp_bnd, Wp_some, nI_1]
          obtain ⟨m2, p0, p1, p2, p3, p4⟩ := emit_w (N := N) (o := 8) (p1 := 21) (p2 := 0) rfl rfl hl3 hsl b5
          have e4 : ops ++ w ++ w2 ++ [8] = ops ++ (w ++ w2 ++ [8]) := by rw [List.append_assoc, List.append_assoc, List.append_assoc]
          rw [e4] at g1 p1
          refine Or.inl ⟨rfl, mm - 1, by omega, j + 1, rfl, Or.inl ⟨i2, w ++ w2 ++ [8], m2, k + 1, by omega, by omega, by omega, ?_, by omega, g1, p1, by rw [p4 21 (by omega)]; exact b6, TyB_op (q := 20) ty b7 (Or.inl rfl), Wd_a (Wd_a wd b8) (Wd_1 (by omega) (by omega)), fx.trans (v2.trans (b9.trans g2)), ex.trans (l3.trans (b10.trans p2)), fun f => ?_⟩⟩
          · rw [List.length_append, List.length_append]; show w.length + w2.length + 1 + i ≤ i2; omega
          · rw [rx' f, rd8_ok (A := 1) (by omega) (Or.inr rfl) q1 b4 m2 (by rw [if_neg (by decide), p0]; rfl)]
        · have c5 := b1.1
          rw [b1.2.2.2.2.2.1.1, Option.bind_some, gd_pos s1, b1.2.2.2.2.1, Wp_bind]
          refine Wp_mono (addF_w tc hso b1) (fun q ⟨g1, g2⟩ => ?_)
          rw [Wp_bnd, Wp_some, nI_1]
          refine Or.inl ⟨rfl, mm - 1, by omega, j + 1, rfl, Or.inr ⟨k + 1, y', by omega, ⟨code, j2, g1, fx.trans (v2.trans (b2.trans g2)), b3, b4, ex.trans (l3.trans b5)⟩, nI 1, nI O, 1, fun f => ?_⟩⟩
          rw [rx' f, rd8_f q1 (by rw [b3, ti_eq, ti_nI (by omega)]; show ¬ _ = (0 : Int); omega)]
          rfl
      · rw [ex1 (show ¬ nI (kd i') = 8 from fun z => ck (nI_inj (by omega) (by omega) (show nI (kd i') = nI 8 from z))), Wp_some]
        refine Or.inr ⟨0, rfl, ?_⟩
        rw [Wp_some]
        exact Or.inl ⟨i', w, m', k, ii, wl, kl, cx, mx, x21, ck, ty, wd, fx, ex, rx⟩
    · have k28 : hI x 26 6 = 28 := by obtain ⟨k, y, _, ⟨code, j, f1, _⟩, _⟩ := fb; exact f1.2.2.2.1
      rw [k28, ex1 (by decide), Wp_some]
      refine Or.inr ⟨0, rfl, ?_⟩
      rw [Wp_some]
      exact Or.inr fb
  · refine ⟨0, rfl, ?_⟩
    dsimp only
    rcases y2 with ⟨i', w, a1, a2, a3, a4, a5, a6, a7, a8, a9, a10⟩ | ⟨code, j, a1, a2, a3, a4, a5⟩
    · refine Or.inl ⟨i', w, y.2, 0, by omega, by omega, by omega, a2, by omega, a3, a5, a6, TyB_m a7 (by omega), a8, a9, a10, fun f => ?_⟩
      rw [show f + 0 + 1 = f + 1 by omega, lp_8, show ((0 : Int32), nI O, (1 : Int32), (0 : Int32), m) = (nI 0, nI O, (1 : Int32), (0 : Int32), m) from rfl, rd8_ok (by omega) (Or.inl rfl) y1 a4 y.2 (if_pos rfl)]
    · have c5 := a1.1
      refine Or.inr ⟨0, y, by omega, ⟨code, j, a1, a2, a3, a4, a5⟩, nI 0, nI O, 1, fun f => ?_⟩
      rw [show f + 0 + 1 = f + 1 by omega, lp_8, show ((0 : Int32), nI O, (1 : Int32), (0 : Int32), m) = (nI 0, nI O, (1 : Int32), (0 : Int32), m) from rfl, rd8_f y1 (by rw [a3, ti_eq, ti_nI (by omega)]; show ¬ _ = (0 : Int); omega)]
      rfl
theorem either_j (hN : 2000 ≤ N) (ts : Tks b nn kd st ps e) (hkd : ∀ j, j ≤ e → kd j ≤ 10100) (tc : TC c) (hso : so < 3) (hsl : sl < 4) (hl : ops.length ≤ i) (cs : CS kd st e c so fm i 0 ops h) (mc : MC b nn kd st ps sl i 0 ops m) (m21 : hI m 0 21 = nI so) : Wp (f45 N h) fun u => Wp (f178 N m) fun y => (∃ i' w, i ≤ i' ∧ w.length + i ≤ i' ∧ CS kd st e c so fm i' 0 (ops ++ w) u ∧ y.1 = 0 ∧ MC b nn kd st ps sl i' 0 (ops ++ w) y.2 ∧ hI y.2 0 21 = nI so ∧ TyB w 22 ∧ Wd so w ∧ FR c so h u ∧ FE sl m y.2) ∨ BoF st c so sl h m u y := by
  have he := ts.2.2.2.2
  have s1 := (tc_shp tc).1
  unfold f45
  rw [Wp_bind]
  refine Wp_mono (both_j (O := 0) (by omega) ts hkd tc hso hsl (Or.inl rfl) hl cs mc m21) (fun u hu => ?_)
  rw [Wp_bind]
  refine Wp_lp (fun mm x => ∃ j : Nat, x.1 = nI j ∧ ((∃ i' w o' O m' k, e + 1 - i' ≤ mm ∧ j ≤ i' ∧ i ≤ i' ∧ w.length + i ≤ i' ∧ k ≤ 2 * (i' - i) ∧ CS kd st e c so fm i' 0 (ops ++ w) x.2 ∧ (O = 0 ∨ O = 1) ∧ ops ++ w = o' ++ orL O ∧ MC b nn kd st ps sl i' 0 o' m' ∧ hI m' 0 21 = nI so ∧ kd i' ≠ 8 ∧ TyB w 22 ∧ Wd so w ∧ FR c so h x.2 ∧ FE sl m m' ∧ ∀ f, lp (f178_l6 N) (f + k + 1) ((0 : Int32), (0 : Int32), (1 : Int32), (0 : Int32), m) = (f178_b21 N (nI O) m').bind (cnt8 N f)) ∨ ∃ k y, k ≤ 1200 ∧ BoF st c so sl h m x.2 y ∧ F8 N k ((0 : Int32), (0 : Int32), (1 : Int32), (0 : Int32), m) y)) ?_ N (e + 1) _ (by omega) ?_
  · rintro mm ⟨_, x⟩ ⟨j, hj, hx⟩
    dsimp only at hj hx
    subst hj
    unfold f45_l4
    dsimp only
    rcases hx with ⟨i', w, o', O, m', k, mi, ji, ii, wl, kl, cx, hO, ow, mx, x21, k8, ty, wd, fx, ex, rx⟩ | fb
    · have hie := cx.2.1.1
      have kb := hkd i' hie
      have lo : o'.length < 300 ∨ O = 0 := by
        rcases hO with z | z
        · exact Or.inr z
        · left
          have := congrArg List.length ow
          rw [List.length_append, List.length_append] at this
          have e1 : (orL O).length = 1 := by rw [z]; rfl
          omega
      have hl0 : (ops ++ w).length ≤ i' := by rw [List.length_append]; omega
      rw [cx.1.2.1]
      by_cases ck : kd i' = 9
      · have hlt : i' < e := by
          refine Classical.byContradiction fun hh => ?_
          have e1 : i' = e := by omega
          rw [e1] at ck
          rcases ts.2.2.1 with z | z <;> omega
        have ol : o'.length < 300 := by
          have := congrArg List.length ow
          rw [List.length_append, List.length_append] at this
          omega
        obtain ⟨m1, l1, l2, l3, l4⟩ := (look8 (N := N) (by omega) ts hie hsl hO ol mx).2.1 ck
        rw [← ow] at l2
        rw [if_neg (show ¬ (300 : Int32) ≤ nI j by rw [ti_le, ti_nI (by omega)]; show ¬ (300 : Int) ≤ _; omega), if_pos (show nI (kd i') = 9 by rw [ck]; rfl), Wp_bind]
        refine Wp_mono (step_w he tc hlt cx) (fun v ⟨v1, v2⟩ => ?_)
        rw [Wp_bind]
        refine Wp_mono (both_j (O := 1) (by omega) ts hkd tc hso hsl (Or.inr rfl) (show (ops ++ w).length ≤ i' + 1 by omega) v1 l2 (by rw [l4]; exact x21)) (fun z hz => ?_)
        have rx' : ∀ f, lp (f178_l6 N) (f + k + 1) ((0 : Int32), (0 : Int32), (1 : Int32), (0 : Int32), m) = lp (f178_l6 N) f ((0 : Int32), nI 1, (1 : Int32), (0 : Int32), m1) := fun f => by
          rw [rx f, l1]
          rfl
        rcases hz with ⟨i2, w2, m2, k2, b1, b2, b3, b4, b5, b6, b7, b8, b9, b10, b11, b12⟩ | ⟨k2, y2, b1, ⟨code, j2, b2, b3, b4, b5, b6⟩, b7⟩
        · have hi2 := b4.2.1.1
          have hl3 : (ops ++ w ++ w2).length < 300 := by rw [List.length_append, List.length_append]; omega
          rw [b4.2.2.1.1, Option.bind_some, gd_pos s1, b4.1.2.2.2.2.1, Wp_bind]
          refine Wp_mono (show Wp (f80 N c (nI so) (nI 9) _) _ from add_w tc hso hl3 (by omega) b4) (fun q ⟨g1, g2⟩ => ?_)
          rw [Wp_bnd, Wp_some, nI_1]
          have e4 : ops ++ w ++ w2 ++ [9] = ops ++ (w ++ w2 ++ [9]) := by rw [List.append_assoc, List.append_assoc, List.append_assoc]
          rw [e4] at g1
          refine Or.inl ⟨rfl, mm - 1, by omega, j + 1, rfl, Or.inl ⟨i2, w ++ w2 ++ [9], ops ++ w ++ w2, 1, m2, k + k2 + 1, by omega, by omega, by omega, ?_, by omega, g1, Or.inr rfl, by rw [← e4]; rfl, b5, b6, b7, TyB_op (q := 21) ty b8 (Or.inr rfl), Wd_a (Wd_a wd b9) (Wd_1 (by omega) (by omega)), fx.trans (v2.trans (b10.trans g2)), ex.trans (l3.trans b11), fun f => ?_⟩⟩
          · rw [List.length_append, List.length_append]; show w.length + w2.length + 1 + i ≤ i2; omega
          · have := rx' (f + k2 + 1)
            rw [b12 f, show f + k2 + 1 + k + 1 = f + (k + k2 + 1) + 1 by omega] at this
            exact this
        · rw [b2.2.2.2.2.2.1.1, Option.bind_some, gd_pos s1, b2.2.2.2.2.1, Wp_bind]
          refine Wp_mono (addF_w tc hso b2) (fun q ⟨g1, g2⟩ => ?_)
          rw [Wp_bnd, Wp_some, nI_1]
          obtain ⟨a1, a2, a3, hf⟩ := b7
          refine Or.inl ⟨rfl, mm - 1, by omega, j + 1, rfl, Or.inr ⟨k + k2 + 1, y2, by omega, ⟨code, j2, g1, fx.trans (v2.trans (b3.trans g2)), b4, b5, ex.trans (l3.trans b6)⟩, a1, a2, a3, fun f => ?_⟩⟩
          have := rx' (f + k2 + 1)
          rw [hf f, show f + k2 + 1 + k + 1 = f + (k + k2 + 1) + 1 by omega] at this
          exact this
      · rw [ex1 (show ¬ nI (kd i') = 9 from fun z => ck (nI_inj (by omega) (by omega) (show nI (kd i') = nI 9 from z))), Wp_some]
        refine Or.inr ⟨0, rfl, ?_⟩
        rw [Wp_some]
        -- the reference ends, too
        have fin : ∃ m2, f178_b21 N (nI O) m' = some (0, (0, 0, 0, 0, m2)) ∧ MC b nn kd st ps sl i' 0 (ops ++ w) m2 ∧ FE sl m' m2 ∧ hI m2 0 21 = hI m' 0 21 := by
          by_cases ol : o'.length < 300
          · obtain ⟨m2, l1, l2, l3, l4⟩ := (look8 (N := N) (by omega) ts hie hsl hO ol mx).2.2 k8 ck
            rw [← ow] at l2
            exact ⟨m2, l1, l2, l3, l4⟩
          · have O0 : O = 0 := lo.resolve_left ol
            subst O0
            have eo : ops ++ w = o' := by rw [ow]; show o' ++ [] = o'; rw [List.append_nil]
            have tk := mx.2.2.2.1
            refine ⟨m', ?_, by rw [eo]; exact mx, FE.rfl', rfl⟩
            have ea : f164 N (f160 97 110 100) m' = some (if kd i' = 8 then 1 else 0) := isw_w tk (by omega) (by decide)
            have e9 : (28530 : Int64) = wcode 9 := by decide
            have b40 : f178_b40 N 0 (nI 0) 0 m' = some (0, (0, 0, 0, 0, m')) := by
              unfold f178_b40 f178_b49 f178_b51 f178_b58 f178_b63
              rw [if_pos rfl, if_pos rfl, if_pos rfl, if_pos rfl, if_pos (show nI 0 = 0 from rfl)]
            unfold f178_b21 f178_b39
            rw [ea, Option.bind_some, if_neg k8]
            by_cases h2 : hI m' 0 10 = 2
            · rw [if_pos h2, e9, if_neg (fun z => ck ((tk_wd tk (by omega) h2).1 z))]; exact b40
            · rw [if_neg h2]; exact b40
        obtain ⟨m2, l1, l2, l3, l4⟩ := fin
        have er : lp (f178_l6 N) N ((0 : Int32), (0 : Int32), (1 : Int32), (0 : Int32), m) = some (1, (0, 0, 0, 0, m2)) := by
          have := rx (N - k - 1)
          rw [show N - k - 1 + k + 1 = N by omega, l1] at this
          rw [this]
          show lp (f178_l6 N) (N - k - 1) (0, 0, 0, 0, m2) = _
          rw [show N - k - 1 = (N - k - 2) + 1 by omega, lp_8]
          unfold f178_l6
          dsimp only
          rw [if_pos rfl]
          rfl
        unfold f178
        rw [er, Option.bind_some]
        dsimp only
        rw [if_neg (by omega), Wp_some]
        exact Or.inl ⟨i', w, ii, wl, cx, rfl, l2, by rw [l4]; exact x21, ty, wd, fx, ex.trans l3⟩
    · have k28 : hI x 26 6 = 28 := by obtain ⟨k, y, _, ⟨code, j, f1, _⟩, _⟩ := fb; exact f1.2.2.2.1
      rw [k28, ex1 (by decide), Wp_some]
      refine Or.inr ⟨0, rfl, ?_⟩
      rw [Wp_some]
      obtain ⟨k, y, kl, bf, a1, a2, a3, hf⟩ := fb
      have er : lp (f178_l6 N) N ((0 : Int32), (0 : Int32), (1 : Int32), (0 : Int32), m) = some (0, (a1, a2, a3, y.1, y.2)) := by
        have := hf (N - k - 1)
        rw [show N - k - 1 + k + 1 = N by omega] at this
        exact this
      unfold f178
      rw [er, Option.bind_some, if_pos rfl, Wp_some]
      exact Or.inr bf
  · refine ⟨0, rfl, ?_⟩
    dsimp only
    rcases hu with ⟨i', w, m', k, a1, a2, a3, a4, a5, a6, a7, a8, a9, a10, a11, a12⟩ | ⟨k, y, b1, b2, b3⟩
    · exact Or.inl ⟨i', w, ops ++ w, 0, m', k, by omega, by omega, a1, a2, by omega, a4, Or.inl rfl, by show _ = ops ++ w ++ []; rw [List.append_nil], a5, a6, a7, TyB_m a8 (by omega), a9, a10, a11, a12⟩
    · exact Or.inr ⟨k, y, by omega, b2, b3⟩
end
