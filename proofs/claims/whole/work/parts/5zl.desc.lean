/-! ===== descent against pile ===== -/
def Ty (w : List Nat) (q : Nat) : Prop := ∀ v t, v + t + q ≤ 32 → tcs w (v, t) = some (v + 1, t)
def Wd (so : Nat) (w : List Nat) : Prop := ∀ o, o ∈ w → o ≤ 10099 ∧ (o < 8 → okn so o)
theorem tcs_app : ∀ (a b : List Nat) (p : Nat × Nat), tcs (a ++ b) p = (tcs a p).bind (tcs b)
  | [], b, p => rfl
  | o :: a, b, p => by
    show (tc1 o p).bind (tcs (a ++ b)) = ((tc1 o p).bind (tcs a)).bind (tcs b)
    cases tc1 o p with
    | none => rfl
    | some q => exact tcs_app a b q
theorem okB_n {so k : Nat} (h : okB so k = true) : okn so k := by
  unfold okB at h
  unfold okn
  simp at h
  omega
theorem Ty_1 {k q : Nat} (h : 100 ≤ k ∨ k < 8) (hq : 1 ≤ q) : Ty [k] q := fun v t hv => by
  show (tc1 k (v, t)).bind (tcs []) = _
  unfold tc1
  rw [if_pos h, if_pos (show v + t < 32 by omega)]
  rfl
theorem Ty_m {w : List Nat} {q q' : Nat} (h : Ty w q) (hq : q ≤ q') : Ty w q' := fun v t hv => h v t (by omega)
theorem Ty_neg {w : List Nat} {q : Nat} (h : Ty w q) : Ty (w ++ [29]) q := fun v t hv => by
  rw [tcs_app, h v t hv]
  show (tc1 29 (v + 1, t)).bind (tcs []) = _
  unfold tc1
  rw [if_neg (by omega), if_pos rfl, if_pos (show 1 ≤ v + 1 by omega)]
  rfl
theorem Ty_op {w w2 : List Nat} {q o : Nat} (h1 : Ty w (q + 1)) (h2 : Ty w2 q) (ho : 14 ≤ o ∧ o ≤ 17) : Ty (w ++ w2 ++ [o]) (q + 1) := fun v t hv => by
  rw [tcs_app, tcs_app, h1 v t hv, Option.bind_some, h2 (v + 1) t (by omega), Option.bind_some]
  show (tc1 o (v + 1 + 1, t)).bind (tcs []) = _
  unfold tc1
  rw [if_neg (by omega), if_neg (by omega), if_neg (by omega), if_neg (by omega), if_pos ho, if_pos (show 2 ≤ v + 1 + 1 by omega)]
  rfl
theorem Wd_a {so : Nat} {a b : List Nat} (h1 : Wd so a) (h2 : Wd so b) : Wd so (a ++ b) := fun o ho => by
  rcases List.mem_append.1 ho with z | z
  · exact h1 o z
  · exact h2 o z
theorem Wd_1 {so o : Nat} (h : 8 ≤ o) (h2 : o ≤ 10099) : Wd so [o] := fun x hx => by
  have : x = o := by rcases List.mem_cons.1 hx with z | z; exact z; cases z
  subst this
  exact ⟨h2, fun z => by omega⟩
/-- it fails, k tokens on -/
def FailP (kd : Nat → Nat) (so i : Nat) (s : Nat × List Nat × List Nat × Nat) (code k : Nat) : Prop := ∃ t, SyR kd so k i s t ∧ (SyF kd so (i + k) t code ∨ (code = 1 ∧ SyX kd (i + k) t ∧ ¬ (sySt 3 t.2.2.1 t.2.1).2 = []))
theorem FailP_t {kd : Nat → Nat} {so i k l code : Nat} {s t : Nat × List Nat × List Nat × Nat} (h1 : SyR kd so k i s t) (h2 : FailP kd so (i + k) t code l) : FailP kd so i s code (k + l) := by
  obtain ⟨u, u1, u2⟩ := h2
  rw [show i + k + l = i + (k + l) by omega] at u2
  exact ⟨u, SyR_t k h1 u1, u2⟩
theorem SyR_1 {kd : Nat → Nat} {so i : Nat} {s t : Nat × List Nat × List Nat × Nat} (h : Sy1 kd so i s t) : SyR kd so 1 i s t := ⟨t, h, rfl⟩
/-- failed, on both sides -/
def FailB (kd st : Nat → Nat) (e c so i : Nat) (s : Nat × List Nat × List Nat × Nat) (h u : Hp) : Prop := ∃ code k, i + k ≤ e ∧ FailP kd so i s code k ∧ FdS code (st (i + k)) c so u ∧ FR c so h u
def OneB (kd st : Nat → Nat) (e c so fm i d : Nat) (ops P : List Nat) (h u : Hp) : Prop := ∃ i' w, i ≤ i' ∧ w.length + i ≤ i' ∧ CS kd st e c so fm i' d (ops ++ w) u ∧ SyR kd so (i' - i) i (d, ops, P, 0) ((syWh P d (ops ++ w)).1, (syWh P d (ops ++ w)).2.1, (syWh P d (ops ++ w)).2.2, 1) ∧ Ty w (1 + 2 * (8 - d)) ∧ Wd so w ∧ FR c so h u
def ProB (kd st : Nat → Nat) (e c so fm i d : Nat) (ops P : List Nat) (h u : Hp) : Prop := ∃ i' w o' pend, i ≤ i' ∧ w.length + i ≤ i' ∧ CS kd st e c so fm i' d (ops ++ w) u ∧ SyR kd so (i' - i) i (d, ops, P, 0) (d, o', pend ++ P, 1) ∧ ops ++ w = o' ++ pend.map clsO ∧ (pend = [] ∨ pend = [5] ∨ pend = [6]) ∧ kd i' ≠ 16 ∧ kd i' ≠ 17 ∧ Ty w (2 + 2 * (8 - d)) ∧ Wd so w ∧ FR c so h u
def SumB (kd st : Nat → Nat) (e c so fm i d : Nat) (ops P : List Nat) (h u : Hp) : Prop := ∃ i' w o' pend, i ≤ i' ∧ w.length + i ≤ i' ∧ CS kd st e c so fm i' d (ops ++ w) u ∧ SyR kd so (i' - i) i (d, ops, P, 0) (d, o', pend ++ P, 1) ∧ sySt 3 (pend ++ P) o' = (ops ++ w, P) ∧ ¬ 40 ∈ pend ∧ (kd i' ≠ 14 ∧ kd i' ≠ 15 ∧ kd i' ≠ 16 ∧ kd i' ≠ 17) ∧ Ty w (3 + 2 * (8 - d)) ∧ Wd so w ∧ FR c so h u
theorem syWh_1 {P : List Nat} {d : Nat} {o : List Nat} (h : hd1 P ∨ ∃ x q, P = x :: q ∧ (x = 5 ∨ x = 6)) : syWh P d o = (d, o, P) := by
  rcases h with ((rfl | ⟨q, rfl⟩) | ⟨x, q, rfl, hx⟩) | ⟨x, q, rfl, hx⟩
  · rfl
  · rfl
  · show (if x = 2 then _ else _) = _; rw [if_neg (by omega)]
  · show (if x = 2 then _ else _) = _; rw [if_neg (by omega)]
section
variable {N e c so fm : Nat} {kd st : Nat → Nat}
theorem one_s {n i d : Nat} {ops P : List Nat} {h : Hp} (he : e ≤ 300) (hend : kd e = 27 ∨ kd e = 28) (hkd : ∀ j, j ≤ e → kd j ≤ 10100) (tc : TC c) (hso : so < 3) (ih1 : ∀ i ops P h, d + 1 ≤ 8 → ops.length ≤ i → CS kd st e c so fm i (d + 1) ops h → Wp (fG N n 50 h) fun u => OneB kd st e c so fm i (d + 1) ops P h u ∨ FailB kd st e c so i (d + 1, ops, P, 0) h u) (ih2 : ∀ i ops P h, d + 1 ≤ 8 → hd0 P → ops.length ≤ i → CS kd st e c so fm i (d + 1) ops h → Wp (fG N n 48 h) fun u => SumB kd st e c so fm i (d + 1) ops P h u ∨ FailB kd st e c so i (d + 1, ops, P, 0) h u) (d8 : d ≤ 8) (hl : ops.length ≤ i) (cs : CS kd st e c so fm i d ops h) : Wp (f50 (fG N n) N h) fun u => OneB kd st e c so fm i d ops P h u ∨ FailB kd st e c so i (d, ops, P, 0) h u := by
  have cs0 := cs
  obtain ⟨⟨x1, x2, x3, x4, x5, x6⟩, ⟨x7, x8⟩, ⟨x9, x10⟩, x11, x12, x13, x14⟩ := cs
  have kb := hkd i x7
  have lt : kd i ≠ 27 → kd i ≠ 28 → i < e := fun a1 a2 => by
    refine Classical.byContradiction fun hh => ?_
    have : i = e := by omega
    subst this
    rcases hend with z | z
    · exact a1 z
    · exact a2 z
  have s1 := (tc_shp tc).1
  have fl : ∀ code : Nat, 1 ≤ code → code ≤ 5 → SyF kd so i (d, ops, P, 0) code → Wp ((f42 N (nI code) h).bind fun q => some q) fun u => OneB kd st e c so fm i d ops P h u ∨ FailB kd st e c so i (d, ops, P, 0) h u := fun code a1 a2 a3 => by
    rw [Wp_bind]
    refine Wp_mono (fail_w he tc a1 a2 (by omega) cs0) (fun u ⟨u1, u2⟩ => ?_)
    rw [Wp_some]
    exact Or.inr ⟨code, 0, by omega, ⟨_, rfl, Or.inl a3⟩, u1, u2⟩
  -- an operand
  have opd : ((100 ≤ kd i ∧ kd i ≤ 10099) ∨ (kd i < 8 ∧ okB so (kd i) = true)) → Wp (f50_b30 (fG N n) N h) fun u => OneB kd st e c so fm i d ops P h u ∨ FailB kd st e c so i (d, ops, P, 0) h u := fun hk => by
    have hie : i < e := lt (by omega) (by omega)
    unfold f50_b30
    rw [x9, Option.bind_some, gd_pos s1, x5, x2, Wp_bind]
    refine Wp_mono (add_w tc hso (by omega) (by omega) cs0) (fun u ⟨u1, u2⟩ => ?_)
    rw [Wp_bind]
    refine Wp_mono (step_w he tc hie u1) (fun w ⟨w1, w2⟩ => ?_)
    rw [Wp_some]
    refine Or.inl ⟨i + 1, [kd i], by omega, by show 1 + i ≤ i + 1; omega, w1, ?_, Ty_1 (by omega) (by omega), fun o ho => ?_, u2.trans w2⟩
    · rw [show i + 1 - i = 1 by omega]
      exact SyR_1 (Or.inl ⟨rfl, hk, rfl⟩)
    · have : o = kd i := by rcases List.mem_cons.1 ho with z | z; exact z; cases z
      subst this
      exact ⟨by omega, fun z => by rcases hk with y | y; omega; exact okB_n y.2⟩
  -- entering
  have ent : kd i = 24 ∨ kd i = 15 → d < 8 → Wp (f51 N h) fun q => q.1 = 1 ∧ CS kd st e c so fm (i + 1) (d + 1) ops q.2 ∧ FR c so h q.2 := fun hk hd => by
    have hie : i < e := lt (by omega) (by omega)
    unfold f51
    rw [x4, if_pos (by rw [ti_lt, ti_nI (by omega)]; show _ < (8 : Int); omega), Wp_bnd, nI_1, Wp_bind]
    refine Wp_mono (step_w he tc hie (CS_d tc cs0 rfl)) (fun u ⟨u1, u2⟩ => ?_)
    rw [Wp_some]
    exact ⟨rfl, u1, (FR.u tc (by omega)).trans u2⟩
  have entF : kd i = 24 ∨ kd i = 15 → ¬ d < 8 → Wp (f51 N h) fun q => q.1 = 0 ∧ FailB kd st e c so i (d, ops, P, 0) h q.2 := fun hk hd => by
    unfold f51
    rw [x4, if_neg (by rw [ti_lt, ti_nI (by omega)]; show ¬ _ < (8 : Int); omega), Wp_bind]
    refine Wp_mono (fail_w (code := 3) he tc (by omega) (by omega) (by omega) cs0) (fun u ⟨u1, u2⟩ => ?_)
    rw [Wp_some]
    exact ⟨rfl, 3, 0, by omega, ⟨_, rfl, Or.inl ⟨rfl, Or.inr (Or.inr (Or.inl ⟨rfl, hk, by dsimp only; omega⟩))⟩⟩, u1, u2⟩
  have b22 : kd i ≤ 10099 → (kd i < 8 → okB so (kd i) = true) → Wp (f50_b22 (fG N n) N h) fun u => OneB kd st e c so fm i d ops P h u ∨ FailB kd st e c so i (d, ops, P, 0) h u := fun h1 h2 => by
    unfold f50_b22
    rw [x2]
    by_cases c100 : 100 ≤ kd i
    · rw [if_pos (by rw [ti_le, ti_nI (by omega)]; show (100 : Int) ≤ _; omega)]
      exact opd (Or.inl ⟨c100, h1⟩)
    · rw [if_neg (by rw [ti_le, ti_nI (by omega)]; show ¬ (100 : Int) ≤ _; omega)]
      by_cases c8 : 8 ≤ kd i
      · rw [if_pos (by rw [ti_le, ti_nI (by omega)]; show (8 : Int) ≤ _; omega)]
        by_cases c24 : kd i = 24
        · rw [if_pos (show nI (kd i) = 24 by rw [c24]; rfl), Wp_bind]
          by_cases cd : d < 8
          · refine Wp_mono (ent (Or.inl c24) cd) (fun q ⟨q1, q2, q3⟩ => ?_)
            rw [if_neg (by rw [q1]; decide), Wp_bind]
            have s1' : Sy1 kd so i (d, ops, P, 0) (d + 1, ops, 40 :: P, 0) := Or.inr (Or.inl ⟨rfl, c24, cd, rfl⟩)
            refine Wp_mono (ih2 (i + 1) ops (40 :: P) q.2 (by omega) (Or.inr ⟨P, rfl⟩) (by omega) q2) (fun v hv => ?_)
            rw [Wp_bnd, Wp_bind]
            rcases hv with ⟨i', w, o', pend, v1, v2, v3, v4, v5, v6, v7, v8, v9, v10⟩ | ⟨code, k, v1, v2, v3, v4⟩
            · have hv9 : hI v 26 9 - 1 = nI d := by rw [v3.1.2.2.2.1]; exact nI_pred d
              have cv := CS_d tc v3 hv9
              have r1 : SyR kd so (i' - i) i (d, ops, P, 0) (d + 1, o', pend ++ 40 :: P, 1) := by
                have := SyR_t 1 (SyR_1 s1') v4
                rw [show 1 + (i' - (i + 1)) = i' - i by omega] at this
                exact this
              unfold f43
              rw [cv.1.2.1]
              by_cases c25 : kd i' = 25
              · have hie' : i' < e := by
                  refine Classical.byContradiction fun hh => ?_
                  have e1 : i' = e := by have := v3.2.1.1; omega
                  rw [e1] at c25
                  omega
                rw [if_pos (by rw [c25]; rfl), Wp_bind]
                refine Wp_mono (step_w he tc hie' cv) (fun z ⟨z1, z2⟩ => ?_)
                rw [Wp_some, Wp_some]
                refine Or.inl ⟨i' + 1, w, by omega, by omega, z1, ?_, Ty_m v8 (by omega), v9, q3.trans (v10.trans ((FR.u tc (by omega)).trans z2))⟩
                have s2 : Sy1 kd so i' (d + 1, o', pend ++ 40 :: P, 1) ((syWh P d (ops ++ w)).1, (syWh P d (ops ++ w)).2.1, (syWh P d (ops ++ w)).2.2, 1) := by
                  refine Or.inr (Or.inr (Or.inr (Or.inr (Or.inr ⟨rfl, c25, ?_, P, ?_, ?_⟩))))
                  · exact List.mem_append.2 (Or.inr (List.mem_cons_self ..))
                  · dsimp only; rw [v5]
                  · dsimp only; rw [v5, show d + 1 - 1 = d by omega]
                have := SyR_t (i' - i) r1 (by rw [show i + (i' - i) = i' by omega]; exact SyR_1 s2)
                rw [show i' - i + 1 = i' + 1 - i by omega] at this
                exact this
              · rw [if_neg (show ¬ nI (kd i') = 25 from fun zz => c25 (nI_inj (by have := hkd i' v3.2.1.1; omega) (by omega) (show nI (kd i') = nI 25 from zz))), Wp_bind]
                have hl' : (ops ++ w).length ≤ 300 := by rw [List.length_append]; have := v3.2.1.1; omega
                refine Wp_mono (fail_w (code := 1) he tc (by omega) (by omega) hl' cv) (fun z ⟨z1, z2⟩ => ?_)
                rw [Wp_some, Wp_some]
                refine Or.inr ⟨1, i' - i, by have := v3.2.1.1; omega, ⟨_, r1, Or.inr ⟨rfl, ?_, ?_⟩⟩, by rw [show i + (i' - i) = i' by omega]; exact z1, q3.trans (v10.trans ((FR.u tc (by omega)).trans z2))⟩
                · rw [show i + (i' - i) = i' by omega]
                  exact ⟨rfl, v7.1, v7.2.1, v7.2.2.1, v7.2.2.2, fun zz => c25 zz.1⟩
                · dsimp only; rw [v5]; intro zz; cases zz
            · have cv := FdS_u (v := hI v 26 9 - 1) tc v3
              unfold f43
              rw [cv.2.2.2.1, if_neg (by decide), Wp_bind]
              refine Wp_mono (failF_w tc cv) (fun z ⟨z1, z2⟩ => ?_)
              rw [Wp_some, Wp_some]
              refine Or.inr ⟨code, 1 + k, by omega, FailP_t (SyR_1 s1') v2, by rw [show i + (1 + k) = i + 1 + k by omega]; exact z1, q3.trans (v4.trans ((FR.u tc (by omega)).trans z2))⟩
          · refine Wp_mono (entF (Or.inl c24) cd) (fun q ⟨q1, q2⟩ => ?_)
            rw [if_pos q1, Wp_some]
            exact Or.inr q2
        · rw [if_neg (show ¬ nI (kd i) = 24 from fun zz => c24 (nI_inj (by omega) (by omega) (show nI (kd i) = nI 24 from zz)))]
          by_cases c15 : kd i = 15
          · rw [if_pos (show nI (kd i) = 15 by rw [c15]; rfl), Wp_bind]
            by_cases cd : d < 8
            · refine Wp_mono (ent (Or.inr c15) cd) (fun q ⟨q1, q2, q3⟩ => ?_)
              rw [if_neg (by rw [q1]; decide), Wp_bind]
              have s1' : Sy1 kd so i (d, ops, P, 0) (d + 1, ops, 2 :: P, 0) := Or.inr (Or.inr (Or.inl ⟨rfl, c15, cd, rfl⟩))
              refine Wp_mono (ih1 (i + 1) ops (2 :: P) q.2 (by omega) (by omega) q2) (fun v hv => ?_)
              rw [Wp_bnd]
              rcases hv with ⟨i', w, v1, v2, v3, v4, v5, v6, v7⟩ | ⟨code, k, v1, v2, v3, v4⟩
              · have hv9 : hI v 26 9 - 1 = nI d := by rw [v3.1.2.2.2.1]; exact nI_pred d
                have cv := CS_d tc v3 hv9
                rw [cv.2.2.1.1, Option.bind_some, gd_pos s1, cv.1.2.2.2.2.1, Wp_bind]
                have hl' : (ops ++ w).length < 300 := by rw [List.length_append]; have := v3.2.1.1; omega
                refine Wp_mono (show Wp (f80 N c (nI so) (nI 29) _) _ from add_w tc hso hl' (by omega) cv) (fun z ⟨z1, z2⟩ => ?_)
                rw [Wp_some]
                rw [List.append_assoc] at z1
                have eW : syWh (2 :: P) (d + 1) (ops ++ w) = syWh P d (ops ++ (w ++ [29])) := by
                  show (if 2 = 2 then syWh P (d + 1 - 1) (ops ++ w ++ [29]) else _) = _
                  rw [if_pos rfl, show d + 1 - 1 = d by omega, List.append_assoc]
                rw [eW] at v4
                refine Or.inl ⟨i', w ++ [29], by omega, by rw [List.length_append]; show w.length + 1 + i ≤ i'; omega, z1, ?_, Ty_m (Ty_neg v5) (by omega), Wd_a v6 (Wd_1 (by omega) (by omega)), q3.trans (v7.trans ((FR.u tc (by omega)).trans z2))⟩
                have := SyR_t 1 (SyR_1 s1') v4
                rw [show 1 + (i' - (i + 1)) = i' - i by omega] at this
                exact this
              · have cv := FdS_u (v := hI v 26 9 - 1) tc v3
                rw [cv.2.2.2.2.2.1.1, Option.bind_some, gd_pos s1, cv.2.2.2.2.1, Wp_bind]
                refine Wp_mono (addF_w tc hso cv) (fun z ⟨z1, z2⟩ => ?_)
                rw [Wp_some]
                refine Or.inr ⟨code, 1 + k, by omega, FailP_t (SyR_1 s1') v2, by rw [show i + (1 + k) = i + 1 + k by omega]; exact z1, q3.trans (v4.trans ((FR.u tc (by omega)).trans z2))⟩
            · refine Wp_mono (entF (Or.inr c15) cd) (fun q ⟨q1, q2⟩ => ?_)
              rw [if_pos q1, Wp_some]
              exact Or.inr q2
          · rw [if_neg (show ¬ nI (kd i) = 15 from fun zz => c15 (nI_inj (by omega) (by omega) (show nI (kd i) = nI 15 from zz)))]
            exact fl 1 (by omega) (by omega) ⟨rfl, Or.inr (Or.inr (Or.inr ⟨rfl, c8, by omega, c24, c15⟩))⟩
      · rw [if_neg (by rw [ti_le, ti_nI (by omega)]; show ¬ (8 : Int) ≤ _; omega)]
        exact opd (Or.inr ⟨by omega, h2 (by omega)⟩)
  unfold f50
  rw [x2, x6]
  by_cases c1 : kd i ≤ 10099
  · rw [if_pos (by rw [ti_le, ti_nI (by omega)]; show _ ≤ (10099 : Int); omega)]
    by_cases c8 : 8 ≤ kd i
    · rw [if_pos (by rw [ti_le, ti_nI (by omega)]; show (8 : Int) ≤ _; omega)]
      exact b22 c1 (fun z => by omega)
    · rw [if_neg (by rw [ti_le, ti_nI (by omega)]; show ¬ (8 : Int) ≤ _; omega)]
      by_cases co : okB so (kd i) = true
      · rw [if_neg (fun z => (nmk_ok so hso (kd i) (by omega)).1 z co)]
        exact b22 c1 (fun _ => co)
      · rw [if_pos ((nmk_ok so hso (kd i) (by omega)).2 co)]
        exact fl 5 (by omega) (by omega) ⟨rfl, Or.inr (Or.inl ⟨rfl, by omega, co⟩)⟩
  · rw [if_neg (by rw [ti_le, ti_nI (by omega)]; show ¬ _ ≤ (10099 : Int); omega)]
    exact fl 2 (by omega) (by omega) ⟨rfl, Or.inl ⟨rfl, by omega⟩⟩
end
