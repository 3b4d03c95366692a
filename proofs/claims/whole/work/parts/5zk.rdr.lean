/-! ===== the class's reader ===== -/
def nmk (so : Nat) : Nat := if so = 0 then 127 else if so = 1 then 131 else 35
theorem nmk_ok : ∀ so, so < 3 → ∀ k, k < 8 → (f123 (nI (nmk so)) (nI k) = 0 ↔ ¬ okB so k = true) := by decide
/-- the class's reader stands at token i, d entries deep, with these operations put -/
def CS (kd st : Nat → Nat) (e c so fm i d : Nat) (ops : List Nat) (h : Hp) : Prop := (hI h 26 5 = nI i ∧ hI h 26 6 = nI (kd i) ∧ hI h 26 2 = 0 ∧ hI h 26 9 = nI d ∧ hI h 26 7 = nI so ∧ hI h 26 8 = nI (nmk so)) ∧ (i ≤ e ∧ ∀ j, j ≤ e → hI h 24 j = nI (kd j) ∧ hI h 25 j = nI (st j)) ∧ (hR h 26 4 = some c ∧ RF h) ∧ hI h c 3 = nI ops.length ∧ (∀ j o, ops[j]? = some o → hI h (c + 1) j = nI o) ∧ hI h (c + 3) so = nI ops.length ∧ ∀ j o, fm ≤ j → ops[j]? = some o → o < 8 → so = 0 → bt (hI h c 5) o
/-- what it leaves -/
def FR (c so : Nat) (h h' : Hp) : Prop := (∀ x, x ≠ 26 → x ≠ c → x ≠ c + 1 → x ≠ c + 3 → hI h' x = hI h x) ∧ hI h' c 4 = hI h c 4 ∧ (∀ j, j ≠ so → hI h' (c + 3) j = hI h (c + 3) j) ∧ hI h' 26 1 = hI h 26 1 ∧ hR h' = hR h ∧ (so ≠ 0 → hI h' c 5 = hI h c 5) ∧ (hI h' 26 2 = 0 → hI h 26 2 = 0 ∧ hI h' 26 3 = hI h 26 3)
theorem FR.rfl' {c so : Nat} {h : Hp} : FR c so h h := ⟨fun _ _ _ _ _ => rfl, rfl, fun _ _ => rfl, rfl, rfl, fun _ => rfl, fun z => ⟨z, rfl⟩⟩
theorem FR.trans {c so : Nat} {h h1 h2 : Hp} (x : FR c so h h1) (y : FR c so h1 h2) : FR c so h h2 := ⟨fun z a1 a2 a3 a4 => (y.1 z a1 a2 a3 a4).trans (x.1 z a1 a2 a3 a4), y.2.1.trans x.2.1, fun j hj => (y.2.2.1 j hj).trans (x.2.2.1 j hj), y.2.2.2.1.trans x.2.2.2.1, y.2.2.2.2.1.trans x.2.2.2.2.1, fun z => (y.2.2.2.2.2.1 z).trans (x.2.2.2.2.2.1 z), fun z => ⟨(x.2.2.2.2.2.2 (y.2.2.2.2.2.2 z).1).1, (y.2.2.2.2.2.2 z).2.trans (x.2.2.2.2.2.2 (y.2.2.2.2.2.2 z).1).2⟩⟩
theorem tc_26 {c : Nat} (h : TC c) : c ≠ 26 ∧ c + 1 ≠ 26 ∧ c + 3 ≠ 26 ∧ c ≠ 24 ∧ c ≠ 25 ∧ c + 1 ≠ 24 ∧ c + 1 ≠ 25 ∧ c + 3 ≠ 24 ∧ c + 3 ≠ 25 ∧ c < 20 := by rcases h with rfl | rfl | rfl | rfl | rfl <;> omega
theorem FR.u {c so j : Nat} {v : Int32} {h : Hp} (tc : TC c) (hj : j ≠ 1 ∧ j ≠ 2 ∧ j ≠ 3) : FR c so h (uI h 26 j v) := by
  have t := tc_26 tc
  exact ⟨fun x h1 _ _ _ => hI_uI_ne h1, by rw [hI_uI_ne t.1], fun k _ => by rw [hI_uI_ne t.2.2.1], by rw [hI_uI_eq, pu_ne (Ne.symm hj.1)], rfl, fun _ => by rw [hI_uI_ne t.1], fun z => by rw [hI_uI_eq, pu_ne (Ne.symm hj.2.1)] at z; rw [hI_uI_eq, pu_ne (Ne.symm hj.2.2)]; exact ⟨z, rfl⟩⟩
/-- it is failed: only the reader's own cell has changed -/
theorem FR.f {c so : Nat} {h h' : Hp} (tc : TC c) (e : ∀ z, z ≠ 26 → hI h' z = hI h z) (e1 : hI h' 26 1 = hI h 26 1) (er : hR h' = hR h) (nf : ¬ hI h' 26 2 = 0) : FR c so h h' := by
  have t := tc_26 tc
  exact ⟨fun x h1 _ _ _ => e x h1, by rw [e c t.1], fun k _ => by rw [e (c + 3) t.2.2.1], e1, er, fun _ => by rw [e c t.1], fun z => absurd z nf⟩
/-- it has failed -/
def FdS (code pos c so : Nat) (h : Hp) : Prop := (1 ≤ code ∧ code ≤ 5) ∧ hI h 26 2 = nI code ∧ hI h 26 3 = nI pos ∧ hI h 26 6 = 28 ∧ hI h 26 7 = nI so ∧ (hR h 26 4 = some c ∧ RF h) ∧ 0 ≤ (hI h c 3).toInt ∧ (hI h c 3).toInt ≤ 300
section
variable {N e c so fm i d : Nat} {kd st : Nat → Nat} {ops : List Nat} {h : Hp}
theorem step_w (he : e ≤ 300) (tc : TC c) (hi : i < e) (x : CS kd st e c so fm i d ops h) : Wp (f41 N h) fun u => CS kd st e c so fm (i + 1) d ops u ∧ FR c so h u := by
  have t := tc_26 tc
  obtain ⟨⟨x1, x2, x3, x4, x5, x6⟩, ⟨x7, x8⟩, ⟨x9, x10⟩, x11, x12, x13, x14⟩ := x
  unfold f41
  rw [x1, nI_1, if_neg (show ¬ (301 : Int32) ≤ nI (i + 1) by rw [ti_le, ti_nI (by omega)]; show ¬ (301 : Int) ≤ _; omega), Wp_bnd, Wp_gd]
  have e5 : hI (uI h 26 5 (nI (i + 1))) 26 5 = nI (i + 1) := by rw [hI_uI_eq, pu_eq]
  have e24 : hI (uI h 26 5 (nI (i + 1))) 24 = hI h 24 := hI_uI_ne (by omega)
  rw [e5, e24, nix (by omega), (x8 (i + 1) (by omega)).1]
  refine ⟨nbk (by omega) (by omega), ?_⟩
  rw [Wp_bnd, Wp_some]
  have r : ∀ k, k ≠ 5 → k ≠ 6 → hI (uI (uI h 26 5 (nI (i + 1))) 26 6 (nI (kd (i + 1)))) 26 k = hI h 26 k := fun k k1 k2 => by rw [hI_uI_eq, pu_ne k2, hI_uI_eq, pu_ne k1]
  have rc : ∀ z, z ≠ 26 → hI (uI (uI h 26 5 (nI (i + 1))) 26 6 (nI (kd (i + 1)))) z = hI h z := fun z hz => by rw [hI_uI_ne hz, hI_uI_ne hz]
  refine ⟨⟨⟨by rw [hI_uI_eq, pu_ne (by omega)]; exact e5, by rw [hI_uI_eq, pu_eq], by rw [r 2 (by omega) (by omega)]; exact x3, by rw [r 9 (by omega) (by omega)]; exact x4, by rw [r 7 (by omega) (by omega)]; exact x5, by rw [r 8 (by omega) (by omega)]; exact x6⟩, ⟨by omega, fun j hj => by rw [rc 24 (by omega), rc 25 (by omega)]; exact x8 j hj⟩, ⟨x9, x10⟩, by rw [rc c t.1]; exact x11, fun j o hj => by rw [rc (c + 1) t.2.1]; exact x12 j o hj, by rw [rc (c + 3) t.2.2.1]; exact x13, fun j o a1 a2 a3 a4 => by rw [rc c t.1]; exact x14 j o a1 a2 a3 a4⟩, (FR.u tc (by omega)).trans (FR.u tc (by omega))⟩
theorem fail_w {code : Nat} (he : e ≤ 300) (tc : TC c) (h1 : 1 ≤ code) (h5 : code ≤ 5) (hl : ops.length ≤ 300) (x : CS kd st e c so fm i d ops h) : Wp (f42 N (nI code) h) fun u => FdS code (st i) c so u ∧ FR c so h u := by
  have t := tc_26 tc
  obtain ⟨⟨x1, x2, x3, x4, x5, x6⟩, ⟨x7, x8⟩, ⟨x9, x10⟩, x11, x12, x13, x14⟩ := x
  unfold f42
  have e5 : hI (uI h 26 2 (nI code)) 26 5 = nI i := by rw [hI_uI_eq, pu_ne (by omega)]; exact x1
  have e25 : hI (uI h 26 2 (nI code)) 25 = hI h 25 := hI_uI_ne (by omega)
  rw [if_pos x3, Wp_bnd, Wp_gd, e5, e25, nix (by omega), (x8 i x7).2]
  refine ⟨nbk (by omega) (by omega), ?_⟩
  rw [Wp_bnd, Wp_bnd, Wp_some]
  have rc : ∀ z, z ≠ 26 → hI (uI (uI (uI h 26 2 (nI code)) 26 3 (nI (st i))) 26 6 28) z = hI h z := fun z hz => by rw [hI_uI_ne hz, hI_uI_ne hz, hI_uI_ne hz]
  refine ⟨⟨⟨h1, h5⟩, ?_, ?_, ?_, ?_, ⟨x9, x10⟩, ?_, ?_⟩, FR.f tc rc (by rw [hI_uI_eq, pu_ne (by omega), hI_uI_eq, pu_ne (by omega), hI_uI_eq, pu_ne (by omega)]) rfl (by rw [hI_uI_eq, pu_ne (by omega), hI_uI_eq, pu_ne (by omega), hI_uI_eq, pu_eq, ti_eq, ti_nI (by omega)]; show ¬ _ = (0 : Int); omega)⟩
  · rw [hI_uI_eq, pu_ne (by omega), hI_uI_eq, pu_ne (by omega), hI_uI_eq, pu_eq]
  · rw [hI_uI_eq, pu_ne (by omega), hI_uI_eq, pu_eq]
  · rw [hI_uI_eq, pu_eq]
  · rw [hI_uI_eq, pu_ne (by omega), hI_uI_eq, pu_ne (by omega), hI_uI_eq, pu_ne (by omega)]; exact x5
  · rw [rc c t.1, x11, ti_nI (by omega)]; omega
  · rw [rc c t.1, x11, ti_nI (by omega)]; omega
/-- put an operation -/
theorem add_w {o : Nat} (tc : TC c) (hso : so < 3) (hl : ops.length < 300) (ho : o < 20000) (x : CS kd st e c so fm i d ops h) : Wp (f80 N c (nI so) (nI o) h) fun u => CS kd st e c so fm i d (ops ++ [o]) u ∧ FR c so h u := by
  have t := tc_26 tc
  obtain ⟨⟨x1, x2, x3, x4, x5, x6⟩, ⟨x7, x8⟩, ⟨x9, x10⟩, x11, x12, x13, x14⟩ := x
  obtain ⟨s1, s2, s3, s4⟩ := tc_shp tc
  obtain ⟨r0, r1, r2⟩ := tc_ref tc x10
  unfold f80
  rw [gd_pos s1, gd_pos s1, r0, Option.bind_some, s2, gd_pos (show (100, 300).1 = 100 from rfl), x11, if_neg (show ¬ Int32.ofNat 300 ≤ nI ops.length by show ¬ nI 300 ≤ nI ops.length; rw [ti_le, ti_nI (by omega), ti_nI (by omega)]; omega), gd_pos s1, Option.bind_some, gd_pos s1, s2, nix (by omega), Wp_gd]
  refine ⟨⟨rfl, nbk hl (by omega)⟩, ?_⟩
  rw [Wp_bnd, gd_pos s1, gd_pos s1, hI_uI_ne (by omega), x11, nI_1, Wp_bnd, gd_pos s1, hR_uI, hR_uI, r2, Option.bind_some, gd_pos s1, s4, Wp_gd]
  refine ⟨⟨rfl, nbk hso (by omega)⟩, ?_⟩
  have e3 : hI (uI (uI h (c + 1) ops.length (nI o)) c 3 (nI (ops.length + 1))) c 3 = nI (ops.length + 1) := by rw [hI_uI_eq, pu_eq]
  rw [Wp_bnd, e3, nix (by omega)]
  generalize hg : uI (uI (uI h (c + 1) ops.length (nI o)) c 3 (nI (ops.length + 1))) (c + 3) so (nI (ops.length + 1)) = g
  have gc : hI g c = pu (hI h c) 3 (nI (ops.length + 1)) := by rw [← hg, hI_uI_ne (by omega), hI_uI_eq, hI_uI_ne (by omega)]
  have g1 : hI g (c + 1) = pu (hI h (c + 1)) ops.length (nI o) := by rw [← hg, hI_uI_ne (by omega), hI_uI_ne (by omega), hI_uI_eq]
  have g3 : hI g (c + 3) = pu (hI h (c + 3)) so (nI (ops.length + 1)) := by rw [← hg, hI_uI_eq, hI_uI_ne (by omega), hI_uI_ne (by omega)]
  have go : ∀ z, z ≠ c → z ≠ c + 1 → z ≠ c + 3 → hI g z = hI h z := fun z z1 z2 z3 => by rw [← hg, hI_uI_ne z3, hI_uI_ne z1, hI_uI_ne z2]
  have gR : hR g = hR h := by rw [← hg]; rfl
  have g26 : hI g 26 = hI h 26 := go 26 (by omega) (by omega) (by omega)
  have fin : ∀ u : Hp, (∀ z, z ≠ c → hI u z = hI g z) → (∀ j, j ≠ 5 → hI u c j = hI g c j) → hR u = hR g → (∀ q, q < 8 → bt (hI g c 5) q → bt (hI u c 5) q) → (so = 0 → o < 8 → bt (hI u c 5) o) → (so ≠ 0 → hI u c 5 = hI g c 5) → CS kd st e c so fm i d (ops ++ [o]) u ∧ FR c so h u := by
    intro u u1 u2 u3 u4 u5 u6
    have u26 : hI u 26 = hI h 26 := (u1 26 (by omega)).trans g26
    have el : (ops ++ [o]).length = ops.length + 1 := by rw [List.length_append]; rfl
    refine ⟨⟨⟨by rw [u26]; exact x1, by rw [u26]; exact x2, by rw [u26]; exact x3, by rw [u26]; exact x4, by rw [u26]; exact x5, by rw [u26]; exact x6⟩, ⟨x7, fun j hj => by rw [u1 24 (by omega), u1 25 (by omega), go 24 (by omega) (by omega) (by omega), go 25 (by omega) (by omega) (by omega)]; exact x8 j hj⟩, ⟨by rw [u3, gR]; exact x9, fun a1 a2 a3 a4 => by rw [u3, gR]; exact x10 a1 a2 a3 a4⟩, by rw [u2 3 (by omega), gc, pu_eq, el], fun j o' hj => ?_, by rw [u1 (c + 3) (by omega), g3, pu_eq, el], fun j o' a1 a2 a3 a4 => ?_⟩, ⟨fun z z1 z2 z3 z4 => (u1 z z2).trans (go z z2 z3 z4), by rw [u2 4 (by omega), gc, pu_ne (by omega)], fun j hj => by rw [u1 (c + 3) (by omega), g3, pu_ne hj], by rw [u26], by rw [u3, gR], fun z => by rw [u6 z, gc, pu_ne (by omega)], fun z => by rw [u26] at z ⊢; exact ⟨z, rfl⟩⟩⟩
    · rw [u1 (c + 1) (by omega), g1]
      by_cases cj : j < ops.length
      · rw [List.getElem?_append_left cj] at hj
        rw [pu_ne (by omega)]; exact x12 j o' hj
      · rw [List.getElem?_append_right (by omega)] at hj
        have hj0 : j - ops.length = 0 := by
          refine Classical.byContradiction fun hh => ?_
          have : ([o] : List Nat)[j - ops.length]? = none := List.getElem?_eq_none (show 1 ≤ j - ops.length by omega)
          rw [this] at hj; cases hj
        rw [hj0] at hj
        have ho' : o = o' := Option.some.inj hj
        have ej : j = ops.length := by omega
        rw [ej, pu_eq, ho']
    · by_cases cj : j < ops.length
      · rw [List.getElem?_append_left cj] at a2
        have := x14 j o' a1 a2 a3 a4
        refine u4 o' a3 ?_
        rw [gc, pu_ne (by omega)]; exact this
      · rw [List.getElem?_append_right (by omega)] at a2
        have hj0 : j - ops.length = 0 := by
          refine Classical.byContradiction fun hh => ?_
          have : ([o] : List Nat)[j - ops.length]? = none := List.getElem?_eq_none (show 1 ≤ j - ops.length by omega)
          rw [this] at a2; cases a2
        rw [hj0] at a2
        have ho' : o = o' := Option.some.inj a2
        subst ho'
        exact u5 a4 a3
  unfold f80_b24
  by_cases c0 : so = 0
  · rw [if_pos (show nI so = 0 by rw [c0]; rfl)]
    by_cases c8 : 8 ≤ o
    · rw [if_pos (by rw [ti_le, ti_nI (by omega)]; show (8 : Int) ≤ _; omega), Wp_some]
      exact fin g (fun _ _ => rfl) (fun _ _ => rfl) rfl (fun _ _ z => z) (fun _ z => by omega) (fun _ => rfl)
    · rw [if_neg (by rw [ti_le, ti_nI (by omega)]; show ¬ (8 : Int) ≤ _; omega), gd_pos s1, gd_pos s1, Wp_bnd, Wp_some]
      refine fin _ (fun z hz => hI_uI_ne hz) (fun j hj => by rw [hI_uI_eq, pu_ne hj]) rfl (fun q hq z => ?_) (fun _ _ => ?_) (fun z => absurd c0 z)
      · rw [hI_uI_eq, pu_eq, bt_or (by omega)]; exact Or.inl z
      · rw [hI_uI_eq, pu_eq, bt_or (by omega), bt_one (by omega) (by omega)]; exact Or.inr rfl
  · rw [if_neg (show ¬ nI so = 0 from fun z => c0 (nI_inj (by omega) (by omega) (show nI so = nI 0 from z))), Wp_some]
    exact fin g (fun _ _ => rfl) (fun _ _ => rfl) rfl (fun _ _ z => z) (fun z => absurd z c0) (fun _ => rfl)
theorem CS_d {d' : Nat} {v : Int32} (tc : TC c) (x : CS kd st e c so fm i d ops h) (hv : v = nI d') : CS kd st e c so fm i d' ops (uI h 26 9 v) := by
  have t := tc_26 tc
  obtain ⟨⟨x1, x2, x3, x4, x5, x6⟩, ⟨x7, x8⟩, ⟨x9, x10⟩, x11, x12, x13, x14⟩ := x
  have r : ∀ k, k ≠ 9 → hI (uI h 26 9 v) 26 k = hI h 26 k := fun k k1 => by rw [hI_uI_eq, pu_ne k1]
  have rc : ∀ z, z ≠ 26 → hI (uI h 26 9 v) z = hI h z := fun z hz => hI_uI_ne hz
  exact ⟨⟨by rw [r 5 (by omega)]; exact x1, by rw [r 6 (by omega)]; exact x2, by rw [r 2 (by omega)]; exact x3, by rw [hI_uI_eq, pu_eq, hv], by rw [r 7 (by omega)]; exact x5, by rw [r 8 (by omega)]; exact x6⟩, ⟨x7, fun j hj => by rw [rc 24 (by omega), rc 25 (by omega)]; exact x8 j hj⟩, ⟨x9, x10⟩, by rw [rc c t.1]; exact x11, fun j o hj => by rw [rc (c + 1) t.2.1]; exact x12 j o hj, by rw [rc (c + 3) t.2.2.1]; exact x13, fun j o a1 a2 a3 a4 => by rw [rc c t.1]; exact x14 j o a1 a2 a3 a4⟩
/-! what failed stays so -/
variable {code pos : Nat}
theorem FdS_u {v : Int32} (tc : TC c) (x : FdS code pos c so h) : FdS code pos c so (uI h 26 9 v) := by
  have t := tc_26 tc
  obtain ⟨x1, x2, x3, x4, x5, x6, x7, x8⟩ := x
  exact ⟨x1, by rw [hI_uI_eq, pu_ne (by omega)]; exact x2, by rw [hI_uI_eq, pu_ne (by omega)]; exact x3, by rw [hI_uI_eq, pu_ne (by omega)]; exact x4, by rw [hI_uI_eq, pu_ne (by omega)]; exact x5, x6, by rw [hI_uI_ne t.1]; exact x7, by rw [hI_uI_ne t.1]; exact x8⟩
theorem failF_w {v : Int32} (tc : TC c) (x : FdS code pos c so h) : Wp (f42 N v h) fun u => FdS code pos c so u ∧ FR c so h u := by
  have t := tc_26 tc
  obtain ⟨x1, x2, x3, x4, x5, x6, x7, x8⟩ := x
  unfold f42
  rw [x2, if_neg (by rw [ti_eq, ti_nI (by omega)]; show ¬ _ = (0 : Int); omega), Wp_bnd, Wp_some]
  exact ⟨⟨x1, by rw [hI_uI_eq, pu_ne (by omega)]; exact x2, by rw [hI_uI_eq, pu_ne (by omega)]; exact x3, by rw [hI_uI_eq, pu_eq], by rw [hI_uI_eq, pu_ne (by omega)]; exact x5, x6, by rw [hI_uI_ne t.1]; exact x7, by rw [hI_uI_ne t.1]; exact x8⟩, FR.u tc (by omega)⟩
theorem addF_w {v : Int32} (tc : TC c) (hso : so < 3) (x : FdS code pos c so h) : Wp (f80 N c (nI so) v h) fun u => FdS code pos c so u ∧ FR c so h u := by
  have t := tc_26 tc
  obtain ⟨x1, x2, x3, x4, x5, ⟨x6, x10⟩, x7, x8⟩ := x
  obtain ⟨s1, s2, s3, s4⟩ := tc_shp tc
  obtain ⟨r0, r1, r2⟩ := tc_ref tc x10
  have b24 : ∀ g : Hp, hI g 26 = hI h 26 → hR g = hR h → 0 ≤ (hI g c 3).toInt → (hI g c 3).toInt ≤ 300 → FR c so h g → Wp (f80_b24 N c (nI so) v g) fun u => FdS code pos c so u ∧ FR c so h u := by
    intro g g1 g2 g3 g4 g5
    have key : ∀ u : Hp, hI u 26 = hI g 26 → hR u = hR g → hI u c 3 = hI g c 3 → FdS code pos c so u := fun u u1 u2 u3 => ⟨x1, by rw [u1, g1]; exact x2, by rw [u1, g1]; exact x3, by rw [u1, g1]; exact x4, by rw [u1, g1]; exact x5, ⟨by rw [u2, g2]; exact x6, fun a1 a2 a3 a4 => by rw [u2, g2]; exact x10 a1 a2 a3 a4⟩, by rw [u3]; exact g3, by rw [u3]; exact g4⟩
    unfold f80_b24
    by_cases c0 : nI so = 0
    · rw [if_pos c0]
      by_cases c8 : (8 : Int32) ≤ v
      · rw [if_pos c8, Wp_some]; exact ⟨key g rfl rfl rfl, g5⟩
      · rw [if_neg c8, gd_pos s1, gd_pos s1, Wp_bnd, Wp_some]
        refine ⟨key _ (hI_uI_ne (by omega)) rfl (by rw [hI_uI_eq, pu_ne (by omega)]), g5.trans ⟨fun z _ z2 _ _ => hI_uI_ne z2, by rw [hI_uI_eq, pu_ne (by omega)], fun j _ => by rw [hI_uI_ne (by omega)], by rw [hI_uI_ne (by omega)], rfl, fun z => absurd (nI_inj (by omega) (by omega) (show nI so = nI 0 from c0)) z, fun z => by rw [hI_uI_ne (by omega)] at z ⊢; exact ⟨z, rfl⟩⟩⟩
    · rw [if_neg c0, Wp_some]; exact ⟨key g rfl rfl rfl, g5⟩
  unfold f80
  rw [gd_pos s1, gd_pos s1, r0, Option.bind_some, s2, gd_pos (show (100, 300).1 = 100 from rfl)]
  have t300 : (Int32.ofNat 300).toInt = 300 := rfl
  by_cases cs : Int32.ofNat 300 ≤ hI h c 3
  · rw [if_pos cs]
    exact b24 h rfl rfl x7 x8 FR.rfl'
  · have cs' := cs
    rw [ti_le, t300] at cs'
    rw [if_neg cs, gd_pos s1, Option.bind_some, gd_pos s1, s2, Wp_gd]
    refine ⟨⟨rfl, inb_mk x7 (by omega)⟩, ?_⟩
    rw [Wp_bnd, gd_pos s1, gd_pos s1, Wp_bnd, gd_pos s1, hR_uI, hR_uI, r2, Option.bind_some, gd_pos s1, s4, Wp_gd]
    refine ⟨⟨rfl, nbk hso (by omega)⟩, ?_⟩
    rw [Wp_bnd]
    have tv : (hI h c 3 + 1).toInt = (hI h c 3).toInt + 1 := ti_inc (by omega)
    have e3 : hI (uI h (c + 1) (ix (hI h c 3)) v) c 3 = hI h c 3 := by rw [hI_uI_ne (by omega)]
    rw [e3]
    have gc3 : ∀ (w : Int32), hI (uI (uI (uI h (c + 1) (ix (hI h c 3)) v) c 3 (hI h c 3 + 1)) (c + 3) (ix (nI so)) w) c 3 = hI h c 3 + 1 := fun w => by rw [hI_uI_ne (by omega), hI_uI_eq, pu_eq]
    refine b24 _ ?_ rfl (by rw [gc3]; omega) (by rw [gc3]; omega) ⟨fun z z1 z2 z3 z4 => by rw [hI_uI_ne z4, hI_uI_ne z2, hI_uI_ne z3], by rw [hI_uI_ne (by omega), hI_uI_eq, pu_ne (by omega), hI_uI_ne (by omega)], fun j hj => ?_, ?_, rfl, fun _ => by rw [hI_uI_ne (by omega), hI_uI_eq, pu_ne (by omega), hI_uI_ne (by omega)], fun z => by rw [hI_uI_ne (by omega), hI_uI_ne (by omega), hI_uI_ne (by omega)] at z ⊢; exact ⟨z, rfl⟩⟩
    · rw [hI_uI_ne (by omega), hI_uI_ne (by omega), hI_uI_ne (by omega)]
    · rw [hI_uI_eq, nix (by omega), pu_ne hj, hI_uI_ne (by omega), hI_uI_ne (by omega)]
    · rw [hI_uI_ne (by omega), hI_uI_ne (by omega), hI_uI_ne (by omega)]
end
