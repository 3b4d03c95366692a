/-! ===== the reference's reader: core, pile ===== -/
/-- the reference's reader stands at token i, d entries deep, with these operations put -/
def MC (b : Nat → Nat) (n : Nat) (kd st ps : Nat → Nat) (sl i d : Nat) (ops : List Nat) (m : Hp) : Prop := ByM m b n ∧ hI m 0 8 = nI (ps (i + 1)) ∧ hI m 0 9 = nI (st i) ∧ Tk m (kd i) ∧ hI m 0 19 = nI d ∧ hI m 0 13 = nI (620 * sl) ∧ hI m 0 15 = nI ops.length ∧ ∀ j o, ops[j]? = some o → hI m 3 (620 * sl + 15 + 2 * j) = nI (mo o).1 ∧ hI m 3 (620 * sl + 16 + 2 * j) = nI (mo o).2
def MP (p : List Nat) (m : Hp) : Prop := hI m 0 18 = nI p.length ∧ ∀ j x, p[j]? = some x → hI m 5 (p.length - 1 - j) = nI x
/-- what reading leaves of the reference -/
def FE (sl : Nat) (m m' : Hp) : Prop := (∀ c, c ≠ 0 → c ≠ 3 → c ≠ 5 → hI m' c = hI m c) ∧ (∀ j, ¬ (8 ≤ j ∧ j ≤ 11) → j ≠ 15 → ¬ (18 ≤ j ∧ j ≤ 20) → hI m' 0 j = hI m 0 j) ∧ ∀ r, (r < 620 * sl + 15 ∨ 620 * sl + 620 ≤ r) → hI m' 3 r = hI m 3 r
theorem FE.rfl' {sl : Nat} {m : Hp} : FE sl m m := ⟨fun _ _ _ _ => rfl, fun _ _ _ _ => rfl, fun _ _ => rfl⟩
theorem FE.trans {sl : Nat} {m m1 m2 : Hp} (x : FE sl m m1) (y : FE sl m1 m2) : FE sl m m2 := ⟨fun c p q r => (y.1 c p q r).trans (x.1 c p q r), fun j p q r => (y.2.1 j p q r).trans (x.2.1 j p q r), fun r p => (y.2.2 r p).trans (x.2.2 r p)⟩
theorem FE.n {sl : Nat} {m m' : Hp} (f : FN m m') : FE sl m m' := ⟨fun c h _ _ => f.1 c h, fun j h _ _ => f.2 j h, fun r _ => by rw [f.1 3 (by omega)]⟩
theorem FE.u {sl j : Nat} {v : Int32} {m : Hp} (hj : 18 ≤ j ∧ j ≤ 20) : FE sl m (uI m 0 j v) := ⟨fun c h _ _ => hI_uI_ne h, fun j' h1 h2 h3 => by rw [hI_uI_eq, pu_ne (by omega)], fun r _ => by rw [hI_uI_ne (by omega)]⟩
section
variable {N n sl i d so : Nat} {b : Nat → Nat} {kd st ps : Nat → Nat} {ops : List Nat} {m m' : Hp}
/-- cells that the core does not hang on -/
theorem MC_u {j : Nat} {v : Int32} (x : MC b n kd st ps sl i d ops m) (hj : j = 18 ∨ j = 20 ∨ j = 21 ∨ j = 22) : MC b n kd st ps sl i d ops (uI m 0 j v) := by
  obtain ⟨⟨a1, a2, a3⟩, x2, x3, x4, x5, x6, x7, x8⟩ := x
  have e : ∀ k, k ≠ j → hI (uI m 0 j v) 0 k = hI m 0 k := fun k hk => by rw [hI_uI_eq, pu_ne hk]
  refine ⟨⟨by rw [e 5 (by omega)]; exact a1, a2, fun k hk => by rw [hI_uI_ne (by omega)]; exact a3 k hk⟩, by rw [e 8 (by omega)]; exact x2, by rw [e 9 (by omega)]; exact x3, ?_, by rw [e 19 (by omega)]; exact x5, by rw [e 13 (by omega)]; exact x6, by rw [e 15 (by omega)]; exact x7, fun k o hk => by rw [hI_uI_ne (by omega)]; exact x8 k o hk⟩
  unfold Tk
  rw [e 10 (by omega), e 11 (by omega), hL_uI]
  exact x4
theorem MC_5 {j : Nat} {v : Int32} (x : MC b n kd st ps sl i d ops m) : MC b n kd st ps sl i d ops (uI m 5 j v) := by
  obtain ⟨⟨a1, a2, a3⟩, x2, x3, x4, x5, x6, x7, x8⟩ := x
  refine ⟨⟨by rw [hI_uI_ne (by omega)]; exact a1, a2, fun k hk => by rw [hI_uI_ne (by omega)]; exact a3 k hk⟩, by rw [hI_uI_ne (by omega)]; exact x2, by rw [hI_uI_ne (by omega)]; exact x3, ?_, by rw [hI_uI_ne (by omega)]; exact x5, by rw [hI_uI_ne (by omega)]; exact x6, by rw [hI_uI_ne (by omega)]; exact x7, fun k o hk => by rw [hI_uI_ne (by omega)]; exact x8 k o hk⟩
  unfold Tk
  rw [hI_uI_ne (by omega), hL_uI]
  exact x4
theorem MC_d {d' : Nat} {v : Int32} (x : MC b n kd st ps sl i d ops m) (hv : v = nI d') : MC b n kd st ps sl i d' ops (uI m 0 19 v) := by
  obtain ⟨⟨a1, a2, a3⟩, x2, x3, x4, x5, x6, x7, x8⟩ := x
  have e : ∀ k, k ≠ 19 → hI (uI m 0 19 v) 0 k = hI m 0 k := fun k hk => by rw [hI_uI_eq, pu_ne hk]
  refine ⟨⟨by rw [e 5 (by omega)]; exact a1, a2, fun k hk => by rw [hI_uI_ne (by omega)]; exact a3 k hk⟩, by rw [e 8 (by omega)]; exact x2, by rw [e 9 (by omega)]; exact x3, ?_, by rw [hI_uI_eq, pu_eq, hv], by rw [e 13 (by omega)]; exact x6, by rw [e 15 (by omega)]; exact x7, fun k o hk => by rw [hI_uI_ne (by omega)]; exact x8 k o hk⟩
  unfold Tk
  rw [e 10 (by omega), e 11 (by omega), hL_uI]
  exact x4
/-- the next token -/
theorem MC_n {e : Nat} (hN : 1000 ≤ N) (ts : Tks b n kd st ps e) (hi : i < e) (x : MC b n kd st ps sl i d ops m) : Wp (f159 N m) fun u => FN m u ∧ MC b n kd st ps sl (i + 1) d ops u := by
  obtain ⟨x1, x2, x3, x4, x5, x6, x7, x8⟩ := x
  refine Wp_mono (nextM_w hN x1 (ts.2.1 (i + 1) (by omega)) x2) (fun u ⟨u1, u2, u3, u4⟩ => ⟨u1, ByM_n x1 u1, u2, u3, u4, ?_, ?_, ?_, fun j o hj => ?_⟩)
  · rw [u1.2 19 (by omega)]; exact x5
  · rw [u1.2 13 (by omega)]; exact x6
  · rw [u1.2 15 (by omega)]; exact x7
  · rw [u1.1 3 (by omega)]; exact x8 j o hj
theorem MP_n {p : List Nat} (x : MP p m) (f : FN m m') : MP p m' := ⟨(f.2 18 (by omega)).trans x.1, fun j y hj => by rw [f.1 5 (by omega)]; exact x.2 j y hj⟩
/-- put an operation -/
theorem emit_w {o : Nat} {p1 p2 : Int32} (h1 : p1 = nI (mo o).1) (h2 : p2 = nI (mo o).2) (hl : ops.length < 300) (hsl : sl < 4) (x : MC b n kd st ps sl i d ops m) : Wp (f165 N p1 p2 m) fun u => MC b n kd st ps sl i d (ops ++ [o]) u ∧ FE sl m u ∧ (∀ c, c ≠ 0 → c ≠ 3 → hI u c = hI m c) ∧ ∀ j, j ≠ 15 → hI u 0 j = hI m 0 j := by
  obtain ⟨⟨a1, a2, a3⟩, x2, x3, x4, x5, x6, x7, x8⟩ := x
  have ea : nI (620 * sl) + 15 + 2 * nI ops.length = nI (620 * sl + 15 + 2 * ops.length) := by
    show nI (620 * sl) + nI 15 + nI 2 * nI ops.length = _
    rw [nI_add, pk_mul, nI_add]
  unfold f165
  rw [x6, x7, ea, nix (by omega), Wp_gd]
  refine ⟨nbk (by omega) (by omega), ?_⟩
  rw [Wp_bnd, hI_uI_ne (c' := 0) (by omega), x6, x7, ea, nI_1, Wp_gd, nix (by omega)]
  refine ⟨nbk (by omega) (by omega), ?_⟩
  rw [Wp_bnd, hI_uI_ne (c' := 0) (by omega), hI_uI_ne (c' := 0) (by omega), x7, nI_1, Wp_bnd, Wp_some]
  have r3 : ∀ r, hI (uI (uI (uI m 3 (620 * sl + 15 + 2 * ops.length) p1) 3 (620 * sl + 15 + 2 * ops.length + 1) p2) 0 15 (nI (ops.length + 1))) 3 r = if r = 620 * sl + 15 + 2 * ops.length + 1 then p2 else if r = 620 * sl + 15 + 2 * ops.length then p1 else hI m 3 r := fun r => by
    rw [hI_uI_ne (by omega), hI_uI_eq]
    unfold pu
    rw [hI_uI_eq]
    unfold pu
    rfl
  have r0 : ∀ j, j ≠ 15 → hI (uI (uI (uI m 3 (620 * sl + 15 + 2 * ops.length) p1) 3 (620 * sl + 15 + 2 * ops.length + 1) p2) 0 15 (nI (ops.length + 1))) 0 j = hI m 0 j := fun j hj => by
    rw [hI_uI_eq, pu_ne hj, hI_uI_ne (by omega), hI_uI_ne (by omega)]
  have rc : ∀ c, c ≠ 0 → c ≠ 3 → hI (uI (uI (uI m 3 (620 * sl + 15 + 2 * ops.length) p1) 3 (620 * sl + 15 + 2 * ops.length + 1) p2) 0 15 (nI (ops.length + 1))) c = hI m c := fun c c1 c2 => by
    rw [hI_uI_ne c1, hI_uI_ne c2, hI_uI_ne c2]
  refine ⟨⟨⟨by rw [r0 5 (by omega)]; exact a1, a2, fun k hk => by rw [rc 4 (by omega) (by omega)]; exact a3 k hk⟩, by rw [r0 8 (by omega)]; exact x2, by rw [r0 9 (by omega)]; exact x3, ?_, by rw [r0 19 (by omega)]; exact x5, by rw [r0 13 (by omega)]; exact x6, ?_, fun j o' hj => ?_⟩, ⟨fun c c1 c2 _ => rc c c1 c2, fun j _ h2 _ => r0 j h2, fun r hr => ?_⟩, rc, r0⟩
  · unfold Tk
    rw [r0 10 (by omega), r0 11 (by omega)]
    exact x4
  · rw [hI_uI_eq, pu_eq, List.length_append]; rfl
  · by_cases c : j < ops.length
    · rw [List.getElem?_append_left c] at hj
      rw [r3, r3, if_neg (by omega), if_neg (by omega), if_neg (by omega), if_neg (by omega)]
      exact x8 j o' hj
    · rw [List.getElem?_append_right (by omega)] at hj
      have hj0 : j - ops.length = 0 := by
        refine Classical.byContradiction fun hh => ?_
        have : ([o] : List Nat)[j - ops.length]? = none := List.getElem?_eq_none (show 1 ≤ j - ops.length by omega)
        rw [this] at hj
        cases hj
      rw [hj0] at hj
      have ho : o = o' := Option.some.inj hj
      have ej : j = ops.length := by omega
      subst ho ej
      rw [r3, r3, if_neg (by omega), if_pos rfl, if_pos (by omega)]
      exact ⟨h1, h2⟩
  · rw [r3, if_neg (by omega), if_neg (by omega)]
/-- push -/
theorem push_w {x : Nat} {v : Int32} {p : List Nat} (hv : v = nI x) (hp : p.length < 160) (mc : MC b n kd st ps sl i d ops m) (mp : MP p m) : Wp (f166 N v m) fun u => MC b n kd st ps sl i d ops u ∧ MP (x :: p) u ∧ FE sl m u ∧ hI u 0 20 = hI m 0 20 ∧ hI u 0 21 = hI m 0 21 := by
  unfold f166
  rw [mp.1, nix (by omega), Wp_gd]
  refine ⟨nbk (by omega) (by omega), ?_⟩
  rw [Wp_bnd, Wp_bnd, Wp_some, hI_uI_ne (by omega), mp.1, nI_1]
  refine ⟨MC_u (MC_5 mc) (Or.inl rfl), ⟨by rw [hI_uI_eq, pu_eq]; rfl, fun j y hj => ?_⟩, ⟨fun c c1 _ c3 => by rw [hI_uI_ne c1, hI_uI_ne c3], fun j h1 h2 h3 => by rw [hI_uI_eq, pu_ne (by omega), hI_uI_ne (by omega)], fun r _ => by rw [hI_uI_ne (by omega), hI_uI_ne (by omega)]⟩, by rw [hI_uI_eq, pu_ne (by omega), hI_uI_ne (by omega)], by rw [hI_uI_eq, pu_ne (by omega), hI_uI_ne (by omega)]⟩
  rw [hI_uI_ne (by omega), hI_uI_eq]
  have el : (x :: p).length = p.length + 1 := rfl
  cases j with
  | zero =>
    have : x = y := Option.some.inj hj
    rw [el, show p.length + 1 - 1 - 0 = p.length by omega, pu_eq, hv, this]
  | succ j =>
    have hj' : p[j]? = some y := hj
    have hlt : j < p.length := by
      refine Classical.byContradiction fun hh => ?_
      rw [List.getElem?_eq_none (by omega)] at hj'
      cases hj'
    rw [el, show p.length + 1 - 1 - (j + 1) = p.length - 1 - j by omega, pu_ne (by omega)]
    exact mp.2 j y hj'
/-- pop -/
theorem MP_pop {x : Nat} {p : List Nat} {v : Int32} (mp : MP (x :: p) m) (hv : v = nI p.length) : MP p (uI m 0 18 v) := by
  refine ⟨by rw [hI_uI_eq, pu_eq, hv], fun j y hj => ?_⟩
  rw [hI_uI_ne (by omega)]
  have := mp.2 (j + 1) y hj
  have el : (x :: p).length = p.length + 1 := rfl
  rw [el, show p.length + 1 - 1 - (j + 1) = p.length - 1 - j by omega] at this
  exact this
theorem MP_top {x : Nat} {p : List Nat} (mp : MP (x :: p) m) : hI m 0 18 = nI (p.length + 1) ∧ hI m 5 p.length = nI x := by
  refine ⟨mp.1, ?_⟩
  have := mp.2 0 x rfl
  have el : (x :: p).length = p.length + 1 := rfl
  rw [el, show p.length + 1 - 1 - 0 = p.length by omega] at this
  exact this
theorem MP_e {p : List Nat} (mp : MP p m) (e1 : hI m' 0 18 = hI m 0 18) (e2 : hI m' 5 = hI m 5) : MP p m' := ⟨e1.trans mp.1, fun j x hj => by rw [e2]; exact mp.2 j x hj⟩
/-- whole -/
theorem whole_w {p : List Nat} (hN : 1000 ≤ N) (hi : i ≤ 300) (hsl : sl < 4) (hb : ops.length + eN p ≤ i) (pw : PW p) (hc : cN p ≤ d) (d8 : d ≤ 8) (mc : MC b n kd st ps sl i d ops m) (mp : MP p m) : Wp (f167 N m) fun u => MC b n kd st ps sl i (syWh p d ops).1 (syWh p d ops).2.1 u ∧ MP (syWh p d ops).2.2 u ∧ hI u 0 20 = 1 ∧ FE sl m u ∧ hI u 0 21 = hI m 0 21 := by
  have hlen := (PW_len p pw).1
  unfold f167
  rw [Wp_bnd, Wp_bind]
  refine Wp_lp (fun k u => ∃ q d' o, k = q.length ∧ syWh q d' o = syWh p d ops ∧ o.length + eN q ≤ i ∧ PW q ∧ cN q ≤ d' ∧ d' ≤ 8 ∧ MC b n kd st ps sl i d' o u ∧ MP q u ∧ hI u 0 20 = 1 ∧ FE sl m u ∧ hI u 0 21 = hI m 0 21) ?_ N p.length _ (by omega) ⟨p, d, ops, rfl, rfl, hb, pw, hc, d8, MC_u mc (by omega), ⟨by rw [hI_uI_eq, pu_ne (by omega)]; exact mp.1, fun j x hj => by rw [hI_uI_ne (by omega)]; exact mp.2 j x hj⟩, by rw [hI_uI_eq, pu_eq], FE.u (by omega), by rw [hI_uI_eq, pu_ne (by omega)]⟩
  rintro k u ⟨q, d', o, rfl, eq, hb', pw', hc', d8', mc', mp', u20, fu, u21⟩
  unfold f167_l3
  cases q with
  | nil =>
    have : hI u 0 18 = nI 0 := mp'.1
    rw [this, if_pos (by decide), Wp_some]
    refine Or.inr ⟨0, rfl, ?_⟩
    rw [Wp_some, ← eq]
    exact ⟨mc', mp', u20, fu, u21⟩
  | cons x q =>
    obtain ⟨t1, t2⟩ := MP_top mp'
    have hlen' := (PW_len _ pw').1
    have el : (x :: q).length = q.length + 1 := rfl
    have e1 : nI (q.length + 1) - (1 : Int32) = nI q.length := nI_pred q.length
    rw [t1, if_neg (by rw [ti_le, ti_nI (by omega)]; show ¬ _ ≤ (0 : Int); omega), e1, Wp_gd]
    refine ⟨nbk (by omega) (by omega), ?_⟩
    rw [nix (by omega), t2]
    by_cases c : x = 2
    · subst c
      have eW : syWh (2 :: q) d' o = syWh q (d' - 1) (o ++ [29]) := by show (if 2 = 2 then _ else _) = _; rw [if_pos rfl]
      have ec : cN (2 :: q) = cN q + 1 := rfl
      have ee : eN (2 :: q) = eN q + 1 := rfl
      rw [if_pos (show nI 2 = 2 from rfl), Wp_bnd, Wp_bnd, Wp_bind]
      have h19 : hI (uI u 0 18 (nI q.length)) 0 19 = nI d' := by rw [hI_uI_eq, pu_ne (by omega)]; exact mc'.2.2.2.2.1
      have e2 : nI d' - (1 : Int32) = nI (d' - 1) := pk_sub (a := d') (b := 1) (by omega)
      rw [h19, e2]
      refine Wp_mono (emit_w (o := 29) rfl rfl (show o.length < 300 by omega) hsl (MC_d (d' := d' - 1) (MC_u mc' (Or.inl rfl)) rfl)) (fun w ⟨w1, w2, w3, w4⟩ => ?_)
      rw [Wp_some]
      have mpw : MP q w := MP_e (MP_pop (v := nI q.length) mp' rfl) (by rw [w4 18 (by omega), hI_uI_eq, pu_ne (by omega)]) (by rw [w3 5 (by omega) (by omega), hI_uI_ne (by omega)])
      refine Or.inl ⟨rfl, q.length, by omega, q, d' - 1, o ++ [29], rfl, by rw [← eW]; exact eq, by rw [List.length_append]; show o.length + 1 + eN q ≤ i; omega, pw'.1, by omega, by omega, w1, mpw, ?_, fu.trans ((FE.u (by omega)).trans ((FE.u (by omega)).trans w2)), ?_⟩
      · rw [w4 20 (by omega), hI_uI_eq, pu_ne (by omega), hI_uI_eq, pu_ne (by omega)]; exact u20
      · rw [w4 21 (by omega), hI_uI_eq, pu_ne (by omega), hI_uI_eq, pu_ne (by omega)]; exact u21
    · have hx : x < 1000 := by
        rcases pw'.2 with z | ⟨z, _⟩ | ⟨z, _⟩ <;> omega
      rw [if_neg (show ¬ nI x = 2 from fun z => c (nI_inj (by omega) (by omega) (show nI x = nI 2 from z))), Wp_some]
      refine Or.inr ⟨0, rfl, ?_⟩
      have eW : syWh (x :: q) d' o = (d', o, x :: q) := by show (if x = 2 then _ else _) = _; rw [if_neg c]
      rw [Wp_some, ← eq, eW]
      exact ⟨mc', mp', u20, fu, u21⟩
/-- settle -/
theorem setl_l {y : Nat} {p : List Nat} {K : Nat} (hy : 3 ≤ y) (hy2 : y ≤ 5) (hi : i ≤ 300) (hsl : sl < 4) (hb : ops.length + eN p ≤ i) (pw : PW p) (hK : p.length < K) (d8 : cN p ≤ 8) (mc : MC b n kd st ps sl i d ops m) (mp : MP p m) : Wp (lp (f168_l0 N (nI y)) K m) fun u => MC b n kd st ps sl i d (sySt y p ops).1 u.2 ∧ MP (sySt y p ops).2 u.2 ∧ FE sl m u.2 ∧ hI u.2 0 21 = hI m 0 21 ∧ hI u.2 0 20 = hI m 0 20 := by
  refine Wp_lp (fun k u => ∃ q o, k = q.length ∧ sySt y q o = sySt y p ops ∧ o.length + eN q ≤ i ∧ PW q ∧ cN q ≤ 8 ∧ MC b n kd st ps sl i d o u ∧ MP q u ∧ FE sl m u ∧ hI u 0 21 = hI m 0 21 ∧ hI u 0 20 = hI m 0 20) ?_ K p.length _ hK ⟨p, ops, rfl, rfl, hb, pw, d8, mc, mp, FE.rfl', rfl, rfl⟩
  rintro k u ⟨q, o, rfl, eq, hb', pw', hc', mc', mp', fu, u21, u20⟩
  unfold f168_l0
  cases q with
  | nil =>
    have : hI u 0 18 = nI 0 := mp'.1
    rw [this, if_pos (by decide), Wp_some]
    refine Or.inr ⟨0, rfl, ?_⟩
    rw [← eq]
    exact ⟨mc', mp', fu, u21, u20⟩
  | cons x q =>
    obtain ⟨t1, t2⟩ := MP_top mp'
    have hlen' := (PW_len _ pw').1
    have el : (x :: q).length = q.length + 1 := rfl
    have e1 : nI (q.length + 1) - (1 : Int32) = nI q.length := nI_pred q.length
    have hx : x = 2 ∨ x = 40 ∨ x = 3 ∨ x = 4 ∨ x = 5 ∨ x = 6 := by
      rcases pw'.2 with z | ⟨z, _⟩ | ⟨z, _⟩ <;> omega
    have stop : ¬ (x < 40 ∧ y ≤ x) → Wp (some (1, u) : Option (Nat × Hp)) (fun r => (r.1 = 0 ∧ ∃ k', k' < (x :: q).length ∧ ∃ q' o', k' = q'.length ∧ sySt y q' o' = sySt y p ops ∧ o'.length + eN q' ≤ i ∧ PW q' ∧ cN q' ≤ 8 ∧ MC b n kd st ps sl i d o' r.2 ∧ MP q' r.2 ∧ FE sl m r.2 ∧ hI r.2 0 21 = hI m 0 21 ∧ hI r.2 0 20 = hI m 0 20) ∨ ∃ e, r.1 = e + 1 ∧ MC b n kd st ps sl i d (sySt y p ops).1 (e, r.2).2 ∧ MP (sySt y p ops).2 (e, r.2).2 ∧ FE sl m (e, r.2).2 ∧ hI (e, r.2).2 0 21 = hI m 0 21 ∧ hI (e, r.2).2 0 20 = hI m 0 20) := fun hs => by
      have eS : sySt y (x :: q) o = (o, x :: q) := by show (if x < 40 ∧ y ≤ x then _ else _) = _; rw [if_neg hs]
      rw [Wp_some]
      refine Or.inr ⟨0, rfl, ?_⟩
      rw [← eq, eS]
      exact ⟨mc', mp', fu, u21, u20⟩
    rw [t1, if_neg (by rw [ti_le, ti_nI (by omega)]; show ¬ _ ≤ (0 : Int); omega), e1, Wp_gd]
    refine ⟨nbk (by omega) (by omega), ?_⟩
    rw [nix (by omega), t2]
    by_cases c40 : 40 ≤ x
    · rw [if_pos (by rw [ti_le, ti_nI (by omega)]; show (40 : Int) ≤ _; omega)]
      exact stop (fun z => by omega)
    · rw [if_neg (by rw [ti_le, ti_nI (by omega)]; show ¬ (40 : Int) ≤ _; omega), Wp_gd]
      refine ⟨nbk (by omega) (by omega), ?_⟩
      by_cases cy : x < y
      · rw [if_pos (by rw [ti_lt, ti_nI (by omega), ti_nI (by omega)]; omega)]
        exact stop (fun z => by omega)
      · rw [if_neg (by rw [ti_lt, ti_nI (by omega), ti_nI (by omega)]; omega), Wp_bnd, Wp_gd]
        have h18 : hI (uI u 0 18 (nI q.length)) 0 18 = nI q.length := by rw [hI_uI_eq, pu_eq]
        have h5 : hI (uI u 0 18 (nI q.length)) 5 = hI u 5 := hI_uI_ne (by omega)
        rw [h18, h5, nix (by omega), t2]
        refine ⟨nbk (by omega) (by omega), ?_⟩
        have eS : sySt y (x :: q) o = sySt y q (o ++ [clsO x]) := by show (if x < 40 ∧ y ≤ x then _ else _) = _; rw [if_pos (by omega)]
        have ec : cN (x :: q) = cN q := by show cN q + (if x = 2 ∨ x = 40 then 1 else 0) = _; rw [if_neg (by omega)]; rfl
        have ee : eN (x :: q) = eN q + 1 := by show eN q + (if x = 40 then 0 else 1) = _; rw [if_neg (by omega)]
        have hm := mo_cls (t := x) (by omega)
        rw [Wp_bind]
        refine Wp_mono (emit_w (o := clsO x) (by rw [hm]) (by rw [hm]; rfl) (show o.length < 300 by omega) hsl (MC_u (v := nI q.length) mc' (Or.inl rfl))) (fun w ⟨w1, w2, w3, w4⟩ => ?_)
        rw [Wp_some]
        have mpw : MP q w := MP_e (MP_pop (v := nI q.length) mp' rfl) (by rw [w4 18 (by omega)]) (by rw [w3 5 (by omega) (by omega)])
        refine Or.inl ⟨rfl, q.length, by omega, q, o ++ [clsO x], rfl, by rw [← eS]; exact eq, by rw [List.length_append]; show o.length + 1 + eN q ≤ i; omega, pw'.1, by omega, w1, mpw, fu.trans ((FE.u (by omega)).trans w2), ?_, ?_⟩
        · rw [w4 21 (by omega), hI_uI_eq, pu_ne (by omega)]; exact u21
        · rw [w4 20 (by omega), hI_uI_eq, pu_ne (by omega)]; exact u20
theorem setl_w {y : Nat} {p : List Nat} (hN : 1000 ≤ N) (hy : 3 ≤ y) (hy2 : y ≤ 5) (hi : i ≤ 300) (hsl : sl < 4) (hb : ops.length + eN p ≤ i) (pw : PW p) (d8 : cN p ≤ 8) (mc : MC b n kd st ps sl i d ops m) (mp : MP p m) : Wp (f168 N (nI y) m) fun u => MC b n kd st ps sl i d (sySt y p ops).1 u ∧ MP (sySt y p ops).2 u ∧ FE sl m u ∧ hI u 0 21 = hI m 0 21 ∧ hI u 0 20 = hI m 0 20 := by
  have hlen := (PW_len p pw).1
  unfold f168
  cases p with
  | nil =>
    have : hI m 0 18 = nI 0 := mp.1
    rw [this, if_pos (by decide), Wp_some]
    exact ⟨mc, mp, FE.rfl', rfl, rfl⟩
  | cons x q =>
    obtain ⟨t1, t2⟩ := MP_top mp
    have el : (x :: q).length = q.length + 1 := rfl
    have e1 : nI (q.length + 1) - (1 : Int32) = nI q.length := nI_pred q.length
    have hx : x = 2 ∨ x = 40 ∨ x = 3 ∨ x = 4 ∨ x = 5 ∨ x = 6 := by
      rcases pw.2 with z | ⟨z, _⟩ | ⟨z, _⟩ <;> omega
    have stop : ¬ (x < 40 ∧ y ≤ x) → Wp (some m) (fun u => MC b n kd st ps sl i d (sySt y (x :: q) ops).1 u ∧ MP (sySt y (x :: q) ops).2 u ∧ FE sl m u ∧ hI u 0 21 = hI m 0 21 ∧ hI u 0 20 = hI m 0 20) := fun hs => by
      have eS : sySt y (x :: q) ops = (ops, x :: q) := by show (if x < 40 ∧ y ≤ x then _ else _) = _; rw [if_neg hs]
      rw [Wp_some, eS]
      exact ⟨mc, mp, FE.rfl', rfl, rfl⟩
    rw [t1, if_neg (by rw [ti_le, ti_nI (by omega)]; show ¬ _ ≤ (0 : Int); omega), e1, Wp_gd]
    refine ⟨nbk (by omega) (by omega), ?_⟩
    rw [nix (by omega), t2]
    by_cases c40 : 40 ≤ x
    · rw [if_pos (by rw [ti_le, ti_nI (by omega)]; show (40 : Int) ≤ _; omega)]
      exact stop (fun z => by omega)
    · rw [if_neg (by rw [ti_le, ti_nI (by omega)]; show ¬ (40 : Int) ≤ _; omega), Wp_gd]
      refine ⟨nbk (by omega) (by omega), ?_⟩
      by_cases cy : x < y
      · rw [if_pos (by rw [ti_lt, ti_nI (by omega), ti_nI (by omega)]; omega)]
        exact stop (fun z => by omega)
      · rw [if_neg (by rw [ti_lt, ti_nI (by omega), ti_nI (by omega)]; omega), Wp_bnd, Wp_gd]
        have h18 : hI (uI m 0 18 (nI q.length)) 0 18 = nI q.length := by rw [hI_uI_eq, pu_eq]
        have h5 : hI (uI m 0 18 (nI q.length)) 5 = hI m 5 := hI_uI_ne (by omega)
        rw [h18, h5, nix (by omega), t2]
        refine ⟨nbk (by omega) (by omega), ?_⟩
        have eS : sySt y (x :: q) ops = sySt y q (ops ++ [clsO x]) := by show (if x < 40 ∧ y ≤ x then _ else _) = _; rw [if_pos (by omega)]
        have ec : cN (x :: q) = cN q := by show cN q + (if x = 2 ∨ x = 40 then 1 else 0) = _; rw [if_neg (by omega)]; rfl
        have ee : eN (x :: q) = eN q + 1 := by show eN q + (if x = 40 then 0 else 1) = _; rw [if_neg (by omega)]
        have hm := mo_cls (t := x) (by omega)
        rw [Wp_bind]
        refine Wp_mono (emit_w (o := clsO x) (by rw [hm]) (by rw [hm]; rfl) (show ops.length < 300 by omega) hsl (MC_u (v := nI q.length) mc (Or.inl rfl))) (fun w ⟨w1, w2, w3, w4⟩ => ?_)
        have mpw : MP q w := MP_e (MP_pop (v := nI q.length) mp rfl) (by rw [w4 18 (by omega)]) (by rw [w3 5 (by omega) (by omega)])
        rw [Wp_bind]
        refine Wp_mono (setl_l (K := N) hy hy2 hi hsl (by rw [List.length_append]; show ops.length + 1 + eN q ≤ i; omega) pw.1 (by omega) (by omega) w1 mpw) (fun u ⟨u1, u2, u3, u4, u5⟩ => ?_)
        rw [Wp_some, eS]
        refine ⟨u1, u2, (FE.u (by omega)).trans (w2.trans u3), ?_, ?_⟩
        · rw [u4, w4 21 (by omega), hI_uI_eq, pu_ne (by omega)]
        · rw [u5, w4 20 (by omega), hI_uI_eq, pu_ne (by omega)]
/-- has the pile a bracket -/
theorem par_w {p : List Nat} (hN : 1000 ≤ N) (hp : p.length < 160) (hx : ∀ x, x ∈ p → x < 1000) (mp : MP p m) : f172 N m = some (if 40 ∈ p then 1 else 0) := by
  have : Wp (f172 N m) (fun v => v = if 40 ∈ p then 1 else 0) := by
    unfold f172
    rw [Wp_bind]
    refine Wp_for (fun (j : Nat) (_ : Unit) => nI j) p.length (fun j _ => ∀ j', j' < j → ¬ p[p.length - 1 - j']? = some 40) ?_ ?_ (i0 := 0) (x0 := ()) (by omega) (by omega) (fun _ z => by omega)
    · rintro j _ hj no
      unfold f172_l2
      rw [mp.1, if_neg (by rw [ti_le, ti_nI (by omega), ti_nI (by omega)]; omega), Wp_gd]
      refine ⟨nbk (by omega) (by omega), ?_⟩
      have hg : p[p.length - 1 - j]? = some (p[p.length - 1 - j]'(by omega)) := List.getElem?_eq_getElem (by omega)
      have h5 := mp.2 (p.length - 1 - j) _ hg
      rw [show p.length - 1 - (p.length - 1 - j) = j by omega] at h5
      have hlt := hx _ (List.getElem_mem (show p.length - 1 - j < p.length by omega))
      rw [nix (by omega), h5]
      by_cases c : p[p.length - 1 - j]'(by omega) = 40
      · rw [if_pos (by rw [c]; rfl), Wp_some]
        refine Or.inr ⟨0, rfl, ?_⟩
        dsimp only
        rw [if_pos rfl, Wp_some, if_pos]
        rw [← c]
        exact List.getElem_mem _
      · rw [if_neg (show ¬ nI (p[p.length - 1 - j]'(by omega)) = 40 from fun z => c (nI_inj (by omega) (by omega) (show nI _ = nI 40 from z))), Wp_bnd, Wp_some, nI_1]
        refine Or.inl ⟨rfl, (), rfl, fun j' h1 => ?_⟩
        by_cases cj : j' = j
        · subst cj
          rw [hg]
          exact fun z => c (Option.some.inj z)
        · exact no j' (by omega)
    · rintro _ no
      unfold f172_l2
      rw [mp.1, if_pos (by rw [ti_le]; omega), Wp_some]
      refine ⟨1, rfl, ?_⟩
      dsimp only
      rw [if_neg (by omega), Wp_some, if_neg]
      intro h40
      obtain ⟨j, hj, e⟩ := List.getElem_of_mem h40
      refine no (p.length - 1 - j) (by omega) ?_
      rw [show p.length - 1 - (p.length - 1 - j) = j by omega, List.getElem?_eq_getElem hj, e]
  obtain ⟨v, h1, h2⟩ := this
  rw [h1, h2]
end
