/-! ===== a clause ===== -/
/-- the class's reader between clauses -/
def CB (kd st : Nat → Nat) (e c i : Nat) (ops : List Nat) (h : Hp) : Prop := (hI h 26 5 = nI i ∧ hI h 26 6 = nI (kd i) ∧ hI h 26 2 = 0 ∧ hI h 26 9 = nI 0) ∧ (i ≤ e ∧ ∀ j, j ≤ e → hI h 24 j = nI (kd j) ∧ hI h 25 j = nI (st j)) ∧ (hR h 26 4 = some c ∧ RF h) ∧ hI h c 3 = nI ops.length ∧ (∀ j o, ops[j]? = some o → hI h (c + 1) j = nI o)
def XT (T : Tc) (ops : List Nat) (c : Nat) (h : Hp) : Prop := (∀ k, k < 3 → (bt (hI h c 4) k ↔ T k ≠ none)) ∧ (∀ k l, k < 3 → T k = some l → ∃ f : Nat, hI h (c + 2) k = nI f ∧ hI h (c + 3) k = nI (f + l.length) ∧ f + l.length ≤ ops.length ∧ ∀ j o, l[j]? = some o → ops[f + j]? = some o) ∧ (∀ q, q < 8 → f123 (hI h c 5) (nI q) = 0 → ∀ l, T 0 = some l → ¬ q ∈ l)
def MT (T : Tc) (ops : List Nat) (sl cnt : Nat) (m : Hp) : Prop := hI m 3 (620 * sl) = nI cnt ∧ (∀ k, k < cnt → ∃ s l, ∃ f : Nat, s < 3 ∧ T s = some l ∧ hI m 3 (620 * sl + 1 + 3 * k) = nI s ∧ hI m 3 (620 * sl + 2 + 3 * k) = nI f ∧ hI m 3 (620 * sl + 3 + 3 * k) = nI (f + l.length) ∧ f + l.length ≤ ops.length ∧ ∀ j o, l[j]? = some o → ops[f + j]? = some o) ∧ (∀ s, s < 3 → T s ≠ none → ∃ k, k < cnt ∧ hI m 3 (620 * sl + 1 + 3 * k) = nI s) ∧ (∀ k k', k < cnt → k' < cnt → hI m 3 (620 * sl + 1 + 3 * k) = hI m 3 (620 * sl + 1 + 3 * k') → k = k') ∧ (∀ s, s < 3 → (bt (hI m 0 22) s ↔ T s ≠ none))
theorem MT_3 {T : Tc} {ops : List Nat} {sl cnt : Nat} {m : Hp} (x : MT T ops sl cnt m) : cnt ≤ 3 := by
  obtain ⟨x1, x2, x3, x4, x5⟩ := x
  have key : ∀ c, c ≤ cnt → c ≤ 3 := fun c hc => by
    refine holes 3 c (fun k s => k < cnt ∧ s < 3 ∧ hI m 3 (620 * sl + 1 + 3 * k) = nI s) (fun k hk => ?_) (fun k k' s h1 h2 => x4 k k' h1.1 h2.1 (h1.2.2.trans h2.2.2.symm))
    obtain ⟨s, l, f, s3, _, e, _⟩ := x2 k (by omega)
    exact ⟨s, s3, by omega, s3, e⟩
  exact key cnt (Nat.le_refl _)
def FdE (code pos : Nat) (h : Hp) : Prop := (1 ≤ code ∧ code ≤ 5) ∧ hI h 26 2 = nI code ∧ hI h 26 3 = nI pos ∧ hI h 26 6 = 28
def FRT (c : Nat) (h h' : Hp) : Prop := (∀ x, x ≠ 26 → x ≠ c → x ≠ c + 1 → x ≠ c + 2 → x ≠ c + 3 → hI h' x = hI h x) ∧ hI h' 26 1 = hI h 26 1 ∧ hR h' = hR h ∧ (hI h' 26 2 = 0 → hI h 26 2 = 0 ∧ hI h' 26 3 = hI h 26 3)
theorem FRT.rfl' {c : Nat} {h : Hp} : FRT c h h := ⟨fun _ _ _ _ _ _ => rfl, rfl, rfl, fun z => ⟨z, rfl⟩⟩
theorem FRT.trans {c : Nat} {h h1 h2 : Hp} (x : FRT c h h1) (y : FRT c h1 h2) : FRT c h h2 := ⟨fun z a1 a2 a3 a4 a5 => (y.1 z a1 a2 a3 a4 a5).trans (x.1 z a1 a2 a3 a4 a5), y.2.1.trans x.2.1, y.2.2.1.trans x.2.2.1, fun z => ⟨(x.2.2.2 (y.2.2.2 z).1).1, (y.2.2.2 z).2.trans (x.2.2.2 (y.2.2.2 z).1).2⟩⟩
theorem FRT.r {c so : Nat} {h h' : Hp} (f : FR c so h h') : FRT c h h' := ⟨fun z a1 a2 a3 _ a5 => f.1 z a1 a2 a3 a5, f.2.2.2.1, f.2.2.2.2.1, f.2.2.2.2.2.2⟩
theorem FRT.u {c j : Nat} {v : Int32} {h : Hp} (hj : j ≠ 1 ∧ j ≠ 2 ∧ j ≠ 3) : FRT c h (uI h 26 j v) := ⟨fun x h1 _ _ _ _ => hI_uI_ne h1, by rw [hI_uI_eq, pu_ne (Ne.symm hj.1)], rfl, fun z => by rw [hI_uI_eq, pu_ne (Ne.symm hj.2.1)] at z; rw [hI_uI_eq, pu_ne (Ne.symm hj.2.2)]; exact ⟨z, rfl⟩⟩
def FEM (sl : Nat) (m m' : Hp) : Prop := (∀ c, c ≠ 0 → c ≠ 3 → c ≠ 5 → hI m' c = hI m c) ∧ (∀ j, ¬ (8 ≤ j ∧ j ≤ 11) → j ≠ 15 → ¬ (18 ≤ j ∧ j ≤ 22) → hI m' 0 j = hI m 0 j) ∧ ∀ r, (r < 620 * sl ∨ 620 * sl + 620 ≤ r) → hI m' 3 r = hI m 3 r
theorem FEM.rfl' {sl : Nat} {m : Hp} : FEM sl m m := ⟨fun _ _ _ _ => rfl, fun _ _ _ _ => rfl, fun _ _ => rfl⟩
theorem FEM.trans {sl : Nat} {m m1 m2 : Hp} (x : FEM sl m m1) (y : FEM sl m1 m2) : FEM sl m m2 := ⟨fun c p q r => (y.1 c p q r).trans (x.1 c p q r), fun j p q r => (y.2.1 j p q r).trans (x.2.1 j p q r), fun r p => (y.2.2 r p).trans (x.2.2 r p)⟩
theorem FEM.e {sl : Nat} {m m' : Hp} (f : FE sl m m') : FEM sl m m' := ⟨f.1, fun j a b c => f.2.1 j a b (by omega), fun r hr => f.2.2 r (by omega)⟩
theorem FEM.u {sl j : Nat} {v : Int32} {m : Hp} (hj : 18 ≤ j ∧ j ≤ 22) : FEM sl m (uI m 0 j v) := ⟨fun c h _ _ => hI_uI_ne h, fun j' _ _ h3 => by rw [hI_uI_eq, pu_ne (by omega)], fun r _ => by rw [hI_uI_ne (by omega)]⟩
theorem FEM.h {sl j : Nat} {v : Int32} {m : Hp} (h1 : 620 * sl ≤ j) (h2 : j < 620 * sl + 620) : FEM sl m (uI m 3 j v) := ⟨fun c _ h _ => hI_uI_ne h, fun j' _ _ _ => by rw [hI_uI_ne (by omega)], fun r hr => by rw [hI_uI_eq, pu_ne (by omega)]⟩
section
variable {N e c sl i : Nat} {kd st ps b : Nat → Nat} {ops : List Nat} {h m : Hp} {nn : Nat} {T : Tc}
theorem failB_w {code : Nat} (he : e ≤ 300) (h1 : 1 ≤ code) (h5 : code ≤ 5) (x : CB kd st e c i ops h) : Wp (f42 N (nI code) h) fun u => FdE code (st i) u ∧ FRT c h u := by
  obtain ⟨⟨x1, x2, x3, x4⟩, ⟨x7, x8⟩, ⟨x9, x10⟩, x11, x12⟩ := x
  unfold f42
  have e5 : hI (uI h 26 2 (nI code)) 26 5 = nI i := by rw [hI_uI_eq, pu_ne (by omega)]; exact x1
  have e25 : hI (uI h 26 2 (nI code)) 25 = hI h 25 := hI_uI_ne (by omega)
  rw [if_pos x3, Wp_bnd, Wp_gd, e5, e25, nix (by omega), (x8 i x7).2]
  refine ⟨nbk (by omega) (by omega), ?_⟩
  rw [Wp_bnd, Wp_bnd, Wp_some]
  refine ⟨⟨⟨h1, h5⟩, ?_, ?_, ?_⟩, ⟨fun z z1 _ _ _ _ => by rw [hI_uI_ne z1, hI_uI_ne z1, hI_uI_ne z1], by rw [hI_uI_eq, pu_ne (by omega), hI_uI_eq, pu_ne (by omega), hI_uI_eq, pu_ne (by omega)], rfl, fun z => absurd z (by rw [hI_uI_eq, pu_ne (by omega), hI_uI_eq, pu_ne (by omega), hI_uI_eq, pu_eq, ti_eq, ti_nI (by omega)]; show ¬ _ = (0 : Int); omega)⟩⟩
  · rw [hI_uI_eq, pu_ne (by omega), hI_uI_eq, pu_ne (by omega), hI_uI_eq, pu_eq]
  · rw [hI_uI_eq, pu_ne (by omega), hI_uI_eq, pu_eq]
  · rw [hI_uI_eq, pu_eq]
theorem sort_w {k : Nat} (t : Tk m k) : f179 N m = some (if 11 ≤ k ∧ k ≤ 13 then nI (k - 11) else -1) := by
  unfold f179
  rw [isw_w (j := 11) t (by omega) (by decide), Option.bind_some]
  by_cases c11 : k = 11
  · rw [if_pos c11, if_neg (by decide), if_pos (by omega), c11]; rfl
  rw [if_neg c11, if_pos rfl, isw_w (j := 12) t (by omega) (by decide), Option.bind_some]
  by_cases c12 : k = 12
  · rw [if_pos c12, if_neg (by decide), if_pos (by omega), c12]; rfl
  rw [if_neg c12, if_pos rfl, isw_w (j := 13) t (by omega) (by decide), Option.bind_some]
  by_cases c13 : k = 13
  · rw [if_pos c13, if_neg (by decide), if_pos (by omega), c13]; rfl
  rw [if_neg c13, if_pos rfl, if_neg (by omega)]
theorem bit1 {x : Int32} {k : Nat} (hk : k < 32) : (x >>> (nI k &&& 31)) &&& (1 : Int32) = 1 ↔ bt x k := by
  have := e141 x (nI k)
  unfold f141 at this
  unfold bt
  rw [← this]
  by_cases c : (x >>> (nI k &&& 31)) &&& (1 : Int32) = 1
  · rw [if_pos c]; exact ⟨fun _ => rfl, fun _ => c⟩
  · rw [if_neg c]; exact ⟨fun z => absurd z c, fun z => absurd z (by decide)⟩
/-- clause -/
def ClB (b : Nat → Nat) (nn : Nat) (kd st ps : Nat → Nat) (e c sl i cnt : Nat) (T : Tc) (h m u : Hp) (y : Int32 × Hp) : Prop := (∃ i' ops' T', i < i' ∧ ops'.length ≤ i' ∧ CB kd st e c i' ops' u ∧ XT T' ops' c u ∧ y.1 = 0 ∧ MC b nn kd st ps sl i' 0 ops' y.2 ∧ MT T' ops' sl (cnt + 1) y.2 ∧ WfT T' ∧ FRT c h u ∧ FEM sl m y.2) ∨ ∃ code j, FdE code (st j) u ∧ FRT c h u ∧ y.1 = nI code ∧ hI y.2 0 9 = nI (st j) ∧ FEM sl m y.2
theorem begin_c {s : Nat} (tc : TC c) (hs : s < 3) (x : CB kd st e c i ops h) (h7 : hI h 26 7 = nI s) : Wp (f79 N c (nI s) h) fun u => CS kd st e c s ops.length i 0 ops (uI u 26 8 (nI (nmk s))) ∧ FRT c h u ∧ hI u 26 = hI h 26 ∧ hI u c 5 = hI h c 5 ∧ (∀ k, k < 32 → (bt (hI u c 4) k ↔ bt (hI h c 4) k ∨ k = s)) ∧ (∀ k, k ≠ s → hI u (c + 2) k = hI h (c + 2) k ∧ hI u (c + 3) k = hI h (c + 3) k) ∧ hI u (c + 2) s = nI ops.length := by
  have t := tc_26 tc
  obtain ⟨⟨x1, x2, x3, x4⟩, ⟨x7, x8⟩, ⟨x9, x10⟩, x11, x12⟩ := x
  obtain ⟨s1, s2, s3, s4⟩ := tc_shp tc
  obtain ⟨r0, r1, r2⟩ := tc_ref tc x10
  unfold f79
  rw [gd_pos s1, r1, Option.bind_some, gd_pos s1, s3, Wp_gd]
  refine ⟨⟨rfl, nbk hs (by omega)⟩, ?_⟩
  rw [Wp_bnd, gd_pos s1, hR_uI, r2, Option.bind_some, gd_pos s1, s4, Wp_gd]
  refine ⟨⟨rfl, nbk hs (by omega)⟩, ?_⟩
  rw [Wp_bnd, gd_pos s1, gd_pos s1, Wp_bnd, Wp_some, nix (by omega), x11, hI_uI_ne (c' := c) (by omega), x11]
  generalize hg : uI (uI (uI h (c + 2) s (nI ops.length)) (c + 3) s (nI ops.length)) c 4 (hI (uI (uI h (c + 2) s (nI ops.length)) (c + 3) s (nI ops.length)) c 4 ||| (1 : Int32) <<< (nI s &&& 31)) = g
  have g2 : hI g (c + 2) = pu (hI h (c + 2)) s (nI ops.length) := by rw [← hg, hI_uI_ne (by omega), hI_uI_ne (by omega), hI_uI_eq]
  have g3 : hI g (c + 3) = pu (hI h (c + 3)) s (nI ops.length) := by rw [← hg, hI_uI_ne (by omega), hI_uI_eq, hI_uI_ne (by omega)]
  have gc : hI g c = pu (hI h c) 4 (hI h c 4 ||| (1 : Int32) <<< (nI s &&& 31)) := by rw [← hg, hI_uI_eq, hI_uI_ne (by omega), hI_uI_ne (by omega)]
  have go : ∀ z, z ≠ c → z ≠ c + 2 → z ≠ c + 3 → hI g z = hI h z := fun z z1 z2 z3 => by rw [← hg, hI_uI_ne z1, hI_uI_ne z3, hI_uI_ne z2]
  have gR : hR g = hR h := by rw [← hg]; rfl
  have g26 : hI g 26 = hI h 26 := go 26 (by omega) (by rcases tc with rfl | rfl | rfl | rfl | rfl <;> omega) (by omega)
  have t2 : c + 2 ≠ 26 ∧ c + 2 ≠ 24 ∧ c + 2 ≠ 25 := by rcases tc with rfl | rfl | rfl | rfl | rfl <;> omega
  have r : ∀ k, k ≠ 8 → hI (uI g 26 8 (nI (nmk s))) 26 k = hI h 26 k := fun k k1 => by rw [hI_uI_eq, pu_ne k1, g26]
  have rc : ∀ z, z ≠ 26 → hI (uI g 26 8 (nI (nmk s))) z = hI g z := fun z hz => hI_uI_ne hz
  refine ⟨⟨⟨by rw [r 5 (by omega)]; exact x1, by rw [r 6 (by omega)]; exact x2, by rw [r 2 (by omega)]; exact x3, by rw [r 9 (by omega)]; exact x4, by rw [r 7 (by omega)]; exact h7, by rw [hI_uI_eq, pu_eq]⟩, ⟨x7, fun j hj => by rw [rc 24 (by omega), rc 25 (by omega), go 24 (by omega) (by omega) (by omega), go 25 (by omega) (by omega) (by omega)]; exact x8 j hj⟩, ⟨by rw [hR_uI, gR]; exact x9, fun a1 a2 a3 a4 => by rw [hR_uI, gR]; exact x10 a1 a2 a3 a4⟩, by rw [rc c (by omega), gc, pu_ne (by omega)]; exact x11, fun j o hj => by rw [rc (c + 1) (by omega), go (c + 1) (by omega) (by omega) (by omega)]; exact x12 j o hj, by rw [rc (c + 3) (by omega), g3, pu_eq], fun j o a1 a2 => ?_⟩, ⟨fun z z1 z2 z3 z4 z5 => go z z2 z4 z5, by rw [g26], gR, fun z => by rw [g26] at z ⊢; exact ⟨z, rfl⟩⟩, g26, by rw [gc, pu_ne (by omega)], fun k hk => by rw [gc, pu_eq, bt_or hk, bt_one (by omega) hk], fun k hk => ⟨by rw [g2, pu_ne hk], by rw [g3, pu_ne hk]⟩, by rw [g2, pu_eq]⟩
  rw [List.getElem?_eq_none (by omega)] at a2
  cases a2
/-- the head of a clause of the reference -/
theorem head_w {s cnt : Nat} (hsl : sl < 4) (hs : s < 3) (hc : cnt ≤ 3) (mc : MC b nn kd st ps sl i 0 ops m) (h0 : hI m 3 (620 * sl) = nI cnt) {P : Int32 × Hp → Prop} {k : Int32 → Hp → Option (Int32 × Hp)} (next : ∀ u, MC b nn kd st ps sl i 0 ops u → FEM sl m u → hI u 0 = hI m 0 → (∀ r, r ≠ 620 * sl + 1 + 3 * cnt → r ≠ 620 * sl + 2 + 3 * cnt → hI u 3 r = hI m 3 r) → hI u 3 (620 * sl + 1 + 3 * cnt) = nI s → hI u 3 (620 * sl + 2 + 3 * cnt) = nI ops.length → Wp (k (nI (620 * sl + 1 + 3 * cnt)) u) P) : Wp (gd (inb (hI m 0 13) 2480) (bnd (((hI m 0 13) + (1 : Int32)) + ((3 : Int32) * (hI m 3 (ix (hI m 0 13))))) fun v8 => gd (inb v8 2480) (bnd (uI m 3 (ix v8) (nI s)) fun h10 => gd (inb (v8 + (1 : Int32)) 2480) (bnd (uI h10 3 (ix (v8 + (1 : Int32))) (hI h10 0 15)) fun h12 => k v8 h12)))) P := by
  have mc0 := mc
  obtain ⟨⟨a1, a2, a3⟩, x2, x3, x4, x5, x6, x7, x8⟩ := mc
  have ev : nI (620 * sl) + 1 + 3 * nI cnt = nI (620 * sl + 1 + 3 * cnt) := by
    show nI (620 * sl) + nI 1 + nI 3 * nI cnt = _
    rw [nI_add, pk_mul, nI_add]
  rw [x6, Wp_gd, Wp_bnd, nix (by omega), h0, ev, Wp_gd, Wp_bnd, nix (by omega), nI_1, Wp_gd, Wp_bnd, nix (by omega), hI_uI_ne (by omega), x7]
  refine ⟨nbk (by omega) (by omega), nbk (by omega) (by omega), nbk (by omega) (by omega), ?_⟩
  have r3 : ∀ r, hI (uI (uI m 3 (620 * sl + 1 + 3 * cnt) (nI s)) 3 (620 * sl + 1 + 3 * cnt + 1) (nI ops.length)) 3 r = if r = 620 * sl + 1 + 3 * cnt + 1 then nI ops.length else if r = 620 * sl + 1 + 3 * cnt then nI s else hI m 3 r := fun r => by
    rw [hI_uI_eq]
    unfold pu
    rw [hI_uI_eq]
    unfold pu
    rfl
  have rz : ∀ z, z ≠ 3 → hI (uI (uI m 3 (620 * sl + 1 + 3 * cnt) (nI s)) 3 (620 * sl + 1 + 3 * cnt + 1) (nI ops.length)) z = hI m z := fun z hz => by rw [hI_uI_ne hz, hI_uI_ne hz]
  refine next _ ⟨⟨by rw [rz 0 (by omega)]; exact a1, a2, fun k hk => by rw [rz 4 (by omega)]; exact a3 k hk⟩, by rw [rz 0 (by omega)]; exact x2, by rw [rz 0 (by omega)]; exact x3, ?_, by rw [rz 0 (by omega)]; exact x5, by rw [rz 0 (by omega)]; exact x6, by rw [rz 0 (by omega)]; exact x7, fun j o hj => ?_⟩ ((FEM.h (by omega) (by omega)).trans (FEM.h (by omega) (by omega))) (rz 0 (by omega)) (fun r h1 h2 => ?_) ?_ ?_
  · unfold Tk
    rw [rz 0 (by omega)]
    exact x4
  · rw [r3, r3, if_neg (by omega), if_neg (by omega), if_neg (by omega), if_neg (by omega)]
    exact x8 j o hj
  · rw [r3, if_neg (by omega), if_neg h1]
  · rw [r3, if_neg (by omega), if_pos rfl]
  · rw [r3, if_pos (by omega)]
end
