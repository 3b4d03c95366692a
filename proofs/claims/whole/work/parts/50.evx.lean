/-! ===== the class's evaluator ===== -/
def b2i (b : Bool) : Int := if b = true then 1 else 0
def Stk (arr : Nat → Int32) : List Int → Prop
  | [] => True
  | v :: cs => (arr cs.length).toInt = v ∧ Stk arr cs
theorem Stk_pu {arr : Nat → Int32} {x : Int32} : ∀ (cs : List Int) (j : Nat), cs.length ≤ j → Stk arr cs → Stk (pu arr j x) cs
  | [], _, _, _ => trivial
  | v :: cs, j, h, s => by
    have h' : cs.length + 1 ≤ j := h
    exact ⟨by rw [pu_ne (by omega)]; exact s.1, Stk_pu cs j (by omega) s.2⟩
def cmb (p : List Int × List Bool) : List Int := p.1 ++ p.2.map b2i
theorem cmb_len (p : List Int × List Bool) : (cmb p).length = p.1.length + p.2.length := by
  unfold cmb; rw [List.length_append, List.length_map]
def Bd (l : List Int) : Prop := ∀ v, v ∈ l → -1000000 ≤ v ∧ v ≤ 1000000
/-- two joined, on the class's one stack -/
def jn (o : Nat) (x y : Int) : Int := if o = 8 then (if x = 1 ∧ y = 1 then 1 else 0) else if o = 9 then (if x = 1 ∨ y = 1 then 1 else 0) else if o = 14 then clp (x + y) else if o = 15 then clp (x - y) else if o = 16 then clp (x * y) else if o = 17 then (if y = 0 then 0 else clp (x.tdiv y)) else if o = 18 then b2i (decide (x < y)) else if o = 19 then b2i (decide (x ≤ y)) else if o = 20 then b2i (decide (y < x)) else if o = 21 then b2i (decide (y ≤ x)) else if o = 22 then b2i (decide (x = y)) else b2i (decide (¬ x = y))
theorem clp01 : clp 0 = 0 ∧ clp 1 = 1 := by decide
theorem f38_8 {N : Nat} {x y : Int64} {h : Hp} : f38 N (nI 8) x y h = some (x &&& y) := by
  unfold f38
  rw [if_pos (by decide)]
theorem f38_9 {N : Nat} {x y : Int64} {h : Hp} : f38 N (nI 9) x y h = some (x ||| y) := by
  unfold f38
  rw [if_neg (by decide), if_pos (by decide)]
theorem f38_14 {N : Nat} {x y : Int64} {h : Hp} : f38 N (nI 14) x y h = some (x + y) := by
  unfold f38
  rw [if_neg (by decide), if_neg (by decide), if_neg (by decide), if_neg (by decide), if_neg (by decide), if_neg (by decide), if_pos (by decide)]
theorem f38_15 {N : Nat} {x y : Int64} {h : Hp} : f38 N (nI 15) x y h = some (x - y) := by
  unfold f38
  rw [if_neg (by decide), if_neg (by decide), if_neg (by decide), if_neg (by decide), if_neg (by decide), if_neg (by decide), if_neg (by decide), if_pos (by decide)]
theorem f38_16 {N : Nat} {x y : Int64} {h : Hp} : f38 N (nI 16) x y h = some (x * y) := by
  unfold f38
  rw [if_neg (by decide), if_neg (by decide), if_neg (by decide), if_neg (by decide), if_neg (by decide), if_neg (by decide), if_neg (by decide), if_neg (by decide), if_pos (by decide)]
theorem f38_17 {N : Nat} {x y : Int64} {h : Hp} : f38 N (nI 17) x y h = (if (lg_cmp y (0 : Int64)) = 0 then some (0 : Int64) else gd (¬ y = 0) (some (x / y))) := by
  unfold f38
  rw [if_neg (by decide), if_neg (by decide), if_neg (by decide), if_neg (by decide), if_neg (by decide), if_neg (by decide), if_neg (by decide), if_neg (by decide), if_neg (by decide), if_pos (by decide)]
theorem f38_18 {N : Nat} {x y : Int64} {h : Hp} : f38 N (nI 18) x y h = (if 0 ≤ (lg_cmp x y) then some (0 : Int64) else some (1 : Int64)) := by
  unfold f38
  rw [if_neg (by decide), if_neg (by decide), if_neg (by decide), if_neg (by decide), if_neg (by decide), if_neg (by decide), if_neg (by decide), if_neg (by decide), if_neg (by decide), if_neg (by decide), if_pos (by decide)]
theorem f38_19 {N : Nat} {x y : Int64} {h : Hp} : f38 N (nI 19) x y h = (if 0 < (lg_cmp x y) then some (0 : Int64) else some (1 : Int64)) := by
  unfold f38
  rw [if_neg (by decide), if_neg (by decide), if_neg (by decide), if_neg (by decide), if_neg (by decide), if_neg (by decide), if_neg (by decide), if_neg (by decide), if_neg (by decide), if_neg (by decide), if_neg (by decide), if_pos (by decide)]
theorem f38_20 {N : Nat} {x y : Int64} {h : Hp} : f38 N (nI 20) x y h = (if (lg_cmp x y) ≤ 0 then some (0 : Int64) else some (1 : Int64)) := by
  unfold f38
  rw [if_neg (by decide), if_neg (by decide), if_neg (by decide), if_neg (by decide), if_neg (by decide), if_neg (by decide), if_neg (by decide), if_neg (by decide), if_neg (by decide), if_neg (by decide), if_neg (by decide), if_neg (by decide), if_pos (by decide)]
theorem f38_21 {N : Nat} {x y : Int64} {h : Hp} : f38 N (nI 21) x y h = (if (lg_cmp x y) < 0 then some (0 : Int64) else some (1 : Int64)) := by
  unfold f38
  rw [if_neg (by decide), if_neg (by decide), if_neg (by decide), if_neg (by decide), if_neg (by decide), if_neg (by decide), if_neg (by decide), if_neg (by decide), if_neg (by decide), if_neg (by decide), if_neg (by decide), if_neg (by decide), if_neg (by decide), if_pos (by decide)]
theorem f38_22 {N : Nat} {x y : Int64} {h : Hp} : f38 N (nI 22) x y h = (if (lg_cmp x y) = 0 then some (1 : Int64) else some (0 : Int64)) := by
  unfold f38
  rw [if_neg (by decide), if_neg (by decide), if_neg (by decide), if_neg (by decide), if_neg (by decide), if_neg (by decide), if_neg (by decide), if_neg (by decide), if_neg (by decide), if_neg (by decide), if_neg (by decide), if_neg (by decide), if_neg (by decide), if_neg (by decide), if_pos (by decide)]
theorem f38_23 {N : Nat} {x y : Int64} {h : Hp} : f38 N (nI 23) x y h = (if (lg_cmp x y) = 0 then some (0 : Int64) else some (1 : Int64)) := by
  unfold f38
  rw [if_neg (by decide), if_neg (by decide), if_neg (by decide), if_neg (by decide), if_neg (by decide), if_neg (by decide), if_neg (by decide), if_neg (by decide), if_neg (by decide), if_neg (by decide), if_neg (by decide), if_neg (by decide), if_neg (by decide), if_neg (by decide), if_neg (by decide)]
theorem jn_8 {x y : Int} : jn 8 x y = (if x = 1 ∧ y = 1 then 1 else 0) := by
  unfold jn
  rw [if_pos rfl]
theorem jn_9 {x y : Int} : jn 9 x y = (if x = 1 ∨ y = 1 then 1 else 0) := by
  unfold jn
  rw [if_neg (by decide), if_pos rfl]
theorem jn_14 {x y : Int} : jn 14 x y = clp (x + y) := by
  unfold jn
  rw [if_neg (by decide), if_neg (by decide), if_pos rfl]
theorem jn_15 {x y : Int} : jn 15 x y = clp (x - y) := by
  unfold jn
  rw [if_neg (by decide), if_neg (by decide), if_neg (by decide), if_pos rfl]
theorem jn_16 {x y : Int} : jn 16 x y = clp (x * y) := by
  unfold jn
  rw [if_neg (by decide), if_neg (by decide), if_neg (by decide), if_neg (by decide), if_pos rfl]
theorem jn_17 {x y : Int} : jn 17 x y = (if y = 0 then 0 else clp (x.tdiv y)) := by
  unfold jn
  rw [if_neg (by decide), if_neg (by decide), if_neg (by decide), if_neg (by decide), if_neg (by decide), if_pos rfl]
theorem jn_18 {x y : Int} : jn 18 x y = b2i (decide (x < y)) := by
  unfold jn
  rw [if_neg (by decide), if_neg (by decide), if_neg (by decide), if_neg (by decide), if_neg (by decide), if_neg (by decide), if_pos rfl]
theorem jn_19 {x y : Int} : jn 19 x y = b2i (decide (x ≤ y)) := by
  unfold jn
  rw [if_neg (by decide), if_neg (by decide), if_neg (by decide), if_neg (by decide), if_neg (by decide), if_neg (by decide), if_neg (by decide), if_pos rfl]
theorem jn_20 {x y : Int} : jn 20 x y = b2i (decide (y < x)) := by
  unfold jn
  rw [if_neg (by decide), if_neg (by decide), if_neg (by decide), if_neg (by decide), if_neg (by decide), if_neg (by decide), if_neg (by decide), if_neg (by decide), if_pos rfl]
theorem jn_21 {x y : Int} : jn 21 x y = b2i (decide (y ≤ x)) := by
  unfold jn
  rw [if_neg (by decide), if_neg (by decide), if_neg (by decide), if_neg (by decide), if_neg (by decide), if_neg (by decide), if_neg (by decide), if_neg (by decide), if_neg (by decide), if_pos rfl]
theorem jn_22 {x y : Int} : jn 22 x y = b2i (decide (x = y)) := by
  unfold jn
  rw [if_neg (by decide), if_neg (by decide), if_neg (by decide), if_neg (by decide), if_neg (by decide), if_neg (by decide), if_neg (by decide), if_neg (by decide), if_neg (by decide), if_neg (by decide), if_pos rfl]
theorem jn_23 {x y : Int} : jn 23 x y = b2i (decide (¬ x = y)) := by
  unfold jn
  rw [if_neg (by decide), if_neg (by decide), if_neg (by decide), if_neg (by decide), if_neg (by decide), if_neg (by decide), if_neg (by decide), if_neg (by decide), if_neg (by decide), if_neg (by decide), if_neg (by decide)]
theorem join_w {N o : Nat} {a b : Int32} {h : Hp} (ho : o = 8 ∨ o = 9 ∨ (14 ≤ o ∧ o ≤ 23)) (a0 : -1000000 ≤ a.toInt) (a1 : a.toInt ≤ 1000000) (b0 : -1000000 ≤ b.toInt) (b1 : b.toInt ≤ 1000000) (h01 : o = 8 ∨ o = 9 → (a.toInt = 0 ∨ a.toInt = 1) ∧ (b.toInt = 0 ∨ b.toInt = 1)) : Wp (f38 N (nI o) a.toInt64 b.toInt64 h) fun q => clp q.toInt = jn o a.toInt b.toInt := by
  have ta := tl_i a
  have tb := tl_i b
  have z0 : (0 : Int64).toInt = 0 := rfl
  have z1 : (1 : Int64).toInt = 1 := rfl
  have c0 : clp 0 = 0 := clp01.1
  have c1 : clp 1 = 1 := clp01.2
  obtain ⟨m0, m1⟩ := mul_bd a0 a1 b0 b1
  obtain ⟨d0, d1⟩ := tdiv_bd (y := b.toInt) a0 a1
  have two : ∀ {c : Prop} [Decidable c] {p : Prop} [Decidable p], (c ↔ ¬ p) → Wp (if c then some (0 : Int64) else some (1 : Int64)) fun q => clp q.toInt = b2i (decide p) := fun {c} _ {p} _ hcp => by
    by_cases k : c
    · have hp : ¬ p := hcp.1 k
      rw [if_pos k, Wp_some, z0, c0, decide_eq_false hp]; rfl
    · have hp : p := Classical.byContradiction (fun z => k (hcp.2 z))
      rw [if_neg k, Wp_some, z1, c1, decide_eq_true hp]; rfl
  have cases : o = 8 ∨ o = 9 ∨ o = 14 ∨ o = 15 ∨ o = 16 ∨ o = 17 ∨ o = 18 ∨ o = 19 ∨ o = 20 ∨ o = 21 ∨ o = 22 ∨ o = 23 := by omega
  rcases cases with rfl | rfl | rfl | rfl | rfl | rfl | rfl | rfl | rfl | rfl | rfl | rfl
  · obtain ⟨ha, hb⟩ := h01 (Or.inl rfl)
    have ea : a = 0 ∨ a = 1 := ha.imp (fun e => ti_eq.2 e) (fun e => ti_eq.2 e)
    have eb : b = 0 ∨ b = 1 := hb.imp (fun e => ti_eq.2 e) (fun e => ti_eq.2 e)
    rw [f38_8, Wp_some, jn_8]
    have y0 : (0 : Int32).toInt = 0 := rfl
    have y1 : (1 : Int32).toInt = 1 := rfl
    rcases ea with rfl | rfl <;> rcases eb with rfl | rfl
    · rw [show ((0 : Int32).toInt64 &&& (0 : Int32).toInt64) = 0 by decide, z0, c0, y0]; decide
    · rw [show ((0 : Int32).toInt64 &&& (1 : Int32).toInt64) = 0 by decide, z0, c0, y0, y1]; decide
    · rw [show ((1 : Int32).toInt64 &&& (0 : Int32).toInt64) = 0 by decide, z0, c0, y0, y1]; decide
    · rw [show ((1 : Int32).toInt64 &&& (1 : Int32).toInt64) = 1 by decide, z1, c1, y1]; decide
  · obtain ⟨ha, hb⟩ := h01 (Or.inr rfl)
    have ea : a = 0 ∨ a = 1 := ha.imp (fun e => ti_eq.2 e) (fun e => ti_eq.2 e)
    have eb : b = 0 ∨ b = 1 := hb.imp (fun e => ti_eq.2 e) (fun e => ti_eq.2 e)
    rw [f38_9, Wp_some, jn_9]
    have y0 : (0 : Int32).toInt = 0 := rfl
    have y1 : (1 : Int32).toInt = 1 := rfl
    rcases ea with rfl | rfl <;> rcases eb with rfl | rfl
    · rw [show ((0 : Int32).toInt64 ||| (0 : Int32).toInt64) = 0 by decide, z0, c0, y0]; decide
    · rw [show ((0 : Int32).toInt64 ||| (1 : Int32).toInt64) = 1 by decide, z1, c1, y0, y1]; decide
    · rw [show ((1 : Int32).toInt64 ||| (0 : Int32).toInt64) = 1 by decide, z1, c1, y0, y1]; decide
    · rw [show ((1 : Int32).toInt64 ||| (1 : Int32).toInt64) = 1 by decide, z1, c1, y1]; decide
  · rw [f38_14, Wp_some, tl_add (by omega) (by omega), ta, tb, jn_14]
  · rw [f38_15, Wp_some, tl_sub (by omega) (by omega), ta, tb, jn_15]
  · rw [f38_16, Wp_some, tl_mul (by rw [ta, tb]; omega) (by rw [ta, tb]; omega), ta, tb, jn_16]
  · rw [f38_17, jn_17]
    by_cases k : b.toInt = 0
    · rw [if_pos (lc_0.2 (by rw [tb, k]; rfl)), if_pos k, Wp_some]; exact c0
    · rw [if_neg (fun z => k (by rw [lc_0, tb] at z; exact z)), if_neg k, Wp_gd, Wp_some]
      refine ⟨fun z => k (by rw [tl_eq, tb] at z; exact z), ?_⟩
      rw [tl_div (by rw [ta, tb]; omega) (by rw [ta, tb]; omega), ta, tb]
  · rw [f38_18, jn_18]; exact two (by rw [lc_0le, ta, tb]; omega)
  · rw [f38_19, jn_19]; exact two (by rw [lc_0lt, ta, tb]; omega)
  · rw [f38_20, jn_20]; exact two (by rw [lc_le0, ta, tb]; omega)
  · rw [f38_21, jn_21]; exact two (by rw [lc_lt0, ta, tb]; omega)
  · rw [f38_22, jn_22]
    by_cases k : a.toInt = b.toInt
    · rw [if_pos (lc_0.2 (by rw [ta, tb]; exact k)), Wp_some, z1, c1, decide_eq_true k]; rfl
    · rw [if_neg (fun z => k (by rw [lc_0, ta, tb] at z; exact z)), Wp_some, z0, c0, decide_eq_false k]; rfl
  · rw [f38_23, jn_23]; exact two (by rw [lc_0, ta, tb]; exact ⟨fun h z => z h, fun h => Classical.byContradiction h⟩)
/-- one operation in the class's loop -/
def cstep (N : Nat) (x1 top pos v : Int32) (h : Hp) : Option (Nat × (Int32 × Int32 × Hp)) :=
  if (100 : Int32) ≤ v then (f37_b34 N x1 top pos v h) else (  if (8 : Int32) ≤ v then (  if v = (29 : Int32) then (  if top < (1 : Int32) then (f37_b74 N x1 top pos v h) else (  gd (inb (top - (1 : Int32)) 32) <|
  gd (inb (top - (1 : Int32)) 32) <|
  bnd (uI h 63 (ix (top - (1 : Int32))) (-(hI h 63 (ix (top - (1 : Int32)))))) fun h42 =>
  f37_b126 N x1 top pos h42)) else (f37_b74 N x1 top pos v h)) else (f37_b34 N x1 top pos v h))
theorem nI_top {k : Nat} (h : k + 1 ≤ 32) : nI (k + 1) - 1 = nI k ∧ ix (nI k) = k ∧ inb (nI k) 32 := ⟨nI_pred k, nI_clamp (by omega), inb_mk (by rw [ti_nI (by omega)]; omega) (by rw [ti_nI (by omega)]; omega)⟩
theorem cls1 {N o : Nat} {x1 : Int32} {pos : Nat} {h : Hp} {nm : Nat → Int} {p : List Int × List Bool} {p' : Nat × Nat} (ho : o ≤ 10099) (hp : pos < 1000) (hnm : o < 8 → (hI h 62 o).toInt = nm o ∧ -1000000 ≤ nm o ∧ nm o ≤ 1000000) (hs : Stk (hI h 63) (cmb p)) (hb : Bd p.1) (h32 : p.1.length + p.2.length ≤ 32) (ht : tc1 o (p.1.length, p.2.length) = some p') : Wp (cstep N x1 (nI (cmb p).length) (nI pos) (nI o) h) fun q => q.1 = 0 ∧ q.2.1 = nI (cmb (ev1 nm o p)).length ∧ q.2.2.1 = nI (pos + 1) ∧ (∀ c, c ≠ 63 → hI q.2.2.2 c = hI h c) ∧ hR q.2.2.2 = hR h ∧ Stk (hI q.2.2.2 63) (cmb (ev1 nm o p)) ∧ Bd (ev1 nm o p).1 ∧ ((ev1 nm o p).1.length, (ev1 nm o p).2.length) = p' ∧ p'.1 + p'.2 ≤ 32 := by
  obtain ⟨vs, ts⟩ := p
  dsimp only at hb h32 ht
  have hl : (cmb (vs, ts)).length = vs.length + ts.length := cmb_len _
  have to : (nI o).toInt = (o : Int) := ti_nI (by omega)
  have t100 : (100 : Int32).toInt = 100 := rfl
  have t8 : (8 : Int32).toInt = 8 := rfl
  have t32 : (32 : Int32).toInt = 32 := rfl
  have t1 : (1 : Int32).toInt = 1 := rfl
  have t2 : (2 : Int32).toInt = 2 := rfl
  have npos : nI pos + 1 = nI (pos + 1) := nI_1 pos
  have ttop : (nI (cmb (vs, ts)).length).toInt = ((vs.length + ts.length : Nat) : Int) := by rw [hl, ti_nI (by omega)]
  by_cases o1 : 100 ≤ o ∨ o < 8
  · -- a number or a name
    have e1 : tc1 o (vs.length, ts.length) = if vs.length + ts.length < 32 then some (vs.length + 1, ts.length) else none := if_pos o1
    rw [e1] at ht
    by_cases e2 : vs.length + ts.length < 32
    · rw [if_pos e2] at ht
      have ht := (Option.some.inj ht).symm
      subst ht
      have ev : ev1 nm o (vs, ts) = ((if 100 ≤ o then ((o - 100 : Nat) : Int) else nm o) :: vs, ts) := by
        unfold ev1
        by_cases k : 100 ≤ o
        · rw [if_pos k, if_pos k]
        · rw [if_neg k, if_neg k, if_pos (by omega)]
      have b34 : cstep N x1 (nI (cmb (vs, ts)).length) (nI pos) (nI o) h = f37_b34 N x1 (nI (cmb (vs, ts)).length) (nI pos) (nI o) h := by
        unfold cstep
        by_cases k : 100 ≤ o
        · rw [if_pos (by rw [ti_le, to, t100]; omega)]
        · rw [if_neg (by rw [ti_le, to, t100]; omega), if_neg (by rw [ti_le, to, t8]; omega)]
      have push : ∀ x : Int32, x.toInt = (if 100 ≤ o then ((o - 100 : Nat) : Int) else nm o) → Wp (f37_b51 N x1 (nI (cmb (vs, ts)).length) (nI pos) x (nI (cmb (vs, ts)).length) h) fun q => q.1 = 0 ∧ q.2.1 = nI (cmb (ev1 nm o (vs, ts))).length ∧ q.2.2.1 = nI (pos + 1) ∧ (∀ c, c ≠ 63 → hI q.2.2.2 c = hI h c) ∧ hR q.2.2.2 = hR h ∧ Stk (hI q.2.2.2 63) (cmb (ev1 nm o (vs, ts))) ∧ Bd (ev1 nm o (vs, ts)).1 ∧ ((ev1 nm o (vs, ts)).1.length, (ev1 nm o (vs, ts)).2.length) = (vs.length + 1, ts.length) ∧ vs.length + 1 + ts.length ≤ 32 := fun x hx => by
        have xt : ix (nI (cmb (vs, ts)).length) = (cmb (vs, ts)).length := nI_clamp (by omega)
        unfold f37_b51 f37_b126
        simp only [Wp_gd, Wp_bnd, Wp_some, xt, npos, ev]
        refine ⟨inb_mk (by omega) (by omega), trivial, nI_1 _, trivial, fun c hc => by rw [hI_uI_ne hc], rfl, ⟨?_, ?_⟩, fun v hv => ?_, rfl, by omega⟩
        · rw [hI_uI_eq]
          show (pu (hI h 63) (cmb (vs, ts)).length x (cmb (vs, ts)).length).toInt = _
          rw [pu_eq]; exact hx
        · rw [hI_uI_eq]; exact Stk_pu _ _ (Nat.le_refl _) hs
        · rcases List.mem_cons.1 hv with rfl | hv
          · by_cases k : 100 ≤ o
            · rw [if_pos k]; omega
            · rw [if_neg k]; exact (hnm (by omega)).2
          · exact hb v hv
      rw [b34]
      unfold f37_b34
      refine Wp_neg (by rw [ti_le, ttop, t32]; omega) ?_
      by_cases k : 100 ≤ o
      · refine Wp_neg (by rw [ti_lt, to, t100]; omega) (push _ ?_)
        rw [if_pos k, ti_sub (by omega) (by omega), to, t100]; omega
      · refine Wp_pos (by rw [ti_lt, to, t100]; omega) (Wp_gd.2 ⟨inb_mk (by omega) (by omega), push _ ?_⟩)
        have : ix (nI o) = o := nI_clamp (by omega)
        rw [if_neg k, this]; exact (hnm (by omega)).1
    · rw [if_neg e2] at ht; cases ht
  · have g1 : ¬ (100 : Int32) ≤ nI o := by rw [ti_le, to, t100]; omega
    have g2 : (8 : Int32) ≤ nI o := by rw [ti_le, to, t8]; omega
    have eo : ∀ k : Nat, k < 100 → (nI o = nI k ↔ o = k) := fun k hk => nI_eq (by omega) (by omega)
    by_cases o2 : o = 29
    · subst o2
      have e1 : tc1 29 (vs.length, ts.length) = if 1 ≤ vs.length then some (vs.length, ts.length) else none := rfl
      rw [e1] at ht
      cases vs with
      | nil => rw [if_neg (by decide)] at ht; cases ht
      | cons x vs =>
        rw [if_pos (by simp)] at ht
        have ht := (Option.some.inj ht).symm
        subst ht
        have el : (cmb (x :: vs, ts)).length = (cmb (vs, ts)).length + 1 := rfl
        rw [el] at hl ttop ⊢
        have hl2 : (cmb (vs, ts)).length + 1 ≤ 32 := by rw [hl]; exact h32
        obtain ⟨p1, p2, p3⟩ := nI_top hl2
        unfold cstep
        rw [if_neg g1, if_pos g2, if_pos (show nI 29 = 29 from rfl), if_neg (by rw [ti_lt, ttop, t1]; simp only [List.length_cons]; omega), p1, p2]
        unfold f37_b126
        simp only [Wp_gd, Wp_bnd, Wp_some, npos]
        have hx := hs.1
        have hx2 := hb x (List.mem_cons_self ..)
        refine ⟨p3, p3, trivial, rfl, trivial, fun c hc => by rw [hI_uI_ne hc], rfl, ⟨?_, ?_⟩, fun v hv => ?_, rfl, h32⟩
        · rw [hI_uI_eq]
          show (pu (hI h 63) (cmb (vs, ts)).length _ (cmb (vs, ts)).length).toInt = -x
          have hx' : (hI h 63 (cmb (vs, ts)).length).toInt = x := hx
          rw [pu_eq, ti_neg (by omega), hx']
        · rw [hI_uI_eq]; exact Stk_pu _ _ (Nat.le_refl _) hs.2
        · rcases List.mem_cons.1 hv with rfl | hv
          · omega
          · exact hb v (List.mem_cons_of_mem _ hv)
    · have n29 : ¬ nI o = 29 := fun z => o2 ((eo 29 (by omega)).1 z)
      have b74 : cstep N x1 (nI (cmb (vs, ts)).length) (nI pos) (nI o) h = f37_b74 N x1 (nI (cmb (vs, ts)).length) (nI pos) (nI o) h := by
        unfold cstep
        rw [if_neg g1, if_pos g2, if_neg n29]
      rw [b74]
      by_cases o3 : o = 10
      · subst o3
        have e1 : tc1 10 (vs.length, ts.length) = if vs.length = 0 ∧ 1 ≤ ts.length then some (vs.length, ts.length) else none := rfl
        rw [e1] at ht
        cases vs with
        | cons x vs => rw [if_neg (by simp)] at ht; cases ht
        | nil =>
          cases ts with
          | nil => rw [if_neg (by simp)] at ht; cases ht
          | cons t ts =>
            rw [if_pos (by simp)] at ht
            have ht := (Option.some.inj ht).symm
            subst ht
            have el : (cmb ([], t :: ts)).length = (cmb ([], ts)).length + 1 := rfl
            rw [el] at hl ttop ⊢
            have hl2 : (cmb ([], ts)).length + 1 ≤ 32 := by rw [hl]; exact h32
            obtain ⟨p1, p2, p3⟩ := nI_top hl2
            unfold f37_b74
            rw [if_pos (show nI 10 = 10 from rfl), if_neg (by rw [ti_lt, ttop, t1]; simp only [List.length_cons]; omega), p1, p2]
            unfold f37_b126
            simp only [Wp_gd, Wp_bnd, Wp_some, npos]
            have hx' : (hI h 63 (cmb ([], ts)).length).toInt = b2i t := hs.1
            refine ⟨p3, p3, trivial, rfl, trivial, fun c hc => by rw [hI_uI_ne hc], rfl, ⟨?_, ?_⟩, hb, rfl, h32⟩
            · rw [hI_uI_eq]
              show (pu (hI h 63) (cmb ([], ts)).length _ (cmb ([], ts)).length).toInt = b2i (!t)
              rw [pu_eq]
              cases t with
              | true =>
                have : b2i true = 1 := rfl
                rw [this] at hx'
                rw [ti_sub (by omega) (by omega), hx']; rfl
              | false =>
                have : b2i false = 0 := rfl
                rw [this] at hx'
                rw [ti_sub (by omega) (by omega), hx']; rfl
            · rw [hI_uI_eq]; exact Stk_pu _ _ (Nat.le_refl _) hs.2
      · have n10 : ¬ nI o = 10 := fun z => o3 ((eo 10 (by omega)).1 z)
        -- two are joined
        have bin : ∀ (x y : Int) (cs : List Int) (p2 : List Int × List Bool), cmb (vs, ts) = y :: x :: cs → (o = 8 ∨ o = 9 ∨ (14 ≤ o ∧ o ≤ 23)) → (-1000000 ≤ x ∧ x ≤ 1000000) → (-1000000 ≤ y ∧ y ≤ 1000000) → (o = 8 ∨ o = 9 → (x = 0 ∨ x = 1) ∧ (y = 0 ∨ y = 1)) → ev1 nm o (vs, ts) = p2 → cmb p2 = jn o x y :: cs → Bd p2.1 → (p2.1.length, p2.2.length) = p' → Wp (f37_b74 N x1 (nI (cmb (vs, ts)).length) (nI pos) (nI o) h) fun q => q.1 = 0 ∧ q.2.1 = nI (cmb (ev1 nm o (vs, ts))).length ∧ q.2.2.1 = nI (pos + 1) ∧ (∀ c, c ≠ 63 → hI q.2.2.2 c = hI h c) ∧ hR q.2.2.2 = hR h ∧ Stk (hI q.2.2.2 63) (cmb (ev1 nm o (vs, ts))) ∧ Bd (ev1 nm o (vs, ts)).1 ∧ ((ev1 nm o (vs, ts)).1.length, (ev1 nm o (vs, ts)).2.length) = p' ∧ p'.1 + p'.2 ≤ 32 := by
          intro x y cs p2 ec oo bx bY b01 ee e2 bd el
          have l2 : p'.1 + p'.2 = cs.length + 1 := by
            rw [← el]
            show p2.1.length + p2.2.length = _
            rw [← cmb_len, e2]; rfl
          rw [ec] at hs hl ⊢
          have hl : cs.length + 1 + 1 = vs.length + ts.length := hl
          have q1 : nI (cs.length + 1 + 1) + -1 = nI (cs.length + 1) := pk_m1 _
          have q2 : nI (cs.length + 1) - 1 = nI cs.length := nI_pred _
          have q3 : ix (nI (cs.length + 1)) = cs.length + 1 := nI_clamp (by omega)
          have q4 : ix (nI cs.length) = cs.length := nI_clamp (by omega)
          have hy : (hI h 63 (cs.length + 1)).toInt = y := hs.1
          have hx : (hI h 63 cs.length).toInt = x := hs.2.1
          unfold f37_b74
          rw [if_neg n10]
          unfold f37_b95 f37_b126
          show Wp (if nI (cs.length + 1 + 1) < 2 then _ else _) _
          rw [if_neg (by rw [ti_lt, ti_nI (by omega), t2]; omega)]
          simp only [Wp_bnd, Wp_gd, Wp_bind, Wp_some, List.length_cons, q1, q2, q3, q4, npos]
          refine ⟨inb_mk (by rw [ti_nI (by omega)]; omega) (by rw [ti_nI (by omega)]; omega), inb_mk (by rw [ti_nI (by omega)]; omega) (by rw [ti_nI (by omega)]; omega), ?_⟩
          refine Wp_mono (join_w (a := hI h 63 cs.length) (b := hI h 63 (cs.length + 1)) oo (by omega) (by omega) (by omega) (by omega) (by rw [hx, hy]; exact b01)) (fun q hq => ?_)
          rw [hx, hy] at hq
          refine ⟨inb_mk (by rw [ti_nI (by omega)]; omega) (by rw [ti_nI (by omega)]; omega), trivial, ?_, trivial, fun c hc => by rw [hI_uI_ne hc], rfl, ?_, ?_, ?_, by omega⟩
          · rw [ee, e2]; rfl
          · rw [ee, e2, hI_uI_eq]
            exact ⟨by rw [pu_eq, clamp_t, hq], Stk_pu _ _ (Nat.le_refl _) hs.2.2⟩
          · rw [ee]; exact bd
          · rw [ee]; exact el
        have b01 : ∀ b : Bool, (-1000000 ≤ b2i b ∧ b2i b ≤ 1000000) ∧ (b2i b = 0 ∨ b2i b = 1) := fun b => by cases b <;> decide
        by_cases o4 : o = 8 ∨ o = 9
        · have e1 : tc1 o (vs.length, ts.length) = if vs.length = 0 ∧ 2 ≤ ts.length then some (0, ts.length - 1) else none := by
            unfold tc1
            rw [if_neg o1, if_neg o2, if_neg o3, if_pos o4]
          rw [e1] at ht
          by_cases e2 : vs.length = 0 ∧ 2 ≤ ts.length
          · rw [if_pos e2] at ht
            have ht := Option.some.inj ht
            obtain ⟨e3, e4⟩ := e2
            cases vs with
            | cons x vs => simp at e3
            | nil =>
              cases ts with
              | nil => simp at e4
              | cons y ts =>
                cases ts with
                | nil => simp at e4
                | cons x ts =>
                  rcases o4 with rfl | rfl
                  · refine bin (b2i x) (b2i y) (ts.map b2i) ([], (x && y) :: ts) rfl (Or.inl rfl) (b01 x).1 (b01 y).1 (fun _ => ⟨(b01 x).2, (b01 y).2⟩) rfl ?_ (fun v hv => by simp at hv) (by rw [← ht]; rfl)
                    show b2i (x && y) :: _ = _
                    rw [jn_8]
                    cases x <;> cases y <;> rfl
                  · refine bin (b2i x) (b2i y) (ts.map b2i) ([], (x || y) :: ts) rfl (Or.inr (Or.inl rfl)) (b01 x).1 (b01 y).1 (fun _ => ⟨(b01 x).2, (b01 y).2⟩) rfl ?_ (fun v hv => by simp at hv) (by rw [← ht]; rfl)
                    show b2i (x || y) :: _ = _
                    rw [jn_9]
                    cases x <;> cases y <;> rfl
          · rw [if_neg e2] at ht; cases ht
        · by_cases o5 : 14 ≤ o ∧ o ≤ 17
          · have e1 : tc1 o (vs.length, ts.length) = if 2 ≤ vs.length then some (vs.length - 1, ts.length) else none := by
              unfold tc1
              rw [if_neg o1, if_neg o2, if_neg o3, if_neg o4, if_pos o5]
            rw [e1] at ht
            by_cases e2 : 2 ≤ vs.length
            · rw [if_pos e2] at ht
              have ht := Option.some.inj ht
              cases vs with
              | nil => simp at e2
              | cons y vs =>
                cases vs with
                | nil => simp at e2
                | cons x vs =>
                  have bx := hb x (by simp)
                  have bY := hb y (by simp)
                  have bt : ∀ z, -1000000 ≤ z ∧ z ≤ 1000000 → Bd (z :: vs) := fun z hz v hv => by
                    rcases List.mem_cons.1 hv with rfl | hv
                    · exact hz
                    · exact hb v (by simp [hv])
                  have oc : o = 14 ∨ o = 15 ∨ o = 16 ∨ o = 17 := by omega
                  rcases oc with rfl | rfl | rfl | rfl
                  · exact bin x y (vs ++ ts.map b2i) (clp (x + y) :: vs, ts) rfl (Or.inr (Or.inr (by omega))) bx bY (fun z => by omega) rfl (by rw [jn_14]; rfl) (bt _ (clp_bd _)) (by rw [← ht]; rfl)
                  · exact bin x y (vs ++ ts.map b2i) (clp (x - y) :: vs, ts) rfl (Or.inr (Or.inr (by omega))) bx bY (fun z => by omega) rfl (by rw [jn_15]; rfl) (bt _ (clp_bd _)) (by rw [← ht]; rfl)
                  · exact bin x y (vs ++ ts.map b2i) (clp (x * y) :: vs, ts) rfl (Or.inr (Or.inr (by omega))) bx bY (fun z => by omega) rfl (by rw [jn_16]; rfl) (bt _ (clp_bd _)) (by rw [← ht]; rfl)
                  · refine bin x y (vs ++ ts.map b2i) ((if y = 0 then 0 else clp (x.tdiv y)) :: vs, ts) rfl (Or.inr (Or.inr (by omega))) bx bY (fun z => by omega) rfl (by rw [jn_17]; rfl) (bt _ ?_) (by rw [← ht]; rfl)
                    by_cases k : y = 0
                    · rw [if_pos k]; omega
                    · rw [if_neg k]; exact clp_bd _
            · rw [if_neg e2] at ht; cases ht
          · by_cases o6 : 18 ≤ o ∧ o ≤ 23
            · have e1 : tc1 o (vs.length, ts.length) = if vs.length = 2 then some (0, ts.length + 1) else none := by
                unfold tc1
                rw [if_neg o1, if_neg o2, if_neg o3, if_neg o4, if_neg o5, if_pos o6]
              rw [e1] at ht
              by_cases e2 : vs.length = 2
              · rw [if_pos e2] at ht
                have ht := Option.some.inj ht
                cases vs with
                | nil => simp at e2
                | cons y vs =>
                  cases vs with
                  | nil => simp at e2
                  | cons x vs =>
                    cases vs with
                    | cons w vs => simp at e2
                    | nil =>
                      have bx := hb x (by simp)
                      have bY := hb y (by simp)
                      have bt : Bd [] := fun v hv => by simp at hv
                      have oc : o = 18 ∨ o = 19 ∨ o = 20 ∨ o = 21 ∨ o = 22 ∨ o = 23 := by omega
                      rcases oc with rfl | rfl | rfl | rfl | rfl | rfl
                      · exact bin x y (ts.map b2i) ([], decide (x < y) :: ts) rfl (Or.inr (Or.inr (by omega))) bx bY (fun z => by omega) rfl (by rw [jn_18]; rfl) bt (by rw [← ht]; rfl)
                      · exact bin x y (ts.map b2i) ([], decide (x ≤ y) :: ts) rfl (Or.inr (Or.inr (by omega))) bx bY (fun z => by omega) rfl (by rw [jn_19]; rfl) bt (by rw [← ht]; rfl)
                      · exact bin x y (ts.map b2i) ([], decide (y < x) :: ts) rfl (Or.inr (Or.inr (by omega))) bx bY (fun z => by omega) rfl (by rw [jn_20]; rfl) bt (by rw [← ht]; rfl)
                      · exact bin x y (ts.map b2i) ([], decide (y ≤ x) :: ts) rfl (Or.inr (Or.inr (by omega))) bx bY (fun z => by omega) rfl (by rw [jn_21]; rfl) bt (by rw [← ht]; rfl)
                      · exact bin x y (ts.map b2i) ([], decide (x = y) :: ts) rfl (Or.inr (Or.inr (by omega))) bx bY (fun z => by omega) rfl (by rw [jn_22]; rfl) bt (by rw [← ht]; rfl)
                      · exact bin x y (ts.map b2i) ([], decide (¬ x = y) :: ts) rfl (Or.inr (Or.inr (by omega))) bx bY (fun z => by omega) rfl (by rw [jn_23]; rfl) bt (by rw [← ht]; rfl)
              · rw [if_neg e2] at ht; cases ht
            · have e1 : tc1 o (vs.length, ts.length) = none := by
                unfold tc1
                rw [if_neg o1, if_neg o2, if_neg o3, if_neg o4, if_neg o5, if_neg o6]
              rw [e1] at ht; cases ht
