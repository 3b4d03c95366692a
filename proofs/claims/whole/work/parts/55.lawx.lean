/-! ===== the class's laws: speed, draught, bare rocks ===== -/
def FX (h h' : Hp) : Prop := (∀ c, c ≠ 62 → c ≠ 63 → hI h' c = hI h c) ∧ hR h' = hR h
theorem FX.rfl' {h : Hp} : FX h h := ⟨fun _ _ _ => rfl, rfl⟩
theorem FX.trans {h h1 h2 : Hp} (a : FX h h1) (b : FX h1 h2) : FX h h2 := ⟨fun c x y => (b.1 c x y).trans (a.1 c x y), b.2.trans a.2⟩
theorem FX.u {h : Hp} {j : Nat} {v : Int32} : FX h (uI h 62 j v) := ⟨fun c x _ => hI_uI_ne x, rfl⟩
def LX (T : Tc) (wt : Int) (h : Hp) : Prop := RF h ∧ (∃ c, TC c ∧ hR h 61 1 = some c ∧ TxX T h c) ∧ WfT T ∧ (hI h 41 4).toInt = wt ∧ 0 ≤ wt ∧ wt ≤ 99
theorem LX_c {T : Tc} {wt : Int} {h h' : Hp} (l : LX T wt h) (f : FX h h') : LX T wt h' := by
  obtain ⟨l1, ⟨c, l2, l3, l4⟩, l5, l6⟩ := l
  refine ⟨fun c j q hq => by rw [f.2]; exact l1 c j q hq, ⟨c, l2, by rw [f.2]; exact l3, ?_⟩, l5, by rw [f.1 _ (by omega) (by omega)]; exact l6.1, l6.2⟩
  have k : ∀ i, i ≤ 3 → hI h' (c + i) = hI h (c + i) := fun i hi => f.1 _ (by rcases l2 with rfl | rfl | rfl | rfl | rfl <;> omega) (by rcases l2 with rfl | rfl | rfl | rfl | rfl <;> omega)
  exact TxX_c l4 (k 0 (by omega)) (k 1 (by omega)) (k 2 (by omega)) (k 3 (by omega))
theorem mm_t {x lo hi : Int32} (h : lo.toInt ≤ hi.toInt) : (mmin (mmax x lo) hi).toInt = hld x.toInt lo.toInt hi.toInt := by
  unfold mmin mmax hld
  by_cases c1 : x < lo
  · rw [if_pos c1]
    rw [ti_lt] at c1
    rw [if_pos c1]
    by_cases c2 : hi < lo
    · rw [ti_lt] at c2; omega
    · rw [if_neg c2]
  · rw [if_neg c1]
    rw [ti_lt] at c1
    rw [if_neg c1]
    by_cases c2 : hi < x
    · rw [if_pos c2]; rw [ti_lt] at c2; rw [if_pos c2]
    · rw [if_neg c2]; rw [ti_lt] at c2; rw [if_neg c2]
theorem has_w {N c k : Nat} {h : Hp} {T : Tc} (hc : TC c) (hk : k < 3) (tx : TxX T h c) : f78 N c (nI k) h = some (if T k = none then 0 else 1) := by
  unfold f78
  rw [gd_pos (tc_shp hc).1]
  cases e : T k with
  | none => rw [if_pos rfl, (tx.1 k hk).1 e]; rfl
  | some l => rw [if_neg (by simp), ((tx.1 k hk).2 l e).1]; rfl
section
variable {N : Nat} {T : Tc} {wt : Int} {h : Hp}
theorem speedBy_w {sail wind : Int32} {lane place hour last : Int} (hN : 1000 ≤ N) (lx : LX T wt h) (s0 : 0 ≤ sail.toInt ∧ sail.toInt ≤ 100) (w0 : 0 ≤ wind.toInt ∧ wind.toInt ≤ 100) (n6 : (hI h 62 6).toInt = lane) (n5 : (hI h 62 5).toInt = place) (n0 : (hI h 62 0).toInt = hour) (n4 : (hI h 62 4).toInt = last) (b6 : 0 ≤ lane ∧ lane ≤ 100) (b5 : 0 ≤ place ∧ place ≤ 100) (b0 : 0 ≤ hour ∧ hour ≤ 100) (b4 : 0 ≤ last ∧ last ≤ 100) : Wp (f34 N sail wind h) fun x => FX h x.2 ∧ (∀ j, (j = 0 ∨ j = 4 ∨ j = 5 ∨ j = 6) → hI x.2 62 j = hI h 62 j) ∧ x.1.toInt = spd T wt lane place hour last sail.toInt wind.toInt := by
  obtain ⟨rf, ⟨c, tc, hr, tx⟩, wf, wt0, wt1, wt2⟩ := lx
  have hh := has_w (N := N) tc (by omega : 0 < 3) tx
  have hh : f78 N c 0 h = some (if T 0 = none then 0 else 1) := hh
  have i2 : ix (2 : Int32) = 2 := rfl
  have i3 : ix (3 : Int32) = 3 := rfl
  unfold f34
  rw [hr, Option.bind_some, gd_pos (tc_shp tc).1, hh, Option.bind_some]
  cases e : T 0 with
  | none =>
    rw [if_pos rfl, if_pos rfl, Wp_some]
    refine ⟨FX.rfl', fun _ _ => rfl, ?_⟩
    unfold spd; rw [e]; rfl
  | some l =>
    rw [if_neg (by simp)]
    simp only [Wp_bnd, Wp_bind, Wp_some, i2, i3]
    have fx : FX h (uI (uI h 62 2 sail) 62 3 wind) := FX.u.trans FX.u
    have lx2 := LX_c (h' := uI (uI h 62 2 sail) 62 3 wind) ⟨rf, ⟨c, tc, hr, tx⟩, wf, wt0, wt1, wt2⟩ fx
    obtain ⟨rf2, ⟨c2, tc2, hr2, tx2⟩, _, wt3, _, _⟩ := lx2
    refine Wp_mono (value_w (s := 0) (nm := nms hour wt sail.toInt wind.toInt last place lane 0) hN rf2 tc2 hr2 (by omega) e wf tx2 (fun q hq ok => ?_)) (fun x ⟨f1, f2, f3, f4⟩ => ?_)
    · have hq : q = 0 ∨ q = 1 ∨ q = 2 ∨ q = 3 ∨ q = 4 ∨ q = 5 ∨ q = 6 := by unfold okn at ok; omega
      rcases hq with rfl | rfl | rfl | rfl | rfl | rfl | rfl
      · rw [if_neg (by omega), hI_uI_eq, pu_ne (by omega), hI_uI_eq, pu_ne (by omega)]; show _ = hour ∧ -1000000 ≤ hour ∧ hour ≤ 1000000; omega
      · rw [if_pos rfl, wt3]; show _ = wt ∧ -1000000 ≤ wt ∧ wt ≤ 1000000; omega
      · rw [if_neg (by omega), hI_uI_eq, pu_ne (by omega), hI_uI_eq, pu_eq]; show _ = sail.toInt ∧ -1000000 ≤ sail.toInt ∧ sail.toInt ≤ 1000000; omega
      · rw [if_neg (by omega), hI_uI_eq, pu_eq]; show _ = wind.toInt ∧ -1000000 ≤ wind.toInt ∧ wind.toInt ≤ 1000000; omega
      · rw [if_neg (by omega), hI_uI_eq, pu_ne (by omega), hI_uI_eq, pu_ne (by omega)]; show _ = last ∧ -1000000 ≤ last ∧ last ≤ 1000000; omega
      · rw [if_neg (by omega), hI_uI_eq, pu_ne (by omega), hI_uI_eq, pu_ne (by omega)]; show _ = place ∧ -1000000 ≤ place ∧ place ≤ 1000000; omega
      · rw [if_neg (by omega), hI_uI_eq, pu_ne (by omega), hI_uI_eq, pu_ne (by omega)]; show _ = lane ∧ -1000000 ≤ lane ∧ lane ≤ 1000000; omega
    · refine ⟨fx.trans ⟨f1, f2⟩, fun j hj => ?_, ?_⟩
      · rw [f3 j (by omega), hI_uI_eq, pu_ne (by omega), hI_uI_eq, pu_ne (by omega)]
      · rw [mm_t (by decide), f4, if_neg (by omega)]
        unfold spd; rw [e]; rfl
theorem draughtOf_w {hour speed : Int32} (hN : 1000 ≤ N) (lx : LX T wt h) (h0 : 0 ≤ hour.toInt ∧ hour.toInt ≤ 100) (s0 : 0 ≤ speed.toInt ∧ speed.toInt ≤ 100) : Wp (f35 N hour speed h) fun x => FX h x.2 ∧ x.1.toInt = drt T wt hour.toInt speed.toInt := by
  obtain ⟨rf, ⟨c, tc, hr, tx⟩, wf, wt0, wt1, wt2⟩ := lx
  have hh : f78 N c 1 h = some (if T 1 = none then 0 else 1) := has_w (N := N) tc (by omega : 1 < 3) tx
  have i0 : ix (0 : Int32) = 0 := rfl
  have i7 : ix (7 : Int32) = 7 := rfl
  unfold f35
  rw [hr, Option.bind_some, gd_pos (tc_shp tc).1, hh, Option.bind_some]
  cases e : T 1 with
  | none =>
    rw [if_pos rfl, if_pos rfl, Wp_some]
    refine ⟨FX.rfl', ?_⟩
    unfold drt; rw [e]; rfl
  | some l =>
    rw [if_neg (by simp)]
    simp only [Wp_bnd, Wp_bind, Wp_some, i0, i7]
    have fx : FX h (uI (uI h 62 0 hour) 62 7 speed) := FX.u.trans FX.u
    have lx2 := LX_c (h' := uI (uI h 62 0 hour) 62 7 speed) ⟨rf, ⟨c, tc, hr, tx⟩, wf, wt0, wt1, wt2⟩ fx
    obtain ⟨rf2, ⟨c2, tc2, hr2, tx2⟩, _, wt3, _, _⟩ := lx2
    have V : Wp (f37 N (nI 1) (uI (uI h 62 0 hour) 62 7 speed)) _ := value_w (s := 1) (nm := nms hour.toInt wt 0 0 0 0 0 speed.toInt) hN rf2 tc2 hr2 (by omega) e wf tx2 (fun q hq ok => by
      have hq : q = 0 ∨ q = 1 ∨ q = 7 := by unfold okn at ok; omega
      rcases hq with rfl | rfl | rfl
      · rw [if_neg (by omega), hI_uI_eq, pu_ne (by omega), hI_uI_eq, pu_eq]; show _ = hour.toInt ∧ -1000000 ≤ hour.toInt ∧ hour.toInt ≤ 1000000; omega
      · rw [if_pos rfl, wt3]; show _ = wt ∧ -1000000 ≤ wt ∧ wt ≤ 1000000; omega
      · rw [if_neg (by omega), hI_uI_eq, pu_eq]; show _ = speed.toInt ∧ -1000000 ≤ speed.toInt ∧ speed.toInt ≤ 1000000; omega)
    refine Wp_mono V (fun x ⟨f1, f2, f3, f4⟩ => ?_)
    refine ⟨fx.trans ⟨f1, f2⟩, ?_⟩
    rw [mm_t (by decide), f4, if_neg (by omega)]
    unfold drt; rw [e]; rfl
theorem bareRocks_w {n : Nat} {hour : Int32} (hN : 1000 ≤ N) (n12 : n ≤ 12) (lx : LX T wt h) (hn : hI h 41 0 = nI n) (h0 : 0 ≤ hour.toInt ∧ hour.toInt ≤ 100) : Wp (f36 N hour h) fun x => FX h x.2 ∧ ∀ p, p < n → (bt x.1 p ↔ bt (hI h 41 3) p ∧ hgh T wt hour.toInt p = false) := by
  have lx0 := lx
  obtain ⟨rf, ⟨c, tc, hr, tx⟩, wf, wt0, wt1, wt2⟩ := lx
  have hh : f78 N c 2 h = some (if T 2 = none then 0 else 1) := has_w (N := N) tc (by omega : 2 < 3) tx
  have i0 : ix (0 : Int32) = 0 := rfl
  have i5 : ix (5 : Int32) = 5 := rfl
  unfold f36
  rw [hr, Option.bind_some, gd_pos (tc_shp tc).1, hh, Option.bind_some]
  cases e : T 2 with
  | none =>
    rw [if_pos rfl, if_pos rfl, Wp_some]
    refine ⟨FX.rfl', fun p hp => ⟨fun z => absurd z (bt_0 (by omega)), fun z => ?_⟩⟩
    have := z.2
    unfold hgh at this
    rw [e] at this
    cases this
  | some l =>
    have tnn : (nI n).toInt = (n : Int) := ti_nI (by omega)
    rw [if_neg (by simp), Wp_bnd, i0, Wp_bind]
    refine Wp_lp (fun m q => ∃ i : Nat, q.2.1 = nI i ∧ i + m = n ∧ FX h q.2.2 ∧ hI q.2.2 62 0 = hour ∧ (∀ p, p < i → (bt q.1 p ↔ bt (hI h 41 3) p ∧ hgh T wt hour.toInt p = false)) ∧ (∀ p, i ≤ p → p < 32 → ¬ bt q.1 p)) ?_ N n _ (by omega) ?_
    case refine_2 =>
      refine ⟨0, rfl, by omega, FX.u, ?_, fun p hp => absurd hp (Nat.not_lt_zero p), fun p _ hp => ?_⟩
      · dsimp only; rw [hI_uI_eq, pu_eq]
      · dsimp only; exact bt_0 hp
    rintro m ⟨bare, pl, g⟩ ⟨i, hi, him, fx, g0, hb1, hb2⟩
    dsimp only at hi fx g0 hb1 hb2 ⊢
    subst hi
    have ti : (nI i).toInt = (i : Int) := ti_nI (by omega)
    unfold f36_l16
    dsimp only
    rw [fx.1 41 (by omega) (by omega), hn]
    by_cases cc : i = n
    · subst cc
      refine Wp_pos (by rw [ti_le]; exact Int.le_refl _) ?_
      rw [Wp_some]
      refine Or.inr ⟨0, rfl, ?_⟩
      rw [Wp_some]
      exact ⟨fx, hb1⟩
    · refine Wp_neg (by rw [ti_le, tnn, ti]; omega) ?_
      rw [Wp_bnd, i5, hI_uI_ne (by omega), fx.1 41 (by omega) (by omega)]
      have fx2 : FX h (uI g 62 5 (nI i)) := fx.trans FX.u
      have hn1 : nI i + 1 = nI (i + 1) := nI_1 i
      have fin : ∀ (b' : Int32) (g' : Hp), FX h g' → hI g' 62 0 = hour → (∀ p, p < i + 1 → (bt b' p ↔ bt (hI h 41 3) p ∧ hgh T wt hour.toInt p = false)) → (∀ p, i + 1 ≤ p → p < 32 → ¬ bt b' p) → Wp (f36_b42 N b' (nI i) g') fun q => (q.1 = 0 ∧ ∃ m', m' < m ∧ ∃ i : Nat, q.2.2.1 = nI i ∧ i + m' = n ∧ FX h q.2.2.2 ∧ hI q.2.2.2 62 0 = hour ∧ (∀ p, p < i → (bt q.2.1 p ↔ bt (hI h 41 3) p ∧ hgh T wt hour.toInt p = false)) ∧ (∀ p, i ≤ p → p < 32 → ¬ bt q.2.1 p)) ∨ (∃ e, q.1 = e + 1 ∧ Wp (some (q.2.1, q.2.2.2)) fun x => FX h x.2 ∧ ∀ p, p < n → (bt x.1 p ↔ bt (hI h 41 3) p ∧ hgh T wt hour.toInt p = false)) := fun b' g' k1 k2 k3 k4 => by
        unfold f36_b42
        simp only [Wp_bnd, Wp_some]
        exact Or.inl ⟨trivial, m - 1, by omega, i + 1, hn1, by omega, k1, k2, k3, k4⟩
      refine Wp_if (fun k => ?_) (fun k => ?_)
      · refine fin _ _ fx2 (by rw [hI_uI_eq, pu_ne (by omega)]; exact g0) (fun p hp => ?_) (fun p h1 h2 => hb2 p (by omega) h2)
        by_cases ep : p = i
        · subst ep
          exact ⟨fun z => absurd z (hb2 p (Nat.le_refl p) (by omega)), fun z => absurd z.1 (bt_n.2 k)⟩
        · exact hb1 p (by omega)
      · have kb : bt (hI h 41 3) i := (bt01 _ _).resolve_left k
        obtain ⟨rf2, ⟨c2, tc2, hr2, tx2⟩, _, wt3, _, _⟩ := LX_c lx0 fx2
        have V : Wp (f37 N (nI 2) (uI g 62 5 (nI i))) _ := value_w (s := 2) (nm := nms hour.toInt wt 0 0 0 (i : Int) 0 0) hN rf2 tc2 hr2 (by omega) e wf tx2 (fun q hq ok => by
          have hq : q = 0 ∨ q = 1 ∨ q = 5 := by unfold okn at ok; omega
          rcases hq with rfl | rfl | rfl
          · rw [if_neg (by omega), hI_uI_eq, pu_ne (by omega), g0]; show _ = hour.toInt ∧ -1000000 ≤ hour.toInt ∧ hour.toInt ≤ 1000000; omega
          · rw [if_pos rfl, wt3]; show _ = wt ∧ -1000000 ≤ wt ∧ wt ≤ 1000000; omega
          · rw [if_neg (by omega), hI_uI_eq, pu_eq, ti]; show _ = (i : Int) ∧ -1000000 ≤ (i : Int) ∧ (i : Int) ≤ 1000000; omega)
        rw [Wp_bind]
        refine Wp_mono V (fun x ⟨f1, f2, f3, f4⟩ => ?_)
        rw [if_pos rfl] at f4
        have hx0 : hI x.2 62 0 = hour := by rw [f3 0 (by omega), hI_uI_eq, pu_ne (by omega)]; exact g0
        have eh : hgh T wt hour.toInt i = (evs (nms hour.toInt wt 0 0 0 (i : Int) 0 0) l ([], [])).2.headD false := by unfold hgh; rw [e]
        rw [← eh] at f4
        refine Wp_if (fun k2 => ?_) (fun k2 => ?_)
        · have hf : hgh T wt hour.toInt i = false := by
            cases hv : hgh T wt hour.toInt i with
            | false => rfl
            | true => rw [hv, k2] at f4; exact absurd f4 (by decide)
          rw [Wp_bnd]
          refine fin _ _ (fx2.trans ⟨f1, f2⟩) hx0 (fun p hp => ?_) (fun p h1 h2 => ?_)
          · rw [bt_or (by omega), bt_one (by omega) (by omega)]
            by_cases ep : p = i
            · subst ep; exact ⟨fun _ => ⟨kb, hf⟩, fun _ => Or.inr rfl⟩
            · rw [hb1 p (by omega)]
              exact ⟨fun z => z.resolve_right ep, Or.inl⟩
          · rw [bt_or h2, bt_one (by omega) h2]
            exact fun z => z.elim (hb2 p (by omega) h2) (fun z => by omega)
        · have hf : hgh T wt hour.toInt i = true := by
            cases hv : hgh T wt hour.toInt i with
            | true => rfl
            | false => rw [hv] at f4; exact absurd (ti_eq.2 f4) k2
          refine fin _ _ (fx2.trans ⟨f1, f2⟩) hx0 (fun p hp => ?_) (fun p h1 h2 => hb2 p (by omega) h2)
          by_cases ep : p = i
          · subst ep
            exact ⟨fun z => absurd z (hb2 p (Nat.le_refl p) (by omega)), fun z => by rw [hf] at z; exact absurd z.2 (by decide)⟩
          · exact hb1 p (by omega)
end
