/-! ===== the reference's laws: speed, draught, tide ===== -/
def FM (h h' : Hp) : Prop := ∀ c, c ≠ 6 → c ≠ 8 → hI h' c = hI h c
theorem FM.rfl' {h : Hp} : FM h h := fun _ _ _ => rfl
theorem FM.trans {h h1 h2 : Hp} (a : FM h h1) (b : FM h1 h2) : FM h h2 := fun c x y => (b c x y).trans (a c x y)
theorem FM.u {h : Hp} {j : Nat} {v : Int32} : FM h (uI h 6 j v) := fun c x _ => hI_uI_ne x
def LM (T : Nat → Tc) (wt : Int) (h : Hp) : Prop := -1 ≤ (hI h 1 3).toInt ∧ (hI h 1 3).toInt < 4 ∧ (∀ r : Nat, hI h 1 3 = nI r → r < 4 → TxM (T r) (hI h 3) (620 * r) ∧ WfT (T r)) ∧ (hI h 1 1).toInt = wt ∧ 0 ≤ wt ∧ wt ≤ 99
theorem LM_c {T : Nat → Tc} {wt : Int} {h h' : Hp} (l : LM T wt h) (f : FM h h') : LM T wt h' := by
  unfold LM at l ⊢
  rw [f 1 (by omega) (by omega), f 3 (by omega) (by omega)]; exact l
theorem held_t {v : Int64} {lo hi : Int32} (h : lo.toInt ≤ hi.toInt) : (f140 v lo hi).toInt = hld v.toInt lo.toInt hi.toInt := by
  have b1 := lo.le_toInt
  have b2 := hi.toInt_lt
  unfold f140 hld
  by_cases c1 : 0 ≤ lg_cmp v lo.toInt64
  · rw [if_pos c1]
    rw [lc_0le, tl_i] at c1
    rw [if_neg (show ¬ v.toInt < lo.toInt by omega)]
    by_cases c2 : lg_cmp v hi.toInt64 ≤ 0
    · rw [if_pos c2]
      rw [lc_le0, tl_i] at c2
      rw [if_neg (show ¬ hi.toInt < v.toInt by omega), ti_l (by omega) (by omega)]
    · rw [if_neg c2]
      rw [lc_le0, tl_i] at c2
      rw [if_pos (show hi.toInt < v.toInt by omega)]
  · rw [if_neg c1]
    rw [lc_0le, tl_i] at c1
    rw [if_pos (show v.toInt < lo.toInt by omega)]
section
variable {N : Nat} {T : Nat → Tc} {wt : Int} {h : Hp}
theorem clause_l {s : Nat} (hN : 1000 ≤ N) (hs : s < 3) (lm : LM T wt h) : Wp (f189 N (nI s) h) fun q => (Tr T (hI h 1 3) s = none ∧ q = -1) ∨ (∃ r k f l, r < 4 ∧ k < 3 ∧ hI h 1 3 = nI r ∧ Tr T (hI h 1 3) s = some l ∧ q = nI k ∧ Cl (hI h 3) r k f l ∧ tcs l (0, 0) = some (if s = 2 then (0, 1) else (1, 0)) ∧ ∀ o, o ∈ l → o ≤ 10099 ∧ (o < 8 → okn s o)) := by
  obtain ⟨l1, l2, l3, l4⟩ := lm
  refine Wp_mono (clauseOf_w hN hs l1 l2 (fun r e hr => (l3 r e hr).1)) (fun q hq => hq.imp id ?_)
  rintro ⟨r, k, f, l, a1, a2, a3, a4, a5, a6⟩
  have tr : Tr T (hI h 1 3) = T r := by
    unfold Tr
    have tt : (nI r).toInt = (r : Int) := ti_nI (by omega)
    rw [a3, if_neg (by rw [ti_lt, tt]; show ¬ (r : Int) < 0; omega)]
    have : tn (nI r) = r := by unfold tn; omega
    rw [this]
  obtain ⟨w1, w2⟩ := (l3 r a3 a1).2 s l hs (by rw [← tr]; exact a4)
  exact ⟨r, k, f, l, a1, a2, a3, a4, a5, a6, w1, w2⟩
theorem nI_nn {k : Nat} (h : k < 3) : 0 ≤ nI k := by rw [ti_le, ti_nI (by omega)]; show (0 : Int) ≤ _; omega
theorem speedOf_w {p1 lane sail wind : Int32} {hour : Int} (hN : 1000 ≤ N) (lm : LM T wt h) (n0 : (hI h 6 0).toInt = hour) (n1 : (hI h 6 1).toInt = wt) (b0 : 0 ≤ hour ∧ hour ≤ 100) (bl : 0 ≤ lane.toInt ∧ lane.toInt ≤ 100) (bs : 0 ≤ sail.toInt ∧ sail.toInt ≤ 100) (bw : 0 ≤ wind.toInt ∧ wind.toInt ≤ 100) (bp : 0 ≤ (f145 p1).toInt ∧ (f145 p1).toInt ≤ 100) (bt' : 0 ≤ (f147 p1).toInt ∧ (f147 p1).toInt ≤ 100) : Wp (f190 N p1 lane sail wind h) fun x => FM h x.2 ∧ hI x.2 6 0 = hI h 6 0 ∧ hI x.2 6 1 = hI h 6 1 ∧ x.1.toInt = spd (Tr T (hI h 1 3)) wt lane.toInt (f145 p1).toInt hour (f147 p1).toInt sail.toInt wind.toInt := by
  have i2 : ix (2 : Int32) = 2 := rfl
  have i3 : ix (3 : Int32) = 3 := rfl
  have i4 : ix (4 : Int32) = 4 := rfl
  have i5 : ix (5 : Int32) = 5 := rfl
  have i6 : ix (6 : Int32) = 6 := rfl
  have i0 : ix (0 : Int32) = 0 := rfl
  have wb := lm.2.2.2.2
  unfold f190
  rw [Wp_bind]
  have C : Wp (f189 N (nI 0) h) _ := clause_l hN (by omega) lm
  refine Wp_mono C (fun q hq => ?_)
  rcases hq with ⟨e, rfl⟩ | ⟨r, k, f, l, a1, a2, a3, a4, rfl, a6, w1, w2⟩
  · refine Wp_neg (by decide) ?_
    rw [Wp_some]
    refine ⟨FM.rfl', rfl, rfl, ?_⟩
    unfold spd; rw [e]; rfl
  · refine Wp_pos (nI_nn a2) ?_
    simp only [Wp_bnd, Wp_bind, Wp_some, i0, i2, i3, i4, i5, i6]
    generalize hg : uI (uI (uI (uI (uI h 6 2 sail) 6 3 wind) 6 4 (f147 p1)) 6 5 (f145 p1)) 6 6 lane = g
    have fm : FM h g := by rw [← hg]; exact FM.u.trans (FM.u.trans (FM.u.trans (FM.u.trans FM.u)))
    have z : ∀ j, j < 2 → hI g 6 j = hI h 6 j := fun j hj => by rw [← hg, hI_uI_eq, pu_ne (by omega), hI_uI_eq, pu_ne (by omega), hI_uI_eq, pu_ne (by omega), hI_uI_eq, pu_ne (by omega), hI_uI_eq, pu_ne (by omega)]
    have z2 : hI g 6 2 = sail := by rw [← hg, hI_uI_eq, pu_ne (by omega), hI_uI_eq, pu_ne (by omega), hI_uI_eq, pu_ne (by omega), hI_uI_eq, pu_ne (by omega), hI_uI_eq, pu_eq]
    have z3 : hI g 6 3 = wind := by rw [← hg, hI_uI_eq, pu_ne (by omega), hI_uI_eq, pu_ne (by omega), hI_uI_eq, pu_ne (by omega), hI_uI_eq, pu_eq]
    have z4 : hI g 6 4 = f147 p1 := by rw [← hg, hI_uI_eq, pu_ne (by omega), hI_uI_eq, pu_ne (by omega), hI_uI_eq, pu_eq]
    have z5 : hI g 6 5 = f145 p1 := by rw [← hg, hI_uI_eq, pu_ne (by omega), hI_uI_eq, pu_eq]
    have z6 : hI g 6 6 = lane := by rw [← hg, hI_uI_eq, pu_eq]
    refine Wp_mono (work_w (s := 0) (nm := nms hour wt sail.toInt wind.toInt (f147 p1).toInt (f145 p1).toInt lane.toInt 0) (h := g) hN (by rw [fm 1 (by omega) (by omega)]; exact a3) a1 a2 (by rw [fm 3 (by omega) (by omega)]; exact a6) w1 w2 (fun q hq ok => ?_)) (fun x ⟨f1, f2, f3⟩ => ?_)
    · have hq : q = 0 ∨ q = 1 ∨ q = 2 ∨ q = 3 ∨ q = 4 ∨ q = 5 ∨ q = 6 := by unfold okn at ok; omega
      rcases hq with rfl | rfl | rfl | rfl | rfl | rfl | rfl
      · rw [z 0 (by omega), n0]; show _ = hour ∧ -1000000 ≤ hour ∧ hour ≤ 1000000; omega
      · rw [z 1 (by omega), n1]; show _ = wt ∧ -1000000 ≤ wt ∧ wt ≤ 1000000; omega
      · rw [z2]; show _ = sail.toInt ∧ -1000000 ≤ sail.toInt ∧ sail.toInt ≤ 1000000; omega
      · rw [z3]; show _ = wind.toInt ∧ -1000000 ≤ wind.toInt ∧ wind.toInt ≤ 1000000; omega
      · rw [z4]; show _ = (f147 p1).toInt ∧ -1000000 ≤ (f147 p1).toInt ∧ (f147 p1).toInt ≤ 1000000; omega
      · rw [z5]; show _ = (f145 p1).toInt ∧ -1000000 ≤ (f145 p1).toInt ∧ (f145 p1).toInt ≤ 1000000; omega
      · rw [z6]; show _ = lane.toInt ∧ -1000000 ≤ lane.toInt ∧ lane.toInt ≤ 1000000; omega
    · refine ⟨fm.trans (fun c _ h8 => f1 c h8), by rw [f1 6 (by omega), z 0 (by omega)], by rw [f1 6 (by omega), z 1 (by omega)], ?_⟩
      rw [held_t (by decide), f3 (by omega)]
      unfold spd; rw [a4]; rfl
theorem draughtM_w {speed : Int32} {hour : Int} (hN : 1000 ≤ N) (lm : LM T wt h) (n0 : (hI h 6 0).toInt = hour) (n1 : (hI h 6 1).toInt = wt) (b0 : 0 ≤ hour ∧ hour ≤ 100) (bs : 0 ≤ speed.toInt ∧ speed.toInt ≤ 100) : Wp (f191 N speed h) fun x => FM h x.2 ∧ hI x.2 6 0 = hI h 6 0 ∧ hI x.2 6 1 = hI h 6 1 ∧ x.1.toInt = drt (Tr T (hI h 1 3)) wt hour speed.toInt := by
  have i7 : ix (7 : Int32) = 7 := rfl
  have i0 : ix (0 : Int32) = 0 := rfl
  have wb := lm.2.2.2.2
  unfold f191
  rw [Wp_bind]
  have C : Wp (f189 N (nI 1) h) _ := clause_l hN (by omega) lm
  refine Wp_mono C (fun q hq => ?_)
  rcases hq with ⟨e, rfl⟩ | ⟨r, k, f, l, a1, a2, a3, a4, rfl, a6, w1, w2⟩
  · refine Wp_neg (by decide) ?_
    rw [Wp_some]
    refine ⟨FM.rfl', rfl, rfl, ?_⟩
    unfold drt; rw [e]; rfl
  · refine Wp_pos (nI_nn a2) ?_
    simp only [Wp_bnd, Wp_bind, Wp_some, i0, i7]
    have fm : FM h (uI h 6 7 speed) := FM.u
    have z : ∀ j, j < 2 → hI (uI h 6 7 speed) 6 j = hI h 6 j := fun j hj => by rw [hI_uI_eq, pu_ne (by omega)]
    refine Wp_mono (work_w (s := 1) (nm := nms hour wt 0 0 0 0 0 speed.toInt) (h := uI h 6 7 speed) hN (by rw [fm 1 (by omega) (by omega)]; exact a3) a1 a2 (by rw [fm 3 (by omega) (by omega)]; exact a6) w1 w2 (fun q hq ok => ?_)) (fun x ⟨f1, f2, f3⟩ => ?_)
    · have hq : q = 0 ∨ q = 1 ∨ q = 7 := by unfold okn at ok; omega
      rcases hq with rfl | rfl | rfl
      · rw [z 0 (by omega), n0]; show _ = hour ∧ -1000000 ≤ hour ∧ hour ≤ 1000000; omega
      · rw [z 1 (by omega), n1]; show _ = wt ∧ -1000000 ≤ wt ∧ wt ≤ 1000000; omega
      · rw [hI_uI_eq, pu_eq]; show _ = speed.toInt ∧ -1000000 ≤ speed.toInt ∧ speed.toInt ≤ 1000000; omega
    · refine ⟨fm.trans (fun c _ h8 => f1 c h8), by rw [f1 6 (by omega), z 0 (by omega)], by rw [f1 6 (by omega), z 1 (by omega)], ?_⟩
      rw [held_t (by decide), f3 (by omega)]
      unfold drt; rw [a4]; rfl
theorem isHigh_w {place : Int32} {hour : Int} (hN : 1000 ≤ N) (lm : LM T wt h) (n0 : (hI h 6 0).toInt = hour) (n1 : (hI h 6 1).toInt = wt) (b0 : 0 ≤ hour ∧ hour ≤ 100) (bp : 0 ≤ place.toInt ∧ place.toInt ≤ 100) : Wp (f192 N place h) fun x => FM h x.2 ∧ hI x.2 6 0 = hI h 6 0 ∧ hI x.2 6 1 = hI h 6 1 ∧ x.1 = b2I (hgh (Tr T (hI h 1 3)) wt hour place.toInt) := by
  have i5 : ix (5 : Int32) = 5 := rfl
  have i0 : ix (0 : Int32) = 0 := rfl
  have wb := lm.2.2.2.2
  unfold f192
  rw [Wp_bind]
  have C : Wp (f189 N (nI 2) h) _ := clause_l hN (by omega) lm
  refine Wp_mono C (fun q hq => ?_)
  rcases hq with ⟨e, rfl⟩ | ⟨r, k, f, l, a1, a2, a3, a4, rfl, a6, w1, w2⟩
  · refine Wp_neg (by decide) ?_
    rw [Wp_some]
    refine ⟨FM.rfl', rfl, rfl, ?_⟩
    unfold hgh; rw [e]; rfl
  · refine Wp_pos (nI_nn a2) ?_
    simp only [Wp_bnd, Wp_bind, Wp_some, i0, i5]
    have fm : FM h (uI h 6 5 place) := FM.u
    have z : ∀ j, j < 2 → hI (uI h 6 5 place) 6 j = hI h 6 j := fun j hj => by rw [hI_uI_eq, pu_ne (by omega)]
    refine Wp_mono (work_w (s := 2) (nm := nms hour wt 0 0 0 place.toInt 0 0) (h := uI h 6 5 place) hN (by rw [fm 1 (by omega) (by omega)]; exact a3) a1 a2 (by rw [fm 3 (by omega) (by omega)]; exact a6) w1 w2 (fun q hq ok => ?_)) (fun x ⟨f1, f2, f3⟩ => ?_)
    · have hq : q = 0 ∨ q = 1 ∨ q = 5 := by unfold okn at ok; omega
      rcases hq with rfl | rfl | rfl
      · rw [z 0 (by omega), n0]; show _ = hour ∧ -1000000 ≤ hour ∧ hour ≤ 1000000; omega
      · rw [z 1 (by omega), n1]; show _ = wt ∧ -1000000 ≤ wt ∧ wt ≤ 1000000; omega
      · rw [hI_uI_eq, pu_eq]; show _ = place.toInt ∧ -1000000 ≤ place.toInt ∧ place.toInt ≤ 1000000; omega
    · refine ⟨fm.trans (fun c _ h8 => f1 c h8), by rw [f1 6 (by omega), z 0 (by omega)], by rw [f1 6 (by omega), z 1 (by omega)], ?_⟩
      rw [f2 rfl, b2I_and]
      unfold hgh; rw [a4]
end
