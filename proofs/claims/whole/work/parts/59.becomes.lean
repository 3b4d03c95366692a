/-! ===== becomes ===== -/
section
variable {n L N : Nat} {T : Nat → Tc} {hx hm : Hp}
theorem sea_at {a : Nat → Int32} {j : Nat} (h : j < 2 ∨ (30 ≤ j ∧ j < 66)) : sea a j = a j := if_pos h
theorem Rl.lx (r : Rl n L T hx hm) (wf : RF hx) : LX (Tr T (hI hm 1 3)) (sea (hI hm 1) 1).toInt hx := by
  have t0 : (0 : Int32).toInt = 0 := rfl
  obtain ⟨t1, t2, t3⟩ := r.tx
  obtain ⟨n1, n2, n3, n4⟩ := r.sc.2.2.2.2.2.2.2.2.2.1
  obtain ⟨b1, b2, b3⟩ := r.sc.2.2.2.2.2.2.2.1
  have lw : hR hx 61 1 = some (if hI hm 1 3 < 0 then 18 else 2 + 4 * tn (hI hm 1 3)) := r.lw
  have q : hI hx 41 4 = hI hm 1 1 := r.sc.1.2.1
  have w : (hI hx 41 4).toInt = (sea (hI hm 1) 1).toInt ∧ 0 ≤ (sea (hI hm 1) 1).toInt ∧ (sea (hI hm 1) 1).toInt ≤ 99 := by
    rw [sea_at (by omega), q]; exact ⟨rfl, b1, b2⟩
  by_cases c : hI hm 1 3 < 0
  · have e : Tr T (hI hm 1 3) = fun _ => none := if_pos c
    rw [if_pos c] at lw
    rw [e]
    refine ⟨wf, ⟨18, by unfold TC; omega, lw, fun k hk => ⟨fun _ => ?_, fun l hl => (nomatch hl)⟩, fun q hq hz l hl => (nomatch hl)⟩, fun s l _ hl => (nomatch hl), w⟩
    rw [t2]; exact bt_n.1 (bt_0 (by omega))
  · have e : Tr T (hI hm 1 3) = T (tn (hI hm 1 3)) := if_neg c
    rw [if_neg c] at lw
    rw [ti_lt, t0] at c
    have h4 : tn (hI hm 1 3) < 4 := by unfold tn; omega
    obtain ⟨x1, x2, x3⟩ := t1 (tn (hI hm 1 3)) (by unfold tn; omega)
    rw [e]
    exact ⟨wf, ⟨_, by unfold TC; omega, lw, x1⟩, x3, w⟩
theorem Rl.lm (r : Rl n L T hx hm) : LM T (sea (hI hm 1) 1).toInt hm := by
  obtain ⟨t1, t2, t3⟩ := r.tx
  obtain ⟨n1, n2, n3, n4⟩ := r.sc.2.2.2.2.2.2.2.2.2.1
  obtain ⟨b1, b2, b3⟩ := r.sc.2.2.2.2.2.2.2.1
  rw [sea_at (by omega)]
  refine ⟨n3, by omega, fun k hk h4 => ?_, rfl, b1, b2⟩
  have tk : (nI k).toInt = (k : Int) := ti_nI (by omega)
  rw [hk, tk] at n4
  exact (t1 k (by unfold tn; omega)).2
theorem i128 (p : Int32) (r : Rl n L T hx hm) : (∃ s, p = nI s ∧ ist n s ∧ f128 N p hx = some 1 ∧ f148 N p hm = some 1) ∨ (f128 N p hx = some 0 ∧ f148 N p hm = some 0) := by
  have n4 := r.n4
  have n12 := r.n12
  have t0 : (0 : Int32).toInt = 0 := rfl
  have t1440 : (1440 : Int32).toInt = 1440 := rfl
  have tX := r.pXt
  by_cases c1 : 0 ≤ p.toInt ∧ p.toInt ≤ 1439
  · obtain ⟨s, rfl, hs⟩ : ∃ s, p = nI s ∧ s < 1440 := ⟨tn p, (nI_tn c1.1).symm, by unfold tn; omega⟩
    obtain ⟨d1, d2, d3, d4⟩ := nI_dec s (by omega)
    have d2' : f145 (nI s) = nI (s / 40 % 12) := d2
    have d4' : f147 (nI s) = nI (s % 5) := d4
    have t2 : (nI (s / 40 % 12)).toInt = ((s / 40 % 12 : Nat) : Int) := ti_nI (by omega)
    have t4 : (nI (s % 5)).toInt = ((s % 5 : Nat) : Int) := ti_nI (by omega)
    have k1 : ¬ nI s < 0 := by rw [ti_lt]; omega
    have k2 : ¬ (1440 : Int32) ≤ nI s := by rw [ti_le]; omega
    have k3 : ¬ f139 (nI s) 0 1439 = 0 := fun z => i139.1 z c1
    have km := i142 (N := N) (nI (s / 40 % 12)) r
    have z1 : ¬ (1 : Int32) = 0 := by decide
    unfold f128 f148 f128_b17 f148_b15
    rw [if_neg k1, if_neg k2, if_neg k3, d4, d2, d2', d4', km, Option.bind_some]
    by_cases c2 : s / 40 % 12 < n
    · rw [if_pos (show 0 ≤ (nI (s / 40 % 12)).toInt ∧ (nI (s / 40 % 12)).toInt < (n : Int) by omega), if_neg z1]
      by_cases c3 : 0 < s % 5
      · have k4 : ¬ nI (s % 5) ≤ 0 := by rw [ti_le]; omega
        have k5 : ¬ hI hx 41 0 ≤ nI (s / 40 % 12) := by rw [ti_le]; omega
        rw [if_neg k4, if_neg k4, if_neg k5]
        exact Or.inl ⟨s, rfl, ⟨hs, c2, c3⟩, rfl, rfl⟩
      · have k4 : nI (s % 5) ≤ 0 := by rw [ti_le]; omega
        rw [if_pos k4, if_pos k4]
        exact Or.inr ⟨rfl, rfl⟩
    · rw [if_neg (show ¬ (0 ≤ (nI (s / 40 % 12)).toInt ∧ (nI (s / 40 % 12)).toInt < (n : Int)) by omega), if_pos rfl]
      have k5 : hI hx 41 0 ≤ nI (s / 40 % 12) := by rw [ti_le]; omega
      by_cases c3 : nI (s % 5) ≤ 0
      · rw [if_pos c3]; exact Or.inr ⟨rfl, rfl⟩
      · rw [if_neg c3, if_pos k5]; exact Or.inr ⟨rfl, rfl⟩
  · have k3 : f139 p 0 1439 = 0 := i139.2 c1
    unfold f128 f148 f128_b17 f148_b15
    rw [if_pos k3]
    refine Or.inr ⟨?_, rfl⟩
    by_cases k1 : p < 0
    · rw [if_pos k1]
    · rw [if_neg k1, if_pos]
      rw [ti_lt] at k1; rw [ti_le]; omega
/-- scratch of both changes -/
theorem Rl.scr {hx' hm' : Hp} (r : Rl n L T hx hm) (fx : FX hx hx') (fm : FM hm hm') : Rl n L T hx' hm' :=
  Rl.now r (Nat.le_refl L) (fun c h => fx.1 c (by omega) (by omega)) fx.2 (by rw [fx.1 41 (by omega) (by omega)]) (fun c h => fm c (by omega) (by omega)) (fun j _ => by rw [fm 1 (by omega) (by omega)]) (Sc_c r.sc (fun k hk => fx.1 _ (by omega) (by omega)) (fun j _ => by rw [fm 1 (by omega) (by omega)]))
/-- both say the same of a state's outcome -/
theorem Rl.out {s c w : Nat} (hN : 1000 ≤ N) (r : Rl n L T hx hm) (wf : RF hx) (hs : ist n s) (hc : c < 12) (hw : w < 4) : Wp (f31 N (nI s) (nI c) (nI w) hx) fun x => Wp (f193 N (nI s) (nI c) (nI w) hm) fun y => x.1 = y.1 ∧ FX hx x.2 ∧ FM hm y.2 ∧ Oc n (Tr T (hI hm 1 3)) (sea (hI hm 1)) s c w x.1 := by
  obtain ⟨q1, q2, q3, q4⟩ := r.sc.1
  refine Wp_mono (outX_w (e := sea (hI hm 1)) hN r.n4 r.n12 r.pX (r.lx wf) (fun j hj => by rw [sea_at (by omega)]; exact q3 j hj) (by rw [sea_at (by omega)]; exact q1) hs hc hw) (fun x ⟨fx, ox⟩ => ?_)
  refine Wp_mono (outM_w (e := sea (hI hm 1)) hN r.n4 r.n12 r.pM r.lm (fun j hj => (sea_at hj).symm) hs hc hw) (fun y ⟨fy, oy⟩ => ?_)
  exact ⟨Oc_fn ox oy, fx, fy, ox⟩
theorem op_becomes (p1 p2 p3 : Int32) (hN : 1000 ≤ N) (r : Rl n L T hx hm) (wf : WF 0 hx) : Wp (f100 N p1 p2 p3 hx) fun x => Wp (f197 N p1 p2 p3 hm) fun y => x.1 = y.1 ∧ Rl n L T x.2 y.2 := by
  have z1 : ¬ (1 : Int32) = 0 := by decide
  rcases i128 (N := N) p1 r with ⟨s, rfl, hs, k1, k2⟩ | ⟨k1, k2⟩
  · by_cases c2 : 0 ≤ p2.toInt ∧ p2.toInt ≤ 11
    · have d1 : ¬ f126 p2 = 0 := fun z => i126.1 z c2
      have d2 : ¬ f139 p2 0 11 = 0 := fun z => i139.1 z c2
      by_cases c3 : 0 ≤ p3.toInt ∧ p3.toInt ≤ 3
      · have d3 : ¬ f127 p3 = 0 := fun z => i127.1 z c3
        have d4 : ¬ f139 p3 0 3 = 0 := fun z => i139.1 z c3
        obtain ⟨c, rfl, hc⟩ : ∃ c, p2 = nI c ∧ c < 12 := ⟨tn p2, (nI_tn c2.1).symm, by unfold tn; omega⟩
        obtain ⟨w, rfl, hw⟩ : ∃ w, p3 = nI w ∧ w < 4 := ⟨tn p3, (nI_tn c3.1).symm, by unfold tn; omega⟩
        simp only [f100, f197, k1, k2, d1, d2, d3, d4, z1, Option.bind_some, if_false, Wp_bind, Wp_some]
        refine Wp_mono (r.out hN wf.2 hs hc hw) (fun x hx => Wp_mono hx (fun y ⟨e1, fx, fy, _⟩ => ⟨e1, r.scr fx fy⟩))
      · have d3 : f127 p3 = 0 := i127.2 c3
        have d4 : f139 p3 0 3 = 0 := i139.2 c3
        simp only [f100, f197, f197_b20, k1, k2, d1, d2, d3, d4, z1, Option.bind_some, if_true, if_false, Wp_some, true_and]
        exact r
    · have d1 : f126 p2 = 0 := i126.2 c2
      have d2 : f139 p2 0 11 = 0 := i139.2 c2
      simp only [f100, f197, f197_b20, k1, k2, d1, d2, z1, Option.bind_some, if_true, if_false, Wp_some, true_and]
      exact r
  · simp only [f100, f197, f197_b20, k1, k2, Option.bind_some, if_true, Wp_some, true_and]
    exact r
end
