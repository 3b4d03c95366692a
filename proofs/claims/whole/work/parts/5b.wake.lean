/-! ===== remember; the wake of both ===== -/
section
variable {n L N : Nat} {T : Nat → Tc} {hx hm : Hp}
theorem rem_w {g : Hp} {nx c : Nat} (h3 : hI g 29 3 = nI nx) (hx30 : nx < 30) (h4 : hI g 29 4 = nI c) (hc : c ≤ 30) : Wp (f87 N g) fun x => (∀ k, k < 29 ∨ 33 ≤ k → hI x k = hI g k) ∧ hR x = hR g ∧ hI x 29 3 = nI ((nx + 1) % 30) ∧ hI x 29 4 = nI (c + 1 - (if c = 30 then 1 else 0)) ∧ hI x 30 = pu (hI g 30) nx (f143 (hI g 28 0) (hI g 28 1) (hI g 28 2) (hI g 28 3)) ∧ hI x 31 = pu (hI g 31) nx (hI g 28 4) ∧ hI x 32 = pu (hI g 32) nx (hI g 28 5) := by
  have xn : ix (nI nx) = nx := nix (by omega)
  have e1 : irem (nI nx + 1) 30 = nI ((nx + 1) % 30) := by rw [nI_1]; exact pk_rem (d := 30) (by omega) (by omega) (by omega)
  have e2 : mmin (nI c + 1) 30 = nI (c + 1 - (if c = 30 then 1 else 0)) := by
    rw [nI_1]
    unfold mmin
    have t1 : (nI (c + 1)).toInt = ((c + 1 : Nat) : Int) := ti_nI (by omega)
    have t30 : (30 : Int32).toInt = 30 := rfl
    by_cases k : c = 30
    · rw [if_pos (by rw [ti_lt, t1, t30]; omega), if_pos k, k]; rfl
    · rw [if_neg (by rw [ti_lt, t1, t30]; omega), if_neg k]; rfl
  unfold f87 f82
  simp only [Wp_bind, Wp_bnd, Wp_gd, Wp_some, hI_uI_ne, hI_uI_eq, pu_eq, pu_ne, ne_eq, Nat.reduceEqDiff, not_false_eq_true, h3, h4, xn, e1, e2, e143]
  refine ⟨nbk hx30 (by omega), nbk hx30 (by omega), nbk hx30 (by omega), fun k hk => ?_, rfl, ?_⟩
  · rw [hI_uI_ne (by omega), hI_uI_ne (by omega), hI_uI_ne (by omega), hI_uI_ne (by omega), hI_uI_ne (by omega)]
  · exact ⟨trivial, trivial, trivial, trivial, trivial⟩
theorem wake_r (hN : 1000 ≤ N) (r : Rl n L T hx hm) (haf : hI hm 1 14 = 1) : Wp (f87 N hx) fun x => Wp (f200 N hm) fun y => Rl n L T x y ∧ (∀ j, 10 ≤ j → j < 17 → hI y 1 j = hI hm 1 j) ∧ hR x = hR hx ∧ hI y 1 4 = hI hm 1 4 := by
  obtain ⟨q1, nx, q2, q3, q4⟩ := r.sc.2.2.2.2.2.2.1
  have q1 : hI hx 29 4 = hI hm 1 5 := q1
  have q3 : hI hx 29 3 = nI nx := q3
  obtain ⟨w0, w1, w2⟩ := r.sc.2.2.2.2.2.2.2.2.2.2.2.2.2
  obtain ⟨a0, a1, a2, a3, a4, a5, a6⟩ := r.sc.2.1
  have a0 : hI hx 28 0 = hI hm 1 10 := a0
  have a1 : hI hx 28 1 = hI hm 1 11 := a1
  have a2 : hI hx 28 2 = hI hm 1 12 := a2
  have a3 : hI hx 28 3 = hI hm 1 13 := a3
  have a4 : hI hx 28 4 = hI hm 1 15 := a4
  have a5 : hI hx 28 5 = hI hm 1 16 := a5
  have hc := nI_tn w0
  have hc30 : tn (hI hm 1 5) ≤ 30 := tn_le w1
  generalize hcc : tn (hI hm 1 5) = c at hc hc30 q4 w2
  have cr := (r.sc.2.2.2.2.2.2.2.2.2.2.2.2.1).2.2.2.1
  have sh : NSt n L (fun j => hI hm 1 (10 + j)) := r.sc.2.2.2.2.2.2.2.2.1
  have hc7 : tn (hI hm 1 7) ≤ 60 := tn_le (r.sc.2.2.2.2.2.2.2.2.2.2.2.2.1).2.1
  refine Wp_mono (rem_w (g := hx) (c := c) q3 q2 (by rw [q1, hc]) hc30) (fun x ⟨x1, x2, x3, x4, x5, x6, x7⟩ => ?_)
  refine Wp_mono (keep_w hN hc.symm hc30) (fun y ⟨d, hd, y1, y2, y3, y4, y5⟩ => ?_)
  rw [← hd] at x4
  have d1 : d ≤ 1 ∧ (c = 30 → d = 1) ∧ (c < 30 → d = 0) := by
    by_cases k : c = 30
    · rw [if_pos k] at hd; omega
    · rw [if_neg k] at hd; omega
  have tn5 : tn (hI y 1 5) = c + 1 - d := by rw [y2]; unfold tn; rw [ti_nI (by omega)]; omega
  refine ⟨Rl.now r (Nat.le_refl L) (fun k hk => x1 k (by omega)) x2 (by rw [x1 _ (by omega)]) (fun k hk => y1 k (by omega)) (fun j hj => y3 j (by omega) (by omega)) ?_, fun j h1 h2 => y3 j (by omega) (by omega), x2, y3 4 (by omega) (by omega)⟩
  refine Sc_ship r.sc (fun k h1 h2 => x1 _ (by omega)) (fun j h1 h2 => y3 j (by omega) (by omega)) ?_ ?_ ?_ ?_ (fun j hj => ?_)
  · refine QShip_c r.sc.2.1 (x1 28 (by omega)) (fun j hj => y3 j (by omega) (by omega))
  · refine ⟨x4.trans y2.symm, (nx + 1) % 30, by omega, x3, fun i hi => ?_⟩
    rw [tn5] at hi ⊢
    show hI x 30 _ = _ ∧ hI x 31 _ = _ ∧ hI x 32 _ = _
    rw [x5, x6, x7]
    by_cases ei : i = c - d
    · have e9 : ((nx + 1) % 30 + 30 - (c + 1 - d) + i) % 30 = nx := by omega
      rw [e9, pu_eq, pu_eq, pu_eq, a0, a1, a2, a3, a4, a5]
      have z : ∀ j, j < 7 → hI y 1 (290 + j + 7 * i) = hI hm 1 (10 + j) := fun j hj => by
        have := y4 j hj
        rw [← ei] at this
        rw [← this]; congr 1; omega
      have z0 := z 0 (by omega)
      have z1 := z 1 (by omega)
      have z2 := z 2 (by omega)
      have z3 := z 3 (by omega)
      have z5 := z 5 (by omega)
      have z6 := z 6 (by omega)
      exact ⟨by rw [z0, z1, z2, z3], z5.symm, z6.symm⟩
    · have e9 : ((nx + 1) % 30 + 30 - (c + 1 - d) + i) % 30 = (nx + 30 - c + (i + d)) % 30 := by omega
      have e10 : (nx + 30 - c + (i + d)) % 30 ≠ nx := by omega
      rw [e9, pu_ne e10, pu_ne e10, pu_ne e10]
      have z : ∀ j, j < 7 → hI y 1 (290 + j + 7 * i) = hI hm 1 (290 + j + 7 * (i + d)) := fun j hj => by
        have := y5 i j (by omega) hj
        have u1 : 290 + 7 * i + j = 290 + j + 7 * i := by omega
        have u2 : 290 + 7 * (i + d) + j = 290 + j + 7 * (i + d) := by omega
        rw [u1, u2] at this; exact this
      have g := q4 (i + d) (by omega)
      have z0 := z 0 (by omega)
      have z1 := z 1 (by omega)
      have z2 := z 2 (by omega)
      have z3 := z 3 (by omega)
      have z5 := z 5 (by omega)
      have z6 := z 6 (by omega)
      rw [z0, z1, z2, z3, z5, z6]
      exact g
  · exact NSt_c sh (fun j hj => y3 _ (by omega) (by omega))
  · refine ⟨by rw [y2, ti_nI (by omega)]; omega, by rw [y2, ti_nI (by omega)]; omega, fun i hi => ?_⟩
    rw [tn5] at hi
    rw [y3 7 (by omega) (by omega)]
    have u4 : 294 + 7 * i = 290 + 7 * i + 4 := by omega
    have u6 : 296 + 7 * i = 290 + 7 * i + 6 := by omega
    by_cases ei : i = c - d
    · rw [← ei] at y4
      refine ⟨NSt_c sh (fun j hj => y4 j hj), by rw [u4, y4 4 (by omega)]; exact haf, fun j hj => ?_⟩
      rw [u6, y4 6 (by omega), y3 _ (by omega) (by omega)]
      exact (cr j hj).2
    · obtain ⟨g1, g2, g3⟩ := w2 (i + d) (by omega)
      have v4 : 294 + 7 * (i + d) = 290 + 7 * (i + d) + 4 := by omega
      have v6 : 296 + 7 * (i + d) = 290 + 7 * (i + d) + 6 := by omega
      rw [v4] at g2
      rw [v6] at g3
      refine ⟨NSt_c g1 (fun j hj => y5 i j (by omega) hj), by rw [u4, y5 i 4 (by omega) (by omega)]; exact g2, fun j hj => ?_⟩
      rw [u6, y5 i 6 (by omega) (by omega), y3 _ (by omega) (by omega)]
      exact g3 j hj
  · rw [y3 16 (by omega) (by omega)]; exact (cr j hj).2
end
