/-! ===== leap, aboard ===== -/
section
variable {n L N : Nat} {T : Nat → Tc} {hx hm : Hp}
theorem t3i {i : Nat} (h : i < 60) : ((105 : Int32) + 3 * nI i).toInt = 105 + 3 * i ∧ ((105 : Int32) + 3 * nI i + 1).toInt = 106 + 3 * i ∧ ((105 : Int32) + 3 * nI i + 2).toInt = 107 + 3 * i := by
  have t3 : (3 : Int32).toInt = 3 := rfl
  have t105 : (105 : Int32).toInt = 105 := rfl
  have t1 : (1 : Int32).toInt = 1 := rfl
  have t2 : (2 : Int32).toInt = 2 := rfl
  have ti : (nI i).toInt = (i : Int) := ti_nI (by omega)
  have m1 : ((3 : Int32) * nI i).toInt = 3 * i := by rw [ti_mul (by rw [t3, ti]; omega) (by rw [t3, ti]; omega), t3, ti]
  have m2 : ((105 : Int32) + 3 * nI i).toInt = 105 + 3 * i := by rw [ti_add (by omega) (by omega), m1, t105]
  refine ⟨m2, ?_, ?_⟩
  · rw [ti_add (by omega) (by omega), m2, t1]; omega
  · rw [ti_add (by omega) (by omega), m2, t2]; omega
theorem x3i {i : Nat} (h : i < 60) : ix ((105 : Int32) + 3 * nI i) = 105 + 3 * i ∧ ix ((105 : Int32) + 3 * nI i + 1) = 106 + 3 * i ∧ ix ((105 : Int32) + 3 * nI i + 2) = 107 + 3 * i := by
  obtain ⟨a, b, c⟩ := t3i h
  refine ⟨?_, ?_, ?_⟩
  · rw [ti_ix, a]; omega
  · rw [ti_ix, b]; omega
  · rw [ti_ix, c]; omega
theorem ah_s (a : Nat → Int32) (lap : Int32) (k : Nat) : ah a lap (k + 1) = if a (107 + 3 * k) < lap then (if a (106 + 3 * k) = 1 then ah a lap k ||| ((1 : Int32) <<< (a (105 + 3 * k) &&& 31)) else ah a lap k &&& (((1 : Int32) <<< (a (105 + 3 * k) &&& 31)) ^^^ (-1 : Int32))) else ah a lap k := rfl
theorem ahead_w {h : Hp} (lap : Int32) (hN : 600 ≤ N) {c : Nat} (hc : hI h 1 7 = nI c) (h60 : c ≤ 60) : Wp (f223 N lap h) fun q => q = ah (hI h 1) lap c := by
  have i7 : ix (7 : Int32) = 7 := rfl
  have tc : (nI c).toInt = (c : Int) := ti_nI (by omega)
  unfold f223
  rw [Wp_bind]
  refine Wp_lp (fun m s => ∃ i : Nat, s.2 = nI i ∧ i + m = c ∧ s.1 = ah (hI h 1) lap i) ?_ N c _ (by omega) ⟨0, rfl, by omega, rfl⟩
  rintro m ⟨s1, s2⟩ ⟨i, hs, hi, ha⟩
  dsimp only at hs ha ⊢
  subst hs ha
  have ti : (nI i).toInt = (i : Int) := ti_nI (by omega)
  unfold f223_l4
  dsimp only
  rw [i7, hc]
  by_cases cc : i = c
  · subst cc
    refine Wp_pos (by rw [ti_le]; exact Int.le_refl _) ?_
    rw [Wp_some]
    refine Or.inr ⟨0, rfl, ?_⟩
    rw [Wp_some]
  · refine Wp_neg (by rw [ti_le, tc, ti]; omega) ?_
    obtain ⟨x1, x2, x3⟩ := x3i (i := i) (by omega)
    obtain ⟨y1, y2, y3⟩ := t3i (i := i) (by omega)
    simp only [Wp_gd, Wp_bnd, x1, x2, x3]
    refine ⟨inb_mk (by omega) (by omega), ?_⟩
    have fin : ∀ t, t = ah (hI h 1) lap (i + 1) → Wp (f223_b52 N lap t (nI i) h) fun q => (q.1 = 0 ∧ ∃ m', m' < m ∧ ∃ i : Nat, q.2.2 = nI i ∧ i + m' = c ∧ q.2.1 = ah (hI h 1) lap i) ∨ (∃ e, q.1 = e + 1 ∧ Wp (some q.2.1) fun z => z = ah (hI h 1) lap c) := fun t ht => by
      unfold f223_b52
      simp only [Wp_bnd, Wp_some]
      exact Or.inl ⟨trivial, m - 1, by omega, i + 1, (nI_succ i).symm, by omega, ht⟩
    refine Wp_if (fun c1 => fin _ ?_) (fun c1 => ?_)
    · rw [ah_s, if_neg (by rw [ti_lt]; rw [ti_le] at c1; omega)]
    · have c1' : hI h 1 (107 + 3 * i) < lap := by rw [ti_lt]; rw [ti_le] at c1; omega
      refine Wp_gd.2 ⟨inb_mk (by omega) (by omega), Wp_if (fun c2 => Wp_gd.2 ⟨inb_mk (by omega) (by omega), fin _ ?_⟩) (fun c2 => Wp_gd.2 ⟨inb_mk (by omega) (by omega), fin _ ?_⟩)⟩
      · rw [ah_s, if_pos c1', if_pos c2]
      · rw [ah_s, if_pos c1', if_neg c2]
theorem nI_tn {x : Int32} (h : 0 ≤ x.toInt) : nI (tn x) = x := by
  have := x.toInt_lt
  rw [ti_eq, ti_nI (by unfold tn; omega)]; unfold tn; omega
/-- toggling is joining or leaving -/
theorem tog_or {p x : Int32} (h0 : 0 ≤ x.toInt) (h1 : x.toInt ≤ 9) (hp : f123 p x = 0) : p ^^^ ((1 : Int32) <<< (x &&& 31)) = p ||| ((1 : Int32) <<< (x &&& 31)) := by
  have e := nI_tn h0
  have ht : tn x < 10 := by unfold tn; omega
  rw [← e] at hp ⊢
  refine bt_ext fun k hk => ?_
  rw [bt_xor hk, bt_or hk, bt_one (by omega) hk]
  by_cases c : k = tn x
  · subst c
    have : ¬ bt p (tn x) := bt_n.2 hp
    simp [this]
  · simp [c]
theorem tog_an {p x : Int32} (h0 : 0 ≤ x.toInt) (h1 : x.toInt ≤ 9) (hp : ¬ f123 p x = 0) : p ^^^ ((1 : Int32) <<< (x &&& 31)) = p &&& (((1 : Int32) <<< (x &&& 31)) ^^^ (-1 : Int32)) := by
  have e := nI_tn h0
  have ht : tn x < 10 := by unfold tn; omega
  rw [← e] at hp ⊢
  refine bt_ext fun k hk => ?_
  rw [bt_xor hk, bt_and hk, bt_not hk, bt_one (by omega) hk]
  by_cases c : k = tn x
  · subst c
    have : bt p (tn x) := (bt01 p (nI (tn x))).resolve_left hp
    simp [this]
  · simp [c]
theorem op_leap (p1 p2 : Int32) (hb : p2 = 0 ∨ p2 = 1) (hL : L < 1000000) (hN : 600 ≤ N) (r : Rl n L T hx hm) : Wp (f114 N p1 p2 hx) fun x => Wp (f224 N p1 p2 hm) fun y => x.1 = y.1 ∧ Rl n L T x.2 y.2 := by
  have t0 : (0 : Int32).toInt = 0 := rfl
  have t10 : (10 : Int32).toInt = 10 := rfl
  have t60 : (60 : Int32).toInt = 60 := rfl
  have i5 : ix (5 : Int32) = 5 := rfl
  have i7 : ix (7 : Int32) = 7 := rfl
  have i14 : ix (14 : Int32) = 14 := rfl
  have i16 : ix (16 : Int32) = 16 := rfl
  have a6 : hI hx 28 6 = hI hm 1 14 := r.sc.2.1.2.2.2.2.2.2
  have a5 : hI hx 28 5 = hI hm 1 16 := r.sc.2.1.2.2.2.2.2.1
  obtain ⟨b1, b2, b3⟩ := r.sc.2.2.2.2.2.1
  have b1 : hI hx 37 3 = hI hm 1 7 := b1
  have b2 : hI hx 37 4 = ah (hI hm 1) 1000000 (tn (hI hm 1 7)) := b2
  have b3 : ∀ j, j < 60 → hI hx 38 j = hI hm 1 (105 + 3 * j) ∧ hI hx 39 j = hI hm 1 (107 + 3 * j) ∧ hI hx 40 j = hI hm 1 (106 + 3 * j) := b3
  obtain ⟨w1, nx, w2, w3, w4⟩ := r.sc.2.2.2.2.2.2.1
  obtain ⟨c1, c2, c3, c4, c5, c6⟩ := r.sc.2.2.2.2.2.2.2.2.2.2.2.2.1
  have sh := r.sc.2.2.2.2.2.2.2.2.1
  have sl0 : 0 ≤ (hI hm 1 16).toInt := sh.2.2.2.2.2.2.2.2.2.1
  have sl1 : (hI hm 1 16).toInt ≤ (L : Int) := sh.2.2.2.2.2.2.2.2.2.2
  by_cases d1 : hI hm 1 14 = 0
  · have q : ∀ z, Wp (f224 N p1 p2 hm) z ↔ z (-1, hm) := fun z => by
      unfold f224
      rw [i14]
      by_cases e : f139 p1 0 9 = 0
      · rw [if_pos e, Wp_some]
      · rw [if_neg e, if_pos d1, Wp_some]
    simp only [q, f114, a6, d1, if_true, Wp_some, true_and]
    exact r
  by_cases d2 : 0 ≤ p1.toInt ∧ p1.toInt ≤ 9
  · have e1 : ¬ p1 < 0 := by rw [ti_lt]; omega
    have e2 : p1 < 10 := by rw [ti_lt]; omega
    have e3 : ¬ f139 p1 0 9 = 0 := fun z => i139.1 z d2
    have hn60 : tn (hI hm 1 7) ≤ 60 := tn_le c2
    generalize hc : tn (hI hm 1 7) = c at hn60 b2 c4 c5 c6
    have e4 : hI hm 1 7 = nI c := by rw [← hc, nI_tn c1]
    have tc : (nI c).toInt = (c : Int) := ti_nI (by omega)
    by_cases d3 : hI hm 1 7 = 60
    · have e5 : (60 : Int32) ≤ hI hm 1 7 := by rw [d3]; decide
      have e6 : (hI hm 1 7 = 60) = True := eq_true d3
      have e7 : ((-1 : Int32) = -1) = True := eq_true rfl
      simp only [f114, f224, f27, a6, b1, i7, i14, d1, e1, e2, e3, e5, e6, e7, if_true, if_false, Wp_bind, Wp_some, true_and]
      exact r
    · have e5 : ¬ (60 : Int32) ≤ hI hm 1 7 := by rw [ti_eq, t60] at d3; rw [ti_le, t60]; omega
      have c60 : c < 60 := by rw [ti_eq, t60, e4, tc] at d3; omega
      obtain ⟨q, eq, hq⟩ := ahead_w (N := N) (h := hm) 1000000 hN e4 (by omega)
      subst hq
      by_cases d4 : f123 (ah (hI hm 1) 1000000 c) p1 = p2
      · have e6 : f141 (ah (hI hm 1) 1000000 c) p1 = p2 := by rw [e141]; exact d4
        have e7 : ((-1 : Int32) = -1) = True := eq_true rfl
        simp only [f114, f224, f27, a6, b1, b2, i7, i14, d1, d3, d4, e1, e2, e3, e5, e6, e7, eq, if_true, if_false, Wp_bind, Option.bind_some, Wp_some, true_and]
        exact r
      · have e6 : ¬ f141 (ah (hI hm 1) 1000000 c) p1 = p2 := by rw [e141]; exact d4
        obtain ⟨x1, x2, x3⟩ := x3i (i := c) (by omega)
        obtain ⟨y1, y2, y3⟩ := t3i (i := c) (by omega)
        have xc : ix (nI c) = c := nI_clamp (by omega)
        have n1 : nI c + 1 = nI (c + 1) := nI_1 c
        have n2 : ¬ nI (c + 1) = -1 := by rw [ti_eq, ti_nI (by omega)]; have : (-1 : Int32).toInt = -1 := rfl; omega
        have lt6 : hI hm 1 16 < 1000000 := by rw [ti_lt]; have : (1000000 : Int32).toInt = 1000000 := rfl; omega
        have tog : f123 (ah (hI hm 1) 1000000 c) p1 = 0 ↔ p2 = 1 := by
          rcases bt01 (ah (hI hm 1) 1000000 c) p1 with e | e
          · rw [e] at d4 ⊢
            exact ⟨fun _ => hb.resolve_left (fun z => d4 z.symm), fun _ => rfl⟩
          · rw [e] at d4 ⊢
            exact ⟨fun z => absurd z (by decide), fun z => absurd z.symm d4⟩
        have e5' : ¬ (60 : Int32) ≤ nI c := by rw [← e4]; exact e5
        have d3' : ¬ nI c = 60 := by rw [← e4]; exact d3
        have key : ∀ z : Int32, z = p2 → Wp (f27_b33 N p1 z (nI c) (uI (uI hx 38 c p1) 39 c (hI hm 1 16))) (fun a => Wp (if a.1 = -1 then some (a.1, a.2) else bnd (uI a.2 29 4 0) fun h6 => some (a.1, h6)) fun x => Wp (f224_b49 N (105 + 3 * nI c) z (105 + 3 * nI c + 1) (uI hm 1 (105 + 3 * c) p1)) fun y => x.1 = y.1 ∧ Rl n L T x.2 y.2) := by
          intro z hz
          subst hz
          simp only [f27_b33, f224_b49, Wp_gd, Wp_bnd, Wp_some, xc, x2, x3, i5, i7, i16, hI_uI_eq, hI_uI_ne, pu_eq, pu_ne, b1, b2, e4, n1, n2, if_false, ne_eq, Nat.reduceEqDiff, not_false_eq_true]
          rw [pu_ne (by omega : 16 ≠ 106 + 3 * c), pu_ne (by omega : 16 ≠ 105 + 3 * c), pu_ne (by omega : 7 ≠ 107 + 3 * c), pu_ne (by omega : 7 ≠ 106 + 3 * c), pu_ne (by omega : 7 ≠ 105 + 3 * c), e4, n1]
          refine ⟨inb_mk (by omega) (by omega), inb_mk (by omega) (by omega), inb_mk (by omega) (by omega), rfl, ?_⟩
          generalize hhm : uI (uI (uI (uI (uI hm 1 (105 + 3 * c) p1) 1 (106 + 3 * c) z) 1 (107 + 3 * c) (hI hm 1 16)) 1 7 (nI (c + 1))) 1 5 0 = hm'
          have m0 : ∀ k, k ≠ 1 → hI hm' k = hI hm k := fun k hk => by rw [← hhm, hI_uI_ne hk, hI_uI_ne hk, hI_uI_ne hk, hI_uI_ne hk, hI_uI_ne hk]
          have m1 : ∀ j, j ≠ 5 → j ≠ 7 → j < 105 + 3 * c ∨ 108 + 3 * c ≤ j → hI hm' 1 j = hI hm 1 j := fun j h1 h2 h3 => by
            rw [← hhm, hI_uI_eq, pu_ne h1, hI_uI_eq, pu_ne h2, hI_uI_eq, pu_ne (by omega), hI_uI_eq, pu_ne (by omega), hI_uI_eq, pu_ne (by omega)]
          have m5 : hI hm' 1 5 = 0 := by rw [← hhm, hI_uI_eq, pu_eq]
          have m7 : hI hm' 1 7 = nI (c + 1) := by rw [← hhm, hI_uI_eq, pu_ne (by omega), hI_uI_eq, pu_eq]
          have ma : hI hm' 1 (105 + 3 * c) = p1 := by rw [← hhm, hI_uI_eq, pu_ne (by omega), hI_uI_eq, pu_ne (by omega), hI_uI_eq, pu_ne (by omega), hI_uI_eq, pu_ne (by omega), hI_uI_eq, pu_eq]
          have mb : hI hm' 1 (106 + 3 * c) = z := by rw [← hhm, hI_uI_eq, pu_ne (by omega), hI_uI_eq, pu_ne (by omega), hI_uI_eq, pu_ne (by omega), hI_uI_eq, pu_eq]
          have mc : hI hm' 1 (107 + 3 * c) = hI hm 1 16 := by rw [← hhm, hI_uI_eq, pu_ne (by omega), hI_uI_eq, pu_ne (by omega), hI_uI_eq, pu_eq]
          have mah : ∀ k, k ≤ c → ah (hI hm' 1) 1000000 k = ah (hI hm 1) 1000000 k := fun k hk => ah_c k (fun j h1 h2 => m1 j (by omega) (by omega) (by omega))
          have tn7 : tn (hI hm' 1 7) = c + 1 := by rw [m7]; unfold tn; rw [ti_nI (by omega)]; omega
          have tn5 : tn (hI hm' 1 5) = 0 := by rw [m5]; rfl
          refine Rl.now r (Nat.le_refl L) (fun k hk => ?_) rfl ?_ (fun k hk => m0 k (by omega)) (fun j hj => m1 j (by omega) (by omega) (by omega)) ?_
          · rw [hI_uI_ne (by omega), hI_uI_ne (by omega), hI_uI_ne (by omega), hI_uI_ne (by omega), hI_uI_ne (by omega), hI_uI_ne (by omega)]
          · rw [hI_uI_ne (by omega), hI_uI_ne (by omega), hI_uI_ne (by omega), hI_uI_ne (by omega), hI_uI_ne (by omega), hI_uI_ne (by omega)]
          · refine Sc_crew r.sc (fun k h1 h2 h3 => ?_) (fun j h1 h2 => m1 j (by omega) (by omega) (by omega)) ⟨?_, ?_, fun j hj => ?_⟩ ⟨?_, ?_, fun j hj => ?_, fun j hj => ?_, fun i j hi hj => ?_, fun j hj => ?_⟩ ⟨?_, nx, w2, ?_, fun i hi => ?_⟩ ⟨?_, ?_, fun i hi => ?_⟩
            · rw [hI_uI_ne (by omega), hI_uI_ne (by omega), hI_uI_ne (by omega), hI_uI_ne (by omega), hI_uI_ne (by omega), hI_uI_ne (by omega)]
            · rw [m7]; simp [hI_uI_ne, hI_uI_eq, pu_eq, pu_ne]
            · rw [tn7, ah_s, ma, mb, mc, mah c (Nat.le_refl c), if_pos lt6]
              have g : (fun k => hI (uI (uI (uI (uI (uI (uI hx 38 c p1) 39 c (hI hm 1 16)) 40 c z) 37 3 (nI (c + 1))) 37 4 (ah (hI hm 1) 1000000 c ^^^ 1 <<< (p1 &&& 31))) 29 4 0) (27 + k)) 10 4 = ah (hI hm 1) 1000000 c ^^^ 1 <<< (p1 &&& 31) := by
                simp [hI_uI_ne, hI_uI_eq, pu_eq]
              rw [g]
              by_cases hz1 : z = 1
              · rw [if_pos hz1]; exact tog_or d2.1 d2.2 (tog.2 hz1)
              · rw [if_neg hz1]; exact tog_an d2.1 d2.2 (fun u => hz1 (tog.1 u))
            · obtain ⟨g1, g2, g3⟩ := b3 j hj
              by_cases e : j = c
              · subst e
                rw [ma, mb, mc]
                simp [hI_uI_ne, hI_uI_eq, pu_eq]
              · rw [m1 _ (by omega) (by omega) (by omega), m1 _ (by omega) (by omega) (by omega), m1 _ (by omega) (by omega) (by omega)]
                simp only [hI_uI_ne, hI_uI_eq, ne_eq, Nat.reduceEqDiff, Nat.reduceAdd, not_false_eq_true]
                rw [pu_ne e, pu_ne e, pu_ne e]
                exact b3 j hj
            · rw [m7, ti_nI (by omega)]; omega
            · rw [m7, ti_nI (by omega)]; omega
            · by_cases e : j = c
              · subst e
                rw [ma, mb]
                exact ⟨d2.1, d2.2, hb⟩
              · rw [m1 _ (by omega) (by omega) (by omega), m1 _ (by omega) (by omega) (by omega)]; exact c3 j hj
            · rw [tn7] at hj
              rw [m1 16 (by omega) (by omega) (by omega)]
              by_cases e : j = c
              · subst e
                rw [mc]; exact ⟨sl0, Int.le_refl _⟩
              · rw [m1 _ (by omega) (by omega) (by omega)]; exact c4 j (by omega)
            · rw [tn7] at hj
              by_cases e : j = c
              · subst e
                rw [mc, m1 _ (by omega) (by omega) (by omega)]; exact (c4 i (by omega)).2
              · rw [m1 _ (by omega) (by omega) (by omega), m1 _ (by omega) (by omega) (by omega)]; exact c5 i j hi (by omega)
            · rw [tn7] at hj
              by_cases e : j = c
              · subst e
                rw [ma, mb, mah _ (Nat.le_refl _)]; exact tog
              · rw [m1 _ (by omega) (by omega) (by omega), m1 _ (by omega) (by omega) (by omega), mah _ (by omega)]; exact c6 j (by omega)
            · rw [m5]; simp [hI_uI_eq, pu_eq]
            · have w3 : hI hx 29 3 = nI nx := w3
              simp [hI_uI_ne, hI_uI_eq, pu_ne, w3]
            · rw [tn5] at hi; omega
            · rw [m5]; decide
            · rw [m5]; decide
            · rw [tn5] at hi; omega
        have ps : ∀ (x : Int32) z, Wp (if p2 = 0 then (f27_b33 N p1 0 x z) else f27_b33 N p1 1 x z) = Wp (f27_b33 N p1 p2 x z) := fun x z => by
          rcases hb with e | e
          · rw [if_pos e, e]
          · rw [if_neg (by rw [e]; decide), e]
        have pm : ∀ (x y : Int32) z, Wp (if p2 = 0 then (f224_b49 N x 0 y z) else f224_b49 N x 1 y z) = Wp (f224_b49 N x p2 y z) := fun x y z => by
          rcases hb with e | e
          · rw [if_pos e, e]
          · rw [if_neg (by rw [e]; decide), e]
        simp only [f114, f224, f27, a5, a6, b1, b2, i7, i14, d1, d3', d4, e1, e2, e3, e4, e5', e6, xc, x1, eq, ps, pm, if_true, if_false, Wp_bind, Wp_bnd, Wp_gd, Option.bind_some, Wp_some, hI_uI_ne, ne_eq, Nat.reduceEqDiff, not_false_eq_true]
        refine ⟨inb_mk (by omega) (by omega), inb_mk (by omega) (by omega), ?_⟩
        refine Wp_mono (key p2 rfl) (fun a ha => Wp_mono ha (fun x hx => ⟨inb_mk (by omega) (by omega), hx⟩))
  · have e3 : f139 p1 0 9 = 0 := i139.2 d2
    by_cases e1 : p1 < 0
    · simp only [f114, f224, a6, d1, e1, e3, if_true, if_false, Wp_some, true_and]
      exact r
    · have e2 : ¬ p1 < 10 := by rw [ti_lt] at e1 ⊢; omega
      simp only [f114, f224, a6, d1, e1, e2, e3, if_true, if_false, Wp_some, true_and]
      exact r
end
