/-! ===== aboard ===== -/
section
variable {n L N : Nat} {T : Nat → Tc} {hx hm : Hp}
/-- those who come in that lap, those who leave in it -/
def cmr (a : Nat → Int32) (v : Int32) (lap : Int32) : Nat → Int32
  | 0 => 0
  | k + 1 => if a (107 + 3 * k) = lap ∧ a (106 + 3 * k) = v then cmr a v lap k ||| ((1 : Int32) <<< (a (105 + 3 * k) &&& 31)) else cmr a v lap k
theorem cmr_s (a : Nat → Int32) (v lap : Int32) (k : Nat) : cmr a v lap (k + 1) = if a (107 + 3 * k) = lap ∧ a (106 + 3 * k) = v then cmr a v lap k ||| ((1 : Int32) <<< (a (105 + 3 * k) &&& 31)) else cmr a v lap k := rfl
theorem cmr_stop {a : Nat → Int32} {v lap : Int32} {i : Nat} : ∀ k, (∀ j, i ≤ j → j < i + k → ¬ a (107 + 3 * j) = lap) → cmr a v lap (i + k) = cmr a v lap i
  | 0, _ => rfl
  | k + 1, h => by
    show cmr a v lap (i + k + 1) = _
    rw [cmr_s, if_neg (fun z => h (i + k) (by omega) (by omega) z.1), cmr_stop k (fun j h1 h2 => h j h1 (by omega))]
theorem ah_stop {a : Nat → Int32} {lap : Int32} {i : Nat} : ∀ k, (∀ j, i ≤ j → j < i + k → ¬ a (107 + 3 * j) < lap) → ah a lap (i + k) = ah a lap i
  | 0, _ => rfl
  | k + 1, h => by
    show ah a lap (i + k + 1) = _
    rw [ah_s, if_neg (h (i + k) (by omega) (by omega)), ah_stop k (fun j h1 h2 => h j h1 (by omega))]
theorem ah_pre {a : Nat → Int32} {lap lap' : Int32} : ∀ k, (∀ j, j < k → a (107 + 3 * j) < lap) → (∀ j, j < k → a (107 + 3 * j) < lap') → ah a lap k = ah a lap' k
  | 0, _, _ => rfl
  | k + 1, h1, h2 => by
    rw [ah_s, ah_s, if_pos (h1 k (by omega)), if_pos (h2 k (by omega)), ah_pre k (fun j hj => h1 j (by omega)) (fun j hj => h2 j (by omega))]
theorem op_aboard (p1 p2 : Int32) (hb : p2 = 0 ∨ p2 = 1) (hL : L < 1000000) (hN : 600 ≤ N) (r : Rl n L T hx hm) : Wp (f115 N p1 p2 hx) fun x => Wp (f225 N p1 p2 hm) fun y => x = y := by
  have t0 : (0 : Int32).toInt = 0 := rfl
  have i7 : ix (7 : Int32) = 7 := rfl
  have i16 : ix (16 : Int32) = 16 := rfl
  have t6 : (1000000 : Int32).toInt = 1000000 := rfl
  have a5 : hI hx 28 5 = hI hm 1 16 := r.sc.2.1.2.2.2.2.2.1
  obtain ⟨b1, b2, b3⟩ := r.sc.2.2.2.2.2.1
  have b1 : hI hx 37 3 = hI hm 1 7 := b1
  have b2 : hI hx 37 4 = ah (hI hm 1) 1000000 (tn (hI hm 1 7)) := b2
  have b3 : ∀ j, j < 60 → hI hx 38 j = hI hm 1 (105 + 3 * j) ∧ hI hx 39 j = hI hm 1 (107 + 3 * j) ∧ hI hx 40 j = hI hm 1 (106 + 3 * j) := b3
  obtain ⟨c1, c2, c3, c4, c5, c6⟩ := r.sc.2.2.2.2.2.2.2.2.2.2.2.2.1
  have sl1 : (hI hm 1 16).toInt ≤ (L : Int) := r.sc.2.2.2.2.2.2.2.2.1.2.2.2.2.2.2.2.2.2.2
  have hn60 : tn (hI hm 1 7) ≤ 60 := tn_le c2
  generalize hc : tn (hI hm 1 7) = c at hn60 b2 c4 c5 c6
  have e4 : hI hm 1 7 = nI c := by rw [← hc, nI_tn c1]
  have tc : (nI c).toInt = (c : Int) := ti_nI (by omega)
  by_cases d1 : p1 = -1
  · obtain ⟨q, eq, hq⟩ := ahead_w (N := N) (h := hm) 1000000 hN e4 (by omega)
    simp only [f115, f225, d1, eq, if_true, Option.bind_some, Wp_some]
    rw [hq]; exact b2
  by_cases d2 : 0 ≤ p1.toInt ∧ p1.toInt ≤ (hI hm 1 16).toInt
  · have e1 : ¬ p1 < 0 := by rw [ti_lt]; omega
    have e2 : p1 ≤ hI hm 1 16 := by rw [ti_le]; omega
    have e3 : ¬ f139 p1 0 (hI hm 1 16) = 0 := fun z => i139.1 z d2
    obtain ⟨q, eq, hq⟩ := ahead_w (N := N) (h := hm) p1 hN e4 (by omega)
    subst hq
    simp only [f115, f225, a5, i16, d1, e1, e2, e3, eq, if_true, if_false, Option.bind_some, Wp_bind, Wp_some]
    -- the class
    have X : Wp (f28 N p1 p2 hx) fun x => x = if p2 = 0 then ah (hI hm 1) p1 c ||| cmr (hI hm 1) 1 p1 c else ah (hI hm 1) p1 c &&& (cmr (hI hm 1) 0 p1 c ^^^ (-1 : Int32)) := by
      have K : Wp (lp (f28_l8 N p1 p2 hx) N ((0 : Int32), (0 : Int32), (0 : Int32), (0 : Int32))) fun q => q.2.1 = ah (hI hm 1) p1 c ∧ q.2.2.1 = cmr (hI hm 1) 1 p1 c ∧ q.2.2.2.1 = cmr (hI hm 1) 0 p1 c := by
        refine Wp_lp (fun m s => ∃ i : Nat, s.2.2.2 = nI i ∧ i + m = c ∧ s.1 = ah (hI hm 1) p1 i ∧ s.2.1 = cmr (hI hm 1) 1 p1 i ∧ s.2.2.1 = cmr (hI hm 1) 0 p1 i) ?_ N c _ (by omega) ⟨0, rfl, by omega, rfl, rfl, rfl⟩
        rintro m ⟨s1, s2, s3, s4⟩ ⟨i, hs, hi, ha1, ha2, ha3⟩
        dsimp only at hs ha1 ha2 ha3 ⊢
        subst hs ha1 ha2 ha3
        have ti : (nI i).toInt = (i : Int) := ti_nI (by omega)
        have xi : ix (nI i) = i := nI_clamp (by omega)
        unfold f28_l8
        dsimp only
        rw [b1, e4]
        by_cases cc : i = c
        · subst cc
          refine Wp_pos (by rw [ti_le]; exact Int.le_refl _) ?_
          rw [Wp_some]
          exact Or.inr ⟨0, rfl, rfl, rfl, rfl⟩
        · refine Wp_neg (by rw [ti_le, tc, ti]; omega) (Wp_gd.2 ⟨inb_mk (by omega) (by omega), ?_⟩)
          obtain ⟨g1, g2, g3⟩ := b3 i (by omega)
          rw [xi, g1, g2, g3]
          refine Wp_if (fun k1 => ?_) (fun k1 => ?_)
          · rw [Wp_some]
            rw [ti_lt] at k1
            have kk : ∀ j, i ≤ j → j < i + (c - i) → p1.toInt < (hI hm 1 (107 + 3 * j)).toInt := fun j h1 h2 => by
              by_cases e : j = i
              · subst e; exact k1
              · have := c5 i j (by omega) (by omega); omega
            have ec : i + (c - i) = c := by omega
            refine Or.inr ⟨0, rfl, ?_, ?_, ?_⟩
            · have := ah_stop (a := hI hm 1) (lap := p1) (i := i) (c - i) (fun j h1 h2 => by rw [ti_lt]; have := kk j h1 h2; omega)
              rw [ec] at this; exact this.symm
            · have := cmr_stop (a := hI hm 1) (v := 1) (lap := p1) (i := i) (c - i) (fun j h1 h2 => by rw [ti_eq]; have := kk j h1 h2; omega)
              rw [ec] at this; exact this.symm
            · have := cmr_stop (a := hI hm 1) (v := 0) (lap := p1) (i := i) (c - i) (fun j h1 h2 => by rw [ti_eq]; have := kk j h1 h2; omega)
              rw [ec] at this; exact this.symm
          · rw [ti_lt] at k1
            have ci := (c4 i (by omega)).2
            obtain ⟨u1, u2, u3⟩ := c3 i (by omega)
            simp only [Wp_gd, Wp_bnd, Wp_ite, f28_b51, Wp_some]
            refine ⟨inb_mk (by omega) (by omega), inb_mk (by omega) (by omega), fun k2 => ⟨inb_mk (by omega) (by omega), fun k3 => ?_, fun k3 => ?_⟩, fun k2 => ?_⟩
            · rw [ti_le] at k2
              have ke : hI hm 1 (107 + 3 * i) = p1 := by rw [ti_eq]; omega
              refine Or.inl ⟨trivial, m - 1, by omega, i + 1, (nI_succ i).symm, by omega, ?_, ?_, ?_⟩
              · rw [ah_s, if_neg (by rw [ti_lt]; omega)]
              · rw [cmr_s, if_pos ⟨ke, k3⟩]
              · rw [cmr_s, if_neg (fun z => by rw [k3] at z; exact absurd z.2 (by decide))]
            · rw [ti_le] at k2
              have ke : hI hm 1 (107 + 3 * i) = p1 := by rw [ti_eq]; omega
              refine Or.inl ⟨trivial, m - 1, by omega, i + 1, (nI_succ i).symm, by omega, ?_, ?_, ?_⟩
              · rw [ah_s, if_neg (by rw [ti_lt]; omega)]
              · rw [cmr_s, if_neg (fun z => k3 z.2)]
              · rw [cmr_s, if_pos ⟨ke, u3.resolve_right k3⟩]
            · rw [ti_le] at k2
              have kl : hI hm 1 (107 + 3 * i) < p1 := by rw [ti_lt]; omega
              have ke : ¬ hI hm 1 (107 + 3 * i) = p1 := by rw [ti_eq]; omega
              have kp : ah (hI hm 1) p1 i = ah (hI hm 1) 1000000 i := by
                have kj : ∀ j, j < i → (hI hm 1 (107 + 3 * j)).toInt < p1.toInt := fun j hj => by
                  have := c5 j i hj (by omega); omega
                exact ah_pre i (fun j hj => by rw [ti_lt]; exact kj j hj) (fun j hj => by rw [ti_lt, t6]; have := kj j hj; omega)
              refine Or.inl ⟨trivial, m - 1, by omega, i + 1, (nI_succ i).symm, by omega, ?_, ?_, ?_⟩
              · rw [ah_s, if_pos kl]
                have k6 := c6 i (by omega)
                rw [← kp] at k6
                by_cases kz : hI hm 1 (106 + 3 * i) = 1
                · rw [if_pos kz]; exact tog_or u1 u2 (k6.2 kz)
                · rw [if_neg kz]; exact tog_an u1 u2 (fun u => kz (k6.1 u))
              · rw [cmr_s, if_neg (fun z => ke z.1)]
              · rw [cmr_s, if_neg (fun z => ke z.1)]
      unfold f28
      rw [Wp_bind]
      refine Wp_mono K (fun q ⟨h1, h2, h3⟩ => ?_)
      rw [h1, h2, h3]
      by_cases e : p2 = 0
      · rw [if_pos e, if_pos e, Wp_some]
      · rw [if_neg e, if_neg e, Wp_some]
    -- the reference
    have Y : Wp (lp (f225_l23 N p1 p2 hm) N (ah (hI hm 1) p1 c, (0 : Int32))) fun q => q.2.1 = if p2 = 0 then ah (hI hm 1) p1 c ||| cmr (hI hm 1) 1 p1 c else ah (hI hm 1) p1 c &&& (cmr (hI hm 1) 0 p1 c ^^^ (-1 : Int32)) := by
      refine Wp_lp (fun m s => ∃ i : Nat, s.2 = nI i ∧ i + m = c ∧ s.1 = if p2 = 0 then ah (hI hm 1) p1 c ||| cmr (hI hm 1) 1 p1 i else ah (hI hm 1) p1 c &&& (cmr (hI hm 1) 0 p1 i ^^^ (-1 : Int32))) ?_ N c _ (by omega) ⟨0, rfl, by omega, ?_⟩
      · rintro m ⟨s1, s2⟩ ⟨i, hs, hi, ha1⟩
        dsimp only at hs ha1 ⊢
        subst hs
        have ti : (nI i).toInt = (i : Int) := ti_nI (by omega)
        unfold f225_l23
        dsimp only
        rw [i7, e4]
        by_cases cc : i = c
        · subst cc
          refine Wp_pos (by rw [ti_le]; exact Int.le_refl _) ?_
          rw [Wp_some]
          exact Or.inr ⟨0, rfl, ha1⟩
        · refine Wp_neg (by rw [ti_le, tc, ti]; omega) ?_
          obtain ⟨x1, x2, x3⟩ := x3i (i := i) (by omega)
          obtain ⟨y1, y2, y3⟩ := t3i (i := i) (by omega)
          obtain ⟨u1, u2, u3⟩ := c3 i (by omega)
          simp only [Wp_gd, Wp_bnd, Wp_ite, f225_b64, f225_b83, Wp_some, x1, x2, x3]
          have fin : ∀ t : Int32, (t = if p2 = 0 then ah (hI hm 1) p1 c ||| cmr (hI hm 1) 1 p1 (i + 1) else ah (hI hm 1) p1 c &&& (cmr (hI hm 1) 0 p1 (i + 1) ^^^ (-1 : Int32))) → (True ∧ ∃ m', m' < m ∧ ∃ k : Nat, nI i + 1 = nI k ∧ k + m' = c ∧ t = if p2 = 0 then ah (hI hm 1) p1 c ||| cmr (hI hm 1) 1 p1 k else ah (hI hm 1) p1 c &&& (cmr (hI hm 1) 0 p1 k ^^^ (-1 : Int32))) := fun t ht => ⟨trivial, m - 1, by omega, i + 1, (nI_succ i).symm, by omega, ht⟩
          refine ⟨inb_mk (by omega) (by omega), fun k1 => ⟨fun k2 => ⟨fun _ => ⟨inb_mk (by omega) (by omega), fun k3 => ⟨inb_mk (by omega) (by omega), Or.inl (fin _ ?_)⟩, fun k3 => Or.inl (fin _ ?_)⟩, fun z => absurd k2 z⟩, fun k2 => ⟨inb_mk (by omega) (by omega), fun k3 => ⟨inb_mk (by omega) (by omega), fun z => absurd z k2, fun _ => Or.inl (fin _ ?_)⟩, fun k3 => ⟨fun z => absurd z k2, fun _ => Or.inl (fin _ ?_)⟩⟩⟩, fun k1 => Or.inl (fin _ ?_)⟩
          · rw [if_pos k2] at ha1 ⊢
            rw [ha1, cmr_s, if_pos ⟨k1, k3⟩, Int32.or_assoc]
          · rw [if_pos k2] at ha1 ⊢
            rw [ha1, cmr_s, if_neg (fun z => k3 z.2)]
          · rw [if_neg k2] at ha1 ⊢
            rw [ha1, cmr_s, if_pos ⟨k1, k3⟩]
            refine bt_ext fun k hk => ?_
            rw [bt_and hk, bt_and hk, bt_and hk, bt_not hk, bt_not hk, bt_not hk, bt_or hk]
            constructor
            · rintro ⟨⟨v1, v2⟩, v3⟩
              exact ⟨v1, fun z => z.elim v2 v3⟩
            · rintro ⟨v1, v2⟩
              exact ⟨⟨v1, fun z => v2 (Or.inl z)⟩, fun z => v2 (Or.inr z)⟩
          · rw [if_neg k2] at ha1 ⊢
            rw [ha1, cmr_s, if_neg (fun z => k3 z.2)]
          · have k5 : ∀ v, cmr (hI hm 1) v p1 (i + 1) = cmr (hI hm 1) v p1 i := fun v => by rw [cmr_s, if_neg (fun z => k1 z.1)]
            rw [ha1, k5, k5]
      · by_cases e : p2 = 0
        · rw [if_pos e]
          refine bt_ext fun k hk => ?_
          rw [bt_or hk]
          exact ⟨Or.inl, fun z => z.elim id (fun z => absurd z (bt_0 hk))⟩
        · rw [if_neg e]
          refine bt_ext fun k hk => ?_
          rw [bt_and hk, bt_not hk]
          exact ⟨fun z => ⟨z, bt_0 hk⟩, fun z => z.1⟩
    refine Wp_mono X (fun x hx => Wp_mono Y (fun y hy => ?_))
    rw [hx, hy]
  · have e3 : f139 p1 0 (hI hm 1 16) = 0 := i139.2 d2
    by_cases e1 : p1 < 0
    · simp only [f115, f225, i16, d1, e1, e3, if_true, if_false, Wp_some]
    · have e2 : ¬ p1 ≤ hI hm 1 16 := by rw [ti_lt] at e1; rw [ti_le]; omega
      simp only [f115, f225, a5, i16, d1, e1, e2, e3, if_true, if_false, Wp_some]
end
