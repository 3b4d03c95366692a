/-! ===== sail: a step of both loops ===== -/
section
variable {n L N : Nat} {T : Nat → Tc}
def JS (n L : Nat) (T : Nat → Tc) (C : Nat) (m : Nat) (s : Int32 × Int32 × Int32 × Hp) (t : Int32 × Int32 × Hp) : Prop := ∃ i X : Nat, i + m = C ∧ X < 60000 ∧ s.1 = nI X ∧ t.1 = nI X ∧ s.2.1 = nI i ∧ s.2.2.1 = nI i ∧ t.2.1 = nI i ∧ Rl n (L + i) T s.2.2.2 t.2.2 ∧ RF s.2.2.2 ∧ hI t.2.2 1 4 = nI C
def QS (n L : Nat) (T : Nat → Tc) (q : Nat × (Int32 × Int32 × Int32 × Hp)) (q' : Nat × (Int32 × Int32 × Hp)) : Prop := q.2.2.1 = (if q'.1 = 0 then q'.2.2.1 else hI q'.2.2.2 1 4) ∧ Rl n (L + 24) T q.2.2.2.2 q'.2.2.2
theorem sail_step {C : Nat} (hN : 1000 ≤ N) (hL : L + 24 < 1000000) (hC : C ≤ 24) (m : Nat) (s : Int32 × Int32 × Int32 × Hp) (t : Int32 × Int32 × Hp) (hJ : JS n L T C m s t) : (∃ s1 t1, f103_l17 N s = some (0, s1) ∧ f204_l15 N t = some (0, t1) ∧ ∃ m', m' < m ∧ JS n L T C m' s1 t1) ∨ (∃ e s1 e' t1, f103_l17 N s = some (e + 1, s1) ∧ f204_l15 N t = some (e' + 1, t1) ∧ QS n L T (e, s1) (e', t1)) := by
  obtain ⟨sx, sh, si, h⟩ := s
  obtain ⟨tx, ti, g⟩ := t
  obtain ⟨i, X, hi, hX, e1, e2, e3, e4, e5, r, rf, h4⟩ := hJ
  dsimp only at e1 e2 e3 e4 e5 r rf h4
  subst e1 e2 e3 e4 e5
  have i4 : ix (4 : Int32) = 4 := rfl
  have i14 : ix (14 : Int32) = 14 := rfl
  have q1 : hI h 33 1 = nI C := by
    have : hI h 33 1 = hI g 1 4 := r.sc.2.2.2.1.1
    rw [this, h4]
  have a6 : hI h 28 6 = hI g 1 14 := r.sc.2.1.2.2.2.2.2.2
  have tC : (nI C).toInt = (C : Int) := ti_nI (by omega)
  have tI : (nI i).toInt = (i : Int) := ti_nI (by omega)
  by_cases c1 : i = C
  · have k : nI C ≤ nI i := by rw [c1, ti_le]; exact Int.le_refl _
    refine Or.inr ⟨1, (nI X, nI i, nI i, h), 1, (nI X, nI i, g), ?_, ?_, ?_, r.mono (by omega)⟩
    · unfold f103_l17; dsimp only; rw [q1, if_pos k]
    · unfold f204_l15; dsimp only; rw [i4, h4, if_pos k]
    · show nI i = if (1 : Nat) = 0 then _ else hI g 1 4
      rw [if_neg (by decide), h4, c1]
  · have k : ¬ nI C ≤ nI i := by rw [ti_le, tC, tI]; omega
    by_cases c2 : hI g 1 14 = 0
    · refine Or.inr ⟨1, (nI X, nI i, nI i, h), 0, (nI X, nI i, g), ?_, ?_, ?_, r.mono (by omega)⟩
      · unfold f103_l17; dsimp only; rw [q1, if_neg k, a6, if_pos c2]
      · unfold f204_l15; dsimp only; rw [i4, h4, if_neg k, i14, if_pos c2]
      · show nI i = if (0 : Nat) = 0 then nI i else _
        rw [if_pos rfl]
    · have u := r.sc.2.2.2.2.2.2.2.2.1
      obtain ⟨u1, u2, u3, u4, u5, u6, u7, u8, u9, u10, u11⟩ := u
      dsimp only [Nat.reduceAdd] at u1 u2 u5 u6 u9
      have haf := u9.resolve_left c2
      have a2 : hI h 28 2 = hI g 1 12 := r.sc.2.1.2.2.1
      have e12 := nI_tn (x := hI g 1 12) u5
      have b12 : tn (hI g 1 12) < 8 := by unfold tn; omega
      have e10 := nI_tn (x := hI g 1 10) u1
      have b10 : tn (hI g 1 10) < 3 := by unfold tn; omega
      have w43 : ∀ j, j < 8 → hI h 43 j = hI g 1 (20 + j) := r.sc.1.2.2.2
      obtain ⟨_, _, ws⟩ := r.sc.2.2.2.2.2.2.2.1
      obtain ⟨w1, w2⟩ := ws _ b12
      have eS := nI_tn (x := hI g 1 (20 + tn (hI g 1 12))) (by omega)
      have bS : 1 ≤ tn (hI g 1 (20 + tn (hI g 1 12))) ∧ tn (hI g 1 (20 + tn (hI g 1 12))) < 16 := by
        generalize hI g 1 (20 + tn (hI g 1 12)) = z at w1 w2
        unfold tn; omega
      have q7 : ∀ j, j < 24 → hI h 34 j = hI g 1 (66 + j) := r.sc.2.2.2.1.2
      obtain ⟨_, _, cs⟩ := r.sc.2.2.2.2.2.2.2.2.2.2.1
      obtain ⟨c3, c4⟩ := cs i (by omega)
      have eK := nI_tn (x := hI g 1 (66 + i)) c3
      have bK : tn (hI g 1 (66 + i)) < 12 := by unfold tn; omega
      generalize tn (hI g 1 (66 + i)) = K at eK bK
      generalize hS : tn (hI g 1 (20 + tn (hI g 1 12))) = S at eS bS
      obtain ⟨p1, p2, p3⟩ := bc_x S bS.2 bS.1
      have tp : (nI (pc S)).toInt = (pc S : Int) := ti_nI (by omega)
      have hb : X % pc S < pc S := Nat.mod_lt _ (by omega)
      have rm : irem (nI X) (nI (pc S)) = nI (X % pc S) := pk_rem (by omega) (by omega) (by omega)
      have x' : irem (nI X * 151 + 29) 30097 = nI ((X * 151 + 29) % 30097) := by
        show irem (nI X * nI 151 + nI 29) (nI 30097) = _
        rw [pk_mul, nI_add]
        exact pk_rem (by omega) (by omega) (by omega)
      obtain ⟨nb, nbt⟩ := nth_x S bS.2 bS.1 (X % pc S) (by omega) hb
      have pz : ¬ nI (pc S) = 0 := by rw [ti_eq, tp]; show ¬ _ = (0 : Int); omega
      have xi : ix (nI i) = i := nix (by omega)
      have v66 : (66 : Int32) + nI i = nI (66 + i) := nI_add 66 i
      have v20 : (20 : Int32) + hI g 1 12 = nI (20 + tn (hI g 1 12)) := by
        have := nI_add 20 (tn (hI g 1 12))
        rw [e12] at this; exact this
      obtain ⟨x, ex, y, ey, hxy, r2, hr2, h42, hiff, hfx⟩ := go_r (N := N) (c := K) (w := nth S (X % pc S)) hN (by omega) r rf haf bK nb (by rw [← eS]; exact nbt)
      have B1 : f103_l17 N (nI X, nI i, nI i, h) = if x.1 = -1 then some (1, (nI ((X * 151 + 29) % 30097), nI i, nI i, x.2)) else some (0, (nI ((X * 151 + 29) % 30097), nI (i + 1), nI (i + 1), x.2)) := by
        unfold f103_l17
        dsimp only
        rw [q1, if_neg k, a6, if_neg c2, a2, gd_pos (inb_mk u5 (by omega)), ixt, w43 _ b12, ← eS]
        have ib : inb (nI i) 24 := nbk (by omega) (by omega)
        have q7i : hI h 34 i = nI K := by rw [q7 i (by omega), ← eK]
        simp only [bnd, p1, rm, x', xi, q7i, bfl_w hN bS.2 bS.1 hb, gd_pos pz, gd_pos ib, Option.bind_some, ex, nI_1]
      have ib6 : inb (nI (66 + i)) 500 := nbk (by omega) (by omega)
      have ib2 : inb (nI (20 + tn (hI g 1 12))) 500 := nbk (by omega) (by omega)
      have i10 : ix (10 : Int32) = 10 := rfl
      have i12 : ix (12 : Int32) = 12 := rfl
      have x66 : ix (nI (66 + i)) = 66 + i := nix (by omega)
      have x20 : ix (nI (20 + tn (hI g 1 12))) = 20 + tn (hI g 1 12) := nix (by omega)
      have ln : (hI g 1 10 + hI g 1 (66 + i) / 4 - 1).toInt = (tn (hI g 1 10) : Int) + (K / 4 : Nat) - 1 := by
        have := nI_lane (tn (hI g 1 10)) (K / 4) (by omega) (by omega)
        rw [e10, ← (nI_div4 K (by omega)).1, eK] at this; exact this
      have W := ws_w (N := N) (h := g) (x2 := nI ((X * 151 + 29) % 30097)) (x3 := nI i) hN bS.2 bS.1 hb e12.symm b12 (by rw [← eS])
      obtain ⟨z, ez, hz⟩ := W
      by_cases hln : 1 ≤ tn (hI g 1 10) + K / 4 ∧ tn (hI g 1 10) + K / 4 ≤ 3
      · have hne : ¬ x.1 = -1 := fun q => (hiff.1 q) hln
        have d9 : ¬ f139 (hI g 1 10 + hI g 1 (66 + i) / 4 - 1) 0 2 = 0 := fun q => i139.1 q ⟨by rw [ln]; show (0 : Int) ≤ _; omega, by rw [ln]; show _ ≤ (2 : Int); omega⟩
        refine Or.inl ⟨_, (nI ((X * 151 + 29) % 30097), nI (i + 1), y.2), by rw [B1, if_neg hne], ?_, m - 1, by omega, i + 1, (X * 151 + 29) % 30097, by omega, by omega, rfl, rfl, rfl, rfl, rfl, r2, fun c j q hq => by rw [hr2]; exact rf c j q hq, by rw [h42, h4]⟩
        have d9 : ¬ f139 (hI g 1 10 + nI K / 4 - 1) 0 2 = 0 := by rw [eK]; exact d9
        unfold f204_l15
        dsimp only
        simp only [i4, i10, i12, i14, h4, k, c2, v66, v20, x66, x20, d9, gd_pos ib6, gd_pos ib2, if_false, ← eS, bits_w hN bS.2 bS.1, Option.bind_some, gd_pos pz, bnd, rm, x', ez, hz, ← eK, ey, nI_1]
      · have hne : x.1 = -1 := hiff.2 hln
        have d9 : f139 (hI g 1 10 + hI g 1 (66 + i) / 4 - 1) 0 2 = 0 := i139.2 (fun q => hln (by rw [ln] at q; have q1 : (0 : Int) ≤ _ := q.1; have q2 : _ ≤ (2 : Int) := q.2; omega))
        refine Or.inr ⟨0, _, 0, (nI X, nI i, g), by rw [B1, if_pos hne], ?_, ?_, ?_⟩
        · unfold f204_l15
          dsimp only
          simp only [i4, i10, i14, h4, k, c2, v66, x66, d9, gd_pos ib6, if_false, if_true]
        · show nI i = if (0 : Nat) = 0 then nI i else _
          rw [if_pos rfl]
        · exact (r.scr (hfx hne) FM.rfl').mono (by omega)
end
