/-! ===== what becomes of a state: the reference ===== -/
section
variable {N n : Nat} {T : Nat → Tc} {h : Hp} {e : Nat → Int32}
theorem outM_w {s c w : Nat} (hN : 1000 ≤ N) (n4 : 4 ≤ n) (n12 : n ≤ 12) (hn : hI h 0 2 = nI n) (lm : LM T (e 1).toInt h) (ea : ∀ j, (j < 2 ∨ (30 ≤ j ∧ j < 66)) → hI h 1 j = e j) (hs : ist n s) (hc : c < 12) (hw : w < 4) : Wp (f193 N (nI s) (nI c) (nI w) h) fun x => FM h x.2 ∧ Oc n (Tr T (hI h 1 3)) e s c w x.1 := by
  obtain ⟨s1, s2, s3⟩ := hs
  obtain ⟨d1, d2, d3, d4⟩ := nI_dec s (by omega)
  have d1 : f144 (nI s) = nI (s / 480) := d1
  have d2 : f145 (nI s) = nI (s / 40 % 12) := d2
  have d3 : f146 (nI s) = nI (s / 5 % 8) := d3
  have d4 : f147 (nI s) = nI (s % 5) := d4
  obtain ⟨d5, d6⟩ := nI_div4 c (by omega)
  have tl := nI_lane (s / 480) (c / 4) (by omega) (by omega)
  have i0 : ix (0 : Int32) = 0 := rfl
  have i1 : ix (1 : Int32) = 1 := rfl
  have t2 : (2 : Int32).toInt = 2 := rfl
  have t0 : (0 : Int32).toInt = 0 := rfl
  have tn' : (nI n).toInt = (n : Int) := ti_nI (by omega)
  unfold f193
  rw [Wp_bnd, d1, d5]
  by_cases c1 : 1 ≤ s / 480 + c / 4 ∧ s / 480 + c / 4 ≤ 3
  · have el : nI (s / 480) + nI (c / 4) - 1 = nI (s / 480 + c / 4 - 1) := by rw [ti_eq, tl, ti_nI (by omega)]; omega
    have oc : ∀ r, Oc n (Tr T (hI h 1 3)) e s c w r = OcS n (Tr T (hI h 1 3)) e (s / 480 + c / 4 - 1) (s / 40 % 12) (s / 5 % 8) (spd (Tr T (hI h 1 3)) (e 1).toInt ((s / 480 + c / 4 - 1 : Nat) : Int) ((s / 40 % 12 : Nat) : Int) ((s / 5 % 8 : Nat) : Int) ((s % 5 : Nat) : Int) ((c % 4 : Nat) : Int) (w : Int)).toNat r := fun r => if_pos c1
    simp only [oc]
    rw [el]
    generalize hT' : Tr T (hI h 1 3) = T'
    generalize hLn : s / 480 + c / 4 - 1 = L
    have dS := d2
    generalize hPn : s / 40 % 12 = P at *
    generalize hHn : s / 5 % 8 = H at *
    generalize hAn : s % 5 = A at *
    have hL : L < 3 := by omega
    have hH : H < 8 := by omega
    have hA : A < 5 := by omega
    have tL : (nI L).toInt = (L : Int) := ti_nI (by omega)
    have tP : (nI P).toInt = (P : Int) := ti_nI (by omega)
    have tH : (nI H).toInt = (H : Int) := ti_nI (by omega)
    have tA : (nI A).toInt = (A : Int) := ti_nI (by omega)
    have tS : (nI (c % 4)).toInt = ((c % 4 : Nat) : Int) := ti_nI (by omega)
    have tW : (nI w).toInt = (w : Int) := ti_nI (by omega)
    refine Wp_neg (fun z => i139.1 z ⟨by omega, by omega⟩) ?_
    simp only [Wp_bnd, Wp_bind, d2, d3, d6, i0, i1]
    generalize hg : uI (uI h 6 0 (nI H)) 6 1 (hI (uI h 6 0 (nI H)) 1 1) = g
    have fm : FM h g := by rw [← hg]; exact FM.u.trans FM.u
    have z0 : hI g 6 0 = nI H := by rw [← hg, hI_uI_eq, pu_ne (by omega), hI_uI_eq, pu_eq]
    have z1 : hI g 6 1 = e 1 := by rw [← hg, hI_uI_eq, pu_eq, hI_uI_ne (by omega)]; exact ea 1 (by omega)
    have g3 : hI g 1 = hI h 1 := fm 1 (by omega) (by omega)
    refine Wp_mono (speedOf_w (p1 := nI s) (hour := (H : Int)) hN (LM_c lm fm) (by rw [z0, tH]) (by rw [z1]) (by omega) (by omega) (by omega) (by omega) (by rw [d2]; omega) (by rw [d4]; omega)) (fun x ⟨fx, x0, x1, hx⟩ => ?_)
    rw [g3, hT', tS, tW, tL, d2, d4, tP, tA] at hx
    obtain ⟨sb1, sb2⟩ := spd_bd T' (e 1).toInt (L : Int) (P : Int) (H : Int) (A : Int) ((c % 4 : Nat) : Int) (w : Int)
    generalize spd T' (e 1).toInt (L : Int) (P : Int) (H : Int) (A : Int) ((c % 4 : Nat) : Int) (w : Int) = v at *
    obtain ⟨sp, rfl⟩ : ∃ sp : Nat, v = (sp : Int) := ⟨v.toNat, by omega⟩
    have ex : x.1 = nI sp := by rw [ti_eq, hx, ti_nI (by omega)]
    have tsp : (nI sp).toInt = (sp : Int) := ti_nI (by omega)
    have esp : ((sp : Int)).toNat = sp := by omega
    rw [ex, esp]
    have fm2 := fm.trans fx
    refine Wp_mono (draughtM_w (hour := (H : Int)) hN (LM_c lm fm2) (by rw [x0, z0, tH]) (by rw [x1, z1]) (by omega) (by omega)) (fun y ⟨fy, y0, y1, hy⟩ => ?_)
    have g4 : hI x.2 1 = hI h 1 := fm2 1 (by omega) (by omega)
    rw [g4, hT', tsp] at hy
    have fm3 := fm2.trans fy
    have y00 : hI y.2 6 0 = nI H := by rw [y0, x0, z0]
    have y10 : hI y.2 6 1 = e 1 := by rw [y1, x1, z1]
    generalize hd : drt T' (e 1).toInt (H : Int) (sp : Int) = dd at *
    generalize y.1 = dr at *
    refine Wp_lp (fun m q => ∃ k : Nat, q.2.1 = nI k ∧ k + m = sp ∧ q.1 = nI ((P + k) % n) ∧ FM h q.2.2 ∧ hI q.2.2 6 0 = nI H ∧ hI q.2.2 6 1 = e 1 ∧ ∀ j, 1 ≤ j → j ≤ k → ¬ bad T' e L H dd ((P + j) % n)) ?_ N sp _ (by omega) ?_
    case refine_2 =>
      refine ⟨0, rfl, by omega, ?_, fm3, y00, y10, fun j h1 h2 => by omega⟩
      dsimp only
      rw [Nat.add_zero, Nat.mod_eq_of_lt s2]
    rintro m ⟨p, kk, q⟩ ⟨k, hk, hkm, hp, fq, q0, q1, hno⟩
    dsimp only at hk hp fq q0 q1 ⊢
    subst hk hp
    have tk : (nI k).toInt = (k : Int) := ti_nI (by omega)
    have hm0 : (P + k) % n < n := Nat.mod_lt _ (by omega)
    have hm1 : (P + (k + 1)) % n < n := Nat.mod_lt _ (by omega)
    unfold f193_l48
    dsimp only
    by_cases cc : k = sp
    · subst cc
      refine Wp_pos (by rw [ti_le]; exact Int.le_refl _) ?_
      rw [Wp_some]
      refine Or.inr ⟨1, rfl, ?_⟩
      dsimp only
      rw [if_neg (by decide), Wp_some]
      refine ⟨fq, Or.inl ⟨fun j h1 h2 => by rw [hd]; exact hno j h1 h2, ?_⟩⟩
      have e8 : irem (nI H + 1) 8 = nI ((H + 1) % 8) := by rw [nI_1]; exact pk_rem (d := 8) (by omega) (by omega) (by omega)
      rw [e8]
      unfold f143
      show (((nI 12 * nI L + nI ((P + k) % n)) * nI 8 + nI ((H + 1) % 8)) * nI 5 + nI k) = _
      rw [pk_mul, nI_add, pk_mul, nI_add, pk_mul, nI_add]
    · refine Wp_neg (by rw [ti_le, tsp, tk]; omega) ?_
      have stp : ∀ {α : Type} (F : Int32 → Option α), (if nI ((P + k) % n) + 1 = hI q 0 2 then F 0 else F (nI ((P + k) % n) + 1)) = F (nI ((P + (k + 1)) % n)) := fun F => by
        rw [fq 0 (by omega) (by omega), hn, nI_1]
        have hmm : (P + (k + 1)) % n = ((P + k) % n + 1) % n := by rw [← Nat.add_assoc, Nat.add_mod (P + k) 1 n, Nat.mod_eq_of_lt (show 1 < n by omega)]
        by_cases c2 : (P + k) % n + 1 = n
        · rw [if_pos (by rw [c2]), hmm, c2, Nat.mod_self]; rfl
        · rw [if_neg (fun z => c2 ((nI_eq (by omega) (by omega)).1 z)), hmm, Nat.mod_eq_of_lt (show (P + k) % n + 1 < n by omega)]
      rw [stp (fun t0 => f193_b62 N (nI s) (nI L) (nI sp) dr (nI k) t0 q)]
      generalize hQ : (P + (k + 1)) % n = Q at *
      have tQ : (nI Q).toInt = (Q : Int) := ti_nI (by omega)
      have vc : (30 : Int32) + 12 * nI L + nI Q = nI (30 + 12 * L + Q) := by
        show nI 30 + nI 12 * nI L + nI Q = _
        rw [pk_mul, nI_add, nI_add]
      have q1h : hI q 1 = hI h 1 := fq 1 (by omega) (by omega)
      unfold f193_b62
      rw [vc, Wp_gd, nix (show 30 + 12 * L + Q < 2147483648 by omega), i0, q1h, ea (30 + 12 * L + Q) (by omega), ea 0 (by omega), e141]
      refine ⟨nbk (by omega) (by omega), ?_⟩
      have stop : ∀ g', FM h g' → bad T' e L H dd Q → Wp (some (1, (nI Q, nI k, g'))) fun q => (q.1 = 0 ∧ ∃ m', m' < m ∧ ∃ k : Nat, q.2.2.1 = nI k ∧ k + m' = sp ∧ q.2.1 = nI ((P + k) % n) ∧ FM h q.2.2.2 ∧ hI q.2.2.2 6 0 = nI H ∧ hI q.2.2.2 6 1 = e 1 ∧ ∀ j, 1 ≤ j → j ≤ k → ¬ bad T' e L H dd ((P + j) % n)) ∨ (∃ e', q.1 = e' + 1 ∧ Wp (if (e', q.2).1 = 0 then some (2000 + 12 * nI L + (e', q.2).2.1, (e', q.2).2.2.2) else some (f143 (nI L) (e', q.2).2.1 (irem (nI H + 1) 8) (nI sp), (e', q.2).2.2.2)) fun x => FM h x.2 ∧ OcS n T' e L P H sp x.1) := fun g' fg hbd => by
        rw [Wp_some]
        refine Or.inr ⟨0, rfl, ?_⟩
        dsimp only
        rw [if_pos rfl, Wp_some]
        refine ⟨fg, Or.inr ⟨k + 1, by omega, by omega, fun j h1 h2 => by rw [hd]; exact hno j h1 (by omega), by rw [hd, hQ]; exact hbd, ?_⟩⟩
        show nI 2000 + nI 12 * nI L + nI Q = _
        rw [pk_mul, nI_add, nI_add, hQ]
      have go : ∀ g', FM h g' → hI g' 6 0 = nI H → hI g' 6 1 = e 1 → ¬ bad T' e L H dd Q → Wp (f193_b94 N (nI s) (nI L) (nI sp) dr (nI Q) (nI k) g') fun q => (q.1 = 0 ∧ ∃ m', m' < m ∧ ∃ k : Nat, q.2.2.1 = nI k ∧ k + m' = sp ∧ q.2.1 = nI ((P + k) % n) ∧ FM h q.2.2.2 ∧ hI q.2.2.2 6 0 = nI H ∧ hI q.2.2.2 6 1 = e 1 ∧ ∀ j, 1 ≤ j → j ≤ k → ¬ bad T' e L H dd ((P + j) % n)) ∨ (∃ e', q.1 = e' + 1 ∧ Wp (if (e', q.2).1 = 0 then some (2000 + 12 * nI L + (e', q.2).2.1, (e', q.2).2.2.2) else some (f143 (nI L) (e', q.2).2.1 (irem (nI H + 1) 8) (nI sp), (e', q.2).2.2.2)) fun x => FM h x.2 ∧ OcS n T' e L P H sp x.1) := fun g' fg u0 u1 hnb => by
        unfold f193_b94
        simp only [Wp_bnd, Wp_some]
        refine Or.inl ⟨trivial, m - 1, by omega, k + 1, nI_1 k, by omega, by rw [hQ], fg, u0, u1, fun j h1 h2 => ?_⟩
        by_cases ej : j = k + 1
        · rw [ej, hQ]; exact hnb
        · exact hno j h1 (by omega)
      refine Wp_if (fun k1 => stop q fq (Or.inl (by rw [ti_lt, hy] at k1; exact k1))) (fun k1 => ?_)
      rw [ti_lt, hy] at k1
      refine Wp_if (fun k2 => go q fq q0 q1 (fun z => z.elim k1 (fun z => by rw [k2] at z; exact absurd z.1 (by decide)))) (fun k2 => ?_)
      have k2 := (bt01 _ _).resolve_left k2
      rw [Wp_bind]
      refine Wp_mono (isHigh_w (hour := (H : Int)) hN (LM_c lm fq) (by rw [q0, tH]) (by rw [q1]) (by omega) (by omega)) (fun z ⟨fz, u0, u1, hz⟩ => ?_)
      rw [q1h, hT', tQ] at hz
      refine Wp_if (fun k3 => stop z.2 (fq.trans fz) (Or.inr ⟨k2, ?_⟩)) (fun k3 => go z.2 (fq.trans fz) (by rw [u0, q0]) (by rw [u1, q1]) (fun b => b.elim k1 (fun b => ?_)))
      · rw [hz, b2I_0] at k3; exact k3
      · rw [hz, b2I_0] at k3; exact k3 b.2
  · refine Wp_pos (i139.2 (fun z => c1 ⟨by omega, by omega⟩)) ?_
    rw [Wp_some]
    refine ⟨FM.rfl', ?_⟩
    unfold Oc
    rw [if_neg c1]
/-- the outcome is one -/
theorem Oc_fn {T : Tc} {s c w : Nat} {r r' : Int32} (h1 : Oc n T e s c w r) (h2 : Oc n T e s c w r') : r = r' := by
  unfold Oc at h1 h2
  by_cases c1 : 1 ≤ s / 480 + c / 4 ∧ s / 480 + c / 4 ≤ 3
  · rw [if_pos c1] at h1 h2
    rcases h1 with ⟨a1, a2⟩ | ⟨k, a1, a2, a3, a4, a5⟩
    · rcases h2 with ⟨b1, b2⟩ | ⟨j, b1, b2, b3, b4, b5⟩
      · rw [a2, b2]
      · exact absurd b4 (a1 j b1 b2)
    · rcases h2 with ⟨b1, b2⟩ | ⟨j, b1, b2, b3, b4, b5⟩
      · exact absurd a4 (b1 k a1 a2)
      · have : k = j := by
          rcases Nat.lt_trichotomy k j with q | q | q
          · exact absurd a4 (b3 k a1 q)
          · exact q
          · exact absurd b4 (a3 j b1 q)
        rw [a5, b5, this]
  · rw [if_neg c1] at h1 h2
    rw [h1, h2]
end
