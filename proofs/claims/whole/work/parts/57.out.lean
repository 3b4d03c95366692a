/-! ===== what becomes of a state ===== -/
theorem spd_bd (T : Tc) (wt a b c d e f : Int) : 1 ≤ spd T wt a b c d e f ∧ spd T wt a b c d e f ≤ 4 := by
  unfold spd
  cases T 0 with
  | none =>
    show (1 : Int) ≤ 1 ∧ (1 : Int) ≤ 4
    omega
  | some l =>
    show 1 ≤ hld _ 1 4 ∧ hld _ 1 4 ≤ 4
    unfold hld
    generalize (evs _ l _).1.headD 0 = x
    by_cases h1 : x < 1
    · rw [if_pos h1]; omega
    · rw [if_neg h1]
      by_cases h2 : 4 < x
      · rw [if_pos h2]; omega
      · rw [if_neg h2]; omega
theorem nI_dec (s : Nat) (h : s < 2000000) : f129 (nI s) = nI (s / 480) ∧ f130 (nI s) = nI (s / 40 % 12) ∧ f131 (nI s) = nI (s / 5 % 8) ∧ f132 (nI s) = nI (s % 5) := by
  have ts : (nI s).toInt = (s : Int) := ti_nI (by omega)
  obtain ⟨d1, d2, d3, d4⟩ := dec_t (x := nI s) (by omega)
  refine ⟨?_, ?_, ?_, ?_⟩
  · rw [ti_eq, d1, ts, ti_nI (by omega)]; omega
  · rw [ti_eq, d2, ts, ti_nI (by omega)]; omega
  · rw [ti_eq, d3, ts, ti_nI (by omega)]; omega
  · rw [ti_eq, d4, ts, ti_nI (by omega)]; omega
theorem nI_lane (a b : Nat) (ha : a < 1000) (hb : b < 1000) : (nI a + nI b - 1).toInt = (a : Int) + b - 1 := by
  have ta : (nI a).toInt = (a : Int) := ti_nI (by omega)
  have tb : (nI b).toInt = (b : Int) := ti_nI (by omega)
  have t1 : (1 : Int32).toInt = 1 := rfl
  have e : (nI a + nI b).toInt = (a : Int) + b := by rw [ti_add (by omega) (by omega), ta, tb]
  rw [ti_sub (by omega) (by omega), e, t1]
theorem nI_div4 (c : Nat) (h : c < 1000) : nI c / 4 = nI (c / 4) ∧ irem (nI c) 4 = nI (c % 4) := ⟨pk_div (d := 4) (by omega) (by omega) (by omega), pk_rem (d := 4) (by omega) (by omega) (by omega)⟩
section
variable {N n : Nat} {T : Tc} {h : Hp} {e : Nat → Int32}
theorem placeOn_w {P k : Nat} (n4 : 4 ≤ n) (n12 : n ≤ 12) (hn : hI h 41 0 = nI n) (hP : P < n) (hk : k ≤ 4) : f60 N (nI P) (nI k) h = some (nI ((P + k) % n)) := by
  have t1 : (nI (P + k)).toInt = ((P + k : Nat) : Int) := ti_nI (by omega)
  have t2 : (nI n).toInt = (n : Int) := ti_nI (by omega)
  unfold f60
  show (if nI P + nI k < hI h 41 0 then _ else _) = _
  rw [nI_add, hn]
  by_cases c : P + k < n
  · rw [if_pos (by rw [ti_lt, t1, t2]; omega), Nat.mod_eq_of_lt c]
  · rw [if_neg (by rw [ti_lt, t1, t2]; omega), pk_sub (by omega), Nat.mod_eq_sub_mod (by omega), Nat.mod_eq_of_lt (by omega)]
theorem nI_cell (l p : Nat) : f133 (nI l) (nI p) = nI (12 * l + p) := by
  unfold f133
  show nI l * nI 12 + nI p = _
  rw [pk_mul, nI_add, Nat.mul_comm]
theorem ground_w {L P sp hour : Nat} {dr bare : Int32} {d : Int} (hN : 1000 ≤ N) (n4 : 4 ≤ n) (n12 : n ≤ 12) (hn : hI h 41 0 = nI n) (hL : L < 3) (hP : P < n) (hs : sp ≤ 4) (hd : dr.toInt = d) (e42 : ∀ j, j < 36 → hI h 42 j = e (30 + j)) (hb : ∀ p, p < n → (bt bare p ↔ bt (e 0) p ∧ hgh T (e 1).toInt hour p = false)) : Wp (f62 N (nI L) (nI P) (nI sp) dr bare h) fun q => (q = 0 ∧ ∀ k, 1 ≤ k → k ≤ sp → ¬ bad T e L hour d ((P + k) % n)) ∨ ∃ k, 1 ≤ k ∧ k ≤ sp ∧ (∀ j, 1 ≤ j → j < k → ¬ bad T e L hour d ((P + j) % n)) ∧ bad T e L hour d ((P + k) % n) ∧ q = nI k := by
  have tsp : (nI sp).toInt = (sp : Int) := ti_nI (by omega)
  have t4 : (4 : Int32).toInt = 4 := rfl
  unfold f62
  rw [Wp_bind]
  refine Wp_lp (fun m q => ∃ k : Nat, q = nI k ∧ 1 ≤ k ∧ k + m = sp + 1 ∧ ∀ j, 1 ≤ j → j < k → ¬ bad T e L hour d ((P + j) % n)) ?_ N sp _ (by omega) ⟨1, rfl, by omega, by omega, fun j h1 h2 => by omega⟩
  rintro m q ⟨k, rfl, hk1, hkm, hno⟩
  have tk : (nI k).toInt = (k : Int) := ti_nI (by omega)
  unfold f62_l2
  by_cases cc : k = sp + 1
  · refine Wp_pos (by rw [ti_lt, tsp, tk]; omega) ?_
    rw [Wp_some]
    refine Or.inr ⟨1, rfl, ?_⟩
    dsimp only
    rw [if_neg (by decide), Wp_some]
    exact Or.inl ⟨rfl, fun j h1 h2 => hno j h1 (by omega)⟩
  · refine Wp_neg (by rw [ti_lt, tsp, tk]; omega) (Wp_neg (by rw [ti_lt, t4, tk]; omega) ?_)
    have hm : (P + k) % n < n := Nat.mod_lt _ (by omega)
    have xc : ix (nI (12 * L + (P + k) % n)) = 12 * L + (P + k) % n := nix (by omega)
    rw [placeOn_w n4 n12 hn hP (by omega), Option.bind_some, nI_cell, Wp_gd, xc, e42 _ (by omega)]
    refine ⟨nbk (by omega) (by omega), ?_⟩
    have ee : 30 + (12 * L + (P + k) % n) = 30 + 12 * L + (P + k) % n := by omega
    rw [ee]
    have stop : bad T e L hour d ((P + k) % n) → Wp (some (1, nI k)) fun q => (q.1 = 0 ∧ ∃ m', m' < m ∧ ∃ k : Nat, q.2 = nI k ∧ 1 ≤ k ∧ k + m' = sp + 1 ∧ ∀ j, 1 ≤ j → j < k → ¬ bad T e L hour d ((P + j) % n)) ∨ (∃ e', q.1 = e' + 1 ∧ Wp (if (e', q.2).1 = 0 then some (e', q.2).2 else some 0) fun q => (q = 0 ∧ ∀ k, 1 ≤ k → k ≤ sp → ¬ bad T e L hour d ((P + k) % n)) ∨ ∃ k, 1 ≤ k ∧ k ≤ sp ∧ (∀ j, 1 ≤ j → j < k → ¬ bad T e L hour d ((P + j) % n)) ∧ bad T e L hour d ((P + k) % n) ∧ q = nI k) := fun hbd => by
      rw [Wp_some]
      refine Or.inr ⟨0, rfl, ?_⟩
      dsimp only
      rw [if_pos rfl, Wp_some]
      exact Or.inr ⟨k, hk1, by omega, hno, hbd, rfl⟩
    refine Wp_if (fun g => stop (Or.inl (by rw [ti_lt, hd] at g; exact g))) (fun g => Wp_if (fun g2 => ?_) (fun g2 => stop (Or.inr ((hb _ hm).1 ((bt01 _ _).resolve_left g2)))))
    simp only [Wp_bnd, Wp_some]
    refine Or.inl ⟨trivial, m - 1, by omega, k + 1, nI_1 k, by omega, by omega, fun j h1 h2 => ?_⟩
    by_cases ej : j = k
    · subst ej
      rintro (z | z)
      · rw [ti_lt, hd] at g; exact g z
      · exact bt_n.2 g2 ((hb _ hm).2 z)
    · exact hno j h1 (by omega)
theorem outX_w {s c w : Nat} (hN : 1000 ≤ N) (n4 : 4 ≤ n) (n12 : n ≤ 12) (hn : hI h 41 0 = nI n) (lx : LX T (e 1).toInt h) (e42 : ∀ j, j < 36 → hI h 42 j = e (30 + j)) (e0 : hI h 41 3 = e 0) (hs : ist n s) (hc : c < 12) (hw : w < 4) : Wp (f31 N (nI s) (nI c) (nI w) h) fun x => FX h x.2 ∧ Oc n T e s c w x.1 := by
  obtain ⟨s1, s2, s3⟩ := hs
  obtain ⟨d1, d2, d3, d4⟩ := nI_dec s (by omega)
  obtain ⟨d5, d6⟩ := nI_div4 c (by omega)
  have tl := nI_lane (s / 480) (c / 4) (by omega) (by omega)
  have i0 : ix (0 : Int32) = 0 := rfl
  have i4 : ix (4 : Int32) = 4 := rfl
  have i5 : ix (5 : Int32) = 5 := rfl
  have i6 : ix (6 : Int32) = 6 := rfl
  unfold f31
  rw [Wp_bnd, d1, d5]
  by_cases c1 : 1 ≤ s / 480 + c / 4 ∧ s / 480 + c / 4 ≤ 3
  · have el : nI (s / 480) + nI (c / 4) - 1 = nI (s / 480 + c / 4 - 1) := by rw [ti_eq, tl, ti_nI (by omega)]; omega
    have oc : ∀ r, Oc n T e s c w r = OcS n T e (s / 480 + c / 4 - 1) (s / 40 % 12) (s / 5 % 8) (spd T (e 1).toInt ((s / 480 + c / 4 - 1 : Nat) : Int) ((s / 40 % 12 : Nat) : Int) ((s / 5 % 8 : Nat) : Int) ((s % 5 : Nat) : Int) ((c % 4 : Nat) : Int) (w : Int)).toNat r := fun r => if_pos c1
    simp only [oc]
    rw [el]
    generalize hLn : s / 480 + c / 4 - 1 = L
    generalize hPn : s / 40 % 12 = P at *
    generalize hHn : s / 5 % 8 = H at *
    generalize hAn : s % 5 = A at *
    have hL : L < 3 := by omega
    have hH : H < 8 := by omega
    have hA : A < 5 := by omega
    have tL : (nI L).toInt = (L : Int) := ti_nI (by omega)
    have tP : (nI P).toInt = (P : Int) := ti_nI (by omega)
    have tH : (nI H).toInt = (H : Int) := ti_nI (by omega)
    have tA : (nI A).toInt = (A : Int) := ti_nI (by omega)
    have tS : (nI (c % 4)).toInt = ((c % 4 : Nat) : Int) := ti_nI (by omega)
    have tW : (nI w).toInt = (w : Int) := ti_nI (by omega)
    refine Wp_neg (fun z => i125.1 z (by omega)) ?_
    simp only [Wp_bnd, Wp_bind, d2, d3, d4, d6]
    unfold f33
    simp only [Wp_bnd, Wp_some, i0, i4, i5, i6]
    generalize hg : uI (uI (uI (uI h 62 6 (nI L)) 62 5 (nI P)) 62 0 (nI H)) 62 4 (nI A) = g
    have fx : FX h g := by rw [← hg]; exact FX.u.trans (FX.u.trans (FX.u.trans FX.u))
    have z6 : hI g 62 6 = nI L := by rw [← hg, hI_uI_eq, pu_ne (by omega), hI_uI_eq, pu_ne (by omega), hI_uI_eq, pu_ne (by omega), hI_uI_eq, pu_eq]
    have z5 : hI g 62 5 = nI P := by rw [← hg, hI_uI_eq, pu_ne (by omega), hI_uI_eq, pu_ne (by omega), hI_uI_eq, pu_eq]
    have z0 : hI g 62 0 = nI H := by rw [← hg, hI_uI_eq, pu_ne (by omega), hI_uI_eq, pu_eq]
    have z4 : hI g 62 4 = nI A := by rw [← hg, hI_uI_eq, pu_eq]
    refine Wp_mono (speedBy_w (lane := (L : Int)) (place := (P : Int)) (hour := (H : Int)) (last := (A : Int)) hN (LX_c lx fx) (by omega) (by omega) (by rw [z6, tL]) (by rw [z5, tP]) (by rw [z0, tH]) (by rw [z4, tA]) (by omega) (by omega) (by omega) (by omega)) (fun x ⟨fx1, _, hx⟩ => ?_)
    rw [tS, tW] at hx
    obtain ⟨sb1, sb2⟩ := spd_bd T (e 1).toInt (L : Int) (P : Int) (H : Int) (A : Int) ((c % 4 : Nat) : Int) (w : Int)
    generalize spd T (e 1).toInt (L : Int) (P : Int) (H : Int) (A : Int) ((c % 4 : Nat) : Int) (w : Int) = v at *
    obtain ⟨sp, rfl⟩ : ∃ sp : Nat, v = (sp : Int) := ⟨v.toNat, by omega⟩
    have ex : x.1 = nI sp := by rw [ti_eq, hx, ti_nI (by omega)]
    have tsp : (nI sp).toInt = (sp : Int) := ti_nI (by omega)
    have esp : ((sp : Int)).toNat = sp := by omega
    rw [ex, esp]
    have fx2 := fx.trans fx1
    refine Wp_mono (draughtOf_w hN (LX_c lx fx2) (by omega) (by omega)) (fun y ⟨fy1, hy⟩ => ?_)
    rw [tH, tsp] at hy
    have fx3 := fx2.trans fy1
    have hn3 : hI y.2 41 = hI h 41 := fx3.1 41 (by omega) (by omega)
    refine Wp_mono (bareRocks_w hN n12 (LX_c lx fx3) (by rw [hn3]; exact hn) (by omega)) (fun z ⟨fz1, hz⟩ => ?_)
    rw [hn3, e0, tH] at hz
    have fx4 := fx3.trans fz1
    have hn4 : hI z.2 41 0 = nI n := by rw [fx4.1 41 (by omega) (by omega)]; exact hn
    have e424 : ∀ j, j < 36 → hI z.2 42 j = e (30 + j) := fun j hj => by rw [fx4.1 42 (by omega) (by omega)]; exact e42 j hj
    refine Wp_mono (ground_w (T := T) (hour := H) hN n4 n12 hn4 hL s2 (by omega) hy e424 hz) (fun q hq => ?_)
    rcases hq with ⟨rfl, hq⟩ | ⟨k, k1, k2, k3, k4, rfl⟩
    · refine Wp_pos (by decide) ?_
      rw [placeOn_w n4 n12 hn4 s2 (by omega), Option.bind_some, Wp_some]
      refine ⟨fx4, Or.inl ⟨hq, ?_⟩⟩
      have e8 : irem (nI H + 1) 8 = nI ((H + 1) % 8) := by rw [nI_1]; exact pk_rem (d := 8) (by omega) (by omega) (by omega)
      rw [e8]
      unfold f135
      show (((nI L * nI 12 + nI ((P + sp) % n)) * nI 8 + nI ((H + 1) % 8)) * nI 5 + nI sp) = _
      rw [pk_mul, nI_add, pk_mul, nI_add, pk_mul, nI_add, Nat.mul_comm L 12]
    · refine Wp_neg (by rw [ti_le, ti_nI (by omega)]; show ¬ (k : Int) ≤ 0; omega) ?_
      rw [placeOn_w n4 n12 hn4 s2 (by omega), Option.bind_some, Wp_some]
      refine ⟨fx4, Or.inr ⟨k, k1, k2, k3, k4, ?_⟩⟩
      rw [nI_cell]
      show nI 2000 + nI (12 * L + (P + k) % n) = _
      rw [nI_add]; congr 1; omega
  · refine Wp_pos (i125.2 (by rw [tl]; omega)) ?_
    rw [Wp_some]
    refine ⟨FX.rfl', ?_⟩
    unfold Oc
    rw [if_neg c1]
end
