/-! ===== pace: a row of speeds ===== -/
theorem evs_c {nm nm' : Nat → Int} : ∀ (l : List Nat) (p : List Int × List Bool), (∀ q, q ∈ l → q < 8 → nm' q = nm q) → evs nm' l p = evs nm l p
  | [], _, _ => rfl
  | o :: l, p, h => by
    have e : ev1 nm' o p = ev1 nm o p := by
      unfold ev1
      by_cases c1 : 100 ≤ o
      · rw [if_pos c1, if_pos c1]
      · rw [if_neg c1, if_neg c1]
        by_cases c2 : o < 8
        · rw [if_pos c2, if_pos c2, h o (List.mem_cons_self ..) c2]
        · rw [if_neg c2, if_neg c2]
    show evs nm' l (ev1 nm' o p) = evs nm l (ev1 nm o p)
    rw [e]
    exact evs_c l _ (fun q hq => h q (List.mem_cons_of_mem _ hq))
theorem spd_c {T : Tc} {wt l l' p p' H A A' sl w : Int} (h6 : l' = l ∨ ∀ r, T 0 = some r → ¬ 6 ∈ r) (h5 : p' = p ∨ ∀ r, T 0 = some r → ¬ 5 ∈ r) (h4 : A' = A ∨ ∀ r, T 0 = some r → ¬ 4 ∈ r) : spd T wt l' p' H A' sl w = spd T wt l p H A sl w := by
  unfold spd
  cases e : T 0 with
  | none => rfl
  | some r =>
    dsimp only
    rw [evs_c (nm := nms H wt sl w A p l 0) (nm' := nms H wt sl w A' p' l' 0) r ([], [])]
    intro q hq h8
    unfold nms
    by_cases c0 : q = 0
    · rw [if_pos c0, if_pos c0]
    rw [if_neg c0, if_neg c0]
    by_cases c1 : q = 1
    · rw [if_pos c1, if_pos c1]
    rw [if_neg c1, if_neg c1]
    by_cases c2 : q = 2
    · rw [if_pos c2, if_pos c2]
    rw [if_neg c2, if_neg c2]
    by_cases c3 : q = 3
    · rw [if_pos c3, if_pos c3]
    rw [if_neg c3, if_neg c3]
    by_cases c4 : q = 4
    · rw [if_pos c4, if_pos c4]
      subst c4
      rcases h4 with h | h
      · exact h
      · exact absurd hq (h r e)
    rw [if_neg c4, if_neg c4]
    by_cases c5 : q = 5
    · rw [if_pos c5, if_pos c5]
      subst c5
      rcases h5 with h | h
      · exact h
      · exact absurd hq (h r e)
    rw [if_neg c5, if_neg c5]
    by_cases c6 : q = 6
    · rw [if_pos c6, if_pos c6]
      subst c6
      rcases h6 with h | h
      · exact h
      · exact absurd hq (h r e)
    rw [if_neg c6, if_neg c6]
/-- the answers of a row, bit by bit -/
def SpB (T : Tc) (wt : Int) (wi : Int32) (H L P A : Nat) (x : Int32) : Prop := ∀ sail s : Nat, sail < 4 → 1 ≤ s → s ≤ 4 → (bt x (4 * sail + s - 1) ↔ ∃ w, w < 4 ∧ bt wi w ∧ spd T wt L P H A sail w = s)
theorem rw_n (L P H A : Nat) (h : 1 ≤ A) : f136 (nI L) (nI P) (nI H) (nI A) = nI (((L * 12 + P) * 8 + H) * 4 + A - 1) := by
  unfold f136
  show (((nI L * nI 12 + nI P) * nI 8 + nI H) * nI 4 + nI A) - nI 1 = _
  rw [pk_mul, nI_add, pk_mul, nI_add, pk_mul, nI_add, pk_sub (by omega)]
theorem sp_n (L P H : Nat) : f134 (nI L) (nI P) (nI H) = nI ((L * 12 + P) * 8 + H) := by
  unfold f134
  show ((nI L * nI 12 + nI P) * nI 8 + nI H) = _
  rw [pk_mul, nI_add, pk_mul, nI_add]
/-- nothing but the laws' rows and the rows of speeds of that hour -/
def FPc (H : Nat) (h h' : Hp) : Prop := (∀ c, c ≠ 62 → c ≠ 63 → c ≠ 65 → c ≠ 66 → hI h' c = hI h c) ∧ hR h' = hR h ∧ ∀ r, ¬ r / 4 % 8 = H → hI h' 65 r = hI h 65 r ∧ hI h' 66 r = hI h 66 r
theorem FPc.p {H : Nat} {h h' : Hp} (f : FPc H h h') : FP h h' := ⟨fun c hc => f.1 c (by omega) (by omega) (by omega) (by omega), f.2.1⟩
section
variable {N n : Nat} {T : Tc} {h : Hp} {a : Nat → Int32}
/-- the row is put -/
theorem put_row {H L P A i : Nat} {x1 x2 : Int32} {t : Int32} {u : Hp} (hN : 1000 ≤ N) (hL : L < 3) (hP : P < 12) (hH : H < 8) (hA : 1 ≤ A) (hA4 : A ≤ 4) (t0 : SpB T (a 1).toInt (a (20 + H)) H L P A t) : Wp (f23_b76 N x1 x2 (nI i) (nI (((L * 12 + P) * 8 + H) * 4 + A - 1)) t u) fun q => q.1 = 0 ∧ q.2.1 = nI (i + 1) ∧ FPc H u q.2.2 ∧ (∀ r, r ≠ ((L * 12 + P) * 8 + H) * 4 + A - 1 → hI q.2.2 65 r = hI u 65 r ∧ hI q.2.2 66 r = hI u 66 r) ∧ PR T (a 1).toInt (a (20 + H)) H L P A (hI q.2.2 65 (((L * 12 + P) * 8 + H) * 4 + A - 1)) (hI q.2.2 66 (((L * 12 + P) * 8 + H) * 4 + A - 1)) := by
  have hr : ((L * 12 + P) * 8 + H) * 4 + A - 1 < 1152 := by omega
  obtain ⟨m0, b0, e0, g0⟩ := nib (x := t) (y := t) 0 (fun s hs => by rw [show 4 * 0 + s = s by omega])
  obtain ⟨m1, b1, e1, g1⟩ := nib (x := t) (y := t >>> ((4 : Int32) &&& 31)) 1 (fun s hs => bt_shr (k := 4) (by omega) (by omega))
  obtain ⟨m2, b2, e2, g2⟩ := nib (x := t) (y := t >>> ((8 : Int32) &&& 31)) 2 (fun s hs => bt_shr (k := 8) (by omega) (by omega))
  obtain ⟨m3, b3, e3, g3⟩ := nib (x := t) (y := t >>> ((12 : Int32) &&& 31)) 3 (fun s hs => bt_shr (k := 12) (by omega) (by omega))
  unfold f23_b76 f23_b115
  simp only [Wp_gd, Wp_bnd, Wp_some, e0, e1, e2, e3, nix (k := ((L * 12 + P) * 8 + H) * 4 + A - 1) (by omega), nix (k := m0) (by omega), nix (k := m1) (by omega), nix (k := m2) (by omega), nix (k := m3) (by omega), nI_1]
  refine ⟨nbk hr (by omega), nbk b0 (by omega), nbk b1 (by omega), nbk b2 (by omega), nbk b3 (by omega), nbk hr (by omega), trivial, trivial, ⟨fun c c1 c2 c3 c4 => ?_, rfl, fun r hrr => ?_⟩, fun r hrr => ?_, ?_⟩
  · rw [hI_uI_ne c4, hI_uI_ne c3]
  · have : r ≠ ((L * 12 + P) * 8 + H) * 4 + A - 1 := by rintro rfl; omega
    rw [hI_uI_ne (c' := 65) (by omega), hI_uI_eq, pu_ne this, hI_uI_eq, pu_ne this, hI_uI_ne (c' := 66) (by omega)]
    exact ⟨rfl, rfl⟩
  · rw [hI_uI_ne (c' := 65) (by omega), hI_uI_eq, pu_ne hrr, hI_uI_eq, pu_ne hrr, hI_uI_ne (c' := 66) (by omega)]
    exact ⟨rfl, rfl⟩
  · rw [hI_uI_ne (c' := 65) (by omega), hI_uI_eq, pu_eq, hI_uI_eq, pu_eq]
    refine ⟨t0, fun g hg => ?_⟩
    rw [bt_or (by omega), bt_or (by omega), bt_or (by omega), g0 g hg, g1 g hg, g2 g hg, g3 g hg]
    constructor
    · rintro (((z | z) | z) | z)
      · exact ⟨0, by omega, z⟩
      · exact ⟨1, by omega, z⟩
      · exact ⟨2, by omega, z⟩
      · exact ⟨3, by omega, z⟩
    · rintro ⟨sl, hsl, z⟩
      have : sl = 0 ∨ sl = 1 ∨ sl = 2 ∨ sl = 3 := by omega
      rcases this with rfl | rfl | rfl | rfl
      · exact Or.inl (Or.inl (Or.inl z))
      · exact Or.inl (Or.inl (Or.inr z))
      · exact Or.inl (Or.inr z)
      · exact Or.inr z
theorem pace_w {H : Nat} (hN : 1000 ≤ N) (en : En n T a h) (hH : H < 8) : Wp (f23 N (nI H) h) fun x => FPc H h x ∧ Paced n T (a 1).toInt (a (20 + H)) H (hI x 65) (hI x 66) := by
  have en0 := en
  obtain ⟨⟨n4, n12⟩, e2, e3, e4, e5, e6, e7⟩ := en
  obtain ⟨l1, ⟨c, tc, hr, tx⟩, l5⟩ := e3
  unfold f23
  rw [hr, Option.bind_some, Wp_gd]
  refine ⟨(tc_shp tc).1, ?_⟩
  rw [Wp_bnd, Wp_bind]
  have hnm : ∀ q, q < 8 → f123 (hI h c 5) (nI q) = 0 → ∀ l, T 0 = some l → ¬ q ∈ l := tx.2
  generalize hI h c 5 = v at hnm
  refine Wp_for (fun (i : Nat) (x : Hp) => (nI i, x)) 144 (fun i x => FPc H h x ∧ ∀ lane place last, lane < 3 → place < n → 1 ≤ last → last ≤ 4 → lane * 48 + place * 4 + last - 1 < i → PR T (a 1).toInt (a (20 + H)) H lane place last (hI x 65 (((lane * 12 + place) * 8 + H) * 4 + last - 1)) (hI x 66 (((lane * 12 + place) * 8 + H) * 4 + last - 1))) ?_ ?_ (i0 := 0) (x0 := h) (by omega) (by omega) ⟨⟨fun _ _ _ _ _ => rfl, rfl, fun _ _ => ⟨rfl, rfl⟩⟩, fun lane place last _ _ h1 _ z => by omega⟩
  · rintro i u hi ⟨fu, hu⟩
    have q1 : nI i / 48 = nI (i / 48) := pk_div (d := 48) (by omega) (by omega) (by omega)
    have q2 : nI i / 4 = nI (i / 4) := pk_div (d := 4) (by omega) (by omega) (by omega)
    have q3 : irem (nI (i / 4)) 12 = nI (i / 4 % 12) := pk_rem (d := 12) (by omega) (by omega) (by omega)
    have q4 : irem (nI i) 4 = nI (i % 4) := pk_rem (d := 4) (by omega) (by omega) (by omega)
    refine Wp_neg (show ¬ (144 : Int32) ≤ nI i by rw [ti_le, ti_nI (by omega)]; show ¬ (144 : Int) ≤ _; omega) ?_
    simp only [Wp_bnd, q1, q2, q3, q4, nI_1]
    rw [rw_n _ _ _ _ (by omega)]
    generalize eL : i / 48 = L
    generalize eP : i / 4 % 12 = P
    generalize eA : i % 4 + 1 = A
    have hL : L < 3 := by omega
    have hP : P < 12 := by omega
    have hA : 1 ≤ A ∧ A ≤ 4 := by omega
    have ei : i = L * 48 + P * 4 + A - 1 := by omega
    have k6 : ∃ L', (L' = L ∨ (L' = 0 ∧ ∀ l, T 0 = some l → ¬ 6 ∈ l)) ∧ (if f123 v 6 = 0 then f23_b39 N (nI H) v (nI i) (nI L) (nI P) (nI A) (nI (((L * 12 + P) * 8 + H) * 4 + A - 1)) 0 u else f23_b39 N (nI H) v (nI i) (nI L) (nI P) (nI A) (nI (((L * 12 + P) * 8 + H) * 4 + A - 1)) (nI L) u) = f23_b39 N (nI H) v (nI i) (nI L) (nI P) (nI A) (nI (((L * 12 + P) * 8 + H) * 4 + A - 1)) (nI L') u := by
      by_cases cc : f123 v 6 = 0
      · exact ⟨0, Or.inr ⟨rfl, hnm 6 (by omega) cc⟩, if_pos cc⟩
      · exact ⟨L, Or.inl rfl, if_neg cc⟩
    obtain ⟨L', hL', e6'⟩ := k6
    have k5 : ∃ P', (P' = P ∨ (P' = 0 ∧ ∀ l, T 0 = some l → ¬ 5 ∈ l)) ∧ f23_b39 N (nI H) v (nI i) (nI L) (nI P) (nI A) (nI (((L * 12 + P) * 8 + H) * 4 + A - 1)) (nI L') u = f23_b46 N (nI H) v (nI i) (nI L) (nI P) (nI A) (nI (((L * 12 + P) * 8 + H) * 4 + A - 1)) (nI P') (nI L') u := by
      unfold f23_b39
      by_cases cc : f123 v 5 = 0
      · exact ⟨0, Or.inr ⟨rfl, hnm 5 (by omega) cc⟩, if_pos cc⟩
      · exact ⟨P, Or.inl rfl, if_neg cc⟩
    obtain ⟨P', hP', e5'⟩ := k5
    have k4 : ∃ A', 1 ≤ A' ∧ (A' = A ∨ (A' = 1 ∧ ∀ l, T 0 = some l → ¬ 4 ∈ l)) ∧ f23_b46 N (nI H) v (nI i) (nI L) (nI P) (nI A) (nI (((L * 12 + P) * 8 + H) * 4 + A - 1)) (nI P') (nI L') u = f23_b54 N (nI H) v (nI i) (nI L) (nI P) (nI A) (nI (((L * 12 + P) * 8 + H) * 4 + A - 1)) (nI A') (nI H) (nI P') (nI L') u := by
      unfold f23_b46
      by_cases cc : f123 v 4 = 0
      · exact ⟨1, by omega, Or.inr ⟨rfl, hnm 4 (by omega) cc⟩, if_pos cc⟩
      · exact ⟨A, hA.1, Or.inl rfl, if_neg cc⟩
    obtain ⟨A', hA1, hA', e4'⟩ := k4
    rw [e6', e5', e4']
    unfold f23_b54
    rw [Wp_bnd, rw_n _ _ _ _ hA1]
    have e41 : hI u 41 0 = nI n := by rw [fu.1 41 (by omega) (by omega) (by omega) (by omega)]; exact e2
    rw [e41]
    have fin : ∀ (w : Hp) (t : Int32), FPc H h w → hI w 65 = hI u 65 → hI w 66 = hI u 66 → P < n → SpB T (a 1).toInt (a (20 + H)) H L P A t → Wp (f23_b76 N (nI H) v (nI i) (nI (((L * 12 + P) * 8 + H) * 4 + A - 1)) t w) (fun q => (q.1 = 0 ∧ ∃ x', q.2 = (nI (i + 1), x') ∧ FPc H h x' ∧ ∀ lane place last, lane < 3 → place < n → 1 ≤ last → last ≤ 4 → lane * 48 + place * 4 + last - 1 < i + 1 → PR T (a 1).toInt (a (20 + H)) H lane place last (hI x' 65 (((lane * 12 + place) * 8 + H) * 4 + last - 1)) (hI x' 66 (((lane * 12 + place) * 8 + H) * 4 + last - 1))) ∨ (∃ e, q.1 = e + 1 ∧ (fun q26 : Nat × (Int32 × Hp) => Wp (some q26.2.2) (fun x => FPc H h x ∧ Paced n T (a 1).toInt (a (20 + H)) H (hI x 65) (hI x 66))) (e, q.2))) := by
      intro w t fw w5 w6 hPn ht
      refine Wp_mono (put_row (i := i) (x1 := nI H) (x2 := v) hN hL hP hH hA.1 hA.2 ht) (fun q ⟨y1, y2, y3, y4, y5⟩ => Or.inl ⟨y1, q.2.2, Prod.ext y2 rfl, ⟨fun c c1 c2 c3 c4 => (y3.1 c c1 c2 c3 c4).trans (fw.1 c c1 c2 c3 c4), y3.2.1.trans fw.2.1, fun r hr => ⟨(y3.2.2 r hr).1.trans (fw.2.2 r hr).1, (y3.2.2 r hr).2.trans (fw.2.2 r hr).2⟩⟩, ?_⟩)
      intro lane place last h1 h2 h3 h4 h5
      by_cases cc : lane * 48 + place * 4 + last - 1 = i
      · have z1 : lane = L := by omega
        have z2 : place = P := by omega
        have z3 : last = A := by omega
        subst z1 z2 z3
        exact y5
      · have := y4 (((lane * 12 + place) * 8 + H) * 4 + last - 1) (by omega)
        rw [this.1, this.2, w5, w6]
        exact hu lane place last h1 h2 h3 h4 (by omega)
    by_cases cp : n ≤ P
    · rw [if_pos (by rw [ti_le, ti_nI (by omega), ti_nI (by omega)]; omega)]
      unfold f23_b115
      rw [Wp_bnd, Wp_some, nI_1]
      refine Or.inl ⟨rfl, u, rfl, fu, fun lane place last h1 h2 h3 h4 h5 => hu lane place last h1 h2 h3 h4 ?_⟩
      omega
    rw [if_neg (by rw [ti_le, ti_nI (by omega), ti_nI (by omega)]; omega)]
    by_cases cl : ((L * 12 + P) * 8 + H) * 4 + A - 1 ≤ ((L' * 12 + P') * 8 + H) * 4 + A' - 1
    · rw [if_pos (by rw [ti_le, ti_nI (by omega), ti_nI (by omega)]; omega), Wp_bind]
      refine Wp_mono (spds_w hN (En.p en0 fu.p) hL (by omega) hH (by omega)) (fun y ⟨fy, hy⟩ => ?_)
      refine fin y.2 y.1 ⟨fun c c1 c2 c3 c4 => (fy.1 c c1 c2).trans (fu.1 c c1 c2 c3 c4), fy.2.trans fu.2.1, fun r hr => ?_⟩ (fy.1 65 (by omega) (by omega)) (fy.1 66 (by omega) (by omega)) (by omega) ?_
      · rw [fy.1 65 (by omega) (by omega), fy.1 66 (by omega) (by omega)]; exact fu.2.2 r hr
      · intro sl s h1 h2 h3
        rw [hy (4 * sl + s - 1) (by omega)]
        constructor
        · rintro ⟨sl', w, y1, y2, y3, y4⟩
          obtain ⟨b1, b2⟩ := spd_bd T (a 1).toInt (L : Int) (P : Int) (H : Int) (A : Int) (sl' : Int) (w : Int)
          have : sl' = sl := by omega
          subst this
          exact ⟨w, y2, y3, by omega⟩
        · rintro ⟨w, y2, y3, y4⟩
          exact ⟨sl, w, h1, y2, y3, by omega⟩
    · have hin : ((L' * 12 + P') * 8 + H) * 4 + A' - 1 < 1152 := by omega
      rw [if_neg (by rw [ti_le, ti_nI (by omega), ti_nI (by omega)]; omega), Wp_gd]
      refine ⟨nbk hin (by omega), ?_⟩
      rw [nix (by omega)]
      have lk := hu L' P' A' (by omega) (by omega) hA1 (by omega) (by omega)
      refine fin u _ fu rfl rfl (by omega) (fun sl s h1 h2 h3 => ?_)
      rw [lk.1 sl s h1 h2 h3]
      have es : ∀ w : Nat, spd T (a 1).toInt (L' : Int) (P' : Int) (H : Int) (A' : Int) (sl : Int) (w : Int) = spd T (a 1).toInt (L : Int) (P : Int) (H : Int) (A : Int) (sl : Int) (w : Int) := fun w => spd_c (by rcases hL' with z | z; exact Or.inl (by rw [z]); exact Or.inr z.2) (by rcases hP' with z | z; exact Or.inl (by rw [z]); exact Or.inr z.2) (by rcases hA' with z | z; exact Or.inl (by rw [z]); exact Or.inr z.2)
      simp only [es]
  · rintro u ⟨fu, hu⟩
    refine Wp_pos (show (144 : Int32) ≤ nI 144 by decide) ?_
    rw [Wp_some]
    refine ⟨0, rfl, ?_⟩
    rw [Wp_some]
    exact ⟨fu, fun lane place last h1 h2 h3 h4 => hu lane place last h1 h2 h3 h4 (by omega)⟩
end
