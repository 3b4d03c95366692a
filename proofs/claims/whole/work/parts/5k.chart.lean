/-! ===== the class's chart: tables of an hour ===== -/
theorem Wp_for {S X : Type} {body : S → Option (Nat × S)} {Q : Nat × S → Prop} (mk : Nat → X → S) (K : Nat) (I : Nat → X → Prop) (hs : ∀ i x, i < K → I i x → Wp (body (mk i x)) (fun q => (q.1 = 0 ∧ ∃ x', q.2 = mk (i + 1) x' ∧ I (i + 1) x') ∨ (∃ e, q.1 = e + 1 ∧ Q (e, q.2)))) (hl : ∀ x, I K x → Wp (body (mk K x)) (fun q => ∃ e, q.1 = e + 1 ∧ Q (e, q.2))) {N i0 : Nat} {x0 : X} (hi : i0 ≤ K) (hN : K - i0 < N) (h0 : I i0 x0) : Wp (lp body N (mk i0 x0)) Q := by
  refine Wp_lp (fun m s => ∃ i x, s = mk i x ∧ i + m = K ∧ I i x) ?_ N (K - i0) _ hN ⟨i0, x0, rfl, by omega, h0⟩
  rintro m _ ⟨i, x, rfl, hm, hI⟩
  by_cases c : i < K
  · refine Wp_mono (hs i x c hI) (fun q hq => ?_)
    rcases hq with ⟨h1, x', h2, h3⟩ | h
    · exact Or.inl ⟨h1, m - 1, by omega, i + 1, x', h2, by omega, h3⟩
    · exact Or.inr h
  · have : i = K := by omega
    subst this
    exact Wp_mono (hl x hI) (fun q hq => Or.inr hq)
theorem bt_shr {x : Int32} {k j : Nat} (hk : k < 32) (h : k + j < 32) : bt (x >>> (nI k &&& 31)) j ↔ bt x (k + j) := by
  have hk' : ∀ k, k < 32 → ((nI k &&& 31).toBitVec.smod 32).toNat = k := by decide
  have e : (x >>> (nI k &&& 31)).toBitVec = x.toBitVec.sshiftRight k := by
    rw [Int32.toBitVec_shiftRight]
    show x.toBitVec.sshiftRight ((nI k &&& 31).toBitVec.smod 32).toNat = _
    rw [hk' k hk]
  rw [bt_iff (by omega), bt_iff h, e, BitVec.getLsbD_sshiftRight]
  have h1 : ¬ 32 ≤ j := by omega
  simp [h1, h]
theorem bt_15 {k : Nat} (h : k < 32) : bt 15 k ↔ k < 4 := by
  have : ∀ k, k < 32 → (f123 15 (nI k) = 1 ↔ k < 4) := by decide
  exact this k h
theorem wth_b : ∀ x, x < 16 → ∀ g, g < 16 → (f123 (wth x) (nI g) = 1 ↔ ∀ s, s < 4 → f123 (nI x) (nI s) = 1 → f123 (nI g) (nI s) = 1) := by decide
/-- a nibble's row of the table -/
theorem nib {x y : Int32} (sl : Nat) (hb : ∀ s, s < 4 → (bt y s ↔ bt x (4 * sl + s))) : ∃ m, m < 16 ∧ y &&& 15 = nI m ∧ ∀ g, g < 16 → (bt (wth m) g ↔ ∀ s, 1 ≤ s → s ≤ 4 → bt x (4 * sl + s - 1) → bt (nI g) (s - 1)) := by
  obtain ⟨m, hm, e⟩ := pk_andE y (m := 15) 4 (by decide)
  refine ⟨m, hm, e, fun g hg => ?_⟩
  have k : ∀ s, s < 4 → (bt (nI m) s ↔ bt x (4 * sl + s)) := fun s hs => by
    rw [← e, bt_and (by omega), bt_15 (by omega), hb s hs]
    exact ⟨fun z => z.1, fun z => ⟨z, hs⟩⟩
  refine (wth_b m hm g hg).trans ⟨fun z s h1 h2 h3 => ?_, fun z s h1 h2 => ?_⟩
  · refine z (s - 1) (by omega) ((k (s - 1) (by omega)).2 ?_)
    rw [show 4 * sl + (s - 1) = 4 * sl + s - 1 by omega]; exact h3
  · have := z (s + 1) (by omega) (by omega) (by rw [show 4 * sl + (s + 1) - 1 = 4 * sl + s by omega]; exact (k s h1).1 h2)
    exact this
/-- the environment of the chart -/
def En (n : Nat) (T : Tc) (a : Nat → Int32) (h : Hp) : Prop := (4 ≤ n ∧ n ≤ 12) ∧ hI h 41 0 = nI n ∧ LX T (a 1).toInt h ∧ (∀ j, j < 36 → hI h 42 j = a (30 + j)) ∧ hI h 41 3 = a 0 ∧ (∀ j, j < 8 → hI h 43 j = a (20 + j)) ∧ (∀ j, j < 8 → 1 ≤ (a (20 + j)).toInt ∧ (a (20 + j)).toInt ≤ 15)
/-- nothing but the chart and the laws' rows changes -/
def FP (h h' : Hp) : Prop := (∀ c, c < 62 → hI h' c = hI h c) ∧ hR h' = hR h
theorem FP.rfl' {h : Hp} : FP h h := ⟨fun _ _ => rfl, rfl⟩
theorem FP.trans {h h1 h2 : Hp} (a : FP h h1) (b : FP h1 h2) : FP h h2 := ⟨fun c x => (b.1 c x).trans (a.1 c x), b.2.trans a.2⟩
theorem FP.u {h : Hp} {c j : Nat} {v : Int32} (hc : 62 ≤ c) : FP h (uI h c j v) := ⟨fun c' x => hI_uI_ne (by omega), rfl⟩
theorem FP.x {h h' : Hp} (f : FX h h') : FP h h' := ⟨fun c x => f.1 c (by omega) (by omega), f.2⟩
theorem LX_p {T : Tc} {wt : Int} {h h' : Hp} (l : LX T wt h) (f : FP h h') : LX T wt h' := by
  obtain ⟨l1, ⟨c, l2, l3, l4⟩, l5, l6⟩ := l
  refine ⟨fun c j q hq => by rw [f.2]; exact l1 c j q hq, ⟨c, l2, by rw [f.2]; exact l3, ?_⟩, l5, by rw [f.1 _ (by omega)]; exact l6.1, l6.2⟩
  have k : ∀ i, i ≤ 3 → hI h' (c + i) = hI h (c + i) := fun i hi => f.1 _ (by rcases l2 with rfl | rfl | rfl | rfl | rfl <;> omega)
  exact TxX_c l4 (k 0 (by omega)) (k 1 (by omega)) (k 2 (by omega)) (k 3 (by omega))
theorem En.p {n : Nat} {T : Tc} {a : Nat → Int32} {h h' : Hp} (e : En n T a h) (f : FP h h') : En n T a h' := by
  obtain ⟨e1, e2, e3, e4, e5, e6, e7⟩ := e
  exact ⟨e1, by rw [f.1 _ (by omega)]; exact e2, LX_p e3 f, fun j hj => by rw [f.1 _ (by omega)]; exact e4 j hj, by rw [f.1 _ (by omega)]; exact e5, fun j hj => by rw [f.1 _ (by omega)]; exact e6 j hj, e7⟩
section
variable {N n : Nat} {T : Tc} {h : Hp} {a : Nat → Int32}
theorem spds_w {L P H A : Nat} (hN : 1000 ≤ N) (en : En n T a h) (hL : L < 3) (hP : P < n) (hH : H < 8) (hA : A < 5) : Wp (f32 N (nI L) (nI P) (nI H) (nI A) h) fun x => FX h x.2 ∧ ∀ k, k < 32 → (bt x.1 k ↔ ∃ sl w : Nat, sl < 4 ∧ w < 4 ∧ bt (a (20 + H)) w ∧ spd T (a 1).toInt L P H A sl w = (k : Int) - 4 * sl + 1) := by
  obtain ⟨⟨n4, n12⟩, e2, e3, e4, e5, e6, e7⟩ := en
  have tL : (nI L).toInt = (L : Int) := ti_nI (by omega)
  have tP : (nI P).toInt = (P : Int) := ti_nI (by omega)
  have tH : (nI H).toInt = (H : Int) := ti_nI (by omega)
  have tA : (nI A).toInt = (A : Int) := ti_nI (by omega)
  have i0 : ix (0 : Int32) = 0 := rfl
  have i4 : ix (4 : Int32) = 4 := rfl
  have i5 : ix (5 : Int32) = 5 := rfl
  have i6 : ix (6 : Int32) = 6 := rfl
  have t4 : (4 : Int32).toInt = 4 := rfl
  unfold f32 f33
  simp only [Wp_bnd, Wp_bind, Wp_some, i0, i4, i5, i6]
  generalize hg : uI (uI (uI (uI h 62 6 (nI L)) 62 5 (nI P)) 62 0 (nI H)) 62 4 (nI A) = g
  have fx : FX h g := by rw [← hg]; exact FX.u.trans (FX.u.trans (FX.u.trans FX.u))
  have z6 : hI g 62 6 = nI L := by rw [← hg, hI_uI_eq, pu_ne (by omega), hI_uI_eq, pu_ne (by omega), hI_uI_eq, pu_ne (by omega), hI_uI_eq, pu_eq]
  have z5 : hI g 62 5 = nI P := by rw [← hg, hI_uI_eq, pu_ne (by omega), hI_uI_eq, pu_ne (by omega), hI_uI_eq, pu_eq]
  have z0 : hI g 62 0 = nI H := by rw [← hg, hI_uI_eq, pu_ne (by omega), hI_uI_eq, pu_eq]
  have z4 : hI g 62 4 = nI A := by rw [← hg, hI_uI_eq, pu_eq]
  refine Wp_for (fun (i : Nat) (x : Int32 × Hp) => (x.1, nI i, x.2)) 4 (fun i x => FX h x.2 ∧ (∀ j, (j = 0 ∨ j = 4 ∨ j = 5 ∨ j = 6) → hI x.2 62 j = hI g 62 j) ∧ ∀ k, k < 32 → (bt x.1 k ↔ ∃ sl w : Nat, sl < 4 ∧ w < 4 ∧ 4 * sl + w < 4 * i ∧ bt (a (20 + H)) w ∧ spd T (a 1).toInt L P H A sl w = (k : Int) - 4 * sl + 1)) ?_ ?_ (i0 := 0) (x0 := (0, g)) (by omega) (by omega) ⟨fx, fun _ _ => rfl, fun k hk => ⟨fun z => absurd z (bt_0 hk), fun ⟨_, _, _, _, z, _⟩ => by omega⟩⟩
  · intro i x hi hx
    refine Wp_neg (show ¬ (4 : Int32) ≤ nI i by rw [ti_le, ti_nI (by omega)]; omega) ?_
    rw [Wp_bind]
    refine Wp_for (fun (j : Nat) (x : Int32 × Hp) => (x.1, nI j, x.2)) 4 (fun j x => FX h x.2 ∧ (∀ j, (j = 0 ∨ j = 4 ∨ j = 5 ∨ j = 6) → hI x.2 62 j = hI g 62 j) ∧ ∀ k, k < 32 → (bt x.1 k ↔ ∃ sl w : Nat, sl < 4 ∧ w < 4 ∧ 4 * sl + w < 4 * i + j ∧ bt (a (20 + H)) w ∧ spd T (a 1).toInt L P H A sl w = (k : Int) - 4 * sl + 1)) ?_ ?_ (i0 := 0) (x0 := x) (by omega) (by omega) hx
    · skip
      rintro j ⟨v, u⟩ hj ⟨hx1, hx2, hx3⟩
      dsimp only at hx1 hx2 hx3 ⊢
      have e43 : hI u 43 = hI h 43 := hx1.1 43 (by omega) (by omega)
      refine Wp_neg (show ¬ (4 : Int32) ≤ nI j by rw [ti_le, ti_nI (by omega)]; omega) ?_
      rw [Wp_gd]
      refine ⟨nbk hH (by omega), ?_⟩
      dsimp only
      rw [nix (by omega), e43, e6 H hH]
      by_cases cb : bt (a (20 + H)) j
      · have cb' : f123 (a (20 + H)) (nI j) = 1 := cb
        rw [cb', if_neg (by decide), Wp_bind]
        refine Wp_mono (speedBy_w (lane := (L : Int)) (place := (P : Int)) (hour := (H : Int)) (last := (A : Int)) hN (LX_c e3 hx1) (by rw [ti_nI (by omega)]; omega) (by rw [ti_nI (by omega)]; omega) (by rw [hx2 6 (by omega), z6, tL]) (by rw [hx2 5 (by omega), z5, tP]) (by rw [hx2 0 (by omega), z0, tH]) (by rw [hx2 4 (by omega), z4, tA]) (by omega) (by omega) (by omega) (by omega)) (fun y ⟨fy, hy2, hy⟩ => ?_)
        rw [ti_nI (by omega), ti_nI (by omega)] at hy
        obtain ⟨sb1, sb2⟩ := spd_bd T (a 1).toInt (L : Int) (P : Int) (H : Int) (A : Int) (i : Int) (j : Int)
        obtain ⟨sp, hsp⟩ : ∃ sp : Nat, spd T (a 1).toInt (L : Int) (P : Int) (H : Int) (A : Int) (i : Int) (j : Int) = (sp : Int) := ⟨_, (Int.toNat_of_nonneg (by omega)).symm⟩
        have ey : y.1 = nI sp := by rw [ti_eq, hy, ti_nI (by omega), hsp]
        have esh : (4 : Int32) * nI i + nI sp - 1 = nI (4 * i + sp - 1) := by
          show nI 4 * nI i + nI sp - nI 1 = _
          rw [pk_mul, nI_add, pk_sub (by omega)]
        rw [Wp_bnd, ey, esh]
        unfold f32_b41
        rw [Wp_bnd, Wp_some, nI_1]
        refine Or.inl ⟨rfl, (_, _), rfl, hx1.trans fy, fun q hq => (hy2 q hq).trans (hx2 q hq), fun k hk => ?_⟩
        dsimp only
        rw [bt_or hk, bt_one (by omega) hk, hx3 k hk]
        constructor
        · rintro (⟨s', w', y1, y2, y3, y4, y5⟩ | z)
          · exact ⟨s', w', y1, y2, by omega, y4, y5⟩
          · exact ⟨i, j, hi, hj, by omega, cb, by omega⟩
        · rintro ⟨s', w', y1, y2, y3, y4, y5⟩
          by_cases c : 4 * s' + w' < 4 * i + j
          · exact Or.inl ⟨s', w', y1, y2, c, y4, y5⟩
          · have q1 : s' = i := by omega
            have q2 : w' = j := by omega
            subst q1 q2
            exact Or.inr (by omega)
      · have cb' := bt_n.1 cb
        rw [cb', if_pos rfl]
        unfold f32_b41
        rw [Wp_bnd, Wp_some, nI_1]
        refine Or.inl ⟨rfl, (_, _), rfl, hx1, hx2, fun k hk => ?_⟩
        dsimp only
        rw [hx3 k hk]
        constructor
        · rintro ⟨s', w', y1, y2, y3, y4, y5⟩
          exact ⟨s', w', y1, y2, by omega, y4, y5⟩
        · rintro ⟨s', w', y1, y2, y3, y4, y5⟩
          by_cases c : 4 * s' + w' < 4 * i + j
          · exact ⟨s', w', y1, y2, c, y4, y5⟩
          · have q2 : w' = j := by omega
            subst q2
            exact absurd y4 cb
    · skip
      rintro ⟨v, u⟩ hx
      refine Wp_pos (show (4 : Int32) ≤ nI 4 by decide) ?_
      rw [Wp_some]
      refine ⟨0, rfl, ?_⟩
      rw [Wp_bnd, Wp_some]
      refine Or.inl ⟨rfl, (v, u), by dsimp only; rw [nI_1], hx.1, hx.2.1, hx.2.2⟩
  · rintro ⟨v, u⟩ hx
    refine Wp_pos (show (4 : Int32) ≤ nI 4 by decide) ?_
    rw [Wp_some]
    refine ⟨0, rfl, ?_⟩
    refine ⟨hx.1, fun k hk => (hx.2.2 k hk).trans ?_⟩
    constructor
    · rintro ⟨s', w', y1, y2, y3, y4⟩; exact ⟨s', w', y1, y2, y4⟩
    · rintro ⟨s', w', y1, y2, y4⟩; exact ⟨s', w', y1, y2, by omega, y4⟩
end
