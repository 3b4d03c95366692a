/-! ===== between ===== -/
section
variable {N n : Nat} {T : Tc} {h x u : Hp} {a : Nat → Int32} {p : Bool}
theorem I13_c {c : Nat} {h h' : Hp} {K : Nat} {B B' : Nat → Nat → Prop} (i : I13 c h K B) (e : hI h' c = hI h c) (b : ∀ l s, l < K → s < 1440 → (B l s ↔ B' l s)) : I13 c h' K B' := fun l s h1 h2 => by
  rw [e]; exact ⟨(i l s h1 h2).1, (i l s h1 h2).2.trans (b l s h1 h2)⟩
/-- one hour of the reference -/
theorem rowM_w {K g s0 i : Nat} {x5 p4 : Int32} (hN : 10000 ≤ N) (ld : Ld n T a h) (hg : g < n) (hK : K ≤ 5) (i13 : I13 13 h K (BtN n T a (sfg n g) p i)) (hp : p = true ↔ ¬ p4 = 0) : Wp (lp (f219_l36 N (nI s0) (nI g) (nI K) p4 x5) N ((0 : Int32), h)) fun q => (∀ c, c ≠ 14 → hI q.2.2 c = hI h c) ∧ I13 14 q.2.2 K (BtN n T a (sfg n g) p (i + 1)) := by
  have n4 := ld.1.1
  have n12 := ld.1.2
  have eK : (1440 : Int32) * nI K = nI (1440 * K) := pk_mul 1440 K
  refine Wp_for (fun (k : Nat) (w : Hp) => (nI k, w)) (1440 * K) (fun k w => (∀ c, c ≠ 14 → hI w c = hI h c) ∧ ∀ l s, s < 1440 → 1440 * l + s < k → (hI w 14 (1440 * l + s) = 0 ∨ hI w 14 (1440 * l + s) = 1) ∧ (hI w 14 (1440 * l + s) = 1 ↔ BtN n T a (sfg n g) p (i + 1) l s)) ?_ ?_ (i0 := 0) (x0 := h) (by omega) (by omega) ⟨fun _ _ => rfl, fun _ _ _ z => by omega⟩
  · rintro k w hk ⟨fw, hw⟩
    have e1 : irem (nI k) 1440 = nI (k % 1440) := pk_rem (d := 1440) (by omega) (by omega) (by omega)
    have e2 : nI k / 1440 + 1 = nI (k / 1440 + 1) := by
      rw [show nI k / 1440 = nI (k / 1440) from pk_div (d := 1440) (by omega) (by omega) (by omega), nI_1]
    have lw : Ld n T a w := Ld_c ld (fun c hc => fw c (by omega))
    have iw : I13 13 w K (BtN n T a (sfg n g) p i) := I13_c i13 (fw 13 (by omega)) (fun _ _ _ _ => Iff.rfl)
    unfold f219_l36
    dsimp only
    rw [eK, if_neg (by rw [ti_le, ti_nI (by omega), ti_nI (by omega)]; omega), e1, e2]
    have fin : ∀ v : Int32, (v = 0 ∨ v = 1) → (v = 1 ↔ BtN n T a (sfg n g) p (i + 1) (k / 1440) (k % 1440)) → Wp (f219_b71 N (nI s0) (nI g) (nI K) p4 x5 (nI k) v (nI k) w) (fun q => (q.1 = 0 ∧ ∃ x', q.2 = (nI (k + 1), x') ∧ (∀ c, c ≠ 14 → hI x' c = hI h c) ∧ ∀ l s, s < 1440 → 1440 * l + s < k + 1 → (hI x' 14 (1440 * l + s) = 0 ∨ hI x' 14 (1440 * l + s) = 1) ∧ (hI x' 14 (1440 * l + s) = 1 ↔ BtN n T a (sfg n g) p (i + 1) l s))) := fun v v1 v2 => by
      unfold f219_b71
      rw [Wp_gd, Wp_bnd, Wp_bnd, Wp_some, nI_1, a01 v1, nix (by omega)]
      refine ⟨nbk (by omega) (by omega), rfl, uI w 14 k v, rfl, fun c hc => by rw [hI_uI_ne hc]; exact fw c hc, fun l s h1 h2 => ?_⟩
      rw [hI_uI_eq]
      by_cases ck : 1440 * l + s = k
      · rw [ck, pu_eq, show l = k / 1440 by omega, show s = k % 1440 by omega]
        exact ⟨v1, v2⟩
      · rw [pu_ne ck]; exact hw l s h1 (by omega)
    unfold f219_b70 f219_b68
    rcases i148n (N := N) n4 n12 lw.2.2.1 (show k % 1440 < 1440 by omega) with ⟨si, e⟩ | ⟨si, e⟩
    · rw [e, Option.bind_some, if_neg (by decide), Wp_gd]
      refine ⟨nbk (by omega) (by omega), ?_⟩
      rw [nix (by omega)]
      obtain ⟨j1, j2⟩ := iw (k / 1440) (k % 1440) (by omega) (by omega)
      rw [show 1440 * (k / 1440) + k % 1440 = k by omega] at j1 j2
      by_cases cb : BtN n T a (sfg n g) p i (k / 1440) (k % 1440)
      · rw [if_neg (by rw [j2.2 cb]; decide)]
        exact Wp_mono (fin 1 (Or.inr rfl) ⟨fun _ => BtN_m cb, fun _ => rfl⟩) (fun q hq => Or.inl hq)
      · rw [if_pos (j1.resolve_right (fun z => cb (j2.1 z))), Wp_bind]
        refine Wp_mono (pass_w (by omega) lw si hg (show k / 1440 < K by omega) hK iw hp) (fun v ⟨v1, v2⟩ => ?_)
        rcases v1 with v1 | v1
        · rw [if_pos v1]
          exact Wp_mono (fin 0 (Or.inl rfl) ⟨fun z => absurd z (by decide), fun z => by have := v2.2 z.2; rw [v1] at this; exact absurd this (by decide)⟩) (fun q hq => Or.inl hq)
        · rw [if_neg (by rw [v1]; decide)]
          exact Wp_mono (fin 1 (Or.inr rfl) ⟨fun _ => ⟨si, v2.1 v1⟩, fun _ => rfl⟩) (fun q hq => Or.inl hq)
    · rw [e, Option.bind_some, if_pos rfl]
      exact Wp_mono (fin 0 (Or.inl rfl) ⟨fun z => absurd z (by decide), fun z => absurd z.1 si⟩) (fun q hq => Or.inl hq)
  · rintro w ⟨fw, hw⟩
    unfold f219_l36
    dsimp only
    rw [eK, if_pos (by rw [ti_le]; omega), Wp_some]
    exact ⟨0, rfl, fw, fun l s h1 h2 => hw l s h2 (by omega)⟩
theorem copM_w {K : Nat} {x1 x2 x4 x5 : Int32} {B : Nat → Nat → Prop} (hN : 10000 ≤ N) (hK : K ≤ 5) (i14 : I13 14 h K B) : Wp (lp (f219_l76 N x1 x2 (nI K) x4 x5) N ((0 : Int32), h)) fun q => (∀ c, c ≠ 13 → hI q.2.2 c = hI h c) ∧ I13 13 q.2.2 K B := by
  have eK : (1440 : Int32) * nI K = nI (1440 * K) := pk_mul 1440 K
  refine Wp_for (fun (k : Nat) (w : Hp) => (nI k, w)) (1440 * K) (fun k w => (∀ c, c ≠ 13 → hI w c = hI h c) ∧ ∀ l s, s < 1440 → 1440 * l + s < k → (hI w 13 (1440 * l + s) = 0 ∨ hI w 13 (1440 * l + s) = 1) ∧ (hI w 13 (1440 * l + s) = 1 ↔ B l s)) ?_ ?_ (i0 := 0) (x0 := h) (by omega) (by omega) ⟨fun _ _ => rfl, fun _ _ _ z => by omega⟩
  · rintro k w hk ⟨fw, hw⟩
    unfold f219_l76
    dsimp only
    obtain ⟨j1, j2⟩ := i14 (k / 1440) (k % 1440) (by omega) (by omega)
    rw [show 1440 * (k / 1440) + k % 1440 = k by omega] at j1 j2
    rw [eK, if_neg (by rw [ti_le, ti_nI (by omega), ti_nI (by omega)]; omega), Wp_gd, Wp_gd, Wp_bnd, Wp_bnd, Wp_some, nI_1, nix (by omega), fw 14 (by omega), a01 j1]
    refine ⟨nbk (by omega) (by omega), nbk (by omega) (by omega), Or.inl ⟨rfl, uI w 13 k (hI h 14 k), rfl, fun c hc => by rw [hI_uI_ne hc]; exact fw c hc, fun l s h1 h2 => ?_⟩⟩
    rw [hI_uI_eq]
    by_cases ck : 1440 * l + s = k
    · rw [ck, pu_eq, show l = k / 1440 by omega, show s = k % 1440 by omega]
      exact ⟨j1, j2⟩
    · rw [pu_ne ck]; exact hw l s h1 (by omega)
  · rintro w ⟨fw, hw⟩
    unfold f219_l76
    dsimp only
    rw [eK, if_pos (by rw [ti_le]; omega), Wp_some]
    exact ⟨0, rfl, fw, fun l s h1 h2 => hw l s h2 (by omega)⟩
theorem betM_w {K g s0 : Nat} {p4 : Int32} (hN : 10000 ≤ N) (ld : Ld n T a h) (hs : ist n s0) (hg : g < n) (hK1 : 1 ≤ K) (hK : K ≤ 5) (hp : p = true ↔ ¬ p4 = 0) : Wp (lp (f219_l19 N (nI s0) (nI g) (nI K) p4) N ((0 : Int32), h)) fun q => Wp (lp (f219_l31 N (nI s0) (nI g) (nI K) p4) N ((1 : Int32), q.2.2)) fun q => FW h q.2.2 ∧ Fst (fun i => BtN n T a (sfg n g) p i (K - 1) s0) 1 99 (if q.1 = 0 then q.2.1 else -1) := by
  refine Wp_for (fun (k : Nat) (w : Hp) => (nI k, w)) 7200 (fun k w => (∀ c, c ≠ 13 → hI w c = hI h c) ∧ ∀ j, j < k → hI w 13 j = 0) ?_ ?_ (i0 := 0) (x0 := h) (by omega) (by omega) ⟨fun _ _ => rfl, fun _ z => by omega⟩
  · rintro k w hk ⟨fw, hw⟩
    unfold f219_l19
    dsimp only
    rw [if_neg (show ¬ (7200 : Int32) ≤ nI k by rw [ti_le, ti_nI (by omega)]; show ¬ (7200 : Int) ≤ _; omega), Wp_gd, Wp_bnd, Wp_bnd, Wp_some, nI_1, nix (by omega)]
    refine ⟨nbk hk (by omega), Or.inl ⟨rfl, uI w 13 k (0 &&& 1), rfl, fun c hc => by rw [hI_uI_ne hc]; exact fw c hc, fun j hj => ?_⟩⟩
    rw [hI_uI_eq]
    by_cases cj : j = k
    · subst cj; rw [pu_eq]; rfl
    · rw [pu_ne cj]; exact hw j (by omega)
  · rintro w ⟨fw, hw⟩
    unfold f219_l19
    dsimp only
    rw [if_pos (show (7200 : Int32) ≤ nI 7200 by decide), Wp_some]
    refine ⟨0, rfl, ?_⟩
    dsimp only
    have i0 : I13 13 w K (BtN n T a (sfg n g) p 0) := fun l s h1 h2 => by
      rw [hw _ (by omega)]; exact ⟨Or.inl rfl, fun z => absurd z (by decide), fun z => z.elim⟩
    refine Wp_for (fun (i : Nat) (v : Hp) => (nI i, v)) 100 (fun i v => 1 ≤ i ∧ FW h v ∧ I13 13 v K (BtN n T a (sfg n g) p (i - 1)) ∧ ∀ j, 1 ≤ j → j < i → ¬ BtN n T a (sfg n g) p j (K - 1) s0) ?_ ?_ (i0 := 1) (x0 := w) (by omega) (by omega) ⟨by omega, fun c hc => fw c (by omega), i0, fun _ z1 z2 => by omega⟩
    · rintro i v hi ⟨hi1, fv, iv, no⟩
      unfold f219_l31
      dsimp only
      rw [if_neg (show ¬ (99 : Int32) < nI i by rw [ti_lt, ti_nI (by omega)]; show ¬ (99 : Int) < _; omega), Wp_bind]
      refine Wp_mono (rowM_w (p := p) hN (Ld_c ld fv) hg hK iv hp) (fun y ⟨y1, y2⟩ => ?_)
      rw [Wp_bind]
      refine Wp_mono (copM_w hN hK y2) (fun z ⟨z1, z2⟩ => ?_)
      rw [show i - 1 + 1 = i by omega] at z2
      have e1 : (1440 : Int32) * (nI K - 1) + nI s0 = nI (1440 * (K - 1) + s0) := by
        rw [show nI K - (1 : Int32) = nI (K - 1) from pk_sub (a := K) (b := 1) hK1]
        show nI 1440 * _ + _ = _
        rw [pk_mul, nI_add]
      have hs1 := hs.1
      rw [e1, Wp_gd]
      refine ⟨nbk (by omega) (by omega), ?_⟩
      rw [nix (by omega)]
      have fz : FW h z.2.2 := fun c hc => (z1 c (by omega)).trans ((y1 c (by omega)).trans (fv c hc))
      obtain ⟨j1, j2⟩ := z2 (K - 1) s0 (by omega) hs1
      by_cases cb : BtN n T a (sfg n g) p i (K - 1) s0
      · rw [if_neg (by rw [j2.2 cb]; decide), Wp_some]
        refine Or.inr ⟨0, rfl, fz, Or.inl ⟨i, hi1, by omega, ?_, cb, no⟩⟩
        dsimp only
        rw [if_pos rfl]
      · rw [if_pos (j1.resolve_right (fun q => cb (j2.1 q))), Wp_bnd, Wp_some, nI_1]
        refine Or.inl ⟨rfl, z.2.2, rfl, by omega, fz, z2, fun j h1 h2 => ?_⟩
        by_cases cj : j = i
        · subst cj; exact cb
        · exact no j h1 (by omega)
    · rintro v ⟨_, fv, iv, no⟩
      unfold f219_l31
      dsimp only
      rw [if_pos (show (99 : Int32) < nI 100 by decide), Wp_some]
      refine ⟨1, rfl, fv, Or.inr ⟨?_, fun j h1 h2 => no j h1 (by omega)⟩⟩
      dsimp only
      rw [if_neg (by omega)]
/-- forward and backward are one -/
theorem cum {sf : Nat → Nat} {K s0 : Nat} (n4 : 4 ≤ n) (n12 : n ≤ 12) (hs : ist n s0) (hK : 1 ≤ K) : ∀ m i, BtN n T a sf false (i + m) (K - 1) s0 ↔ (∃ m', m' < m ∧ Cm n T a sf K (Fs n T a sf K s0 m')) ∨ ∃ l s, l < K ∧ Fs n T a sf K s0 m l s ∧ BtN n T a sf false i (K - 1 - l) s
  | 0, i => by
    constructor
    · intro z
      exact Or.inr ⟨0, s0, by omega, ⟨rfl, rfl⟩, z⟩
    · rintro (⟨m', z, _⟩ | ⟨l, s, z1, ⟨rfl, rfl⟩, z3⟩)
      · omega
      · exact z3
  | m + 1, i => by
    rw [show i + (m + 1) = (i + 1) + m by omega, cum n4 n12 hs hK m (i + 1)]
    have stp : ∀ l s, l < K → Fs n T a sf K s0 m l s → (BtN n T a sf false (i + 1) (K - 1 - l) s ↔ ∃ r, Mv n T a s r ∧ (K ≤ l + pss sf (s / 40 % 12) r ∨ (l + pss sf (s / 40 % 12) r < K ∧ BtN n T a sf false i (K - 1 - (l + pss sf (s / 40 % 12) r)) r))) := fun l s hl hf => by
      obtain ⟨is, _⟩ := Fs_i n4 n12 hs m l s hf
      have g : ∀ r, Gk sf (K - 1 - l) (BtN n T a sf false i) (s / 40 % 12) (r % 5) r ↔ (K ≤ l + pss sf (s / 40 % 12) r ∨ (l + pss sf (s / 40 % 12) r < K ∧ BtN n T a sf false i (K - 1 - (l + pss sf (s / 40 % 12) r)) r)) := fun r => by
        unfold Gk pss
        by_cases c : sf (s / 40 % 12) ≤ r % 5
        · rw [if_pos c, if_pos c, show K - 1 - l - 1 = K - 1 - (l + 1) by omega]
          constructor
          · intro z
            by_cases c0 : K ≤ l + 1
            · exact Or.inl c0
            · exact Or.inr ⟨by omega, z.resolve_left (by omega)⟩
          · rintro (z | z)
            · exact Or.inl (by omega)
            · exact Or.inr z.2
        · rw [if_neg c, if_neg c]
          constructor
          · intro z; exact Or.inr ⟨by omega, z⟩
          · rintro (z | z)
            · omega
            · exact z.2
      constructor
      · rintro ⟨_, z⟩
        have z' : Lk n T a (fun r => Gk sf (K - 1 - l) (BtN n T a sf false i) (s / 40 % 12) (r % 5) r) s := z
        obtain ⟨r, r1, r2⟩ := z'
        exact ⟨r, r1, (g r).1 r2⟩
      · rintro ⟨r, r1, r2⟩
        refine ⟨is, ?_⟩
        show Lk n T a (fun r => Gk sf (K - 1 - l) (BtN n T a sf false i) (s / 40 % 12) (r % 5) r) s
        exact ⟨r, r1, (g r).2 r2⟩
    constructor
    · rintro (⟨m', z1, z2⟩ | ⟨l, s, z1, z2, z3⟩)
      · exact Or.inl ⟨m', by omega, z2⟩
      · obtain ⟨r, r1, r2⟩ := (stp l s z1 z2).1 z3
        rcases r2 with r2 | ⟨r2, r3⟩
        · exact Or.inl ⟨m, by omega, l, s, r, z1, z2, r1, r2⟩
        · exact Or.inr ⟨_, r, r2, ⟨l, s, z1, z2, r1, rfl⟩, r3⟩
    · rintro (⟨m', z1, z2⟩ | ⟨l, r, z1, ⟨l', s, y1, y2, y3, y4⟩, z3⟩)
      · by_cases cm : m' = m
        · subst cm
          obtain ⟨l', s, r, y1, y2, y3, y4⟩ := z2
          exact Or.inr ⟨l', s, y1, y2, (stp l' s y1 y2).2 ⟨r, y3, Or.inl y4⟩⟩
        · exact Or.inl ⟨m', by omega, z2⟩
      · subst y4
        exact Or.inr ⟨l', s, y1, y2, (stp l' s y1 y2).2 ⟨r, y3, Or.inr ⟨z1, z3⟩⟩⟩
theorem luckX_w {K g s0 : Nat} (hN : 10000 ≤ N) (al : Al n T a x) (hs : ist n s0) (hg : g < n) (hK1 : 1 ≤ K) (hK : K ≤ 5) (iu : FwI n T a (sfg n g) K s0 x 0 u) : Wp (lp (f8_l5 N (nI s0) (nI g) (nI K)) N ((1 : Int32), u)) fun q => (∃ m, FwI n T a (sfg n g) K s0 x m q.2.2) ∧ Fst (fun i => BtN n T a (sfg n g) false i (K - 1) s0) 1 99 (if q.1 = 0 then q.2.1 else -1) := by
  obtain ⟨⟨n4, n12⟩, e41, hw, ps⟩ := al
  obtain ⟨e1, e2, e3, e4⟩ := nI_dec s0 (by have := hs.1; omega)
  have cu : ∀ m, BtN n T a (sfg n g) false m (K - 1) s0 ↔ ∃ m', m' < m ∧ Cm n T a (sfg n g) K (Fs n T a (sfg n g) K s0 m') := fun m => by
    have := cum (T := T) (a := a) (sf := sfg n g) n4 n12 hs hK1 m 0
    rw [show 0 + m = m by omega] at this
    rw [this]
    exact ⟨fun z => z.resolve_right (fun ⟨_, _, _, _, q⟩ => q.elim), Or.inl⟩
  refine Wp_for (fun (i : Nat) (w : Hp) => (nI i, w)) 100 (fun i w => 1 ≤ i ∧ FwI n T a (sfg n g) K s0 x (i - 1) w ∧ ∀ j, j < i - 1 → ¬ Cm n T a (sfg n g) K (Fs n T a (sfg n g) K s0 j)) ?_ ?_ (i0 := 1) (x0 := u) (by omega) (by omega) ⟨by omega, iu, fun _ z => by omega⟩
  · rintro i w hi ⟨hi1, iw, no⟩
    have eH : irem (f131 (nI s0) + nI i - (1 : Int32)) 8 = nI ((s0 / 5 % 8 + (i - 1)) % 8) := by
      rw [e3, nI_add, show nI (s0 / 5 % 8 + i) - (1 : Int32) = nI (s0 / 5 % 8 + i - 1) from pk_sub (a := s0 / 5 % 8 + i) (b := 1) (by omega), show s0 / 5 % 8 + i - 1 = s0 / 5 % 8 + (i - 1) by omega]
      exact pk_rem (d := 8) (by omega) (by omega) (by omega)
    unfold f8_l5
    dsimp only
    rw [if_neg (show ¬ (99 : Int32) < nI i by rw [ti_lt, ti_nI (by omega)]; show ¬ (99 : Int) < _; omega), eH, Wp_bind]
    refine Wp_mono (FwI_s hN n4 n12 hs hK e41 (ps _ (by omega)).1 (ps _ (by omega)).2 (stgG n4 n12 hg) iw) (fun y ⟨y1, y2, y3⟩ => ?_)
    rw [show i - 1 + 1 = i by omega] at y1
    rcases y2 with y2 | y2
    · rw [if_pos y2, Wp_bnd, Wp_some, nI_1]
      refine Or.inl ⟨rfl, y.2, rfl, by omega, y1, fun j hj => ?_⟩
      by_cases cj : j = i - 1
      · subst cj; exact fun z => by have := y3.2 z; rw [y2] at this; exact absurd this (by decide)
      · exact no j (by omega)
    · rw [if_neg (by rw [y2]; decide), Wp_some]
      refine Or.inr ⟨0, rfl, ⟨i, y1⟩, Or.inl ⟨i, hi1, by omega, ?_, (cu i).2 ⟨i - 1, by omega, y3.1 y2⟩, fun j z1 z2 z3 => ?_⟩⟩
      · dsimp only; rw [if_pos rfl]
      · obtain ⟨m', q1, q2⟩ := (cu j).1 z3
        exact no m' (by omega) q2
  · rintro w ⟨_, iw, no⟩
    unfold f8_l5
    dsimp only
    rw [if_pos (show (99 : Int32) < nI 100 by decide), Wp_some]
    refine ⟨1, rfl, ⟨_, iw⟩, Or.inr ⟨?_, fun j z1 z2 z3 => ?_⟩⟩
    · dsimp only; rw [if_neg (by omega)]
    · obtain ⟨m', q1, q2⟩ := (cu j).1 z3
      exact no m' (by omega) q2
/-- what is the same stays the same -/
theorem Bt_stay {sf : Nat → Nat} {K j : Nat} (h : ∀ l s, l < K → ist n s → (BtN n T a sf true (j + 1) l s ↔ BtN n T a sf true j l s)) : ∀ d l s, l < K → (BtN n T a sf true (j + d) l s ↔ BtN n T a sf true j l s)
  | 0, _, _, _ => Iff.rfl
  | d + 1, l, s, hl => by
    constructor
    · intro z
      have is := BtN_i z
      refine (h l s hl is).1 ⟨is, StP_m z.2 (fun r hr => Gk_m hr (fun l' r' hl' b => (Bt_stay h d l' r' (by omega)).1 b))⟩
    · exact BtN_le (d + 1)
theorem sureX_w {K g s0 c8 c9 : Nat} (hN : 10000 ≤ N) (al : Al n T a x) (hs : ist n s0) (hg : g < n) (hK1 : 1 ≤ K) (hK : K ≤ 5) (r8 : hR x 64 8 = some c8) (r9 : hR x 64 9 = some c9) (h8 : CW c8) (h9 : CW c9) (h89 : c9 ≠ c8) (h0 : ∀ j, j < 1440 → hI x c8 j = 0) : Wp (lp (f9_l26 N (nI s0) (nI g) (nI K) (nI ((K - 1) * 288 + s0 / 5))) N (((1 : Int32) <<< (nI K &&& 31)) - 1, (1 : Int32), x)) fun q => ((∀ c, c ≠ 71 → c ≠ 72 → hI q.2.2.2 c = hI x c) ∧ (∀ c j, (c ≠ 64 ∨ (j ≠ 8 ∧ j ≠ 9)) → hR q.2.2.2 c j = hR x c j) ∧ ∃ c8 c9, hR q.2.2.2 64 8 = some c8 ∧ hR q.2.2.2 64 9 = some c9 ∧ CW c8 ∧ CW c9 ∧ c9 ≠ c8) ∧ Fst (fun i => BtN n T a (sfg n g) true i (K - 1) s0) 1 99 (if q.1 = 0 then q.2.2.1 else -1) := by
  have al0 := al
  obtain ⟨⟨n4, n12⟩, e41, hw, ps⟩ := al
  obtain ⟨e1, e2, e3, e4⟩ := nI_dec s0 (by have := hs.1; omega)
  obtain ⟨s1, s2, s3, s4, s5, s6, s7⟩ := ist_d hs
  have hs1 := hs.1
  have mv0 : ∀ l, l < K → bt (((1 : Int32) <<< (nI K &&& 31)) - 1) l := by
    have : ∀ K, K < 6 → ∀ l, l < K → f123 (((1 : Int32) <<< (nI K &&& 31)) - 1) (nI l) = 1 := by decide
    exact this K (by omega)
  have nz : ∀ l s, ist n s → (Nw n T a (sfg n g) l (BtN n T a (sfg n g) true 0) s ↔ BtN n T a (sfg n g) true 1 l s) := fun l s is => ⟨fun z => ⟨is, z⟩, fun z => z.2⟩
  refine Wp_for (fun (i : Nat) (y : Int32 × Hp) => (y.1, nI i, y.2)) 100 (fun i y => 1 ≤ i ∧ (∀ c, c ≠ 71 → c ≠ 72 → hI y.2 c = hI x c) ∧ (∀ c j, (c ≠ 64 ∨ (j ≠ 8 ∧ j ≠ 9)) → hR y.2 c j = hR x c j) ∧ (∃ c8 c9, hR y.2 64 8 = some c8 ∧ hR y.2 64 9 = some c9 ∧ CW c8 ∧ CW c9 ∧ c9 ≠ c8 ∧ (∀ l, l < K → Rw n (hI y.2 c8) l (BtN n T a (sfg n g) true (i - 1) l)) ∧ ((i = 1 ∧ ∀ l, l < K → bt y.1 l) ∨ (2 ≤ i ∧ (∀ l, l < K → Rw n (hI y.2 c9) l (BtN n T a (sfg n g) true (i - 2) l)) ∧ ∀ b, b < 32 → (bt y.1 b ↔ b < K ∧ ∃ s, ist n s ∧ ¬ (BtN n T a (sfg n g) true (i - 1) b s ↔ BtN n T a (sfg n g) true (i - 2) b s))))) ∧ ∀ j, 1 ≤ j → j < i → ¬ BtN n T a (sfg n g) true j (K - 1) s0) ?_ ?_ (i0 := 1) (x0 := (((1 : Int32) <<< (nI K &&& 31)) - 1, x)) (by omega) (by omega) ?_
  · rintro i ⟨mv, y⟩ hi ⟨hi1, f1, f2, ⟨d8, d9, q8, q9, k8, k9, k89, rows, hm⟩, no⟩
    dsimp only at f1 f2 q8 q9 rows hm ⊢
    unfold f9_l26
    dsimp only
    rw [if_neg (show ¬ (99 : Int32) < nI i by rw [ti_lt, ti_nI (by omega)]; show ¬ (99 : Int) < _; omega)]
    by_cases c0 : mv = 0
    · rw [if_pos c0, Wp_some]
      refine Or.inr ⟨1, rfl, ⟨f1, f2, d8, d9, q8, q9, k8, k9, k89⟩, Or.inr ⟨by dsimp only; rw [if_neg (by omega)], ?_⟩⟩
      rcases hm with ⟨_, m2⟩ | ⟨m1, m2, m3⟩
      · have := m2 0 (by omega); rw [c0] at this; exact absurd this (bt_0 (by omega))
      · have same : ∀ l s, l < K → ist n s → (BtN n T a (sfg n g) true (i - 2 + 1) l s ↔ BtN n T a (sfg n g) true (i - 2) l s) := fun l s hl is => by
          refine Classical.byContradiction fun hh => ?_
          rw [show i - 2 + 1 = i - 1 by omega] at hh
          have := (m3 l (by omega)).2 ⟨hl, s, is, hh⟩
          rw [c0] at this
          exact bt_0 (by omega) this
        intro j z1 z2 z3
        by_cases cj : j < i
        · exact no j z1 cj z3
        · have st := Bt_stay same (j - (i - 2)) (K - 1) s0 (by omega)
          rw [show i - 2 + (j - (i - 2)) = j by omega] at st
          have st1 := Bt_stay same 1 (K - 1) s0 (by omega)
          rw [show i - 2 + 1 = i - 1 by omega] at st1
          exact no (i - 1) (by omega) (by omega) (st1.2 (st.1 z3))
    rw [if_neg c0, Wp_bind]
    have aly : Al n T a y := Al_c al0 (by rw [f1 41 (by omega) (by omega)]) (f1 65 (by omega) (by omega)) (f1 66 (by omega) (by omega)) (f1 67 (by omega) (by omega))
    have nw : ∀ l s, ist n s → (Nw n T a (sfg n g) l (BtN n T a (sfg n g) true (i - 1)) s ↔ BtN n T a (sfg n g) true i l s) := fun l s is => by
      rw [show i = i - 1 + 1 by omega]
      exact ⟨fun z => ⟨is, z⟩, fun z => z.2⟩
    refine Wp_mono (look_w (B := BtN n T a (sfg n g) true (i - 1)) (by omega) aly hK q8 q9 k8 k9 k89 rows (fun l hl z1 z2 => ?_) (stgG n4 n12 hg)) (fun z ⟨z1, z2, z3, z4, z5⟩ => ?_)
    · rcases hm with ⟨_, m2⟩ | ⟨m1, m2, m3⟩
      · exact absurd (m2 l hl) z1
      · have same : ∀ l', (l' = l ∨ l' + 1 = l) → ∀ s, ist n s → (BtN n T a (sfg n g) true (i - 1) l' s ↔ BtN n T a (sfg n g) true (i - 2) l' s) := fun l' hl' s is => by
          refine Classical.byContradiction fun hh => ?_
          have := (m3 l' (by omega)).2 ⟨by omega, s, is, hh⟩
          rcases hl' with e | e
          · rw [e] at this; exact z1 this
          · rcases z2 with z2 | z2
            · omega
            · rw [show l' = l - 1 by omega] at this; exact z2 this
        have nb : ∀ s, ist n s → (Nw n T a (sfg n g) l (BtN n T a (sfg n g) true (i - 1)) s ↔ BtN n T a (sfg n g) true (i - 1) l s) := fun s is => by
          constructor
          · intro z
            rw [show i - 1 = i - 2 + 1 by omega]
            refine ⟨is, ?_⟩
            refine StP_m (p := true) (show StP n T a true _ s from z) (fun r hr => Gk_m hr (fun l' r' hl' b => (same l' hl' r' (BtN_i b)).1 b))
          · intro z
            exact (nw l s is).2 (by have := BtN_m z; rw [show i - 1 + 1 = i by omega] at this; exact this)
        refine ⟨Rw_b n12 (m2 l hl) (fun s is => ?_), nb⟩
        rw [nb s is]
        exact (same l (Or.inl rfl) s is).symm
    obtain ⟨mz, z⟩ := z
    dsimp only at z1 z2 z3 z4 z5 ⊢
    have hz1 : ∀ c, c ≠ 71 → c ≠ 72 → hI z c = hI x c := fun c a1 a2 => (z1.1 c (by rcases k9 with rfl | rfl <;> assumption)).trans (f1 c a1 a2)
    have hz2 : ∀ c j, (c ≠ 64 ∨ (j ≠ 8 ∧ j ≠ 9)) → hR z c j = hR x c j := fun c j hh => (z1.2 c j hh).trans (f2 c j hh)
    have rz : ∀ l, l < K → Rw n (hI z d9) l (BtN n T a (sfg n g) true i l) := fun l hl => Rw_b n12 (z4 l hl) (nw l)
    have e5 : nI (s0 % 5) - (1 : Int32) = nI (s0 % 5 - 1) := pk_sub (a := s0 % 5) (b := 1) (by omega)
    rw [z2, Option.bind_some, Wp_gd, (cw_shp k9).2]
    refine ⟨⟨(cw_shp k9).1, nbk (by omega) (by omega)⟩, ?_⟩
    rw [nix (by omega), e4, e5]
    have hb := rz (K - 1) (by omega) (s0 / 480) (s0 / 40 % 12) (s0 / 5 % 8) (s0 % 5 - 1) s1 s2 s3 (by omega)
    rw [show s0 % 5 - 1 + 1 = s0 % 5 by omega, ← s6, ← s7] at hb
    by_cases cb : bt (hI z d9 ((K - 1) * 288 + s0 / 5)) (s0 % 5 - 1)
    · have cb' : f123 (hI z d9 ((K - 1) * 288 + s0 / 5)) (nI (s0 % 5 - 1)) = 1 := cb
      rw [cb', if_neg (by decide), Wp_some]
      refine Or.inr ⟨0, rfl, ⟨hz1, hz2, d9, d8, z2, z3, k9, k8, Ne.symm k89⟩, Or.inl ⟨i, hi1, by omega, ?_, (hb.1 cb).2, no⟩⟩
      dsimp only; rw [if_pos rfl]
    · rw [if_pos (bt_n.1 cb), Wp_bnd, Wp_some, nI_1]
      refine Or.inl ⟨rfl, (mz, z), rfl, by omega, hz1, hz2, ⟨d9, d8, z2, z3, k9, k8, Ne.symm k89, rz, Or.inr ⟨by omega, fun l hl => ?_, fun b hb' => ?_⟩⟩, fun j h1 h2 => ?_⟩
      · dsimp only
        rw [z1.1 d8 (Ne.symm k89), show i + 1 - 2 = i - 1 by omega]
        exact rows l hl
      · dsimp only
        rw [z5 b hb', show i + 1 - 2 = i - 1 by omega, show i + 1 - 1 = i by omega]
        constructor
        · rintro ⟨a1, s, a2, a3⟩
          exact ⟨a1, s, a2, fun q => a3 ((nw b s a2).trans q)⟩
        · rintro ⟨a1, s, a2, a3⟩
          exact ⟨a1, s, a2, fun q => a3 ((nw b s a2).symm.trans q)⟩
      · by_cases cj : j = i
        · subst cj; exact fun q => cb (hb.2 ⟨by omega, q⟩)
        · exact no j h1 (by omega)
  · rintro ⟨mv, y⟩ ⟨_, f1, f2, ⟨d8, d9, q8, q9, k8, k9, k89, rows, hm⟩, no⟩
    dsimp only at f1 f2 q8 q9 rows hm ⊢
    unfold f9_l26
    dsimp only
    rw [if_pos (show (99 : Int32) < nI 100 by decide), Wp_some]
    refine ⟨1, rfl, ⟨f1, f2, d8, d9, q8, q9, k8, k9, k89⟩, Or.inr ⟨by dsimp only; rw [if_neg (by omega)], fun j h1 h2 => no j h1 (by omega)⟩⟩
  · refine ⟨by omega, fun _ _ _ => rfl, fun _ _ _ => rfl, ⟨c8, c9, r8, r9, h8, h9, h89, fun l hl L P H b h1 h2 h3 h4 => ?_, Or.inl ⟨rfl, mv0⟩⟩, fun _ z1 z2 => by omega⟩
    dsimp only
    rw [h0 _ (by omega)]
    exact ⟨fun z => absurd z (bt_0 h4), fun z => z.2.elim⟩
end
section
variable {n L N : Nat} {T : Nat → Tc} {hx hm : Hp}
theorem op_between (p1 p2 p3 p4 : Int32) (hN : 10000 ≤ N) (r : Rl n L T hx hm) (wf : WF 0 hx) : Wp (f110 N p1 p2 p3 p4 hx) fun x => Wp (f219 N p1 p2 p3 p4 hm) fun y => x.1 = y.1 ∧ Rl n L T x.2 y.2 := by
  have z1 : ¬ (1 : Int32) = 0 := by decide
  have t1 : (1 : Int32).toInt = 1 := rfl
  have t5 : (5 : Int32).toInt = 5 := rfl
  have n4 := r.n4
  have n12 := r.n12
  have k3 := i59 (N := N) p2 r
  have k4 := i142 (N := N) p2 r
  rcases i128 (N := N) p1 r with ⟨s, rfl, hs, k1, k2⟩ | ⟨k1, k2⟩
  · by_cases c2 : 0 ≤ p2.toInt ∧ p2.toInt < (n : Int)
    · rw [if_pos c2] at k3 k4
      by_cases c3 : 1 ≤ p3.toInt ∧ p3.toInt ≤ 5
      · have d1 : ¬ p3 < 1 := by rw [ti_lt]; omega
        have d2 : p3 ≤ 5 := by rw [ti_le]; omega
        have d3 : ¬ f139 p3 1 5 = 0 := fun z => i139.1 z c3
        obtain ⟨g, rfl, hg⟩ : ∃ k, p2 = nI k ∧ k < n := ⟨tn p2, (nI_tn c2.1).symm, by unfold tn; omega⟩
        obtain ⟨K, rfl, hK1, hK⟩ : ∃ k, p3 = nI k ∧ 1 ≤ k ∧ k ≤ 5 := ⟨tn p3, (nI_tn (by omega)).symm, by unfold tn; omega, by unfold tn; omega⟩
        have mod : ∀ (q : Int32) (x : Hp) (p : Bool), (p = true ↔ ¬ p4 = 0) → FZ hx x → Ch n (Tr T (hI hm 1 3)) x (hI hm 1) → Fst (fun i => BtN n (Tr T (hI hm 1 3)) (hI hm 1) (sfg n g) p i (K - 1) s) 1 99 q → Wp (f194 N hm) fun a => Wp (lp (f219_l19 N (nI s) (nI g) (nI K) p4) N (0, a)) fun a => Wp (lp (f219_l31 N (nI s) (nI g) (nI K) p4) N (1, a.2.2)) fun a => Wp (if a.1 = 0 then some (a.2.1, a.2.2) else some (-1, a.2.2)) fun y => q = y.1 ∧ Rl n L T x y.2 := by
          intro q x p hp fx cx hq
          refine Wp_mono (r.lay hN) (fun y ⟨y1, y2, y3⟩ => ?_)
          refine Wp_mono (betM_w (p := p) hN y2 hs hg hK1 hK hp) (fun z hz => ?_)
          refine Wp_mono hz (fun w ⟨w1, w2⟩ => ?_)
          refine Wp_e01 (X := Unit) ?_
          exact ⟨Fst_u hq w2 (fun _ _ _ => Iff.rfl), r.ct fx cx (y1.trans (FT.w w1)) (Ld.tb (Ld_c y2 w1) (by rw [w1 0 (by omega)]; exact y3))⟩
        simp only [f110, f8, f9, f219, k1, k2, k3, k4, d1, d2, d3, z1, Option.bind_some, if_false, if_true, Wp_bind, Wp_some]
        refine Wp_mono (r.prep hN wf) (fun x ⟨fx, cx, ax⟩ => ?_)
        by_cases cp : p4 = 0
        · rw [if_pos cp]
          simp only [Wp_bind]
          refine Wp_mono (FwI_0 (sf := sfg n g) (K := K) hN n12 hs hK cx) (fun u iu => ?_)
          refine Wp_mono (luckX_w hN ax hs hg hK1 hK iu) (fun q ⟨⟨m, q1⟩, q2⟩ => ?_)
          refine Wp_e01 (X := Unit) ?_
          rw [Wp_some]
          obtain ⟨f1, f2⟩ := FwI_ch q1 cx
          exact mod _ _ false ⟨fun z => absurd z (by decide), fun z => absurd cp z⟩ (fx.trans f1) f2 q2
        · rw [if_neg cp]
          obtain ⟨c1, c2', c3', c4, c5⟩ := id cx
          have r89 : ∃ c8 c9, hR x 64 8 = some c8 ∧ hR x 64 9 = some c9 ∧ CW c8 ∧ CW c9 ∧ c9 ≠ c8 := by
            rcases c5 with z | z
            · exact ⟨71, 72, z.1, z.2, Or.inl rfl, Or.inr rfl, by omega⟩
            · exact ⟨72, 71, z.1, z.2, Or.inr rfl, Or.inl rfl, by omega⟩
          obtain ⟨c8, c9, r8, r9, h8, h9, h89⟩ := r89
          have c68 : 68 ≤ c8 ∧ c8 ≠ 68 ∧ c8 ≠ 64 := by rcases h8 with rfl | rfl <;> omega
          rw [r8]
          simp only [Option.bind_some, Wp_bind, Wp_bnd]
          refine Wp_mono (fill_w (v := 0) (cw_shp h8).1 (cw_shp h8).2 (by omega) hN) (fun y ⟨fy, hy⟩ => ?_)
          obtain ⟨e1, e2, e3, e4⟩ := nI_dec s (by have := hs.1; omega)
          obtain ⟨s1, s2, s3, s4, s5, s6, s7⟩ := ist_d hs
          have ea : (nI K - 1) * (288 : Int32) + f134 (f129 (nI s)) (f130 (nI s)) (f131 (nI s)) = nI ((K - 1) * 288 + s / 5) := by
            rw [e1, e2, e3, sp_n, show nI K - (1 : Int32) = nI (K - 1) from pk_sub (a := K) (b := 1) hK1, ← s7]
            show nI (K - 1) * nI 288 + _ = _
            rw [pk_mul, nI_add]
          rw [ea]
          refine Wp_mono (sureX_w hN (Al_a ax c68.1 fy) hs hg hK1 hK (by rw [fy.2]; exact r8) (by rw [fy.2]; exact r9) h8 h9 h89 hy) (fun q ⟨⟨q1, q2, d8, d9, q8, q9, k8, k9, k89⟩, q3⟩ => ?_)
          refine Wp_e01 (X := Unit) ?_
          rw [Wp_some]
          have q1' : ∀ c, c ≠ 71 → c ≠ 72 → hI q.2.2.2 c = hI x c := fun c a1 a2 => (q1 c a1 a2).trans (fy.1 c (by rcases h8 with rfl | rfl <;> assumption))
          have q2' : ∀ c j, (c ≠ 64 ∨ (j ≠ 8 ∧ j ≠ 9)) → hR q.2.2.2 c j = hR x c j := fun c j hh => (q2 c j hh).trans (by rw [fy.2])
          refine mod _ _ true ⟨fun _ => cp, fun _ => rfl⟩ (fx.trans ⟨fun c hc => q1' c (by omega) (by omega), fun c j hh => q2' c j (by omega)⟩) ⟨?_, ?_, ?_, ?_, ?_⟩ q3
          · rw [q1' 64 (by omega) (by omega), q1' 65 (by omega) (by omega), q1' 66 (by omega) (by omega)]; exact c1
          · rw [q1' 64 (by omega) (by omega), q1' 67 (by omega) (by omega)]; exact c2'
          · rw [q1' 64 (by omega) (by omega), q1' 68 (by omega) (by omega)]; exact c3'
          · rw [q2' 64 6 (by omega), q2' 64 7 (by omega)]; exact c4
          · rw [q8, q9]
            rcases k8 with rfl | rfl <;> rcases k9 with rfl | rfl
            · omega
            · exact Or.inl ⟨rfl, rfl⟩
            · exact Or.inr ⟨rfl, rfl⟩
            · omega
      · have d3 : f139 p3 1 5 = 0 := i139.2 c3
        by_cases d1 : p3 < 1
        · simp only [f110, f219, k1, k2, k3, k4, d1, d3, z1, Option.bind_some, if_false, if_true, Wp_some, true_and]
          exact r
        · have d2 : ¬ p3 ≤ 5 := by rw [ti_lt] at d1; rw [ti_le]; omega
          simp only [f110, f219, k1, k2, k3, k4, d1, d2, d3, z1, Option.bind_some, if_false, if_true, Wp_some, true_and]
          exact r
    · rw [if_neg c2] at k3 k4
      simp only [f110, f219, k1, k2, k3, k4, z1, Option.bind_some, if_false, if_true, Wp_some, true_and]
      exact r
  · simp only [f110, f219, k1, k2, Option.bind_some, if_true, Wp_some, true_and]
    exact r
end
