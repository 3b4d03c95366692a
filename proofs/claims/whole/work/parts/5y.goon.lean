/-! ===== the reference: where it can be ===== -/
def Rm (n : Nat) (T : Tc) (a : Nat → Int32) (s0 : Nat) : Nat → Nat → Prop
  | 0, s => s = s0
  | m + 1, r => ∃ s, Rm n T a s0 m s ∧ Mv n T a s r
def Fst (P : Nat → Prop) (lo hi : Nat) (q : Int32) : Prop := (∃ i, lo ≤ i ∧ i ≤ hi ∧ q = nI i ∧ P i ∧ ∀ j, lo ≤ j → j < i → ¬ P j) ∨ (q = -1 ∧ ∀ j, lo ≤ j → j ≤ hi → ¬ P j)
theorem Fst_u {P P' : Nat → Prop} {lo hi : Nat} {q q' : Int32} (h : Fst P lo hi q) (h' : Fst P' lo hi q') (e : ∀ i, lo ≤ i → i ≤ hi → (P i ↔ P' i)) : q = q' := by
  rcases h with ⟨i, i1, i2, i3, i4, i5⟩ | ⟨i1, i2⟩ <;> rcases h' with ⟨j, j1, j2, j3, j4, j5⟩ | ⟨j1, j2⟩
  · have : i = j := by
      by_cases c : i < j
      · exact absurd ((e i i1 i2).1 i4) (j5 i i1 c)
      · by_cases c' : j < i
        · exact absurd ((e j j1 j2).2 j4) (i5 j j1 c')
        · omega
    rw [i3, j3, this]
  · exact absurd ((e i i1 i2).1 i4) (j2 i i1 i2)
  · exact absurd ((e j j1 j2).2 j4) (i2 j j1 j2)
  · rw [i1, j1]
section
variable {N n : Nat} {T : Tc} {h : Hp} {a : Nat → Int32}
theorem Mv_i {s r : Nat} (n4 : 4 ≤ n) (n12 : n ≤ 12) (hs : ist n s) (m : Mv n T a s r) : ist n r ∧ r / 5 % 8 = (s / 5 % 8 + 1) % 8 := by
  obtain ⟨L, k, h1, h2, h3, k1, k2, _, _, rfl⟩ := (Mv_iff n4 n12 hs).1 m
  have d := nxt_d (P := s / 40 % 12) (H := s / 5 % 8) n4 n12 h1 k1 k2
  exact ⟨d.2.2.2.2.2, d.2.2.2.1⟩
theorem Rm_i {s0 : Nat} (n4 : 4 ≤ n) (n12 : n ≤ 12) (hs : ist n s0) : ∀ m r, Rm n T a s0 m r → ist n r ∧ r / 5 % 8 = (s0 / 5 % 8 + m) % 8
  | 0, r, e => by
    have e' : r = s0 := e
    subst e'
    exact ⟨hs, by omega⟩
  | m + 1, r, ⟨s, h1, h2⟩ => by
    obtain ⟨i1, i2⟩ := Rm_i n4 n12 hs m s h1
    obtain ⟨j1, j2⟩ := Mv_i n4 n12 i1 h2
    exact ⟨j1, by omega⟩
theorem In_b {c : Nat} {G G' : Nat → Prop} (i : In h c G) (e : ∀ s, s < 1440 → (G s ↔ G' s)) : In h c G' := fun s hs => ⟨(i s hs).1, (i s hs).2.trans (e s hs)⟩
theorem In_u {c s : Nat} {G : Nat → Prop} {v : Int32} (i : In h c G) (hs : s < 1440) (v1 : v = 0 ∨ v = 1) : In (uI h c s v) c (fun r => if r = s then v = 1 else G r) := fun r hr => by
  rw [hI_uI_eq]
  by_cases e : r = s
  · subst e; rw [pu_eq]; dsimp only; rw [if_pos rfl]; exact ⟨v1, Iff.rfl⟩
  · rw [pu_ne e]; dsimp only; rw [if_neg e]; exact i r hr
theorem begF_w {s0 : Nat} (hN : 10000 ≤ N) (h0 : s0 < 1440) : Wp (lp (f207_l4 N (nI s0)) N ((0 : Int32), h)) fun q => FW h q.2.2 ∧ In q.2.2 10 (fun s => s = s0) := by
  refine Wp_for (fun (s : Nat) (x : Hp) => (nI s, x)) 1440 (fun s x => (∀ c, c ≠ 10 → hI x c = hI h c) ∧ ∀ s', s' < s → (hI x 10 s' = 0 ∨ hI x 10 s' = 1) ∧ (hI x 10 s' = 1 ↔ s' = s0)) ?_ ?_ (i0 := 0) (x0 := h) (by omega) (by omega) ⟨fun _ _ => rfl, fun _ z => by omega⟩
  · rintro s x hs ⟨fx, hx⟩
    unfold f207_l4
    dsimp only
    rw [if_neg (show ¬ (1440 : Int32) ≤ nI s by rw [ti_le, ti_nI (by omega)]; show ¬ (1440 : Int) ≤ _; omega)]
    have fin : ∀ v : Int32, (v = 0 ∨ v = 1) → (v = 1 ↔ s = s0) → Wp (f207_b16 N (nI s0) (nI s) v (nI s) x) (fun q => (q.1 = 0 ∧ ∃ x', q.2 = (nI (s + 1), x') ∧ (∀ c, c ≠ 10 → hI x' c = hI h c) ∧ ∀ s', s' < s + 1 → (hI x' 10 s' = 0 ∨ hI x' 10 s' = 1) ∧ (hI x' 10 s' = 1 ↔ s' = s0))) := fun v v1 v2 => by
      unfold f207_b16
      rw [Wp_gd, Wp_bnd, Wp_bnd, Wp_some, nI_1, nix (by omega), a01 v1]
      refine ⟨nbk hs (by omega), rfl, uI x 10 s v, rfl, fun c hc => by rw [hI_uI_ne hc]; exact fx c hc, fun s' h1 => ?_⟩
      rw [hI_uI_eq]
      by_cases cs : s' = s
      · subst cs; rw [pu_eq]; exact ⟨v1, v2⟩
      · rw [pu_ne cs]; exact hx s' (by omega)
    by_cases c : nI s = nI s0
    · rw [if_pos c]
      exact Wp_mono (fin 1 (Or.inr rfl) ⟨fun _ => nI_inj (by omega) (by omega) c, fun _ => rfl⟩) (fun q hq => Or.inl hq)
    · rw [if_neg c]
      exact Wp_mono (fin 0 (Or.inl rfl) ⟨fun z => absurd z (by decide), fun z => absurd (by rw [z]) c⟩) (fun q hq => Or.inl hq)
  · rintro x ⟨fx, hx⟩
    unfold f207_l4
    dsimp only
    rw [if_pos (show (1440 : Int32) ≤ nI 1440 by decide), Wp_some]
    exact ⟨0, rfl, fun c hc => fx c (by omega), hx⟩
/-- one state spreads -/
theorem spM_w {s : Nat} {D : Nat → Prop} (hN : 10000 ≤ N) (l : Ld n T a h) (hs : ist n s) (i11 : In h 11 D) : Wp (f209 N (nI s) h) fun x => (∀ c, c ≠ 11 → hI x c = hI h c) ∧ In x 11 (fun r => D r ∨ Mv n T a s r) := by
  obtain ⟨e1, e2⟩ := hr_n hs.1
  unfold f209
  rw [Wp_bind]
  refine Wp_for (fun (k : Nat) (x : Hp) => (nI k, x)) 48 (fun k x => (∀ c, c ≠ 11 → hI x c = hI h c) ∧ In x 11 (fun r => D r ∨ (r < 1440 ∧ ∃ k', k' < k ∧ bt (a (20 + s / 5 % 8)) (k' % 4) ∧ Oc n T (sea a) s (k' / 4) (k' % 4) (nI r)))) ?_ ?_ (i0 := 0) (x0 := h) (by omega) (by omega) ⟨fun _ _ => rfl, In_b i11 (fun r hr => ⟨Or.inl, fun z => z.resolve_right (fun ⟨_, k', z, _⟩ => by omega)⟩)⟩
  · rintro k x hk ⟨fx, ix'⟩
    have lx : Ld n T a x := Ld_c l (fun c hc => fx c (by omega))
    have hs1 := hs.1
    have ea : (48 : Int32) * nI s + nI k = nI (48 * s + k) := by
      show nI 48 * nI s + nI k = _
      rw [pk_mul, nI_add]
    have e4 : irem (nI k) 4 = nI (k % 4) := (nI_div4 k (by omega)).2
    unfold f209_l2
    dsimp only
    rw [if_neg (show ¬ (48 : Int32) ≤ nI k by rw [ti_le, ti_nI (by omega)]; show ¬ (48 : Int) ≤ _; omega), Wp_gd, ea]
    refine ⟨nbk (by omega) (by omega), ?_⟩
    rw [Wp_bnd, Wp_gd, e1, e2]
    refine ⟨nbk (by omega) (by omega), ?_⟩
    rw [nix (by omega), nix (by omega), e4, e141, lx.2.1]
    have oc := lx.2.2.2.1 s k hs hk
    unfold f209_b34
    have skip : (∀ r, r < 1440 → bt (a (20 + s / 5 % 8)) (k % 4) → Oc n T (sea a) s (k / 4) (k % 4) (nI r) → False) → Wp (bnd (nI k + 1) fun v6 => (some (0, (v6, x)) : Option (Nat × (Int32 × Hp)))) (fun q => (q.1 = 0 ∧ ∃ x', q.2 = (nI (k + 1), x') ∧ (∀ c, c ≠ 11 → hI x' c = hI h c) ∧ In x' 11 (fun r => D r ∨ (r < 1440 ∧ ∃ k', k' < k + 1 ∧ bt (a (20 + s / 5 % 8)) (k' % 4) ∧ Oc n T (sea a) s (k' / 4) (k' % 4) (nI r))))) := fun no => by
      rw [Wp_bnd, Wp_some, nI_1]
      refine ⟨rfl, x, rfl, fx, In_b ix' (fun r hr => ⟨fun z => z.elim Or.inl (fun ⟨z1, k', z2, z3⟩ => Or.inr ⟨z1, k', by omega, z3⟩), fun z => z.elim Or.inl (fun ⟨z1, k', z2, z3, z4⟩ => ?_)⟩)⟩
      by_cases ck : k' = k
      · subst ck; exact (no r hr z3 z4).elim
      · exact Or.inr ⟨z1, k', by omega, z3, z4⟩
    by_cases cb : bt (a (20 + s / 5 % 8)) (k % 4)
    · have cb' : f123 (a (20 + s / 5 % 8)) (nI (k % 4)) = 1 := cb
      rw [cb', if_neg (by decide)]
      rcases af196 (hI x 9 (48 * s + k)) with ⟨r, r1, r2, r3⟩ | ⟨r1, r2⟩
      · rw [r3, if_neg (by decide), r2, Wp_gd]
        refine ⟨nbk r1 (by omega), ?_⟩
        rw [Wp_bnd, Wp_bnd, Wp_some, nI_1, nix (by omega)]
        rw [r2] at oc
        refine Or.inl ⟨rfl, uI x 11 r (1 &&& 1), rfl, fun c hc => by rw [hI_uI_ne hc]; exact fx c hc, In_b (In_u ix' r1 (Or.inr rfl)) (fun r' hr' => ?_)⟩
        by_cases cr : r' = r
        · subst cr
          rw [if_pos rfl]
          exact ⟨fun _ => Or.inr ⟨hr', k, by omega, cb, oc⟩, fun _ => rfl⟩
        · rw [if_neg cr]
          refine ⟨fun z => z.elim Or.inl (fun ⟨z1, k', z2, z3⟩ => Or.inr ⟨z1, k', by omega, z3⟩), fun z => z.elim Or.inl (fun ⟨z1, k', z2, z3, z4⟩ => ?_)⟩
          by_cases ck : k' = k
          · subst ck
            exact absurd (nI_inj (by omega) (by omega) (Oc_fn z4 oc)) cr
          · exact Or.inr ⟨z1, k', by omega, z3, z4⟩
      · rw [r1, if_pos rfl]
        exact Wp_mono (skip (fun r hr _ ho => r2 r hr (Oc_fn oc ho))) (fun q hq => Or.inl hq)
    · rw [if_pos (bt_n.1 cb)]
      exact Wp_mono (skip (fun r hr z _ => cb z)) (fun q hq => Or.inl hq)
  · rintro x ⟨fx, ix'⟩
    unfold f209_l2
    dsimp only
    rw [if_pos (show (48 : Int32) ≤ nI 48 by decide), Wp_some]
    refine ⟨0, rfl, ?_⟩
    rw [Wp_some]
    refine ⟨fx, In_b ix' (fun r hr => ⟨fun z => z.elim Or.inl (fun ⟨z1, k', z2, z3, z4⟩ => Or.inr ⟨z1, k' / 4, k' % 4, by omega, by omega, z3, z4⟩), fun z => z.elim Or.inl (fun ⟨z1, c, w, z2, z3, z4, z5⟩ => Or.inr ⟨z1, 4 * c + w, by omega, ?_, ?_⟩)⟩)⟩
    · rw [show (4 * c + w) % 4 = w by omega]; exact z4
    · rw [show (4 * c + w) % 4 = w by omega, show (4 * c + w) / 4 = c by omega]; exact z5
/-- an hour on -/
theorem goM_w {G : Nat → Prop} (hN : 10000 ≤ N) (l : Ld n T a h) (i10 : In h 10 G) (hG : ∀ s, G s → ist n s) : Wp (f208 N h) fun x => FW h x ∧ In x 10 (fun r => ∃ s, G s ∧ Mv n T a s r) := by
  unfold f208
  rw [Wp_bind]
  refine Wp_for (fun (s : Nat) (x : Hp) => (nI s, x)) 1440 (fun s x => (∀ c, c ≠ 11 → hI x c = hI h c) ∧ ∀ s', s' < s → hI x 11 s' = 0) ?_ ?_ (i0 := 0) (x0 := h) (by omega) (by omega) ⟨fun _ _ => rfl, fun _ z => by omega⟩
  · rintro s x hs ⟨fx, hx⟩
    unfold f208_l2
    dsimp only
    rw [if_neg (show ¬ (1440 : Int32) ≤ nI s by rw [ti_le, ti_nI (by omega)]; show ¬ (1440 : Int) ≤ _; omega), Wp_gd, Wp_bnd, Wp_bnd, Wp_some, nI_1, nix (by omega)]
    refine ⟨nbk hs (by omega), Or.inl ⟨rfl, uI x 11 s (0 &&& 1), rfl, fun c hc => by rw [hI_uI_ne hc]; exact fx c hc, fun s' h1 => ?_⟩⟩
    rw [hI_uI_eq]
    by_cases cs : s' = s
    · subst cs; rw [pu_eq]; rfl
    · rw [pu_ne cs]; exact hx s' (by omega)
  · rintro x ⟨fx, hx⟩
    unfold f208_l2
    dsimp only
    rw [if_pos (show (1440 : Int32) ≤ nI 1440 by decide), Wp_some]
    refine ⟨0, rfl, ?_⟩
    dsimp only
    rw [Wp_bind]
    have x0 : In x 11 (fun _ => False) := fun s hs => by
      rw [hx s hs]; exact ⟨Or.inl rfl, fun z => absurd z (by decide), fun z => z.elim⟩
    refine Wp_for (fun (s : Nat) (x : Hp) => (nI s, x)) 1440 (fun s u => (∀ c, c ≠ 11 → hI u c = hI h c) ∧ In u 11 (fun r => ∃ s', s' < s ∧ G s' ∧ Mv n T a s' r)) ?_ ?_ (i0 := 0) (x0 := x) (by omega) (by omega) ⟨fx, In_b x0 (fun r hr => ⟨False.elim, fun ⟨_, z, _⟩ => by omega⟩)⟩
    · rintro s u hs ⟨fu, iu⟩
      unfold f208_l14
      dsimp only
      rw [if_neg (show ¬ (1440 : Int32) ≤ nI s by rw [ti_le, ti_nI (by omega)]; show ¬ (1440 : Int) ≤ _; omega), Wp_gd]
      refine ⟨nbk hs (by omega), ?_⟩
      rw [nix (by omega), fu 10 (by omega)]
      unfold f208_b25
      by_cases cg : G s
      · rw [if_neg (by rw [In_0 i10 hs]; exact fun z => z cg), Wp_bind]
        refine Wp_mono (spM_w hN (Ld_c l (fun c hc => fu c (by omega))) (hG s cg) iu) (fun y ⟨y1, y2⟩ => ?_)
        rw [Wp_bnd, Wp_some, nI_1]
        refine Or.inl ⟨rfl, y, rfl, fun c hc => (y1 c hc).trans (fu c hc), In_b y2 (fun r hr => ⟨fun z => z.elim (fun ⟨s', z1, z2⟩ => ⟨s', by omega, z2⟩) (fun z => ⟨s, by omega, cg, z⟩), fun ⟨s', z1, z2, z3⟩ => ?_⟩)⟩
        by_cases cs : s' = s
        · subst cs; exact Or.inr z3
        · exact Or.inl ⟨s', by omega, z2, z3⟩
      · rw [if_pos ((In_0 i10 hs).2 cg), Wp_bnd, Wp_some, nI_1]
        refine Or.inl ⟨rfl, u, rfl, fu, In_b iu (fun r hr => ⟨fun ⟨s', z1, z2⟩ => ⟨s', by omega, z2⟩, fun ⟨s', z1, z2, z3⟩ => ?_⟩)⟩
        by_cases cs : s' = s
        · subst cs; exact absurd z2 cg
        · exact ⟨s', by omega, z2, z3⟩
    · rintro u ⟨fu, iu⟩
      unfold f208_l14
      dsimp only
      rw [if_pos (show (1440 : Int32) ≤ nI 1440 by decide), Wp_some]
      refine ⟨0, rfl, ?_⟩
      dsimp only
      rw [Wp_bind]
      refine Wp_for (fun (s : Nat) (x : Hp) => (nI s, x)) 1440 (fun s w => (∀ c, c ≠ 10 → hI w c = hI u c) ∧ ∀ s', s' < s → (hI w 10 s' = 0 ∨ hI w 10 s' = 1) ∧ (hI w 10 s' = 1 ↔ ∃ s, G s ∧ Mv n T a s s')) ?_ ?_ (i0 := 0) (x0 := u) (by omega) (by omega) ⟨fun _ _ => rfl, fun _ z => by omega⟩
      · rintro s w hs ⟨fw, hw⟩
        unfold f208_l29
        dsimp only
        rw [if_neg (show ¬ (1440 : Int32) ≤ nI s by rw [ti_le, ti_nI (by omega)]; show ¬ (1440 : Int) ≤ _; omega), Wp_gd, Wp_gd, Wp_bnd, Wp_bnd, Wp_some, nI_1, nix (by omega), fw 11 (by omega)]
        obtain ⟨j1, j2⟩ := iu s hs
        rw [a01 j1]
        refine ⟨nbk hs (by omega), nbk hs (by omega), Or.inl ⟨rfl, uI w 10 s (hI u 11 s), rfl, fun c hc => by rw [hI_uI_ne hc]; exact fw c hc, fun s' h1 => ?_⟩⟩
        rw [hI_uI_eq]
        by_cases cs : s' = s
        · subst cs; rw [pu_eq]
          refine ⟨j1, j2.trans ⟨fun ⟨s2, _, z⟩ => ⟨s2, z⟩, fun ⟨s2, z1, z2⟩ => ⟨s2, (hG s2 z1).1, z1, z2⟩⟩⟩
        · rw [pu_ne cs]; exact hw s' (by omega)
      · rintro w ⟨fw, hw⟩
        unfold f208_l29
        dsimp only
        rw [if_pos (show (1440 : Int32) ≤ nI 1440 by decide), Wp_some]
        refine ⟨0, rfl, ?_⟩
        rw [Wp_some]
        exact ⟨fun c hc => (fw c (by omega)).trans (fu c (by omega)), hw⟩
end
