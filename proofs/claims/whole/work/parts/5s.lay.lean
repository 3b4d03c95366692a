/-! ===== the reference's table, and what is kept ===== -/
theorem i148n {N n : Nat} {h : Hp} {s : Nat} (n4 : 4 ≤ n) (n12 : n ≤ 12) (hn : hI h 0 2 = nI n) (hs : s < 1440) : (ist n s ∧ f148 N (nI s) h = some 1) ∨ (¬ ist n s ∧ f148 N (nI s) h = some 0) := by
  obtain ⟨d1, d2, d3, d4⟩ := nI_dec s (by omega)
  have d2' : f145 (nI s) = nI (s / 40 % 12) := d2
  have d4' : f147 (nI s) = nI (s % 5) := d4
  have t2 : (nI (s / 40 % 12)).toInt = ((s / 40 % 12 : Nat) : Int) := ti_nI (by omega)
  have t4 : (nI (s % 5)).toInt = ((s % 5 : Nat) : Int) := ti_nI (by omega)
  have ts : (nI s).toInt = (s : Int) := ti_nI (by omega)
  have tn' : (nI (n - 1)).toInt = ((n - 1 : Nat) : Int) := ti_nI (by omega)
  have t0 : (0 : Int32).toInt = 0 := rfl
  have t1439 : (1439 : Int32).toInt = 1439 := rfl
  have k3 : ¬ f139 (nI s) 0 1439 = 0 := fun z => i139.1 z (by omega)
  have en : nI n - (1 : Int32) = nI (n - 1) := by
    show nI n - nI 1 = _
    rw [pk_sub (by omega)]
  unfold f148 f148_b15 f142
  rw [if_neg k3, d2', d4', hn, en, Option.bind_some]
  have m1 : ∀ x : Int32, (x = 0 ∨ x = 1) → ((x &&& 1) = 0 ↔ x = 0) := fun x hx => by rcases hx with rfl | rfl <;> decide
  have f01 : f139 (nI (s / 40 % 12)) 0 (nI (n - 1)) = 0 ∨ f139 (nI (s / 40 % 12)) 0 (nI (n - 1)) = 1 := by
    unfold f139 f139_b8
    by_cases c1 : nI (s / 40 % 12) < 0
    · rw [if_pos c1]; exact Or.inl rfl
    · rw [if_neg c1]
      by_cases c2 : nI (n - 1) < nI (s / 40 % 12)
      · rw [if_pos c2]; exact Or.inl rfl
      · rw [if_neg c2]; exact Or.inr rfl
  by_cases c2 : s / 40 % 12 < n
  · rw [if_neg (by rw [m1 _ f01]; exact fun z => i139.1 z (by omega))]
    by_cases c3 : 0 < s % 5
    · rw [if_neg (by rw [ti_le]; omega)]
      exact Or.inl ⟨⟨hs, c2, c3⟩, rfl⟩
    · rw [if_pos (by rw [ti_le]; omega)]
      exact Or.inr ⟨fun z => c3 z.2.2, rfl⟩
  · rw [if_pos (by rw [m1 _ f01]; exact i139.2 (by omega))]
    exact Or.inr ⟨fun z => c2 z.2.1, rfl⟩
theorem af196 (q : Int32) : (∃ r, r < 1440 ∧ q = nI r ∧ f196 q = 1) ∨ (f196 q = 0 ∧ ∀ r, r < 1440 → ¬ q = nI r) := by
  have t0 : (0 : Int32).toInt = 0 := rfl
  have t1439 : (1439 : Int32).toInt = 1439 := rfl
  unfold f196 f139 f139_b8
  by_cases c1 : q < 0
  · rw [if_pos c1]
    rw [ti_lt] at c1
    refine Or.inr ⟨rfl, fun r hr z => ?_⟩
    rw [z, ti_nI (by omega)] at c1; omega
  · rw [if_neg c1]
    rw [ti_lt] at c1
    by_cases c2 : (1439 : Int32) < q
    · rw [if_pos c2]
      rw [ti_lt] at c2
      refine Or.inr ⟨rfl, fun r hr z => ?_⟩
      rw [z, ti_nI (by omega)] at c2; omega
    · rw [if_neg c2]
      rw [ti_lt] at c2
      exact Or.inl ⟨tn q, by unfold tn; omega, (nI_tn (by omega)).symm, rfl⟩
def Ld (n : Nat) (T : Tc) (a : Nat → Int32) (h : Hp) : Prop := (4 ≤ n ∧ n ≤ 12) ∧ hI h 1 = a ∧ hI h 0 2 = nI n ∧ (∀ s k, ist n s → k < 48 → Oc n T (sea a) s (k / 4) (k % 4) (hI h 9 (48 * s + k))) ∧ ∀ j, j < 8 → 1 ≤ (a (20 + j)).toInt ∧ (a (20 + j)).toInt ≤ 15
def FW (h h' : Hp) : Prop := ∀ c, c < 10 → hI h' c = hI h c
theorem FW.rfl' {h : Hp} : FW h h := fun _ _ => rfl
theorem FW.trans {h h1 h2 : Hp} (x : FW h h1) (y : FW h1 h2) : FW h h2 := fun c z => (y c z).trans (x c z)
theorem FW.u {h : Hp} {c j : Nat} {v : Int32} (hc : 10 ≤ c) : FW h (uI h c j v) := fun c' z => hI_uI_ne (by omega)
theorem Ld_c {n : Nat} {T : Tc} {a : Nat → Int32} {h h' : Hp} (l : Ld n T a h) (f : FW h h') : Ld n T a h' := by
  obtain ⟨l1, l2, l3, l4, l5⟩ := l
  exact ⟨l1, (f 1 (by omega)).trans l2, by rw [f 0 (by omega)]; exact l3, fun s k x y => by rw [f 9 (by omega)]; exact l4 s k x y, l5⟩
def FT (h h' : Hp) : Prop := (∀ c, 1 ≤ c → c ≤ 4 → hI h' c = hI h c) ∧ ∀ j, j ≠ 27 → hI h' 0 j = hI h 0 j
theorem FT.trans {h h1 h2 : Hp} (x : FT h h1) (y : FT h1 h2) : FT h h2 := ⟨fun c p q => (y.1 c p q).trans (x.1 c p q), fun j p => (y.2 j p).trans (x.2 j p)⟩
theorem FT.w {h h' : Hp} (f : FW h h') : FT h h' := ⟨fun c _ _ => f c (by omega), fun j _ => by rw [f 0 (by omega)]⟩
section
variable {N n : Nat} {T : Tc} {h : Hp} {a : Nat → Int32}
/-- the table of a state's choices -/
theorem at_w {s c w : Nat} (l : Ld n T a h) (hs : ist n s) (hc : c < 12) (hw : w < 4) : ∃ q, f195 N (nI s) (nI c) (nI w) h = some q ∧ Oc n T (sea a) s c w q := by
  have e : (48 : Int32) * nI s + (4 : Int32) * nI c + nI w = nI (48 * s + (4 * c + w)) := by
    show nI 48 * nI s + nI 4 * nI c + nI w = _
    rw [pk_mul, pk_mul, nI_add, nI_add, Nat.add_assoc]
  have h4 := l.2.2.2.1 s (4 * c + w) hs (by omega)
  have hs1 := hs.1
  rw [show (4 * c + w) / 4 = c by omega, show (4 * c + w) % 4 = w by omega] at h4
  refine ⟨_, ?_, h4⟩
  unfold f195
  rw [e, gd_pos (nbk (by omega) (by omega)), nix (by omega)]
end
section
variable {N n : Nat} {T : Nat → Tc} {h : Hp}
/-- lay -/
theorem lay_w (hN : 10000 ≤ N) (n4 : 4 ≤ n) (n12 : n ≤ 12) (hn : hI h 0 2 = nI n) (lm : LM T (sea (hI h 1) 1).toInt h) (tb : Tb n (Tr T (hI h 1 3)) h) (hw : ∀ j, j < 8 → 1 ≤ (hI h 1 (20 + j)).toInt ∧ (hI h 1 (20 + j)).toInt ≤ 15) : Wp (f194 N h) fun y => FT h y ∧ Ld n (Tr T (hI h 1 3)) (hI h 1) y ∧ hI y 0 27 = 1 := by
  unfold f194
  by_cases c : hI h 0 27 = 0
  · rw [if_pos c, Wp_bnd, Wp_bind]
    generalize hg : uI h 0 27 1 = g
    have g27 : hI g 0 27 = 1 := by rw [← hg, hI_uI_eq, pu_eq]
    have g0 : ∀ j, j ≠ 27 → hI g 0 j = hI h 0 j := fun j hj => by rw [← hg, hI_uI_eq, pu_ne hj]
    have gc : ∀ c, c ≠ 0 → hI g c = hI h c := fun c hc => by rw [← hg, hI_uI_ne hc]
    refine Wp_for (fun (i : Nat) (x : Hp) => (nI i, x)) 1440 (fun i x => (∀ c, c ≠ 6 → c ≠ 8 → c ≠ 9 → hI x c = hI g c) ∧ ∀ s k, ist n s → k < 48 → s < i → Oc n (Tr T (hI h 1 3)) (sea (hI h 1)) s (k / 4) (k % 4) (hI x 9 (48 * s + k))) ?_ ?_ (i0 := 0) (x0 := g) (by omega) (by omega) ⟨fun _ _ _ _ => rfl, fun _ _ _ _ z => by omega⟩
    · rintro i x hi ⟨fx, hx⟩
      have x0 : hI x 0 2 = nI n := by rw [fx 0 (by omega) (by omega) (by omega), g0 2 (by omega)]; exact hn
      have x1 : hI x 1 = hI h 1 := by rw [fx 1 (by omega) (by omega) (by omega), gc 1 (by omega)]
      have x3 : hI x 3 = hI h 3 := by rw [fx 3 (by omega) (by omega) (by omega), gc 3 (by omega)]
      unfold f194_l9
      dsimp only
      rw [if_neg (show ¬ (1440 : Int32) ≤ nI i by rw [ti_le, ti_nI (by omega)]; show ¬ (1440 : Int) ≤ _; omega)]
      rcases i148n (N := N) n4 n12 x0 hi with ⟨si, e⟩ | ⟨si, e⟩
      · rw [e, Option.bind_some, if_neg (by decide), Wp_bind]
        refine Wp_for (fun (k : Nat) (x : Hp) => (nI k, x)) 48 (fun k x => (∀ c, c ≠ 6 → c ≠ 8 → c ≠ 9 → hI x c = hI g c) ∧ ∀ s k', ist n s → k' < 48 → (s < i ∨ (s = i ∧ k' < k)) → Oc n (Tr T (hI h 1 3)) (sea (hI h 1)) s (k' / 4) (k' % 4) (hI x 9 (48 * s + k'))) ?_ ?_ (i0 := 0) (x0 := x) (by omega) (by omega) ⟨fx, fun s k h1 h2 h3 => hx s k h1 h2 (by omega)⟩
        · rintro k u hk ⟨fu, hu⟩
          have u0 : hI u 0 2 = nI n := by rw [fu 0 (by omega) (by omega) (by omega), g0 2 (by omega)]; exact hn
          have u1 : hI u 1 = hI h 1 := by rw [fu 1 (by omega) (by omega) (by omega), gc 1 (by omega)]
          have u3 : hI u 3 = hI h 3 := by rw [fu 3 (by omega) (by omega) (by omega), gc 3 (by omega)]
          have lu : LM T (sea (hI h 1) 1).toInt u := by unfold LM at lm ⊢; rw [u1, u3]; exact lm
          unfold f194_l19
          dsimp only
          obtain ⟨e1, e2⟩ := nI_div4 k (by omega)
          rw [if_neg (show ¬ (48 : Int32) ≤ nI k by rw [ti_le, ti_nI (by omega)]; show ¬ (48 : Int) ≤ _; omega), e1, e2, Wp_bind]
          refine Wp_mono (outM_w (e := sea (hI h 1)) (T := T) (by omega) n4 n12 u0 lu (fun j hj => by rw [u1, sea_at hj]) si (show k / 4 < 12 by omega) (show k % 4 < 4 by omega)) (fun q ⟨q1, q2⟩ => ?_)
          rw [u1] at q2
          have ea : (48 : Int32) * nI i + nI k = nI (48 * i + k) := by
            show nI 48 * nI i + nI k = _
            rw [pk_mul, nI_add]
          have hi' := si.1
          rw [ea, Wp_gd]
          refine ⟨nbk (by omega) (by omega), ?_⟩
          rw [Wp_bnd, Wp_bnd, Wp_some, nI_1, nix (by omega)]
          refine Or.inl ⟨rfl, _, rfl, fun c c1 c2 c3 => by rw [hI_uI_ne c3, q1 c c1 c2]; exact fu c c1 c2 c3, fun s k' h1 h2 h3 => ?_⟩
          rw [hI_uI_eq]
          by_cases cc : 48 * s + k' = 48 * i + k
          · have y1 : s = i := by omega
            have y2 : k' = k := by omega
            subst y1 y2
            rw [pu_eq]; exact q2
          · rw [pu_ne cc, q1 9 (by omega) (by omega)]
            exact hu s k' h1 h2 (by omega)
        · rintro u ⟨fu, hu⟩
          unfold f194_l19
          dsimp only
          rw [if_pos (show (48 : Int32) ≤ nI 48 by decide), Wp_some]
          refine ⟨0, rfl, ?_⟩
          unfold f194_b41
          rw [Wp_bnd, Wp_some, nI_1]
          exact Or.inl ⟨rfl, u, rfl, fu, fun s k h1 h2 h3 => hu s k h1 h2 (by omega)⟩
      · rw [e, Option.bind_some, if_pos rfl]
        unfold f194_b41
        rw [Wp_bnd, Wp_some, nI_1]
        refine Or.inl ⟨rfl, x, rfl, fx, fun s k h1 h2 h3 => hx s k h1 h2 ?_⟩
        by_cases cs : s = i
        · subst cs; exact absurd h1 si
        · omega
    · rintro x ⟨fx, hx⟩
      unfold f194_l9
      dsimp only
      rw [if_pos (show (1440 : Int32) ≤ nI 1440 by decide), Wp_some]
      refine ⟨0, rfl, ?_⟩
      rw [Wp_some]
      have x0 : ∀ j, j ≠ 27 → hI x 0 j = hI h 0 j := fun j hj => by rw [fx 0 (by omega) (by omega) (by omega)]; exact g0 j hj
      refine ⟨⟨fun c h1 h2 => by rw [fx c (by omega) (by omega) (by omega)]; exact gc c (by omega), x0⟩, ⟨⟨n4, n12⟩, ?_, ?_, fun s k h1 h2 => hx s k h1 h2 h1.1, hw⟩, ?_⟩
      · rw [fx 1 (by omega) (by omega) (by omega), gc 1 (by omega)]
      · rw [x0 2 (by omega)]; exact hn
      · rw [fx 0 (by omega) (by omega) (by omega)]; exact g27
  · rw [if_neg c, Wp_some]
    rcases tb with z | ⟨z1, z2⟩
    · exact absurd z c
    · exact ⟨⟨fun _ _ _ => rfl, fun _ _ => rfl⟩, ⟨⟨n4, n12⟩, rfl, hn, z2, hw⟩, z1⟩
end
