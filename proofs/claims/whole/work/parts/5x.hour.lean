/-! ===== an hour on ===== -/
section
variable {N n : Nat} {T : Tc} {h : Hp} {a : Nat → Int32}
theorem spread_w {l K L P H : Nat} {g v : Int32} {sf : Nat → Nat} {D : Nat → Nat → Prop} {c7 : Nat} (hN : 1000 ≤ N) (n4 : 4 ≤ n) (n12 : n ≤ 12) (e41 : hI h 41 0 = nI n) (hl : l < K) (hK : K ≤ 5) (hL : L < 3) (hP : P < n) (hH : H < 8) (pa : Paced n T (a 1).toInt (a (20 + H)) H (hI h 65) (hI h 66)) (so : Sounded n T (sea a) H (hI h 67)) (sp : Stg N n g sf) (r7 : hR h 64 7 = some c7) (h7 : CH c7) (rh : Rh n (hI h c7) K ((H + 1) % 8) D) : Wp (f21 N (nI l) (nI (12 * L + P)) (nI H) v g (nI K) h) fun x => FA c7 h x.2 ∧ Rh n (hI x.2 c7) K ((H + 1) % 8) (fun l' r => D l' r ∨ ∃ A, 1 ≤ A ∧ A ≤ 4 ∧ bt v (A - 1) ∧ Mv n T a (st4 L P H A) r ∧ l' = l + pss sf P r) ∧ (x.1 = 0 ∨ x.1 = 1) ∧ (x.1 = 1 ↔ ∃ A r, 1 ≤ A ∧ A ≤ 4 ∧ bt v (A - 1) ∧ Mv n T a (st4 L P H A) r ∧ K ≤ l + pss sf P r) := by
  obtain ⟨s1, s2⟩ := sp h P e41 hP
  have q1 : irem (nI (12 * L + P)) 12 = nI P := by
    have := pk_rem (a := 12 * L + P) (d := 12) (by omega) (by omega) (by omega)
    rw [show (12 * L + P) % 12 = P by omega] at this
    exact this
  have q2 : nI (12 * L + P) / 12 = nI L := by
    have := pk_div (a := 12 * L + P) (d := 12) (by omega) (by omega) (by omega)
    rw [show (12 * L + P) / 12 = L by omega] at this
    exact this
  have c68 : c7 ≠ 41 ∧ c7 ≠ 65 ∧ c7 ≠ 66 ∧ c7 ≠ 67 := by rcases h7 with rfl | rfl <;> omega
  -- what the hour does, lane by lane
  have mv : ∀ A r, 1 ≤ A → A ≤ 4 → (Mv n T a (st4 L P H A) r ↔ ∃ L' k : Nat, L' < 3 ∧ L' ≤ L + 1 ∧ L ≤ L' + 1 ∧ 1 ≤ k ∧ k ≤ 4 ∧ (∃ sl w : Nat, sl < 4 ∧ w < 4 ∧ bt (a (20 + H)) w ∧ spd T (a 1).toInt (L' : Int) (P : Int) (H : Int) (A : Int) (sl : Int) (w : Int) = k) ∧ flt n T (sea a) L' P H k ∧ r = nxt n L' P H k) := fun A r h1 h2 => by
    obtain ⟨d1, d2, d3, d4, _⟩ := st4_d (L := L) (P := P) (H := H) (A := A) (by omega) hH (by omega)
    rw [Mv_iff n4 n12 (st4_i n12 hL hP hH h1 h2), d1, d2, d3, d4]
  unfold f21
  rw [Wp_bnd, Wp_bnd, q1, q2, s1, Option.bind_some, Wp_bnd]
  have elo : mmax (0 : Int32) (nI L - (1 : Int32)) = nI (L - 1) := by
    have : ∀ L, L < 3 → mmax (0 : Int32) (nI L - (1 : Int32)) = nI (L - 1) := by decide
    exact this L hL
  have ehi : mmin (2 : Int32) (nI L + (1 : Int32)) = nI (if L = 2 then 2 else L + 1) := by
    have : ∀ L, L < 3 → mmin (2 : Int32) (nI L + (1 : Int32)) = nI (if L = 2 then 2 else L + 1) := by decide
    exact this L hL
  obtain ⟨hi, hhi, hhi2⟩ : ∃ hi, (if L = 2 then 2 else L + 1) = hi ∧ (hi = L + 1 ∧ hi < 3 ∨ L = 2 ∧ hi = 2) := by
    by_cases c : L = 2
    · exact ⟨2, by rw [if_pos c], Or.inr ⟨c, rfl⟩⟩
    · exact ⟨L + 1, by rw [if_neg c], Or.inl ⟨rfl, by omega⟩⟩
  rw [hhi] at ehi
  rw [elo, Wp_bind]
  refine Wp_for (fun (i : Nat) (x : Int32 × Hp) => (x.1, nI i, x.2)) (hi + 1) (fun i x => L - 1 ≤ i ∧ FA c7 h x.2 ∧ Rh n (hI x.2 c7) K ((H + 1) % 8) (fun l' r => D l' r ∨ ∃ L' k : Nat, L - 1 ≤ L' ∧ L' < i ∧ 1 ≤ k ∧ k ≤ 4 ∧ (∃ A : Nat, 1 ≤ A ∧ A ≤ 4 ∧ bt v (A - 1) ∧ ∃ sl w : Nat, sl < 4 ∧ w < 4 ∧ bt (a (20 + H)) w ∧ spd T (a 1).toInt (L' : Int) (P : Int) (H : Int) (A : Int) (sl : Int) (w : Int) = k) ∧ flt n T (sea a) L' P H k ∧ r = nxt n L' P H k ∧ l' = l + if sf P ≤ k then 1 else 0) ∧ (x.1 = 0 ∨ x.1 = 1) ∧ (x.1 = 1 ↔ ∃ L' k : Nat, L - 1 ≤ L' ∧ L' < i ∧ 1 ≤ k ∧ k ≤ 4 ∧ (∃ A : Nat, 1 ≤ A ∧ A ≤ 4 ∧ bt v (A - 1) ∧ ∃ sl w : Nat, sl < 4 ∧ w < 4 ∧ bt (a (20 + H)) w ∧ spd T (a 1).toInt (L' : Int) (P : Int) (H : Int) (A : Int) (sl : Int) (w : Int) = k) ∧ flt n T (sea a) L' P H k ∧ K ≤ l + if sf P ≤ k then 1 else 0)) ?_ ?_ (i0 := L - 1) (x0 := (0, h)) (by omega) (by omega) ?_
  · rintro i ⟨m, u⟩ hi' ⟨hi1, fu, ru, mu, cu⟩
    dsimp only at fu ru mu cu ⊢
    unfold f21_l22
    dsimp only
    rw [ehi, if_neg (by rw [ti_lt, ti_nI (by omega), ti_nI (by omega)]; omega), Wp_bind]
    have u41 : hI u 41 0 = nI n := by rw [fu.1 41 (Ne.symm c68.1)]; exact e41
    have u65 : hI u 65 = hI h 65 := fu.1 65 (Ne.symm c68.2.1)
    have u66 : hI u 66 = hI h 66 := fu.1 66 (Ne.symm c68.2.2.1)
    have u67 : hI u 67 = hI h 67 := fu.1 67 (Ne.symm c68.2.2.2)
    refine Wp_mono (any_w (a := a) (T := T) (v := v) hN (show i < 3 by omega) hP n12 hH (by rw [u65, u66]; exact pa)) (fun q hq => ?_)
    rw [sp_n, Wp_gd]
    refine ⟨nbk (by omega) (by omega), ?_⟩
    rw [Wp_bnd, Wp_bind, nix (by omega), u67]
    have hset : ∀ k, 1 ≤ k → k ≤ 4 → (bt (q &&& hI h 67 ((i * 12 + P) * 8 + H)) (k - 1) ↔ (∃ A : Nat, 1 ≤ A ∧ A ≤ 4 ∧ bt v (A - 1) ∧ ∃ sl w : Nat, sl < 4 ∧ w < 4 ∧ bt (a (20 + H)) w ∧ spd T (a 1).toInt (i : Int) (P : Int) (H : Int) (A : Int) (sl : Int) (w : Int) = k) ∧ flt n T (sea a) i P H k) := fun k h1 h2 => by
      have e := so i P k (by omega) hP h1 h2
      have e2 := hq (k - 1) (by omega)
      rw [show k - 1 + 1 = k by omega] at e2
      rw [bt_and (by omega), e, e2]
      exact ⟨fun z => ⟨z.1.2, z.2⟩, fun z => ⟨⟨by omega, z.1⟩, z.2⟩⟩
    generalize q &&& hI h 67 ((i * 12 + P) * 8 + H) = set at hset ⊢
    refine Wp_mono (sp_in (l := l) (s7 := sf P) hN n4 n12 u41 hl hK (show i < 3 by omega) hP hH s2 (by rw [fu.2]; exact r7) h7 ru mu) (fun y ⟨y1, y2, y3, y4⟩ => ?_)
    rw [Wp_bnd, Wp_some, nI_1]
    refine Or.inl ⟨rfl, (y.2.1, y.2.2.2), rfl, by omega, fu.trans y1, Rh_c n12 y2 (by omega) (fun l' r _ _ _ => ?_), y3, y4.trans ?_⟩
    · constructor
      · rintro ((z | ⟨L', k, z⟩) | ⟨k, k1, k2, k3, k4, k5⟩)
        · exact Or.inl z
        · exact Or.inr ⟨L', k, z.1, by omega, z.2.2⟩
        · obtain ⟨z1, z2⟩ := (hset k k1 k2).1 k3
          exact Or.inr ⟨i, k, by omega, by omega, k1, k2, z1, z2, k4, k5⟩
      · rintro (z | ⟨L', k, z1, z2, z3, z4, z5, z6, z7⟩)
        · exact Or.inl (Or.inl z)
        · by_cases cL : L' = i
          · subst cL
            exact Or.inr ⟨k, z3, z4, (hset k z3 z4).2 ⟨z5, z6⟩, z7⟩
          · exact Or.inl (Or.inr ⟨L', k, z1, by omega, z3, z4, z5, z6, z7⟩)
    · rw [cu]
      constructor
      · rintro (⟨L', k, z⟩ | ⟨k, k1, k2, k3, k4⟩)
        · exact ⟨L', k, z.1, by omega, z.2.2⟩
        · obtain ⟨z1, z2⟩ := (hset k k1 k2).1 k3
          exact ⟨i, k, by omega, by omega, k1, k2, z1, z2, k4⟩
      · rintro ⟨L', k, z1, z2, z3, z4, z5, z6, z7⟩
        by_cases cL : L' = i
        · subst cL
          exact Or.inr ⟨k, z3, z4, (hset k z3 z4).2 ⟨z5, z6⟩, z7⟩
        · exact Or.inl ⟨L', k, z1, by omega, z3, z4, z5, z6, z7⟩
  · rintro ⟨m, u⟩ ⟨_, fu, ru, mu, cu⟩
    dsimp only at fu ru mu cu ⊢
    unfold f21_l22
    dsimp only
    rw [ehi, if_pos (by rw [ti_lt, ti_nI (by omega), ti_nI (by omega)]; omega), Wp_some]
    refine ⟨0, rfl, ?_⟩
    rw [Wp_some]
    have ps : ∀ L' k, L' < 3 → 1 ≤ k → k ≤ 4 → pss sf P (nxt n L' P H k) = if sf P ≤ k then 1 else 0 := fun L' k h1 h2 h3 => by
      unfold pss
      rw [(nxt_d (P := P) (H := H) n4 n12 h1 h2 h3).2.2.2.2.1]
    refine ⟨fu, Rh_c n12 ru (by omega) (fun l' r _ _ _ => ?_), by dsimp only; rw [a01 mu]; exact mu, ?_⟩
    · constructor
      · rintro (z | ⟨L', k, z1, z2, z3, z4, ⟨A, A1, A2, A3, A4⟩, z6, z7, z8⟩)
        · exact Or.inl z
        · refine Or.inr ⟨A, A1, A2, A3, (mv A r A1 A2).2 ⟨L', k, by omega, by omega, by omega, z3, z4, A4, z6, z7⟩, ?_⟩
          rw [z7, ps L' k (by omega) z3 z4]; exact z8
      · rintro (z | ⟨A, A1, A2, A3, A4, A5⟩)
        · exact Or.inl z
        · obtain ⟨L', k, y1, y2, y3, y4, y5, y6, y7, y8⟩ := (mv A r A1 A2).1 A4
          rw [y8, ps L' k y1 y4 y5] at A5
          exact Or.inr ⟨L', k, by omega, by omega, y4, y5, ⟨A, A1, A2, A3, y6⟩, y7, y8, A5⟩
    · dsimp only
      rw [a01 mu, cu]
      constructor
      · rintro ⟨L', k, z1, z2, z3, z4, ⟨A, A1, A2, A3, A4⟩, z6, z7⟩
        refine ⟨A, _, A1, A2, A3, (mv A _ A1 A2).2 ⟨L', k, by omega, by omega, by omega, z3, z4, A4, z6, rfl⟩, ?_⟩
        rw [ps L' k (by omega) z3 z4]; exact z7
      · rintro ⟨A, r, A1, A2, A3, A4, A5⟩
        obtain ⟨L', k, y1, y2, y3, y4, y5, y6, y7, y8⟩ := (mv A r A1 A2).1 A4
        rw [y8, ps L' k y1 y4 y5] at A5
        exact ⟨L', k, by omega, by omega, y4, y5, ⟨A, A1, A2, A3, y6⟩, y7, A5⟩
  · refine ⟨by omega, FA.rfl', Rh_c n12 rh (by omega) (fun l' r _ _ _ => ⟨Or.inl, fun z => z.resolve_right (fun ⟨L', k, z1, z2, _⟩ => by omega)⟩), Or.inl rfl, ⟨fun z => absurd (show (0 : Int32) = 1 from z) (by decide), fun ⟨L', k, z1, z2, _⟩ => by omega⟩⟩
/-- the sets of an hour later -/
def Nx (n : Nat) (T : Tc) (a : Nat → Int32) (sf : Nat → Nat) (K : Nat) (S : Nat → Nat → Prop) (l r : Nat) : Prop := ∃ l' s, l' < K ∧ S l' s ∧ Mv n T a s r ∧ l = l' + pss sf (s / 40 % 12) r
def Cm (n : Nat) (T : Tc) (a : Nat → Int32) (sf : Nat → Nat) (K : Nat) (S : Nat → Nat → Prop) : Prop := ∃ l' s r, l' < K ∧ S l' s ∧ Mv n T a s r ∧ K ≤ l' + pss sf (s / 40 % 12) r
/-- that cell changes, and the two rows change places -/
def FG (c : Nat) (h h' : Hp) : Prop := (∀ c', c' ≠ c → hI h' c' = hI h c') ∧ ∀ c' j, (c' ≠ 64 ∨ (j ≠ 6 ∧ j ≠ 7)) → hR h' c' j = hR h c' j
theorem goan_w {K H : Nat} {g : Int32} {sf : Nat → Nat} {S : Nat → Nat → Prop} {c6 c7 : Nat} (hN : 10000 ≤ N) (n4 : 4 ≤ n) (n12 : n ≤ 12) (e41 : hI h 41 0 = nI n) (hK : K ≤ 5) (hH : H < 8) (pa : Paced n T (a 1).toInt (a (20 + H)) H (hI h 65) (hI h 66)) (so : Sounded n T (sea a) H (hI h 67)) (sp : Stg N n g sf) (r6 : hR h 64 6 = some c6) (r7 : hR h 64 7 = some c7) (h6 : CH c6) (h7 : CH c7) (h67 : c6 ≠ c7) (rh : Rh n (hI h c6) K H S) (hS : ∀ l s, l < K → S l s → ist n s ∧ s / 5 % 8 = H) : Wp (f20 N (nI H) (nI K) g h) fun x => FG c7 h x.2 ∧ hR x.2 64 6 = some c7 ∧ hR x.2 64 7 = some c6 ∧ Rh n (hI x.2 c7) K ((H + 1) % 8) (Nx n T a sf K S) ∧ (x.1 = 0 ∨ x.1 = 1) ∧ (x.1 = 1 ↔ Cm n T a sf K S) := by
  have c68 : c7 ≠ 41 ∧ c7 ≠ 65 ∧ c7 ≠ 66 ∧ c7 ≠ 67 := by rcases h7 with rfl | rfl <;> omega
  unfold f20
  rw [r7, Option.bind_some, Wp_bind]
  refine Wp_mono (fill_w (v := 0) (ch_shp h7).1 (ch_shp h7).2 (by omega) hN) (fun y ⟨fy, hy⟩ => ?_)
  rw [Wp_bind]
  -- those that are done
  refine Wp_for (fun (i : Nat) (x : Int32 × Hp) => (x.1, nI i, x.2)) K (fun i x => FA c7 h x.2 ∧ Rh n (hI x.2 c7) K ((H + 1) % 8) (fun l r => ∃ l' s, l' < i ∧ S l' s ∧ Mv n T a s r ∧ l = l' + pss sf (s / 40 % 12) r) ∧ (x.1 = 0 ∨ x.1 = 1) ∧ (x.1 = 1 ↔ ∃ l' s r, l' < i ∧ S l' s ∧ Mv n T a s r ∧ K ≤ l' + pss sf (s / 40 % 12) r)) ?_ ?_ (i0 := 0) (x0 := (0, y)) (by omega) (by omega) ?_
  · rintro i ⟨m, u⟩ hi hu
    unfold f20_l8
    dsimp only
    rw [if_neg (by rw [ti_le, ti_nI (by omega), ti_nI (by omega)]; omega), if_neg (show ¬ (5 : Int32) ≤ nI i by rw [ti_le, ti_nI (by omega)]; show ¬ (5 : Int) ≤ _; omega), Wp_bind]
    refine Wp_for (fun (j : Nat) (x : Int32 × Hp) => (x.1, nI j, x.2)) 36 (fun j x => FA c7 h x.2 ∧ Rh n (hI x.2 c7) K ((H + 1) % 8) (fun l r => ∃ l' s, (l' < i ∨ (l' = i ∧ s / 40 < j)) ∧ S l' s ∧ Mv n T a s r ∧ l = l' + pss sf (s / 40 % 12) r) ∧ (x.1 = 0 ∨ x.1 = 1) ∧ (x.1 = 1 ↔ ∃ l' s r, (l' < i ∨ (l' = i ∧ s / 40 < j)) ∧ S l' s ∧ Mv n T a s r ∧ K ≤ l' + pss sf (s / 40 % 12) r)) ?_ ?_ (i0 := 0) (x0 := (m, u)) (by omega) (by omega) ?_
    · rintro j ⟨m, w⟩ hj ⟨fw, rw1, mw, cw⟩
      dsimp only at fw rw1 mw cw ⊢
      have ea : nI i * (36 : Int32) + nI j = nI (i * 36 + j) := by
        show nI i * nI 36 + _ = _
        rw [pk_mul, nI_add]
      unfold f20_l16
      dsimp only
      rw [if_neg (show ¬ (36 : Int32) ≤ nI j by rw [ti_le, ti_nI (by omega)]; show ¬ (36 : Int) ≤ _; omega), fw.2, r6, Option.bind_some, Wp_gd, ea, (ch_shp h6).2]
      refine ⟨⟨(ch_shp h6).1, nbk (by omega) (by omega)⟩, ?_⟩
      rw [Wp_bnd, nix (by omega), fw.1 c6 h67]
      obtain ⟨L, P, hL, hP, rfl⟩ : ∃ L P, L < 3 ∧ P < 12 ∧ j = 12 * L + P := ⟨j / 12, j % 12, by omega, by omega, by omega⟩
      have hv : ∀ b, b < 32 → (bt (hI h c6 (i * 36 + (12 * L + P))) b ↔ b < 4 ∧ P < n ∧ S i (st4 L P H (b + 1))) := fun b hb => rh i L P b hi hL hP hb
      generalize hI h c6 (i * 36 + (12 * L + P)) = v at hv ⊢
      -- no state there
      have none' : (∀ A, 1 ≤ A → A ≤ 4 → ¬ S i (st4 L P H A)) → Rh n (hI w c7) K ((H + 1) % 8) (fun l r => ∃ l' s, (l' < i ∨ (l' = i ∧ s / 40 < 12 * L + P + 1)) ∧ S l' s ∧ Mv n T a s r ∧ l = l' + pss sf (s / 40 % 12) r) ∧ (m = 1 ↔ ∃ l' s r, (l' < i ∨ (l' = i ∧ s / 40 < 12 * L + P + 1)) ∧ S l' s ∧ Mv n T a s r ∧ K ≤ l' + pss sf (s / 40 % 12) r) := fun no => by
        have key : ∀ l' s, (l' < i ∨ (l' = i ∧ s / 40 < 12 * L + P + 1)) → S l' s → (l' < i ∨ (l' = i ∧ s / 40 < 12 * L + P)) := fun l' s z1 z2 => by
          by_cases c : l' < i ∨ (l' = i ∧ s / 40 < 12 * L + P)
          · exact c
          · have e1 : l' = i := by omega
            subst e1
            obtain ⟨i1, i2⟩ := hS l' s hi z2
            obtain ⟨d1, d2, d3, d4, d5, d6, d7⟩ := ist_d i1
            have : s = st4 L P H (s % 5) := by
              have q1 : s / 480 = L := by omega
              have q2 : s / 40 % 12 = P := by omega
              rw [q1, q2, i2] at d6; exact d6
            rw [this] at z2
            exact absurd z2 (no _ d4 d5)
        refine ⟨Rh_c n12 rw1 (by omega) (fun l r _ _ _ => ⟨fun ⟨l', s, z1, z2⟩ => ⟨l', s, by omega, z2⟩, fun ⟨l', s, z1, z2, z3⟩ => ⟨l', s, key l' s z1 z2, z2, z3⟩⟩), cw.trans ⟨fun ⟨l', s, r, z1, z2⟩ => ⟨l', s, r, by omega, z2⟩, fun ⟨l', s, r, z1, z2, z3⟩ => ⟨l', s, r, key l' s z1 z2, z2, z3⟩⟩⟩
      unfold f20_b41
      by_cases c0 : v = 0
      · rw [if_pos c0, Wp_bnd, Wp_some, nI_1]
        have no : ∀ A, 1 ≤ A → A ≤ 4 → ¬ S i (st4 L P H A) := fun A h1 h2 z => by
          obtain ⟨i1, _⟩ := hS i _ hi z
          have d := st4_d (L := L) (P := P) (H := H) (A := A) hP hH (by omega)
          have i2 := i1.2.1
          rw [d.2.1] at i2
          have := (hv (A - 1) (by omega)).2 ⟨by omega, i2, by rw [show A - 1 + 1 = A by omega]; exact z⟩
          rw [c0] at this
          exact bt_0 (by omega) this
        exact Or.inl ⟨rfl, (m, w), rfl, fw, (none' no).1, mw, (none' no).2⟩
      · rw [if_neg c0, Wp_bind]
        have hPn : P < n := by
          refine Classical.byContradiction fun hh => c0 (bt_ext fun b hb => ⟨fun z => absurd ((hv b hb).1 z).2.1 hh, fun z => absurd z (bt_0 hb)⟩)
        refine Wp_mono (spread_w (a := a) (T := T) (l := i) (v := v) (by omega) n4 n12 (by rw [fw.1 41 (Ne.symm c68.1)]; exact e41) hi hK hL hPn hH (by rw [fw.1 65 (Ne.symm c68.2.1), fw.1 66 (Ne.symm c68.2.2.1)]; exact pa) (by rw [fw.1 67 (Ne.symm c68.2.2.2)]; exact so) sp (by rw [fw.2]; exact r7) h7 rw1) (fun z ⟨z1, z2, z3, z4⟩ => ?_)
        -- the states of the cell
        have cell : ∀ (Q : Nat → Prop), (∃ A, 1 ≤ A ∧ A ≤ 4 ∧ bt v (A - 1) ∧ Q (st4 L P H A)) ↔ ∃ s, s / 40 = 12 * L + P ∧ S i s ∧ Q s := fun Q => by
          constructor
          · rintro ⟨A, A1, A2, A3, A4⟩
            have d := st4_d (L := L) (P := P) (H := H) (A := A) hP hH (by omega)
            have y := ((hv (A - 1) (by omega)).1 A3).2.2
            rw [show A - 1 + 1 = A by omega] at y
            exact ⟨_, by omega, y, A4⟩
          · rintro ⟨s, y1, y2, y3⟩
            obtain ⟨i1, i2⟩ := hS i s hi y2
            obtain ⟨d1, d2, d3, d4, d5, d6, d7⟩ := ist_d i1
            have e : s = st4 L P H (s % 5) := by
              have q1 : s / 480 = L := by omega
              have q2 : s / 40 % 12 = P := by omega
              rw [q1, q2, i2] at d6; exact d6
            refine ⟨s % 5, d4, d5, (hv (s % 5 - 1) (by omega)).2 ⟨by omega, hPn, ?_⟩, by rw [← e]; exact y3⟩
            rw [show s % 5 - 1 + 1 = s % 5 by omega, ← e]; exact y2
        have R' : Rh n (hI z.2 c7) K ((H + 1) % 8) (fun l r => ∃ l' s, (l' < i ∨ (l' = i ∧ s / 40 < 12 * L + P + 1)) ∧ S l' s ∧ Mv n T a s r ∧ l = l' + pss sf (s / 40 % 12) r) := by
          refine Rh_c n12 z2 (by omega) (fun l r _ _ _ => ?_)
          constructor
          · rintro (⟨l', s, y1, y2⟩ | ⟨A, A1, A2, A3, A4, A5⟩)
            · exact ⟨l', s, by omega, y2⟩
            · obtain ⟨s, y1, y2, y3⟩ := (cell (fun s => Mv n T a s r ∧ l = i + pss sf P r)).1 ⟨A, A1, A2, A3, A4, A5⟩
              refine ⟨i, s, by omega, y2, y3.1, ?_⟩
              rw [show s / 40 % 12 = P by omega]; exact y3.2
          · rintro ⟨l', s, y1, y2, y3, y4⟩
            by_cases c : l' < i ∨ (l' = i ∧ s / 40 < 12 * L + P)
            · exact Or.inl ⟨l', s, c, y2, y3, y4⟩
            · have e1 : l' = i := by omega
              subst e1
              have e2 : s / 40 = 12 * L + P := by omega
              rw [show s / 40 % 12 = P by omega] at y4
              obtain ⟨A, A1, A2, A3, A4, A5⟩ := (cell (fun s => Mv n T a s r ∧ l = l' + pss sf P r)).2 ⟨s, e2, y2, y3, y4⟩
              exact Or.inr ⟨A, A1, A2, A3, A4, A5⟩
        have C' : (m = 1 ∨ z.1 = 1) ↔ ∃ l' s r, (l' < i ∨ (l' = i ∧ s / 40 < 12 * L + P + 1)) ∧ S l' s ∧ Mv n T a s r ∧ K ≤ l' + pss sf (s / 40 % 12) r := by
          rw [cw, z4]
          constructor
          · rintro (⟨l', s, r, y1, y2⟩ | ⟨A, r, A1, A2, A3, A4, A5⟩)
            · exact ⟨l', s, r, by omega, y2⟩
            · obtain ⟨s, y1, y2, y3⟩ := (cell (fun s => Mv n T a s r ∧ K ≤ i + pss sf P r)).1 ⟨A, A1, A2, A3, A4, A5⟩
              refine ⟨i, s, r, by omega, y2, y3.1, ?_⟩
              rw [show s / 40 % 12 = P by omega]; exact y3.2
          · rintro ⟨l', s, r, y1, y2, y3, y4⟩
            by_cases c : l' < i ∨ (l' = i ∧ s / 40 < 12 * L + P)
            · exact Or.inl ⟨l', s, r, c, y2, y3, y4⟩
            · have e1 : l' = i := by omega
              subst e1
              have e2 : s / 40 = 12 * L + P := by omega
              rw [show s / 40 % 12 = P by omega] at y4
              obtain ⟨A, A1, A2, A3, A4, A5⟩ := (cell (fun s => Mv n T a s r ∧ K ≤ l' + pss sf P r)).2 ⟨s, e2, y2, y3, y4⟩
              exact Or.inr ⟨A, r, A1, A2, A3, A4, A5⟩
        rcases z3 with z3 | z3
        · rw [if_pos z3, Wp_bnd, Wp_some, nI_1]
          refine Or.inl ⟨rfl, (m, z.2), rfl, fw.trans z1, R', mw, ?_⟩
          rw [← C', z3]
          exact ⟨Or.inl, fun y => y.resolve_right (by decide)⟩
        · rw [if_neg (by rw [z3]; decide), Wp_bnd, Wp_some, nI_1]
          refine Or.inl ⟨rfl, (1, z.2), rfl, fw.trans z1, R', Or.inr rfl, ?_⟩
          rw [← C']
          exact ⟨fun _ => Or.inr z3, fun _ => rfl⟩
    · rintro ⟨m, w⟩ ⟨fw, rw1, mw, cw⟩
      dsimp only at fw rw1 mw cw ⊢
      unfold f20_l16
      dsimp only
      rw [if_pos (show (36 : Int32) ≤ nI 36 by decide), Wp_some]
      refine ⟨0, rfl, ?_⟩
      rw [Wp_bnd, Wp_some]
      have key : ∀ l' s, l' < i + 1 → S l' s → (l' < i ∨ (l' = i ∧ s / 40 < 36)) := fun l' s z1 z2 => by
        have := (hS l' s (by omega) z2).1.1
        omega
      refine Or.inl ⟨rfl, (m, w), by dsimp only; rw [nI_1], fw, Rh_c n12 rw1 (by omega) (fun l r _ _ _ => ⟨fun ⟨l', s, z1, z2⟩ => ⟨l', s, by omega, z2⟩, fun ⟨l', s, z1, z2, z3⟩ => ⟨l', s, key l' s z1 z2, z2, z3⟩⟩), mw, cw.trans ⟨fun ⟨l', s, r, z1, z2⟩ => ⟨l', s, r, by omega, z2⟩, fun ⟨l', s, r, z1, z2, z3⟩ => ⟨l', s, r, key l' s z1 z2, z2, z3⟩⟩⟩
    · obtain ⟨fu, ru, mu, cu⟩ := hu
      exact ⟨fu, Rh_c n12 ru (by omega) (fun l r _ _ _ => ⟨fun ⟨l', s, z1, z2⟩ => ⟨l', s, by omega, z2⟩, fun ⟨l', s, z1, z2⟩ => ⟨l', s, by omega, z2⟩⟩), mu, cu.trans ⟨fun ⟨l', s, r, z1, z2⟩ => ⟨l', s, r, by omega, z2⟩, fun ⟨l', s, r, z1, z2⟩ => ⟨l', s, r, by omega, z2⟩⟩⟩
  · rintro ⟨m, u⟩ ⟨fu, ru, mu, cu⟩
    dsimp only at fu ru mu cu ⊢
    unfold f20_l8
    dsimp only
    rw [if_pos (by rw [ti_le]; omega), Wp_some]
    refine ⟨0, rfl, ?_⟩
    dsimp only
    rw [fu.2, r6, Option.bind_some, r7, Option.bind_some, Wp_bnd, Wp_bnd, Wp_some]
    dsimp only
    rw [a01 mu]
    refine ⟨⟨fun c' hc => by rw [hI_uR, hI_uR]; exact fu.1 c' hc, fun c' j hh => by rw [hR_uR_ne (by omega), hR_uR_ne (by omega), fu.2]⟩, by rw [hR_uR_ne (Or.inr (by omega)), hR_uR_eq], by rw [hR_uR_eq], ?_, mu, cu⟩
    rw [hI_uR, hI_uR]
    exact ru
  · refine ⟨fy, fun l L P b h1 h2 h3 h4 => ?_, Or.inl rfl, ⟨fun z => absurd (show (0 : Int32) = 1 from z) (by decide), fun ⟨_, _, _, z, _⟩ => by omega⟩⟩
    dsimp only
    rw [hy _ (by omega)]
    exact ⟨fun z => absurd z (bt_0 h4), fun ⟨_, _, _, _, z, _⟩ => by omega⟩
/-- start from a state -/
theorem start_w {s K : Nat} {c6 : Nat} (hN : 10000 ≤ N) (n12 : n ≤ 12) (hs : ist n s) (hK : K ≤ 5) (r6 : hR h 64 6 = some c6) (h6 : CH c6) : Wp (f19 N (nI s) h) fun x => FA c6 h x ∧ Rh n (hI x c6) K (s / 5 % 8) (fun l r => l = 0 ∧ r = s) := by
  obtain ⟨d1, d2, d3, d4⟩ := nI_dec s (by have := hs.1; omega)
  obtain ⟨s1, s2, s3, s4, s5, s6, s7⟩ := ist_d hs
  unfold f19
  rw [r6, Option.bind_some, Wp_bind]
  refine Wp_mono (fill_w (v := 0) (ch_shp h6).1 (ch_shp h6).2 (by omega) hN) (fun y ⟨fy, hy⟩ => ?_)
  have e4 : nI (s % 5) - (1 : Int32) = nI (s % 5 - 1) := by
    show nI (s % 5) - nI 1 = _
    rw [pk_sub (by omega)]
  rw [fy.2, r6, Option.bind_some, Wp_gd, (ch_shp h6).2, d1, d2, d4, nI_cell, Wp_bnd, Wp_some, e4, nix (by omega)]
  refine ⟨⟨(ch_shp h6).1, nbk (by omega) (by omega)⟩, fy.trans FA.u, fun l L P b h1 h2 h3 h4 => ?_⟩
  rw [hI_uI_eq]
  by_cases c : l * 36 + (12 * L + P) = 12 * (s / 480) + s / 40 % 12
  · have e1 : l = 0 := by omega
    have e2 : L = s / 480 := by omega
    have e3 : P = s / 40 % 12 := by omega
    rw [c, pu_eq, bt_one (by omega) h4]
    constructor
    · intro z
      refine ⟨by omega, by omega, e1, ?_⟩
      rw [e2, e3, show b + 1 = s % 5 by omega, ← s6]
    · rintro ⟨z1, z2, z3, z4⟩
      have := st4_inj h3 s3 (by omega) (by omega) s3 (by omega) (z4.trans s6)
      omega
  · rw [pu_ne c, hy _ (by omega)]
    constructor
    · intro z; exact absurd z (bt_0 h4)
    · rintro ⟨z1, z2, z3, z4⟩
      have := st4_inj h3 s3 (by omega) (by omega) s3 (by omega) (z4.trans s6)
      omega
end
