/-! ===== where it can be ===== -/
def CH (c : Nat) : Prop := c = 69 ∨ c = 70
theorem ch_shp {c : Nat} (h : CH c) : (shp 0 c).1 = 100 ∧ (shp 0 c).2 = 180 := by
  rcases h with rfl | rfl <;> exact ⟨rfl, rfl⟩
def Rh (n : Nat) (f : Nat → Int32) (K H : Nat) (S : Nat → Nat → Prop) : Prop := ∀ l L P b, l < K → L < 3 → P < 12 → b < 32 → (bt (f (l * 36 + (12 * L + P))) b ↔ b < 4 ∧ P < n ∧ S l (st4 L P H (b + 1)))
theorem Rh_c {n : Nat} {f : Nat → Int32} {K H : Nat} {S S' : Nat → Nat → Prop} (n12 : n ≤ 12) (x : Rh n f K H S) (hH : H < 8) (e : ∀ l s, l < K → ist n s → s / 5 % 8 = H → (S l s ↔ S' l s)) : Rh n f K H S' := by
  intro l L P b h1 h2 h3 h4
  rw [x l L P b h1 h2 h3 h4]
  constructor
  · rintro ⟨z1, z2, z3⟩
    exact ⟨z1, z2, (e l _ h1 (st4_i n12 h2 z2 hH (by omega) (by omega)) (st4_d h3 hH (by omega)).2.2.1).1 z3⟩
  · rintro ⟨z1, z2, z3⟩
    exact ⟨z1, z2, (e l _ h1 (st4_i n12 h2 z2 hH (by omega) (by omega)) (st4_d h3 hH (by omega)).2.2.1).2 z3⟩
def pss (sf : Nat → Nat) (P r : Nat) : Nat := if sf P ≤ r % 5 then 1 else 0
theorem st4_inj {L P H A L' P' H' A' : Nat} (hP : P < 12) (hH : H < 8) (hA : A < 5) (hP' : P' < 12) (hH' : H' < 8) (hA' : A' < 5) (e : st4 L P H A = st4 L' P' H' A') : L = L' ∧ P = P' ∧ H = H' ∧ A = A' := by
  have h1 := st4_d (L := L) hP hH hA
  have h2 := st4_d (L := L') hP' hH' hA'
  rw [e] at h1
  omega
section
variable {N n : Nat} {T : Tc} {h : Hp} {a : Nat → Int32}
/-- the speeds of one lane -/
theorem sp_in {l K L P H s7 : Nat} {set x4 x8 cm : Int32} {D : Nat → Nat → Prop} {c7 : Nat} (hN : 1000 ≤ N) (n4 : 4 ≤ n) (n12 : n ≤ 12) (e41 : hI h 41 0 = nI n) (hl : l < K) (hK : K ≤ 5) (hL : L < 3) (hP : P < n) (hH : H < 8) (hs : s7 < 100) (r7 : hR h 64 7 = some c7) (h7 : CH c7) (rh : Rh n (hI h c7) K ((H + 1) % 8) D) (c01 : cm = 0 ∨ cm = 1) : Wp (lp (f21_l46 N (nI l) (nI H) x4 (nI K) (nI P) x8 (nI s7) (nI L) set) N (cm, (1 : Int32), h)) fun q => FA c7 h q.2.2.2 ∧ Rh n (hI q.2.2.2 c7) K ((H + 1) % 8) (fun l' r => D l' r ∨ ∃ k, 1 ≤ k ∧ k ≤ 4 ∧ bt set (k - 1) ∧ r = nxt n L P H k ∧ l' = l + if s7 ≤ k then 1 else 0) ∧ (q.2.1 = 0 ∨ q.2.1 = 1) ∧ (q.2.1 = 1 ↔ cm = 1 ∨ ∃ k, 1 ≤ k ∧ k ≤ 4 ∧ bt set (k - 1) ∧ K ≤ l + if s7 ≤ k then 1 else 0) := by
  refine Wp_for (fun (k : Nat) (x : Int32 × Hp) => (x.1, nI k, x.2)) 5 (fun k x => 1 ≤ k ∧ FA c7 h x.2 ∧ Rh n (hI x.2 c7) K ((H + 1) % 8) (fun l' r => D l' r ∨ ∃ k', 1 ≤ k' ∧ k' < k ∧ bt set (k' - 1) ∧ r = nxt n L P H k' ∧ l' = l + if s7 ≤ k' then 1 else 0) ∧ (x.1 = 0 ∨ x.1 = 1) ∧ (x.1 = 1 ↔ cm = 1 ∨ ∃ k', 1 ≤ k' ∧ k' < k ∧ bt set (k' - 1) ∧ K ≤ l + if s7 ≤ k' then 1 else 0)) ?_ ?_ (i0 := 1) (x0 := (cm, h)) (by omega) (by omega) ⟨by omega, FA.rfl', ?_, c01, ⟨Or.inl, fun z => z.resolve_right (fun ⟨k', a1, a2, _⟩ => by omega)⟩⟩
  · rintro k ⟨m, u⟩ hk ⟨hk1, fu, ru, mu, cu⟩
    dsimp only at fu ru mu cu ⊢
    have tk : (nI k).toInt = (k : Int) := ti_nI (by omega)
    have ek : nI k - (1 : Int32) = nI (k - 1) := by
      show nI k - nI 1 = _
      rw [pk_sub (by omega)]
    unfold f21_l46
    dsimp only
    rw [if_neg (show ¬ (4 : Int32) < nI k by rw [ti_lt, tk]; show ¬ (4 : Int) < _; omega)]
    by_cases c0 : set = 0
    · rw [if_pos c0, Wp_some]
      have no : ∀ k, 1 ≤ k → k ≤ 4 → ¬ bt set (k - 1) := fun k _ _ z => by rw [c0] at z; exact bt_0 (by omega) z
      refine Or.inr ⟨0, rfl, fu, Rh_c n12 ru (by omega) (fun l' s _ _ _ => ⟨fun z => z.elim Or.inl (fun ⟨k', a1, a2, a3, a4⟩ => absurd a3 (no k' a1 (by omega))), fun z => z.elim Or.inl (fun ⟨k', a1, a2, a3, a4⟩ => absurd a3 (no k' a1 a2))⟩), mu, cu.trans ⟨fun z => z.elim Or.inl (fun ⟨k', a1, a2, a3, a4⟩ => absurd a3 (no k' a1 (by omega))), fun z => z.elim Or.inl (fun ⟨k', a1, a2, a3, a4⟩ => absurd a3 (no k' a1 a2))⟩⟩
    rw [if_neg c0, ek]
    by_cases cb : bt set (k - 1)
    · have cb' : f123 set (nI (k - 1)) = 1 := cb
      rw [cb', if_neg (by decide)]
      have fin : ∀ l2, l2 = l + (if s7 ≤ k then 1 else 0) → Wp (f21_b65 N (nI l) (nI H) x4 (nI K) (nI P) x8 (nI s7) m (nI L) set (nI k) (nI l2) u) (fun q => (q.1 = 0 ∧ ∃ x' : Int32 × Hp, q.2 = (x'.1, nI (k + 1), x'.2) ∧ 1 ≤ k + 1 ∧ FA c7 h x'.2 ∧ Rh n (hI x'.2 c7) K ((H + 1) % 8) (fun l' r => D l' r ∨ ∃ k', 1 ≤ k' ∧ k' < k + 1 ∧ bt set (k' - 1) ∧ r = nxt n L P H k' ∧ l' = l + if s7 ≤ k' then 1 else 0) ∧ (x'.1 = 0 ∨ x'.1 = 1) ∧ (x'.1 = 1 ↔ cm = 1 ∨ ∃ k', 1 ≤ k' ∧ k' < k + 1 ∧ bt set (k' - 1) ∧ K ≤ l + if s7 ≤ k' then 1 else 0))) := by
        intro l2 hl2
        have hl2' : l2 ≤ 5 := by
          by_cases c : s7 ≤ k
          · rw [if_pos c] at hl2; omega
          · rw [if_neg c] at hl2; omega
        unfold f21_b65 f21_b94
        by_cases cK : K ≤ l2
        · rw [if_pos (by rw [ti_le, ti_nI (by omega), ti_nI (by omega)]; omega), Wp_bnd, Wp_some, nI_1]
          refine ⟨rfl, (1, u), rfl, by omega, fu, Rh_c n12 ru (by omega) (fun l' s hl' _ _ => ⟨fun z => z.elim Or.inl (fun ⟨k', a1, a2, a3⟩ => Or.inr ⟨k', a1, by omega, a3⟩), fun z => z.elim Or.inl (fun ⟨k', a1, a2, a3, a4, a5⟩ => ?_)⟩), Or.inr rfl, ⟨fun _ => Or.inr ⟨k, hk1, by omega, cb, by rw [← hl2]; exact cK⟩, fun _ => rfl⟩⟩
          by_cases ck : k' = k
          · subst ck; rw [← hl2] at a5; omega
          · exact Or.inr ⟨k', a1, by omega, a3, a4, a5⟩
        · have e60 : f60 N (nI P) (nI k) u = some (nI ((P + k) % n)) := placeOn_w n4 n12 (by rw [fu.1 41 (by rcases h7 with rfl | rfl <;> omega)]; exact e41) hP (by omega)
          have hq : (P + k) % n < n := Nat.mod_lt _ (by omega)
          have ea : nI l2 * (36 : Int32) + nI (12 * L + (P + k) % n) = nI (l2 * 36 + (12 * L + (P + k) % n)) := by
            show nI l2 * nI 36 + _ = _
            rw [pk_mul, nI_add]
          have ib : inb (nI (l2 * 36 + (12 * L + (P + k) % n))) 180 := nbk (by omega) (by omega)
          rw [if_neg (by rw [ti_le, ti_nI (by omega), ti_nI (by omega)]; omega), fu.2, r7, Option.bind_some, e60, Option.bind_some, Wp_gd, nI_cell, ea, (ch_shp h7).2, Wp_gd, Wp_bnd, Wp_bnd, Wp_some, nI_1, ek, nix (by omega)]
          refine ⟨⟨(ch_shp h7).1, ib⟩, ⟨(ch_shp h7).1, ib⟩, rfl, (m, uI u c7 (l2 * 36 + (12 * L + (P + k) % n)) (hI u c7 (l2 * 36 + (12 * L + (P + k) % n)) ||| 1 <<< (nI (k - 1) &&& 31))), rfl, by omega, fu.trans FA.u, ?_, mu, cu.trans ⟨fun z => z.elim Or.inl (fun ⟨k', a1, a2, a3⟩ => Or.inr ⟨k', a1, by omega, a3⟩), fun z => z.elim Or.inl (fun ⟨k', a1, a2, a3, a4⟩ => ?_)⟩⟩
          · intro l' L' P' b h1 h2 h3 h4
            dsimp only
            rw [hI_uI_eq]
            have old := ru l' L' P' b h1 h2 h3 h4
            by_cases ce : l' * 36 + (12 * L' + P') = l2 * 36 + (12 * L + (P + k) % n)
            · have y1 : l' = l2 := by omega
              have y2 : L' = L := by omega
              have y3 : P' = (P + k) % n := by omega
              rw [← ce, pu_eq, bt_or h4, bt_one (by omega) h4, old]
              constructor
              · rintro (⟨z1, z2, z3⟩ | z)
                · exact ⟨z1, z2, z3.elim Or.inl (fun ⟨k', a1, a2, a3⟩ => Or.inr ⟨k', a1, by omega, a3⟩)⟩
                · refine ⟨by omega, by omega, Or.inr ⟨k, hk1, by omega, cb, ?_, by omega⟩⟩
                  rw [y2, y3, show b + 1 = k by omega]; rfl
              · rintro ⟨z1, z2, z3⟩
                rcases z3 with z3 | ⟨k', a1, a2, a3, a4, a5⟩
                · exact Or.inl ⟨z1, z2, Or.inl z3⟩
                · by_cases ck : k' = k
                  · subst ck
                    have := st4_inj (by omega) (by omega) (by omega) (by omega) (by omega) (by omega) (show st4 L' P' ((H + 1) % 8) (b + 1) = st4 L ((P + k') % n) ((H + 1) % 8) k' from a4)
                    exact Or.inr (by omega)
                  · exact Or.inl ⟨z1, z2, Or.inr ⟨k', a1, by omega, a3, a4, a5⟩⟩
            · rw [pu_ne ce, old]
              constructor
              · rintro ⟨z1, z2, z3⟩
                exact ⟨z1, z2, z3.elim Or.inl (fun ⟨k', a1, a2, a3⟩ => Or.inr ⟨k', a1, by omega, a3⟩)⟩
              · rintro ⟨z1, z2, z3⟩
                rcases z3 with z3 | ⟨k', a1, a2, a3, a4, a5⟩
                · exact ⟨z1, z2, Or.inl z3⟩
                · by_cases ck : k' = k
                  · subst ck
                    have := st4_inj (by omega) (by omega) (by omega) (by omega) (by omega) (by omega) (show st4 L' P' ((H + 1) % 8) (b + 1) = st4 L ((P + k') % n) ((H + 1) % 8) k' from a4)
                    rw [← hl2] at a5
                    omega
                  · exact ⟨z1, z2, Or.inr ⟨k', a1, by omega, a3, a4, a5⟩⟩
          · by_cases ck : k' = k
            · subst ck; rw [← hl2] at a4; omega
            · exact Or.inr ⟨k', a1, by omega, a3, a4⟩
      have ts : (nI s7).toInt = (s7 : Int) := ti_nI (by omega)
      by_cases cs : s7 ≤ k
      · rw [if_neg (by rw [ti_lt, tk, ts]; omega), nI_1]
        exact Wp_mono (fin (l + 1) (by rw [if_pos cs])) (fun q hq => Or.inl hq)
      · rw [if_pos (by rw [ti_lt, tk, ts]; omega)]
        exact Wp_mono (fin l (by rw [if_neg cs]; rfl)) (fun q hq => Or.inl hq)
    · rw [if_pos (bt_n.1 cb)]
      unfold f21_b94
      rw [Wp_bnd, Wp_some, nI_1]
      refine Or.inl ⟨rfl, (m, u), rfl, by omega, fu, Rh_c n12 ru (by omega) (fun l' s hl' _ _ => ⟨fun z => z.elim Or.inl (fun ⟨k', a1, a2, a3⟩ => Or.inr ⟨k', a1, by omega, a3⟩), fun z => z.elim Or.inl (fun ⟨k', a1, a2, a3, a4⟩ => ?_)⟩), mu, cu.trans ⟨fun z => z.elim Or.inl (fun ⟨k', a1, a2, a3⟩ => Or.inr ⟨k', a1, by omega, a3⟩), fun z => z.elim Or.inl (fun ⟨k', a1, a2, a3, a4⟩ => ?_)⟩⟩
      · by_cases ck : k' = k
        · subst ck; exact absurd a3 cb
        · exact Or.inr ⟨k', a1, by omega, a3, a4⟩
      · by_cases ck : k' = k
        · subst ck; exact absurd a3 cb
        · exact Or.inr ⟨k', a1, by omega, a3, a4⟩
  · rintro ⟨m, u⟩ ⟨_, fu, ru, mu, cu⟩
    dsimp only at fu ru mu cu ⊢
    unfold f21_l46
    dsimp only
    rw [if_pos (show (4 : Int32) < nI 5 by decide), Wp_some]
    refine ⟨0, rfl, fu, Rh_c n12 ru (by omega) (fun l' s _ _ _ => ⟨fun z => z.elim Or.inl (fun ⟨k', a1, a2, a3⟩ => Or.inr ⟨k', a1, by omega, a3⟩), fun z => z.elim Or.inl (fun ⟨k', a1, a2, a3⟩ => Or.inr ⟨k', a1, by omega, a3⟩)⟩), mu, cu.trans ⟨fun z => z.elim Or.inl (fun ⟨k', a1, a2, a3⟩ => Or.inr ⟨k', a1, by omega, a3⟩), fun z => z.elim Or.inl (fun ⟨k', a1, a2, a3⟩ => Or.inr ⟨k', a1, by omega, a3⟩)⟩⟩
  · exact Rh_c n12 rh (by omega) (fun l' s _ _ _ => ⟨Or.inl, fun z => z.resolve_right (fun ⟨k', a1, a2, _⟩ => by omega)⟩)
/-- the speeds of any of the lasts -/
theorem any_w {L P H : Nat} {v : Int32} (hN : 1000 ≤ N) (hL : L < 3) (hP : P < n) (n12 : n ≤ 12) (hH : H < 8) (pa : Paced n T (a 1).toInt (a (20 + H)) H (hI h 65) (hI h 66)) : Wp (f22 N (nI L) (nI P) (nI H) v h) fun q => ∀ b, b < 32 → (bt q b ↔ b < 4 ∧ ∃ A : Nat, 1 ≤ A ∧ A ≤ 4 ∧ bt v (A - 1) ∧ ∃ sl w : Nat, sl < 4 ∧ w < 4 ∧ bt (a (20 + H)) w ∧ spd T (a 1).toInt (L : Int) (P : Int) (H : Int) (A : Int) (sl : Int) (w : Int) = ((b + 1 : Nat) : Int)) := by
  unfold f22
  rw [Wp_bnd, show f136 (nI L) (nI P) (nI H) 1 = _ from rw_n L P H 1 (by omega), Wp_bind]
  refine Wp_for (fun (i : Nat) (x : Int32) => (x, nI i)) 4 (fun i x => ∀ b, b < 32 → (bt x b ↔ ∃ A, A < i ∧ bt v A ∧ bt (hI h 65 (((L * 12 + P) * 8 + H) * 4 + A)) b)) ?_ ?_ (i0 := 0) (x0 := 0) (by omega) (by omega) (fun b hb => ⟨fun z => absurd z (bt_0 hb), fun ⟨A, z, _⟩ => by omega⟩)
  · rintro i x hi hx
    unfold f22_l10 f22_b26
    dsimp only
    rw [if_neg (show ¬ (4 : Int32) ≤ nI i by rw [ti_le, ti_nI (by omega)]; show ¬ (4 : Int) ≤ _; omega)]
    by_cases cb : bt v i
    · have cb' : f123 v (nI i) = 1 := cb
      rw [cb', if_neg (by decide), nI_add, Wp_gd]
      have hr : ((L * 12 + P) * 8 + H) * 4 + 1 - 1 + i < 1152 := by omega
      refine ⟨nbk hr (by omega), ?_⟩
      rw [Wp_bnd, Wp_bnd, Wp_some, nI_1, nix (by omega)]
      refine Or.inl ⟨rfl, _, rfl, fun b hb => ?_⟩
      rw [bt_or hb, hx b hb, show ((L * 12 + P) * 8 + H) * 4 + 1 - 1 + i = ((L * 12 + P) * 8 + H) * 4 + i by omega]
      constructor
      · rintro (⟨A, z1, z2⟩ | z)
        · exact ⟨A, by omega, z2⟩
        · exact ⟨i, by omega, cb, z⟩
      · rintro ⟨A, z1, z2, z3⟩
        by_cases cA : A = i
        · subst cA; exact Or.inr z3
        · exact Or.inl ⟨A, by omega, z2, z3⟩
    · rw [if_pos (bt_n.1 cb), Wp_bnd, Wp_bnd, Wp_some, nI_1]
      refine Or.inl ⟨rfl, _, rfl, fun b hb => ?_⟩
      rw [bt_or hb, hx b hb]
      constructor
      · rintro (⟨A, z1, z2⟩ | z)
        · exact ⟨A, by omega, z2⟩
        · exact absurd z (bt_0 hb)
      · rintro ⟨A, z1, z2, z3⟩
        by_cases cA : A = i
        · subst cA; exact absurd z2 cb
        · exact Or.inl ⟨A, by omega, z2, z3⟩
  · rintro x hx
    unfold f22_l10
    dsimp only
    rw [if_pos (show (4 : Int32) ≤ nI 4 by decide), Wp_some]
    refine ⟨0, rfl, ?_⟩
    rw [Wp_some]
    dsimp only
    intro b hb
    have row : ∀ A sl, A < 4 → sl < 4 → b < 4 → (bt (hI h 65 (((L * 12 + P) * 8 + H) * 4 + A)) (4 * sl + b) ↔ ∃ w : Nat, w < 4 ∧ bt (a (20 + H)) w ∧ spd T (a 1).toInt (L : Int) (P : Int) (H : Int) ((A + 1 : Nat) : Int) (sl : Int) (w : Int) = ((b + 1 : Nat) : Int)) := fun A sl hA hsl hb4 => by
      have := (pa L P (A + 1) hL hP (by omega) (by omega)).1 sl (b + 1) hsl (by omega) (by omega)
      rw [show ((L * 12 + P) * 8 + H) * 4 + (A + 1) - 1 = ((L * 12 + P) * 8 + H) * 4 + A by omega, show 4 * sl + (b + 1) - 1 = 4 * sl + b by omega] at this
      exact this
    have s4 : ∀ b, b < 4 → (bt (x >>> ((4 : Int32) &&& 31)) b ↔ bt x (4 * 1 + b)) := fun b hb => bt_shr (k := 4) (by omega) (by omega)
    have s8 : ∀ b, b < 4 → (bt (x >>> ((8 : Int32) &&& 31)) b ↔ bt x (4 * 2 + b)) := fun b hb => bt_shr (k := 8) (by omega) (by omega)
    have s12 : ∀ b, b < 4 → (bt (x >>> ((12 : Int32) &&& 31)) b ↔ bt x (4 * 3 + b)) := fun b hb => bt_shr (k := 12) (by omega) (by omega)
    rw [bt_and hb, bt_or hb, bt_or hb, bt_or hb, bt_15 hb]
    constructor
    · rintro ⟨z1, z2⟩
      rw [s4 b z2, s8 b z2, s12 b z2] at z1
      refine ⟨z2, ?_⟩
      have key : ∀ sl, sl < 4 → bt x (4 * sl + b) → ∃ A : Nat, 1 ≤ A ∧ A ≤ 4 ∧ bt v (A - 1) ∧ ∃ sl w : Nat, sl < 4 ∧ w < 4 ∧ bt (a (20 + H)) w ∧ spd T (a 1).toInt (L : Int) (P : Int) (H : Int) (A : Int) (sl : Int) (w : Int) = ((b + 1 : Nat) : Int) := fun sl hsl hz => by
        obtain ⟨A, y1, y2, y3⟩ := (hx _ (by omega)).1 hz
        obtain ⟨w, w1, w2, w3⟩ := (row A sl y1 hsl z2).1 y3
        exact ⟨A + 1, by omega, by omega, y2, sl, w, hsl, w1, w2, w3⟩
      rcases z1 with ((z | z) | z) | z
      · exact key 0 (by omega) (by rw [show 4 * 0 + b = b by omega]; exact z)
      · exact key 1 (by omega) z
      · exact key 2 (by omega) z
      · exact key 3 (by omega) z
    · rintro ⟨z2, A, a1, a2, a3, sl, w, w1, w2, w3, w4⟩
      refine ⟨?_, z2⟩
      rw [s4 b z2, s8 b z2, s12 b z2]
      have key : bt x (4 * sl + b) := by
        refine (hx _ (by omega)).2 ⟨A - 1, by omega, a3, ?_⟩
        refine (row (A - 1) sl (by omega) w1 z2).2 ⟨w, w2, w3, ?_⟩
        rw [show A - 1 + 1 = A by omega]; exact w4
      have : sl = 0 ∨ sl = 1 ∨ sl = 2 ∨ sl = 3 := by omega
      rcases this with rfl | rfl | rfl | rfl
      · rw [show 4 * 0 + b = b by omega] at key; exact Or.inl (Or.inl (Or.inl key))
      · exact Or.inl (Or.inl (Or.inr key))
      · exact Or.inl (Or.inr key)
      · exact Or.inr key
end
