/-! ===== a layer, an hour ahead ===== -/
def FA (c : Nat) (h h' : Hp) : Prop := (∀ c', c' ≠ c → hI h' c' = hI h c') ∧ hR h' = hR h
theorem FA.rfl' {c : Nat} {h : Hp} : FA c h h := ⟨fun _ _ => rfl, rfl⟩
theorem FA.trans {c : Nat} {h h1 h2 : Hp} (x : FA c h h1) (y : FA c h1 h2) : FA c h h2 := ⟨fun c' z => (y.1 c' z).trans (x.1 c' z), y.2.trans x.2⟩
theorem FA.u {c j : Nat} {v : Int32} {h : Hp} : FA c h (uI h c j v) := ⟨fun _ z => hI_uI_ne z, rfl⟩
/-- all the tables stand -/
def Al (n : Nat) (T : Tc) (a : Nat → Int32) (h : Hp) : Prop := (4 ≤ n ∧ n ≤ 12) ∧ hI h 41 0 = nI n ∧ (∀ j, j < 8 → 1 ≤ (a (20 + j)).toInt ∧ (a (20 + j)).toInt ≤ 15) ∧ ∀ H, H < 8 → Paced n T (a 1).toInt (a (20 + H)) H (hI h 65) (hI h 66) ∧ Sounded n T (sea a) H (hI h 67)
theorem Al_c {n : Nat} {T : Tc} {a : Nat → Int32} {h h' : Hp} (x : Al n T a h) (e1 : hI h' 41 0 = hI h 41 0) (e5 : hI h' 65 = hI h 65) (e6 : hI h' 66 = hI h 66) (e7 : hI h' 67 = hI h 67) : Al n T a h' := by
  obtain ⟨x1, x2, x3, x4⟩ := x
  exact ⟨x1, by rw [e1]; exact x2, x3, fun H hH => by rw [e5, e6, e7]; exact x4 H hH⟩
theorem Al_a {n : Nat} {T : Tc} {a : Nat → Int32} {h h' : Hp} {c : Nat} (x : Al n T a h) (hc : 68 ≤ c) (f : FA c h h') : Al n T a h' := Al_c x (by rw [f.1 41 (by omega)]) (f.1 65 (by omega)) (f.1 66 (by omega)) (f.1 67 (by omega))
theorem or01 {x y : Int32} (hx : x = 0 ∨ x = 1) (hy : y = 0 ∨ y = 1) : (x ||| y = 0 ∨ x ||| y = 1) ∧ (x ||| y = 0 ↔ x = 0 ∧ y = 0) := by
  rcases hx with rfl | rfl <;> rcases hy with rfl | rfl <;> decide
section
variable {N n : Nat} {T : Tc} {h : Hp} {a : Nat → Int32}
theorem putL_w {l L P H c8 c9 : Nat} {v : Int32} (hl : l < 5) (hL : L < 3) (hP : P < 12) (hH : H < 8) (r8 : hR h 64 8 = some c8) (r9 : hR h 64 9 = some c9) (h8 : CW c8) (h9 : CW c9) (h89 : c9 ≠ c8) : Wp (f16 N (nI l) (nI L) (nI P) (nI H) v h) fun q => q.2 = uI h c8 (l * 288 + ((L * 12 + P) * 8 + H)) v ∧ (q.1 = 0 ∨ q.1 = 1) ∧ (q.1 = 0 ↔ hI h c9 (l * 288 + ((L * 12 + P) * 8 + H)) = v) := by
  have ea : nI l * (288 : Int32) + nI ((L * 12 + P) * 8 + H) = nI (l * 288 + ((L * 12 + P) * 8 + H)) := by
    show nI l * nI 288 + _ = _
    rw [pk_mul, nI_add]
  have ib : inb (nI (l * 288 + ((L * 12 + P) * 8 + H))) 1440 := nbk (by omega) (by omega)
  unfold f16
  rw [Wp_bnd, sp_n, ea, r8, Option.bind_some, Wp_gd, (cw_shp h8).2]
  refine ⟨⟨(cw_shp h8).1, ib⟩, ?_⟩
  rw [Wp_bnd, hR_uI, r9, Option.bind_some, Wp_gd, (cw_shp h9).2]
  refine ⟨⟨(cw_shp h9).1, ib⟩, ?_⟩
  rw [hI_uI_ne h89, nix (by omega)]
  by_cases c : hI h c9 (l * 288 + ((L * 12 + P) * 8 + H)) = v
  · rw [if_pos c, Wp_some]
    exact ⟨rfl, Or.inl rfl, ⟨fun _ => c, fun _ => rfl⟩⟩
  · rw [if_neg c, Wp_some]
    exact ⟨rfl, Or.inr rfl, ⟨fun z => absurd (show (1 : Int32) = 0 from z) (by decide), fun z => absurd z c⟩⟩
theorem layer_w {l c8 c9 : Nat} {g : Int32} {sf : Nat → Nat} {B : Nat → Nat → Prop} (hN : 1000 ≤ N) (al : Al n T a h) (hl : l < 5) (r8 : hR h 64 8 = some c8) (r9 : hR h 64 9 = some c9) (h8 : CW c8) (h9 : CW c9) (h89 : c9 ≠ c8) (rw' : ∀ l', l' = l ∨ l' + 1 = l → Rw n (hI h c9) l' (B l')) (sp : Stg N n g sf) : Wp (f15 N (nI l) g h) fun x => FA c8 h x.2 ∧ (∀ r, ¬ r / 288 = l → hI x.2 c8 r = hI h c8 r) ∧ Rw n (hI x.2 c8) l (Nw n T a sf l B) ∧ ((x.1 = 0 ∧ ∀ s, ist n s → (Nw n T a sf l B s ↔ B l s)) ∨ (¬ x.1 = 0 ∧ ∃ s, ist n s ∧ ¬ (Nw n T a sf l B s ↔ B l s))) := by
  have al0 := al
  obtain ⟨⟨n4, n12⟩, e41, hw, ps⟩ := al
  have h8' : 68 ≤ c8 := by rcases h8 with rfl | rfl <;> omega
  unfold f15
  rw [Wp_bind]
  refine Wp_for (fun (P : Nat) (x : Int32 × Hp) => (x.1, nI P, x.2)) n (fun P x => FA c8 h x.2 ∧ (∀ r, ¬ r / 288 = l → hI x.2 c8 r = hI h c8 r) ∧ (x.1 = 0 ∨ x.1 = 1) ∧ (∀ L P' H', L < 3 → P' < n → H' < 8 → P' < P → ∀ b, b < 32 → (bt (hI x.2 c8 (l * 288 + ((L * 12 + P') * 8 + H'))) b ↔ b < 4 ∧ Nw n T a sf l B (st4 L P' H' (b + 1)))) ∧ (x.1 = 0 ↔ ∀ L P' H', L < 3 → P' < n → H' < 8 → P' < P → hI x.2 c8 (l * 288 + ((L * 12 + P') * 8 + H')) = hI h c9 (l * 288 + ((L * 12 + P') * 8 + H')))) ?_ ?_ (i0 := 0) (x0 := (0, h)) (by omega) (by omega) ⟨FA.rfl', fun _ _ => rfl, Or.inl rfl, fun _ _ _ _ _ _ z => by omega, ⟨fun _ _ _ _ _ _ _ z => by omega, fun _ => rfl⟩⟩
  · rintro P x hP hx
    have e41x : hI x.2 41 0 = nI n := by rw [hx.1.1 41 (by rcases h8 with rfl | rfl <;> omega)]; exact e41
    unfold f15_l4
    dsimp only
    rw [if_neg (by rw [e41x, ti_le, ti_nI (by omega), ti_nI (by omega)]; omega), Wp_bind]
    refine Wp_for (fun (H : Nat) (x : Int32 × Hp) => (x.1, nI H, x.2)) 8 (fun H x => FA c8 h x.2 ∧ (∀ r, ¬ r / 288 = l → hI x.2 c8 r = hI h c8 r) ∧ (x.1 = 0 ∨ x.1 = 1) ∧ (∀ L P' H', L < 3 → P' < n → H' < 8 → (P' < P ∨ (P' = P ∧ H' < H)) → ∀ b, b < 32 → (bt (hI x.2 c8 (l * 288 + ((L * 12 + P') * 8 + H'))) b ↔ b < 4 ∧ Nw n T a sf l B (st4 L P' H' (b + 1)))) ∧ (x.1 = 0 ↔ ∀ L P' H', L < 3 → P' < n → H' < 8 → (P' < P ∨ (P' = P ∧ H' < H)) → hI x.2 c8 (l * 288 + ((L * 12 + P') * 8 + H')) = hI h c9 (l * 288 + ((L * 12 + P') * 8 + H')))) ?_ ?_ (i0 := 0) (x0 := x) (by omega) (by omega) ?_
    · rintro H ⟨m, u⟩ hH ⟨fu, ou, mu, ru, eu⟩
      dsimp only at fu ou mu ru eu ⊢
      unfold f15_l11
      dsimp only
      rw [if_neg (show ¬ (8 : Int32) ≤ nI H by rw [ti_le, ti_nI (by omega)]; show ¬ (8 : Int) ≤ _; omega)]
      have alu := Al_a al0 h8' fu
      have u9 : hI u c9 = hI h c9 := fu.1 c9 h89
      have ls : ∀ L, L < 3 → Wp (f17 N (nI l) (nI L) (nI P) (nI H) g u) fun x => ∀ b, b < 32 → (bt x b ↔ b < 4 ∧ LC n T a (Gk sf l B P) L P H (b + 1)) := fun L hL => lasts_w hN n4 n12 hw alu.2.1 hl hL hP hH (alu.2.2.2 H hH).1 (alu.2.2.2 H hH).2 (by rw [fu.2]; exact r9) h9 (fun l' hl' => by rw [u9]; exact rw' l' hl') sp
      rw [Wp_bind]
      refine Wp_mono (show Wp (f17 N (nI l) (0 : Int32) (nI P) (nI H) g u) _ from ls 0 (by omega)) (fun x0 hx0 => ?_)
      rw [Wp_bind]
      refine Wp_mono (show Wp (f17 N (nI l) (1 : Int32) (nI P) (nI H) g u) _ from ls 1 (by omega)) (fun x1 hx1 => ?_)
      rw [Wp_bind]
      refine Wp_mono (show Wp (f17 N (nI l) (2 : Int32) (nI P) (nI H) g u) _ from ls 2 (by omega)) (fun x2 hx2 => ?_)
      have n0 : ∀ b, b < 32 → (bt (x0 ||| x1) b ↔ b < 4 ∧ Nw n T a sf l B (st4 0 P H (b + 1))) := fun b hb => by
        rw [bt_or hb, hx0 b hb, hx1 b hb]
        constructor
        · rintro (z | z)
          · exact ⟨z.1, (Nw_lc n4 n12 hw (by omega) hP hH (by omega) (by omega)).2 ⟨0, by omega, by omega, by omega, z.2⟩⟩
          · exact ⟨z.1, (Nw_lc n4 n12 hw (by omega) hP hH (by omega) (by omega)).2 ⟨1, by omega, by omega, by omega, z.2⟩⟩
        · rintro ⟨z1, z2⟩
          obtain ⟨L', y1, y2, y3, y4⟩ := (Nw_lc n4 n12 hw (by omega) hP hH (by omega) (by omega)).1 z2
          have : L' = 0 ∨ L' = 1 := by omega
          rcases this with rfl | rfl
          · exact Or.inl ⟨z1, y4⟩
          · exact Or.inr ⟨z1, y4⟩
      have n1 : ∀ b, b < 32 → (bt (x0 ||| x1 ||| x2) b ↔ b < 4 ∧ Nw n T a sf l B (st4 1 P H (b + 1))) := fun b hb => by
        rw [bt_or hb, bt_or hb, hx0 b hb, hx1 b hb, hx2 b hb]
        constructor
        · rintro ((z | z) | z)
          · exact ⟨z.1, (Nw_lc n4 n12 hw (by omega) hP hH (by omega) (by omega)).2 ⟨0, by omega, by omega, by omega, z.2⟩⟩
          · exact ⟨z.1, (Nw_lc n4 n12 hw (by omega) hP hH (by omega) (by omega)).2 ⟨1, by omega, by omega, by omega, z.2⟩⟩
          · exact ⟨z.1, (Nw_lc n4 n12 hw (by omega) hP hH (by omega) (by omega)).2 ⟨2, by omega, by omega, by omega, z.2⟩⟩
        · rintro ⟨z1, z2⟩
          obtain ⟨L', y1, y2, y3, y4⟩ := (Nw_lc n4 n12 hw (by omega) hP hH (by omega) (by omega)).1 z2
          have : L' = 0 ∨ L' = 1 ∨ L' = 2 := by omega
          rcases this with rfl | rfl | rfl
          · exact Or.inl (Or.inl ⟨z1, y4⟩)
          · exact Or.inl (Or.inr ⟨z1, y4⟩)
          · exact Or.inr ⟨z1, y4⟩
      have n2 : ∀ b, b < 32 → (bt (x1 ||| x2) b ↔ b < 4 ∧ Nw n T a sf l B (st4 2 P H (b + 1))) := fun b hb => by
        rw [bt_or hb, hx1 b hb, hx2 b hb]
        constructor
        · rintro (z | z)
          · exact ⟨z.1, (Nw_lc n4 n12 hw (by omega) hP hH (by omega) (by omega)).2 ⟨1, by omega, by omega, by omega, z.2⟩⟩
          · exact ⟨z.1, (Nw_lc n4 n12 hw (by omega) hP hH (by omega) (by omega)).2 ⟨2, by omega, by omega, by omega, z.2⟩⟩
        · rintro ⟨z1, z2⟩
          obtain ⟨L', y1, y2, y3, y4⟩ := (Nw_lc n4 n12 hw (by omega) hP hH (by omega) (by omega)).1 z2
          have : L' = 1 ∨ L' = 2 := by omega
          rcases this with rfl | rfl
          · exact Or.inl ⟨z1, y4⟩
          · exact Or.inr ⟨z1, y4⟩
      generalize x0 ||| x1 = v0 at n0 n1 ⊢
      generalize v0 ||| x2 = v1 at n1 ⊢
      generalize x1 ||| x2 = v2 at n2 ⊢
      have r8u : hR u 64 8 = some c8 := by rw [fu.2]; exact r8
      have r9u : hR u 64 9 = some c9 := by rw [fu.2]; exact r9
      rw [Wp_bind]
      refine Wp_mono (show Wp (f16 N (nI l) (0 : Int32) (nI P) (nI H) v0 u) _ from putL_w (L := 0) hl (by omega) (by omega) hH r8u r9u h8 h9 h89) (fun q0 ⟨a1, a2, a3⟩ => ?_)
      obtain ⟨q0, w0⟩ := q0
      dsimp only at a1 a2 a3 ⊢
      rw [Wp_bnd, Wp_bind, a1]
      refine Wp_mono (show Wp (f16 N (nI l) (1 : Int32) (nI P) (nI H) v1 _) _ from putL_w (L := 1) hl (by omega) (by omega) hH r8u r9u h8 h9 h89) (fun q1 ⟨b1, b2, b3⟩ => ?_)
      obtain ⟨q1, w1⟩ := q1
      dsimp only at b1 b2 b3 ⊢
      rw [Wp_bnd, Wp_bind, b1]
      refine Wp_mono (show Wp (f16 N (nI l) (2 : Int32) (nI P) (nI H) v2 _) _ from putL_w (L := 2) hl (by omega) (by omega) hH r8u r9u h8 h9 h89) (fun q2 ⟨d1, d2, d3⟩ => ?_)
      obtain ⟨q2, w2⟩ := q2
      dsimp only at d1 d2 d3 ⊢
      rw [hI_uI_ne h89, u9] at b3
      rw [hI_uI_ne h89, hI_uI_ne h89, u9] at d3
      rw [u9] at a3
      rw [Wp_bnd, Wp_bnd, Wp_some, nI_1]
      have o1 := or01 mu a2
      have o2 := or01 o1.1 b2
      have o3 := or01 o2.1 d2
      have rd : ∀ r, hI w2 c8 r = if r = l * 288 + ((2 * 12 + P) * 8 + H) then v2 else if r = l * 288 + ((1 * 12 + P) * 8 + H) then v1 else if r = l * 288 + ((0 * 12 + P) * 8 + H) then v0 else hI u c8 r := fun r => by
        rw [d1, hI_uI_eq]
        unfold pu
        rw [hI_uI_eq]
        unfold pu
        rw [hI_uI_eq]
        unfold pu
        rfl
      refine Or.inl ⟨rfl, (_, _), rfl, ?_, ?_, o3.1, ?_, ?_⟩
      · rw [d1]; exact fu.trans (FA.u.trans (FA.u.trans FA.u))
      · intro r hr
        dsimp only
        rw [rd r, if_neg (by rintro rfl; omega), if_neg (by rintro rfl; omega), if_neg (by rintro rfl; omega)]
        exact ou r hr
      · intro L P' H' hL hP' hH' hd b hb
        dsimp only
        rw [rd]
        by_cases cc : P' = P ∧ H' = H
        · obtain ⟨rfl, rfl⟩ := cc
          have : L = 0 ∨ L = 1 ∨ L = 2 := by omega
          rcases this with rfl | rfl | rfl
          · rw [if_neg (by omega), if_neg (by omega), if_pos rfl]; exact n0 b hb
          · rw [if_neg (by omega), if_pos rfl]; exact n1 b hb
          · rw [if_pos rfl]; exact n2 b hb
        · rw [if_neg (by omega), if_neg (by omega), if_neg (by omega)]
          exact ru L P' H' hL hP' hH' (by omega) b hb
      · dsimp only
        rw [o3.2, o2.2, o1.2, eu, a3, b3, d3]
        constructor
        · rintro ⟨⟨⟨z1, z2⟩, z3⟩, z4⟩ L P' H' hL hP' hH' hd
          rw [rd]
          by_cases cc : P' = P ∧ H' = H
          · obtain ⟨rfl, rfl⟩ := cc
            have : L = 0 ∨ L = 1 ∨ L = 2 := by omega
            rcases this with rfl | rfl | rfl
            · rw [if_neg (by omega), if_neg (by omega), if_pos rfl]; exact z2.symm
            · rw [if_neg (by omega), if_pos rfl]; exact z3.symm
            · rw [if_pos rfl]; exact z4.symm
          · rw [if_neg (by omega), if_neg (by omega), if_neg (by omega)]
            exact z1 L P' H' hL hP' hH' (by omega)
        · intro z
          refine ⟨⟨⟨fun L P' H' hL hP' hH' hd => ?_, ?_⟩, ?_⟩, ?_⟩
          · have := z L P' H' hL hP' hH' (by omega)
            rw [rd, if_neg (by omega), if_neg (by omega), if_neg (by omega)] at this
            exact this
          · have := z 0 P H (by omega) hP hH (by omega)
            rw [rd, if_neg (by omega), if_neg (by omega), if_pos rfl] at this
            exact this.symm
          · have := z 1 P H (by omega) hP hH (by omega)
            rw [rd, if_neg (by omega), if_pos rfl] at this
            exact this.symm
          · have := z 2 P H (by omega) hP hH (by omega)
            rw [rd, if_pos rfl] at this
            exact this.symm
    · rintro ⟨m, u⟩ ⟨fu, ou, mu, ru, eu⟩
      dsimp only at fu ou mu ru eu ⊢
      unfold f15_l11
      dsimp only
      rw [if_pos (show (8 : Int32) ≤ nI 8 by decide), Wp_some]
      refine ⟨0, rfl, ?_⟩
      rw [Wp_bnd, Wp_some]
      refine Or.inl ⟨rfl, (m, u), by dsimp only; rw [nI_1], fu, ou, mu, fun L P' H' h1 h2 h3 h4 => ru L P' H' h1 h2 h3 (by omega), eu.trans ⟨fun z L P' H' h1 h2 h3 h4 => z L P' H' h1 h2 h3 (by omega), fun z L P' H' h1 h2 h3 h4 => z L P' H' h1 h2 h3 (by omega)⟩⟩
    · obtain ⟨fx, ox, mx, rx, ex⟩ := hx
      exact ⟨fx, ox, mx, fun L P' H' h1 h2 h3 h4 => rx L P' H' h1 h2 h3 (by omega), ex.trans ⟨fun z L P' H' h1 h2 h3 h4 => z L P' H' h1 h2 h3 (by omega), fun z L P' H' h1 h2 h3 h4 => z L P' H' h1 h2 h3 (by omega)⟩⟩
  · rintro ⟨m, u⟩ ⟨fu, ou, mu, ru, eu⟩
    dsimp only at fu ou mu ru eu ⊢
    have e41x : hI u 41 0 = nI n := by rw [fu.1 41 (by rcases h8 with rfl | rfl <;> omega)]; exact e41
    unfold f15_l4
    dsimp only
    rw [if_pos (by rw [e41x, ti_le]; omega), Wp_some]
    refine ⟨0, rfl, ?_⟩
    rw [Wp_some]
    have rr : Rw n (hI u c8) l (Nw n T a sf l B) := fun L P H b h1 h2 h3 h4 => ru L P H h1 h2 h3 h2 b h4
    refine ⟨fu, ou, rr, ?_⟩
    have m1 : (m &&& 1 : Int32) = 0 ↔ m = 0 := by rcases mu with rfl | rfl <;> decide
    dsimp only
    rw [m1]
    by_cases c0 : m = 0
    · refine Or.inl ⟨c0, fun s hs => ?_⟩
      obtain ⟨s1, s2, s3, s4, s5, s6, s7⟩ := ist_d hs
      have z := eu.1 c0 _ _ _ s1 s2 s3 s2
      have y1 := rr (s / 480) (s / 40 % 12) (s / 5 % 8) (s % 5 - 1) s1 s2 s3 (by omega)
      have y2 := rw' l (Or.inl rfl) (s / 480) (s / 40 % 12) (s / 5 % 8) (s % 5 - 1) s1 s2 s3 (by omega)
      rw [show s % 5 - 1 + 1 = s % 5 by omega, ← s6] at y1 y2
      rw [z] at y1
      exact ⟨fun q => (y2.1 (y1.2 ⟨by omega, q⟩)).2, fun q => (y1.1 (y2.2 ⟨by omega, q⟩)).2⟩
    · refine Or.inr ⟨c0, ?_⟩
      refine Classical.byContradiction fun no => c0 (eu.2 fun L P H h1 h2 h3 _ => bt_ext fun b hb => ?_)
      rw [rr L P H b h1 h2 h3 hb, rw' l (Or.inl rfl) L P H b h1 h2 h3 hb]
      constructor
      · rintro ⟨z1, z2⟩
        refine ⟨z1, Classical.byContradiction fun z3 => no ⟨_, st4_i n12 h1 h2 h3 (by omega) (by omega), fun z => z3 (z.1 z2)⟩⟩
      · rintro ⟨z1, z2⟩
        refine ⟨z1, Classical.byContradiction fun z3 => no ⟨_, st4_i n12 h1 h2 h3 (by omega) (by omega), fun z => z3 (z.2 z2)⟩⟩
end
