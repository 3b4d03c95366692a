/-! ===== reach, meet ===== -/
/-- the class's sets of hour m -/
def Fs (n : Nat) (T : Tc) (a : Nat → Int32) (sf : Nat → Nat) (K s0 : Nat) : Nat → Nat → Nat → Prop
  | 0, l, r => l = 0 ∧ r = s0
  | m + 1, l, r => Nx n T a sf K (Fs n T a sf K s0 m) l r
def FwI (n : Nat) (T : Tc) (a : Nat → Int32) (sf : Nat → Nat) (K s0 : Nat) (x : Hp) (m : Nat) (u : Hp) : Prop := (∀ c, c ≠ 69 → c ≠ 70 → hI u c = hI x c) ∧ (∀ c j, (c ≠ 64 ∨ (j ≠ 6 ∧ j ≠ 7)) → hR u c j = hR x c j) ∧ ∃ c6 c7, hR u 64 6 = some c6 ∧ hR u 64 7 = some c7 ∧ CH c6 ∧ CH c7 ∧ c6 ≠ c7 ∧ Rh n (hI u c6) K ((s0 / 5 % 8 + m) % 8) (Fs n T a sf K s0 m)
section
variable {N n : Nat} {T : Tc} {x u : Hp} {a : Nat → Int32} {sf : Nat → Nat} {K s0 m : Nat}
theorem Fs_i (n4 : 4 ≤ n) (n12 : n ≤ 12) (hs : ist n s0) : ∀ m l r, Fs n T a sf K s0 m l r → ist n r ∧ r / 5 % 8 = (s0 / 5 % 8 + m) % 8
  | 0, l, r, ⟨_, e⟩ => by
    subst e
    exact ⟨hs, by omega⟩
  | m + 1, l, r, ⟨l', s, _, h1, h2, _⟩ => by
    obtain ⟨i1, i2⟩ := Fs_i n4 n12 hs m l' s h1
    obtain ⟨j1, j2⟩ := Mv_i n4 n12 i1 h2
    exact ⟨j1, by omega⟩
theorem Fs_13 {s0 : Nat} : ∀ m l r, Fs n T a (fun _ => 13) 1 s0 m l r ↔ l = 0 ∧ Rm n T a s0 m r
  | 0, l, r => Iff.rfl
  | m + 1, l, r => by
    constructor
    · rintro ⟨l', s, z1, z2, z3, z4⟩
      obtain ⟨y1, y2⟩ := (Fs_13 m l' s).1 z2
      unfold pss at z4
      rw [if_neg (show ¬ 13 ≤ r % 5 by omega)] at z4
      exact ⟨by omega, s, y2, z3⟩
    · rintro ⟨z1, s, z2, z3⟩
      refine ⟨0, s, by omega, (Fs_13 m 0 s).2 ⟨rfl, z2⟩, z3, ?_⟩
      unfold pss
      rw [if_neg (show ¬ 13 ≤ r % 5 by omega)]
      omega
/-- a step of the class -/
theorem FwI_s {g : Int32} (hN : 10000 ≤ N) (n4 : 4 ≤ n) (n12 : n ≤ 12) (hs : ist n s0) (hK : K ≤ 5) (e41 : hI x 41 0 = nI n) (pa : Paced n T (a 1).toInt (a (20 + (s0 / 5 % 8 + m) % 8)) ((s0 / 5 % 8 + m) % 8) (hI x 65) (hI x 66)) (so : Sounded n T (sea a) ((s0 / 5 % 8 + m) % 8) (hI x 67)) (sp : Stg N n g sf) (i : FwI n T a sf K s0 x m u) : Wp (f20 N (nI ((s0 / 5 % 8 + m) % 8)) (nI K) g u) fun y => FwI n T a sf K s0 x (m + 1) y.2 ∧ (y.1 = 0 ∨ y.1 = 1) ∧ (y.1 = 1 ↔ Cm n T a sf K (Fs n T a sf K s0 m)) := by
  obtain ⟨i1, i2, c6, c7, r6, r7, h6, h7, h67, rh⟩ := i
  refine Wp_mono (goan_w (a := a) (T := T) hN n4 n12 (by rw [i1 41 (by omega) (by omega)]; exact e41) hK (by omega) (by rw [i1 65 (by omega) (by omega), i1 66 (by omega) (by omega)]; exact pa) (by rw [i1 67 (by omega) (by omega)]; exact so) sp r6 r7 h6 h7 h67 rh (fun l s _ z => Fs_i n4 n12 hs m l s z)) (fun y ⟨y1, y2, y3, y4, y5, y6⟩ => ?_)
  refine ⟨⟨fun c z1 z2 => (y1.1 c (by rcases h7 with rfl | rfl <;> assumption)).trans (i1 c z1 z2), fun c j z => (y1.2 c j z).trans (i2 c j z), c7, c6, y2, y3, h7, h6, Ne.symm h67, ?_⟩, y5, y6⟩
  rw [show (s0 / 5 % 8 + (m + 1)) % 8 = ((s0 / 5 % 8 + m) % 8 + 1) % 8 by omega]
  exact y4
theorem FwI_0 (hN : 10000 ≤ N) (n12 : n ≤ 12) (hs : ist n s0) (hK : K ≤ 5) (ch : Ch n T x a) : Wp (f19 N (nI s0) x) fun y => FwI n T a sf K s0 x 0 y := by
  have k : ∃ c6 c7, hR x 64 6 = some c6 ∧ hR x 64 7 = some c7 ∧ CH c6 ∧ CH c7 ∧ c6 ≠ c7 := by
    rcases ch.2.2.2.1 with z | z
    · exact ⟨69, 70, z.1, z.2, Or.inl rfl, Or.inr rfl, by omega⟩
    · exact ⟨70, 69, z.1, z.2, Or.inr rfl, Or.inl rfl, by omega⟩
  obtain ⟨c6, c7, r6, r7, h6, h7, h67⟩ := k
  refine Wp_mono (start_w hN n12 hs hK r6 h6) (fun y ⟨y1, y2⟩ => ?_)
  refine ⟨fun c z1 z2 => y1.1 c (by rcases h6 with rfl | rfl <;> assumption), fun c j _ => by rw [y1.2], c6, c7, by rw [y1.2]; exact r6, by rw [y1.2]; exact r7, h6, h7, h67, ?_⟩
  rw [show (s0 / 5 % 8 + 0) % 8 = s0 / 5 % 8 by omega]
  exact y2
theorem FwI_ch (i : FwI n T a sf K s0 x m u) (ch : Ch n T x a) : FZ x u ∧ Ch n T u a := by
  obtain ⟨i1, i2, c6, c7, r6, r7, h6, h7, h67, rh⟩ := i
  refine ⟨⟨fun c z => i1 c (by omega) (by omega), fun c j z => i2 c j (by omega)⟩, ?_⟩
  obtain ⟨c1, c2, c3, c4, c5⟩ := ch
  refine ⟨?_, ?_, ?_, ?_, ?_⟩
  · rw [i1 64 (by omega) (by omega), i1 65 (by omega) (by omega), i1 66 (by omega) (by omega)]; exact c1
  · rw [i1 64 (by omega) (by omega), i1 67 (by omega) (by omega)]; exact c2
  · rw [i1 64 (by omega) (by omega), i1 68 (by omega) (by omega)]; exact c3
  · rw [r6, r7]
    rcases h6 with rfl | rfl <;> rcases h7 with rfl | rfl
    · omega
    · exact Or.inl ⟨rfl, rfl⟩
    · exact Or.inr ⟨rfl, rfl⟩
    · omega
  · rw [i2 64 8 (by omega), i2 64 9 (by omega)]; exact c5
/-- the places of the class -/
theorem plc_w {lane : Nat} (hN : 10000 ≤ N) (n12 : n ≤ 12) (e41 : hI x 41 0 = nI n) (hl : lane < 3) (i : FwI n T a sf 1 s0 x m u) : Wp (lp (f6_l25 N (nI lane) u) N ((0 : Int32), (0 : Int32))) fun q => ∀ b, b < 32 → (bt q.2.1 b ↔ b < n ∧ ∃ A, 1 ≤ A ∧ A ≤ 4 ∧ Fs n T a sf 1 s0 m 0 (st4 lane b ((s0 / 5 % 8 + m) % 8) A)) := by
  obtain ⟨i1, i2, c6, c7, r6, r7, h6, h7, h67, rh⟩ := i
  refine Wp_for (fun (p : Nat) (v : Int32) => (v, nI p)) n (fun p v => ∀ b, b < 32 → (bt v b ↔ b < p ∧ ∃ A, 1 ≤ A ∧ A ≤ 4 ∧ Fs n T a sf 1 s0 m 0 (st4 lane b ((s0 / 5 % 8 + m) % 8) A))) ?_ ?_ (i0 := 0) (x0 := 0) (by omega) (by omega) (fun b hb => ⟨fun z => absurd z (bt_0 hb), fun z => by omega⟩)
  · rintro p v hp hv
    unfold f6_l25
    dsimp only
    rw [i1 41 (by omega) (by omega), e41, if_neg (by rw [ti_le, ti_nI (by omega), ti_nI (by omega)]; omega), r6, Option.bind_some, Wp_gd, nI_cell, (ch_shp h6).2]
    refine ⟨⟨(ch_shp h6).1, nbk (by omega) (by omega)⟩, ?_⟩
    rw [nix (by omega)]
    have hr : ∀ b, b < 32 → (bt (hI u c6 (12 * lane + p)) b ↔ b < 4 ∧ p < n ∧ Fs n T a sf 1 s0 m 0 (st4 lane p ((s0 / 5 % 8 + m) % 8) (b + 1))) := fun b hb => by
      have := rh 0 lane p b (by omega) hl (by omega) hb
      rw [show 0 * 36 + (12 * lane + p) = 12 * lane + p by omega] at this
      exact this
    unfold f6_b43
    by_cases c : hI u c6 (12 * lane + p) = 0
    · rw [if_pos c, Wp_bnd, Wp_bnd, Wp_some, nI_1]
      refine Or.inl ⟨rfl, _, rfl, fun b hb => ?_⟩
      rw [bt_or hb, hv b hb]
      constructor
      · rintro (z | z)
        · exact ⟨by omega, z.2⟩
        · exact absurd z (bt_0 hb)
      · rintro ⟨z1, A, z2, z3, z4⟩
        by_cases cb : b = p
        · subst cb
          have := (hr (A - 1) (by omega)).2 ⟨by omega, hp, by rw [show A - 1 + 1 = A by omega]; exact z4⟩
          rw [c] at this
          exact absurd this (bt_0 (by omega))
        · exact Or.inl ⟨by omega, A, z2, z3, z4⟩
    · rw [if_neg c, Wp_bnd, Wp_bnd, Wp_some, nI_1]
      refine Or.inl ⟨rfl, _, rfl, fun b hb => ?_⟩
      rw [bt_or hb, hv b hb, bt_one (by omega) hb]
      constructor
      · rintro (z | z)
        · exact ⟨by omega, z.2⟩
        · subst z
          refine ⟨by omega, ?_⟩
          refine Classical.byContradiction fun no => c (bt_ext fun k hk => ⟨fun y => ?_, fun y => absurd y (bt_0 hk)⟩)
          obtain ⟨y1, y2, y3⟩ := (hr k hk).1 y
          exact absurd ⟨k + 1, by omega, by omega, y3⟩ no
      · rintro ⟨z1, z2⟩
        by_cases cb : b = p
        · exact Or.inr cb
        · exact Or.inl ⟨by omega, z2⟩
  · rintro v hv
    unfold f6_l25
    dsimp only
    rw [i1 41 (by omega) (by omega), e41, if_pos (by rw [ti_le]; omega), Wp_some]
    exact ⟨0, rfl, hv⟩
/-- the places of the reference -/
theorem plcM_w {h : Hp} {G : Nat → Prop} {lane : Nat} (hN : 10000 ≤ N) (hl : lane < 3) (i10 : In h 10 G) : Wp (lp (f210_l32 N (nI lane) h) N ((0 : Int32), (0 : Int32))) fun q => ∀ b, b < 32 → (bt q.2.1 b ↔ ∃ s, s < 1440 ∧ G s ∧ s / 480 = lane ∧ s / 40 % 12 = b) := by
  refine Wp_for (fun (s : Nat) (v : Int32) => (v, nI s)) 1440 (fun s v => ∀ b, b < 32 → (bt v b ↔ ∃ s', s' < s ∧ G s' ∧ s' / 480 = lane ∧ s' / 40 % 12 = b)) ?_ ?_ (i0 := 0) (x0 := 0) (by omega) (by omega) (fun b hb => ⟨fun z => absurd z (bt_0 hb), fun ⟨_, z, _⟩ => by omega⟩)
  · rintro s v hs hv
    obtain ⟨d1, d2, d3, d4⟩ := nI_dec s (by omega)
    have d1' : f144 (nI s) = nI (s / 480) := d1
    have d2' : f145 (nI s) = nI (s / 40 % 12) := d2
    unfold f210_l32 f210_b51
    dsimp only
    rw [if_neg (show ¬ (1440 : Int32) ≤ nI s by rw [ti_le, ti_nI (by omega)]; show ¬ (1440 : Int) ≤ _; omega), Wp_gd]
    refine ⟨nbk hs (by omega), ?_⟩
    rw [nix (by omega), d1', d2']
    have skip : ¬ (G s ∧ s / 480 = lane) → Wp (bnd (nI s + 1) fun v13 => (some (0, (v, v13)) : Option (Nat × (Int32 × Int32)))) (fun q => (q.1 = 0 ∧ ∃ x', q.2 = (x', nI (s + 1)) ∧ ∀ b, b < 32 → (bt x' b ↔ ∃ s', s' < s + 1 ∧ G s' ∧ s' / 480 = lane ∧ s' / 40 % 12 = b))) := fun no => by
      rw [Wp_bnd, Wp_some, nI_1]
      refine ⟨rfl, v, rfl, fun b hb => (hv b hb).trans ⟨fun ⟨s', z1, z2⟩ => ⟨s', by omega, z2⟩, fun ⟨s', z1, z2, z3, z4⟩ => ?_⟩⟩
      by_cases cs : s' = s
      · subst cs; exact absurd ⟨z2, z3⟩ no
      · exact ⟨s', by omega, z2, z3, z4⟩
    by_cases cg : G s
    · rw [if_neg (by rw [In_0 i10 hs]; exact fun z => z cg)]
      by_cases cl : s / 480 = lane
      · rw [if_pos (by rw [cl]), Wp_bnd, Wp_bnd, Wp_some, nI_1]
        refine Or.inl ⟨rfl, _, rfl, fun b hb => ?_⟩
        rw [bt_or hb, hv b hb, bt_one (by omega) hb]
        constructor
        · rintro (⟨s', z1, z2⟩ | z)
          · exact ⟨s', by omega, z2⟩
          · exact ⟨s, by omega, cg, cl, z.symm⟩
        · rintro ⟨s', z1, z2, z3, z4⟩
          by_cases cs : s' = s
          · subst cs; exact Or.inr z4.symm
          · exact Or.inl ⟨s', by omega, z2, z3, z4⟩
      · rw [if_neg (fun z => cl (nI_inj (by omega) (by omega) z))]
        exact Wp_mono (skip (fun z => cl z.2)) (fun q hq => Or.inl hq)
    · rw [if_pos ((In_0 i10 hs).2 cg)]
      exact Wp_mono (skip (fun z => cg z.1)) (fun q hq => Or.inl hq)
  · rintro v hv
    unfold f210_l32
    dsimp only
    rw [if_pos (show (1440 : Int32) ≤ nI 1440 by decide), Wp_some]
    exact ⟨0, rfl, hv⟩
end
section
variable {n L N : Nat} {T : Nat → Tc} {hx hm : Hp}
theorem op_reach (p1 p2 p3 : Int32) (hN : 10000 ≤ N) (r : Rl n L T hx hm) (wf : WF 0 hx) : Wp (f106 N p1 p2 p3 hx) fun x => Wp (f210 N p1 p2 p3 hm) fun y => x.1 = y.1 ∧ Rl n L T x.2 y.2 := by
  have z1 : ¬ (1 : Int32) = 0 := by decide
  have t0 : (0 : Int32).toInt = 0 := rfl
  have t24 : (24 : Int32).toInt = 24 := rfl
  have n4 := r.n4
  have n12 := r.n12
  rcases i128 (N := N) p1 r with ⟨s, rfl, hs, k1, k2⟩ | ⟨k1, k2⟩
  · by_cases c2 : 0 ≤ p2.toInt ∧ p2.toInt ≤ 24
    · have d1 : ¬ p2 < 0 := by rw [ti_lt]; omega
      have d2 : ¬ (24 : Int32) < p2 := by rw [ti_lt]; omega
      have d3 : ¬ f139 p2 0 24 = 0 := fun z => i139.1 z c2
      by_cases c3 : 0 ≤ p3.toInt ∧ p3.toInt ≤ 2
      · have d4 : ¬ f125 p3 = 0 := fun z => i125.1 z c3
        have d5 : ¬ f139 p3 0 2 = 0 := fun z => i139.1 z c3
        obtain ⟨k, rfl, hk⟩ : ∃ k, p2 = nI k ∧ k < 25 := ⟨tn p2, (nI_tn c2.1).symm, by unfold tn; omega⟩
        obtain ⟨lane, rfl, hl⟩ : ∃ k, p3 = nI k ∧ k < 3 := ⟨tn p3, (nI_tn c3.1).symm, by unfold tn; omega⟩
        obtain ⟨e1, e2, e3, e4⟩ := nI_dec s (by have := hs.1; omega)
        simp only [f106, f6, f210, f207, k1, k2, d1, d2, d3, d4, d5, z1, e3, Option.bind_some, if_false, if_true, Wp_bind, Wp_some]
        refine Wp_mono (prep_w (by omega) (r.en wf.2) r.ch (show s / 5 % 8 < 8 by omega) (show k < 1000 by omega)) (fun x ⟨fx, cx, bx⟩ => ?_)
        have e41 : hI x 41 0 = nI n := by rw [fx.1.1 41 (by omega)]; exact r.pX
        have tb : ∀ m, m < k → Paced n (Tr T (hI hm 1 3)) (hI hm 1 1).toInt (hI hm 1 (20 + (s / 5 % 8 + m) % 8)) ((s / 5 % 8 + m) % 8) (hI x 65) (hI x 66) ∧ Sounded n (Tr T (hI hm 1 3)) (sea (hI hm 1)) ((s / 5 % 8 + m) % 8) (hI x 67) := fun m hmk => by
          have := bx (m % 8) (by omega) (by omega)
          rw [show (s / 5 % 8 + m % 8) % 8 = (s / 5 % 8 + m) % 8 by omega] at this
          exact ⟨cx.1 _ (by omega) this.1, cx.2.1 _ (by omega) this.2⟩
        refine Wp_mono (FwI_0 (sf := fun _ => 13) (K := 1) hN n12 hs (by omega) cx) (fun u iu => ?_)
        have lp1 : Wp (lp (f6_l5 N (nI s) (nI k) (nI lane)) N ((0 : Int32), u)) fun q => FwI n (Tr T (hI hm 1 3)) (hI hm 1) (fun _ => 13) 1 s x k q.2.2 := by
          refine Wp_for (fun (i : Nat) (w : Hp) => (nI i, w)) k (fun i w => FwI n (Tr T (hI hm 1 3)) (hI hm 1) (fun _ => 13) 1 s x i w) ?_ ?_ (i0 := 0) (x0 := u) (by omega) (by omega) iu
          · rintro i w hi iw
            have eH : irem (f131 (nI s) + nI i) 8 = nI ((s / 5 % 8 + i) % 8) := by rw [e3, nI_add]; exact pk_rem (d := 8) (by omega) (by omega) (by omega)
            unfold f6_l5
            dsimp only
            rw [if_neg (by rw [ti_le, ti_nI (by omega), ti_nI (by omega)]; omega), eH, Wp_bind]
            refine Wp_mono (show Wp (f20 N (nI ((s / 5 % 8 + i) % 8)) (nI 1) (-1) w) _ from FwI_s hN n4 n12 hs (by omega) e41 (tb i hi).1 (tb i hi).2 stg13 iw) (fun y ⟨y1, _⟩ => ?_)
            rw [Wp_bnd, Wp_some, nI_1]
            exact Or.inl ⟨rfl, y.2, rfl, y1⟩
          · rintro w iw
            unfold f6_l5
            dsimp only
            rw [if_pos (by rw [ti_le]; omega), Wp_some]
            exact ⟨0, rfl, iw⟩
        refine Wp_mono lp1 (fun q iq => ?_)
        refine Wp_mono (plc_w hN n12 e41 hl iq) (fun v hv => ?_)
        refine Wp_mono (r.lay hN) (fun y ⟨y1, y2, y3⟩ => ?_)
        refine Wp_mono (begF_w hN hs.1) (fun z ⟨z1', z2⟩ => ?_)
        have lp2 : Wp (lp (f210_l21 N (nI k) (nI lane)) N ((0 : Int32), z.2.2)) fun q => FW z.2.2 q.2.2 ∧ In q.2.2 10 (Rm n (Tr T (hI hm 1 3)) (hI hm 1) s k) := by
          refine Wp_for (fun (i : Nat) (w : Hp) => (nI i, w)) k (fun i w => FW z.2.2 w ∧ In w 10 (Rm n (Tr T (hI hm 1 3)) (hI hm 1) s i)) ?_ ?_ (i0 := 0) (x0 := z.2.2) (by omega) (by omega) ⟨FW.rfl', z2⟩
          · rintro i w hi ⟨fw, iw⟩
            unfold f210_l21
            dsimp only
            rw [if_neg (by rw [ti_le, ti_nI (by omega), ti_nI (by omega)]; omega), Wp_bind]
            refine Wp_mono (goM_w hN (Ld_c y2 (z1'.trans fw)) iw (fun s' hs' => (Rm_i n4 n12 hs i s' hs').1)) (fun w' ⟨w1, w2⟩ => ?_)
            rw [Wp_bnd, Wp_some, nI_1]
            exact Or.inl ⟨rfl, w', rfl, fw.trans w1, w2⟩
          · rintro w ⟨fw, iw⟩
            unfold f210_l21
            dsimp only
            rw [if_pos (by rw [ti_le]; omega), Wp_some]
            exact ⟨0, rfl, fw, iw⟩
        refine Wp_mono lp2 (fun w ⟨w1, w2⟩ => ?_)
        refine Wp_mono (plcM_w hN hl w2) (fun v' hv' => ?_)
        obtain ⟨f1, f2⟩ := FwI_ch iq cx
        have fw := z1'.trans w1
        refine ⟨?_, r.ct ((FZ.p fx.1).trans f1) f2 (y1.trans (FT.w fw)) (Ld.tb (Ld_c y2 fw) (by rw [fw 0 (by omega)]; exact y3))⟩
        refine bt_ext fun b hb => ?_
        rw [hv b hb, hv' b hb]
        constructor
        · rintro ⟨b1, A, A1, A2, A3⟩
          have d := st4_d (L := lane) (P := b) (H := (s / 5 % 8 + k) % 8) (A := A) (by omega) (by omega) (by omega)
          have := ((Fs_13 k 0 _).1 A3).2
          exact ⟨_, (Rm_i n4 n12 hs k _ this).1.1, this, d.1, d.2.1⟩
        · rintro ⟨s', a1, a2, a3, a4⟩
          obtain ⟨i1, i2⟩ := Rm_i n4 n12 hs k s' a2
          obtain ⟨d1, d2, d3, d4, d5, d6, d7⟩ := ist_d i1
          refine ⟨by omega, s' % 5, d4, d5, (Fs_13 k 0 _).2 ⟨rfl, ?_⟩⟩
          rw [← a3, ← a4, ← i2, ← d6]
          exact a2
      · have d4 : f125 p3 = 0 := i125.2 c3
        have d5 : f139 p3 0 2 = 0 := i139.2 c3
        simp only [f106, f210, k1, k2, d1, d2, d3, d4, d5, z1, Option.bind_some, if_false, if_true, Wp_some, true_and]
        exact r
    · have d3 : f139 p2 0 24 = 0 := i139.2 c2
      by_cases d1 : p2 < 0
      · simp only [f106, f210, k1, k2, d1, d3, z1, Option.bind_some, if_false, if_true, Wp_some, true_and]
        exact r
      · have d2 : (24 : Int32) < p2 := by rw [ti_lt] at d1; rw [ti_lt]; omega
        simp only [f106, f210, k1, k2, d1, d2, d3, z1, Option.bind_some, if_false, if_true, Wp_some, true_and]
        exact r
  · simp only [f106, f210, k1, k2, Option.bind_some, if_true, Wp_some, true_and]
    exact r
end
