/-! ===== best ===== -/
section
variable {N n : Nat} {T : Tc} {h : Hp} {a : Nat → Int32}
def FvK (n : Nat) (T : Tc) (a : Nat → Int32) (s : Nat) : Prop := ∀ k, Kp n T a k s
theorem Kc_iff {s c : Nat} {G : Nat → Prop} (n4 : 4 ≤ n) (n12 : n ≤ 12) (hs : ist n s) (hc : c < 12) (hw : ∀ j, j < 8 → 1 ≤ (a (20 + j)).toInt ∧ (a (20 + j)).toInt ≤ 15) : Kc n T a G s c ↔ (1 ≤ s / 480 + c / 4 ∧ s / 480 + c / 4 ≤ 3) ∧ ∀ w : Nat, w < 4 → bt (a (20 + s / 5 % 8)) w → ∃ k : Nat, 1 ≤ k ∧ k ≤ 4 ∧ spd T (a 1).toInt ((s / 480 + c / 4 - 1 : Nat) : Int) ((s / 40 % 12 : Nat) : Int) ((s / 5 % 8 : Nat) : Int) ((s % 5 : Nat) : Int) ((c % 4 : Nat) : Int) (w : Int) = k ∧ flt n T (sea a) (s / 480 + c / 4 - 1) (s / 40 % 12) (s / 5 % 8) k ∧ G (nxt n (s / 480 + c / 4 - 1) (s / 40 % 12) (s / 5 % 8) k) := by
  have hd := ist_d hs
  constructor
  · intro hy
    obtain ⟨w0, hw0, hb0⟩ := wind_ne (hw (s / 5 % 8) hd.2.2.1).1 (hw (s / 5 % 8) hd.2.2.1).2
    obtain ⟨r0, hr0, ho0, _⟩ := hy w0 hw0 hb0
    obtain ⟨c1, _⟩ := (Oc_st n4 n12 hs hc hr0).1 ho0
    refine ⟨c1, fun w h4 hb => ?_⟩
    obtain ⟨r, hr, ho, hg⟩ := hy w h4 hb
    obtain ⟨_, k, k1, k2, k3, k4, rfl⟩ := (Oc_st n4 n12 hs hc hr).1 ho
    exact ⟨k, k1, k2, k3, k4, hg⟩
  · rintro ⟨c1, hy⟩ w h4 hb
    obtain ⟨k, k1, k2, k3, k4, k5⟩ := hy w h4 hb
    have nd := nxt_d (P := s / 40 % 12) (H := s / 5 % 8) n4 n12 (show s / 480 + c / 4 - 1 < 3 by omega) k1 k2
    exact ⟨_, nd.1, (Oc_st n4 n12 hs hc nd.1).2 ⟨c1, k, k1, k2, k3, k4, rfl⟩, k5⟩
theorem keepX_w {s c : Nat} {ad : Int32} (hN : 1000 ≤ N) (al : Al n T a h) (st : Settled n T a (hI h 68) ad) (hs : ist n s) (hc : c < 12) (hv : 1 ≤ s / 480 + c / 4 ∧ s / 480 + c / 4 ≤ 3) : Wp (f12 N (nI (s / 480 + c / 4 - 1)) (nI s) (nI (c % 4)) h) fun q => (q = 1 ∧ Kc n T a (FvK n T a) s c) ∨ (q = 0 ∧ ¬ Kc n T a (FvK n T a) s c) := by
  obtain ⟨⟨n4, n12⟩, e41, hw, ps⟩ := al
  have kc := Kc_iff (T := T) (G := FvK n T a) n4 n12 hs hc hw
  obtain ⟨s1, s2, s3, s4, s5, s6, s7⟩ := ist_d hs
  obtain ⟨d1, d2, d3, d4⟩ := nI_dec s (by omega)
  unfold f12
  rw [Wp_bnd, Wp_bnd, d2, d3, d4]
  generalize hLn : s / 480 + c / 4 - 1 = L' at kc
  generalize hPn : s / 40 % 12 = P at *
  generalize hHn : s / 5 % 8 = H at *
  generalize hAn : s % 5 = A at *
  generalize hSn : c % 4 = sl at kc
  have hL : L' < 3 := by omega
  have hsl : sl < 4 := by omega
  rw [rw_n _ _ _ _ s4, Wp_gd]
  refine ⟨nbk (by omega) (by omega), ?_⟩
  have e4 : (4 : Int32) * nI sl = nI (4 * sl) := pk_mul 4 sl
  rw [Wp_bnd, nix (by omega), e4, Wp_bind]
  obtain ⟨pa, so⟩ := ps H s3
  obtain ⟨p1, _⟩ := pa L' P A hL s2 s4 s5
  have hb : ∀ k, 1 ≤ k → k ≤ 4 → (bt (hI h 65 (((L' * 12 + P) * 8 + H) * 4 + A - 1) >>> (nI (4 * sl) &&& 31)) (k - 1) ↔ ∃ w, w < 4 ∧ bt (a (20 + H)) w ∧ spd T (a 1).toInt (L' : Int) (P : Int) (H : Int) (A : Int) (sl : Int) (w : Int) = k) := fun k k1 k2 => by
    rw [bt_shr (by omega) (by omega), show 4 * sl + (k - 1) = 4 * sl + k - 1 by omega]
    exact p1 sl k hsl k1 k2
  generalize hI h 65 (((L' * 12 + P) * 8 + H) * 4 + A - 1) >>> (nI (4 * sl) &&& 31) = v at hb ⊢
  refine Wp_for (fun (k : Nat) (_ : Unit) => nI k) 5 (fun k _ => 1 ≤ k ∧ ∀ k', 1 ≤ k' → k' < k → bt v (k' - 1) → flt n T (sea a) L' P H k' ∧ FvK n T a (nxt n L' P H k')) ?_ ?_ (i0 := 1) (x0 := ()) (by omega) (by omega) ⟨by omega, fun _ z1 z2 => by omega⟩
  · rintro k _ hk ⟨hk1, hx⟩
    have ek : nI k - (1 : Int32) = nI (k - 1) := by
      show nI k - nI 1 = _
      rw [pk_sub (by omega)]
    have nd := nxt_d (P := P) (H := H) n4 n12 hL hk1 (by omega)
    unfold f12_l22
    rw [if_neg (show ¬ (4 : Int32) < nI k by rw [ti_lt, ti_nI (by omega)]; show ¬ (4 : Int) < _; omega), ek]
    unfold f12_b65
    by_cases cb : bt v (k - 1)
    · have cb' : f123 v (nI (k - 1)) = 1 := cb
      have e60 : f60 N (nI P) (nI k) h = some (nI ((P + k) % n)) := placeOn_w n4 n12 e41 s2 (by omega)
      have eH : irem (nI H + 1) 8 = nI ((H + 1) % 8) := by rw [nI_1]; exact pk_rem (d := 8) (by omega) (by omega) (by omega)
      have hq : (P + k) % n < n := Nat.mod_lt _ (by omega)
      rw [cb', if_neg (by decide), e60, Option.bind_some, Wp_bnd, eH, rw_n _ _ _ _ hk1, sp_n, Wp_gd]
      refine ⟨nbk (by omega) (by omega), ?_⟩
      rw [nix (k := (L' * 12 + P) * 8 + H) (by omega)]
      have bad : (¬ (flt n T (sea a) L' P H k ∧ FvK n T a (nxt n L' P H k))) → ¬ Kc n T a (FvK n T a) s c := fun y z => by
        obtain ⟨w, w1, w2, w3⟩ := (hb k hk1 (by omega)).1 cb
        obtain ⟨k', q1, q2, q3, q4, q5⟩ := (kc.1 z).2 w w1 w2
        have : k' = k := by
          have := w3.symm.trans q3
          omega
        subst this
        exact y ⟨q4, q5⟩
      have fl := so L' P k hL s2 hk1 (by omega)
      by_cases cf : bt (hI h 67 ((L' * 12 + P) * 8 + H)) (k - 1)
      · have cf' : f123 (hI h 67 ((L' * 12 + P) * 8 + H)) (nI (k - 1)) = 1 := cf
        rw [cf', if_neg (by decide), Wp_gd]
        refine ⟨nbk (by omega) (by omega), ?_⟩
        have er : ((L' * 12 + (P + k) % n) * 8 + (H + 1) % 8) * 4 + k - 1 = rw4 (nxt n L' P H k) := by
          unfold rw4 nxt; omega
        rw [nix (by omega), er]
        rcases set_k st nd.2.2.2.2.2 with ⟨y1, y2⟩ | ⟨m, m1, m2, m3, m4⟩
        · have y1' : hI h 68 (rw4 (nxt n L' P H k)) = (1000000 : Int32) := y1
          rw [if_pos y1', Wp_bnd, Wp_some, nI_1]
          refine Or.inl ⟨rfl, (), rfl, by omega, fun k' z1 z2 z3 => ?_⟩
          by_cases ck : k' = k
          · subst ck; exact ⟨fl.1 cf, y2⟩
          · exact hx k' z1 (by omega) z3
        · rw [if_neg (by rw [m2, ti_eq, ti_nI (by omega)]; show ¬ _ = (1000000 : Int); omega), Wp_some]
          refine Or.inr ⟨0, rfl, ?_⟩
          dsimp only
          rw [if_pos rfl, Wp_some]
          exact Or.inr ⟨rfl, bad (fun z => m4 (z.2 (m + 1)))⟩
      · rw [if_pos (bt_n.1 cf), Wp_some]
        refine Or.inr ⟨0, rfl, ?_⟩
        dsimp only
        rw [if_pos rfl, Wp_some]
        exact Or.inr ⟨rfl, bad (fun z => cf (fl.2 z.1))⟩
    · rw [if_pos (bt_n.1 cb), Wp_bnd, Wp_some, nI_1]
      refine Or.inl ⟨rfl, (), rfl, by omega, fun k' z1 z2 z3 => ?_⟩
      by_cases ck : k' = k
      · subst ck; exact absurd z3 cb
      · exact hx k' z1 (by omega) z3
  · rintro _ ⟨_, hx⟩
    unfold f12_l22
    rw [if_pos (show (4 : Int32) < nI 5 by decide), Wp_some]
    refine ⟨1, rfl, ?_⟩
    dsimp only
    rw [if_neg (by omega), Wp_some]
    refine Or.inl ⟨rfl, kc.2 ⟨hv, fun w w1 w2 => ?_⟩⟩
    obtain ⟨b1, b2⟩ := spd_bd T (a 1).toInt (L' : Int) (P : Int) (H : Int) (A : Int) (sl : Int) (w : Int)
    obtain ⟨k, hk⟩ : ∃ k : Nat, spd T (a 1).toInt (L' : Int) (P : Int) (H : Int) (A : Int) (sl : Int) (w : Int) = (k : Int) := ⟨_, (Int.toNat_of_nonneg (by omega)).symm⟩
    have := hx k (by omega) (by omega) ((hb k (by omega) (by omega)).2 ⟨w, w1, w2, hk⟩)
    exact ⟨k, by omega, by omega, hk, this.1, this.2⟩
theorem bestX_w {s : Nat} {ad : Int32} (hN : 1000 ≤ N) (al : Al n T a h) (st : Settled n T a (hI h 68) ad) (hs : ist n s) : Wp (f11 N (nI s) h) fun q => (∃ c, c < 12 ∧ q = nI c ∧ Kc n T a (FvK n T a) s c ∧ ∀ c', c' < c → ¬ Kc n T a (FvK n T a) s c') ∨ (q = -1 ∧ ∀ c', c' < 12 → ¬ Kc n T a (FvK n T a) s c') := by
  have al0 := al
  obtain ⟨⟨n4, n12⟩, e41, hw, ps⟩ := al
  obtain ⟨s1, s2, s3, s4, s5, s6, s7⟩ := ist_d hs
  obtain ⟨d1, d2, d3, d4⟩ := nI_dec s (by omega)
  unfold f11
  rw [Wp_bind]
  refine Wp_for (fun (c : Nat) (_ : Unit) => nI c) 12 (fun c _ => ∀ c', c' < c → ¬ Kc n T a (FvK n T a) s c') ?_ ?_ (i0 := 0) (x0 := ()) (by omega) (by omega) (fun _ z => by omega)
  · rintro c _ hc hx
    obtain ⟨e5, e6⟩ := nI_div4 c (by omega)
    have tl := nI_lane (s / 480) (c / 4) (by omega) (by omega)
    unfold f11_l2
    rw [if_neg (show ¬ (12 : Int32) ≤ nI c by rw [ti_le, ti_nI (by omega)]; show ¬ (12 : Int) ≤ _; omega), Wp_bnd, d1, e5, e6]
    unfold f11_b27
    by_cases cv : 1 ≤ s / 480 + c / 4 ∧ s / 480 + c / 4 ≤ 3
    · have el : nI (s / 480) + nI (c / 4) - 1 = nI (s / 480 + c / 4 - 1) := by rw [ti_eq, tl, ti_nI (by omega)]; omega
      rw [if_neg (fun z => i125.1 z (by omega)), el, Wp_bind]
      refine Wp_mono (keepX_w hN al0 st hs hc cv) (fun q hq => ?_)
      rcases hq with ⟨q1, q2⟩ | ⟨q1, q2⟩
      · rw [if_neg (by rw [q1]; decide), Wp_some]
        refine Or.inr ⟨0, rfl, ?_⟩
        dsimp only
        rw [if_pos rfl, Wp_some]
        exact Or.inl ⟨c, hc, rfl, q2, hx⟩
      · rw [if_pos q1, Wp_bnd, Wp_some, nI_1]
        refine Or.inl ⟨rfl, (), rfl, fun c' h1 => ?_⟩
        by_cases cc : c' = c
        · subst cc; exact q2
        · exact hx c' (by omega)
    · rw [if_pos (i125.2 (by omega)), Wp_bnd, Wp_some, nI_1]
      refine Or.inl ⟨rfl, (), rfl, fun c' h1 => ?_⟩
      by_cases cc : c' = c
      · subst cc; exact fun z => cv ((Kc_iff n4 n12 hs hc hw).1 z).1
      · exact hx c' (by omega)
  · rintro _ hx
    unfold f11_l2
    rw [if_pos (show (12 : Int32) ≤ nI 12 by decide), Wp_some]
    refine ⟨1, rfl, ?_⟩
    dsimp only
    rw [if_neg (by omega), Wp_some]
    exact Or.inr ⟨rfl, hx⟩
/-- the reference's search -/
theorem bestM_w {s : Nat} {G : Nat → Prop} (hN : 1000 ≤ N) (l : Ld n T a h) (i12 : In h 12 G) (hs : ist n s) {c0 : Nat} (h0 : c0 < 12) (h1 : Kc n T a G s c0) : Wp (lp (f216_l9 N (nI s) h) N (0 : Int32)) fun q => ∃ c, c < 12 ∧ q.2 = nI c ∧ Kc n T a G s c ∧ ∀ c', c' < c → ¬ Kc n T a G s c' := by
  refine Wp_for (fun (c : Nat) (_ : Unit) => nI c) 12 (fun c _ => ∀ c', c' < c → ¬ Kc n T a G s c') ?_ ?_ (i0 := 0) (x0 := ()) (by omega) (by omega) (fun _ z => by omega)
  · rintro c _ hc hx
    unfold f216_l9
    rw [Wp_bind]
    refine Wp_mono (keeps_w hN l i12 hs hc) (fun q hq => ?_)
    rcases hq with ⟨q1, q2⟩ | ⟨q1, q2⟩
    · rw [if_neg (by rw [q1]; decide), Wp_some]
      exact Or.inr ⟨0, rfl, c, hc, rfl, q2, hx⟩
    · rw [if_pos q1, Wp_bnd, Wp_some, nI_1]
      refine Or.inl ⟨rfl, (), rfl, fun c' h1 => ?_⟩
      by_cases cc : c' = c
      · subst cc; exact q2
      · exact hx c' (by omega)
  · rintro _ hx
    exact absurd h1 (hx c0 h0)
end
section
variable {n L N : Nat} {T : Nat → Tc} {hx hm : Hp}
theorem Rl.al {T : Tc} {a : Nat → Int32} {h : Hp} (en : En n T a h) (ch : Ch n T h a) (b1 : ∀ H, H < 8 → bt (hI h 64 10) H) (b2 : ∀ H, H < 8 → bt (hI h 64 11) H) : Al n T a h := ⟨en.1, en.2.1, en.2.2.2.2.2.2, fun H hH => ⟨ch.1 H hH (b1 H hH), ch.2.1 H hH (b2 H hH)⟩⟩
theorem Al_of {T : Tc} {a : Nat → Int32} {h h' : Hp} (en : En n T a h) (fz : FZ h h') (ch : Ch n T h' a) (b1 : ∀ H, H < 8 → bt (hI h' 64 10) H) (b2 : ∀ H, H < 8 → bt (hI h' 64 11) H) : Al n T a h' := ⟨en.1, by rw [fz.1 41 (by omega)]; exact en.2.1, en.2.2.2.2.2.2, fun H hH => ⟨ch.1 H hH (b1 H hH), ch.2.1 H hH (b2 H hH)⟩⟩
theorem op_best (p1 : Int32) (hN : 10000 ≤ N) (r : Rl n L T hx hm) (wf : WF 0 hx) : Wp (f109 N p1 hx) fun x => Wp (f216 N p1 hm) fun y => x.1 = y.1 ∧ Rl n L T x.2 y.2 := by
  have z1 : ¬ (1 : Int32) = 0 := by decide
  have d3 : ¬ f139 (-1) (-1) 99 = 0 := by decide
  rcases i128 (N := N) p1 r with ⟨s, rfl, hs, k1, k2⟩ | ⟨k1, k2⟩
  · simp only [f109, f216, f214, f212, k1, k2, d3, z1, Option.bind_some, if_false, if_true, Wp_bind, Wp_some]
    refine Wp_mono (settle_w hN (r.en wf.2) r.ch) (fun x ⟨fx, cx, sx⟩ => ?_)
    obtain ⟨st, b1, b2⟩ := cx.set sx
    refine Wp_mono (bestX_w (by omega) (Al_of (r.en wf.2) fx cx b1 b2) st hs) (fun q hq => ?_)
    refine Wp_mono (r.lay hN) (fun y ⟨y1, y2, y3⟩ => ?_)
    refine Wp_mono (begin_w hN y2) (fun z ⟨z1', z2⟩ => ?_)
    refine Wp_mono (kept_l hN (p2 := -1) ⟨by decide, by decide⟩ (Ld_c y2 z1') z2) (fun w ⟨w1, i, ib, w2, w3, w4⟩ => ?_)
    have fw := z1'.trans w1
    have lw := Ld_c y2 fw
    have fin := r.ct fx cx (y1.trans (FT.w fw)) (Ld.tb lw (by rw [fw 0 (by omega)]; exact y3))
    have w3' : ∀ s, Kp n (Tr T (hI hm 1 3)) (hI hm 1) i s → ∀ k, Kp n (Tr T (hI hm 1 3)) (hI hm 1) k s := by
      rcases w3 with w3 | w3
      · exact w3
      · have := congrArg Int32.toInt w3
        rw [ti_nI (by omega)] at this
        have tm : (-1 : Int32).toInt = -1 := rfl
        omega
    have inF : In w.2.2.2 12 (FvK n (Tr T (hI hm 1 3)) (hI hm 1)) := fun s' hs' => ⟨(w2 s' hs').1, (w2 s' hs').2.trans ⟨fun q => w3' s' q, fun q => q i⟩⟩
    have fvc : FvK n (Tr T (hI hm 1 3)) (hI hm 1) s ↔ ∃ c, c < 12 ∧ Kc n (Tr T (hI hm 1 3)) (hI hm 1) (FvK n (Tr T (hI hm 1 3)) (hI hm 1)) s c := by
      constructor
      · intro f
        obtain ⟨c, c1, c2⟩ := (f (i + 1)).2
        refine ⟨c, c1, fun w hw hb => ?_⟩
        obtain ⟨r', r1, r2, r3⟩ := c2 w hw hb
        exact ⟨r', r1, r2, fun k => w3' r' r3 k⟩
      · rintro ⟨c, c1, c2⟩ k
        cases k with
        | zero => exact hs
        | succ k =>
          refine ⟨hs, c, c1, fun w hw hb => ?_⟩
          obtain ⟨r', r1, r2, r3⟩ := c2 w hw hb
          exact ⟨r', r1, r2, r3 k⟩
    obtain ⟨u1, u2⟩ := inF s hs.1
    rw [Wp_gd, Wp_some, nix (by have := hs.1; omega)]
    refine ⟨nbk hs.1 (by omega), ?_⟩
    dsimp only
    rw [a01 u1]
    by_cases cf : FvK n (Tr T (hI hm 1 3)) (hI hm 1) s
    · rw [u2.2 cf, if_neg z1]
      obtain ⟨c0, c1, c2⟩ := fvc.1 cf
      rw [Wp_bind]
      refine Wp_mono (bestM_w (by omega) lw inF hs c1 c2) (fun v ⟨c, v1, v2, v3, v4⟩ => ?_)
      rw [Wp_some]
      refine ⟨?_, fin⟩
      rcases hq with ⟨c', q1, q2, q3, q4⟩ | ⟨q1, q2⟩
      · rw [q2, v2]
        by_cases cc : c' < c
        · exact absurd q3 (v4 c' cc)
        · by_cases cc' : c < c'
          · exact absurd v3 (q4 c cc')
          · rw [show c' = c by omega]
      · exact absurd c2 (q2 c0 c1)
    · have : hI w.2.2.2 12 s = 0 := u1.resolve_right (fun z => cf (u2.1 z))
      rw [this, if_pos rfl, Wp_some]
      refine ⟨?_, fin⟩
      rcases hq with ⟨c', q1, q2, q3, q4⟩ | ⟨q1, q2⟩
      · exact absurd (fvc.2 ⟨c', q1, q3⟩) cf
      · exact q1
  · simp only [f109, f216, f214, k1, k2, Option.bind_some, if_true, Wp_some, true_and]
    exact r
end
