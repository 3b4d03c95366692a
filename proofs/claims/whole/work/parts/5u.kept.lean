/-! ===== kept, think, best ===== -/
section
variable {n L N : Nat} {T : Nat → Tc} {hx hm : Hp}
theorem Rl.en (r : Rl n L T hx hm) (wf : RF hx) : En n (Tr T (hI hm 1 3)) (hI hm 1) hx := by
  obtain ⟨q1, q2, q3, q4⟩ := r.sc.1
  exact ⟨r.1, r.pX, r.lx wf, q3, q1, q4, r.sc.2.2.2.2.2.2.2.1.2.2⟩
/-- chart and table change -/
theorem Rl.ct {hx' hm' : Hp} (r : Rl n L T hx hm) (fz : FZ hx hx') (ch : Ch n (Tr T (hI hm 1 3)) hx' (hI hm 1)) (ft : FT hm hm') (tb : Tb n (Tr T (hI hm 1 3)) hm') : Rl n L T hx' hm' := by
  have e1 : hI hm' 1 = hI hm 1 := ft.1 1 (by omega) (by omega)
  have e2 : hI hm' 2 = hI hm 2 := ft.1 2 (by omega) (by omega)
  refine ⟨r.1, ?_, ?_, ?_, ?_, ?_, ?_, ?_, ?_, ?_, ?_⟩
  · rw [fz.1 41 (by omega)]; exact r.pX
  · rw [ft.2 2 (by omega)]; exact r.pM
  · exact Sc_c r.sc (fun k hk => fz.1 _ (by omega)) (fun j _ => by rw [e1])
  · exact Sc_c r.scI (fun k hk => fz.1 _ (by omega)) (fun j _ => by rw [e2])
  · exact Tp_c r.tp (fz.1 _ (by omega)) (fz.1 _ (by omega)) (ft.2 5 (by omega)) (ft.1 4 (by omega) (by omega))
  · exact Fl_c r.fl (fz.1 _ (by omega)) (ft.2 6 (by omega)) (ft.2 7 (by omega))
  · exact Tx_c r.tx r.sc.2.2.2.2.2.2.2.2.2.1.2.1 (fun c h1 h2 => fz.1 c (by omega)) (by rw [e1]) (ft.1 3 (by omega) (by omega)) (by rw [e2])
  · exact Lw_c r.lw (funext fun j => fz.2 61 j (by omega)) (by rw [e1])
  · rw [e1]; exact ch
  · rw [e1]; exact tb
theorem Ld.tb {T : Tc} {a : Nat → Int32} {h : Hp} (l : Ld n T a h) (h27 : hI h 0 27 = 1) : Tb n T h := by
  obtain ⟨l1, l2, l3, l4, l5⟩ := l
  refine Or.inr ⟨h27, ?_⟩
  rw [l2]
  exact l4
theorem Rl.lay (hN : 10000 ≤ N) (r : Rl n L T hx hm) : Wp (f194 N hm) fun y => FT hm y ∧ Ld n (Tr T (hI hm 1 3)) (hI hm 1) y ∧ hI y 0 27 = 1 := lay_w hN r.n4 r.n12 r.pM r.lm r.tb r.sc.2.2.2.2.2.2.2.1.2.2
/-- what the settled chart says -/
theorem set_k {T : Tc} {a : Nat → Int32} {ho : Nat → Int32} {ad : Int32} {s : Nat} (st : Settled n T a ho ad) (hs : ist n s) : (ho (rw4 s) = nI 1000000 ∧ ∀ k, Kp n T a k s) ∨ ∃ m : Nat, m < 1152 ∧ ho (rw4 s) = nI m ∧ Kp n T a m s ∧ ¬ Kp n T a (m + 1) s := by
  obtain ⟨A, a1, a2, a3, a4⟩ := st
  rcases a3 s hs with z | ⟨m, m1, m2⟩
  · exact Or.inl z
  · exact Or.inr ⟨m, by omega, m2⟩
theorem Ch.set {T : Tc} {a : Nat → Int32} {h : Hp} (c : Ch n T h a) (e : hI h 64 12 = 1) : Settled n T a (hI h 68) (hI h 64 13) ∧ (∀ H, H < 8 → bt (hI h 64 10) H) ∧ ∀ H, H < 8 → bt (hI h 64 11) H := by
  rcases c.2.2.1 with z | z
  · rw [e] at z; exact absurd z (by decide)
  · exact z.2
theorem op_kept (p1 p2 : Int32) (hN : 10000 ≤ N) (r : Rl n L T hx hm) (wf : WF 0 hx) : Wp (f107 N p1 p2 hx) fun x => Wp (f214 N p1 p2 hm) fun y => x.1 = y.1 ∧ Rl n L T x.2 y.2 := by
  have z1 : ¬ (1 : Int32) = 0 := by decide
  have tm : (-1 : Int32).toInt = -1 := rfl
  have t99 : (99 : Int32).toInt = 99 := rfl
  have tM : (1000000 : Int32).toInt = 1000000 := rfl
  have nM : nI 1000000 = (1000000 : Int32) := rfl
  rcases i128 (N := N) p1 r with ⟨s, rfl, hs, k1, k2⟩ | ⟨k1, k2⟩
  · by_cases c2 : -1 ≤ p2.toInt ∧ p2.toInt ≤ 99
    · have d1 : ¬ p2 < -1 := by rw [ti_lt]; omega
      have d2 : p2 ≤ 99 := by rw [ti_le]; omega
      have d3 : ¬ f139 p2 (-1) 99 = 0 := fun z => i139.1 z c2
      simp only [f107, f214, f212, k1, k2, d1, d2, d3, z1, Option.bind_some, if_false, if_true, Wp_bind, Wp_some]
      refine Wp_mono (settle_w hN (r.en wf.2) r.ch) (fun x ⟨fx, cx, sx⟩ => ?_)
      obtain ⟨st, _, _⟩ := cx.set sx
      obtain ⟨s1, s2, s3, s4, s5, s6, s7⟩ := ist_d hs
      obtain ⟨e1, e2, e3, e4⟩ := nI_dec s (by omega)
      have er : f136 (f129 (nI s)) (f130 (nI s)) (f131 (nI s)) (f132 (nI s)) = nI (rw4 s) := by
        rw [e1, e2, e3, e4, rw_n _ _ _ _ (by omega)]
        congr 1
        unfold rw4
        omega
      have hr := rw4_lt hs
      have e10 : f10 N (nI s) x = some (hI x 68 (rw4 s)) := by
        unfold f10
        rw [er, gd_pos (nbk hr (by omega)), nix (by omega)]
      rw [e10, Wp_some]
      have key : ∀ (v : Int32), (v = 0 ∨ v = 1) → (v = 1 ↔ (if p2 = -1 then ∀ k, Kp n (Tr T (hI hm 1 3)) (hI hm 1) k s else Kp n (Tr T (hI hm 1 3)) (hI hm 1) (tn p2) s)) → Wp (f194 N hm) fun a => Wp (lp (f212_l4 N) N (0, a)) fun a => Wp (lp (f214_l17 N (nI s) p2) N (1, 0, a.2.2)) fun a => Wp (gd (inb (nI s) 1440) (some (hI a.2.2.2 12 (ix (nI s)) &&& 1, a.2.2.2))) fun y => v = y.1 ∧ Rl n L T x y.2 := by
        intro v v1 v2
        refine Wp_mono (r.lay hN) (fun y ⟨y1, y2, y3⟩ => ?_)
        refine Wp_mono (begin_w hN y2) (fun z ⟨z1', z2⟩ => ?_)
        refine Wp_mono (kept_l hN c2 (Ld_c y2 z1') z2) (fun w ⟨w1, i, ib, w2, w3, w4⟩ => ?_)
        rw [Wp_gd, Wp_some, nix (by omega)]
        obtain ⟨u1, u2⟩ := w2 s hs.1
        have fw := z1'.trans w1
        refine ⟨nbk hs.1 (by omega), ?_, r.ct fx cx (y1.trans (FT.w fw)) (Ld.tb (Ld_c y2 fw) (by rw [fw 0 (by omega)]; exact y3))⟩
        dsimp only
        rw [a01 u1]
        have ee : (v = 1 ↔ hI w.2.2.2 12 s = 1) := by
          rw [v2, u2]
          by_cases cm : p2 = -1
          · rw [if_pos cm]
            rcases w3 with w3 | w3
            · exact ⟨fun q => q i, fun q => w3 s q⟩
            · rw [cm] at w3
              have := congrArg Int32.toInt w3
              rw [ti_nI (by omega)] at this
              omega
          · rw [if_neg cm]
            have hp0 : 0 ≤ p2.toInt := by
              refine Classical.byContradiction fun hh => cm ?_
              rw [ti_eq]; omega
            have hi : i ≤ tn p2 := by unfold tn; omega
            rcases w3 with w3 | w3
            · exact ⟨fun q => Kp_le (tn p2 - i) (by rw [show i + (tn p2 - i) = tn p2 by omega]; exact q), fun q => w3 s q (tn p2)⟩
            · have : tn p2 = i := by
                have := congrArg Int32.toInt w3
                rw [ti_nI (by unfold tn at hi; omega)] at this
                unfold tn; omega
              rw [this]
        rcases v1 with v1 | v1 <;> rcases u1 with u1 | u1
        · rw [v1, u1]
        · rw [v1, u1] at ee; exact absurd (ee.2 rfl) (by decide)
        · rw [v1, u1] at ee; exact absurd (ee.1 rfl) (by decide)
        · rw [v1, u1]
      unfold f107_b25
      by_cases cm : p2 = -1
      · rw [if_pos cm]
        rcases set_k st hs with ⟨h1, h2⟩ | ⟨m, m1, m2, m3, m4⟩
        · rw [if_neg (by rw [ti_lt, h1, nM]; omega), Wp_some]
          exact key 1 (Or.inr rfl) (by rw [if_pos cm]; exact ⟨fun _ => h2, fun _ => rfl⟩)
        · rw [if_pos (by rw [ti_lt, m2, ti_nI (by omega)]; omega), Wp_some]
          exact key 0 (Or.inl rfl) (by rw [if_pos cm]; exact ⟨fun q => absurd q (by decide), fun q => absurd (q (m + 1)) m4⟩)
      · rw [if_neg cm]
        have hp0 : 0 ≤ p2.toInt := by
          refine Classical.byContradiction fun hh => cm ?_
          rw [ti_eq]; omega
        rcases set_k st hs with ⟨h1, h2⟩ | ⟨m, m1, m2, m3, m4⟩
        · rw [if_neg (by rw [ti_lt, h1, nM]; omega), Wp_some]
          exact key 1 (Or.inr rfl) (by rw [if_neg cm]; exact ⟨fun _ => h2 _, fun _ => rfl⟩)
        · have tm' : (nI m).toInt = (m : Int) := ti_nI (by omega)
          by_cases cl : m < tn p2
          · rw [if_pos (by rw [ti_lt, m2, tm']; unfold tn at cl; omega), Wp_some]
            exact key 0 (Or.inl rfl) (by rw [if_neg cm]; exact ⟨fun q => absurd q (by decide), fun q => absurd (Kp_le (tn p2 - (m + 1)) (by rw [show m + 1 + (tn p2 - (m + 1)) = tn p2 by omega]; exact q)) m4⟩)
          · rw [if_neg (by rw [ti_lt, m2, tm']; unfold tn at cl; omega), Wp_some]
            exact key 1 (Or.inr rfl) (by rw [if_neg cm]; exact ⟨fun _ => Kp_le (m - tn p2) (by rw [show tn p2 + (m - tn p2) = m by omega]; exact m3), fun _ => rfl⟩)
    · have d3 : f139 p2 (-1) 99 = 0 := i139.2 c2
      by_cases d1 : p2 < -1
      · simp only [f107, f214, k1, k2, d1, d3, z1, Option.bind_some, if_false, if_true, Wp_some, true_and]
        exact r
      · have d2 : ¬ p2 ≤ 99 := by rw [ti_lt] at d1; rw [ti_le]; omega
        simp only [f107, f214, k1, k2, d1, d2, d3, z1, Option.bind_some, if_false, if_true, Wp_some, true_and]
        exact r
  · simp only [f107, f214, k1, k2, Option.bind_some, if_true, Wp_some, true_and]
    exact r
theorem op_think (hN : 10000 ≤ N) (r : Rl n L T hx hm) (wf : WF 0 hx) : Wp (f108 N hx) fun x => Wp (f215 N hm) fun y => x.1 = y.1 ∧ Rl n L T x.2 y.2 := by
  unfold f108 f215 f212
  simp only [Wp_bind, Wp_some]
  refine Wp_mono (settle_w hN (r.en wf.2) r.ch) (fun x ⟨fx, cx, sx⟩ => ?_)
  obtain ⟨⟨A, a1, a2, a3, a4⟩, _, _⟩ := cx.set sx
  refine Wp_mono (r.lay hN) (fun y ⟨y1, y2, y3⟩ => ?_)
  refine Wp_mono (begin_w hN y2) (fun z ⟨z1', z2⟩ => ?_)
  refine Wp_mono (think_l hN (Ld_c y2 z1') z2) (fun w ⟨w1, i, w2, w3, w4⟩ => ?_)
  have fw := z1'.trans w1
  refine ⟨?_, r.ct fx cx (y1.trans (FT.w fw)) (Ld.tb (Ld_c y2 fw) (by rw [fw 0 (by omega)]; exact y3))⟩
  rw [a2, w2]
  have : A = i := by
    by_cases c1 : A < i
    · obtain ⟨s, s1, s2⟩ := w3 A c1
      rcases a3 s (Kp_i s1) with z | ⟨m, m1, m2, m3, m4⟩
      · exact absurd (z.2 _) s2
      · exact absurd (Kp_le (A - (m + 1)) (by rw [show m + 1 + (A - (m + 1)) = A by omega]; exact s1)) m4
    · by_cases c2 : i < A
      · obtain ⟨s, s1, s2⟩ := a4 i c2
        exact absurd (w4 s s1) s2
      · omega
  rw [this]
end
