/-! ===== settle ===== -/
/-- nothing of what is below the chart -/
def FZ (h h' : Hp) : Prop := (∀ c, c < 62 → hI h' c = hI h c) ∧ ∀ c j, (c ≠ 64 ∨ j < 6) → hR h' c j = hR h c j
theorem FZ.rfl' {h : Hp} : FZ h h := ⟨fun _ _ => rfl, fun _ _ _ => rfl⟩
theorem FZ.trans {h h1 h2 : Hp} (x : FZ h h1) (y : FZ h1 h2) : FZ h h2 := ⟨fun c z => (y.1 c z).trans (x.1 c z), fun c j z => (y.2 c j z).trans (x.2 c j z)⟩
theorem FZ.p {h h' : Hp} (f : FP h h') : FZ h h' := ⟨f.1, fun c j _ => by rw [f.2]⟩
theorem FZ.a {c : Nat} {h h' : Hp} (hc : 62 ≤ c) (f : FA c h h') : FZ h h' := ⟨fun c' z => f.1 c' (by omega), fun c j _ => by rw [f.2]⟩
theorem FZ.l {c : Nat} {h h' : Hp} (hc : 62 ≤ c) (f : FL c h h') : FZ h h' := ⟨fun c' z => f.1 c' (by omega), fun c j z => f.2 c j (by omega)⟩
theorem FZ.u {c j : Nat} {v : Int32} {h : Hp} (hc : 62 ≤ c) : FZ h (uI h c j v) := FZ.a hc FA.u
theorem rw4_lt {n s : Nat} (h : ist n s) : rw4 s < 1152 := by
  obtain ⟨h1, h2, h3⟩ := h
  unfold rw4; omega
theorem rw4_inj {n s s' : Nat} (h : ist n s) (h' : ist n s') (e : rw4 s = rw4 s') : s = s' := by
  obtain ⟨h1, h2, h3⟩ := h
  obtain ⟨h1', h2', h3'⟩ := h'
  unfold rw4 at e; omega
theorem stg13 {N n : Nat} : Stg N n (-1) (fun _ => 13) := by
  intro h P _ _
  refine ⟨?_, by show 13 < 100; omega⟩
  unfold f61
  rw [if_pos rfl]
  rfl
section
variable {N n : Nat} {T : Tc} {h : Hp} {a : Nat → Int32}
theorem Nw_13 {B : Nat → Prop} {s : Nat} : Nw n T a (fun _ => 13) 0 (fun _ => B) s ↔ Su n T a B s := by
  unfold Nw
  constructor
  · intro z
    refine Su_m z (fun r hr => ?_)
    unfold Gk at hr
    rw [if_neg (show ¬ 13 ≤ r % 5 by omega)] at hr
    exact hr
  · intro z
    refine Su_m z (fun r hr => ?_)
    unfold Gk
    rw [if_neg (show ¬ 13 ≤ r % 5 by omega)]
    exact hr
/-- the chain of the lost ends -/
theorem chain {i : Nat} (h : ∀ k, k < i → ∃ s, Kp n T a k s ∧ ¬ Kp n T a (k + 1) s) : i ≤ 1152 := by
  refine holes 1152 i (fun k x => ∃ s, x = rw4 s ∧ Kp n T a k s ∧ ¬ Kp n T a (k + 1) s) (fun k hk => ?_) ?_
  · obtain ⟨s, h1, h2⟩ := h k hk
    exact ⟨rw4 s, rw4_lt (Kp_i h1), s, rfl, h1, h2⟩
  · rintro k k' x ⟨s, e1, h1, h2⟩ ⟨s', e2, h1', h2'⟩
    have := rw4_inj (Kp_i h1) (Kp_i h1') (e1.symm.trans e2)
    subst this
    by_cases c : k < k'
    · have : Kp n T a (k + 1) s := Kp_le (k' - (k + 1)) (by rw [show k + 1 + (k' - (k + 1)) = k' by omega]; exact h1')
      exact absurd this h2
    · by_cases c' : k' < k
      · have : Kp n T a (k' + 1) s := Kp_le (k - (k' + 1)) (by rw [show k' + 1 + (k - (k' + 1)) = k by omega]; exact h1)
        exact absurd this h2'
      · omega
/-- the hours noted so far -/
def Ho (n : Nat) (T : Tc) (a : Nat → Int32) (i : Nat) (ho : Nat → Int32) : Prop := ∀ s, ist n s → (ho (rw4 s) = nI 1000000 ∧ Kp n T a i s) ∨ ∃ m : Nat, m < i ∧ ho (rw4 s) = nI m ∧ Kp n T a m s ∧ ¬ Kp n T a (m + 1) s
def SI (n : Nat) (T : Tc) (a : Nat → Int32) (h : Hp) (i : Nat) (x : Hp) : Prop := FZ h x ∧ Al n T a x ∧ (∀ j, j ≠ 13 → hI x 64 j = hI h 64 j) ∧ (∃ c8 c9, hR x 64 8 = some c8 ∧ hR x 64 9 = some c9 ∧ CW c8 ∧ CW c9 ∧ c9 ≠ c8 ∧ Rw n (hI x c8) 0 (Kp n T a i)) ∧ Ho n T a i (hI x 68) ∧ hI x 64 13 = nI i ∧ ∀ k, k < i → ∃ s, Kp n T a k s ∧ ¬ Kp n T a (k + 1) s
def SE (n : Nat) (T : Tc) (a : Nat → Int32) (h x : Hp) : Prop := FZ h x ∧ Al n T a x ∧ (∀ j, j ≠ 13 → hI x 64 j = hI h 64 j) ∧ (∃ c8 c9, hR x 64 8 = some c8 ∧ hR x 64 9 = some c9 ∧ CW c8 ∧ CW c9 ∧ c9 ≠ c8) ∧ Settled n T a (hI x 68) (hI x 64 13)
theorem settle_l {u : Hp} (hN : 10000 ≤ N) (h0 : SI n T a h 0 u) : Wp (lp (f5_l21 N) N ((0 : Int32), u)) fun q => SE n T a h q.2.2 ∧ hR q.2.2 64 6 = hR u 64 6 ∧ hR q.2.2 64 7 = hR u 64 7 := by
  refine Wp_for (fun (i : Nat) (x : Hp) => (nI i, x)) 1153 (fun i x => SI n T a h i x ∧ hR x 64 6 = hR u 64 6 ∧ hR x 64 7 = hR u 64 7) ?_ ?_ (i0 := 0) (x0 := u) (by omega) (by omega) ⟨h0, rfl, rfl⟩
  · rintro i x hi ⟨⟨fx, al, x64, ⟨c8, c9, r8, r9, h8, h9, h89, rw1⟩, ho, x13, lo⟩, x6, x7⟩
    have n12 := al.1.2
    have ti : (nI i).toInt = (i : Int) := ti_nI (by omega)
    unfold f5_l21
    dsimp only
    rw [if_neg (show ¬ (1152 : Int32) < nI i by rw [ti_lt, ti]; show ¬ (1152 : Int) < _; omega), Wp_bind]
    refine Wp_mono (show Wp (f14 N (nI 1) (-1) 1 x) _ from look_w (K := 1) (B := fun _ => Kp n T a i) (by omega) al (by omega) r8 r9 h8 h9 h89 (fun l hl => by rw [show l = 0 by omega]; exact rw1) (fun l hl z _ => absurd (by rw [show l = 0 by omega]; show f123 1 (nI 0) = 1; decide) z) stg13) (fun y ⟨y1, y2, y3, y4, y5⟩ => ?_)
    obtain ⟨mv, y⟩ := y
    dsimp only at y1 y2 y3 y4 y5 ⊢
    have c62 : 62 ≤ c9 := by rcases h9 with rfl | rfl <;> omega
    have y64 : hI y 64 = hI x 64 := y1.1 64 (by rcases h9 with rfl | rfl <;> omega)
    have y68 : hI y 68 = hI x 68 := y1.1 68 (by rcases h9 with rfl | rfl <;> omega)
    have y8 : hI y c8 = hI x c8 := y1.1 c8 (Ne.symm h89)
    have aly : Al n T a y := Al_c al (by rw [y1.1 41 (by omega)]) (y1.1 65 (by rcases h9 with rfl | rfl <;> omega)) (y1.1 66 (by rcases h9 with rfl | rfl <;> omega)) (y1.1 67 (by rcases h9 with rfl | rfl <;> omega))
    have nw : ∀ s, ist n s → (Nw n T a (fun _ => 13) 0 (fun _ => Kp n T a i) s ↔ Kp n T a (i + 1) s) := fun s hs => by
      rw [Nw_13, Kp_s]
      exact ⟨fun z => ⟨hs, z⟩, fun z => z.2⟩
    have rwy : Rw n (hI y c9) 0 (Kp n T a (i + 1)) := Rw_b n12 (y4 0 (by omega)) nw
    have hmv : mv = 0 ↔ ∀ s, Kp n T a i s → Kp n T a (i + 1) s := by
      constructor
      · intro z s hs
        refine Classical.byContradiction fun hn => ?_
        have := (y5 0 (by omega)).2 ⟨by omega, s, Kp_i hs, fun q => hn ((nw s (Kp_i hs)).1 (q.2 hs))⟩
        rw [z] at this
        exact bt_0 (by omega) this
      · intro z
        refine bt_ext fun b hb => ⟨fun y' => ?_, fun y' => absurd y' (bt_0 hb)⟩
        obtain ⟨b1, s, b2, b3⟩ := (y5 b hb).1 y'
        rw [show b = 0 by omega] at b3
        exact absurd ⟨fun q => Kp_m ((nw s b2).1 q), fun q => (nw s b2).2 (z s q)⟩ b3
    by_cases c0 : mv = 0
    · rw [if_pos c0, Wp_some]
      have stay := hmv.1 c0
      refine Or.inr ⟨0, rfl, ⟨fx.trans (FZ.l c62 y1), aly, fun j hj => by dsimp only; rw [y64]; exact x64 j hj, ⟨c9, c8, y2, y3, h9, h8, Ne.symm h89⟩, i, by omega, ?_, ?_, lo⟩, (y1.2 64 6 (by omega)).trans x6, (y1.2 64 7 (by omega)).trans x7⟩
      · dsimp only; rw [y64]; exact x13
      · intro s hs
        dsimp only
        rw [y68]
        rcases ho s hs with z | z
        · refine Or.inl ⟨z.1, fun k => ?_⟩
          by_cases ck : k ≤ i
          · exact Kp_le (i - k) (by rw [show k + (i - k) = i by omega]; exact z.2)
          · have := Kp_st stay (k - i) s z.2
            rw [show i + (k - i) = k by omega] at this
            exact this
        · exact Or.inr z
    · rw [if_neg c0, Wp_bind]
      refine Wp_mono (lost_w (by omega) y2 y3 h9 h8) (fun z ⟨z1, z2⟩ => ?_)
      rw [Wp_bnd, Wp_bnd, Wp_some, nI_1]
      have c8n : c8 ≠ 68 ∧ c8 ≠ 64 := by rcases h8 with rfl | rfl <;> omega
      have c9n : c9 ≠ 68 ∧ c9 ≠ 64 := by rcases h9 with rfl | rfl <;> omega
      refine Or.inl ⟨rfl, _, rfl, ⟨fx.trans ((FZ.l c62 y1).trans ((FZ.a (by omega) z1).trans (FZ.u (by omega)))), ?_, fun j hj => ?_, ⟨c9, c8, by rw [hR_uI, z1.2]; exact y2, by rw [hR_uI, z1.2]; exact y3, h9, h8, Ne.symm h89, ?_⟩, fun s hs => ?_, ?_, fun k hk => ?_⟩, by rw [hR_uI, z1.2]; exact (y1.2 64 6 (by omega)).trans x6, by rw [hR_uI, z1.2]; exact (y1.2 64 7 (by omega)).trans x7⟩
      · exact Al_c aly (by rw [hI_uI_ne (by omega), z1.1 41 (by omega)]) (by rw [hI_uI_ne (by omega), z1.1 65 (by omega)]) (by rw [hI_uI_ne (by omega), z1.1 66 (by omega)]) (by rw [hI_uI_ne (by omega), z1.1 67 (by omega)])
      · rw [hI_uI_eq, pu_ne hj, z1.1 64 (by omega), y64]; exact x64 j hj
      · rw [hI_uI_ne c9n.2, z1.1 c9 c9n.1]; exact rwy
      · rw [hI_uI_ne (by omega)]
        obtain ⟨s1, s2, s3, s4, s5, s6, s7⟩ := ist_d hs
        have q1 := rwy (s / 480) (s / 40 % 12) (s / 5 % 8) (s % 5 - 1) s1 s2 s3 (by omega)
        have q2 := rw1 (s / 480) (s / 40 % 12) (s / 5 % 8) (s % 5 - 1) s1 s2 s3 (by omega)
        rw [show s % 5 - 1 + 1 = s % 5 by omega, ← s6, show 0 * 288 + ((s / 480 * 12 + s / 40 % 12) * 8 + s / 5 % 8) = s / 5 by omega] at q1 q2
        rw [← y8] at q2
        obtain ⟨z3, z4⟩ := z2 (s / 5) (s % 5 - 1) (by omega) (by omega)
        rw [q2, q1, show s / 5 * 4 + (s % 5 - 1) = rw4 s by unfold rw4; omega] at z3 z4
        by_cases ck : Kp n T a i s
        · by_cases ck' : Kp n T a (i + 1) s
          · rw [z4 (fun w => w.2 ⟨by omega, ck'⟩), y68]
            rcases ho s hs with w | ⟨m, w1, w2, w3, w4⟩
            · exact Or.inl ⟨w.1, ck'⟩
            · exact absurd (Kp_le (i - (m + 1)) (by rw [show m + 1 + (i - (m + 1)) = i by omega]; exact ck)) w4
          · rw [z3 ⟨⟨by omega, ck⟩, fun w => ck' w.2⟩]
            exact Or.inr ⟨i, by omega, rfl, ck, ck'⟩
        · rw [z4 (fun w => ck w.1.2), y68]
          rcases ho s hs with w | ⟨m, w1, w2⟩
          · exact absurd w.2 ck
          · exact Or.inr ⟨m, by omega, w2⟩
      · rw [hI_uI_eq, pu_eq]
      · by_cases ck : k = i
        · subst ck
          refine Classical.byContradiction fun no => c0 (hmv.2 fun s hs => Classical.byContradiction fun hn => no ⟨s, hs, hn⟩)
        · exact lo k (by omega)
  · rintro x ⟨⟨_, _, _, _, _, _, lo⟩, _⟩
    have := chain lo
    omega
/-- settle does it -/
theorem settle_w (hN : 10000 ≤ N) (en : En n T a h) (ch : Ch n T h a) : Wp (f5 N h) fun x => FZ h x ∧ Ch n T x a ∧ hI x 64 12 = 1 := by
  unfold f5
  by_cases c12 : hI h 64 12 = 0
  · rw [if_pos c12, Wp_bind]
    refine Wp_mono (show Wp (f4 N (nI 0) (nI 8) h) _ from prep_w (by omega) en ch (by omega) (by omega)) (fun x ⟨fx, cx, bx⟩ => ?_)
    rw [Wp_bind]
    refine Wp_mono (fill68_w hN) (fun y ⟨fy, hy⟩ => ?_)
    obtain ⟨c1, c2, c3, c4, c5⟩ := cx
    have r89 : ∃ c8 c9, hR x 64 8 = some c8 ∧ hR x 64 9 = some c9 ∧ CW c8 ∧ CW c9 ∧ c9 ≠ c8 := by
      rcases c5 with z | z
      · exact ⟨71, 72, z.1, z.2, Or.inl rfl, Or.inr rfl, by omega⟩
      · exact ⟨72, 71, z.1, z.2, Or.inr rfl, Or.inl rfl, by omega⟩
    obtain ⟨c8, c9, r8, r9, h8, h9, h89⟩ := r89
    have c62 : 62 ≤ c8 := by rcases h8 with rfl | rfl <;> omega
    rw [fy.2, r8, Option.bind_some, Wp_bind]
    refine Wp_mono (fill_w (v := 15) (cw_shp h8).1 (cw_shp h8).2 (by omega) hN) (fun z ⟨fz, hz⟩ => ?_)
    rw [Wp_bnd, Wp_bind]
    have e7 : En n T a x := En.p en fx.1
    have bt8 : ∀ k, k < 8 → bt (hI x 64 10) k ∧ bt (hI x 64 11) k := fun k hk => by
      have := bx k hk hk
      rw [show (0 + k) % 8 = k by omega] at this
      exact this
    have alx : Al n T a x := ⟨e7.1, e7.2.1, e7.2.2.2.2.2.2, fun H hH => ⟨c1 H hH (bt8 H hH).1, c2 H hH (bt8 H hH).2⟩⟩
    have n12 := e7.1.2
    have c8n : c8 ≠ 68 ∧ c8 ≠ 64 ∧ 68 ≤ c8 := by rcases h8 with rfl | rfl <;> omega
    have si : SI n T a x 0 (uI z 64 13 0) := by
      refine ⟨(FZ.a (by omega) fy).trans ((FZ.a c62 fz).trans (FZ.u (by omega))), ?_, fun j hj => ?_, ⟨c8, c9, by rw [hR_uI, fz.2, fy.2]; exact r8, by rw [hR_uI, fz.2, fy.2]; exact r9, h8, h9, h89, ?_⟩, fun s hs => Or.inl ⟨?_, hs⟩, ?_, fun k hk => by omega⟩
      · exact Al_c (Al_a (Al_a alx (by omega) fy) c8n.2.2 fz) (by rw [hI_uI_ne (by omega)]) (hI_uI_ne (by omega)) (hI_uI_ne (by omega)) (hI_uI_ne (by omega))
      · rw [hI_uI_eq, pu_ne hj, fz.1 64 (Ne.symm c8n.2.1), fy.1 64 (by omega)]
      · intro L P H b h1 h2 h3 h4
        rw [hI_uI_ne c8n.2.1, hz _ (by omega), bt_15 h4]
        exact ⟨fun q => ⟨q, st4_i n12 h1 h2 h3 (by omega) (by omega)⟩, fun q => q.1⟩
      · rw [hI_uI_ne (by omega), fz.1 68 (Ne.symm c8n.1), hy _ (rw4_lt hs)]
        rfl
      · rw [hI_uI_eq, pu_eq]; rfl
    refine Wp_mono (settle_l hN si) (fun q ⟨⟨q1, q2, q3, ⟨d8, d9, s8, s9, k8, k9, k89⟩, q5⟩, q6, q7⟩ => ?_)
    obtain ⟨e, m, w⟩ := q
    dsimp only at q1 q2 q3 s8 s9 q5 q6 q7 ⊢
    have fin : ∀ Q : Hp → Prop, Q (uI w 64 12 1) → Wp (if e = 0 then bnd (uI w 64 12 1) (fun h14 => some h14) else bnd (uI w 64 12 1) (fun h15 => some h15)) Q := fun Q hq => by
      by_cases ce : e = 0
      · rw [if_pos ce, Wp_bnd, Wp_some]; exact hq
      · rw [if_neg ce, Wp_bnd, Wp_some]; exact hq
    refine fin _ ⟨(FZ.p fx.1).trans (q1.trans (FZ.u (by omega))), ⟨fun H hH _ => ?_, fun H hH _ => ?_, Or.inr ⟨by rw [hI_uI_eq, pu_eq], ?_, fun H hH => ?_, fun H hH => ?_⟩, ?_, ?_⟩, by rw [hI_uI_eq, pu_eq]⟩
    · rw [hI_uI_ne (c' := 65) (by omega), hI_uI_ne (c' := 66) (by omega)]; exact (q2.2.2.2 H hH).1
    · rw [hI_uI_ne (c' := 67) (by omega)]; exact (q2.2.2.2 H hH).2
    · rw [hI_uI_ne (c' := 68) (by omega), hI_uI_eq, pu_ne (by omega)]; exact q5
    · rw [hI_uI_eq, pu_ne (by omega), q3 10 (by omega)]; exact (bt8 H hH).1
    · rw [hI_uI_eq, pu_ne (by omega), q3 11 (by omega)]; exact (bt8 H hH).2
    · rw [hR_uI, q6, q7, hR_uI, fz.2, fy.2]; exact c4
    · rw [hR_uI, s8, s9]
      rcases k8 with rfl | rfl <;> rcases k9 with rfl | rfl
      · omega
      · exact Or.inl ⟨rfl, rfl⟩
      · exact Or.inr ⟨rfl, rfl⟩
      · omega
  · rw [if_neg c12, Wp_some]
    obtain ⟨c1, c2, c3, c4, c5⟩ := ch
    exact ⟨FZ.rfl', ⟨c1, c2, c3, c4, c5⟩, by rcases c3 with z | z; exact absurd z c12; exact z.1⟩
end
