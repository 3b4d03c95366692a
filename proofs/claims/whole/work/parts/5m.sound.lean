/-! ===== sound, prepare ===== -/
/-- nothing but the laws' rows and the afloat rows of that hour -/
def FSd (H : Nat) (h h' : Hp) : Prop := (∀ c, c ≠ 62 → c ≠ 63 → c ≠ 67 → hI h' c = hI h c) ∧ hR h' = hR h ∧ ∀ r, ¬ r % 8 = H → hI h' 67 r = hI h 67 r
theorem FSd.p {H : Nat} {h h' : Hp} (f : FSd H h h') : FP h h' := ⟨fun c hc => f.1 c (by omega) (by omega) (by omega), f.2.1⟩
theorem FSd.rfl' {H : Nat} {h : Hp} : FSd H h h := ⟨fun _ _ _ _ => rfl, rfl, fun _ _ => rfl⟩
theorem FSd.trans {H : Nat} {h h1 h2 : Hp} (a : FSd H h h1) (b : FSd H h1 h2) : FSd H h h2 := ⟨fun c x y z => (b.1 c x y z).trans (a.1 c x y z), b.2.1.trans a.2.1, fun r hr => (b.2.2 r hr).trans (a.2.2 r hr)⟩
theorem FSd.x {H : Nat} {h h' : Hp} (f : FX h h') : FSd H h h' := ⟨fun c x y _ => f.1 c x y, f.2, fun r _ => by rw [f.1 67 (by omega) (by omega)]⟩
section
variable {N n : Nat} {T : Tc} {h : Hp} {a : Nat → Int32}
/-- one bit of afloat -/
theorem put_af {k s : Nat} {t : Int32} {H : Nat} (hk : k < 288) (hs : 1 ≤ s) (hs4 : s ≤ 4) (kH : k % 8 = H) : Wp (f25 N (nI k) (nI s) t h) fun u => FSd H h u ∧ (∀ r, r ≠ k → hI u 67 r = hI h 67 r) ∧ ∀ b, b < 32 → (bt (hI u 67 k) b ↔ if b = s - 1 then ¬ t = 0 else bt (hI h 67 k) b) := by
  have e : nI s - (1 : Int32) = nI (s - 1) := by
    show nI s - nI 1 = _
    rw [pk_sub (by omega)]
  unfold f25
  rw [Wp_bnd, e, nix (by omega)]
  have ib : inb (nI k) 288 := nbk hk (by omega)
  by_cases c : t = 0
  · rw [if_pos c]
    simp only [Wp_gd, Wp_bnd, Wp_some]
    refine ⟨ib, ib, ⟨fun c _ _ x => hI_uI_ne x, rfl, fun r hr => ?_⟩, fun r hr => ?_, fun b hb => ?_⟩
    · rw [hI_uI_eq, pu_ne (by rintro rfl; exact hr kH)]
    · rw [hI_uI_eq, pu_ne hr]
    · rw [hI_uI_eq, pu_eq, bt_and hb, bt_not hb, bt_one (by omega) hb]
      by_cases cb : b = s - 1
      · rw [if_pos cb]; exact ⟨fun z => absurd cb z.2, fun z => absurd c z⟩
      · rw [if_neg cb]; exact ⟨fun z => z.1, fun z => ⟨z, cb⟩⟩
  · rw [if_neg c]
    simp only [Wp_gd, Wp_bnd, Wp_some]
    refine ⟨ib, ib, ⟨fun c _ _ x => hI_uI_ne x, rfl, fun r hr => ?_⟩, fun r hr => ?_, fun b hb => ?_⟩
    · rw [hI_uI_eq, pu_ne (by rintro rfl; exact hr kH)]
    · rw [hI_uI_eq, pu_ne hr]
    · rw [hI_uI_eq, pu_eq, bt_or hb, bt_one (by omega) hb]
      by_cases cb : b = s - 1
      · rw [if_pos cb]; exact ⟨fun _ => c, fun _ => Or.inr cb⟩
      · rw [if_neg cb]; exact ⟨fun z => z.resolve_right cb, fun z => Or.inl z⟩
theorem sound_w {H : Nat} (hN : 1000 ≤ N) (en : En n T a h) (hH : H < 8) : Wp (f24 N (nI H) h) fun x => FSd H h x ∧ Sounded n T (sea a) H (hI x 67) := by
  have en0 := en
  obtain ⟨⟨n4, n12⟩, e2, e3, e4, e5, e6, e7⟩ := en
  have tH : (nI H).toInt = (H : Int) := ti_nI (by omega)
  have s0 : sea a 0 = a 0 := rfl
  have s1 : sea a 1 = a 1 := rfl
  unfold f24
  rw [Wp_bind]
  refine Wp_mono (bareRocks_w hN n12 e3 e2 (by omega)) (fun y ⟨fy, hy⟩ => ?_)
  rw [tH] at hy
  obtain ⟨bare, g⟩ := y
  dsimp only at fy hy ⊢
  rw [e5] at hy
  rw [Wp_bind]
  refine Wp_for (fun (i : Nat) (x : Hp) => (nI i, x)) 5 (fun i x => 1 ≤ i ∧ FSd H h x ∧ ∀ lane place s, lane < 3 → place < n → 1 ≤ s → s ≤ 4 → s < i → (bt (hI x 67 ((lane * 12 + place) * 8 + H)) (s - 1) ↔ flt n T (sea a) lane place H s)) ?_ ?_ (i0 := 1) (x0 := g) (by omega) (by omega) ⟨by omega, FSd.x fy, fun _ _ _ _ _ _ _ z => by omega⟩
  · rintro i u hi ⟨hi1, fu, hu⟩
    have ti : (nI i).toInt = (i : Int) := ti_nI (by omega)
    refine Wp_neg (show ¬ (4 : Int32) < nI i by rw [ti_lt, ti]; show ¬ (4 : Int) < _; omega) ?_
    rw [Wp_bind]
    refine Wp_mono (draughtOf_w hN (LX_p e3 fu.p) (by omega) (by dsimp only; omega)) (fun d ⟨fd, hd⟩ => ?_)
    dsimp only at fd hd ⊢
    rw [tH, ti] at hd
    rw [Wp_bind]
    have fu2 := fu.trans (FSd.x fd)
    have d67 : hI d.2 67 = hI u 67 := fd.1 67 (by omega) (by omega)
    refine Wp_for (fun (j : Nat) (x : Hp) => (nI j, x)) 36 (fun j x => FSd H h x ∧ ∀ lane place s, lane < 3 → place < n → 1 ≤ s → s ≤ 4 → s < i ∨ (s = i ∧ lane * 12 + place < j) → (bt (hI x 67 ((lane * 12 + place) * 8 + H)) (s - 1) ↔ flt n T (sea a) lane place H s)) ?_ ?_ (i0 := 0) (x0 := d.2) (by omega) (by omega) ⟨fu2, fun lane place s h1 h2 h3 h4 h5 => by rw [d67]; exact hu lane place s h1 h2 h3 h4 (by omega)⟩
    · rintro j w hj ⟨fw, hw⟩
      have q1 : irem (nI j) 12 = nI (j % 12) := pk_rem (d := 12) (by omega) (by omega) (by omega)
      have q2 : nI j / 12 = nI (j / 12) := pk_div (d := 12) (by omega) (by omega) (by omega)
      have e41 : hI w 41 0 = nI n := by rw [fw.1 41 (by omega) (by omega) (by omega)]; exact e2
      have e42 : ∀ q, q < 36 → hI w 42 q = sea a (30 + q) := fun q hq => by rw [fw.1 42 (by omega) (by omega) (by omega), e4 q hq, sea_at (by omega)]
      refine Wp_neg (show ¬ (36 : Int32) ≤ nI j by rw [ti_le, ti_nI (by omega)]; show ¬ (36 : Int) ≤ _; omega) ?_
      dsimp only
      rw [Wp_bnd, q1, e41]
      generalize eP : j % 12 = P
      by_cases cp : n ≤ P
      · rw [if_pos (by rw [ti_le, ti_nI (by omega), ti_nI (by omega)]; omega)]
        unfold f24_b55
        rw [Wp_bnd, Wp_some, nI_1]
        refine Or.inl ⟨rfl, w, rfl, fw, fun lane place s h1 h2 h3 h4 h5 => hw lane place s h1 h2 h3 h4 ?_⟩
        omega
      rw [if_neg (by rw [ti_le, ti_nI (by omega), ti_nI (by omega)]; omega), Wp_bnd, q2]
      generalize eL : j / 12 = L
      have ej : j = L * 12 + P := by omega
      rw [Wp_bind]
      refine Wp_mono (ground_w (T := T) (e := sea a) (hour := H) hN n4 n12 e41 (show L < 3 by omega) (show P < n by omega) (show i ≤ 4 by omega) hd e42 hy) (fun q hq => ?_)
      have fin : ∀ t : Int32, (¬ t = 0 ↔ flt n T (sea a) L P H i) → Wp (f24_b46 N (nI H) bare (nI i) d.1 (nI j) (nI P) (nI L) t w) (fun q => (q.1 = 0 ∧ ∃ x', q.2 = (nI (j + 1), x') ∧ FSd H h x' ∧ ∀ lane place s, lane < 3 → place < n → 1 ≤ s → s ≤ 4 → s < i ∨ (s = i ∧ lane * 12 + place < j + 1) → (bt (hI x' 67 ((lane * 12 + place) * 8 + H)) (s - 1) ↔ flt n T (sea a) lane place H s))) := by
        intro t ht
        unfold f24_b46
        rw [sp_n, Wp_bind]
        refine Wp_mono (put_af (H := H) (by omega) hi1 (by omega) (by omega)) (fun z ⟨z1, z2, z3⟩ => ?_)
        unfold f24_b55
        rw [Wp_bnd, Wp_some, nI_1]
        refine ⟨rfl, z, rfl, fw.trans z1, fun lane place s h1 h2 h3 h4 h5 => ?_⟩
        by_cases cc : lane * 12 + place = j
        · have y1 : lane = L := by omega
          have y2 : place = P := by omega
          subst y1 y2
          rw [z3 (s - 1) (by omega)]
          by_cases cs : s = i
          · subst cs
            rw [if_pos rfl]; exact ht
          · rw [if_neg (by omega)]
            exact hw lane place s h1 h2 h3 h4 (by omega)
        · rw [z2 _ (by omega)]
          exact hw lane place s h1 h2 h3 h4 (by omega)
      rcases hq with ⟨q0, hq⟩ | ⟨k, k1, k2, k3, k4, k5⟩
      · rw [if_pos q0]
        refine Wp_mono (fin 1 ⟨fun _ => ?_, fun _ => by decide⟩) (fun q hq => Or.inl hq)
        exact hq
      · rw [if_neg (by rw [k5, ti_eq, ti_nI (by omega)]; show ¬ _ = (0 : Int); omega)]
        refine Wp_mono (fin 0 ⟨fun z => absurd rfl z, fun z => absurd k4 (z k k1 k2)⟩) (fun q hq => Or.inl hq)
    · rintro w ⟨fw, hw⟩
      refine Wp_pos (show (36 : Int32) ≤ nI 36 by decide) ?_
      rw [Wp_some]
      refine ⟨0, rfl, ?_⟩
      rw [Wp_bnd, Wp_some]
      refine Or.inl ⟨rfl, w, by dsimp only; rw [nI_1], by omega, fw, fun lane place s h1 h2 h3 h4 h5 => hw lane place s h1 h2 h3 h4 (by omega)⟩
  · rintro u ⟨_, fu, hu⟩
    refine Wp_pos (show (4 : Int32) < nI 5 by decide) ?_
    rw [Wp_some]
    refine ⟨0, rfl, ?_⟩
    rw [Wp_some]
    exact ⟨fu, fun lane place s h1 h2 h3 h4 => hu lane place s h1 h2 h3 h4 (by omega)⟩
/-- the rows of an hour are apart from those of another -/
theorem Paced_k {wt : Int} {wi : Int32} {H : Nat} {sp en sp' en' : Nat → Int32} (hH : H < 8) (p : Paced n T wt wi H sp en) (e : ∀ r, r / 4 % 8 = H → sp' r = sp r ∧ en' r = en r) : Paced n T wt wi H sp' en' := by
  intro lane place last h1 h2 h3 h4
  have := e (((lane * 12 + place) * 8 + H) * 4 + last - 1) (by omega)
  rw [this.1, this.2]
  exact p lane place last h1 h2 h3 h4
theorem Sounded_k {e : Nat → Int32} {H : Nat} {af af' : Nat → Int32} (hH : H < 8) (p : Sounded n T e H af) (q : ∀ r, r % 8 = H → af' r = af r) : Sounded n T e H af' := by
  intro lane place s h1 h2 h3 h4
  rw [q ((lane * 12 + place) * 8 + H) (by omega)]
  exact p lane place s h1 h2 h3 h4
/-- what prepare leaves of the chart's own cell -/
def FK (h h' : Hp) : Prop := FP h h' ∧ (∀ j, j ≠ 10 → j ≠ 11 → hI h' 64 j = hI h 64 j) ∧ ∀ c, 68 ≤ c → hI h' c = hI h c
theorem FK.rfl' {h : Hp} : FK h h := ⟨FP.rfl', fun _ _ _ => rfl, fun _ _ => rfl⟩
theorem FK.trans {h h1 h2 : Hp} (a : FK h h1) (b : FK h1 h2) : FK h h2 := ⟨a.1.trans b.1, fun j x y => (b.2.1 j x y).trans (a.2.1 j x y), fun c x => (b.2.2 c x).trans (a.2.2 c x)⟩
/-- the hour is paced -/
theorem paced_w {H : Nat} (hN : 1000 ≤ N) (en : En n T a h) (ch : Ch n T h a) (hH : H < 8) (hb : ¬ bt (hI h 64 10) H) : Wp (f23 N (nI H) h) fun x => FK h (uI x 64 10 (hI x 64 10 ||| (1 : Int32) <<< (nI H &&& 31))) ∧ hI (uI x 64 10 (hI x 64 10 ||| (1 : Int32) <<< (nI H &&& 31))) 64 11 = hI h 64 11 ∧ Ch n T (uI x 64 10 (hI x 64 10 ||| (1 : Int32) <<< (nI H &&& 31))) a ∧ ∀ k, k < 8 → (bt (hI (uI x 64 10 (hI x 64 10 ||| (1 : Int32) <<< (nI H &&& 31))) 64 10) k ↔ bt (hI h 64 10) k ∨ k = H) := by
  refine Wp_mono (pace_w hN en hH) (fun x ⟨fx, px⟩ => ?_)
  have e64 : hI x 64 = hI h 64 := fx.1 64 (by omega) (by omega) (by omega) (by omega)
  have hk : ∀ k, k < 8 → (bt (hI (uI x 64 10 (hI x 64 10 ||| (1 : Int32) <<< (nI H &&& 31))) 64 10) k ↔ bt (hI h 64 10) k ∨ k = H) := fun k hk => by
    rw [hI_uI_eq, pu_eq, bt_or (by omega), bt_one (by omega) (by omega), e64]
  have e11 : hI (uI x 64 10 (hI x 64 10 ||| (1 : Int32) <<< (nI H &&& 31))) 64 11 = hI h 64 11 := by rw [hI_uI_eq, pu_ne (by omega), e64]
  refine ⟨⟨⟨fun c hc => by rw [hI_uI_ne (by omega)]; exact fx.1 c (by omega) (by omega) (by omega) (by omega), fx.2.1⟩, fun j h1 _ => by rw [hI_uI_eq, pu_ne h1, e64], fun c hc => by rw [hI_uI_ne (by omega)]; exact fx.1 c (by omega) (by omega) (by omega) (by omega)⟩, e11, ?_, hk⟩
  obtain ⟨c1, c2, c3, c4, c5⟩ := ch
  refine ⟨fun k h8 hb' => ?_, fun k h8 hb' => ?_, ?_, ?_, ?_⟩
  · rw [hI_uI_ne (c' := 65) (by omega), hI_uI_ne (c' := 66) (by omega)]
    by_cases ck : k = H
    · subst ck; exact px
    · exact Paced_k h8 (c1 k h8 (((hk k h8).1 hb').resolve_right ck)) (fun r hr => fx.2.2 r (by omega))
  · rw [e11] at hb'
    rw [hI_uI_ne (by omega), fx.1 67 (by omega) (by omega) (by omega) (by omega)]
    exact c2 k h8 hb'
  · rw [hI_uI_eq, pu_ne (by omega), pu_ne (by omega), e64]
    rcases c3 with z | z
    · exact Or.inl z
    · exact absurd (z.2.2.1 H hH) hb
  · rw [hR_uI, fx.2.1]; exact c4
  · rw [hR_uI, fx.2.1]; exact c5
theorem sounded_w {H : Nat} (hN : 1000 ≤ N) (en : En n T a h) (ch : Ch n T h a) (hH : H < 8) (hb : ¬ bt (hI h 64 11) H) : Wp (f24 N (nI H) h) fun x => FK h (uI x 64 11 (hI x 64 11 ||| (1 : Int32) <<< (nI H &&& 31))) ∧ hI (uI x 64 11 (hI x 64 11 ||| (1 : Int32) <<< (nI H &&& 31))) 64 10 = hI h 64 10 ∧ Ch n T (uI x 64 11 (hI x 64 11 ||| (1 : Int32) <<< (nI H &&& 31))) a ∧ ∀ k, k < 8 → (bt (hI (uI x 64 11 (hI x 64 11 ||| (1 : Int32) <<< (nI H &&& 31))) 64 11) k ↔ bt (hI h 64 11) k ∨ k = H) := by
  refine Wp_mono (sound_w hN en hH) (fun x ⟨fx, px⟩ => ?_)
  have e64 : hI x 64 = hI h 64 := fx.1 64 (by omega) (by omega) (by omega)
  have hk : ∀ k, k < 8 → (bt (hI (uI x 64 11 (hI x 64 11 ||| (1 : Int32) <<< (nI H &&& 31))) 64 11) k ↔ bt (hI h 64 11) k ∨ k = H) := fun k hk => by
    rw [hI_uI_eq, pu_eq, bt_or (by omega), bt_one (by omega) (by omega), e64]
  have e10 : hI (uI x 64 11 (hI x 64 11 ||| (1 : Int32) <<< (nI H &&& 31))) 64 10 = hI h 64 10 := by rw [hI_uI_eq, pu_ne (by omega), e64]
  refine ⟨⟨⟨fun c hc => by rw [hI_uI_ne (by omega)]; exact fx.1 c (by omega) (by omega) (by omega), fx.2.1⟩, fun j _ h1 => by rw [hI_uI_eq, pu_ne h1, e64], fun c hc => by rw [hI_uI_ne (by omega)]; exact fx.1 c (by omega) (by omega) (by omega)⟩, e10, ?_, hk⟩
  obtain ⟨c1, c2, c3, c4, c5⟩ := ch
  refine ⟨fun k h8 hb' => ?_, fun k h8 hb' => ?_, ?_, ?_, ?_⟩
  · rw [e10] at hb'
    rw [hI_uI_ne (c' := 65) (by omega), hI_uI_ne (c' := 66) (by omega), fx.1 65 (by omega) (by omega) (by omega), fx.1 66 (by omega) (by omega) (by omega)]
    exact c1 k h8 hb'
  · rw [hI_uI_ne (c' := 67) (by omega)]
    by_cases ck : k = H
    · subst ck; exact px
    · exact Sounded_k h8 (c2 k h8 (((hk k h8).1 hb').resolve_right ck)) (fun r hr => fx.2.2 r (by omega))
  · rw [hI_uI_eq, pu_ne (by omega), pu_ne (by omega), e64]
    rcases c3 with z | z
    · exact Or.inl z
    · exact absurd (z.2.2.2 H hH) hb
  · rw [hR_uI, fx.2.1]; exact c4
  · rw [hR_uI, fx.2.1]; exact c5
theorem prep_w {F K : Nat} (hN : 1000 ≤ N) (en : En n T a h) (ch : Ch n T h a) (hF : F < 8) (hK : K < 1000) : Wp (f4 N (nI F) (nI K) h) fun x => FK h x ∧ Ch n T x a ∧ ∀ i, i < 8 → i < K → bt (hI x 64 10) ((F + i) % 8) ∧ bt (hI x 64 11) ((F + i) % 8) := by
  have tK : (nI K).toInt = (K : Int) := ti_nI (by omega)
  unfold f4
  rw [Wp_bind]
  refine Wp_for (fun (i : Nat) (x : Hp) => (nI i, x)) 8 (fun i x => FK h x ∧ Ch n T x a ∧ ∀ j, j < i → j < K → bt (hI x 64 10) ((F + j) % 8) ∧ bt (hI x 64 11) ((F + j) % 8)) ?_ ?_ (i0 := 0) (x0 := h) (by omega) (by omega) ⟨FK.rfl', ch, fun _ z _ => by omega⟩
  · rintro i u hi ⟨fu, cu, hu⟩
    have ti : (nI i).toInt = (i : Int) := ti_nI (by omega)
    unfold f4_l2
    by_cases ck : K ≤ i
    · rw [if_pos (by rw [ti_le, tK, ti]; omega), Wp_some]
      refine Or.inr ⟨0, rfl, ?_⟩
      rw [Wp_some]
      exact ⟨fu, cu, fun j h1 h2 => hu j (by omega) h2⟩
    rw [if_neg (by rw [ti_le, tK, ti]; omega), if_neg (show ¬ (8 : Int32) ≤ nI i by rw [ti_le, ti]; show ¬ (8 : Int) ≤ _; omega)]
    dsimp only
    have eH : irem (nI F + nI i) 8 = nI ((F + i) % 8) := by rw [nI_add]; exact pk_rem (d := 8) (by omega) (by omega) (by omega)
    rw [Wp_bnd, eH]
    generalize eHn : (F + i) % 8 = H
    have hH : H < 8 := by omega
    have b30 : ∀ w, FK h w → Ch n T w a → (∀ k, k < 8 → bt (hI u 64 10) k → bt (hI w 64 10) k) → bt (hI w 64 10) H → hI w 64 11 = hI u 64 11 → Wp (f4_b30 N (nI F) (nI K) (nI i) (nI H) w) (fun q => (q.1 = 0 ∧ ∃ x', q.2 = (nI (i + 1), x') ∧ FK h x' ∧ Ch n T x' a ∧ ∀ j, j < i + 1 → j < K → bt (hI x' 64 10) ((F + j) % 8) ∧ bt (hI x' 64 11) ((F + j) % 8))) := by
      intro w fw cw w1 w2 w3
      unfold f4_b30 f4_b46
      by_cases cb : bt (hI w 64 11) H
      · have cb' : f123 (hI w 64 11) (nI H) = 1 := cb
        rw [cb', if_neg (by decide), Wp_bnd, Wp_some, nI_1]
        refine ⟨rfl, w, rfl, fw, cw, fun j h1 h2 => ?_⟩
        by_cases cj : j = i
        · subst cj; rw [eHn]; exact ⟨w2, cb⟩
        · have := hu j (by omega) h2
          exact ⟨w1 _ (by omega) this.1, by rw [w3]; exact this.2⟩
      · rw [if_pos (bt_n.1 cb), Wp_bind]
        refine Wp_mono (sounded_w hN (En.p en fw.1) cw hH cb) (fun x ⟨x1, x2, x3, x4⟩ => ?_)
        rw [Wp_bnd, Wp_bnd, Wp_some, nI_1]
        refine ⟨rfl, _, rfl, fw.trans x1, x3, fun j h1 h2 => ?_⟩
        by_cases cj : j = i
        · subst cj; rw [eHn]; exact ⟨by rw [x2]; exact w2, (x4 H hH).2 (Or.inr rfl)⟩
        · have := hu j (by omega) h2
          exact ⟨by rw [x2]; exact w1 _ (by omega) this.1, (x4 _ (by omega)).2 (Or.inl (by rw [w3]; exact this.2))⟩
    by_cases cb : bt (hI u 64 10) H
    · have cb' : f123 (hI u 64 10) (nI H) = 1 := cb
      rw [cb', if_neg (by decide)]
      exact Wp_mono (b30 u fu cu (fun _ _ z => z) cb rfl) (fun q hq => Or.inl hq)
    · rw [if_pos (bt_n.1 cb), Wp_bind]
      refine Wp_mono (paced_w hN (En.p en fu.1) cu hH cb) (fun x ⟨x1, x2, x3, x4⟩ => ?_)
      rw [Wp_bnd]
      exact Wp_mono (b30 _ (fu.trans x1) x3 (fun k hk z => (x4 k hk).2 (Or.inl z)) ((x4 H hH).2 (Or.inr rfl)) x2) (fun q hq => Or.inl hq)
  · rintro u ⟨fu, cu, hu⟩
    unfold f4_l2
    by_cases ck : nI K ≤ nI 8
    · rw [if_pos ck, Wp_some]
      refine ⟨0, rfl, ?_⟩
      rw [Wp_some]
      exact ⟨fu, cu, hu⟩
    · rw [if_neg ck, if_pos (show (8 : Int32) ≤ nI 8 by decide), Wp_some]
      refine ⟨0, rfl, ?_⟩
      rw [Wp_some]
      exact ⟨fu, cu, hu⟩
end
