/-! ===== the class cuts into tokens ===== -/
section
variable {N n : Nat} {b : Nat → Nat} {h : Hp}
theorem num_w {s : Nat} (hN : 1000 ≤ N) (by' : ByX h b n) (hs : hI h 22 4 = nI s) (hsn : s ≤ n) : Wp (f69 N h) fun x => FQ h x.2 ∧ ∃ q, s ≤ q ∧ q ≤ n ∧ (∀ j, s ≤ j → j < q → isD (b j) = true) ∧ (q < n → ¬ isD (b q) = true) ∧ x.1 = nI (100 + dv b s (q - s)) ∧ hI x.2 22 4 = nI q := by
  have n3 := by'.2.1
  unfold f69
  rw [Wp_bind]
  refine Wp_lp (fun m x => ∃ q, FQ h x.2 ∧ hI x.2 22 4 = nI q ∧ s ≤ q ∧ q + m = n ∧ x.1 = nI (dv b s (q - s)) ∧ ∀ j, s ≤ j → j < q → isD (b j) = true) ?_ N (n - s) _ (by omega) ⟨s, FQ.rfl', hs, by omega, by omega, by rw [show s - s = 0 by omega]; rfl, fun j z1 z2 => by omega⟩
  rintro m ⟨v, u⟩ ⟨q, fu, hq, s1, s2, hv, bl⟩
  dsimp only at fu hq hv ⊢
  have bu := ByX_q by' fu
  unfold f69_l2
  dsimp only
  rw [hq, bu.1]
  have fin : ¬ (q < n ∧ isD (b q) = true) → Wp (some (1, (v, u)) : Option (Nat × (Int32 × Hp))) (fun q => (q.1 = 0 ∧ ∃ m', m' < m ∧ ∃ q', FQ h q.2.2 ∧ hI q.2.2 22 4 = nI q' ∧ s ≤ q' ∧ q' + m' = n ∧ q.2.1 = nI (dv b s (q' - s)) ∧ ∀ j, s ≤ j → j < q' → isD (b j) = true) ∨ ∃ e, q.1 = e + 1 ∧ Wp (some ((100 : Int32) + (e, q.2).2.1, (e, q.2).2.2)) fun x => FQ h x.2 ∧ ∃ q, s ≤ q ∧ q ≤ n ∧ (∀ j, s ≤ j → j < q → isD (b j) = true) ∧ (q < n → ¬ isD (b q) = true) ∧ x.1 = nI (100 + dv b s (q - s)) ∧ hI x.2 22 4 = nI q) := fun z => by
    rw [Wp_some]
    refine Or.inr ⟨0, rfl, ?_⟩
    rw [Wp_some]
    refine ⟨fu, q, s1, by omega, bl, fun y1 y2 => z ⟨y1, y2⟩, ?_, hq⟩
    dsimp only
    rw [hv]
    exact nI_add 100 _
  by_cases c : n ≤ q
  · rw [if_pos (by rw [ti_le, ti_nI (by omega), ti_nI (by omega)]; omega)]
    exact fin (fun z => by omega)
  · rw [if_neg (by rw [ti_le, ti_nI (by omega), ti_nI (by omega)]; omega), Wp_gd]
    refine ⟨nbk (by omega) (by omega), ?_⟩
    obtain ⟨b1, b2⟩ := bu.2.2 q (by omega)
    rw [nix (by omega), b2, sb_D (b q) b1]
    by_cases cd : isD (b q) = true
    · rw [if_pos cd, if_neg (by decide), Wp_gd]
      refine ⟨nbk (by omega) (by omega), ?_⟩
      rw [Wp_bnd, Wp_bnd, Wp_some, nI_1]
      have hb : 48 ≤ b q ∧ b q ≤ 57 := by
        unfold isD at cd
        simp at cd
        exact cd
      have dl := dv_le b s (q - s)
      have ed : dv b s (q + 1 - s) = if dv b s (q - s) * 10 + (b q - 48) ≤ 10000 then dv b s (q - s) * 10 + (b q - 48) else 10000 := by
        rw [show q + 1 - s = (q - s) + 1 by omega]
        show (if dv b s (q - s) * 10 + (b (s + (q - s)) - 48) ≤ 10000 then _ else _) = _
        rw [show s + (q - s) = q by omega]
      have e1 : v * 10 + sb (b q) - 48 = nI (dv b s (q - s) * 10 + (b q - 48)) := by
        have e : sb (b q) = nI (b q) := by rw [ti_eq, sb_t _ b1, if_pos (by omega), ti_nI (by omega)]
        rw [hv, e]
        show nI _ * nI 10 + nI _ - nI 48 = _
        rw [pk_mul, nI_add, pk_sub (by omega), show dv b s (q - s) * 10 + b q - 48 = dv b s (q - s) * 10 + (b q - 48) by omega]
      refine Or.inl ⟨rfl, m - 1, by omega, q + 1, fu.trans FQ.u, by rw [hI_uI_eq, pu_eq], by omega, by omega, ?_, fun j z1 z2 => ?_⟩
      · dsimp only
        rw [e1, ed]
        unfold mmin
        by_cases cc : dv b s (q - s) * 10 + (b q - 48) ≤ 10000
        · rw [if_pos cc, if_neg (by rw [ti_lt, ti_nI (by omega)]; show ¬ (10000 : Int) < _; omega)]
        · rw [if_neg cc, if_pos (by rw [ti_lt, ti_nI (by omega)]; show (10000 : Int) < _; omega)]
          rfl
      · by_cases cj : j = q
        · subst cj; exact cd
        · exact bl j z1 (by omega)
    · rw [if_neg cd, if_pos rfl]
      exact fin (fun z => cd z.2)
theorem let_w {s : Nat} {x1 : Int32} (hN : 1000 ≤ N) (by' : ByX h b n) (hs : hI h 22 4 = nI s) (hsn : s ≤ n) : Wp (lp (f68_l3 N x1) N h) fun q => FQ h q.2 ∧ ∃ e, s ≤ e ∧ e ≤ n ∧ (∀ j, s ≤ j → j < e → isL (b j) = true) ∧ (e < n → ¬ isL (b e) = true) ∧ hI q.2 22 4 = nI e := by
  have n3 := by'.2.1
  refine Wp_lp (fun m u => ∃ q, FQ h u ∧ hI u 22 4 = nI q ∧ s ≤ q ∧ q + m = n ∧ ∀ j, s ≤ j → j < q → isL (b j) = true) ?_ N (n - s) _ (by omega) ⟨s, FQ.rfl', hs, by omega, by omega, fun j z1 z2 => by omega⟩
  rintro m u ⟨q, fu, hq, s1, s2, bl⟩
  have bu := ByX_q by' fu
  unfold f68_l3
  rw [hq, bu.1]
  by_cases c : n ≤ q
  · rw [if_pos (by rw [ti_le, ti_nI (by omega), ti_nI (by omega)]; omega), Wp_some]
    exact Or.inr ⟨0, rfl, fu, q, s1, by omega, bl, fun z => by omega, hq⟩
  · rw [if_neg (by rw [ti_le, ti_nI (by omega), ti_nI (by omega)]; omega), Wp_gd]
    refine ⟨nbk (by omega) (by omega), ?_⟩
    obtain ⟨b1, b2⟩ := bu.2.2 q (by omega)
    rw [nix (by omega), b2, sb_L (b q) b1]
    by_cases cd : isL (b q) = true
    · rw [if_pos cd, if_neg (by decide), Wp_bnd, Wp_some, nI_1]
      refine Or.inl ⟨rfl, m - 1, by omega, q + 1, fu.trans FQ.u, by rw [hI_uI_eq, pu_eq], by omega, by omega, fun j z1 z2 => ?_⟩
      by_cases cj : j = q
      · subst cj; exact cd
      · exact bl j z1 (by omega)
    · rw [if_neg cd, if_pos rfl, Wp_some]
      exact Or.inr ⟨0, rfl, fu, q, s1, by omega, bl, fun _ => cd, hq⟩
theorem spl_w {s e k : Nat} (hN : 1000 ≤ N) (by' : ByX h b n) (hk : k < 14) (hse : s ≤ e) (hen : e ≤ n) : Wp (f72 N (nI s) (nI e) (1000 + k) h) fun v => (v = 1 ∧ Spl b s e k) ∨ (v = 0 ∧ ¬ Spl b s e k) := by
  have n3 := by'.2.1
  obtain ⟨w1, w2⟩ := wl_ok k hk
  unfold f72
  rw [Wp_gd]
  refine ⟨by omega, ?_⟩
  rw [show 1000 + k - 1000 = k by omega, pk_sub hse]
  by_cases c : e - s = slen k
  · rw [if_pos (show nI (e - s) = Int32.ofNat (slen k) by rw [c]; rfl), Wp_bind]
    refine Wp_for (fun (j : Nat) (_ : Unit) => nI j) (slen k) (fun j _ => ∀ j', j' < j → b (s + j') = wc k j') ?_ ?_ (i0 := 0) (x0 := ()) (by omega) (by omega) (fun _ z => by omega)
    · rintro j _ hj hx
      obtain ⟨w3, w4⟩ := wc_ok k hk j (by omega)
      unfold f72_l10
      rw [Wp_gd]
      refine ⟨by omega, ?_⟩
      rw [show 1000 + k - 1000 = k by omega, if_neg (show ¬ Int32.ofNat (slen k) ≤ nI j by show ¬ nI (slen k) ≤ nI j; rw [ti_le, ti_nI (by omega), ti_nI (by omega)]; omega), Wp_gd, nI_add]
      refine ⟨nbk (by omega) (by omega), ?_⟩
      rw [Wp_gd]
      refine ⟨⟨by omega, by omega, nbk hj (by omega)⟩, ?_⟩
      obtain ⟨b1, b2⟩ := by'.2.2 (s + j) (by omega)
      rw [nix (by omega), nix (by omega), b2, w3]
      by_cases cc : b (s + j) = wc k j
      · rw [if_pos ((sb_c b1 w4).2 cc), Wp_bnd, Wp_some, nI_1]
        refine Or.inl ⟨rfl, (), rfl, fun j' h1 => ?_⟩
        by_cases cj : j' = j
        · subst cj; exact cc
        · exact hx j' (by omega)
      · rw [if_neg (fun z => cc ((sb_c b1 w4).1 z)), Wp_some]
        refine Or.inr ⟨0, rfl, ?_⟩
        dsimp only
        rw [if_pos rfl, Wp_some]
        exact Or.inr ⟨rfl, fun z => cc (z.2 j hj)⟩
    · rintro _ hx
      unfold f72_l10
      rw [Wp_gd]
      refine ⟨by omega, ?_⟩
      rw [show 1000 + k - 1000 = k by omega, if_pos (show Int32.ofNat (slen k) ≤ nI (slen k) by show nI (slen k) ≤ nI (slen k); rw [ti_le]; omega), Wp_some]
      refine ⟨1, rfl, ?_⟩
      dsimp only
      rw [if_neg (by omega), Wp_some]
      exact Or.inl ⟨rfl, c, hx⟩
  · rw [if_neg (show ¬ nI (e - s) = Int32.ofNat (slen k) from fun z => c (nI_inj (by omega) (by omega) z)), Wp_some]
    exact Or.inr ⟨rfl, fun z => c z.1⟩
theorem wd_ref : ∀ k, k < 14 → f73 N (nI k) h = some (1000 + k) := by
  intro k hk
  have : k = 0 ∨ k = 1 ∨ k = 2 ∨ k = 3 ∨ k = 4 ∨ k = 5 ∨ k = 6 ∨ k = 7 ∨ k = 8 ∨ k = 9 ∨ k = 10 ∨ k = 11 ∨ k = 12 ∨ k = 13 := by omega
  rcases this with rfl | rfl | rfl | rfl | rfl | rfl | rfl | rfl | rfl | rfl | rfl | rfl | rfl | rfl <;> rfl
theorem word_w {s : Nat} (hN : 1000 ≤ N) (by' : ByX h b n) (hs : hI h 22 4 = nI s) (hsn : s ≤ n) : Wp (f68 N h) fun x => FQ h x.2 ∧ ∃ q k, s ≤ q ∧ q ≤ n ∧ (∀ j, s ≤ j → j < q → isL (b j) = true) ∧ (q < n → ¬ isL (b q) = true) ∧ x.1 = nI k ∧ hI x.2 22 4 = nI q ∧ ((k < 14 ∧ Spl b s q k) ∨ (k = 28 ∧ ∀ k', k' < 14 → ¬ Spl b s q k')) := by
  unfold f68
  rw [Wp_bnd, Wp_bind, hs]
  refine Wp_mono (let_w hN by' hs hsn) (fun y ⟨fy, e, e1, e2, e3, e4, e5⟩ => ?_)
  rw [Wp_bind]
  have bY := ByX_q by' fy
  refine Wp_for (fun (k : Nat) (_ : Unit) => nI k) 14 (fun k _ => ∀ k', k' < k → ¬ Spl b s e k') ?_ ?_ (i0 := 0) (x0 := ()) (by omega) (by omega) (fun _ z => by omega)
  · rintro k _ hk hx
    unfold f68_l24
    rw [if_neg (show ¬ (14 : Int32) ≤ nI k by rw [ti_le, ti_nI (by omega)]; show ¬ (14 : Int) ≤ _; omega), wd_ref k hk, Option.bind_some, e5, Wp_bind]
    refine Wp_mono (spl_w hN bY hk e1 e2) (fun v hv => ?_)
    rcases hv with ⟨v1, v2⟩ | ⟨v1, v2⟩
    · rw [if_neg (by rw [v1]; decide), Wp_some]
      refine Or.inr ⟨0, rfl, ?_⟩
      dsimp only
      rw [if_pos rfl, Wp_some]
      exact ⟨fy, e, k, e1, e2, e3, e4, rfl, e5, Or.inl ⟨hk, v2⟩⟩
    · rw [if_pos v1, Wp_bnd, Wp_some, nI_1]
      refine Or.inl ⟨rfl, (), rfl, fun k' h1 => ?_⟩
      by_cases ck : k' = k
      · subst ck; exact v2
      · exact hx k' (by omega)
  · rintro _ hx
    unfold f68_l24
    rw [if_pos (show (14 : Int32) ≤ nI 14 by decide), Wp_some]
    refine ⟨1, rfl, ?_⟩
    dsimp only
    rw [if_neg (by omega), Wp_some]
    exact ⟨fy, e, 28, e1, e2, e3, e4, rfl, e5, Or.inr ⟨rfl, hx⟩⟩
theorem kind_w {s : Nat} (hN : 1000 ≤ N) (by' : ByX h b n) (hs : hI h 22 4 = nI s) (hsn : s ≤ n) : Wp (f67 N h) fun x => FQ h x.2 ∧ ∃ k q, x.1 = nI k ∧ hI x.2 22 4 = nI q ∧ TkA b n s k q := by
  have n3 := by'.2.1
  unfold f67
  rw [hs, by'.1]
  by_cases c : s < n
  · rw [if_pos (by rw [ti_lt, ti_nI (by omega), ti_nI (by omega)]; omega), Wp_gd]
    refine ⟨nbk (by omega) (by omega), ?_⟩
    obtain ⟨b1, b2⟩ := by'.2.2 s c
    rw [nix (by omega), b2, sb_L _ b1]
    by_cases cl : isL (b s) = true
    · rw [if_pos cl, if_neg (by decide), Wp_bind]
      refine Wp_mono (word_w hN by' hs hsn) (fun x ⟨fx, q, k, q1, q2, q3, q4, q5, q6, q7⟩ => ?_)
      rw [Wp_some]
      have : s < q := by
        refine Classical.byContradiction fun hh => ?_
        have : q = s := by omega
        subst this
        exact q4 c cl
      exact ⟨fx, k, q, q5, q6, Or.inr (Or.inl ⟨c, cl, this, q2, q3, q4, q7⟩)⟩
    · rw [if_neg cl, if_pos rfl, Wp_gd, sb_D _ b1]
      refine ⟨nbk (by omega) (by omega), ?_⟩
      by_cases cd : isD (b s) = true
      · rw [if_pos cd, if_neg (by decide), Wp_bind]
        refine Wp_mono (num_w hN by' hs hsn) (fun x ⟨fx, q, q1, q2, q3, q4, q5, q6⟩ => ?_)
        rw [Wp_some]
        have : s < q := by
          refine Classical.byContradiction fun hh => ?_
          have : q = s := by omega
          subst this
          exact q4 c cd
        exact ⟨fx, _, q, q5, q6, Or.inr (Or.inr (Or.inl ⟨c, cd, this, q2, q3, q4, rfl⟩))⟩
      · rw [if_neg cd, if_pos rfl, Wp_gd, Wp_bnd, Wp_bnd, nI_1]
        refine ⟨nbk (by omega) (by omega), ?_⟩
        have bu := ByX_q by' (FQ.u (h := h) (v := nI (s + 1)))
        have hs1 : hI (uI h 22 4 (nI (s + 1))) 22 4 = nI (s + 1) := by rw [hI_uI_eq, pu_eq]
        rw [Wp_bind]
        by_cases c60 : b s = 60
        · rw [c60, show sb 60 = 60 from rfl, sig60_w]
          obtain ⟨v, u, f1, f2, f3⟩ := eqf_w (N := N) bu hs1 (by omega)
          rw [f1, Option.bind_some]
          rcases f3 with ⟨y1, y2, y3, y4⟩ | ⟨y1, y2, y3⟩
          · dsimp only
            rw [if_neg (by rw [y1]; decide), Wp_some, Wp_some]
            exact ⟨FQ.u.trans f2, 19, s + 2, rfl, y4, Or.inr (Or.inr (Or.inr ⟨c, cl, cd, Or.inl ⟨Or.inl c60, y2, y3, by rw [if_pos c60], rfl⟩⟩))⟩
          · dsimp only
            rw [if_pos y1, Wp_some, Wp_some]
            refine ⟨FQ.u.trans f2, 18, s + 1, rfl, y3, Or.inr (Or.inr (Or.inr ⟨c, cl, cd, Or.inr ⟨fun z => y2 z.2, ?_, rfl⟩⟩))⟩
            rw [c60]; rfl
        · by_cases c62 : b s = 62
          · rw [c62, show sb 62 = 62 from rfl, sig62_w]
            obtain ⟨v, u, f1, f2, f3⟩ := eqf_w (N := N) bu hs1 (by omega)
            rw [f1, Option.bind_some]
            rcases f3 with ⟨y1, y2, y3, y4⟩ | ⟨y1, y2, y3⟩
            · dsimp only
              rw [if_neg (by rw [y1]; decide), Wp_some, Wp_some]
              exact ⟨FQ.u.trans f2, 21, s + 2, rfl, y4, Or.inr (Or.inr (Or.inr ⟨c, cl, cd, Or.inl ⟨Or.inr c62, y2, y3, by rw [if_neg c60], rfl⟩⟩))⟩
            · dsimp only
              rw [if_pos y1, Wp_some, Wp_some]
              refine ⟨FQ.u.trans f2, 20, s + 1, rfl, y3, Or.inr (Or.inr (Or.inr ⟨c, cl, cd, Or.inr ⟨fun z => y2 z.2, ?_, rfl⟩⟩))⟩
              rw [c62]; rfl
          · rw [sig_w b1 c60 c62, Wp_some, Wp_some]
            exact ⟨FQ.u, sgn (b s), s + 1, rfl, hs1, Or.inr (Or.inr (Or.inr ⟨c, cl, cd, Or.inr ⟨fun z => by omega, rfl, rfl⟩⟩))⟩
  · rw [if_neg (by rw [ti_lt, ti_nI (by omega), ti_nI (by omega)]; omega), Wp_some]
    exact ⟨FQ.rfl', 27, n, rfl, by rw [hs, show s = n by omega], Or.inl ⟨by omega, rfl, rfl⟩⟩
/-- the row of tokens -/
def Tks (b : Nat → Nat) (n : Nat) (kd st ps : Nat → Nat) (e : Nat) : Prop := ps 0 = 0 ∧ (∀ j, j ≤ e → Tok b n (ps j) (st j) (kd j) (ps (j + 1))) ∧ (kd e = 27 ∨ kd e = 28) ∧ (∀ j, j < e → kd j ≠ 27 ∧ kd j ≠ 28) ∧ e ≤ 300
theorem cut_w (hN : 1000 ≤ N) (by' : ByX h b n) : Wp (f65 N h) fun x => ((∀ c, c ≠ 22 → c ≠ 24 → c ≠ 25 → hI x c = hI h c) ∧ (∀ j, j ≠ 4 → hI x 22 j = hI h 22 j) ∧ hR x = hR h) ∧ ∃ kd st ps e, Tks b n kd st ps e ∧ ∀ j, j ≤ e → hI x 24 j = nI (kd j) ∧ hI x 25 j = nI (st j) := by
  have n3 := by'.2.1
  unfold f65
  rw [Wp_bnd, Wp_bind]
  refine Wp_for (fun (i : Nat) (x : Hp) => (nI i, x)) 301 (fun i x => ((∀ c, c ≠ 22 → c ≠ 24 → c ≠ 25 → hI x c = hI h c) ∧ (∀ j, j ≠ 4 → hI x 22 j = hI h 22 j) ∧ hR x = hR h) ∧ ∃ kd st ps : Nat → Nat, hI x 22 4 = nI (ps i) ∧ ps i ≤ n ∧ i ≤ ps i ∧ ps 0 = 0 ∧ (∀ j, j < i → Tok b n (ps j) (st j) (kd j) (ps (j + 1)) ∧ kd j ≠ 27 ∧ kd j ≠ 28 ∧ hI x 24 j = nI (kd j) ∧ hI x 25 j = nI (st j))) ?_ ?_ (i0 := 0) (x0 := uI h 22 4 0) (by omega) (by omega) ⟨⟨fun c c1 _ _ => hI_uI_ne c1, fun j hj => by rw [hI_uI_eq, pu_ne hj], rfl⟩, fun _ => 0, fun _ => 0, fun _ => 0, by rw [hI_uI_eq, pu_eq]; rfl, by show 0 ≤ n; omega, by show 0 ≤ 0; omega, rfl, fun _ z => by omega⟩
  · rintro i x hi ⟨⟨f1, f2, f3⟩, kd, st, ps, x4, pn, ip, p0, tk⟩
    have bx : ByX x b n := ⟨(f2 3 (by omega)).trans by'.1, n3, fun j hj => ⟨(by'.2.2 j hj).1, by rw [f1 23 (by omega) (by omega) (by omega)]; exact (by'.2.2 j hj).2⟩⟩
    unfold f65_l5
    dsimp only
    rw [if_neg (show ¬ (300 : Int32) < nI i by rw [ti_lt, ti_nI (by omega)]; show ¬ (300 : Int) < _; omega), Wp_bind]
    refine Wp_mono (skip_w hN bx x4 pn) (fun y ⟨fy, s, y1, y2, y3, y4, y5⟩ => ?_)
    rw [Wp_gd, Wp_bnd, Wp_bind, y1, nix (by omega)]
    refine ⟨nbk hi (by omega), ?_⟩
    have bz : ByX (uI y 25 i (nI s)) b n := by
      obtain ⟨a1, a2, a3⟩ := ByX_q bx fy
      exact ⟨by rw [hI_uI_ne (by omega)]; exact a1, a2, fun j hj => ⟨(a3 j hj).1, by rw [hI_uI_ne (by omega)]; exact (a3 j hj).2⟩⟩
    refine Wp_mono (kind_w hN bz (by rw [hI_uI_ne (by omega)]; exact y1) y3) (fun z ⟨fz, k, q, z1, z2, z3⟩ => ?_)
    obtain ⟨tq1, tq2, tq3⟩ := TkA_q z3
    have tok : Tok b n (ps i) s k q := ⟨y2, y3, y4, y5, z3⟩
    rw [Wp_gd, Wp_bnd, Wp_gd, z1, show hI (uI z.2 24 i (nI k)) 24 i = nI k by rw [hI_uI_eq, pu_eq]]
    refine ⟨nbk hi (by omega), nbk hi (by omega), ?_⟩
    have fr : (∀ c, c ≠ 22 → c ≠ 24 → c ≠ 25 → hI (uI z.2 24 i (nI k)) c = hI h c) ∧ (∀ j, j ≠ 4 → hI (uI z.2 24 i (nI k)) 22 j = hI h 22 j) ∧ hR (uI z.2 24 i (nI k)) = hR h := by
      refine ⟨fun c c1 c2 c3 => ?_, fun j hj => ?_, ?_⟩
      · rw [hI_uI_ne c2, fz.1 c c1, hI_uI_ne c3, fy.1 c c1]; exact f1 c c1 c2 c3
      · rw [hI_uI_ne (by omega), fz.2.1 j hj, hI_uI_ne (by omega), fy.2.1 j hj]; exact f2 j hj
      · rw [hR_uI, fz.2.2, hR_uI, fy.2.2]; exact f3
    have r24 : ∀ j, hI (uI z.2 24 i (nI k)) 24 j = if j = i then nI k else hI x 24 j := fun j => by
      rw [hI_uI_eq]
      by_cases c : j = i
      · subst c; rw [pu_eq, if_pos rfl]
      · rw [pu_ne c, if_neg c, fz.1 24 (by omega), hI_uI_ne (by omega), fy.1 24 (by omega)]
    have r25 : ∀ j, hI (uI z.2 24 i (nI k)) 25 j = if j = i then nI s else hI x 25 j := fun j => by
      rw [hI_uI_ne (by omega), fz.1 25 (by omega), hI_uI_eq]
      by_cases c : j = i
      · subst c; rw [pu_eq, if_pos rfl]
      · rw [pu_ne c, if_neg c, fy.1 25 (by omega)]
    -- the rows with one more
    have ext : ∀ j, j ≤ i → Tok b n ((fun m => if m ≤ i then ps m else q) j) ((fun m => if m = i then s else st m) j) ((fun m => if m = i then k else kd m) j) ((fun m => if m ≤ i then ps m else q) (j + 1)) ∧ hI (uI z.2 24 i (nI k)) 24 j = nI ((fun m => if m = i then k else kd m) j) ∧ hI (uI z.2 24 i (nI k)) 25 j = nI ((fun m => if m = i then s else st m) j) := fun j hj => by
      dsimp only
      rw [r24, r25]
      by_cases c : j = i
      · subst c
        rw [if_pos (by omega), if_pos rfl, if_pos rfl, if_neg (by omega), if_pos rfl, if_pos rfl]
        exact ⟨tok, rfl, rfl⟩
      · obtain ⟨t1, _, _, t4, t5⟩ := tk j (by omega)
        rw [if_pos (by omega), if_neg c, if_neg c, if_pos (by omega), if_neg c, if_neg c]
        exact ⟨t1, t4, t5⟩
    have done : (k = 27 ∨ k = 28) → ∃ kd st ps e, Tks b n kd st ps e ∧ ∀ j, j ≤ e → hI (uI z.2 24 i (nI k)) 24 j = nI (kd j) ∧ hI (uI z.2 24 i (nI k)) 25 j = nI (st j) := fun hk => by
      refine ⟨fun m => if m = i then k else kd m, fun m => if m = i then s else st m, fun m => if m ≤ i then ps m else q, i, ⟨?_, fun j hj => (ext j hj).1, ?_, fun j hj => ?_, by omega⟩, fun j hj => (ext j hj).2⟩
      · dsimp only; rw [if_pos (by omega)]; exact p0
      · dsimp only; rw [if_pos rfl]; exact hk
      · dsimp only; rw [if_neg (by omega)]; exact ⟨(tk j hj).2.1, (tk j hj).2.2.1⟩
    by_cases c27 : k = 27
    · rw [if_pos (by rw [c27]; rfl), Wp_some]
      refine Or.inr ⟨0, rfl, ?_⟩
      dsimp only
      rw [if_pos rfl, Wp_some]
      exact ⟨fr, done (Or.inl c27)⟩
    · rw [if_neg (show ¬ nI k = 27 from fun zz => c27 (nI_inj (by omega) (by omega) (show nI k = nI 27 from zz))), Wp_gd]
      refine ⟨nbk hi (by omega), ?_⟩
      by_cases c28 : k = 28
      · rw [if_pos (by rw [c28]; rfl), Wp_some]
        refine Or.inr ⟨0, rfl, ?_⟩
        dsimp only
        rw [if_pos rfl, Wp_some]
        exact ⟨fr, done (Or.inr c28)⟩
      · rw [if_neg (show ¬ nI k = 28 from fun zz => c28 (nI_inj (by omega) (by omega) (show nI k = nI 28 from zz))), Wp_bnd, Wp_some, nI_1]
        have := tq2 c27
        refine Or.inl ⟨rfl, _, rfl, fr, fun m => if m = i then k else kd m, fun m => if m = i then s else st m, fun m => if m ≤ i then ps m else q, ?_, ?_, ?_, ?_, fun j hj => ⟨(ext j (by omega)).1, ?_, ?_, (ext j (by omega)).2⟩⟩
        · dsimp only; rw [if_neg (by omega), hI_uI_ne (by omega)]; exact z2
        · dsimp only; rw [if_neg (by omega)]; exact tq1
        · dsimp only; rw [if_neg (by omega)]; omega
        · dsimp only; rw [if_pos (by omega)]; exact p0
        · dsimp only
          by_cases c : j = i
          · rw [if_pos c]; exact c27
          · rw [if_neg c]; exact (tk j (by omega)).2.1
        · dsimp only
          by_cases c : j = i
          · rw [if_pos c]; exact c28
          · rw [if_neg c]; exact (tk j (by omega)).2.2.1
  · rintro x ⟨_, kd, st, ps, _, pn, ip, _⟩
    omega
end
