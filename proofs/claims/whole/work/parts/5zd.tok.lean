/-! ===== the tape's tokens ===== -/
def sb (x : Nat) : Int32 := (nI x).toInt8.toInt32
def isL (x : Nat) : Bool := (97 ≤ x && x ≤ 122) || (65 ≤ x && x ≤ 90)
def isD (x : Nat) : Bool := 48 ≤ x && x ≤ 57
def isB (x : Nat) : Bool := x == 32 || x == 10
def sgn (x : Nat) : Nat := if x = 43 then 14 else if x = 45 then 15 else if x = 42 then 16 else if x = 47 then 17 else if x = 60 then 18 else if x = 62 then 20 else if x = 61 then 22 else if x = 35 then 23 else if x = 40 then 24 else if x = 41 then 25 else if x = 59 then 26 else 28
theorem sb_t : ∀ x, x < 256 → (sb x).toInt = if x < 128 then (x : Int) else (x : Int) - 256 := by decide +kernel
theorem sb_L : ∀ x, x < 256 → f74 (sb x) = if isL x = true then 1 else 0 := by decide +kernel
theorem sb_D : ∀ x, x < 256 → f75 (sb x) = if isD x = true then 1 else 0 := by decide +kernel
theorem sb_c {x c : Nat} (hx : x < 256) (hc : c < 128) : sb x = nI c ↔ x = c := by
  rw [ti_eq, sb_t x hx, ti_nI (by omega)]
  by_cases h : x < 128
  · rw [if_pos h]; omega
  · rw [if_neg h]; omega
/-- a word's letters -/
def wc (k j : Nat) : Nat := tn (schr k j)
theorem wc_ok : ∀ k, k < 14 → ∀ j, j < 7 → schr k j = nI (wc k j) ∧ wc k j < 128 := by decide +kernel
theorem wl_ok : ∀ k, k < 14 → 1 ≤ slen k ∧ slen k ≤ 7 := by decide +kernel
def Spl (b : Nat → Nat) (s q k : Nat) : Prop := q - s = slen k ∧ ∀ j, j < slen k → b (s + j) = wc k j
def dv (b : Nat → Nat) (s : Nat) : Nat → Nat
  | 0 => 0
  | m + 1 => if dv b s m * 10 + (b (s + m) - 48) ≤ 10000 then dv b s m * 10 + (b (s + m) - 48) else 10000
theorem dv_le (b : Nat → Nat) (s : Nat) : ∀ m, dv b s m ≤ 10000
  | 0 => by unfold dv; omega
  | m + 1 => by
    unfold dv
    by_cases c : dv b s m * 10 + (b (s + m) - 48) ≤ 10000
    · rw [if_pos c]; exact c
    · rw [if_neg c]; omega
/-- at s stands the token k, up to q -/
def TkA (b : Nat → Nat) (n s k q : Nat) : Prop := (s = n ∧ k = 27 ∧ q = n) ∨ (s < n ∧ isL (b s) = true ∧ s < q ∧ q ≤ n ∧ (∀ j, s ≤ j → j < q → isL (b j) = true) ∧ (q < n → ¬ isL (b q) = true) ∧ ((k < 14 ∧ Spl b s q k) ∨ (k = 28 ∧ ∀ k', k' < 14 → ¬ Spl b s q k'))) ∨ (s < n ∧ isD (b s) = true ∧ s < q ∧ q ≤ n ∧ (∀ j, s ≤ j → j < q → isD (b j) = true) ∧ (q < n → ¬ isD (b q) = true) ∧ k = 100 + dv b s (q - s)) ∨ (s < n ∧ ¬ isL (b s) = true ∧ ¬ isD (b s) = true ∧ (((b s = 60 ∨ b s = 62) ∧ s + 1 < n ∧ b (s + 1) = 61 ∧ k = (if b s = 60 then 19 else 21) ∧ q = s + 2) ∨ (¬ ((b s = 60 ∨ b s = 62) ∧ s + 1 < n ∧ b (s + 1) = 61) ∧ k = sgn (b s) ∧ q = s + 1)))
def Tok (b : Nat → Nat) (n p s k q : Nat) : Prop := p ≤ s ∧ s ≤ n ∧ (∀ j, p ≤ j → j < s → isB (b j) = true) ∧ (s < n → ¬ isB (b s) = true) ∧ TkA b n s k q
theorem TkA_q {b : Nat → Nat} {n s k q : Nat} (h : TkA b n s k q) : q ≤ n ∧ (k ≠ 27 → s < q) ∧ k ≤ 10100 := by
  rcases h with ⟨h1, h2, h3⟩ | ⟨h1, h2, h3, h4, h5, h6, h7⟩ | ⟨h1, h2, h3, h4, h5, h6, h7⟩ | ⟨h1, h2, h3, h4⟩
  · exact ⟨by omega, fun z => absurd h2 z, by omega⟩
  · exact ⟨h4, fun _ => h3, by rcases h7 with z | z <;> omega⟩
  · have := dv_le b s (q - s)
    exact ⟨h4, fun _ => h3, by omega⟩
  · rcases h4 with ⟨z1, z2, z3, z4, z5⟩ | ⟨z1, z2, z3⟩
    · refine ⟨by omega, fun _ => by omega, ?_⟩
      by_cases c : b s = 60
      · rw [if_pos c] at z4; omega
      · rw [if_neg c] at z4; omega
    · refine ⟨by omega, fun _ => by omega, ?_⟩
      have : ∀ x, sgn x ≤ 28 := fun x => by
        unfold sgn
        repeat' split
        all_goals omega
      have := this (b s)
      omega
def ByX (h : Hp) (b : Nat → Nat) (n : Nat) : Prop := hI h 22 3 = nI n ∧ n ≤ 300 ∧ ∀ j, j < n → b j < 256 ∧ hI h 23 j = sb (b j)
/-- only the reading place of the tape changes -/
def FQ (h h' : Hp) : Prop := (∀ c, c ≠ 22 → hI h' c = hI h c) ∧ (∀ j, j ≠ 4 → hI h' 22 j = hI h 22 j) ∧ hR h' = hR h
theorem FQ.rfl' {h : Hp} : FQ h h := ⟨fun _ _ => rfl, fun _ _ => rfl, rfl⟩
theorem FQ.trans {h h1 h2 : Hp} (x : FQ h h1) (y : FQ h1 h2) : FQ h h2 := ⟨fun c z => (y.1 c z).trans (x.1 c z), fun c z => (y.2.1 c z).trans (x.2.1 c z), y.2.2.trans x.2.2⟩
theorem FQ.u {h : Hp} {v : Int32} : FQ h (uI h 22 4 v) := ⟨fun c z => hI_uI_ne z, fun j z => by rw [hI_uI_eq, pu_ne z], rfl⟩
theorem ByX_q {h h' : Hp} {b : Nat → Nat} {n : Nat} (x : ByX h b n) (f : FQ h h') : ByX h' b n := ⟨(f.2.1 3 (by omega)).trans x.1, x.2.1, fun j hj => ⟨(x.2.2 j hj).1, by rw [f.1 23 (by omega)]; exact (x.2.2 j hj).2⟩⟩
section
variable {N n : Nat} {b : Nat → Nat} {h : Hp}
theorem blank_i {x : Nat} (hx : x < 256) : (sb x = 32 ∨ sb x = 10) ↔ isB x = true := by
  have e1 : sb x = 32 ↔ x = 32 := sb_c (c := 32) hx (by omega)
  have e2 : sb x = 10 ↔ x = 10 := sb_c (c := 10) hx (by omega)
  rw [e1, e2]
  unfold isB
  simp
theorem skip_l {p : Nat} (hN : 1000 ≤ N) (by' : ByX h b n) (hp : hI h 22 4 = nI p) (hpn : p ≤ n) : Wp (lp (f66_l0 N) N h) fun q => FQ h q.2 ∧ ∃ s, hI q.2 22 4 = nI s ∧ p ≤ s ∧ s ≤ n ∧ (∀ j, p ≤ j → j < s → isB (b j) = true) ∧ (s < n → ¬ isB (b s) = true) := by
  have n3 := by'.2.1
  refine Wp_lp (fun m u => ∃ s, FQ h u ∧ hI u 22 4 = nI s ∧ p ≤ s ∧ s + m = n ∧ ∀ j, p ≤ j → j < s → isB (b j) = true) ?_ N (n - p) _ (by omega) ⟨p, FQ.rfl', hp, by omega, by omega, fun j z1 z2 => by omega⟩
  rintro m u ⟨s, fu, hs, s1, s2, bl⟩
  have bu := ByX_q by' fu
  unfold f66_l0
  rw [hs, bu.1]
  by_cases c : n ≤ s
  · rw [if_pos (by rw [ti_le, ti_nI (by omega), ti_nI (by omega)]; omega), Wp_some]
    exact Or.inr ⟨0, rfl, fu, s, hs, s1, by omega, bl, fun z => by omega⟩
  · rw [if_neg (by rw [ti_le, ti_nI (by omega), ti_nI (by omega)]; omega), Wp_gd]
    refine ⟨nbk (by omega) (by omega), ?_⟩
    obtain ⟨b1, b2⟩ := bu.2.2 s (by omega)
    rw [nix (by omega), b2]
    have go : isB (b s) = true → Wp (f66_b19 N u) (fun q => (q.1 = 0 ∧ ∃ m', m' < m ∧ ∃ s, FQ h q.2 ∧ hI q.2 22 4 = nI s ∧ p ≤ s ∧ s + m' = n ∧ ∀ j, p ≤ j → j < s → isB (b j) = true)) := fun z => by
      unfold f66_b19
      rw [Wp_bnd, Wp_some, hs, nI_1]
      refine ⟨rfl, m - 1, by omega, s + 1, fu.trans FQ.u, by rw [hI_uI_eq, pu_eq], by omega, by omega, fun j z1 z2 => ?_⟩
      by_cases cj : j = s
      · subst cj; exact z
      · exact bl j z1 (by omega)
    by_cases c1 : sb (b s) = 32
    · rw [if_pos c1]
      exact Wp_mono (go ((blank_i b1).1 (Or.inl c1))) (fun q hq => Or.inl hq)
    · rw [if_neg c1, Wp_gd]
      refine ⟨nbk (by omega) (by omega), ?_⟩
      by_cases c2 : sb (b s) = 10
      · rw [if_pos c2]
        exact Wp_mono (go ((blank_i b1).1 (Or.inr c2))) (fun q hq => Or.inl hq)
      · rw [if_neg c2, Wp_some]
        refine Or.inr ⟨0, rfl, fu, s, hs, s1, by omega, bl, fun _ z => ?_⟩
        rcases (blank_i b1).2 z with y | y
        · exact c1 y
        · exact c2 y
theorem skip_w {p : Nat} (hN : 1000 ≤ N) (by' : ByX h b n) (hp : hI h 22 4 = nI p) (hpn : p ≤ n) : Wp (f66 N h) fun u => FQ h u ∧ ∃ s, hI u 22 4 = nI s ∧ p ≤ s ∧ s ≤ n ∧ (∀ j, p ≤ j → j < s → isB (b j) = true) ∧ (s < n → ¬ isB (b s) = true) := by
  have n3 := by'.2.1
  unfold f66
  rw [hp, by'.1]
  by_cases c : n ≤ p
  · rw [if_pos (by rw [ti_le, ti_nI (by omega), ti_nI (by omega)]; omega), Wp_some]
    exact ⟨FQ.rfl', p, hp, by omega, by omega, fun j z1 z2 => by omega, fun z => by omega⟩
  · rw [if_neg (by rw [ti_le, ti_nI (by omega), ti_nI (by omega)]; omega), Wp_gd]
    refine ⟨nbk (by omega) (by omega), ?_⟩
    obtain ⟨b1, b2⟩ := by'.2.2 p (by omega)
    rw [nix (by omega), b2, nI_1]
    have go : isB (b p) = true → Wp ((lp (f66_l0 N) N (uI h 22 4 (nI (p + 1)))).bind fun q11 => some q11.2) (fun u => FQ h u ∧ ∃ s, hI u 22 4 = nI s ∧ p ≤ s ∧ s ≤ n ∧ (∀ j, p ≤ j → j < s → isB (b j) = true) ∧ (s < n → ¬ isB (b s) = true)) := fun z => by
      rw [Wp_bind]
      refine Wp_mono (skip_l (p := p + 1) hN (ByX_q by' FQ.u) (by rw [hI_uI_eq, pu_eq]) (by omega)) (fun q ⟨q1, s, q2, q3, q4, q5, q6⟩ => ?_)
      rw [Wp_some]
      refine ⟨FQ.u.trans q1, s, q2, by omega, q4, fun j z1 z2 => ?_, q6⟩
      by_cases cj : j = p
      · subst cj; exact z
      · exact q5 j (by omega) z2
    by_cases c1 : sb (b p) = 32
    · rw [if_pos c1, Wp_bnd]
      exact go ((blank_i b1).1 (Or.inl c1))
    · rw [if_neg c1, Wp_gd]
      refine ⟨nbk (by omega) (by omega), ?_⟩
      by_cases c2 : sb (b p) = 10
      · rw [if_pos c2, Wp_bnd]
        exact go ((blank_i b1).1 (Or.inr c2))
      · rw [if_neg c2, Wp_some]
        refine ⟨FQ.rfl', p, hp, by omega, by omega, fun j z1 z2 => by omega, fun _ z => ?_⟩
        rcases (blank_i b1).2 z with y | y
        · exact c1 y
        · exact c2 y
/-- the signs -/
theorem eqf_w {s : Nat} (by' : ByX h b n) (hs : hI h 22 4 = nI s) (hsn : s ≤ n) : ∃ v u, f71 N h = some (v, u) ∧ FQ h u ∧ ((v = 1 ∧ s < n ∧ b s = 61 ∧ hI u 22 4 = nI (s + 1)) ∨ (v = 0 ∧ ¬ (s < n ∧ b s = 61) ∧ hI u 22 4 = nI s)) := by
  have n3 := by'.2.1
  unfold f71
  rw [hs, by'.1]
  by_cases c : n ≤ s
  · rw [if_pos (by rw [ti_le, ti_nI (by omega), ti_nI (by omega)]; omega)]
    exact ⟨0, h, rfl, FQ.rfl', Or.inr ⟨rfl, fun z => by omega, hs⟩⟩
  · rw [if_neg (by rw [ti_le, ti_nI (by omega), ti_nI (by omega)]; omega), gd_pos (nbk (by omega) (by omega)), nix (by omega)]
    obtain ⟨b1, b2⟩ := by'.2.2 s (by omega)
    have e : hI h 23 s = 61 ↔ b s = 61 := by rw [b2]; exact sb_c (c := 61) b1 (by omega)
    by_cases c2 : b s = 61
    · rw [if_pos (e.2 c2), nI_1]
      exact ⟨1, uI h 22 4 (nI (s + 1)), rfl, FQ.u, Or.inl ⟨rfl, by omega, c2, by rw [hI_uI_eq, pu_eq]⟩⟩
    · rw [if_neg (fun z => c2 (e.1 z))]
      exact ⟨0, h, rfl, FQ.rfl', Or.inr ⟨rfl, fun z => c2 z.2, hs⟩⟩
theorem sig_w {x : Nat} (hx : x < 256) (h60 : x ≠ 60) (h62 : x ≠ 62) : f70 N (sb x) h = some (nI (sgn x), h) := by
  unfold f70
  by_cases c35 : x = 35
  · subst c35
    rw [if_pos (show sb 35 = 35 from rfl)]
    rfl
  rw [if_neg (show ¬ sb x = 35 from fun z => c35 ((sb_c (c := 35) hx (by omega)).1 z))]
  by_cases c36 : x = 36
  · subst c36
    rw [if_pos (show sb 36 = 36 from rfl)]
    rfl
  rw [if_neg (show ¬ sb x = 36 from fun z => c36 ((sb_c (c := 36) hx (by omega)).1 z))]
  by_cases c37 : x = 37
  · subst c37
    rw [if_pos (show sb 37 = 37 from rfl)]
    rfl
  rw [if_neg (show ¬ sb x = 37 from fun z => c37 ((sb_c (c := 37) hx (by omega)).1 z))]
  by_cases c38 : x = 38
  · subst c38
    rw [if_pos (show sb 38 = 38 from rfl)]
    rfl
  rw [if_neg (show ¬ sb x = 38 from fun z => c38 ((sb_c (c := 38) hx (by omega)).1 z))]
  by_cases c39 : x = 39
  · subst c39
    rw [if_pos (show sb 39 = 39 from rfl)]
    rfl
  rw [if_neg (show ¬ sb x = 39 from fun z => c39 ((sb_c (c := 39) hx (by omega)).1 z))]
  by_cases c40 : x = 40
  · subst c40
    rw [if_pos (show sb 40 = 40 from rfl)]
    rfl
  rw [if_neg (show ¬ sb x = 40 from fun z => c40 ((sb_c (c := 40) hx (by omega)).1 z))]
  by_cases c41 : x = 41
  · subst c41
    rw [if_pos (show sb 41 = 41 from rfl)]
    rfl
  rw [if_neg (show ¬ sb x = 41 from fun z => c41 ((sb_c (c := 41) hx (by omega)).1 z))]
  by_cases c42 : x = 42
  · subst c42
    rw [if_pos (show sb 42 = 42 from rfl)]
    rfl
  rw [if_neg (show ¬ sb x = 42 from fun z => c42 ((sb_c (c := 42) hx (by omega)).1 z))]
  by_cases c43 : x = 43
  · subst c43
    rw [if_pos (show sb 43 = 43 from rfl)]
    rfl
  rw [if_neg (show ¬ sb x = 43 from fun z => c43 ((sb_c (c := 43) hx (by omega)).1 z))]
  by_cases c44 : x = 44
  · subst c44
    rw [if_pos (show sb 44 = 44 from rfl)]
    rfl
  rw [if_neg (show ¬ sb x = 44 from fun z => c44 ((sb_c (c := 44) hx (by omega)).1 z))]
  by_cases c45 : x = 45
  · subst c45
    rw [if_pos (show sb 45 = 45 from rfl)]
    rfl
  rw [if_neg (show ¬ sb x = 45 from fun z => c45 ((sb_c (c := 45) hx (by omega)).1 z))]
  by_cases c46 : x = 46
  · subst c46
    rw [if_pos (show sb 46 = 46 from rfl)]
    rfl
  rw [if_neg (show ¬ sb x = 46 from fun z => c46 ((sb_c (c := 46) hx (by omega)).1 z))]
  by_cases c47 : x = 47
  · subst c47
    rw [if_pos (show sb 47 = 47 from rfl)]
    rfl
  rw [if_neg (show ¬ sb x = 47 from fun z => c47 ((sb_c (c := 47) hx (by omega)).1 z))]
  by_cases c48 : x = 48
  · subst c48
    rw [if_pos (show sb 48 = 48 from rfl)]
    rfl
  rw [if_neg (show ¬ sb x = 48 from fun z => c48 ((sb_c (c := 48) hx (by omega)).1 z))]
  by_cases c49 : x = 49
  · subst c49
    rw [if_pos (show sb 49 = 49 from rfl)]
    rfl
  rw [if_neg (show ¬ sb x = 49 from fun z => c49 ((sb_c (c := 49) hx (by omega)).1 z))]
  by_cases c50 : x = 50
  · subst c50
    rw [if_pos (show sb 50 = 50 from rfl)]
    rfl
  rw [if_neg (show ¬ sb x = 50 from fun z => c50 ((sb_c (c := 50) hx (by omega)).1 z))]
  by_cases c51 : x = 51
  · subst c51
    rw [if_pos (show sb 51 = 51 from rfl)]
    rfl
  rw [if_neg (show ¬ sb x = 51 from fun z => c51 ((sb_c (c := 51) hx (by omega)).1 z))]
  by_cases c52 : x = 52
  · subst c52
    rw [if_pos (show sb 52 = 52 from rfl)]
    rfl
  rw [if_neg (show ¬ sb x = 52 from fun z => c52 ((sb_c (c := 52) hx (by omega)).1 z))]
  by_cases c53 : x = 53
  · subst c53
    rw [if_pos (show sb 53 = 53 from rfl)]
    rfl
  rw [if_neg (show ¬ sb x = 53 from fun z => c53 ((sb_c (c := 53) hx (by omega)).1 z))]
  by_cases c54 : x = 54
  · subst c54
    rw [if_pos (show sb 54 = 54 from rfl)]
    rfl
  rw [if_neg (show ¬ sb x = 54 from fun z => c54 ((sb_c (c := 54) hx (by omega)).1 z))]
  by_cases c55 : x = 55
  · subst c55
    rw [if_pos (show sb 55 = 55 from rfl)]
    rfl
  rw [if_neg (show ¬ sb x = 55 from fun z => c55 ((sb_c (c := 55) hx (by omega)).1 z))]
  by_cases c56 : x = 56
  · subst c56
    rw [if_pos (show sb 56 = 56 from rfl)]
    rfl
  rw [if_neg (show ¬ sb x = 56 from fun z => c56 ((sb_c (c := 56) hx (by omega)).1 z))]
  by_cases c57 : x = 57
  · subst c57
    rw [if_pos (show sb 57 = 57 from rfl)]
    rfl
  rw [if_neg (show ¬ sb x = 57 from fun z => c57 ((sb_c (c := 57) hx (by omega)).1 z))]
  by_cases c58 : x = 58
  · subst c58
    rw [if_pos (show sb 58 = 58 from rfl)]
    rfl
  rw [if_neg (show ¬ sb x = 58 from fun z => c58 ((sb_c (c := 58) hx (by omega)).1 z))]
  by_cases c59 : x = 59
  · subst c59
    rw [if_pos (show sb 59 = 59 from rfl)]
    rfl
  rw [if_neg (show ¬ sb x = 59 from fun z => c59 ((sb_c (c := 59) hx (by omega)).1 z))]
  rw [if_neg (show ¬ sb x = 60 from fun z => h60 ((sb_c (c := 60) hx (by omega)).1 z))]
  by_cases c61 : x = 61
  · subst c61
    rw [if_pos (show sb 61 = 61 from rfl)]
    rfl
  rw [if_neg (show ¬ sb x = 61 from fun z => c61 ((sb_c (c := 61) hx (by omega)).1 z))]
  rw [if_neg (show ¬ sb x = 62 from fun z => h62 ((sb_c (c := 62) hx (by omega)).1 z))]
  have : sgn x = 28 := by
    unfold sgn
    rw [if_neg c43, if_neg c45, if_neg c42, if_neg c47, if_neg h60, if_neg h62, if_neg c61, if_neg c35, if_neg c40, if_neg c41, if_neg c59]
  rw [this]
  rfl
theorem sig60_w : f70 N 60 h = (f71 N h).bind fun q => if q.1 = 0 then some (18, q.2) else some (19, q.2) := by
  unfold f70
  rw [if_neg (show ¬ (60 : Int32) = 35 by decide)]
  rw [if_neg (show ¬ (60 : Int32) = 36 by decide)]
  rw [if_neg (show ¬ (60 : Int32) = 37 by decide)]
  rw [if_neg (show ¬ (60 : Int32) = 38 by decide)]
  rw [if_neg (show ¬ (60 : Int32) = 39 by decide)]
  rw [if_neg (show ¬ (60 : Int32) = 40 by decide)]
  rw [if_neg (show ¬ (60 : Int32) = 41 by decide)]
  rw [if_neg (show ¬ (60 : Int32) = 42 by decide)]
  rw [if_neg (show ¬ (60 : Int32) = 43 by decide)]
  rw [if_neg (show ¬ (60 : Int32) = 44 by decide)]
  rw [if_neg (show ¬ (60 : Int32) = 45 by decide)]
  rw [if_neg (show ¬ (60 : Int32) = 46 by decide)]
  rw [if_neg (show ¬ (60 : Int32) = 47 by decide)]
  rw [if_neg (show ¬ (60 : Int32) = 48 by decide)]
  rw [if_neg (show ¬ (60 : Int32) = 49 by decide)]
  rw [if_neg (show ¬ (60 : Int32) = 50 by decide)]
  rw [if_neg (show ¬ (60 : Int32) = 51 by decide)]
  rw [if_neg (show ¬ (60 : Int32) = 52 by decide)]
  rw [if_neg (show ¬ (60 : Int32) = 53 by decide)]
  rw [if_neg (show ¬ (60 : Int32) = 54 by decide)]
  rw [if_neg (show ¬ (60 : Int32) = 55 by decide)]
  rw [if_neg (show ¬ (60 : Int32) = 56 by decide)]
  rw [if_neg (show ¬ (60 : Int32) = 57 by decide)]
  rw [if_neg (show ¬ (60 : Int32) = 58 by decide)]
  rw [if_neg (show ¬ (60 : Int32) = 59 by decide)]
  rw [if_pos rfl]
theorem sig62_w : f70 N 62 h = (f71 N h).bind fun q => if q.1 = 0 then some (20, q.2) else some (21, q.2) := by
  unfold f70
  rw [if_neg (show ¬ (62 : Int32) = 35 by decide)]
  rw [if_neg (show ¬ (62 : Int32) = 36 by decide)]
  rw [if_neg (show ¬ (62 : Int32) = 37 by decide)]
  rw [if_neg (show ¬ (62 : Int32) = 38 by decide)]
  rw [if_neg (show ¬ (62 : Int32) = 39 by decide)]
  rw [if_neg (show ¬ (62 : Int32) = 40 by decide)]
  rw [if_neg (show ¬ (62 : Int32) = 41 by decide)]
  rw [if_neg (show ¬ (62 : Int32) = 42 by decide)]
  rw [if_neg (show ¬ (62 : Int32) = 43 by decide)]
  rw [if_neg (show ¬ (62 : Int32) = 44 by decide)]
  rw [if_neg (show ¬ (62 : Int32) = 45 by decide)]
  rw [if_neg (show ¬ (62 : Int32) = 46 by decide)]
  rw [if_neg (show ¬ (62 : Int32) = 47 by decide)]
  rw [if_neg (show ¬ (62 : Int32) = 48 by decide)]
  rw [if_neg (show ¬ (62 : Int32) = 49 by decide)]
  rw [if_neg (show ¬ (62 : Int32) = 50 by decide)]
  rw [if_neg (show ¬ (62 : Int32) = 51 by decide)]
  rw [if_neg (show ¬ (62 : Int32) = 52 by decide)]
  rw [if_neg (show ¬ (62 : Int32) = 53 by decide)]
  rw [if_neg (show ¬ (62 : Int32) = 54 by decide)]
  rw [if_neg (show ¬ (62 : Int32) = 55 by decide)]
  rw [if_neg (show ¬ (62 : Int32) = 56 by decide)]
  rw [if_neg (show ¬ (62 : Int32) = 57 by decide)]
  rw [if_neg (show ¬ (62 : Int32) = 58 by decide)]
  rw [if_neg (show ¬ (62 : Int32) = 59 by decide)]
  rw [if_neg (show ¬ (62 : Int32) = 60 by decide)]
  rw [if_neg (show ¬ (62 : Int32) = 61 by decide)]
  rw [if_pos rfl]
end
