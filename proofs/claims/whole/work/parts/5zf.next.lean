/-! ===== the reference's next token ===== -/
def ntT (N : Nat) (g : Hp) : Option Hp :=
  (f156 N (hI g 0 8) g).bind fun q11 =>
  if 0 ≤ q11 then (  if (f158 q11) = 0 then (  if (f157 q11) = 0 then (  bnd (uI g 0 8 ((hI g 0 8) + (1 : Int32))) fun h15 =>
  if q11 = (60 : Int32) then (f159_b164 N q11 h15) else (  if q11 = (62 : Int32) then (f159_b164 N q11 h15) else (  if q11 = (61 : Int32) then (f159_b164 N q11 h15) else (  if q11 = (35 : Int32) then (f159_b164 N q11 h15) else (  if q11 = (43 : Int32) then (f159_b164 N q11 h15) else (  if q11 = (45 : Int32) then (f159_b164 N q11 h15) else (  if q11 = (42 : Int32) then (f159_b164 N q11 h15) else (  if q11 = (47 : Int32) then (f159_b164 N q11 h15) else (  if q11 = (40 : Int32) then (f159_b164 N q11 h15) else (  if q11 = (41 : Int32) then (f159_b164 N q11 h15) else (  if q11 = (59 : Int32) then (f159_b164 N q11 h15) else (  f159_b167 N q11 (0 : Int32) h15)))))))))))) else (  bnd (uI g 0 10 (2 : Int32)) fun h36 =>
  bnd (uL h36 0 12 (0 : Int64)) fun h37 =>
  (lp (f159_l82 N) N h37).bind fun q44 =>
    if ((hI q44.2 0 8) - (hI q44.2 0 9)) ≤ (7 : Int32) then (  some q44.2) else (  bnd (uL q44.2 0 12 (0 : Int64)) fun h46 =>
    some h46))) else (  bnd (uI g 0 10 (1 : Int32)) fun h47 =>
  bnd (uI h47 0 11 (0 : Int32)) fun h48 =>
  (lp (f159_l43 N) N h48).bind fun q55 =>
    some q55.2)) else (  bnd (uI g 0 10 (0 : Int32)) fun h56 =>
    some h56)
theorem f159_e {N : Nat} {h : Hp} : f159 N h = (f156 N (hI h 0 8) h).bind fun q1 => if q1 = (32 : Int32) then (bnd (uI h 0 8 ((hI h 0 8) + (1 : Int32))) fun h3 => (lp (f159_l0 N) N h3).bind fun q9 => bnd (uI q9.2 0 9 (hI q9.2 0 8)) fun h10 => ntT N h10) else ((f156 N (hI h 0 8) h).bind fun q57 => if q57 = (10 : Int32) then (bnd (uI h 0 8 ((hI h 0 8) + (1 : Int32))) fun h85 => (lp (f159_l0 N) N h85).bind fun q86 => bnd (uI q86.2 0 9 (hI q86.2 0 8)) fun h87 => ntT N h87) else (bnd (uI h 0 9 (hI h 0 8)) fun h59 => ntT N h59)) := by
  unfold f159 ntT
  rfl
def hs (f : Nat → Nat) : Nat → Nat
  | 0 => 0
  | m + 1 => hs f m * 256 + f m
theorem hs_inj : ∀ (m m' : Nat) (f g : Nat → Nat), (∀ j, j < m → 1 ≤ f j ∧ f j < 256) → (∀ j, j < m' → 1 ≤ g j ∧ g j < 256) → hs f m = hs g m' → m = m' ∧ ∀ j, j < m → f j = g j
  | 0, 0, f, g, _, _, _ => ⟨rfl, fun _ z => by omega⟩
  | 0, m' + 1, f, g, _, hg, e => by
    have := hg m' (by omega)
    have e' : 0 = hs g m' * 256 + g m' := e
    omega
  | m + 1, 0, f, g, hf, _, e => by
    have := hf m (by omega)
    have e' : hs f m * 256 + f m = 0 := e
    omega
  | m + 1, m' + 1, f, g, hf, hg, e => by
    have h1 := hf m (by omega)
    have h2 := hg m' (by omega)
    have e' : hs f m * 256 + f m = hs g m' * 256 + g m' := e
    obtain ⟨r1, r2⟩ := hs_inj m m' f g (fun j hj => hf j (by omega)) (fun j hj => hg j (by omega)) (by omega)
    subst r1
    refine ⟨rfl, fun j hj => ?_⟩
    by_cases c : j = m
    · subst c; omega
    · exact r2 j (by omega)
theorem hs_lt (f : Nat → Nat) : ∀ m, (∀ j, j < m → f j < 256) → hs f m < 256 ^ m
  | 0, _ => by show 0 < 1; omega
  | m + 1, h => by
    have h1 := hs_lt f m (fun j hj => h j (by omega))
    have h2 := h m (by omega)
    show hs f m * 256 + f m < 256 ^ m * 256
    omega
theorem hs_56 {f : Nat → Nat} {m : Nat} (hm : m ≤ 7) (h : ∀ j, j < m → f j < 256) : hs f m < 72057594037927936 := by
  have h1 := hs_lt f m h
  have h2 : 256 ^ m ≤ 256 ^ 7 := Nat.pow_le_pow_right (by omega) hm
  have h3 : 256 ^ 7 = 72057594037927936 := by decide
  omega
theorem lor_w {v c : Nat} (hv : v < 281474976710656) (hc : c < 256) : lshl (lN v) (8 : Int32) ||| Int32.toInt64 (nI c) = lN (v * 256 + c) := by
  have ec : Int32.toInt64 (nI c) = lN c := nI_l (by omega)
  have es : ((8 : Int32).toInt64 &&& 63) = lN 8 := by decide
  rw [ec]
  unfold lshl
  rw [es]
  refine Int64.toBitVec_inj.1 ?_
  rw [Int64.toBitVec_or, Int64.toBitVec_shiftLeft]
  refine BitVec.eq_of_toNat_eq ?_
  have e8 : ((lN 8).toBitVec.smod 64).toNat = 8 := by decide
  have t : ∀ x : Nat, x < 18446744073709551616 → (lN x).toBitVec.toNat = x := fun x hx => Nat.mod_eq_of_lt hx
  rw [BitVec.toNat_or]
  show ((lN v).toBitVec <<< ((lN 8).toBitVec.smod 64).toNat).toNat ||| (lN c).toBitVec.toNat = _
  rw [e8, BitVec.toNat_shiftLeft, t v (by omega), t c (by omega), t (v * 256 + c) (by omega), Nat.shiftLeft_eq, Nat.mod_eq_of_lt (by omega)]
  have := Nat.shiftLeft_add_eq_or_of_lt (b := c) (i := 8) (by omega) v
  rw [Nat.shiftLeft_eq] at this
  rw [← this]
def wcode (k : Nat) : Int64 := lN (hs (wc k) (slen k))
theorem lN_inj {a b : Nat} (ha : a < 9223372036854775808) (hb : b < 9223372036854775808) (h : lN a = lN b) : a = b := by
  have := congrArg Int64.toInt h
  rw [pk_lT (by omega), pk_lT (by omega)] at this
  omega
/-- the byte of a sign's kind, as the reference keeps it -/
def sgb (k : Nat) : Nat := if k = 14 then 43 else if k = 15 then 45 else if k = 16 then 42 else if k = 17 then 47 else if k = 18 then 60 else if k = 19 then 4 else if k = 20 then 62 else if k = 21 then 5 else if k = 22 then 61 else if k = 23 then 35 else if k = 24 then 40 else if k = 25 then 41 else 59
/-- the reference's token is that of kind k -/
def Tk (m : Hp) (k : Nat) : Prop := (k = 27 ∧ hI m 0 10 = 0) ∨ (100 ≤ k ∧ k ≤ 10100 ∧ hI m 0 10 = 1 ∧ 0 ≤ (hI m 0 11).toInt ∧ (k ≤ 10099 → hI m 0 11 = nI (k - 100)) ∧ (k = 10100 → 9999 < (hI m 0 11).toInt)) ∨ (k < 14 ∧ hI m 0 10 = 2 ∧ hL m 0 12 = wcode k) ∨ (k = 28 ∧ (hI m 0 10 = 3 ∨ (hI m 0 10 = 2 ∧ ∀ k', k' < 14 → hL m 0 12 ≠ wcode k'))) ∨ (14 ≤ k ∧ k ≤ 26 ∧ hI m 0 10 = nI (sgb k))
def ByM (h : Hp) (b : Nat → Nat) (n : Nat) : Prop := hI h 0 5 = nI n ∧ n ≤ 300 ∧ ∀ j, j < n → b j < 256 ∧ hI h 4 j = nI (b j)
/-- only the token of the reference changes -/
def FN (h h' : Hp) : Prop := (∀ c, c ≠ 0 → hI h' c = hI h c) ∧ ∀ j, ¬ (8 ≤ j ∧ j ≤ 11) → hI h' 0 j = hI h 0 j
theorem FN.rfl' {h : Hp} : FN h h := ⟨fun _ _ => rfl, fun _ _ => rfl⟩
theorem FN.trans {h h1 h2 : Hp} (x : FN h h1) (y : FN h1 h2) : FN h h2 := ⟨fun c z => (y.1 c z).trans (x.1 c z), fun c z => (y.2 c z).trans (x.2 c z)⟩
theorem FN.u {h : Hp} {j : Nat} {v : Int32} (hj : 8 ≤ j ∧ j ≤ 11) : FN h (uI h 0 j v) := ⟨fun c z => hI_uI_ne z, fun j' z => by rw [hI_uI_eq, pu_ne (by omega)]⟩
theorem FN.l {h : Hp} {j : Nat} {v : Int64} : FN h (uL h 0 j v) := ⟨fun c z => by rw [hI_uL], fun j' z => by rw [hI_uL]⟩
theorem ByM_n {h h' : Hp} {b : Nat → Nat} {n : Nat} (x : ByM h b n) (f : FN h h') : ByM h' b n := ⟨(f.2 5 (by omega)).trans x.1, x.2.1, fun j hj => ⟨(x.2.2 j hj).1, by rw [f.1 4 (by omega)]; exact (x.2.2 j hj).2⟩⟩
theorem m_L : ∀ x, x < 256 → f157 (nI x) = if isL x = true then 1 else 0 := by decide +kernel
theorem m_D : ∀ x, x < 256 → f158 (nI x) = if isD x = true then 1 else 0 := by decide +kernel
section
variable {N n : Nat} {b : Nat → Nat} {h : Hp}
theorem byte_w {p : Nat} (by' : ByM h b n) (hp : p ≤ n) : f156 N (nI p) h = some (if p < n then nI (b p) else -1) := by
  have n3 := by'.2.1
  unfold f156
  rw [by'.1]
  by_cases c : p < n
  · rw [if_neg (by rw [ti_le, ti_nI (by omega), ti_nI (by omega)]; omega), if_pos c, gd_pos (nbk (by omega) (by omega)), nix (by omega), (by'.2.2 p c).2]
  · rw [if_pos (by rw [ti_le, ti_nI (by omega), ti_nI (by omega)]; omega), if_neg c]
theorem blank_m {x : Nat} (hx : x < 256) : (nI x = 32 ∨ nI x = 10) ↔ isB x = true := by
  have e1 : nI x = 32 ↔ x = 32 := ⟨fun z => nI_inj (by omega) (by omega) (show nI x = nI 32 from z), fun z => by rw [z]; rfl⟩
  have e2 : nI x = 10 ↔ x = 10 := ⟨fun z => nI_inj (by omega) (by omega) (show nI x = nI 10 from z), fun z => by rw [z]; rfl⟩
  rw [e1, e2]
  unfold isB
  simp
/-- up to the token's start -/
theorem skipM_l {p s : Nat} (hN : 1000 ≤ N) (by' : ByM h b n) (hp : hI h 0 8 = nI p) (hps : p ≤ s) (hsn : s ≤ n) (bl : ∀ j, p ≤ j → j < s → isB (b j) = true) (nb : s < n → ¬ isB (b s) = true) : Wp (lp (f159_l0 N) N h) fun q => FN h q.2 ∧ hI q.2 0 8 = nI s := by
  have n3 := by'.2.1
  refine Wp_lp (fun m u => ∃ j, FN h u ∧ hI u 0 8 = nI j ∧ p ≤ j ∧ j + m = s) ?_ N (s - p) _ (by omega) ⟨p, FN.rfl', hp, by omega, by omega⟩
  rintro m u ⟨j, fu, hj, j1, j2⟩
  have bu := ByM_n by' fu
  unfold f159_l0
  rw [hj, byte_w bu (by omega), Option.bind_some]
  by_cases c : j < s
  · rw [if_pos (show j < n by omega)]
    obtain ⟨b1, b2⟩ := bu.2.2 j (by omega)
    have go : Wp (f159_b12 N u) (fun q => (q.1 = 0 ∧ ∃ m', m' < m ∧ ∃ j, FN h q.2 ∧ hI q.2 0 8 = nI j ∧ p ≤ j ∧ j + m' = s)) := by
      unfold f159_b12
      rw [Wp_bnd, Wp_some, hj, nI_1]
      exact ⟨rfl, m - 1, by omega, j + 1, fu.trans (FN.u (by omega)), by rw [hI_uI_eq, pu_eq], by omega, by omega⟩
    rcases (blank_m b1).2 (bl j j1 c) with z | z
    · rw [if_pos z]
      exact Wp_mono go (fun q hq => Or.inl hq)
    · by_cases z' : nI (b j) = 32
      · rw [if_pos z']
        exact Wp_mono go (fun q hq => Or.inl hq)
      · rw [if_neg z', Option.bind_some, if_pos z]
        exact Wp_mono go (fun q hq => Or.inl hq)
  · have ej : j = s := by omega
    subst ej
    by_cases cn : j < n
    · rw [if_pos cn]
      obtain ⟨b1, b2⟩ := bu.2.2 j cn
      have no : ¬ (nI (b j) = 32 ∨ nI (b j) = 10) := fun z => nb cn ((blank_m b1).1 z)
      rw [if_neg (fun z => no (Or.inl z)), Option.bind_some, if_neg (fun z => no (Or.inr z)), Wp_some]
      exact Or.inr ⟨0, rfl, fu, hj⟩
    · rw [if_neg cn, if_neg (by decide), Option.bind_some, if_neg (by decide), Wp_some]
      exact Or.inr ⟨0, rfl, fu, hj⟩
/-- the letters -/
theorem letM_w {s q : Nat} (hN : 1000 ≤ N) (by' : ByM h b n) (h8 : hI h 0 8 = nI s) (h9 : hI h 0 9 = nI s) (h12 : hL h 0 12 = 0) (hsq : s ≤ q) (hqn : q ≤ n) (bl : ∀ j, s ≤ j → j < q → isL (b j) = true) (nb : q < n → ¬ isL (b q) = true) : Wp (lp (f159_l82 N) N h) fun x => FN h x.2 ∧ hI x.2 0 8 = nI q ∧ hI x.2 0 9 = nI s ∧ hI x.2 0 10 = hI h 0 10 ∧ (q - s ≤ 7 → hL x.2 0 12 = lN (hs (fun j => b (s + j)) (q - s))) := by
  have n3 := by'.2.1
  refine Wp_lp (fun m u => ∃ j, FN h u ∧ hI u 0 8 = nI j ∧ s ≤ j ∧ j + m = q ∧ hI u 0 9 = nI s ∧ hI u 0 10 = hI h 0 10 ∧ (j - s ≤ 7 → hL u 0 12 = lN (hs (fun j => b (s + j)) (j - s)))) ?_ N (q - s) _ (by omega) ⟨s, FN.rfl', h8, by omega, by omega, h9, rfl, fun _ => by rw [show s - s = 0 by omega]; exact h12⟩
  rintro m u ⟨j, fu, hj, j1, j2, u9, u10, hl⟩
  have bu := ByM_n by' fu
  unfold f159_l82
  rw [hj, byte_w bu (by omega), Option.bind_some]
  by_cases c : j < q
  · rw [if_pos (show j < n by omega)]
    obtain ⟨b1, b2⟩ := bu.2.2 j (by omega)
    rw [m_L _ b1, if_pos (bl j j1 c), if_neg (by decide), u9, pk_sub j1]
    unfold f159_b107
    by_cases c7 : 7 ≤ j - s
    · rw [if_pos (by rw [ti_le, ti_nI (by omega)]; show (7 : Int) ≤ _; omega), Wp_bnd, Wp_some, hj, nI_1]
      exact Or.inl ⟨rfl, m - 1, by omega, j + 1, fu.trans (FN.u (by omega)), by rw [hI_uI_eq, pu_eq], by omega, by omega, by rw [hI_uI_eq, pu_ne (by omega)]; exact u9, by rw [hI_uI_eq, pu_ne (by omega)]; exact u10, fun z => by omega⟩
    · rw [if_neg (by rw [ti_le, ti_nI (by omega)]; show ¬ (7 : Int) ≤ _; omega), Option.bind_some, Wp_bnd, Wp_bnd, Wp_some]
      have hlt : hs (fun j => b (s + j)) (j - s) < 281474976710656 := by
        have h1 := hs_lt (fun j => b (s + j)) (j - s) (fun i hi => (bu.2.2 (s + i) (by omega)).1)
        have h2 : 256 ^ (j - s) ≤ 256 ^ 6 := Nat.pow_le_pow_right (by omega) (by omega)
        have h3 : 256 ^ 6 = 281474976710656 := by decide
        omega
      refine Or.inl ⟨rfl, m - 1, by omega, j + 1, fu.trans (FN.l.trans (FN.u (by omega))), ?_, by omega, by omega, ?_, ?_, fun _ => ?_⟩
      · rw [hI_uI_eq, pu_eq, hI_uL, hj, nI_1]
      · rw [hI_uI_eq, pu_ne (by omega), hI_uL]; exact u9
      · rw [hI_uI_eq, pu_ne (by omega), hI_uL]; exact u10
      · rw [hL_uI, hL_uL_eq, puL_eq, hl (by omega), lor_w hlt b1, show j + 1 - s = (j - s) + 1 by omega]
        show _ = lN (hs (fun j => b (s + j)) (j - s) * 256 + b (s + (j - s)))
        rw [show s + (j - s) = j by omega]
  · have ej : j = q := by omega
    subst ej
    have fin : Wp (some (1, u) : Option (Nat × Hp)) (fun q => (q.1 = 0 ∧ ∃ m', m' < m ∧ ∃ j', FN h q.2 ∧ hI q.2 0 8 = nI j' ∧ s ≤ j' ∧ j' + m' = j ∧ hI q.2 0 9 = nI s ∧ hI q.2 0 10 = hI h 0 10 ∧ (j' - s ≤ 7 → hL q.2 0 12 = lN (hs (fun j => b (s + j)) (j' - s)))) ∨ ∃ e, q.1 = e + 1 ∧ FN h (e, q.2).2 ∧ hI (e, q.2).2 0 8 = nI j ∧ hI (e, q.2).2 0 9 = nI s ∧ hI (e, q.2).2 0 10 = hI h 0 10 ∧ (j - s ≤ 7 → hL (e, q.2).2 0 12 = lN (hs (fun j => b (s + j)) (j - s)))) := by
      rw [Wp_some]
      exact Or.inr ⟨0, rfl, fu, hj, u9, u10, hl⟩
    by_cases cn : j < n
    · rw [if_pos cn]
      obtain ⟨b1, b2⟩ := bu.2.2 j cn
      rw [m_L _ b1, if_neg (nb cn), if_pos rfl]
      exact fin
    · rw [if_neg cn, if_pos (by decide)]
      exact fin
/-- the digits -/
theorem numM_w {s q : Nat} (hN : 1000 ≤ N) (by' : ByM h b n) (h8 : hI h 0 8 = nI s) (h11 : hI h 0 11 = 0) (hsq : s ≤ q) (hqn : q ≤ n) (bl : ∀ j, s ≤ j → j < q → isD (b j) = true) (nb : q < n → ¬ isD (b q) = true) : Wp (lp (f159_l43 N) N h) fun x => FN h x.2 ∧ hI x.2 0 8 = nI q ∧ hI x.2 0 9 = hI h 0 9 ∧ hI x.2 0 10 = hI h 0 10 ∧ ((dv b s (q - s) ≤ 9999 ∧ hI x.2 0 11 = nI (dv b s (q - s))) ∨ (dv b s (q - s) = 10000 ∧ 9999 < (hI x.2 0 11).toInt)) := by
  have n3 := by'.2.1
  refine Wp_lp (fun m u => ∃ j v, FN h u ∧ hI u 0 8 = nI j ∧ s ≤ j ∧ j + m = q ∧ hI u 0 9 = hI h 0 9 ∧ hI u 0 10 = hI h 0 10 ∧ hI u 0 11 = nI v ∧ v ≤ 999999 ∧ ((dv b s (j - s) ≤ 9999 ∧ v = dv b s (j - s)) ∨ (dv b s (j - s) = 10000 ∧ 10000 ≤ v))) ?_ N (q - s) _ (by omega) ⟨s, 0, FN.rfl', h8, by omega, by omega, rfl, rfl, h11, by omega, Or.inl (by rw [show s - s = 0 by omega]; exact ⟨by show 0 ≤ 9999; omega, rfl⟩)⟩
  rintro m u ⟨j, v, fu, hj, j1, j2, u9, u10, hv, v1, v2⟩
  have bu := ByM_n by' fu
  unfold f159_l43
  rw [hj, byte_w bu (by omega), Option.bind_some]
  by_cases c : j < q
  · rw [if_pos (show j < n by omega)]
    obtain ⟨b1, b2⟩ := bu.2.2 j (by omega)
    have cd := bl j j1 c
    have hb : 48 ≤ b j ∧ b j ≤ 57 := by
      unfold isD at cd
      simp at cd
      exact cd
    rw [m_D _ b1, if_pos cd, if_neg (by decide), hv]
    have ed : dv b s (j + 1 - s) = if dv b s (j - s) * 10 + (b j - 48) ≤ 10000 then dv b s (j - s) * 10 + (b j - 48) else 10000 := by
      rw [show j + 1 - s = (j - s) + 1 by omega]
      show (if dv b s (j - s) * 10 + (b (s + (j - s)) - 48) ≤ 10000 then _ else _) = _
      rw [show s + (j - s) = j by omega]
    unfold f159_b66
    by_cases c5 : 100000 ≤ v
    · rw [if_pos (by rw [ti_le, ti_nI (by omega)]; show (100000 : Int) ≤ _; omega), Wp_bnd, Wp_some, hj, nI_1]
      refine Or.inl ⟨rfl, m - 1, by omega, j + 1, v, fu.trans (FN.u (by omega)), by rw [hI_uI_eq, pu_eq], by omega, by omega, by rw [hI_uI_eq, pu_ne (by omega)]; exact u9, by rw [hI_uI_eq, pu_ne (by omega)]; exact u10, by rw [hI_uI_eq, pu_ne (by omega)]; exact hv, v1, Or.inr ⟨?_, by omega⟩⟩
      rw [ed]
      by_cases cc : dv b s (j - s) * 10 + (b j - 48) ≤ 10000
      · omega
      · rw [if_neg cc]
    · have e1 : (10 : Int32) * nI v + nI (b j) - 48 = nI (v * 10 + (b j - 48)) := by
        show nI 10 * nI v + nI (b j) - nI 48 = _
        rw [pk_mul, nI_add, pk_sub (by omega), show 10 * v + b j - 48 = v * 10 + (b j - 48) by omega]
      rw [if_neg (by rw [ti_le, ti_nI (by omega)]; show ¬ (100000 : Int) ≤ _; omega), Option.bind_some, Wp_bnd, Wp_bnd, Wp_some, e1]
      refine Or.inl ⟨rfl, m - 1, by omega, j + 1, v * 10 + (b j - 48), fu.trans ((FN.u (by omega)).trans (FN.u (by omega))), ?_, by omega, by omega, ?_, ?_, ?_, by omega, ?_⟩
      · rw [hI_uI_eq, pu_eq, hI_uI_eq, pu_ne (by omega), hj, nI_1]
      · rw [hI_uI_eq, pu_ne (by omega), hI_uI_eq, pu_ne (by omega)]; exact u9
      · rw [hI_uI_eq, pu_ne (by omega), hI_uI_eq, pu_ne (by omega)]; exact u10
      · rw [hI_uI_eq, pu_ne (by omega), hI_uI_eq, pu_eq]
      · rw [ed]
        by_cases cc : dv b s (j - s) * 10 + (b j - 48) ≤ 10000
        · rw [if_pos cc]
          rcases v2 with ⟨w1, w2⟩ | ⟨w1, w2⟩
          · subst w2
            by_cases c4 : dv b s (j - s) * 10 + (b j - 48) ≤ 9999
            · exact Or.inl ⟨c4, rfl⟩
            · exact Or.inr ⟨by omega, by omega⟩
          · omega
        · rw [if_neg cc]
          exact Or.inr ⟨rfl, by omega⟩
  · have ej : j = q := by omega
    subst ej
    have fin : Wp (some (1, u) : Option (Nat × Hp)) (fun q => (q.1 = 0 ∧ ∃ m', m' < m ∧ ∃ j' v, FN h q.2 ∧ hI q.2 0 8 = nI j' ∧ s ≤ j' ∧ j' + m' = j ∧ hI q.2 0 9 = hI h 0 9 ∧ hI q.2 0 10 = hI h 0 10 ∧ hI q.2 0 11 = nI v ∧ v ≤ 999999 ∧ ((dv b s (j' - s) ≤ 9999 ∧ v = dv b s (j' - s)) ∨ (dv b s (j' - s) = 10000 ∧ 10000 ≤ v))) ∨ ∃ e, q.1 = e + 1 ∧ FN h (e, q.2).2 ∧ hI (e, q.2).2 0 8 = nI j ∧ hI (e, q.2).2 0 9 = hI h 0 9 ∧ hI (e, q.2).2 0 10 = hI h 0 10 ∧ ((dv b s (j - s) ≤ 9999 ∧ hI (e, q.2).2 0 11 = nI (dv b s (j - s))) ∨ (dv b s (j - s) = 10000 ∧ 9999 < (hI (e, q.2).2 0 11).toInt))) := by
      rw [Wp_some]
      refine Or.inr ⟨0, rfl, fu, hj, u9, u10, ?_⟩
      dsimp only
      rw [hv]
      rcases v2 with ⟨w1, w2⟩ | ⟨w1, w2⟩
      · exact Or.inl ⟨w1, by rw [w2]⟩
      · exact Or.inr ⟨w1, by rw [ti_nI (by omega)]; omega⟩
    by_cases cn : j < n
    · rw [if_pos cn]
      obtain ⟨b1, b2⟩ := bu.2.2 j cn
      rw [m_D _ b1, if_neg (nb cn), if_pos rfl]
      exact fin
    · rw [if_neg cn, if_pos (by decide)]
      exact fin
end
