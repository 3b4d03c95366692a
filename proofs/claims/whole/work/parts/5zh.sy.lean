/-! ===== the pile of the reference ===== -/
theorem tk_sg {m : Hp} {k c : Nat} (t : Tk m k) (h1 : 14 ≤ c) (h2 : c ≤ 26) : hI m 0 10 = nI (sgb c) ↔ k = c := by
  have k1 : ∀ c, c < 27 → 14 ≤ c → 4 ≤ sgb c ∧ sgb c < 256 := by decide
  have k2 : ∀ c, c < 27 → 14 ≤ c → ∀ d, d < 27 → 14 ≤ d → sgb c = sgb d → c = d := by decide
  obtain ⟨s1, s2⟩ := k1 c (by omega) h1
  have ne : ∀ v, v < 4 → hI m 0 10 = nI v → ¬ hI m 0 10 = nI (sgb c) := fun v hv e z => by
    rw [e] at z
    have := nI_inj (by omega) (by omega) z
    omega
  rcases t with ⟨t1, t2⟩ | ⟨t1, t2, t3, _⟩ | ⟨t1, t2, _⟩ | ⟨t1, t2⟩ | ⟨t1, t2, t3⟩
  · exact ⟨fun z => absurd z (ne 0 (by omega) t2), fun z => by omega⟩
  · exact ⟨fun z => absurd z (ne 1 (by omega) t3), fun z => by omega⟩
  · exact ⟨fun z => absurd z (ne 2 (by omega) t2), fun z => by omega⟩
  · refine ⟨fun z => ?_, fun z => by omega⟩
    rcases t2 with t2 | ⟨t2, _⟩
    · exact absurd z (ne 3 (by omega) t2)
    · exact absurd z (ne 2 (by omega) t2)
  · constructor
    · intro z
      rw [t3] at z
      have b := k1 k (by omega) t1
      exact k2 k (by omega) t1 c (by omega) h1 (nI_inj (by omega) (by omega) z)
    · intro z; rw [t3, z]
theorem tk_lo {m : Hp} {k : Nat} (t : Tk m k) : (hI m 0 10 = 0 ↔ k = 27) ∧ (hI m 0 10 = 1 ↔ 100 ≤ k) ∧ (hI m 0 10 = 2 → k < 14 ∨ k = 28) ∧ (k < 14 → hI m 0 10 = 2) := by
  have k1 : ∀ c, c < 27 → 14 ≤ c → 4 ≤ sgb c ∧ sgb c < 256 := by decide
  rcases t with ⟨t1, t2⟩ | ⟨t1, t2, t3, _⟩ | ⟨t1, t2, _⟩ | ⟨t1, t2⟩ | ⟨t1, t2, t3⟩
  · rw [t2]; refine ⟨⟨fun _ => t1, fun _ => rfl⟩, ⟨fun z => absurd z (by decide), fun z => by omega⟩, fun z => absurd z (by decide), fun z => by omega⟩
  · rw [t3]; refine ⟨⟨fun z => absurd z (by decide), fun z => by omega⟩, ⟨fun _ => t1, fun _ => rfl⟩, fun z => absurd z (by decide), fun z => by omega⟩
  · rw [t2]; refine ⟨⟨fun z => absurd z (by decide), fun z => by omega⟩, ⟨fun z => absurd z (by decide), fun z => by omega⟩, fun _ => Or.inl t1, fun _ => rfl⟩
  · rcases t2 with t2 | ⟨t2, _⟩
    · rw [t2]; refine ⟨⟨fun z => absurd z (by decide), fun z => by omega⟩, ⟨fun z => absurd z (by decide), fun z => by omega⟩, fun z => absurd z (by decide), fun z => by omega⟩
    · rw [t2]; refine ⟨⟨fun z => absurd z (by decide), fun z => by omega⟩, ⟨fun z => absurd z (by decide), fun z => by omega⟩, fun _ => Or.inr t1, fun _ => by rfl⟩
  · obtain ⟨s1, s2⟩ := k1 k (by omega) t1
    have ne : ∀ v, v < 4 → ¬ hI m 0 10 = nI v := fun v hv e => by
      rw [t3] at e
      have := nI_inj (by omega) (by omega) e
      omega
    exact ⟨⟨fun z => absurd z (ne 0 (by omega)), fun z => by omega⟩, ⟨fun z => absurd z (ne 1 (by omega)), fun z => by omega⟩, fun z => absurd z (ne 2 (by omega)), fun z => by omega⟩
theorem wcode_ne : ∀ k, k < 14 → ∀ k', k' < 14 → (lg_cmp (wcode k) (wcode k') = 0 ↔ k = k') := by decide +kernel
/-- the word of the token -/
theorem tk_wd {m : Hp} {k j : Nat} (t : Tk m k) (hj : j < 14) (h2 : hI m 0 10 = 2) : lg_cmp (hL m 0 12) (wcode j) = 0 ↔ k = j := by
  rcases t with ⟨t1, t2⟩ | ⟨t1, t2, t3, _⟩ | ⟨t1, t2, t3⟩ | ⟨t1, t2⟩ | ⟨t1, t2, t3⟩
  · rw [t2] at h2; exact absurd h2 (by decide)
  · rw [t3] at h2; exact absurd h2 (by decide)
  · rw [t3]; exact wcode_ne k t1 j hj
  · rcases t2 with t2 | ⟨t2, t3⟩
    · rw [t2] at h2; exact absurd h2 (by decide)
    · rw [lc_0, ← tl_eq]
      exact ⟨fun z => absurd z (t3 j hj), fun z => by omega⟩
  · have k1 : ∀ c, c < 27 → 14 ≤ c → 4 ≤ sgb c ∧ sgb c < 256 := by decide
    have b := k1 k (by omega) t1
    rw [t3] at h2
    have := nI_inj (by omega) (by omega) (show nI (sgb k) = nI 2 from h2)
    omega
section
variable {N : Nat} {m : Hp} {k : Nat}
theorem isw_w {j : Nat} {p : Int64} (t : Tk m k) (hj : j < 14) (hp : p = wcode j) : f164 N p m = some (if k = j then 1 else 0) := by
  unfold f164 f164_b11
  by_cases h2 : hI m 0 10 = 2
  · rw [if_pos h2, hp]
    by_cases c : k = j
    · rw [if_pos ((tk_wd t hj h2).2 c), if_pos c]
    · rw [if_neg (fun z => c ((tk_wd t hj h2).1 z)), if_neg c]
  · rw [if_neg h2, if_neg (fun z => h2 ((tk_lo t).2.2.2 (by omega)))]
theorem nm_w (t : Tk m k) : f169 N m = some (if k < 8 then nI k else -1) := by
  unfold f169
  by_cases h2 : hI m 0 10 = 2
  · rw [if_pos h2]
    have e : ∀ j (p : Int64), j < 14 → p = wcode j → (lg_cmp (hL m 0 12) p = 0 ↔ k = j) := fun j p hj hp => by rw [hp]; exact tk_wd t hj h2
    have step : ∀ (j : Nat) (p : Int64) (v : Int32) (r : Option Int32), j < 8 → p = wcode j → v = nI j → (¬ k = j → r = some (if k < 8 then nI k else -1)) → (if lg_cmp (hL m 0 12) p = 0 then some v else r) = some (if k < 8 then nI k else -1) := fun j p v r hj hp hv hr => by
      by_cases c : k = j
      · rw [if_pos ((e j p (by omega) hp).2 c), if_pos (by omega), hv, c]
      · rw [if_neg (fun z => c ((e j p (by omega) hp).1 z))]; exact hr c
    refine step 0 _ _ _ (by omega) (by decide) rfl (fun c0 => ?_)
    refine step 1 _ _ _ (by omega) (by decide) rfl (fun c1 => ?_)
    refine step 2 _ _ _ (by omega) (by decide) rfl (fun c2 => ?_)
    refine step 3 _ _ _ (by omega) (by decide) rfl (fun c3 => ?_)
    refine step 4 _ _ _ (by omega) (by decide) rfl (fun c4 => ?_)
    refine step 5 _ _ _ (by omega) (by decide) rfl (fun c5 => ?_)
    refine step 6 _ _ _ (by omega) (by decide) rfl (fun c6 => ?_)
    refine step 7 _ _ _ (by omega) (by decide) rfl (fun c7 => ?_)
    rw [if_neg (by omega)]
  · rw [if_neg h2, if_neg (fun z => h2 ((tk_lo t).2.2.2 (by omega)))]
end
def okB (so k : Nat) : Bool := k ≤ 1 || (so == 0 && k < 7) || (so == 1 && k == 7) || (so == 2 && k == 5)
theorem bar_w {N : Nat} {m : Hp} {so k : Nat} (hs : hI m 0 21 = nI so) (h3 : so < 3) (hk : k < 8) : f170 N (nI k) m = some (if okB so k = true then 0 else 1) := by
  unfold f170 f170_b21 f170_b23
  rw [hs]
  have : ∀ so, so < 3 → ∀ k, k < 8 → (if nI k ≤ (1 : Int32) then some (0 : Int32) else (if nI so = 0 then (if nI k = (7 : Int32) then some 1 else some 0) else (if nI so = (1 : Int32) then (if nI k = (7 : Int32) then some 0 else some 1) else (if nI k = (5 : Int32) then some 0 else some 1)))) = some (if okB so k = true then 0 else 1) := by decide
  exact this so h3 k hk
/-! lists -/
def clsO (t : Nat) : Nat := if t = 2 then 29 else t + 11
theorem mo_cls {t : Nat} (h : t = 2 ∨ t = 3 ∨ t = 4 ∨ t = 5 ∨ t = 6) : mo (clsO t) = (t, 0) := by
  rcases h with rfl | rfl | rfl | rfl | rfl <;> rfl
def syWh : List Nat → Nat → List Nat → Nat × List Nat × List Nat
  | [], d, o => (d, o, [])
  | x :: p, d, o => if x = 2 then syWh p (d - 1) (o ++ [29]) else (d, o, x :: p)
def sySt (y : Nat) : List Nat → List Nat → List Nat × List Nat
  | [], o => (o, [])
  | x :: p, o => if x < 40 ∧ y ≤ x then sySt y p (o ++ [clsO x]) else (o, x :: p)
/-- how many of the pile are entries (brackets, minuses), and how many are operations -/
def cN : List Nat → Nat
  | [] => 0
  | x :: p => cN p + if x = 2 ∨ x = 40 then 1 else 0
def eN : List Nat → Nat
  | [] => 0
  | x :: p => eN p + if x = 40 then 0 else 1
def hd0 (p : List Nat) : Prop := p = [] ∨ ∃ q, p = 40 :: q
def hd1 (p : List Nat) : Prop := hd0 p ∨ ∃ x q, p = x :: q ∧ (x = 3 ∨ x = 4)
def PW : List Nat → Prop
  | [] => True
  | x :: p => PW p ∧ ((x = 2 ∨ x = 40) ∨ ((x = 3 ∨ x = 4) ∧ hd0 p) ∨ ((x = 5 ∨ x = 6) ∧ hd1 p))
theorem PW_len : ∀ p, PW p → p.length ≤ 3 * cN p + 2 ∧ (hd0 p → p.length ≤ 3 * cN p) ∧ (hd1 p → p.length ≤ 3 * cN p + 1)
  | [], _ => ⟨by show 0 ≤ _; omega, fun _ => by show 0 ≤ _; omega, fun _ => by show 0 ≤ _; omega⟩
  | x :: p, ⟨h1, h2⟩ => by
    obtain ⟨i1, i2, i3⟩ := PW_len p h1
    have el : (x :: p).length = p.length + 1 := rfl
    have ec : cN (x :: p) = cN p + if x = 2 ∨ x = 40 then 1 else 0 := rfl
    rcases h2 with h2 | ⟨h2, h3⟩ | ⟨h2, h3⟩
    · rw [if_pos h2] at ec
      exact ⟨by omega, fun _ => by omega, fun _ => by omega⟩
    · rw [if_neg (by omega)] at ec
      have := i2 h3
      refine ⟨by omega, fun z => ?_, fun _ => by omega⟩
      rcases z with z | ⟨q, z⟩
      · cases z
      · cases z; omega
    · rw [if_neg (by omega)] at ec
      have := i3 h3
      refine ⟨by omega, fun z => ?_, fun z => ?_⟩
      · rcases z with z | ⟨q, z⟩
        · cases z
        · cases z; omega
      · rcases z with (z | ⟨q, z⟩) | ⟨y, q, z, z2⟩
        · cases z
        · cases z; omega
        · cases z; omega
theorem syWh_p : ∀ p d o, PW p → cN p ≤ d → PW (syWh p d o).2.2 ∧ cN (syWh p d o).2.2 ≤ (syWh p d o).1 ∧ (syWh p d o).1 ≤ d ∧ (syWh p d o).2.1.length + eN (syWh p d o).2.2 = o.length + eN p ∧ (∀ q, ¬ (syWh p d o).2.2 = 2 :: q)
  | [], d, o, h, hc => ⟨trivial, hc, Nat.le_refl d, rfl, fun q z => by cases z⟩
  | x :: p, d, o, h, hc => by
    by_cases c : x = 2
    · have e : syWh (x :: p) d o = syWh p (d - 1) (o ++ [29]) := by show (if x = 2 then _ else _) = _; rw [if_pos c]
      have ec : cN (x :: p) = cN p + 1 := by show cN p + (if x = 2 ∨ x = 40 then 1 else 0) = _; rw [if_pos (Or.inl c)]
      have ee : eN (x :: p) = eN p + 1 := by show eN p + (if x = 40 then 0 else 1) = _; rw [if_neg (by omega)]
      obtain ⟨i1, i2, i3, i4, i5⟩ := syWh_p p (d - 1) (o ++ [29]) h.1 (by omega)
      rw [e]
      rw [List.length_append] at i4
      have e1 : [29].length = 1 := rfl
      exact ⟨i1, i2, by omega, by omega, i5⟩
    · have e : syWh (x :: p) d o = (d, o, x :: p) := by show (if x = 2 then _ else _) = _; rw [if_neg c]
      rw [e]
      exact ⟨h, hc, Nat.le_refl d, rfl, fun q z => by cases z; exact c rfl⟩
theorem sySt_p (y : Nat) (hy : 3 ≤ y) : ∀ p o, PW p → PW (sySt y p o).2 ∧ cN (sySt y p o).2 = cN p ∧ (sySt y p o).1.length + eN (sySt y p o).2 = o.length + eN p
  | [], o, h => ⟨trivial, rfl, rfl⟩
  | x :: p, o, h => by
    by_cases c : x < 40 ∧ y ≤ x
    · have e : sySt y (x :: p) o = sySt y p (o ++ [clsO x]) := by show (if x < 40 ∧ y ≤ x then _ else _) = _; rw [if_pos c]
      have ec : cN (x :: p) = cN p := by show cN p + (if x = 2 ∨ x = 40 then 1 else 0) = _; rw [if_neg (by omega)]; rfl
      have ee : eN (x :: p) = eN p + 1 := by show eN p + (if x = 40 then 0 else 1) = _; rw [if_neg (by omega)]
      obtain ⟨i1, i2, i3⟩ := sySt_p y hy p (o ++ [clsO x]) h.1
      rw [e, ec, ee]
      rw [List.length_append] at i3
      have e1 : [clsO x].length = 1 := rfl
      exact ⟨i1, i2, by omega⟩
    · have e : sySt y (x :: p) o = (o, x :: p) := by show (if x < 40 ∧ y ≤ x then _ else _) = _; rw [if_neg c]
      rw [e]
      exact ⟨h, rfl, rfl⟩
theorem sySt_0 {y : Nat} (hy : y ≤ 40) {p o : List Nat} (h : hd0 p) : sySt y p o = (o, p) := by
  rcases h with rfl | ⟨q, rfl⟩
  · rfl
  · show (if 40 < 40 ∧ y ≤ 40 then _ else _) = _
    rw [if_neg (by omega)]
/-- settle by 3 comes to a bracket -/
theorem sySt_3 : ∀ p o, PW p → (∀ q, ¬ p = 2 :: q) → hd0 (sySt 3 p o).2
  | [], o, _, _ => Or.inl rfl
  | x :: p, o, h, hn => by
    obtain ⟨h1, h2⟩ := h
    have x2 : x ≠ 2 := fun z => hn p (by rw [z])
    rcases h2 with h2 | ⟨h2, h3⟩ | ⟨h2, h3⟩
    · have : x = 40 := by omega
      subst this
      rw [sySt_0 (by omega) (Or.inr ⟨p, rfl⟩)]
      exact Or.inr ⟨p, rfl⟩
    · have e : sySt 3 (x :: p) o = sySt 3 p (o ++ [clsO x]) := by show (if x < 40 ∧ 3 ≤ x then _ else _) = _; rw [if_pos (by omega)]
      rw [e, sySt_0 (by omega) h3]
      exact h3
    · have e : sySt 3 (x :: p) o = sySt 3 p (o ++ [clsO x]) := by show (if x < 40 ∧ 3 ≤ x then _ else _) = _; rw [if_pos (by omega)]
      rw [e]
      refine sySt_3 p _ h1 (fun q z => ?_)
      rcases h3 with (h3 | ⟨q', h3⟩) | ⟨y, q', h3, h4⟩
      · rw [h3] at z; cases z
      · rw [h3] at z; cases z
      · rw [h3] at z; cases z; omega
theorem sySt_5 : ∀ p o, PW p → (∀ q, ¬ p = 2 :: q) → hd1 (sySt 5 p o).2
  | [], o, _, _ => Or.inl (Or.inl rfl)
  | x :: p, o, h, hn => by
    obtain ⟨h1, h2⟩ := h
    have x2 : x ≠ 2 := fun z => hn p (by rw [z])
    rcases h2 with h2 | ⟨h2, h3⟩ | ⟨h2, h3⟩
    · have : x = 40 := by omega
      subst this
      rw [sySt_0 (by omega) (Or.inr ⟨p, rfl⟩)]
      exact Or.inl (Or.inr ⟨p, rfl⟩)
    · have e : sySt 5 (x :: p) o = (o, x :: p) := by show (if x < 40 ∧ 5 ≤ x then _ else _) = _; rw [if_neg (by omega)]
      rw [e]
      exact Or.inr ⟨x, p, rfl, h2⟩
    · have e : sySt 5 (x :: p) o = sySt 5 p (o ++ [clsO x]) := by show (if x < 40 ∧ 5 ≤ x then _ else _) = _; rw [if_pos (by omega)]
      rw [e]
      have e2 : sySt 5 p (o ++ [clsO x]) = (o ++ [clsO x], p) := by
        rcases h3 with h3 | ⟨y, q', h3, h4⟩
        · exact sySt_0 (by omega) h3
        · rw [h3]
          show (if y < 40 ∧ 5 ≤ y then _ else _) = _
          rw [if_neg (by omega)]
      rw [e2]
      exact h3
