/-! ===== sail: which wind blows ===== -/
theorem lp_mono {S : Type} {body : S → Option (Nat × S)} : ∀ (n : Nat) (s : S) (q : Nat × S), lp body n s = some q → ∀ m, n ≤ m → lp body m s = some q
  | 0, _, _, h, _, _ => by cases h
  | n + 1, s, q, h, m, hm => by
    obtain ⟨m, rfl⟩ : ∃ k, m = k + 1 := ⟨m - 1, by omega⟩
    obtain ⟨⟨t, s1⟩, e1, h1⟩ := bind_some h
    show (body s).bind _ = _
    rw [e1]
    cases t with
    | zero => exact lp_mono n s1 q h1 m (by omega)
    | succ j => exact h1
def hz0 : Hp := (fun _ _ => 0, fun _ _ => 0, fun _ _ => none, 0)
/-- how many bits, and the one with so many below it -/
def pc (s : Nat) : Nat := s % 2 + s / 2 % 2 + s / 4 % 2 + s / 8 % 2
def nth (s b : Nat) : Nat := if s % 2 = 1 ∧ b = 0 then 0 else if s / 2 % 2 = 1 ∧ b = s % 2 then 1 else if s / 4 % 2 = 1 ∧ b = s % 2 + s / 2 % 2 then 2 else 3
theorem bc_x : ∀ s, s < 16 → 1 ≤ s → mmax 1 (f230 (nI s)) = nI (pc s) ∧ 1 ≤ pc s ∧ pc s ≤ 4 := by decide
theorem nth_x : ∀ s, s < 16 → 1 ≤ s → ∀ b, b < 4 → b < pc s → nth s b < 4 ∧ bt (nI s) (nth s b) := by
  have : ∀ s, s < 16 → 1 ≤ s → ∀ b, b < 4 → b < pc s → nth s b < 4 ∧ f123 (nI s) (nI (nth s b)) = 1 := by decide
  exact this
theorem bfl_l : ∀ s, s < 16 → 1 ≤ s → ∀ b, b < 4 → b < pc s → (lp (f124_l4 0 (nI b) hz0) 6 (nI s, (0 : Int32))).map (fun q => f229 q.2.1) = some (nI (nth s b)) := by decide
theorem bfl_w {N : Nat} {h : Hp} {s b : Nat} (hN : 1000 ≤ N) (hs : s < 16) (h1 : 1 ≤ s) (hb : b < pc s) : f124 N (nI s) (nI b) h = some (nI (nth s b)) := by
  have h4 := (bc_x s hs h1).2.2
  have k := bfl_l s hs h1 b (by omega) hb
  cases e : lp (f124_l4 0 (nI b) hz0) 6 (nI s, (0 : Int32)) with
  | none => rw [e] at k; cases k
  | some q =>
    rw [e] at k
    have e2 : lp (f124_l4 N (nI b) h) N (nI s, (0 : Int32)) = some q := lp_mono 6 _ q e N (by omega)
    unfold f124
    rw [e2]
    exact k
/-- the reference's count of bits -/
theorem bits_l : ∀ s, s < 16 → 1 ≤ s → (lp (f203_l4 0 (nI s) hz0) 14 ((0 : Int32), (0 : Int32))).map (fun q => q.2.1) = some (nI (pc s)) := by decide
theorem bits_w {N : Nat} {h : Hp} {s : Nat} (hN : 1000 ≤ N) (hs : s < 16) (h1 : 1 ≤ s) : f203 N (nI s) h = some (nI (pc s)) := by
  have k := bits_l s hs h1
  cases e : lp (f203_l4 0 (nI s) hz0) 14 ((0 : Int32), (0 : Int32)) with
  | none => rw [e] at k; cases k
  | some q =>
    rw [e] at k
    have e2 : lp (f203_l4 N (nI s) h) N ((0 : Int32), (0 : Int32)) = some q := lp_mono 14 _ q e N (by omega)
    unfold f203
    rw [e2]
    exact k
/-- the reference's search for the wind -/
def wsl (set : Int32) (s : Int32 × Int32) : Option (Nat × (Int32 × Int32)) :=
  if f141 set s.2 = 0 then some (0, (s.1 - 0, s.2 + 1)) else if s.1 ≤ 0 then some (1, s) else some (0, (s.1 - 1, s.2 + 1))
theorem ws_l : ∀ s, s < 16 → 1 ≤ s → ∀ b, b < 4 → b < pc s → (lp (wsl (nI s)) 6 (nI b, (0 : Int32))).map (fun q => q.2.2) = some (nI (nth s b)) := by decide
theorem ws_w {N : Nat} {h : Hp} {s b hh : Nat} {x2 x3 : Int32} (hN : 1000 ≤ N) (hs : s < 16) (h1 : 1 ≤ s) (hb : b < pc s) (h12 : hI h 1 12 = nI hh) (h8 : hh < 8) (hw : hI h 1 (20 + hh) = nI s) : Wp (lp (f204_l70 N x2 x3 h) N (nI b, (0 : Int32))) fun q => q.2.2 = nI (nth s b) := by
  have h4 := (bc_x s hs h1).2.2
  have k := ws_l s hs h1 b (by omega) hb
  have i12 : ix (12 : Int32) = 12 := rfl
  have v20 : (20 : Int32) + nI hh = nI (20 + hh) := nI_add 20 hh
  have eb : f204_l70 N x2 x3 h = wsl (nI s) := by
    funext t
    unfold f204_l70 f204_b84 f204_b100 wsl
    rw [i12, h12, v20, nix (show 20 + hh < 2147483648 by omega), hw, gd_pos (nbk (by omega) (by omega))]
    by_cases c : f141 (nI s) t.2 = 0
    · rw [if_pos c, if_pos c, gd_pos (nbk (by omega) (by omega)), if_pos c]; rfl
    · rw [if_neg c, if_neg c, gd_pos (nbk (by omega) (by omega)), if_neg c]; rfl
  cases e : lp (wsl (nI s)) 6 (nI b, (0 : Int32)) with
  | none => rw [e] at k; cases k
  | some q =>
    rw [e] at k
    rw [eb, lp_mono 6 _ q e N (by omega), Wp_some]
    exact Option.some.inj k
