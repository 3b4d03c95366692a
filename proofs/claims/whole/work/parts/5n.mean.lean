/-! ===== what states come to ===== -/
theorem nI_inj {a b : Nat} (ha : a < 2147483648) (hb : b < 2147483648) (h : nI a = nI b) : a = b := by
  have := congrArg Int32.toInt h
  rw [ti_nI ha, ti_nI hb] at this
  omega
def st4 (L P H A : Nat) : Nat := ((12 * L + P) * 8 + H) * 5 + A
def nxt (n L P H k : Nat) : Nat := ((12 * L + (P + k) % n) * 8 + (H + 1) % 8) * 5 + k
theorem st4_d {L P H A : Nat} (hP : P < 12) (hH : H < 8) (hA : A < 5) : st4 L P H A / 480 = L ∧ st4 L P H A / 40 % 12 = P ∧ st4 L P H A / 5 % 8 = H ∧ st4 L P H A % 5 = A ∧ st4 L P H A / 5 = (L * 12 + P) * 8 + H := by unfold st4; omega
theorem st4_i {n L P H A : Nat} (n12 : n ≤ 12) (hL : L < 3) (hP : P < n) (hH : H < 8) (h1 : 1 ≤ A) (h4 : A ≤ 4) : ist n (st4 L P H A) := by
  obtain ⟨d1, d2, d3, d4, _⟩ := st4_d (L := L) (P := P) (H := H) (A := A) (by omega) hH (by omega)
  refine ⟨?_, by omega, by omega⟩
  unfold st4; omega
theorem ist_d {n s : Nat} (h : ist n s) : s / 480 < 3 ∧ s / 40 % 12 < n ∧ s / 5 % 8 < 8 ∧ 1 ≤ s % 5 ∧ s % 5 ≤ 4 ∧ s = st4 (s / 480) (s / 40 % 12) (s / 5 % 8) (s % 5) ∧ s / 5 = (s / 480 * 12 + s / 40 % 12) * 8 + s / 5 % 8 := by
  obtain ⟨h1, h2, h3⟩ := h
  unfold st4
  omega
theorem nxt_d {n L P H k : Nat} (n4 : 4 ≤ n) (n12 : n ≤ 12) (hL : L < 3) (hk : 1 ≤ k) (hk4 : k ≤ 4) : nxt n L P H k < 1440 ∧ nxt n L P H k / 480 = L ∧ nxt n L P H k / 40 % 12 = (P + k) % n ∧ nxt n L P H k / 5 % 8 = (H + 1) % 8 ∧ nxt n L P H k % 5 = k ∧ ist n (nxt n L P H k) := by
  have : (P + k) % n < n := Nat.mod_lt _ (by omega)
  unfold ist nxt
  generalize (P + k) % n = q at *
  omega
theorem Oc_st {n : Nat} {T : Tc} {e : Nat → Int32} {s c w r : Nat} (n4 : 4 ≤ n) (n12 : n ≤ 12) (hs : ist n s) (hc : c < 12) (hr : r < 1440) : Oc n T e s c w (nI r) ↔ (1 ≤ s / 480 + c / 4 ∧ s / 480 + c / 4 ≤ 3) ∧ ∃ k : Nat, 1 ≤ k ∧ k ≤ 4 ∧ spd T (e 1).toInt ((s / 480 + c / 4 - 1 : Nat) : Int) ((s / 40 % 12 : Nat) : Int) ((s / 5 % 8 : Nat) : Int) ((s % 5 : Nat) : Int) ((c % 4 : Nat) : Int) (w : Int) = k ∧ flt n T e (s / 480 + c / 4 - 1) (s / 40 % 12) (s / 5 % 8) k ∧ r = nxt n (s / 480 + c / 4 - 1) (s / 40 % 12) (s / 5 % 8) k := by
  obtain ⟨s1, s2, s3⟩ := hs
  unfold Oc
  by_cases c1 : 1 ≤ s / 480 + c / 4 ∧ s / 480 + c / 4 ≤ 3
  · rw [if_pos c1]
    generalize hLn : s / 480 + c / 4 - 1 = L
    generalize hPn : s / 40 % 12 = P at *
    generalize hHn : s / 5 % 8 = H at *
    generalize hAn : s % 5 = A at *
    obtain ⟨sb1, sb2⟩ := spd_bd T (e 1).toInt (L : Int) (P : Int) (H : Int) (A : Int) ((c % 4 : Nat) : Int) (w : Int)
    generalize spd T (e 1).toInt (L : Int) (P : Int) (H : Int) (A : Int) ((c % 4 : Nat) : Int) (w : Int) = v at *
    obtain ⟨sp, rfl⟩ : ∃ sp : Nat, v = (sp : Int) := ⟨v.toNat, by omega⟩
    have esp : ((sp : Int)).toNat = sp := by omega
    rw [esp]
    have hq : (P + sp) % n < n := Nat.mod_lt _ (by omega)
    constructor
    · rintro (⟨f1, f2⟩ | ⟨k, k1, k2, k3, k4, k5⟩)
      · refine ⟨c1, sp, by omega, by omega, rfl, f1, ?_⟩
        have := nI_inj (by omega) (by omega) f2
        rw [this]; rfl
      · have hq2 : (P + k) % n < n := Nat.mod_lt _ (by omega)
        have := nI_inj (by omega) (by omega) k5
        omega
    · rintro ⟨_, k, k1, k2, k3, k4, k5⟩
      have : k = sp := by omega
      subst this
      exact Or.inl ⟨k4, by rw [k5]; rfl⟩
  · rw [if_neg c1]
    constructor
    · intro z
      have := congrArg Int32.toInt z
      rw [ti_nI (by omega)] at this
      have e1 : (-1 : Int32).toInt = -1 := rfl
      omega
    · rintro ⟨z, _⟩; exact absurd z c1
/-- a possible hour -/
def Mv (n : Nat) (T : Tc) (a : Nat → Int32) (s r : Nat) : Prop := r < 1440 ∧ ∃ c w, c < 12 ∧ w < 4 ∧ bt (a (20 + s / 5 % 8)) w ∧ Oc n T (sea a) s c w (nI r)
/-- a choice that leads there whatever the wind -/
def Su (n : Nat) (T : Tc) (a : Nat → Int32) (G : Nat → Prop) (s : Nat) : Prop := ∃ c, c < 12 ∧ ∀ w, w < 4 → bt (a (20 + s / 5 % 8)) w → ∃ r, r < 1440 ∧ Oc n T (sea a) s c w (nI r) ∧ G r
section
variable {n : Nat} {T : Tc} {a : Nat → Int32}
theorem Mv_iff {s r : Nat} (n4 : 4 ≤ n) (n12 : n ≤ 12) (hs : ist n s) : Mv n T a s r ↔ ∃ L k : Nat, L < 3 ∧ L ≤ s / 480 + 1 ∧ s / 480 ≤ L + 1 ∧ 1 ≤ k ∧ k ≤ 4 ∧ (∃ sl w : Nat, sl < 4 ∧ w < 4 ∧ bt (a (20 + s / 5 % 8)) w ∧ spd T (a 1).toInt (L : Int) ((s / 40 % 12 : Nat) : Int) ((s / 5 % 8 : Nat) : Int) ((s % 5 : Nat) : Int) (sl : Int) (w : Int) = k) ∧ flt n T (sea a) L (s / 40 % 12) (s / 5 % 8) k ∧ r = nxt n L (s / 40 % 12) (s / 5 % 8) k := by
  have hd := ist_d hs
  constructor
  · rintro ⟨hr, c, w, hc, hw, hb, ho⟩
    obtain ⟨c1, k, k1, k2, k3, k4, k5⟩ := (Oc_st n4 n12 hs hc hr).1 ho
    exact ⟨s / 480 + c / 4 - 1, k, by omega, by omega, by omega, k1, k2, ⟨c % 4, w, by omega, hw, hb, k3⟩, k4, k5⟩
  · rintro ⟨L, k, h1, h2, h3, k1, k2, ⟨sl, w, hsl, hw, hb, hsp⟩, hf, rfl⟩
    have nd := nxt_d (P := s / 40 % 12) (H := s / 5 % 8) n4 n12 h1 k1 k2
    have q1 : (4 * (L + 1 - s / 480) + sl) / 4 = L + 1 - s / 480 := by omega
    have q2 : (4 * (L + 1 - s / 480) + sl) % 4 = sl := by omega
    have q3 : s / 480 + (L + 1 - s / 480) - 1 = L := by omega
    refine ⟨nd.1, 4 * (L + 1 - s / 480) + sl, w, by omega, hw, hb, (Oc_st n4 n12 hs (by omega) nd.1).2 ?_⟩
    rw [q1, q2, q3]
    exact ⟨by omega, k, k1, k2, hsp, hf, rfl⟩
theorem wind_ne {x : Int32} (h1 : 1 ≤ x.toInt) (h2 : x.toInt ≤ 15) : ∃ w, w < 4 ∧ bt x w := by
  have k : ∀ m, m < 16 → 1 ≤ m → ∃ w, w < 4 ∧ f123 (nI m) (nI w) = 1 := by decide
  have e : x = nI x.toInt.toNat := by rw [ti_eq, ti_nI (by omega)]; omega
  rw [e]
  exact k _ (by omega) (by omega)
theorem Su_iff {s : Nat} {G : Nat → Prop} (n4 : 4 ≤ n) (n12 : n ≤ 12) (hs : ist n s) (hw : ∀ j, j < 8 → 1 ≤ (a (20 + j)).toInt ∧ (a (20 + j)).toInt ≤ 15) : Su n T a G s ↔ ∃ L, L < 3 ∧ L ≤ s / 480 + 1 ∧ s / 480 ≤ L + 1 ∧ ∃ sl : Nat, sl < 4 ∧ ∀ w : Nat, w < 4 → bt (a (20 + s / 5 % 8)) w → ∃ k : Nat, 1 ≤ k ∧ k ≤ 4 ∧ spd T (a 1).toInt (L : Int) ((s / 40 % 12 : Nat) : Int) ((s / 5 % 8 : Nat) : Int) ((s % 5 : Nat) : Int) (sl : Int) (w : Int) = k ∧ flt n T (sea a) L (s / 40 % 12) (s / 5 % 8) k ∧ G (nxt n L (s / 40 % 12) (s / 5 % 8) k) := by
  have hd := ist_d hs
  constructor
  · rintro ⟨c, hc, hy⟩
    obtain ⟨w0, hw0, hb0⟩ := wind_ne (hw (s / 5 % 8) hd.2.2.1).1 (hw (s / 5 % 8) hd.2.2.1).2
    obtain ⟨r0, hr0, ho0, _⟩ := hy w0 hw0 hb0
    obtain ⟨c1, _⟩ := (Oc_st n4 n12 hs hc hr0).1 ho0
    refine ⟨s / 480 + c / 4 - 1, by omega, by omega, by omega, c % 4, by omega, fun w h4 hb => ?_⟩
    obtain ⟨r, hr, ho, hg⟩ := hy w h4 hb
    obtain ⟨_, k, k1, k2, k3, k4, rfl⟩ := (Oc_st n4 n12 hs hc hr).1 ho
    exact ⟨k, k1, k2, k3, k4, hg⟩
  · rintro ⟨L, h1, h2, h3, sl, hsl, hy⟩
    have q1 : (4 * (L + 1 - s / 480) + sl) / 4 = L + 1 - s / 480 := by omega
    have q2 : (4 * (L + 1 - s / 480) + sl) % 4 = sl := by omega
    have q3 : s / 480 + (L + 1 - s / 480) - 1 = L := by omega
    refine ⟨4 * (L + 1 - s / 480) + sl, by omega, fun w h4 hb => ?_⟩
    obtain ⟨k, k1, k2, k3, k4, k5⟩ := hy w h4 hb
    have nd := nxt_d (P := s / 40 % 12) (H := s / 5 % 8) n4 n12 h1 k1 k2
    refine ⟨_, nd.1, (Oc_st n4 n12 hs (by omega) nd.1).2 ?_, k5⟩
    rw [q1, q2, q3]
    exact ⟨by omega, k, k1, k2, k3, k4, rfl⟩
theorem Kp_s {k s : Nat} : Kp n T a (k + 1) s ↔ ist n s ∧ Su n T a (Kp n T a k) s := Iff.rfl
theorem Kp_i : ∀ {k s : Nat}, Kp n T a k s → ist n s
  | 0, _, h => h
  | _ + 1, _, h => h.1
theorem Su_m {G G' : Nat → Prop} {s : Nat} (h : Su n T a G s) (m : ∀ r, G r → G' r) : Su n T a G' s := by
  obtain ⟨c, hc, hy⟩ := h
  refine ⟨c, hc, fun w h4 hb => ?_⟩
  obtain ⟨r, h1, h2, h3⟩ := hy w h4 hb
  exact ⟨r, h1, h2, m r h3⟩
theorem Kp_m : ∀ {k s : Nat}, Kp n T a (k + 1) s → Kp n T a k s
  | 0, _, h => h.1
  | k + 1, _, h => ⟨h.1, Su_m h.2 (fun _ z => Kp_m z)⟩
theorem Kp_le {k s : Nat} : ∀ d, Kp n T a (k + d) s → Kp n T a k s
  | 0, h => h
  | d + 1, h => Kp_le d (Kp_m h)
theorem Kp_st {k : Nat} (h : ∀ s, Kp n T a k s → Kp n T a (k + 1) s) : ∀ d s, Kp n T a k s → Kp n T a (k + d) s
  | 0, _, z => z
  | d + 1, s, z => by
    have := h s z
    exact ⟨this.1, Su_m this.2 (fun r hr => Kp_st h d r hr)⟩
end
/-- as many as there are holes -/
theorem holes : ∀ (m i : Nat) (R : Nat → Nat → Prop), (∀ k, k < i → ∃ x, x < m ∧ R k x) → (∀ k k' x, R k x → R k' x → k = k') → i ≤ m
  | 0, i, R, h, _ => by
    by_cases c : i = 0
    · omega
    · obtain ⟨x, hx, _⟩ := h 0 (by omega); omega
  | m + 1, i, R, h, u => by
    by_cases c : ∃ k, k < i ∧ R k m
    · obtain ⟨k0, hk0, hr0⟩ := c
      have := holes m (i - 1) (fun k x => R (if k < k0 then k else k + 1) x) (fun k hk => by
        have hk' : (if k < k0 then k else k + 1) < i ∧ (if k < k0 then k else k + 1) ≠ k0 := by
          by_cases z : k < k0
          · rw [if_pos z]; omega
          · rw [if_neg z]; omega
        obtain ⟨x, hx, hr⟩ := h _ hk'.1
        refine ⟨x, ?_, hr⟩
        by_cases z : x = m
        · subst z; exact absurd (u _ _ _ hr hr0) hk'.2
        · omega) (fun k k' x h1 h2 => by
        have := u _ _ _ h1 h2
        by_cases z : k < k0
        · by_cases z' : k' < k0
          · rw [if_pos z, if_pos z'] at this; exact this
          · rw [if_pos z, if_neg z'] at this; omega
        · by_cases z' : k' < k0
          · rw [if_neg z, if_pos z'] at this; omega
          · rw [if_neg z, if_neg z'] at this; omega)
      omega
    · have := holes m i R (fun k hk => by
        obtain ⟨x, hx, hr⟩ := h k hk
        refine ⟨x, ?_, hr⟩
        by_cases z : x = m
        · subst z; exact absurd ⟨k, hk, hr⟩ c
        · omega) u
      omega
