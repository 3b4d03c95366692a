/-! ===== an hour ahead: what is sure ===== -/
def Rw (n : Nat) (f : Nat → Int32) (l : Nat) (B : Nat → Prop) : Prop := ∀ L P H b, L < 3 → P < n → H < 8 → b < 32 → (bt (f (l * 288 + ((L * 12 + P) * 8 + H))) b ↔ b < 4 ∧ B (st4 L P H (b + 1)))
def Stg (N n : Nat) (g : Int32) (sf : Nat → Nat) : Prop := ∀ h P, hI h 41 0 = nI n → P < n → f61 N (nI P) g h = some (nI (sf P)) ∧ sf P < 100
/-- what must yet be, when it comes from place P to r with speed k -/
def Gk (sf : Nat → Nat) (l : Nat) (B : Nat → Nat → Prop) (P k r : Nat) : Prop := if sf P ≤ k then l = 0 ∨ B (l - 1) r else B l r
def CW (c : Nat) : Prop := c = 71 ∨ c = 72
theorem cw_shp {c : Nat} (h : CW c) : (shp 0 c).1 = 100 ∧ (shp 0 c).2 = 1440 := by
  rcases h with rfl | rfl <;> exact ⟨rfl, rfl⟩
theorem neg1 : (0 : Int32) - 1 = -1 := by decide
section
variable {N n : Nat} {T : Tc} {h : Hp} {a : Nat → Int32}
theorem good_w {l L P H cw : Nat} {g : Int32} {sf : Nat → Nat} {B : Nat → Nat → Prop} (hN : 1000 ≤ N) (n4 : 4 ≤ n) (n12 : n ≤ 12) (e41 : hI h 41 0 = nI n) (hl : l < 5) (hL : L < 3) (hP : P < n) (hH : H < 8) (so : Sounded n T (sea a) H (hI h 67)) (r9 : hR h 64 9 = some cw) (hcw : CW cw) (rw' : ∀ l', l' = l ∨ l' + 1 = l → Rw n (hI h cw) l' (B l')) (sp : Stg N n g sf) : Wp (f18 N (nI l) (nI L) (nI P) (nI H) g h) fun x => ∀ b, b < 32 → (bt x b ↔ b < 4 ∧ flt n T (sea a) L P H (b + 1) ∧ Gk sf l B P (b + 1) (nxt n L P H (b + 1))) := by
  obtain ⟨s1, s2⟩ := sp h P e41 hP
  unfold f18
  rw [sp_n, Wp_gd]
  refine ⟨nbk (by omega) (by omega), ?_⟩
  rw [Wp_bnd, nix (by omega), s1, Option.bind_some, Wp_bind]
  generalize hv : hI h 67 ((L * 12 + P) * 8 + H) = v
  have so' : ∀ b, b < 4 → (bt v b ↔ flt n T (sea a) L P H (b + 1)) := fun b hb => by
    have := so L P (b + 1) hL hP (by omega) (by omega)
    rw [hv] at this
    exact this
  refine Wp_for (fun (k : Nat) (x : Int32) => (x, nI k)) 5 (fun k x => 1 ≤ k ∧ ∀ b, b < 32 → (bt x b ↔ b + 1 < k ∧ Gk sf l B P (b + 1) (nxt n L P H (b + 1)))) ?_ ?_ (i0 := 1) (x0 := 0) (by omega) (by omega) ⟨by omega, fun b hb => ⟨fun z => absurd z (bt_0 hb), fun z => by omega⟩⟩
  · rintro k x hk ⟨hk1, hx⟩
    have tk : (nI k).toInt = (k : Int) := ti_nI (by omega)
    have ts : (nI (sf P)).toInt = (sf P : Int) := ti_nI (by omega)
    unfold f18_l18
    dsimp only
    rw [if_neg (show ¬ (4 : Int32) < nI k by rw [ti_lt, tk]; show ¬ (4 : Int) < _; omega)]
    by_cases c0 : v = 0
    · rw [if_pos c0, Wp_some]
      refine Or.inr ⟨0, rfl, ?_⟩
      rw [Wp_some]
      intro b hb
      dsimp only
      rw [bt_and hb]
      constructor
      · intro z; rw [c0] at z; exact absurd z.2 (bt_0 hb)
      · intro z; have := (so' b z.1).2 z.2.1; rw [c0] at this; exact absurd this (bt_0 hb)
    rw [if_neg c0]
    have e60 : f60 N (nI P) (nI k) h = some (nI ((P + k) % n)) := placeOn_w n4 n12 e41 hP (by omega)
    have eH : irem (nI H + 1) 8 = nI ((H + 1) % 8) := by rw [nI_1]; exact pk_rem (d := 8) (by omega) (by omega) (by omega)
    have hq : (P + k) % n < n := Nat.mod_lt _ (by omega)
    have ek : nI k - (1 : Int32) = nI (k - 1) := by
      show nI k - nI 1 = _
      rw [pk_sub (by omega)]
    have b68 : (¬ Gk sf l B P k (nxt n L P H k)) → Wp (f18_b68 N (nI l) (nI L) (nI P) (nI H) v (nI (sf P)) x (nI k) h) (fun q => (q.1 = 0 ∧ ∃ x', q.2 = (x', nI (k + 1)) ∧ 1 ≤ k + 1 ∧ ∀ b, b < 32 → (bt x' b ↔ b + 1 < k + 1 ∧ Gk sf l B P (b + 1) (nxt n L P H (b + 1))))) := fun ng => by
      unfold f18_b68
      rw [Wp_bnd, Wp_some, nI_1]
      refine ⟨rfl, x, rfl, by omega, fun b hb => ?_⟩
      rw [hx b hb]
      constructor
      · rintro ⟨z1, z2⟩; exact ⟨by omega, z2⟩
      · rintro ⟨z1, z2⟩
        by_cases cb : b + 1 = k
        · rw [cb] at z2; exact absurd z2 ng
        · exact ⟨by omega, z2⟩
    have b60 : Gk sf l B P k (nxt n L P H k) → Wp (f18_b60 N (nI l) (nI L) (nI P) (nI H) v (nI (sf P)) x (nI k) h) (fun q => (q.1 = 0 ∧ ∃ x', q.2 = (x', nI (k + 1)) ∧ 1 ≤ k + 1 ∧ ∀ b, b < 32 → (bt x' b ↔ b + 1 < k + 1 ∧ Gk sf l B P (b + 1) (nxt n L P H (b + 1))))) := fun yg => by
      unfold f18_b60 f18_b68
      rw [Wp_bnd, Wp_bnd, Wp_some, nI_1, ek]
      refine ⟨rfl, _, rfl, by omega, fun b hb => ?_⟩
      rw [bt_or hb, bt_one (by omega) hb, hx b hb]
      constructor
      · rintro (⟨z1, z2⟩ | z)
        · exact ⟨by omega, z2⟩
        · have : b + 1 = k := by omega
          rw [this]; exact ⟨by omega, yg⟩
      · rintro ⟨z1, z2⟩
        by_cases cb : b + 1 = k
        · exact Or.inr (by omega)
        · exact Or.inl ⟨by omega, z2⟩
    have rd : ∀ l', (l' = l ∨ l' + 1 = l) → (Gk sf l B P k (nxt n L P H k) ↔ B l' (nxt n L P H k)) → Wp (f18_b31 N (nI l) (nI L) (nI P) (nI H) v (nI (sf P)) x (nI k) (nI l') h) (fun q => (q.1 = 0 ∧ ∃ x', q.2 = (x', nI (k + 1)) ∧ 1 ≤ k + 1 ∧ ∀ b, b < 32 → (bt x' b ↔ b + 1 < k + 1 ∧ Gk sf l B P (b + 1) (nxt n L P H (b + 1))))) := fun l' hl' hg => by
      unfold f18_b31
      have ea : nI l' * (288 : Int32) + nI ((L * 12 + (P + k) % n) * 8 + (H + 1) % 8) = nI (l' * 288 + ((L * 12 + (P + k) % n) * 8 + (H + 1) % 8)) := by
        show nI l' * nI 288 + _ = _
        rw [pk_mul, nI_add]
      rw [e60, Option.bind_some, Wp_bnd, eH, sp_n, if_neg (show ¬ nI l' < 0 by rw [ti_lt, ti_nI (by omega)]; show ¬ _ < (0 : Int); omega), r9, Option.bind_some, Wp_gd, (cw_shp hcw).2, ea]
      refine ⟨⟨(cw_shp hcw).1, nbk (by omega) (by omega)⟩, ?_⟩
      rw [nix (by omega), ek]
      have rr := rw' l' hl' L ((P + k) % n) ((H + 1) % 8) (k - 1) hL hq (by omega) (by omega)
      have ek2 : k - 1 + 1 = k := by omega
      rw [ek2] at rr
      by_cases cb : bt (hI h cw (l' * 288 + ((L * 12 + (P + k) % n) * 8 + (H + 1) % 8))) (k - 1)
      · have cb' : f123 (hI h cw (l' * 288 + ((L * 12 + (P + k) % n) * 8 + (H + 1) % 8))) (nI (k - 1)) = 1 := cb
        rw [cb', if_neg (by decide)]
        exact b60 (hg.2 (rr.1 cb).2)
      · rw [if_pos (bt_n.1 cb)]
        exact b68 (fun z => cb (rr.2 ⟨by omega, hg.1 z⟩))
    by_cases cs : sf P ≤ k
    · rw [if_neg (by rw [ti_lt, tk, ts]; omega)]
      by_cases cl : l = 0
      · subst cl
        unfold f18_b31
        rw [show nI 0 - (1 : Int32) = -1 from neg1, e60, Option.bind_some, Wp_bnd, if_pos (by decide)]
        exact Wp_mono (b60 (by unfold Gk; rw [if_pos cs]; exact Or.inl rfl)) (fun q hq => Or.inl hq)
      · have el : nI l - (1 : Int32) = nI (l - 1) := by
          show nI l - nI 1 = _
          rw [pk_sub (by omega)]
        rw [el]
        refine Wp_mono (rd (l - 1) (by omega) ?_) (fun q hq => Or.inl hq)
        unfold Gk
        rw [if_pos cs]
        exact ⟨fun z => z.resolve_left cl, Or.inr⟩
    · rw [if_pos (by rw [ti_lt, tk, ts]; omega)]
      refine Wp_mono (rd l (by omega) ?_) (fun q hq => Or.inl hq)
      unfold Gk
      rw [if_neg cs]
  · rintro x ⟨_, hx⟩
    unfold f18_l18
    dsimp only
    rw [if_pos (show (4 : Int32) < nI 5 by decide), Wp_some]
    refine ⟨0, rfl, ?_⟩
    rw [Wp_some]
    intro b hb
    dsimp only
    rw [bt_and hb, hx b hb]
    constructor
    · rintro ⟨⟨z1, z2⟩, z3⟩
      exact ⟨by omega, (so' b (by omega)).1 z3, z2⟩
    · rintro ⟨z1, z2, z3⟩
      exact ⟨⟨by omega, z3⟩, (so' b z1).2 z2⟩
/-- a small set is a small number -/
theorem small {x : Int32} (h : ∀ b, b < 32 → bt x b → b < 4) : ∃ g, g < 16 ∧ x = nI g := by
  obtain ⟨m, hm, e⟩ := pk_andE x (m := 15) 4 (by decide)
  refine ⟨m, hm, ?_⟩
  rw [← e]
  refine bt_ext fun k hk => ?_
  rw [bt_and hk, bt_15 hk]
  exact ⟨fun z => ⟨z, h k hk z⟩, fun z => z.1⟩
theorem bt_bit {y : Int32} {g i b : Nat} (hi : i < 32) (hb : b < 32) : bt (((y >>> (nI g &&& 31)) &&& (1 : Int32)) <<< (nI i &&& 31)) b ↔ b = i ∧ bt y g := by
  have e : bt y g ↔ ¬ (y >>> (nI g &&& 31)) &&& (1 : Int32) = 0 := by
    unfold bt f123
    by_cases c : (y >>> (nI g &&& 31)) &&& (1 : Int32) = 0
    · rw [if_pos c]; exact ⟨fun z => absurd z (by decide), fun z => absurd c z⟩
    · rw [if_neg c]; exact ⟨fun _ => c, fun _ => rfl⟩
  obtain ⟨j, hj, ej⟩ := pk_andE (y >>> (nI g &&& 31)) (m := 1) 1 (by decide)
  rw [e, ej]
  have : j = 0 ∨ j = 1 := by omega
  rcases this with rfl | rfl
  · have z : ∀ i, i < 32 → nI 0 <<< (nI i &&& 31) = 0 := by decide
    rw [z i hi]
    exact ⟨fun z => absurd z (bt_0 hb), fun z => absurd rfl z.2⟩
  · have := bt_one (j := i) (k := b) hi hb
    exact this.trans ⟨fun z => ⟨z, by decide⟩, fun z => z.1⟩
/-- with that LAST there is a sail in that lane, whatever the wind -/
def LC (n : Nat) (T : Tc) (a : Nat → Int32) (G : Nat → Nat → Prop) (L P H A : Nat) : Prop := ∃ sl : Nat, sl < 4 ∧ ∀ w : Nat, w < 4 → bt (a (20 + H)) w → ∃ k : Nat, 1 ≤ k ∧ k ≤ 4 ∧ spd T (a 1).toInt (L : Int) (P : Int) (H : Int) (A : Int) (sl : Int) (w : Int) = k ∧ flt n T (sea a) L P H k ∧ G k (nxt n L P H k)
theorem lasts_w {l L P H cw : Nat} {g : Int32} {sf : Nat → Nat} {B : Nat → Nat → Prop} (hN : 1000 ≤ N) (n4 : 4 ≤ n) (n12 : n ≤ 12) (hw : ∀ j, j < 8 → 1 ≤ (a (20 + j)).toInt ∧ (a (20 + j)).toInt ≤ 15) (e41 : hI h 41 0 = nI n) (hl : l < 5) (hL : L < 3) (hP : P < n) (hH : H < 8) (pa : Paced n T (a 1).toInt (a (20 + H)) H (hI h 65) (hI h 66)) (so : Sounded n T (sea a) H (hI h 67)) (r9 : hR h 64 9 = some cw) (hcw : CW cw) (rw' : ∀ l', l' = l ∨ l' + 1 = l → Rw n (hI h cw) l' (B l')) (sp : Stg N n g sf) : Wp (f17 N (nI l) (nI L) (nI P) (nI H) g h) fun x => ∀ b, b < 32 → (bt x b ↔ b < 4 ∧ LC n T a (Gk sf l B P) L P H (b + 1)) := by
  unfold f17
  rw [Wp_bind]
  refine Wp_mono (good_w (a := a) (T := T) hN n4 n12 e41 hl hL hP hH so r9 hcw rw' sp) (fun v hv => ?_)
  rw [Wp_bnd, show f136 (nI L) (nI P) (nI H) 1 = _ from rw_n L P H 1 (by omega)]
  obtain ⟨gd', hgd, rfl⟩ := small (x := v) (fun b hb z => ((hv b hb).1 z).1)
  have lc : ∀ b, b < 4 → (bt (hI h 66 (((L * 12 + P) * 8 + H) * 4 + (b + 1) - 1)) gd' ↔ LC n T a (Gk sf l B P) L P H (b + 1)) := fun b hb => by
    obtain ⟨p1, p2⟩ := pa L P (b + 1) hL hP (by omega) (by omega)
    rw [p2 gd' hgd]
    constructor
    · rintro ⟨sl, hsl, z⟩
      refine ⟨sl, hsl, fun w h4 hb4 => ?_⟩
      obtain ⟨b1, b2⟩ := spd_bd T (a 1).toInt (L : Int) (P : Int) (H : Int) ((b + 1 : Nat) : Int) (sl : Int) (w : Int)
      obtain ⟨k, hk⟩ : ∃ k : Nat, spd T (a 1).toInt (L : Int) (P : Int) (H : Int) ((b + 1 : Nat) : Int) (sl : Int) (w : Int) = (k : Int) := ⟨_, (Int.toNat_of_nonneg (by omega)).symm⟩
      have y := z k (by omega) (by omega) ((p1 sl k hsl (by omega) (by omega)).2 ⟨w, h4, hb4, hk⟩)
      have y2 := (hv (k - 1) (by omega)).1 y
      rw [show k - 1 + 1 = k by omega] at y2
      exact ⟨k, by omega, by omega, hk, y2.2.1, y2.2.2⟩
    · rintro ⟨sl, hsl, z⟩
      refine ⟨sl, hsl, fun s h1 h2 h3 => ?_⟩
      obtain ⟨w, h4, hb4, hk⟩ := (p1 sl s hsl h1 h2).1 h3
      obtain ⟨k, k1, k2, k3, k4, k5⟩ := z w h4 hb4
      have : k = s := by
        have := hk.symm.trans k3
        omega
      subst this
      refine (hv (k - 1) (by omega)).2 ?_
      rw [show k - 1 + 1 = k by omega]
      exact ⟨by omega, k4, k5⟩
  rw [Wp_bind]
  refine Wp_for (fun (i : Nat) (x : Int32) => (x, nI i)) 4 (fun i x => ∀ b, b < 32 → (bt x b ↔ b < i ∧ LC n T a (Gk sf l B P) L P H (b + 1))) ?_ ?_ (i0 := 0) (x0 := 0) (by omega) (by omega) (fun b hb => ⟨fun z => absurd z (bt_0 hb), fun z => by omega⟩)
  · rintro i x hi hx
    unfold f17_l18
    dsimp only
    rw [if_neg (show ¬ (4 : Int32) ≤ nI i by rw [ti_le, ti_nI (by omega)]; show ¬ (4 : Int) ≤ _; omega)]
    by_cases c0 : nI gd' = 0
    · rw [if_pos c0, Wp_some]
      refine Or.inr ⟨0, rfl, ?_⟩
      rw [Wp_some]
      have no : ∀ b, ¬ LC n T a (Gk sf l B P) L P H (b + 1) := by
        rintro b ⟨sl, hsl, z⟩
        obtain ⟨w0, hw0, hb0⟩ := wind_ne (hw H hH).1 (hw H hH).2
        obtain ⟨k, k1, k2, k3, k4, k5⟩ := z w0 hw0 hb0
        have : bt (nI gd') (k - 1) := by
          refine (hv (k - 1) (by omega)).2 ?_
          rw [show k - 1 + 1 = k by omega]
          exact ⟨by omega, k4, k5⟩
        rw [c0] at this
        exact bt_0 (by omega) this
      intro b hb
      dsimp only
      rw [hx b hb]
      exact ⟨fun z => absurd z.2 (no b), fun z => absurd z.2 (no b)⟩
    rw [if_neg c0, Wp_gd, nI_add]
    have hr : ((L * 12 + P) * 8 + H) * 4 + 1 - 1 + i < 1152 := by omega
    refine ⟨nbk hr (by omega), ?_⟩
    rw [Wp_bnd, Wp_bnd, Wp_some, nI_1, nix (by omega)]
    refine Or.inl ⟨rfl, _, rfl, fun b hb => ?_⟩
    rw [bt_or hb, bt_bit (by omega) hb, hx b hb]
    have li := lc i hi
    rw [show ((L * 12 + P) * 8 + H) * 4 + 1 - 1 + i = ((L * 12 + P) * 8 + H) * 4 + (i + 1) - 1 by omega, li]
    constructor
    · rintro (⟨z1, z2⟩ | ⟨z1, z2⟩)
      · exact ⟨by omega, z2⟩
      · subst z1; exact ⟨by omega, z2⟩
    · rintro ⟨z1, z2⟩
      by_cases cb : b = i
      · subst cb; exact Or.inr ⟨rfl, z2⟩
      · exact Or.inl ⟨by omega, z2⟩
  · rintro x hx
    unfold f17_l18
    dsimp only
    rw [if_pos (show (4 : Int32) ≤ nI 4 by decide), Wp_some]
    refine ⟨0, rfl, ?_⟩
    rw [Wp_some]
    exact hx
/-- what is new of a layer -/
def Nw (n : Nat) (T : Tc) (a : Nat → Int32) (sf : Nat → Nat) (l : Nat) (B : Nat → Nat → Prop) (s : Nat) : Prop := Su n T a (fun r => Gk sf l B (s / 40 % 12) (r % 5) r) s
theorem Nw_lc {sf : Nat → Nat} {l : Nat} {B : Nat → Nat → Prop} {L P H A : Nat} (n4 : 4 ≤ n) (n12 : n ≤ 12) (hw : ∀ j, j < 8 → 1 ≤ (a (20 + j)).toInt ∧ (a (20 + j)).toInt ≤ 15) (hL : L < 3) (hP : P < n) (hH : H < 8) (h1 : 1 ≤ A) (h4 : A ≤ 4) : Nw n T a sf l B (st4 L P H A) ↔ ∃ L', L' < 3 ∧ L' ≤ L + 1 ∧ L ≤ L' + 1 ∧ LC n T a (Gk sf l B P) L' P H A := by
  obtain ⟨d1, d2, d3, d4, _⟩ := st4_d (L := L) (P := P) (H := H) (A := A) (by omega) hH (by omega)
  unfold Nw
  rw [Su_iff n4 n12 (st4_i n12 hL hP hH h1 h4) hw, d1, d2, d3, d4]
  constructor
  · rintro ⟨L', y1, y2, y3, sl, y4, y5⟩
    refine ⟨L', y1, y2, y3, sl, y4, fun w z1 z2 => ?_⟩
    obtain ⟨k, k1, k2, k3, k4, k5⟩ := y5 w z1 z2
    have nd := nxt_d (P := P) (H := H) n4 n12 y1 k1 k2
    rw [nd.2.2.2.2.1] at k5
    exact ⟨k, k1, k2, k3, k4, k5⟩
  · rintro ⟨L', y1, y2, y3, sl, y4, y5⟩
    refine ⟨L', y1, y2, y3, sl, y4, fun w z1 z2 => ?_⟩
    obtain ⟨k, k1, k2, k3, k4, k5⟩ := y5 w z1 z2
    have nd := nxt_d (P := P) (H := H) n4 n12 y1 k1 k2
    refine ⟨k, k1, k2, k3, k4, ?_⟩
    rw [nd.2.2.2.2.1]
    exact k5
end
