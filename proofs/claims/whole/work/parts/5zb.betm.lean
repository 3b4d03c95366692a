/-! ===== between: the meaning, and the reference ===== -/
def Lk (n : Nat) (T : Tc) (a : Nat → Int32) (G : Nat → Prop) (s : Nat) : Prop := ∃ r, Mv n T a s r ∧ G r
def StP (n : Nat) (T : Tc) (a : Nat → Int32) (p : Bool) (G : Nat → Prop) (s : Nat) : Prop := if p = true then Su n T a G s else Lk n T a G s
def BtN (n : Nat) (T : Tc) (a : Nat → Int32) (sf : Nat → Nat) (p : Bool) : Nat → Nat → Nat → Prop
  | 0, _, _ => False
  | i + 1, l, s => ist n s ∧ StP n T a p (fun r => Gk sf l (BtN n T a sf p i) (s / 40 % 12) (r % 5) r) s
def sfg (n g P : Nat) : Nat := if g ≤ P then g + n - P else g - P
theorem stgG {N n g : Nat} (n4 : 4 ≤ n) (n12 : n ≤ 12) (hg : g < n) : Stg N n (nI g) (sfg n g) := by
  intro h P e41 hP
  unfold f61 sfg
  have tm : (-1 : Int32).toInt = -1 := rfl
  rw [if_neg (by rw [ti_eq, ti_nI (by omega)]; omega), e41]
  by_cases c : g ≤ P
  · rw [if_pos (by rw [ti_le, ti_nI (by omega), ti_nI (by omega)]; omega), if_pos c]
    refine ⟨?_, by omega⟩
    have : nI g - nI P + nI n = nI (g + n - P) := by
      have e1 : (nI g - nI P).toInt = (g : Int) - P := by rw [ti_sub (by rw [ti_nI (by omega), ti_nI (by omega)]; omega) (by rw [ti_nI (by omega), ti_nI (by omega)]; omega), ti_nI (by omega), ti_nI (by omega)]
      rw [ti_eq, ti_add (by rw [e1, ti_nI (by omega)]; omega) (by rw [e1, ti_nI (by omega)]; omega), e1, ti_nI (by omega), ti_nI (by omega)]
      omega
    rw [this]
  · rw [if_neg (by rw [ti_le, ti_nI (by omega), ti_nI (by omega)]; omega), if_neg c]
    refine ⟨?_, by omega⟩
    rw [pk_sub (by omega)]
section
variable {N n : Nat} {T : Tc} {h : Hp} {a : Nat → Int32} {sf : Nat → Nat} {p : Bool}
theorem StP_m {G G' : Nat → Prop} {s : Nat} (z : StP n T a p G s) (m : ∀ r, G r → G' r) : StP n T a p G' s := by
  unfold StP at z ⊢
  cases p with
  | true => rw [if_pos rfl] at z ⊢; exact Su_m z m
  | false =>
    rw [if_neg (by decide)] at z ⊢
    obtain ⟨r, r1, r2⟩ := z
    exact ⟨r, r1, m r r2⟩
theorem Gk_m {l : Nat} {B B' : Nat → Nat → Prop} {P k r : Nat} (z : Gk sf l B P k r) (m : ∀ l' r, (l' = l ∨ l' + 1 = l) → B l' r → B' l' r) : Gk sf l B' P k r := by
  unfold Gk at z ⊢
  by_cases c : sf P ≤ k
  · rw [if_pos c] at z ⊢
    rcases z with z | z
    · exact Or.inl z
    · by_cases c0 : l = 0
      · exact Or.inl c0
      · exact Or.inr (m (l - 1) r (Or.inr (by omega)) z)
  · rw [if_neg c] at z ⊢
    exact m l r (Or.inl rfl) z
theorem BtN_i : ∀ {i l s : Nat}, BtN n T a sf p i l s → ist n s
  | 0, _, _, z => z.elim
  | _ + 1, _, _, z => z.1
theorem BtN_m : ∀ {i l s : Nat}, BtN n T a sf p i l s → BtN n T a sf p (i + 1) l s
  | 0, _, _, z => z.elim
  | i + 1, _, _, z => ⟨z.1, StP_m z.2 (fun _ g => Gk_m g (fun _ _ _ b => BtN_m b))⟩
theorem BtN_le {i l s : Nat} : ∀ d, BtN n T a sf p i l s → BtN n T a sf p (i + d) l s
  | 0, z => z
  | d + 1, z => BtN_m (BtN_le d z)
/-- the reference's rows -/
def I13 (c : Nat) (h : Hp) (K : Nat) (B : Nat → Nat → Prop) : Prop := ∀ l s, l < K → s < 1440 → (hI h c (1440 * l + s) = 0 ∨ hI h c (1440 * l + s) = 1) ∧ (hI h c (1440 * l + s) = 1 ↔ B l s)
theorem good_m {s g l K : Nat} {q : Int32} {B : Nat → Nat → Prop} (n4 : 4 ≤ n) (n12 : n ≤ 12) (hn : hI h 0 2 = nI n) (hs : ist n s) (hg : g < n) (hl : l < K) (hK : K ≤ 5) (i13 : I13 13 h K B) : Wp (f217 N (nI s) q (nI g) (nI (l + 1)) h) fun v => (v = 1 ∧ ∃ r, r < 1440 ∧ q = nI r ∧ Gk (sfg n g) l B (s / 40 % 12) (r % 5) r) ∨ (v = 0 ∧ ∀ r, r < 1440 → q = nI r → ¬ Gk (sfg n g) l B (s / 40 % 12) (r % 5) r) := by
  obtain ⟨d1, d2, d3, d4⟩ := nI_dec s (by have := hs.1; omega)
  have d2' : f145 (nI s) = nI (s / 40 % 12) := d2
  have hP := hs.2.1
  unfold f217
  rcases af196 q with ⟨r, r1, rfl, r3⟩ | ⟨r1, r2⟩
  · rw [r3, if_neg (by decide), d2']
    generalize s / 40 % 12 = P at hP ⊢
    obtain ⟨e1, e2, e3, e4⟩ := nI_dec r (by omega)
    have e4' : f147 (nI r) = nI (r % 5) := e4
    -- the steps
    have key : ∀ C : Int32 → Prop, Wp (f217_b18 N (nI r) (nI (sfg n g P)) (nI (l + 1)) h) C → Wp ((f199 N (nI P) (nI g) h).bind fun q2 => if q2 = 0 then f217_b18 N (nI r) (hI h 0 2) (nI (l + 1)) h else f217_b18 N (nI r) q2 (nI (l + 1)) h) C := fun C z => by
      unfold f199
      rw [hn]
      by_cases c : g < P
      · rw [if_pos (by rw [ti_lt, ti_nI (by omega), ti_nI (by omega)]; omega), nI_add, pk_sub (by omega), Option.bind_some, if_neg (by rw [ti_eq, ti_nI (by omega)]; show ¬ _ = (0 : Int); omega)]
        have : sfg n g P = g + n - P := by unfold sfg; rw [if_pos (by omega)]
        rw [← this]; exact z
      · rw [if_neg (by rw [ti_lt, ti_nI (by omega), ti_nI (by omega)]; omega), pk_sub (by omega), Option.bind_some]
        by_cases c2 : g = P
        · rw [if_pos (by rw [ti_eq, ti_nI (by omega)]; show _ = (0 : Int); omega)]
          have : sfg n g P = n := by unfold sfg; rw [if_pos (by omega)]; omega
          rw [← this]; exact z
        · rw [if_neg (by rw [ti_eq, ti_nI (by omega)]; show ¬ _ = (0 : Int); omega)]
          have : sfg n g P = g - P := by unfold sfg; rw [if_neg (by omega)]
          rw [← this]; exact z
    refine key _ ?_
    have hsf : sfg n g P < 100 := by unfold sfg; by_cases c : g ≤ P; rw [if_pos c]; omega; rw [if_neg c]; omega
    unfold f217_b18
    rw [e4']
    have res : ∀ (l2 : Nat) (v : Int32), (v = nI (l + 1 - l2)) → l2 ≤ 1 → ((l + 1 - l2 = 0 ∨ (1 ≤ l + 1 - l2 ∧ B (l + 1 - l2 - 1) r)) ↔ Gk (sfg n g) l B P (r % 5) r) → Wp (if v = 0 then f217_b39 N h else gd (inb ((1440 : Int32) * (v - (1 : Int32)) + nI r) 7200) (if hI h 13 (ix ((1440 : Int32) * (v - (1 : Int32)) + nI r)) = 0 then some (0 : Int32) else f217_b39 N h)) (fun v => (v = 1 ∧ ∃ r', r' < 1440 ∧ nI r = nI r' ∧ Gk (sfg n g) l B P (r' % 5) r') ∨ (v = 0 ∧ ∀ r', r' < 1440 → nI r = nI r' → ¬ Gk (sfg n g) l B P (r' % 5) r')) := fun l2 v hv h2 hgk => by
      unfold f217_b39
      by_cases c0 : l + 1 - l2 = 0
      · rw [if_pos (by rw [hv, c0]; rfl), Wp_some]
        exact Or.inl ⟨rfl, r, r1, rfl, hgk.1 (Or.inl c0)⟩
      · have ev : v - (1 : Int32) = nI (l + 1 - l2 - 1) := by rw [hv]; exact pk_sub (a := l + 1 - l2) (b := 1) (by omega)
        have ea : (1440 : Int32) * nI (l + 1 - l2 - 1) + nI r = nI (1440 * (l + 1 - l2 - 1) + r) := by
          show nI 1440 * _ + _ = _
          rw [pk_mul, nI_add]
        rw [if_neg (by rw [hv, ti_eq, ti_nI (by omega)]; show ¬ _ = (0 : Int); omega), ev, ea, Wp_gd]
        refine ⟨nbk (by omega) (by omega), ?_⟩
        rw [nix (by omega)]
        obtain ⟨j1, j2⟩ := i13 (l + 1 - l2 - 1) r (by omega) r1
        by_cases cb : B (l + 1 - l2 - 1) r
        · rw [if_neg (by rw [j2.2 cb]; decide), Wp_some]
          exact Or.inl ⟨rfl, r, r1, rfl, hgk.1 (Or.inr ⟨by omega, cb⟩)⟩
        · rw [if_pos (j1.resolve_right (fun z => cb (j2.1 z))), Wp_some]
          refine Or.inr ⟨rfl, fun r' h1 h2' h3 => ?_⟩
          have := nI_inj (by omega) (by omega) h2'
          subst this
          rcases hgk.2 h3 with z | z
          · exact c0 z
          · exact cb z.2
    unfold f217_b24
    by_cases c : sfg n g P ≤ r % 5
    · rw [if_neg (by rw [ti_lt, ti_nI (by omega), ti_nI (by omega)]; omega), Wp_bnd]
      refine res 1 _ (pk_sub (a := l + 1) (b := 1) (by omega)) (by omega) ?_
      unfold Gk
      rw [if_pos c, show l + 1 - 1 = l by omega]
      exact ⟨fun z => z.imp id (fun y => y.2), fun z => by
        by_cases c0 : l = 0
        · exact Or.inl c0
        · exact Or.inr ⟨by omega, z.resolve_left c0⟩⟩
    · rw [if_pos (by rw [ti_lt, ti_nI (by omega), ti_nI (by omega)]; omega), Wp_bnd]
      refine res 0 _ (pk_sub (a := l + 1) (b := 0) (by omega)) (by omega) ?_
      unfold Gk
      rw [if_neg c, show l + 1 - 0 - 1 = l by omega]
      exact ⟨fun z => z.elim (fun y => by omega) (fun y => y.2), fun z => Or.inr ⟨by omega, z⟩⟩
  · rw [r1, if_pos rfl, Wp_some]
    exact Or.inr ⟨rfl, fun r hr e _ => r2 r hr e⟩
theorem pass_w {s g l K : Nat} {p4 : Int32} {B : Nat → Nat → Prop} (hN : 1000 ≤ N) (ld : Ld n T a h) (hs : ist n s) (hg : g < n) (hl : l < K) (hK : K ≤ 5) (i13 : I13 13 h K B) (hp : p = true ↔ ¬ p4 = 0) : Wp (f218 N (nI s) (nI g) (nI (l + 1)) p4 h) fun v => (v = 0 ∨ v = 1) ∧ (v = 1 ↔ StP n T a p (fun r => Gk (sfg n g) l B (s / 40 % 12) (r % 5) r) s) := by
  obtain ⟨e1, e2⟩ := hr_n hs.1
  have ld0 := ld
  obtain ⟨⟨n4, n12⟩, l2, l3, l4, l5⟩ := ld
  -- of a choice
  have stp : StP n T a p (fun r => Gk (sfg n g) l B (s / 40 % 12) (r % 5) r) s ↔ ∃ c, c < 12 ∧ (if p4 = 0 then ∃ w, w < 4 ∧ bt (a (20 + s / 5 % 8)) w ∧ ∃ r, r < 1440 ∧ Oc n T (sea a) s c w (nI r) ∧ Gk (sfg n g) l B (s / 40 % 12) (r % 5) r else Kc n T a (fun r => Gk (sfg n g) l B (s / 40 % 12) (r % 5) r) s c) := by
    unfold StP
    by_cases c : p4 = 0
    · rw [if_neg (by rw [hp]; exact fun z => z c)]
      simp only [if_pos c]
      constructor
      · rintro ⟨r, ⟨r1, c', w, y1, y2, y3, y4⟩, r2⟩
        exact ⟨c', y1, w, y2, y3, r, r1, y4, r2⟩
      · rintro ⟨c', y1, w, y2, y3, r, r1, y4, r2⟩
        exact ⟨r, ⟨r1, c', w, y1, y2, y3, y4⟩, r2⟩
    · rw [if_pos (by rw [hp]; exact c)]
      simp only [if_neg c]
      exact Iff.rfl
  rw [stp]
  unfold f218
  rw [Wp_bind]
  generalize hQ : (fun c => if p4 = 0 then ∃ w, w < 4 ∧ bt (a (20 + s / 5 % 8)) w ∧ ∃ r, r < 1440 ∧ Oc n T (sea a) s c w (nI r) ∧ Gk (sfg n g) l B (s / 40 % 12) (r % 5) r else Kc n T a (fun r => Gk (sfg n g) l B (s / 40 % 12) (r % 5) r) s c) = Q
  have hQ' : ∀ c, Q c = if p4 = 0 then ∃ w, w < 4 ∧ bt (a (20 + s / 5 % 8)) w ∧ ∃ r, r < 1440 ∧ Oc n T (sea a) s c w (nI r) ∧ Gk (sfg n g) l B (s / 40 % 12) (r % 5) r else Kc n T a (fun r => Gk (sfg n g) l B (s / 40 % 12) (r % 5) r) s c := fun c => by rw [← hQ]
  simp only [← hQ']
  refine Wp_for (fun (c : Nat) (_ : Unit) => nI c) 12 (fun c _ => ∀ c', c' < c → ¬ Q c') ?_ ?_ (i0 := 0) (x0 := ()) (by omega) (by omega) (fun _ z => by omega)
  · rintro c _ hc no
    unfold f218_l2
    rw [if_neg (show ¬ (12 : Int32) ≤ nI c by rw [ti_le, ti_nI (by omega)]; show ¬ (12 : Int) ≤ _; omega), Wp_bind]
    have inner : Wp (lp (f218_l11 N (nI s) (nI g) (nI (l + 1)) p4 (nI c) h) N ((1 : Int32), (0 : Int32), (0 : Int32))) fun q => (q.2.1 = 0 ∨ q.2.1 = 1) ∧ (q.2.2.1 = 0 ∨ q.2.2.1 = 1) ∧ (q.2.1 = 1 ↔ Kc n T a (fun r => Gk (sfg n g) l B (s / 40 % 12) (r % 5) r) s c) ∧ (q.2.2.1 = 1 ↔ ∃ w, w < 4 ∧ bt (a (20 + s / 5 % 8)) w ∧ ∃ r, r < 1440 ∧ Oc n T (sea a) s c w (nI r) ∧ Gk (sfg n g) l B (s / 40 % 12) (r % 5) r) := by
      refine Wp_for (fun (w : Nat) (x : Int32 × Int32) => (x.1, x.2, nI w)) 4 (fun w x => (x.1 = 0 ∨ x.1 = 1) ∧ (x.2 = 0 ∨ x.2 = 1) ∧ (x.1 = 1 ↔ ∀ w', w' < w → bt (a (20 + s / 5 % 8)) w' → ∃ r, r < 1440 ∧ Oc n T (sea a) s c w' (nI r) ∧ Gk (sfg n g) l B (s / 40 % 12) (r % 5) r) ∧ (x.2 = 1 ↔ ∃ w', w' < w ∧ bt (a (20 + s / 5 % 8)) w' ∧ ∃ r, r < 1440 ∧ Oc n T (sea a) s c w' (nI r) ∧ Gk (sfg n g) l B (s / 40 % 12) (r % 5) r)) ?_ ?_ (i0 := 0) (x0 := (1, 0)) (by omega) (by omega) ⟨Or.inr rfl, Or.inl rfl, ⟨fun _ _ z => by omega, fun _ => rfl⟩, ⟨fun z => absurd (show (0 : Int32) = 1 from z) (by decide), fun ⟨_, z, _⟩ => by omega⟩⟩
      · rintro w ⟨x1, x2⟩ hw ⟨v1, v2, v3, v4⟩
        dsimp only at v1 v2 v3 v4 ⊢
        unfold f218_l11
        dsimp only
        rw [if_neg (show ¬ (4 : Int32) ≤ nI w by rw [ti_le, ti_nI (by omega)]; show ¬ (4 : Int) ≤ _; omega), e1, e2, Wp_gd]
        refine ⟨nbk (by omega) (by omega), ?_⟩
        rw [nix (by omega), l2, e141]
        by_cases cb : bt (a (20 + s / 5 % 8)) w
        · have cb' : f123 (a (20 + s / 5 % 8)) (nI w) = 1 := cb
          obtain ⟨q, q1, q2⟩ := at_w (N := N) ld0 hs hc hw
          rw [cb', if_neg (by decide), q1, Option.bind_some, Wp_bind]
          refine Wp_mono (good_m n4 n12 l3 hs hg hl hK i13) (fun v hv => ?_)
          have gq : (v = 0 ∨ v = 1) ∧ (v = 1 ↔ ∃ r, r < 1440 ∧ Oc n T (sea a) s c w (nI r) ∧ Gk (sfg n g) l B (s / 40 % 12) (r % 5) r) := by
            rcases hv with ⟨y1, r, y2, y3, y4⟩ | ⟨y1, y2⟩
            · exact ⟨Or.inr y1, ⟨fun _ => ⟨r, y2, by rw [← y3]; exact q2, y4⟩, fun _ => y1⟩⟩
            · exact ⟨Or.inl y1, ⟨fun z => by rw [y1] at z; exact absurd z (by decide), fun ⟨r, z1, z2, z3⟩ => absurd z3 (y2 r z1 (Oc_fn q2 z2))⟩⟩
          obtain ⟨g1, g2⟩ := gq
          have fin : ∀ t0 : Int32, (t0 = 0 ∨ t0 = 1) → (t0 = 1 ↔ x1 = 1 ∧ v = 1) → Wp (f218_b43 N (nI s) (nI g) (nI (l + 1)) p4 (nI c) x2 (nI w) v t0 h) (fun q => (q.1 = 0 ∧ ∃ x' : Int32 × Int32, q.2 = (x'.1, x'.2, nI (w + 1)) ∧ (x'.1 = 0 ∨ x'.1 = 1) ∧ (x'.2 = 0 ∨ x'.2 = 1) ∧ (x'.1 = 1 ↔ ∀ w', w' < w + 1 → bt (a (20 + s / 5 % 8)) w' → ∃ r, r < 1440 ∧ Oc n T (sea a) s c w' (nI r) ∧ Gk (sfg n g) l B (s / 40 % 12) (r % 5) r) ∧ (x'.2 = 1 ↔ ∃ w', w' < w + 1 ∧ bt (a (20 + s / 5 % 8)) w' ∧ ∃ r, r < 1440 ∧ Oc n T (sea a) s c w' (nI r) ∧ Gk (sfg n g) l B (s / 40 % 12) (r % 5) r))) := fun t0 t1 t2 => by
            have al : (t0 = 1 ↔ ∀ w', w' < w + 1 → bt (a (20 + s / 5 % 8)) w' → ∃ r, r < 1440 ∧ Oc n T (sea a) s c w' (nI r) ∧ Gk (sfg n g) l B (s / 40 % 12) (r % 5) r) := by
              rw [t2, v3, g2]
              constructor
              · rintro ⟨z1, z2⟩ w' h1 h2
                by_cases cw : w' = w
                · subst cw; exact z2
                · exact z1 w' (by omega) h2
              · intro z
                exact ⟨fun w' h1 h2 => z w' (by omega) h2, z w (by omega) cb⟩
            have an : ∀ t : Int32, (t = 1 ↔ x2 = 1 ∨ v = 1) → (t = 1 ↔ ∃ w', w' < w + 1 ∧ bt (a (20 + s / 5 % 8)) w' ∧ ∃ r, r < 1440 ∧ Oc n T (sea a) s c w' (nI r) ∧ Gk (sfg n g) l B (s / 40 % 12) (r % 5) r) := fun t ht => by
              rw [ht, v4, g2]
              constructor
              · rintro (⟨w', z1, z2⟩ | z)
                · exact ⟨w', by omega, z2⟩
                · exact ⟨w, by omega, cb, z⟩
              · rintro ⟨w', z1, z2, z3⟩
                by_cases cw : w' = w
                · subst cw; exact Or.inr z3
                · exact Or.inl ⟨w', by omega, z2, z3⟩
            unfold f218_b43 f218_b48 f218_b51 f218_b52
            rcases v2 with v2 | v2
            · rw [if_pos v2]
              rcases g1 with g1 | g1
              · rw [if_pos g1, Wp_bnd, Wp_some, nI_1]
                exact ⟨rfl, (t0, 0), rfl, t1, Or.inl rfl, al, an 0 (by rw [v2, g1]; decide)⟩
              · rw [if_neg (by rw [g1]; decide), Wp_bnd, Wp_some, nI_1]
                exact ⟨rfl, (t0, 1), rfl, t1, Or.inr rfl, al, an 1 (by rw [v2, g1]; decide)⟩
            · rw [if_neg (by rw [v2]; decide), Wp_bnd, Wp_some, nI_1]
              exact ⟨rfl, (t0, 1), rfl, t1, Or.inr rfl, al, an 1 ⟨fun _ => Or.inl v2, fun _ => rfl⟩⟩
          unfold f218_b42
          rcases v1 with v1 | v1
          · rw [if_pos v1]
            exact Wp_mono (fin 0 (Or.inl rfl) (by rw [v1]; exact ⟨fun z => absurd z (by decide), fun z => absurd z.1 (by decide)⟩)) (fun q hq => Or.inl hq)
          · rw [if_neg (by rw [v1]; decide)]
            rcases g1 with g1 | g1
            · rw [if_pos g1]
              exact Wp_mono (fin 0 (Or.inl rfl) (by rw [g1]; exact ⟨fun z => absurd z (by decide), fun z => absurd z.2 (by decide)⟩)) (fun q hq => Or.inl hq)
            · rw [if_neg (by rw [g1]; decide)]
              exact Wp_mono (fin 1 (Or.inr rfl) ⟨fun _ => ⟨v1, g1⟩, fun _ => rfl⟩) (fun q hq => Or.inl hq)
        · rw [if_pos (bt_n.1 cb)]
          unfold f218_b52
          rw [Wp_bnd, Wp_some, nI_1]
          refine Or.inl ⟨rfl, (x1, x2), rfl, v1, v2, v3.trans ⟨fun z w' h1 h2 => ?_, fun z w' h1 h2 => z w' (by omega) h2⟩, v4.trans ⟨fun ⟨w', z1, z2⟩ => ⟨w', by omega, z2⟩, fun ⟨w', z1, z2, z3⟩ => ?_⟩⟩
          · by_cases cw : w' = w
            · subst cw; exact absurd h2 cb
            · exact z w' (by omega) h2
          · by_cases cw : w' = w
            · subst cw; exact absurd z2 cb
            · exact ⟨w', by omega, z2, z3⟩
      · rintro ⟨x1, x2⟩ ⟨v1, v2, v3, v4⟩
        unfold f218_l11
        dsimp only
        rw [if_pos (show (4 : Int32) ≤ nI 4 by decide), Wp_some]
        exact ⟨0, rfl, v1, v2, v3, v4⟩
    refine Wp_mono inner (fun q ⟨q1, q2, q3, q4⟩ => ?_)
    unfold f218_b63
    have skip : ¬ Q c → Wp (bnd (nI c + 1) fun v15 => (some (0, v15) : Option (Nat × Int32))) (fun q => (q.1 = 0 ∧ ∃ x' : Unit, q.2 = nI (c + 1) ∧ ∀ c', c' < c + 1 → ¬ Q c')) := fun nq => by
      rw [Wp_bnd, Wp_some, nI_1]
      refine ⟨rfl, (), rfl, fun c' h1 => ?_⟩
      by_cases cc : c' = c
      · subst cc; exact nq
      · exact no c' (by omega)
    by_cases cp : p4 = 0
    · rw [if_pos cp]
      have qc := hQ' c
      rw [if_pos cp] at qc
      rcases q2 with q2 | q2
      · rw [if_pos q2]
        refine Wp_mono (skip (fun z => ?_)) (fun q hq => Or.inl hq)
        rw [qc] at z
        have := q4.2 z
        rw [q2] at this
        exact absurd this (by decide)
      · rw [if_neg (by rw [q2]; decide), Wp_some]
        refine Or.inr ⟨1, rfl, ?_⟩
        dsimp only
        rw [if_neg (by omega), if_pos rfl, Wp_some]
        exact ⟨Or.inr rfl, ⟨fun _ => ⟨c, hc, by rw [qc]; exact q4.1 q2⟩, fun _ => rfl⟩⟩
    · rw [if_neg cp]
      have qc := hQ' c
      rw [if_neg cp] at qc
      rcases q1 with q1 | q1
      · rw [if_pos q1]
        refine Wp_mono (skip (fun z => ?_)) (fun q hq => Or.inl hq)
        rw [qc] at z
        have := q3.2 z
        rw [q1] at this
        exact absurd this (by decide)
      · rw [if_neg (by rw [q1]; decide), Wp_some]
        refine Or.inr ⟨0, rfl, ?_⟩
        dsimp only
        rw [if_pos rfl, Wp_some]
        exact ⟨Or.inr rfl, ⟨fun _ => ⟨c, hc, by rw [qc]; exact q3.1 q1⟩, fun _ => rfl⟩⟩
  · rintro _ no
    unfold f218_l2
    rw [if_pos (show (12 : Int32) ≤ nI 12 by decide), Wp_some]
    refine ⟨2, rfl, ?_⟩
    dsimp only
    rw [if_neg (by omega), if_neg (by omega), Wp_some]
    exact ⟨Or.inl rfl, ⟨fun z => absurd z (by decide), fun ⟨c, z1, z2⟩ => absurd z2 (no c z1)⟩⟩
end
