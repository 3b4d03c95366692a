/-! ===== the reference: kept ===== -/
def Kc (n : Nat) (T : Tc) (a : Nat → Int32) (G : Nat → Prop) (s c : Nat) : Prop := ∀ w, w < 4 → bt (a (20 + s / 5 % 8)) w → ∃ r, r < 1440 ∧ Oc n T (sea a) s c w (nI r) ∧ G r
def In (h : Hp) (c : Nat) (G : Nat → Prop) : Prop := ∀ s, s < 1440 → (hI h c s = 0 ∨ hI h c s = 1) ∧ (hI h c s = 1 ↔ G s)
theorem In_0 {h : Hp} {c : Nat} {G : Nat → Prop} {s : Nat} (i : In h c G) (hs : s < 1440) : hI h c s = 0 ↔ ¬ G s := by
  obtain ⟨i1, i2⟩ := i s hs
  rw [← i2]
  rcases i1 with z | z
  · rw [z]; exact ⟨fun _ => by decide, fun _ => rfl⟩
  · rw [z]; exact ⟨fun y => absurd y (by decide), fun y => absurd rfl y⟩
theorem hr_n {s : Nat} (hs : s < 1440) : f146 (nI s) = nI (s / 5 % 8) ∧ (20 : Int32) + nI (s / 5 % 8) = nI (20 + s / 5 % 8) := by
  obtain ⟨d1, d2, d3, d4⟩ := nI_dec s (by omega)
  refine ⟨d3, ?_⟩
  show nI 20 + _ = _
  rw [nI_add]
section
variable {N n : Nat} {T : Tc} {h : Hp} {a : Nat → Int32}
theorem keeps_w {s c : Nat} {G : Nat → Prop} (hN : 1000 ≤ N) (l : Ld n T a h) (i12 : In h 12 G) (hs : ist n s) (hc : c < 12) : Wp (f211 N (nI s) (nI c) h) fun q => (q = 1 ∧ Kc n T a G s c) ∨ (q = 0 ∧ ¬ Kc n T a G s c) := by
  obtain ⟨e1, e2⟩ := hr_n hs.1
  unfold f211
  rw [Wp_bind]
  refine Wp_for (fun (w : Nat) (_ : Unit) => nI w) 4 (fun w _ => ∀ w', w' < w → bt (a (20 + s / 5 % 8)) w' → ∃ r, r < 1440 ∧ Oc n T (sea a) s c w' (nI r) ∧ G r) ?_ ?_ (i0 := 0) (x0 := ()) (by omega) (by omega) (fun _ z => by omega)
  · rintro w _ hw hx
    unfold f211_l2
    rw [if_neg (show ¬ (4 : Int32) ≤ nI w by rw [ti_le, ti_nI (by omega)]; show ¬ (4 : Int) ≤ _; omega), e1, e2, Wp_gd]
    refine ⟨nbk (by omega) (by omega), ?_⟩
    rw [nix (by omega), l.2.1, e141]
    unfold f211_b32
    by_cases cb : bt (a (20 + s / 5 % 8)) w
    · have cb' : f123 (a (20 + s / 5 % 8)) (nI w) = 1 := cb
      obtain ⟨q, q1, q2⟩ := at_w (N := N) l hs hc hw
      rw [cb', if_neg (by decide), q1, Option.bind_some]
      have no : (∀ r, r < 1440 → q = nI r → ¬ G r) → ¬ Kc n T a G s c := fun y z => by
        obtain ⟨r, r1, r2, r3⟩ := z w hw cb
        exact y r r1 (Oc_fn q2 r2) r3
      rcases af196 q with ⟨r, r1, rfl, r3⟩ | ⟨r1, r2⟩
      · rw [r3, if_neg (by decide), Wp_gd]
        refine ⟨nbk r1 (by omega), ?_⟩
        rw [nix (by omega)]
        by_cases cg : G r
        · rw [if_neg (by rw [In_0 i12 r1]; exact fun z => z cg), Wp_bnd, Wp_some, nI_1]
          refine Or.inl ⟨rfl, (), rfl, fun w' h1 h2 => ?_⟩
          by_cases cw : w' = w
          · subst cw; exact ⟨r, r1, q2, cg⟩
          · exact hx w' (by omega) h2
        · rw [if_pos ((In_0 i12 r1).2 cg), Wp_some]
          refine Or.inr ⟨0, rfl, ?_⟩
          dsimp only
          rw [if_pos rfl, Wp_some]
          refine Or.inr ⟨rfl, no (fun r' h1 h2 h3 => ?_)⟩
          rw [nI_inj (by omega) (by omega) h2] at cg
          exact cg h3
      · rw [r1, if_pos rfl, Wp_some]
        refine Or.inr ⟨0, rfl, ?_⟩
        dsimp only
        rw [if_pos rfl, Wp_some]
        exact Or.inr ⟨rfl, no (fun r' h1 h2 _ => r2 r' h1 h2)⟩
    · rw [if_pos (bt_n.1 cb), Wp_bnd, Wp_some, nI_1]
      refine Or.inl ⟨rfl, (), rfl, fun w' h1 h2 => ?_⟩
      by_cases cw : w' = w
      · subst cw; exact absurd h2 cb
      · exact hx w' (by omega) h2
  · rintro _ hx
    unfold f211_l2
    rw [if_pos (show (4 : Int32) ≤ nI 4 by decide), Wp_some]
    refine ⟨1, rfl, ?_⟩
    dsimp only
    rw [if_neg (by omega), Wp_some]
    exact Or.inl ⟨rfl, hx⟩
theorem a01 {x : Int32} (h : x = 0 ∨ x = 1) : x &&& 1 = x := by rcases h with rfl | rfl <;> rfl
/-- the work rows alone -/
theorem FW_of {h h' : Hp} (e : ∀ c, c ≠ 11 → c ≠ 12 → hI h' c = hI h c) : FW h h' := fun c z => e c (by omega) (by omega)
theorem less_w {i : Nat} (hN : 10000 ≤ N) (l : Ld n T a h) (i12 : In h 12 (Kp n T a i)) : Wp (f213 N h) fun x => FW h x.2 ∧ In x.2 12 (Kp n T a (i + 1)) ∧ ((x.1 = 0 ∧ ∀ s, Kp n T a i s → Kp n T a (i + 1) s) ∨ (x.1 = 1 ∧ ∃ s, Kp n T a i s ∧ ¬ Kp n T a (i + 1) s)) := by
  unfold f213
  rw [Wp_bind]
  refine Wp_for (fun (s : Nat) (x : Int32 × Hp) => (x.1, nI s, x.2)) 1440 (fun s x => (∀ c, c ≠ 11 → hI x.2 c = hI h c) ∧ (∀ s', s' < s → (hI x.2 11 s' = 0 ∨ hI x.2 11 s' = 1) ∧ (hI x.2 11 s' = 1 ↔ Kp n T a (i + 1) s')) ∧ ((x.1 = 0 ∧ ∀ s', s' < s → Kp n T a i s' → Kp n T a (i + 1) s') ∨ (x.1 = 1 ∧ ∃ s', Kp n T a i s' ∧ ¬ Kp n T a (i + 1) s'))) ?_ ?_ (i0 := 0) (x0 := (0, h)) (by omega) (by omega) ⟨fun _ _ => rfl, fun _ z => by omega, Or.inl ⟨rfl, fun _ z => by omega⟩⟩
  · rintro s ⟨m, u⟩ hs ⟨fu, hu, mu⟩
    dsimp only at fu hu mu ⊢
    have lu : Ld n T a u := Ld_c l (fun c hc => fu c (by omega))
    have iu : In u 12 (Kp n T a i) := fun s hs => by rw [fu 12 (by omega)]; exact i12 s hs
    unfold f213_l4
    dsimp only
    rw [if_neg (show ¬ (1440 : Int32) ≤ nI s by rw [ti_le, ti_nI (by omega)]; show ¬ (1440 : Int) ≤ _; omega), Wp_bind]
    have fin : ∀ v : Int32, (v = 0 ∨ v = 1) → (v = 1 ↔ Kp n T a (i + 1) s) → Wp (gd (inb (nI s) 1440) (bnd (uI u 11 (ix (nI s)) (v &&& 1)) fun h10 => if m = 0 then gd (inb (nI s) 1440) (if v = hI h10 12 (ix (nI s)) then f213_b44 N (nI s) 0 h10 else f213_b41 N (nI s) h10) else f213_b41 N (nI s) h10)) (fun q => (q.1 = 0 ∧ ∃ x' : Int32 × Hp, q.2 = (x'.1, nI (s + 1), x'.2) ∧ (∀ c, c ≠ 11 → hI x'.2 c = hI h c) ∧ (∀ s', s' < s + 1 → (hI x'.2 11 s' = 0 ∨ hI x'.2 11 s' = 1) ∧ (hI x'.2 11 s' = 1 ↔ Kp n T a (i + 1) s')) ∧ ((x'.1 = 0 ∧ ∀ s', s' < s + 1 → Kp n T a i s' → Kp n T a (i + 1) s') ∨ (x'.1 = 1 ∧ ∃ s', Kp n T a i s' ∧ ¬ Kp n T a (i + 1) s')))) := by
      intro v v1 v2
      rw [Wp_gd, Wp_bnd, a01 v1, nix (by omega)]
      refine ⟨nbk hs (by omega), ?_⟩
      have f1 : ∀ c, c ≠ 11 → hI (uI u 11 s v) c = hI h c := fun c hc => by rw [hI_uI_ne hc]; exact fu c hc
      have f2 : ∀ s', s' < s + 1 → (hI (uI u 11 s v) 11 s' = 0 ∨ hI (uI u 11 s v) 11 s' = 1) ∧ (hI (uI u 11 s v) 11 s' = 1 ↔ Kp n T a (i + 1) s') := fun s' h1 => by
        rw [hI_uI_eq]
        by_cases cs : s' = s
        · subst cs; rw [pu_eq]; exact ⟨v1, v2⟩
        · rw [pu_ne cs]; exact hu s' (by omega)
      have e12 : hI (uI u 11 s v) 12 s = hI h 12 s := by rw [f1 12 (by omega)]
      obtain ⟨j1, j2⟩ := i12 s hs
      rw [e12]
      unfold f213_b41 f213_b44
      have ne1 : (∃ s', Kp n T a i s' ∧ ¬ Kp n T a (i + 1) s') → Wp (bnd (nI s + 1) fun v12 => (some (0, (1, v12, uI u 11 s v)) : Option (Nat × (Int32 × Int32 × Hp)))) (fun q => (q.1 = 0 ∧ ∃ x' : Int32 × Hp, q.2 = (x'.1, nI (s + 1), x'.2) ∧ (∀ c, c ≠ 11 → hI x'.2 c = hI h c) ∧ (∀ s', s' < s + 1 → (hI x'.2 11 s' = 0 ∨ hI x'.2 11 s' = 1) ∧ (hI x'.2 11 s' = 1 ↔ Kp n T a (i + 1) s')) ∧ ((x'.1 = 0 ∧ ∀ s', s' < s + 1 → Kp n T a i s' → Kp n T a (i + 1) s') ∨ (x'.1 = 1 ∧ ∃ s', Kp n T a i s' ∧ ¬ Kp n T a (i + 1) s')))) := fun z => by
        rw [Wp_bnd, Wp_some, nI_1]
        exact ⟨rfl, (1, uI u 11 s v), rfl, f1, f2, Or.inr ⟨rfl, z⟩⟩
      rcases mu with ⟨m0, m1⟩ | ⟨m0, m1⟩
      · rw [if_pos m0, Wp_gd]
        refine ⟨nbk hs (by omega), ?_⟩
        by_cases ce : v = hI h 12 s
        · rw [if_pos ce, Wp_bnd, Wp_some, nI_1]
          refine ⟨rfl, (0, uI u 11 s v), rfl, f1, f2, Or.inl ⟨rfl, fun s' h1 h2 => ?_⟩⟩
          by_cases cs : s' = s
          · subst cs
            exact v2.1 (ce.trans (j2.2 h2))
          · exact m1 s' (by omega) h2
        · rw [if_neg ce]
          refine ne1 ⟨s, ?_⟩
          rcases v1 with z | z
          · rcases j1 with y | y
            · exact absurd (z.trans y.symm) ce
            · exact ⟨j2.1 y, fun w => by rw [v2.2 w] at z; exact absurd z (by decide)⟩
          · have kk := v2.1 z
            exact absurd (z.trans (j2.2 (Kp_m kk)).symm) ce
      · rw [if_neg (by rw [m0]; decide)]
        exact ne1 m1
    refine Wp_for (fun (c : Nat) (x : Int32) => (x, nI c)) 12 (fun c x => (x = 0 ∨ x = 1) ∧ (x = 1 → Kp n T a (i + 1) s) ∧ (x = 0 → ∀ c', c' < c → Kp n T a i s → ¬ Kc n T a (Kp n T a i) s c')) ?_ ?_ (i0 := 0) (x0 := 0) (by omega) (by omega) ⟨Or.inl rfl, fun z => absurd z (by decide), fun _ _ z => by omega⟩
    · rintro c x hc ⟨x1, x2, x3⟩
      unfold f213_l11
      dsimp only
      rw [if_neg (show ¬ (12 : Int32) ≤ nI c by rw [ti_le, ti_nI (by omega)]; show ¬ (12 : Int) ≤ _; omega)]
      by_cases cx : x = 0
      · rw [if_pos cx, Wp_gd]
        refine ⟨nbk hs (by omega), ?_⟩
        rw [show hI u 12 (ix (nI s)) = hI u 12 s by rw [nix (by omega)]]
        by_cases ck : Kp n T a i s
        · rw [if_neg (by rw [In_0 iu hs]; exact fun z => z ck), Wp_bind]
          refine Wp_mono (keeps_w (by omega) lu iu (Kp_i ck) hc) (fun q hq => ?_)
          rw [Wp_bnd, Wp_some, nI_1]
          refine Or.inl ⟨rfl, q, rfl, ?_⟩
          rcases hq with ⟨q1, q2⟩ | ⟨q1, q2⟩
          · exact ⟨Or.inr q1, fun _ => ⟨Kp_i ck, c, hc, q2⟩, fun z => by rw [q1] at z; exact absurd z (by decide)⟩
          · refine ⟨Or.inl q1, fun z => by rw [q1] at z; exact absurd z (by decide), fun _ c' h1 h2 => ?_⟩
            by_cases cc : c' = c
            · subst cc; exact q2
            · exact x3 cx c' (by omega) h2
        · rw [if_pos ((In_0 iu hs).2 ck), Wp_some]
          refine Or.inr ⟨0, rfl, ?_⟩
          refine Wp_mono (fin x x1 ⟨x2, fun z => absurd (Kp_m z) ck⟩) (fun q hq => Or.inl hq)
      · rw [if_neg cx, Wp_some]
        refine Or.inr ⟨0, rfl, ?_⟩
        have xx := x1.resolve_left cx
        refine Wp_mono (fin x x1 ⟨x2, fun _ => xx⟩) (fun q hq => Or.inl hq)
    · rintro x ⟨x1, x2, x3⟩
      unfold f213_l11
      dsimp only
      rw [if_pos (show (12 : Int32) ≤ nI 12 by decide), Wp_some]
      refine ⟨0, rfl, ?_⟩
      refine Wp_mono (fin x x1 ⟨x2, fun z => ?_⟩) (fun q hq => Or.inl hq)
      rcases x1 with y | y
      · obtain ⟨c, c1, c2⟩ := z.2
        exact absurd c2 (x3 y c c1 (Kp_m z))
      · exact y
  · rintro ⟨m, u⟩ ⟨fu, hu, mu⟩
    dsimp only at fu hu mu ⊢
    unfold f213_l4
    dsimp only
    rw [if_pos (show (1440 : Int32) ≤ nI 1440 by decide), Wp_some]
    refine ⟨0, rfl, ?_⟩
    rw [Wp_bind]
    refine Wp_for (fun (s : Nat) (x : Hp) => (nI s, x)) 1440 (fun s x => (∀ c, c ≠ 12 → hI x c = hI u c) ∧ ∀ s', s' < s → (hI x 12 s' = 0 ∨ hI x 12 s' = 1) ∧ (hI x 12 s' = 1 ↔ Kp n T a (i + 1) s')) ?_ ?_ (i0 := 0) (x0 := u) (by omega) (by omega) ⟨fun _ _ => rfl, fun _ z => by omega⟩
    · rintro s x hs ⟨fx, hx⟩
      unfold f213_l49
      dsimp only
      rw [if_neg (show ¬ (1440 : Int32) ≤ nI s by rw [ti_le, ti_nI (by omega)]; show ¬ (1440 : Int) ≤ _; omega), Wp_gd, Wp_gd, Wp_bnd, Wp_bnd, Wp_some, nI_1, nix (by omega)]
      have e11 : hI x 11 = hI u 11 := fx 11 (by omega)
      obtain ⟨y1, y2⟩ := hu s hs
      refine ⟨nbk hs (by omega), nbk hs (by omega), Or.inl ⟨rfl, _, rfl, fun c hc => by rw [hI_uI_ne hc]; exact fx c hc, fun s' h1 => ?_⟩⟩
      rw [hI_uI_eq, e11, a01 y1]
      by_cases cs : s' = s
      · subst cs; rw [pu_eq]; exact ⟨y1, y2⟩
      · rw [pu_ne cs]; exact hx s' (by omega)
    · rintro x ⟨fx, hx⟩
      unfold f213_l49
      dsimp only
      rw [if_pos (show (1440 : Int32) ≤ nI 1440 by decide), Wp_some]
      refine ⟨0, rfl, ?_⟩
      rw [Wp_some]
      refine ⟨FW_of (fun c c1 c2 => (fx c c2).trans (fu c c1)), hx, ?_⟩
      dsimp only
      rcases mu with ⟨m0, m1⟩ | ⟨m0, m1⟩
      · rw [m0]; exact Or.inl ⟨rfl, fun s hs => m1 s (Kp_i hs).1 hs⟩
      · rw [m0]; exact Or.inr ⟨rfl, m1⟩
theorem begin_w (hN : 10000 ≤ N) (l : Ld n T a h) : Wp (lp (f212_l4 N) N ((0 : Int32), h)) fun q => FW h q.2.2 ∧ In q.2.2 12 (Kp n T a 0) := by
  obtain ⟨⟨n4, n12⟩, l2, l3, l4⟩ := l
  refine Wp_for (fun (s : Nat) (x : Hp) => (nI s, x)) 1440 (fun s x => (∀ c, c ≠ 12 → hI x c = hI h c) ∧ ∀ s', s' < s → (hI x 12 s' = 0 ∨ hI x 12 s' = 1) ∧ (hI x 12 s' = 1 ↔ ist n s')) ?_ ?_ (i0 := 0) (x0 := h) (by omega) (by omega) ⟨fun _ _ => rfl, fun _ z => by omega⟩
  · rintro s x hs ⟨fx, hx⟩
    unfold f212_l4
    dsimp only
    rw [if_neg (show ¬ (1440 : Int32) ≤ nI s by rw [ti_le, ti_nI (by omega)]; show ¬ (1440 : Int) ≤ _; omega), Wp_bind]
    have key : ∃ v, f148 N (nI s) x = some v ∧ (v = 0 ∨ v = 1) ∧ (v = 1 ↔ ist n s) := by
      rcases i148n (N := N) (h := x) n4 n12 (by rw [fx 0 (by omega)]; exact l3) hs with ⟨y1, y2⟩ | ⟨y1, y2⟩
      · exact ⟨1, y2, Or.inr rfl, ⟨fun _ => y1, fun _ => rfl⟩⟩
      · exact ⟨0, y2, Or.inl rfl, ⟨fun z => absurd z (by decide), fun z => absurd z y1⟩⟩
    obtain ⟨v, k1, k2, k3⟩ := key
    rw [k1, Wp_some, Wp_gd, Wp_bnd, Wp_bnd, Wp_some, nI_1, nix (by omega), a01 k2]
    refine ⟨nbk hs (by omega), Or.inl ⟨rfl, _, rfl, fun c hc => by rw [hI_uI_ne hc]; exact fx c hc, fun s' h1 => ?_⟩⟩
    rw [hI_uI_eq]
    by_cases cs : s' = s
    · subst cs; rw [pu_eq]; exact ⟨k2, k3⟩
    · rw [pu_ne cs]; exact hx s' (by omega)
  · rintro x ⟨fx, hx⟩
    unfold f212_l4
    dsimp only
    rw [if_pos (show (1440 : Int32) ≤ nI 1440 by decide), Wp_some]
    exact ⟨0, rfl, fun c hc => fx c (by omega), hx⟩
/-- the loop of kept -/
theorem kept_l {s : Nat} {p2 : Int32} (hN : 10000 ≤ N) (hp : -1 ≤ p2.toInt ∧ p2.toInt ≤ 99) (l : Ld n T a h) (i12 : In h 12 (Kp n T a 0)) : Wp (lp (f214_l17 N (nI s) p2) N ((1 : Int32), (0 : Int32), h)) fun q => FW h q.2.2.2 ∧ ∃ i, i ≤ 1154 ∧ In q.2.2.2 12 (Kp n T a i) ∧ ((∀ s, Kp n T a i s → ∀ k, Kp n T a k s) ∨ p2 = nI i) ∧ ((i : Int) ≤ p2.toInt ∨ p2.toInt = -1) := by
  refine Wp_for (fun (i : Nat) (x : Int32 × Hp) => (x.1, nI i, x.2)) 1154 (fun i x => FW h x.2 ∧ In x.2 12 (Kp n T a i) ∧ ((i : Int) ≤ p2.toInt ∨ p2.toInt = -1) ∧ ((x.1 = 1 ∧ ∀ k, k < i → ∃ s, Kp n T a k s ∧ ¬ Kp n T a (k + 1) s) ∨ (x.1 = 0 ∧ ∀ s, Kp n T a i s → ∀ k, Kp n T a k s))) ?_ ?_ (i0 := 0) (x0 := (1, h)) (by omega) (by omega) ⟨FW.rfl', i12, by omega, Or.inl ⟨rfl, fun _ z => by omega⟩⟩
  · rintro i ⟨m, u⟩ hi ⟨fu, iu, bu, mu⟩
    dsimp only at fu iu bu mu ⊢
    have ti : (nI i).toInt = (i : Int) := ti_nI (by omega)
    have t0 : (0 : Int32).toInt = 0 := rfl
    unfold f214_l17
    dsimp only
    rcases mu with ⟨m0, m1⟩ | ⟨m0, m1⟩
    · rw [if_neg (by rw [m0]; decide)]
      have fin : ((i : Int) < p2.toInt ∨ p2.toInt = -1) → Wp (f214_b24 N (nI s) p2 (nI i) u) (fun q => (q.1 = 0 ∧ ∃ x' : Int32 × Hp, q.2 = (x'.1, nI (i + 1), x'.2) ∧ FW h x'.2 ∧ In x'.2 12 (Kp n T a (i + 1)) ∧ (((i + 1 : Nat) : Int) ≤ p2.toInt ∨ p2.toInt = -1) ∧ ((x'.1 = 1 ∧ ∀ k, k < i + 1 → ∃ s, Kp n T a k s ∧ ¬ Kp n T a (k + 1) s) ∨ (x'.1 = 0 ∧ ∀ s, Kp n T a (i + 1) s → ∀ k, Kp n T a k s)))) := fun z => by
        unfold f214_b24
        rw [Wp_bind]
        refine Wp_mono (less_w hN (Ld_c l fu) iu) (fun q ⟨q1, q2, q3⟩ => ?_)
        rw [Wp_bnd, Wp_some, nI_1]
        refine ⟨rfl, (q.1, q.2), rfl, fu.trans q1, q2, by omega, ?_⟩
        rcases q3 with ⟨q3, q4⟩ | ⟨q3, q4⟩
        · refine Or.inr ⟨q3, fun s' hs' k => ?_⟩
          by_cases ck : k ≤ i
          · exact Kp_le (i + 1 - k) (by rw [show k + (i + 1 - k) = i + 1 by omega]; exact hs')
          · have := Kp_st q4 (k - i) s' (Kp_m hs')
            rw [show i + (k - i) = k by omega] at this
            exact this
        · refine Or.inl ⟨q3, fun k hk => ?_⟩
          by_cases ck : k = i
          · subst ck; exact q4
          · exact m1 k (by omega)
      by_cases c1 : p2 < 0
      · rw [if_pos c1]
        rw [ti_lt] at c1
        exact Wp_mono (fin (by omega)) (fun q hq => Or.inl hq)
      · rw [if_neg c1]
        rw [ti_lt] at c1
        by_cases c2 : p2 ≤ nI i
        · rw [if_pos c2, Wp_some]
          rw [ti_le] at c2
          exact Or.inr ⟨0, rfl, fu, i, by omega, iu, Or.inr (by rw [ti_eq]; omega), bu⟩
        · rw [if_neg c2]
          rw [ti_le] at c2
          exact Wp_mono (fin (by omega)) (fun q hq => Or.inl hq)
    · rw [if_pos m0, Wp_some]
      exact Or.inr ⟨0, rfl, fu, i, by omega, iu, Or.inl m1, bu⟩
  · rintro ⟨m, u⟩ ⟨fu, iu, bu, mu⟩
    dsimp only at fu iu bu mu ⊢
    unfold f214_l17
    dsimp only
    rcases mu with ⟨m0, m1⟩ | ⟨m0, m1⟩
    · have := chain m1; omega
    · rw [if_pos m0, Wp_some]
      exact ⟨0, rfl, fu, 1154, by omega, iu, Or.inl m1, bu⟩
/-- the loop of think -/
theorem think_l (hN : 10000 ≤ N) (l : Ld n T a h) (i12 : In h 12 (Kp n T a 0)) : Wp (lp (f215_l4 N) N ((0 : Int32), h)) fun q => FW h q.2.2 ∧ ∃ i, q.2.1 = nI i ∧ (∀ k, k < i → ∃ s, Kp n T a k s ∧ ¬ Kp n T a (k + 1) s) ∧ ∀ s, Kp n T a i s → Kp n T a (i + 1) s := by
  refine Wp_for (fun (i : Nat) (x : Hp) => (nI i, x)) 1153 (fun i x => FW h x ∧ In x 12 (Kp n T a i) ∧ ∀ k, k < i → ∃ s, Kp n T a k s ∧ ¬ Kp n T a (k + 1) s) ?_ ?_ (i0 := 0) (x0 := h) (by omega) (by omega) ⟨FW.rfl', i12, fun _ z => by omega⟩
  · rintro i u hi ⟨fu, iu, lo⟩
    unfold f215_l4
    dsimp only
    rw [Wp_bind]
    refine Wp_mono (less_w hN (Ld_c l fu) iu) (fun q ⟨q1, q2, q3⟩ => ?_)
    rcases q3 with ⟨q3, q4⟩ | ⟨q3, q4⟩
    · rw [if_pos q3, Wp_some]
      exact Or.inr ⟨0, rfl, fu.trans q1, i, rfl, lo, q4⟩
    · rw [if_neg (by rw [q3]; decide), Wp_bnd, Wp_some, nI_1]
      refine Or.inl ⟨rfl, q.2, rfl, fu.trans q1, q2, fun k hk => ?_⟩
      by_cases ck : k = i
      · subst ck; exact q4
      · exact lo k (by omega)
  · rintro u ⟨_, _, lo⟩
    have := chain lo
    omega
end
