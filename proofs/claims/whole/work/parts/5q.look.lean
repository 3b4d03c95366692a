/-! ===== look an hour ahead ===== -/
theorem Rw_c {n : Nat} {f f' : Nat → Int32} {l : Nat} {B : Nat → Prop} (n12 : n ≤ 12) (x : Rw n f l B) (e : ∀ r, r / 288 = l → f' r = f r) : Rw n f' l B := by
  intro L P H b h1 h2 h3 h4
  rw [e _ (by omega)]
  exact x L P H b h1 h2 h3 h4
theorem Rw_b {n : Nat} {f : Nat → Int32} {l : Nat} {B B' : Nat → Prop} (n12 : n ≤ 12) (x : Rw n f l B) (e : ∀ s, ist n s → (B s ↔ B' s)) : Rw n f l B' := by
  intro L P H b h1 h2 h3 h4
  rw [x L P H b h1 h2 h3 h4]
  constructor
  · rintro ⟨z1, z2⟩; exact ⟨z1, (e _ (st4_i n12 h1 h2 h3 (by omega) (by omega))).1 z2⟩
  · rintro ⟨z1, z2⟩; exact ⟨z1, (e _ (st4_i n12 h1 h2 h3 (by omega) (by omega))).2 z2⟩
theorem mask {x : Int32} {l : Nat} (hl : l < 5) : (x &&& (((3 : Int32) <<< (nI l &&& 31)) >>> ((1 : Int32) &&& 31))) = 0 ↔ ¬ bt x l ∧ (l = 0 ∨ ¬ bt x (l - 1)) := by
  have k : ∀ l, l < 5 → ∀ b, b < 32 → (f123 (((3 : Int32) <<< (nI l &&& 31)) >>> ((1 : Int32) &&& 31)) (nI b) = 1 ↔ b = l ∨ b + 1 = l) := by decide
  have k' : ∀ b, b < 32 → (bt (((3 : Int32) <<< (nI l &&& 31)) >>> ((1 : Int32) &&& 31)) b ↔ b = l ∨ b + 1 = l) := k l hl
  constructor
  · intro z
    refine ⟨fun y => ?_, ?_⟩
    · have : bt (x &&& (((3 : Int32) <<< (nI l &&& 31)) >>> ((1 : Int32) &&& 31))) l := (bt_and (by omega)).2 ⟨y, (k' l (by omega)).2 (Or.inl rfl)⟩
      rw [z] at this
      exact bt_0 (by omega) this
    · by_cases c : l = 0
      · exact Or.inl c
      · refine Or.inr fun y => ?_
        have : bt (x &&& (((3 : Int32) <<< (nI l &&& 31)) >>> ((1 : Int32) &&& 31))) (l - 1) := (bt_and (by omega)).2 ⟨y, (k' (l - 1) (by omega)).2 (Or.inr (by omega))⟩
        rw [z] at this
        exact bt_0 (by omega) this
  · rintro ⟨z1, z2⟩
    refine bt_ext fun b hb => ⟨fun y => ?_, fun y => absurd y (bt_0 hb)⟩
    obtain ⟨y1, y2⟩ := (bt_and hb).1 y
    rcases (k' b hb).1 y2 with c | c
    · subst c; exact absurd y1 z1
    · rcases z2 with c2 | c2
      · omega
      · rw [show l - 1 = b by omega] at c2; exact absurd y1 c2
/-- that cell changes, and the two rows change places -/
def FL (c : Nat) (h h' : Hp) : Prop := (∀ c', c' ≠ c → hI h' c' = hI h c') ∧ ∀ c' j, (c' ≠ 64 ∨ (j ≠ 8 ∧ j ≠ 9)) → hR h' c' j = hR h c' j
section
variable {N n : Nat} {T : Tc} {h : Hp} {a : Nat → Int32}
theorem look_w {K c8 c9 : Nat} {g mv : Int32} {sf : Nat → Nat} {B : Nat → Nat → Prop} (hN : 1000 ≤ N) (al : Al n T a h) (hK : K ≤ 5) (r8 : hR h 64 8 = some c8) (r9 : hR h 64 9 = some c9) (h8 : CW c8) (h9 : CW c9) (h89 : c9 ≠ c8) (rows : ∀ l, l < K → Rw n (hI h c8) l (B l)) (sk : ∀ l, l < K → ¬ bt mv l → (l = 0 ∨ ¬ bt mv (l - 1)) → Rw n (hI h c9) l (Nw n T a sf l B) ∧ ∀ s, ist n s → (Nw n T a sf l B s ↔ B l s)) (sp : Stg N n g sf) : Wp (f14 N (nI K) g mv h) fun x => FL c9 h x.2 ∧ hR x.2 64 8 = some c9 ∧ hR x.2 64 9 = some c8 ∧ (∀ l, l < K → Rw n (hI x.2 c9) l (Nw n T a sf l B)) ∧ ∀ b, b < 32 → (bt x.1 b ↔ b < K ∧ ∃ s, ist n s ∧ ¬ (Nw n T a sf b B s ↔ B b s)) := by
  have n12 := al.1.2
  unfold f14
  rw [r8, r9, Option.bind_some, Option.bind_some, Wp_bnd, Wp_bnd]
  generalize hg : uR (uR h 64 8 (some c9)) 64 9 (some c8) = u
  have uI' : hI u = hI h := by rw [← hg, hI_uR, hI_uR]
  have u8 : hR u 64 8 = some c9 := by rw [← hg, hR_uR_ne (Or.inr (by omega)), hR_uR_eq]
  have u9 : hR u 64 9 = some c8 := by rw [← hg, hR_uR_eq]
  have uo : ∀ c' j, (c' ≠ 64 ∨ (j ≠ 8 ∧ j ≠ 9)) → hR u c' j = hR h c' j := fun c' j hh => by
    rw [← hg, hR_uR_ne (by omega), hR_uR_ne (by omega)]
  have alu : Al n T a u := Al_c al (by rw [uI']) (by rw [uI']) (by rw [uI']) (by rw [uI'])
  rw [Wp_bind]
  have c68 : 68 ≤ c9 := by rcases h9 with rfl | rfl <;> omega
  refine Wp_for (fun (i : Nat) (x : Int32 × Hp) => (x.1, nI i, x.2)) K (fun i x => FA c9 u x.2 ∧ (∀ l, l < i → Rw n (hI x.2 c9) l (Nw n T a sf l B)) ∧ (∀ r, i ≤ r / 288 → hI x.2 c9 r = hI u c9 r) ∧ ∀ b, b < 32 → (bt x.1 b ↔ b < i ∧ ∃ s, ist n s ∧ ¬ (Nw n T a sf b B s ↔ B b s))) ?_ ?_ (i0 := 0) (x0 := (0, u)) (by omega) (by omega) ⟨FA.rfl', fun _ z => by omega, fun _ _ => rfl, fun b hb => ⟨fun z => absurd z (bt_0 hb), fun z => by omega⟩⟩
  · rintro i ⟨m, w⟩ hi ⟨fw, rw1, ow, mw⟩
    dsimp only at fw rw1 ow mw ⊢
    have ti : (nI i).toInt = (i : Int) := ti_nI (by omega)
    have tK : (nI K).toInt = (K : Int) := ti_nI (by omega)
    unfold f14_l14
    dsimp only
    rw [if_neg (by rw [ti_le, ti, tK]; omega), if_neg (show ¬ (5 : Int32) ≤ nI i by rw [ti_le, ti]; show ¬ (5 : Int) ≤ _; omega)]
    by_cases cm : (mv &&& (((3 : Int32) <<< (nI i &&& 31)) >>> ((1 : Int32) &&& 31))) = 0
    · rw [if_pos cm]
      obtain ⟨m1, m2⟩ := (mask (by omega)).1 cm
      obtain ⟨k1, k2⟩ := sk i hi m1 m2
      unfold f14_b39
      rw [Wp_bnd, Wp_some, nI_1]
      refine Or.inl ⟨rfl, (m, w), rfl, fw, fun l hl => ?_, fun r hr => ow r (by omega), fun b hb => ?_⟩
      · by_cases c : l = i
        · subst c
          refine Rw_c n12 k1 (fun r hr => ?_)
          dsimp only
          rw [ow r (by omega), uI']
        · exact rw1 l (by omega)
      · dsimp only
        rw [mw b hb]
        constructor
        · rintro ⟨z1, z2⟩; exact ⟨by omega, z2⟩
        · rintro ⟨z1, s, z2, z3⟩
          by_cases c : b = i
          · subst c; exact absurd (k2 s z2) z3
          · exact ⟨by omega, s, z2, z3⟩
    · rw [if_neg cm, Wp_bind]
      have w8 : hI w c8 = hI h c8 := by rw [fw.1 c8 (Ne.symm h89), uI']
      refine Wp_mono (layer_w (l := i) (B := B) hN (Al_a alu c68 fw) (by omega) (by rw [fw.2]; exact u8) (by rw [fw.2]; exact u9) h9 h8 (Ne.symm h89) (fun l' hl' => by rw [w8]; exact rows l' (by omega)) sp) (fun x ⟨x1, x2, x3, x4⟩ => ?_)
      obtain ⟨q, y⟩ := x
      dsimp only at x1 x2 x3 x4 ⊢
      have fy := fw.trans x1
      have r1 : ∀ l, l < i + 1 → Rw n (hI y c9) l (Nw n T a sf l B) := fun l hl => by
        by_cases c : l = i
        · subst c; exact x3
        · exact Rw_c n12 (rw1 l (by omega)) (fun r hr => x2 r (by omega))
      have o1 : ∀ r, i + 1 ≤ r / 288 → hI y c9 r = hI u c9 r := fun r hr => (x2 r (by omega)).trans (ow r (by omega))
      rcases x4 with ⟨q0, q1⟩ | ⟨q0, q1⟩
      · rw [if_pos q0]
        unfold f14_b39
        rw [Wp_bnd, Wp_some, nI_1]
        refine Or.inl ⟨rfl, (m, y), rfl, fy, r1, o1, fun b hb => ?_⟩
        dsimp only
        rw [mw b hb]
        constructor
        · rintro ⟨z1, z2⟩; exact ⟨by omega, z2⟩
        · rintro ⟨z1, s, z2, z3⟩
          by_cases c : b = i
          · subst c; exact absurd (q1 s z2) z3
          · exact ⟨by omega, s, z2, z3⟩
      · rw [if_neg q0, Wp_bnd]
        unfold f14_b39
        rw [Wp_bnd, Wp_some, nI_1]
        refine Or.inl ⟨rfl, (_, y), rfl, fy, r1, o1, fun b hb => ?_⟩
        dsimp only
        rw [bt_or hb, bt_one (by omega) hb, mw b hb]
        constructor
        · rintro (⟨z1, z2⟩ | z)
          · exact ⟨by omega, z2⟩
          · subst z; exact ⟨by omega, q1⟩
        · rintro ⟨z1, z2⟩
          by_cases c : b = i
          · exact Or.inr c
          · exact Or.inl ⟨by omega, z2⟩
  · rintro ⟨m, w⟩ ⟨fw, rw1, ow, mw⟩
    dsimp only at fw rw1 ow mw ⊢
    unfold f14_l14
    dsimp only
    rw [if_pos (by rw [ti_le]; omega), Wp_some]
    refine ⟨0, rfl, ?_⟩
    rw [Wp_some]
    refine ⟨⟨fun c' hc => (fw.1 c' hc).trans (by rw [uI']), fun c' j hh => by rw [fw.2]; exact uo c' j hh⟩, by rw [fw.2]; exact u8, by rw [fw.2]; exact u9, rw1, mw⟩
/-- fill -/
theorem fill_w {c m : Nat} {v : Int32} (s1 : (shp 0 c).1 = 100) (s2 : (shp 0 c).2 = m) (hm : m < 2000) (hN : 10000 ≤ N) : Wp (f231 N c v h) fun x => FA c h x ∧ ∀ j, j < m → hI x c j = v := by
  unfold f231
  rw [Wp_gd]
  refine ⟨s1, ?_⟩
  rw [Wp_bnd, s2, Wp_bind]
  refine Wp_for (fun (i : Nat) (x : Hp) => (nI i, x)) m (fun i x => FA c h x ∧ ∀ j, j < i → hI x c j = v) ?_ ?_ (i0 := 0) (x0 := h) (by omega) (by omega) ⟨FA.rfl', fun _ z => by omega⟩
  · rintro i u hi ⟨fu, hu⟩
    unfold f231_l5
    dsimp only
    rw [if_neg (show ¬ Int32.ofNat m ≤ nI i by show ¬ nI m ≤ nI i; rw [ti_le, ti_nI (by omega), ti_nI (by omega)]; omega), Wp_gd, s2]
    refine ⟨⟨s1, nbk hi (by omega)⟩, ?_⟩
    rw [Wp_bnd, Wp_bnd, Wp_some, nI_1, nix (by omega)]
    refine Or.inl ⟨rfl, _, rfl, fu.trans FA.u, fun j hj => ?_⟩
    rw [hI_uI_eq]
    by_cases cj : j = i
    · subst cj; exact pu_eq
    · rw [pu_ne cj]; exact hu j (by omega)
  · rintro u ⟨fu, hu⟩
    unfold f231_l5
    dsimp only
    rw [if_pos (show Int32.ofNat m ≤ nI m by show nI m ≤ nI m; rw [ti_le]; omega), Wp_some]
    refine ⟨0, rfl, ?_⟩
    rw [Wp_some]
    exact ⟨fu, hu⟩
theorem fill68_w {v : Int32} (hN : 10000 ≤ N) : Wp (f231_68 N v h) fun x => FA 68 h x ∧ ∀ j, j < 1152 → hI x 68 j = v := by
  unfold f231_68
  rw [Wp_bind]
  refine Wp_for (fun (i : Nat) (x : Hp) => (nI i, x)) 1152 (fun i x => FA 68 h x ∧ ∀ j, j < i → hI x 68 j = v) ?_ ?_ (i0 := 0) (x0 := h) (by omega) (by omega) ⟨FA.rfl', fun _ z => by omega⟩
  · rintro i u hi ⟨fu, hu⟩
    unfold f231_68_l5
    dsimp only
    rw [if_neg (show ¬ (1152 : Int32) ≤ nI i by rw [ti_le, ti_nI (by omega)]; show ¬ (1152 : Int) ≤ _; omega), Wp_gd]
    refine ⟨nbk hi (by omega), ?_⟩
    rw [Wp_bnd, Wp_bnd, Wp_some, nI_1, nix (by omega)]
    refine Or.inl ⟨rfl, _, rfl, fu.trans FA.u, fun j hj => ?_⟩
    rw [hI_uI_eq]
    by_cases cj : j = i
    · subst cj; exact pu_eq
    · rw [pu_ne cj]; exact hu j (by omega)
  · rintro u ⟨fu, hu⟩
    unfold f231_68_l5
    dsimp only
    rw [if_pos (show (1152 : Int32) ≤ nI 1152 by decide), Wp_some]
    refine ⟨0, rfl, ?_⟩
    rw [Wp_some]
    exact ⟨fu, hu⟩
/-- note the lost -/
theorem lost_w {c8 c9 : Nat} {v : Int32} (hN : 1000 ≤ N) (r8 : hR h 64 8 = some c8) (r9 : hR h 64 9 = some c9) (h8 : CW c8) (h9 : CW c9) : Wp (f13 N v h) fun x => FA 68 h x ∧ ∀ k b, k < 288 → b < 4 → ((bt (hI h c9 k) b ∧ ¬ bt (hI h c8 k) b) → hI x 68 (k * 4 + b) = v) ∧ (¬ (bt (hI h c9 k) b ∧ ¬ bt (hI h c8 k) b) → hI x 68 (k * 4 + b) = hI h 68 (k * 4 + b)) := by
  have n8 : c8 ≠ 68 := by rcases h8 with rfl | rfl <;> omega
  have n9 : c9 ≠ 68 := by rcases h9 with rfl | rfl <;> omega
  unfold f13
  rw [Wp_bind]
  refine Wp_for (fun (i : Nat) (x : Hp) => (nI i, x)) 288 (fun i x => FA 68 h x ∧ (∀ k b, k < i → b < 4 → ((bt (hI h c9 k) b ∧ ¬ bt (hI h c8 k) b) → hI x 68 (k * 4 + b) = v) ∧ (¬ (bt (hI h c9 k) b ∧ ¬ bt (hI h c8 k) b) → hI x 68 (k * 4 + b) = hI h 68 (k * 4 + b))) ∧ ∀ r, i ≤ r / 4 → hI x 68 r = hI h 68 r) ?_ ?_ (i0 := 0) (x0 := h) (by omega) (by omega) ⟨FA.rfl', fun _ _ z => by omega, fun _ _ => rfl⟩
  · rintro i u hi ⟨fu, hu, ou⟩
    unfold f13_l2
    dsimp only
    rw [if_neg (show ¬ (288 : Int32) ≤ nI i by rw [ti_le, ti_nI (by omega)]; show ¬ (288 : Int) ≤ _; omega), fu.2, r9, Option.bind_some, Wp_gd, (cw_shp h9).2]
    refine ⟨⟨(cw_shp h9).1, nbk (by omega) (by omega)⟩, ?_⟩
    rw [r8, Option.bind_some, Wp_gd, (cw_shp h8).2]
    refine ⟨⟨(cw_shp h8).1, nbk (by omega) (by omega)⟩, ?_⟩
    rw [Wp_bnd, nix (by omega), fu.1 c8 n8, fu.1 c9 n9]
    have hl : ∀ b, b < 32 → (bt (hI h c9 i &&& (hI h c8 i ^^^ (-1 : Int32))) b ↔ bt (hI h c9 i) b ∧ ¬ bt (hI h c8 i) b) := fun b hb => by rw [bt_and hb, bt_not hb]
    generalize hI h c9 i &&& (hI h c8 i ^^^ (-1 : Int32)) = l at hl ⊢
    rw [Wp_bind]
    have fin : ∀ w : Hp, FA 68 h w → (∀ k b, k < i + 1 → b < 4 → ((bt (hI h c9 k) b ∧ ¬ bt (hI h c8 k) b) → hI w 68 (k * 4 + b) = v) ∧ (¬ (bt (hI h c9 k) b ∧ ¬ bt (hI h c8 k) b) → hI w 68 (k * 4 + b) = hI h 68 (k * 4 + b))) → (∀ r, i + 1 ≤ r / 4 → hI w 68 r = hI h 68 r) → Wp (bnd (nI i + 1) fun v14 => (some (0, (v14, w)) : Option (Nat × (Int32 × Hp)))) (fun q => (q.1 = 0 ∧ ∃ x', q.2 = (nI (i + 1), x') ∧ FA 68 h x' ∧ (∀ k b, k < i + 1 → b < 4 → ((bt (hI h c9 k) b ∧ ¬ bt (hI h c8 k) b) → hI x' 68 (k * 4 + b) = v) ∧ (¬ (bt (hI h c9 k) b ∧ ¬ bt (hI h c8 k) b) → hI x' 68 (k * 4 + b) = hI h 68 (k * 4 + b))) ∧ ∀ r, i + 1 ≤ r / 4 → hI x' 68 r = hI h 68 r)) := fun w y1 y2 y3 => by
      rw [Wp_bnd, Wp_some, nI_1]
      exact ⟨rfl, w, rfl, y1, y2, y3⟩
    refine Wp_for (fun (j : Nat) (x : Hp) => (nI j, x)) 4 (fun j x => FA 68 h x ∧ (∀ k b, k < i + 1 → b < 4 → (k < i ∨ b < j) → ((bt (hI h c9 k) b ∧ ¬ bt (hI h c8 k) b) → hI x 68 (k * 4 + b) = v) ∧ (¬ (bt (hI h c9 k) b ∧ ¬ bt (hI h c8 k) b) → hI x 68 (k * 4 + b) = hI h 68 (k * 4 + b))) ∧ ∀ r, 4 * i + j ≤ r → hI x 68 r = hI h 68 r) ?_ ?_ (i0 := 0) (x0 := u) (by omega) (by omega) ⟨fu, fun k b z1 z2 z3 => hu k b (by omega) z2, fun r hr => ou r (by omega)⟩
    · rintro j w hj ⟨fw, hw, ow⟩
      have tj : (nI j).toInt = (j : Int) := ti_nI (by omega)
      unfold f13_l19
      dsimp only
      rw [if_neg (show ¬ (4 : Int32) ≤ nI j by rw [ti_le, tj]; show ¬ (4 : Int) ≤ _; omega)]
      by_cases c0 : l = 0
      · rw [if_pos c0, Wp_some]
        refine Or.inr ⟨0, rfl, ?_⟩
        refine Wp_mono (fin w fw (fun k b z1 z2 => ?_) (fun r hr => ow r (by omega))) (fun q hq => Or.inl hq)
        by_cases c : k < i ∨ b < j
        · exact hw k b z1 z2 c
        · have : k = i := by omega
          subst this
          refine ⟨fun z => ?_, fun _ => ow _ (by omega)⟩
          have := (hl b (by omega)).2 z
          rw [c0] at this
          exact absurd this (bt_0 (by omega))
      rw [if_neg c0]
      by_cases cb : bt l j
      · have cb' : f123 l (nI j) = 1 := cb
        rw [cb', if_neg (by decide)]
        have ea : nI i * (4 : Int32) + nI j = nI (i * 4 + j) := by
          show nI i * nI 4 + _ = _
          rw [pk_mul, nI_add]
        rw [ea, Wp_gd]
        refine ⟨nbk (by omega) (by omega), ?_⟩
        unfold f13_b37
        rw [Wp_bnd, Wp_bnd, Wp_some, nI_1, nix (by omega)]
        refine Or.inl ⟨rfl, _, rfl, fw.trans FA.u, fun k b z1 z2 z3 => ?_, fun r hr => ?_⟩
        · rw [hI_uI_eq]
          by_cases c : k * 4 + b = i * 4 + j
          · have q1 : k = i := by omega
            have q2 : b = j := by omega
            subst q1 q2
            exact ⟨fun _ => pu_eq, fun z => absurd ((hl b (by omega)).1 cb) z⟩
          · rw [pu_ne c]
            exact hw k b z1 z2 (by omega)
        · rw [hI_uI_eq, pu_ne (by omega)]
          exact ow r (by omega)
      · rw [if_pos (bt_n.1 cb)]
        unfold f13_b37
        rw [Wp_bnd, Wp_some, nI_1]
        refine Or.inl ⟨rfl, _, rfl, fw, fun k b z1 z2 z3 => ?_, fun r hr => ow r (by omega)⟩
        by_cases c : k < i ∨ b < j
        · exact hw k b z1 z2 c
        · have q1 : k = i := by omega
          have q2 : b = j := by omega
          subst q1 q2
          exact ⟨fun z => absurd ((hl b (by omega)).2 z) cb, fun _ => ow _ (by omega)⟩
    · rintro w ⟨fw, hw, ow⟩
      unfold f13_l19
      dsimp only
      rw [if_pos (show (4 : Int32) ≤ nI 4 by decide), Wp_some]
      refine ⟨0, rfl, ?_⟩
      exact Wp_mono (fin w fw (fun k b z1 z2 => hw k b z1 z2 (by omega)) (fun r hr => ow r (by omega))) (fun q hq => Or.inl hq)
  · rintro u ⟨fu, hu, ou⟩
    unfold f13_l2
    dsimp only
    rw [if_pos (show (288 : Int32) ≤ nI 288 by decide), Wp_some]
    refine ⟨0, rfl, ?_⟩
    rw [Wp_some]
    exact ⟨fu, hu⟩
end
