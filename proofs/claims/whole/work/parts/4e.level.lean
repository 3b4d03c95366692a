/-! ===== level ===== -/
section
variable {n L N : Nat} {T : Nat → Tc} {hx hm : Hp}
def ps (a : Nat → Int32) (s : Int32) : Nat → Int32
  | 0 => 0
  | k + 1 => ps a s k + (if f123 s (nI k) = 0 then -(a (90 + k)) else a (90 + k))
def pv (a : Nat → Int32) (c : Nat) (s : Nat) : Int32 := mabs (ps a (nI s) c)
def sel (a : Nat → Int32) (c : Nat) : Nat → Nat × Int32
  | 0 => (0, pv a c 0)
  | k + 1 => if pv a c (k + 1) < (sel a c k).2 then (k + 1, pv a c (k + 1)) else sel a c k
theorem ps_bd {a : Nat → Int32} (h : ∀ j, j < 12 → 0 ≤ (a (90 + j)).toInt ∧ (a (90 + j)).toInt ≤ 99) (s : Int32) : ∀ k : Nat, k ≤ 12 → -(99 * (k : Int)) ≤ (ps a s k).toInt ∧ (ps a s k).toInt ≤ 99 * (k : Int)
  | 0, _ => by
    have : (ps a s 0).toInt = 0 := rfl
    rw [this]; omega
  | k + 1, hk => by
    obtain ⟨h1, h2⟩ := ps_bd h s k (by omega)
    obtain ⟨h3, h4⟩ := h k (by omega)
    show -(99 * ((k + 1 : Nat) : Int)) ≤ (ps a s k + (if f123 s (nI k) = 0 then -(a (90 + k)) else a (90 + k))).toInt ∧ (ps a s k + (if f123 s (nI k) = 0 then -(a (90 + k)) else a (90 + k))).toInt ≤ _
    by_cases c : f123 s (nI k) = 0
    · have e : (-(a (90 + k))).toInt = -(a (90 + k)).toInt := ti_neg (by omega)
      rw [if_pos c, ti_add (by omega) (by omega), e]; omega
    · rw [if_neg c, ti_add (by omega) (by omega)]; omega
theorem mabs_t {x : Int32} (h : -10000 ≤ x.toInt) (h2 : x.toInt ≤ 10000) : (mabs x).toInt = if 0 ≤ x.toInt then x.toInt else -x.toInt := by
  have t0 : (0 : Int32).toInt = 0 := rfl
  unfold mabs
  by_cases c : 0 ≤ x
  · have c' := c
    rw [ti_le, t0] at c'
    rw [if_pos c, if_pos c']
  · have c' := c
    rw [ti_le, t0] at c'
    rw [if_neg c, if_neg c', ti_sub (by omega) (by omega), t0]; omega
theorem pv_0 {a : Nat → Int32} (h : ∀ j, j < 12 → 0 ≤ (a (90 + j)).toInt ∧ (a (90 + j)).toInt ≤ 99) {c : Nat} (hc : c ≤ 12) (s : Nat) : 0 ≤ (pv a c s).toInt := by
  obtain ⟨h1, h2⟩ := ps_bd h (nI s) c hc
  unfold pv
  rw [mabs_t (by omega) (by omega)]
  by_cases k : 0 ≤ (ps a (nI s) c).toInt
  · rw [if_pos k]; exact k
  · rw [if_neg k]; omega
theorem bt_nI {s k : Nat} (h : k < 32) : bt (nI s) k ↔ s.testBit k = true := by
  rw [bt_iff h]
  show (BitVec.ofNat 32 s).getLsbD k = true ↔ _
  rw [BitVec.getLsbD_ofNat]
  have : decide (k < 32) = true := decide_eq_true h
  rw [this, Bool.true_and]
theorem ps_neg {a : Nat → Int32} {c s : Nat} (hc : c ≤ 12) (hs : s < 2 ^ c) : ∀ k, k ≤ c → ps a (nI (2 ^ c - (s + 1))) k = - ps a (nI s) k
  | 0, _ => by
    show (0 : Int32) = -0
    decide
  | k + 1, hk => by
    show ps a (nI (2 ^ c - (s + 1))) k + (if f123 (nI (2 ^ c - (s + 1))) (nI k) = 0 then -(a (90 + k)) else a (90 + k)) = - (ps a (nI s) k + (if f123 (nI s) (nI k) = 0 then -(a (90 + k)) else a (90 + k)))
    rw [ps_neg hc hs k (by omega), Int32.neg_add]
    have e : (f123 (nI (2 ^ c - (s + 1))) (nI k) = 0) ↔ ¬ (f123 (nI s) (nI k) = 0) := by
      rw [← bt_n, ← bt_n, bt_nI (by omega), bt_nI (by omega), Nat.testBit_two_pow_sub_succ hs]
      have : decide (k < c) = true := decide_eq_true (by omega)
      rw [this, Bool.true_and]
      cases s.testBit k <;> simp
    by_cases g : f123 (nI s) (nI k) = 0
    · rw [if_neg (fun z => e.1 z g), if_pos g, Int32.sub_eq_add_neg, Int32.neg_neg]
    · rw [if_pos (e.2 g), if_neg g, Int32.sub_eq_add_neg]
theorem mabs_neg {x : Int32} (h : -10000 ≤ x.toInt) (h2 : x.toInt ≤ 10000) : mabs (-x) = mabs x := by
  have e : (-x).toInt = -x.toInt := ti_neg (by omega)
  rw [ti_eq, mabs_t (by omega) (by omega), mabs_t h h2, e]
  by_cases c : 0 ≤ x.toInt
  · rw [if_pos c]
    by_cases d : 0 ≤ -x.toInt
    · rw [if_pos d]; omega
    · rw [if_neg d]; omega
  · rw [if_neg c, if_pos (by omega)]
theorem pv_neg {a : Nat → Int32} (h : ∀ j, j < 12 → 0 ≤ (a (90 + j)).toInt ∧ (a (90 + j)).toInt ≤ 99) {c s : Nat} (hc : c ≤ 12) (hs : s < 2 ^ c) : pv a c (2 ^ c - (s + 1)) = pv a c s := by
  obtain ⟨h1, h2⟩ := ps_bd h (nI s) c hc
  unfold pv
  rw [ps_neg hc hs c (Nat.le_refl c), mabs_neg (by omega) (by omega)]
theorem sel_pv {a : Nat → Int32} {c : Nat} : ∀ k, (sel a c k).2 = pv a c (sel a c k).1 ∧ (sel a c k).1 ≤ k
  | 0 => ⟨rfl, Nat.le_refl 0⟩
  | k + 1 => by
    show (if pv a c (k + 1) < (sel a c k).2 then (k + 1, pv a c (k + 1)) else sel a c k).2 = _ ∧ _
    by_cases g : pv a c (k + 1) < (sel a c k).2
    · have e : sel a c (k + 1) = (k + 1, pv a c (k + 1)) := if_pos g
      rw [e, if_pos g]; exact ⟨rfl, Nat.le_refl _⟩
    · have e : sel a c (k + 1) = sel a c k := if_neg g
      rw [e, if_neg g]; exact ⟨(sel_pv k).1, Nat.le_succ_of_le (sel_pv k).2⟩
theorem sel_le {a : Nat → Int32} {c : Nat} : ∀ k j, j ≤ k → (sel a c k).2.toInt ≤ (pv a c j).toInt
  | 0, j, h => by
    have : j = 0 := by omega
    subst this; exact Int.le_refl _
  | k + 1, j, h => by
    by_cases g : pv a c (k + 1) < (sel a c k).2
    · have e : sel a c (k + 1) = (k + 1, pv a c (k + 1)) := if_pos g
      rw [e]
      by_cases hj : j = k + 1
      · rw [hj]; exact Int.le_refl _
      · have := sel_le (a := a) (c := c) k j (by omega)
        rw [ti_lt] at g
        show (pv a c (k + 1)).toInt ≤ _
        omega
    · have e : sel a c (k + 1) = sel a c k := if_neg g
      rw [e]
      by_cases hj : j = k + 1
      · rw [hj]; rw [ti_lt] at g; omega
      · exact sel_le k j (by omega)
theorem sel_half {a : Nat → Int32} (h : ∀ j, j < 12 → 0 ≤ (a (90 + j)).toInt ∧ (a (90 + j)).toInt ≤ 99) {c : Nat} (hc : c ≤ 12) : ∀ i, 2 ^ (c - 1) - 1 + i < 2 ^ c → sel a c (2 ^ (c - 1) - 1 + i) = sel a c (2 ^ (c - 1) - 1)
  | 0, _ => rfl
  | i + 1, hi => by
    have ih := sel_half h hc i (by omega)
    have g : ¬ pv a c (2 ^ (c - 1) - 1 + i + 1) < (sel a c (2 ^ (c - 1) - 1 + i)).2 := by
      rw [ti_lt]
      have hp : 0 < 2 ^ (c - 1) := Nat.two_pow_pos _
      have hd : 2 ^ c ≤ 2 * 2 ^ (c - 1) := by
        rcases Nat.eq_zero_or_pos c with rfl | hc0
        · decide
        · have : 2 ^ c = 2 ^ (c - 1) * 2 := by rw [← Nat.pow_succ]; congr 1; omega
          omega
      have e := pv_neg h (c := c) (s := 2 ^ (c - 1) - 1 + i + 1) hc (by omega)
      have := sel_le (a := a) (c := c) (2 ^ (c - 1) - 1 + i) (2 ^ c - (2 ^ (c - 1) - 1 + i + 1 + 1)) (by omega)
      rw [e] at this
      omega
    have e : sel a c (2 ^ (c - 1) - 1 + i + 1) = sel a c (2 ^ (c - 1) - 1 + i) := if_neg g
    show sel a c (2 ^ (c - 1) - 1 + i + 1) = _
    rw [e, ih]
theorem sh_lit : ∀ c, c ≤ 12 → (1 : Int32) <<< (nI c &&& 31) = nI (2 ^ c) ∧ mmax 0 (nI c - 1) = nI (c - 1) := by
  have : ∀ c, c < 13 → (1 : Int32) <<< (nI c &&& 31) = nI (2 ^ c) ∧ mmax 0 (nI c - 1) = nI (c - 1) := by decide
  exact fun c h => this c (by omega)
theorem pow_le : ∀ c, c ≤ 12 → 2 ^ c ≤ 4096 := by
  have : ∀ c, c < 13 → 2 ^ c ≤ 4096 := by decide
  exact fun c h => this c (by omega)
/-- the class's parting -/
theorem part_w (hN : 10000 ≤ N) {a : Nat → Int32} {c : Nat} (hc : c ≤ 12) (e1 : hI hx 35 1 = nI c) (e2 : ∀ j, j < 12 → hI hx 36 j = a (90 + j)) (s : Nat) : Wp (f122 N (nI s) hx) fun q => q = pv a c s := by
  have tc : (nI c).toInt = (c : Int) := ti_nI (by omega)
  unfold f122
  rw [Wp_bind]
  refine Wp_lp (fun m q => ∃ i : Nat, q.2 = nI i ∧ i + m = c ∧ q.1 = ps a (nI s) i) ?_ N c _ (by omega) ⟨0, rfl, by omega, rfl⟩
  rintro m ⟨s1, s2⟩ ⟨i, hs, hi, ha⟩
  dsimp only at hs ha ⊢
  subst hs ha
  have ti : (nI i).toInt = (i : Int) := ti_nI (by omega)
  unfold f122_l4
  dsimp only
  rw [e1]
  by_cases cc : i = c
  · subst cc
    refine Wp_pos (by rw [ti_le]; exact Int.le_refl _) ?_
    rw [Wp_some]
    refine Or.inr ⟨0, rfl, ?_⟩
    rw [Wp_some]; rfl
  · refine Wp_neg (by rw [ti_le, tc, ti]; omega) ?_
    have xi : ix (nI i) = i := nI_clamp (by omega)
    simp only [Wp_ite, Wp_gd, Wp_bnd, Wp_some, f122_b29, xi, e2 i (by omega)]
    refine ⟨fun k => ⟨inb_mk (by omega) (by omega), Or.inl ⟨trivial, m - 1, by omega, i + 1, (nI_succ i).symm, by omega, ?_⟩⟩, fun k => ⟨inb_mk (by omega) (by omega), Or.inl ⟨trivial, m - 1, by omega, i + 1, (nI_succ i).symm, by omega, ?_⟩⟩⟩
    · show _ = ps a (nI s) i + _
      rw [if_pos k]
    · show _ = ps a (nI s) i + _
      rw [if_neg k]
/-- the reference's inner loop -/
theorem partM_w (hN : 10000 ≤ N) {c : Nat} (hc : c ≤ 12) (e1 : hI hm 1 6 = nI c) (x1 x2 x3 : Int32) (s : Nat) : Wp (lp (f222_l25 N x1 x2 x3 (nI s) hm) N ((0 : Int32), (0 : Int32))) fun q => q.2.1 = ps (hI hm 1) (nI s) c := by
  have i6 : ix (6 : Int32) = 6 := rfl
  have tc : (nI c).toInt = (c : Int) := ti_nI (by omega)
  refine Wp_lp (fun m q => ∃ i : Nat, q.2 = nI i ∧ i + m = c ∧ q.1 = ps (hI hm 1) (nI s) i) ?_ N c _ (by omega) ⟨0, rfl, by omega, rfl⟩
  rintro m ⟨s1, s2⟩ ⟨i, hs, hi, ha⟩
  dsimp only at hs ha ⊢
  subst hs ha
  have ti : (nI i).toInt = (i : Int) := ti_nI (by omega)
  unfold f222_l25
  dsimp only
  rw [i6, e1]
  by_cases cc : i = c
  · subst cc
    refine Wp_pos (by rw [ti_le]; exact Int.le_refl _) ?_
    rw [Wp_some]
    exact Or.inr ⟨0, rfl, rfl⟩
  · refine Wp_neg (by rw [ti_le, tc, ti]; omega) ?_
    obtain ⟨y1, y2⟩ := ixa (k := 90) (m := 90) (x := nI i) rfl (by omega) (by omega)
    have y3 : tn (nI i) = i := by unfold tn; omega
    rw [y3] at y2
    simp only [Wp_ite, Wp_gd, Wp_bnd, Wp_some, f222_b50, e141, y2]
    refine ⟨fun k => ⟨inb_mk (by omega) (by omega), Or.inl ⟨trivial, m - 1, by omega, i + 1, (nI_succ i).symm, by omega, ?_⟩⟩, fun k => ⟨inb_mk (by omega) (by omega), Or.inl ⟨trivial, m - 1, by omega, i + 1, (nI_succ i).symm, by omega, ?_⟩⟩⟩
    · show _ = ps (hI hm 1) (nI s) i + _
      rw [if_pos k]
    · show _ = ps (hI hm 1) (nI s) i + _
      rw [if_neg k]
theorem op_level (p1 : Int32) (hN : 10000 ≤ N) (r : Rl n L T hx hm) : Wp (f113 N p1 hx) fun x => Wp (f222 N p1 hm) fun y => x = y := by
  have t0 : (0 : Int32).toInt = 0 := rfl
  have t1 : (1 : Int32).toInt = 1 := rfl
  have i6 : ix (6 : Int32) = 6 := rfl
  obtain ⟨q1, q2⟩ := r.sc.2.2.2.2.1
  obtain ⟨n0, n1, n2⟩ := r.sc.2.2.2.2.2.2.2.2.2.2.2.1
  have q1 : hI hx 35 1 = hI hm 1 6 := q1
  have q2 : ∀ j, j < 12 → hI hx 36 j = hI hm 1 (90 + j) := q2
  have hc12 : tn (hI hm 1 6) ≤ 12 := tn_le n1
  have hc := nI_tn n0
  generalize tn (hI hm 1 6) = c at hc12 hc
  have hc := hc.symm
  rw [hc] at q1
  have hpl := pow_le c hc12
  have hpl2 := pow_le (c - 1) (by omega)
  have hp1 : 0 < 2 ^ (c - 1) := Nat.two_pow_pos _
  have hp2 : 2 ^ (c - 1) ≤ 2 ^ c := Nat.pow_le_pow_right (by omega) (by omega)
  -- the class's set
  have X : Wp (f121 N hx) fun q => q = nI (sel (hI hm 1) c (2 ^ (c - 1) - 1)).1 := by
    unfold f121
    rw [Wp_bind]
    refine Wp_mono (part_w hN hc12 q1 q2 0) (fun v hv => ?_)
    rw [Wp_bind]
    subst hv
    refine Wp_lp (fun m q => ∃ k : Nat, q.2.2 = nI (k + 1) ∧ k + 1 + m = 2 ^ (c - 1) ∧ q.1 = nI (sel (hI hm 1) c k).1 ∧ q.2.1 = (sel (hI hm 1) c k).2) ?_ N (2 ^ (c - 1) - 1) _ (by omega) ⟨0, rfl, by omega, rfl, rfl⟩
    rintro m ⟨s1, s2, s3⟩ ⟨k, hs, hk, ha1, ha2⟩
    dsimp only at hs ha1 ha2 ⊢
    subst hs ha1 ha2
    have tk : (nI (k + 1)).toInt = ((k + 1 : Nat) : Int) := ti_nI (by omega)
    have tp : (nI (2 ^ (c - 1))).toInt = ((2 ^ (c - 1) : Nat) : Int) := ti_nI (by omega)
    unfold f121_l8
    dsimp only
    rw [q1, (sh_lit c hc12).2, (sh_lit (c - 1) (by omega)).1]
    by_cases cc : k + 1 = 2 ^ (c - 1)
    · refine Wp_pos (by rw [ti_le, tk, tp]; omega) ?_
      rw [Wp_some]
      refine Or.inr ⟨0, rfl, ?_⟩
      rw [Wp_some]
      have : 2 ^ (c - 1) - 1 = k := by omega
      rw [this]
    · refine Wp_neg (by rw [ti_le, tk, tp]; omega) ?_
      rw [Wp_bind]
      refine Wp_mono (part_w hN hc12 q1 q2 (k + 1)) (fun v hv => ?_)
      subst hv
      simp only [Wp_ite, f121_b31, Wp_bnd, Wp_some]
      have n3 : nI (k + 1) + 1 = nI (k + 1 + 1) := nI_1 (k + 1)
      refine ⟨fun g => Or.inl ⟨trivial, m - 1, by omega, k + 1, n3, by omega, ?_, ?_⟩, fun g => Or.inl ⟨trivial, m - 1, by omega, k + 1, n3, by omega, ?_, ?_⟩⟩
      · have e : sel (hI hm 1) c (k + 1) = sel (hI hm 1) c k := if_neg (by rw [ti_lt]; rw [ti_le] at g; omega)
        rw [e]
      · have e : sel (hI hm 1) c (k + 1) = sel (hI hm 1) c k := if_neg (by rw [ti_lt]; rw [ti_le] at g; omega)
        rw [e]
      · have e : sel (hI hm 1) c (k + 1) = (k + 1, pv (hI hm 1) c (k + 1)) := if_pos (by rw [ti_lt]; rw [ti_le] at g; omega)
        rw [e]
      · have e : sel (hI hm 1) c (k + 1) = (k + 1, pv (hI hm 1) c (k + 1)) := if_pos (by rw [ti_lt]; rw [ti_le] at g; omega)
        rw [e]
  -- the reference's
  have Y : Wp (lp (f222_l13 N p1 hm) N ((0 : Int32), (-1 : Int32), (0 : Int32))) fun q => q.2.1 = nI (sel (hI hm 1) c (2 ^ c - 1)).1 ∧ q.2.2.1 = (sel (hI hm 1) c (2 ^ c - 1)).2 := by
    refine Wp_lp (fun m q => ∃ k : Nat, q.2.2 = nI k ∧ k + m = 2 ^ c ∧ ((k = 0 ∧ q.2.1 = -1) ∨ (0 < k ∧ q.1 = nI (sel (hI hm 1) c (k - 1)).1 ∧ q.2.1 = (sel (hI hm 1) c (k - 1)).2))) ?_ N (2 ^ c) _ (by omega) ⟨0, rfl, by omega, Or.inl ⟨rfl, rfl⟩⟩
    rintro m ⟨s1, s2, s3⟩ ⟨k, hs, hk, ha⟩
    dsimp only at hs ha ⊢
    subst hs
    have tk : (nI k).toInt = (k : Int) := ti_nI (by omega)
    have tp : (nI (2 ^ c)).toInt = ((2 ^ c : Nat) : Int) := ti_nI (by omega)
    unfold f222_l13
    dsimp only
    rw [i6, hc, (sh_lit c hc12).1]
    by_cases cc : k = 2 ^ c
    · refine Wp_pos (by rw [ti_le, tk, tp]; omega) ?_
      rw [Wp_some]
      rcases ha with ⟨h0, _⟩ | ⟨_, h1, h2⟩
      · omega
      · rw [cc] at h1 h2
        exact Or.inr ⟨0, rfl, h1, h2⟩
    · refine Wp_neg (by rw [ti_le, tk, tp]; omega) ?_
      rw [Wp_bind]
      refine Wp_mono (partM_w hN hc12 hc p1 s1 s2 k) (fun v hv => ?_)
      rw [hv]
      have n3 : nI k + 1 = nI (k + 1) := nI_1 k
      have fin : Wp (f222_b59 N p1 s1 s2 (nI k) (pv (hI hm 1) c k) hm) fun q => (q.1 = 0 ∧ ∃ m', m' < m ∧ ∃ k : Nat, q.2.2.2 = nI k ∧ k + m' = 2 ^ c ∧ ((k = 0 ∧ q.2.2.1 = -1) ∨ (0 < k ∧ q.2.1 = nI (sel (hI hm 1) c (k - 1)).1 ∧ q.2.2.1 = (sel (hI hm 1) c (k - 1)).2))) ∨ (∃ e, q.1 = e + 1 ∧ (q.2.1 = nI (sel (hI hm 1) c (2 ^ c - 1)).1 ∧ q.2.2.1 = (sel (hI hm 1) c (2 ^ c - 1)).2)) := by
        simp only [f222_b59, f222_b65, f222_b69, Wp_ite, Wp_bnd, Wp_some]
        rcases ha with ⟨h0, h1⟩ | ⟨h0, h1, h2⟩
        · subst h0 h1
          exact ⟨fun _ => Or.inl ⟨trivial, m - 1, by omega, 1, n3, by omega, Or.inr ⟨by omega, rfl, rfl⟩⟩, fun z => absurd (by decide) z⟩
        · subst h1 h2
          obtain ⟨k', rfl⟩ : ∃ k', k = k' + 1 := ⟨k - 1, by omega⟩
          have z0 : 0 ≤ (sel (hI hm 1) c (k' + 1 - 1)).2.toInt := by rw [(sel_pv _).1]; exact pv_0 n2 hc12 _
          refine ⟨fun g => absurd g (by rw [ti_lt, t0]; omega), fun _ => ⟨fun g => Or.inl ⟨trivial, m - 1, by omega, k' + 1 + 1, n3, by omega, Or.inr ⟨by omega, ?_, ?_⟩⟩, fun g => Or.inl ⟨trivial, m - 1, by omega, k' + 1 + 1, n3, by omega, Or.inr ⟨by omega, ?_, ?_⟩⟩⟩⟩
          · have e : sel (hI hm 1) c (k' + 1) = (k' + 1, pv (hI hm 1) c (k' + 1)) := if_pos g
            show _ = nI (sel (hI hm 1) c (k' + 1)).1
            rw [e]
          · have e : sel (hI hm 1) c (k' + 1) = (k' + 1, pv (hI hm 1) c (k' + 1)) := if_pos g
            show _ = (sel (hI hm 1) c (k' + 1)).2
            rw [e]
          · have e : sel (hI hm 1) c (k' + 1) = sel (hI hm 1) c k' := if_neg g
            show nI (sel (hI hm 1) c k').1 = nI (sel (hI hm 1) c (k' + 1)).1
            rw [e]
          · have e : sel (hI hm 1) c (k' + 1) = sel (hI hm 1) c k' := if_neg g
            show (sel (hI hm 1) c k').2 = (sel (hI hm 1) c (k' + 1)).2
            rw [e]
      have pe : pv (hI hm 1) c k = if 0 ≤ ps (hI hm 1) (nI k) c then ps (hI hm 1) (nI k) c else 0 - ps (hI hm 1) (nI k) c := rfl
      refine Wp_if (fun g => ?_) (fun g => ?_)
      · rw [if_pos g] at pe
        rw [← pe]; exact fin
      · rw [if_neg g, Int32.zero_sub] at pe
        rw [Wp_bnd, ← pe]; exact fin
  have hh : sel (hI hm 1) c (2 ^ c - 1) = sel (hI hm 1) c (2 ^ (c - 1) - 1) := by
    have := sel_half n2 hc12 (2 ^ c - 2 ^ (c - 1)) (by omega)
    have e : 2 ^ (c - 1) - 1 + (2 ^ c - 2 ^ (c - 1)) = 2 ^ c - 1 := by omega
    rw [e] at this; exact this
  rw [hh] at Y
  obtain ⟨x, ex, hx'⟩ := X
  obtain ⟨y, ey, hy1, hy2⟩ := Y
  obtain ⟨z, ez, hz⟩ := part_w (N := N) hN hc12 q1 q2 (sel (hI hm 1) c (2 ^ (c - 1) - 1)).1
  rw [← hx'] at ez
  by_cases d0 : p1 = 0
  · have e1 : ¬ f139 0 0 1 = 0 := by decide
    subst d0
    simp only [f113, f113_b7, f222, e1, ex, ey, if_true, if_false, Option.bind_some, Wp_some]
    rw [hx', hy1]
  · by_cases d1 : p1 = 1
    · subst d1
      have e1 : ¬ f139 1 0 1 = 0 := by decide
      simp only [f113, f113_b7, f222, d0, e1, ex, ey, ez, if_true, if_false, Option.bind_some, Wp_some]
      rw [hz, hy2, (sel_pv _).1]
    · have e1 : f139 p1 0 1 = 0 := i139.2 (by rw [ti_eq] at d0 d1; omega)
      simp only [f113, f222, d0, d1, e1, if_true, if_false, Wp_some]
end
