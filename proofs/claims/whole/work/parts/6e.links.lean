set_option maxRecDepth 100000 in
set_option maxHeartbeats 4000000 in
theorem f28_b51_l {d N : Nat} {x1 : Int32} {x2 : Int32} {x3 : Int32} {x4 : Int32} {x5 : Int32} {x6 : Int32} {h : Hp} {Q : Option Value → Hp → Prop} {j : Nat} {s' : Int32 × Int32 × Int32 × Int32} (hf : f28_b51 N x1 x2 x3 x4 x5 x6 h = some (j, s')) (hW : WF 0 h) (hd : 0 ≤ d) (k0 : j = 0 → R 0 d 28 8 [some (.ref 37), some (.int x1), some (.int x2), some (.int s'.1), some (.int s'.2.1), some (.int s'.2.2.1), some (.int s'.2.2.2), none] [] h Q) (k1 : j = 1 → R 0 d 28 53 [none, none, some (.int x2), some (.int s'.1), some (.int s'.2.1), some (.int s'.2.2.1), none, none] [] h Q) : R 0 d 28 51 [some (.ref 37), some (.int x1), some (.int x2), some (.int x3), some (.int x4), some (.int x5), some (.int x6), none] [] h Q := by
  unfold f28_b51 at hf
  obtain ⟨v11, e11⟩ : ∃ z : Int32, z = (x6 + (1 : Int32)) := ⟨_, rfl⟩
  replace hf := bnd_some e11 hf
  refine R_iinc [some (.ref 37), some (.int x1), some (.int x2), some (.int x3), some (.int x4), some (.int x5), some (.int v11), none] (i := 51) rfl rfl (by rw [← e11]; rfl) ?_
  refine R_goto (i := 52) rfl ?_
  obtain ⟨hj, hs⟩ := Prod.mk.inj (Option.some.inj hf)
  subst hj
  subst hs
  exact k0 rfl
set_option maxRecDepth 100000 in
set_option maxHeartbeats 4000000 in
theorem f28_l8_l {d N : Nat} {x1 : Int32} {x2 : Int32} {h : Hp} {s : Int32 × Int32 × Int32 × Int32} {Q : Option Value → Hp → Prop} {j : Nat} {s' : Int32 × Int32 × Int32 × Int32} (hf : f28_l8 N x1 x2 h s = some (j, s')) (hW : WF 0 h) (hd : 0 ≤ d) (k0 : j = 0 → R 0 d 28 8 [some (.ref 37), some (.int x1), some (.int x2), some (.int s'.1), some (.int s'.2.1), some (.int s'.2.2.1), some (.int s'.2.2.2), none] [] h Q) (k1 : j = 1 → R 0 d 28 53 [none, none, some (.int x2), some (.int s'.1), some (.int s'.2.1), some (.int s'.2.2.1), none, none] [] h Q) : R 0 d 28 8 [some (.ref 37), some (.int x1), some (.int x2), some (.int s.1), some (.int s.2.1), some (.int s.2.2.1), some (.int s.2.2.2), none] [] h Q := by
  unfold f28_l8 at hf
  refine R_iload (i := 8) rfl rfl ?_
  refine R_aload_n (i := 9) rfl rfl ?_
  refine R_getI hW (i := 10) rfl rfl (Nat.le_of_ble_eq_true rfl) ?_
  refine R_icmpge (i := 11) rfl (fun c1 => ?_) (fun c1 => ?_)
  · rw [if_pos c1] at hf
    obtain ⟨hj, hs⟩ := Prod.mk.inj (Option.some.inj hf)
    subst hj
    subst hs
    refine R_weak [none, none, some (.int x2), some (.int s.1), some (.int s.2.1), some (.int s.2.2.1), none, none] ⟨Or.inl rfl, Or.inl rfl, Or.inr rfl, Or.inr rfl, Or.inr rfl, Or.inr rfl, Or.inl rfl, Or.inr rfl, trivial⟩ ?_
    exact k1 rfl
  · rw [if_neg c1] at hf
    refine R_aload_n (i := 12) rfl rfl ?_
    refine R_getF hW (i := 13) rfl rfl (Nat.le_of_ble_eq_true rfl) rfl ?_
    refine R_iload (i := 14) rfl rfl ?_
    have g2 := gd_some hf
    clear hf
    obtain ⟨g2, hf⟩ := g2
    refine R_iaload hW (i := 15) rfl rfl g2 ?_
    refine R_iload_n (i := 16) rfl rfl ?_
    refine R_icmpgt (i := 17) rfl (fun c3 => ?_) (fun c3 => ?_)
    · rw [if_pos c3] at hf
      obtain ⟨hj, hs⟩ := Prod.mk.inj (Option.some.inj hf)
      subst hj
      subst hs
      refine R_weak [none, none, some (.int x2), some (.int s.1), some (.int s.2.1), some (.int s.2.2.1), none, none] ⟨Or.inl rfl, Or.inl rfl, Or.inr rfl, Or.inr rfl, Or.inr rfl, Or.inr rfl, Or.inl rfl, Or.inr rfl, trivial⟩ ?_
      exact k1 rfl
    · rw [if_neg c3] at hf
      refine R_iconst (i := 18) rfl ?_
      refine R_aload_n (i := 19) rfl rfl ?_
      refine R_getF hW (i := 20) rfl rfl (Nat.le_of_ble_eq_true rfl) rfl ?_
      refine R_iload (i := 21) rfl rfl ?_
      have g4 := gd_some hf
      clear hf
      obtain ⟨g4, hf⟩ := g4
      refine R_iaload hW (i := 22) rfl rfl g4 ?_
      refine R_ishl (i := 23) rfl ?_
      refine R_topi (fun v5 e5 => ?_)
      replace hf := bnd_some e5 hf
      refine R_istore [some (.ref 37), some (.int x1), some (.int x2), some (.int s.1), some (.int s.2.1), some (.int s.2.2.1), some (.int s.2.2.2), some (.int v5)] (i := 24) rfl rfl ?_
      refine R_aload_n (i := 25) rfl rfl ?_
      refine R_getF hW (i := 26) rfl rfl (Nat.le_of_ble_eq_true rfl) rfl ?_
      refine R_iload (i := 27) rfl rfl ?_
      have g6 := gd_some hf
      clear hf
      obtain ⟨g6, hf⟩ := g6
      refine R_iaload hW (i := 28) rfl rfl g6 ?_
      refine R_iload_n (i := 29) rfl rfl ?_
      refine R_icmpge (i := 30) rfl (fun c7 => ?_) (fun c7 => ?_)
      · rw [if_pos c7] at hf
        refine R_aload_n (i := 36) rfl rfl ?_
        refine R_getF hW (i := 37) rfl rfl (Nat.le_of_ble_eq_true rfl) rfl ?_
        refine R_iload (i := 38) rfl rfl ?_
        have g8 := gd_some hf
        clear hf
        obtain ⟨g8, hf⟩ := g8
        refine R_iaload hW (i := 39) rfl rfl g8 ?_
        refine R_iconst (i := 40) rfl ?_
        refine R_icmpne (i := 41) rfl (fun c9 => ?_) (fun c9 => ?_)
        · rw [if_neg c9] at hf
          refine R_iload (i := 47) rfl rfl ?_
          refine R_iload (i := 48) rfl rfl ?_
          refine R_ior (i := 49) rfl ?_
          refine R_topi (fun v10 e10 => ?_)
          replace hf := bnd_some e10 hf
          refine R_istore [some (.ref 37), some (.int x1), some (.int x2), some (.int s.1), some (.int s.2.1), some (.int v10), some (.int s.2.2.2), some (.int v5)] (i := 50) rfl rfl ?_
          refine R_weak [some (.ref 37), some (.int x1), some (.int x2), some (.int s.1), some (.int s.2.1), some (.int v10), some (.int s.2.2.2), none] ⟨Or.inr rfl, Or.inr rfl, Or.inr rfl, Or.inr rfl, Or.inr rfl, Or.inr rfl, Or.inr rfl, Or.inl rfl, trivial⟩ ?_
          exact f28_b51_l hf hW hd k0 k1
        · rw [if_pos c9] at hf
          refine R_iload (i := 42) rfl rfl ?_
          refine R_iload (i := 43) rfl rfl ?_
          refine R_ior (i := 44) rfl ?_
          refine R_topi (fun v12 e12 => ?_)
          replace hf := bnd_some e12 hf
          refine R_istore [some (.ref 37), some (.int x1), some (.int x2), some (.int s.1), some (.int v12), some (.int s.2.2.1), some (.int s.2.2.2), some (.int v5)] (i := 45) rfl rfl ?_
          refine R_goto (i := 46) rfl ?_
          refine R_weak [some (.ref 37), some (.int x1), some (.int x2), some (.int s.1), some (.int v12), some (.int s.2.2.1), some (.int s.2.2.2), none] ⟨Or.inr rfl, Or.inr rfl, Or.inr rfl, Or.inr rfl, Or.inr rfl, Or.inr rfl, Or.inr rfl, Or.inl rfl, trivial⟩ ?_
          exact f28_b51_l hf hW hd k0 k1
      · rw [if_neg c7] at hf
        refine R_iload_n (i := 31) rfl rfl ?_
        refine R_iload (i := 32) rfl rfl ?_
        refine R_ixor (i := 33) rfl ?_
        refine R_topi (fun v13 e13 => ?_)
        replace hf := bnd_some e13 hf
        refine R_istore_n [some (.ref 37), some (.int x1), some (.int x2), some (.int v13), some (.int s.2.1), some (.int s.2.2.1), some (.int s.2.2.2), some (.int v5)] (i := 34) rfl rfl ?_
        refine R_goto (i := 35) rfl ?_
        refine R_weak [some (.ref 37), some (.int x1), some (.int x2), some (.int v13), some (.int s.2.1), some (.int s.2.2.1), some (.int s.2.2.2), none] ⟨Or.inr rfl, Or.inr rfl, Or.inr rfl, Or.inr rfl, Or.inr rfl, Or.inr rfl, Or.inr rfl, Or.inl rfl, trivial⟩ ?_
        exact f28_b51_l hf hW hd k0 k1
set_option maxRecDepth 100000 in
set_option maxHeartbeats 4000000 in
theorem f28_l {d N : Nat} {p1 : Int32} {p2 : Int32} {h : Hp} {Q : Option Value → Hp → Prop} {q : Int32} (hf : f28 N p1 p2 h = some q) (hW : WF 0 h) (hd : 0 ≤ d) (kk : Q (some (.int q)) h) : R 0 d 28 0 [some (.ref 37), some (.int p1), some (.int p2), none, none, none, none, none] [] h Q := by
  unfold f28 at hf
  refine R_iconst (i := 0) rfl ?_
  refine R_istore_n [some (.ref 37), some (.int p1), some (.int p2), some (.int (0 : Int32)), none, none, none, none] (i := 1) rfl rfl ?_
  refine R_iconst (i := 2) rfl ?_
  refine R_istore [some (.ref 37), some (.int p1), some (.int p2), some (.int (0 : Int32)), some (.int (0 : Int32)), none, none, none] (i := 3) rfl rfl ?_
  refine R_iconst (i := 4) rfl ?_
  refine R_istore [some (.ref 37), some (.int p1), some (.int p2), some (.int (0 : Int32)), some (.int (0 : Int32)), some (.int (0 : Int32)), none, none] (i := 5) rfl rfl ?_
  refine R_iconst (i := 6) rfl ?_
  refine R_istore [some (.ref 37), some (.int p1), some (.int p2), some (.int (0 : Int32)), some (.int (0 : Int32)), some (.int (0 : Int32)), some (.int (0 : Int32)), none] (i := 7) rfl rfl ?_
  have zq14 := bind_some hf
  clear hf
  obtain ⟨q14, eq14, hf⟩ := zq14
  refine lp_link (P := fun u8 => R 0 d 28 8 [some (.ref 37), some (.int p1), some (.int p2), some (.int u8.1), some (.int u8.2.1), some (.int u8.2.2.1), some (.int u8.2.2.2), none] [] h Q) (E := fun e u8 => R 0 d 28 53 [none, none, some (.int p2), some (.int u8.1), some (.int u8.2.1), some (.int u8.2.2.1), none, none] [] h Q) (fun s j s' hb k0 ke => f28_l8_l hb hW hd k0 (fun z => ke 0 z)) N ((0 : Int32), (0 : Int32), (0 : Int32), (0 : Int32)) q14.1 q14.2 eq14 ?_
  refine R_iload_n (i := 53) rfl rfl ?_
  refine R_ifeq (i := 54) rfl (fun c15 => ?_) (fun c15 => ?_)
  · rw [if_pos c15] at hf
    refine R_iload_n (i := 61) rfl rfl ?_
    refine R_iload (i := 62) rfl rfl ?_
    refine R_ior (i := 63) rfl ?_
    have hz := Option.some.inj hf
    subst hz
    exact R_iret (i := 64) rfl kk
  · rw [if_neg c15] at hf
    refine R_iload_n (i := 55) rfl rfl ?_
    refine R_iload (i := 56) rfl rfl ?_
    refine R_iconst (i := 57) rfl ?_
    refine R_ixor (i := 58) rfl ?_
    refine R_iand (i := 59) rfl ?_
    refine R_goto (i := 60) rfl ?_
    have hz := Option.some.inj hf
    subst hz
    exact R_iret (i := 64) rfl kk
set_option maxRecDepth 100000 in
set_option maxHeartbeats 4000000 in
theorem f115_l {d N : Nat} {p1 : Int32} {p2 : Int32} {h : Hp} {Q : Option Value → Hp → Prop} {q : Int32} (hf : f115 N p1 p2 h = some q) (hW : WF 0 h) (hd : 1 ≤ d) (kk : Q (some (.int q)) h) : R 0 d 115 0 [some (.ref 0), some (.int p1), some (.int p2)] [] h Q := by
  obtain ⟨d, rfl⟩ : ∃ z, d = z + 1 := ⟨d - 1, by omega⟩
  unfold f115 at hf
  refine R_iload_n (i := 0) rfl rfl ?_
  refine R_iconst (i := 1) rfl ?_
  refine R_icmpne (i := 2) rfl (fun c1 => ?_) (fun c1 => ?_)
  · rw [if_neg c1] at hf
    refine R_iload_n (i := 8) rfl rfl ?_
    refine R_iflt (i := 9) rfl (fun c2 => ?_) (fun c2 => ?_)
    · rw [if_pos c2] at hf
      refine R_iconst (i := 16) rfl ?_
      have hz := Option.some.inj hf
      subst hz
      exact R_iret (i := 17) rfl kk
    · rw [if_neg c2] at hf
      refine R_iload_n (i := 10) rfl rfl ?_
      refine R_aload_n (i := 11) rfl rfl ?_
      refine R_getF hW (i := 12) rfl rfl (Nat.le_of_ble_eq_true rfl) rfl ?_
      refine R_getF hW (i := 13) rfl rfl (Nat.le_of_ble_eq_true rfl) rfl ?_
      refine R_getI hW (i := 14) rfl rfl (Nat.le_of_ble_eq_true rfl) ?_
      refine R_icmple (i := 15) rfl (fun c3 => ?_) (fun c3 => ?_)
      · rw [if_pos c3] at hf
        refine R_aload_n (i := 18) rfl rfl ?_
        refine R_getF hW (i := 19) rfl rfl (Nat.le_of_ble_eq_true rfl) rfl ?_
        refine R_getF hW (i := 20) rfl rfl (Nat.le_of_ble_eq_true rfl) rfl ?_
        refine R_iload_n (i := 21) rfl rfl ?_
        refine R_iload_n (i := 22) rfl rfl ?_
        have zq4 := bind_some hf
        clear hf
        obtain ⟨q4, eq4, hf⟩ := zq4
        refine R_callV (vs := [.int p1, .int p2]) (st' := []) hW (i := 23) rfl rfl rfl (Nat.le_of_ble_eq_true rfl) rfl (Nat.le_of_ble_eq_true rfl) rfl (f28_l eq4 hW (hh rfl hd) ?_)
        have hz := Option.some.inj hf
        subst hz
        exact R_iret (i := 24) rfl kk
      · rw [if_neg c3] at hf
        refine R_iconst (i := 16) rfl ?_
        have hz := Option.some.inj hf
        subst hz
        exact R_iret (i := 17) rfl kk
  · rw [if_pos c1] at hf
    refine R_aload_n (i := 3) rfl rfl ?_
    refine R_getF hW (i := 4) rfl rfl (Nat.le_of_ble_eq_true rfl) rfl ?_
    refine R_getF hW (i := 5) rfl rfl (Nat.le_of_ble_eq_true rfl) rfl ?_
    refine R_getI hW (i := 6) rfl rfl (Nat.le_of_ble_eq_true rfl) ?_
    have hz := Option.some.inj hf
    subst hz
    exact R_iret (i := 7) rfl kk
set_option maxRecDepth 100000 in
set_option maxHeartbeats 4000000 in
theorem f58_l {d N : Nat} {h : Hp} {Q : Option Value → Hp → Prop} {q : Hp} (hf : f58 N h = some q) (hW : WF 0 h) (hd : 5 ≤ d) (kk : WF 0 q → Q (none) q) : R 0 d 58 0 [some (.ref 58), some (.ref 41)] [] h Q := by
  unfold f58 at hf
  refine R_aload_n (i := 0) rfl rfl ?_
  refine R_getF hW (i := 1) rfl rfl (Nat.le_of_ble_eq_true rfl) rfl ?_
  refine R_iconst (i := 2) rfl ?_
  refine R_aload_n (i := 3) rfl rfl ?_
  refine R_getF hW (i := 4) rfl rfl (Nat.le_of_ble_eq_true rfl) rfl ?_
  refine R_iconst (i := 5) rfl ?_
  refine R_bipush (i := 6) rfl ?_
  refine R_copy hW (i := 7) rfl rfl rfl (by decide) (Nat.le_of_ble_eq_true rfl) (hg rfl hd) (fun h2 eh2 => ?_)
  replace hf := bnd_some eh2 hf
  have hW2 : WF 0 h2 := by rw [eh2]; exact hW
  refine R_aload_n (i := 8) rfl rfl ?_
  refine R_getF hW2 (i := 9) rfl rfl (Nat.le_of_ble_eq_true rfl) rfl ?_
  refine R_iconst (i := 10) rfl ?_
  refine R_aload_n (i := 11) rfl rfl ?_
  refine R_getF hW2 (i := 12) rfl rfl (Nat.le_of_ble_eq_true rfl) rfl ?_
  refine R_iconst (i := 13) rfl ?_
  refine R_bipush (i := 14) rfl ?_
  refine R_copy hW2 (i := 15) rfl rfl rfl (by decide) (Nat.le_of_ble_eq_true rfl) (hg rfl hd) (fun h4 eh4 => ?_)
  replace hf := bnd_some eh4 hf
  have hW4 : WF 0 h4 := by rw [eh4]; exact hW2
  refine R_aload_n (i := 16) rfl rfl ?_
  refine R_aload_n (i := 17) rfl rfl ?_
  refine R_getI hW4 (i := 18) rfl rfl (Nat.le_of_ble_eq_true rfl) ?_
  refine R_putI hW4 (i := 19) rfl rfl (Nat.le_of_ble_eq_true rfl) (hg rfl hd) (fun h5 eh5 => ?_)
  replace hf := bnd_some eh5 hf
  have hW5 : WF 0 h5 := by rw [eh5]; exact hW4
  refine R_aload_n (i := 20) rfl rfl ?_
  refine R_aload_n (i := 21) rfl rfl ?_
  refine R_getI hW5 (i := 22) rfl rfl (Nat.le_of_ble_eq_true rfl) ?_
  refine R_putI hW5 (i := 23) rfl rfl (Nat.le_of_ble_eq_true rfl) (hg rfl hd) (fun h6 eh6 => ?_)
  replace hf := bnd_some eh6 hf
  have hW6 : WF 0 h6 := by rw [eh6]; exact hW5
  have hz := Option.some.inj hf
  subst hz
  exact R_vret (i := 24) rfl (kk hW6)
set_option maxRecDepth 100000 in
set_option maxHeartbeats 4000000 in
theorem f85_l {d N : Nat} {h : Hp} {Q : Option Value → Hp → Prop} {q : Hp} (hf : f85 N h = some q) (hW : WF 0 h) (hd : 5 ≤ d) (kk : WF 0 q → Q (none) q) : R 0 d 85 0 [some (.ref 45), some (.ref 28)] [] h Q := by
  unfold f85 at hf
  refine R_aload_n (i := 0) rfl rfl ?_
  refine R_aload_n (i := 1) rfl rfl ?_
  refine R_getI hW (i := 2) rfl rfl (Nat.le_of_ble_eq_true rfl) ?_
  refine R_putI hW (i := 3) rfl rfl (Nat.le_of_ble_eq_true rfl) (hg rfl hd) (fun h1 eh1 => ?_)
  replace hf := bnd_some eh1 hf
  have hW1 : WF 0 h1 := by rw [eh1]; exact hW
  refine R_aload_n (i := 4) rfl rfl ?_
  refine R_aload_n (i := 5) rfl rfl ?_
  refine R_getI hW1 (i := 6) rfl rfl (Nat.le_of_ble_eq_true rfl) ?_
  refine R_putI hW1 (i := 7) rfl rfl (Nat.le_of_ble_eq_true rfl) (hg rfl hd) (fun h2 eh2 => ?_)
  replace hf := bnd_some eh2 hf
  have hW2 : WF 0 h2 := by rw [eh2]; exact hW1
  refine R_aload_n (i := 8) rfl rfl ?_
  refine R_aload_n (i := 9) rfl rfl ?_
  refine R_getI hW2 (i := 10) rfl rfl (Nat.le_of_ble_eq_true rfl) ?_
  refine R_putI hW2 (i := 11) rfl rfl (Nat.le_of_ble_eq_true rfl) (hg rfl hd) (fun h3 eh3 => ?_)
  replace hf := bnd_some eh3 hf
  have hW3 : WF 0 h3 := by rw [eh3]; exact hW2
  refine R_aload_n (i := 12) rfl rfl ?_
  refine R_aload_n (i := 13) rfl rfl ?_
  refine R_getI hW3 (i := 14) rfl rfl (Nat.le_of_ble_eq_true rfl) ?_
  refine R_putI hW3 (i := 15) rfl rfl (Nat.le_of_ble_eq_true rfl) (hg rfl hd) (fun h4 eh4 => ?_)
  replace hf := bnd_some eh4 hf
  have hW4 : WF 0 h4 := by rw [eh4]; exact hW3
  refine R_aload_n (i := 16) rfl rfl ?_
  refine R_aload_n (i := 17) rfl rfl ?_
  refine R_getI hW4 (i := 18) rfl rfl (Nat.le_of_ble_eq_true rfl) ?_
  refine R_putI hW4 (i := 19) rfl rfl (Nat.le_of_ble_eq_true rfl) (hg rfl hd) (fun h5 eh5 => ?_)
  replace hf := bnd_some eh5 hf
  have hW5 : WF 0 h5 := by rw [eh5]; exact hW4
  refine R_aload_n (i := 20) rfl rfl ?_
  refine R_aload_n (i := 21) rfl rfl ?_
  refine R_getI hW5 (i := 22) rfl rfl (Nat.le_of_ble_eq_true rfl) ?_
  refine R_putI hW5 (i := 23) rfl rfl (Nat.le_of_ble_eq_true rfl) (hg rfl hd) (fun h6 eh6 => ?_)
  replace hf := bnd_some eh6 hf
  have hW6 : WF 0 h6 := by rw [eh6]; exact hW5
  refine R_aload_n (i := 24) rfl rfl ?_
  refine R_aload_n (i := 25) rfl rfl ?_
  refine R_getI hW6 (i := 26) rfl rfl (Nat.le_of_ble_eq_true rfl) ?_
  have g7 := gd_some hf
  clear hf
  obtain ⟨g7, hf⟩ := g7
  refine R_putZ hW6 (i := 27) rfl rfl (Nat.le_of_ble_eq_true rfl) g7 (hg rfl hd) (fun h8 eh8 => ?_)
  replace hf := bnd_some eh8 hf
  have hW8 : WF 0 h8 := by rw [eh8]; exact hW6
  have hz := Option.some.inj hf
  subst hz
  exact R_vret (i := 28) rfl (kk hW8)
set_option maxRecDepth 100000 in
set_option maxHeartbeats 4000000 in
theorem f89_l {d N : Nat} {h : Hp} {Q : Option Value → Hp → Prop} {q : Hp} (hf : f89 N h = some q) (hW : WF 0 h) (hd : 5 ≤ d) (kk : WF 0 q → Q (none) q) : R 0 d 89 0 [some (.ref 46), some (.ref 29)] [] h Q := by
  unfold f89 at hf
  refine R_aload_n (i := 0) rfl rfl ?_
  refine R_getF hW (i := 1) rfl rfl (Nat.le_of_ble_eq_true rfl) rfl ?_
  refine R_iconst (i := 2) rfl ?_
  refine R_aload_n (i := 3) rfl rfl ?_
  refine R_getF hW (i := 4) rfl rfl (Nat.le_of_ble_eq_true rfl) rfl ?_
  refine R_iconst (i := 5) rfl ?_
  refine R_bipush (i := 6) rfl ?_
  refine R_copy hW (i := 7) rfl rfl rfl (by decide) (Nat.le_of_ble_eq_true rfl) (hg rfl hd) (fun h2 eh2 => ?_)
  replace hf := bnd_some eh2 hf
  have hW2 : WF 0 h2 := by rw [eh2]; exact hW
  refine R_aload_n (i := 8) rfl rfl ?_
  refine R_getF hW2 (i := 9) rfl rfl (Nat.le_of_ble_eq_true rfl) rfl ?_
  refine R_iconst (i := 10) rfl ?_
  refine R_aload_n (i := 11) rfl rfl ?_
  refine R_getF hW2 (i := 12) rfl rfl (Nat.le_of_ble_eq_true rfl) rfl ?_
  refine R_iconst (i := 13) rfl ?_
  refine R_bipush (i := 14) rfl ?_
  refine R_copy hW2 (i := 15) rfl rfl rfl (by decide) (Nat.le_of_ble_eq_true rfl) (hg rfl hd) (fun h4 eh4 => ?_)
  replace hf := bnd_some eh4 hf
  have hW4 : WF 0 h4 := by rw [eh4]; exact hW2
  refine R_aload_n (i := 16) rfl rfl ?_
  refine R_getF hW4 (i := 17) rfl rfl (Nat.le_of_ble_eq_true rfl) rfl ?_
  refine R_iconst (i := 18) rfl ?_
  refine R_aload_n (i := 19) rfl rfl ?_
  refine R_getF hW4 (i := 20) rfl rfl (Nat.le_of_ble_eq_true rfl) rfl ?_
  refine R_iconst (i := 21) rfl ?_
  refine R_bipush (i := 22) rfl ?_
  refine R_copy hW4 (i := 23) rfl rfl rfl (by decide) (Nat.le_of_ble_eq_true rfl) (hg rfl hd) (fun h6 eh6 => ?_)
  replace hf := bnd_some eh6 hf
  have hW6 : WF 0 h6 := by rw [eh6]; exact hW4
  refine R_aload_n (i := 24) rfl rfl ?_
  refine R_aload_n (i := 25) rfl rfl ?_
  refine R_getI hW6 (i := 26) rfl rfl (Nat.le_of_ble_eq_true rfl) ?_
  refine R_putI hW6 (i := 27) rfl rfl (Nat.le_of_ble_eq_true rfl) (hg rfl hd) (fun h7 eh7 => ?_)
  replace hf := bnd_some eh7 hf
  have hW7 : WF 0 h7 := by rw [eh7]; exact hW6
  refine R_aload_n (i := 28) rfl rfl ?_
  refine R_aload_n (i := 29) rfl rfl ?_
  refine R_getI hW7 (i := 30) rfl rfl (Nat.le_of_ble_eq_true rfl) ?_
  refine R_putI hW7 (i := 31) rfl rfl (Nat.le_of_ble_eq_true rfl) (hg rfl hd) (fun h8 eh8 => ?_)
  replace hf := bnd_some eh8 hf
  have hW8 : WF 0 h8 := by rw [eh8]; exact hW7
  have hz := Option.some.inj hf
  subst hz
  exact R_vret (i := 32) rfl (kk hW8)
set_option maxRecDepth 100000 in
set_option maxHeartbeats 4000000 in
theorem f54_l {d N : Nat} {h : Hp} {Q : Option Value → Hp → Prop} {q : Hp} (hf : f54 N h = some q) (hW : WF 0 h) (hd : 5 ≤ d) (kk : WF 0 q → Q (none) q) : R 0 d 54 0 [some (.ref 50), some (.ref 33)] [] h Q := by
  unfold f54 at hf
  refine R_aload_n (i := 0) rfl rfl ?_
  refine R_getF hW (i := 1) rfl rfl (Nat.le_of_ble_eq_true rfl) rfl ?_
  refine R_iconst (i := 2) rfl ?_
  refine R_aload_n (i := 3) rfl rfl ?_
  refine R_getF hW (i := 4) rfl rfl (Nat.le_of_ble_eq_true rfl) rfl ?_
  refine R_iconst (i := 5) rfl ?_
  refine R_aload_n (i := 6) rfl rfl ?_
  refine R_getF hW (i := 7) rfl rfl (Nat.le_of_ble_eq_true rfl) rfl ?_
  refine R_alen (v := 24) hW (i := 8) rfl rfl rfl ?_
  refine R_aload_n (i := 9) rfl rfl ?_
  refine R_getF hW (i := 10) rfl rfl (Nat.le_of_ble_eq_true rfl) rfl ?_
  refine R_alen (v := 24) hW (i := 11) rfl rfl rfl ?_
  refine R_mmin (i := 12) rfl (hg rfl hd) (Nat.le_of_ble_eq_true rfl) ?_
  have g1 := gd_some hf
  clear hf
  obtain ⟨g1, hf⟩ := g1
  refine R_copy hW (i := 13) rfl rfl rfl g1 (Nat.le_of_ble_eq_true rfl) (hg rfl hd) (fun h2 eh2 => ?_)
  replace hf := bnd_some eh2 hf
  have hW2 : WF 0 h2 := by rw [eh2]; exact hW
  refine R_aload_n (i := 14) rfl rfl ?_
  refine R_aload_n (i := 15) rfl rfl ?_
  refine R_getI hW2 (i := 16) rfl rfl (Nat.le_of_ble_eq_true rfl) ?_
  refine R_putI hW2 (i := 17) rfl rfl (Nat.le_of_ble_eq_true rfl) (hg rfl hd) (fun h3 eh3 => ?_)
  replace hf := bnd_some eh3 hf
  have hW3 : WF 0 h3 := by rw [eh3]; exact hW2
  have hz := Option.some.inj hf
  subst hz
  exact R_vret (i := 18) rfl (kk hW3)
set_option maxRecDepth 100000 in
set_option maxHeartbeats 4000000 in
theorem f54_52_35_l {d N : Nat} {h : Hp} {Q : Option Value → Hp → Prop} {q : Hp} (hf : f54_52_35 N h = some q) (hW : WF 0 h) (hd : 5 ≤ d) (kk : WF 0 q → Q (none) q) : R 0 d 54 0 [some (.ref 52), some (.ref 35)] [] h Q := by
  unfold f54_52_35 at hf
  refine R_aload_n (i := 0) rfl rfl ?_
  refine R_getF hW (i := 1) rfl rfl (Nat.le_of_ble_eq_true rfl) rfl ?_
  refine R_iconst (i := 2) rfl ?_
  refine R_aload_n (i := 3) rfl rfl ?_
  refine R_getF hW (i := 4) rfl rfl (Nat.le_of_ble_eq_true rfl) rfl ?_
  refine R_iconst (i := 5) rfl ?_
  refine R_aload_n (i := 6) rfl rfl ?_
  refine R_getF hW (i := 7) rfl rfl (Nat.le_of_ble_eq_true rfl) rfl ?_
  refine R_alen (v := 12) hW (i := 8) rfl rfl rfl ?_
  refine R_aload_n (i := 9) rfl rfl ?_
  refine R_getF hW (i := 10) rfl rfl (Nat.le_of_ble_eq_true rfl) rfl ?_
  refine R_alen (v := 12) hW (i := 11) rfl rfl rfl ?_
  refine R_mmin (i := 12) rfl (hg rfl hd) (Nat.le_of_ble_eq_true rfl) ?_
  have g1 := gd_some hf
  clear hf
  obtain ⟨g1, hf⟩ := g1
  refine R_copy hW (i := 13) rfl rfl rfl g1 (Nat.le_of_ble_eq_true rfl) (hg rfl hd) (fun h2 eh2 => ?_)
  replace hf := bnd_some eh2 hf
  have hW2 : WF 0 h2 := by rw [eh2]; exact hW
  refine R_aload_n (i := 14) rfl rfl ?_
  refine R_aload_n (i := 15) rfl rfl ?_
  refine R_getI hW2 (i := 16) rfl rfl (Nat.le_of_ble_eq_true rfl) ?_
  refine R_putI hW2 (i := 17) rfl rfl (Nat.le_of_ble_eq_true rfl) (hg rfl hd) (fun h3 eh3 => ?_)
  replace hf := bnd_some eh3 hf
  have hW3 : WF 0 h3 := by rw [eh3]; exact hW2
  have hz := Option.some.inj hf
  subst hz
  exact R_vret (i := 18) rfl (kk hW3)
set_option maxRecDepth 100000 in
set_option maxHeartbeats 4000000 in
theorem f29_l {d N : Nat} {h : Hp} {Q : Option Value → Hp → Prop} {q : Hp} (hf : f29 N h = some q) (hW : WF 0 h) (hd : 5 ≤ d) (kk : WF 0 q → Q (none) q) : R 0 d 29 0 [some (.ref 54), some (.ref 37)] [] h Q := by
  unfold f29 at hf
  refine R_aload_n (i := 0) rfl rfl ?_
  refine R_getF hW (i := 1) rfl rfl (Nat.le_of_ble_eq_true rfl) rfl ?_
  refine R_iconst (i := 2) rfl ?_
  refine R_aload_n (i := 3) rfl rfl ?_
  refine R_getF hW (i := 4) rfl rfl (Nat.le_of_ble_eq_true rfl) rfl ?_
  refine R_iconst (i := 5) rfl ?_
  refine R_bipush (i := 6) rfl ?_
  refine R_copy hW (i := 7) rfl rfl rfl (by decide) (Nat.le_of_ble_eq_true rfl) (hg rfl hd) (fun h2 eh2 => ?_)
  replace hf := bnd_some eh2 hf
  have hW2 : WF 0 h2 := by rw [eh2]; exact hW
  refine R_aload_n (i := 8) rfl rfl ?_
  refine R_getF hW2 (i := 9) rfl rfl (Nat.le_of_ble_eq_true rfl) rfl ?_
  refine R_iconst (i := 10) rfl ?_
  refine R_aload_n (i := 11) rfl rfl ?_
  refine R_getF hW2 (i := 12) rfl rfl (Nat.le_of_ble_eq_true rfl) rfl ?_
  refine R_iconst (i := 13) rfl ?_
  refine R_bipush (i := 14) rfl ?_
  refine R_copy hW2 (i := 15) rfl rfl rfl (by decide) (Nat.le_of_ble_eq_true rfl) (hg rfl hd) (fun h4 eh4 => ?_)
  replace hf := bnd_some eh4 hf
  have hW4 : WF 0 h4 := by rw [eh4]; exact hW2
  refine R_aload_n (i := 16) rfl rfl ?_
  refine R_getF hW4 (i := 17) rfl rfl (Nat.le_of_ble_eq_true rfl) rfl ?_
  refine R_iconst (i := 18) rfl ?_
  refine R_aload_n (i := 19) rfl rfl ?_
  refine R_getF hW4 (i := 20) rfl rfl (Nat.le_of_ble_eq_true rfl) rfl ?_
  refine R_iconst (i := 21) rfl ?_
  refine R_bipush (i := 22) rfl ?_
  refine R_copy hW4 (i := 23) rfl rfl rfl (by decide) (Nat.le_of_ble_eq_true rfl) (hg rfl hd) (fun h6 eh6 => ?_)
  replace hf := bnd_some eh6 hf
  have hW6 : WF 0 h6 := by rw [eh6]; exact hW4
  refine R_aload_n (i := 24) rfl rfl ?_
  refine R_aload_n (i := 25) rfl rfl ?_
  refine R_getI hW6 (i := 26) rfl rfl (Nat.le_of_ble_eq_true rfl) ?_
  refine R_putI hW6 (i := 27) rfl rfl (Nat.le_of_ble_eq_true rfl) (hg rfl hd) (fun h7 eh7 => ?_)
  replace hf := bnd_some eh7 hf
  have hW7 : WF 0 h7 := by rw [eh7]; exact hW6
  refine R_aload_n (i := 28) rfl rfl ?_
  refine R_aload_n (i := 29) rfl rfl ?_
  refine R_getI hW7 (i := 30) rfl rfl (Nat.le_of_ble_eq_true rfl) ?_
  refine R_putI hW7 (i := 31) rfl rfl (Nat.le_of_ble_eq_true rfl) (hg rfl hd) (fun h8 eh8 => ?_)
  replace hf := bnd_some eh8 hf
  have hW8 : WF 0 h8 := by rw [eh8]; exact hW7
  have hz := Option.some.inj hf
  subst hz
  exact R_vret (i := 32) rfl (kk hW8)
set_option maxRecDepth 100000 in
set_option maxHeartbeats 4000000 in
theorem f56_l {d N : Nat} {h : Hp} {Q : Option Value → Hp → Prop} {q : Hp} (hf : f56 N h = some q) (hW : WF 0 h) (hd : 6 ≤ d) (kk : WF 0 q → Q (none) q) : R 0 d 56 0 [some (.ref 44), some (.ref 27)] [] h Q := by
  obtain ⟨d, rfl⟩ : ∃ z, d = z + 1 := ⟨d - 1, by omega⟩
  unfold f56 at hf
  refine R_aload_n (i := 0) rfl rfl ?_
  refine R_getF hW (i := 1) rfl rfl (Nat.le_of_ble_eq_true rfl) rfl ?_
  refine R_aload_n (i := 2) rfl rfl ?_
  refine R_getF hW (i := 3) rfl rfl (Nat.le_of_ble_eq_true rfl) rfl ?_
  have zq1 := bind_some hf
  clear hf
  obtain ⟨q1, eq1, hf⟩ := zq1
  refine R_callV (vs := [.ref 41]) (st' := []) hW (i := 4) rfl rfl rfl (Nat.le_of_ble_eq_true rfl) rfl (Nat.le_of_ble_eq_true rfl) rfl (f58_l eq1 hW (hh rfl hd) (fun hW1 => ?_))
  refine R_aload_n (i := 5) rfl rfl ?_
  refine R_getF hW1 (i := 6) rfl rfl (Nat.le_of_ble_eq_true rfl) rfl ?_
  refine R_aload_n (i := 7) rfl rfl ?_
  refine R_getF hW1 (i := 8) rfl rfl (Nat.le_of_ble_eq_true rfl) rfl ?_
  have zq2 := bind_some hf
  clear hf
  obtain ⟨q2, eq2, hf⟩ := zq2
  refine R_callV (vs := [.ref 28]) (st' := []) hW1 (i := 9) rfl rfl rfl (Nat.le_of_ble_eq_true rfl) rfl (Nat.le_of_ble_eq_true rfl) rfl (f85_l eq2 hW1 (hh rfl hd) (fun hW2 => ?_))
  refine R_aload_n (i := 10) rfl rfl ?_
  refine R_getF hW2 (i := 11) rfl rfl (Nat.le_of_ble_eq_true rfl) rfl ?_
  refine R_aload_n (i := 12) rfl rfl ?_
  refine R_getF hW2 (i := 13) rfl rfl (Nat.le_of_ble_eq_true rfl) rfl ?_
  have zq3 := bind_some hf
  clear hf
  obtain ⟨q3, eq3, hf⟩ := zq3
  refine R_callV (vs := [.ref 29]) (st' := []) hW2 (i := 14) rfl rfl rfl (Nat.le_of_ble_eq_true rfl) rfl (Nat.le_of_ble_eq_true rfl) rfl (f89_l eq3 hW2 (hh rfl hd) (fun hW3 => ?_))
  refine R_aload_n (i := 15) rfl rfl ?_
  refine R_getF hW3 (i := 16) rfl rfl (Nat.le_of_ble_eq_true rfl) rfl ?_
  refine R_aload_n (i := 17) rfl rfl ?_
  refine R_getF hW3 (i := 18) rfl rfl (Nat.le_of_ble_eq_true rfl) rfl ?_
  have zq4 := bind_some hf
  clear hf
  obtain ⟨q4, eq4, hf⟩ := zq4
  refine R_callV (vs := [.ref 33]) (st' := []) hW3 (i := 19) rfl rfl rfl (Nat.le_of_ble_eq_true rfl) rfl (Nat.le_of_ble_eq_true rfl) rfl (f54_l eq4 hW3 (hh rfl hd) (fun hW4 => ?_))
  refine R_aload_n (i := 20) rfl rfl ?_
  refine R_getF hW4 (i := 21) rfl rfl (Nat.le_of_ble_eq_true rfl) rfl ?_
  refine R_aload_n (i := 22) rfl rfl ?_
  refine R_getF hW4 (i := 23) rfl rfl (Nat.le_of_ble_eq_true rfl) rfl ?_
  have zq5 := bind_some hf
  clear hf
  obtain ⟨q5, eq5, hf⟩ := zq5
  refine R_callV (vs := [.ref 35]) (st' := []) hW4 (i := 24) rfl rfl rfl (Nat.le_of_ble_eq_true rfl) rfl (Nat.le_of_ble_eq_true rfl) rfl (f54_52_35_l eq5 hW4 (hh rfl hd) (fun hW5 => ?_))
  refine R_aload_n (i := 25) rfl rfl ?_
  refine R_getF hW5 (i := 26) rfl rfl (Nat.le_of_ble_eq_true rfl) rfl ?_
  refine R_aload_n (i := 27) rfl rfl ?_
  refine R_getF hW5 (i := 28) rfl rfl (Nat.le_of_ble_eq_true rfl) rfl ?_
  have zq6 := bind_some hf
  clear hf
  obtain ⟨q6, eq6, hf⟩ := zq6
  refine R_callV (vs := [.ref 37]) (st' := []) hW5 (i := 29) rfl rfl rfl (Nat.le_of_ble_eq_true rfl) rfl (Nat.le_of_ble_eq_true rfl) rfl (f29_l eq6 hW5 (hh rfl hd) (fun hW6 => ?_))
  refine R_aload_n (i := 30) rfl rfl ?_
  refine R_aload_n (i := 31) rfl rfl ?_
  refine R_getI hW6 (i := 32) rfl rfl (Nat.le_of_ble_eq_true rfl) ?_
  refine R_putI hW6 (i := 33) rfl rfl (Nat.le_of_ble_eq_true rfl) (hg rfl hd) (fun h7 eh7 => ?_)
  replace hf := bnd_some eh7 hf
  have hW7 : WF 0 h7 := by rw [eh7]; exact hW6
  refine R_aload_n (i := 34) rfl rfl ?_
  refine R_aload_n (i := 35) rfl rfl ?_
  refine R_getI hW7 (i := 36) rfl rfl (Nat.le_of_ble_eq_true rfl) ?_
  refine R_putI hW7 (i := 37) rfl rfl (Nat.le_of_ble_eq_true rfl) (hg rfl hd) (fun h8 eh8 => ?_)
  replace hf := bnd_some eh8 hf
  have hW8 : WF 0 h8 := by rw [eh8]; exact hW7
  have hz := Option.some.inj hf
  subst hz
  exact R_vret (i := 38) rfl (kk hW8)
set_option maxRecDepth 100000 in
set_option maxHeartbeats 4000000 in
theorem f116_l {d N : Nat} {h : Hp} {Q : Option Value → Hp → Prop} {q : Int32 × Hp} (hf : f116 N h = some q) (hW : WF 0 h) (hd : 7 ≤ d) (kk : WF 0 q.2 → Q (some (.int q.1)) q.2) : R 0 d 116 0 [some (.ref 0)] [] h Q := by
  obtain ⟨d, rfl⟩ : ∃ z, d = z + 1 := ⟨d - 1, by omega⟩
  unfold f116 at hf
  refine R_aload_n (i := 0) rfl rfl ?_
  refine R_getF hW (i := 1) rfl rfl (Nat.le_of_ble_eq_true rfl) rfl ?_
  refine R_aload_n (i := 2) rfl rfl ?_
  refine R_getF hW (i := 3) rfl rfl (Nat.le_of_ble_eq_true rfl) rfl ?_
  have zq1 := bind_some hf
  clear hf
  obtain ⟨q1, eq1, hf⟩ := zq1
  refine R_callV (vs := [.ref 27]) (st' := []) hW (i := 4) rfl rfl rfl (Nat.le_of_ble_eq_true rfl) rfl (Nat.le_of_ble_eq_true rfl) rfl (f56_l eq1 hW (hh rfl hd) (fun hW1 => ?_))
  refine R_aload_n (i := 5) rfl rfl ?_
  refine R_getF hW1 (i := 6) rfl rfl (Nat.le_of_ble_eq_true rfl) rfl ?_
  refine R_getF hW1 (i := 7) rfl rfl (Nat.le_of_ble_eq_true rfl) rfl ?_
  refine R_getI hW1 (i := 8) rfl rfl (Nat.le_of_ble_eq_true rfl) ?_
  have hz := Option.some.inj hf
  subst hz
  exact R_iret (i := 9) rfl (kk hW1)
set_option maxRecDepth 100000 in
set_option maxHeartbeats 4000000 in
theorem f58_41_58_l {d N : Nat} {h : Hp} {Q : Option Value → Hp → Prop} {q : Hp} (hf : f58_41_58 N h = some q) (hW : WF 0 h) (hd : 5 ≤ d) (kk : WF 0 q → Q (none) q) : R 0 d 58 0 [some (.ref 41), some (.ref 58)] [] h Q := by
  unfold f58_41_58 at hf
  refine R_aload_n (i := 0) rfl rfl ?_
  refine R_getF hW (i := 1) rfl rfl (Nat.le_of_ble_eq_true rfl) rfl ?_
  refine R_iconst (i := 2) rfl ?_
  refine R_aload_n (i := 3) rfl rfl ?_
  refine R_getF hW (i := 4) rfl rfl (Nat.le_of_ble_eq_true rfl) rfl ?_
  refine R_iconst (i := 5) rfl ?_
  refine R_bipush (i := 6) rfl ?_
  refine R_copy hW (i := 7) rfl rfl rfl (by decide) (Nat.le_of_ble_eq_true rfl) (hg rfl hd) (fun h2 eh2 => ?_)
  replace hf := bnd_some eh2 hf
  have hW2 : WF 0 h2 := by rw [eh2]; exact hW
  refine R_aload_n (i := 8) rfl rfl ?_
  refine R_getF hW2 (i := 9) rfl rfl (Nat.le_of_ble_eq_true rfl) rfl ?_
  refine R_iconst (i := 10) rfl ?_
  refine R_aload_n (i := 11) rfl rfl ?_
  refine R_getF hW2 (i := 12) rfl rfl (Nat.le_of_ble_eq_true rfl) rfl ?_
  refine R_iconst (i := 13) rfl ?_
  refine R_bipush (i := 14) rfl ?_
  refine R_copy hW2 (i := 15) rfl rfl rfl (by decide) (Nat.le_of_ble_eq_true rfl) (hg rfl hd) (fun h4 eh4 => ?_)
  replace hf := bnd_some eh4 hf
  have hW4 : WF 0 h4 := by rw [eh4]; exact hW2
  refine R_aload_n (i := 16) rfl rfl ?_
  refine R_aload_n (i := 17) rfl rfl ?_
  refine R_getI hW4 (i := 18) rfl rfl (Nat.le_of_ble_eq_true rfl) ?_
  refine R_putI hW4 (i := 19) rfl rfl (Nat.le_of_ble_eq_true rfl) (hg rfl hd) (fun h5 eh5 => ?_)
  replace hf := bnd_some eh5 hf
  have hW5 : WF 0 h5 := by rw [eh5]; exact hW4
  refine R_aload_n (i := 20) rfl rfl ?_
  refine R_aload_n (i := 21) rfl rfl ?_
  refine R_getI hW5 (i := 22) rfl rfl (Nat.le_of_ble_eq_true rfl) ?_
  refine R_putI hW5 (i := 23) rfl rfl (Nat.le_of_ble_eq_true rfl) (hg rfl hd) (fun h6 eh6 => ?_)
  replace hf := bnd_some eh6 hf
  have hW6 : WF 0 h6 := by rw [eh6]; exact hW5
  have hz := Option.some.inj hf
  subst hz
  exact R_vret (i := 24) rfl (kk hW6)
set_option maxRecDepth 100000 in
set_option maxHeartbeats 4000000 in
theorem f85_28_45_l {d N : Nat} {h : Hp} {Q : Option Value → Hp → Prop} {q : Hp} (hf : f85_28_45 N h = some q) (hW : WF 0 h) (hd : 5 ≤ d) (kk : WF 0 q → Q (none) q) : R 0 d 85 0 [some (.ref 28), some (.ref 45)] [] h Q := by
  unfold f85_28_45 at hf
  refine R_aload_n (i := 0) rfl rfl ?_
  refine R_aload_n (i := 1) rfl rfl ?_
  refine R_getI hW (i := 2) rfl rfl (Nat.le_of_ble_eq_true rfl) ?_
  refine R_putI hW (i := 3) rfl rfl (Nat.le_of_ble_eq_true rfl) (hg rfl hd) (fun h1 eh1 => ?_)
  replace hf := bnd_some eh1 hf
  have hW1 : WF 0 h1 := by rw [eh1]; exact hW
  refine R_aload_n (i := 4) rfl rfl ?_
  refine R_aload_n (i := 5) rfl rfl ?_
  refine R_getI hW1 (i := 6) rfl rfl (Nat.le_of_ble_eq_true rfl) ?_
  refine R_putI hW1 (i := 7) rfl rfl (Nat.le_of_ble_eq_true rfl) (hg rfl hd) (fun h2 eh2 => ?_)
  replace hf := bnd_some eh2 hf
  have hW2 : WF 0 h2 := by rw [eh2]; exact hW1
  refine R_aload_n (i := 8) rfl rfl ?_
  refine R_aload_n (i := 9) rfl rfl ?_
  refine R_getI hW2 (i := 10) rfl rfl (Nat.le_of_ble_eq_true rfl) ?_
  refine R_putI hW2 (i := 11) rfl rfl (Nat.le_of_ble_eq_true rfl) (hg rfl hd) (fun h3 eh3 => ?_)
  replace hf := bnd_some eh3 hf
  have hW3 : WF 0 h3 := by rw [eh3]; exact hW2
  refine R_aload_n (i := 12) rfl rfl ?_
  refine R_aload_n (i := 13) rfl rfl ?_
  refine R_getI hW3 (i := 14) rfl rfl (Nat.le_of_ble_eq_true rfl) ?_
  refine R_putI hW3 (i := 15) rfl rfl (Nat.le_of_ble_eq_true rfl) (hg rfl hd) (fun h4 eh4 => ?_)
  replace hf := bnd_some eh4 hf
  have hW4 : WF 0 h4 := by rw [eh4]; exact hW3
  refine R_aload_n (i := 16) rfl rfl ?_
  refine R_aload_n (i := 17) rfl rfl ?_
  refine R_getI hW4 (i := 18) rfl rfl (Nat.le_of_ble_eq_true rfl) ?_
  refine R_putI hW4 (i := 19) rfl rfl (Nat.le_of_ble_eq_true rfl) (hg rfl hd) (fun h5 eh5 => ?_)
  replace hf := bnd_some eh5 hf
  have hW5 : WF 0 h5 := by rw [eh5]; exact hW4
  refine R_aload_n (i := 20) rfl rfl ?_
  refine R_aload_n (i := 21) rfl rfl ?_
  refine R_getI hW5 (i := 22) rfl rfl (Nat.le_of_ble_eq_true rfl) ?_
  refine R_putI hW5 (i := 23) rfl rfl (Nat.le_of_ble_eq_true rfl) (hg rfl hd) (fun h6 eh6 => ?_)
  replace hf := bnd_some eh6 hf
  have hW6 : WF 0 h6 := by rw [eh6]; exact hW5
  refine R_aload_n (i := 24) rfl rfl ?_
  refine R_aload_n (i := 25) rfl rfl ?_
  refine R_getI hW6 (i := 26) rfl rfl (Nat.le_of_ble_eq_true rfl) ?_
  have g7 := gd_some hf
  clear hf
  obtain ⟨g7, hf⟩ := g7
  refine R_putZ hW6 (i := 27) rfl rfl (Nat.le_of_ble_eq_true rfl) g7 (hg rfl hd) (fun h8 eh8 => ?_)
  replace hf := bnd_some eh8 hf
  have hW8 : WF 0 h8 := by rw [eh8]; exact hW6
  have hz := Option.some.inj hf
  subst hz
  exact R_vret (i := 28) rfl (kk hW8)
set_option maxRecDepth 100000 in
set_option maxHeartbeats 4000000 in
theorem f89_29_46_l {d N : Nat} {h : Hp} {Q : Option Value → Hp → Prop} {q : Hp} (hf : f89_29_46 N h = some q) (hW : WF 0 h) (hd : 5 ≤ d) (kk : WF 0 q → Q (none) q) : R 0 d 89 0 [some (.ref 29), some (.ref 46)] [] h Q := by
  unfold f89_29_46 at hf
  refine R_aload_n (i := 0) rfl rfl ?_
  refine R_getF hW (i := 1) rfl rfl (Nat.le_of_ble_eq_true rfl) rfl ?_
  refine R_iconst (i := 2) rfl ?_
  refine R_aload_n (i := 3) rfl rfl ?_
  refine R_getF hW (i := 4) rfl rfl (Nat.le_of_ble_eq_true rfl) rfl ?_
  refine R_iconst (i := 5) rfl ?_
  refine R_bipush (i := 6) rfl ?_
  refine R_copy hW (i := 7) rfl rfl rfl (by decide) (Nat.le_of_ble_eq_true rfl) (hg rfl hd) (fun h2 eh2 => ?_)
  replace hf := bnd_some eh2 hf
  have hW2 : WF 0 h2 := by rw [eh2]; exact hW
  refine R_aload_n (i := 8) rfl rfl ?_
  refine R_getF hW2 (i := 9) rfl rfl (Nat.le_of_ble_eq_true rfl) rfl ?_
  refine R_iconst (i := 10) rfl ?_
  refine R_aload_n (i := 11) rfl rfl ?_
  refine R_getF hW2 (i := 12) rfl rfl (Nat.le_of_ble_eq_true rfl) rfl ?_
  refine R_iconst (i := 13) rfl ?_
  refine R_bipush (i := 14) rfl ?_
  refine R_copy hW2 (i := 15) rfl rfl rfl (by decide) (Nat.le_of_ble_eq_true rfl) (hg rfl hd) (fun h4 eh4 => ?_)
  replace hf := bnd_some eh4 hf
  have hW4 : WF 0 h4 := by rw [eh4]; exact hW2
  refine R_aload_n (i := 16) rfl rfl ?_
  refine R_getF hW4 (i := 17) rfl rfl (Nat.le_of_ble_eq_true rfl) rfl ?_
  refine R_iconst (i := 18) rfl ?_
  refine R_aload_n (i := 19) rfl rfl ?_
  refine R_getF hW4 (i := 20) rfl rfl (Nat.le_of_ble_eq_true rfl) rfl ?_
  refine R_iconst (i := 21) rfl ?_
  refine R_bipush (i := 22) rfl ?_
  refine R_copy hW4 (i := 23) rfl rfl rfl (by decide) (Nat.le_of_ble_eq_true rfl) (hg rfl hd) (fun h6 eh6 => ?_)
  replace hf := bnd_some eh6 hf
  have hW6 : WF 0 h6 := by rw [eh6]; exact hW4
  refine R_aload_n (i := 24) rfl rfl ?_
  refine R_aload_n (i := 25) rfl rfl ?_
  refine R_getI hW6 (i := 26) rfl rfl (Nat.le_of_ble_eq_true rfl) ?_
  refine R_putI hW6 (i := 27) rfl rfl (Nat.le_of_ble_eq_true rfl) (hg rfl hd) (fun h7 eh7 => ?_)
  replace hf := bnd_some eh7 hf
  have hW7 : WF 0 h7 := by rw [eh7]; exact hW6
  refine R_aload_n (i := 28) rfl rfl ?_
  refine R_aload_n (i := 29) rfl rfl ?_
  refine R_getI hW7 (i := 30) rfl rfl (Nat.le_of_ble_eq_true rfl) ?_
  refine R_putI hW7 (i := 31) rfl rfl (Nat.le_of_ble_eq_true rfl) (hg rfl hd) (fun h8 eh8 => ?_)
  replace hf := bnd_some eh8 hf
  have hW8 : WF 0 h8 := by rw [eh8]; exact hW7
  have hz := Option.some.inj hf
  subst hz
  exact R_vret (i := 32) rfl (kk hW8)
set_option maxRecDepth 100000 in
set_option maxHeartbeats 4000000 in
theorem f54_33_50_l {d N : Nat} {h : Hp} {Q : Option Value → Hp → Prop} {q : Hp} (hf : f54_33_50 N h = some q) (hW : WF 0 h) (hd : 5 ≤ d) (kk : WF 0 q → Q (none) q) : R 0 d 54 0 [some (.ref 33), some (.ref 50)] [] h Q := by
  unfold f54_33_50 at hf
  refine R_aload_n (i := 0) rfl rfl ?_
  refine R_getF hW (i := 1) rfl rfl (Nat.le_of_ble_eq_true rfl) rfl ?_
  refine R_iconst (i := 2) rfl ?_
  refine R_aload_n (i := 3) rfl rfl ?_
  refine R_getF hW (i := 4) rfl rfl (Nat.le_of_ble_eq_true rfl) rfl ?_
  refine R_iconst (i := 5) rfl ?_
  refine R_aload_n (i := 6) rfl rfl ?_
  refine R_getF hW (i := 7) rfl rfl (Nat.le_of_ble_eq_true rfl) rfl ?_
  refine R_alen (v := 24) hW (i := 8) rfl rfl rfl ?_
  refine R_aload_n (i := 9) rfl rfl ?_
  refine R_getF hW (i := 10) rfl rfl (Nat.le_of_ble_eq_true rfl) rfl ?_
  refine R_alen (v := 24) hW (i := 11) rfl rfl rfl ?_
  refine R_mmin (i := 12) rfl (hg rfl hd) (Nat.le_of_ble_eq_true rfl) ?_
  have g1 := gd_some hf
  clear hf
  obtain ⟨g1, hf⟩ := g1
  refine R_copy hW (i := 13) rfl rfl rfl g1 (Nat.le_of_ble_eq_true rfl) (hg rfl hd) (fun h2 eh2 => ?_)
  replace hf := bnd_some eh2 hf
  have hW2 : WF 0 h2 := by rw [eh2]; exact hW
  refine R_aload_n (i := 14) rfl rfl ?_
  refine R_aload_n (i := 15) rfl rfl ?_
  refine R_getI hW2 (i := 16) rfl rfl (Nat.le_of_ble_eq_true rfl) ?_
  refine R_putI hW2 (i := 17) rfl rfl (Nat.le_of_ble_eq_true rfl) (hg rfl hd) (fun h3 eh3 => ?_)
  replace hf := bnd_some eh3 hf
  have hW3 : WF 0 h3 := by rw [eh3]; exact hW2
  have hz := Option.some.inj hf
  subst hz
  exact R_vret (i := 18) rfl (kk hW3)
set_option maxRecDepth 100000 in
set_option maxHeartbeats 4000000 in
theorem f54_35_52_l {d N : Nat} {h : Hp} {Q : Option Value → Hp → Prop} {q : Hp} (hf : f54_35_52 N h = some q) (hW : WF 0 h) (hd : 5 ≤ d) (kk : WF 0 q → Q (none) q) : R 0 d 54 0 [some (.ref 35), some (.ref 52)] [] h Q := by
  unfold f54_35_52 at hf
  refine R_aload_n (i := 0) rfl rfl ?_
  refine R_getF hW (i := 1) rfl rfl (Nat.le_of_ble_eq_true rfl) rfl ?_
  refine R_iconst (i := 2) rfl ?_
  refine R_aload_n (i := 3) rfl rfl ?_
  refine R_getF hW (i := 4) rfl rfl (Nat.le_of_ble_eq_true rfl) rfl ?_
  refine R_iconst (i := 5) rfl ?_
  refine R_aload_n (i := 6) rfl rfl ?_
  refine R_getF hW (i := 7) rfl rfl (Nat.le_of_ble_eq_true rfl) rfl ?_
  refine R_alen (v := 12) hW (i := 8) rfl rfl rfl ?_
  refine R_aload_n (i := 9) rfl rfl ?_
  refine R_getF hW (i := 10) rfl rfl (Nat.le_of_ble_eq_true rfl) rfl ?_
  refine R_alen (v := 12) hW (i := 11) rfl rfl rfl ?_
  refine R_mmin (i := 12) rfl (hg rfl hd) (Nat.le_of_ble_eq_true rfl) ?_
  have g1 := gd_some hf
  clear hf
  obtain ⟨g1, hf⟩ := g1
  refine R_copy hW (i := 13) rfl rfl rfl g1 (Nat.le_of_ble_eq_true rfl) (hg rfl hd) (fun h2 eh2 => ?_)
  replace hf := bnd_some eh2 hf
  have hW2 : WF 0 h2 := by rw [eh2]; exact hW
  refine R_aload_n (i := 14) rfl rfl ?_
  refine R_aload_n (i := 15) rfl rfl ?_
  refine R_getI hW2 (i := 16) rfl rfl (Nat.le_of_ble_eq_true rfl) ?_
  refine R_putI hW2 (i := 17) rfl rfl (Nat.le_of_ble_eq_true rfl) (hg rfl hd) (fun h3 eh3 => ?_)
  replace hf := bnd_some eh3 hf
  have hW3 : WF 0 h3 := by rw [eh3]; exact hW2
  have hz := Option.some.inj hf
  subst hz
  exact R_vret (i := 18) rfl (kk hW3)
set_option maxRecDepth 100000 in
set_option maxHeartbeats 4000000 in
theorem f29_37_54_l {d N : Nat} {h : Hp} {Q : Option Value → Hp → Prop} {q : Hp} (hf : f29_37_54 N h = some q) (hW : WF 0 h) (hd : 5 ≤ d) (kk : WF 0 q → Q (none) q) : R 0 d 29 0 [some (.ref 37), some (.ref 54)] [] h Q := by
  unfold f29_37_54 at hf
  refine R_aload_n (i := 0) rfl rfl ?_
  refine R_getF hW (i := 1) rfl rfl (Nat.le_of_ble_eq_true rfl) rfl ?_
  refine R_iconst (i := 2) rfl ?_
  refine R_aload_n (i := 3) rfl rfl ?_
  refine R_getF hW (i := 4) rfl rfl (Nat.le_of_ble_eq_true rfl) rfl ?_
  refine R_iconst (i := 5) rfl ?_
  refine R_bipush (i := 6) rfl ?_
  refine R_copy hW (i := 7) rfl rfl rfl (by decide) (Nat.le_of_ble_eq_true rfl) (hg rfl hd) (fun h2 eh2 => ?_)
  replace hf := bnd_some eh2 hf
  have hW2 : WF 0 h2 := by rw [eh2]; exact hW
  refine R_aload_n (i := 8) rfl rfl ?_
  refine R_getF hW2 (i := 9) rfl rfl (Nat.le_of_ble_eq_true rfl) rfl ?_
  refine R_iconst (i := 10) rfl ?_
  refine R_aload_n (i := 11) rfl rfl ?_
  refine R_getF hW2 (i := 12) rfl rfl (Nat.le_of_ble_eq_true rfl) rfl ?_
  refine R_iconst (i := 13) rfl ?_
  refine R_bipush (i := 14) rfl ?_
  refine R_copy hW2 (i := 15) rfl rfl rfl (by decide) (Nat.le_of_ble_eq_true rfl) (hg rfl hd) (fun h4 eh4 => ?_)
  replace hf := bnd_some eh4 hf
  have hW4 : WF 0 h4 := by rw [eh4]; exact hW2
  refine R_aload_n (i := 16) rfl rfl ?_
  refine R_getF hW4 (i := 17) rfl rfl (Nat.le_of_ble_eq_true rfl) rfl ?_
  refine R_iconst (i := 18) rfl ?_
  refine R_aload_n (i := 19) rfl rfl ?_
  refine R_getF hW4 (i := 20) rfl rfl (Nat.le_of_ble_eq_true rfl) rfl ?_
  refine R_iconst (i := 21) rfl ?_
  refine R_bipush (i := 22) rfl ?_
  refine R_copy hW4 (i := 23) rfl rfl rfl (by decide) (Nat.le_of_ble_eq_true rfl) (hg rfl hd) (fun h6 eh6 => ?_)
  replace hf := bnd_some eh6 hf
  have hW6 : WF 0 h6 := by rw [eh6]; exact hW4
  refine R_aload_n (i := 24) rfl rfl ?_
  refine R_aload_n (i := 25) rfl rfl ?_
  refine R_getI hW6 (i := 26) rfl rfl (Nat.le_of_ble_eq_true rfl) ?_
  refine R_putI hW6 (i := 27) rfl rfl (Nat.le_of_ble_eq_true rfl) (hg rfl hd) (fun h7 eh7 => ?_)
  replace hf := bnd_some eh7 hf
  have hW7 : WF 0 h7 := by rw [eh7]; exact hW6
  refine R_aload_n (i := 28) rfl rfl ?_
  refine R_aload_n (i := 29) rfl rfl ?_
  refine R_getI hW7 (i := 30) rfl rfl (Nat.le_of_ble_eq_true rfl) ?_
  refine R_putI hW7 (i := 31) rfl rfl (Nat.le_of_ble_eq_true rfl) (hg rfl hd) (fun h8 eh8 => ?_)
  replace hf := bnd_some eh8 hf
  have hW8 : WF 0 h8 := by rw [eh8]; exact hW7
  have hz := Option.some.inj hf
  subst hz
  exact R_vret (i := 32) rfl (kk hW8)
set_option maxRecDepth 100000 in
set_option maxHeartbeats 4000000 in
theorem f56_27_44_l {d N : Nat} {h : Hp} {Q : Option Value → Hp → Prop} {q : Hp} (hf : f56_27_44 N h = some q) (hW : WF 0 h) (hd : 6 ≤ d) (kk : WF 0 q → Q (none) q) : R 0 d 56 0 [some (.ref 27), some (.ref 44)] [] h Q := by
  obtain ⟨d, rfl⟩ : ∃ z, d = z + 1 := ⟨d - 1, by omega⟩
  unfold f56_27_44 at hf
  refine R_aload_n (i := 0) rfl rfl ?_
  refine R_getF hW (i := 1) rfl rfl (Nat.le_of_ble_eq_true rfl) rfl ?_
  refine R_aload_n (i := 2) rfl rfl ?_
  refine R_getF hW (i := 3) rfl rfl (Nat.le_of_ble_eq_true rfl) rfl ?_
  have zq1 := bind_some hf
  clear hf
  obtain ⟨q1, eq1, hf⟩ := zq1
  refine R_callV (vs := [.ref 58]) (st' := []) hW (i := 4) rfl rfl rfl (Nat.le_of_ble_eq_true rfl) rfl (Nat.le_of_ble_eq_true rfl) rfl (f58_41_58_l eq1 hW (hh rfl hd) (fun hW1 => ?_))
  refine R_aload_n (i := 5) rfl rfl ?_
  refine R_getF hW1 (i := 6) rfl rfl (Nat.le_of_ble_eq_true rfl) rfl ?_
  refine R_aload_n (i := 7) rfl rfl ?_
  refine R_getF hW1 (i := 8) rfl rfl (Nat.le_of_ble_eq_true rfl) rfl ?_
  have zq2 := bind_some hf
  clear hf
  obtain ⟨q2, eq2, hf⟩ := zq2
  refine R_callV (vs := [.ref 45]) (st' := []) hW1 (i := 9) rfl rfl rfl (Nat.le_of_ble_eq_true rfl) rfl (Nat.le_of_ble_eq_true rfl) rfl (f85_28_45_l eq2 hW1 (hh rfl hd) (fun hW2 => ?_))
  refine R_aload_n (i := 10) rfl rfl ?_
  refine R_getF hW2 (i := 11) rfl rfl (Nat.le_of_ble_eq_true rfl) rfl ?_
  refine R_aload_n (i := 12) rfl rfl ?_
  refine R_getF hW2 (i := 13) rfl rfl (Nat.le_of_ble_eq_true rfl) rfl ?_
  have zq3 := bind_some hf
  clear hf
  obtain ⟨q3, eq3, hf⟩ := zq3
  refine R_callV (vs := [.ref 46]) (st' := []) hW2 (i := 14) rfl rfl rfl (Nat.le_of_ble_eq_true rfl) rfl (Nat.le_of_ble_eq_true rfl) rfl (f89_29_46_l eq3 hW2 (hh rfl hd) (fun hW3 => ?_))
  refine R_aload_n (i := 15) rfl rfl ?_
  refine R_getF hW3 (i := 16) rfl rfl (Nat.le_of_ble_eq_true rfl) rfl ?_
  refine R_aload_n (i := 17) rfl rfl ?_
  refine R_getF hW3 (i := 18) rfl rfl (Nat.le_of_ble_eq_true rfl) rfl ?_
  have zq4 := bind_some hf
  clear hf
  obtain ⟨q4, eq4, hf⟩ := zq4
  refine R_callV (vs := [.ref 50]) (st' := []) hW3 (i := 19) rfl rfl rfl (Nat.le_of_ble_eq_true rfl) rfl (Nat.le_of_ble_eq_true rfl) rfl (f54_33_50_l eq4 hW3 (hh rfl hd) (fun hW4 => ?_))
  refine R_aload_n (i := 20) rfl rfl ?_
  refine R_getF hW4 (i := 21) rfl rfl (Nat.le_of_ble_eq_true rfl) rfl ?_
  refine R_aload_n (i := 22) rfl rfl ?_
  refine R_getF hW4 (i := 23) rfl rfl (Nat.le_of_ble_eq_true rfl) rfl ?_
  have zq5 := bind_some hf
  clear hf
  obtain ⟨q5, eq5, hf⟩ := zq5
  refine R_callV (vs := [.ref 52]) (st' := []) hW4 (i := 24) rfl rfl rfl (Nat.le_of_ble_eq_true rfl) rfl (Nat.le_of_ble_eq_true rfl) rfl (f54_35_52_l eq5 hW4 (hh rfl hd) (fun hW5 => ?_))
  refine R_aload_n (i := 25) rfl rfl ?_
  refine R_getF hW5 (i := 26) rfl rfl (Nat.le_of_ble_eq_true rfl) rfl ?_
  refine R_aload_n (i := 27) rfl rfl ?_
  refine R_getF hW5 (i := 28) rfl rfl (Nat.le_of_ble_eq_true rfl) rfl ?_
  have zq6 := bind_some hf
  clear hf
  obtain ⟨q6, eq6, hf⟩ := zq6
  refine R_callV (vs := [.ref 54]) (st' := []) hW5 (i := 29) rfl rfl rfl (Nat.le_of_ble_eq_true rfl) rfl (Nat.le_of_ble_eq_true rfl) rfl (f29_37_54_l eq6 hW5 (hh rfl hd) (fun hW6 => ?_))
  refine R_aload_n (i := 30) rfl rfl ?_
  refine R_aload_n (i := 31) rfl rfl ?_
  refine R_getI hW6 (i := 32) rfl rfl (Nat.le_of_ble_eq_true rfl) ?_
  refine R_putI hW6 (i := 33) rfl rfl (Nat.le_of_ble_eq_true rfl) (hg rfl hd) (fun h7 eh7 => ?_)
  replace hf := bnd_some eh7 hf
  have hW7 : WF 0 h7 := by rw [eh7]; exact hW6
  refine R_aload_n (i := 34) rfl rfl ?_
  refine R_aload_n (i := 35) rfl rfl ?_
  refine R_getI hW7 (i := 36) rfl rfl (Nat.le_of_ble_eq_true rfl) ?_
  refine R_putI hW7 (i := 37) rfl rfl (Nat.le_of_ble_eq_true rfl) (hg rfl hd) (fun h8 eh8 => ?_)
  replace hf := bnd_some eh8 hf
  have hW8 : WF 0 h8 := by rw [eh8]; exact hW7
  have hz := Option.some.inj hf
  subst hz
  exact R_vret (i := 38) rfl (kk hW8)
set_option maxRecDepth 100000 in
set_option maxHeartbeats 4000000 in
theorem f117_l {d N : Nat} {h : Hp} {Q : Option Value → Hp → Prop} {q : Int32 × Hp} (hf : f117 N h = some q) (hW : WF 0 h) (hd : 7 ≤ d) (kk : WF 0 q.2 → Q (some (.int q.1)) q.2) : R 0 d 117 0 [some (.ref 0)] [] h Q := by
  obtain ⟨d, rfl⟩ : ∃ z, d = z + 1 := ⟨d - 1, by omega⟩
  unfold f117 at hf
  refine R_aload_n (i := 0) rfl rfl ?_
  refine R_getF hW (i := 1) rfl rfl (Nat.le_of_ble_eq_true rfl) rfl ?_
  refine R_aload_n (i := 2) rfl rfl ?_
  refine R_getF hW (i := 3) rfl rfl (Nat.le_of_ble_eq_true rfl) rfl ?_
  have zq1 := bind_some hf
  clear hf
  obtain ⟨q1, eq1, hf⟩ := zq1
  refine R_callV (vs := [.ref 44]) (st' := []) hW (i := 4) rfl rfl rfl (Nat.le_of_ble_eq_true rfl) rfl (Nat.le_of_ble_eq_true rfl) rfl (f56_27_44_l eq1 hW (hh rfl hd) (fun hW1 => ?_))
  refine R_aload_n (i := 5) rfl rfl ?_
  have zq2 := bind_some hf
  clear hf
  obtain ⟨q2, eq2, hf⟩ := zq2
  refine R_callV (vs := []) (st' := []) hW1 (i := 6) rfl rfl rfl (Nat.le_of_ble_eq_true rfl) rfl (Nat.le_of_ble_eq_true rfl) rfl (f119_l eq2 hW1 (hh rfl hd) (fun hW2 => ?_))
  refine R_aload_n (i := 7) rfl rfl ?_
  refine R_getF hW2 (i := 8) rfl rfl (Nat.le_of_ble_eq_true rfl) rfl ?_
  refine R_getF hW2 (i := 9) rfl rfl (Nat.le_of_ble_eq_true rfl) rfl ?_
  refine R_getI hW2 (i := 10) rfl rfl (Nat.le_of_ble_eq_true rfl) ?_
  have hz := Option.some.inj hf
  subst hz
  exact R_iret (i := 11) rfl (kk hW2)
set_option maxRecDepth 100000 in
set_option maxHeartbeats 4000000 in
theorem f118_b42_l {d N : Nat} {x1 : Int32} {h : Hp} {Q : Option Value → Hp → Prop} {q : Int32} (hf : f118_b42 N x1 h = some q) (hW : WF 0 h) (hd : 1 ≤ d) (kk : Q (some (.int q)) h) : R 0 d 118 42 [some (.ref 0), some (.int x1)] [] h Q := by
  unfold f118_b42 at hf
  refine R_iload_n (i := 42) rfl rfl ?_
  refine R_switch (i := 43) rfl ?_
  refine R_swc (lo := 0) (lo' := 1) (by decide) (fun c3 => ?_) (fun c3 => ?_)
  · rw [if_pos c3] at hf
    refine R_aload_n (i := 44) rfl rfl ?_
    refine R_getF hW (i := 45) rfl rfl (Nat.le_of_ble_eq_true rfl) rfl ?_
    refine R_getF hW (i := 46) rfl rfl (Nat.le_of_ble_eq_true rfl) rfl ?_
    refine R_getI hW (i := 47) rfl rfl (Nat.le_of_ble_eq_true rfl) ?_
    have hz := Option.some.inj hf
    subst hz
    exact R_iret (i := 48) rfl kk
  rw [if_neg c3] at hf
  refine R_swc (lo := 1) (lo' := 2) (by decide) (fun c4 => ?_) (fun c4 => ?_)
  · rw [if_pos c4] at hf
    refine R_aload_n (i := 49) rfl rfl ?_
    refine R_getF hW (i := 50) rfl rfl (Nat.le_of_ble_eq_true rfl) rfl ?_
    refine R_getF hW (i := 51) rfl rfl (Nat.le_of_ble_eq_true rfl) rfl ?_
    refine R_getI hW (i := 52) rfl rfl (Nat.le_of_ble_eq_true rfl) ?_
    have hz := Option.some.inj hf
    subst hz
    exact R_iret (i := 53) rfl kk
  rw [if_neg c4] at hf
  refine R_swc (lo := 2) (lo' := 3) (by decide) (fun c5 => ?_) (fun c5 => ?_)
  · rw [if_pos c5] at hf
    refine R_aload_n (i := 54) rfl rfl ?_
    refine R_getF hW (i := 55) rfl rfl (Nat.le_of_ble_eq_true rfl) rfl ?_
    refine R_getF hW (i := 56) rfl rfl (Nat.le_of_ble_eq_true rfl) rfl ?_
    refine R_getI hW (i := 57) rfl rfl (Nat.le_of_ble_eq_true rfl) ?_
    have hz := Option.some.inj hf
    subst hz
    exact R_iret (i := 58) rfl kk
  rw [if_neg c5] at hf
  refine R_swc (lo := 3) (lo' := 4) (by decide) (fun c6 => ?_) (fun c6 => ?_)
  · rw [if_pos c6] at hf
    refine R_aload_n (i := 59) rfl rfl ?_
    refine R_getF hW (i := 60) rfl rfl (Nat.le_of_ble_eq_true rfl) rfl ?_
    refine R_getI hW (i := 61) rfl rfl (Nat.le_of_ble_eq_true rfl) ?_
    have hz := Option.some.inj hf
    subst hz
    exact R_iret (i := 62) rfl kk
  rw [if_neg c6] at hf
  refine R_swc (lo := 4) (lo' := 5) (by decide) (fun c7 => ?_) (fun c7 => ?_)
  · rw [if_pos c7] at hf
    refine R_aload_n (i := 63) rfl rfl ?_
    refine R_getF hW (i := 64) rfl rfl (Nat.le_of_ble_eq_true rfl) rfl ?_
    refine R_getI hW (i := 65) rfl rfl (Nat.le_of_ble_eq_true rfl) ?_
    have hz := Option.some.inj hf
    subst hz
    exact R_iret (i := 66) rfl kk
  rw [if_neg c7] at hf
  refine R_swc (lo := 5) (lo' := 6) (by decide) (fun c8 => ?_) (fun c8 => ?_)
  · rw [if_pos c8] at hf
    refine R_aload_n (i := 67) rfl rfl ?_
    refine R_getF hW (i := 68) rfl rfl (Nat.le_of_ble_eq_true rfl) rfl ?_
    refine R_getF hW (i := 69) rfl rfl (Nat.le_of_ble_eq_true rfl) rfl ?_
    refine R_getI hW (i := 70) rfl rfl (Nat.le_of_ble_eq_true rfl) ?_
    have hz := Option.some.inj hf
    subst hz
    exact R_iret (i := 71) rfl kk
  rw [if_neg c8] at hf
  refine R_swc (lo := 6) (lo' := 7) (by decide) (fun c9 => ?_) (fun c9 => ?_)
  · rw [if_pos c9] at hf
    refine R_aload_n (i := 72) rfl rfl ?_
    refine R_getF hW (i := 73) rfl rfl (Nat.le_of_ble_eq_true rfl) rfl ?_
    refine R_getF hW (i := 74) rfl rfl (Nat.le_of_ble_eq_true rfl) rfl ?_
    refine R_getI hW (i := 75) rfl rfl (Nat.le_of_ble_eq_true rfl) ?_
    have hz := Option.some.inj hf
    subst hz
    exact R_iret (i := 76) rfl kk
  rw [if_neg c9] at hf
  refine R_swc (lo := 7) (lo' := 8) (by decide) (fun c10 => ?_) (fun c10 => ?_)
  · rw [if_pos c10] at hf
    refine R_aload_n (i := 77) rfl rfl ?_
    refine R_getF hW (i := 78) rfl rfl (Nat.le_of_ble_eq_true rfl) rfl ?_
    refine R_getF hW (i := 79) rfl rfl (Nat.le_of_ble_eq_true rfl) rfl ?_
    refine R_getI hW (i := 80) rfl rfl (Nat.le_of_ble_eq_true rfl) ?_
    have hz := Option.some.inj hf
    subst hz
    exact R_iret (i := 81) rfl kk
  rw [if_neg c10] at hf
  refine R_swc (lo := 8) (lo' := 9) (by decide) (fun c11 => ?_) (fun c11 => ?_)
  · rw [if_pos c11] at hf
    refine R_aload_n (i := 82) rfl rfl ?_
    refine R_getF hW (i := 83) rfl rfl (Nat.le_of_ble_eq_true rfl) rfl ?_
    refine R_getF hW (i := 84) rfl rfl (Nat.le_of_ble_eq_true rfl) rfl ?_
    refine R_getI hW (i := 85) rfl rfl (Nat.le_of_ble_eq_true rfl) ?_
    have hz := Option.some.inj hf
    subst hz
    exact R_iret (i := 86) rfl kk
  rw [if_neg c11] at hf
  refine R_swc (lo := 9) (lo' := 10) (by decide) (fun c12 => ?_) (fun c12 => ?_)
  · rw [if_pos c12] at hf
    refine R_aload_n (i := 87) rfl rfl ?_
    refine R_getF hW (i := 88) rfl rfl (Nat.le_of_ble_eq_true rfl) rfl ?_
    refine R_getI hW (i := 89) rfl rfl (Nat.le_of_ble_eq_true rfl) ?_
    have hz := Option.some.inj hf
    subst hz
    exact R_iret (i := 90) rfl kk
  rw [if_neg c12] at hf
  refine R_swn ?_
  refine R_bipush (i := 91) rfl ?_
  have hz := Option.some.inj hf
  subst hz
  exact R_iret (i := 92) rfl kk
set_option maxRecDepth 100000 in
set_option maxHeartbeats 4000000 in
theorem f118_b15_l {d N : Nat} {x1 : Int32} {h : Hp} {Q : Option Value → Hp → Prop} {q : Int32} (hf : f118_b15 N x1 h = some q) (hW : WF 0 h) (hd : 1 ≤ d) (kk : Q (some (.int q)) h) : R 0 d 118 15 [some (.ref 0), some (.int x1)] [] h Q := by
  obtain ⟨d, rfl⟩ : ∃ z, d = z + 1 := ⟨d - 1, by omega⟩
  unfold f118_b15 at hf
  refine R_iload_n (i := 15) rfl rfl ?_
  refine R_bipush (i := 16) rfl ?_
  refine R_icmplt (i := 17) rfl (fun c2 => ?_) (fun c2 => ?_)
  · rw [if_pos c2] at hf
    exact f118_b42_l hf hW hd kk
  · rw [if_neg c2] at hf
    refine R_iload_n (i := 18) rfl rfl ?_
    refine R_bipush (i := 19) rfl ?_
    refine R_icmpge (i := 20) rfl (fun c13 => ?_) (fun c13 => ?_)
    · rw [if_pos c13] at hf
      exact f118_b42_l hf hW hd kk
    · rw [if_neg c13] at hf
      refine R_aload_n (i := 21) rfl rfl ?_
      refine R_getF hW (i := 22) rfl rfl (Nat.le_of_ble_eq_true rfl) rfl ?_
      refine R_getF hW (i := 23) rfl rfl (Nat.le_of_ble_eq_true rfl) rfl ?_
      refine R_iload_n (i := 24) rfl rfl ?_
      refine R_bipush (i := 25) rfl ?_
      refine R_isub (i := 26) rfl ?_
      refine R_bipush (i := 27) rfl ?_
      refine R_irem (i := 28) rfl (by decide) ?_
      have zq14 := bind_some hf
      clear hf
      obtain ⟨q14, eq14, hf⟩ := zq14
      refine R_callV (vs := [.int (irem (x1 - (20 : Int32)) (12 : Int32))]) (st' := []) hW (i := 29) rfl rfl rfl (Nat.le_of_ble_eq_true rfl) rfl (Nat.le_of_ble_eq_true rfl) rfl (f59_l eq14 hW (hh rfl hd) ?_)
      refine R_ifeq (i := 30) rfl (fun c15 => ?_) (fun c15 => ?_)
      · rw [if_pos c15] at hf
        refine R_bipush (i := 40) rfl ?_
        have hz := Option.some.inj hf
        subst hz
        exact R_iret (i := 41) rfl kk
      · rw [if_neg c15] at hf
        refine R_aload_n (i := 31) rfl rfl ?_
        refine R_getF hW (i := 32) rfl rfl (Nat.le_of_ble_eq_true rfl) rfl ?_
        refine R_getF hW (i := 33) rfl rfl (Nat.le_of_ble_eq_true rfl) rfl ?_
        refine R_getF hW (i := 34) rfl rfl (Nat.le_of_ble_eq_true rfl) rfl ?_
        refine R_iload_n (i := 35) rfl rfl ?_
        refine R_bipush (i := 36) rfl ?_
        refine R_isub (i := 37) rfl ?_
        have g16 := gd_some hf
        clear hf
        obtain ⟨g16, hf⟩ := g16
        refine R_iaload hW (i := 38) rfl rfl g16 ?_
        refine R_goto (i := 39) rfl ?_
        have hz := Option.some.inj hf
        subst hz
        exact R_iret (i := 41) rfl kk
set_option maxRecDepth 100000 in
set_option maxHeartbeats 4000000 in
theorem f118_l {d N : Nat} {p1 : Int32} {h : Hp} {Q : Option Value → Hp → Prop} {q : Int32} (hf : f118 N p1 h = some q) (hW : WF 0 h) (hd : 1 ≤ d) (kk : Q (some (.int q)) h) : R 0 d 118 0 [some (.ref 0), some (.int p1)] [] h Q := by
  unfold f118 at hf
  refine R_iload_n (i := 0) rfl rfl ?_
  refine R_bipush (i := 1) rfl ?_
  refine R_icmplt (i := 2) rfl (fun c1 => ?_) (fun c1 => ?_)
  · rw [if_pos c1] at hf
    exact f118_b15_l hf hW hd kk
  · rw [if_neg c1] at hf
    refine R_iload_n (i := 3) rfl rfl ?_
    refine R_bipush (i := 4) rfl ?_
    refine R_icmpge (i := 5) rfl (fun c17 => ?_) (fun c17 => ?_)
    · rw [if_pos c17] at hf
      exact f118_b15_l hf hW hd kk
    · rw [if_neg c17] at hf
      refine R_aload_n (i := 6) rfl rfl ?_
      refine R_getF hW (i := 7) rfl rfl (Nat.le_of_ble_eq_true rfl) rfl ?_
      refine R_getF hW (i := 8) rfl rfl (Nat.le_of_ble_eq_true rfl) rfl ?_
      refine R_getF hW (i := 9) rfl rfl (Nat.le_of_ble_eq_true rfl) rfl ?_
      refine R_iload_n (i := 10) rfl rfl ?_
      refine R_bipush (i := 11) rfl ?_
      refine R_isub (i := 12) rfl ?_
      have g18 := gd_some hf
      clear hf
      obtain ⟨g18, hf⟩ := g18
      refine R_iaload hW (i := 13) rfl rfl g18 ?_
      have hz := Option.some.inj hf
      subst hz
      exact R_iret (i := 14) rfl kk
set_option maxRecDepth 100000 in
set_option maxHeartbeats 4000000 in
theorem f139_b8_l {d : Nat} {h : Hp} {Q : Option Value → Hp → Prop} (hd : 0 ≤ d) (kk : Q (some (.int (f139_b8))) h) : R 1 d 139 8 [none, none, none] [] h Q := by
  unfold f139_b8 at kk
  refine R_iconst (i := 8) rfl ?_
  exact R_zret (r := 0) (i := 9) rfl (by decide) kk
set_option maxRecDepth 100000 in
set_option maxHeartbeats 4000000 in
theorem f139_l {d : Nat} {p0 : Int32} {p1 : Int32} {p2 : Int32} {h : Hp} {Q : Option Value → Hp → Prop} (hd : 0 ≤ d) (kk : Q (some (.int (f139 p0 p1 p2))) h) : R 1 d 139 0 [some (.int p0), some (.int p1), some (.int p2)] [] h Q := by
  unfold f139 at kk
  refine R_iload_n (i := 0) rfl rfl ?_
  refine R_iload_n (i := 1) rfl rfl ?_
  refine R_icmplt (i := 2) rfl (fun c1 => ?_) (fun c1 => ?_)
  · rw [if_pos c1] at kk
    refine R_weak [none, none, none] ⟨Or.inl rfl, Or.inl rfl, Or.inl rfl, trivial⟩ ?_
    exact f139_b8_l hd kk
  · rw [if_neg c1] at kk
    refine R_iload_n (i := 3) rfl rfl ?_
    refine R_iload_n (i := 4) rfl rfl ?_
    refine R_icmpgt (i := 5) rfl (fun c2 => ?_) (fun c2 => ?_)
    · rw [if_pos c2] at kk
      refine R_weak [none, none, none] ⟨Or.inl rfl, Or.inl rfl, Or.inl rfl, trivial⟩ ?_
      exact f139_b8_l hd kk
    · rw [if_neg c2] at kk
      refine R_iconst (i := 6) rfl ?_
      refine R_goto (i := 7) rfl ?_
      exact R_zret (r := 1) (i := 9) rfl (by decide) kk
set_option maxRecDepth 100000 in
set_option maxHeartbeats 4000000 in
theorem f142_l {d N : Nat} {p1 : Int32} {h : Hp} {Q : Option Value → Hp → Prop} {q : Int32} (hf : f142 N p1 h = some q) (hW : WF 1 h) (hd : 1 ≤ d) (kk : Q (some (.int q)) h) : R 1 d 142 0 [some (.ref 0), some (.int p1)] [] h Q := by
  obtain ⟨d, rfl⟩ : ∃ z, d = z + 1 := ⟨d - 1, by omega⟩
  unfold f142 at hf
  refine R_iload_n (i := 0) rfl rfl ?_
  refine R_iconst (i := 1) rfl ?_
  refine R_aload_n (i := 2) rfl rfl ?_
  refine R_getI hW (i := 3) rfl rfl (Nat.le_of_ble_eq_true rfl) ?_
  refine R_iconst (i := 4) rfl ?_
  refine R_isub (i := 5) rfl ?_
  refine R_call (vs := [.int p1, .int (0 : Int32), .int ((hI h 0 2) - (1 : Int32))]) (st' := []) (i := 6) rfl (by decide) (by decide) rfl rfl (Nat.le_of_ble_eq_true rfl) rfl (f139_l (hh rfl hd) ?_)
  have hz := Option.some.inj hf
  subst hz
  exact R_zret (i := 7) rfl rfl kk
set_option maxRecDepth 100000 in
set_option maxHeartbeats 4000000 in
theorem f145_l {d : Nat} {p0 : Int32} {h : Hp} {Q : Option Value → Hp → Prop} (hd : 0 ≤ d) (kk : Q (some (.int (f145 p0))) h) : R 1 d 145 0 [some (.int p0)] [] h Q := by
  unfold f145 at kk
  refine R_iload_n (i := 0) rfl rfl ?_
  refine R_bipush (i := 1) rfl ?_
  refine R_idiv (i := 2) rfl (by decide) ?_
  refine R_bipush (i := 3) rfl ?_
  refine R_irem (i := 4) rfl (by decide) ?_
  exact R_iret (i := 5) rfl kk
set_option maxRecDepth 100000 in
set_option maxHeartbeats 4000000 in
theorem f147_l {d : Nat} {p0 : Int32} {h : Hp} {Q : Option Value → Hp → Prop} (hd : 0 ≤ d) (kk : Q (some (.int (f147 p0))) h) : R 1 d 147 0 [some (.int p0)] [] h Q := by
  unfold f147 at kk
  refine R_iload_n (i := 0) rfl rfl ?_
  refine R_iconst (i := 1) rfl ?_
  refine R_irem (i := 2) rfl (by decide) ?_
  exact R_iret (i := 3) rfl kk
set_option maxRecDepth 100000 in
set_option maxHeartbeats 4000000 in
theorem f148_b15_l {d N : Nat} {h : Hp} {Q : Option Value → Hp → Prop} {q : Int32} (hf : f148_b15 N h = some q) (hW : WF 1 h) (hd : 2 ≤ d) (kk : Q (some (.int q)) h) : R 1 d 148 15 [none, none] [] h Q := by
  unfold f148_b15 at hf
  refine R_iconst (i := 15) rfl ?_
  have hz := Option.some.inj hf
  subst hz
  exact R_zret (r := 0) (i := 16) rfl (by decide) kk
set_option maxRecDepth 100000 in
set_option maxHeartbeats 4000000 in
theorem f148_l {d N : Nat} {p1 : Int32} {h : Hp} {Q : Option Value → Hp → Prop} {q : Int32} (hf : f148 N p1 h = some q) (hW : WF 1 h) (hd : 2 ≤ d) (kk : Q (some (.int q)) h) : R 1 d 148 0 [some (.ref 0), some (.int p1)] [] h Q := by
  obtain ⟨d, rfl⟩ : ∃ z, d = z + 1 := ⟨d - 1, by omega⟩
  unfold f148 at hf
  refine R_iload_n (i := 0) rfl rfl ?_
  refine R_iconst (i := 1) rfl ?_
  refine R_sipush (i := 2) rfl ?_
  refine R_call (vs := [.int p1, .int (0 : Int32), .int (1439 : Int32)]) (st' := []) (i := 3) rfl (by decide) (by decide) rfl rfl (Nat.le_of_ble_eq_true rfl) rfl (f139_l (hh rfl hd) ?_)
  refine R_ifeq (i := 4) rfl (fun c1 => ?_) (fun c1 => ?_)
  · rw [if_pos c1] at hf
    refine R_weak [none, none] ⟨Or.inl rfl, Or.inl rfl, trivial⟩ ?_
    exact f148_b15_l hf hW hd kk
  · rw [if_neg c1] at hf
    refine R_aload_n (i := 5) rfl rfl ?_
    refine R_iload_n (i := 6) rfl rfl ?_
    refine R_call (vs := [.int p1]) (st' := [.ref 0]) (i := 7) rfl (by decide) (by decide) rfl rfl (Nat.le_of_ble_eq_true rfl) rfl (f145_l (hh rfl hd) ?_)
    have zq2 := bind_some hf
    clear hf
    obtain ⟨q2, eq2, hf⟩ := zq2
    refine R_callV (vs := [.int (f145 p1)]) (st' := []) hW (i := 8) rfl rfl rfl (Nat.le_of_ble_eq_true rfl) rfl (Nat.le_of_ble_eq_true rfl) rfl (f142_l eq2 hW (hh rfl hd) ?_)
    refine R_ifeq (i := 9) rfl (fun c3 => ?_) (fun c3 => ?_)
    · rw [if_pos c3] at hf
      refine R_weak [none, none] ⟨Or.inl rfl, Or.inl rfl, trivial⟩ ?_
      exact f148_b15_l hf hW hd kk
    · rw [if_neg c3] at hf
      refine R_iload_n (i := 10) rfl rfl ?_
      refine R_call (vs := [.int p1]) (st' := []) (i := 11) rfl (by decide) (by decide) rfl rfl (Nat.le_of_ble_eq_true rfl) rfl (f147_l (hh rfl hd) ?_)
      refine R_ifle (i := 12) rfl (fun c4 => ?_) (fun c4 => ?_)
      · rw [if_pos c4] at hf
        refine R_weak [none, none] ⟨Or.inl rfl, Or.inl rfl, trivial⟩ ?_
        exact f148_b15_l hf hW hd kk
      · rw [if_neg c4] at hf
        refine R_iconst (i := 13) rfl ?_
        refine R_goto (i := 14) rfl ?_
        have hz := Option.some.inj hf
        subst hz
        exact R_zret (r := 1) (i := 16) rfl (by decide) kk
set_option maxRecDepth 100000 in
set_option maxHeartbeats 4000000 in
theorem f149_l {d N : Nat} {p1 : Int32} {p2 : Int32} {p3 : Int32} {h : Hp} {Q : Option Value → Hp → Prop} {q : Int32 × Hp} (hf : f149 N p1 p2 p3 h = some q) (hW : WF 1 h) (hd : 5 ≤ d) (kk : WF 1 q.2 → Q (some (.int q.1)) q.2) : R 1 d 149 0 [some (.ref 0), some (.int p1), some (.int p2), some (.int p3)] [] h Q := by
  obtain ⟨d, rfl⟩ : ∃ z, d = z + 1 := ⟨d - 1, by omega⟩
  unfold f149 at hf
  refine R_iload_n (i := 0) rfl rfl ?_
  refine R_iconst (i := 1) rfl ?_
  refine R_iconst (i := 2) rfl ?_
  refine R_call (vs := [.int p1, .int (0 : Int32), .int (2 : Int32)]) (st' := []) (i := 3) rfl (by decide) (by decide) rfl rfl (Nat.le_of_ble_eq_true rfl) rfl (f139_l (hh rfl hd) ?_)
  refine R_ifeq (i := 4) rfl (fun c1 => ?_) (fun c1 => ?_)
  · rw [if_pos c1] at hf
    refine R_iconst (i := 14) rfl ?_
    have hz := Option.some.inj hf
    subst hz
    exact R_zret (r := 0) (i := 15) rfl (by decide) (kk hW)
  · rw [if_neg c1] at hf
    refine R_aload_n (i := 5) rfl rfl ?_
    refine R_iload_n (i := 6) rfl rfl ?_
    have zq2 := bind_some hf
    clear hf
    obtain ⟨q2, eq2, hf⟩ := zq2
    refine R_callV (vs := [.int p2]) (st' := []) hW (i := 7) rfl rfl rfl (Nat.le_of_ble_eq_true rfl) rfl (Nat.le_of_ble_eq_true rfl) rfl (f142_l eq2 hW (hh rfl hd) ?_)
    refine R_ifeq (i := 8) rfl (fun c3 => ?_) (fun c3 => ?_)
    · rw [if_pos c3] at hf
      refine R_iconst (i := 14) rfl ?_
      have hz := Option.some.inj hf
      subst hz
      exact R_zret (r := 0) (i := 15) rfl (by decide) (kk hW)
    · rw [if_neg c3] at hf
      refine R_iload_n (i := 9) rfl rfl ?_
      refine R_iconst (i := 10) rfl ?_
      refine R_bipush (i := 11) rfl ?_
      refine R_call (vs := [.int p3, .int (0 : Int32), .int (9 : Int32)]) (st' := []) (i := 12) rfl (by decide) (by decide) rfl rfl (Nat.le_of_ble_eq_true rfl) rfl (f139_l (hh rfl hd) ?_)
      refine R_ifne (i := 13) rfl (fun c4 => ?_) (fun c4 => ?_)
      · rw [if_neg c4] at hf
        refine R_aload_n (i := 16) rfl rfl ?_
        refine R_getF hW (i := 17) rfl rfl (Nat.le_of_ble_eq_true rfl) rfl ?_
        refine R_bipush (i := 18) rfl ?_
        refine R_bipush (i := 19) rfl ?_
        refine R_iload_n (i := 20) rfl rfl ?_
        refine R_imul (i := 21) rfl ?_
        refine R_iadd (i := 22) rfl ?_
        refine R_iload_n (i := 23) rfl rfl ?_
        refine R_iadd (i := 24) rfl ?_
        refine R_iload_n (i := 25) rfl rfl ?_
        have g5 := gd_some hf
        clear hf
        obtain ⟨g5, hf⟩ := g5
        refine R_iastore hW (i := 26) rfl rfl g5 (hg rfl hd) (fun h6 eh6 => ?_)
        replace hf := bnd_some eh6 hf
        have hW6 : WF 1 h6 := by rw [eh6]; exact hW
        refine R_aload_n (i := 27) rfl rfl ?_
        refine R_iconst (i := 28) rfl ?_
        refine R_putZ hW6 (i := 29) rfl rfl (Nat.le_of_ble_eq_true rfl) (by decide) (hg rfl hd) (fun h7 eh7 => ?_)
        replace hf := bnd_some eh7 hf
        have hW7 : WF 1 h7 := by rw [eh7]; exact hW6
        refine R_iconst (i := 30) rfl ?_
        have hz := Option.some.inj hf
        subst hz
        exact R_zret (r := 1) (i := 31) rfl (by decide) (kk hW7)
      · rw [if_pos c4] at hf
        refine R_iconst (i := 14) rfl ?_
        have hz := Option.some.inj hf
        subst hz
        exact R_zret (r := 0) (i := 15) rfl (by decide) (kk hW)
set_option maxRecDepth 100000 in
set_option maxHeartbeats 4000000 in
theorem f150_l {d N : Nat} {p1 : Int32} {h : Hp} {Q : Option Value → Hp → Prop} {q : Int32 × Hp} (hf : f150 N p1 h = some q) (hW : WF 1 h) (hd : 5 ≤ d) (kk : WF 1 q.2 → Q (some (.int q.1)) q.2) : R 1 d 150 0 [some (.ref 0), some (.int p1)] [] h Q := by
  obtain ⟨d, rfl⟩ : ∃ z, d = z + 1 := ⟨d - 1, by omega⟩
  unfold f150 at hf
  refine R_iload_n (i := 0) rfl rfl ?_
  refine R_iconst (i := 1) rfl ?_
  refine R_iconst (i := 2) rfl ?_
  refine R_aload_n (i := 3) rfl rfl ?_
  refine R_getI hW (i := 4) rfl rfl (Nat.le_of_ble_eq_true rfl) ?_
  refine R_ishl (i := 5) rfl ?_
  refine R_iconst (i := 6) rfl ?_
  refine R_isub (i := 7) rfl ?_
  refine R_call (vs := [.int p1, .int (0 : Int32), .int (((1 : Int32) <<< ((hI h 0 2) &&& 31)) - (1 : Int32))]) (st' := []) (i := 8) rfl (by decide) (by decide) rfl rfl (Nat.le_of_ble_eq_true rfl) rfl (f139_l (hh rfl hd) ?_)
  refine R_ifne (i := 9) rfl (fun c1 => ?_) (fun c1 => ?_)
  · rw [if_neg c1] at hf
    refine R_aload_n (i := 12) rfl rfl ?_
    refine R_getF hW (i := 13) rfl rfl (Nat.le_of_ble_eq_true rfl) rfl ?_
    refine R_iconst (i := 14) rfl ?_
    refine R_iload_n (i := 15) rfl rfl ?_
    refine R_iastore hW (i := 16) rfl rfl (by decide) (hg rfl hd) (fun h2 eh2 => ?_)
    replace hf := bnd_some eh2 hf
    have hW2 : WF 1 h2 := by rw [eh2]; exact hW
    refine R_aload_n (i := 17) rfl rfl ?_
    refine R_iconst (i := 18) rfl ?_
    refine R_putZ hW2 (i := 19) rfl rfl (Nat.le_of_ble_eq_true rfl) (by decide) (hg rfl hd) (fun h3 eh3 => ?_)
    replace hf := bnd_some eh3 hf
    have hW3 : WF 1 h3 := by rw [eh3]; exact hW2
    refine R_iconst (i := 20) rfl ?_
    have hz := Option.some.inj hf
    subst hz
    exact R_zret (r := 1) (i := 21) rfl (by decide) (kk hW3)
  · rw [if_pos c1] at hf
    refine R_iconst (i := 10) rfl ?_
    have hz := Option.some.inj hf
    subst hz
    exact R_zret (r := 0) (i := 11) rfl (by decide) (kk hW)
set_option maxRecDepth 100000 in
set_option maxHeartbeats 4000000 in
theorem f151_l {d N : Nat} {p1 : Int32} {p2 : Int32} {h : Hp} {Q : Option Value → Hp → Prop} {q : Int32 × Hp} (hf : f151 N p1 p2 h = some q) (hW : WF 1 h) (hd : 5 ≤ d) (kk : WF 1 q.2 → Q (some (.int q.1)) q.2) : R 1 d 151 0 [some (.ref 0), some (.int p1), some (.int p2)] [] h Q := by
  obtain ⟨d, rfl⟩ : ∃ z, d = z + 1 := ⟨d - 1, by omega⟩
  unfold f151 at hf
  refine R_iload_n (i := 0) rfl rfl ?_
  refine R_iconst (i := 1) rfl ?_
  refine R_bipush (i := 2) rfl ?_
  refine R_call (vs := [.int p1, .int (0 : Int32), .int (7 : Int32)]) (st' := []) (i := 3) rfl (by decide) (by decide) rfl rfl (Nat.le_of_ble_eq_true rfl) rfl (f139_l (hh rfl hd) ?_)
  refine R_ifeq (i := 4) rfl (fun c1 => ?_) (fun c1 => ?_)
  · rw [if_pos c1] at hf
    refine R_iconst (i := 10) rfl ?_
    have hz := Option.some.inj hf
    subst hz
    exact R_zret (r := 0) (i := 11) rfl (by decide) (kk hW)
  · rw [if_neg c1] at hf
    refine R_iload_n (i := 5) rfl rfl ?_
    refine R_iconst (i := 6) rfl ?_
    refine R_bipush (i := 7) rfl ?_
    refine R_call (vs := [.int p2, .int (1 : Int32), .int (15 : Int32)]) (st' := []) (i := 8) rfl (by decide) (by decide) rfl rfl (Nat.le_of_ble_eq_true rfl) rfl (f139_l (hh rfl hd) ?_)
    refine R_ifne (i := 9) rfl (fun c2 => ?_) (fun c2 => ?_)
    · rw [if_neg c2] at hf
      refine R_aload_n (i := 12) rfl rfl ?_
      refine R_getF hW (i := 13) rfl rfl (Nat.le_of_ble_eq_true rfl) rfl ?_
      refine R_bipush (i := 14) rfl ?_
      refine R_iload_n (i := 15) rfl rfl ?_
      refine R_iadd (i := 16) rfl ?_
      refine R_iload_n (i := 17) rfl rfl ?_
      have g3 := gd_some hf
      clear hf
      obtain ⟨g3, hf⟩ := g3
      refine R_iastore hW (i := 18) rfl rfl g3 (hg rfl hd) (fun h4 eh4 => ?_)
      replace hf := bnd_some eh4 hf
      have hW4 : WF 1 h4 := by rw [eh4]; exact hW
      refine R_iconst (i := 19) rfl ?_
      have hz := Option.some.inj hf
      subst hz
      exact R_zret (r := 1) (i := 20) rfl (by decide) (kk hW4)
    · rw [if_pos c2] at hf
      refine R_iconst (i := 10) rfl ?_
      have hz := Option.some.inj hf
      subst hz
      exact R_zret (r := 0) (i := 11) rfl (by decide) (kk hW)
set_option maxRecDepth 100000 in
set_option maxHeartbeats 4000000 in
theorem f152_l {d N : Nat} {p1 : Int32} {h : Hp} {Q : Option Value → Hp → Prop} {q : Int32 × Hp} (hf : f152 N p1 h = some q) (hW : WF 1 h) (hd : 5 ≤ d) (kk : WF 1 q.2 → Q (some (.int q.1)) q.2) : R 1 d 152 0 [some (.ref 0), some (.int p1)] [] h Q := by
  obtain ⟨d, rfl⟩ : ∃ z, d = z + 1 := ⟨d - 1, by omega⟩
  unfold f152 at hf
  refine R_iload_n (i := 0) rfl rfl ?_
  refine R_iconst (i := 1) rfl ?_
  refine R_bipush (i := 2) rfl ?_
  refine R_call (vs := [.int p1, .int (0 : Int32), .int (99 : Int32)]) (st' := []) (i := 3) rfl (by decide) (by decide) rfl rfl (Nat.le_of_ble_eq_true rfl) rfl (f139_l (hh rfl hd) ?_)
  refine R_ifne (i := 4) rfl (fun c1 => ?_) (fun c1 => ?_)
  · rw [if_neg c1] at hf
    refine R_aload_n (i := 7) rfl rfl ?_
    refine R_getF hW (i := 8) rfl rfl (Nat.le_of_ble_eq_true rfl) rfl ?_
    refine R_iconst (i := 9) rfl ?_
    refine R_iload_n (i := 10) rfl rfl ?_
    refine R_iastore hW (i := 11) rfl rfl (by decide) (hg rfl hd) (fun h2 eh2 => ?_)
    replace hf := bnd_some eh2 hf
    have hW2 : WF 1 h2 := by rw [eh2]; exact hW
    refine R_aload_n (i := 12) rfl rfl ?_
    refine R_iconst (i := 13) rfl ?_
    refine R_putZ hW2 (i := 14) rfl rfl (Nat.le_of_ble_eq_true rfl) (by decide) (hg rfl hd) (fun h3 eh3 => ?_)
    replace hf := bnd_some eh3 hf
    have hW3 : WF 1 h3 := by rw [eh3]; exact hW2
    refine R_iconst (i := 15) rfl ?_
    have hz := Option.some.inj hf
    subst hz
    exact R_zret (r := 1) (i := 16) rfl (by decide) (kk hW3)
  · rw [if_pos c1] at hf
    refine R_iconst (i := 5) rfl ?_
    have hz := Option.some.inj hf
    subst hz
    exact R_zret (r := 0) (i := 6) rfl (by decide) (kk hW)
set_option maxRecDepth 100000 in
set_option maxHeartbeats 4000000 in
theorem f153_l2_l {d N : Nat} {x1 : Int32} {s : Int32 × Hp} {Q : Option Value → Hp → Prop} {j : Nat} {s' : Int32 × Hp} (hf : f153_l2 N x1 s = some (j, s')) (hW : WF 1 s.2) (hd : 5 ≤ d) (k0 : j = 0 → WF 1 s'.2 → R 1 d 153 2 [some (.ref 0), some (.int x1), some (.int s'.1)] [] s'.2 Q) (k1 : j = 1 → WF 1 s'.2 → R 1 d 153 22 [none, none, none] [] s'.2 Q) : R 1 d 153 2 [some (.ref 0), some (.int x1), some (.int s.1)] [] s.2 Q := by
  unfold f153_l2 at hf
  refine R_iload_n (i := 2) rfl rfl ?_
  refine R_iflt (i := 3) rfl (fun c1 => ?_) (fun c1 => ?_)
  · rw [if_pos c1] at hf
    obtain ⟨hj, hs⟩ := Prod.mk.inj (Option.some.inj hf)
    subst hj
    subst hs
    refine R_weak [none, none, none] ⟨Or.inl rfl, Or.inl rfl, Or.inl rfl, trivial⟩ ?_
    exact k1 rfl hW
  · rw [if_neg c1] at hf
    refine R_aload_n (i := 4) rfl rfl ?_
    refine R_getF hW (i := 5) rfl rfl (Nat.le_of_ble_eq_true rfl) rfl ?_
    refine R_aload_n (i := 6) rfl rfl ?_
    refine R_getI hW (i := 7) rfl rfl (Nat.le_of_ble_eq_true rfl) ?_
    refine R_iload_n (i := 8) rfl rfl ?_
    refine R_iload_n (i := 9) rfl rfl ?_
    refine R_ishr (i := 10) rfl ?_
    refine R_sipush (i := 11) rfl ?_
    refine R_iand (i := 12) rfl ?_
    have g2 := gd_some hf
    clear hf
    obtain ⟨g2, hf⟩ := g2
    refine R_iastore hW (i := 13) rfl rfl g2 (hg rfl hd) (fun h3 eh3 => ?_)
    replace hf := bnd_some eh3 hf
    have hW3 : WF 1 h3 := by rw [eh3]; exact hW
    refine R_aload_n (i := 14) rfl rfl ?_
    refine R_dup (i := 15) rfl rfl ?_
    refine R_getI hW3 (i := 16) rfl rfl (Nat.le_of_ble_eq_true rfl) ?_
    refine R_iconst (i := 17) rfl ?_
    refine R_iadd (i := 18) rfl ?_
    refine R_putI hW3 (i := 19) rfl rfl (Nat.le_of_ble_eq_true rfl) (hg rfl hd) (fun h4 eh4 => ?_)
    replace hf := bnd_some eh4 hf
    have hW4 : WF 1 h4 := by rw [eh4]; exact hW3
    obtain ⟨v5, e5⟩ : ∃ z : Int32, z = (s.1 + (-8 : Int32)) := ⟨_, rfl⟩
    replace hf := bnd_some e5 hf
    refine R_iinc [some (.ref 0), some (.int x1), some (.int v5)] (i := 20) rfl rfl (by rw [← e5]; rfl) ?_
    refine R_goto (i := 21) rfl ?_
    obtain ⟨hj, hs⟩ := Prod.mk.inj (Option.some.inj hf)
    subst hj
    subst hs
    exact k0 rfl hW4
set_option maxRecDepth 100000 in
set_option maxHeartbeats 4000000 in
theorem f153_l {d N : Nat} {p1 : Int32} {h : Hp} {Q : Option Value → Hp → Prop} {q : Hp} (hf : f153 N p1 h = some q) (hW : WF 1 h) (hd : 5 ≤ d) (kk : WF 1 q → Q (none) q) : R 1 d 153 0 [some (.ref 0), some (.int p1), none] [] h Q := by
  unfold f153 at hf
  refine R_bipush (i := 0) rfl ?_
  refine R_istore_n [some (.ref 0), some (.int p1), some (.int (24 : Int32))] (i := 1) rfl rfl ?_
  have zq6 := bind_some hf
  clear hf
  obtain ⟨q6, eq6, hf⟩ := zq6
  refine lp_link (P := fun u2 => WF 1 u2.2 → R 1 d 153 2 [some (.ref 0), some (.int p1), some (.int u2.1)] [] u2.2 Q) (E := fun e u2 => WF 1 u2.2 → R 1 d 153 22 [none, none, none] [] u2.2 Q) (fun s j s' hb k0 ke hWs => f153_l2_l hb hWs hd k0 (fun z y => ke 0 z y)) N ((24 : Int32), h) q6.1 q6.2 eq6 ?_ hW
  intro hW6
  have hz := Option.some.inj hf
  subst hz
  exact R_vret (i := 22) rfl (kk hW6)
set_option maxRecDepth 100000 in
set_option maxHeartbeats 4000000 in
theorem f154_l {d N : Nat} {p1 : Int32} {p2 : Int32} {p3 : Int32} {p4 : Int32} {p5 : Int32} {h : Hp} {Q : Option Value → Hp → Prop} {q : Int32 × Hp} (hf : f154 N p1 p2 p3 p4 p5 h = some q) (hW : WF 1 h) (hd : 6 ≤ d) (kk : WF 1 q.2 → Q (some (.int q.1)) q.2) : R 1 d 154 0 [some (.ref 0), some (.int p1), some (.int p2), some (.int p3), some (.int p4), some (.int p5)] [] h Q := by
  obtain ⟨d, rfl⟩ : ∃ z, d = z + 1 := ⟨d - 1, by omega⟩
  unfold f154 at hf
  refine R_aload_n (i := 0) rfl rfl ?_
  refine R_getI hW (i := 1) rfl rfl (Nat.le_of_ble_eq_true rfl) ?_
  refine R_bipush (i := 2) rfl ?_
  refine R_iadd (i := 3) rfl ?_
  refine R_sipush (i := 4) rfl ?_
  refine R_icmple (i := 5) rfl (fun c1 => ?_) (fun c1 => ?_)
  · rw [if_pos c1] at hf
    refine R_aload_n (i := 8) rfl rfl ?_
    refine R_iload_n (i := 9) rfl rfl ?_
    have zq2 := bind_some hf
    clear hf
    obtain ⟨q2, eq2, hf⟩ := zq2
    refine R_callV (vs := [.int p1]) (st' := []) hW (i := 10) rfl rfl rfl (Nat.le_of_ble_eq_true rfl) rfl (Nat.le_of_ble_eq_true rfl) rfl (f153_l eq2 hW (hh rfl hd) (fun hW2 => ?_))
    refine R_aload_n (i := 11) rfl rfl ?_
    refine R_iload_n (i := 12) rfl rfl ?_
    have zq3 := bind_some hf
    clear hf
    obtain ⟨q3, eq3, hf⟩ := zq3
    refine R_callV (vs := [.int p2]) (st' := []) hW2 (i := 13) rfl rfl rfl (Nat.le_of_ble_eq_true rfl) rfl (Nat.le_of_ble_eq_true rfl) rfl (f153_l eq3 hW2 (hh rfl hd) (fun hW3 => ?_))
    refine R_aload_n (i := 14) rfl rfl ?_
    refine R_iload_n (i := 15) rfl rfl ?_
    have zq4 := bind_some hf
    clear hf
    obtain ⟨q4, eq4, hf⟩ := zq4
    refine R_callV (vs := [.int p3]) (st' := []) hW3 (i := 16) rfl rfl rfl (Nat.le_of_ble_eq_true rfl) rfl (Nat.le_of_ble_eq_true rfl) rfl (f153_l eq4 hW3 (hh rfl hd) (fun hW4 => ?_))
    refine R_aload_n (i := 17) rfl rfl ?_
    refine R_iload (i := 18) rfl rfl ?_
    have zq5 := bind_some hf
    clear hf
    obtain ⟨q5, eq5, hf⟩ := zq5
    refine R_callV (vs := [.int p4]) (st' := []) hW4 (i := 19) rfl rfl rfl (Nat.le_of_ble_eq_true rfl) rfl (Nat.le_of_ble_eq_true rfl) rfl (f153_l eq5 hW4 (hh rfl hd) (fun hW5 => ?_))
    refine R_aload_n (i := 20) rfl rfl ?_
    refine R_iload (i := 21) rfl rfl ?_
    have zq6 := bind_some hf
    clear hf
    obtain ⟨q6, eq6, hf⟩ := zq6
    refine R_callV (vs := [.int p5]) (st' := []) hW5 (i := 22) rfl rfl rfl (Nat.le_of_ble_eq_true rfl) rfl (Nat.le_of_ble_eq_true rfl) rfl (f153_l eq6 hW5 (hh rfl hd) (fun hW6 => ?_))
    refine R_aload_n (i := 23) rfl rfl ?_
    refine R_getI hW6 (i := 24) rfl rfl (Nat.le_of_ble_eq_true rfl) ?_
    have hz := Option.some.inj hf
    subst hz
    exact R_iret (i := 25) rfl (kk hW6)
  · rw [if_neg c1] at hf
    refine R_iconst (i := 6) rfl ?_
    have hz := Option.some.inj hf
    subst hz
    exact R_iret (i := 7) rfl (kk hW)
