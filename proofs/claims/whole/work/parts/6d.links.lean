set_option maxRecDepth 100000 in
set_option maxHeartbeats 4000000 in
theorem f21_b94_l {d N : Nat} {x1 : Int32} {x3 : Int32} {x4 : Int32} {x6 : Int32} {x7 : Int32} {x8 : Int32} {x9 : Int32} {x10 : Int32} {x11 : Int32} {x12 : Int32} {x13 : Int32} {h : Hp} {Q : Option Value → Hp → Prop} {j : Nat} {s' : Int32 × Int32 × Hp} (hf : f21_b94 N x1 x3 x4 x6 x7 x8 x9 x10 x11 x12 x13 h = some (j, s')) (hW : WF 0 h) (hd : 5 ≤ d) (k0 : j = 0 → WF 0 s'.2.2 → R 0 d 21 46 [some (.ref 64), some (.int x1), none, some (.int x3), some (.int x4), none, some (.int x6), some (.int x7), some (.int x8), some (.int x9), some (.int s'.1), some (.int x11), some (.int x12), some (.int s'.2.1), none] [] s'.2.2 Q) (k1 : j = 1 → WF 0 s'.2.2 → R 0 d 21 96 [some (.ref 64), some (.int x1), none, some (.int x3), some (.int x4), none, some (.int x6), some (.int x7), some (.int x8), some (.int x9), some (.int s'.1), some (.int x11), none, none, none] [] s'.2.2 Q) : R 0 d 21 94 [some (.ref 64), some (.int x1), none, some (.int x3), some (.int x4), none, some (.int x6), some (.int x7), some (.int x8), some (.int x9), some (.int x10), some (.int x11), some (.int x12), some (.int x13), none] [] h Q := by
  unfold f21_b94 at hf
  obtain ⟨v12, e12⟩ : ∃ z : Int32, z = (x13 + (1 : Int32)) := ⟨_, rfl⟩
  replace hf := bnd_some e12 hf
  refine R_iinc [some (.ref 64), some (.int x1), none, some (.int x3), some (.int x4), none, some (.int x6), some (.int x7), some (.int x8), some (.int x9), some (.int x10), some (.int x11), some (.int x12), some (.int v12), none] (i := 94) rfl rfl (by rw [← e12]; rfl) ?_
  refine R_goto (i := 95) rfl ?_
  obtain ⟨hj, hs⟩ := Prod.mk.inj (Option.some.inj hf)
  subst hj
  subst hs
  exact k0 rfl hW
set_option maxRecDepth 100000 in
set_option maxHeartbeats 4000000 in
theorem f21_b65_l {d N : Nat} {x1 : Int32} {x3 : Int32} {x4 : Int32} {x6 : Int32} {x7 : Int32} {x8 : Int32} {x9 : Int32} {x10 : Int32} {x11 : Int32} {x12 : Int32} {x13 : Int32} {t0 : Int32} {h : Hp} {Q : Option Value → Hp → Prop} {j : Nat} {s' : Int32 × Int32 × Hp} (hf : f21_b65 N x1 x3 x4 x6 x7 x8 x9 x10 x11 x12 x13 t0 h = some (j, s')) (hW : WF 0 h) (hd : 5 ≤ d) (k0 : j = 0 → WF 0 s'.2.2 → R 0 d 21 46 [some (.ref 64), some (.int x1), none, some (.int x3), some (.int x4), none, some (.int x6), some (.int x7), some (.int x8), some (.int x9), some (.int s'.1), some (.int x11), some (.int x12), some (.int s'.2.1), none] [] s'.2.2 Q) (k1 : j = 1 → WF 0 s'.2.2 → R 0 d 21 96 [some (.ref 64), some (.int x1), none, some (.int x3), some (.int x4), none, some (.int x6), some (.int x7), some (.int x8), some (.int x9), some (.int s'.1), some (.int x11), none, none, none] [] s'.2.2 Q) : R 0 d 21 65 [some (.ref 64), some (.int x1), none, some (.int x3), some (.int x4), none, some (.int x6), some (.int x7), some (.int x8), some (.int x9), some (.int x10), some (.int x11), some (.int x12), some (.int x13), none] [.int t0] h Q := by
  obtain ⟨d, rfl⟩ : ∃ z, d = z + 1 := ⟨d - 1, by omega⟩
  unfold f21_b65 at hf
  refine R_istore [some (.ref 64), some (.int x1), none, some (.int x3), some (.int x4), none, some (.int x6), some (.int x7), some (.int x8), some (.int x9), some (.int x10), some (.int x11), some (.int x12), some (.int x13), some (.int t0)] (i := 65) rfl rfl ?_
  refine R_iload (i := 66) rfl rfl ?_
  refine R_iload (i := 67) rfl rfl ?_
  refine R_icmpge (i := 68) rfl (fun c14 => ?_) (fun c14 => ?_)
  · rw [if_pos c14] at hf
    refine R_iconst (i := 92) rfl ?_
    refine R_istore [some (.ref 64), some (.int x1), none, some (.int x3), some (.int x4), none, some (.int x6), some (.int x7), some (.int x8), some (.int x9), some (.int (1 : Int32)), some (.int x11), some (.int x12), some (.int x13), some (.int t0)] (i := 93) rfl rfl ?_
    refine R_weak [some (.ref 64), some (.int x1), none, some (.int x3), some (.int x4), none, some (.int x6), some (.int x7), some (.int x8), some (.int x9), some (.int (1 : Int32)), some (.int x11), some (.int x12), some (.int x13), none] ⟨Or.inr rfl, Or.inr rfl, Or.inr rfl, Or.inr rfl, Or.inr rfl, Or.inr rfl, Or.inr rfl, Or.inr rfl, Or.inr rfl, Or.inr rfl, Or.inr rfl, Or.inr rfl, Or.inr rfl, Or.inr rfl, Or.inl rfl, trivial⟩ ?_
    exact f21_b94_l hf hW hd k0 k1
  · rw [if_neg c14] at hf
    refine R_aload_n (i := 69) rfl rfl ?_
    have zr15 := bind_some hf
    clear hf
    obtain ⟨r15, er15, hf⟩ := zr15
    refine R_getR hW (i := 70) rfl rfl (Nat.le_of_ble_eq_true rfl) er15 ?_
    refine R_iload (i := 71) rfl rfl ?_
    refine R_bipush (i := 72) rfl ?_
    refine R_imul (i := 73) rfl ?_
    refine R_iload (i := 74) rfl rfl ?_
    refine R_aload_n (i := 75) rfl rfl ?_
    refine R_getF hW (i := 76) rfl rfl (Nat.le_of_ble_eq_true rfl) rfl ?_
    refine R_iload (i := 77) rfl rfl ?_
    refine R_iload (i := 78) rfl rfl ?_
    have zq16 := bind_some hf
    clear hf
    obtain ⟨q16, eq16, hf⟩ := zq16
    refine R_callV (vs := [.int x7, .int x13]) (st' := [.int x11, .int (t0 * (36 : Int32)), .ref r15]) hW (i := 79) rfl rfl rfl (Nat.le_of_ble_eq_true rfl) rfl (Nat.le_of_ble_eq_true rfl) rfl (f60_l eq16 hW (hh rfl hd) ?_)
    refine R_call (vs := [.int x11, .int q16]) (st' := [.int (t0 * (36 : Int32)), .ref r15]) (i := 80) rfl (by decide) (by decide) rfl rfl (Nat.le_of_ble_eq_true rfl) rfl (f133_l (hh rfl hd) ?_)
    refine R_iadd (i := 81) rfl ?_
    refine R_dup2 (i := 82) rfl rfl rfl ?_
    have g17 := gd_some hf
    clear hf
    obtain ⟨g17, hf⟩ := g17
    refine R_iaload hW (i := 83) rfl g17.1 g17.2 ?_
    refine R_iconst (i := 84) rfl ?_
    refine R_iload (i := 85) rfl rfl ?_
    refine R_iconst (i := 86) rfl ?_
    refine R_isub (i := 87) rfl ?_
    refine R_ishl (i := 88) rfl ?_
    refine R_ior (i := 89) rfl ?_
    have g18 := gd_some hf
    clear hf
    obtain ⟨g18, hf⟩ := g18
    refine R_iastore hW (i := 90) rfl g18.1 g18.2 (hg rfl hd) (fun h19 eh19 => ?_)
    replace hf := bnd_some eh19 hf
    have hW19 : WF 0 h19 := by rw [eh19]; exact hW
    refine R_goto (i := 91) rfl ?_
    refine R_weak [some (.ref 64), some (.int x1), none, some (.int x3), some (.int x4), none, some (.int x6), some (.int x7), some (.int x8), some (.int x9), some (.int x10), some (.int x11), some (.int x12), some (.int x13), none] ⟨Or.inr rfl, Or.inr rfl, Or.inr rfl, Or.inr rfl, Or.inr rfl, Or.inr rfl, Or.inr rfl, Or.inr rfl, Or.inr rfl, Or.inr rfl, Or.inr rfl, Or.inr rfl, Or.inr rfl, Or.inr rfl, Or.inl rfl, trivial⟩ ?_
    exact f21_b94_l hf hW19 hd k0 k1
set_option maxRecDepth 100000 in
set_option maxHeartbeats 4000000 in
theorem f21_l46_l {d N : Nat} {x1 : Int32} {x3 : Int32} {x4 : Int32} {x6 : Int32} {x7 : Int32} {x8 : Int32} {x9 : Int32} {x11 : Int32} {x12 : Int32} {s : Int32 × Int32 × Hp} {Q : Option Value → Hp → Prop} {j : Nat} {s' : Int32 × Int32 × Hp} (hf : f21_l46 N x1 x3 x4 x6 x7 x8 x9 x11 x12 s = some (j, s')) (hW : WF 0 s.2.2) (hd : 5 ≤ d) (k0 : j = 0 → WF 0 s'.2.2 → R 0 d 21 46 [some (.ref 64), some (.int x1), none, some (.int x3), some (.int x4), none, some (.int x6), some (.int x7), some (.int x8), some (.int x9), some (.int s'.1), some (.int x11), some (.int x12), some (.int s'.2.1), none] [] s'.2.2 Q) (k1 : j = 1 → WF 0 s'.2.2 → R 0 d 21 96 [some (.ref 64), some (.int x1), none, some (.int x3), some (.int x4), none, some (.int x6), some (.int x7), some (.int x8), some (.int x9), some (.int s'.1), some (.int x11), none, none, none] [] s'.2.2 Q) : R 0 d 21 46 [some (.ref 64), some (.int x1), none, some (.int x3), some (.int x4), none, some (.int x6), some (.int x7), some (.int x8), some (.int x9), some (.int s.1), some (.int x11), some (.int x12), some (.int s.2.1), none] [] s.2.2 Q := by
  obtain ⟨d, rfl⟩ : ∃ z, d = z + 1 := ⟨d - 1, by omega⟩
  unfold f21_l46 at hf
  refine R_iload (i := 46) rfl rfl ?_
  refine R_iconst (i := 47) rfl ?_
  refine R_icmpgt (i := 48) rfl (fun c9 => ?_) (fun c9 => ?_)
  · rw [if_pos c9] at hf
    obtain ⟨hj, hs⟩ := Prod.mk.inj (Option.some.inj hf)
    subst hj
    subst hs
    refine R_weak [some (.ref 64), some (.int x1), none, some (.int x3), some (.int x4), none, some (.int x6), some (.int x7), some (.int x8), some (.int x9), some (.int s.1), some (.int x11), none, none, none] ⟨Or.inr rfl, Or.inr rfl, Or.inr rfl, Or.inr rfl, Or.inr rfl, Or.inr rfl, Or.inr rfl, Or.inr rfl, Or.inr rfl, Or.inr rfl, Or.inr rfl, Or.inr rfl, Or.inl rfl, Or.inl rfl, Or.inr rfl, trivial⟩ ?_
    exact k1 rfl hW
  · rw [if_neg c9] at hf
    refine R_iload (i := 49) rfl rfl ?_
    refine R_ifeq (i := 50) rfl (fun c10 => ?_) (fun c10 => ?_)
    · rw [if_pos c10] at hf
      obtain ⟨hj, hs⟩ := Prod.mk.inj (Option.some.inj hf)
      subst hj
      subst hs
      refine R_weak [some (.ref 64), some (.int x1), none, some (.int x3), some (.int x4), none, some (.int x6), some (.int x7), some (.int x8), some (.int x9), some (.int s.1), some (.int x11), none, none, none] ⟨Or.inr rfl, Or.inr rfl, Or.inr rfl, Or.inr rfl, Or.inr rfl, Or.inr rfl, Or.inr rfl, Or.inr rfl, Or.inr rfl, Or.inr rfl, Or.inr rfl, Or.inr rfl, Or.inl rfl, Or.inl rfl, Or.inr rfl, trivial⟩ ?_
      exact k1 rfl hW
    · rw [if_neg c10] at hf
      refine R_iload (i := 51) rfl rfl ?_
      refine R_iload (i := 52) rfl rfl ?_
      refine R_iconst (i := 53) rfl ?_
      refine R_isub (i := 54) rfl ?_
      refine R_call (vs := [.int x12, .int (s.2.1 - (1 : Int32))]) (st' := []) (i := 55) rfl (by decide) (by decide) rfl rfl (Nat.le_of_ble_eq_true rfl) rfl (f123_l (hh rfl hd) ?_)
      refine R_ifeq (i := 56) rfl (fun c11 => ?_) (fun c11 => ?_)
      · rw [if_pos c11] at hf
        exact f21_b94_l hf hW hd k0 k1
      · rw [if_neg c11] at hf
        refine R_iload (i := 57) rfl rfl ?_
        refine R_iload (i := 58) rfl rfl ?_
        refine R_icmpgt (i := 59) rfl (fun c13 => ?_) (fun c13 => ?_)
        · rw [if_pos c13] at hf
          refine R_iload_n (i := 64) rfl rfl ?_
          exact f21_b65_l hf hW hd k0 k1
        · rw [if_neg c13] at hf
          refine R_iload_n (i := 60) rfl rfl ?_
          refine R_iconst (i := 61) rfl ?_
          refine R_iadd (i := 62) rfl ?_
          refine R_goto (i := 63) rfl ?_
          exact f21_b65_l hf hW hd k0 k1
set_option maxRecDepth 100000 in
set_option maxHeartbeats 4000000 in
theorem f21_l22_l {d N : Nat} {x1 : Int32} {x3 : Int32} {x4 : Int32} {x6 : Int32} {x7 : Int32} {x8 : Int32} {x9 : Int32} {s : Int32 × Int32 × Hp} {Q : Option Value → Hp → Prop} {j : Nat} {s' : Int32 × Int32 × Hp} (hf : f21_l22 N x1 x3 x4 x6 x7 x8 x9 s = some (j, s')) (hW : WF 0 s.2.2) (hd : 5 ≤ d) (k0 : j = 0 → WF 0 s'.2.2 → R 0 d 21 22 [some (.ref 64), some (.int x1), none, some (.int x3), some (.int x4), none, some (.int x6), some (.int x7), some (.int x8), some (.int x9), some (.int s'.1), some (.int s'.2.1), none, none, none] [] s'.2.2 Q) (k1 : j = 1 → WF 0 s'.2.2 → R 0 d 21 98 [none, none, none, none, none, none, none, none, none, none, some (.int s'.1), none, none, none, none] [] s'.2.2 Q) : R 0 d 21 22 [some (.ref 64), some (.int x1), none, some (.int x3), some (.int x4), none, some (.int x6), some (.int x7), some (.int x8), some (.int x9), some (.int s.1), some (.int s.2.1), none, none, none] [] s.2.2 Q := by
  obtain ⟨d, rfl⟩ : ∃ z, d = z + 1 := ⟨d - 1, by omega⟩
  unfold f21_l22 at hf
  refine R_iload (i := 22) rfl rfl ?_
  refine R_iconst (i := 23) rfl ?_
  refine R_iload (i := 24) rfl rfl ?_
  refine R_iconst (i := 25) rfl ?_
  refine R_iadd (i := 26) rfl ?_
  refine R_mmin (i := 27) rfl (hg rfl hd) (Nat.le_of_ble_eq_true rfl) ?_
  refine R_icmpgt (i := 28) rfl (fun c5 => ?_) (fun c5 => ?_)
  · rw [if_pos c5] at hf
    obtain ⟨hj, hs⟩ := Prod.mk.inj (Option.some.inj hf)
    subst hj
    subst hs
    refine R_weak [none, none, none, none, none, none, none, none, none, none, some (.int s.1), none, none, none, none] ⟨Or.inl rfl, Or.inl rfl, Or.inr rfl, Or.inl rfl, Or.inl rfl, Or.inr rfl, Or.inl rfl, Or.inl rfl, Or.inl rfl, Or.inl rfl, Or.inr rfl, Or.inl rfl, Or.inr rfl, Or.inr rfl, Or.inr rfl, trivial⟩ ?_
    exact k1 rfl hW
  · rw [if_neg c5] at hf
    refine R_aload_n (i := 29) rfl rfl ?_
    refine R_iload (i := 30) rfl rfl ?_
    refine R_iload (i := 31) rfl rfl ?_
    refine R_iload_n (i := 32) rfl rfl ?_
    refine R_iload (i := 33) rfl rfl ?_
    have zq6 := bind_some hf
    clear hf
    obtain ⟨q6, eq6, hf⟩ := zq6
    refine R_callV (vs := [.int s.2.1, .int x7, .int x3, .int x4]) (st' := []) hW (i := 34) rfl rfl rfl (Nat.le_of_ble_eq_true rfl) rfl (Nat.le_of_ble_eq_true rfl) rfl (f22_l eq6 hW (hh rfl hd) ?_)
    refine R_aload_n (i := 35) rfl rfl ?_
    refine R_getF hW (i := 36) rfl rfl (Nat.le_of_ble_eq_true rfl) rfl ?_
    refine R_iload (i := 37) rfl rfl ?_
    refine R_iload (i := 38) rfl rfl ?_
    refine R_iload_n (i := 39) rfl rfl ?_
    refine R_call (vs := [.int s.2.1, .int x7, .int x3]) (st' := [.ref 67, .int q6]) (i := 40) rfl (by decide) (by decide) rfl rfl (Nat.le_of_ble_eq_true rfl) rfl (f134_l (hh rfl hd) ?_)
    have g7 := gd_some hf
    clear hf
    obtain ⟨g7, hf⟩ := g7
    refine R_iaload hW (i := 41) rfl rfl g7 ?_
    refine R_iand (i := 42) rfl ?_
    refine R_topi (fun v8 e8 => ?_)
    replace hf := bnd_some e8 hf
    refine R_istore [some (.ref 64), some (.int x1), none, some (.int x3), some (.int x4), none, some (.int x6), some (.int x7), some (.int x8), some (.int x9), some (.int s.1), some (.int s.2.1), some (.int v8), none, none] (i := 43) rfl rfl ?_
    refine R_iconst (i := 44) rfl ?_
    refine R_istore [some (.ref 64), some (.int x1), none, some (.int x3), some (.int x4), none, some (.int x6), some (.int x7), some (.int x8), some (.int x9), some (.int s.1), some (.int s.2.1), some (.int v8), some (.int (1 : Int32)), none] (i := 45) rfl rfl ?_
    have zq20 := bind_some hf
    clear hf
    obtain ⟨q20, eq20, hf⟩ := zq20
    refine lp_link (P := fun u46 => WF 0 u46.2.2 → R 0 (d + 1) 21 46 [some (.ref 64), some (.int x1), none, some (.int x3), some (.int x4), none, some (.int x6), some (.int x7), some (.int x8), some (.int x9), some (.int u46.1), some (.int s.2.1), some (.int v8), some (.int u46.2.1), none] [] u46.2.2 Q) (E := fun e u46 => WF 0 u46.2.2 → R 0 (d + 1) 21 96 [some (.ref 64), some (.int x1), none, some (.int x3), some (.int x4), none, some (.int x6), some (.int x7), some (.int x8), some (.int x9), some (.int u46.1), some (.int s.2.1), none, none, none] [] u46.2.2 Q) (fun s j s' hb k0 ke hWs => f21_l46_l hb hWs hd k0 (fun z y => ke 0 z y)) N (s.1, (1 : Int32), s.2.2) q20.1 q20.2 eq20 ?_ hW
    intro hW20
    obtain ⟨v21, e21⟩ : ∃ z : Int32, z = (s.2.1 + (1 : Int32)) := ⟨_, rfl⟩
    replace hf := bnd_some e21 hf
    refine R_iinc [some (.ref 64), some (.int x1), none, some (.int x3), some (.int x4), none, some (.int x6), some (.int x7), some (.int x8), some (.int x9), some (.int q20.2.1), some (.int v21), none, none, none] (i := 96) rfl rfl (by rw [← e21]; rfl) ?_
    refine R_goto (i := 97) rfl ?_
    obtain ⟨hj, hs⟩ := Prod.mk.inj (Option.some.inj hf)
    subst hj
    subst hs
    exact k0 rfl hW20
set_option maxRecDepth 100000 in
set_option maxHeartbeats 4000000 in
theorem f21_l {d N : Nat} {p1 : Int32} {p2 : Int32} {p3 : Int32} {p4 : Int32} {p5 : Int32} {p6 : Int32} {h : Hp} {Q : Option Value → Hp → Prop} {q : Int32 × Hp} (hf : f21 N p1 p2 p3 p4 p5 p6 h = some q) (hW : WF 0 h) (hd : 5 ≤ d) (kk : WF 0 q.2 → Q (some (.int q.1)) q.2) : R 0 d 21 0 [some (.ref 64), some (.int p1), some (.int p2), some (.int p3), some (.int p4), some (.int p5), some (.int p6), none, none, none, none, none, none, none, none] [] h Q := by
  obtain ⟨d, rfl⟩ : ∃ z, d = z + 1 := ⟨d - 1, by omega⟩
  unfold f21 at hf
  refine R_iload_n (i := 0) rfl rfl ?_
  refine R_bipush (i := 1) rfl ?_
  refine R_irem (i := 2) rfl (by decide) ?_
  refine R_topi (fun v1 e1 => ?_)
  replace hf := bnd_some e1 hf
  refine R_istore [some (.ref 64), some (.int p1), some (.int p2), some (.int p3), some (.int p4), some (.int p5), some (.int p6), some (.int v1), none, none, none, none, none, none, none] (i := 3) rfl rfl ?_
  refine R_iload_n (i := 4) rfl rfl ?_
  refine R_bipush (i := 5) rfl ?_
  refine R_idiv (i := 6) rfl (by decide) ?_
  refine R_topi (fun v2 e2 => ?_)
  replace hf := bnd_some e2 hf
  refine R_istore [some (.ref 64), some (.int p1), some (.int p2), some (.int p3), some (.int p4), some (.int p5), some (.int p6), some (.int v1), some (.int v2), none, none, none, none, none, none] (i := 7) rfl rfl ?_
  refine R_aload_n (i := 8) rfl rfl ?_
  refine R_getF hW (i := 9) rfl rfl (Nat.le_of_ble_eq_true rfl) rfl ?_
  refine R_iload (i := 10) rfl rfl ?_
  refine R_iload (i := 11) rfl rfl ?_
  have zq3 := bind_some hf
  clear hf
  obtain ⟨q3, eq3, hf⟩ := zq3
  refine R_callV (vs := [.int v1, .int p5]) (st' := []) hW (i := 12) rfl rfl rfl (Nat.le_of_ble_eq_true rfl) rfl (Nat.le_of_ble_eq_true rfl) rfl (f61_l eq3 hW (hh rfl hd) ?_)
  refine R_istore [some (.ref 64), some (.int p1), some (.int p2), some (.int p3), some (.int p4), some (.int p5), some (.int p6), some (.int v1), some (.int v2), some (.int q3), none, none, none, none, none] (i := 13) rfl rfl ?_
  refine R_iconst (i := 14) rfl ?_
  refine R_istore [some (.ref 64), some (.int p1), some (.int p2), some (.int p3), some (.int p4), some (.int p5), some (.int p6), some (.int v1), some (.int v2), some (.int q3), some (.int (0 : Int32)), none, none, none, none] (i := 15) rfl rfl ?_
  refine R_iconst (i := 16) rfl ?_
  refine R_iload (i := 17) rfl rfl ?_
  refine R_iconst (i := 18) rfl ?_
  refine R_isub (i := 19) rfl ?_
  refine R_mmax (i := 20) rfl (hg rfl hd) (Nat.le_of_ble_eq_true rfl) ?_
  refine R_topi (fun v4 e4 => ?_)
  replace hf := bnd_some e4 hf
  refine R_istore [some (.ref 64), some (.int p1), some (.int p2), some (.int p3), some (.int p4), some (.int p5), some (.int p6), some (.int v1), some (.int v2), some (.int q3), some (.int (0 : Int32)), some (.int v4), none, none, none] (i := 21) rfl rfl ?_
  refine R_weak [some (.ref 64), some (.int p1), none, some (.int p3), some (.int p4), none, some (.int p6), some (.int v1), some (.int v2), some (.int q3), some (.int (0 : Int32)), some (.int v4), none, none, none] ⟨Or.inr rfl, Or.inr rfl, Or.inl rfl, Or.inr rfl, Or.inr rfl, Or.inl rfl, Or.inr rfl, Or.inr rfl, Or.inr rfl, Or.inr rfl, Or.inr rfl, Or.inr rfl, Or.inr rfl, Or.inr rfl, Or.inr rfl, trivial⟩ ?_
  have zq22 := bind_some hf
  clear hf
  obtain ⟨q22, eq22, hf⟩ := zq22
  refine lp_link (P := fun u22 => WF 0 u22.2.2 → R 0 (d + 1) 21 22 [some (.ref 64), some (.int p1), none, some (.int p3), some (.int p4), none, some (.int p6), some (.int v1), some (.int v2), some (.int q3), some (.int u22.1), some (.int u22.2.1), none, none, none] [] u22.2.2 Q) (E := fun e u22 => WF 0 u22.2.2 → R 0 (d + 1) 21 98 [none, none, none, none, none, none, none, none, none, none, some (.int u22.1), none, none, none, none] [] u22.2.2 Q) (fun s j s' hb k0 ke hWs => f21_l22_l hb hWs hd k0 (fun z y => ke 0 z y)) N ((0 : Int32), v4, h) q22.1 q22.2 eq22 ?_ hW
  intro hW22
  refine R_iload (i := 98) rfl rfl ?_
  have hz := Option.some.inj hf
  subst hz
  exact R_zret (i := 99) rfl rfl (kk hW22)
set_option maxRecDepth 100000 in
set_option maxHeartbeats 4000000 in
theorem f20_b41_l {d N : Nat} {x1 : Int32} {x2 : Int32} {x3 : Int32} {x4 : Int32} {x5 : Int32} {x6 : Int32} {h : Hp} {Q : Option Value → Hp → Prop} {j : Nat} {s' : Int32 × Int32 × Hp} (hf : f20_b41 N x1 x2 x3 x4 x5 x6 h = some (j, s')) (hW : WF 0 h) (hd : 6 ≤ d) (k0 : j = 0 → WF 0 s'.2.2 → R 0 d 20 16 [some (.ref 64), some (.int x1), some (.int x2), some (.int x3), some (.int s'.1), some (.int x5), some (.int s'.2.1), none] [] s'.2.2 Q) (k1 : j = 1 → WF 0 s'.2.2 → R 0 d 20 43 [some (.ref 64), some (.int x1), some (.int x2), some (.int x3), some (.int s'.1), some (.int x5), none, none] [] s'.2.2 Q) : R 0 d 20 41 [some (.ref 64), some (.int x1), some (.int x2), some (.int x3), some (.int x4), some (.int x5), some (.int x6), none] [] h Q := by
  unfold f20_b41 at hf
  obtain ⟨v10, e10⟩ : ∃ z : Int32, z = (x6 + (1 : Int32)) := ⟨_, rfl⟩
  replace hf := bnd_some e10 hf
  refine R_iinc [some (.ref 64), some (.int x1), some (.int x2), some (.int x3), some (.int x4), some (.int x5), some (.int v10), none] (i := 41) rfl rfl (by rw [← e10]; rfl) ?_
  refine R_goto (i := 42) rfl ?_
  obtain ⟨hj, hs⟩ := Prod.mk.inj (Option.some.inj hf)
  subst hj
  subst hs
  exact k0 rfl hW
set_option maxRecDepth 100000 in
set_option maxHeartbeats 4000000 in
theorem f20_l16_l {d N : Nat} {x1 : Int32} {x2 : Int32} {x3 : Int32} {x5 : Int32} {s : Int32 × Int32 × Hp} {Q : Option Value → Hp → Prop} {j : Nat} {s' : Int32 × Int32 × Hp} (hf : f20_l16 N x1 x2 x3 x5 s = some (j, s')) (hW : WF 0 s.2.2) (hd : 6 ≤ d) (k0 : j = 0 → WF 0 s'.2.2 → R 0 d 20 16 [some (.ref 64), some (.int x1), some (.int x2), some (.int x3), some (.int s'.1), some (.int x5), some (.int s'.2.1), none] [] s'.2.2 Q) (k1 : j = 1 → WF 0 s'.2.2 → R 0 d 20 43 [some (.ref 64), some (.int x1), some (.int x2), some (.int x3), some (.int s'.1), some (.int x5), none, none] [] s'.2.2 Q) : R 0 d 20 16 [some (.ref 64), some (.int x1), some (.int x2), some (.int x3), some (.int s.1), some (.int x5), some (.int s.2.1), none] [] s.2.2 Q := by
  obtain ⟨d, rfl⟩ : ∃ z, d = z + 1 := ⟨d - 1, by omega⟩
  unfold f20_l16 at hf
  refine R_iload (i := 16) rfl rfl ?_
  refine R_bipush (i := 17) rfl ?_
  refine R_icmpge (i := 18) rfl (fun c5 => ?_) (fun c5 => ?_)
  · rw [if_pos c5] at hf
    obtain ⟨hj, hs⟩ := Prod.mk.inj (Option.some.inj hf)
    subst hj
    subst hs
    refine R_weak [some (.ref 64), some (.int x1), some (.int x2), some (.int x3), some (.int s.1), some (.int x5), none, none] ⟨Or.inr rfl, Or.inr rfl, Or.inr rfl, Or.inr rfl, Or.inr rfl, Or.inr rfl, Or.inl rfl, Or.inr rfl, trivial⟩ ?_
    exact k1 rfl hW
  · rw [if_neg c5] at hf
    refine R_aload_n (i := 19) rfl rfl ?_
    have zr6 := bind_some hf
    clear hf
    obtain ⟨r6, er6, hf⟩ := zr6
    refine R_getR hW (i := 20) rfl rfl (Nat.le_of_ble_eq_true rfl) er6 ?_
    refine R_iload (i := 21) rfl rfl ?_
    refine R_bipush (i := 22) rfl ?_
    refine R_imul (i := 23) rfl ?_
    refine R_iload (i := 24) rfl rfl ?_
    refine R_iadd (i := 25) rfl ?_
    have g7 := gd_some hf
    clear hf
    obtain ⟨g7, hf⟩ := g7
    refine R_iaload hW (i := 26) rfl g7.1 g7.2 ?_
    refine R_topi (fun v8 e8 => ?_)
    replace hf := bnd_some e8 hf
    refine R_istore [some (.ref 64), some (.int x1), some (.int x2), some (.int x3), some (.int s.1), some (.int x5), some (.int s.2.1), some (.int v8)] (i := 27) rfl rfl ?_
    refine R_iload (i := 28) rfl rfl ?_
    refine R_ifeq (i := 29) rfl (fun c9 => ?_) (fun c9 => ?_)
    · rw [if_pos c9] at hf
      refine R_weak [some (.ref 64), some (.int x1), some (.int x2), some (.int x3), some (.int s.1), some (.int x5), some (.int s.2.1), none] ⟨Or.inr rfl, Or.inr rfl, Or.inr rfl, Or.inr rfl, Or.inr rfl, Or.inr rfl, Or.inr rfl, Or.inl rfl, trivial⟩ ?_
      exact f20_b41_l hf hW hd k0 k1
    · rw [if_neg c9] at hf
      refine R_aload_n (i := 30) rfl rfl ?_
      refine R_iload (i := 31) rfl rfl ?_
      refine R_iload (i := 32) rfl rfl ?_
      refine R_iload_n (i := 33) rfl rfl ?_
      refine R_iload (i := 34) rfl rfl ?_
      refine R_iload_n (i := 35) rfl rfl ?_
      refine R_iload_n (i := 36) rfl rfl ?_
      have zq11 := bind_some hf
      clear hf
      obtain ⟨q11, eq11, hf⟩ := zq11
      refine R_callV (vs := [.int x5, .int s.2.1, .int x1, .int v8, .int x3, .int x2]) (st' := []) hW (i := 37) rfl rfl rfl (Nat.le_of_ble_eq_true rfl) rfl (Nat.le_of_ble_eq_true rfl) rfl (f21_l eq11 hW (hh rfl hd) (fun hW11 => ?_))
      refine R_ifeq (i := 38) rfl (fun c12 => ?_) (fun c12 => ?_)
      · rw [if_pos c12] at hf
        refine R_weak [some (.ref 64), some (.int x1), some (.int x2), some (.int x3), some (.int s.1), some (.int x5), some (.int s.2.1), none] ⟨Or.inr rfl, Or.inr rfl, Or.inr rfl, Or.inr rfl, Or.inr rfl, Or.inr rfl, Or.inr rfl, Or.inl rfl, trivial⟩ ?_
        exact f20_b41_l hf hW11 hd k0 k1
      · rw [if_neg c12] at hf
        refine R_iconst (i := 39) rfl ?_
        refine R_istore [some (.ref 64), some (.int x1), some (.int x2), some (.int x3), some (.int (1 : Int32)), some (.int x5), some (.int s.2.1), some (.int v8)] (i := 40) rfl rfl ?_
        refine R_weak [some (.ref 64), some (.int x1), some (.int x2), some (.int x3), some (.int (1 : Int32)), some (.int x5), some (.int s.2.1), none] ⟨Or.inr rfl, Or.inr rfl, Or.inr rfl, Or.inr rfl, Or.inr rfl, Or.inr rfl, Or.inr rfl, Or.inl rfl, trivial⟩ ?_
        exact f20_b41_l hf hW11 hd k0 k1
set_option maxRecDepth 100000 in
set_option maxHeartbeats 4000000 in
theorem f20_l8_l {d N : Nat} {x1 : Int32} {x2 : Int32} {x3 : Int32} {s : Int32 × Int32 × Hp} {Q : Option Value → Hp → Prop} {j : Nat} {s' : Int32 × Int32 × Hp} (hf : f20_l8 N x1 x2 x3 s = some (j, s')) (hW : WF 0 s.2.2) (hd : 6 ≤ d) (k0 : j = 0 → WF 0 s'.2.2 → R 0 d 20 8 [some (.ref 64), some (.int x1), some (.int x2), some (.int x3), some (.int s'.1), some (.int s'.2.1), none, none] [] s'.2.2 Q) (k1 : j = 1 → WF 0 s'.2.2 → R 0 d 20 45 [some (.ref 64), none, none, none, some (.int s'.1), none, none, none] [] s'.2.2 Q) : R 0 d 20 8 [some (.ref 64), some (.int x1), some (.int x2), some (.int x3), some (.int s.1), some (.int s.2.1), none, none] [] s.2.2 Q := by
  unfold f20_l8 at hf
  refine R_iload (i := 8) rfl rfl ?_
  refine R_iload_n (i := 9) rfl rfl ?_
  refine R_icmpge (i := 10) rfl (fun c3 => ?_) (fun c3 => ?_)
  · rw [if_pos c3] at hf
    obtain ⟨hj, hs⟩ := Prod.mk.inj (Option.some.inj hf)
    subst hj
    subst hs
    refine R_weak [some (.ref 64), none, none, none, some (.int s.1), none, none, none] ⟨Or.inr rfl, Or.inl rfl, Or.inl rfl, Or.inl rfl, Or.inr rfl, Or.inl rfl, Or.inr rfl, Or.inr rfl, trivial⟩ ?_
    exact k1 rfl hW
  · rw [if_neg c3] at hf
    refine R_iload (i := 11) rfl rfl ?_
    refine R_iconst (i := 12) rfl ?_
    refine R_icmpge (i := 13) rfl (fun c4 => ?_) (fun c4 => ?_)
    · rw [if_pos c4] at hf
      obtain ⟨hj, hs⟩ := Prod.mk.inj (Option.some.inj hf)
      subst hj
      subst hs
      refine R_weak [some (.ref 64), none, none, none, some (.int s.1), none, none, none] ⟨Or.inr rfl, Or.inl rfl, Or.inl rfl, Or.inl rfl, Or.inr rfl, Or.inl rfl, Or.inr rfl, Or.inr rfl, trivial⟩ ?_
      exact k1 rfl hW
    · rw [if_neg c4] at hf
      refine R_iconst (i := 14) rfl ?_
      refine R_istore [some (.ref 64), some (.int x1), some (.int x2), some (.int x3), some (.int s.1), some (.int s.2.1), some (.int (0 : Int32)), none] (i := 15) rfl rfl ?_
      have zq13 := bind_some hf
      clear hf
      obtain ⟨q13, eq13, hf⟩ := zq13
      refine lp_link (P := fun u16 => WF 0 u16.2.2 → R 0 d 20 16 [some (.ref 64), some (.int x1), some (.int x2), some (.int x3), some (.int u16.1), some (.int s.2.1), some (.int u16.2.1), none] [] u16.2.2 Q) (E := fun e u16 => WF 0 u16.2.2 → R 0 d 20 43 [some (.ref 64), some (.int x1), some (.int x2), some (.int x3), some (.int u16.1), some (.int s.2.1), none, none] [] u16.2.2 Q) (fun s j s' hb k0 ke hWs => f20_l16_l hb hWs hd k0 (fun z y => ke 0 z y)) N (s.1, (0 : Int32), s.2.2) q13.1 q13.2 eq13 ?_ hW
      intro hW13
      obtain ⟨v14, e14⟩ : ∃ z : Int32, z = (s.2.1 + (1 : Int32)) := ⟨_, rfl⟩
      replace hf := bnd_some e14 hf
      refine R_iinc [some (.ref 64), some (.int x1), some (.int x2), some (.int x3), some (.int q13.2.1), some (.int v14), none, none] (i := 43) rfl rfl (by rw [← e14]; rfl) ?_
      refine R_goto (i := 44) rfl ?_
      obtain ⟨hj, hs⟩ := Prod.mk.inj (Option.some.inj hf)
      subst hj
      subst hs
      exact k0 rfl hW13
set_option maxRecDepth 100000 in
set_option maxHeartbeats 4000000 in
theorem f20_l {d N : Nat} {p1 : Int32} {p2 : Int32} {p3 : Int32} {h : Hp} {Q : Option Value → Hp → Prop} {q : Int32 × Hp} (hf : f20 N p1 p2 p3 h = some q) (hW : WF 0 h) (hd : 6 ≤ d) (kk : WF 0 q.2 → Q (some (.int q.1)) q.2) : R 0 d 20 0 [some (.ref 64), some (.int p1), some (.int p2), some (.int p3), none, none, none, none] [] h Q := by
  obtain ⟨d, rfl⟩ : ∃ z, d = z + 1 := ⟨d - 1, by omega⟩
  unfold f20 at hf
  refine R_aload_n (i := 0) rfl rfl ?_
  have zr1 := bind_some hf
  clear hf
  obtain ⟨r1, er1, hf⟩ := zr1
  refine R_getR hW (i := 1) rfl rfl (Nat.le_of_ble_eq_true rfl) er1 ?_
  refine R_iconst (i := 2) rfl ?_
  have zq2 := bind_some hf
  clear hf
  obtain ⟨q2, eq2, hf⟩ := zq2
  refine R_call (vs := [.ref r1, .int (0 : Int32)]) (st' := []) (i := 3) rfl (by decide) (by decide) rfl rfl (Nat.le_of_ble_eq_true rfl) rfl (f231_l eq2 hW (hh rfl hd) (fun hW2 => ?_))
  refine R_iconst (i := 4) rfl ?_
  refine R_istore [some (.ref 64), some (.int p1), some (.int p2), some (.int p3), some (.int (0 : Int32)), none, none, none] (i := 5) rfl rfl ?_
  refine R_iconst (i := 6) rfl ?_
  refine R_istore [some (.ref 64), some (.int p1), some (.int p2), some (.int p3), some (.int (0 : Int32)), some (.int (0 : Int32)), none, none] (i := 7) rfl rfl ?_
  have zq15 := bind_some hf
  clear hf
  obtain ⟨q15, eq15, hf⟩ := zq15
  refine lp_link (P := fun u8 => WF 0 u8.2.2 → R 0 (d + 1) 20 8 [some (.ref 64), some (.int p1), some (.int p2), some (.int p3), some (.int u8.1), some (.int u8.2.1), none, none] [] u8.2.2 Q) (E := fun e u8 => WF 0 u8.2.2 → R 0 (d + 1) 20 45 [some (.ref 64), none, none, none, some (.int u8.1), none, none, none] [] u8.2.2 Q) (fun s j s' hb k0 ke hWs => f20_l8_l hb hWs hd k0 (fun z y => ke 0 z y)) N ((0 : Int32), (0 : Int32), q2) q15.1 q15.2 eq15 ?_ hW2
  intro hW15
  refine R_aload_n (i := 45) rfl rfl ?_
  have zr16 := bind_some hf
  clear hf
  obtain ⟨r16, er16, hf⟩ := zr16
  refine R_getR hW15 (i := 46) rfl rfl (Nat.le_of_ble_eq_true rfl) er16 ?_
  refine R_astore [some (.ref 64), none, none, none, some (.int q15.2.1), some (.ref r16), none, none] (i := 47) rfl rfl ?_
  refine R_aload_n (i := 48) rfl rfl ?_
  refine R_aload_n (i := 49) rfl rfl ?_
  have zr17 := bind_some hf
  clear hf
  obtain ⟨r17, er17, hf⟩ := zr17
  refine R_getR hW15 (i := 50) rfl rfl (Nat.le_of_ble_eq_true rfl) er17 ?_
  refine R_putR hW15 (i := 51) rfl rfl (Nat.le_of_ble_eq_true rfl) (Or.inl rfl) (hg rfl hd) (fun h18 eh18 => ?_)
  replace hf := bnd_some eh18 hf
  have hW18 : WF 0 h18 := by rw [eh18]; exact hW15.uR (Or.inl rfl)
  refine R_aload_n (i := 52) rfl rfl ?_
  refine R_aload (i := 53) rfl rfl ?_
  refine R_putR hW18 (i := 54) rfl rfl (Nat.le_of_ble_eq_true rfl) (Or.inl rfl) (hg rfl hd) (fun h19 eh19 => ?_)
  replace hf := bnd_some eh19 hf
  have hW19 : WF 0 h19 := by rw [eh19]; exact hW18.uR (Or.inl rfl)
  refine R_iload (i := 55) rfl rfl ?_
  have hz := Option.some.inj hf
  subst hz
  exact R_zret (i := 56) rfl rfl (kk hW19)
set_option maxRecDepth 100000 in
set_option maxHeartbeats 4000000 in
theorem f6_l5_l {d N : Nat} {x1 : Int32} {x2 : Int32} {x3 : Int32} {s : Int32 × Hp} {Q : Option Value → Hp → Prop} {j : Nat} {s' : Int32 × Hp} (hf : f6_l5 N x1 x2 x3 s = some (j, s')) (hW : WF 0 s.2) (hd : 7 ≤ d) (k0 : j = 0 → WF 0 s'.2 → R 0 d 6 5 [some (.ref 64), some (.int x1), some (.int x2), some (.int x3), some (.int s'.1), none] [] s'.2 Q) (k1 : j = 1 → WF 0 s'.2 → R 0 d 6 21 [some (.ref 64), none, none, some (.int x3), none, none] [] s'.2 Q) : R 0 d 6 5 [some (.ref 64), some (.int x1), some (.int x2), some (.int x3), some (.int s.1), none] [] s.2 Q := by
  obtain ⟨d, rfl⟩ : ∃ z, d = z + 1 := ⟨d - 1, by omega⟩
  unfold f6_l5 at hf
  refine R_iload (i := 5) rfl rfl ?_
  refine R_iload_n (i := 6) rfl rfl ?_
  refine R_icmpge (i := 7) rfl (fun c2 => ?_) (fun c2 => ?_)
  · rw [if_pos c2] at hf
    obtain ⟨hj, hs⟩ := Prod.mk.inj (Option.some.inj hf)
    subst hj
    subst hs
    refine R_weak [some (.ref 64), none, none, some (.int x3), none, none] ⟨Or.inr rfl, Or.inl rfl, Or.inl rfl, Or.inr rfl, Or.inl rfl, Or.inr rfl, trivial⟩ ?_
    exact k1 rfl hW
  · rw [if_neg c2] at hf
    refine R_aload_n (i := 8) rfl rfl ?_
    refine R_iload_n (i := 9) rfl rfl ?_
    refine R_call (vs := [.int x1]) (st' := [.ref 64]) (i := 10) rfl (by decide) (by decide) rfl rfl (Nat.le_of_ble_eq_true rfl) rfl (f131_l (hh rfl hd) ?_)
    refine R_iload (i := 11) rfl rfl ?_
    refine R_iadd (i := 12) rfl ?_
    refine R_bipush (i := 13) rfl ?_
    refine R_irem (i := 14) rfl (by decide) ?_
    refine R_iconst (i := 15) rfl ?_
    refine R_iconst (i := 16) rfl ?_
    have zq3 := bind_some hf
    clear hf
    obtain ⟨q3, eq3, hf⟩ := zq3
    refine R_callV (vs := [.int (irem ((f131 x1) + s.1) (8 : Int32)), .int (1 : Int32), .int (-1 : Int32)]) (st' := []) hW (i := 17) rfl rfl rfl (Nat.le_of_ble_eq_true rfl) rfl (Nat.le_of_ble_eq_true rfl) rfl (f20_l eq3 hW (hh rfl hd) (fun hW3 => ?_))
    refine R_pop (i := 18) rfl rfl ?_
    obtain ⟨v4, e4⟩ : ∃ z : Int32, z = (s.1 + (1 : Int32)) := ⟨_, rfl⟩
    replace hf := bnd_some e4 hf
    refine R_iinc [some (.ref 64), some (.int x1), some (.int x2), some (.int x3), some (.int v4), none] (i := 19) rfl rfl (by rw [← e4]; rfl) ?_
    refine R_goto (i := 20) rfl ?_
    obtain ⟨hj, hs⟩ := Prod.mk.inj (Option.some.inj hf)
    subst hj
    subst hs
    exact k0 rfl hW3
set_option maxRecDepth 100000 in
set_option maxHeartbeats 4000000 in
theorem f6_b43_l {d N : Nat} {x3 : Int32} {x5 : Int32} {t0 : Int32} {t1 : Int32} {h : Hp} {Q : Option Value → Hp → Prop} {j : Nat} {s' : Int32 × Int32} (hf : f6_b43 N x3 x5 t0 t1 h = some (j, s')) (hW : WF 0 h) (hd : 7 ≤ d) (k0 : j = 0 → R 0 d 6 25 [some (.ref 64), none, none, some (.int x3), some (.int s'.1), some (.int s'.2)] [] h Q) (k1 : j = 1 → R 0 d 6 47 [none, none, none, none, some (.int s'.1), none] [] h Q) : R 0 d 6 43 [some (.ref 64), none, none, some (.int x3), none, some (.int x5)] [.int t0, .int t1] h Q := by
  unfold f6_b43 at hf
  refine R_ior (i := 43) rfl ?_
  refine R_topi (fun v10 e10 => ?_)
  replace hf := bnd_some e10 hf
  refine R_istore [some (.ref 64), none, none, some (.int x3), some (.int v10), some (.int x5)] (i := 44) rfl rfl ?_
  obtain ⟨v11, e11⟩ : ∃ z : Int32, z = (x5 + (1 : Int32)) := ⟨_, rfl⟩
  replace hf := bnd_some e11 hf
  refine R_iinc [some (.ref 64), none, none, some (.int x3), some (.int v10), some (.int v11)] (i := 45) rfl rfl (by rw [← e11]; rfl) ?_
  refine R_goto (i := 46) rfl ?_
  obtain ⟨hj, hs⟩ := Prod.mk.inj (Option.some.inj hf)
  subst hj
  subst hs
  exact k0 rfl
set_option maxRecDepth 100000 in
set_option maxHeartbeats 4000000 in
theorem f6_l25_l {d N : Nat} {x3 : Int32} {h : Hp} {s : Int32 × Int32} {Q : Option Value → Hp → Prop} {j : Nat} {s' : Int32 × Int32} (hf : f6_l25 N x3 h s = some (j, s')) (hW : WF 0 h) (hd : 7 ≤ d) (k0 : j = 0 → R 0 d 6 25 [some (.ref 64), none, none, some (.int x3), some (.int s'.1), some (.int s'.2)] [] h Q) (k1 : j = 1 → R 0 d 6 47 [none, none, none, none, some (.int s'.1), none] [] h Q) : R 0 d 6 25 [some (.ref 64), none, none, some (.int x3), some (.int s.1), some (.int s.2)] [] h Q := by
  obtain ⟨d, rfl⟩ : ∃ z, d = z + 1 := ⟨d - 1, by omega⟩
  unfold f6_l25 at hf
  refine R_iload (i := 25) rfl rfl ?_
  refine R_aload_n (i := 26) rfl rfl ?_
  refine R_getF hW (i := 27) rfl rfl (Nat.le_of_ble_eq_true rfl) rfl ?_
  refine R_getI hW (i := 28) rfl rfl (Nat.le_of_ble_eq_true rfl) ?_
  refine R_icmpge (i := 29) rfl (fun c6 => ?_) (fun c6 => ?_)
  · rw [if_pos c6] at hf
    obtain ⟨hj, hs⟩ := Prod.mk.inj (Option.some.inj hf)
    subst hj
    subst hs
    refine R_weak [none, none, none, none, some (.int s.1), none] ⟨Or.inl rfl, Or.inr rfl, Or.inr rfl, Or.inl rfl, Or.inr rfl, Or.inl rfl, trivial⟩ ?_
    exact k1 rfl
  · rw [if_neg c6] at hf
    refine R_iload (i := 30) rfl rfl ?_
    refine R_aload_n (i := 31) rfl rfl ?_
    have zr7 := bind_some hf
    clear hf
    obtain ⟨r7, er7, hf⟩ := zr7
    refine R_getR hW (i := 32) rfl rfl (Nat.le_of_ble_eq_true rfl) er7 ?_
    refine R_iload_n (i := 33) rfl rfl ?_
    refine R_iload (i := 34) rfl rfl ?_
    refine R_call (vs := [.int x3, .int s.2]) (st' := [.ref r7, .int s.1]) (i := 35) rfl (by decide) (by decide) rfl rfl (Nat.le_of_ble_eq_true rfl) rfl (f133_l (hh rfl hd) ?_)
    have g8 := gd_some hf
    clear hf
    obtain ⟨g8, hf⟩ := g8
    refine R_iaload hW (i := 36) rfl g8.1 g8.2 ?_
    refine R_ifeq (i := 37) rfl (fun c9 => ?_) (fun c9 => ?_)
    · rw [if_pos c9] at hf
      refine R_iconst (i := 42) rfl ?_
      refine R_weak [some (.ref 64), none, none, some (.int x3), none, some (.int s.2)] ⟨Or.inr rfl, Or.inr rfl, Or.inr rfl, Or.inr rfl, Or.inl rfl, Or.inr rfl, trivial⟩ ?_
      exact f6_b43_l hf hW hd k0 k1
    · rw [if_neg c9] at hf
      refine R_iconst (i := 38) rfl ?_
      refine R_iload (i := 39) rfl rfl ?_
      refine R_ishl (i := 40) rfl ?_
      refine R_goto (i := 41) rfl ?_
      refine R_weak [some (.ref 64), none, none, some (.int x3), none, some (.int s.2)] ⟨Or.inr rfl, Or.inr rfl, Or.inr rfl, Or.inr rfl, Or.inl rfl, Or.inr rfl, trivial⟩ ?_
      exact f6_b43_l hf hW hd k0 k1
set_option maxRecDepth 100000 in
set_option maxHeartbeats 4000000 in
theorem f6_l {d N : Nat} {p1 : Int32} {p2 : Int32} {p3 : Int32} {h : Hp} {Q : Option Value → Hp → Prop} {q : Int32 × Hp} (hf : f6 N p1 p2 p3 h = some q) (hW : WF 0 h) (hd : 7 ≤ d) (kk : WF 0 q.2 → Q (some (.int q.1)) q.2) : R 0 d 6 0 [some (.ref 64), some (.int p1), some (.int p2), some (.int p3), none, none] [] h Q := by
  obtain ⟨d, rfl⟩ : ∃ z, d = z + 1 := ⟨d - 1, by omega⟩
  unfold f6 at hf
  refine R_aload_n (i := 0) rfl rfl ?_
  refine R_iload_n (i := 1) rfl rfl ?_
  have zq1 := bind_some hf
  clear hf
  obtain ⟨q1, eq1, hf⟩ := zq1
  refine R_callV (vs := [.int p1]) (st' := []) hW (i := 2) rfl rfl rfl (Nat.le_of_ble_eq_true rfl) rfl (Nat.le_of_ble_eq_true rfl) rfl (f19_l eq1 hW (hh rfl hd) (fun hW1 => ?_))
  refine R_iconst (i := 3) rfl ?_
  refine R_istore [some (.ref 64), some (.int p1), some (.int p2), some (.int p3), some (.int (0 : Int32)), none] (i := 4) rfl rfl ?_
  have zq5 := bind_some hf
  clear hf
  obtain ⟨q5, eq5, hf⟩ := zq5
  refine lp_link (P := fun u5 => WF 0 u5.2 → R 0 (d + 1) 6 5 [some (.ref 64), some (.int p1), some (.int p2), some (.int p3), some (.int u5.1), none] [] u5.2 Q) (E := fun e u5 => WF 0 u5.2 → R 0 (d + 1) 6 21 [some (.ref 64), none, none, some (.int p3), none, none] [] u5.2 Q) (fun s j s' hb k0 ke hWs => f6_l5_l hb hWs hd k0 (fun z y => ke 0 z y)) N ((0 : Int32), q1) q5.1 q5.2 eq5 ?_ hW1
  intro hW5
  refine R_iconst (i := 21) rfl ?_
  refine R_istore [some (.ref 64), none, none, some (.int p3), some (.int (0 : Int32)), none] (i := 22) rfl rfl ?_
  refine R_iconst (i := 23) rfl ?_
  refine R_istore [some (.ref 64), none, none, some (.int p3), some (.int (0 : Int32)), some (.int (0 : Int32))] (i := 24) rfl rfl ?_
  have zq12 := bind_some hf
  clear hf
  obtain ⟨q12, eq12, hf⟩ := zq12
  refine lp_link (P := fun u25 => R 0 (d + 1) 6 25 [some (.ref 64), none, none, some (.int p3), some (.int u25.1), some (.int u25.2)] [] q5.2.2 Q) (E := fun e u25 => R 0 (d + 1) 6 47 [none, none, none, none, some (.int u25.1), none] [] q5.2.2 Q) (fun s j s' hb k0 ke => f6_l25_l hb hW5 hd k0 (fun z => ke 0 z)) N ((0 : Int32), (0 : Int32)) q12.1 q12.2 eq12 ?_
  refine R_iload (i := 47) rfl rfl ?_
  have hz := Option.some.inj hf
  subst hz
  exact R_iret (i := 48) rfl (kk hW5)
set_option maxRecDepth 100000 in
set_option maxHeartbeats 4000000 in
theorem f106_l {d N : Nat} {p1 : Int32} {p2 : Int32} {p3 : Int32} {h : Hp} {Q : Option Value → Hp → Prop} {q : Int32 × Hp} (hf : f106 N p1 p2 p3 h = some q) (hW : WF 0 h) (hd : 10 ≤ d) (kk : WF 0 q.2 → Q (some (.int q.1)) q.2) : R 0 d 106 0 [some (.ref 0), some (.int p1), some (.int p2), some (.int p3)] [] h Q := by
  obtain ⟨d, rfl⟩ : ∃ z, d = z + 1 := ⟨d - 1, by omega⟩
  unfold f106 at hf
  refine R_aload_n (i := 0) rfl rfl ?_
  refine R_iload_n (i := 1) rfl rfl ?_
  have zq1 := bind_some hf
  clear hf
  obtain ⟨q1, eq1, hf⟩ := zq1
  refine R_callV (vs := [.int p1]) (st' := []) hW (i := 2) rfl rfl rfl (Nat.le_of_ble_eq_true rfl) rfl (Nat.le_of_ble_eq_true rfl) rfl (f128_l eq1 hW (hh rfl hd) ?_)
  refine R_ifeq (i := 3) rfl (fun c2 => ?_) (fun c2 => ?_)
  · rw [if_pos c2] at hf
    refine R_iconst (i := 12) rfl ?_
    have hz := Option.some.inj hf
    subst hz
    exact R_iret (i := 13) rfl (kk hW)
  · rw [if_neg c2] at hf
    refine R_iload_n (i := 4) rfl rfl ?_
    refine R_iflt (i := 5) rfl (fun c3 => ?_) (fun c3 => ?_)
    · rw [if_pos c3] at hf
      refine R_iconst (i := 12) rfl ?_
      have hz := Option.some.inj hf
      subst hz
      exact R_iret (i := 13) rfl (kk hW)
    · rw [if_neg c3] at hf
      refine R_iload_n (i := 6) rfl rfl ?_
      refine R_bipush (i := 7) rfl ?_
      refine R_icmpgt (i := 8) rfl (fun c4 => ?_) (fun c4 => ?_)
      · rw [if_pos c4] at hf
        refine R_iconst (i := 12) rfl ?_
        have hz := Option.some.inj hf
        subst hz
        exact R_iret (i := 13) rfl (kk hW)
      · rw [if_neg c4] at hf
        refine R_iload_n (i := 9) rfl rfl ?_
        refine R_call (vs := [.int p3]) (st' := []) (i := 10) rfl (by decide) (by decide) rfl rfl (Nat.le_of_ble_eq_true rfl) rfl (f125_l (hh rfl hd) ?_)
        refine R_ifne (i := 11) rfl (fun c5 => ?_) (fun c5 => ?_)
        · rw [if_neg c5] at hf
          refine R_aload_n (i := 14) rfl rfl ?_
          refine R_getF hW (i := 15) rfl rfl (Nat.le_of_ble_eq_true rfl) rfl ?_
          refine R_iload_n (i := 16) rfl rfl ?_
          refine R_call (vs := [.int p1]) (st' := [.ref 64]) (i := 17) rfl (by decide) (by decide) rfl rfl (Nat.le_of_ble_eq_true rfl) rfl (f131_l (hh rfl hd) ?_)
          refine R_iload_n (i := 18) rfl rfl ?_
          have zq6 := bind_some hf
          clear hf
          obtain ⟨q6, eq6, hf⟩ := zq6
          refine R_callV (vs := [.int (f131 p1), .int p2]) (st' := []) hW (i := 19) rfl rfl rfl (Nat.le_of_ble_eq_true rfl) rfl (Nat.le_of_ble_eq_true rfl) rfl (f4_l eq6 hW (hh rfl hd) (fun hW6 => ?_))
          refine R_aload_n (i := 20) rfl rfl ?_
          refine R_getF hW6 (i := 21) rfl rfl (Nat.le_of_ble_eq_true rfl) rfl ?_
          refine R_iload_n (i := 22) rfl rfl ?_
          refine R_iload_n (i := 23) rfl rfl ?_
          refine R_iload_n (i := 24) rfl rfl ?_
          have zq7 := bind_some hf
          clear hf
          obtain ⟨q7, eq7, hf⟩ := zq7
          refine R_callV (vs := [.int p1, .int p2, .int p3]) (st' := []) hW6 (i := 25) rfl rfl rfl (Nat.le_of_ble_eq_true rfl) rfl (Nat.le_of_ble_eq_true rfl) rfl (f6_l eq7 hW6 (hh rfl hd) (fun hW7 => ?_))
          have hz := Option.some.inj hf
          subst hz
          exact R_iret (i := 26) rfl (kk hW7)
        · rw [if_pos c5] at hf
          refine R_iconst (i := 12) rfl ?_
          have hz := Option.some.inj hf
          subst hz
          exact R_iret (i := 13) rfl (kk hW)
set_option maxRecDepth 100000 in
set_option maxHeartbeats 4000000 in
theorem f231_68_l5_l {d N : Nat} {x1 : Int32} {x3 : Int32} {s : Int32 × Hp} {Q : Option Value → Hp → Prop} {j : Nat} {s' : Int32 × Hp} (hf : f231_68_l5 N x1 x3 s = some (j, s')) (hW : WF 0 s.2) (hd : 5 ≤ d) (k0 : j = 0 → WF 0 s'.2 → R 0 d 231 5 [some (.ref 68), some (.int x1), some (.int s'.1), some (.int x3)] [] s'.2 Q) (k1 : j = 1 → WF 0 s'.2 → R 0 d 231 14 [none, none, none, none] [] s'.2 Q) : R 0 d 231 5 [some (.ref 68), some (.int x1), some (.int s.1), some (.int x3)] [] s.2 Q := by
  unfold f231_68_l5 at hf
  refine R_iload_n (i := 5) rfl rfl ?_
  refine R_iload_n (i := 6) rfl rfl ?_
  refine R_icmpge (i := 7) rfl (fun c1 => ?_) (fun c1 => ?_)
  · rw [if_pos c1] at hf
    obtain ⟨hj, hs⟩ := Prod.mk.inj (Option.some.inj hf)
    subst hj
    subst hs
    refine R_weak [none, none, none, none] ⟨Or.inl rfl, Or.inl rfl, Or.inl rfl, Or.inl rfl, trivial⟩ ?_
    exact k1 rfl hW
  · rw [if_neg c1] at hf
    refine R_aload_n (i := 8) rfl rfl ?_
    refine R_iload_n (i := 9) rfl rfl ?_
    refine R_iload_n (i := 10) rfl rfl ?_
    have g2 := gd_some hf
    clear hf
    obtain ⟨g2, hf⟩ := g2
    refine R_iastore hW (i := 11) rfl rfl g2 (hg rfl hd) (fun h3 eh3 => ?_)
    replace hf := bnd_some eh3 hf
    have hW3 : WF 0 h3 := by rw [eh3]; exact hW
    obtain ⟨v4, e4⟩ : ∃ z : Int32, z = (s.1 + (1 : Int32)) := ⟨_, rfl⟩
    replace hf := bnd_some e4 hf
    refine R_iinc [some (.ref 68), some (.int x1), some (.int v4), some (.int x3)] (i := 12) rfl rfl (by rw [← e4]; rfl) ?_
    refine R_goto (i := 13) rfl ?_
    obtain ⟨hj, hs⟩ := Prod.mk.inj (Option.some.inj hf)
    subst hj
    subst hs
    exact k0 rfl hW3
set_option maxRecDepth 100000 in
set_option maxHeartbeats 4000000 in
theorem f231_68_l {d N : Nat} {p1 : Int32} {h : Hp} {Q : Option Value → Hp → Prop} {q : Hp} (hf : f231_68 N p1 h = some q) (hW : WF 0 h) (hd : 5 ≤ d) (kk : WF 0 q → Q (none) q) : R 0 d 231 0 [some (.ref 68), some (.int p1), none, none] [] h Q := by
  unfold f231_68 at hf
  refine R_iconst (i := 0) rfl ?_
  refine R_istore_n [some (.ref 68), some (.int p1), some (.int (0 : Int32)), none] (i := 1) rfl rfl ?_
  refine R_aload_n (i := 2) rfl rfl ?_
  refine R_alen (v := 1152) hW (i := 3) rfl rfl rfl ?_
  refine R_istore_n [some (.ref 68), some (.int p1), some (.int (0 : Int32)), some (.int (1152 : Int32))] (i := 4) rfl rfl ?_
  have zq5 := bind_some hf
  clear hf
  obtain ⟨q5, eq5, hf⟩ := zq5
  refine lp_link (P := fun u5 => WF 0 u5.2 → R 0 d 231 5 [some (.ref 68), some (.int p1), some (.int u5.1), some (.int (1152 : Int32))] [] u5.2 Q) (E := fun e u5 => WF 0 u5.2 → R 0 d 231 14 [none, none, none, none] [] u5.2 Q) (fun s j s' hb k0 ke hWs => f231_68_l5_l hb hWs hd k0 (fun z y => ke 0 z y)) N ((0 : Int32), h) q5.1 q5.2 eq5 ?_ hW
  intro hW5
  have hz := Option.some.inj hf
  subst hz
  exact R_vret (i := 14) rfl (kk hW5)
set_option maxRecDepth 100000 in
set_option maxHeartbeats 4000000 in
theorem f18_b68_l {d N : Nat} {x1 : Int32} {x2 : Int32} {x3 : Int32} {x4 : Int32} {x6 : Int32} {x7 : Int32} {x8 : Int32} {x9 : Int32} {h : Hp} {Q : Option Value → Hp → Prop} {j : Nat} {s' : Int32 × Int32} (hf : f18_b68 N x1 x2 x3 x4 x6 x7 x8 x9 h = some (j, s')) (hW : WF 0 h) (hd : 1 ≤ d) (k0 : j = 0 → R 0 d 18 18 [some (.ref 64), some (.int x1), some (.int x2), some (.int x3), some (.int x4), none, some (.int x6), some (.int x7), some (.int s'.1), some (.int s'.2), none, none] [] h Q) (k1 : j = 1 → R 0 d 18 70 [none, none, none, none, none, none, some (.int x6), none, some (.int s'.1), none, none, none] [] h Q) : R 0 d 18 68 [some (.ref 64), some (.int x1), some (.int x2), some (.int x3), some (.int x4), none, some (.int x6), some (.int x7), some (.int x8), some (.int x9), none, none] [] h Q := by
  unfold f18_b68 at hf
  obtain ⟨v11, e11⟩ : ∃ z : Int32, z = (x9 + (1 : Int32)) := ⟨_, rfl⟩
  replace hf := bnd_some e11 hf
  refine R_iinc [some (.ref 64), some (.int x1), some (.int x2), some (.int x3), some (.int x4), none, some (.int x6), some (.int x7), some (.int x8), some (.int v11), none, none] (i := 68) rfl rfl (by rw [← e11]; rfl) ?_
  refine R_goto (i := 69) rfl ?_
  obtain ⟨hj, hs⟩ := Prod.mk.inj (Option.some.inj hf)
  subst hj
  subst hs
  exact k0 rfl
set_option maxRecDepth 100000 in
set_option maxHeartbeats 4000000 in
theorem f18_b60_l {d N : Nat} {x1 : Int32} {x2 : Int32} {x3 : Int32} {x4 : Int32} {x6 : Int32} {x7 : Int32} {x8 : Int32} {x9 : Int32} {h : Hp} {Q : Option Value → Hp → Prop} {j : Nat} {s' : Int32 × Int32} (hf : f18_b60 N x1 x2 x3 x4 x6 x7 x8 x9 h = some (j, s')) (hW : WF 0 h) (hd : 1 ≤ d) (k0 : j = 0 → R 0 d 18 18 [some (.ref 64), some (.int x1), some (.int x2), some (.int x3), some (.int x4), none, some (.int x6), some (.int x7), some (.int s'.1), some (.int s'.2), none, none] [] h Q) (k1 : j = 1 → R 0 d 18 70 [none, none, none, none, none, none, some (.int x6), none, some (.int s'.1), none, none, none] [] h Q) : R 0 d 18 60 [some (.ref 64), some (.int x1), some (.int x2), some (.int x3), some (.int x4), none, some (.int x6), some (.int x7), some (.int x8), some (.int x9), none, none] [] h Q := by
  unfold f18_b60 at hf
  refine R_iload (i := 60) rfl rfl ?_
  refine R_iconst (i := 61) rfl ?_
  refine R_iload (i := 62) rfl rfl ?_
  refine R_iconst (i := 63) rfl ?_
  refine R_isub (i := 64) rfl ?_
  refine R_ishl (i := 65) rfl ?_
  refine R_ior (i := 66) rfl ?_
  refine R_topi (fun v10 e10 => ?_)
  replace hf := bnd_some e10 hf
  refine R_istore [some (.ref 64), some (.int x1), some (.int x2), some (.int x3), some (.int x4), none, some (.int x6), some (.int x7), some (.int v10), some (.int x9), none, none] (i := 67) rfl rfl ?_
  exact f18_b68_l hf hW hd k0 k1
set_option maxRecDepth 100000 in
set_option maxHeartbeats 4000000 in
theorem f18_b31_l {d N : Nat} {x1 : Int32} {x2 : Int32} {x3 : Int32} {x4 : Int32} {x6 : Int32} {x7 : Int32} {x8 : Int32} {x9 : Int32} {t0 : Int32} {h : Hp} {Q : Option Value → Hp → Prop} {j : Nat} {s' : Int32 × Int32} (hf : f18_b31 N x1 x2 x3 x4 x6 x7 x8 x9 t0 h = some (j, s')) (hW : WF 0 h) (hd : 1 ≤ d) (k0 : j = 0 → R 0 d 18 18 [some (.ref 64), some (.int x1), some (.int x2), some (.int x3), some (.int x4), none, some (.int x6), some (.int x7), some (.int s'.1), some (.int s'.2), none, none] [] h Q) (k1 : j = 1 → R 0 d 18 70 [none, none, none, none, none, none, some (.int x6), none, some (.int s'.1), none, none, none] [] h Q) : R 0 d 18 31 [some (.ref 64), some (.int x1), some (.int x2), some (.int x3), some (.int x4), none, some (.int x6), some (.int x7), some (.int x8), some (.int x9), none, none] [.int t0] h Q := by
  obtain ⟨d, rfl⟩ : ∃ z, d = z + 1 := ⟨d - 1, by omega⟩
  unfold f18_b31 at hf
  refine R_istore [some (.ref 64), some (.int x1), some (.int x2), some (.int x3), some (.int x4), none, some (.int x6), some (.int x7), some (.int x8), some (.int x9), some (.int t0), none] (i := 31) rfl rfl ?_
  refine R_iload_n (i := 32) rfl rfl ?_
  refine R_aload_n (i := 33) rfl rfl ?_
  refine R_getF hW (i := 34) rfl rfl (Nat.le_of_ble_eq_true rfl) rfl ?_
  refine R_iload_n (i := 35) rfl rfl ?_
  refine R_iload (i := 36) rfl rfl ?_
  have zq7 := bind_some hf
  clear hf
  obtain ⟨q7, eq7, hf⟩ := zq7
  refine R_callV (vs := [.int x3, .int x9]) (st' := [.int x2]) hW (i := 37) rfl rfl rfl (Nat.le_of_ble_eq_true rfl) rfl (Nat.le_of_ble_eq_true rfl) rfl (f60_l eq7 hW (hh rfl hd) ?_)
  refine R_iload (i := 38) rfl rfl ?_
  refine R_iconst (i := 39) rfl ?_
  refine R_iadd (i := 40) rfl ?_
  refine R_bipush (i := 41) rfl ?_
  refine R_irem (i := 42) rfl (by decide) ?_
  refine R_call (vs := [.int x2, .int q7, .int (irem (x4 + (1 : Int32)) (8 : Int32))]) (st' := []) (i := 43) rfl (by decide) (by decide) rfl rfl (Nat.le_of_ble_eq_true rfl) rfl (f134_l (hh rfl hd) ?_)
  refine R_topi (fun v8 e8 => ?_)
  replace hf := bnd_some e8 hf
  refine R_istore [some (.ref 64), some (.int x1), some (.int x2), some (.int x3), some (.int x4), none, some (.int x6), some (.int x7), some (.int x8), some (.int x9), some (.int t0), some (.int v8)] (i := 44) rfl rfl ?_
  refine R_iload (i := 45) rfl rfl ?_
  refine R_iflt (i := 46) rfl (fun c9 => ?_) (fun c9 => ?_)
  · rw [if_pos c9] at hf
    refine R_weak [some (.ref 64), some (.int x1), some (.int x2), some (.int x3), some (.int x4), none, some (.int x6), some (.int x7), some (.int x8), some (.int x9), none, none] ⟨Or.inr rfl, Or.inr rfl, Or.inr rfl, Or.inr rfl, Or.inr rfl, Or.inr rfl, Or.inr rfl, Or.inr rfl, Or.inr rfl, Or.inr rfl, Or.inl rfl, Or.inl rfl, trivial⟩ ?_
    exact f18_b60_l hf hW hd k0 k1
  · rw [if_neg c9] at hf
    refine R_aload_n (i := 47) rfl rfl ?_
    have zr12 := bind_some hf
    clear hf
    obtain ⟨r12, er12, hf⟩ := zr12
    refine R_getR hW (i := 48) rfl rfl (Nat.le_of_ble_eq_true rfl) er12 ?_
    refine R_iload (i := 49) rfl rfl ?_
    refine R_sipush (i := 50) rfl ?_
    refine R_imul (i := 51) rfl ?_
    refine R_iload (i := 52) rfl rfl ?_
    refine R_iadd (i := 53) rfl ?_
    have g13 := gd_some hf
    clear hf
    obtain ⟨g13, hf⟩ := g13
    refine R_iaload hW (i := 54) rfl g13.1 g13.2 ?_
    refine R_iload (i := 55) rfl rfl ?_
    refine R_iconst (i := 56) rfl ?_
    refine R_isub (i := 57) rfl ?_
    refine R_call (vs := [.int (hI h r12 (ix ((t0 * (288 : Int32)) + v8))), .int (x9 - (1 : Int32))]) (st' := []) (i := 58) rfl (by decide) (by decide) rfl rfl (Nat.le_of_ble_eq_true rfl) rfl (f123_l (hh rfl hd) ?_)
    refine R_ifeq (i := 59) rfl (fun c14 => ?_) (fun c14 => ?_)
    · rw [if_pos c14] at hf
      refine R_weak [some (.ref 64), some (.int x1), some (.int x2), some (.int x3), some (.int x4), none, some (.int x6), some (.int x7), some (.int x8), some (.int x9), none, none] ⟨Or.inr rfl, Or.inr rfl, Or.inr rfl, Or.inr rfl, Or.inr rfl, Or.inr rfl, Or.inr rfl, Or.inr rfl, Or.inr rfl, Or.inr rfl, Or.inl rfl, Or.inl rfl, trivial⟩ ?_
      exact f18_b68_l hf hW hd k0 k1
    · rw [if_neg c14] at hf
      refine R_weak [some (.ref 64), some (.int x1), some (.int x2), some (.int x3), some (.int x4), none, some (.int x6), some (.int x7), some (.int x8), some (.int x9), none, none] ⟨Or.inr rfl, Or.inr rfl, Or.inr rfl, Or.inr rfl, Or.inr rfl, Or.inr rfl, Or.inr rfl, Or.inr rfl, Or.inr rfl, Or.inr rfl, Or.inl rfl, Or.inl rfl, trivial⟩ ?_
      exact f18_b60_l hf hW hd k0 k1
set_option maxRecDepth 100000 in
set_option maxHeartbeats 4000000 in
theorem f18_l18_l {d N : Nat} {x1 : Int32} {x2 : Int32} {x3 : Int32} {x4 : Int32} {x6 : Int32} {x7 : Int32} {h : Hp} {s : Int32 × Int32} {Q : Option Value → Hp → Prop} {j : Nat} {s' : Int32 × Int32} (hf : f18_l18 N x1 x2 x3 x4 x6 x7 h s = some (j, s')) (hW : WF 0 h) (hd : 1 ≤ d) (k0 : j = 0 → R 0 d 18 18 [some (.ref 64), some (.int x1), some (.int x2), some (.int x3), some (.int x4), none, some (.int x6), some (.int x7), some (.int s'.1), some (.int s'.2), none, none] [] h Q) (k1 : j = 1 → R 0 d 18 70 [none, none, none, none, none, none, some (.int x6), none, some (.int s'.1), none, none, none] [] h Q) : R 0 d 18 18 [some (.ref 64), some (.int x1), some (.int x2), some (.int x3), some (.int x4), none, some (.int x6), some (.int x7), some (.int s.1), some (.int s.2), none, none] [] h Q := by
  unfold f18_l18 at hf
  refine R_iload (i := 18) rfl rfl ?_
  refine R_iconst (i := 19) rfl ?_
  refine R_icmpgt (i := 20) rfl (fun c4 => ?_) (fun c4 => ?_)
  · rw [if_pos c4] at hf
    obtain ⟨hj, hs⟩ := Prod.mk.inj (Option.some.inj hf)
    subst hj
    subst hs
    refine R_weak [none, none, none, none, none, none, some (.int x6), none, some (.int s.1), none, none, none] ⟨Or.inl rfl, Or.inl rfl, Or.inl rfl, Or.inl rfl, Or.inl rfl, Or.inr rfl, Or.inr rfl, Or.inl rfl, Or.inr rfl, Or.inl rfl, Or.inr rfl, Or.inr rfl, trivial⟩ ?_
    exact k1 rfl
  · rw [if_neg c4] at hf
    refine R_iload (i := 21) rfl rfl ?_
    refine R_ifeq (i := 22) rfl (fun c5 => ?_) (fun c5 => ?_)
    · rw [if_pos c5] at hf
      obtain ⟨hj, hs⟩ := Prod.mk.inj (Option.some.inj hf)
      subst hj
      subst hs
      refine R_weak [none, none, none, none, none, none, some (.int x6), none, some (.int s.1), none, none, none] ⟨Or.inl rfl, Or.inl rfl, Or.inl rfl, Or.inl rfl, Or.inl rfl, Or.inr rfl, Or.inr rfl, Or.inl rfl, Or.inr rfl, Or.inl rfl, Or.inr rfl, Or.inr rfl, trivial⟩ ?_
      exact k1 rfl
    · rw [if_neg c5] at hf
      refine R_iload (i := 23) rfl rfl ?_
      refine R_iload (i := 24) rfl rfl ?_
      refine R_icmpgt (i := 25) rfl (fun c6 => ?_) (fun c6 => ?_)
      · rw [if_pos c6] at hf
        refine R_iload_n (i := 30) rfl rfl ?_
        exact f18_b31_l hf hW hd k0 k1
      · rw [if_neg c6] at hf
        refine R_iload_n (i := 26) rfl rfl ?_
        refine R_iconst (i := 27) rfl ?_
        refine R_isub (i := 28) rfl ?_
        refine R_goto (i := 29) rfl ?_
        exact f18_b31_l hf hW hd k0 k1
set_option maxRecDepth 100000 in
set_option maxHeartbeats 4000000 in
theorem f18_l {d N : Nat} {p1 : Int32} {p2 : Int32} {p3 : Int32} {p4 : Int32} {p5 : Int32} {h : Hp} {Q : Option Value → Hp → Prop} {q : Int32} (hf : f18 N p1 p2 p3 p4 p5 h = some q) (hW : WF 0 h) (hd : 1 ≤ d) (kk : Q (some (.int q)) h) : R 0 d 18 0 [some (.ref 64), some (.int p1), some (.int p2), some (.int p3), some (.int p4), some (.int p5), none, none, none, none, none, none] [] h Q := by
  obtain ⟨d, rfl⟩ : ∃ z, d = z + 1 := ⟨d - 1, by omega⟩
  unfold f18 at hf
  refine R_aload_n (i := 0) rfl rfl ?_
  refine R_getF hW (i := 1) rfl rfl (Nat.le_of_ble_eq_true rfl) rfl ?_
  refine R_iload_n (i := 2) rfl rfl ?_
  refine R_iload_n (i := 3) rfl rfl ?_
  refine R_iload (i := 4) rfl rfl ?_
  refine R_call (vs := [.int p2, .int p3, .int p4]) (st' := [.ref 67]) (i := 5) rfl (by decide) (by decide) rfl rfl (Nat.le_of_ble_eq_true rfl) rfl (f134_l (hh rfl hd) ?_)
  have g1 := gd_some hf
  clear hf
  obtain ⟨g1, hf⟩ := g1
  refine R_iaload hW (i := 6) rfl rfl g1 ?_
  refine R_topi (fun v2 e2 => ?_)
  replace hf := bnd_some e2 hf
  refine R_istore [some (.ref 64), some (.int p1), some (.int p2), some (.int p3), some (.int p4), some (.int p5), some (.int v2), none, none, none, none, none] (i := 7) rfl rfl ?_
  refine R_aload_n (i := 8) rfl rfl ?_
  refine R_getF hW (i := 9) rfl rfl (Nat.le_of_ble_eq_true rfl) rfl ?_
  refine R_iload_n (i := 10) rfl rfl ?_
  refine R_iload (i := 11) rfl rfl ?_
  have zq3 := bind_some hf
  clear hf
  obtain ⟨q3, eq3, hf⟩ := zq3
  refine R_callV (vs := [.int p3, .int p5]) (st' := []) hW (i := 12) rfl rfl rfl (Nat.le_of_ble_eq_true rfl) rfl (Nat.le_of_ble_eq_true rfl) rfl (f61_l eq3 hW (hh rfl hd) ?_)
  refine R_istore [some (.ref 64), some (.int p1), some (.int p2), some (.int p3), some (.int p4), some (.int p5), some (.int v2), some (.int q3), none, none, none, none] (i := 13) rfl rfl ?_
  refine R_iconst (i := 14) rfl ?_
  refine R_istore [some (.ref 64), some (.int p1), some (.int p2), some (.int p3), some (.int p4), some (.int p5), some (.int v2), some (.int q3), some (.int (0 : Int32)), none, none, none] (i := 15) rfl rfl ?_
  refine R_iconst (i := 16) rfl ?_
  refine R_istore [some (.ref 64), some (.int p1), some (.int p2), some (.int p3), some (.int p4), some (.int p5), some (.int v2), some (.int q3), some (.int (0 : Int32)), some (.int (1 : Int32)), none, none] (i := 17) rfl rfl ?_
  refine R_weak [some (.ref 64), some (.int p1), some (.int p2), some (.int p3), some (.int p4), none, some (.int v2), some (.int q3), some (.int (0 : Int32)), some (.int (1 : Int32)), none, none] ⟨Or.inr rfl, Or.inr rfl, Or.inr rfl, Or.inr rfl, Or.inr rfl, Or.inl rfl, Or.inr rfl, Or.inr rfl, Or.inr rfl, Or.inr rfl, Or.inr rfl, Or.inr rfl, trivial⟩ ?_
  have zq15 := bind_some hf
  clear hf
  obtain ⟨q15, eq15, hf⟩ := zq15
  refine lp_link (P := fun u18 => R 0 (d + 1) 18 18 [some (.ref 64), some (.int p1), some (.int p2), some (.int p3), some (.int p4), none, some (.int v2), some (.int q3), some (.int u18.1), some (.int u18.2), none, none] [] h Q) (E := fun e u18 => R 0 (d + 1) 18 70 [none, none, none, none, none, none, some (.int v2), none, some (.int u18.1), none, none, none] [] h Q) (fun s j s' hb k0 ke => f18_l18_l hb hW hd k0 (fun z => ke 0 z)) N ((0 : Int32), (1 : Int32)) q15.1 q15.2 eq15 ?_
  refine R_iload (i := 70) rfl rfl ?_
  refine R_iload (i := 71) rfl rfl ?_
  refine R_iand (i := 72) rfl ?_
  have hz := Option.some.inj hf
  subst hz
  exact R_iret (i := 73) rfl kk
set_option maxRecDepth 100000 in
set_option maxHeartbeats 4000000 in
theorem f17_l18_l {d N : Nat} {x6 : Int32} {x7 : Int32} {h : Hp} {s : Int32 × Int32} {Q : Option Value → Hp → Prop} {j : Nat} {s' : Int32 × Int32} (hf : f17_l18 N x6 x7 h s = some (j, s')) (hW : WF 0 h) (hd : 2 ≤ d) (k0 : j = 0 → R 0 d 17 18 [some (.ref 64), none, none, none, none, none, some (.int x6), some (.int x7), some (.int s'.1), some (.int s'.2)] [] h Q) (k1 : j = 1 → R 0 d 17 40 [none, none, none, none, none, none, none, none, some (.int s'.1), none] [] h Q) : R 0 d 17 18 [some (.ref 64), none, none, none, none, none, some (.int x6), some (.int x7), some (.int s.1), some (.int s.2)] [] h Q := by
  unfold f17_l18 at hf
  refine R_iload (i := 18) rfl rfl ?_
  refine R_iconst (i := 19) rfl ?_
  refine R_icmpge (i := 20) rfl (fun c3 => ?_) (fun c3 => ?_)
  · rw [if_pos c3] at hf
    obtain ⟨hj, hs⟩ := Prod.mk.inj (Option.some.inj hf)
    subst hj
    subst hs
    refine R_weak [none, none, none, none, none, none, none, none, some (.int s.1), none] ⟨Or.inl rfl, Or.inr rfl, Or.inr rfl, Or.inr rfl, Or.inr rfl, Or.inr rfl, Or.inl rfl, Or.inl rfl, Or.inr rfl, Or.inl rfl, trivial⟩ ?_
    exact k1 rfl
  · rw [if_neg c3] at hf
    refine R_iload (i := 21) rfl rfl ?_
    refine R_ifeq (i := 22) rfl (fun c4 => ?_) (fun c4 => ?_)
    · rw [if_pos c4] at hf
      obtain ⟨hj, hs⟩ := Prod.mk.inj (Option.some.inj hf)
      subst hj
      subst hs
      refine R_weak [none, none, none, none, none, none, none, none, some (.int s.1), none] ⟨Or.inl rfl, Or.inr rfl, Or.inr rfl, Or.inr rfl, Or.inr rfl, Or.inr rfl, Or.inl rfl, Or.inl rfl, Or.inr rfl, Or.inl rfl, trivial⟩ ?_
      exact k1 rfl
    · rw [if_neg c4] at hf
      refine R_iload (i := 23) rfl rfl ?_
      refine R_aload_n (i := 24) rfl rfl ?_
      refine R_getF hW (i := 25) rfl rfl (Nat.le_of_ble_eq_true rfl) rfl ?_
      refine R_iload (i := 26) rfl rfl ?_
      refine R_iload (i := 27) rfl rfl ?_
      refine R_iadd (i := 28) rfl ?_
      have g5 := gd_some hf
      clear hf
      obtain ⟨g5, hf⟩ := g5
      refine R_iaload hW (i := 29) rfl rfl g5 ?_
      refine R_iload (i := 30) rfl rfl ?_
      refine R_ishr (i := 31) rfl ?_
      refine R_iconst (i := 32) rfl ?_
      refine R_iand (i := 33) rfl ?_
      refine R_iload (i := 34) rfl rfl ?_
      refine R_ishl (i := 35) rfl ?_
      refine R_ior (i := 36) rfl ?_
      refine R_topi (fun v6 e6 => ?_)
      replace hf := bnd_some e6 hf
      refine R_istore [some (.ref 64), none, none, none, none, none, some (.int x6), some (.int x7), some (.int v6), some (.int s.2)] (i := 37) rfl rfl ?_
      obtain ⟨v7, e7⟩ : ∃ z : Int32, z = (s.2 + (1 : Int32)) := ⟨_, rfl⟩
      replace hf := bnd_some e7 hf
      refine R_iinc [some (.ref 64), none, none, none, none, none, some (.int x6), some (.int x7), some (.int v6), some (.int v7)] (i := 38) rfl rfl (by rw [← e7]; rfl) ?_
      refine R_goto (i := 39) rfl ?_
      obtain ⟨hj, hs⟩ := Prod.mk.inj (Option.some.inj hf)
      subst hj
      subst hs
      exact k0 rfl
set_option maxRecDepth 100000 in
set_option maxHeartbeats 4000000 in
theorem f17_l {d N : Nat} {p1 : Int32} {p2 : Int32} {p3 : Int32} {p4 : Int32} {p5 : Int32} {h : Hp} {Q : Option Value → Hp → Prop} {q : Int32} (hf : f17 N p1 p2 p3 p4 p5 h = some q) (hW : WF 0 h) (hd : 2 ≤ d) (kk : Q (some (.int q)) h) : R 0 d 17 0 [some (.ref 64), some (.int p1), some (.int p2), some (.int p3), some (.int p4), some (.int p5), none, none, none, none] [] h Q := by
  obtain ⟨d, rfl⟩ : ∃ z, d = z + 1 := ⟨d - 1, by omega⟩
  unfold f17 at hf
  refine R_aload_n (i := 0) rfl rfl ?_
  refine R_iload_n (i := 1) rfl rfl ?_
  refine R_iload_n (i := 2) rfl rfl ?_
  refine R_iload_n (i := 3) rfl rfl ?_
  refine R_iload (i := 4) rfl rfl ?_
  refine R_iload (i := 5) rfl rfl ?_
  have zq1 := bind_some hf
  clear hf
  obtain ⟨q1, eq1, hf⟩ := zq1
  refine R_callV (vs := [.int p1, .int p2, .int p3, .int p4, .int p5]) (st' := []) hW (i := 6) rfl rfl rfl (Nat.le_of_ble_eq_true rfl) rfl (Nat.le_of_ble_eq_true rfl) rfl (f18_l eq1 hW (hh rfl hd) ?_)
  refine R_istore [some (.ref 64), some (.int p1), some (.int p2), some (.int p3), some (.int p4), some (.int p5), some (.int q1), none, none, none] (i := 7) rfl rfl ?_
  refine R_iload_n (i := 8) rfl rfl ?_
  refine R_iload_n (i := 9) rfl rfl ?_
  refine R_iload (i := 10) rfl rfl ?_
  refine R_iconst (i := 11) rfl ?_
  refine R_call (vs := [.int p2, .int p3, .int p4, .int (1 : Int32)]) (st' := []) (i := 12) rfl (by decide) (by decide) rfl rfl (Nat.le_of_ble_eq_true rfl) rfl (f136_l (hh rfl hd) ?_)
  refine R_topi (fun v2 e2 => ?_)
  replace hf := bnd_some e2 hf
  refine R_istore [some (.ref 64), some (.int p1), some (.int p2), some (.int p3), some (.int p4), some (.int p5), some (.int q1), some (.int v2), none, none] (i := 13) rfl rfl ?_
  refine R_iconst (i := 14) rfl ?_
  refine R_istore [some (.ref 64), some (.int p1), some (.int p2), some (.int p3), some (.int p4), some (.int p5), some (.int q1), some (.int v2), some (.int (0 : Int32)), none] (i := 15) rfl rfl ?_
  refine R_iconst (i := 16) rfl ?_
  refine R_istore [some (.ref 64), some (.int p1), some (.int p2), some (.int p3), some (.int p4), some (.int p5), some (.int q1), some (.int v2), some (.int (0 : Int32)), some (.int (0 : Int32))] (i := 17) rfl rfl ?_
  refine R_weak [some (.ref 64), none, none, none, none, none, some (.int q1), some (.int v2), some (.int (0 : Int32)), some (.int (0 : Int32))] ⟨Or.inr rfl, Or.inl rfl, Or.inl rfl, Or.inl rfl, Or.inl rfl, Or.inl rfl, Or.inr rfl, Or.inr rfl, Or.inr rfl, Or.inr rfl, trivial⟩ ?_
  have zq8 := bind_some hf
  clear hf
  obtain ⟨q8, eq8, hf⟩ := zq8
  refine lp_link (P := fun u18 => R 0 (d + 1) 17 18 [some (.ref 64), none, none, none, none, none, some (.int q1), some (.int v2), some (.int u18.1), some (.int u18.2)] [] h Q) (E := fun e u18 => R 0 (d + 1) 17 40 [none, none, none, none, none, none, none, none, some (.int u18.1), none] [] h Q) (fun s j s' hb k0 ke => f17_l18_l hb hW hd k0 (fun z => ke 0 z)) N ((0 : Int32), (0 : Int32)) q8.1 q8.2 eq8 ?_
  refine R_iload (i := 40) rfl rfl ?_
  have hz := Option.some.inj hf
  subst hz
  exact R_iret (i := 41) rfl kk
set_option maxRecDepth 100000 in
set_option maxHeartbeats 4000000 in
theorem f16_l {d N : Nat} {p1 : Int32} {p2 : Int32} {p3 : Int32} {p4 : Int32} {p5 : Int32} {h : Hp} {Q : Option Value → Hp → Prop} {q : Int32 × Hp} (hf : f16 N p1 p2 p3 p4 p5 h = some q) (hW : WF 0 h) (hd : 5 ≤ d) (kk : WF 0 q.2 → Q (some (.int q.1)) q.2) : R 0 d 16 0 [some (.ref 64), some (.int p1), some (.int p2), some (.int p3), some (.int p4), some (.int p5), none] [] h Q := by
  obtain ⟨d, rfl⟩ : ∃ z, d = z + 1 := ⟨d - 1, by omega⟩
  unfold f16 at hf
  refine R_iload_n (i := 0) rfl rfl ?_
  refine R_sipush (i := 1) rfl ?_
  refine R_imul (i := 2) rfl ?_
  refine R_iload_n (i := 3) rfl rfl ?_
  refine R_iload_n (i := 4) rfl rfl ?_
  refine R_iload (i := 5) rfl rfl ?_
  refine R_call (vs := [.int p2, .int p3, .int p4]) (st' := [.int (p1 * (288 : Int32))]) (i := 6) rfl (by decide) (by decide) rfl rfl (Nat.le_of_ble_eq_true rfl) rfl (f134_l (hh rfl hd) ?_)
  refine R_iadd (i := 7) rfl ?_
  refine R_topi (fun v1 e1 => ?_)
  replace hf := bnd_some e1 hf
  refine R_istore [some (.ref 64), some (.int p1), some (.int p2), some (.int p3), some (.int p4), some (.int p5), some (.int v1)] (i := 8) rfl rfl ?_
  refine R_aload_n (i := 9) rfl rfl ?_
  have zr2 := bind_some hf
  clear hf
  obtain ⟨r2, er2, hf⟩ := zr2
  refine R_getR hW (i := 10) rfl rfl (Nat.le_of_ble_eq_true rfl) er2 ?_
  refine R_iload (i := 11) rfl rfl ?_
  refine R_iload (i := 12) rfl rfl ?_
  have g3 := gd_some hf
  clear hf
  obtain ⟨g3, hf⟩ := g3
  refine R_iastore hW (i := 13) rfl g3.1 g3.2 (hg rfl hd) (fun h4 eh4 => ?_)
  replace hf := bnd_some eh4 hf
  have hW4 : WF 0 h4 := by rw [eh4]; exact hW
  refine R_aload_n (i := 14) rfl rfl ?_
  have zr5 := bind_some hf
  clear hf
  obtain ⟨r5, er5, hf⟩ := zr5
  refine R_getR hW4 (i := 15) rfl rfl (Nat.le_of_ble_eq_true rfl) er5 ?_
  refine R_iload (i := 16) rfl rfl ?_
  have g6 := gd_some hf
  clear hf
  obtain ⟨g6, hf⟩ := g6
  refine R_iaload hW4 (i := 17) rfl g6.1 g6.2 ?_
  refine R_iload (i := 18) rfl rfl ?_
  refine R_icmpeq (i := 19) rfl (fun c7 => ?_) (fun c7 => ?_)
  · rw [if_pos c7] at hf
    refine R_iconst (i := 22) rfl ?_
    have hz := Option.some.inj hf
    subst hz
    exact R_zret (r := 0) (i := 23) rfl (by decide) (kk hW4)
  · rw [if_neg c7] at hf
    refine R_iconst (i := 20) rfl ?_
    refine R_goto (i := 21) rfl ?_
    have hz := Option.some.inj hf
    subst hz
    exact R_zret (r := 1) (i := 23) rfl (by decide) (kk hW4)
set_option maxRecDepth 100000 in
set_option maxHeartbeats 4000000 in
theorem f15_l11_l {d N : Nat} {x1 : Int32} {x2 : Int32} {x4 : Int32} {s : Int32 × Int32 × Hp} {Q : Option Value → Hp → Prop} {j : Nat} {s' : Int32 × Int32 × Hp} (hf : f15_l11 N x1 x2 x4 s = some (j, s')) (hW : WF 0 s.2.2) (hd : 6 ≤ d) (k0 : j = 0 → WF 0 s'.2.2 → R 0 d 15 11 [some (.ref 64), some (.int x1), some (.int x2), some (.int s'.1), some (.int x4), some (.int s'.2.1), none, none, none] [] s'.2.2 Q) (k1 : j = 1 → WF 0 s'.2.2 → R 0 d 15 78 [some (.ref 64), some (.int x1), some (.int x2), some (.int s'.1), some (.int x4), none, none, none, none] [] s'.2.2 Q) : R 0 d 15 11 [some (.ref 64), some (.int x1), some (.int x2), some (.int s.1), some (.int x4), some (.int s.2.1), none, none, none] [] s.2.2 Q := by
  obtain ⟨d, rfl⟩ : ∃ z, d = z + 1 := ⟨d - 1, by omega⟩
  unfold f15_l11 at hf
  refine R_iload (i := 11) rfl rfl ?_
  refine R_bipush (i := 12) rfl ?_
  refine R_icmpge (i := 13) rfl (fun c2 => ?_) (fun c2 => ?_)
  · rw [if_pos c2] at hf
    obtain ⟨hj, hs⟩ := Prod.mk.inj (Option.some.inj hf)
    subst hj
    subst hs
    refine R_weak [some (.ref 64), some (.int x1), some (.int x2), some (.int s.1), some (.int x4), none, none, none, none] ⟨Or.inr rfl, Or.inr rfl, Or.inr rfl, Or.inr rfl, Or.inr rfl, Or.inl rfl, Or.inr rfl, Or.inr rfl, Or.inr rfl, trivial⟩ ?_
    exact k1 rfl hW
  · rw [if_neg c2] at hf
    refine R_aload_n (i := 14) rfl rfl ?_
    refine R_iload_n (i := 15) rfl rfl ?_
    refine R_iconst (i := 16) rfl ?_
    refine R_iload (i := 17) rfl rfl ?_
    refine R_iload (i := 18) rfl rfl ?_
    refine R_iload_n (i := 19) rfl rfl ?_
    have zq3 := bind_some hf
    clear hf
    obtain ⟨q3, eq3, hf⟩ := zq3
    refine R_callV (vs := [.int x1, .int (0 : Int32), .int x4, .int s.2.1, .int x2]) (st' := []) hW (i := 20) rfl rfl rfl (Nat.le_of_ble_eq_true rfl) rfl (Nat.le_of_ble_eq_true rfl) rfl (f17_l eq3 hW (hh rfl hd) ?_)
    refine R_istore [some (.ref 64), some (.int x1), some (.int x2), some (.int s.1), some (.int x4), some (.int s.2.1), some (.int q3), none, none] (i := 21) rfl rfl ?_
    refine R_aload_n (i := 22) rfl rfl ?_
    refine R_iload_n (i := 23) rfl rfl ?_
    refine R_iconst (i := 24) rfl ?_
    refine R_iload (i := 25) rfl rfl ?_
    refine R_iload (i := 26) rfl rfl ?_
    refine R_iload_n (i := 27) rfl rfl ?_
    have zq4 := bind_some hf
    clear hf
    obtain ⟨q4, eq4, hf⟩ := zq4
    refine R_callV (vs := [.int x1, .int (1 : Int32), .int x4, .int s.2.1, .int x2]) (st' := []) hW (i := 28) rfl rfl rfl (Nat.le_of_ble_eq_true rfl) rfl (Nat.le_of_ble_eq_true rfl) rfl (f17_l eq4 hW (hh rfl hd) ?_)
    refine R_istore [some (.ref 64), some (.int x1), some (.int x2), some (.int s.1), some (.int x4), some (.int s.2.1), some (.int q3), some (.int q4), none] (i := 29) rfl rfl ?_
    refine R_aload_n (i := 30) rfl rfl ?_
    refine R_iload_n (i := 31) rfl rfl ?_
    refine R_iconst (i := 32) rfl ?_
    refine R_iload (i := 33) rfl rfl ?_
    refine R_iload (i := 34) rfl rfl ?_
    refine R_iload_n (i := 35) rfl rfl ?_
    have zq5 := bind_some hf
    clear hf
    obtain ⟨q5, eq5, hf⟩ := zq5
    refine R_callV (vs := [.int x1, .int (2 : Int32), .int x4, .int s.2.1, .int x2]) (st' := []) hW (i := 36) rfl rfl rfl (Nat.le_of_ble_eq_true rfl) rfl (Nat.le_of_ble_eq_true rfl) rfl (f17_l eq5 hW (hh rfl hd) ?_)
    refine R_istore [some (.ref 64), some (.int x1), some (.int x2), some (.int s.1), some (.int x4), some (.int s.2.1), some (.int q3), some (.int q4), some (.int q5)] (i := 37) rfl rfl ?_
    refine R_iload_n (i := 38) rfl rfl ?_
    refine R_aload_n (i := 39) rfl rfl ?_
    refine R_iload_n (i := 40) rfl rfl ?_
    refine R_iconst (i := 41) rfl ?_
    refine R_iload (i := 42) rfl rfl ?_
    refine R_iload (i := 43) rfl rfl ?_
    refine R_iload (i := 44) rfl rfl ?_
    refine R_iload (i := 45) rfl rfl ?_
    refine R_ior (i := 46) rfl ?_
    have zq6 := bind_some hf
    clear hf
    obtain ⟨q6, eq6, hf⟩ := zq6
    refine R_callV (vs := [.int x1, .int (0 : Int32), .int x4, .int s.2.1, .int (q3 ||| q4)]) (st' := [.int s.1]) hW (i := 47) rfl rfl rfl (Nat.le_of_ble_eq_true rfl) rfl (Nat.le_of_ble_eq_true rfl) rfl (f16_l eq6 hW (hh rfl hd) (fun hW6 => ?_))
    refine R_ior (i := 48) rfl ?_
    refine R_topi (fun v7 e7 => ?_)
    replace hf := bnd_some e7 hf
    refine R_istore_n [some (.ref 64), some (.int x1), some (.int x2), some (.int v7), some (.int x4), some (.int s.2.1), some (.int q3), some (.int q4), some (.int q5)] (i := 49) rfl rfl ?_
    refine R_iload_n (i := 50) rfl rfl ?_
    refine R_aload_n (i := 51) rfl rfl ?_
    refine R_iload_n (i := 52) rfl rfl ?_
    refine R_iconst (i := 53) rfl ?_
    refine R_iload (i := 54) rfl rfl ?_
    refine R_iload (i := 55) rfl rfl ?_
    refine R_iload (i := 56) rfl rfl ?_
    refine R_iload (i := 57) rfl rfl ?_
    refine R_ior (i := 58) rfl ?_
    refine R_iload (i := 59) rfl rfl ?_
    refine R_ior (i := 60) rfl ?_
    have zq8 := bind_some hf
    clear hf
    obtain ⟨q8, eq8, hf⟩ := zq8
    refine R_callV (vs := [.int x1, .int (1 : Int32), .int x4, .int s.2.1, .int ((q3 ||| q4) ||| q5)]) (st' := [.int v7]) hW6 (i := 61) rfl rfl rfl (Nat.le_of_ble_eq_true rfl) rfl (Nat.le_of_ble_eq_true rfl) rfl (f16_l eq8 hW6 (hh rfl hd) (fun hW8 => ?_))
    refine R_ior (i := 62) rfl ?_
    refine R_topi (fun v9 e9 => ?_)
    replace hf := bnd_some e9 hf
    refine R_istore_n [some (.ref 64), some (.int x1), some (.int x2), some (.int v9), some (.int x4), some (.int s.2.1), some (.int q3), some (.int q4), some (.int q5)] (i := 63) rfl rfl ?_
    refine R_iload_n (i := 64) rfl rfl ?_
    refine R_aload_n (i := 65) rfl rfl ?_
    refine R_iload_n (i := 66) rfl rfl ?_
    refine R_iconst (i := 67) rfl ?_
    refine R_iload (i := 68) rfl rfl ?_
    refine R_iload (i := 69) rfl rfl ?_
    refine R_iload (i := 70) rfl rfl ?_
    refine R_iload (i := 71) rfl rfl ?_
    refine R_ior (i := 72) rfl ?_
    have zq10 := bind_some hf
    clear hf
    obtain ⟨q10, eq10, hf⟩ := zq10
    refine R_callV (vs := [.int x1, .int (2 : Int32), .int x4, .int s.2.1, .int (q4 ||| q5)]) (st' := [.int v9]) hW8 (i := 73) rfl rfl rfl (Nat.le_of_ble_eq_true rfl) rfl (Nat.le_of_ble_eq_true rfl) rfl (f16_l eq10 hW8 (hh rfl hd) (fun hW10 => ?_))
    refine R_ior (i := 74) rfl ?_
    refine R_topi (fun v11 e11 => ?_)
    replace hf := bnd_some e11 hf
    refine R_istore_n [some (.ref 64), some (.int x1), some (.int x2), some (.int v11), some (.int x4), some (.int s.2.1), some (.int q3), some (.int q4), some (.int q5)] (i := 75) rfl rfl ?_
    obtain ⟨v12, e12⟩ : ∃ z : Int32, z = (s.2.1 + (1 : Int32)) := ⟨_, rfl⟩
    replace hf := bnd_some e12 hf
    refine R_iinc [some (.ref 64), some (.int x1), some (.int x2), some (.int v11), some (.int x4), some (.int v12), some (.int q3), some (.int q4), some (.int q5)] (i := 76) rfl rfl (by rw [← e12]; rfl) ?_
    refine R_goto (i := 77) rfl ?_
    obtain ⟨hj, hs⟩ := Prod.mk.inj (Option.some.inj hf)
    subst hj
    subst hs
    refine R_weak [some (.ref 64), some (.int x1), some (.int x2), some (.int v11), some (.int x4), some (.int v12), none, none, none] ⟨Or.inr rfl, Or.inr rfl, Or.inr rfl, Or.inr rfl, Or.inr rfl, Or.inr rfl, Or.inl rfl, Or.inl rfl, Or.inl rfl, trivial⟩ ?_
    exact k0 rfl hW10
set_option maxRecDepth 100000 in
set_option maxHeartbeats 4000000 in
theorem f15_l4_l {d N : Nat} {x1 : Int32} {x2 : Int32} {s : Int32 × Int32 × Hp} {Q : Option Value → Hp → Prop} {j : Nat} {s' : Int32 × Int32 × Hp} (hf : f15_l4 N x1 x2 s = some (j, s')) (hW : WF 0 s.2.2) (hd : 6 ≤ d) (k0 : j = 0 → WF 0 s'.2.2 → R 0 d 15 4 [some (.ref 64), some (.int x1), some (.int x2), some (.int s'.1), some (.int s'.2.1), none, none, none, none] [] s'.2.2 Q) (k1 : j = 1 → WF 0 s'.2.2 → R 0 d 15 80 [none, none, none, some (.int s'.1), none, none, none, none, none] [] s'.2.2 Q) : R 0 d 15 4 [some (.ref 64), some (.int x1), some (.int x2), some (.int s.1), some (.int s.2.1), none, none, none, none] [] s.2.2 Q := by
  unfold f15_l4 at hf
  refine R_iload (i := 4) rfl rfl ?_
  refine R_aload_n (i := 5) rfl rfl ?_
  refine R_getF hW (i := 6) rfl rfl (Nat.le_of_ble_eq_true rfl) rfl ?_
  refine R_getI hW (i := 7) rfl rfl (Nat.le_of_ble_eq_true rfl) ?_
  refine R_icmpge (i := 8) rfl (fun c1 => ?_) (fun c1 => ?_)
  · rw [if_pos c1] at hf
    obtain ⟨hj, hs⟩ := Prod.mk.inj (Option.some.inj hf)
    subst hj
    subst hs
    refine R_weak [none, none, none, some (.int s.1), none, none, none, none, none] ⟨Or.inl rfl, Or.inl rfl, Or.inl rfl, Or.inr rfl, Or.inl rfl, Or.inr rfl, Or.inr rfl, Or.inr rfl, Or.inr rfl, trivial⟩ ?_
    exact k1 rfl hW
  · rw [if_neg c1] at hf
    refine R_iconst (i := 9) rfl ?_
    refine R_istore [some (.ref 64), some (.int x1), some (.int x2), some (.int s.1), some (.int s.2.1), some (.int (0 : Int32)), none, none, none] (i := 10) rfl rfl ?_
    have zq13 := bind_some hf
    clear hf
    obtain ⟨q13, eq13, hf⟩ := zq13
    refine lp_link (P := fun u11 => WF 0 u11.2.2 → R 0 d 15 11 [some (.ref 64), some (.int x1), some (.int x2), some (.int u11.1), some (.int s.2.1), some (.int u11.2.1), none, none, none] [] u11.2.2 Q) (E := fun e u11 => WF 0 u11.2.2 → R 0 d 15 78 [some (.ref 64), some (.int x1), some (.int x2), some (.int u11.1), some (.int s.2.1), none, none, none, none] [] u11.2.2 Q) (fun s j s' hb k0 ke hWs => f15_l11_l hb hWs hd k0 (fun z y => ke 0 z y)) N (s.1, (0 : Int32), s.2.2) q13.1 q13.2 eq13 ?_ hW
    intro hW13
    obtain ⟨v14, e14⟩ : ∃ z : Int32, z = (s.2.1 + (1 : Int32)) := ⟨_, rfl⟩
    replace hf := bnd_some e14 hf
    refine R_iinc [some (.ref 64), some (.int x1), some (.int x2), some (.int q13.2.1), some (.int v14), none, none, none, none] (i := 78) rfl rfl (by rw [← e14]; rfl) ?_
    refine R_goto (i := 79) rfl ?_
    obtain ⟨hj, hs⟩ := Prod.mk.inj (Option.some.inj hf)
    subst hj
    subst hs
    exact k0 rfl hW13
set_option maxRecDepth 100000 in
set_option maxHeartbeats 4000000 in
theorem f15_l {d N : Nat} {p1 : Int32} {p2 : Int32} {h : Hp} {Q : Option Value → Hp → Prop} {q : Int32 × Hp} (hf : f15 N p1 p2 h = some q) (hW : WF 0 h) (hd : 6 ≤ d) (kk : WF 0 q.2 → Q (some (.int q.1)) q.2) : R 0 d 15 0 [some (.ref 64), some (.int p1), some (.int p2), none, none, none, none, none, none] [] h Q := by
  unfold f15 at hf
  refine R_iconst (i := 0) rfl ?_
  refine R_istore_n [some (.ref 64), some (.int p1), some (.int p2), some (.int (0 : Int32)), none, none, none, none, none] (i := 1) rfl rfl ?_
  refine R_iconst (i := 2) rfl ?_
  refine R_istore [some (.ref 64), some (.int p1), some (.int p2), some (.int (0 : Int32)), some (.int (0 : Int32)), none, none, none, none] (i := 3) rfl rfl ?_
  have zq15 := bind_some hf
  clear hf
  obtain ⟨q15, eq15, hf⟩ := zq15
  refine lp_link (P := fun u4 => WF 0 u4.2.2 → R 0 d 15 4 [some (.ref 64), some (.int p1), some (.int p2), some (.int u4.1), some (.int u4.2.1), none, none, none, none] [] u4.2.2 Q) (E := fun e u4 => WF 0 u4.2.2 → R 0 d 15 80 [none, none, none, some (.int u4.1), none, none, none, none, none] [] u4.2.2 Q) (fun s j s' hb k0 ke hWs => f15_l4_l hb hWs hd k0 (fun z y => ke 0 z y)) N ((0 : Int32), (0 : Int32), h) q15.1 q15.2 eq15 ?_ hW
  intro hW15
  refine R_iload_n (i := 80) rfl rfl ?_
  have hz := Option.some.inj hf
  subst hz
  exact R_zret (i := 81) rfl rfl (kk hW15)
set_option maxRecDepth 100000 in
set_option maxHeartbeats 4000000 in
theorem f14_b39_l {d N : Nat} {x1 : Int32} {x2 : Int32} {x3 : Int32} {x5 : Int32} {x6 : Int32} {h : Hp} {Q : Option Value → Hp → Prop} {j : Nat} {s' : Int32 × Int32 × Hp} (hf : f14_b39 N x1 x2 x3 x5 x6 h = some (j, s')) (hW : WF 0 h) (hd : 7 ≤ d) (k0 : j = 0 → WF 0 s'.2.2 → R 0 d 14 14 [some (.ref 64), some (.int x1), some (.int x2), some (.int x3), none, some (.int s'.1), some (.int s'.2.1)] [] s'.2.2 Q) (k1 : j = 1 → WF 0 s'.2.2 → R 0 d 14 41 [none, none, none, none, none, some (.int s'.1), none] [] s'.2.2 Q) : R 0 d 14 39 [some (.ref 64), some (.int x1), some (.int x2), some (.int x3), none, some (.int x5), some (.int x6)] [] h Q := by
  unfold f14_b39 at hf
  obtain ⟨v8, e8⟩ : ∃ z : Int32, z = (x6 + (1 : Int32)) := ⟨_, rfl⟩
  replace hf := bnd_some e8 hf
  refine R_iinc [some (.ref 64), some (.int x1), some (.int x2), some (.int x3), none, some (.int x5), some (.int v8)] (i := 39) rfl rfl (by rw [← e8]; rfl) ?_
  refine R_goto (i := 40) rfl ?_
  obtain ⟨hj, hs⟩ := Prod.mk.inj (Option.some.inj hf)
  subst hj
  subst hs
  exact k0 rfl hW
set_option maxRecDepth 100000 in
set_option maxHeartbeats 4000000 in
theorem f14_l14_l {d N : Nat} {x1 : Int32} {x2 : Int32} {x3 : Int32} {s : Int32 × Int32 × Hp} {Q : Option Value → Hp → Prop} {j : Nat} {s' : Int32 × Int32 × Hp} (hf : f14_l14 N x1 x2 x3 s = some (j, s')) (hW : WF 0 s.2.2) (hd : 7 ≤ d) (k0 : j = 0 → WF 0 s'.2.2 → R 0 d 14 14 [some (.ref 64), some (.int x1), some (.int x2), some (.int x3), none, some (.int s'.1), some (.int s'.2.1)] [] s'.2.2 Q) (k1 : j = 1 → WF 0 s'.2.2 → R 0 d 14 41 [none, none, none, none, none, some (.int s'.1), none] [] s'.2.2 Q) : R 0 d 14 14 [some (.ref 64), some (.int x1), some (.int x2), some (.int x3), none, some (.int s.1), some (.int s.2.1)] [] s.2.2 Q := by
  obtain ⟨d, rfl⟩ : ∃ z, d = z + 1 := ⟨d - 1, by omega⟩
  unfold f14_l14 at hf
  refine R_iload (i := 14) rfl rfl ?_
  refine R_iload_n (i := 15) rfl rfl ?_
  refine R_icmpge (i := 16) rfl (fun c5 => ?_) (fun c5 => ?_)
  · rw [if_pos c5] at hf
    obtain ⟨hj, hs⟩ := Prod.mk.inj (Option.some.inj hf)
    subst hj
    subst hs
    refine R_weak [none, none, none, none, none, some (.int s.1), none] ⟨Or.inl rfl, Or.inl rfl, Or.inl rfl, Or.inl rfl, Or.inr rfl, Or.inr rfl, Or.inl rfl, trivial⟩ ?_
    exact k1 rfl hW
  · rw [if_neg c5] at hf
    refine R_iload (i := 17) rfl rfl ?_
    refine R_iconst (i := 18) rfl ?_
    refine R_icmpge (i := 19) rfl (fun c6 => ?_) (fun c6 => ?_)
    · rw [if_pos c6] at hf
      obtain ⟨hj, hs⟩ := Prod.mk.inj (Option.some.inj hf)
      subst hj
      subst hs
      refine R_weak [none, none, none, none, none, some (.int s.1), none] ⟨Or.inl rfl, Or.inl rfl, Or.inl rfl, Or.inl rfl, Or.inr rfl, Or.inr rfl, Or.inl rfl, trivial⟩ ?_
      exact k1 rfl hW
    · rw [if_neg c6] at hf
      refine R_iload_n (i := 20) rfl rfl ?_
      refine R_iconst (i := 21) rfl ?_
      refine R_iload (i := 22) rfl rfl ?_
      refine R_ishl (i := 23) rfl ?_
      refine R_iconst (i := 24) rfl ?_
      refine R_ishr (i := 25) rfl ?_
      refine R_iand (i := 26) rfl ?_
      refine R_ifeq (i := 27) rfl (fun c7 => ?_) (fun c7 => ?_)
      · rw [if_pos c7] at hf
        exact f14_b39_l hf hW hd k0 k1
      · rw [if_neg c7] at hf
        refine R_aload_n (i := 28) rfl rfl ?_
        refine R_iload (i := 29) rfl rfl ?_
        refine R_iload_n (i := 30) rfl rfl ?_
        have zq9 := bind_some hf
        clear hf
        obtain ⟨q9, eq9, hf⟩ := zq9
        refine R_callV (vs := [.int s.2.1, .int x2]) (st' := []) hW (i := 31) rfl rfl rfl (Nat.le_of_ble_eq_true rfl) rfl (Nat.le_of_ble_eq_true rfl) rfl (f15_l eq9 hW (hh rfl hd) (fun hW9 => ?_))
        refine R_ifeq (i := 32) rfl (fun c10 => ?_) (fun c10 => ?_)
        · rw [if_pos c10] at hf
          exact f14_b39_l hf hW9 hd k0 k1
        · rw [if_neg c10] at hf
          refine R_iload (i := 33) rfl rfl ?_
          refine R_iconst (i := 34) rfl ?_
          refine R_iload (i := 35) rfl rfl ?_
          refine R_ishl (i := 36) rfl ?_
          refine R_ior (i := 37) rfl ?_
          refine R_topi (fun v11 e11 => ?_)
          replace hf := bnd_some e11 hf
          refine R_istore [some (.ref 64), some (.int x1), some (.int x2), some (.int x3), none, some (.int v11), some (.int s.2.1)] (i := 38) rfl rfl ?_
          exact f14_b39_l hf hW9 hd k0 k1
set_option maxRecDepth 100000 in
set_option maxHeartbeats 4000000 in
theorem f14_l {d N : Nat} {p1 : Int32} {p2 : Int32} {p3 : Int32} {h : Hp} {Q : Option Value → Hp → Prop} {q : Int32 × Hp} (hf : f14 N p1 p2 p3 h = some q) (hW : WF 0 h) (hd : 7 ≤ d) (kk : WF 0 q.2 → Q (some (.int q.1)) q.2) : R 0 d 14 0 [some (.ref 64), some (.int p1), some (.int p2), some (.int p3), none, none, none] [] h Q := by
  unfold f14 at hf
  refine R_aload_n (i := 0) rfl rfl ?_
  have zr1 := bind_some hf
  clear hf
  obtain ⟨r1, er1, hf⟩ := zr1
  refine R_getR hW (i := 1) rfl rfl (Nat.le_of_ble_eq_true rfl) er1 ?_
  refine R_astore [some (.ref 64), some (.int p1), some (.int p2), some (.int p3), some (.ref r1), none, none] (i := 2) rfl rfl ?_
  refine R_aload_n (i := 3) rfl rfl ?_
  refine R_aload_n (i := 4) rfl rfl ?_
  have zr2 := bind_some hf
  clear hf
  obtain ⟨r2, er2, hf⟩ := zr2
  refine R_getR hW (i := 5) rfl rfl (Nat.le_of_ble_eq_true rfl) er2 ?_
  refine R_putR hW (i := 6) rfl rfl (Nat.le_of_ble_eq_true rfl) (Or.inl rfl) (hg rfl hd) (fun h3 eh3 => ?_)
  replace hf := bnd_some eh3 hf
  have hW3 : WF 0 h3 := by rw [eh3]; exact hW.uR (Or.inl rfl)
  refine R_aload_n (i := 7) rfl rfl ?_
  refine R_aload (i := 8) rfl rfl ?_
  refine R_putR hW3 (i := 9) rfl rfl (Nat.le_of_ble_eq_true rfl) (Or.inl rfl) (hg rfl hd) (fun h4 eh4 => ?_)
  replace hf := bnd_some eh4 hf
  have hW4 : WF 0 h4 := by rw [eh4]; exact hW3.uR (Or.inl rfl)
  refine R_iconst (i := 10) rfl ?_
  refine R_istore [some (.ref 64), some (.int p1), some (.int p2), some (.int p3), some (.ref r1), some (.int (0 : Int32)), none] (i := 11) rfl rfl ?_
  refine R_iconst (i := 12) rfl ?_
  refine R_istore [some (.ref 64), some (.int p1), some (.int p2), some (.int p3), some (.ref r1), some (.int (0 : Int32)), some (.int (0 : Int32))] (i := 13) rfl rfl ?_
  refine R_weak [some (.ref 64), some (.int p1), some (.int p2), some (.int p3), none, some (.int (0 : Int32)), some (.int (0 : Int32))] ⟨Or.inr rfl, Or.inr rfl, Or.inr rfl, Or.inr rfl, Or.inl rfl, Or.inr rfl, Or.inr rfl, trivial⟩ ?_
  have zq12 := bind_some hf
  clear hf
  obtain ⟨q12, eq12, hf⟩ := zq12
  refine lp_link (P := fun u14 => WF 0 u14.2.2 → R 0 d 14 14 [some (.ref 64), some (.int p1), some (.int p2), some (.int p3), none, some (.int u14.1), some (.int u14.2.1)] [] u14.2.2 Q) (E := fun e u14 => WF 0 u14.2.2 → R 0 d 14 41 [none, none, none, none, none, some (.int u14.1), none] [] u14.2.2 Q) (fun s j s' hb k0 ke hWs => f14_l14_l hb hWs hd k0 (fun z y => ke 0 z y)) N ((0 : Int32), (0 : Int32), h4) q12.1 q12.2 eq12 ?_ hW4
  intro hW12
  refine R_iload (i := 41) rfl rfl ?_
  have hz := Option.some.inj hf
  subst hz
  exact R_iret (i := 42) rfl (kk hW12)
set_option maxRecDepth 100000 in
set_option maxHeartbeats 4000000 in
theorem f13_b37_l {d N : Nat} {x1 : Int32} {x2 : Int32} {x3 : Int32} {x4 : Int32} {h : Hp} {Q : Option Value → Hp → Prop} {j : Nat} {s' : Int32 × Hp} (hf : f13_b37 N x1 x2 x3 x4 h = some (j, s')) (hW : WF 0 h) (hd : 5 ≤ d) (k0 : j = 0 → WF 0 s'.2 → R 0 d 13 19 [some (.ref 64), some (.int x1), some (.int x2), some (.int x3), some (.int s'.1)] [] s'.2 Q) (k1 : j = 1 → WF 0 s'.2 → R 0 d 13 39 [some (.ref 64), some (.int x1), some (.int x2), none, none] [] s'.2 Q) : R 0 d 13 37 [some (.ref 64), some (.int x1), some (.int x2), some (.int x3), some (.int x4)] [] h Q := by
  unfold f13_b37 at hf
  obtain ⟨v10, e10⟩ : ∃ z : Int32, z = (x4 + (1 : Int32)) := ⟨_, rfl⟩
  replace hf := bnd_some e10 hf
  refine R_iinc [some (.ref 64), some (.int x1), some (.int x2), some (.int x3), some (.int v10)] (i := 37) rfl rfl (by rw [← e10]; rfl) ?_
  refine R_goto (i := 38) rfl ?_
  obtain ⟨hj, hs⟩ := Prod.mk.inj (Option.some.inj hf)
  subst hj
  subst hs
  exact k0 rfl hW
set_option maxRecDepth 100000 in
set_option maxHeartbeats 4000000 in
theorem f13_l19_l {d N : Nat} {x1 : Int32} {x2 : Int32} {x3 : Int32} {s : Int32 × Hp} {Q : Option Value → Hp → Prop} {j : Nat} {s' : Int32 × Hp} (hf : f13_l19 N x1 x2 x3 s = some (j, s')) (hW : WF 0 s.2) (hd : 5 ≤ d) (k0 : j = 0 → WF 0 s'.2 → R 0 d 13 19 [some (.ref 64), some (.int x1), some (.int x2), some (.int x3), some (.int s'.1)] [] s'.2 Q) (k1 : j = 1 → WF 0 s'.2 → R 0 d 13 39 [some (.ref 64), some (.int x1), some (.int x2), none, none] [] s'.2 Q) : R 0 d 13 19 [some (.ref 64), some (.int x1), some (.int x2), some (.int x3), some (.int s.1)] [] s.2 Q := by
  obtain ⟨d, rfl⟩ : ∃ z, d = z + 1 := ⟨d - 1, by omega⟩
  unfold f13_l19 at hf
  refine R_iload (i := 19) rfl rfl ?_
  refine R_iconst (i := 20) rfl ?_
  refine R_icmpge (i := 21) rfl (fun c7 => ?_) (fun c7 => ?_)
  · rw [if_pos c7] at hf
    obtain ⟨hj, hs⟩ := Prod.mk.inj (Option.some.inj hf)
    subst hj
    subst hs
    refine R_weak [some (.ref 64), some (.int x1), some (.int x2), none, none] ⟨Or.inr rfl, Or.inr rfl, Or.inr rfl, Or.inl rfl, Or.inl rfl, trivial⟩ ?_
    exact k1 rfl hW
  · rw [if_neg c7] at hf
    refine R_iload_n (i := 22) rfl rfl ?_
    refine R_ifeq (i := 23) rfl (fun c8 => ?_) (fun c8 => ?_)
    · rw [if_pos c8] at hf
      obtain ⟨hj, hs⟩ := Prod.mk.inj (Option.some.inj hf)
      subst hj
      subst hs
      refine R_weak [some (.ref 64), some (.int x1), some (.int x2), none, none] ⟨Or.inr rfl, Or.inr rfl, Or.inr rfl, Or.inl rfl, Or.inl rfl, trivial⟩ ?_
      exact k1 rfl hW
    · rw [if_neg c8] at hf
      refine R_iload_n (i := 24) rfl rfl ?_
      refine R_iload (i := 25) rfl rfl ?_
      refine R_call (vs := [.int x3, .int s.1]) (st' := []) (i := 26) rfl (by decide) (by decide) rfl rfl (Nat.le_of_ble_eq_true rfl) rfl (f123_l (hh rfl hd) ?_)
      refine R_ifeq (i := 27) rfl (fun c9 => ?_) (fun c9 => ?_)
      · rw [if_pos c9] at hf
        exact f13_b37_l hf hW hd k0 k1
      · rw [if_neg c9] at hf
        refine R_aload_n (i := 28) rfl rfl ?_
        refine R_getF hW (i := 29) rfl rfl (Nat.le_of_ble_eq_true rfl) rfl ?_
        refine R_iload_n (i := 30) rfl rfl ?_
        refine R_iconst (i := 31) rfl ?_
        refine R_imul (i := 32) rfl ?_
        refine R_iload (i := 33) rfl rfl ?_
        refine R_iadd (i := 34) rfl ?_
        refine R_iload_n (i := 35) rfl rfl ?_
        have g11 := gd_some hf
        clear hf
        obtain ⟨g11, hf⟩ := g11
        refine R_iastore hW (i := 36) rfl rfl g11 (hg rfl hd) (fun h12 eh12 => ?_)
        replace hf := bnd_some eh12 hf
        have hW12 : WF 0 h12 := by rw [eh12]; exact hW
        exact f13_b37_l hf hW12 hd k0 k1
set_option maxRecDepth 100000 in
set_option maxHeartbeats 4000000 in
theorem f13_l2_l {d N : Nat} {x1 : Int32} {s : Int32 × Hp} {Q : Option Value → Hp → Prop} {j : Nat} {s' : Int32 × Hp} (hf : f13_l2 N x1 s = some (j, s')) (hW : WF 0 s.2) (hd : 5 ≤ d) (k0 : j = 0 → WF 0 s'.2 → R 0 d 13 2 [some (.ref 64), some (.int x1), some (.int s'.1), none, none] [] s'.2 Q) (k1 : j = 1 → WF 0 s'.2 → R 0 d 13 41 [none, none, none, none, none] [] s'.2 Q) : R 0 d 13 2 [some (.ref 64), some (.int x1), some (.int s.1), none, none] [] s.2 Q := by
  unfold f13_l2 at hf
  refine R_iload_n (i := 2) rfl rfl ?_
  refine R_sipush (i := 3) rfl ?_
  refine R_icmpge (i := 4) rfl (fun c1 => ?_) (fun c1 => ?_)
  · rw [if_pos c1] at hf
    obtain ⟨hj, hs⟩ := Prod.mk.inj (Option.some.inj hf)
    subst hj
    subst hs
    refine R_weak [none, none, none, none, none] ⟨Or.inl rfl, Or.inl rfl, Or.inl rfl, Or.inr rfl, Or.inr rfl, trivial⟩ ?_
    exact k1 rfl hW
  · rw [if_neg c1] at hf
    refine R_aload_n (i := 5) rfl rfl ?_
    have zr2 := bind_some hf
    clear hf
    obtain ⟨r2, er2, hf⟩ := zr2
    refine R_getR hW (i := 6) rfl rfl (Nat.le_of_ble_eq_true rfl) er2 ?_
    refine R_iload_n (i := 7) rfl rfl ?_
    have g3 := gd_some hf
    clear hf
    obtain ⟨g3, hf⟩ := g3
    refine R_iaload hW (i := 8) rfl g3.1 g3.2 ?_
    refine R_aload_n (i := 9) rfl rfl ?_
    have zr4 := bind_some hf
    clear hf
    obtain ⟨r4, er4, hf⟩ := zr4
    refine R_getR hW (i := 10) rfl rfl (Nat.le_of_ble_eq_true rfl) er4 ?_
    refine R_iload_n (i := 11) rfl rfl ?_
    have g5 := gd_some hf
    clear hf
    obtain ⟨g5, hf⟩ := g5
    refine R_iaload hW (i := 12) rfl g5.1 g5.2 ?_
    refine R_iconst (i := 13) rfl ?_
    refine R_ixor (i := 14) rfl ?_
    refine R_iand (i := 15) rfl ?_
    refine R_topi (fun v6 e6 => ?_)
    replace hf := bnd_some e6 hf
    refine R_istore_n [some (.ref 64), some (.int x1), some (.int s.1), some (.int v6), none] (i := 16) rfl rfl ?_
    refine R_iconst (i := 17) rfl ?_
    refine R_istore [some (.ref 64), some (.int x1), some (.int s.1), some (.int v6), some (.int (0 : Int32))] (i := 18) rfl rfl ?_
    have zq13 := bind_some hf
    clear hf
    obtain ⟨q13, eq13, hf⟩ := zq13
    refine lp_link (P := fun u19 => WF 0 u19.2 → R 0 d 13 19 [some (.ref 64), some (.int x1), some (.int s.1), some (.int v6), some (.int u19.1)] [] u19.2 Q) (E := fun e u19 => WF 0 u19.2 → R 0 d 13 39 [some (.ref 64), some (.int x1), some (.int s.1), none, none] [] u19.2 Q) (fun s j s' hb k0 ke hWs => f13_l19_l hb hWs hd k0 (fun z y => ke 0 z y)) N ((0 : Int32), s.2) q13.1 q13.2 eq13 ?_ hW
    intro hW13
    obtain ⟨v14, e14⟩ : ∃ z : Int32, z = (s.1 + (1 : Int32)) := ⟨_, rfl⟩
    replace hf := bnd_some e14 hf
    refine R_iinc [some (.ref 64), some (.int x1), some (.int v14), none, none] (i := 39) rfl rfl (by rw [← e14]; rfl) ?_
    refine R_goto (i := 40) rfl ?_
    obtain ⟨hj, hs⟩ := Prod.mk.inj (Option.some.inj hf)
    subst hj
    subst hs
    exact k0 rfl hW13
set_option maxRecDepth 100000 in
set_option maxHeartbeats 4000000 in
theorem f13_l {d N : Nat} {p1 : Int32} {h : Hp} {Q : Option Value → Hp → Prop} {q : Hp} (hf : f13 N p1 h = some q) (hW : WF 0 h) (hd : 5 ≤ d) (kk : WF 0 q → Q (none) q) : R 0 d 13 0 [some (.ref 64), some (.int p1), none, none, none] [] h Q := by
  unfold f13 at hf
  refine R_iconst (i := 0) rfl ?_
  refine R_istore_n [some (.ref 64), some (.int p1), some (.int (0 : Int32)), none, none] (i := 1) rfl rfl ?_
  have zq15 := bind_some hf
  clear hf
  obtain ⟨q15, eq15, hf⟩ := zq15
  refine lp_link (P := fun u2 => WF 0 u2.2 → R 0 d 13 2 [some (.ref 64), some (.int p1), some (.int u2.1), none, none] [] u2.2 Q) (E := fun e u2 => WF 0 u2.2 → R 0 d 13 41 [none, none, none, none, none] [] u2.2 Q) (fun s j s' hb k0 ke hWs => f13_l2_l hb hWs hd k0 (fun z y => ke 0 z y)) N ((0 : Int32), h) q15.1 q15.2 eq15 ?_ hW
  intro hW15
  have hz := Option.some.inj hf
  subst hz
  exact R_vret (i := 41) rfl (kk hW15)
set_option maxRecDepth 100000 in
set_option maxHeartbeats 4000000 in
theorem f5_l21_l {d N : Nat} {s : Int32 × Hp} {Q : Option Value → Hp → Prop} {j : Nat} {s' : Int32 × Hp} (hf : f5_l21 N s = some (j, s')) (hW : WF 0 s.2) (hd : 10 ≤ d) (k0 : j = 0 → WF 0 s'.2 → R 0 d 5 21 [some (.ref 64), some (.int s'.1)] [] s'.2 Q) (k1 : j = 1 → WF 0 s'.2 → R 0 d 5 30 [some (.ref 64), none] [] s'.2 Q) (k2 : j = 2 → WF 0 s'.2 → R 0 d 5 41 [some (.ref 64), none] [] s'.2 Q) : R 0 d 5 21 [some (.ref 64), some (.int s.1)] [] s.2 Q := by
  obtain ⟨d, rfl⟩ : ∃ z, d = z + 1 := ⟨d - 1, by omega⟩
  unfold f5_l21 at hf
  refine R_iload_n (i := 21) rfl rfl ?_
  refine R_sipush (i := 22) rfl ?_
  refine R_icmpgt (i := 23) rfl (fun c7 => ?_) (fun c7 => ?_)
  · rw [if_pos c7] at hf
    obtain ⟨hj, hs⟩ := Prod.mk.inj (Option.some.inj hf)
    subst hj
    subst hs
    refine R_weak [some (.ref 64), none] ⟨Or.inr rfl, Or.inl rfl, trivial⟩ ?_
    exact k2 rfl hW
  · rw [if_neg c7] at hf
    refine R_aload_n (i := 24) rfl rfl ?_
    refine R_iconst (i := 25) rfl ?_
    refine R_iconst (i := 26) rfl ?_
    refine R_iconst (i := 27) rfl ?_
    have zq8 := bind_some hf
    clear hf
    obtain ⟨q8, eq8, hf⟩ := zq8
    refine R_callV (vs := [.int (1 : Int32), .int (-1 : Int32), .int (1 : Int32)]) (st' := []) hW (i := 28) rfl rfl rfl (Nat.le_of_ble_eq_true rfl) rfl (Nat.le_of_ble_eq_true rfl) rfl (f14_l eq8 hW (hh rfl hd) (fun hW8 => ?_))
    refine R_ifne (i := 29) rfl (fun c9 => ?_) (fun c9 => ?_)
    · rw [if_neg c9] at hf
      refine R_aload_n (i := 31) rfl rfl ?_
      refine R_iload_n (i := 32) rfl rfl ?_
      have zq10 := bind_some hf
      clear hf
      obtain ⟨q10, eq10, hf⟩ := zq10
      refine R_callV (vs := [.int s.1]) (st' := []) hW8 (i := 33) rfl rfl rfl (Nat.le_of_ble_eq_true rfl) rfl (Nat.le_of_ble_eq_true rfl) rfl (f13_l eq10 hW8 (hh rfl hd) (fun hW10 => ?_))
      refine R_aload_n (i := 34) rfl rfl ?_
      refine R_iload_n (i := 35) rfl rfl ?_
      refine R_iconst (i := 36) rfl ?_
      refine R_iadd (i := 37) rfl ?_
      refine R_putI hW10 (i := 38) rfl rfl (Nat.le_of_ble_eq_true rfl) (hg rfl hd) (fun h11 eh11 => ?_)
      replace hf := bnd_some eh11 hf
      have hW11 : WF 0 h11 := by rw [eh11]; exact hW10
      obtain ⟨v12, e12⟩ : ∃ z : Int32, z = (s.1 + (1 : Int32)) := ⟨_, rfl⟩
      replace hf := bnd_some e12 hf
      refine R_iinc [some (.ref 64), some (.int v12)] (i := 39) rfl rfl (by rw [← e12]; rfl) ?_
      refine R_goto (i := 40) rfl ?_
      obtain ⟨hj, hs⟩ := Prod.mk.inj (Option.some.inj hf)
      subst hj
      subst hs
      exact k0 rfl hW11
    · rw [if_pos c9] at hf
      obtain ⟨hj, hs⟩ := Prod.mk.inj (Option.some.inj hf)
      subst hj
      subst hs
      refine R_weak [some (.ref 64), none] ⟨Or.inr rfl, Or.inl rfl, trivial⟩ ?_
      exact k1 rfl hW8
set_option maxRecDepth 100000 in
set_option maxHeartbeats 4000000 in
theorem f5_l {d N : Nat} {h : Hp} {Q : Option Value → Hp → Prop} {q : Hp} (hf : f5 N h = some q) (hW : WF 0 h) (hd : 10 ≤ d) (kk : WF 0 q → Q (none) q) : R 0 d 5 0 [some (.ref 64), none] [] h Q := by
  obtain ⟨d, rfl⟩ : ∃ z, d = z + 1 := ⟨d - 1, by omega⟩
  unfold f5 at hf
  refine R_aload_n (i := 0) rfl rfl ?_
  refine R_getI hW (i := 1) rfl rfl (Nat.le_of_ble_eq_true rfl) ?_
  refine R_ifeq (i := 2) rfl (fun c1 => ?_) (fun c1 => ?_)
  · rw [if_pos c1] at hf
    refine R_aload_n (i := 4) rfl rfl ?_
    refine R_iconst (i := 5) rfl ?_
    refine R_bipush (i := 6) rfl ?_
    have zq2 := bind_some hf
    clear hf
    obtain ⟨q2, eq2, hf⟩ := zq2
    refine R_callV (vs := [.int (0 : Int32), .int (8 : Int32)]) (st' := []) hW (i := 7) rfl rfl rfl (Nat.le_of_ble_eq_true rfl) rfl (Nat.le_of_ble_eq_true rfl) rfl (f4_l eq2 hW (hh rfl hd) (fun hW2 => ?_))
    refine R_aload_n (i := 8) rfl rfl ?_
    refine R_getF hW2 (i := 9) rfl rfl (Nat.le_of_ble_eq_true rfl) rfl ?_
    refine R_ldc (i := 10) rfl ?_
    have zq3 := bind_some hf
    clear hf
    obtain ⟨q3, eq3, hf⟩ := zq3
    refine R_call (vs := [.ref 68, .int (1000000 : Int32)]) (st' := []) (i := 11) rfl (by decide) (by decide) rfl rfl (Nat.le_of_ble_eq_true rfl) rfl (f231_68_l eq3 hW2 (hh rfl hd) (fun hW3 => ?_))
    refine R_aload_n (i := 12) rfl rfl ?_
    have zr4 := bind_some hf
    clear hf
    obtain ⟨r4, er4, hf⟩ := zr4
    refine R_getR hW3 (i := 13) rfl rfl (Nat.le_of_ble_eq_true rfl) er4 ?_
    refine R_bipush (i := 14) rfl ?_
    have zq5 := bind_some hf
    clear hf
    obtain ⟨q5, eq5, hf⟩ := zq5
    refine R_call (vs := [.ref r4, .int (15 : Int32)]) (st' := []) (i := 15) rfl (by decide) (by decide) rfl rfl (Nat.le_of_ble_eq_true rfl) rfl (f231_l eq5 hW3 (hh rfl hd) (fun hW5 => ?_))
    refine R_aload_n (i := 16) rfl rfl ?_
    refine R_iconst (i := 17) rfl ?_
    refine R_putI hW5 (i := 18) rfl rfl (Nat.le_of_ble_eq_true rfl) (hg rfl hd) (fun h6 eh6 => ?_)
    replace hf := bnd_some eh6 hf
    have hW6 : WF 0 h6 := by rw [eh6]; exact hW5
    refine R_iconst (i := 19) rfl ?_
    refine R_istore_n [some (.ref 64), some (.int (0 : Int32))] (i := 20) rfl rfl ?_
    have zq13 := bind_some hf
    clear hf
    obtain ⟨q13, eq13, hf⟩ := zq13
    refine lp_link (P := fun u21 => WF 0 u21.2 → R 0 (d + 1) 5 21 [some (.ref 64), some (.int u21.1)] [] u21.2 Q) (E := fun e u21 => WF 0 u21.2 → ((e = 0 → R 0 (d + 1) 5 30 [some (.ref 64), none] [] u21.2 Q) ∧ (e = 1 → R 0 (d + 1) 5 41 [some (.ref 64), none] [] u21.2 Q))) (fun s j s' hb k0 ke hWs => f5_l21_l hb hWs hd k0 (fun z y => (ke 0 z y).1 rfl) (fun z y => (ke 1 z y).2 rfl)) N ((0 : Int32), h6) q13.1 q13.2 eq13 ?_ hW6
    refine fun hW13 => ⟨fun z => ?_, fun z => ?_⟩
    · rw [if_pos z] at hf
      refine R_goto (i := 30) rfl ?_
      refine R_aload_n (i := 41) rfl rfl ?_
      refine R_iconst (i := 42) rfl ?_
      refine R_putZ hW13 (i := 43) rfl rfl (Nat.le_of_ble_eq_true rfl) (by decide) (hg rfl hd) (fun h14 eh14 => ?_)
      replace hf := bnd_some eh14 hf
      have hW14 : WF 0 h14 := by rw [eh14]; exact hW13
      have hz := Option.some.inj hf
      subst hz
      exact R_vret (i := 44) rfl (kk hW14)
    · rw [if_neg (by rw [z]; decide)] at hf
      refine R_aload_n (i := 41) rfl rfl ?_
      refine R_iconst (i := 42) rfl ?_
      refine R_putZ hW13 (i := 43) rfl rfl (Nat.le_of_ble_eq_true rfl) (by decide) (hg rfl hd) (fun h15 eh15 => ?_)
      replace hf := bnd_some eh15 hf
      have hW15 : WF 0 h15 := by rw [eh15]; exact hW13
      have hz := Option.some.inj hf
      subst hz
      exact R_vret (i := 44) rfl (kk hW15)
  · rw [if_neg c1] at hf
    have hz := Option.some.inj hf
    subst hz
    exact R_vret (i := 3) rfl (kk hW)
set_option maxRecDepth 100000 in
set_option maxHeartbeats 4000000 in
theorem f10_l {d N : Nat} {p1 : Int32} {h : Hp} {Q : Option Value → Hp → Prop} {q : Int32} (hf : f10 N p1 h = some q) (hW : WF 0 h) (hd : 1 ≤ d) (kk : Q (some (.int q)) h) : R 0 d 10 0 [some (.ref 64), some (.int p1)] [] h Q := by
  obtain ⟨d, rfl⟩ : ∃ z, d = z + 1 := ⟨d - 1, by omega⟩
  unfold f10 at hf
  refine R_aload_n (i := 0) rfl rfl ?_
  refine R_getF hW (i := 1) rfl rfl (Nat.le_of_ble_eq_true rfl) rfl ?_
  refine R_iload_n (i := 2) rfl rfl ?_
  refine R_call (vs := [.int p1]) (st' := [.ref 68]) (i := 3) rfl (by decide) (by decide) rfl rfl (Nat.le_of_ble_eq_true rfl) rfl (f129_l (hh rfl hd) ?_)
  refine R_iload_n (i := 4) rfl rfl ?_
  refine R_call (vs := [.int p1]) (st' := [.int (f129 p1), .ref 68]) (i := 5) rfl (by decide) (by decide) rfl rfl (Nat.le_of_ble_eq_true rfl) rfl (f130_l (hh rfl hd) ?_)
  refine R_iload_n (i := 6) rfl rfl ?_
  refine R_call (vs := [.int p1]) (st' := [.int (f130 p1), .int (f129 p1), .ref 68]) (i := 7) rfl (by decide) (by decide) rfl rfl (Nat.le_of_ble_eq_true rfl) rfl (f131_l (hh rfl hd) ?_)
  refine R_iload_n (i := 8) rfl rfl ?_
  refine R_call (vs := [.int p1]) (st' := [.int (f131 p1), .int (f130 p1), .int (f129 p1), .ref 68]) (i := 9) rfl (by decide) (by decide) rfl rfl (Nat.le_of_ble_eq_true rfl) rfl (f132_l (hh rfl hd) ?_)
  refine R_call (vs := [.int (f129 p1), .int (f130 p1), .int (f131 p1), .int (f132 p1)]) (st' := [.ref 68]) (i := 10) rfl (by decide) (by decide) rfl rfl (Nat.le_of_ble_eq_true rfl) rfl (f136_l (hh rfl hd) ?_)
  have g1 := gd_some hf
  clear hf
  obtain ⟨g1, hf⟩ := g1
  refine R_iaload hW (i := 11) rfl rfl g1 ?_
  have hz := Option.some.inj hf
  subst hz
  exact R_iret (i := 12) rfl kk
set_option maxRecDepth 100000 in
set_option maxHeartbeats 4000000 in
theorem f107_b25_l {d N : Nat} {t0 : Int32} {t1 : Int32} {h : Hp} {Q : Option Value → Hp → Prop} {q : Int32 × Hp} (hf : f107_b25 N t0 t1 h = some q) (hW : WF 0 h) (hd : 11 ≤ d) (kk : WF 0 q.2 → Q (some (.int q.1)) q.2) : R 0 d 107 25 [none, none, none] [.int t0, .int t1] h Q := by
  unfold f107_b25 at hf
  refine R_icmplt (i := 25) rfl (fun c8 => ?_) (fun c8 => ?_)
  · rw [if_pos c8] at hf
    refine R_iconst (i := 28) rfl ?_
    have hz := Option.some.inj hf
    subst hz
    exact R_zret (r := 0) (i := 29) rfl (by decide) (kk hW)
  · rw [if_neg c8] at hf
    refine R_iconst (i := 26) rfl ?_
    refine R_goto (i := 27) rfl ?_
    have hz := Option.some.inj hf
    subst hz
    exact R_zret (r := 1) (i := 29) rfl (by decide) (kk hW)
set_option maxRecDepth 100000 in
set_option maxHeartbeats 4000000 in
theorem f107_l {d N : Nat} {p1 : Int32} {p2 : Int32} {h : Hp} {Q : Option Value → Hp → Prop} {q : Int32 × Hp} (hf : f107 N p1 p2 h = some q) (hW : WF 0 h) (hd : 11 ≤ d) (kk : WF 0 q.2 → Q (some (.int q.1)) q.2) : R 0 d 107 0 [some (.ref 0), some (.int p1), some (.int p2)] [] h Q := by
  obtain ⟨d, rfl⟩ : ∃ z, d = z + 1 := ⟨d - 1, by omega⟩
  unfold f107 at hf
  refine R_aload_n (i := 0) rfl rfl ?_
  refine R_iload_n (i := 1) rfl rfl ?_
  have zq1 := bind_some hf
  clear hf
  obtain ⟨q1, eq1, hf⟩ := zq1
  refine R_callV (vs := [.int p1]) (st' := []) hW (i := 2) rfl rfl rfl (Nat.le_of_ble_eq_true rfl) rfl (Nat.le_of_ble_eq_true rfl) rfl (f128_l eq1 hW (hh rfl hd) ?_)
  refine R_ifeq (i := 3) rfl (fun c2 => ?_) (fun c2 => ?_)
  · rw [if_pos c2] at hf
    refine R_iconst (i := 10) rfl ?_
    have hz := Option.some.inj hf
    subst hz
    exact R_zret (r := 0) (i := 11) rfl (by decide) (kk hW)
  · rw [if_neg c2] at hf
    refine R_iload_n (i := 4) rfl rfl ?_
    refine R_iconst (i := 5) rfl ?_
    refine R_icmplt (i := 6) rfl (fun c3 => ?_) (fun c3 => ?_)
    · rw [if_pos c3] at hf
      refine R_iconst (i := 10) rfl ?_
      have hz := Option.some.inj hf
      subst hz
      exact R_zret (r := 0) (i := 11) rfl (by decide) (kk hW)
    · rw [if_neg c3] at hf
      refine R_iload_n (i := 7) rfl rfl ?_
      refine R_bipush (i := 8) rfl ?_
      refine R_icmple (i := 9) rfl (fun c4 => ?_) (fun c4 => ?_)
      · rw [if_pos c4] at hf
        refine R_aload_n (i := 12) rfl rfl ?_
        refine R_getF hW (i := 13) rfl rfl (Nat.le_of_ble_eq_true rfl) rfl ?_
        have zq5 := bind_some hf
        clear hf
        obtain ⟨q5, eq5, hf⟩ := zq5
        refine R_callV (vs := []) (st' := []) hW (i := 14) rfl rfl rfl (Nat.le_of_ble_eq_true rfl) rfl (Nat.le_of_ble_eq_true rfl) rfl (f5_l eq5 hW (hh rfl hd) (fun hW5 => ?_))
        refine R_aload_n (i := 15) rfl rfl ?_
        refine R_getF hW5 (i := 16) rfl rfl (Nat.le_of_ble_eq_true rfl) rfl ?_
        refine R_iload_n (i := 17) rfl rfl ?_
        have zq6 := bind_some hf
        clear hf
        obtain ⟨q6, eq6, hf⟩ := zq6
        refine R_callV (vs := [.int p1]) (st' := []) hW5 (i := 18) rfl rfl rfl (Nat.le_of_ble_eq_true rfl) rfl (Nat.le_of_ble_eq_true rfl) rfl (f10_l eq6 hW5 (hh rfl hd) ?_)
        refine R_iload_n (i := 19) rfl rfl ?_
        refine R_iconst (i := 20) rfl ?_
        refine R_icmpne (i := 21) rfl (fun c7 => ?_) (fun c7 => ?_)
        · rw [if_neg c7] at hf
          refine R_iload_n (i := 24) rfl rfl ?_
          refine R_weak [none, none, none] ⟨Or.inl rfl, Or.inl rfl, Or.inl rfl, trivial⟩ ?_
          exact f107_b25_l hf hW5 hd kk
        · rw [if_pos c7] at hf
          refine R_ldc (i := 22) rfl ?_
          refine R_goto (i := 23) rfl ?_
          refine R_weak [none, none, none] ⟨Or.inl rfl, Or.inl rfl, Or.inl rfl, trivial⟩ ?_
          exact f107_b25_l hf hW5 hd kk
      · rw [if_neg c4] at hf
        refine R_iconst (i := 10) rfl ?_
        have hz := Option.some.inj hf
        subst hz
        exact R_zret (r := 0) (i := 11) rfl (by decide) (kk hW)
set_option maxRecDepth 100000 in
set_option maxHeartbeats 4000000 in
theorem f108_l {d N : Nat} {h : Hp} {Q : Option Value → Hp → Prop} {q : Int32 × Hp} (hf : f108 N h = some q) (hW : WF 0 h) (hd : 11 ≤ d) (kk : WF 0 q.2 → Q (some (.int q.1)) q.2) : R 0 d 108 0 [some (.ref 0)] [] h Q := by
  obtain ⟨d, rfl⟩ : ∃ z, d = z + 1 := ⟨d - 1, by omega⟩
  unfold f108 at hf
  refine R_aload_n (i := 0) rfl rfl ?_
  refine R_getF hW (i := 1) rfl rfl (Nat.le_of_ble_eq_true rfl) rfl ?_
  have zq1 := bind_some hf
  clear hf
  obtain ⟨q1, eq1, hf⟩ := zq1
  refine R_callV (vs := []) (st' := []) hW (i := 2) rfl rfl rfl (Nat.le_of_ble_eq_true rfl) rfl (Nat.le_of_ble_eq_true rfl) rfl (f5_l eq1 hW (hh rfl hd) (fun hW1 => ?_))
  refine R_aload_n (i := 3) rfl rfl ?_
  refine R_getF hW1 (i := 4) rfl rfl (Nat.le_of_ble_eq_true rfl) rfl ?_
  refine R_getI hW1 (i := 5) rfl rfl (Nat.le_of_ble_eq_true rfl) ?_
  have hz := Option.some.inj hf
  subst hz
  exact R_iret (i := 6) rfl (kk hW1)
set_option maxRecDepth 100000 in
set_option maxHeartbeats 4000000 in
theorem f12_b65_l {d N : Nat} {x1 : Int32} {x4 : Int32} {x5 : Int32} {x6 : Int32} {x7 : Int32} {h : Hp} {Q : Option Value → Hp → Prop} {j : Nat} {s' : Int32} (hf : f12_b65 N x1 x4 x5 x6 x7 h = some (j, s')) (hW : WF 0 h) (hd : 1 ≤ d) (k0 : j = 0 → R 0 d 12 22 [some (.ref 64), some (.int x1), none, none, some (.int x4), some (.int x5), some (.int x6), some (.int s'), none] [] h Q) (k1 : j = 1 → R 0 d 12 63 [none, none, none, none, none, none, none, none, none] [] h Q) (k2 : j = 2 → R 0 d 12 67 [none, none, none, none, none, none, none, none, none] [] h Q) : R 0 d 12 65 [some (.ref 64), some (.int x1), none, none, some (.int x4), some (.int x5), some (.int x6), some (.int x7), none] [] h Q := by
  unfold f12_b65 at hf
  obtain ⟨v7, e7⟩ : ∃ z : Int32, z = (x7 + (1 : Int32)) := ⟨_, rfl⟩
  replace hf := bnd_some e7 hf
  refine R_iinc [some (.ref 64), some (.int x1), none, none, some (.int x4), some (.int x5), some (.int x6), some (.int v7), none] (i := 65) rfl rfl (by rw [← e7]; rfl) ?_
  refine R_goto (i := 66) rfl ?_
  obtain ⟨hj, hs⟩ := Prod.mk.inj (Option.some.inj hf)
  subst hj
  subst hs
  exact k0 rfl
set_option maxRecDepth 100000 in
set_option maxHeartbeats 4000000 in
theorem f12_l22_l {d N : Nat} {x1 : Int32} {x4 : Int32} {x5 : Int32} {x6 : Int32} {h : Hp} {s : Int32} {Q : Option Value → Hp → Prop} {j : Nat} {s' : Int32} (hf : f12_l22 N x1 x4 x5 x6 h s = some (j, s')) (hW : WF 0 h) (hd : 1 ≤ d) (k0 : j = 0 → R 0 d 12 22 [some (.ref 64), some (.int x1), none, none, some (.int x4), some (.int x5), some (.int x6), some (.int s'), none] [] h Q) (k1 : j = 1 → R 0 d 12 63 [none, none, none, none, none, none, none, none, none] [] h Q) (k2 : j = 2 → R 0 d 12 67 [none, none, none, none, none, none, none, none, none] [] h Q) : R 0 d 12 22 [some (.ref 64), some (.int x1), none, none, some (.int x4), some (.int x5), some (.int x6), some (.int s), none] [] h Q := by
  obtain ⟨d, rfl⟩ : ∃ z, d = z + 1 := ⟨d - 1, by omega⟩
  unfold f12_l22 at hf
  refine R_iload (i := 22) rfl rfl ?_
  refine R_iconst (i := 23) rfl ?_
  refine R_icmpgt (i := 24) rfl (fun c5 => ?_) (fun c5 => ?_)
  · rw [if_pos c5] at hf
    obtain ⟨hj, hs⟩ := Prod.mk.inj (Option.some.inj hf)
    subst hj
    subst hs
    refine R_weak [none, none, none, none, none, none, none, none, none] ⟨Or.inl rfl, Or.inl rfl, Or.inr rfl, Or.inr rfl, Or.inl rfl, Or.inl rfl, Or.inl rfl, Or.inl rfl, Or.inr rfl, trivial⟩ ?_
    exact k2 rfl
  · rw [if_neg c5] at hf
    refine R_iload (i := 25) rfl rfl ?_
    refine R_iload (i := 26) rfl rfl ?_
    refine R_iconst (i := 27) rfl ?_
    refine R_isub (i := 28) rfl ?_
    refine R_call (vs := [.int x6, .int (s - (1 : Int32))]) (st' := []) (i := 29) rfl (by decide) (by decide) rfl rfl (Nat.le_of_ble_eq_true rfl) rfl (f123_l (hh rfl hd) ?_)
    refine R_ifeq (i := 30) rfl (fun c6 => ?_) (fun c6 => ?_)
    · rw [if_pos c6] at hf
      exact f12_b65_l hf hW hd k0 k1 k2
    · rw [if_neg c6] at hf
      refine R_iload_n (i := 31) rfl rfl ?_
      refine R_aload_n (i := 32) rfl rfl ?_
      refine R_getF hW (i := 33) rfl rfl (Nat.le_of_ble_eq_true rfl) rfl ?_
      refine R_iload (i := 34) rfl rfl ?_
      refine R_iload (i := 35) rfl rfl ?_
      have zq8 := bind_some hf
      clear hf
      obtain ⟨q8, eq8, hf⟩ := zq8
      refine R_callV (vs := [.int x4, .int s]) (st' := [.int x1]) hW (i := 36) rfl rfl rfl (Nat.le_of_ble_eq_true rfl) rfl (Nat.le_of_ble_eq_true rfl) rfl (f60_l eq8 hW (hh rfl hd) ?_)
      refine R_iload (i := 37) rfl rfl ?_
      refine R_iconst (i := 38) rfl ?_
      refine R_iadd (i := 39) rfl ?_
      refine R_bipush (i := 40) rfl ?_
      refine R_irem (i := 41) rfl (by decide) ?_
      refine R_iload (i := 42) rfl rfl ?_
      refine R_call (vs := [.int x1, .int q8, .int (irem (x5 + (1 : Int32)) (8 : Int32)), .int s]) (st' := []) (i := 43) rfl (by decide) (by decide) rfl rfl (Nat.le_of_ble_eq_true rfl) rfl (f136_l (hh rfl hd) ?_)
      refine R_topi (fun v9 e9 => ?_)
      replace hf := bnd_some e9 hf
      refine R_istore [some (.ref 64), some (.int x1), none, none, some (.int x4), some (.int x5), some (.int x6), some (.int s), some (.int v9)] (i := 44) rfl rfl ?_
      refine R_aload_n (i := 45) rfl rfl ?_
      refine R_getF hW (i := 46) rfl rfl (Nat.le_of_ble_eq_true rfl) rfl ?_
      refine R_iload_n (i := 47) rfl rfl ?_
      refine R_iload (i := 48) rfl rfl ?_
      refine R_iload (i := 49) rfl rfl ?_
      refine R_call (vs := [.int x1, .int x4, .int x5]) (st' := [.ref 67]) (i := 50) rfl (by decide) (by decide) rfl rfl (Nat.le_of_ble_eq_true rfl) rfl (f134_l (hh rfl hd) ?_)
      have g10 := gd_some hf
      clear hf
      obtain ⟨g10, hf⟩ := g10
      refine R_iaload hW (i := 51) rfl rfl g10 ?_
      refine R_iload (i := 52) rfl rfl ?_
      refine R_iconst (i := 53) rfl ?_
      refine R_isub (i := 54) rfl ?_
      refine R_call (vs := [.int (hI h 67 (ix (f134 x1 x4 x5))), .int (s - (1 : Int32))]) (st' := []) (i := 55) rfl (by decide) (by decide) rfl rfl (Nat.le_of_ble_eq_true rfl) rfl (f123_l (hh rfl hd) ?_)
      refine R_ifeq (i := 56) rfl (fun c11 => ?_) (fun c11 => ?_)
      · rw [if_pos c11] at hf
        obtain ⟨hj, hs⟩ := Prod.mk.inj (Option.some.inj hf)
        subst hj
        subst hs
        refine R_weak [none, none, none, none, none, none, none, none, none] ⟨Or.inl rfl, Or.inl rfl, Or.inr rfl, Or.inr rfl, Or.inl rfl, Or.inl rfl, Or.inl rfl, Or.inl rfl, Or.inl rfl, trivial⟩ ?_
        exact k1 rfl
      · rw [if_neg c11] at hf
        refine R_aload_n (i := 57) rfl rfl ?_
        refine R_getF hW (i := 58) rfl rfl (Nat.le_of_ble_eq_true rfl) rfl ?_
        refine R_iload (i := 59) rfl rfl ?_
        have g12 := gd_some hf
        clear hf
        obtain ⟨g12, hf⟩ := g12
        refine R_iaload hW (i := 60) rfl rfl g12 ?_
        refine R_ldc (i := 61) rfl ?_
        refine R_icmpeq (i := 62) rfl (fun c13 => ?_) (fun c13 => ?_)
        · rw [if_pos c13] at hf
          refine R_weak [some (.ref 64), some (.int x1), none, none, some (.int x4), some (.int x5), some (.int x6), some (.int s), none] ⟨Or.inr rfl, Or.inr rfl, Or.inr rfl, Or.inr rfl, Or.inr rfl, Or.inr rfl, Or.inr rfl, Or.inr rfl, Or.inl rfl, trivial⟩ ?_
          exact f12_b65_l hf hW hd k0 k1 k2
        · rw [if_neg c13] at hf
          obtain ⟨hj, hs⟩ := Prod.mk.inj (Option.some.inj hf)
          subst hj
          subst hs
          refine R_weak [none, none, none, none, none, none, none, none, none] ⟨Or.inl rfl, Or.inl rfl, Or.inr rfl, Or.inr rfl, Or.inl rfl, Or.inl rfl, Or.inl rfl, Or.inl rfl, Or.inl rfl, trivial⟩ ?_
          exact k1 rfl
set_option maxRecDepth 100000 in
set_option maxHeartbeats 4000000 in
theorem f12_l {d N : Nat} {p1 : Int32} {p2 : Int32} {p3 : Int32} {h : Hp} {Q : Option Value → Hp → Prop} {q : Int32} (hf : f12 N p1 p2 p3 h = some q) (hW : WF 0 h) (hd : 1 ≤ d) (kk : Q (some (.int q)) h) : R 0 d 12 0 [some (.ref 64), some (.int p1), some (.int p2), some (.int p3), none, none, none, none, none] [] h Q := by
  obtain ⟨d, rfl⟩ : ∃ z, d = z + 1 := ⟨d - 1, by omega⟩
  unfold f12 at hf
  refine R_iload_n (i := 0) rfl rfl ?_
  refine R_call (vs := [.int p2]) (st' := []) (i := 1) rfl (by decide) (by decide) rfl rfl (Nat.le_of_ble_eq_true rfl) rfl (f130_l (hh rfl hd) ?_)
  refine R_topi (fun v1 e1 => ?_)
  replace hf := bnd_some e1 hf
  refine R_istore [some (.ref 64), some (.int p1), some (.int p2), some (.int p3), some (.int v1), none, none, none, none] (i := 2) rfl rfl ?_
  refine R_iload_n (i := 3) rfl rfl ?_
  refine R_call (vs := [.int p2]) (st' := []) (i := 4) rfl (by decide) (by decide) rfl rfl (Nat.le_of_ble_eq_true rfl) rfl (f131_l (hh rfl hd) ?_)
  refine R_topi (fun v2 e2 => ?_)
  replace hf := bnd_some e2 hf
  refine R_istore [some (.ref 64), some (.int p1), some (.int p2), some (.int p3), some (.int v1), some (.int v2), none, none, none] (i := 5) rfl rfl ?_
  refine R_aload_n (i := 6) rfl rfl ?_
  refine R_getF hW (i := 7) rfl rfl (Nat.le_of_ble_eq_true rfl) rfl ?_
  refine R_iload_n (i := 8) rfl rfl ?_
  refine R_iload (i := 9) rfl rfl ?_
  refine R_iload (i := 10) rfl rfl ?_
  refine R_iload_n (i := 11) rfl rfl ?_
  refine R_call (vs := [.int p2]) (st' := [.int v2, .int v1, .int p1, .ref 65]) (i := 12) rfl (by decide) (by decide) rfl rfl (Nat.le_of_ble_eq_true rfl) rfl (f132_l (hh rfl hd) ?_)
  refine R_call (vs := [.int p1, .int v1, .int v2, .int (f132 p2)]) (st' := [.ref 65]) (i := 13) rfl (by decide) (by decide) rfl rfl (Nat.le_of_ble_eq_true rfl) rfl (f136_l (hh rfl hd) ?_)
  have g3 := gd_some hf
  clear hf
  obtain ⟨g3, hf⟩ := g3
  refine R_iaload hW (i := 14) rfl rfl g3 ?_
  refine R_iconst (i := 15) rfl ?_
  refine R_iload_n (i := 16) rfl rfl ?_
  refine R_imul (i := 17) rfl ?_
  refine R_ishr (i := 18) rfl ?_
  refine R_topi (fun v4 e4 => ?_)
  replace hf := bnd_some e4 hf
  refine R_istore [some (.ref 64), some (.int p1), some (.int p2), some (.int p3), some (.int v1), some (.int v2), some (.int v4), none, none] (i := 19) rfl rfl ?_
  refine R_iconst (i := 20) rfl ?_
  refine R_istore [some (.ref 64), some (.int p1), some (.int p2), some (.int p3), some (.int v1), some (.int v2), some (.int v4), some (.int (1 : Int32)), none] (i := 21) rfl rfl ?_
  refine R_weak [some (.ref 64), some (.int p1), none, none, some (.int v1), some (.int v2), some (.int v4), some (.int (1 : Int32)), none] ⟨Or.inr rfl, Or.inr rfl, Or.inl rfl, Or.inl rfl, Or.inr rfl, Or.inr rfl, Or.inr rfl, Or.inr rfl, Or.inr rfl, trivial⟩ ?_
  have zq14 := bind_some hf
  clear hf
  obtain ⟨q14, eq14, hf⟩ := zq14
  refine lp_link (P := fun u22 => R 0 (d + 1) 12 22 [some (.ref 64), some (.int p1), none, none, some (.int v1), some (.int v2), some (.int v4), some (.int u22), none] [] h Q) (E := fun e u22 => ((e = 0 → R 0 (d + 1) 12 63 [none, none, none, none, none, none, none, none, none] [] h Q) ∧ (e = 1 → R 0 (d + 1) 12 67 [none, none, none, none, none, none, none, none, none] [] h Q))) (fun s j s' hb k0 ke => f12_l22_l hb hW hd k0 (fun z => (ke 0 z).1 rfl) (fun z => (ke 1 z).2 rfl)) N (1 : Int32) q14.1 q14.2 eq14 ?_
  refine ⟨fun z => ?_, fun z => ?_⟩
  · rw [if_pos z] at hf
    refine R_iconst (i := 63) rfl ?_
    have hz := Option.some.inj hf
    subst hz
    exact R_zret (r := 0) (i := 64) rfl (by decide) kk
  · rw [if_neg (by rw [z]; decide)] at hf
    refine R_iconst (i := 67) rfl ?_
    have hz := Option.some.inj hf
    subst hz
    exact R_zret (r := 1) (i := 68) rfl (by decide) kk
set_option maxRecDepth 100000 in
set_option maxHeartbeats 4000000 in
theorem f11_b27_l {d N : Nat} {x1 : Int32} {x2 : Int32} {h : Hp} {Q : Option Value → Hp → Prop} {j : Nat} {s' : Int32} (hf : f11_b27 N x1 x2 h = some (j, s')) (hW : WF 0 h) (hd : 2 ≤ d) (k0 : j = 0 → R 0 d 11 2 [some (.ref 64), some (.int x1), some (.int s'), none] [] h Q) (k1 : j = 1 → R 0 d 11 25 [none, none, some (.int s'), none] [] h Q) (k2 : j = 2 → R 0 d 11 29 [none, none, none, none] [] h Q) : R 0 d 11 27 [some (.ref 64), some (.int x1), some (.int x2), none] [] h Q := by
  unfold f11_b27 at hf
  obtain ⟨v4, e4⟩ : ∃ z : Int32, z = (x2 + (1 : Int32)) := ⟨_, rfl⟩
  replace hf := bnd_some e4 hf
  refine R_iinc [some (.ref 64), some (.int x1), some (.int v4), none] (i := 27) rfl rfl (by rw [← e4]; rfl) ?_
  refine R_goto (i := 28) rfl ?_
  obtain ⟨hj, hs⟩ := Prod.mk.inj (Option.some.inj hf)
  subst hj
  subst hs
  exact k0 rfl
set_option maxRecDepth 100000 in
set_option maxHeartbeats 4000000 in
theorem f11_l2_l {d N : Nat} {x1 : Int32} {h : Hp} {s : Int32} {Q : Option Value → Hp → Prop} {j : Nat} {s' : Int32} (hf : f11_l2 N x1 h s = some (j, s')) (hW : WF 0 h) (hd : 2 ≤ d) (k0 : j = 0 → R 0 d 11 2 [some (.ref 64), some (.int x1), some (.int s'), none] [] h Q) (k1 : j = 1 → R 0 d 11 25 [none, none, some (.int s'), none] [] h Q) (k2 : j = 2 → R 0 d 11 29 [none, none, none, none] [] h Q) : R 0 d 11 2 [some (.ref 64), some (.int x1), some (.int s), none] [] h Q := by
  obtain ⟨d, rfl⟩ : ∃ z, d = z + 1 := ⟨d - 1, by omega⟩
  unfold f11_l2 at hf
  refine R_iload_n (i := 2) rfl rfl ?_
  refine R_bipush (i := 3) rfl ?_
  refine R_icmpge (i := 4) rfl (fun c1 => ?_) (fun c1 => ?_)
  · rw [if_pos c1] at hf
    obtain ⟨hj, hs⟩ := Prod.mk.inj (Option.some.inj hf)
    subst hj
    subst hs
    refine R_weak [none, none, none, none] ⟨Or.inl rfl, Or.inl rfl, Or.inl rfl, Or.inr rfl, trivial⟩ ?_
    exact k2 rfl
  · rw [if_neg c1] at hf
    refine R_iload_n (i := 5) rfl rfl ?_
    refine R_call (vs := [.int x1]) (st' := []) (i := 6) rfl (by decide) (by decide) rfl rfl (Nat.le_of_ble_eq_true rfl) rfl (f129_l (hh rfl hd) ?_)
    refine R_iload_n (i := 7) rfl rfl ?_
    refine R_iconst (i := 8) rfl ?_
    refine R_idiv (i := 9) rfl (by decide) ?_
    refine R_iadd (i := 10) rfl ?_
    refine R_iconst (i := 11) rfl ?_
    refine R_isub (i := 12) rfl ?_
    refine R_topi (fun v2 e2 => ?_)
    replace hf := bnd_some e2 hf
    refine R_istore_n [some (.ref 64), some (.int x1), some (.int s), some (.int v2)] (i := 13) rfl rfl ?_
    refine R_iload_n (i := 14) rfl rfl ?_
    refine R_call (vs := [.int v2]) (st' := []) (i := 15) rfl (by decide) (by decide) rfl rfl (Nat.le_of_ble_eq_true rfl) rfl (f125_l (hh rfl hd) ?_)
    refine R_ifeq (i := 16) rfl (fun c3 => ?_) (fun c3 => ?_)
    · rw [if_pos c3] at hf
      refine R_weak [some (.ref 64), some (.int x1), some (.int s), none] ⟨Or.inr rfl, Or.inr rfl, Or.inr rfl, Or.inl rfl, trivial⟩ ?_
      exact f11_b27_l hf hW hd k0 k1 k2
    · rw [if_neg c3] at hf
      refine R_aload_n (i := 17) rfl rfl ?_
      refine R_iload_n (i := 18) rfl rfl ?_
      refine R_iload_n (i := 19) rfl rfl ?_
      refine R_iload_n (i := 20) rfl rfl ?_
      refine R_iconst (i := 21) rfl ?_
      refine R_irem (i := 22) rfl (by decide) ?_
      have zq5 := bind_some hf
      clear hf
      obtain ⟨q5, eq5, hf⟩ := zq5
      refine R_callV (vs := [.int v2, .int x1, .int (irem s (4 : Int32))]) (st' := []) hW (i := 23) rfl rfl rfl (Nat.le_of_ble_eq_true rfl) rfl (Nat.le_of_ble_eq_true rfl) rfl (f12_l eq5 hW (hh rfl hd) ?_)
      refine R_ifeq (i := 24) rfl (fun c6 => ?_) (fun c6 => ?_)
      · rw [if_pos c6] at hf
        refine R_weak [some (.ref 64), some (.int x1), some (.int s), none] ⟨Or.inr rfl, Or.inr rfl, Or.inr rfl, Or.inl rfl, trivial⟩ ?_
        exact f11_b27_l hf hW hd k0 k1 k2
      · rw [if_neg c6] at hf
        obtain ⟨hj, hs⟩ := Prod.mk.inj (Option.some.inj hf)
        subst hj
        subst hs
        refine R_weak [none, none, some (.int s), none] ⟨Or.inl rfl, Or.inl rfl, Or.inr rfl, Or.inl rfl, trivial⟩ ?_
        exact k1 rfl
set_option maxRecDepth 100000 in
set_option maxHeartbeats 4000000 in
theorem f11_l {d N : Nat} {p1 : Int32} {h : Hp} {Q : Option Value → Hp → Prop} {q : Int32} (hf : f11 N p1 h = some q) (hW : WF 0 h) (hd : 2 ≤ d) (kk : Q (some (.int q)) h) : R 0 d 11 0 [some (.ref 64), some (.int p1), none, none] [] h Q := by
  unfold f11 at hf
  refine R_iconst (i := 0) rfl ?_
  refine R_istore_n [some (.ref 64), some (.int p1), some (.int (0 : Int32)), none] (i := 1) rfl rfl ?_
  have zq7 := bind_some hf
  clear hf
  obtain ⟨q7, eq7, hf⟩ := zq7
  refine lp_link (P := fun u2 => R 0 d 11 2 [some (.ref 64), some (.int p1), some (.int u2), none] [] h Q) (E := fun e u2 => ((e = 0 → R 0 d 11 25 [none, none, some (.int u2), none] [] h Q) ∧ (e = 1 → R 0 d 11 29 [none, none, none, none] [] h Q))) (fun s j s' hb k0 ke => f11_l2_l hb hW hd k0 (fun z => (ke 0 z).1 rfl) (fun z => (ke 1 z).2 rfl)) N (0 : Int32) q7.1 q7.2 eq7 ?_
  refine ⟨fun z => ?_, fun z => ?_⟩
  · rw [if_pos z] at hf
    refine R_iload_n (i := 25) rfl rfl ?_
    have hz := Option.some.inj hf
    subst hz
    exact R_iret (i := 26) rfl kk
  · rw [if_neg (by rw [z]; decide)] at hf
    refine R_iconst (i := 29) rfl ?_
    have hz := Option.some.inj hf
    subst hz
    exact R_iret (i := 30) rfl kk
set_option maxRecDepth 100000 in
set_option maxHeartbeats 4000000 in
theorem f109_l {d N : Nat} {p1 : Int32} {h : Hp} {Q : Option Value → Hp → Prop} {q : Int32 × Hp} (hf : f109 N p1 h = some q) (hW : WF 0 h) (hd : 11 ≤ d) (kk : WF 0 q.2 → Q (some (.int q.1)) q.2) : R 0 d 109 0 [some (.ref 0), some (.int p1)] [] h Q := by
  obtain ⟨d, rfl⟩ : ∃ z, d = z + 1 := ⟨d - 1, by omega⟩
  unfold f109 at hf
  refine R_aload_n (i := 0) rfl rfl ?_
  refine R_iload_n (i := 1) rfl rfl ?_
  have zq1 := bind_some hf
  clear hf
  obtain ⟨q1, eq1, hf⟩ := zq1
  refine R_callV (vs := [.int p1]) (st' := []) hW (i := 2) rfl rfl rfl (Nat.le_of_ble_eq_true rfl) rfl (Nat.le_of_ble_eq_true rfl) rfl (f128_l eq1 hW (hh rfl hd) ?_)
  refine R_ifne (i := 3) rfl (fun c2 => ?_) (fun c2 => ?_)
  · rw [if_neg c2] at hf
    refine R_aload_n (i := 6) rfl rfl ?_
    refine R_getF hW (i := 7) rfl rfl (Nat.le_of_ble_eq_true rfl) rfl ?_
    have zq3 := bind_some hf
    clear hf
    obtain ⟨q3, eq3, hf⟩ := zq3
    refine R_callV (vs := []) (st' := []) hW (i := 8) rfl rfl rfl (Nat.le_of_ble_eq_true rfl) rfl (Nat.le_of_ble_eq_true rfl) rfl (f5_l eq3 hW (hh rfl hd) (fun hW3 => ?_))
    refine R_aload_n (i := 9) rfl rfl ?_
    refine R_getF hW3 (i := 10) rfl rfl (Nat.le_of_ble_eq_true rfl) rfl ?_
    refine R_iload_n (i := 11) rfl rfl ?_
    have zq4 := bind_some hf
    clear hf
    obtain ⟨q4, eq4, hf⟩ := zq4
    refine R_callV (vs := [.int p1]) (st' := []) hW3 (i := 12) rfl rfl rfl (Nat.le_of_ble_eq_true rfl) rfl (Nat.le_of_ble_eq_true rfl) rfl (f11_l eq4 hW3 (hh rfl hd) ?_)
    have hz := Option.some.inj hf
    subst hz
    exact R_iret (i := 13) rfl (kk hW3)
  · rw [if_pos c2] at hf
    refine R_iconst (i := 4) rfl ?_
    have hz := Option.some.inj hf
    subst hz
    exact R_iret (i := 5) rfl (kk hW)
set_option maxRecDepth 100000 in
set_option maxHeartbeats 4000000 in
theorem f8_l5_l {d N : Nat} {x1 : Int32} {x2 : Int32} {x3 : Int32} {s : Int32 × Hp} {Q : Option Value → Hp → Prop} {j : Nat} {s' : Int32 × Hp} (hf : f8_l5 N x1 x2 x3 s = some (j, s')) (hW : WF 0 s.2) (hd : 7 ≤ d) (k0 : j = 0 → WF 0 s'.2 → R 0 d 8 5 [some (.ref 64), some (.int x1), some (.int x2), some (.int x3), some (.int s'.1)] [] s'.2 Q) (k1 : j = 1 → WF 0 s'.2 → R 0 d 8 21 [none, none, none, none, some (.int s'.1)] [] s'.2 Q) (k2 : j = 2 → WF 0 s'.2 → R 0 d 8 25 [none, none, none, none, none] [] s'.2 Q) : R 0 d 8 5 [some (.ref 64), some (.int x1), some (.int x2), some (.int x3), some (.int s.1)] [] s.2 Q := by
  obtain ⟨d, rfl⟩ : ∃ z, d = z + 1 := ⟨d - 1, by omega⟩
  unfold f8_l5 at hf
  refine R_iload (i := 5) rfl rfl ?_
  refine R_bipush (i := 6) rfl ?_
  refine R_icmpgt (i := 7) rfl (fun c2 => ?_) (fun c2 => ?_)
  · rw [if_pos c2] at hf
    obtain ⟨hj, hs⟩ := Prod.mk.inj (Option.some.inj hf)
    subst hj
    subst hs
    refine R_weak [none, none, none, none, none] ⟨Or.inl rfl, Or.inl rfl, Or.inl rfl, Or.inl rfl, Or.inl rfl, trivial⟩ ?_
    exact k2 rfl hW
  · rw [if_neg c2] at hf
    refine R_aload_n (i := 8) rfl rfl ?_
    refine R_iload_n (i := 9) rfl rfl ?_
    refine R_call (vs := [.int x1]) (st' := [.ref 64]) (i := 10) rfl (by decide) (by decide) rfl rfl (Nat.le_of_ble_eq_true rfl) rfl (f131_l (hh rfl hd) ?_)
    refine R_iload (i := 11) rfl rfl ?_
    refine R_iadd (i := 12) rfl ?_
    refine R_iconst (i := 13) rfl ?_
    refine R_isub (i := 14) rfl ?_
    refine R_bipush (i := 15) rfl ?_
    refine R_irem (i := 16) rfl (by decide) ?_
    refine R_iload_n (i := 17) rfl rfl ?_
    refine R_iload_n (i := 18) rfl rfl ?_
    have zq3 := bind_some hf
    clear hf
    obtain ⟨q3, eq3, hf⟩ := zq3
    refine R_callV (vs := [.int (irem (((f131 x1) + s.1) - (1 : Int32)) (8 : Int32)), .int x3, .int x2]) (st' := []) hW (i := 19) rfl rfl rfl (Nat.le_of_ble_eq_true rfl) rfl (Nat.le_of_ble_eq_true rfl) rfl (f20_l eq3 hW (hh rfl hd) (fun hW3 => ?_))
    refine R_ifeq (i := 20) rfl (fun c4 => ?_) (fun c4 => ?_)
    · rw [if_pos c4] at hf
      obtain ⟨v5, e5⟩ : ∃ z : Int32, z = (s.1 + (1 : Int32)) := ⟨_, rfl⟩
      replace hf := bnd_some e5 hf
      refine R_iinc [some (.ref 64), some (.int x1), some (.int x2), some (.int x3), some (.int v5)] (i := 23) rfl rfl (by rw [← e5]; rfl) ?_
      refine R_goto (i := 24) rfl ?_
      obtain ⟨hj, hs⟩ := Prod.mk.inj (Option.some.inj hf)
      subst hj
      subst hs
      exact k0 rfl hW3
    · rw [if_neg c4] at hf
      obtain ⟨hj, hs⟩ := Prod.mk.inj (Option.some.inj hf)
      subst hj
      subst hs
      refine R_weak [none, none, none, none, some (.int s.1)] ⟨Or.inl rfl, Or.inl rfl, Or.inl rfl, Or.inl rfl, Or.inr rfl, trivial⟩ ?_
      exact k1 rfl hW3
set_option maxRecDepth 100000 in
set_option maxHeartbeats 4000000 in
theorem f8_l {d N : Nat} {p1 : Int32} {p2 : Int32} {p3 : Int32} {h : Hp} {Q : Option Value → Hp → Prop} {q : Int32 × Hp} (hf : f8 N p1 p2 p3 h = some q) (hW : WF 0 h) (hd : 7 ≤ d) (kk : WF 0 q.2 → Q (some (.int q.1)) q.2) : R 0 d 8 0 [some (.ref 64), some (.int p1), some (.int p2), some (.int p3), none] [] h Q := by
  obtain ⟨d, rfl⟩ : ∃ z, d = z + 1 := ⟨d - 1, by omega⟩
  unfold f8 at hf
  refine R_aload_n (i := 0) rfl rfl ?_
  refine R_iload_n (i := 1) rfl rfl ?_
  have zq1 := bind_some hf
  clear hf
  obtain ⟨q1, eq1, hf⟩ := zq1
  refine R_callV (vs := [.int p1]) (st' := []) hW (i := 2) rfl rfl rfl (Nat.le_of_ble_eq_true rfl) rfl (Nat.le_of_ble_eq_true rfl) rfl (f19_l eq1 hW (hh rfl hd) (fun hW1 => ?_))
  refine R_iconst (i := 3) rfl ?_
  refine R_istore [some (.ref 64), some (.int p1), some (.int p2), some (.int p3), some (.int (1 : Int32))] (i := 4) rfl rfl ?_
  have zq6 := bind_some hf
  clear hf
  obtain ⟨q6, eq6, hf⟩ := zq6
  refine lp_link (P := fun u5 => WF 0 u5.2 → R 0 (d + 1) 8 5 [some (.ref 64), some (.int p1), some (.int p2), some (.int p3), some (.int u5.1)] [] u5.2 Q) (E := fun e u5 => WF 0 u5.2 → ((e = 0 → R 0 (d + 1) 8 21 [none, none, none, none, some (.int u5.1)] [] u5.2 Q) ∧ (e = 1 → R 0 (d + 1) 8 25 [none, none, none, none, none] [] u5.2 Q))) (fun s j s' hb k0 ke hWs => f8_l5_l hb hWs hd k0 (fun z y => (ke 0 z y).1 rfl) (fun z y => (ke 1 z y).2 rfl)) N ((1 : Int32), q1) q6.1 q6.2 eq6 ?_ hW1
  refine fun hW6 => ⟨fun z => ?_, fun z => ?_⟩
  · rw [if_pos z] at hf
    refine R_iload (i := 21) rfl rfl ?_
    have hz := Option.some.inj hf
    subst hz
    exact R_iret (i := 22) rfl (kk hW6)
  · rw [if_neg (by rw [z]; decide)] at hf
    refine R_iconst (i := 25) rfl ?_
    have hz := Option.some.inj hf
    subst hz
    exact R_iret (i := 26) rfl (kk hW6)
set_option maxRecDepth 100000 in
set_option maxHeartbeats 4000000 in
theorem f9_l26_l {d N : Nat} {x1 : Int32} {x2 : Int32} {x3 : Int32} {x4 : Int32} {s : Int32 × Int32 × Hp} {Q : Option Value → Hp → Prop} {j : Nat} {s' : Int32 × Int32 × Hp} (hf : f9_l26 N x1 x2 x3 x4 s = some (j, s')) (hW : WF 0 s.2.2) (hd : 8 ≤ d) (k0 : j = 0 → WF 0 s'.2.2 → R 0 d 9 26 [some (.ref 64), some (.int x1), some (.int x2), some (.int x3), some (.int x4), some (.int s'.1), some (.int s'.2.1)] [] s'.2.2 Q) (k1 : j = 1 → WF 0 s'.2.2 → R 0 d 9 47 [none, none, none, none, none, none, some (.int s'.2.1)] [] s'.2.2 Q) (k2 : j = 2 → WF 0 s'.2.2 → R 0 d 9 51 [none, none, none, none, none, none, none] [] s'.2.2 Q) : R 0 d 9 26 [some (.ref 64), some (.int x1), some (.int x2), some (.int x3), some (.int x4), some (.int s.1), some (.int s.2.1)] [] s.2.2 Q := by
  obtain ⟨d, rfl⟩ : ∃ z, d = z + 1 := ⟨d - 1, by omega⟩
  unfold f9_l26 at hf
  refine R_iload (i := 26) rfl rfl ?_
  refine R_bipush (i := 27) rfl ?_
  refine R_icmpgt (i := 28) rfl (fun c5 => ?_) (fun c5 => ?_)
  · rw [if_pos c5] at hf
    obtain ⟨hj, hs⟩ := Prod.mk.inj (Option.some.inj hf)
    subst hj
    subst hs
    refine R_weak [none, none, none, none, none, none, none] ⟨Or.inl rfl, Or.inl rfl, Or.inl rfl, Or.inl rfl, Or.inl rfl, Or.inl rfl, Or.inl rfl, trivial⟩ ?_
    exact k2 rfl hW
  · rw [if_neg c5] at hf
    refine R_iload (i := 29) rfl rfl ?_
    refine R_ifeq (i := 30) rfl (fun c6 => ?_) (fun c6 => ?_)
    · rw [if_pos c6] at hf
      obtain ⟨hj, hs⟩ := Prod.mk.inj (Option.some.inj hf)
      subst hj
      subst hs
      refine R_weak [none, none, none, none, none, none, none] ⟨Or.inl rfl, Or.inl rfl, Or.inl rfl, Or.inl rfl, Or.inl rfl, Or.inl rfl, Or.inl rfl, trivial⟩ ?_
      exact k2 rfl hW
    · rw [if_neg c6] at hf
      refine R_aload_n (i := 31) rfl rfl ?_
      refine R_iload_n (i := 32) rfl rfl ?_
      refine R_iload_n (i := 33) rfl rfl ?_
      refine R_iload (i := 34) rfl rfl ?_
      have zq7 := bind_some hf
      clear hf
      obtain ⟨q7, eq7, hf⟩ := zq7
      refine R_callV (vs := [.int x3, .int x2, .int s.1]) (st' := []) hW (i := 35) rfl rfl rfl (Nat.le_of_ble_eq_true rfl) rfl (Nat.le_of_ble_eq_true rfl) rfl (f14_l eq7 hW (hh rfl hd) (fun hW7 => ?_))
      refine R_istore [some (.ref 64), some (.int x1), some (.int x2), some (.int x3), some (.int x4), some (.int q7.1), some (.int s.2.1)] (i := 36) rfl rfl ?_
      refine R_aload_n (i := 37) rfl rfl ?_
      have zr8 := bind_some hf
      clear hf
      obtain ⟨r8, er8, hf⟩ := zr8
      refine R_getR hW7 (i := 38) rfl rfl (Nat.le_of_ble_eq_true rfl) er8 ?_
      refine R_iload (i := 39) rfl rfl ?_
      have g9 := gd_some hf
      clear hf
      obtain ⟨g9, hf⟩ := g9
      refine R_iaload hW7 (i := 40) rfl g9.1 g9.2 ?_
      refine R_iload_n (i := 41) rfl rfl ?_
      refine R_call (vs := [.int x1]) (st' := [.int (hI q7.2 r8 (ix x4))]) (i := 42) rfl (by decide) (by decide) rfl rfl (Nat.le_of_ble_eq_true rfl) rfl (f132_l (hh rfl hd) ?_)
      refine R_iconst (i := 43) rfl ?_
      refine R_isub (i := 44) rfl ?_
      refine R_call (vs := [.int (hI q7.2 r8 (ix x4)), .int ((f132 x1) - (1 : Int32))]) (st' := []) (i := 45) rfl (by decide) (by decide) rfl rfl (Nat.le_of_ble_eq_true rfl) rfl (f123_l (hh rfl hd) ?_)
      refine R_ifeq (i := 46) rfl (fun c10 => ?_) (fun c10 => ?_)
      · rw [if_pos c10] at hf
        obtain ⟨v11, e11⟩ : ∃ z : Int32, z = (s.2.1 + (1 : Int32)) := ⟨_, rfl⟩
        replace hf := bnd_some e11 hf
        refine R_iinc [some (.ref 64), some (.int x1), some (.int x2), some (.int x3), some (.int x4), some (.int q7.1), some (.int v11)] (i := 49) rfl rfl (by rw [← e11]; rfl) ?_
        refine R_goto (i := 50) rfl ?_
        obtain ⟨hj, hs⟩ := Prod.mk.inj (Option.some.inj hf)
        subst hj
        subst hs
        exact k0 rfl hW7
      · rw [if_neg c10] at hf
        obtain ⟨hj, hs⟩ := Prod.mk.inj (Option.some.inj hf)
        subst hj
        subst hs
        refine R_weak [none, none, none, none, none, none, some (.int s.2.1)] ⟨Or.inl rfl, Or.inl rfl, Or.inl rfl, Or.inl rfl, Or.inl rfl, Or.inl rfl, Or.inr rfl, trivial⟩ ?_
        exact k1 rfl hW7
set_option maxRecDepth 100000 in
set_option maxHeartbeats 4000000 in
theorem f9_l {d N : Nat} {p1 : Int32} {p2 : Int32} {p3 : Int32} {h : Hp} {Q : Option Value → Hp → Prop} {q : Int32 × Hp} (hf : f9 N p1 p2 p3 h = some q) (hW : WF 0 h) (hd : 8 ≤ d) (kk : WF 0 q.2 → Q (some (.int q.1)) q.2) : R 0 d 9 0 [some (.ref 64), some (.int p1), some (.int p2), some (.int p3), none, none, none] [] h Q := by
  obtain ⟨d, rfl⟩ : ∃ z, d = z + 1 := ⟨d - 1, by omega⟩
  unfold f9 at hf
  refine R_aload_n (i := 0) rfl rfl ?_
  have zr1 := bind_some hf
  clear hf
  obtain ⟨r1, er1, hf⟩ := zr1
  refine R_getR hW (i := 1) rfl rfl (Nat.le_of_ble_eq_true rfl) er1 ?_
  refine R_iconst (i := 2) rfl ?_
  have zq2 := bind_some hf
  clear hf
  obtain ⟨q2, eq2, hf⟩ := zq2
  refine R_call (vs := [.ref r1, .int (0 : Int32)]) (st' := []) (i := 3) rfl (by decide) (by decide) rfl rfl (Nat.le_of_ble_eq_true rfl) rfl (f231_l eq2 hW (hh rfl hd) (fun hW2 => ?_))
  refine R_iload_n (i := 4) rfl rfl ?_
  refine R_iconst (i := 5) rfl ?_
  refine R_isub (i := 6) rfl ?_
  refine R_sipush (i := 7) rfl ?_
  refine R_imul (i := 8) rfl ?_
  refine R_iload_n (i := 9) rfl rfl ?_
  refine R_call (vs := [.int p1]) (st' := [.int ((p3 - (1 : Int32)) * (288 : Int32))]) (i := 10) rfl (by decide) (by decide) rfl rfl (Nat.le_of_ble_eq_true rfl) rfl (f129_l (hh rfl hd) ?_)
  refine R_iload_n (i := 11) rfl rfl ?_
  refine R_call (vs := [.int p1]) (st' := [.int (f129 p1), .int ((p3 - (1 : Int32)) * (288 : Int32))]) (i := 12) rfl (by decide) (by decide) rfl rfl (Nat.le_of_ble_eq_true rfl) rfl (f130_l (hh rfl hd) ?_)
  refine R_iload_n (i := 13) rfl rfl ?_
  refine R_call (vs := [.int p1]) (st' := [.int (f130 p1), .int (f129 p1), .int ((p3 - (1 : Int32)) * (288 : Int32))]) (i := 14) rfl (by decide) (by decide) rfl rfl (Nat.le_of_ble_eq_true rfl) rfl (f131_l (hh rfl hd) ?_)
  refine R_call (vs := [.int (f129 p1), .int (f130 p1), .int (f131 p1)]) (st' := [.int ((p3 - (1 : Int32)) * (288 : Int32))]) (i := 15) rfl (by decide) (by decide) rfl rfl (Nat.le_of_ble_eq_true rfl) rfl (f134_l (hh rfl hd) ?_)
  refine R_iadd (i := 16) rfl ?_
  refine R_topi (fun v3 e3 => ?_)
  replace hf := bnd_some e3 hf
  refine R_istore [some (.ref 64), some (.int p1), some (.int p2), some (.int p3), some (.int v3), none, none] (i := 17) rfl rfl ?_
  refine R_iconst (i := 18) rfl ?_
  refine R_iload_n (i := 19) rfl rfl ?_
  refine R_ishl (i := 20) rfl ?_
  refine R_iconst (i := 21) rfl ?_
  refine R_isub (i := 22) rfl ?_
  refine R_topi (fun v4 e4 => ?_)
  replace hf := bnd_some e4 hf
  refine R_istore [some (.ref 64), some (.int p1), some (.int p2), some (.int p3), some (.int v3), some (.int v4), none] (i := 23) rfl rfl ?_
  refine R_iconst (i := 24) rfl ?_
  refine R_istore [some (.ref 64), some (.int p1), some (.int p2), some (.int p3), some (.int v3), some (.int v4), some (.int (1 : Int32))] (i := 25) rfl rfl ?_
  have zq12 := bind_some hf
  clear hf
  obtain ⟨q12, eq12, hf⟩ := zq12
  refine lp_link (P := fun u26 => WF 0 u26.2.2 → R 0 (d + 1) 9 26 [some (.ref 64), some (.int p1), some (.int p2), some (.int p3), some (.int v3), some (.int u26.1), some (.int u26.2.1)] [] u26.2.2 Q) (E := fun e u26 => WF 0 u26.2.2 → ((e = 0 → R 0 (d + 1) 9 47 [none, none, none, none, none, none, some (.int u26.2.1)] [] u26.2.2 Q) ∧ (e = 1 → R 0 (d + 1) 9 51 [none, none, none, none, none, none, none] [] u26.2.2 Q))) (fun s j s' hb k0 ke hWs => f9_l26_l hb hWs hd k0 (fun z y => (ke 0 z y).1 rfl) (fun z y => (ke 1 z y).2 rfl)) N (v4, (1 : Int32), q2) q12.1 q12.2 eq12 ?_ hW2
  refine fun hW12 => ⟨fun z => ?_, fun z => ?_⟩
  · rw [if_pos z] at hf
    refine R_iload (i := 47) rfl rfl ?_
    have hz := Option.some.inj hf
    subst hz
    exact R_iret (i := 48) rfl (kk hW12)
  · rw [if_neg (by rw [z]; decide)] at hf
    refine R_iconst (i := 51) rfl ?_
    have hz := Option.some.inj hf
    subst hz
    exact R_iret (i := 52) rfl (kk hW12)
set_option maxRecDepth 100000 in
set_option maxHeartbeats 4000000 in
theorem f110_l {d N : Nat} {p1 : Int32} {p2 : Int32} {p3 : Int32} {p4 : Int32} {h : Hp} {Q : Option Value → Hp → Prop} {q : Int32 × Hp} (hf : f110 N p1 p2 p3 p4 h = some q) (hW : WF 0 h) (hd : 10 ≤ d) (kk : WF 0 q.2 → Q (some (.int q.1)) q.2) : R 0 d 110 0 [some (.ref 0), some (.int p1), some (.int p2), some (.int p3), some (.int p4)] [] h Q := by
  obtain ⟨d, rfl⟩ : ∃ z, d = z + 1 := ⟨d - 1, by omega⟩
  unfold f110 at hf
  refine R_aload_n (i := 0) rfl rfl ?_
  refine R_iload_n (i := 1) rfl rfl ?_
  have zq1 := bind_some hf
  clear hf
  obtain ⟨q1, eq1, hf⟩ := zq1
  refine R_callV (vs := [.int p1]) (st' := []) hW (i := 2) rfl rfl rfl (Nat.le_of_ble_eq_true rfl) rfl (Nat.le_of_ble_eq_true rfl) rfl (f128_l eq1 hW (hh rfl hd) ?_)
  refine R_ifeq (i := 3) rfl (fun c2 => ?_) (fun c2 => ?_)
  · rw [if_pos c2] at hf
    refine R_iconst (i := 16) rfl ?_
    have hz := Option.some.inj hf
    subst hz
    exact R_iret (i := 17) rfl (kk hW)
  · rw [if_neg c2] at hf
    refine R_aload_n (i := 4) rfl rfl ?_
    refine R_getF hW (i := 5) rfl rfl (Nat.le_of_ble_eq_true rfl) rfl ?_
    refine R_getF hW (i := 6) rfl rfl (Nat.le_of_ble_eq_true rfl) rfl ?_
    refine R_iload_n (i := 7) rfl rfl ?_
    have zq3 := bind_some hf
    clear hf
    obtain ⟨q3, eq3, hf⟩ := zq3
    refine R_callV (vs := [.int p2]) (st' := []) hW (i := 8) rfl rfl rfl (Nat.le_of_ble_eq_true rfl) rfl (Nat.le_of_ble_eq_true rfl) rfl (f59_l eq3 hW (hh rfl hd) ?_)
    refine R_ifeq (i := 9) rfl (fun c4 => ?_) (fun c4 => ?_)
    · rw [if_pos c4] at hf
      refine R_iconst (i := 16) rfl ?_
      have hz := Option.some.inj hf
      subst hz
      exact R_iret (i := 17) rfl (kk hW)
    · rw [if_neg c4] at hf
      refine R_iload_n (i := 10) rfl rfl ?_
      refine R_iconst (i := 11) rfl ?_
      refine R_icmplt (i := 12) rfl (fun c5 => ?_) (fun c5 => ?_)
      · rw [if_pos c5] at hf
        refine R_iconst (i := 16) rfl ?_
        have hz := Option.some.inj hf
        subst hz
        exact R_iret (i := 17) rfl (kk hW)
      · rw [if_neg c5] at hf
        refine R_iload_n (i := 13) rfl rfl ?_
        refine R_iconst (i := 14) rfl ?_
        refine R_icmple (i := 15) rfl (fun c6 => ?_) (fun c6 => ?_)
        · rw [if_pos c6] at hf
          refine R_aload_n (i := 18) rfl rfl ?_
          refine R_getF hW (i := 19) rfl rfl (Nat.le_of_ble_eq_true rfl) rfl ?_
          refine R_iconst (i := 20) rfl ?_
          refine R_bipush (i := 21) rfl ?_
          have zq7 := bind_some hf
          clear hf
          obtain ⟨q7, eq7, hf⟩ := zq7
          refine R_callV (vs := [.int (0 : Int32), .int (8 : Int32)]) (st' := []) hW (i := 22) rfl rfl rfl (Nat.le_of_ble_eq_true rfl) rfl (Nat.le_of_ble_eq_true rfl) rfl (f4_l eq7 hW (hh rfl hd) (fun hW7 => ?_))
          refine R_iload (i := 23) rfl rfl ?_
          refine R_ifeq (i := 24) rfl (fun c8 => ?_) (fun c8 => ?_)
          · rw [if_pos c8] at hf
            refine R_aload_n (i := 32) rfl rfl ?_
            refine R_getF hW7 (i := 33) rfl rfl (Nat.le_of_ble_eq_true rfl) rfl ?_
            refine R_iload_n (i := 34) rfl rfl ?_
            refine R_iload_n (i := 35) rfl rfl ?_
            refine R_iload_n (i := 36) rfl rfl ?_
            have zq9 := bind_some hf
            clear hf
            obtain ⟨q9, eq9, hf⟩ := zq9
            refine R_callV (vs := [.int p1, .int p2, .int p3]) (st' := []) hW7 (i := 37) rfl rfl rfl (Nat.le_of_ble_eq_true rfl) rfl (Nat.le_of_ble_eq_true rfl) rfl (f8_l eq9 hW7 (hh rfl hd) (fun hW9 => ?_))
            have hz := Option.some.inj hf
            subst hz
            exact R_iret (i := 38) rfl (kk hW9)
          · rw [if_neg c8] at hf
            refine R_aload_n (i := 25) rfl rfl ?_
            refine R_getF hW7 (i := 26) rfl rfl (Nat.le_of_ble_eq_true rfl) rfl ?_
            refine R_iload_n (i := 27) rfl rfl ?_
            refine R_iload_n (i := 28) rfl rfl ?_
            refine R_iload_n (i := 29) rfl rfl ?_
            have zq10 := bind_some hf
            clear hf
            obtain ⟨q10, eq10, hf⟩ := zq10
            refine R_callV (vs := [.int p1, .int p2, .int p3]) (st' := []) hW7 (i := 30) rfl rfl rfl (Nat.le_of_ble_eq_true rfl) rfl (Nat.le_of_ble_eq_true rfl) rfl (f9_l eq10 hW7 (hh rfl hd) (fun hW10 => ?_))
            refine R_goto (i := 31) rfl ?_
            have hz := Option.some.inj hf
            subst hz
            exact R_iret (i := 38) rfl (kk hW10)
        · rw [if_neg c6] at hf
          refine R_iconst (i := 16) rfl ?_
          have hz := Option.some.inj hf
          subst hz
          exact R_iret (i := 17) rfl (kk hW)
set_option maxRecDepth 100000 in
set_option maxHeartbeats 4000000 in
theorem f7_b55_l {d N : Nat} {x1 : Int32} {x2 : Int32} {x3 : Int32} {x4 : Int32} {x5 : Int32} {h : Hp} {Q : Option Value → Hp → Prop} {j : Nat} {s' : Int32 × Hp} (hf : f7_b55 N x1 x2 x3 x4 x5 h = some (j, s')) (hW : WF 0 h) (hd : 7 ≤ d) (k0 : j = 0 → WF 0 s'.2 → R 0 d 7 5 [some (.ref 64), some (.int x1), some (.int x2), some (.int x3), some (.int x4), some (.int s'.1), none] [] s'.2 Q) (k1 : j = 1 → WF 0 s'.2 → R 0 d 7 53 [none, none, none, none, none, some (.int s'.1), none] [] s'.2 Q) (k2 : j = 2 → WF 0 s'.2 → R 0 d 7 57 [none, none, none, none, none, none, none] [] s'.2 Q) : R 0 d 7 55 [some (.ref 64), some (.int x1), some (.int x2), some (.int x3), some (.int x4), some (.int x5), none] [] h Q := by
  unfold f7_b55 at hf
  obtain ⟨v12, e12⟩ : ∃ z : Int32, z = (x5 + (1 : Int32)) := ⟨_, rfl⟩
  replace hf := bnd_some e12 hf
  refine R_iinc [some (.ref 64), some (.int x1), some (.int x2), some (.int x3), some (.int x4), some (.int v12), none] (i := 55) rfl rfl (by rw [← e12]; rfl) ?_
  refine R_goto (i := 56) rfl ?_
  obtain ⟨hj, hs⟩ := Prod.mk.inj (Option.some.inj hf)
  subst hj
  subst hs
  exact k0 rfl hW
set_option maxRecDepth 100000 in
set_option maxHeartbeats 4000000 in
theorem f7_l5_l {d N : Nat} {x1 : Int32} {x2 : Int32} {x3 : Int32} {x4 : Int32} {s : Int32 × Hp} {Q : Option Value → Hp → Prop} {j : Nat} {s' : Int32 × Hp} (hf : f7_l5 N x1 x2 x3 x4 s = some (j, s')) (hW : WF 0 s.2) (hd : 7 ≤ d) (k0 : j = 0 → WF 0 s'.2 → R 0 d 7 5 [some (.ref 64), some (.int x1), some (.int x2), some (.int x3), some (.int x4), some (.int s'.1), none] [] s'.2 Q) (k1 : j = 1 → WF 0 s'.2 → R 0 d 7 53 [none, none, none, none, none, some (.int s'.1), none] [] s'.2 Q) (k2 : j = 2 → WF 0 s'.2 → R 0 d 7 57 [none, none, none, none, none, none, none] [] s'.2 Q) : R 0 d 7 5 [some (.ref 64), some (.int x1), some (.int x2), some (.int x3), some (.int x4), some (.int s.1), none] [] s.2 Q := by
  obtain ⟨d, rfl⟩ : ∃ z, d = z + 1 := ⟨d - 1, by omega⟩
  unfold f7_l5 at hf
  refine R_iload (i := 5) rfl rfl ?_
  refine R_iload_n (i := 6) rfl rfl ?_
  refine R_bipush (i := 7) rfl ?_
  refine R_iadd (i := 8) rfl ?_
  refine R_icmpgt (i := 9) rfl (fun c2 => ?_) (fun c2 => ?_)
  · rw [if_pos c2] at hf
    obtain ⟨hj, hs⟩ := Prod.mk.inj (Option.some.inj hf)
    subst hj
    subst hs
    refine R_weak [none, none, none, none, none, none, none] ⟨Or.inl rfl, Or.inl rfl, Or.inl rfl, Or.inl rfl, Or.inl rfl, Or.inl rfl, Or.inr rfl, trivial⟩ ?_
    exact k2 rfl hW
  · rw [if_neg c2] at hf
    refine R_aload_n (i := 10) rfl rfl ?_
    refine R_iload_n (i := 11) rfl rfl ?_
    refine R_call (vs := [.int x1]) (st' := [.ref 64]) (i := 12) rfl (by decide) (by decide) rfl rfl (Nat.le_of_ble_eq_true rfl) rfl (f131_l (hh rfl hd) ?_)
    refine R_iload (i := 13) rfl rfl ?_
    refine R_iadd (i := 14) rfl ?_
    refine R_iconst (i := 15) rfl ?_
    refine R_isub (i := 16) rfl ?_
    refine R_bipush (i := 17) rfl ?_
    refine R_irem (i := 18) rfl (by decide) ?_
    refine R_iconst (i := 19) rfl ?_
    refine R_iconst (i := 20) rfl ?_
    have zq3 := bind_some hf
    clear hf
    obtain ⟨q3, eq3, hf⟩ := zq3
    refine R_callV (vs := [.int (irem (((f131 x1) + s.1) - (1 : Int32)) (8 : Int32)), .int (1 : Int32), .int (-1 : Int32)]) (st' := []) hW (i := 21) rfl rfl rfl (Nat.le_of_ble_eq_true rfl) rfl (Nat.le_of_ble_eq_true rfl) rfl (f20_l eq3 hW (hh rfl hd) (fun hW3 => ?_))
    refine R_pop (i := 22) rfl rfl ?_
    refine R_aload_n (i := 23) rfl rfl ?_
    have zr4 := bind_some hf
    clear hf
    obtain ⟨r4, er4, hf⟩ := zr4
    refine R_getR hW3 (i := 24) rfl rfl (Nat.le_of_ble_eq_true rfl) er4 ?_
    refine R_iconst (i := 25) rfl ?_
    refine R_iload_n (i := 26) rfl rfl ?_
    refine R_call (vs := [.int (0 : Int32), .int x2]) (st' := [.ref r4]) (i := 27) rfl (by decide) (by decide) rfl rfl (Nat.le_of_ble_eq_true rfl) rfl (f133_l (hh rfl hd) ?_)
    have g5 := gd_some hf
    clear hf
    obtain ⟨g5, hf⟩ := g5
    refine R_iaload hW3 (i := 28) rfl g5.1 g5.2 ?_
    refine R_aload_n (i := 29) rfl rfl ?_
    have zr6 := bind_some hf
    clear hf
    obtain ⟨r6, er6, hf⟩ := zr6
    refine R_getR hW3 (i := 30) rfl rfl (Nat.le_of_ble_eq_true rfl) er6 ?_
    refine R_iconst (i := 31) rfl ?_
    refine R_iload_n (i := 32) rfl rfl ?_
    refine R_call (vs := [.int (1 : Int32), .int x2]) (st' := [.ref r6, .int (hI q3.2 r4 (ix (f133 (0 : Int32) x2)))]) (i := 33) rfl (by decide) (by decide) rfl rfl (Nat.le_of_ble_eq_true rfl) rfl (f133_l (hh rfl hd) ?_)
    have g7 := gd_some hf
    clear hf
    obtain ⟨g7, hf⟩ := g7
    refine R_iaload hW3 (i := 34) rfl g7.1 g7.2 ?_
    refine R_ior (i := 35) rfl ?_
    refine R_aload_n (i := 36) rfl rfl ?_
    have zr8 := bind_some hf
    clear hf
    obtain ⟨r8, er8, hf⟩ := zr8
    refine R_getR hW3 (i := 37) rfl rfl (Nat.le_of_ble_eq_true rfl) er8 ?_
    refine R_iconst (i := 38) rfl ?_
    refine R_iload_n (i := 39) rfl rfl ?_
    refine R_call (vs := [.int (2 : Int32), .int x2]) (st' := [.ref r8, .int ((hI q3.2 r4 (ix (f133 (0 : Int32) x2))) ||| (hI q3.2 r6 (ix (f133 (1 : Int32) x2))))]) (i := 40) rfl (by decide) (by decide) rfl rfl (Nat.le_of_ble_eq_true rfl) rfl (f133_l (hh rfl hd) ?_)
    have g9 := gd_some hf
    clear hf
    obtain ⟨g9, hf⟩ := g9
    refine R_iaload hW3 (i := 41) rfl g9.1 g9.2 ?_
    refine R_ior (i := 42) rfl ?_
    refine R_topi (fun v10 e10 => ?_)
    replace hf := bnd_some e10 hf
    refine R_istore [some (.ref 64), some (.int x1), some (.int x2), some (.int x3), some (.int x4), some (.int s.1), some (.int v10)] (i := 43) rfl rfl ?_
    refine R_iload (i := 44) rfl rfl ?_
    refine R_iload_n (i := 45) rfl rfl ?_
    refine R_icmplt (i := 46) rfl (fun c11 => ?_) (fun c11 => ?_)
    · rw [if_pos c11] at hf
      refine R_weak [some (.ref 64), some (.int x1), some (.int x2), some (.int x3), some (.int x4), some (.int s.1), none] ⟨Or.inr rfl, Or.inr rfl, Or.inr rfl, Or.inr rfl, Or.inr rfl, Or.inr rfl, Or.inl rfl, trivial⟩ ?_
      exact f7_b55_l hf hW3 hd k0 k1 k2
    · rw [if_neg c11] at hf
      refine R_iload (i := 47) rfl rfl ?_
      refine R_iload (i := 48) rfl rfl ?_
      refine R_iconst (i := 49) rfl ?_
      refine R_isub (i := 50) rfl ?_
      refine R_call (vs := [.int v10, .int (x4 - (1 : Int32))]) (st' := []) (i := 51) rfl (by decide) (by decide) rfl rfl (Nat.le_of_ble_eq_true rfl) rfl (f123_l (hh rfl hd) ?_)
      refine R_ifeq (i := 52) rfl (fun c13 => ?_) (fun c13 => ?_)
      · rw [if_pos c13] at hf
        refine R_weak [some (.ref 64), some (.int x1), some (.int x2), some (.int x3), some (.int x4), some (.int s.1), none] ⟨Or.inr rfl, Or.inr rfl, Or.inr rfl, Or.inr rfl, Or.inr rfl, Or.inr rfl, Or.inl rfl, trivial⟩ ?_
        exact f7_b55_l hf hW3 hd k0 k1 k2
      · rw [if_neg c13] at hf
        obtain ⟨hj, hs⟩ := Prod.mk.inj (Option.some.inj hf)
        subst hj
        subst hs
        refine R_weak [none, none, none, none, none, some (.int s.1), none] ⟨Or.inl rfl, Or.inl rfl, Or.inl rfl, Or.inl rfl, Or.inl rfl, Or.inr rfl, Or.inl rfl, trivial⟩ ?_
        exact k1 rfl hW3
set_option maxRecDepth 100000 in
set_option maxHeartbeats 4000000 in
theorem f7_l {d N : Nat} {p1 : Int32} {p2 : Int32} {p3 : Int32} {p4 : Int32} {h : Hp} {Q : Option Value → Hp → Prop} {q : Int32 × Hp} (hf : f7 N p1 p2 p3 p4 h = some q) (hW : WF 0 h) (hd : 7 ≤ d) (kk : WF 0 q.2 → Q (some (.int q.1)) q.2) : R 0 d 7 0 [some (.ref 64), some (.int p1), some (.int p2), some (.int p3), some (.int p4), none, none] [] h Q := by
  obtain ⟨d, rfl⟩ : ∃ z, d = z + 1 := ⟨d - 1, by omega⟩
  unfold f7 at hf
  refine R_aload_n (i := 0) rfl rfl ?_
  refine R_iload_n (i := 1) rfl rfl ?_
  have zq1 := bind_some hf
  clear hf
  obtain ⟨q1, eq1, hf⟩ := zq1
  refine R_callV (vs := [.int p1]) (st' := []) hW (i := 2) rfl rfl rfl (Nat.le_of_ble_eq_true rfl) rfl (Nat.le_of_ble_eq_true rfl) rfl (f19_l eq1 hW (hh rfl hd) (fun hW1 => ?_))
  refine R_iconst (i := 3) rfl ?_
  refine R_istore [some (.ref 64), some (.int p1), some (.int p2), some (.int p3), some (.int p4), some (.int (1 : Int32)), none] (i := 4) rfl rfl ?_
  have zq14 := bind_some hf
  clear hf
  obtain ⟨q14, eq14, hf⟩ := zq14
  refine lp_link (P := fun u5 => WF 0 u5.2 → R 0 (d + 1) 7 5 [some (.ref 64), some (.int p1), some (.int p2), some (.int p3), some (.int p4), some (.int u5.1), none] [] u5.2 Q) (E := fun e u5 => WF 0 u5.2 → ((e = 0 → R 0 (d + 1) 7 53 [none, none, none, none, none, some (.int u5.1), none] [] u5.2 Q) ∧ (e = 1 → R 0 (d + 1) 7 57 [none, none, none, none, none, none, none] [] u5.2 Q))) (fun s j s' hb k0 ke hWs => f7_l5_l hb hWs hd k0 (fun z y => (ke 0 z y).1 rfl) (fun z y => (ke 1 z y).2 rfl)) N ((1 : Int32), q1) q14.1 q14.2 eq14 ?_ hW1
  refine fun hW14 => ⟨fun z => ?_, fun z => ?_⟩
  · rw [if_pos z] at hf
    refine R_iload (i := 53) rfl rfl ?_
    have hz := Option.some.inj hf
    subst hz
    exact R_iret (i := 54) rfl (kk hW14)
  · rw [if_neg (by rw [z]; decide)] at hf
    refine R_iconst (i := 57) rfl ?_
    have hz := Option.some.inj hf
    subst hz
    exact R_iret (i := 58) rfl (kk hW14)
set_option maxRecDepth 100000 in
set_option maxHeartbeats 4000000 in
theorem f111_l {d N : Nat} {p1 : Int32} {p2 : Int32} {p3 : Int32} {p4 : Int32} {h : Hp} {Q : Option Value → Hp → Prop} {q : Int32 × Hp} (hf : f111 N p1 p2 p3 p4 h = some q) (hW : WF 0 h) (hd : 10 ≤ d) (kk : WF 0 q.2 → Q (some (.int q.1)) q.2) : R 0 d 111 0 [some (.ref 0), some (.int p1), some (.int p2), some (.int p3), some (.int p4)] [] h Q := by
  obtain ⟨d, rfl⟩ : ∃ z, d = z + 1 := ⟨d - 1, by omega⟩
  unfold f111 at hf
  refine R_aload_n (i := 0) rfl rfl ?_
  refine R_iload_n (i := 1) rfl rfl ?_
  have zq1 := bind_some hf
  clear hf
  obtain ⟨q1, eq1, hf⟩ := zq1
  refine R_callV (vs := [.int p1]) (st' := []) hW (i := 2) rfl rfl rfl (Nat.le_of_ble_eq_true rfl) rfl (Nat.le_of_ble_eq_true rfl) rfl (f128_l eq1 hW (hh rfl hd) ?_)
  refine R_ifeq (i := 3) rfl (fun c2 => ?_) (fun c2 => ?_)
  · rw [if_pos c2] at hf
    refine R_iconst (i := 15) rfl ?_
    have hz := Option.some.inj hf
    subst hz
    exact R_iret (i := 16) rfl (kk hW)
  · rw [if_neg c2] at hf
    refine R_aload_n (i := 4) rfl rfl ?_
    refine R_getF hW (i := 5) rfl rfl (Nat.le_of_ble_eq_true rfl) rfl ?_
    refine R_getF hW (i := 6) rfl rfl (Nat.le_of_ble_eq_true rfl) rfl ?_
    refine R_iload_n (i := 7) rfl rfl ?_
    have zq3 := bind_some hf
    clear hf
    obtain ⟨q3, eq3, hf⟩ := zq3
    refine R_callV (vs := [.int p2]) (st' := []) hW (i := 8) rfl rfl rfl (Nat.le_of_ble_eq_true rfl) rfl (Nat.le_of_ble_eq_true rfl) rfl (f59_l eq3 hW (hh rfl hd) ?_)
    refine R_ifeq (i := 9) rfl (fun c4 => ?_) (fun c4 => ?_)
    · rw [if_pos c4] at hf
      refine R_iconst (i := 15) rfl ?_
      have hz := Option.some.inj hf
      subst hz
      exact R_iret (i := 16) rfl (kk hW)
    · rw [if_neg c4] at hf
      refine R_iload_n (i := 10) rfl rfl ?_
      refine R_iflt (i := 11) rfl (fun c5 => ?_) (fun c5 => ?_)
      · rw [if_pos c5] at hf
        refine R_iconst (i := 15) rfl ?_
        have hz := Option.some.inj hf
        subst hz
        exact R_iret (i := 16) rfl (kk hW)
      · rw [if_neg c5] at hf
        refine R_iload_n (i := 12) rfl rfl ?_
        refine R_bipush (i := 13) rfl ?_
        refine R_icmple (i := 14) rfl (fun c6 => ?_) (fun c6 => ?_)
        · rw [if_pos c6] at hf
          refine R_iload (i := 17) rfl rfl ?_
          refine R_iconst (i := 18) rfl ?_
          refine R_icmplt (i := 19) rfl (fun c7 => ?_) (fun c7 => ?_)
          · rw [if_pos c7] at hf
            refine R_iconst (i := 23) rfl ?_
            have hz := Option.some.inj hf
            subst hz
            exact R_iret (i := 24) rfl (kk hW)
          · rw [if_neg c7] at hf
            refine R_iload (i := 20) rfl rfl ?_
            refine R_iconst (i := 21) rfl ?_
            refine R_icmple (i := 22) rfl (fun c8 => ?_) (fun c8 => ?_)
            · rw [if_pos c8] at hf
              refine R_aload_n (i := 25) rfl rfl ?_
              refine R_getF hW (i := 26) rfl rfl (Nat.le_of_ble_eq_true rfl) rfl ?_
              refine R_iconst (i := 27) rfl ?_
              refine R_bipush (i := 28) rfl ?_
              have zq9 := bind_some hf
              clear hf
              obtain ⟨q9, eq9, hf⟩ := zq9
              refine R_callV (vs := [.int (0 : Int32), .int (8 : Int32)]) (st' := []) hW (i := 29) rfl rfl rfl (Nat.le_of_ble_eq_true rfl) rfl (Nat.le_of_ble_eq_true rfl) rfl (f4_l eq9 hW (hh rfl hd) (fun hW9 => ?_))
              refine R_aload_n (i := 30) rfl rfl ?_
              refine R_getF hW9 (i := 31) rfl rfl (Nat.le_of_ble_eq_true rfl) rfl ?_
              refine R_iload_n (i := 32) rfl rfl ?_
              refine R_iload_n (i := 33) rfl rfl ?_
              refine R_iload_n (i := 34) rfl rfl ?_
              refine R_iload (i := 35) rfl rfl ?_
              have zq10 := bind_some hf
              clear hf
              obtain ⟨q10, eq10, hf⟩ := zq10
              refine R_callV (vs := [.int p1, .int p2, .int p3, .int p4]) (st' := []) hW9 (i := 36) rfl rfl rfl (Nat.le_of_ble_eq_true rfl) rfl (Nat.le_of_ble_eq_true rfl) rfl (f7_l eq10 hW9 (hh rfl hd) (fun hW10 => ?_))
              have hz := Option.some.inj hf
              subst hz
              exact R_iret (i := 37) rfl (kk hW10)
            · rw [if_neg c8] at hf
              refine R_iconst (i := 23) rfl ?_
              have hz := Option.some.inj hf
              subst hz
              exact R_iret (i := 24) rfl (kk hW)
        · rw [if_neg c6] at hf
          refine R_iconst (i := 15) rfl ?_
          have hz := Option.some.inj hf
          subst hz
          exact R_iret (i := 16) rfl (kk hW)
set_option maxRecDepth 100000 in
set_option maxHeartbeats 4000000 in
theorem f53_35_l {d N : Nat} {p1 : Int32} {h : Hp} {Q : Option Value → Hp → Prop} {q : Int32 × Hp} (hf : f53_35 N p1 h = some q) (hW : WF 0 h) (hd : 5 ≤ d) (kk : WF 0 q.2 → Q (some (.int q.1)) q.2) : R 0 d 53 0 [some (.ref 35), some (.int p1)] [] h Q := by
  unfold f53_35 at hf
  refine R_aload_n (i := 0) rfl rfl ?_
  refine R_getI hW (i := 1) rfl rfl (Nat.le_of_ble_eq_true rfl) ?_
  refine R_aload_n (i := 2) rfl rfl ?_
  refine R_getF hW (i := 3) rfl rfl (Nat.le_of_ble_eq_true rfl) rfl ?_
  refine R_alen (v := 12) hW (i := 4) rfl rfl rfl ?_
  refine R_icmplt (i := 5) rfl (fun c1 => ?_) (fun c1 => ?_)
  · rw [if_pos c1] at hf
    refine R_aload_n (i := 8) rfl rfl ?_
    refine R_getF hW (i := 9) rfl rfl (Nat.le_of_ble_eq_true rfl) rfl ?_
    refine R_aload_n (i := 10) rfl rfl ?_
    refine R_getI hW (i := 11) rfl rfl (Nat.le_of_ble_eq_true rfl) ?_
    refine R_iload_n (i := 12) rfl rfl ?_
    have g2 := gd_some hf
    clear hf
    obtain ⟨g2, hf⟩ := g2
    refine R_iastore hW (i := 13) rfl rfl g2 (hg rfl hd) (fun h3 eh3 => ?_)
    replace hf := bnd_some eh3 hf
    have hW3 : WF 0 h3 := by rw [eh3]; exact hW
    refine R_aload_n (i := 14) rfl rfl ?_
    refine R_dup (i := 15) rfl rfl ?_
    refine R_getI hW3 (i := 16) rfl rfl (Nat.le_of_ble_eq_true rfl) ?_
    refine R_iconst (i := 17) rfl ?_
    refine R_iadd (i := 18) rfl ?_
    refine R_putI hW3 (i := 19) rfl rfl (Nat.le_of_ble_eq_true rfl) (hg rfl hd) (fun h4 eh4 => ?_)
    replace hf := bnd_some eh4 hf
    have hW4 : WF 0 h4 := by rw [eh4]; exact hW3
    refine R_aload_n (i := 20) rfl rfl ?_
    refine R_getI hW4 (i := 21) rfl rfl (Nat.le_of_ble_eq_true rfl) ?_
    have hz := Option.some.inj hf
    subst hz
    exact R_iret (i := 22) rfl (kk hW4)
  · rw [if_neg c1] at hf
    refine R_iconst (i := 6) rfl ?_
    have hz := Option.some.inj hf
    subst hz
    exact R_iret (i := 7) rfl (kk hW)
set_option maxRecDepth 100000 in
set_option maxHeartbeats 4000000 in
theorem f112_b22_l {d N : Nat} {h : Hp} {Q : Option Value → Hp → Prop} {q : Int32 × Hp} (hf : f112_b22 N h = some q) (hW : WF 0 h) (hd : 6 ≤ d) (kk : WF 0 q.2 → Q (some (.int q.1)) q.2) : R 0 d 112 22 [none, none] [] h Q := by
  unfold f112_b22 at hf
  refine R_iconst (i := 22) rfl ?_
  have hz := Option.some.inj hf
  subst hz
  exact R_iret (i := 23) rfl (kk hW)
set_option maxRecDepth 100000 in
set_option maxHeartbeats 4000000 in
theorem f112_l {d N : Nat} {p1 : Int32} {h : Hp} {Q : Option Value → Hp → Prop} {q : Int32 × Hp} (hf : f112 N p1 h = some q) (hW : WF 0 h) (hd : 6 ≤ d) (kk : WF 0 q.2 → Q (some (.int q.1)) q.2) : R 0 d 112 0 [some (.ref 0), some (.int p1)] [] h Q := by
  obtain ⟨d, rfl⟩ : ∃ z, d = z + 1 := ⟨d - 1, by omega⟩
  unfold f112 at hf
  refine R_iload_n (i := 0) rfl rfl ?_
  refine R_iconst (i := 1) rfl ?_
  refine R_icmpne (i := 2) rfl (fun c1 => ?_) (fun c1 => ?_)
  · rw [if_neg c1] at hf
    refine R_iload_n (i := 10) rfl rfl ?_
    refine R_iconst (i := 11) rfl ?_
    refine R_icmplt (i := 12) rfl (fun c2 => ?_) (fun c2 => ?_)
    · rw [if_pos c2] at hf
      refine R_weak [none, none] ⟨Or.inl rfl, Or.inl rfl, trivial⟩ ?_
      exact f112_b22_l hf hW hd kk
    · rw [if_neg c2] at hf
      refine R_iload_n (i := 13) rfl rfl ?_
      refine R_bipush (i := 14) rfl ?_
      refine R_icmpgt (i := 15) rfl (fun c3 => ?_) (fun c3 => ?_)
      · rw [if_pos c3] at hf
        refine R_weak [none, none] ⟨Or.inl rfl, Or.inl rfl, trivial⟩ ?_
        exact f112_b22_l hf hW hd kk
      · rw [if_neg c3] at hf
        refine R_aload_n (i := 16) rfl rfl ?_
        refine R_getF hW (i := 17) rfl rfl (Nat.le_of_ble_eq_true rfl) rfl ?_
        refine R_getF hW (i := 18) rfl rfl (Nat.le_of_ble_eq_true rfl) rfl ?_
        refine R_iload_n (i := 19) rfl rfl ?_
        have zq4 := bind_some hf
        clear hf
        obtain ⟨q4, eq4, hf⟩ := zq4
        refine R_callV (vs := [.int p1]) (st' := []) hW (i := 20) rfl rfl rfl (Nat.le_of_ble_eq_true rfl) rfl (Nat.le_of_ble_eq_true rfl) rfl (f53_35_l eq4 hW (hh rfl hd) (fun hW4 => ?_))
        refine R_goto (i := 21) rfl ?_
        have hz := Option.some.inj hf
        subst hz
        exact R_iret (i := 23) rfl (kk hW4)
  · rw [if_pos c1] at hf
    refine R_aload_n (i := 3) rfl rfl ?_
    refine R_getF hW (i := 4) rfl rfl (Nat.le_of_ble_eq_true rfl) rfl ?_
    refine R_getF hW (i := 5) rfl rfl (Nat.le_of_ble_eq_true rfl) rfl ?_
    refine R_iconst (i := 6) rfl ?_
    refine R_putI hW (i := 7) rfl rfl (Nat.le_of_ble_eq_true rfl) (hg rfl hd) (fun h5 eh5 => ?_)
    replace hf := bnd_some eh5 hf
    have hW5 : WF 0 h5 := by rw [eh5]; exact hW
    refine R_iconst (i := 8) rfl ?_
    have hz := Option.some.inj hf
    subst hz
    exact R_iret (i := 9) rfl (kk hW5)
set_option maxRecDepth 100000 in
set_option maxHeartbeats 4000000 in
theorem f122_b29_l {d N : Nat} {x1 : Int32} {x3 : Int32} {t0 : Int32} {t1 : Int32} {h : Hp} {Q : Option Value → Hp → Prop} {j : Nat} {s' : Int32 × Int32} (hf : f122_b29 N x1 x3 t0 t1 h = some (j, s')) (hW : WF 0 h) (hd : 5 ≤ d) (k0 : j = 0 → R 0 d 122 4 [some (.ref 0), some (.int x1), some (.int s'.1), some (.int s'.2)] [] h Q) (k1 : j = 1 → R 0 d 122 33 [none, none, some (.int s'.1), none] [] h Q) : R 0 d 122 29 [some (.ref 0), some (.int x1), none, some (.int x3)] [.int t0, .int t1] h Q := by
  unfold f122_b29 at hf
  refine R_iadd (i := 29) rfl ?_
  refine R_topi (fun v4 e4 => ?_)
  replace hf := bnd_some e4 hf
  refine R_istore_n [some (.ref 0), some (.int x1), some (.int v4), some (.int x3)] (i := 30) rfl rfl ?_
  obtain ⟨v5, e5⟩ : ∃ z : Int32, z = (x3 + (1 : Int32)) := ⟨_, rfl⟩
  replace hf := bnd_some e5 hf
  refine R_iinc [some (.ref 0), some (.int x1), some (.int v4), some (.int v5)] (i := 31) rfl rfl (by rw [← e5]; rfl) ?_
  refine R_goto (i := 32) rfl ?_
  obtain ⟨hj, hs⟩ := Prod.mk.inj (Option.some.inj hf)
  subst hj
  subst hs
  exact k0 rfl
set_option maxRecDepth 100000 in
set_option maxHeartbeats 4000000 in
theorem f122_l4_l {d N : Nat} {x1 : Int32} {h : Hp} {s : Int32 × Int32} {Q : Option Value → Hp → Prop} {j : Nat} {s' : Int32 × Int32} (hf : f122_l4 N x1 h s = some (j, s')) (hW : WF 0 h) (hd : 5 ≤ d) (k0 : j = 0 → R 0 d 122 4 [some (.ref 0), some (.int x1), some (.int s'.1), some (.int s'.2)] [] h Q) (k1 : j = 1 → R 0 d 122 33 [none, none, some (.int s'.1), none] [] h Q) : R 0 d 122 4 [some (.ref 0), some (.int x1), some (.int s.1), some (.int s.2)] [] h Q := by
  obtain ⟨d, rfl⟩ : ∃ z, d = z + 1 := ⟨d - 1, by omega⟩
  unfold f122_l4 at hf
  refine R_iload_n (i := 4) rfl rfl ?_
  refine R_aload_n (i := 5) rfl rfl ?_
  refine R_getF hW (i := 6) rfl rfl (Nat.le_of_ble_eq_true rfl) rfl ?_
  refine R_getF hW (i := 7) rfl rfl (Nat.le_of_ble_eq_true rfl) rfl ?_
  refine R_getI hW (i := 8) rfl rfl (Nat.le_of_ble_eq_true rfl) ?_
  refine R_icmpge (i := 9) rfl (fun c1 => ?_) (fun c1 => ?_)
  · rw [if_pos c1] at hf
    obtain ⟨hj, hs⟩ := Prod.mk.inj (Option.some.inj hf)
    subst hj
    subst hs
    refine R_weak [none, none, some (.int s.1), none] ⟨Or.inl rfl, Or.inl rfl, Or.inr rfl, Or.inl rfl, trivial⟩ ?_
    exact k1 rfl
  · rw [if_neg c1] at hf
    refine R_iload_n (i := 10) rfl rfl ?_
    refine R_iload_n (i := 11) rfl rfl ?_
    refine R_iload_n (i := 12) rfl rfl ?_
    refine R_call (vs := [.int x1, .int s.2]) (st' := [.int s.1]) (i := 13) rfl (by decide) (by decide) rfl rfl (Nat.le_of_ble_eq_true rfl) rfl (f123_l (hh rfl hd) ?_)
    refine R_ifeq (i := 14) rfl (fun c2 => ?_) (fun c2 => ?_)
    · rw [if_pos c2] at hf
      refine R_aload_n (i := 22) rfl rfl ?_
      refine R_getF hW (i := 23) rfl rfl (Nat.le_of_ble_eq_true rfl) rfl ?_
      refine R_getF hW (i := 24) rfl rfl (Nat.le_of_ble_eq_true rfl) rfl ?_
      refine R_getF hW (i := 25) rfl rfl (Nat.le_of_ble_eq_true rfl) rfl ?_
      refine R_iload_n (i := 26) rfl rfl ?_
      have g3 := gd_some hf
      clear hf
      obtain ⟨g3, hf⟩ := g3
      refine R_iaload hW (i := 27) rfl rfl g3 ?_
      refine R_ineg (i := 28) rfl ?_
      refine R_weak [some (.ref 0), some (.int x1), none, some (.int s.2)] ⟨Or.inr rfl, Or.inr rfl, Or.inl rfl, Or.inr rfl, trivial⟩ ?_
      exact f122_b29_l hf hW hd k0 k1
    · rw [if_neg c2] at hf
      refine R_aload_n (i := 15) rfl rfl ?_
      refine R_getF hW (i := 16) rfl rfl (Nat.le_of_ble_eq_true rfl) rfl ?_
      refine R_getF hW (i := 17) rfl rfl (Nat.le_of_ble_eq_true rfl) rfl ?_
      refine R_getF hW (i := 18) rfl rfl (Nat.le_of_ble_eq_true rfl) rfl ?_
      refine R_iload_n (i := 19) rfl rfl ?_
      have g6 := gd_some hf
      clear hf
      obtain ⟨g6, hf⟩ := g6
      refine R_iaload hW (i := 20) rfl rfl g6 ?_
      refine R_goto (i := 21) rfl ?_
      refine R_weak [some (.ref 0), some (.int x1), none, some (.int s.2)] ⟨Or.inr rfl, Or.inr rfl, Or.inl rfl, Or.inr rfl, trivial⟩ ?_
      exact f122_b29_l hf hW hd k0 k1
set_option maxRecDepth 100000 in
set_option maxHeartbeats 4000000 in
theorem f122_l {d N : Nat} {p1 : Int32} {h : Hp} {Q : Option Value → Hp → Prop} {q : Int32} (hf : f122 N p1 h = some q) (hW : WF 0 h) (hd : 5 ≤ d) (kk : Q (some (.int q)) h) : R 0 d 122 0 [some (.ref 0), some (.int p1), none, none] [] h Q := by
  unfold f122 at hf
  refine R_iconst (i := 0) rfl ?_
  refine R_istore_n [some (.ref 0), some (.int p1), some (.int (0 : Int32)), none] (i := 1) rfl rfl ?_
  refine R_iconst (i := 2) rfl ?_
  refine R_istore_n [some (.ref 0), some (.int p1), some (.int (0 : Int32)), some (.int (0 : Int32))] (i := 3) rfl rfl ?_
  have zq7 := bind_some hf
  clear hf
  obtain ⟨q7, eq7, hf⟩ := zq7
  refine lp_link (P := fun u4 => R 0 d 122 4 [some (.ref 0), some (.int p1), some (.int u4.1), some (.int u4.2)] [] h Q) (E := fun e u4 => R 0 d 122 33 [none, none, some (.int u4.1), none] [] h Q) (fun s j s' hb k0 ke => f122_l4_l hb hW hd k0 (fun z => ke 0 z)) N ((0 : Int32), (0 : Int32)) q7.1 q7.2 eq7 ?_
  refine R_iload_n (i := 33) rfl rfl ?_
  refine R_mabs (i := 34) rfl (hg rfl hd) (Nat.le_of_ble_eq_true rfl) ?_
  have hz := Option.some.inj hf
  subst hz
  exact R_iret (i := 35) rfl kk
set_option maxRecDepth 100000 in
set_option maxHeartbeats 4000000 in
theorem f121_b31_l {d N : Nat} {x1 : Int32} {x2 : Int32} {x3 : Int32} {h : Hp} {Q : Option Value → Hp → Prop} {j : Nat} {s' : Int32 × Int32 × Int32} (hf : f121_b31 N x1 x2 x3 h = some (j, s')) (hW : WF 0 h) (hd : 6 ≤ d) (k0 : j = 0 → R 0 d 121 8 [some (.ref 0), some (.int s'.1), some (.int s'.2.1), some (.int s'.2.2), none] [] h Q) (k1 : j = 1 → R 0 d 121 33 [none, some (.int s'.1), none, none, none] [] h Q) : R 0 d 121 31 [some (.ref 0), some (.int x1), some (.int x2), some (.int x3), none] [] h Q := by
  unfold f121_b31 at hf
  obtain ⟨v5, e5⟩ : ∃ z : Int32, z = (x3 + (1 : Int32)) := ⟨_, rfl⟩
  replace hf := bnd_some e5 hf
  refine R_iinc [some (.ref 0), some (.int x1), some (.int x2), some (.int v5), none] (i := 31) rfl rfl (by rw [← e5]; rfl) ?_
  refine R_goto (i := 32) rfl ?_
  obtain ⟨hj, hs⟩ := Prod.mk.inj (Option.some.inj hf)
  subst hj
  subst hs
  exact k0 rfl
set_option maxRecDepth 100000 in
set_option maxHeartbeats 4000000 in
theorem f121_l8_l {d N : Nat} {h : Hp} {s : Int32 × Int32 × Int32} {Q : Option Value → Hp → Prop} {j : Nat} {s' : Int32 × Int32 × Int32} (hf : f121_l8 N h s = some (j, s')) (hW : WF 0 h) (hd : 6 ≤ d) (k0 : j = 0 → R 0 d 121 8 [some (.ref 0), some (.int s'.1), some (.int s'.2.1), some (.int s'.2.2), none] [] h Q) (k1 : j = 1 → R 0 d 121 33 [none, some (.int s'.1), none, none, none] [] h Q) : R 0 d 121 8 [some (.ref 0), some (.int s.1), some (.int s.2.1), some (.int s.2.2), none] [] h Q := by
  obtain ⟨d, rfl⟩ : ∃ z, d = z + 1 := ⟨d - 1, by omega⟩
  unfold f121_l8 at hf
  refine R_iload_n (i := 8) rfl rfl ?_
  refine R_iconst (i := 9) rfl ?_
  refine R_iconst (i := 10) rfl ?_
  refine R_aload_n (i := 11) rfl rfl ?_
  refine R_getF hW (i := 12) rfl rfl (Nat.le_of_ble_eq_true rfl) rfl ?_
  refine R_getF hW (i := 13) rfl rfl (Nat.le_of_ble_eq_true rfl) rfl ?_
  refine R_getI hW (i := 14) rfl rfl (Nat.le_of_ble_eq_true rfl) ?_
  refine R_iconst (i := 15) rfl ?_
  refine R_isub (i := 16) rfl ?_
  refine R_mmax (i := 17) rfl (hg rfl hd) (Nat.le_of_ble_eq_true rfl) ?_
  refine R_ishl (i := 18) rfl ?_
  refine R_icmpge (i := 19) rfl (fun c2 => ?_) (fun c2 => ?_)
  · rw [if_pos c2] at hf
    obtain ⟨hj, hs⟩ := Prod.mk.inj (Option.some.inj hf)
    subst hj
    subst hs
    refine R_weak [none, some (.int s.1), none, none, none] ⟨Or.inl rfl, Or.inr rfl, Or.inl rfl, Or.inl rfl, Or.inr rfl, trivial⟩ ?_
    exact k1 rfl
  · rw [if_neg c2] at hf
    refine R_aload_n (i := 20) rfl rfl ?_
    refine R_iload_n (i := 21) rfl rfl ?_
    have zq3 := bind_some hf
    clear hf
    obtain ⟨q3, eq3, hf⟩ := zq3
    refine R_callV (vs := [.int s.2.2]) (st' := []) hW (i := 22) rfl rfl rfl (Nat.le_of_ble_eq_true rfl) rfl (Nat.le_of_ble_eq_true rfl) rfl (f122_l eq3 hW (hh rfl hd) ?_)
    refine R_istore [some (.ref 0), some (.int s.1), some (.int s.2.1), some (.int s.2.2), some (.int q3)] (i := 23) rfl rfl ?_
    refine R_iload (i := 24) rfl rfl ?_
    refine R_iload_n (i := 25) rfl rfl ?_
    refine R_icmpge (i := 26) rfl (fun c4 => ?_) (fun c4 => ?_)
    · rw [if_pos c4] at hf
      refine R_weak [some (.ref 0), some (.int s.1), some (.int s.2.1), some (.int s.2.2), none] ⟨Or.inr rfl, Or.inr rfl, Or.inr rfl, Or.inr rfl, Or.inl rfl, trivial⟩ ?_
      exact f121_b31_l hf hW hd k0 k1
    · rw [if_neg c4] at hf
      refine R_iload (i := 27) rfl rfl ?_
      refine R_istore_n [some (.ref 0), some (.int s.1), some (.int q3), some (.int s.2.2), some (.int q3)] (i := 28) rfl rfl ?_
      refine R_iload_n (i := 29) rfl rfl ?_
      refine R_istore_n [some (.ref 0), some (.int s.2.2), some (.int q3), some (.int s.2.2), some (.int q3)] (i := 30) rfl rfl ?_
      refine R_weak [some (.ref 0), some (.int s.2.2), some (.int q3), some (.int s.2.2), none] ⟨Or.inr rfl, Or.inr rfl, Or.inr rfl, Or.inr rfl, Or.inl rfl, trivial⟩ ?_
      exact f121_b31_l hf hW hd k0 k1
set_option maxRecDepth 100000 in
set_option maxHeartbeats 4000000 in
theorem f121_l {d N : Nat} {h : Hp} {Q : Option Value → Hp → Prop} {q : Int32} (hf : f121 N h = some q) (hW : WF 0 h) (hd : 6 ≤ d) (kk : Q (some (.int q)) h) : R 0 d 121 0 [some (.ref 0), none, none, none, none] [] h Q := by
  obtain ⟨d, rfl⟩ : ∃ z, d = z + 1 := ⟨d - 1, by omega⟩
  unfold f121 at hf
  refine R_iconst (i := 0) rfl ?_
  refine R_istore_n [some (.ref 0), some (.int (0 : Int32)), none, none, none] (i := 1) rfl rfl ?_
  refine R_aload_n (i := 2) rfl rfl ?_
  refine R_iconst (i := 3) rfl ?_
  have zq1 := bind_some hf
  clear hf
  obtain ⟨q1, eq1, hf⟩ := zq1
  refine R_callV (vs := [.int (0 : Int32)]) (st' := []) hW (i := 4) rfl rfl rfl (Nat.le_of_ble_eq_true rfl) rfl (Nat.le_of_ble_eq_true rfl) rfl (f122_l eq1 hW (hh rfl hd) ?_)
  refine R_istore_n [some (.ref 0), some (.int (0 : Int32)), some (.int q1), none, none] (i := 5) rfl rfl ?_
  refine R_iconst (i := 6) rfl ?_
  refine R_istore_n [some (.ref 0), some (.int (0 : Int32)), some (.int q1), some (.int (1 : Int32)), none] (i := 7) rfl rfl ?_
  have zq6 := bind_some hf
  clear hf
  obtain ⟨q6, eq6, hf⟩ := zq6
  refine lp_link (P := fun u8 => R 0 (d + 1) 121 8 [some (.ref 0), some (.int u8.1), some (.int u8.2.1), some (.int u8.2.2), none] [] h Q) (E := fun e u8 => R 0 (d + 1) 121 33 [none, some (.int u8.1), none, none, none] [] h Q) (fun s j s' hb k0 ke => f121_l8_l hb hW hd k0 (fun z => ke 0 z)) N ((0 : Int32), q1, (1 : Int32)) q6.1 q6.2 eq6 ?_
  refine R_iload_n (i := 33) rfl rfl ?_
  have hz := Option.some.inj hf
  subst hz
  exact R_iret (i := 34) rfl kk
set_option maxRecDepth 100000 in
set_option maxHeartbeats 4000000 in
theorem f113_b7_l {d N : Nat} {x1 : Int32} {h : Hp} {Q : Option Value → Hp → Prop} {q : Int32} (hf : f113_b7 N x1 h = some q) (hW : WF 0 h) (hd : 7 ≤ d) (kk : Q (some (.int q)) h) : R 0 d 113 7 [some (.ref 0), some (.int x1), none] [] h Q := by
  obtain ⟨d, rfl⟩ : ∃ z, d = z + 1 := ⟨d - 1, by omega⟩
  unfold f113_b7 at hf
  refine R_aload_n (i := 7) rfl rfl ?_
  have zq2 := bind_some hf
  clear hf
  obtain ⟨q2, eq2, hf⟩ := zq2
  refine R_callV (vs := []) (st' := []) hW (i := 8) rfl rfl rfl (Nat.le_of_ble_eq_true rfl) rfl (Nat.le_of_ble_eq_true rfl) rfl (f121_l eq2 hW (hh rfl hd) ?_)
  refine R_istore_n [some (.ref 0), some (.int x1), some (.int q2)] (i := 9) rfl rfl ?_
  refine R_iload_n (i := 10) rfl rfl ?_
  refine R_ifne (i := 11) rfl (fun c3 => ?_) (fun c3 => ?_)
  · rw [if_neg c3] at hf
    refine R_aload_n (i := 14) rfl rfl ?_
    refine R_iload_n (i := 15) rfl rfl ?_
    have zq4 := bind_some hf
    clear hf
    obtain ⟨q4, eq4, hf⟩ := zq4
    refine R_callV (vs := [.int q2]) (st' := []) hW (i := 16) rfl rfl rfl (Nat.le_of_ble_eq_true rfl) rfl (Nat.le_of_ble_eq_true rfl) rfl (f122_l eq4 hW (hh rfl hd) ?_)
    have hz := Option.some.inj hf
    subst hz
    exact R_iret (i := 17) rfl kk
  · rw [if_pos c3] at hf
    refine R_iload_n (i := 12) rfl rfl ?_
    refine R_goto (i := 13) rfl ?_
    have hz := Option.some.inj hf
    subst hz
    exact R_iret (i := 17) rfl kk
set_option maxRecDepth 100000 in
set_option maxHeartbeats 4000000 in
theorem f113_l {d N : Nat} {p1 : Int32} {h : Hp} {Q : Option Value → Hp → Prop} {q : Int32} (hf : f113 N p1 h = some q) (hW : WF 0 h) (hd : 7 ≤ d) (kk : Q (some (.int q)) h) : R 0 d 113 0 [some (.ref 0), some (.int p1), none] [] h Q := by
  unfold f113 at hf
  refine R_iload_n (i := 0) rfl rfl ?_
  refine R_ifeq (i := 1) rfl (fun c1 => ?_) (fun c1 => ?_)
  · rw [if_pos c1] at hf
    exact f113_b7_l hf hW hd kk
  · rw [if_neg c1] at hf
    refine R_iload_n (i := 2) rfl rfl ?_
    refine R_iconst (i := 3) rfl ?_
    refine R_icmpeq (i := 4) rfl (fun c5 => ?_) (fun c5 => ?_)
    · rw [if_pos c5] at hf
      exact f113_b7_l hf hW hd kk
    · rw [if_neg c5] at hf
      refine R_iconst (i := 5) rfl ?_
      have hz := Option.some.inj hf
      subst hz
      exact R_iret (i := 6) rfl kk
set_option maxRecDepth 100000 in
set_option maxHeartbeats 4000000 in
theorem f27_b33_l {d N : Nat} {x1 : Int32} {t0 : Int32} {t1 : Int32} {h : Hp} {Q : Option Value → Hp → Prop} {q : Int32 × Hp} (hf : f27_b33 N x1 t0 t1 h = some q) (hW : WF 0 h) (hd : 5 ≤ d) (kk : WF 0 q.2 → Q (some (.int q.1)) q.2) : R 0 d 27 33 [some (.ref 37), some (.int x1), none, none] [.int t0, .int t1, .ref 40] h Q := by
  unfold f27_b33 at hf
  have g8 := gd_some hf
  clear hf
  obtain ⟨g8, hf⟩ := g8
  refine R_iastore hW (i := 33) rfl rfl g8 (hg rfl hd) (fun h9 eh9 => ?_)
  replace hf := bnd_some eh9 hf
  have hW9 : WF 0 h9 := by rw [eh9]; exact hW
  refine R_aload_n (i := 34) rfl rfl ?_
  refine R_dup (i := 35) rfl rfl ?_
  refine R_getI hW9 (i := 36) rfl rfl (Nat.le_of_ble_eq_true rfl) ?_
  refine R_iconst (i := 37) rfl ?_
  refine R_iadd (i := 38) rfl ?_
  refine R_putI hW9 (i := 39) rfl rfl (Nat.le_of_ble_eq_true rfl) (hg rfl hd) (fun h10 eh10 => ?_)
  replace hf := bnd_some eh10 hf
  have hW10 : WF 0 h10 := by rw [eh10]; exact hW9
  refine R_aload_n (i := 40) rfl rfl ?_
  refine R_dup (i := 41) rfl rfl ?_
  refine R_getI hW10 (i := 42) rfl rfl (Nat.le_of_ble_eq_true rfl) ?_
  refine R_iconst (i := 43) rfl ?_
  refine R_iload_n (i := 44) rfl rfl ?_
  refine R_ishl (i := 45) rfl ?_
  refine R_ixor (i := 46) rfl ?_
  refine R_putI hW10 (i := 47) rfl rfl (Nat.le_of_ble_eq_true rfl) (hg rfl hd) (fun h11 eh11 => ?_)
  replace hf := bnd_some eh11 hf
  have hW11 : WF 0 h11 := by rw [eh11]; exact hW10
  refine R_aload_n (i := 48) rfl rfl ?_
  refine R_getI hW11 (i := 49) rfl rfl (Nat.le_of_ble_eq_true rfl) ?_
  have hz := Option.some.inj hf
  subst hz
  exact R_iret (i := 50) rfl (kk hW11)
set_option maxRecDepth 100000 in
set_option maxHeartbeats 4000000 in
theorem f27_l {d N : Nat} {p1 : Int32} {p2 : Int32} {p3 : Int32} {h : Hp} {Q : Option Value → Hp → Prop} {q : Int32 × Hp} (hf : f27 N p1 p2 p3 h = some q) (hW : WF 0 h) (hd : 5 ≤ d) (kk : WF 0 q.2 → Q (some (.int q.1)) q.2) : R 0 d 27 0 [some (.ref 37), some (.int p1), some (.int p2), some (.int p3)] [] h Q := by
  obtain ⟨d, rfl⟩ : ∃ z, d = z + 1 := ⟨d - 1, by omega⟩
  unfold f27 at hf
  refine R_aload_n (i := 0) rfl rfl ?_
  refine R_getI hW (i := 1) rfl rfl (Nat.le_of_ble_eq_true rfl) ?_
  refine R_bipush (i := 2) rfl ?_
  refine R_icmpge (i := 3) rfl (fun c1 => ?_) (fun c1 => ?_)
  · rw [if_pos c1] at hf
    refine R_iconst (i := 10) rfl ?_
    have hz := Option.some.inj hf
    subst hz
    exact R_iret (i := 11) rfl (kk hW)
  · rw [if_neg c1] at hf
    refine R_aload_n (i := 4) rfl rfl ?_
    refine R_getI hW (i := 5) rfl rfl (Nat.le_of_ble_eq_true rfl) ?_
    refine R_iload_n (i := 6) rfl rfl ?_
    refine R_call (vs := [.int (hI h 37 4), .int p1]) (st' := []) (i := 7) rfl (by decide) (by decide) rfl rfl (Nat.le_of_ble_eq_true rfl) rfl (f123_l (hh rfl hd) ?_)
    refine R_iload_n (i := 8) rfl rfl ?_
    refine R_icmpne (i := 9) rfl (fun c2 => ?_) (fun c2 => ?_)
    · rw [if_neg c2] at hf
      refine R_aload_n (i := 12) rfl rfl ?_
      refine R_getF hW (i := 13) rfl rfl (Nat.le_of_ble_eq_true rfl) rfl ?_
      refine R_aload_n (i := 14) rfl rfl ?_
      refine R_getI hW (i := 15) rfl rfl (Nat.le_of_ble_eq_true rfl) ?_
      refine R_iload_n (i := 16) rfl rfl ?_
      have g3 := gd_some hf
      clear hf
      obtain ⟨g3, hf⟩ := g3
      refine R_iastore hW (i := 17) rfl rfl g3 (hg rfl hd) (fun h4 eh4 => ?_)
      replace hf := bnd_some eh4 hf
      have hW4 : WF 0 h4 := by rw [eh4]; exact hW
      refine R_aload_n (i := 18) rfl rfl ?_
      refine R_getF hW4 (i := 19) rfl rfl (Nat.le_of_ble_eq_true rfl) rfl ?_
      refine R_aload_n (i := 20) rfl rfl ?_
      refine R_getI hW4 (i := 21) rfl rfl (Nat.le_of_ble_eq_true rfl) ?_
      refine R_iload_n (i := 22) rfl rfl ?_
      have g5 := gd_some hf
      clear hf
      obtain ⟨g5, hf⟩ := g5
      refine R_iastore hW4 (i := 23) rfl rfl g5 (hg rfl hd) (fun h6 eh6 => ?_)
      replace hf := bnd_some eh6 hf
      have hW6 : WF 0 h6 := by rw [eh6]; exact hW4
      refine R_aload_n (i := 24) rfl rfl ?_
      refine R_getF hW6 (i := 25) rfl rfl (Nat.le_of_ble_eq_true rfl) rfl ?_
      refine R_aload_n (i := 26) rfl rfl ?_
      refine R_getI hW6 (i := 27) rfl rfl (Nat.le_of_ble_eq_true rfl) ?_
      refine R_iload_n (i := 28) rfl rfl ?_
      refine R_ifeq (i := 29) rfl (fun c7 => ?_) (fun c7 => ?_)
      · rw [if_pos c7] at hf
        refine R_iconst (i := 32) rfl ?_
        refine R_weak [some (.ref 37), some (.int p1), none, none] ⟨Or.inr rfl, Or.inr rfl, Or.inl rfl, Or.inl rfl, trivial⟩ ?_
        exact f27_b33_l hf hW6 hd kk
      · rw [if_neg c7] at hf
        refine R_iconst (i := 30) rfl ?_
        refine R_goto (i := 31) rfl ?_
        refine R_weak [some (.ref 37), some (.int p1), none, none] ⟨Or.inr rfl, Or.inr rfl, Or.inl rfl, Or.inl rfl, trivial⟩ ?_
        exact f27_b33_l hf hW6 hd kk
    · rw [if_pos c2] at hf
      refine R_iconst (i := 10) rfl ?_
      have hz := Option.some.inj hf
      subst hz
      exact R_iret (i := 11) rfl (kk hW)
set_option maxRecDepth 100000 in
set_option maxHeartbeats 4000000 in
theorem f114_l {d N : Nat} {p1 : Int32} {p2 : Int32} {h : Hp} {Q : Option Value → Hp → Prop} {q : Int32 × Hp} (hf : f114 N p1 p2 h = some q) (hW : WF 0 h) (hd : 6 ≤ d) (kk : WF 0 q.2 → Q (some (.int q.1)) q.2) : R 0 d 114 0 [some (.ref 0), some (.int p1), some (.int p2), none] [] h Q := by
  obtain ⟨d, rfl⟩ : ∃ z, d = z + 1 := ⟨d - 1, by omega⟩
  unfold f114 at hf
  refine R_aload_n (i := 0) rfl rfl ?_
  refine R_getF hW (i := 1) rfl rfl (Nat.le_of_ble_eq_true rfl) rfl ?_
  refine R_getF hW (i := 2) rfl rfl (Nat.le_of_ble_eq_true rfl) rfl ?_
  refine R_getI hW (i := 3) rfl rfl (Nat.le_of_ble_eq_true rfl) ?_
  refine R_ifeq (i := 4) rfl (fun c1 => ?_) (fun c1 => ?_)
  · rw [if_pos c1] at hf
    refine R_iconst (i := 10) rfl ?_
    have hz := Option.some.inj hf
    subst hz
    exact R_iret (i := 11) rfl (kk hW)
  · rw [if_neg c1] at hf
    refine R_iload_n (i := 5) rfl rfl ?_
    refine R_iflt (i := 6) rfl (fun c2 => ?_) (fun c2 => ?_)
    · rw [if_pos c2] at hf
      refine R_iconst (i := 10) rfl ?_
      have hz := Option.some.inj hf
      subst hz
      exact R_iret (i := 11) rfl (kk hW)
    · rw [if_neg c2] at hf
      refine R_iload_n (i := 7) rfl rfl ?_
      refine R_bipush (i := 8) rfl ?_
      refine R_icmplt (i := 9) rfl (fun c3 => ?_) (fun c3 => ?_)
      · rw [if_pos c3] at hf
        refine R_aload_n (i := 12) rfl rfl ?_
        refine R_getF hW (i := 13) rfl rfl (Nat.le_of_ble_eq_true rfl) rfl ?_
        refine R_getF hW (i := 14) rfl rfl (Nat.le_of_ble_eq_true rfl) rfl ?_
        refine R_iload_n (i := 15) rfl rfl ?_
        refine R_iload_n (i := 16) rfl rfl ?_
        refine R_aload_n (i := 17) rfl rfl ?_
        refine R_getF hW (i := 18) rfl rfl (Nat.le_of_ble_eq_true rfl) rfl ?_
        refine R_getF hW (i := 19) rfl rfl (Nat.le_of_ble_eq_true rfl) rfl ?_
        refine R_getI hW (i := 20) rfl rfl (Nat.le_of_ble_eq_true rfl) ?_
        have zq4 := bind_some hf
        clear hf
        obtain ⟨q4, eq4, hf⟩ := zq4
        refine R_callV (vs := [.int p1, .int p2, .int (hI h 28 5)]) (st' := []) hW (i := 21) rfl rfl rfl (Nat.le_of_ble_eq_true rfl) rfl (Nat.le_of_ble_eq_true rfl) rfl (f27_l eq4 hW (hh rfl hd) (fun hW4 => ?_))
        refine R_istore_n [some (.ref 0), some (.int p1), some (.int p2), some (.int q4.1)] (i := 22) rfl rfl ?_
        refine R_iload_n (i := 23) rfl rfl ?_
        refine R_iconst (i := 24) rfl ?_
        refine R_icmpeq (i := 25) rfl (fun c5 => ?_) (fun c5 => ?_)
        · rw [if_pos c5] at hf
          refine R_iload_n (i := 31) rfl rfl ?_
          have hz := Option.some.inj hf
          subst hz
          exact R_iret (i := 32) rfl (kk hW4)
        · rw [if_neg c5] at hf
          refine R_aload_n (i := 26) rfl rfl ?_
          refine R_getF hW4 (i := 27) rfl rfl (Nat.le_of_ble_eq_true rfl) rfl ?_
          refine R_getF hW4 (i := 28) rfl rfl (Nat.le_of_ble_eq_true rfl) rfl ?_
          refine R_iconst (i := 29) rfl ?_
          refine R_putI hW4 (i := 30) rfl rfl (Nat.le_of_ble_eq_true rfl) (hg rfl hd) (fun h6 eh6 => ?_)
          replace hf := bnd_some eh6 hf
          have hW6 : WF 0 h6 := by rw [eh6]; exact hW4
          refine R_iload_n (i := 31) rfl rfl ?_
          have hz := Option.some.inj hf
          subst hz
          exact R_iret (i := 32) rfl (kk hW6)
      · rw [if_neg c3] at hf
        refine R_iconst (i := 10) rfl ?_
        have hz := Option.some.inj hf
        subst hz
        exact R_iret (i := 11) rfl (kk hW)
