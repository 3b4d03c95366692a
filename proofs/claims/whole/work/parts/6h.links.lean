set_option maxRecDepth 100000 in
set_option maxHeartbeats 4000000 in
theorem f210_l21_l {d N : Nat} {x2 : Int32} {x3 : Int32} {s : Int32 × Hp} {Q : Option Value → Hp → Prop} {j : Nat} {s' : Int32 × Hp} (hf : f210_l21 N x2 x3 s = some (j, s')) (hW : WF 1 s.2) (hd : 10 ≤ d) (k0 : j = 0 → WF 1 s'.2 → R 1 d 210 21 [some (.ref 0), none, some (.int x2), some (.int x3), some (.int s'.1), none] [] s'.2 Q) (k1 : j = 1 → WF 1 s'.2 → R 1 d 210 28 [some (.ref 0), none, none, some (.int x3), none, none] [] s'.2 Q) : R 1 d 210 21 [some (.ref 0), none, some (.int x2), some (.int x3), some (.int s.1), none] [] s.2 Q := by
  obtain ⟨d, rfl⟩ : ∃ z, d = z + 1 := ⟨d - 1, by omega⟩
  unfold f210_l21 at hf
  refine R_iload (i := 21) rfl rfl ?_
  refine R_iload_n (i := 22) rfl rfl ?_
  refine R_icmpge (i := 23) rfl (fun c6 => ?_) (fun c6 => ?_)
  · rw [if_pos c6] at hf
    obtain ⟨hj, hs⟩ := Prod.mk.inj (Option.some.inj hf)
    subst hj
    subst hs
    refine R_weak [some (.ref 0), none, none, some (.int x3), none, none] ⟨Or.inr rfl, Or.inr rfl, Or.inl rfl, Or.inr rfl, Or.inl rfl, Or.inr rfl, trivial⟩ ?_
    exact k1 rfl hW
  · rw [if_neg c6] at hf
    refine R_aload_n (i := 24) rfl rfl ?_
    have zq7 := bind_some hf
    clear hf
    obtain ⟨q7, eq7, hf⟩ := zq7
    refine R_callV (vs := []) (st' := []) hW (i := 25) rfl rfl rfl (Nat.le_of_ble_eq_true rfl) rfl (Nat.le_of_ble_eq_true rfl) rfl (f208_l eq7 hW (hh rfl hd) (fun hW7 => ?_))
    obtain ⟨v8, e8⟩ : ∃ z : Int32, z = (s.1 + (1 : Int32)) := ⟨_, rfl⟩
    replace hf := bnd_some e8 hf
    refine R_iinc [some (.ref 0), none, some (.int x2), some (.int x3), some (.int v8), none] (i := 26) rfl rfl (by rw [← e8]; rfl) ?_
    refine R_goto (i := 27) rfl ?_
    obtain ⟨hj, hs⟩ := Prod.mk.inj (Option.some.inj hf)
    subst hj
    subst hs
    exact k0 rfl hW7
set_option maxRecDepth 100000 in
set_option maxHeartbeats 4000000 in
theorem f210_b51_l {d N : Nat} {x3 : Int32} {x4 : Int32} {x5 : Int32} {h : Hp} {Q : Option Value → Hp → Prop} {j : Nat} {s' : Int32 × Int32} (hf : f210_b51 N x3 x4 x5 h = some (j, s')) (hW : WF 1 h) (hd : 10 ≤ d) (k0 : j = 0 → R 1 d 210 32 [some (.ref 0), none, none, some (.int x3), some (.int s'.1), some (.int s'.2)] [] h Q) (k1 : j = 1 → R 1 d 210 53 [none, none, none, none, some (.int s'.1), none] [] h Q) : R 1 d 210 51 [some (.ref 0), none, none, some (.int x3), some (.int x4), some (.int x5)] [] h Q := by
  unfold f210_b51 at hf
  obtain ⟨v13, e13⟩ : ∃ z : Int32, z = (x5 + (1 : Int32)) := ⟨_, rfl⟩
  replace hf := bnd_some e13 hf
  refine R_iinc [some (.ref 0), none, none, some (.int x3), some (.int x4), some (.int v13)] (i := 51) rfl rfl (by rw [← e13]; rfl) ?_
  refine R_goto (i := 52) rfl ?_
  obtain ⟨hj, hs⟩ := Prod.mk.inj (Option.some.inj hf)
  subst hj
  subst hs
  exact k0 rfl
set_option maxRecDepth 100000 in
set_option maxHeartbeats 4000000 in
theorem f210_l32_l {d N : Nat} {x3 : Int32} {h : Hp} {s : Int32 × Int32} {Q : Option Value → Hp → Prop} {j : Nat} {s' : Int32 × Int32} (hf : f210_l32 N x3 h s = some (j, s')) (hW : WF 1 h) (hd : 10 ≤ d) (k0 : j = 0 → R 1 d 210 32 [some (.ref 0), none, none, some (.int x3), some (.int s'.1), some (.int s'.2)] [] h Q) (k1 : j = 1 → R 1 d 210 53 [none, none, none, none, some (.int s'.1), none] [] h Q) : R 1 d 210 32 [some (.ref 0), none, none, some (.int x3), some (.int s.1), some (.int s.2)] [] h Q := by
  obtain ⟨d, rfl⟩ : ∃ z, d = z + 1 := ⟨d - 1, by omega⟩
  unfold f210_l32 at hf
  refine R_iload (i := 32) rfl rfl ?_
  refine R_sipush (i := 33) rfl ?_
  refine R_icmpge (i := 34) rfl (fun c10 => ?_) (fun c10 => ?_)
  · rw [if_pos c10] at hf
    obtain ⟨hj, hs⟩ := Prod.mk.inj (Option.some.inj hf)
    subst hj
    subst hs
    refine R_weak [none, none, none, none, some (.int s.1), none] ⟨Or.inl rfl, Or.inr rfl, Or.inr rfl, Or.inl rfl, Or.inr rfl, Or.inl rfl, trivial⟩ ?_
    exact k1 rfl
  · rw [if_neg c10] at hf
    refine R_aload_n (i := 35) rfl rfl ?_
    refine R_getF hW (i := 36) rfl rfl (Nat.le_of_ble_eq_true rfl) rfl ?_
    refine R_iload (i := 37) rfl rfl ?_
    have g11 := gd_some hf
    clear hf
    obtain ⟨g11, hf⟩ := g11
    refine R_zaload hW (i := 38) rfl rfl g11 ?_
    refine R_ifeq (i := 39) rfl (fun c12 => ?_) (fun c12 => ?_)
    · rw [if_pos c12] at hf
      exact f210_b51_l hf hW hd k0 k1
    · rw [if_neg c12] at hf
      refine R_iload (i := 40) rfl rfl ?_
      refine R_call (vs := [.int s.2]) (st' := []) (i := 41) rfl (by decide) (by decide) rfl rfl (Nat.le_of_ble_eq_true rfl) rfl (f144_l (hh rfl hd) ?_)
      refine R_iload_n (i := 42) rfl rfl ?_
      refine R_icmpne (i := 43) rfl (fun c14 => ?_) (fun c14 => ?_)
      · rw [if_neg c14] at hf
        exact f210_b51_l hf hW hd k0 k1
      · rw [if_pos c14] at hf
        refine R_iload (i := 44) rfl rfl ?_
        refine R_iconst (i := 45) rfl ?_
        refine R_iload (i := 46) rfl rfl ?_
        refine R_call (vs := [.int s.2]) (st' := [.int (1 : Int32), .int s.1]) (i := 47) rfl (by decide) (by decide) rfl rfl (Nat.le_of_ble_eq_true rfl) rfl (f145_l (hh rfl hd) ?_)
        refine R_ishl (i := 48) rfl ?_
        refine R_ior (i := 49) rfl ?_
        refine R_topi (fun v15 e15 => ?_)
        replace hf := bnd_some e15 hf
        refine R_istore [some (.ref 0), none, none, some (.int x3), some (.int v15), some (.int s.2)] (i := 50) rfl rfl ?_
        exact f210_b51_l hf hW hd k0 k1
set_option maxRecDepth 100000 in
set_option maxHeartbeats 4000000 in
theorem f210_l {d N : Nat} {p1 : Int32} {p2 : Int32} {p3 : Int32} {h : Hp} {Q : Option Value → Hp → Prop} {q : Int32 × Hp} (hf : f210 N p1 p2 p3 h = some q) (hW : WF 1 h) (hd : 10 ≤ d) (kk : WF 1 q.2 → Q (some (.int q.1)) q.2) : R 1 d 210 0 [some (.ref 0), some (.int p1), some (.int p2), some (.int p3), none, none] [] h Q := by
  obtain ⟨d, rfl⟩ : ∃ z, d = z + 1 := ⟨d - 1, by omega⟩
  unfold f210 at hf
  refine R_aload_n (i := 0) rfl rfl ?_
  refine R_iload_n (i := 1) rfl rfl ?_
  have zq1 := bind_some hf
  clear hf
  obtain ⟨q1, eq1, hf⟩ := zq1
  refine R_callV (vs := [.int p1]) (st' := []) hW (i := 2) rfl rfl rfl (Nat.le_of_ble_eq_true rfl) rfl (Nat.le_of_ble_eq_true rfl) rfl (f148_l eq1 hW (hh rfl hd) ?_)
  refine R_ifeq (i := 3) rfl (fun c2 => ?_) (fun c2 => ?_)
  · rw [if_pos c2] at hf
    refine R_iconst (i := 14) rfl ?_
    have hz := Option.some.inj hf
    subst hz
    exact R_iret (i := 15) rfl (kk hW)
  · rw [if_neg c2] at hf
    refine R_iload_n (i := 4) rfl rfl ?_
    refine R_iconst (i := 5) rfl ?_
    refine R_bipush (i := 6) rfl ?_
    refine R_call (vs := [.int p2, .int (0 : Int32), .int (24 : Int32)]) (st' := []) (i := 7) rfl (by decide) (by decide) rfl rfl (Nat.le_of_ble_eq_true rfl) rfl (f139_l (hh rfl hd) ?_)
    refine R_ifeq (i := 8) rfl (fun c3 => ?_) (fun c3 => ?_)
    · rw [if_pos c3] at hf
      refine R_iconst (i := 14) rfl ?_
      have hz := Option.some.inj hf
      subst hz
      exact R_iret (i := 15) rfl (kk hW)
    · rw [if_neg c3] at hf
      refine R_iload_n (i := 9) rfl rfl ?_
      refine R_iconst (i := 10) rfl ?_
      refine R_iconst (i := 11) rfl ?_
      refine R_call (vs := [.int p3, .int (0 : Int32), .int (2 : Int32)]) (st' := []) (i := 12) rfl (by decide) (by decide) rfl rfl (Nat.le_of_ble_eq_true rfl) rfl (f139_l (hh rfl hd) ?_)
      refine R_ifne (i := 13) rfl (fun c4 => ?_) (fun c4 => ?_)
      · rw [if_neg c4] at hf
        refine R_aload_n (i := 16) rfl rfl ?_
        refine R_iload_n (i := 17) rfl rfl ?_
        have zq5 := bind_some hf
        clear hf
        obtain ⟨q5, eq5, hf⟩ := zq5
        refine R_callV (vs := [.int p1]) (st' := []) hW (i := 18) rfl rfl rfl (Nat.le_of_ble_eq_true rfl) rfl (Nat.le_of_ble_eq_true rfl) rfl (f207_l eq5 hW (hh rfl hd) (fun hW5 => ?_))
        refine R_iconst (i := 19) rfl ?_
        refine R_istore [some (.ref 0), some (.int p1), some (.int p2), some (.int p3), some (.int (0 : Int32)), none] (i := 20) rfl rfl ?_
        refine R_weak [some (.ref 0), none, some (.int p2), some (.int p3), some (.int (0 : Int32)), none] ⟨Or.inr rfl, Or.inl rfl, Or.inr rfl, Or.inr rfl, Or.inr rfl, Or.inr rfl, trivial⟩ ?_
        have zq9 := bind_some hf
        clear hf
        obtain ⟨q9, eq9, hf⟩ := zq9
        refine lp_link (P := fun u21 => WF 1 u21.2 → R 1 (d + 1) 210 21 [some (.ref 0), none, some (.int p2), some (.int p3), some (.int u21.1), none] [] u21.2 Q) (E := fun e u21 => WF 1 u21.2 → R 1 (d + 1) 210 28 [some (.ref 0), none, none, some (.int p3), none, none] [] u21.2 Q) (fun s j s' hb k0 ke hWs => f210_l21_l hb hWs hd k0 (fun z y => ke 0 z y)) N ((0 : Int32), q5) q9.1 q9.2 eq9 ?_ hW5
        intro hW9
        refine R_iconst (i := 28) rfl ?_
        refine R_istore [some (.ref 0), none, none, some (.int p3), some (.int (0 : Int32)), none] (i := 29) rfl rfl ?_
        refine R_iconst (i := 30) rfl ?_
        refine R_istore [some (.ref 0), none, none, some (.int p3), some (.int (0 : Int32)), some (.int (0 : Int32))] (i := 31) rfl rfl ?_
        have zq16 := bind_some hf
        clear hf
        obtain ⟨q16, eq16, hf⟩ := zq16
        refine lp_link (P := fun u32 => R 1 (d + 1) 210 32 [some (.ref 0), none, none, some (.int p3), some (.int u32.1), some (.int u32.2)] [] q9.2.2 Q) (E := fun e u32 => R 1 (d + 1) 210 53 [none, none, none, none, some (.int u32.1), none] [] q9.2.2 Q) (fun s j s' hb k0 ke => f210_l32_l hb hW9 hd k0 (fun z => ke 0 z)) N ((0 : Int32), (0 : Int32)) q16.1 q16.2 eq16 ?_
        refine R_iload (i := 53) rfl rfl ?_
        have hz := Option.some.inj hf
        subst hz
        exact R_iret (i := 54) rfl (kk hW9)
      · rw [if_pos c4] at hf
        refine R_iconst (i := 14) rfl ?_
        have hz := Option.some.inj hf
        subst hz
        exact R_iret (i := 15) rfl (kk hW)
set_option maxRecDepth 100000 in
set_option maxHeartbeats 4000000 in
theorem f211_b32_l {d N : Nat} {x1 : Int32} {x2 : Int32} {x3 : Int32} {h : Hp} {Q : Option Value → Hp → Prop} {j : Nat} {s' : Int32} (hf : f211_b32 N x1 x2 x3 h = some (j, s')) (hW : WF 1 h) (hd : 2 ≤ d) (k0 : j = 0 → R 1 d 211 2 [some (.ref 0), some (.int x1), some (.int x2), some (.int s'), none] [] h Q) (k1 : j = 1 → R 1 d 211 30 [none, none, none, none, none] [] h Q) (k2 : j = 2 → R 1 d 211 34 [none, none, none, none, none] [] h Q) : R 1 d 211 32 [some (.ref 0), some (.int x1), some (.int x2), some (.int x3), none] [] h Q := by
  unfold f211_b32 at hf
  obtain ⟨v8, e8⟩ : ∃ z : Int32, z = (x3 + (1 : Int32)) := ⟨_, rfl⟩
  replace hf := bnd_some e8 hf
  refine R_iinc [some (.ref 0), some (.int x1), some (.int x2), some (.int v8), none] (i := 32) rfl rfl (by rw [← e8]; rfl) ?_
  refine R_goto (i := 33) rfl ?_
  obtain ⟨hj, hs⟩ := Prod.mk.inj (Option.some.inj hf)
  subst hj
  subst hs
  exact k0 rfl
set_option maxRecDepth 100000 in
set_option maxHeartbeats 4000000 in
theorem f211_l2_l {d N : Nat} {x1 : Int32} {x2 : Int32} {h : Hp} {s : Int32} {Q : Option Value → Hp → Prop} {j : Nat} {s' : Int32} (hf : f211_l2 N x1 x2 h s = some (j, s')) (hW : WF 1 h) (hd : 2 ≤ d) (k0 : j = 0 → R 1 d 211 2 [some (.ref 0), some (.int x1), some (.int x2), some (.int s'), none] [] h Q) (k1 : j = 1 → R 1 d 211 30 [none, none, none, none, none] [] h Q) (k2 : j = 2 → R 1 d 211 34 [none, none, none, none, none] [] h Q) : R 1 d 211 2 [some (.ref 0), some (.int x1), some (.int x2), some (.int s), none] [] h Q := by
  obtain ⟨d, rfl⟩ : ∃ z, d = z + 1 := ⟨d - 1, by omega⟩
  unfold f211_l2 at hf
  refine R_iload_n (i := 2) rfl rfl ?_
  refine R_iconst (i := 3) rfl ?_
  refine R_icmpge (i := 4) rfl (fun c1 => ?_) (fun c1 => ?_)
  · rw [if_pos c1] at hf
    obtain ⟨hj, hs⟩ := Prod.mk.inj (Option.some.inj hf)
    subst hj
    subst hs
    refine R_weak [none, none, none, none, none] ⟨Or.inl rfl, Or.inl rfl, Or.inl rfl, Or.inl rfl, Or.inr rfl, trivial⟩ ?_
    exact k2 rfl
  · rw [if_neg c1] at hf
    refine R_aload_n (i := 5) rfl rfl ?_
    refine R_getF hW (i := 6) rfl rfl (Nat.le_of_ble_eq_true rfl) rfl ?_
    refine R_bipush (i := 7) rfl ?_
    refine R_iload_n (i := 8) rfl rfl ?_
    refine R_call (vs := [.int x1]) (st' := [.int (20 : Int32), .ref 1]) (i := 9) rfl (by decide) (by decide) rfl rfl (Nat.le_of_ble_eq_true rfl) rfl (f146_l (hh rfl hd) ?_)
    refine R_iadd (i := 10) rfl ?_
    have g2 := gd_some hf
    clear hf
    obtain ⟨g2, hf⟩ := g2
    refine R_iaload hW (i := 11) rfl rfl g2 ?_
    refine R_iload_n (i := 12) rfl rfl ?_
    refine R_call (vs := [.int (hI h 1 (ix ((20 : Int32) + (f146 x1)))), .int s]) (st' := []) (i := 13) rfl (by decide) (by decide) rfl rfl (Nat.le_of_ble_eq_true rfl) rfl (f141_l (hh rfl hd) ?_)
    refine R_ifne (i := 14) rfl (fun c3 => ?_) (fun c3 => ?_)
    · rw [if_neg c3] at hf
      refine R_aload_n (i := 16) rfl rfl ?_
      refine R_iload_n (i := 17) rfl rfl ?_
      refine R_iload_n (i := 18) rfl rfl ?_
      refine R_iload_n (i := 19) rfl rfl ?_
      have zq4 := bind_some hf
      clear hf
      obtain ⟨q4, eq4, hf⟩ := zq4
      refine R_callV (vs := [.int x1, .int x2, .int s]) (st' := []) hW (i := 20) rfl rfl rfl (Nat.le_of_ble_eq_true rfl) rfl (Nat.le_of_ble_eq_true rfl) rfl (f195_l eq4 hW (hh rfl hd) ?_)
      refine R_istore [some (.ref 0), some (.int x1), some (.int x2), some (.int s), some (.int q4)] (i := 21) rfl rfl ?_
      refine R_iload (i := 22) rfl rfl ?_
      refine R_call (vs := [.int q4]) (st' := []) (i := 23) rfl (by decide) (by decide) rfl rfl (Nat.le_of_ble_eq_true rfl) rfl (f196_l (hh rfl hd) ?_)
      refine R_ifeq (i := 24) rfl (fun c5 => ?_) (fun c5 => ?_)
      · rw [if_pos c5] at hf
        obtain ⟨hj, hs⟩ := Prod.mk.inj (Option.some.inj hf)
        subst hj
        subst hs
        refine R_weak [none, none, none, none, none] ⟨Or.inl rfl, Or.inl rfl, Or.inl rfl, Or.inl rfl, Or.inl rfl, trivial⟩ ?_
        exact k1 rfl
      · rw [if_neg c5] at hf
        refine R_aload_n (i := 25) rfl rfl ?_
        refine R_getF hW (i := 26) rfl rfl (Nat.le_of_ble_eq_true rfl) rfl ?_
        refine R_iload (i := 27) rfl rfl ?_
        have g6 := gd_some hf
        clear hf
        obtain ⟨g6, hf⟩ := g6
        refine R_zaload hW (i := 28) rfl rfl g6 ?_
        refine R_ifne (i := 29) rfl (fun c7 => ?_) (fun c7 => ?_)
        · rw [if_neg c7] at hf
          refine R_weak [some (.ref 0), some (.int x1), some (.int x2), some (.int s), none] ⟨Or.inr rfl, Or.inr rfl, Or.inr rfl, Or.inr rfl, Or.inl rfl, trivial⟩ ?_
          exact f211_b32_l hf hW hd k0 k1 k2
        · rw [if_pos c7] at hf
          obtain ⟨hj, hs⟩ := Prod.mk.inj (Option.some.inj hf)
          subst hj
          subst hs
          refine R_weak [none, none, none, none, none] ⟨Or.inl rfl, Or.inl rfl, Or.inl rfl, Or.inl rfl, Or.inl rfl, trivial⟩ ?_
          exact k1 rfl
    · rw [if_pos c3] at hf
      refine R_goto (i := 15) rfl ?_
      exact f211_b32_l hf hW hd k0 k1 k2
set_option maxRecDepth 100000 in
set_option maxHeartbeats 4000000 in
theorem f211_l {d N : Nat} {p1 : Int32} {p2 : Int32} {h : Hp} {Q : Option Value → Hp → Prop} {q : Int32} (hf : f211 N p1 p2 h = some q) (hW : WF 1 h) (hd : 2 ≤ d) (kk : Q (some (.int q)) h) : R 1 d 211 0 [some (.ref 0), some (.int p1), some (.int p2), none, none] [] h Q := by
  unfold f211 at hf
  refine R_iconst (i := 0) rfl ?_
  refine R_istore_n [some (.ref 0), some (.int p1), some (.int p2), some (.int (0 : Int32)), none] (i := 1) rfl rfl ?_
  have zq9 := bind_some hf
  clear hf
  obtain ⟨q9, eq9, hf⟩ := zq9
  refine lp_link (P := fun u2 => R 1 d 211 2 [some (.ref 0), some (.int p1), some (.int p2), some (.int u2), none] [] h Q) (E := fun e u2 => ((e = 0 → R 1 d 211 30 [none, none, none, none, none] [] h Q) ∧ (e = 1 → R 1 d 211 34 [none, none, none, none, none] [] h Q))) (fun s j s' hb k0 ke => f211_l2_l hb hW hd k0 (fun z => (ke 0 z).1 rfl) (fun z => (ke 1 z).2 rfl)) N (0 : Int32) q9.1 q9.2 eq9 ?_
  refine ⟨fun z => ?_, fun z => ?_⟩
  · rw [if_pos z] at hf
    refine R_iconst (i := 30) rfl ?_
    have hz := Option.some.inj hf
    subst hz
    exact R_zret (r := 0) (i := 31) rfl (by decide) kk
  · rw [if_neg (by rw [z]; decide)] at hf
    refine R_iconst (i := 34) rfl ?_
    have hz := Option.some.inj hf
    subst hz
    exact R_zret (r := 1) (i := 35) rfl (by decide) kk
set_option maxRecDepth 100000 in
set_option maxHeartbeats 4000000 in
theorem f212_l4_l {d N : Nat} {s : Int32 × Hp} {Q : Option Value → Hp → Prop} {j : Nat} {s' : Int32 × Hp} (hf : f212_l4 N s = some (j, s')) (hW : WF 1 s.2) (hd : 9 ≤ d) (k0 : j = 0 → WF 1 s'.2 → R 1 d 212 4 [some (.ref 0), some (.int s'.1)] [] s'.2 Q) (k1 : j = 1 → WF 1 s'.2 → R 1 d 212 16 [none, none] [] s'.2 Q) : R 1 d 212 4 [some (.ref 0), some (.int s.1)] [] s.2 Q := by
  obtain ⟨d, rfl⟩ : ∃ z, d = z + 1 := ⟨d - 1, by omega⟩
  unfold f212_l4 at hf
  refine R_iload_n (i := 4) rfl rfl ?_
  refine R_sipush (i := 5) rfl ?_
  refine R_icmpge (i := 6) rfl (fun c2 => ?_) (fun c2 => ?_)
  · rw [if_pos c2] at hf
    obtain ⟨hj, hs⟩ := Prod.mk.inj (Option.some.inj hf)
    subst hj
    subst hs
    refine R_weak [none, none] ⟨Or.inl rfl, Or.inl rfl, trivial⟩ ?_
    exact k1 rfl hW
  · rw [if_neg c2] at hf
    refine R_aload_n (i := 7) rfl rfl ?_
    refine R_getF hW (i := 8) rfl rfl (Nat.le_of_ble_eq_true rfl) rfl ?_
    refine R_iload_n (i := 9) rfl rfl ?_
    refine R_aload_n (i := 10) rfl rfl ?_
    refine R_iload_n (i := 11) rfl rfl ?_
    have zq3 := bind_some hf
    clear hf
    obtain ⟨q3, eq3, hf⟩ := zq3
    refine R_callV (vs := [.int s.1]) (st' := [.int s.1, .ref 12]) hW (i := 12) rfl rfl rfl (Nat.le_of_ble_eq_true rfl) rfl (Nat.le_of_ble_eq_true rfl) rfl (f148_l eq3 hW (hh rfl hd) ?_)
    have g4 := gd_some hf
    clear hf
    obtain ⟨g4, hf⟩ := g4
    refine R_zastore hW (i := 13) rfl rfl g4 (hg rfl hd) (fun h5 eh5 => ?_)
    replace hf := bnd_some eh5 hf
    have hW5 : WF 1 h5 := by rw [eh5]; exact hW
    obtain ⟨v6, e6⟩ : ∃ z : Int32, z = (s.1 + (1 : Int32)) := ⟨_, rfl⟩
    replace hf := bnd_some e6 hf
    refine R_iinc [some (.ref 0), some (.int v6)] (i := 14) rfl rfl (by rw [← e6]; rfl) ?_
    refine R_goto (i := 15) rfl ?_
    obtain ⟨hj, hs⟩ := Prod.mk.inj (Option.some.inj hf)
    subst hj
    subst hs
    exact k0 rfl hW5
set_option maxRecDepth 100000 in
set_option maxHeartbeats 4000000 in
theorem f212_l {d N : Nat} {h : Hp} {Q : Option Value → Hp → Prop} {q : Hp} (hf : f212 N h = some q) (hW : WF 1 h) (hd : 9 ≤ d) (kk : WF 1 q → Q (none) q) : R 1 d 212 0 [some (.ref 0), none] [] h Q := by
  obtain ⟨d, rfl⟩ : ∃ z, d = z + 1 := ⟨d - 1, by omega⟩
  unfold f212 at hf
  refine R_aload_n (i := 0) rfl rfl ?_
  have zq1 := bind_some hf
  clear hf
  obtain ⟨q1, eq1, hf⟩ := zq1
  refine R_callV (vs := []) (st' := []) hW (i := 1) rfl rfl rfl (Nat.le_of_ble_eq_true rfl) rfl (Nat.le_of_ble_eq_true rfl) rfl (f194_l eq1 hW (hh rfl hd) (fun hW1 => ?_))
  refine R_iconst (i := 2) rfl ?_
  refine R_istore_n [some (.ref 0), some (.int (0 : Int32))] (i := 3) rfl rfl ?_
  have zq7 := bind_some hf
  clear hf
  obtain ⟨q7, eq7, hf⟩ := zq7
  refine lp_link (P := fun u4 => WF 1 u4.2 → R 1 (d + 1) 212 4 [some (.ref 0), some (.int u4.1)] [] u4.2 Q) (E := fun e u4 => WF 1 u4.2 → R 1 (d + 1) 212 16 [none, none] [] u4.2 Q) (fun s j s' hb k0 ke hWs => f212_l4_l hb hWs hd k0 (fun z y => ke 0 z y)) N ((0 : Int32), q1) q7.1 q7.2 eq7 ?_ hW1
  intro hW7
  have hz := Option.some.inj hf
  subst hz
  exact R_vret (i := 16) rfl (kk hW7)
set_option maxRecDepth 100000 in
set_option maxHeartbeats 4000000 in
theorem f213_l11_l {d N : Nat} {x1 : Int32} {x2 : Int32} {h : Hp} {s : Int32 × Int32} {Q : Option Value → Hp → Prop} {j : Nat} {s' : Int32 × Int32} (hf : f213_l11 N x1 x2 h s = some (j, s')) (hW : WF 1 h) (hd : 5 ≤ d) (k0 : j = 0 → R 1 d 213 11 [some (.ref 0), some (.int x1), some (.int x2), some (.int s'.1), some (.int s'.2)] [] h Q) (k1 : j = 1 → R 1 d 213 28 [some (.ref 0), some (.int x1), some (.int x2), some (.int s'.1), none] [] h Q) : R 1 d 213 11 [some (.ref 0), some (.int x1), some (.int x2), some (.int s.1), some (.int s.2)] [] h Q := by
  obtain ⟨d, rfl⟩ : ∃ z, d = z + 1 := ⟨d - 1, by omega⟩
  unfold f213_l11 at hf
  refine R_iload (i := 11) rfl rfl ?_
  refine R_bipush (i := 12) rfl ?_
  refine R_icmpge (i := 13) rfl (fun c2 => ?_) (fun c2 => ?_)
  · rw [if_pos c2] at hf
    obtain ⟨hj, hs⟩ := Prod.mk.inj (Option.some.inj hf)
    subst hj
    subst hs
    refine R_weak [some (.ref 0), some (.int x1), some (.int x2), some (.int s.1), none] ⟨Or.inr rfl, Or.inr rfl, Or.inr rfl, Or.inr rfl, Or.inl rfl, trivial⟩ ?_
    exact k1 rfl
  · rw [if_neg c2] at hf
    refine R_iload_n (i := 14) rfl rfl ?_
    refine R_ifne (i := 15) rfl (fun c3 => ?_) (fun c3 => ?_)
    · rw [if_neg c3] at hf
      obtain ⟨hj, hs⟩ := Prod.mk.inj (Option.some.inj hf)
      subst hj
      subst hs
      refine R_weak [some (.ref 0), some (.int x1), some (.int x2), some (.int s.1), none] ⟨Or.inr rfl, Or.inr rfl, Or.inr rfl, Or.inr rfl, Or.inl rfl, trivial⟩ ?_
      exact k1 rfl
    · rw [if_pos c3] at hf
      refine R_aload_n (i := 16) rfl rfl ?_
      refine R_getF hW (i := 17) rfl rfl (Nat.le_of_ble_eq_true rfl) rfl ?_
      refine R_iload_n (i := 18) rfl rfl ?_
      have g4 := gd_some hf
      clear hf
      obtain ⟨g4, hf⟩ := g4
      refine R_zaload hW (i := 19) rfl rfl g4 ?_
      refine R_ifeq (i := 20) rfl (fun c5 => ?_) (fun c5 => ?_)
      · rw [if_pos c5] at hf
        obtain ⟨hj, hs⟩ := Prod.mk.inj (Option.some.inj hf)
        subst hj
        subst hs
        refine R_weak [some (.ref 0), some (.int x1), some (.int x2), some (.int s.1), none] ⟨Or.inr rfl, Or.inr rfl, Or.inr rfl, Or.inr rfl, Or.inl rfl, trivial⟩ ?_
        exact k1 rfl
      · rw [if_neg c5] at hf
        refine R_aload_n (i := 21) rfl rfl ?_
        refine R_iload_n (i := 22) rfl rfl ?_
        refine R_iload (i := 23) rfl rfl ?_
        have zq6 := bind_some hf
        clear hf
        obtain ⟨q6, eq6, hf⟩ := zq6
        refine R_callV (vs := [.int x2, .int s.2]) (st' := []) hW (i := 24) rfl rfl rfl (Nat.le_of_ble_eq_true rfl) rfl (Nat.le_of_ble_eq_true rfl) rfl (f211_l eq6 hW (hh rfl hd) ?_)
        refine R_istore_n [some (.ref 0), some (.int x1), some (.int x2), some (.int q6), some (.int s.2)] (i := 25) rfl rfl ?_
        obtain ⟨v7, e7⟩ : ∃ z : Int32, z = (s.2 + (1 : Int32)) := ⟨_, rfl⟩
        replace hf := bnd_some e7 hf
        refine R_iinc [some (.ref 0), some (.int x1), some (.int x2), some (.int q6), some (.int v7)] (i := 26) rfl rfl (by rw [← e7]; rfl) ?_
        refine R_goto (i := 27) rfl ?_
        obtain ⟨hj, hs⟩ := Prod.mk.inj (Option.some.inj hf)
        subst hj
        subst hs
        exact k0 rfl
set_option maxRecDepth 100000 in
set_option maxHeartbeats 4000000 in
theorem f213_b44_l {d N : Nat} {x2 : Int32} {t0 : Int32} {h : Hp} {Q : Option Value → Hp → Prop} {j : Nat} {s' : Int32 × Int32 × Hp} (hf : f213_b44 N x2 t0 h = some (j, s')) (hW : WF 1 h) (hd : 5 ≤ d) (k0 : j = 0 → WF 1 s'.2.2 → R 1 d 213 4 [some (.ref 0), some (.int s'.1), some (.int s'.2.1), none, none] [] s'.2.2 Q) (k1 : j = 1 → WF 1 s'.2.2 → R 1 d 213 47 [some (.ref 0), some (.int s'.1), none, none, none] [] s'.2.2 Q) : R 1 d 213 44 [some (.ref 0), none, some (.int x2), none, none] [.int t0] h Q := by
  unfold f213_b44 at hf
  refine R_istore_n [some (.ref 0), some (.int t0), some (.int x2), none, none] (i := 44) rfl rfl ?_
  obtain ⟨v12, e12⟩ : ∃ z : Int32, z = (x2 + (1 : Int32)) := ⟨_, rfl⟩
  replace hf := bnd_some e12 hf
  refine R_iinc [some (.ref 0), some (.int t0), some (.int v12), none, none] (i := 45) rfl rfl (by rw [← e12]; rfl) ?_
  refine R_goto (i := 46) rfl ?_
  obtain ⟨hj, hs⟩ := Prod.mk.inj (Option.some.inj hf)
  subst hj
  subst hs
  exact k0 rfl hW
set_option maxRecDepth 100000 in
set_option maxHeartbeats 4000000 in
theorem f213_b41_l {d N : Nat} {x2 : Int32} {h : Hp} {Q : Option Value → Hp → Prop} {j : Nat} {s' : Int32 × Int32 × Hp} (hf : f213_b41 N x2 h = some (j, s')) (hW : WF 1 h) (hd : 5 ≤ d) (k0 : j = 0 → WF 1 s'.2.2 → R 1 d 213 4 [some (.ref 0), some (.int s'.1), some (.int s'.2.1), none, none] [] s'.2.2 Q) (k1 : j = 1 → WF 1 s'.2.2 → R 1 d 213 47 [some (.ref 0), some (.int s'.1), none, none, none] [] s'.2.2 Q) : R 1 d 213 41 [some (.ref 0), none, some (.int x2), none, none] [] h Q := by
  unfold f213_b41 at hf
  refine R_iconst (i := 41) rfl ?_
  refine R_goto (i := 42) rfl ?_
  exact f213_b44_l hf hW hd k0 k1
set_option maxRecDepth 100000 in
set_option maxHeartbeats 4000000 in
theorem f213_l4_l {d N : Nat} {s : Int32 × Int32 × Hp} {Q : Option Value → Hp → Prop} {j : Nat} {s' : Int32 × Int32 × Hp} (hf : f213_l4 N s = some (j, s')) (hW : WF 1 s.2.2) (hd : 5 ≤ d) (k0 : j = 0 → WF 1 s'.2.2 → R 1 d 213 4 [some (.ref 0), some (.int s'.1), some (.int s'.2.1), none, none] [] s'.2.2 Q) (k1 : j = 1 → WF 1 s'.2.2 → R 1 d 213 47 [some (.ref 0), some (.int s'.1), none, none, none] [] s'.2.2 Q) : R 1 d 213 4 [some (.ref 0), some (.int s.1), some (.int s.2.1), none, none] [] s.2.2 Q := by
  unfold f213_l4 at hf
  refine R_iload_n (i := 4) rfl rfl ?_
  refine R_sipush (i := 5) rfl ?_
  refine R_icmpge (i := 6) rfl (fun c1 => ?_) (fun c1 => ?_)
  · rw [if_pos c1] at hf
    obtain ⟨hj, hs⟩ := Prod.mk.inj (Option.some.inj hf)
    subst hj
    subst hs
    refine R_weak [some (.ref 0), some (.int s.1), none, none, none] ⟨Or.inr rfl, Or.inr rfl, Or.inl rfl, Or.inr rfl, Or.inr rfl, trivial⟩ ?_
    exact k1 rfl hW
  · rw [if_neg c1] at hf
    refine R_iconst (i := 7) rfl ?_
    refine R_istore_n [some (.ref 0), some (.int s.1), some (.int s.2.1), some (.int (0 : Int32)), none] (i := 8) rfl rfl ?_
    refine R_iconst (i := 9) rfl ?_
    refine R_istore [some (.ref 0), some (.int s.1), some (.int s.2.1), some (.int (0 : Int32)), some (.int (0 : Int32))] (i := 10) rfl rfl ?_
    have zq8 := bind_some hf
    clear hf
    obtain ⟨q8, eq8, hf⟩ := zq8
    refine lp_link (P := fun u11 => R 1 d 213 11 [some (.ref 0), some (.int s.1), some (.int s.2.1), some (.int u11.1), some (.int u11.2)] [] s.2.2 Q) (E := fun e u11 => R 1 d 213 28 [some (.ref 0), some (.int s.1), some (.int s.2.1), some (.int u11.1), none] [] s.2.2 Q) (fun s j s' hb k0 ke => f213_l11_l hb hW hd k0 (fun z => ke 0 z)) N ((0 : Int32), (0 : Int32)) q8.1 q8.2 eq8 ?_
    refine R_aload_n (i := 28) rfl rfl ?_
    refine R_getF hW (i := 29) rfl rfl (Nat.le_of_ble_eq_true rfl) rfl ?_
    refine R_iload_n (i := 30) rfl rfl ?_
    refine R_iload_n (i := 31) rfl rfl ?_
    have g9 := gd_some hf
    clear hf
    obtain ⟨g9, hf⟩ := g9
    refine R_zastore hW (i := 32) rfl rfl g9 (hg rfl hd) (fun h10 eh10 => ?_)
    replace hf := bnd_some eh10 hf
    have hW10 : WF 1 h10 := by rw [eh10]; exact hW
    refine R_iload_n (i := 33) rfl rfl ?_
    refine R_ifne (i := 34) rfl (fun c11 => ?_) (fun c11 => ?_)
    · rw [if_neg c11] at hf
      refine R_weak [some (.ref 0), none, some (.int s.2.1), none, none] ⟨Or.inr rfl, Or.inl rfl, Or.inr rfl, Or.inl rfl, Or.inr rfl, trivial⟩ ?_
      exact f213_b41_l hf hW10 hd k0 k1
    · rw [if_pos c11] at hf
      refine R_iload_n (i := 35) rfl rfl ?_
      refine R_aload_n (i := 36) rfl rfl ?_
      refine R_getF hW10 (i := 37) rfl rfl (Nat.le_of_ble_eq_true rfl) rfl ?_
      refine R_iload_n (i := 38) rfl rfl ?_
      have g13 := gd_some hf
      clear hf
      obtain ⟨g13, hf⟩ := g13
      refine R_zaload hW10 (i := 39) rfl rfl g13 ?_
      refine R_icmpeq (i := 40) rfl (fun c14 => ?_) (fun c14 => ?_)
      · rw [if_pos c14] at hf
        refine R_iconst (i := 43) rfl ?_
        refine R_weak [some (.ref 0), none, some (.int s.2.1), none, none] ⟨Or.inr rfl, Or.inl rfl, Or.inr rfl, Or.inl rfl, Or.inr rfl, trivial⟩ ?_
        exact f213_b44_l hf hW10 hd k0 k1
      · rw [if_neg c14] at hf
        refine R_weak [some (.ref 0), none, some (.int s.2.1), none, none] ⟨Or.inr rfl, Or.inl rfl, Or.inr rfl, Or.inl rfl, Or.inr rfl, trivial⟩ ?_
        exact f213_b41_l hf hW10 hd k0 k1
set_option maxRecDepth 100000 in
set_option maxHeartbeats 4000000 in
theorem f213_l49_l {d N : Nat} {x1 : Int32} {s : Int32 × Hp} {Q : Option Value → Hp → Prop} {j : Nat} {s' : Int32 × Hp} (hf : f213_l49 N x1 s = some (j, s')) (hW : WF 1 s.2) (hd : 5 ≤ d) (k0 : j = 0 → WF 1 s'.2 → R 1 d 213 49 [some (.ref 0), some (.int x1), some (.int s'.1), none, none] [] s'.2 Q) (k1 : j = 1 → WF 1 s'.2 → R 1 d 213 62 [none, some (.int x1), none, none, none] [] s'.2 Q) : R 1 d 213 49 [some (.ref 0), some (.int x1), some (.int s.1), none, none] [] s.2 Q := by
  unfold f213_l49 at hf
  refine R_iload_n (i := 49) rfl rfl ?_
  refine R_sipush (i := 50) rfl ?_
  refine R_icmpge (i := 51) rfl (fun c16 => ?_) (fun c16 => ?_)
  · rw [if_pos c16] at hf
    obtain ⟨hj, hs⟩ := Prod.mk.inj (Option.some.inj hf)
    subst hj
    subst hs
    refine R_weak [none, some (.int x1), none, none, none] ⟨Or.inl rfl, Or.inr rfl, Or.inl rfl, Or.inr rfl, Or.inr rfl, trivial⟩ ?_
    exact k1 rfl hW
  · rw [if_neg c16] at hf
    refine R_aload_n (i := 52) rfl rfl ?_
    refine R_getF hW (i := 53) rfl rfl (Nat.le_of_ble_eq_true rfl) rfl ?_
    refine R_iload_n (i := 54) rfl rfl ?_
    refine R_aload_n (i := 55) rfl rfl ?_
    refine R_getF hW (i := 56) rfl rfl (Nat.le_of_ble_eq_true rfl) rfl ?_
    refine R_iload_n (i := 57) rfl rfl ?_
    have g17 := gd_some hf
    clear hf
    obtain ⟨g17, hf⟩ := g17
    refine R_zaload hW (i := 58) rfl rfl g17 ?_
    have g18 := gd_some hf
    clear hf
    obtain ⟨g18, hf⟩ := g18
    refine R_zastore hW (i := 59) rfl rfl g18 (hg rfl hd) (fun h19 eh19 => ?_)
    replace hf := bnd_some eh19 hf
    have hW19 : WF 1 h19 := by rw [eh19]; exact hW
    obtain ⟨v20, e20⟩ : ∃ z : Int32, z = (s.1 + (1 : Int32)) := ⟨_, rfl⟩
    replace hf := bnd_some e20 hf
    refine R_iinc [some (.ref 0), some (.int x1), some (.int v20), none, none] (i := 60) rfl rfl (by rw [← e20]; rfl) ?_
    refine R_goto (i := 61) rfl ?_
    obtain ⟨hj, hs⟩ := Prod.mk.inj (Option.some.inj hf)
    subst hj
    subst hs
    exact k0 rfl hW19
set_option maxRecDepth 100000 in
set_option maxHeartbeats 4000000 in
theorem f213_l {d N : Nat} {h : Hp} {Q : Option Value → Hp → Prop} {q : Int32 × Hp} (hf : f213 N h = some q) (hW : WF 1 h) (hd : 5 ≤ d) (kk : WF 1 q.2 → Q (some (.int q.1)) q.2) : R 1 d 213 0 [some (.ref 0), none, none, none, none] [] h Q := by
  unfold f213 at hf
  refine R_iconst (i := 0) rfl ?_
  refine R_istore_n [some (.ref 0), some (.int (0 : Int32)), none, none, none] (i := 1) rfl rfl ?_
  refine R_iconst (i := 2) rfl ?_
  refine R_istore_n [some (.ref 0), some (.int (0 : Int32)), some (.int (0 : Int32)), none, none] (i := 3) rfl rfl ?_
  have zq15 := bind_some hf
  clear hf
  obtain ⟨q15, eq15, hf⟩ := zq15
  refine lp_link (P := fun u4 => WF 1 u4.2.2 → R 1 d 213 4 [some (.ref 0), some (.int u4.1), some (.int u4.2.1), none, none] [] u4.2.2 Q) (E := fun e u4 => WF 1 u4.2.2 → R 1 d 213 47 [some (.ref 0), some (.int u4.1), none, none, none] [] u4.2.2 Q) (fun s j s' hb k0 ke hWs => f213_l4_l hb hWs hd k0 (fun z y => ke 0 z y)) N ((0 : Int32), (0 : Int32), h) q15.1 q15.2 eq15 ?_ hW
  intro hW15
  refine R_iconst (i := 47) rfl ?_
  refine R_istore_n [some (.ref 0), some (.int q15.2.1), some (.int (0 : Int32)), none, none] (i := 48) rfl rfl ?_
  have zq21 := bind_some hf
  clear hf
  obtain ⟨q21, eq21, hf⟩ := zq21
  refine lp_link (P := fun u49 => WF 1 u49.2 → R 1 d 213 49 [some (.ref 0), some (.int q15.2.1), some (.int u49.1), none, none] [] u49.2 Q) (E := fun e u49 => WF 1 u49.2 → R 1 d 213 62 [none, some (.int q15.2.1), none, none, none] [] u49.2 Q) (fun s j s' hb k0 ke hWs => f213_l49_l hb hWs hd k0 (fun z y => ke 0 z y)) N ((0 : Int32), q15.2.2.2) q21.1 q21.2 eq21 ?_ hW15
  intro hW21
  refine R_iload_n (i := 62) rfl rfl ?_
  have hz := Option.some.inj hf
  subst hz
  exact R_zret (i := 63) rfl rfl (kk hW21)
set_option maxRecDepth 100000 in
set_option maxHeartbeats 4000000 in
theorem f214_b24_l {d N : Nat} {x1 : Int32} {x2 : Int32} {x4 : Int32} {h : Hp} {Q : Option Value → Hp → Prop} {j : Nat} {s' : Int32 × Int32 × Hp} (hf : f214_b24 N x1 x2 x4 h = some (j, s')) (hW : WF 1 h) (hd : 10 ≤ d) (k0 : j = 0 → WF 1 s'.2.2 → R 1 d 214 17 [some (.ref 0), some (.int x1), some (.int x2), some (.int s'.1), some (.int s'.2.1)] [] s'.2.2 Q) (k1 : j = 1 → WF 1 s'.2.2 → R 1 d 214 29 [some (.ref 0), some (.int x1), none, none, none] [] s'.2.2 Q) : R 1 d 214 24 [some (.ref 0), some (.int x1), some (.int x2), none, some (.int x4)] [] h Q := by
  obtain ⟨d, rfl⟩ : ∃ z, d = z + 1 := ⟨d - 1, by omega⟩
  unfold f214_b24 at hf
  refine R_aload_n (i := 24) rfl rfl ?_
  have zq7 := bind_some hf
  clear hf
  obtain ⟨q7, eq7, hf⟩ := zq7
  refine R_callV (vs := []) (st' := []) hW (i := 25) rfl rfl rfl (Nat.le_of_ble_eq_true rfl) rfl (Nat.le_of_ble_eq_true rfl) rfl (f213_l eq7 hW (hh rfl hd) (fun hW7 => ?_))
  refine R_istore_n [some (.ref 0), some (.int x1), some (.int x2), some (.int q7.1), some (.int x4)] (i := 26) rfl rfl ?_
  obtain ⟨v8, e8⟩ : ∃ z : Int32, z = (x4 + (1 : Int32)) := ⟨_, rfl⟩
  replace hf := bnd_some e8 hf
  refine R_iinc [some (.ref 0), some (.int x1), some (.int x2), some (.int q7.1), some (.int v8)] (i := 27) rfl rfl (by rw [← e8]; rfl) ?_
  refine R_goto (i := 28) rfl ?_
  obtain ⟨hj, hs⟩ := Prod.mk.inj (Option.some.inj hf)
  subst hj
  subst hs
  exact k0 rfl hW7
set_option maxRecDepth 100000 in
set_option maxHeartbeats 4000000 in
theorem f214_l17_l {d N : Nat} {x1 : Int32} {x2 : Int32} {s : Int32 × Int32 × Hp} {Q : Option Value → Hp → Prop} {j : Nat} {s' : Int32 × Int32 × Hp} (hf : f214_l17 N x1 x2 s = some (j, s')) (hW : WF 1 s.2.2) (hd : 10 ≤ d) (k0 : j = 0 → WF 1 s'.2.2 → R 1 d 214 17 [some (.ref 0), some (.int x1), some (.int x2), some (.int s'.1), some (.int s'.2.1)] [] s'.2.2 Q) (k1 : j = 1 → WF 1 s'.2.2 → R 1 d 214 29 [some (.ref 0), some (.int x1), none, none, none] [] s'.2.2 Q) : R 1 d 214 17 [some (.ref 0), some (.int x1), some (.int x2), some (.int s.1), some (.int s.2.1)] [] s.2.2 Q := by
  unfold f214_l17 at hf
  refine R_iload_n (i := 17) rfl rfl ?_
  refine R_ifeq (i := 18) rfl (fun c5 => ?_) (fun c5 => ?_)
  · rw [if_pos c5] at hf
    obtain ⟨hj, hs⟩ := Prod.mk.inj (Option.some.inj hf)
    subst hj
    subst hs
    refine R_weak [some (.ref 0), some (.int x1), none, none, none] ⟨Or.inr rfl, Or.inr rfl, Or.inl rfl, Or.inl rfl, Or.inl rfl, trivial⟩ ?_
    exact k1 rfl hW
  · rw [if_neg c5] at hf
    refine R_iload_n (i := 19) rfl rfl ?_
    refine R_iflt (i := 20) rfl (fun c6 => ?_) (fun c6 => ?_)
    · rw [if_pos c6] at hf
      refine R_weak [some (.ref 0), some (.int x1), some (.int x2), none, some (.int s.2.1)] ⟨Or.inr rfl, Or.inr rfl, Or.inr rfl, Or.inl rfl, Or.inr rfl, trivial⟩ ?_
      exact f214_b24_l hf hW hd k0 k1
    · rw [if_neg c6] at hf
      refine R_iload (i := 21) rfl rfl ?_
      refine R_iload_n (i := 22) rfl rfl ?_
      refine R_icmpge (i := 23) rfl (fun c9 => ?_) (fun c9 => ?_)
      · rw [if_pos c9] at hf
        obtain ⟨hj, hs⟩ := Prod.mk.inj (Option.some.inj hf)
        subst hj
        subst hs
        refine R_weak [some (.ref 0), some (.int x1), none, none, none] ⟨Or.inr rfl, Or.inr rfl, Or.inl rfl, Or.inl rfl, Or.inl rfl, trivial⟩ ?_
        exact k1 rfl hW
      · rw [if_neg c9] at hf
        refine R_weak [some (.ref 0), some (.int x1), some (.int x2), none, some (.int s.2.1)] ⟨Or.inr rfl, Or.inr rfl, Or.inr rfl, Or.inl rfl, Or.inr rfl, trivial⟩ ?_
        exact f214_b24_l hf hW hd k0 k1
set_option maxRecDepth 100000 in
set_option maxHeartbeats 4000000 in
theorem f214_l {d N : Nat} {p1 : Int32} {p2 : Int32} {h : Hp} {Q : Option Value → Hp → Prop} {q : Int32 × Hp} (hf : f214 N p1 p2 h = some q) (hW : WF 1 h) (hd : 10 ≤ d) (kk : WF 1 q.2 → Q (some (.int q.1)) q.2) : R 1 d 214 0 [some (.ref 0), some (.int p1), some (.int p2), none, none] [] h Q := by
  obtain ⟨d, rfl⟩ : ∃ z, d = z + 1 := ⟨d - 1, by omega⟩
  unfold f214 at hf
  refine R_aload_n (i := 0) rfl rfl ?_
  refine R_iload_n (i := 1) rfl rfl ?_
  have zq1 := bind_some hf
  clear hf
  obtain ⟨q1, eq1, hf⟩ := zq1
  refine R_callV (vs := [.int p1]) (st' := []) hW (i := 2) rfl rfl rfl (Nat.le_of_ble_eq_true rfl) rfl (Nat.le_of_ble_eq_true rfl) rfl (f148_l eq1 hW (hh rfl hd) ?_)
  refine R_ifeq (i := 3) rfl (fun c2 => ?_) (fun c2 => ?_)
  · rw [if_pos c2] at hf
    refine R_iconst (i := 9) rfl ?_
    have hz := Option.some.inj hf
    subst hz
    exact R_zret (r := 0) (i := 10) rfl (by decide) (kk hW)
  · rw [if_neg c2] at hf
    refine R_iload_n (i := 4) rfl rfl ?_
    refine R_iconst (i := 5) rfl ?_
    refine R_bipush (i := 6) rfl ?_
    refine R_call (vs := [.int p2, .int (-1 : Int32), .int (99 : Int32)]) (st' := []) (i := 7) rfl (by decide) (by decide) rfl rfl (Nat.le_of_ble_eq_true rfl) rfl (f139_l (hh rfl hd) ?_)
    refine R_ifne (i := 8) rfl (fun c3 => ?_) (fun c3 => ?_)
    · rw [if_neg c3] at hf
      refine R_aload_n (i := 11) rfl rfl ?_
      have zq4 := bind_some hf
      clear hf
      obtain ⟨q4, eq4, hf⟩ := zq4
      refine R_callV (vs := []) (st' := []) hW (i := 12) rfl rfl rfl (Nat.le_of_ble_eq_true rfl) rfl (Nat.le_of_ble_eq_true rfl) rfl (f212_l eq4 hW (hh rfl hd) (fun hW4 => ?_))
      refine R_iconst (i := 13) rfl ?_
      refine R_istore_n [some (.ref 0), some (.int p1), some (.int p2), some (.int (1 : Int32)), none] (i := 14) rfl rfl ?_
      refine R_iconst (i := 15) rfl ?_
      refine R_istore [some (.ref 0), some (.int p1), some (.int p2), some (.int (1 : Int32)), some (.int (0 : Int32))] (i := 16) rfl rfl ?_
      have zq10 := bind_some hf
      clear hf
      obtain ⟨q10, eq10, hf⟩ := zq10
      refine lp_link (P := fun u17 => WF 1 u17.2.2 → R 1 (d + 1) 214 17 [some (.ref 0), some (.int p1), some (.int p2), some (.int u17.1), some (.int u17.2.1)] [] u17.2.2 Q) (E := fun e u17 => WF 1 u17.2.2 → R 1 (d + 1) 214 29 [some (.ref 0), some (.int p1), none, none, none] [] u17.2.2 Q) (fun s j s' hb k0 ke hWs => f214_l17_l hb hWs hd k0 (fun z y => ke 0 z y)) N ((1 : Int32), (0 : Int32), q4) q10.1 q10.2 eq10 ?_ hW4
      intro hW10
      refine R_aload_n (i := 29) rfl rfl ?_
      refine R_getF hW10 (i := 30) rfl rfl (Nat.le_of_ble_eq_true rfl) rfl ?_
      refine R_iload_n (i := 31) rfl rfl ?_
      have g11 := gd_some hf
      clear hf
      obtain ⟨g11, hf⟩ := g11
      refine R_zaload hW10 (i := 32) rfl rfl g11 ?_
      have hz := Option.some.inj hf
      subst hz
      exact R_zret (i := 33) rfl rfl (kk hW10)
    · rw [if_pos c3] at hf
      refine R_iconst (i := 9) rfl ?_
      have hz := Option.some.inj hf
      subst hz
      exact R_zret (r := 0) (i := 10) rfl (by decide) (kk hW)
set_option maxRecDepth 100000 in
set_option maxHeartbeats 4000000 in
theorem f215_l4_l {d N : Nat} {s : Int32 × Hp} {Q : Option Value → Hp → Prop} {j : Nat} {s' : Int32 × Hp} (hf : f215_l4 N s = some (j, s')) (hW : WF 1 s.2) (hd : 10 ≤ d) (k0 : j = 0 → WF 1 s'.2 → R 1 d 215 4 [some (.ref 0), some (.int s'.1)] [] s'.2 Q) (k1 : j = 1 → WF 1 s'.2 → R 1 d 215 9 [none, some (.int s'.1)] [] s'.2 Q) : R 1 d 215 4 [some (.ref 0), some (.int s.1)] [] s.2 Q := by
  obtain ⟨d, rfl⟩ : ∃ z, d = z + 1 := ⟨d - 1, by omega⟩
  unfold f215_l4 at hf
  refine R_aload_n (i := 4) rfl rfl ?_
  have zq2 := bind_some hf
  clear hf
  obtain ⟨q2, eq2, hf⟩ := zq2
  refine R_callV (vs := []) (st' := []) hW (i := 5) rfl rfl rfl (Nat.le_of_ble_eq_true rfl) rfl (Nat.le_of_ble_eq_true rfl) rfl (f213_l eq2 hW (hh rfl hd) (fun hW2 => ?_))
  refine R_ifeq (i := 6) rfl (fun c3 => ?_) (fun c3 => ?_)
  · rw [if_pos c3] at hf
    obtain ⟨hj, hs⟩ := Prod.mk.inj (Option.some.inj hf)
    subst hj
    subst hs
    refine R_weak [none, some (.int s.1)] ⟨Or.inl rfl, Or.inr rfl, trivial⟩ ?_
    exact k1 rfl hW2
  · rw [if_neg c3] at hf
    obtain ⟨v4, e4⟩ : ∃ z : Int32, z = (s.1 + (1 : Int32)) := ⟨_, rfl⟩
    replace hf := bnd_some e4 hf
    refine R_iinc [some (.ref 0), some (.int v4)] (i := 7) rfl rfl (by rw [← e4]; rfl) ?_
    refine R_goto (i := 8) rfl ?_
    obtain ⟨hj, hs⟩ := Prod.mk.inj (Option.some.inj hf)
    subst hj
    subst hs
    exact k0 rfl hW2
set_option maxRecDepth 100000 in
set_option maxHeartbeats 4000000 in
theorem f215_l {d N : Nat} {h : Hp} {Q : Option Value → Hp → Prop} {q : Int32 × Hp} (hf : f215 N h = some q) (hW : WF 1 h) (hd : 10 ≤ d) (kk : WF 1 q.2 → Q (some (.int q.1)) q.2) : R 1 d 215 0 [some (.ref 0), none] [] h Q := by
  obtain ⟨d, rfl⟩ : ∃ z, d = z + 1 := ⟨d - 1, by omega⟩
  unfold f215 at hf
  refine R_aload_n (i := 0) rfl rfl ?_
  have zq1 := bind_some hf
  clear hf
  obtain ⟨q1, eq1, hf⟩ := zq1
  refine R_callV (vs := []) (st' := []) hW (i := 1) rfl rfl rfl (Nat.le_of_ble_eq_true rfl) rfl (Nat.le_of_ble_eq_true rfl) rfl (f212_l eq1 hW (hh rfl hd) (fun hW1 => ?_))
  refine R_iconst (i := 2) rfl ?_
  refine R_istore_n [some (.ref 0), some (.int (0 : Int32))] (i := 3) rfl rfl ?_
  have zq5 := bind_some hf
  clear hf
  obtain ⟨q5, eq5, hf⟩ := zq5
  refine lp_link (P := fun u4 => WF 1 u4.2 → R 1 (d + 1) 215 4 [some (.ref 0), some (.int u4.1)] [] u4.2 Q) (E := fun e u4 => WF 1 u4.2 → R 1 (d + 1) 215 9 [none, some (.int u4.1)] [] u4.2 Q) (fun s j s' hb k0 ke hWs => f215_l4_l hb hWs hd k0 (fun z y => ke 0 z y)) N ((0 : Int32), q1) q5.1 q5.2 eq5 ?_ hW1
  intro hW5
  refine R_iload_n (i := 9) rfl rfl ?_
  have hz := Option.some.inj hf
  subst hz
  exact R_iret (i := 10) rfl (kk hW5)
set_option maxRecDepth 100000 in
set_option maxHeartbeats 4000000 in
theorem f216_l9_l {d N : Nat} {x1 : Int32} {h : Hp} {s : Int32} {Q : Option Value → Hp → Prop} {j : Nat} {s' : Int32} (hf : f216_l9 N x1 h s = some (j, s')) (hW : WF 1 h) (hd : 11 ≤ d) (k0 : j = 0 → R 1 d 216 9 [some (.ref 0), some (.int x1), some (.int s')] [] h Q) (k1 : j = 1 → R 1 d 216 16 [none, none, some (.int s')] [] h Q) : R 1 d 216 9 [some (.ref 0), some (.int x1), some (.int s)] [] h Q := by
  obtain ⟨d, rfl⟩ : ∃ z, d = z + 1 := ⟨d - 1, by omega⟩
  unfold f216_l9 at hf
  refine R_aload_n (i := 9) rfl rfl ?_
  refine R_iload_n (i := 10) rfl rfl ?_
  refine R_iload_n (i := 11) rfl rfl ?_
  have zq3 := bind_some hf
  clear hf
  obtain ⟨q3, eq3, hf⟩ := zq3
  refine R_callV (vs := [.int x1, .int s]) (st' := []) hW (i := 12) rfl rfl rfl (Nat.le_of_ble_eq_true rfl) rfl (Nat.le_of_ble_eq_true rfl) rfl (f211_l eq3 hW (hh rfl hd) ?_)
  refine R_ifne (i := 13) rfl (fun c4 => ?_) (fun c4 => ?_)
  · rw [if_neg c4] at hf
    obtain ⟨hj, hs⟩ := Prod.mk.inj (Option.some.inj hf)
    subst hj
    subst hs
    refine R_weak [none, none, some (.int s)] ⟨Or.inl rfl, Or.inl rfl, Or.inr rfl, trivial⟩ ?_
    exact k1 rfl
  · rw [if_pos c4] at hf
    obtain ⟨v5, e5⟩ : ∃ z : Int32, z = (s + (1 : Int32)) := ⟨_, rfl⟩
    replace hf := bnd_some e5 hf
    refine R_iinc [some (.ref 0), some (.int x1), some (.int v5)] (i := 14) rfl rfl (by rw [← e5]; rfl) ?_
    refine R_goto (i := 15) rfl ?_
    obtain ⟨hj, hs⟩ := Prod.mk.inj (Option.some.inj hf)
    subst hj
    subst hs
    exact k0 rfl
set_option maxRecDepth 100000 in
set_option maxHeartbeats 4000000 in
theorem f216_l {d N : Nat} {p1 : Int32} {h : Hp} {Q : Option Value → Hp → Prop} {q : Int32 × Hp} (hf : f216 N p1 h = some q) (hW : WF 1 h) (hd : 11 ≤ d) (kk : WF 1 q.2 → Q (some (.int q.1)) q.2) : R 1 d 216 0 [some (.ref 0), some (.int p1), none] [] h Q := by
  obtain ⟨d, rfl⟩ : ∃ z, d = z + 1 := ⟨d - 1, by omega⟩
  unfold f216 at hf
  refine R_aload_n (i := 0) rfl rfl ?_
  refine R_iload_n (i := 1) rfl rfl ?_
  refine R_iconst (i := 2) rfl ?_
  have zq1 := bind_some hf
  clear hf
  obtain ⟨q1, eq1, hf⟩ := zq1
  refine R_callV (vs := [.int p1, .int (-1 : Int32)]) (st' := []) hW (i := 3) rfl rfl rfl (Nat.le_of_ble_eq_true rfl) rfl (Nat.le_of_ble_eq_true rfl) rfl (f214_l eq1 hW (hh rfl hd) (fun hW1 => ?_))
  refine R_ifne (i := 4) rfl (fun c2 => ?_) (fun c2 => ?_)
  · rw [if_neg c2] at hf
    refine R_iconst (i := 7) rfl ?_
    refine R_istore_n [some (.ref 0), some (.int p1), some (.int (0 : Int32))] (i := 8) rfl rfl ?_
    have zq6 := bind_some hf
    clear hf
    obtain ⟨q6, eq6, hf⟩ := zq6
    refine lp_link (P := fun u9 => R 1 (d + 1) 216 9 [some (.ref 0), some (.int p1), some (.int u9)] [] q1.2 Q) (E := fun e u9 => R 1 (d + 1) 216 16 [none, none, some (.int u9)] [] q1.2 Q) (fun s j s' hb k0 ke => f216_l9_l hb hW1 hd k0 (fun z => ke 0 z)) N (0 : Int32) q6.1 q6.2 eq6 ?_
    refine R_iload_n (i := 16) rfl rfl ?_
    have hz := Option.some.inj hf
    subst hz
    exact R_iret (i := 17) rfl (kk hW1)
  · rw [if_pos c2] at hf
    refine R_iconst (i := 5) rfl ?_
    have hz := Option.some.inj hf
    subst hz
    exact R_iret (i := 6) rfl (kk hW1)
set_option maxRecDepth 100000 in
set_option maxHeartbeats 4000000 in
theorem f217_b39_l {d N : Nat} {h : Hp} {Q : Option Value → Hp → Prop} {q : Int32} (hf : f217_b39 N h = some q) (hW : WF 1 h) (hd : 2 ≤ d) (kk : Q (some (.int q)) h) : R 1 d 217 39 [none, none, none, none, none, none, none] [] h Q := by
  unfold f217_b39 at hf
  refine R_iconst (i := 39) rfl ?_
  refine R_goto (i := 40) rfl ?_
  have hz := Option.some.inj hf
  subst hz
  exact R_zret (r := 1) (i := 42) rfl (by decide) kk
set_option maxRecDepth 100000 in
set_option maxHeartbeats 4000000 in
theorem f217_b24_l {d N : Nat} {x2 : Int32} {t0 : Int32} {t1 : Int32} {h : Hp} {Q : Option Value → Hp → Prop} {q : Int32} (hf : f217_b24 N x2 t0 t1 h = some q) (hW : WF 1 h) (hd : 2 ≤ d) (kk : Q (some (.int q)) h) : R 1 d 217 24 [some (.ref 0), none, some (.int x2), none, none, none, none] [.int t0, .int t1] h Q := by
  unfold f217_b24 at hf
  refine R_isub (i := 24) rfl ?_
  refine R_topi (fun v5 e5 => ?_)
  replace hf := bnd_some e5 hf
  refine R_istore [some (.ref 0), none, some (.int x2), none, none, none, some (.int v5)] (i := 25) rfl rfl ?_
  refine R_iload (i := 26) rfl rfl ?_
  refine R_ifeq (i := 27) rfl (fun c6 => ?_) (fun c6 => ?_)
  · rw [if_pos c6] at hf
    refine R_weak [none, none, none, none, none, none, none] ⟨Or.inl rfl, Or.inr rfl, Or.inl rfl, Or.inr rfl, Or.inr rfl, Or.inr rfl, Or.inl rfl, trivial⟩ ?_
    exact f217_b39_l hf hW hd kk
  · rw [if_neg c6] at hf
    refine R_aload_n (i := 28) rfl rfl ?_
    refine R_getF hW (i := 29) rfl rfl (Nat.le_of_ble_eq_true rfl) rfl ?_
    refine R_sipush (i := 30) rfl ?_
    refine R_iload (i := 31) rfl rfl ?_
    refine R_iconst (i := 32) rfl ?_
    refine R_isub (i := 33) rfl ?_
    refine R_imul (i := 34) rfl ?_
    refine R_iload_n (i := 35) rfl rfl ?_
    refine R_iadd (i := 36) rfl ?_
    have g7 := gd_some hf
    clear hf
    obtain ⟨g7, hf⟩ := g7
    refine R_zaload hW (i := 37) rfl rfl g7 ?_
    refine R_ifeq (i := 38) rfl (fun c8 => ?_) (fun c8 => ?_)
    · rw [if_pos c8] at hf
      refine R_iconst (i := 41) rfl ?_
      have hz := Option.some.inj hf
      subst hz
      exact R_zret (r := 0) (i := 42) rfl (by decide) kk
    · rw [if_neg c8] at hf
      refine R_weak [none, none, none, none, none, none, none] ⟨Or.inl rfl, Or.inr rfl, Or.inl rfl, Or.inr rfl, Or.inr rfl, Or.inr rfl, Or.inl rfl, trivial⟩ ?_
      exact f217_b39_l hf hW hd kk
set_option maxRecDepth 100000 in
set_option maxHeartbeats 4000000 in
theorem f217_b18_l {d N : Nat} {x2 : Int32} {t0 : Int32} {t1 : Int32} {h : Hp} {Q : Option Value → Hp → Prop} {q : Int32} (hf : f217_b18 N x2 t0 t1 h = some q) (hW : WF 1 h) (hd : 2 ≤ d) (kk : Q (some (.int q)) h) : R 1 d 217 18 [some (.ref 0), none, some (.int x2), none, none, none, none] [.int t0, .int t1] h Q := by
  obtain ⟨d, rfl⟩ : ∃ z, d = z + 1 := ⟨d - 1, by omega⟩
  unfold f217_b18 at hf
  refine R_iload_n (i := 18) rfl rfl ?_
  refine R_call (vs := [.int x2]) (st' := [.int t0, .int t1]) (i := 19) rfl (by decide) (by decide) rfl rfl (Nat.le_of_ble_eq_true rfl) rfl (f147_l (hh rfl hd) ?_)
  refine R_icmpgt (i := 20) rfl (fun c4 => ?_) (fun c4 => ?_)
  · rw [if_pos c4] at hf
    refine R_iconst (i := 23) rfl ?_
    exact f217_b24_l hf hW hd kk
  · rw [if_neg c4] at hf
    refine R_iconst (i := 21) rfl ?_
    refine R_goto (i := 22) rfl ?_
    exact f217_b24_l hf hW hd kk
set_option maxRecDepth 100000 in
set_option maxHeartbeats 4000000 in
theorem f217_l {d N : Nat} {p1 : Int32} {p2 : Int32} {p3 : Int32} {p4 : Int32} {h : Hp} {Q : Option Value → Hp → Prop} {q : Int32} (hf : f217 N p1 p2 p3 p4 h = some q) (hW : WF 1 h) (hd : 2 ≤ d) (kk : Q (some (.int q)) h) : R 1 d 217 0 [some (.ref 0), some (.int p1), some (.int p2), some (.int p3), some (.int p4), none, none] [] h Q := by
  obtain ⟨d, rfl⟩ : ∃ z, d = z + 1 := ⟨d - 1, by omega⟩
  unfold f217 at hf
  refine R_iload_n (i := 0) rfl rfl ?_
  refine R_call (vs := [.int p2]) (st' := []) (i := 1) rfl (by decide) (by decide) rfl rfl (Nat.le_of_ble_eq_true rfl) rfl (f196_l (hh rfl hd) ?_)
  refine R_ifne (i := 2) rfl (fun c1 => ?_) (fun c1 => ?_)
  · rw [if_neg c1] at hf
    refine R_aload_n (i := 5) rfl rfl ?_
    refine R_iload_n (i := 6) rfl rfl ?_
    refine R_call (vs := [.int p1]) (st' := [.ref 0]) (i := 7) rfl (by decide) (by decide) rfl rfl (Nat.le_of_ble_eq_true rfl) rfl (f145_l (hh rfl hd) ?_)
    refine R_iload_n (i := 8) rfl rfl ?_
    have zq2 := bind_some hf
    clear hf
    obtain ⟨q2, eq2, hf⟩ := zq2
    refine R_callV (vs := [.int (f145 p1), .int p3]) (st' := []) hW (i := 9) rfl rfl rfl (Nat.le_of_ble_eq_true rfl) rfl (Nat.le_of_ble_eq_true rfl) rfl (f199_l eq2 hW (hh rfl hd) ?_)
    refine R_istore [some (.ref 0), some (.int p1), some (.int p2), some (.int p3), some (.int p4), some (.int q2), none] (i := 10) rfl rfl ?_
    refine R_iload (i := 11) rfl rfl ?_
    refine R_iload (i := 12) rfl rfl ?_
    refine R_ifne (i := 13) rfl (fun c3 => ?_) (fun c3 => ?_)
    · rw [if_neg c3] at hf
      refine R_iload (i := 17) rfl rfl ?_
      refine R_weak [some (.ref 0), none, some (.int p2), none, none, none, none] ⟨Or.inr rfl, Or.inl rfl, Or.inr rfl, Or.inl rfl, Or.inl rfl, Or.inl rfl, Or.inr rfl, trivial⟩ ?_
      exact f217_b18_l hf hW hd kk
    · rw [if_pos c3] at hf
      refine R_aload_n (i := 14) rfl rfl ?_
      refine R_getI hW (i := 15) rfl rfl (Nat.le_of_ble_eq_true rfl) ?_
      refine R_goto (i := 16) rfl ?_
      refine R_weak [some (.ref 0), none, some (.int p2), none, none, none, none] ⟨Or.inr rfl, Or.inl rfl, Or.inr rfl, Or.inl rfl, Or.inl rfl, Or.inl rfl, Or.inr rfl, trivial⟩ ?_
      exact f217_b18_l hf hW hd kk
  · rw [if_pos c1] at hf
    refine R_iconst (i := 3) rfl ?_
    have hz := Option.some.inj hf
    subst hz
    exact R_zret (r := 0) (i := 4) rfl (by decide) kk
set_option maxRecDepth 100000 in
set_option maxHeartbeats 4000000 in
theorem f218_b52_l {d N : Nat} {x1 : Int32} {x2 : Int32} {x3 : Int32} {x4 : Int32} {x5 : Int32} {x6 : Int32} {x7 : Int32} {x8 : Int32} {h : Hp} {Q : Option Value → Hp → Prop} {j : Nat} {s' : Int32 × Int32 × Int32} (hf : f218_b52 N x1 x2 x3 x4 x5 x6 x7 x8 h = some (j, s')) (hW : WF 1 h) (hd : 3 ≤ d) (k0 : j = 0 → R 1 d 218 11 [some (.ref 0), some (.int x1), some (.int x2), some (.int x3), some (.int x4), some (.int x5), some (.int s'.1), some (.int s'.2.1), some (.int s'.2.2), none] [] h Q) (k1 : j = 1 → R 1 d 218 54 [some (.ref 0), some (.int x1), some (.int x2), some (.int x3), some (.int x4), some (.int x5), some (.int s'.1), some (.int s'.2.1), none, none] [] h Q) : R 1 d 218 52 [some (.ref 0), some (.int x1), some (.int x2), some (.int x3), some (.int x4), some (.int x5), some (.int x6), some (.int x7), some (.int x8), none] [] h Q := by
  unfold f218_b52 at hf
  obtain ⟨v9, e9⟩ : ∃ z : Int32, z = (x8 + (1 : Int32)) := ⟨_, rfl⟩
  replace hf := bnd_some e9 hf
  refine R_iinc [some (.ref 0), some (.int x1), some (.int x2), some (.int x3), some (.int x4), some (.int x5), some (.int x6), some (.int x7), some (.int v9), none] (i := 52) rfl rfl (by rw [← e9]; rfl) ?_
  refine R_goto (i := 53) rfl ?_
  obtain ⟨hj, hs⟩ := Prod.mk.inj (Option.some.inj hf)
  subst hj
  subst hs
  exact k0 rfl
set_option maxRecDepth 100000 in
set_option maxHeartbeats 4000000 in
theorem f218_b51_l {d N : Nat} {x1 : Int32} {x2 : Int32} {x3 : Int32} {x4 : Int32} {x5 : Int32} {x6 : Int32} {x8 : Int32} {t0 : Int32} {h : Hp} {Q : Option Value → Hp → Prop} {j : Nat} {s' : Int32 × Int32 × Int32} (hf : f218_b51 N x1 x2 x3 x4 x5 x6 x8 t0 h = some (j, s')) (hW : WF 1 h) (hd : 3 ≤ d) (k0 : j = 0 → R 1 d 218 11 [some (.ref 0), some (.int x1), some (.int x2), some (.int x3), some (.int x4), some (.int x5), some (.int s'.1), some (.int s'.2.1), some (.int s'.2.2), none] [] h Q) (k1 : j = 1 → R 1 d 218 54 [some (.ref 0), some (.int x1), some (.int x2), some (.int x3), some (.int x4), some (.int x5), some (.int s'.1), some (.int s'.2.1), none, none] [] h Q) : R 1 d 218 51 [some (.ref 0), some (.int x1), some (.int x2), some (.int x3), some (.int x4), some (.int x5), some (.int x6), none, some (.int x8), none] [.int t0] h Q := by
  unfold f218_b51 at hf
  refine R_istore [some (.ref 0), some (.int x1), some (.int x2), some (.int x3), some (.int x4), some (.int x5), some (.int x6), some (.int t0), some (.int x8), none] (i := 51) rfl rfl ?_
  exact f218_b52_l hf hW hd k0 k1
set_option maxRecDepth 100000 in
set_option maxHeartbeats 4000000 in
theorem f218_b48_l {d N : Nat} {x1 : Int32} {x2 : Int32} {x3 : Int32} {x4 : Int32} {x5 : Int32} {x6 : Int32} {x8 : Int32} {h : Hp} {Q : Option Value → Hp → Prop} {j : Nat} {s' : Int32 × Int32 × Int32} (hf : f218_b48 N x1 x2 x3 x4 x5 x6 x8 h = some (j, s')) (hW : WF 1 h) (hd : 3 ≤ d) (k0 : j = 0 → R 1 d 218 11 [some (.ref 0), some (.int x1), some (.int x2), some (.int x3), some (.int x4), some (.int x5), some (.int s'.1), some (.int s'.2.1), some (.int s'.2.2), none] [] h Q) (k1 : j = 1 → R 1 d 218 54 [some (.ref 0), some (.int x1), some (.int x2), some (.int x3), some (.int x4), some (.int x5), some (.int s'.1), some (.int s'.2.1), none, none] [] h Q) : R 1 d 218 48 [some (.ref 0), some (.int x1), some (.int x2), some (.int x3), some (.int x4), some (.int x5), some (.int x6), none, some (.int x8), none] [] h Q := by
  unfold f218_b48 at hf
  refine R_iconst (i := 48) rfl ?_
  refine R_goto (i := 49) rfl ?_
  exact f218_b51_l hf hW hd k0 k1
set_option maxRecDepth 100000 in
set_option maxHeartbeats 4000000 in
theorem f218_b43_l {d N : Nat} {x1 : Int32} {x2 : Int32} {x3 : Int32} {x4 : Int32} {x5 : Int32} {x7 : Int32} {x8 : Int32} {x9 : Int32} {t0 : Int32} {h : Hp} {Q : Option Value → Hp → Prop} {j : Nat} {s' : Int32 × Int32 × Int32} (hf : f218_b43 N x1 x2 x3 x4 x5 x7 x8 x9 t0 h = some (j, s')) (hW : WF 1 h) (hd : 3 ≤ d) (k0 : j = 0 → R 1 d 218 11 [some (.ref 0), some (.int x1), some (.int x2), some (.int x3), some (.int x4), some (.int x5), some (.int s'.1), some (.int s'.2.1), some (.int s'.2.2), none] [] h Q) (k1 : j = 1 → R 1 d 218 54 [some (.ref 0), some (.int x1), some (.int x2), some (.int x3), some (.int x4), some (.int x5), some (.int s'.1), some (.int s'.2.1), none, none] [] h Q) : R 1 d 218 43 [some (.ref 0), some (.int x1), some (.int x2), some (.int x3), some (.int x4), some (.int x5), none, some (.int x7), some (.int x8), some (.int x9)] [.int t0] h Q := by
  unfold f218_b43 at hf
  refine R_istore [some (.ref 0), some (.int x1), some (.int x2), some (.int x3), some (.int x4), some (.int x5), some (.int t0), some (.int x7), some (.int x8), some (.int x9)] (i := 43) rfl rfl ?_
  refine R_iload (i := 44) rfl rfl ?_
  refine R_ifne (i := 45) rfl (fun c8 => ?_) (fun c8 => ?_)
  · rw [if_neg c8] at hf
    refine R_weak [some (.ref 0), some (.int x1), some (.int x2), some (.int x3), some (.int x4), some (.int x5), some (.int t0), none, some (.int x8), none] ⟨Or.inr rfl, Or.inr rfl, Or.inr rfl, Or.inr rfl, Or.inr rfl, Or.inr rfl, Or.inr rfl, Or.inl rfl, Or.inr rfl, Or.inl rfl, trivial⟩ ?_
    exact f218_b48_l hf hW hd k0 k1
  · rw [if_pos c8] at hf
    refine R_iload (i := 46) rfl rfl ?_
    refine R_ifeq (i := 47) rfl (fun c10 => ?_) (fun c10 => ?_)
    · rw [if_pos c10] at hf
      refine R_iconst (i := 50) rfl ?_
      refine R_weak [some (.ref 0), some (.int x1), some (.int x2), some (.int x3), some (.int x4), some (.int x5), some (.int t0), none, some (.int x8), none] ⟨Or.inr rfl, Or.inr rfl, Or.inr rfl, Or.inr rfl, Or.inr rfl, Or.inr rfl, Or.inr rfl, Or.inl rfl, Or.inr rfl, Or.inl rfl, trivial⟩ ?_
      exact f218_b51_l hf hW hd k0 k1
    · rw [if_neg c10] at hf
      refine R_weak [some (.ref 0), some (.int x1), some (.int x2), some (.int x3), some (.int x4), some (.int x5), some (.int t0), none, some (.int x8), none] ⟨Or.inr rfl, Or.inr rfl, Or.inr rfl, Or.inr rfl, Or.inr rfl, Or.inr rfl, Or.inr rfl, Or.inl rfl, Or.inr rfl, Or.inl rfl, trivial⟩ ?_
      exact f218_b48_l hf hW hd k0 k1
set_option maxRecDepth 100000 in
set_option maxHeartbeats 4000000 in
theorem f218_b42_l {d N : Nat} {x1 : Int32} {x2 : Int32} {x3 : Int32} {x4 : Int32} {x5 : Int32} {x7 : Int32} {x8 : Int32} {x9 : Int32} {h : Hp} {Q : Option Value → Hp → Prop} {j : Nat} {s' : Int32 × Int32 × Int32} (hf : f218_b42 N x1 x2 x3 x4 x5 x7 x8 x9 h = some (j, s')) (hW : WF 1 h) (hd : 3 ≤ d) (k0 : j = 0 → R 1 d 218 11 [some (.ref 0), some (.int x1), some (.int x2), some (.int x3), some (.int x4), some (.int x5), some (.int s'.1), some (.int s'.2.1), some (.int s'.2.2), none] [] h Q) (k1 : j = 1 → R 1 d 218 54 [some (.ref 0), some (.int x1), some (.int x2), some (.int x3), some (.int x4), some (.int x5), some (.int s'.1), some (.int s'.2.1), none, none] [] h Q) : R 1 d 218 42 [some (.ref 0), some (.int x1), some (.int x2), some (.int x3), some (.int x4), some (.int x5), none, some (.int x7), some (.int x8), some (.int x9)] [] h Q := by
  unfold f218_b42 at hf
  refine R_iconst (i := 42) rfl ?_
  exact f218_b43_l hf hW hd k0 k1
set_option maxRecDepth 100000 in
set_option maxHeartbeats 4000000 in
theorem f218_l11_l {d N : Nat} {x1 : Int32} {x2 : Int32} {x3 : Int32} {x4 : Int32} {x5 : Int32} {h : Hp} {s : Int32 × Int32 × Int32} {Q : Option Value → Hp → Prop} {j : Nat} {s' : Int32 × Int32 × Int32} (hf : f218_l11 N x1 x2 x3 x4 x5 h s = some (j, s')) (hW : WF 1 h) (hd : 3 ≤ d) (k0 : j = 0 → R 1 d 218 11 [some (.ref 0), some (.int x1), some (.int x2), some (.int x3), some (.int x4), some (.int x5), some (.int s'.1), some (.int s'.2.1), some (.int s'.2.2), none] [] h Q) (k1 : j = 1 → R 1 d 218 54 [some (.ref 0), some (.int x1), some (.int x2), some (.int x3), some (.int x4), some (.int x5), some (.int s'.1), some (.int s'.2.1), none, none] [] h Q) : R 1 d 218 11 [some (.ref 0), some (.int x1), some (.int x2), some (.int x3), some (.int x4), some (.int x5), some (.int s.1), some (.int s.2.1), some (.int s.2.2), none] [] h Q := by
  obtain ⟨d, rfl⟩ : ∃ z, d = z + 1 := ⟨d - 1, by omega⟩
  unfold f218_l11 at hf
  refine R_iload (i := 11) rfl rfl ?_
  refine R_iconst (i := 12) rfl ?_
  refine R_icmpge (i := 13) rfl (fun c2 => ?_) (fun c2 => ?_)
  · rw [if_pos c2] at hf
    obtain ⟨hj, hs⟩ := Prod.mk.inj (Option.some.inj hf)
    subst hj
    subst hs
    refine R_weak [some (.ref 0), some (.int x1), some (.int x2), some (.int x3), some (.int x4), some (.int x5), some (.int s.1), some (.int s.2.1), none, none] ⟨Or.inr rfl, Or.inr rfl, Or.inr rfl, Or.inr rfl, Or.inr rfl, Or.inr rfl, Or.inr rfl, Or.inr rfl, Or.inl rfl, Or.inr rfl, trivial⟩ ?_
    exact k1 rfl
  · rw [if_neg c2] at hf
    refine R_aload_n (i := 14) rfl rfl ?_
    refine R_getF hW (i := 15) rfl rfl (Nat.le_of_ble_eq_true rfl) rfl ?_
    refine R_bipush (i := 16) rfl ?_
    refine R_iload_n (i := 17) rfl rfl ?_
    refine R_call (vs := [.int x1]) (st' := [.int (20 : Int32), .ref 1]) (i := 18) rfl (by decide) (by decide) rfl rfl (Nat.le_of_ble_eq_true rfl) rfl (f146_l (hh rfl hd) ?_)
    refine R_iadd (i := 19) rfl ?_
    have g3 := gd_some hf
    clear hf
    obtain ⟨g3, hf⟩ := g3
    refine R_iaload hW (i := 20) rfl rfl g3 ?_
    refine R_iload (i := 21) rfl rfl ?_
    refine R_call (vs := [.int (hI h 1 (ix ((20 : Int32) + (f146 x1)))), .int s.2.2]) (st' := []) (i := 22) rfl (by decide) (by decide) rfl rfl (Nat.le_of_ble_eq_true rfl) rfl (f141_l (hh rfl hd) ?_)
    refine R_ifne (i := 23) rfl (fun c4 => ?_) (fun c4 => ?_)
    · rw [if_neg c4] at hf
      refine R_aload_n (i := 25) rfl rfl ?_
      refine R_iload_n (i := 26) rfl rfl ?_
      refine R_aload_n (i := 27) rfl rfl ?_
      refine R_iload_n (i := 28) rfl rfl ?_
      refine R_iload (i := 29) rfl rfl ?_
      refine R_iload (i := 30) rfl rfl ?_
      have zq5 := bind_some hf
      clear hf
      obtain ⟨q5, eq5, hf⟩ := zq5
      refine R_callV (vs := [.int x1, .int x5, .int s.2.2]) (st' := [.int x1, .ref 0]) hW (i := 31) rfl rfl rfl (Nat.le_of_ble_eq_true rfl) rfl (Nat.le_of_ble_eq_true rfl) rfl (f195_l eq5 hW (hh rfl hd) ?_)
      refine R_iload_n (i := 32) rfl rfl ?_
      refine R_iload_n (i := 33) rfl rfl ?_
      have zq6 := bind_some hf
      clear hf
      obtain ⟨q6, eq6, hf⟩ := zq6
      refine R_callV (vs := [.int x1, .int q5, .int x2, .int x3]) (st' := []) hW (i := 34) rfl rfl rfl (Nat.le_of_ble_eq_true rfl) rfl (Nat.le_of_ble_eq_true rfl) rfl (f217_l eq6 hW (hh rfl hd) ?_)
      refine R_istore [some (.ref 0), some (.int x1), some (.int x2), some (.int x3), some (.int x4), some (.int x5), some (.int s.1), some (.int s.2.1), some (.int s.2.2), some (.int q6)] (i := 35) rfl rfl ?_
      refine R_iload (i := 36) rfl rfl ?_
      refine R_ifeq (i := 37) rfl (fun c7 => ?_) (fun c7 => ?_)
      · rw [if_pos c7] at hf
        refine R_weak [some (.ref 0), some (.int x1), some (.int x2), some (.int x3), some (.int x4), some (.int x5), none, some (.int s.2.1), some (.int s.2.2), some (.int q6)] ⟨Or.inr rfl, Or.inr rfl, Or.inr rfl, Or.inr rfl, Or.inr rfl, Or.inr rfl, Or.inl rfl, Or.inr rfl, Or.inr rfl, Or.inr rfl, trivial⟩ ?_
        exact f218_b42_l hf hW hd k0 k1
      · rw [if_neg c7] at hf
        refine R_iload (i := 38) rfl rfl ?_
        refine R_ifeq (i := 39) rfl (fun c11 => ?_) (fun c11 => ?_)
        · rw [if_pos c11] at hf
          refine R_weak [some (.ref 0), some (.int x1), some (.int x2), some (.int x3), some (.int x4), some (.int x5), none, some (.int s.2.1), some (.int s.2.2), some (.int q6)] ⟨Or.inr rfl, Or.inr rfl, Or.inr rfl, Or.inr rfl, Or.inr rfl, Or.inr rfl, Or.inl rfl, Or.inr rfl, Or.inr rfl, Or.inr rfl, trivial⟩ ?_
          exact f218_b42_l hf hW hd k0 k1
        · rw [if_neg c11] at hf
          refine R_iconst (i := 40) rfl ?_
          refine R_goto (i := 41) rfl ?_
          refine R_weak [some (.ref 0), some (.int x1), some (.int x2), some (.int x3), some (.int x4), some (.int x5), none, some (.int s.2.1), some (.int s.2.2), some (.int q6)] ⟨Or.inr rfl, Or.inr rfl, Or.inr rfl, Or.inr rfl, Or.inr rfl, Or.inr rfl, Or.inl rfl, Or.inr rfl, Or.inr rfl, Or.inr rfl, trivial⟩ ?_
          exact f218_b43_l hf hW hd k0 k1
    · rw [if_pos c4] at hf
      refine R_goto (i := 24) rfl ?_
      exact f218_b52_l hf hW hd k0 k1
set_option maxRecDepth 100000 in
set_option maxHeartbeats 4000000 in
theorem f218_b63_l {d N : Nat} {x1 : Int32} {x2 : Int32} {x3 : Int32} {x4 : Int32} {x5 : Int32} {h : Hp} {Q : Option Value → Hp → Prop} {j : Nat} {s' : Int32} (hf : f218_b63 N x1 x2 x3 x4 x5 h = some (j, s')) (hW : WF 1 h) (hd : 3 ≤ d) (k0 : j = 0 → R 1 d 218 2 [some (.ref 0), some (.int x1), some (.int x2), some (.int x3), some (.int x4), some (.int s'), none, none, none, none] [] h Q) (k1 : j = 1 → R 1 d 218 58 [none, none, none, none, none, none, none, none, none, none] [] h Q) (k2 : j = 2 → R 1 d 218 61 [none, none, none, none, none, none, none, none, none, none] [] h Q) (k3 : j = 3 → R 1 d 218 65 [none, none, none, none, none, none, none, none, none, none] [] h Q) : R 1 d 218 63 [some (.ref 0), some (.int x1), some (.int x2), some (.int x3), some (.int x4), some (.int x5), none, none, none, none] [] h Q := by
  unfold f218_b63 at hf
  obtain ⟨v15, e15⟩ : ∃ z : Int32, z = (x5 + (1 : Int32)) := ⟨_, rfl⟩
  replace hf := bnd_some e15 hf
  refine R_iinc [some (.ref 0), some (.int x1), some (.int x2), some (.int x3), some (.int x4), some (.int v15), none, none, none, none] (i := 63) rfl rfl (by rw [← e15]; rfl) ?_
  refine R_goto (i := 64) rfl ?_
  obtain ⟨hj, hs⟩ := Prod.mk.inj (Option.some.inj hf)
  subst hj
  subst hs
  exact k0 rfl
set_option maxRecDepth 100000 in
set_option maxHeartbeats 4000000 in
theorem f218_l2_l {d N : Nat} {x1 : Int32} {x2 : Int32} {x3 : Int32} {x4 : Int32} {h : Hp} {s : Int32} {Q : Option Value → Hp → Prop} {j : Nat} {s' : Int32} (hf : f218_l2 N x1 x2 x3 x4 h s = some (j, s')) (hW : WF 1 h) (hd : 3 ≤ d) (k0 : j = 0 → R 1 d 218 2 [some (.ref 0), some (.int x1), some (.int x2), some (.int x3), some (.int x4), some (.int s'), none, none, none, none] [] h Q) (k1 : j = 1 → R 1 d 218 58 [none, none, none, none, none, none, none, none, none, none] [] h Q) (k2 : j = 2 → R 1 d 218 61 [none, none, none, none, none, none, none, none, none, none] [] h Q) (k3 : j = 3 → R 1 d 218 65 [none, none, none, none, none, none, none, none, none, none] [] h Q) : R 1 d 218 2 [some (.ref 0), some (.int x1), some (.int x2), some (.int x3), some (.int x4), some (.int s), none, none, none, none] [] h Q := by
  unfold f218_l2 at hf
  refine R_iload (i := 2) rfl rfl ?_
  refine R_bipush (i := 3) rfl ?_
  refine R_icmpge (i := 4) rfl (fun c1 => ?_) (fun c1 => ?_)
  · rw [if_pos c1] at hf
    obtain ⟨hj, hs⟩ := Prod.mk.inj (Option.some.inj hf)
    subst hj
    subst hs
    refine R_weak [none, none, none, none, none, none, none, none, none, none] ⟨Or.inl rfl, Or.inl rfl, Or.inl rfl, Or.inl rfl, Or.inl rfl, Or.inl rfl, Or.inr rfl, Or.inr rfl, Or.inr rfl, Or.inr rfl, trivial⟩ ?_
    exact k3 rfl
  · rw [if_neg c1] at hf
    refine R_iconst (i := 5) rfl ?_
    refine R_istore [some (.ref 0), some (.int x1), some (.int x2), some (.int x3), some (.int x4), some (.int s), some (.int (1 : Int32)), none, none, none] (i := 6) rfl rfl ?_
    refine R_iconst (i := 7) rfl ?_
    refine R_istore [some (.ref 0), some (.int x1), some (.int x2), some (.int x3), some (.int x4), some (.int s), some (.int (1 : Int32)), some (.int (0 : Int32)), none, none] (i := 8) rfl rfl ?_
    refine R_iconst (i := 9) rfl ?_
    refine R_istore [some (.ref 0), some (.int x1), some (.int x2), some (.int x3), some (.int x4), some (.int s), some (.int (1 : Int32)), some (.int (0 : Int32)), some (.int (0 : Int32)), none] (i := 10) rfl rfl ?_
    have zq12 := bind_some hf
    clear hf
    obtain ⟨q12, eq12, hf⟩ := zq12
    refine lp_link (P := fun u11 => R 1 d 218 11 [some (.ref 0), some (.int x1), some (.int x2), some (.int x3), some (.int x4), some (.int s), some (.int u11.1), some (.int u11.2.1), some (.int u11.2.2), none] [] h Q) (E := fun e u11 => R 1 d 218 54 [some (.ref 0), some (.int x1), some (.int x2), some (.int x3), some (.int x4), some (.int s), some (.int u11.1), some (.int u11.2.1), none, none] [] h Q) (fun s j s' hb k0 ke => f218_l11_l hb hW hd k0 (fun z => ke 0 z)) N ((1 : Int32), (0 : Int32), (0 : Int32)) q12.1 q12.2 eq12 ?_
    refine R_iload (i := 54) rfl rfl ?_
    refine R_ifeq (i := 55) rfl (fun c13 => ?_) (fun c13 => ?_)
    · rw [if_pos c13] at hf
      refine R_iload (i := 59) rfl rfl ?_
      refine R_ifeq (i := 60) rfl (fun c14 => ?_) (fun c14 => ?_)
      · rw [if_pos c14] at hf
        refine R_weak [some (.ref 0), some (.int x1), some (.int x2), some (.int x3), some (.int x4), some (.int s), none, none, none, none] ⟨Or.inr rfl, Or.inr rfl, Or.inr rfl, Or.inr rfl, Or.inr rfl, Or.inr rfl, Or.inl rfl, Or.inl rfl, Or.inr rfl, Or.inr rfl, trivial⟩ ?_
        exact f218_b63_l hf hW hd k0 k1 k2 k3
      · rw [if_neg c14] at hf
        obtain ⟨hj, hs⟩ := Prod.mk.inj (Option.some.inj hf)
        subst hj
        subst hs
        refine R_weak [none, none, none, none, none, none, none, none, none, none] ⟨Or.inl rfl, Or.inl rfl, Or.inl rfl, Or.inl rfl, Or.inl rfl, Or.inl rfl, Or.inl rfl, Or.inl rfl, Or.inr rfl, Or.inr rfl, trivial⟩ ?_
        exact k2 rfl
    · rw [if_neg c13] at hf
      refine R_iload (i := 56) rfl rfl ?_
      refine R_ifeq (i := 57) rfl (fun c16 => ?_) (fun c16 => ?_)
      · rw [if_pos c16] at hf
        refine R_weak [some (.ref 0), some (.int x1), some (.int x2), some (.int x3), some (.int x4), some (.int s), none, none, none, none] ⟨Or.inr rfl, Or.inr rfl, Or.inr rfl, Or.inr rfl, Or.inr rfl, Or.inr rfl, Or.inl rfl, Or.inl rfl, Or.inr rfl, Or.inr rfl, trivial⟩ ?_
        exact f218_b63_l hf hW hd k0 k1 k2 k3
      · rw [if_neg c16] at hf
        obtain ⟨hj, hs⟩ := Prod.mk.inj (Option.some.inj hf)
        subst hj
        subst hs
        refine R_weak [none, none, none, none, none, none, none, none, none, none] ⟨Or.inl rfl, Or.inl rfl, Or.inl rfl, Or.inl rfl, Or.inl rfl, Or.inl rfl, Or.inl rfl, Or.inl rfl, Or.inr rfl, Or.inr rfl, trivial⟩ ?_
        exact k1 rfl
set_option maxRecDepth 100000 in
set_option maxHeartbeats 4000000 in
theorem f218_l {d N : Nat} {p1 : Int32} {p2 : Int32} {p3 : Int32} {p4 : Int32} {h : Hp} {Q : Option Value → Hp → Prop} {q : Int32} (hf : f218 N p1 p2 p3 p4 h = some q) (hW : WF 1 h) (hd : 3 ≤ d) (kk : Q (some (.int q)) h) : R 1 d 218 0 [some (.ref 0), some (.int p1), some (.int p2), some (.int p3), some (.int p4), none, none, none, none, none] [] h Q := by
  unfold f218 at hf
  refine R_iconst (i := 0) rfl ?_
  refine R_istore [some (.ref 0), some (.int p1), some (.int p2), some (.int p3), some (.int p4), some (.int (0 : Int32)), none, none, none, none] (i := 1) rfl rfl ?_
  have zq17 := bind_some hf
  clear hf
  obtain ⟨q17, eq17, hf⟩ := zq17
  refine lp_link (P := fun u2 => R 1 d 218 2 [some (.ref 0), some (.int p1), some (.int p2), some (.int p3), some (.int p4), some (.int u2), none, none, none, none] [] h Q) (E := fun e u2 => ((e = 0 → R 1 d 218 58 [none, none, none, none, none, none, none, none, none, none] [] h Q) ∧ (e = 1 → R 1 d 218 61 [none, none, none, none, none, none, none, none, none, none] [] h Q) ∧ (e = 2 → R 1 d 218 65 [none, none, none, none, none, none, none, none, none, none] [] h Q))) (fun s j s' hb k0 ke => f218_l2_l hb hW hd k0 (fun z => (ke 0 z).1 rfl) (fun z => (ke 1 z).2.1 rfl) (fun z => (ke 2 z).2.2 rfl)) N (0 : Int32) q17.1 q17.2 eq17 ?_
  refine ⟨fun z => ?_, fun z => ?_, fun z => ?_⟩
  · rw [if_pos z] at hf
    refine R_goto (i := 58) rfl ?_
    refine R_iconst (i := 61) rfl ?_
    have hz := Option.some.inj hf
    subst hz
    exact R_zret (r := 1) (i := 62) rfl (by decide) kk
  · rw [if_neg (by rw [z]; decide), if_pos z] at hf
    refine R_iconst (i := 61) rfl ?_
    have hz := Option.some.inj hf
    subst hz
    exact R_zret (r := 1) (i := 62) rfl (by decide) kk
  · rw [if_neg (by rw [z]; decide), if_neg (by rw [z]; decide)] at hf
    refine R_iconst (i := 65) rfl ?_
    have hz := Option.some.inj hf
    subst hz
    exact R_zret (r := 0) (i := 66) rfl (by decide) kk
set_option maxRecDepth 100000 in
set_option maxHeartbeats 4000000 in
theorem f219_l19_l {d N : Nat} {x1 : Int32} {x2 : Int32} {x3 : Int32} {x4 : Int32} {s : Int32 × Hp} {Q : Option Value → Hp → Prop} {j : Nat} {s' : Int32 × Hp} (hf : f219_l19 N x1 x2 x3 x4 s = some (j, s')) (hW : WF 1 s.2) (hd : 9 ≤ d) (k0 : j = 0 → WF 1 s'.2 → R 1 d 219 19 [some (.ref 0), some (.int x1), some (.int x2), some (.int x3), some (.int x4), some (.int s'.1), none] [] s'.2 Q) (k1 : j = 1 → WF 1 s'.2 → R 1 d 219 29 [some (.ref 0), some (.int x1), some (.int x2), some (.int x3), some (.int x4), none, none] [] s'.2 Q) : R 1 d 219 19 [some (.ref 0), some (.int x1), some (.int x2), some (.int x3), some (.int x4), some (.int s.1), none] [] s.2 Q := by
  unfold f219_l19 at hf
  refine R_iload (i := 19) rfl rfl ?_
  refine R_sipush (i := 20) rfl ?_
  refine R_icmpge (i := 21) rfl (fun c7 => ?_) (fun c7 => ?_)
  · rw [if_pos c7] at hf
    obtain ⟨hj, hs⟩ := Prod.mk.inj (Option.some.inj hf)
    subst hj
    subst hs
    refine R_weak [some (.ref 0), some (.int x1), some (.int x2), some (.int x3), some (.int x4), none, none] ⟨Or.inr rfl, Or.inr rfl, Or.inr rfl, Or.inr rfl, Or.inr rfl, Or.inl rfl, Or.inr rfl, trivial⟩ ?_
    exact k1 rfl hW
  · rw [if_neg c7] at hf
    refine R_aload_n (i := 22) rfl rfl ?_
    refine R_getF hW (i := 23) rfl rfl (Nat.le_of_ble_eq_true rfl) rfl ?_
    refine R_iload (i := 24) rfl rfl ?_
    refine R_iconst (i := 25) rfl ?_
    have g8 := gd_some hf
    clear hf
    obtain ⟨g8, hf⟩ := g8
    refine R_zastore hW (i := 26) rfl rfl g8 (hg rfl hd) (fun h9 eh9 => ?_)
    replace hf := bnd_some eh9 hf
    have hW9 : WF 1 h9 := by rw [eh9]; exact hW
    obtain ⟨v10, e10⟩ : ∃ z : Int32, z = (s.1 + (1 : Int32)) := ⟨_, rfl⟩
    replace hf := bnd_some e10 hf
    refine R_iinc [some (.ref 0), some (.int x1), some (.int x2), some (.int x3), some (.int x4), some (.int v10), none] (i := 27) rfl rfl (by rw [← e10]; rfl) ?_
    refine R_goto (i := 28) rfl ?_
    obtain ⟨hj, hs⟩ := Prod.mk.inj (Option.some.inj hf)
    subst hj
    subst hs
    exact k0 rfl hW9
set_option maxRecDepth 100000 in
set_option maxHeartbeats 4000000 in
theorem f219_b71_l {d N : Nat} {x1 : Int32} {x2 : Int32} {x3 : Int32} {x4 : Int32} {x5 : Int32} {x6 : Int32} {t0 : Int32} {t1 : Int32} {h : Hp} {Q : Option Value → Hp → Prop} {j : Nat} {s' : Int32 × Hp} (hf : f219_b71 N x1 x2 x3 x4 x5 x6 t0 t1 h = some (j, s')) (hW : WF 1 h) (hd : 9 ≤ d) (k0 : j = 0 → WF 1 s'.2 → R 1 d 219 36 [some (.ref 0), some (.int x1), some (.int x2), some (.int x3), some (.int x4), some (.int x5), some (.int s'.1)] [] s'.2 Q) (k1 : j = 1 → WF 1 s'.2 → R 1 d 219 74 [some (.ref 0), some (.int x1), some (.int x2), some (.int x3), some (.int x4), some (.int x5), none] [] s'.2 Q) : R 1 d 219 71 [some (.ref 0), some (.int x1), some (.int x2), some (.int x3), some (.int x4), some (.int x5), some (.int x6)] [.int t0, .int t1, .ref 14] h Q := by
  unfold f219_b71 at hf
  have g16 := gd_some hf
  clear hf
  obtain ⟨g16, hf⟩ := g16
  refine R_zastore hW (i := 71) rfl rfl g16 (hg rfl hd) (fun h17 eh17 => ?_)
  replace hf := bnd_some eh17 hf
  have hW17 : WF 1 h17 := by rw [eh17]; exact hW
  obtain ⟨v18, e18⟩ : ∃ z : Int32, z = (x6 + (1 : Int32)) := ⟨_, rfl⟩
  replace hf := bnd_some e18 hf
  refine R_iinc [some (.ref 0), some (.int x1), some (.int x2), some (.int x3), some (.int x4), some (.int x5), some (.int v18)] (i := 72) rfl rfl (by rw [← e18]; rfl) ?_
  refine R_goto (i := 73) rfl ?_
  obtain ⟨hj, hs⟩ := Prod.mk.inj (Option.some.inj hf)
  subst hj
  subst hs
  exact k0 rfl hW17
set_option maxRecDepth 100000 in
set_option maxHeartbeats 4000000 in
theorem f219_b70_l {d N : Nat} {x1 : Int32} {x2 : Int32} {x3 : Int32} {x4 : Int32} {x5 : Int32} {x6 : Int32} {t0 : Int32} {h : Hp} {Q : Option Value → Hp → Prop} {j : Nat} {s' : Int32 × Hp} (hf : f219_b70 N x1 x2 x3 x4 x5 x6 t0 h = some (j, s')) (hW : WF 1 h) (hd : 9 ≤ d) (k0 : j = 0 → WF 1 s'.2 → R 1 d 219 36 [some (.ref 0), some (.int x1), some (.int x2), some (.int x3), some (.int x4), some (.int x5), some (.int s'.1)] [] s'.2 Q) (k1 : j = 1 → WF 1 s'.2 → R 1 d 219 74 [some (.ref 0), some (.int x1), some (.int x2), some (.int x3), some (.int x4), some (.int x5), none] [] s'.2 Q) : R 1 d 219 70 [some (.ref 0), some (.int x1), some (.int x2), some (.int x3), some (.int x4), some (.int x5), some (.int x6)] [.int t0, .ref 14] h Q := by
  unfold f219_b70 at hf
  refine R_iconst (i := 70) rfl ?_
  exact f219_b71_l hf hW hd k0 k1
set_option maxRecDepth 100000 in
set_option maxHeartbeats 4000000 in
theorem f219_b68_l {d N : Nat} {x1 : Int32} {x2 : Int32} {x3 : Int32} {x4 : Int32} {x5 : Int32} {x6 : Int32} {t0 : Int32} {h : Hp} {Q : Option Value → Hp → Prop} {j : Nat} {s' : Int32 × Hp} (hf : f219_b68 N x1 x2 x3 x4 x5 x6 t0 h = some (j, s')) (hW : WF 1 h) (hd : 9 ≤ d) (k0 : j = 0 → WF 1 s'.2 → R 1 d 219 36 [some (.ref 0), some (.int x1), some (.int x2), some (.int x3), some (.int x4), some (.int x5), some (.int s'.1)] [] s'.2 Q) (k1 : j = 1 → WF 1 s'.2 → R 1 d 219 74 [some (.ref 0), some (.int x1), some (.int x2), some (.int x3), some (.int x4), some (.int x5), none] [] s'.2 Q) : R 1 d 219 68 [some (.ref 0), some (.int x1), some (.int x2), some (.int x3), some (.int x4), some (.int x5), some (.int x6)] [.int t0, .ref 14] h Q := by
  unfold f219_b68 at hf
  refine R_iconst (i := 68) rfl ?_
  refine R_goto (i := 69) rfl ?_
  exact f219_b71_l hf hW hd k0 k1
set_option maxRecDepth 100000 in
set_option maxHeartbeats 4000000 in
theorem f219_l36_l {d N : Nat} {x1 : Int32} {x2 : Int32} {x3 : Int32} {x4 : Int32} {x5 : Int32} {s : Int32 × Hp} {Q : Option Value → Hp → Prop} {j : Nat} {s' : Int32 × Hp} (hf : f219_l36 N x1 x2 x3 x4 x5 s = some (j, s')) (hW : WF 1 s.2) (hd : 9 ≤ d) (k0 : j = 0 → WF 1 s'.2 → R 1 d 219 36 [some (.ref 0), some (.int x1), some (.int x2), some (.int x3), some (.int x4), some (.int x5), some (.int s'.1)] [] s'.2 Q) (k1 : j = 1 → WF 1 s'.2 → R 1 d 219 74 [some (.ref 0), some (.int x1), some (.int x2), some (.int x3), some (.int x4), some (.int x5), none] [] s'.2 Q) : R 1 d 219 36 [some (.ref 0), some (.int x1), some (.int x2), some (.int x3), some (.int x4), some (.int x5), some (.int s.1)] [] s.2 Q := by
  obtain ⟨d, rfl⟩ : ∃ z, d = z + 1 := ⟨d - 1, by omega⟩
  unfold f219_l36 at hf
  refine R_iload (i := 36) rfl rfl ?_
  refine R_sipush (i := 37) rfl ?_
  refine R_iload_n (i := 38) rfl rfl ?_
  refine R_imul (i := 39) rfl ?_
  refine R_icmpge (i := 40) rfl (fun c13 => ?_) (fun c13 => ?_)
  · rw [if_pos c13] at hf
    obtain ⟨hj, hs⟩ := Prod.mk.inj (Option.some.inj hf)
    subst hj
    subst hs
    refine R_weak [some (.ref 0), some (.int x1), some (.int x2), some (.int x3), some (.int x4), some (.int x5), none] ⟨Or.inr rfl, Or.inr rfl, Or.inr rfl, Or.inr rfl, Or.inr rfl, Or.inr rfl, Or.inl rfl, trivial⟩ ?_
    exact k1 rfl hW
  · rw [if_neg c13] at hf
    refine R_aload_n (i := 41) rfl rfl ?_
    refine R_getF hW (i := 42) rfl rfl (Nat.le_of_ble_eq_true rfl) rfl ?_
    refine R_iload (i := 43) rfl rfl ?_
    refine R_aload_n (i := 44) rfl rfl ?_
    refine R_iload (i := 45) rfl rfl ?_
    refine R_sipush (i := 46) rfl ?_
    refine R_irem (i := 47) rfl (by decide) ?_
    have zq14 := bind_some hf
    clear hf
    obtain ⟨q14, eq14, hf⟩ := zq14
    refine R_callV (vs := [.int (irem s.1 (1440 : Int32))]) (st' := [.int s.1, .ref 14]) hW (i := 48) rfl rfl rfl (Nat.le_of_ble_eq_true rfl) rfl (Nat.le_of_ble_eq_true rfl) rfl (f148_l eq14 hW (hh rfl hd) ?_)
    refine R_ifeq (i := 49) rfl (fun c15 => ?_) (fun c15 => ?_)
    · rw [if_pos c15] at hf
      exact f219_b70_l hf hW hd k0 k1
    · rw [if_neg c15] at hf
      refine R_aload_n (i := 50) rfl rfl ?_
      refine R_getF hW (i := 51) rfl rfl (Nat.le_of_ble_eq_true rfl) rfl ?_
      refine R_iload (i := 52) rfl rfl ?_
      have g19 := gd_some hf
      clear hf
      obtain ⟨g19, hf⟩ := g19
      refine R_zaload hW (i := 53) rfl rfl g19 ?_
      refine R_ifne (i := 54) rfl (fun c20 => ?_) (fun c20 => ?_)
      · rw [if_neg c20] at hf
        exact f219_b68_l hf hW hd k0 k1
      · rw [if_pos c20] at hf
        refine R_aload_n (i := 55) rfl rfl ?_
        refine R_iload (i := 56) rfl rfl ?_
        refine R_sipush (i := 57) rfl ?_
        refine R_irem (i := 58) rfl (by decide) ?_
        refine R_iload_n (i := 59) rfl rfl ?_
        refine R_iload (i := 60) rfl rfl ?_
        refine R_sipush (i := 61) rfl ?_
        refine R_idiv (i := 62) rfl (by decide) ?_
        refine R_iconst (i := 63) rfl ?_
        refine R_iadd (i := 64) rfl ?_
        refine R_iload (i := 65) rfl rfl ?_
        have zq21 := bind_some hf
        clear hf
        obtain ⟨q21, eq21, hf⟩ := zq21
        refine R_callV (vs := [.int (irem s.1 (1440 : Int32)), .int x2, .int ((s.1 / (1440 : Int32)) + (1 : Int32)), .int x4]) (st' := [.int s.1, .ref 14]) hW (i := 66) rfl rfl rfl (Nat.le_of_ble_eq_true rfl) rfl (Nat.le_of_ble_eq_true rfl) rfl (f218_l eq21 hW (hh rfl hd) ?_)
        refine R_ifeq (i := 67) rfl (fun c22 => ?_) (fun c22 => ?_)
        · rw [if_pos c22] at hf
          exact f219_b70_l hf hW hd k0 k1
        · rw [if_neg c22] at hf
          exact f219_b68_l hf hW hd k0 k1
set_option maxRecDepth 100000 in
set_option maxHeartbeats 4000000 in
theorem f219_l76_l {d N : Nat} {x1 : Int32} {x2 : Int32} {x3 : Int32} {x4 : Int32} {x5 : Int32} {s : Int32 × Hp} {Q : Option Value → Hp → Prop} {j : Nat} {s' : Int32 × Hp} (hf : f219_l76 N x1 x2 x3 x4 x5 s = some (j, s')) (hW : WF 1 s.2) (hd : 9 ≤ d) (k0 : j = 0 → WF 1 s'.2 → R 1 d 219 76 [some (.ref 0), some (.int x1), some (.int x2), some (.int x3), some (.int x4), some (.int x5), some (.int s'.1)] [] s'.2 Q) (k1 : j = 1 → WF 1 s'.2 → R 1 d 219 91 [some (.ref 0), some (.int x1), some (.int x2), some (.int x3), some (.int x4), some (.int x5), none] [] s'.2 Q) : R 1 d 219 76 [some (.ref 0), some (.int x1), some (.int x2), some (.int x3), some (.int x4), some (.int x5), some (.int s.1)] [] s.2 Q := by
  unfold f219_l76 at hf
  refine R_iload (i := 76) rfl rfl ?_
  refine R_sipush (i := 77) rfl ?_
  refine R_iload_n (i := 78) rfl rfl ?_
  refine R_imul (i := 79) rfl ?_
  refine R_icmpge (i := 80) rfl (fun c24 => ?_) (fun c24 => ?_)
  · rw [if_pos c24] at hf
    obtain ⟨hj, hs⟩ := Prod.mk.inj (Option.some.inj hf)
    subst hj
    subst hs
    refine R_weak [some (.ref 0), some (.int x1), some (.int x2), some (.int x3), some (.int x4), some (.int x5), none] ⟨Or.inr rfl, Or.inr rfl, Or.inr rfl, Or.inr rfl, Or.inr rfl, Or.inr rfl, Or.inl rfl, trivial⟩ ?_
    exact k1 rfl hW
  · rw [if_neg c24] at hf
    refine R_aload_n (i := 81) rfl rfl ?_
    refine R_getF hW (i := 82) rfl rfl (Nat.le_of_ble_eq_true rfl) rfl ?_
    refine R_iload (i := 83) rfl rfl ?_
    refine R_aload_n (i := 84) rfl rfl ?_
    refine R_getF hW (i := 85) rfl rfl (Nat.le_of_ble_eq_true rfl) rfl ?_
    refine R_iload (i := 86) rfl rfl ?_
    have g25 := gd_some hf
    clear hf
    obtain ⟨g25, hf⟩ := g25
    refine R_zaload hW (i := 87) rfl rfl g25 ?_
    have g26 := gd_some hf
    clear hf
    obtain ⟨g26, hf⟩ := g26
    refine R_zastore hW (i := 88) rfl rfl g26 (hg rfl hd) (fun h27 eh27 => ?_)
    replace hf := bnd_some eh27 hf
    have hW27 : WF 1 h27 := by rw [eh27]; exact hW
    obtain ⟨v28, e28⟩ : ∃ z : Int32, z = (s.1 + (1 : Int32)) := ⟨_, rfl⟩
    replace hf := bnd_some e28 hf
    refine R_iinc [some (.ref 0), some (.int x1), some (.int x2), some (.int x3), some (.int x4), some (.int x5), some (.int v28)] (i := 89) rfl rfl (by rw [← e28]; rfl) ?_
    refine R_goto (i := 90) rfl ?_
    obtain ⟨hj, hs⟩ := Prod.mk.inj (Option.some.inj hf)
    subst hj
    subst hs
    exact k0 rfl hW27
set_option maxRecDepth 100000 in
set_option maxHeartbeats 4000000 in
theorem f219_l31_l {d N : Nat} {x1 : Int32} {x2 : Int32} {x3 : Int32} {x4 : Int32} {s : Int32 × Hp} {Q : Option Value → Hp → Prop} {j : Nat} {s' : Int32 × Hp} (hf : f219_l31 N x1 x2 x3 x4 s = some (j, s')) (hW : WF 1 s.2) (hd : 9 ≤ d) (k0 : j = 0 → WF 1 s'.2 → R 1 d 219 31 [some (.ref 0), some (.int x1), some (.int x2), some (.int x3), some (.int x4), some (.int s'.1), none] [] s'.2 Q) (k1 : j = 1 → WF 1 s'.2 → R 1 d 219 102 [none, none, none, none, none, some (.int s'.1), none] [] s'.2 Q) (k2 : j = 2 → WF 1 s'.2 → R 1 d 219 106 [none, none, none, none, none, none, none] [] s'.2 Q) : R 1 d 219 31 [some (.ref 0), some (.int x1), some (.int x2), some (.int x3), some (.int x4), some (.int s.1), none] [] s.2 Q := by
  unfold f219_l31 at hf
  refine R_iload (i := 31) rfl rfl ?_
  refine R_bipush (i := 32) rfl ?_
  refine R_icmpgt (i := 33) rfl (fun c12 => ?_) (fun c12 => ?_)
  · rw [if_pos c12] at hf
    obtain ⟨hj, hs⟩ := Prod.mk.inj (Option.some.inj hf)
    subst hj
    subst hs
    refine R_weak [none, none, none, none, none, none, none] ⟨Or.inl rfl, Or.inl rfl, Or.inl rfl, Or.inl rfl, Or.inl rfl, Or.inl rfl, Or.inr rfl, trivial⟩ ?_
    exact k2 rfl hW
  · rw [if_neg c12] at hf
    refine R_iconst (i := 34) rfl ?_
    refine R_istore [some (.ref 0), some (.int x1), some (.int x2), some (.int x3), some (.int x4), some (.int s.1), some (.int (0 : Int32))] (i := 35) rfl rfl ?_
    have zq23 := bind_some hf
    clear hf
    obtain ⟨q23, eq23, hf⟩ := zq23
    refine lp_link (P := fun u36 => WF 1 u36.2 → R 1 d 219 36 [some (.ref 0), some (.int x1), some (.int x2), some (.int x3), some (.int x4), some (.int s.1), some (.int u36.1)] [] u36.2 Q) (E := fun e u36 => WF 1 u36.2 → R 1 d 219 74 [some (.ref 0), some (.int x1), some (.int x2), some (.int x3), some (.int x4), some (.int s.1), none] [] u36.2 Q) (fun s j s' hb k0 ke hWs => f219_l36_l hb hWs hd k0 (fun z y => ke 0 z y)) N ((0 : Int32), s.2) q23.1 q23.2 eq23 ?_ hW
    intro hW23
    refine R_iconst (i := 74) rfl ?_
    refine R_istore [some (.ref 0), some (.int x1), some (.int x2), some (.int x3), some (.int x4), some (.int s.1), some (.int (0 : Int32))] (i := 75) rfl rfl ?_
    have zq29 := bind_some hf
    clear hf
    obtain ⟨q29, eq29, hf⟩ := zq29
    refine lp_link (P := fun u76 => WF 1 u76.2 → R 1 d 219 76 [some (.ref 0), some (.int x1), some (.int x2), some (.int x3), some (.int x4), some (.int s.1), some (.int u76.1)] [] u76.2 Q) (E := fun e u76 => WF 1 u76.2 → R 1 d 219 91 [some (.ref 0), some (.int x1), some (.int x2), some (.int x3), some (.int x4), some (.int s.1), none] [] u76.2 Q) (fun s j s' hb k0 ke hWs => f219_l76_l hb hWs hd k0 (fun z y => ke 0 z y)) N ((0 : Int32), q23.2.2) q29.1 q29.2 eq29 ?_ hW23
    intro hW29
    refine R_aload_n (i := 91) rfl rfl ?_
    refine R_getF hW29 (i := 92) rfl rfl (Nat.le_of_ble_eq_true rfl) rfl ?_
    refine R_sipush (i := 93) rfl ?_
    refine R_iload_n (i := 94) rfl rfl ?_
    refine R_iconst (i := 95) rfl ?_
    refine R_isub (i := 96) rfl ?_
    refine R_imul (i := 97) rfl ?_
    refine R_iload_n (i := 98) rfl rfl ?_
    refine R_iadd (i := 99) rfl ?_
    have g30 := gd_some hf
    clear hf
    obtain ⟨g30, hf⟩ := g30
    refine R_zaload hW29 (i := 100) rfl rfl g30 ?_
    refine R_ifeq (i := 101) rfl (fun c31 => ?_) (fun c31 => ?_)
    · rw [if_pos c31] at hf
      obtain ⟨v32, e32⟩ : ∃ z : Int32, z = (s.1 + (1 : Int32)) := ⟨_, rfl⟩
      replace hf := bnd_some e32 hf
      refine R_iinc [some (.ref 0), some (.int x1), some (.int x2), some (.int x3), some (.int x4), some (.int v32), none] (i := 104) rfl rfl (by rw [← e32]; rfl) ?_
      refine R_goto (i := 105) rfl ?_
      obtain ⟨hj, hs⟩ := Prod.mk.inj (Option.some.inj hf)
      subst hj
      subst hs
      exact k0 rfl hW29
    · rw [if_neg c31] at hf
      obtain ⟨hj, hs⟩ := Prod.mk.inj (Option.some.inj hf)
      subst hj
      subst hs
      refine R_weak [none, none, none, none, none, some (.int s.1), none] ⟨Or.inl rfl, Or.inl rfl, Or.inl rfl, Or.inl rfl, Or.inl rfl, Or.inr rfl, Or.inr rfl, trivial⟩ ?_
      exact k1 rfl hW29
set_option maxRecDepth 100000 in
set_option maxHeartbeats 4000000 in
theorem f219_l {d N : Nat} {p1 : Int32} {p2 : Int32} {p3 : Int32} {p4 : Int32} {h : Hp} {Q : Option Value → Hp → Prop} {q : Int32 × Hp} (hf : f219 N p1 p2 p3 p4 h = some q) (hW : WF 1 h) (hd : 9 ≤ d) (kk : WF 1 q.2 → Q (some (.int q.1)) q.2) : R 1 d 219 0 [some (.ref 0), some (.int p1), some (.int p2), some (.int p3), some (.int p4), none, none] [] h Q := by
  obtain ⟨d, rfl⟩ : ∃ z, d = z + 1 := ⟨d - 1, by omega⟩
  unfold f219 at hf
  refine R_aload_n (i := 0) rfl rfl ?_
  refine R_iload_n (i := 1) rfl rfl ?_
  have zq1 := bind_some hf
  clear hf
  obtain ⟨q1, eq1, hf⟩ := zq1
  refine R_callV (vs := [.int p1]) (st' := []) hW (i := 2) rfl rfl rfl (Nat.le_of_ble_eq_true rfl) rfl (Nat.le_of_ble_eq_true rfl) rfl (f148_l eq1 hW (hh rfl hd) ?_)
  refine R_ifeq (i := 3) rfl (fun c2 => ?_) (fun c2 => ?_)
  · rw [if_pos c2] at hf
    refine R_iconst (i := 13) rfl ?_
    have hz := Option.some.inj hf
    subst hz
    exact R_iret (i := 14) rfl (kk hW)
  · rw [if_neg c2] at hf
    refine R_aload_n (i := 4) rfl rfl ?_
    refine R_iload_n (i := 5) rfl rfl ?_
    have zq3 := bind_some hf
    clear hf
    obtain ⟨q3, eq3, hf⟩ := zq3
    refine R_callV (vs := [.int p2]) (st' := []) hW (i := 6) rfl rfl rfl (Nat.le_of_ble_eq_true rfl) rfl (Nat.le_of_ble_eq_true rfl) rfl (f142_l eq3 hW (hh rfl hd) ?_)
    refine R_ifeq (i := 7) rfl (fun c4 => ?_) (fun c4 => ?_)
    · rw [if_pos c4] at hf
      refine R_iconst (i := 13) rfl ?_
      have hz := Option.some.inj hf
      subst hz
      exact R_iret (i := 14) rfl (kk hW)
    · rw [if_neg c4] at hf
      refine R_iload_n (i := 8) rfl rfl ?_
      refine R_iconst (i := 9) rfl ?_
      refine R_iconst (i := 10) rfl ?_
      refine R_call (vs := [.int p3, .int (1 : Int32), .int (5 : Int32)]) (st' := []) (i := 11) rfl (by decide) (by decide) rfl rfl (Nat.le_of_ble_eq_true rfl) rfl (f139_l (hh rfl hd) ?_)
      refine R_ifne (i := 12) rfl (fun c5 => ?_) (fun c5 => ?_)
      · rw [if_neg c5] at hf
        refine R_aload_n (i := 15) rfl rfl ?_
        have zq6 := bind_some hf
        clear hf
        obtain ⟨q6, eq6, hf⟩ := zq6
        refine R_callV (vs := []) (st' := []) hW (i := 16) rfl rfl rfl (Nat.le_of_ble_eq_true rfl) rfl (Nat.le_of_ble_eq_true rfl) rfl (f194_l eq6 hW (hh rfl hd) (fun hW6 => ?_))
        refine R_iconst (i := 17) rfl ?_
        refine R_istore [some (.ref 0), some (.int p1), some (.int p2), some (.int p3), some (.int p4), some (.int (0 : Int32)), none] (i := 18) rfl rfl ?_
        have zq11 := bind_some hf
        clear hf
        obtain ⟨q11, eq11, hf⟩ := zq11
        refine lp_link (P := fun u19 => WF 1 u19.2 → R 1 (d + 1) 219 19 [some (.ref 0), some (.int p1), some (.int p2), some (.int p3), some (.int p4), some (.int u19.1), none] [] u19.2 Q) (E := fun e u19 => WF 1 u19.2 → R 1 (d + 1) 219 29 [some (.ref 0), some (.int p1), some (.int p2), some (.int p3), some (.int p4), none, none] [] u19.2 Q) (fun s j s' hb k0 ke hWs => f219_l19_l hb hWs hd k0 (fun z y => ke 0 z y)) N ((0 : Int32), q6) q11.1 q11.2 eq11 ?_ hW6
        intro hW11
        refine R_iconst (i := 29) rfl ?_
        refine R_istore [some (.ref 0), some (.int p1), some (.int p2), some (.int p3), some (.int p4), some (.int (1 : Int32)), none] (i := 30) rfl rfl ?_
        have zq33 := bind_some hf
        clear hf
        obtain ⟨q33, eq33, hf⟩ := zq33
        refine lp_link (P := fun u31 => WF 1 u31.2 → R 1 (d + 1) 219 31 [some (.ref 0), some (.int p1), some (.int p2), some (.int p3), some (.int p4), some (.int u31.1), none] [] u31.2 Q) (E := fun e u31 => WF 1 u31.2 → ((e = 0 → R 1 (d + 1) 219 102 [none, none, none, none, none, some (.int u31.1), none] [] u31.2 Q) ∧ (e = 1 → R 1 (d + 1) 219 106 [none, none, none, none, none, none, none] [] u31.2 Q))) (fun s j s' hb k0 ke hWs => f219_l31_l hb hWs hd k0 (fun z y => (ke 0 z y).1 rfl) (fun z y => (ke 1 z y).2 rfl)) N ((1 : Int32), q11.2.2) q33.1 q33.2 eq33 ?_ hW11
        refine fun hW33 => ⟨fun z => ?_, fun z => ?_⟩
        · rw [if_pos z] at hf
          refine R_iload (i := 102) rfl rfl ?_
          have hz := Option.some.inj hf
          subst hz
          exact R_iret (i := 103) rfl (kk hW33)
        · rw [if_neg (by rw [z]; decide)] at hf
          refine R_iconst (i := 106) rfl ?_
          have hz := Option.some.inj hf
          subst hz
          exact R_iret (i := 107) rfl (kk hW33)
      · rw [if_pos c5] at hf
        refine R_iconst (i := 13) rfl ?_
        have hz := Option.some.inj hf
        subst hz
        exact R_iret (i := 14) rfl (kk hW)
set_option maxRecDepth 100000 in
set_option maxHeartbeats 4000000 in
theorem f220_b56_l {d N : Nat} {x2 : Int32} {x3 : Int32} {x4 : Int32} {x5 : Int32} {x6 : Int32} {h : Hp} {Q : Option Value → Hp → Prop} {j : Nat} {s' : Int32} (hf : f220_b56 N x2 x3 x4 x5 x6 h = some (j, s')) (hW : WF 1 h) (hd : 10 ≤ d) (k0 : j = 0 → R 1 d 220 38 [some (.ref 0), none, some (.int x2), some (.int x3), some (.int x4), some (.int x5), some (.int s')] [] h Q) (k1 : j = 1 → R 1 d 220 54 [none, none, none, none, none, some (.int x5), none] [] h Q) (k2 : j = 2 → R 1 d 220 58 [some (.ref 0), none, some (.int x2), some (.int x3), some (.int x4), some (.int x5), none] [] h Q) : R 1 d 220 56 [some (.ref 0), none, some (.int x2), some (.int x3), some (.int x4), some (.int x5), some (.int x6)] [] h Q := by
  unfold f220_b56 at hf
  obtain ⟨v14, e14⟩ : ∃ z : Int32, z = (x6 + (1 : Int32)) := ⟨_, rfl⟩
  replace hf := bnd_some e14 hf
  refine R_iinc [some (.ref 0), none, some (.int x2), some (.int x3), some (.int x4), some (.int x5), some (.int v14)] (i := 56) rfl rfl (by rw [← e14]; rfl) ?_
  refine R_goto (i := 57) rfl ?_
  obtain ⟨hj, hs⟩ := Prod.mk.inj (Option.some.inj hf)
  subst hj
  subst hs
  exact k0 rfl
set_option maxRecDepth 100000 in
set_option maxHeartbeats 4000000 in
theorem f220_l38_l {d N : Nat} {x2 : Int32} {x3 : Int32} {x4 : Int32} {x5 : Int32} {h : Hp} {s : Int32} {Q : Option Value → Hp → Prop} {j : Nat} {s' : Int32} (hf : f220_l38 N x2 x3 x4 x5 h s = some (j, s')) (hW : WF 1 h) (hd : 10 ≤ d) (k0 : j = 0 → R 1 d 220 38 [some (.ref 0), none, some (.int x2), some (.int x3), some (.int x4), some (.int x5), some (.int s')] [] h Q) (k1 : j = 1 → R 1 d 220 54 [none, none, none, none, none, some (.int x5), none] [] h Q) (k2 : j = 2 → R 1 d 220 58 [some (.ref 0), none, some (.int x2), some (.int x3), some (.int x4), some (.int x5), none] [] h Q) : R 1 d 220 38 [some (.ref 0), none, some (.int x2), some (.int x3), some (.int x4), some (.int x5), some (.int s)] [] h Q := by
  obtain ⟨d, rfl⟩ : ∃ z, d = z + 1 := ⟨d - 1, by omega⟩
  unfold f220_l38 at hf
  refine R_iload (i := 38) rfl rfl ?_
  refine R_sipush (i := 39) rfl ?_
  refine R_icmpge (i := 40) rfl (fun c11 => ?_) (fun c11 => ?_)
  · rw [if_pos c11] at hf
    obtain ⟨hj, hs⟩ := Prod.mk.inj (Option.some.inj hf)
    subst hj
    subst hs
    refine R_weak [some (.ref 0), none, some (.int x2), some (.int x3), some (.int x4), some (.int x5), none] ⟨Or.inr rfl, Or.inr rfl, Or.inr rfl, Or.inr rfl, Or.inr rfl, Or.inr rfl, Or.inl rfl, trivial⟩ ?_
    exact k2 rfl
  · rw [if_neg c11] at hf
    refine R_aload_n (i := 41) rfl rfl ?_
    refine R_getF hW (i := 42) rfl rfl (Nat.le_of_ble_eq_true rfl) rfl ?_
    refine R_iload (i := 43) rfl rfl ?_
    have g12 := gd_some hf
    clear hf
    obtain ⟨g12, hf⟩ := g12
    refine R_zaload hW (i := 44) rfl rfl g12 ?_
    refine R_ifeq (i := 45) rfl (fun c13 => ?_) (fun c13 => ?_)
    · rw [if_pos c13] at hf
      exact f220_b56_l hf hW hd k0 k1 k2
    · rw [if_neg c13] at hf
      refine R_iload (i := 46) rfl rfl ?_
      refine R_call (vs := [.int s]) (st' := []) (i := 47) rfl (by decide) (by decide) rfl rfl (Nat.le_of_ble_eq_true rfl) rfl (f145_l (hh rfl hd) ?_)
      refine R_iload_n (i := 48) rfl rfl ?_
      refine R_icmpne (i := 49) rfl (fun c15 => ?_) (fun c15 => ?_)
      · rw [if_neg c15] at hf
        exact f220_b56_l hf hW hd k0 k1 k2
      · rw [if_pos c15] at hf
        refine R_iload (i := 50) rfl rfl ?_
        refine R_call (vs := [.int s]) (st' := []) (i := 51) rfl (by decide) (by decide) rfl rfl (Nat.le_of_ble_eq_true rfl) rfl (f147_l (hh rfl hd) ?_)
        refine R_iload (i := 52) rfl rfl ?_
        refine R_icmpne (i := 53) rfl (fun c16 => ?_) (fun c16 => ?_)
        · rw [if_neg c16] at hf
          exact f220_b56_l hf hW hd k0 k1 k2
        · rw [if_pos c16] at hf
          obtain ⟨hj, hs⟩ := Prod.mk.inj (Option.some.inj hf)
          subst hj
          subst hs
          refine R_weak [none, none, none, none, none, some (.int x5), none] ⟨Or.inl rfl, Or.inr rfl, Or.inl rfl, Or.inl rfl, Or.inl rfl, Or.inr rfl, Or.inl rfl, trivial⟩ ?_
          exact k1 rfl
set_option maxRecDepth 100000 in
set_option maxHeartbeats 4000000 in
theorem f220_b58_l {d N : Nat} {x2 : Int32} {x3 : Int32} {x4 : Int32} {x5 : Int32} {h : Hp} {Q : Option Value → Hp → Prop} {j : Nat} {s' : Int32 × Hp} (hf : f220_b58 N x2 x3 x4 x5 h = some (j, s')) (hW : WF 1 h) (hd : 10 ≤ d) (k0 : j = 0 → WF 1 s'.2 → R 1 d 220 25 [some (.ref 0), none, some (.int x2), some (.int x3), some (.int x4), some (.int s'.1), none] [] s'.2 Q) (k1 : j = 1 → WF 1 s'.2 → R 1 d 220 54 [none, none, none, none, none, some (.int s'.1), none] [] s'.2 Q) (k2 : j = 2 → WF 1 s'.2 → R 1 d 220 60 [none, none, none, none, none, none, none] [] s'.2 Q) : R 1 d 220 58 [some (.ref 0), none, some (.int x2), some (.int x3), some (.int x4), some (.int x5), none] [] h Q := by
  unfold f220_b58 at hf
  obtain ⟨v18, e18⟩ : ∃ z : Int32, z = (x5 + (1 : Int32)) := ⟨_, rfl⟩
  replace hf := bnd_some e18 hf
  refine R_iinc [some (.ref 0), none, some (.int x2), some (.int x3), some (.int x4), some (.int v18), none] (i := 58) rfl rfl (by rw [← e18]; rfl) ?_
  refine R_goto (i := 59) rfl ?_
  obtain ⟨hj, hs⟩ := Prod.mk.inj (Option.some.inj hf)
  subst hj
  subst hs
  exact k0 rfl hW
set_option maxRecDepth 100000 in
set_option maxHeartbeats 4000000 in
theorem f220_l25_l {d N : Nat} {x2 : Int32} {x3 : Int32} {x4 : Int32} {s : Int32 × Hp} {Q : Option Value → Hp → Prop} {j : Nat} {s' : Int32 × Hp} (hf : f220_l25 N x2 x3 x4 s = some (j, s')) (hW : WF 1 s.2) (hd : 10 ≤ d) (k0 : j = 0 → WF 1 s'.2 → R 1 d 220 25 [some (.ref 0), none, some (.int x2), some (.int x3), some (.int x4), some (.int s'.1), none] [] s'.2 Q) (k1 : j = 1 → WF 1 s'.2 → R 1 d 220 54 [none, none, none, none, none, some (.int s'.1), none] [] s'.2 Q) (k2 : j = 2 → WF 1 s'.2 → R 1 d 220 60 [none, none, none, none, none, none, none] [] s'.2 Q) : R 1 d 220 25 [some (.ref 0), none, some (.int x2), some (.int x3), some (.int x4), some (.int s.1), none] [] s.2 Q := by
  obtain ⟨d, rfl⟩ : ∃ z, d = z + 1 := ⟨d - 1, by omega⟩
  unfold f220_l25 at hf
  refine R_iload (i := 25) rfl rfl ?_
  refine R_iload_n (i := 26) rfl rfl ?_
  refine R_bipush (i := 27) rfl ?_
  refine R_iadd (i := 28) rfl ?_
  refine R_icmpgt (i := 29) rfl (fun c8 => ?_) (fun c8 => ?_)
  · rw [if_pos c8] at hf
    obtain ⟨hj, hs⟩ := Prod.mk.inj (Option.some.inj hf)
    subst hj
    subst hs
    refine R_weak [none, none, none, none, none, none, none] ⟨Or.inl rfl, Or.inr rfl, Or.inl rfl, Or.inl rfl, Or.inl rfl, Or.inl rfl, Or.inr rfl, trivial⟩ ?_
    exact k2 rfl hW
  · rw [if_neg c8] at hf
    refine R_aload_n (i := 30) rfl rfl ?_
    have zq9 := bind_some hf
    clear hf
    obtain ⟨q9, eq9, hf⟩ := zq9
    refine R_callV (vs := []) (st' := []) hW (i := 31) rfl rfl rfl (Nat.le_of_ble_eq_true rfl) rfl (Nat.le_of_ble_eq_true rfl) rfl (f208_l eq9 hW (hh rfl hd) (fun hW9 => ?_))
    refine R_iload (i := 32) rfl rfl ?_
    refine R_iload_n (i := 33) rfl rfl ?_
    refine R_icmpge (i := 34) rfl (fun c10 => ?_) (fun c10 => ?_)
    · rw [if_pos c10] at hf
      refine R_iconst (i := 36) rfl ?_
      refine R_istore [some (.ref 0), none, some (.int x2), some (.int x3), some (.int x4), some (.int s.1), some (.int (0 : Int32))] (i := 37) rfl rfl ?_
      have zq17 := bind_some hf
      clear hf
      obtain ⟨q17, eq17, hf⟩ := zq17
      refine lp_link (P := fun u38 => R 1 (d + 1) 220 38 [some (.ref 0), none, some (.int x2), some (.int x3), some (.int x4), some (.int s.1), some (.int u38)] [] q9 Q) (E := fun e u38 => ((e = 0 → R 1 (d + 1) 220 54 [none, none, none, none, none, some (.int s.1), none] [] q9 Q) ∧ (e = 1 → R 1 (d + 1) 220 58 [some (.ref 0), none, some (.int x2), some (.int x3), some (.int x4), some (.int s.1), none] [] q9 Q))) (fun s j s' hb k0 ke => f220_l38_l hb hW9 hd k0 (fun z => (ke 0 z).1 rfl) (fun z => (ke 1 z).2 rfl)) N (0 : Int32) q17.1 q17.2 eq17 ?_
      refine ⟨fun z => ?_, fun z => ?_⟩
      · rw [if_pos z] at hf
        obtain ⟨hj, hs⟩ := Prod.mk.inj (Option.some.inj hf)
        subst hj
        subst hs
        exact k1 rfl hW9
      · rw [if_neg (by rw [z]; decide)] at hf
        exact f220_b58_l hf hW9 hd k0 k1 k2
    · rw [if_neg c10] at hf
      refine R_goto (i := 35) rfl ?_
      exact f220_b58_l hf hW9 hd k0 k1 k2
set_option maxRecDepth 100000 in
set_option maxHeartbeats 4000000 in
theorem f220_l {d N : Nat} {p1 : Int32} {p2 : Int32} {p3 : Int32} {p4 : Int32} {h : Hp} {Q : Option Value → Hp → Prop} {q : Int32 × Hp} (hf : f220 N p1 p2 p3 p4 h = some q) (hW : WF 1 h) (hd : 10 ≤ d) (kk : WF 1 q.2 → Q (some (.int q.1)) q.2) : R 1 d 220 0 [some (.ref 0), some (.int p1), some (.int p2), some (.int p3), some (.int p4), none, none] [] h Q := by
  obtain ⟨d, rfl⟩ : ∃ z, d = z + 1 := ⟨d - 1, by omega⟩
  unfold f220 at hf
  refine R_aload_n (i := 0) rfl rfl ?_
  refine R_iload_n (i := 1) rfl rfl ?_
  have zq1 := bind_some hf
  clear hf
  obtain ⟨q1, eq1, hf⟩ := zq1
  refine R_callV (vs := [.int p1]) (st' := []) hW (i := 2) rfl rfl rfl (Nat.le_of_ble_eq_true rfl) rfl (Nat.le_of_ble_eq_true rfl) rfl (f148_l eq1 hW (hh rfl hd) ?_)
  refine R_ifeq (i := 3) rfl (fun c2 => ?_) (fun c2 => ?_)
  · rw [if_pos c2] at hf
    refine R_iconst (i := 18) rfl ?_
    have hz := Option.some.inj hf
    subst hz
    exact R_iret (i := 19) rfl (kk hW)
  · rw [if_neg c2] at hf
    refine R_aload_n (i := 4) rfl rfl ?_
    refine R_iload_n (i := 5) rfl rfl ?_
    have zq3 := bind_some hf
    clear hf
    obtain ⟨q3, eq3, hf⟩ := zq3
    refine R_callV (vs := [.int p2]) (st' := []) hW (i := 6) rfl rfl rfl (Nat.le_of_ble_eq_true rfl) rfl (Nat.le_of_ble_eq_true rfl) rfl (f142_l eq3 hW (hh rfl hd) ?_)
    refine R_ifeq (i := 7) rfl (fun c4 => ?_) (fun c4 => ?_)
    · rw [if_pos c4] at hf
      refine R_iconst (i := 18) rfl ?_
      have hz := Option.some.inj hf
      subst hz
      exact R_iret (i := 19) rfl (kk hW)
    · rw [if_neg c4] at hf
      refine R_iload_n (i := 8) rfl rfl ?_
      refine R_iconst (i := 9) rfl ?_
      refine R_bipush (i := 10) rfl ?_
      refine R_call (vs := [.int p3, .int (0 : Int32), .int (48 : Int32)]) (st' := []) (i := 11) rfl (by decide) (by decide) rfl rfl (Nat.le_of_ble_eq_true rfl) rfl (f139_l (hh rfl hd) ?_)
      refine R_ifeq (i := 12) rfl (fun c5 => ?_) (fun c5 => ?_)
      · rw [if_pos c5] at hf
        refine R_iconst (i := 18) rfl ?_
        have hz := Option.some.inj hf
        subst hz
        exact R_iret (i := 19) rfl (kk hW)
      · rw [if_neg c5] at hf
        refine R_iload (i := 13) rfl rfl ?_
        refine R_iconst (i := 14) rfl ?_
        refine R_iconst (i := 15) rfl ?_
        refine R_call (vs := [.int p4, .int (1 : Int32), .int (4 : Int32)]) (st' := []) (i := 16) rfl (by decide) (by decide) rfl rfl (Nat.le_of_ble_eq_true rfl) rfl (f139_l (hh rfl hd) ?_)
        refine R_ifne (i := 17) rfl (fun c6 => ?_) (fun c6 => ?_)
        · rw [if_neg c6] at hf
          refine R_aload_n (i := 20) rfl rfl ?_
          refine R_iload_n (i := 21) rfl rfl ?_
          have zq7 := bind_some hf
          clear hf
          obtain ⟨q7, eq7, hf⟩ := zq7
          refine R_callV (vs := [.int p1]) (st' := []) hW (i := 22) rfl rfl rfl (Nat.le_of_ble_eq_true rfl) rfl (Nat.le_of_ble_eq_true rfl) rfl (f207_l eq7 hW (hh rfl hd) (fun hW7 => ?_))
          refine R_iconst (i := 23) rfl ?_
          refine R_istore [some (.ref 0), some (.int p1), some (.int p2), some (.int p3), some (.int p4), some (.int (1 : Int32)), none] (i := 24) rfl rfl ?_
          refine R_weak [some (.ref 0), none, some (.int p2), some (.int p3), some (.int p4), some (.int (1 : Int32)), none] ⟨Or.inr rfl, Or.inl rfl, Or.inr rfl, Or.inr rfl, Or.inr rfl, Or.inr rfl, Or.inr rfl, trivial⟩ ?_
          have zq19 := bind_some hf
          clear hf
          obtain ⟨q19, eq19, hf⟩ := zq19
          refine lp_link (P := fun u25 => WF 1 u25.2 → R 1 (d + 1) 220 25 [some (.ref 0), none, some (.int p2), some (.int p3), some (.int p4), some (.int u25.1), none] [] u25.2 Q) (E := fun e u25 => WF 1 u25.2 → ((e = 0 → R 1 (d + 1) 220 54 [none, none, none, none, none, some (.int u25.1), none] [] u25.2 Q) ∧ (e = 1 → R 1 (d + 1) 220 60 [none, none, none, none, none, none, none] [] u25.2 Q))) (fun s j s' hb k0 ke hWs => f220_l25_l hb hWs hd k0 (fun z y => (ke 0 z y).1 rfl) (fun z y => (ke 1 z y).2 rfl)) N ((1 : Int32), q7) q19.1 q19.2 eq19 ?_ hW7
          refine fun hW19 => ⟨fun z => ?_, fun z => ?_⟩
          · rw [if_pos z] at hf
            refine R_iload (i := 54) rfl rfl ?_
            have hz := Option.some.inj hf
            subst hz
            exact R_iret (i := 55) rfl (kk hW19)
          · rw [if_neg (by rw [z]; decide)] at hf
            refine R_iconst (i := 60) rfl ?_
            have hz := Option.some.inj hf
            subst hz
            exact R_iret (i := 61) rfl (kk hW19)
        · rw [if_pos c6] at hf
          refine R_iconst (i := 18) rfl ?_
          have hz := Option.some.inj hf
          subst hz
          exact R_iret (i := 19) rfl (kk hW)
set_option maxRecDepth 100000 in
set_option maxHeartbeats 4000000 in
theorem f221_l {d N : Nat} {p1 : Int32} {h : Hp} {Q : Option Value → Hp → Prop} {q : Int32 × Hp} (hf : f221 N p1 h = some q) (hW : WF 1 h) (hd : 5 ≤ d) (kk : WF 1 q.2 → Q (some (.int q.1)) q.2) : R 1 d 221 0 [some (.ref 0), some (.int p1)] [] h Q := by
  obtain ⟨d, rfl⟩ : ∃ z, d = z + 1 := ⟨d - 1, by omega⟩
  unfold f221 at hf
  refine R_iload_n (i := 0) rfl rfl ?_
  refine R_iconst (i := 1) rfl ?_
  refine R_icmpne (i := 2) rfl (fun c1 => ?_) (fun c1 => ?_)
  · rw [if_neg c1] at hf
    refine R_iload_n (i := 10) rfl rfl ?_
    refine R_iconst (i := 11) rfl ?_
    refine R_bipush (i := 12) rfl ?_
    refine R_call (vs := [.int p1, .int (1 : Int32), .int (99 : Int32)]) (st' := []) (i := 13) rfl (by decide) (by decide) rfl rfl (Nat.le_of_ble_eq_true rfl) rfl (f139_l (hh rfl hd) ?_)
    refine R_ifeq (i := 14) rfl (fun c2 => ?_) (fun c2 => ?_)
    · rw [if_pos c2] at hf
      refine R_iconst (i := 21) rfl ?_
      have hz := Option.some.inj hf
      subst hz
      exact R_iret (i := 22) rfl (kk hW)
    · rw [if_neg c2] at hf
      refine R_aload_n (i := 15) rfl rfl ?_
      refine R_getF hW (i := 16) rfl rfl (Nat.le_of_ble_eq_true rfl) rfl ?_
      refine R_bipush (i := 17) rfl ?_
      refine R_iaload hW (i := 18) rfl rfl (by decide) ?_
      refine R_bipush (i := 19) rfl ?_
      refine R_icmpne (i := 20) rfl (fun c3 => ?_) (fun c3 => ?_)
      · rw [if_neg c3] at hf
        refine R_aload_n (i := 23) rfl rfl ?_
        refine R_getF hW (i := 24) rfl rfl (Nat.le_of_ble_eq_true rfl) rfl ?_
        refine R_bipush (i := 25) rfl ?_
        refine R_aload_n (i := 26) rfl rfl ?_
        refine R_getF hW (i := 27) rfl rfl (Nat.le_of_ble_eq_true rfl) rfl ?_
        refine R_bipush (i := 28) rfl ?_
        refine R_iaload hW (i := 29) rfl rfl (by decide) ?_
        refine R_iadd (i := 30) rfl ?_
        refine R_iload_n (i := 31) rfl rfl ?_
        have g4 := gd_some hf
        clear hf
        obtain ⟨g4, hf⟩ := g4
        refine R_iastore hW (i := 32) rfl rfl g4 (hg rfl hd) (fun h5 eh5 => ?_)
        replace hf := bnd_some eh5 hf
        have hW5 : WF 1 h5 := by rw [eh5]; exact hW
        refine R_aload_n (i := 33) rfl rfl ?_
        refine R_getF hW5 (i := 34) rfl rfl (Nat.le_of_ble_eq_true rfl) rfl ?_
        refine R_bipush (i := 35) rfl ?_
        refine R_dup2 (i := 36) rfl rfl rfl ?_
        refine R_iaload hW5 (i := 37) rfl rfl (by decide) ?_
        refine R_iconst (i := 38) rfl ?_
        refine R_iadd (i := 39) rfl ?_
        refine R_iastore hW5 (i := 40) rfl rfl (by decide) (hg rfl hd) (fun h6 eh6 => ?_)
        replace hf := bnd_some eh6 hf
        have hW6 : WF 1 h6 := by rw [eh6]; exact hW5
        refine R_aload_n (i := 41) rfl rfl ?_
        refine R_getF hW6 (i := 42) rfl rfl (Nat.le_of_ble_eq_true rfl) rfl ?_
        refine R_bipush (i := 43) rfl ?_
        refine R_iaload hW6 (i := 44) rfl rfl (by decide) ?_
        have hz := Option.some.inj hf
        subst hz
        exact R_iret (i := 45) rfl (kk hW6)
      · rw [if_pos c3] at hf
        refine R_iconst (i := 21) rfl ?_
        have hz := Option.some.inj hf
        subst hz
        exact R_iret (i := 22) rfl (kk hW)
  · rw [if_pos c1] at hf
    refine R_aload_n (i := 3) rfl rfl ?_
    refine R_getF hW (i := 4) rfl rfl (Nat.le_of_ble_eq_true rfl) rfl ?_
    refine R_bipush (i := 5) rfl ?_
    refine R_iconst (i := 6) rfl ?_
    refine R_iastore hW (i := 7) rfl rfl (by decide) (hg rfl hd) (fun h7 eh7 => ?_)
    replace hf := bnd_some eh7 hf
    have hW7 : WF 1 h7 := by rw [eh7]; exact hW
    refine R_iconst (i := 8) rfl ?_
    have hz := Option.some.inj hf
    subst hz
    exact R_iret (i := 9) rfl (kk hW7)
set_option maxRecDepth 100000 in
set_option maxHeartbeats 4000000 in
theorem f222_b50_l {d N : Nat} {x1 : Int32} {x2 : Int32} {x3 : Int32} {x4 : Int32} {x6 : Int32} {t0 : Int32} {t1 : Int32} {h : Hp} {Q : Option Value → Hp → Prop} {j : Nat} {s' : Int32 × Int32} (hf : f222_b50 N x1 x2 x3 x4 x6 t0 t1 h = some (j, s')) (hW : WF 1 h) (hd : 1 ≤ d) (k0 : j = 0 → R 1 d 222 25 [some (.ref 0), some (.int x1), some (.int x2), some (.int x3), some (.int x4), some (.int s'.1), some (.int s'.2)] [] h Q) (k1 : j = 1 → R 1 d 222 54 [some (.ref 0), some (.int x1), some (.int x2), some (.int x3), some (.int x4), some (.int s'.1), none] [] h Q) : R 1 d 222 50 [some (.ref 0), some (.int x1), some (.int x2), some (.int x3), some (.int x4), none, some (.int x6)] [.int t0, .int t1] h Q := by
  unfold f222_b50 at hf
  refine R_iadd (i := 50) rfl ?_
  refine R_topi (fun v6 e6 => ?_)
  replace hf := bnd_some e6 hf
  refine R_istore [some (.ref 0), some (.int x1), some (.int x2), some (.int x3), some (.int x4), some (.int v6), some (.int x6)] (i := 51) rfl rfl ?_
  obtain ⟨v7, e7⟩ : ∃ z : Int32, z = (x6 + (1 : Int32)) := ⟨_, rfl⟩
  replace hf := bnd_some e7 hf
  refine R_iinc [some (.ref 0), some (.int x1), some (.int x2), some (.int x3), some (.int x4), some (.int v6), some (.int v7)] (i := 52) rfl rfl (by rw [← e7]; rfl) ?_
  refine R_goto (i := 53) rfl ?_
  obtain ⟨hj, hs⟩ := Prod.mk.inj (Option.some.inj hf)
  subst hj
  subst hs
  exact k0 rfl
set_option maxRecDepth 100000 in
set_option maxHeartbeats 4000000 in
theorem f222_l25_l {d N : Nat} {x1 : Int32} {x2 : Int32} {x3 : Int32} {x4 : Int32} {h : Hp} {s : Int32 × Int32} {Q : Option Value → Hp → Prop} {j : Nat} {s' : Int32 × Int32} (hf : f222_l25 N x1 x2 x3 x4 h s = some (j, s')) (hW : WF 1 h) (hd : 1 ≤ d) (k0 : j = 0 → R 1 d 222 25 [some (.ref 0), some (.int x1), some (.int x2), some (.int x3), some (.int x4), some (.int s'.1), some (.int s'.2)] [] h Q) (k1 : j = 1 → R 1 d 222 54 [some (.ref 0), some (.int x1), some (.int x2), some (.int x3), some (.int x4), some (.int s'.1), none] [] h Q) : R 1 d 222 25 [some (.ref 0), some (.int x1), some (.int x2), some (.int x3), some (.int x4), some (.int s.1), some (.int s.2)] [] h Q := by
  obtain ⟨d, rfl⟩ : ∃ z, d = z + 1 := ⟨d - 1, by omega⟩
  unfold f222_l25 at hf
  refine R_iload (i := 25) rfl rfl ?_
  refine R_aload_n (i := 26) rfl rfl ?_
  refine R_getF hW (i := 27) rfl rfl (Nat.le_of_ble_eq_true rfl) rfl ?_
  refine R_bipush (i := 28) rfl ?_
  refine R_iaload hW (i := 29) rfl rfl (by decide) ?_
  refine R_icmpge (i := 30) rfl (fun c3 => ?_) (fun c3 => ?_)
  · rw [if_pos c3] at hf
    obtain ⟨hj, hs⟩ := Prod.mk.inj (Option.some.inj hf)
    subst hj
    subst hs
    refine R_weak [some (.ref 0), some (.int x1), some (.int x2), some (.int x3), some (.int x4), some (.int s.1), none] ⟨Or.inr rfl, Or.inr rfl, Or.inr rfl, Or.inr rfl, Or.inr rfl, Or.inr rfl, Or.inl rfl, trivial⟩ ?_
    exact k1 rfl
  · rw [if_neg c3] at hf
    refine R_iload (i := 31) rfl rfl ?_
    refine R_iload (i := 32) rfl rfl ?_
    refine R_iload (i := 33) rfl rfl ?_
    refine R_call (vs := [.int x4, .int s.2]) (st' := [.int s.1]) (i := 34) rfl (by decide) (by decide) rfl rfl (Nat.le_of_ble_eq_true rfl) rfl (f141_l (hh rfl hd) ?_)
    refine R_ifeq (i := 35) rfl (fun c4 => ?_) (fun c4 => ?_)
    · rw [if_pos c4] at hf
      refine R_aload_n (i := 43) rfl rfl ?_
      refine R_getF hW (i := 44) rfl rfl (Nat.le_of_ble_eq_true rfl) rfl ?_
      refine R_bipush (i := 45) rfl ?_
      refine R_iload (i := 46) rfl rfl ?_
      refine R_iadd (i := 47) rfl ?_
      have g5 := gd_some hf
      clear hf
      obtain ⟨g5, hf⟩ := g5
      refine R_iaload hW (i := 48) rfl rfl g5 ?_
      refine R_ineg (i := 49) rfl ?_
      refine R_weak [some (.ref 0), some (.int x1), some (.int x2), some (.int x3), some (.int x4), none, some (.int s.2)] ⟨Or.inr rfl, Or.inr rfl, Or.inr rfl, Or.inr rfl, Or.inr rfl, Or.inl rfl, Or.inr rfl, trivial⟩ ?_
      exact f222_b50_l hf hW hd k0 k1
    · rw [if_neg c4] at hf
      refine R_aload_n (i := 36) rfl rfl ?_
      refine R_getF hW (i := 37) rfl rfl (Nat.le_of_ble_eq_true rfl) rfl ?_
      refine R_bipush (i := 38) rfl ?_
      refine R_iload (i := 39) rfl rfl ?_
      refine R_iadd (i := 40) rfl ?_
      have g8 := gd_some hf
      clear hf
      obtain ⟨g8, hf⟩ := g8
      refine R_iaload hW (i := 41) rfl rfl g8 ?_
      refine R_goto (i := 42) rfl ?_
      refine R_weak [some (.ref 0), some (.int x1), some (.int x2), some (.int x3), some (.int x4), none, some (.int s.2)] ⟨Or.inr rfl, Or.inr rfl, Or.inr rfl, Or.inr rfl, Or.inr rfl, Or.inl rfl, Or.inr rfl, trivial⟩ ?_
      exact f222_b50_l hf hW hd k0 k1
set_option maxRecDepth 100000 in
set_option maxHeartbeats 4000000 in
theorem f222_b69_l {d N : Nat} {x1 : Int32} {x2 : Int32} {x3 : Int32} {x4 : Int32} {h : Hp} {Q : Option Value → Hp → Prop} {j : Nat} {s' : Int32 × Int32 × Int32} (hf : f222_b69 N x1 x2 x3 x4 h = some (j, s')) (hW : WF 1 h) (hd : 1 ≤ d) (k0 : j = 0 → R 1 d 222 13 [some (.ref 0), some (.int x1), some (.int s'.1), some (.int s'.2.1), some (.int s'.2.2), none, none] [] h Q) (k1 : j = 1 → R 1 d 222 71 [none, some (.int x1), some (.int s'.1), some (.int s'.2.1), none, none, none] [] h Q) : R 1 d 222 69 [some (.ref 0), some (.int x1), some (.int x2), some (.int x3), some (.int x4), none, none] [] h Q := by
  unfold f222_b69 at hf
  obtain ⟨v12, e12⟩ : ∃ z : Int32, z = (x4 + (1 : Int32)) := ⟨_, rfl⟩
  replace hf := bnd_some e12 hf
  refine R_iinc [some (.ref 0), some (.int x1), some (.int x2), some (.int x3), some (.int v12), none, none] (i := 69) rfl rfl (by rw [← e12]; rfl) ?_
  refine R_goto (i := 70) rfl ?_
  obtain ⟨hj, hs⟩ := Prod.mk.inj (Option.some.inj hf)
  subst hj
  subst hs
  exact k0 rfl
set_option maxRecDepth 100000 in
set_option maxHeartbeats 4000000 in
theorem f222_b65_l {d N : Nat} {x1 : Int32} {x4 : Int32} {x5 : Int32} {h : Hp} {Q : Option Value → Hp → Prop} {j : Nat} {s' : Int32 × Int32 × Int32} (hf : f222_b65 N x1 x4 x5 h = some (j, s')) (hW : WF 1 h) (hd : 1 ≤ d) (k0 : j = 0 → R 1 d 222 13 [some (.ref 0), some (.int x1), some (.int s'.1), some (.int s'.2.1), some (.int s'.2.2), none, none] [] h Q) (k1 : j = 1 → R 1 d 222 71 [none, some (.int x1), some (.int s'.1), some (.int s'.2.1), none, none, none] [] h Q) : R 1 d 222 65 [some (.ref 0), some (.int x1), none, none, some (.int x4), some (.int x5), none] [] h Q := by
  unfold f222_b65 at hf
  refine R_iload (i := 65) rfl rfl ?_
  refine R_istore_n [some (.ref 0), some (.int x1), some (.int x4), none, some (.int x4), some (.int x5), none] (i := 66) rfl rfl ?_
  refine R_iload (i := 67) rfl rfl ?_
  refine R_istore_n [some (.ref 0), some (.int x1), some (.int x4), some (.int x5), some (.int x4), some (.int x5), none] (i := 68) rfl rfl ?_
  refine R_weak [some (.ref 0), some (.int x1), some (.int x4), some (.int x5), some (.int x4), none, none] ⟨Or.inr rfl, Or.inr rfl, Or.inr rfl, Or.inr rfl, Or.inr rfl, Or.inl rfl, Or.inr rfl, trivial⟩ ?_
  exact f222_b69_l hf hW hd k0 k1
set_option maxRecDepth 100000 in
set_option maxHeartbeats 4000000 in
theorem f222_b59_l {d N : Nat} {x1 : Int32} {x2 : Int32} {x3 : Int32} {x4 : Int32} {x5 : Int32} {h : Hp} {Q : Option Value → Hp → Prop} {j : Nat} {s' : Int32 × Int32 × Int32} (hf : f222_b59 N x1 x2 x3 x4 x5 h = some (j, s')) (hW : WF 1 h) (hd : 1 ≤ d) (k0 : j = 0 → R 1 d 222 13 [some (.ref 0), some (.int x1), some (.int s'.1), some (.int s'.2.1), some (.int s'.2.2), none, none] [] h Q) (k1 : j = 1 → R 1 d 222 71 [none, some (.int x1), some (.int s'.1), some (.int s'.2.1), none, none, none] [] h Q) : R 1 d 222 59 [some (.ref 0), some (.int x1), some (.int x2), some (.int x3), some (.int x4), some (.int x5), none] [] h Q := by
  unfold f222_b59 at hf
  refine R_iload_n (i := 59) rfl rfl ?_
  refine R_iflt (i := 60) rfl (fun c11 => ?_) (fun c11 => ?_)
  · rw [if_pos c11] at hf
    refine R_weak [some (.ref 0), some (.int x1), none, none, some (.int x4), some (.int x5), none] ⟨Or.inr rfl, Or.inr rfl, Or.inl rfl, Or.inl rfl, Or.inr rfl, Or.inr rfl, Or.inr rfl, trivial⟩ ?_
    exact f222_b65_l hf hW hd k0 k1
  · rw [if_neg c11] at hf
    refine R_iload (i := 61) rfl rfl ?_
    refine R_iload_n (i := 62) rfl rfl ?_
    refine R_icmplt (i := 63) rfl (fun c13 => ?_) (fun c13 => ?_)
    · rw [if_pos c13] at hf
      refine R_weak [some (.ref 0), some (.int x1), none, none, some (.int x4), some (.int x5), none] ⟨Or.inr rfl, Or.inr rfl, Or.inl rfl, Or.inl rfl, Or.inr rfl, Or.inr rfl, Or.inr rfl, trivial⟩ ?_
      exact f222_b65_l hf hW hd k0 k1
    · rw [if_neg c13] at hf
      refine R_goto (i := 64) rfl ?_
      refine R_weak [some (.ref 0), some (.int x1), some (.int x2), some (.int x3), some (.int x4), none, none] ⟨Or.inr rfl, Or.inr rfl, Or.inr rfl, Or.inr rfl, Or.inr rfl, Or.inl rfl, Or.inr rfl, trivial⟩ ?_
      exact f222_b69_l hf hW hd k0 k1
set_option maxRecDepth 100000 in
set_option maxHeartbeats 4000000 in
theorem f222_l13_l {d N : Nat} {x1 : Int32} {h : Hp} {s : Int32 × Int32 × Int32} {Q : Option Value → Hp → Prop} {j : Nat} {s' : Int32 × Int32 × Int32} (hf : f222_l13 N x1 h s = some (j, s')) (hW : WF 1 h) (hd : 1 ≤ d) (k0 : j = 0 → R 1 d 222 13 [some (.ref 0), some (.int x1), some (.int s'.1), some (.int s'.2.1), some (.int s'.2.2), none, none] [] h Q) (k1 : j = 1 → R 1 d 222 71 [none, some (.int x1), some (.int s'.1), some (.int s'.2.1), none, none, none] [] h Q) : R 1 d 222 13 [some (.ref 0), some (.int x1), some (.int s.1), some (.int s.2.1), some (.int s.2.2), none, none] [] h Q := by
  unfold f222_l13 at hf
  refine R_iload (i := 13) rfl rfl ?_
  refine R_iconst (i := 14) rfl ?_
  refine R_aload_n (i := 15) rfl rfl ?_
  refine R_getF hW (i := 16) rfl rfl (Nat.le_of_ble_eq_true rfl) rfl ?_
  refine R_bipush (i := 17) rfl ?_
  refine R_iaload hW (i := 18) rfl rfl (by decide) ?_
  refine R_ishl (i := 19) rfl ?_
  refine R_icmpge (i := 20) rfl (fun c2 => ?_) (fun c2 => ?_)
  · rw [if_pos c2] at hf
    obtain ⟨hj, hs⟩ := Prod.mk.inj (Option.some.inj hf)
    subst hj
    subst hs
    refine R_weak [none, some (.int x1), some (.int s.1), some (.int s.2.1), none, none, none] ⟨Or.inl rfl, Or.inr rfl, Or.inr rfl, Or.inr rfl, Or.inl rfl, Or.inr rfl, Or.inr rfl, trivial⟩ ?_
    exact k1 rfl
  · rw [if_neg c2] at hf
    refine R_iconst (i := 21) rfl ?_
    refine R_istore [some (.ref 0), some (.int x1), some (.int s.1), some (.int s.2.1), some (.int s.2.2), some (.int (0 : Int32)), none] (i := 22) rfl rfl ?_
    refine R_iconst (i := 23) rfl ?_
    refine R_istore [some (.ref 0), some (.int x1), some (.int s.1), some (.int s.2.1), some (.int s.2.2), some (.int (0 : Int32)), some (.int (0 : Int32))] (i := 24) rfl rfl ?_
    have zq9 := bind_some hf
    clear hf
    obtain ⟨q9, eq9, hf⟩ := zq9
    refine lp_link (P := fun u25 => R 1 d 222 25 [some (.ref 0), some (.int x1), some (.int s.1), some (.int s.2.1), some (.int s.2.2), some (.int u25.1), some (.int u25.2)] [] h Q) (E := fun e u25 => R 1 d 222 54 [some (.ref 0), some (.int x1), some (.int s.1), some (.int s.2.1), some (.int s.2.2), some (.int u25.1), none] [] h Q) (fun s j s' hb k0 ke => f222_l25_l hb hW hd k0 (fun z => ke 0 z)) N ((0 : Int32), (0 : Int32)) q9.1 q9.2 eq9 ?_
    refine R_iload (i := 54) rfl rfl ?_
    refine R_ifge (i := 55) rfl (fun c10 => ?_) (fun c10 => ?_)
    · rw [if_pos c10] at hf
      exact f222_b59_l hf hW hd k0 k1
    · rw [if_neg c10] at hf
      refine R_iload (i := 56) rfl rfl ?_
      refine R_ineg (i := 57) rfl ?_
      refine R_topi (fun v14 e14 => ?_)
      replace hf := bnd_some e14 hf
      refine R_istore [some (.ref 0), some (.int x1), some (.int s.1), some (.int s.2.1), some (.int s.2.2), some (.int v14), none] (i := 58) rfl rfl ?_
      exact f222_b59_l hf hW hd k0 k1
set_option maxRecDepth 100000 in
set_option maxHeartbeats 4000000 in
theorem f222_l {d N : Nat} {p1 : Int32} {h : Hp} {Q : Option Value → Hp → Prop} {q : Int32} (hf : f222 N p1 h = some q) (hW : WF 1 h) (hd : 1 ≤ d) (kk : Q (some (.int q)) h) : R 1 d 222 0 [some (.ref 0), some (.int p1), none, none, none, none, none] [] h Q := by
  obtain ⟨d, rfl⟩ : ∃ z, d = z + 1 := ⟨d - 1, by omega⟩
  unfold f222 at hf
  refine R_iload_n (i := 0) rfl rfl ?_
  refine R_iconst (i := 1) rfl ?_
  refine R_iconst (i := 2) rfl ?_
  refine R_call (vs := [.int p1, .int (0 : Int32), .int (1 : Int32)]) (st' := []) (i := 3) rfl (by decide) (by decide) rfl rfl (Nat.le_of_ble_eq_true rfl) rfl (f139_l (hh rfl hd) ?_)
  refine R_ifne (i := 4) rfl (fun c1 => ?_) (fun c1 => ?_)
  · rw [if_neg c1] at hf
    refine R_iconst (i := 7) rfl ?_
    refine R_istore_n [some (.ref 0), some (.int p1), some (.int (0 : Int32)), none, none, none, none] (i := 8) rfl rfl ?_
    refine R_iconst (i := 9) rfl ?_
    refine R_istore_n [some (.ref 0), some (.int p1), some (.int (0 : Int32)), some (.int (-1 : Int32)), none, none, none] (i := 10) rfl rfl ?_
    refine R_iconst (i := 11) rfl ?_
    refine R_istore [some (.ref 0), some (.int p1), some (.int (0 : Int32)), some (.int (-1 : Int32)), some (.int (0 : Int32)), none, none] (i := 12) rfl rfl ?_
    have zq15 := bind_some hf
    clear hf
    obtain ⟨q15, eq15, hf⟩ := zq15
    refine lp_link (P := fun u13 => R 1 (d + 1) 222 13 [some (.ref 0), some (.int p1), some (.int u13.1), some (.int u13.2.1), some (.int u13.2.2), none, none] [] h Q) (E := fun e u13 => R 1 (d + 1) 222 71 [none, some (.int p1), some (.int u13.1), some (.int u13.2.1), none, none, none] [] h Q) (fun s j s' hb k0 ke => f222_l13_l hb hW hd k0 (fun z => ke 0 z)) N ((0 : Int32), (-1 : Int32), (0 : Int32)) q15.1 q15.2 eq15 ?_
    refine R_iload_n (i := 71) rfl rfl ?_
    refine R_ifne (i := 72) rfl (fun c16 => ?_) (fun c16 => ?_)
    · rw [if_neg c16] at hf
      refine R_iload_n (i := 75) rfl rfl ?_
      have hz := Option.some.inj hf
      subst hz
      exact R_iret (i := 76) rfl kk
    · rw [if_pos c16] at hf
      refine R_iload_n (i := 73) rfl rfl ?_
      refine R_goto (i := 74) rfl ?_
      have hz := Option.some.inj hf
      subst hz
      exact R_iret (i := 76) rfl kk
  · rw [if_pos c1] at hf
    refine R_iconst (i := 5) rfl ?_
    have hz := Option.some.inj hf
    subst hz
    exact R_iret (i := 6) rfl kk
set_option maxRecDepth 100000 in
set_option maxHeartbeats 4000000 in
theorem f223_b52_l {d N : Nat} {x1 : Int32} {x2 : Int32} {x3 : Int32} {h : Hp} {Q : Option Value → Hp → Prop} {j : Nat} {s' : Int32 × Int32} (hf : f223_b52 N x1 x2 x3 h = some (j, s')) (hW : WF 1 h) (hd : 0 ≤ d) (k0 : j = 0 → R 1 d 223 4 [some (.ref 0), some (.int x1), some (.int s'.1), some (.int s'.2), none] [] h Q) (k1 : j = 1 → R 1 d 223 54 [none, none, some (.int s'.1), none, none] [] h Q) : R 1 d 223 52 [some (.ref 0), some (.int x1), some (.int x2), some (.int x3), none] [] h Q := by
  unfold f223_b52 at hf
  obtain ⟨v5, e5⟩ : ∃ z : Int32, z = (x3 + (1 : Int32)) := ⟨_, rfl⟩
  replace hf := bnd_some e5 hf
  refine R_iinc [some (.ref 0), some (.int x1), some (.int x2), some (.int v5), none] (i := 52) rfl rfl (by rw [← e5]; rfl) ?_
  refine R_goto (i := 53) rfl ?_
  obtain ⟨hj, hs⟩ := Prod.mk.inj (Option.some.inj hf)
  subst hj
  subst hs
  exact k0 rfl
set_option maxRecDepth 100000 in
set_option maxHeartbeats 4000000 in
theorem f223_b51_l {d N : Nat} {x1 : Int32} {x3 : Int32} {t0 : Int32} {h : Hp} {Q : Option Value → Hp → Prop} {j : Nat} {s' : Int32 × Int32} (hf : f223_b51 N x1 x3 t0 h = some (j, s')) (hW : WF 1 h) (hd : 0 ≤ d) (k0 : j = 0 → R 1 d 223 4 [some (.ref 0), some (.int x1), some (.int s'.1), some (.int s'.2), none] [] h Q) (k1 : j = 1 → R 1 d 223 54 [none, none, some (.int s'.1), none, none] [] h Q) : R 1 d 223 51 [some (.ref 0), some (.int x1), none, some (.int x3), none] [.int t0] h Q := by
  unfold f223_b51 at hf
  refine R_istore_n [some (.ref 0), some (.int x1), some (.int t0), some (.int x3), none] (i := 51) rfl rfl ?_
  exact f223_b52_l hf hW hd k0 k1
set_option maxRecDepth 100000 in
set_option maxHeartbeats 4000000 in
theorem f223_l4_l {d N : Nat} {x1 : Int32} {h : Hp} {s : Int32 × Int32} {Q : Option Value → Hp → Prop} {j : Nat} {s' : Int32 × Int32} (hf : f223_l4 N x1 h s = some (j, s')) (hW : WF 1 h) (hd : 0 ≤ d) (k0 : j = 0 → R 1 d 223 4 [some (.ref 0), some (.int x1), some (.int s'.1), some (.int s'.2), none] [] h Q) (k1 : j = 1 → R 1 d 223 54 [none, none, some (.int s'.1), none, none] [] h Q) : R 1 d 223 4 [some (.ref 0), some (.int x1), some (.int s.1), some (.int s.2), none] [] h Q := by
  unfold f223_l4 at hf
  refine R_iload_n (i := 4) rfl rfl ?_
  refine R_aload_n (i := 5) rfl rfl ?_
  refine R_getF hW (i := 6) rfl rfl (Nat.le_of_ble_eq_true rfl) rfl ?_
  refine R_bipush (i := 7) rfl ?_
  refine R_iaload hW (i := 8) rfl rfl (by decide) ?_
  refine R_icmpge (i := 9) rfl (fun c1 => ?_) (fun c1 => ?_)
  · rw [if_pos c1] at hf
    obtain ⟨hj, hs⟩ := Prod.mk.inj (Option.some.inj hf)
    subst hj
    subst hs
    refine R_weak [none, none, some (.int s.1), none, none] ⟨Or.inl rfl, Or.inl rfl, Or.inr rfl, Or.inl rfl, Or.inr rfl, trivial⟩ ?_
    exact k1 rfl
  · rw [if_neg c1] at hf
    refine R_bipush (i := 10) rfl ?_
    refine R_iconst (i := 11) rfl ?_
    refine R_iload_n (i := 12) rfl rfl ?_
    refine R_imul (i := 13) rfl ?_
    refine R_iadd (i := 14) rfl ?_
    refine R_topi (fun v2 e2 => ?_)
    replace hf := bnd_some e2 hf
    refine R_istore [some (.ref 0), some (.int x1), some (.int s.1), some (.int s.2), some (.int v2)] (i := 15) rfl rfl ?_
    refine R_aload_n (i := 16) rfl rfl ?_
    refine R_getF hW (i := 17) rfl rfl (Nat.le_of_ble_eq_true rfl) rfl ?_
    refine R_iload (i := 18) rfl rfl ?_
    refine R_iconst (i := 19) rfl ?_
    refine R_iadd (i := 20) rfl ?_
    have g3 := gd_some hf
    clear hf
    obtain ⟨g3, hf⟩ := g3
    refine R_iaload hW (i := 21) rfl rfl g3 ?_
    refine R_iload_n (i := 22) rfl rfl ?_
    refine R_icmpge (i := 23) rfl (fun c4 => ?_) (fun c4 => ?_)
    · rw [if_pos c4] at hf
      refine R_weak [some (.ref 0), some (.int x1), some (.int s.1), some (.int s.2), none] ⟨Or.inr rfl, Or.inr rfl, Or.inr rfl, Or.inr rfl, Or.inl rfl, trivial⟩ ?_
      exact f223_b52_l hf hW hd k0 k1
    · rw [if_neg c4] at hf
      refine R_aload_n (i := 24) rfl rfl ?_
      refine R_getF hW (i := 25) rfl rfl (Nat.le_of_ble_eq_true rfl) rfl ?_
      refine R_iload (i := 26) rfl rfl ?_
      refine R_iconst (i := 27) rfl ?_
      refine R_iadd (i := 28) rfl ?_
      have g6 := gd_some hf
      clear hf
      obtain ⟨g6, hf⟩ := g6
      refine R_iaload hW (i := 29) rfl rfl g6 ?_
      refine R_iconst (i := 30) rfl ?_
      refine R_icmpne (i := 31) rfl (fun c7 => ?_) (fun c7 => ?_)
      · rw [if_neg c7] at hf
        refine R_iload_n (i := 41) rfl rfl ?_
        refine R_iconst (i := 42) rfl ?_
        refine R_aload_n (i := 43) rfl rfl ?_
        refine R_getF hW (i := 44) rfl rfl (Nat.le_of_ble_eq_true rfl) rfl ?_
        refine R_iload (i := 45) rfl rfl ?_
        have g8 := gd_some hf
        clear hf
        obtain ⟨g8, hf⟩ := g8
        refine R_iaload hW (i := 46) rfl rfl g8 ?_
        refine R_ishl (i := 47) rfl ?_
        refine R_iconst (i := 48) rfl ?_
        refine R_ixor (i := 49) rfl ?_
        refine R_iand (i := 50) rfl ?_
        refine R_weak [some (.ref 0), some (.int x1), none, some (.int s.2), none] ⟨Or.inr rfl, Or.inr rfl, Or.inl rfl, Or.inr rfl, Or.inl rfl, trivial⟩ ?_
        exact f223_b51_l hf hW hd k0 k1
      · rw [if_pos c7] at hf
        refine R_iload_n (i := 32) rfl rfl ?_
        refine R_iconst (i := 33) rfl ?_
        refine R_aload_n (i := 34) rfl rfl ?_
        refine R_getF hW (i := 35) rfl rfl (Nat.le_of_ble_eq_true rfl) rfl ?_
        refine R_iload (i := 36) rfl rfl ?_
        have g9 := gd_some hf
        clear hf
        obtain ⟨g9, hf⟩ := g9
        refine R_iaload hW (i := 37) rfl rfl g9 ?_
        refine R_ishl (i := 38) rfl ?_
        refine R_ior (i := 39) rfl ?_
        refine R_goto (i := 40) rfl ?_
        refine R_weak [some (.ref 0), some (.int x1), none, some (.int s.2), none] ⟨Or.inr rfl, Or.inr rfl, Or.inl rfl, Or.inr rfl, Or.inl rfl, trivial⟩ ?_
        exact f223_b51_l hf hW hd k0 k1
set_option maxRecDepth 100000 in
set_option maxHeartbeats 4000000 in
theorem f223_l {d N : Nat} {p1 : Int32} {h : Hp} {Q : Option Value → Hp → Prop} {q : Int32} (hf : f223 N p1 h = some q) (hW : WF 1 h) (hd : 0 ≤ d) (kk : Q (some (.int q)) h) : R 1 d 223 0 [some (.ref 0), some (.int p1), none, none, none] [] h Q := by
  unfold f223 at hf
  refine R_iconst (i := 0) rfl ?_
  refine R_istore_n [some (.ref 0), some (.int p1), some (.int (0 : Int32)), none, none] (i := 1) rfl rfl ?_
  refine R_iconst (i := 2) rfl ?_
  refine R_istore_n [some (.ref 0), some (.int p1), some (.int (0 : Int32)), some (.int (0 : Int32)), none] (i := 3) rfl rfl ?_
  have zq10 := bind_some hf
  clear hf
  obtain ⟨q10, eq10, hf⟩ := zq10
  refine lp_link (P := fun u4 => R 1 d 223 4 [some (.ref 0), some (.int p1), some (.int u4.1), some (.int u4.2), none] [] h Q) (E := fun e u4 => R 1 d 223 54 [none, none, some (.int u4.1), none, none] [] h Q) (fun s j s' hb k0 ke => f223_l4_l hb hW hd k0 (fun z => ke 0 z)) N ((0 : Int32), (0 : Int32)) q10.1 q10.2 eq10 ?_
  refine R_iload_n (i := 54) rfl rfl ?_
  have hz := Option.some.inj hf
  subst hz
  exact R_iret (i := 55) rfl kk
set_option maxRecDepth 100000 in
set_option maxHeartbeats 4000000 in
theorem f224_b49_l {d N : Nat} {x3 : Int32} {t0 : Int32} {t1 : Int32} {h : Hp} {Q : Option Value → Hp → Prop} {q : Int32 × Hp} (hf : f224_b49 N x3 t0 t1 h = some q) (hW : WF 1 h) (hd : 5 ≤ d) (kk : WF 1 q.2 → Q (some (.int q.1)) q.2) : R 1 d 224 49 [some (.ref 0), none, none, some (.int x3)] [.int t0, .int t1, .ref 1] h Q := by
  unfold f224_b49 at hf
  have g10 := gd_some hf
  clear hf
  obtain ⟨g10, hf⟩ := g10
  refine R_iastore hW (i := 49) rfl rfl g10 (hg rfl hd) (fun h11 eh11 => ?_)
  replace hf := bnd_some eh11 hf
  have hW11 : WF 1 h11 := by rw [eh11]; exact hW
  refine R_aload_n (i := 50) rfl rfl ?_
  refine R_getF hW11 (i := 51) rfl rfl (Nat.le_of_ble_eq_true rfl) rfl ?_
  refine R_iload_n (i := 52) rfl rfl ?_
  refine R_iconst (i := 53) rfl ?_
  refine R_iadd (i := 54) rfl ?_
  refine R_aload_n (i := 55) rfl rfl ?_
  refine R_getF hW11 (i := 56) rfl rfl (Nat.le_of_ble_eq_true rfl) rfl ?_
  refine R_bipush (i := 57) rfl ?_
  refine R_iaload hW11 (i := 58) rfl rfl (by decide) ?_
  have g12 := gd_some hf
  clear hf
  obtain ⟨g12, hf⟩ := g12
  refine R_iastore hW11 (i := 59) rfl rfl g12 (hg rfl hd) (fun h13 eh13 => ?_)
  replace hf := bnd_some eh13 hf
  have hW13 : WF 1 h13 := by rw [eh13]; exact hW11
  refine R_aload_n (i := 60) rfl rfl ?_
  refine R_getF hW13 (i := 61) rfl rfl (Nat.le_of_ble_eq_true rfl) rfl ?_
  refine R_bipush (i := 62) rfl ?_
  refine R_dup2 (i := 63) rfl rfl rfl ?_
  refine R_iaload hW13 (i := 64) rfl rfl (by decide) ?_
  refine R_iconst (i := 65) rfl ?_
  refine R_iadd (i := 66) rfl ?_
  refine R_iastore hW13 (i := 67) rfl rfl (by decide) (hg rfl hd) (fun h14 eh14 => ?_)
  replace hf := bnd_some eh14 hf
  have hW14 : WF 1 h14 := by rw [eh14]; exact hW13
  refine R_aload_n (i := 68) rfl rfl ?_
  refine R_getF hW14 (i := 69) rfl rfl (Nat.le_of_ble_eq_true rfl) rfl ?_
  refine R_iconst (i := 70) rfl ?_
  refine R_iconst (i := 71) rfl ?_
  refine R_iastore hW14 (i := 72) rfl rfl (by decide) (hg rfl hd) (fun h15 eh15 => ?_)
  replace hf := bnd_some eh15 hf
  have hW15 : WF 1 h15 := by rw [eh15]; exact hW14
  refine R_aload_n (i := 73) rfl rfl ?_
  refine R_getF hW15 (i := 74) rfl rfl (Nat.le_of_ble_eq_true rfl) rfl ?_
  refine R_bipush (i := 75) rfl ?_
  refine R_iaload hW15 (i := 76) rfl rfl (by decide) ?_
  have hz := Option.some.inj hf
  subst hz
  exact R_iret (i := 77) rfl (kk hW15)
set_option maxRecDepth 100000 in
set_option maxHeartbeats 4000000 in
theorem f224_l {d N : Nat} {p1 : Int32} {p2 : Int32} {h : Hp} {Q : Option Value → Hp → Prop} {q : Int32 × Hp} (hf : f224 N p1 p2 h = some q) (hW : WF 1 h) (hd : 5 ≤ d) (kk : WF 1 q.2 → Q (some (.int q.1)) q.2) : R 1 d 224 0 [some (.ref 0), some (.int p1), some (.int p2), none] [] h Q := by
  obtain ⟨d, rfl⟩ : ∃ z, d = z + 1 := ⟨d - 1, by omega⟩
  unfold f224 at hf
  refine R_iload_n (i := 0) rfl rfl ?_
  refine R_iconst (i := 1) rfl ?_
  refine R_bipush (i := 2) rfl ?_
  refine R_call (vs := [.int p1, .int (0 : Int32), .int (9 : Int32)]) (st' := []) (i := 3) rfl (by decide) (by decide) rfl rfl (Nat.le_of_ble_eq_true rfl) rfl (f139_l (hh rfl hd) ?_)
  refine R_ifeq (i := 4) rfl (fun c1 => ?_) (fun c1 => ?_)
  · rw [if_pos c1] at hf
    refine R_iconst (i := 23) rfl ?_
    have hz := Option.some.inj hf
    subst hz
    exact R_iret (i := 24) rfl (kk hW)
  · rw [if_neg c1] at hf
    refine R_aload_n (i := 5) rfl rfl ?_
    refine R_getF hW (i := 6) rfl rfl (Nat.le_of_ble_eq_true rfl) rfl ?_
    refine R_bipush (i := 7) rfl ?_
    refine R_iaload hW (i := 8) rfl rfl (by decide) ?_
    refine R_ifeq (i := 9) rfl (fun c2 => ?_) (fun c2 => ?_)
    · rw [if_pos c2] at hf
      refine R_iconst (i := 23) rfl ?_
      have hz := Option.some.inj hf
      subst hz
      exact R_iret (i := 24) rfl (kk hW)
    · rw [if_neg c2] at hf
      refine R_aload_n (i := 10) rfl rfl ?_
      refine R_getF hW (i := 11) rfl rfl (Nat.le_of_ble_eq_true rfl) rfl ?_
      refine R_bipush (i := 12) rfl ?_
      refine R_iaload hW (i := 13) rfl rfl (by decide) ?_
      refine R_bipush (i := 14) rfl ?_
      refine R_icmpeq (i := 15) rfl (fun c3 => ?_) (fun c3 => ?_)
      · rw [if_pos c3] at hf
        refine R_iconst (i := 23) rfl ?_
        have hz := Option.some.inj hf
        subst hz
        exact R_iret (i := 24) rfl (kk hW)
      · rw [if_neg c3] at hf
        refine R_aload_n (i := 16) rfl rfl ?_
        refine R_ldcw (i := 17) rfl ?_
        have zq4 := bind_some hf
        clear hf
        obtain ⟨q4, eq4, hf⟩ := zq4
        refine R_callV (vs := [.int (1000000 : Int32)]) (st' := []) hW (i := 18) rfl rfl rfl (Nat.le_of_ble_eq_true rfl) rfl (Nat.le_of_ble_eq_true rfl) rfl (f223_l eq4 hW (hh rfl hd) ?_)
        refine R_iload_n (i := 19) rfl rfl ?_
        refine R_call (vs := [.int q4, .int p1]) (st' := []) (i := 20) rfl (by decide) (by decide) rfl rfl (Nat.le_of_ble_eq_true rfl) rfl (f141_l (hh rfl hd) ?_)
        refine R_iload_n (i := 21) rfl rfl ?_
        refine R_icmpne (i := 22) rfl (fun c5 => ?_) (fun c5 => ?_)
        · rw [if_neg c5] at hf
          refine R_bipush (i := 25) rfl ?_
          refine R_iconst (i := 26) rfl ?_
          refine R_aload_n (i := 27) rfl rfl ?_
          refine R_getF hW (i := 28) rfl rfl (Nat.le_of_ble_eq_true rfl) rfl ?_
          refine R_bipush (i := 29) rfl ?_
          refine R_iaload hW (i := 30) rfl rfl (by decide) ?_
          refine R_imul (i := 31) rfl ?_
          refine R_iadd (i := 32) rfl ?_
          refine R_topi (fun v6 e6 => ?_)
          replace hf := bnd_some e6 hf
          refine R_istore_n [some (.ref 0), some (.int p1), some (.int p2), some (.int v6)] (i := 33) rfl rfl ?_
          refine R_aload_n (i := 34) rfl rfl ?_
          refine R_getF hW (i := 35) rfl rfl (Nat.le_of_ble_eq_true rfl) rfl ?_
          refine R_iload_n (i := 36) rfl rfl ?_
          refine R_iload_n (i := 37) rfl rfl ?_
          have g7 := gd_some hf
          clear hf
          obtain ⟨g7, hf⟩ := g7
          refine R_iastore hW (i := 38) rfl rfl g7 (hg rfl hd) (fun h8 eh8 => ?_)
          replace hf := bnd_some eh8 hf
          have hW8 : WF 1 h8 := by rw [eh8]; exact hW
          refine R_aload_n (i := 39) rfl rfl ?_
          refine R_getF hW8 (i := 40) rfl rfl (Nat.le_of_ble_eq_true rfl) rfl ?_
          refine R_iload_n (i := 41) rfl rfl ?_
          refine R_iconst (i := 42) rfl ?_
          refine R_iadd (i := 43) rfl ?_
          refine R_iload_n (i := 44) rfl rfl ?_
          refine R_ifeq (i := 45) rfl (fun c9 => ?_) (fun c9 => ?_)
          · rw [if_pos c9] at hf
            refine R_iconst (i := 48) rfl ?_
            refine R_weak [some (.ref 0), none, none, some (.int v6)] ⟨Or.inr rfl, Or.inl rfl, Or.inl rfl, Or.inr rfl, trivial⟩ ?_
            exact f224_b49_l hf hW8 hd kk
          · rw [if_neg c9] at hf
            refine R_iconst (i := 46) rfl ?_
            refine R_goto (i := 47) rfl ?_
            refine R_weak [some (.ref 0), none, none, some (.int v6)] ⟨Or.inr rfl, Or.inl rfl, Or.inl rfl, Or.inr rfl, trivial⟩ ?_
            exact f224_b49_l hf hW8 hd kk
        · rw [if_pos c5] at hf
          refine R_iconst (i := 23) rfl ?_
          have hz := Option.some.inj hf
          subst hz
          exact R_iret (i := 24) rfl (kk hW)
set_option maxRecDepth 100000 in
set_option maxHeartbeats 4000000 in
theorem f225_b83_l {d N : Nat} {x1 : Int32} {x2 : Int32} {x3 : Int32} {x4 : Int32} {h : Hp} {Q : Option Value → Hp → Prop} {j : Nat} {s' : Int32 × Int32} (hf : f225_b83 N x1 x2 x3 x4 h = some (j, s')) (hW : WF 1 h) (hd : 1 ≤ d) (k0 : j = 0 → R 1 d 225 23 [some (.ref 0), some (.int x1), some (.int x2), some (.int s'.1), some (.int s'.2), none] [] h Q) (k1 : j = 1 → R 1 d 225 85 [none, none, none, some (.int s'.1), none, none] [] h Q) : R 1 d 225 83 [some (.ref 0), some (.int x1), some (.int x2), some (.int x3), some (.int x4), none] [] h Q := by
  unfold f225_b83 at hf
  obtain ⟨v10, e10⟩ : ∃ z : Int32, z = (x4 + (1 : Int32)) := ⟨_, rfl⟩
  replace hf := bnd_some e10 hf
  refine R_iinc [some (.ref 0), some (.int x1), some (.int x2), some (.int x3), some (.int v10), none] (i := 83) rfl rfl (by rw [← e10]; rfl) ?_
  refine R_goto (i := 84) rfl ?_
  obtain ⟨hj, hs⟩ := Prod.mk.inj (Option.some.inj hf)
  subst hj
  subst hs
  exact k0 rfl
set_option maxRecDepth 100000 in
set_option maxHeartbeats 4000000 in
theorem f225_b64_l {d N : Nat} {x1 : Int32} {x2 : Int32} {x3 : Int32} {x4 : Int32} {x5 : Int32} {h : Hp} {Q : Option Value → Hp → Prop} {j : Nat} {s' : Int32 × Int32} (hf : f225_b64 N x1 x2 x3 x4 x5 h = some (j, s')) (hW : WF 1 h) (hd : 1 ≤ d) (k0 : j = 0 → R 1 d 225 23 [some (.ref 0), some (.int x1), some (.int x2), some (.int s'.1), some (.int s'.2), none] [] h Q) (k1 : j = 1 → R 1 d 225 85 [none, none, none, some (.int s'.1), none, none] [] h Q) : R 1 d 225 64 [some (.ref 0), some (.int x1), some (.int x2), some (.int x3), some (.int x4), some (.int x5)] [] h Q := by
  unfold f225_b64 at hf
  refine R_iload_n (i := 64) rfl rfl ?_
  refine R_ifne (i := 65) rfl (fun c9 => ?_) (fun c9 => ?_)
  · rw [if_neg c9] at hf
    refine R_weak [some (.ref 0), some (.int x1), some (.int x2), some (.int x3), some (.int x4), none] ⟨Or.inr rfl, Or.inr rfl, Or.inr rfl, Or.inr rfl, Or.inr rfl, Or.inl rfl, trivial⟩ ?_
    exact f225_b83_l hf hW hd k0 k1
  · rw [if_pos c9] at hf
    refine R_aload_n (i := 66) rfl rfl ?_
    refine R_getF hW (i := 67) rfl rfl (Nat.le_of_ble_eq_true rfl) rfl ?_
    refine R_iload (i := 68) rfl rfl ?_
    refine R_iconst (i := 69) rfl ?_
    refine R_iadd (i := 70) rfl ?_
    have g11 := gd_some hf
    clear hf
    obtain ⟨g11, hf⟩ := g11
    refine R_iaload hW (i := 71) rfl rfl g11 ?_
    refine R_iconst (i := 72) rfl ?_
    refine R_icmpne (i := 73) rfl (fun c12 => ?_) (fun c12 => ?_)
    · rw [if_neg c12] at hf
      refine R_weak [some (.ref 0), some (.int x1), some (.int x2), some (.int x3), some (.int x4), none] ⟨Or.inr rfl, Or.inr rfl, Or.inr rfl, Or.inr rfl, Or.inr rfl, Or.inl rfl, trivial⟩ ?_
      exact f225_b83_l hf hW hd k0 k1
    · rw [if_pos c12] at hf
      refine R_iload_n (i := 74) rfl rfl ?_
      refine R_iconst (i := 75) rfl ?_
      refine R_aload_n (i := 76) rfl rfl ?_
      refine R_getF hW (i := 77) rfl rfl (Nat.le_of_ble_eq_true rfl) rfl ?_
      refine R_iload (i := 78) rfl rfl ?_
      have g13 := gd_some hf
      clear hf
      obtain ⟨g13, hf⟩ := g13
      refine R_iaload hW (i := 79) rfl rfl g13 ?_
      refine R_ishl (i := 80) rfl ?_
      refine R_ior (i := 81) rfl ?_
      refine R_topi (fun v14 e14 => ?_)
      replace hf := bnd_some e14 hf
      refine R_istore_n [some (.ref 0), some (.int x1), some (.int x2), some (.int v14), some (.int x4), some (.int x5)] (i := 82) rfl rfl ?_
      refine R_weak [some (.ref 0), some (.int x1), some (.int x2), some (.int v14), some (.int x4), none] ⟨Or.inr rfl, Or.inr rfl, Or.inr rfl, Or.inr rfl, Or.inr rfl, Or.inl rfl, trivial⟩ ?_
      exact f225_b83_l hf hW hd k0 k1
set_option maxRecDepth 100000 in
set_option maxHeartbeats 4000000 in
theorem f225_l23_l {d N : Nat} {x1 : Int32} {x2 : Int32} {h : Hp} {s : Int32 × Int32} {Q : Option Value → Hp → Prop} {j : Nat} {s' : Int32 × Int32} (hf : f225_l23 N x1 x2 h s = some (j, s')) (hW : WF 1 h) (hd : 1 ≤ d) (k0 : j = 0 → R 1 d 225 23 [some (.ref 0), some (.int x1), some (.int x2), some (.int s'.1), some (.int s'.2), none] [] h Q) (k1 : j = 1 → R 1 d 225 85 [none, none, none, some (.int s'.1), none, none] [] h Q) : R 1 d 225 23 [some (.ref 0), some (.int x1), some (.int x2), some (.int s.1), some (.int s.2), none] [] h Q := by
  unfold f225_l23 at hf
  refine R_iload (i := 23) rfl rfl ?_
  refine R_aload_n (i := 24) rfl rfl ?_
  refine R_getF hW (i := 25) rfl rfl (Nat.le_of_ble_eq_true rfl) rfl ?_
  refine R_bipush (i := 26) rfl ?_
  refine R_iaload hW (i := 27) rfl rfl (by decide) ?_
  refine R_icmpge (i := 28) rfl (fun c4 => ?_) (fun c4 => ?_)
  · rw [if_pos c4] at hf
    obtain ⟨hj, hs⟩ := Prod.mk.inj (Option.some.inj hf)
    subst hj
    subst hs
    refine R_weak [none, none, none, some (.int s.1), none, none] ⟨Or.inl rfl, Or.inl rfl, Or.inl rfl, Or.inr rfl, Or.inl rfl, Or.inr rfl, trivial⟩ ?_
    exact k1 rfl
  · rw [if_neg c4] at hf
    refine R_bipush (i := 29) rfl ?_
    refine R_iconst (i := 30) rfl ?_
    refine R_iload (i := 31) rfl rfl ?_
    refine R_imul (i := 32) rfl ?_
    refine R_iadd (i := 33) rfl ?_
    refine R_topi (fun v5 e5 => ?_)
    replace hf := bnd_some e5 hf
    refine R_istore [some (.ref 0), some (.int x1), some (.int x2), some (.int s.1), some (.int s.2), some (.int v5)] (i := 34) rfl rfl ?_
    refine R_aload_n (i := 35) rfl rfl ?_
    refine R_getF hW (i := 36) rfl rfl (Nat.le_of_ble_eq_true rfl) rfl ?_
    refine R_iload (i := 37) rfl rfl ?_
    refine R_iconst (i := 38) rfl ?_
    refine R_iadd (i := 39) rfl ?_
    have g6 := gd_some hf
    clear hf
    obtain ⟨g6, hf⟩ := g6
    refine R_iaload hW (i := 40) rfl rfl g6 ?_
    refine R_iload_n (i := 41) rfl rfl ?_
    refine R_icmpeq (i := 42) rfl (fun c7 => ?_) (fun c7 => ?_)
    · rw [if_pos c7] at hf
      refine R_iload_n (i := 44) rfl rfl ?_
      refine R_ifeq (i := 45) rfl (fun c8 => ?_) (fun c8 => ?_)
      · rw [if_pos c8] at hf
        exact f225_b64_l hf hW hd k0 k1
      · rw [if_neg c8] at hf
        refine R_aload_n (i := 46) rfl rfl ?_
        refine R_getF hW (i := 47) rfl rfl (Nat.le_of_ble_eq_true rfl) rfl ?_
        refine R_iload (i := 48) rfl rfl ?_
        refine R_iconst (i := 49) rfl ?_
        refine R_iadd (i := 50) rfl ?_
        have g15 := gd_some hf
        clear hf
        obtain ⟨g15, hf⟩ := g15
        refine R_iaload hW (i := 51) rfl rfl g15 ?_
        refine R_ifne (i := 52) rfl (fun c16 => ?_) (fun c16 => ?_)
        · rw [if_neg c16] at hf
          exact f225_b64_l hf hW hd k0 k1
        · rw [if_pos c16] at hf
          refine R_iload_n (i := 53) rfl rfl ?_
          refine R_iconst (i := 54) rfl ?_
          refine R_aload_n (i := 55) rfl rfl ?_
          refine R_getF hW (i := 56) rfl rfl (Nat.le_of_ble_eq_true rfl) rfl ?_
          refine R_iload (i := 57) rfl rfl ?_
          have g17 := gd_some hf
          clear hf
          obtain ⟨g17, hf⟩ := g17
          refine R_iaload hW (i := 58) rfl rfl g17 ?_
          refine R_ishl (i := 59) rfl ?_
          refine R_iconst (i := 60) rfl ?_
          refine R_ixor (i := 61) rfl ?_
          refine R_iand (i := 62) rfl ?_
          refine R_topi (fun v18 e18 => ?_)
          replace hf := bnd_some e18 hf
          refine R_istore_n [some (.ref 0), some (.int x1), some (.int x2), some (.int v18), some (.int s.2), some (.int v5)] (i := 63) rfl rfl ?_
          exact f225_b64_l hf hW hd k0 k1
    · rw [if_neg c7] at hf
      refine R_goto (i := 43) rfl ?_
      refine R_weak [some (.ref 0), some (.int x1), some (.int x2), some (.int s.1), some (.int s.2), none] ⟨Or.inr rfl, Or.inr rfl, Or.inr rfl, Or.inr rfl, Or.inr rfl, Or.inl rfl, trivial⟩ ?_
      exact f225_b83_l hf hW hd k0 k1
set_option maxRecDepth 100000 in
set_option maxHeartbeats 4000000 in
theorem f225_l {d N : Nat} {p1 : Int32} {p2 : Int32} {h : Hp} {Q : Option Value → Hp → Prop} {q : Int32} (hf : f225 N p1 p2 h = some q) (hW : WF 1 h) (hd : 1 ≤ d) (kk : Q (some (.int q)) h) : R 1 d 225 0 [some (.ref 0), some (.int p1), some (.int p2), none, none, none] [] h Q := by
  obtain ⟨d, rfl⟩ : ∃ z, d = z + 1 := ⟨d - 1, by omega⟩
  unfold f225 at hf
  refine R_iload_n (i := 0) rfl rfl ?_
  refine R_iconst (i := 1) rfl ?_
  refine R_icmpne (i := 2) rfl (fun c1 => ?_) (fun c1 => ?_)
  · rw [if_neg c1] at hf
    refine R_iload_n (i := 7) rfl rfl ?_
    refine R_iconst (i := 8) rfl ?_
    refine R_aload_n (i := 9) rfl rfl ?_
    refine R_getF hW (i := 10) rfl rfl (Nat.le_of_ble_eq_true rfl) rfl ?_
    refine R_bipush (i := 11) rfl ?_
    refine R_iaload hW (i := 12) rfl rfl (by decide) ?_
    refine R_call (vs := [.int p1, .int (0 : Int32), .int (hI h 1 (ix (16 : Int32)))]) (st' := []) (i := 13) rfl (by decide) (by decide) rfl rfl (Nat.le_of_ble_eq_true rfl) rfl (f139_l (hh rfl hd) ?_)
    refine R_ifne (i := 14) rfl (fun c2 => ?_) (fun c2 => ?_)
    · rw [if_neg c2] at hf
      refine R_aload_n (i := 17) rfl rfl ?_
      refine R_iload_n (i := 18) rfl rfl ?_
      have zq3 := bind_some hf
      clear hf
      obtain ⟨q3, eq3, hf⟩ := zq3
      refine R_callV (vs := [.int p1]) (st' := []) hW (i := 19) rfl rfl rfl (Nat.le_of_ble_eq_true rfl) rfl (Nat.le_of_ble_eq_true rfl) rfl (f223_l eq3 hW (hh rfl hd) ?_)
      refine R_istore_n [some (.ref 0), some (.int p1), some (.int p2), some (.int q3), none, none] (i := 20) rfl rfl ?_
      refine R_iconst (i := 21) rfl ?_
      refine R_istore [some (.ref 0), some (.int p1), some (.int p2), some (.int q3), some (.int (0 : Int32)), none] (i := 22) rfl rfl ?_
      have zq19 := bind_some hf
      clear hf
      obtain ⟨q19, eq19, hf⟩ := zq19
      refine lp_link (P := fun u23 => R 1 (d + 1) 225 23 [some (.ref 0), some (.int p1), some (.int p2), some (.int u23.1), some (.int u23.2), none] [] h Q) (E := fun e u23 => R 1 (d + 1) 225 85 [none, none, none, some (.int u23.1), none, none] [] h Q) (fun s j s' hb k0 ke => f225_l23_l hb hW hd k0 (fun z => ke 0 z)) N (q3, (0 : Int32)) q19.1 q19.2 eq19 ?_
      refine R_iload_n (i := 85) rfl rfl ?_
      have hz := Option.some.inj hf
      subst hz
      exact R_iret (i := 86) rfl kk
    · rw [if_pos c2] at hf
      refine R_iconst (i := 15) rfl ?_
      have hz := Option.some.inj hf
      subst hz
      exact R_iret (i := 16) rfl kk
  · rw [if_pos c1] at hf
    refine R_aload_n (i := 3) rfl rfl ?_
    refine R_ldcw (i := 4) rfl ?_
    have zq20 := bind_some hf
    clear hf
    obtain ⟨q20, eq20, hf⟩ := zq20
    refine R_callV (vs := [.int (1000000 : Int32)]) (st' := []) hW (i := 5) rfl rfl rfl (Nat.le_of_ble_eq_true rfl) rfl (Nat.le_of_ble_eq_true rfl) rfl (f223_l eq20 hW (hh rfl hd) ?_)
    have hz := Option.some.inj hf
    subst hz
    exact R_iret (i := 6) rfl kk
set_option maxRecDepth 100000 in
set_option maxHeartbeats 4000000 in
theorem f138_l2_l {d N : Nat} {s : Int32 × Hp} {Q : Option Value → Hp → Prop} {j : Nat} {s' : Int32 × Hp} (hf : f138_l2 N s = some (j, s')) (hW : WF 1 s.2) (hd : 5 ≤ d) (k0 : j = 0 → WF 1 s'.2 → R 1 d 138 2 [some (.ref 1), some (.ref 2), some (.int s'.1)] [] s'.2 Q) (k1 : j = 1 → WF 1 s'.2 → R 1 d 138 13 [none, none, none] [] s'.2 Q) : R 1 d 138 2 [some (.ref 1), some (.ref 2), some (.int s.1)] [] s.2 Q := by
  unfold f138_l2 at hf
  refine R_iload_n (i := 2) rfl rfl ?_
  refine R_sipush (i := 3) rfl ?_
  refine R_icmpge (i := 4) rfl (fun c1 => ?_) (fun c1 => ?_)
  · rw [if_pos c1] at hf
    obtain ⟨hj, hs⟩ := Prod.mk.inj (Option.some.inj hf)
    subst hj
    subst hs
    refine R_weak [none, none, none] ⟨Or.inl rfl, Or.inl rfl, Or.inl rfl, trivial⟩ ?_
    exact k1 rfl hW
  · rw [if_neg c1] at hf
    refine R_aload_n (i := 5) rfl rfl ?_
    refine R_iload_n (i := 6) rfl rfl ?_
    refine R_aload_n (i := 7) rfl rfl ?_
    refine R_iload_n (i := 8) rfl rfl ?_
    have g2 := gd_some hf
    clear hf
    obtain ⟨g2, hf⟩ := g2
    refine R_iaload hW (i := 9) rfl rfl g2 ?_
    have g3 := gd_some hf
    clear hf
    obtain ⟨g3, hf⟩ := g3
    refine R_iastore hW (i := 10) rfl rfl g3 (hg rfl hd) (fun h4 eh4 => ?_)
    replace hf := bnd_some eh4 hf
    have hW4 : WF 1 h4 := by rw [eh4]; exact hW
    obtain ⟨v5, e5⟩ : ∃ z : Int32, z = (s.1 + (1 : Int32)) := ⟨_, rfl⟩
    replace hf := bnd_some e5 hf
    refine R_iinc [some (.ref 1), some (.ref 2), some (.int v5)] (i := 11) rfl rfl (by rw [← e5]; rfl) ?_
    refine R_goto (i := 12) rfl ?_
    obtain ⟨hj, hs⟩ := Prod.mk.inj (Option.some.inj hf)
    subst hj
    subst hs
    exact k0 rfl hW4
set_option maxRecDepth 100000 in
set_option maxHeartbeats 4000000 in
theorem f138_l {d N : Nat} {h : Hp} {Q : Option Value → Hp → Prop} {q : Hp} (hf : f138 N h = some q) (hW : WF 1 h) (hd : 5 ≤ d) (kk : WF 1 q → Q (none) q) : R 1 d 138 0 [some (.ref 1), some (.ref 2), none] [] h Q := by
  unfold f138 at hf
  refine R_iconst (i := 0) rfl ?_
  refine R_istore_n [some (.ref 1), some (.ref 2), some (.int (0 : Int32))] (i := 1) rfl rfl ?_
  have zq6 := bind_some hf
  clear hf
  obtain ⟨q6, eq6, hf⟩ := zq6
  refine lp_link (P := fun u2 => WF 1 u2.2 → R 1 d 138 2 [some (.ref 1), some (.ref 2), some (.int u2.1)] [] u2.2 Q) (E := fun e u2 => WF 1 u2.2 → R 1 d 138 13 [none, none, none] [] u2.2 Q) (fun s j s' hb k0 ke hWs => f138_l2_l hb hWs hd k0 (fun z y => ke 0 z y)) N ((0 : Int32), h) q6.1 q6.2 eq6 ?_ hW
  intro hW6
  have hz := Option.some.inj hf
  subst hz
  exact R_vret (i := 13) rfl (kk hW6)
set_option maxRecDepth 100000 in
set_option maxHeartbeats 4000000 in
theorem f226_l {d N : Nat} {h : Hp} {Q : Option Value → Hp → Prop} {q : Int32 × Hp} (hf : f226 N h = some q) (hW : WF 1 h) (hd : 6 ≤ d) (kk : WF 1 q.2 → Q (some (.int q.1)) q.2) : R 1 d 226 0 [some (.ref 0)] [] h Q := by
  obtain ⟨d, rfl⟩ : ∃ z, d = z + 1 := ⟨d - 1, by omega⟩
  unfold f226 at hf
  refine R_aload_n (i := 0) rfl rfl ?_
  refine R_getF hW (i := 1) rfl rfl (Nat.le_of_ble_eq_true rfl) rfl ?_
  refine R_aload_n (i := 2) rfl rfl ?_
  refine R_getF hW (i := 3) rfl rfl (Nat.le_of_ble_eq_true rfl) rfl ?_
  have zq1 := bind_some hf
  clear hf
  obtain ⟨q1, eq1, hf⟩ := zq1
  refine R_call (vs := [.ref 1, .ref 2]) (st' := []) (i := 4) rfl (by decide) (by decide) rfl rfl (Nat.le_of_ble_eq_true rfl) rfl (f138_l eq1 hW (hh rfl hd) (fun hW1 => ?_))
  refine R_aload_n (i := 5) rfl rfl ?_
  refine R_getF hW1 (i := 6) rfl rfl (Nat.le_of_ble_eq_true rfl) rfl ?_
  refine R_bipush (i := 7) rfl ?_
  refine R_iaload hW1 (i := 8) rfl rfl (by decide) ?_
  have hz := Option.some.inj hf
  subst hz
  exact R_iret (i := 9) rfl (kk hW1)
set_option maxRecDepth 100000 in
set_option maxHeartbeats 4000000 in
theorem f138_2_1_l2_l {d N : Nat} {s : Int32 × Hp} {Q : Option Value → Hp → Prop} {j : Nat} {s' : Int32 × Hp} (hf : f138_2_1_l2 N s = some (j, s')) (hW : WF 1 s.2) (hd : 5 ≤ d) (k0 : j = 0 → WF 1 s'.2 → R 1 d 138 2 [some (.ref 2), some (.ref 1), some (.int s'.1)] [] s'.2 Q) (k1 : j = 1 → WF 1 s'.2 → R 1 d 138 13 [none, none, none] [] s'.2 Q) : R 1 d 138 2 [some (.ref 2), some (.ref 1), some (.int s.1)] [] s.2 Q := by
  unfold f138_2_1_l2 at hf
  refine R_iload_n (i := 2) rfl rfl ?_
  refine R_sipush (i := 3) rfl ?_
  refine R_icmpge (i := 4) rfl (fun c1 => ?_) (fun c1 => ?_)
  · rw [if_pos c1] at hf
    obtain ⟨hj, hs⟩ := Prod.mk.inj (Option.some.inj hf)
    subst hj
    subst hs
    refine R_weak [none, none, none] ⟨Or.inl rfl, Or.inl rfl, Or.inl rfl, trivial⟩ ?_
    exact k1 rfl hW
  · rw [if_neg c1] at hf
    refine R_aload_n (i := 5) rfl rfl ?_
    refine R_iload_n (i := 6) rfl rfl ?_
    refine R_aload_n (i := 7) rfl rfl ?_
    refine R_iload_n (i := 8) rfl rfl ?_
    have g2 := gd_some hf
    clear hf
    obtain ⟨g2, hf⟩ := g2
    refine R_iaload hW (i := 9) rfl rfl g2 ?_
    have g3 := gd_some hf
    clear hf
    obtain ⟨g3, hf⟩ := g3
    refine R_iastore hW (i := 10) rfl rfl g3 (hg rfl hd) (fun h4 eh4 => ?_)
    replace hf := bnd_some eh4 hf
    have hW4 : WF 1 h4 := by rw [eh4]; exact hW
    obtain ⟨v5, e5⟩ : ∃ z : Int32, z = (s.1 + (1 : Int32)) := ⟨_, rfl⟩
    replace hf := bnd_some e5 hf
    refine R_iinc [some (.ref 2), some (.ref 1), some (.int v5)] (i := 11) rfl rfl (by rw [← e5]; rfl) ?_
    refine R_goto (i := 12) rfl ?_
    obtain ⟨hj, hs⟩ := Prod.mk.inj (Option.some.inj hf)
    subst hj
    subst hs
    exact k0 rfl hW4
set_option maxRecDepth 100000 in
set_option maxHeartbeats 4000000 in
theorem f138_2_1_l {d N : Nat} {h : Hp} {Q : Option Value → Hp → Prop} {q : Hp} (hf : f138_2_1 N h = some q) (hW : WF 1 h) (hd : 5 ≤ d) (kk : WF 1 q → Q (none) q) : R 1 d 138 0 [some (.ref 2), some (.ref 1), none] [] h Q := by
  unfold f138_2_1 at hf
  refine R_iconst (i := 0) rfl ?_
  refine R_istore_n [some (.ref 2), some (.ref 1), some (.int (0 : Int32))] (i := 1) rfl rfl ?_
  have zq6 := bind_some hf
  clear hf
  obtain ⟨q6, eq6, hf⟩ := zq6
  refine lp_link (P := fun u2 => WF 1 u2.2 → R 1 d 138 2 [some (.ref 2), some (.ref 1), some (.int u2.1)] [] u2.2 Q) (E := fun e u2 => WF 1 u2.2 → R 1 d 138 13 [none, none, none] [] u2.2 Q) (fun s j s' hb k0 ke hWs => f138_2_1_l2_l hb hWs hd k0 (fun z y => ke 0 z y)) N ((0 : Int32), h) q6.1 q6.2 eq6 ?_ hW
  intro hW6
  have hz := Option.some.inj hf
  subst hz
  exact R_vret (i := 13) rfl (kk hW6)
set_option maxRecDepth 100000 in
set_option maxHeartbeats 4000000 in
theorem f227_l {d N : Nat} {h : Hp} {Q : Option Value → Hp → Prop} {q : Int32 × Hp} (hf : f227 N h = some q) (hW : WF 1 h) (hd : 6 ≤ d) (kk : WF 1 q.2 → Q (some (.int q.1)) q.2) : R 1 d 227 0 [some (.ref 0)] [] h Q := by
  obtain ⟨d, rfl⟩ : ∃ z, d = z + 1 := ⟨d - 1, by omega⟩
  unfold f227 at hf
  refine R_aload_n (i := 0) rfl rfl ?_
  refine R_getF hW (i := 1) rfl rfl (Nat.le_of_ble_eq_true rfl) rfl ?_
  refine R_aload_n (i := 2) rfl rfl ?_
  refine R_getF hW (i := 3) rfl rfl (Nat.le_of_ble_eq_true rfl) rfl ?_
  have zq1 := bind_some hf
  clear hf
  obtain ⟨q1, eq1, hf⟩ := zq1
  refine R_call (vs := [.ref 2, .ref 1]) (st' := []) (i := 4) rfl (by decide) (by decide) rfl rfl (Nat.le_of_ble_eq_true rfl) rfl (f138_2_1_l eq1 hW (hh rfl hd) (fun hW1 => ?_))
  refine R_aload_n (i := 5) rfl rfl ?_
  refine R_iconst (i := 6) rfl ?_
  refine R_putZ hW1 (i := 7) rfl rfl (Nat.le_of_ble_eq_true rfl) (by decide) (hg rfl hd) (fun h2 eh2 => ?_)
  replace hf := bnd_some eh2 hf
  have hW2 : WF 1 h2 := by rw [eh2]; exact hW1
  refine R_aload_n (i := 8) rfl rfl ?_
  refine R_getF hW2 (i := 9) rfl rfl (Nat.le_of_ble_eq_true rfl) rfl ?_
  refine R_bipush (i := 10) rfl ?_
  refine R_iaload hW2 (i := 11) rfl rfl (by decide) ?_
  have hz := Option.some.inj hf
  subst hz
  exact R_iret (i := 12) rfl (kk hW2)
set_option maxRecDepth 100000 in
set_option maxHeartbeats 4000000 in
theorem f228_b36_l {d N : Nat} {x1 : Int32} {h : Hp} {Q : Option Value → Hp → Prop} {q : Int32} (hf : f228_b36 N x1 h = some q) (hW : WF 1 h) (hd : 2 ≤ d) (kk : Q (some (.int q)) h) : R 1 d 228 36 [some (.ref 0), some (.int x1)] [] h Q := by
  unfold f228_b36 at hf
  refine R_iload_n (i := 36) rfl rfl ?_
  refine R_switch (i := 37) rfl ?_
  refine R_swc (lo := 0) (lo' := 1) (by decide) (fun c3 => ?_) (fun c3 => ?_)
  · rw [if_pos c3] at hf
    refine R_aload_n (i := 38) rfl rfl ?_
    refine R_getI hW (i := 39) rfl rfl (Nat.le_of_ble_eq_true rfl) ?_
    have hz := Option.some.inj hf
    subst hz
    exact R_iret (i := 40) rfl kk
  rw [if_neg c3] at hf
  refine R_swc (lo := 1) (lo' := 2) (by decide) (fun c4 => ?_) (fun c4 => ?_)
  · rw [if_pos c4] at hf
    refine R_aload_n (i := 41) rfl rfl ?_
    refine R_getF hW (i := 42) rfl rfl (Nat.le_of_ble_eq_true rfl) rfl ?_
    refine R_iload_n (i := 43) rfl rfl ?_
    refine R_iconst (i := 44) rfl ?_
    refine R_isub (i := 45) rfl ?_
    have g5 := gd_some hf
    clear hf
    obtain ⟨g5, hf⟩ := g5
    refine R_iaload hW (i := 46) rfl rfl g5 ?_
    have hz := Option.some.inj hf
    subst hz
    exact R_iret (i := 47) rfl kk
  rw [if_neg c4] at hf
  refine R_swc (lo := 2) (lo' := 3) (by decide) (fun c6 => ?_) (fun c6 => ?_)
  · rw [if_pos c6] at hf
    refine R_aload_n (i := 41) rfl rfl ?_
    refine R_getF hW (i := 42) rfl rfl (Nat.le_of_ble_eq_true rfl) rfl ?_
    refine R_iload_n (i := 43) rfl rfl ?_
    refine R_iconst (i := 44) rfl ?_
    refine R_isub (i := 45) rfl ?_
    have g7 := gd_some hf
    clear hf
    obtain ⟨g7, hf⟩ := g7
    refine R_iaload hW (i := 46) rfl rfl g7 ?_
    have hz := Option.some.inj hf
    subst hz
    exact R_iret (i := 47) rfl kk
  rw [if_neg c6] at hf
  refine R_swc (lo := 3) (lo' := 4) (by decide) (fun c8 => ?_) (fun c8 => ?_)
  · rw [if_pos c8] at hf
    refine R_aload_n (i := 41) rfl rfl ?_
    refine R_getF hW (i := 42) rfl rfl (Nat.le_of_ble_eq_true rfl) rfl ?_
    refine R_iload_n (i := 43) rfl rfl ?_
    refine R_iconst (i := 44) rfl ?_
    refine R_isub (i := 45) rfl ?_
    have g9 := gd_some hf
    clear hf
    obtain ⟨g9, hf⟩ := g9
    refine R_iaload hW (i := 46) rfl rfl g9 ?_
    have hz := Option.some.inj hf
    subst hz
    exact R_iret (i := 47) rfl kk
  rw [if_neg c8] at hf
  refine R_swc (lo := 4) (lo' := 5) (by decide) (fun c10 => ?_) (fun c10 => ?_)
  · rw [if_pos c10] at hf
    refine R_aload_n (i := 41) rfl rfl ?_
    refine R_getF hW (i := 42) rfl rfl (Nat.le_of_ble_eq_true rfl) rfl ?_
    refine R_iload_n (i := 43) rfl rfl ?_
    refine R_iconst (i := 44) rfl ?_
    refine R_isub (i := 45) rfl ?_
    have g11 := gd_some hf
    clear hf
    obtain ⟨g11, hf⟩ := g11
    refine R_iaload hW (i := 46) rfl rfl g11 ?_
    have hz := Option.some.inj hf
    subst hz
    exact R_iret (i := 47) rfl kk
  rw [if_neg c10] at hf
  refine R_swc (lo := 5) (lo' := 6) (by decide) (fun c12 => ?_) (fun c12 => ?_)
  · rw [if_pos c12] at hf
    refine R_aload_n (i := 41) rfl rfl ?_
    refine R_getF hW (i := 42) rfl rfl (Nat.le_of_ble_eq_true rfl) rfl ?_
    refine R_iload_n (i := 43) rfl rfl ?_
    refine R_iconst (i := 44) rfl ?_
    refine R_isub (i := 45) rfl ?_
    have g13 := gd_some hf
    clear hf
    obtain ⟨g13, hf⟩ := g13
    refine R_iaload hW (i := 46) rfl rfl g13 ?_
    have hz := Option.some.inj hf
    subst hz
    exact R_iret (i := 47) rfl kk
  rw [if_neg c12] at hf
  refine R_swc (lo := 6) (lo' := 7) (by decide) (fun c14 => ?_) (fun c14 => ?_)
  · rw [if_pos c14] at hf
    refine R_aload_n (i := 41) rfl rfl ?_
    refine R_getF hW (i := 42) rfl rfl (Nat.le_of_ble_eq_true rfl) rfl ?_
    refine R_iload_n (i := 43) rfl rfl ?_
    refine R_iconst (i := 44) rfl ?_
    refine R_isub (i := 45) rfl ?_
    have g15 := gd_some hf
    clear hf
    obtain ⟨g15, hf⟩ := g15
    refine R_iaload hW (i := 46) rfl rfl g15 ?_
    have hz := Option.some.inj hf
    subst hz
    exact R_iret (i := 47) rfl kk
  rw [if_neg c14] at hf
  refine R_swc (lo := 7) (lo' := 8) (by decide) (fun c16 => ?_) (fun c16 => ?_)
  · rw [if_pos c16] at hf
    refine R_aload_n (i := 41) rfl rfl ?_
    refine R_getF hW (i := 42) rfl rfl (Nat.le_of_ble_eq_true rfl) rfl ?_
    refine R_iload_n (i := 43) rfl rfl ?_
    refine R_iconst (i := 44) rfl ?_
    refine R_isub (i := 45) rfl ?_
    have g17 := gd_some hf
    clear hf
    obtain ⟨g17, hf⟩ := g17
    refine R_iaload hW (i := 46) rfl rfl g17 ?_
    have hz := Option.some.inj hf
    subst hz
    exact R_iret (i := 47) rfl kk
  rw [if_neg c16] at hf
  refine R_swc (lo := 8) (lo' := 9) (by decide) (fun c18 => ?_) (fun c18 => ?_)
  · rw [if_pos c18] at hf
    refine R_aload_n (i := 41) rfl rfl ?_
    refine R_getF hW (i := 42) rfl rfl (Nat.le_of_ble_eq_true rfl) rfl ?_
    refine R_iload_n (i := 43) rfl rfl ?_
    refine R_iconst (i := 44) rfl ?_
    refine R_isub (i := 45) rfl ?_
    have g19 := gd_some hf
    clear hf
    obtain ⟨g19, hf⟩ := g19
    refine R_iaload hW (i := 46) rfl rfl g19 ?_
    have hz := Option.some.inj hf
    subst hz
    exact R_iret (i := 47) rfl kk
  rw [if_neg c18] at hf
  refine R_swc (lo := 9) (lo' := 10) (by decide) (fun c20 => ?_) (fun c20 => ?_)
  · rw [if_pos c20] at hf
    refine R_aload_n (i := 48) rfl rfl ?_
    refine R_getI hW (i := 49) rfl rfl (Nat.le_of_ble_eq_true rfl) ?_
    have hz := Option.some.inj hf
    subst hz
    exact R_iret (i := 50) rfl kk
  rw [if_neg c20] at hf
  refine R_swn ?_
  refine R_bipush (i := 51) rfl ?_
  have hz := Option.some.inj hf
  subst hz
  exact R_iret (i := 52) rfl kk
set_option maxRecDepth 100000 in
set_option maxHeartbeats 4000000 in
theorem f228_l {d N : Nat} {p1 : Int32} {h : Hp} {Q : Option Value → Hp → Prop} {q : Int32} (hf : f228 N p1 h = some q) (hW : WF 1 h) (hd : 2 ≤ d) (kk : Q (some (.int q)) h) : R 1 d 228 0 [some (.ref 0), some (.int p1)] [] h Q := by
  obtain ⟨d, rfl⟩ : ∃ z, d = z + 1 := ⟨d - 1, by omega⟩
  unfold f228 at hf
  refine R_iload_n (i := 0) rfl rfl ?_
  refine R_bipush (i := 1) rfl ?_
  refine R_bipush (i := 2) rfl ?_
  refine R_call (vs := [.int p1, .int (10 : Int32), .int (17 : Int32)]) (st' := []) (i := 3) rfl (by decide) (by decide) rfl rfl (Nat.le_of_ble_eq_true rfl) rfl (f139_l (hh rfl hd) ?_)
  refine R_ifeq (i := 4) rfl (fun c1 => ?_) (fun c1 => ?_)
  · rw [if_pos c1] at hf
    refine R_iload_n (i := 14) rfl rfl ?_
    refine R_bipush (i := 15) rfl ?_
    refine R_bipush (i := 16) rfl ?_
    refine R_call (vs := [.int p1, .int (20 : Int32), .int (55 : Int32)]) (st' := []) (i := 17) rfl (by decide) (by decide) rfl rfl (Nat.le_of_ble_eq_true rfl) rfl (f139_l (hh rfl hd) ?_)
    refine R_ifeq (i := 18) rfl (fun c2 => ?_) (fun c2 => ?_)
    · rw [if_pos c2] at hf
      exact f228_b36_l hf hW hd kk
    · rw [if_neg c2] at hf
      refine R_aload_n (i := 19) rfl rfl ?_
      refine R_iload_n (i := 20) rfl rfl ?_
      refine R_bipush (i := 21) rfl ?_
      refine R_isub (i := 22) rfl ?_
      refine R_bipush (i := 23) rfl ?_
      refine R_irem (i := 24) rfl (by decide) ?_
      have zq21 := bind_some hf
      clear hf
      obtain ⟨q21, eq21, hf⟩ := zq21
      refine R_callV (vs := [.int (irem (p1 - (20 : Int32)) (12 : Int32))]) (st' := []) hW (i := 25) rfl rfl rfl (Nat.le_of_ble_eq_true rfl) rfl (Nat.le_of_ble_eq_true rfl) rfl (f142_l eq21 hW (hh rfl hd) ?_)
      refine R_ifeq (i := 26) rfl (fun c22 => ?_) (fun c22 => ?_)
      · rw [if_pos c22] at hf
        exact f228_b36_l hf hW hd kk
      · rw [if_neg c22] at hf
        refine R_aload_n (i := 27) rfl rfl ?_
        refine R_getF hW (i := 28) rfl rfl (Nat.le_of_ble_eq_true rfl) rfl ?_
        refine R_bipush (i := 29) rfl ?_
        refine R_iload_n (i := 30) rfl rfl ?_
        refine R_iadd (i := 31) rfl ?_
        refine R_bipush (i := 32) rfl ?_
        refine R_isub (i := 33) rfl ?_
        have g23 := gd_some hf
        clear hf
        obtain ⟨g23, hf⟩ := g23
        refine R_iaload hW (i := 34) rfl rfl g23 ?_
        have hz := Option.some.inj hf
        subst hz
        exact R_iret (i := 35) rfl kk
  · rw [if_neg c1] at hf
    refine R_aload_n (i := 5) rfl rfl ?_
    refine R_getF hW (i := 6) rfl rfl (Nat.le_of_ble_eq_true rfl) rfl ?_
    refine R_bipush (i := 7) rfl ?_
    refine R_iload_n (i := 8) rfl rfl ?_
    refine R_iadd (i := 9) rfl ?_
    refine R_bipush (i := 10) rfl ?_
    refine R_isub (i := 11) rfl ?_
    have g24 := gd_some hf
    clear hf
    obtain ⟨g24, hf⟩ := g24
    refine R_iaload hW (i := 12) rfl rfl g24 ?_
    have hz := Option.some.inj hf
    subst hz
    exact R_iret (i := 13) rfl kk
