set_option maxRecDepth 100000 in
set_option maxHeartbeats 4000000 in
theorem f62_l2_l {d N : Nat} {x1 : Int32} {x2 : Int32} {x3 : Int32} {x4 : Int32} {x5 : Int32} {h : Hp} {s : Int32} {Q : Option Value → Hp → Prop} {j : Nat} {s' : Int32} (hf : f62_l2 N x1 x2 x3 x4 x5 h s = some (j, s')) (hW : WF 0 h) (hd : 1 ≤ d) (k0 : j = 0 → R 0 d 62 2 [some (.ref 41), some (.int x1), some (.int x2), some (.int x3), some (.int x4), some (.int x5), some (.int s'), none] [] h Q) (k1 : j = 1 → R 0 d 62 25 [none, none, none, none, none, none, some (.int s'), none] [] h Q) (k2 : j = 2 → R 0 d 62 29 [none, none, none, none, none, none, none, none] [] h Q) : R 0 d 62 2 [some (.ref 41), some (.int x1), some (.int x2), some (.int x3), some (.int x4), some (.int x5), some (.int s), none] [] h Q := by
  obtain ⟨d, rfl⟩ : ∃ z, d = z + 1 := ⟨d - 1, by omega⟩
  unfold f62_l2 at hf
  refine R_iload (i := 2) rfl rfl ?_
  refine R_iload_n (i := 3) rfl rfl ?_
  refine R_icmpgt (i := 4) rfl (fun c1 => ?_) (fun c1 => ?_)
  · rw [if_pos c1] at hf
    obtain ⟨hj, hs⟩ := Prod.mk.inj (Option.some.inj hf)
    subst hj
    subst hs
    refine R_weak [none, none, none, none, none, none, none, none] ⟨Or.inl rfl, Or.inl rfl, Or.inl rfl, Or.inl rfl, Or.inl rfl, Or.inl rfl, Or.inl rfl, Or.inr rfl, trivial⟩ ?_
    exact k2 rfl
  · rw [if_neg c1] at hf
    refine R_iload (i := 5) rfl rfl ?_
    refine R_iconst (i := 6) rfl ?_
    refine R_icmpgt (i := 7) rfl (fun c2 => ?_) (fun c2 => ?_)
    · rw [if_pos c2] at hf
      obtain ⟨hj, hs⟩ := Prod.mk.inj (Option.some.inj hf)
      subst hj
      subst hs
      refine R_weak [none, none, none, none, none, none, none, none] ⟨Or.inl rfl, Or.inl rfl, Or.inl rfl, Or.inl rfl, Or.inl rfl, Or.inl rfl, Or.inl rfl, Or.inr rfl, trivial⟩ ?_
      exact k2 rfl
    · rw [if_neg c2] at hf
      refine R_aload_n (i := 8) rfl rfl ?_
      refine R_iload_n (i := 9) rfl rfl ?_
      refine R_iload (i := 10) rfl rfl ?_
      have zq3 := bind_some hf
      clear hf
      obtain ⟨q3, eq3, hf⟩ := zq3
      refine R_callV (vs := [.int x2, .int s]) (st' := []) hW (i := 11) rfl rfl rfl (Nat.le_of_ble_eq_true rfl) rfl (Nat.le_of_ble_eq_true rfl) rfl (f60_l eq3 hW (hh rfl hd) ?_)
      refine R_istore [some (.ref 41), some (.int x1), some (.int x2), some (.int x3), some (.int x4), some (.int x5), some (.int s), some (.int q3)] (i := 12) rfl rfl ?_
      refine R_aload_n (i := 13) rfl rfl ?_
      refine R_getF hW (i := 14) rfl rfl (Nat.le_of_ble_eq_true rfl) rfl ?_
      refine R_iload_n (i := 15) rfl rfl ?_
      refine R_iload (i := 16) rfl rfl ?_
      refine R_call (vs := [.int x1, .int q3]) (st' := [.ref 42]) (i := 17) rfl (by decide) (by decide) rfl rfl (Nat.le_of_ble_eq_true rfl) rfl (f133_l (hh rfl hd) ?_)
      have g4 := gd_some hf
      clear hf
      obtain ⟨g4, hf⟩ := g4
      refine R_iaload hW (i := 18) rfl rfl g4 ?_
      refine R_iload (i := 19) rfl rfl ?_
      refine R_icmplt (i := 20) rfl (fun c5 => ?_) (fun c5 => ?_)
      · rw [if_pos c5] at hf
        obtain ⟨hj, hs⟩ := Prod.mk.inj (Option.some.inj hf)
        subst hj
        subst hs
        refine R_weak [none, none, none, none, none, none, some (.int s), none] ⟨Or.inl rfl, Or.inl rfl, Or.inl rfl, Or.inl rfl, Or.inl rfl, Or.inl rfl, Or.inr rfl, Or.inl rfl, trivial⟩ ?_
        exact k1 rfl
      · rw [if_neg c5] at hf
        refine R_iload (i := 21) rfl rfl ?_
        refine R_iload (i := 22) rfl rfl ?_
        refine R_call (vs := [.int x5, .int q3]) (st' := []) (i := 23) rfl (by decide) (by decide) rfl rfl (Nat.le_of_ble_eq_true rfl) rfl (f123_l (hh rfl hd) ?_)
        refine R_ifeq (i := 24) rfl (fun c6 => ?_) (fun c6 => ?_)
        · rw [if_pos c6] at hf
          obtain ⟨v7, e7⟩ : ∃ z : Int32, z = (s + (1 : Int32)) := ⟨_, rfl⟩
          replace hf := bnd_some e7 hf
          refine R_iinc [some (.ref 41), some (.int x1), some (.int x2), some (.int x3), some (.int x4), some (.int x5), some (.int v7), some (.int q3)] (i := 27) rfl rfl (by rw [← e7]; rfl) ?_
          refine R_goto (i := 28) rfl ?_
          obtain ⟨hj, hs⟩ := Prod.mk.inj (Option.some.inj hf)
          subst hj
          subst hs
          refine R_weak [some (.ref 41), some (.int x1), some (.int x2), some (.int x3), some (.int x4), some (.int x5), some (.int v7), none] ⟨Or.inr rfl, Or.inr rfl, Or.inr rfl, Or.inr rfl, Or.inr rfl, Or.inr rfl, Or.inr rfl, Or.inl rfl, trivial⟩ ?_
          exact k0 rfl
        · rw [if_neg c6] at hf
          obtain ⟨hj, hs⟩ := Prod.mk.inj (Option.some.inj hf)
          subst hj
          subst hs
          refine R_weak [none, none, none, none, none, none, some (.int s), none] ⟨Or.inl rfl, Or.inl rfl, Or.inl rfl, Or.inl rfl, Or.inl rfl, Or.inl rfl, Or.inr rfl, Or.inl rfl, trivial⟩ ?_
          exact k1 rfl
set_option maxRecDepth 100000 in
set_option maxHeartbeats 4000000 in
theorem f62_l {d N : Nat} {p1 : Int32} {p2 : Int32} {p3 : Int32} {p4 : Int32} {p5 : Int32} {h : Hp} {Q : Option Value → Hp → Prop} {q : Int32} (hf : f62 N p1 p2 p3 p4 p5 h = some q) (hW : WF 0 h) (hd : 1 ≤ d) (kk : Q (some (.int q)) h) : R 0 d 62 0 [some (.ref 41), some (.int p1), some (.int p2), some (.int p3), some (.int p4), some (.int p5), none, none] [] h Q := by
  unfold f62 at hf
  refine R_iconst (i := 0) rfl ?_
  refine R_istore [some (.ref 41), some (.int p1), some (.int p2), some (.int p3), some (.int p4), some (.int p5), some (.int (1 : Int32)), none] (i := 1) rfl rfl ?_
  have zq8 := bind_some hf
  clear hf
  obtain ⟨q8, eq8, hf⟩ := zq8
  refine lp_link (P := fun u2 => R 0 d 62 2 [some (.ref 41), some (.int p1), some (.int p2), some (.int p3), some (.int p4), some (.int p5), some (.int u2), none] [] h Q) (E := fun e u2 => ((e = 0 → R 0 d 62 25 [none, none, none, none, none, none, some (.int u2), none] [] h Q) ∧ (e = 1 → R 0 d 62 29 [none, none, none, none, none, none, none, none] [] h Q))) (fun s j s' hb k0 ke => f62_l2_l hb hW hd k0 (fun z => (ke 0 z).1 rfl) (fun z => (ke 1 z).2 rfl)) N (1 : Int32) q8.1 q8.2 eq8 ?_
  refine ⟨fun z => ?_, fun z => ?_⟩
  · rw [if_pos z] at hf
    refine R_iload (i := 25) rfl rfl ?_
    have hz := Option.some.inj hf
    subst hz
    exact R_iret (i := 26) rfl kk
  · rw [if_neg (by rw [z]; decide)] at hf
    refine R_iconst (i := 29) rfl ?_
    have hz := Option.some.inj hf
    subst hz
    exact R_iret (i := 30) rfl kk
set_option maxRecDepth 100000 in
set_option maxHeartbeats 4000000 in
theorem f135_l {d : Nat} {p0 : Int32} {p1 : Int32} {p2 : Int32} {p3 : Int32} {h : Hp} {Q : Option Value → Hp → Prop} (hd : 0 ≤ d) (kk : Q (some (.int (f135 p0 p1 p2 p3))) h) : R 0 d 135 0 [some (.int p0), some (.int p1), some (.int p2), some (.int p3)] [] h Q := by
  unfold f135 at kk
  refine R_iload_n (i := 0) rfl rfl ?_
  refine R_bipush (i := 1) rfl ?_
  refine R_imul (i := 2) rfl ?_
  refine R_iload_n (i := 3) rfl rfl ?_
  refine R_iadd (i := 4) rfl ?_
  refine R_bipush (i := 5) rfl ?_
  refine R_imul (i := 6) rfl ?_
  refine R_iload_n (i := 7) rfl rfl ?_
  refine R_iadd (i := 8) rfl ?_
  refine R_iconst (i := 9) rfl ?_
  refine R_imul (i := 10) rfl ?_
  refine R_iload_n (i := 11) rfl rfl ?_
  refine R_iadd (i := 12) rfl ?_
  exact R_iret (i := 13) rfl kk
set_option maxRecDepth 100000 in
set_option maxHeartbeats 4000000 in
theorem f31_l {d N : Nat} {p1 : Int32} {p2 : Int32} {p3 : Int32} {h : Hp} {Q : Option Value → Hp → Prop} {q : Int32 × Hp} (hf : f31 N p1 p2 p3 h = some q) (hW : WF 0 h) (hd : 7 ≤ d) (kk : WF 0 q.2 → Q (some (.int q.1)) q.2) : R 0 d 31 0 [some (.ref 61), some (.int p1), some (.int p2), some (.int p3), none, none, none, none, none] [] h Q := by
  obtain ⟨d, rfl⟩ : ∃ z, d = z + 1 := ⟨d - 1, by omega⟩
  unfold f31 at hf
  refine R_iload_n (i := 0) rfl rfl ?_
  refine R_call (vs := [.int p1]) (st' := []) (i := 1) rfl (by decide) (by decide) rfl rfl (Nat.le_of_ble_eq_true rfl) rfl (f129_l (hh rfl hd) ?_)
  refine R_iload_n (i := 2) rfl rfl ?_
  refine R_iconst (i := 3) rfl ?_
  refine R_idiv (i := 4) rfl (by decide) ?_
  refine R_iadd (i := 5) rfl ?_
  refine R_iconst (i := 6) rfl ?_
  refine R_isub (i := 7) rfl ?_
  refine R_topi (fun v1 e1 => ?_)
  replace hf := bnd_some e1 hf
  refine R_istore [some (.ref 61), some (.int p1), some (.int p2), some (.int p3), some (.int v1), none, none, none, none] (i := 8) rfl rfl ?_
  refine R_iload (i := 9) rfl rfl ?_
  refine R_call (vs := [.int v1]) (st' := []) (i := 10) rfl (by decide) (by decide) rfl rfl (Nat.le_of_ble_eq_true rfl) rfl (f125_l (hh rfl hd) ?_)
  refine R_ifne (i := 11) rfl (fun c2 => ?_) (fun c2 => ?_)
  · rw [if_neg c2] at hf
    refine R_iload_n (i := 14) rfl rfl ?_
    refine R_call (vs := [.int p1]) (st' := []) (i := 15) rfl (by decide) (by decide) rfl rfl (Nat.le_of_ble_eq_true rfl) rfl (f130_l (hh rfl hd) ?_)
    refine R_topi (fun v3 e3 => ?_)
    replace hf := bnd_some e3 hf
    refine R_istore [some (.ref 61), some (.int p1), some (.int p2), some (.int p3), some (.int v1), some (.int v3), none, none, none] (i := 16) rfl rfl ?_
    refine R_iload_n (i := 17) rfl rfl ?_
    refine R_call (vs := [.int p1]) (st' := []) (i := 18) rfl (by decide) (by decide) rfl rfl (Nat.le_of_ble_eq_true rfl) rfl (f131_l (hh rfl hd) ?_)
    refine R_topi (fun v4 e4 => ?_)
    replace hf := bnd_some e4 hf
    refine R_istore [some (.ref 61), some (.int p1), some (.int p2), some (.int p3), some (.int v1), some (.int v3), some (.int v4), none, none] (i := 19) rfl rfl ?_
    refine R_aload_n (i := 20) rfl rfl ?_
    refine R_iload (i := 21) rfl rfl ?_
    refine R_iload (i := 22) rfl rfl ?_
    refine R_iload (i := 23) rfl rfl ?_
    refine R_iload_n (i := 24) rfl rfl ?_
    refine R_call (vs := [.int p1]) (st' := [.int v4, .int v3, .int v1, .ref 61]) (i := 25) rfl (by decide) (by decide) rfl rfl (Nat.le_of_ble_eq_true rfl) rfl (f132_l (hh rfl hd) ?_)
    have zq5 := bind_some hf
    clear hf
    obtain ⟨q5, eq5, hf⟩ := zq5
    refine R_callV (vs := [.int v1, .int v3, .int v4, .int (f132 p1)]) (st' := []) hW (i := 26) rfl rfl rfl (Nat.le_of_ble_eq_true rfl) rfl (Nat.le_of_ble_eq_true rfl) rfl (f33_l eq5 hW (hh rfl hd) (fun hW5 => ?_))
    refine R_aload_n (i := 27) rfl rfl ?_
    refine R_iload_n (i := 28) rfl rfl ?_
    refine R_iconst (i := 29) rfl ?_
    refine R_irem (i := 30) rfl (by decide) ?_
    refine R_iload_n (i := 31) rfl rfl ?_
    have zq6 := bind_some hf
    clear hf
    obtain ⟨q6, eq6, hf⟩ := zq6
    refine R_callV (vs := [.int (irem p2 (4 : Int32)), .int p3]) (st' := []) hW5 (i := 32) rfl rfl rfl (Nat.le_of_ble_eq_true rfl) rfl (Nat.le_of_ble_eq_true rfl) rfl (f34_l eq6 hW5 (hh rfl hd) (fun hW6 => ?_))
    refine R_istore [some (.ref 61), some (.int p1), some (.int p2), some (.int p3), some (.int v1), some (.int v3), some (.int v4), some (.int q6.1), none] (i := 33) rfl rfl ?_
    refine R_aload_n (i := 34) rfl rfl ?_
    refine R_getF hW6 (i := 35) rfl rfl (Nat.le_of_ble_eq_true rfl) rfl ?_
    refine R_iload (i := 36) rfl rfl ?_
    refine R_iload (i := 37) rfl rfl ?_
    refine R_iload (i := 38) rfl rfl ?_
    refine R_aload_n (i := 39) rfl rfl ?_
    refine R_iload (i := 40) rfl rfl ?_
    refine R_iload (i := 41) rfl rfl ?_
    have zq7 := bind_some hf
    clear hf
    obtain ⟨q7, eq7, hf⟩ := zq7
    refine R_callV (vs := [.int v4, .int q6.1]) (st' := [.int q6.1, .int v3, .int v1, .ref 41]) hW6 (i := 42) rfl rfl rfl (Nat.le_of_ble_eq_true rfl) rfl (Nat.le_of_ble_eq_true rfl) rfl (f35_l eq7 hW6 (hh rfl hd) (fun hW7 => ?_))
    refine R_aload_n (i := 43) rfl rfl ?_
    refine R_iload (i := 44) rfl rfl ?_
    have zq8 := bind_some hf
    clear hf
    obtain ⟨q8, eq8, hf⟩ := zq8
    refine R_callV (vs := [.int v4]) (st' := [.int q7.1, .int q6.1, .int v3, .int v1, .ref 41]) hW7 (i := 45) rfl rfl rfl (Nat.le_of_ble_eq_true rfl) rfl (Nat.le_of_ble_eq_true rfl) rfl (f36_l eq8 hW7 (hh rfl hd) (fun hW8 => ?_))
    have zq9 := bind_some hf
    clear hf
    obtain ⟨q9, eq9, hf⟩ := zq9
    refine R_callV (vs := [.int v1, .int v3, .int q6.1, .int q7.1, .int q8.1]) (st' := []) hW8 (i := 46) rfl rfl rfl (Nat.le_of_ble_eq_true rfl) rfl (Nat.le_of_ble_eq_true rfl) rfl (f62_l eq9 hW8 (hh rfl hd) ?_)
    refine R_istore [some (.ref 61), some (.int p1), some (.int p2), some (.int p3), some (.int v1), some (.int v3), some (.int v4), some (.int q6.1), some (.int q9)] (i := 47) rfl rfl ?_
    refine R_iload (i := 48) rfl rfl ?_
    refine R_ifle (i := 49) rfl (fun c10 => ?_) (fun c10 => ?_)
    · rw [if_pos c10] at hf
      refine R_iload (i := 60) rfl rfl ?_
      refine R_aload_n (i := 61) rfl rfl ?_
      refine R_getF hW8 (i := 62) rfl rfl (Nat.le_of_ble_eq_true rfl) rfl ?_
      refine R_iload (i := 63) rfl rfl ?_
      refine R_iload (i := 64) rfl rfl ?_
      have zq11 := bind_some hf
      clear hf
      obtain ⟨q11, eq11, hf⟩ := zq11
      refine R_callV (vs := [.int v3, .int q6.1]) (st' := [.int v1]) hW8 (i := 65) rfl rfl rfl (Nat.le_of_ble_eq_true rfl) rfl (Nat.le_of_ble_eq_true rfl) rfl (f60_l eq11 hW8 (hh rfl hd) ?_)
      refine R_iload (i := 66) rfl rfl ?_
      refine R_iconst (i := 67) rfl ?_
      refine R_iadd (i := 68) rfl ?_
      refine R_bipush (i := 69) rfl ?_
      refine R_irem (i := 70) rfl (by decide) ?_
      refine R_iload (i := 71) rfl rfl ?_
      refine R_call (vs := [.int v1, .int q11, .int (irem (v4 + (1 : Int32)) (8 : Int32)), .int q6.1]) (st' := []) (i := 72) rfl (by decide) (by decide) rfl rfl (Nat.le_of_ble_eq_true rfl) rfl (f135_l (hh rfl hd) ?_)
      have hz := Option.some.inj hf
      subst hz
      exact R_iret (i := 73) rfl (kk hW8)
    · rw [if_neg c10] at hf
      refine R_sipush (i := 50) rfl ?_
      refine R_iload (i := 51) rfl rfl ?_
      refine R_aload_n (i := 52) rfl rfl ?_
      refine R_getF hW8 (i := 53) rfl rfl (Nat.le_of_ble_eq_true rfl) rfl ?_
      refine R_iload (i := 54) rfl rfl ?_
      refine R_iload (i := 55) rfl rfl ?_
      have zq12 := bind_some hf
      clear hf
      obtain ⟨q12, eq12, hf⟩ := zq12
      refine R_callV (vs := [.int v3, .int q9]) (st' := [.int v1, .int (2000 : Int32)]) hW8 (i := 56) rfl rfl rfl (Nat.le_of_ble_eq_true rfl) rfl (Nat.le_of_ble_eq_true rfl) rfl (f60_l eq12 hW8 (hh rfl hd) ?_)
      refine R_call (vs := [.int v1, .int q12]) (st' := [.int (2000 : Int32)]) (i := 57) rfl (by decide) (by decide) rfl rfl (Nat.le_of_ble_eq_true rfl) rfl (f133_l (hh rfl hd) ?_)
      refine R_iadd (i := 58) rfl ?_
      have hz := Option.some.inj hf
      subst hz
      exact R_iret (i := 59) rfl (kk hW8)
  · rw [if_pos c2] at hf
    refine R_iconst (i := 12) rfl ?_
    have hz := Option.some.inj hf
    subst hz
    exact R_iret (i := 13) rfl (kk hW)
set_option maxRecDepth 100000 in
set_option maxHeartbeats 4000000 in
theorem f100_l {d N : Nat} {p1 : Int32} {p2 : Int32} {p3 : Int32} {h : Hp} {Q : Option Value → Hp → Prop} {q : Int32 × Hp} (hf : f100 N p1 p2 p3 h = some q) (hW : WF 0 h) (hd : 8 ≤ d) (kk : WF 0 q.2 → Q (some (.int q.1)) q.2) : R 0 d 100 0 [some (.ref 0), some (.int p1), some (.int p2), some (.int p3)] [] h Q := by
  obtain ⟨d, rfl⟩ : ∃ z, d = z + 1 := ⟨d - 1, by omega⟩
  unfold f100 at hf
  refine R_aload_n (i := 0) rfl rfl ?_
  refine R_iload_n (i := 1) rfl rfl ?_
  have zq1 := bind_some hf
  clear hf
  obtain ⟨q1, eq1, hf⟩ := zq1
  refine R_callV (vs := [.int p1]) (st' := []) hW (i := 2) rfl rfl rfl (Nat.le_of_ble_eq_true rfl) rfl (Nat.le_of_ble_eq_true rfl) rfl (f128_l eq1 hW (hh rfl hd) ?_)
  refine R_ifeq (i := 3) rfl (fun c2 => ?_) (fun c2 => ?_)
  · rw [if_pos c2] at hf
    refine R_iconst (i := 10) rfl ?_
    have hz := Option.some.inj hf
    subst hz
    exact R_iret (i := 11) rfl (kk hW)
  · rw [if_neg c2] at hf
    refine R_iload_n (i := 4) rfl rfl ?_
    refine R_call (vs := [.int p2]) (st' := []) (i := 5) rfl (by decide) (by decide) rfl rfl (Nat.le_of_ble_eq_true rfl) rfl (f126_l (hh rfl hd) ?_)
    refine R_ifeq (i := 6) rfl (fun c3 => ?_) (fun c3 => ?_)
    · rw [if_pos c3] at hf
      refine R_iconst (i := 10) rfl ?_
      have hz := Option.some.inj hf
      subst hz
      exact R_iret (i := 11) rfl (kk hW)
    · rw [if_neg c3] at hf
      refine R_iload_n (i := 7) rfl rfl ?_
      refine R_call (vs := [.int p3]) (st' := []) (i := 8) rfl (by decide) (by decide) rfl rfl (Nat.le_of_ble_eq_true rfl) rfl (f127_l (hh rfl hd) ?_)
      refine R_ifne (i := 9) rfl (fun c4 => ?_) (fun c4 => ?_)
      · rw [if_neg c4] at hf
        refine R_aload_n (i := 12) rfl rfl ?_
        refine R_getF hW (i := 13) rfl rfl (Nat.le_of_ble_eq_true rfl) rfl ?_
        refine R_iload_n (i := 14) rfl rfl ?_
        refine R_iload_n (i := 15) rfl rfl ?_
        refine R_iload_n (i := 16) rfl rfl ?_
        have zq5 := bind_some hf
        clear hf
        obtain ⟨q5, eq5, hf⟩ := zq5
        refine R_callV (vs := [.int p1, .int p2, .int p3]) (st' := []) hW (i := 17) rfl rfl rfl (Nat.le_of_ble_eq_true rfl) rfl (Nat.le_of_ble_eq_true rfl) rfl (f31_l eq5 hW (hh rfl hd) (fun hW5 => ?_))
        have hz := Option.some.inj hf
        subst hz
        exact R_iret (i := 18) rfl (kk hW5)
      · rw [if_pos c4] at hf
        refine R_iconst (i := 10) rfl ?_
        have hz := Option.some.inj hf
        subst hz
        exact R_iret (i := 11) rfl (kk hW)
set_option maxRecDepth 100000 in
set_option maxHeartbeats 4000000 in
theorem f82_l {d N : Nat} {h : Hp} {Q : Option Value → Hp → Prop} {q : Int32} (hf : f82 N h = some q) (hW : WF 0 h) (hd : 1 ≤ d) (kk : Q (some (.int q)) h) : R 0 d 82 0 [some (.ref 28)] [] h Q := by
  obtain ⟨d, rfl⟩ : ∃ z, d = z + 1 := ⟨d - 1, by omega⟩
  unfold f82 at hf
  refine R_aload_n (i := 0) rfl rfl ?_
  refine R_getI hW (i := 1) rfl rfl (Nat.le_of_ble_eq_true rfl) ?_
  refine R_aload_n (i := 2) rfl rfl ?_
  refine R_getI hW (i := 3) rfl rfl (Nat.le_of_ble_eq_true rfl) ?_
  refine R_aload_n (i := 4) rfl rfl ?_
  refine R_getI hW (i := 5) rfl rfl (Nat.le_of_ble_eq_true rfl) ?_
  refine R_aload_n (i := 6) rfl rfl ?_
  refine R_getI hW (i := 7) rfl rfl (Nat.le_of_ble_eq_true rfl) ?_
  refine R_call (vs := [.int (hI h 28 0), .int (hI h 28 1), .int (hI h 28 2), .int (hI h 28 3)]) (st' := []) (i := 8) rfl (by decide) (by decide) rfl rfl (Nat.le_of_ble_eq_true rfl) rfl (f135_l (hh rfl hd) ?_)
  have hz := Option.some.inj hf
  subst hz
  exact R_iret (i := 9) rfl kk
set_option maxRecDepth 100000 in
set_option maxHeartbeats 4000000 in
theorem f87_l {d N : Nat} {h : Hp} {Q : Option Value → Hp → Prop} {q : Hp} (hf : f87 N h = some q) (hW : WF 0 h) (hd : 5 ≤ d) (kk : WF 0 q → Q (none) q) : R 0 d 87 0 [some (.ref 29), some (.ref 28)] [] h Q := by
  obtain ⟨d, rfl⟩ : ∃ z, d = z + 1 := ⟨d - 1, by omega⟩
  unfold f87 at hf
  refine R_aload_n (i := 0) rfl rfl ?_
  refine R_getF hW (i := 1) rfl rfl (Nat.le_of_ble_eq_true rfl) rfl ?_
  refine R_aload_n (i := 2) rfl rfl ?_
  refine R_getI hW (i := 3) rfl rfl (Nat.le_of_ble_eq_true rfl) ?_
  refine R_aload_n (i := 4) rfl rfl ?_
  have zq1 := bind_some hf
  clear hf
  obtain ⟨q1, eq1, hf⟩ := zq1
  refine R_callV (vs := []) (st' := [.int (hI h 29 3), .ref 30]) hW (i := 5) rfl rfl rfl (Nat.le_of_ble_eq_true rfl) rfl (Nat.le_of_ble_eq_true rfl) rfl (f82_l eq1 hW (hh rfl hd) ?_)
  have g2 := gd_some hf
  clear hf
  obtain ⟨g2, hf⟩ := g2
  refine R_iastore hW (i := 6) rfl rfl g2 (hg rfl hd) (fun h3 eh3 => ?_)
  replace hf := bnd_some eh3 hf
  have hW3 : WF 0 h3 := by rw [eh3]; exact hW
  refine R_aload_n (i := 7) rfl rfl ?_
  refine R_getF hW3 (i := 8) rfl rfl (Nat.le_of_ble_eq_true rfl) rfl ?_
  refine R_aload_n (i := 9) rfl rfl ?_
  refine R_getI hW3 (i := 10) rfl rfl (Nat.le_of_ble_eq_true rfl) ?_
  refine R_aload_n (i := 11) rfl rfl ?_
  refine R_getI hW3 (i := 12) rfl rfl (Nat.le_of_ble_eq_true rfl) ?_
  have g4 := gd_some hf
  clear hf
  obtain ⟨g4, hf⟩ := g4
  refine R_iastore hW3 (i := 13) rfl rfl g4 (hg rfl hd) (fun h5 eh5 => ?_)
  replace hf := bnd_some eh5 hf
  have hW5 : WF 0 h5 := by rw [eh5]; exact hW3
  refine R_aload_n (i := 14) rfl rfl ?_
  refine R_getF hW5 (i := 15) rfl rfl (Nat.le_of_ble_eq_true rfl) rfl ?_
  refine R_aload_n (i := 16) rfl rfl ?_
  refine R_getI hW5 (i := 17) rfl rfl (Nat.le_of_ble_eq_true rfl) ?_
  refine R_aload_n (i := 18) rfl rfl ?_
  refine R_getI hW5 (i := 19) rfl rfl (Nat.le_of_ble_eq_true rfl) ?_
  have g6 := gd_some hf
  clear hf
  obtain ⟨g6, hf⟩ := g6
  refine R_iastore hW5 (i := 20) rfl rfl g6 (hg rfl hd) (fun h7 eh7 => ?_)
  replace hf := bnd_some eh7 hf
  have hW7 : WF 0 h7 := by rw [eh7]; exact hW5
  refine R_aload_n (i := 21) rfl rfl ?_
  refine R_aload_n (i := 22) rfl rfl ?_
  refine R_getI hW7 (i := 23) rfl rfl (Nat.le_of_ble_eq_true rfl) ?_
  refine R_iconst (i := 24) rfl ?_
  refine R_iadd (i := 25) rfl ?_
  refine R_bipush (i := 26) rfl ?_
  refine R_irem (i := 27) rfl (by decide) ?_
  refine R_putI hW7 (i := 28) rfl rfl (Nat.le_of_ble_eq_true rfl) (hg rfl hd) (fun h8 eh8 => ?_)
  replace hf := bnd_some eh8 hf
  have hW8 : WF 0 h8 := by rw [eh8]; exact hW7
  refine R_aload_n (i := 29) rfl rfl ?_
  refine R_aload_n (i := 30) rfl rfl ?_
  refine R_getI hW8 (i := 31) rfl rfl (Nat.le_of_ble_eq_true rfl) ?_
  refine R_iconst (i := 32) rfl ?_
  refine R_iadd (i := 33) rfl ?_
  refine R_bipush (i := 34) rfl ?_
  refine R_mmin (i := 35) rfl (hg rfl hd) (Nat.le_of_ble_eq_true rfl) ?_
  refine R_putI hW8 (i := 36) rfl rfl (Nat.le_of_ble_eq_true rfl) (hg rfl hd) (fun h9 eh9 => ?_)
  replace hf := bnd_some eh9 hf
  have hW9 : WF 0 h9 := by rw [eh9]; exact hW8
  have hz := Option.some.inj hf
  subst hz
  exact R_vret (i := 37) rfl (kk hW9)
set_option maxRecDepth 100000 in
set_option maxHeartbeats 4000000 in
theorem f83_l {d N : Nat} {p1 : Int32} {h : Hp} {Q : Option Value → Hp → Prop} {q : Hp} (hf : f83 N p1 h = some q) (hW : WF 0 h) (hd : 5 ≤ d) (kk : WF 0 q → Q (none) q) : R 0 d 83 0 [some (.ref 28), some (.int p1)] [] h Q := by
  obtain ⟨d, rfl⟩ : ∃ z, d = z + 1 := ⟨d - 1, by omega⟩
  unfold f83 at hf
  refine R_aload_n (i := 0) rfl rfl ?_
  refine R_iload_n (i := 1) rfl rfl ?_
  refine R_call (vs := [.int p1]) (st' := [.ref 28]) (i := 2) rfl (by decide) (by decide) rfl rfl (Nat.le_of_ble_eq_true rfl) rfl (f129_l (hh rfl hd) ?_)
  refine R_putI hW (i := 3) rfl rfl (Nat.le_of_ble_eq_true rfl) (hg rfl hd) (fun h1 eh1 => ?_)
  replace hf := bnd_some eh1 hf
  have hW1 : WF 0 h1 := by rw [eh1]; exact hW
  refine R_aload_n (i := 4) rfl rfl ?_
  refine R_iload_n (i := 5) rfl rfl ?_
  refine R_call (vs := [.int p1]) (st' := [.ref 28]) (i := 6) rfl (by decide) (by decide) rfl rfl (Nat.le_of_ble_eq_true rfl) rfl (f130_l (hh rfl hd) ?_)
  refine R_putI hW1 (i := 7) rfl rfl (Nat.le_of_ble_eq_true rfl) (hg rfl hd) (fun h2 eh2 => ?_)
  replace hf := bnd_some eh2 hf
  have hW2 : WF 0 h2 := by rw [eh2]; exact hW1
  refine R_aload_n (i := 8) rfl rfl ?_
  refine R_iload_n (i := 9) rfl rfl ?_
  refine R_call (vs := [.int p1]) (st' := [.ref 28]) (i := 10) rfl (by decide) (by decide) rfl rfl (Nat.le_of_ble_eq_true rfl) rfl (f131_l (hh rfl hd) ?_)
  refine R_putI hW2 (i := 11) rfl rfl (Nat.le_of_ble_eq_true rfl) (hg rfl hd) (fun h3 eh3 => ?_)
  replace hf := bnd_some eh3 hf
  have hW3 : WF 0 h3 := by rw [eh3]; exact hW2
  refine R_aload_n (i := 12) rfl rfl ?_
  refine R_iload_n (i := 13) rfl rfl ?_
  refine R_call (vs := [.int p1]) (st' := [.ref 28]) (i := 14) rfl (by decide) (by decide) rfl rfl (Nat.le_of_ble_eq_true rfl) rfl (f132_l (hh rfl hd) ?_)
  refine R_putI hW3 (i := 15) rfl rfl (Nat.le_of_ble_eq_true rfl) (hg rfl hd) (fun h4 eh4 => ?_)
  replace hf := bnd_some eh4 hf
  have hW4 : WF 0 h4 := by rw [eh4]; exact hW3
  have hz := Option.some.inj hf
  subst hz
  exact R_vret (i := 16) rfl (kk hW4)
set_option maxRecDepth 100000 in
set_option maxHeartbeats 4000000 in
theorem f84_b38_l {d N : Nat} {x3 : Int32} {h : Hp} {Q : Option Value → Hp → Prop} {q : Hp} (hf : f84_b38 N x3 h = some q) (hW : WF 0 h) (hd : 6 ≤ d) (kk : WF 0 q → Q (none) q) : R 0 d 84 38 [some (.ref 28), none, none, some (.int x3)] [] h Q := by
  unfold f84_b38 at hf
  refine R_aload_n (i := 38) rfl rfl ?_
  refine R_dup (i := 39) rfl rfl ?_
  refine R_getI hW (i := 40) rfl rfl (Nat.le_of_ble_eq_true rfl) ?_
  refine R_aload_n (i := 41) rfl rfl ?_
  refine R_getI hW (i := 42) rfl rfl (Nat.le_of_ble_eq_true rfl) ?_
  refine R_iload_n (i := 43) rfl rfl ?_
  refine R_icmpgt (i := 44) rfl (fun c6 => ?_) (fun c6 => ?_)
  · rw [if_pos c6] at hf
    refine R_iconst (i := 47) rfl ?_
    refine R_iadd (i := 48) rfl ?_
    refine R_putI hW (i := 49) rfl rfl (Nat.le_of_ble_eq_true rfl) (hg rfl hd) (fun h7 eh7 => ?_)
    replace hf := bnd_some eh7 hf
    have hW7 : WF 0 h7 := by rw [eh7]; exact hW
    have hz := Option.some.inj hf
    subst hz
    exact R_vret (i := 50) rfl (kk hW7)
  · rw [if_neg c6] at hf
    refine R_iconst (i := 45) rfl ?_
    refine R_goto (i := 46) rfl ?_
    refine R_iadd (i := 48) rfl ?_
    refine R_putI hW (i := 49) rfl rfl (Nat.le_of_ble_eq_true rfl) (hg rfl hd) (fun h8 eh8 => ?_)
    replace hf := bnd_some eh8 hf
    have hW8 : WF 0 h8 := by rw [eh8]; exact hW
    have hz := Option.some.inj hf
    subst hz
    exact R_vret (i := 50) rfl (kk hW8)
set_option maxRecDepth 100000 in
set_option maxHeartbeats 4000000 in
theorem f84_b36_l {d N : Nat} {x3 : Int32} {t0 : Int32} {t1 : Int32} {h : Hp} {Q : Option Value → Hp → Prop} {q : Hp} (hf : f84_b36 N x3 t0 t1 h = some q) (hW : WF 0 h) (hd : 6 ≤ d) (kk : WF 0 q → Q (none) q) : R 0 d 84 36 [some (.ref 28), none, none, some (.int x3)] [.int t0, .int t1, .ref 28] h Q := by
  unfold f84_b36 at hf
  refine R_iadd (i := 36) rfl ?_
  refine R_putI hW (i := 37) rfl rfl (Nat.le_of_ble_eq_true rfl) (hg rfl hd) (fun h5 eh5 => ?_)
  replace hf := bnd_some eh5 hf
  have hW5 : WF 0 h5 := by rw [eh5]; exact hW
  exact f84_b38_l hf hW5 hd kk
set_option maxRecDepth 100000 in
set_option maxHeartbeats 4000000 in
theorem f84_l {d N : Nat} {p1 : Int32} {p2 : Int32} {h : Hp} {Q : Option Value → Hp → Prop} {q : Hp} (hf : f84 N p1 p2 h = some q) (hW : WF 0 h) (hd : 6 ≤ d) (kk : WF 0 q → Q (none) q) : R 0 d 84 0 [some (.ref 28), some (.int p1), some (.int p2), none] [] h Q := by
  obtain ⟨d, rfl⟩ : ∃ z, d = z + 1 := ⟨d - 1, by omega⟩
  unfold f84 at hf
  refine R_aload_n (i := 0) rfl rfl ?_
  refine R_getI hW (i := 1) rfl rfl (Nat.le_of_ble_eq_true rfl) ?_
  refine R_topi (fun v1 e1 => ?_)
  replace hf := bnd_some e1 hf
  refine R_istore_n [some (.ref 28), some (.int p1), some (.int p2), some (.int v1)] (i := 2) rfl rfl ?_
  refine R_iload_n (i := 3) rfl rfl ?_
  refine R_sipush (i := 4) rfl ?_
  refine R_icmplt (i := 5) rfl (fun c2 => ?_) (fun c2 => ?_)
  · rw [if_pos c2] at hf
    refine R_aload_n (i := 24) rfl rfl ?_
    refine R_iload_n (i := 25) rfl rfl ?_
    have zq3 := bind_some hf
    clear hf
    obtain ⟨q3, eq3, hf⟩ := zq3
    refine R_callV (vs := [.int p1]) (st' := []) hW (i := 26) rfl rfl rfl (Nat.le_of_ble_eq_true rfl) rfl (Nat.le_of_ble_eq_true rfl) rfl (f83_l eq3 hW (hh rfl hd) (fun hW3 => ?_))
    refine R_aload_n (i := 27) rfl rfl ?_
    refine R_dup (i := 28) rfl rfl ?_
    refine R_getI hW3 (i := 29) rfl rfl (Nat.le_of_ble_eq_true rfl) ?_
    refine R_aload_n (i := 30) rfl rfl ?_
    refine R_getI hW3 (i := 31) rfl rfl (Nat.le_of_ble_eq_true rfl) ?_
    refine R_ifne (i := 32) rfl (fun c4 => ?_) (fun c4 => ?_)
    · rw [if_neg c4] at hf
      refine R_iconst (i := 35) rfl ?_
      refine R_weak [some (.ref 28), none, none, some (.int v1)] ⟨Or.inr rfl, Or.inl rfl, Or.inl rfl, Or.inr rfl, trivial⟩ ?_
      exact f84_b36_l hf hW3 hd kk
    · rw [if_pos c4] at hf
      refine R_iconst (i := 33) rfl ?_
      refine R_goto (i := 34) rfl ?_
      refine R_weak [some (.ref 28), none, none, some (.int v1)] ⟨Or.inr rfl, Or.inl rfl, Or.inl rfl, Or.inr rfl, trivial⟩ ?_
      exact f84_b36_l hf hW3 hd kk
  · rw [if_neg c2] at hf
    refine R_aload_n (i := 6) rfl rfl ?_
    refine R_iconst (i := 7) rfl ?_
    refine R_putZ hW (i := 8) rfl rfl (Nat.le_of_ble_eq_true rfl) (by decide) (hg rfl hd) (fun h9 eh9 => ?_)
    replace hf := bnd_some eh9 hf
    have hW9 : WF 0 h9 := by rw [eh9]; exact hW
    refine R_aload_n (i := 9) rfl rfl ?_
    refine R_iload_n (i := 10) rfl rfl ?_
    refine R_sipush (i := 11) rfl ?_
    refine R_isub (i := 12) rfl ?_
    refine R_bipush (i := 13) rfl ?_
    refine R_idiv (i := 14) rfl (by decide) ?_
    refine R_putI hW9 (i := 15) rfl rfl (Nat.le_of_ble_eq_true rfl) (hg rfl hd) (fun h10 eh10 => ?_)
    replace hf := bnd_some eh10 hf
    have hW10 : WF 0 h10 := by rw [eh10]; exact hW9
    refine R_aload_n (i := 16) rfl rfl ?_
    refine R_iload_n (i := 17) rfl rfl ?_
    refine R_sipush (i := 18) rfl ?_
    refine R_isub (i := 19) rfl ?_
    refine R_bipush (i := 20) rfl ?_
    refine R_irem (i := 21) rfl (by decide) ?_
    refine R_putI hW10 (i := 22) rfl rfl (Nat.le_of_ble_eq_true rfl) (hg rfl hd) (fun h11 eh11 => ?_)
    replace hf := bnd_some eh11 hf
    have hW11 : WF 0 h11 := by rw [eh11]; exact hW10
    refine R_goto (i := 23) rfl ?_
    refine R_weak [some (.ref 28), none, none, some (.int v1)] ⟨Or.inr rfl, Or.inl rfl, Or.inl rfl, Or.inr rfl, trivial⟩ ?_
    exact f84_b38_l hf hW11 hd kk
set_option maxRecDepth 100000 in
set_option maxHeartbeats 4000000 in
theorem f120_l {d N : Nat} {p1 : Int32} {p2 : Int32} {h : Hp} {Q : Option Value → Hp → Prop} {q : Int32 × Hp} (hf : f120 N p1 p2 h = some q) (hW : WF 0 h) (hd : 8 ≤ d) (kk : WF 0 q.2 → Q (some (.int q.1)) q.2) : R 0 d 120 0 [some (.ref 0), some (.int p1), some (.int p2), none] [] h Q := by
  obtain ⟨d, rfl⟩ : ∃ z, d = z + 1 := ⟨d - 1, by omega⟩
  unfold f120 at hf
  refine R_aload_n (i := 0) rfl rfl ?_
  refine R_getF hW (i := 1) rfl rfl (Nat.le_of_ble_eq_true rfl) rfl ?_
  refine R_aload_n (i := 2) rfl rfl ?_
  refine R_getF hW (i := 3) rfl rfl (Nat.le_of_ble_eq_true rfl) rfl ?_
  refine R_getF hW (i := 4) rfl rfl (Nat.le_of_ble_eq_true rfl) rfl ?_
  have zq1 := bind_some hf
  clear hf
  obtain ⟨q1, eq1, hf⟩ := zq1
  refine R_callV (vs := []) (st' := [.ref 61]) hW (i := 5) rfl rfl rfl (Nat.le_of_ble_eq_true rfl) rfl (Nat.le_of_ble_eq_true rfl) rfl (f82_l eq1 hW (hh rfl hd) ?_)
  refine R_iload_n (i := 6) rfl rfl ?_
  refine R_iload_n (i := 7) rfl rfl ?_
  have zq2 := bind_some hf
  clear hf
  obtain ⟨q2, eq2, hf⟩ := zq2
  refine R_callV (vs := [.int q1, .int p1, .int p2]) (st' := []) hW (i := 8) rfl rfl rfl (Nat.le_of_ble_eq_true rfl) rfl (Nat.le_of_ble_eq_true rfl) rfl (f31_l eq2 hW (hh rfl hd) (fun hW2 => ?_))
  refine R_istore_n [some (.ref 0), some (.int p1), some (.int p2), some (.int q2.1)] (i := 9) rfl rfl ?_
  refine R_iload_n (i := 10) rfl rfl ?_
  refine R_iconst (i := 11) rfl ?_
  refine R_icmpeq (i := 12) rfl (fun c3 => ?_) (fun c3 => ?_)
  · rw [if_pos c3] at hf
    refine R_iload_n (i := 29) rfl rfl ?_
    have hz := Option.some.inj hf
    subst hz
    exact R_iret (i := 30) rfl (kk hW2)
  · rw [if_neg c3] at hf
    refine R_aload_n (i := 13) rfl rfl ?_
    refine R_getF hW2 (i := 14) rfl rfl (Nat.le_of_ble_eq_true rfl) rfl ?_
    refine R_getF hW2 (i := 15) rfl rfl (Nat.le_of_ble_eq_true rfl) rfl ?_
    refine R_aload_n (i := 16) rfl rfl ?_
    refine R_getF hW2 (i := 17) rfl rfl (Nat.le_of_ble_eq_true rfl) rfl ?_
    refine R_getF hW2 (i := 18) rfl rfl (Nat.le_of_ble_eq_true rfl) rfl ?_
    have zq4 := bind_some hf
    clear hf
    obtain ⟨q4, eq4, hf⟩ := zq4
    refine R_callV (vs := [.ref 28]) (st' := []) hW2 (i := 19) rfl rfl rfl (Nat.le_of_ble_eq_true rfl) rfl (Nat.le_of_ble_eq_true rfl) rfl (f87_l eq4 hW2 (hh rfl hd) (fun hW4 => ?_))
    refine R_aload_n (i := 20) rfl rfl ?_
    refine R_getF hW4 (i := 21) rfl rfl (Nat.le_of_ble_eq_true rfl) rfl ?_
    refine R_getF hW4 (i := 22) rfl rfl (Nat.le_of_ble_eq_true rfl) rfl ?_
    refine R_iload_n (i := 23) rfl rfl ?_
    refine R_aload_n (i := 24) rfl rfl ?_
    refine R_getF hW4 (i := 25) rfl rfl (Nat.le_of_ble_eq_true rfl) rfl ?_
    refine R_getF hW4 (i := 26) rfl rfl (Nat.le_of_ble_eq_true rfl) rfl ?_
    refine R_getI hW4 (i := 27) rfl rfl (Nat.le_of_ble_eq_true rfl) ?_
    have zq5 := bind_some hf
    clear hf
    obtain ⟨q5, eq5, hf⟩ := zq5
    refine R_callV (vs := [.int q2.1, .int (hI q4 41 0)]) (st' := []) hW4 (i := 28) rfl rfl rfl (Nat.le_of_ble_eq_true rfl) rfl (Nat.le_of_ble_eq_true rfl) rfl (f84_l eq5 hW4 (hh rfl hd) (fun hW5 => ?_))
    refine R_iload_n (i := 29) rfl rfl ?_
    have hz := Option.some.inj hf
    subst hz
    exact R_iret (i := 30) rfl (kk hW5)
set_option maxRecDepth 100000 in
set_option maxHeartbeats 4000000 in
theorem f101_l {d N : Nat} {p1 : Int32} {p2 : Int32} {h : Hp} {Q : Option Value → Hp → Prop} {q : Int32 × Hp} (hf : f101 N p1 p2 h = some q) (hW : WF 0 h) (hd : 9 ≤ d) (kk : WF 0 q.2 → Q (some (.int q.1)) q.2) : R 0 d 101 0 [some (.ref 0), some (.int p1), some (.int p2), none] [] h Q := by
  obtain ⟨d, rfl⟩ : ∃ z, d = z + 1 := ⟨d - 1, by omega⟩
  unfold f101 at hf
  refine R_aload_n (i := 0) rfl rfl ?_
  refine R_getF hW (i := 1) rfl rfl (Nat.le_of_ble_eq_true rfl) rfl ?_
  refine R_getF hW (i := 2) rfl rfl (Nat.le_of_ble_eq_true rfl) rfl ?_
  refine R_getI hW (i := 3) rfl rfl (Nat.le_of_ble_eq_true rfl) ?_
  refine R_ifeq (i := 4) rfl (fun c1 => ?_) (fun c1 => ?_)
  · rw [if_pos c1] at hf
    refine R_iconst (i := 11) rfl ?_
    have hz := Option.some.inj hf
    subst hz
    exact R_iret (i := 12) rfl (kk hW)
  · rw [if_neg c1] at hf
    refine R_iload_n (i := 5) rfl rfl ?_
    refine R_call (vs := [.int p1]) (st' := []) (i := 6) rfl (by decide) (by decide) rfl rfl (Nat.le_of_ble_eq_true rfl) rfl (f126_l (hh rfl hd) ?_)
    refine R_ifeq (i := 7) rfl (fun c2 => ?_) (fun c2 => ?_)
    · rw [if_pos c2] at hf
      refine R_iconst (i := 11) rfl ?_
      have hz := Option.some.inj hf
      subst hz
      exact R_iret (i := 12) rfl (kk hW)
    · rw [if_neg c2] at hf
      refine R_iload_n (i := 8) rfl rfl ?_
      refine R_call (vs := [.int p2]) (st' := []) (i := 9) rfl (by decide) (by decide) rfl rfl (Nat.le_of_ble_eq_true rfl) rfl (f127_l (hh rfl hd) ?_)
      refine R_ifne (i := 10) rfl (fun c3 => ?_) (fun c3 => ?_)
      · rw [if_neg c3] at hf
        refine R_aload_n (i := 13) rfl rfl ?_
        refine R_getF hW (i := 14) rfl rfl (Nat.le_of_ble_eq_true rfl) rfl ?_
        refine R_getF hW (i := 15) rfl rfl (Nat.le_of_ble_eq_true rfl) rfl ?_
        refine R_getF hW (i := 16) rfl rfl (Nat.le_of_ble_eq_true rfl) rfl ?_
        refine R_aload_n (i := 17) rfl rfl ?_
        refine R_getF hW (i := 18) rfl rfl (Nat.le_of_ble_eq_true rfl) rfl ?_
        refine R_getF hW (i := 19) rfl rfl (Nat.le_of_ble_eq_true rfl) rfl ?_
        refine R_getI hW (i := 20) rfl rfl (Nat.le_of_ble_eq_true rfl) ?_
        have g4 := gd_some hf
        clear hf
        obtain ⟨g4, hf⟩ := g4
        refine R_iaload hW (i := 21) rfl rfl g4 ?_
        refine R_iload_n (i := 22) rfl rfl ?_
        refine R_call (vs := [.int (hI h 43 (ix (hI h 28 2))), .int p2]) (st' := []) (i := 23) rfl (by decide) (by decide) rfl rfl (Nat.le_of_ble_eq_true rfl) rfl (f123_l (hh rfl hd) ?_)
        refine R_topi (fun v5 e5 => ?_)
        replace hf := bnd_some e5 hf
        refine R_istore_n [some (.ref 0), some (.int p1), some (.int p2), some (.int v5)] (i := 24) rfl rfl ?_
        refine R_iload_n (i := 25) rfl rfl ?_
        refine R_ifeq (i := 26) rfl (fun c6 => ?_) (fun c6 => ?_)
        · rw [if_pos c6] at hf
          refine R_iconst (i := 32) rfl ?_
          have hz := Option.some.inj hf
          subst hz
          exact R_iret (i := 33) rfl (kk hW)
        · rw [if_neg c6] at hf
          refine R_aload_n (i := 27) rfl rfl ?_
          refine R_iload_n (i := 28) rfl rfl ?_
          refine R_iload_n (i := 29) rfl rfl ?_
          have zq7 := bind_some hf
          clear hf
          obtain ⟨q7, eq7, hf⟩ := zq7
          refine R_callV (vs := [.int p1, .int p2]) (st' := []) hW (i := 30) rfl rfl rfl (Nat.le_of_ble_eq_true rfl) rfl (Nat.le_of_ble_eq_true rfl) rfl (f120_l eq7 hW (hh rfl hd) (fun hW7 => ?_))
          refine R_goto (i := 31) rfl ?_
          have hz := Option.some.inj hf
          subst hz
          exact R_iret (i := 33) rfl (kk hW7)
      · rw [if_pos c3] at hf
        refine R_iconst (i := 11) rfl ?_
        have hz := Option.some.inj hf
        subst hz
        exact R_iret (i := 12) rfl (kk hW)
set_option maxRecDepth 100000 in
set_option maxHeartbeats 4000000 in
theorem f53_l {d N : Nat} {p1 : Int32} {h : Hp} {Q : Option Value → Hp → Prop} {q : Int32 × Hp} (hf : f53 N p1 h = some q) (hW : WF 0 h) (hd : 5 ≤ d) (kk : WF 0 q.2 → Q (some (.int q.1)) q.2) : R 0 d 53 0 [some (.ref 33), some (.int p1)] [] h Q := by
  unfold f53 at hf
  refine R_aload_n (i := 0) rfl rfl ?_
  refine R_getI hW (i := 1) rfl rfl (Nat.le_of_ble_eq_true rfl) ?_
  refine R_aload_n (i := 2) rfl rfl ?_
  refine R_getF hW (i := 3) rfl rfl (Nat.le_of_ble_eq_true rfl) rfl ?_
  refine R_alen (v := 24) hW (i := 4) rfl rfl rfl ?_
  refine R_icmplt (i := 5) rfl (fun c1 => ?_) (fun c1 => ?_)
  · rw [if_pos c1] at hf
    refine R_aload_n (i := 8) rfl rfl ?_
    refine R_getF hW (i := 9) rfl rfl (Nat.le_of_ble_eq_true rfl) rfl ?_
    refine R_aload_n (i := 10) rfl rfl ?_
    refine R_getI hW (i := 11) rfl rfl (Nat.le_of_ble_eq_true rfl) ?_
    refine R_iload_n (i := 12) rfl rfl ?_
    have g2 := gd_some hf
    clear hf
    obtain ⟨g2, hf⟩ := g2
    refine R_iastore hW (i := 13) rfl rfl g2 (hg rfl hd) (fun h3 eh3 => ?_)
    replace hf := bnd_some eh3 hf
    have hW3 : WF 0 h3 := by rw [eh3]; exact hW
    refine R_aload_n (i := 14) rfl rfl ?_
    refine R_dup (i := 15) rfl rfl ?_
    refine R_getI hW3 (i := 16) rfl rfl (Nat.le_of_ble_eq_true rfl) ?_
    refine R_iconst (i := 17) rfl ?_
    refine R_iadd (i := 18) rfl ?_
    refine R_putI hW3 (i := 19) rfl rfl (Nat.le_of_ble_eq_true rfl) (hg rfl hd) (fun h4 eh4 => ?_)
    replace hf := bnd_some eh4 hf
    have hW4 : WF 0 h4 := by rw [eh4]; exact hW3
    refine R_aload_n (i := 20) rfl rfl ?_
    refine R_getI hW4 (i := 21) rfl rfl (Nat.le_of_ble_eq_true rfl) ?_
    have hz := Option.some.inj hf
    subst hz
    exact R_iret (i := 22) rfl (kk hW4)
  · rw [if_neg c1] at hf
    refine R_iconst (i := 6) rfl ?_
    have hz := Option.some.inj hf
    subst hz
    exact R_iret (i := 7) rfl (kk hW)
set_option maxRecDepth 100000 in
set_option maxHeartbeats 4000000 in
theorem f102_l {d N : Nat} {p1 : Int32} {h : Hp} {Q : Option Value → Hp → Prop} {q : Int32 × Hp} (hf : f102 N p1 h = some q) (hW : WF 0 h) (hd : 6 ≤ d) (kk : WF 0 q.2 → Q (some (.int q.1)) q.2) : R 0 d 102 0 [some (.ref 0), some (.int p1)] [] h Q := by
  obtain ⟨d, rfl⟩ : ∃ z, d = z + 1 := ⟨d - 1, by omega⟩
  unfold f102 at hf
  refine R_iload_n (i := 0) rfl rfl ?_
  refine R_iconst (i := 1) rfl ?_
  refine R_icmpne (i := 2) rfl (fun c1 => ?_) (fun c1 => ?_)
  · rw [if_neg c1] at hf
    refine R_iload_n (i := 10) rfl rfl ?_
    refine R_call (vs := [.int p1]) (st' := []) (i := 11) rfl (by decide) (by decide) rfl rfl (Nat.le_of_ble_eq_true rfl) rfl (f126_l (hh rfl hd) ?_)
    refine R_ifeq (i := 12) rfl (fun c2 => ?_) (fun c2 => ?_)
    · rw [if_pos c2] at hf
      refine R_iconst (i := 19) rfl ?_
      have hz := Option.some.inj hf
      subst hz
      exact R_iret (i := 20) rfl (kk hW)
    · rw [if_neg c2] at hf
      refine R_aload_n (i := 13) rfl rfl ?_
      refine R_getF hW (i := 14) rfl rfl (Nat.le_of_ble_eq_true rfl) rfl ?_
      refine R_getF hW (i := 15) rfl rfl (Nat.le_of_ble_eq_true rfl) rfl ?_
      refine R_iload_n (i := 16) rfl rfl ?_
      have zq3 := bind_some hf
      clear hf
      obtain ⟨q3, eq3, hf⟩ := zq3
      refine R_callV (vs := [.int p1]) (st' := []) hW (i := 17) rfl rfl rfl (Nat.le_of_ble_eq_true rfl) rfl (Nat.le_of_ble_eq_true rfl) rfl (f53_l eq3 hW (hh rfl hd) (fun hW3 => ?_))
      refine R_goto (i := 18) rfl ?_
      have hz := Option.some.inj hf
      subst hz
      exact R_iret (i := 20) rfl (kk hW3)
  · rw [if_pos c1] at hf
    refine R_aload_n (i := 3) rfl rfl ?_
    refine R_getF hW (i := 4) rfl rfl (Nat.le_of_ble_eq_true rfl) rfl ?_
    refine R_getF hW (i := 5) rfl rfl (Nat.le_of_ble_eq_true rfl) rfl ?_
    refine R_iconst (i := 6) rfl ?_
    refine R_putI hW (i := 7) rfl rfl (Nat.le_of_ble_eq_true rfl) (hg rfl hd) (fun h4 eh4 => ?_)
    replace hf := bnd_some eh4 hf
    have hW4 : WF 0 h4 := by rw [eh4]; exact hW
    refine R_iconst (i := 8) rfl ?_
    have hz := Option.some.inj hf
    subst hz
    exact R_iret (i := 9) rfl (kk hW4)
set_option maxRecDepth 100000 in
set_option maxHeartbeats 4000000 in
theorem f230_l {d : Nat} {p0 : Int32} {h : Hp} {Q : Option Value → Hp → Prop} (hd : 0 ≤ d) (kk : Q (some (.int (f230 p0))) h) : R 0 d 230 0 [some (.int p0)] [] h Q := by
  unfold f230 at kk
  refine R_iload_n (i := 0) rfl rfl ?_
  refine R_iload_n (i := 1) rfl rfl ?_
  refine R_iconst (i := 2) rfl ?_
  refine R_iushr (i := 3) rfl ?_
  refine R_ldcw (i := 4) rfl ?_
  refine R_iand (i := 5) rfl ?_
  refine R_isub (i := 6) rfl ?_
  refine R_topi (fun v1 e1 => ?_)
  rw [bnd_eq e1] at kk
  refine R_istore_n [some (.int v1)] (i := 7) rfl rfl ?_
  refine R_iload_n (i := 8) rfl rfl ?_
  refine R_ldcw (i := 9) rfl ?_
  refine R_iand (i := 10) rfl ?_
  refine R_iload_n (i := 11) rfl rfl ?_
  refine R_iconst (i := 12) rfl ?_
  refine R_iushr (i := 13) rfl ?_
  refine R_ldcw (i := 14) rfl ?_
  refine R_iand (i := 15) rfl ?_
  refine R_iadd (i := 16) rfl ?_
  refine R_topi (fun v2 e2 => ?_)
  rw [bnd_eq e2] at kk
  refine R_istore_n [some (.int v2)] (i := 17) rfl rfl ?_
  refine R_iload_n (i := 18) rfl rfl ?_
  refine R_iload_n (i := 19) rfl rfl ?_
  refine R_iconst (i := 20) rfl ?_
  refine R_iushr (i := 21) rfl ?_
  refine R_iadd (i := 22) rfl ?_
  refine R_ldcw (i := 23) rfl ?_
  refine R_iand (i := 24) rfl ?_
  refine R_topi (fun v3 e3 => ?_)
  rw [bnd_eq e3] at kk
  refine R_istore_n [some (.int v3)] (i := 25) rfl rfl ?_
  refine R_iload_n (i := 26) rfl rfl ?_
  refine R_iload_n (i := 27) rfl rfl ?_
  refine R_bipush (i := 28) rfl ?_
  refine R_iushr (i := 29) rfl ?_
  refine R_iadd (i := 30) rfl ?_
  refine R_topi (fun v4 e4 => ?_)
  rw [bnd_eq e4] at kk
  refine R_istore_n [some (.int v4)] (i := 31) rfl rfl ?_
  refine R_iload_n (i := 32) rfl rfl ?_
  refine R_iload_n (i := 33) rfl rfl ?_
  refine R_bipush (i := 34) rfl ?_
  refine R_iushr (i := 35) rfl ?_
  refine R_iadd (i := 36) rfl ?_
  refine R_topi (fun v5 e5 => ?_)
  rw [bnd_eq e5] at kk
  refine R_istore_n [some (.int v5)] (i := 37) rfl rfl ?_
  refine R_iload_n (i := 38) rfl rfl ?_
  refine R_bipush (i := 39) rfl ?_
  refine R_iand (i := 40) rfl ?_
  exact R_iret (i := 41) rfl kk
set_option maxRecDepth 100000 in
set_option maxHeartbeats 4000000 in
theorem f229_b48_l {d : Nat} {x0 : Int32} {x1 : Int32} {h : Hp} {Q : Option Value → Hp → Prop} (hd : 0 ≤ d) (kk : Q (some (.int (f229_b48 x0 x1))) h) : R 0 d 229 48 [some (.int x0), some (.int x1)] [] h Q := by
  unfold f229_b48 at kk
  refine R_iload_n (i := 48) rfl rfl ?_
  refine R_iload_n (i := 49) rfl rfl ?_
  refine R_iconst (i := 50) rfl ?_
  refine R_iushr (i := 51) rfl ?_
  refine R_iadd (i := 52) rfl ?_
  exact R_iret (i := 53) rfl kk
set_option maxRecDepth 100000 in
set_option maxHeartbeats 4000000 in
theorem f229_b40_l {d : Nat} {x0 : Int32} {x1 : Int32} {h : Hp} {Q : Option Value → Hp → Prop} (hd : 0 ≤ d) (kk : Q (some (.int (f229_b40 x0 x1))) h) : R 0 d 229 40 [some (.int x0), some (.int x1)] [] h Q := by
  unfold f229_b40 at kk
  refine R_iload_n (i := 40) rfl rfl ?_
  refine R_iconst (i := 41) rfl ?_
  refine R_icmple (i := 42) rfl (fun c6 => ?_) (fun c6 => ?_)
  · rw [if_pos c6] at kk
    exact f229_b48_l hd kk
  · rw [if_neg c6] at kk
    obtain ⟨v7, e7⟩ : ∃ z : Int32, z = (x1 + (2 : Int32)) := ⟨_, rfl⟩
    rw [bnd_eq e7] at kk
    refine R_iinc [some (.int x0), some (.int v7)] (i := 43) rfl rfl (by rw [← e7]; rfl) ?_
    refine R_iload_n (i := 44) rfl rfl ?_
    refine R_iconst (i := 45) rfl ?_
    refine R_iushr (i := 46) rfl ?_
    refine R_topi (fun v8 e8 => ?_)
    rw [bnd_eq e8] at kk
    refine R_istore_n [some (.int v8), some (.int v7)] (i := 47) rfl rfl ?_
    exact f229_b48_l hd kk
set_option maxRecDepth 100000 in
set_option maxHeartbeats 4000000 in
theorem f229_b32_l {d : Nat} {x0 : Int32} {x1 : Int32} {h : Hp} {Q : Option Value → Hp → Prop} (hd : 0 ≤ d) (kk : Q (some (.int (f229_b32 x0 x1))) h) : R 0 d 229 32 [some (.int x0), some (.int x1)] [] h Q := by
  unfold f229_b32 at kk
  refine R_iload_n (i := 32) rfl rfl ?_
  refine R_bipush (i := 33) rfl ?_
  refine R_icmple (i := 34) rfl (fun c5 => ?_) (fun c5 => ?_)
  · rw [if_pos c5] at kk
    exact f229_b40_l hd kk
  · rw [if_neg c5] at kk
    obtain ⟨v9, e9⟩ : ∃ z : Int32, z = (x1 + (4 : Int32)) := ⟨_, rfl⟩
    rw [bnd_eq e9] at kk
    refine R_iinc [some (.int x0), some (.int v9)] (i := 35) rfl rfl (by rw [← e9]; rfl) ?_
    refine R_iload_n (i := 36) rfl rfl ?_
    refine R_iconst (i := 37) rfl ?_
    refine R_iushr (i := 38) rfl ?_
    refine R_topi (fun v10 e10 => ?_)
    rw [bnd_eq e10] at kk
    refine R_istore_n [some (.int v10), some (.int v9)] (i := 39) rfl rfl ?_
    exact f229_b40_l hd kk
set_option maxRecDepth 100000 in
set_option maxHeartbeats 4000000 in
theorem f229_b24_l {d : Nat} {x0 : Int32} {x1 : Int32} {h : Hp} {Q : Option Value → Hp → Prop} (hd : 0 ≤ d) (kk : Q (some (.int (f229_b24 x0 x1))) h) : R 0 d 229 24 [some (.int x0), some (.int x1)] [] h Q := by
  unfold f229_b24 at kk
  refine R_iload_n (i := 24) rfl rfl ?_
  refine R_sipush (i := 25) rfl ?_
  refine R_icmple (i := 26) rfl (fun c4 => ?_) (fun c4 => ?_)
  · rw [if_pos c4] at kk
    exact f229_b32_l hd kk
  · rw [if_neg c4] at kk
    obtain ⟨v11, e11⟩ : ∃ z : Int32, z = (x1 + (8 : Int32)) := ⟨_, rfl⟩
    rw [bnd_eq e11] at kk
    refine R_iinc [some (.int x0), some (.int v11)] (i := 27) rfl rfl (by rw [← e11]; rfl) ?_
    refine R_iload_n (i := 28) rfl rfl ?_
    refine R_bipush (i := 29) rfl ?_
    refine R_iushr (i := 30) rfl ?_
    refine R_topi (fun v12 e12 => ?_)
    rw [bnd_eq e12] at kk
    refine R_istore_n [some (.int v12), some (.int v11)] (i := 31) rfl rfl ?_
    exact f229_b32_l hd kk
set_option maxRecDepth 100000 in
set_option maxHeartbeats 4000000 in
theorem f229_l {d : Nat} {p0 : Int32} {h : Hp} {Q : Option Value → Hp → Prop} (hd : 0 ≤ d) (kk : Q (some (.int (f229 p0))) h) : R 0 d 229 0 [some (.int p0), none] [] h Q := by
  unfold f229 at kk
  refine R_iload_n (i := 0) rfl rfl ?_
  refine R_iconst (i := 1) rfl ?_
  refine R_ixor (i := 2) rfl ?_
  refine R_iload_n (i := 3) rfl rfl ?_
  refine R_iconst (i := 4) rfl ?_
  refine R_isub (i := 5) rfl ?_
  refine R_iand (i := 6) rfl ?_
  refine R_topi (fun v1 e1 => ?_)
  rw [bnd_eq e1] at kk
  refine R_istore_n [some (.int v1), none] (i := 7) rfl rfl ?_
  refine R_iload_n (i := 8) rfl rfl ?_
  refine R_ifgt (i := 9) rfl (fun c2 => ?_) (fun c2 => ?_)
  · rw [if_pos c2] at kk
    refine R_iconst (i := 14) rfl ?_
    refine R_istore_n [some (.int v1), some (.int (1 : Int32))] (i := 15) rfl rfl ?_
    refine R_iload_n (i := 16) rfl rfl ?_
    refine R_ldcw (i := 17) rfl ?_
    refine R_icmple (i := 18) rfl (fun c3 => ?_) (fun c3 => ?_)
    · rw [if_pos c3] at kk
      exact f229_b24_l hd kk
    · rw [if_neg c3] at kk
      obtain ⟨v13, e13⟩ : ∃ z : Int32, z = ((1 : Int32) + (16 : Int32)) := ⟨_, rfl⟩
      rw [bnd_eq e13] at kk
      refine R_iinc [some (.int v1), some (.int v13)] (i := 19) rfl rfl (by rw [← e13]; rfl) ?_
      refine R_iload_n (i := 20) rfl rfl ?_
      refine R_bipush (i := 21) rfl ?_
      refine R_iushr (i := 22) rfl ?_
      refine R_topi (fun v14 e14 => ?_)
      rw [bnd_eq e14] at kk
      refine R_istore_n [some (.int v14), some (.int v13)] (i := 23) rfl rfl ?_
      exact f229_b24_l hd kk
  · rw [if_neg c2] at kk
    refine R_iload_n (i := 10) rfl rfl ?_
    refine R_bipush (i := 11) rfl ?_
    refine R_iand (i := 12) rfl ?_
    exact R_iret (i := 13) rfl kk
set_option maxRecDepth 100000 in
set_option maxHeartbeats 4000000 in
theorem f124_l4_l {d N : Nat} {x1 : Int32} {h : Hp} {s : Int32 × Int32} {Q : Option Value → Hp → Prop} {j : Nat} {s' : Int32 × Int32} (hf : f124_l4 N x1 h s = some (j, s')) (hW : WF 0 h) (hd : 1 ≤ d) (k0 : j = 0 → R 0 d 124 4 [none, some (.int x1), some (.int s'.1), some (.int s'.2)] [] h Q) (k1 : j = 1 → R 0 d 124 18 [none, none, some (.int s'.1), none] [] h Q) : R 0 d 124 4 [none, some (.int x1), some (.int s.1), some (.int s.2)] [] h Q := by
  unfold f124_l4 at hf
  refine R_iload_n (i := 4) rfl rfl ?_
  refine R_iload_n (i := 5) rfl rfl ?_
  refine R_icmpge (i := 6) rfl (fun c1 => ?_) (fun c1 => ?_)
  · rw [if_pos c1] at hf
    obtain ⟨hj, hs⟩ := Prod.mk.inj (Option.some.inj hf)
    subst hj
    subst hs
    refine R_weak [none, none, some (.int s.1), none] ⟨Or.inr rfl, Or.inl rfl, Or.inr rfl, Or.inl rfl, trivial⟩ ?_
    exact k1 rfl
  · rw [if_neg c1] at hf
    refine R_iload_n (i := 7) rfl rfl ?_
    refine R_iconst (i := 8) rfl ?_
    refine R_icmpge (i := 9) rfl (fun c2 => ?_) (fun c2 => ?_)
    · rw [if_pos c2] at hf
      obtain ⟨hj, hs⟩ := Prod.mk.inj (Option.some.inj hf)
      subst hj
      subst hs
      refine R_weak [none, none, some (.int s.1), none] ⟨Or.inr rfl, Or.inl rfl, Or.inr rfl, Or.inl rfl, trivial⟩ ?_
      exact k1 rfl
    · rw [if_neg c2] at hf
      refine R_iload_n (i := 10) rfl rfl ?_
      refine R_iload_n (i := 11) rfl rfl ?_
      refine R_iconst (i := 12) rfl ?_
      refine R_isub (i := 13) rfl ?_
      refine R_iand (i := 14) rfl ?_
      refine R_topi (fun v3 e3 => ?_)
      replace hf := bnd_some e3 hf
      refine R_istore_n [none, some (.int x1), some (.int v3), some (.int s.2)] (i := 15) rfl rfl ?_
      obtain ⟨v4, e4⟩ : ∃ z : Int32, z = (s.2 + (1 : Int32)) := ⟨_, rfl⟩
      replace hf := bnd_some e4 hf
      refine R_iinc [none, some (.int x1), some (.int v3), some (.int v4)] (i := 16) rfl rfl (by rw [← e4]; rfl) ?_
      refine R_goto (i := 17) rfl ?_
      obtain ⟨hj, hs⟩ := Prod.mk.inj (Option.some.inj hf)
      subst hj
      subst hs
      exact k0 rfl
set_option maxRecDepth 100000 in
set_option maxHeartbeats 4000000 in
theorem f124_l {d N : Nat} {p0 : Int32} {p1 : Int32} {h : Hp} {Q : Option Value → Hp → Prop} {q : Int32} (hf : f124 N p0 p1 h = some q) (hW : WF 0 h) (hd : 1 ≤ d) (kk : Q (some (.int q)) h) : R 0 d 124 0 [some (.int p0), some (.int p1), none, none] [] h Q := by
  obtain ⟨d, rfl⟩ : ∃ z, d = z + 1 := ⟨d - 1, by omega⟩
  unfold f124 at hf
  refine R_iload_n (i := 0) rfl rfl ?_
  refine R_istore_n [some (.int p0), some (.int p1), some (.int p0), none] (i := 1) rfl rfl ?_
  refine R_iconst (i := 2) rfl ?_
  refine R_istore_n [some (.int p0), some (.int p1), some (.int p0), some (.int (0 : Int32))] (i := 3) rfl rfl ?_
  refine R_weak [none, some (.int p1), some (.int p0), some (.int (0 : Int32))] ⟨Or.inl rfl, Or.inr rfl, Or.inr rfl, Or.inr rfl, trivial⟩ ?_
  have zq5 := bind_some hf
  clear hf
  obtain ⟨q5, eq5, hf⟩ := zq5
  refine lp_link (P := fun u4 => R 0 (d + 1) 124 4 [none, some (.int p1), some (.int u4.1), some (.int u4.2)] [] h Q) (E := fun e u4 => R 0 (d + 1) 124 18 [none, none, some (.int u4.1), none] [] h Q) (fun s j s' hb k0 ke => f124_l4_l hb hW hd k0 (fun z => ke 0 z)) N (p0, (0 : Int32)) q5.1 q5.2 eq5 ?_
  refine R_iload_n (i := 18) rfl rfl ?_
  refine R_call (vs := [.int q5.2.1]) (st' := []) (i := 19) rfl (by decide) (by decide) rfl rfl (Nat.le_of_ble_eq_true rfl) rfl (f229_l (hh rfl hd) ?_)
  have hz := Option.some.inj hf
  subst hz
  exact R_iret (i := 20) rfl kk
set_option maxRecDepth 100000 in
set_option maxHeartbeats 4000000 in
theorem f103_l17_l {d N : Nat} {s : Int32 × Int32 × Int32 × Hp} {Q : Option Value → Hp → Prop} {j : Nat} {s' : Int32 × Int32 × Int32 × Hp} (hf : f103_l17 N s = some (j, s')) (hW : WF 0 s.2.2.2) (hd : 9 ≤ d) (k0 : j = 0 → WF 0 s'.2.2.2 → R 0 d 103 17 [some (.ref 0), none, some (.int s'.1), some (.int s'.2.1), some (.int s'.2.2.1), none, none] [] s'.2.2.2 Q) (k1 : j = 1 → WF 0 s'.2.2.2 → R 0 d 103 66 [none, none, none, some (.int s'.2.1), none, none, none] [] s'.2.2.2 Q) (k2 : j = 2 → WF 0 s'.2.2.2 → R 0 d 103 71 [none, none, none, some (.int s'.2.1), none, none, none] [] s'.2.2.2 Q) : R 0 d 103 17 [some (.ref 0), none, some (.int s.1), some (.int s.2.1), some (.int s.2.2.1), none, none] [] s.2.2.2 Q := by
  obtain ⟨d, rfl⟩ : ∃ z, d = z + 1 := ⟨d - 1, by omega⟩
  unfold f103_l17 at hf
  refine R_iload (i := 17) rfl rfl ?_
  refine R_aload_n (i := 18) rfl rfl ?_
  refine R_getF hW (i := 19) rfl rfl (Nat.le_of_ble_eq_true rfl) rfl ?_
  refine R_getF hW (i := 20) rfl rfl (Nat.le_of_ble_eq_true rfl) rfl ?_
  refine R_getI hW (i := 21) rfl rfl (Nat.le_of_ble_eq_true rfl) ?_
  refine R_icmpge (i := 22) rfl (fun c4 => ?_) (fun c4 => ?_)
  · rw [if_pos c4] at hf
    obtain ⟨hj, hs⟩ := Prod.mk.inj (Option.some.inj hf)
    subst hj
    subst hs
    refine R_weak [none, none, none, some (.int s.2.1), none, none, none] ⟨Or.inl rfl, Or.inr rfl, Or.inl rfl, Or.inr rfl, Or.inl rfl, Or.inr rfl, Or.inr rfl, trivial⟩ ?_
    exact k2 rfl hW
  · rw [if_neg c4] at hf
    refine R_aload_n (i := 23) rfl rfl ?_
    refine R_getF hW (i := 24) rfl rfl (Nat.le_of_ble_eq_true rfl) rfl ?_
    refine R_getF hW (i := 25) rfl rfl (Nat.le_of_ble_eq_true rfl) rfl ?_
    refine R_getI hW (i := 26) rfl rfl (Nat.le_of_ble_eq_true rfl) ?_
    refine R_ifeq (i := 27) rfl (fun c5 => ?_) (fun c5 => ?_)
    · rw [if_pos c5] at hf
      obtain ⟨hj, hs⟩ := Prod.mk.inj (Option.some.inj hf)
      subst hj
      subst hs
      refine R_weak [none, none, none, some (.int s.2.1), none, none, none] ⟨Or.inl rfl, Or.inr rfl, Or.inl rfl, Or.inr rfl, Or.inl rfl, Or.inr rfl, Or.inr rfl, trivial⟩ ?_
      exact k2 rfl hW
    · rw [if_neg c5] at hf
      refine R_aload_n (i := 28) rfl rfl ?_
      refine R_getF hW (i := 29) rfl rfl (Nat.le_of_ble_eq_true rfl) rfl ?_
      refine R_getF hW (i := 30) rfl rfl (Nat.le_of_ble_eq_true rfl) rfl ?_
      refine R_getF hW (i := 31) rfl rfl (Nat.le_of_ble_eq_true rfl) rfl ?_
      refine R_aload_n (i := 32) rfl rfl ?_
      refine R_getF hW (i := 33) rfl rfl (Nat.le_of_ble_eq_true rfl) rfl ?_
      refine R_getF hW (i := 34) rfl rfl (Nat.le_of_ble_eq_true rfl) rfl ?_
      refine R_getI hW (i := 35) rfl rfl (Nat.le_of_ble_eq_true rfl) ?_
      have g6 := gd_some hf
      clear hf
      obtain ⟨g6, hf⟩ := g6
      refine R_iaload hW (i := 36) rfl rfl g6 ?_
      refine R_topi (fun v7 e7 => ?_)
      replace hf := bnd_some e7 hf
      refine R_istore [some (.ref 0), none, some (.int s.1), some (.int s.2.1), some (.int s.2.2.1), some (.int v7), none] (i := 37) rfl rfl ?_
      refine R_iload (i := 38) rfl rfl ?_
      refine R_iload_n (i := 39) rfl rfl ?_
      refine R_iconst (i := 40) rfl ?_
      refine R_iload (i := 41) rfl rfl ?_
      refine R_call (vs := [.int v7]) (st' := [.int (1 : Int32), .int s.1, .int v7]) (i := 42) rfl (by decide) (by decide) rfl rfl (Nat.le_of_ble_eq_true rfl) rfl (f230_l (hh rfl hd) ?_)
      refine R_mmax (i := 43) rfl (hg rfl hd) (Nat.le_of_ble_eq_true rfl) ?_
      have g8 := gd_some hf
      clear hf
      obtain ⟨g8, hf⟩ := g8
      refine R_irem (i := 44) rfl g8 ?_
      have zq9 := bind_some hf
      clear hf
      obtain ⟨q9, eq9, hf⟩ := zq9
      refine R_call (vs := [.int v7, .int (irem s.1 (mmax (1 : Int32) (f230 v7)))]) (st' := []) (i := 45) rfl (by decide) (by decide) rfl rfl (Nat.le_of_ble_eq_true rfl) rfl (f124_l eq9 hW (hh rfl hd) ?_)
      refine R_istore [some (.ref 0), none, some (.int s.1), some (.int s.2.1), some (.int s.2.2.1), some (.int v7), some (.int q9)] (i := 46) rfl rfl ?_
      refine R_iload_n (i := 47) rfl rfl ?_
      refine R_sipush (i := 48) rfl ?_
      refine R_imul (i := 49) rfl ?_
      refine R_bipush (i := 50) rfl ?_
      refine R_iadd (i := 51) rfl ?_
      refine R_sipush (i := 52) rfl ?_
      refine R_irem (i := 53) rfl (by decide) ?_
      refine R_topi (fun v10 e10 => ?_)
      replace hf := bnd_some e10 hf
      refine R_istore_n [some (.ref 0), none, some (.int v10), some (.int s.2.1), some (.int s.2.2.1), some (.int v7), some (.int q9)] (i := 54) rfl rfl ?_
      refine R_aload_n (i := 55) rfl rfl ?_
      refine R_aload_n (i := 56) rfl rfl ?_
      refine R_getF hW (i := 57) rfl rfl (Nat.le_of_ble_eq_true rfl) rfl ?_
      refine R_getF hW (i := 58) rfl rfl (Nat.le_of_ble_eq_true rfl) rfl ?_
      refine R_getF hW (i := 59) rfl rfl (Nat.le_of_ble_eq_true rfl) rfl ?_
      refine R_iload (i := 60) rfl rfl ?_
      have g11 := gd_some hf
      clear hf
      obtain ⟨g11, hf⟩ := g11
      refine R_iaload hW (i := 61) rfl rfl g11 ?_
      refine R_iload (i := 62) rfl rfl ?_
      have zq12 := bind_some hf
      clear hf
      obtain ⟨q12, eq12, hf⟩ := zq12
      refine R_callV (vs := [.int (hI s.2.2.2 34 (ix s.2.2.1)), .int q9]) (st' := []) hW (i := 63) rfl rfl rfl (Nat.le_of_ble_eq_true rfl) rfl (Nat.le_of_ble_eq_true rfl) rfl (f120_l eq12 hW (hh rfl hd) (fun hW12 => ?_))
      refine R_iconst (i := 64) rfl ?_
      refine R_icmpne (i := 65) rfl (fun c13 => ?_) (fun c13 => ?_)
      · rw [if_neg c13] at hf
        obtain ⟨v14, e14⟩ : ∃ z : Int32, z = (s.2.1 + (1 : Int32)) := ⟨_, rfl⟩
        replace hf := bnd_some e14 hf
        refine R_iinc [some (.ref 0), none, some (.int v10), some (.int v14), some (.int s.2.2.1), some (.int v7), some (.int q9)] (i := 68) rfl rfl (by rw [← e14]; rfl) ?_
        obtain ⟨v15, e15⟩ : ∃ z : Int32, z = (s.2.2.1 + (1 : Int32)) := ⟨_, rfl⟩
        replace hf := bnd_some e15 hf
        refine R_iinc [some (.ref 0), none, some (.int v10), some (.int v14), some (.int v15), some (.int v7), some (.int q9)] (i := 69) rfl rfl (by rw [← e15]; rfl) ?_
        refine R_goto (i := 70) rfl ?_
        obtain ⟨hj, hs⟩ := Prod.mk.inj (Option.some.inj hf)
        subst hj
        subst hs
        refine R_weak [some (.ref 0), none, some (.int v10), some (.int v14), some (.int v15), none, none] ⟨Or.inr rfl, Or.inr rfl, Or.inr rfl, Or.inr rfl, Or.inr rfl, Or.inl rfl, Or.inl rfl, trivial⟩ ?_
        exact k0 rfl hW12
      · rw [if_pos c13] at hf
        obtain ⟨hj, hs⟩ := Prod.mk.inj (Option.some.inj hf)
        subst hj
        subst hs
        refine R_weak [none, none, none, some (.int s.2.1), none, none, none] ⟨Or.inl rfl, Or.inr rfl, Or.inl rfl, Or.inr rfl, Or.inl rfl, Or.inl rfl, Or.inl rfl, trivial⟩ ?_
        exact k1 rfl hW12
set_option maxRecDepth 100000 in
set_option maxHeartbeats 4000000 in
theorem f103_l {d N : Nat} {p1 : Int32} {h : Hp} {Q : Option Value → Hp → Prop} {q : Int32 × Hp} (hf : f103 N p1 h = some q) (hW : WF 0 h) (hd : 9 ≤ d) (kk : WF 0 q.2 → Q (some (.int q.1)) q.2) : R 0 d 103 0 [some (.ref 0), some (.int p1), none, none, none, none, none] [] h Q := by
  unfold f103 at hf
  refine R_iload_n (i := 0) rfl rfl ?_
  refine R_iflt (i := 1) rfl (fun c1 => ?_) (fun c1 => ?_)
  · rw [if_pos c1] at hf
    refine R_iconst (i := 5) rfl ?_
    have hz := Option.some.inj hf
    subst hz
    exact R_iret (i := 6) rfl (kk hW)
  · rw [if_neg c1] at hf
    refine R_iload_n (i := 2) rfl rfl ?_
    refine R_sipush (i := 3) rfl ?_
    refine R_icmple (i := 4) rfl (fun c2 => ?_) (fun c2 => ?_)
    · rw [if_pos c2] at hf
      refine R_iload_n (i := 7) rfl rfl ?_
      refine R_iconst (i := 8) rfl ?_
      refine R_imul (i := 9) rfl ?_
      refine R_iconst (i := 10) rfl ?_
      refine R_iadd (i := 11) rfl ?_
      refine R_topi (fun v3 e3 => ?_)
      replace hf := bnd_some e3 hf
      refine R_istore_n [some (.ref 0), some (.int p1), some (.int v3), none, none, none, none] (i := 12) rfl rfl ?_
      refine R_iconst (i := 13) rfl ?_
      refine R_istore_n [some (.ref 0), some (.int p1), some (.int v3), some (.int (0 : Int32)), none, none, none] (i := 14) rfl rfl ?_
      refine R_iconst (i := 15) rfl ?_
      refine R_istore [some (.ref 0), some (.int p1), some (.int v3), some (.int (0 : Int32)), some (.int (0 : Int32)), none, none] (i := 16) rfl rfl ?_
      refine R_weak [some (.ref 0), none, some (.int v3), some (.int (0 : Int32)), some (.int (0 : Int32)), none, none] ⟨Or.inr rfl, Or.inl rfl, Or.inr rfl, Or.inr rfl, Or.inr rfl, Or.inr rfl, Or.inr rfl, trivial⟩ ?_
      have zq16 := bind_some hf
      clear hf
      obtain ⟨q16, eq16, hf⟩ := zq16
      refine lp_link (P := fun u17 => WF 0 u17.2.2.2 → R 0 d 103 17 [some (.ref 0), none, some (.int u17.1), some (.int u17.2.1), some (.int u17.2.2.1), none, none] [] u17.2.2.2 Q) (E := fun e u17 => WF 0 u17.2.2.2 → ((e = 0 → R 0 d 103 66 [none, none, none, some (.int u17.2.1), none, none, none] [] u17.2.2.2 Q) ∧ (e = 1 → R 0 d 103 71 [none, none, none, some (.int u17.2.1), none, none, none] [] u17.2.2.2 Q))) (fun s j s' hb k0 ke hWs => f103_l17_l hb hWs hd k0 (fun z y => (ke 0 z y).1 rfl) (fun z y => (ke 1 z y).2 rfl)) N (v3, (0 : Int32), (0 : Int32), h) q16.1 q16.2 eq16 ?_ hW
      refine fun hW16 => ⟨fun z => ?_, fun z => ?_⟩
      · rw [if_pos z] at hf
        refine R_iload_n (i := 66) rfl rfl ?_
        have hz := Option.some.inj hf
        subst hz
        exact R_iret (i := 67) rfl (kk hW16)
      · rw [if_neg (by rw [z]; decide)] at hf
        refine R_iload_n (i := 71) rfl rfl ?_
        have hz := Option.some.inj hf
        subst hz
        exact R_iret (i := 72) rfl (kk hW16)
    · rw [if_neg c2] at hf
      refine R_iconst (i := 5) rfl ?_
      have hz := Option.some.inj hf
      subst hz
      exact R_iret (i := 6) rfl (kk hW)
set_option maxRecDepth 100000 in
set_option maxHeartbeats 4000000 in
theorem f88_l {d N : Nat} {h : Hp} {Q : Option Value → Hp → Prop} {q : Int32 × Hp} (hf : f88 N h = some q) (hW : WF 0 h) (hd : 6 ≤ d) (kk : WF 0 q.2 → Q (some (.int q.1)) q.2) : R 0 d 88 0 [some (.ref 29), some (.ref 28)] [] h Q := by
  obtain ⟨d, rfl⟩ : ∃ z, d = z + 1 := ⟨d - 1, by omega⟩
  unfold f88 at hf
  refine R_aload_n (i := 0) rfl rfl ?_
  refine R_getI hW (i := 1) rfl rfl (Nat.le_of_ble_eq_true rfl) ?_
  refine R_ifgt (i := 2) rfl (fun c1 => ?_) (fun c1 => ?_)
  · rw [if_pos c1] at hf
    refine R_aload_n (i := 5) rfl rfl ?_
    refine R_aload_n (i := 6) rfl rfl ?_
    refine R_getI hW (i := 7) rfl rfl (Nat.le_of_ble_eq_true rfl) ?_
    refine R_bipush (i := 8) rfl ?_
    refine R_iadd (i := 9) rfl ?_
    refine R_iconst (i := 10) rfl ?_
    refine R_isub (i := 11) rfl ?_
    refine R_bipush (i := 12) rfl ?_
    refine R_irem (i := 13) rfl (by decide) ?_
    refine R_putI hW (i := 14) rfl rfl (Nat.le_of_ble_eq_true rfl) (hg rfl hd) (fun h2 eh2 => ?_)
    replace hf := bnd_some eh2 hf
    have hW2 : WF 0 h2 := by rw [eh2]; exact hW
    refine R_aload_n (i := 15) rfl rfl ?_
    refine R_dup (i := 16) rfl rfl ?_
    refine R_getI hW2 (i := 17) rfl rfl (Nat.le_of_ble_eq_true rfl) ?_
    refine R_iconst (i := 18) rfl ?_
    refine R_isub (i := 19) rfl ?_
    refine R_putI hW2 (i := 20) rfl rfl (Nat.le_of_ble_eq_true rfl) (hg rfl hd) (fun h3 eh3 => ?_)
    replace hf := bnd_some eh3 hf
    have hW3 : WF 0 h3 := by rw [eh3]; exact hW2
    refine R_aload_n (i := 21) rfl rfl ?_
    refine R_aload_n (i := 22) rfl rfl ?_
    refine R_getF hW3 (i := 23) rfl rfl (Nat.le_of_ble_eq_true rfl) rfl ?_
    refine R_aload_n (i := 24) rfl rfl ?_
    refine R_getI hW3 (i := 25) rfl rfl (Nat.le_of_ble_eq_true rfl) ?_
    have g4 := gd_some hf
    clear hf
    obtain ⟨g4, hf⟩ := g4
    refine R_iaload hW3 (i := 26) rfl rfl g4 ?_
    have zq5 := bind_some hf
    clear hf
    obtain ⟨q5, eq5, hf⟩ := zq5
    refine R_callV (vs := [.int (hI h3 30 (ix (hI h3 29 3)))]) (st' := []) hW3 (i := 27) rfl rfl rfl (Nat.le_of_ble_eq_true rfl) rfl (Nat.le_of_ble_eq_true rfl) rfl (f83_l eq5 hW3 (hh rfl hd) (fun hW5 => ?_))
    refine R_aload_n (i := 28) rfl rfl ?_
    refine R_aload_n (i := 29) rfl rfl ?_
    refine R_getF hW5 (i := 30) rfl rfl (Nat.le_of_ble_eq_true rfl) rfl ?_
    refine R_aload_n (i := 31) rfl rfl ?_
    refine R_getI hW5 (i := 32) rfl rfl (Nat.le_of_ble_eq_true rfl) ?_
    have g6 := gd_some hf
    clear hf
    obtain ⟨g6, hf⟩ := g6
    refine R_iaload hW5 (i := 33) rfl rfl g6 ?_
    refine R_putI hW5 (i := 34) rfl rfl (Nat.le_of_ble_eq_true rfl) (hg rfl hd) (fun h7 eh7 => ?_)
    replace hf := bnd_some eh7 hf
    have hW7 : WF 0 h7 := by rw [eh7]; exact hW5
    refine R_aload_n (i := 35) rfl rfl ?_
    refine R_aload_n (i := 36) rfl rfl ?_
    refine R_getF hW7 (i := 37) rfl rfl (Nat.le_of_ble_eq_true rfl) rfl ?_
    refine R_aload_n (i := 38) rfl rfl ?_
    refine R_getI hW7 (i := 39) rfl rfl (Nat.le_of_ble_eq_true rfl) ?_
    have g8 := gd_some hf
    clear hf
    obtain ⟨g8, hf⟩ := g8
    refine R_iaload hW7 (i := 40) rfl rfl g8 ?_
    refine R_putI hW7 (i := 41) rfl rfl (Nat.le_of_ble_eq_true rfl) (hg rfl hd) (fun h9 eh9 => ?_)
    replace hf := bnd_some eh9 hf
    have hW9 : WF 0 h9 := by rw [eh9]; exact hW7
    refine R_aload_n (i := 42) rfl rfl ?_
    refine R_iconst (i := 43) rfl ?_
    refine R_putZ hW9 (i := 44) rfl rfl (Nat.le_of_ble_eq_true rfl) (by decide) (hg rfl hd) (fun h10 eh10 => ?_)
    replace hf := bnd_some eh10 hf
    have hW10 : WF 0 h10 := by rw [eh10]; exact hW9
    refine R_aload_n (i := 45) rfl rfl ?_
    refine R_getI hW10 (i := 46) rfl rfl (Nat.le_of_ble_eq_true rfl) ?_
    have hz := Option.some.inj hf
    subst hz
    exact R_iret (i := 47) rfl (kk hW10)
  · rw [if_neg c1] at hf
    refine R_iconst (i := 3) rfl ?_
    have hz := Option.some.inj hf
    subst hz
    exact R_iret (i := 4) rfl (kk hW)
set_option maxRecDepth 100000 in
set_option maxHeartbeats 4000000 in
theorem f104_l {d N : Nat} {h : Hp} {Q : Option Value → Hp → Prop} {q : Int32 × Hp} (hf : f104 N h = some q) (hW : WF 0 h) (hd : 7 ≤ d) (kk : WF 0 q.2 → Q (some (.int q.1)) q.2) : R 0 d 104 0 [some (.ref 0)] [] h Q := by
  obtain ⟨d, rfl⟩ : ∃ z, d = z + 1 := ⟨d - 1, by omega⟩
  unfold f104 at hf
  refine R_aload_n (i := 0) rfl rfl ?_
  refine R_getF hW (i := 1) rfl rfl (Nat.le_of_ble_eq_true rfl) rfl ?_
  refine R_getF hW (i := 2) rfl rfl (Nat.le_of_ble_eq_true rfl) rfl ?_
  refine R_aload_n (i := 3) rfl rfl ?_
  refine R_getF hW (i := 4) rfl rfl (Nat.le_of_ble_eq_true rfl) rfl ?_
  refine R_getF hW (i := 5) rfl rfl (Nat.le_of_ble_eq_true rfl) rfl ?_
  have zq1 := bind_some hf
  clear hf
  obtain ⟨q1, eq1, hf⟩ := zq1
  refine R_callV (vs := [.ref 28]) (st' := []) hW (i := 6) rfl rfl rfl (Nat.le_of_ble_eq_true rfl) rfl (Nat.le_of_ble_eq_true rfl) rfl (f88_l eq1 hW (hh rfl hd) (fun hW1 => ?_))
  have hz := Option.some.inj hf
  subst hz
  exact R_iret (i := 7) rfl (kk hW1)
set_option maxRecDepth 100000 in
set_option maxHeartbeats 4000000 in
theorem f105_l {d N : Nat} {p1 : Int32} {h : Hp} {Q : Option Value → Hp → Prop} {q : Int32} (hf : f105 N p1 h = some q) (hW : WF 0 h) (hd : 2 ≤ d) (kk : Q (some (.int q)) h) : R 0 d 105 0 [some (.ref 0), some (.int p1)] [] h Q := by
  obtain ⟨d, rfl⟩ : ∃ z, d = z + 1 := ⟨d - 1, by omega⟩
  unfold f105 at hf
  refine R_iload_n (i := 0) rfl rfl ?_
  refine R_switch (i := 1) rfl ?_
  refine R_swc (lo := 0) (lo' := 1) (by decide) (fun c1 => ?_) (fun c1 => ?_)
  · rw [if_pos c1] at hf
    refine R_aload_n (i := 2) rfl rfl ?_
    refine R_getF hW (i := 3) rfl rfl (Nat.le_of_ble_eq_true rfl) rfl ?_
    refine R_getF hW (i := 4) rfl rfl (Nat.le_of_ble_eq_true rfl) rfl ?_
    have zq2 := bind_some hf
    clear hf
    obtain ⟨q2, eq2, hf⟩ := zq2
    refine R_callV (vs := []) (st' := []) hW (i := 5) rfl rfl rfl (Nat.le_of_ble_eq_true rfl) rfl (Nat.le_of_ble_eq_true rfl) rfl (f82_l eq2 hW (hh rfl hd) ?_)
    have hz := Option.some.inj hf
    subst hz
    exact R_iret (i := 6) rfl kk
  rw [if_neg c1] at hf
  refine R_swc (lo := 1) (lo' := 2) (by decide) (fun c3 => ?_) (fun c3 => ?_)
  · rw [if_pos c3] at hf
    refine R_aload_n (i := 7) rfl rfl ?_
    refine R_getF hW (i := 8) rfl rfl (Nat.le_of_ble_eq_true rfl) rfl ?_
    refine R_getF hW (i := 9) rfl rfl (Nat.le_of_ble_eq_true rfl) rfl ?_
    refine R_getI hW (i := 10) rfl rfl (Nat.le_of_ble_eq_true rfl) ?_
    refine R_ifeq (i := 11) rfl (fun c4 => ?_) (fun c4 => ?_)
    · rw [if_pos c4] at hf
      refine R_iconst (i := 14) rfl ?_
      have hz := Option.some.inj hf
      subst hz
      exact R_iret (i := 15) rfl kk
    · rw [if_neg c4] at hf
      refine R_iconst (i := 12) rfl ?_
      refine R_goto (i := 13) rfl ?_
      have hz := Option.some.inj hf
      subst hz
      exact R_iret (i := 15) rfl kk
  rw [if_neg c3] at hf
  refine R_swc (lo := 2) (lo' := 3) (by decide) (fun c5 => ?_) (fun c5 => ?_)
  · rw [if_pos c5] at hf
    refine R_aload_n (i := 16) rfl rfl ?_
    refine R_getF hW (i := 17) rfl rfl (Nat.le_of_ble_eq_true rfl) rfl ?_
    refine R_getF hW (i := 18) rfl rfl (Nat.le_of_ble_eq_true rfl) rfl ?_
    refine R_getI hW (i := 19) rfl rfl (Nat.le_of_ble_eq_true rfl) ?_
    have hz := Option.some.inj hf
    subst hz
    exact R_iret (i := 20) rfl kk
  rw [if_neg c5] at hf
  refine R_swc (lo := 3) (lo' := 4) (by decide) (fun c6 => ?_) (fun c6 => ?_)
  · rw [if_pos c6] at hf
    refine R_aload_n (i := 21) rfl rfl ?_
    refine R_getF hW (i := 22) rfl rfl (Nat.le_of_ble_eq_true rfl) rfl ?_
    refine R_getF hW (i := 23) rfl rfl (Nat.le_of_ble_eq_true rfl) rfl ?_
    refine R_getI hW (i := 24) rfl rfl (Nat.le_of_ble_eq_true rfl) ?_
    have hz := Option.some.inj hf
    subst hz
    exact R_iret (i := 25) rfl kk
  rw [if_neg c6] at hf
  refine R_swn ?_
  refine R_iconst (i := 26) rfl ?_
  have hz := Option.some.inj hf
  subst hz
  exact R_iret (i := 27) rfl kk
set_option maxRecDepth 100000 in
set_option maxHeartbeats 4000000 in
theorem f134_l {d : Nat} {p0 : Int32} {p1 : Int32} {p2 : Int32} {h : Hp} {Q : Option Value → Hp → Prop} (hd : 0 ≤ d) (kk : Q (some (.int (f134 p0 p1 p2))) h) : R 0 d 134 0 [some (.int p0), some (.int p1), some (.int p2)] [] h Q := by
  unfold f134 at kk
  refine R_iload_n (i := 0) rfl rfl ?_
  refine R_bipush (i := 1) rfl ?_
  refine R_imul (i := 2) rfl ?_
  refine R_iload_n (i := 3) rfl rfl ?_
  refine R_iadd (i := 4) rfl ?_
  refine R_bipush (i := 5) rfl ?_
  refine R_imul (i := 6) rfl ?_
  refine R_iload_n (i := 7) rfl rfl ?_
  refine R_iadd (i := 8) rfl ?_
  exact R_iret (i := 9) rfl kk
set_option maxRecDepth 100000 in
set_option maxHeartbeats 4000000 in
theorem f25_l {d N : Nat} {p1 : Int32} {p2 : Int32} {p3 : Int32} {h : Hp} {Q : Option Value → Hp → Prop} {q : Hp} (hf : f25 N p1 p2 p3 h = some q) (hW : WF 0 h) (hd : 5 ≤ d) (kk : WF 0 q → Q (none) q) : R 0 d 25 0 [some (.ref 64), some (.int p1), some (.int p2), some (.int p3), none] [] h Q := by
  unfold f25 at hf
  refine R_iconst (i := 0) rfl ?_
  refine R_iload_n (i := 1) rfl rfl ?_
  refine R_iconst (i := 2) rfl ?_
  refine R_isub (i := 3) rfl ?_
  refine R_ishl (i := 4) rfl ?_
  refine R_topi (fun v1 e1 => ?_)
  replace hf := bnd_some e1 hf
  refine R_istore [some (.ref 64), some (.int p1), some (.int p2), some (.int p3), some (.int v1)] (i := 5) rfl rfl ?_
  refine R_aload_n (i := 6) rfl rfl ?_
  refine R_getF hW (i := 7) rfl rfl (Nat.le_of_ble_eq_true rfl) rfl ?_
  refine R_iload_n (i := 8) rfl rfl ?_
  refine R_iload_n (i := 9) rfl rfl ?_
  refine R_ifeq (i := 10) rfl (fun c2 => ?_) (fun c2 => ?_)
  · rw [if_pos c2] at hf
    refine R_aload_n (i := 18) rfl rfl ?_
    refine R_getF hW (i := 19) rfl rfl (Nat.le_of_ble_eq_true rfl) rfl ?_
    refine R_iload_n (i := 20) rfl rfl ?_
    have g3 := gd_some hf
    clear hf
    obtain ⟨g3, hf⟩ := g3
    refine R_iaload hW (i := 21) rfl rfl g3 ?_
    refine R_iload (i := 22) rfl rfl ?_
    refine R_iconst (i := 23) rfl ?_
    refine R_ixor (i := 24) rfl ?_
    refine R_iand (i := 25) rfl ?_
    have g4 := gd_some hf
    clear hf
    obtain ⟨g4, hf⟩ := g4
    refine R_iastore hW (i := 26) rfl rfl g4 (hg rfl hd) (fun h5 eh5 => ?_)
    replace hf := bnd_some eh5 hf
    have hW5 : WF 0 h5 := by rw [eh5]; exact hW
    have hz := Option.some.inj hf
    subst hz
    exact R_vret (i := 27) rfl (kk hW5)
  · rw [if_neg c2] at hf
    refine R_aload_n (i := 11) rfl rfl ?_
    refine R_getF hW (i := 12) rfl rfl (Nat.le_of_ble_eq_true rfl) rfl ?_
    refine R_iload_n (i := 13) rfl rfl ?_
    have g6 := gd_some hf
    clear hf
    obtain ⟨g6, hf⟩ := g6
    refine R_iaload hW (i := 14) rfl rfl g6 ?_
    refine R_iload (i := 15) rfl rfl ?_
    refine R_ior (i := 16) rfl ?_
    refine R_goto (i := 17) rfl ?_
    have g7 := gd_some hf
    clear hf
    obtain ⟨g7, hf⟩ := g7
    refine R_iastore hW (i := 26) rfl rfl g7 (hg rfl hd) (fun h8 eh8 => ?_)
    replace hf := bnd_some eh8 hf
    have hW8 : WF 0 h8 := by rw [eh8]; exact hW
    have hz := Option.some.inj hf
    subst hz
    exact R_vret (i := 27) rfl (kk hW8)
set_option maxRecDepth 100000 in
set_option maxHeartbeats 4000000 in
theorem f24_b55_l {d N : Nat} {x1 : Int32} {x2 : Int32} {x3 : Int32} {x4 : Int32} {x5 : Int32} {h : Hp} {Q : Option Value → Hp → Prop} {j : Nat} {s' : Int32 × Hp} (hf : f24_b55 N x1 x2 x3 x4 x5 h = some (j, s')) (hW : WF 0 h) (hd : 7 ≤ d) (k0 : j = 0 → WF 0 s'.2 → R 0 d 24 18 [some (.ref 64), some (.int x1), some (.int x2), some (.int x3), some (.int x4), some (.int s'.1), none, none, none] [] s'.2 Q) (k1 : j = 1 → WF 0 s'.2 → R 0 d 24 57 [some (.ref 64), some (.int x1), some (.int x2), some (.int x3), none, none, none, none, none] [] s'.2 Q) : R 0 d 24 55 [some (.ref 64), some (.int x1), some (.int x2), some (.int x3), some (.int x4), some (.int x5), none, none, none] [] h Q := by
  unfold f24_b55 at hf
  obtain ⟨v7, e7⟩ : ∃ z : Int32, z = (x5 + (1 : Int32)) := ⟨_, rfl⟩
  replace hf := bnd_some e7 hf
  refine R_iinc [some (.ref 64), some (.int x1), some (.int x2), some (.int x3), some (.int x4), some (.int v7), none, none, none] (i := 55) rfl rfl (by rw [← e7]; rfl) ?_
  refine R_goto (i := 56) rfl ?_
  obtain ⟨hj, hs⟩ := Prod.mk.inj (Option.some.inj hf)
  subst hj
  subst hs
  exact k0 rfl hW
set_option maxRecDepth 100000 in
set_option maxHeartbeats 4000000 in
theorem f24_b46_l {d N : Nat} {x1 : Int32} {x2 : Int32} {x3 : Int32} {x4 : Int32} {x5 : Int32} {x6 : Int32} {x7 : Int32} {t0 : Int32} {h : Hp} {Q : Option Value → Hp → Prop} {j : Nat} {s' : Int32 × Hp} (hf : f24_b46 N x1 x2 x3 x4 x5 x6 x7 t0 h = some (j, s')) (hW : WF 0 h) (hd : 7 ≤ d) (k0 : j = 0 → WF 0 s'.2 → R 0 d 24 18 [some (.ref 64), some (.int x1), some (.int x2), some (.int x3), some (.int x4), some (.int s'.1), none, none, none] [] s'.2 Q) (k1 : j = 1 → WF 0 s'.2 → R 0 d 24 57 [some (.ref 64), some (.int x1), some (.int x2), some (.int x3), none, none, none, none, none] [] s'.2 Q) : R 0 d 24 46 [some (.ref 64), some (.int x1), some (.int x2), some (.int x3), some (.int x4), some (.int x5), some (.int x6), some (.int x7), none] [.int t0] h Q := by
  obtain ⟨d, rfl⟩ : ∃ z, d = z + 1 := ⟨d - 1, by omega⟩
  unfold f24_b46 at hf
  refine R_istore [some (.ref 64), some (.int x1), some (.int x2), some (.int x3), some (.int x4), some (.int x5), some (.int x6), some (.int x7), some (.int t0)] (i := 46) rfl rfl ?_
  refine R_aload_n (i := 47) rfl rfl ?_
  refine R_iload (i := 48) rfl rfl ?_
  refine R_iload (i := 49) rfl rfl ?_
  refine R_iload_n (i := 50) rfl rfl ?_
  refine R_call (vs := [.int x7, .int x6, .int x1]) (st' := [.ref 64]) (i := 51) rfl (by decide) (by decide) rfl rfl (Nat.le_of_ble_eq_true rfl) rfl (f134_l (hh rfl hd) ?_)
  refine R_iload_n (i := 52) rfl rfl ?_
  refine R_iload (i := 53) rfl rfl ?_
  have zq11 := bind_some hf
  clear hf
  obtain ⟨q11, eq11, hf⟩ := zq11
  refine R_callV (vs := [.int (f134 x7 x6 x1), .int x3, .int t0]) (st' := []) hW (i := 54) rfl rfl rfl (Nat.le_of_ble_eq_true rfl) rfl (Nat.le_of_ble_eq_true rfl) rfl (f25_l eq11 hW (hh rfl hd) (fun hW11 => ?_))
  refine R_weak [some (.ref 64), some (.int x1), some (.int x2), some (.int x3), some (.int x4), some (.int x5), none, none, none] ⟨Or.inr rfl, Or.inr rfl, Or.inr rfl, Or.inr rfl, Or.inr rfl, Or.inr rfl, Or.inl rfl, Or.inl rfl, Or.inl rfl, trivial⟩ ?_
  exact f24_b55_l hf hW11 hd k0 k1
set_option maxRecDepth 100000 in
set_option maxHeartbeats 4000000 in
theorem f24_l18_l {d N : Nat} {x1 : Int32} {x2 : Int32} {x3 : Int32} {x4 : Int32} {s : Int32 × Hp} {Q : Option Value → Hp → Prop} {j : Nat} {s' : Int32 × Hp} (hf : f24_l18 N x1 x2 x3 x4 s = some (j, s')) (hW : WF 0 s.2) (hd : 7 ≤ d) (k0 : j = 0 → WF 0 s'.2 → R 0 d 24 18 [some (.ref 64), some (.int x1), some (.int x2), some (.int x3), some (.int x4), some (.int s'.1), none, none, none] [] s'.2 Q) (k1 : j = 1 → WF 0 s'.2 → R 0 d 24 57 [some (.ref 64), some (.int x1), some (.int x2), some (.int x3), none, none, none, none, none] [] s'.2 Q) : R 0 d 24 18 [some (.ref 64), some (.int x1), some (.int x2), some (.int x3), some (.int x4), some (.int s.1), none, none, none] [] s.2 Q := by
  obtain ⟨d, rfl⟩ : ∃ z, d = z + 1 := ⟨d - 1, by omega⟩
  unfold f24_l18 at hf
  refine R_iload (i := 18) rfl rfl ?_
  refine R_bipush (i := 19) rfl ?_
  refine R_icmpge (i := 20) rfl (fun c4 => ?_) (fun c4 => ?_)
  · rw [if_pos c4] at hf
    obtain ⟨hj, hs⟩ := Prod.mk.inj (Option.some.inj hf)
    subst hj
    subst hs
    refine R_weak [some (.ref 64), some (.int x1), some (.int x2), some (.int x3), none, none, none, none, none] ⟨Or.inr rfl, Or.inr rfl, Or.inr rfl, Or.inr rfl, Or.inl rfl, Or.inl rfl, Or.inr rfl, Or.inr rfl, Or.inr rfl, trivial⟩ ?_
    exact k1 rfl hW
  · rw [if_neg c4] at hf
    refine R_iload (i := 21) rfl rfl ?_
    refine R_bipush (i := 22) rfl ?_
    refine R_irem (i := 23) rfl (by decide) ?_
    refine R_topi (fun v5 e5 => ?_)
    replace hf := bnd_some e5 hf
    refine R_istore [some (.ref 64), some (.int x1), some (.int x2), some (.int x3), some (.int x4), some (.int s.1), some (.int v5), none, none] (i := 24) rfl rfl ?_
    refine R_iload (i := 25) rfl rfl ?_
    refine R_aload_n (i := 26) rfl rfl ?_
    refine R_getF hW (i := 27) rfl rfl (Nat.le_of_ble_eq_true rfl) rfl ?_
    refine R_getI hW (i := 28) rfl rfl (Nat.le_of_ble_eq_true rfl) ?_
    refine R_icmpge (i := 29) rfl (fun c6 => ?_) (fun c6 => ?_)
    · rw [if_pos c6] at hf
      refine R_weak [some (.ref 64), some (.int x1), some (.int x2), some (.int x3), some (.int x4), some (.int s.1), none, none, none] ⟨Or.inr rfl, Or.inr rfl, Or.inr rfl, Or.inr rfl, Or.inr rfl, Or.inr rfl, Or.inl rfl, Or.inr rfl, Or.inr rfl, trivial⟩ ?_
      exact f24_b55_l hf hW hd k0 k1
    · rw [if_neg c6] at hf
      refine R_iload (i := 30) rfl rfl ?_
      refine R_bipush (i := 31) rfl ?_
      refine R_idiv (i := 32) rfl (by decide) ?_
      refine R_topi (fun v8 e8 => ?_)
      replace hf := bnd_some e8 hf
      refine R_istore [some (.ref 64), some (.int x1), some (.int x2), some (.int x3), some (.int x4), some (.int s.1), some (.int v5), some (.int v8), none] (i := 33) rfl rfl ?_
      refine R_aload_n (i := 34) rfl rfl ?_
      refine R_getF hW (i := 35) rfl rfl (Nat.le_of_ble_eq_true rfl) rfl ?_
      refine R_iload (i := 36) rfl rfl ?_
      refine R_iload (i := 37) rfl rfl ?_
      refine R_iload_n (i := 38) rfl rfl ?_
      refine R_iload (i := 39) rfl rfl ?_
      refine R_iload_n (i := 40) rfl rfl ?_
      have zq9 := bind_some hf
      clear hf
      obtain ⟨q9, eq9, hf⟩ := zq9
      refine R_callV (vs := [.int v8, .int v5, .int x3, .int x4, .int x2]) (st' := []) hW (i := 41) rfl rfl rfl (Nat.le_of_ble_eq_true rfl) rfl (Nat.le_of_ble_eq_true rfl) rfl (f62_l eq9 hW (hh rfl hd) ?_)
      refine R_ifne (i := 42) rfl (fun c10 => ?_) (fun c10 => ?_)
      · rw [if_neg c10] at hf
        refine R_iconst (i := 45) rfl ?_
        exact f24_b46_l hf hW hd k0 k1
      · rw [if_pos c10] at hf
        refine R_iconst (i := 43) rfl ?_
        refine R_goto (i := 44) rfl ?_
        exact f24_b46_l hf hW hd k0 k1
set_option maxRecDepth 100000 in
set_option maxHeartbeats 4000000 in
theorem f24_l7_l {d N : Nat} {x1 : Int32} {x2 : Int32} {s : Int32 × Hp} {Q : Option Value → Hp → Prop} {j : Nat} {s' : Int32 × Hp} (hf : f24_l7 N x1 x2 s = some (j, s')) (hW : WF 0 s.2) (hd : 7 ≤ d) (k0 : j = 0 → WF 0 s'.2 → R 0 d 24 7 [some (.ref 64), some (.int x1), some (.int x2), some (.int s'.1), none, none, none, none, none] [] s'.2 Q) (k1 : j = 1 → WF 0 s'.2 → R 0 d 24 59 [none, none, none, none, none, none, none, none, none] [] s'.2 Q) : R 0 d 24 7 [some (.ref 64), some (.int x1), some (.int x2), some (.int s.1), none, none, none, none, none] [] s.2 Q := by
  obtain ⟨d, rfl⟩ : ∃ z, d = z + 1 := ⟨d - 1, by omega⟩
  unfold f24_l7 at hf
  refine R_iload_n (i := 7) rfl rfl ?_
  refine R_iconst (i := 8) rfl ?_
  refine R_icmpgt (i := 9) rfl (fun c2 => ?_) (fun c2 => ?_)
  · rw [if_pos c2] at hf
    obtain ⟨hj, hs⟩ := Prod.mk.inj (Option.some.inj hf)
    subst hj
    subst hs
    refine R_weak [none, none, none, none, none, none, none, none, none] ⟨Or.inl rfl, Or.inl rfl, Or.inl rfl, Or.inl rfl, Or.inr rfl, Or.inr rfl, Or.inr rfl, Or.inr rfl, Or.inr rfl, trivial⟩ ?_
    exact k1 rfl hW
  · rw [if_neg c2] at hf
    refine R_aload_n (i := 10) rfl rfl ?_
    refine R_getF hW (i := 11) rfl rfl (Nat.le_of_ble_eq_true rfl) rfl ?_
    refine R_iload_n (i := 12) rfl rfl ?_
    refine R_iload_n (i := 13) rfl rfl ?_
    have zq3 := bind_some hf
    clear hf
    obtain ⟨q3, eq3, hf⟩ := zq3
    refine R_callV (vs := [.int x1, .int s.1]) (st' := []) hW (i := 14) rfl rfl rfl (Nat.le_of_ble_eq_true rfl) rfl (Nat.le_of_ble_eq_true rfl) rfl (f35_l eq3 hW (hh rfl hd) (fun hW3 => ?_))
    refine R_istore [some (.ref 64), some (.int x1), some (.int x2), some (.int s.1), some (.int q3.1), none, none, none, none] (i := 15) rfl rfl ?_
    refine R_iconst (i := 16) rfl ?_
    refine R_istore [some (.ref 64), some (.int x1), some (.int x2), some (.int s.1), some (.int q3.1), some (.int (0 : Int32)), none, none, none] (i := 17) rfl rfl ?_
    have zq12 := bind_some hf
    clear hf
    obtain ⟨q12, eq12, hf⟩ := zq12
    refine lp_link (P := fun u18 => WF 0 u18.2 → R 0 (d + 1) 24 18 [some (.ref 64), some (.int x1), some (.int x2), some (.int s.1), some (.int q3.1), some (.int u18.1), none, none, none] [] u18.2 Q) (E := fun e u18 => WF 0 u18.2 → R 0 (d + 1) 24 57 [some (.ref 64), some (.int x1), some (.int x2), some (.int s.1), none, none, none, none, none] [] u18.2 Q) (fun s j s' hb k0 ke hWs => f24_l18_l hb hWs hd k0 (fun z y => ke 0 z y)) N ((0 : Int32), q3.2) q12.1 q12.2 eq12 ?_ hW3
    intro hW12
    obtain ⟨v13, e13⟩ : ∃ z : Int32, z = (s.1 + (1 : Int32)) := ⟨_, rfl⟩
    replace hf := bnd_some e13 hf
    refine R_iinc [some (.ref 64), some (.int x1), some (.int x2), some (.int v13), none, none, none, none, none] (i := 57) rfl rfl (by rw [← e13]; rfl) ?_
    refine R_goto (i := 58) rfl ?_
    obtain ⟨hj, hs⟩ := Prod.mk.inj (Option.some.inj hf)
    subst hj
    subst hs
    exact k0 rfl hW12
set_option maxRecDepth 100000 in
set_option maxHeartbeats 4000000 in
theorem f24_l {d N : Nat} {p1 : Int32} {h : Hp} {Q : Option Value → Hp → Prop} {q : Hp} (hf : f24 N p1 h = some q) (hW : WF 0 h) (hd : 7 ≤ d) (kk : WF 0 q → Q (none) q) : R 0 d 24 0 [some (.ref 64), some (.int p1), none, none, none, none, none, none, none] [] h Q := by
  obtain ⟨d, rfl⟩ : ∃ z, d = z + 1 := ⟨d - 1, by omega⟩
  unfold f24 at hf
  refine R_aload_n (i := 0) rfl rfl ?_
  refine R_getF hW (i := 1) rfl rfl (Nat.le_of_ble_eq_true rfl) rfl ?_
  refine R_iload_n (i := 2) rfl rfl ?_
  have zq1 := bind_some hf
  clear hf
  obtain ⟨q1, eq1, hf⟩ := zq1
  refine R_callV (vs := [.int p1]) (st' := []) hW (i := 3) rfl rfl rfl (Nat.le_of_ble_eq_true rfl) rfl (Nat.le_of_ble_eq_true rfl) rfl (f36_l eq1 hW (hh rfl hd) (fun hW1 => ?_))
  refine R_istore_n [some (.ref 64), some (.int p1), some (.int q1.1), none, none, none, none, none, none] (i := 4) rfl rfl ?_
  refine R_iconst (i := 5) rfl ?_
  refine R_istore_n [some (.ref 64), some (.int p1), some (.int q1.1), some (.int (1 : Int32)), none, none, none, none, none] (i := 6) rfl rfl ?_
  have zq14 := bind_some hf
  clear hf
  obtain ⟨q14, eq14, hf⟩ := zq14
  refine lp_link (P := fun u7 => WF 0 u7.2 → R 0 (d + 1) 24 7 [some (.ref 64), some (.int p1), some (.int q1.1), some (.int u7.1), none, none, none, none, none] [] u7.2 Q) (E := fun e u7 => WF 0 u7.2 → R 0 (d + 1) 24 59 [none, none, none, none, none, none, none, none, none] [] u7.2 Q) (fun s j s' hb k0 ke hWs => f24_l7_l hb hWs hd k0 (fun z y => ke 0 z y)) N ((1 : Int32), q1.2) q14.1 q14.2 eq14 ?_ hW1
  intro hW14
  have hz := Option.some.inj hf
  subst hz
  exact R_vret (i := 59) rfl (kk hW14)
set_option maxRecDepth 100000 in
set_option maxHeartbeats 4000000 in
theorem f136_l {d : Nat} {p0 : Int32} {p1 : Int32} {p2 : Int32} {p3 : Int32} {h : Hp} {Q : Option Value → Hp → Prop} (hd : 0 ≤ d) (kk : Q (some (.int (f136 p0 p1 p2 p3))) h) : R 0 d 136 0 [some (.int p0), some (.int p1), some (.int p2), some (.int p3)] [] h Q := by
  unfold f136 at kk
  refine R_iload_n (i := 0) rfl rfl ?_
  refine R_bipush (i := 1) rfl ?_
  refine R_imul (i := 2) rfl ?_
  refine R_iload_n (i := 3) rfl rfl ?_
  refine R_iadd (i := 4) rfl ?_
  refine R_bipush (i := 5) rfl ?_
  refine R_imul (i := 6) rfl ?_
  refine R_iload_n (i := 7) rfl rfl ?_
  refine R_iadd (i := 8) rfl ?_
  refine R_iconst (i := 9) rfl ?_
  refine R_imul (i := 10) rfl ?_
  refine R_iload_n (i := 11) rfl rfl ?_
  refine R_iadd (i := 12) rfl ?_
  refine R_iconst (i := 13) rfl ?_
  refine R_isub (i := 14) rfl ?_
  exact R_iret (i := 15) rfl kk
set_option maxRecDepth 100000 in
set_option maxHeartbeats 4000000 in
theorem f32_b41_l {d N : Nat} {x3 : Int32} {x5 : Int32} {x6 : Int32} {x7 : Int32} {h : Hp} {Q : Option Value → Hp → Prop} {j : Nat} {s' : Int32 × Int32 × Hp} (hf : f32_b41 N x3 x5 x6 x7 h = some (j, s')) (hW : WF 0 h) (hd : 7 ≤ d) (k0 : j = 0 → WF 0 s'.2.2 → R 0 d 32 15 [some (.ref 61), none, none, some (.int x3), none, some (.int s'.1), some (.int x6), some (.int s'.2.1)] [] s'.2.2 Q) (k1 : j = 1 → WF 0 s'.2.2 → R 0 d 32 43 [some (.ref 61), none, none, some (.int x3), none, some (.int s'.1), some (.int x6), none] [] s'.2.2 Q) : R 0 d 32 41 [some (.ref 61), none, none, some (.int x3), none, some (.int x5), some (.int x6), some (.int x7)] [] h Q := by
  unfold f32_b41 at hf
  obtain ⟨v6, e6⟩ : ∃ z : Int32, z = (x7 + (1 : Int32)) := ⟨_, rfl⟩
  replace hf := bnd_some e6 hf
  refine R_iinc [some (.ref 61), none, none, some (.int x3), none, some (.int x5), some (.int x6), some (.int v6)] (i := 41) rfl rfl (by rw [← e6]; rfl) ?_
  refine R_goto (i := 42) rfl ?_
  obtain ⟨hj, hs⟩ := Prod.mk.inj (Option.some.inj hf)
  subst hj
  subst hs
  exact k0 rfl hW
set_option maxRecDepth 100000 in
set_option maxHeartbeats 4000000 in
theorem f32_l15_l {d N : Nat} {x3 : Int32} {x6 : Int32} {s : Int32 × Int32 × Hp} {Q : Option Value → Hp → Prop} {j : Nat} {s' : Int32 × Int32 × Hp} (hf : f32_l15 N x3 x6 s = some (j, s')) (hW : WF 0 s.2.2) (hd : 7 ≤ d) (k0 : j = 0 → WF 0 s'.2.2 → R 0 d 32 15 [some (.ref 61), none, none, some (.int x3), none, some (.int s'.1), some (.int x6), some (.int s'.2.1)] [] s'.2.2 Q) (k1 : j = 1 → WF 0 s'.2.2 → R 0 d 32 43 [some (.ref 61), none, none, some (.int x3), none, some (.int s'.1), some (.int x6), none] [] s'.2.2 Q) : R 0 d 32 15 [some (.ref 61), none, none, some (.int x3), none, some (.int s.1), some (.int x6), some (.int s.2.1)] [] s.2.2 Q := by
  obtain ⟨d, rfl⟩ : ∃ z, d = z + 1 := ⟨d - 1, by omega⟩
  unfold f32_l15 at hf
  refine R_iload (i := 15) rfl rfl ?_
  refine R_iconst (i := 16) rfl ?_
  refine R_icmpge (i := 17) rfl (fun c3 => ?_) (fun c3 => ?_)
  · rw [if_pos c3] at hf
    obtain ⟨hj, hs⟩ := Prod.mk.inj (Option.some.inj hf)
    subst hj
    subst hs
    refine R_weak [some (.ref 61), none, none, some (.int x3), none, some (.int s.1), some (.int x6), none] ⟨Or.inr rfl, Or.inr rfl, Or.inr rfl, Or.inr rfl, Or.inr rfl, Or.inr rfl, Or.inr rfl, Or.inl rfl, trivial⟩ ?_
    exact k1 rfl hW
  · rw [if_neg c3] at hf
    refine R_aload_n (i := 18) rfl rfl ?_
    refine R_getF hW (i := 19) rfl rfl (Nat.le_of_ble_eq_true rfl) rfl ?_
    refine R_getF hW (i := 20) rfl rfl (Nat.le_of_ble_eq_true rfl) rfl ?_
    refine R_iload_n (i := 21) rfl rfl ?_
    have g4 := gd_some hf
    clear hf
    obtain ⟨g4, hf⟩ := g4
    refine R_iaload hW (i := 22) rfl rfl g4 ?_
    refine R_iload (i := 23) rfl rfl ?_
    refine R_call (vs := [.int (hI s.2.2 43 (ix x3)), .int s.2.1]) (st' := []) (i := 24) rfl (by decide) (by decide) rfl rfl (Nat.le_of_ble_eq_true rfl) rfl (f123_l (hh rfl hd) ?_)
    refine R_ifeq (i := 25) rfl (fun c5 => ?_) (fun c5 => ?_)
    · rw [if_pos c5] at hf
      exact f32_b41_l hf hW hd k0 k1
    · rw [if_neg c5] at hf
      refine R_iload (i := 26) rfl rfl ?_
      refine R_iconst (i := 27) rfl ?_
      refine R_iconst (i := 28) rfl ?_
      refine R_iload (i := 29) rfl rfl ?_
      refine R_imul (i := 30) rfl ?_
      refine R_aload_n (i := 31) rfl rfl ?_
      refine R_iload (i := 32) rfl rfl ?_
      refine R_iload (i := 33) rfl rfl ?_
      have zq7 := bind_some hf
      clear hf
      obtain ⟨q7, eq7, hf⟩ := zq7
      refine R_callV (vs := [.int x6, .int s.2.1]) (st' := [.int ((4 : Int32) * x6), .int (1 : Int32), .int s.1]) hW (i := 34) rfl rfl rfl (Nat.le_of_ble_eq_true rfl) rfl (Nat.le_of_ble_eq_true rfl) rfl (f34_l eq7 hW (hh rfl hd) (fun hW7 => ?_))
      refine R_iadd (i := 35) rfl ?_
      refine R_iconst (i := 36) rfl ?_
      refine R_isub (i := 37) rfl ?_
      refine R_ishl (i := 38) rfl ?_
      refine R_ior (i := 39) rfl ?_
      refine R_topi (fun v8 e8 => ?_)
      replace hf := bnd_some e8 hf
      refine R_istore [some (.ref 61), none, none, some (.int x3), none, some (.int v8), some (.int x6), some (.int s.2.1)] (i := 40) rfl rfl ?_
      exact f32_b41_l hf hW7 hd k0 k1
set_option maxRecDepth 100000 in
set_option maxHeartbeats 4000000 in
theorem f32_l10_l {d N : Nat} {x3 : Int32} {s : Int32 × Int32 × Hp} {Q : Option Value → Hp → Prop} {j : Nat} {s' : Int32 × Int32 × Hp} (hf : f32_l10 N x3 s = some (j, s')) (hW : WF 0 s.2.2) (hd : 7 ≤ d) (k0 : j = 0 → WF 0 s'.2.2 → R 0 d 32 10 [some (.ref 61), none, none, some (.int x3), none, some (.int s'.1), some (.int s'.2.1), none] [] s'.2.2 Q) (k1 : j = 1 → WF 0 s'.2.2 → R 0 d 32 45 [none, none, none, none, none, some (.int s'.1), none, none] [] s'.2.2 Q) : R 0 d 32 10 [some (.ref 61), none, none, some (.int x3), none, some (.int s.1), some (.int s.2.1), none] [] s.2.2 Q := by
  unfold f32_l10 at hf
  refine R_iload (i := 10) rfl rfl ?_
  refine R_iconst (i := 11) rfl ?_
  refine R_icmpge (i := 12) rfl (fun c2 => ?_) (fun c2 => ?_)
  · rw [if_pos c2] at hf
    obtain ⟨hj, hs⟩ := Prod.mk.inj (Option.some.inj hf)
    subst hj
    subst hs
    refine R_weak [none, none, none, none, none, some (.int s.1), none, none] ⟨Or.inl rfl, Or.inr rfl, Or.inr rfl, Or.inl rfl, Or.inr rfl, Or.inr rfl, Or.inl rfl, Or.inr rfl, trivial⟩ ?_
    exact k1 rfl hW
  · rw [if_neg c2] at hf
    refine R_iconst (i := 13) rfl ?_
    refine R_istore [some (.ref 61), none, none, some (.int x3), none, some (.int s.1), some (.int s.2.1), some (.int (0 : Int32))] (i := 14) rfl rfl ?_
    have zq9 := bind_some hf
    clear hf
    obtain ⟨q9, eq9, hf⟩ := zq9
    refine lp_link (P := fun u15 => WF 0 u15.2.2 → R 0 d 32 15 [some (.ref 61), none, none, some (.int x3), none, some (.int u15.1), some (.int s.2.1), some (.int u15.2.1)] [] u15.2.2 Q) (E := fun e u15 => WF 0 u15.2.2 → R 0 d 32 43 [some (.ref 61), none, none, some (.int x3), none, some (.int u15.1), some (.int s.2.1), none] [] u15.2.2 Q) (fun s j s' hb k0 ke hWs => f32_l15_l hb hWs hd k0 (fun z y => ke 0 z y)) N (s.1, (0 : Int32), s.2.2) q9.1 q9.2 eq9 ?_ hW
    intro hW9
    obtain ⟨v10, e10⟩ : ∃ z : Int32, z = (s.2.1 + (1 : Int32)) := ⟨_, rfl⟩
    replace hf := bnd_some e10 hf
    refine R_iinc [some (.ref 61), none, none, some (.int x3), none, some (.int q9.2.1), some (.int v10), none] (i := 43) rfl rfl (by rw [← e10]; rfl) ?_
    refine R_goto (i := 44) rfl ?_
    obtain ⟨hj, hs⟩ := Prod.mk.inj (Option.some.inj hf)
    subst hj
    subst hs
    exact k0 rfl hW9
set_option maxRecDepth 100000 in
set_option maxHeartbeats 4000000 in
theorem f32_l {d N : Nat} {p1 : Int32} {p2 : Int32} {p3 : Int32} {p4 : Int32} {h : Hp} {Q : Option Value → Hp → Prop} {q : Int32 × Hp} (hf : f32 N p1 p2 p3 p4 h = some q) (hW : WF 0 h) (hd : 7 ≤ d) (kk : WF 0 q.2 → Q (some (.int q.1)) q.2) : R 0 d 32 0 [some (.ref 61), some (.int p1), some (.int p2), some (.int p3), some (.int p4), none, none, none] [] h Q := by
  obtain ⟨d, rfl⟩ : ∃ z, d = z + 1 := ⟨d - 1, by omega⟩
  unfold f32 at hf
  refine R_aload_n (i := 0) rfl rfl ?_
  refine R_iload_n (i := 1) rfl rfl ?_
  refine R_iload_n (i := 2) rfl rfl ?_
  refine R_iload_n (i := 3) rfl rfl ?_
  refine R_iload (i := 4) rfl rfl ?_
  have zq1 := bind_some hf
  clear hf
  obtain ⟨q1, eq1, hf⟩ := zq1
  refine R_callV (vs := [.int p1, .int p2, .int p3, .int p4]) (st' := []) hW (i := 5) rfl rfl rfl (Nat.le_of_ble_eq_true rfl) rfl (Nat.le_of_ble_eq_true rfl) rfl (f33_l eq1 hW (hh rfl hd) (fun hW1 => ?_))
  refine R_iconst (i := 6) rfl ?_
  refine R_istore [some (.ref 61), some (.int p1), some (.int p2), some (.int p3), some (.int p4), some (.int (0 : Int32)), none, none] (i := 7) rfl rfl ?_
  refine R_iconst (i := 8) rfl ?_
  refine R_istore [some (.ref 61), some (.int p1), some (.int p2), some (.int p3), some (.int p4), some (.int (0 : Int32)), some (.int (0 : Int32)), none] (i := 9) rfl rfl ?_
  refine R_weak [some (.ref 61), none, none, some (.int p3), none, some (.int (0 : Int32)), some (.int (0 : Int32)), none] ⟨Or.inr rfl, Or.inl rfl, Or.inl rfl, Or.inr rfl, Or.inl rfl, Or.inr rfl, Or.inr rfl, Or.inr rfl, trivial⟩ ?_
  have zq11 := bind_some hf
  clear hf
  obtain ⟨q11, eq11, hf⟩ := zq11
  refine lp_link (P := fun u10 => WF 0 u10.2.2 → R 0 (d + 1) 32 10 [some (.ref 61), none, none, some (.int p3), none, some (.int u10.1), some (.int u10.2.1), none] [] u10.2.2 Q) (E := fun e u10 => WF 0 u10.2.2 → R 0 (d + 1) 32 45 [none, none, none, none, none, some (.int u10.1), none, none] [] u10.2.2 Q) (fun s j s' hb k0 ke hWs => f32_l10_l hb hWs hd k0 (fun z y => ke 0 z y)) N ((0 : Int32), (0 : Int32), q1) q11.1 q11.2 eq11 ?_ hW1
  intro hW11
  refine R_iload (i := 45) rfl rfl ?_
  have hz := Option.some.inj hf
  subst hz
  exact R_iret (i := 46) rfl (kk hW11)
set_option maxRecDepth 100000 in
set_option maxHeartbeats 4000000 in
theorem f23_b115_l {d N : Nat} {x1 : Int32} {x2 : Int32} {x3 : Int32} {h : Hp} {Q : Option Value → Hp → Prop} {j : Nat} {s' : Int32 × Hp} (hf : f23_b115 N x1 x2 x3 h = some (j, s')) (hW : WF 0 h) (hd : 8 ≤ d) (k0 : j = 0 → WF 0 s'.2 → R 0 d 23 7 [some (.ref 64), some (.int x1), some (.int x2), some (.int s'.1), none, none, none, none, none, none] [] s'.2 Q) (k1 : j = 1 → WF 0 s'.2 → R 0 d 23 117 [none, none, none, none, none, none, none, none, none, none] [] s'.2 Q) : R 0 d 23 115 [some (.ref 64), some (.int x1), some (.int x2), some (.int x3), none, none, none, none, none, none] [] h Q := by
  unfold f23_b115 at hf
  obtain ⟨v14, e14⟩ : ∃ z : Int32, z = (x3 + (1 : Int32)) := ⟨_, rfl⟩
  replace hf := bnd_some e14 hf
  refine R_iinc [some (.ref 64), some (.int x1), some (.int x2), some (.int v14), none, none, none, none, none, none] (i := 115) rfl rfl (by rw [← e14]; rfl) ?_
  refine R_goto (i := 116) rfl ?_
  obtain ⟨hj, hs⟩ := Prod.mk.inj (Option.some.inj hf)
  subst hj
  subst hs
  exact k0 rfl hW
set_option maxRecDepth 100000 in
set_option maxHeartbeats 4000000 in
theorem f23_b76_l {d N : Nat} {x1 : Int32} {x2 : Int32} {x3 : Int32} {x7 : Int32} {t0 : Int32} {h : Hp} {Q : Option Value → Hp → Prop} {j : Nat} {s' : Int32 × Hp} (hf : f23_b76 N x1 x2 x3 x7 t0 h = some (j, s')) (hW : WF 0 h) (hd : 8 ≤ d) (k0 : j = 0 → WF 0 s'.2 → R 0 d 23 7 [some (.ref 64), some (.int x1), some (.int x2), some (.int s'.1), none, none, none, none, none, none] [] s'.2 Q) (k1 : j = 1 → WF 0 s'.2 → R 0 d 23 117 [none, none, none, none, none, none, none, none, none, none] [] s'.2 Q) : R 0 d 23 76 [some (.ref 64), some (.int x1), some (.int x2), some (.int x3), none, none, none, some (.int x7), none, none] [.int t0] h Q := by
  unfold f23_b76 at hf
  refine R_istore [some (.ref 64), some (.int x1), some (.int x2), some (.int x3), none, none, none, some (.int x7), none, some (.int t0)] (i := 76) rfl rfl ?_
  refine R_aload_n (i := 77) rfl rfl ?_
  refine R_getF hW (i := 78) rfl rfl (Nat.le_of_ble_eq_true rfl) rfl ?_
  refine R_iload (i := 79) rfl rfl ?_
  refine R_iload (i := 80) rfl rfl ?_
  have g17 := gd_some hf
  clear hf
  obtain ⟨g17, hf⟩ := g17
  refine R_iastore hW (i := 81) rfl rfl g17 (hg rfl hd) (fun h18 eh18 => ?_)
  replace hf := bnd_some eh18 hf
  have hW18 : WF 0 h18 := by rw [eh18]; exact hW
  refine R_aload_n (i := 82) rfl rfl ?_
  refine R_getF hW18 (i := 83) rfl rfl (Nat.le_of_ble_eq_true rfl) rfl ?_
  refine R_iload (i := 84) rfl rfl ?_
  refine R_gets (i := 85) rfl ?_
  refine R_iload (i := 86) rfl rfl ?_
  refine R_bipush (i := 87) rfl ?_
  refine R_iand (i := 88) rfl ?_
  have g19 := gd_some hf
  clear hf
  obtain ⟨g19, hf⟩ := g19
  refine R_waload (i := 89) rfl g19 ?_
  refine R_gets (i := 90) rfl ?_
  refine R_iload (i := 91) rfl rfl ?_
  refine R_iconst (i := 92) rfl ?_
  refine R_ishr (i := 93) rfl ?_
  refine R_bipush (i := 94) rfl ?_
  refine R_iand (i := 95) rfl ?_
  have g20 := gd_some hf
  clear hf
  obtain ⟨g20, hf⟩ := g20
  refine R_waload (i := 96) rfl g20 ?_
  refine R_ior (i := 97) rfl ?_
  refine R_gets (i := 98) rfl ?_
  refine R_iload (i := 99) rfl rfl ?_
  refine R_bipush (i := 100) rfl ?_
  refine R_ishr (i := 101) rfl ?_
  refine R_bipush (i := 102) rfl ?_
  refine R_iand (i := 103) rfl ?_
  have g21 := gd_some hf
  clear hf
  obtain ⟨g21, hf⟩ := g21
  refine R_waload (i := 104) rfl g21 ?_
  refine R_ior (i := 105) rfl ?_
  refine R_gets (i := 106) rfl ?_
  refine R_iload (i := 107) rfl rfl ?_
  refine R_bipush (i := 108) rfl ?_
  refine R_ishr (i := 109) rfl ?_
  refine R_bipush (i := 110) rfl ?_
  refine R_iand (i := 111) rfl ?_
  have g22 := gd_some hf
  clear hf
  obtain ⟨g22, hf⟩ := g22
  refine R_waload (i := 112) rfl g22 ?_
  refine R_ior (i := 113) rfl ?_
  have g23 := gd_some hf
  clear hf
  obtain ⟨g23, hf⟩ := g23
  refine R_iastore hW18 (i := 114) rfl rfl g23 (hg rfl hd) (fun h24 eh24 => ?_)
  replace hf := bnd_some eh24 hf
  have hW24 : WF 0 h24 := by rw [eh24]; exact hW18
  refine R_weak [some (.ref 64), some (.int x1), some (.int x2), some (.int x3), none, none, none, none, none, none] ⟨Or.inr rfl, Or.inr rfl, Or.inr rfl, Or.inr rfl, Or.inr rfl, Or.inr rfl, Or.inr rfl, Or.inl rfl, Or.inr rfl, Or.inl rfl, trivial⟩ ?_
  exact f23_b115_l hf hW24 hd k0 k1
set_option maxRecDepth 100000 in
set_option maxHeartbeats 4000000 in
theorem f23_b54_l {d N : Nat} {x1 : Int32} {x2 : Int32} {x3 : Int32} {x4 : Int32} {x5 : Int32} {x6 : Int32} {x7 : Int32} {t0 : Int32} {t1 : Int32} {t2 : Int32} {t3 : Int32} {h : Hp} {Q : Option Value → Hp → Prop} {j : Nat} {s' : Int32 × Hp} (hf : f23_b54 N x1 x2 x3 x4 x5 x6 x7 t0 t1 t2 t3 h = some (j, s')) (hW : WF 0 h) (hd : 8 ≤ d) (k0 : j = 0 → WF 0 s'.2 → R 0 d 23 7 [some (.ref 64), some (.int x1), some (.int x2), some (.int s'.1), none, none, none, none, none, none] [] s'.2 Q) (k1 : j = 1 → WF 0 s'.2 → R 0 d 23 117 [none, none, none, none, none, none, none, none, none, none] [] s'.2 Q) : R 0 d 23 54 [some (.ref 64), some (.int x1), some (.int x2), some (.int x3), some (.int x4), some (.int x5), some (.int x6), some (.int x7), none, none] [.int t0, .int t1, .int t2, .int t3] h Q := by
  obtain ⟨d, rfl⟩ : ∃ z, d = z + 1 := ⟨d - 1, by omega⟩
  unfold f23_b54 at hf
  refine R_call (vs := [.int t3, .int t2, .int t1, .int t0]) (st' := []) (i := 54) rfl (by decide) (by decide) rfl rfl (Nat.le_of_ble_eq_true rfl) rfl (f136_l (hh rfl hd) ?_)
  refine R_topi (fun v12 e12 => ?_)
  replace hf := bnd_some e12 hf
  refine R_istore [some (.ref 64), some (.int x1), some (.int x2), some (.int x3), some (.int x4), some (.int x5), some (.int x6), some (.int x7), some (.int v12), none] (i := 55) rfl rfl ?_
  refine R_iload (i := 56) rfl rfl ?_
  refine R_aload_n (i := 57) rfl rfl ?_
  refine R_getF hW (i := 58) rfl rfl (Nat.le_of_ble_eq_true rfl) rfl ?_
  refine R_getI hW (i := 59) rfl rfl (Nat.le_of_ble_eq_true rfl) ?_
  refine R_icmpge (i := 60) rfl (fun c13 => ?_) (fun c13 => ?_)
  · rw [if_pos c13] at hf
    refine R_weak [some (.ref 64), some (.int x1), some (.int x2), some (.int x3), none, none, none, none, none, none] ⟨Or.inr rfl, Or.inr rfl, Or.inr rfl, Or.inr rfl, Or.inl rfl, Or.inl rfl, Or.inl rfl, Or.inl rfl, Or.inl rfl, Or.inr rfl, trivial⟩ ?_
    exact f23_b115_l hf hW hd k0 k1
  · rw [if_neg c13] at hf
    refine R_iload (i := 61) rfl rfl ?_
    refine R_iload (i := 62) rfl rfl ?_
    refine R_icmpge (i := 63) rfl (fun c15 => ?_) (fun c15 => ?_)
    · rw [if_pos c15] at hf
      refine R_aload_n (i := 69) rfl rfl ?_
      refine R_getF hW (i := 70) rfl rfl (Nat.le_of_ble_eq_true rfl) rfl ?_
      refine R_iload (i := 71) rfl rfl ?_
      refine R_iload (i := 72) rfl rfl ?_
      refine R_iload_n (i := 73) rfl rfl ?_
      refine R_iload (i := 74) rfl rfl ?_
      have zq16 := bind_some hf
      clear hf
      obtain ⟨q16, eq16, hf⟩ := zq16
      refine R_callV (vs := [.int x4, .int x5, .int x1, .int x6]) (st' := []) hW (i := 75) rfl rfl rfl (Nat.le_of_ble_eq_true rfl) rfl (Nat.le_of_ble_eq_true rfl) rfl (f32_l eq16 hW (hh rfl hd) (fun hW16 => ?_))
      refine R_weak [some (.ref 64), some (.int x1), some (.int x2), some (.int x3), none, none, none, some (.int x7), none, none] ⟨Or.inr rfl, Or.inr rfl, Or.inr rfl, Or.inr rfl, Or.inl rfl, Or.inl rfl, Or.inl rfl, Or.inr rfl, Or.inl rfl, Or.inr rfl, trivial⟩ ?_
      exact f23_b76_l hf hW16 hd k0 k1
    · rw [if_neg c15] at hf
      refine R_aload_n (i := 64) rfl rfl ?_
      refine R_getF hW (i := 65) rfl rfl (Nat.le_of_ble_eq_true rfl) rfl ?_
      refine R_iload (i := 66) rfl rfl ?_
      have g25 := gd_some hf
      clear hf
      obtain ⟨g25, hf⟩ := g25
      refine R_iaload hW (i := 67) rfl rfl g25 ?_
      refine R_goto (i := 68) rfl ?_
      refine R_weak [some (.ref 64), some (.int x1), some (.int x2), some (.int x3), none, none, none, some (.int x7), none, none] ⟨Or.inr rfl, Or.inr rfl, Or.inr rfl, Or.inr rfl, Or.inl rfl, Or.inl rfl, Or.inl rfl, Or.inr rfl, Or.inl rfl, Or.inr rfl, trivial⟩ ?_
      exact f23_b76_l hf hW hd k0 k1
set_option maxRecDepth 100000 in
set_option maxHeartbeats 4000000 in
theorem f23_b46_l {d N : Nat} {x1 : Int32} {x2 : Int32} {x3 : Int32} {x4 : Int32} {x5 : Int32} {x6 : Int32} {x7 : Int32} {t0 : Int32} {t1 : Int32} {h : Hp} {Q : Option Value → Hp → Prop} {j : Nat} {s' : Int32 × Hp} (hf : f23_b46 N x1 x2 x3 x4 x5 x6 x7 t0 t1 h = some (j, s')) (hW : WF 0 h) (hd : 8 ≤ d) (k0 : j = 0 → WF 0 s'.2 → R 0 d 23 7 [some (.ref 64), some (.int x1), some (.int x2), some (.int s'.1), none, none, none, none, none, none] [] s'.2 Q) (k1 : j = 1 → WF 0 s'.2 → R 0 d 23 117 [none, none, none, none, none, none, none, none, none, none] [] s'.2 Q) : R 0 d 23 46 [some (.ref 64), some (.int x1), some (.int x2), some (.int x3), some (.int x4), some (.int x5), some (.int x6), some (.int x7), none, none] [.int t0, .int t1] h Q := by
  obtain ⟨d, rfl⟩ : ∃ z, d = z + 1 := ⟨d - 1, by omega⟩
  unfold f23_b46 at hf
  refine R_iload_n (i := 46) rfl rfl ?_
  refine R_iload_n (i := 47) rfl rfl ?_
  refine R_iconst (i := 48) rfl ?_
  refine R_call (vs := [.int x2, .int (4 : Int32)]) (st' := [.int x1, .int t0, .int t1]) (i := 49) rfl (by decide) (by decide) rfl rfl (Nat.le_of_ble_eq_true rfl) rfl (f123_l (hh rfl hd) ?_)
  refine R_ifeq (i := 50) rfl (fun c11 => ?_) (fun c11 => ?_)
  · rw [if_pos c11] at hf
    refine R_iconst (i := 53) rfl ?_
    exact f23_b54_l hf hW hd k0 k1
  · rw [if_neg c11] at hf
    refine R_iload (i := 51) rfl rfl ?_
    refine R_goto (i := 52) rfl ?_
    exact f23_b54_l hf hW hd k0 k1
set_option maxRecDepth 100000 in
set_option maxHeartbeats 4000000 in
theorem f23_b39_l {d N : Nat} {x1 : Int32} {x2 : Int32} {x3 : Int32} {x4 : Int32} {x5 : Int32} {x6 : Int32} {x7 : Int32} {t0 : Int32} {h : Hp} {Q : Option Value → Hp → Prop} {j : Nat} {s' : Int32 × Hp} (hf : f23_b39 N x1 x2 x3 x4 x5 x6 x7 t0 h = some (j, s')) (hW : WF 0 h) (hd : 8 ≤ d) (k0 : j = 0 → WF 0 s'.2 → R 0 d 23 7 [some (.ref 64), some (.int x1), some (.int x2), some (.int s'.1), none, none, none, none, none, none] [] s'.2 Q) (k1 : j = 1 → WF 0 s'.2 → R 0 d 23 117 [none, none, none, none, none, none, none, none, none, none] [] s'.2 Q) : R 0 d 23 39 [some (.ref 64), some (.int x1), some (.int x2), some (.int x3), some (.int x4), some (.int x5), some (.int x6), some (.int x7), none, none] [.int t0] h Q := by
  obtain ⟨d, rfl⟩ : ∃ z, d = z + 1 := ⟨d - 1, by omega⟩
  unfold f23_b39 at hf
  refine R_iload_n (i := 39) rfl rfl ?_
  refine R_iconst (i := 40) rfl ?_
  refine R_call (vs := [.int x2, .int (5 : Int32)]) (st' := [.int t0]) (i := 41) rfl (by decide) (by decide) rfl rfl (Nat.le_of_ble_eq_true rfl) rfl (f123_l (hh rfl hd) ?_)
  refine R_ifeq (i := 42) rfl (fun c10 => ?_) (fun c10 => ?_)
  · rw [if_pos c10] at hf
    refine R_iconst (i := 45) rfl ?_
    exact f23_b46_l hf hW hd k0 k1
  · rw [if_neg c10] at hf
    refine R_iload (i := 43) rfl rfl ?_
    refine R_goto (i := 44) rfl ?_
    exact f23_b46_l hf hW hd k0 k1
set_option maxRecDepth 100000 in
set_option maxHeartbeats 4000000 in
theorem f23_l7_l {d N : Nat} {x1 : Int32} {x2 : Int32} {s : Int32 × Hp} {Q : Option Value → Hp → Prop} {j : Nat} {s' : Int32 × Hp} (hf : f23_l7 N x1 x2 s = some (j, s')) (hW : WF 0 s.2) (hd : 8 ≤ d) (k0 : j = 0 → WF 0 s'.2 → R 0 d 23 7 [some (.ref 64), some (.int x1), some (.int x2), some (.int s'.1), none, none, none, none, none, none] [] s'.2 Q) (k1 : j = 1 → WF 0 s'.2 → R 0 d 23 117 [none, none, none, none, none, none, none, none, none, none] [] s'.2 Q) : R 0 d 23 7 [some (.ref 64), some (.int x1), some (.int x2), some (.int s.1), none, none, none, none, none, none] [] s.2 Q := by
  obtain ⟨d, rfl⟩ : ∃ z, d = z + 1 := ⟨d - 1, by omega⟩
  unfold f23_l7 at hf
  refine R_iload_n (i := 7) rfl rfl ?_
  refine R_sipush (i := 8) rfl ?_
  refine R_icmpge (i := 9) rfl (fun c4 => ?_) (fun c4 => ?_)
  · rw [if_pos c4] at hf
    obtain ⟨hj, hs⟩ := Prod.mk.inj (Option.some.inj hf)
    subst hj
    subst hs
    refine R_weak [none, none, none, none, none, none, none, none, none, none] ⟨Or.inl rfl, Or.inl rfl, Or.inl rfl, Or.inl rfl, Or.inr rfl, Or.inr rfl, Or.inr rfl, Or.inr rfl, Or.inr rfl, Or.inr rfl, trivial⟩ ?_
    exact k1 rfl hW
  · rw [if_neg c4] at hf
    refine R_iload_n (i := 10) rfl rfl ?_
    refine R_bipush (i := 11) rfl ?_
    refine R_idiv (i := 12) rfl (by decide) ?_
    refine R_topi (fun v5 e5 => ?_)
    replace hf := bnd_some e5 hf
    refine R_istore [some (.ref 64), some (.int x1), some (.int x2), some (.int s.1), some (.int v5), none, none, none, none, none] (i := 13) rfl rfl ?_
    refine R_iload_n (i := 14) rfl rfl ?_
    refine R_iconst (i := 15) rfl ?_
    refine R_idiv (i := 16) rfl (by decide) ?_
    refine R_bipush (i := 17) rfl ?_
    refine R_irem (i := 18) rfl (by decide) ?_
    refine R_topi (fun v6 e6 => ?_)
    replace hf := bnd_some e6 hf
    refine R_istore [some (.ref 64), some (.int x1), some (.int x2), some (.int s.1), some (.int v5), some (.int v6), none, none, none, none] (i := 19) rfl rfl ?_
    refine R_iload_n (i := 20) rfl rfl ?_
    refine R_iconst (i := 21) rfl ?_
    refine R_irem (i := 22) rfl (by decide) ?_
    refine R_iconst (i := 23) rfl ?_
    refine R_iadd (i := 24) rfl ?_
    refine R_topi (fun v7 e7 => ?_)
    replace hf := bnd_some e7 hf
    refine R_istore [some (.ref 64), some (.int x1), some (.int x2), some (.int s.1), some (.int v5), some (.int v6), some (.int v7), none, none, none] (i := 25) rfl rfl ?_
    refine R_iload (i := 26) rfl rfl ?_
    refine R_iload (i := 27) rfl rfl ?_
    refine R_iload_n (i := 28) rfl rfl ?_
    refine R_iload (i := 29) rfl rfl ?_
    refine R_call (vs := [.int v5, .int v6, .int x1, .int v7]) (st' := []) (i := 30) rfl (by decide) (by decide) rfl rfl (Nat.le_of_ble_eq_true rfl) rfl (f136_l (hh rfl hd) ?_)
    refine R_topi (fun v8 e8 => ?_)
    replace hf := bnd_some e8 hf
    refine R_istore [some (.ref 64), some (.int x1), some (.int x2), some (.int s.1), some (.int v5), some (.int v6), some (.int v7), some (.int v8), none, none] (i := 31) rfl rfl ?_
    refine R_iload_n (i := 32) rfl rfl ?_
    refine R_bipush (i := 33) rfl ?_
    refine R_call (vs := [.int x2, .int (6 : Int32)]) (st' := []) (i := 34) rfl (by decide) (by decide) rfl rfl (Nat.le_of_ble_eq_true rfl) rfl (f123_l (hh rfl hd) ?_)
    refine R_ifeq (i := 35) rfl (fun c9 => ?_) (fun c9 => ?_)
    · rw [if_pos c9] at hf
      refine R_iconst (i := 38) rfl ?_
      exact f23_b39_l hf hW hd k0 k1
    · rw [if_neg c9] at hf
      refine R_iload (i := 36) rfl rfl ?_
      refine R_goto (i := 37) rfl ?_
      exact f23_b39_l hf hW hd k0 k1
set_option maxRecDepth 100000 in
set_option maxHeartbeats 4000000 in
theorem f23_l {d N : Nat} {p1 : Int32} {h : Hp} {Q : Option Value → Hp → Prop} {q : Hp} (hf : f23 N p1 h = some q) (hW : WF 0 h) (hd : 8 ≤ d) (kk : WF 0 q → Q (none) q) : R 0 d 23 0 [some (.ref 64), some (.int p1), none, none, none, none, none, none, none, none] [] h Q := by
  unfold f23 at hf
  refine R_aload_n (i := 0) rfl rfl ?_
  refine R_getF hW (i := 1) rfl rfl (Nat.le_of_ble_eq_true rfl) rfl ?_
  have zr1 := bind_some hf
  clear hf
  obtain ⟨r1, er1, hf⟩ := zr1
  refine R_getR hW (i := 2) rfl rfl (Nat.le_of_ble_eq_true rfl) er1 ?_
  have g2 := gd_some hf
  clear hf
  obtain ⟨g2, hf⟩ := g2
  refine R_getI hW (i := 3) rfl g2 (Nat.le_of_ble_eq_true rfl) ?_
  refine R_topi (fun v3 e3 => ?_)
  replace hf := bnd_some e3 hf
  refine R_istore_n [some (.ref 64), some (.int p1), some (.int v3), none, none, none, none, none, none, none] (i := 4) rfl rfl ?_
  refine R_iconst (i := 5) rfl ?_
  refine R_istore_n [some (.ref 64), some (.int p1), some (.int v3), some (.int (0 : Int32)), none, none, none, none, none, none] (i := 6) rfl rfl ?_
  have zq26 := bind_some hf
  clear hf
  obtain ⟨q26, eq26, hf⟩ := zq26
  refine lp_link (P := fun u7 => WF 0 u7.2 → R 0 d 23 7 [some (.ref 64), some (.int p1), some (.int v3), some (.int u7.1), none, none, none, none, none, none] [] u7.2 Q) (E := fun e u7 => WF 0 u7.2 → R 0 d 23 117 [none, none, none, none, none, none, none, none, none, none] [] u7.2 Q) (fun s j s' hb k0 ke hWs => f23_l7_l hb hWs hd k0 (fun z y => ke 0 z y)) N ((0 : Int32), h) q26.1 q26.2 eq26 ?_ hW
  intro hW26
  have hz := Option.some.inj hf
  subst hz
  exact R_vret (i := 117) rfl (kk hW26)
set_option maxRecDepth 100000 in
set_option maxHeartbeats 4000000 in
theorem f4_b46_l {d N : Nat} {x1 : Int32} {x2 : Int32} {x3 : Int32} {h : Hp} {Q : Option Value → Hp → Prop} {j : Nat} {s' : Int32 × Hp} (hf : f4_b46 N x1 x2 x3 h = some (j, s')) (hW : WF 0 h) (hd : 9 ≤ d) (k0 : j = 0 → WF 0 s'.2 → R 0 d 4 2 [some (.ref 64), some (.int x1), some (.int x2), some (.int s'.1), none] [] s'.2 Q) (k1 : j = 1 → WF 0 s'.2 → R 0 d 4 48 [none, none, none, none, none] [] s'.2 Q) : R 0 d 4 46 [some (.ref 64), some (.int x1), some (.int x2), some (.int x3), none] [] h Q := by
  unfold f4_b46 at hf
  obtain ⟨v6, e6⟩ : ∃ z : Int32, z = (x3 + (1 : Int32)) := ⟨_, rfl⟩
  replace hf := bnd_some e6 hf
  refine R_iinc [some (.ref 64), some (.int x1), some (.int x2), some (.int v6), none] (i := 46) rfl rfl (by rw [← e6]; rfl) ?_
  refine R_goto (i := 47) rfl ?_
  obtain ⟨hj, hs⟩ := Prod.mk.inj (Option.some.inj hf)
  subst hj
  subst hs
  exact k0 rfl hW
set_option maxRecDepth 100000 in
set_option maxHeartbeats 4000000 in
theorem f4_b30_l {d N : Nat} {x1 : Int32} {x2 : Int32} {x3 : Int32} {x4 : Int32} {h : Hp} {Q : Option Value → Hp → Prop} {j : Nat} {s' : Int32 × Hp} (hf : f4_b30 N x1 x2 x3 x4 h = some (j, s')) (hW : WF 0 h) (hd : 9 ≤ d) (k0 : j = 0 → WF 0 s'.2 → R 0 d 4 2 [some (.ref 64), some (.int x1), some (.int x2), some (.int s'.1), none] [] s'.2 Q) (k1 : j = 1 → WF 0 s'.2 → R 0 d 4 48 [none, none, none, none, none] [] s'.2 Q) : R 0 d 4 30 [some (.ref 64), some (.int x1), some (.int x2), some (.int x3), some (.int x4)] [] h Q := by
  obtain ⟨d, rfl⟩ : ∃ z, d = z + 1 := ⟨d - 1, by omega⟩
  unfold f4_b30 at hf
  refine R_aload_n (i := 30) rfl rfl ?_
  refine R_getI hW (i := 31) rfl rfl (Nat.le_of_ble_eq_true rfl) ?_
  refine R_iload (i := 32) rfl rfl ?_
  refine R_call (vs := [.int (hI h 64 11), .int x4]) (st' := []) (i := 33) rfl (by decide) (by decide) rfl rfl (Nat.le_of_ble_eq_true rfl) rfl (f123_l (hh rfl hd) ?_)
  refine R_ifne (i := 34) rfl (fun c5 => ?_) (fun c5 => ?_)
  · rw [if_neg c5] at hf
    refine R_weak [some (.ref 64), some (.int x1), some (.int x2), some (.int x3), none] ⟨Or.inr rfl, Or.inr rfl, Or.inr rfl, Or.inr rfl, Or.inl rfl, trivial⟩ ?_
    exact f4_b46_l hf hW hd k0 k1
  · rw [if_pos c5] at hf
    refine R_aload_n (i := 35) rfl rfl ?_
    refine R_iload (i := 36) rfl rfl ?_
    have zq7 := bind_some hf
    clear hf
    obtain ⟨q7, eq7, hf⟩ := zq7
    refine R_callV (vs := [.int x4]) (st' := []) hW (i := 37) rfl rfl rfl (Nat.le_of_ble_eq_true rfl) rfl (Nat.le_of_ble_eq_true rfl) rfl (f24_l eq7 hW (hh rfl hd) (fun hW7 => ?_))
    refine R_aload_n (i := 38) rfl rfl ?_
    refine R_dup (i := 39) rfl rfl ?_
    refine R_getI hW7 (i := 40) rfl rfl (Nat.le_of_ble_eq_true rfl) ?_
    refine R_iconst (i := 41) rfl ?_
    refine R_iload (i := 42) rfl rfl ?_
    refine R_ishl (i := 43) rfl ?_
    refine R_ior (i := 44) rfl ?_
    refine R_putI hW7 (i := 45) rfl rfl (Nat.le_of_ble_eq_true rfl) (hg rfl hd) (fun h8 eh8 => ?_)
    replace hf := bnd_some eh8 hf
    have hW8 : WF 0 h8 := by rw [eh8]; exact hW7
    refine R_weak [some (.ref 64), some (.int x1), some (.int x2), some (.int x3), none] ⟨Or.inr rfl, Or.inr rfl, Or.inr rfl, Or.inr rfl, Or.inl rfl, trivial⟩ ?_
    exact f4_b46_l hf hW8 hd k0 k1
set_option maxRecDepth 100000 in
set_option maxHeartbeats 4000000 in
theorem f4_l2_l {d N : Nat} {x1 : Int32} {x2 : Int32} {s : Int32 × Hp} {Q : Option Value → Hp → Prop} {j : Nat} {s' : Int32 × Hp} (hf : f4_l2 N x1 x2 s = some (j, s')) (hW : WF 0 s.2) (hd : 9 ≤ d) (k0 : j = 0 → WF 0 s'.2 → R 0 d 4 2 [some (.ref 64), some (.int x1), some (.int x2), some (.int s'.1), none] [] s'.2 Q) (k1 : j = 1 → WF 0 s'.2 → R 0 d 4 48 [none, none, none, none, none] [] s'.2 Q) : R 0 d 4 2 [some (.ref 64), some (.int x1), some (.int x2), some (.int s.1), none] [] s.2 Q := by
  obtain ⟨d, rfl⟩ : ∃ z, d = z + 1 := ⟨d - 1, by omega⟩
  unfold f4_l2 at hf
  refine R_iload_n (i := 2) rfl rfl ?_
  refine R_iload_n (i := 3) rfl rfl ?_
  refine R_icmpge (i := 4) rfl (fun c1 => ?_) (fun c1 => ?_)
  · rw [if_pos c1] at hf
    obtain ⟨hj, hs⟩ := Prod.mk.inj (Option.some.inj hf)
    subst hj
    subst hs
    refine R_weak [none, none, none, none, none] ⟨Or.inl rfl, Or.inl rfl, Or.inl rfl, Or.inl rfl, Or.inr rfl, trivial⟩ ?_
    exact k1 rfl hW
  · rw [if_neg c1] at hf
    refine R_iload_n (i := 5) rfl rfl ?_
    refine R_bipush (i := 6) rfl ?_
    refine R_icmpge (i := 7) rfl (fun c2 => ?_) (fun c2 => ?_)
    · rw [if_pos c2] at hf
      obtain ⟨hj, hs⟩ := Prod.mk.inj (Option.some.inj hf)
      subst hj
      subst hs
      refine R_weak [none, none, none, none, none] ⟨Or.inl rfl, Or.inl rfl, Or.inl rfl, Or.inl rfl, Or.inr rfl, trivial⟩ ?_
      exact k1 rfl hW
    · rw [if_neg c2] at hf
      refine R_iload_n (i := 8) rfl rfl ?_
      refine R_iload_n (i := 9) rfl rfl ?_
      refine R_iadd (i := 10) rfl ?_
      refine R_bipush (i := 11) rfl ?_
      refine R_irem (i := 12) rfl (by decide) ?_
      refine R_topi (fun v3 e3 => ?_)
      replace hf := bnd_some e3 hf
      refine R_istore [some (.ref 64), some (.int x1), some (.int x2), some (.int s.1), some (.int v3)] (i := 13) rfl rfl ?_
      refine R_aload_n (i := 14) rfl rfl ?_
      refine R_getI hW (i := 15) rfl rfl (Nat.le_of_ble_eq_true rfl) ?_
      refine R_iload (i := 16) rfl rfl ?_
      refine R_call (vs := [.int (hI s.2 64 10), .int v3]) (st' := []) (i := 17) rfl (by decide) (by decide) rfl rfl (Nat.le_of_ble_eq_true rfl) rfl (f123_l (hh rfl hd) ?_)
      refine R_ifne (i := 18) rfl (fun c4 => ?_) (fun c4 => ?_)
      · rw [if_neg c4] at hf
        exact f4_b30_l hf hW hd k0 k1
      · rw [if_pos c4] at hf
        refine R_aload_n (i := 19) rfl rfl ?_
        refine R_iload (i := 20) rfl rfl ?_
        have zq9 := bind_some hf
        clear hf
        obtain ⟨q9, eq9, hf⟩ := zq9
        refine R_callV (vs := [.int v3]) (st' := []) hW (i := 21) rfl rfl rfl (Nat.le_of_ble_eq_true rfl) rfl (Nat.le_of_ble_eq_true rfl) rfl (f23_l eq9 hW (hh rfl hd) (fun hW9 => ?_))
        refine R_aload_n (i := 22) rfl rfl ?_
        refine R_dup (i := 23) rfl rfl ?_
        refine R_getI hW9 (i := 24) rfl rfl (Nat.le_of_ble_eq_true rfl) ?_
        refine R_iconst (i := 25) rfl ?_
        refine R_iload (i := 26) rfl rfl ?_
        refine R_ishl (i := 27) rfl ?_
        refine R_ior (i := 28) rfl ?_
        refine R_putI hW9 (i := 29) rfl rfl (Nat.le_of_ble_eq_true rfl) (hg rfl hd) (fun h10 eh10 => ?_)
        replace hf := bnd_some eh10 hf
        have hW10 : WF 0 h10 := by rw [eh10]; exact hW9
        exact f4_b30_l hf hW10 hd k0 k1
set_option maxRecDepth 100000 in
set_option maxHeartbeats 4000000 in
theorem f4_l {d N : Nat} {p1 : Int32} {p2 : Int32} {h : Hp} {Q : Option Value → Hp → Prop} {q : Hp} (hf : f4 N p1 p2 h = some q) (hW : WF 0 h) (hd : 9 ≤ d) (kk : WF 0 q → Q (none) q) : R 0 d 4 0 [some (.ref 64), some (.int p1), some (.int p2), none, none] [] h Q := by
  unfold f4 at hf
  refine R_iconst (i := 0) rfl ?_
  refine R_istore_n [some (.ref 64), some (.int p1), some (.int p2), some (.int (0 : Int32)), none] (i := 1) rfl rfl ?_
  have zq11 := bind_some hf
  clear hf
  obtain ⟨q11, eq11, hf⟩ := zq11
  refine lp_link (P := fun u2 => WF 0 u2.2 → R 0 d 4 2 [some (.ref 64), some (.int p1), some (.int p2), some (.int u2.1), none] [] u2.2 Q) (E := fun e u2 => WF 0 u2.2 → R 0 d 4 48 [none, none, none, none, none] [] u2.2 Q) (fun s j s' hb k0 ke hWs => f4_l2_l hb hWs hd k0 (fun z y => ke 0 z y)) N ((0 : Int32), h) q11.1 q11.2 eq11 ?_ hW
  intro hW11
  have hz := Option.some.inj hf
  subst hz
  exact R_vret (i := 48) rfl (kk hW11)
set_option maxRecDepth 100000 in
set_option maxHeartbeats 4000000 in
theorem f231_l5_l {d N : Nat} {x0 : Nat} {x1 : Int32} {x3 : Int32} {s : Int32 × Hp} {Q : Option Value → Hp → Prop} {j : Nat} {s' : Int32 × Hp} (hf : f231_l5 N x0 x1 x3 s = some (j, s')) (hW : WF 0 s.2) (hd : 5 ≤ d) (k0 : j = 0 → WF 0 s'.2 → R 0 d 231 5 [some (.ref x0), some (.int x1), some (.int s'.1), some (.int x3)] [] s'.2 Q) (k1 : j = 1 → WF 0 s'.2 → R 0 d 231 14 [none, none, none, none] [] s'.2 Q) : R 0 d 231 5 [some (.ref x0), some (.int x1), some (.int s.1), some (.int x3)] [] s.2 Q := by
  unfold f231_l5 at hf
  refine R_iload_n (i := 5) rfl rfl ?_
  refine R_iload_n (i := 6) rfl rfl ?_
  refine R_icmpge (i := 7) rfl (fun c3 => ?_) (fun c3 => ?_)
  · rw [if_pos c3] at hf
    obtain ⟨hj, hs⟩ := Prod.mk.inj (Option.some.inj hf)
    subst hj
    subst hs
    refine R_weak [none, none, none, none] ⟨Or.inl rfl, Or.inl rfl, Or.inl rfl, Or.inl rfl, trivial⟩ ?_
    exact k1 rfl hW
  · rw [if_neg c3] at hf
    refine R_aload_n (i := 8) rfl rfl ?_
    refine R_iload_n (i := 9) rfl rfl ?_
    refine R_iload_n (i := 10) rfl rfl ?_
    have g4 := gd_some hf
    clear hf
    obtain ⟨g4, hf⟩ := g4
    refine R_iastore hW (i := 11) rfl g4.1 g4.2 (hg rfl hd) (fun h5 eh5 => ?_)
    replace hf := bnd_some eh5 hf
    have hW5 : WF 0 h5 := by rw [eh5]; exact hW
    obtain ⟨v6, e6⟩ : ∃ z : Int32, z = (s.1 + (1 : Int32)) := ⟨_, rfl⟩
    replace hf := bnd_some e6 hf
    refine R_iinc [some (.ref x0), some (.int x1), some (.int v6), some (.int x3)] (i := 12) rfl rfl (by rw [← e6]; rfl) ?_
    refine R_goto (i := 13) rfl ?_
    obtain ⟨hj, hs⟩ := Prod.mk.inj (Option.some.inj hf)
    subst hj
    subst hs
    exact k0 rfl hW5
set_option maxRecDepth 100000 in
set_option maxHeartbeats 4000000 in
theorem f231_l {d N : Nat} {p0 : Nat} {p1 : Int32} {h : Hp} {Q : Option Value → Hp → Prop} {q : Hp} (hf : f231 N p0 p1 h = some q) (hW : WF 0 h) (hd : 5 ≤ d) (kk : WF 0 q → Q (none) q) : R 0 d 231 0 [some (.ref p0), some (.int p1), none, none] [] h Q := by
  unfold f231 at hf
  refine R_iconst (i := 0) rfl ?_
  refine R_istore_n [some (.ref p0), some (.int p1), some (.int (0 : Int32)), none] (i := 1) rfl rfl ?_
  refine R_aload_n (i := 2) rfl rfl ?_
  have g1 := gd_some hf
  clear hf
  obtain ⟨g1, hf⟩ := g1
  refine R_alen hW (i := 3) rfl g1 rfl ?_
  refine R_topi (fun v2 e2 => ?_)
  replace hf := bnd_some e2 hf
  refine R_istore_n [some (.ref p0), some (.int p1), some (.int (0 : Int32)), some (.int v2)] (i := 4) rfl rfl ?_
  have zq7 := bind_some hf
  clear hf
  obtain ⟨q7, eq7, hf⟩ := zq7
  refine lp_link (P := fun u5 => WF 0 u5.2 → R 0 d 231 5 [some (.ref p0), some (.int p1), some (.int u5.1), some (.int v2)] [] u5.2 Q) (E := fun e u5 => WF 0 u5.2 → R 0 d 231 14 [none, none, none, none] [] u5.2 Q) (fun s j s' hb k0 ke hWs => f231_l5_l hb hWs hd k0 (fun z y => ke 0 z y)) N ((0 : Int32), h) q7.1 q7.2 eq7 ?_ hW
  intro hW7
  have hz := Option.some.inj hf
  subst hz
  exact R_vret (i := 14) rfl (kk hW7)
set_option maxRecDepth 100000 in
set_option maxHeartbeats 4000000 in
theorem f19_l {d N : Nat} {p1 : Int32} {h : Hp} {Q : Option Value → Hp → Prop} {q : Hp} (hf : f19 N p1 h = some q) (hW : WF 0 h) (hd : 6 ≤ d) (kk : WF 0 q → Q (none) q) : R 0 d 19 0 [some (.ref 64), some (.int p1)] [] h Q := by
  obtain ⟨d, rfl⟩ : ∃ z, d = z + 1 := ⟨d - 1, by omega⟩
  unfold f19 at hf
  refine R_aload_n (i := 0) rfl rfl ?_
  have zr1 := bind_some hf
  clear hf
  obtain ⟨r1, er1, hf⟩ := zr1
  refine R_getR hW (i := 1) rfl rfl (Nat.le_of_ble_eq_true rfl) er1 ?_
  refine R_iconst (i := 2) rfl ?_
  have zq2 := bind_some hf
  clear hf
  obtain ⟨q2, eq2, hf⟩ := zq2
  refine R_call (vs := [.ref r1, .int (0 : Int32)]) (st' := []) (i := 3) rfl (by decide) (by decide) rfl rfl (Nat.le_of_ble_eq_true rfl) rfl (f231_l eq2 hW (hh rfl hd) (fun hW2 => ?_))
  refine R_aload_n (i := 4) rfl rfl ?_
  have zr3 := bind_some hf
  clear hf
  obtain ⟨r3, er3, hf⟩ := zr3
  refine R_getR hW2 (i := 5) rfl rfl (Nat.le_of_ble_eq_true rfl) er3 ?_
  refine R_iload_n (i := 6) rfl rfl ?_
  refine R_call (vs := [.int p1]) (st' := [.ref r3]) (i := 7) rfl (by decide) (by decide) rfl rfl (Nat.le_of_ble_eq_true rfl) rfl (f129_l (hh rfl hd) ?_)
  refine R_iload_n (i := 8) rfl rfl ?_
  refine R_call (vs := [.int p1]) (st' := [.int (f129 p1), .ref r3]) (i := 9) rfl (by decide) (by decide) rfl rfl (Nat.le_of_ble_eq_true rfl) rfl (f130_l (hh rfl hd) ?_)
  refine R_call (vs := [.int (f129 p1), .int (f130 p1)]) (st' := [.ref r3]) (i := 10) rfl (by decide) (by decide) rfl rfl (Nat.le_of_ble_eq_true rfl) rfl (f133_l (hh rfl hd) ?_)
  refine R_iconst (i := 11) rfl ?_
  refine R_iload_n (i := 12) rfl rfl ?_
  refine R_call (vs := [.int p1]) (st' := [.int (1 : Int32), .int (f133 (f129 p1) (f130 p1)), .ref r3]) (i := 13) rfl (by decide) (by decide) rfl rfl (Nat.le_of_ble_eq_true rfl) rfl (f132_l (hh rfl hd) ?_)
  refine R_iconst (i := 14) rfl ?_
  refine R_isub (i := 15) rfl ?_
  refine R_ishl (i := 16) rfl ?_
  have g4 := gd_some hf
  clear hf
  obtain ⟨g4, hf⟩ := g4
  refine R_iastore hW2 (i := 17) rfl g4.1 g4.2 (hg rfl hd) (fun h5 eh5 => ?_)
  replace hf := bnd_some eh5 hf
  have hW5 : WF 0 h5 := by rw [eh5]; exact hW2
  have hz := Option.some.inj hf
  subst hz
  exact R_vret (i := 18) rfl (kk hW5)
set_option maxRecDepth 100000 in
set_option maxHeartbeats 4000000 in
theorem f61_l {d N : Nat} {p1 : Int32} {p2 : Int32} {h : Hp} {Q : Option Value → Hp → Prop} {q : Int32} (hf : f61 N p1 p2 h = some q) (hW : WF 0 h) (hd : 0 ≤ d) (kk : Q (some (.int q)) h) : R 0 d 61 0 [some (.ref 41), some (.int p1), some (.int p2)] [] h Q := by
  unfold f61 at hf
  refine R_iload_n (i := 0) rfl rfl ?_
  refine R_iconst (i := 1) rfl ?_
  refine R_icmpne (i := 2) rfl (fun c1 => ?_) (fun c1 => ?_)
  · rw [if_neg c1] at hf
    refine R_iload_n (i := 5) rfl rfl ?_
    refine R_iload_n (i := 6) rfl rfl ?_
    refine R_icmple (i := 7) rfl (fun c2 => ?_) (fun c2 => ?_)
    · rw [if_pos c2] at hf
      refine R_iload_n (i := 12) rfl rfl ?_
      refine R_iload_n (i := 13) rfl rfl ?_
      refine R_isub (i := 14) rfl ?_
      refine R_aload_n (i := 15) rfl rfl ?_
      refine R_getI hW (i := 16) rfl rfl (Nat.le_of_ble_eq_true rfl) ?_
      refine R_iadd (i := 17) rfl ?_
      have hz := Option.some.inj hf
      subst hz
      exact R_iret (i := 18) rfl kk
    · rw [if_neg c2] at hf
      refine R_iload_n (i := 8) rfl rfl ?_
      refine R_iload_n (i := 9) rfl rfl ?_
      refine R_isub (i := 10) rfl ?_
      refine R_goto (i := 11) rfl ?_
      have hz := Option.some.inj hf
      subst hz
      exact R_iret (i := 18) rfl kk
  · rw [if_pos c1] at hf
    refine R_bipush (i := 3) rfl ?_
    have hz := Option.some.inj hf
    subst hz
    exact R_iret (i := 4) rfl kk
set_option maxRecDepth 100000 in
set_option maxHeartbeats 4000000 in
theorem f22_b26_l {d N : Nat} {x4 : Int32} {x5 : Int32} {x7 : Int32} {t0 : Int32} {t1 : Int32} {h : Hp} {Q : Option Value → Hp → Prop} {j : Nat} {s' : Int32 × Int32} (hf : f22_b26 N x4 x5 x7 t0 t1 h = some (j, s')) (hW : WF 0 h) (hd : 1 ≤ d) (k0 : j = 0 → R 0 d 22 10 [some (.ref 64), none, none, none, some (.int x4), some (.int x5), some (.int s'.1), some (.int s'.2)] [] h Q) (k1 : j = 1 → R 0 d 22 30 [none, none, none, none, none, none, some (.int s'.1), none] [] h Q) : R 0 d 22 26 [some (.ref 64), none, none, none, some (.int x4), some (.int x5), none, some (.int x7)] [.int t0, .int t1] h Q := by
  unfold f22_b26 at hf
  refine R_ior (i := 26) rfl ?_
  refine R_topi (fun v4 e4 => ?_)
  replace hf := bnd_some e4 hf
  refine R_istore [some (.ref 64), none, none, none, some (.int x4), some (.int x5), some (.int v4), some (.int x7)] (i := 27) rfl rfl ?_
  obtain ⟨v5, e5⟩ : ∃ z : Int32, z = (x7 + (1 : Int32)) := ⟨_, rfl⟩
  replace hf := bnd_some e5 hf
  refine R_iinc [some (.ref 64), none, none, none, some (.int x4), some (.int x5), some (.int v4), some (.int v5)] (i := 28) rfl rfl (by rw [← e5]; rfl) ?_
  refine R_goto (i := 29) rfl ?_
  obtain ⟨hj, hs⟩ := Prod.mk.inj (Option.some.inj hf)
  subst hj
  subst hs
  exact k0 rfl
set_option maxRecDepth 100000 in
set_option maxHeartbeats 4000000 in
theorem f22_l10_l {d N : Nat} {x4 : Int32} {x5 : Int32} {h : Hp} {s : Int32 × Int32} {Q : Option Value → Hp → Prop} {j : Nat} {s' : Int32 × Int32} (hf : f22_l10 N x4 x5 h s = some (j, s')) (hW : WF 0 h) (hd : 1 ≤ d) (k0 : j = 0 → R 0 d 22 10 [some (.ref 64), none, none, none, some (.int x4), some (.int x5), some (.int s'.1), some (.int s'.2)] [] h Q) (k1 : j = 1 → R 0 d 22 30 [none, none, none, none, none, none, some (.int s'.1), none] [] h Q) : R 0 d 22 10 [some (.ref 64), none, none, none, some (.int x4), some (.int x5), some (.int s.1), some (.int s.2)] [] h Q := by
  obtain ⟨d, rfl⟩ : ∃ z, d = z + 1 := ⟨d - 1, by omega⟩
  unfold f22_l10 at hf
  refine R_iload (i := 10) rfl rfl ?_
  refine R_iconst (i := 11) rfl ?_
  refine R_icmpge (i := 12) rfl (fun c2 => ?_) (fun c2 => ?_)
  · rw [if_pos c2] at hf
    obtain ⟨hj, hs⟩ := Prod.mk.inj (Option.some.inj hf)
    subst hj
    subst hs
    refine R_weak [none, none, none, none, none, none, some (.int s.1), none] ⟨Or.inl rfl, Or.inr rfl, Or.inr rfl, Or.inr rfl, Or.inl rfl, Or.inl rfl, Or.inr rfl, Or.inl rfl, trivial⟩ ?_
    exact k1 rfl
  · rw [if_neg c2] at hf
    refine R_iload (i := 13) rfl rfl ?_
    refine R_iload (i := 14) rfl rfl ?_
    refine R_iload (i := 15) rfl rfl ?_
    refine R_call (vs := [.int x4, .int s.2]) (st' := [.int s.1]) (i := 16) rfl (by decide) (by decide) rfl rfl (Nat.le_of_ble_eq_true rfl) rfl (f123_l (hh rfl hd) ?_)
    refine R_ifeq (i := 17) rfl (fun c3 => ?_) (fun c3 => ?_)
    · rw [if_pos c3] at hf
      refine R_iconst (i := 25) rfl ?_
      refine R_weak [some (.ref 64), none, none, none, some (.int x4), some (.int x5), none, some (.int s.2)] ⟨Or.inr rfl, Or.inr rfl, Or.inr rfl, Or.inr rfl, Or.inr rfl, Or.inr rfl, Or.inl rfl, Or.inr rfl, trivial⟩ ?_
      exact f22_b26_l hf hW hd k0 k1
    · rw [if_neg c3] at hf
      refine R_aload_n (i := 18) rfl rfl ?_
      refine R_getF hW (i := 19) rfl rfl (Nat.le_of_ble_eq_true rfl) rfl ?_
      refine R_iload (i := 20) rfl rfl ?_
      refine R_iload (i := 21) rfl rfl ?_
      refine R_iadd (i := 22) rfl ?_
      have g6 := gd_some hf
      clear hf
      obtain ⟨g6, hf⟩ := g6
      refine R_iaload hW (i := 23) rfl rfl g6 ?_
      refine R_goto (i := 24) rfl ?_
      refine R_weak [some (.ref 64), none, none, none, some (.int x4), some (.int x5), none, some (.int s.2)] ⟨Or.inr rfl, Or.inr rfl, Or.inr rfl, Or.inr rfl, Or.inr rfl, Or.inr rfl, Or.inl rfl, Or.inr rfl, trivial⟩ ?_
      exact f22_b26_l hf hW hd k0 k1
set_option maxRecDepth 100000 in
set_option maxHeartbeats 4000000 in
theorem f22_l {d N : Nat} {p1 : Int32} {p2 : Int32} {p3 : Int32} {p4 : Int32} {h : Hp} {Q : Option Value → Hp → Prop} {q : Int32} (hf : f22 N p1 p2 p3 p4 h = some q) (hW : WF 0 h) (hd : 1 ≤ d) (kk : Q (some (.int q)) h) : R 0 d 22 0 [some (.ref 64), some (.int p1), some (.int p2), some (.int p3), some (.int p4), none, none, none] [] h Q := by
  obtain ⟨d, rfl⟩ : ∃ z, d = z + 1 := ⟨d - 1, by omega⟩
  unfold f22 at hf
  refine R_iload_n (i := 0) rfl rfl ?_
  refine R_iload_n (i := 1) rfl rfl ?_
  refine R_iload_n (i := 2) rfl rfl ?_
  refine R_iconst (i := 3) rfl ?_
  refine R_call (vs := [.int p1, .int p2, .int p3, .int (1 : Int32)]) (st' := []) (i := 4) rfl (by decide) (by decide) rfl rfl (Nat.le_of_ble_eq_true rfl) rfl (f136_l (hh rfl hd) ?_)
  refine R_topi (fun v1 e1 => ?_)
  replace hf := bnd_some e1 hf
  refine R_istore [some (.ref 64), some (.int p1), some (.int p2), some (.int p3), some (.int p4), some (.int v1), none, none] (i := 5) rfl rfl ?_
  refine R_iconst (i := 6) rfl ?_
  refine R_istore [some (.ref 64), some (.int p1), some (.int p2), some (.int p3), some (.int p4), some (.int v1), some (.int (0 : Int32)), none] (i := 7) rfl rfl ?_
  refine R_iconst (i := 8) rfl ?_
  refine R_istore [some (.ref 64), some (.int p1), some (.int p2), some (.int p3), some (.int p4), some (.int v1), some (.int (0 : Int32)), some (.int (0 : Int32))] (i := 9) rfl rfl ?_
  refine R_weak [some (.ref 64), none, none, none, some (.int p4), some (.int v1), some (.int (0 : Int32)), some (.int (0 : Int32))] ⟨Or.inr rfl, Or.inl rfl, Or.inl rfl, Or.inl rfl, Or.inr rfl, Or.inr rfl, Or.inr rfl, Or.inr rfl, trivial⟩ ?_
  have zq7 := bind_some hf
  clear hf
  obtain ⟨q7, eq7, hf⟩ := zq7
  refine lp_link (P := fun u10 => R 0 (d + 1) 22 10 [some (.ref 64), none, none, none, some (.int p4), some (.int v1), some (.int u10.1), some (.int u10.2)] [] h Q) (E := fun e u10 => R 0 (d + 1) 22 30 [none, none, none, none, none, none, some (.int u10.1), none] [] h Q) (fun s j s' hb k0 ke => f22_l10_l hb hW hd k0 (fun z => ke 0 z)) N ((0 : Int32), (0 : Int32)) q7.1 q7.2 eq7 ?_
  refine R_iload (i := 30) rfl rfl ?_
  refine R_iload (i := 31) rfl rfl ?_
  refine R_iconst (i := 32) rfl ?_
  refine R_ishr (i := 33) rfl ?_
  refine R_ior (i := 34) rfl ?_
  refine R_iload (i := 35) rfl rfl ?_
  refine R_bipush (i := 36) rfl ?_
  refine R_ishr (i := 37) rfl ?_
  refine R_ior (i := 38) rfl ?_
  refine R_iload (i := 39) rfl rfl ?_
  refine R_bipush (i := 40) rfl ?_
  refine R_ishr (i := 41) rfl ?_
  refine R_ior (i := 42) rfl ?_
  refine R_bipush (i := 43) rfl ?_
  refine R_iand (i := 44) rfl ?_
  have hz := Option.some.inj hf
  subst hz
  exact R_iret (i := 45) rfl kk
