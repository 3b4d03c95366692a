set_option maxRecDepth 100000 in
set_option maxHeartbeats 4000000 in
theorem f125_b7_l {d : Nat} {h : Hp} {Q : Option Value → Hp → Prop} (hd : 0 ≤ d) (kk : Q (some (.int (f125_b7))) h) : R 0 d 125 7 [none] [] h Q := by
  unfold f125_b7 at kk
  refine R_iconst (i := 7) rfl ?_
  exact R_zret (r := 0) (i := 8) rfl (by decide) kk
set_option maxRecDepth 100000 in
set_option maxHeartbeats 4000000 in
theorem f125_l {d : Nat} {p0 : Int32} {h : Hp} {Q : Option Value → Hp → Prop} (hd : 0 ≤ d) (kk : Q (some (.int (f125 p0))) h) : R 0 d 125 0 [some (.int p0)] [] h Q := by
  unfold f125 at kk
  refine R_iload_n (i := 0) rfl rfl ?_
  refine R_iflt (i := 1) rfl (fun c1 => ?_) (fun c1 => ?_)
  · rw [if_pos c1] at kk
    refine R_weak [none] ⟨Or.inl rfl, trivial⟩ ?_
    exact f125_b7_l hd kk
  · rw [if_neg c1] at kk
    refine R_iload_n (i := 2) rfl rfl ?_
    refine R_iconst (i := 3) rfl ?_
    refine R_icmpge (i := 4) rfl (fun c2 => ?_) (fun c2 => ?_)
    · rw [if_pos c2] at kk
      refine R_weak [none] ⟨Or.inl rfl, trivial⟩ ?_
      exact f125_b7_l hd kk
    · rw [if_neg c2] at kk
      refine R_iconst (i := 5) rfl ?_
      refine R_goto (i := 6) rfl ?_
      exact R_zret (r := 1) (i := 8) rfl (by decide) kk
set_option maxRecDepth 100000 in
set_option maxHeartbeats 4000000 in
theorem f59_b8_l {d N : Nat} {h : Hp} {Q : Option Value → Hp → Prop} {q : Int32} (hf : f59_b8 N h = some q) (hW : WF 0 h) (hd : 0 ≤ d) (kk : Q (some (.int q)) h) : R 0 d 59 8 [none, none] [] h Q := by
  unfold f59_b8 at hf
  refine R_iconst (i := 8) rfl ?_
  have hz := Option.some.inj hf
  subst hz
  exact R_zret (r := 0) (i := 9) rfl (by decide) kk
set_option maxRecDepth 100000 in
set_option maxHeartbeats 4000000 in
theorem f59_l {d N : Nat} {p1 : Int32} {h : Hp} {Q : Option Value → Hp → Prop} {q : Int32} (hf : f59 N p1 h = some q) (hW : WF 0 h) (hd : 0 ≤ d) (kk : Q (some (.int q)) h) : R 0 d 59 0 [some (.ref 41), some (.int p1)] [] h Q := by
  unfold f59 at hf
  refine R_iload_n (i := 0) rfl rfl ?_
  refine R_iflt (i := 1) rfl (fun c1 => ?_) (fun c1 => ?_)
  · rw [if_pos c1] at hf
    refine R_weak [none, none] ⟨Or.inl rfl, Or.inl rfl, trivial⟩ ?_
    exact f59_b8_l hf hW hd kk
  · rw [if_neg c1] at hf
    refine R_iload_n (i := 2) rfl rfl ?_
    refine R_aload_n (i := 3) rfl rfl ?_
    refine R_getI hW (i := 4) rfl rfl (Nat.le_of_ble_eq_true rfl) ?_
    refine R_icmpge (i := 5) rfl (fun c2 => ?_) (fun c2 => ?_)
    · rw [if_pos c2] at hf
      refine R_weak [none, none] ⟨Or.inl rfl, Or.inl rfl, trivial⟩ ?_
      exact f59_b8_l hf hW hd kk
    · rw [if_neg c2] at hf
      refine R_iconst (i := 6) rfl ?_
      refine R_goto (i := 7) rfl ?_
      have hz := Option.some.inj hf
      subst hz
      exact R_zret (r := 1) (i := 9) rfl (by decide) kk
set_option maxRecDepth 100000 in
set_option maxHeartbeats 4000000 in
theorem f133_l {d : Nat} {p0 : Int32} {p1 : Int32} {h : Hp} {Q : Option Value → Hp → Prop} (hd : 0 ≤ d) (kk : Q (some (.int (f133 p0 p1))) h) : R 0 d 133 0 [some (.int p0), some (.int p1)] [] h Q := by
  unfold f133 at kk
  refine R_iload_n (i := 0) rfl rfl ?_
  refine R_bipush (i := 1) rfl ?_
  refine R_imul (i := 2) rfl ?_
  refine R_iload_n (i := 3) rfl rfl ?_
  refine R_iadd (i := 4) rfl ?_
  exact R_iret (i := 5) rfl kk
set_option maxRecDepth 100000 in
set_option maxHeartbeats 4000000 in
theorem f1_l {d N : Nat} {h : Hp} {Q : Option Value → Hp → Prop} {q : Hp} (hf : f1 N h = some q) (hW : WF 0 h) (hd : 5 ≤ d) (kk : WF 0 q → Q (none) q) : R 0 d 1 0 [some (.ref 64)] [] h Q := by
  unfold f1 at hf
  refine R_aload_n (i := 0) rfl rfl ?_
  refine R_iconst (i := 1) rfl ?_
  refine R_putI hW (i := 2) rfl rfl (Nat.le_of_ble_eq_true rfl) (hg rfl hd) (fun h1 eh1 => ?_)
  replace hf := bnd_some eh1 hf
  have hW1 : WF 0 h1 := by rw [eh1]; exact hW
  refine R_aload_n (i := 3) rfl rfl ?_
  refine R_iconst (i := 4) rfl ?_
  refine R_putZ hW1 (i := 5) rfl rfl (Nat.le_of_ble_eq_true rfl) (by decide) (hg rfl hd) (fun h2 eh2 => ?_)
  replace hf := bnd_some eh2 hf
  have hW2 : WF 0 h2 := by rw [eh2]; exact hW1
  have hz := Option.some.inj hf
  subst hz
  exact R_vret (i := 6) rfl (kk hW2)
set_option maxRecDepth 100000 in
set_option maxHeartbeats 4000000 in
theorem f91_l {d N : Nat} {p1 : Int32} {p2 : Int32} {p3 : Int32} {h : Hp} {Q : Option Value → Hp → Prop} {q : Int32 × Hp} (hf : f91 N p1 p2 p3 h = some q) (hW : WF 0 h) (hd : 6 ≤ d) (kk : WF 0 q.2 → Q (some (.int q.1)) q.2) : R 0 d 91 0 [some (.ref 0), some (.int p1), some (.int p2), some (.int p3)] [] h Q := by
  obtain ⟨d, rfl⟩ : ∃ z, d = z + 1 := ⟨d - 1, by omega⟩
  unfold f91 at hf
  refine R_iload_n (i := 0) rfl rfl ?_
  refine R_call (vs := [.int p1]) (st' := []) (i := 1) rfl (by decide) (by decide) rfl rfl (Nat.le_of_ble_eq_true rfl) rfl (f125_l (hh rfl hd) ?_)
  refine R_ifeq (i := 2) rfl (fun c1 => ?_) (fun c1 => ?_)
  · rw [if_pos c1] at hf
    refine R_iconst (i := 14) rfl ?_
    have hz := Option.some.inj hf
    subst hz
    exact R_zret (r := 0) (i := 15) rfl (by decide) (kk hW)
  · rw [if_neg c1] at hf
    refine R_aload_n (i := 3) rfl rfl ?_
    refine R_getF hW (i := 4) rfl rfl (Nat.le_of_ble_eq_true rfl) rfl ?_
    refine R_getF hW (i := 5) rfl rfl (Nat.le_of_ble_eq_true rfl) rfl ?_
    refine R_iload_n (i := 6) rfl rfl ?_
    have zq2 := bind_some hf
    clear hf
    obtain ⟨q2, eq2, hf⟩ := zq2
    refine R_callV (vs := [.int p2]) (st' := []) hW (i := 7) rfl rfl rfl (Nat.le_of_ble_eq_true rfl) rfl (Nat.le_of_ble_eq_true rfl) rfl (f59_l eq2 hW (hh rfl hd) ?_)
    refine R_ifeq (i := 8) rfl (fun c3 => ?_) (fun c3 => ?_)
    · rw [if_pos c3] at hf
      refine R_iconst (i := 14) rfl ?_
      have hz := Option.some.inj hf
      subst hz
      exact R_zret (r := 0) (i := 15) rfl (by decide) (kk hW)
    · rw [if_neg c3] at hf
      refine R_iload_n (i := 9) rfl rfl ?_
      refine R_iflt (i := 10) rfl (fun c4 => ?_) (fun c4 => ?_)
      · rw [if_pos c4] at hf
        refine R_iconst (i := 14) rfl ?_
        have hz := Option.some.inj hf
        subst hz
        exact R_zret (r := 0) (i := 15) rfl (by decide) (kk hW)
      · rw [if_neg c4] at hf
        refine R_iload_n (i := 11) rfl rfl ?_
        refine R_bipush (i := 12) rfl ?_
        refine R_icmple (i := 13) rfl (fun c5 => ?_) (fun c5 => ?_)
        · rw [if_pos c5] at hf
          refine R_aload_n (i := 16) rfl rfl ?_
          refine R_getF hW (i := 17) rfl rfl (Nat.le_of_ble_eq_true rfl) rfl ?_
          refine R_getF hW (i := 18) rfl rfl (Nat.le_of_ble_eq_true rfl) rfl ?_
          refine R_getF hW (i := 19) rfl rfl (Nat.le_of_ble_eq_true rfl) rfl ?_
          refine R_iload_n (i := 20) rfl rfl ?_
          refine R_iload_n (i := 21) rfl rfl ?_
          refine R_call (vs := [.int p1, .int p2]) (st' := [.ref 42]) (i := 22) rfl (by decide) (by decide) rfl rfl (Nat.le_of_ble_eq_true rfl) rfl (f133_l (hh rfl hd) ?_)
          refine R_iload_n (i := 23) rfl rfl ?_
          have g6 := gd_some hf
          clear hf
          obtain ⟨g6, hf⟩ := g6
          refine R_iastore hW (i := 24) rfl rfl g6 (hg rfl hd) (fun h7 eh7 => ?_)
          replace hf := bnd_some eh7 hf
          have hW7 : WF 0 h7 := by rw [eh7]; exact hW
          refine R_aload_n (i := 25) rfl rfl ?_
          refine R_getF hW7 (i := 26) rfl rfl (Nat.le_of_ble_eq_true rfl) rfl ?_
          have zq8 := bind_some hf
          clear hf
          obtain ⟨q8, eq8, hf⟩ := zq8
          refine R_callV (vs := []) (st' := []) hW7 (i := 27) rfl rfl rfl (Nat.le_of_ble_eq_true rfl) rfl (Nat.le_of_ble_eq_true rfl) rfl (f1_l eq8 hW7 (hh rfl hd) (fun hW8 => ?_))
          refine R_iconst (i := 28) rfl ?_
          have hz := Option.some.inj hf
          subst hz
          exact R_zret (r := 1) (i := 29) rfl (by decide) (kk hW8)
        · rw [if_neg c5] at hf
          refine R_iconst (i := 14) rfl ?_
          have hz := Option.some.inj hf
          subst hz
          exact R_zret (r := 0) (i := 15) rfl (by decide) (kk hW)
set_option maxRecDepth 100000 in
set_option maxHeartbeats 4000000 in
theorem f92_l {d N : Nat} {p1 : Int32} {h : Hp} {Q : Option Value → Hp → Prop} {q : Int32 × Hp} (hf : f92 N p1 h = some q) (hW : WF 0 h) (hd : 6 ≤ d) (kk : WF 0 q.2 → Q (some (.int q.1)) q.2) : R 0 d 92 0 [some (.ref 0), some (.int p1)] [] h Q := by
  obtain ⟨d, rfl⟩ : ∃ z, d = z + 1 := ⟨d - 1, by omega⟩
  unfold f92 at hf
  refine R_iload_n (i := 0) rfl rfl ?_
  refine R_iflt (i := 1) rfl (fun c1 => ?_) (fun c1 => ?_)
  · rw [if_pos c1] at hf
    refine R_iconst (i := 10) rfl ?_
    have hz := Option.some.inj hf
    subst hz
    exact R_zret (r := 0) (i := 11) rfl (by decide) (kk hW)
  · rw [if_neg c1] at hf
    refine R_iload_n (i := 2) rfl rfl ?_
    refine R_iconst (i := 3) rfl ?_
    refine R_aload_n (i := 4) rfl rfl ?_
    refine R_getF hW (i := 5) rfl rfl (Nat.le_of_ble_eq_true rfl) rfl ?_
    refine R_getF hW (i := 6) rfl rfl (Nat.le_of_ble_eq_true rfl) rfl ?_
    refine R_getI hW (i := 7) rfl rfl (Nat.le_of_ble_eq_true rfl) ?_
    refine R_ishl (i := 8) rfl ?_
    refine R_icmplt (i := 9) rfl (fun c2 => ?_) (fun c2 => ?_)
    · rw [if_pos c2] at hf
      refine R_aload_n (i := 12) rfl rfl ?_
      refine R_getF hW (i := 13) rfl rfl (Nat.le_of_ble_eq_true rfl) rfl ?_
      refine R_getF hW (i := 14) rfl rfl (Nat.le_of_ble_eq_true rfl) rfl ?_
      refine R_iload_n (i := 15) rfl rfl ?_
      refine R_putI hW (i := 16) rfl rfl (Nat.le_of_ble_eq_true rfl) (hg rfl hd) (fun h3 eh3 => ?_)
      replace hf := bnd_some eh3 hf
      have hW3 : WF 0 h3 := by rw [eh3]; exact hW
      refine R_aload_n (i := 17) rfl rfl ?_
      refine R_getF hW3 (i := 18) rfl rfl (Nat.le_of_ble_eq_true rfl) rfl ?_
      have zq4 := bind_some hf
      clear hf
      obtain ⟨q4, eq4, hf⟩ := zq4
      refine R_callV (vs := []) (st' := []) hW3 (i := 19) rfl rfl rfl (Nat.le_of_ble_eq_true rfl) rfl (Nat.le_of_ble_eq_true rfl) rfl (f1_l eq4 hW3 (hh rfl hd) (fun hW4 => ?_))
      refine R_iconst (i := 20) rfl ?_
      have hz := Option.some.inj hf
      subst hz
      exact R_zret (r := 1) (i := 21) rfl (by decide) (kk hW4)
    · rw [if_neg c2] at hf
      refine R_iconst (i := 10) rfl ?_
      have hz := Option.some.inj hf
      subst hz
      exact R_zret (r := 0) (i := 11) rfl (by decide) (kk hW)
set_option maxRecDepth 100000 in
set_option maxHeartbeats 4000000 in
theorem f2_l {d N : Nat} {p1 : Int32} {h : Hp} {Q : Option Value → Hp → Prop} {q : Hp} (hf : f2 N p1 h = some q) (hW : WF 0 h) (hd : 5 ≤ d) (kk : WF 0 q → Q (none) q) : R 0 d 2 0 [some (.ref 64), some (.int p1)] [] h Q := by
  unfold f2 at hf
  refine R_aload_n (i := 0) rfl rfl ?_
  refine R_dup (i := 1) rfl rfl ?_
  refine R_getI hW (i := 2) rfl rfl (Nat.le_of_ble_eq_true rfl) ?_
  refine R_iconst (i := 3) rfl ?_
  refine R_iload_n (i := 4) rfl rfl ?_
  refine R_ishl (i := 5) rfl ?_
  refine R_iconst (i := 6) rfl ?_
  refine R_ixor (i := 7) rfl ?_
  refine R_iand (i := 8) rfl ?_
  refine R_putI hW (i := 9) rfl rfl (Nat.le_of_ble_eq_true rfl) (hg rfl hd) (fun h1 eh1 => ?_)
  replace hf := bnd_some eh1 hf
  have hW1 : WF 0 h1 := by rw [eh1]; exact hW
  refine R_aload_n (i := 10) rfl rfl ?_
  refine R_iconst (i := 11) rfl ?_
  refine R_putZ hW1 (i := 12) rfl rfl (Nat.le_of_ble_eq_true rfl) (by decide) (hg rfl hd) (fun h2 eh2 => ?_)
  replace hf := bnd_some eh2 hf
  have hW2 : WF 0 h2 := by rw [eh2]; exact hW1
  have hz := Option.some.inj hf
  subst hz
  exact R_vret (i := 13) rfl (kk hW2)
set_option maxRecDepth 100000 in
set_option maxHeartbeats 4000000 in
theorem f93_l {d N : Nat} {p1 : Int32} {p2 : Int32} {h : Hp} {Q : Option Value → Hp → Prop} {q : Int32 × Hp} (hf : f93 N p1 p2 h = some q) (hW : WF 0 h) (hd : 6 ≤ d) (kk : WF 0 q.2 → Q (some (.int q.1)) q.2) : R 0 d 93 0 [some (.ref 0), some (.int p1), some (.int p2)] [] h Q := by
  obtain ⟨d, rfl⟩ : ∃ z, d = z + 1 := ⟨d - 1, by omega⟩
  unfold f93 at hf
  refine R_iload_n (i := 0) rfl rfl ?_
  refine R_iflt (i := 1) rfl (fun c1 => ?_) (fun c1 => ?_)
  · rw [if_pos c1] at hf
    refine R_iconst (i := 11) rfl ?_
    have hz := Option.some.inj hf
    subst hz
    exact R_zret (r := 0) (i := 12) rfl (by decide) (kk hW)
  · rw [if_neg c1] at hf
    refine R_iload_n (i := 2) rfl rfl ?_
    refine R_bipush (i := 3) rfl ?_
    refine R_icmpge (i := 4) rfl (fun c2 => ?_) (fun c2 => ?_)
    · rw [if_pos c2] at hf
      refine R_iconst (i := 11) rfl ?_
      have hz := Option.some.inj hf
      subst hz
      exact R_zret (r := 0) (i := 12) rfl (by decide) (kk hW)
    · rw [if_neg c2] at hf
      refine R_iload_n (i := 5) rfl rfl ?_
      refine R_iconst (i := 6) rfl ?_
      refine R_icmplt (i := 7) rfl (fun c3 => ?_) (fun c3 => ?_)
      · rw [if_pos c3] at hf
        refine R_iconst (i := 11) rfl ?_
        have hz := Option.some.inj hf
        subst hz
        exact R_zret (r := 0) (i := 12) rfl (by decide) (kk hW)
      · rw [if_neg c3] at hf
        refine R_iload_n (i := 8) rfl rfl ?_
        refine R_bipush (i := 9) rfl ?_
        refine R_icmplt (i := 10) rfl (fun c4 => ?_) (fun c4 => ?_)
        · rw [if_pos c4] at hf
          refine R_aload_n (i := 13) rfl rfl ?_
          refine R_getF hW (i := 14) rfl rfl (Nat.le_of_ble_eq_true rfl) rfl ?_
          refine R_getF hW (i := 15) rfl rfl (Nat.le_of_ble_eq_true rfl) rfl ?_
          refine R_getF hW (i := 16) rfl rfl (Nat.le_of_ble_eq_true rfl) rfl ?_
          refine R_iload_n (i := 17) rfl rfl ?_
          refine R_iload_n (i := 18) rfl rfl ?_
          have g5 := gd_some hf
          clear hf
          obtain ⟨g5, hf⟩ := g5
          refine R_iastore hW (i := 19) rfl rfl g5 (hg rfl hd) (fun h6 eh6 => ?_)
          replace hf := bnd_some eh6 hf
          have hW6 : WF 0 h6 := by rw [eh6]; exact hW
          refine R_aload_n (i := 20) rfl rfl ?_
          refine R_getF hW6 (i := 21) rfl rfl (Nat.le_of_ble_eq_true rfl) rfl ?_
          refine R_iload_n (i := 22) rfl rfl ?_
          have zq7 := bind_some hf
          clear hf
          obtain ⟨q7, eq7, hf⟩ := zq7
          refine R_callV (vs := [.int p1]) (st' := []) hW6 (i := 23) rfl rfl rfl (Nat.le_of_ble_eq_true rfl) rfl (Nat.le_of_ble_eq_true rfl) rfl (f2_l eq7 hW6 (hh rfl hd) (fun hW7 => ?_))
          refine R_iconst (i := 24) rfl ?_
          have hz := Option.some.inj hf
          subst hz
          exact R_zret (r := 1) (i := 25) rfl (by decide) (kk hW7)
        · rw [if_neg c4] at hf
          refine R_iconst (i := 11) rfl ?_
          have hz := Option.some.inj hf
          subst hz
          exact R_zret (r := 0) (i := 12) rfl (by decide) (kk hW)
set_option maxRecDepth 100000 in
set_option maxHeartbeats 4000000 in
theorem f3_l {d N : Nat} {h : Hp} {Q : Option Value → Hp → Prop} {q : Hp} (hf : f3 N h = some q) (hW : WF 0 h) (hd : 5 ≤ d) (kk : WF 0 q → Q (none) q) : R 0 d 3 0 [some (.ref 64)] [] h Q := by
  unfold f3 at hf
  refine R_aload_n (i := 0) rfl rfl ?_
  refine R_iconst (i := 1) rfl ?_
  refine R_putI hW (i := 2) rfl rfl (Nat.le_of_ble_eq_true rfl) (hg rfl hd) (fun h1 eh1 => ?_)
  replace hf := bnd_some eh1 hf
  have hW1 : WF 0 h1 := by rw [eh1]; exact hW
  refine R_aload_n (i := 3) rfl rfl ?_
  refine R_iconst (i := 4) rfl ?_
  refine R_putI hW1 (i := 5) rfl rfl (Nat.le_of_ble_eq_true rfl) (hg rfl hd) (fun h2 eh2 => ?_)
  replace hf := bnd_some eh2 hf
  have hW2 : WF 0 h2 := by rw [eh2]; exact hW1
  refine R_aload_n (i := 6) rfl rfl ?_
  refine R_iconst (i := 7) rfl ?_
  refine R_putZ hW2 (i := 8) rfl rfl (Nat.le_of_ble_eq_true rfl) (by decide) (hg rfl hd) (fun h3 eh3 => ?_)
  replace hf := bnd_some eh3 hf
  have hW3 : WF 0 h3 := by rw [eh3]; exact hW2
  have hz := Option.some.inj hf
  subst hz
  exact R_vret (i := 9) rfl (kk hW3)
set_option maxRecDepth 100000 in
set_option maxHeartbeats 4000000 in
theorem f94_l {d N : Nat} {p1 : Int32} {h : Hp} {Q : Option Value → Hp → Prop} {q : Int32 × Hp} (hf : f94 N p1 h = some q) (hW : WF 0 h) (hd : 6 ≤ d) (kk : WF 0 q.2 → Q (some (.int q.1)) q.2) : R 0 d 94 0 [some (.ref 0), some (.int p1)] [] h Q := by
  obtain ⟨d, rfl⟩ : ∃ z, d = z + 1 := ⟨d - 1, by omega⟩
  unfold f94 at hf
  refine R_iload_n (i := 0) rfl rfl ?_
  refine R_iflt (i := 1) rfl (fun c1 => ?_) (fun c1 => ?_)
  · rw [if_pos c1] at hf
    refine R_iconst (i := 5) rfl ?_
    have hz := Option.some.inj hf
    subst hz
    exact R_zret (r := 0) (i := 6) rfl (by decide) (kk hW)
  · rw [if_neg c1] at hf
    refine R_iload_n (i := 2) rfl rfl ?_
    refine R_bipush (i := 3) rfl ?_
    refine R_icmple (i := 4) rfl (fun c2 => ?_) (fun c2 => ?_)
    · rw [if_pos c2] at hf
      refine R_aload_n (i := 7) rfl rfl ?_
      refine R_getF hW (i := 8) rfl rfl (Nat.le_of_ble_eq_true rfl) rfl ?_
      refine R_getF hW (i := 9) rfl rfl (Nat.le_of_ble_eq_true rfl) rfl ?_
      refine R_iload_n (i := 10) rfl rfl ?_
      refine R_putI hW (i := 11) rfl rfl (Nat.le_of_ble_eq_true rfl) (hg rfl hd) (fun h3 eh3 => ?_)
      replace hf := bnd_some eh3 hf
      have hW3 : WF 0 h3 := by rw [eh3]; exact hW
      refine R_aload_n (i := 12) rfl rfl ?_
      refine R_getF hW3 (i := 13) rfl rfl (Nat.le_of_ble_eq_true rfl) rfl ?_
      have zq4 := bind_some hf
      clear hf
      obtain ⟨q4, eq4, hf⟩ := zq4
      refine R_callV (vs := []) (st' := []) hW3 (i := 14) rfl rfl rfl (Nat.le_of_ble_eq_true rfl) rfl (Nat.le_of_ble_eq_true rfl) rfl (f3_l eq4 hW3 (hh rfl hd) (fun hW4 => ?_))
      refine R_iconst (i := 15) rfl ?_
      have hz := Option.some.inj hf
      subst hz
      exact R_zret (r := 1) (i := 16) rfl (by decide) (kk hW4)
    · rw [if_neg c2] at hf
      refine R_iconst (i := 5) rfl ?_
      have hz := Option.some.inj hf
      subst hz
      exact R_zret (r := 0) (i := 6) rfl (by decide) (kk hW)
set_option maxRecDepth 100000 in
set_option maxHeartbeats 4000000 in
theorem f64_l2_l {d N : Nat} {x1 : Int32} {s : Int32 × Hp} {Q : Option Value → Hp → Prop} {j : Nat} {s' : Int32 × Hp} (hf : f64_l2 N x1 s = some (j, s')) (hW : WF 0 s.2) (hd : 5 ≤ d) (k0 : j = 0 → WF 0 s'.2 → R 0 d 64 2 [some (.ref 22), some (.int x1), some (.int s'.1)] [] s'.2 Q) (k1 : j = 1 → WF 0 s'.2 → R 0 d 64 25 [none, none, none] [] s'.2 Q) : R 0 d 64 2 [some (.ref 22), some (.int x1), some (.int s.1)] [] s.2 Q := by
  unfold f64_l2 at hf
  refine R_iload_n (i := 2) rfl rfl ?_
  refine R_iflt (i := 3) rfl (fun c1 => ?_) (fun c1 => ?_)
  · rw [if_pos c1] at hf
    obtain ⟨hj, hs⟩ := Prod.mk.inj (Option.some.inj hf)
    subst hj
    subst hs
    refine R_weak [none, none, none] ⟨Or.inl rfl, Or.inl rfl, Or.inl rfl, trivial⟩ ?_
    exact k1 rfl hW
  · rw [if_neg c1] at hf
    refine R_aload_n (i := 4) rfl rfl ?_
    refine R_getI hW (i := 5) rfl rfl (Nat.le_of_ble_eq_true rfl) ?_
    refine R_sipush (i := 6) rfl ?_
    refine R_icmpge (i := 7) rfl (fun c2 => ?_) (fun c2 => ?_)
    · rw [if_pos c2] at hf
      obtain ⟨hj, hs⟩ := Prod.mk.inj (Option.some.inj hf)
      subst hj
      subst hs
      refine R_weak [none, none, none] ⟨Or.inl rfl, Or.inl rfl, Or.inl rfl, trivial⟩ ?_
      exact k1 rfl hW
    · rw [if_neg c2] at hf
      refine R_aload_n (i := 8) rfl rfl ?_
      refine R_getF hW (i := 9) rfl rfl (Nat.le_of_ble_eq_true rfl) rfl ?_
      refine R_aload_n (i := 10) rfl rfl ?_
      refine R_getI hW (i := 11) rfl rfl (Nat.le_of_ble_eq_true rfl) ?_
      refine R_iload_n (i := 12) rfl rfl ?_
      refine R_iload_n (i := 13) rfl rfl ?_
      refine R_iushr (i := 14) rfl ?_
      refine R_i2b (i := 15) rfl ?_
      have g3 := gd_some hf
      clear hf
      obtain ⟨g3, hf⟩ := g3
      refine R_bastore hW (i := 16) rfl rfl g3 (hg rfl hd) (fun h4 eh4 => ?_)
      replace hf := bnd_some eh4 hf
      have hW4 : WF 0 h4 := by rw [eh4]; exact hW
      refine R_aload_n (i := 17) rfl rfl ?_
      refine R_dup (i := 18) rfl rfl ?_
      refine R_getI hW4 (i := 19) rfl rfl (Nat.le_of_ble_eq_true rfl) ?_
      refine R_iconst (i := 20) rfl ?_
      refine R_iadd (i := 21) rfl ?_
      refine R_putI hW4 (i := 22) rfl rfl (Nat.le_of_ble_eq_true rfl) (hg rfl hd) (fun h5 eh5 => ?_)
      replace hf := bnd_some eh5 hf
      have hW5 : WF 0 h5 := by rw [eh5]; exact hW4
      obtain ⟨v6, e6⟩ : ∃ z : Int32, z = (s.1 + (-8 : Int32)) := ⟨_, rfl⟩
      replace hf := bnd_some e6 hf
      refine R_iinc [some (.ref 22), some (.int x1), some (.int v6)] (i := 23) rfl rfl (by rw [← e6]; rfl) ?_
      refine R_goto (i := 24) rfl ?_
      obtain ⟨hj, hs⟩ := Prod.mk.inj (Option.some.inj hf)
      subst hj
      subst hs
      exact k0 rfl hW5
set_option maxRecDepth 100000 in
set_option maxHeartbeats 4000000 in
theorem f64_l {d N : Nat} {p1 : Int32} {h : Hp} {Q : Option Value → Hp → Prop} {q : Hp} (hf : f64 N p1 h = some q) (hW : WF 0 h) (hd : 5 ≤ d) (kk : WF 0 q → Q (none) q) : R 0 d 64 0 [some (.ref 22), some (.int p1), none] [] h Q := by
  unfold f64 at hf
  refine R_bipush (i := 0) rfl ?_
  refine R_istore_n [some (.ref 22), some (.int p1), some (.int (24 : Int32))] (i := 1) rfl rfl ?_
  have zq7 := bind_some hf
  clear hf
  obtain ⟨q7, eq7, hf⟩ := zq7
  refine lp_link (P := fun u2 => WF 0 u2.2 → R 0 d 64 2 [some (.ref 22), some (.int p1), some (.int u2.1)] [] u2.2 Q) (E := fun e u2 => WF 0 u2.2 → R 0 d 64 25 [none, none, none] [] u2.2 Q) (fun s j s' hb k0 ke hWs => f64_l2_l hb hWs hd k0 (fun z y => ke 0 z y)) N ((24 : Int32), h) q7.1 q7.2 eq7 ?_ hW
  intro hW7
  have hz := Option.some.inj hf
  subst hz
  exact R_vret (i := 25) rfl (kk hW7)
set_option maxRecDepth 100000 in
set_option maxHeartbeats 4000000 in
theorem f95_l {d N : Nat} {p1 : Int32} {p2 : Int32} {p3 : Int32} {p4 : Int32} {p5 : Int32} {h : Hp} {Q : Option Value → Hp → Prop} {q : Int32 × Hp} (hf : f95 N p1 p2 p3 p4 p5 h = some q) (hW : WF 0 h) (hd : 6 ≤ d) (kk : WF 0 q.2 → Q (some (.int q.1)) q.2) : R 0 d 95 0 [some (.ref 0), some (.int p1), some (.int p2), some (.int p3), some (.int p4), some (.int p5)] [] h Q := by
  obtain ⟨d, rfl⟩ : ∃ z, d = z + 1 := ⟨d - 1, by omega⟩
  unfold f95 at hf
  refine R_aload_n (i := 0) rfl rfl ?_
  refine R_getF hW (i := 1) rfl rfl (Nat.le_of_ble_eq_true rfl) rfl ?_
  refine R_getI hW (i := 2) rfl rfl (Nat.le_of_ble_eq_true rfl) ?_
  refine R_bipush (i := 3) rfl ?_
  refine R_iadd (i := 4) rfl ?_
  refine R_sipush (i := 5) rfl ?_
  refine R_icmple (i := 6) rfl (fun c1 => ?_) (fun c1 => ?_)
  · rw [if_pos c1] at hf
    refine R_aload_n (i := 9) rfl rfl ?_
    refine R_getF hW (i := 10) rfl rfl (Nat.le_of_ble_eq_true rfl) rfl ?_
    refine R_iload_n (i := 11) rfl rfl ?_
    have zq2 := bind_some hf
    clear hf
    obtain ⟨q2, eq2, hf⟩ := zq2
    refine R_callV (vs := [.int p1]) (st' := []) hW (i := 12) rfl rfl rfl (Nat.le_of_ble_eq_true rfl) rfl (Nat.le_of_ble_eq_true rfl) rfl (f64_l eq2 hW (hh rfl hd) (fun hW2 => ?_))
    refine R_aload_n (i := 13) rfl rfl ?_
    refine R_getF hW2 (i := 14) rfl rfl (Nat.le_of_ble_eq_true rfl) rfl ?_
    refine R_iload_n (i := 15) rfl rfl ?_
    have zq3 := bind_some hf
    clear hf
    obtain ⟨q3, eq3, hf⟩ := zq3
    refine R_callV (vs := [.int p2]) (st' := []) hW2 (i := 16) rfl rfl rfl (Nat.le_of_ble_eq_true rfl) rfl (Nat.le_of_ble_eq_true rfl) rfl (f64_l eq3 hW2 (hh rfl hd) (fun hW3 => ?_))
    refine R_aload_n (i := 17) rfl rfl ?_
    refine R_getF hW3 (i := 18) rfl rfl (Nat.le_of_ble_eq_true rfl) rfl ?_
    refine R_iload_n (i := 19) rfl rfl ?_
    have zq4 := bind_some hf
    clear hf
    obtain ⟨q4, eq4, hf⟩ := zq4
    refine R_callV (vs := [.int p3]) (st' := []) hW3 (i := 20) rfl rfl rfl (Nat.le_of_ble_eq_true rfl) rfl (Nat.le_of_ble_eq_true rfl) rfl (f64_l eq4 hW3 (hh rfl hd) (fun hW4 => ?_))
    refine R_aload_n (i := 21) rfl rfl ?_
    refine R_getF hW4 (i := 22) rfl rfl (Nat.le_of_ble_eq_true rfl) rfl ?_
    refine R_iload (i := 23) rfl rfl ?_
    have zq5 := bind_some hf
    clear hf
    obtain ⟨q5, eq5, hf⟩ := zq5
    refine R_callV (vs := [.int p4]) (st' := []) hW4 (i := 24) rfl rfl rfl (Nat.le_of_ble_eq_true rfl) rfl (Nat.le_of_ble_eq_true rfl) rfl (f64_l eq5 hW4 (hh rfl hd) (fun hW5 => ?_))
    refine R_aload_n (i := 25) rfl rfl ?_
    refine R_getF hW5 (i := 26) rfl rfl (Nat.le_of_ble_eq_true rfl) rfl ?_
    refine R_iload (i := 27) rfl rfl ?_
    have zq6 := bind_some hf
    clear hf
    obtain ⟨q6, eq6, hf⟩ := zq6
    refine R_callV (vs := [.int p5]) (st' := []) hW5 (i := 28) rfl rfl rfl (Nat.le_of_ble_eq_true rfl) rfl (Nat.le_of_ble_eq_true rfl) rfl (f64_l eq6 hW5 (hh rfl hd) (fun hW6 => ?_))
    refine R_aload_n (i := 29) rfl rfl ?_
    refine R_getF hW6 (i := 30) rfl rfl (Nat.le_of_ble_eq_true rfl) rfl ?_
    refine R_getI hW6 (i := 31) rfl rfl (Nat.le_of_ble_eq_true rfl) ?_
    have hz := Option.some.inj hf
    subst hz
    exact R_iret (i := 32) rfl (kk hW6)
  · rw [if_neg c1] at hf
    refine R_iconst (i := 7) rfl ?_
    have hz := Option.some.inj hf
    subst hz
    exact R_iret (i := 8) rfl (kk hW)
set_option maxRecDepth 100000 in
set_option maxHeartbeats 4000000 in
theorem f96_l {d N : Nat} {p1 : Int32} {h : Hp} {Q : Option Value → Hp → Prop} {q : Int32 × Hp} (hf : f96 N p1 h = some q) (hW : WF 0 h) (hd : 5 ≤ d) (kk : WF 0 q.2 → Q (some (.int q.1)) q.2) : R 0 d 96 0 [some (.ref 0), some (.int p1)] [] h Q := by
  unfold f96 at hf
  refine R_iload_n (i := 0) rfl rfl ?_
  refine R_iflt (i := 1) rfl (fun c1 => ?_) (fun c1 => ?_)
  · rw [if_pos c1] at hf
    refine R_iconst (i := 7) rfl ?_
    have hz := Option.some.inj hf
    subst hz
    exact R_iret (i := 8) rfl (kk hW)
  · rw [if_neg c1] at hf
    refine R_iload_n (i := 2) rfl rfl ?_
    refine R_aload_n (i := 3) rfl rfl ?_
    refine R_getF hW (i := 4) rfl rfl (Nat.le_of_ble_eq_true rfl) rfl ?_
    refine R_getI hW (i := 5) rfl rfl (Nat.le_of_ble_eq_true rfl) ?_
    refine R_icmple (i := 6) rfl (fun c2 => ?_) (fun c2 => ?_)
    · rw [if_pos c2] at hf
      refine R_aload_n (i := 9) rfl rfl ?_
      refine R_getF hW (i := 10) rfl rfl (Nat.le_of_ble_eq_true rfl) rfl ?_
      refine R_iload_n (i := 11) rfl rfl ?_
      refine R_putI hW (i := 12) rfl rfl (Nat.le_of_ble_eq_true rfl) (hg rfl hd) (fun h3 eh3 => ?_)
      replace hf := bnd_some eh3 hf
      have hW3 : WF 0 h3 := by rw [eh3]; exact hW
      refine R_iload_n (i := 13) rfl rfl ?_
      have hz := Option.some.inj hf
      subst hz
      exact R_iret (i := 14) rfl (kk hW3)
    · rw [if_neg c2] at hf
      refine R_iconst (i := 7) rfl ?_
      have hz := Option.some.inj hf
      subst hz
      exact R_iret (i := 8) rfl (kk hW)
set_option maxRecDepth 100000 in
set_option maxHeartbeats 4000000 in
theorem f77_l {d N : Nat} {p0 : Nat} {h : Hp} {Q : Option Value → Hp → Prop} {q : Hp} (hf : f77 N p0 h = some q) (hW : WF 0 h) (hd : 5 ≤ d) (kk : WF 0 q → Q (none) q) : R 0 d 77 0 [some (.ref p0)] [] h Q := by
  unfold f77 at hf
  refine R_aload_n (i := 0) rfl rfl ?_
  refine R_iconst (i := 1) rfl ?_
  have g1 := gd_some hf
  clear hf
  obtain ⟨g1, hf⟩ := g1
  refine R_putI hW (i := 2) rfl g1 (Nat.le_of_ble_eq_true rfl) (hg rfl hd) (fun h2 eh2 => ?_)
  replace hf := bnd_some eh2 hf
  have hW2 : WF 0 h2 := by rw [eh2]; exact hW
  refine R_aload_n (i := 3) rfl rfl ?_
  refine R_iconst (i := 4) rfl ?_
  have g3 := gd_some hf
  clear hf
  obtain ⟨g3, hf⟩ := g3
  refine R_putI hW2 (i := 5) rfl g3 (Nat.le_of_ble_eq_true rfl) (hg rfl hd) (fun h4 eh4 => ?_)
  replace hf := bnd_some eh4 hf
  have hW4 : WF 0 h4 := by rw [eh4]; exact hW2
  refine R_aload_n (i := 6) rfl rfl ?_
  refine R_iconst (i := 7) rfl ?_
  have g5 := gd_some hf
  clear hf
  obtain ⟨g5, hf⟩ := g5
  refine R_putI hW4 (i := 8) rfl g5 (Nat.le_of_ble_eq_true rfl) (hg rfl hd) (fun h6 eh6 => ?_)
  replace hf := bnd_some eh6 hf
  have hW6 : WF 0 h6 := by rw [eh6]; exact hW4
  have hz := Option.some.inj hf
  subst hz
  exact R_vret (i := 9) rfl (kk hW6)
set_option maxRecDepth 100000 in
set_option maxHeartbeats 4000000 in
theorem f66_b19_l {d N : Nat} {h : Hp} {Q : Option Value → Hp → Prop} {j : Nat} {s' : Hp} (hf : f66_b19 N h = some (j, s')) (hW : WF 0 h) (hd : 5 ≤ d) (k0 : j = 0 → WF 0 s' → R 0 d 66 0 [some (.ref 22)] [] s' Q) (k1 : j = 1 → WF 0 s' → R 0 d 66 26 [none] [] s' Q) : R 0 d 66 19 [some (.ref 22)] [] h Q := by
  unfold f66_b19 at hf
  refine R_aload_n (i := 19) rfl rfl ?_
  refine R_dup (i := 20) rfl rfl ?_
  refine R_getI hW (i := 21) rfl rfl (Nat.le_of_ble_eq_true rfl) ?_
  refine R_iconst (i := 22) rfl ?_
  refine R_iadd (i := 23) rfl ?_
  refine R_putI hW (i := 24) rfl rfl (Nat.le_of_ble_eq_true rfl) (hg rfl hd) (fun h8 eh8 => ?_)
  replace hf := bnd_some eh8 hf
  have hW8 : WF 0 h8 := by rw [eh8]; exact hW
  refine R_goto (i := 25) rfl ?_
  obtain ⟨hj, hs⟩ := Prod.mk.inj (Option.some.inj hf)
  subst hj
  subst hs
  exact k0 rfl hW8
set_option maxRecDepth 100000 in
set_option maxHeartbeats 4000000 in
theorem f66_l0_l {d N : Nat} {s : Hp} {Q : Option Value → Hp → Prop} {j : Nat} {s' : Hp} (hf : f66_l0 N s = some (j, s')) (hW : WF 0 s) (hd : 5 ≤ d) (k0 : j = 0 → WF 0 s' → R 0 d 66 0 [some (.ref 22)] [] s' Q) (k1 : j = 1 → WF 0 s' → R 0 d 66 26 [none] [] s' Q) : R 0 d 66 0 [some (.ref 22)] [] s Q := by
  unfold f66_l0 at hf
  refine R_aload_n (i := 0) rfl rfl ?_
  refine R_getI hW (i := 1) rfl rfl (Nat.le_of_ble_eq_true rfl) ?_
  refine R_aload_n (i := 2) rfl rfl ?_
  refine R_getI hW (i := 3) rfl rfl (Nat.le_of_ble_eq_true rfl) ?_
  refine R_icmpge (i := 4) rfl (fun c5 => ?_) (fun c5 => ?_)
  · rw [if_pos c5] at hf
    obtain ⟨hj, hs⟩ := Prod.mk.inj (Option.some.inj hf)
    subst hj
    subst hs
    refine R_weak [none] ⟨Or.inl rfl, trivial⟩ ?_
    exact k1 rfl hW
  · rw [if_neg c5] at hf
    refine R_aload_n (i := 5) rfl rfl ?_
    refine R_getF hW (i := 6) rfl rfl (Nat.le_of_ble_eq_true rfl) rfl ?_
    refine R_aload_n (i := 7) rfl rfl ?_
    refine R_getI hW (i := 8) rfl rfl (Nat.le_of_ble_eq_true rfl) ?_
    have g6 := gd_some hf
    clear hf
    obtain ⟨g6, hf⟩ := g6
    refine R_baload hW (i := 9) rfl rfl g6 ?_
    refine R_bipush (i := 10) rfl ?_
    refine R_icmpeq (i := 11) rfl (fun c7 => ?_) (fun c7 => ?_)
    · rw [if_pos c7] at hf
      exact f66_b19_l hf hW hd k0 k1
    · rw [if_neg c7] at hf
      refine R_aload_n (i := 12) rfl rfl ?_
      refine R_getF hW (i := 13) rfl rfl (Nat.le_of_ble_eq_true rfl) rfl ?_
      refine R_aload_n (i := 14) rfl rfl ?_
      refine R_getI hW (i := 15) rfl rfl (Nat.le_of_ble_eq_true rfl) ?_
      have g9 := gd_some hf
      clear hf
      obtain ⟨g9, hf⟩ := g9
      refine R_baload hW (i := 16) rfl rfl g9 ?_
      refine R_bipush (i := 17) rfl ?_
      refine R_icmpne (i := 18) rfl (fun c10 => ?_) (fun c10 => ?_)
      · rw [if_neg c10] at hf
        obtain ⟨hj, hs⟩ := Prod.mk.inj (Option.some.inj hf)
        subst hj
        subst hs
        refine R_weak [none] ⟨Or.inl rfl, trivial⟩ ?_
        exact k1 rfl hW
      · rw [if_pos c10] at hf
        exact f66_b19_l hf hW hd k0 k1
set_option maxRecDepth 100000 in
set_option maxHeartbeats 4000000 in
theorem f66_l {d N : Nat} {h : Hp} {Q : Option Value → Hp → Prop} {q : Hp} (hf : f66 N h = some q) (hW : WF 0 h) (hd : 5 ≤ d) (kk : WF 0 q → Q (none) q) : R 0 d 66 0 [some (.ref 22)] [] h Q := by
  unfold f66 at hf
  refine R_aload_n (i := 0) rfl rfl ?_
  refine R_getI hW (i := 1) rfl rfl (Nat.le_of_ble_eq_true rfl) ?_
  refine R_aload_n (i := 2) rfl rfl ?_
  refine R_getI hW (i := 3) rfl rfl (Nat.le_of_ble_eq_true rfl) ?_
  refine R_icmpge (i := 4) rfl (fun c1 => ?_) (fun c1 => ?_)
  · rw [if_pos c1] at hf
    have hz := Option.some.inj hf
    subst hz
    exact R_vret (i := 26) rfl (kk hW)
  · rw [if_neg c1] at hf
    refine R_aload_n (i := 5) rfl rfl ?_
    refine R_getF hW (i := 6) rfl rfl (Nat.le_of_ble_eq_true rfl) rfl ?_
    refine R_aload_n (i := 7) rfl rfl ?_
    refine R_getI hW (i := 8) rfl rfl (Nat.le_of_ble_eq_true rfl) ?_
    have g2 := gd_some hf
    clear hf
    obtain ⟨g2, hf⟩ := g2
    refine R_baload hW (i := 9) rfl rfl g2 ?_
    refine R_bipush (i := 10) rfl ?_
    refine R_icmpeq (i := 11) rfl (fun c3 => ?_) (fun c3 => ?_)
    · rw [if_pos c3] at hf
      refine R_aload_n (i := 19) rfl rfl ?_
      refine R_dup (i := 20) rfl rfl ?_
      refine R_getI hW (i := 21) rfl rfl (Nat.le_of_ble_eq_true rfl) ?_
      refine R_iconst (i := 22) rfl ?_
      refine R_iadd (i := 23) rfl ?_
      refine R_putI hW (i := 24) rfl rfl (Nat.le_of_ble_eq_true rfl) (hg rfl hd) (fun h4 eh4 => ?_)
      replace hf := bnd_some eh4 hf
      have hW4 : WF 0 h4 := by rw [eh4]; exact hW
      refine R_goto (i := 25) rfl ?_
      have zq11 := bind_some hf
      clear hf
      obtain ⟨q11, eq11, hf⟩ := zq11
      refine lp_link (P := fun u0 => WF 0 u0 → R 0 d 66 0 [some (.ref 22)] [] u0 Q) (E := fun e u0 => WF 0 u0 → R 0 d 66 26 [none] [] u0 Q) (fun s j s' hb k0 ke hWs => f66_l0_l hb hWs hd k0 (fun z y => ke 0 z y)) N h4 q11.1 q11.2 eq11 ?_ hW4
      intro hW11
      have hz := Option.some.inj hf
      subst hz
      exact R_vret (i := 26) rfl (kk hW11)
    · rw [if_neg c3] at hf
      refine R_aload_n (i := 12) rfl rfl ?_
      refine R_getF hW (i := 13) rfl rfl (Nat.le_of_ble_eq_true rfl) rfl ?_
      refine R_aload_n (i := 14) rfl rfl ?_
      refine R_getI hW (i := 15) rfl rfl (Nat.le_of_ble_eq_true rfl) ?_
      have g12 := gd_some hf
      clear hf
      obtain ⟨g12, hf⟩ := g12
      refine R_baload hW (i := 16) rfl rfl g12 ?_
      refine R_bipush (i := 17) rfl ?_
      refine R_icmpne (i := 18) rfl (fun c13 => ?_) (fun c13 => ?_)
      · rw [if_neg c13] at hf
        have hz := Option.some.inj hf
        subst hz
        exact R_vret (i := 26) rfl (kk hW)
      · rw [if_pos c13] at hf
        refine R_aload_n (i := 19) rfl rfl ?_
        refine R_dup (i := 20) rfl rfl ?_
        refine R_getI hW (i := 21) rfl rfl (Nat.le_of_ble_eq_true rfl) ?_
        refine R_iconst (i := 22) rfl ?_
        refine R_iadd (i := 23) rfl ?_
        refine R_putI hW (i := 24) rfl rfl (Nat.le_of_ble_eq_true rfl) (hg rfl hd) (fun h14 eh14 => ?_)
        replace hf := bnd_some eh14 hf
        have hW14 : WF 0 h14 := by rw [eh14]; exact hW
        refine R_goto (i := 25) rfl ?_
        have zq15 := bind_some hf
        clear hf
        obtain ⟨q15, eq15, hf⟩ := zq15
        refine lp_link (P := fun u0 => WF 0 u0 → R 0 d 66 0 [some (.ref 22)] [] u0 Q) (E := fun e u0 => WF 0 u0 → R 0 d 66 26 [none] [] u0 Q) (fun s j s' hb k0 ke hWs => f66_l0_l hb hWs hd k0 (fun z y => ke 0 z y)) N h14 q15.1 q15.2 eq15 ?_ hW14
        intro hW15
        have hz := Option.some.inj hf
        subst hz
        exact R_vret (i := 26) rfl (kk hW15)
set_option maxRecDepth 100000 in
set_option maxHeartbeats 4000000 in
theorem f74_b14_l {d : Nat} {h : Hp} {Q : Option Value → Hp → Prop} (hd : 0 ≤ d) (kk : Q (some (.int (f74_b14))) h) : R 0 d 74 14 [none] [] h Q := by
  unfold f74_b14 at kk
  refine R_iconst (i := 14) rfl ?_
  exact R_zret (r := 0) (i := 15) rfl (by decide) kk
set_option maxRecDepth 100000 in
set_option maxHeartbeats 4000000 in
theorem f74_b12_l {d : Nat} {h : Hp} {Q : Option Value → Hp → Prop} (hd : 0 ≤ d) (kk : Q (some (.int (f74_b12))) h) : R 0 d 74 12 [none] [] h Q := by
  unfold f74_b12 at kk
  refine R_iconst (i := 12) rfl ?_
  refine R_goto (i := 13) rfl ?_
  exact R_zret (r := 1) (i := 15) rfl (by decide) kk
set_option maxRecDepth 100000 in
set_option maxHeartbeats 4000000 in
theorem f74_b6_l {d : Nat} {x0 : Int32} {h : Hp} {Q : Option Value → Hp → Prop} (hd : 0 ≤ d) (kk : Q (some (.int (f74_b6 x0))) h) : R 0 d 74 6 [some (.int x0)] [] h Q := by
  unfold f74_b6 at kk
  refine R_iload_n (i := 6) rfl rfl ?_
  refine R_bipush (i := 7) rfl ?_
  refine R_icmplt (i := 8) rfl (fun c2 => ?_) (fun c2 => ?_)
  · rw [if_pos c2] at kk
    refine R_weak [none] ⟨Or.inl rfl, trivial⟩ ?_
    exact f74_b14_l hd kk
  · rw [if_neg c2] at kk
    refine R_iload_n (i := 9) rfl rfl ?_
    refine R_bipush (i := 10) rfl ?_
    refine R_icmpgt (i := 11) rfl (fun c3 => ?_) (fun c3 => ?_)
    · rw [if_pos c3] at kk
      refine R_weak [none] ⟨Or.inl rfl, trivial⟩ ?_
      exact f74_b14_l hd kk
    · rw [if_neg c3] at kk
      refine R_weak [none] ⟨Or.inl rfl, trivial⟩ ?_
      exact f74_b12_l hd kk
set_option maxRecDepth 100000 in
set_option maxHeartbeats 4000000 in
theorem f74_l {d : Nat} {p0 : Int32} {h : Hp} {Q : Option Value → Hp → Prop} (hd : 0 ≤ d) (kk : Q (some (.int (f74 p0))) h) : R 0 d 74 0 [some (.int p0)] [] h Q := by
  unfold f74 at kk
  refine R_iload_n (i := 0) rfl rfl ?_
  refine R_bipush (i := 1) rfl ?_
  refine R_icmplt (i := 2) rfl (fun c1 => ?_) (fun c1 => ?_)
  · rw [if_pos c1] at kk
    exact f74_b6_l hd kk
  · rw [if_neg c1] at kk
    refine R_iload_n (i := 3) rfl rfl ?_
    refine R_bipush (i := 4) rfl ?_
    refine R_icmple (i := 5) rfl (fun c4 => ?_) (fun c4 => ?_)
    · rw [if_pos c4] at kk
      refine R_weak [none] ⟨Or.inl rfl, trivial⟩ ?_
      exact f74_b12_l hd kk
    · rw [if_neg c4] at kk
      exact f74_b6_l hd kk
set_option maxRecDepth 100000 in
set_option maxHeartbeats 4000000 in
theorem f75_b8_l {d : Nat} {h : Hp} {Q : Option Value → Hp → Prop} (hd : 0 ≤ d) (kk : Q (some (.int (f75_b8))) h) : R 0 d 75 8 [none] [] h Q := by
  unfold f75_b8 at kk
  refine R_iconst (i := 8) rfl ?_
  exact R_zret (r := 0) (i := 9) rfl (by decide) kk
set_option maxRecDepth 100000 in
set_option maxHeartbeats 4000000 in
theorem f75_l {d : Nat} {p0 : Int32} {h : Hp} {Q : Option Value → Hp → Prop} (hd : 0 ≤ d) (kk : Q (some (.int (f75 p0))) h) : R 0 d 75 0 [some (.int p0)] [] h Q := by
  unfold f75 at kk
  refine R_iload_n (i := 0) rfl rfl ?_
  refine R_bipush (i := 1) rfl ?_
  refine R_icmplt (i := 2) rfl (fun c1 => ?_) (fun c1 => ?_)
  · rw [if_pos c1] at kk
    refine R_weak [none] ⟨Or.inl rfl, trivial⟩ ?_
    exact f75_b8_l hd kk
  · rw [if_neg c1] at kk
    refine R_iload_n (i := 3) rfl rfl ?_
    refine R_bipush (i := 4) rfl ?_
    refine R_icmpgt (i := 5) rfl (fun c2 => ?_) (fun c2 => ?_)
    · rw [if_pos c2] at kk
      refine R_weak [none] ⟨Or.inl rfl, trivial⟩ ?_
      exact f75_b8_l hd kk
    · rw [if_neg c2] at kk
      refine R_iconst (i := 6) rfl ?_
      refine R_goto (i := 7) rfl ?_
      exact R_zret (r := 1) (i := 9) rfl (by decide) kk
set_option maxRecDepth 100000 in
set_option maxHeartbeats 4000000 in
theorem f71_l {d N : Nat} {h : Hp} {Q : Option Value → Hp → Prop} {q : Int32 × Hp} (hf : f71 N h = some q) (hW : WF 0 h) (hd : 5 ≤ d) (kk : WF 0 q.2 → Q (some (.int q.1)) q.2) : R 0 d 71 0 [some (.ref 22)] [] h Q := by
  unfold f71 at hf
  refine R_aload_n (i := 0) rfl rfl ?_
  refine R_getI hW (i := 1) rfl rfl (Nat.le_of_ble_eq_true rfl) ?_
  refine R_aload_n (i := 2) rfl rfl ?_
  refine R_getI hW (i := 3) rfl rfl (Nat.le_of_ble_eq_true rfl) ?_
  refine R_icmpge (i := 4) rfl (fun c1 => ?_) (fun c1 => ?_)
  · rw [if_pos c1] at hf
    refine R_iconst (i := 20) rfl ?_
    have hz := Option.some.inj hf
    subst hz
    exact R_zret (r := 0) (i := 21) rfl (by decide) (kk hW)
  · rw [if_neg c1] at hf
    refine R_aload_n (i := 5) rfl rfl ?_
    refine R_getF hW (i := 6) rfl rfl (Nat.le_of_ble_eq_true rfl) rfl ?_
    refine R_aload_n (i := 7) rfl rfl ?_
    refine R_getI hW (i := 8) rfl rfl (Nat.le_of_ble_eq_true rfl) ?_
    have g2 := gd_some hf
    clear hf
    obtain ⟨g2, hf⟩ := g2
    refine R_baload hW (i := 9) rfl rfl g2 ?_
    refine R_bipush (i := 10) rfl ?_
    refine R_icmpne (i := 11) rfl (fun c3 => ?_) (fun c3 => ?_)
    · rw [if_neg c3] at hf
      refine R_iconst (i := 20) rfl ?_
      have hz := Option.some.inj hf
      subst hz
      exact R_zret (r := 0) (i := 21) rfl (by decide) (kk hW)
    · rw [if_pos c3] at hf
      refine R_aload_n (i := 12) rfl rfl ?_
      refine R_dup (i := 13) rfl rfl ?_
      refine R_getI hW (i := 14) rfl rfl (Nat.le_of_ble_eq_true rfl) ?_
      refine R_iconst (i := 15) rfl ?_
      refine R_iadd (i := 16) rfl ?_
      refine R_putI hW (i := 17) rfl rfl (Nat.le_of_ble_eq_true rfl) (hg rfl hd) (fun h4 eh4 => ?_)
      replace hf := bnd_some eh4 hf
      have hW4 : WF 0 h4 := by rw [eh4]; exact hW
      refine R_iconst (i := 18) rfl ?_
      have hz := Option.some.inj hf
      subst hz
      exact R_zret (r := 1) (i := 19) rfl (by decide) (kk hW4)
set_option maxRecDepth 100000 in
set_option maxHeartbeats 4000000 in
theorem f70_l {d N : Nat} {p1 : Int32} {h : Hp} {Q : Option Value → Hp → Prop} {q : Int32 × Hp} (hf : f70 N p1 h = some q) (hW : WF 0 h) (hd : 6 ≤ d) (kk : WF 0 q.2 → Q (some (.int q.1)) q.2) : R 0 d 70 0 [some (.ref 22), some (.int p1)] [] h Q := by
  obtain ⟨d, rfl⟩ : ∃ z, d = z + 1 := ⟨d - 1, by omega⟩
  unfold f70 at hf
  refine R_iload_n (i := 0) rfl rfl ?_
  refine R_switch (i := 1) rfl ?_
  refine R_swc (lo := 35) (lo' := 36) (by decide) (fun c1 => ?_) (fun c1 => ?_)
  · rw [if_pos c1] at hf
    refine R_bipush (i := 26) rfl ?_
    have hz := Option.some.inj hf
    subst hz
    exact R_iret (i := 27) rfl (kk hW)
  rw [if_neg c1] at hf
  refine R_swc (lo := 36) (lo' := 37) (by decide) (fun c2 => ?_) (fun c2 => ?_)
  · rw [if_pos c2] at hf
    refine R_bipush (i := 34) rfl ?_
    have hz := Option.some.inj hf
    subst hz
    exact R_iret (i := 35) rfl (kk hW)
  rw [if_neg c2] at hf
  refine R_swc (lo := 37) (lo' := 38) (by decide) (fun c3 => ?_) (fun c3 => ?_)
  · rw [if_pos c3] at hf
    refine R_bipush (i := 34) rfl ?_
    have hz := Option.some.inj hf
    subst hz
    exact R_iret (i := 35) rfl (kk hW)
  rw [if_neg c3] at hf
  refine R_swc (lo := 38) (lo' := 39) (by decide) (fun c4 => ?_) (fun c4 => ?_)
  · rw [if_pos c4] at hf
    refine R_bipush (i := 34) rfl ?_
    have hz := Option.some.inj hf
    subst hz
    exact R_iret (i := 35) rfl (kk hW)
  rw [if_neg c4] at hf
  refine R_swc (lo := 39) (lo' := 40) (by decide) (fun c5 => ?_) (fun c5 => ?_)
  · rw [if_pos c5] at hf
    refine R_bipush (i := 34) rfl ?_
    have hz := Option.some.inj hf
    subst hz
    exact R_iret (i := 35) rfl (kk hW)
  rw [if_neg c5] at hf
  refine R_swc (lo := 40) (lo' := 41) (by decide) (fun c6 => ?_) (fun c6 => ?_)
  · rw [if_pos c6] at hf
    refine R_bipush (i := 28) rfl ?_
    have hz := Option.some.inj hf
    subst hz
    exact R_iret (i := 29) rfl (kk hW)
  rw [if_neg c6] at hf
  refine R_swc (lo := 41) (lo' := 42) (by decide) (fun c7 => ?_) (fun c7 => ?_)
  · rw [if_pos c7] at hf
    refine R_bipush (i := 30) rfl ?_
    have hz := Option.some.inj hf
    subst hz
    exact R_iret (i := 31) rfl (kk hW)
  rw [if_neg c7] at hf
  refine R_swc (lo := 42) (lo' := 43) (by decide) (fun c8 => ?_) (fun c8 => ?_)
  · rw [if_pos c8] at hf
    refine R_bipush (i := 6) rfl ?_
    have hz := Option.some.inj hf
    subst hz
    exact R_iret (i := 7) rfl (kk hW)
  rw [if_neg c8] at hf
  refine R_swc (lo := 43) (lo' := 44) (by decide) (fun c9 => ?_) (fun c9 => ?_)
  · rw [if_pos c9] at hf
    refine R_bipush (i := 2) rfl ?_
    have hz := Option.some.inj hf
    subst hz
    exact R_iret (i := 3) rfl (kk hW)
  rw [if_neg c9] at hf
  refine R_swc (lo := 44) (lo' := 45) (by decide) (fun c10 => ?_) (fun c10 => ?_)
  · rw [if_pos c10] at hf
    refine R_bipush (i := 34) rfl ?_
    have hz := Option.some.inj hf
    subst hz
    exact R_iret (i := 35) rfl (kk hW)
  rw [if_neg c10] at hf
  refine R_swc (lo := 45) (lo' := 46) (by decide) (fun c11 => ?_) (fun c11 => ?_)
  · rw [if_pos c11] at hf
    refine R_bipush (i := 4) rfl ?_
    have hz := Option.some.inj hf
    subst hz
    exact R_iret (i := 5) rfl (kk hW)
  rw [if_neg c11] at hf
  refine R_swc (lo := 46) (lo' := 47) (by decide) (fun c12 => ?_) (fun c12 => ?_)
  · rw [if_pos c12] at hf
    refine R_bipush (i := 34) rfl ?_
    have hz := Option.some.inj hf
    subst hz
    exact R_iret (i := 35) rfl (kk hW)
  rw [if_neg c12] at hf
  refine R_swc (lo := 47) (lo' := 48) (by decide) (fun c13 => ?_) (fun c13 => ?_)
  · rw [if_pos c13] at hf
    refine R_bipush (i := 8) rfl ?_
    have hz := Option.some.inj hf
    subst hz
    exact R_iret (i := 9) rfl (kk hW)
  rw [if_neg c13] at hf
  refine R_swc (lo := 48) (lo' := 49) (by decide) (fun c14 => ?_) (fun c14 => ?_)
  · rw [if_pos c14] at hf
    refine R_bipush (i := 34) rfl ?_
    have hz := Option.some.inj hf
    subst hz
    exact R_iret (i := 35) rfl (kk hW)
  rw [if_neg c14] at hf
  refine R_swc (lo := 49) (lo' := 50) (by decide) (fun c15 => ?_) (fun c15 => ?_)
  · rw [if_pos c15] at hf
    refine R_bipush (i := 34) rfl ?_
    have hz := Option.some.inj hf
    subst hz
    exact R_iret (i := 35) rfl (kk hW)
  rw [if_neg c15] at hf
  refine R_swc (lo := 50) (lo' := 51) (by decide) (fun c16 => ?_) (fun c16 => ?_)
  · rw [if_pos c16] at hf
    refine R_bipush (i := 34) rfl ?_
    have hz := Option.some.inj hf
    subst hz
    exact R_iret (i := 35) rfl (kk hW)
  rw [if_neg c16] at hf
  refine R_swc (lo := 51) (lo' := 52) (by decide) (fun c17 => ?_) (fun c17 => ?_)
  · rw [if_pos c17] at hf
    refine R_bipush (i := 34) rfl ?_
    have hz := Option.some.inj hf
    subst hz
    exact R_iret (i := 35) rfl (kk hW)
  rw [if_neg c17] at hf
  refine R_swc (lo := 52) (lo' := 53) (by decide) (fun c18 => ?_) (fun c18 => ?_)
  · rw [if_pos c18] at hf
    refine R_bipush (i := 34) rfl ?_
    have hz := Option.some.inj hf
    subst hz
    exact R_iret (i := 35) rfl (kk hW)
  rw [if_neg c18] at hf
  refine R_swc (lo := 53) (lo' := 54) (by decide) (fun c19 => ?_) (fun c19 => ?_)
  · rw [if_pos c19] at hf
    refine R_bipush (i := 34) rfl ?_
    have hz := Option.some.inj hf
    subst hz
    exact R_iret (i := 35) rfl (kk hW)
  rw [if_neg c19] at hf
  refine R_swc (lo := 54) (lo' := 55) (by decide) (fun c20 => ?_) (fun c20 => ?_)
  · rw [if_pos c20] at hf
    refine R_bipush (i := 34) rfl ?_
    have hz := Option.some.inj hf
    subst hz
    exact R_iret (i := 35) rfl (kk hW)
  rw [if_neg c20] at hf
  refine R_swc (lo := 55) (lo' := 56) (by decide) (fun c21 => ?_) (fun c21 => ?_)
  · rw [if_pos c21] at hf
    refine R_bipush (i := 34) rfl ?_
    have hz := Option.some.inj hf
    subst hz
    exact R_iret (i := 35) rfl (kk hW)
  rw [if_neg c21] at hf
  refine R_swc (lo := 56) (lo' := 57) (by decide) (fun c22 => ?_) (fun c22 => ?_)
  · rw [if_pos c22] at hf
    refine R_bipush (i := 34) rfl ?_
    have hz := Option.some.inj hf
    subst hz
    exact R_iret (i := 35) rfl (kk hW)
  rw [if_neg c22] at hf
  refine R_swc (lo := 57) (lo' := 58) (by decide) (fun c23 => ?_) (fun c23 => ?_)
  · rw [if_pos c23] at hf
    refine R_bipush (i := 34) rfl ?_
    have hz := Option.some.inj hf
    subst hz
    exact R_iret (i := 35) rfl (kk hW)
  rw [if_neg c23] at hf
  refine R_swc (lo := 58) (lo' := 59) (by decide) (fun c24 => ?_) (fun c24 => ?_)
  · rw [if_pos c24] at hf
    refine R_bipush (i := 34) rfl ?_
    have hz := Option.some.inj hf
    subst hz
    exact R_iret (i := 35) rfl (kk hW)
  rw [if_neg c24] at hf
  refine R_swc (lo := 59) (lo' := 60) (by decide) (fun c25 => ?_) (fun c25 => ?_)
  · rw [if_pos c25] at hf
    refine R_bipush (i := 32) rfl ?_
    have hz := Option.some.inj hf
    subst hz
    exact R_iret (i := 33) rfl (kk hW)
  rw [if_neg c25] at hf
  refine R_swc (lo := 60) (lo' := 61) (by decide) (fun c26 => ?_) (fun c26 => ?_)
  · rw [if_pos c26] at hf
    refine R_aload_n (i := 10) rfl rfl ?_
    have zq27 := bind_some hf
    clear hf
    obtain ⟨q27, eq27, hf⟩ := zq27
    refine R_callV (vs := []) (st' := []) hW (i := 11) rfl rfl rfl (Nat.le_of_ble_eq_true rfl) rfl (Nat.le_of_ble_eq_true rfl) rfl (f71_l eq27 hW (hh rfl hd) (fun hW27 => ?_))
    refine R_ifeq (i := 12) rfl (fun c28 => ?_) (fun c28 => ?_)
    · rw [if_pos c28] at hf
      refine R_bipush (i := 15) rfl ?_
      have hz := Option.some.inj hf
      subst hz
      exact R_iret (i := 16) rfl (kk hW27)
    · rw [if_neg c28] at hf
      refine R_bipush (i := 13) rfl ?_
      refine R_goto (i := 14) rfl ?_
      have hz := Option.some.inj hf
      subst hz
      exact R_iret (i := 16) rfl (kk hW27)
  rw [if_neg c26] at hf
  refine R_swc (lo := 61) (lo' := 62) (by decide) (fun c29 => ?_) (fun c29 => ?_)
  · rw [if_pos c29] at hf
    refine R_bipush (i := 24) rfl ?_
    have hz := Option.some.inj hf
    subst hz
    exact R_iret (i := 25) rfl (kk hW)
  rw [if_neg c29] at hf
  refine R_swc (lo := 62) (lo' := 63) (by decide) (fun c30 => ?_) (fun c30 => ?_)
  · rw [if_pos c30] at hf
    refine R_aload_n (i := 17) rfl rfl ?_
    have zq31 := bind_some hf
    clear hf
    obtain ⟨q31, eq31, hf⟩ := zq31
    refine R_callV (vs := []) (st' := []) hW (i := 18) rfl rfl rfl (Nat.le_of_ble_eq_true rfl) rfl (Nat.le_of_ble_eq_true rfl) rfl (f71_l eq31 hW (hh rfl hd) (fun hW31 => ?_))
    refine R_ifeq (i := 19) rfl (fun c32 => ?_) (fun c32 => ?_)
    · rw [if_pos c32] at hf
      refine R_bipush (i := 22) rfl ?_
      have hz := Option.some.inj hf
      subst hz
      exact R_iret (i := 23) rfl (kk hW31)
    · rw [if_neg c32] at hf
      refine R_bipush (i := 20) rfl ?_
      refine R_goto (i := 21) rfl ?_
      have hz := Option.some.inj hf
      subst hz
      exact R_iret (i := 23) rfl (kk hW31)
  rw [if_neg c30] at hf
  refine R_swn ?_
  refine R_bipush (i := 34) rfl ?_
  have hz := Option.some.inj hf
  subst hz
  exact R_iret (i := 35) rfl (kk hW)
set_option maxRecDepth 100000 in
set_option maxHeartbeats 4000000 in
theorem f69_l2_l {d N : Nat} {s : Int32 × Hp} {Q : Option Value → Hp → Prop} {j : Nat} {s' : Int32 × Hp} (hf : f69_l2 N s = some (j, s')) (hW : WF 0 s.2) (hd : 5 ≤ d) (k0 : j = 0 → WF 0 s'.2 → R 0 d 69 2 [some (.ref 22), some (.int s'.1)] [] s'.2 Q) (k1 : j = 1 → WF 0 s'.2 → R 0 d 69 35 [none, some (.int s'.1)] [] s'.2 Q) : R 0 d 69 2 [some (.ref 22), some (.int s.1)] [] s.2 Q := by
  obtain ⟨d, rfl⟩ : ∃ z, d = z + 1 := ⟨d - 1, by omega⟩
  unfold f69_l2 at hf
  refine R_aload_n (i := 2) rfl rfl ?_
  refine R_getI hW (i := 3) rfl rfl (Nat.le_of_ble_eq_true rfl) ?_
  refine R_aload_n (i := 4) rfl rfl ?_
  refine R_getI hW (i := 5) rfl rfl (Nat.le_of_ble_eq_true rfl) ?_
  refine R_icmpge (i := 6) rfl (fun c1 => ?_) (fun c1 => ?_)
  · rw [if_pos c1] at hf
    obtain ⟨hj, hs⟩ := Prod.mk.inj (Option.some.inj hf)
    subst hj
    subst hs
    refine R_weak [none, some (.int s.1)] ⟨Or.inl rfl, Or.inr rfl, trivial⟩ ?_
    exact k1 rfl hW
  · rw [if_neg c1] at hf
    refine R_aload_n (i := 7) rfl rfl ?_
    refine R_getF hW (i := 8) rfl rfl (Nat.le_of_ble_eq_true rfl) rfl ?_
    refine R_aload_n (i := 9) rfl rfl ?_
    refine R_getI hW (i := 10) rfl rfl (Nat.le_of_ble_eq_true rfl) ?_
    have g2 := gd_some hf
    clear hf
    obtain ⟨g2, hf⟩ := g2
    refine R_baload hW (i := 11) rfl rfl g2 ?_
    refine R_call (vs := [.int (hI s.2 23 (ix (hI s.2 22 4)))]) (st' := []) (i := 12) rfl (by decide) (by decide) rfl rfl (Nat.le_of_ble_eq_true rfl) rfl (f75_l (hh rfl hd) ?_)
    refine R_ifeq (i := 13) rfl (fun c3 => ?_) (fun c3 => ?_)
    · rw [if_pos c3] at hf
      obtain ⟨hj, hs⟩ := Prod.mk.inj (Option.some.inj hf)
      subst hj
      subst hs
      refine R_weak [none, some (.int s.1)] ⟨Or.inl rfl, Or.inr rfl, trivial⟩ ?_
      exact k1 rfl hW
    · rw [if_neg c3] at hf
      refine R_iload_n (i := 14) rfl rfl ?_
      refine R_bipush (i := 15) rfl ?_
      refine R_imul (i := 16) rfl ?_
      refine R_aload_n (i := 17) rfl rfl ?_
      refine R_getF hW (i := 18) rfl rfl (Nat.le_of_ble_eq_true rfl) rfl ?_
      refine R_aload_n (i := 19) rfl rfl ?_
      refine R_getI hW (i := 20) rfl rfl (Nat.le_of_ble_eq_true rfl) ?_
      have g4 := gd_some hf
      clear hf
      obtain ⟨g4, hf⟩ := g4
      refine R_baload hW (i := 21) rfl rfl g4 ?_
      refine R_iadd (i := 22) rfl ?_
      refine R_bipush (i := 23) rfl ?_
      refine R_isub (i := 24) rfl ?_
      refine R_sipush (i := 25) rfl ?_
      refine R_mmin (i := 26) rfl (hg rfl hd) (Nat.le_of_ble_eq_true rfl) ?_
      refine R_topi (fun v5 e5 => ?_)
      replace hf := bnd_some e5 hf
      refine R_istore_n [some (.ref 22), some (.int v5)] (i := 27) rfl rfl ?_
      refine R_aload_n (i := 28) rfl rfl ?_
      refine R_dup (i := 29) rfl rfl ?_
      refine R_getI hW (i := 30) rfl rfl (Nat.le_of_ble_eq_true rfl) ?_
      refine R_iconst (i := 31) rfl ?_
      refine R_iadd (i := 32) rfl ?_
      refine R_putI hW (i := 33) rfl rfl (Nat.le_of_ble_eq_true rfl) (hg rfl hd) (fun h6 eh6 => ?_)
      replace hf := bnd_some eh6 hf
      have hW6 : WF 0 h6 := by rw [eh6]; exact hW
      refine R_goto (i := 34) rfl ?_
      obtain ⟨hj, hs⟩ := Prod.mk.inj (Option.some.inj hf)
      subst hj
      subst hs
      exact k0 rfl hW6
set_option maxRecDepth 100000 in
set_option maxHeartbeats 4000000 in
theorem f69_l {d N : Nat} {h : Hp} {Q : Option Value → Hp → Prop} {q : Int32 × Hp} (hf : f69 N h = some q) (hW : WF 0 h) (hd : 5 ≤ d) (kk : WF 0 q.2 → Q (some (.int q.1)) q.2) : R 0 d 69 0 [some (.ref 22), none] [] h Q := by
  unfold f69 at hf
  refine R_iconst (i := 0) rfl ?_
  refine R_istore_n [some (.ref 22), some (.int (0 : Int32))] (i := 1) rfl rfl ?_
  have zq7 := bind_some hf
  clear hf
  obtain ⟨q7, eq7, hf⟩ := zq7
  refine lp_link (P := fun u2 => WF 0 u2.2 → R 0 d 69 2 [some (.ref 22), some (.int u2.1)] [] u2.2 Q) (E := fun e u2 => WF 0 u2.2 → R 0 d 69 35 [none, some (.int u2.1)] [] u2.2 Q) (fun s j s' hb k0 ke hWs => f69_l2_l hb hWs hd k0 (fun z y => ke 0 z y)) N ((0 : Int32), h) q7.1 q7.2 eq7 ?_ hW
  intro hW7
  refine R_bipush (i := 35) rfl ?_
  refine R_iload_n (i := 36) rfl rfl ?_
  refine R_iadd (i := 37) rfl ?_
  have hz := Option.some.inj hf
  subst hz
  exact R_iret (i := 38) rfl (kk hW7)
set_option maxRecDepth 100000 in
set_option maxHeartbeats 4000000 in
theorem f73_l {d N : Nat} {p0 : Int32} {h : Hp} {Q : Option Value → Hp → Prop} {q : Nat} (hf : f73 N p0 h = some q) (hW : WF 0 h) (hd : 0 ≤ d) (kk : Q (some (.ref q)) h) : R 0 d 73 0 [some (.int p0)] [] h Q := by
  unfold f73 at hf
  refine R_iload_n (i := 0) rfl rfl ?_
  refine R_switch (i := 1) rfl ?_
  refine R_swc (lo := 0) (lo' := 1) (by decide) (fun c1 => ?_) (fun c1 => ?_)
  · rw [if_pos c1] at hf
    refine R_ldcs (v := 1000) (i := 2) rfl (by decide) ?_
    have hz := Option.some.inj hf
    subst hz
    exact R_aret (i := 3) rfl kk
  rw [if_neg c1] at hf
  refine R_swc (lo := 1) (lo' := 2) (by decide) (fun c2 => ?_) (fun c2 => ?_)
  · rw [if_pos c2] at hf
    refine R_ldcs (v := 1001) (i := 4) rfl (by decide) ?_
    have hz := Option.some.inj hf
    subst hz
    exact R_aret (i := 5) rfl kk
  rw [if_neg c2] at hf
  refine R_swc (lo := 2) (lo' := 3) (by decide) (fun c3 => ?_) (fun c3 => ?_)
  · rw [if_pos c3] at hf
    refine R_ldcs (v := 1002) (i := 6) rfl (by decide) ?_
    have hz := Option.some.inj hf
    subst hz
    exact R_aret (i := 7) rfl kk
  rw [if_neg c3] at hf
  refine R_swc (lo := 3) (lo' := 4) (by decide) (fun c4 => ?_) (fun c4 => ?_)
  · rw [if_pos c4] at hf
    refine R_ldcs (v := 1003) (i := 8) rfl (by decide) ?_
    have hz := Option.some.inj hf
    subst hz
    exact R_aret (i := 9) rfl kk
  rw [if_neg c4] at hf
  refine R_swc (lo := 4) (lo' := 5) (by decide) (fun c5 => ?_) (fun c5 => ?_)
  · rw [if_pos c5] at hf
    refine R_ldcs (v := 1004) (i := 10) rfl (by decide) ?_
    have hz := Option.some.inj hf
    subst hz
    exact R_aret (i := 11) rfl kk
  rw [if_neg c5] at hf
  refine R_swc (lo := 5) (lo' := 6) (by decide) (fun c6 => ?_) (fun c6 => ?_)
  · rw [if_pos c6] at hf
    refine R_ldcs (v := 1005) (i := 12) rfl (by decide) ?_
    have hz := Option.some.inj hf
    subst hz
    exact R_aret (i := 13) rfl kk
  rw [if_neg c6] at hf
  refine R_swc (lo := 6) (lo' := 7) (by decide) (fun c7 => ?_) (fun c7 => ?_)
  · rw [if_pos c7] at hf
    refine R_ldcs (v := 1006) (i := 14) rfl (by decide) ?_
    have hz := Option.some.inj hf
    subst hz
    exact R_aret (i := 15) rfl kk
  rw [if_neg c7] at hf
  refine R_swc (lo := 7) (lo' := 8) (by decide) (fun c8 => ?_) (fun c8 => ?_)
  · rw [if_pos c8] at hf
    refine R_ldcs (v := 1007) (i := 16) rfl (by decide) ?_
    have hz := Option.some.inj hf
    subst hz
    exact R_aret (i := 17) rfl kk
  rw [if_neg c8] at hf
  refine R_swc (lo := 8) (lo' := 9) (by decide) (fun c9 => ?_) (fun c9 => ?_)
  · rw [if_pos c9] at hf
    refine R_ldcs (v := 1008) (i := 18) rfl (by decide) ?_
    have hz := Option.some.inj hf
    subst hz
    exact R_aret (i := 19) rfl kk
  rw [if_neg c9] at hf
  refine R_swc (lo := 9) (lo' := 10) (by decide) (fun c10 => ?_) (fun c10 => ?_)
  · rw [if_pos c10] at hf
    refine R_ldcs (v := 1009) (i := 20) rfl (by decide) ?_
    have hz := Option.some.inj hf
    subst hz
    exact R_aret (i := 21) rfl kk
  rw [if_neg c10] at hf
  refine R_swc (lo := 10) (lo' := 11) (by decide) (fun c11 => ?_) (fun c11 => ?_)
  · rw [if_pos c11] at hf
    refine R_ldcs (v := 1010) (i := 22) rfl (by decide) ?_
    have hz := Option.some.inj hf
    subst hz
    exact R_aret (i := 23) rfl kk
  rw [if_neg c11] at hf
  refine R_swc (lo := 11) (lo' := 12) (by decide) (fun c12 => ?_) (fun c12 => ?_)
  · rw [if_pos c12] at hf
    refine R_ldcs (v := 1011) (i := 24) rfl (by decide) ?_
    have hz := Option.some.inj hf
    subst hz
    exact R_aret (i := 25) rfl kk
  rw [if_neg c12] at hf
  refine R_swc (lo := 12) (lo' := 13) (by decide) (fun c13 => ?_) (fun c13 => ?_)
  · rw [if_pos c13] at hf
    refine R_ldcs (v := 1012) (i := 26) rfl (by decide) ?_
    have hz := Option.some.inj hf
    subst hz
    exact R_aret (i := 27) rfl kk
  rw [if_neg c13] at hf
  refine R_swn ?_
  refine R_ldcs (v := 1013) (i := 28) rfl (by decide) ?_
  have hz := Option.some.inj hf
  subst hz
  exact R_aret (i := 29) rfl kk
set_option maxRecDepth 100000 in
set_option maxHeartbeats 4000000 in
theorem f72_l10_l {d N : Nat} {x1 : Int32} {x3 : Nat} {h : Hp} {s : Int32} {Q : Option Value → Hp → Prop} {j : Nat} {s' : Int32} (hf : f72_l10 N x1 x3 h s = some (j, s')) (hW : WF 0 h) (hd : 5 ≤ d) (k0 : j = 0 → R 0 d 72 10 [some (.ref 22), some (.int x1), none, some (.ref x3), some (.int s')] [] h Q) (k1 : j = 1 → R 0 d 72 24 [none, none, none, none, none] [] h Q) (k2 : j = 2 → R 0 d 72 28 [none, none, none, none, none] [] h Q) : R 0 d 72 10 [some (.ref 22), some (.int x1), none, some (.ref x3), some (.int s)] [] h Q := by
  unfold f72_l10 at hf
  refine R_iload (i := 10) rfl rfl ?_
  refine R_aload_n (i := 11) rfl rfl ?_
  have g3 := gd_some hf
  clear hf
  obtain ⟨g3, hf⟩ := g3
  refine R_slen (i := 12) rfl g3 (hg rfl hd) (Nat.le_of_ble_eq_true rfl) ?_
  refine R_icmpge (i := 13) rfl (fun c4 => ?_) (fun c4 => ?_)
  · rw [if_pos c4] at hf
    obtain ⟨hj, hs⟩ := Prod.mk.inj (Option.some.inj hf)
    subst hj
    subst hs
    refine R_weak [none, none, none, none, none] ⟨Or.inl rfl, Or.inl rfl, Or.inr rfl, Or.inl rfl, Or.inl rfl, trivial⟩ ?_
    exact k2 rfl
  · rw [if_neg c4] at hf
    refine R_aload_n (i := 14) rfl rfl ?_
    refine R_getF hW (i := 15) rfl rfl (Nat.le_of_ble_eq_true rfl) rfl ?_
    refine R_iload_n (i := 16) rfl rfl ?_
    refine R_iload (i := 17) rfl rfl ?_
    refine R_iadd (i := 18) rfl ?_
    have g5 := gd_some hf
    clear hf
    obtain ⟨g5, hf⟩ := g5
    refine R_baload hW (i := 19) rfl rfl g5 ?_
    refine R_aload_n (i := 20) rfl rfl ?_
    refine R_iload (i := 21) rfl rfl ?_
    have g6 := gd_some hf
    clear hf
    obtain ⟨g6, hf⟩ := g6
    refine R_schr (i := 22) rfl g6 (hg rfl hd) (Nat.le_of_ble_eq_true rfl) ?_
    refine R_icmpeq (i := 23) rfl (fun c7 => ?_) (fun c7 => ?_)
    · rw [if_pos c7] at hf
      obtain ⟨v8, e8⟩ : ∃ z : Int32, z = (s + (1 : Int32)) := ⟨_, rfl⟩
      replace hf := bnd_some e8 hf
      refine R_iinc [some (.ref 22), some (.int x1), none, some (.ref x3), some (.int v8)] (i := 26) rfl rfl (by rw [← e8]; rfl) ?_
      refine R_goto (i := 27) rfl ?_
      obtain ⟨hj, hs⟩ := Prod.mk.inj (Option.some.inj hf)
      subst hj
      subst hs
      exact k0 rfl
    · rw [if_neg c7] at hf
      obtain ⟨hj, hs⟩ := Prod.mk.inj (Option.some.inj hf)
      subst hj
      subst hs
      refine R_weak [none, none, none, none, none] ⟨Or.inl rfl, Or.inl rfl, Or.inr rfl, Or.inl rfl, Or.inl rfl, trivial⟩ ?_
      exact k1 rfl
set_option maxRecDepth 100000 in
set_option maxHeartbeats 4000000 in
theorem f72_l {d N : Nat} {p1 : Int32} {p2 : Int32} {p3 : Nat} {h : Hp} {Q : Option Value → Hp → Prop} {q : Int32} (hf : f72 N p1 p2 p3 h = some q) (hW : WF 0 h) (hd : 5 ≤ d) (kk : Q (some (.int q)) h) : R 0 d 72 0 [some (.ref 22), some (.int p1), some (.int p2), some (.ref p3), none] [] h Q := by
  unfold f72 at hf
  refine R_iload_n (i := 0) rfl rfl ?_
  refine R_iload_n (i := 1) rfl rfl ?_
  refine R_isub (i := 2) rfl ?_
  refine R_aload_n (i := 3) rfl rfl ?_
  have g1 := gd_some hf
  clear hf
  obtain ⟨g1, hf⟩ := g1
  refine R_slen (i := 4) rfl g1 (hg rfl hd) (Nat.le_of_ble_eq_true rfl) ?_
  refine R_icmpeq (i := 5) rfl (fun c2 => ?_) (fun c2 => ?_)
  · rw [if_pos c2] at hf
    refine R_iconst (i := 8) rfl ?_
    refine R_istore [some (.ref 22), some (.int p1), some (.int p2), some (.ref p3), some (.int (0 : Int32))] (i := 9) rfl rfl ?_
    refine R_weak [some (.ref 22), some (.int p1), none, some (.ref p3), some (.int (0 : Int32))] ⟨Or.inr rfl, Or.inr rfl, Or.inl rfl, Or.inr rfl, Or.inr rfl, trivial⟩ ?_
    have zq9 := bind_some hf
    clear hf
    obtain ⟨q9, eq9, hf⟩ := zq9
    refine lp_link (P := fun u10 => R 0 d 72 10 [some (.ref 22), some (.int p1), none, some (.ref p3), some (.int u10)] [] h Q) (E := fun e u10 => ((e = 0 → R 0 d 72 24 [none, none, none, none, none] [] h Q) ∧ (e = 1 → R 0 d 72 28 [none, none, none, none, none] [] h Q))) (fun s j s' hb k0 ke => f72_l10_l hb hW hd k0 (fun z => (ke 0 z).1 rfl) (fun z => (ke 1 z).2 rfl)) N (0 : Int32) q9.1 q9.2 eq9 ?_
    refine ⟨fun z => ?_, fun z => ?_⟩
    · rw [if_pos z] at hf
      refine R_iconst (i := 24) rfl ?_
      have hz := Option.some.inj hf
      subst hz
      exact R_zret (r := 0) (i := 25) rfl (by decide) kk
    · rw [if_neg (by rw [z]; decide)] at hf
      refine R_iconst (i := 28) rfl ?_
      have hz := Option.some.inj hf
      subst hz
      exact R_zret (r := 1) (i := 29) rfl (by decide) kk
  · rw [if_neg c2] at hf
    refine R_iconst (i := 6) rfl ?_
    have hz := Option.some.inj hf
    subst hz
    exact R_zret (r := 0) (i := 7) rfl (by decide) kk
set_option maxRecDepth 100000 in
set_option maxHeartbeats 4000000 in
theorem f68_l3_l {d N : Nat} {x1 : Int32} {s : Hp} {Q : Option Value → Hp → Prop} {j : Nat} {s' : Hp} (hf : f68_l3 N x1 s = some (j, s')) (hW : WF 0 s) (hd : 6 ≤ d) (k0 : j = 0 → WF 0 s' → R 0 d 68 3 [some (.ref 22), some (.int x1), none] [] s' Q) (k1 : j = 1 → WF 0 s' → R 0 d 68 22 [some (.ref 22), some (.int x1), none] [] s' Q) : R 0 d 68 3 [some (.ref 22), some (.int x1), none] [] s Q := by
  obtain ⟨d, rfl⟩ : ∃ z, d = z + 1 := ⟨d - 1, by omega⟩
  unfold f68_l3 at hf
  refine R_aload_n (i := 3) rfl rfl ?_
  refine R_getI hW (i := 4) rfl rfl (Nat.le_of_ble_eq_true rfl) ?_
  refine R_aload_n (i := 5) rfl rfl ?_
  refine R_getI hW (i := 6) rfl rfl (Nat.le_of_ble_eq_true rfl) ?_
  refine R_icmpge (i := 7) rfl (fun c2 => ?_) (fun c2 => ?_)
  · rw [if_pos c2] at hf
    obtain ⟨hj, hs⟩ := Prod.mk.inj (Option.some.inj hf)
    subst hj
    subst hs
    exact k1 rfl hW
  · rw [if_neg c2] at hf
    refine R_aload_n (i := 8) rfl rfl ?_
    refine R_getF hW (i := 9) rfl rfl (Nat.le_of_ble_eq_true rfl) rfl ?_
    refine R_aload_n (i := 10) rfl rfl ?_
    refine R_getI hW (i := 11) rfl rfl (Nat.le_of_ble_eq_true rfl) ?_
    have g3 := gd_some hf
    clear hf
    obtain ⟨g3, hf⟩ := g3
    refine R_baload hW (i := 12) rfl rfl g3 ?_
    refine R_call (vs := [.int (hI s 23 (ix (hI s 22 4)))]) (st' := []) (i := 13) rfl (by decide) (by decide) rfl rfl (Nat.le_of_ble_eq_true rfl) rfl (f74_l (hh rfl hd) ?_)
    refine R_ifeq (i := 14) rfl (fun c4 => ?_) (fun c4 => ?_)
    · rw [if_pos c4] at hf
      obtain ⟨hj, hs⟩ := Prod.mk.inj (Option.some.inj hf)
      subst hj
      subst hs
      exact k1 rfl hW
    · rw [if_neg c4] at hf
      refine R_aload_n (i := 15) rfl rfl ?_
      refine R_dup (i := 16) rfl rfl ?_
      refine R_getI hW (i := 17) rfl rfl (Nat.le_of_ble_eq_true rfl) ?_
      refine R_iconst (i := 18) rfl ?_
      refine R_iadd (i := 19) rfl ?_
      refine R_putI hW (i := 20) rfl rfl (Nat.le_of_ble_eq_true rfl) (hg rfl hd) (fun h5 eh5 => ?_)
      replace hf := bnd_some eh5 hf
      have hW5 : WF 0 h5 := by rw [eh5]; exact hW
      refine R_goto (i := 21) rfl ?_
      obtain ⟨hj, hs⟩ := Prod.mk.inj (Option.some.inj hf)
      subst hj
      subst hs
      exact k0 rfl hW5
set_option maxRecDepth 100000 in
set_option maxHeartbeats 4000000 in
theorem f68_l24_l {d N : Nat} {x1 : Int32} {h : Hp} {s : Int32} {Q : Option Value → Hp → Prop} {j : Nat} {s' : Int32} (hf : f68_l24 N x1 h s = some (j, s')) (hW : WF 0 h) (hd : 6 ≤ d) (k0 : j = 0 → R 0 d 68 24 [some (.ref 22), some (.int x1), some (.int s')] [] h Q) (k1 : j = 1 → R 0 d 68 35 [none, none, some (.int s')] [] h Q) (k2 : j = 2 → R 0 d 68 39 [none, none, none] [] h Q) : R 0 d 68 24 [some (.ref 22), some (.int x1), some (.int s)] [] h Q := by
  obtain ⟨d, rfl⟩ : ∃ z, d = z + 1 := ⟨d - 1, by omega⟩
  unfold f68_l24 at hf
  refine R_iload_n (i := 24) rfl rfl ?_
  refine R_bipush (i := 25) rfl ?_
  refine R_icmpge (i := 26) rfl (fun c7 => ?_) (fun c7 => ?_)
  · rw [if_pos c7] at hf
    obtain ⟨hj, hs⟩ := Prod.mk.inj (Option.some.inj hf)
    subst hj
    subst hs
    refine R_weak [none, none, none] ⟨Or.inl rfl, Or.inl rfl, Or.inl rfl, trivial⟩ ?_
    exact k2 rfl
  · rw [if_neg c7] at hf
    refine R_aload_n (i := 27) rfl rfl ?_
    refine R_iload_n (i := 28) rfl rfl ?_
    refine R_aload_n (i := 29) rfl rfl ?_
    refine R_getI hW (i := 30) rfl rfl (Nat.le_of_ble_eq_true rfl) ?_
    refine R_iload_n (i := 31) rfl rfl ?_
    have zq8 := bind_some hf
    clear hf
    obtain ⟨q8, eq8, hf⟩ := zq8
    refine R_call (vs := [.int s]) (st' := [.int (hI h 22 4), .int x1, .ref 22]) (i := 32) rfl (by decide) (by decide) rfl rfl (Nat.le_of_ble_eq_true rfl) rfl (f73_l eq8 hW (hh rfl hd) ?_)
    have zq9 := bind_some hf
    clear hf
    obtain ⟨q9, eq9, hf⟩ := zq9
    refine R_callV (vs := [.int x1, .int (hI h 22 4), .ref q8]) (st' := []) hW (i := 33) rfl rfl rfl (Nat.le_of_ble_eq_true rfl) rfl (Nat.le_of_ble_eq_true rfl) rfl (f72_l eq9 hW (hh rfl hd) ?_)
    refine R_ifeq (i := 34) rfl (fun c10 => ?_) (fun c10 => ?_)
    · rw [if_pos c10] at hf
      obtain ⟨v11, e11⟩ : ∃ z : Int32, z = (s + (1 : Int32)) := ⟨_, rfl⟩
      replace hf := bnd_some e11 hf
      refine R_iinc [some (.ref 22), some (.int x1), some (.int v11)] (i := 37) rfl rfl (by rw [← e11]; rfl) ?_
      refine R_goto (i := 38) rfl ?_
      obtain ⟨hj, hs⟩ := Prod.mk.inj (Option.some.inj hf)
      subst hj
      subst hs
      exact k0 rfl
    · rw [if_neg c10] at hf
      obtain ⟨hj, hs⟩ := Prod.mk.inj (Option.some.inj hf)
      subst hj
      subst hs
      refine R_weak [none, none, some (.int s)] ⟨Or.inl rfl, Or.inl rfl, Or.inr rfl, trivial⟩ ?_
      exact k1 rfl
set_option maxRecDepth 100000 in
set_option maxHeartbeats 4000000 in
theorem f68_l {d N : Nat} {h : Hp} {Q : Option Value → Hp → Prop} {q : Int32 × Hp} (hf : f68 N h = some q) (hW : WF 0 h) (hd : 6 ≤ d) (kk : WF 0 q.2 → Q (some (.int q.1)) q.2) : R 0 d 68 0 [some (.ref 22), none, none] [] h Q := by
  unfold f68 at hf
  refine R_aload_n (i := 0) rfl rfl ?_
  refine R_getI hW (i := 1) rfl rfl (Nat.le_of_ble_eq_true rfl) ?_
  refine R_topi (fun v1 e1 => ?_)
  replace hf := bnd_some e1 hf
  refine R_istore_n [some (.ref 22), some (.int v1), none] (i := 2) rfl rfl ?_
  have zq6 := bind_some hf
  clear hf
  obtain ⟨q6, eq6, hf⟩ := zq6
  refine lp_link (P := fun u3 => WF 0 u3 → R 0 d 68 3 [some (.ref 22), some (.int v1), none] [] u3 Q) (E := fun e u3 => WF 0 u3 → R 0 d 68 22 [some (.ref 22), some (.int v1), none] [] u3 Q) (fun s j s' hb k0 ke hWs => f68_l3_l hb hWs hd k0 (fun z y => ke 0 z y)) N h q6.1 q6.2 eq6 ?_ hW
  intro hW6
  refine R_iconst (i := 22) rfl ?_
  refine R_istore_n [some (.ref 22), some (.int v1), some (.int (0 : Int32))] (i := 23) rfl rfl ?_
  have zq12 := bind_some hf
  clear hf
  obtain ⟨q12, eq12, hf⟩ := zq12
  refine lp_link (P := fun u24 => R 0 d 68 24 [some (.ref 22), some (.int v1), some (.int u24)] [] q6.2 Q) (E := fun e u24 => ((e = 0 → R 0 d 68 35 [none, none, some (.int u24)] [] q6.2 Q) ∧ (e = 1 → R 0 d 68 39 [none, none, none] [] q6.2 Q))) (fun s j s' hb k0 ke => f68_l24_l hb hW6 hd k0 (fun z => (ke 0 z).1 rfl) (fun z => (ke 1 z).2 rfl)) N (0 : Int32) q12.1 q12.2 eq12 ?_
  refine ⟨fun z => ?_, fun z => ?_⟩
  · rw [if_pos z] at hf
    refine R_iload_n (i := 35) rfl rfl ?_
    have hz := Option.some.inj hf
    subst hz
    exact R_iret (i := 36) rfl (kk hW6)
  · rw [if_neg (by rw [z]; decide)] at hf
    refine R_bipush (i := 39) rfl ?_
    have hz := Option.some.inj hf
    subst hz
    exact R_iret (i := 40) rfl (kk hW6)
set_option maxRecDepth 100000 in
set_option maxHeartbeats 4000000 in
theorem f67_l {d N : Nat} {h : Hp} {Q : Option Value → Hp → Prop} {q : Int32 × Hp} (hf : f67 N h = some q) (hW : WF 0 h) (hd : 7 ≤ d) (kk : WF 0 q.2 → Q (some (.int q.1)) q.2) : R 0 d 67 0 [some (.ref 22), none] [] h Q := by
  obtain ⟨d, rfl⟩ : ∃ z, d = z + 1 := ⟨d - 1, by omega⟩
  unfold f67 at hf
  refine R_aload_n (i := 0) rfl rfl ?_
  refine R_getI hW (i := 1) rfl rfl (Nat.le_of_ble_eq_true rfl) ?_
  refine R_aload_n (i := 2) rfl rfl ?_
  refine R_getI hW (i := 3) rfl rfl (Nat.le_of_ble_eq_true rfl) ?_
  refine R_icmplt (i := 4) rfl (fun c1 => ?_) (fun c1 => ?_)
  · rw [if_pos c1] at hf
    refine R_aload_n (i := 7) rfl rfl ?_
    refine R_getF hW (i := 8) rfl rfl (Nat.le_of_ble_eq_true rfl) rfl ?_
    refine R_aload_n (i := 9) rfl rfl ?_
    refine R_getI hW (i := 10) rfl rfl (Nat.le_of_ble_eq_true rfl) ?_
    have g2 := gd_some hf
    clear hf
    obtain ⟨g2, hf⟩ := g2
    refine R_baload hW (i := 11) rfl rfl g2 ?_
    refine R_call (vs := [.int (hI h 23 (ix (hI h 22 4)))]) (st' := []) (i := 12) rfl (by decide) (by decide) rfl rfl (Nat.le_of_ble_eq_true rfl) rfl (f74_l (hh rfl hd) ?_)
    refine R_ifeq (i := 13) rfl (fun c3 => ?_) (fun c3 => ?_)
    · rw [if_pos c3] at hf
      refine R_aload_n (i := 17) rfl rfl ?_
      refine R_getF hW (i := 18) rfl rfl (Nat.le_of_ble_eq_true rfl) rfl ?_
      refine R_aload_n (i := 19) rfl rfl ?_
      refine R_getI hW (i := 20) rfl rfl (Nat.le_of_ble_eq_true rfl) ?_
      have g4 := gd_some hf
      clear hf
      obtain ⟨g4, hf⟩ := g4
      refine R_baload hW (i := 21) rfl rfl g4 ?_
      refine R_call (vs := [.int (hI h 23 (ix (hI h 22 4)))]) (st' := []) (i := 22) rfl (by decide) (by decide) rfl rfl (Nat.le_of_ble_eq_true rfl) rfl (f75_l (hh rfl hd) ?_)
      refine R_ifeq (i := 23) rfl (fun c5 => ?_) (fun c5 => ?_)
      · rw [if_pos c5] at hf
        refine R_aload_n (i := 27) rfl rfl ?_
        refine R_getF hW (i := 28) rfl rfl (Nat.le_of_ble_eq_true rfl) rfl ?_
        refine R_aload_n (i := 29) rfl rfl ?_
        refine R_getI hW (i := 30) rfl rfl (Nat.le_of_ble_eq_true rfl) ?_
        have g6 := gd_some hf
        clear hf
        obtain ⟨g6, hf⟩ := g6
        refine R_baload hW (i := 31) rfl rfl g6 ?_
        refine R_topi (fun v7 e7 => ?_)
        replace hf := bnd_some e7 hf
        refine R_istore_n [some (.ref 22), some (.int v7)] (i := 32) rfl rfl ?_
        refine R_aload_n (i := 33) rfl rfl ?_
        refine R_dup (i := 34) rfl rfl ?_
        refine R_getI hW (i := 35) rfl rfl (Nat.le_of_ble_eq_true rfl) ?_
        refine R_iconst (i := 36) rfl ?_
        refine R_iadd (i := 37) rfl ?_
        refine R_putI hW (i := 38) rfl rfl (Nat.le_of_ble_eq_true rfl) (hg rfl hd) (fun h8 eh8 => ?_)
        replace hf := bnd_some eh8 hf
        have hW8 : WF 0 h8 := by rw [eh8]; exact hW
        refine R_aload_n (i := 39) rfl rfl ?_
        refine R_iload_n (i := 40) rfl rfl ?_
        have zq9 := bind_some hf
        clear hf
        obtain ⟨q9, eq9, hf⟩ := zq9
        refine R_callV (vs := [.int v7]) (st' := []) hW8 (i := 41) rfl rfl rfl (Nat.le_of_ble_eq_true rfl) rfl (Nat.le_of_ble_eq_true rfl) rfl (f70_l eq9 hW8 (hh rfl hd) (fun hW9 => ?_))
        have hz := Option.some.inj hf
        subst hz
        exact R_iret (i := 42) rfl (kk hW9)
      · rw [if_neg c5] at hf
        refine R_aload_n (i := 24) rfl rfl ?_
        have zq10 := bind_some hf
        clear hf
        obtain ⟨q10, eq10, hf⟩ := zq10
        refine R_callV (vs := []) (st' := []) hW (i := 25) rfl rfl rfl (Nat.le_of_ble_eq_true rfl) rfl (Nat.le_of_ble_eq_true rfl) rfl (f69_l eq10 hW (hh rfl hd) (fun hW10 => ?_))
        have hz := Option.some.inj hf
        subst hz
        exact R_iret (i := 26) rfl (kk hW10)
    · rw [if_neg c3] at hf
      refine R_aload_n (i := 14) rfl rfl ?_
      have zq11 := bind_some hf
      clear hf
      obtain ⟨q11, eq11, hf⟩ := zq11
      refine R_callV (vs := []) (st' := []) hW (i := 15) rfl rfl rfl (Nat.le_of_ble_eq_true rfl) rfl (Nat.le_of_ble_eq_true rfl) rfl (f68_l eq11 hW (hh rfl hd) (fun hW11 => ?_))
      have hz := Option.some.inj hf
      subst hz
      exact R_iret (i := 16) rfl (kk hW11)
  · rw [if_neg c1] at hf
    refine R_bipush (i := 5) rfl ?_
    have hz := Option.some.inj hf
    subst hz
    exact R_iret (i := 6) rfl (kk hW)
set_option maxRecDepth 100000 in
set_option maxHeartbeats 4000000 in
theorem f65_l5_l {d N : Nat} {s : Int32 × Hp} {Q : Option Value → Hp → Prop} {j : Nat} {s' : Int32 × Hp} (hf : f65_l5 N s = some (j, s')) (hW : WF 0 s.2) (hd : 8 ≤ d) (k0 : j = 0 → WF 0 s'.2 → R 0 d 65 5 [some (.ref 22), some (.int s'.1)] [] s'.2 Q) (k1 : j = 1 → WF 0 s'.2 → R 0 d 65 34 [none, none] [] s'.2 Q) (k2 : j = 2 → WF 0 s'.2 → R 0 d 65 37 [none, none] [] s'.2 Q) : R 0 d 65 5 [some (.ref 22), some (.int s.1)] [] s.2 Q := by
  obtain ⟨d, rfl⟩ : ∃ z, d = z + 1 := ⟨d - 1, by omega⟩
  unfold f65_l5 at hf
  refine R_iload_n (i := 5) rfl rfl ?_
  refine R_sipush (i := 6) rfl ?_
  refine R_icmpgt (i := 7) rfl (fun c2 => ?_) (fun c2 => ?_)
  · rw [if_pos c2] at hf
    obtain ⟨hj, hs⟩ := Prod.mk.inj (Option.some.inj hf)
    subst hj
    subst hs
    refine R_weak [none, none] ⟨Or.inl rfl, Or.inl rfl, trivial⟩ ?_
    exact k2 rfl hW
  · rw [if_neg c2] at hf
    refine R_aload_n (i := 8) rfl rfl ?_
    have zq3 := bind_some hf
    clear hf
    obtain ⟨q3, eq3, hf⟩ := zq3
    refine R_callV (vs := []) (st' := []) hW (i := 9) rfl rfl rfl (Nat.le_of_ble_eq_true rfl) rfl (Nat.le_of_ble_eq_true rfl) rfl (f66_l eq3 hW (hh rfl hd) (fun hW3 => ?_))
    refine R_aload_n (i := 10) rfl rfl ?_
    refine R_getF hW3 (i := 11) rfl rfl (Nat.le_of_ble_eq_true rfl) rfl ?_
    refine R_iload_n (i := 12) rfl rfl ?_
    refine R_aload_n (i := 13) rfl rfl ?_
    refine R_getI hW3 (i := 14) rfl rfl (Nat.le_of_ble_eq_true rfl) ?_
    have g4 := gd_some hf
    clear hf
    obtain ⟨g4, hf⟩ := g4
    refine R_iastore hW3 (i := 15) rfl rfl g4 (hg rfl hd) (fun h5 eh5 => ?_)
    replace hf := bnd_some eh5 hf
    have hW5 : WF 0 h5 := by rw [eh5]; exact hW3
    refine R_aload_n (i := 16) rfl rfl ?_
    refine R_getF hW5 (i := 17) rfl rfl (Nat.le_of_ble_eq_true rfl) rfl ?_
    refine R_iload_n (i := 18) rfl rfl ?_
    refine R_aload_n (i := 19) rfl rfl ?_
    have zq6 := bind_some hf
    clear hf
    obtain ⟨q6, eq6, hf⟩ := zq6
    refine R_callV (vs := []) (st' := [.int s.1, .ref 24]) hW5 (i := 20) rfl rfl rfl (Nat.le_of_ble_eq_true rfl) rfl (Nat.le_of_ble_eq_true rfl) rfl (f67_l eq6 hW5 (hh rfl hd) (fun hW6 => ?_))
    have g7 := gd_some hf
    clear hf
    obtain ⟨g7, hf⟩ := g7
    refine R_iastore hW6 (i := 21) rfl rfl g7 (hg rfl hd) (fun h8 eh8 => ?_)
    replace hf := bnd_some eh8 hf
    have hW8 : WF 0 h8 := by rw [eh8]; exact hW6
    refine R_aload_n (i := 22) rfl rfl ?_
    refine R_getF hW8 (i := 23) rfl rfl (Nat.le_of_ble_eq_true rfl) rfl ?_
    refine R_iload_n (i := 24) rfl rfl ?_
    have g9 := gd_some hf
    clear hf
    obtain ⟨g9, hf⟩ := g9
    refine R_iaload hW8 (i := 25) rfl rfl g9 ?_
    refine R_bipush (i := 26) rfl ?_
    refine R_icmpeq (i := 27) rfl (fun c10 => ?_) (fun c10 => ?_)
    · rw [if_pos c10] at hf
      obtain ⟨hj, hs⟩ := Prod.mk.inj (Option.some.inj hf)
      subst hj
      subst hs
      refine R_weak [none, none] ⟨Or.inl rfl, Or.inl rfl, trivial⟩ ?_
      exact k1 rfl hW8
    · rw [if_neg c10] at hf
      refine R_aload_n (i := 28) rfl rfl ?_
      refine R_getF hW8 (i := 29) rfl rfl (Nat.le_of_ble_eq_true rfl) rfl ?_
      refine R_iload_n (i := 30) rfl rfl ?_
      have g11 := gd_some hf
      clear hf
      obtain ⟨g11, hf⟩ := g11
      refine R_iaload hW8 (i := 31) rfl rfl g11 ?_
      refine R_bipush (i := 32) rfl ?_
      refine R_icmpne (i := 33) rfl (fun c12 => ?_) (fun c12 => ?_)
      · rw [if_neg c12] at hf
        obtain ⟨v13, e13⟩ : ∃ z : Int32, z = (s.1 + (1 : Int32)) := ⟨_, rfl⟩
        replace hf := bnd_some e13 hf
        refine R_iinc [some (.ref 22), some (.int v13)] (i := 35) rfl rfl (by rw [← e13]; rfl) ?_
        refine R_goto (i := 36) rfl ?_
        obtain ⟨hj, hs⟩ := Prod.mk.inj (Option.some.inj hf)
        subst hj
        subst hs
        exact k0 rfl hW8
      · rw [if_pos c12] at hf
        obtain ⟨hj, hs⟩ := Prod.mk.inj (Option.some.inj hf)
        subst hj
        subst hs
        refine R_weak [none, none] ⟨Or.inl rfl, Or.inl rfl, trivial⟩ ?_
        exact k1 rfl hW8
set_option maxRecDepth 100000 in
set_option maxHeartbeats 4000000 in
theorem f65_l {d N : Nat} {h : Hp} {Q : Option Value → Hp → Prop} {q : Hp} (hf : f65 N h = some q) (hW : WF 0 h) (hd : 8 ≤ d) (kk : WF 0 q → Q (none) q) : R 0 d 65 0 [some (.ref 22), none] [] h Q := by
  unfold f65 at hf
  refine R_aload_n (i := 0) rfl rfl ?_
  refine R_iconst (i := 1) rfl ?_
  refine R_putI hW (i := 2) rfl rfl (Nat.le_of_ble_eq_true rfl) (hg rfl hd) (fun h1 eh1 => ?_)
  replace hf := bnd_some eh1 hf
  have hW1 : WF 0 h1 := by rw [eh1]; exact hW
  refine R_iconst (i := 3) rfl ?_
  refine R_istore_n [some (.ref 22), some (.int (0 : Int32))] (i := 4) rfl rfl ?_
  have zq14 := bind_some hf
  clear hf
  obtain ⟨q14, eq14, hf⟩ := zq14
  refine lp_link (P := fun u5 => WF 0 u5.2 → R 0 d 65 5 [some (.ref 22), some (.int u5.1)] [] u5.2 Q) (E := fun e u5 => WF 0 u5.2 → ((e = 0 → R 0 d 65 34 [none, none] [] u5.2 Q) ∧ (e = 1 → R 0 d 65 37 [none, none] [] u5.2 Q))) (fun s j s' hb k0 ke hWs => f65_l5_l hb hWs hd k0 (fun z y => (ke 0 z y).1 rfl) (fun z y => (ke 1 z y).2 rfl)) N ((0 : Int32), h1) q14.1 q14.2 eq14 ?_ hW1
  refine fun hW14 => ⟨fun z => ?_, fun z => ?_⟩
  · rw [if_pos z] at hf
    have hz := Option.some.inj hf
    subst hz
    exact R_vret (i := 34) rfl (kk hW14)
  · rw [if_neg (by rw [z]; decide)] at hf
    have hz := Option.some.inj hf
    subst hz
    exact R_vret (i := 37) rfl (kk hW14)
set_option maxRecDepth 100000 in
set_option maxHeartbeats 4000000 in
theorem f42_l {d N : Nat} {p1 : Int32} {h : Hp} {Q : Option Value → Hp → Prop} {q : Hp} (hf : f42 N p1 h = some q) (hW : WF 0 h) (hd : 5 ≤ d) (kk : WF 0 q → Q (none) q) : R 0 d 42 0 [some (.ref 26), some (.int p1)] [] h Q := by
  unfold f42 at hf
  refine R_aload_n (i := 0) rfl rfl ?_
  refine R_getI hW (i := 1) rfl rfl (Nat.le_of_ble_eq_true rfl) ?_
  refine R_ifne (i := 2) rfl (fun c1 => ?_) (fun c1 => ?_)
  · rw [if_neg c1] at hf
    refine R_aload_n (i := 14) rfl rfl ?_
    refine R_bipush (i := 15) rfl ?_
    refine R_putI hW (i := 16) rfl rfl (Nat.le_of_ble_eq_true rfl) (hg rfl hd) (fun h2 eh2 => ?_)
    replace hf := bnd_some eh2 hf
    have hW2 : WF 0 h2 := by rw [eh2]; exact hW
    have hz := Option.some.inj hf
    subst hz
    exact R_vret (i := 17) rfl (kk hW2)
  · rw [if_pos c1] at hf
    refine R_aload_n (i := 3) rfl rfl ?_
    refine R_iload_n (i := 4) rfl rfl ?_
    refine R_putI hW (i := 5) rfl rfl (Nat.le_of_ble_eq_true rfl) (hg rfl hd) (fun h3 eh3 => ?_)
    replace hf := bnd_some eh3 hf
    have hW3 : WF 0 h3 := by rw [eh3]; exact hW
    refine R_aload_n (i := 6) rfl rfl ?_
    refine R_aload_n (i := 7) rfl rfl ?_
    refine R_getF hW3 (i := 8) rfl rfl (Nat.le_of_ble_eq_true rfl) rfl ?_
    refine R_getF hW3 (i := 9) rfl rfl (Nat.le_of_ble_eq_true rfl) rfl ?_
    refine R_aload_n (i := 10) rfl rfl ?_
    refine R_getI hW3 (i := 11) rfl rfl (Nat.le_of_ble_eq_true rfl) ?_
    have g4 := gd_some hf
    clear hf
    obtain ⟨g4, hf⟩ := g4
    refine R_iaload hW3 (i := 12) rfl rfl g4 ?_
    refine R_putI hW3 (i := 13) rfl rfl (Nat.le_of_ble_eq_true rfl) (hg rfl hd) (fun h5 eh5 => ?_)
    replace hf := bnd_some eh5 hf
    have hW5 : WF 0 h5 := by rw [eh5]; exact hW3
    refine R_aload_n (i := 14) rfl rfl ?_
    refine R_bipush (i := 15) rfl ?_
    refine R_putI hW5 (i := 16) rfl rfl (Nat.le_of_ble_eq_true rfl) (hg rfl hd) (fun h6 eh6 => ?_)
    replace hf := bnd_some eh6 hf
    have hW6 : WF 0 h6 := by rw [eh6]; exact hW5
    have hz := Option.some.inj hf
    subst hz
    exact R_vret (i := 17) rfl (kk hW6)
set_option maxRecDepth 100000 in
set_option maxHeartbeats 4000000 in
theorem f123_l {d : Nat} {p0 : Int32} {p1 : Int32} {h : Hp} {Q : Option Value → Hp → Prop} (hd : 0 ≤ d) (kk : Q (some (.int (f123 p0 p1))) h) : R 0 d 123 0 [some (.int p0), some (.int p1)] [] h Q := by
  unfold f123 at kk
  refine R_iload_n (i := 0) rfl rfl ?_
  refine R_iload_n (i := 1) rfl rfl ?_
  refine R_ishr (i := 2) rfl ?_
  refine R_iconst (i := 3) rfl ?_
  refine R_iand (i := 4) rfl ?_
  refine R_ifeq (i := 5) rfl (fun c1 => ?_) (fun c1 => ?_)
  · rw [if_pos c1] at kk
    refine R_iconst (i := 8) rfl ?_
    exact R_zret (r := 0) (i := 9) rfl (by decide) kk
  · rw [if_neg c1] at kk
    refine R_iconst (i := 6) rfl ?_
    refine R_goto (i := 7) rfl ?_
    exact R_zret (r := 1) (i := 9) rfl (by decide) kk
set_option maxRecDepth 100000 in
set_option maxHeartbeats 4000000 in
theorem f78_l {d N : Nat} {p0 : Nat} {p1 : Int32} {h : Hp} {Q : Option Value → Hp → Prop} {q : Int32} (hf : f78 N p0 p1 h = some q) (hW : WF 0 h) (hd : 1 ≤ d) (kk : Q (some (.int q)) h) : R 0 d 78 0 [some (.ref p0), some (.int p1)] [] h Q := by
  obtain ⟨d, rfl⟩ : ∃ z, d = z + 1 := ⟨d - 1, by omega⟩
  unfold f78 at hf
  refine R_aload_n (i := 0) rfl rfl ?_
  have g1 := gd_some hf
  clear hf
  obtain ⟨g1, hf⟩ := g1
  refine R_getI hW (i := 1) rfl g1 (Nat.le_of_ble_eq_true rfl) ?_
  refine R_iload_n (i := 2) rfl rfl ?_
  refine R_call (vs := [.int (hI h p0 4), .int p1]) (st' := []) (i := 3) rfl (by decide) (by decide) rfl rfl (Nat.le_of_ble_eq_true rfl) rfl (f123_l (hh rfl hd) ?_)
  have hz := Option.some.inj hf
  subst hz
  exact R_zret (i := 4) rfl rfl kk
set_option maxRecDepth 100000 in
set_option maxHeartbeats 4000000 in
theorem f79_l {d N : Nat} {p0 : Nat} {p1 : Int32} {h : Hp} {Q : Option Value → Hp → Prop} {q : Hp} (hf : f79 N p0 p1 h = some q) (hW : WF 0 h) (hd : 5 ≤ d) (kk : WF 0 q → Q (none) q) : R 0 d 79 0 [some (.ref p0), some (.int p1)] [] h Q := by
  unfold f79 at hf
  refine R_aload_n (i := 0) rfl rfl ?_
  have g1 := gd_some hf
  clear hf
  obtain ⟨g1, hf⟩ := g1
  have zr2 := bind_some hf
  clear hf
  obtain ⟨r2, er2, hf⟩ := zr2
  refine R_getR hW (i := 1) rfl g1 (Nat.le_of_ble_eq_true rfl) er2 ?_
  refine R_iload_n (i := 2) rfl rfl ?_
  refine R_aload_n (i := 3) rfl rfl ?_
  have g3 := gd_some hf
  clear hf
  obtain ⟨g3, hf⟩ := g3
  refine R_getI hW (i := 4) rfl g3 (Nat.le_of_ble_eq_true rfl) ?_
  have g4 := gd_some hf
  clear hf
  obtain ⟨g4, hf⟩ := g4
  refine R_iastore hW (i := 5) rfl g4.1 g4.2 (hg rfl hd) (fun h5 eh5 => ?_)
  replace hf := bnd_some eh5 hf
  have hW5 : WF 0 h5 := by rw [eh5]; exact hW
  refine R_aload_n (i := 6) rfl rfl ?_
  have g6 := gd_some hf
  clear hf
  obtain ⟨g6, hf⟩ := g6
  have zr7 := bind_some hf
  clear hf
  obtain ⟨r7, er7, hf⟩ := zr7
  refine R_getR hW5 (i := 7) rfl g6 (Nat.le_of_ble_eq_true rfl) er7 ?_
  refine R_iload_n (i := 8) rfl rfl ?_
  refine R_aload_n (i := 9) rfl rfl ?_
  have g8 := gd_some hf
  clear hf
  obtain ⟨g8, hf⟩ := g8
  refine R_getI hW5 (i := 10) rfl g8 (Nat.le_of_ble_eq_true rfl) ?_
  have g9 := gd_some hf
  clear hf
  obtain ⟨g9, hf⟩ := g9
  refine R_iastore hW5 (i := 11) rfl g9.1 g9.2 (hg rfl hd) (fun h10 eh10 => ?_)
  replace hf := bnd_some eh10 hf
  have hW10 : WF 0 h10 := by rw [eh10]; exact hW5
  refine R_aload_n (i := 12) rfl rfl ?_
  refine R_dup (i := 13) rfl rfl ?_
  have g11 := gd_some hf
  clear hf
  obtain ⟨g11, hf⟩ := g11
  refine R_getI hW10 (i := 14) rfl g11 (Nat.le_of_ble_eq_true rfl) ?_
  refine R_iconst (i := 15) rfl ?_
  refine R_iload_n (i := 16) rfl rfl ?_
  refine R_ishl (i := 17) rfl ?_
  refine R_ior (i := 18) rfl ?_
  have g12 := gd_some hf
  clear hf
  obtain ⟨g12, hf⟩ := g12
  refine R_putI hW10 (i := 19) rfl g12 (Nat.le_of_ble_eq_true rfl) (hg rfl hd) (fun h13 eh13 => ?_)
  replace hf := bnd_some eh13 hf
  have hW13 : WF 0 h13 := by rw [eh13]; exact hW10
  have hz := Option.some.inj hf
  subst hz
  exact R_vret (i := 20) rfl (kk hW13)
set_option maxRecDepth 100000 in
set_option maxHeartbeats 4000000 in
theorem f41_l {d N : Nat} {h : Hp} {Q : Option Value → Hp → Prop} {q : Hp} (hf : f41 N h = some q) (hW : WF 0 h) (hd : 5 ≤ d) (kk : WF 0 q → Q (none) q) : R 0 d 41 0 [some (.ref 26)] [] h Q := by
  unfold f41 at hf
  refine R_aload_n (i := 0) rfl rfl ?_
  refine R_getI hW (i := 1) rfl rfl (Nat.le_of_ble_eq_true rfl) ?_
  refine R_iconst (i := 2) rfl ?_
  refine R_iadd (i := 3) rfl ?_
  refine R_aload_n (i := 4) rfl rfl ?_
  refine R_getF hW (i := 5) rfl rfl (Nat.le_of_ble_eq_true rfl) rfl ?_
  refine R_getF hW (i := 6) rfl rfl (Nat.le_of_ble_eq_true rfl) rfl ?_
  refine R_alen (v := 301) hW (i := 7) rfl rfl rfl ?_
  refine R_icmpge (i := 8) rfl (fun c1 => ?_) (fun c1 => ?_)
  · rw [if_pos c1] at hf
    have hz := Option.some.inj hf
    subst hz
    exact R_vret (i := 23) rfl (kk hW)
  · rw [if_neg c1] at hf
    refine R_aload_n (i := 9) rfl rfl ?_
    refine R_dup (i := 10) rfl rfl ?_
    refine R_getI hW (i := 11) rfl rfl (Nat.le_of_ble_eq_true rfl) ?_
    refine R_iconst (i := 12) rfl ?_
    refine R_iadd (i := 13) rfl ?_
    refine R_putI hW (i := 14) rfl rfl (Nat.le_of_ble_eq_true rfl) (hg rfl hd) (fun h2 eh2 => ?_)
    replace hf := bnd_some eh2 hf
    have hW2 : WF 0 h2 := by rw [eh2]; exact hW
    refine R_aload_n (i := 15) rfl rfl ?_
    refine R_aload_n (i := 16) rfl rfl ?_
    refine R_getF hW2 (i := 17) rfl rfl (Nat.le_of_ble_eq_true rfl) rfl ?_
    refine R_getF hW2 (i := 18) rfl rfl (Nat.le_of_ble_eq_true rfl) rfl ?_
    refine R_aload_n (i := 19) rfl rfl ?_
    refine R_getI hW2 (i := 20) rfl rfl (Nat.le_of_ble_eq_true rfl) ?_
    have g3 := gd_some hf
    clear hf
    obtain ⟨g3, hf⟩ := g3
    refine R_iaload hW2 (i := 21) rfl rfl g3 ?_
    refine R_putI hW2 (i := 22) rfl rfl (Nat.le_of_ble_eq_true rfl) (hg rfl hd) (fun h4 eh4 => ?_)
    replace hf := bnd_some eh4 hf
    have hW4 : WF 0 h4 := by rw [eh4]; exact hW2
    have hz := Option.some.inj hf
    subst hz
    exact R_vret (i := 23) rfl (kk hW4)
