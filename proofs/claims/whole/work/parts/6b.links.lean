set_option maxRecDepth 100000 in
set_option maxHeartbeats 4000000 in
theorem f80_b24_l {d N : Nat} {x0 : Nat} {x1 : Int32} {x2 : Int32} {h : Hp} {Q : Option Value → Hp → Prop} {q : Hp} (hf : f80_b24 N x0 x1 x2 h = some q) (hW : WF 0 h) (hd : 5 ≤ d) (kk : WF 0 q → Q (none) q) : R 0 d 80 24 [some (.ref x0), some (.int x1), some (.int x2)] [] h Q := by
  unfold f80_b24 at hf
  refine R_iload_n (i := 24) rfl rfl ?_
  refine R_ifne (i := 25) rfl (fun c6 => ?_) (fun c6 => ?_)
  · rw [if_neg c6] at hf
    have hz := Option.some.inj hf
    subst hz
    exact R_vret (i := 37) rfl (kk hW)
  · rw [if_pos c6] at hf
    refine R_iload_n (i := 26) rfl rfl ?_
    refine R_bipush (i := 27) rfl ?_
    refine R_icmpge (i := 28) rfl (fun c7 => ?_) (fun c7 => ?_)
    · rw [if_pos c7] at hf
      have hz := Option.some.inj hf
      subst hz
      exact R_vret (i := 37) rfl (kk hW)
    · rw [if_neg c7] at hf
      refine R_aload_n (i := 29) rfl rfl ?_
      refine R_dup (i := 30) rfl rfl ?_
      have g8 := gd_some hf
      clear hf
      obtain ⟨g8, hf⟩ := g8
      refine R_getI hW (i := 31) rfl g8 (Nat.le_of_ble_eq_true rfl) ?_
      refine R_iconst (i := 32) rfl ?_
      refine R_iload_n (i := 33) rfl rfl ?_
      refine R_ishl (i := 34) rfl ?_
      refine R_ior (i := 35) rfl ?_
      have g9 := gd_some hf
      clear hf
      obtain ⟨g9, hf⟩ := g9
      refine R_putI hW (i := 36) rfl g9 (Nat.le_of_ble_eq_true rfl) (hg rfl hd) (fun h10 eh10 => ?_)
      replace hf := bnd_some eh10 hf
      have hW10 : WF 0 h10 := by rw [eh10]; exact hW
      have hz := Option.some.inj hf
      subst hz
      exact R_vret (i := 37) rfl (kk hW10)
set_option maxRecDepth 100000 in
set_option maxHeartbeats 4000000 in
theorem f80_l {d N : Nat} {p0 : Nat} {p1 : Int32} {p2 : Int32} {h : Hp} {Q : Option Value → Hp → Prop} {q : Hp} (hf : f80 N p0 p1 p2 h = some q) (hW : WF 0 h) (hd : 5 ≤ d) (kk : WF 0 q → Q (none) q) : R 0 d 80 0 [some (.ref p0), some (.int p1), some (.int p2)] [] h Q := by
  unfold f80 at hf
  refine R_aload_n (i := 0) rfl rfl ?_
  have g1 := gd_some hf
  clear hf
  obtain ⟨g1, hf⟩ := g1
  refine R_getI hW (i := 1) rfl g1 (Nat.le_of_ble_eq_true rfl) ?_
  refine R_aload_n (i := 2) rfl rfl ?_
  have g2 := gd_some hf
  clear hf
  obtain ⟨g2, hf⟩ := g2
  have zr3 := bind_some hf
  clear hf
  obtain ⟨r3, er3, hf⟩ := zr3
  refine R_getR hW (i := 3) rfl g2 (Nat.le_of_ble_eq_true rfl) er3 ?_
  have g4 := gd_some hf
  clear hf
  obtain ⟨g4, hf⟩ := g4
  refine R_alen hW (i := 4) rfl g4 rfl ?_
  refine R_icmpge (i := 5) rfl (fun c5 => ?_) (fun c5 => ?_)
  · rw [if_pos c5] at hf
    exact f80_b24_l hf hW hd kk
  · rw [if_neg c5] at hf
    refine R_aload_n (i := 6) rfl rfl ?_
    have g11 := gd_some hf
    clear hf
    obtain ⟨g11, hf⟩ := g11
    have zr12 := bind_some hf
    clear hf
    obtain ⟨r12, er12, hf⟩ := zr12
    refine R_getR hW (i := 7) rfl g11 (Nat.le_of_ble_eq_true rfl) er12 ?_
    refine R_aload_n (i := 8) rfl rfl ?_
    have g13 := gd_some hf
    clear hf
    obtain ⟨g13, hf⟩ := g13
    refine R_getI hW (i := 9) rfl g13 (Nat.le_of_ble_eq_true rfl) ?_
    refine R_iload_n (i := 10) rfl rfl ?_
    have g14 := gd_some hf
    clear hf
    obtain ⟨g14, hf⟩ := g14
    refine R_iastore hW (i := 11) rfl g14.1 g14.2 (hg rfl hd) (fun h15 eh15 => ?_)
    replace hf := bnd_some eh15 hf
    have hW15 : WF 0 h15 := by rw [eh15]; exact hW
    refine R_aload_n (i := 12) rfl rfl ?_
    refine R_dup (i := 13) rfl rfl ?_
    have g16 := gd_some hf
    clear hf
    obtain ⟨g16, hf⟩ := g16
    refine R_getI hW15 (i := 14) rfl g16 (Nat.le_of_ble_eq_true rfl) ?_
    refine R_iconst (i := 15) rfl ?_
    refine R_iadd (i := 16) rfl ?_
    have g17 := gd_some hf
    clear hf
    obtain ⟨g17, hf⟩ := g17
    refine R_putI hW15 (i := 17) rfl g17 (Nat.le_of_ble_eq_true rfl) (hg rfl hd) (fun h18 eh18 => ?_)
    replace hf := bnd_some eh18 hf
    have hW18 : WF 0 h18 := by rw [eh18]; exact hW15
    refine R_aload_n (i := 18) rfl rfl ?_
    have g19 := gd_some hf
    clear hf
    obtain ⟨g19, hf⟩ := g19
    have zr20 := bind_some hf
    clear hf
    obtain ⟨r20, er20, hf⟩ := zr20
    refine R_getR hW18 (i := 19) rfl g19 (Nat.le_of_ble_eq_true rfl) er20 ?_
    refine R_iload_n (i := 20) rfl rfl ?_
    refine R_aload_n (i := 21) rfl rfl ?_
    have g21 := gd_some hf
    clear hf
    obtain ⟨g21, hf⟩ := g21
    refine R_getI hW18 (i := 22) rfl g21 (Nat.le_of_ble_eq_true rfl) ?_
    have g22 := gd_some hf
    clear hf
    obtain ⟨g22, hf⟩ := g22
    refine R_iastore hW18 (i := 23) rfl g22.1 g22.2 (hg rfl hd) (fun h23 eh23 => ?_)
    replace hf := bnd_some eh23 hf
    have hW23 : WF 0 h23 := by rw [eh23]; exact hW18
    exact f80_b24_l hf hW23 hd kk
set_option maxRecDepth 100000 in
set_option maxHeartbeats 4000000 in
theorem f51_l {d N : Nat} {h : Hp} {Q : Option Value → Hp → Prop} {q : Int32 × Hp} (hf : f51 N h = some q) (hW : WF 0 h) (hd : 6 ≤ d) (kk : WF 0 q.2 → Q (some (.int q.1)) q.2) : R 0 d 51 0 [some (.ref 26)] [] h Q := by
  obtain ⟨d, rfl⟩ : ∃ z, d = z + 1 := ⟨d - 1, by omega⟩
  unfold f51 at hf
  refine R_aload_n (i := 0) rfl rfl ?_
  refine R_getI hW (i := 1) rfl rfl (Nat.le_of_ble_eq_true rfl) ?_
  refine R_bipush (i := 2) rfl ?_
  refine R_icmplt (i := 3) rfl (fun c1 => ?_) (fun c1 => ?_)
  · rw [if_pos c1] at hf
    refine R_aload_n (i := 9) rfl rfl ?_
    refine R_dup (i := 10) rfl rfl ?_
    refine R_getI hW (i := 11) rfl rfl (Nat.le_of_ble_eq_true rfl) ?_
    refine R_iconst (i := 12) rfl ?_
    refine R_iadd (i := 13) rfl ?_
    refine R_putI hW (i := 14) rfl rfl (Nat.le_of_ble_eq_true rfl) (hg rfl hd) (fun h2 eh2 => ?_)
    replace hf := bnd_some eh2 hf
    have hW2 : WF 0 h2 := by rw [eh2]; exact hW
    refine R_aload_n (i := 15) rfl rfl ?_
    have zq3 := bind_some hf
    clear hf
    obtain ⟨q3, eq3, hf⟩ := zq3
    refine R_callV (vs := []) (st' := []) hW2 (i := 16) rfl rfl rfl (Nat.le_of_ble_eq_true rfl) rfl (Nat.le_of_ble_eq_true rfl) rfl (f41_l eq3 hW2 (hh rfl hd) (fun hW3 => ?_))
    refine R_iconst (i := 17) rfl ?_
    have hz := Option.some.inj hf
    subst hz
    exact R_zret (r := 1) (i := 18) rfl (by decide) (kk hW3)
  · rw [if_neg c1] at hf
    refine R_aload_n (i := 4) rfl rfl ?_
    refine R_iconst (i := 5) rfl ?_
    have zq4 := bind_some hf
    clear hf
    obtain ⟨q4, eq4, hf⟩ := zq4
    refine R_callV (vs := [.int (3 : Int32)]) (st' := []) hW (i := 6) rfl rfl rfl (Nat.le_of_ble_eq_true rfl) rfl (Nat.le_of_ble_eq_true rfl) rfl (f42_l eq4 hW (hh rfl hd) (fun hW4 => ?_))
    refine R_iconst (i := 7) rfl ?_
    have hz := Option.some.inj hf
    subst hz
    exact R_zret (r := 0) (i := 8) rfl (by decide) (kk hW4)
set_option maxRecDepth 100000 in
set_option maxHeartbeats 4000000 in
theorem f47_l {d N : Nat} {G : Nat → Hp → Option Hp} {h : Hp} {Q : Option Value → Hp → Prop} {q : Hp} (hf : f47 G N h = some q) (hW : WF 0 h) (hd : 8 ≤ d) (hG : ∀ (t : Nat) (g q : Hp), G t g = some q → WF 0 g → ∀ (P : Option Value → Hp → Prop), (WF 0 q → P none q) → R 0 (d - 1) t 0 (entry [.ref 26] (mL t)) [] g P) (kk : WF 0 q → Q (none) q) : R 0 d 47 0 [some (.ref 26), none] [] h Q := by
  obtain ⟨d, rfl⟩ : ∃ z, d = z + 1 := ⟨d - 1, by omega⟩
  unfold f47 at hf
  refine R_aload_n (i := 0) rfl rfl ?_
  refine R_getI hW (i := 1) rfl rfl (Nat.le_of_ble_eq_true rfl) ?_
  refine R_bipush (i := 2) rfl ?_
  refine R_icmpne (i := 3) rfl (fun c1 => ?_) (fun c1 => ?_)
  · rw [if_neg c1] at hf
    refine R_aload_n (i := 22) rfl rfl ?_
    have zh2 := bind_some hf
    clear hf
    obtain ⟨h2, eh2, hf⟩ := zh2
    refine R_callV (vs := []) (st' := []) hW (i := 23) rfl rfl rfl (Nat.le_of_ble_eq_true rfl) rfl (Nat.le_of_ble_eq_true rfl) rfl (hG 48 _ _ eh2 hW _ (fun hW2 => ?_))
    refine R_aload_n (i := 24) rfl rfl ?_
    refine R_getI hW2 (i := 25) rfl rfl (Nat.le_of_ble_eq_true rfl) ?_
    refine R_bipush (i := 26) rfl ?_
    refine R_icmplt (i := 27) rfl (fun c3 => ?_) (fun c3 => ?_)
    · rw [if_pos c3] at hf
      refine R_aload_n (i := 32) rfl rfl ?_
      refine R_iconst (i := 33) rfl ?_
      have zq4 := bind_some hf
      clear hf
      obtain ⟨q4, eq4, hf⟩ := zq4
      refine R_callV (vs := [.int (1 : Int32)]) (st' := []) hW2 (i := 34) rfl rfl rfl (Nat.le_of_ble_eq_true rfl) rfl (Nat.le_of_ble_eq_true rfl) rfl (f42_l eq4 hW2 (hh rfl hd) (fun hW4 => ?_))
      have hz := Option.some.inj hf
      subst hz
      exact R_vret (i := 35) rfl (kk hW4)
    · rw [if_neg c3] at hf
      refine R_aload_n (i := 28) rfl rfl ?_
      refine R_getI hW2 (i := 29) rfl rfl (Nat.le_of_ble_eq_true rfl) ?_
      refine R_bipush (i := 30) rfl ?_
      refine R_icmple (i := 31) rfl (fun c5 => ?_) (fun c5 => ?_)
      · rw [if_pos c5] at hf
        refine R_aload_n (i := 36) rfl rfl ?_
        refine R_getI hW2 (i := 37) rfl rfl (Nat.le_of_ble_eq_true rfl) ?_
        refine R_topi (fun v6 e6 => ?_)
        replace hf := bnd_some e6 hf
        refine R_istore_n [some (.ref 26), some (.int v6)] (i := 38) rfl rfl ?_
        refine R_aload_n (i := 39) rfl rfl ?_
        have zq7 := bind_some hf
        clear hf
        obtain ⟨q7, eq7, hf⟩ := zq7
        refine R_callV (vs := []) (st' := []) hW2 (i := 40) rfl rfl rfl (Nat.le_of_ble_eq_true rfl) rfl (Nat.le_of_ble_eq_true rfl) rfl (f41_l eq7 hW2 (hh rfl hd) (fun hW7 => ?_))
        refine R_aload_n (i := 41) rfl rfl ?_
        have zh8 := bind_some hf
        clear hf
        obtain ⟨h8, eh8, hf⟩ := zh8
        refine R_callV (vs := []) (st' := []) hW7 (i := 42) rfl rfl rfl (Nat.le_of_ble_eq_true rfl) rfl (Nat.le_of_ble_eq_true rfl) rfl (hG 48 _ _ eh8 hW7 _ (fun hW8 => ?_))
        refine R_aload_n (i := 43) rfl rfl ?_
        have zr9 := bind_some hf
        clear hf
        obtain ⟨r9, er9, hf⟩ := zr9
        refine R_getR hW8 (i := 44) rfl rfl (Nat.le_of_ble_eq_true rfl) er9 ?_
        refine R_aload_n (i := 45) rfl rfl ?_
        refine R_getI hW8 (i := 46) rfl rfl (Nat.le_of_ble_eq_true rfl) ?_
        refine R_iload_n (i := 47) rfl rfl ?_
        have g10 := gd_some hf
        clear hf
        obtain ⟨g10, hf⟩ := g10
        have zq11 := bind_some hf
        clear hf
        obtain ⟨q11, eq11, hf⟩ := zq11
        refine R_callV (vs := [.int (hI h8 26 7), .int v6]) (st' := []) hW8 (i := 48) rfl rfl rfl (Nat.le_of_ble_eq_true rfl) g10 (Nat.le_of_ble_eq_true rfl) rfl (f80_l eq11 hW8 (hh rfl hd) (fun hW11 => ?_))
        have hz := Option.some.inj hf
        subst hz
        exact R_vret (i := 49) rfl (kk hW11)
      · rw [if_neg c5] at hf
        refine R_aload_n (i := 32) rfl rfl ?_
        refine R_iconst (i := 33) rfl ?_
        have zq12 := bind_some hf
        clear hf
        obtain ⟨q12, eq12, hf⟩ := zq12
        refine R_callV (vs := [.int (1 : Int32)]) (st' := []) hW2 (i := 34) rfl rfl rfl (Nat.le_of_ble_eq_true rfl) rfl (Nat.le_of_ble_eq_true rfl) rfl (f42_l eq12 hW2 (hh rfl hd) (fun hW12 => ?_))
        have hz := Option.some.inj hf
        subst hz
        exact R_vret (i := 35) rfl (kk hW12)
  · rw [if_pos c1] at hf
    refine R_aload_n (i := 4) rfl rfl ?_
    have zq13 := bind_some hf
    clear hf
    obtain ⟨q13, eq13, hf⟩ := zq13
    refine R_callV (vs := []) (st' := []) hW (i := 5) rfl rfl rfl (Nat.le_of_ble_eq_true rfl) rfl (Nat.le_of_ble_eq_true rfl) rfl (f51_l eq13 hW (hh rfl hd) (fun hW13 => ?_))
    refine R_ifeq (i := 6) rfl (fun c14 => ?_) (fun c14 => ?_)
    · rw [if_pos c14] at hf
      have hz := Option.some.inj hf
      subst hz
      exact R_vret (i := 21) rfl (kk hW13)
    · rw [if_neg c14] at hf
      refine R_aload_n (i := 7) rfl rfl ?_
      have zh15 := bind_some hf
      clear hf
      obtain ⟨h15, eh15, hf⟩ := zh15
      refine R_callV (vs := []) (st' := []) hW13 (i := 8) rfl rfl rfl (Nat.le_of_ble_eq_true rfl) rfl (Nat.le_of_ble_eq_true rfl) rfl (hG 47 _ _ eh15 hW13 _ (fun hW15 => ?_))
      refine R_aload_n (i := 9) rfl rfl ?_
      refine R_dup (i := 10) rfl rfl ?_
      refine R_getI hW15 (i := 11) rfl rfl (Nat.le_of_ble_eq_true rfl) ?_
      refine R_iconst (i := 12) rfl ?_
      refine R_isub (i := 13) rfl ?_
      refine R_putI hW15 (i := 14) rfl rfl (Nat.le_of_ble_eq_true rfl) (hg rfl hd) (fun h16 eh16 => ?_)
      replace hf := bnd_some eh16 hf
      have hW16 : WF 0 h16 := by rw [eh16]; exact hW15
      refine R_aload_n (i := 15) rfl rfl ?_
      have zr17 := bind_some hf
      clear hf
      obtain ⟨r17, er17, hf⟩ := zr17
      refine R_getR hW16 (i := 16) rfl rfl (Nat.le_of_ble_eq_true rfl) er17 ?_
      refine R_aload_n (i := 17) rfl rfl ?_
      refine R_getI hW16 (i := 18) rfl rfl (Nat.le_of_ble_eq_true rfl) ?_
      refine R_bipush (i := 19) rfl ?_
      have g18 := gd_some hf
      clear hf
      obtain ⟨g18, hf⟩ := g18
      have zq19 := bind_some hf
      clear hf
      obtain ⟨q19, eq19, hf⟩ := zq19
      refine R_callV (vs := [.int (hI h16 26 7), .int (10 : Int32)]) (st' := []) hW16 (i := 20) rfl rfl rfl (Nat.le_of_ble_eq_true rfl) g18 (Nat.le_of_ble_eq_true rfl) rfl (f80_l eq19 hW16 (hh rfl hd) (fun hW19 => ?_))
      have hz := Option.some.inj hf
      subst hz
      exact R_vret (i := 21) rfl (kk hW19)
set_option maxRecDepth 100000 in
set_option maxHeartbeats 4000000 in
theorem f48_b15_l {d N : Nat} {G : Nat → Hp → Option Hp} {x1 : Int32} {h : Hp} {Q : Option Value → Hp → Prop} {j : Nat} {s' : Int32 × Hp} (hf : f48_b15 G N x1 h = some (j, s')) (hW : WF 0 h) (hd : 8 ≤ d) (hG : ∀ (t : Nat) (g q : Hp), G t g = some q → WF 0 g → ∀ (P : Option Value → Hp → Prop), (WF 0 q → P none q) → R 0 (d - 1) t 0 (entry [.ref 26] (mL t)) [] g P) (k0 : j = 0 → WF 0 s'.2 → R 0 d 48 4 [some (.ref 26), some (.int s'.1), none] [] s'.2 Q) (k1 : j = 1 → WF 0 s'.2 → R 0 d 48 30 [none, none, none] [] s'.2 Q) : R 0 d 48 15 [some (.ref 26), some (.int x1), none] [] h Q := by
  obtain ⟨d, rfl⟩ : ∃ z, d = z + 1 := ⟨d - 1, by omega⟩
  unfold f48_b15 at hf
  refine R_aload_n (i := 15) rfl rfl ?_
  refine R_getI hW (i := 16) rfl rfl (Nat.le_of_ble_eq_true rfl) ?_
  refine R_topi (fun v4 e4 => ?_)
  replace hf := bnd_some e4 hf
  refine R_istore_n [some (.ref 26), some (.int x1), some (.int v4)] (i := 17) rfl rfl ?_
  refine R_aload_n (i := 18) rfl rfl ?_
  have zq5 := bind_some hf
  clear hf
  obtain ⟨q5, eq5, hf⟩ := zq5
  refine R_callV (vs := []) (st' := []) hW (i := 19) rfl rfl rfl (Nat.le_of_ble_eq_true rfl) rfl (Nat.le_of_ble_eq_true rfl) rfl (f41_l eq5 hW (hh rfl hd) (fun hW5 => ?_))
  refine R_aload_n (i := 20) rfl rfl ?_
  have zh6 := bind_some hf
  clear hf
  obtain ⟨h6, eh6, hf⟩ := zh6
  refine R_callV (vs := []) (st' := []) hW5 (i := 21) rfl rfl rfl (Nat.le_of_ble_eq_true rfl) rfl (Nat.le_of_ble_eq_true rfl) rfl (hG 49 _ _ eh6 hW5 _ (fun hW6 => ?_))
  refine R_aload_n (i := 22) rfl rfl ?_
  have zr7 := bind_some hf
  clear hf
  obtain ⟨r7, er7, hf⟩ := zr7
  refine R_getR hW6 (i := 23) rfl rfl (Nat.le_of_ble_eq_true rfl) er7 ?_
  refine R_aload_n (i := 24) rfl rfl ?_
  refine R_getI hW6 (i := 25) rfl rfl (Nat.le_of_ble_eq_true rfl) ?_
  refine R_iload_n (i := 26) rfl rfl ?_
  have g8 := gd_some hf
  clear hf
  obtain ⟨g8, hf⟩ := g8
  have zq9 := bind_some hf
  clear hf
  obtain ⟨q9, eq9, hf⟩ := zq9
  refine R_callV (vs := [.int (hI h6 26 7), .int v4]) (st' := []) hW6 (i := 27) rfl rfl rfl (Nat.le_of_ble_eq_true rfl) g8 (Nat.le_of_ble_eq_true rfl) rfl (f80_l eq9 hW6 (hh rfl hd) (fun hW9 => ?_))
  obtain ⟨v10, e10⟩ : ∃ z : Int32, z = (x1 + (1 : Int32)) := ⟨_, rfl⟩
  replace hf := bnd_some e10 hf
  refine R_iinc [some (.ref 26), some (.int v10), some (.int v4)] (i := 28) rfl rfl (by rw [← e10]; rfl) ?_
  refine R_goto (i := 29) rfl ?_
  obtain ⟨hj, hs⟩ := Prod.mk.inj (Option.some.inj hf)
  subst hj
  subst hs
  refine R_weak [some (.ref 26), some (.int v10), none] ⟨Or.inr rfl, Or.inr rfl, Or.inl rfl, trivial⟩ ?_
  exact k0 rfl hW9
set_option maxRecDepth 100000 in
set_option maxHeartbeats 4000000 in
theorem f48_l4_l {d N : Nat} {G : Nat → Hp → Option Hp} {s : Int32 × Hp} {Q : Option Value → Hp → Prop} {j : Nat} {s' : Int32 × Hp} (hf : f48_l4 G N s = some (j, s')) (hW : WF 0 s.2) (hd : 8 ≤ d) (hG : ∀ (t : Nat) (g q : Hp), G t g = some q → WF 0 g → ∀ (P : Option Value → Hp → Prop), (WF 0 q → P none q) → R 0 (d - 1) t 0 (entry [.ref 26] (mL t)) [] g P) (k0 : j = 0 → WF 0 s'.2 → R 0 d 48 4 [some (.ref 26), some (.int s'.1), none] [] s'.2 Q) (k1 : j = 1 → WF 0 s'.2 → R 0 d 48 30 [none, none, none] [] s'.2 Q) : R 0 d 48 4 [some (.ref 26), some (.int s.1), none] [] s.2 Q := by
  unfold f48_l4 at hf
  refine R_iload_n (i := 4) rfl rfl ?_
  refine R_sipush (i := 5) rfl ?_
  refine R_icmpge (i := 6) rfl (fun c2 => ?_) (fun c2 => ?_)
  · rw [if_pos c2] at hf
    obtain ⟨hj, hs⟩ := Prod.mk.inj (Option.some.inj hf)
    subst hj
    subst hs
    refine R_weak [none, none, none] ⟨Or.inl rfl, Or.inl rfl, Or.inr rfl, trivial⟩ ?_
    exact k1 rfl hW
  · rw [if_neg c2] at hf
    refine R_aload_n (i := 7) rfl rfl ?_
    refine R_getI hW (i := 8) rfl rfl (Nat.le_of_ble_eq_true rfl) ?_
    refine R_bipush (i := 9) rfl ?_
    refine R_icmpeq (i := 10) rfl (fun c3 => ?_) (fun c3 => ?_)
    · rw [if_pos c3] at hf
      exact f48_b15_l hf hW hd hG k0 k1
    · rw [if_neg c3] at hf
      refine R_aload_n (i := 11) rfl rfl ?_
      refine R_getI hW (i := 12) rfl rfl (Nat.le_of_ble_eq_true rfl) ?_
      refine R_bipush (i := 13) rfl ?_
      refine R_icmpne (i := 14) rfl (fun c11 => ?_) (fun c11 => ?_)
      · rw [if_neg c11] at hf
        obtain ⟨hj, hs⟩ := Prod.mk.inj (Option.some.inj hf)
        subst hj
        subst hs
        refine R_weak [none, none, none] ⟨Or.inl rfl, Or.inl rfl, Or.inr rfl, trivial⟩ ?_
        exact k1 rfl hW
      · rw [if_pos c11] at hf
        exact f48_b15_l hf hW hd hG k0 k1
set_option maxRecDepth 100000 in
set_option maxHeartbeats 4000000 in
theorem f48_l {d N : Nat} {G : Nat → Hp → Option Hp} {h : Hp} {Q : Option Value → Hp → Prop} {q : Hp} (hf : f48 G N h = some q) (hW : WF 0 h) (hd : 8 ≤ d) (hG : ∀ (t : Nat) (g q : Hp), G t g = some q → WF 0 g → ∀ (P : Option Value → Hp → Prop), (WF 0 q → P none q) → R 0 (d - 1) t 0 (entry [.ref 26] (mL t)) [] g P) (kk : WF 0 q → Q (none) q) : R 0 d 48 0 [some (.ref 26), none, none] [] h Q := by
  obtain ⟨d, rfl⟩ : ∃ z, d = z + 1 := ⟨d - 1, by omega⟩
  unfold f48 at hf
  refine R_aload_n (i := 0) rfl rfl ?_
  have zh1 := bind_some hf
  clear hf
  obtain ⟨h1, eh1, hf⟩ := zh1
  refine R_callV (vs := []) (st' := []) hW (i := 1) rfl rfl rfl (Nat.le_of_ble_eq_true rfl) rfl (Nat.le_of_ble_eq_true rfl) rfl (hG 49 _ _ eh1 hW _ (fun hW1 => ?_))
  refine R_iconst (i := 2) rfl ?_
  refine R_istore_n [some (.ref 26), some (.int (0 : Int32)), none] (i := 3) rfl rfl ?_
  have zq12 := bind_some hf
  clear hf
  obtain ⟨q12, eq12, hf⟩ := zq12
  refine lp_link (P := fun u4 => WF 0 u4.2 → R 0 (d + 1) 48 4 [some (.ref 26), some (.int u4.1), none] [] u4.2 Q) (E := fun e u4 => WF 0 u4.2 → R 0 (d + 1) 48 30 [none, none, none] [] u4.2 Q) (fun s j s' hb k0 ke hWs => f48_l4_l hb hWs hd hG k0 (fun z y => ke 0 z y)) N ((0 : Int32), h1) q12.1 q12.2 eq12 ?_ hW1
  intro hW12
  have hz := Option.some.inj hf
  subst hz
  exact R_vret (i := 30) rfl (kk hW12)
set_option maxRecDepth 100000 in
set_option maxHeartbeats 4000000 in
theorem f49_b15_l {d N : Nat} {G : Nat → Hp → Option Hp} {x1 : Int32} {h : Hp} {Q : Option Value → Hp → Prop} {j : Nat} {s' : Int32 × Hp} (hf : f49_b15 G N x1 h = some (j, s')) (hW : WF 0 h) (hd : 8 ≤ d) (hG : ∀ (t : Nat) (g q : Hp), G t g = some q → WF 0 g → ∀ (P : Option Value → Hp → Prop), (WF 0 q → P none q) → R 0 (d - 1) t 0 (entry [.ref 26] (mL t)) [] g P) (k0 : j = 0 → WF 0 s'.2 → R 0 d 49 4 [some (.ref 26), some (.int s'.1), none] [] s'.2 Q) (k1 : j = 1 → WF 0 s'.2 → R 0 d 49 30 [none, none, none] [] s'.2 Q) : R 0 d 49 15 [some (.ref 26), some (.int x1), none] [] h Q := by
  obtain ⟨d, rfl⟩ : ∃ z, d = z + 1 := ⟨d - 1, by omega⟩
  unfold f49_b15 at hf
  refine R_aload_n (i := 15) rfl rfl ?_
  refine R_getI hW (i := 16) rfl rfl (Nat.le_of_ble_eq_true rfl) ?_
  refine R_topi (fun v4 e4 => ?_)
  replace hf := bnd_some e4 hf
  refine R_istore_n [some (.ref 26), some (.int x1), some (.int v4)] (i := 17) rfl rfl ?_
  refine R_aload_n (i := 18) rfl rfl ?_
  have zq5 := bind_some hf
  clear hf
  obtain ⟨q5, eq5, hf⟩ := zq5
  refine R_callV (vs := []) (st' := []) hW (i := 19) rfl rfl rfl (Nat.le_of_ble_eq_true rfl) rfl (Nat.le_of_ble_eq_true rfl) rfl (f41_l eq5 hW (hh rfl hd) (fun hW5 => ?_))
  refine R_aload_n (i := 20) rfl rfl ?_
  have zh6 := bind_some hf
  clear hf
  obtain ⟨h6, eh6, hf⟩ := zh6
  refine R_callV (vs := []) (st' := []) hW5 (i := 21) rfl rfl rfl (Nat.le_of_ble_eq_true rfl) rfl (Nat.le_of_ble_eq_true rfl) rfl (hG 50 _ _ eh6 hW5 _ (fun hW6 => ?_))
  refine R_aload_n (i := 22) rfl rfl ?_
  have zr7 := bind_some hf
  clear hf
  obtain ⟨r7, er7, hf⟩ := zr7
  refine R_getR hW6 (i := 23) rfl rfl (Nat.le_of_ble_eq_true rfl) er7 ?_
  refine R_aload_n (i := 24) rfl rfl ?_
  refine R_getI hW6 (i := 25) rfl rfl (Nat.le_of_ble_eq_true rfl) ?_
  refine R_iload_n (i := 26) rfl rfl ?_
  have g8 := gd_some hf
  clear hf
  obtain ⟨g8, hf⟩ := g8
  have zq9 := bind_some hf
  clear hf
  obtain ⟨q9, eq9, hf⟩ := zq9
  refine R_callV (vs := [.int (hI h6 26 7), .int v4]) (st' := []) hW6 (i := 27) rfl rfl rfl (Nat.le_of_ble_eq_true rfl) g8 (Nat.le_of_ble_eq_true rfl) rfl (f80_l eq9 hW6 (hh rfl hd) (fun hW9 => ?_))
  obtain ⟨v10, e10⟩ : ∃ z : Int32, z = (x1 + (1 : Int32)) := ⟨_, rfl⟩
  replace hf := bnd_some e10 hf
  refine R_iinc [some (.ref 26), some (.int v10), some (.int v4)] (i := 28) rfl rfl (by rw [← e10]; rfl) ?_
  refine R_goto (i := 29) rfl ?_
  obtain ⟨hj, hs⟩ := Prod.mk.inj (Option.some.inj hf)
  subst hj
  subst hs
  refine R_weak [some (.ref 26), some (.int v10), none] ⟨Or.inr rfl, Or.inr rfl, Or.inl rfl, trivial⟩ ?_
  exact k0 rfl hW9
set_option maxRecDepth 100000 in
set_option maxHeartbeats 4000000 in
theorem f49_l4_l {d N : Nat} {G : Nat → Hp → Option Hp} {s : Int32 × Hp} {Q : Option Value → Hp → Prop} {j : Nat} {s' : Int32 × Hp} (hf : f49_l4 G N s = some (j, s')) (hW : WF 0 s.2) (hd : 8 ≤ d) (hG : ∀ (t : Nat) (g q : Hp), G t g = some q → WF 0 g → ∀ (P : Option Value → Hp → Prop), (WF 0 q → P none q) → R 0 (d - 1) t 0 (entry [.ref 26] (mL t)) [] g P) (k0 : j = 0 → WF 0 s'.2 → R 0 d 49 4 [some (.ref 26), some (.int s'.1), none] [] s'.2 Q) (k1 : j = 1 → WF 0 s'.2 → R 0 d 49 30 [none, none, none] [] s'.2 Q) : R 0 d 49 4 [some (.ref 26), some (.int s.1), none] [] s.2 Q := by
  unfold f49_l4 at hf
  refine R_iload_n (i := 4) rfl rfl ?_
  refine R_sipush (i := 5) rfl ?_
  refine R_icmpge (i := 6) rfl (fun c2 => ?_) (fun c2 => ?_)
  · rw [if_pos c2] at hf
    obtain ⟨hj, hs⟩ := Prod.mk.inj (Option.some.inj hf)
    subst hj
    subst hs
    refine R_weak [none, none, none] ⟨Or.inl rfl, Or.inl rfl, Or.inr rfl, trivial⟩ ?_
    exact k1 rfl hW
  · rw [if_neg c2] at hf
    refine R_aload_n (i := 7) rfl rfl ?_
    refine R_getI hW (i := 8) rfl rfl (Nat.le_of_ble_eq_true rfl) ?_
    refine R_bipush (i := 9) rfl ?_
    refine R_icmpeq (i := 10) rfl (fun c3 => ?_) (fun c3 => ?_)
    · rw [if_pos c3] at hf
      exact f49_b15_l hf hW hd hG k0 k1
    · rw [if_neg c3] at hf
      refine R_aload_n (i := 11) rfl rfl ?_
      refine R_getI hW (i := 12) rfl rfl (Nat.le_of_ble_eq_true rfl) ?_
      refine R_bipush (i := 13) rfl ?_
      refine R_icmpne (i := 14) rfl (fun c11 => ?_) (fun c11 => ?_)
      · rw [if_neg c11] at hf
        obtain ⟨hj, hs⟩ := Prod.mk.inj (Option.some.inj hf)
        subst hj
        subst hs
        refine R_weak [none, none, none] ⟨Or.inl rfl, Or.inl rfl, Or.inr rfl, trivial⟩ ?_
        exact k1 rfl hW
      · rw [if_pos c11] at hf
        exact f49_b15_l hf hW hd hG k0 k1
set_option maxRecDepth 100000 in
set_option maxHeartbeats 4000000 in
theorem f49_l {d N : Nat} {G : Nat → Hp → Option Hp} {h : Hp} {Q : Option Value → Hp → Prop} {q : Hp} (hf : f49 G N h = some q) (hW : WF 0 h) (hd : 8 ≤ d) (hG : ∀ (t : Nat) (g q : Hp), G t g = some q → WF 0 g → ∀ (P : Option Value → Hp → Prop), (WF 0 q → P none q) → R 0 (d - 1) t 0 (entry [.ref 26] (mL t)) [] g P) (kk : WF 0 q → Q (none) q) : R 0 d 49 0 [some (.ref 26), none, none] [] h Q := by
  obtain ⟨d, rfl⟩ : ∃ z, d = z + 1 := ⟨d - 1, by omega⟩
  unfold f49 at hf
  refine R_aload_n (i := 0) rfl rfl ?_
  have zh1 := bind_some hf
  clear hf
  obtain ⟨h1, eh1, hf⟩ := zh1
  refine R_callV (vs := []) (st' := []) hW (i := 1) rfl rfl rfl (Nat.le_of_ble_eq_true rfl) rfl (Nat.le_of_ble_eq_true rfl) rfl (hG 50 _ _ eh1 hW _ (fun hW1 => ?_))
  refine R_iconst (i := 2) rfl ?_
  refine R_istore_n [some (.ref 26), some (.int (0 : Int32)), none] (i := 3) rfl rfl ?_
  have zq12 := bind_some hf
  clear hf
  obtain ⟨q12, eq12, hf⟩ := zq12
  refine lp_link (P := fun u4 => WF 0 u4.2 → R 0 (d + 1) 49 4 [some (.ref 26), some (.int u4.1), none] [] u4.2 Q) (E := fun e u4 => WF 0 u4.2 → R 0 (d + 1) 49 30 [none, none, none] [] u4.2 Q) (fun s j s' hb k0 ke hWs => f49_l4_l hb hWs hd hG k0 (fun z y => ke 0 z y)) N ((0 : Int32), h1) q12.1 q12.2 eq12 ?_ hW1
  intro hW12
  have hz := Option.some.inj hf
  subst hz
  exact R_vret (i := 30) rfl (kk hW12)
set_option maxRecDepth 100000 in
set_option maxHeartbeats 4000000 in
theorem f43_l {d N : Nat} {p1 : Int32} {h : Hp} {Q : Option Value → Hp → Prop} {q : Hp} (hf : f43 N p1 h = some q) (hW : WF 0 h) (hd : 6 ≤ d) (kk : WF 0 q → Q (none) q) : R 0 d 43 0 [some (.ref 26), some (.int p1)] [] h Q := by
  obtain ⟨d, rfl⟩ : ∃ z, d = z + 1 := ⟨d - 1, by omega⟩
  unfold f43 at hf
  refine R_aload_n (i := 0) rfl rfl ?_
  refine R_getI hW (i := 1) rfl rfl (Nat.le_of_ble_eq_true rfl) ?_
  refine R_iload_n (i := 2) rfl rfl ?_
  refine R_icmpne (i := 3) rfl (fun c1 => ?_) (fun c1 => ?_)
  · rw [if_neg c1] at hf
    refine R_aload_n (i := 7) rfl rfl ?_
    refine R_iconst (i := 8) rfl ?_
    have zq2 := bind_some hf
    clear hf
    obtain ⟨q2, eq2, hf⟩ := zq2
    refine R_callV (vs := [.int (1 : Int32)]) (st' := []) hW (i := 9) rfl rfl rfl (Nat.le_of_ble_eq_true rfl) rfl (Nat.le_of_ble_eq_true rfl) rfl (f42_l eq2 hW (hh rfl hd) (fun hW2 => ?_))
    have hz := Option.some.inj hf
    subst hz
    exact R_vret (i := 10) rfl (kk hW2)
  · rw [if_pos c1] at hf
    refine R_aload_n (i := 4) rfl rfl ?_
    have zq3 := bind_some hf
    clear hf
    obtain ⟨q3, eq3, hf⟩ := zq3
    refine R_callV (vs := []) (st' := []) hW (i := 5) rfl rfl rfl (Nat.le_of_ble_eq_true rfl) rfl (Nat.le_of_ble_eq_true rfl) rfl (f41_l eq3 hW (hh rfl hd) (fun hW3 => ?_))
    refine R_goto (i := 6) rfl ?_
    have hz := Option.some.inj hf
    subst hz
    exact R_vret (i := 10) rfl (kk hW3)
set_option maxRecDepth 100000 in
set_option maxHeartbeats 4000000 in
theorem f50_b30_l {d N : Nat} {G : Nat → Hp → Option Hp} {h : Hp} {Q : Option Value → Hp → Prop} {q : Hp} (hf : f50_b30 G N h = some q) (hW : WF 0 h) (hd : 8 ≤ d) (hG : ∀ (t : Nat) (g q : Hp), G t g = some q → WF 0 g → ∀ (P : Option Value → Hp → Prop), (WF 0 q → P none q) → R 0 (d - 1) t 0 (entry [.ref 26] (mL t)) [] g P) (kk : WF 0 q → Q (none) q) : R 0 d 50 30 [some (.ref 26)] [] h Q := by
  obtain ⟨d, rfl⟩ : ∃ z, d = z + 1 := ⟨d - 1, by omega⟩
  unfold f50_b30 at hf
  refine R_aload_n (i := 30) rfl rfl ?_
  have zr4 := bind_some hf
  clear hf
  obtain ⟨r4, er4, hf⟩ := zr4
  refine R_getR hW (i := 31) rfl rfl (Nat.le_of_ble_eq_true rfl) er4 ?_
  refine R_aload_n (i := 32) rfl rfl ?_
  refine R_getI hW (i := 33) rfl rfl (Nat.le_of_ble_eq_true rfl) ?_
  refine R_aload_n (i := 34) rfl rfl ?_
  refine R_getI hW (i := 35) rfl rfl (Nat.le_of_ble_eq_true rfl) ?_
  have g5 := gd_some hf
  clear hf
  obtain ⟨g5, hf⟩ := g5
  have zq6 := bind_some hf
  clear hf
  obtain ⟨q6, eq6, hf⟩ := zq6
  refine R_callV (vs := [.int (hI h 26 7), .int (hI h 26 6)]) (st' := []) hW (i := 36) rfl rfl rfl (Nat.le_of_ble_eq_true rfl) g5 (Nat.le_of_ble_eq_true rfl) rfl (f80_l eq6 hW (hh rfl hd) (fun hW6 => ?_))
  refine R_aload_n (i := 37) rfl rfl ?_
  have zq7 := bind_some hf
  clear hf
  obtain ⟨q7, eq7, hf⟩ := zq7
  refine R_callV (vs := []) (st' := []) hW6 (i := 38) rfl rfl rfl (Nat.le_of_ble_eq_true rfl) rfl (Nat.le_of_ble_eq_true rfl) rfl (f41_l eq7 hW6 (hh rfl hd) (fun hW7 => ?_))
  refine R_goto (i := 39) rfl ?_
  have hz := Option.some.inj hf
  subst hz
  exact R_vret (i := 84) rfl (kk hW7)
set_option maxRecDepth 100000 in
set_option maxHeartbeats 4000000 in
theorem f50_b22_l {d N : Nat} {G : Nat → Hp → Option Hp} {h : Hp} {Q : Option Value → Hp → Prop} {q : Hp} (hf : f50_b22 G N h = some q) (hW : WF 0 h) (hd : 8 ≤ d) (hG : ∀ (t : Nat) (g q : Hp), G t g = some q → WF 0 g → ∀ (P : Option Value → Hp → Prop), (WF 0 q → P none q) → R 0 (d - 1) t 0 (entry [.ref 26] (mL t)) [] g P) (kk : WF 0 q → Q (none) q) : R 0 d 50 22 [some (.ref 26)] [] h Q := by
  obtain ⟨d, rfl⟩ : ∃ z, d = z + 1 := ⟨d - 1, by omega⟩
  unfold f50_b22 at hf
  refine R_aload_n (i := 22) rfl rfl ?_
  refine R_getI hW (i := 23) rfl rfl (Nat.le_of_ble_eq_true rfl) ?_
  refine R_bipush (i := 24) rfl ?_
  refine R_icmpge (i := 25) rfl (fun c3 => ?_) (fun c3 => ?_)
  · rw [if_pos c3] at hf
    exact f50_b30_l hf hW hd hG kk
  · rw [if_neg c3] at hf
    refine R_aload_n (i := 26) rfl rfl ?_
    refine R_getI hW (i := 27) rfl rfl (Nat.le_of_ble_eq_true rfl) ?_
    refine R_bipush (i := 28) rfl ?_
    refine R_icmpge (i := 29) rfl (fun c8 => ?_) (fun c8 => ?_)
    · rw [if_pos c8] at hf
      refine R_aload_n (i := 40) rfl rfl ?_
      refine R_getI hW (i := 41) rfl rfl (Nat.le_of_ble_eq_true rfl) ?_
      refine R_bipush (i := 42) rfl ?_
      refine R_icmpne (i := 43) rfl (fun c9 => ?_) (fun c9 => ?_)
      · rw [if_neg c9] at hf
        refine R_aload_n (i := 59) rfl rfl ?_
        refine R_getI hW (i := 60) rfl rfl (Nat.le_of_ble_eq_true rfl) ?_
        refine R_bipush (i := 61) rfl ?_
        refine R_icmpne (i := 62) rfl (fun c10 => ?_) (fun c10 => ?_)
        · rw [if_neg c10] at hf
          refine R_aload_n (i := 81) rfl rfl ?_
          refine R_iconst (i := 82) rfl ?_
          have zq11 := bind_some hf
          clear hf
          obtain ⟨q11, eq11, hf⟩ := zq11
          refine R_callV (vs := [.int (1 : Int32)]) (st' := []) hW (i := 83) rfl rfl rfl (Nat.le_of_ble_eq_true rfl) rfl (Nat.le_of_ble_eq_true rfl) rfl (f42_l eq11 hW (hh rfl hd) (fun hW11 => ?_))
          have hz := Option.some.inj hf
          subst hz
          exact R_vret (i := 84) rfl (kk hW11)
        · rw [if_pos c10] at hf
          refine R_aload_n (i := 63) rfl rfl ?_
          have zq12 := bind_some hf
          clear hf
          obtain ⟨q12, eq12, hf⟩ := zq12
          refine R_callV (vs := []) (st' := []) hW (i := 64) rfl rfl rfl (Nat.le_of_ble_eq_true rfl) rfl (Nat.le_of_ble_eq_true rfl) rfl (f51_l eq12 hW (hh rfl hd) (fun hW12 => ?_))
          refine R_ifeq (i := 65) rfl (fun c13 => ?_) (fun c13 => ?_)
          · rw [if_pos c13] at hf
            have hz := Option.some.inj hf
            subst hz
            exact R_vret (i := 84) rfl (kk hW12)
          · rw [if_neg c13] at hf
            refine R_aload_n (i := 66) rfl rfl ?_
            have zh14 := bind_some hf
            clear hf
            obtain ⟨h14, eh14, hf⟩ := zh14
            refine R_callV (vs := []) (st' := []) hW12 (i := 67) rfl rfl rfl (Nat.le_of_ble_eq_true rfl) rfl (Nat.le_of_ble_eq_true rfl) rfl (hG 50 _ _ eh14 hW12 _ (fun hW14 => ?_))
            refine R_aload_n (i := 68) rfl rfl ?_
            refine R_dup (i := 69) rfl rfl ?_
            refine R_getI hW14 (i := 70) rfl rfl (Nat.le_of_ble_eq_true rfl) ?_
            refine R_iconst (i := 71) rfl ?_
            refine R_isub (i := 72) rfl ?_
            refine R_putI hW14 (i := 73) rfl rfl (Nat.le_of_ble_eq_true rfl) (hg rfl hd) (fun h15 eh15 => ?_)
            replace hf := bnd_some eh15 hf
            have hW15 : WF 0 h15 := by rw [eh15]; exact hW14
            refine R_aload_n (i := 74) rfl rfl ?_
            have zr16 := bind_some hf
            clear hf
            obtain ⟨r16, er16, hf⟩ := zr16
            refine R_getR hW15 (i := 75) rfl rfl (Nat.le_of_ble_eq_true rfl) er16 ?_
            refine R_aload_n (i := 76) rfl rfl ?_
            refine R_getI hW15 (i := 77) rfl rfl (Nat.le_of_ble_eq_true rfl) ?_
            refine R_bipush (i := 78) rfl ?_
            have g17 := gd_some hf
            clear hf
            obtain ⟨g17, hf⟩ := g17
            have zq18 := bind_some hf
            clear hf
            obtain ⟨q18, eq18, hf⟩ := zq18
            refine R_callV (vs := [.int (hI h15 26 7), .int (29 : Int32)]) (st' := []) hW15 (i := 79) rfl rfl rfl (Nat.le_of_ble_eq_true rfl) g17 (Nat.le_of_ble_eq_true rfl) rfl (f80_l eq18 hW15 (hh rfl hd) (fun hW18 => ?_))
            refine R_goto (i := 80) rfl ?_
            have hz := Option.some.inj hf
            subst hz
            exact R_vret (i := 84) rfl (kk hW18)
      · rw [if_pos c9] at hf
        refine R_aload_n (i := 44) rfl rfl ?_
        have zq19 := bind_some hf
        clear hf
        obtain ⟨q19, eq19, hf⟩ := zq19
        refine R_callV (vs := []) (st' := []) hW (i := 45) rfl rfl rfl (Nat.le_of_ble_eq_true rfl) rfl (Nat.le_of_ble_eq_true rfl) rfl (f51_l eq19 hW (hh rfl hd) (fun hW19 => ?_))
        refine R_ifeq (i := 46) rfl (fun c20 => ?_) (fun c20 => ?_)
        · rw [if_pos c20] at hf
          have hz := Option.some.inj hf
          subst hz
          exact R_vret (i := 84) rfl (kk hW19)
        · rw [if_neg c20] at hf
          refine R_aload_n (i := 47) rfl rfl ?_
          have zh21 := bind_some hf
          clear hf
          obtain ⟨h21, eh21, hf⟩ := zh21
          refine R_callV (vs := []) (st' := []) hW19 (i := 48) rfl rfl rfl (Nat.le_of_ble_eq_true rfl) rfl (Nat.le_of_ble_eq_true rfl) rfl (hG 48 _ _ eh21 hW19 _ (fun hW21 => ?_))
          refine R_aload_n (i := 49) rfl rfl ?_
          refine R_dup (i := 50) rfl rfl ?_
          refine R_getI hW21 (i := 51) rfl rfl (Nat.le_of_ble_eq_true rfl) ?_
          refine R_iconst (i := 52) rfl ?_
          refine R_isub (i := 53) rfl ?_
          refine R_putI hW21 (i := 54) rfl rfl (Nat.le_of_ble_eq_true rfl) (hg rfl hd) (fun h22 eh22 => ?_)
          replace hf := bnd_some eh22 hf
          have hW22 : WF 0 h22 := by rw [eh22]; exact hW21
          refine R_aload_n (i := 55) rfl rfl ?_
          refine R_bipush (i := 56) rfl ?_
          have zq23 := bind_some hf
          clear hf
          obtain ⟨q23, eq23, hf⟩ := zq23
          refine R_callV (vs := [.int (25 : Int32)]) (st' := []) hW22 (i := 57) rfl rfl rfl (Nat.le_of_ble_eq_true rfl) rfl (Nat.le_of_ble_eq_true rfl) rfl (f43_l eq23 hW22 (hh rfl hd) (fun hW23 => ?_))
          refine R_goto (i := 58) rfl ?_
          have hz := Option.some.inj hf
          subst hz
          exact R_vret (i := 84) rfl (kk hW23)
    · rw [if_neg c8] at hf
      exact f50_b30_l hf hW hd hG kk
set_option maxRecDepth 100000 in
set_option maxHeartbeats 4000000 in
theorem f50_l {d N : Nat} {G : Nat → Hp → Option Hp} {h : Hp} {Q : Option Value → Hp → Prop} {q : Hp} (hf : f50 G N h = some q) (hW : WF 0 h) (hd : 8 ≤ d) (hG : ∀ (t : Nat) (g q : Hp), G t g = some q → WF 0 g → ∀ (P : Option Value → Hp → Prop), (WF 0 q → P none q) → R 0 (d - 1) t 0 (entry [.ref 26] (mL t)) [] g P) (kk : WF 0 q → Q (none) q) : R 0 d 50 0 [some (.ref 26)] [] h Q := by
  obtain ⟨d, rfl⟩ : ∃ z, d = z + 1 := ⟨d - 1, by omega⟩
  unfold f50 at hf
  refine R_aload_n (i := 0) rfl rfl ?_
  refine R_getI hW (i := 1) rfl rfl (Nat.le_of_ble_eq_true rfl) ?_
  refine R_sipush (i := 2) rfl ?_
  refine R_icmple (i := 3) rfl (fun c1 => ?_) (fun c1 => ?_)
  · rw [if_pos c1] at hf
    refine R_aload_n (i := 8) rfl rfl ?_
    refine R_getI hW (i := 9) rfl rfl (Nat.le_of_ble_eq_true rfl) ?_
    refine R_bipush (i := 10) rfl ?_
    refine R_icmpge (i := 11) rfl (fun c2 => ?_) (fun c2 => ?_)
    · rw [if_pos c2] at hf
      exact f50_b22_l hf hW hd hG kk
    · rw [if_neg c2] at hf
      refine R_aload_n (i := 12) rfl rfl ?_
      refine R_getI hW (i := 13) rfl rfl (Nat.le_of_ble_eq_true rfl) ?_
      refine R_aload_n (i := 14) rfl rfl ?_
      refine R_getI hW (i := 15) rfl rfl (Nat.le_of_ble_eq_true rfl) ?_
      refine R_call (vs := [.int (hI h 26 8), .int (hI h 26 6)]) (st' := []) (i := 16) rfl (by decide) (by decide) rfl rfl (Nat.le_of_ble_eq_true rfl) rfl (f123_l (hh rfl hd) ?_)
      refine R_ifne (i := 17) rfl (fun c24 => ?_) (fun c24 => ?_)
      · rw [if_neg c24] at hf
        exact f50_b22_l hf hW hd hG kk
      · rw [if_pos c24] at hf
        refine R_aload_n (i := 18) rfl rfl ?_
        refine R_iconst (i := 19) rfl ?_
        have zq25 := bind_some hf
        clear hf
        obtain ⟨q25, eq25, hf⟩ := zq25
        refine R_callV (vs := [.int (5 : Int32)]) (st' := []) hW (i := 20) rfl rfl rfl (Nat.le_of_ble_eq_true rfl) rfl (Nat.le_of_ble_eq_true rfl) rfl (f42_l eq25 hW (hh rfl hd) (fun hW25 => ?_))
        refine R_goto (i := 21) rfl ?_
        have hz := Option.some.inj hf
        subst hz
        exact R_vret (i := 84) rfl (kk hW25)
  · rw [if_neg c1] at hf
    refine R_aload_n (i := 4) rfl rfl ?_
    refine R_iconst (i := 5) rfl ?_
    have zq26 := bind_some hf
    clear hf
    obtain ⟨q26, eq26, hf⟩ := zq26
    refine R_callV (vs := [.int (2 : Int32)]) (st' := []) hW (i := 6) rfl rfl rfl (Nat.le_of_ble_eq_true rfl) rfl (Nat.le_of_ble_eq_true rfl) rfl (f42_l eq26 hW (hh rfl hd) (fun hW26 => ?_))
    refine R_goto (i := 7) rfl ?_
    have hz := Option.some.inj hf
    subst hz
    exact R_vret (i := 84) rfl (kk hW26)
set_option maxRecDepth 100000 in
set_option maxHeartbeats 4000000 in
theorem fG_l {N : Nat} : ∀ (n t : Nat) (h q : Hp), fG N n t h = some q → WF 0 h → ∀ {d : Nat}, n + 9 ≤ d → ∀ (P : Option Value → Hp → Prop), (WF 0 q → P none q) → R 0 d t 0 (entry [.ref 26] (mL t)) [] h P := by
  intro n
  induction n with
  | zero => intro t h q hf; cases hf
  | succ n ih =>
    intro t h q hf hW d hd P kk
    unfold fG at hf
    by_cases c47 : t = 47
    · subst c47
      rw [if_pos rfl] at hf
      exact f47_l hf hW (by omega) (fun t g q e hW P kk => ih t g q e hW (by omega) P kk) kk
    rw [if_neg c47] at hf
    by_cases c48 : t = 48
    · subst c48
      rw [if_pos rfl] at hf
      exact f48_l hf hW (by omega) (fun t g q e hW P kk => ih t g q e hW (by omega) P kk) kk
    rw [if_neg c48] at hf
    by_cases c49 : t = 49
    · subst c49
      rw [if_pos rfl] at hf
      exact f49_l hf hW (by omega) (fun t g q e hW P kk => ih t g q e hW (by omega) P kk) kk
    rw [if_neg c49] at hf
    by_cases c50 : t = 50
    · subst c50
      rw [if_pos rfl] at hf
      exact f50_l hf hW (by omega) (fun t g q e hW P kk => ih t g q e hW (by omega) P kk) kk
    rw [if_neg c50] at hf
    cases hf
set_option maxRecDepth 100000 in
set_option maxHeartbeats 4000000 in
theorem f46_l4_l {d N : Nat} {s : Int32 × Hp} {Q : Option Value → Hp → Prop} {j : Nat} {s' : Int32 × Hp} (hf : f46_l4 N s = some (j, s')) (hW : WF 0 s.2) (hd : 71 ≤ d) (k0 : j = 0 → WF 0 s'.2 → R 0 d 46 4 [some (.ref 26), some (.int s'.1)] [] s'.2 Q) (k1 : j = 1 → WF 0 s'.2 → R 0 d 46 23 [none, none] [] s'.2 Q) : R 0 d 46 4 [some (.ref 26), some (.int s.1)] [] s.2 Q := by
  obtain ⟨d, rfl⟩ : ∃ z, d = z + 1 := ⟨d - 1, by omega⟩
  unfold f46_l4 at hf
  refine R_iload_n (i := 4) rfl rfl ?_
  refine R_sipush (i := 5) rfl ?_
  refine R_icmpge (i := 6) rfl (fun c2 => ?_) (fun c2 => ?_)
  · rw [if_pos c2] at hf
    obtain ⟨hj, hs⟩ := Prod.mk.inj (Option.some.inj hf)
    subst hj
    subst hs
    refine R_weak [none, none] ⟨Or.inl rfl, Or.inl rfl, trivial⟩ ?_
    exact k1 rfl hW
  · rw [if_neg c2] at hf
    refine R_aload_n (i := 7) rfl rfl ?_
    refine R_getI hW (i := 8) rfl rfl (Nat.le_of_ble_eq_true rfl) ?_
    refine R_bipush (i := 9) rfl ?_
    refine R_icmpne (i := 10) rfl (fun c3 => ?_) (fun c3 => ?_)
    · rw [if_neg c3] at hf
      obtain ⟨hj, hs⟩ := Prod.mk.inj (Option.some.inj hf)
      subst hj
      subst hs
      refine R_weak [none, none] ⟨Or.inl rfl, Or.inl rfl, trivial⟩ ?_
      exact k1 rfl hW
    · rw [if_pos c3] at hf
      refine R_aload_n (i := 11) rfl rfl ?_
      have zq4 := bind_some hf
      clear hf
      obtain ⟨q4, eq4, hf⟩ := zq4
      refine R_callV (vs := []) (st' := []) hW (i := 12) rfl rfl rfl (Nat.le_of_ble_eq_true rfl) rfl (Nat.le_of_ble_eq_true rfl) rfl (f41_l eq4 hW (hh rfl hd) (fun hW4 => ?_))
      refine R_aload_n (i := 13) rfl rfl ?_
      have zh5 := bind_some hf
      clear hf
      obtain ⟨h5, eh5, hf⟩ := zh5
      refine R_callV (vs := []) (st' := []) hW4 (i := 14) rfl rfl rfl (Nat.le_of_ble_eq_true rfl) rfl (Nat.le_of_ble_eq_true rfl) rfl (fG_l 60 47 _ _ eh5 hW4 (hh rfl hd) _ (fun hW5 => ?_))
      refine R_aload_n (i := 15) rfl rfl ?_
      have zr6 := bind_some hf
      clear hf
      obtain ⟨r6, er6, hf⟩ := zr6
      refine R_getR hW5 (i := 16) rfl rfl (Nat.le_of_ble_eq_true rfl) er6 ?_
      refine R_aload_n (i := 17) rfl rfl ?_
      refine R_getI hW5 (i := 18) rfl rfl (Nat.le_of_ble_eq_true rfl) ?_
      refine R_bipush (i := 19) rfl ?_
      have g7 := gd_some hf
      clear hf
      obtain ⟨g7, hf⟩ := g7
      have zq8 := bind_some hf
      clear hf
      obtain ⟨q8, eq8, hf⟩ := zq8
      refine R_callV (vs := [.int (hI h5 26 7), .int (8 : Int32)]) (st' := []) hW5 (i := 20) rfl rfl rfl (Nat.le_of_ble_eq_true rfl) g7 (Nat.le_of_ble_eq_true rfl) rfl (f80_l eq8 hW5 (hh rfl hd) (fun hW8 => ?_))
      obtain ⟨v9, e9⟩ : ∃ z : Int32, z = (s.1 + (1 : Int32)) := ⟨_, rfl⟩
      replace hf := bnd_some e9 hf
      refine R_iinc [some (.ref 26), some (.int v9)] (i := 21) rfl rfl (by rw [← e9]; rfl) ?_
      refine R_goto (i := 22) rfl ?_
      obtain ⟨hj, hs⟩ := Prod.mk.inj (Option.some.inj hf)
      subst hj
      subst hs
      exact k0 rfl hW8
set_option maxRecDepth 100000 in
set_option maxHeartbeats 4000000 in
theorem f46_l {d N : Nat} {h : Hp} {Q : Option Value → Hp → Prop} {q : Hp} (hf : f46 N h = some q) (hW : WF 0 h) (hd : 71 ≤ d) (kk : WF 0 q → Q (none) q) : R 0 d 46 0 [some (.ref 26), none] [] h Q := by
  obtain ⟨d, rfl⟩ : ∃ z, d = z + 1 := ⟨d - 1, by omega⟩
  unfold f46 at hf
  refine R_aload_n (i := 0) rfl rfl ?_
  have zh1 := bind_some hf
  clear hf
  obtain ⟨h1, eh1, hf⟩ := zh1
  refine R_callV (vs := []) (st' := []) hW (i := 1) rfl rfl rfl (Nat.le_of_ble_eq_true rfl) rfl (Nat.le_of_ble_eq_true rfl) rfl (fG_l 60 47 _ _ eh1 hW (hh rfl hd) _ (fun hW1 => ?_))
  refine R_iconst (i := 2) rfl ?_
  refine R_istore_n [some (.ref 26), some (.int (0 : Int32))] (i := 3) rfl rfl ?_
  have zq10 := bind_some hf
  clear hf
  obtain ⟨q10, eq10, hf⟩ := zq10
  refine lp_link (P := fun u4 => WF 0 u4.2 → R 0 (d + 1) 46 4 [some (.ref 26), some (.int u4.1)] [] u4.2 Q) (E := fun e u4 => WF 0 u4.2 → R 0 (d + 1) 46 23 [none, none] [] u4.2 Q) (fun s j s' hb k0 ke hWs => f46_l4_l hb hWs hd k0 (fun z y => ke 0 z y)) N ((0 : Int32), h1) q10.1 q10.2 eq10 ?_ hW1
  intro hW10
  have hz := Option.some.inj hf
  subst hz
  exact R_vret (i := 23) rfl (kk hW10)
set_option maxRecDepth 100000 in
set_option maxHeartbeats 4000000 in
theorem f45_l4_l {d N : Nat} {s : Int32 × Hp} {Q : Option Value → Hp → Prop} {j : Nat} {s' : Int32 × Hp} (hf : f45_l4 N s = some (j, s')) (hW : WF 0 s.2) (hd : 72 ≤ d) (k0 : j = 0 → WF 0 s'.2 → R 0 d 45 4 [some (.ref 26), some (.int s'.1)] [] s'.2 Q) (k1 : j = 1 → WF 0 s'.2 → R 0 d 45 23 [none, none] [] s'.2 Q) : R 0 d 45 4 [some (.ref 26), some (.int s.1)] [] s.2 Q := by
  obtain ⟨d, rfl⟩ : ∃ z, d = z + 1 := ⟨d - 1, by omega⟩
  unfold f45_l4 at hf
  refine R_iload_n (i := 4) rfl rfl ?_
  refine R_sipush (i := 5) rfl ?_
  refine R_icmpge (i := 6) rfl (fun c2 => ?_) (fun c2 => ?_)
  · rw [if_pos c2] at hf
    obtain ⟨hj, hs⟩ := Prod.mk.inj (Option.some.inj hf)
    subst hj
    subst hs
    refine R_weak [none, none] ⟨Or.inl rfl, Or.inl rfl, trivial⟩ ?_
    exact k1 rfl hW
  · rw [if_neg c2] at hf
    refine R_aload_n (i := 7) rfl rfl ?_
    refine R_getI hW (i := 8) rfl rfl (Nat.le_of_ble_eq_true rfl) ?_
    refine R_bipush (i := 9) rfl ?_
    refine R_icmpne (i := 10) rfl (fun c3 => ?_) (fun c3 => ?_)
    · rw [if_neg c3] at hf
      obtain ⟨hj, hs⟩ := Prod.mk.inj (Option.some.inj hf)
      subst hj
      subst hs
      refine R_weak [none, none] ⟨Or.inl rfl, Or.inl rfl, trivial⟩ ?_
      exact k1 rfl hW
    · rw [if_pos c3] at hf
      refine R_aload_n (i := 11) rfl rfl ?_
      have zq4 := bind_some hf
      clear hf
      obtain ⟨q4, eq4, hf⟩ := zq4
      refine R_callV (vs := []) (st' := []) hW (i := 12) rfl rfl rfl (Nat.le_of_ble_eq_true rfl) rfl (Nat.le_of_ble_eq_true rfl) rfl (f41_l eq4 hW (hh rfl hd) (fun hW4 => ?_))
      refine R_aload_n (i := 13) rfl rfl ?_
      have zq5 := bind_some hf
      clear hf
      obtain ⟨q5, eq5, hf⟩ := zq5
      refine R_callV (vs := []) (st' := []) hW4 (i := 14) rfl rfl rfl (Nat.le_of_ble_eq_true rfl) rfl (Nat.le_of_ble_eq_true rfl) rfl (f46_l eq5 hW4 (hh rfl hd) (fun hW5 => ?_))
      refine R_aload_n (i := 15) rfl rfl ?_
      have zr6 := bind_some hf
      clear hf
      obtain ⟨r6, er6, hf⟩ := zr6
      refine R_getR hW5 (i := 16) rfl rfl (Nat.le_of_ble_eq_true rfl) er6 ?_
      refine R_aload_n (i := 17) rfl rfl ?_
      refine R_getI hW5 (i := 18) rfl rfl (Nat.le_of_ble_eq_true rfl) ?_
      refine R_bipush (i := 19) rfl ?_
      have g7 := gd_some hf
      clear hf
      obtain ⟨g7, hf⟩ := g7
      have zq8 := bind_some hf
      clear hf
      obtain ⟨q8, eq8, hf⟩ := zq8
      refine R_callV (vs := [.int (hI q5 26 7), .int (9 : Int32)]) (st' := []) hW5 (i := 20) rfl rfl rfl (Nat.le_of_ble_eq_true rfl) g7 (Nat.le_of_ble_eq_true rfl) rfl (f80_l eq8 hW5 (hh rfl hd) (fun hW8 => ?_))
      obtain ⟨v9, e9⟩ : ∃ z : Int32, z = (s.1 + (1 : Int32)) := ⟨_, rfl⟩
      replace hf := bnd_some e9 hf
      refine R_iinc [some (.ref 26), some (.int v9)] (i := 21) rfl rfl (by rw [← e9]; rfl) ?_
      refine R_goto (i := 22) rfl ?_
      obtain ⟨hj, hs⟩ := Prod.mk.inj (Option.some.inj hf)
      subst hj
      subst hs
      exact k0 rfl hW8
set_option maxRecDepth 100000 in
set_option maxHeartbeats 4000000 in
theorem f45_l {d N : Nat} {h : Hp} {Q : Option Value → Hp → Prop} {q : Hp} (hf : f45 N h = some q) (hW : WF 0 h) (hd : 72 ≤ d) (kk : WF 0 q → Q (none) q) : R 0 d 45 0 [some (.ref 26), none] [] h Q := by
  obtain ⟨d, rfl⟩ : ∃ z, d = z + 1 := ⟨d - 1, by omega⟩
  unfold f45 at hf
  refine R_aload_n (i := 0) rfl rfl ?_
  have zq1 := bind_some hf
  clear hf
  obtain ⟨q1, eq1, hf⟩ := zq1
  refine R_callV (vs := []) (st' := []) hW (i := 1) rfl rfl rfl (Nat.le_of_ble_eq_true rfl) rfl (Nat.le_of_ble_eq_true rfl) rfl (f46_l eq1 hW (hh rfl hd) (fun hW1 => ?_))
  refine R_iconst (i := 2) rfl ?_
  refine R_istore_n [some (.ref 26), some (.int (0 : Int32))] (i := 3) rfl rfl ?_
  have zq10 := bind_some hf
  clear hf
  obtain ⟨q10, eq10, hf⟩ := zq10
  refine lp_link (P := fun u4 => WF 0 u4.2 → R 0 (d + 1) 45 4 [some (.ref 26), some (.int u4.1)] [] u4.2 Q) (E := fun e u4 => WF 0 u4.2 → R 0 (d + 1) 45 23 [none, none] [] u4.2 Q) (fun s j s' hb k0 ke hWs => f45_l4_l hb hWs hd k0 (fun z y => ke 0 z y)) N ((0 : Int32), q1) q10.1 q10.2 eq10 ?_ hW1
  intro hW10
  have hz := Option.some.inj hf
  subst hz
  exact R_vret (i := 23) rfl (kk hW10)
set_option maxRecDepth 100000 in
set_option maxHeartbeats 4000000 in
theorem f44_b55_l {d N : Nat} {t0 : Int32} {h : Hp} {Q : Option Value → Hp → Prop} {q : Hp} (hf : f44_b55 N t0 h = some q) (hW : WF 0 h) (hd : 73 ≤ d) (kk : WF 0 q → Q (none) q) : R 0 d 44 55 [some (.ref 26), none] [.int t0] h Q := by
  obtain ⟨d, rfl⟩ : ∃ z, d = z + 1 := ⟨d - 1, by omega⟩
  unfold f44_b55 at hf
  refine R_istore_n [some (.ref 26), some (.int t0)] (i := 55) rfl rfl ?_
  refine R_aload_n (i := 56) rfl rfl ?_
  have zq16 := bind_some hf
  clear hf
  obtain ⟨q16, eq16, hf⟩ := zq16
  refine R_callV (vs := []) (st' := []) hW (i := 57) rfl rfl rfl (Nat.le_of_ble_eq_true rfl) rfl (Nat.le_of_ble_eq_true rfl) rfl (f41_l eq16 hW (hh rfl hd) (fun hW16 => ?_))
  refine R_iload_n (i := 58) rfl rfl ?_
  refine R_ifeq (i := 59) rfl (fun c17 => ?_) (fun c17 => ?_)
  · rw [if_pos c17] at hf
    refine R_aload_n (i := 63) rfl rfl ?_
    have zh18 := bind_some hf
    clear hf
    obtain ⟨h18, eh18, hf⟩ := zh18
    refine R_callV (vs := []) (st' := []) hW16 (i := 64) rfl rfl rfl (Nat.le_of_ble_eq_true rfl) rfl (Nat.le_of_ble_eq_true rfl) rfl (fG_l 60 48 _ _ eh18 hW16 (hh rfl hd) _ (fun hW18 => ?_))
    refine R_aload_n (i := 65) rfl rfl ?_
    refine R_bipush (i := 66) rfl ?_
    have zq19 := bind_some hf
    clear hf
    obtain ⟨q19, eq19, hf⟩ := zq19
    refine R_callV (vs := [.int (26 : Int32)]) (st' := []) hW18 (i := 67) rfl rfl rfl (Nat.le_of_ble_eq_true rfl) rfl (Nat.le_of_ble_eq_true rfl) rfl (f43_l eq19 hW18 (hh rfl hd) (fun hW19 => ?_))
    have hz := Option.some.inj hf
    subst hz
    exact R_vret (i := 68) rfl (kk hW19)
  · rw [if_neg c17] at hf
    refine R_aload_n (i := 60) rfl rfl ?_
    have zq20 := bind_some hf
    clear hf
    obtain ⟨q20, eq20, hf⟩ := zq20
    refine R_callV (vs := []) (st' := []) hW16 (i := 61) rfl rfl rfl (Nat.le_of_ble_eq_true rfl) rfl (Nat.le_of_ble_eq_true rfl) rfl (f45_l eq20 hW16 (hh rfl hd) (fun hW20 => ?_))
    refine R_goto (i := 62) rfl ?_
    refine R_aload_n (i := 65) rfl rfl ?_
    refine R_bipush (i := 66) rfl ?_
    have zq21 := bind_some hf
    clear hf
    obtain ⟨q21, eq21, hf⟩ := zq21
    refine R_callV (vs := [.int (26 : Int32)]) (st' := []) hW20 (i := 67) rfl rfl rfl (Nat.le_of_ble_eq_true rfl) rfl (Nat.le_of_ble_eq_true rfl) rfl (f43_l eq21 hW20 (hh rfl hd) (fun hW21 => ?_))
    have hz := Option.some.inj hf
    subst hz
    exact R_vret (i := 68) rfl (kk hW21)
set_option maxRecDepth 100000 in
set_option maxHeartbeats 4000000 in
theorem f44_b47_l {d N : Nat} {t0 : Int32} {h : Hp} {Q : Option Value → Hp → Prop} {q : Hp} (hf : f44_b47 N t0 h = some q) (hW : WF 0 h) (hd : 73 ≤ d) (kk : WF 0 q → Q (none) q) : R 0 d 44 47 [some (.ref 26), none] [.int t0, .ref 26] h Q := by
  unfold f44_b47 at hf
  refine R_putI hW (i := 47) rfl rfl (Nat.le_of_ble_eq_true rfl) (hg rfl hd) (fun h14 eh14 => ?_)
  replace hf := bnd_some eh14 hf
  have hW14 : WF 0 h14 := by rw [eh14]; exact hW
  refine R_aload_n (i := 48) rfl rfl ?_
  refine R_getI hW14 (i := 49) rfl rfl (Nat.le_of_ble_eq_true rfl) ?_
  refine R_bipush (i := 50) rfl ?_
  refine R_icmpne (i := 51) rfl (fun c15 => ?_) (fun c15 => ?_)
  · rw [if_neg c15] at hf
    refine R_iconst (i := 54) rfl ?_
    exact f44_b55_l hf hW14 hd kk
  · rw [if_pos c15] at hf
    refine R_iconst (i := 52) rfl ?_
    refine R_goto (i := 53) rfl ?_
    exact f44_b55_l hf hW14 hd kk
set_option maxRecDepth 100000 in
set_option maxHeartbeats 4000000 in
theorem f44_l {d N : Nat} {h : Hp} {Q : Option Value → Hp → Prop} {q : Hp} (hf : f44 N h = some q) (hW : WF 0 h) (hd : 73 ≤ d) (kk : WF 0 q → Q (none) q) : R 0 d 44 0 [some (.ref 26), none] [] h Q := by
  obtain ⟨d, rfl⟩ : ∃ z, d = z + 1 := ⟨d - 1, by omega⟩
  unfold f44 at hf
  refine R_aload_n (i := 0) rfl rfl ?_
  refine R_getI hW (i := 1) rfl rfl (Nat.le_of_ble_eq_true rfl) ?_
  refine R_bipush (i := 2) rfl ?_
  refine R_icmplt (i := 3) rfl (fun c1 => ?_) (fun c1 => ?_)
  · rw [if_pos c1] at hf
    refine R_aload_n (i := 8) rfl rfl ?_
    refine R_iconst (i := 9) rfl ?_
    have zq2 := bind_some hf
    clear hf
    obtain ⟨q2, eq2, hf⟩ := zq2
    refine R_callV (vs := [.int (1 : Int32)]) (st' := []) hW (i := 10) rfl rfl rfl (Nat.le_of_ble_eq_true rfl) rfl (Nat.le_of_ble_eq_true rfl) rfl (f42_l eq2 hW (hh rfl hd) (fun hW2 => ?_))
    have hz := Option.some.inj hf
    subst hz
    exact R_vret (i := 11) rfl (kk hW2)
  · rw [if_neg c1] at hf
    refine R_aload_n (i := 4) rfl rfl ?_
    refine R_getI hW (i := 5) rfl rfl (Nat.le_of_ble_eq_true rfl) ?_
    refine R_bipush (i := 6) rfl ?_
    refine R_icmple (i := 7) rfl (fun c3 => ?_) (fun c3 => ?_)
    · rw [if_pos c3] at hf
      refine R_aload_n (i := 12) rfl rfl ?_
      refine R_aload_n (i := 13) rfl rfl ?_
      refine R_getI hW (i := 14) rfl rfl (Nat.le_of_ble_eq_true rfl) ?_
      refine R_bipush (i := 15) rfl ?_
      refine R_isub (i := 16) rfl ?_
      refine R_putI hW (i := 17) rfl rfl (Nat.le_of_ble_eq_true rfl) (hg rfl hd) (fun h4 eh4 => ?_)
      replace hf := bnd_some eh4 hf
      have hW4 : WF 0 h4 := by rw [eh4]; exact hW
      refine R_aload_n (i := 18) rfl rfl ?_
      have zr5 := bind_some hf
      clear hf
      obtain ⟨r5, er5, hf⟩ := zr5
      refine R_getR hW4 (i := 19) rfl rfl (Nat.le_of_ble_eq_true rfl) er5 ?_
      refine R_aload_n (i := 20) rfl rfl ?_
      refine R_getI hW4 (i := 21) rfl rfl (Nat.le_of_ble_eq_true rfl) ?_
      have g6 := gd_some hf
      clear hf
      obtain ⟨g6, hf⟩ := g6
      have zq7 := bind_some hf
      clear hf
      obtain ⟨q7, eq7, hf⟩ := zq7
      refine R_callV (vs := [.int (hI h4 26 7)]) (st' := []) hW4 (i := 22) rfl rfl rfl (Nat.le_of_ble_eq_true rfl) g6 (Nat.le_of_ble_eq_true rfl) rfl (f78_l eq7 hW4 (hh rfl hd) ?_)
      refine R_ifeq (i := 23) rfl (fun c8 => ?_) (fun c8 => ?_)
      · rw [if_pos c8] at hf
        refine R_aload_n (i := 28) rfl rfl ?_
        have zr9 := bind_some hf
        clear hf
        obtain ⟨r9, er9, hf⟩ := zr9
        refine R_getR hW4 (i := 29) rfl rfl (Nat.le_of_ble_eq_true rfl) er9 ?_
        refine R_aload_n (i := 30) rfl rfl ?_
        refine R_getI hW4 (i := 31) rfl rfl (Nat.le_of_ble_eq_true rfl) ?_
        have g10 := gd_some hf
        clear hf
        obtain ⟨g10, hf⟩ := g10
        have zq11 := bind_some hf
        clear hf
        obtain ⟨q11, eq11, hf⟩ := zq11
        refine R_callV (vs := [.int (hI h4 26 7)]) (st' := []) hW4 (i := 32) rfl rfl rfl (Nat.le_of_ble_eq_true rfl) g10 (Nat.le_of_ble_eq_true rfl) rfl (f79_l eq11 hW4 (hh rfl hd) (fun hW11 => ?_))
        refine R_aload_n (i := 33) rfl rfl ?_
        refine R_aload_n (i := 34) rfl rfl ?_
        refine R_getI hW11 (i := 35) rfl rfl (Nat.le_of_ble_eq_true rfl) ?_
        refine R_bipush (i := 36) rfl ?_
        refine R_icmpne (i := 37) rfl (fun c12 => ?_) (fun c12 => ?_)
        · rw [if_neg c12] at hf
          refine R_aload_n (i := 40) rfl rfl ?_
          refine R_getI hW11 (i := 41) rfl rfl (Nat.le_of_ble_eq_true rfl) ?_
          refine R_bipush (i := 42) rfl ?_
          refine R_icmpne (i := 43) rfl (fun c13 => ?_) (fun c13 => ?_)
          · rw [if_neg c13] at hf
            refine R_bipush (i := 46) rfl ?_
            exact f44_b47_l hf hW11 hd kk
          · rw [if_pos c13] at hf
            refine R_sipush (i := 44) rfl ?_
            refine R_goto (i := 45) rfl ?_
            exact f44_b47_l hf hW11 hd kk
        · rw [if_pos c12] at hf
          refine R_bipush (i := 38) rfl ?_
          refine R_goto (i := 39) rfl ?_
          exact f44_b47_l hf hW11 hd kk
      · rw [if_neg c8] at hf
        refine R_aload_n (i := 24) rfl rfl ?_
        refine R_iconst (i := 25) rfl ?_
        have zq22 := bind_some hf
        clear hf
        obtain ⟨q22, eq22, hf⟩ := zq22
        refine R_callV (vs := [.int (4 : Int32)]) (st' := []) hW4 (i := 26) rfl rfl rfl (Nat.le_of_ble_eq_true rfl) rfl (Nat.le_of_ble_eq_true rfl) rfl (f42_l eq22 hW4 (hh rfl hd) (fun hW22 => ?_))
        have hz := Option.some.inj hf
        subst hz
        exact R_vret (i := 27) rfl (kk hW22)
    · rw [if_neg c3] at hf
      refine R_aload_n (i := 8) rfl rfl ?_
      refine R_iconst (i := 9) rfl ?_
      have zq23 := bind_some hf
      clear hf
      obtain ⟨q23, eq23, hf⟩ := zq23
      refine R_callV (vs := [.int (1 : Int32)]) (st' := []) hW (i := 10) rfl rfl rfl (Nat.le_of_ble_eq_true rfl) rfl (Nat.le_of_ble_eq_true rfl) rfl (f42_l eq23 hW (hh rfl hd) (fun hW23 => ?_))
      have hz := Option.some.inj hf
      subst hz
      exact R_vret (i := 11) rfl (kk hW23)
set_option maxRecDepth 100000 in
set_option maxHeartbeats 4000000 in
theorem f40_l33_l {d N : Nat} {s : Int32 × Hp} {Q : Option Value → Hp → Prop} {j : Nat} {s' : Int32 × Hp} (hf : f40_l33 N s = some (j, s')) (hW : WF 0 s.2) (hd : 74 ≤ d) (k0 : j = 0 → WF 0 s'.2 → R 0 d 40 33 [some (.ref 26), none, some (.int s'.1)] [] s'.2 Q) (k1 : j = 1 → WF 0 s'.2 → R 0 d 40 47 [some (.ref 26), none, none] [] s'.2 Q) : R 0 d 40 33 [some (.ref 26), none, some (.int s.1)] [] s.2 Q := by
  obtain ⟨d, rfl⟩ : ∃ z, d = z + 1 := ⟨d - 1, by omega⟩
  unfold f40_l33 at hf
  refine R_iload_n (i := 33) rfl rfl ?_
  refine R_iconst (i := 34) rfl ?_
  refine R_icmpgt (i := 35) rfl (fun c12 => ?_) (fun c12 => ?_)
  · rw [if_pos c12] at hf
    obtain ⟨hj, hs⟩ := Prod.mk.inj (Option.some.inj hf)
    subst hj
    subst hs
    refine R_weak [some (.ref 26), none, none] ⟨Or.inr rfl, Or.inr rfl, Or.inl rfl, trivial⟩ ?_
    exact k1 rfl hW
  · rw [if_neg c12] at hf
    refine R_aload_n (i := 36) rfl rfl ?_
    refine R_getI hW (i := 37) rfl rfl (Nat.le_of_ble_eq_true rfl) ?_
    refine R_bipush (i := 38) rfl ?_
    refine R_icmpeq (i := 39) rfl (fun c13 => ?_) (fun c13 => ?_)
    · rw [if_pos c13] at hf
      obtain ⟨hj, hs⟩ := Prod.mk.inj (Option.some.inj hf)
      subst hj
      subst hs
      refine R_weak [some (.ref 26), none, none] ⟨Or.inr rfl, Or.inr rfl, Or.inl rfl, trivial⟩ ?_
      exact k1 rfl hW
    · rw [if_neg c13] at hf
      refine R_aload_n (i := 40) rfl rfl ?_
      refine R_getI hW (i := 41) rfl rfl (Nat.le_of_ble_eq_true rfl) ?_
      refine R_ifne (i := 42) rfl (fun c14 => ?_) (fun c14 => ?_)
      · rw [if_neg c14] at hf
        obtain ⟨hj, hs⟩ := Prod.mk.inj (Option.some.inj hf)
        subst hj
        subst hs
        refine R_weak [some (.ref 26), none, none] ⟨Or.inr rfl, Or.inr rfl, Or.inl rfl, trivial⟩ ?_
        exact k1 rfl hW
      · rw [if_pos c14] at hf
        refine R_aload_n (i := 43) rfl rfl ?_
        have zq15 := bind_some hf
        clear hf
        obtain ⟨q15, eq15, hf⟩ := zq15
        refine R_callV (vs := []) (st' := []) hW (i := 44) rfl rfl rfl (Nat.le_of_ble_eq_true rfl) rfl (Nat.le_of_ble_eq_true rfl) rfl (f44_l eq15 hW (hh rfl hd) (fun hW15 => ?_))
        obtain ⟨v16, e16⟩ : ∃ z : Int32, z = (s.1 + (1 : Int32)) := ⟨_, rfl⟩
        replace hf := bnd_some e16 hf
        refine R_iinc [some (.ref 26), none, some (.int v16)] (i := 45) rfl rfl (by rw [← e16]; rfl) ?_
        refine R_goto (i := 46) rfl ?_
        obtain ⟨hj, hs⟩ := Prod.mk.inj (Option.some.inj hf)
        subst hj
        subst hs
        exact k0 rfl hW15
set_option maxRecDepth 100000 in
set_option maxHeartbeats 4000000 in
theorem f40_l {d N : Nat} {p1 : Nat} {h : Hp} {Q : Option Value → Hp → Prop} {q : Int32 × Hp} (hf : f40 N p1 h = some q) (hW : WF 0 h) (hd : 74 ≤ d) (kk : WF 0 q.2 → Q (some (.int q.1)) q.2) : R 0 d 40 0 [some (.ref 26), some (.ref p1), none] [] h Q := by
  obtain ⟨d, rfl⟩ : ∃ z, d = z + 1 := ⟨d - 1, by omega⟩
  unfold f40 at hf
  refine R_aload_n (i := 0) rfl rfl ?_
  refine R_iconst (i := 1) rfl ?_
  refine R_putZ hW (i := 2) rfl rfl (Nat.le_of_ble_eq_true rfl) (by decide) (hg rfl hd) (fun h1 eh1 => ?_)
  replace hf := bnd_some eh1 hf
  have hW1 : WF 0 h1 := by rw [eh1]; exact hW
  refine R_aload_n (i := 3) rfl rfl ?_
  refine R_iconst (i := 4) rfl ?_
  refine R_putI hW1 (i := 5) rfl rfl (Nat.le_of_ble_eq_true rfl) (hg rfl hd) (fun h2 eh2 => ?_)
  replace hf := bnd_some eh2 hf
  have hW2 : WF 0 h2 := by rw [eh2]; exact hW1
  refine R_aload_n (i := 6) rfl rfl ?_
  refine R_iconst (i := 7) rfl ?_
  refine R_putI hW2 (i := 8) rfl rfl (Nat.le_of_ble_eq_true rfl) (hg rfl hd) (fun h3 eh3 => ?_)
  replace hf := bnd_some eh3 hf
  have hW3 : WF 0 h3 := by rw [eh3]; exact hW2
  refine R_aload_n (i := 9) rfl rfl ?_
  refine R_aload_n (i := 10) rfl rfl ?_
  refine R_putR hW3 (i := 11) rfl rfl (Nat.le_of_ble_eq_true rfl) (Or.inl rfl) (hg rfl hd) (fun h4 eh4 => ?_)
  replace hf := bnd_some eh4 hf
  have hW4 : WF 0 h4 := by rw [eh4]; exact hW3.uR (Or.inl rfl)
  refine R_aload_n (i := 12) rfl rfl ?_
  have zr5 := bind_some hf
  clear hf
  obtain ⟨r5, er5, hf⟩ := zr5
  refine R_getR hW4 (i := 13) rfl rfl (Nat.le_of_ble_eq_true rfl) er5 ?_
  have g6 := gd_some hf
  clear hf
  obtain ⟨g6, hf⟩ := g6
  have zq7 := bind_some hf
  clear hf
  obtain ⟨q7, eq7, hf⟩ := zq7
  refine R_callV (vs := []) (st' := []) hW4 (i := 14) rfl rfl rfl (Nat.le_of_ble_eq_true rfl) g6 (Nat.le_of_ble_eq_true rfl) rfl (f77_l eq7 hW4 (hh rfl hd) (fun hW7 => ?_))
  refine R_aload_n (i := 15) rfl rfl ?_
  refine R_iconst (i := 16) rfl ?_
  refine R_putI hW7 (i := 17) rfl rfl (Nat.le_of_ble_eq_true rfl) (hg rfl hd) (fun h8 eh8 => ?_)
  replace hf := bnd_some eh8 hf
  have hW8 : WF 0 h8 := by rw [eh8]; exact hW7
  refine R_aload_n (i := 18) rfl rfl ?_
  refine R_getF hW8 (i := 19) rfl rfl (Nat.le_of_ble_eq_true rfl) rfl ?_
  have zq9 := bind_some hf
  clear hf
  obtain ⟨q9, eq9, hf⟩ := zq9
  refine R_callV (vs := []) (st' := []) hW8 (i := 20) rfl rfl rfl (Nat.le_of_ble_eq_true rfl) rfl (Nat.le_of_ble_eq_true rfl) rfl (f65_l eq9 hW8 (hh rfl hd) (fun hW9 => ?_))
  refine R_aload_n (i := 21) rfl rfl ?_
  refine R_iconst (i := 22) rfl ?_
  refine R_putI hW9 (i := 23) rfl rfl (Nat.le_of_ble_eq_true rfl) (hg rfl hd) (fun h10 eh10 => ?_)
  replace hf := bnd_some eh10 hf
  have hW10 : WF 0 h10 := by rw [eh10]; exact hW9
  refine R_aload_n (i := 24) rfl rfl ?_
  refine R_aload_n (i := 25) rfl rfl ?_
  refine R_getF hW10 (i := 26) rfl rfl (Nat.le_of_ble_eq_true rfl) rfl ?_
  refine R_getF hW10 (i := 27) rfl rfl (Nat.le_of_ble_eq_true rfl) rfl ?_
  refine R_iconst (i := 28) rfl ?_
  refine R_iaload hW10 (i := 29) rfl rfl (by decide) ?_
  refine R_putI hW10 (i := 30) rfl rfl (Nat.le_of_ble_eq_true rfl) (hg rfl hd) (fun h11 eh11 => ?_)
  replace hf := bnd_some eh11 hf
  have hW11 : WF 0 h11 := by rw [eh11]; exact hW10
  refine R_iconst (i := 31) rfl ?_
  refine R_istore_n [some (.ref 26), some (.ref p1), some (.int (0 : Int32))] (i := 32) rfl rfl ?_
  refine R_weak [some (.ref 26), none, some (.int (0 : Int32))] ⟨Or.inr rfl, Or.inl rfl, Or.inr rfl, trivial⟩ ?_
  have zq17 := bind_some hf
  clear hf
  obtain ⟨q17, eq17, hf⟩ := zq17
  refine lp_link (P := fun u33 => WF 0 u33.2 → R 0 (d + 1) 40 33 [some (.ref 26), none, some (.int u33.1)] [] u33.2 Q) (E := fun e u33 => WF 0 u33.2 → R 0 (d + 1) 40 47 [some (.ref 26), none, none] [] u33.2 Q) (fun s j s' hb k0 ke hWs => f40_l33_l hb hWs hd k0 (fun z y => ke 0 z y)) N ((0 : Int32), h11) q17.1 q17.2 eq17 ?_ hW11
  intro hW17
  refine R_aload_n (i := 47) rfl rfl ?_
  refine R_getI hW17 (i := 48) rfl rfl (Nat.le_of_ble_eq_true rfl) ?_
  refine R_ifne (i := 49) rfl (fun c18 => ?_) (fun c18 => ?_)
  · rw [if_neg c18] at hf
    refine R_iconst (i := 52) rfl ?_
    have hz := Option.some.inj hf
    subst hz
    exact R_zret (r := 0) (i := 53) rfl (by decide) (kk hW17)
  · rw [if_pos c18] at hf
    refine R_iconst (i := 50) rfl ?_
    refine R_goto (i := 51) rfl ?_
    have hz := Option.some.inj hf
    subst hz
    exact R_zret (r := 1) (i := 53) rfl (by decide) (kk hW17)
set_option maxRecDepth 100000 in
set_option maxHeartbeats 4000000 in
theorem f97_l {d N : Nat} {h : Hp} {Q : Option Value → Hp → Prop} {q : Int32 × Hp} (hf : f97 N h = some q) (hW : WF 0 h) (hd : 75 ≤ d) (kk : WF 0 q.2 → Q (some (.int q.1)) q.2) : R 0 d 97 0 [some (.ref 0), none] [] h Q := by
  obtain ⟨d, rfl⟩ : ∃ z, d = z + 1 := ⟨d - 1, by omega⟩
  unfold f97 at hf
  refine R_aload_n (i := 0) rfl rfl ?_
  refine R_getF hW (i := 1) rfl rfl (Nat.le_of_ble_eq_true rfl) rfl ?_
  refine R_getI hW (i := 2) rfl rfl (Nat.le_of_ble_eq_true rfl) ?_
  refine R_iflt (i := 3) rfl (fun c1 => ?_) (fun c1 => ?_)
  · rw [if_pos c1] at hf
    refine R_iconst (i := 9) rfl ?_
    have hz := Option.some.inj hf
    subst hz
    exact R_iret (i := 10) rfl (kk hW)
  · rw [if_neg c1] at hf
    refine R_aload_n (i := 4) rfl rfl ?_
    refine R_getF hW (i := 5) rfl rfl (Nat.le_of_ble_eq_true rfl) rfl ?_
    refine R_getI hW (i := 6) rfl rfl (Nat.le_of_ble_eq_true rfl) ?_
    refine R_iconst (i := 7) rfl ?_
    refine R_icmplt (i := 8) rfl (fun c2 => ?_) (fun c2 => ?_)
    · rw [if_pos c2] at hf
      refine R_aload_n (i := 11) rfl rfl ?_
      refine R_getF hW (i := 12) rfl rfl (Nat.le_of_ble_eq_true rfl) rfl ?_
      refine R_aload_n (i := 13) rfl rfl ?_
      refine R_getF hW (i := 14) rfl rfl (Nat.le_of_ble_eq_true rfl) rfl ?_
      refine R_aload_n (i := 15) rfl rfl ?_
      refine R_getF hW (i := 16) rfl rfl (Nat.le_of_ble_eq_true rfl) rfl ?_
      refine R_getI hW (i := 17) rfl rfl (Nat.le_of_ble_eq_true rfl) ?_
      have g3 := gd_some hf
      clear hf
      obtain ⟨g3, hf⟩ := g3
      have zr4 := bind_some hf
      clear hf
      obtain ⟨r4, er4, hf⟩ := zr4
      refine R_aaload hW (i := 18) rfl rfl g3 er4 ?_
      have zq5 := bind_some hf
      clear hf
      obtain ⟨q5, eq5, hf⟩ := zq5
      refine R_callV (vs := [.ref r4]) (st' := []) hW (i := 19) rfl rfl rfl (Nat.le_of_ble_eq_true rfl) rfl (Nat.le_of_ble_eq_true rfl) rfl (f40_l eq5 hW (hh rfl hd) (fun hW5 => ?_))
      refine R_istore_n [some (.ref 0), some (.int q5.1)] (i := 20) rfl rfl ?_
      refine R_aload_n (i := 21) rfl rfl ?_
      refine R_getF hW5 (i := 22) rfl rfl (Nat.le_of_ble_eq_true rfl) rfl ?_
      refine R_iconst (i := 23) rfl ?_
      refine R_putI hW5 (i := 24) rfl rfl (Nat.le_of_ble_eq_true rfl) (hg rfl hd) (fun h6 eh6 => ?_)
      replace hf := bnd_some eh6 hf
      have hW6 : WF 0 h6 := by rw [eh6]; exact hW5
      refine R_iload_n (i := 25) rfl rfl ?_
      refine R_ifne (i := 26) rfl (fun c7 => ?_) (fun c7 => ?_)
      · rw [if_neg c7] at hf
        refine R_aload_n (i := 29) rfl rfl ?_
        refine R_getF hW6 (i := 30) rfl rfl (Nat.le_of_ble_eq_true rfl) rfl ?_
        refine R_dup (i := 31) rfl rfl ?_
        refine R_getI hW6 (i := 32) rfl rfl (Nat.le_of_ble_eq_true rfl) ?_
        refine R_iconst (i := 33) rfl ?_
        refine R_iadd (i := 34) rfl ?_
        refine R_putI hW6 (i := 35) rfl rfl (Nat.le_of_ble_eq_true rfl) (hg rfl hd) (fun h8 eh8 => ?_)
        replace hf := bnd_some eh8 hf
        have hW8 : WF 0 h8 := by rw [eh8]; exact hW6
        refine R_aload_n (i := 36) rfl rfl ?_
        refine R_getF hW8 (i := 37) rfl rfl (Nat.le_of_ble_eq_true rfl) rfl ?_
        refine R_getI hW8 (i := 38) rfl rfl (Nat.le_of_ble_eq_true rfl) ?_
        refine R_iconst (i := 39) rfl ?_
        refine R_isub (i := 40) rfl ?_
        have hz := Option.some.inj hf
        subst hz
        exact R_iret (i := 41) rfl (kk hW8)
      · rw [if_pos c7] at hf
        refine R_iconst (i := 27) rfl ?_
        have hz := Option.some.inj hf
        subst hz
        exact R_iret (i := 28) rfl (kk hW6)
    · rw [if_neg c2] at hf
      refine R_iconst (i := 9) rfl ?_
      have hz := Option.some.inj hf
      subst hz
      exact R_iret (i := 10) rfl (kk hW)
set_option maxRecDepth 100000 in
set_option maxHeartbeats 4000000 in
theorem f98_l {d N : Nat} {p1 : Int32} {h : Hp} {Q : Option Value → Hp → Prop} {q : Int32} (hf : f98 N p1 h = some q) (hW : WF 0 h) (hd : 0 ≤ d) (kk : Q (some (.int q)) h) : R 0 d 98 0 [some (.ref 0), some (.int p1)] [] h Q := by
  unfold f98 at hf
  refine R_aload_n (i := 0) rfl rfl ?_
  refine R_getF hW (i := 1) rfl rfl (Nat.le_of_ble_eq_true rfl) rfl ?_
  refine R_getI hW (i := 2) rfl rfl (Nat.le_of_ble_eq_true rfl) ?_
  refine R_ifne (i := 3) rfl (fun c1 => ?_) (fun c1 => ?_)
  · rw [if_neg c1] at hf
    refine R_iload_n (i := 6) rfl rfl ?_
    refine R_ifne (i := 7) rfl (fun c2 => ?_) (fun c2 => ?_)
    · rw [if_neg c2] at hf
      refine R_iload_n (i := 12) rfl rfl ?_
      refine R_iconst (i := 13) rfl ?_
      refine R_icmpne (i := 14) rfl (fun c3 => ?_) (fun c3 => ?_)
      · rw [if_neg c3] at hf
        refine R_iconst (i := 19) rfl ?_
        have hz := Option.some.inj hf
        subst hz
        exact R_iret (i := 20) rfl kk
      · rw [if_pos c3] at hf
        refine R_aload_n (i := 15) rfl rfl ?_
        refine R_getF hW (i := 16) rfl rfl (Nat.le_of_ble_eq_true rfl) rfl ?_
        refine R_getI hW (i := 17) rfl rfl (Nat.le_of_ble_eq_true rfl) ?_
        refine R_goto (i := 18) rfl ?_
        have hz := Option.some.inj hf
        subst hz
        exact R_iret (i := 20) rfl kk
    · rw [if_pos c2] at hf
      refine R_aload_n (i := 8) rfl rfl ?_
      refine R_getF hW (i := 9) rfl rfl (Nat.le_of_ble_eq_true rfl) rfl ?_
      refine R_getI hW (i := 10) rfl rfl (Nat.le_of_ble_eq_true rfl) ?_
      have hz := Option.some.inj hf
      subst hz
      exact R_iret (i := 11) rfl kk
  · rw [if_pos c1] at hf
    refine R_iconst (i := 4) rfl ?_
    have hz := Option.some.inj hf
    subst hz
    exact R_iret (i := 5) rfl kk
set_option maxRecDepth 100000 in
set_option maxHeartbeats 4000000 in
theorem f119_b26_l {d N : Nat} {t0 : Nat} {h : Hp} {Q : Option Value → Hp → Prop} {q : Hp} (hf : f119_b26 N t0 h = some q) (hW : WF 0 h) (hd : 6 ≤ d) (kk : WF 0 q → Q (none) q) : R 0 d 119 26 [some (.ref 0), none] [.ref t0, .ref 61] h Q := by
  obtain ⟨d, rfl⟩ : ∃ z, d = z + 1 := ⟨d - 1, by omega⟩
  unfold f119_b26 at hf
  refine R_putR hW (i := 26) rfl rfl (Nat.le_of_ble_eq_true rfl) (Or.inl rfl) (hg rfl hd) (fun h3 eh3 => ?_)
  replace hf := bnd_some eh3 hf
  have hW3 : WF 0 h3 := by rw [eh3]; exact hW.uR (Or.inl rfl)
  refine R_aload_n (i := 27) rfl rfl ?_
  refine R_getF hW3 (i := 28) rfl rfl (Nat.le_of_ble_eq_true rfl) rfl ?_
  have zq4 := bind_some hf
  clear hf
  obtain ⟨q4, eq4, hf⟩ := zq4
  refine R_callV (vs := []) (st' := []) hW3 (i := 29) rfl rfl rfl (Nat.le_of_ble_eq_true rfl) rfl (Nat.le_of_ble_eq_true rfl) rfl (f3_l eq4 hW3 (hh rfl hd) (fun hW4 => ?_))
  have hz := Option.some.inj hf
  subst hz
  exact R_vret (i := 30) rfl (kk hW4)
set_option maxRecDepth 100000 in
set_option maxHeartbeats 4000000 in
theorem f119_b12_l {d N : Nat} {t0 : Int32} {h : Hp} {Q : Option Value → Hp → Prop} {q : Hp} (hf : f119_b12 N t0 h = some q) (hW : WF 0 h) (hd : 6 ≤ d) (kk : WF 0 q → Q (none) q) : R 0 d 119 12 [some (.ref 0), none] [.int t0] h Q := by
  unfold f119_b12 at hf
  refine R_istore_n [some (.ref 0), some (.int t0)] (i := 12) rfl rfl ?_
  refine R_aload_n (i := 13) rfl rfl ?_
  refine R_getF hW (i := 14) rfl rfl (Nat.le_of_ble_eq_true rfl) rfl ?_
  refine R_iload_n (i := 15) rfl rfl ?_
  refine R_ifeq (i := 16) rfl (fun c2 => ?_) (fun c2 => ?_)
  · rw [if_pos c2] at hf
    refine R_aload_n (i := 24) rfl rfl ?_
    refine R_getF hW (i := 25) rfl rfl (Nat.le_of_ble_eq_true rfl) rfl ?_
    refine R_weak [some (.ref 0), none] ⟨Or.inr rfl, Or.inl rfl, trivial⟩ ?_
    exact f119_b26_l hf hW hd kk
  · rw [if_neg c2] at hf
    refine R_aload_n (i := 17) rfl rfl ?_
    refine R_getF hW (i := 18) rfl rfl (Nat.le_of_ble_eq_true rfl) rfl ?_
    refine R_aload_n (i := 19) rfl rfl ?_
    refine R_getF hW (i := 20) rfl rfl (Nat.le_of_ble_eq_true rfl) rfl ?_
    refine R_getI hW (i := 21) rfl rfl (Nat.le_of_ble_eq_true rfl) ?_
    have g5 := gd_some hf
    clear hf
    obtain ⟨g5, hf⟩ := g5
    have zr6 := bind_some hf
    clear hf
    obtain ⟨r6, er6, hf⟩ := zr6
    refine R_aaload hW (i := 22) rfl rfl g5 er6 ?_
    refine R_goto (i := 23) rfl ?_
    refine R_weak [some (.ref 0), none] ⟨Or.inr rfl, Or.inl rfl, trivial⟩ ?_
    exact f119_b26_l hf hW hd kk
set_option maxRecDepth 100000 in
set_option maxHeartbeats 4000000 in
theorem f119_b11_l {d N : Nat} {h : Hp} {Q : Option Value → Hp → Prop} {q : Hp} (hf : f119_b11 N h = some q) (hW : WF 0 h) (hd : 6 ≤ d) (kk : WF 0 q → Q (none) q) : R 0 d 119 11 [some (.ref 0), none] [] h Q := by
  unfold f119_b11 at hf
  refine R_iconst (i := 11) rfl ?_
  exact f119_b12_l hf hW hd kk
set_option maxRecDepth 100000 in
set_option maxHeartbeats 4000000 in
theorem f119_l {d N : Nat} {h : Hp} {Q : Option Value → Hp → Prop} {q : Hp} (hf : f119 N h = some q) (hW : WF 0 h) (hd : 6 ≤ d) (kk : WF 0 q → Q (none) q) : R 0 d 119 0 [some (.ref 0), none] [] h Q := by
  unfold f119 at hf
  refine R_aload_n (i := 0) rfl rfl ?_
  refine R_getF hW (i := 1) rfl rfl (Nat.le_of_ble_eq_true rfl) rfl ?_
  refine R_getI hW (i := 2) rfl rfl (Nat.le_of_ble_eq_true rfl) ?_
  refine R_iflt (i := 3) rfl (fun c1 => ?_) (fun c1 => ?_)
  · rw [if_pos c1] at hf
    exact f119_b11_l hf hW hd kk
  · rw [if_neg c1] at hf
    refine R_aload_n (i := 4) rfl rfl ?_
    refine R_getF hW (i := 5) rfl rfl (Nat.le_of_ble_eq_true rfl) rfl ?_
    refine R_getI hW (i := 6) rfl rfl (Nat.le_of_ble_eq_true rfl) ?_
    refine R_iconst (i := 7) rfl ?_
    refine R_icmpge (i := 8) rfl (fun c7 => ?_) (fun c7 => ?_)
    · rw [if_pos c7] at hf
      exact f119_b11_l hf hW hd kk
    · rw [if_neg c7] at hf
      refine R_iconst (i := 9) rfl ?_
      refine R_goto (i := 10) rfl ?_
      exact f119_b12_l hf hW hd kk
set_option maxRecDepth 100000 in
set_option maxHeartbeats 4000000 in
theorem f99_l {d N : Nat} {p1 : Int32} {h : Hp} {Q : Option Value → Hp → Prop} {q : Int32 × Hp} (hf : f99 N p1 h = some q) (hW : WF 0 h) (hd : 7 ≤ d) (kk : WF 0 q.2 → Q (some (.int q.1)) q.2) : R 0 d 99 0 [some (.ref 0), some (.int p1)] [] h Q := by
  obtain ⟨d, rfl⟩ : ∃ z, d = z + 1 := ⟨d - 1, by omega⟩
  unfold f99 at hf
  refine R_iload_n (i := 0) rfl rfl ?_
  refine R_iconst (i := 1) rfl ?_
  refine R_icmplt (i := 2) rfl (fun c1 => ?_) (fun c1 => ?_)
  · rw [if_pos c1] at hf
    refine R_iconst (i := 8) rfl ?_
    have hz := Option.some.inj hf
    subst hz
    exact R_zret (r := 0) (i := 9) rfl (by decide) (kk hW)
  · rw [if_neg c1] at hf
    refine R_iload_n (i := 3) rfl rfl ?_
    refine R_aload_n (i := 4) rfl rfl ?_
    refine R_getF hW (i := 5) rfl rfl (Nat.le_of_ble_eq_true rfl) rfl ?_
    refine R_getI hW (i := 6) rfl rfl (Nat.le_of_ble_eq_true rfl) ?_
    refine R_icmplt (i := 7) rfl (fun c2 => ?_) (fun c2 => ?_)
    · rw [if_pos c2] at hf
      refine R_aload_n (i := 10) rfl rfl ?_
      refine R_getF hW (i := 11) rfl rfl (Nat.le_of_ble_eq_true rfl) rfl ?_
      refine R_iload_n (i := 12) rfl rfl ?_
      refine R_putI hW (i := 13) rfl rfl (Nat.le_of_ble_eq_true rfl) (hg rfl hd) (fun h3 eh3 => ?_)
      replace hf := bnd_some eh3 hf
      have hW3 : WF 0 h3 := by rw [eh3]; exact hW
      refine R_aload_n (i := 14) rfl rfl ?_
      have zq4 := bind_some hf
      clear hf
      obtain ⟨q4, eq4, hf⟩ := zq4
      refine R_callV (vs := []) (st' := []) hW3 (i := 15) rfl rfl rfl (Nat.le_of_ble_eq_true rfl) rfl (Nat.le_of_ble_eq_true rfl) rfl (f119_l eq4 hW3 (hh rfl hd) (fun hW4 => ?_))
      refine R_iconst (i := 16) rfl ?_
      have hz := Option.some.inj hf
      subst hz
      exact R_zret (r := 1) (i := 17) rfl (by decide) (kk hW4)
    · rw [if_neg c2] at hf
      refine R_iconst (i := 8) rfl ?_
      have hz := Option.some.inj hf
      subst hz
      exact R_zret (r := 0) (i := 9) rfl (by decide) (kk hW)
set_option maxRecDepth 100000 in
set_option maxHeartbeats 4000000 in
theorem f132_l {d : Nat} {p0 : Int32} {h : Hp} {Q : Option Value → Hp → Prop} (hd : 0 ≤ d) (kk : Q (some (.int (f132 p0))) h) : R 0 d 132 0 [some (.int p0)] [] h Q := by
  unfold f132 at kk
  refine R_iload_n (i := 0) rfl rfl ?_
  refine R_iconst (i := 1) rfl ?_
  refine R_irem (i := 2) rfl (by decide) ?_
  exact R_iret (i := 3) rfl kk
set_option maxRecDepth 100000 in
set_option maxHeartbeats 4000000 in
theorem f130_l {d : Nat} {p0 : Int32} {h : Hp} {Q : Option Value → Hp → Prop} (hd : 0 ≤ d) (kk : Q (some (.int (f130 p0))) h) : R 0 d 130 0 [some (.int p0)] [] h Q := by
  unfold f130 at kk
  refine R_iload_n (i := 0) rfl rfl ?_
  refine R_bipush (i := 1) rfl ?_
  refine R_idiv (i := 2) rfl (by decide) ?_
  refine R_bipush (i := 3) rfl ?_
  refine R_irem (i := 4) rfl (by decide) ?_
  exact R_iret (i := 5) rfl kk
set_option maxRecDepth 100000 in
set_option maxHeartbeats 4000000 in
theorem f128_b17_l {d N : Nat} {h : Hp} {Q : Option Value → Hp → Prop} {q : Int32} (hf : f128_b17 N h = some q) (hW : WF 0 h) (hd : 1 ≤ d) (kk : Q (some (.int q)) h) : R 0 d 128 17 [none, none] [] h Q := by
  unfold f128_b17 at hf
  refine R_iconst (i := 17) rfl ?_
  have hz := Option.some.inj hf
  subst hz
  exact R_zret (r := 0) (i := 18) rfl (by decide) kk
set_option maxRecDepth 100000 in
set_option maxHeartbeats 4000000 in
theorem f128_l {d N : Nat} {p1 : Int32} {h : Hp} {Q : Option Value → Hp → Prop} {q : Int32} (hf : f128 N p1 h = some q) (hW : WF 0 h) (hd : 1 ≤ d) (kk : Q (some (.int q)) h) : R 0 d 128 0 [some (.ref 0), some (.int p1)] [] h Q := by
  obtain ⟨d, rfl⟩ : ∃ z, d = z + 1 := ⟨d - 1, by omega⟩
  unfold f128 at hf
  refine R_iload_n (i := 0) rfl rfl ?_
  refine R_iflt (i := 1) rfl (fun c1 => ?_) (fun c1 => ?_)
  · rw [if_pos c1] at hf
    refine R_weak [none, none] ⟨Or.inl rfl, Or.inl rfl, trivial⟩ ?_
    exact f128_b17_l hf hW hd kk
  · rw [if_neg c1] at hf
    refine R_iload_n (i := 2) rfl rfl ?_
    refine R_sipush (i := 3) rfl ?_
    refine R_icmpge (i := 4) rfl (fun c2 => ?_) (fun c2 => ?_)
    · rw [if_pos c2] at hf
      refine R_weak [none, none] ⟨Or.inl rfl, Or.inl rfl, trivial⟩ ?_
      exact f128_b17_l hf hW hd kk
    · rw [if_neg c2] at hf
      refine R_iload_n (i := 5) rfl rfl ?_
      refine R_call (vs := [.int p1]) (st' := []) (i := 6) rfl (by decide) (by decide) rfl rfl (Nat.le_of_ble_eq_true rfl) rfl (f132_l (hh rfl hd) ?_)
      refine R_ifle (i := 7) rfl (fun c3 => ?_) (fun c3 => ?_)
      · rw [if_pos c3] at hf
        refine R_weak [none, none] ⟨Or.inl rfl, Or.inl rfl, trivial⟩ ?_
        exact f128_b17_l hf hW hd kk
      · rw [if_neg c3] at hf
        refine R_iload_n (i := 8) rfl rfl ?_
        refine R_call (vs := [.int p1]) (st' := []) (i := 9) rfl (by decide) (by decide) rfl rfl (Nat.le_of_ble_eq_true rfl) rfl (f130_l (hh rfl hd) ?_)
        refine R_aload_n (i := 10) rfl rfl ?_
        refine R_getF hW (i := 11) rfl rfl (Nat.le_of_ble_eq_true rfl) rfl ?_
        refine R_getF hW (i := 12) rfl rfl (Nat.le_of_ble_eq_true rfl) rfl ?_
        refine R_getI hW (i := 13) rfl rfl (Nat.le_of_ble_eq_true rfl) ?_
        refine R_icmpge (i := 14) rfl (fun c4 => ?_) (fun c4 => ?_)
        · rw [if_pos c4] at hf
          refine R_weak [none, none] ⟨Or.inl rfl, Or.inl rfl, trivial⟩ ?_
          exact f128_b17_l hf hW hd kk
        · rw [if_neg c4] at hf
          refine R_iconst (i := 15) rfl ?_
          refine R_goto (i := 16) rfl ?_
          have hz := Option.some.inj hf
          subst hz
          exact R_zret (r := 1) (i := 18) rfl (by decide) kk
set_option maxRecDepth 100000 in
set_option maxHeartbeats 4000000 in
theorem f126_b7_l {d : Nat} {h : Hp} {Q : Option Value → Hp → Prop} (hd : 0 ≤ d) (kk : Q (some (.int (f126_b7))) h) : R 0 d 126 7 [none] [] h Q := by
  unfold f126_b7 at kk
  refine R_iconst (i := 7) rfl ?_
  exact R_zret (r := 0) (i := 8) rfl (by decide) kk
set_option maxRecDepth 100000 in
set_option maxHeartbeats 4000000 in
theorem f126_l {d : Nat} {p0 : Int32} {h : Hp} {Q : Option Value → Hp → Prop} (hd : 0 ≤ d) (kk : Q (some (.int (f126 p0))) h) : R 0 d 126 0 [some (.int p0)] [] h Q := by
  unfold f126 at kk
  refine R_iload_n (i := 0) rfl rfl ?_
  refine R_iflt (i := 1) rfl (fun c1 => ?_) (fun c1 => ?_)
  · rw [if_pos c1] at kk
    refine R_weak [none] ⟨Or.inl rfl, trivial⟩ ?_
    exact f126_b7_l hd kk
  · rw [if_neg c1] at kk
    refine R_iload_n (i := 2) rfl rfl ?_
    refine R_bipush (i := 3) rfl ?_
    refine R_icmpge (i := 4) rfl (fun c2 => ?_) (fun c2 => ?_)
    · rw [if_pos c2] at kk
      refine R_weak [none] ⟨Or.inl rfl, trivial⟩ ?_
      exact f126_b7_l hd kk
    · rw [if_neg c2] at kk
      refine R_iconst (i := 5) rfl ?_
      refine R_goto (i := 6) rfl ?_
      exact R_zret (r := 1) (i := 8) rfl (by decide) kk
set_option maxRecDepth 100000 in
set_option maxHeartbeats 4000000 in
theorem f127_b7_l {d : Nat} {h : Hp} {Q : Option Value → Hp → Prop} (hd : 0 ≤ d) (kk : Q (some (.int (f127_b7))) h) : R 0 d 127 7 [none] [] h Q := by
  unfold f127_b7 at kk
  refine R_iconst (i := 7) rfl ?_
  exact R_zret (r := 0) (i := 8) rfl (by decide) kk
set_option maxRecDepth 100000 in
set_option maxHeartbeats 4000000 in
theorem f127_l {d : Nat} {p0 : Int32} {h : Hp} {Q : Option Value → Hp → Prop} (hd : 0 ≤ d) (kk : Q (some (.int (f127 p0))) h) : R 0 d 127 0 [some (.int p0)] [] h Q := by
  unfold f127 at kk
  refine R_iload_n (i := 0) rfl rfl ?_
  refine R_iflt (i := 1) rfl (fun c1 => ?_) (fun c1 => ?_)
  · rw [if_pos c1] at kk
    refine R_weak [none] ⟨Or.inl rfl, trivial⟩ ?_
    exact f127_b7_l hd kk
  · rw [if_neg c1] at kk
    refine R_iload_n (i := 2) rfl rfl ?_
    refine R_iconst (i := 3) rfl ?_
    refine R_icmpge (i := 4) rfl (fun c2 => ?_) (fun c2 => ?_)
    · rw [if_pos c2] at kk
      refine R_weak [none] ⟨Or.inl rfl, trivial⟩ ?_
      exact f127_b7_l hd kk
    · rw [if_neg c2] at kk
      refine R_iconst (i := 5) rfl ?_
      refine R_goto (i := 6) rfl ?_
      exact R_zret (r := 1) (i := 8) rfl (by decide) kk
set_option maxRecDepth 100000 in
set_option maxHeartbeats 4000000 in
theorem f129_l {d : Nat} {p0 : Int32} {h : Hp} {Q : Option Value → Hp → Prop} (hd : 0 ≤ d) (kk : Q (some (.int (f129 p0))) h) : R 0 d 129 0 [some (.int p0)] [] h Q := by
  unfold f129 at kk
  refine R_iload_n (i := 0) rfl rfl ?_
  refine R_sipush (i := 1) rfl ?_
  refine R_idiv (i := 2) rfl (by decide) ?_
  exact R_iret (i := 3) rfl kk
set_option maxRecDepth 100000 in
set_option maxHeartbeats 4000000 in
theorem f131_l {d : Nat} {p0 : Int32} {h : Hp} {Q : Option Value → Hp → Prop} (hd : 0 ≤ d) (kk : Q (some (.int (f131 p0))) h) : R 0 d 131 0 [some (.int p0)] [] h Q := by
  unfold f131 at kk
  refine R_iload_n (i := 0) rfl rfl ?_
  refine R_iconst (i := 1) rfl ?_
  refine R_idiv (i := 2) rfl (by decide) ?_
  refine R_bipush (i := 3) rfl ?_
  refine R_irem (i := 4) rfl (by decide) ?_
  exact R_iret (i := 5) rfl kk
set_option maxRecDepth 100000 in
set_option maxHeartbeats 4000000 in
theorem f33_l {d N : Nat} {p1 : Int32} {p2 : Int32} {p3 : Int32} {p4 : Int32} {h : Hp} {Q : Option Value → Hp → Prop} {q : Hp} (hf : f33 N p1 p2 p3 p4 h = some q) (hW : WF 0 h) (hd : 5 ≤ d) (kk : WF 0 q → Q (none) q) : R 0 d 33 0 [some (.ref 61), some (.int p1), some (.int p2), some (.int p3), some (.int p4)] [] h Q := by
  unfold f33 at hf
  refine R_aload_n (i := 0) rfl rfl ?_
  refine R_getF hW (i := 1) rfl rfl (Nat.le_of_ble_eq_true rfl) rfl ?_
  refine R_bipush (i := 2) rfl ?_
  refine R_iload_n (i := 3) rfl rfl ?_
  refine R_iastore hW (i := 4) rfl rfl (by decide) (hg rfl hd) (fun h1 eh1 => ?_)
  replace hf := bnd_some eh1 hf
  have hW1 : WF 0 h1 := by rw [eh1]; exact hW
  refine R_aload_n (i := 5) rfl rfl ?_
  refine R_getF hW1 (i := 6) rfl rfl (Nat.le_of_ble_eq_true rfl) rfl ?_
  refine R_iconst (i := 7) rfl ?_
  refine R_iload_n (i := 8) rfl rfl ?_
  refine R_iastore hW1 (i := 9) rfl rfl (by decide) (hg rfl hd) (fun h2 eh2 => ?_)
  replace hf := bnd_some eh2 hf
  have hW2 : WF 0 h2 := by rw [eh2]; exact hW1
  refine R_aload_n (i := 10) rfl rfl ?_
  refine R_getF hW2 (i := 11) rfl rfl (Nat.le_of_ble_eq_true rfl) rfl ?_
  refine R_iconst (i := 12) rfl ?_
  refine R_iload_n (i := 13) rfl rfl ?_
  refine R_iastore hW2 (i := 14) rfl rfl (by decide) (hg rfl hd) (fun h3 eh3 => ?_)
  replace hf := bnd_some eh3 hf
  have hW3 : WF 0 h3 := by rw [eh3]; exact hW2
  refine R_aload_n (i := 15) rfl rfl ?_
  refine R_getF hW3 (i := 16) rfl rfl (Nat.le_of_ble_eq_true rfl) rfl ?_
  refine R_iconst (i := 17) rfl ?_
  refine R_iload (i := 18) rfl rfl ?_
  refine R_iastore hW3 (i := 19) rfl rfl (by decide) (hg rfl hd) (fun h4 eh4 => ?_)
  replace hf := bnd_some eh4 hf
  have hW4 : WF 0 h4 := by rw [eh4]; exact hW3
  have hz := Option.some.inj hf
  subst hz
  exact R_vret (i := 20) rfl (kk hW4)
set_option maxRecDepth 100000 in
set_option maxHeartbeats 4000000 in
theorem f38_l {d N : Nat} {p0 : Int32} {p1 : Int64} {p3 : Int64} {h : Hp} {Q : Option Value → Hp → Prop} {q : Int64} (hf : f38 N p0 p1 p3 h = some q) (hW : WF 0 h) (hd : 0 ≤ d) (kk : Q (some (.long q)) h) : R 0 d 38 0 [some (.int p0), some (.long p1), none, some (.long p3), none] [] h Q := by
  unfold f38 at hf
  refine R_iload_n (i := 0) rfl rfl ?_
  refine R_switch (i := 1) rfl ?_
  refine R_swc (lo := 8) (lo' := 9) (by decide) (fun c1 => ?_) (fun c1 => ?_)
  · rw [if_pos c1] at hf
    refine R_lload_n (i := 24) rfl rfl ?_
    refine R_lload_n (i := 25) rfl rfl ?_
    refine R_land (i := 26) rfl ?_
    have hz := Option.some.inj hf
    subst hz
    exact R_lret (i := 27) rfl kk
  rw [if_neg c1] at hf
  refine R_swc (lo := 9) (lo' := 10) (by decide) (fun c2 => ?_) (fun c2 => ?_)
  · rw [if_pos c2] at hf
    refine R_lload_n (i := 28) rfl rfl ?_
    refine R_lload_n (i := 29) rfl rfl ?_
    refine R_lor (i := 30) rfl ?_
    have hz := Option.some.inj hf
    subst hz
    exact R_lret (i := 31) rfl kk
  rw [if_neg c2] at hf
  refine R_swc (lo := 10) (lo' := 11) (by decide) (fun c3 => ?_) (fun c3 => ?_)
  · rw [if_pos c3] at hf
    refine R_lload_n (i := 72) rfl rfl ?_
    refine R_lload_n (i := 73) rfl rfl ?_
    refine R_lcmp (i := 74) rfl ?_
    refine R_ifeq (i := 75) rfl (fun c4 => ?_) (fun c4 => ?_)
    · rw [if_pos c4] at hf
      refine R_lconst (v := (0)) (i := 78) rfl (by decide) ?_
      have hz := Option.some.inj hf
      subst hz
      exact R_lret (i := 79) rfl kk
    · rw [if_neg c4] at hf
      refine R_lconst (v := (1)) (i := 76) rfl (by decide) ?_
      refine R_goto (i := 77) rfl ?_
      have hz := Option.some.inj hf
      subst hz
      exact R_lret (i := 79) rfl kk
  rw [if_neg c3] at hf
  refine R_swc (lo := 11) (lo' := 12) (by decide) (fun c5 => ?_) (fun c5 => ?_)
  · rw [if_pos c5] at hf
    refine R_lload_n (i := 72) rfl rfl ?_
    refine R_lload_n (i := 73) rfl rfl ?_
    refine R_lcmp (i := 74) rfl ?_
    refine R_ifeq (i := 75) rfl (fun c6 => ?_) (fun c6 => ?_)
    · rw [if_pos c6] at hf
      refine R_lconst (v := (0)) (i := 78) rfl (by decide) ?_
      have hz := Option.some.inj hf
      subst hz
      exact R_lret (i := 79) rfl kk
    · rw [if_neg c6] at hf
      refine R_lconst (v := (1)) (i := 76) rfl (by decide) ?_
      refine R_goto (i := 77) rfl ?_
      have hz := Option.some.inj hf
      subst hz
      exact R_lret (i := 79) rfl kk
  rw [if_neg c5] at hf
  refine R_swc (lo := 12) (lo' := 13) (by decide) (fun c7 => ?_) (fun c7 => ?_)
  · rw [if_pos c7] at hf
    refine R_lload_n (i := 72) rfl rfl ?_
    refine R_lload_n (i := 73) rfl rfl ?_
    refine R_lcmp (i := 74) rfl ?_
    refine R_ifeq (i := 75) rfl (fun c8 => ?_) (fun c8 => ?_)
    · rw [if_pos c8] at hf
      refine R_lconst (v := (0)) (i := 78) rfl (by decide) ?_
      have hz := Option.some.inj hf
      subst hz
      exact R_lret (i := 79) rfl kk
    · rw [if_neg c8] at hf
      refine R_lconst (v := (1)) (i := 76) rfl (by decide) ?_
      refine R_goto (i := 77) rfl ?_
      have hz := Option.some.inj hf
      subst hz
      exact R_lret (i := 79) rfl kk
  rw [if_neg c7] at hf
  refine R_swc (lo := 13) (lo' := 14) (by decide) (fun c9 => ?_) (fun c9 => ?_)
  · rw [if_pos c9] at hf
    refine R_lload_n (i := 72) rfl rfl ?_
    refine R_lload_n (i := 73) rfl rfl ?_
    refine R_lcmp (i := 74) rfl ?_
    refine R_ifeq (i := 75) rfl (fun c10 => ?_) (fun c10 => ?_)
    · rw [if_pos c10] at hf
      refine R_lconst (v := (0)) (i := 78) rfl (by decide) ?_
      have hz := Option.some.inj hf
      subst hz
      exact R_lret (i := 79) rfl kk
    · rw [if_neg c10] at hf
      refine R_lconst (v := (1)) (i := 76) rfl (by decide) ?_
      refine R_goto (i := 77) rfl ?_
      have hz := Option.some.inj hf
      subst hz
      exact R_lret (i := 79) rfl kk
  rw [if_neg c9] at hf
  refine R_swc (lo := 14) (lo' := 15) (by decide) (fun c11 => ?_) (fun c11 => ?_)
  · rw [if_pos c11] at hf
    refine R_lload_n (i := 2) rfl rfl ?_
    refine R_lload_n (i := 3) rfl rfl ?_
    refine R_ladd (i := 4) rfl ?_
    have hz := Option.some.inj hf
    subst hz
    exact R_lret (i := 5) rfl kk
  rw [if_neg c11] at hf
  refine R_swc (lo := 15) (lo' := 16) (by decide) (fun c12 => ?_) (fun c12 => ?_)
  · rw [if_pos c12] at hf
    refine R_lload_n (i := 6) rfl rfl ?_
    refine R_lload_n (i := 7) rfl rfl ?_
    refine R_lsub (i := 8) rfl ?_
    have hz := Option.some.inj hf
    subst hz
    exact R_lret (i := 9) rfl kk
  rw [if_neg c12] at hf
  refine R_swc (lo := 16) (lo' := 17) (by decide) (fun c13 => ?_) (fun c13 => ?_)
  · rw [if_pos c13] at hf
    refine R_lload_n (i := 10) rfl rfl ?_
    refine R_lload_n (i := 11) rfl rfl ?_
    refine R_lmul (i := 12) rfl ?_
    have hz := Option.some.inj hf
    subst hz
    exact R_lret (i := 13) rfl kk
  rw [if_neg c13] at hf
  refine R_swc (lo := 17) (lo' := 18) (by decide) (fun c14 => ?_) (fun c14 => ?_)
  · rw [if_pos c14] at hf
    refine R_lload_n (i := 14) rfl rfl ?_
    refine R_lconst (v := (0)) (i := 15) rfl (by decide) ?_
    refine R_lcmp (i := 16) rfl ?_
    refine R_ifne (i := 17) rfl (fun c15 => ?_) (fun c15 => ?_)
    · rw [if_neg c15] at hf
      refine R_lload_n (i := 20) rfl rfl ?_
      refine R_lload_n (i := 21) rfl rfl ?_
      have g16 := gd_some hf
      clear hf
      obtain ⟨g16, hf⟩ := g16
      refine R_ldiv (i := 22) rfl g16 ?_
      have hz := Option.some.inj hf
      subst hz
      exact R_lret (i := 23) rfl kk
    · rw [if_pos c15] at hf
      refine R_lconst (v := (0)) (i := 18) rfl (by decide) ?_
      refine R_goto (i := 19) rfl ?_
      have hz := Option.some.inj hf
      subst hz
      exact R_lret (i := 23) rfl kk
  rw [if_neg c14] at hf
  refine R_swc (lo := 18) (lo' := 19) (by decide) (fun c17 => ?_) (fun c17 => ?_)
  · rw [if_pos c17] at hf
    refine R_lload_n (i := 32) rfl rfl ?_
    refine R_lload_n (i := 33) rfl rfl ?_
    refine R_lcmp (i := 34) rfl ?_
    refine R_ifge (i := 35) rfl (fun c18 => ?_) (fun c18 => ?_)
    · rw [if_pos c18] at hf
      refine R_lconst (v := (0)) (i := 38) rfl (by decide) ?_
      have hz := Option.some.inj hf
      subst hz
      exact R_lret (i := 39) rfl kk
    · rw [if_neg c18] at hf
      refine R_lconst (v := (1)) (i := 36) rfl (by decide) ?_
      refine R_goto (i := 37) rfl ?_
      have hz := Option.some.inj hf
      subst hz
      exact R_lret (i := 39) rfl kk
  rw [if_neg c17] at hf
  refine R_swc (lo := 19) (lo' := 20) (by decide) (fun c19 => ?_) (fun c19 => ?_)
  · rw [if_pos c19] at hf
    refine R_lload_n (i := 40) rfl rfl ?_
    refine R_lload_n (i := 41) rfl rfl ?_
    refine R_lcmp (i := 42) rfl ?_
    refine R_ifgt (i := 43) rfl (fun c20 => ?_) (fun c20 => ?_)
    · rw [if_pos c20] at hf
      refine R_lconst (v := (0)) (i := 46) rfl (by decide) ?_
      have hz := Option.some.inj hf
      subst hz
      exact R_lret (i := 47) rfl kk
    · rw [if_neg c20] at hf
      refine R_lconst (v := (1)) (i := 44) rfl (by decide) ?_
      refine R_goto (i := 45) rfl ?_
      have hz := Option.some.inj hf
      subst hz
      exact R_lret (i := 47) rfl kk
  rw [if_neg c19] at hf
  refine R_swc (lo := 20) (lo' := 21) (by decide) (fun c21 => ?_) (fun c21 => ?_)
  · rw [if_pos c21] at hf
    refine R_lload_n (i := 48) rfl rfl ?_
    refine R_lload_n (i := 49) rfl rfl ?_
    refine R_lcmp (i := 50) rfl ?_
    refine R_ifle (i := 51) rfl (fun c22 => ?_) (fun c22 => ?_)
    · rw [if_pos c22] at hf
      refine R_lconst (v := (0)) (i := 54) rfl (by decide) ?_
      have hz := Option.some.inj hf
      subst hz
      exact R_lret (i := 55) rfl kk
    · rw [if_neg c22] at hf
      refine R_lconst (v := (1)) (i := 52) rfl (by decide) ?_
      refine R_goto (i := 53) rfl ?_
      have hz := Option.some.inj hf
      subst hz
      exact R_lret (i := 55) rfl kk
  rw [if_neg c21] at hf
  refine R_swc (lo := 21) (lo' := 22) (by decide) (fun c23 => ?_) (fun c23 => ?_)
  · rw [if_pos c23] at hf
    refine R_lload_n (i := 56) rfl rfl ?_
    refine R_lload_n (i := 57) rfl rfl ?_
    refine R_lcmp (i := 58) rfl ?_
    refine R_iflt (i := 59) rfl (fun c24 => ?_) (fun c24 => ?_)
    · rw [if_pos c24] at hf
      refine R_lconst (v := (0)) (i := 62) rfl (by decide) ?_
      have hz := Option.some.inj hf
      subst hz
      exact R_lret (i := 63) rfl kk
    · rw [if_neg c24] at hf
      refine R_lconst (v := (1)) (i := 60) rfl (by decide) ?_
      refine R_goto (i := 61) rfl ?_
      have hz := Option.some.inj hf
      subst hz
      exact R_lret (i := 63) rfl kk
  rw [if_neg c23] at hf
  refine R_swc (lo := 22) (lo' := 23) (by decide) (fun c25 => ?_) (fun c25 => ?_)
  · rw [if_pos c25] at hf
    refine R_lload_n (i := 64) rfl rfl ?_
    refine R_lload_n (i := 65) rfl rfl ?_
    refine R_lcmp (i := 66) rfl ?_
    refine R_ifne (i := 67) rfl (fun c26 => ?_) (fun c26 => ?_)
    · rw [if_neg c26] at hf
      refine R_lconst (v := (0)) (i := 70) rfl (by decide) ?_
      have hz := Option.some.inj hf
      subst hz
      exact R_lret (i := 71) rfl kk
    · rw [if_pos c26] at hf
      refine R_lconst (v := (1)) (i := 68) rfl (by decide) ?_
      refine R_goto (i := 69) rfl ?_
      have hz := Option.some.inj hf
      subst hz
      exact R_lret (i := 71) rfl kk
  rw [if_neg c25] at hf
  refine R_swn ?_
  refine R_lload_n (i := 72) rfl rfl ?_
  refine R_lload_n (i := 73) rfl rfl ?_
  refine R_lcmp (i := 74) rfl ?_
  refine R_ifeq (i := 75) rfl (fun c27 => ?_) (fun c27 => ?_)
  · rw [if_pos c27] at hf
    refine R_lconst (v := (0)) (i := 78) rfl (by decide) ?_
    have hz := Option.some.inj hf
    subst hz
    exact R_lret (i := 79) rfl kk
  · rw [if_neg c27] at hf
    refine R_lconst (v := (1)) (i := 76) rfl (by decide) ?_
    refine R_goto (i := 77) rfl ?_
    have hz := Option.some.inj hf
    subst hz
    exact R_lret (i := 79) rfl kk
set_option maxRecDepth 100000 in
set_option maxHeartbeats 4000000 in
theorem f37_b126_l {d N : Nat} {x1 : Int32} {x2 : Int32} {x3 : Int32} {h : Hp} {Q : Option Value → Hp → Prop} {j : Nat} {s' : Int32 × Int32 × Hp} (hf : f37_b126 N x1 x2 x3 h = some (j, s')) (hW : WF 0 h) (hd : 5 ≤ d) (k0 : j = 0 → WF 0 s'.2.2 → R 0 d 37 15 [some (.ref 61), some (.int x1), some (.int s'.1), some (.int s'.2.1), none, none, none] [] s'.2.2 Q) (k1 : j = 1 → WF 0 s'.2.2 → R 0 d 37 128 [some (.ref 61), none, none, none, none, none, none] [] s'.2.2 Q) : R 0 d 37 126 [some (.ref 61), some (.int x1), some (.int x2), some (.int x3), none, none, none] [] h Q := by
  unfold f37_b126 at hf
  obtain ⟨v19, e19⟩ : ∃ z : Int32, z = (x3 + (1 : Int32)) := ⟨_, rfl⟩
  replace hf := bnd_some e19 hf
  refine R_iinc [some (.ref 61), some (.int x1), some (.int x2), some (.int v19), none, none, none] (i := 126) rfl rfl (by rw [← e19]; rfl) ?_
  refine R_goto (i := 127) rfl ?_
  obtain ⟨hj, hs⟩ := Prod.mk.inj (Option.some.inj hf)
  subst hj
  subst hs
  exact k0 rfl hW
set_option maxRecDepth 100000 in
set_option maxHeartbeats 4000000 in
theorem f37_b51_l {d N : Nat} {x1 : Int32} {x2 : Int32} {x3 : Int32} {t0 : Int32} {t1 : Int32} {h : Hp} {Q : Option Value → Hp → Prop} {j : Nat} {s' : Int32 × Int32 × Hp} (hf : f37_b51 N x1 x2 x3 t0 t1 h = some (j, s')) (hW : WF 0 h) (hd : 5 ≤ d) (k0 : j = 0 → WF 0 s'.2.2 → R 0 d 37 15 [some (.ref 61), some (.int x1), some (.int s'.1), some (.int s'.2.1), none, none, none] [] s'.2.2 Q) (k1 : j = 1 → WF 0 s'.2.2 → R 0 d 37 128 [some (.ref 61), none, none, none, none, none, none] [] s'.2.2 Q) : R 0 d 37 51 [some (.ref 61), some (.int x1), some (.int x2), some (.int x3), none, none, none] [.int t0, .int t1, .ref 63] h Q := by
  unfold f37_b51 at hf
  have g22 := gd_some hf
  clear hf
  obtain ⟨g22, hf⟩ := g22
  refine R_iastore hW (i := 51) rfl rfl g22 (hg rfl hd) (fun h23 eh23 => ?_)
  replace hf := bnd_some eh23 hf
  have hW23 : WF 0 h23 := by rw [eh23]; exact hW
  obtain ⟨v24, e24⟩ : ∃ z : Int32, z = (x2 + (1 : Int32)) := ⟨_, rfl⟩
  replace hf := bnd_some e24 hf
  refine R_iinc [some (.ref 61), some (.int x1), some (.int v24), some (.int x3), none, none, none] (i := 52) rfl rfl (by rw [← e24]; rfl) ?_
  refine R_goto (i := 53) rfl ?_
  exact f37_b126_l hf hW23 hd k0 k1
set_option maxRecDepth 100000 in
set_option maxHeartbeats 4000000 in
theorem f37_b34_l {d N : Nat} {x1 : Int32} {x2 : Int32} {x3 : Int32} {x4 : Int32} {h : Hp} {Q : Option Value → Hp → Prop} {j : Nat} {s' : Int32 × Int32 × Hp} (hf : f37_b34 N x1 x2 x3 x4 h = some (j, s')) (hW : WF 0 h) (hd : 5 ≤ d) (k0 : j = 0 → WF 0 s'.2.2 → R 0 d 37 15 [some (.ref 61), some (.int x1), some (.int s'.1), some (.int s'.2.1), none, none, none] [] s'.2.2 Q) (k1 : j = 1 → WF 0 s'.2.2 → R 0 d 37 128 [some (.ref 61), none, none, none, none, none, none] [] s'.2.2 Q) : R 0 d 37 34 [some (.ref 61), some (.int x1), some (.int x2), some (.int x3), some (.int x4), none, none] [] h Q := by
  unfold f37_b34 at hf
  refine R_iload_n (i := 34) rfl rfl ?_
  refine R_bipush (i := 35) rfl ?_
  refine R_icmpge (i := 36) rfl (fun c18 => ?_) (fun c18 => ?_)
  · rw [if_pos c18] at hf
    refine R_weak [some (.ref 61), some (.int x1), some (.int x2), some (.int x3), none, none, none] ⟨Or.inr rfl, Or.inr rfl, Or.inr rfl, Or.inr rfl, Or.inl rfl, Or.inr rfl, Or.inr rfl, trivial⟩ ?_
    exact f37_b126_l hf hW hd k0 k1
  · rw [if_neg c18] at hf
    refine R_aload_n (i := 37) rfl rfl ?_
    refine R_getF hW (i := 38) rfl rfl (Nat.le_of_ble_eq_true rfl) rfl ?_
    refine R_iload_n (i := 39) rfl rfl ?_
    refine R_iload (i := 40) rfl rfl ?_
    refine R_bipush (i := 41) rfl ?_
    refine R_icmplt (i := 42) rfl (fun c20 => ?_) (fun c20 => ?_)
    · rw [if_pos c20] at hf
      refine R_aload_n (i := 47) rfl rfl ?_
      refine R_getF hW (i := 48) rfl rfl (Nat.le_of_ble_eq_true rfl) rfl ?_
      refine R_iload (i := 49) rfl rfl ?_
      have g21 := gd_some hf
      clear hf
      obtain ⟨g21, hf⟩ := g21
      refine R_iaload hW (i := 50) rfl rfl g21 ?_
      refine R_weak [some (.ref 61), some (.int x1), some (.int x2), some (.int x3), none, none, none] ⟨Or.inr rfl, Or.inr rfl, Or.inr rfl, Or.inr rfl, Or.inl rfl, Or.inr rfl, Or.inr rfl, trivial⟩ ?_
      exact f37_b51_l hf hW hd k0 k1
    · rw [if_neg c20] at hf
      refine R_iload (i := 43) rfl rfl ?_
      refine R_bipush (i := 44) rfl ?_
      refine R_isub (i := 45) rfl ?_
      refine R_goto (i := 46) rfl ?_
      refine R_weak [some (.ref 61), some (.int x1), some (.int x2), some (.int x3), none, none, none] ⟨Or.inr rfl, Or.inr rfl, Or.inr rfl, Or.inr rfl, Or.inl rfl, Or.inr rfl, Or.inr rfl, trivial⟩ ?_
      exact f37_b51_l hf hW hd k0 k1
set_option maxRecDepth 100000 in
set_option maxHeartbeats 4000000 in
theorem f37_b95_l {d N : Nat} {x1 : Int32} {x2 : Int32} {x3 : Int32} {x4 : Int32} {h : Hp} {Q : Option Value → Hp → Prop} {j : Nat} {s' : Int32 × Int32 × Hp} (hf : f37_b95 N x1 x2 x3 x4 h = some (j, s')) (hW : WF 0 h) (hd : 5 ≤ d) (k0 : j = 0 → WF 0 s'.2.2 → R 0 d 37 15 [some (.ref 61), some (.int x1), some (.int s'.1), some (.int s'.2.1), none, none, none] [] s'.2.2 Q) (k1 : j = 1 → WF 0 s'.2.2 → R 0 d 37 128 [some (.ref 61), none, none, none, none, none, none] [] s'.2.2 Q) : R 0 d 37 95 [some (.ref 61), some (.int x1), some (.int x2), some (.int x3), some (.int x4), none, none] [] h Q := by
  obtain ⟨d, rfl⟩ : ∃ z, d = z + 1 := ⟨d - 1, by omega⟩
  unfold f37_b95 at hf
  refine R_iload_n (i := 95) rfl rfl ?_
  refine R_iconst (i := 96) rfl ?_
  refine R_icmplt (i := 97) rfl (fun c28 => ?_) (fun c28 => ?_)
  · rw [if_pos c28] at hf
    refine R_weak [some (.ref 61), some (.int x1), some (.int x2), some (.int x3), none, none, none] ⟨Or.inr rfl, Or.inr rfl, Or.inr rfl, Or.inr rfl, Or.inl rfl, Or.inr rfl, Or.inr rfl, trivial⟩ ?_
    exact f37_b126_l hf hW hd k0 k1
  · rw [if_neg c28] at hf
    obtain ⟨v29, e29⟩ : ∃ z : Int32, z = (x2 + (-1 : Int32)) := ⟨_, rfl⟩
    replace hf := bnd_some e29 hf
    refine R_iinc [some (.ref 61), some (.int x1), some (.int v29), some (.int x3), some (.int x4), none, none] (i := 98) rfl rfl (by rw [← e29]; rfl) ?_
    refine R_iload (i := 99) rfl rfl ?_
    refine R_aload_n (i := 100) rfl rfl ?_
    refine R_getF hW (i := 101) rfl rfl (Nat.le_of_ble_eq_true rfl) rfl ?_
    refine R_iload_n (i := 102) rfl rfl ?_
    refine R_iconst (i := 103) rfl ?_
    refine R_isub (i := 104) rfl ?_
    have g30 := gd_some hf
    clear hf
    obtain ⟨g30, hf⟩ := g30
    refine R_iaload hW (i := 105) rfl rfl g30 ?_
    refine R_i2l (i := 106) rfl ?_
    refine R_aload_n (i := 107) rfl rfl ?_
    refine R_getF hW (i := 108) rfl rfl (Nat.le_of_ble_eq_true rfl) rfl ?_
    refine R_iload_n (i := 109) rfl rfl ?_
    have g31 := gd_some hf
    clear hf
    obtain ⟨g31, hf⟩ := g31
    refine R_iaload hW (i := 110) rfl rfl g31 ?_
    refine R_i2l (i := 111) rfl ?_
    have zq32 := bind_some hf
    clear hf
    obtain ⟨q32, eq32, hf⟩ := zq32
    refine R_call (vs := [.int x4, .long (Int32.toInt64 (hI h 63 (ix (v29 - (1 : Int32))))), .long (Int32.toInt64 (hI h 63 (ix v29)))]) (st' := []) (i := 112) rfl (by decide) (by decide) rfl rfl (Nat.le_of_ble_eq_true rfl) rfl (f38_l eq32 hW (hh rfl hd) ?_)
    refine R_lstore [some (.ref 61), some (.int x1), some (.int v29), some (.int x3), some (.int x4), some (.long q32), none] (i := 113) rfl rfl ?_
    refine R_aload_n (i := 114) rfl rfl ?_
    refine R_getF hW (i := 115) rfl rfl (Nat.le_of_ble_eq_true rfl) rfl ?_
    refine R_iload_n (i := 116) rfl rfl ?_
    refine R_iconst (i := 117) rfl ?_
    refine R_isub (i := 118) rfl ?_
    refine R_lload (i := 119) rfl rfl ?_
    refine R_ldc2 (v := (-1000000)) (i := 120) rfl (by decide) ?_
    refine R_mmaxl (i := 121) rfl (hg rfl hd) (Nat.le_of_ble_eq_true rfl) ?_
    refine R_ldc2 (v := (1000000)) (i := 122) rfl (by decide) ?_
    refine R_mminl (i := 123) rfl (hg rfl hd) (Nat.le_of_ble_eq_true rfl) ?_
    refine R_l2i (i := 124) rfl ?_
    have g33 := gd_some hf
    clear hf
    obtain ⟨g33, hf⟩ := g33
    refine R_iastore hW (i := 125) rfl rfl g33 (hg rfl hd) (fun h34 eh34 => ?_)
    replace hf := bnd_some eh34 hf
    have hW34 : WF 0 h34 := by rw [eh34]; exact hW
    refine R_weak [some (.ref 61), some (.int x1), some (.int v29), some (.int x3), none, none, none] ⟨Or.inr rfl, Or.inr rfl, Or.inr rfl, Or.inr rfl, Or.inl rfl, Or.inl rfl, Or.inr rfl, trivial⟩ ?_
    exact f37_b126_l hf hW34 hd k0 k1
set_option maxRecDepth 100000 in
set_option maxHeartbeats 4000000 in
theorem f37_b74_l {d N : Nat} {x1 : Int32} {x2 : Int32} {x3 : Int32} {x4 : Int32} {h : Hp} {Q : Option Value → Hp → Prop} {j : Nat} {s' : Int32 × Int32 × Hp} (hf : f37_b74 N x1 x2 x3 x4 h = some (j, s')) (hW : WF 0 h) (hd : 5 ≤ d) (k0 : j = 0 → WF 0 s'.2.2 → R 0 d 37 15 [some (.ref 61), some (.int x1), some (.int s'.1), some (.int s'.2.1), none, none, none] [] s'.2.2 Q) (k1 : j = 1 → WF 0 s'.2.2 → R 0 d 37 128 [some (.ref 61), none, none, none, none, none, none] [] s'.2.2 Q) : R 0 d 37 74 [some (.ref 61), some (.int x1), some (.int x2), some (.int x3), some (.int x4), none, none] [] h Q := by
  unfold f37_b74 at hf
  refine R_iload (i := 74) rfl rfl ?_
  refine R_bipush (i := 75) rfl ?_
  refine R_icmpne (i := 76) rfl (fun c27 => ?_) (fun c27 => ?_)
  · rw [if_neg c27] at hf
    exact f37_b95_l hf hW hd k0 k1
  · rw [if_pos c27] at hf
    refine R_iload_n (i := 77) rfl rfl ?_
    refine R_iconst (i := 78) rfl ?_
    refine R_icmplt (i := 79) rfl (fun c35 => ?_) (fun c35 => ?_)
    · rw [if_pos c35] at hf
      exact f37_b95_l hf hW hd k0 k1
    · rw [if_neg c35] at hf
      refine R_aload_n (i := 80) rfl rfl ?_
      refine R_getF hW (i := 81) rfl rfl (Nat.le_of_ble_eq_true rfl) rfl ?_
      refine R_iload_n (i := 82) rfl rfl ?_
      refine R_iconst (i := 83) rfl ?_
      refine R_isub (i := 84) rfl ?_
      refine R_iconst (i := 85) rfl ?_
      refine R_aload_n (i := 86) rfl rfl ?_
      refine R_getF hW (i := 87) rfl rfl (Nat.le_of_ble_eq_true rfl) rfl ?_
      refine R_iload_n (i := 88) rfl rfl ?_
      refine R_iconst (i := 89) rfl ?_
      refine R_isub (i := 90) rfl ?_
      have g36 := gd_some hf
      clear hf
      obtain ⟨g36, hf⟩ := g36
      refine R_iaload hW (i := 91) rfl rfl g36 ?_
      refine R_isub (i := 92) rfl ?_
      have g37 := gd_some hf
      clear hf
      obtain ⟨g37, hf⟩ := g37
      refine R_iastore hW (i := 93) rfl rfl g37 (hg rfl hd) (fun h38 eh38 => ?_)
      replace hf := bnd_some eh38 hf
      have hW38 : WF 0 h38 := by rw [eh38]; exact hW
      refine R_goto (i := 94) rfl ?_
      refine R_weak [some (.ref 61), some (.int x1), some (.int x2), some (.int x3), none, none, none] ⟨Or.inr rfl, Or.inr rfl, Or.inr rfl, Or.inr rfl, Or.inl rfl, Or.inr rfl, Or.inr rfl, trivial⟩ ?_
      exact f37_b126_l hf hW38 hd k0 k1
set_option maxRecDepth 100000 in
set_option maxHeartbeats 4000000 in
theorem f37_l15_l {d N : Nat} {x1 : Int32} {s : Int32 × Int32 × Hp} {Q : Option Value → Hp → Prop} {j : Nat} {s' : Int32 × Int32 × Hp} (hf : f37_l15 N x1 s = some (j, s')) (hW : WF 0 s.2.2) (hd : 5 ≤ d) (k0 : j = 0 → WF 0 s'.2.2 → R 0 d 37 15 [some (.ref 61), some (.int x1), some (.int s'.1), some (.int s'.2.1), none, none, none] [] s'.2.2 Q) (k1 : j = 1 → WF 0 s'.2.2 → R 0 d 37 128 [some (.ref 61), none, none, none, none, none, none] [] s'.2.2 Q) : R 0 d 37 15 [some (.ref 61), some (.int x1), some (.int s.1), some (.int s.2.1), none, none, none] [] s.2.2 Q := by
  unfold f37_l15 at hf
  refine R_iload_n (i := 15) rfl rfl ?_
  refine R_aload_n (i := 16) rfl rfl ?_
  have zr7 := bind_some hf
  clear hf
  obtain ⟨r7, er7, hf⟩ := zr7
  refine R_getR hW (i := 17) rfl rfl (Nat.le_of_ble_eq_true rfl) er7 ?_
  have g8 := gd_some hf
  clear hf
  obtain ⟨g8, hf⟩ := g8
  have zr9 := bind_some hf
  clear hf
  obtain ⟨r9, er9, hf⟩ := zr9
  refine R_getR hW (i := 18) rfl g8 (Nat.le_of_ble_eq_true rfl) er9 ?_
  refine R_iload_n (i := 19) rfl rfl ?_
  have g10 := gd_some hf
  clear hf
  obtain ⟨g10, hf⟩ := g10
  refine R_iaload hW (i := 20) rfl g10.1 g10.2 ?_
  refine R_icmpge (i := 21) rfl (fun c11 => ?_) (fun c11 => ?_)
  · rw [if_pos c11] at hf
    obtain ⟨hj, hs⟩ := Prod.mk.inj (Option.some.inj hf)
    subst hj
    subst hs
    refine R_weak [some (.ref 61), none, none, none, none, none, none] ⟨Or.inr rfl, Or.inl rfl, Or.inl rfl, Or.inl rfl, Or.inr rfl, Or.inr rfl, Or.inr rfl, trivial⟩ ?_
    exact k1 rfl hW
  · rw [if_neg c11] at hf
    refine R_aload_n (i := 22) rfl rfl ?_
    have zr12 := bind_some hf
    clear hf
    obtain ⟨r12, er12, hf⟩ := zr12
    refine R_getR hW (i := 23) rfl rfl (Nat.le_of_ble_eq_true rfl) er12 ?_
    have g13 := gd_some hf
    clear hf
    obtain ⟨g13, hf⟩ := g13
    have zr14 := bind_some hf
    clear hf
    obtain ⟨r14, er14, hf⟩ := zr14
    refine R_getR hW (i := 24) rfl g13 (Nat.le_of_ble_eq_true rfl) er14 ?_
    refine R_iload_n (i := 25) rfl rfl ?_
    have g15 := gd_some hf
    clear hf
    obtain ⟨g15, hf⟩ := g15
    refine R_iaload hW (i := 26) rfl g15.1 g15.2 ?_
    refine R_topi (fun v16 e16 => ?_)
    replace hf := bnd_some e16 hf
    refine R_istore [some (.ref 61), some (.int x1), some (.int s.1), some (.int s.2.1), some (.int v16), none, none] (i := 27) rfl rfl ?_
    refine R_iload (i := 28) rfl rfl ?_
    refine R_bipush (i := 29) rfl ?_
    refine R_icmpge (i := 30) rfl (fun c17 => ?_) (fun c17 => ?_)
    · rw [if_pos c17] at hf
      exact f37_b34_l hf hW hd k0 k1
    · rw [if_neg c17] at hf
      refine R_iload (i := 31) rfl rfl ?_
      refine R_bipush (i := 32) rfl ?_
      refine R_icmpge (i := 33) rfl (fun c25 => ?_) (fun c25 => ?_)
      · rw [if_pos c25] at hf
        refine R_iload (i := 54) rfl rfl ?_
        refine R_bipush (i := 55) rfl ?_
        refine R_icmpne (i := 56) rfl (fun c26 => ?_) (fun c26 => ?_)
        · rw [if_neg c26] at hf
          exact f37_b74_l hf hW hd k0 k1
        · rw [if_pos c26] at hf
          refine R_iload_n (i := 57) rfl rfl ?_
          refine R_iconst (i := 58) rfl ?_
          refine R_icmplt (i := 59) rfl (fun c39 => ?_) (fun c39 => ?_)
          · rw [if_pos c39] at hf
            exact f37_b74_l hf hW hd k0 k1
          · rw [if_neg c39] at hf
            refine R_aload_n (i := 60) rfl rfl ?_
            refine R_getF hW (i := 61) rfl rfl (Nat.le_of_ble_eq_true rfl) rfl ?_
            refine R_iload_n (i := 62) rfl rfl ?_
            refine R_iconst (i := 63) rfl ?_
            refine R_isub (i := 64) rfl ?_
            refine R_aload_n (i := 65) rfl rfl ?_
            refine R_getF hW (i := 66) rfl rfl (Nat.le_of_ble_eq_true rfl) rfl ?_
            refine R_iload_n (i := 67) rfl rfl ?_
            refine R_iconst (i := 68) rfl ?_
            refine R_isub (i := 69) rfl ?_
            have g40 := gd_some hf
            clear hf
            obtain ⟨g40, hf⟩ := g40
            refine R_iaload hW (i := 70) rfl rfl g40 ?_
            refine R_ineg (i := 71) rfl ?_
            have g41 := gd_some hf
            clear hf
            obtain ⟨g41, hf⟩ := g41
            refine R_iastore hW (i := 72) rfl rfl g41 (hg rfl hd) (fun h42 eh42 => ?_)
            replace hf := bnd_some eh42 hf
            have hW42 : WF 0 h42 := by rw [eh42]; exact hW
            refine R_goto (i := 73) rfl ?_
            refine R_weak [some (.ref 61), some (.int x1), some (.int s.1), some (.int s.2.1), none, none, none] ⟨Or.inr rfl, Or.inr rfl, Or.inr rfl, Or.inr rfl, Or.inl rfl, Or.inr rfl, Or.inr rfl, trivial⟩ ?_
            exact f37_b126_l hf hW42 hd k0 k1
      · rw [if_neg c25] at hf
        exact f37_b34_l hf hW hd k0 k1
set_option maxRecDepth 100000 in
set_option maxHeartbeats 4000000 in
theorem f37_l {d N : Nat} {p1 : Int32} {h : Hp} {Q : Option Value → Hp → Prop} {q : Int32 × Hp} (hf : f37 N p1 h = some q) (hW : WF 0 h) (hd : 5 ≤ d) (kk : WF 0 q.2 → Q (some (.int q.1)) q.2) : R 0 d 37 0 [some (.ref 61), some (.int p1), none, none, none, none, none] [] h Q := by
  unfold f37 at hf
  refine R_aload_n (i := 0) rfl rfl ?_
  refine R_getF hW (i := 1) rfl rfl (Nat.le_of_ble_eq_true rfl) rfl ?_
  refine R_iconst (i := 2) rfl ?_
  refine R_aload_n (i := 3) rfl rfl ?_
  refine R_getF hW (i := 4) rfl rfl (Nat.le_of_ble_eq_true rfl) rfl ?_
  refine R_getI hW (i := 5) rfl rfl (Nat.le_of_ble_eq_true rfl) ?_
  refine R_iastore hW (i := 6) rfl rfl (by decide) (hg rfl hd) (fun h1 eh1 => ?_)
  replace hf := bnd_some eh1 hf
  have hW1 : WF 0 h1 := by rw [eh1]; exact hW
  refine R_iconst (i := 7) rfl ?_
  refine R_istore_n [some (.ref 61), some (.int p1), some (.int (0 : Int32)), none, none, none, none] (i := 8) rfl rfl ?_
  refine R_aload_n (i := 9) rfl rfl ?_
  have zr2 := bind_some hf
  clear hf
  obtain ⟨r2, er2, hf⟩ := zr2
  refine R_getR hW1 (i := 10) rfl rfl (Nat.le_of_ble_eq_true rfl) er2 ?_
  have g3 := gd_some hf
  clear hf
  obtain ⟨g3, hf⟩ := g3
  have zr4 := bind_some hf
  clear hf
  obtain ⟨r4, er4, hf⟩ := zr4
  refine R_getR hW1 (i := 11) rfl g3 (Nat.le_of_ble_eq_true rfl) er4 ?_
  refine R_iload_n (i := 12) rfl rfl ?_
  have g5 := gd_some hf
  clear hf
  obtain ⟨g5, hf⟩ := g5
  refine R_iaload hW1 (i := 13) rfl g5.1 g5.2 ?_
  refine R_topi (fun v6 e6 => ?_)
  replace hf := bnd_some e6 hf
  refine R_istore_n [some (.ref 61), some (.int p1), some (.int (0 : Int32)), some (.int v6), none, none, none] (i := 14) rfl rfl ?_
  have zq43 := bind_some hf
  clear hf
  obtain ⟨q43, eq43, hf⟩ := zq43
  refine lp_link (P := fun u15 => WF 0 u15.2.2 → R 0 d 37 15 [some (.ref 61), some (.int p1), some (.int u15.1), some (.int u15.2.1), none, none, none] [] u15.2.2 Q) (E := fun e u15 => WF 0 u15.2.2 → R 0 d 37 128 [some (.ref 61), none, none, none, none, none, none] [] u15.2.2 Q) (fun s j s' hb k0 ke hWs => f37_l15_l hb hWs hd k0 (fun z y => ke 0 z y)) N ((0 : Int32), v6, h1) q43.1 q43.2 eq43 ?_ hW1
  intro hW43
  refine R_aload_n (i := 128) rfl rfl ?_
  refine R_getF hW43 (i := 129) rfl rfl (Nat.le_of_ble_eq_true rfl) rfl ?_
  refine R_iconst (i := 130) rfl ?_
  refine R_iaload hW43 (i := 131) rfl rfl (by decide) ?_
  have hz := Option.some.inj hf
  subst hz
  exact R_iret (i := 132) rfl (kk hW43)
set_option maxRecDepth 100000 in
set_option maxHeartbeats 4000000 in
theorem f34_l {d N : Nat} {p1 : Int32} {p2 : Int32} {h : Hp} {Q : Option Value → Hp → Prop} {q : Int32 × Hp} (hf : f34 N p1 p2 h = some q) (hW : WF 0 h) (hd : 6 ≤ d) (kk : WF 0 q.2 → Q (some (.int q.1)) q.2) : R 0 d 34 0 [some (.ref 61), some (.int p1), some (.int p2)] [] h Q := by
  obtain ⟨d, rfl⟩ : ∃ z, d = z + 1 := ⟨d - 1, by omega⟩
  unfold f34 at hf
  refine R_aload_n (i := 0) rfl rfl ?_
  have zr1 := bind_some hf
  clear hf
  obtain ⟨r1, er1, hf⟩ := zr1
  refine R_getR hW (i := 1) rfl rfl (Nat.le_of_ble_eq_true rfl) er1 ?_
  refine R_iconst (i := 2) rfl ?_
  have g2 := gd_some hf
  clear hf
  obtain ⟨g2, hf⟩ := g2
  have zq3 := bind_some hf
  clear hf
  obtain ⟨q3, eq3, hf⟩ := zq3
  refine R_callV (vs := [.int (0 : Int32)]) (st' := []) hW (i := 3) rfl rfl rfl (Nat.le_of_ble_eq_true rfl) g2 (Nat.le_of_ble_eq_true rfl) rfl (f78_l eq3 hW (hh rfl hd) ?_)
  refine R_ifne (i := 4) rfl (fun c4 => ?_) (fun c4 => ?_)
  · rw [if_neg c4] at hf
    refine R_aload_n (i := 7) rfl rfl ?_
    refine R_getF hW (i := 8) rfl rfl (Nat.le_of_ble_eq_true rfl) rfl ?_
    refine R_iconst (i := 9) rfl ?_
    refine R_iload_n (i := 10) rfl rfl ?_
    refine R_iastore hW (i := 11) rfl rfl (by decide) (hg rfl hd) (fun h5 eh5 => ?_)
    replace hf := bnd_some eh5 hf
    have hW5 : WF 0 h5 := by rw [eh5]; exact hW
    refine R_aload_n (i := 12) rfl rfl ?_
    refine R_getF hW5 (i := 13) rfl rfl (Nat.le_of_ble_eq_true rfl) rfl ?_
    refine R_iconst (i := 14) rfl ?_
    refine R_iload_n (i := 15) rfl rfl ?_
    refine R_iastore hW5 (i := 16) rfl rfl (by decide) (hg rfl hd) (fun h6 eh6 => ?_)
    replace hf := bnd_some eh6 hf
    have hW6 : WF 0 h6 := by rw [eh6]; exact hW5
    refine R_aload_n (i := 17) rfl rfl ?_
    refine R_iconst (i := 18) rfl ?_
    have zq7 := bind_some hf
    clear hf
    obtain ⟨q7, eq7, hf⟩ := zq7
    refine R_callV (vs := [.int (0 : Int32)]) (st' := []) hW6 (i := 19) rfl rfl rfl (Nat.le_of_ble_eq_true rfl) rfl (Nat.le_of_ble_eq_true rfl) rfl (f37_l eq7 hW6 (hh rfl hd) (fun hW7 => ?_))
    refine R_iconst (i := 20) rfl ?_
    refine R_mmax (i := 21) rfl (hg rfl hd) (Nat.le_of_ble_eq_true rfl) ?_
    refine R_iconst (i := 22) rfl ?_
    refine R_mmin (i := 23) rfl (hg rfl hd) (Nat.le_of_ble_eq_true rfl) ?_
    have hz := Option.some.inj hf
    subst hz
    exact R_iret (i := 24) rfl (kk hW7)
  · rw [if_pos c4] at hf
    refine R_iconst (i := 5) rfl ?_
    have hz := Option.some.inj hf
    subst hz
    exact R_iret (i := 6) rfl (kk hW)
set_option maxRecDepth 100000 in
set_option maxHeartbeats 4000000 in
theorem f35_l {d N : Nat} {p1 : Int32} {p2 : Int32} {h : Hp} {Q : Option Value → Hp → Prop} {q : Int32 × Hp} (hf : f35 N p1 p2 h = some q) (hW : WF 0 h) (hd : 6 ≤ d) (kk : WF 0 q.2 → Q (some (.int q.1)) q.2) : R 0 d 35 0 [some (.ref 61), some (.int p1), some (.int p2)] [] h Q := by
  obtain ⟨d, rfl⟩ : ∃ z, d = z + 1 := ⟨d - 1, by omega⟩
  unfold f35 at hf
  refine R_aload_n (i := 0) rfl rfl ?_
  have zr1 := bind_some hf
  clear hf
  obtain ⟨r1, er1, hf⟩ := zr1
  refine R_getR hW (i := 1) rfl rfl (Nat.le_of_ble_eq_true rfl) er1 ?_
  refine R_iconst (i := 2) rfl ?_
  have g2 := gd_some hf
  clear hf
  obtain ⟨g2, hf⟩ := g2
  have zq3 := bind_some hf
  clear hf
  obtain ⟨q3, eq3, hf⟩ := zq3
  refine R_callV (vs := [.int (1 : Int32)]) (st' := []) hW (i := 3) rfl rfl rfl (Nat.le_of_ble_eq_true rfl) g2 (Nat.le_of_ble_eq_true rfl) rfl (f78_l eq3 hW (hh rfl hd) ?_)
  refine R_ifne (i := 4) rfl (fun c4 => ?_) (fun c4 => ?_)
  · rw [if_neg c4] at hf
    refine R_aload_n (i := 7) rfl rfl ?_
    refine R_getF hW (i := 8) rfl rfl (Nat.le_of_ble_eq_true rfl) rfl ?_
    refine R_iconst (i := 9) rfl ?_
    refine R_iload_n (i := 10) rfl rfl ?_
    refine R_iastore hW (i := 11) rfl rfl (by decide) (hg rfl hd) (fun h5 eh5 => ?_)
    replace hf := bnd_some eh5 hf
    have hW5 : WF 0 h5 := by rw [eh5]; exact hW
    refine R_aload_n (i := 12) rfl rfl ?_
    refine R_getF hW5 (i := 13) rfl rfl (Nat.le_of_ble_eq_true rfl) rfl ?_
    refine R_bipush (i := 14) rfl ?_
    refine R_iload_n (i := 15) rfl rfl ?_
    refine R_iastore hW5 (i := 16) rfl rfl (by decide) (hg rfl hd) (fun h6 eh6 => ?_)
    replace hf := bnd_some eh6 hf
    have hW6 : WF 0 h6 := by rw [eh6]; exact hW5
    refine R_aload_n (i := 17) rfl rfl ?_
    refine R_iconst (i := 18) rfl ?_
    have zq7 := bind_some hf
    clear hf
    obtain ⟨q7, eq7, hf⟩ := zq7
    refine R_callV (vs := [.int (1 : Int32)]) (st' := []) hW6 (i := 19) rfl rfl rfl (Nat.le_of_ble_eq_true rfl) rfl (Nat.le_of_ble_eq_true rfl) rfl (f37_l eq7 hW6 (hh rfl hd) (fun hW7 => ?_))
    refine R_iconst (i := 20) rfl ?_
    refine R_mmax (i := 21) rfl (hg rfl hd) (Nat.le_of_ble_eq_true rfl) ?_
    refine R_bipush (i := 22) rfl ?_
    refine R_mmin (i := 23) rfl (hg rfl hd) (Nat.le_of_ble_eq_true rfl) ?_
    have hz := Option.some.inj hf
    subst hz
    exact R_iret (i := 24) rfl (kk hW7)
  · rw [if_pos c4] at hf
    refine R_iconst (i := 5) rfl ?_
    have hz := Option.some.inj hf
    subst hz
    exact R_iret (i := 6) rfl (kk hW)
set_option maxRecDepth 100000 in
set_option maxHeartbeats 4000000 in
theorem f36_b42_l {d N : Nat} {x2 : Int32} {x3 : Int32} {h : Hp} {Q : Option Value → Hp → Prop} {j : Nat} {s' : Int32 × Int32 × Hp} (hf : f36_b42 N x2 x3 h = some (j, s')) (hW : WF 0 h) (hd : 6 ≤ d) (k0 : j = 0 → WF 0 s'.2.2 → R 0 d 36 16 [some (.ref 61), none, some (.int s'.1), some (.int s'.2.1)] [] s'.2.2 Q) (k1 : j = 1 → WF 0 s'.2.2 → R 0 d 36 44 [none, none, some (.int s'.1), none] [] s'.2.2 Q) : R 0 d 36 42 [some (.ref 61), none, some (.int x2), some (.int x3)] [] h Q := by
  unfold f36_b42 at hf
  obtain ⟨v9, e9⟩ : ∃ z : Int32, z = (x3 + (1 : Int32)) := ⟨_, rfl⟩
  replace hf := bnd_some e9 hf
  refine R_iinc [some (.ref 61), none, some (.int x2), some (.int v9)] (i := 42) rfl rfl (by rw [← e9]; rfl) ?_
  refine R_goto (i := 43) rfl ?_
  obtain ⟨hj, hs⟩ := Prod.mk.inj (Option.some.inj hf)
  subst hj
  subst hs
  exact k0 rfl hW
set_option maxRecDepth 100000 in
set_option maxHeartbeats 4000000 in
theorem f36_l16_l {d N : Nat} {s : Int32 × Int32 × Hp} {Q : Option Value → Hp → Prop} {j : Nat} {s' : Int32 × Int32 × Hp} (hf : f36_l16 N s = some (j, s')) (hW : WF 0 s.2.2) (hd : 6 ≤ d) (k0 : j = 0 → WF 0 s'.2.2 → R 0 d 36 16 [some (.ref 61), none, some (.int s'.1), some (.int s'.2.1)] [] s'.2.2 Q) (k1 : j = 1 → WF 0 s'.2.2 → R 0 d 36 44 [none, none, some (.int s'.1), none] [] s'.2.2 Q) : R 0 d 36 16 [some (.ref 61), none, some (.int s.1), some (.int s.2.1)] [] s.2.2 Q := by
  obtain ⟨d, rfl⟩ : ∃ z, d = z + 1 := ⟨d - 1, by omega⟩
  unfold f36_l16 at hf
  refine R_iload_n (i := 16) rfl rfl ?_
  refine R_aload_n (i := 17) rfl rfl ?_
  refine R_getF hW (i := 18) rfl rfl (Nat.le_of_ble_eq_true rfl) rfl ?_
  refine R_getI hW (i := 19) rfl rfl (Nat.le_of_ble_eq_true rfl) ?_
  refine R_icmpge (i := 20) rfl (fun c6 => ?_) (fun c6 => ?_)
  · rw [if_pos c6] at hf
    obtain ⟨hj, hs⟩ := Prod.mk.inj (Option.some.inj hf)
    subst hj
    subst hs
    refine R_weak [none, none, some (.int s.1), none] ⟨Or.inl rfl, Or.inr rfl, Or.inr rfl, Or.inl rfl, trivial⟩ ?_
    exact k1 rfl hW
  · rw [if_neg c6] at hf
    refine R_aload_n (i := 21) rfl rfl ?_
    refine R_getF hW (i := 22) rfl rfl (Nat.le_of_ble_eq_true rfl) rfl ?_
    refine R_iconst (i := 23) rfl ?_
    refine R_iload_n (i := 24) rfl rfl ?_
    refine R_iastore hW (i := 25) rfl rfl (by decide) (hg rfl hd) (fun h7 eh7 => ?_)
    replace hf := bnd_some eh7 hf
    have hW7 : WF 0 h7 := by rw [eh7]; exact hW
    refine R_aload_n (i := 26) rfl rfl ?_
    refine R_getF hW7 (i := 27) rfl rfl (Nat.le_of_ble_eq_true rfl) rfl ?_
    refine R_getI hW7 (i := 28) rfl rfl (Nat.le_of_ble_eq_true rfl) ?_
    refine R_iload_n (i := 29) rfl rfl ?_
    refine R_call (vs := [.int (hI h7 41 3), .int s.2.1]) (st' := []) (i := 30) rfl (by decide) (by decide) rfl rfl (Nat.le_of_ble_eq_true rfl) rfl (f123_l (hh rfl hd) ?_)
    refine R_ifeq (i := 31) rfl (fun c8 => ?_) (fun c8 => ?_)
    · rw [if_pos c8] at hf
      exact f36_b42_l hf hW7 hd k0 k1
    · rw [if_neg c8] at hf
      refine R_aload_n (i := 32) rfl rfl ?_
      refine R_iconst (i := 33) rfl ?_
      have zq10 := bind_some hf
      clear hf
      obtain ⟨q10, eq10, hf⟩ := zq10
      refine R_callV (vs := [.int (2 : Int32)]) (st' := []) hW7 (i := 34) rfl rfl rfl (Nat.le_of_ble_eq_true rfl) rfl (Nat.le_of_ble_eq_true rfl) rfl (f37_l eq10 hW7 (hh rfl hd) (fun hW10 => ?_))
      refine R_ifne (i := 35) rfl (fun c11 => ?_) (fun c11 => ?_)
      · rw [if_neg c11] at hf
        exact f36_b42_l hf hW10 hd k0 k1
      · rw [if_pos c11] at hf
        refine R_iload_n (i := 36) rfl rfl ?_
        refine R_iconst (i := 37) rfl ?_
        refine R_iload_n (i := 38) rfl rfl ?_
        refine R_ishl (i := 39) rfl ?_
        refine R_ior (i := 40) rfl ?_
        refine R_topi (fun v12 e12 => ?_)
        replace hf := bnd_some e12 hf
        refine R_istore_n [some (.ref 61), none, some (.int v12), some (.int s.2.1)] (i := 41) rfl rfl ?_
        exact f36_b42_l hf hW10 hd k0 k1
set_option maxRecDepth 100000 in
set_option maxHeartbeats 4000000 in
theorem f36_l {d N : Nat} {p1 : Int32} {h : Hp} {Q : Option Value → Hp → Prop} {q : Int32 × Hp} (hf : f36 N p1 h = some q) (hW : WF 0 h) (hd : 6 ≤ d) (kk : WF 0 q.2 → Q (some (.int q.1)) q.2) : R 0 d 36 0 [some (.ref 61), some (.int p1), none, none] [] h Q := by
  obtain ⟨d, rfl⟩ : ∃ z, d = z + 1 := ⟨d - 1, by omega⟩
  unfold f36 at hf
  refine R_aload_n (i := 0) rfl rfl ?_
  have zr1 := bind_some hf
  clear hf
  obtain ⟨r1, er1, hf⟩ := zr1
  refine R_getR hW (i := 1) rfl rfl (Nat.le_of_ble_eq_true rfl) er1 ?_
  refine R_iconst (i := 2) rfl ?_
  have g2 := gd_some hf
  clear hf
  obtain ⟨g2, hf⟩ := g2
  have zq3 := bind_some hf
  clear hf
  obtain ⟨q3, eq3, hf⟩ := zq3
  refine R_callV (vs := [.int (2 : Int32)]) (st' := []) hW (i := 3) rfl rfl rfl (Nat.le_of_ble_eq_true rfl) g2 (Nat.le_of_ble_eq_true rfl) rfl (f78_l eq3 hW (hh rfl hd) ?_)
  refine R_ifne (i := 4) rfl (fun c4 => ?_) (fun c4 => ?_)
  · rw [if_neg c4] at hf
    refine R_iconst (i := 7) rfl ?_
    refine R_istore_n [some (.ref 61), some (.int p1), some (.int (0 : Int32)), none] (i := 8) rfl rfl ?_
    refine R_aload_n (i := 9) rfl rfl ?_
    refine R_getF hW (i := 10) rfl rfl (Nat.le_of_ble_eq_true rfl) rfl ?_
    refine R_iconst (i := 11) rfl ?_
    refine R_iload_n (i := 12) rfl rfl ?_
    refine R_iastore hW (i := 13) rfl rfl (by decide) (hg rfl hd) (fun h5 eh5 => ?_)
    replace hf := bnd_some eh5 hf
    have hW5 : WF 0 h5 := by rw [eh5]; exact hW
    refine R_iconst (i := 14) rfl ?_
    refine R_istore_n [some (.ref 61), some (.int p1), some (.int (0 : Int32)), some (.int (0 : Int32))] (i := 15) rfl rfl ?_
    refine R_weak [some (.ref 61), none, some (.int (0 : Int32)), some (.int (0 : Int32))] ⟨Or.inr rfl, Or.inl rfl, Or.inr rfl, Or.inr rfl, trivial⟩ ?_
    have zq13 := bind_some hf
    clear hf
    obtain ⟨q13, eq13, hf⟩ := zq13
    refine lp_link (P := fun u16 => WF 0 u16.2.2 → R 0 (d + 1) 36 16 [some (.ref 61), none, some (.int u16.1), some (.int u16.2.1)] [] u16.2.2 Q) (E := fun e u16 => WF 0 u16.2.2 → R 0 (d + 1) 36 44 [none, none, some (.int u16.1), none] [] u16.2.2 Q) (fun s j s' hb k0 ke hWs => f36_l16_l hb hWs hd k0 (fun z y => ke 0 z y)) N ((0 : Int32), (0 : Int32), h5) q13.1 q13.2 eq13 ?_ hW5
    intro hW13
    refine R_iload_n (i := 44) rfl rfl ?_
    have hz := Option.some.inj hf
    subst hz
    exact R_iret (i := 45) rfl (kk hW13)
  · rw [if_pos c4] at hf
    refine R_iconst (i := 5) rfl ?_
    have hz := Option.some.inj hf
    subst hz
    exact R_iret (i := 6) rfl (kk hW)
set_option maxRecDepth 100000 in
set_option maxHeartbeats 4000000 in
theorem f60_l {d N : Nat} {p1 : Int32} {p2 : Int32} {h : Hp} {Q : Option Value → Hp → Prop} {q : Int32} (hf : f60 N p1 p2 h = some q) (hW : WF 0 h) (hd : 0 ≤ d) (kk : Q (some (.int q)) h) : R 0 d 60 0 [some (.ref 41), some (.int p1), some (.int p2), none] [] h Q := by
  unfold f60 at hf
  refine R_iload_n (i := 0) rfl rfl ?_
  refine R_iload_n (i := 1) rfl rfl ?_
  refine R_iadd (i := 2) rfl ?_
  refine R_topi (fun v1 e1 => ?_)
  replace hf := bnd_some e1 hf
  refine R_istore_n [some (.ref 41), some (.int p1), some (.int p2), some (.int v1)] (i := 3) rfl rfl ?_
  refine R_iload_n (i := 4) rfl rfl ?_
  refine R_aload_n (i := 5) rfl rfl ?_
  refine R_getI hW (i := 6) rfl rfl (Nat.le_of_ble_eq_true rfl) ?_
  refine R_icmplt (i := 7) rfl (fun c2 => ?_) (fun c2 => ?_)
  · rw [if_pos c2] at hf
    refine R_iload_n (i := 13) rfl rfl ?_
    have hz := Option.some.inj hf
    subst hz
    exact R_iret (i := 14) rfl kk
  · rw [if_neg c2] at hf
    refine R_iload_n (i := 8) rfl rfl ?_
    refine R_aload_n (i := 9) rfl rfl ?_
    refine R_getI hW (i := 10) rfl rfl (Nat.le_of_ble_eq_true rfl) ?_
    refine R_isub (i := 11) rfl ?_
    refine R_goto (i := 12) rfl ?_
    have hz := Option.some.inj hf
    subst hz
    exact R_iret (i := 14) rfl kk
