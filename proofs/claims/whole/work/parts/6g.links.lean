set_option maxRecDepth 100000 in
set_option maxHeartbeats 4000000 in
theorem f187_l {d : Nat} {p0 : Int32} {p1 : Int64} {p3 : Int64} {h : Hp} {Q : Option Value → Hp → Prop} (hd : 0 ≤ d) (kk : Q (some (.int (f187 p0 p1 p3))) h) : R 1 d 187 0 [some (.int p0), some (.long p1), none, some (.long p3), none] [] h Q := by
  unfold f187 at kk
  refine R_iload_n (i := 0) rfl rfl ?_
  refine R_bipush (i := 1) rfl ?_
  refine R_icmpne (i := 2) rfl (fun c1 => ?_) (fun c1 => ?_)
  · rw [if_neg c1] at kk
    refine R_iload_n (i := 11) rfl rfl ?_
    refine R_bipush (i := 12) rfl ?_
    refine R_icmpne (i := 13) rfl (fun c2 => ?_) (fun c2 => ?_)
    · rw [if_neg c2] at kk
      refine R_iload_n (i := 22) rfl rfl ?_
      refine R_bipush (i := 23) rfl ?_
      refine R_icmpne (i := 24) rfl (fun c3 => ?_) (fun c3 => ?_)
      · rw [if_neg c3] at kk
        refine R_iload_n (i := 33) rfl rfl ?_
        refine R_bipush (i := 34) rfl ?_
        refine R_icmpne (i := 35) rfl (fun c4 => ?_) (fun c4 => ?_)
        · rw [if_neg c4] at kk
          refine R_iload_n (i := 44) rfl rfl ?_
          refine R_bipush (i := 45) rfl ?_
          refine R_icmpne (i := 46) rfl (fun c5 => ?_) (fun c5 => ?_)
          · rw [if_neg c5] at kk
            refine R_lload_n (i := 55) rfl rfl ?_
            refine R_lload_n (i := 56) rfl rfl ?_
            refine R_lcmp (i := 57) rfl ?_
            refine R_ifeq (i := 58) rfl (fun c6 => ?_) (fun c6 => ?_)
            · rw [if_pos c6] at kk
              refine R_iconst (i := 61) rfl ?_
              exact R_zret (r := 0) (i := 62) rfl (by decide) kk
            · rw [if_neg c6] at kk
              refine R_iconst (i := 59) rfl ?_
              refine R_goto (i := 60) rfl ?_
              exact R_zret (r := 1) (i := 62) rfl (by decide) kk
          · rw [if_pos c5] at kk
            refine R_lload_n (i := 47) rfl rfl ?_
            refine R_lload_n (i := 48) rfl rfl ?_
            refine R_lcmp (i := 49) rfl ?_
            refine R_ifne (i := 50) rfl (fun c7 => ?_) (fun c7 => ?_)
            · rw [if_neg c7] at kk
              refine R_iconst (i := 53) rfl ?_
              refine R_goto (i := 54) rfl ?_
              exact R_zret (r := 0) (i := 62) rfl (by decide) kk
            · rw [if_pos c7] at kk
              refine R_iconst (i := 51) rfl ?_
              refine R_goto (i := 52) rfl ?_
              exact R_zret (r := 1) (i := 62) rfl (by decide) kk
        · rw [if_pos c4] at kk
          refine R_lload_n (i := 36) rfl rfl ?_
          refine R_lload_n (i := 37) rfl rfl ?_
          refine R_lcmp (i := 38) rfl ?_
          refine R_iflt (i := 39) rfl (fun c8 => ?_) (fun c8 => ?_)
          · rw [if_pos c8] at kk
            refine R_iconst (i := 42) rfl ?_
            refine R_goto (i := 43) rfl ?_
            exact R_zret (r := 0) (i := 62) rfl (by decide) kk
          · rw [if_neg c8] at kk
            refine R_iconst (i := 40) rfl ?_
            refine R_goto (i := 41) rfl ?_
            exact R_zret (r := 1) (i := 62) rfl (by decide) kk
      · rw [if_pos c3] at kk
        refine R_lload_n (i := 25) rfl rfl ?_
        refine R_lload_n (i := 26) rfl rfl ?_
        refine R_lcmp (i := 27) rfl ?_
        refine R_ifle (i := 28) rfl (fun c9 => ?_) (fun c9 => ?_)
        · rw [if_pos c9] at kk
          refine R_iconst (i := 31) rfl ?_
          refine R_goto (i := 32) rfl ?_
          exact R_zret (r := 0) (i := 62) rfl (by decide) kk
        · rw [if_neg c9] at kk
          refine R_iconst (i := 29) rfl ?_
          refine R_goto (i := 30) rfl ?_
          exact R_zret (r := 1) (i := 62) rfl (by decide) kk
    · rw [if_pos c2] at kk
      refine R_lload_n (i := 14) rfl rfl ?_
      refine R_lload_n (i := 15) rfl rfl ?_
      refine R_lcmp (i := 16) rfl ?_
      refine R_ifgt (i := 17) rfl (fun c10 => ?_) (fun c10 => ?_)
      · rw [if_pos c10] at kk
        refine R_iconst (i := 20) rfl ?_
        refine R_goto (i := 21) rfl ?_
        exact R_zret (r := 0) (i := 62) rfl (by decide) kk
      · rw [if_neg c10] at kk
        refine R_iconst (i := 18) rfl ?_
        refine R_goto (i := 19) rfl ?_
        exact R_zret (r := 1) (i := 62) rfl (by decide) kk
  · rw [if_pos c1] at kk
    refine R_lload_n (i := 3) rfl rfl ?_
    refine R_lload_n (i := 4) rfl rfl ?_
    refine R_lcmp (i := 5) rfl ?_
    refine R_ifge (i := 6) rfl (fun c11 => ?_) (fun c11 => ?_)
    · rw [if_pos c11] at kk
      refine R_iconst (i := 9) rfl ?_
      refine R_goto (i := 10) rfl ?_
      exact R_zret (r := 0) (i := 62) rfl (by decide) kk
    · rw [if_neg c11] at kk
      refine R_iconst (i := 7) rfl ?_
      refine R_goto (i := 8) rfl ?_
      exact R_zret (r := 1) (i := 62) rfl (by decide) kk
set_option maxRecDepth 100000 in
set_option maxHeartbeats 4000000 in
theorem f185_l {d : Nat} {p0 : Int64} {h : Hp} {Q : Option Value → Hp → Prop} (hd : 0 ≤ d) (kk : Q (some (.long (f185 p0))) h) : R 1 d 185 0 [some (.long p0), none] [] h Q := by
  unfold f185 at kk
  refine R_lload_n (i := 0) rfl rfl ?_
  refine R_ldc2 (v := (1000000)) (i := 1) rfl (by decide) ?_
  refine R_lcmp (i := 2) rfl ?_
  refine R_ifle (i := 3) rfl (fun c1 => ?_) (fun c1 => ?_)
  · rw [if_pos c1] at kk
    refine R_lload_n (i := 6) rfl rfl ?_
    refine R_ldc2 (v := (-1000000)) (i := 7) rfl (by decide) ?_
    refine R_lcmp (i := 8) rfl ?_
    refine R_ifge (i := 9) rfl (fun c2 => ?_) (fun c2 => ?_)
    · rw [if_pos c2] at kk
      refine R_lload_n (i := 12) rfl rfl ?_
      exact R_lret (i := 13) rfl kk
    · rw [if_neg c2] at kk
      refine R_ldc2 (v := (-1000000)) (i := 10) rfl (by decide) ?_
      refine R_goto (i := 11) rfl ?_
      exact R_lret (i := 13) rfl kk
  · rw [if_neg c1] at kk
    refine R_ldc2 (v := (1000000)) (i := 4) rfl (by decide) ?_
    refine R_goto (i := 5) rfl ?_
    exact R_lret (i := 13) rfl kk
set_option maxRecDepth 100000 in
set_option maxHeartbeats 4000000 in
theorem f186_l {d N : Nat} {p0 : Int32} {p1 : Int64} {p3 : Int64} {h : Hp} {Q : Option Value → Hp → Prop} {q : Int64} (hf : f186 N p0 p1 p3 h = some q) (hW : WF 1 h) (hd : 1 ≤ d) (kk : Q (some (.long q)) h) : R 1 d 186 0 [some (.int p0), some (.long p1), none, some (.long p3), none] [] h Q := by
  obtain ⟨d, rfl⟩ : ∃ z, d = z + 1 := ⟨d - 1, by omega⟩
  unfold f186 at hf
  refine R_iload_n (i := 0) rfl rfl ?_
  refine R_switch (i := 1) rfl ?_
  refine R_swc (lo := 3) (lo' := 4) (by decide) (fun c1 => ?_) (fun c1 => ?_)
  · rw [if_pos c1] at hf
    refine R_lload_n (i := 2) rfl rfl ?_
    refine R_lload_n (i := 3) rfl rfl ?_
    refine R_ladd (i := 4) rfl ?_
    refine R_call (vs := [.long (p1 + p3)]) (st' := []) (i := 5) rfl (by decide) (by decide) rfl rfl (Nat.le_of_ble_eq_true rfl) rfl (f185_l (hh rfl hd) ?_)
    have hz := Option.some.inj hf
    subst hz
    exact R_lret (i := 6) rfl kk
  rw [if_neg c1] at hf
  refine R_swc (lo := 4) (lo' := 5) (by decide) (fun c2 => ?_) (fun c2 => ?_)
  · rw [if_pos c2] at hf
    refine R_lload_n (i := 7) rfl rfl ?_
    refine R_lload_n (i := 8) rfl rfl ?_
    refine R_lsub (i := 9) rfl ?_
    refine R_call (vs := [.long (p1 - p3)]) (st' := []) (i := 10) rfl (by decide) (by decide) rfl rfl (Nat.le_of_ble_eq_true rfl) rfl (f185_l (hh rfl hd) ?_)
    have hz := Option.some.inj hf
    subst hz
    exact R_lret (i := 11) rfl kk
  rw [if_neg c2] at hf
  refine R_swc (lo := 5) (lo' := 6) (by decide) (fun c3 => ?_) (fun c3 => ?_)
  · rw [if_pos c3] at hf
    refine R_lload_n (i := 12) rfl rfl ?_
    refine R_lload_n (i := 13) rfl rfl ?_
    refine R_lmul (i := 14) rfl ?_
    refine R_call (vs := [.long (p1 * p3)]) (st' := []) (i := 15) rfl (by decide) (by decide) rfl rfl (Nat.le_of_ble_eq_true rfl) rfl (f185_l (hh rfl hd) ?_)
    have hz := Option.some.inj hf
    subst hz
    exact R_lret (i := 16) rfl kk
  rw [if_neg c3] at hf
  refine R_swn ?_
  refine R_lload_n (i := 17) rfl rfl ?_
  refine R_lconst (v := (0)) (i := 18) rfl (by decide) ?_
  refine R_lcmp (i := 19) rfl ?_
  refine R_ifne (i := 20) rfl (fun c4 => ?_) (fun c4 => ?_)
  · rw [if_neg c4] at hf
    refine R_lload_n (i := 23) rfl rfl ?_
    refine R_lload_n (i := 24) rfl rfl ?_
    have g5 := gd_some hf
    clear hf
    obtain ⟨g5, hf⟩ := g5
    refine R_ldiv (i := 25) rfl g5 ?_
    refine R_call (vs := [.long (p1 / p3)]) (st' := []) (i := 26) rfl (by decide) (by decide) rfl rfl (Nat.le_of_ble_eq_true rfl) rfl (f185_l (hh rfl hd) ?_)
    have hz := Option.some.inj hf
    subst hz
    exact R_lret (i := 27) rfl kk
  · rw [if_pos c4] at hf
    refine R_lconst (v := (0)) (i := 21) rfl (by decide) ?_
    refine R_goto (i := 22) rfl ?_
    have hz := Option.some.inj hf
    subst hz
    exact R_lret (i := 27) rfl kk
set_option maxRecDepth 100000 in
set_option maxHeartbeats 4000000 in
theorem f188_b203_l {d N : Nat} {x2 : Int32} {x3 : Int32} {x4 : Int32} {x5 : Int32} {x6 : Int32} {h : Hp} {Q : Option Value → Hp → Prop} {j : Nat} {s' : Int32 × Int32 × Int32 × Hp} (hf : f188_b203 N x2 x3 x4 x5 x6 h = some (j, s')) (hW : WF 1 h) (hd : 5 ≤ d) (k0 : j = 0 → WF 1 s'.2.2.2 → R 1 d 188 33 [some (.ref 0), none, some (.int x2), some (.int x3), some (.int s'.1), some (.int s'.2.1), some (.int s'.2.2.1), none, none] [] s'.2.2.2 Q) (k1 : j = 1 → WF 1 s'.2.2.2 → R 1 d 188 205 [none, none, none, none, none, none, none, none, none] [] s'.2.2.2 Q) : R 1 d 188 203 [some (.ref 0), none, some (.int x2), some (.int x3), some (.int x4), some (.int x5), some (.int x6), none, none] [] h Q := by
  unfold f188_b203 at hf
  obtain ⟨v22, e22⟩ : ∃ z : Int32, z = (x6 + (1 : Int32)) := ⟨_, rfl⟩
  replace hf := bnd_some e22 hf
  refine R_iinc [some (.ref 0), none, some (.int x2), some (.int x3), some (.int x4), some (.int x5), some (.int v22), none, none] (i := 203) rfl rfl (by rw [← e22]; rfl) ?_
  refine R_goto (i := 204) rfl ?_
  obtain ⟨hj, hs⟩ := Prod.mk.inj (Option.some.inj hf)
  subst hj
  subst hs
  exact k0 rfl hW
set_option maxRecDepth 100000 in
set_option maxHeartbeats 4000000 in
theorem f188_b202_l {d N : Nat} {x2 : Int32} {x3 : Int32} {x4 : Int32} {x5 : Int32} {x6 : Int32} {t0 : Int32} {t1 : Int32} {h : Hp} {Q : Option Value → Hp → Prop} {j : Nat} {s' : Int32 × Int32 × Int32 × Hp} (hf : f188_b202 N x2 x3 x4 x5 x6 t0 t1 h = some (j, s')) (hW : WF 1 h) (hd : 5 ≤ d) (k0 : j = 0 → WF 1 s'.2.2.2 → R 1 d 188 33 [some (.ref 0), none, some (.int x2), some (.int x3), some (.int s'.1), some (.int s'.2.1), some (.int s'.2.2.1), none, none] [] s'.2.2.2 Q) (k1 : j = 1 → WF 1 s'.2.2.2 → R 1 d 188 205 [none, none, none, none, none, none, none, none, none] [] s'.2.2.2 Q) : R 1 d 188 202 [some (.ref 0), none, some (.int x2), some (.int x3), some (.int x4), some (.int x5), some (.int x6), none, none] [.int t0, .int t1, .ref 8] h Q := by
  unfold f188_b202 at hf
  have g20 := gd_some hf
  clear hf
  obtain ⟨g20, hf⟩ := g20
  refine R_zastore hW (i := 202) rfl rfl g20 (hg rfl hd) (fun h21 eh21 => ?_)
  replace hf := bnd_some eh21 hf
  have hW21 : WF 1 h21 := by rw [eh21]; exact hW
  exact f188_b203_l hf hW21 hd k0 k1
set_option maxRecDepth 100000 in
set_option maxHeartbeats 4000000 in
theorem f188_b199_l {d N : Nat} {x2 : Int32} {x3 : Int32} {x4 : Int32} {x5 : Int32} {x6 : Int32} {t0 : Int32} {h : Hp} {Q : Option Value → Hp → Prop} {j : Nat} {s' : Int32 × Int32 × Int32 × Hp} (hf : f188_b199 N x2 x3 x4 x5 x6 t0 h = some (j, s')) (hW : WF 1 h) (hd : 5 ≤ d) (k0 : j = 0 → WF 1 s'.2.2.2 → R 1 d 188 33 [some (.ref 0), none, some (.int x2), some (.int x3), some (.int s'.1), some (.int s'.2.1), some (.int s'.2.2.1), none, none] [] s'.2.2.2 Q) (k1 : j = 1 → WF 1 s'.2.2.2 → R 1 d 188 205 [none, none, none, none, none, none, none, none, none] [] s'.2.2.2 Q) : R 1 d 188 199 [some (.ref 0), none, some (.int x2), some (.int x3), some (.int x4), some (.int x5), some (.int x6), none, none] [.int t0, .ref 8] h Q := by
  unfold f188_b199 at hf
  refine R_iconst (i := 199) rfl ?_
  refine R_goto (i := 200) rfl ?_
  exact f188_b202_l hf hW hd k0 k1
set_option maxRecDepth 100000 in
set_option maxHeartbeats 4000000 in
theorem f188_b185_l {d N : Nat} {x2 : Int32} {x3 : Int32} {x4 : Int32} {x5 : Int32} {x6 : Int32} {t0 : Int32} {h : Hp} {Q : Option Value → Hp → Prop} {j : Nat} {s' : Int32 × Int32 × Int32 × Hp} (hf : f188_b185 N x2 x3 x4 x5 x6 t0 h = some (j, s')) (hW : WF 1 h) (hd : 5 ≤ d) (k0 : j = 0 → WF 1 s'.2.2.2 → R 1 d 188 33 [some (.ref 0), none, some (.int x2), some (.int x3), some (.int s'.1), some (.int s'.2.1), some (.int s'.2.2.1), none, none] [] s'.2.2.2 Q) (k1 : j = 1 → WF 1 s'.2.2.2 → R 1 d 188 205 [none, none, none, none, none, none, none, none, none] [] s'.2.2.2 Q) : R 1 d 188 185 [some (.ref 0), none, some (.int x2), some (.int x3), some (.int x4), some (.int x5), some (.int x6), none, none] [.int t0, .ref 8] h Q := by
  unfold f188_b185 at hf
  refine R_iconst (i := 185) rfl ?_
  refine R_goto (i := 186) rfl ?_
  exact f188_b202_l hf hW hd k0 k1
set_option maxRecDepth 100000 in
set_option maxHeartbeats 4000000 in
theorem f188_b160_l {d N : Nat} {x2 : Int32} {x3 : Int32} {x4 : Int32} {x5 : Int32} {x6 : Int32} {t0 : Int32} {t1 : Int32} {h : Hp} {Q : Option Value → Hp → Prop} {j : Nat} {s' : Int32 × Int32 × Int32 × Hp} (hf : f188_b160 N x2 x3 x4 x5 x6 t0 t1 h = some (j, s')) (hW : WF 1 h) (hd : 5 ≤ d) (k0 : j = 0 → WF 1 s'.2.2.2 → R 1 d 188 33 [some (.ref 0), none, some (.int x2), some (.int x3), some (.int s'.1), some (.int s'.2.1), some (.int s'.2.2.1), none, none] [] s'.2.2.2 Q) (k1 : j = 1 → WF 1 s'.2.2.2 → R 1 d 188 205 [none, none, none, none, none, none, none, none, none] [] s'.2.2.2 Q) : R 1 d 188 160 [some (.ref 0), none, some (.int x2), some (.int x3), some (.int x4), some (.int x5), some (.int x6), none, none] [.int t0, .int t1, .ref 8] h Q := by
  unfold f188_b160 at hf
  have g31 := gd_some hf
  clear hf
  obtain ⟨g31, hf⟩ := g31
  refine R_zastore hW (i := 160) rfl rfl g31 (hg rfl hd) (fun h32 eh32 => ?_)
  replace hf := bnd_some eh32 hf
  have hW32 : WF 1 h32 := by rw [eh32]; exact hW
  refine R_goto (i := 161) rfl ?_
  exact f188_b203_l hf hW32 hd k0 k1
set_option maxRecDepth 100000 in
set_option maxHeartbeats 4000000 in
theorem f188_b77_l {d N : Nat} {x2 : Int32} {x3 : Int32} {x4 : Int32} {x5 : Int32} {x6 : Int32} {t0 : Int64} {t1 : Int32} {h : Hp} {Q : Option Value → Hp → Prop} {j : Nat} {s' : Int32 × Int32 × Int32 × Hp} (hf : f188_b77 N x2 x3 x4 x5 x6 t0 t1 h = some (j, s')) (hW : WF 1 h) (hd : 5 ≤ d) (k0 : j = 0 → WF 1 s'.2.2.2 → R 1 d 188 33 [some (.ref 0), none, some (.int x2), some (.int x3), some (.int s'.1), some (.int s'.2.1), some (.int s'.2.2.1), none, none] [] s'.2.2.2 Q) (k1 : j = 1 → WF 1 s'.2.2.2 → R 1 d 188 205 [none, none, none, none, none, none, none, none, none] [] s'.2.2.2 Q) : R 1 d 188 77 [some (.ref 0), none, some (.int x2), some (.int x3), some (.int x4), some (.int x5), some (.int x6), none, none] [.long t0, .int t1, .ref 7] h Q := by
  unfold f188_b77 at hf
  have g50 := gd_some hf
  clear hf
  obtain ⟨g50, hf⟩ := g50
  refine R_lastore hW (i := 77) rfl rfl g50 (hg rfl hd) (fun h51 eh51 => ?_)
  replace hf := bnd_some eh51 hf
  have hW51 : WF 1 h51 := by rw [eh51]; exact hW
  obtain ⟨v52, e52⟩ : ∃ z : Int32, z = (x4 + (1 : Int32)) := ⟨_, rfl⟩
  replace hf := bnd_some e52 hf
  refine R_iinc [some (.ref 0), none, some (.int x2), some (.int x3), some (.int v52), some (.int x5), some (.int x6), none, none] (i := 78) rfl rfl (by rw [← e52]; rfl) ?_
  refine R_goto (i := 79) rfl ?_
  exact f188_b203_l hf hW51 hd k0 k1
set_option maxRecDepth 100000 in
set_option maxHeartbeats 4000000 in
theorem f188_l33_l {d N : Nat} {x2 : Int32} {x3 : Int32} {s : Int32 × Int32 × Int32 × Hp} {Q : Option Value → Hp → Prop} {j : Nat} {s' : Int32 × Int32 × Int32 × Hp} (hf : f188_l33 N x2 x3 s = some (j, s')) (hW : WF 1 s.2.2.2) (hd : 5 ≤ d) (k0 : j = 0 → WF 1 s'.2.2.2 → R 1 d 188 33 [some (.ref 0), none, some (.int x2), some (.int x3), some (.int s'.1), some (.int s'.2.1), some (.int s'.2.2.1), none, none] [] s'.2.2.2 Q) (k1 : j = 1 → WF 1 s'.2.2.2 → R 1 d 188 205 [none, none, none, none, none, none, none, none, none] [] s'.2.2.2 Q) : R 1 d 188 33 [some (.ref 0), none, some (.int x2), some (.int x3), some (.int s.1), some (.int s.2.1), some (.int s.2.2.1), none, none] [] s.2.2.2 Q := by
  obtain ⟨d, rfl⟩ : ∃ z, d = z + 1 := ⟨d - 1, by omega⟩
  unfold f188_l33 at hf
  refine R_iload (i := 33) rfl rfl ?_
  refine R_aload_n (i := 34) rfl rfl ?_
  refine R_getF hW (i := 35) rfl rfl (Nat.le_of_ble_eq_true rfl) rfl ?_
  refine R_iload_n (i := 36) rfl rfl ?_
  refine R_iconst (i := 37) rfl ?_
  refine R_iadd (i := 38) rfl ?_
  have g5 := gd_some hf
  clear hf
  obtain ⟨g5, hf⟩ := g5
  refine R_iaload hW (i := 39) rfl rfl g5 ?_
  refine R_icmpge (i := 40) rfl (fun c6 => ?_) (fun c6 => ?_)
  · rw [if_pos c6] at hf
    obtain ⟨hj, hs⟩ := Prod.mk.inj (Option.some.inj hf)
    subst hj
    subst hs
    refine R_weak [none, none, none, none, none, none, none, none, none] ⟨Or.inl rfl, Or.inr rfl, Or.inl rfl, Or.inl rfl, Or.inl rfl, Or.inl rfl, Or.inl rfl, Or.inr rfl, Or.inr rfl, trivial⟩ ?_
    exact k1 rfl hW
  · rw [if_neg c6] at hf
    refine R_aload_n (i := 41) rfl rfl ?_
    refine R_getF hW (i := 42) rfl rfl (Nat.le_of_ble_eq_true rfl) rfl ?_
    refine R_iload_n (i := 43) rfl rfl ?_
    refine R_iconst (i := 44) rfl ?_
    refine R_iload (i := 45) rfl rfl ?_
    refine R_imul (i := 46) rfl ?_
    refine R_iadd (i := 47) rfl ?_
    have g7 := gd_some hf
    clear hf
    obtain ⟨g7, hf⟩ := g7
    refine R_iaload hW (i := 48) rfl rfl g7 ?_
    refine R_topi (fun v8 e8 => ?_)
    replace hf := bnd_some e8 hf
    refine R_istore [some (.ref 0), none, some (.int x2), some (.int x3), some (.int s.1), some (.int s.2.1), some (.int s.2.2.1), some (.int v8), none] (i := 49) rfl rfl ?_
    refine R_aload_n (i := 50) rfl rfl ?_
    refine R_getF hW (i := 51) rfl rfl (Nat.le_of_ble_eq_true rfl) rfl ?_
    refine R_iload_n (i := 52) rfl rfl ?_
    refine R_iconst (i := 53) rfl ?_
    refine R_iload (i := 54) rfl rfl ?_
    refine R_imul (i := 55) rfl ?_
    refine R_iadd (i := 56) rfl ?_
    refine R_iconst (i := 57) rfl ?_
    refine R_iadd (i := 58) rfl ?_
    have g9 := gd_some hf
    clear hf
    obtain ⟨g9, hf⟩ := g9
    refine R_iaload hW (i := 59) rfl rfl g9 ?_
    refine R_topi (fun v10 e10 => ?_)
    replace hf := bnd_some e10 hf
    refine R_istore [some (.ref 0), none, some (.int x2), some (.int x3), some (.int s.1), some (.int s.2.1), some (.int s.2.2.1), some (.int v8), some (.int v10)] (i := 60) rfl rfl ?_
    refine R_iload (i := 61) rfl rfl ?_
    refine R_iconst (i := 62) rfl ?_
    refine R_icmpgt (i := 63) rfl (fun c11 => ?_) (fun c11 => ?_)
    · rw [if_pos c11] at hf
      refine R_iload (i := 80) rfl rfl ?_
      refine R_iconst (i := 81) rfl ?_
      refine R_icmpne (i := 82) rfl (fun c12 => ?_) (fun c12 => ?_)
      · rw [if_neg c12] at hf
        refine R_iload (i := 97) rfl rfl ?_
        refine R_bipush (i := 98) rfl ?_
        refine R_icmpge (i := 99) rfl (fun c13 => ?_) (fun c13 => ?_)
        · rw [if_pos c13] at hf
          refine R_iload (i := 120) rfl rfl ?_
          refine R_bipush (i := 121) rfl ?_
          refine R_icmpge (i := 122) rfl (fun c14 => ?_) (fun c14 => ?_)
          · rw [if_pos c14] at hf
            refine R_iload (i := 142) rfl rfl ?_
            refine R_bipush (i := 143) rfl ?_
            refine R_icmpne (i := 144) rfl (fun c15 => ?_) (fun c15 => ?_)
            · rw [if_neg c15] at hf
              obtain ⟨v16, e16⟩ : ∃ z : Int32, z = (s.2.1 + (-1 : Int32)) := ⟨_, rfl⟩
              replace hf := bnd_some e16 hf
              refine R_iinc [some (.ref 0), none, some (.int x2), some (.int x3), some (.int s.1), some (.int v16), some (.int s.2.2.1), some (.int v8), some (.int v10)] (i := 162) rfl rfl (by rw [← e16]; rfl) ?_
              refine R_aload_n (i := 163) rfl rfl ?_
              refine R_getF hW (i := 164) rfl rfl (Nat.le_of_ble_eq_true rfl) rfl ?_
              refine R_iload (i := 165) rfl rfl ?_
              refine R_iconst (i := 166) rfl ?_
              refine R_isub (i := 167) rfl ?_
              refine R_iload (i := 168) rfl rfl ?_
              refine R_bipush (i := 169) rfl ?_
              refine R_icmpne (i := 170) rfl (fun c17 => ?_) (fun c17 => ?_)
              · rw [if_neg c17] at hf
                refine R_aload_n (i := 187) rfl rfl ?_
                refine R_getF hW (i := 188) rfl rfl (Nat.le_of_ble_eq_true rfl) rfl ?_
                refine R_iload (i := 189) rfl rfl ?_
                refine R_iconst (i := 190) rfl ?_
                refine R_isub (i := 191) rfl ?_
                have g18 := gd_some hf
                clear hf
                obtain ⟨g18, hf⟩ := g18
                refine R_zaload hW (i := 192) rfl rfl g18 ?_
                refine R_ifne (i := 193) rfl (fun c19 => ?_) (fun c19 => ?_)
                · rw [if_neg c19] at hf
                  refine R_weak [some (.ref 0), none, some (.int x2), some (.int x3), some (.int s.1), some (.int v16), some (.int s.2.2.1), none, none] ⟨Or.inr rfl, Or.inr rfl, Or.inr rfl, Or.inr rfl, Or.inr rfl, Or.inr rfl, Or.inr rfl, Or.inl rfl, Or.inl rfl, trivial⟩ ?_
                  exact f188_b199_l hf hW hd k0 k1
                · rw [if_pos c19] at hf
                  refine R_aload_n (i := 194) rfl rfl ?_
                  refine R_getF hW (i := 195) rfl rfl (Nat.le_of_ble_eq_true rfl) rfl ?_
                  refine R_iload (i := 196) rfl rfl ?_
                  have g23 := gd_some hf
                  clear hf
                  obtain ⟨g23, hf⟩ := g23
                  refine R_zaload hW (i := 197) rfl rfl g23 ?_
                  refine R_ifeq (i := 198) rfl (fun c24 => ?_) (fun c24 => ?_)
                  · rw [if_pos c24] at hf
                    refine R_iconst (i := 201) rfl ?_
                    refine R_weak [some (.ref 0), none, some (.int x2), some (.int x3), some (.int s.1), some (.int v16), some (.int s.2.2.1), none, none] ⟨Or.inr rfl, Or.inr rfl, Or.inr rfl, Or.inr rfl, Or.inr rfl, Or.inr rfl, Or.inr rfl, Or.inl rfl, Or.inl rfl, trivial⟩ ?_
                    exact f188_b202_l hf hW hd k0 k1
                  · rw [if_neg c24] at hf
                    refine R_weak [some (.ref 0), none, some (.int x2), some (.int x3), some (.int s.1), some (.int v16), some (.int s.2.2.1), none, none] ⟨Or.inr rfl, Or.inr rfl, Or.inr rfl, Or.inr rfl, Or.inr rfl, Or.inr rfl, Or.inr rfl, Or.inl rfl, Or.inl rfl, trivial⟩ ?_
                    exact f188_b199_l hf hW hd k0 k1
              · rw [if_pos c17] at hf
                refine R_aload_n (i := 171) rfl rfl ?_
                refine R_getF hW (i := 172) rfl rfl (Nat.le_of_ble_eq_true rfl) rfl ?_
                refine R_iload (i := 173) rfl rfl ?_
                refine R_iconst (i := 174) rfl ?_
                refine R_isub (i := 175) rfl ?_
                have g25 := gd_some hf
                clear hf
                obtain ⟨g25, hf⟩ := g25
                refine R_zaload hW (i := 176) rfl rfl g25 ?_
                refine R_ifeq (i := 177) rfl (fun c26 => ?_) (fun c26 => ?_)
                · rw [if_pos c26] at hf
                  refine R_weak [some (.ref 0), none, some (.int x2), some (.int x3), some (.int s.1), some (.int v16), some (.int s.2.2.1), none, none] ⟨Or.inr rfl, Or.inr rfl, Or.inr rfl, Or.inr rfl, Or.inr rfl, Or.inr rfl, Or.inr rfl, Or.inl rfl, Or.inl rfl, trivial⟩ ?_
                  exact f188_b185_l hf hW hd k0 k1
                · rw [if_neg c26] at hf
                  refine R_aload_n (i := 178) rfl rfl ?_
                  refine R_getF hW (i := 179) rfl rfl (Nat.le_of_ble_eq_true rfl) rfl ?_
                  refine R_iload (i := 180) rfl rfl ?_
                  have g27 := gd_some hf
                  clear hf
                  obtain ⟨g27, hf⟩ := g27
                  refine R_zaload hW (i := 181) rfl rfl g27 ?_
                  refine R_ifeq (i := 182) rfl (fun c28 => ?_) (fun c28 => ?_)
                  · rw [if_pos c28] at hf
                    refine R_weak [some (.ref 0), none, some (.int x2), some (.int x3), some (.int s.1), some (.int v16), some (.int s.2.2.1), none, none] ⟨Or.inr rfl, Or.inr rfl, Or.inr rfl, Or.inr rfl, Or.inr rfl, Or.inr rfl, Or.inr rfl, Or.inl rfl, Or.inl rfl, trivial⟩ ?_
                    exact f188_b185_l hf hW hd k0 k1
                  · rw [if_neg c28] at hf
                    refine R_iconst (i := 183) rfl ?_
                    refine R_goto (i := 184) rfl ?_
                    refine R_weak [some (.ref 0), none, some (.int x2), some (.int x3), some (.int s.1), some (.int v16), some (.int s.2.2.1), none, none] ⟨Or.inr rfl, Or.inr rfl, Or.inr rfl, Or.inr rfl, Or.inr rfl, Or.inr rfl, Or.inr rfl, Or.inl rfl, Or.inl rfl, trivial⟩ ?_
                    exact f188_b202_l hf hW hd k0 k1
            · rw [if_pos c15] at hf
              refine R_aload_n (i := 145) rfl rfl ?_
              refine R_getF hW (i := 146) rfl rfl (Nat.le_of_ble_eq_true rfl) rfl ?_
              refine R_iload (i := 147) rfl rfl ?_
              refine R_iconst (i := 148) rfl ?_
              refine R_isub (i := 149) rfl ?_
              refine R_aload_n (i := 150) rfl rfl ?_
              refine R_getF hW (i := 151) rfl rfl (Nat.le_of_ble_eq_true rfl) rfl ?_
              refine R_iload (i := 152) rfl rfl ?_
              refine R_iconst (i := 153) rfl ?_
              refine R_isub (i := 154) rfl ?_
              have g29 := gd_some hf
              clear hf
              obtain ⟨g29, hf⟩ := g29
              refine R_zaload hW (i := 155) rfl rfl g29 ?_
              refine R_ifne (i := 156) rfl (fun c30 => ?_) (fun c30 => ?_)
              · rw [if_neg c30] at hf
                refine R_iconst (i := 159) rfl ?_
                refine R_weak [some (.ref 0), none, some (.int x2), some (.int x3), some (.int s.1), some (.int s.2.1), some (.int s.2.2.1), none, none] ⟨Or.inr rfl, Or.inr rfl, Or.inr rfl, Or.inr rfl, Or.inr rfl, Or.inr rfl, Or.inr rfl, Or.inl rfl, Or.inl rfl, trivial⟩ ?_
                exact f188_b160_l hf hW hd k0 k1
              · rw [if_pos c30] at hf
                refine R_iconst (i := 157) rfl ?_
                refine R_goto (i := 158) rfl ?_
                refine R_weak [some (.ref 0), none, some (.int x2), some (.int x3), some (.int s.1), some (.int s.2.1), some (.int s.2.2.1), none, none] ⟨Or.inr rfl, Or.inr rfl, Or.inr rfl, Or.inr rfl, Or.inr rfl, Or.inr rfl, Or.inr rfl, Or.inl rfl, Or.inl rfl, trivial⟩ ?_
                exact f188_b160_l hf hW hd k0 k1
          · rw [if_neg c14] at hf
            obtain ⟨v33, e33⟩ : ∃ z : Int32, z = (s.1 + (-2 : Int32)) := ⟨_, rfl⟩
            replace hf := bnd_some e33 hf
            refine R_iinc [some (.ref 0), none, some (.int x2), some (.int x3), some (.int v33), some (.int s.2.1), some (.int s.2.2.1), some (.int v8), some (.int v10)] (i := 123) rfl rfl (by rw [← e33]; rfl) ?_
            refine R_aload_n (i := 124) rfl rfl ?_
            refine R_getF hW (i := 125) rfl rfl (Nat.le_of_ble_eq_true rfl) rfl ?_
            refine R_iload (i := 126) rfl rfl ?_
            refine R_iload (i := 127) rfl rfl ?_
            refine R_aload_n (i := 128) rfl rfl ?_
            refine R_getF hW (i := 129) rfl rfl (Nat.le_of_ble_eq_true rfl) rfl ?_
            refine R_iload (i := 130) rfl rfl ?_
            have g34 := gd_some hf
            clear hf
            obtain ⟨g34, hf⟩ := g34
            refine R_laload hW (i := 131) rfl rfl g34 ?_
            refine R_aload_n (i := 132) rfl rfl ?_
            refine R_getF hW (i := 133) rfl rfl (Nat.le_of_ble_eq_true rfl) rfl ?_
            refine R_iload (i := 134) rfl rfl ?_
            refine R_iconst (i := 135) rfl ?_
            refine R_iadd (i := 136) rfl ?_
            have g35 := gd_some hf
            clear hf
            obtain ⟨g35, hf⟩ := g35
            refine R_laload hW (i := 137) rfl rfl g35 ?_
            refine R_call (vs := [.int v8, .long (hL s.2.2.2 7 (ix v33)), .long (hL s.2.2.2 7 (ix (v33 + (1 : Int32))))]) (st' := [.int s.2.1, .ref 8]) (i := 138) rfl (by decide) (by decide) rfl rfl (Nat.le_of_ble_eq_true rfl) rfl (f187_l (hh rfl hd) ?_)
            have g36 := gd_some hf
            clear hf
            obtain ⟨g36, hf⟩ := g36
            refine R_zastore hW (i := 139) rfl rfl g36 (hg rfl hd) (fun h37 eh37 => ?_)
            replace hf := bnd_some eh37 hf
            have hW37 : WF 1 h37 := by rw [eh37]; exact hW
            obtain ⟨v38, e38⟩ : ∃ z : Int32, z = (s.2.1 + (1 : Int32)) := ⟨_, rfl⟩
            replace hf := bnd_some e38 hf
            refine R_iinc [some (.ref 0), none, some (.int x2), some (.int x3), some (.int v33), some (.int v38), some (.int s.2.2.1), some (.int v8), some (.int v10)] (i := 140) rfl rfl (by rw [← e38]; rfl) ?_
            refine R_goto (i := 141) rfl ?_
            refine R_weak [some (.ref 0), none, some (.int x2), some (.int x3), some (.int v33), some (.int v38), some (.int s.2.2.1), none, none] ⟨Or.inr rfl, Or.inr rfl, Or.inr rfl, Or.inr rfl, Or.inr rfl, Or.inr rfl, Or.inr rfl, Or.inl rfl, Or.inl rfl, trivial⟩ ?_
            exact f188_b203_l hf hW37 hd k0 k1
        · rw [if_neg c13] at hf
          obtain ⟨v39, e39⟩ : ∃ z : Int32, z = (s.1 + (-1 : Int32)) := ⟨_, rfl⟩
          replace hf := bnd_some e39 hf
          refine R_iinc [some (.ref 0), none, some (.int x2), some (.int x3), some (.int v39), some (.int s.2.1), some (.int s.2.2.1), some (.int v8), some (.int v10)] (i := 100) rfl rfl (by rw [← e39]; rfl) ?_
          refine R_aload_n (i := 101) rfl rfl ?_
          refine R_getF hW (i := 102) rfl rfl (Nat.le_of_ble_eq_true rfl) rfl ?_
          refine R_iload (i := 103) rfl rfl ?_
          refine R_iconst (i := 104) rfl ?_
          refine R_isub (i := 105) rfl ?_
          refine R_iload (i := 106) rfl rfl ?_
          refine R_aload_n (i := 107) rfl rfl ?_
          refine R_getF hW (i := 108) rfl rfl (Nat.le_of_ble_eq_true rfl) rfl ?_
          refine R_iload (i := 109) rfl rfl ?_
          refine R_iconst (i := 110) rfl ?_
          refine R_isub (i := 111) rfl ?_
          have g40 := gd_some hf
          clear hf
          obtain ⟨g40, hf⟩ := g40
          refine R_laload hW (i := 112) rfl rfl g40 ?_
          refine R_aload_n (i := 113) rfl rfl ?_
          refine R_getF hW (i := 114) rfl rfl (Nat.le_of_ble_eq_true rfl) rfl ?_
          refine R_iload (i := 115) rfl rfl ?_
          have g41 := gd_some hf
          clear hf
          obtain ⟨g41, hf⟩ := g41
          refine R_laload hW (i := 116) rfl rfl g41 ?_
          have zq42 := bind_some hf
          clear hf
          obtain ⟨q42, eq42, hf⟩ := zq42
          refine R_call (vs := [.int v8, .long (hL s.2.2.2 7 (ix (v39 - (1 : Int32)))), .long (hL s.2.2.2 7 (ix v39))]) (st' := [.int (v39 - (1 : Int32)), .ref 7]) (i := 117) rfl (by decide) (by decide) rfl rfl (Nat.le_of_ble_eq_true rfl) rfl (f186_l eq42 hW (hh rfl hd) ?_)
          have g43 := gd_some hf
          clear hf
          obtain ⟨g43, hf⟩ := g43
          refine R_lastore hW (i := 118) rfl rfl g43 (hg rfl hd) (fun h44 eh44 => ?_)
          replace hf := bnd_some eh44 hf
          have hW44 : WF 1 h44 := by rw [eh44]; exact hW
          refine R_goto (i := 119) rfl ?_
          refine R_weak [some (.ref 0), none, some (.int x2), some (.int x3), some (.int v39), some (.int s.2.1), some (.int s.2.2.1), none, none] ⟨Or.inr rfl, Or.inr rfl, Or.inr rfl, Or.inr rfl, Or.inr rfl, Or.inr rfl, Or.inr rfl, Or.inl rfl, Or.inl rfl, trivial⟩ ?_
          exact f188_b203_l hf hW44 hd k0 k1
      · rw [if_pos c12] at hf
        refine R_aload_n (i := 83) rfl rfl ?_
        refine R_getF hW (i := 84) rfl rfl (Nat.le_of_ble_eq_true rfl) rfl ?_
        refine R_iload (i := 85) rfl rfl ?_
        refine R_iconst (i := 86) rfl ?_
        refine R_isub (i := 87) rfl ?_
        refine R_aload_n (i := 88) rfl rfl ?_
        refine R_getF hW (i := 89) rfl rfl (Nat.le_of_ble_eq_true rfl) rfl ?_
        refine R_iload (i := 90) rfl rfl ?_
        refine R_iconst (i := 91) rfl ?_
        refine R_isub (i := 92) rfl ?_
        have g45 := gd_some hf
        clear hf
        obtain ⟨g45, hf⟩ := g45
        refine R_laload hW (i := 93) rfl rfl g45 ?_
        refine R_lneg (i := 94) rfl ?_
        have g46 := gd_some hf
        clear hf
        obtain ⟨g46, hf⟩ := g46
        refine R_lastore hW (i := 95) rfl rfl g46 (hg rfl hd) (fun h47 eh47 => ?_)
        replace hf := bnd_some eh47 hf
        have hW47 : WF 1 h47 := by rw [eh47]; exact hW
        refine R_goto (i := 96) rfl ?_
        refine R_weak [some (.ref 0), none, some (.int x2), some (.int x3), some (.int s.1), some (.int s.2.1), some (.int s.2.2.1), none, none] ⟨Or.inr rfl, Or.inr rfl, Or.inr rfl, Or.inr rfl, Or.inr rfl, Or.inr rfl, Or.inr rfl, Or.inl rfl, Or.inl rfl, trivial⟩ ?_
        exact f188_b203_l hf hW47 hd k0 k1
    · rw [if_neg c11] at hf
      refine R_aload_n (i := 64) rfl rfl ?_
      refine R_getF hW (i := 65) rfl rfl (Nat.le_of_ble_eq_true rfl) rfl ?_
      refine R_iload (i := 66) rfl rfl ?_
      refine R_iload (i := 67) rfl rfl ?_
      refine R_ifne (i := 68) rfl (fun c48 => ?_) (fun c48 => ?_)
      · rw [if_neg c48] at hf
        refine R_aload_n (i := 72) rfl rfl ?_
        refine R_getF hW (i := 73) rfl rfl (Nat.le_of_ble_eq_true rfl) rfl ?_
        refine R_iload (i := 74) rfl rfl ?_
        have g49 := gd_some hf
        clear hf
        obtain ⟨g49, hf⟩ := g49
        refine R_iaload hW (i := 75) rfl rfl g49 ?_
        refine R_i2l (i := 76) rfl ?_
        refine R_weak [some (.ref 0), none, some (.int x2), some (.int x3), some (.int s.1), some (.int s.2.1), some (.int s.2.2.1), none, none] ⟨Or.inr rfl, Or.inr rfl, Or.inr rfl, Or.inr rfl, Or.inr rfl, Or.inr rfl, Or.inr rfl, Or.inl rfl, Or.inl rfl, trivial⟩ ?_
        exact f188_b77_l hf hW hd k0 k1
      · rw [if_pos c48] at hf
        refine R_iload (i := 69) rfl rfl ?_
        refine R_i2l (i := 70) rfl ?_
        refine R_goto (i := 71) rfl ?_
        refine R_weak [some (.ref 0), none, some (.int x2), some (.int x3), some (.int s.1), some (.int s.2.1), some (.int s.2.2.1), none, none] ⟨Or.inr rfl, Or.inr rfl, Or.inr rfl, Or.inr rfl, Or.inr rfl, Or.inr rfl, Or.inr rfl, Or.inl rfl, Or.inl rfl, trivial⟩ ?_
        exact f188_b77_l hf hW hd k0 k1
set_option maxRecDepth 100000 in
set_option maxHeartbeats 4000000 in
theorem f188_l {d N : Nat} {p1 : Int32} {h : Hp} {Q : Option Value → Hp → Prop} {q : Hp} (hf : f188 N p1 h = some q) (hW : WF 1 h) (hd : 5 ≤ d) (kk : WF 1 q → Q (none) q) : R 1 d 188 0 [some (.ref 0), some (.int p1), none, none, none, none, none, none, none] [] h Q := by
  unfold f188 at hf
  refine R_sipush (i := 0) rfl ?_
  refine R_aload_n (i := 1) rfl rfl ?_
  refine R_getF hW (i := 2) rfl rfl (Nat.le_of_ble_eq_true rfl) rfl ?_
  refine R_iconst (i := 3) rfl ?_
  refine R_iaload hW (i := 4) rfl rfl (by decide) ?_
  refine R_imul (i := 5) rfl ?_
  refine R_iconst (i := 6) rfl ?_
  refine R_iadd (i := 7) rfl ?_
  refine R_iconst (i := 8) rfl ?_
  refine R_iload_n (i := 9) rfl rfl ?_
  refine R_imul (i := 10) rfl ?_
  refine R_iadd (i := 11) rfl ?_
  refine R_topi (fun v1 e1 => ?_)
  replace hf := bnd_some e1 hf
  refine R_istore_n [some (.ref 0), some (.int p1), some (.int v1), none, none, none, none, none, none] (i := 12) rfl rfl ?_
  refine R_sipush (i := 13) rfl ?_
  refine R_aload_n (i := 14) rfl rfl ?_
  refine R_getF hW (i := 15) rfl rfl (Nat.le_of_ble_eq_true rfl) rfl ?_
  refine R_iconst (i := 16) rfl ?_
  refine R_iaload hW (i := 17) rfl rfl (by decide) ?_
  refine R_imul (i := 18) rfl ?_
  refine R_bipush (i := 19) rfl ?_
  refine R_iadd (i := 20) rfl ?_
  refine R_topi (fun v2 e2 => ?_)
  replace hf := bnd_some e2 hf
  refine R_istore_n [some (.ref 0), some (.int p1), some (.int v1), some (.int v2), none, none, none, none, none] (i := 21) rfl rfl ?_
  refine R_iconst (i := 22) rfl ?_
  refine R_istore [some (.ref 0), some (.int p1), some (.int v1), some (.int v2), some (.int (0 : Int32)), none, none, none, none] (i := 23) rfl rfl ?_
  refine R_iconst (i := 24) rfl ?_
  refine R_istore [some (.ref 0), some (.int p1), some (.int v1), some (.int v2), some (.int (0 : Int32)), some (.int (0 : Int32)), none, none, none] (i := 25) rfl rfl ?_
  refine R_aload_n (i := 26) rfl rfl ?_
  refine R_getF hW (i := 27) rfl rfl (Nat.le_of_ble_eq_true rfl) rfl ?_
  refine R_iload_n (i := 28) rfl rfl ?_
  refine R_iconst (i := 29) rfl ?_
  refine R_iadd (i := 30) rfl ?_
  have g3 := gd_some hf
  clear hf
  obtain ⟨g3, hf⟩ := g3
  refine R_iaload hW (i := 31) rfl rfl g3 ?_
  refine R_topi (fun v4 e4 => ?_)
  replace hf := bnd_some e4 hf
  refine R_istore [some (.ref 0), some (.int p1), some (.int v1), some (.int v2), some (.int (0 : Int32)), some (.int (0 : Int32)), some (.int v4), none, none] (i := 32) rfl rfl ?_
  refine R_weak [some (.ref 0), none, some (.int v1), some (.int v2), some (.int (0 : Int32)), some (.int (0 : Int32)), some (.int v4), none, none] ⟨Or.inr rfl, Or.inl rfl, Or.inr rfl, Or.inr rfl, Or.inr rfl, Or.inr rfl, Or.inr rfl, Or.inr rfl, Or.inr rfl, trivial⟩ ?_
  have zq53 := bind_some hf
  clear hf
  obtain ⟨q53, eq53, hf⟩ := zq53
  refine lp_link (P := fun u33 => WF 1 u33.2.2.2 → R 1 d 188 33 [some (.ref 0), none, some (.int v1), some (.int v2), some (.int u33.1), some (.int u33.2.1), some (.int u33.2.2.1), none, none] [] u33.2.2.2 Q) (E := fun e u33 => WF 1 u33.2.2.2 → R 1 d 188 205 [none, none, none, none, none, none, none, none, none] [] u33.2.2.2 Q) (fun s j s' hb k0 ke hWs => f188_l33_l hb hWs hd k0 (fun z y => ke 0 z y)) N ((0 : Int32), (0 : Int32), v4, h) q53.1 q53.2 eq53 ?_ hW
  intro hW53
  have hz := Option.some.inj hf
  subst hz
  exact R_vret (i := 205) rfl (kk hW53)
set_option maxRecDepth 100000 in
set_option maxHeartbeats 4000000 in
theorem f189_l2_l {d N : Nat} {x1 : Int32} {h : Hp} {s : Int32} {Q : Option Value → Hp → Prop} {j : Nat} {s' : Int32} (hf : f189_l2 N x1 h s = some (j, s')) (hW : WF 1 h) (hd : 0 ≤ d) (k0 : j = 0 → R 1 d 189 2 [some (.ref 0), some (.int x1), some (.int s')] [] h Q) (k1 : j = 1 → R 1 d 189 35 [none, none, some (.int s')] [] h Q) (k2 : j = 2 → R 1 d 189 39 [none, none, none] [] h Q) : R 1 d 189 2 [some (.ref 0), some (.int x1), some (.int s)] [] h Q := by
  unfold f189_l2 at hf
  refine R_aload_n (i := 2) rfl rfl ?_
  refine R_getF hW (i := 3) rfl rfl (Nat.le_of_ble_eq_true rfl) rfl ?_
  refine R_iconst (i := 4) rfl ?_
  refine R_iaload hW (i := 5) rfl rfl (by decide) ?_
  refine R_iflt (i := 6) rfl (fun c1 => ?_) (fun c1 => ?_)
  · rw [if_pos c1] at hf
    obtain ⟨hj, hs⟩ := Prod.mk.inj (Option.some.inj hf)
    subst hj
    subst hs
    refine R_weak [none, none, none] ⟨Or.inl rfl, Or.inl rfl, Or.inl rfl, trivial⟩ ?_
    exact k2 rfl
  · rw [if_neg c1] at hf
    refine R_iload_n (i := 7) rfl rfl ?_
    refine R_aload_n (i := 8) rfl rfl ?_
    refine R_getF hW (i := 9) rfl rfl (Nat.le_of_ble_eq_true rfl) rfl ?_
    refine R_sipush (i := 10) rfl ?_
    refine R_aload_n (i := 11) rfl rfl ?_
    refine R_getF hW (i := 12) rfl rfl (Nat.le_of_ble_eq_true rfl) rfl ?_
    refine R_iconst (i := 13) rfl ?_
    refine R_iaload hW (i := 14) rfl rfl (by decide) ?_
    refine R_imul (i := 15) rfl ?_
    have g2 := gd_some hf
    clear hf
    obtain ⟨g2, hf⟩ := g2
    refine R_iaload hW (i := 16) rfl rfl g2 ?_
    refine R_icmpge (i := 17) rfl (fun c3 => ?_) (fun c3 => ?_)
    · rw [if_pos c3] at hf
      obtain ⟨hj, hs⟩ := Prod.mk.inj (Option.some.inj hf)
      subst hj
      subst hs
      refine R_weak [none, none, none] ⟨Or.inl rfl, Or.inl rfl, Or.inl rfl, trivial⟩ ?_
      exact k2 rfl
    · rw [if_neg c3] at hf
      refine R_aload_n (i := 18) rfl rfl ?_
      refine R_getF hW (i := 19) rfl rfl (Nat.le_of_ble_eq_true rfl) rfl ?_
      refine R_sipush (i := 20) rfl ?_
      refine R_aload_n (i := 21) rfl rfl ?_
      refine R_getF hW (i := 22) rfl rfl (Nat.le_of_ble_eq_true rfl) rfl ?_
      refine R_iconst (i := 23) rfl ?_
      refine R_iaload hW (i := 24) rfl rfl (by decide) ?_
      refine R_imul (i := 25) rfl ?_
      refine R_iconst (i := 26) rfl ?_
      refine R_iadd (i := 27) rfl ?_
      refine R_iconst (i := 28) rfl ?_
      refine R_iload_n (i := 29) rfl rfl ?_
      refine R_imul (i := 30) rfl ?_
      refine R_iadd (i := 31) rfl ?_
      have g4 := gd_some hf
      clear hf
      obtain ⟨g4, hf⟩ := g4
      refine R_iaload hW (i := 32) rfl rfl g4 ?_
      refine R_iload_n (i := 33) rfl rfl ?_
      refine R_icmpne (i := 34) rfl (fun c5 => ?_) (fun c5 => ?_)
      · rw [if_neg c5] at hf
        obtain ⟨v6, e6⟩ : ∃ z : Int32, z = (s + (1 : Int32)) := ⟨_, rfl⟩
        replace hf := bnd_some e6 hf
        refine R_iinc [some (.ref 0), some (.int x1), some (.int v6)] (i := 37) rfl rfl (by rw [← e6]; rfl) ?_
        refine R_goto (i := 38) rfl ?_
        obtain ⟨hj, hs⟩ := Prod.mk.inj (Option.some.inj hf)
        subst hj
        subst hs
        exact k0 rfl
      · rw [if_pos c5] at hf
        obtain ⟨hj, hs⟩ := Prod.mk.inj (Option.some.inj hf)
        subst hj
        subst hs
        refine R_weak [none, none, some (.int s)] ⟨Or.inl rfl, Or.inl rfl, Or.inr rfl, trivial⟩ ?_
        exact k1 rfl
set_option maxRecDepth 100000 in
set_option maxHeartbeats 4000000 in
theorem f189_l {d N : Nat} {p1 : Int32} {h : Hp} {Q : Option Value → Hp → Prop} {q : Int32} (hf : f189 N p1 h = some q) (hW : WF 1 h) (hd : 0 ≤ d) (kk : Q (some (.int q)) h) : R 1 d 189 0 [some (.ref 0), some (.int p1), none] [] h Q := by
  unfold f189 at hf
  refine R_iconst (i := 0) rfl ?_
  refine R_istore_n [some (.ref 0), some (.int p1), some (.int (0 : Int32))] (i := 1) rfl rfl ?_
  have zq7 := bind_some hf
  clear hf
  obtain ⟨q7, eq7, hf⟩ := zq7
  refine lp_link (P := fun u2 => R 1 d 189 2 [some (.ref 0), some (.int p1), some (.int u2)] [] h Q) (E := fun e u2 => ((e = 0 → R 1 d 189 35 [none, none, some (.int u2)] [] h Q) ∧ (e = 1 → R 1 d 189 39 [none, none, none] [] h Q))) (fun s j s' hb k0 ke => f189_l2_l hb hW hd k0 (fun z => (ke 0 z).1 rfl) (fun z => (ke 1 z).2 rfl)) N (0 : Int32) q7.1 q7.2 eq7 ?_
  refine ⟨fun z => ?_, fun z => ?_⟩
  · rw [if_pos z] at hf
    refine R_iload_n (i := 35) rfl rfl ?_
    have hz := Option.some.inj hf
    subst hz
    exact R_iret (i := 36) rfl kk
  · rw [if_neg (by rw [z]; decide)] at hf
    refine R_iconst (i := 39) rfl ?_
    have hz := Option.some.inj hf
    subst hz
    exact R_iret (i := 40) rfl kk
set_option maxRecDepth 100000 in
set_option maxHeartbeats 4000000 in
theorem f140_l {d : Nat} {p0 : Int64} {p2 : Int32} {p3 : Int32} {h : Hp} {Q : Option Value → Hp → Prop} (hd : 0 ≤ d) (kk : Q (some (.int (f140 p0 p2 p3))) h) : R 1 d 140 0 [some (.long p0), none, some (.int p2), some (.int p3)] [] h Q := by
  unfold f140 at kk
  refine R_lload_n (i := 0) rfl rfl ?_
  refine R_iload_n (i := 1) rfl rfl ?_
  refine R_i2l (i := 2) rfl ?_
  refine R_lcmp (i := 3) rfl ?_
  refine R_ifge (i := 4) rfl (fun c1 => ?_) (fun c1 => ?_)
  · rw [if_pos c1] at kk
    refine R_lload_n (i := 7) rfl rfl ?_
    refine R_iload_n (i := 8) rfl rfl ?_
    refine R_i2l (i := 9) rfl ?_
    refine R_lcmp (i := 10) rfl ?_
    refine R_ifle (i := 11) rfl (fun c2 => ?_) (fun c2 => ?_)
    · rw [if_pos c2] at kk
      refine R_lload_n (i := 14) rfl rfl ?_
      refine R_l2i (i := 15) rfl ?_
      exact R_iret (i := 16) rfl kk
    · rw [if_neg c2] at kk
      refine R_iload_n (i := 12) rfl rfl ?_
      refine R_goto (i := 13) rfl ?_
      exact R_iret (i := 16) rfl kk
  · rw [if_neg c1] at kk
    refine R_iload_n (i := 5) rfl rfl ?_
    refine R_goto (i := 6) rfl ?_
    exact R_iret (i := 16) rfl kk
set_option maxRecDepth 100000 in
set_option maxHeartbeats 4000000 in
theorem f190_l {d N : Nat} {p1 : Int32} {p2 : Int32} {p3 : Int32} {p4 : Int32} {h : Hp} {Q : Option Value → Hp → Prop} {q : Int32 × Hp} (hf : f190 N p1 p2 p3 p4 h = some q) (hW : WF 1 h) (hd : 6 ≤ d) (kk : WF 1 q.2 → Q (some (.int q.1)) q.2) : R 1 d 190 0 [some (.ref 0), some (.int p1), some (.int p2), some (.int p3), some (.int p4), none] [] h Q := by
  obtain ⟨d, rfl⟩ : ∃ z, d = z + 1 := ⟨d - 1, by omega⟩
  unfold f190 at hf
  refine R_aload_n (i := 0) rfl rfl ?_
  refine R_iconst (i := 1) rfl ?_
  have zq1 := bind_some hf
  clear hf
  obtain ⟨q1, eq1, hf⟩ := zq1
  refine R_callV (vs := [.int (0 : Int32)]) (st' := []) hW (i := 2) rfl rfl rfl (Nat.le_of_ble_eq_true rfl) rfl (Nat.le_of_ble_eq_true rfl) rfl (f189_l eq1 hW (hh rfl hd) ?_)
  refine R_istore [some (.ref 0), some (.int p1), some (.int p2), some (.int p3), some (.int p4), some (.int q1)] (i := 3) rfl rfl ?_
  refine R_iload (i := 4) rfl rfl ?_
  refine R_ifge (i := 5) rfl (fun c2 => ?_) (fun c2 => ?_)
  · rw [if_pos c2] at hf
    refine R_aload_n (i := 8) rfl rfl ?_
    refine R_getF hW (i := 9) rfl rfl (Nat.le_of_ble_eq_true rfl) rfl ?_
    refine R_iconst (i := 10) rfl ?_
    refine R_iload_n (i := 11) rfl rfl ?_
    refine R_iastore hW (i := 12) rfl rfl (by decide) (hg rfl hd) (fun h3 eh3 => ?_)
    replace hf := bnd_some eh3 hf
    have hW3 : WF 1 h3 := by rw [eh3]; exact hW
    refine R_aload_n (i := 13) rfl rfl ?_
    refine R_getF hW3 (i := 14) rfl rfl (Nat.le_of_ble_eq_true rfl) rfl ?_
    refine R_iconst (i := 15) rfl ?_
    refine R_iload (i := 16) rfl rfl ?_
    refine R_iastore hW3 (i := 17) rfl rfl (by decide) (hg rfl hd) (fun h4 eh4 => ?_)
    replace hf := bnd_some eh4 hf
    have hW4 : WF 1 h4 := by rw [eh4]; exact hW3
    refine R_aload_n (i := 18) rfl rfl ?_
    refine R_getF hW4 (i := 19) rfl rfl (Nat.le_of_ble_eq_true rfl) rfl ?_
    refine R_iconst (i := 20) rfl ?_
    refine R_iload_n (i := 21) rfl rfl ?_
    refine R_call (vs := [.int p1]) (st' := [.int (4 : Int32), .ref 6]) (i := 22) rfl (by decide) (by decide) rfl rfl (Nat.le_of_ble_eq_true rfl) rfl (f147_l (hh rfl hd) ?_)
    refine R_iastore hW4 (i := 23) rfl rfl (by decide) (hg rfl hd) (fun h5 eh5 => ?_)
    replace hf := bnd_some eh5 hf
    have hW5 : WF 1 h5 := by rw [eh5]; exact hW4
    refine R_aload_n (i := 24) rfl rfl ?_
    refine R_getF hW5 (i := 25) rfl rfl (Nat.le_of_ble_eq_true rfl) rfl ?_
    refine R_iconst (i := 26) rfl ?_
    refine R_iload_n (i := 27) rfl rfl ?_
    refine R_call (vs := [.int p1]) (st' := [.int (5 : Int32), .ref 6]) (i := 28) rfl (by decide) (by decide) rfl rfl (Nat.le_of_ble_eq_true rfl) rfl (f145_l (hh rfl hd) ?_)
    refine R_iastore hW5 (i := 29) rfl rfl (by decide) (hg rfl hd) (fun h6 eh6 => ?_)
    replace hf := bnd_some eh6 hf
    have hW6 : WF 1 h6 := by rw [eh6]; exact hW5
    refine R_aload_n (i := 30) rfl rfl ?_
    refine R_getF hW6 (i := 31) rfl rfl (Nat.le_of_ble_eq_true rfl) rfl ?_
    refine R_bipush (i := 32) rfl ?_
    refine R_iload_n (i := 33) rfl rfl ?_
    refine R_iastore hW6 (i := 34) rfl rfl (by decide) (hg rfl hd) (fun h7 eh7 => ?_)
    replace hf := bnd_some eh7 hf
    have hW7 : WF 1 h7 := by rw [eh7]; exact hW6
    refine R_aload_n (i := 35) rfl rfl ?_
    refine R_iload (i := 36) rfl rfl ?_
    have zq8 := bind_some hf
    clear hf
    obtain ⟨q8, eq8, hf⟩ := zq8
    refine R_callV (vs := [.int q1]) (st' := []) hW7 (i := 37) rfl rfl rfl (Nat.le_of_ble_eq_true rfl) rfl (Nat.le_of_ble_eq_true rfl) rfl (f188_l eq8 hW7 (hh rfl hd) (fun hW8 => ?_))
    refine R_aload_n (i := 38) rfl rfl ?_
    refine R_getF hW8 (i := 39) rfl rfl (Nat.le_of_ble_eq_true rfl) rfl ?_
    refine R_iconst (i := 40) rfl ?_
    refine R_laload hW8 (i := 41) rfl rfl (by decide) ?_
    refine R_iconst (i := 42) rfl ?_
    refine R_iconst (i := 43) rfl ?_
    refine R_call (vs := [.long (hL q8 7 (ix (0 : Int32))), .int (1 : Int32), .int (4 : Int32)]) (st' := []) (i := 44) rfl (by decide) (by decide) rfl rfl (Nat.le_of_ble_eq_true rfl) rfl (f140_l (hh rfl hd) ?_)
    have hz := Option.some.inj hf
    subst hz
    exact R_iret (i := 45) rfl (kk hW8)
  · rw [if_neg c2] at hf
    refine R_iconst (i := 6) rfl ?_
    have hz := Option.some.inj hf
    subst hz
    exact R_iret (i := 7) rfl (kk hW)
set_option maxRecDepth 100000 in
set_option maxHeartbeats 4000000 in
theorem f191_l {d N : Nat} {p1 : Int32} {h : Hp} {Q : Option Value → Hp → Prop} {q : Int32 × Hp} (hf : f191 N p1 h = some q) (hW : WF 1 h) (hd : 6 ≤ d) (kk : WF 1 q.2 → Q (some (.int q.1)) q.2) : R 1 d 191 0 [some (.ref 0), some (.int p1), none] [] h Q := by
  obtain ⟨d, rfl⟩ : ∃ z, d = z + 1 := ⟨d - 1, by omega⟩
  unfold f191 at hf
  refine R_aload_n (i := 0) rfl rfl ?_
  refine R_iconst (i := 1) rfl ?_
  have zq1 := bind_some hf
  clear hf
  obtain ⟨q1, eq1, hf⟩ := zq1
  refine R_callV (vs := [.int (1 : Int32)]) (st' := []) hW (i := 2) rfl rfl rfl (Nat.le_of_ble_eq_true rfl) rfl (Nat.le_of_ble_eq_true rfl) rfl (f189_l eq1 hW (hh rfl hd) ?_)
  refine R_istore_n [some (.ref 0), some (.int p1), some (.int q1)] (i := 3) rfl rfl ?_
  refine R_iload_n (i := 4) rfl rfl ?_
  refine R_ifge (i := 5) rfl (fun c2 => ?_) (fun c2 => ?_)
  · rw [if_pos c2] at hf
    refine R_aload_n (i := 8) rfl rfl ?_
    refine R_getF hW (i := 9) rfl rfl (Nat.le_of_ble_eq_true rfl) rfl ?_
    refine R_bipush (i := 10) rfl ?_
    refine R_iload_n (i := 11) rfl rfl ?_
    refine R_iastore hW (i := 12) rfl rfl (by decide) (hg rfl hd) (fun h3 eh3 => ?_)
    replace hf := bnd_some eh3 hf
    have hW3 : WF 1 h3 := by rw [eh3]; exact hW
    refine R_aload_n (i := 13) rfl rfl ?_
    refine R_iload_n (i := 14) rfl rfl ?_
    have zq4 := bind_some hf
    clear hf
    obtain ⟨q4, eq4, hf⟩ := zq4
    refine R_callV (vs := [.int q1]) (st' := []) hW3 (i := 15) rfl rfl rfl (Nat.le_of_ble_eq_true rfl) rfl (Nat.le_of_ble_eq_true rfl) rfl (f188_l eq4 hW3 (hh rfl hd) (fun hW4 => ?_))
    refine R_aload_n (i := 16) rfl rfl ?_
    refine R_getF hW4 (i := 17) rfl rfl (Nat.le_of_ble_eq_true rfl) rfl ?_
    refine R_iconst (i := 18) rfl ?_
    refine R_laload hW4 (i := 19) rfl rfl (by decide) ?_
    refine R_iconst (i := 20) rfl ?_
    refine R_bipush (i := 21) rfl ?_
    refine R_call (vs := [.long (hL q4 7 (ix (0 : Int32))), .int (0 : Int32), .int (9 : Int32)]) (st' := []) (i := 22) rfl (by decide) (by decide) rfl rfl (Nat.le_of_ble_eq_true rfl) rfl (f140_l (hh rfl hd) ?_)
    have hz := Option.some.inj hf
    subst hz
    exact R_iret (i := 23) rfl (kk hW4)
  · rw [if_neg c2] at hf
    refine R_iconst (i := 6) rfl ?_
    have hz := Option.some.inj hf
    subst hz
    exact R_iret (i := 7) rfl (kk hW)
set_option maxRecDepth 100000 in
set_option maxHeartbeats 4000000 in
theorem f192_l {d N : Nat} {p1 : Int32} {h : Hp} {Q : Option Value → Hp → Prop} {q : Int32 × Hp} (hf : f192 N p1 h = some q) (hW : WF 1 h) (hd : 6 ≤ d) (kk : WF 1 q.2 → Q (some (.int q.1)) q.2) : R 1 d 192 0 [some (.ref 0), some (.int p1), none] [] h Q := by
  obtain ⟨d, rfl⟩ : ∃ z, d = z + 1 := ⟨d - 1, by omega⟩
  unfold f192 at hf
  refine R_aload_n (i := 0) rfl rfl ?_
  refine R_iconst (i := 1) rfl ?_
  have zq1 := bind_some hf
  clear hf
  obtain ⟨q1, eq1, hf⟩ := zq1
  refine R_callV (vs := [.int (2 : Int32)]) (st' := []) hW (i := 2) rfl rfl rfl (Nat.le_of_ble_eq_true rfl) rfl (Nat.le_of_ble_eq_true rfl) rfl (f189_l eq1 hW (hh rfl hd) ?_)
  refine R_istore_n [some (.ref 0), some (.int p1), some (.int q1)] (i := 3) rfl rfl ?_
  refine R_iload_n (i := 4) rfl rfl ?_
  refine R_ifge (i := 5) rfl (fun c2 => ?_) (fun c2 => ?_)
  · rw [if_pos c2] at hf
    refine R_aload_n (i := 8) rfl rfl ?_
    refine R_getF hW (i := 9) rfl rfl (Nat.le_of_ble_eq_true rfl) rfl ?_
    refine R_iconst (i := 10) rfl ?_
    refine R_iload_n (i := 11) rfl rfl ?_
    refine R_iastore hW (i := 12) rfl rfl (by decide) (hg rfl hd) (fun h3 eh3 => ?_)
    replace hf := bnd_some eh3 hf
    have hW3 : WF 1 h3 := by rw [eh3]; exact hW
    refine R_aload_n (i := 13) rfl rfl ?_
    refine R_iload_n (i := 14) rfl rfl ?_
    have zq4 := bind_some hf
    clear hf
    obtain ⟨q4, eq4, hf⟩ := zq4
    refine R_callV (vs := [.int q1]) (st' := []) hW3 (i := 15) rfl rfl rfl (Nat.le_of_ble_eq_true rfl) rfl (Nat.le_of_ble_eq_true rfl) rfl (f188_l eq4 hW3 (hh rfl hd) (fun hW4 => ?_))
    refine R_aload_n (i := 16) rfl rfl ?_
    refine R_getF hW4 (i := 17) rfl rfl (Nat.le_of_ble_eq_true rfl) rfl ?_
    refine R_iconst (i := 18) rfl ?_
    refine R_zaload hW4 (i := 19) rfl rfl (by decide) ?_
    have hz := Option.some.inj hf
    subst hz
    exact R_zret (i := 20) rfl rfl (kk hW4)
  · rw [if_neg c2] at hf
    refine R_iconst (i := 6) rfl ?_
    have hz := Option.some.inj hf
    subst hz
    exact R_zret (r := 1) (i := 7) rfl (by decide) (kk hW)
set_option maxRecDepth 100000 in
set_option maxHeartbeats 4000000 in
theorem f144_l {d : Nat} {p0 : Int32} {h : Hp} {Q : Option Value → Hp → Prop} (hd : 0 ≤ d) (kk : Q (some (.int (f144 p0))) h) : R 1 d 144 0 [some (.int p0)] [] h Q := by
  unfold f144 at kk
  refine R_iload_n (i := 0) rfl rfl ?_
  refine R_sipush (i := 1) rfl ?_
  refine R_idiv (i := 2) rfl (by decide) ?_
  exact R_iret (i := 3) rfl kk
set_option maxRecDepth 100000 in
set_option maxHeartbeats 4000000 in
theorem f146_l {d : Nat} {p0 : Int32} {h : Hp} {Q : Option Value → Hp → Prop} (hd : 0 ≤ d) (kk : Q (some (.int (f146 p0))) h) : R 1 d 146 0 [some (.int p0)] [] h Q := by
  unfold f146 at kk
  refine R_iload_n (i := 0) rfl rfl ?_
  refine R_iconst (i := 1) rfl ?_
  refine R_idiv (i := 2) rfl (by decide) ?_
  refine R_bipush (i := 3) rfl ?_
  refine R_irem (i := 4) rfl (by decide) ?_
  exact R_iret (i := 5) rfl kk
set_option maxRecDepth 100000 in
set_option maxHeartbeats 4000000 in
theorem f141_l {d : Nat} {p0 : Int32} {p1 : Int32} {h : Hp} {Q : Option Value → Hp → Prop} (hd : 0 ≤ d) (kk : Q (some (.int (f141 p0 p1))) h) : R 1 d 141 0 [some (.int p0), some (.int p1)] [] h Q := by
  unfold f141 at kk
  refine R_iload_n (i := 0) rfl rfl ?_
  refine R_iload_n (i := 1) rfl rfl ?_
  refine R_ishr (i := 2) rfl ?_
  refine R_iconst (i := 3) rfl ?_
  refine R_iand (i := 4) rfl ?_
  refine R_iconst (i := 5) rfl ?_
  refine R_icmpne (i := 6) rfl (fun c1 => ?_) (fun c1 => ?_)
  · rw [if_neg c1] at kk
    refine R_iconst (i := 9) rfl ?_
    exact R_zret (r := 0) (i := 10) rfl (by decide) kk
  · rw [if_pos c1] at kk
    refine R_iconst (i := 7) rfl ?_
    refine R_goto (i := 8) rfl ?_
    exact R_zret (r := 1) (i := 10) rfl (by decide) kk
set_option maxRecDepth 100000 in
set_option maxHeartbeats 4000000 in
theorem f143_l {d : Nat} {p0 : Int32} {p1 : Int32} {p2 : Int32} {p3 : Int32} {h : Hp} {Q : Option Value → Hp → Prop} (hd : 0 ≤ d) (kk : Q (some (.int (f143 p0 p1 p2 p3))) h) : R 1 d 143 0 [some (.int p0), some (.int p1), some (.int p2), some (.int p3)] [] h Q := by
  unfold f143 at kk
  refine R_bipush (i := 0) rfl ?_
  refine R_iload_n (i := 1) rfl rfl ?_
  refine R_imul (i := 2) rfl ?_
  refine R_iload_n (i := 3) rfl rfl ?_
  refine R_iadd (i := 4) rfl ?_
  refine R_bipush (i := 5) rfl ?_
  refine R_imul (i := 6) rfl ?_
  refine R_iload_n (i := 7) rfl rfl ?_
  refine R_iadd (i := 8) rfl ?_
  refine R_iconst (i := 9) rfl ?_
  refine R_imul (i := 10) rfl ?_
  refine R_iload_n (i := 11) rfl rfl ?_
  refine R_iadd (i := 12) rfl ?_
  exact R_iret (i := 13) rfl kk
set_option maxRecDepth 100000 in
set_option maxHeartbeats 4000000 in
theorem f193_b94_l {d N : Nat} {x1 : Int32} {x4 : Int32} {x5 : Int32} {x6 : Int32} {x7 : Int32} {x8 : Int32} {h : Hp} {Q : Option Value → Hp → Prop} {j : Nat} {s' : Int32 × Int32 × Hp} (hf : f193_b94 N x1 x4 x5 x6 x7 x8 h = some (j, s')) (hW : WF 1 h) (hd : 7 ≤ d) (k0 : j = 0 → WF 1 s'.2.2 → R 1 d 193 48 [some (.ref 0), some (.int x1), none, none, some (.int x4), some (.int x5), some (.int x6), some (.int s'.1), some (.int s'.2.1)] [] s'.2.2 Q) (k1 : j = 1 → WF 1 s'.2.2 → R 1 d 193 86 [none, none, none, none, some (.int x4), none, none, some (.int s'.1), none] [] s'.2.2 Q) (k2 : j = 2 → WF 1 s'.2.2 → R 1 d 193 96 [none, some (.int x1), none, none, some (.int x4), some (.int x5), none, some (.int s'.1), none] [] s'.2.2 Q) : R 1 d 193 94 [some (.ref 0), some (.int x1), none, none, some (.int x4), some (.int x5), some (.int x6), some (.int x7), some (.int x8)] [] h Q := by
  unfold f193_b94 at hf
  obtain ⟨v13, e13⟩ : ∃ z : Int32, z = (x8 + (1 : Int32)) := ⟨_, rfl⟩
  replace hf := bnd_some e13 hf
  refine R_iinc [some (.ref 0), some (.int x1), none, none, some (.int x4), some (.int x5), some (.int x6), some (.int x7), some (.int v13)] (i := 94) rfl rfl (by rw [← e13]; rfl) ?_
  refine R_goto (i := 95) rfl ?_
  obtain ⟨hj, hs⟩ := Prod.mk.inj (Option.some.inj hf)
  subst hj
  subst hs
  exact k0 rfl hW
set_option maxRecDepth 100000 in
set_option maxHeartbeats 4000000 in
theorem f193_b62_l {d N : Nat} {x1 : Int32} {x4 : Int32} {x5 : Int32} {x6 : Int32} {x8 : Int32} {t0 : Int32} {h : Hp} {Q : Option Value → Hp → Prop} {j : Nat} {s' : Int32 × Int32 × Hp} (hf : f193_b62 N x1 x4 x5 x6 x8 t0 h = some (j, s')) (hW : WF 1 h) (hd : 7 ≤ d) (k0 : j = 0 → WF 1 s'.2.2 → R 1 d 193 48 [some (.ref 0), some (.int x1), none, none, some (.int x4), some (.int x5), some (.int x6), some (.int s'.1), some (.int s'.2.1)] [] s'.2.2 Q) (k1 : j = 1 → WF 1 s'.2.2 → R 1 d 193 86 [none, none, none, none, some (.int x4), none, none, some (.int s'.1), none] [] s'.2.2 Q) (k2 : j = 2 → WF 1 s'.2.2 → R 1 d 193 96 [none, some (.int x1), none, none, some (.int x4), some (.int x5), none, some (.int s'.1), none] [] s'.2.2 Q) : R 1 d 193 62 [some (.ref 0), some (.int x1), none, none, some (.int x4), some (.int x5), some (.int x6), none, some (.int x8)] [.int t0] h Q := by
  obtain ⟨d, rfl⟩ : ∃ z, d = z + 1 := ⟨d - 1, by omega⟩
  unfold f193_b62 at hf
  refine R_istore [some (.ref 0), some (.int x1), none, none, some (.int x4), some (.int x5), some (.int x6), some (.int t0), some (.int x8)] (i := 62) rfl rfl ?_
  refine R_aload_n (i := 63) rfl rfl ?_
  refine R_getF hW (i := 64) rfl rfl (Nat.le_of_ble_eq_true rfl) rfl ?_
  refine R_bipush (i := 65) rfl ?_
  refine R_bipush (i := 66) rfl ?_
  refine R_iload (i := 67) rfl rfl ?_
  refine R_imul (i := 68) rfl ?_
  refine R_iadd (i := 69) rfl ?_
  refine R_iload (i := 70) rfl rfl ?_
  refine R_iadd (i := 71) rfl ?_
  have g10 := gd_some hf
  clear hf
  obtain ⟨g10, hf⟩ := g10
  refine R_iaload hW (i := 72) rfl rfl g10 ?_
  refine R_iload (i := 73) rfl rfl ?_
  refine R_icmplt (i := 74) rfl (fun c11 => ?_) (fun c11 => ?_)
  · rw [if_pos c11] at hf
    obtain ⟨hj, hs⟩ := Prod.mk.inj (Option.some.inj hf)
    subst hj
    subst hs
    refine R_weak [none, none, none, none, some (.int x4), none, none, some (.int t0), none] ⟨Or.inl rfl, Or.inl rfl, Or.inr rfl, Or.inr rfl, Or.inr rfl, Or.inl rfl, Or.inl rfl, Or.inr rfl, Or.inl rfl, trivial⟩ ?_
    exact k1 rfl hW
  · rw [if_neg c11] at hf
    refine R_aload_n (i := 75) rfl rfl ?_
    refine R_getF hW (i := 76) rfl rfl (Nat.le_of_ble_eq_true rfl) rfl ?_
    refine R_iconst (i := 77) rfl ?_
    refine R_iaload hW (i := 78) rfl rfl (by decide) ?_
    refine R_iload (i := 79) rfl rfl ?_
    refine R_call (vs := [.int (hI h 1 (ix (0 : Int32))), .int t0]) (st' := []) (i := 80) rfl (by decide) (by decide) rfl rfl (Nat.le_of_ble_eq_true rfl) rfl (f141_l (hh rfl hd) ?_)
    refine R_ifeq (i := 81) rfl (fun c12 => ?_) (fun c12 => ?_)
    · rw [if_pos c12] at hf
      exact f193_b94_l hf hW hd k0 k1 k2
    · rw [if_neg c12] at hf
      refine R_aload_n (i := 82) rfl rfl ?_
      refine R_iload (i := 83) rfl rfl ?_
      have zq14 := bind_some hf
      clear hf
      obtain ⟨q14, eq14, hf⟩ := zq14
      refine R_callV (vs := [.int t0]) (st' := []) hW (i := 84) rfl rfl rfl (Nat.le_of_ble_eq_true rfl) rfl (Nat.le_of_ble_eq_true rfl) rfl (f192_l eq14 hW (hh rfl hd) (fun hW14 => ?_))
      refine R_ifne (i := 85) rfl (fun c15 => ?_) (fun c15 => ?_)
      · rw [if_neg c15] at hf
        exact f193_b94_l hf hW14 hd k0 k1 k2
      · rw [if_pos c15] at hf
        obtain ⟨hj, hs⟩ := Prod.mk.inj (Option.some.inj hf)
        subst hj
        subst hs
        refine R_weak [none, none, none, none, some (.int x4), none, none, some (.int t0), none] ⟨Or.inl rfl, Or.inl rfl, Or.inr rfl, Or.inr rfl, Or.inr rfl, Or.inl rfl, Or.inl rfl, Or.inr rfl, Or.inl rfl, trivial⟩ ?_
        exact k1 rfl hW14
set_option maxRecDepth 100000 in
set_option maxHeartbeats 4000000 in
theorem f193_l48_l {d N : Nat} {x1 : Int32} {x4 : Int32} {x5 : Int32} {x6 : Int32} {s : Int32 × Int32 × Hp} {Q : Option Value → Hp → Prop} {j : Nat} {s' : Int32 × Int32 × Hp} (hf : f193_l48 N x1 x4 x5 x6 s = some (j, s')) (hW : WF 1 s.2.2) (hd : 7 ≤ d) (k0 : j = 0 → WF 1 s'.2.2 → R 1 d 193 48 [some (.ref 0), some (.int x1), none, none, some (.int x4), some (.int x5), some (.int x6), some (.int s'.1), some (.int s'.2.1)] [] s'.2.2 Q) (k1 : j = 1 → WF 1 s'.2.2 → R 1 d 193 86 [none, none, none, none, some (.int x4), none, none, some (.int s'.1), none] [] s'.2.2 Q) (k2 : j = 2 → WF 1 s'.2.2 → R 1 d 193 96 [none, some (.int x1), none, none, some (.int x4), some (.int x5), none, some (.int s'.1), none] [] s'.2.2 Q) : R 1 d 193 48 [some (.ref 0), some (.int x1), none, none, some (.int x4), some (.int x5), some (.int x6), some (.int s.1), some (.int s.2.1)] [] s.2.2 Q := by
  unfold f193_l48 at hf
  refine R_iload (i := 48) rfl rfl ?_
  refine R_iload (i := 49) rfl rfl ?_
  refine R_icmpge (i := 50) rfl (fun c8 => ?_) (fun c8 => ?_)
  · rw [if_pos c8] at hf
    obtain ⟨hj, hs⟩ := Prod.mk.inj (Option.some.inj hf)
    subst hj
    subst hs
    refine R_weak [none, some (.int x1), none, none, some (.int x4), some (.int x5), none, some (.int s.1), none] ⟨Or.inl rfl, Or.inr rfl, Or.inr rfl, Or.inr rfl, Or.inr rfl, Or.inr rfl, Or.inl rfl, Or.inr rfl, Or.inl rfl, trivial⟩ ?_
    exact k2 rfl hW
  · rw [if_neg c8] at hf
    refine R_iload (i := 51) rfl rfl ?_
    refine R_iconst (i := 52) rfl ?_
    refine R_iadd (i := 53) rfl ?_
    refine R_aload_n (i := 54) rfl rfl ?_
    refine R_getI hW (i := 55) rfl rfl (Nat.le_of_ble_eq_true rfl) ?_
    refine R_icmpne (i := 56) rfl (fun c9 => ?_) (fun c9 => ?_)
    · rw [if_neg c9] at hf
      refine R_iload (i := 59) rfl rfl ?_
      refine R_iconst (i := 60) rfl ?_
      refine R_iadd (i := 61) rfl ?_
      refine R_weak [some (.ref 0), some (.int x1), none, none, some (.int x4), some (.int x5), some (.int x6), none, some (.int s.2.1)] ⟨Or.inr rfl, Or.inr rfl, Or.inr rfl, Or.inr rfl, Or.inr rfl, Or.inr rfl, Or.inr rfl, Or.inl rfl, Or.inr rfl, trivial⟩ ?_
      exact f193_b62_l hf hW hd k0 k1 k2
    · rw [if_pos c9] at hf
      refine R_iconst (i := 57) rfl ?_
      refine R_goto (i := 58) rfl ?_
      refine R_weak [some (.ref 0), some (.int x1), none, none, some (.int x4), some (.int x5), some (.int x6), none, some (.int s.2.1)] ⟨Or.inr rfl, Or.inr rfl, Or.inr rfl, Or.inr rfl, Or.inr rfl, Or.inr rfl, Or.inr rfl, Or.inl rfl, Or.inr rfl, trivial⟩ ?_
      exact f193_b62_l hf hW hd k0 k1 k2
set_option maxRecDepth 100000 in
set_option maxHeartbeats 4000000 in
theorem f193_l {d N : Nat} {p1 : Int32} {p2 : Int32} {p3 : Int32} {h : Hp} {Q : Option Value → Hp → Prop} {q : Int32 × Hp} (hf : f193 N p1 p2 p3 h = some q) (hW : WF 1 h) (hd : 7 ≤ d) (kk : WF 1 q.2 → Q (some (.int q.1)) q.2) : R 1 d 193 0 [some (.ref 0), some (.int p1), some (.int p2), some (.int p3), none, none, none, none, none] [] h Q := by
  obtain ⟨d, rfl⟩ : ∃ z, d = z + 1 := ⟨d - 1, by omega⟩
  unfold f193 at hf
  refine R_iload_n (i := 0) rfl rfl ?_
  refine R_call (vs := [.int p1]) (st' := []) (i := 1) rfl (by decide) (by decide) rfl rfl (Nat.le_of_ble_eq_true rfl) rfl (f144_l (hh rfl hd) ?_)
  refine R_iload_n (i := 2) rfl rfl ?_
  refine R_iconst (i := 3) rfl ?_
  refine R_idiv (i := 4) rfl (by decide) ?_
  refine R_iadd (i := 5) rfl ?_
  refine R_iconst (i := 6) rfl ?_
  refine R_isub (i := 7) rfl ?_
  refine R_topi (fun v1 e1 => ?_)
  replace hf := bnd_some e1 hf
  refine R_istore [some (.ref 0), some (.int p1), some (.int p2), some (.int p3), some (.int v1), none, none, none, none] (i := 8) rfl rfl ?_
  refine R_iload (i := 9) rfl rfl ?_
  refine R_iconst (i := 10) rfl ?_
  refine R_iconst (i := 11) rfl ?_
  refine R_call (vs := [.int v1, .int (0 : Int32), .int (2 : Int32)]) (st' := []) (i := 12) rfl (by decide) (by decide) rfl rfl (Nat.le_of_ble_eq_true rfl) rfl (f139_l (hh rfl hd) ?_)
  refine R_ifne (i := 13) rfl (fun c2 => ?_) (fun c2 => ?_)
  · rw [if_neg c2] at hf
    refine R_aload_n (i := 16) rfl rfl ?_
    refine R_getF hW (i := 17) rfl rfl (Nat.le_of_ble_eq_true rfl) rfl ?_
    refine R_iconst (i := 18) rfl ?_
    refine R_iload_n (i := 19) rfl rfl ?_
    refine R_call (vs := [.int p1]) (st' := [.int (0 : Int32), .ref 6]) (i := 20) rfl (by decide) (by decide) rfl rfl (Nat.le_of_ble_eq_true rfl) rfl (f146_l (hh rfl hd) ?_)
    refine R_iastore hW (i := 21) rfl rfl (by decide) (hg rfl hd) (fun h3 eh3 => ?_)
    replace hf := bnd_some eh3 hf
    have hW3 : WF 1 h3 := by rw [eh3]; exact hW
    refine R_aload_n (i := 22) rfl rfl ?_
    refine R_getF hW3 (i := 23) rfl rfl (Nat.le_of_ble_eq_true rfl) rfl ?_
    refine R_iconst (i := 24) rfl ?_
    refine R_aload_n (i := 25) rfl rfl ?_
    refine R_getF hW3 (i := 26) rfl rfl (Nat.le_of_ble_eq_true rfl) rfl ?_
    refine R_iconst (i := 27) rfl ?_
    refine R_iaload hW3 (i := 28) rfl rfl (by decide) ?_
    refine R_iastore hW3 (i := 29) rfl rfl (by decide) (hg rfl hd) (fun h4 eh4 => ?_)
    replace hf := bnd_some eh4 hf
    have hW4 : WF 1 h4 := by rw [eh4]; exact hW3
    refine R_aload_n (i := 30) rfl rfl ?_
    refine R_iload_n (i := 31) rfl rfl ?_
    refine R_iload (i := 32) rfl rfl ?_
    refine R_iload_n (i := 33) rfl rfl ?_
    refine R_iconst (i := 34) rfl ?_
    refine R_irem (i := 35) rfl (by decide) ?_
    refine R_iload_n (i := 36) rfl rfl ?_
    have zq5 := bind_some hf
    clear hf
    obtain ⟨q5, eq5, hf⟩ := zq5
    refine R_callV (vs := [.int p1, .int v1, .int (irem p2 (4 : Int32)), .int p3]) (st' := []) hW4 (i := 37) rfl rfl rfl (Nat.le_of_ble_eq_true rfl) rfl (Nat.le_of_ble_eq_true rfl) rfl (f190_l eq5 hW4 (hh rfl hd) (fun hW5 => ?_))
    refine R_istore [some (.ref 0), some (.int p1), some (.int p2), some (.int p3), some (.int v1), some (.int q5.1), none, none, none] (i := 38) rfl rfl ?_
    refine R_aload_n (i := 39) rfl rfl ?_
    refine R_iload (i := 40) rfl rfl ?_
    have zq6 := bind_some hf
    clear hf
    obtain ⟨q6, eq6, hf⟩ := zq6
    refine R_callV (vs := [.int q5.1]) (st' := []) hW5 (i := 41) rfl rfl rfl (Nat.le_of_ble_eq_true rfl) rfl (Nat.le_of_ble_eq_true rfl) rfl (f191_l eq6 hW5 (hh rfl hd) (fun hW6 => ?_))
    refine R_istore [some (.ref 0), some (.int p1), some (.int p2), some (.int p3), some (.int v1), some (.int q5.1), some (.int q6.1), none, none] (i := 42) rfl rfl ?_
    refine R_iload_n (i := 43) rfl rfl ?_
    refine R_call (vs := [.int p1]) (st' := []) (i := 44) rfl (by decide) (by decide) rfl rfl (Nat.le_of_ble_eq_true rfl) rfl (f145_l (hh rfl hd) ?_)
    refine R_topi (fun v7 e7 => ?_)
    replace hf := bnd_some e7 hf
    refine R_istore [some (.ref 0), some (.int p1), some (.int p2), some (.int p3), some (.int v1), some (.int q5.1), some (.int q6.1), some (.int v7), none] (i := 45) rfl rfl ?_
    refine R_iconst (i := 46) rfl ?_
    refine R_istore [some (.ref 0), some (.int p1), some (.int p2), some (.int p3), some (.int v1), some (.int q5.1), some (.int q6.1), some (.int v7), some (.int (0 : Int32))] (i := 47) rfl rfl ?_
    refine R_weak [some (.ref 0), some (.int p1), none, none, some (.int v1), some (.int q5.1), some (.int q6.1), some (.int v7), some (.int (0 : Int32))] ⟨Or.inr rfl, Or.inr rfl, Or.inl rfl, Or.inl rfl, Or.inr rfl, Or.inr rfl, Or.inr rfl, Or.inr rfl, Or.inr rfl, trivial⟩ ?_
    have zq16 := bind_some hf
    clear hf
    obtain ⟨q16, eq16, hf⟩ := zq16
    refine lp_link (P := fun u48 => WF 1 u48.2.2 → R 1 (d + 1) 193 48 [some (.ref 0), some (.int p1), none, none, some (.int v1), some (.int q5.1), some (.int q6.1), some (.int u48.1), some (.int u48.2.1)] [] u48.2.2 Q) (E := fun e u48 => WF 1 u48.2.2 → ((e = 0 → R 1 (d + 1) 193 86 [none, none, none, none, some (.int v1), none, none, some (.int u48.1), none] [] u48.2.2 Q) ∧ (e = 1 → R 1 (d + 1) 193 96 [none, some (.int p1), none, none, some (.int v1), some (.int q5.1), none, some (.int u48.1), none] [] u48.2.2 Q))) (fun s j s' hb k0 ke hWs => f193_l48_l hb hWs hd k0 (fun z y => (ke 0 z y).1 rfl) (fun z y => (ke 1 z y).2 rfl)) N (v7, (0 : Int32), q6.2) q16.1 q16.2 eq16 ?_ hW6
    refine fun hW16 => ⟨fun z => ?_, fun z => ?_⟩
    · rw [if_pos z] at hf
      refine R_sipush (i := 86) rfl ?_
      refine R_bipush (i := 87) rfl ?_
      refine R_iload (i := 88) rfl rfl ?_
      refine R_imul (i := 89) rfl ?_
      refine R_iadd (i := 90) rfl ?_
      refine R_iload (i := 91) rfl rfl ?_
      refine R_iadd (i := 92) rfl ?_
      have hz := Option.some.inj hf
      subst hz
      exact R_iret (i := 93) rfl (kk hW16)
    · rw [if_neg (by rw [z]; decide)] at hf
      refine R_iload (i := 96) rfl rfl ?_
      refine R_iload (i := 97) rfl rfl ?_
      refine R_iload_n (i := 98) rfl rfl ?_
      refine R_call (vs := [.int p1]) (st' := [.int q16.2.1, .int v1]) (i := 99) rfl (by decide) (by decide) rfl rfl (Nat.le_of_ble_eq_true rfl) rfl (f146_l (hh rfl hd) ?_)
      refine R_iconst (i := 100) rfl ?_
      refine R_iadd (i := 101) rfl ?_
      refine R_bipush (i := 102) rfl ?_
      refine R_irem (i := 103) rfl (by decide) ?_
      refine R_iload (i := 104) rfl rfl ?_
      refine R_call (vs := [.int v1, .int q16.2.1, .int (irem ((f146 p1) + (1 : Int32)) (8 : Int32)), .int q5.1]) (st' := []) (i := 105) rfl (by decide) (by decide) rfl rfl (Nat.le_of_ble_eq_true rfl) rfl (f143_l (hh rfl hd) ?_)
      have hz := Option.some.inj hf
      subst hz
      exact R_iret (i := 106) rfl (kk hW16)
  · rw [if_pos c2] at hf
    refine R_iconst (i := 14) rfl ?_
    have hz := Option.some.inj hf
    subst hz
    exact R_iret (i := 15) rfl (kk hW)
set_option maxRecDepth 100000 in
set_option maxHeartbeats 4000000 in
theorem f194_l19_l {d N : Nat} {x1 : Int32} {s : Int32 × Hp} {Q : Option Value → Hp → Prop} {j : Nat} {s' : Int32 × Hp} (hf : f194_l19 N x1 s = some (j, s')) (hW : WF 1 s.2) (hd : 8 ≤ d) (k0 : j = 0 → WF 1 s'.2 → R 1 d 194 19 [some (.ref 0), some (.int x1), some (.int s'.1)] [] s'.2 Q) (k1 : j = 1 → WF 1 s'.2 → R 1 d 194 41 [some (.ref 0), some (.int x1), none] [] s'.2 Q) : R 1 d 194 19 [some (.ref 0), some (.int x1), some (.int s.1)] [] s.2 Q := by
  obtain ⟨d, rfl⟩ : ∃ z, d = z + 1 := ⟨d - 1, by omega⟩
  unfold f194_l19 at hf
  refine R_iload_n (i := 19) rfl rfl ?_
  refine R_bipush (i := 20) rfl ?_
  refine R_icmpge (i := 21) rfl (fun c6 => ?_) (fun c6 => ?_)
  · rw [if_pos c6] at hf
    obtain ⟨hj, hs⟩ := Prod.mk.inj (Option.some.inj hf)
    subst hj
    subst hs
    refine R_weak [some (.ref 0), some (.int x1), none] ⟨Or.inr rfl, Or.inr rfl, Or.inl rfl, trivial⟩ ?_
    exact k1 rfl hW
  · rw [if_neg c6] at hf
    refine R_aload_n (i := 22) rfl rfl ?_
    refine R_getF hW (i := 23) rfl rfl (Nat.le_of_ble_eq_true rfl) rfl ?_
    refine R_bipush (i := 24) rfl ?_
    refine R_iload_n (i := 25) rfl rfl ?_
    refine R_imul (i := 26) rfl ?_
    refine R_iload_n (i := 27) rfl rfl ?_
    refine R_iadd (i := 28) rfl ?_
    refine R_aload_n (i := 29) rfl rfl ?_
    refine R_iload_n (i := 30) rfl rfl ?_
    refine R_iload_n (i := 31) rfl rfl ?_
    refine R_iconst (i := 32) rfl ?_
    refine R_idiv (i := 33) rfl (by decide) ?_
    refine R_iload_n (i := 34) rfl rfl ?_
    refine R_iconst (i := 35) rfl ?_
    refine R_irem (i := 36) rfl (by decide) ?_
    have zq7 := bind_some hf
    clear hf
    obtain ⟨q7, eq7, hf⟩ := zq7
    refine R_callV (vs := [.int x1, .int (s.1 / (4 : Int32)), .int (irem s.1 (4 : Int32))]) (st' := [.int (((48 : Int32) * x1) + s.1), .ref 9]) hW (i := 37) rfl rfl rfl (Nat.le_of_ble_eq_true rfl) rfl (Nat.le_of_ble_eq_true rfl) rfl (f193_l eq7 hW (hh rfl hd) (fun hW7 => ?_))
    have g8 := gd_some hf
    clear hf
    obtain ⟨g8, hf⟩ := g8
    refine R_iastore hW7 (i := 38) rfl rfl g8 (hg rfl hd) (fun h9 eh9 => ?_)
    replace hf := bnd_some eh9 hf
    have hW9 : WF 1 h9 := by rw [eh9]; exact hW7
    obtain ⟨v10, e10⟩ : ∃ z : Int32, z = (s.1 + (1 : Int32)) := ⟨_, rfl⟩
    replace hf := bnd_some e10 hf
    refine R_iinc [some (.ref 0), some (.int x1), some (.int v10)] (i := 39) rfl rfl (by rw [← e10]; rfl) ?_
    refine R_goto (i := 40) rfl ?_
    obtain ⟨hj, hs⟩ := Prod.mk.inj (Option.some.inj hf)
    subst hj
    subst hs
    exact k0 rfl hW9
set_option maxRecDepth 100000 in
set_option maxHeartbeats 4000000 in
theorem f194_b41_l {d N : Nat} {x1 : Int32} {h : Hp} {Q : Option Value → Hp → Prop} {j : Nat} {s' : Int32 × Hp} (hf : f194_b41 N x1 h = some (j, s')) (hW : WF 1 h) (hd : 8 ≤ d) (k0 : j = 0 → WF 1 s'.2 → R 1 d 194 9 [some (.ref 0), some (.int s'.1), none] [] s'.2 Q) (k1 : j = 1 → WF 1 s'.2 → R 1 d 194 43 [none, none, none] [] s'.2 Q) : R 1 d 194 41 [some (.ref 0), some (.int x1), none] [] h Q := by
  unfold f194_b41 at hf
  obtain ⟨v12, e12⟩ : ∃ z : Int32, z = (x1 + (1 : Int32)) := ⟨_, rfl⟩
  replace hf := bnd_some e12 hf
  refine R_iinc [some (.ref 0), some (.int v12), none] (i := 41) rfl rfl (by rw [← e12]; rfl) ?_
  refine R_goto (i := 42) rfl ?_
  obtain ⟨hj, hs⟩ := Prod.mk.inj (Option.some.inj hf)
  subst hj
  subst hs
  exact k0 rfl hW
set_option maxRecDepth 100000 in
set_option maxHeartbeats 4000000 in
theorem f194_l9_l {d N : Nat} {s : Int32 × Hp} {Q : Option Value → Hp → Prop} {j : Nat} {s' : Int32 × Hp} (hf : f194_l9 N s = some (j, s')) (hW : WF 1 s.2) (hd : 8 ≤ d) (k0 : j = 0 → WF 1 s'.2 → R 1 d 194 9 [some (.ref 0), some (.int s'.1), none] [] s'.2 Q) (k1 : j = 1 → WF 1 s'.2 → R 1 d 194 43 [none, none, none] [] s'.2 Q) : R 1 d 194 9 [some (.ref 0), some (.int s.1), none] [] s.2 Q := by
  obtain ⟨d, rfl⟩ : ∃ z, d = z + 1 := ⟨d - 1, by omega⟩
  unfold f194_l9 at hf
  refine R_iload_n (i := 9) rfl rfl ?_
  refine R_sipush (i := 10) rfl ?_
  refine R_icmpge (i := 11) rfl (fun c3 => ?_) (fun c3 => ?_)
  · rw [if_pos c3] at hf
    obtain ⟨hj, hs⟩ := Prod.mk.inj (Option.some.inj hf)
    subst hj
    subst hs
    refine R_weak [none, none, none] ⟨Or.inl rfl, Or.inl rfl, Or.inr rfl, trivial⟩ ?_
    exact k1 rfl hW
  · rw [if_neg c3] at hf
    refine R_aload_n (i := 12) rfl rfl ?_
    refine R_iload_n (i := 13) rfl rfl ?_
    have zq4 := bind_some hf
    clear hf
    obtain ⟨q4, eq4, hf⟩ := zq4
    refine R_callV (vs := [.int s.1]) (st' := []) hW (i := 14) rfl rfl rfl (Nat.le_of_ble_eq_true rfl) rfl (Nat.le_of_ble_eq_true rfl) rfl (f148_l eq4 hW (hh rfl hd) ?_)
    refine R_ifne (i := 15) rfl (fun c5 => ?_) (fun c5 => ?_)
    · rw [if_neg c5] at hf
      refine R_iconst (i := 17) rfl ?_
      refine R_istore_n [some (.ref 0), some (.int s.1), some (.int (0 : Int32))] (i := 18) rfl rfl ?_
      have zq11 := bind_some hf
      clear hf
      obtain ⟨q11, eq11, hf⟩ := zq11
      refine lp_link (P := fun u19 => WF 1 u19.2 → R 1 (d + 1) 194 19 [some (.ref 0), some (.int s.1), some (.int u19.1)] [] u19.2 Q) (E := fun e u19 => WF 1 u19.2 → R 1 (d + 1) 194 41 [some (.ref 0), some (.int s.1), none] [] u19.2 Q) (fun s j s' hb k0 ke hWs => f194_l19_l hb hWs hd k0 (fun z y => ke 0 z y)) N ((0 : Int32), s.2) q11.1 q11.2 eq11 ?_ hW
      intro hW11
      exact f194_b41_l hf hW11 hd k0 k1
    · rw [if_pos c5] at hf
      refine R_goto (i := 16) rfl ?_
      exact f194_b41_l hf hW hd k0 k1
set_option maxRecDepth 100000 in
set_option maxHeartbeats 4000000 in
theorem f194_l {d N : Nat} {h : Hp} {Q : Option Value → Hp → Prop} {q : Hp} (hf : f194 N h = some q) (hW : WF 1 h) (hd : 8 ≤ d) (kk : WF 1 q → Q (none) q) : R 1 d 194 0 [some (.ref 0), none, none] [] h Q := by
  unfold f194 at hf
  refine R_aload_n (i := 0) rfl rfl ?_
  refine R_getI hW (i := 1) rfl rfl (Nat.le_of_ble_eq_true rfl) ?_
  refine R_ifeq (i := 2) rfl (fun c1 => ?_) (fun c1 => ?_)
  · rw [if_pos c1] at hf
    refine R_aload_n (i := 4) rfl rfl ?_
    refine R_iconst (i := 5) rfl ?_
    refine R_putZ hW (i := 6) rfl rfl (Nat.le_of_ble_eq_true rfl) (by decide) (hg rfl hd) (fun h2 eh2 => ?_)
    replace hf := bnd_some eh2 hf
    have hW2 : WF 1 h2 := by rw [eh2]; exact hW
    refine R_iconst (i := 7) rfl ?_
    refine R_istore_n [some (.ref 0), some (.int (0 : Int32)), none] (i := 8) rfl rfl ?_
    have zq13 := bind_some hf
    clear hf
    obtain ⟨q13, eq13, hf⟩ := zq13
    refine lp_link (P := fun u9 => WF 1 u9.2 → R 1 d 194 9 [some (.ref 0), some (.int u9.1), none] [] u9.2 Q) (E := fun e u9 => WF 1 u9.2 → R 1 d 194 43 [none, none, none] [] u9.2 Q) (fun s j s' hb k0 ke hWs => f194_l9_l hb hWs hd k0 (fun z y => ke 0 z y)) N ((0 : Int32), h2) q13.1 q13.2 eq13 ?_ hW2
    intro hW13
    have hz := Option.some.inj hf
    subst hz
    exact R_vret (i := 43) rfl (kk hW13)
  · rw [if_neg c1] at hf
    have hz := Option.some.inj hf
    subst hz
    exact R_vret (i := 3) rfl (kk hW)
set_option maxRecDepth 100000 in
set_option maxHeartbeats 4000000 in
theorem f195_l {d N : Nat} {p1 : Int32} {p2 : Int32} {p3 : Int32} {h : Hp} {Q : Option Value → Hp → Prop} {q : Int32} (hf : f195 N p1 p2 p3 h = some q) (hW : WF 1 h) (hd : 0 ≤ d) (kk : Q (some (.int q)) h) : R 1 d 195 0 [some (.ref 0), some (.int p1), some (.int p2), some (.int p3)] [] h Q := by
  unfold f195 at hf
  refine R_aload_n (i := 0) rfl rfl ?_
  refine R_getF hW (i := 1) rfl rfl (Nat.le_of_ble_eq_true rfl) rfl ?_
  refine R_bipush (i := 2) rfl ?_
  refine R_iload_n (i := 3) rfl rfl ?_
  refine R_imul (i := 4) rfl ?_
  refine R_iconst (i := 5) rfl ?_
  refine R_iload_n (i := 6) rfl rfl ?_
  refine R_imul (i := 7) rfl ?_
  refine R_iadd (i := 8) rfl ?_
  refine R_iload_n (i := 9) rfl rfl ?_
  refine R_iadd (i := 10) rfl ?_
  have g1 := gd_some hf
  clear hf
  obtain ⟨g1, hf⟩ := g1
  refine R_iaload hW (i := 11) rfl rfl g1 ?_
  have hz := Option.some.inj hf
  subst hz
  exact R_iret (i := 12) rfl kk
set_option maxRecDepth 100000 in
set_option maxHeartbeats 4000000 in
theorem f197_b20_l {d N : Nat} {h : Hp} {Q : Option Value → Hp → Prop} {q : Int32 × Hp} (hf : f197_b20 N h = some q) (hW : WF 1 h) (hd : 8 ≤ d) (kk : WF 1 q.2 → Q (some (.int q.1)) q.2) : R 1 d 197 20 [none, none, none, none] [] h Q := by
  unfold f197_b20 at hf
  refine R_iconst (i := 20) rfl ?_
  have hz := Option.some.inj hf
  subst hz
  exact R_iret (i := 21) rfl (kk hW)
set_option maxRecDepth 100000 in
set_option maxHeartbeats 4000000 in
theorem f197_l {d N : Nat} {p1 : Int32} {p2 : Int32} {p3 : Int32} {h : Hp} {Q : Option Value → Hp → Prop} {q : Int32 × Hp} (hf : f197 N p1 p2 p3 h = some q) (hW : WF 1 h) (hd : 8 ≤ d) (kk : WF 1 q.2 → Q (some (.int q.1)) q.2) : R 1 d 197 0 [some (.ref 0), some (.int p1), some (.int p2), some (.int p3)] [] h Q := by
  obtain ⟨d, rfl⟩ : ∃ z, d = z + 1 := ⟨d - 1, by omega⟩
  unfold f197 at hf
  refine R_aload_n (i := 0) rfl rfl ?_
  refine R_iload_n (i := 1) rfl rfl ?_
  have zq1 := bind_some hf
  clear hf
  obtain ⟨q1, eq1, hf⟩ := zq1
  refine R_callV (vs := [.int p1]) (st' := []) hW (i := 2) rfl rfl rfl (Nat.le_of_ble_eq_true rfl) rfl (Nat.le_of_ble_eq_true rfl) rfl (f148_l eq1 hW (hh rfl hd) ?_)
  refine R_ifeq (i := 3) rfl (fun c2 => ?_) (fun c2 => ?_)
  · rw [if_pos c2] at hf
    refine R_weak [none, none, none, none] ⟨Or.inl rfl, Or.inl rfl, Or.inl rfl, Or.inl rfl, trivial⟩ ?_
    exact f197_b20_l hf hW hd kk
  · rw [if_neg c2] at hf
    refine R_iload_n (i := 4) rfl rfl ?_
    refine R_iconst (i := 5) rfl ?_
    refine R_bipush (i := 6) rfl ?_
    refine R_call (vs := [.int p2, .int (0 : Int32), .int (11 : Int32)]) (st' := []) (i := 7) rfl (by decide) (by decide) rfl rfl (Nat.le_of_ble_eq_true rfl) rfl (f139_l (hh rfl hd) ?_)
    refine R_ifeq (i := 8) rfl (fun c3 => ?_) (fun c3 => ?_)
    · rw [if_pos c3] at hf
      refine R_weak [none, none, none, none] ⟨Or.inl rfl, Or.inl rfl, Or.inl rfl, Or.inl rfl, trivial⟩ ?_
      exact f197_b20_l hf hW hd kk
    · rw [if_neg c3] at hf
      refine R_iload_n (i := 9) rfl rfl ?_
      refine R_iconst (i := 10) rfl ?_
      refine R_iconst (i := 11) rfl ?_
      refine R_call (vs := [.int p3, .int (0 : Int32), .int (3 : Int32)]) (st' := []) (i := 12) rfl (by decide) (by decide) rfl rfl (Nat.le_of_ble_eq_true rfl) rfl (f139_l (hh rfl hd) ?_)
      refine R_ifeq (i := 13) rfl (fun c4 => ?_) (fun c4 => ?_)
      · rw [if_pos c4] at hf
        refine R_weak [none, none, none, none] ⟨Or.inl rfl, Or.inl rfl, Or.inl rfl, Or.inl rfl, trivial⟩ ?_
        exact f197_b20_l hf hW hd kk
      · rw [if_neg c4] at hf
        refine R_aload_n (i := 14) rfl rfl ?_
        refine R_iload_n (i := 15) rfl rfl ?_
        refine R_iload_n (i := 16) rfl rfl ?_
        refine R_iload_n (i := 17) rfl rfl ?_
        have zq5 := bind_some hf
        clear hf
        obtain ⟨q5, eq5, hf⟩ := zq5
        refine R_callV (vs := [.int p1, .int p2, .int p3]) (st' := []) hW (i := 18) rfl rfl rfl (Nat.le_of_ble_eq_true rfl) rfl (Nat.le_of_ble_eq_true rfl) rfl (f193_l eq5 hW (hh rfl hd) (fun hW5 => ?_))
        refine R_goto (i := 19) rfl ?_
        have hz := Option.some.inj hf
        subst hz
        exact R_iret (i := 21) rfl (kk hW5)
set_option maxRecDepth 100000 in
set_option maxHeartbeats 4000000 in
theorem f198_l {d N : Nat} {h : Hp} {Q : Option Value → Hp → Prop} {q : Int32} (hf : f198 N h = some q) (hW : WF 1 h) (hd : 1 ≤ d) (kk : Q (some (.int q)) h) : R 1 d 198 0 [some (.ref 0)] [] h Q := by
  obtain ⟨d, rfl⟩ : ∃ z, d = z + 1 := ⟨d - 1, by omega⟩
  unfold f198 at hf
  refine R_aload_n (i := 0) rfl rfl ?_
  refine R_getF hW (i := 1) rfl rfl (Nat.le_of_ble_eq_true rfl) rfl ?_
  refine R_bipush (i := 2) rfl ?_
  refine R_iaload hW (i := 3) rfl rfl (by decide) ?_
  refine R_aload_n (i := 4) rfl rfl ?_
  refine R_getF hW (i := 5) rfl rfl (Nat.le_of_ble_eq_true rfl) rfl ?_
  refine R_bipush (i := 6) rfl ?_
  refine R_iaload hW (i := 7) rfl rfl (by decide) ?_
  refine R_aload_n (i := 8) rfl rfl ?_
  refine R_getF hW (i := 9) rfl rfl (Nat.le_of_ble_eq_true rfl) rfl ?_
  refine R_bipush (i := 10) rfl ?_
  refine R_iaload hW (i := 11) rfl rfl (by decide) ?_
  refine R_aload_n (i := 12) rfl rfl ?_
  refine R_getF hW (i := 13) rfl rfl (Nat.le_of_ble_eq_true rfl) rfl ?_
  refine R_bipush (i := 14) rfl ?_
  refine R_iaload hW (i := 15) rfl rfl (by decide) ?_
  refine R_call (vs := [.int (hI h 1 (ix (10 : Int32))), .int (hI h 1 (ix (11 : Int32))), .int (hI h 1 (ix (12 : Int32))), .int (hI h 1 (ix (13 : Int32)))]) (st' := []) (i := 16) rfl (by decide) (by decide) rfl rfl (Nat.le_of_ble_eq_true rfl) rfl (f143_l (hh rfl hd) ?_)
  have hz := Option.some.inj hf
  subst hz
  exact R_iret (i := 17) rfl kk
set_option maxRecDepth 100000 in
set_option maxHeartbeats 4000000 in
theorem f199_l {d N : Nat} {p1 : Int32} {p2 : Int32} {h : Hp} {Q : Option Value → Hp → Prop} {q : Int32} (hf : f199 N p1 p2 h = some q) (hW : WF 1 h) (hd : 0 ≤ d) (kk : Q (some (.int q)) h) : R 1 d 199 0 [some (.ref 0), some (.int p1), some (.int p2)] [] h Q := by
  unfold f199 at hf
  refine R_iload_n (i := 0) rfl rfl ?_
  refine R_iload_n (i := 1) rfl rfl ?_
  refine R_icmplt (i := 2) rfl (fun c1 => ?_) (fun c1 => ?_)
  · rw [if_pos c1] at hf
    refine R_iload_n (i := 7) rfl rfl ?_
    refine R_aload_n (i := 8) rfl rfl ?_
    refine R_getI hW (i := 9) rfl rfl (Nat.le_of_ble_eq_true rfl) ?_
    refine R_iadd (i := 10) rfl ?_
    refine R_iload_n (i := 11) rfl rfl ?_
    refine R_isub (i := 12) rfl ?_
    have hz := Option.some.inj hf
    subst hz
    exact R_iret (i := 13) rfl kk
  · rw [if_neg c1] at hf
    refine R_iload_n (i := 3) rfl rfl ?_
    refine R_iload_n (i := 4) rfl rfl ?_
    refine R_isub (i := 5) rfl ?_
    refine R_goto (i := 6) rfl ?_
    have hz := Option.some.inj hf
    subst hz
    exact R_iret (i := 13) rfl kk
set_option maxRecDepth 100000 in
set_option maxHeartbeats 4000000 in
theorem f200_l35_l {d N : Nat} {s : Int32 × Hp} {Q : Option Value → Hp → Prop} {j : Nat} {s' : Int32 × Hp} (hf : f200_l35 N s = some (j, s')) (hW : WF 1 s.2) (hd : 5 ≤ d) (k0 : j = 0 → WF 1 s'.2 → R 1 d 200 35 [some (.ref 0), some (.int s'.1)] [] s'.2 Q) (k1 : j = 1 → WF 1 s'.2 → R 1 d 200 59 [some (.ref 0), none] [] s'.2 Q) : R 1 d 200 35 [some (.ref 0), some (.int s.1)] [] s.2 Q := by
  unfold f200_l35 at hf
  refine R_iload_n (i := 35) rfl rfl ?_
  refine R_bipush (i := 36) rfl ?_
  refine R_icmpge (i := 37) rfl (fun c2 => ?_) (fun c2 => ?_)
  · rw [if_pos c2] at hf
    obtain ⟨hj, hs⟩ := Prod.mk.inj (Option.some.inj hf)
    subst hj
    subst hs
    refine R_weak [some (.ref 0), none] ⟨Or.inr rfl, Or.inl rfl, trivial⟩ ?_
    exact k1 rfl hW
  · rw [if_neg c2] at hf
    refine R_aload_n (i := 38) rfl rfl ?_
    refine R_getF hW (i := 39) rfl rfl (Nat.le_of_ble_eq_true rfl) rfl ?_
    refine R_sipush (i := 40) rfl ?_
    refine R_bipush (i := 41) rfl ?_
    refine R_aload_n (i := 42) rfl rfl ?_
    refine R_getF hW (i := 43) rfl rfl (Nat.le_of_ble_eq_true rfl) rfl ?_
    refine R_iconst (i := 44) rfl ?_
    refine R_iaload hW (i := 45) rfl rfl (by decide) ?_
    refine R_imul (i := 46) rfl ?_
    refine R_iadd (i := 47) rfl ?_
    refine R_iload_n (i := 48) rfl rfl ?_
    refine R_iadd (i := 49) rfl ?_
    refine R_aload_n (i := 50) rfl rfl ?_
    refine R_getF hW (i := 51) rfl rfl (Nat.le_of_ble_eq_true rfl) rfl ?_
    refine R_bipush (i := 52) rfl ?_
    refine R_iload_n (i := 53) rfl rfl ?_
    refine R_iadd (i := 54) rfl ?_
    have g3 := gd_some hf
    clear hf
    obtain ⟨g3, hf⟩ := g3
    refine R_iaload hW (i := 55) rfl rfl g3 ?_
    have g4 := gd_some hf
    clear hf
    obtain ⟨g4, hf⟩ := g4
    refine R_iastore hW (i := 56) rfl rfl g4 (hg rfl hd) (fun h5 eh5 => ?_)
    replace hf := bnd_some eh5 hf
    have hW5 : WF 1 h5 := by rw [eh5]; exact hW
    obtain ⟨v6, e6⟩ : ∃ z : Int32, z = (s.1 + (1 : Int32)) := ⟨_, rfl⟩
    replace hf := bnd_some e6 hf
    refine R_iinc [some (.ref 0), some (.int v6)] (i := 57) rfl rfl (by rw [← e6]; rfl) ?_
    refine R_goto (i := 58) rfl ?_
    obtain ⟨hj, hs⟩ := Prod.mk.inj (Option.some.inj hf)
    subst hj
    subst hs
    exact k0 rfl hW5
set_option maxRecDepth 100000 in
set_option maxHeartbeats 4000000 in
theorem f200_b33_l {d N : Nat} {h : Hp} {Q : Option Value → Hp → Prop} {q : Hp} (hf : f200_b33 N h = some q) (hW : WF 1 h) (hd : 5 ≤ d) (kk : WF 1 q → Q (none) q) : R 1 d 200 33 [some (.ref 0), none] [] h Q := by
  unfold f200_b33 at hf
  refine R_iconst (i := 33) rfl ?_
  refine R_istore_n [some (.ref 0), some (.int (0 : Int32))] (i := 34) rfl rfl ?_
  have zq7 := bind_some hf
  clear hf
  obtain ⟨q7, eq7, hf⟩ := zq7
  refine lp_link (P := fun u35 => WF 1 u35.2 → R 1 d 200 35 [some (.ref 0), some (.int u35.1)] [] u35.2 Q) (E := fun e u35 => WF 1 u35.2 → R 1 d 200 59 [some (.ref 0), none] [] u35.2 Q) (fun s j s' hb k0 ke hWs => f200_l35_l hb hWs hd k0 (fun z y => ke 0 z y)) N ((0 : Int32), h) q7.1 q7.2 eq7 ?_ hW
  intro hW7
  refine R_aload_n (i := 59) rfl rfl ?_
  refine R_getF hW7 (i := 60) rfl rfl (Nat.le_of_ble_eq_true rfl) rfl ?_
  refine R_iconst (i := 61) rfl ?_
  refine R_dup2 (i := 62) rfl rfl rfl ?_
  refine R_iaload hW7 (i := 63) rfl rfl (by decide) ?_
  refine R_iconst (i := 64) rfl ?_
  refine R_iadd (i := 65) rfl ?_
  refine R_iastore hW7 (i := 66) rfl rfl (by decide) (hg rfl hd) (fun h8 eh8 => ?_)
  replace hf := bnd_some eh8 hf
  have hW8 : WF 1 h8 := by rw [eh8]; exact hW7
  have hz := Option.some.inj hf
  subst hz
  exact R_vret (i := 67) rfl (kk hW8)
set_option maxRecDepth 100000 in
set_option maxHeartbeats 4000000 in
theorem f200_l8_l {d N : Nat} {s : Int32 × Hp} {Q : Option Value → Hp → Prop} {j : Nat} {s' : Int32 × Hp} (hf : f200_l8 N s = some (j, s')) (hW : WF 1 s.2) (hd : 5 ≤ d) (k0 : j = 0 → WF 1 s'.2 → R 1 d 200 8 [some (.ref 0), some (.int s'.1)] [] s'.2 Q) (k1 : j = 1 → WF 1 s'.2 → R 1 d 200 25 [some (.ref 0), none] [] s'.2 Q) : R 1 d 200 8 [some (.ref 0), some (.int s.1)] [] s.2 Q := by
  unfold f200_l8 at hf
  refine R_iload_n (i := 8) rfl rfl ?_
  refine R_sipush (i := 9) rfl ?_
  refine R_icmpge (i := 10) rfl (fun c9 => ?_) (fun c9 => ?_)
  · rw [if_pos c9] at hf
    obtain ⟨hj, hs⟩ := Prod.mk.inj (Option.some.inj hf)
    subst hj
    subst hs
    refine R_weak [some (.ref 0), none] ⟨Or.inr rfl, Or.inl rfl, trivial⟩ ?_
    exact k1 rfl hW
  · rw [if_neg c9] at hf
    refine R_aload_n (i := 11) rfl rfl ?_
    refine R_getF hW (i := 12) rfl rfl (Nat.le_of_ble_eq_true rfl) rfl ?_
    refine R_sipush (i := 13) rfl ?_
    refine R_iload_n (i := 14) rfl rfl ?_
    refine R_iadd (i := 15) rfl ?_
    refine R_aload_n (i := 16) rfl rfl ?_
    refine R_getF hW (i := 17) rfl rfl (Nat.le_of_ble_eq_true rfl) rfl ?_
    refine R_sipush (i := 18) rfl ?_
    refine R_iload_n (i := 19) rfl rfl ?_
    refine R_iadd (i := 20) rfl ?_
    have g10 := gd_some hf
    clear hf
    obtain ⟨g10, hf⟩ := g10
    refine R_iaload hW (i := 21) rfl rfl g10 ?_
    have g11 := gd_some hf
    clear hf
    obtain ⟨g11, hf⟩ := g11
    refine R_iastore hW (i := 22) rfl rfl g11 (hg rfl hd) (fun h12 eh12 => ?_)
    replace hf := bnd_some eh12 hf
    have hW12 : WF 1 h12 := by rw [eh12]; exact hW
    obtain ⟨v13, e13⟩ : ∃ z : Int32, z = (s.1 + (1 : Int32)) := ⟨_, rfl⟩
    replace hf := bnd_some e13 hf
    refine R_iinc [some (.ref 0), some (.int v13)] (i := 23) rfl rfl (by rw [← e13]; rfl) ?_
    refine R_goto (i := 24) rfl ?_
    obtain ⟨hj, hs⟩ := Prod.mk.inj (Option.some.inj hf)
    subst hj
    subst hs
    exact k0 rfl hW12
set_option maxRecDepth 100000 in
set_option maxHeartbeats 4000000 in
theorem f200_l {d N : Nat} {h : Hp} {Q : Option Value → Hp → Prop} {q : Hp} (hf : f200 N h = some q) (hW : WF 1 h) (hd : 5 ≤ d) (kk : WF 1 q → Q (none) q) : R 1 d 200 0 [some (.ref 0), none] [] h Q := by
  unfold f200 at hf
  refine R_aload_n (i := 0) rfl rfl ?_
  refine R_getF hW (i := 1) rfl rfl (Nat.le_of_ble_eq_true rfl) rfl ?_
  refine R_iconst (i := 2) rfl ?_
  refine R_iaload hW (i := 3) rfl rfl (by decide) ?_
  refine R_bipush (i := 4) rfl ?_
  refine R_icmpne (i := 5) rfl (fun c1 => ?_) (fun c1 => ?_)
  · rw [if_neg c1] at hf
    exact f200_b33_l hf hW hd kk
  · rw [if_pos c1] at hf
    refine R_iconst (i := 6) rfl ?_
    refine R_istore_n [some (.ref 0), some (.int (0 : Int32))] (i := 7) rfl rfl ?_
    have zq14 := bind_some hf
    clear hf
    obtain ⟨q14, eq14, hf⟩ := zq14
    refine lp_link (P := fun u8 => WF 1 u8.2 → R 1 d 200 8 [some (.ref 0), some (.int u8.1)] [] u8.2 Q) (E := fun e u8 => WF 1 u8.2 → R 1 d 200 25 [some (.ref 0), none] [] u8.2 Q) (fun s j s' hb k0 ke hWs => f200_l8_l hb hWs hd k0 (fun z y => ke 0 z y)) N ((0 : Int32), h) q14.1 q14.2 eq14 ?_ hW
    intro hW14
    refine R_aload_n (i := 25) rfl rfl ?_
    refine R_getF hW14 (i := 26) rfl rfl (Nat.le_of_ble_eq_true rfl) rfl ?_
    refine R_iconst (i := 27) rfl ?_
    refine R_dup2 (i := 28) rfl rfl rfl ?_
    refine R_iaload hW14 (i := 29) rfl rfl (by decide) ?_
    refine R_iconst (i := 30) rfl ?_
    refine R_isub (i := 31) rfl ?_
    refine R_iastore hW14 (i := 32) rfl rfl (by decide) (hg rfl hd) (fun h15 eh15 => ?_)
    replace hf := bnd_some eh15 hf
    have hW15 : WF 1 h15 := by rw [eh15]; exact hW14
    exact f200_b33_l hf hW15 hd kk
set_option maxRecDepth 100000 in
set_option maxHeartbeats 4000000 in
theorem f201_b113_l {d N : Nat} {x3 : Int32} {x4 : Int32} {h : Hp} {Q : Option Value → Hp → Prop} {q : Int32 × Hp} (hf : f201_b113 N x3 x4 h = some q) (hW : WF 1 h) (hd : 8 ≤ d) (kk : WF 1 q.2 → Q (some (.int q.1)) q.2) : R 1 d 201 113 [some (.ref 0), none, none, some (.int x3), some (.int x4)] [] h Q := by
  unfold f201_b113 at hf
  refine R_aload_n (i := 113) rfl rfl ?_
  refine R_getF hW (i := 114) rfl rfl (Nat.le_of_ble_eq_true rfl) rfl ?_
  refine R_bipush (i := 115) rfl ?_
  refine R_dup2 (i := 116) rfl rfl rfl ?_
  refine R_iaload hW (i := 117) rfl rfl (by decide) ?_
  refine R_aload_n (i := 118) rfl rfl ?_
  refine R_getF hW (i := 119) rfl rfl (Nat.le_of_ble_eq_true rfl) rfl ?_
  refine R_bipush (i := 120) rfl ?_
  refine R_iaload hW (i := 121) rfl rfl (by decide) ?_
  refine R_iload (i := 122) rfl rfl ?_
  refine R_icmpgt (i := 123) rfl (fun c19 => ?_) (fun c19 => ?_)
  · rw [if_pos c19] at hf
    refine R_iconst (i := 126) rfl ?_
    refine R_iadd (i := 127) rfl ?_
    refine R_iastore hW (i := 128) rfl rfl (by decide) (hg rfl hd) (fun h20 eh20 => ?_)
    replace hf := bnd_some eh20 hf
    have hW20 : WF 1 h20 := by rw [eh20]; exact hW
    refine R_iload_n (i := 129) rfl rfl ?_
    have hz := Option.some.inj hf
    subst hz
    exact R_iret (i := 130) rfl (kk hW20)
  · rw [if_neg c19] at hf
    refine R_iconst (i := 124) rfl ?_
    refine R_goto (i := 125) rfl ?_
    refine R_iadd (i := 127) rfl ?_
    refine R_iastore hW (i := 128) rfl rfl (by decide) (hg rfl hd) (fun h21 eh21 => ?_)
    replace hf := bnd_some eh21 hf
    have hW21 : WF 1 h21 := by rw [eh21]; exact hW
    refine R_iload_n (i := 129) rfl rfl ?_
    have hz := Option.some.inj hf
    subst hz
    exact R_iret (i := 130) rfl (kk hW21)
set_option maxRecDepth 100000 in
set_option maxHeartbeats 4000000 in
theorem f201_b111_l {d N : Nat} {x3 : Int32} {x4 : Int32} {t0 : Int32} {t1 : Int32} {t2 : Int32} {h : Hp} {Q : Option Value → Hp → Prop} {q : Int32 × Hp} (hf : f201_b111 N x3 x4 t0 t1 t2 h = some q) (hW : WF 1 h) (hd : 8 ≤ d) (kk : WF 1 q.2 → Q (some (.int q.1)) q.2) : R 1 d 201 111 [some (.ref 0), none, none, some (.int x3), some (.int x4)] [.int t0, .int t1, .int t2, .ref 1] h Q := by
  unfold f201_b111 at hf
  refine R_iadd (i := 111) rfl ?_
  have g17 := gd_some hf
  clear hf
  obtain ⟨g17, hf⟩ := g17
  refine R_iastore hW (i := 112) rfl rfl g17 (hg rfl hd) (fun h18 eh18 => ?_)
  replace hf := bnd_some eh18 hf
  have hW18 : WF 1 h18 := by rw [eh18]; exact hW
  exact f201_b113_l hf hW18 hd kk
set_option maxRecDepth 100000 in
set_option maxHeartbeats 4000000 in
theorem f201_l {d N : Nat} {p1 : Int32} {p2 : Int32} {h : Hp} {Q : Option Value → Hp → Prop} {q : Int32 × Hp} (hf : f201 N p1 p2 h = some q) (hW : WF 1 h) (hd : 8 ≤ d) (kk : WF 1 q.2 → Q (some (.int q.1)) q.2) : R 1 d 201 0 [some (.ref 0), some (.int p1), some (.int p2), none, none] [] h Q := by
  obtain ⟨d, rfl⟩ : ∃ z, d = z + 1 := ⟨d - 1, by omega⟩
  unfold f201 at hf
  refine R_aload_n (i := 0) rfl rfl ?_
  refine R_getF hW (i := 1) rfl rfl (Nat.le_of_ble_eq_true rfl) rfl ?_
  refine R_bipush (i := 2) rfl ?_
  refine R_iaload hW (i := 3) rfl rfl (by decide) ?_
  refine R_ifeq (i := 4) rfl (fun c1 => ?_) (fun c1 => ?_)
  · rw [if_pos c1] at hf
    refine R_iconst (i := 27) rfl ?_
    have hz := Option.some.inj hf
    subst hz
    exact R_iret (i := 28) rfl (kk hW)
  · rw [if_neg c1] at hf
    refine R_iload_n (i := 5) rfl rfl ?_
    refine R_iconst (i := 6) rfl ?_
    refine R_bipush (i := 7) rfl ?_
    refine R_call (vs := [.int p1, .int (0 : Int32), .int (11 : Int32)]) (st' := []) (i := 8) rfl (by decide) (by decide) rfl rfl (Nat.le_of_ble_eq_true rfl) rfl (f139_l (hh rfl hd) ?_)
    refine R_ifeq (i := 9) rfl (fun c2 => ?_) (fun c2 => ?_)
    · rw [if_pos c2] at hf
      refine R_iconst (i := 27) rfl ?_
      have hz := Option.some.inj hf
      subst hz
      exact R_iret (i := 28) rfl (kk hW)
    · rw [if_neg c2] at hf
      refine R_iload_n (i := 10) rfl rfl ?_
      refine R_iconst (i := 11) rfl ?_
      refine R_iconst (i := 12) rfl ?_
      refine R_call (vs := [.int p2, .int (0 : Int32), .int (3 : Int32)]) (st' := []) (i := 13) rfl (by decide) (by decide) rfl rfl (Nat.le_of_ble_eq_true rfl) rfl (f139_l (hh rfl hd) ?_)
      refine R_ifeq (i := 14) rfl (fun c3 => ?_) (fun c3 => ?_)
      · rw [if_pos c3] at hf
        refine R_iconst (i := 27) rfl ?_
        have hz := Option.some.inj hf
        subst hz
        exact R_iret (i := 28) rfl (kk hW)
      · rw [if_neg c3] at hf
        refine R_aload_n (i := 15) rfl rfl ?_
        refine R_getF hW (i := 16) rfl rfl (Nat.le_of_ble_eq_true rfl) rfl ?_
        refine R_bipush (i := 17) rfl ?_
        refine R_aload_n (i := 18) rfl rfl ?_
        refine R_getF hW (i := 19) rfl rfl (Nat.le_of_ble_eq_true rfl) rfl ?_
        refine R_bipush (i := 20) rfl ?_
        refine R_iaload hW (i := 21) rfl rfl (by decide) ?_
        refine R_iadd (i := 22) rfl ?_
        have g4 := gd_some hf
        clear hf
        obtain ⟨g4, hf⟩ := g4
        refine R_iaload hW (i := 23) rfl rfl g4 ?_
        refine R_iload_n (i := 24) rfl rfl ?_
        refine R_call (vs := [.int (hI h 1 (ix ((20 : Int32) + (hI h 1 (ix (12 : Int32)))))), .int p2]) (st' := []) (i := 25) rfl (by decide) (by decide) rfl rfl (Nat.le_of_ble_eq_true rfl) rfl (f141_l (hh rfl hd) ?_)
        refine R_ifne (i := 26) rfl (fun c5 => ?_) (fun c5 => ?_)
        · rw [if_neg c5] at hf
          refine R_aload_n (i := 29) rfl rfl ?_
          refine R_aload_n (i := 30) rfl rfl ?_
          have zq6 := bind_some hf
          clear hf
          obtain ⟨q6, eq6, hf⟩ := zq6
          refine R_callV (vs := []) (st' := [.ref 0]) hW (i := 31) rfl rfl rfl (Nat.le_of_ble_eq_true rfl) rfl (Nat.le_of_ble_eq_true rfl) rfl (f198_l eq6 hW (hh rfl hd) ?_)
          refine R_iload_n (i := 32) rfl rfl ?_
          refine R_iload_n (i := 33) rfl rfl ?_
          have zq7 := bind_some hf
          clear hf
          obtain ⟨q7, eq7, hf⟩ := zq7
          refine R_callV (vs := [.int q6, .int p1, .int p2]) (st' := []) hW (i := 34) rfl rfl rfl (Nat.le_of_ble_eq_true rfl) rfl (Nat.le_of_ble_eq_true rfl) rfl (f193_l eq7 hW (hh rfl hd) (fun hW7 => ?_))
          refine R_istore_n [some (.ref 0), some (.int p1), some (.int p2), some (.int q7.1), none] (i := 35) rfl rfl ?_
          refine R_iload_n (i := 36) rfl rfl ?_
          refine R_ifge (i := 37) rfl (fun c8 => ?_) (fun c8 => ?_)
          · rw [if_pos c8] at hf
            refine R_aload_n (i := 40) rfl rfl ?_
            have zq9 := bind_some hf
            clear hf
            obtain ⟨q9, eq9, hf⟩ := zq9
            refine R_callV (vs := []) (st' := []) hW7 (i := 41) rfl rfl rfl (Nat.le_of_ble_eq_true rfl) rfl (Nat.le_of_ble_eq_true rfl) rfl (f200_l eq9 hW7 (hh rfl hd) (fun hW9 => ?_))
            refine R_aload_n (i := 42) rfl rfl ?_
            refine R_getF hW9 (i := 43) rfl rfl (Nat.le_of_ble_eq_true rfl) rfl ?_
            refine R_bipush (i := 44) rfl ?_
            refine R_iaload hW9 (i := 45) rfl rfl (by decide) ?_
            refine R_topi (fun v10 e10 => ?_)
            replace hf := bnd_some e10 hf
            refine R_istore [some (.ref 0), some (.int p1), some (.int p2), some (.int q7.1), some (.int v10)] (i := 46) rfl rfl ?_
            refine R_iload_n (i := 47) rfl rfl ?_
            refine R_sipush (i := 48) rfl ?_
            refine R_icmplt (i := 49) rfl (fun c11 => ?_) (fun c11 => ?_)
            · rw [if_pos c11] at hf
              refine R_aload_n (i := 74) rfl rfl ?_
              refine R_getF hW9 (i := 75) rfl rfl (Nat.le_of_ble_eq_true rfl) rfl ?_
              refine R_bipush (i := 76) rfl ?_
              refine R_iload_n (i := 77) rfl rfl ?_
              refine R_call (vs := [.int q7.1]) (st' := [.int (10 : Int32), .ref 1]) (i := 78) rfl (by decide) (by decide) rfl rfl (Nat.le_of_ble_eq_true rfl) rfl (f144_l (hh rfl hd) ?_)
              refine R_iastore hW9 (i := 79) rfl rfl (by decide) (hg rfl hd) (fun h12 eh12 => ?_)
              replace hf := bnd_some eh12 hf
              have hW12 : WF 1 h12 := by rw [eh12]; exact hW9
              refine R_aload_n (i := 80) rfl rfl ?_
              refine R_getF hW12 (i := 81) rfl rfl (Nat.le_of_ble_eq_true rfl) rfl ?_
              refine R_bipush (i := 82) rfl ?_
              refine R_iload_n (i := 83) rfl rfl ?_
              refine R_call (vs := [.int q7.1]) (st' := [.int (11 : Int32), .ref 1]) (i := 84) rfl (by decide) (by decide) rfl rfl (Nat.le_of_ble_eq_true rfl) rfl (f145_l (hh rfl hd) ?_)
              refine R_iastore hW12 (i := 85) rfl rfl (by decide) (hg rfl hd) (fun h13 eh13 => ?_)
              replace hf := bnd_some eh13 hf
              have hW13 : WF 1 h13 := by rw [eh13]; exact hW12
              refine R_aload_n (i := 86) rfl rfl ?_
              refine R_getF hW13 (i := 87) rfl rfl (Nat.le_of_ble_eq_true rfl) rfl ?_
              refine R_bipush (i := 88) rfl ?_
              refine R_iload_n (i := 89) rfl rfl ?_
              refine R_call (vs := [.int q7.1]) (st' := [.int (12 : Int32), .ref 1]) (i := 90) rfl (by decide) (by decide) rfl rfl (Nat.le_of_ble_eq_true rfl) rfl (f146_l (hh rfl hd) ?_)
              refine R_iastore hW13 (i := 91) rfl rfl (by decide) (hg rfl hd) (fun h14 eh14 => ?_)
              replace hf := bnd_some eh14 hf
              have hW14 : WF 1 h14 := by rw [eh14]; exact hW13
              refine R_aload_n (i := 92) rfl rfl ?_
              refine R_getF hW14 (i := 93) rfl rfl (Nat.le_of_ble_eq_true rfl) rfl ?_
              refine R_bipush (i := 94) rfl ?_
              refine R_iload_n (i := 95) rfl rfl ?_
              refine R_call (vs := [.int q7.1]) (st' := [.int (13 : Int32), .ref 1]) (i := 96) rfl (by decide) (by decide) rfl rfl (Nat.le_of_ble_eq_true rfl) rfl (f147_l (hh rfl hd) ?_)
              refine R_iastore hW14 (i := 97) rfl rfl (by decide) (hg rfl hd) (fun h15 eh15 => ?_)
              replace hf := bnd_some eh15 hf
              have hW15 : WF 1 h15 := by rw [eh15]; exact hW14
              refine R_aload_n (i := 98) rfl rfl ?_
              refine R_getF hW15 (i := 99) rfl rfl (Nat.le_of_ble_eq_true rfl) rfl ?_
              refine R_bipush (i := 100) rfl ?_
              refine R_dup2 (i := 101) rfl rfl rfl ?_
              refine R_iaload hW15 (i := 102) rfl rfl (by decide) ?_
              refine R_aload_n (i := 103) rfl rfl ?_
              refine R_getF hW15 (i := 104) rfl rfl (Nat.le_of_ble_eq_true rfl) rfl ?_
              refine R_bipush (i := 105) rfl ?_
              refine R_iaload hW15 (i := 106) rfl rfl (by decide) ?_
              refine R_ifne (i := 107) rfl (fun c16 => ?_) (fun c16 => ?_)
              · rw [if_neg c16] at hf
                refine R_iconst (i := 110) rfl ?_
                refine R_weak [some (.ref 0), none, none, some (.int q7.1), some (.int v10)] ⟨Or.inr rfl, Or.inl rfl, Or.inl rfl, Or.inr rfl, Or.inr rfl, trivial⟩ ?_
                exact f201_b111_l hf hW15 hd kk
              · rw [if_pos c16] at hf
                refine R_iconst (i := 108) rfl ?_
                refine R_goto (i := 109) rfl ?_
                refine R_weak [some (.ref 0), none, none, some (.int q7.1), some (.int v10)] ⟨Or.inr rfl, Or.inl rfl, Or.inl rfl, Or.inr rfl, Or.inr rfl, trivial⟩ ?_
                exact f201_b111_l hf hW15 hd kk
            · rw [if_neg c11] at hf
              refine R_aload_n (i := 50) rfl rfl ?_
              refine R_getF hW9 (i := 51) rfl rfl (Nat.le_of_ble_eq_true rfl) rfl ?_
              refine R_bipush (i := 52) rfl ?_
              refine R_iload_n (i := 53) rfl rfl ?_
              refine R_sipush (i := 54) rfl ?_
              refine R_isub (i := 55) rfl ?_
              refine R_bipush (i := 56) rfl ?_
              refine R_idiv (i := 57) rfl (by decide) ?_
              refine R_iastore hW9 (i := 58) rfl rfl (by decide) (hg rfl hd) (fun h22 eh22 => ?_)
              replace hf := bnd_some eh22 hf
              have hW22 : WF 1 h22 := by rw [eh22]; exact hW9
              refine R_aload_n (i := 59) rfl rfl ?_
              refine R_getF hW22 (i := 60) rfl rfl (Nat.le_of_ble_eq_true rfl) rfl ?_
              refine R_bipush (i := 61) rfl ?_
              refine R_iload_n (i := 62) rfl rfl ?_
              refine R_sipush (i := 63) rfl ?_
              refine R_isub (i := 64) rfl ?_
              refine R_bipush (i := 65) rfl ?_
              refine R_irem (i := 66) rfl (by decide) ?_
              refine R_iastore hW22 (i := 67) rfl rfl (by decide) (hg rfl hd) (fun h23 eh23 => ?_)
              replace hf := bnd_some eh23 hf
              have hW23 : WF 1 h23 := by rw [eh23]; exact hW22
              refine R_aload_n (i := 68) rfl rfl ?_
              refine R_getF hW23 (i := 69) rfl rfl (Nat.le_of_ble_eq_true rfl) rfl ?_
              refine R_bipush (i := 70) rfl ?_
              refine R_iconst (i := 71) rfl ?_
              refine R_iastore hW23 (i := 72) rfl rfl (by decide) (hg rfl hd) (fun h24 eh24 => ?_)
              replace hf := bnd_some eh24 hf
              have hW24 : WF 1 h24 := by rw [eh24]; exact hW23
              refine R_goto (i := 73) rfl ?_
              refine R_weak [some (.ref 0), none, none, some (.int q7.1), some (.int v10)] ⟨Or.inr rfl, Or.inl rfl, Or.inl rfl, Or.inr rfl, Or.inr rfl, trivial⟩ ?_
              exact f201_b113_l hf hW24 hd kk
          · rw [if_neg c8] at hf
            refine R_iconst (i := 38) rfl ?_
            have hz := Option.some.inj hf
            subst hz
            exact R_iret (i := 39) rfl (kk hW7)
        · rw [if_pos c5] at hf
          refine R_iconst (i := 27) rfl ?_
          have hz := Option.some.inj hf
          subst hz
          exact R_iret (i := 28) rfl (kk hW)
set_option maxRecDepth 100000 in
set_option maxHeartbeats 4000000 in
theorem f202_l {d N : Nat} {p1 : Int32} {h : Hp} {Q : Option Value → Hp → Prop} {q : Int32 × Hp} (hf : f202 N p1 h = some q) (hW : WF 1 h) (hd : 5 ≤ d) (kk : WF 1 q.2 → Q (some (.int q.1)) q.2) : R 1 d 202 0 [some (.ref 0), some (.int p1)] [] h Q := by
  obtain ⟨d, rfl⟩ : ∃ z, d = z + 1 := ⟨d - 1, by omega⟩
  unfold f202 at hf
  refine R_iload_n (i := 0) rfl rfl ?_
  refine R_iconst (i := 1) rfl ?_
  refine R_icmpne (i := 2) rfl (fun c1 => ?_) (fun c1 => ?_)
  · rw [if_neg c1] at hf
    refine R_iload_n (i := 10) rfl rfl ?_
    refine R_iconst (i := 11) rfl ?_
    refine R_bipush (i := 12) rfl ?_
    refine R_call (vs := [.int p1, .int (0 : Int32), .int (11 : Int32)]) (st' := []) (i := 13) rfl (by decide) (by decide) rfl rfl (Nat.le_of_ble_eq_true rfl) rfl (f139_l (hh rfl hd) ?_)
    refine R_ifeq (i := 14) rfl (fun c2 => ?_) (fun c2 => ?_)
    · rw [if_pos c2] at hf
      refine R_iconst (i := 21) rfl ?_
      have hz := Option.some.inj hf
      subst hz
      exact R_iret (i := 22) rfl (kk hW)
    · rw [if_neg c2] at hf
      refine R_aload_n (i := 15) rfl rfl ?_
      refine R_getF hW (i := 16) rfl rfl (Nat.le_of_ble_eq_true rfl) rfl ?_
      refine R_iconst (i := 17) rfl ?_
      refine R_iaload hW (i := 18) rfl rfl (by decide) ?_
      refine R_bipush (i := 19) rfl ?_
      refine R_icmpne (i := 20) rfl (fun c3 => ?_) (fun c3 => ?_)
      · rw [if_neg c3] at hf
        refine R_aload_n (i := 23) rfl rfl ?_
        refine R_getF hW (i := 24) rfl rfl (Nat.le_of_ble_eq_true rfl) rfl ?_
        refine R_bipush (i := 25) rfl ?_
        refine R_aload_n (i := 26) rfl rfl ?_
        refine R_getF hW (i := 27) rfl rfl (Nat.le_of_ble_eq_true rfl) rfl ?_
        refine R_iconst (i := 28) rfl ?_
        refine R_iaload hW (i := 29) rfl rfl (by decide) ?_
        refine R_iadd (i := 30) rfl ?_
        refine R_iload_n (i := 31) rfl rfl ?_
        have g4 := gd_some hf
        clear hf
        obtain ⟨g4, hf⟩ := g4
        refine R_iastore hW (i := 32) rfl rfl g4 (hg rfl hd) (fun h5 eh5 => ?_)
        replace hf := bnd_some eh5 hf
        have hW5 : WF 1 h5 := by rw [eh5]; exact hW
        refine R_aload_n (i := 33) rfl rfl ?_
        refine R_getF hW5 (i := 34) rfl rfl (Nat.le_of_ble_eq_true rfl) rfl ?_
        refine R_iconst (i := 35) rfl ?_
        refine R_dup2 (i := 36) rfl rfl rfl ?_
        refine R_iaload hW5 (i := 37) rfl rfl (by decide) ?_
        refine R_iconst (i := 38) rfl ?_
        refine R_iadd (i := 39) rfl ?_
        refine R_iastore hW5 (i := 40) rfl rfl (by decide) (hg rfl hd) (fun h6 eh6 => ?_)
        replace hf := bnd_some eh6 hf
        have hW6 : WF 1 h6 := by rw [eh6]; exact hW5
        refine R_aload_n (i := 41) rfl rfl ?_
        refine R_getF hW6 (i := 42) rfl rfl (Nat.le_of_ble_eq_true rfl) rfl ?_
        refine R_iconst (i := 43) rfl ?_
        refine R_iaload hW6 (i := 44) rfl rfl (by decide) ?_
        have hz := Option.some.inj hf
        subst hz
        exact R_iret (i := 45) rfl (kk hW6)
      · rw [if_pos c3] at hf
        refine R_iconst (i := 21) rfl ?_
        have hz := Option.some.inj hf
        subst hz
        exact R_iret (i := 22) rfl (kk hW)
  · rw [if_pos c1] at hf
    refine R_aload_n (i := 3) rfl rfl ?_
    refine R_getF hW (i := 4) rfl rfl (Nat.le_of_ble_eq_true rfl) rfl ?_
    refine R_iconst (i := 5) rfl ?_
    refine R_iconst (i := 6) rfl ?_
    refine R_iastore hW (i := 7) rfl rfl (by decide) (hg rfl hd) (fun h7 eh7 => ?_)
    replace hf := bnd_some eh7 hf
    have hW7 : WF 1 h7 := by rw [eh7]; exact hW
    refine R_iconst (i := 8) rfl ?_
    have hz := Option.some.inj hf
    subst hz
    exact R_iret (i := 9) rfl (kk hW7)
set_option maxRecDepth 100000 in
set_option maxHeartbeats 4000000 in
theorem f203_l4_l {d N : Nat} {x0 : Int32} {h : Hp} {s : Int32 × Int32} {Q : Option Value → Hp → Prop} {j : Nat} {s' : Int32 × Int32} (hf : f203_l4 N x0 h s = some (j, s')) (hW : WF 1 h) (hd : 0 ≤ d) (k0 : j = 0 → R 1 d 203 4 [some (.int x0), some (.int s'.1), some (.int s'.2)] [] h Q) (k1 : j = 1 → R 1 d 203 17 [none, some (.int s'.1), none] [] h Q) : R 1 d 203 4 [some (.int x0), some (.int s.1), some (.int s.2)] [] h Q := by
  unfold f203_l4 at hf
  refine R_iload_n (i := 4) rfl rfl ?_
  refine R_bipush (i := 5) rfl ?_
  refine R_icmpge (i := 6) rfl (fun c1 => ?_) (fun c1 => ?_)
  · rw [if_pos c1] at hf
    obtain ⟨hj, hs⟩ := Prod.mk.inj (Option.some.inj hf)
    subst hj
    subst hs
    refine R_weak [none, some (.int s.1), none] ⟨Or.inl rfl, Or.inr rfl, Or.inl rfl, trivial⟩ ?_
    exact k1 rfl
  · rw [if_neg c1] at hf
    refine R_iload_n (i := 7) rfl rfl ?_
    refine R_iload_n (i := 8) rfl rfl ?_
    refine R_iload_n (i := 9) rfl rfl ?_
    refine R_ishr (i := 10) rfl ?_
    refine R_iconst (i := 11) rfl ?_
    refine R_iand (i := 12) rfl ?_
    refine R_iadd (i := 13) rfl ?_
    refine R_topi (fun v2 e2 => ?_)
    replace hf := bnd_some e2 hf
    refine R_istore_n [some (.int x0), some (.int v2), some (.int s.2)] (i := 14) rfl rfl ?_
    obtain ⟨v3, e3⟩ : ∃ z : Int32, z = (s.2 + (1 : Int32)) := ⟨_, rfl⟩
    replace hf := bnd_some e3 hf
    refine R_iinc [some (.int x0), some (.int v2), some (.int v3)] (i := 15) rfl rfl (by rw [← e3]; rfl) ?_
    refine R_goto (i := 16) rfl ?_
    obtain ⟨hj, hs⟩ := Prod.mk.inj (Option.some.inj hf)
    subst hj
    subst hs
    exact k0 rfl
set_option maxRecDepth 100000 in
set_option maxHeartbeats 4000000 in
theorem f203_l {d N : Nat} {p0 : Int32} {h : Hp} {Q : Option Value → Hp → Prop} {q : Int32} (hf : f203 N p0 h = some q) (hW : WF 1 h) (hd : 0 ≤ d) (kk : Q (some (.int q)) h) : R 1 d 203 0 [some (.int p0), none, none] [] h Q := by
  unfold f203 at hf
  refine R_iconst (i := 0) rfl ?_
  refine R_istore_n [some (.int p0), some (.int (0 : Int32)), none] (i := 1) rfl rfl ?_
  refine R_iconst (i := 2) rfl ?_
  refine R_istore_n [some (.int p0), some (.int (0 : Int32)), some (.int (0 : Int32))] (i := 3) rfl rfl ?_
  have zq4 := bind_some hf
  clear hf
  obtain ⟨q4, eq4, hf⟩ := zq4
  refine lp_link (P := fun u4 => R 1 d 203 4 [some (.int p0), some (.int u4.1), some (.int u4.2)] [] h Q) (E := fun e u4 => R 1 d 203 17 [none, some (.int u4.1), none] [] h Q) (fun s j s' hb k0 ke => f203_l4_l hb hW hd k0 (fun z => ke 0 z)) N ((0 : Int32), (0 : Int32)) q4.1 q4.2 eq4 ?_
  refine R_iload_n (i := 17) rfl rfl ?_
  have hz := Option.some.inj hf
  subst hz
  exact R_iret (i := 18) rfl kk
set_option maxRecDepth 100000 in
set_option maxHeartbeats 4000000 in
theorem f204_b100_l {d N : Nat} {x2 : Int32} {x3 : Int32} {x5 : Int32} {t0 : Int32} {t1 : Int32} {h : Hp} {Q : Option Value → Hp → Prop} {j : Nat} {s' : Int32 × Int32} (hf : f204_b100 N x2 x3 x5 t0 t1 h = some (j, s')) (hW : WF 1 h) (hd : 9 ≤ d) (k0 : j = 0 → R 1 d 204 70 [some (.ref 0), none, some (.int x2), some (.int x3), some (.int s'.1), some (.int s'.2), none] [] h Q) (k1 : j = 1 → R 1 d 204 104 [some (.ref 0), none, some (.int x2), some (.int x3), none, some (.int s'.2), none] [] h Q) : R 1 d 204 100 [some (.ref 0), none, some (.int x2), some (.int x3), none, some (.int x5), none] [.int t0, .int t1] h Q := by
  unfold f204_b100 at hf
  refine R_isub (i := 100) rfl ?_
  refine R_topi (fun v16 e16 => ?_)
  replace hf := bnd_some e16 hf
  refine R_istore [some (.ref 0), none, some (.int x2), some (.int x3), some (.int v16), some (.int x5), none] (i := 101) rfl rfl ?_
  obtain ⟨v17, e17⟩ : ∃ z : Int32, z = (x5 + (1 : Int32)) := ⟨_, rfl⟩
  replace hf := bnd_some e17 hf
  refine R_iinc [some (.ref 0), none, some (.int x2), some (.int x3), some (.int v16), some (.int v17), none] (i := 102) rfl rfl (by rw [← e17]; rfl) ?_
  refine R_goto (i := 103) rfl ?_
  obtain ⟨hj, hs⟩ := Prod.mk.inj (Option.some.inj hf)
  subst hj
  subst hs
  exact k0 rfl
set_option maxRecDepth 100000 in
set_option maxHeartbeats 4000000 in
theorem f204_b84_l {d N : Nat} {x2 : Int32} {x3 : Int32} {x4 : Int32} {x5 : Int32} {h : Hp} {Q : Option Value → Hp → Prop} {j : Nat} {s' : Int32 × Int32} (hf : f204_b84 N x2 x3 x4 x5 h = some (j, s')) (hW : WF 1 h) (hd : 9 ≤ d) (k0 : j = 0 → R 1 d 204 70 [some (.ref 0), none, some (.int x2), some (.int x3), some (.int s'.1), some (.int s'.2), none] [] h Q) (k1 : j = 1 → R 1 d 204 104 [some (.ref 0), none, some (.int x2), some (.int x3), none, some (.int s'.2), none] [] h Q) : R 1 d 204 84 [some (.ref 0), none, some (.int x2), some (.int x3), some (.int x4), some (.int x5), none] [] h Q := by
  obtain ⟨d, rfl⟩ : ∃ z, d = z + 1 := ⟨d - 1, by omega⟩
  unfold f204_b84 at hf
  refine R_iload (i := 84) rfl rfl ?_
  refine R_aload_n (i := 85) rfl rfl ?_
  refine R_getF hW (i := 86) rfl rfl (Nat.le_of_ble_eq_true rfl) rfl ?_
  refine R_bipush (i := 87) rfl ?_
  refine R_aload_n (i := 88) rfl rfl ?_
  refine R_getF hW (i := 89) rfl rfl (Nat.le_of_ble_eq_true rfl) rfl ?_
  refine R_bipush (i := 90) rfl ?_
  refine R_iaload hW (i := 91) rfl rfl (by decide) ?_
  refine R_iadd (i := 92) rfl ?_
  have g14 := gd_some hf
  clear hf
  obtain ⟨g14, hf⟩ := g14
  refine R_iaload hW (i := 93) rfl rfl g14 ?_
  refine R_iload (i := 94) rfl rfl ?_
  refine R_call (vs := [.int (hI h 1 (ix ((20 : Int32) + (hI h 1 (ix (12 : Int32)))))), .int x5]) (st' := [.int x4]) (i := 95) rfl (by decide) (by decide) rfl rfl (Nat.le_of_ble_eq_true rfl) rfl (f141_l (hh rfl hd) ?_)
  refine R_ifeq (i := 96) rfl (fun c15 => ?_) (fun c15 => ?_)
  · rw [if_pos c15] at hf
    refine R_iconst (i := 99) rfl ?_
    refine R_weak [some (.ref 0), none, some (.int x2), some (.int x3), none, some (.int x5), none] ⟨Or.inr rfl, Or.inr rfl, Or.inr rfl, Or.inr rfl, Or.inl rfl, Or.inr rfl, Or.inr rfl, trivial⟩ ?_
    exact f204_b100_l hf hW hd k0 k1
  · rw [if_neg c15] at hf
    refine R_iconst (i := 97) rfl ?_
    refine R_goto (i := 98) rfl ?_
    refine R_weak [some (.ref 0), none, some (.int x2), some (.int x3), none, some (.int x5), none] ⟨Or.inr rfl, Or.inr rfl, Or.inr rfl, Or.inr rfl, Or.inl rfl, Or.inr rfl, Or.inr rfl, trivial⟩ ?_
    exact f204_b100_l hf hW hd k0 k1
set_option maxRecDepth 100000 in
set_option maxHeartbeats 4000000 in
theorem f204_l70_l {d N : Nat} {x2 : Int32} {x3 : Int32} {h : Hp} {s : Int32 × Int32} {Q : Option Value → Hp → Prop} {j : Nat} {s' : Int32 × Int32} (hf : f204_l70 N x2 x3 h s = some (j, s')) (hW : WF 1 h) (hd : 9 ≤ d) (k0 : j = 0 → R 1 d 204 70 [some (.ref 0), none, some (.int x2), some (.int x3), some (.int s'.1), some (.int s'.2), none] [] h Q) (k1 : j = 1 → R 1 d 204 104 [some (.ref 0), none, some (.int x2), some (.int x3), none, some (.int s'.2), none] [] h Q) : R 1 d 204 70 [some (.ref 0), none, some (.int x2), some (.int x3), some (.int s.1), some (.int s.2), none] [] h Q := by
  obtain ⟨d, rfl⟩ : ∃ z, d = z + 1 := ⟨d - 1, by omega⟩
  unfold f204_l70 at hf
  refine R_aload_n (i := 70) rfl rfl ?_
  refine R_getF hW (i := 71) rfl rfl (Nat.le_of_ble_eq_true rfl) rfl ?_
  refine R_bipush (i := 72) rfl ?_
  refine R_aload_n (i := 73) rfl rfl ?_
  refine R_getF hW (i := 74) rfl rfl (Nat.le_of_ble_eq_true rfl) rfl ?_
  refine R_bipush (i := 75) rfl ?_
  refine R_iaload hW (i := 76) rfl rfl (by decide) ?_
  refine R_iadd (i := 77) rfl ?_
  have g12 := gd_some hf
  clear hf
  obtain ⟨g12, hf⟩ := g12
  refine R_iaload hW (i := 78) rfl rfl g12 ?_
  refine R_iload (i := 79) rfl rfl ?_
  refine R_call (vs := [.int (hI h 1 (ix ((20 : Int32) + (hI h 1 (ix (12 : Int32)))))), .int s.2]) (st' := []) (i := 80) rfl (by decide) (by decide) rfl rfl (Nat.le_of_ble_eq_true rfl) rfl (f141_l (hh rfl hd) ?_)
  refine R_ifeq (i := 81) rfl (fun c13 => ?_) (fun c13 => ?_)
  · rw [if_pos c13] at hf
    exact f204_b84_l hf hW hd k0 k1
  · rw [if_neg c13] at hf
    refine R_iload (i := 82) rfl rfl ?_
    refine R_ifle (i := 83) rfl (fun c18 => ?_) (fun c18 => ?_)
    · rw [if_pos c18] at hf
      obtain ⟨hj, hs⟩ := Prod.mk.inj (Option.some.inj hf)
      subst hj
      subst hs
      refine R_weak [some (.ref 0), none, some (.int x2), some (.int x3), none, some (.int s.2), none] ⟨Or.inr rfl, Or.inr rfl, Or.inr rfl, Or.inr rfl, Or.inl rfl, Or.inr rfl, Or.inr rfl, trivial⟩ ?_
      exact k1 rfl
    · rw [if_neg c18] at hf
      exact f204_b84_l hf hW hd k0 k1
set_option maxRecDepth 100000 in
set_option maxHeartbeats 4000000 in
theorem f204_l15_l {d N : Nat} {s : Int32 × Int32 × Hp} {Q : Option Value → Hp → Prop} {j : Nat} {s' : Int32 × Int32 × Hp} (hf : f204_l15 N s = some (j, s')) (hW : WF 1 s.2.2) (hd : 9 ≤ d) (k0 : j = 0 → WF 1 s'.2.2 → R 1 d 204 15 [some (.ref 0), none, some (.int s'.1), some (.int s'.2.1), none, none, none] [] s'.2.2 Q) (k1 : j = 1 → WF 1 s'.2.2 → R 1 d 204 45 [none, none, none, some (.int s'.2.1), none, none, none] [] s'.2.2 Q) (k2 : j = 2 → WF 1 s'.2.2 → R 1 d 204 116 [some (.ref 0), none, none, none, none, none, none] [] s'.2.2 Q) : R 1 d 204 15 [some (.ref 0), none, some (.int s.1), some (.int s.2.1), none, none, none] [] s.2.2 Q := by
  obtain ⟨d, rfl⟩ : ∃ z, d = z + 1 := ⟨d - 1, by omega⟩
  unfold f204_l15 at hf
  refine R_iload_n (i := 15) rfl rfl ?_
  refine R_aload_n (i := 16) rfl rfl ?_
  refine R_getF hW (i := 17) rfl rfl (Nat.le_of_ble_eq_true rfl) rfl ?_
  refine R_iconst (i := 18) rfl ?_
  refine R_iaload hW (i := 19) rfl rfl (by decide) ?_
  refine R_icmpge (i := 20) rfl (fun c3 => ?_) (fun c3 => ?_)
  · rw [if_pos c3] at hf
    obtain ⟨hj, hs⟩ := Prod.mk.inj (Option.some.inj hf)
    subst hj
    subst hs
    refine R_weak [some (.ref 0), none, none, none, none, none, none] ⟨Or.inr rfl, Or.inr rfl, Or.inl rfl, Or.inl rfl, Or.inr rfl, Or.inr rfl, Or.inr rfl, trivial⟩ ?_
    exact k2 rfl hW
  · rw [if_neg c3] at hf
    refine R_aload_n (i := 21) rfl rfl ?_
    refine R_getF hW (i := 22) rfl rfl (Nat.le_of_ble_eq_true rfl) rfl ?_
    refine R_bipush (i := 23) rfl ?_
    refine R_iaload hW (i := 24) rfl rfl (by decide) ?_
    refine R_ifeq (i := 25) rfl (fun c4 => ?_) (fun c4 => ?_)
    · rw [if_pos c4] at hf
      obtain ⟨hj, hs⟩ := Prod.mk.inj (Option.some.inj hf)
      subst hj
      subst hs
      refine R_weak [none, none, none, some (.int s.2.1), none, none, none] ⟨Or.inl rfl, Or.inr rfl, Or.inl rfl, Or.inr rfl, Or.inr rfl, Or.inr rfl, Or.inr rfl, trivial⟩ ?_
      exact k1 rfl hW
    · rw [if_neg c4] at hf
      refine R_aload_n (i := 26) rfl rfl ?_
      refine R_getF hW (i := 27) rfl rfl (Nat.le_of_ble_eq_true rfl) rfl ?_
      refine R_bipush (i := 28) rfl ?_
      refine R_iaload hW (i := 29) rfl rfl (by decide) ?_
      refine R_aload_n (i := 30) rfl rfl ?_
      refine R_getF hW (i := 31) rfl rfl (Nat.le_of_ble_eq_true rfl) rfl ?_
      refine R_bipush (i := 32) rfl ?_
      refine R_iload_n (i := 33) rfl rfl ?_
      refine R_iadd (i := 34) rfl ?_
      have g5 := gd_some hf
      clear hf
      obtain ⟨g5, hf⟩ := g5
      refine R_iaload hW (i := 35) rfl rfl g5 ?_
      refine R_iconst (i := 36) rfl ?_
      refine R_idiv (i := 37) rfl (by decide) ?_
      refine R_iadd (i := 38) rfl ?_
      refine R_iconst (i := 39) rfl ?_
      refine R_isub (i := 40) rfl ?_
      refine R_iconst (i := 41) rfl ?_
      refine R_iconst (i := 42) rfl ?_
      refine R_call (vs := [.int (((hI s.2.2 1 (ix (10 : Int32))) + ((hI s.2.2 1 (ix ((66 : Int32) + s.2.1))) / (4 : Int32))) - (1 : Int32)), .int (0 : Int32), .int (2 : Int32)]) (st' := []) (i := 43) rfl (by decide) (by decide) rfl rfl (Nat.le_of_ble_eq_true rfl) rfl (f139_l (hh rfl hd) ?_)
      refine R_ifne (i := 44) rfl (fun c6 => ?_) (fun c6 => ?_)
      · rw [if_neg c6] at hf
        refine R_iload_n (i := 47) rfl rfl ?_
        refine R_aload_n (i := 48) rfl rfl ?_
        refine R_getF hW (i := 49) rfl rfl (Nat.le_of_ble_eq_true rfl) rfl ?_
        refine R_bipush (i := 50) rfl ?_
        refine R_aload_n (i := 51) rfl rfl ?_
        refine R_getF hW (i := 52) rfl rfl (Nat.le_of_ble_eq_true rfl) rfl ?_
        refine R_bipush (i := 53) rfl ?_
        refine R_iaload hW (i := 54) rfl rfl (by decide) ?_
        refine R_iadd (i := 55) rfl ?_
        have g7 := gd_some hf
        clear hf
        obtain ⟨g7, hf⟩ := g7
        refine R_iaload hW (i := 56) rfl rfl g7 ?_
        have zq8 := bind_some hf
        clear hf
        obtain ⟨q8, eq8, hf⟩ := zq8
        refine R_call (vs := [.int (hI s.2.2 1 (ix ((20 : Int32) + (hI s.2.2 1 (ix (12 : Int32))))))]) (st' := [.int s.1]) (i := 57) rfl (by decide) (by decide) rfl rfl (Nat.le_of_ble_eq_true rfl) rfl (f203_l eq8 hW (hh rfl hd) ?_)
        have g9 := gd_some hf
        clear hf
        obtain ⟨g9, hf⟩ := g9
        refine R_irem (i := 58) rfl g9 ?_
        refine R_topi (fun v10 e10 => ?_)
        replace hf := bnd_some e10 hf
        refine R_istore [some (.ref 0), none, some (.int s.1), some (.int s.2.1), some (.int v10), none, none] (i := 59) rfl rfl ?_
        refine R_iload_n (i := 60) rfl rfl ?_
        refine R_sipush (i := 61) rfl ?_
        refine R_imul (i := 62) rfl ?_
        refine R_bipush (i := 63) rfl ?_
        refine R_iadd (i := 64) rfl ?_
        refine R_sipush (i := 65) rfl ?_
        refine R_irem (i := 66) rfl (by decide) ?_
        refine R_topi (fun v11 e11 => ?_)
        replace hf := bnd_some e11 hf
        refine R_istore_n [some (.ref 0), none, some (.int v11), some (.int s.2.1), some (.int v10), none, none] (i := 67) rfl rfl ?_
        refine R_iconst (i := 68) rfl ?_
        refine R_istore [some (.ref 0), none, some (.int v11), some (.int s.2.1), some (.int v10), some (.int (0 : Int32)), none] (i := 69) rfl rfl ?_
        have zq19 := bind_some hf
        clear hf
        obtain ⟨q19, eq19, hf⟩ := zq19
        refine lp_link (P := fun u70 => R 1 (d + 1) 204 70 [some (.ref 0), none, some (.int v11), some (.int s.2.1), some (.int u70.1), some (.int u70.2), none] [] s.2.2 Q) (E := fun e u70 => R 1 (d + 1) 204 104 [some (.ref 0), none, some (.int v11), some (.int s.2.1), none, some (.int u70.2), none] [] s.2.2 Q) (fun s j s' hb k0 ke => f204_l70_l hb hW hd k0 (fun z => ke 0 z)) N (v10, (0 : Int32)) q19.1 q19.2 eq19 ?_
        refine R_aload_n (i := 104) rfl rfl ?_
        refine R_aload_n (i := 105) rfl rfl ?_
        refine R_getF hW (i := 106) rfl rfl (Nat.le_of_ble_eq_true rfl) rfl ?_
        refine R_bipush (i := 107) rfl ?_
        refine R_iload_n (i := 108) rfl rfl ?_
        refine R_iadd (i := 109) rfl ?_
        have g20 := gd_some hf
        clear hf
        obtain ⟨g20, hf⟩ := g20
        refine R_iaload hW (i := 110) rfl rfl g20 ?_
        refine R_iload (i := 111) rfl rfl ?_
        have zq21 := bind_some hf
        clear hf
        obtain ⟨q21, eq21, hf⟩ := zq21
        refine R_callV (vs := [.int (hI s.2.2 1 (ix ((66 : Int32) + s.2.1))), .int q19.2.2]) (st' := []) hW (i := 112) rfl rfl rfl (Nat.le_of_ble_eq_true rfl) rfl (Nat.le_of_ble_eq_true rfl) rfl (f201_l eq21 hW (hh rfl hd) (fun hW21 => ?_))
        refine R_istore [some (.ref 0), none, some (.int v11), some (.int s.2.1), none, some (.int q19.2.2), some (.int q21.1)] (i := 113) rfl rfl ?_
        obtain ⟨v22, e22⟩ : ∃ z : Int32, z = (s.2.1 + (1 : Int32)) := ⟨_, rfl⟩
        replace hf := bnd_some e22 hf
        refine R_iinc [some (.ref 0), none, some (.int v11), some (.int v22), none, some (.int q19.2.2), some (.int q21.1)] (i := 114) rfl rfl (by rw [← e22]; rfl) ?_
        refine R_goto (i := 115) rfl ?_
        obtain ⟨hj, hs⟩ := Prod.mk.inj (Option.some.inj hf)
        subst hj
        subst hs
        refine R_weak [some (.ref 0), none, some (.int v11), some (.int v22), none, none, none] ⟨Or.inr rfl, Or.inr rfl, Or.inr rfl, Or.inr rfl, Or.inr rfl, Or.inl rfl, Or.inl rfl, trivial⟩ ?_
        exact k0 rfl hW21
      · rw [if_pos c6] at hf
        obtain ⟨hj, hs⟩ := Prod.mk.inj (Option.some.inj hf)
        subst hj
        subst hs
        refine R_weak [none, none, none, some (.int s.2.1), none, none, none] ⟨Or.inl rfl, Or.inr rfl, Or.inl rfl, Or.inr rfl, Or.inr rfl, Or.inr rfl, Or.inr rfl, trivial⟩ ?_
        exact k1 rfl hW
set_option maxRecDepth 100000 in
set_option maxHeartbeats 4000000 in
theorem f204_l {d N : Nat} {p1 : Int32} {h : Hp} {Q : Option Value → Hp → Prop} {q : Int32 × Hp} (hf : f204 N p1 h = some q) (hW : WF 1 h) (hd : 9 ≤ d) (kk : WF 1 q.2 → Q (some (.int q.1)) q.2) : R 1 d 204 0 [some (.ref 0), some (.int p1), none, none, none, none, none] [] h Q := by
  obtain ⟨d, rfl⟩ : ∃ z, d = z + 1 := ⟨d - 1, by omega⟩
  unfold f204 at hf
  refine R_iload_n (i := 0) rfl rfl ?_
  refine R_iconst (i := 1) rfl ?_
  refine R_sipush (i := 2) rfl ?_
  refine R_call (vs := [.int p1, .int (0 : Int32), .int (9999 : Int32)]) (st' := []) (i := 3) rfl (by decide) (by decide) rfl rfl (Nat.le_of_ble_eq_true rfl) rfl (f139_l (hh rfl hd) ?_)
  refine R_ifne (i := 4) rfl (fun c1 => ?_) (fun c1 => ?_)
  · rw [if_neg c1] at hf
    refine R_iload_n (i := 7) rfl rfl ?_
    refine R_iconst (i := 8) rfl ?_
    refine R_imul (i := 9) rfl ?_
    refine R_iconst (i := 10) rfl ?_
    refine R_iadd (i := 11) rfl ?_
    refine R_topi (fun v2 e2 => ?_)
    replace hf := bnd_some e2 hf
    refine R_istore_n [some (.ref 0), some (.int p1), some (.int v2), none, none, none, none] (i := 12) rfl rfl ?_
    refine R_iconst (i := 13) rfl ?_
    refine R_istore_n [some (.ref 0), some (.int p1), some (.int v2), some (.int (0 : Int32)), none, none, none] (i := 14) rfl rfl ?_
    refine R_weak [some (.ref 0), none, some (.int v2), some (.int (0 : Int32)), none, none, none] ⟨Or.inr rfl, Or.inl rfl, Or.inr rfl, Or.inr rfl, Or.inr rfl, Or.inr rfl, Or.inr rfl, trivial⟩ ?_
    have zq23 := bind_some hf
    clear hf
    obtain ⟨q23, eq23, hf⟩ := zq23
    refine lp_link (P := fun u15 => WF 1 u15.2.2 → R 1 (d + 1) 204 15 [some (.ref 0), none, some (.int u15.1), some (.int u15.2.1), none, none, none] [] u15.2.2 Q) (E := fun e u15 => WF 1 u15.2.2 → ((e = 0 → R 1 (d + 1) 204 45 [none, none, none, some (.int u15.2.1), none, none, none] [] u15.2.2 Q) ∧ (e = 1 → R 1 (d + 1) 204 116 [some (.ref 0), none, none, none, none, none, none] [] u15.2.2 Q))) (fun s j s' hb k0 ke hWs => f204_l15_l hb hWs hd k0 (fun z y => (ke 0 z y).1 rfl) (fun z y => (ke 1 z y).2 rfl)) N (v2, (0 : Int32), h) q23.1 q23.2 eq23 ?_ hW
    refine fun hW23 => ⟨fun z => ?_, fun z => ?_⟩
    · rw [if_pos z] at hf
      refine R_iload_n (i := 45) rfl rfl ?_
      have hz := Option.some.inj hf
      subst hz
      exact R_iret (i := 46) rfl (kk hW23)
    · rw [if_neg (by rw [z]; decide)] at hf
      refine R_aload_n (i := 116) rfl rfl ?_
      refine R_getF hW23 (i := 117) rfl rfl (Nat.le_of_ble_eq_true rfl) rfl ?_
      refine R_iconst (i := 118) rfl ?_
      refine R_iaload hW23 (i := 119) rfl rfl (by decide) ?_
      have hz := Option.some.inj hf
      subst hz
      exact R_iret (i := 120) rfl (kk hW23)
  · rw [if_pos c1] at hf
    refine R_iconst (i := 5) rfl ?_
    have hz := Option.some.inj hf
    subst hz
    exact R_iret (i := 6) rfl (kk hW)
set_option maxRecDepth 100000 in
set_option maxHeartbeats 4000000 in
theorem f205_l17_l {d N : Nat} {s : Int32 × Hp} {Q : Option Value → Hp → Prop} {j : Nat} {s' : Int32 × Hp} (hf : f205_l17 N s = some (j, s')) (hW : WF 1 s.2) (hd : 5 ≤ d) (k0 : j = 0 → WF 1 s'.2 → R 1 d 205 17 [some (.ref 0), some (.int s'.1)] [] s'.2 Q) (k1 : j = 1 → WF 1 s'.2 → R 1 d 205 41 [some (.ref 0), none] [] s'.2 Q) : R 1 d 205 17 [some (.ref 0), some (.int s.1)] [] s.2 Q := by
  unfold f205_l17 at hf
  refine R_iload_n (i := 17) rfl rfl ?_
  refine R_bipush (i := 18) rfl ?_
  refine R_icmpge (i := 19) rfl (fun c3 => ?_) (fun c3 => ?_)
  · rw [if_pos c3] at hf
    obtain ⟨hj, hs⟩ := Prod.mk.inj (Option.some.inj hf)
    subst hj
    subst hs
    refine R_weak [some (.ref 0), none] ⟨Or.inr rfl, Or.inl rfl, trivial⟩ ?_
    exact k1 rfl hW
  · rw [if_neg c3] at hf
    refine R_aload_n (i := 20) rfl rfl ?_
    refine R_getF hW (i := 21) rfl rfl (Nat.le_of_ble_eq_true rfl) rfl ?_
    refine R_bipush (i := 22) rfl ?_
    refine R_iload_n (i := 23) rfl rfl ?_
    refine R_iadd (i := 24) rfl ?_
    refine R_aload_n (i := 25) rfl rfl ?_
    refine R_getF hW (i := 26) rfl rfl (Nat.le_of_ble_eq_true rfl) rfl ?_
    refine R_sipush (i := 27) rfl ?_
    refine R_bipush (i := 28) rfl ?_
    refine R_aload_n (i := 29) rfl rfl ?_
    refine R_getF hW (i := 30) rfl rfl (Nat.le_of_ble_eq_true rfl) rfl ?_
    refine R_iconst (i := 31) rfl ?_
    refine R_iaload hW (i := 32) rfl rfl (by decide) ?_
    refine R_imul (i := 33) rfl ?_
    refine R_iadd (i := 34) rfl ?_
    refine R_iload_n (i := 35) rfl rfl ?_
    refine R_iadd (i := 36) rfl ?_
    have g4 := gd_some hf
    clear hf
    obtain ⟨g4, hf⟩ := g4
    refine R_iaload hW (i := 37) rfl rfl g4 ?_
    have g5 := gd_some hf
    clear hf
    obtain ⟨g5, hf⟩ := g5
    refine R_iastore hW (i := 38) rfl rfl g5 (hg rfl hd) (fun h6 eh6 => ?_)
    replace hf := bnd_some eh6 hf
    have hW6 : WF 1 h6 := by rw [eh6]; exact hW
    obtain ⟨v7, e7⟩ : ∃ z : Int32, z = (s.1 + (1 : Int32)) := ⟨_, rfl⟩
    replace hf := bnd_some e7 hf
    refine R_iinc [some (.ref 0), some (.int v7)] (i := 39) rfl rfl (by rw [← e7]; rfl) ?_
    refine R_goto (i := 40) rfl ?_
    obtain ⟨hj, hs⟩ := Prod.mk.inj (Option.some.inj hf)
    subst hj
    subst hs
    exact k0 rfl hW6
set_option maxRecDepth 100000 in
set_option maxHeartbeats 4000000 in
theorem f205_l {d N : Nat} {h : Hp} {Q : Option Value → Hp → Prop} {q : Int32 × Hp} (hf : f205 N h = some q) (hW : WF 1 h) (hd : 5 ≤ d) (kk : WF 1 q.2 → Q (some (.int q.1)) q.2) : R 1 d 205 0 [some (.ref 0), none] [] h Q := by
  unfold f205 at hf
  refine R_aload_n (i := 0) rfl rfl ?_
  refine R_getF hW (i := 1) rfl rfl (Nat.le_of_ble_eq_true rfl) rfl ?_
  refine R_iconst (i := 2) rfl ?_
  refine R_iaload hW (i := 3) rfl rfl (by decide) ?_
  refine R_ifne (i := 4) rfl (fun c1 => ?_) (fun c1 => ?_)
  · rw [if_neg c1] at hf
    refine R_aload_n (i := 7) rfl rfl ?_
    refine R_getF hW (i := 8) rfl rfl (Nat.le_of_ble_eq_true rfl) rfl ?_
    refine R_iconst (i := 9) rfl ?_
    refine R_dup2 (i := 10) rfl rfl rfl ?_
    refine R_iaload hW (i := 11) rfl rfl (by decide) ?_
    refine R_iconst (i := 12) rfl ?_
    refine R_isub (i := 13) rfl ?_
    refine R_iastore hW (i := 14) rfl rfl (by decide) (hg rfl hd) (fun h2 eh2 => ?_)
    replace hf := bnd_some eh2 hf
    have hW2 : WF 1 h2 := by rw [eh2]; exact hW
    refine R_iconst (i := 15) rfl ?_
    refine R_istore_n [some (.ref 0), some (.int (0 : Int32))] (i := 16) rfl rfl ?_
    have zq8 := bind_some hf
    clear hf
    obtain ⟨q8, eq8, hf⟩ := zq8
    refine lp_link (P := fun u17 => WF 1 u17.2 → R 1 d 205 17 [some (.ref 0), some (.int u17.1)] [] u17.2 Q) (E := fun e u17 => WF 1 u17.2 → R 1 d 205 41 [some (.ref 0), none] [] u17.2 Q) (fun s j s' hb k0 ke hWs => f205_l17_l hb hWs hd k0 (fun z y => ke 0 z y)) N ((0 : Int32), h2) q8.1 q8.2 eq8 ?_ hW2
    intro hW8
    refine R_aload_n (i := 41) rfl rfl ?_
    refine R_getF hW8 (i := 42) rfl rfl (Nat.le_of_ble_eq_true rfl) rfl ?_
    refine R_iconst (i := 43) rfl ?_
    refine R_iaload hW8 (i := 44) rfl rfl (by decide) ?_
    have hz := Option.some.inj hf
    subst hz
    exact R_iret (i := 45) rfl (kk hW8)
  · rw [if_pos c1] at hf
    refine R_iconst (i := 5) rfl ?_
    have hz := Option.some.inj hf
    subst hz
    exact R_iret (i := 6) rfl (kk hW)
set_option maxRecDepth 100000 in
set_option maxHeartbeats 4000000 in
theorem f206_l {d N : Nat} {p1 : Int32} {h : Hp} {Q : Option Value → Hp → Prop} {q : Int32} (hf : f206 N p1 h = some q) (hW : WF 1 h) (hd : 2 ≤ d) (kk : Q (some (.int q)) h) : R 1 d 206 0 [some (.ref 0), some (.int p1)] [] h Q := by
  obtain ⟨d, rfl⟩ : ∃ z, d = z + 1 := ⟨d - 1, by omega⟩
  unfold f206 at hf
  refine R_iload_n (i := 0) rfl rfl ?_
  refine R_ifne (i := 1) rfl (fun c1 => ?_) (fun c1 => ?_)
  · rw [if_neg c1] at hf
    refine R_iload_n (i := 5) rfl rfl ?_
    refine R_iconst (i := 6) rfl ?_
    refine R_iconst (i := 7) rfl ?_
    refine R_call (vs := [.int p1, .int (1 : Int32), .int (3 : Int32)]) (st' := []) (i := 8) rfl (by decide) (by decide) rfl rfl (Nat.le_of_ble_eq_true rfl) rfl (f139_l (hh rfl hd) ?_)
    refine R_ifeq (i := 9) rfl (fun c2 => ?_) (fun c2 => ?_)
    · rw [if_pos c2] at hf
      refine R_iconst (i := 19) rfl ?_
      have hz := Option.some.inj hf
      subst hz
      exact R_iret (i := 20) rfl kk
    · rw [if_neg c2] at hf
      refine R_aload_n (i := 10) rfl rfl ?_
      refine R_getF hW (i := 11) rfl rfl (Nat.le_of_ble_eq_true rfl) rfl ?_
      refine R_bipush (i := 12) rfl ?_
      refine R_iload_n (i := 13) rfl rfl ?_
      refine R_iadd (i := 14) rfl ?_
      refine R_iconst (i := 15) rfl ?_
      refine R_isub (i := 16) rfl ?_
      have g3 := gd_some hf
      clear hf
      obtain ⟨g3, hf⟩ := g3
      refine R_iaload hW (i := 17) rfl rfl g3 ?_
      refine R_goto (i := 18) rfl ?_
      have hz := Option.some.inj hf
      subst hz
      exact R_iret (i := 20) rfl kk
  · rw [if_pos c1] at hf
    refine R_aload_n (i := 2) rfl rfl ?_
    have zq4 := bind_some hf
    clear hf
    obtain ⟨q4, eq4, hf⟩ := zq4
    refine R_callV (vs := []) (st' := []) hW (i := 3) rfl rfl rfl (Nat.le_of_ble_eq_true rfl) rfl (Nat.le_of_ble_eq_true rfl) rfl (f198_l eq4 hW (hh rfl hd) ?_)
    refine R_goto (i := 4) rfl ?_
    have hz := Option.some.inj hf
    subst hz
    exact R_iret (i := 20) rfl kk
set_option maxRecDepth 100000 in
set_option maxHeartbeats 4000000 in
theorem f207_b16_l {d N : Nat} {x1 : Int32} {x2 : Int32} {t0 : Int32} {t1 : Int32} {h : Hp} {Q : Option Value → Hp → Prop} {j : Nat} {s' : Int32 × Hp} (hf : f207_b16 N x1 x2 t0 t1 h = some (j, s')) (hW : WF 1 h) (hd : 9 ≤ d) (k0 : j = 0 → WF 1 s'.2 → R 1 d 207 4 [some (.ref 0), some (.int x1), some (.int s'.1)] [] s'.2 Q) (k1 : j = 1 → WF 1 s'.2 → R 1 d 207 19 [none, none, none] [] s'.2 Q) : R 1 d 207 16 [some (.ref 0), some (.int x1), some (.int x2)] [.int t0, .int t1, .ref 10] h Q := by
  unfold f207_b16 at hf
  have g4 := gd_some hf
  clear hf
  obtain ⟨g4, hf⟩ := g4
  refine R_zastore hW (i := 16) rfl rfl g4 (hg rfl hd) (fun h5 eh5 => ?_)
  replace hf := bnd_some eh5 hf
  have hW5 : WF 1 h5 := by rw [eh5]; exact hW
  obtain ⟨v6, e6⟩ : ∃ z : Int32, z = (x2 + (1 : Int32)) := ⟨_, rfl⟩
  replace hf := bnd_some e6 hf
  refine R_iinc [some (.ref 0), some (.int x1), some (.int v6)] (i := 17) rfl rfl (by rw [← e6]; rfl) ?_
  refine R_goto (i := 18) rfl ?_
  obtain ⟨hj, hs⟩ := Prod.mk.inj (Option.some.inj hf)
  subst hj
  subst hs
  exact k0 rfl hW5
set_option maxRecDepth 100000 in
set_option maxHeartbeats 4000000 in
theorem f207_l4_l {d N : Nat} {x1 : Int32} {s : Int32 × Hp} {Q : Option Value → Hp → Prop} {j : Nat} {s' : Int32 × Hp} (hf : f207_l4 N x1 s = some (j, s')) (hW : WF 1 s.2) (hd : 9 ≤ d) (k0 : j = 0 → WF 1 s'.2 → R 1 d 207 4 [some (.ref 0), some (.int x1), some (.int s'.1)] [] s'.2 Q) (k1 : j = 1 → WF 1 s'.2 → R 1 d 207 19 [none, none, none] [] s'.2 Q) : R 1 d 207 4 [some (.ref 0), some (.int x1), some (.int s.1)] [] s.2 Q := by
  unfold f207_l4 at hf
  refine R_iload_n (i := 4) rfl rfl ?_
  refine R_sipush (i := 5) rfl ?_
  refine R_icmpge (i := 6) rfl (fun c2 => ?_) (fun c2 => ?_)
  · rw [if_pos c2] at hf
    obtain ⟨hj, hs⟩ := Prod.mk.inj (Option.some.inj hf)
    subst hj
    subst hs
    refine R_weak [none, none, none] ⟨Or.inl rfl, Or.inl rfl, Or.inl rfl, trivial⟩ ?_
    exact k1 rfl hW
  · rw [if_neg c2] at hf
    refine R_aload_n (i := 7) rfl rfl ?_
    refine R_getF hW (i := 8) rfl rfl (Nat.le_of_ble_eq_true rfl) rfl ?_
    refine R_iload_n (i := 9) rfl rfl ?_
    refine R_iload_n (i := 10) rfl rfl ?_
    refine R_iload_n (i := 11) rfl rfl ?_
    refine R_icmpne (i := 12) rfl (fun c3 => ?_) (fun c3 => ?_)
    · rw [if_neg c3] at hf
      refine R_iconst (i := 15) rfl ?_
      exact f207_b16_l hf hW hd k0 k1
    · rw [if_pos c3] at hf
      refine R_iconst (i := 13) rfl ?_
      refine R_goto (i := 14) rfl ?_
      exact f207_b16_l hf hW hd k0 k1
set_option maxRecDepth 100000 in
set_option maxHeartbeats 4000000 in
theorem f207_l {d N : Nat} {p1 : Int32} {h : Hp} {Q : Option Value → Hp → Prop} {q : Hp} (hf : f207 N p1 h = some q) (hW : WF 1 h) (hd : 9 ≤ d) (kk : WF 1 q → Q (none) q) : R 1 d 207 0 [some (.ref 0), some (.int p1), none] [] h Q := by
  obtain ⟨d, rfl⟩ : ∃ z, d = z + 1 := ⟨d - 1, by omega⟩
  unfold f207 at hf
  refine R_aload_n (i := 0) rfl rfl ?_
  have zq1 := bind_some hf
  clear hf
  obtain ⟨q1, eq1, hf⟩ := zq1
  refine R_callV (vs := []) (st' := []) hW (i := 1) rfl rfl rfl (Nat.le_of_ble_eq_true rfl) rfl (Nat.le_of_ble_eq_true rfl) rfl (f194_l eq1 hW (hh rfl hd) (fun hW1 => ?_))
  refine R_iconst (i := 2) rfl ?_
  refine R_istore_n [some (.ref 0), some (.int p1), some (.int (0 : Int32))] (i := 3) rfl rfl ?_
  have zq7 := bind_some hf
  clear hf
  obtain ⟨q7, eq7, hf⟩ := zq7
  refine lp_link (P := fun u4 => WF 1 u4.2 → R 1 (d + 1) 207 4 [some (.ref 0), some (.int p1), some (.int u4.1)] [] u4.2 Q) (E := fun e u4 => WF 1 u4.2 → R 1 (d + 1) 207 19 [none, none, none] [] u4.2 Q) (fun s j s' hb k0 ke hWs => f207_l4_l hb hWs hd k0 (fun z y => ke 0 z y)) N ((0 : Int32), q1) q7.1 q7.2 eq7 ?_ hW1
  intro hW7
  have hz := Option.some.inj hf
  subst hz
  exact R_vret (i := 19) rfl (kk hW7)
set_option maxRecDepth 100000 in
set_option maxHeartbeats 4000000 in
theorem f196_l {d : Nat} {p0 : Int32} {h : Hp} {Q : Option Value → Hp → Prop} (hd : 1 ≤ d) (kk : Q (some (.int (f196 p0))) h) : R 1 d 196 0 [some (.int p0)] [] h Q := by
  obtain ⟨d, rfl⟩ : ∃ z, d = z + 1 := ⟨d - 1, by omega⟩
  unfold f196 at kk
  refine R_iload_n (i := 0) rfl rfl ?_
  refine R_iconst (i := 1) rfl ?_
  refine R_sipush (i := 2) rfl ?_
  refine R_call (vs := [.int p0, .int (0 : Int32), .int (1439 : Int32)]) (st' := []) (i := 3) rfl (by decide) (by decide) rfl rfl (Nat.le_of_ble_eq_true rfl) rfl (f139_l (hh rfl hd) ?_)
  exact R_zret (i := 4) rfl rfl kk
set_option maxRecDepth 100000 in
set_option maxHeartbeats 4000000 in
theorem f209_b34_l {d N : Nat} {x1 : Int32} {x2 : Int32} {h : Hp} {Q : Option Value → Hp → Prop} {j : Nat} {s' : Int32 × Hp} (hf : f209_b34 N x1 x2 h = some (j, s')) (hW : WF 1 h) (hd : 5 ≤ d) (k0 : j = 0 → WF 1 s'.2 → R 1 d 209 2 [some (.ref 0), some (.int x1), some (.int s'.1), none] [] s'.2 Q) (k1 : j = 1 → WF 1 s'.2 → R 1 d 209 36 [none, none, none, none] [] s'.2 Q) : R 1 d 209 34 [some (.ref 0), some (.int x1), some (.int x2), none] [] h Q := by
  unfold f209_b34 at hf
  obtain ⟨v6, e6⟩ : ∃ z : Int32, z = (x2 + (1 : Int32)) := ⟨_, rfl⟩
  replace hf := bnd_some e6 hf
  refine R_iinc [some (.ref 0), some (.int x1), some (.int v6), none] (i := 34) rfl rfl (by rw [← e6]; rfl) ?_
  refine R_goto (i := 35) rfl ?_
  obtain ⟨hj, hs⟩ := Prod.mk.inj (Option.some.inj hf)
  subst hj
  subst hs
  exact k0 rfl hW
set_option maxRecDepth 100000 in
set_option maxHeartbeats 4000000 in
theorem f209_l2_l {d N : Nat} {x1 : Int32} {s : Int32 × Hp} {Q : Option Value → Hp → Prop} {j : Nat} {s' : Int32 × Hp} (hf : f209_l2 N x1 s = some (j, s')) (hW : WF 1 s.2) (hd : 5 ≤ d) (k0 : j = 0 → WF 1 s'.2 → R 1 d 209 2 [some (.ref 0), some (.int x1), some (.int s'.1), none] [] s'.2 Q) (k1 : j = 1 → WF 1 s'.2 → R 1 d 209 36 [none, none, none, none] [] s'.2 Q) : R 1 d 209 2 [some (.ref 0), some (.int x1), some (.int s.1), none] [] s.2 Q := by
  obtain ⟨d, rfl⟩ : ∃ z, d = z + 1 := ⟨d - 1, by omega⟩
  unfold f209_l2 at hf
  refine R_iload_n (i := 2) rfl rfl ?_
  refine R_bipush (i := 3) rfl ?_
  refine R_icmpge (i := 4) rfl (fun c1 => ?_) (fun c1 => ?_)
  · rw [if_pos c1] at hf
    obtain ⟨hj, hs⟩ := Prod.mk.inj (Option.some.inj hf)
    subst hj
    subst hs
    refine R_weak [none, none, none, none] ⟨Or.inl rfl, Or.inl rfl, Or.inl rfl, Or.inr rfl, trivial⟩ ?_
    exact k1 rfl hW
  · rw [if_neg c1] at hf
    refine R_aload_n (i := 5) rfl rfl ?_
    refine R_getF hW (i := 6) rfl rfl (Nat.le_of_ble_eq_true rfl) rfl ?_
    refine R_bipush (i := 7) rfl ?_
    refine R_iload_n (i := 8) rfl rfl ?_
    refine R_imul (i := 9) rfl ?_
    refine R_iload_n (i := 10) rfl rfl ?_
    refine R_iadd (i := 11) rfl ?_
    have g2 := gd_some hf
    clear hf
    obtain ⟨g2, hf⟩ := g2
    refine R_iaload hW (i := 12) rfl rfl g2 ?_
    refine R_topi (fun v3 e3 => ?_)
    replace hf := bnd_some e3 hf
    refine R_istore_n [some (.ref 0), some (.int x1), some (.int s.1), some (.int v3)] (i := 13) rfl rfl ?_
    refine R_aload_n (i := 14) rfl rfl ?_
    refine R_getF hW (i := 15) rfl rfl (Nat.le_of_ble_eq_true rfl) rfl ?_
    refine R_bipush (i := 16) rfl ?_
    refine R_iload_n (i := 17) rfl rfl ?_
    refine R_call (vs := [.int x1]) (st' := [.int (20 : Int32), .ref 1]) (i := 18) rfl (by decide) (by decide) rfl rfl (Nat.le_of_ble_eq_true rfl) rfl (f146_l (hh rfl hd) ?_)
    refine R_iadd (i := 19) rfl ?_
    have g4 := gd_some hf
    clear hf
    obtain ⟨g4, hf⟩ := g4
    refine R_iaload hW (i := 20) rfl rfl g4 ?_
    refine R_iload_n (i := 21) rfl rfl ?_
    refine R_iconst (i := 22) rfl ?_
    refine R_irem (i := 23) rfl (by decide) ?_
    refine R_call (vs := [.int (hI s.2 1 (ix ((20 : Int32) + (f146 x1)))), .int (irem s.1 (4 : Int32))]) (st' := []) (i := 24) rfl (by decide) (by decide) rfl rfl (Nat.le_of_ble_eq_true rfl) rfl (f141_l (hh rfl hd) ?_)
    refine R_ifeq (i := 25) rfl (fun c5 => ?_) (fun c5 => ?_)
    · rw [if_pos c5] at hf
      refine R_weak [some (.ref 0), some (.int x1), some (.int s.1), none] ⟨Or.inr rfl, Or.inr rfl, Or.inr rfl, Or.inl rfl, trivial⟩ ?_
      exact f209_b34_l hf hW hd k0 k1
    · rw [if_neg c5] at hf
      refine R_iload_n (i := 26) rfl rfl ?_
      refine R_call (vs := [.int v3]) (st' := []) (i := 27) rfl (by decide) (by decide) rfl rfl (Nat.le_of_ble_eq_true rfl) rfl (f196_l (hh rfl hd) ?_)
      refine R_ifeq (i := 28) rfl (fun c7 => ?_) (fun c7 => ?_)
      · rw [if_pos c7] at hf
        refine R_weak [some (.ref 0), some (.int x1), some (.int s.1), none] ⟨Or.inr rfl, Or.inr rfl, Or.inr rfl, Or.inl rfl, trivial⟩ ?_
        exact f209_b34_l hf hW hd k0 k1
      · rw [if_neg c7] at hf
        refine R_aload_n (i := 29) rfl rfl ?_
        refine R_getF hW (i := 30) rfl rfl (Nat.le_of_ble_eq_true rfl) rfl ?_
        refine R_iload_n (i := 31) rfl rfl ?_
        refine R_iconst (i := 32) rfl ?_
        have g8 := gd_some hf
        clear hf
        obtain ⟨g8, hf⟩ := g8
        refine R_zastore hW (i := 33) rfl rfl g8 (hg rfl hd) (fun h9 eh9 => ?_)
        replace hf := bnd_some eh9 hf
        have hW9 : WF 1 h9 := by rw [eh9]; exact hW
        refine R_weak [some (.ref 0), some (.int x1), some (.int s.1), none] ⟨Or.inr rfl, Or.inr rfl, Or.inr rfl, Or.inl rfl, trivial⟩ ?_
        exact f209_b34_l hf hW9 hd k0 k1
set_option maxRecDepth 100000 in
set_option maxHeartbeats 4000000 in
theorem f209_l {d N : Nat} {p1 : Int32} {h : Hp} {Q : Option Value → Hp → Prop} {q : Hp} (hf : f209 N p1 h = some q) (hW : WF 1 h) (hd : 5 ≤ d) (kk : WF 1 q → Q (none) q) : R 1 d 209 0 [some (.ref 0), some (.int p1), none, none] [] h Q := by
  unfold f209 at hf
  refine R_iconst (i := 0) rfl ?_
  refine R_istore_n [some (.ref 0), some (.int p1), some (.int (0 : Int32)), none] (i := 1) rfl rfl ?_
  have zq10 := bind_some hf
  clear hf
  obtain ⟨q10, eq10, hf⟩ := zq10
  refine lp_link (P := fun u2 => WF 1 u2.2 → R 1 d 209 2 [some (.ref 0), some (.int p1), some (.int u2.1), none] [] u2.2 Q) (E := fun e u2 => WF 1 u2.2 → R 1 d 209 36 [none, none, none, none] [] u2.2 Q) (fun s j s' hb k0 ke hWs => f209_l2_l hb hWs hd k0 (fun z y => ke 0 z y)) N ((0 : Int32), h) q10.1 q10.2 eq10 ?_ hW
  intro hW10
  have hz := Option.some.inj hf
  subst hz
  exact R_vret (i := 36) rfl (kk hW10)
set_option maxRecDepth 100000 in
set_option maxHeartbeats 4000000 in
theorem f208_l2_l {d N : Nat} {s : Int32 × Hp} {Q : Option Value → Hp → Prop} {j : Nat} {s' : Int32 × Hp} (hf : f208_l2 N s = some (j, s')) (hW : WF 1 s.2) (hd : 6 ≤ d) (k0 : j = 0 → WF 1 s'.2 → R 1 d 208 2 [some (.ref 0), some (.int s'.1)] [] s'.2 Q) (k1 : j = 1 → WF 1 s'.2 → R 1 d 208 12 [some (.ref 0), none] [] s'.2 Q) : R 1 d 208 2 [some (.ref 0), some (.int s.1)] [] s.2 Q := by
  unfold f208_l2 at hf
  refine R_iload_n (i := 2) rfl rfl ?_
  refine R_sipush (i := 3) rfl ?_
  refine R_icmpge (i := 4) rfl (fun c1 => ?_) (fun c1 => ?_)
  · rw [if_pos c1] at hf
    obtain ⟨hj, hs⟩ := Prod.mk.inj (Option.some.inj hf)
    subst hj
    subst hs
    refine R_weak [some (.ref 0), none] ⟨Or.inr rfl, Or.inl rfl, trivial⟩ ?_
    exact k1 rfl hW
  · rw [if_neg c1] at hf
    refine R_aload_n (i := 5) rfl rfl ?_
    refine R_getF hW (i := 6) rfl rfl (Nat.le_of_ble_eq_true rfl) rfl ?_
    refine R_iload_n (i := 7) rfl rfl ?_
    refine R_iconst (i := 8) rfl ?_
    have g2 := gd_some hf
    clear hf
    obtain ⟨g2, hf⟩ := g2
    refine R_zastore hW (i := 9) rfl rfl g2 (hg rfl hd) (fun h3 eh3 => ?_)
    replace hf := bnd_some eh3 hf
    have hW3 : WF 1 h3 := by rw [eh3]; exact hW
    obtain ⟨v4, e4⟩ : ∃ z : Int32, z = (s.1 + (1 : Int32)) := ⟨_, rfl⟩
    replace hf := bnd_some e4 hf
    refine R_iinc [some (.ref 0), some (.int v4)] (i := 10) rfl rfl (by rw [← e4]; rfl) ?_
    refine R_goto (i := 11) rfl ?_
    obtain ⟨hj, hs⟩ := Prod.mk.inj (Option.some.inj hf)
    subst hj
    subst hs
    exact k0 rfl hW3
set_option maxRecDepth 100000 in
set_option maxHeartbeats 4000000 in
theorem f208_b25_l {d N : Nat} {x1 : Int32} {h : Hp} {Q : Option Value → Hp → Prop} {j : Nat} {s' : Int32 × Hp} (hf : f208_b25 N x1 h = some (j, s')) (hW : WF 1 h) (hd : 6 ≤ d) (k0 : j = 0 → WF 1 s'.2 → R 1 d 208 14 [some (.ref 0), some (.int s'.1)] [] s'.2 Q) (k1 : j = 1 → WF 1 s'.2 → R 1 d 208 27 [some (.ref 0), none] [] s'.2 Q) : R 1 d 208 25 [some (.ref 0), some (.int x1)] [] h Q := by
  unfold f208_b25 at hf
  obtain ⟨v9, e9⟩ : ∃ z : Int32, z = (x1 + (1 : Int32)) := ⟨_, rfl⟩
  replace hf := bnd_some e9 hf
  refine R_iinc [some (.ref 0), some (.int v9)] (i := 25) rfl rfl (by rw [← e9]; rfl) ?_
  refine R_goto (i := 26) rfl ?_
  obtain ⟨hj, hs⟩ := Prod.mk.inj (Option.some.inj hf)
  subst hj
  subst hs
  exact k0 rfl hW
set_option maxRecDepth 100000 in
set_option maxHeartbeats 4000000 in
theorem f208_l14_l {d N : Nat} {s : Int32 × Hp} {Q : Option Value → Hp → Prop} {j : Nat} {s' : Int32 × Hp} (hf : f208_l14 N s = some (j, s')) (hW : WF 1 s.2) (hd : 6 ≤ d) (k0 : j = 0 → WF 1 s'.2 → R 1 d 208 14 [some (.ref 0), some (.int s'.1)] [] s'.2 Q) (k1 : j = 1 → WF 1 s'.2 → R 1 d 208 27 [some (.ref 0), none] [] s'.2 Q) : R 1 d 208 14 [some (.ref 0), some (.int s.1)] [] s.2 Q := by
  obtain ⟨d, rfl⟩ : ∃ z, d = z + 1 := ⟨d - 1, by omega⟩
  unfold f208_l14 at hf
  refine R_iload_n (i := 14) rfl rfl ?_
  refine R_sipush (i := 15) rfl ?_
  refine R_icmpge (i := 16) rfl (fun c6 => ?_) (fun c6 => ?_)
  · rw [if_pos c6] at hf
    obtain ⟨hj, hs⟩ := Prod.mk.inj (Option.some.inj hf)
    subst hj
    subst hs
    refine R_weak [some (.ref 0), none] ⟨Or.inr rfl, Or.inl rfl, trivial⟩ ?_
    exact k1 rfl hW
  · rw [if_neg c6] at hf
    refine R_aload_n (i := 17) rfl rfl ?_
    refine R_getF hW (i := 18) rfl rfl (Nat.le_of_ble_eq_true rfl) rfl ?_
    refine R_iload_n (i := 19) rfl rfl ?_
    have g7 := gd_some hf
    clear hf
    obtain ⟨g7, hf⟩ := g7
    refine R_zaload hW (i := 20) rfl rfl g7 ?_
    refine R_ifeq (i := 21) rfl (fun c8 => ?_) (fun c8 => ?_)
    · rw [if_pos c8] at hf
      exact f208_b25_l hf hW hd k0 k1
    · rw [if_neg c8] at hf
      refine R_aload_n (i := 22) rfl rfl ?_
      refine R_iload_n (i := 23) rfl rfl ?_
      have zq10 := bind_some hf
      clear hf
      obtain ⟨q10, eq10, hf⟩ := zq10
      refine R_callV (vs := [.int s.1]) (st' := []) hW (i := 24) rfl rfl rfl (Nat.le_of_ble_eq_true rfl) rfl (Nat.le_of_ble_eq_true rfl) rfl (f209_l eq10 hW (hh rfl hd) (fun hW10 => ?_))
      exact f208_b25_l hf hW10 hd k0 k1
set_option maxRecDepth 100000 in
set_option maxHeartbeats 4000000 in
theorem f208_l29_l {d N : Nat} {s : Int32 × Hp} {Q : Option Value → Hp → Prop} {j : Nat} {s' : Int32 × Hp} (hf : f208_l29 N s = some (j, s')) (hW : WF 1 s.2) (hd : 6 ≤ d) (k0 : j = 0 → WF 1 s'.2 → R 1 d 208 29 [some (.ref 0), some (.int s'.1)] [] s'.2 Q) (k1 : j = 1 → WF 1 s'.2 → R 1 d 208 42 [none, none] [] s'.2 Q) : R 1 d 208 29 [some (.ref 0), some (.int s.1)] [] s.2 Q := by
  unfold f208_l29 at hf
  refine R_iload_n (i := 29) rfl rfl ?_
  refine R_sipush (i := 30) rfl ?_
  refine R_icmpge (i := 31) rfl (fun c12 => ?_) (fun c12 => ?_)
  · rw [if_pos c12] at hf
    obtain ⟨hj, hs⟩ := Prod.mk.inj (Option.some.inj hf)
    subst hj
    subst hs
    refine R_weak [none, none] ⟨Or.inl rfl, Or.inl rfl, trivial⟩ ?_
    exact k1 rfl hW
  · rw [if_neg c12] at hf
    refine R_aload_n (i := 32) rfl rfl ?_
    refine R_getF hW (i := 33) rfl rfl (Nat.le_of_ble_eq_true rfl) rfl ?_
    refine R_iload_n (i := 34) rfl rfl ?_
    refine R_aload_n (i := 35) rfl rfl ?_
    refine R_getF hW (i := 36) rfl rfl (Nat.le_of_ble_eq_true rfl) rfl ?_
    refine R_iload_n (i := 37) rfl rfl ?_
    have g13 := gd_some hf
    clear hf
    obtain ⟨g13, hf⟩ := g13
    refine R_zaload hW (i := 38) rfl rfl g13 ?_
    have g14 := gd_some hf
    clear hf
    obtain ⟨g14, hf⟩ := g14
    refine R_zastore hW (i := 39) rfl rfl g14 (hg rfl hd) (fun h15 eh15 => ?_)
    replace hf := bnd_some eh15 hf
    have hW15 : WF 1 h15 := by rw [eh15]; exact hW
    obtain ⟨v16, e16⟩ : ∃ z : Int32, z = (s.1 + (1 : Int32)) := ⟨_, rfl⟩
    replace hf := bnd_some e16 hf
    refine R_iinc [some (.ref 0), some (.int v16)] (i := 40) rfl rfl (by rw [← e16]; rfl) ?_
    refine R_goto (i := 41) rfl ?_
    obtain ⟨hj, hs⟩ := Prod.mk.inj (Option.some.inj hf)
    subst hj
    subst hs
    exact k0 rfl hW15
set_option maxRecDepth 100000 in
set_option maxHeartbeats 4000000 in
theorem f208_l {d N : Nat} {h : Hp} {Q : Option Value → Hp → Prop} {q : Hp} (hf : f208 N h = some q) (hW : WF 1 h) (hd : 6 ≤ d) (kk : WF 1 q → Q (none) q) : R 1 d 208 0 [some (.ref 0), none] [] h Q := by
  unfold f208 at hf
  refine R_iconst (i := 0) rfl ?_
  refine R_istore_n [some (.ref 0), some (.int (0 : Int32))] (i := 1) rfl rfl ?_
  have zq5 := bind_some hf
  clear hf
  obtain ⟨q5, eq5, hf⟩ := zq5
  refine lp_link (P := fun u2 => WF 1 u2.2 → R 1 d 208 2 [some (.ref 0), some (.int u2.1)] [] u2.2 Q) (E := fun e u2 => WF 1 u2.2 → R 1 d 208 12 [some (.ref 0), none] [] u2.2 Q) (fun s j s' hb k0 ke hWs => f208_l2_l hb hWs hd k0 (fun z y => ke 0 z y)) N ((0 : Int32), h) q5.1 q5.2 eq5 ?_ hW
  intro hW5
  refine R_iconst (i := 12) rfl ?_
  refine R_istore_n [some (.ref 0), some (.int (0 : Int32))] (i := 13) rfl rfl ?_
  have zq11 := bind_some hf
  clear hf
  obtain ⟨q11, eq11, hf⟩ := zq11
  refine lp_link (P := fun u14 => WF 1 u14.2 → R 1 d 208 14 [some (.ref 0), some (.int u14.1)] [] u14.2 Q) (E := fun e u14 => WF 1 u14.2 → R 1 d 208 27 [some (.ref 0), none] [] u14.2 Q) (fun s j s' hb k0 ke hWs => f208_l14_l hb hWs hd k0 (fun z y => ke 0 z y)) N ((0 : Int32), q5.2.2) q11.1 q11.2 eq11 ?_ hW5
  intro hW11
  refine R_iconst (i := 27) rfl ?_
  refine R_istore_n [some (.ref 0), some (.int (0 : Int32))] (i := 28) rfl rfl ?_
  have zq17 := bind_some hf
  clear hf
  obtain ⟨q17, eq17, hf⟩ := zq17
  refine lp_link (P := fun u29 => WF 1 u29.2 → R 1 d 208 29 [some (.ref 0), some (.int u29.1)] [] u29.2 Q) (E := fun e u29 => WF 1 u29.2 → R 1 d 208 42 [none, none] [] u29.2 Q) (fun s j s' hb k0 ke hWs => f208_l29_l hb hWs hd k0 (fun z y => ke 0 z y)) N ((0 : Int32), q11.2.2) q17.1 q17.2 eq17 ?_ hW11
  intro hW17
  have hz := Option.some.inj hf
  subst hz
  exact R_vret (i := 42) rfl (kk hW17)
