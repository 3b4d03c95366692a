set_option maxRecDepth 100000 in
set_option maxHeartbeats 4000000 in
theorem f155_l {d N : Nat} {p1 : Int32} {h : Hp} {Q : Option Value → Hp → Prop} {q : Int32 × Hp} (hf : f155 N p1 h = some q) (hW : WF 1 h) (hd : 5 ≤ d) (kk : WF 1 q.2 → Q (some (.int q.1)) q.2) : R 1 d 155 0 [some (.ref 0), some (.int p1)] [] h Q := by
  obtain ⟨d, rfl⟩ : ∃ z, d = z + 1 := ⟨d - 1, by omega⟩
  unfold f155 at hf
  refine R_iload_n (i := 0) rfl rfl ?_
  refine R_iconst (i := 1) rfl ?_
  refine R_aload_n (i := 2) rfl rfl ?_
  refine R_getI hW (i := 3) rfl rfl (Nat.le_of_ble_eq_true rfl) ?_
  refine R_call (vs := [.int p1, .int (0 : Int32), .int (hI h 0 5)]) (st' := []) (i := 4) rfl (by decide) (by decide) rfl rfl (Nat.le_of_ble_eq_true rfl) rfl (f139_l (hh rfl hd) ?_)
  refine R_ifne (i := 5) rfl (fun c1 => ?_) (fun c1 => ?_)
  · rw [if_neg c1] at hf
    refine R_aload_n (i := 8) rfl rfl ?_
    refine R_iload_n (i := 9) rfl rfl ?_
    refine R_putI hW (i := 10) rfl rfl (Nat.le_of_ble_eq_true rfl) (hg rfl hd) (fun h2 eh2 => ?_)
    replace hf := bnd_some eh2 hf
    have hW2 : WF 1 h2 := by rw [eh2]; exact hW
    refine R_iload_n (i := 11) rfl rfl ?_
    have hz := Option.some.inj hf
    subst hz
    exact R_iret (i := 12) rfl (kk hW2)
  · rw [if_pos c1] at hf
    refine R_iconst (i := 6) rfl ?_
    have hz := Option.some.inj hf
    subst hz
    exact R_iret (i := 7) rfl (kk hW)
set_option maxRecDepth 100000 in
set_option maxHeartbeats 4000000 in
theorem f156_l {d N : Nat} {p1 : Int32} {h : Hp} {Q : Option Value → Hp → Prop} {q : Int32} (hf : f156 N p1 h = some q) (hW : WF 1 h) (hd : 0 ≤ d) (kk : Q (some (.int q)) h) : R 1 d 156 0 [some (.ref 0), some (.int p1)] [] h Q := by
  unfold f156 at hf
  refine R_iload_n (i := 0) rfl rfl ?_
  refine R_aload_n (i := 1) rfl rfl ?_
  refine R_getI hW (i := 2) rfl rfl (Nat.le_of_ble_eq_true rfl) ?_
  refine R_icmpge (i := 3) rfl (fun c1 => ?_) (fun c1 => ?_)
  · rw [if_pos c1] at hf
    refine R_iconst (i := 9) rfl ?_
    have hz := Option.some.inj hf
    subst hz
    exact R_iret (i := 10) rfl kk
  · rw [if_neg c1] at hf
    refine R_aload_n (i := 4) rfl rfl ?_
    refine R_getF hW (i := 5) rfl rfl (Nat.le_of_ble_eq_true rfl) rfl ?_
    refine R_iload_n (i := 6) rfl rfl ?_
    have g2 := gd_some hf
    clear hf
    obtain ⟨g2, hf⟩ := g2
    refine R_iaload hW (i := 7) rfl rfl g2 ?_
    refine R_goto (i := 8) rfl ?_
    have hz := Option.some.inj hf
    subst hz
    exact R_iret (i := 10) rfl kk
set_option maxRecDepth 100000 in
set_option maxHeartbeats 4000000 in
theorem f158_l {d : Nat} {p0 : Int32} {h : Hp} {Q : Option Value → Hp → Prop} (hd : 1 ≤ d) (kk : Q (some (.int (f158 p0))) h) : R 1 d 158 0 [some (.int p0)] [] h Q := by
  obtain ⟨d, rfl⟩ : ∃ z, d = z + 1 := ⟨d - 1, by omega⟩
  unfold f158 at kk
  refine R_iload_n (i := 0) rfl rfl ?_
  refine R_bipush (i := 1) rfl ?_
  refine R_bipush (i := 2) rfl ?_
  refine R_call (vs := [.int p0, .int (48 : Int32), .int (57 : Int32)]) (st' := []) (i := 3) rfl (by decide) (by decide) rfl rfl (Nat.le_of_ble_eq_true rfl) rfl (f139_l (hh rfl hd) ?_)
  exact R_zret (i := 4) rfl rfl kk
set_option maxRecDepth 100000 in
set_option maxHeartbeats 4000000 in
theorem f157_b10_l {d : Nat} {h : Hp} {Q : Option Value → Hp → Prop} (hd : 1 ≤ d) (kk : Q (some (.int (f157_b10))) h) : R 1 d 157 10 [none] [] h Q := by
  unfold f157_b10 at kk
  refine R_iconst (i := 10) rfl ?_
  refine R_goto (i := 11) rfl ?_
  exact R_zret (r := 1) (i := 13) rfl (by decide) kk
set_option maxRecDepth 100000 in
set_option maxHeartbeats 4000000 in
theorem f157_l {d : Nat} {p0 : Int32} {h : Hp} {Q : Option Value → Hp → Prop} (hd : 1 ≤ d) (kk : Q (some (.int (f157 p0))) h) : R 1 d 157 0 [some (.int p0)] [] h Q := by
  obtain ⟨d, rfl⟩ : ∃ z, d = z + 1 := ⟨d - 1, by omega⟩
  unfold f157 at kk
  refine R_iload_n (i := 0) rfl rfl ?_
  refine R_bipush (i := 1) rfl ?_
  refine R_bipush (i := 2) rfl ?_
  refine R_call (vs := [.int p0, .int (97 : Int32), .int (122 : Int32)]) (st' := []) (i := 3) rfl (by decide) (by decide) rfl rfl (Nat.le_of_ble_eq_true rfl) rfl (f139_l (hh rfl hd) ?_)
  refine R_ifne (i := 4) rfl (fun c1 => ?_) (fun c1 => ?_)
  · rw [if_neg c1] at kk
    refine R_weak [none] ⟨Or.inl rfl, trivial⟩ ?_
    exact f157_b10_l hd kk
  · rw [if_pos c1] at kk
    refine R_iload_n (i := 5) rfl rfl ?_
    refine R_bipush (i := 6) rfl ?_
    refine R_bipush (i := 7) rfl ?_
    refine R_call (vs := [.int p0, .int (65 : Int32), .int (90 : Int32)]) (st' := []) (i := 8) rfl (by decide) (by decide) rfl rfl (Nat.le_of_ble_eq_true rfl) rfl (f139_l (hh rfl hd) ?_)
    refine R_ifeq (i := 9) rfl (fun c2 => ?_) (fun c2 => ?_)
    · rw [if_pos c2] at kk
      refine R_iconst (i := 12) rfl ?_
      exact R_zret (r := 0) (i := 13) rfl (by decide) kk
    · rw [if_neg c2] at kk
      refine R_weak [none] ⟨Or.inl rfl, trivial⟩ ?_
      exact f157_b10_l hd kk
set_option maxRecDepth 100000 in
set_option maxHeartbeats 4000000 in
theorem f159_b12_l {d N : Nat} {h : Hp} {Q : Option Value → Hp → Prop} {j : Nat} {s' : Hp} (hf : f159_b12 N h = some (j, s')) (hW : WF 1 h) (hd : 5 ≤ d) (k0 : j = 0 → WF 1 s' → R 1 d 159 0 [some (.ref 0), none, none] [] s' Q) (k1 : j = 1 → WF 1 s' → R 1 d 159 19 [some (.ref 0), none, none] [] s' Q) : R 1 d 159 12 [some (.ref 0), none, none] [] h Q := by
  unfold f159_b12 at hf
  refine R_aload_n (i := 12) rfl rfl ?_
  refine R_dup (i := 13) rfl rfl ?_
  refine R_getI hW (i := 14) rfl rfl (Nat.le_of_ble_eq_true rfl) ?_
  refine R_iconst (i := 15) rfl ?_
  refine R_iadd (i := 16) rfl ?_
  refine R_putI hW (i := 17) rfl rfl (Nat.le_of_ble_eq_true rfl) (hg rfl hd) (fun h6 eh6 => ?_)
  replace hf := bnd_some eh6 hf
  have hW6 : WF 1 h6 := by rw [eh6]; exact hW
  refine R_goto (i := 18) rfl ?_
  obtain ⟨hj, hs⟩ := Prod.mk.inj (Option.some.inj hf)
  subst hj
  subst hs
  exact k0 rfl hW6
set_option maxRecDepth 100000 in
set_option maxHeartbeats 4000000 in
theorem f159_l0_l {d N : Nat} {s : Hp} {Q : Option Value → Hp → Prop} {j : Nat} {s' : Hp} (hf : f159_l0 N s = some (j, s')) (hW : WF 1 s) (hd : 5 ≤ d) (k0 : j = 0 → WF 1 s' → R 1 d 159 0 [some (.ref 0), none, none] [] s' Q) (k1 : j = 1 → WF 1 s' → R 1 d 159 19 [some (.ref 0), none, none] [] s' Q) : R 1 d 159 0 [some (.ref 0), none, none] [] s Q := by
  obtain ⟨d, rfl⟩ : ∃ z, d = z + 1 := ⟨d - 1, by omega⟩
  unfold f159_l0 at hf
  refine R_aload_n (i := 0) rfl rfl ?_
  refine R_aload_n (i := 1) rfl rfl ?_
  refine R_getI hW (i := 2) rfl rfl (Nat.le_of_ble_eq_true rfl) ?_
  have zq4 := bind_some hf
  clear hf
  obtain ⟨q4, eq4, hf⟩ := zq4
  refine R_callV (vs := [.int (hI s 0 8)]) (st' := []) hW (i := 3) rfl rfl rfl (Nat.le_of_ble_eq_true rfl) rfl (Nat.le_of_ble_eq_true rfl) rfl (f156_l eq4 hW (hh rfl hd) ?_)
  refine R_bipush (i := 4) rfl ?_
  refine R_icmpeq (i := 5) rfl (fun c5 => ?_) (fun c5 => ?_)
  · rw [if_pos c5] at hf
    exact f159_b12_l hf hW hd k0 k1
  · rw [if_neg c5] at hf
    refine R_aload_n (i := 6) rfl rfl ?_
    refine R_aload_n (i := 7) rfl rfl ?_
    refine R_getI hW (i := 8) rfl rfl (Nat.le_of_ble_eq_true rfl) ?_
    have zq7 := bind_some hf
    clear hf
    obtain ⟨q7, eq7, hf⟩ := zq7
    refine R_callV (vs := [.int (hI s 0 8)]) (st' := []) hW (i := 9) rfl rfl rfl (Nat.le_of_ble_eq_true rfl) rfl (Nat.le_of_ble_eq_true rfl) rfl (f156_l eq7 hW (hh rfl hd) ?_)
    refine R_bipush (i := 10) rfl ?_
    refine R_icmpne (i := 11) rfl (fun c8 => ?_) (fun c8 => ?_)
    · rw [if_neg c8] at hf
      obtain ⟨hj, hs⟩ := Prod.mk.inj (Option.some.inj hf)
      subst hj
      subst hs
      exact k1 rfl hW
    · rw [if_pos c8] at hf
      exact f159_b12_l hf hW hd k0 k1
set_option maxRecDepth 100000 in
set_option maxHeartbeats 4000000 in
theorem f159_b200_l {d N : Nat} {t0 : Int32} {h : Hp} {Q : Option Value → Hp → Prop} {q : Hp} (hf : f159_b200 N t0 h = some q) (hW : WF 1 h) (hd : 5 ≤ d) (kk : WF 1 q → Q (none) q) : R 1 d 159 200 [none, none, none] [.int t0, .ref 0] h Q := by
  unfold f159_b200 at hf
  refine R_putI hW (i := 200) rfl rfl (Nat.le_of_ble_eq_true rfl) (hg rfl hd) (fun h24 eh24 => ?_)
  replace hf := bnd_some eh24 hf
  have hW24 : WF 1 h24 := by rw [eh24]; exact hW
  have hz := Option.some.inj hf
  subst hz
  exact R_vret (i := 201) rfl (kk hW24)
set_option maxRecDepth 100000 in
set_option maxHeartbeats 4000000 in
theorem f159_b181_l {d N : Nat} {x1 : Int32} {h : Hp} {Q : Option Value → Hp → Prop} {q : Hp} (hf : f159_b181 N x1 h = some q) (hW : WF 1 h) (hd : 5 ≤ d) (kk : WF 1 q → Q (none) q) : R 1 d 159 181 [some (.ref 0), some (.int x1), none] [] h Q := by
  obtain ⟨d, rfl⟩ : ∃ z, d = z + 1 := ⟨d - 1, by omega⟩
  unfold f159_b181 at hf
  refine R_aload_n (i := 181) rfl rfl ?_
  refine R_aload_n (i := 182) rfl rfl ?_
  refine R_getI hW (i := 183) rfl rfl (Nat.le_of_ble_eq_true rfl) ?_
  have zq20 := bind_some hf
  clear hf
  obtain ⟨q20, eq20, hf⟩ := zq20
  refine R_callV (vs := [.int (hI h 0 8)]) (st' := []) hW (i := 184) rfl rfl rfl (Nat.le_of_ble_eq_true rfl) rfl (Nat.le_of_ble_eq_true rfl) rfl (f156_l eq20 hW (hh rfl hd) ?_)
  refine R_bipush (i := 185) rfl ?_
  refine R_icmpne (i := 186) rfl (fun c21 => ?_) (fun c21 => ?_)
  · rw [if_neg c21] at hf
    have hz := Option.some.inj hf
    subst hz
    exact R_vret (i := 201) rfl (kk hW)
  · rw [if_pos c21] at hf
    refine R_aload_n (i := 187) rfl rfl ?_
    refine R_dup (i := 188) rfl rfl ?_
    refine R_getI hW (i := 189) rfl rfl (Nat.le_of_ble_eq_true rfl) ?_
    refine R_iconst (i := 190) rfl ?_
    refine R_iadd (i := 191) rfl ?_
    refine R_putI hW (i := 192) rfl rfl (Nat.le_of_ble_eq_true rfl) (hg rfl hd) (fun h22 eh22 => ?_)
    replace hf := bnd_some eh22 hf
    have hW22 : WF 1 h22 := by rw [eh22]; exact hW
    refine R_aload_n (i := 193) rfl rfl ?_
    refine R_iload_n (i := 194) rfl rfl ?_
    refine R_bipush (i := 195) rfl ?_
    refine R_icmpne (i := 196) rfl (fun c23 => ?_) (fun c23 => ?_)
    · rw [if_neg c23] at hf
      refine R_iconst (i := 199) rfl ?_
      refine R_weak [none, none, none] ⟨Or.inl rfl, Or.inl rfl, Or.inr rfl, trivial⟩ ?_
      exact f159_b200_l hf hW22 hd kk
    · rw [if_pos c23] at hf
      refine R_iconst (i := 197) rfl ?_
      refine R_goto (i := 198) rfl ?_
      refine R_weak [none, none, none] ⟨Or.inl rfl, Or.inl rfl, Or.inr rfl, trivial⟩ ?_
      exact f159_b200_l hf hW22 hd kk
set_option maxRecDepth 100000 in
set_option maxHeartbeats 4000000 in
theorem f159_b174_l {d N : Nat} {x1 : Int32} {t0 : Int32} {h : Hp} {Q : Option Value → Hp → Prop} {q : Hp} (hf : f159_b174 N x1 t0 h = some q) (hW : WF 1 h) (hd : 5 ≤ d) (kk : WF 1 q → Q (none) q) : R 1 d 159 174 [some (.ref 0), some (.int x1), none] [.int t0, .ref 0] h Q := by
  unfold f159_b174 at hf
  refine R_putI hW (i := 174) rfl rfl (Nat.le_of_ble_eq_true rfl) (hg rfl hd) (fun h18 eh18 => ?_)
  replace hf := bnd_some eh18 hf
  have hW18 : WF 1 h18 := by rw [eh18]; exact hW
  refine R_iload_n (i := 175) rfl rfl ?_
  refine R_bipush (i := 176) rfl ?_
  refine R_icmpeq (i := 177) rfl (fun c19 => ?_) (fun c19 => ?_)
  · rw [if_pos c19] at hf
    exact f159_b181_l hf hW18 hd kk
  · rw [if_neg c19] at hf
    refine R_iload_n (i := 178) rfl rfl ?_
    refine R_bipush (i := 179) rfl ?_
    refine R_icmpne (i := 180) rfl (fun c25 => ?_) (fun c25 => ?_)
    · rw [if_neg c25] at hf
      have hz := Option.some.inj hf
      subst hz
      exact R_vret (i := 201) rfl (kk hW18)
    · rw [if_pos c25] at hf
      exact f159_b181_l hf hW18 hd kk
set_option maxRecDepth 100000 in
set_option maxHeartbeats 4000000 in
theorem f159_b167_l {d N : Nat} {x1 : Int32} {t0 : Int32} {h : Hp} {Q : Option Value → Hp → Prop} {q : Hp} (hf : f159_b167 N x1 t0 h = some q) (hW : WF 1 h) (hd : 5 ≤ d) (kk : WF 1 q → Q (none) q) : R 1 d 159 167 [some (.ref 0), some (.int x1), none] [.int t0] h Q := by
  unfold f159_b167 at hf
  refine R_istore_n [some (.ref 0), some (.int x1), some (.int t0)] (i := 167) rfl rfl ?_
  refine R_aload_n (i := 168) rfl rfl ?_
  refine R_iload_n (i := 169) rfl rfl ?_
  refine R_ifeq (i := 170) rfl (fun c17 => ?_) (fun c17 => ?_)
  · rw [if_pos c17] at hf
    refine R_iconst (i := 173) rfl ?_
    refine R_weak [some (.ref 0), some (.int x1), none] ⟨Or.inr rfl, Or.inr rfl, Or.inl rfl, trivial⟩ ?_
    exact f159_b174_l hf hW hd kk
  · rw [if_neg c17] at hf
    refine R_iload_n (i := 171) rfl rfl ?_
    refine R_goto (i := 172) rfl ?_
    refine R_weak [some (.ref 0), some (.int x1), none] ⟨Or.inr rfl, Or.inr rfl, Or.inl rfl, trivial⟩ ?_
    exact f159_b174_l hf hW hd kk
set_option maxRecDepth 100000 in
set_option maxHeartbeats 4000000 in
theorem f159_b164_l {d N : Nat} {x1 : Int32} {h : Hp} {Q : Option Value → Hp → Prop} {q : Hp} (hf : f159_b164 N x1 h = some q) (hW : WF 1 h) (hd : 5 ≤ d) (kk : WF 1 q → Q (none) q) : R 1 d 159 164 [some (.ref 0), some (.int x1), none] [] h Q := by
  unfold f159_b164 at hf
  refine R_iconst (i := 164) rfl ?_
  refine R_goto (i := 165) rfl ?_
  exact f159_b167_l hf hW hd kk
set_option maxRecDepth 100000 in
set_option maxHeartbeats 4000000 in
theorem f159_b107_l {d N : Nat} {h : Hp} {Q : Option Value → Hp → Prop} {j : Nat} {s' : Hp} (hf : f159_b107 N h = some (j, s')) (hW : WF 1 h) (hd : 5 ≤ d) (k0 : j = 0 → WF 1 s' → R 1 d 159 82 [some (.ref 0), none, none] [] s' Q) (k1 : j = 1 → WF 1 s' → R 1 d 159 114 [some (.ref 0), none, none] [] s' Q) : R 1 d 159 107 [some (.ref 0), none, none] [] h Q := by
  unfold f159_b107 at hf
  refine R_aload_n (i := 107) rfl rfl ?_
  refine R_dup (i := 108) rfl rfl ?_
  refine R_getI hW (i := 109) rfl rfl (Nat.le_of_ble_eq_true rfl) ?_
  refine R_iconst (i := 110) rfl ?_
  refine R_iadd (i := 111) rfl ?_
  refine R_putI hW (i := 112) rfl rfl (Nat.le_of_ble_eq_true rfl) (hg rfl hd) (fun h41 eh41 => ?_)
  replace hf := bnd_some eh41 hf
  have hW41 : WF 1 h41 := by rw [eh41]; exact hW
  refine R_goto (i := 113) rfl ?_
  obtain ⟨hj, hs⟩ := Prod.mk.inj (Option.some.inj hf)
  subst hj
  subst hs
  exact k0 rfl hW41
set_option maxRecDepth 100000 in
set_option maxHeartbeats 4000000 in
theorem f159_l82_l {d N : Nat} {s : Hp} {Q : Option Value → Hp → Prop} {j : Nat} {s' : Hp} (hf : f159_l82 N s = some (j, s')) (hW : WF 1 s) (hd : 5 ≤ d) (k0 : j = 0 → WF 1 s' → R 1 d 159 82 [some (.ref 0), none, none] [] s' Q) (k1 : j = 1 → WF 1 s' → R 1 d 159 114 [some (.ref 0), none, none] [] s' Q) : R 1 d 159 82 [some (.ref 0), none, none] [] s Q := by
  obtain ⟨d, rfl⟩ : ∃ z, d = z + 1 := ⟨d - 1, by omega⟩
  unfold f159_l82 at hf
  refine R_aload_n (i := 82) rfl rfl ?_
  refine R_aload_n (i := 83) rfl rfl ?_
  refine R_getI hW (i := 84) rfl rfl (Nat.le_of_ble_eq_true rfl) ?_
  have zq38 := bind_some hf
  clear hf
  obtain ⟨q38, eq38, hf⟩ := zq38
  refine R_callV (vs := [.int (hI s 0 8)]) (st' := []) hW (i := 85) rfl rfl rfl (Nat.le_of_ble_eq_true rfl) rfl (Nat.le_of_ble_eq_true rfl) rfl (f156_l eq38 hW (hh rfl hd) ?_)
  refine R_call (vs := [.int q38]) (st' := []) (i := 86) rfl (by decide) (by decide) rfl rfl (Nat.le_of_ble_eq_true rfl) rfl (f157_l (hh rfl hd) ?_)
  refine R_ifeq (i := 87) rfl (fun c39 => ?_) (fun c39 => ?_)
  · rw [if_pos c39] at hf
    obtain ⟨hj, hs⟩ := Prod.mk.inj (Option.some.inj hf)
    subst hj
    subst hs
    exact k1 rfl hW
  · rw [if_neg c39] at hf
    refine R_aload_n (i := 88) rfl rfl ?_
    refine R_getI hW (i := 89) rfl rfl (Nat.le_of_ble_eq_true rfl) ?_
    refine R_aload_n (i := 90) rfl rfl ?_
    refine R_getI hW (i := 91) rfl rfl (Nat.le_of_ble_eq_true rfl) ?_
    refine R_isub (i := 92) rfl ?_
    refine R_bipush (i := 93) rfl ?_
    refine R_icmpge (i := 94) rfl (fun c40 => ?_) (fun c40 => ?_)
    · rw [if_pos c40] at hf
      exact f159_b107_l hf hW hd k0 k1
    · rw [if_neg c40] at hf
      refine R_aload_n (i := 95) rfl rfl ?_
      refine R_aload_n (i := 96) rfl rfl ?_
      refine R_getL hW (i := 97) rfl rfl (Nat.le_of_ble_eq_true rfl) ?_
      refine R_bipush (i := 98) rfl ?_
      refine R_lshl (i := 99) rfl ?_
      refine R_aload_n (i := 100) rfl rfl ?_
      refine R_aload_n (i := 101) rfl rfl ?_
      refine R_getI hW (i := 102) rfl rfl (Nat.le_of_ble_eq_true rfl) ?_
      have zq42 := bind_some hf
      clear hf
      obtain ⟨q42, eq42, hf⟩ := zq42
      refine R_callV (vs := [.int (hI s 0 8)]) (st' := [.long (lshl (hL s 0 12) (8 : Int32)), .ref 0]) hW (i := 103) rfl rfl rfl (Nat.le_of_ble_eq_true rfl) rfl (Nat.le_of_ble_eq_true rfl) rfl (f156_l eq42 hW (hh rfl hd) ?_)
      refine R_i2l (i := 104) rfl ?_
      refine R_lor (i := 105) rfl ?_
      refine R_putL hW (i := 106) rfl rfl (Nat.le_of_ble_eq_true rfl) (hg rfl hd) (fun h43 eh43 => ?_)
      replace hf := bnd_some eh43 hf
      have hW43 : WF 1 h43 := by rw [eh43]; exact hW
      exact f159_b107_l hf hW43 hd k0 k1
set_option maxRecDepth 100000 in
set_option maxHeartbeats 4000000 in
theorem f159_b66_l {d N : Nat} {h : Hp} {Q : Option Value → Hp → Prop} {j : Nat} {s' : Hp} (hf : f159_b66 N h = some (j, s')) (hW : WF 1 h) (hd : 5 ≤ d) (k0 : j = 0 → WF 1 s' → R 1 d 159 43 [some (.ref 0), none, none] [] s' Q) (k1 : j = 1 → WF 1 s' → R 1 d 159 201 [none, none, none] [] s' Q) : R 1 d 159 66 [some (.ref 0), none, none] [] h Q := by
  unfold f159_b66 at hf
  refine R_aload_n (i := 66) rfl rfl ?_
  refine R_dup (i := 67) rfl rfl ?_
  refine R_getI hW (i := 68) rfl rfl (Nat.le_of_ble_eq_true rfl) ?_
  refine R_iconst (i := 69) rfl ?_
  refine R_iadd (i := 70) rfl ?_
  refine R_putI hW (i := 71) rfl rfl (Nat.le_of_ble_eq_true rfl) (hg rfl hd) (fun h52 eh52 => ?_)
  replace hf := bnd_some eh52 hf
  have hW52 : WF 1 h52 := by rw [eh52]; exact hW
  refine R_goto (i := 72) rfl ?_
  obtain ⟨hj, hs⟩ := Prod.mk.inj (Option.some.inj hf)
  subst hj
  subst hs
  exact k0 rfl hW52
set_option maxRecDepth 100000 in
set_option maxHeartbeats 4000000 in
theorem f159_l43_l {d N : Nat} {s : Hp} {Q : Option Value → Hp → Prop} {j : Nat} {s' : Hp} (hf : f159_l43 N s = some (j, s')) (hW : WF 1 s) (hd : 5 ≤ d) (k0 : j = 0 → WF 1 s' → R 1 d 159 43 [some (.ref 0), none, none] [] s' Q) (k1 : j = 1 → WF 1 s' → R 1 d 159 201 [none, none, none] [] s' Q) : R 1 d 159 43 [some (.ref 0), none, none] [] s Q := by
  obtain ⟨d, rfl⟩ : ∃ z, d = z + 1 := ⟨d - 1, by omega⟩
  unfold f159_l43 at hf
  refine R_aload_n (i := 43) rfl rfl ?_
  refine R_aload_n (i := 44) rfl rfl ?_
  refine R_getI hW (i := 45) rfl rfl (Nat.le_of_ble_eq_true rfl) ?_
  have zq49 := bind_some hf
  clear hf
  obtain ⟨q49, eq49, hf⟩ := zq49
  refine R_callV (vs := [.int (hI s 0 8)]) (st' := []) hW (i := 46) rfl rfl rfl (Nat.le_of_ble_eq_true rfl) rfl (Nat.le_of_ble_eq_true rfl) rfl (f156_l eq49 hW (hh rfl hd) ?_)
  refine R_call (vs := [.int q49]) (st' := []) (i := 47) rfl (by decide) (by decide) rfl rfl (Nat.le_of_ble_eq_true rfl) rfl (f158_l (hh rfl hd) ?_)
  refine R_ifeq (i := 48) rfl (fun c50 => ?_) (fun c50 => ?_)
  · rw [if_pos c50] at hf
    obtain ⟨hj, hs⟩ := Prod.mk.inj (Option.some.inj hf)
    subst hj
    subst hs
    refine R_weak [none, none, none] ⟨Or.inl rfl, Or.inr rfl, Or.inr rfl, trivial⟩ ?_
    exact k1 rfl hW
  · rw [if_neg c50] at hf
    refine R_aload_n (i := 49) rfl rfl ?_
    refine R_getI hW (i := 50) rfl rfl (Nat.le_of_ble_eq_true rfl) ?_
    refine R_ldc (i := 51) rfl ?_
    refine R_icmpge (i := 52) rfl (fun c51 => ?_) (fun c51 => ?_)
    · rw [if_pos c51] at hf
      exact f159_b66_l hf hW hd k0 k1
    · rw [if_neg c51] at hf
      refine R_aload_n (i := 53) rfl rfl ?_
      refine R_bipush (i := 54) rfl ?_
      refine R_aload_n (i := 55) rfl rfl ?_
      refine R_getI hW (i := 56) rfl rfl (Nat.le_of_ble_eq_true rfl) ?_
      refine R_imul (i := 57) rfl ?_
      refine R_aload_n (i := 58) rfl rfl ?_
      refine R_aload_n (i := 59) rfl rfl ?_
      refine R_getI hW (i := 60) rfl rfl (Nat.le_of_ble_eq_true rfl) ?_
      have zq53 := bind_some hf
      clear hf
      obtain ⟨q53, eq53, hf⟩ := zq53
      refine R_callV (vs := [.int (hI s 0 8)]) (st' := [.int ((10 : Int32) * (hI s 0 11)), .ref 0]) hW (i := 61) rfl rfl rfl (Nat.le_of_ble_eq_true rfl) rfl (Nat.le_of_ble_eq_true rfl) rfl (f156_l eq53 hW (hh rfl hd) ?_)
      refine R_iadd (i := 62) rfl ?_
      refine R_bipush (i := 63) rfl ?_
      refine R_isub (i := 64) rfl ?_
      refine R_putI hW (i := 65) rfl rfl (Nat.le_of_ble_eq_true rfl) (hg rfl hd) (fun h54 eh54 => ?_)
      replace hf := bnd_some eh54 hf
      have hW54 : WF 1 h54 := by rw [eh54]; exact hW
      exact f159_b66_l hf hW54 hd k0 k1
set_option maxRecDepth 100000 in
set_option maxHeartbeats 4000000 in
theorem f159_l {d N : Nat} {h : Hp} {Q : Option Value → Hp → Prop} {q : Hp} (hf : f159 N h = some q) (hW : WF 1 h) (hd : 5 ≤ d) (kk : WF 1 q → Q (none) q) : R 1 d 159 0 [some (.ref 0), none, none] [] h Q := by
  obtain ⟨d, rfl⟩ : ∃ z, d = z + 1 := ⟨d - 1, by omega⟩
  unfold f159 at hf
  refine R_aload_n (i := 0) rfl rfl ?_
  refine R_aload_n (i := 1) rfl rfl ?_
  refine R_getI hW (i := 2) rfl rfl (Nat.le_of_ble_eq_true rfl) ?_
  have zq1 := bind_some hf
  clear hf
  obtain ⟨q1, eq1, hf⟩ := zq1
  refine R_callV (vs := [.int (hI h 0 8)]) (st' := []) hW (i := 3) rfl rfl rfl (Nat.le_of_ble_eq_true rfl) rfl (Nat.le_of_ble_eq_true rfl) rfl (f156_l eq1 hW (hh rfl hd) ?_)
  refine R_bipush (i := 4) rfl ?_
  refine R_icmpeq (i := 5) rfl (fun c2 => ?_) (fun c2 => ?_)
  · rw [if_pos c2] at hf
    refine R_aload_n (i := 12) rfl rfl ?_
    refine R_dup (i := 13) rfl rfl ?_
    refine R_getI hW (i := 14) rfl rfl (Nat.le_of_ble_eq_true rfl) ?_
    refine R_iconst (i := 15) rfl ?_
    refine R_iadd (i := 16) rfl ?_
    refine R_putI hW (i := 17) rfl rfl (Nat.le_of_ble_eq_true rfl) (hg rfl hd) (fun h3 eh3 => ?_)
    replace hf := bnd_some eh3 hf
    have hW3 : WF 1 h3 := by rw [eh3]; exact hW
    refine R_goto (i := 18) rfl ?_
    have zq9 := bind_some hf
    clear hf
    obtain ⟨q9, eq9, hf⟩ := zq9
    refine lp_link (P := fun u0 => WF 1 u0 → R 1 (d + 1) 159 0 [some (.ref 0), none, none] [] u0 Q) (E := fun e u0 => WF 1 u0 → R 1 (d + 1) 159 19 [some (.ref 0), none, none] [] u0 Q) (fun s j s' hb k0 ke hWs => f159_l0_l hb hWs hd k0 (fun z y => ke 0 z y)) N h3 q9.1 q9.2 eq9 ?_ hW3
    intro hW9
    refine R_aload_n (i := 19) rfl rfl ?_
    refine R_aload_n (i := 20) rfl rfl ?_
    refine R_getI hW9 (i := 21) rfl rfl (Nat.le_of_ble_eq_true rfl) ?_
    refine R_putI hW9 (i := 22) rfl rfl (Nat.le_of_ble_eq_true rfl) (hg rfl hd) (fun h10 eh10 => ?_)
    replace hf := bnd_some eh10 hf
    have hW10 : WF 1 h10 := by rw [eh10]; exact hW9
    refine R_aload_n (i := 23) rfl rfl ?_
    refine R_aload_n (i := 24) rfl rfl ?_
    refine R_getI hW10 (i := 25) rfl rfl (Nat.le_of_ble_eq_true rfl) ?_
    have zq11 := bind_some hf
    clear hf
    obtain ⟨q11, eq11, hf⟩ := zq11
    refine R_callV (vs := [.int (hI h10 0 8)]) (st' := []) hW10 (i := 26) rfl rfl rfl (Nat.le_of_ble_eq_true rfl) rfl (Nat.le_of_ble_eq_true rfl) rfl (f156_l eq11 hW10 (hh rfl hd) ?_)
    refine R_istore_n [some (.ref 0), some (.int q11), none] (i := 27) rfl rfl ?_
    refine R_iload_n (i := 28) rfl rfl ?_
    refine R_ifge (i := 29) rfl (fun c12 => ?_) (fun c12 => ?_)
    · rw [if_pos c12] at hf
      refine R_iload_n (i := 34) rfl rfl ?_
      refine R_call (vs := [.int q11]) (st' := []) (i := 35) rfl (by decide) (by decide) rfl rfl (Nat.le_of_ble_eq_true rfl) rfl (f158_l (hh rfl hd) ?_)
      refine R_ifeq (i := 36) rfl (fun c13 => ?_) (fun c13 => ?_)
      · rw [if_pos c13] at hf
        refine R_iload_n (i := 73) rfl rfl ?_
        refine R_call (vs := [.int q11]) (st' := []) (i := 74) rfl (by decide) (by decide) rfl rfl (Nat.le_of_ble_eq_true rfl) rfl (f157_l (hh rfl hd) ?_)
        refine R_ifeq (i := 75) rfl (fun c14 => ?_) (fun c14 => ?_)
        · rw [if_pos c14] at hf
          refine R_aload_n (i := 125) rfl rfl ?_
          refine R_dup (i := 126) rfl rfl ?_
          refine R_getI hW10 (i := 127) rfl rfl (Nat.le_of_ble_eq_true rfl) ?_
          refine R_iconst (i := 128) rfl ?_
          refine R_iadd (i := 129) rfl ?_
          refine R_putI hW10 (i := 130) rfl rfl (Nat.le_of_ble_eq_true rfl) (hg rfl hd) (fun h15 eh15 => ?_)
          replace hf := bnd_some eh15 hf
          have hW15 : WF 1 h15 := by rw [eh15]; exact hW10
          refine R_iload_n (i := 131) rfl rfl ?_
          refine R_bipush (i := 132) rfl ?_
          refine R_icmpeq (i := 133) rfl (fun c16 => ?_) (fun c16 => ?_)
          · rw [if_pos c16] at hf
            exact f159_b164_l hf hW15 hd kk
          · rw [if_neg c16] at hf
            refine R_iload_n (i := 134) rfl rfl ?_
            refine R_bipush (i := 135) rfl ?_
            refine R_icmpeq (i := 136) rfl (fun c26 => ?_) (fun c26 => ?_)
            · rw [if_pos c26] at hf
              exact f159_b164_l hf hW15 hd kk
            · rw [if_neg c26] at hf
              refine R_iload_n (i := 137) rfl rfl ?_
              refine R_bipush (i := 138) rfl ?_
              refine R_icmpeq (i := 139) rfl (fun c27 => ?_) (fun c27 => ?_)
              · rw [if_pos c27] at hf
                exact f159_b164_l hf hW15 hd kk
              · rw [if_neg c27] at hf
                refine R_iload_n (i := 140) rfl rfl ?_
                refine R_bipush (i := 141) rfl ?_
                refine R_icmpeq (i := 142) rfl (fun c28 => ?_) (fun c28 => ?_)
                · rw [if_pos c28] at hf
                  exact f159_b164_l hf hW15 hd kk
                · rw [if_neg c28] at hf
                  refine R_iload_n (i := 143) rfl rfl ?_
                  refine R_bipush (i := 144) rfl ?_
                  refine R_icmpeq (i := 145) rfl (fun c29 => ?_) (fun c29 => ?_)
                  · rw [if_pos c29] at hf
                    exact f159_b164_l hf hW15 hd kk
                  · rw [if_neg c29] at hf
                    refine R_iload_n (i := 146) rfl rfl ?_
                    refine R_bipush (i := 147) rfl ?_
                    refine R_icmpeq (i := 148) rfl (fun c30 => ?_) (fun c30 => ?_)
                    · rw [if_pos c30] at hf
                      exact f159_b164_l hf hW15 hd kk
                    · rw [if_neg c30] at hf
                      refine R_iload_n (i := 149) rfl rfl ?_
                      refine R_bipush (i := 150) rfl ?_
                      refine R_icmpeq (i := 151) rfl (fun c31 => ?_) (fun c31 => ?_)
                      · rw [if_pos c31] at hf
                        exact f159_b164_l hf hW15 hd kk
                      · rw [if_neg c31] at hf
                        refine R_iload_n (i := 152) rfl rfl ?_
                        refine R_bipush (i := 153) rfl ?_
                        refine R_icmpeq (i := 154) rfl (fun c32 => ?_) (fun c32 => ?_)
                        · rw [if_pos c32] at hf
                          exact f159_b164_l hf hW15 hd kk
                        · rw [if_neg c32] at hf
                          refine R_iload_n (i := 155) rfl rfl ?_
                          refine R_bipush (i := 156) rfl ?_
                          refine R_icmpeq (i := 157) rfl (fun c33 => ?_) (fun c33 => ?_)
                          · rw [if_pos c33] at hf
                            exact f159_b164_l hf hW15 hd kk
                          · rw [if_neg c33] at hf
                            refine R_iload_n (i := 158) rfl rfl ?_
                            refine R_bipush (i := 159) rfl ?_
                            refine R_icmpeq (i := 160) rfl (fun c34 => ?_) (fun c34 => ?_)
                            · rw [if_pos c34] at hf
                              exact f159_b164_l hf hW15 hd kk
                            · rw [if_neg c34] at hf
                              refine R_iload_n (i := 161) rfl rfl ?_
                              refine R_bipush (i := 162) rfl ?_
                              refine R_icmpne (i := 163) rfl (fun c35 => ?_) (fun c35 => ?_)
                              · rw [if_neg c35] at hf
                                refine R_iconst (i := 166) rfl ?_
                                exact f159_b167_l hf hW15 hd kk
                              · rw [if_pos c35] at hf
                                exact f159_b164_l hf hW15 hd kk
        · rw [if_neg c14] at hf
          refine R_aload_n (i := 76) rfl rfl ?_
          refine R_iconst (i := 77) rfl ?_
          refine R_putI hW10 (i := 78) rfl rfl (Nat.le_of_ble_eq_true rfl) (hg rfl hd) (fun h36 eh36 => ?_)
          replace hf := bnd_some eh36 hf
          have hW36 : WF 1 h36 := by rw [eh36]; exact hW10
          refine R_aload_n (i := 79) rfl rfl ?_
          refine R_lconst (v := (0)) (i := 80) rfl (by decide) ?_
          refine R_putL hW36 (i := 81) rfl rfl (Nat.le_of_ble_eq_true rfl) (hg rfl hd) (fun h37 eh37 => ?_)
          replace hf := bnd_some eh37 hf
          have hW37 : WF 1 h37 := by rw [eh37]; exact hW36
          refine R_weak [some (.ref 0), none, none] ⟨Or.inr rfl, Or.inl rfl, Or.inr rfl, trivial⟩ ?_
          have zq44 := bind_some hf
          clear hf
          obtain ⟨q44, eq44, hf⟩ := zq44
          refine lp_link (P := fun u82 => WF 1 u82 → R 1 (d + 1) 159 82 [some (.ref 0), none, none] [] u82 Q) (E := fun e u82 => WF 1 u82 → R 1 (d + 1) 159 114 [some (.ref 0), none, none] [] u82 Q) (fun s j s' hb k0 ke hWs => f159_l82_l hb hWs hd k0 (fun z y => ke 0 z y)) N h37 q44.1 q44.2 eq44 ?_ hW37
          intro hW44
          refine R_aload_n (i := 114) rfl rfl ?_
          refine R_getI hW44 (i := 115) rfl rfl (Nat.le_of_ble_eq_true rfl) ?_
          refine R_aload_n (i := 116) rfl rfl ?_
          refine R_getI hW44 (i := 117) rfl rfl (Nat.le_of_ble_eq_true rfl) ?_
          refine R_isub (i := 118) rfl ?_
          refine R_bipush (i := 119) rfl ?_
          refine R_icmple (i := 120) rfl (fun c45 => ?_) (fun c45 => ?_)
          · rw [if_pos c45] at hf
            have hz := Option.some.inj hf
            subst hz
            exact R_vret (i := 201) rfl (kk hW44)
          · rw [if_neg c45] at hf
            refine R_aload_n (i := 121) rfl rfl ?_
            refine R_lconst (v := (0)) (i := 122) rfl (by decide) ?_
            refine R_putL hW44 (i := 123) rfl rfl (Nat.le_of_ble_eq_true rfl) (hg rfl hd) (fun h46 eh46 => ?_)
            replace hf := bnd_some eh46 hf
            have hW46 : WF 1 h46 := by rw [eh46]; exact hW44
            refine R_goto (i := 124) rfl ?_
            have hz := Option.some.inj hf
            subst hz
            exact R_vret (i := 201) rfl (kk hW46)
      · rw [if_neg c13] at hf
        refine R_aload_n (i := 37) rfl rfl ?_
        refine R_iconst (i := 38) rfl ?_
        refine R_putI hW10 (i := 39) rfl rfl (Nat.le_of_ble_eq_true rfl) (hg rfl hd) (fun h47 eh47 => ?_)
        replace hf := bnd_some eh47 hf
        have hW47 : WF 1 h47 := by rw [eh47]; exact hW10
        refine R_aload_n (i := 40) rfl rfl ?_
        refine R_iconst (i := 41) rfl ?_
        refine R_putI hW47 (i := 42) rfl rfl (Nat.le_of_ble_eq_true rfl) (hg rfl hd) (fun h48 eh48 => ?_)
        replace hf := bnd_some eh48 hf
        have hW48 : WF 1 h48 := by rw [eh48]; exact hW47
        refine R_weak [some (.ref 0), none, none] ⟨Or.inr rfl, Or.inl rfl, Or.inr rfl, trivial⟩ ?_
        have zq55 := bind_some hf
        clear hf
        obtain ⟨q55, eq55, hf⟩ := zq55
        refine lp_link (P := fun u43 => WF 1 u43 → R 1 (d + 1) 159 43 [some (.ref 0), none, none] [] u43 Q) (E := fun e u43 => WF 1 u43 → R 1 (d + 1) 159 201 [none, none, none] [] u43 Q) (fun s j s' hb k0 ke hWs => f159_l43_l hb hWs hd k0 (fun z y => ke 0 z y)) N h48 q55.1 q55.2 eq55 ?_ hW48
        intro hW55
        have hz := Option.some.inj hf
        subst hz
        exact R_vret (i := 201) rfl (kk hW55)
    · rw [if_neg c12] at hf
      refine R_aload_n (i := 30) rfl rfl ?_
      refine R_iconst (i := 31) rfl ?_
      refine R_putI hW10 (i := 32) rfl rfl (Nat.le_of_ble_eq_true rfl) (hg rfl hd) (fun h56 eh56 => ?_)
      replace hf := bnd_some eh56 hf
      have hW56 : WF 1 h56 := by rw [eh56]; exact hW10
      refine R_goto (i := 33) rfl ?_
      have hz := Option.some.inj hf
      subst hz
      exact R_vret (i := 201) rfl (kk hW56)
  · rw [if_neg c2] at hf
    refine R_aload_n (i := 6) rfl rfl ?_
    refine R_aload_n (i := 7) rfl rfl ?_
    refine R_getI hW (i := 8) rfl rfl (Nat.le_of_ble_eq_true rfl) ?_
    have zq57 := bind_some hf
    clear hf
    obtain ⟨q57, eq57, hf⟩ := zq57
    refine R_callV (vs := [.int (hI h 0 8)]) (st' := []) hW (i := 9) rfl rfl rfl (Nat.le_of_ble_eq_true rfl) rfl (Nat.le_of_ble_eq_true rfl) rfl (f156_l eq57 hW (hh rfl hd) ?_)
    refine R_bipush (i := 10) rfl ?_
    refine R_icmpne (i := 11) rfl (fun c58 => ?_) (fun c58 => ?_)
    · rw [if_neg c58] at hf
      refine R_aload_n (i := 19) rfl rfl ?_
      refine R_aload_n (i := 20) rfl rfl ?_
      refine R_getI hW (i := 21) rfl rfl (Nat.le_of_ble_eq_true rfl) ?_
      refine R_putI hW (i := 22) rfl rfl (Nat.le_of_ble_eq_true rfl) (hg rfl hd) (fun h59 eh59 => ?_)
      replace hf := bnd_some eh59 hf
      have hW59 : WF 1 h59 := by rw [eh59]; exact hW
      refine R_aload_n (i := 23) rfl rfl ?_
      refine R_aload_n (i := 24) rfl rfl ?_
      refine R_getI hW59 (i := 25) rfl rfl (Nat.le_of_ble_eq_true rfl) ?_
      have zq60 := bind_some hf
      clear hf
      obtain ⟨q60, eq60, hf⟩ := zq60
      refine R_callV (vs := [.int (hI h59 0 8)]) (st' := []) hW59 (i := 26) rfl rfl rfl (Nat.le_of_ble_eq_true rfl) rfl (Nat.le_of_ble_eq_true rfl) rfl (f156_l eq60 hW59 (hh rfl hd) ?_)
      refine R_istore_n [some (.ref 0), some (.int q60), none] (i := 27) rfl rfl ?_
      refine R_iload_n (i := 28) rfl rfl ?_
      refine R_ifge (i := 29) rfl (fun c61 => ?_) (fun c61 => ?_)
      · rw [if_pos c61] at hf
        refine R_iload_n (i := 34) rfl rfl ?_
        refine R_call (vs := [.int q60]) (st' := []) (i := 35) rfl (by decide) (by decide) rfl rfl (Nat.le_of_ble_eq_true rfl) rfl (f158_l (hh rfl hd) ?_)
        refine R_ifeq (i := 36) rfl (fun c62 => ?_) (fun c62 => ?_)
        · rw [if_pos c62] at hf
          refine R_iload_n (i := 73) rfl rfl ?_
          refine R_call (vs := [.int q60]) (st' := []) (i := 74) rfl (by decide) (by decide) rfl rfl (Nat.le_of_ble_eq_true rfl) rfl (f157_l (hh rfl hd) ?_)
          refine R_ifeq (i := 75) rfl (fun c63 => ?_) (fun c63 => ?_)
          · rw [if_pos c63] at hf
            refine R_aload_n (i := 125) rfl rfl ?_
            refine R_dup (i := 126) rfl rfl ?_
            refine R_getI hW59 (i := 127) rfl rfl (Nat.le_of_ble_eq_true rfl) ?_
            refine R_iconst (i := 128) rfl ?_
            refine R_iadd (i := 129) rfl ?_
            refine R_putI hW59 (i := 130) rfl rfl (Nat.le_of_ble_eq_true rfl) (hg rfl hd) (fun h64 eh64 => ?_)
            replace hf := bnd_some eh64 hf
            have hW64 : WF 1 h64 := by rw [eh64]; exact hW59
            refine R_iload_n (i := 131) rfl rfl ?_
            refine R_bipush (i := 132) rfl ?_
            refine R_icmpeq (i := 133) rfl (fun c65 => ?_) (fun c65 => ?_)
            · rw [if_pos c65] at hf
              exact f159_b164_l hf hW64 hd kk
            · rw [if_neg c65] at hf
              refine R_iload_n (i := 134) rfl rfl ?_
              refine R_bipush (i := 135) rfl ?_
              refine R_icmpeq (i := 136) rfl (fun c66 => ?_) (fun c66 => ?_)
              · rw [if_pos c66] at hf
                exact f159_b164_l hf hW64 hd kk
              · rw [if_neg c66] at hf
                refine R_iload_n (i := 137) rfl rfl ?_
                refine R_bipush (i := 138) rfl ?_
                refine R_icmpeq (i := 139) rfl (fun c67 => ?_) (fun c67 => ?_)
                · rw [if_pos c67] at hf
                  exact f159_b164_l hf hW64 hd kk
                · rw [if_neg c67] at hf
                  refine R_iload_n (i := 140) rfl rfl ?_
                  refine R_bipush (i := 141) rfl ?_
                  refine R_icmpeq (i := 142) rfl (fun c68 => ?_) (fun c68 => ?_)
                  · rw [if_pos c68] at hf
                    exact f159_b164_l hf hW64 hd kk
                  · rw [if_neg c68] at hf
                    refine R_iload_n (i := 143) rfl rfl ?_
                    refine R_bipush (i := 144) rfl ?_
                    refine R_icmpeq (i := 145) rfl (fun c69 => ?_) (fun c69 => ?_)
                    · rw [if_pos c69] at hf
                      exact f159_b164_l hf hW64 hd kk
                    · rw [if_neg c69] at hf
                      refine R_iload_n (i := 146) rfl rfl ?_
                      refine R_bipush (i := 147) rfl ?_
                      refine R_icmpeq (i := 148) rfl (fun c70 => ?_) (fun c70 => ?_)
                      · rw [if_pos c70] at hf
                        exact f159_b164_l hf hW64 hd kk
                      · rw [if_neg c70] at hf
                        refine R_iload_n (i := 149) rfl rfl ?_
                        refine R_bipush (i := 150) rfl ?_
                        refine R_icmpeq (i := 151) rfl (fun c71 => ?_) (fun c71 => ?_)
                        · rw [if_pos c71] at hf
                          exact f159_b164_l hf hW64 hd kk
                        · rw [if_neg c71] at hf
                          refine R_iload_n (i := 152) rfl rfl ?_
                          refine R_bipush (i := 153) rfl ?_
                          refine R_icmpeq (i := 154) rfl (fun c72 => ?_) (fun c72 => ?_)
                          · rw [if_pos c72] at hf
                            exact f159_b164_l hf hW64 hd kk
                          · rw [if_neg c72] at hf
                            refine R_iload_n (i := 155) rfl rfl ?_
                            refine R_bipush (i := 156) rfl ?_
                            refine R_icmpeq (i := 157) rfl (fun c73 => ?_) (fun c73 => ?_)
                            · rw [if_pos c73] at hf
                              exact f159_b164_l hf hW64 hd kk
                            · rw [if_neg c73] at hf
                              refine R_iload_n (i := 158) rfl rfl ?_
                              refine R_bipush (i := 159) rfl ?_
                              refine R_icmpeq (i := 160) rfl (fun c74 => ?_) (fun c74 => ?_)
                              · rw [if_pos c74] at hf
                                exact f159_b164_l hf hW64 hd kk
                              · rw [if_neg c74] at hf
                                refine R_iload_n (i := 161) rfl rfl ?_
                                refine R_bipush (i := 162) rfl ?_
                                refine R_icmpne (i := 163) rfl (fun c75 => ?_) (fun c75 => ?_)
                                · rw [if_neg c75] at hf
                                  refine R_iconst (i := 166) rfl ?_
                                  exact f159_b167_l hf hW64 hd kk
                                · rw [if_pos c75] at hf
                                  exact f159_b164_l hf hW64 hd kk
          · rw [if_neg c63] at hf
            refine R_aload_n (i := 76) rfl rfl ?_
            refine R_iconst (i := 77) rfl ?_
            refine R_putI hW59 (i := 78) rfl rfl (Nat.le_of_ble_eq_true rfl) (hg rfl hd) (fun h76 eh76 => ?_)
            replace hf := bnd_some eh76 hf
            have hW76 : WF 1 h76 := by rw [eh76]; exact hW59
            refine R_aload_n (i := 79) rfl rfl ?_
            refine R_lconst (v := (0)) (i := 80) rfl (by decide) ?_
            refine R_putL hW76 (i := 81) rfl rfl (Nat.le_of_ble_eq_true rfl) (hg rfl hd) (fun h77 eh77 => ?_)
            replace hf := bnd_some eh77 hf
            have hW77 : WF 1 h77 := by rw [eh77]; exact hW76
            refine R_weak [some (.ref 0), none, none] ⟨Or.inr rfl, Or.inl rfl, Or.inr rfl, trivial⟩ ?_
            have zq78 := bind_some hf
            clear hf
            obtain ⟨q78, eq78, hf⟩ := zq78
            refine lp_link (P := fun u82 => WF 1 u82 → R 1 (d + 1) 159 82 [some (.ref 0), none, none] [] u82 Q) (E := fun e u82 => WF 1 u82 → R 1 (d + 1) 159 114 [some (.ref 0), none, none] [] u82 Q) (fun s j s' hb k0 ke hWs => f159_l82_l hb hWs hd k0 (fun z y => ke 0 z y)) N h77 q78.1 q78.2 eq78 ?_ hW77
            intro hW78
            refine R_aload_n (i := 114) rfl rfl ?_
            refine R_getI hW78 (i := 115) rfl rfl (Nat.le_of_ble_eq_true rfl) ?_
            refine R_aload_n (i := 116) rfl rfl ?_
            refine R_getI hW78 (i := 117) rfl rfl (Nat.le_of_ble_eq_true rfl) ?_
            refine R_isub (i := 118) rfl ?_
            refine R_bipush (i := 119) rfl ?_
            refine R_icmple (i := 120) rfl (fun c79 => ?_) (fun c79 => ?_)
            · rw [if_pos c79] at hf
              have hz := Option.some.inj hf
              subst hz
              exact R_vret (i := 201) rfl (kk hW78)
            · rw [if_neg c79] at hf
              refine R_aload_n (i := 121) rfl rfl ?_
              refine R_lconst (v := (0)) (i := 122) rfl (by decide) ?_
              refine R_putL hW78 (i := 123) rfl rfl (Nat.le_of_ble_eq_true rfl) (hg rfl hd) (fun h80 eh80 => ?_)
              replace hf := bnd_some eh80 hf
              have hW80 : WF 1 h80 := by rw [eh80]; exact hW78
              refine R_goto (i := 124) rfl ?_
              have hz := Option.some.inj hf
              subst hz
              exact R_vret (i := 201) rfl (kk hW80)
        · rw [if_neg c62] at hf
          refine R_aload_n (i := 37) rfl rfl ?_
          refine R_iconst (i := 38) rfl ?_
          refine R_putI hW59 (i := 39) rfl rfl (Nat.le_of_ble_eq_true rfl) (hg rfl hd) (fun h81 eh81 => ?_)
          replace hf := bnd_some eh81 hf
          have hW81 : WF 1 h81 := by rw [eh81]; exact hW59
          refine R_aload_n (i := 40) rfl rfl ?_
          refine R_iconst (i := 41) rfl ?_
          refine R_putI hW81 (i := 42) rfl rfl (Nat.le_of_ble_eq_true rfl) (hg rfl hd) (fun h82 eh82 => ?_)
          replace hf := bnd_some eh82 hf
          have hW82 : WF 1 h82 := by rw [eh82]; exact hW81
          refine R_weak [some (.ref 0), none, none] ⟨Or.inr rfl, Or.inl rfl, Or.inr rfl, trivial⟩ ?_
          have zq83 := bind_some hf
          clear hf
          obtain ⟨q83, eq83, hf⟩ := zq83
          refine lp_link (P := fun u43 => WF 1 u43 → R 1 (d + 1) 159 43 [some (.ref 0), none, none] [] u43 Q) (E := fun e u43 => WF 1 u43 → R 1 (d + 1) 159 201 [none, none, none] [] u43 Q) (fun s j s' hb k0 ke hWs => f159_l43_l hb hWs hd k0 (fun z y => ke 0 z y)) N h82 q83.1 q83.2 eq83 ?_ hW82
          intro hW83
          have hz := Option.some.inj hf
          subst hz
          exact R_vret (i := 201) rfl (kk hW83)
      · rw [if_neg c61] at hf
        refine R_aload_n (i := 30) rfl rfl ?_
        refine R_iconst (i := 31) rfl ?_
        refine R_putI hW59 (i := 32) rfl rfl (Nat.le_of_ble_eq_true rfl) (hg rfl hd) (fun h84 eh84 => ?_)
        replace hf := bnd_some eh84 hf
        have hW84 : WF 1 h84 := by rw [eh84]; exact hW59
        refine R_goto (i := 33) rfl ?_
        have hz := Option.some.inj hf
        subst hz
        exact R_vret (i := 201) rfl (kk hW84)
    · rw [if_pos c58] at hf
      refine R_aload_n (i := 12) rfl rfl ?_
      refine R_dup (i := 13) rfl rfl ?_
      refine R_getI hW (i := 14) rfl rfl (Nat.le_of_ble_eq_true rfl) ?_
      refine R_iconst (i := 15) rfl ?_
      refine R_iadd (i := 16) rfl ?_
      refine R_putI hW (i := 17) rfl rfl (Nat.le_of_ble_eq_true rfl) (hg rfl hd) (fun h85 eh85 => ?_)
      replace hf := bnd_some eh85 hf
      have hW85 : WF 1 h85 := by rw [eh85]; exact hW
      refine R_goto (i := 18) rfl ?_
      have zq86 := bind_some hf
      clear hf
      obtain ⟨q86, eq86, hf⟩ := zq86
      refine lp_link (P := fun u0 => WF 1 u0 → R 1 (d + 1) 159 0 [some (.ref 0), none, none] [] u0 Q) (E := fun e u0 => WF 1 u0 → R 1 (d + 1) 159 19 [some (.ref 0), none, none] [] u0 Q) (fun s j s' hb k0 ke hWs => f159_l0_l hb hWs hd k0 (fun z y => ke 0 z y)) N h85 q86.1 q86.2 eq86 ?_ hW85
      intro hW86
      refine R_aload_n (i := 19) rfl rfl ?_
      refine R_aload_n (i := 20) rfl rfl ?_
      refine R_getI hW86 (i := 21) rfl rfl (Nat.le_of_ble_eq_true rfl) ?_
      refine R_putI hW86 (i := 22) rfl rfl (Nat.le_of_ble_eq_true rfl) (hg rfl hd) (fun h87 eh87 => ?_)
      replace hf := bnd_some eh87 hf
      have hW87 : WF 1 h87 := by rw [eh87]; exact hW86
      refine R_aload_n (i := 23) rfl rfl ?_
      refine R_aload_n (i := 24) rfl rfl ?_
      refine R_getI hW87 (i := 25) rfl rfl (Nat.le_of_ble_eq_true rfl) ?_
      have zq88 := bind_some hf
      clear hf
      obtain ⟨q88, eq88, hf⟩ := zq88
      refine R_callV (vs := [.int (hI h87 0 8)]) (st' := []) hW87 (i := 26) rfl rfl rfl (Nat.le_of_ble_eq_true rfl) rfl (Nat.le_of_ble_eq_true rfl) rfl (f156_l eq88 hW87 (hh rfl hd) ?_)
      refine R_istore_n [some (.ref 0), some (.int q88), none] (i := 27) rfl rfl ?_
      refine R_iload_n (i := 28) rfl rfl ?_
      refine R_ifge (i := 29) rfl (fun c89 => ?_) (fun c89 => ?_)
      · rw [if_pos c89] at hf
        refine R_iload_n (i := 34) rfl rfl ?_
        refine R_call (vs := [.int q88]) (st' := []) (i := 35) rfl (by decide) (by decide) rfl rfl (Nat.le_of_ble_eq_true rfl) rfl (f158_l (hh rfl hd) ?_)
        refine R_ifeq (i := 36) rfl (fun c90 => ?_) (fun c90 => ?_)
        · rw [if_pos c90] at hf
          refine R_iload_n (i := 73) rfl rfl ?_
          refine R_call (vs := [.int q88]) (st' := []) (i := 74) rfl (by decide) (by decide) rfl rfl (Nat.le_of_ble_eq_true rfl) rfl (f157_l (hh rfl hd) ?_)
          refine R_ifeq (i := 75) rfl (fun c91 => ?_) (fun c91 => ?_)
          · rw [if_pos c91] at hf
            refine R_aload_n (i := 125) rfl rfl ?_
            refine R_dup (i := 126) rfl rfl ?_
            refine R_getI hW87 (i := 127) rfl rfl (Nat.le_of_ble_eq_true rfl) ?_
            refine R_iconst (i := 128) rfl ?_
            refine R_iadd (i := 129) rfl ?_
            refine R_putI hW87 (i := 130) rfl rfl (Nat.le_of_ble_eq_true rfl) (hg rfl hd) (fun h92 eh92 => ?_)
            replace hf := bnd_some eh92 hf
            have hW92 : WF 1 h92 := by rw [eh92]; exact hW87
            refine R_iload_n (i := 131) rfl rfl ?_
            refine R_bipush (i := 132) rfl ?_
            refine R_icmpeq (i := 133) rfl (fun c93 => ?_) (fun c93 => ?_)
            · rw [if_pos c93] at hf
              exact f159_b164_l hf hW92 hd kk
            · rw [if_neg c93] at hf
              refine R_iload_n (i := 134) rfl rfl ?_
              refine R_bipush (i := 135) rfl ?_
              refine R_icmpeq (i := 136) rfl (fun c94 => ?_) (fun c94 => ?_)
              · rw [if_pos c94] at hf
                exact f159_b164_l hf hW92 hd kk
              · rw [if_neg c94] at hf
                refine R_iload_n (i := 137) rfl rfl ?_
                refine R_bipush (i := 138) rfl ?_
                refine R_icmpeq (i := 139) rfl (fun c95 => ?_) (fun c95 => ?_)
                · rw [if_pos c95] at hf
                  exact f159_b164_l hf hW92 hd kk
                · rw [if_neg c95] at hf
                  refine R_iload_n (i := 140) rfl rfl ?_
                  refine R_bipush (i := 141) rfl ?_
                  refine R_icmpeq (i := 142) rfl (fun c96 => ?_) (fun c96 => ?_)
                  · rw [if_pos c96] at hf
                    exact f159_b164_l hf hW92 hd kk
                  · rw [if_neg c96] at hf
                    refine R_iload_n (i := 143) rfl rfl ?_
                    refine R_bipush (i := 144) rfl ?_
                    refine R_icmpeq (i := 145) rfl (fun c97 => ?_) (fun c97 => ?_)
                    · rw [if_pos c97] at hf
                      exact f159_b164_l hf hW92 hd kk
                    · rw [if_neg c97] at hf
                      refine R_iload_n (i := 146) rfl rfl ?_
                      refine R_bipush (i := 147) rfl ?_
                      refine R_icmpeq (i := 148) rfl (fun c98 => ?_) (fun c98 => ?_)
                      · rw [if_pos c98] at hf
                        exact f159_b164_l hf hW92 hd kk
                      · rw [if_neg c98] at hf
                        refine R_iload_n (i := 149) rfl rfl ?_
                        refine R_bipush (i := 150) rfl ?_
                        refine R_icmpeq (i := 151) rfl (fun c99 => ?_) (fun c99 => ?_)
                        · rw [if_pos c99] at hf
                          exact f159_b164_l hf hW92 hd kk
                        · rw [if_neg c99] at hf
                          refine R_iload_n (i := 152) rfl rfl ?_
                          refine R_bipush (i := 153) rfl ?_
                          refine R_icmpeq (i := 154) rfl (fun c100 => ?_) (fun c100 => ?_)
                          · rw [if_pos c100] at hf
                            exact f159_b164_l hf hW92 hd kk
                          · rw [if_neg c100] at hf
                            refine R_iload_n (i := 155) rfl rfl ?_
                            refine R_bipush (i := 156) rfl ?_
                            refine R_icmpeq (i := 157) rfl (fun c101 => ?_) (fun c101 => ?_)
                            · rw [if_pos c101] at hf
                              exact f159_b164_l hf hW92 hd kk
                            · rw [if_neg c101] at hf
                              refine R_iload_n (i := 158) rfl rfl ?_
                              refine R_bipush (i := 159) rfl ?_
                              refine R_icmpeq (i := 160) rfl (fun c102 => ?_) (fun c102 => ?_)
                              · rw [if_pos c102] at hf
                                exact f159_b164_l hf hW92 hd kk
                              · rw [if_neg c102] at hf
                                refine R_iload_n (i := 161) rfl rfl ?_
                                refine R_bipush (i := 162) rfl ?_
                                refine R_icmpne (i := 163) rfl (fun c103 => ?_) (fun c103 => ?_)
                                · rw [if_neg c103] at hf
                                  refine R_iconst (i := 166) rfl ?_
                                  exact f159_b167_l hf hW92 hd kk
                                · rw [if_pos c103] at hf
                                  exact f159_b164_l hf hW92 hd kk
          · rw [if_neg c91] at hf
            refine R_aload_n (i := 76) rfl rfl ?_
            refine R_iconst (i := 77) rfl ?_
            refine R_putI hW87 (i := 78) rfl rfl (Nat.le_of_ble_eq_true rfl) (hg rfl hd) (fun h104 eh104 => ?_)
            replace hf := bnd_some eh104 hf
            have hW104 : WF 1 h104 := by rw [eh104]; exact hW87
            refine R_aload_n (i := 79) rfl rfl ?_
            refine R_lconst (v := (0)) (i := 80) rfl (by decide) ?_
            refine R_putL hW104 (i := 81) rfl rfl (Nat.le_of_ble_eq_true rfl) (hg rfl hd) (fun h105 eh105 => ?_)
            replace hf := bnd_some eh105 hf
            have hW105 : WF 1 h105 := by rw [eh105]; exact hW104
            refine R_weak [some (.ref 0), none, none] ⟨Or.inr rfl, Or.inl rfl, Or.inr rfl, trivial⟩ ?_
            have zq106 := bind_some hf
            clear hf
            obtain ⟨q106, eq106, hf⟩ := zq106
            refine lp_link (P := fun u82 => WF 1 u82 → R 1 (d + 1) 159 82 [some (.ref 0), none, none] [] u82 Q) (E := fun e u82 => WF 1 u82 → R 1 (d + 1) 159 114 [some (.ref 0), none, none] [] u82 Q) (fun s j s' hb k0 ke hWs => f159_l82_l hb hWs hd k0 (fun z y => ke 0 z y)) N h105 q106.1 q106.2 eq106 ?_ hW105
            intro hW106
            refine R_aload_n (i := 114) rfl rfl ?_
            refine R_getI hW106 (i := 115) rfl rfl (Nat.le_of_ble_eq_true rfl) ?_
            refine R_aload_n (i := 116) rfl rfl ?_
            refine R_getI hW106 (i := 117) rfl rfl (Nat.le_of_ble_eq_true rfl) ?_
            refine R_isub (i := 118) rfl ?_
            refine R_bipush (i := 119) rfl ?_
            refine R_icmple (i := 120) rfl (fun c107 => ?_) (fun c107 => ?_)
            · rw [if_pos c107] at hf
              have hz := Option.some.inj hf
              subst hz
              exact R_vret (i := 201) rfl (kk hW106)
            · rw [if_neg c107] at hf
              refine R_aload_n (i := 121) rfl rfl ?_
              refine R_lconst (v := (0)) (i := 122) rfl (by decide) ?_
              refine R_putL hW106 (i := 123) rfl rfl (Nat.le_of_ble_eq_true rfl) (hg rfl hd) (fun h108 eh108 => ?_)
              replace hf := bnd_some eh108 hf
              have hW108 : WF 1 h108 := by rw [eh108]; exact hW106
              refine R_goto (i := 124) rfl ?_
              have hz := Option.some.inj hf
              subst hz
              exact R_vret (i := 201) rfl (kk hW108)
        · rw [if_neg c90] at hf
          refine R_aload_n (i := 37) rfl rfl ?_
          refine R_iconst (i := 38) rfl ?_
          refine R_putI hW87 (i := 39) rfl rfl (Nat.le_of_ble_eq_true rfl) (hg rfl hd) (fun h109 eh109 => ?_)
          replace hf := bnd_some eh109 hf
          have hW109 : WF 1 h109 := by rw [eh109]; exact hW87
          refine R_aload_n (i := 40) rfl rfl ?_
          refine R_iconst (i := 41) rfl ?_
          refine R_putI hW109 (i := 42) rfl rfl (Nat.le_of_ble_eq_true rfl) (hg rfl hd) (fun h110 eh110 => ?_)
          replace hf := bnd_some eh110 hf
          have hW110 : WF 1 h110 := by rw [eh110]; exact hW109
          refine R_weak [some (.ref 0), none, none] ⟨Or.inr rfl, Or.inl rfl, Or.inr rfl, trivial⟩ ?_
          have zq111 := bind_some hf
          clear hf
          obtain ⟨q111, eq111, hf⟩ := zq111
          refine lp_link (P := fun u43 => WF 1 u43 → R 1 (d + 1) 159 43 [some (.ref 0), none, none] [] u43 Q) (E := fun e u43 => WF 1 u43 → R 1 (d + 1) 159 201 [none, none, none] [] u43 Q) (fun s j s' hb k0 ke hWs => f159_l43_l hb hWs hd k0 (fun z y => ke 0 z y)) N h110 q111.1 q111.2 eq111 ?_ hW110
          intro hW111
          have hz := Option.some.inj hf
          subst hz
          exact R_vret (i := 201) rfl (kk hW111)
      · rw [if_neg c89] at hf
        refine R_aload_n (i := 30) rfl rfl ?_
        refine R_iconst (i := 31) rfl ?_
        refine R_putI hW87 (i := 32) rfl rfl (Nat.le_of_ble_eq_true rfl) (hg rfl hd) (fun h112 eh112 => ?_)
        replace hf := bnd_some eh112 hf
        have hW112 : WF 1 h112 := by rw [eh112]; exact hW87
        refine R_goto (i := 33) rfl ?_
        have hz := Option.some.inj hf
        subst hz
        exact R_vret (i := 201) rfl (kk hW112)
set_option maxRecDepth 100000 in
set_option maxHeartbeats 4000000 in
theorem f164_b11_l {d N : Nat} {h : Hp} {Q : Option Value → Hp → Prop} {q : Int32} (hf : f164_b11 N h = some q) (hW : WF 1 h) (hd : 0 ≤ d) (kk : Q (some (.int q)) h) : R 1 d 164 11 [none, none, none] [] h Q := by
  unfold f164_b11 at hf
  refine R_iconst (i := 11) rfl ?_
  have hz := Option.some.inj hf
  subst hz
  exact R_zret (r := 0) (i := 12) rfl (by decide) kk
set_option maxRecDepth 100000 in
set_option maxHeartbeats 4000000 in
theorem f164_l {d N : Nat} {p1 : Int64} {h : Hp} {Q : Option Value → Hp → Prop} {q : Int32} (hf : f164 N p1 h = some q) (hW : WF 1 h) (hd : 0 ≤ d) (kk : Q (some (.int q)) h) : R 1 d 164 0 [some (.ref 0), some (.long p1), none] [] h Q := by
  unfold f164 at hf
  refine R_aload_n (i := 0) rfl rfl ?_
  refine R_getI hW (i := 1) rfl rfl (Nat.le_of_ble_eq_true rfl) ?_
  refine R_iconst (i := 2) rfl ?_
  refine R_icmpne (i := 3) rfl (fun c1 => ?_) (fun c1 => ?_)
  · rw [if_neg c1] at hf
    refine R_weak [none, none, none] ⟨Or.inl rfl, Or.inl rfl, Or.inr rfl, trivial⟩ ?_
    exact f164_b11_l hf hW hd kk
  · rw [if_pos c1] at hf
    refine R_aload_n (i := 4) rfl rfl ?_
    refine R_getL hW (i := 5) rfl rfl (Nat.le_of_ble_eq_true rfl) ?_
    refine R_lload_n (i := 6) rfl rfl ?_
    refine R_lcmp (i := 7) rfl ?_
    refine R_ifne (i := 8) rfl (fun c2 => ?_) (fun c2 => ?_)
    · rw [if_neg c2] at hf
      refine R_weak [none, none, none] ⟨Or.inl rfl, Or.inl rfl, Or.inr rfl, trivial⟩ ?_
      exact f164_b11_l hf hW hd kk
    · rw [if_pos c2] at hf
      refine R_iconst (i := 9) rfl ?_
      refine R_goto (i := 10) rfl ?_
      have hz := Option.some.inj hf
      subst hz
      exact R_zret (r := 1) (i := 12) rfl (by decide) kk
set_option maxRecDepth 100000 in
set_option maxHeartbeats 4000000 in
theorem f165_l {d N : Nat} {p1 : Int32} {p2 : Int32} {h : Hp} {Q : Option Value → Hp → Prop} {q : Hp} (hf : f165 N p1 p2 h = some q) (hW : WF 1 h) (hd : 5 ≤ d) (kk : WF 1 q → Q (none) q) : R 1 d 165 0 [some (.ref 0), some (.int p1), some (.int p2)] [] h Q := by
  unfold f165 at hf
  refine R_aload_n (i := 0) rfl rfl ?_
  refine R_getF hW (i := 1) rfl rfl (Nat.le_of_ble_eq_true rfl) rfl ?_
  refine R_aload_n (i := 2) rfl rfl ?_
  refine R_getI hW (i := 3) rfl rfl (Nat.le_of_ble_eq_true rfl) ?_
  refine R_bipush (i := 4) rfl ?_
  refine R_iadd (i := 5) rfl ?_
  refine R_iconst (i := 6) rfl ?_
  refine R_aload_n (i := 7) rfl rfl ?_
  refine R_getI hW (i := 8) rfl rfl (Nat.le_of_ble_eq_true rfl) ?_
  refine R_imul (i := 9) rfl ?_
  refine R_iadd (i := 10) rfl ?_
  refine R_iload_n (i := 11) rfl rfl ?_
  have g1 := gd_some hf
  clear hf
  obtain ⟨g1, hf⟩ := g1
  refine R_iastore hW (i := 12) rfl rfl g1 (hg rfl hd) (fun h2 eh2 => ?_)
  replace hf := bnd_some eh2 hf
  have hW2 : WF 1 h2 := by rw [eh2]; exact hW
  refine R_aload_n (i := 13) rfl rfl ?_
  refine R_getF hW2 (i := 14) rfl rfl (Nat.le_of_ble_eq_true rfl) rfl ?_
  refine R_aload_n (i := 15) rfl rfl ?_
  refine R_getI hW2 (i := 16) rfl rfl (Nat.le_of_ble_eq_true rfl) ?_
  refine R_bipush (i := 17) rfl ?_
  refine R_iadd (i := 18) rfl ?_
  refine R_iconst (i := 19) rfl ?_
  refine R_aload_n (i := 20) rfl rfl ?_
  refine R_getI hW2 (i := 21) rfl rfl (Nat.le_of_ble_eq_true rfl) ?_
  refine R_imul (i := 22) rfl ?_
  refine R_iadd (i := 23) rfl ?_
  refine R_iconst (i := 24) rfl ?_
  refine R_iadd (i := 25) rfl ?_
  refine R_iload_n (i := 26) rfl rfl ?_
  have g3 := gd_some hf
  clear hf
  obtain ⟨g3, hf⟩ := g3
  refine R_iastore hW2 (i := 27) rfl rfl g3 (hg rfl hd) (fun h4 eh4 => ?_)
  replace hf := bnd_some eh4 hf
  have hW4 : WF 1 h4 := by rw [eh4]; exact hW2
  refine R_aload_n (i := 28) rfl rfl ?_
  refine R_dup (i := 29) rfl rfl ?_
  refine R_getI hW4 (i := 30) rfl rfl (Nat.le_of_ble_eq_true rfl) ?_
  refine R_iconst (i := 31) rfl ?_
  refine R_iadd (i := 32) rfl ?_
  refine R_putI hW4 (i := 33) rfl rfl (Nat.le_of_ble_eq_true rfl) (hg rfl hd) (fun h5 eh5 => ?_)
  replace hf := bnd_some eh5 hf
  have hW5 : WF 1 h5 := by rw [eh5]; exact hW4
  have hz := Option.some.inj hf
  subst hz
  exact R_vret (i := 34) rfl (kk hW5)
set_option maxRecDepth 100000 in
set_option maxHeartbeats 4000000 in
theorem f166_l {d N : Nat} {p1 : Int32} {h : Hp} {Q : Option Value → Hp → Prop} {q : Hp} (hf : f166 N p1 h = some q) (hW : WF 1 h) (hd : 5 ≤ d) (kk : WF 1 q → Q (none) q) : R 1 d 166 0 [some (.ref 0), some (.int p1)] [] h Q := by
  unfold f166 at hf
  refine R_aload_n (i := 0) rfl rfl ?_
  refine R_getF hW (i := 1) rfl rfl (Nat.le_of_ble_eq_true rfl) rfl ?_
  refine R_aload_n (i := 2) rfl rfl ?_
  refine R_getI hW (i := 3) rfl rfl (Nat.le_of_ble_eq_true rfl) ?_
  refine R_iload_n (i := 4) rfl rfl ?_
  have g1 := gd_some hf
  clear hf
  obtain ⟨g1, hf⟩ := g1
  refine R_iastore hW (i := 5) rfl rfl g1 (hg rfl hd) (fun h2 eh2 => ?_)
  replace hf := bnd_some eh2 hf
  have hW2 : WF 1 h2 := by rw [eh2]; exact hW
  refine R_aload_n (i := 6) rfl rfl ?_
  refine R_dup (i := 7) rfl rfl ?_
  refine R_getI hW2 (i := 8) rfl rfl (Nat.le_of_ble_eq_true rfl) ?_
  refine R_iconst (i := 9) rfl ?_
  refine R_iadd (i := 10) rfl ?_
  refine R_putI hW2 (i := 11) rfl rfl (Nat.le_of_ble_eq_true rfl) (hg rfl hd) (fun h3 eh3 => ?_)
  replace hf := bnd_some eh3 hf
  have hW3 : WF 1 h3 := by rw [eh3]; exact hW2
  have hz := Option.some.inj hf
  subst hz
  exact R_vret (i := 12) rfl (kk hW3)
set_option maxRecDepth 100000 in
set_option maxHeartbeats 4000000 in
theorem f167_l3_l {d N : Nat} {s : Hp} {Q : Option Value → Hp → Prop} {j : Nat} {s' : Hp} (hf : f167_l3 N s = some (j, s')) (hW : WF 1 s) (hd : 6 ≤ d) (k0 : j = 0 → WF 1 s' → R 1 d 167 3 [some (.ref 0)] [] s' Q) (k1 : j = 1 → WF 1 s' → R 1 d 167 32 [none] [] s' Q) : R 1 d 167 3 [some (.ref 0)] [] s Q := by
  obtain ⟨d, rfl⟩ : ∃ z, d = z + 1 := ⟨d - 1, by omega⟩
  unfold f167_l3 at hf
  refine R_aload_n (i := 3) rfl rfl ?_
  refine R_getI hW (i := 4) rfl rfl (Nat.le_of_ble_eq_true rfl) ?_
  refine R_ifle (i := 5) rfl (fun c2 => ?_) (fun c2 => ?_)
  · rw [if_pos c2] at hf
    obtain ⟨hj, hs⟩ := Prod.mk.inj (Option.some.inj hf)
    subst hj
    subst hs
    refine R_weak [none] ⟨Or.inl rfl, trivial⟩ ?_
    exact k1 rfl hW
  · rw [if_neg c2] at hf
    refine R_aload_n (i := 6) rfl rfl ?_
    refine R_getF hW (i := 7) rfl rfl (Nat.le_of_ble_eq_true rfl) rfl ?_
    refine R_aload_n (i := 8) rfl rfl ?_
    refine R_getI hW (i := 9) rfl rfl (Nat.le_of_ble_eq_true rfl) ?_
    refine R_iconst (i := 10) rfl ?_
    refine R_isub (i := 11) rfl ?_
    have g3 := gd_some hf
    clear hf
    obtain ⟨g3, hf⟩ := g3
    refine R_iaload hW (i := 12) rfl rfl g3 ?_
    refine R_iconst (i := 13) rfl ?_
    refine R_icmpne (i := 14) rfl (fun c4 => ?_) (fun c4 => ?_)
    · rw [if_neg c4] at hf
      obtain ⟨hj, hs⟩ := Prod.mk.inj (Option.some.inj hf)
      subst hj
      subst hs
      refine R_weak [none] ⟨Or.inl rfl, trivial⟩ ?_
      exact k1 rfl hW
    · rw [if_pos c4] at hf
      refine R_aload_n (i := 15) rfl rfl ?_
      refine R_dup (i := 16) rfl rfl ?_
      refine R_getI hW (i := 17) rfl rfl (Nat.le_of_ble_eq_true rfl) ?_
      refine R_iconst (i := 18) rfl ?_
      refine R_isub (i := 19) rfl ?_
      refine R_putI hW (i := 20) rfl rfl (Nat.le_of_ble_eq_true rfl) (hg rfl hd) (fun h5 eh5 => ?_)
      replace hf := bnd_some eh5 hf
      have hW5 : WF 1 h5 := by rw [eh5]; exact hW
      refine R_aload_n (i := 21) rfl rfl ?_
      refine R_dup (i := 22) rfl rfl ?_
      refine R_getI hW5 (i := 23) rfl rfl (Nat.le_of_ble_eq_true rfl) ?_
      refine R_iconst (i := 24) rfl ?_
      refine R_isub (i := 25) rfl ?_
      refine R_putI hW5 (i := 26) rfl rfl (Nat.le_of_ble_eq_true rfl) (hg rfl hd) (fun h6 eh6 => ?_)
      replace hf := bnd_some eh6 hf
      have hW6 : WF 1 h6 := by rw [eh6]; exact hW5
      refine R_aload_n (i := 27) rfl rfl ?_
      refine R_iconst (i := 28) rfl ?_
      refine R_iconst (i := 29) rfl ?_
      have zq7 := bind_some hf
      clear hf
      obtain ⟨q7, eq7, hf⟩ := zq7
      refine R_callV (vs := [.int (2 : Int32), .int (0 : Int32)]) (st' := []) hW6 (i := 30) rfl rfl rfl (Nat.le_of_ble_eq_true rfl) rfl (Nat.le_of_ble_eq_true rfl) rfl (f165_l eq7 hW6 (hh rfl hd) (fun hW7 => ?_))
      refine R_goto (i := 31) rfl ?_
      obtain ⟨hj, hs⟩ := Prod.mk.inj (Option.some.inj hf)
      subst hj
      subst hs
      exact k0 rfl hW7
set_option maxRecDepth 100000 in
set_option maxHeartbeats 4000000 in
theorem f167_l {d N : Nat} {h : Hp} {Q : Option Value → Hp → Prop} {q : Hp} (hf : f167 N h = some q) (hW : WF 1 h) (hd : 6 ≤ d) (kk : WF 1 q → Q (none) q) : R 1 d 167 0 [some (.ref 0)] [] h Q := by
  unfold f167 at hf
  refine R_aload_n (i := 0) rfl rfl ?_
  refine R_iconst (i := 1) rfl ?_
  refine R_putZ hW (i := 2) rfl rfl (Nat.le_of_ble_eq_true rfl) (by decide) (hg rfl hd) (fun h1 eh1 => ?_)
  replace hf := bnd_some eh1 hf
  have hW1 : WF 1 h1 := by rw [eh1]; exact hW
  have zq8 := bind_some hf
  clear hf
  obtain ⟨q8, eq8, hf⟩ := zq8
  refine lp_link (P := fun u3 => WF 1 u3 → R 1 d 167 3 [some (.ref 0)] [] u3 Q) (E := fun e u3 => WF 1 u3 → R 1 d 167 32 [none] [] u3 Q) (fun s j s' hb k0 ke hWs => f167_l3_l hb hWs hd k0 (fun z y => ke 0 z y)) N h1 q8.1 q8.2 eq8 ?_ hW1
  intro hW8
  have hz := Option.some.inj hf
  subst hz
  exact R_vret (i := 32) rfl (kk hW8)
set_option maxRecDepth 100000 in
set_option maxHeartbeats 4000000 in
theorem f168_l0_l {d N : Nat} {x1 : Int32} {s : Hp} {Q : Option Value → Hp → Prop} {j : Nat} {s' : Hp} (hf : f168_l0 N x1 s = some (j, s')) (hW : WF 1 s) (hd : 6 ≤ d) (k0 : j = 0 → WF 1 s' → R 1 d 168 0 [some (.ref 0), some (.int x1)] [] s' Q) (k1 : j = 1 → WF 1 s' → R 1 d 168 36 [none, none] [] s' Q) : R 1 d 168 0 [some (.ref 0), some (.int x1)] [] s Q := by
  obtain ⟨d, rfl⟩ : ∃ z, d = z + 1 := ⟨d - 1, by omega⟩
  unfold f168_l0 at hf
  refine R_aload_n (i := 0) rfl rfl ?_
  refine R_getI hW (i := 1) rfl rfl (Nat.le_of_ble_eq_true rfl) ?_
  refine R_ifle (i := 2) rfl (fun c9 => ?_) (fun c9 => ?_)
  · rw [if_pos c9] at hf
    obtain ⟨hj, hs⟩ := Prod.mk.inj (Option.some.inj hf)
    subst hj
    subst hs
    refine R_weak [none, none] ⟨Or.inl rfl, Or.inl rfl, trivial⟩ ?_
    exact k1 rfl hW
  · rw [if_neg c9] at hf
    refine R_aload_n (i := 3) rfl rfl ?_
    refine R_getF hW (i := 4) rfl rfl (Nat.le_of_ble_eq_true rfl) rfl ?_
    refine R_aload_n (i := 5) rfl rfl ?_
    refine R_getI hW (i := 6) rfl rfl (Nat.le_of_ble_eq_true rfl) ?_
    refine R_iconst (i := 7) rfl ?_
    refine R_isub (i := 8) rfl ?_
    have g10 := gd_some hf
    clear hf
    obtain ⟨g10, hf⟩ := g10
    refine R_iaload hW (i := 9) rfl rfl g10 ?_
    refine R_bipush (i := 10) rfl ?_
    refine R_icmpge (i := 11) rfl (fun c11 => ?_) (fun c11 => ?_)
    · rw [if_pos c11] at hf
      obtain ⟨hj, hs⟩ := Prod.mk.inj (Option.some.inj hf)
      subst hj
      subst hs
      refine R_weak [none, none] ⟨Or.inl rfl, Or.inl rfl, trivial⟩ ?_
      exact k1 rfl hW
    · rw [if_neg c11] at hf
      refine R_aload_n (i := 12) rfl rfl ?_
      refine R_getF hW (i := 13) rfl rfl (Nat.le_of_ble_eq_true rfl) rfl ?_
      refine R_aload_n (i := 14) rfl rfl ?_
      refine R_getI hW (i := 15) rfl rfl (Nat.le_of_ble_eq_true rfl) ?_
      refine R_iconst (i := 16) rfl ?_
      refine R_isub (i := 17) rfl ?_
      have g12 := gd_some hf
      clear hf
      obtain ⟨g12, hf⟩ := g12
      refine R_iaload hW (i := 18) rfl rfl g12 ?_
      refine R_iload_n (i := 19) rfl rfl ?_
      refine R_icmplt (i := 20) rfl (fun c13 => ?_) (fun c13 => ?_)
      · rw [if_pos c13] at hf
        obtain ⟨hj, hs⟩ := Prod.mk.inj (Option.some.inj hf)
        subst hj
        subst hs
        refine R_weak [none, none] ⟨Or.inl rfl, Or.inl rfl, trivial⟩ ?_
        exact k1 rfl hW
      · rw [if_neg c13] at hf
        refine R_aload_n (i := 21) rfl rfl ?_
        refine R_dup (i := 22) rfl rfl ?_
        refine R_getI hW (i := 23) rfl rfl (Nat.le_of_ble_eq_true rfl) ?_
        refine R_iconst (i := 24) rfl ?_
        refine R_isub (i := 25) rfl ?_
        refine R_putI hW (i := 26) rfl rfl (Nat.le_of_ble_eq_true rfl) (hg rfl hd) (fun h14 eh14 => ?_)
        replace hf := bnd_some eh14 hf
        have hW14 : WF 1 h14 := by rw [eh14]; exact hW
        refine R_aload_n (i := 27) rfl rfl ?_
        refine R_aload_n (i := 28) rfl rfl ?_
        refine R_getF hW14 (i := 29) rfl rfl (Nat.le_of_ble_eq_true rfl) rfl ?_
        refine R_aload_n (i := 30) rfl rfl ?_
        refine R_getI hW14 (i := 31) rfl rfl (Nat.le_of_ble_eq_true rfl) ?_
        have g15 := gd_some hf
        clear hf
        obtain ⟨g15, hf⟩ := g15
        refine R_iaload hW14 (i := 32) rfl rfl g15 ?_
        refine R_iconst (i := 33) rfl ?_
        have zq16 := bind_some hf
        clear hf
        obtain ⟨q16, eq16, hf⟩ := zq16
        refine R_callV (vs := [.int (hI h14 5 (ix (hI h14 0 18))), .int (0 : Int32)]) (st' := []) hW14 (i := 34) rfl rfl rfl (Nat.le_of_ble_eq_true rfl) rfl (Nat.le_of_ble_eq_true rfl) rfl (f165_l eq16 hW14 (hh rfl hd) (fun hW16 => ?_))
        refine R_goto (i := 35) rfl ?_
        obtain ⟨hj, hs⟩ := Prod.mk.inj (Option.some.inj hf)
        subst hj
        subst hs
        exact k0 rfl hW16
set_option maxRecDepth 100000 in
set_option maxHeartbeats 4000000 in
theorem f168_l {d N : Nat} {p1 : Int32} {h : Hp} {Q : Option Value → Hp → Prop} {q : Hp} (hf : f168 N p1 h = some q) (hW : WF 1 h) (hd : 6 ≤ d) (kk : WF 1 q → Q (none) q) : R 1 d 168 0 [some (.ref 0), some (.int p1)] [] h Q := by
  obtain ⟨d, rfl⟩ : ∃ z, d = z + 1 := ⟨d - 1, by omega⟩
  unfold f168 at hf
  refine R_aload_n (i := 0) rfl rfl ?_
  refine R_getI hW (i := 1) rfl rfl (Nat.le_of_ble_eq_true rfl) ?_
  refine R_ifle (i := 2) rfl (fun c1 => ?_) (fun c1 => ?_)
  · rw [if_pos c1] at hf
    have hz := Option.some.inj hf
    subst hz
    exact R_vret (i := 36) rfl (kk hW)
  · rw [if_neg c1] at hf
    refine R_aload_n (i := 3) rfl rfl ?_
    refine R_getF hW (i := 4) rfl rfl (Nat.le_of_ble_eq_true rfl) rfl ?_
    refine R_aload_n (i := 5) rfl rfl ?_
    refine R_getI hW (i := 6) rfl rfl (Nat.le_of_ble_eq_true rfl) ?_
    refine R_iconst (i := 7) rfl ?_
    refine R_isub (i := 8) rfl ?_
    have g2 := gd_some hf
    clear hf
    obtain ⟨g2, hf⟩ := g2
    refine R_iaload hW (i := 9) rfl rfl g2 ?_
    refine R_bipush (i := 10) rfl ?_
    refine R_icmpge (i := 11) rfl (fun c3 => ?_) (fun c3 => ?_)
    · rw [if_pos c3] at hf
      have hz := Option.some.inj hf
      subst hz
      exact R_vret (i := 36) rfl (kk hW)
    · rw [if_neg c3] at hf
      refine R_aload_n (i := 12) rfl rfl ?_
      refine R_getF hW (i := 13) rfl rfl (Nat.le_of_ble_eq_true rfl) rfl ?_
      refine R_aload_n (i := 14) rfl rfl ?_
      refine R_getI hW (i := 15) rfl rfl (Nat.le_of_ble_eq_true rfl) ?_
      refine R_iconst (i := 16) rfl ?_
      refine R_isub (i := 17) rfl ?_
      have g4 := gd_some hf
      clear hf
      obtain ⟨g4, hf⟩ := g4
      refine R_iaload hW (i := 18) rfl rfl g4 ?_
      refine R_iload_n (i := 19) rfl rfl ?_
      refine R_icmplt (i := 20) rfl (fun c5 => ?_) (fun c5 => ?_)
      · rw [if_pos c5] at hf
        have hz := Option.some.inj hf
        subst hz
        exact R_vret (i := 36) rfl (kk hW)
      · rw [if_neg c5] at hf
        refine R_aload_n (i := 21) rfl rfl ?_
        refine R_dup (i := 22) rfl rfl ?_
        refine R_getI hW (i := 23) rfl rfl (Nat.le_of_ble_eq_true rfl) ?_
        refine R_iconst (i := 24) rfl ?_
        refine R_isub (i := 25) rfl ?_
        refine R_putI hW (i := 26) rfl rfl (Nat.le_of_ble_eq_true rfl) (hg rfl hd) (fun h6 eh6 => ?_)
        replace hf := bnd_some eh6 hf
        have hW6 : WF 1 h6 := by rw [eh6]; exact hW
        refine R_aload_n (i := 27) rfl rfl ?_
        refine R_aload_n (i := 28) rfl rfl ?_
        refine R_getF hW6 (i := 29) rfl rfl (Nat.le_of_ble_eq_true rfl) rfl ?_
        refine R_aload_n (i := 30) rfl rfl ?_
        refine R_getI hW6 (i := 31) rfl rfl (Nat.le_of_ble_eq_true rfl) ?_
        have g7 := gd_some hf
        clear hf
        obtain ⟨g7, hf⟩ := g7
        refine R_iaload hW6 (i := 32) rfl rfl g7 ?_
        refine R_iconst (i := 33) rfl ?_
        have zq8 := bind_some hf
        clear hf
        obtain ⟨q8, eq8, hf⟩ := zq8
        refine R_callV (vs := [.int (hI h6 5 (ix (hI h6 0 18))), .int (0 : Int32)]) (st' := []) hW6 (i := 34) rfl rfl rfl (Nat.le_of_ble_eq_true rfl) rfl (Nat.le_of_ble_eq_true rfl) rfl (f165_l eq8 hW6 (hh rfl hd) (fun hW8 => ?_))
        refine R_goto (i := 35) rfl ?_
        have zq17 := bind_some hf
        clear hf
        obtain ⟨q17, eq17, hf⟩ := zq17
        refine lp_link (P := fun u0 => WF 1 u0 → R 1 (d + 1) 168 0 [some (.ref 0), some (.int p1)] [] u0 Q) (E := fun e u0 => WF 1 u0 → R 1 (d + 1) 168 36 [none, none] [] u0 Q) (fun s j s' hb k0 ke hWs => f168_l0_l hb hWs hd k0 (fun z y => ke 0 z y)) N q8 q17.1 q17.2 eq17 ?_ hW8
        intro hW17
        have hz := Option.some.inj hf
        subst hz
        exact R_vret (i := 36) rfl (kk hW17)
set_option maxRecDepth 100000 in
set_option maxHeartbeats 4000000 in
theorem f160_l {d : Nat} {p0 : Int32} {p1 : Int32} {p2 : Int32} {h : Hp} {Q : Option Value → Hp → Prop} (hd : 0 ≤ d) (kk : Q (some (.long (f160 p0 p1 p2))) h) : R 1 d 160 0 [some (.int p0), some (.int p1), some (.int p2)] [] h Q := by
  unfold f160 at kk
  refine R_iload_n (i := 0) rfl rfl ?_
  refine R_i2l (i := 1) rfl ?_
  refine R_bipush (i := 2) rfl ?_
  refine R_lshl (i := 3) rfl ?_
  refine R_iload_n (i := 4) rfl rfl ?_
  refine R_i2l (i := 5) rfl ?_
  refine R_lor (i := 6) rfl ?_
  refine R_bipush (i := 7) rfl ?_
  refine R_lshl (i := 8) rfl ?_
  refine R_iload_n (i := 9) rfl rfl ?_
  refine R_i2l (i := 10) rfl ?_
  refine R_lor (i := 11) rfl ?_
  exact R_lret (i := 12) rfl kk
set_option maxRecDepth 100000 in
set_option maxHeartbeats 4000000 in
theorem f162_l {d : Nat} {p0 : Int32} {p1 : Int32} {p2 : Int32} {p3 : Int32} {h : Hp} {Q : Option Value → Hp → Prop} (hd : 1 ≤ d) (kk : Q (some (.long (f162 p0 p1 p2 p3))) h) : R 1 d 162 0 [some (.int p0), some (.int p1), some (.int p2), some (.int p3)] [] h Q := by
  obtain ⟨d, rfl⟩ : ∃ z, d = z + 1 := ⟨d - 1, by omega⟩
  unfold f162 at kk
  refine R_iload_n (i := 0) rfl rfl ?_
  refine R_iload_n (i := 1) rfl rfl ?_
  refine R_iload_n (i := 2) rfl rfl ?_
  refine R_call (vs := [.int p0, .int p1, .int p2]) (st' := []) (i := 3) rfl (by decide) (by decide) rfl rfl (Nat.le_of_ble_eq_true rfl) rfl (f160_l (hh rfl hd) ?_)
  refine R_bipush (i := 4) rfl ?_
  refine R_lshl (i := 5) rfl ?_
  refine R_iload_n (i := 6) rfl rfl ?_
  refine R_i2l (i := 7) rfl ?_
  refine R_lor (i := 8) rfl ?_
  exact R_lret (i := 9) rfl kk
set_option maxRecDepth 100000 in
set_option maxHeartbeats 4000000 in
theorem f161_l {d : Nat} {p0 : Int32} {p1 : Int32} {p2 : Int32} {p3 : Int32} {p4 : Int32} {h : Hp} {Q : Option Value → Hp → Prop} (hd : 1 ≤ d) (kk : Q (some (.long (f161 p0 p1 p2 p3 p4))) h) : R 1 d 161 0 [some (.int p0), some (.int p1), some (.int p2), some (.int p3), some (.int p4)] [] h Q := by
  obtain ⟨d, rfl⟩ : ∃ z, d = z + 1 := ⟨d - 1, by omega⟩
  unfold f161 at kk
  refine R_iload_n (i := 0) rfl rfl ?_
  refine R_iload_n (i := 1) rfl rfl ?_
  refine R_iload_n (i := 2) rfl rfl ?_
  refine R_call (vs := [.int p0, .int p1, .int p2]) (st' := []) (i := 3) rfl (by decide) (by decide) rfl rfl (Nat.le_of_ble_eq_true rfl) rfl (f160_l (hh rfl hd) ?_)
  refine R_bipush (i := 4) rfl ?_
  refine R_lshl (i := 5) rfl ?_
  refine R_iload_n (i := 6) rfl rfl ?_
  refine R_i2l (i := 7) rfl ?_
  refine R_lor (i := 8) rfl ?_
  refine R_bipush (i := 9) rfl ?_
  refine R_lshl (i := 10) rfl ?_
  refine R_iload (i := 11) rfl rfl ?_
  refine R_i2l (i := 12) rfl ?_
  refine R_lor (i := 13) rfl ?_
  exact R_lret (i := 14) rfl kk
set_option maxRecDepth 100000 in
set_option maxHeartbeats 4000000 in
theorem f163_l {d : Nat} {p0 : Int32} {p1 : Int32} {p2 : Int32} {p3 : Int32} {p4 : Int32} {p5 : Int32} {h : Hp} {Q : Option Value → Hp → Prop} (hd : 2 ≤ d) (kk : Q (some (.long (f163 p0 p1 p2 p3 p4 p5))) h) : R 1 d 163 0 [some (.int p0), some (.int p1), some (.int p2), some (.int p3), some (.int p4), some (.int p5)] [] h Q := by
  obtain ⟨d, rfl⟩ : ∃ z, d = z + 1 := ⟨d - 1, by omega⟩
  unfold f163 at kk
  refine R_iload_n (i := 0) rfl rfl ?_
  refine R_iload_n (i := 1) rfl rfl ?_
  refine R_iload_n (i := 2) rfl rfl ?_
  refine R_iload_n (i := 3) rfl rfl ?_
  refine R_iload (i := 4) rfl rfl ?_
  refine R_call (vs := [.int p0, .int p1, .int p2, .int p3, .int p4]) (st' := []) (i := 5) rfl (by decide) (by decide) rfl rfl (Nat.le_of_ble_eq_true rfl) rfl (f161_l (hh rfl hd) ?_)
  refine R_bipush (i := 6) rfl ?_
  refine R_lshl (i := 7) rfl ?_
  refine R_iload (i := 8) rfl rfl ?_
  refine R_i2l (i := 9) rfl ?_
  refine R_lor (i := 10) rfl ?_
  exact R_lret (i := 11) rfl kk
set_option maxRecDepth 100000 in
set_option maxHeartbeats 4000000 in
theorem f169_l {d N : Nat} {h : Hp} {Q : Option Value → Hp → Prop} {q : Int32} (hf : f169 N h = some q) (hW : WF 1 h) (hd : 3 ≤ d) (kk : Q (some (.int q)) h) : R 1 d 169 0 [some (.ref 0)] [] h Q := by
  obtain ⟨d, rfl⟩ : ∃ z, d = z + 1 := ⟨d - 1, by omega⟩
  unfold f169 at hf
  refine R_aload_n (i := 0) rfl rfl ?_
  refine R_getI hW (i := 1) rfl rfl (Nat.le_of_ble_eq_true rfl) ?_
  refine R_iconst (i := 2) rfl ?_
  refine R_icmpeq (i := 3) rfl (fun c1 => ?_) (fun c1 => ?_)
  · rw [if_pos c1] at hf
    refine R_aload_n (i := 6) rfl rfl ?_
    refine R_getL hW (i := 7) rfl rfl (Nat.le_of_ble_eq_true rfl) ?_
    refine R_bipush (i := 8) rfl ?_
    refine R_bipush (i := 9) rfl ?_
    refine R_bipush (i := 10) rfl ?_
    refine R_bipush (i := 11) rfl ?_
    refine R_call (vs := [.int (104 : Int32), .int (111 : Int32), .int (117 : Int32), .int (114 : Int32)]) (st' := [.long (hL h 0 12)]) (i := 12) rfl (by decide) (by decide) rfl rfl (Nat.le_of_ble_eq_true rfl) rfl (f162_l (hh rfl hd) ?_)
    refine R_lcmp (i := 13) rfl ?_
    refine R_ifne (i := 14) rfl (fun c2 => ?_) (fun c2 => ?_)
    · rw [if_neg c2] at hf
      refine R_aload_n (i := 17) rfl rfl ?_
      refine R_getL hW (i := 18) rfl rfl (Nat.le_of_ble_eq_true rfl) ?_
      refine R_bipush (i := 19) rfl ?_
      refine R_bipush (i := 20) rfl ?_
      refine R_bipush (i := 21) rfl ?_
      refine R_bipush (i := 22) rfl ?_
      refine R_bipush (i := 23) rfl ?_
      refine R_bipush (i := 24) rfl ?_
      refine R_call (vs := [.int (119 : Int32), .int (101 : Int32), .int (105 : Int32), .int (103 : Int32), .int (104 : Int32), .int (116 : Int32)]) (st' := [.long (hL h 0 12)]) (i := 25) rfl (by decide) (by decide) rfl rfl (Nat.le_of_ble_eq_true rfl) rfl (f163_l (hh rfl hd) ?_)
      refine R_lcmp (i := 26) rfl ?_
      refine R_ifne (i := 27) rfl (fun c3 => ?_) (fun c3 => ?_)
      · rw [if_neg c3] at hf
        refine R_aload_n (i := 30) rfl rfl ?_
        refine R_getL hW (i := 31) rfl rfl (Nat.le_of_ble_eq_true rfl) ?_
        refine R_bipush (i := 32) rfl ?_
        refine R_bipush (i := 33) rfl ?_
        refine R_bipush (i := 34) rfl ?_
        refine R_bipush (i := 35) rfl ?_
        refine R_call (vs := [.int (115 : Int32), .int (97 : Int32), .int (105 : Int32), .int (108 : Int32)]) (st' := [.long (hL h 0 12)]) (i := 36) rfl (by decide) (by decide) rfl rfl (Nat.le_of_ble_eq_true rfl) rfl (f162_l (hh rfl hd) ?_)
        refine R_lcmp (i := 37) rfl ?_
        refine R_ifne (i := 38) rfl (fun c4 => ?_) (fun c4 => ?_)
        · rw [if_neg c4] at hf
          refine R_aload_n (i := 41) rfl rfl ?_
          refine R_getL hW (i := 42) rfl rfl (Nat.le_of_ble_eq_true rfl) ?_
          refine R_bipush (i := 43) rfl ?_
          refine R_bipush (i := 44) rfl ?_
          refine R_bipush (i := 45) rfl ?_
          refine R_bipush (i := 46) rfl ?_
          refine R_call (vs := [.int (119 : Int32), .int (105 : Int32), .int (110 : Int32), .int (100 : Int32)]) (st' := [.long (hL h 0 12)]) (i := 47) rfl (by decide) (by decide) rfl rfl (Nat.le_of_ble_eq_true rfl) rfl (f162_l (hh rfl hd) ?_)
          refine R_lcmp (i := 48) rfl ?_
          refine R_ifne (i := 49) rfl (fun c5 => ?_) (fun c5 => ?_)
          · rw [if_neg c5] at hf
            refine R_aload_n (i := 52) rfl rfl ?_
            refine R_getL hW (i := 53) rfl rfl (Nat.le_of_ble_eq_true rfl) ?_
            refine R_bipush (i := 54) rfl ?_
            refine R_bipush (i := 55) rfl ?_
            refine R_bipush (i := 56) rfl ?_
            refine R_bipush (i := 57) rfl ?_
            refine R_call (vs := [.int (108 : Int32), .int (97 : Int32), .int (115 : Int32), .int (116 : Int32)]) (st' := [.long (hL h 0 12)]) (i := 58) rfl (by decide) (by decide) rfl rfl (Nat.le_of_ble_eq_true rfl) rfl (f162_l (hh rfl hd) ?_)
            refine R_lcmp (i := 59) rfl ?_
            refine R_ifne (i := 60) rfl (fun c6 => ?_) (fun c6 => ?_)
            · rw [if_neg c6] at hf
              refine R_aload_n (i := 63) rfl rfl ?_
              refine R_getL hW (i := 64) rfl rfl (Nat.le_of_ble_eq_true rfl) ?_
              refine R_bipush (i := 65) rfl ?_
              refine R_bipush (i := 66) rfl ?_
              refine R_bipush (i := 67) rfl ?_
              refine R_bipush (i := 68) rfl ?_
              refine R_bipush (i := 69) rfl ?_
              refine R_call (vs := [.int (112 : Int32), .int (108 : Int32), .int (97 : Int32), .int (99 : Int32), .int (101 : Int32)]) (st' := [.long (hL h 0 12)]) (i := 70) rfl (by decide) (by decide) rfl rfl (Nat.le_of_ble_eq_true rfl) rfl (f161_l (hh rfl hd) ?_)
              refine R_lcmp (i := 71) rfl ?_
              refine R_ifne (i := 72) rfl (fun c7 => ?_) (fun c7 => ?_)
              · rw [if_neg c7] at hf
                refine R_aload_n (i := 75) rfl rfl ?_
                refine R_getL hW (i := 76) rfl rfl (Nat.le_of_ble_eq_true rfl) ?_
                refine R_bipush (i := 77) rfl ?_
                refine R_bipush (i := 78) rfl ?_
                refine R_bipush (i := 79) rfl ?_
                refine R_bipush (i := 80) rfl ?_
                refine R_call (vs := [.int (108 : Int32), .int (97 : Int32), .int (110 : Int32), .int (101 : Int32)]) (st' := [.long (hL h 0 12)]) (i := 81) rfl (by decide) (by decide) rfl rfl (Nat.le_of_ble_eq_true rfl) rfl (f162_l (hh rfl hd) ?_)
                refine R_lcmp (i := 82) rfl ?_
                refine R_ifne (i := 83) rfl (fun c8 => ?_) (fun c8 => ?_)
                · rw [if_neg c8] at hf
                  refine R_aload_n (i := 86) rfl rfl ?_
                  refine R_getL hW (i := 87) rfl rfl (Nat.le_of_ble_eq_true rfl) ?_
                  refine R_bipush (i := 88) rfl ?_
                  refine R_bipush (i := 89) rfl ?_
                  refine R_bipush (i := 90) rfl ?_
                  refine R_bipush (i := 91) rfl ?_
                  refine R_call (vs := [.int (102 : Int32), .int (97 : Int32), .int (115 : Int32), .int (116 : Int32)]) (st' := [.long (hL h 0 12)]) (i := 92) rfl (by decide) (by decide) rfl rfl (Nat.le_of_ble_eq_true rfl) rfl (f162_l (hh rfl hd) ?_)
                  refine R_lcmp (i := 93) rfl ?_
                  refine R_ifne (i := 94) rfl (fun c9 => ?_) (fun c9 => ?_)
                  · rw [if_neg c9] at hf
                    refine R_iconst (i := 97) rfl ?_
                    have hz := Option.some.inj hf
                    subst hz
                    exact R_iret (i := 98) rfl kk
                  · rw [if_pos c9] at hf
                    refine R_bipush (i := 95) rfl ?_
                    refine R_goto (i := 96) rfl ?_
                    have hz := Option.some.inj hf
                    subst hz
                    exact R_iret (i := 98) rfl kk
                · rw [if_pos c8] at hf
                  refine R_bipush (i := 84) rfl ?_
                  refine R_goto (i := 85) rfl ?_
                  have hz := Option.some.inj hf
                  subst hz
                  exact R_iret (i := 98) rfl kk
              · rw [if_pos c7] at hf
                refine R_iconst (i := 73) rfl ?_
                have hz := Option.some.inj hf
                subst hz
                exact R_iret (i := 74) rfl kk
            · rw [if_pos c6] at hf
              refine R_iconst (i := 61) rfl ?_
              have hz := Option.some.inj hf
              subst hz
              exact R_iret (i := 62) rfl kk
          · rw [if_pos c5] at hf
            refine R_iconst (i := 50) rfl ?_
            have hz := Option.some.inj hf
            subst hz
            exact R_iret (i := 51) rfl kk
        · rw [if_pos c4] at hf
          refine R_iconst (i := 39) rfl ?_
          have hz := Option.some.inj hf
          subst hz
          exact R_iret (i := 40) rfl kk
      · rw [if_pos c3] at hf
        refine R_iconst (i := 28) rfl ?_
        have hz := Option.some.inj hf
        subst hz
        exact R_iret (i := 29) rfl kk
    · rw [if_pos c2] at hf
      refine R_iconst (i := 15) rfl ?_
      have hz := Option.some.inj hf
      subst hz
      exact R_iret (i := 16) rfl kk
  · rw [if_neg c1] at hf
    refine R_iconst (i := 4) rfl ?_
    have hz := Option.some.inj hf
    subst hz
    exact R_iret (i := 5) rfl kk
set_option maxRecDepth 100000 in
set_option maxHeartbeats 4000000 in
theorem f170_b23_l {d N : Nat} {h : Hp} {Q : Option Value → Hp → Prop} {q : Int32} (hf : f170_b23 N h = some q) (hW : WF 1 h) (hd : 0 ≤ d) (kk : Q (some (.int q)) h) : R 1 d 170 23 [none, none] [] h Q := by
  unfold f170_b23 at hf
  refine R_iconst (i := 23) rfl ?_
  have hz := Option.some.inj hf
  subst hz
  exact R_zret (r := 0) (i := 24) rfl (by decide) kk
set_option maxRecDepth 100000 in
set_option maxHeartbeats 4000000 in
theorem f170_b21_l {d N : Nat} {h : Hp} {Q : Option Value → Hp → Prop} {q : Int32} (hf : f170_b21 N h = some q) (hW : WF 1 h) (hd : 0 ≤ d) (kk : Q (some (.int q)) h) : R 1 d 170 21 [none, none] [] h Q := by
  unfold f170_b21 at hf
  refine R_iconst (i := 21) rfl ?_
  refine R_goto (i := 22) rfl ?_
  have hz := Option.some.inj hf
  subst hz
  exact R_zret (r := 1) (i := 24) rfl (by decide) kk
set_option maxRecDepth 100000 in
set_option maxHeartbeats 4000000 in
theorem f170_l {d N : Nat} {p1 : Int32} {h : Hp} {Q : Option Value → Hp → Prop} {q : Int32} (hf : f170 N p1 h = some q) (hW : WF 1 h) (hd : 0 ≤ d) (kk : Q (some (.int q)) h) : R 1 d 170 0 [some (.ref 0), some (.int p1)] [] h Q := by
  unfold f170 at hf
  refine R_iload_n (i := 0) rfl rfl ?_
  refine R_iconst (i := 1) rfl ?_
  refine R_icmple (i := 2) rfl (fun c1 => ?_) (fun c1 => ?_)
  · rw [if_pos c1] at hf
    refine R_weak [none, none] ⟨Or.inl rfl, Or.inl rfl, trivial⟩ ?_
    exact f170_b23_l hf hW hd kk
  · rw [if_neg c1] at hf
    refine R_aload_n (i := 3) rfl rfl ?_
    refine R_getI hW (i := 4) rfl rfl (Nat.le_of_ble_eq_true rfl) ?_
    refine R_ifne (i := 5) rfl (fun c2 => ?_) (fun c2 => ?_)
    · rw [if_neg c2] at hf
      refine R_aload_n (i := 10) rfl rfl ?_
      refine R_getI hW (i := 11) rfl rfl (Nat.le_of_ble_eq_true rfl) ?_
      refine R_iconst (i := 12) rfl ?_
      refine R_icmpne (i := 13) rfl (fun c3 => ?_) (fun c3 => ?_)
      · rw [if_neg c3] at hf
        refine R_iload_n (i := 18) rfl rfl ?_
        refine R_iconst (i := 19) rfl ?_
        refine R_icmpeq (i := 20) rfl (fun c4 => ?_) (fun c4 => ?_)
        · rw [if_pos c4] at hf
          refine R_weak [none, none] ⟨Or.inl rfl, Or.inl rfl, trivial⟩ ?_
          exact f170_b23_l hf hW hd kk
        · rw [if_neg c4] at hf
          refine R_weak [none, none] ⟨Or.inl rfl, Or.inl rfl, trivial⟩ ?_
          exact f170_b21_l hf hW hd kk
      · rw [if_pos c3] at hf
        refine R_iload_n (i := 14) rfl rfl ?_
        refine R_bipush (i := 15) rfl ?_
        refine R_icmpeq (i := 16) rfl (fun c5 => ?_) (fun c5 => ?_)
        · rw [if_pos c5] at hf
          refine R_weak [none, none] ⟨Or.inl rfl, Or.inl rfl, trivial⟩ ?_
          exact f170_b23_l hf hW hd kk
        · rw [if_neg c5] at hf
          refine R_goto (i := 17) rfl ?_
          refine R_weak [none, none] ⟨Or.inl rfl, Or.inl rfl, trivial⟩ ?_
          exact f170_b21_l hf hW hd kk
    · rw [if_pos c2] at hf
      refine R_iload_n (i := 6) rfl rfl ?_
      refine R_bipush (i := 7) rfl ?_
      refine R_icmpne (i := 8) rfl (fun c6 => ?_) (fun c6 => ?_)
      · rw [if_neg c6] at hf
        refine R_weak [none, none] ⟨Or.inl rfl, Or.inl rfl, trivial⟩ ?_
        exact f170_b23_l hf hW hd kk
      · rw [if_pos c6] at hf
        refine R_goto (i := 9) rfl ?_
        refine R_weak [none, none] ⟨Or.inl rfl, Or.inl rfl, trivial⟩ ?_
        exact f170_b21_l hf hW hd kk
set_option maxRecDepth 100000 in
set_option maxHeartbeats 4000000 in
theorem f171_b55_l {d N : Nat} {t0 : Int32} {h : Hp} {Q : Option Value → Hp → Prop} {q : Int32 × Hp} (hf : f171_b55 N t0 h = some q) (hW : WF 1 h) (hd : 7 ≤ d) (kk : WF 1 q.2 → Q (some (.int q.1)) q.2) : R 1 d 171 55 [some (.ref 0), none] [.int t0] h Q := by
  obtain ⟨d, rfl⟩ : ∃ z, d = z + 1 := ⟨d - 1, by omega⟩
  unfold f171_b55 at hf
  refine R_istore_n [some (.ref 0), some (.int t0)] (i := 55) rfl rfl ?_
  refine R_iload_n (i := 56) rfl rfl ?_
  refine R_ifne (i := 57) rfl (fun c6 => ?_) (fun c6 => ?_)
  · rw [if_neg c6] at hf
    refine R_aload_n (i := 60) rfl rfl ?_
    refine R_getI hW (i := 61) rfl rfl (Nat.le_of_ble_eq_true rfl) ?_
    refine R_bipush (i := 62) rfl ?_
    refine R_icmpne (i := 63) rfl (fun c7 => ?_) (fun c7 => ?_)
    · rw [if_neg c7] at hf
      refine R_aload_n (i := 66) rfl rfl ?_
      refine R_dup (i := 67) rfl rfl ?_
      refine R_getI hW (i := 68) rfl rfl (Nat.le_of_ble_eq_true rfl) ?_
      refine R_iconst (i := 69) rfl ?_
      refine R_iadd (i := 70) rfl ?_
      refine R_putI hW (i := 71) rfl rfl (Nat.le_of_ble_eq_true rfl) (hg rfl hd) (fun h8 eh8 => ?_)
      replace hf := bnd_some eh8 hf
      have hW8 : WF 1 h8 := by rw [eh8]; exact hW
      refine R_aload_n (i := 72) rfl rfl ?_
      refine R_iload_n (i := 73) rfl rfl ?_
      have zq9 := bind_some hf
      clear hf
      obtain ⟨q9, eq9, hf⟩ := zq9
      refine R_callV (vs := [.int t0]) (st' := []) hW8 (i := 74) rfl rfl rfl (Nat.le_of_ble_eq_true rfl) rfl (Nat.le_of_ble_eq_true rfl) rfl (f166_l eq9 hW8 (hh rfl hd) (fun hW9 => ?_))
      refine R_aload_n (i := 75) rfl rfl ?_
      have zq10 := bind_some hf
      clear hf
      obtain ⟨q10, eq10, hf⟩ := zq10
      refine R_callV (vs := []) (st' := []) hW9 (i := 76) rfl rfl rfl (Nat.le_of_ble_eq_true rfl) rfl (Nat.le_of_ble_eq_true rfl) rfl (f159_l eq10 hW9 (hh rfl hd) (fun hW10 => ?_))
      refine R_iconst (i := 77) rfl ?_
      have hz := Option.some.inj hf
      subst hz
      exact R_iret (i := 78) rfl (kk hW10)
    · rw [if_pos c7] at hf
      refine R_iconst (i := 64) rfl ?_
      have hz := Option.some.inj hf
      subst hz
      exact R_iret (i := 65) rfl (kk hW)
  · rw [if_pos c6] at hf
    refine R_iconst (i := 58) rfl ?_
    have hz := Option.some.inj hf
    subst hz
    exact R_iret (i := 59) rfl (kk hW)
set_option maxRecDepth 100000 in
set_option maxHeartbeats 4000000 in
theorem f171_l {d N : Nat} {h : Hp} {Q : Option Value → Hp → Prop} {q : Int32 × Hp} (hf : f171 N h = some q) (hW : WF 1 h) (hd : 7 ≤ d) (kk : WF 1 q.2 → Q (some (.int q.1)) q.2) : R 1 d 171 0 [some (.ref 0), none] [] h Q := by
  obtain ⟨d, rfl⟩ : ∃ z, d = z + 1 := ⟨d - 1, by omega⟩
  unfold f171 at hf
  refine R_aload_n (i := 0) rfl rfl ?_
  refine R_getI hW (i := 1) rfl rfl (Nat.le_of_ble_eq_true rfl) ?_
  refine R_iconst (i := 2) rfl ?_
  refine R_icmpne (i := 3) rfl (fun c1 => ?_) (fun c1 => ?_)
  · rw [if_neg c1] at hf
    refine R_aload_n (i := 21) rfl rfl ?_
    have zq2 := bind_some hf
    clear hf
    obtain ⟨q2, eq2, hf⟩ := zq2
    refine R_callV (vs := []) (st' := []) hW (i := 22) rfl rfl rfl (Nat.le_of_ble_eq_true rfl) rfl (Nat.le_of_ble_eq_true rfl) rfl (f169_l eq2 hW (hh rfl hd) ?_)
    refine R_iflt (i := 23) rfl (fun c3 => ?_) (fun c3 => ?_)
    · rw [if_pos c3] at hf
      refine R_aload_n (i := 42) rfl rfl ?_
      refine R_getI hW (i := 43) rfl rfl (Nat.le_of_ble_eq_true rfl) ?_
      refine R_bipush (i := 44) rfl ?_
      refine R_icmpne (i := 45) rfl (fun c4 => ?_) (fun c4 => ?_)
      · rw [if_neg c4] at hf
        refine R_aload_n (i := 48) rfl rfl ?_
        refine R_getI hW (i := 49) rfl rfl (Nat.le_of_ble_eq_true rfl) ?_
        refine R_bipush (i := 50) rfl ?_
        refine R_icmpne (i := 51) rfl (fun c5 => ?_) (fun c5 => ?_)
        · rw [if_neg c5] at hf
          refine R_iconst (i := 54) rfl ?_
          exact f171_b55_l hf hW hd kk
        · rw [if_pos c5] at hf
          refine R_iconst (i := 52) rfl ?_
          refine R_goto (i := 53) rfl ?_
          exact f171_b55_l hf hW hd kk
      · rw [if_pos c4] at hf
        refine R_bipush (i := 46) rfl ?_
        refine R_goto (i := 47) rfl ?_
        exact f171_b55_l hf hW hd kk
    · rw [if_neg c3] at hf
      refine R_aload_n (i := 24) rfl rfl ?_
      refine R_aload_n (i := 25) rfl rfl ?_
      have zq11 := bind_some hf
      clear hf
      obtain ⟨q11, eq11, hf⟩ := zq11
      refine R_callV (vs := []) (st' := [.ref 0]) hW (i := 26) rfl rfl rfl (Nat.le_of_ble_eq_true rfl) rfl (Nat.le_of_ble_eq_true rfl) rfl (f169_l eq11 hW (hh rfl hd) ?_)
      have zq12 := bind_some hf
      clear hf
      obtain ⟨q12, eq12, hf⟩ := zq12
      refine R_callV (vs := [.int q11]) (st' := []) hW (i := 27) rfl rfl rfl (Nat.le_of_ble_eq_true rfl) rfl (Nat.le_of_ble_eq_true rfl) rfl (f170_l eq12 hW (hh rfl hd) ?_)
      refine R_ifeq (i := 28) rfl (fun c13 => ?_) (fun c13 => ?_)
      · rw [if_pos c13] at hf
        refine R_aload_n (i := 31) rfl rfl ?_
        refine R_iconst (i := 32) rfl ?_
        refine R_aload_n (i := 33) rfl rfl ?_
        have zq14 := bind_some hf
        clear hf
        obtain ⟨q14, eq14, hf⟩ := zq14
        refine R_callV (vs := []) (st' := [.int (1 : Int32), .ref 0]) hW (i := 34) rfl rfl rfl (Nat.le_of_ble_eq_true rfl) rfl (Nat.le_of_ble_eq_true rfl) rfl (f169_l eq14 hW (hh rfl hd) ?_)
        have zq15 := bind_some hf
        clear hf
        obtain ⟨q15, eq15, hf⟩ := zq15
        refine R_callV (vs := [.int (1 : Int32), .int q14]) (st' := []) hW (i := 35) rfl rfl rfl (Nat.le_of_ble_eq_true rfl) rfl (Nat.le_of_ble_eq_true rfl) rfl (f165_l eq15 hW (hh rfl hd) (fun hW15 => ?_))
        refine R_aload_n (i := 36) rfl rfl ?_
        have zq16 := bind_some hf
        clear hf
        obtain ⟨q16, eq16, hf⟩ := zq16
        refine R_callV (vs := []) (st' := []) hW15 (i := 37) rfl rfl rfl (Nat.le_of_ble_eq_true rfl) rfl (Nat.le_of_ble_eq_true rfl) rfl (f159_l eq16 hW15 (hh rfl hd) (fun hW16 => ?_))
        refine R_aload_n (i := 38) rfl rfl ?_
        have zq17 := bind_some hf
        clear hf
        obtain ⟨q17, eq17, hf⟩ := zq17
        refine R_callV (vs := []) (st' := []) hW16 (i := 39) rfl rfl rfl (Nat.le_of_ble_eq_true rfl) rfl (Nat.le_of_ble_eq_true rfl) rfl (f167_l eq17 hW16 (hh rfl hd) (fun hW17 => ?_))
        refine R_iconst (i := 40) rfl ?_
        have hz := Option.some.inj hf
        subst hz
        exact R_iret (i := 41) rfl (kk hW17)
      · rw [if_neg c13] at hf
        refine R_iconst (i := 29) rfl ?_
        have hz := Option.some.inj hf
        subst hz
        exact R_iret (i := 30) rfl (kk hW)
  · rw [if_pos c1] at hf
    refine R_aload_n (i := 4) rfl rfl ?_
    refine R_getI hW (i := 5) rfl rfl (Nat.le_of_ble_eq_true rfl) ?_
    refine R_sipush (i := 6) rfl ?_
    refine R_icmple (i := 7) rfl (fun c18 => ?_) (fun c18 => ?_)
    · rw [if_pos c18] at hf
      refine R_aload_n (i := 10) rfl rfl ?_
      refine R_iconst (i := 11) rfl ?_
      refine R_aload_n (i := 12) rfl rfl ?_
      refine R_getI hW (i := 13) rfl rfl (Nat.le_of_ble_eq_true rfl) ?_
      have zq19 := bind_some hf
      clear hf
      obtain ⟨q19, eq19, hf⟩ := zq19
      refine R_callV (vs := [.int (0 : Int32), .int (hI h 0 11)]) (st' := []) hW (i := 14) rfl rfl rfl (Nat.le_of_ble_eq_true rfl) rfl (Nat.le_of_ble_eq_true rfl) rfl (f165_l eq19 hW (hh rfl hd) (fun hW19 => ?_))
      refine R_aload_n (i := 15) rfl rfl ?_
      have zq20 := bind_some hf
      clear hf
      obtain ⟨q20, eq20, hf⟩ := zq20
      refine R_callV (vs := []) (st' := []) hW19 (i := 16) rfl rfl rfl (Nat.le_of_ble_eq_true rfl) rfl (Nat.le_of_ble_eq_true rfl) rfl (f159_l eq20 hW19 (hh rfl hd) (fun hW20 => ?_))
      refine R_aload_n (i := 17) rfl rfl ?_
      have zq21 := bind_some hf
      clear hf
      obtain ⟨q21, eq21, hf⟩ := zq21
      refine R_callV (vs := []) (st' := []) hW20 (i := 18) rfl rfl rfl (Nat.le_of_ble_eq_true rfl) rfl (Nat.le_of_ble_eq_true rfl) rfl (f167_l eq21 hW20 (hh rfl hd) (fun hW21 => ?_))
      refine R_iconst (i := 19) rfl ?_
      have hz := Option.some.inj hf
      subst hz
      exact R_iret (i := 20) rfl (kk hW21)
    · rw [if_neg c18] at hf
      refine R_iconst (i := 8) rfl ?_
      have hz := Option.some.inj hf
      subst hz
      exact R_iret (i := 9) rfl (kk hW)
set_option maxRecDepth 100000 in
set_option maxHeartbeats 4000000 in
theorem f172_l2_l {d N : Nat} {h : Hp} {s : Int32} {Q : Option Value → Hp → Prop} {j : Nat} {s' : Int32} (hf : f172_l2 N h s = some (j, s')) (hW : WF 1 h) (hd : 0 ≤ d) (k0 : j = 0 → R 1 d 172 2 [some (.ref 0), some (.int s')] [] h Q) (k1 : j = 1 → R 1 d 172 12 [none, none] [] h Q) (k2 : j = 2 → R 1 d 172 16 [none, none] [] h Q) : R 1 d 172 2 [some (.ref 0), some (.int s)] [] h Q := by
  unfold f172_l2 at hf
  refine R_iload_n (i := 2) rfl rfl ?_
  refine R_aload_n (i := 3) rfl rfl ?_
  refine R_getI hW (i := 4) rfl rfl (Nat.le_of_ble_eq_true rfl) ?_
  refine R_icmpge (i := 5) rfl (fun c1 => ?_) (fun c1 => ?_)
  · rw [if_pos c1] at hf
    obtain ⟨hj, hs⟩ := Prod.mk.inj (Option.some.inj hf)
    subst hj
    subst hs
    refine R_weak [none, none] ⟨Or.inl rfl, Or.inl rfl, trivial⟩ ?_
    exact k2 rfl
  · rw [if_neg c1] at hf
    refine R_aload_n (i := 6) rfl rfl ?_
    refine R_getF hW (i := 7) rfl rfl (Nat.le_of_ble_eq_true rfl) rfl ?_
    refine R_iload_n (i := 8) rfl rfl ?_
    have g2 := gd_some hf
    clear hf
    obtain ⟨g2, hf⟩ := g2
    refine R_iaload hW (i := 9) rfl rfl g2 ?_
    refine R_bipush (i := 10) rfl ?_
    refine R_icmpne (i := 11) rfl (fun c3 => ?_) (fun c3 => ?_)
    · rw [if_neg c3] at hf
      obtain ⟨v4, e4⟩ : ∃ z : Int32, z = (s + (1 : Int32)) := ⟨_, rfl⟩
      replace hf := bnd_some e4 hf
      refine R_iinc [some (.ref 0), some (.int v4)] (i := 14) rfl rfl (by rw [← e4]; rfl) ?_
      refine R_goto (i := 15) rfl ?_
      obtain ⟨hj, hs⟩ := Prod.mk.inj (Option.some.inj hf)
      subst hj
      subst hs
      exact k0 rfl
    · rw [if_pos c3] at hf
      obtain ⟨hj, hs⟩ := Prod.mk.inj (Option.some.inj hf)
      subst hj
      subst hs
      refine R_weak [none, none] ⟨Or.inl rfl, Or.inl rfl, trivial⟩ ?_
      exact k1 rfl
set_option maxRecDepth 100000 in
set_option maxHeartbeats 4000000 in
theorem f172_l {d N : Nat} {h : Hp} {Q : Option Value → Hp → Prop} {q : Int32} (hf : f172 N h = some q) (hW : WF 1 h) (hd : 0 ≤ d) (kk : Q (some (.int q)) h) : R 1 d 172 0 [some (.ref 0), none] [] h Q := by
  unfold f172 at hf
  refine R_iconst (i := 0) rfl ?_
  refine R_istore_n [some (.ref 0), some (.int (0 : Int32))] (i := 1) rfl rfl ?_
  have zq5 := bind_some hf
  clear hf
  obtain ⟨q5, eq5, hf⟩ := zq5
  refine lp_link (P := fun u2 => R 1 d 172 2 [some (.ref 0), some (.int u2)] [] h Q) (E := fun e u2 => ((e = 0 → R 1 d 172 12 [none, none] [] h Q) ∧ (e = 1 → R 1 d 172 16 [none, none] [] h Q))) (fun s j s' hb k0 ke => f172_l2_l hb hW hd k0 (fun z => (ke 0 z).1 rfl) (fun z => (ke 1 z).2 rfl)) N (0 : Int32) q5.1 q5.2 eq5 ?_
  refine ⟨fun z => ?_, fun z => ?_⟩
  · rw [if_pos z] at hf
    refine R_iconst (i := 12) rfl ?_
    have hz := Option.some.inj hf
    subst hz
    exact R_zret (r := 1) (i := 13) rfl (by decide) kk
  · rw [if_neg (by rw [z]; decide)] at hf
    refine R_iconst (i := 16) rfl ?_
    have hz := Option.some.inj hf
    subst hz
    exact R_zret (r := 0) (i := 17) rfl (by decide) kk
set_option maxRecDepth 100000 in
set_option maxHeartbeats 4000000 in
theorem f173_b23_l {d N : Nat} {h : Hp} {Q : Option Value → Hp → Prop} {q : Int32} (hf : f173_b23 N h = some q) (hW : WF 1 h) (hd : 1 ≤ d) (kk : Q (some (.int q)) h) : R 1 d 173 23 [none] [] h Q := by
  unfold f173_b23 at hf
  refine R_iconst (i := 23) rfl ?_
  refine R_goto (i := 24) rfl ?_
  have hz := Option.some.inj hf
  subst hz
  exact R_zret (r := 1) (i := 26) rfl (by decide) kk
set_option maxRecDepth 100000 in
set_option maxHeartbeats 4000000 in
theorem f173_b25_l {d N : Nat} {h : Hp} {Q : Option Value → Hp → Prop} {q : Int32} (hf : f173_b25 N h = some q) (hW : WF 1 h) (hd : 1 ≤ d) (kk : Q (some (.int q)) h) : R 1 d 173 25 [none] [] h Q := by
  unfold f173_b25 at hf
  refine R_iconst (i := 25) rfl ?_
  have hz := Option.some.inj hf
  subst hz
  exact R_zret (r := 0) (i := 26) rfl (by decide) kk
set_option maxRecDepth 100000 in
set_option maxHeartbeats 4000000 in
theorem f173_l {d N : Nat} {h : Hp} {Q : Option Value → Hp → Prop} {q : Int32} (hf : f173 N h = some q) (hW : WF 1 h) (hd : 1 ≤ d) (kk : Q (some (.int q)) h) : R 1 d 173 0 [some (.ref 0)] [] h Q := by
  obtain ⟨d, rfl⟩ : ∃ z, d = z + 1 := ⟨d - 1, by omega⟩
  unfold f173 at hf
  refine R_aload_n (i := 0) rfl rfl ?_
  refine R_getI hW (i := 1) rfl rfl (Nat.le_of_ble_eq_true rfl) ?_
  refine R_bipush (i := 2) rfl ?_
  refine R_icmpeq (i := 3) rfl (fun c1 => ?_) (fun c1 => ?_)
  · rw [if_pos c1] at hf
    refine R_weak [none] ⟨Or.inl rfl, trivial⟩ ?_
    exact f173_b23_l hf hW hd kk
  · rw [if_neg c1] at hf
    refine R_aload_n (i := 4) rfl rfl ?_
    refine R_getI hW (i := 5) rfl rfl (Nat.le_of_ble_eq_true rfl) ?_
    refine R_bipush (i := 6) rfl ?_
    refine R_icmpeq (i := 7) rfl (fun c2 => ?_) (fun c2 => ?_)
    · rw [if_pos c2] at hf
      refine R_weak [none] ⟨Or.inl rfl, trivial⟩ ?_
      exact f173_b23_l hf hW hd kk
    · rw [if_neg c2] at hf
      refine R_aload_n (i := 8) rfl rfl ?_
      refine R_getI hW (i := 9) rfl rfl (Nat.le_of_ble_eq_true rfl) ?_
      refine R_bipush (i := 10) rfl ?_
      refine R_icmpeq (i := 11) rfl (fun c3 => ?_) (fun c3 => ?_)
      · rw [if_pos c3] at hf
        refine R_weak [none] ⟨Or.inl rfl, trivial⟩ ?_
        exact f173_b23_l hf hW hd kk
      · rw [if_neg c3] at hf
        refine R_aload_n (i := 12) rfl rfl ?_
        refine R_getI hW (i := 13) rfl rfl (Nat.le_of_ble_eq_true rfl) ?_
        refine R_bipush (i := 14) rfl ?_
        refine R_icmpeq (i := 15) rfl (fun c4 => ?_) (fun c4 => ?_)
        · rw [if_pos c4] at hf
          refine R_weak [none] ⟨Or.inl rfl, trivial⟩ ?_
          exact f173_b23_l hf hW hd kk
        · rw [if_neg c4] at hf
          refine R_aload_n (i := 16) rfl rfl ?_
          refine R_getI hW (i := 17) rfl rfl (Nat.le_of_ble_eq_true rfl) ?_
          refine R_bipush (i := 18) rfl ?_
          refine R_icmpne (i := 19) rfl (fun c5 => ?_) (fun c5 => ?_)
          · rw [if_neg c5] at hf
            refine R_weak [none] ⟨Or.inl rfl, trivial⟩ ?_
            exact f173_b25_l hf hW hd kk
          · rw [if_pos c5] at hf
            refine R_aload_n (i := 20) rfl rfl ?_
            have zq6 := bind_some hf
            clear hf
            obtain ⟨q6, eq6, hf⟩ := zq6
            refine R_callV (vs := []) (st' := []) hW (i := 21) rfl rfl rfl (Nat.le_of_ble_eq_true rfl) rfl (Nat.le_of_ble_eq_true rfl) rfl (f172_l eq6 hW (hh rfl hd) ?_)
            refine R_ifeq (i := 22) rfl (fun c7 => ?_) (fun c7 => ?_)
            · rw [if_pos c7] at hf
              refine R_weak [none] ⟨Or.inl rfl, trivial⟩ ?_
              exact f173_b25_l hf hW hd kk
            · rw [if_neg c7] at hf
              refine R_weak [none] ⟨Or.inl rfl, trivial⟩ ?_
              exact f173_b23_l hf hW hd kk
set_option maxRecDepth 100000 in
set_option maxHeartbeats 4000000 in
theorem f174_b19_l {d N : Nat} {t0 : Int32} {h : Hp} {Q : Option Value → Hp → Prop} {q : Int32 × Hp} (hf : f174_b19 N t0 h = some q) (hW : WF 1 h) (hd : 7 ≤ d) (kk : WF 1 q.2 → Q (some (.int q.1)) q.2) : R 1 d 174 19 [some (.ref 0), none] [.int t0, .ref 0] h Q := by
  obtain ⟨d, rfl⟩ : ∃ z, d = z + 1 := ⟨d - 1, by omega⟩
  unfold f174_b19 at hf
  have zq5 := bind_some hf
  clear hf
  obtain ⟨q5, eq5, hf⟩ := zq5
  refine R_callV (vs := [.int t0]) (st' := []) hW (i := 19) rfl rfl rfl (Nat.le_of_ble_eq_true rfl) rfl (Nat.le_of_ble_eq_true rfl) rfl (f166_l eq5 hW (hh rfl hd) (fun hW5 => ?_))
  refine R_aload_n (i := 20) rfl rfl ?_
  refine R_iconst (i := 21) rfl ?_
  refine R_putZ hW5 (i := 22) rfl rfl (Nat.le_of_ble_eq_true rfl) (by decide) (hg rfl hd) (fun h6 eh6 => ?_)
  replace hf := bnd_some eh6 hf
  have hW6 : WF 1 h6 := by rw [eh6]; exact hW5
  refine R_goto (i := 23) rfl ?_
  refine R_aload_n (i := 62) rfl rfl ?_
  have zq7 := bind_some hf
  clear hf
  obtain ⟨q7, eq7, hf⟩ := zq7
  refine R_callV (vs := []) (st' := []) hW6 (i := 63) rfl rfl rfl (Nat.le_of_ble_eq_true rfl) rfl (Nat.le_of_ble_eq_true rfl) rfl (f159_l eq7 hW6 (hh rfl hd) (fun hW7 => ?_))
  refine R_iconst (i := 64) rfl ?_
  have hz := Option.some.inj hf
  subst hz
  exact R_iret (i := 65) rfl (kk hW7)
set_option maxRecDepth 100000 in
set_option maxHeartbeats 4000000 in
theorem f174_b9_l {d N : Nat} {x1 : Int32} {h : Hp} {Q : Option Value → Hp → Prop} {q : Int32 × Hp} (hf : f174_b9 N x1 h = some q) (hW : WF 1 h) (hd : 7 ≤ d) (kk : WF 1 q.2 → Q (some (.int q.1)) q.2) : R 1 d 174 9 [some (.ref 0), some (.int x1)] [] h Q := by
  obtain ⟨d, rfl⟩ : ∃ z, d = z + 1 := ⟨d - 1, by omega⟩
  unfold f174_b9 at hf
  refine R_aload_n (i := 9) rfl rfl ?_
  refine R_iconst (i := 10) rfl ?_
  have zq3 := bind_some hf
  clear hf
  obtain ⟨q3, eq3, hf⟩ := zq3
  refine R_callV (vs := [.int (3 : Int32)]) (st' := []) hW (i := 11) rfl rfl rfl (Nat.le_of_ble_eq_true rfl) rfl (Nat.le_of_ble_eq_true rfl) rfl (f168_l eq3 hW (hh rfl hd) (fun hW3 => ?_))
  refine R_aload_n (i := 12) rfl rfl ?_
  refine R_iload_n (i := 13) rfl rfl ?_
  refine R_bipush (i := 14) rfl ?_
  refine R_icmpne (i := 15) rfl (fun c4 => ?_) (fun c4 => ?_)
  · rw [if_neg c4] at hf
    refine R_iconst (i := 18) rfl ?_
    refine R_weak [some (.ref 0), none] ⟨Or.inr rfl, Or.inl rfl, trivial⟩ ?_
    exact f174_b19_l hf hW3 hd kk
  · rw [if_pos c4] at hf
    refine R_iconst (i := 16) rfl ?_
    refine R_goto (i := 17) rfl ?_
    refine R_weak [some (.ref 0), none] ⟨Or.inr rfl, Or.inl rfl, trivial⟩ ?_
    exact f174_b19_l hf hW3 hd kk
set_option maxRecDepth 100000 in
set_option maxHeartbeats 4000000 in
theorem f174_b40_l {d N : Nat} {t0 : Int32} {h : Hp} {Q : Option Value → Hp → Prop} {q : Int32 × Hp} (hf : f174_b40 N t0 h = some q) (hW : WF 1 h) (hd : 7 ≤ d) (kk : WF 1 q.2 → Q (some (.int q.1)) q.2) : R 1 d 174 40 [some (.ref 0), none] [.int t0, .ref 0] h Q := by
  obtain ⟨d, rfl⟩ : ∃ z, d = z + 1 := ⟨d - 1, by omega⟩
  unfold f174_b40 at hf
  have zq12 := bind_some hf
  clear hf
  obtain ⟨q12, eq12, hf⟩ := zq12
  refine R_callV (vs := [.int t0]) (st' := []) hW (i := 40) rfl rfl rfl (Nat.le_of_ble_eq_true rfl) rfl (Nat.le_of_ble_eq_true rfl) rfl (f166_l eq12 hW (hh rfl hd) (fun hW12 => ?_))
  refine R_aload_n (i := 41) rfl rfl ?_
  refine R_iconst (i := 42) rfl ?_
  refine R_putZ hW12 (i := 43) rfl rfl (Nat.le_of_ble_eq_true rfl) (by decide) (hg rfl hd) (fun h13 eh13 => ?_)
  replace hf := bnd_some eh13 hf
  have hW13 : WF 1 h13 := by rw [eh13]; exact hW12
  refine R_goto (i := 44) rfl ?_
  refine R_aload_n (i := 62) rfl rfl ?_
  have zq14 := bind_some hf
  clear hf
  obtain ⟨q14, eq14, hf⟩ := zq14
  refine R_callV (vs := []) (st' := []) hW13 (i := 63) rfl rfl rfl (Nat.le_of_ble_eq_true rfl) rfl (Nat.le_of_ble_eq_true rfl) rfl (f159_l eq14 hW13 (hh rfl hd) (fun hW14 => ?_))
  refine R_iconst (i := 64) rfl ?_
  have hz := Option.some.inj hf
  subst hz
  exact R_iret (i := 65) rfl (kk hW14)
set_option maxRecDepth 100000 in
set_option maxHeartbeats 4000000 in
theorem f174_b30_l {d N : Nat} {x1 : Int32} {h : Hp} {Q : Option Value → Hp → Prop} {q : Int32 × Hp} (hf : f174_b30 N x1 h = some q) (hW : WF 1 h) (hd : 7 ≤ d) (kk : WF 1 q.2 → Q (some (.int q.1)) q.2) : R 1 d 174 30 [some (.ref 0), some (.int x1)] [] h Q := by
  obtain ⟨d, rfl⟩ : ∃ z, d = z + 1 := ⟨d - 1, by omega⟩
  unfold f174_b30 at hf
  refine R_aload_n (i := 30) rfl rfl ?_
  refine R_iconst (i := 31) rfl ?_
  have zq10 := bind_some hf
  clear hf
  obtain ⟨q10, eq10, hf⟩ := zq10
  refine R_callV (vs := [.int (5 : Int32)]) (st' := []) hW (i := 32) rfl rfl rfl (Nat.le_of_ble_eq_true rfl) rfl (Nat.le_of_ble_eq_true rfl) rfl (f168_l eq10 hW (hh rfl hd) (fun hW10 => ?_))
  refine R_aload_n (i := 33) rfl rfl ?_
  refine R_iload_n (i := 34) rfl rfl ?_
  refine R_bipush (i := 35) rfl ?_
  refine R_icmpne (i := 36) rfl (fun c11 => ?_) (fun c11 => ?_)
  · rw [if_neg c11] at hf
    refine R_bipush (i := 39) rfl ?_
    refine R_weak [some (.ref 0), none] ⟨Or.inr rfl, Or.inl rfl, trivial⟩ ?_
    exact f174_b40_l hf hW10 hd kk
  · rw [if_pos c11] at hf
    refine R_iconst (i := 37) rfl ?_
    refine R_goto (i := 38) rfl ?_
    refine R_weak [some (.ref 0), none] ⟨Or.inr rfl, Or.inl rfl, trivial⟩ ?_
    exact f174_b40_l hf hW10 hd kk
set_option maxRecDepth 100000 in
set_option maxHeartbeats 4000000 in
theorem f174_l {d N : Nat} {h : Hp} {Q : Option Value → Hp → Prop} {q : Int32 × Hp} (hf : f174 N h = some q) (hW : WF 1 h) (hd : 7 ≤ d) (kk : WF 1 q.2 → Q (some (.int q.1)) q.2) : R 1 d 174 0 [some (.ref 0), none] [] h Q := by
  obtain ⟨d, rfl⟩ : ∃ z, d = z + 1 := ⟨d - 1, by omega⟩
  unfold f174 at hf
  refine R_aload_n (i := 0) rfl rfl ?_
  refine R_getI hW (i := 1) rfl rfl (Nat.le_of_ble_eq_true rfl) ?_
  refine R_topi (fun v1 e1 => ?_)
  replace hf := bnd_some e1 hf
  refine R_istore_n [some (.ref 0), some (.int v1)] (i := 2) rfl rfl ?_
  refine R_iload_n (i := 3) rfl rfl ?_
  refine R_bipush (i := 4) rfl ?_
  refine R_icmpeq (i := 5) rfl (fun c2 => ?_) (fun c2 => ?_)
  · rw [if_pos c2] at hf
    exact f174_b9_l hf hW hd kk
  · rw [if_neg c2] at hf
    refine R_iload_n (i := 6) rfl rfl ?_
    refine R_bipush (i := 7) rfl ?_
    refine R_icmpne (i := 8) rfl (fun c8 => ?_) (fun c8 => ?_)
    · rw [if_neg c8] at hf
      refine R_iload_n (i := 24) rfl rfl ?_
      refine R_bipush (i := 25) rfl ?_
      refine R_icmpeq (i := 26) rfl (fun c9 => ?_) (fun c9 => ?_)
      · rw [if_pos c9] at hf
        exact f174_b30_l hf hW hd kk
      · rw [if_neg c9] at hf
        refine R_iload_n (i := 27) rfl rfl ?_
        refine R_bipush (i := 28) rfl ?_
        refine R_icmpne (i := 29) rfl (fun c15 => ?_) (fun c15 => ?_)
        · rw [if_neg c15] at hf
          refine R_aload_n (i := 45) rfl rfl ?_
          refine R_iconst (i := 46) rfl ?_
          have zq16 := bind_some hf
          clear hf
          obtain ⟨q16, eq16, hf⟩ := zq16
          refine R_callV (vs := [.int (3 : Int32)]) (st' := []) hW (i := 47) rfl rfl rfl (Nat.le_of_ble_eq_true rfl) rfl (Nat.le_of_ble_eq_true rfl) rfl (f168_l eq16 hW (hh rfl hd) (fun hW16 => ?_))
          refine R_aload_n (i := 48) rfl rfl ?_
          refine R_dup (i := 49) rfl rfl ?_
          refine R_getI hW16 (i := 50) rfl rfl (Nat.le_of_ble_eq_true rfl) ?_
          refine R_iconst (i := 51) rfl ?_
          refine R_isub (i := 52) rfl ?_
          refine R_putI hW16 (i := 53) rfl rfl (Nat.le_of_ble_eq_true rfl) (hg rfl hd) (fun h17 eh17 => ?_)
          replace hf := bnd_some eh17 hf
          have hW17 : WF 1 h17 := by rw [eh17]; exact hW16
          refine R_aload_n (i := 54) rfl rfl ?_
          refine R_dup (i := 55) rfl rfl ?_
          refine R_getI hW17 (i := 56) rfl rfl (Nat.le_of_ble_eq_true rfl) ?_
          refine R_iconst (i := 57) rfl ?_
          refine R_isub (i := 58) rfl ?_
          refine R_putI hW17 (i := 59) rfl rfl (Nat.le_of_ble_eq_true rfl) (hg rfl hd) (fun h18 eh18 => ?_)
          replace hf := bnd_some eh18 hf
          have hW18 : WF 1 h18 := by rw [eh18]; exact hW17
          refine R_aload_n (i := 60) rfl rfl ?_
          have zq19 := bind_some hf
          clear hf
          obtain ⟨q19, eq19, hf⟩ := zq19
          refine R_callV (vs := []) (st' := []) hW18 (i := 61) rfl rfl rfl (Nat.le_of_ble_eq_true rfl) rfl (Nat.le_of_ble_eq_true rfl) rfl (f167_l eq19 hW18 (hh rfl hd) (fun hW19 => ?_))
          refine R_aload_n (i := 62) rfl rfl ?_
          have zq20 := bind_some hf
          clear hf
          obtain ⟨q20, eq20, hf⟩ := zq20
          refine R_callV (vs := []) (st' := []) hW19 (i := 63) rfl rfl rfl (Nat.le_of_ble_eq_true rfl) rfl (Nat.le_of_ble_eq_true rfl) rfl (f159_l eq20 hW19 (hh rfl hd) (fun hW20 => ?_))
          refine R_iconst (i := 64) rfl ?_
          have hz := Option.some.inj hf
          subst hz
          exact R_iret (i := 65) rfl (kk hW20)
        · rw [if_pos c15] at hf
          exact f174_b30_l hf hW hd kk
    · rw [if_pos c8] at hf
      exact f174_b9_l hf hW hd kk
set_option maxRecDepth 100000 in
set_option maxHeartbeats 4000000 in
theorem f175_b20_l {d N : Nat} {t0 : Int32} {h : Hp} {Q : Option Value → Hp → Prop} {j : Nat} {s' : Int32 × Hp} (hf : f175_b20 N t0 h = some (j, s')) (hW : WF 1 h) (hd : 8 ≤ d) (k0 : j = 0 → WF 1 s'.2 → R 1 d 175 6 [some (.ref 0), none] [] s'.2 Q) (k1 : j = 1 → WF 1 s'.2 → R 1 d 175 23 [none, some (.int s'.1)] [] s'.2 Q) (k2 : j = 2 → WF 1 s'.2 → R 1 d 175 26 [some (.ref 0), none] [] s'.2 Q) : R 1 d 175 20 [some (.ref 0), none] [.int t0] h Q := by
  unfold f175_b20 at hf
  refine R_istore_n [some (.ref 0), some (.int t0)] (i := 20) rfl rfl ?_
  refine R_iload_n (i := 21) rfl rfl ?_
  refine R_ifeq (i := 22) rfl (fun c6 => ?_) (fun c6 => ?_)
  · rw [if_pos c6] at hf
    refine R_goto (i := 25) rfl ?_
    obtain ⟨hj, hs⟩ := Prod.mk.inj (Option.some.inj hf)
    subst hj
    subst hs
    refine R_weak [some (.ref 0), none] ⟨Or.inr rfl, Or.inl rfl, trivial⟩ ?_
    exact k0 rfl hW
  · rw [if_neg c6] at hf
    obtain ⟨hj, hs⟩ := Prod.mk.inj (Option.some.inj hf)
    subst hj
    subst hs
    refine R_weak [none, some (.int t0)] ⟨Or.inl rfl, Or.inr rfl, trivial⟩ ?_
    exact k1 rfl hW
set_option maxRecDepth 100000 in
set_option maxHeartbeats 4000000 in
theorem f175_b12_l {d N : Nat} {h : Hp} {Q : Option Value → Hp → Prop} {j : Nat} {s' : Int32 × Hp} (hf : f175_b12 N h = some (j, s')) (hW : WF 1 h) (hd : 8 ≤ d) (k0 : j = 0 → WF 1 s'.2 → R 1 d 175 6 [some (.ref 0), none] [] s'.2 Q) (k1 : j = 1 → WF 1 s'.2 → R 1 d 175 23 [none, some (.int s'.1)] [] s'.2 Q) (k2 : j = 2 → WF 1 s'.2 → R 1 d 175 26 [some (.ref 0), none] [] s'.2 Q) : R 1 d 175 12 [some (.ref 0), none] [] h Q := by
  obtain ⟨d, rfl⟩ : ∃ z, d = z + 1 := ⟨d - 1, by omega⟩
  unfold f175_b12 at hf
  refine R_aload_n (i := 12) rfl rfl ?_
  refine R_getI hW (i := 13) rfl rfl (Nat.le_of_ble_eq_true rfl) ?_
  refine R_ifeq (i := 14) rfl (fun c4 => ?_) (fun c4 => ?_)
  · rw [if_pos c4] at hf
    refine R_aload_n (i := 18) rfl rfl ?_
    have zq5 := bind_some hf
    clear hf
    obtain ⟨q5, eq5, hf⟩ := zq5
    refine R_callV (vs := []) (st' := []) hW (i := 19) rfl rfl rfl (Nat.le_of_ble_eq_true rfl) rfl (Nat.le_of_ble_eq_true rfl) rfl (f171_l eq5 hW (hh rfl hd) (fun hW5 => ?_))
    exact f175_b20_l hf hW5 hd k0 k1 k2
  · rw [if_neg c4] at hf
    refine R_aload_n (i := 15) rfl rfl ?_
    have zq7 := bind_some hf
    clear hf
    obtain ⟨q7, eq7, hf⟩ := zq7
    refine R_callV (vs := []) (st' := []) hW (i := 16) rfl rfl rfl (Nat.le_of_ble_eq_true rfl) rfl (Nat.le_of_ble_eq_true rfl) rfl (f174_l eq7 hW (hh rfl hd) (fun hW7 => ?_))
    refine R_goto (i := 17) rfl ?_
    exact f175_b20_l hf hW7 hd k0 k1 k2
set_option maxRecDepth 100000 in
set_option maxHeartbeats 4000000 in
theorem f175_l6_l {d N : Nat} {s : Int32 × Hp} {Q : Option Value → Hp → Prop} {j : Nat} {s' : Int32 × Hp} (hf : f175_l6 N s = some (j, s')) (hW : WF 1 s.2) (hd : 8 ≤ d) (k0 : j = 0 → WF 1 s'.2 → R 1 d 175 6 [some (.ref 0), none] [] s'.2 Q) (k1 : j = 1 → WF 1 s'.2 → R 1 d 175 23 [none, some (.int s'.1)] [] s'.2 Q) (k2 : j = 2 → WF 1 s'.2 → R 1 d 175 26 [some (.ref 0), none] [] s'.2 Q) : R 1 d 175 6 [some (.ref 0), none] [] s.2 Q := by
  obtain ⟨d, rfl⟩ : ∃ z, d = z + 1 := ⟨d - 1, by omega⟩
  unfold f175_l6 at hf
  refine R_aload_n (i := 6) rfl rfl ?_
  refine R_getI hW (i := 7) rfl rfl (Nat.le_of_ble_eq_true rfl) ?_
  refine R_ifeq (i := 8) rfl (fun c3 => ?_) (fun c3 => ?_)
  · rw [if_pos c3] at hf
    exact f175_b12_l hf hW hd k0 k1 k2
  · rw [if_neg c3] at hf
    refine R_aload_n (i := 9) rfl rfl ?_
    have zq8 := bind_some hf
    clear hf
    obtain ⟨q8, eq8, hf⟩ := zq8
    refine R_callV (vs := []) (st' := []) hW (i := 10) rfl rfl rfl (Nat.le_of_ble_eq_true rfl) rfl (Nat.le_of_ble_eq_true rfl) rfl (f173_l eq8 hW (hh rfl hd) ?_)
    refine R_ifeq (i := 11) rfl (fun c9 => ?_) (fun c9 => ?_)
    · rw [if_pos c9] at hf
      obtain ⟨hj, hs⟩ := Prod.mk.inj (Option.some.inj hf)
      subst hj
      subst hs
      exact k2 rfl hW
    · rw [if_neg c9] at hf
      exact f175_b12_l hf hW hd k0 k1 k2
set_option maxRecDepth 100000 in
set_option maxHeartbeats 4000000 in
theorem f175_l {d N : Nat} {h : Hp} {Q : Option Value → Hp → Prop} {q : Int32 × Hp} (hf : f175 N h = some q) (hW : WF 1 h) (hd : 8 ≤ d) (kk : WF 1 q.2 → Q (some (.int q.1)) q.2) : R 1 d 175 0 [some (.ref 0), none] [] h Q := by
  obtain ⟨d, rfl⟩ : ∃ z, d = z + 1 := ⟨d - 1, by omega⟩
  unfold f175 at hf
  refine R_aload_n (i := 0) rfl rfl ?_
  refine R_iconst (i := 1) rfl ?_
  refine R_putI hW (i := 2) rfl rfl (Nat.le_of_ble_eq_true rfl) (hg rfl hd) (fun h1 eh1 => ?_)
  replace hf := bnd_some eh1 hf
  have hW1 : WF 1 h1 := by rw [eh1]; exact hW
  refine R_aload_n (i := 3) rfl rfl ?_
  refine R_iconst (i := 4) rfl ?_
  refine R_putZ hW1 (i := 5) rfl rfl (Nat.le_of_ble_eq_true rfl) (by decide) (hg rfl hd) (fun h2 eh2 => ?_)
  replace hf := bnd_some eh2 hf
  have hW2 : WF 1 h2 := by rw [eh2]; exact hW1
  have zq10 := bind_some hf
  clear hf
  obtain ⟨q10, eq10, hf⟩ := zq10
  refine lp_link (P := fun u6 => WF 1 u6.2 → R 1 (d + 1) 175 6 [some (.ref 0), none] [] u6.2 Q) (E := fun e u6 => WF 1 u6.2 → ((e = 0 → R 1 (d + 1) 175 23 [none, some (.int u6.1)] [] u6.2 Q) ∧ (e = 1 → R 1 (d + 1) 175 26 [some (.ref 0), none] [] u6.2 Q))) (fun s j s' hb k0 ke hWs => f175_l6_l hb hWs hd k0 (fun z y => (ke 0 z y).1 rfl) (fun z y => (ke 1 z y).2 rfl)) N (0, h2) q10.1 q10.2 eq10 ?_ hW2
  refine fun hW10 => ⟨fun z => ?_, fun z => ?_⟩
  · rw [if_pos z] at hf
    refine R_iload_n (i := 23) rfl rfl ?_
    have hz := Option.some.inj hf
    subst hz
    exact R_iret (i := 24) rfl (kk hW10)
  · rw [if_neg (by rw [z]; decide)] at hf
    refine R_aload_n (i := 26) rfl rfl ?_
    refine R_iconst (i := 27) rfl ?_
    have zq11 := bind_some hf
    clear hf
    obtain ⟨q11, eq11, hf⟩ := zq11
    refine R_callV (vs := [.int (3 : Int32)]) (st' := []) hW10 (i := 28) rfl rfl rfl (Nat.le_of_ble_eq_true rfl) rfl (Nat.le_of_ble_eq_true rfl) rfl (f168_l eq11 hW10 (hh rfl hd) (fun hW11 => ?_))
    refine R_aload_n (i := 29) rfl rfl ?_
    refine R_getI hW11 (i := 30) rfl rfl (Nat.le_of_ble_eq_true rfl) ?_
    refine R_ifle (i := 31) rfl (fun c12 => ?_) (fun c12 => ?_)
    · rw [if_pos c12] at hf
      refine R_iconst (i := 34) rfl ?_
      have hz := Option.some.inj hf
      subst hz
      exact R_iret (i := 35) rfl (kk hW11)
    · rw [if_neg c12] at hf
      refine R_iconst (i := 32) rfl ?_
      refine R_goto (i := 33) rfl ?_
      have hz := Option.some.inj hf
      subst hz
      exact R_iret (i := 35) rfl (kk hW11)
set_option maxRecDepth 100000 in
set_option maxHeartbeats 4000000 in
theorem f176_l {d N : Nat} {h : Hp} {Q : Option Value → Hp → Prop} {q : Int32} (hf : f176 N h = some q) (hW : WF 1 h) (hd : 0 ≤ d) (kk : Q (some (.int q)) h) : R 1 d 176 0 [some (.ref 0)] [] h Q := by
  unfold f176 at hf
  refine R_aload_n (i := 0) rfl rfl ?_
  refine R_getI hW (i := 1) rfl rfl (Nat.le_of_ble_eq_true rfl) ?_
  refine R_bipush (i := 2) rfl ?_
  refine R_icmpne (i := 3) rfl (fun c1 => ?_) (fun c1 => ?_)
  · rw [if_neg c1] at hf
    refine R_aload_n (i := 6) rfl rfl ?_
    refine R_getI hW (i := 7) rfl rfl (Nat.le_of_ble_eq_true rfl) ?_
    refine R_iconst (i := 8) rfl ?_
    refine R_icmpne (i := 9) rfl (fun c2 => ?_) (fun c2 => ?_)
    · rw [if_neg c2] at hf
      refine R_aload_n (i := 12) rfl rfl ?_
      refine R_getI hW (i := 13) rfl rfl (Nat.le_of_ble_eq_true rfl) ?_
      refine R_bipush (i := 14) rfl ?_
      refine R_icmpne (i := 15) rfl (fun c3 => ?_) (fun c3 => ?_)
      · rw [if_neg c3] at hf
        refine R_aload_n (i := 18) rfl rfl ?_
        refine R_getI hW (i := 19) rfl rfl (Nat.le_of_ble_eq_true rfl) ?_
        refine R_iconst (i := 20) rfl ?_
        refine R_icmpne (i := 21) rfl (fun c4 => ?_) (fun c4 => ?_)
        · rw [if_neg c4] at hf
          refine R_aload_n (i := 24) rfl rfl ?_
          refine R_getI hW (i := 25) rfl rfl (Nat.le_of_ble_eq_true rfl) ?_
          refine R_bipush (i := 26) rfl ?_
          refine R_icmpne (i := 27) rfl (fun c5 => ?_) (fun c5 => ?_)
          · rw [if_neg c5] at hf
            refine R_aload_n (i := 30) rfl rfl ?_
            refine R_getI hW (i := 31) rfl rfl (Nat.le_of_ble_eq_true rfl) ?_
            refine R_bipush (i := 32) rfl ?_
            refine R_icmpne (i := 33) rfl (fun c6 => ?_) (fun c6 => ?_)
            · rw [if_neg c6] at hf
              refine R_iconst (i := 36) rfl ?_
              have hz := Option.some.inj hf
              subst hz
              exact R_iret (i := 37) rfl kk
            · rw [if_pos c6] at hf
              refine R_bipush (i := 34) rfl ?_
              refine R_goto (i := 35) rfl ?_
              have hz := Option.some.inj hf
              subst hz
              exact R_iret (i := 37) rfl kk
          · rw [if_pos c5] at hf
            refine R_bipush (i := 28) rfl ?_
            refine R_goto (i := 29) rfl ?_
            have hz := Option.some.inj hf
            subst hz
            exact R_iret (i := 37) rfl kk
        · rw [if_pos c4] at hf
          refine R_bipush (i := 22) rfl ?_
          refine R_goto (i := 23) rfl ?_
          have hz := Option.some.inj hf
          subst hz
          exact R_iret (i := 37) rfl kk
      · rw [if_pos c3] at hf
        refine R_bipush (i := 16) rfl ?_
        refine R_goto (i := 17) rfl ?_
        have hz := Option.some.inj hf
        subst hz
        exact R_iret (i := 37) rfl kk
    · rw [if_pos c2] at hf
      refine R_bipush (i := 10) rfl ?_
      refine R_goto (i := 11) rfl ?_
      have hz := Option.some.inj hf
      subst hz
      exact R_iret (i := 37) rfl kk
  · rw [if_pos c1] at hf
    refine R_bipush (i := 4) rfl ?_
    refine R_goto (i := 5) rfl ?_
    have hz := Option.some.inj hf
    subst hz
    exact R_iret (i := 37) rfl kk
set_option maxRecDepth 100000 in
set_option maxHeartbeats 4000000 in
theorem f177_l2_l {d N : Nat} {s : Int32 × Hp} {Q : Option Value → Hp → Prop} {j : Nat} {s' : Int32 × Hp} (hf : f177_l2 N s = some (j, s')) (hW : WF 1 s.2) (hd : 9 ≤ d) (k0 : j = 0 → WF 1 s'.2 → R 1 d 177 2 [some (.ref 0), some (.int s'.1), none, none, none] [] s'.2 Q) (k1 : j = 1 → WF 1 s'.2 → R 1 d 177 13 [none, none, none, none, none] [] s'.2 Q) (k2 : j = 2 → WF 1 s'.2 → R 1 d 177 25 [some (.ref 0), some (.int s'.1), none, none, none] [] s'.2 Q) : R 1 d 177 2 [some (.ref 0), some (.int s.1), none, none, none] [] s.2 Q := by
  obtain ⟨d, rfl⟩ : ∃ z, d = z + 1 := ⟨d - 1, by omega⟩
  unfold f177_l2 at hf
  refine R_aload_n (i := 2) rfl rfl ?_
  refine R_bipush (i := 3) rfl ?_
  refine R_bipush (i := 4) rfl ?_
  refine R_bipush (i := 5) rfl ?_
  refine R_call (vs := [.int (110 : Int32), .int (111 : Int32), .int (116 : Int32)]) (st' := [.ref 0]) (i := 6) rfl (by decide) (by decide) rfl rfl (Nat.le_of_ble_eq_true rfl) rfl (f160_l (hh rfl hd) ?_)
  have zq1 := bind_some hf
  clear hf
  obtain ⟨q1, eq1, hf⟩ := zq1
  refine R_callV (vs := [.long (f160 (110 : Int32) (111 : Int32) (116 : Int32))]) (st' := []) hW (i := 7) rfl rfl rfl (Nat.le_of_ble_eq_true rfl) rfl (Nat.le_of_ble_eq_true rfl) rfl (f164_l eq1 hW (hh rfl hd) ?_)
  refine R_ifeq (i := 8) rfl (fun c2 => ?_) (fun c2 => ?_)
  · rw [if_pos c2] at hf
    obtain ⟨hj, hs⟩ := Prod.mk.inj (Option.some.inj hf)
    subst hj
    subst hs
    exact k2 rfl hW
  · rw [if_neg c2] at hf
    refine R_aload_n (i := 9) rfl rfl ?_
    refine R_getI hW (i := 10) rfl rfl (Nat.le_of_ble_eq_true rfl) ?_
    refine R_bipush (i := 11) rfl ?_
    refine R_icmpne (i := 12) rfl (fun c3 => ?_) (fun c3 => ?_)
    · rw [if_neg c3] at hf
      refine R_aload_n (i := 15) rfl rfl ?_
      refine R_dup (i := 16) rfl rfl ?_
      refine R_getI hW (i := 17) rfl rfl (Nat.le_of_ble_eq_true rfl) ?_
      refine R_iconst (i := 18) rfl ?_
      refine R_iadd (i := 19) rfl ?_
      refine R_putI hW (i := 20) rfl rfl (Nat.le_of_ble_eq_true rfl) (hg rfl hd) (fun h4 eh4 => ?_)
      replace hf := bnd_some eh4 hf
      have hW4 : WF 1 h4 := by rw [eh4]; exact hW
      obtain ⟨v5, e5⟩ : ∃ z : Int32, z = (s.1 + (1 : Int32)) := ⟨_, rfl⟩
      replace hf := bnd_some e5 hf
      refine R_iinc [some (.ref 0), some (.int v5), none, none, none] (i := 21) rfl rfl (by rw [← e5]; rfl) ?_
      refine R_aload_n (i := 22) rfl rfl ?_
      have zq6 := bind_some hf
      clear hf
      obtain ⟨q6, eq6, hf⟩ := zq6
      refine R_callV (vs := []) (st' := []) hW4 (i := 23) rfl rfl rfl (Nat.le_of_ble_eq_true rfl) rfl (Nat.le_of_ble_eq_true rfl) rfl (f159_l eq6 hW4 (hh rfl hd) (fun hW6 => ?_))
      refine R_goto (i := 24) rfl ?_
      obtain ⟨hj, hs⟩ := Prod.mk.inj (Option.some.inj hf)
      subst hj
      subst hs
      exact k0 rfl hW6
    · rw [if_pos c3] at hf
      obtain ⟨hj, hs⟩ := Prod.mk.inj (Option.some.inj hf)
      subst hj
      subst hs
      refine R_weak [none, none, none, none, none] ⟨Or.inl rfl, Or.inl rfl, Or.inr rfl, Or.inr rfl, Or.inr rfl, trivial⟩ ?_
      exact k1 rfl hW
set_option maxRecDepth 100000 in
set_option maxHeartbeats 4000000 in
theorem f177_l60_l {d N : Nat} {x1 : Int32} {s : Int32 × Hp} {Q : Option Value → Hp → Prop} {j : Nat} {s' : Int32 × Hp} (hf : f177_l60 N x1 s = some (j, s')) (hW : WF 1 s.2) (hd : 9 ≤ d) (k0 : j = 0 → WF 1 s'.2 → R 1 d 177 60 [some (.ref 0), some (.int x1), none, none, some (.int s'.1)] [] s'.2 Q) (k1 : j = 1 → WF 1 s'.2 → R 1 d 177 69 [none, none, none, none, none] [] s'.2 Q) : R 1 d 177 60 [some (.ref 0), some (.int x1), none, none, some (.int s.1)] [] s.2 Q := by
  obtain ⟨d, rfl⟩ : ∃ z, d = z + 1 := ⟨d - 1, by omega⟩
  unfold f177_l60 at hf
  refine R_iload (i := 60) rfl rfl ?_
  refine R_iload_n (i := 61) rfl rfl ?_
  refine R_icmpge (i := 62) rfl (fun c17 => ?_) (fun c17 => ?_)
  · rw [if_pos c17] at hf
    obtain ⟨hj, hs⟩ := Prod.mk.inj (Option.some.inj hf)
    subst hj
    subst hs
    refine R_weak [none, none, none, none, none] ⟨Or.inl rfl, Or.inl rfl, Or.inr rfl, Or.inr rfl, Or.inl rfl, trivial⟩ ?_
    exact k1 rfl hW
  · rw [if_neg c17] at hf
    refine R_aload_n (i := 63) rfl rfl ?_
    refine R_bipush (i := 64) rfl ?_
    refine R_iconst (i := 65) rfl ?_
    have zq18 := bind_some hf
    clear hf
    obtain ⟨q18, eq18, hf⟩ := zq18
    refine R_callV (vs := [.int (20 : Int32), .int (0 : Int32)]) (st' := []) hW (i := 66) rfl rfl rfl (Nat.le_of_ble_eq_true rfl) rfl (Nat.le_of_ble_eq_true rfl) rfl (f165_l eq18 hW (hh rfl hd) (fun hW18 => ?_))
    obtain ⟨v19, e19⟩ : ∃ z : Int32, z = (s.1 + (1 : Int32)) := ⟨_, rfl⟩
    replace hf := bnd_some e19 hf
    refine R_iinc [some (.ref 0), some (.int x1), none, none, some (.int v19)] (i := 67) rfl rfl (by rw [← e19]; rfl) ?_
    refine R_goto (i := 68) rfl ?_
    obtain ⟨hj, hs⟩ := Prod.mk.inj (Option.some.inj hf)
    subst hj
    subst hs
    exact k0 rfl hW18
set_option maxRecDepth 100000 in
set_option maxHeartbeats 4000000 in
theorem f177_l {d N : Nat} {h : Hp} {Q : Option Value → Hp → Prop} {q : Int32 × Hp} (hf : f177 N h = some q) (hW : WF 1 h) (hd : 9 ≤ d) (kk : WF 1 q.2 → Q (some (.int q.1)) q.2) : R 1 d 177 0 [some (.ref 0), none, none, none, none] [] h Q := by
  obtain ⟨d, rfl⟩ : ∃ z, d = z + 1 := ⟨d - 1, by omega⟩
  unfold f177 at hf
  refine R_iconst (i := 0) rfl ?_
  refine R_istore_n [some (.ref 0), some (.int (0 : Int32)), none, none, none] (i := 1) rfl rfl ?_
  have zq7 := bind_some hf
  clear hf
  obtain ⟨q7, eq7, hf⟩ := zq7
  refine lp_link (P := fun u2 => WF 1 u2.2 → R 1 (d + 1) 177 2 [some (.ref 0), some (.int u2.1), none, none, none] [] u2.2 Q) (E := fun e u2 => WF 1 u2.2 → ((e = 0 → R 1 (d + 1) 177 13 [none, none, none, none, none] [] u2.2 Q) ∧ (e = 1 → R 1 (d + 1) 177 25 [some (.ref 0), some (.int u2.1), none, none, none] [] u2.2 Q))) (fun s j s' hb k0 ke hWs => f177_l2_l hb hWs hd k0 (fun z y => (ke 0 z y).1 rfl) (fun z y => (ke 1 z y).2 rfl)) N ((0 : Int32), h) q7.1 q7.2 eq7 ?_ hW
  refine fun hW7 => ⟨fun z => ?_, fun z => ?_⟩
  · rw [if_pos z] at hf
    refine R_iconst (i := 13) rfl ?_
    have hz := Option.some.inj hf
    subst hz
    exact R_iret (i := 14) rfl (kk hW7)
  · rw [if_neg (by rw [z]; decide)] at hf
    refine R_aload_n (i := 25) rfl rfl ?_
    have zq8 := bind_some hf
    clear hf
    obtain ⟨q8, eq8, hf⟩ := zq8
    refine R_callV (vs := []) (st' := []) hW7 (i := 26) rfl rfl rfl (Nat.le_of_ble_eq_true rfl) rfl (Nat.le_of_ble_eq_true rfl) rfl (f175_l eq8 hW7 (hh rfl hd) (fun hW8 => ?_))
    refine R_istore_n [some (.ref 0), some (.int q7.2.1), some (.int q8.1), none, none] (i := 27) rfl rfl ?_
    refine R_iload_n (i := 28) rfl rfl ?_
    refine R_ifeq (i := 29) rfl (fun c9 => ?_) (fun c9 => ?_)
    · rw [if_pos c9] at hf
      refine R_aload_n (i := 32) rfl rfl ?_
      have zq10 := bind_some hf
      clear hf
      obtain ⟨q10, eq10, hf⟩ := zq10
      refine R_callV (vs := []) (st' := []) hW8 (i := 33) rfl rfl rfl (Nat.le_of_ble_eq_true rfl) rfl (Nat.le_of_ble_eq_true rfl) rfl (f176_l eq10 hW8 (hh rfl hd) ?_)
      refine R_istore_n [some (.ref 0), some (.int q7.2.1), some (.int q8.1), some (.int q10), none] (i := 34) rfl rfl ?_
      refine R_iload_n (i := 35) rfl rfl ?_
      refine R_ifge (i := 36) rfl (fun c11 => ?_) (fun c11 => ?_)
      · rw [if_pos c11] at hf
        refine R_aload_n (i := 39) rfl rfl ?_
        have zq12 := bind_some hf
        clear hf
        obtain ⟨q12, eq12, hf⟩ := zq12
        refine R_callV (vs := []) (st' := []) hW8 (i := 40) rfl rfl rfl (Nat.le_of_ble_eq_true rfl) rfl (Nat.le_of_ble_eq_true rfl) rfl (f159_l eq12 hW8 (hh rfl hd) (fun hW12 => ?_))
        refine R_aload_n (i := 41) rfl rfl ?_
        have zq13 := bind_some hf
        clear hf
        obtain ⟨q13, eq13, hf⟩ := zq13
        refine R_callV (vs := []) (st' := []) hW12 (i := 42) rfl rfl rfl (Nat.le_of_ble_eq_true rfl) rfl (Nat.le_of_ble_eq_true rfl) rfl (f175_l eq13 hW12 (hh rfl hd) (fun hW13 => ?_))
        refine R_istore_n [some (.ref 0), some (.int q7.2.1), some (.int q13.1), some (.int q10), none] (i := 43) rfl rfl ?_
        refine R_iload_n (i := 44) rfl rfl ?_
        refine R_ifeq (i := 45) rfl (fun c14 => ?_) (fun c14 => ?_)
        · rw [if_pos c14] at hf
          refine R_aload_n (i := 48) rfl rfl ?_
          refine R_iload_n (i := 49) rfl rfl ?_
          refine R_iconst (i := 50) rfl ?_
          have zq15 := bind_some hf
          clear hf
          obtain ⟨q15, eq15, hf⟩ := zq15
          refine R_callV (vs := [.int q10, .int (0 : Int32)]) (st' := []) hW13 (i := 51) rfl rfl rfl (Nat.le_of_ble_eq_true rfl) rfl (Nat.le_of_ble_eq_true rfl) rfl (f165_l eq15 hW13 (hh rfl hd) (fun hW15 => ?_))
          refine R_aload_n (i := 52) rfl rfl ?_
          refine R_dup (i := 53) rfl rfl ?_
          refine R_getI hW15 (i := 54) rfl rfl (Nat.le_of_ble_eq_true rfl) ?_
          refine R_iload_n (i := 55) rfl rfl ?_
          refine R_isub (i := 56) rfl ?_
          refine R_putI hW15 (i := 57) rfl rfl (Nat.le_of_ble_eq_true rfl) (hg rfl hd) (fun h16 eh16 => ?_)
          replace hf := bnd_some eh16 hf
          have hW16 : WF 1 h16 := by rw [eh16]; exact hW15
          refine R_iconst (i := 58) rfl ?_
          refine R_istore [some (.ref 0), some (.int q7.2.1), some (.int q13.1), some (.int q10), some (.int (0 : Int32))] (i := 59) rfl rfl ?_
          refine R_weak [some (.ref 0), some (.int q7.2.1), none, none, some (.int (0 : Int32))] ⟨Or.inr rfl, Or.inr rfl, Or.inl rfl, Or.inl rfl, Or.inr rfl, trivial⟩ ?_
          have zq20 := bind_some hf
          clear hf
          obtain ⟨q20, eq20, hf⟩ := zq20
          refine lp_link (P := fun u60 => WF 1 u60.2 → R 1 (d + 1) 177 60 [some (.ref 0), some (.int q7.2.1), none, none, some (.int u60.1)] [] u60.2 Q) (E := fun e u60 => WF 1 u60.2 → R 1 (d + 1) 177 69 [none, none, none, none, none] [] u60.2 Q) (fun s j s' hb k0 ke hWs => f177_l60_l hb hWs hd k0 (fun z y => ke 0 z y)) N ((0 : Int32), h16) q20.1 q20.2 eq20 ?_ hW16
          intro hW20
          refine R_iconst (i := 69) rfl ?_
          have hz := Option.some.inj hf
          subst hz
          exact R_iret (i := 70) rfl (kk hW20)
        · rw [if_neg c14] at hf
          refine R_iload_n (i := 46) rfl rfl ?_
          have hz := Option.some.inj hf
          subst hz
          exact R_iret (i := 47) rfl (kk hW13)
      · rw [if_neg c11] at hf
        refine R_iconst (i := 37) rfl ?_
        have hz := Option.some.inj hf
        subst hz
        exact R_iret (i := 38) rfl (kk hW8)
    · rw [if_neg c9] at hf
      refine R_iload_n (i := 30) rfl rfl ?_
      have hz := Option.some.inj hf
      subst hz
      exact R_iret (i := 31) rfl (kk hW8)
set_option maxRecDepth 100000 in
set_option maxHeartbeats 4000000 in
theorem f178_b63_l {d N : Nat} {x1 : Int32} {x2 : Int32} {x3 : Int32} {h : Hp} {Q : Option Value → Hp → Prop} {j : Nat} {s' : Int32 × Int32 × Int32 × Int32 × Hp} (hf : f178_b63 N x1 x2 x3 h = some (j, s')) (hW : WF 1 h) (hd : 10 ≤ d) (k0 : j = 0 → WF 1 s'.2.2.2.2 → R 1 d 178 6 [some (.ref 0), some (.int s'.1), some (.int s'.2.1), some (.int s'.2.2.1), none, none] [] s'.2.2.2.2 Q) (k1 : j = 1 → WF 1 s'.2.2.2.2 → R 1 d 178 13 [none, none, none, none, some (.int s'.2.2.2.1), none] [] s'.2.2.2.2 Q) (k2 : j = 2 → WF 1 s'.2.2.2.2 → R 1 d 178 64 [none, none, none, none, none, none] [] s'.2.2.2.2 Q) : R 1 d 178 63 [some (.ref 0), some (.int x1), some (.int x2), some (.int x3), none, none] [] h Q := by
  unfold f178_b63 at hf
  refine R_goto (i := 63) rfl ?_
  obtain ⟨hj, hs⟩ := Prod.mk.inj (Option.some.inj hf)
  subst hj
  subst hs
  exact k0 rfl hW
set_option maxRecDepth 100000 in
set_option maxHeartbeats 4000000 in
theorem f178_b58_l {d N : Nat} {x1 : Int32} {x2 : Int32} {t0 : Int32} {h : Hp} {Q : Option Value → Hp → Prop} {j : Nat} {s' : Int32 × Int32 × Int32 × Int32 × Hp} (hf : f178_b58 N x1 x2 t0 h = some (j, s')) (hW : WF 1 h) (hd : 10 ≤ d) (k0 : j = 0 → WF 1 s'.2.2.2.2 → R 1 d 178 6 [some (.ref 0), some (.int s'.1), some (.int s'.2.1), some (.int s'.2.2.1), none, none] [] s'.2.2.2.2 Q) (k1 : j = 1 → WF 1 s'.2.2.2.2 → R 1 d 178 13 [none, none, none, none, some (.int s'.2.2.2.1), none] [] s'.2.2.2.2 Q) (k2 : j = 2 → WF 1 s'.2.2.2.2 → R 1 d 178 64 [none, none, none, none, none, none] [] s'.2.2.2.2 Q) : R 1 d 178 58 [some (.ref 0), some (.int x1), some (.int x2), none, none, none] [.int t0] h Q := by
  obtain ⟨d, rfl⟩ : ∃ z, d = z + 1 := ⟨d - 1, by omega⟩
  unfold f178_b58 at hf
  refine R_istore_n [some (.ref 0), some (.int x1), some (.int x2), some (.int t0), none, none] (i := 58) rfl rfl ?_
  refine R_iload_n (i := 59) rfl rfl ?_
  refine R_ifeq (i := 60) rfl (fun c9 => ?_) (fun c9 => ?_)
  · rw [if_pos c9] at hf
    exact f178_b63_l hf hW hd k0 k1 k2
  · rw [if_neg c9] at hf
    refine R_aload_n (i := 61) rfl rfl ?_
    have zq10 := bind_some hf
    clear hf
    obtain ⟨q10, eq10, hf⟩ := zq10
    refine R_callV (vs := []) (st' := []) hW (i := 62) rfl rfl rfl (Nat.le_of_ble_eq_true rfl) rfl (Nat.le_of_ble_eq_true rfl) rfl (f159_l eq10 hW (hh rfl hd) (fun hW10 => ?_))
    exact f178_b63_l hf hW10 hd k0 k1 k2
set_option maxRecDepth 100000 in
set_option maxHeartbeats 4000000 in
theorem f178_b55_l {d N : Nat} {x1 : Int32} {x2 : Int32} {h : Hp} {Q : Option Value → Hp → Prop} {j : Nat} {s' : Int32 × Int32 × Int32 × Int32 × Hp} (hf : f178_b55 N x1 x2 h = some (j, s')) (hW : WF 1 h) (hd : 10 ≤ d) (k0 : j = 0 → WF 1 s'.2.2.2.2 → R 1 d 178 6 [some (.ref 0), some (.int s'.1), some (.int s'.2.1), some (.int s'.2.2.1), none, none] [] s'.2.2.2.2 Q) (k1 : j = 1 → WF 1 s'.2.2.2.2 → R 1 d 178 13 [none, none, none, none, some (.int s'.2.2.2.1), none] [] s'.2.2.2.2 Q) (k2 : j = 2 → WF 1 s'.2.2.2.2 → R 1 d 178 64 [none, none, none, none, none, none] [] s'.2.2.2.2 Q) : R 1 d 178 55 [some (.ref 0), some (.int x1), some (.int x2), none, none, none] [] h Q := by
  unfold f178_b55 at hf
  refine R_iconst (i := 55) rfl ?_
  refine R_goto (i := 56) rfl ?_
  exact f178_b58_l hf hW hd k0 k1 k2
set_option maxRecDepth 100000 in
set_option maxHeartbeats 4000000 in
theorem f178_b51_l {d N : Nat} {x1 : Int32} {x2 : Int32} {x5 : Int32} {h : Hp} {Q : Option Value → Hp → Prop} {j : Nat} {s' : Int32 × Int32 × Int32 × Int32 × Hp} (hf : f178_b51 N x1 x2 x5 h = some (j, s')) (hW : WF 1 h) (hd : 10 ≤ d) (k0 : j = 0 → WF 1 s'.2.2.2.2 → R 1 d 178 6 [some (.ref 0), some (.int s'.1), some (.int s'.2.1), some (.int s'.2.2.1), none, none] [] s'.2.2.2.2 Q) (k1 : j = 1 → WF 1 s'.2.2.2.2 → R 1 d 178 13 [none, none, none, none, some (.int s'.2.2.2.1), none] [] s'.2.2.2.2 Q) (k2 : j = 2 → WF 1 s'.2.2.2.2 → R 1 d 178 64 [none, none, none, none, none, none] [] s'.2.2.2.2 Q) : R 1 d 178 51 [some (.ref 0), some (.int x1), some (.int x2), none, none, some (.int x5)] [] h Q := by
  unfold f178_b51 at hf
  refine R_iload_n (i := 51) rfl rfl ?_
  refine R_ifne (i := 52) rfl (fun c8 => ?_) (fun c8 => ?_)
  · rw [if_neg c8] at hf
    refine R_weak [some (.ref 0), some (.int x1), some (.int x2), none, none, none] ⟨Or.inr rfl, Or.inr rfl, Or.inr rfl, Or.inr rfl, Or.inr rfl, Or.inl rfl, trivial⟩ ?_
    exact f178_b55_l hf hW hd k0 k1 k2
  · rw [if_pos c8] at hf
    refine R_iload (i := 53) rfl rfl ?_
    refine R_ifeq (i := 54) rfl (fun c11 => ?_) (fun c11 => ?_)
    · rw [if_pos c11] at hf
      refine R_iconst (i := 57) rfl ?_
      refine R_weak [some (.ref 0), some (.int x1), some (.int x2), none, none, none] ⟨Or.inr rfl, Or.inr rfl, Or.inr rfl, Or.inr rfl, Or.inr rfl, Or.inl rfl, trivial⟩ ?_
      exact f178_b58_l hf hW hd k0 k1 k2
    · rw [if_neg c11] at hf
      refine R_weak [some (.ref 0), some (.int x1), some (.int x2), none, none, none] ⟨Or.inr rfl, Or.inr rfl, Or.inr rfl, Or.inr rfl, Or.inr rfl, Or.inl rfl, trivial⟩ ?_
      exact f178_b55_l hf hW hd k0 k1 k2
set_option maxRecDepth 100000 in
set_option maxHeartbeats 4000000 in
theorem f178_b49_l {d N : Nat} {x1 : Int32} {x5 : Int32} {h : Hp} {Q : Option Value → Hp → Prop} {j : Nat} {s' : Int32 × Int32 × Int32 × Int32 × Hp} (hf : f178_b49 N x1 x5 h = some (j, s')) (hW : WF 1 h) (hd : 10 ≤ d) (k0 : j = 0 → WF 1 s'.2.2.2.2 → R 1 d 178 6 [some (.ref 0), some (.int s'.1), some (.int s'.2.1), some (.int s'.2.2.1), none, none] [] s'.2.2.2.2 Q) (k1 : j = 1 → WF 1 s'.2.2.2.2 → R 1 d 178 13 [none, none, none, none, some (.int s'.2.2.2.1), none] [] s'.2.2.2.2 Q) (k2 : j = 2 → WF 1 s'.2.2.2.2 → R 1 d 178 64 [none, none, none, none, none, none] [] s'.2.2.2.2 Q) : R 1 d 178 49 [some (.ref 0), some (.int x1), none, none, none, some (.int x5)] [] h Q := by
  unfold f178_b49 at hf
  refine R_iload (i := 49) rfl rfl ?_
  refine R_istore_n [some (.ref 0), some (.int x1), some (.int x5), none, none, some (.int x5)] (i := 50) rfl rfl ?_
  exact f178_b51_l hf hW hd k0 k1 k2
set_option maxRecDepth 100000 in
set_option maxHeartbeats 4000000 in
theorem f178_b40_l {d N : Nat} {x1 : Int32} {x2 : Int32} {t0 : Int32} {h : Hp} {Q : Option Value → Hp → Prop} {j : Nat} {s' : Int32 × Int32 × Int32 × Int32 × Hp} (hf : f178_b40 N x1 x2 t0 h = some (j, s')) (hW : WF 1 h) (hd : 10 ≤ d) (k0 : j = 0 → WF 1 s'.2.2.2.2 → R 1 d 178 6 [some (.ref 0), some (.int s'.1), some (.int s'.2.1), some (.int s'.2.2.1), none, none] [] s'.2.2.2.2 Q) (k1 : j = 1 → WF 1 s'.2.2.2.2 → R 1 d 178 13 [none, none, none, none, some (.int s'.2.2.2.1), none] [] s'.2.2.2.2 Q) (k2 : j = 2 → WF 1 s'.2.2.2.2 → R 1 d 178 64 [none, none, none, none, none, none] [] s'.2.2.2.2 Q) : R 1 d 178 40 [some (.ref 0), some (.int x1), some (.int x2), none, none, none] [.int t0] h Q := by
  obtain ⟨d, rfl⟩ : ∃ z, d = z + 1 := ⟨d - 1, by omega⟩
  unfold f178_b40 at hf
  refine R_istore [some (.ref 0), some (.int x1), some (.int x2), none, none, some (.int t0)] (i := 40) rfl rfl ?_
  refine R_iload_n (i := 41) rfl rfl ?_
  refine R_ifne (i := 42) rfl (fun c7 => ?_) (fun c7 => ?_)
  · rw [if_neg c7] at hf
    exact f178_b51_l hf hW hd k0 k1 k2
  · rw [if_pos c7] at hf
    refine R_iload_n (i := 43) rfl rfl ?_
    refine R_ifeq (i := 44) rfl (fun c12 => ?_) (fun c12 => ?_)
    · rw [if_pos c12] at hf
      refine R_weak [some (.ref 0), some (.int x1), none, none, none, some (.int t0)] ⟨Or.inr rfl, Or.inr rfl, Or.inl rfl, Or.inr rfl, Or.inr rfl, Or.inr rfl, trivial⟩ ?_
      exact f178_b49_l hf hW hd k0 k1 k2
    · rw [if_neg c12] at hf
      refine R_aload_n (i := 45) rfl rfl ?_
      refine R_bipush (i := 46) rfl ?_
      refine R_iconst (i := 47) rfl ?_
      have zq13 := bind_some hf
      clear hf
      obtain ⟨q13, eq13, hf⟩ := zq13
      refine R_callV (vs := [.int (22 : Int32), .int (0 : Int32)]) (st' := []) hW (i := 48) rfl rfl rfl (Nat.le_of_ble_eq_true rfl) rfl (Nat.le_of_ble_eq_true rfl) rfl (f165_l eq13 hW (hh rfl hd) (fun hW13 => ?_))
      refine R_weak [some (.ref 0), some (.int x1), none, none, none, some (.int t0)] ⟨Or.inr rfl, Or.inr rfl, Or.inl rfl, Or.inr rfl, Or.inr rfl, Or.inr rfl, trivial⟩ ?_
      exact f178_b49_l hf hW13 hd k0 k1 k2
set_option maxRecDepth 100000 in
set_option maxHeartbeats 4000000 in
theorem f178_b39_l {d N : Nat} {x1 : Int32} {x2 : Int32} {h : Hp} {Q : Option Value → Hp → Prop} {j : Nat} {s' : Int32 × Int32 × Int32 × Int32 × Hp} (hf : f178_b39 N x1 x2 h = some (j, s')) (hW : WF 1 h) (hd : 10 ≤ d) (k0 : j = 0 → WF 1 s'.2.2.2.2 → R 1 d 178 6 [some (.ref 0), some (.int s'.1), some (.int s'.2.1), some (.int s'.2.2.1), none, none] [] s'.2.2.2.2 Q) (k1 : j = 1 → WF 1 s'.2.2.2.2 → R 1 d 178 13 [none, none, none, none, some (.int s'.2.2.2.1), none] [] s'.2.2.2.2 Q) (k2 : j = 2 → WF 1 s'.2.2.2.2 → R 1 d 178 64 [none, none, none, none, none, none] [] s'.2.2.2.2 Q) : R 1 d 178 39 [some (.ref 0), some (.int x1), some (.int x2), none, none, none] [] h Q := by
  unfold f178_b39 at hf
  refine R_iconst (i := 39) rfl ?_
  exact f178_b40_l hf hW hd k0 k1 k2
set_option maxRecDepth 100000 in
set_option maxHeartbeats 4000000 in
theorem f178_b21_l {d N : Nat} {x2 : Int32} {h : Hp} {Q : Option Value → Hp → Prop} {j : Nat} {s' : Int32 × Int32 × Int32 × Int32 × Hp} (hf : f178_b21 N x2 h = some (j, s')) (hW : WF 1 h) (hd : 10 ≤ d) (k0 : j = 0 → WF 1 s'.2.2.2.2 → R 1 d 178 6 [some (.ref 0), some (.int s'.1), some (.int s'.2.1), some (.int s'.2.2.1), none, none] [] s'.2.2.2.2 Q) (k1 : j = 1 → WF 1 s'.2.2.2.2 → R 1 d 178 13 [none, none, none, none, some (.int s'.2.2.2.1), none] [] s'.2.2.2.2 Q) (k2 : j = 2 → WF 1 s'.2.2.2.2 → R 1 d 178 64 [none, none, none, none, none, none] [] s'.2.2.2.2 Q) : R 1 d 178 21 [some (.ref 0), none, some (.int x2), none, none, none] [] h Q := by
  obtain ⟨d, rfl⟩ : ∃ z, d = z + 1 := ⟨d - 1, by omega⟩
  unfold f178_b21 at hf
  refine R_aload_n (i := 21) rfl rfl ?_
  refine R_bipush (i := 22) rfl ?_
  refine R_bipush (i := 23) rfl ?_
  refine R_bipush (i := 24) rfl ?_
  refine R_call (vs := [.int (97 : Int32), .int (110 : Int32), .int (100 : Int32)]) (st' := [.ref 0]) (i := 25) rfl (by decide) (by decide) rfl rfl (Nat.le_of_ble_eq_true rfl) rfl (f160_l (hh rfl hd) ?_)
  have zq5 := bind_some hf
  clear hf
  obtain ⟨q5, eq5, hf⟩ := zq5
  refine R_callV (vs := [.long (f160 (97 : Int32) (110 : Int32) (100 : Int32))]) (st' := []) hW (i := 26) rfl rfl rfl (Nat.le_of_ble_eq_true rfl) rfl (Nat.le_of_ble_eq_true rfl) rfl (f164_l eq5 hW (hh rfl hd) ?_)
  refine R_istore_n [some (.ref 0), some (.int q5), some (.int x2), none, none, none] (i := 27) rfl rfl ?_
  refine R_aload_n (i := 28) rfl rfl ?_
  refine R_getI hW (i := 29) rfl rfl (Nat.le_of_ble_eq_true rfl) ?_
  refine R_iconst (i := 30) rfl ?_
  refine R_icmpne (i := 31) rfl (fun c6 => ?_) (fun c6 => ?_)
  · rw [if_neg c6] at hf
    exact f178_b39_l hf hW hd k0 k1 k2
  · rw [if_pos c6] at hf
    refine R_aload_n (i := 32) rfl rfl ?_
    refine R_getL hW (i := 33) rfl rfl (Nat.le_of_ble_eq_true rfl) ?_
    refine R_ldc2 (v := (28530)) (i := 34) rfl (by decide) ?_
    refine R_lcmp (i := 35) rfl ?_
    refine R_ifne (i := 36) rfl (fun c14 => ?_) (fun c14 => ?_)
    · rw [if_neg c14] at hf
      exact f178_b39_l hf hW hd k0 k1 k2
    · rw [if_pos c14] at hf
      refine R_iconst (i := 37) rfl ?_
      refine R_goto (i := 38) rfl ?_
      exact f178_b40_l hf hW hd k0 k1 k2
set_option maxRecDepth 100000 in
set_option maxHeartbeats 4000000 in
theorem f178_l6_l {d N : Nat} {s : Int32 × Int32 × Int32 × Int32 × Hp} {Q : Option Value → Hp → Prop} {j : Nat} {s' : Int32 × Int32 × Int32 × Int32 × Hp} (hf : f178_l6 N s = some (j, s')) (hW : WF 1 s.2.2.2.2) (hd : 10 ≤ d) (k0 : j = 0 → WF 1 s'.2.2.2.2 → R 1 d 178 6 [some (.ref 0), some (.int s'.1), some (.int s'.2.1), some (.int s'.2.2.1), none, none] [] s'.2.2.2.2 Q) (k1 : j = 1 → WF 1 s'.2.2.2.2 → R 1 d 178 13 [none, none, none, none, some (.int s'.2.2.2.1), none] [] s'.2.2.2.2 Q) (k2 : j = 2 → WF 1 s'.2.2.2.2 → R 1 d 178 64 [none, none, none, none, none, none] [] s'.2.2.2.2 Q) : R 1 d 178 6 [some (.ref 0), some (.int s.1), some (.int s.2.1), some (.int s.2.2.1), none, none] [] s.2.2.2.2 Q := by
  obtain ⟨d, rfl⟩ : ∃ z, d = z + 1 := ⟨d - 1, by omega⟩
  unfold f178_l6 at hf
  refine R_iload_n (i := 6) rfl rfl ?_
  refine R_ifeq (i := 7) rfl (fun c1 => ?_) (fun c1 => ?_)
  · rw [if_pos c1] at hf
    obtain ⟨hj, hs⟩ := Prod.mk.inj (Option.some.inj hf)
    subst hj
    subst hs
    refine R_weak [none, none, none, none, none, none] ⟨Or.inl rfl, Or.inl rfl, Or.inl rfl, Or.inl rfl, Or.inr rfl, Or.inr rfl, trivial⟩ ?_
    exact k2 rfl hW
  · rw [if_neg c1] at hf
    refine R_aload_n (i := 8) rfl rfl ?_
    have zq2 := bind_some hf
    clear hf
    obtain ⟨q2, eq2, hf⟩ := zq2
    refine R_callV (vs := []) (st' := []) hW (i := 9) rfl rfl rfl (Nat.le_of_ble_eq_true rfl) rfl (Nat.le_of_ble_eq_true rfl) rfl (f177_l eq2 hW (hh rfl hd) (fun hW2 => ?_))
    refine R_istore [some (.ref 0), some (.int s.1), some (.int s.2.1), some (.int s.2.2.1), some (.int q2.1), none] (i := 10) rfl rfl ?_
    refine R_iload (i := 11) rfl rfl ?_
    refine R_ifeq (i := 12) rfl (fun c3 => ?_) (fun c3 => ?_)
    · rw [if_pos c3] at hf
      refine R_iload_n (i := 15) rfl rfl ?_
      refine R_ifeq (i := 16) rfl (fun c4 => ?_) (fun c4 => ?_)
      · rw [if_pos c4] at hf
        refine R_weak [some (.ref 0), none, some (.int s.2.1), none, none, none] ⟨Or.inr rfl, Or.inl rfl, Or.inr rfl, Or.inl rfl, Or.inl rfl, Or.inr rfl, trivial⟩ ?_
        exact f178_b21_l hf hW2 hd k0 k1 k2
      · rw [if_neg c4] at hf
        refine R_aload_n (i := 17) rfl rfl ?_
        refine R_bipush (i := 18) rfl ?_
        refine R_iconst (i := 19) rfl ?_
        have zq15 := bind_some hf
        clear hf
        obtain ⟨q15, eq15, hf⟩ := zq15
        refine R_callV (vs := [.int (21 : Int32), .int (0 : Int32)]) (st' := []) hW2 (i := 20) rfl rfl rfl (Nat.le_of_ble_eq_true rfl) rfl (Nat.le_of_ble_eq_true rfl) rfl (f165_l eq15 hW2 (hh rfl hd) (fun hW15 => ?_))
        refine R_weak [some (.ref 0), none, some (.int s.2.1), none, none, none] ⟨Or.inr rfl, Or.inl rfl, Or.inr rfl, Or.inl rfl, Or.inl rfl, Or.inr rfl, trivial⟩ ?_
        exact f178_b21_l hf hW15 hd k0 k1 k2
    · rw [if_neg c3] at hf
      obtain ⟨hj, hs⟩ := Prod.mk.inj (Option.some.inj hf)
      subst hj
      subst hs
      refine R_weak [none, none, none, none, some (.int q2.1), none] ⟨Or.inl rfl, Or.inl rfl, Or.inl rfl, Or.inl rfl, Or.inr rfl, Or.inr rfl, trivial⟩ ?_
      exact k1 rfl hW2
set_option maxRecDepth 100000 in
set_option maxHeartbeats 4000000 in
theorem f178_l {d N : Nat} {h : Hp} {Q : Option Value → Hp → Prop} {q : Int32 × Hp} (hf : f178 N h = some q) (hW : WF 1 h) (hd : 10 ≤ d) (kk : WF 1 q.2 → Q (some (.int q.1)) q.2) : R 1 d 178 0 [some (.ref 0), none, none, none, none, none] [] h Q := by
  unfold f178 at hf
  refine R_iconst (i := 0) rfl ?_
  refine R_istore_n [some (.ref 0), some (.int (0 : Int32)), none, none, none, none] (i := 1) rfl rfl ?_
  refine R_iconst (i := 2) rfl ?_
  refine R_istore_n [some (.ref 0), some (.int (0 : Int32)), some (.int (0 : Int32)), none, none, none] (i := 3) rfl rfl ?_
  refine R_iconst (i := 4) rfl ?_
  refine R_istore_n [some (.ref 0), some (.int (0 : Int32)), some (.int (0 : Int32)), some (.int (1 : Int32)), none, none] (i := 5) rfl rfl ?_
  have zq16 := bind_some hf
  clear hf
  obtain ⟨q16, eq16, hf⟩ := zq16
  refine lp_link (P := fun u6 => WF 1 u6.2.2.2.2 → R 1 d 178 6 [some (.ref 0), some (.int u6.1), some (.int u6.2.1), some (.int u6.2.2.1), none, none] [] u6.2.2.2.2 Q) (E := fun e u6 => WF 1 u6.2.2.2.2 → ((e = 0 → R 1 d 178 13 [none, none, none, none, some (.int u6.2.2.2.1), none] [] u6.2.2.2.2 Q) ∧ (e = 1 → R 1 d 178 64 [none, none, none, none, none, none] [] u6.2.2.2.2 Q))) (fun s j s' hb k0 ke hWs => f178_l6_l hb hWs hd k0 (fun z y => (ke 0 z y).1 rfl) (fun z y => (ke 1 z y).2 rfl)) N ((0 : Int32), (0 : Int32), (1 : Int32), 0, h) q16.1 q16.2 eq16 ?_ hW
  refine fun hW16 => ⟨fun z => ?_, fun z => ?_⟩
  · rw [if_pos z] at hf
    refine R_iload (i := 13) rfl rfl ?_
    have hz := Option.some.inj hf
    subst hz
    exact R_iret (i := 14) rfl (kk hW16)
  · rw [if_neg (by rw [z]; decide)] at hf
    refine R_iconst (i := 64) rfl ?_
    have hz := Option.some.inj hf
    subst hz
    exact R_iret (i := 65) rfl (kk hW16)
set_option maxRecDepth 100000 in
set_option maxHeartbeats 4000000 in
theorem f179_l {d N : Nat} {h : Hp} {Q : Option Value → Hp → Prop} {q : Int32} (hf : f179 N h = some q) (hW : WF 1 h) (hd : 2 ≤ d) (kk : Q (some (.int q)) h) : R 1 d 179 0 [some (.ref 0)] [] h Q := by
  obtain ⟨d, rfl⟩ : ∃ z, d = z + 1 := ⟨d - 1, by omega⟩
  unfold f179 at hf
  refine R_aload_n (i := 0) rfl rfl ?_
  refine R_bipush (i := 1) rfl ?_
  refine R_bipush (i := 2) rfl ?_
  refine R_bipush (i := 3) rfl ?_
  refine R_bipush (i := 4) rfl ?_
  refine R_bipush (i := 5) rfl ?_
  refine R_call (vs := [.int (115 : Int32), .int (112 : Int32), .int (101 : Int32), .int (101 : Int32), .int (100 : Int32)]) (st' := [.ref 0]) (i := 6) rfl (by decide) (by decide) rfl rfl (Nat.le_of_ble_eq_true rfl) rfl (f161_l (hh rfl hd) ?_)
  have zq1 := bind_some hf
  clear hf
  obtain ⟨q1, eq1, hf⟩ := zq1
  refine R_callV (vs := [.long (f161 (115 : Int32) (112 : Int32) (101 : Int32) (101 : Int32) (100 : Int32))]) (st' := []) hW (i := 7) rfl rfl rfl (Nat.le_of_ble_eq_true rfl) rfl (Nat.le_of_ble_eq_true rfl) rfl (f164_l eq1 hW (hh rfl hd) ?_)
  refine R_ifeq (i := 8) rfl (fun c2 => ?_) (fun c2 => ?_)
  · rw [if_pos c2] at hf
    refine R_aload_n (i := 11) rfl rfl ?_
    refine R_bipush (i := 12) rfl ?_
    refine R_bipush (i := 13) rfl ?_
    refine R_bipush (i := 14) rfl ?_
    refine R_call (vs := [.int (100 : Int32), .int (114 : Int32), .int (97 : Int32)]) (st' := [.ref 0]) (i := 15) rfl (by decide) (by decide) rfl rfl (Nat.le_of_ble_eq_true rfl) rfl (f160_l (hh rfl hd) ?_)
    refine R_bipush (i := 16) rfl ?_
    refine R_lshl (i := 17) rfl ?_
    refine R_bipush (i := 18) rfl ?_
    refine R_bipush (i := 19) rfl ?_
    refine R_bipush (i := 20) rfl ?_
    refine R_bipush (i := 21) rfl ?_
    refine R_call (vs := [.int (117 : Int32), .int (103 : Int32), .int (104 : Int32), .int (116 : Int32)]) (st' := [.long (lshl (f160 (100 : Int32) (114 : Int32) (97 : Int32)) (32 : Int32)), .ref 0]) (i := 22) rfl (by decide) (by decide) rfl rfl (Nat.le_of_ble_eq_true rfl) rfl (f162_l (hh rfl hd) ?_)
    refine R_lor (i := 23) rfl ?_
    have zq3 := bind_some hf
    clear hf
    obtain ⟨q3, eq3, hf⟩ := zq3
    refine R_callV (vs := [.long ((lshl (f160 (100 : Int32) (114 : Int32) (97 : Int32)) (32 : Int32)) ||| (f162 (117 : Int32) (103 : Int32) (104 : Int32) (116 : Int32)))]) (st' := []) hW (i := 24) rfl rfl rfl (Nat.le_of_ble_eq_true rfl) rfl (Nat.le_of_ble_eq_true rfl) rfl (f164_l eq3 hW (hh rfl hd) ?_)
    refine R_ifeq (i := 25) rfl (fun c4 => ?_) (fun c4 => ?_)
    · rw [if_pos c4] at hf
      refine R_aload_n (i := 28) rfl rfl ?_
      refine R_bipush (i := 29) rfl ?_
      refine R_bipush (i := 30) rfl ?_
      refine R_bipush (i := 31) rfl ?_
      refine R_bipush (i := 32) rfl ?_
      refine R_call (vs := [.int (116 : Int32), .int (105 : Int32), .int (100 : Int32), .int (101 : Int32)]) (st' := [.ref 0]) (i := 33) rfl (by decide) (by decide) rfl rfl (Nat.le_of_ble_eq_true rfl) rfl (f162_l (hh rfl hd) ?_)
      have zq5 := bind_some hf
      clear hf
      obtain ⟨q5, eq5, hf⟩ := zq5
      refine R_callV (vs := [.long (f162 (116 : Int32) (105 : Int32) (100 : Int32) (101 : Int32))]) (st' := []) hW (i := 34) rfl rfl rfl (Nat.le_of_ble_eq_true rfl) rfl (Nat.le_of_ble_eq_true rfl) rfl (f164_l eq5 hW (hh rfl hd) ?_)
      refine R_ifeq (i := 35) rfl (fun c6 => ?_) (fun c6 => ?_)
      · rw [if_pos c6] at hf
        refine R_iconst (i := 38) rfl ?_
        have hz := Option.some.inj hf
        subst hz
        exact R_iret (i := 39) rfl kk
      · rw [if_neg c6] at hf
        refine R_iconst (i := 36) rfl ?_
        refine R_goto (i := 37) rfl ?_
        have hz := Option.some.inj hf
        subst hz
        exact R_iret (i := 39) rfl kk
    · rw [if_neg c4] at hf
      refine R_iconst (i := 26) rfl ?_
      refine R_goto (i := 27) rfl ?_
      have hz := Option.some.inj hf
      subst hz
      exact R_iret (i := 39) rfl kk
  · rw [if_neg c2] at hf
    refine R_iconst (i := 9) rfl ?_
    have hz := Option.some.inj hf
    subst hz
    exact R_iret (i := 10) rfl kk
set_option maxRecDepth 100000 in
set_option maxHeartbeats 4000000 in
theorem f180_b64_l {d N : Nat} {x2 : Int32} {t0 : Int32} {h : Hp} {Q : Option Value → Hp → Prop} {q : Int32 × Hp} (hf : f180_b64 N x2 t0 h = some q) (hW : WF 1 h) (hd : 11 ≤ d) (kk : WF 1 q.2 → Q (some (.int q.1)) q.2) : R 1 d 180 64 [some (.ref 0), none, some (.int x2), none] [.int t0] h Q := by
  obtain ⟨d, rfl⟩ : ∃ z, d = z + 1 := ⟨d - 1, by omega⟩
  unfold f180_b64 at hf
  refine R_istore_n [some (.ref 0), none, some (.int x2), some (.int t0)] (i := 64) rfl rfl ?_
  refine R_iload_n (i := 65) rfl rfl ?_
  refine R_ifeq (i := 66) rfl (fun c15 => ?_) (fun c15 => ?_)
  · rw [if_pos c15] at hf
    refine R_aload_n (i := 69) rfl rfl ?_
    refine R_getF hW (i := 70) rfl rfl (Nat.le_of_ble_eq_true rfl) rfl ?_
    refine R_iload_n (i := 71) rfl rfl ?_
    refine R_iconst (i := 72) rfl ?_
    refine R_iadd (i := 73) rfl ?_
    refine R_aload_n (i := 74) rfl rfl ?_
    refine R_getI hW (i := 75) rfl rfl (Nat.le_of_ble_eq_true rfl) ?_
    have g16 := gd_some hf
    clear hf
    obtain ⟨g16, hf⟩ := g16
    refine R_iastore hW (i := 76) rfl rfl g16 (hg rfl hd) (fun h17 eh17 => ?_)
    replace hf := bnd_some eh17 hf
    have hW17 : WF 1 h17 := by rw [eh17]; exact hW
    refine R_aload_n (i := 77) rfl rfl ?_
    refine R_getF hW17 (i := 78) rfl rfl (Nat.le_of_ble_eq_true rfl) rfl ?_
    refine R_aload_n (i := 79) rfl rfl ?_
    refine R_getI hW17 (i := 80) rfl rfl (Nat.le_of_ble_eq_true rfl) ?_
    refine R_dup2 (i := 81) rfl rfl rfl ?_
    have g18 := gd_some hf
    clear hf
    obtain ⟨g18, hf⟩ := g18
    refine R_iaload hW17 (i := 82) rfl rfl g18 ?_
    refine R_iconst (i := 83) rfl ?_
    refine R_iadd (i := 84) rfl ?_
    have g19 := gd_some hf
    clear hf
    obtain ⟨g19, hf⟩ := g19
    refine R_iastore hW17 (i := 85) rfl rfl g19 (hg rfl hd) (fun h20 eh20 => ?_)
    replace hf := bnd_some eh20 hf
    have hW20 : WF 1 h20 := by rw [eh20]; exact hW17
    refine R_aload_n (i := 86) rfl rfl ?_
    refine R_getI hW20 (i := 87) rfl rfl (Nat.le_of_ble_eq_true rfl) ?_
    refine R_bipush (i := 88) rfl ?_
    refine R_icmpeq (i := 89) rfl (fun c21 => ?_) (fun c21 => ?_)
    · rw [if_pos c21] at hf
      refine R_aload_n (i := 92) rfl rfl ?_
      have zq22 := bind_some hf
      clear hf
      obtain ⟨q22, eq22, hf⟩ := zq22
      refine R_callV (vs := []) (st' := []) hW20 (i := 93) rfl rfl rfl (Nat.le_of_ble_eq_true rfl) rfl (Nat.le_of_ble_eq_true rfl) rfl (f159_l eq22 hW20 (hh rfl hd) (fun hW22 => ?_))
      refine R_iconst (i := 94) rfl ?_
      have hz := Option.some.inj hf
      subst hz
      exact R_iret (i := 95) rfl (kk hW22)
    · rw [if_neg c21] at hf
      refine R_iconst (i := 90) rfl ?_
      have hz := Option.some.inj hf
      subst hz
      exact R_iret (i := 91) rfl (kk hW20)
  · rw [if_neg c15] at hf
    refine R_iload_n (i := 67) rfl rfl ?_
    have hz := Option.some.inj hf
    subst hz
    exact R_iret (i := 68) rfl (kk hW)
set_option maxRecDepth 100000 in
set_option maxHeartbeats 4000000 in
theorem f180_l {d N : Nat} {h : Hp} {Q : Option Value → Hp → Prop} {q : Int32 × Hp} (hf : f180 N h = some q) (hW : WF 1 h) (hd : 11 ≤ d) (kk : WF 1 q.2 → Q (some (.int q.1)) q.2) : R 1 d 180 0 [some (.ref 0), none, none, none] [] h Q := by
  obtain ⟨d, rfl⟩ : ∃ z, d = z + 1 := ⟨d - 1, by omega⟩
  unfold f180 at hf
  refine R_aload_n (i := 0) rfl rfl ?_
  have zq1 := bind_some hf
  clear hf
  obtain ⟨q1, eq1, hf⟩ := zq1
  refine R_callV (vs := []) (st' := []) hW (i := 1) rfl rfl rfl (Nat.le_of_ble_eq_true rfl) rfl (Nat.le_of_ble_eq_true rfl) rfl (f179_l eq1 hW (hh rfl hd) ?_)
  refine R_istore_n [some (.ref 0), some (.int q1), none, none] (i := 2) rfl rfl ?_
  refine R_iload_n (i := 3) rfl rfl ?_
  refine R_ifge (i := 4) rfl (fun c2 => ?_) (fun c2 => ?_)
  · rw [if_pos c2] at hf
    refine R_aload_n (i := 7) rfl rfl ?_
    refine R_getI hW (i := 8) rfl rfl (Nat.le_of_ble_eq_true rfl) ?_
    refine R_iload_n (i := 9) rfl rfl ?_
    refine R_ishr (i := 10) rfl ?_
    refine R_iconst (i := 11) rfl ?_
    refine R_iand (i := 12) rfl ?_
    refine R_iconst (i := 13) rfl ?_
    refine R_icmpne (i := 14) rfl (fun c3 => ?_) (fun c3 => ?_)
    · rw [if_neg c3] at hf
      refine R_aload_n (i := 17) rfl rfl ?_
      refine R_dup (i := 18) rfl rfl ?_
      refine R_getI hW (i := 19) rfl rfl (Nat.le_of_ble_eq_true rfl) ?_
      refine R_iconst (i := 20) rfl ?_
      refine R_iload_n (i := 21) rfl rfl ?_
      refine R_ishl (i := 22) rfl ?_
      refine R_ior (i := 23) rfl ?_
      refine R_putI hW (i := 24) rfl rfl (Nat.le_of_ble_eq_true rfl) (hg rfl hd) (fun h4 eh4 => ?_)
      replace hf := bnd_some eh4 hf
      have hW4 : WF 1 h4 := by rw [eh4]; exact hW
      refine R_aload_n (i := 25) rfl rfl ?_
      refine R_iload_n (i := 26) rfl rfl ?_
      refine R_putI hW4 (i := 27) rfl rfl (Nat.le_of_ble_eq_true rfl) (hg rfl hd) (fun h5 eh5 => ?_)
      replace hf := bnd_some eh5 hf
      have hW5 : WF 1 h5 := by rw [eh5]; exact hW4
      refine R_aload_n (i := 28) rfl rfl ?_
      have zq6 := bind_some hf
      clear hf
      obtain ⟨q6, eq6, hf⟩ := zq6
      refine R_callV (vs := []) (st' := []) hW5 (i := 29) rfl rfl rfl (Nat.le_of_ble_eq_true rfl) rfl (Nat.le_of_ble_eq_true rfl) rfl (f159_l eq6 hW5 (hh rfl hd) (fun hW6 => ?_))
      refine R_aload_n (i := 30) rfl rfl ?_
      refine R_getI hW6 (i := 31) rfl rfl (Nat.le_of_ble_eq_true rfl) ?_
      refine R_iconst (i := 32) rfl ?_
      refine R_iadd (i := 33) rfl ?_
      refine R_iconst (i := 34) rfl ?_
      refine R_aload_n (i := 35) rfl rfl ?_
      refine R_getF hW6 (i := 36) rfl rfl (Nat.le_of_ble_eq_true rfl) rfl ?_
      refine R_aload_n (i := 37) rfl rfl ?_
      refine R_getI hW6 (i := 38) rfl rfl (Nat.le_of_ble_eq_true rfl) ?_
      have g7 := gd_some hf
      clear hf
      obtain ⟨g7, hf⟩ := g7
      refine R_iaload hW6 (i := 39) rfl rfl g7 ?_
      refine R_imul (i := 40) rfl ?_
      refine R_iadd (i := 41) rfl ?_
      refine R_topi (fun v8 e8 => ?_)
      replace hf := bnd_some e8 hf
      refine R_istore_n [some (.ref 0), some (.int q1), some (.int v8), none] (i := 42) rfl rfl ?_
      refine R_aload_n (i := 43) rfl rfl ?_
      refine R_getF hW6 (i := 44) rfl rfl (Nat.le_of_ble_eq_true rfl) rfl ?_
      refine R_iload_n (i := 45) rfl rfl ?_
      refine R_iload_n (i := 46) rfl rfl ?_
      have g9 := gd_some hf
      clear hf
      obtain ⟨g9, hf⟩ := g9
      refine R_iastore hW6 (i := 47) rfl rfl g9 (hg rfl hd) (fun h10 eh10 => ?_)
      replace hf := bnd_some eh10 hf
      have hW10 : WF 1 h10 := by rw [eh10]; exact hW6
      refine R_aload_n (i := 48) rfl rfl ?_
      refine R_getF hW10 (i := 49) rfl rfl (Nat.le_of_ble_eq_true rfl) rfl ?_
      refine R_iload_n (i := 50) rfl rfl ?_
      refine R_iconst (i := 51) rfl ?_
      refine R_iadd (i := 52) rfl ?_
      refine R_aload_n (i := 53) rfl rfl ?_
      refine R_getI hW10 (i := 54) rfl rfl (Nat.le_of_ble_eq_true rfl) ?_
      have g11 := gd_some hf
      clear hf
      obtain ⟨g11, hf⟩ := g11
      refine R_iastore hW10 (i := 55) rfl rfl g11 (hg rfl hd) (fun h12 eh12 => ?_)
      replace hf := bnd_some eh12 hf
      have hW12 : WF 1 h12 := by rw [eh12]; exact hW10
      refine R_iload_n (i := 56) rfl rfl ?_
      refine R_iconst (i := 57) rfl ?_
      refine R_icmpne (i := 58) rfl (fun c13 => ?_) (fun c13 => ?_)
      · rw [if_neg c13] at hf
        refine R_aload_n (i := 62) rfl rfl ?_
        have zq14 := bind_some hf
        clear hf
        obtain ⟨q14, eq14, hf⟩ := zq14
        refine R_callV (vs := []) (st' := []) hW12 (i := 63) rfl rfl rfl (Nat.le_of_ble_eq_true rfl) rfl (Nat.le_of_ble_eq_true rfl) rfl (f175_l eq14 hW12 (hh rfl hd) (fun hW14 => ?_))
        refine R_weak [some (.ref 0), none, some (.int v8), none] ⟨Or.inr rfl, Or.inl rfl, Or.inr rfl, Or.inr rfl, trivial⟩ ?_
        exact f180_b64_l hf hW14 hd kk
      · rw [if_pos c13] at hf
        refine R_aload_n (i := 59) rfl rfl ?_
        have zq23 := bind_some hf
        clear hf
        obtain ⟨q23, eq23, hf⟩ := zq23
        refine R_callV (vs := []) (st' := []) hW12 (i := 60) rfl rfl rfl (Nat.le_of_ble_eq_true rfl) rfl (Nat.le_of_ble_eq_true rfl) rfl (f178_l eq23 hW12 (hh rfl hd) (fun hW23 => ?_))
        refine R_goto (i := 61) rfl ?_
        refine R_weak [some (.ref 0), none, some (.int v8), none] ⟨Or.inr rfl, Or.inl rfl, Or.inr rfl, Or.inr rfl, trivial⟩ ?_
        exact f180_b64_l hf hW23 hd kk
    · rw [if_pos c3] at hf
      refine R_iconst (i := 15) rfl ?_
      have hz := Option.some.inj hf
      subst hz
      exact R_iret (i := 16) rfl (kk hW)
  · rw [if_neg c2] at hf
    refine R_iconst (i := 5) rfl ?_
    have hz := Option.some.inj hf
    subst hz
    exact R_iret (i := 6) rfl (kk hW)
set_option maxRecDepth 100000 in
set_option maxHeartbeats 4000000 in
theorem f181_l28_l {d N : Nat} {s : Int32 × Hp} {Q : Option Value → Hp → Prop} {j : Nat} {s' : Int32 × Hp} (hf : f181_l28 N s = some (j, s')) (hW : WF 1 s.2) (hd : 12 ≤ d) (k0 : j = 0 → WF 1 s'.2 → R 1 d 181 28 [some (.ref 0), none] [] s'.2 Q) (k1 : j = 1 → WF 1 s'.2 → R 1 d 181 36 [none, some (.int s'.1)] [] s'.2 Q) (k2 : j = 2 → WF 1 s'.2 → R 1 d 181 39 [none, none] [] s'.2 Q) : R 1 d 181 28 [some (.ref 0), none] [] s.2 Q := by
  obtain ⟨d, rfl⟩ : ∃ z, d = z + 1 := ⟨d - 1, by omega⟩
  unfold f181_l28 at hf
  refine R_aload_n (i := 28) rfl rfl ?_
  refine R_getI hW (i := 29) rfl rfl (Nat.le_of_ble_eq_true rfl) ?_
  refine R_ifeq (i := 30) rfl (fun c9 => ?_) (fun c9 => ?_)
  · rw [if_pos c9] at hf
    obtain ⟨hj, hs⟩ := Prod.mk.inj (Option.some.inj hf)
    subst hj
    subst hs
    refine R_weak [none, none] ⟨Or.inl rfl, Or.inr rfl, trivial⟩ ?_
    exact k2 rfl hW
  · rw [if_neg c9] at hf
    refine R_aload_n (i := 31) rfl rfl ?_
    have zq10 := bind_some hf
    clear hf
    obtain ⟨q10, eq10, hf⟩ := zq10
    refine R_callV (vs := []) (st' := []) hW (i := 32) rfl rfl rfl (Nat.le_of_ble_eq_true rfl) rfl (Nat.le_of_ble_eq_true rfl) rfl (f180_l eq10 hW (hh rfl hd) (fun hW10 => ?_))
    refine R_istore_n [some (.ref 0), some (.int q10.1)] (i := 33) rfl rfl ?_
    refine R_iload_n (i := 34) rfl rfl ?_
    refine R_ifeq (i := 35) rfl (fun c11 => ?_) (fun c11 => ?_)
    · rw [if_pos c11] at hf
      refine R_goto (i := 38) rfl ?_
      obtain ⟨hj, hs⟩ := Prod.mk.inj (Option.some.inj hf)
      subst hj
      subst hs
      refine R_weak [some (.ref 0), none] ⟨Or.inr rfl, Or.inl rfl, trivial⟩ ?_
      exact k0 rfl hW10
    · rw [if_neg c11] at hf
      obtain ⟨hj, hs⟩ := Prod.mk.inj (Option.some.inj hf)
      subst hj
      subst hs
      refine R_weak [none, some (.int q10.1)] ⟨Or.inl rfl, Or.inr rfl, trivial⟩ ?_
      exact k1 rfl hW10
set_option maxRecDepth 100000 in
set_option maxHeartbeats 4000000 in
theorem f181_l {d N : Nat} {h : Hp} {Q : Option Value → Hp → Prop} {q : Int32 × Hp} (hf : f181 N h = some q) (hW : WF 1 h) (hd : 12 ≤ d) (kk : WF 1 q.2 → Q (some (.int q.1)) q.2) : R 1 d 181 0 [some (.ref 0), none] [] h Q := by
  obtain ⟨d, rfl⟩ : ∃ z, d = z + 1 := ⟨d - 1, by omega⟩
  unfold f181 at hf
  refine R_aload_n (i := 0) rfl rfl ?_
  refine R_sipush (i := 1) rfl ?_
  refine R_aload_n (i := 2) rfl rfl ?_
  refine R_getF hW (i := 3) rfl rfl (Nat.le_of_ble_eq_true rfl) rfl ?_
  refine R_iconst (i := 4) rfl ?_
  refine R_iaload hW (i := 5) rfl rfl (by decide) ?_
  refine R_imul (i := 6) rfl ?_
  refine R_putI hW (i := 7) rfl rfl (Nat.le_of_ble_eq_true rfl) (hg rfl hd) (fun h1 eh1 => ?_)
  replace hf := bnd_some eh1 hf
  have hW1 : WF 1 h1 := by rw [eh1]; exact hW
  refine R_aload_n (i := 8) rfl rfl ?_
  refine R_getF hW1 (i := 9) rfl rfl (Nat.le_of_ble_eq_true rfl) rfl ?_
  refine R_aload_n (i := 10) rfl rfl ?_
  refine R_getI hW1 (i := 11) rfl rfl (Nat.le_of_ble_eq_true rfl) ?_
  refine R_iconst (i := 12) rfl ?_
  have g2 := gd_some hf
  clear hf
  obtain ⟨g2, hf⟩ := g2
  refine R_iastore hW1 (i := 13) rfl rfl g2 (hg rfl hd) (fun h3 eh3 => ?_)
  replace hf := bnd_some eh3 hf
  have hW3 : WF 1 h3 := by rw [eh3]; exact hW1
  refine R_aload_n (i := 14) rfl rfl ?_
  refine R_iconst (i := 15) rfl ?_
  refine R_putI hW3 (i := 16) rfl rfl (Nat.le_of_ble_eq_true rfl) (hg rfl hd) (fun h4 eh4 => ?_)
  replace hf := bnd_some eh4 hf
  have hW4 : WF 1 h4 := by rw [eh4]; exact hW3
  refine R_aload_n (i := 17) rfl rfl ?_
  refine R_iconst (i := 18) rfl ?_
  refine R_putI hW4 (i := 19) rfl rfl (Nat.le_of_ble_eq_true rfl) (hg rfl hd) (fun h5 eh5 => ?_)
  replace hf := bnd_some eh5 hf
  have hW5 : WF 1 h5 := by rw [eh5]; exact hW4
  refine R_aload_n (i := 20) rfl rfl ?_
  refine R_iconst (i := 21) rfl ?_
  refine R_putI hW5 (i := 22) rfl rfl (Nat.le_of_ble_eq_true rfl) (hg rfl hd) (fun h6 eh6 => ?_)
  replace hf := bnd_some eh6 hf
  have hW6 : WF 1 h6 := by rw [eh6]; exact hW5
  refine R_aload_n (i := 23) rfl rfl ?_
  refine R_iconst (i := 24) rfl ?_
  refine R_putI hW6 (i := 25) rfl rfl (Nat.le_of_ble_eq_true rfl) (hg rfl hd) (fun h7 eh7 => ?_)
  replace hf := bnd_some eh7 hf
  have hW7 : WF 1 h7 := by rw [eh7]; exact hW6
  refine R_aload_n (i := 26) rfl rfl ?_
  have zq8 := bind_some hf
  clear hf
  obtain ⟨q8, eq8, hf⟩ := zq8
  refine R_callV (vs := []) (st' := []) hW7 (i := 27) rfl rfl rfl (Nat.le_of_ble_eq_true rfl) rfl (Nat.le_of_ble_eq_true rfl) rfl (f159_l eq8 hW7 (hh rfl hd) (fun hW8 => ?_))
  have zq12 := bind_some hf
  clear hf
  obtain ⟨q12, eq12, hf⟩ := zq12
  refine lp_link (P := fun u28 => WF 1 u28.2 → R 1 (d + 1) 181 28 [some (.ref 0), none] [] u28.2 Q) (E := fun e u28 => WF 1 u28.2 → ((e = 0 → R 1 (d + 1) 181 36 [none, some (.int u28.1)] [] u28.2 Q) ∧ (e = 1 → R 1 (d + 1) 181 39 [none, none] [] u28.2 Q))) (fun s j s' hb k0 ke hWs => f181_l28_l hb hWs hd k0 (fun z y => (ke 0 z y).1 rfl) (fun z y => (ke 1 z y).2 rfl)) N (0, q8) q12.1 q12.2 eq12 ?_ hW8
  refine fun hW12 => ⟨fun z => ?_, fun z => ?_⟩
  · rw [if_pos z] at hf
    refine R_iload_n (i := 36) rfl rfl ?_
    have hz := Option.some.inj hf
    subst hz
    exact R_iret (i := 37) rfl (kk hW12)
  · rw [if_neg (by rw [z]; decide)] at hf
    refine R_iconst (i := 39) rfl ?_
    have hz := Option.some.inj hf
    subst hz
    exact R_iret (i := 40) rfl (kk hW12)
set_option maxRecDepth 100000 in
set_option maxHeartbeats 4000000 in
theorem f182_b20_l {d N : Nat} {t0 : Int32} {h : Hp} {Q : Option Value → Hp → Prop} {q : Int32 × Hp} (hf : f182_b20 N t0 h = some q) (hW : WF 1 h) (hd : 13 ≤ d) (kk : WF 1 q.2 → Q (some (.int q.1)) q.2) : R 1 d 182 20 [some (.ref 0)] [.int t0, .ref 0] h Q := by
  unfold f182_b20 at hf
  refine R_putI hW (i := 20) rfl rfl (Nat.le_of_ble_eq_true rfl) (hg rfl hd) (fun h5 eh5 => ?_)
  replace hf := bnd_some eh5 hf
  have hW5 : WF 1 h5 := by rw [eh5]; exact hW
  refine R_aload_n (i := 21) rfl rfl ?_
  refine R_iconst (i := 22) rfl ?_
  refine R_putI hW5 (i := 23) rfl rfl (Nat.le_of_ble_eq_true rfl) (hg rfl hd) (fun h6 eh6 => ?_)
  replace hf := bnd_some eh6 hf
  have hW6 : WF 1 h6 := by rw [eh6]; exact hW5
  refine R_aload_n (i := 24) rfl rfl ?_
  refine R_getI hW6 (i := 25) rfl rfl (Nat.le_of_ble_eq_true rfl) ?_
  refine R_ifeq (i := 26) rfl (fun c7 => ?_) (fun c7 => ?_)
  · rw [if_pos c7] at hf
    refine R_aload_n (i := 29) rfl rfl ?_
    refine R_getF hW6 (i := 30) rfl rfl (Nat.le_of_ble_eq_true rfl) rfl ?_
    refine R_iconst (i := 31) rfl ?_
    refine R_dup2 (i := 32) rfl rfl rfl ?_
    refine R_iaload hW6 (i := 33) rfl rfl (by decide) ?_
    refine R_iconst (i := 34) rfl ?_
    refine R_iadd (i := 35) rfl ?_
    refine R_iastore hW6 (i := 36) rfl rfl (by decide) (hg rfl hd) (fun h8 eh8 => ?_)
    replace hf := bnd_some eh8 hf
    have hW8 : WF 1 h8 := by rw [eh8]; exact hW6
    refine R_aload_n (i := 37) rfl rfl ?_
    refine R_getF hW8 (i := 38) rfl rfl (Nat.le_of_ble_eq_true rfl) rfl ?_
    refine R_iconst (i := 39) rfl ?_
    refine R_iaload hW8 (i := 40) rfl rfl (by decide) ?_
    refine R_iconst (i := 41) rfl ?_
    refine R_isub (i := 42) rfl ?_
    have hz := Option.some.inj hf
    subst hz
    exact R_iret (i := 43) rfl (kk hW8)
  · rw [if_neg c7] at hf
    refine R_iconst (i := 27) rfl ?_
    have hz := Option.some.inj hf
    subst hz
    exact R_iret (i := 28) rfl (kk hW6)
set_option maxRecDepth 100000 in
set_option maxHeartbeats 4000000 in
theorem f182_l {d N : Nat} {h : Hp} {Q : Option Value → Hp → Prop} {q : Int32 × Hp} (hf : f182 N h = some q) (hW : WF 1 h) (hd : 13 ≤ d) (kk : WF 1 q.2 → Q (some (.int q.1)) q.2) : R 1 d 182 0 [some (.ref 0)] [] h Q := by
  obtain ⟨d, rfl⟩ : ∃ z, d = z + 1 := ⟨d - 1, by omega⟩
  unfold f182 at hf
  refine R_aload_n (i := 0) rfl rfl ?_
  refine R_getF hW (i := 1) rfl rfl (Nat.le_of_ble_eq_true rfl) rfl ?_
  refine R_iconst (i := 2) rfl ?_
  refine R_iaload hW (i := 3) rfl rfl (by decide) ?_
  refine R_iconst (i := 4) rfl ?_
  refine R_icmpne (i := 5) rfl (fun c1 => ?_) (fun c1 => ?_)
  · rw [if_neg c1] at hf
    refine R_aload_n (i := 8) rfl rfl ?_
    refine R_aload_n (i := 9) rfl rfl ?_
    have zq2 := bind_some hf
    clear hf
    obtain ⟨q2, eq2, hf⟩ := zq2
    refine R_callV (vs := []) (st' := [.ref 0]) hW (i := 10) rfl rfl rfl (Nat.le_of_ble_eq_true rfl) rfl (Nat.le_of_ble_eq_true rfl) rfl (f181_l eq2 hW (hh rfl hd) (fun hW2 => ?_))
    refine R_putI hW2 (i := 11) rfl rfl (Nat.le_of_ble_eq_true rfl) (hg rfl hd) (fun h3 eh3 => ?_)
    replace hf := bnd_some eh3 hf
    have hW3 : WF 1 h3 := by rw [eh3]; exact hW2
    refine R_aload_n (i := 12) rfl rfl ?_
    refine R_aload_n (i := 13) rfl rfl ?_
    refine R_getI hW3 (i := 14) rfl rfl (Nat.le_of_ble_eq_true rfl) ?_
    refine R_ifne (i := 15) rfl (fun c4 => ?_) (fun c4 => ?_)
    · rw [if_neg c4] at hf
      refine R_aload_n (i := 18) rfl rfl ?_
      refine R_getI hW3 (i := 19) rfl rfl (Nat.le_of_ble_eq_true rfl) ?_
      exact f182_b20_l hf hW3 hd kk
    · rw [if_pos c4] at hf
      refine R_iconst (i := 16) rfl ?_
      refine R_goto (i := 17) rfl ?_
      exact f182_b20_l hf hW3 hd kk
  · rw [if_pos c1] at hf
    refine R_iconst (i := 6) rfl ?_
    have hz := Option.some.inj hf
    subst hz
    exact R_iret (i := 7) rfl (kk hW)
set_option maxRecDepth 100000 in
set_option maxHeartbeats 4000000 in
theorem f183_l {d N : Nat} {p1 : Int32} {h : Hp} {Q : Option Value → Hp → Prop} {q : Int32} (hf : f183 N p1 h = some q) (hW : WF 1 h) (hd : 0 ≤ d) (kk : Q (some (.int q)) h) : R 1 d 183 0 [some (.ref 0), some (.int p1)] [] h Q := by
  unfold f183 at hf
  refine R_iload_n (i := 0) rfl rfl ?_
  refine R_ifne (i := 1) rfl (fun c1 => ?_) (fun c1 => ?_)
  · rw [if_neg c1] at hf
    refine R_iload_n (i := 5) rfl rfl ?_
    refine R_iconst (i := 6) rfl ?_
    refine R_icmpne (i := 7) rfl (fun c2 => ?_) (fun c2 => ?_)
    · rw [if_neg c2] at hf
      refine R_iconst (i := 11) rfl ?_
      have hz := Option.some.inj hf
      subst hz
      exact R_iret (i := 12) rfl kk
    · rw [if_pos c2] at hf
      refine R_aload_n (i := 8) rfl rfl ?_
      refine R_getI hW (i := 9) rfl rfl (Nat.le_of_ble_eq_true rfl) ?_
      refine R_goto (i := 10) rfl ?_
      have hz := Option.some.inj hf
      subst hz
      exact R_iret (i := 12) rfl kk
  · rw [if_pos c1] at hf
    refine R_aload_n (i := 2) rfl rfl ?_
    refine R_getI hW (i := 3) rfl rfl (Nat.le_of_ble_eq_true rfl) ?_
    refine R_goto (i := 4) rfl ?_
    have hz := Option.some.inj hf
    subst hz
    exact R_iret (i := 12) rfl kk
set_option maxRecDepth 100000 in
set_option maxHeartbeats 4000000 in
theorem f184_l {d N : Nat} {p1 : Int32} {h : Hp} {Q : Option Value → Hp → Prop} {q : Int32 × Hp} (hf : f184 N p1 h = some q) (hW : WF 1 h) (hd : 5 ≤ d) (kk : WF 1 q.2 → Q (some (.int q.1)) q.2) : R 1 d 184 0 [some (.ref 0), some (.int p1)] [] h Q := by
  obtain ⟨d, rfl⟩ : ∃ z, d = z + 1 := ⟨d - 1, by omega⟩
  unfold f184 at hf
  refine R_iload_n (i := 0) rfl rfl ?_
  refine R_iconst (i := 1) rfl ?_
  refine R_aload_n (i := 2) rfl rfl ?_
  refine R_getF hW (i := 3) rfl rfl (Nat.le_of_ble_eq_true rfl) rfl ?_
  refine R_iconst (i := 4) rfl ?_
  refine R_iaload hW (i := 5) rfl rfl (by decide) ?_
  refine R_iconst (i := 6) rfl ?_
  refine R_isub (i := 7) rfl ?_
  refine R_call (vs := [.int p1, .int (-1 : Int32), .int ((hI h 1 (ix (2 : Int32))) - (1 : Int32))]) (st' := []) (i := 8) rfl (by decide) (by decide) rfl rfl (Nat.le_of_ble_eq_true rfl) rfl (f139_l (hh rfl hd) ?_)
  refine R_ifne (i := 9) rfl (fun c1 => ?_) (fun c1 => ?_)
  · rw [if_neg c1] at hf
    refine R_aload_n (i := 12) rfl rfl ?_
    refine R_getF hW (i := 13) rfl rfl (Nat.le_of_ble_eq_true rfl) rfl ?_
    refine R_iconst (i := 14) rfl ?_
    refine R_iload_n (i := 15) rfl rfl ?_
    refine R_iastore hW (i := 16) rfl rfl (by decide) (hg rfl hd) (fun h2 eh2 => ?_)
    replace hf := bnd_some eh2 hf
    have hW2 : WF 1 h2 := by rw [eh2]; exact hW
    refine R_aload_n (i := 17) rfl rfl ?_
    refine R_iconst (i := 18) rfl ?_
    refine R_putZ hW2 (i := 19) rfl rfl (Nat.le_of_ble_eq_true rfl) (by decide) (hg rfl hd) (fun h3 eh3 => ?_)
    replace hf := bnd_some eh3 hf
    have hW3 : WF 1 h3 := by rw [eh3]; exact hW2
    refine R_iconst (i := 20) rfl ?_
    have hz := Option.some.inj hf
    subst hz
    exact R_zret (r := 1) (i := 21) rfl (by decide) (kk hW3)
  · rw [if_pos c1] at hf
    refine R_iconst (i := 10) rfl ?_
    have hz := Option.some.inj hf
    subst hz
    exact R_zret (r := 0) (i := 11) rfl (by decide) (kk hW)
