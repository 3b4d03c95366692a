theorem cls_at : ∀ b, b < 13 → cls[b]? = some (cR b, cT b, clsN b)
  | 0, _ => rfl
  | 1, _ => rfl
  | 2, _ => rfl
  | 3, _ => rfl
  | 4, _ => rfl
  | 5, _ => rfl
  | 6, _ => rfl
  | 7, _ => rfl
  | 8, _ => rfl
  | 9, _ => rfl
  | 10, _ => rfl
  | 11, _ => rfl
  | 12, _ => rfl
  | n + 13, h => absurd h (by omega)
theorem cin0 : ∀ x ∈ u_ws RX0 TX0 14, x ∈ gw := by decide +kernel
theorem cin1 : ∀ x ∈ u_ws RX1 TX1 5, x ∈ gw := by decide +kernel
theorem cin2 : ∀ x ∈ u_ws RX2 TX2 4, x ∈ gw := by decide +kernel
theorem cin3 : ∀ x ∈ u_ws RX3 TX3 10, x ∈ gw := by decide +kernel
theorem cin4 : ∀ x ∈ u_ws RX4 TX4 2, x ∈ gw := by decide +kernel
theorem cin5 : ∀ x ∈ u_ws RX5 TX5 8, x ∈ gw := by decide +kernel
theorem cin6 : ∀ x ∈ u_ws RX6 TX6 5, x ∈ gw := by decide +kernel
theorem cin7 : ∀ x ∈ u_ws RX7 TX7 5, x ∈ gw := by decide +kernel
theorem cin8 : ∀ x ∈ u_ws RX8 TX8 6, x ∈ gw := by decide +kernel
theorem cin9 : ∀ x ∈ u_ws RX9 TX9 7, x ∈ gw := by decide +kernel
theorem cin10 : ∀ x ∈ u_ws RX10 TX10 5, x ∈ gw := by decide +kernel
theorem cin11 : ∀ x ∈ u_ws RX11 TX11 8, x ∈ gw := by decide +kernel
theorem cin12 : ∀ x ∈ u_ws RX12 TX12 33, x ∈ gw := by decide +kernel
theorem cls_in : ∀ b, b < 13 → ∀ x ∈ u_ws (cR b) (cT b) (clsN b), x ∈ gw
  | 0, _ => cin0
  | 1, _ => cin1
  | 2, _ => cin2
  | 3, _ => cin3
  | 4, _ => cin4
  | 5, _ => cin5
  | 6, _ => cin6
  | 7, _ => cin7
  | 8, _ => cin8
  | 9, _ => cin9
  | 10, _ => cin10
  | 11, _ => cin11
  | 12, _ => cin12
  | n + 13, h => absurd h (by omega)
theorem cls_ty : ∀ b, b < 13 → ∀ j, j < clsN b → parseFieldDescriptor ((cT b) j).2.2.1 = some (fT b j)
  | 0, _ => tyX0_ok
  | 1, _ => tyX1_ok
  | 2, _ => tyX2_ok
  | 3, _ => tyX3_ok
  | 4, _ => tyX4_ok
  | 5, _ => tyX5_ok
  | 6, _ => tyX6_ok
  | 7, _ => tyX7_ok
  | 8, _ => tyX8_ok
  | 9, _ => tyX9_ok
  | 10, _ => tyX10_ok
  | 11, _ => tyX11_ok
  | 12, _ => tyX12_ok
  | n + 13, h => absurd h (by omega)
theorem cls_nm : ∀ b, b < 13 → ∀ x, x < clsN b → ∀ z, z < clsN b → x ≠ z → ((cT b) x).2.1 ≠ ((cT b) z).2.1
  | 0, _ => nmX0
  | 1, _ => nmX1
  | 2, _ => nmX2
  | 3, _ => nmX3
  | 4, _ => nmX4
  | 5, _ => nmX5
  | 6, _ => nmX6
  | 7, _ => nmX7
  | 8, _ => nmX8
  | 9, _ => nmX9
  | 10, _ => nmX10
  | 11, _ => nmX11
  | 12, _ => nmX12
  | n + 13, h => absurd h (by omega)
theorem shp_nX : ∀ c, c < 73 → (shpX c).1 < 13 → (shpX c).2 = clsN (shpX c).1 := by decide +kernel
theorem shp_nM : ∀ c, c < 15 → (shpM c).1 < 13 → (shpM c).2 = clsN (shpM c).1 := by decide +kernel
theorem shp_n {w c : Nat} (h : (shp w c).1 < 13) : (shp w c).2 = clsN (shp w c).1 := by
  unfold shp at h ⊢
  cases hw : Nat.beq w 0 with
  | true =>
    rw [hw] at h
    rcases Nat.lt_or_ge c 73 with q | q
    · exact shp_nX c q h
    · rw [cond_true, shpX_cap q] at h; dsimp only at h; omega
  | false =>
    rw [hw] at h
    rcases Nat.lt_or_ge c 15 with q | q
    · exact shp_nM c q h
    · rw [cond_false, shpM_cap q] at h; dsimp only at h; omega
section SG2
variable {l : Launch} {p : Program} {e : Env} {Rm : Room} {s : State} {m : MethodId} {args : Array Value} {below : List Frame} {meth : Method} {c : Code} {H : Heap} {locs : List Loc} {cells slots : Nat} {Q : State → Prop}
variable {M : Pm} {k d i op b c0 : Nat} {a : Int32} {rls : Array Slot} {ls ls' : Lv} {st st' : List Value} {h : Hp}
theorem RC.obj {q : Nat} (hr : RC M h H q) (hb : (shp (pW M) q).1 = b) (hb13 : b < 13) : t_OB (pB M + q) ((pD M).1 b) (clsN b) ((pD M).2 b) H (fv M h q b) := by
  unfold RC at hr
  rw [hb, if_pos (by omega)] at hr
  have := shp_n (w := pW M) (c := q) (by rw [hb]; exact hb13)
  rw [hb] at this
  rw [this] at hr
  exact hr
theorem RC.arr {q kd : Nat} (hr : RC M h H q) (hb : (shp (pW M) q).1 = kd) (hk : 100 ≤ kd) : H[pB M + q]? = some (arrV (pA M kd) (shp (pW M) q).2 (av M h q kd)) := by
  unfold RC at hr
  rw [hb, if_neg (by omega)] at hr
  exact hr
theorem fl_of {j : Nat} {a : Int32} (hf : fl_ k j a b c0 = true) : (Cond.fieldLink (mY k).cls (ix a) (cR b) ((cT b) c0).2.1 ((cT b) c0).2.2.1) ∈ gw ∧ ((cT b) c0).1 = cR b ∧ b < 13 ∧ c0 < clsN b := by
  unfold fl_ at hf
  simp only [Bool.and_eq_true] at hf
  exact ⟨tw_in hf.1.1.1, of_decide_eq_true hf.1.1.2, of_decide_eq_true hf.1.2, of_decide_eq_true hf.2⟩
theorem S_get {q : Nat} {v : Value} (C : Cx M k d p Rm s m args meth c) (hf : fl_ k i a b c0 = true) (dd : decode (mC k) (pcAt k i) = .ok (.getfield (ix a), 3)) (hRl : Rel M h H) (hq : (shp (pW M) q).1 = b) (hl : q < hN h) (hv : fv M h q b c0 = v) (kk : W p l e Rm s m args below meth c H locs cells slots Q (F0 m (pcAt k i + 3) rls (v :: st))) : W p l e Rm s m args below meth c H locs cells slots Q (F0 m (pcAt k i) rls (.ref (ad M q) :: st)) := by
  obtain ⟨hx, hb, hml, hown, hts, hr, hlk, hnm, hE, hfr, hlo⟩ := C
  obtain ⟨f1, f2, f3, f4⟩ := fl_of hf
  rw [ad_lt hRl hl]
  obtain ⟨cell, q1, q2, q3, q4⟩ := (hRl.1 q hl).obj hq f3
  obtain ⟨hSl, hfc, kC, hkC, hkind⟩ := hE.1.1 b _ (cls_at b f3)
  obtain ⟨cf, kf, fi, f, hfi, hsl⟩ := hSl c0 f4
  dsimp only at hfi hfc
  refine W.getf hx hb hown (hts _ f1) (f2 ▸ hfi) (u_facts hfc hkC (u_lays hts (cls_in b f3) f4) hfi).1 q1 (by rw [q3]; exact fun h => by cases h) (v := v) ?_ rfl rfl dd kk
  rw [hsl, q4 c0 f4, hv]
theorem S_hr (hi : ins k i = (op, a, b, c0)) (h1 : 83 < op) (h2 : op < 110) (ck : ckI k i = true) (C : Cx M k d p Rm s m args meth c) (hRl : Rel M h H) (hS : va_S (Own M) s.heap H locs) (hp : hrd (pW M) op a b c0 st h = some st') (kk : W p l e Rm s m args below meth c H locs cells slots Q (F0 m (pcAt k (i + 1)) rls (st'.map (tr M)))) : W p l e Rm s m args below meth c H locs cells slots Q (F0 m (pcAt k i) rls (st.map (tr M))) := by
  have C0 := C
  obtain ⟨hx, hb, hml, hown, hts, hr, hlk, hnm, hE, hfr, hlo⟩ := C
  have dd := ck_d ck
  have nn := ck_n ck
  have ww := ck_w ck
  by_cases o : op = 90
  · subst o
    have X : xin k i = (.getfield (ix a), 3) := by unfold xin; rw [hi]; rfl
    rw [X] at dd nn
    have nn : pcAt k (i + 1) = pcAt k i + 3 := nn
    rw [nn] at kk
    have ww : (fl_ k i a b c0 && (decide (fT b c0 = .int) || decide (fT b c0 = .boolean))) = true := by unfold wok at ww; rw [hi] at ww; exact ww
    rw [Bool.and_eq_true] at ww
    match st, hp with
    | .ref q :: st, hp =>
      have hp : (if (shp (pW M) q).1 = b ∧ q < hN h then some (.int (hI h q c0) :: st) else none) = some st' := hp
      by_cases hq : (shp (pW M) q).1 = b ∧ q < hN h
      · rw [if_pos hq] at hp
        cases hp
        refine S_get C0 ww.1 dd hRl hq.1 hq.2 ?_ kk
        unfold fv
        have w2 := ww.2
        rw [Bool.or_eq_true] at w2
        rcases w2 with w2 | w2
        · rw [of_decide_eq_true w2]; rfl
        · rw [of_decide_eq_true w2]; rfl
      · rw [if_neg hq] at hp; cases hp
  by_cases o : op = 91
  · subst o
    have X : xin k i = (.getfield (ix a), 3) := by unfold xin; rw [hi]; rfl
    rw [X] at dd nn
    have nn : pcAt k (i + 1) = pcAt k i + 3 := nn
    rw [nn] at kk
    have ww : (fl_ k i a b c0 && decide (fT b c0 = .long)) = true := by unfold wok at ww; rw [hi] at ww; exact ww
    rw [Bool.and_eq_true] at ww
    match st, hp with
    | .ref q :: st, hp =>
      have hp : (if (shp (pW M) q).1 = b ∧ q < hN h then some (.long (hL h q c0) :: st) else none) = some st' := hp
      by_cases hq : (shp (pW M) q).1 = b ∧ q < hN h
      · rw [if_pos hq] at hp
        cases hp
        refine S_get C0 ww.1 dd hRl hq.1 hq.2 ?_ kk
        unfold fv
        rw [of_decide_eq_true ww.2]; rfl
      · rw [if_neg hq] at hp; cases hp
  by_cases o : op = 92
  · subst o
    have X : xin k i = (.getfield (ix a), 3) := by unfold xin; rw [hi]; rfl
    rw [X] at dd nn
    have nn : pcAt k (i + 1) = pcAt k i + 3 := nn
    rw [nn] at kk
    have ww : (fl_ k i a b c0 && isRf (fT b c0)) = true := by unfold wok at ww; rw [hi] at ww; exact ww
    rw [Bool.and_eq_true] at ww
    match st, hp with
    | .ref q :: st, hp =>
      have hp : (if (shp (pW M) q).1 = b ∧ q < hN h then some (rv (hR h q c0) :: st) else none) = some st' := hp
      by_cases hq : (shp (pW M) q).1 = b ∧ q < hN h
      · rw [if_pos hq] at hp
        cases hp
        refine S_get C0 ww.1 dd hRl hq.1 hq.2 ?_ kk
        unfold fv
        have w2 := ww.2
        cases hft : fT b c0 with
        | object z => rfl
        | array z => rfl
        | int => rw [hft] at w2; cases w2
        | boolean => rw [hft] at w2; cases w2
        | long => rw [hft] at w2; cases w2
        | _ => first | rfl | (rw [hft] at w2; cases w2)
      · rw [if_neg hq] at hp; cases hp
  by_cases o : op = 93
  · subst o
    have X : xin k i = (.iaload, 1) := by unfold xin; rw [hi]; rfl
    rw [X] at dd nn
    have nn : pcAt k (i + 1) = pcAt k i + 1 := nn
    rw [nn] at kk
    match st, hp with
    | .int x :: .ref q :: st, hp =>
      have hp : (if q = 1200 then (if inb x 16 then some (.int (wth (ix x)) :: st) else none) else (if (shp (pW M) q).1 = 100 ∧ q < hN h ∧ inb x (shp (pW M) q).2 then some (.int (hI h q (ix x)) :: st) else none)) = some st' := hp
      by_cases hw : q = 1200
      · rw [if_pos hw] at hp
        by_cases hin : inb x 16
        · rw [if_pos hin] at hp
          cases hp
          subst hw
          show W p l e Rm s m args below meth c H locs cells slots Q (F0 m (pcAt k i) rls (.int x :: .ref (ad M 1200) :: st.map (tr M)))
          have : ad M 1200 = pK M 200 := rfl
          rw [this]
          exact va_ti hx hb hE.2.2.2.2.1 hS (vp_of hin) rfl dd kk
        · rw [if_neg hin] at hp; cases hp
      rw [if_neg hw] at hp
      by_cases hq : (shp (pW M) q).1 = 100 ∧ q < hN h ∧ inb x (shp (pW M) q).2
      · rw [if_pos hq] at hp
        cases hp
        have hq2 := (hRl.1 q hq.2.1).arr hq.1 (by decide)
        show W p l e Rm s m args below meth c H locs cells slots Q (F0 m (pcAt k i) rls (.int x :: .ref (ad M q) :: st.map (tr M)))
        rw [ad_lt hRl hq.2.1]
        exact W.iald (v := .int (hI h q (ix x))) hx hb hq2 ((hE.1.2 0 _ rfl).1 _ _) (fun z => by cases z) (by rw [arrV_size]; exact vp_of hq.2.2) (by rw [arrV_read _ _ (Nat.not_le.mp fun z => vp_of hq.2.2 (Or.inr z))]; rfl) rfl rfl dd kk
      · rw [if_neg hq] at hp; cases hp
  by_cases o : op = 94
  · subst o
    have X : xin k i = (.baload, 1) := by unfold xin; rw [hi]; rfl
    rw [X] at dd nn
    have nn : pcAt k (i + 1) = pcAt k i + 1 := nn
    rw [nn] at kk
    match st, hp with
    | .int x :: .ref q :: st, hp =>
      have hp : (if (shp (pW M) q).1 = 101 ∧ q < hN h ∧ inb x (shp (pW M) q).2 then some (.int (hI h q (ix x)) :: st) else none) = some st' := hp
      by_cases hq : (shp (pW M) q).1 = 101 ∧ q < hN h ∧ inb x (shp (pW M) q).2
      · rw [if_pos hq] at hp
        cases hp
        have hq2 := (hRl.1 q hq.2.1).arr hq.1 (by decide)
        show W p l e Rm s m args below meth c H locs cells slots Q (F0 m (pcAt k i) rls (.int x :: .ref (ad M q) :: st.map (tr M)))
        rw [ad_lt hRl hq.2.1]
        exact W.bald (v := .int (hI h q (ix x))) hx hb hq2 ((hE.1.2 1 _ rfl).1 _ _) (fun z => by cases z) (by rw [arrV_size]; exact vp_of hq.2.2) (by rw [arrV_read _ _ (Nat.not_le.mp fun z => vp_of hq.2.2 (Or.inr z))]; rfl) rfl rfl dd kk
      · rw [if_neg hq] at hp; cases hp
  by_cases o : op = 95
  · subst o
    have X : xin k i = (.baload, 1) := by unfold xin; rw [hi]; rfl
    rw [X] at dd nn
    have nn : pcAt k (i + 1) = pcAt k i + 1 := nn
    rw [nn] at kk
    match st, hp with
    | .int x :: .ref q :: st, hp =>
      have hp : (if (shp (pW M) q).1 = 102 ∧ q < hN h ∧ inb x (shp (pW M) q).2 then some (.int (hI h q (ix x)) :: st) else none) = some st' := hp
      by_cases hq : (shp (pW M) q).1 = 102 ∧ q < hN h ∧ inb x (shp (pW M) q).2
      · rw [if_pos hq] at hp
        cases hp
        have hq2 := (hRl.1 q hq.2.1).arr hq.1 (by decide)
        show W p l e Rm s m args below meth c H locs cells slots Q (F0 m (pcAt k i) rls (.int x :: .ref (ad M q) :: st.map (tr M)))
        rw [ad_lt hRl hq.2.1]
        exact W.zald (v := .int (hI h q (ix x))) hx hb hq2 ((hE.1.2 2 _ rfl).1 _ _) (fun z => by cases z) (by rw [arrV_size]; exact vp_of hq.2.2) (by rw [arrV_read _ _ (Nat.not_le.mp fun z => vp_of hq.2.2 (Or.inr z))]; rfl) rfl rfl dd kk
      · rw [if_neg hq] at hp; cases hp
  by_cases o : op = 96
  · subst o
    have X : xin k i = (.laload, 1) := by unfold xin; rw [hi]; rfl
    rw [X] at dd nn
    have nn : pcAt k (i + 1) = pcAt k i + 1 := nn
    rw [nn] at kk
    match st, hp with
    | .int x :: .ref q :: st, hp =>
      have hp : (if (shp (pW M) q).1 = 103 ∧ q < hN h ∧ inb x (shp (pW M) q).2 then some (.long (hL h q (ix x)) :: st) else none) = some st' := hp
      by_cases hq : (shp (pW M) q).1 = 103 ∧ q < hN h ∧ inb x (shp (pW M) q).2
      · rw [if_pos hq] at hp
        cases hp
        have hq2 := (hRl.1 q hq.2.1).arr hq.1 (by decide)
        show W p l e Rm s m args below meth c H locs cells slots Q (F0 m (pcAt k i) rls (.int x :: .ref (ad M q) :: st.map (tr M)))
        rw [ad_lt hRl hq.2.1]
        exact W.lald (v := .long (hL h q (ix x))) hx hb hq2 ((hE.1.2 3 _ rfl).1 _ _) (fun z => by cases z) (by rw [arrV_size]; exact vp_of hq.2.2) (by rw [arrV_read _ _ (Nat.not_le.mp fun z => vp_of hq.2.2 (Or.inr z))]; rfl) rfl rfl dd kk
      · rw [if_neg hq] at hp; cases hp
  by_cases o : op = 97
  · subst o
    have X : xin k i = (.aaload, 1) := by unfold xin; rw [hi]; rfl
    rw [X] at dd nn
    have nn : pcAt k (i + 1) = pcAt k i + 1 := nn
    rw [nn] at kk
    match st, hp with
    | .int x :: .ref q :: st, hp =>
      have hp : (if (shp (pW M) q).1 = 104 ∧ q < hN h ∧ inb x (shp (pW M) q).2 then some (rv (hR h q (ix x)) :: st) else none) = some st' := hp
      by_cases hq : (shp (pW M) q).1 = 104 ∧ q < hN h ∧ inb x (shp (pW M) q).2
      · rw [if_pos hq] at hp
        cases hp
        have hq2 := (hRl.1 q hq.2.1).arr hq.1 (by decide)
        show W p l e Rm s m args below meth c H locs cells slots Q (F0 m (pcAt k i) rls (.int x :: .ref (ad M q) :: st.map (tr M)))
        rw [ad_lt hRl hq.2.1]
        exact W.aald (ty := .object "ShipUnstopped$Text") (v := tr M (rv (hR h q (ix x)))) hx hb hq2 ((hE.1.2 4 _ rfl).1 _ _) rfl (fun z => by cases z) (by rw [arrV_size]; exact vp_of hq.2.2) (by rw [arrV_read _ _ (Nat.not_le.mp fun z => vp_of hq.2.2 (Or.inr z))]; rfl) rfl rfl dd kk
      · rw [if_neg hq] at hp; cases hp
  by_cases o : op = 98
  · subst o
    have X : xin k i = (.arraylength, 1) := by unfold xin; rw [hi]; rfl
    rw [X] at dd nn
    have nn : pcAt k (i + 1) = pcAt k i + 1 := nn
    rw [nn] at kk
    match st, hp with
    | .ref q :: st, hp =>
      have hp : (if (shp (pW M) q).1 = 100 ∧ q < hN h then some (.int (Int32.ofNat (shp (pW M) q).2) :: st) else none) = some st' := hp
      by_cases hq : (shp (pW M) q).1 = 100 ∧ q < hN h
      · rw [if_pos hq] at hp
        cases hp
        have hq2 := (hRl.1 q hq.2).arr hq.1 (by decide)
        show W p l e Rm s m args below meth c H locs cells slots Q (F0 m (pcAt k i) rls (.ref (ad M q) :: st.map (tr M)))
        rw [ad_lt hRl hq.2]
        exact W.alen hx hb hq2 ((hE.1.2 0 _ rfl).1 _ _) (by rw [arrV_size]) rfl rfl dd kk
      · rw [if_neg hq] at hp; cases hp
  by_cases o : op = 99
  · subst o
    have X : xin k i = (.getstatic b, 3) := by unfold xin; rw [hi]; rfl
    rw [X] at dd nn
    have nn : pcAt k (i + 1) = pcAt k i + 3 := nn
    rw [nn] at kk
    have ww : (decide ((mY k).cls = "ShipUnstopped$Chart") && decide (b = 179)) = true := by unfold wok at ww; rw [hi] at ww; exact ww
    rw [Bool.and_eq_true] at ww
    have hp : some (.ref 1200 :: st) = some st' := hp
    cases hp
    have w1 := of_decide_eq_true ww.1
    have w2 := of_decide_eq_true ww.2
    subst w2
    rw [w1] at hown
    exact va_getsN hx hb hE.2.2.2.1 hS hown (va_Nw.use rfl hE.2.2.1) (fun _ z => z) dd kk
  by_cases o : op = 100
  · subst o
    have X : xin k i = (.ldc b, 2) := by unfold xin; rw [hi]; rfl
    rw [X] at dd nn
    have nn : pcAt k (i + 1) = pcAt k i + 2 := nn
    rw [nn] at kk
    have ww : (decide ((mY k).cls = "ShipUnstopped$Tape") && decide (ix a < 14) && decide ((strK[ix a]?).map (·.1) = some b)) = true := by unfold wok at ww; rw [hi] at ww; exact ww
    simp only [Bool.and_eq_true] at ww
    have hp : some (.ref (1000 + ix a) :: st) = some st' := hp
    cases hp
    have w1 := of_decide_eq_true ww.1.1
    have w3 := of_decide_eq_true ww.2
    rw [w1] at hown
    cases hsk : strK[ix a]? with
    | none => rw [hsk] at w3; cases w3
    | some q =>
      rw [hsk] at w3
      cases w3
      have e1 : tr M (.ref (1000 + ix a)) = .ref (pK M (ix a)) := by
        show Value.ref (ad M (1000 + ix a)) = _
        unfold ad
        rw [if_neg (by omega), Nat.add_sub_cancel_left]
      refine va_ldcS hx hb hown (hE.2.2.2.2.2.1 (ix a) q hsk) dd ?_
      rw [← e1]
      exact kk
  exfalso
  have := ck_v hi ck
  omega
end SG2
