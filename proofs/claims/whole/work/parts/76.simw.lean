section SG3
variable {l : Launch} {p : Program} {e : Env} {Rm : Room} {s : State} {m : MethodId} {args : Array Value} {below : List Frame} {meth : Method} {c : Code} {H : Heap} {locs : List Loc} {cells slots : Nat} {Q : State → Prop}
variable {M : Pm} {k d i op b c0 : Nat} {a : Int32} {rls : Array Slot} {ls ls' : Lv} {st st' : List Value} {h h1 : Hp}
theorem S_put {q : Nat} {v : Value} (C : Cx M k d p Rm s m args meth c) (hf : fl_ k i a b c0 = true) (hfi : fin_ k b c0 = true) (dd : decode (mC k) (pcAt k i) = .ok (.putfield (ix a), 3)) (hRl : Rel M h H) (hS : va_S (Own M) s.heap H locs) (hq : (shp (pW M) q).1 = b) (hl : q < hN h) (hnr : narrow (fT b c0) v = v) (hft : fits (fT b c0) v = true) (hn : hN h1 = hN h) (ho : ∀ c', c' ≠ q → hI h1 c' = hI h c' ∧ hL h1 c' = hL h c' ∧ hR h1 c' = hR h c') (hv : ∀ j, j < clsN b → updV (fv M h q b) c0 v j = fv M h1 q b j) (kk : ∀ (H1 : Heap) (locs1 : List Loc), Rel M h1 H1 → va_S (Own M) s.heap H1 locs1 → W p l e Rm s m args below meth c H1 locs1 cells slots Q (F0 m (pcAt k i + 3) rls (st))) : W p l e Rm s m args below meth c H locs cells slots Q (F0 m (pcAt k i) rls (v :: .ref (ad M q) :: st)) := by
  obtain ⟨hx, hb, hml, hown, hts, hr, hlk, hnm, hE, hfr, hlo⟩ := C
  obtain ⟨f1, f2, f3, f4⟩ := fl_of hf
  rw [ad_lt hRl hl]
  have hob := (hRl.1 q hl).obj hq f3
  obtain ⟨cell, q1, q2, q3, q4⟩ := hob
  have hap := va_apart (own := (mY k).cls) hts (cls_in b f3) (fT b) (cls_ty b f3) (cls_nm b f3) hE.1 (cls_at b f3)
  obtain ⟨hSl, hfc, kC, hkC, hkind⟩ := hE.1.1 b _ (cls_at b f3)
  obtain ⟨cf, kf, fi, f, hfi2, hsl⟩ := hSl c0 f4
  dsimp only at hfi2 hfc
  have hst := (u_facts hfc hkC (u_lays hts (cls_in b f3) f4) hfi2).1
  have hlay := hts _ (cls_in b f3 _ (u_in_lay f4))
  have fin : ∀ (H1 : Heap) (sl : Nat), H1[pB M + q]? = some (cell.setSlot ((pD M).2 b c0) v) → H1.size = H.size → (∀ z, z ≠ pB M + q → H1[z]? = H[z]?) → W p l e Rm s m args below meth c H1 (locs ++ [⟨pB M + q, sl⟩]) cells slots Q (F0 m (pcAt k i + 3) rls st) := by
    intro H1 sl e1 e2 e3
    refine kk H1 _ (hRl.upd hn e2 e3 ho ?_) (hS.put e2 e3 (hRl.own hl))
    unfold RC
    rw [hq, if_pos (by omega)]
    have := shp_n (w := pW M) (c := q) (by rw [hq]; exact f3)
    rw [hq] at this
    rw [this]
    exact t_OB.to (V := updV (fv M h q b) c0 v) ⟨_, e1, q2, q3, t_set q4 hap f4 v⟩ hv
  unfold u_lay at hlay
  unfold fin_ at hfi
  by_cases hF : ((cT b) c0).2.2.2 = true
  · rw [if_pos hF] at hlay
    rw [if_pos hF, Bool.and_eq_true] at hfi
    have hin := of_decide_eq_true hfi.1
    have hce := of_decide_eq_true hfi.2
    have hcf : m.cls = cf := by
      obtain ⟨_, _, c', _, _, _, -, -, hf', -, -, -, hown2, -⟩ := Cond.laysFinal_spec hlay
      have e1 : c' = cf := by have := hfi2.symm.trans hf'; simp at this; exact this.1.symm
      rw [f2, ← hce] at hown2
      rw [← e1]; exact Option.some.inj (hown.symm.trans hown2)
    have h6 := u_fits hfc hkC hkind (Or.inr hlay) hfi2 (cls_ty b f3 c0 f4) hnr hft
    refine W.putFinK hx hb hown (hts _ f1) (f2 ▸ hfi2) hst hcf (hnm.trans hin) (by rw [q2]; exact h6) q1 q3 (by rw [hsl]; exact k2_hasslot (q4 c0 f4)) rfl rfl dd fun H' e1 e2 e3 => ?_
    rw [hsl] at e1 ⊢
    exact fin H' _ e1 e2 e3
  · rw [if_neg hF] at hlay
    have h6 := u_store hfc hkC hkind hlay hfi2 (cls_ty b f3 c0 f4) hnr hft
    refine W.putK hx hb (f := f) ⟨hown, hts _ f1, ⟨_, _, _, f2 ▸ hfi2⟩, hst⟩ (by rw [q2]; exact h6) q1 q3 (by rw [hsl]; exact k2_hasslot (q4 c0 f4)) rfl rfl dd fun H' e1 e2 e3 => ?_
    rw [hsl] at e1 ⊢
    exact fin H' _ e1 e2 e3
theorem fv_uI {q j : Nat} {x : Int32} (ht : fT b c0 = .int ∨ fT b c0 = .boolean) : updV (fv M h q b) c0 (.int x) j = fv M (uI h q c0 x) q b j := by
  unfold updV fv
  by_cases e : j = c0
  · subst e
    rw [if_pos rfl]
    have : hI (uI h q j x) q j = x := by show up2 h.1 q j x q j = x; rw [up2_s, if_pos rfl]
    rcases ht with z | z <;> rw [z] <;> dsimp only <;> rw [this]
  · rw [if_neg e]
    have : hI (uI h q c0 x) q j = hI h q j := by show up2 h.1 q c0 x q j = _; rw [up2_s, if_neg e]; rfl
    rw [this]
    rfl
theorem fv_uL {q j : Nat} {x : Int64} (ht : fT b c0 = .long) : updV (fv M h q b) c0 (.long x) j = fv M (uL h q c0 x) q b j := by
  unfold updV fv
  by_cases e : j = c0
  · subst e
    rw [if_pos rfl]
    have : hL (uL h q j x) q j = x := by show up2 h.2.1 q j x q j = x; rw [up2_s, if_pos rfl]
    rw [ht]; dsimp only; rw [this]
  · rw [if_neg e]
    have : hL (uL h q c0 x) q j = hL h q j := by show up2 h.2.1 q c0 x q j = _; rw [up2_s, if_neg e]; rfl
    rw [this]
    rfl
theorem fv_uR {q j r : Nat} (ht : isRf (fT b c0) = true) : updV (fv M h q b) c0 (.ref (ad M r)) j = fv M (uR h q c0 (some r)) q b j := by
  unfold updV fv
  by_cases e : j = c0
  · subst e
    rw [if_pos rfl]
    have : hR (uR h q j (some r)) q j = some r := by show up2 h.2.2.1 q j (some r) q j = some r; rw [up2_s, if_pos rfl]
    cases hft : fT b j with
    | int => rw [hft] at ht; cases ht
    | boolean => rw [hft] at ht; cases ht
    | long => rw [hft] at ht; cases ht
    | _ => dsimp only; rw [this]; rfl
  · rw [if_neg e]
    have : hR (uR h q c0 (some r)) q j = hR h q j := by show up2 h.2.2.1 q c0 (some r) q j = _; rw [up2_s, if_neg e]; rfl
    rw [this]
    rfl
theorem rf_fit {t : FieldType} {x : Nat} (ht : isRf t = true) : narrow t (.ref x) = .ref x ∧ fits t (.ref x) = true := by
  cases t <;> first | exact ⟨rfl, rfl⟩ | cases ht
theorem S_hw (hi : ins k i = (op, a, b, c0)) (h1' : 109 < op) (h2 : op < 120) (ck : ckI k i = true) (C : Cx M k d p Rm s m args meth c) (hrl : rls.size = mL k) (hd5 : 5 ≤ d) (hRl : Rel M h H) (hS : va_S (Own M) s.heap H locs) (hp : hwr (pW M) op b c0 st h = some (st', h1)) (kk : ∀ (H1 : Heap) (locs1 : List Loc), Rel M h1 H1 → va_S (Own M) s.heap H1 locs1 → W p l e Rm s m args below meth c H1 locs1 cells slots Q (F0 m (pcAt k (i + 1)) rls (st'.map (tr M)))) : W p l e Rm s m args below meth c H locs cells slots Q (F0 m (pcAt k i) rls (st.map (tr M))) := by
  have C0 := C
  obtain ⟨hx, hb, hml, hown, hts, hr, hlk, hnm, hE, hfr, hlo⟩ := C
  have dd := ck_d ck
  have nn := ck_n ck
  have ww := ck_w ck
  by_cases o : op = 110
  · subst o
    have X : xin k i = (.putfield (ix a), 3) := by unfold xin; rw [hi]; rfl
    rw [X] at dd nn
    have nn : pcAt k (i + 1) = pcAt k i + 3 := nn
    rw [nn] at kk
    have ww : (fl_ k i a b c0 && decide (fT b c0 = .int) && fin_ k b c0) = true := by unfold wok at ww; rw [hi] at ww; exact ww
    simp only [Bool.and_eq_true] at ww
    match st, hp with
    | .int v :: .ref q :: st, hp =>
      have hp : (if (shp (pW M) q).1 = b ∧ q < hN h then some (st, uI h q c0 v) else none) = some (st', h1) := hp
      by_cases hq : (shp (pW M) q).1 = b ∧ q < hN h
      · rw [if_pos hq] at hp
        have hz := Prod.mk.inj (Option.some.inj hp)
        have hz1 := hz.1
        have hz2 := hz.2
        subst hz1
        subst hz2
        exact S_put (h1 := uI h q c0 v) (v := .int v) C0 ww.1.1 ww.2 dd hRl hS hq.1 hq.2 (by rw [of_decide_eq_true ww.1.2]; rfl) (by rw [of_decide_eq_true ww.1.2]; rfl) rfl uI_o (fun j _ => fv_uI (Or.inl (of_decide_eq_true ww.1.2))) kk
      · rw [if_neg hq] at hp; cases hp
  by_cases o : op = 111
  · subst o
    have X : xin k i = (.putfield (ix a), 3) := by unfold xin; rw [hi]; rfl
    rw [X] at dd nn
    have nn : pcAt k (i + 1) = pcAt k i + 3 := nn
    rw [nn] at kk
    have ww : (fl_ k i a b c0 && decide (fT b c0 = .boolean) && fin_ k b c0) = true := by unfold wok at ww; rw [hi] at ww; exact ww
    simp only [Bool.and_eq_true] at ww
    match st, hp with
    | .int v :: .ref q :: st, hp =>
      have hp : (if (shp (pW M) q).1 = b ∧ q < hN h ∧ (v = 0 ∨ v = 1) then some (st, uI h q c0 v) else none) = some (st', h1) := hp
      by_cases hq : (shp (pW M) q).1 = b ∧ q < hN h ∧ (v = 0 ∨ v = 1)
      · rw [if_pos hq] at hp
        have hz := Prod.mk.inj (Option.some.inj hp)
        have hz1 := hz.1
        have hz2 := hz.2
        subst hz1
        subst hz2
        exact S_put (h1 := uI h q c0 v) (v := .int v) C0 ww.1.1 ww.2 dd hRl hS hq.1 hq.2.1 (by rw [of_decide_eq_true ww.1.2]; rcases hq.2.2 with z | z <;> rw [z] <;> rfl) (by rw [of_decide_eq_true ww.1.2]; rcases hq.2.2 with z | z <;> rw [z] <;> rfl) rfl uI_o (fun j _ => fv_uI (Or.inr (of_decide_eq_true ww.1.2))) kk
      · rw [if_neg hq] at hp; cases hp
  by_cases o : op = 112
  · subst o
    have X : xin k i = (.putfield (ix a), 3) := by unfold xin; rw [hi]; rfl
    rw [X] at dd nn
    have nn : pcAt k (i + 1) = pcAt k i + 3 := nn
    rw [nn] at kk
    have ww : (fl_ k i a b c0 && decide (fT b c0 = .long) && fin_ k b c0) = true := by unfold wok at ww; rw [hi] at ww; exact ww
    simp only [Bool.and_eq_true] at ww
    match st, hp with
    | .long v :: .ref q :: st, hp =>
      have hp : (if (shp (pW M) q).1 = b ∧ q < hN h then some (st, uL h q c0 v) else none) = some (st', h1) := hp
      by_cases hq : (shp (pW M) q).1 = b ∧ q < hN h
      · rw [if_pos hq] at hp
        have hz := Prod.mk.inj (Option.some.inj hp)
        have hz1 := hz.1
        have hz2 := hz.2
        subst hz1
        subst hz2
        exact S_put (h1 := uL h q c0 v) (v := .long v) C0 ww.1.1 ww.2 dd hRl hS hq.1 hq.2 (by rw [of_decide_eq_true ww.1.2]; rfl) (by rw [of_decide_eq_true ww.1.2]; rfl) rfl uL_o (fun j _ => fv_uL (of_decide_eq_true ww.1.2)) kk
      · rw [if_neg hq] at hp; cases hp
  by_cases o : op = 113
  · subst o
    have X : xin k i = (.putfield (ix a), 3) := by unfold xin; rw [hi]; rfl
    rw [X] at dd nn
    have nn : pcAt k (i + 1) = pcAt k i + 3 := nn
    rw [nn] at kk
    have ww : (fl_ k i a b c0 && isRf (fT b c0) && fin_ k b c0) = true := by unfold wok at ww; rw [hi] at ww; exact ww
    simp only [Bool.and_eq_true] at ww
    match st, hp with
    | .ref v :: .ref q :: st, hp =>
      have hp : (if (shp (pW M) q).1 = b ∧ q < hN h ∧ (srf (pW M) q c0 = none ∨ srf (pW M) q c0 = some v) then some (st, uR h q c0 (some v)) else none) = some (st', h1) := hp
      by_cases hq : (shp (pW M) q).1 = b ∧ q < hN h ∧ (srf (pW M) q c0 = none ∨ srf (pW M) q c0 = some v)
      · rw [if_pos hq] at hp
        have hz := Prod.mk.inj (Option.some.inj hp)
        have hz1 := hz.1
        have hz2 := hz.2
        subst hz1
        subst hz2
        exact S_put (h1 := uR h q c0 (some v)) (v := .ref (ad M v)) C0 ww.1.1 ww.2 dd hRl hS hq.1 hq.2.1 (rf_fit ww.1.2).1 (rf_fit ww.1.2).2 rfl uR_o (fun j _ => fv_uR ww.1.2) kk
      · rw [if_neg hq] at hp; cases hp
  by_cases o : op = 114
  · subst o
    have X : xin k i = (.iastore, 1) := by unfold xin; rw [hi]; rfl
    rw [X] at dd nn
    have nn : pcAt k (i + 1) = pcAt k i + 1 := nn
    rw [nn] at kk
    match st, hp with
    | .int v :: .int x :: .ref q :: st, hp =>
      have hp : (if (shp (pW M) q).1 = 100 ∧ q < hN h ∧ inb x (shp (pW M) q).2 then some (st, uI h q (ix x) v) else none) = some (st', h1) := hp
      by_cases hq : (shp (pW M) q).1 = 100 ∧ q < hN h ∧ inb x (shp (pW M) q).2
      · rw [if_pos hq] at hp
        have hz := Prod.mk.inj (Option.some.inj hp)
        have hz1 := hz.1
        have hz2 := hz.2
        subst hz1
        subst hz2
        have hq2 := (hRl.1 q hq.2.1).arr hq.1 (by decide)
        show W p l e Rm s m args below meth c H locs cells slots Q (F0 m (pcAt k i) rls (.int v :: .int x :: .ref (ad M q) :: st.map (tr M)))
        rw [ad_lt hRl hq.2.1]
        refine W.iast hx hb hq2 ((hE.1.2 0 _ rfl).1 _ _) (fun z => by cases z) (by rw [arrV_size]; exact vp_of hq.2.2) rfl rfl dd fun H1 e1 e2 e3 => ?_
        refine kk H1 _ (hRl.upd (h' := uI h q (ix x) v) rfl e2 e3 uI_o ?_) (hS.put e2 e3 (hRl.own hq.2.1))
        unfold RC
        rw [hq.1, if_neg (by decide), e1, arrV_store]
        congr 2
        funext j
        show (if j = ix x then .int v else av M h q 100 j) = .int (up2 h.1 q (ix x) v q j)
        rw [up2_s]
        by_cases e : j = ix x
        · rw [if_pos e, if_pos e]
        · rw [if_neg e, if_neg e]; rfl
      · rw [if_neg hq] at hp; cases hp
  by_cases o : op = 115
  · subst o
    have X : xin k i = (.bastore, 1) := by unfold xin; rw [hi]; rfl
    rw [X] at dd nn
    have nn : pcAt k (i + 1) = pcAt k i + 1 := nn
    rw [nn] at kk
    match st, hp with
    | .int v :: .int x :: .ref q :: st, hp =>
      have hp : (if (shp (pW M) q).1 = 101 ∧ q < hN h ∧ inb x (shp (pW M) q).2 then some (st, uI h q (ix x) v.toInt8.toInt32) else none) = some (st', h1) := hp
      by_cases hq : (shp (pW M) q).1 = 101 ∧ q < hN h ∧ inb x (shp (pW M) q).2
      · rw [if_pos hq] at hp
        have hz := Prod.mk.inj (Option.some.inj hp)
        have hz1 := hz.1
        have hz2 := hz.2
        subst hz1
        subst hz2
        have hq2 := (hRl.1 q hq.2.1).arr hq.1 (by decide)
        show W p l e Rm s m args below meth c H locs cells slots Q (F0 m (pcAt k i) rls (.int v :: .int x :: .ref (ad M q) :: st.map (tr M)))
        rw [ad_lt hRl hq.2.1]
        refine W.bast hx hb hq2 ((hE.1.2 1 _ rfl).1 _ _) (fun z => by cases z) (by rw [arrV_size]; exact vp_of hq.2.2) rfl rfl dd fun H1 e1 e2 e3 => ?_
        refine kk H1 _ (hRl.upd (h' := uI h q (ix x) v.toInt8.toInt32) rfl e2 e3 uI_o ?_) (hS.put e2 e3 (hRl.own hq.2.1))
        unfold RC
        rw [hq.1, if_neg (by decide), e1, arrV_store]
        congr 2
        funext j
        show (if j = ix x then .int v.toInt8.toInt32 else av M h q 101 j) = .int (up2 h.1 q (ix x) v.toInt8.toInt32 q j)
        rw [up2_s]
        by_cases e : j = ix x
        · rw [if_pos e, if_pos e]
        · rw [if_neg e, if_neg e]; rfl
      · rw [if_neg hq] at hp; cases hp
  by_cases o : op = 116
  · subst o
    have X : xin k i = (.bastore, 1) := by unfold xin; rw [hi]; rfl
    rw [X] at dd nn
    have nn : pcAt k (i + 1) = pcAt k i + 1 := nn
    rw [nn] at kk
    match st, hp with
    | .int v :: .int x :: .ref q :: st, hp =>
      have hp : (if (shp (pW M) q).1 = 102 ∧ q < hN h ∧ inb x (shp (pW M) q).2 then some (st, uI h q (ix x) (v &&& 1)) else none) = some (st', h1) := hp
      by_cases hq : (shp (pW M) q).1 = 102 ∧ q < hN h ∧ inb x (shp (pW M) q).2
      · rw [if_pos hq] at hp
        have hz := Prod.mk.inj (Option.some.inj hp)
        have hz1 := hz.1
        have hz2 := hz.2
        subst hz1
        subst hz2
        have hq2 := (hRl.1 q hq.2.1).arr hq.1 (by decide)
        show W p l e Rm s m args below meth c H locs cells slots Q (F0 m (pcAt k i) rls (.int v :: .int x :: .ref (ad M q) :: st.map (tr M)))
        rw [ad_lt hRl hq.2.1]
        refine W.zast hx hb hq2 ((hE.1.2 2 _ rfl).1 _ _) (fun z => by cases z) (by rw [arrV_size]; exact vp_of hq.2.2) rfl rfl dd fun H1 e1 e2 e3 => ?_
        refine kk H1 _ (hRl.upd (h' := uI h q (ix x) (v &&& 1)) rfl e2 e3 uI_o ?_) (hS.put e2 e3 (hRl.own hq.2.1))
        unfold RC
        rw [hq.1, if_neg (by decide), e1, arrV_store]
        congr 2
        funext j
        show (if j = ix x then .int (v &&& 1) else av M h q 102 j) = .int (up2 h.1 q (ix x) (v &&& 1) q j)
        rw [up2_s]
        by_cases e : j = ix x
        · rw [if_pos e, if_pos e]
        · rw [if_neg e, if_neg e]; rfl
      · rw [if_neg hq] at hp; cases hp
  by_cases o : op = 117
  · subst o
    have X : xin k i = (.lastore, 1) := by unfold xin; rw [hi]; rfl
    rw [X] at dd nn
    have nn : pcAt k (i + 1) = pcAt k i + 1 := nn
    rw [nn] at kk
    match st, hp with
    | .long v :: .int x :: .ref q :: st, hp =>
      have hp : (if (shp (pW M) q).1 = 103 ∧ q < hN h ∧ inb x (shp (pW M) q).2 then some (st, uL h q (ix x) v) else none) = some (st', h1) := hp
      by_cases hq : (shp (pW M) q).1 = 103 ∧ q < hN h ∧ inb x (shp (pW M) q).2
      · rw [if_pos hq] at hp
        have hz := Prod.mk.inj (Option.some.inj hp)
        have hz1 := hz.1
        have hz2 := hz.2
        subst hz1
        subst hz2
        have hq2 := (hRl.1 q hq.2.1).arr hq.1 (by decide)
        show W p l e Rm s m args below meth c H locs cells slots Q (F0 m (pcAt k i) rls (.long v :: .int x :: .ref (ad M q) :: st.map (tr M)))
        rw [ad_lt hRl hq.2.1]
        refine W.last hx hb hq2 ((hE.1.2 3 _ rfl).1 _ _) (fun z => by cases z) (by rw [arrV_size]; exact vp_of hq.2.2) rfl rfl dd fun H1 e1 e2 e3 => ?_
        refine kk H1 _ (hRl.upd (h' := uL h q (ix x) v) rfl e2 e3 uL_o ?_) (hS.put e2 e3 (hRl.own hq.2.1))
        unfold RC
        rw [hq.1, if_neg (by decide), e1, arrV_store]
        congr 2
        funext j
        show (if j = ix x then .long v else av M h q 103 j) = .long (up2 h.2.1 q (ix x) v q j)
        rw [up2_s]
        by_cases e : j = ix x
        · rw [if_pos e, if_pos e]
        · rw [if_neg e, if_neg e]; rfl
      · rw [if_neg hq] at hp; cases hp
  by_cases o : op = 118
  · subst o
    have X : xin k i = (.aastore, 1) := by unfold xin; rw [hi]; rfl
    rw [X] at dd nn
    have nn : pcAt k (i + 1) = pcAt k i + 1 := nn
    rw [nn] at kk
    match st, hp with
    | .ref r :: .int x :: .ref q :: st, hp =>
      have hp : (if (shp (pW M) q).1 = 104 ∧ q < hN h ∧ inb x (shp (pW M) q).2 ∧ (shp (pW M) r).1 = 8 ∧ r < hN h ∧ (srf (pW M) q (ix x) = none ∨ srf (pW M) q (ix x) = some r) then some (st, uR h q (ix x) (some r)) else none) = some (st', h1) := hp
      by_cases hq : (shp (pW M) q).1 = 104 ∧ q < hN h ∧ inb x (shp (pW M) q).2 ∧ (shp (pW M) r).1 = 8 ∧ r < hN h ∧ (srf (pW M) q (ix x) = none ∨ srf (pW M) q (ix x) = some r)
      · rw [if_pos hq] at hp
        have hz := Prod.mk.inj (Option.some.inj hp)
        have hz1 := hz.1
        have hz2 := hz.2
        subst hz1
        subst hz2
        have hq2 := (hRl.1 q hq.2.1).arr hq.1 (by decide)
        obtain ⟨cv, v1, v2, v3, v4⟩ := (hRl.1 r hq.2.2.2.2.1).obj hq.2.2.2.1 (by decide)
        obtain ⟨hSl, hfc, kC, hkC, hkind⟩ := hE.1.1 8 _ (cls_at 8 (by decide))
        obtain ⟨kA, comp, g1, g2, g3, g4⟩ := (hE.1.2 4 _ rfl).2
        have hcc : comp = (pD M).1 8 := Option.some.inj (g3.symm.trans hfc)
        show W p l e Rm s m args below meth c H locs cells slots Q (F0 m (pcAt k i) rls (.ref (ad M r) :: .int x :: .ref (ad M q) :: st.map (tr M)))
        rw [ad_lt hRl hq.2.1, ad_lt hRl hq.2.2.2.2.1]
        have hvi := vp_of hq.2.2.1
        refine W.aast hx hb hq2 (fun z y => by cases y) (fun z => by cases z) g1 g2 rfl (by rw [hcc]; exact hkC) ⟨fun z => hvi (Or.inl z), by rw [arrV_size]; exact Nat.not_le.mp fun z => hvi (Or.inr z)⟩ v1 (fun z y => by rw [v3] at y; cases y) (by rw [v2]; exact hkC) (by rw [v2, hcc]; exact va_assign (hE.1.1 8 _ (cls_at 8 (by decide))).2) rfl rfl dd fun H1 e1 e2 e3 => ?_
        refine kk H1 _ (hRl.upd (h' := uR h q (ix x) (some r)) rfl e2 e3 uR_o ?_) (hS.put e2 e3 (hRl.own hq.2.1))
        unfold RC
        rw [hq.1, if_neg (by decide), e1, arrV_store]
        congr 2
        funext j
        show (if j = ix x then .ref (pB M + r) else av M h q 104 j) = tr M (rv (up2 h.2.2.1 q (ix x) (some r) q j))
        rw [up2_s]
        by_cases e : j = ix x
        · rw [if_pos e, if_pos e]
          show _ = Value.ref (ad M r)
          rw [ad_lt hRl hq.2.2.2.2.1]
        · rw [if_neg e, if_neg e]; rfl
      · rw [if_neg hq] at hp; cases hp
  by_cases o : op = 119
  · subst o
    have X : xin k i = (.invokestatic b, 3) := by unfold xin; rw [hi]; rfl
    rw [X] at dd nn
    have nn : pcAt k (i + 1) = pcAt k i + 3 := nn
    rw [nn] at kk
    have ww : tw (wiAt k i) (.methodLink (mY k).cls b arraycopyName) = true := by unfold wok at ww; rw [hi] at ww; exact ww
    match st, hp with
    | .int n :: .int dp :: .ref q1 :: .int sp :: .ref q0 :: st, hp =>
      have hp : (if (shp (pW M) q0).1 = 100 ∧ q0 < hN h ∧ (shp (pW M) q1).1 = 100 ∧ q1 < hN h ∧ 0 ≤ sp.toInt ∧ 0 ≤ dp.toInt ∧ 0 ≤ n.toInt ∧ sp.toInt + n.toInt ≤ ((shp (pW M) q0).2 : Int) ∧ dp.toInt + n.toInt ≤ ((shp (pW M) q1).2 : Int) ∧ csum st ≤ 8 then some (st, uA h q1 (va_cpy (hI h q0) (hI h q1) (ix sp) (ix dp) (ix n))) else none) = some (st', h1) := hp
      by_cases hq : (shp (pW M) q0).1 = 100 ∧ q0 < hN h ∧ (shp (pW M) q1).1 = 100 ∧ q1 < hN h ∧ 0 ≤ sp.toInt ∧ 0 ≤ dp.toInt ∧ 0 ≤ n.toInt ∧ sp.toInt + n.toInt ≤ ((shp (pW M) q0).2 : Int) ∧ dp.toInt + n.toInt ≤ ((shp (pW M) q1).2 : Int) ∧ csum st ≤ 8
      · rw [if_pos hq] at hp
        have hz := Prod.mk.inj (Option.some.inj hp)
        have hz1 := hz.1
        have hz2 := hz.2
        subst hz1
        subst hz2
        obtain ⟨k1, k2, k3, k4, k5, k6, k7, k8, k9, k10⟩ := hq
        have hc0 := (hRl.1 q0 k2).arr k1 (by decide)
        have hc1 := (hRl.1 q1 k4).arr k3 (by decide)
        show W p l e Rm s m args below meth c H locs cells slots Q (F0 m (pcAt k i) rls (.int n :: .int dp :: .ref (ad M q1) :: .int sp :: .ref (ad M q0) :: st.map (tr M)))
        rw [ad_lt hRl k2, ad_lt hRl k4]
        have nng : ∀ z : Int32, 0 ≤ z.toInt → ¬ z < 0 := fun z hz hlt => by
          have := Int32.lt_iff_toInt_lt.mp hlt
          simp at this
          omega
        have nnz : ∀ z : Int32, 0 ≤ z.toInt → z.toInt = (z.toNatClampNeg : Int) := fun z hz => by
          show z.toInt = ((z.toInt.toNat : Nat) : Int)
          omega
        have e4 : ix sp + ix n ≤ (shp (pW M) q0).2 := by have := nnz sp k5; have := nnz n k7; unfold ix; omega
        have hnw : nativeFrameWords "java/lang/System" "arraycopy" 5 ≤ 100 := by decide +kernel
        intro T hT XX
        obtain ⟨-, c0', hk0, cm0, hkk0⟩ := (hE.1.2 0 _ rfl).1 (shp (pW M) q0).2 (av M h q0 100)
        obtain ⟨-, c1', hk1, cm1, hkk1⟩ := (hE.1.2 0 _ rfl).1 (shp (pW M) q1).2 (av M h q1 100)
        obtain ⟨vm', X', step⟩ := XX.arraycopy hx hown (hts _ (tw_in ww)) (hts _ (tw_in (j := 1071) (x := .native arraycopyName) (by decide +kernel))) (hts _ (tw_in (j := 1070) (x := .static arraycopyName) (by decide +kernel))) (hts _ (tw_in (j := 104) (x := .initialized "java/lang/System") (by decide +kernel))) (src := pB M + q0) (dst := pB M + q1) (cs := arrV (pA M 100) (shp (pW M) q0).2 (av M h q0 100)) (cd := arrV (pA M 100) (shp (pW M) q1).2 (av M h q1 100)) (srcPos := sp) (destPos := dp) (n := n) (by rw [hT]; exact hc0) (by rw [hT]; exact hc1)
          (fun _ h => by cases h) (fun _ h => by cases h) (fun h => by cases h) (fun h => by cases h) hk0 hk1 hkk0 hkk1 (by simp [refKind]) (nng sp k5) (nng dp k6) (nng n k7)
          (by rw [arrV_size]; omega) (by rw [arrV_size]; omega)
          (fun vm₁ _ i hi => by
            have e : (arrV (pA M 100) (shp (pW M) q0).2 (av M h q0 100)).slots.getD (sp.toNatClampNeg + i) .null = .int (hI h q0 (sp.toNatClampNeg + i)) := by
              rw [Array.getD_eq_getD_getElem?, arrV_read _ _ (by unfold ix at e4; omega)]
              rfl
            refine ⟨?_, ?_⟩
            · rw [e]; rfl
            · rw [e]; exact trivial)
          (g := F0 m (pcAt k i) rls (.int n :: .int dp :: .ref (pB M + q1) :: .int sp :: .ref (pB M + q0) :: st.map (tr M))) rfl (by rw [hml]; exact hrl) (rest := st.map (tr M)) rfl (by rw [hb]; exact dd) (by omega) (by show 2 * 0 + _ + (_ + 11) ≤ _; rw [tr_csum]; omega)
        have e1 : copied (arrV (pA M 100) (shp (pW M) q0).2 (av M h q0 100)) (arrV (pA M 100) (shp (pW M) q1).2 (av M h q1 100)) sp dp n = arrV (pA M 100) (shp (pW M) q1).2 (fun j => .int (va_cpy (hI h q0) (hI h q1) (ix sp) (ix dp) (ix n) j)) := va_copied (fun z => .int z) (pA M 100) (pA M 100) (hI h q0) (hI h q1) e4
        rw [e1] at X' step
        have hl : pB M + q1 < H.size := (Array.getElem?_eq_some_iff.mp hc1).1
        obtain ⟨t, a1, b1⟩ := kk (H.setIfInBounds (pB M + q1) (arrV (pA M 100) (shp (pW M) q1).2 (fun j => .int (va_cpy (hI h q0) (hI h q1) (ix sp) (ix dp) (ix n) j)))) _ (hRl.upd (c := q1) (h' := uA h q1 (va_cpy (hI h q0) (hI h q1) (ix sp) (ix dp) (ix n))) rfl (by simp) (fun q hq => by simp [Array.getElem?_setIfInBounds, Ne.symm hq]) uA_o (by
            unfold RC
            rw [k3, if_neg (by decide)]
            simp only [Array.getElem?_setIfInBounds, hl, if_true]
            congr 2
            funext j
            show _ = Value.int (if q1 = q1 then _ else _)
            rw [if_pos rfl])) ⟨by simp; exact hS.1, fun q g1 g2 => by
            simp only [Array.getElem?_setIfInBounds]
            rw [if_neg (fun e => g2 (by rw [← e]; exact hRl.own k4))]
            exact hS.2.1 q g1 g2, fun q hq => by
            rcases List.mem_append.mp hq with h | h
            · exact hS.2.2 q h
            · obtain ⟨z, -, hz⟩ := List.mem_map.mp h
              rw [← hz]
              exact hRl.own k4⟩ _ (by rw [← hT]; rfl) X'
        exact ⟨t, step t a1, b1⟩
      · rw [if_neg hq] at hp; cases hp
  exfalso
  have := ck_v hi ck
  omega
end SG3
