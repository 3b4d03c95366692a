theorem cis0 : Cond.instantiable RX0 14 ∈ gw ∧ Cond.initialized RX0 ∈ gw := ⟨tw_in (j := 410) (by decide +kernel), tw_in (j := 97) (by decide +kernel)⟩
theorem cis1 : Cond.instantiable RX1 5 ∈ gw ∧ Cond.initialized RX1 ∈ gw := ⟨tw_in (j := 297) (by decide +kernel), tw_in (j := 93) (by decide +kernel)⟩
theorem cis2 : Cond.instantiable RX2 4 ∈ gw ∧ Cond.initialized RX2 ∈ gw := ⟨tw_in (j := 389) (by decide +kernel), tw_in (j := 96) (by decide +kernel)⟩
theorem cis3 : Cond.instantiable RX3 10 ∈ gw ∧ Cond.initialized RX3 ∈ gw := ⟨tw_in (j := 177) (by decide +kernel), tw_in (j := 88) (by decide +kernel)⟩
theorem cis4 : Cond.instantiable RX4 2 ∈ gw ∧ Cond.initialized RX4 ∈ gw := ⟨tw_in (j := 281) (by decide +kernel), tw_in (j := 92) (by decide +kernel)⟩
theorem cis5 : Cond.instantiable RX5 8 ∈ gw ∧ Cond.initialized RX5 ∈ gw := ⟨tw_in (j := 217) (by decide +kernel), tw_in (j := 89) (by decide +kernel)⟩
theorem cis6 : Cond.instantiable RX6 5 ∈ gw ∧ Cond.initialized RX6 ∈ gw := ⟨tw_in (j := 321) (by decide +kernel), tw_in (j := 94) (by decide +kernel)⟩
theorem cis7 : Cond.instantiable RX7 5 ∈ gw ∧ Cond.initialized RX7 ∈ gw := ⟨tw_in (j := 151) (by decide +kernel), tw_in (j := 87) (by decide +kernel)⟩
theorem cis8 : Cond.instantiable RX8 6 ∈ gw ∧ Cond.initialized RX8 ∈ gw := ⟨tw_in (j := 121) (by decide +kernel), tw_in (j := 86) (by decide +kernel)⟩
theorem cis9 : Cond.instantiable RX9 7 ∈ gw ∧ Cond.initialized RX9 ∈ gw := ⟨tw_in (j := 223) (by decide +kernel), tw_in (j := 90) (by decide +kernel)⟩
theorem cis10 : Cond.instantiable RX10 5 ∈ gw ∧ Cond.initialized RX10 ∈ gw := ⟨tw_in (j := 258) (by decide +kernel), tw_in (j := 91) (by decide +kernel)⟩
theorem cis11 : Cond.instantiable RX11 8 ∈ gw ∧ Cond.initialized RX11 ∈ gw := ⟨tw_in (j := 106) (by decide +kernel), tw_in (j := 84) (by decide +kernel)⟩
theorem cis12 : Cond.instantiable RX12 33 ∈ gw ∧ Cond.initialized RX12 ∈ gw := ⟨tw_in (j := 1104) (by decide +kernel), tw_in (j := 98) (by decide +kernel)⟩
theorem cls_is : ∀ b, b < 13 → Cond.instantiable (cR b) (clsN b) ∈ gw ∧ Cond.initialized (cR b) ∈ gw
  | 0, _ => cis0
  | 1, _ => cis1
  | 2, _ => cis2
  | 3, _ => cis3
  | 4, _ => cis4
  | 5, _ => cis5
  | 6, _ => cis6
  | 7, _ => cis7
  | 8, _ => cis8
  | 9, _ => cis9
  | 10, _ => cis10
  | 11, _ => cis11
  | 12, _ => cis12
  | n + 13, h => absurd h (by omega)
def okF (t : FieldType) : Bool := match t with
  | .int => true
  | .boolean => true
  | .long => true
  | .object _ => true
  | .array _ => true
  | _ => false
theorem ctk0 : ∀ j, j < clsN 0 → okF (fT 0 j) = true := by decide +kernel
theorem ctk1 : ∀ j, j < clsN 1 → okF (fT 1 j) = true := by decide +kernel
theorem ctk2 : ∀ j, j < clsN 2 → okF (fT 2 j) = true := by decide +kernel
theorem ctk3 : ∀ j, j < clsN 3 → okF (fT 3 j) = true := by decide +kernel
theorem ctk4 : ∀ j, j < clsN 4 → okF (fT 4 j) = true := by decide +kernel
theorem ctk5 : ∀ j, j < clsN 5 → okF (fT 5 j) = true := by decide +kernel
theorem ctk6 : ∀ j, j < clsN 6 → okF (fT 6 j) = true := by decide +kernel
theorem ctk7 : ∀ j, j < clsN 7 → okF (fT 7 j) = true := by decide +kernel
theorem ctk8 : ∀ j, j < clsN 8 → okF (fT 8 j) = true := by decide +kernel
theorem ctk9 : ∀ j, j < clsN 9 → okF (fT 9 j) = true := by decide +kernel
theorem ctk10 : ∀ j, j < clsN 10 → okF (fT 10 j) = true := by decide +kernel
theorem ctk11 : ∀ j, j < clsN 11 → okF (fT 11 j) = true := by decide +kernel
theorem ctk12 : ∀ j, j < clsN 12 → okF (fT 12 j) = true := by decide +kernel
theorem cls_tk : ∀ b, b < 13 → ∀ j, j < clsN b → okF (fT b j) = true
  | 0, _ => ctk0
  | 1, _ => ctk1
  | 2, _ => ctk2
  | 3, _ => ctk3
  | 4, _ => ctk4
  | 5, _ => ctk5
  | 6, _ => ctk6
  | 7, _ => ctk7
  | 8, _ => ctk8
  | 9, _ => ctk9
  | 10, _ => ctk10
  | 11, _ => ctk11
  | 12, _ => ctk12
  | n + 13, h => absurd h (by omega)
theorem arc_in : ∀ t, 100 ≤ t → t ≤ 103 → Cond.arrayClass (newarray.typeOf (aA t)) ∈ gw := by
  intro t h1 h2
  rcases (show t = 100 ∨ t = 101 ∨ t = 102 ∨ t = 103 by omega) with rfl | rfl | rfl | rfl
  · exact tw_in (j := 149) (by decide +kernel)
  · exact tw_in (j := 175) (by decide +kernel)
  · exact tw_in (j := 1212) (by decide +kernel)
  · exact tw_in (j := 1211) (by decide +kernel)
theorem shp_leX : ∀ c, c < 73 → (shpX c).2 ≤ 100000 := by decide +kernel
theorem shp_leM : ∀ c, c < 15 → (shpM c).2 ≤ 100000 := by decide +kernel
theorem shp_le (w : Nat) : ∀ c, (shp w c).2 ≤ 100000 := by
  intro c
  unfold shp
  cases Nat.beq w 0 with
  | true =>
    rcases Nat.lt_or_ge c 73 with q | q
    · exact shp_leX c q
    · rw [cond_true, shpX_cap q]; decide
  | false =>
    rcases Nat.lt_or_ge c 15 with q | q
    · exact shp_leM c q
    · rw [cond_false, shpM_cap q]; decide
/-- the fields and elements of the first n cells -/
def sl (w : Nat) : Nat → Nat
  | 0 => 0
  | n + 1 => sl w n + (shp w n).2
theorem sl_mono (w : Nat) {a b : Nat} (h : a ≤ b) : sl w a ≤ sl w b := by
  induction h with
  | refl => exact Nat.le_refl _
  | step _ ih => exact Nat.le_trans ih (Nat.le_add_right _ _)
theorem hNew_o {h : Hp} : ∀ c', c' ≠ hN h → hI (hNew h) c' = hI h c' ∧ hL (hNew h) c' = hL h c' ∧ hR (hNew h) c' = hR h c' := by
  intro c' e
  refine ⟨?_, ?_, ?_⟩
  · funext j; show (if c' = hN h then 0 else h.1 c' j) = _; rw [if_neg e]; rfl
  · funext j; show (if c' = hN h then 0 else h.2.1 c' j) = _; rw [if_neg e]; rfl
  · funext j; show (if c' = hN h then none else h.2.2.1 c' j) = _; rw [if_neg e]; rfl
theorem hNew_s {h : Hp} {j : Nat} : hI (hNew h) (hN h) j = 0 ∧ hL (hNew h) (hN h) j = 0 ∧ hR (hNew h) (hN h) j = none := by
  refine ⟨?_, ?_, ?_⟩
  · show (if h.2.2.2 = h.2.2.2 then 0 else _) = _; rw [if_pos rfl]
  · show (if h.2.2.2 = h.2.2.2 then 0 else _) = _; rw [if_pos rfl]
  · show (if h.2.2.2 = h.2.2.2 then none else _) = _; rw [if_pos rfl]
/-- a cell more -/
theorem Rel.new {M : Pm} {h : Hp} {H H1 : Heap} (hr : Rel M h H) (hc : hN h < cap (pW M)) (hz : H1.size = H.size + 1) (hq : ∀ q : Nat, q < H.size → H1[q]? = H[q]?) (hn : RC M (hNew h) H1 (hN h)) : Rel M (hNew h) H1 := by
  have hs := hr.2.2.1 hc
  have hN1 : hN (hNew h) = hN h + 1 := rfl
  refine ⟨fun c' h1 => ?_, by rw [hN1, hz, hs]; omega, fun _ => by rw [hN1, hz, hs]; omega, by rw [hN1]; omega⟩
  by_cases e : c' = hN h
  · rw [e]; exact hn
  · obtain ⟨e1, e2, e3⟩ := hNew_o c' e
    have hlt : c' < hN h := by rw [hN1] at h1; omega
    exact (hr.1 c' hlt).congr e1 e2 e3 (hq _ (by omega))
section SG4
variable {l : Launch} {p : Program} {e : Env} {Rm : Room} {s : State} {m : MethodId} {args : Array Value} {below : List Frame} {meth : Method} {c : Code} {H : Heap} {locs : List Loc} {cells slots : Nat} {Q : State → Prop}
variable {M : Pm} {k d i op b c0 : Nat} {a : Int32} {rls : Array Slot} {ls ls' : Lv} {st st' : List Value} {h h1 : Hp}
theorem S_al (hi : ins k i = (op, a, b, c0)) (h1' : 119 < op) (h2 : op < 130) (ck : ckI k i = true) (C : Cx M k d p Rm s m args meth c) (hRl : Rel M h H) (hS : va_S (Own M) s.heap H locs) (hp : hal (pW M) op b st h = some (st', h1)) (hcl : cells + 1 ≤ Rm.cells) (hsl : slots + (shp (pW M) (hN h)).2 ≤ Rm.slots) (kk : ∀ H1 : Heap, Rel M h1 H1 → va_S (Own M) s.heap H1 locs → W p l e Rm s m args below meth c H1 locs (cells + 1) (slots + (shp (pW M) (hN h)).2) Q (F0 m (pcAt k (i + 1)) rls (st'.map (tr M)))) : W p l e Rm s m args below meth c H locs cells slots Q (F0 m (pcAt k i) rls (st.map (tr M))) := by
  obtain ⟨hx, hb, hml, hown, hts, hr, hlk, hnm, hE, hfr, hlo⟩ := C
  have dd := ck_d ck
  have nn := ck_n ck
  have ww := ck_w ck
  have hS1 : ∀ H1 : Heap, H1.size = H.size + 1 → (∀ q : Nat, q < H.size → H1[q]? = H[q]?) → va_S (Own M) s.heap H1 locs := fun H1 z1 o1 => ⟨by rw [z1]; exact Nat.le_trans hS.1 (Nat.le_add_right _ _), fun x g1 g2 => (o1 x (Nat.lt_of_lt_of_le g1 hS.1)).trans (hS.2.1 x g1 g2), hS.2.2⟩
  have hbyt : ∀ c', (shp (pW M) c').2 ≤ 100000 := shp_le _
  by_cases o : op = 120
  · subst o
    have X : xin k i = (.new (ix a), 3) := by unfold xin; rw [hi]; rfl
    rw [X] at dd nn
    have nn : pcAt k (i + 1) = pcAt k i + 3 := nn
    rw [nn] at kk
    have ww : (tw (wiAt k i) (.classLink (mY k).cls (ix a) (cR b)) && decide (b < 13)) = true := by unfold wok at ww; rw [hi] at ww; exact ww
    rw [Bool.and_eq_true] at ww
    have hb13 := of_decide_eq_true ww.2
    have hp : (if (shp (pW M) (hN h)).1 = b ∧ hN h < cap (pW M) then some (.ref (hN h) :: st, hNew h) else none) = some (st', h1) := hp
    by_cases hq : (shp (pW M) (hN h)).1 = b ∧ hN h < cap (pW M)
    · rw [if_pos hq] at hp
      have hz := Prod.mk.inj (Option.some.inj hp)
      have hz1 := hz.1
      have hz2 := hz.2
      subst hz1
      subst hz2
      have hsz := hRl.2.2.1 hq.2
      have hKn := hE.1.1 b _ (cls_at b hb13)
      have hn2 := shp_n (w := pW M) (c := hN h) (by rw [hq.1]; exact hb13)
      rw [hq.1] at hn2
      rw [hn2] at hsl kk
      refine W.newcK hx hb hown (hts _ (tw_in ww.1)) (hts _ (cls_is b hb13).1) (hts _ (cls_is b hb13).2) rfl dd hcl hsl hKn.2.1 hsz fun H1 kC hkC e1 z1 o1 => ?_
      rw [← hsz] at z1 o1
      have hrl : Rel M (hNew h) H1 := by
        refine hRl.new hq.2 z1 o1 ?_
        unfold RC
        rw [hq.1, if_pos (by omega), hn2]
        refine (u_born (fT b) hts (cls_in b hb13) hKn hkC e1 (cls_ty b hb13)).to (fun j hj => ?_)
        unfold fv
        rw [hNew_s.1, hNew_s.2.1, hNew_s.2.2]
        have := cls_tk b hb13 j hj
        cases hft : fT b j <;> first | rfl | (rw [hft] at this; cases this)
      have := kk H1 hrl (hS1 H1 z1 o1)
      have e2 : tr M (.ref (hN h)) = .ref (pB M + hN h) := by
        show Value.ref (ad M (hN h)) = _
        rw [ad_lt hrl (show hN h < hN (hNew h) from Nat.lt_succ_self _)]
      rw [List.map_cons, e2] at this
      exact this
    · rw [if_neg hq] at hp; cases hp
  by_cases o : op = 121
  · subst o
    have X : xin k i = (.newarray (aA b), 2) := by unfold xin; rw [hi]; rfl
    rw [X] at dd nn
    have nn : pcAt k (i + 1) = pcAt k i + 2 := nn
    rw [nn] at kk
    have ww : decide (100 ≤ b ∧ b ≤ 103) = true := by unfold wok at ww; rw [hi] at ww; exact ww
    have hbk := of_decide_eq_true ww
    match st, hp with
    | .int v :: st, hp =>
      have hp : (if (shp (pW M) (hN h)).1 = b ∧ hN h < cap (pW M) ∧ v.toInt = ((shp (pW M) (hN h)).2 : Int) then some (.ref (hN h) :: st, hNew h) else none) = some (st', h1) := hp
      by_cases hq : (shp (pW M) (hN h)).1 = b ∧ hN h < cap (pW M) ∧ v.toInt = ((shp (pW M) (hN h)).2 : Int)
      · rw [if_pos hq] at hp
        have hz := Prod.mk.inj (Option.some.inj hp)
        have hz1 := hz.1
        have hz2 := hz.2
        subst hz1
        subst hz2
        have hsz := hRl.2.2.1 hq.2.1
        have hv0 : ¬ v < 0 := fun hlt => by
          have := Int32.lt_iff_toInt_lt.mp hlt
          simp at this
          omega
        have hvN : v.toNatClampNeg = (shp (pW M) (hN h)).2 := by
          show v.toInt.toNat = _
          omega
        have hle := hbyt (hN h)
        have fin : ∀ (H1 : Heap) (cA : ClassId), H1[pB M + hN h]? = some (arrV cA (shp (pW M) (hN h)).2 (fun _ => defaultValue (aT b))) → H1.size = H.size + 1 → (∀ q, q < H.size → H1[q]? = H[q]?) → cA = pA M b → Rel M (hNew h) H1 ∧ tr M (.ref (hN h)) = .ref (pB M + hN h) := by
          intro H1 cA e1 z1 o1 eA
          have hrl : Rel M (hNew h) H1 := by
            refine hRl.new hq.2.1 z1 o1 ?_
            unfold RC
            rw [hq.1, if_neg (by omega), e1, eA]
            congr 2
            funext j
            unfold av
            rw [hNew_s.1, hNew_s.2.1, hNew_s.2.2]
            rcases (show b = 100 ∨ b = 101 ∨ b = 102 ∨ b = 103 by omega) with rfl | rfl | rfl | rfl <;> rfl
          refine ⟨hrl, ?_⟩
          show Value.ref (ad M (hN h)) = _
          rw [ad_lt hrl (show hN h < hN (hNew h) from Nat.lt_succ_self _)]
        have hcb : (shp (pW M) (hN h)).2 * componentBytes (newarray.typeOf (aA b)) ≤ 536870912 := by
          have : componentBytes (newarray.typeOf (aA b)) ≤ 8 := by rcases (show b = 100 ∨ b = 101 ∨ b = 102 ∨ b = 103 by omega) with rfl | rfl | rfl | rfl <;> decide
          exact Nat.le_trans (Nat.mul_le_mul hle this) (by decide)
        have ety : newarray.typeOf (aA b) = aT b := by rcases (show b = 100 ∨ b = 101 ∨ b = 102 ∨ b = 103 by omega) with rfl | rfl | rfl | rfl <;> rfl
        refine va_newaK hx hb (hts _ (arc_in b hbk.1 hbk.2)) rfl dd rfl hv0 hvN hcb hcl hsl hsz fun H1 cA e1 z1 o1 _ hfc => ?_
        rw [← hsz] at z1 o1
        have eA : cA = pA M b := by
          rw [ety] at hfc
          have hra : s.vm.findClass ("[" ++ (aT b).toString) = some (pA M b) := by
            rcases (show b = 100 ∨ b = 101 ∨ b = 102 ∨ b = 103 by omega) with rfl | rfl | rfl | rfl
            · exact (hE.1.2 0 _ rfl).2
            · exact (hE.1.2 1 _ rfl).2
            · exact (hE.1.2 2 _ rfl).2
            · exact (hE.1.2 3 _ rfl).2
          exact Option.some.inj (hfc.symm.trans hra)
        rw [ety] at e1
        obtain ⟨g1, g2⟩ := fin H1 cA e1 z1 o1 eA
        have := kk H1 g1 (hS1 H1 z1 o1)
        rw [List.map_cons, g2] at this
        exact this
      · rw [if_neg hq] at hp; cases hp
  by_cases o : op = 122
  · subst o
    have X : xin k i = (.anewarray (ix a), 3) := by unfold xin; rw [hi]; rfl
    rw [X] at dd nn
    have nn : pcAt k (i + 1) = pcAt k i + 3 := nn
    rw [nn] at kk
    have ww : (tw (wiAt k i) (.classLink (mY k).cls (ix a) "ShipUnstopped$Text") && decide (b = 104)) = true := by unfold wok at ww; rw [hi] at ww; exact ww
    rw [Bool.and_eq_true] at ww
    have hbk := of_decide_eq_true ww.2
    match st, hp with
    | .int v :: st, hp =>
      have hp : (if (shp (pW M) (hN h)).1 = b ∧ hN h < cap (pW M) ∧ v.toInt = ((shp (pW M) (hN h)).2 : Int) then some (.ref (hN h) :: st, hNew h) else none) = some (st', h1) := hp
      by_cases hq : (shp (pW M) (hN h)).1 = b ∧ hN h < cap (pW M) ∧ v.toInt = ((shp (pW M) (hN h)).2 : Int)
      · rw [if_pos hq] at hp
        have hz := Prod.mk.inj (Option.some.inj hp)
        have hz1 := hz.1
        have hz2 := hz.2
        subst hz1
        subst hz2
        have hsz := hRl.2.2.1 hq.2.1
        have hv0 : ¬ v < 0 := fun hlt => by
          have := Int32.lt_iff_toInt_lt.mp hlt
          simp at this
          omega
        have hvN : v.toNatClampNeg = (shp (pW M) (hN h)).2 := by
          show v.toInt.toNat = _
          omega
        have hle := hbyt (hN h)
        have fin : ∀ (H1 : Heap) (cA : ClassId), H1[pB M + hN h]? = some (arrV cA (shp (pW M) (hN h)).2 (fun _ => defaultValue (aT b))) → H1.size = H.size + 1 → (∀ q, q < H.size → H1[q]? = H[q]?) → cA = pA M b → Rel M (hNew h) H1 ∧ tr M (.ref (hN h)) = .ref (pB M + hN h) := by
          intro H1 cA e1 z1 o1 eA
          have hrl : Rel M (hNew h) H1 := by
            refine hRl.new hq.2.1 z1 o1 ?_
            unfold RC
            rw [hq.1, if_neg (by omega), e1, eA]
            congr 2
            funext j
            unfold av
            rw [hNew_s.1, hNew_s.2.1, hNew_s.2.2]
            subst hbk; rfl
          refine ⟨hrl, ?_⟩
          show Value.ref (ad M (hN h)) = _
          rw [ad_lt hrl (show hN h < hN (hNew h) from Nat.lt_succ_self _)]
        subst hbk
        refine W.anew hx hb hown (hts _ (tw_in ww.1)) (va_AO.use hE.2.2.2.2.2.2.2.2.1) rfl dd rfl hv0 (by rw [hvN]; omega) hcl (by rw [hvN]; exact hsl) fun cA kA comp f1 f2 f3 f4 => ?_
        obtain ⟨kA', comp', g1, g2, g3, g4⟩ := (hE.1.2 4 _ rfl).2
        have eA : cA = pA M 104 := Option.some.inj (f1.symm.trans g4)
        rw [hvN]
        generalize hH1 : H.push ({ cls := cA, slots := Array.replicate (shp (pW M) (hN h)).2 .null, vm := .none } : Cell) = H1
        have z1 : H1.size = H.size + 1 := by rw [← hH1, Array.size_push]
        have e1 : H1[pB M + hN h]? = some (arrV cA (shp (pW M) (hN h)).2 (fun _ => .null)) := by rw [← hsz, ← hH1, Array.getElem?_push_size, ← arrV_new]
        have o1 : ∀ q : Nat, q < H.size → H1[q]? = H[q]? := fun q hq => by rw [← hH1, Array.getElem?_push, if_neg (Nat.ne_of_lt hq)]
        obtain ⟨g5, g6⟩ := fin H1 cA e1 z1 o1 eA
        have := kk H1 g5 (hS1 H1 z1 o1)
        rw [List.map_cons, g6] at this
        rw [hsz]
        exact this
      · rw [if_neg hq] at hp; cases hp
  exfalso
  have := ck_v hi ck
  omega
end SG4
