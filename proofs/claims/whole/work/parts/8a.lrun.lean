/-! ===== the law's own calls ===== -/
def yC : MethodName := ⟨"ShipUnstoppedLaw", "cell", "([II)I"⟩
def wsC : List Cond := [.code yC method_2_code 2 (some .int)]
theorem dC0 : decode method_2_code 0 = .ok (.iload_n 1, 1) := by decide +kernel
theorem dC1 : decode method_2_code 1 = .ok (.aload_n 0, 1) := by decide +kernel
theorem dC2 : decode method_2_code 2 = .ok (.arraylength, 1) := by decide +kernel
theorem dC3 : decode method_2_code 3 = .ok (.if_icmp .ge 9, 3) := by decide +kernel
theorem dC6 : decode method_2_code 6 = .ok (.aload_n 0, 1) := by decide +kernel
theorem dC7 : decode method_2_code 7 = .ok (.iload_n 1, 1) := by decide +kernel
theorem dC8 : decode method_2_code 8 = .ok (.iaload, 1) := by decide +kernel
theorem dC9 : decode method_2_code 9 = .ok (.goto 4, 3) := by decide +kernel
theorem dC12 : decode method_2_code 12 = .ok (.iconst 0, 1) := by decide +kernel
theorem dC13 : decode method_2_code 13 = .ok (.ireturn, 1) := by decide +kernel
def cl0 (L : Nat) (xs : Nat → Int32) : Int32 := if 0 < L then xs 0 else 0
theorem c_cell (l : Launch) (b L : Nat) (xs : Nat → Int32) (hL : L ≤ 3073) : Met l yC wsC ({ frames := 0, cells := 0, slots := 0, locals := 0 }) (va_Pc [.ref b, .int 0] (fun U => va_X b L xs U U.heap)) (fun _ st oc t => oc = .returned (some (.int (cl0 L xs))) ∧ t.heap = st.heap) 0 0 (fun _ => False) := by
  refine Met.ofW (cc := method_2_code) (maxL := 2) (ret := (some .int)) (by decide) rfl ?_
  intro p e s m args below meth c s₁ B hml hv
  obtain ⟨rfl, hX⟩ := hv
  have hx := B.exec
  have hb := B.bytes
  have hr := B.returns
  have hS : va_S (fun _ => False) s.heap s.heap [] := va_S.rf
  obtain ⟨scr, hX1, hX2⟩ := id hX
  have hbl : b < s.heap.size := (Array.getElem?_eq_some_iff.mp hX1).1
  have hbA : ¬ (fun _ : Nat => False) b := fun z => z
  have hl := lv_entry ([.ref b, .int 0]) (n := 2) (Nat.le_of_ble_eq_true rfl)
  rw [lg_entry_eq]
  generalize (lg_sl ([.ref b, .int 0]) ++ List.replicate (2 - (lg_sl ([.ref b, .int 0])).length) Slot.unset).toArray = ls at hl ⊢
  have hl : lv_has ls 2 [(0, .ref b), (1, .int 0)] := hl
  refine lv_iload_n hx hb dC0 rfl (lv_at hl 1 rfl) ?_
  refine lv_aload_n hx hb dC1 rfl (lv_at hl 0 rfl) ?_
  refine va_slen hx hb hX hbl hbA hS dC2 ?_
  refine lv_icmp_ge (tgt := 12) hx hb dC3 (by decide) (fun q => ?_) (fun q => ?_)
  · refine lv_iconst (v := 0) hx hb dC12 (by decide) ?_
    have e0 : cl0 L xs = 0 := by
      unfold cl0
      refine if_neg (fun z => ?_)
      rw [show Int32.ofNat L = nI L from rfl, ti_le, ti_nI (by omega)] at q
      have t0 : (0 : Int32).toInt = 0 := rfl
      omega
    exact W.iret (v := 0) hx hb hr (fun t ht hW => ⟨by rw [e0], ht⟩) hS.2.2 dC13
  · have h0 : 0 < L := by
      rcases Nat.eq_zero_or_pos L with z | z
      · subst z; exact absurd (by decide) q
      · exact z
    refine lv_aload_n hx hb dC6 rfl (lv_at hl 0 rfl) ?_
    refine lv_iload_n hx hb dC7 rfl (lv_at hl 1 rfl) ?_
    refine va_sld hx hb hX hbl hbA hS (show vp_in (nI 0) L from vp_in_nI h0 (by omega)) dC8 ?_
    refine lv_goto (tgt := 13) hx hb dC9 (by decide) ?_
    have e0 : cl0 L xs = xs 0 := if_pos h0
    exact W.iret (v := xs 0) hx hb hr (fun t ht hW => ⟨by rw [e0], ht⟩) hS.2.2 dC13
theorem wsC_good : GoodIn gw wsC := by
  intro x hx
  have hin : x ∈ gw := by
    rcases List.mem_cons.mp hx with e | e
    · rw [e]; exact tw_in (j := 1102) (by decide +kernel)
    · cases e
  exact ⟨hin, good_of_word (List.mem_filter.mp hin).2⟩
def Hi (s : State) : Nat → Prop := fun q => s.heap.size ≤ q
section LW
variable {p : Program} {l : Launch} {e : Env} {s : State} {m : MethodId} {below : List Frame} {meth : Method} {c : Code} {b L : Nat} {xs : Nat → Int32} {H : Heap} {locs : List Loc} {cells slots : Nat} {Q : State → Prop} {M : Pm} {rls : Array Slot} {rest : List Value}
theorem L_run {mc ms pc : Nat} {r : Option Value} {h1 : Hp} {st0 : List Value} {a0 : Array Value} (hB : s.heap.size ≤ pB M) (hr : va_Run p l e room_1 s m #[Value.ref b] below meth c H locs cells slots mc ms (F0 m pc rls st0) rest (QcA M r h1 a0) (Own M)) (hS : va_S (Hi s) s.heap H locs) (kk : ∀ (H1 : Heap) (locs1 : List Loc), Rel M h1 H1 → va_S (Hi s) s.heap H1 locs1 → H.size ≤ H1.size → (∀ q : Nat, q < H.size → ¬ Own M q → H1[q]? = H[q]?) → W p l e room_1 s m #[Value.ref b] below meth c H1 locs1 (cells + mc) (slots + ms) Q (F0 m (pc + 3) rls ((r.map (tr M)).toList ++ rest))) : W p l e room_1 s m #[Value.ref b] below meth c H locs cells slots Q (F0 m pc rls st0) := by
  intro T hT X
  obtain ⟨v, st₀, t, T', L, g0, X', hL, e1, e2, ⟨hv, hrl, hz, hk⟩, st⟩ := hr T hT X
  cases hv
  rw [g0] at hz hk
  obtain ⟨t2, a1, b1⟩ := kk T'.heap (locs ++ L) (by rw [e1]; exact hrl) ⟨Nat.le_trans hS.1 (by rw [e1]; exact hz), fun q h1 h2 => by rw [e1, hk q (Nat.lt_of_lt_of_le h1 hS.1) (fun z => h2 (Nat.le_trans hB z.1))]; exact hS.2.1 q h1 h2, fun q hq => by
      rcases List.mem_append.mp hq with h | h
      · exact hS.2.2 q h
      · exact Nat.le_trans hB (hL q h).1⟩ (by rw [e1]; exact hz) (fun q h1 h2 => by rw [e1]; exact hk q h1 h2) T' rfl X'
  exact ⟨t2, st t2 a1, b1⟩
/-- the law asks for the script's first cell -/
theorem L_cell {pc : Nat} (hL : L ≤ 3073) (C0 : lw_At p s m meth c b L xs) (hS : va_S (Hi s) s.heap H locs) (hrl : rls.size = 4) (hcs : (rest.map fun v => v.category).sum ≤ 8) (hcl : cells ≤ room_1.cells) (hsl : slots ≤ room_1.slots) (dd : decode code pc = .ok (.invokestatic 9, 3)) (kk : ∀ locs1 : List Loc, va_S (Hi s) s.heap H locs1 → W p l e room_1 s m #[Value.ref b] below meth c H locs1 cells slots Q (F0 m (pc + 3) rls (.int (cl0 L xs) :: rest))) : W p l e room_1 s m #[Value.ref b] below meth c H locs cells slots Q (F0 m pc rls (.int 0 :: .ref b :: rest)) := by
  obtain ⟨hx, hb, hr0, hml, hown, hts, hX, hbl, hlk, hgv⟩ := C0
  have htg := gw_in hts
  have hr := va_runS (As := [.ref b, .int 0]) (rest := rest) (g := F0 m pc rls (.int 0 :: .ref b :: rest)) (H := H) (locs := locs) (cells := cells) (slots := slots) (e := e) (below := below) (meth := meth) (⟨hx, hb, hml, hown, htg⟩ : CallFix p m c code 4 s #[Value.ref b] gw R_law) (c_cell l b L xs hL) ⟨callB_of (index := 9) 2 htg wsC_good rfl rfl rfl (htg (.initialized "ShipUnstoppedLaw") (tw_in (j := 83) (by decide +kernel))) (htg (.methodLink "ShipUnstoppedLaw" 9 yC) (tw_in (j := 1100) (by decide +kernel))) (by decide +kernel) ⟨by decide, by decide⟩, htg (.static yC) (tw_in (j := 1101) (by decide +kernel))⟩ ⟨fun a U g mk q => ⟨q.1, va_X.moved (u := U) (Vm.Alike.refl U.vm) q.2⟩, fun U hU hW => ⟨rfl, (hX.moved hW.alike).kept (by rw [hU]; exact hS.2.1 b hbl (Nat.not_le.mpr hbl))⟩⟩ rfl rfl hrl rfl (by show 2 * 0 + _ ≤ 8; omega) dd ⟨hcl, hsl⟩
  intro T hT X
  obtain ⟨v, st₀, t, T', L1, g0, X', hL1, e1, e2, ⟨hv, hz⟩, st⟩ := hr T hT X
  cases hv
  obtain ⟨t2, a1, b1⟩ := kk (locs ++ L1) ⟨hS.1, hS.2.1, fun q hq => by
      rcases List.mem_append.mp hq with h | h
      · exact hS.2.2 q h
      · exact absurd (hL1 q h) (fun z => z)⟩ T' (by rw [e1, hz, g0]) X'
  exact ⟨t2, st t2 a1, b1⟩
/-- a new object of one of the two worlds -/
theorem L_new {ci idx pc j : Nat} (C0 : lw_At p s m meth c b L xs) (hE : Ev M s) (hB : H.size = pB M) (hci : ci < 13) (hsh : (shp (pW M) 0).1 = ci) (hcp : 0 < cap (pW M)) (hj : tw j (.classLink R_law idx (cR ci)) = true) (hS : va_S (Hi s) s.heap H locs) (hcl : cells + 1 ≤ room_1.cells) (hsl : slots + clsN ci ≤ room_1.slots) (dd : decode code pc = .ok (.new idx, 3)) (kk : ∀ H1 : Heap, Rel M (hNew h00) H1 → va_S (Hi s) s.heap H1 locs → H1.size = H.size + 1 → (∀ q : Nat, q < H.size → H1[q]? = H[q]?) → W p l e room_1 s m #[Value.ref b] below meth c H1 locs (cells + 1) (slots + clsN ci) Q (F0 m (pc + 3) rls (.ref (pB M) :: rest))) : W p l e room_1 s m #[Value.ref b] below meth c H locs cells slots Q (F0 m pc rls rest) := by
  obtain ⟨hx, hb, hr0, hml, hown, hts, hX, hbl, hlk, hgv⟩ := C0
  have htg := gw_in hts
  have hKn := hE.1.1 ci _ (cls_at ci hci)
  refine W.newcK hx hb hown (htg _ (tw_in hj)) (htg _ (cls_is ci hci).1) (htg _ (cls_is ci hci).2) rfl dd hcl hsl hKn.2.1 hB fun H1 kC hkC e1 z1 o1 => ?_
  have hR0 : Rel M h00 H := ⟨fun c hc => absurd hc (Nat.not_lt_zero c), by rw [hB]; exact Nat.le_refl _, fun _ => hB, Nat.zero_le _⟩
  rw [← hB] at z1 o1
  have hn2 := shp_n (w := pW M) (c := 0) (by rw [hsh]; exact hci)
  rw [hsh] at hn2
  have hrl : Rel M (hNew h00) H1 := by
    refine hR0.new hcp z1 o1 ?_
    show RC M (hNew h00) H1 0
    unfold RC
    rw [hsh, if_pos (by omega), hn2]
    refine (u_born (fT ci) htg (cls_in ci hci) hKn hkC e1 (cls_ty ci hci)).to (fun j hj => ?_)
    unfold fv
    rw [show hI (hNew h00) 0 j = 0 from rfl, show hL (hNew h00) 0 j = 0 from rfl, show hR (hNew h00) 0 j = none from rfl]
    have := cls_tk ci hci j hj
    cases hft : fT ci j <;> first | rfl | (rw [hft] at this; cases this)
  exact kk H1 hrl ⟨by rw [z1]; exact Nat.le_trans hS.1 (Nat.le_add_right _ _), fun x g1 g2 => (o1 x (Nat.lt_of_lt_of_le g1 hS.1)).trans (hS.2.1 x g1 g2), hS.2.2⟩ z1 o1
/-- its constructor -/
theorem L_init {k idx pc n d j : Nat} {vs : List Value} {h h' : Hp} (C0 : lw_At p s m meth c b L xs) (hE : Ev M s) (hB : s.heap.size ≤ pB M) (hRl : Rel M h H) (hS : va_S (Hi s) s.heap H locs) (h0 : 0 < hN h) (hrun : run (pW M) n d k 0 (entry (.ref 0 :: vs) (mL k)) [] h = some (none, h')) (hd : d ≤ 100) (hk : k < 232) (hi : mS k = false) (hnm : (mY k).name = "<init>") (hmr : mR k = none) (hj : tw j (.methodLink R_law idx (mY k)) = true) (hn : vs.length = mP k) (hlay : (lay (.ref 0 :: vs)).length ≤ mL k) (hrl : rls.size = 4) (hcs : (rest.map fun v => v.category).sum ≤ 8) (hcl : cells + (hN h' - hN h) ≤ room_1.cells) (hsl : slots + (sl (pW M) (hN h') - sl (pW M) (hN h)) ≤ room_1.slots) (dd : decode code pc = .ok (.invokespecial idx, 3)) (kk : ∀ (H1 : Heap) (locs1 : List Loc), Rel M h' H1 → va_S (Hi s) s.heap H1 locs1 → H.size ≤ H1.size → (∀ q : Nat, q < H.size → ¬ Own M q → H1[q]? = H[q]?) → W p l e room_1 s m #[Value.ref b] below meth c H1 locs1 (cells + (hN h' - hN h)) (slots + (sl (pW M) (hN h') - sl (pW M) (hN h))) Q (F0 m (pc + 3) rls rest)) : W p l e room_1 s m #[Value.ref b] below meth c H locs cells slots Q (F0 m pc rls ((vs.map (tr M)).reverse ++ .ref (pB M) :: rest)) := by
  obtain ⟨hx, hb, hr0, hml, hown, hts, hX, hbl, hlk, hgv⟩ := C0
  have htg := gw_in hts
  have cm := (ckAll.2 k hk).1
  obtain ⟨cm1, cm2, cm3, cm4, cm5, cm6, cm7, cm8⟩ := ckM_of cm
  have hM := sim (l := l) (M := M) ckAll (strs l M) hrun hk hlay
  have hSo : va_S (Own M) s.heap H [] := ⟨hS.1, fun q h1 _ => hS.2.1 q h1 (Nat.not_le.mpr h1), fun q hq => by cases hq⟩
  have ea : ad M 0 = pB M := ad_lt hRl h0
  have el : (Value.ref 0 :: vs).map (tr M) = .ref (pB M) :: vs.map (tr M) := by
    show Value.ref (ad M 0) :: _ = _
    rw [ea]
  have hpre : ∀ U : State, U.heap = H → s.WarmedH U.vm → PcA M (.ref 0 :: vs) h (.ref (pB M) :: vs.map (tr M)).toArray U := fun U hU hW => ⟨by rw [el], by rw [hU]; exact hRl, hE.go hSo hU hW⟩
  have hrun2 := va_runI (b := pB M) (As := vs.map (tr M)) (rest := rest) (g := F0 m pc rls ((vs.map (tr M)).reverse ++ .ref (pB M) :: rest)) (H := H) (locs := locs) (cells := cells) (slots := slots) (e := e) (below := below) (meth := meth) (⟨hx, hb, hml, hown, htg⟩ : CallFix p m c code 4 s #[Value.ref b] gw R_law) hM ⟨callB_of (mP k) htg (wsk_good cm) (show wsk k = Cond.code (mY k) (mC k) (mL k) none :: gw by rw [← hmr]; rfl) rfl rfl (htg _ cm2) (htg _ (tw_in hj)) cm6 ⟨by show d + 1 ≤ 2048; omega, by show 8 + (mL k + 11) + (64 * d + 64) ≤ 84000; omega⟩, hnm, htg _ (cm4 hi)⟩ ⟨PcA_blind _, hpre⟩ rfl (by rw [List.length_map]; exact hn) hrl rfl (by show 2 * 0 + _ ≤ 8; omega) dd ⟨hcl, hsl⟩
  exact L_run hB hrun2 hS kk
def lwK (w k idx j : Nat) : Bool := decide (k < 232) && !(mS k) && tw (ws_ k) (.selects (mY k).cls (mY k) (mY k)) && tw j (.methodLink R_law idx (mY k)) && decide ((mY k).cls = cR (mCi k)) && decide (mCi k < 13) && decide ((shp w 0).1 = mCi k)
/-- a call of one of its methods -/
theorem L_call {k idx pc j : Nat} {vs : List Value} {v : Int32} {h h' : Hp} (C0 : lw_At p s m meth c b L xs) (hE : Ev M s) (hB : s.heap.size ≤ pB M) (hRl : Rel M h H) (hS : va_S (Hi s) s.heap H locs) (hr : Rn (pW M) k vs h v h') (hw : WF (pW M) h) (hw' : WF (pW M) h') (hkk : lwK (pW M) k idx j = true) (hn : vs.length = mP k) (hlay : (lay (.ref 0 :: vs)).length ≤ mL k) (hrl : rls.size = 4) (hcs : (rest.map fun v => v.category).sum ≤ 8) (hcl : cells ≤ room_1.cells) (hsl : slots ≤ room_1.slots) (dd : decode code pc = .ok (.invokevirtual idx, 3)) (kk : ∀ (H1 : Heap) (locs1 : List Loc), Rel M h' H1 → va_S (Hi s) s.heap H1 locs1 → H.size ≤ H1.size → (∀ q : Nat, q < H.size → ¬ Own M q → H1[q]? = H[q]?) → W p l e room_1 s m #[Value.ref b] below meth c H1 locs1 cells slots Q (F0 m (pc + 3) rls (.int v :: rest))) : W p l e room_1 s m #[Value.ref b] below meth c H locs cells slots Q (F0 m pc rls ((vs.map (tr M)).reverse ++ .ref (pB M) :: rest)) := by
  obtain ⟨hx, hb, hr0, hml, hown, hts, hX, hbl, hlk, hgv⟩ := C0
  have htg := gw_in hts
  unfold lwK at hkk
  simp only [Bool.and_eq_true, Bool.not_eq_true'] at hkk
  obtain ⟨⟨⟨⟨⟨⟨w1, w2⟩, w3⟩, w4⟩, w5⟩, w6⟩, w7⟩ := hkk
  have hk := of_decide_eq_true w1
  have cm := (ckAll.2 k hk).1
  obtain ⟨cm1, cm2, cm3, cm4, cm5, cm6, cm7, cm8⟩ := ckM_of cm
  obtain ⟨n, hrun⟩ := hr
  have hM := sim (l := l) (M := M) ckAll (strs l M) hrun hk hlay
  have eN : hN h' = hN h := hw'.1.trans hw.1.symm
  rw [eN, Nat.sub_self, Nat.sub_self] at hM
  have h0 : 0 < hN h := by
    show 0 < h.2.2.2
    rw [hw.1]
    unfold cap
    cases Nat.beq (pW M) 0 <;> decide
  obtain ⟨cell, q1, q2, q3, q4⟩ := (hRl.1 0 h0).obj (of_decide_eq_true w7) (of_decide_eq_true w6)
  have hcl2 : s.vm.findClass (mY k).cls = some cell.cls := by
    rw [of_decide_eq_true w5, q2]
    exact (hE.1.1 (mCi k) _ (cls_at _ (of_decide_eq_true w6))).2.1
  have hSo : va_S (Own M) s.heap H [] := ⟨hS.1, fun q h1 _ => hS.2.1 q h1 (Nat.not_le.mpr h1), fun q hq => by cases hq⟩
  have ea : ad M 0 = pB M := ad_lt hRl h0
  have el : (Value.ref 0 :: vs).map (tr M) = .ref (pB M) :: vs.map (tr M) := by
    show Value.ref (ad M 0) :: _ = _
    rw [ea]
  have hpre : ∀ U : State, U.heap = H → s.WarmedH U.vm → PcA M (.ref 0 :: vs) h (.ref (pB M) :: vs.map (tr M)).toArray U := fun U hU hW => ⟨by rw [el], by rw [hU]; exact hRl, hE.go hSo hU hW⟩
  have hrun2 := va_runV (C := (mY k).cls) (b := pB M) (As := vs.map (tr M)) (rest := rest) (g := F0 m pc rls ((vs.map (tr M)).reverse ++ .ref (pB M) :: rest)) (H := H) (locs := locs) (cells := cells) (slots := slots) (e := e) (below := below) (meth := meth) (⟨hx, hb, hml, hown, htg⟩ : CallFix p m c code 4 s #[Value.ref b] gw R_law) hM ⟨callB_of (mP k) htg (wsk_good cm) rfl rfl rfl (htg _ cm2) (htg _ (tw_in w4)) cm6 ⟨by show 100 + 1 ≤ 2048; omega, by show 8 + (mL k + 11) + (64 * 100 + 64) ≤ 84000; omega⟩, htg _ (cm4 w2), htg _ (tw_in w3)⟩ ⟨PcA_blind _, ⟨cell, q1, by rw [q3]; rfl, hcl2⟩, hpre⟩ rfl (by rw [List.length_map]; exact hn) hrl rfl (by show 2 * 0 + _ ≤ 8; omega) dd ⟨hcl, hsl⟩
  exact L_run hB hrun2 hS kk
end LW
