/-! ===== the law's loop and its start ===== -/
theorem lw_loop {p : Program} {l : Launch} {e : Env} {s : State} {m : MethodId} {below : List Frame} {meth : Method} {c : Code} {b L : Nat} {xs : Nat → Int32} {q : Px} {Bx Bm n : Nat} (fx : Fx p s m meth c b L xs q Bx Bm) : ∀ (f i K : Nat) (gx gm : Hp) (H : Heap) (locs : List Loc) (rls : Array Slot), L < i + 6 * f → i ≤ 3079 → K ≤ 4 * i → St s q Bx Bm n K gx gm H locs → lv_has rls 4 [(3, .int (nI i)), (2, .ref Bm), (1, .ref Bx), (0, .ref b)] → W p l e room_1 s m #[Value.ref b] below meth c H locs 600000 7302250 (lw_Z below #[Value.ref b] s) (F0 m 28 rls []) := by
  intro f
  induction f with
  | zero =>
    intro i K gx gm H locs rls hf hi hK st hl
    obtain ⟨C0, hL, ex, em, b1, b2⟩ := fx
    obtain ⟨hx, hb, hr0, hml, hown, hts, hX, hbl, hlk, hgv⟩ := id C0
    obtain ⟨rx, rm, hS, wx, wm, T, r⟩ := st
    have hbA : ¬ Hi s b := Nat.not_le.mpr hbl
    refine lv_iload_n hx hb dW28 rfl (lv_at hl 0 rfl) ?_
    refine lv_aload_n hx hb dW29 rfl (lv_at hl 3 rfl) ?_
    refine va_slen hx hb hX hbl hbA hS dW30 ?_
    refine lv_bipush (v := 6) hx hb dW31 (by decide) ?_
    refine lv_isub hx hb dW33 ?_
    refine lv_icmp_gt (tgt := 1026) hx hb dW34 (by decide) (fun z => ?_) (fun z => ?_)
    · refine lv_iconst (v := 1) hx hb dW1026 (by decide) ?_
      exact va_forget hS.2.2 (lw_ret hx hb hr0 hlk dW1027)
    · exfalso
      refine z ?_
      rw [ti_lt, show Int32.ofNat L = nI L from rfl, ti_sub (by rw [ti_nI (by omega)]; show _ ≤ (L : Int) - 6; omega) (by rw [ti_nI (by omega)]; show (L : Int) - 6 < _; omega), ti_nI (by omega), ti_nI (by omega)]
      show (L : Int) - 6 < _
      omega
  | succ f ih =>
    intro i K gx gm H locs rls hf hi hK st hl
    obtain ⟨C0, hL, ex, em, b1, b2⟩ := id fx
    obtain ⟨hx, hb, hr0, hml, hown, hts, hX, hbl, hlk, hgv⟩ := id C0
    obtain ⟨rx, rm, hS, wx, wm, T, r⟩ := id st
    have hbA : ¬ Hi s b := Nat.not_le.mpr hbl
    refine lv_iload_n hx hb dW28 rfl (lv_at hl 0 rfl) ?_
    refine lv_aload_n hx hb dW29 rfl (lv_at hl 3 rfl) ?_
    refine va_slen hx hb hX hbl hbA hS dW30 ?_
    refine lv_bipush (v := 6) hx hb dW31 (by decide) ?_
    refine lv_isub hx hb dW33 ?_
    refine lv_icmp_gt (tgt := 1026) hx hb dW34 (by decide) (fun z => ?_) (fun z => ?_)
    · refine lv_iconst (v := 1) hx hb dW1026 (by decide) ?_
      exact va_forget hS.2.2 (lw_ret hx hb hr0 hlk dW1027)
    · have hi6 : i + 6 ≤ L := by
        rw [ti_lt, show Int32.ofNat L = nI L from rfl, ti_sub (by rw [ti_nI (by omega)]; show _ ≤ (L : Int) - 6; omega) (by rw [ti_nI (by omega)]; show (L : Int) - 6 < _; omega), ti_nI (by omega), ti_nI (by omega)] at z
        have z : ¬ (L : Int) - 6 < (i : Int) := z
        omega
      have hKK : K + 24 < 1000000 := by omega
      have kk : NxW p l e s m b below meth c (lw_Z below #[Value.ref b] s) q Bx Bm n K rls := by
        intro H1 locs1 gx1 gm1 K1 st1 hK1
        refine lv_iinc (k := 0) (v := nI (i + 6)) (lv' := [(3, .int (nI (i + 6))), (2, .ref Bm), (1, .ref Bx), (0, .ref b)]) hx hb dW1020 hl rfl (nI_add i 6) (by decide) rfl (fun ls1 hl1 => ?_)
        refine lv_goto (tgt := 28) hx hb dW1023 (by decide) ?_
        exact ih (i + 6) K1 gx1 gm1 H1 locs1 ls1 (by omega) (by omega) (by omega) st1 hl1
      refine lv_aload_n hx hb dW37 rfl (lv_at hl 3 rfl) ?_
      refine lv_iload_n hx hb dW38 rfl (lv_at hl 0 rfl) ?_
      refine va_sld hx hb hX hbl hbA hS (vp_in_nI (show i < L by omega) (by omega)) dW39 ?_
      refine lv_bipush (v := 31) hx hb dW40 (by decide) ?_
      refine lv_iand hx hb dW42 ?_
      obtain ⟨r, hr, er⟩ := an31 (xs (nI i).toNatClampNeg)
      rw [er]
      rcases Nat.lt_or_ge r 28 with hr28 | hr28
      · obtain ⟨s1, s2, s3⟩ := sw_all r hr28
        refine lv_tableIn (tgt := swT r) hx hb dW43 s1 s2 s3 (by omega) ?_
        rcases (show r = 0 ∨ r = 1 ∨ r = 2 ∨ r = 3 ∨ r = 4 ∨ r = 5 ∨ r = 6 ∨ r = 7 ∨ r = 8 ∨ r = 9 ∨ r = 10 ∨ r = 11 ∨ r = 12 ∨ r = 13 ∨ r = 14 ∨ r = 15 ∨ r = 16 ∨ r = 17 ∨ r = 18 ∨ r = 19 ∨ r = 20 ∨ r = 21 ∨ r = 22 ∨ r = 23 ∨ r = 24 ∨ r = 25 ∨ r = 26 ∨ r = 27 by omega) with rfl | rfl | rfl | rfl | rfl | rfl | rfl | rfl | rfl | rfl | rfl | rfl | rfl | rfl | rfl | rfl | rfl | rfl | rfl | rfl | rfl | rfl | rfl | rfl | rfl | rfl | rfl | rfl
        · exact lc_depth fx st hl hi6 hKK kk
        · exact lc_rocks fx st hl hi6 hKK kk
        · exact lc_winds fx st hl hi6 hKK kk
        · exact lc_weigh fx st hl hi6 hKK kk
        · exact lc_feed fx st hl hi6 hKK kk
        · exact lc_end fx st hl hi6 hKK kk
        · exact lc_text fx st hl hi6 hKK kk
        · exact lc_fault fx st hl hi6 hKK kk
        · exact lc_by fx st hl hi6 hKK kk
        · exact lc_becomes fx st hl hi6 hKK kk
        · exact lc_go fx st hl hi6 hKK kk
        · exact lc_course fx st hl hi6 hKK kk
        · exact lc_sail fx st hl hi6 hKK kk
        · exact lc_undo fx st hl hi6 hKK kk
        · exact lc_ship fx st hl hi6 hKK kk
        · exact lc_reach fx st hl hi6 hKK kk
        · exact lc_kept fx st hl hi6 hKK kk
        · exact lc_think fx st hl hi6 hKK kk
        · exact lc_best fx st hl hi6 hKK kk
        · exact lc_between fx st hl hi6 hKK kk
        · exact lc_meet fx st hl hi6 hKK kk
        · exact lc_goods fx st hl hi6 hKK kk
        · exact lc_level fx st hl hi6 hKK kk
        · exact lc_leap fx st hl hi6 hKK kk
        · exact lc_aboard fx st hl hi6 hKK kk
        · exact lc_image fx st hl hi6 hKK kk
        · exact lc_back fx st hl hi6 hKK kk
        · exact lc_about fx st hl hi6 hKK kk
      · refine lv_tableOut (tgt := 1020) hx hb dW43 (Or.inr ?_) (by decide) ?_
        · rw [ti_nI (by omega)]; omega
        · exact kk H locs gx gm K st (by omega)
theorem jN7 : tw 105 (.classLink R_law 7 (cR 11)) = true := by decide +kernel
theorem jN18 : tw 1103 (.classLink R_law 18 (cR 12)) = true := by decide +kernel
theorem jI15 : tw 107 (.methodLink R_law 15 (mY 90)) = true := by decide +kernel
theorem jI20 : tw 1105 (.methodLink R_law 20 (mY 137)) = true := by decide +kernel
theorem slX : sl 0 73 - sl 0 1 ≤ 20000 := by decide +kernel
theorem slM : sl 1 15 - sl 1 1 ≤ 100000 := by decide +kernel
/-- the law's start -/
theorem whole_start {p : Program} {e : Env} {s : State} {m : MethodId} {below : List Frame} {meth : Method} {c : Code} (l : Launch) {b L : Nat} {xs : Nat → Int32} (hL : L ≤ 3073) (C0 : lw_At p s m meth c b L xs) : W p l e room_1 s m #[Value.ref b] below meth c s.heap [] 0 0 (lw_Z below #[Value.ref b] s) (entryFrame m ([Value.ref b] : List Value).toArray 4) := by
  obtain ⟨hx, hb, hr0, hml, hown, hts, hX, hbl, hlk, hgv⟩ := id C0
  obtain ⟨adK, D, cA, adV, hE⟩ := en_all hts hgv
  have hl := lv_entry ([.ref b]) (n := 4) (Nat.le_of_ble_eq_true rfl)
  rw [lg_entry_eq]
  generalize (lg_sl ([.ref b]) ++ List.replicate (4 - (lg_sl ([.ref b])).length) Slot.unset).toArray = ls at hl ⊢
  have hl : lv_has ls 4 [(0, .ref b)] := hl
  have ex : Ev (0, s.heap.size, adK, D, cA, adV) s := hE 0 _ (Nat.le_refl _)
  refine L_new (M := (0, s.heap.size, adK, D, cA, adV)) (ci := 11) (idx := 7) (rest := []) C0 ex rfl (by decide) rfl (show 0 < 73 by decide) jN7 va_S.rf (Nat.le_of_ble_eq_true rfl) (Nat.le_of_ble_eq_true rfl) dW0 (fun H1 r1 S1 z1 o1 => ?_)
  refine W.widen (k := 1) (n := 8) (Nat.le_of_ble_eq_true rfl) (Nat.le_of_ble_eq_true rfl) ?_
  refine lv_dup hx hb dW3 rfl ?_
  refine lv_aload_n hx hb dW4 rfl (lv_at hl 0 rfl) ?_
  refine lv_iconst (v := 0) hx hb dW5 (by decide) ?_
  refine L_cell hL C0 S1 hl.1 (Nat.le_of_ble_eq_true rfl) (Nat.le_of_ble_eq_true rfl) (Nat.le_of_ble_eq_true rfl) dW6 (fun locs1 S1 => ?_)
  obtain ⟨nf, rr, gx, eR, e0, nw⟩ := ctX (cl0 L xs)
  subst e0
  have n73 : hN gx = 73 := nw.1
  refine L_init (M := (0, s.heap.size, adK, D, cA, adV)) (k := 90) (idx := 15) (n := nf) (d := 60) (vs := [.int (cl0 L xs)]) (h := hNew h00) (h' := gx) (rest := [.ref s.heap.size]) C0 ex (Nat.le_refl _) r1 S1 (Nat.lt_of_lt_of_le Nat.zero_lt_one (Nat.le_refl _)) eR (by decide) (by decide) rfl rfl rfl jI15 rfl (Nat.le_of_ble_eq_true rfl) hl.1 (Nat.le_of_ble_eq_true rfl) ?_ ?_ dW9 (fun H2 locs2 r2 S2 z2 o2 => ?_)
  · rw [n73]; exact (Nat.le_of_ble_eq_true rfl)
  · show 8 + (sl 0 (hN gx) - sl 0 1) ≤ 7302250
    rw [n73]
    have := slX
    omega
  have w0 : WF 0 gx := Nw_WF nw
  refine W.widen (k := 100) (n := 30000) ?_ ?_ ?_
  · rw [n73]; exact (Nat.le_of_ble_eq_true rfl)
  · show 8 + (sl 0 (hN gx) - sl 0 1) ≤ 30000
    rw [n73]
    have := slX
    omega
  have hsz : s.heap.size + 73 ≤ H2.size := by
    have := r2.2.1
    rw [n73] at this
    exact this
  refine lv_astore_n (lv' := [(1, .ref s.heap.size), (0, .ref b)]) hx hb dW12 rfl hl (by decide) rfl (fun ls hl => ?_)
  have em : Ev (1, H2.size, adK, D, cA, adV) s := hE 1 _ (by omega)
  refine L_new (M := (1, H2.size, adK, D, cA, adV)) (ci := 12) (idx := 18) (rest := []) C0 em rfl (by decide) rfl (show 0 < 15 by decide) jN18 S2 (Nat.le_of_ble_eq_true rfl) (Nat.le_of_ble_eq_true rfl) dW13 (fun H3 r3 S3 z3 o3 => ?_)
  have q3 : Rel (0, s.heap.size, adK, D, cA, adV) gx H3 := Rel_o (q' := (adK, D, cA, adV)) (w' := 1) (B' := H2.size) r2 w0 (by omega) (fun a ha _ => o3 a ha) (Ow_mx hsz)
  refine W.widen (k := 101) (n := 40000) (Nat.le_of_ble_eq_true rfl) (Nat.le_of_ble_eq_true rfl) ?_
  refine lv_dup hx hb dW16 rfl ?_
  refine lv_aload_n hx hb dW17 rfl (lv_at hl 1 rfl) ?_
  refine lv_iconst (v := 0) hx hb dW18 (by decide) ?_
  refine L_cell hL C0 S3 hl.1 (Nat.le_of_ble_eq_true rfl) (Nat.le_of_ble_eq_true rfl) (Nat.le_of_ble_eq_true rfl) dW19 (fun locs3 S3 => ?_)
  obtain ⟨nm, rr, gm, eM, e0, nwm⟩ := ctM (d := 60) (cl0 L xs) (by decide)
  subst e0
  have w1 : WF 1 gm := nwm.1
  have n15 : hN gm = 15 := w1.1
  refine L_init (M := (1, H2.size, adK, D, cA, adV)) (k := 137) (idx := 20) (n := nm) (d := 60) (vs := [.int (cl0 L xs)]) (h := hNew h00) (h' := gm) (rest := [.ref H2.size]) C0 em (show s.heap.size ≤ H2.size by omega) r3 S3 (Nat.lt_of_lt_of_le Nat.zero_lt_one (Nat.le_refl _)) eM (by decide) (by decide) rfl rfl rfl jI20 rfl (Nat.le_of_ble_eq_true rfl) hl.1 (Nat.le_of_ble_eq_true rfl) ?_ ?_ dW22 (fun H4 locs4 r4 S4 z4 o4 => ?_)
  · rw [n15]; exact (Nat.le_of_ble_eq_true rfl)
  · show 40000 + (sl 1 (hN gm) - sl 1 1) ≤ 7302250
    rw [n15]
    have := slM
    omega
  refine W.widen (k := 600000) (n := 7302250) ?_ ?_ ?_
  · rw [n15]; exact (Nat.le_of_ble_eq_true rfl)
  · show 40000 + (sl 1 (hN gm) - sl 1 1) ≤ 7302250
    rw [n15]
    have := slM
    omega
  have q4 : Rel (0, s.heap.size, adK, D, cA, adV) gx H4 := Rel_o q3 w0 z4 o4 (Ow_mx hsz)
  refine lv_astore_n (lv' := [(2, .ref H2.size), (1, .ref s.heap.size), (0, .ref b)]) hx hb dW25 rfl hl (by decide) rfl (fun ls hl => ?_)
  refine lv_iconst (v := 1) hx hb dW26 (by decide) ?_
  refine lv_istore_n (lv' := [(3, .int 1), (2, .ref H2.size), (1, .ref s.heap.size), (0, .ref b)]) hx hb dW27 rfl hl (by decide) rfl (fun ls hl => ?_)
  exact lw_loop (q := (adK, D, cA, adV)) (n := clN (cl0 L xs)) ⟨C0, hL, ex, em, Nat.le_refl _, hsz⟩ (L + 1) 1 0 gx gm H4 locs4 ls (by omega) (by omega) (by omega) ⟨q4, r4, S4, w0, w1, _, Rl_first (clN_b _) nw nwm⟩ hl
