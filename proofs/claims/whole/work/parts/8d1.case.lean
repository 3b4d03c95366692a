/-! ===== the law: call by call ===== -/
theorem lwk_ship_0 : lwK 0 105 85 871 = true := by decide +kernel
theorem lwk_ship_1 : lwK 1 206 88 1452 = true := by decide +kernel
theorem lc_ship {p : Program} {l : Launch} {e : Env} {s : State} {m : MethodId} {below : List Frame} {meth : Method} {c : Code} {b L : Nat} {xs : Nat → Int32} {H : Heap} {locs : List Loc} {Q : State → Prop} {rls : Array Slot} {q : Px} {Bx Bm n K i : Nat} {gx gm : Hp} (fx : Fx p s m meth c b L xs q Bx Bm) (st : St s q Bx Bm n K gx gm H locs) (hl : lv_has rls 4 [(3, .int (nI i)), (2, .ref Bm), (1, .ref Bx), (0, .ref b)]) (hi : i + 6 ≤ L) (hK : K + 24 < 1000000) (kk : NxW p l e s m b below meth c Q q Bx Bm n K rls) : W p l e room_1 s m #[Value.ref b] below meth c H locs 600000 7302250 Q (F0 m 570 rls []) := by
  obtain ⟨C0, hL, ex, em, b1, b2⟩ := fx
  obtain ⟨rx, rm, hS, wx, wm, T, r⟩ := st
  have hx := C0.1
  have hb := C0.2.1
  have b3 : s.heap.size ≤ Bm := by omega
  obtain ⟨v, gx1, gm1, K1, T1, ax, am, wx1, wm1, r1, hK1⟩ := al_ship (xs (i + 1)) r wx wm hK
  refine lv_aload_n hx hb dW570 rfl (lv_at hl 2 rfl) ?_
  refine L_arg (k := 1) C0 hL hS hl rfl rfl (by omega) (by decide +kernel) dW571 dW572 dW573 dW574 dW575 ?_
  refine L_call (M := (0, Bx, q)) (vs := [.int (xs (i + 1))]) (rest := []) C0 ex b1 rx hS ax wx wx1 lwk_ship_0 rfl (Nat.le_of_ble_eq_true rfl) hl.1 (Nat.le_of_ble_eq_true rfl) (Nat.le_refl _) (Nat.le_refl _) dW576 (fun H1 locs1 rx1 S1 z1 o1 => ?_)
  have rm1 := Rel_o rm wm z1 o1 (Ow_xm b2)
  refine lv_aload_n hx hb dW579 rfl (lv_at hl 1 rfl) ?_
  refine L_arg (k := 1) C0 hL S1 hl rfl rfl (by omega) (by decide +kernel) dW580 dW581 dW582 dW583 dW584 ?_
  refine L_call (M := (1, Bm, q)) (vs := [.int (xs (i + 1))]) (rest := [.int v]) C0 em b3 rm1 S1 am wm wm1 lwk_ship_1 rfl (Nat.le_of_ble_eq_true rfl) hl.1 (Nat.le_of_ble_eq_true rfl) (Nat.le_refl _) (Nat.le_refl _) dW585 (fun H2 locs2 rm2 S2 z2 o2 => ?_)
  refine lv_icmp_eq (tgt := 1020) hx hb dW588 (by decide) (fun _ => ?_) (fun z => absurd rfl z)
  exact kk H2 locs2 gx1 gm1 K1 ⟨Rel_o rx1 wx1 z2 o2 (Ow_mx b2), rm2, S2, wx1, wm1, T1, r1⟩ hK1
theorem lwk_reach_0 : lwK 0 106 89 875 = true := by decide +kernel
theorem lwk_reach_1 : lwK 1 210 92 1456 = true := by decide +kernel
theorem lc_reach {p : Program} {l : Launch} {e : Env} {s : State} {m : MethodId} {below : List Frame} {meth : Method} {c : Code} {b L : Nat} {xs : Nat → Int32} {H : Heap} {locs : List Loc} {Q : State → Prop} {rls : Array Slot} {q : Px} {Bx Bm n K i : Nat} {gx gm : Hp} (fx : Fx p s m meth c b L xs q Bx Bm) (st : St s q Bx Bm n K gx gm H locs) (hl : lv_has rls 4 [(3, .int (nI i)), (2, .ref Bm), (1, .ref Bx), (0, .ref b)]) (hi : i + 6 ≤ L) (hK : K + 24 < 1000000) (kk : NxW p l e s m b below meth c Q q Bx Bm n K rls) : W p l e room_1 s m #[Value.ref b] below meth c H locs 600000 7302250 Q (F0 m 593 rls []) := by
  obtain ⟨C0, hL, ex, em, b1, b2⟩ := fx
  obtain ⟨rx, rm, hS, wx, wm, T, r⟩ := st
  have hx := C0.1
  have hb := C0.2.1
  have b3 : s.heap.size ≤ Bm := by omega
  obtain ⟨v, gx1, gm1, K1, T1, ax, am, wx1, wm1, r1, hK1⟩ := al_reach (xs (i + 1)) (xs (i + 2)) (xs (i + 3)) r wx wm hK
  refine lv_aload_n hx hb dW593 rfl (lv_at hl 2 rfl) ?_
  refine L_arg (k := 1) C0 hL hS hl rfl rfl (by omega) (by decide +kernel) dW594 dW595 dW596 dW597 dW598 ?_
  refine L_arg (k := 2) C0 hL hS hl rfl rfl (by omega) (by decide +kernel) dW599 dW600 dW601 dW602 dW603 ?_
  refine L_arg (k := 3) C0 hL hS hl rfl rfl (by omega) (by decide +kernel) dW604 dW605 dW606 dW607 dW608 ?_
  refine L_call (M := (0, Bx, q)) (vs := [.int (xs (i + 1)), .int (xs (i + 2)), .int (xs (i + 3))]) (rest := []) C0 ex b1 rx hS ax wx wx1 lwk_reach_0 rfl (Nat.le_of_ble_eq_true rfl) hl.1 (Nat.le_of_ble_eq_true rfl) (Nat.le_refl _) (Nat.le_refl _) dW609 (fun H1 locs1 rx1 S1 z1 o1 => ?_)
  have rm1 := Rel_o rm wm z1 o1 (Ow_xm b2)
  refine lv_aload_n hx hb dW612 rfl (lv_at hl 1 rfl) ?_
  refine L_arg (k := 1) C0 hL S1 hl rfl rfl (by omega) (by decide +kernel) dW613 dW614 dW615 dW616 dW617 ?_
  refine L_arg (k := 2) C0 hL S1 hl rfl rfl (by omega) (by decide +kernel) dW618 dW619 dW620 dW621 dW622 ?_
  refine L_arg (k := 3) C0 hL S1 hl rfl rfl (by omega) (by decide +kernel) dW623 dW624 dW625 dW626 dW627 ?_
  refine L_call (M := (1, Bm, q)) (vs := [.int (xs (i + 1)), .int (xs (i + 2)), .int (xs (i + 3))]) (rest := [.int v]) C0 em b3 rm1 S1 am wm wm1 lwk_reach_1 rfl (Nat.le_of_ble_eq_true rfl) hl.1 (Nat.le_of_ble_eq_true rfl) (Nat.le_refl _) (Nat.le_refl _) dW628 (fun H2 locs2 rm2 S2 z2 o2 => ?_)
  refine lv_icmp_eq (tgt := 1020) hx hb dW631 (by decide) (fun _ => ?_) (fun z => absurd rfl z)
  exact kk H2 locs2 gx1 gm1 K1 ⟨Rel_o rx1 wx1 z2 o2 (Ow_mx b2), rm2, S2, wx1, wm1, T1, r1⟩ hK1
theorem lwk_kept_0 : lwK 0 107 93 945 = true := by decide +kernel
theorem lwk_kept_1 : lwK 1 214 96 1479 = true := by decide +kernel
theorem lc_kept {p : Program} {l : Launch} {e : Env} {s : State} {m : MethodId} {below : List Frame} {meth : Method} {c : Code} {b L : Nat} {xs : Nat → Int32} {H : Heap} {locs : List Loc} {Q : State → Prop} {rls : Array Slot} {q : Px} {Bx Bm n K i : Nat} {gx gm : Hp} (fx : Fx p s m meth c b L xs q Bx Bm) (st : St s q Bx Bm n K gx gm H locs) (hl : lv_has rls 4 [(3, .int (nI i)), (2, .ref Bm), (1, .ref Bx), (0, .ref b)]) (hi : i + 6 ≤ L) (hK : K + 24 < 1000000) (kk : NxW p l e s m b below meth c Q q Bx Bm n K rls) : W p l e room_1 s m #[Value.ref b] below meth c H locs 600000 7302250 Q (F0 m 636 rls []) := by
  obtain ⟨C0, hL, ex, em, b1, b2⟩ := fx
  obtain ⟨rx, rm, hS, wx, wm, T, r⟩ := st
  have hx := C0.1
  have hb := C0.2.1
  have b3 : s.heap.size ≤ Bm := by omega
  obtain ⟨v, gx1, gm1, K1, T1, ax, am, wx1, wm1, r1, hK1⟩ := al_kept (xs (i + 1)) (xs (i + 2)) r wx wm hK
  refine lv_aload_n hx hb dW636 rfl (lv_at hl 2 rfl) ?_
  refine L_arg (k := 1) C0 hL hS hl rfl rfl (by omega) (by decide +kernel) dW637 dW638 dW639 dW640 dW641 ?_
  refine L_arg (k := 2) C0 hL hS hl rfl rfl (by omega) (by decide +kernel) dW642 dW643 dW644 dW645 dW646 ?_
  refine L_call (M := (0, Bx, q)) (vs := [.int (xs (i + 1)), .int (xs (i + 2))]) (rest := []) C0 ex b1 rx hS ax wx wx1 lwk_kept_0 rfl (Nat.le_of_ble_eq_true rfl) hl.1 (Nat.le_of_ble_eq_true rfl) (Nat.le_refl _) (Nat.le_refl _) dW647 (fun H1 locs1 rx1 S1 z1 o1 => ?_)
  have rm1 := Rel_o rm wm z1 o1 (Ow_xm b2)
  refine lv_aload_n hx hb dW650 rfl (lv_at hl 1 rfl) ?_
  refine L_arg (k := 1) C0 hL S1 hl rfl rfl (by omega) (by decide +kernel) dW651 dW652 dW653 dW654 dW655 ?_
  refine L_arg (k := 2) C0 hL S1 hl rfl rfl (by omega) (by decide +kernel) dW656 dW657 dW658 dW659 dW660 ?_
  refine L_call (M := (1, Bm, q)) (vs := [.int (xs (i + 1)), .int (xs (i + 2))]) (rest := [.int v]) C0 em b3 rm1 S1 am wm wm1 lwk_kept_1 rfl (Nat.le_of_ble_eq_true rfl) hl.1 (Nat.le_of_ble_eq_true rfl) (Nat.le_refl _) (Nat.le_refl _) dW661 (fun H2 locs2 rm2 S2 z2 o2 => ?_)
  refine lv_icmp_eq (tgt := 1020) hx hb dW664 (by decide) (fun _ => ?_) (fun z => absurd rfl z)
  exact kk H2 locs2 gx1 gm1 K1 ⟨Rel_o rx1 wx1 z2 o2 (Ow_mx b2), rm2, S2, wx1, wm1, T1, r1⟩ hK1
theorem lwk_think_0 : lwK 0 108 97 984 = true := by decide +kernel
theorem lwk_think_1 : lwK 1 215 100 1499 = true := by decide +kernel
theorem lc_think {p : Program} {l : Launch} {e : Env} {s : State} {m : MethodId} {below : List Frame} {meth : Method} {c : Code} {b L : Nat} {xs : Nat → Int32} {H : Heap} {locs : List Loc} {Q : State → Prop} {rls : Array Slot} {q : Px} {Bx Bm n K i : Nat} {gx gm : Hp} (fx : Fx p s m meth c b L xs q Bx Bm) (st : St s q Bx Bm n K gx gm H locs) (hl : lv_has rls 4 [(3, .int (nI i)), (2, .ref Bm), (1, .ref Bx), (0, .ref b)]) (hi : i + 6 ≤ L) (hK : K + 24 < 1000000) (kk : NxW p l e s m b below meth c Q q Bx Bm n K rls) : W p l e room_1 s m #[Value.ref b] below meth c H locs 600000 7302250 Q (F0 m 669 rls []) := by
  obtain ⟨C0, hL, ex, em, b1, b2⟩ := fx
  obtain ⟨rx, rm, hS, wx, wm, T, r⟩ := st
  have hx := C0.1
  have hb := C0.2.1
  have b3 : s.heap.size ≤ Bm := by omega
  obtain ⟨v, gx1, gm1, K1, T1, ax, am, wx1, wm1, r1, hK1⟩ := al_think r wx wm hK
  refine lv_aload_n hx hb dW669 rfl (lv_at hl 2 rfl) ?_
  refine L_call (M := (0, Bx, q)) (vs := []) (rest := []) C0 ex b1 rx hS ax wx wx1 lwk_think_0 rfl (Nat.le_of_ble_eq_true rfl) hl.1 (Nat.le_of_ble_eq_true rfl) (Nat.le_refl _) (Nat.le_refl _) dW670 (fun H1 locs1 rx1 S1 z1 o1 => ?_)
  have rm1 := Rel_o rm wm z1 o1 (Ow_xm b2)
  refine lv_aload_n hx hb dW673 rfl (lv_at hl 1 rfl) ?_
  refine L_call (M := (1, Bm, q)) (vs := []) (rest := [.int v]) C0 em b3 rm1 S1 am wm wm1 lwk_think_1 rfl (Nat.le_of_ble_eq_true rfl) hl.1 (Nat.le_of_ble_eq_true rfl) (Nat.le_refl _) (Nat.le_refl _) dW674 (fun H2 locs2 rm2 S2 z2 o2 => ?_)
  refine lv_icmp_eq (tgt := 1020) hx hb dW677 (by decide) (fun _ => ?_) (fun z => absurd rfl z)
  exact kk H2 locs2 gx1 gm1 K1 ⟨Rel_o rx1 wx1 z2 o2 (Ow_mx b2), rm2, S2, wx1, wm1, T1, r1⟩ hK1
theorem lwk_best_0 : lwK 0 109 101 988 = true := by decide +kernel
theorem lwk_best_1 : lwK 1 216 104 1503 = true := by decide +kernel
theorem lc_best {p : Program} {l : Launch} {e : Env} {s : State} {m : MethodId} {below : List Frame} {meth : Method} {c : Code} {b L : Nat} {xs : Nat → Int32} {H : Heap} {locs : List Loc} {Q : State → Prop} {rls : Array Slot} {q : Px} {Bx Bm n K i : Nat} {gx gm : Hp} (fx : Fx p s m meth c b L xs q Bx Bm) (st : St s q Bx Bm n K gx gm H locs) (hl : lv_has rls 4 [(3, .int (nI i)), (2, .ref Bm), (1, .ref Bx), (0, .ref b)]) (hi : i + 6 ≤ L) (hK : K + 24 < 1000000) (kk : NxW p l e s m b below meth c Q q Bx Bm n K rls) : W p l e room_1 s m #[Value.ref b] below meth c H locs 600000 7302250 Q (F0 m 682 rls []) := by
  obtain ⟨C0, hL, ex, em, b1, b2⟩ := fx
  obtain ⟨rx, rm, hS, wx, wm, T, r⟩ := st
  have hx := C0.1
  have hb := C0.2.1
  have b3 : s.heap.size ≤ Bm := by omega
  obtain ⟨v, gx1, gm1, K1, T1, ax, am, wx1, wm1, r1, hK1⟩ := al_best (xs (i + 1)) r wx wm hK
  refine lv_aload_n hx hb dW682 rfl (lv_at hl 2 rfl) ?_
  refine L_arg (k := 1) C0 hL hS hl rfl rfl (by omega) (by decide +kernel) dW683 dW684 dW685 dW686 dW687 ?_
  refine L_call (M := (0, Bx, q)) (vs := [.int (xs (i + 1))]) (rest := []) C0 ex b1 rx hS ax wx wx1 lwk_best_0 rfl (Nat.le_of_ble_eq_true rfl) hl.1 (Nat.le_of_ble_eq_true rfl) (Nat.le_refl _) (Nat.le_refl _) dW688 (fun H1 locs1 rx1 S1 z1 o1 => ?_)
  have rm1 := Rel_o rm wm z1 o1 (Ow_xm b2)
  refine lv_aload_n hx hb dW691 rfl (lv_at hl 1 rfl) ?_
  refine L_arg (k := 1) C0 hL S1 hl rfl rfl (by omega) (by decide +kernel) dW692 dW693 dW694 dW695 dW696 ?_
  refine L_call (M := (1, Bm, q)) (vs := [.int (xs (i + 1))]) (rest := [.int v]) C0 em b3 rm1 S1 am wm wm1 lwk_best_1 rfl (Nat.le_of_ble_eq_true rfl) hl.1 (Nat.le_of_ble_eq_true rfl) (Nat.le_refl _) (Nat.le_refl _) dW697 (fun H2 locs2 rm2 S2 z2 o2 => ?_)
  refine lv_icmp_eq (tgt := 1020) hx hb dW700 (by decide) (fun _ => ?_) (fun z => absurd rfl z)
  exact kk H2 locs2 gx1 gm1 K1 ⟨Rel_o rx1 wx1 z2 o2 (Ow_mx b2), rm2, S2, wx1, wm1, T1, r1⟩ hK1
theorem lwk_between_0 : lwK 0 110 105 1001 = true := by decide +kernel
theorem lwk_between_1 : lwK 1 219 109 1508 = true := by decide +kernel
theorem lc_between {p : Program} {l : Launch} {e : Env} {s : State} {m : MethodId} {below : List Frame} {meth : Method} {c : Code} {b L : Nat} {xs : Nat → Int32} {H : Heap} {locs : List Loc} {Q : State → Prop} {rls : Array Slot} {q : Px} {Bx Bm n K i : Nat} {gx gm : Hp} (fx : Fx p s m meth c b L xs q Bx Bm) (st : St s q Bx Bm n K gx gm H locs) (hl : lv_has rls 4 [(3, .int (nI i)), (2, .ref Bm), (1, .ref Bx), (0, .ref b)]) (hi : i + 6 ≤ L) (hK : K + 24 < 1000000) (kk : NxW p l e s m b below meth c Q q Bx Bm n K rls) : W p l e room_1 s m #[Value.ref b] below meth c H locs 600000 7302250 Q (F0 m 705 rls []) := by
  obtain ⟨C0, hL, ex, em, b1, b2⟩ := fx
  obtain ⟨rx, rm, hS, wx, wm, T, r⟩ := st
  have hx := C0.1
  have hb := C0.2.1
  have b3 : s.heap.size ≤ Bm := by omega
  obtain ⟨v, gx1, gm1, K1, T1, ax, am, wx1, wm1, r1, hK1⟩ := al_between (xs (i + 1)) (xs (i + 2)) (xs (i + 3)) (bz (xs (i + 4))) r wx wm hK
  refine lv_aload_n hx hb dW705 rfl (lv_at hl 2 rfl) ?_
  refine L_arg (k := 1) C0 hL hS hl rfl rfl (by omega) (by decide +kernel) dW706 dW707 dW708 dW709 dW710 ?_
  refine L_arg (k := 2) C0 hL hS hl rfl rfl (by omega) (by decide +kernel) dW711 dW712 dW713 dW714 dW715 ?_
  refine L_arg (k := 3) C0 hL hS hl rfl rfl (by omega) (by decide +kernel) dW716 dW717 dW718 dW719 dW720 ?_
  refine L_arg (k := 4) C0 hL hS hl rfl rfl (by omega) (by decide +kernel) dW721 dW722 dW723 dW724 dW725 ?_
  refine L_bool hx hb dW726 dW729 dW730 dW733 ?_
  refine L_call (M := (0, Bx, q)) (vs := [.int (xs (i + 1)), .int (xs (i + 2)), .int (xs (i + 3)), .int (bz (xs (i + 4)))]) (rest := []) C0 ex b1 rx hS ax wx wx1 lwk_between_0 rfl (Nat.le_of_ble_eq_true rfl) hl.1 (Nat.le_of_ble_eq_true rfl) (Nat.le_refl _) (Nat.le_refl _) dW734 (fun H1 locs1 rx1 S1 z1 o1 => ?_)
  have rm1 := Rel_o rm wm z1 o1 (Ow_xm b2)
  refine lv_aload_n hx hb dW737 rfl (lv_at hl 1 rfl) ?_
  refine L_arg (k := 1) C0 hL S1 hl rfl rfl (by omega) (by decide +kernel) dW738 dW739 dW740 dW741 dW742 ?_
  refine L_arg (k := 2) C0 hL S1 hl rfl rfl (by omega) (by decide +kernel) dW743 dW744 dW745 dW746 dW747 ?_
  refine L_arg (k := 3) C0 hL S1 hl rfl rfl (by omega) (by decide +kernel) dW748 dW749 dW750 dW751 dW752 ?_
  refine L_arg (k := 4) C0 hL S1 hl rfl rfl (by omega) (by decide +kernel) dW753 dW754 dW755 dW756 dW757 ?_
  refine L_bool hx hb dW758 dW761 dW762 dW765 ?_
  refine L_call (M := (1, Bm, q)) (vs := [.int (xs (i + 1)), .int (xs (i + 2)), .int (xs (i + 3)), .int (bz (xs (i + 4)))]) (rest := [.int v]) C0 em b3 rm1 S1 am wm wm1 lwk_between_1 rfl (Nat.le_of_ble_eq_true rfl) hl.1 (Nat.le_of_ble_eq_true rfl) (Nat.le_refl _) (Nat.le_refl _) dW766 (fun H2 locs2 rm2 S2 z2 o2 => ?_)
  refine lv_icmp_eq (tgt := 1020) hx hb dW769 (by decide) (fun _ => ?_) (fun z => absurd rfl z)
  exact kk H2 locs2 gx1 gm1 K1 ⟨Rel_o rx1 wx1 z2 o2 (Ow_mx b2), rm2, S2, wx1, wm1, T1, r1⟩ hK1
theorem lwk_meet_0 : lwK 0 111 110 1013 = true := by decide +kernel
theorem lwk_meet_1 : lwK 1 220 114 1524 = true := by decide +kernel
theorem lc_meet {p : Program} {l : Launch} {e : Env} {s : State} {m : MethodId} {below : List Frame} {meth : Method} {c : Code} {b L : Nat} {xs : Nat → Int32} {H : Heap} {locs : List Loc} {Q : State → Prop} {rls : Array Slot} {q : Px} {Bx Bm n K i : Nat} {gx gm : Hp} (fx : Fx p s m meth c b L xs q Bx Bm) (st : St s q Bx Bm n K gx gm H locs) (hl : lv_has rls 4 [(3, .int (nI i)), (2, .ref Bm), (1, .ref Bx), (0, .ref b)]) (hi : i + 6 ≤ L) (hK : K + 24 < 1000000) (kk : NxW p l e s m b below meth c Q q Bx Bm n K rls) : W p l e room_1 s m #[Value.ref b] below meth c H locs 600000 7302250 Q (F0 m 774 rls []) := by
  obtain ⟨C0, hL, ex, em, b1, b2⟩ := fx
  obtain ⟨rx, rm, hS, wx, wm, T, r⟩ := st
  have hx := C0.1
  have hb := C0.2.1
  have b3 : s.heap.size ≤ Bm := by omega
  obtain ⟨v, gx1, gm1, K1, T1, ax, am, wx1, wm1, r1, hK1⟩ := al_meet (xs (i + 1)) (xs (i + 2)) (xs (i + 3)) (xs (i + 4)) r wx wm hK
  refine lv_aload_n hx hb dW774 rfl (lv_at hl 2 rfl) ?_
  refine L_arg (k := 1) C0 hL hS hl rfl rfl (by omega) (by decide +kernel) dW775 dW776 dW777 dW778 dW779 ?_
  refine L_arg (k := 2) C0 hL hS hl rfl rfl (by omega) (by decide +kernel) dW780 dW781 dW782 dW783 dW784 ?_
  refine L_arg (k := 3) C0 hL hS hl rfl rfl (by omega) (by decide +kernel) dW785 dW786 dW787 dW788 dW789 ?_
  refine L_arg (k := 4) C0 hL hS hl rfl rfl (by omega) (by decide +kernel) dW790 dW791 dW792 dW793 dW794 ?_
  refine L_call (M := (0, Bx, q)) (vs := [.int (xs (i + 1)), .int (xs (i + 2)), .int (xs (i + 3)), .int (xs (i + 4))]) (rest := []) C0 ex b1 rx hS ax wx wx1 lwk_meet_0 rfl (Nat.le_of_ble_eq_true rfl) hl.1 (Nat.le_of_ble_eq_true rfl) (Nat.le_refl _) (Nat.le_refl _) dW795 (fun H1 locs1 rx1 S1 z1 o1 => ?_)
  have rm1 := Rel_o rm wm z1 o1 (Ow_xm b2)
  refine lv_aload_n hx hb dW798 rfl (lv_at hl 1 rfl) ?_
  refine L_arg (k := 1) C0 hL S1 hl rfl rfl (by omega) (by decide +kernel) dW799 dW800 dW801 dW802 dW803 ?_
  refine L_arg (k := 2) C0 hL S1 hl rfl rfl (by omega) (by decide +kernel) dW804 dW805 dW806 dW807 dW808 ?_
  refine L_arg (k := 3) C0 hL S1 hl rfl rfl (by omega) (by decide +kernel) dW809 dW810 dW811 dW812 dW813 ?_
  refine L_arg (k := 4) C0 hL S1 hl rfl rfl (by omega) (by decide +kernel) dW814 dW815 dW816 dW817 dW818 ?_
  refine L_call (M := (1, Bm, q)) (vs := [.int (xs (i + 1)), .int (xs (i + 2)), .int (xs (i + 3)), .int (xs (i + 4))]) (rest := [.int v]) C0 em b3 rm1 S1 am wm wm1 lwk_meet_1 rfl (Nat.le_of_ble_eq_true rfl) hl.1 (Nat.le_of_ble_eq_true rfl) (Nat.le_refl _) (Nat.le_refl _) dW819 (fun H2 locs2 rm2 S2 z2 o2 => ?_)
  refine lv_icmp_eq (tgt := 1020) hx hb dW822 (by decide) (fun _ => ?_) (fun z => absurd rfl z)
  exact kk H2 locs2 gx1 gm1 K1 ⟨Rel_o rx1 wx1 z2 o2 (Ow_mx b2), rm2, S2, wx1, wm1, T1, r1⟩ hK1
theorem lwk_goods_0 : lwK 0 112 115 1021 = true := by decide +kernel
theorem lwk_goods_1 : lwK 1 221 118 1528 = true := by decide +kernel
theorem lc_goods {p : Program} {l : Launch} {e : Env} {s : State} {m : MethodId} {below : List Frame} {meth : Method} {c : Code} {b L : Nat} {xs : Nat → Int32} {H : Heap} {locs : List Loc} {Q : State → Prop} {rls : Array Slot} {q : Px} {Bx Bm n K i : Nat} {gx gm : Hp} (fx : Fx p s m meth c b L xs q Bx Bm) (st : St s q Bx Bm n K gx gm H locs) (hl : lv_has rls 4 [(3, .int (nI i)), (2, .ref Bm), (1, .ref Bx), (0, .ref b)]) (hi : i + 6 ≤ L) (hK : K + 24 < 1000000) (kk : NxW p l e s m b below meth c Q q Bx Bm n K rls) : W p l e room_1 s m #[Value.ref b] below meth c H locs 600000 7302250 Q (F0 m 827 rls []) := by
  obtain ⟨C0, hL, ex, em, b1, b2⟩ := fx
  obtain ⟨rx, rm, hS, wx, wm, T, r⟩ := st
  have hx := C0.1
  have hb := C0.2.1
  have b3 : s.heap.size ≤ Bm := by omega
  obtain ⟨v, gx1, gm1, K1, T1, ax, am, wx1, wm1, r1, hK1⟩ := al_goods (xs (i + 1)) r wx wm hK
  refine lv_aload_n hx hb dW827 rfl (lv_at hl 2 rfl) ?_
  refine L_arg (k := 1) C0 hL hS hl rfl rfl (by omega) (by decide +kernel) dW828 dW829 dW830 dW831 dW832 ?_
  refine L_call (M := (0, Bx, q)) (vs := [.int (xs (i + 1))]) (rest := []) C0 ex b1 rx hS ax wx wx1 lwk_goods_0 rfl (Nat.le_of_ble_eq_true rfl) hl.1 (Nat.le_of_ble_eq_true rfl) (Nat.le_refl _) (Nat.le_refl _) dW833 (fun H1 locs1 rx1 S1 z1 o1 => ?_)
  have rm1 := Rel_o rm wm z1 o1 (Ow_xm b2)
  refine lv_aload_n hx hb dW836 rfl (lv_at hl 1 rfl) ?_
  refine L_arg (k := 1) C0 hL S1 hl rfl rfl (by omega) (by decide +kernel) dW837 dW838 dW839 dW840 dW841 ?_
  refine L_call (M := (1, Bm, q)) (vs := [.int (xs (i + 1))]) (rest := [.int v]) C0 em b3 rm1 S1 am wm wm1 lwk_goods_1 rfl (Nat.le_of_ble_eq_true rfl) hl.1 (Nat.le_of_ble_eq_true rfl) (Nat.le_refl _) (Nat.le_refl _) dW842 (fun H2 locs2 rm2 S2 z2 o2 => ?_)
  refine lv_icmp_eq (tgt := 1020) hx hb dW845 (by decide) (fun _ => ?_) (fun z => absurd rfl z)
  exact kk H2 locs2 gx1 gm1 K1 ⟨Rel_o rx1 wx1 z2 o2 (Ow_mx b2), rm2, S2, wx1, wm1, T1, r1⟩ hK1
theorem lwk_level_0 : lwK 0 113 119 1025 = true := by decide +kernel
theorem lwk_level_1 : lwK 1 222 122 1532 = true := by decide +kernel
theorem lc_level {p : Program} {l : Launch} {e : Env} {s : State} {m : MethodId} {below : List Frame} {meth : Method} {c : Code} {b L : Nat} {xs : Nat → Int32} {H : Heap} {locs : List Loc} {Q : State → Prop} {rls : Array Slot} {q : Px} {Bx Bm n K i : Nat} {gx gm : Hp} (fx : Fx p s m meth c b L xs q Bx Bm) (st : St s q Bx Bm n K gx gm H locs) (hl : lv_has rls 4 [(3, .int (nI i)), (2, .ref Bm), (1, .ref Bx), (0, .ref b)]) (hi : i + 6 ≤ L) (hK : K + 24 < 1000000) (kk : NxW p l e s m b below meth c Q q Bx Bm n K rls) : W p l e room_1 s m #[Value.ref b] below meth c H locs 600000 7302250 Q (F0 m 850 rls []) := by
  obtain ⟨C0, hL, ex, em, b1, b2⟩ := fx
  obtain ⟨rx, rm, hS, wx, wm, T, r⟩ := st
  have hx := C0.1
  have hb := C0.2.1
  have b3 : s.heap.size ≤ Bm := by omega
  obtain ⟨v, gx1, gm1, K1, T1, ax, am, wx1, wm1, r1, hK1⟩ := al_level (xs (i + 1)) r wx wm hK
  refine lv_aload_n hx hb dW850 rfl (lv_at hl 2 rfl) ?_
  refine L_arg (k := 1) C0 hL hS hl rfl rfl (by omega) (by decide +kernel) dW851 dW852 dW853 dW854 dW855 ?_
  refine L_call (M := (0, Bx, q)) (vs := [.int (xs (i + 1))]) (rest := []) C0 ex b1 rx hS ax wx wx1 lwk_level_0 rfl (Nat.le_of_ble_eq_true rfl) hl.1 (Nat.le_of_ble_eq_true rfl) (Nat.le_refl _) (Nat.le_refl _) dW856 (fun H1 locs1 rx1 S1 z1 o1 => ?_)
  have rm1 := Rel_o rm wm z1 o1 (Ow_xm b2)
  refine lv_aload_n hx hb dW859 rfl (lv_at hl 1 rfl) ?_
  refine L_arg (k := 1) C0 hL S1 hl rfl rfl (by omega) (by decide +kernel) dW860 dW861 dW862 dW863 dW864 ?_
  refine L_call (M := (1, Bm, q)) (vs := [.int (xs (i + 1))]) (rest := [.int v]) C0 em b3 rm1 S1 am wm wm1 lwk_level_1 rfl (Nat.le_of_ble_eq_true rfl) hl.1 (Nat.le_of_ble_eq_true rfl) (Nat.le_refl _) (Nat.le_refl _) dW865 (fun H2 locs2 rm2 S2 z2 o2 => ?_)
  refine lv_icmp_eq (tgt := 1020) hx hb dW868 (by decide) (fun _ => ?_) (fun z => absurd rfl z)
  exact kk H2 locs2 gx1 gm1 K1 ⟨Rel_o rx1 wx1 z2 o2 (Ow_mx b2), rm2, S2, wx1, wm1, T1, r1⟩ hK1
theorem lwk_leap_0 : lwK 0 114 123 1040 = true := by decide +kernel
theorem lwk_leap_1 : lwK 1 224 127 1536 = true := by decide +kernel
theorem lc_leap {p : Program} {l : Launch} {e : Env} {s : State} {m : MethodId} {below : List Frame} {meth : Method} {c : Code} {b L : Nat} {xs : Nat → Int32} {H : Heap} {locs : List Loc} {Q : State → Prop} {rls : Array Slot} {q : Px} {Bx Bm n K i : Nat} {gx gm : Hp} (fx : Fx p s m meth c b L xs q Bx Bm) (st : St s q Bx Bm n K gx gm H locs) (hl : lv_has rls 4 [(3, .int (nI i)), (2, .ref Bm), (1, .ref Bx), (0, .ref b)]) (hi : i + 6 ≤ L) (hK : K + 24 < 1000000) (kk : NxW p l e s m b below meth c Q q Bx Bm n K rls) : W p l e room_1 s m #[Value.ref b] below meth c H locs 600000 7302250 Q (F0 m 873 rls []) := by
  obtain ⟨C0, hL, ex, em, b1, b2⟩ := fx
  obtain ⟨rx, rm, hS, wx, wm, T, r⟩ := st
  have hx := C0.1
  have hb := C0.2.1
  have b3 : s.heap.size ≤ Bm := by omega
  obtain ⟨v, gx1, gm1, K1, T1, ax, am, wx1, wm1, r1, hK1⟩ := al_leap (xs (i + 1)) (bz (xs (i + 2))) (bz_or _) r wx wm hK
  refine lv_aload_n hx hb dW873 rfl (lv_at hl 2 rfl) ?_
  refine L_arg (k := 1) C0 hL hS hl rfl rfl (by omega) (by decide +kernel) dW874 dW875 dW876 dW877 dW878 ?_
  refine L_arg (k := 2) C0 hL hS hl rfl rfl (by omega) (by decide +kernel) dW879 dW880 dW881 dW882 dW883 ?_
  refine L_bool hx hb dW884 dW887 dW888 dW891 ?_
  refine L_call (M := (0, Bx, q)) (vs := [.int (xs (i + 1)), .int (bz (xs (i + 2)))]) (rest := []) C0 ex b1 rx hS ax wx wx1 lwk_leap_0 rfl (Nat.le_of_ble_eq_true rfl) hl.1 (Nat.le_of_ble_eq_true rfl) (Nat.le_refl _) (Nat.le_refl _) dW892 (fun H1 locs1 rx1 S1 z1 o1 => ?_)
  have rm1 := Rel_o rm wm z1 o1 (Ow_xm b2)
  refine lv_aload_n hx hb dW895 rfl (lv_at hl 1 rfl) ?_
  refine L_arg (k := 1) C0 hL S1 hl rfl rfl (by omega) (by decide +kernel) dW896 dW897 dW898 dW899 dW900 ?_
  refine L_arg (k := 2) C0 hL S1 hl rfl rfl (by omega) (by decide +kernel) dW901 dW902 dW903 dW904 dW905 ?_
  refine L_bool hx hb dW906 dW909 dW910 dW913 ?_
  refine L_call (M := (1, Bm, q)) (vs := [.int (xs (i + 1)), .int (bz (xs (i + 2)))]) (rest := [.int v]) C0 em b3 rm1 S1 am wm wm1 lwk_leap_1 rfl (Nat.le_of_ble_eq_true rfl) hl.1 (Nat.le_of_ble_eq_true rfl) (Nat.le_refl _) (Nat.le_refl _) dW914 (fun H2 locs2 rm2 S2 z2 o2 => ?_)
  refine lv_icmp_eq (tgt := 1020) hx hb dW917 (by decide) (fun _ => ?_) (fun z => absurd rfl z)
  exact kk H2 locs2 gx1 gm1 K1 ⟨Rel_o rx1 wx1 z2 o2 (Ow_mx b2), rm2, S2, wx1, wm1, T1, r1⟩ hK1
theorem lwk_aboard_0 : lwK 0 115 128 1049 = true := by decide +kernel
theorem lwk_aboard_1 : lwK 1 225 131 1545 = true := by decide +kernel
theorem lc_aboard {p : Program} {l : Launch} {e : Env} {s : State} {m : MethodId} {below : List Frame} {meth : Method} {c : Code} {b L : Nat} {xs : Nat → Int32} {H : Heap} {locs : List Loc} {Q : State → Prop} {rls : Array Slot} {q : Px} {Bx Bm n K i : Nat} {gx gm : Hp} (fx : Fx p s m meth c b L xs q Bx Bm) (st : St s q Bx Bm n K gx gm H locs) (hl : lv_has rls 4 [(3, .int (nI i)), (2, .ref Bm), (1, .ref Bx), (0, .ref b)]) (hi : i + 6 ≤ L) (hK : K + 24 < 1000000) (kk : NxW p l e s m b below meth c Q q Bx Bm n K rls) : W p l e room_1 s m #[Value.ref b] below meth c H locs 600000 7302250 Q (F0 m 922 rls []) := by
  obtain ⟨C0, hL, ex, em, b1, b2⟩ := fx
  obtain ⟨rx, rm, hS, wx, wm, T, r⟩ := st
  have hx := C0.1
  have hb := C0.2.1
  have b3 : s.heap.size ≤ Bm := by omega
  obtain ⟨v, gx1, gm1, K1, T1, ax, am, wx1, wm1, r1, hK1⟩ := al_aboard (xs (i + 1)) (bz (xs (i + 2))) (bz_or _) r wx wm hK
  refine lv_aload_n hx hb dW922 rfl (lv_at hl 2 rfl) ?_
  refine L_arg (k := 1) C0 hL hS hl rfl rfl (by omega) (by decide +kernel) dW923 dW924 dW925 dW926 dW927 ?_
  refine L_arg (k := 2) C0 hL hS hl rfl rfl (by omega) (by decide +kernel) dW928 dW929 dW930 dW931 dW932 ?_
  refine L_bool hx hb dW933 dW936 dW937 dW940 ?_
  refine L_call (M := (0, Bx, q)) (vs := [.int (xs (i + 1)), .int (bz (xs (i + 2)))]) (rest := []) C0 ex b1 rx hS ax wx wx1 lwk_aboard_0 rfl (Nat.le_of_ble_eq_true rfl) hl.1 (Nat.le_of_ble_eq_true rfl) (Nat.le_refl _) (Nat.le_refl _) dW941 (fun H1 locs1 rx1 S1 z1 o1 => ?_)
  have rm1 := Rel_o rm wm z1 o1 (Ow_xm b2)
  refine lv_aload_n hx hb dW944 rfl (lv_at hl 1 rfl) ?_
  refine L_arg (k := 1) C0 hL S1 hl rfl rfl (by omega) (by decide +kernel) dW945 dW946 dW947 dW948 dW949 ?_
  refine L_arg (k := 2) C0 hL S1 hl rfl rfl (by omega) (by decide +kernel) dW950 dW951 dW952 dW953 dW954 ?_
  refine L_bool hx hb dW955 dW958 dW959 dW962 ?_
  refine L_call (M := (1, Bm, q)) (vs := [.int (xs (i + 1)), .int (bz (xs (i + 2)))]) (rest := [.int v]) C0 em b3 rm1 S1 am wm wm1 lwk_aboard_1 rfl (Nat.le_of_ble_eq_true rfl) hl.1 (Nat.le_of_ble_eq_true rfl) (Nat.le_refl _) (Nat.le_refl _) dW963 (fun H2 locs2 rm2 S2 z2 o2 => ?_)
  refine lv_icmp_eq (tgt := 1020) hx hb dW966 (by decide) (fun _ => ?_) (fun z => absurd rfl z)
  exact kk H2 locs2 gx1 gm1 K1 ⟨Rel_o rx1 wx1 z2 o2 (Ow_mx b2), rm2, S2, wx1, wm1, T1, r1⟩ hK1
theorem lwk_image_0 : lwK 0 116 132 1057 = true := by decide +kernel
theorem lwk_image_1 : lwK 1 226 135 1549 = true := by decide +kernel
theorem lc_image {p : Program} {l : Launch} {e : Env} {s : State} {m : MethodId} {below : List Frame} {meth : Method} {c : Code} {b L : Nat} {xs : Nat → Int32} {H : Heap} {locs : List Loc} {Q : State → Prop} {rls : Array Slot} {q : Px} {Bx Bm n K i : Nat} {gx gm : Hp} (fx : Fx p s m meth c b L xs q Bx Bm) (st : St s q Bx Bm n K gx gm H locs) (hl : lv_has rls 4 [(3, .int (nI i)), (2, .ref Bm), (1, .ref Bx), (0, .ref b)]) (hi : i + 6 ≤ L) (hK : K + 24 < 1000000) (kk : NxW p l e s m b below meth c Q q Bx Bm n K rls) : W p l e room_1 s m #[Value.ref b] below meth c H locs 600000 7302250 Q (F0 m 971 rls []) := by
  obtain ⟨C0, hL, ex, em, b1, b2⟩ := fx
  obtain ⟨rx, rm, hS, wx, wm, T, r⟩ := st
  have hx := C0.1
  have hb := C0.2.1
  have b3 : s.heap.size ≤ Bm := by omega
  obtain ⟨v, gx1, gm1, K1, T1, ax, am, wx1, wm1, r1, hK1⟩ := al_image r wx wm hK
  refine lv_aload_n hx hb dW971 rfl (lv_at hl 2 rfl) ?_
  refine L_call (M := (0, Bx, q)) (vs := []) (rest := []) C0 ex b1 rx hS ax wx wx1 lwk_image_0 rfl (Nat.le_of_ble_eq_true rfl) hl.1 (Nat.le_of_ble_eq_true rfl) (Nat.le_refl _) (Nat.le_refl _) dW972 (fun H1 locs1 rx1 S1 z1 o1 => ?_)
  have rm1 := Rel_o rm wm z1 o1 (Ow_xm b2)
  refine lv_aload_n hx hb dW975 rfl (lv_at hl 1 rfl) ?_
  refine L_call (M := (1, Bm, q)) (vs := []) (rest := [.int v]) C0 em b3 rm1 S1 am wm wm1 lwk_image_1 rfl (Nat.le_of_ble_eq_true rfl) hl.1 (Nat.le_of_ble_eq_true rfl) (Nat.le_refl _) (Nat.le_refl _) dW976 (fun H2 locs2 rm2 S2 z2 o2 => ?_)
  refine lv_icmp_eq (tgt := 1020) hx hb dW979 (by decide) (fun _ => ?_) (fun z => absurd rfl z)
  exact kk H2 locs2 gx1 gm1 K1 ⟨Rel_o rx1 wx1 z2 o2 (Ow_mx b2), rm2, S2, wx1, wm1, T1, r1⟩ hK1
theorem lwk_back_0 : lwK 0 117 136 1092 = true := by decide +kernel
theorem lwk_back_1 : lwK 1 227 139 1553 = true := by decide +kernel
theorem lc_back {p : Program} {l : Launch} {e : Env} {s : State} {m : MethodId} {below : List Frame} {meth : Method} {c : Code} {b L : Nat} {xs : Nat → Int32} {H : Heap} {locs : List Loc} {Q : State → Prop} {rls : Array Slot} {q : Px} {Bx Bm n K i : Nat} {gx gm : Hp} (fx : Fx p s m meth c b L xs q Bx Bm) (st : St s q Bx Bm n K gx gm H locs) (hl : lv_has rls 4 [(3, .int (nI i)), (2, .ref Bm), (1, .ref Bx), (0, .ref b)]) (hi : i + 6 ≤ L) (hK : K + 24 < 1000000) (kk : NxW p l e s m b below meth c Q q Bx Bm n K rls) : W p l e room_1 s m #[Value.ref b] below meth c H locs 600000 7302250 Q (F0 m 984 rls []) := by
  obtain ⟨C0, hL, ex, em, b1, b2⟩ := fx
  obtain ⟨rx, rm, hS, wx, wm, T, r⟩ := st
  have hx := C0.1
  have hb := C0.2.1
  have b3 : s.heap.size ≤ Bm := by omega
  obtain ⟨v, gx1, gm1, K1, T1, ax, am, wx1, wm1, r1, hK1⟩ := al_back r wx wm hK
  refine lv_aload_n hx hb dW984 rfl (lv_at hl 2 rfl) ?_
  refine L_call (M := (0, Bx, q)) (vs := []) (rest := []) C0 ex b1 rx hS ax wx wx1 lwk_back_0 rfl (Nat.le_of_ble_eq_true rfl) hl.1 (Nat.le_of_ble_eq_true rfl) (Nat.le_refl _) (Nat.le_refl _) dW985 (fun H1 locs1 rx1 S1 z1 o1 => ?_)
  have rm1 := Rel_o rm wm z1 o1 (Ow_xm b2)
  refine lv_aload_n hx hb dW988 rfl (lv_at hl 1 rfl) ?_
  refine L_call (M := (1, Bm, q)) (vs := []) (rest := [.int v]) C0 em b3 rm1 S1 am wm wm1 lwk_back_1 rfl (Nat.le_of_ble_eq_true rfl) hl.1 (Nat.le_of_ble_eq_true rfl) (Nat.le_refl _) (Nat.le_refl _) dW989 (fun H2 locs2 rm2 S2 z2 o2 => ?_)
  refine lv_icmp_eq (tgt := 1020) hx hb dW992 (by decide) (fun _ => ?_) (fun z => absurd rfl z)
  exact kk H2 locs2 gx1 gm1 K1 ⟨Rel_o rx1 wx1 z2 o2 (Ow_mx b2), rm2, S2, wx1, wm1, T1, r1⟩ hK1
theorem lwk_about_0 : lwK 0 118 140 1096 = true := by decide +kernel
theorem lwk_about_1 : lwK 1 228 143 1557 = true := by decide +kernel
theorem lc_about {p : Program} {l : Launch} {e : Env} {s : State} {m : MethodId} {below : List Frame} {meth : Method} {c : Code} {b L : Nat} {xs : Nat → Int32} {H : Heap} {locs : List Loc} {Q : State → Prop} {rls : Array Slot} {q : Px} {Bx Bm n K i : Nat} {gx gm : Hp} (fx : Fx p s m meth c b L xs q Bx Bm) (st : St s q Bx Bm n K gx gm H locs) (hl : lv_has rls 4 [(3, .int (nI i)), (2, .ref Bm), (1, .ref Bx), (0, .ref b)]) (hi : i + 6 ≤ L) (hK : K + 24 < 1000000) (kk : NxW p l e s m b below meth c Q q Bx Bm n K rls) : W p l e room_1 s m #[Value.ref b] below meth c H locs 600000 7302250 Q (F0 m 997 rls []) := by
  obtain ⟨C0, hL, ex, em, b1, b2⟩ := fx
  obtain ⟨rx, rm, hS, wx, wm, T, r⟩ := st
  have hx := C0.1
  have hb := C0.2.1
  have b3 : s.heap.size ≤ Bm := by omega
  obtain ⟨v, gx1, gm1, K1, T1, ax, am, wx1, wm1, r1, hK1⟩ := al_about (xs (i + 1)) r wx wm hK
  refine lv_aload_n hx hb dW997 rfl (lv_at hl 2 rfl) ?_
  refine L_arg (k := 1) C0 hL hS hl rfl rfl (by omega) (by decide +kernel) dW998 dW999 dW1000 dW1001 dW1002 ?_
  refine L_call (M := (0, Bx, q)) (vs := [.int (xs (i + 1))]) (rest := []) C0 ex b1 rx hS ax wx wx1 lwk_about_0 rfl (Nat.le_of_ble_eq_true rfl) hl.1 (Nat.le_of_ble_eq_true rfl) (Nat.le_refl _) (Nat.le_refl _) dW1003 (fun H1 locs1 rx1 S1 z1 o1 => ?_)
  have rm1 := Rel_o rm wm z1 o1 (Ow_xm b2)
  refine lv_aload_n hx hb dW1006 rfl (lv_at hl 1 rfl) ?_
  refine L_arg (k := 1) C0 hL S1 hl rfl rfl (by omega) (by decide +kernel) dW1007 dW1008 dW1009 dW1010 dW1011 ?_
  refine L_call (M := (1, Bm, q)) (vs := [.int (xs (i + 1))]) (rest := [.int v]) C0 em b3 rm1 S1 am wm wm1 lwk_about_1 rfl (Nat.le_of_ble_eq_true rfl) hl.1 (Nat.le_of_ble_eq_true rfl) (Nat.le_refl _) (Nat.le_refl _) dW1012 (fun H2 locs2 rm2 S2 z2 o2 => ?_)
  refine lv_icmp_eq (tgt := 1020) hx hb dW1015 (by decide) (fun _ => ?_) (fun z => absurd rfl z)
  exact kk H2 locs2 gx1 gm1 K1 ⟨Rel_o rx1 wx1 z2 o2 (Ow_mx b2), rm2, S2, wx1, wm1, T1, r1⟩ hK1
