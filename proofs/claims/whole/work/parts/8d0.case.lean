/-! ===== the law: call by call ===== -/
theorem lwk_depth_0 : lwK 0 91 21 484 = true := by decide +kernel
theorem lwk_depth_1 : lwK 1 149 25 1213 = true := by decide +kernel
theorem lc_depth {p : Program} {l : Launch} {e : Env} {s : State} {m : MethodId} {below : List Frame} {meth : Method} {c : Code} {b L : Nat} {xs : Nat → Int32} {H : Heap} {locs : List Loc} {Q : State → Prop} {rls : Array Slot} {q : Px} {Bx Bm n K i : Nat} {gx gm : Hp} (fx : Fx p s m meth c b L xs q Bx Bm) (st : St s q Bx Bm n K gx gm H locs) (hl : lv_has rls 4 [(3, .int (nI i)), (2, .ref Bm), (1, .ref Bx), (0, .ref b)]) (hi : i + 6 ≤ L) (hK : K + 24 < 1000000) (kk : NxW p l e s m b below meth c Q q Bx Bm n K rls) : W p l e room_1 s m #[Value.ref b] below meth c H locs 600000 7302250 Q (F0 m 168 rls []) := by
  obtain ⟨C0, hL, ex, em, b1, b2⟩ := fx
  obtain ⟨rx, rm, hS, wx, wm, T, r⟩ := st
  have hx := C0.1
  have hb := C0.2.1
  have b3 : s.heap.size ≤ Bm := by omega
  obtain ⟨v, gx1, gm1, K1, T1, ax, am, wx1, wm1, r1, hK1⟩ := al_depth (xs (i + 1)) (xs (i + 2)) (xs (i + 3)) r wx wm hK
  refine lv_aload_n hx hb dW168 rfl (lv_at hl 2 rfl) ?_
  refine L_arg (k := 1) C0 hL hS hl rfl rfl (by omega) (by decide +kernel) dW169 dW170 dW171 dW172 dW173 ?_
  refine L_arg (k := 2) C0 hL hS hl rfl rfl (by omega) (by decide +kernel) dW174 dW175 dW176 dW177 dW178 ?_
  refine L_arg (k := 3) C0 hL hS hl rfl rfl (by omega) (by decide +kernel) dW179 dW180 dW181 dW182 dW183 ?_
  refine L_call (M := (0, Bx, q)) (vs := [.int (xs (i + 1)), .int (xs (i + 2)), .int (xs (i + 3))]) (rest := []) C0 ex b1 rx hS ax wx wx1 lwk_depth_0 rfl (Nat.le_of_ble_eq_true rfl) hl.1 (Nat.le_of_ble_eq_true rfl) (Nat.le_refl _) (Nat.le_refl _) dW184 (fun H1 locs1 rx1 S1 z1 o1 => ?_)
  have rm1 := Rel_o rm wm z1 o1 (Ow_xm b2)
  refine lv_aload_n hx hb dW187 rfl (lv_at hl 1 rfl) ?_
  refine L_arg (k := 1) C0 hL S1 hl rfl rfl (by omega) (by decide +kernel) dW188 dW189 dW190 dW191 dW192 ?_
  refine L_arg (k := 2) C0 hL S1 hl rfl rfl (by omega) (by decide +kernel) dW193 dW194 dW195 dW196 dW197 ?_
  refine L_arg (k := 3) C0 hL S1 hl rfl rfl (by omega) (by decide +kernel) dW198 dW199 dW200 dW201 dW202 ?_
  refine L_call (M := (1, Bm, q)) (vs := [.int (xs (i + 1)), .int (xs (i + 2)), .int (xs (i + 3))]) (rest := [.int v]) C0 em b3 rm1 S1 am wm wm1 lwk_depth_1 rfl (Nat.le_of_ble_eq_true rfl) hl.1 (Nat.le_of_ble_eq_true rfl) (Nat.le_refl _) (Nat.le_refl _) dW203 (fun H2 locs2 rm2 S2 z2 o2 => ?_)
  refine lv_icmp_eq (tgt := 1020) hx hb dW206 (by decide) (fun _ => ?_) (fun z => absurd rfl z)
  exact kk H2 locs2 gx1 gm1 K1 ⟨Rel_o rx1 wx1 z2 o2 (Ow_mx b2), rm2, S2, wx1, wm1, T1, r1⟩ hK1
theorem lwk_rocks_0 : lwK 0 92 26 502 = true := by decide +kernel
theorem lwk_rocks_1 : lwK 1 150 30 1224 = true := by decide +kernel
theorem lc_rocks {p : Program} {l : Launch} {e : Env} {s : State} {m : MethodId} {below : List Frame} {meth : Method} {c : Code} {b L : Nat} {xs : Nat → Int32} {H : Heap} {locs : List Loc} {Q : State → Prop} {rls : Array Slot} {q : Px} {Bx Bm n K i : Nat} {gx gm : Hp} (fx : Fx p s m meth c b L xs q Bx Bm) (st : St s q Bx Bm n K gx gm H locs) (hl : lv_has rls 4 [(3, .int (nI i)), (2, .ref Bm), (1, .ref Bx), (0, .ref b)]) (hi : i + 6 ≤ L) (hK : K + 24 < 1000000) (kk : NxW p l e s m b below meth c Q q Bx Bm n K rls) : W p l e room_1 s m #[Value.ref b] below meth c H locs 600000 7302250 Q (F0 m 211 rls []) := by
  obtain ⟨C0, hL, ex, em, b1, b2⟩ := fx
  obtain ⟨rx, rm, hS, wx, wm, T, r⟩ := st
  have hx := C0.1
  have hb := C0.2.1
  have b3 : s.heap.size ≤ Bm := by omega
  obtain ⟨v, gx1, gm1, K1, T1, ax, am, wx1, wm1, r1, hK1⟩ := al_rocks (xs (i + 1)) r wx wm hK
  refine lv_aload_n hx hb dW211 rfl (lv_at hl 2 rfl) ?_
  refine L_arg (k := 1) C0 hL hS hl rfl rfl (by omega) (by decide +kernel) dW212 dW213 dW214 dW215 dW216 ?_
  refine L_call (M := (0, Bx, q)) (vs := [.int (xs (i + 1))]) (rest := []) C0 ex b1 rx hS ax wx wx1 lwk_rocks_0 rfl (Nat.le_of_ble_eq_true rfl) hl.1 (Nat.le_of_ble_eq_true rfl) (Nat.le_refl _) (Nat.le_refl _) dW217 (fun H1 locs1 rx1 S1 z1 o1 => ?_)
  have rm1 := Rel_o rm wm z1 o1 (Ow_xm b2)
  refine lv_aload_n hx hb dW220 rfl (lv_at hl 1 rfl) ?_
  refine L_arg (k := 1) C0 hL S1 hl rfl rfl (by omega) (by decide +kernel) dW221 dW222 dW223 dW224 dW225 ?_
  refine L_call (M := (1, Bm, q)) (vs := [.int (xs (i + 1))]) (rest := [.int v]) C0 em b3 rm1 S1 am wm wm1 lwk_rocks_1 rfl (Nat.le_of_ble_eq_true rfl) hl.1 (Nat.le_of_ble_eq_true rfl) (Nat.le_refl _) (Nat.le_refl _) dW226 (fun H2 locs2 rm2 S2 z2 o2 => ?_)
  refine lv_icmp_eq (tgt := 1020) hx hb dW229 (by decide) (fun _ => ?_) (fun z => absurd rfl z)
  exact kk H2 locs2 gx1 gm1 K1 ⟨Rel_o rx1 wx1 z2 o2 (Ow_mx b2), rm2, S2, wx1, wm1, T1, r1⟩ hK1
theorem lwk_winds_0 : lwK 0 93 31 506 = true := by decide +kernel
theorem lwk_winds_1 : lwK 1 151 35 1228 = true := by decide +kernel
theorem lc_winds {p : Program} {l : Launch} {e : Env} {s : State} {m : MethodId} {below : List Frame} {meth : Method} {c : Code} {b L : Nat} {xs : Nat → Int32} {H : Heap} {locs : List Loc} {Q : State → Prop} {rls : Array Slot} {q : Px} {Bx Bm n K i : Nat} {gx gm : Hp} (fx : Fx p s m meth c b L xs q Bx Bm) (st : St s q Bx Bm n K gx gm H locs) (hl : lv_has rls 4 [(3, .int (nI i)), (2, .ref Bm), (1, .ref Bx), (0, .ref b)]) (hi : i + 6 ≤ L) (hK : K + 24 < 1000000) (kk : NxW p l e s m b below meth c Q q Bx Bm n K rls) : W p l e room_1 s m #[Value.ref b] below meth c H locs 600000 7302250 Q (F0 m 234 rls []) := by
  obtain ⟨C0, hL, ex, em, b1, b2⟩ := fx
  obtain ⟨rx, rm, hS, wx, wm, T, r⟩ := st
  have hx := C0.1
  have hb := C0.2.1
  have b3 : s.heap.size ≤ Bm := by omega
  obtain ⟨v, gx1, gm1, K1, T1, ax, am, wx1, wm1, r1, hK1⟩ := al_winds (xs (i + 1)) (xs (i + 2)) r wx wm hK
  refine lv_aload_n hx hb dW234 rfl (lv_at hl 2 rfl) ?_
  refine L_arg (k := 1) C0 hL hS hl rfl rfl (by omega) (by decide +kernel) dW235 dW236 dW237 dW238 dW239 ?_
  refine L_arg (k := 2) C0 hL hS hl rfl rfl (by omega) (by decide +kernel) dW240 dW241 dW242 dW243 dW244 ?_
  refine L_call (M := (0, Bx, q)) (vs := [.int (xs (i + 1)), .int (xs (i + 2))]) (rest := []) C0 ex b1 rx hS ax wx wx1 lwk_winds_0 rfl (Nat.le_of_ble_eq_true rfl) hl.1 (Nat.le_of_ble_eq_true rfl) (Nat.le_refl _) (Nat.le_refl _) dW245 (fun H1 locs1 rx1 S1 z1 o1 => ?_)
  have rm1 := Rel_o rm wm z1 o1 (Ow_xm b2)
  refine lv_aload_n hx hb dW248 rfl (lv_at hl 1 rfl) ?_
  refine L_arg (k := 1) C0 hL S1 hl rfl rfl (by omega) (by decide +kernel) dW249 dW250 dW251 dW252 dW253 ?_
  refine L_arg (k := 2) C0 hL S1 hl rfl rfl (by omega) (by decide +kernel) dW254 dW255 dW256 dW257 dW258 ?_
  refine L_call (M := (1, Bm, q)) (vs := [.int (xs (i + 1)), .int (xs (i + 2))]) (rest := [.int v]) C0 em b3 rm1 S1 am wm wm1 lwk_winds_1 rfl (Nat.le_of_ble_eq_true rfl) hl.1 (Nat.le_of_ble_eq_true rfl) (Nat.le_refl _) (Nat.le_refl _) dW259 (fun H2 locs2 rm2 S2 z2 o2 => ?_)
  refine lv_icmp_eq (tgt := 1020) hx hb dW262 (by decide) (fun _ => ?_) (fun z => absurd rfl z)
  exact kk H2 locs2 gx1 gm1 K1 ⟨Rel_o rx1 wx1 z2 o2 (Ow_mx b2), rm2, S2, wx1, wm1, T1, r1⟩ hK1
theorem lwk_weigh_0 : lwK 0 94 36 514 = true := by decide +kernel
theorem lwk_weigh_1 : lwK 1 152 39 1232 = true := by decide +kernel
theorem lc_weigh {p : Program} {l : Launch} {e : Env} {s : State} {m : MethodId} {below : List Frame} {meth : Method} {c : Code} {b L : Nat} {xs : Nat → Int32} {H : Heap} {locs : List Loc} {Q : State → Prop} {rls : Array Slot} {q : Px} {Bx Bm n K i : Nat} {gx gm : Hp} (fx : Fx p s m meth c b L xs q Bx Bm) (st : St s q Bx Bm n K gx gm H locs) (hl : lv_has rls 4 [(3, .int (nI i)), (2, .ref Bm), (1, .ref Bx), (0, .ref b)]) (hi : i + 6 ≤ L) (hK : K + 24 < 1000000) (kk : NxW p l e s m b below meth c Q q Bx Bm n K rls) : W p l e room_1 s m #[Value.ref b] below meth c H locs 600000 7302250 Q (F0 m 267 rls []) := by
  obtain ⟨C0, hL, ex, em, b1, b2⟩ := fx
  obtain ⟨rx, rm, hS, wx, wm, T, r⟩ := st
  have hx := C0.1
  have hb := C0.2.1
  have b3 : s.heap.size ≤ Bm := by omega
  obtain ⟨v, gx1, gm1, K1, T1, ax, am, wx1, wm1, r1, hK1⟩ := al_weigh (xs (i + 1)) r wx wm hK
  refine lv_aload_n hx hb dW267 rfl (lv_at hl 2 rfl) ?_
  refine L_arg (k := 1) C0 hL hS hl rfl rfl (by omega) (by decide +kernel) dW268 dW269 dW270 dW271 dW272 ?_
  refine L_call (M := (0, Bx, q)) (vs := [.int (xs (i + 1))]) (rest := []) C0 ex b1 rx hS ax wx wx1 lwk_weigh_0 rfl (Nat.le_of_ble_eq_true rfl) hl.1 (Nat.le_of_ble_eq_true rfl) (Nat.le_refl _) (Nat.le_refl _) dW273 (fun H1 locs1 rx1 S1 z1 o1 => ?_)
  have rm1 := Rel_o rm wm z1 o1 (Ow_xm b2)
  refine lv_aload_n hx hb dW276 rfl (lv_at hl 1 rfl) ?_
  refine L_arg (k := 1) C0 hL S1 hl rfl rfl (by omega) (by decide +kernel) dW277 dW278 dW279 dW280 dW281 ?_
  refine L_call (M := (1, Bm, q)) (vs := [.int (xs (i + 1))]) (rest := [.int v]) C0 em b3 rm1 S1 am wm wm1 lwk_weigh_1 rfl (Nat.le_of_ble_eq_true rfl) hl.1 (Nat.le_of_ble_eq_true rfl) (Nat.le_refl _) (Nat.le_refl _) dW282 (fun H2 locs2 rm2 S2 z2 o2 => ?_)
  refine lv_icmp_eq (tgt := 1020) hx hb dW285 (by decide) (fun _ => ?_) (fun z => absurd rfl z)
  exact kk H2 locs2 gx1 gm1 K1 ⟨Rel_o rx1 wx1 z2 o2 (Ow_mx b2), rm2, S2, wx1, wm1, T1, r1⟩ hK1
theorem lwk_feed_0 : lwK 0 95 40 522 = true := by decide +kernel
theorem lwk_feed_1 : lwK 1 154 44 1236 = true := by decide +kernel
theorem lc_feed {p : Program} {l : Launch} {e : Env} {s : State} {m : MethodId} {below : List Frame} {meth : Method} {c : Code} {b L : Nat} {xs : Nat → Int32} {H : Heap} {locs : List Loc} {Q : State → Prop} {rls : Array Slot} {q : Px} {Bx Bm n K i : Nat} {gx gm : Hp} (fx : Fx p s m meth c b L xs q Bx Bm) (st : St s q Bx Bm n K gx gm H locs) (hl : lv_has rls 4 [(3, .int (nI i)), (2, .ref Bm), (1, .ref Bx), (0, .ref b)]) (hi : i + 6 ≤ L) (hK : K + 24 < 1000000) (kk : NxW p l e s m b below meth c Q q Bx Bm n K rls) : W p l e room_1 s m #[Value.ref b] below meth c H locs 600000 7302250 Q (F0 m 290 rls []) := by
  obtain ⟨C0, hL, ex, em, b1, b2⟩ := fx
  obtain ⟨rx, rm, hS, wx, wm, T, r⟩ := st
  have hx := C0.1
  have hb := C0.2.1
  have b3 : s.heap.size ≤ Bm := by omega
  obtain ⟨v, gx1, gm1, K1, T1, ax, am, wx1, wm1, r1, hK1⟩ := al_feed (xs (i + 1)) (xs (i + 2)) (xs (i + 3)) (xs (i + 4)) (xs (i + 5)) r wx wm hK
  refine lv_aload_n hx hb dW290 rfl (lv_at hl 2 rfl) ?_
  refine L_arg (k := 1) C0 hL hS hl rfl rfl (by omega) (by decide +kernel) dW291 dW292 dW293 dW294 dW295 ?_
  refine L_arg (k := 2) C0 hL hS hl rfl rfl (by omega) (by decide +kernel) dW296 dW297 dW298 dW299 dW300 ?_
  refine L_arg (k := 3) C0 hL hS hl rfl rfl (by omega) (by decide +kernel) dW301 dW302 dW303 dW304 dW305 ?_
  refine L_arg (k := 4) C0 hL hS hl rfl rfl (by omega) (by decide +kernel) dW306 dW307 dW308 dW309 dW310 ?_
  refine L_arg (k := 5) C0 hL hS hl rfl rfl (by omega) (by decide +kernel) dW311 dW312 dW313 dW314 dW315 ?_
  refine L_call (M := (0, Bx, q)) (vs := [.int (xs (i + 1)), .int (xs (i + 2)), .int (xs (i + 3)), .int (xs (i + 4)), .int (xs (i + 5))]) (rest := []) C0 ex b1 rx hS ax wx wx1 lwk_feed_0 rfl (Nat.le_of_ble_eq_true rfl) hl.1 (Nat.le_of_ble_eq_true rfl) (Nat.le_refl _) (Nat.le_refl _) dW316 (fun H1 locs1 rx1 S1 z1 o1 => ?_)
  have rm1 := Rel_o rm wm z1 o1 (Ow_xm b2)
  refine lv_aload_n hx hb dW319 rfl (lv_at hl 1 rfl) ?_
  refine L_arg (k := 1) C0 hL S1 hl rfl rfl (by omega) (by decide +kernel) dW320 dW321 dW322 dW323 dW324 ?_
  refine L_arg (k := 2) C0 hL S1 hl rfl rfl (by omega) (by decide +kernel) dW325 dW326 dW327 dW328 dW329 ?_
  refine L_arg (k := 3) C0 hL S1 hl rfl rfl (by omega) (by decide +kernel) dW330 dW331 dW332 dW333 dW334 ?_
  refine L_arg (k := 4) C0 hL S1 hl rfl rfl (by omega) (by decide +kernel) dW335 dW336 dW337 dW338 dW339 ?_
  refine L_arg (k := 5) C0 hL S1 hl rfl rfl (by omega) (by decide +kernel) dW340 dW341 dW342 dW343 dW344 ?_
  refine L_call (M := (1, Bm, q)) (vs := [.int (xs (i + 1)), .int (xs (i + 2)), .int (xs (i + 3)), .int (xs (i + 4)), .int (xs (i + 5))]) (rest := [.int v]) C0 em b3 rm1 S1 am wm wm1 lwk_feed_1 rfl (Nat.le_of_ble_eq_true rfl) hl.1 (Nat.le_of_ble_eq_true rfl) (Nat.le_refl _) (Nat.le_refl _) dW345 (fun H2 locs2 rm2 S2 z2 o2 => ?_)
  refine lv_icmp_eq (tgt := 1020) hx hb dW348 (by decide) (fun _ => ?_) (fun z => absurd rfl z)
  exact kk H2 locs2 gx1 gm1 K1 ⟨Rel_o rx1 wx1 z2 o2 (Ow_mx b2), rm2, S2, wx1, wm1, T1, r1⟩ hK1
theorem lwk_end_0 : lwK 0 96 45 530 = true := by decide +kernel
theorem lwk_end_1 : lwK 1 155 49 1244 = true := by decide +kernel
theorem lc_end {p : Program} {l : Launch} {e : Env} {s : State} {m : MethodId} {below : List Frame} {meth : Method} {c : Code} {b L : Nat} {xs : Nat → Int32} {H : Heap} {locs : List Loc} {Q : State → Prop} {rls : Array Slot} {q : Px} {Bx Bm n K i : Nat} {gx gm : Hp} (fx : Fx p s m meth c b L xs q Bx Bm) (st : St s q Bx Bm n K gx gm H locs) (hl : lv_has rls 4 [(3, .int (nI i)), (2, .ref Bm), (1, .ref Bx), (0, .ref b)]) (hi : i + 6 ≤ L) (hK : K + 24 < 1000000) (kk : NxW p l e s m b below meth c Q q Bx Bm n K rls) : W p l e room_1 s m #[Value.ref b] below meth c H locs 600000 7302250 Q (F0 m 353 rls []) := by
  obtain ⟨C0, hL, ex, em, b1, b2⟩ := fx
  obtain ⟨rx, rm, hS, wx, wm, T, r⟩ := st
  have hx := C0.1
  have hb := C0.2.1
  have b3 : s.heap.size ≤ Bm := by omega
  obtain ⟨v, gx1, gm1, K1, T1, ax, am, wx1, wm1, r1, hK1⟩ := al_end (xs (i + 1)) r wx wm hK
  refine lv_aload_n hx hb dW353 rfl (lv_at hl 2 rfl) ?_
  refine L_arg (k := 1) C0 hL hS hl rfl rfl (by omega) (by decide +kernel) dW354 dW355 dW356 dW357 dW358 ?_
  refine L_call (M := (0, Bx, q)) (vs := [.int (xs (i + 1))]) (rest := []) C0 ex b1 rx hS ax wx wx1 lwk_end_0 rfl (Nat.le_of_ble_eq_true rfl) hl.1 (Nat.le_of_ble_eq_true rfl) (Nat.le_refl _) (Nat.le_refl _) dW359 (fun H1 locs1 rx1 S1 z1 o1 => ?_)
  have rm1 := Rel_o rm wm z1 o1 (Ow_xm b2)
  refine lv_aload_n hx hb dW362 rfl (lv_at hl 1 rfl) ?_
  refine L_arg (k := 1) C0 hL S1 hl rfl rfl (by omega) (by decide +kernel) dW363 dW364 dW365 dW366 dW367 ?_
  refine L_call (M := (1, Bm, q)) (vs := [.int (xs (i + 1))]) (rest := [.int v]) C0 em b3 rm1 S1 am wm wm1 lwk_end_1 rfl (Nat.le_of_ble_eq_true rfl) hl.1 (Nat.le_of_ble_eq_true rfl) (Nat.le_refl _) (Nat.le_refl _) dW368 (fun H2 locs2 rm2 S2 z2 o2 => ?_)
  refine lv_icmp_eq (tgt := 1020) hx hb dW371 (by decide) (fun _ => ?_) (fun z => absurd rfl z)
  exact kk H2 locs2 gx1 gm1 K1 ⟨Rel_o rx1 wx1 z2 o2 (Ow_mx b2), rm2, S2, wx1, wm1, T1, r1⟩ hK1
theorem lwk_text_0 : lwK 0 97 50 534 = true := by decide +kernel
theorem lwk_text_1 : lwK 1 182 54 1248 = true := by decide +kernel
theorem lc_text {p : Program} {l : Launch} {e : Env} {s : State} {m : MethodId} {below : List Frame} {meth : Method} {c : Code} {b L : Nat} {xs : Nat → Int32} {H : Heap} {locs : List Loc} {Q : State → Prop} {rls : Array Slot} {q : Px} {Bx Bm n K i : Nat} {gx gm : Hp} (fx : Fx p s m meth c b L xs q Bx Bm) (st : St s q Bx Bm n K gx gm H locs) (hl : lv_has rls 4 [(3, .int (nI i)), (2, .ref Bm), (1, .ref Bx), (0, .ref b)]) (hi : i + 6 ≤ L) (hK : K + 24 < 1000000) (kk : NxW p l e s m b below meth c Q q Bx Bm n K rls) : W p l e room_1 s m #[Value.ref b] below meth c H locs 600000 7302250 Q (F0 m 376 rls []) := by
  obtain ⟨C0, hL, ex, em, b1, b2⟩ := fx
  obtain ⟨rx, rm, hS, wx, wm, T, r⟩ := st
  have hx := C0.1
  have hb := C0.2.1
  have b3 : s.heap.size ≤ Bm := by omega
  obtain ⟨v, gx1, gm1, K1, T1, ax, am, wx1, wm1, r1, hK1⟩ := al_text r wx wm hK
  refine lv_aload_n hx hb dW376 rfl (lv_at hl 2 rfl) ?_
  refine L_call (M := (0, Bx, q)) (vs := []) (rest := []) C0 ex b1 rx hS ax wx wx1 lwk_text_0 rfl (Nat.le_of_ble_eq_true rfl) hl.1 (Nat.le_of_ble_eq_true rfl) (Nat.le_refl _) (Nat.le_refl _) dW377 (fun H1 locs1 rx1 S1 z1 o1 => ?_)
  have rm1 := Rel_o rm wm z1 o1 (Ow_xm b2)
  refine lv_aload_n hx hb dW380 rfl (lv_at hl 1 rfl) ?_
  refine L_call (M := (1, Bm, q)) (vs := []) (rest := [.int v]) C0 em b3 rm1 S1 am wm wm1 lwk_text_1 rfl (Nat.le_of_ble_eq_true rfl) hl.1 (Nat.le_of_ble_eq_true rfl) (Nat.le_refl _) (Nat.le_refl _) dW381 (fun H2 locs2 rm2 S2 z2 o2 => ?_)
  refine lv_icmp_eq (tgt := 1020) hx hb dW384 (by decide) (fun _ => ?_) (fun z => absurd rfl z)
  exact kk H2 locs2 gx1 gm1 K1 ⟨Rel_o rx1 wx1 z2 o2 (Ow_mx b2), rm2, S2, wx1, wm1, T1, r1⟩ hK1
theorem lwk_fault_0 : lwK 0 98 55 710 = true := by decide +kernel
theorem lwk_fault_1 : lwK 1 183 58 1352 = true := by decide +kernel
theorem lc_fault {p : Program} {l : Launch} {e : Env} {s : State} {m : MethodId} {below : List Frame} {meth : Method} {c : Code} {b L : Nat} {xs : Nat → Int32} {H : Heap} {locs : List Loc} {Q : State → Prop} {rls : Array Slot} {q : Px} {Bx Bm n K i : Nat} {gx gm : Hp} (fx : Fx p s m meth c b L xs q Bx Bm) (st : St s q Bx Bm n K gx gm H locs) (hl : lv_has rls 4 [(3, .int (nI i)), (2, .ref Bm), (1, .ref Bx), (0, .ref b)]) (hi : i + 6 ≤ L) (hK : K + 24 < 1000000) (kk : NxW p l e s m b below meth c Q q Bx Bm n K rls) : W p l e room_1 s m #[Value.ref b] below meth c H locs 600000 7302250 Q (F0 m 389 rls []) := by
  obtain ⟨C0, hL, ex, em, b1, b2⟩ := fx
  obtain ⟨rx, rm, hS, wx, wm, T, r⟩ := st
  have hx := C0.1
  have hb := C0.2.1
  have b3 : s.heap.size ≤ Bm := by omega
  obtain ⟨v, gx1, gm1, K1, T1, ax, am, wx1, wm1, r1, hK1⟩ := al_fault (xs (i + 1)) r wx wm hK
  refine lv_aload_n hx hb dW389 rfl (lv_at hl 2 rfl) ?_
  refine L_arg (k := 1) C0 hL hS hl rfl rfl (by omega) (by decide +kernel) dW390 dW391 dW392 dW393 dW394 ?_
  refine L_call (M := (0, Bx, q)) (vs := [.int (xs (i + 1))]) (rest := []) C0 ex b1 rx hS ax wx wx1 lwk_fault_0 rfl (Nat.le_of_ble_eq_true rfl) hl.1 (Nat.le_of_ble_eq_true rfl) (Nat.le_refl _) (Nat.le_refl _) dW395 (fun H1 locs1 rx1 S1 z1 o1 => ?_)
  have rm1 := Rel_o rm wm z1 o1 (Ow_xm b2)
  refine lv_aload_n hx hb dW398 rfl (lv_at hl 1 rfl) ?_
  refine L_arg (k := 1) C0 hL S1 hl rfl rfl (by omega) (by decide +kernel) dW399 dW400 dW401 dW402 dW403 ?_
  refine L_call (M := (1, Bm, q)) (vs := [.int (xs (i + 1))]) (rest := [.int v]) C0 em b3 rm1 S1 am wm wm1 lwk_fault_1 rfl (Nat.le_of_ble_eq_true rfl) hl.1 (Nat.le_of_ble_eq_true rfl) (Nat.le_refl _) (Nat.le_refl _) dW404 (fun H2 locs2 rm2 S2 z2 o2 => ?_)
  refine lv_icmp_eq (tgt := 1020) hx hb dW407 (by decide) (fun _ => ?_) (fun z => absurd rfl z)
  exact kk H2 locs2 gx1 gm1 K1 ⟨Rel_o rx1 wx1 z2 o2 (Ow_mx b2), rm2, S2, wx1, wm1, T1, r1⟩ hK1
theorem lwk_by_0 : lwK 0 99 59 714 = true := by decide +kernel
theorem lwk_by_1 : lwK 1 184 62 1356 = true := by decide +kernel
theorem lc_by {p : Program} {l : Launch} {e : Env} {s : State} {m : MethodId} {below : List Frame} {meth : Method} {c : Code} {b L : Nat} {xs : Nat → Int32} {H : Heap} {locs : List Loc} {Q : State → Prop} {rls : Array Slot} {q : Px} {Bx Bm n K i : Nat} {gx gm : Hp} (fx : Fx p s m meth c b L xs q Bx Bm) (st : St s q Bx Bm n K gx gm H locs) (hl : lv_has rls 4 [(3, .int (nI i)), (2, .ref Bm), (1, .ref Bx), (0, .ref b)]) (hi : i + 6 ≤ L) (hK : K + 24 < 1000000) (kk : NxW p l e s m b below meth c Q q Bx Bm n K rls) : W p l e room_1 s m #[Value.ref b] below meth c H locs 600000 7302250 Q (F0 m 412 rls []) := by
  obtain ⟨C0, hL, ex, em, b1, b2⟩ := fx
  obtain ⟨rx, rm, hS, wx, wm, T, r⟩ := st
  have hx := C0.1
  have hb := C0.2.1
  have b3 : s.heap.size ≤ Bm := by omega
  obtain ⟨v, gx1, gm1, K1, T1, ax, am, wx1, wm1, r1, hK1⟩ := al_by (xs (i + 1)) r wx wm hK
  refine lv_aload_n hx hb dW412 rfl (lv_at hl 2 rfl) ?_
  refine L_arg (k := 1) C0 hL hS hl rfl rfl (by omega) (by decide +kernel) dW413 dW414 dW415 dW416 dW417 ?_
  refine L_call (M := (0, Bx, q)) (vs := [.int (xs (i + 1))]) (rest := []) C0 ex b1 rx hS ax wx wx1 lwk_by_0 rfl (Nat.le_of_ble_eq_true rfl) hl.1 (Nat.le_of_ble_eq_true rfl) (Nat.le_refl _) (Nat.le_refl _) dW418 (fun H1 locs1 rx1 S1 z1 o1 => ?_)
  have rm1 := Rel_o rm wm z1 o1 (Ow_xm b2)
  refine lv_aload_n hx hb dW421 rfl (lv_at hl 1 rfl) ?_
  refine L_arg (k := 1) C0 hL S1 hl rfl rfl (by omega) (by decide +kernel) dW422 dW423 dW424 dW425 dW426 ?_
  refine L_call (M := (1, Bm, q)) (vs := [.int (xs (i + 1))]) (rest := [.int v]) C0 em b3 rm1 S1 am wm wm1 lwk_by_1 rfl (Nat.le_of_ble_eq_true rfl) hl.1 (Nat.le_of_ble_eq_true rfl) (Nat.le_refl _) (Nat.le_refl _) dW427 (fun H2 locs2 rm2 S2 z2 o2 => ?_)
  refine lv_icmp_eq (tgt := 1020) hx hb dW430 (by decide) (fun _ => ?_) (fun z => absurd rfl z)
  exact kk H2 locs2 gx1 gm1 K1 ⟨Rel_o rx1 wx1 z2 o2 (Ow_mx b2), rm2, S2, wx1, wm1, T1, r1⟩ hK1
theorem lwk_becomes_0 : lwK 0 100 63 722 = true := by decide +kernel
theorem lwk_becomes_1 : lwK 1 197 67 1360 = true := by decide +kernel
theorem lc_becomes {p : Program} {l : Launch} {e : Env} {s : State} {m : MethodId} {below : List Frame} {meth : Method} {c : Code} {b L : Nat} {xs : Nat → Int32} {H : Heap} {locs : List Loc} {Q : State → Prop} {rls : Array Slot} {q : Px} {Bx Bm n K i : Nat} {gx gm : Hp} (fx : Fx p s m meth c b L xs q Bx Bm) (st : St s q Bx Bm n K gx gm H locs) (hl : lv_has rls 4 [(3, .int (nI i)), (2, .ref Bm), (1, .ref Bx), (0, .ref b)]) (hi : i + 6 ≤ L) (hK : K + 24 < 1000000) (kk : NxW p l e s m b below meth c Q q Bx Bm n K rls) : W p l e room_1 s m #[Value.ref b] below meth c H locs 600000 7302250 Q (F0 m 435 rls []) := by
  obtain ⟨C0, hL, ex, em, b1, b2⟩ := fx
  obtain ⟨rx, rm, hS, wx, wm, T, r⟩ := st
  have hx := C0.1
  have hb := C0.2.1
  have b3 : s.heap.size ≤ Bm := by omega
  obtain ⟨v, gx1, gm1, K1, T1, ax, am, wx1, wm1, r1, hK1⟩ := al_becomes (xs (i + 1)) (xs (i + 2)) (xs (i + 3)) r wx wm hK
  refine lv_aload_n hx hb dW435 rfl (lv_at hl 2 rfl) ?_
  refine L_arg (k := 1) C0 hL hS hl rfl rfl (by omega) (by decide +kernel) dW436 dW437 dW438 dW439 dW440 ?_
  refine L_arg (k := 2) C0 hL hS hl rfl rfl (by omega) (by decide +kernel) dW441 dW442 dW443 dW444 dW445 ?_
  refine L_arg (k := 3) C0 hL hS hl rfl rfl (by omega) (by decide +kernel) dW446 dW447 dW448 dW449 dW450 ?_
  refine L_call (M := (0, Bx, q)) (vs := [.int (xs (i + 1)), .int (xs (i + 2)), .int (xs (i + 3))]) (rest := []) C0 ex b1 rx hS ax wx wx1 lwk_becomes_0 rfl (Nat.le_of_ble_eq_true rfl) hl.1 (Nat.le_of_ble_eq_true rfl) (Nat.le_refl _) (Nat.le_refl _) dW451 (fun H1 locs1 rx1 S1 z1 o1 => ?_)
  have rm1 := Rel_o rm wm z1 o1 (Ow_xm b2)
  refine lv_aload_n hx hb dW454 rfl (lv_at hl 1 rfl) ?_
  refine L_arg (k := 1) C0 hL S1 hl rfl rfl (by omega) (by decide +kernel) dW455 dW456 dW457 dW458 dW459 ?_
  refine L_arg (k := 2) C0 hL S1 hl rfl rfl (by omega) (by decide +kernel) dW460 dW461 dW462 dW463 dW464 ?_
  refine L_arg (k := 3) C0 hL S1 hl rfl rfl (by omega) (by decide +kernel) dW465 dW466 dW467 dW468 dW469 ?_
  refine L_call (M := (1, Bm, q)) (vs := [.int (xs (i + 1)), .int (xs (i + 2)), .int (xs (i + 3))]) (rest := [.int v]) C0 em b3 rm1 S1 am wm wm1 lwk_becomes_1 rfl (Nat.le_of_ble_eq_true rfl) hl.1 (Nat.le_of_ble_eq_true rfl) (Nat.le_refl _) (Nat.le_refl _) dW470 (fun H2 locs2 rm2 S2 z2 o2 => ?_)
  refine lv_icmp_eq (tgt := 1020) hx hb dW473 (by decide) (fun _ => ?_) (fun z => absurd rfl z)
  exact kk H2 locs2 gx1 gm1 K1 ⟨Rel_o rx1 wx1 z2 o2 (Ow_mx b2), rm2, S2, wx1, wm1, T1, r1⟩ hK1
theorem lwk_go_0 : lwK 0 101 68 805 = true := by decide +kernel
theorem lwk_go_1 : lwK 1 201 72 1424 = true := by decide +kernel
theorem lc_go {p : Program} {l : Launch} {e : Env} {s : State} {m : MethodId} {below : List Frame} {meth : Method} {c : Code} {b L : Nat} {xs : Nat → Int32} {H : Heap} {locs : List Loc} {Q : State → Prop} {rls : Array Slot} {q : Px} {Bx Bm n K i : Nat} {gx gm : Hp} (fx : Fx p s m meth c b L xs q Bx Bm) (st : St s q Bx Bm n K gx gm H locs) (hl : lv_has rls 4 [(3, .int (nI i)), (2, .ref Bm), (1, .ref Bx), (0, .ref b)]) (hi : i + 6 ≤ L) (hK : K + 24 < 1000000) (kk : NxW p l e s m b below meth c Q q Bx Bm n K rls) : W p l e room_1 s m #[Value.ref b] below meth c H locs 600000 7302250 Q (F0 m 478 rls []) := by
  obtain ⟨C0, hL, ex, em, b1, b2⟩ := fx
  obtain ⟨rx, rm, hS, wx, wm, T, r⟩ := st
  have hx := C0.1
  have hb := C0.2.1
  have b3 : s.heap.size ≤ Bm := by omega
  obtain ⟨v, gx1, gm1, K1, T1, ax, am, wx1, wm1, r1, hK1⟩ := al_go (xs (i + 1)) (xs (i + 2)) r wx wm hK
  refine lv_aload_n hx hb dW478 rfl (lv_at hl 2 rfl) ?_
  refine L_arg (k := 1) C0 hL hS hl rfl rfl (by omega) (by decide +kernel) dW479 dW480 dW481 dW482 dW483 ?_
  refine L_arg (k := 2) C0 hL hS hl rfl rfl (by omega) (by decide +kernel) dW484 dW485 dW486 dW487 dW488 ?_
  refine L_call (M := (0, Bx, q)) (vs := [.int (xs (i + 1)), .int (xs (i + 2))]) (rest := []) C0 ex b1 rx hS ax wx wx1 lwk_go_0 rfl (Nat.le_of_ble_eq_true rfl) hl.1 (Nat.le_of_ble_eq_true rfl) (Nat.le_refl _) (Nat.le_refl _) dW489 (fun H1 locs1 rx1 S1 z1 o1 => ?_)
  have rm1 := Rel_o rm wm z1 o1 (Ow_xm b2)
  refine lv_aload_n hx hb dW492 rfl (lv_at hl 1 rfl) ?_
  refine L_arg (k := 1) C0 hL S1 hl rfl rfl (by omega) (by decide +kernel) dW493 dW494 dW495 dW496 dW497 ?_
  refine L_arg (k := 2) C0 hL S1 hl rfl rfl (by omega) (by decide +kernel) dW498 dW499 dW500 dW501 dW502 ?_
  refine L_call (M := (1, Bm, q)) (vs := [.int (xs (i + 1)), .int (xs (i + 2))]) (rest := [.int v]) C0 em b3 rm1 S1 am wm wm1 lwk_go_1 rfl (Nat.le_of_ble_eq_true rfl) hl.1 (Nat.le_of_ble_eq_true rfl) (Nat.le_refl _) (Nat.le_refl _) dW503 (fun H2 locs2 rm2 S2 z2 o2 => ?_)
  refine lv_icmp_eq (tgt := 1020) hx hb dW506 (by decide) (fun _ => ?_) (fun z => absurd rfl z)
  exact kk H2 locs2 gx1 gm1 K1 ⟨Rel_o rx1 wx1 z2 o2 (Ow_mx b2), rm2, S2, wx1, wm1, T1, r1⟩ hK1
theorem lwk_course_0 : lwK 0 102 73 837 = true := by decide +kernel
theorem lwk_course_1 : lwK 1 202 76 1436 = true := by decide +kernel
theorem lc_course {p : Program} {l : Launch} {e : Env} {s : State} {m : MethodId} {below : List Frame} {meth : Method} {c : Code} {b L : Nat} {xs : Nat → Int32} {H : Heap} {locs : List Loc} {Q : State → Prop} {rls : Array Slot} {q : Px} {Bx Bm n K i : Nat} {gx gm : Hp} (fx : Fx p s m meth c b L xs q Bx Bm) (st : St s q Bx Bm n K gx gm H locs) (hl : lv_has rls 4 [(3, .int (nI i)), (2, .ref Bm), (1, .ref Bx), (0, .ref b)]) (hi : i + 6 ≤ L) (hK : K + 24 < 1000000) (kk : NxW p l e s m b below meth c Q q Bx Bm n K rls) : W p l e room_1 s m #[Value.ref b] below meth c H locs 600000 7302250 Q (F0 m 511 rls []) := by
  obtain ⟨C0, hL, ex, em, b1, b2⟩ := fx
  obtain ⟨rx, rm, hS, wx, wm, T, r⟩ := st
  have hx := C0.1
  have hb := C0.2.1
  have b3 : s.heap.size ≤ Bm := by omega
  obtain ⟨v, gx1, gm1, K1, T1, ax, am, wx1, wm1, r1, hK1⟩ := al_course (xs (i + 1)) r wx wm hK
  refine lv_aload_n hx hb dW511 rfl (lv_at hl 2 rfl) ?_
  refine L_arg (k := 1) C0 hL hS hl rfl rfl (by omega) (by decide +kernel) dW512 dW513 dW514 dW515 dW516 ?_
  refine L_call (M := (0, Bx, q)) (vs := [.int (xs (i + 1))]) (rest := []) C0 ex b1 rx hS ax wx wx1 lwk_course_0 rfl (Nat.le_of_ble_eq_true rfl) hl.1 (Nat.le_of_ble_eq_true rfl) (Nat.le_refl _) (Nat.le_refl _) dW517 (fun H1 locs1 rx1 S1 z1 o1 => ?_)
  have rm1 := Rel_o rm wm z1 o1 (Ow_xm b2)
  refine lv_aload_n hx hb dW520 rfl (lv_at hl 1 rfl) ?_
  refine L_arg (k := 1) C0 hL S1 hl rfl rfl (by omega) (by decide +kernel) dW521 dW522 dW523 dW524 dW525 ?_
  refine L_call (M := (1, Bm, q)) (vs := [.int (xs (i + 1))]) (rest := [.int v]) C0 em b3 rm1 S1 am wm wm1 lwk_course_1 rfl (Nat.le_of_ble_eq_true rfl) hl.1 (Nat.le_of_ble_eq_true rfl) (Nat.le_refl _) (Nat.le_refl _) dW526 (fun H2 locs2 rm2 S2 z2 o2 => ?_)
  refine lv_icmp_eq (tgt := 1020) hx hb dW529 (by decide) (fun _ => ?_) (fun z => absurd rfl z)
  exact kk H2 locs2 gx1 gm1 K1 ⟨Rel_o rx1 wx1 z2 o2 (Ow_mx b2), rm2, S2, wx1, wm1, T1, r1⟩ hK1
theorem lwk_sail_0 : lwK 0 103 77 845 = true := by decide +kernel
theorem lwk_sail_1 : lwK 1 204 80 1440 = true := by decide +kernel
theorem lc_sail {p : Program} {l : Launch} {e : Env} {s : State} {m : MethodId} {below : List Frame} {meth : Method} {c : Code} {b L : Nat} {xs : Nat → Int32} {H : Heap} {locs : List Loc} {Q : State → Prop} {rls : Array Slot} {q : Px} {Bx Bm n K i : Nat} {gx gm : Hp} (fx : Fx p s m meth c b L xs q Bx Bm) (st : St s q Bx Bm n K gx gm H locs) (hl : lv_has rls 4 [(3, .int (nI i)), (2, .ref Bm), (1, .ref Bx), (0, .ref b)]) (hi : i + 6 ≤ L) (hK : K + 24 < 1000000) (kk : NxW p l e s m b below meth c Q q Bx Bm n K rls) : W p l e room_1 s m #[Value.ref b] below meth c H locs 600000 7302250 Q (F0 m 534 rls []) := by
  obtain ⟨C0, hL, ex, em, b1, b2⟩ := fx
  obtain ⟨rx, rm, hS, wx, wm, T, r⟩ := st
  have hx := C0.1
  have hb := C0.2.1
  have b3 : s.heap.size ≤ Bm := by omega
  obtain ⟨v, gx1, gm1, K1, T1, ax, am, wx1, wm1, r1, hK1⟩ := al_sail (xs (i + 1)) r wx wm hK
  refine lv_aload_n hx hb dW534 rfl (lv_at hl 2 rfl) ?_
  refine L_arg (k := 1) C0 hL hS hl rfl rfl (by omega) (by decide +kernel) dW535 dW536 dW537 dW538 dW539 ?_
  refine L_call (M := (0, Bx, q)) (vs := [.int (xs (i + 1))]) (rest := []) C0 ex b1 rx hS ax wx wx1 lwk_sail_0 rfl (Nat.le_of_ble_eq_true rfl) hl.1 (Nat.le_of_ble_eq_true rfl) (Nat.le_refl _) (Nat.le_refl _) dW540 (fun H1 locs1 rx1 S1 z1 o1 => ?_)
  have rm1 := Rel_o rm wm z1 o1 (Ow_xm b2)
  refine lv_aload_n hx hb dW543 rfl (lv_at hl 1 rfl) ?_
  refine L_arg (k := 1) C0 hL S1 hl rfl rfl (by omega) (by decide +kernel) dW544 dW545 dW546 dW547 dW548 ?_
  refine L_call (M := (1, Bm, q)) (vs := [.int (xs (i + 1))]) (rest := [.int v]) C0 em b3 rm1 S1 am wm wm1 lwk_sail_1 rfl (Nat.le_of_ble_eq_true rfl) hl.1 (Nat.le_of_ble_eq_true rfl) (Nat.le_refl _) (Nat.le_refl _) dW549 (fun H2 locs2 rm2 S2 z2 o2 => ?_)
  refine lv_icmp_eq (tgt := 1020) hx hb dW552 (by decide) (fun _ => ?_) (fun z => absurd rfl z)
  exact kk H2 locs2 gx1 gm1 K1 ⟨Rel_o rx1 wx1 z2 o2 (Ow_mx b2), rm2, S2, wx1, wm1, T1, r1⟩ hK1
theorem lwk_undo_0 : lwK 0 104 81 862 = true := by decide +kernel
theorem lwk_undo_1 : lwK 1 205 84 1448 = true := by decide +kernel
theorem lc_undo {p : Program} {l : Launch} {e : Env} {s : State} {m : MethodId} {below : List Frame} {meth : Method} {c : Code} {b L : Nat} {xs : Nat → Int32} {H : Heap} {locs : List Loc} {Q : State → Prop} {rls : Array Slot} {q : Px} {Bx Bm n K i : Nat} {gx gm : Hp} (fx : Fx p s m meth c b L xs q Bx Bm) (st : St s q Bx Bm n K gx gm H locs) (hl : lv_has rls 4 [(3, .int (nI i)), (2, .ref Bm), (1, .ref Bx), (0, .ref b)]) (hi : i + 6 ≤ L) (hK : K + 24 < 1000000) (kk : NxW p l e s m b below meth c Q q Bx Bm n K rls) : W p l e room_1 s m #[Value.ref b] below meth c H locs 600000 7302250 Q (F0 m 557 rls []) := by
  obtain ⟨C0, hL, ex, em, b1, b2⟩ := fx
  obtain ⟨rx, rm, hS, wx, wm, T, r⟩ := st
  have hx := C0.1
  have hb := C0.2.1
  have b3 : s.heap.size ≤ Bm := by omega
  obtain ⟨v, gx1, gm1, K1, T1, ax, am, wx1, wm1, r1, hK1⟩ := al_undo r wx wm hK
  refine lv_aload_n hx hb dW557 rfl (lv_at hl 2 rfl) ?_
  refine L_call (M := (0, Bx, q)) (vs := []) (rest := []) C0 ex b1 rx hS ax wx wx1 lwk_undo_0 rfl (Nat.le_of_ble_eq_true rfl) hl.1 (Nat.le_of_ble_eq_true rfl) (Nat.le_refl _) (Nat.le_refl _) dW558 (fun H1 locs1 rx1 S1 z1 o1 => ?_)
  have rm1 := Rel_o rm wm z1 o1 (Ow_xm b2)
  refine lv_aload_n hx hb dW561 rfl (lv_at hl 1 rfl) ?_
  refine L_call (M := (1, Bm, q)) (vs := []) (rest := [.int v]) C0 em b3 rm1 S1 am wm wm1 lwk_undo_1 rfl (Nat.le_of_ble_eq_true rfl) hl.1 (Nat.le_of_ble_eq_true rfl) (Nat.le_refl _) (Nat.le_refl _) dW562 (fun H2 locs2 rm2 S2 z2 o2 => ?_)
  refine lv_icmp_eq (tgt := 1020) hx hb dW565 (by decide) (fun _ => ?_) (fun z => absurd rfl z)
  exact kk H2 locs2 gx1 gm1 K1 ⟨Rel_o rx1 wx1 z2 o2 (Ow_mx b2), rm2, S2, wx1, wm1, T1, r1⟩ hK1
