/-! ===== the law's steps ===== -/
abbrev Px : Type := (Nat → Nat) × va_G × (Nat → ClassId) × (Nat → Nat)
def bz (x : Int32) : Int32 := if x = 0 then 0 else 1
theorem bz_or (x : Int32) : bz x = 0 ∨ bz x = 1 := by
  unfold bz
  by_cases h : x = 0
  · exact Or.inl (if_pos h)
  · exact Or.inr (if_neg h)
/-- what stays while the law runs -/
def Fx (p : Program) (s : State) (m : MethodId) (meth : Method) (c : Code) (b L : Nat) (xs : Nat → Int32) (q : Px) (Bx Bm : Nat) : Prop := lw_At p s m meth c b L xs ∧ L ≤ 3073 ∧ Ev (0, Bx, q) s ∧ Ev (1, Bm, q) s ∧ s.heap.size ≤ Bx ∧ Bx + 73 ≤ Bm
/-- what the two objects are -/
def St (s : State) (q : Px) (Bx Bm n K : Nat) (gx gm : Hp) (H : Heap) (locs : List Loc) : Prop := Rel (0, Bx, q) gx H ∧ Rel (1, Bm, q) gm H ∧ va_S (Hi s) s.heap H locs ∧ WF 0 gx ∧ WF 1 gm ∧ ∃ T, Rl n K T gx gm
theorem Rel_o {w B w' B' : Nat} {q q' : Px} {h : Hp} {H H1 : Heap} (hr : Rel (w, B, q) h H) (hw : WF w h) (hz : H.size ≤ H1.size) (ho : ∀ a : Nat, a < H.size → ¬ Own (w', B', q') a → H1[a]? = H[a]?) (hd : ∀ a : Nat, Own (w, B, q) a → ¬ Own (w', B', q') a) : Rel (w, B, q) h H1 := by
  have e1 : hN h = cap w := hw.1
  refine ⟨fun c hc => ?_, Nat.le_trans hr.2.1 hz, fun z => ?_, hr.2.2.2⟩
  · have o1 := hr.own hc
    refine (hr.1 c hc).congr rfl rfl rfl (ho _ ?_ (hd _ o1))
    have z1 : B + hN h ≤ H.size := hr.2.1
    show B + c < H.size
    omega
  · have z : hN h < cap w := z
    omega
theorem Ow_xm {q : Px} {Bx Bm : Nat} (h : Bx + 73 ≤ Bm) : ∀ a : Nat, Own (1, Bm, q) a → ¬ Own (0, Bx, q) a := by
  intro a o1 o2
  have o1 : Bm ≤ a ∧ a < Bm + 15 := o1
  have o2 : Bx ≤ a ∧ a < Bx + 73 := o2
  omega
theorem Ow_mx {q : Px} {Bx Bm : Nat} (h : Bx + 73 ≤ Bm) : ∀ a : Nat, Own (0, Bx, q) a → ¬ Own (1, Bm, q) a := by
  intro a o1 o2
  have o1 : Bx ≤ a ∧ a < Bx + 73 := o1
  have o2 : Bm ≤ a ∧ a < Bm + 15 := o2
  omega
section LX
variable {p : Program} {l : Launch} {e : Env} {s : State} {m : MethodId} {below : List Frame} {meth : Method} {c : Code} {b L : Nat} {xs : Nat → Int32} {H : Heap} {locs : List Loc} {cells slots : Nat} {Q : State → Prop} {rls : Array Slot} {rest : List Value}
/-- script[i + k] -/
theorem L_arg {pc k i : Nat} {kz : Int} {lv : List (Nat × Value)} (C0 : lw_At p s m meth c b L xs) (hL : L ≤ 3073) (hS : va_S (Hi s) s.heap H locs) (hl : lv_has rls 4 lv) (l0 : lv[3]? = some (0, .ref b)) (l3 : lv[0]? = some (3, .int (nI i))) (hi : i + k < L) (hk : Int32.ofInt kz = nI k) (d0 : decode code pc = .ok (.aload_n 0, 1)) (d1 : decode code (pc + 1) = .ok (.iload_n 3, 1)) (d2 : decode code (pc + 2) = .ok (.iconst kz, 1)) (d3 : decode code (pc + 3) = .ok (.iadd, 1)) (d4 : decode code (pc + 4) = .ok (.iaload, 1)) (kk : W p l e room_1 s m #[Value.ref b] below meth c H locs cells slots Q (F0 m (pc + 5) rls (.int (xs (i + k)) :: rest))) : W p l e room_1 s m #[Value.ref b] below meth c H locs cells slots Q (F0 m pc rls rest) := by
  obtain ⟨hx, hb, hr0, hml, hown, hts, hX, hbl, hlk, hgv⟩ := C0
  have hbA : ¬ Hi s b := Nat.not_le.mpr hbl
  refine lv_aload_n hx hb d0 rfl (lv_at hl 3 l0) ?_
  refine lv_iload_n hx hb d1 rfl (lv_at hl 0 l3) ?_
  refine lv_iconst (v := nI k) hx hb d2 hk ?_
  refine lv_iadd hx hb d3 ?_
  rw [nI_add]
  refine va_sld hx hb hX hbl hbA hS (vp_in_nI hi (by omega)) d4 ?_
  rw [nI_clamp (by omega)]
  exact kk
/-- .. != 0 -/
theorem L_bool {pc : Nat} {x : Int32} (hx : p.tables.exec = Jvm.exec) (hb : c.code = code) (d0 : decode code pc = .ok (.ifCond .eq 7, 3)) (d3 : decode code (pc + 3) = .ok (.iconst 1, 1)) (d4 : decode code (pc + 4) = .ok (.goto 4, 3)) (d7 : decode code (pc + 7) = .ok (.iconst 0, 1)) (kk : W p l e room_1 s m #[Value.ref b] below meth c H locs cells slots Q (F0 m (pc + 8) rls (.int (bz x) :: rest))) : W p l e room_1 s m #[Value.ref b] below meth c H locs cells slots Q (F0 m pc rls (.int x :: rest)) := by
  refine lv_if_eq (tgt := pc + 7) hx hb d0 (by omega) (fun e => ?_) (fun e => ?_)
  · refine lv_iconst (v := 0) hx hb d7 (by decide) ?_
    have e1 : bz x = 0 := if_pos e
    rw [e1] at kk
    exact kk
  · refine lv_iconst (v := 1) hx hb d3 (by decide) ?_
    refine lv_goto (tgt := pc + 8) hx hb d4 (by omega) ?_
    have e1 : bz x = 1 := if_neg e
    rw [e1] at kk
    exact kk
/-- both calls of a case, and the comparison: what is wanted behind them -/
def NxW (p : Program) (l : Launch) (e : Env) (s : State) (m : MethodId) (b : Nat) (below : List Frame) (meth : Method) (c : Code) (Q : State → Prop) (q : Px) (Bx Bm n K : Nat) (rls : Array Slot) : Prop := ∀ (H : Heap) (locs : List Loc) (gx gm : Hp) (K1 : Nat), St s q Bx Bm n K1 gx gm H locs → K1 ≤ K + 24 → W p l e room_1 s m #[Value.ref b] below meth c H locs 600000 7302250 Q (F0 m 1020 rls [])
end LX
def swO : Array Int := #[125, 168, 191, 224, 247, 310, 333, 346, 369, 392, 435, 468, 491, 514, 527, 550, 593, 626, 639, 662, 731, 784, 807, 830, 879, 928, 941, 954]
def swT (r : Nat) : Nat := [168, 211, 234, 267, 290, 353, 376, 389, 412, 435, 478, 511, 534, 557, 570, 593, 636, 669, 682, 705, 774, 827, 850, 873, 922, 971, 984, 997].getD r 0
theorem sw_all : ∀ r : Nat, r < 28 → ¬ (nI r).toInt < 0 ∧ ¬ (27 : Int) < (nI r).toInt ∧ swO[((nI r).toInt - 0).toNat]? = some ((swT r : Int) - 43) := by decide +kernel
theorem an31 (a : Int32) : ∃ r : Nat, r < 32 ∧ a &&& 31 = nI r := pk_andE a (m := 31) 5 (by decide)
