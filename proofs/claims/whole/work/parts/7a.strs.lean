theorem q14 {q : Nat} (h1 : 1000 ≤ q) (h2 : q < 1014) : q - 1000 < 14 := by omega
theorem slenL_at {i : Nat} (hi : i < 14) : slenL.getD i 0 = slen i := by
  have : ∀ i, i < 14 → slenL.getD i 0 = slen i := by decide +kernel
  exact this i hi
theorem slen_shr (i : Nat) (hi : i < 14) : Int32.ofNat (slen i) >>> ((0 : Int32) &&& 31) = Int32.ofNat (slen i) := by
  have : ∀ i, i < 14 → Int32.ofNat (slen i) >>> ((0 : Int32) &&& 31) = Int32.ofNat (slen i) := by decide +kernel
  exact this i hi
theorem slen_lt {i : Nat} {x : Int32} (hi : i < 14) (hin : inb x (slen i)) : x < Int32.ofNat (slen i) := by
  have : ∀ i, i < 14 → (Int32.ofNat (slen i)).toInt = (slen i : Int) := by decide +kernel
  rw [Int32.lt_iff_toInt_lt, this i hi]
  exact hin.2
theorem str_all : ∀ i, i < 14 → ∀ j, j < slen i → (sbytL.getD i []).getD j 0 = schr i j ∧ ((schr i j &&& 255).toUInt32 % 65536).toInt32 = schr i j ∧ narrow .char (.int (schr i j)) = .int (schr i j) := by decide +kernel
theorem sbyt_at {i j : Nat} (hi : i < 14) (hj : j < slen i) : Value.int ((sbytL.getD i []).getD j 0) = .int (schr i j) := by rw [(str_all i hi j hj).1]
theorem schr_c {i j : Nat} (hi : i < 14) (hj : j < slen i) : ((schr i j &&& 255).toUInt32 % 65536).toInt32 = schr i j := (str_all i hi j hj).2.1
theorem schr_n {i j : Nat} (hi : i < 14) (hj : j < slen i) : narrow .char (.int (schr i j)) = .int (schr i j) := (str_all i hi j hj).2.2
def ys_co : MethodName := ⟨"java/lang/String", "coder", "()B"⟩
abbrev bs_co : ByteArray := prog_17_method_152_code
theorem ds_co_0 : decode bs_co 0 = .ok (.getstatic 38, 3) := by decide +kernel
theorem ds_co_3 : decode bs_co 3 = .ok (.ifCond .eq 10, 3) := by decide +kernel
theorem ds_co_6 : decode bs_co 6 = .ok (.aload_n 0, 1) := by decide +kernel
theorem ds_co_7 : decode bs_co 7 = .ok (.getfield 15, 3) := by decide +kernel
theorem ds_co_10 : decode bs_co 10 = .ok (.goto 4, 3) := by decide +kernel
theorem ds_co_13 : decode bs_co 13 = .ok (.iconst 1, 1) := by decide +kernel
theorem ds_co_14 : decode bs_co 14 = .ok (.ireturn, 1) := by decide +kernel
theorem wc_co : Cond.code ys_co bs_co 1 (some .byte) ∈ gw ∧ Cond.initialized ys_co.cls ∈ gw := ⟨tw_in (j := 593) (by decide +kernel), tw_in (j := 99) (by decide +kernel)⟩
theorem wk_co : Cond.instanceMethod ys_co ∈ gw := tw_in (j := 591) (by decide +kernel)
theorem wx_co : Cond.selects ys_co.cls ys_co ys_co ∈ gw := tw_in (j := 592) (by decide +kernel)
def wk2_co : List Cond := Cond.code ys_co bs_co 1 (some .byte) :: gw
theorem wg_co : GoodIn gw wk2_co := by
  intro x hx
  have hin : x ∈ gw := by
    rcases List.mem_cons.mp hx with e | e
    · rw [e]; exact wc_co.1
    · exact e
  exact ⟨hin, good_of_word (List.mem_filter.mp hin).2⟩
def ys_le : MethodName := ⟨"java/lang/String", "length", "()I"⟩
abbrev bs_le : ByteArray := prog_17_method_54_code
theorem ds_le_0 : decode bs_le 0 = .ok (.aload_n 0, 1) := by decide +kernel
theorem ds_le_1 : decode bs_le 1 = .ok (.getfield 9, 3) := by decide +kernel
theorem ds_le_4 : decode bs_le 4 = .ok (.arraylength, 1) := by decide +kernel
theorem ds_le_5 : decode bs_le 5 = .ok (.aload_n 0, 1) := by decide +kernel
theorem ds_le_6 : decode bs_le 6 = .ok (.invokevirtual 335, 3) := by decide +kernel
theorem ds_le_9 : decode bs_le 9 = .ok (.ishr, 1) := by decide +kernel
theorem ds_le_10 : decode bs_le 10 = .ok (.ireturn, 1) := by decide +kernel
theorem wc_le : Cond.code ys_le bs_le 1 (some .int) ∈ gw ∧ Cond.initialized ys_le.cls ∈ gw := ⟨tw_in (j := 589) (by decide +kernel), tw_in (j := 99) (by decide +kernel)⟩
theorem wk_le : Cond.instanceMethod ys_le ∈ gw := tw_in (j := 587) (by decide +kernel)
theorem wx_le : Cond.selects ys_le.cls ys_le ys_le ∈ gw := tw_in (j := 588) (by decide +kernel)
def wk2_le : List Cond := Cond.code ys_le bs_le 1 (some .int) :: gw
theorem wg_le : GoodIn gw wk2_le := by
  intro x hx
  have hin : x ∈ gw := by
    rcases List.mem_cons.mp hx with e | e
    · rw [e]; exact wc_le.1
    · exact e
  exact ⟨hin, good_of_word (List.mem_filter.mp hin).2⟩
def ys_is : MethodName := ⟨"java/lang/String", "isLatin1", "()Z"⟩
abbrev bs_is : ByteArray := prog_17_method_154_code
theorem ds_is_0 : decode bs_is 0 = .ok (.getstatic 38, 3) := by decide +kernel
theorem ds_is_3 : decode bs_is 3 = .ok (.ifCond .eq 14, 3) := by decide +kernel
theorem ds_is_6 : decode bs_is 6 = .ok (.aload_n 0, 1) := by decide +kernel
theorem ds_is_7 : decode bs_is 7 = .ok (.getfield 15, 3) := by decide +kernel
theorem ds_is_10 : decode bs_is 10 = .ok (.ifCond .ne 7, 3) := by decide +kernel
theorem ds_is_13 : decode bs_is 13 = .ok (.iconst 1, 1) := by decide +kernel
theorem ds_is_14 : decode bs_is 14 = .ok (.goto 4, 3) := by decide +kernel
theorem ds_is_17 : decode bs_is 17 = .ok (.iconst 0, 1) := by decide +kernel
theorem ds_is_18 : decode bs_is 18 = .ok (.ireturn, 1) := by decide +kernel
theorem wc_is : Cond.code ys_is bs_is 1 (some .boolean) ∈ gw ∧ Cond.initialized ys_is.cls ∈ gw := ⟨tw_in (j := 603) (by decide +kernel), tw_in (j := 99) (by decide +kernel)⟩
theorem wk_is : Cond.instanceMethod ys_is ∈ gw := tw_in (j := 601) (by decide +kernel)
theorem wx_is : Cond.selects ys_is.cls ys_is ys_is ∈ gw := tw_in (j := 602) (by decide +kernel)
def wk2_is : List Cond := Cond.code ys_is bs_is 1 (some .boolean) :: gw
theorem wg_is : GoodIn gw wk2_is := by
  intro x hx
  have hin : x ∈ gw := by
    rcases List.mem_cons.mp hx with e | e
    · rw [e]; exact wc_is.1
    · exact e
  exact ⟨hin, good_of_word (List.mem_filter.mp hin).2⟩
def ys_ch : MethodName := ⟨"java/lang/String", "charAt", "(I)C"⟩
abbrev bs_ch : ByteArray := prog_17_method_56_code
theorem ds_ch_0 : decode bs_ch 0 = .ok (.aload_n 0, 1) := by decide +kernel
theorem ds_ch_1 : decode bs_ch 1 = .ok (.invokevirtual 492, 3) := by decide +kernel
theorem ds_ch_4 : decode bs_ch 4 = .ok (.ifCond .eq 12, 3) := by decide +kernel
theorem ds_ch_7 : decode bs_ch 7 = .ok (.aload_n 0, 1) := by decide +kernel
theorem ds_ch_8 : decode bs_ch 8 = .ok (.getfield 9, 3) := by decide +kernel
theorem ds_ch_11 : decode bs_ch 11 = .ok (.iload_n 1, 1) := by decide +kernel
theorem ds_ch_12 : decode bs_ch 12 = .ok (.invokestatic 495, 3) := by decide +kernel
theorem ds_ch_15 : decode bs_ch 15 = .ok (.ireturn, 1) := by decide +kernel
theorem ds_ch_16 : decode bs_ch 16 = .ok (.aload_n 0, 1) := by decide +kernel
theorem ds_ch_17 : decode bs_ch 17 = .ok (.getfield 9, 3) := by decide +kernel
theorem ds_ch_20 : decode bs_ch 20 = .ok (.iload_n 1, 1) := by decide +kernel
theorem ds_ch_21 : decode bs_ch 21 = .ok (.invokestatic 498, 3) := by decide +kernel
theorem ds_ch_24 : decode bs_ch 24 = .ok (.ireturn, 1) := by decide +kernel
theorem wc_ch : Cond.code ys_ch bs_ch 2 (some .char) ∈ gw ∧ Cond.initialized ys_ch.cls ∈ gw := ⟨tw_in (j := 599) (by decide +kernel), tw_in (j := 99) (by decide +kernel)⟩
theorem wk_ch : Cond.instanceMethod ys_ch ∈ gw := tw_in (j := 597) (by decide +kernel)
theorem wx_ch : Cond.selects ys_ch.cls ys_ch ys_ch ∈ gw := tw_in (j := 598) (by decide +kernel)
def wk2_ch : List Cond := Cond.code ys_ch bs_ch 2 (some .char) :: gw
theorem wg_ch : GoodIn gw wk2_ch := by
  intro x hx
  have hin : x ∈ gw := by
    rcases List.mem_cons.mp hx with e | e
    · rw [e]; exact wc_ch.1
    · exact e
  exact ⟨hin, good_of_word (List.mem_filter.mp hin).2⟩
def ys_ci : MethodName := ⟨"java/lang/String", "checkIndex", "(II)V"⟩
abbrev bs_ci : ByteArray := prog_17_method_155_code
theorem ds_ci_0 : decode bs_ci 0 = .ok (.iload_n 0, 1) := by decide +kernel
theorem ds_ci_1 : decode bs_ci 1 = .ok (.iload_n 1, 1) := by decide +kernel
theorem ds_ci_2 : decode bs_ci 2 = .ok (.getstatic 1053, 3) := by decide +kernel
theorem ds_ci_5 : decode bs_ci 5 = .ok (.invokestatic 1059, 3) := by decide +kernel
theorem ds_ci_8 : decode bs_ci 8 = .ok (.pop, 1) := by decide +kernel
theorem ds_ci_9 : decode bs_ci 9 = .ok (.return_, 1) := by decide +kernel
theorem wc_ci : Cond.code ys_ci bs_ci 2 none ∈ gw ∧ Cond.initialized ys_ci.cls ∈ gw := ⟨tw_in (j := 609) (by decide +kernel), tw_in (j := 99) (by decide +kernel)⟩
theorem wk_ci : Cond.static ys_ci ∈ gw := tw_in (j := 608) (by decide +kernel)
def wk2_ci : List Cond := Cond.code ys_ci bs_ci 2 none :: gw
theorem wg_ci : GoodIn gw wk2_ci := by
  intro x hx
  have hin : x ∈ gw := by
    rcases List.mem_cons.mp hx with e | e
    · rw [e]; exact wc_ci.1
    · exact e
  exact ⟨hin, good_of_word (List.mem_filter.mp hin).2⟩
def ys_lc : MethodName := ⟨"java/lang/StringLatin1", "charAt", "([BI)C"⟩
abbrev bs_lc : ByteArray := prog_18_method_2_code
theorem ds_lc_0 : decode bs_lc 0 = .ok (.iload_n 1, 1) := by decide +kernel
theorem ds_lc_1 : decode bs_lc 1 = .ok (.aload_n 0, 1) := by decide +kernel
theorem ds_lc_2 : decode bs_lc 2 = .ok (.arraylength, 1) := by decide +kernel
theorem ds_lc_3 : decode bs_lc 3 = .ok (.invokestatic 9, 3) := by decide +kernel
theorem ds_lc_6 : decode bs_lc 6 = .ok (.aload_n 0, 1) := by decide +kernel
theorem ds_lc_7 : decode bs_lc 7 = .ok (.iload_n 1, 1) := by decide +kernel
theorem ds_lc_8 : decode bs_lc 8 = .ok (.baload, 1) := by decide +kernel
theorem ds_lc_9 : decode bs_lc 9 = .ok (.sipush 255, 3) := by decide +kernel
theorem ds_lc_12 : decode bs_lc 12 = .ok (.iand, 1) := by decide +kernel
theorem ds_lc_13 : decode bs_lc 13 = .ok (.i2c, 1) := by decide +kernel
theorem ds_lc_14 : decode bs_lc 14 = .ok (.ireturn, 1) := by decide +kernel
theorem wc_lc : Cond.code ys_lc bs_lc 2 (some .char) ∈ gw ∧ Cond.initialized ys_lc.cls ∈ gw := ⟨tw_in (j := 606) (by decide +kernel), tw_in (j := 100) (by decide +kernel)⟩
theorem wk_lc : Cond.static ys_lc ∈ gw := tw_in (j := 605) (by decide +kernel)
def wk2_lc : List Cond := Cond.code ys_lc bs_lc 2 (some .char) :: gw
theorem wg_lc : GoodIn gw wk2_lc := by
  intro x hx
  have hin : x ∈ gw := by
    rcases List.mem_cons.mp hx with e | e
    · rw [e]; exact wc_lc.1
    · exact e
  exact ⟨hin, good_of_word (List.mem_filter.mp hin).2⟩
def ys_pc : MethodName := ⟨"jdk/internal/util/Preconditions", "checkIndex", "(IILjava/util/function/BiFunction;)I"⟩
abbrev bs_pc : ByteArray := prog_22_method_11_code
theorem ds_pc_0 : decode bs_pc 0 = .ok (.iload_n 0, 1) := by decide +kernel
theorem ds_pc_1 : decode bs_pc 1 = .ok (.ifCond .lt 8, 3) := by decide +kernel
theorem ds_pc_4 : decode bs_pc 4 = .ok (.iload_n 0, 1) := by decide +kernel
theorem ds_pc_5 : decode bs_pc 5 = .ok (.iload_n 1, 1) := by decide +kernel
theorem ds_pc_6 : decode bs_pc 6 = .ok (.if_icmp .lt 10, 3) := by decide +kernel
theorem ds_pc_9 : decode bs_pc 9 = .ok (.aload_n 2, 1) := by decide +kernel
theorem ds_pc_10 : decode bs_pc 10 = .ok (.iload_n 0, 1) := by decide +kernel
theorem ds_pc_11 : decode bs_pc 11 = .ok (.iload_n 1, 1) := by decide +kernel
theorem ds_pc_12 : decode bs_pc 12 = .ok (.invokestatic 95, 3) := by decide +kernel
theorem ds_pc_15 : decode bs_pc 15 = .ok (.athrow, 1) := by decide +kernel
theorem ds_pc_16 : decode bs_pc 16 = .ok (.iload_n 0, 1) := by decide +kernel
theorem ds_pc_17 : decode bs_pc 17 = .ok (.ireturn, 1) := by decide +kernel
theorem wc_pc : Cond.code ys_pc bs_pc 3 (some .int) ∈ gw ∧ Cond.initialized ys_pc.cls ∈ gw := ⟨tw_in (j := 614) (by decide +kernel), tw_in (j := 101) (by decide +kernel)⟩
theorem wk_pc : Cond.static ys_pc ∈ gw := tw_in (j := 613) (by decide +kernel)
def wk2_pc : List Cond := Cond.code ys_pc bs_pc 3 (some .int) :: gw
theorem wg_pc : GoodIn gw wk2_pc := by
  intro x hx
  have hin : x ∈ gw := by
    rcases List.mem_cons.mp hx with e | e
    · rw [e]; exact wc_pc.1
    · exact e
  exact ⟨hin, good_of_word (List.mem_filter.mp hin).2⟩
def QsA (r : Option Value) : Array Value → State → Outcome → State → Prop := fun _ st oc t => oc = .returned r ∧ t.heap = st.heap
def PsA (M : Pm) (vs : List Value) : Array Value → State → Prop := va_Pc vs (Ev M)
section STR
variable {l : Launch} {p : Program} {e : Env} {Rm : Room} {s : State} {m : MethodId} {args : Array Value} {below : List Frame} {meth : Method} {c : Code} {H : Heap} {locs : List Loc} {cells slots : Nat} {Q : State → Prop} {M : Pm}
theorem PsA_blind (vs : List Value) : FrameBlind (PsA M vs) := fun a U g mk q => ⟨q.1, q.2.same rfl rfl⟩
theorem S_runS {pc : Nat} {r : Option Value} {rest st0 : List Value} {a0 : Array Value} {rls : Array Slot} (hr : va_Run p l e Rm s m args below meth c H locs cells slots 0 0 (F0 m pc rls st0) rest (QsA r a0) (Own M)) (hS : va_S (Own M) s.heap H locs) (kk : ∀ locs1 : List Loc, va_S (Own M) s.heap H locs1 → W p l e Rm s m args below meth c H locs1 cells slots Q (F0 m (pc + 3) rls (r.toList ++ rest))) : W p l e Rm s m args below meth c H locs cells slots Q (F0 m pc rls st0) := by
  intro T hT X
  obtain ⟨v, st₀, t, T', L, g0, X', hL, e1, e2, ⟨hv, hh⟩, st⟩ := hr T hT X
  cases hv
  have eH : T'.heap = H := by rw [e1, hh, g0]
  obtain ⟨t2, a1, b1⟩ := kk (locs ++ L) ⟨hS.1, hS.2.1, fun q hq => by
      rcases List.mem_append.mp hq with h | h
      · exact hS.2.2 q h
      · exact hL q h⟩ T' eH X'
  exact ⟨t2, st t2 a1, b1⟩
end STR
set_option maxHeartbeats 4000000 in
theorem ms_co (l : Launch) (M : Pm) (i : Nat) (hi : i < 14) : Met l ys_co wk2_co (rmA 0 0 0) (PsA M [.ref (pK M i)]) (QsA (some (.int 0))) 0 0 (Own M) := by
  refine Met.ofW (cc := bs_co) (maxL := 1) (ret := (some .byte)) (by decide) rfl ?_
  intro p e s m args below meth c s₁ B hml hv
  obtain ⟨rfl, hE⟩ := hv
  have hx := B.exec
  have hb := B.bytes
  have hr := B.returns
  have hts : ∀ x ∈ gw, x.before _ s = true := fun x hx => atoms_spec (ws := wk2_co) B.pre x (List.mem_cons_of_mem _ hx)
  have hown : s.vm.findClass "java/lang/String" = some m.cls := findClass_of_methodNamed B.named
  have hlocks := B.notSynchronized
  have hS : va_S (Own M) s.heap s.heap [] := va_S.rf
  have hl := lv_entry ([.ref (pK M i)]) (n := 1) (Nat.le_of_ble_eq_true rfl)
  rw [lg_entry_eq]
  generalize (lg_sl ([.ref (pK M i)]) ++ List.replicate (1 - (lg_sl ([.ref (pK M i)])).length) Slot.unset).toArray = ls at hl ⊢
  have hl : lv_has ls 1 [(0, .ref (pK M i))] := hl
  refine va_gets hx hb hE.2.2.2.2.2.2.2.1 hS hown (hts _ (tw_in (j := 594) (x := .fieldLink "java/lang/String" 38 "java/lang/String" "COMPACT_STRINGS" "Z") (by decide +kernel))) (fun _ h => h) ds_co_0 ?_
  refine lv_if_eq (tgt := 13) hx hb ds_co_3 (by decide) (fun c9 => absurd c9 (by decide)) (fun _ => ?_)
  refine lv_aload_n hx hb ds_co_6 rfl (lv_at hl 0 rfl) ?_
  refine vk_getf hx hb (hE.2.2.2.2.2.2.1.1 i hi).2.1 hS hown (hts _ (tw_in (j := 1562) (x := .fieldLink "java/lang/String" 15 "java/lang/String" "coder" "B") (by decide +kernel))) (fun _ h => h) ds_co_7 ?_
  refine lv_goto (tgt := 14) hx hb ds_co_10 (by decide) ?_
  exact W.zret hx hb hr rfl (fun t ht hW => ⟨rfl, ht⟩) hS.2.2 ds_co_14
set_option maxHeartbeats 4000000 in
theorem ms_is (l : Launch) (M : Pm) (i : Nat) (hi : i < 14) : Met l ys_is wk2_is (rmA 0 0 0) (PsA M [.ref (pK M i)]) (QsA (some (.int 1))) 0 0 (Own M) := by
  refine Met.ofW (cc := bs_is) (maxL := 1) (ret := (some .boolean)) (by decide) rfl ?_
  intro p e s m args below meth c s₁ B hml hv
  obtain ⟨rfl, hE⟩ := hv
  have hx := B.exec
  have hb := B.bytes
  have hr := B.returns
  have hts : ∀ x ∈ gw, x.before _ s = true := fun x hx => atoms_spec (ws := wk2_is) B.pre x (List.mem_cons_of_mem _ hx)
  have hown : s.vm.findClass "java/lang/String" = some m.cls := findClass_of_methodNamed B.named
  have hlocks := B.notSynchronized
  have hS : va_S (Own M) s.heap s.heap [] := va_S.rf
  have hl := lv_entry ([.ref (pK M i)]) (n := 1) (Nat.le_of_ble_eq_true rfl)
  rw [lg_entry_eq]
  generalize (lg_sl ([.ref (pK M i)]) ++ List.replicate (1 - (lg_sl ([.ref (pK M i)])).length) Slot.unset).toArray = ls at hl ⊢
  have hl : lv_has ls 1 [(0, .ref (pK M i))] := hl
  refine va_gets hx hb hE.2.2.2.2.2.2.2.1 hS hown (hts _ (tw_in (j := 594) (x := .fieldLink "java/lang/String" 38 "java/lang/String" "COMPACT_STRINGS" "Z") (by decide +kernel))) (fun _ h => h) ds_is_0 ?_
  refine lv_if_eq (tgt := 17) hx hb ds_is_3 (by decide) (fun c9 => absurd c9 (by decide)) (fun _ => ?_)
  refine lv_aload_n hx hb ds_is_6 rfl (lv_at hl 0 rfl) ?_
  refine vk_getf hx hb (hE.2.2.2.2.2.2.1.1 i hi).2.1 hS hown (hts _ (tw_in (j := 1562) (x := .fieldLink "java/lang/String" 15 "java/lang/String" "coder" "B") (by decide +kernel))) (fun _ h => h) ds_is_7 ?_
  refine lv_if_ne (tgt := 17) hx hb ds_is_10 (by decide) (fun c9 => absurd rfl c9) (fun _ => ?_)
  refine lv_iconst (v := 1) hx hb ds_is_13 (by decide) ?_
  refine lv_goto (tgt := 18) hx hb ds_is_14 (by decide) ?_
  exact W.zret hx hb hr rfl (fun t ht hW => ⟨rfl, ht⟩) hS.2.2 ds_is_18
set_option maxHeartbeats 4000000 in
theorem ms_le (l : Launch) (M : Pm) (i : Nat) (hi : i < 14) : Met l ys_le wk2_le (rmA 1 0 0) (PsA M [.ref (pK M i)]) (QsA (some (.int (Int32.ofNat (slen i))))) 0 0 (Own M) := by
  refine Met.ofW (cc := bs_le) (maxL := 1) (ret := (some .int)) (by decide) rfl ?_
  intro p e s m args below meth c s₁ B hml hv
  obtain ⟨rfl, hE⟩ := hv
  have hx := B.exec
  have hb := B.bytes
  have hr := B.returns
  have hts : ∀ x ∈ gw, x.before _ s = true := fun x hx => atoms_spec (ws := wk2_le) B.pre x (List.mem_cons_of_mem _ hx)
  have hown : s.vm.findClass "java/lang/String" = some m.cls := findClass_of_methodNamed B.named
  have hlocks := B.notSynchronized
  have hS : va_S (Own M) s.heap s.heap [] := va_S.rf
  have hl := lv_entry ([.ref (pK M i)]) (n := 1) (Nat.le_of_ble_eq_true rfl)
  rw [lg_entry_eq]
  generalize (lg_sl ([.ref (pK M i)]) ++ List.replicate (1 - (lg_sl ([.ref (pK M i)])).length) Slot.unset).toArray = ls at hl ⊢
  have hl : lv_has ls 1 [(0, .ref (pK M i))] := hl
  have hT := (hE.2.2.2.2.2.2.1.1 i hi).2.2.2
  refine lv_aload_n hx hb ds_le_0 rfl (lv_at hl 0 rfl) ?_
  refine vk_getf hx hb (hE.2.2.2.2.2.2.1.1 i hi).2.2.1 hS hown (hts _ (tw_in (j := 1561) (x := .fieldLink "java/lang/String" 9 "java/lang/String" "value" "[B") (by decide +kernel))) (fun _ h => h) ds_le_1 ?_
  refine va_tlen hx hb hT hS (v := Int32.ofNat (slen i)) (by rw [slenL_at hi]) ds_le_4 ?_
  refine lv_aload_n hx hb ds_le_5 rfl (lv_at hl 0 rfl) ?_
  refine S_runS (va_runV (As := []) (rest := [.int (Int32.ofNat (slen i))]) (cells := 0) (slots := 0) ⟨hx, hb, hml, hown, hts⟩ (ms_co l M i hi) ⟨callB_of 0 hts wg_co rfl rfl rfl (hts _ wc_co.2) (hts _ (tw_in (j := 590) (x := .methodLink "java/lang/String" 335 ys_co) (by decide +kernel))) (by decide +kernel) ⟨Nat.le_of_ble_eq_true rfl, Nat.le_of_ble_eq_true rfl⟩, hts _ wk_co, hts _ wx_co⟩ ⟨PsA_blind _, vk_recv hE.2.2.2.2.2.2.1 hi hS, fun U hU hW => ⟨rfl, hE.go hS hU hW⟩⟩ rfl rfl hl.1 rfl (lv_room (Nat.le_of_ble_eq_true rfl)) ds_le_6 ⟨Nat.zero_le _, Nat.zero_le _⟩) hS (fun locs hS => ?_)
  refine lv_ishr hx hb ds_le_9 ?_
  have es : Int32.ofNat (slen i) >>> ((0 : Int32) &&& 31) = Int32.ofNat (slen i) := slen_shr i hi
  rw [es]
  exact W.iret hx hb hr (fun t ht hW => ⟨rfl, ht⟩) hS.2.2 ds_le_10
set_option maxHeartbeats 4000000 in
theorem ms_pcN (l : Launch) (M : Pm) (x n : Int32) (h0 : ¬ x < 0) (h1 : x < n) : Met l ys_pc wk2_pc (rmA 0 0 0) (PsA M [.int x, .int n, .null]) (QsA (some (.int x))) 0 0 (Own M) := by
  refine Met.ofW (cc := bs_pc) (maxL := 3) (ret := (some .int)) (by decide) rfl ?_
  intro p e s m args below meth c s₁ B hml hv
  obtain ⟨rfl, hE⟩ := hv
  have hx := B.exec
  have hb := B.bytes
  have hr := B.returns
  have hts : ∀ x ∈ gw, x.before _ s = true := fun x hx => atoms_spec (ws := wk2_pc) B.pre x (List.mem_cons_of_mem _ hx)
  have hown : s.vm.findClass "jdk/internal/util/Preconditions" = some m.cls := findClass_of_methodNamed B.named
  have hlocks := B.notSynchronized
  have hS : va_S (Own M) s.heap s.heap [] := va_S.rf
  have hl := lv_entry ([.int x, .int n, .null]) (n := 3) (Nat.le_of_ble_eq_true rfl)
  rw [lg_entry_eq]
  generalize (lg_sl ([.int x, .int n, .null]) ++ List.replicate (3 - (lg_sl ([.int x, .int n, .null])).length) Slot.unset).toArray = ls at hl ⊢
  have hl : lv_has ls 3 [(0, .int x), (1, .int n), (2, .null)] := hl
  refine lv_iload_n hx hb ds_pc_0 rfl (lv_at hl 0 rfl) ?_
  refine lv_if_lt (tgt := 9) hx hb ds_pc_1 (by decide) (fun c9 => absurd c9 h0) (fun _ => ?_)
  refine lv_iload_n hx hb ds_pc_4 rfl (lv_at hl 0 rfl) ?_
  refine lv_iload_n hx hb ds_pc_5 rfl (lv_at hl 1 rfl) ?_
  refine lv_icmp_lt (tgt := 16) hx hb ds_pc_6 (by decide) (fun _ => ?_) (fun c9 => absurd h1 c9)
  refine lv_iload_n hx hb ds_pc_16 rfl (lv_at hl 0 rfl) ?_
  exact W.iret hx hb hr (fun t ht hW => ⟨rfl, ht⟩) hS.2.2 ds_pc_17
set_option maxHeartbeats 4000000 in
theorem ms_pcR (l : Launch) (M : Pm) (x n : Int32) (t : Nat) (h0 : ¬ x < 0) (h1 : x < n) : Met l ys_pc wk2_pc (rmA 0 0 0) (PsA M [.int x, .int n, .ref t]) (QsA (some (.int x))) 0 0 (Own M) := by
  refine Met.ofW (cc := bs_pc) (maxL := 3) (ret := (some .int)) (by decide) rfl ?_
  intro p e s m args below meth c s₁ B hml hv
  obtain ⟨rfl, hE⟩ := hv
  have hx := B.exec
  have hb := B.bytes
  have hr := B.returns
  have hts : ∀ x ∈ gw, x.before _ s = true := fun x hx => atoms_spec (ws := wk2_pc) B.pre x (List.mem_cons_of_mem _ hx)
  have hown : s.vm.findClass "jdk/internal/util/Preconditions" = some m.cls := findClass_of_methodNamed B.named
  have hlocks := B.notSynchronized
  have hS : va_S (Own M) s.heap s.heap [] := va_S.rf
  have hl := lv_entry ([.int x, .int n, .ref t]) (n := 3) (Nat.le_of_ble_eq_true rfl)
  rw [lg_entry_eq]
  generalize (lg_sl ([.int x, .int n, .ref t]) ++ List.replicate (3 - (lg_sl ([.int x, .int n, .ref t])).length) Slot.unset).toArray = ls at hl ⊢
  have hl : lv_has ls 3 [(0, .int x), (1, .int n), (2, .ref t)] := hl
  refine lv_iload_n hx hb ds_pc_0 rfl (lv_at hl 0 rfl) ?_
  refine lv_if_lt (tgt := 9) hx hb ds_pc_1 (by decide) (fun c9 => absurd c9 h0) (fun _ => ?_)
  refine lv_iload_n hx hb ds_pc_4 rfl (lv_at hl 0 rfl) ?_
  refine lv_iload_n hx hb ds_pc_5 rfl (lv_at hl 1 rfl) ?_
  refine lv_icmp_lt (tgt := 16) hx hb ds_pc_6 (by decide) (fun _ => ?_) (fun c9 => absurd h1 c9)
  refine lv_iload_n hx hb ds_pc_16 rfl (lv_at hl 0 rfl) ?_
  exact W.iret hx hb hr (fun t ht hW => ⟨rfl, ht⟩) hS.2.2 ds_pc_17
theorem ms_pc (l : Launch) (M : Pm) (x n : Int32) (fm : Value) (hfm : fm = .null ∨ ∃ t, fm = .ref t) (h0 : ¬ x < 0) (h1 : x < n) : Met l ys_pc wk2_pc (rmA 0 0 0) (PsA M [.int x, .int n, fm]) (QsA (some (.int x))) 0 0 (Own M) := by
  rcases hfm with rfl | ⟨t, rfl⟩
  · exact ms_pcN l M x n h0 h1
  · exact ms_pcR l M x n t h0 h1
set_option maxHeartbeats 4000000 in
theorem ms_ci (l : Launch) (M : Pm) (x n : Int32) (h0 : ¬ x < 0) (h1 : x < n) : Met l ys_ci wk2_ci (rmA 1 0 0) (PsA M [.int x, .int n]) (QsA none) 0 0 (Own M) := by
  refine Met.ofW (cc := bs_ci) (maxL := 2) (ret := none) (by decide) rfl ?_
  intro p e s m args below meth c s₁ B hml hv
  obtain ⟨rfl, hE⟩ := hv
  have hx := B.exec
  have hb := B.bytes
  have hr := B.returns
  have hts : ∀ x ∈ gw, x.before _ s = true := fun x hx => atoms_spec (ws := wk2_ci) B.pre x (List.mem_cons_of_mem _ hx)
  have hown : s.vm.findClass "java/lang/String" = some m.cls := findClass_of_methodNamed B.named
  have hlocks := B.notSynchronized
  have hS : va_S (Own M) s.heap s.heap [] := va_S.rf
  have hl := lv_entry ([.int x, .int n]) (n := 2) (Nat.le_of_ble_eq_true rfl)
  rw [lg_entry_eq]
  generalize (lg_sl ([.int x, .int n]) ++ List.replicate (2 - (lg_sl ([.int x, .int n])).length) Slot.unset).toArray = ls at hl ⊢
  have hl : lv_has ls 2 [(0, .int x), (1, .int n)] := hl
  have key : ∀ fm : Value, (fm = .null ∨ ∃ t, fm = .ref t) → W p l e (headSpec wk2_ci (rmA 1 0 0)).room s m ([.int x, .int n] : List Value).toArray below meth c s.heap [] 0 0 (MQ below (QsA none) ([.int x, .int n] : List Value).toArray s 0 0 (Own M)) (F0 m 5 ls [fm, .int n, .int x]) := by
    intro fm hfm
    have hcat : ([fm].map fun v => v.category).sum = 1 := by rcases hfm with rfl | ⟨t, rfl⟩ <;> rfl
    refine S_runS (va_runS (As := [.int x, .int n, fm]) (rest := []) (cells := 0) (slots := 0) ⟨hx, hb, hml, hown, hts⟩ (ms_pc l M x n fm hfm h0 h1) ⟨callB_of 3 hts wg_pc rfl rfl rfl (hts _ wc_pc.2) (hts _ (tw_in (j := 612) (x := .methodLink "java/lang/String" 1059 ys_pc) (by decide +kernel))) (by decide +kernel) ⟨Nat.le_of_ble_eq_true rfl, Nat.le_of_ble_eq_true rfl⟩, hts _ wk_pc⟩ ⟨PsA_blind _, fun U hU hW => ⟨rfl, hE.go hS hU hW⟩⟩ rfl rfl hl.1 rfl (lv_room (Nat.le_of_ble_eq_true rfl)) ds_ci_5 ⟨Nat.zero_le _, Nat.zero_le _⟩) hS (fun locs hS => ?_)
    refine lv_pop hx hb ds_ci_8 rfl ?_
    exact W.vret hx hb hr (fun t ht hW => ⟨rfl, ht⟩) hS.2.2 ds_ci_9
  refine lv_iload_n hx hb ds_ci_0 rfl (lv_at hl 0 rfl) ?_
  refine lv_iload_n hx hb ds_ci_1 rfl (lv_at hl 1 rfl) ?_
  rcases hE.2.2.2.2.2.2.2.2.2 with hZ | ⟨t, hZ⟩
  · refine va_gets hx hb hZ hS hown (hts _ (tw_in (j := 610) (x := .fieldLink "java/lang/String" 1053 "jdk/internal/util/Preconditions" "SIOOBE_FORMATTER" "Ljava/util/function/BiFunction;") (by decide +kernel))) (fun _ h => h) ds_ci_2 ?_
    exact key .null (Or.inl rfl)
  · refine va_gets hx hb hZ hS hown (hts _ (tw_in (j := 610) (x := .fieldLink "java/lang/String" 1053 "jdk/internal/util/Preconditions" "SIOOBE_FORMATTER" "Ljava/util/function/BiFunction;") (by decide +kernel))) (fun _ h => h) ds_ci_2 ?_
    exact key (.ref t) (Or.inr ⟨t, rfl⟩)
set_option maxHeartbeats 4000000 in
theorem ms_lc (l : Launch) (M : Pm) (i : Nat) (hi : i < 14) (x : Int32) (hin : inb x (slen i)) : Met l ys_lc wk2_lc (rmA 2 0 0) (PsA M [.ref (pV M i), .int x]) (QsA (some (.int (schr i (ix x))))) 0 0 (Own M) := by
  refine Met.ofW (cc := bs_lc) (maxL := 2) (ret := (some .char)) (by decide) rfl ?_
  intro p e s m args below meth c s₁ B hml hv
  obtain ⟨rfl, hE⟩ := hv
  have hx := B.exec
  have hb := B.bytes
  have hr := B.returns
  have hts : ∀ x ∈ gw, x.before _ s = true := fun x hx => atoms_spec (ws := wk2_lc) B.pre x (List.mem_cons_of_mem _ hx)
  have hown : s.vm.findClass "java/lang/StringLatin1" = some m.cls := findClass_of_methodNamed B.named
  have hlocks := B.notSynchronized
  have hS : va_S (Own M) s.heap s.heap [] := va_S.rf
  have hl := lv_entry ([.ref (pV M i), .int x]) (n := 2) (Nat.le_of_ble_eq_true rfl)
  rw [lg_entry_eq]
  generalize (lg_sl ([.ref (pV M i), .int x]) ++ List.replicate (2 - (lg_sl ([.ref (pV M i), .int x])).length) Slot.unset).toArray = ls at hl ⊢
  have hl : lv_has ls 2 [(0, .ref (pV M i)), (1, .int x)] := hl
  have hT := (hE.2.2.2.2.2.2.1.1 i hi).2.2.2
  rw [slenL_at hi] at hT
  have hvi := vp_of hin
  have hlt : x < Int32.ofNat (slen i) := slen_lt hi hin
  refine lv_iload_n hx hb ds_lc_0 rfl (lv_at hl 1 rfl) ?_
  refine lv_aload_n hx hb ds_lc_1 rfl (lv_at hl 0 rfl) ?_
  refine va_tlen hx hb hT hS (v := Int32.ofNat (slen i)) rfl ds_lc_2 ?_
  refine S_runS (va_runS (As := [.int x, .int (Int32.ofNat (slen i))]) (rest := []) (cells := 0) (slots := 0) ⟨hx, hb, hml, hown, hts⟩ (ms_ci l M x (Int32.ofNat (slen i)) (fun z => hvi (Or.inl z)) hlt) ⟨callB_of 2 hts wg_ci rfl rfl rfl (hts _ wc_ci.2) (hts _ (tw_in (j := 607) (x := .methodLink "java/lang/StringLatin1" 9 ys_ci) (by decide +kernel))) (by decide +kernel) ⟨Nat.le_of_ble_eq_true rfl, Nat.le_of_ble_eq_true rfl⟩, hts _ wk_ci⟩ ⟨PsA_blind _, fun U hU hW => ⟨rfl, hE.go hS hU hW⟩⟩ rfl rfl hl.1 rfl (lv_room (Nat.le_of_ble_eq_true rfl)) ds_lc_3 ⟨Nat.zero_le _, Nat.zero_le _⟩) hS (fun locs hS => ?_)
  refine lv_aload_n hx hb ds_lc_6 rfl (lv_at hl 0 rfl) ?_
  refine lv_iload_n hx hb ds_lc_7 rfl (lv_at hl 1 rfl) ?_
  refine va_tb hx hb hT hS hvi (v := .int (schr i (ix x))) (sbyt_at hi (Nat.not_le.mp fun q => hvi (Or.inr q))) ds_lc_8 ?_
  refine lv_sipush (v := 255) hx hb ds_lc_9 (by decide) ?_
  refine lv_iand hx hb ds_lc_12 ?_
  refine lv_i2c (v := schr i (ix x)) hx hb ds_lc_13 (schr_c hi (Nat.not_le.mp fun q => hvi (Or.inr q))) ?_
  exact W.zret hx hb hr (schr_n hi (Nat.not_le.mp fun q => hvi (Or.inr q))) (fun t ht hW => ⟨rfl, ht⟩) hS.2.2 ds_lc_14
set_option maxHeartbeats 4000000 in
theorem ms_ch (l : Launch) (M : Pm) (i : Nat) (hi : i < 14) (x : Int32) (hin : inb x (slen i)) : Met l ys_ch wk2_ch (rmA 3 0 0) (PsA M [.ref (pK M i), .int x]) (QsA (some (.int (schr i (ix x))))) 0 0 (Own M) := by
  refine Met.ofW (cc := bs_ch) (maxL := 2) (ret := (some .char)) (by decide) rfl ?_
  intro p e s m args below meth c s₁ B hml hv
  obtain ⟨rfl, hE⟩ := hv
  have hx := B.exec
  have hb := B.bytes
  have hr := B.returns
  have hts : ∀ x ∈ gw, x.before _ s = true := fun x hx => atoms_spec (ws := wk2_ch) B.pre x (List.mem_cons_of_mem _ hx)
  have hown : s.vm.findClass "java/lang/String" = some m.cls := findClass_of_methodNamed B.named
  have hlocks := B.notSynchronized
  have hS : va_S (Own M) s.heap s.heap [] := va_S.rf
  have hl := lv_entry ([.ref (pK M i), .int x]) (n := 2) (Nat.le_of_ble_eq_true rfl)
  rw [lg_entry_eq]
  generalize (lg_sl ([.ref (pK M i), .int x]) ++ List.replicate (2 - (lg_sl ([.ref (pK M i), .int x])).length) Slot.unset).toArray = ls at hl ⊢
  have hl : lv_has ls 2 [(0, .ref (pK M i)), (1, .int x)] := hl
  have hvi := vp_of hin
  refine lv_aload_n hx hb ds_ch_0 rfl (lv_at hl 0 rfl) ?_
  refine S_runS (va_runV (As := []) (rest := []) (cells := 0) (slots := 0) ⟨hx, hb, hml, hown, hts⟩ (ms_is l M i hi) ⟨callB_of 0 hts wg_is rfl rfl rfl (hts _ wc_is.2) (hts _ (tw_in (j := 600) (x := .methodLink "java/lang/String" 492 ys_is) (by decide +kernel))) (by decide +kernel) ⟨Nat.le_of_ble_eq_true rfl, Nat.le_of_ble_eq_true rfl⟩, hts _ wk_is, hts _ wx_is⟩ ⟨PsA_blind _, vk_recv hE.2.2.2.2.2.2.1 hi hS, fun U hU hW => ⟨rfl, hE.go hS hU hW⟩⟩ rfl rfl hl.1 rfl (lv_room (Nat.le_of_ble_eq_true rfl)) ds_ch_1 ⟨Nat.zero_le _, Nat.zero_le _⟩) hS (fun locs hS => ?_)
  refine lv_if_eq (tgt := 16) hx hb ds_ch_4 (by decide) (fun c9 => absurd c9 (by decide)) (fun _ => ?_)
  refine lv_aload_n hx hb ds_ch_7 rfl (lv_at hl 0 rfl) ?_
  refine vk_getf hx hb (hE.2.2.2.2.2.2.1.1 i hi).2.2.1 hS hown (hts _ (tw_in (j := 1561) (x := .fieldLink "java/lang/String" 9 "java/lang/String" "value" "[B") (by decide +kernel))) (fun _ h => h) ds_ch_8 ?_
  refine lv_iload_n hx hb ds_ch_11 rfl (lv_at hl 1 rfl) ?_
  refine S_runS (va_runS (As := [.ref (pV M i), .int x]) (rest := []) (cells := 0) (slots := 0) ⟨hx, hb, hml, hown, hts⟩ (ms_lc l M i hi x hin) ⟨callB_of 2 hts wg_lc rfl rfl rfl (hts _ wc_lc.2) (hts _ (tw_in (j := 604) (x := .methodLink "java/lang/String" 495 ys_lc) (by decide +kernel))) (by decide +kernel) ⟨Nat.le_of_ble_eq_true rfl, Nat.le_of_ble_eq_true rfl⟩, hts _ wk_lc⟩ ⟨PsA_blind _, fun U hU hW => ⟨rfl, hE.go hS hU hW⟩⟩ rfl rfl hl.1 rfl (lv_room (Nat.le_of_ble_eq_true rfl)) ds_ch_12 ⟨Nat.zero_le _, Nat.zero_le _⟩) hS (fun locs hS => ?_)
  exact W.zret hx hb hr (schr_n hi (Nat.not_le.mp fun q => hvi (Or.inr q))) (fun t ht hW => ⟨rfl, ht⟩) hS.2.2 ds_ch_15
theorem strs (l : Launch) (M : Pm) : Strs l M := by
  intro p e Rm s m args below meth c H locs cells slots Q k d i op b c0 a rls st st' v hi ho ck C hrl hd5 hS hcl hsl hp hcs kk
  obtain ⟨hx, hb, hml, hown, hts, hr, hlk, hnm, hE, hfr, hlo⟩ := C
  have dd := ck_d ck
  have nn := ck_n ck
  have ww := ck_w ck
  have hWr : 2 * (F0 m (pcAt k i) rls (st.map (tr M))).monitorRoom + ((st'.map (tr M)).map fun v => v.category).sum ≤ 8 := by
    show 2 * 0 + _ ≤ 8
    rw [tr_csum]; omega
  have had : ∀ q : Nat, 1000 ≤ q → tr M (.ref q) = .ref (pK M (q - 1000)) := fun q hq => by
    show Value.ref (ad M q) = _
    unfold ad
    rw [if_neg (by omega)]
  rcases ho with rfl | rfl
  · have X : xin k i = (.invokevirtual b, 3) := by unfold xin; rw [hi]; rfl
    rw [X] at dd nn
    have nn : pcAt k (i + 1) = pcAt k i + 3 := nn
    rw [nn] at kk
    have ww : tw (wiAt k i) (.methodLink (mY k).cls b ⟨"java/lang/String", "length", "()I"⟩) = true := by unfold wok at ww; rw [hi] at ww; exact ww
    match st, hp with
    | .ref q :: st, hp =>
      have hp : (if 1000 ≤ q ∧ q < 1014 then some (Value.int (Int32.ofNat (slen (q - 1000))), st) else none) = some (v, st') := hp
      by_cases hq : 1000 ≤ q ∧ q < 1014
      · rw [if_pos hq] at hp
        have hz := Prod.mk.inj (Option.some.inj hp)
        have hz1 := hz.1
        have hz2 := hz.2
        subst hz1
        subst hz2
        show W p l e Rm s m args below meth c H locs cells slots Q (F0 m (pcAt k i) rls (tr M (.ref q) :: st.map (tr M)))
        rw [had q hq.1]
        refine S_runS (va_runV (C := "java/lang/String") (As := []) (rest := st.map (tr M)) (mc := 0) (ms := 0) ⟨hx, hb, hml, hown, hts⟩ (ms_le l M (q - 1000) (q14 hq.1 hq.2)) ⟨callB_of 0 hts wg_le rfl rfl rfl (hts _ wc_le.2) (hts _ (tw_in ww)) (by decide +kernel) ⟨by show 1 + 1 ≤ _; omega, by show 8 + (1 + 11) + (64 * 1 + 64) ≤ _; omega⟩, hts _ wk_le, hts _ wx_le⟩ ⟨PsA_blind _, vk_recv hE.2.2.2.2.2.2.1 (q14 hq.1 hq.2) hS, fun U hU hW => ⟨rfl, hE.go hS hU hW⟩⟩ rfl rfl hrl rfl hWr dd ⟨hcl, hsl⟩) hS (fun locs1 hS1 => kk locs1 hS1)
      · rw [if_neg hq] at hp; cases hp
  · have X : xin k i = (.invokevirtual b, 3) := by unfold xin; rw [hi]; rfl
    rw [X] at dd nn
    have nn : pcAt k (i + 1) = pcAt k i + 3 := nn
    rw [nn] at kk
    have ww : tw (wiAt k i) (.methodLink (mY k).cls b ⟨"java/lang/String", "charAt", "(I)C"⟩) = true := by unfold wok at ww; rw [hi] at ww; exact ww
    match st, hp with
    | .int x :: .ref q :: st, hp =>
      have hp : (if 1000 ≤ q ∧ q < 1014 ∧ inb x (slen (q - 1000)) then some (Value.int (schr (q - 1000) (ix x)), st) else none) = some (v, st') := hp
      by_cases hq : 1000 ≤ q ∧ q < 1014 ∧ inb x (slen (q - 1000))
      · rw [if_pos hq] at hp
        have hz := Prod.mk.inj (Option.some.inj hp)
        have hz1 := hz.1
        have hz2 := hz.2
        subst hz1
        subst hz2
        show W p l e Rm s m args below meth c H locs cells slots Q (F0 m (pcAt k i) rls (.int x :: tr M (.ref q) :: st.map (tr M)))
        rw [had q hq.1]
        refine S_runS (va_runV (C := "java/lang/String") (As := [.int x]) (rest := st.map (tr M)) (mc := 0) (ms := 0) ⟨hx, hb, hml, hown, hts⟩ (ms_ch l M (q - 1000) (q14 hq.1 hq.2.1) x hq.2.2) ⟨callB_of 1 hts wg_ch rfl rfl rfl (hts _ wc_ch.2) (hts _ (tw_in ww)) (by decide +kernel) ⟨by show 3 + 1 ≤ _; omega, by show 8 + (2 + 11) + (64 * 3 + 64) ≤ _; omega⟩, hts _ wk_ch, hts _ wx_ch⟩ ⟨PsA_blind _, vk_recv hE.2.2.2.2.2.2.1 (q14 hq.1 hq.2.1) hS, fun U hU hW => ⟨rfl, hE.go hS hU hW⟩⟩ rfl rfl hrl rfl hWr dd ⟨hcl, hsl⟩) hS (fun locs1 hS1 => kk locs1 hS1)
      · rw [if_neg hq] at hp; cases hp
