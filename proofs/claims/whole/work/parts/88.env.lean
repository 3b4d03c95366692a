/-! ===== what the tables and the constants are at the law's start ===== -/
def tmS (i : Nat) : Term := .string "ShipUnstopped$Tape" (strK.getD i (0, "")).1
def wiT : Term := .static "ShipUnstopped" "WITHIN" "[I"
theorem gw_in {P : Cond → Prop} (h : ∀ w ∈ lw_tbl, P w) : ∀ w ∈ gw, P w := fun w hw => h w (List.mem_filter.mp hw).1
theorem en_K {s : State} {args : Array Value} (hts : ∀ w ∈ lw_tbl, w.before args s = true) : ∃ (D : va_G) (cA : Nat → ClassId), ∀ (w B : Nat) (adK adV : Nat → Nat), va_K D cls (tysL (w, B, adK, D, cA, adV)) s := by
  have htg := gw_in hts
  have h0 : ∀ k : Nat, ∃ q : ClassId × (Nat → Nat), k < 13 → u_Kn s (cR k) (cT k) (clsN k) q.1 q.2 := by
    intro k
    by_cases hk : k < 13
    · obtain ⟨c1, i1, h1⟩ := u_known (C := cR k) (T := cT k) (N := clsN k) (n := clsN k) htg (cls_in k hk) (htg _ (cls_is k hk).1)
      exact ⟨(c1, i1), fun _ => h1⟩
    · exact ⟨(Classical.choice ⟨(u_known (C := cR 0) (T := cT 0) (N := clsN 0) (n := clsN 0) htg (cls_in 0 (by omega)) (htg _ (cls_is 0 (by omega)).1)).choose⟩, fun _ => 0), fun h => absurd h hk⟩
  obtain ⟨f, hf⟩ := Classical.axiomOfChoice h0
  obtain ⟨a0, k0, x0, p0, q0, r0⟩ := Cond.arrayClass_spec (hts (.arrayClass .int) (by decide +kernel))
  obtain ⟨a1, k1, x1, p1, q1, r1⟩ := Cond.arrayClass_spec (hts (.arrayClass .byte) (by decide +kernel))
  obtain ⟨a2, k2, x2, p2, q2, r2⟩ := Cond.arrayClass_spec (hts (.arrayClass .boolean) (by decide +kernel))
  obtain ⟨a3, k3, x3, p3, q3, r3⟩ := Cond.arrayClass_spec (hts (.arrayClass .long) (by decide +kernel))
  obtain ⟨x4, a4, k4, o4, z4, q4, r4, p4⟩ := Cond.arrayOver_spec (hts (.arrayOver (.object "ShipUnstopped$Text")) (by decide +kernel))
  refine ⟨(fun k => (f k).1, fun k => (f k).2), fun k => if k = 100 then a0 else if k = 101 then a1 else if k = 102 then a2 else if k = 103 then a3 else a4, fun w B adK adV => ⟨fun k q hq => ?_, fun k q hq => ?_⟩⟩
  · have hk : k < 13 := (List.getElem?_eq_some_iff.mp hq).1
    rw [cls_at k hk] at hq
    cases hq
    exact hf k hk
  · match k, hq with
    | 0, hq => cases hq; exact ⟨fun n z => ⟨fun k h => (by cases h), k0, q0, x0, r0⟩, p0⟩
    | 1, hq => cases hq; exact ⟨fun n z => ⟨fun k h => (by cases h), k1, q1, x1, r1⟩, p1⟩
    | 2, hq => cases hq; exact ⟨fun n z => ⟨fun k h => (by cases h), k2, q2, x2, r2⟩, p2⟩
    | 3, hq => cases hq; exact ⟨fun n z => ⟨fun k h => (by cases h), k3, q3, x3, r3⟩, p3⟩
    | 4, hq => cases hq; exact ⟨fun n z => ⟨fun k h => (by cases h), k4, q4, x4, r4⟩, k4, x4, q4, r4, o4, p4⟩
    | k + 5, hq => simp [tysL] at hq
theorem en_nest : ∀ q ∈ nestM, Cond.methodLinkNest q.1 q.2.1 q.2.2 "ShipUnstopped" ∈ lw_tbl := by decide +kernel
theorem en_str : ∀ q ∈ strK, Cond.stringRef "ShipUnstopped$Tape" q.1 q.2 ∈ lw_tbl := by decide +kernel
abbrev ngC : Cond := Jvm.Cond.and given_1 narrow_1
theorem en_T {s : State} {args : Array Value} (hf : ngC.before args s = true) {A : Nat → Prop} (hA : ∀ a : Nat, a < s.heap.size → ¬ A a) : ∃ t : Nat, wiT.eval args s none [] s = some (.ref t) ∧ va_T .int t 16 (fun j => .int (wth j)) A s s.heap := by
  have hg := flat_of_before _ hf
  have hel : ∀ j : Nat, j < 16 → Cond.eq (.elem wiT (.int (Int32.ofNat j))) (.int (wth j)) ∈ flatC ngC := by
    decide +kernel
  exact va_Tof (f := fun j => .int (wth j)) (A := A) (by decide) (hg (.arrayOf wiT .int) (by decide +kernel)) (va_eqt (hg (.eq (.length wiT) (.int 16)) (by decide +kernel))) (fun j hj => va_eqt (hg _ (hel j hj))) hA
theorem en_s1 : ∀ i : Nat, i < 14 → Cond.exactly (tmS i) "java/lang/String" ∈ flatC ngC := by decide +kernel
theorem en_s2 : ∀ i : Nat, i < 14 → Cond.eq (.field (tmS i) "java/lang/String" "coder" "B") (.int 0) ∈ flatC ngC := by decide +kernel
theorem en_s3 : ∀ i : Nat, i < 14 → Cond.arrayOf (.field (tmS i) "java/lang/String" "value" "[B") .byte ∈ flatC ngC := by decide +kernel
theorem en_s4 : ∀ i : Nat, i < 14 → Cond.eq (.length (.field (tmS i) "java/lang/String" "value" "[B")) (.int (Int32.ofNat (slenL.getD i 0))) ∈ flatC ngC := by decide +kernel
theorem en_s5 : ∀ i : Nat, i < 14 → ∀ j : Nat, j < slenL.getD i 0 → Cond.eq (.elem (.field (tmS i) "java/lang/String" "value" "[B") (.int (Int32.ofNat j))) (.int ((sbytL.getD i []).getD j 0)) ∈ flatC ngC := by decide +kernel
theorem en_s6 : ∀ i : Nat, i < 14 → ∀ j : Nat, j < i → Cond.not (Cond.eq (tmS j) (tmS i)) ∈ flatC ngC := by decide +kernel
theorem en_s7 : ∀ i : Nat, i < 14 → slenL.getD i 0 < 2 ^ 31 := by decide +kernel
theorem en_S {s : State} {args : Array Value} (hf : ngC.before args s = true) {A : Nat → Prop} (hA : ∀ a : Nat, a < s.heap.size → ¬ A a) : ∃ adK adV : Nat → Nat, vk_S 14 slenL sbytL adK adV A s s.heap ∧ ∀ i : Nat, i < 14 → (tmS i).eval args s none [] s = some (.ref (adK i)) := by
  have hg := flat_of_before _ hf
  refine vk_Sof en_s7 (fun i hi => hg _ (en_s1 i hi)) (fun i hi => hg _ (en_s2 i hi)) (fun i hi => hg _ (en_s3 i hi)) (fun i hi => hg _ (en_s4 i hi)) (fun i hi j hj => hg _ (en_s5 i hi j hj)) (fun i j hi hj hn => ?_) hA
  rcases Nat.lt_or_ge i j with q | q
  · exact Or.inl (hg _ (en_s6 j hj i q))
  · exact Or.inr (hg _ (en_s6 i hi j (by omega)))
/-- ALL of it, for a world that lies anywhere behind the start's cells -/
theorem en_all {s : State} {args : Array Value} (hts : ∀ w ∈ lw_tbl, w.before args s = true) (hf : ngC.before args s = true) : ∃ (adK : Nat → Nat) (D : va_G) (cA : Nat → ClassId) (adV : Nat → Nat), ∀ (w B : Nat), s.heap.size ≤ B → Ev (w, B, adK, D, cA, adV) s := by
  have hg := flat_of_before _ hf
  have hA : ∀ a : Nat, a < s.heap.size → ¬ (fun q : Nat => s.heap.size ≤ q) a := fun a h => Nat.not_le.mpr h
  obtain ⟨D, cA, hK⟩ := en_K hts
  obtain ⟨t, ht, hT⟩ := en_T hf hA
  obtain ⟨adK, adV, hS, hE⟩ := en_S hf hA
  refine ⟨fun i => if i = 200 then t else adK i, D, cA, adV, fun w B hB => ?_⟩
  have hO : ∀ q, Own (w, B, (fun i => if i = 200 then t else adK i), D, cA, adV) q → s.heap.size ≤ q := fun q h => Nat.le_trans hB h.1
  have eK : ∀ i, i < 14 → (if i = 200 then t else adK i) = adK i := fun i hi => if_neg (by omega)
  refine ⟨hK w B _ _, fun q hq => va_Nw.of rfl (hts _ (en_nest q hq)), va_Nw.of rfl (hts (.fieldLinkNest "ShipUnstopped$Chart" 179 "ShipUnstopped" "WITHIN" "[I" "ShipUnstopped") (by decide +kernel)), ?_, ?_, ?_, ?_, ?_, ?_, ?_⟩
  · exact (va_Zref (hts (.laysStatic "ShipUnstopped" "WITHIN" "[I") (by decide +kernel)) (hts (.initialized "ShipUnstopped") (by decide +kernel)) ht hA).narrow hO
  · exact hT.narrow hO
  · intro i q e
    have hi : i < 14 := (List.getElem?_eq_some_iff.mp e).1
    have hm := en_str q (List.mem_of_getElem? e)
    have e1 : tmS i = .string "ShipUnstopped$Tape" q.1 := by
      unfold tmS
      rw [List.getD_eq_getElem?_getD, e]; rfl
    have h2 := hE i hi
    rw [e1] at h2
    show vk_R _ _ _ (if i = 200 then t else adK i) s
    rw [eK i hi]
    exact vk_R.of (hts _ hm) h2
  · refine vk_S.narrow ⟨fun i hi => ?_, fun i j hi hj e => ?_⟩ hO
    · have := hS.1 i hi
      rw [← eK i hi] at this
      exact this
    · have e : (if i = 200 then t else adK i) = (if j = 200 then t else adK j) := e
      rw [eK i hi, eK j hj] at e
      exact hS.2 i j hi hj e
  · exact (va_Zof (hts (.laysStatic "java/lang/String" "COMPACT_STRINGS" "Z") (by decide +kernel)) (hts (.initialized "java/lang/String") (by decide +kernel)) (va_eqi (hg (.eq (.static "java/lang/String" "COMPACT_STRINGS" "Z") (.int 1)) (by decide +kernel))) hA).narrow hO
  · exact va_AO.of (hts (.arrayOver (.object "ShipUnstopped$Text")) (by decide +kernel))
  · exact (va_Zqof (hts (.laysStatic "jdk/internal/util/Preconditions" "SIOOBE_FORMATTER" "Ljava/util/function/BiFunction;") (by decide +kernel)) (hts (.initialized "jdk/internal/util/Preconditions") (by decide +kernel)) (hg (.isRef (.static "jdk/internal/util/Preconditions" "SIOOBE_FORMATTER" "Ljava/util/function/BiFunction;")) (by decide +kernel)) hA).narrow hO
