/-! ===== the machine of the model does what the abstract one does ===== -/
theorem ck_t {k i : Nat} (h : ckI k i = true) : tok k i = true := by
  unfold ckI at h
  simp only [Bool.and_eq_true] at h
  exact h.1.1.1
theorem ck_d {k i : Nat} (h : ckI k i = true) : decode (mC k) (pcAt k i) = .ok (xin k i) := by
  unfold ckI at h
  simp only [Bool.and_eq_true] at h
  exact of_decide_eq_true h.1.1.2
theorem ck_n {k i : Nat} (h : ckI k i = true) : pcAt k (i + 1) = pcAt k i + (xin k i).2 := by
  unfold ckI at h
  simp only [Bool.and_eq_true] at h
  exact of_decide_eq_true h.1.2
theorem ck_w {k i : Nat} (h : ckI k i = true) : wok k i = true := by
  unfold ckI at h
  simp only [Bool.and_eq_true] at h
  exact h.2
theorem ck_v {k i op b c : Nat} {a : Int32} (hi : ins k i = (op, a, b, c)) (h : ckI k i = true) : vop op := by
  have := ck_t h
  unfold tok at this
  rw [hi] at this
  simp only [Bool.and_eq_true] at this
  exact of_decide_eq_true this.1.1.1
theorem ck_f {k i op b c : Nat} {a : Int32} (hi : ins k i = (op, a, b, c)) (h : ckI k i = true) (ho : op < 82 ∨ (83 < op ∧ op < 140)) : i + 1 < nI_ k := by
  have := ck_t h
  unfold tok at this
  rw [hi] at this
  simp only [Bool.and_eq_true] at this
  have q := this.1.1.2
  rw [if_pos ho] at q
  exact of_decide_eq_true q
theorem ck_b {k i op b c : Nat} {a : Int32} (hi : ins k i = (op, a, b, c)) (h : ckI k i = true) (ho : 70 ≤ op ∧ op ≤ 82) : b < nI_ k := by
  have := ck_t h
  unfold tok at this
  rw [hi] at this
  simp only [Bool.and_eq_true] at this
  have q := this.1.2
  rw [if_pos ho] at q
  exact of_decide_eq_true q
theorem ck_s {k i b c : Nat} {a : Int32} (hi : ins k i = (83, a, b, c)) (h : ckI k i = true) : c < nI_ k ∧ (∀ t ∈ swt b, t < nI_ k) ∧ a.toInt + ((swt b).length : Int) < 2 ^ 31 := by
  have := ck_t h
  unfold tok at this
  rw [hi] at this
  simp only [Bool.and_eq_true] at this
  have q := this.2
  rw [if_pos trivial, Bool.and_eq_true, Bool.and_eq_true] at q
  exact ⟨of_decide_eq_true q.1.1, fun t ht => of_decide_eq_true (List.all_eq_true.mp q.1.2 t ht), of_decide_eq_true q.2⟩
/-- where the world lies: its number, its first address, the constants' addresses, the classes' numbers and slots, the arrays' classes, the constants' byte rows -/
abbrev Pm : Type := Nat × Nat × (Nat → Nat) × va_G × (Nat → ClassId) × (Nat → Nat)
abbrev pW (M : Pm) : Nat := M.1
abbrev pB (M : Pm) : Nat := M.2.1
abbrev pK (M : Pm) : Nat → Nat := M.2.2.1
abbrev pD (M : Pm) : va_G := M.2.2.2.1
abbrev pA (M : Pm) : Nat → ClassId := M.2.2.2.2.1
abbrev pV (M : Pm) : Nat → Nat := M.2.2.2.2.2
def ad (M : Pm) (q : Nat) : Nat := if q < 1000 then pB M + q else pK M (q - 1000)
def tr (M : Pm) (v : Value) : Value := match v with
  | .ref q => .ref (ad M q)
  | .int x => .int x
  | .long x => .long x
  | .float x => .float x
  | .double x => .double x
  | .null => .null
  | .retAddr x => .retAddr x
theorem tr_cat (M : Pm) (v : Value) : (tr M v).category = v.category := by cases v <;> rfl
theorem tr_csum (M : Pm) (st : List Value) : ((st.map (tr M)).map fun v => v.category).sum = csum st := by
  unfold csum
  rw [List.map_map]
  congr 1
  apply List.map_congr_left
  intro v _
  exact tr_cat M v
def fv (M : Pm) (h : Hp) (c ci j : Nat) : Value := match fT ci j with
  | .int => .int (hI h c j)
  | .boolean => .int (hI h c j)
  | .long => .long (hL h c j)
  | _ => tr M (rv (hR h c j))
def av (M : Pm) (h : Hp) (c kd j : Nat) : Value := if kd = 103 then .long (hL h c j) else if kd = 104 then tr M (rv (hR h c j)) else .int (hI h c j)
def RC (M : Pm) (h : Hp) (H : Heap) (c : Nat) : Prop := if (shp (pW M) c).1 < 100 then t_OB (pB M + c) ((pD M).1 (shp (pW M) c).1) (shp (pW M) c).2 ((pD M).2 (shp (pW M) c).1) H (fv M h c (shp (pW M) c).1) else H[pB M + c]? = some (arrV (pA M (shp (pW M) c).1) (shp (pW M) c).2 (av M h c (shp (pW M) c).1))
def Rel (M : Pm) (h : Hp) (H : Heap) : Prop := (∀ c, c < hN h → RC M h H c) ∧ pB M + hN h ≤ H.size ∧ (hN h < cap (pW M) → H.size = pB M + hN h) ∧ hN h ≤ cap (pW M)
def Own (M : Pm) (q : Nat) : Prop := pB M ≤ q ∧ q < pB M + cap (pW M)
theorem cap_lt (w : Nat) : cap w < 1000 := by unfold cap; cases Nat.beq w 0 <;> decide
theorem ad_lt {M : Pm} {q : Nat} {h : Hp} {H : Heap} (hr : Rel M h H) (hq : q < hN h) : ad M q = pB M + q := by
  unfold ad
  rw [if_pos (Nat.lt_trans (Nat.lt_of_lt_of_le hq hr.2.2.2) (cap_lt _))]
theorem Rel.own {M : Pm} {q : Nat} {h : Hp} {H : Heap} (hr : Rel M h H) (hq : q < hN h) : Own M (pB M + q) := ⟨Nat.le_add_right _ _, Nat.add_lt_add_left (Nat.lt_of_lt_of_le hq hr.2.2.2) _⟩
theorem fv_congr {M : Pm} {h h' : Hp} {c ci : Nat} (e1 : hI h' c = hI h c) (e2 : hL h' c = hL h c) (e3 : hR h' c = hR h c) : fv M h' c ci = fv M h c ci := by
  funext j
  unfold fv
  rw [e1, e2, e3]
theorem av_congr {M : Pm} {h h' : Hp} {c kd : Nat} (e1 : hI h' c = hI h c) (e2 : hL h' c = hL h c) (e3 : hR h' c = hR h c) : av M h' c kd = av M h c kd := by
  funext j
  unfold av
  rw [e1, e2, e3]
theorem RC.congr {M : Pm} {h h' : Hp} {H H1 : Heap} {c : Nat} (hr : RC M h H c) (e1 : hI h' c = hI h c) (e2 : hL h' c = hL h c) (e3 : hR h' c = hR h c) (eq : H1[pB M + c]? = H[pB M + c]?) : RC M h' H1 c := by
  unfold RC at hr ⊢
  rw [fv_congr e1 e2 e3, av_congr e1 e2 e3]
  by_cases hk : (shp (pW M) c).1 < 100
  · rw [if_pos hk] at hr ⊢
    exact hr.kept eq
  · rw [if_neg hk] at hr ⊢
    rw [eq]; exact hr
/-- one cell is written -/
theorem Rel.upd {M : Pm} {h h' : Hp} {H H1 : Heap} {c : Nat} (hr : Rel M h H) (hn : hN h' = hN h) (hz : H1.size = H.size) (hq : ∀ q : Nat, q ≠ pB M + c → H1[q]? = H[q]?) (ho : ∀ c', c' ≠ c → hI h' c' = hI h c' ∧ hL h' c' = hL h c' ∧ hR h' c' = hR h c') (hc : RC M h' H1 c) : Rel M h' H1 := by
  refine ⟨fun c' h1 => ?_, by rw [hn, hz]; exact hr.2.1, by rw [hn, hz]; exact hr.2.2.1, by rw [hn]; exact hr.2.2.2⟩
  by_cases e : c' = c
  · rw [e]; exact hc
  · obtain ⟨e1, e2, e3⟩ := ho c' e
    exact (hr.1 c' (by rw [← hn]; exact h1)).congr e1 e2 e3 (hq _ (by omega))
theorem uI_o {h : Hp} {c j : Nat} {v : Int32} : ∀ c', c' ≠ c → hI (uI h c j v) c' = hI h c' ∧ hL (uI h c j v) c' = hL h c' ∧ hR (uI h c j v) c' = hR h c' := by
  intro c' e
  refine ⟨?_, rfl, rfl⟩
  funext j'
  show up2 h.1 c j v c' j' = h.1 c' j'
  unfold up2
  rw [if_neg (fun z => e z.1)]
theorem uL_o {h : Hp} {c j : Nat} {v : Int64} : ∀ c', c' ≠ c → hI (uL h c j v) c' = hI h c' ∧ hL (uL h c j v) c' = hL h c' ∧ hR (uL h c j v) c' = hR h c' := by
  intro c' e
  refine ⟨rfl, ?_, rfl⟩
  funext j'
  show up2 h.2.1 c j v c' j' = h.2.1 c' j'
  unfold up2
  rw [if_neg (fun z => e z.1)]
theorem uR_o {h : Hp} {c j : Nat} {v : Option Nat} : ∀ c', c' ≠ c → hI (uR h c j v) c' = hI h c' ∧ hL (uR h c j v) c' = hL h c' ∧ hR (uR h c j v) c' = hR h c' := by
  intro c' e
  refine ⟨rfl, rfl, ?_⟩
  funext j'
  show up2 h.2.2.1 c j v c' j' = h.2.2.1 c' j'
  unfold up2
  rw [if_neg (fun z => e z.1)]
theorem uA_o {h : Hp} {c : Nat} {f : Nat → Int32} : ∀ c', c' ≠ c → hI (uA h c f) c' = hI h c' ∧ hL (uA h c f) c' = hL h c' ∧ hR (uA h c f) c' = hR h c' := by
  intro c' e
  refine ⟨?_, rfl, rfl⟩
  funext j'
  show (if c' = c then f j' else h.1 c' j') = h.1 c' j'
  rw [if_neg e]
theorem up2_s {α : Type} {f : Nat → Nat → α} {c j j' : Nat} {v : α} : up2 f c j v c j' = if j' = j then v else f c j' := by
  unfold up2
  by_cases e : j' = j
  · rw [if_pos ⟨rfl, e⟩, if_pos e]
  · rw [if_neg (fun z => e z.2), if_neg e]
def tysL (M : Pm) : List (ClassId × FieldType) := [(pA M 100, .int), (pA M 101, .byte), (pA M 102, .boolean), (pA M 103, .long), (pA M 104, .object "ShipUnstopped$Text")]
def slenL : List Nat := (List.range 14).map slen
def sbytL : List (List Int32) := (List.range 14).map fun i => (List.range (slen i)).map (schr i)
/-- what the tables and the constants are -/
def Ev (M : Pm) (U : State) : Prop := va_K (pD M) cls (tysL M) U ∧ (∀ q ∈ nestM, va_Nw (.methodLinkNest q.1 q.2.1 q.2.2 "ShipUnstopped") U) ∧
  va_Nw (.fieldLinkNest "ShipUnstopped$Chart" 179 "ShipUnstopped" "WITHIN" "[I" "ShipUnstopped") U ∧ va_Z "ShipUnstopped" "WITHIN" "[I" (.ref (pK M 200)) (Own M) U U.heap ∧ va_T .int (pK M 200) 16 (fun j => .int (wth j)) (Own M) U U.heap ∧
  (∀ i q, strK[i]? = some q → vk_R "ShipUnstopped$Tape" q.1 q.2 (pK M i) U) ∧ vk_S 14 slenL sbytL (pK M) (pV M) (Own M) U U.heap ∧ va_Z "java/lang/String" "COMPACT_STRINGS" "Z" (.int 1) (Own M) U U.heap ∧ va_AO "ShipUnstopped$Text" U ∧ va_Zq "jdk/internal/util/Preconditions" "SIOOBE_FORMATTER" "Ljava/util/function/BiFunction;" (Own M) U U.heap
theorem Ev.go {M : Pm} {s U : State} {H : Heap} {locs : List Loc} (h : Ev M s) (hS : va_S (Own M) s.heap H locs) (hU : U.heap = H) (hW : s.WarmedH U.vm) : Ev M U := by
  obtain ⟨h1, h2, h3, h4, h5, h6, h7, h8, h9, h10⟩ := h
  have hq : ∀ a : Nat, a < s.heap.size → ¬ Own M a → U.heap[a]? = s.heap[a]? := fun a ha hn => by rw [hU]; exact hS.2.1 a ha hn
  exact ⟨va_K.moved hW.alike h1, fun q hq => va_Nw.warmM hW (h2 q hq), va_Nw.warmF hW h3, (h4.moved hW.alike).kept hq, (h5.moved hW.alike).kept hq, fun i q e => (h6 i q e).warm hW, (h7.moved hW.alike).kept hq, (h8.moved hW.alike).kept hq, h9.moved hW.alike, (h10.moved hW.alike).kept hq⟩
theorem Ev.same {M : Pm} {s U : State} (h : Ev M s) (hv : U.vm = s.vm) (hU : U.heap = s.heap) : Ev M U := by
  obtain ⟨h1, h2, h3, h4, h5, h6, h7, h8, h9, h10⟩ := h
  have hA : s.vm.Alike U.vm := by rw [hv]; exact Vm.Alike.refl _
  have hq : ∀ a : Nat, a < s.heap.size → ¬ Own M a → U.heap[a]? = s.heap[a]? := fun a ha hn => by rw [hU]
  exact ⟨va_K.moved hA h1, fun q hq => (h2 q hq).same rfl hv.symm, h3.same rfl hv.symm, (h4.moved hA).kept hq, (h5.moved hA).kept hq, fun i q e => (h6 i q e).same hv, (h7.moved hA).kept hq, (h8.moved hA).kept hq, h9.moved hA, (h10.moved hA).kept hq⟩
/-- locals: what is known of them -/
def lpr (M : Pm) : Nat → Lv → List (Nat × Value)
  | _, [] => []
  | i, none :: l => lpr M (i + 1) l
  | i, some v :: l => (i, tr M v) :: lpr M (i + 1) l
theorem lpr_mem {M : Pm} : ∀ (l : Lv) (i j : Nat) (u : Value), (j, u) ∈ lpr M i l ↔ ∃ n v, j = i + n ∧ lget l n = some v ∧ u = tr M v
  | [], i, j, u => ⟨fun h => (by cases h), fun ⟨n, v, _, h, _⟩ => (by cases h)⟩
  | none :: l, i, j, u => by
    show (j, u) ∈ lpr M (i + 1) l ↔ _
    rw [lpr_mem l (i + 1) j u]
    constructor
    · rintro ⟨n, v, h1, h2, h3⟩; exact ⟨n + 1, v, by omega, h2, h3⟩
    · rintro ⟨n, v, h1, h2, h3⟩
      cases n with
      | zero => cases h2
      | succ n => exact ⟨n, v, by omega, h2, h3⟩
  | some x :: l, i, j, u => by
    show (j, u) ∈ (i, tr M x) :: lpr M (i + 1) l ↔ _
    rw [List.mem_cons, lpr_mem l (i + 1) j u]
    constructor
    · rintro (h | ⟨n, v, h1, h2, h3⟩)
      · cases h; exact ⟨0, x, rfl, rfl, rfl⟩
      · exact ⟨n + 1, v, by omega, h2, h3⟩
    · rintro ⟨n, v, h1, h2, h3⟩
      cases n with
      | zero =>
        have : x = v := Option.some.inj h2
        subst this
        exact Or.inl (by rw [h1, h3]; rfl)
      | succ n => exact Or.inr ⟨n, v, by omega, h2, h3⟩
def lvr (M : Pm) (ls : Lv) (rls : Array Slot) (nL : Nat) : Prop := lv_has rls nL (lpr M 0 ls) ∧ ls.length = nL
theorem lvr.get {M : Pm} {ls : Lv} {rls : Array Slot} {nL b : Nat} {v : Value} (h : lvr M ls rls nL) (e : lget ls b = some v) : rls[b]? = some (.val (tr M v)) := h.1.2.2 (b, tr M v) ((lpr_mem ls 0 b _).mpr ⟨b, v, by omega, e, rfl⟩)
theorem lget_set : ∀ (l : Lv) (i : Nat) (v : Option Value) (j : Nat), lget (l.set i v) j = if j = i ∧ i < l.length then v else lget l j
  | [], i, v, j => by simp [lget]
  | a :: l, 0, v, 0 => by simp [lget]
  | a :: l, 0, v, j + 1 => by simp [lget]
  | a :: l, i + 1, v, 0 => by simp [lget]
  | a :: l, i + 1, v, j + 1 => by
    show lget (l.set i v) j = if j + 1 = i + 1 ∧ i + 1 < l.length + 1 then v else lget l j
    rw [lget_set l i v j]
    by_cases h : j = i ∧ i < l.length
    · rw [if_pos h, if_pos ⟨by omega, by omega⟩]
    · rw [if_neg h, if_neg (fun z => h ⟨by omega, by omega⟩)]
theorem lclr_len (l : Lv) (i : Nat) : (lclr l i).length = l.length := by
  cases i with
  | zero => rfl
  | succ i =>
    show (if isl (lget l i) then l.set i none else l).length = l.length
    by_cases h : isl (lget l i) = true
    · rw [if_pos h]; simp
    · rw [if_neg h]
theorem lclr_get {l : Lv} {i j : Nat} {v : Value} (h : lget (lclr l i) j = some v) : lget l j = some v ∧ ¬ (j + 1 = i ∧ v.category = 2) := by
  cases i with
  | zero => exact ⟨h, fun z => by omega⟩
  | succ i =>
    have h0 : lget (if isl (lget l i) then l.set i none else l) j = some v := h
    clear h
    revert h0
    intro h
    by_cases hc : isl (lget l i) = true
    · rw [if_pos hc, lget_set] at h
      by_cases hj : j = i ∧ i < l.length
      · rw [if_pos hj] at h; cases h
      · rw [if_neg hj] at h
        refine ⟨h, fun z => ?_⟩
        have hji : j = i := by omega
        subst hji
        apply hj
        refine ⟨rfl, ?_⟩
        have : ∀ (l : Lv) (n : Nat) (u : Value), lget l n = some u → n < l.length := by
          intro l
          induction l with
          | nil => intro n u e; cases e
          | cons a l ih =>
            intro n u e
            cases n with
            | zero => simp
            | succ n => have := ih n u e; simp; omega
        exact this l j v h
    · rw [if_neg hc] at h
      refine ⟨h, fun z => hc ?_⟩
      obtain ⟨z1, z2⟩ := z
      have : j = i := by omega
      subst this
      rw [h]
      show (v.category == 2) = true
      rw [z2]; rfl
theorem lvr_st1 {M : Pm} {ls ls' : Lv} {rls rls' : Array Slot} {nL i : Nat} {v : Value} (h : lvr M ls rls nL) (e : st1 ls i v = some ls') (h' : lv_has rls' nL ((i, tr M v) :: (lpr M 0 ls).filter (fun q => !(q.1 == i) && !(q.1 + 1 == i && q.2.category == 2)))) : lvr M ls' rls' nL := by
  unfold st1 at e
  by_cases hi : i < ls.length
  · rw [if_pos hi] at e
    cases e
    refine ⟨⟨h'.1, h'.2.1, ?_⟩, by rw [List.length_set, lclr_len]; exact h.2⟩
    rintro ⟨j, u⟩ hq
    obtain ⟨n, x, h1, h2, h3⟩ := (lpr_mem _ 0 j u).mp hq
    have hjn : j = n := by omega
    subst hjn
    subst h3
    rw [lget_set] at h2
    by_cases hj : j = i ∧ i < (lclr ls i).length
    · rw [if_pos hj] at h2
      cases h2
      obtain ⟨rfl, -⟩ := hj
      exact h'.2.2 _ List.mem_cons_self
    · rw [if_neg hj] at h2
      obtain ⟨h4, h5⟩ := lclr_get h2
      refine h'.2.2 _ (List.mem_cons_of_mem _ (List.mem_filter.mpr ⟨(lpr_mem _ 0 _ _).mpr ⟨j, x, by omega, h4, rfl⟩, ?_⟩))
      have hji : j ≠ i := fun z => hj ⟨z, by rw [lclr_len]; exact hi⟩
      have : ¬ (j + 1 = i ∧ (tr M x).category = 2) := fun z => h5 ⟨z.1, by rw [← tr_cat M]; exact z.2⟩
      simp only [Bool.and_eq_true, Bool.not_eq_true', beq_eq_false_iff_ne, Bool.and_eq_false_iff, ne_eq]
      refine ⟨hji, ?_⟩
      by_cases q : j + 1 = i
      · exact Or.inr (fun z => this ⟨q, z⟩)
      · exact Or.inl q
  · rw [if_neg hi] at e; cases e
theorem lvr_st2 {M : Pm} {ls ls' : Lv} {rls rls' : Array Slot} {nL i : Nat} {v : Value} (h : lvr M ls rls nL) (e : st2 ls i v = some ls') (h' : lv_has rls' nL ((i, tr M v) :: (lpr M 0 ls).filter (fun q => !(q.1 == i) && (!(q.1 == i + 1) && !(q.1 + 1 == i && q.2.category == 2))))) : lvr M ls' rls' nL := by
  unfold st2 at e
  by_cases hi : i + 1 < ls.length
  · rw [if_pos hi] at e
    cases e
    refine ⟨⟨h'.1, h'.2.1, ?_⟩, by rw [List.length_set, List.length_set, lclr_len]; exact h.2⟩
    rintro ⟨j, u⟩ hq
    obtain ⟨n, x, h1, h2, h3⟩ := (lpr_mem _ 0 j u).mp hq
    have hjn : j = n := by omega
    subst hjn
    subst h3
    rw [lget_set, List.length_set, lclr_len] at h2
    by_cases hj1 : j = i + 1 ∧ i + 1 < ls.length
    · rw [if_pos hj1] at h2; cases h2
    · rw [if_neg hj1, lget_set, lclr_len] at h2
      by_cases hj : j = i ∧ i < ls.length
      · rw [if_pos hj] at h2
        cases h2
        obtain ⟨rfl, -⟩ := hj
        exact h'.2.2 _ List.mem_cons_self
      · rw [if_neg hj] at h2
        obtain ⟨h4, h5⟩ := lclr_get h2
        refine h'.2.2 _ (List.mem_cons_of_mem _ (List.mem_filter.mpr ⟨(lpr_mem _ 0 _ _).mpr ⟨j, x, by omega, h4, rfl⟩, ?_⟩))
        have hji : j ≠ i := fun z => hj ⟨z, by omega⟩
        have hji1 : j ≠ i + 1 := fun z => hj1 ⟨z, hi⟩
        have : ¬ (j + 1 = i ∧ (tr M x).category = 2) := fun z => h5 ⟨z.1, by rw [← tr_cat M]; exact z.2⟩
        simp only [Bool.and_eq_true, Bool.not_eq_true', beq_eq_false_iff_ne, Bool.and_eq_false_iff, ne_eq]
        refine ⟨hji, hji1, ?_⟩
        by_cases q : j + 1 = i
        · exact Or.inr (fun z => this ⟨q, z⟩)
        · exact Or.inl q
  · rw [if_neg hi] at e; cases e
theorem vp_of {x : Int32} {n : Nat} (h : inb x n) : vp_in x n := vp_in_iff.mpr h
/-- what holds all through a method's body -/
def Cx (M : Pm) (k d : Nat) (p : Program) (Rm : Room) (s : State) (m : MethodId) (args : Array Value) (meth : Method) (c : Code) : Prop :=
  p.tables.exec = Jvm.exec ∧ c.code = mC k ∧ c.maxLocals = mL k ∧ s.vm.findClass (mY k).cls = some m.cls ∧ (∀ x ∈ gw, x.before args s = true) ∧ meth.sig.returnType = mR k ∧ meth.locks = false ∧ meth.name = (mY k).name ∧ Ev M s ∧ d ≤ Rm.frames ∧ 64 * d + 64 ≤ Rm.locals
