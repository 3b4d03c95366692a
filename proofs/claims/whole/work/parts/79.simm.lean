theorem hwr_n {w op b c : Nat} {st st' : List Value} {h h' : Hp} (e : hwr w op b c st h = some (st', h')) : hN h' = hN h := by
  have key : ∀ {C : Prop} [Decidable C] {s0 : List Value} {g : Hp}, hN g = hN h → (if C then some (s0, g) else none) = some (st', h') → hN h' = hN h := by
    intro C _ s0 g hg e
    by_cases q : C
    · rw [if_pos q] at e
      have := (Prod.mk.inj (Option.some.inj e)).2
      rw [← this]; exact hg
    · rw [if_neg q] at e; cases e
  unfold hwr at e
  by_cases o : op = 110
  · rw [if_pos o] at e
    match st, e with
    | .int v :: .ref q :: st, e => exact key (g := uI h q c v) rfl e
  rw [if_neg o] at e
  clear o
  by_cases o : op = 111
  · rw [if_pos o] at e
    match st, e with
    | .int v :: .ref q :: st, e => exact key (g := uI h q c v) rfl e
  rw [if_neg o] at e
  clear o
  by_cases o : op = 112
  · rw [if_pos o] at e
    match st, e with
    | .long v :: .ref q :: st, e => exact key (g := uL h q c v) rfl e
  rw [if_neg o] at e
  clear o
  by_cases o : op = 113
  · rw [if_pos o] at e
    match st, e with
    | .ref r :: .ref q :: st, e => exact key (g := uR h q c (some r)) rfl e
  rw [if_neg o] at e
  clear o
  by_cases o : op = 114
  · rw [if_pos o] at e
    match st, e with
    | .int v :: .int i :: .ref q :: st, e => exact key (g := uI h q (ix i) v) rfl e
  rw [if_neg o] at e
  clear o
  by_cases o : op = 115
  · rw [if_pos o] at e
    match st, e with
    | .int v :: .int i :: .ref q :: st, e => exact key (g := uI h q (ix i) v.toInt8.toInt32) rfl e
  rw [if_neg o] at e
  clear o
  by_cases o : op = 116
  · rw [if_pos o] at e
    match st, e with
    | .int v :: .int i :: .ref q :: st, e => exact key (g := uI h q (ix i) (v &&& 1)) rfl e
  rw [if_neg o] at e
  clear o
  by_cases o : op = 117
  · rw [if_pos o] at e
    match st, e with
    | .long v :: .int i :: .ref q :: st, e => exact key (g := uL h q (ix i) v) rfl e
  rw [if_neg o] at e
  clear o
  by_cases o : op = 118
  · rw [if_pos o] at e
    match st, e with
    | .ref r :: .int i :: .ref q :: st, e => exact key (g := uR h q (ix i) (some r)) rfl e
  rw [if_neg o] at e
  clear o
  by_cases o : op = 119
  · rw [if_pos o] at e
    match st, e with
    | .int n :: .int dp :: .ref q1 :: .int sp :: .ref q0 :: st, e => exact key (g := uA h q1 (va_cpy (hI h q0) (hI h q1) (ix sp) (ix dp) (ix n))) rfl e
  rw [if_neg o] at e
  clear o
  cases e
theorem hal_n {w op b : Nat} {st st' : List Value} {h h' : Hp} (e : hal w op b st h = some (st', h')) : h' = hNew h := by
  have key : ∀ {C : Prop} [Decidable C] {s0 : List Value}, (if C then some (s0, hNew h) else none) = some (st', h') → h' = hNew h := by
    intro C _ s0 e
    by_cases q : C
    · rw [if_pos q] at e
      exact ((Prod.mk.inj (Option.some.inj e)).2).symm
    · rw [if_neg q] at e; cases e
  unfold hal at e
  by_cases o : op = 120
  · rw [if_pos o] at e
    exact key e
  rw [if_neg o] at e
  match st, e with
  | .int v :: st, e => exact key e
theorem stp_mono {w : Nat} {f : Nat → Nat → Nat → Lv → List Value → Hp → Option (Option Value × Hp)} (hf : ∀ d k i ls st h r h', f d k i ls st h = some (r, h') → hN h ≤ hN h') (d k i : Nat) (ls : Lv) (st : List Value) (h : Hp) (r : Option Value) (h' : Hp) (e : stp w f d k i ls st h = some (r, h')) : hN h ≤ hN h' := by
  unfold stp at e
  rcases hq : ins k i with ⟨op, a, b, c⟩
  rw [hq] at e
  dsimp only at e
  by_cases ho : op < 40
  · rw [if_pos ho] at e
    obtain ⟨q, e1, e2⟩ := bind_some e
    exact hf _ _ _ _ _ _ _ _ e2
  rw [if_neg ho] at e
  clear ho
  by_cases ho : op < 50
  · rw [if_pos ho] at e
    obtain ⟨q, e1, e2⟩ := bind_some e
    by_cases hc : 5 ≤ d ∧ csum q.2 ≤ 8
    · rw [if_pos hc] at e2; exact hf _ _ _ _ _ _ _ _ e2
    · rw [if_neg hc] at e2; cases e2
  rw [if_neg ho] at e
  clear ho
  by_cases ho : op < 60
  · rw [if_pos ho] at e
    obtain ⟨q, e1, e2⟩ := bind_some e
    exact hf _ _ _ _ _ _ _ _ e2
  rw [if_neg ho] at e
  clear ho
  by_cases ho : op < 66
  · rw [if_pos ho] at e
    obtain ⟨q, e1, e2⟩ := bind_some e
    exact hf _ _ _ _ _ _ _ _ e2
  rw [if_neg ho] at e
  clear ho
  by_cases ho : op = 66
  · rw [if_pos ho] at e
    generalize lget ls b = v at e
    match v, e with
    | some (.int x), e =>
      obtain ⟨q, e1, e2⟩ := bind_some e
      exact hf _ _ _ _ _ _ _ _ e2
  rw [if_neg ho] at e
  clear ho
  by_cases ho : op < 82
  · rw [if_pos ho] at e
    obtain ⟨q, e1, e2⟩ := bind_some e
    exact hf _ _ _ _ _ _ _ _ e2
  rw [if_neg ho] at e
  clear ho
  by_cases ho : op = 82
  · rw [if_pos ho] at e
    exact hf _ _ _ _ _ _ _ _ e
  rw [if_neg ho] at e
  clear ho
  by_cases ho : op = 83
  · rw [if_pos ho] at e
    match st, e with
    | .int x :: st, e => exact hf _ _ _ _ _ _ _ _ e
  rw [if_neg ho] at e
  clear ho
  by_cases ho : op < 110
  · rw [if_pos ho] at e
    obtain ⟨q, e1, e2⟩ := bind_some e
    exact hf _ _ _ _ _ _ _ _ e2
  rw [if_neg ho] at e
  clear ho
  by_cases ho : op < 120
  · rw [if_pos ho] at e
    obtain ⟨⟨st1, g1⟩, e1, e2⟩ := bind_some e
    by_cases hc : 5 ≤ d
    · rw [if_pos hc] at e2
      rw [← hwr_n e1]
      exact hf _ _ _ _ _ _ _ _ e2
    · rw [if_neg hc] at e2; cases e2
  rw [if_neg ho] at e
  clear ho
  by_cases ho : op < 130
  · rw [if_pos ho] at e
    obtain ⟨⟨st1, g1⟩, e1, e2⟩ := bind_some e
    have := hal_n e1
    subst this
    exact Nat.le_trans (Nat.le_succ _) (hf _ _ _ _ _ _ _ _ e2)
  rw [if_neg ho] at e
  clear ho
  by_cases ho : op < 135
  · rw [if_pos ho] at e
    cases d with
    | zero => cases e
    | succ d' =>
      obtain ⟨q, e1, e2⟩ := bind_some e
      by_cases hc : csum q.2 ≤ 8 ∧ rok w op b q.1 h = true
      · rw [if_pos hc] at e2
        obtain ⟨⟨r1, g1⟩, e3, e4⟩ := bind_some e2
        exact Nat.le_trans (hf _ _ _ _ _ _ _ _ e3) (hf _ _ _ _ _ _ _ _ e4)
      · rw [if_neg hc] at e2; cases e2
  rw [if_neg ho] at e
  clear ho
  by_cases ho : op = 135
  · rw [if_pos ho] at e
    match st, e with
    | .ref q :: st, e =>
      have e : (if 5 ≤ d ∧ csum st ≤ 8 then f d k (i + 1) ls st h else none) = some (r, h') := e
      by_cases hc : 5 ≤ d ∧ csum st ≤ 8
      · rw [if_pos hc] at e; exact hf _ _ _ _ _ _ _ _ e
      · rw [if_neg hc] at e; cases e
  rw [if_neg ho] at e
  clear ho
  cases hr : rtn op st with
  | none => rw [hr] at e; cases e
  | some q =>
    rw [hr] at e
    cases e
    exact Nat.le_refl _
theorem run_mono {w : Nat} : ∀ (n d k i : Nat) (ls : Lv) (st : List Value) (h : Hp) (r : Option Value) (h' : Hp), run w n d k i ls st h = some (r, h') → hN h ≤ hN h' := by
  intro n
  induction n with
  | zero => intro d k i ls st h r h' e; cases e
  | succ n ih => intro d k i ls st h r h' e; exact stp_mono ih d k i ls st h r h' e
def CkAll : Prop := (∀ k i, k < 232 → i < nI_ k → ckI k i = true) ∧ ∀ k, k < 232 → ckM k = true ∧ 0 < nI_ k
theorem ck_cb {k i op b c : Nat} {a : Int32} (hi : ins k i = (op, a, b, c)) (h : ckI k i = true) (h1 : 129 < op) (h2 : op < 135) : b < 232 := by
  have ww := ck_w h
  unfold wok at ww
  rw [hi] at ww
  rcases (show op = 130 ∨ op = 131 ∨ op = 132 ∨ op = 133 ∨ op = 134 by omega) with rfl | rfl | rfl | rfl | rfl
  · have ww : (tw (wiAt k i) (.methodLink (mY k).cls (ix a) (mY b)) && mS b && decide (b < 232) && decide (c = mP b)) = true := ww
    simp only [Bool.and_eq_true] at ww
    exact of_decide_eq_true ww.1.2
  · have ww : (decide (((mY k).cls, ix a, mY b) ∈ nestM) && mS b && decide (b < 232) && decide (c = mP b)) = true := ww
    simp only [Bool.and_eq_true] at ww
    exact of_decide_eq_true ww.1.2
  · have ww : (tw (wiAt k i) (.methodLink (mY k).cls (ix a) (mY b)) && tw (ws_ b) (.selects (mY b).cls (mY b) (mY b)) && !(mS b) && decide (b < 232) && decide (c = mP b + 1) && decide ((mY b).cls = cR (mCi b)) && decide (mCi b < 13)) = true := ww
    simp only [Bool.and_eq_true] at ww
    exact of_decide_eq_true ww.1.1.1.2
  · have ww : (tw (wiAt k i) (.methodLink (mY k).cls (ix a) (mY b)) && !(mS b) && decide ((mY b).name = "<init>") && decide (b < 232) && decide (c = mP b + 1) && decide (mR b = none)) = true := ww
    simp only [Bool.and_eq_true] at ww
    exact of_decide_eq_true ww.1.1.2
  · have ww : (decide (((mY k).cls, ix a, mY b) ∈ nestM) && !(mS b) && decide ((mY b).name = "<init>") && decide (b < 232) && decide (c = mP b + 1) && decide (mR b = none)) = true := ww
    simp only [Bool.and_eq_true] at ww
    exact of_decide_eq_true ww.1.1.2
/-- what the abstract machine comes to in n steps, the machine comes to -/
def SimW (l : Launch) (M : Pm) (n : Nat) : Prop := ∀ (d k i : Nat) (ls : Lv) (st : List Value) (h : Hp) (r : Option Value) (h' : Hp), run (pW M) n d k i ls st h = some (r, h') → k < 232 → i < nI_ k → ∀ {p : Program} {e : Env} {Rm : Room} {s : State} {m : MethodId} {args : Array Value} {below : List Frame} {meth : Method} {c : Code} {H : Heap} {locs : List Loc} {cells slots : Nat} {rls : Array Slot} (n0 : Nat),
  Cx M k d p Rm s m args meth c → Rel M h H → va_S (Own M) s.heap H locs → lvr M ls rls (mL k) → n0 ≤ hN h → cells ≤ hN h - n0 → slots ≤ sl (pW M) (hN h) - sl (pW M) n0 → hN h' - n0 ≤ Rm.cells → sl (pW M) (hN h') - sl (pW M) n0 ≤ Rm.slots →
  W p l e Rm s m args below meth c H locs cells slots (MQ below (QcA M r h') args s (hN h' - n0) (sl (pW M) (hN h') - sl (pW M) n0) (Own M)) (F0 m (pcAt k i) rls (st.map (tr M)))
theorem lay_map (M : Pm) (vs : List Value) : ∀ (n : Nat), lvr M (lay vs ++ List.replicate n none) ((lg_sl (vs.map (tr M)) ++ List.replicate n Slot.unset).toArray) ((lay vs).length + n) := by
  intro n
  have hlen : ∀ vs : List Value, (lg_sl (vs.map (tr M))).length = (lay vs).length := by
    intro vs
    induction vs with
    | nil => rfl
    | cons v vs ih =>
      unfold lay
      show ((if (tr M v).category = 2 then [Slot.val (tr M v), .second] else [.val (tr M v)]) ++ lg_sl (vs.map (tr M))).length = _
      rw [tr_cat]
      by_cases hv : v.category = 2
      · rw [if_pos hv, if_pos hv]; simp [ih]
      · rw [if_neg hv, if_neg hv]; simp [ih]
  have h0 := lv_entry (vs.map (tr M)) (n := (lay vs).length + n) (by rw [hlen]; omega)
  have e1 : (lay vs).length + n - (lg_sl (vs.map (tr M))).length = n := by rw [hlen]; omega
  rw [e1] at h0
  refine ⟨⟨h0.1, h0.2.1, ?_⟩, by simp⟩
  rintro ⟨j, u⟩ hq
  obtain ⟨t, v, q1, q2, q3⟩ := (lpr_mem _ 0 j u).mp hq
  have hjt : j = t := by omega
  subst hjt
  subst q3
  refine h0.2.2 (j, tr M v) ?_
  have key : ∀ (vs : List Value) (i j : Nat) (v : Value), lget (lay vs ++ List.replicate n none) j = some v → (i + j, tr M v) ∈ lv_args i (vs.map (tr M)) := by
    intro vs
    induction vs with
    | nil =>
      intro i j v h
      exfalso
      have : ∀ (n j : Nat), lget (List.replicate n none) j = none := by
        intro n
        induction n with
        | zero => intro j; rfl
        | succ n ih =>
          intro j
          cases j with
          | zero => rfl
          | succ j => exact ih j
      have h : lget (List.replicate n none) j = some v := h
      rw [this] at h
      cases h
    | cons x vs ih =>
      intro i j v h
      show (i + j, tr M v) ∈ (i, tr M x) :: lv_args (if (tr M x).category = 2 then i + 2 else i + 1) (vs.map (tr M))
      rw [tr_cat]
      unfold lay at h
      by_cases hx : x.category = 2
      · rw [if_pos hx] at h ⊢
        match j, h with
        | 0, h =>
          have : x = v := Option.some.inj h
          subst this
          exact List.mem_cons_self
        | 1, h => cases h
        | j + 2, h =>
          have := ih (i + 2) j v h
          have e : i + 2 + j = i + (j + 2) := by omega
          rw [e] at this
          exact List.mem_cons_of_mem _ this
      · rw [if_neg hx] at h ⊢
        match j, h with
        | 0, h =>
          have : x = v := Option.some.inj h
          subst this
          exact List.mem_cons_self
        | j + 1, h =>
          have := ih (i + 1) j v h
          have e : i + 1 + j = i + (j + 1) := by omega
          rw [e] at this
          exact List.mem_cons_of_mem _ this
  have := key vs 0 j v q2
  rw [Nat.zero_add] at this
  exact this
theorem metA {l : Launch} {M : Pm} {n : Nat} (hck : CkAll) (hS : SimW l M n) {d k : Nat} {vs : List Value} {h h' : Hp} {r : Option Value} (hrun : run (pW M) n d k 0 (entry vs (mL k)) [] h = some (r, h')) (hk : k < 232) (hl : (lay vs).length ≤ mL k) : Met l (mY k) (wsk k) (rmA d (hN h' - hN h) (sl (pW M) (hN h') - sl (pW M) (hN h))) (PcA M vs h) (QcA M r h') (hN h' - hN h) (sl (pW M) (hN h') - sl (pW M) (hN h)) (Own M) := by
  obtain ⟨c1, c2, c3, c4, c5, c6, c7, c8⟩ := ckM_of (hck.2 k hk).1
  refine Met.ofW (cc := mC k) (maxL := mL k) (ret := mR k) c5 rfl ?_
  intro p e s m args below meth c s₁ B hml hv
  obtain ⟨rfl, hRl, hE⟩ := hv
  have hts := atoms_spec (ws := wsk k) B.pre
  have C : Cx M k d p (headSpec (wsk k) (rmA d (hN h' - hN h) (sl (pW M) (hN h') - sl (pW M) (hN h)))).room s m (vs.map (tr M)).toArray meth c := ⟨B.exec, B.bytes, hml, findClass_of_methodNamed B.named, fun x hx => hts x (List.mem_cons_of_mem _ hx), B.returns, B.notSynchronized, (name_of_methodNamed B.named B.method).1, hE, Nat.le_refl _, Nat.le_refl _⟩
  rw [lg_entry_eq]
  have hlv := lay_map M vs (mL k - (lay vs).length)
  rw [Nat.add_sub_cancel' hl] at hlv
  have e2 : (lg_sl (vs.map (tr M))).length = (lay vs).length := by
    have h1 := hlv.1.1
    have h2 := hlv.2
    simp at h1 h2
    omega
  rw [e2]
  have := hS d k 0 (entry vs (mL k)) [] h r h' hrun hk (hck.2 k hk).2 (hN h) C hRl (va_S.rf (A := Own M) (H0 := s.heap)) hlv (Nat.le_refl _) (cells := 0) (slots := 0) (Nat.zero_le _) (Nat.zero_le _) (Nat.le_refl _) (Nat.le_refl _) (e := e) (below := below)
  rw [c8] at this
  exact this
theorem simS {l : Launch} {M : Pm} (hck : CkAll) (hStr : Strs l M) (n : Nat) (ih : SimW l M n) : SimW l M (n + 1) := by
  intro d k i ls st h r h' hrun hk hi0 p e Rm s m args below meth c H locs cells slots rls n0 C hRl hS hlv hn0 hcl hsl hC hSl
  have ck := hck.1 k i hk hi0
  have hmono := run_mono _ _ _ _ _ _ _ _ _ hrun
  have hslm := sl_mono (pW M) hmono
  have hsl0 := sl_mono (pW M) hn0
  have hrun : stp (pW M) (run (pW M) n) d k i ls st h = some (r, h') := hrun
  unfold stp at hrun
  rcases hq : ins k i with ⟨op, a, b, c0⟩
  rw [hq] at hrun
  dsimp only at hrun
  have hrsz : rls.size = mL k := hlv.1.1
  have hcl2 : cells ≤ Rm.cells := by omega
  have hsl2 : slots ≤ Rm.slots := by omega
  by_cases ho : op < 40
  · rw [if_pos ho] at hrun
    obtain ⟨st', e1, e2⟩ := bind_some hrun
    exact S_p hq ho ck C e1 (ih d k (i + 1) ls st' h r h' e2 hk (ck_f hq ck (by omega)) n0 C hRl hS hlv hn0 hcl hsl hC hSl)
  rw [if_neg ho] at hrun
  by_cases ho : op < 50
  · rw [if_pos ho] at hrun
    obtain ⟨⟨v, st'⟩, e1, e2⟩ := bind_some hrun
    by_cases hc : 5 ≤ d ∧ csum st' ≤ 8
    · rw [if_pos hc] at e2
      by_cases h45 : op < 45
      · exact S_lib hq (by omega) h45 ck C hrsz hc.1 hcl2 hsl2 e1 hc.2 (ih d k (i + 1) ls (v :: st') h r h' e2 hk (ck_f hq ck (by omega)) n0 C hRl hS hlv hn0 hcl hsl hC hSl)
      · have := ck_v hq ck
        exact hStr hq (by omega) ck C hrsz hc.1 hS hcl2 hsl2 e1 hc.2 (fun locs1 hS1 => ih d k (i + 1) ls (v :: st') h r h' e2 hk (ck_f hq ck (by omega)) n0 C hRl hS1 hlv hn0 hcl hsl hC hSl)
    · rw [if_neg hc] at e2; cases e2
  rw [if_neg ho] at hrun
  by_cases ho : op < 60
  · rw [if_pos ho] at hrun
    obtain ⟨v, e1, e2⟩ := bind_some hrun
    exact S_ld hq (by omega) ho ck C hlv e1 (ih d k (i + 1) ls (v :: st) h r h' e2 hk (ck_f hq ck (by omega)) n0 C hRl hS hlv hn0 hcl hsl hC hSl)
  rw [if_neg ho] at hrun
  by_cases ho : op < 66
  · rw [if_pos ho] at hrun
    obtain ⟨⟨ls', st'⟩, e1, e2⟩ := bind_some hrun
    exact S_st hq (by omega) ho ck C hlv e1 (fun rls' hlv' => ih d k (i + 1) ls' st' h r h' e2 hk (ck_f hq ck (by omega)) n0 C hRl hS hlv' hn0 hcl hsl hC hSl)
  rw [if_neg ho] at hrun
  by_cases ho : op = 66
  · rw [if_pos ho] at hrun
    subst ho
    cases hg : lget ls b with
    | none => rw [hg] at hrun; cases hrun
    | some v =>
      rw [hg] at hrun
      match v, hg, hrun with
      | .int x, hg, hrun =>
        obtain ⟨ls', e1, e2⟩ := bind_some hrun
        exact S_inc hq ck C hlv hg e1 (fun rls' hlv' => ih d k (i + 1) ls' st h r h' e2 hk (ck_f hq ck (by omega)) n0 C hRl hS hlv' hn0 hcl hsl hC hSl)
  rw [if_neg ho] at hrun
  by_cases ho : op < 82
  · rw [if_pos ho] at hrun
    obtain ⟨⟨t, st'⟩, e1, e2⟩ := bind_some hrun
    have hvv := ck_v hq ck
    refine S_br hq (by omega) ho ck C e1 (ih d k (if t then b else i + 1) ls st' h r h' e2 hk ?_ n0 C hRl hS hlv hn0 hcl hsl hC hSl)
    cases t with
    | true => exact ck_b hq ck (by omega)
    | false => exact ck_f hq ck (by omega)
  rw [if_neg ho] at hrun
  by_cases ho : op = 82
  · rw [if_pos ho] at hrun
    subst ho
    exact S_goto hq ck C (ih d k b ls st h r h' hrun hk (ck_b hq ck (by omega)) n0 C hRl hS hlv hn0 hcl hsl hC hSl)
  rw [if_neg ho] at hrun
  by_cases ho : op = 83
  · rw [if_pos ho] at hrun
    subst ho
    obtain ⟨s1, s2, s3⟩ := ck_s hq ck
    match st, hrun with
    | .int x :: st, hrun =>
      refine S_sw hq s3 ck C (ih d k (swf x a (swt b) c0) ls st h r h' hrun hk ?_ n0 C hRl hS hlv hn0 hcl hsl hC hSl)
      have : ∀ (ts : List Nat) (lo : Int32), (∀ t ∈ ts, t < nI_ k) → swf x lo ts c0 < nI_ k := by
        intro ts
        induction ts with
        | nil => intro lo _; exact s1
        | cons t ts ih2 =>
          intro lo hts
          show (if x = lo then t else swf x (lo + 1) ts c0) < nI_ k
          by_cases hx : x = lo
          · rw [if_pos hx]; exact hts t List.mem_cons_self
          · rw [if_neg hx]; exact ih2 (lo + 1) (fun t ht => hts t (List.mem_cons_of_mem _ ht))
      exact this _ _ s2
  rw [if_neg ho] at hrun
  by_cases ho : op < 110
  · rw [if_pos ho] at hrun
    obtain ⟨st', e1, e2⟩ := bind_some hrun
    have hvv := ck_v hq ck
    exact S_hr hq (by omega) ho ck C hRl hS e1 (ih d k (i + 1) ls st' h r h' e2 hk (ck_f hq ck (by omega)) n0 C hRl hS hlv hn0 hcl hsl hC hSl)
  rw [if_neg ho] at hrun
  by_cases ho : op < 120
  · rw [if_pos ho] at hrun
    obtain ⟨⟨st', g1⟩, e1, e2⟩ := bind_some hrun
    have hvv := ck_v hq ck
    by_cases hc : 5 ≤ d
    · rw [if_pos hc] at e2
      have hn1 := hwr_n e1
      exact S_hw hq (by omega) ho ck C hrsz hc hRl hS e1 (fun H1 locs1 hR1 hS1 => ih d k (i + 1) ls st' g1 r h' e2 hk (ck_f hq ck (by omega)) n0 C hR1 hS1 hlv (by rw [hn1]; exact hn0) (by rw [hn1]; exact hcl) (by rw [hn1]; exact hsl) hC hSl)
    · rw [if_neg hc] at e2; cases e2
  rw [if_neg ho] at hrun
  by_cases ho : op < 130
  · rw [if_pos ho] at hrun
    obtain ⟨⟨st', g1⟩, e1, e2⟩ := bind_some hrun
    have hvv := ck_v hq ck
    have hg1 := hal_n e1
    subst hg1
    have hm1 : hN (hNew h) ≤ hN h' := run_mono _ _ _ _ _ _ _ _ _ e2
    have hN1 : hN (hNew h) = hN h + 1 := rfl
    have hs1 : sl (pW M) (hN (hNew h)) = sl (pW M) (hN h) + (shp (pW M) (hN h)).2 := rfl
    have hm2 := sl_mono (pW M) hm1
    exact S_al hq (by omega) ho ck C hRl hS e1 (by omega) (by omega) (fun H1 hR1 hS1 => ih d k (i + 1) ls st' (hNew h) r h' e2 hk (ck_f hq ck (by omega)) n0 C hR1 hS1 hlv (by omega) (by omega) (by omega) hC hSl)
  rw [if_neg ho] at hrun
  by_cases ho : op < 135
  · rw [if_pos ho] at hrun
    cases d with
    | zero => cases hrun
    | succ d' =>
      obtain ⟨⟨vs, rest⟩, e1, e2⟩ := bind_some hrun
      by_cases hc : csum rest ≤ 8 ∧ rok (pW M) op b vs h = true
      · rw [if_pos hc] at e2
        obtain ⟨⟨r1, g1⟩, e3, e4⟩ := bind_some e2
        have hvv := ck_v hq ck
        have hb232 := ck_cb hq ck (by omega) ho
        have hm1 : hN h ≤ hN g1 := run_mono _ _ _ _ _ _ _ _ _ e3
        have hm2 : hN g1 ≤ hN h' := run_mono _ _ _ _ _ _ _ _ _ e4
        have hm3 := sl_mono (pW M) hm1
        have hm4 := sl_mono (pW M) hm2
        have hlay : (lay vs).length ≤ mL b := Nat.le_of_ble_eq_true ((Bool.and_eq_true _ _).mp hc.2).1
        have hM := metA hck ih e3 hb232 hlay
        exact S_call hq (by omega) ho ck (hck.2 b hb232).1 C hrsz hRl hS e1 hc.1 hc.2 hM (by omega) (by omega) (fun H1 locs1 hR1 hS1 => ih (d' + 1) k (i + 1) ls (r1.toList ++ rest) g1 r h' e4 hk (ck_f hq ck (by omega)) n0 C hR1 hS1 hlv (by omega) (by omega) (by omega) hC hSl)
      · rw [if_neg hc] at e2; cases e2
  rw [if_neg ho] at hrun
  by_cases ho : op = 135
  · rw [if_pos ho] at hrun
    subst ho
    match st, hrun with
    | .ref q :: st, hrun =>
      have hrun : (if 5 ≤ d ∧ csum st ≤ 8 then run (pW M) n d k (i + 1) ls st h else none) = some (r, h') := hrun
      by_cases hc : 5 ≤ d ∧ csum st ≤ 8
      · rw [if_pos hc] at hrun
        exact S_oi hq ck C hrsz hc.1 hc.2 (ih d k (i + 1) ls st h r h' hrun hk (ck_f hq ck (by omega)) n0 C hRl hS hlv hn0 hcl hsl hC hSl)
      · rw [if_neg hc] at hrun; cases hrun
  rw [if_neg ho] at hrun
  cases hr : rtn op st with
  | none => rw [hr] at hrun; cases hrun
  | some q =>
    rw [hr] at hrun
    have hz := Prod.mk.inj (Option.some.inj hrun)
    have hz1 := hz.1
    have hz2 := hz.2
    subst hz1
    subst hz2
    refine W.widen hcl hsl ?_
    exact S_rt hq (by omega) ck C hRl hS hr
theorem simW {l : Launch} {M : Pm} (hck : CkAll) (hStr : Strs l M) : ∀ n, SimW l M n := by
  intro n
  induction n with
  | zero => intro d k i ls st h r h' e; cases e
  | succ n ih => exact simS hck hStr n ih
/-- THE SIMULATION: a method that ends on the abstract machine meets that contract -/
theorem sim {l : Launch} {M : Pm} (hck : CkAll) (hStr : Strs l M) {n d k : Nat} {vs : List Value} {h h' : Hp} {r : Option Value} (hrun : run (pW M) n d k 0 (entry vs (mL k)) [] h = some (r, h')) (hk : k < 232) (hl : (lay vs).length ≤ mL k) : Met l (mY k) (wsk k) (rmA d (hN h' - hN h) (sl (pW M) (hN h') - sl (pW M) (hN h))) (PcA M vs h) (QcA M r h') (hN h' - hN h) (sl (pW M) (hN h') - sl (pW M) (hN h)) (Own M) := metA hck (simW hck hStr n) hrun hk hl
