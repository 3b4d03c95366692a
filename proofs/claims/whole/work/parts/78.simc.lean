theorem ini_math : Cond.initialized "java/lang/Math" ∈ gw := tw_in (j := 85) (by decide +kernel)
theorem wm_mmax : Cond.static Lib.Math.max.name ∈ gw ∧ Cond.code Lib.Math.max.name Lib.Math.max.code 2 (some .int) ∈ gw := ⟨tw_in (j := 114) (by decide +kernel), tw_in (j := 115) (by decide +kernel)⟩
theorem wm_mmin : Cond.static Lib.Math.min.name ∈ gw ∧ Cond.code Lib.Math.min.name Lib.Math.min.code 2 (some .int) ∈ gw := ⟨tw_in (j := 117) (by decide +kernel), tw_in (j := 118) (by decide +kernel)⟩
theorem wm_mabs : Cond.static Lib.Math.abs.name ∈ gw ∧ Cond.code Lib.Math.abs.name Lib.Math.abs.code 1 (some .int) ∈ gw := ⟨tw_in (j := 1038) (by decide +kernel), tw_in (j := 1039) (by decide +kernel)⟩
theorem wm_mmaxl : Cond.static Lib.MathLoose.max_long.x ∈ gw ∧ Cond.code Lib.MathLoose.max_long.x Lib.MathLoose.max_long.code 4 (some .long) ∈ gw := ⟨tw_in (j := 773) (by decide +kernel), tw_in (j := 774) (by decide +kernel)⟩
theorem wm_mminl : Cond.static Lib.MathLoose.min_long.x ∈ gw ∧ Cond.code Lib.MathLoose.min_long.x Lib.MathLoose.min_long.code 4 (some .long) ∈ gw := ⟨tw_in (j := 777) (by decide +kernel), tw_in (j := 778) (by decide +kernel)⟩
section SG5
variable {l : Launch} {p : Program} {e : Env} {Rm : Room} {s : State} {m : MethodId} {args : Array Value} {below : List Frame} {meth : Method} {c : Code} {H : Heap} {locs : List Loc} {cells slots : Nat} {Q : State → Prop}
variable {M : Pm} {k d i op b c0 : Nat} {a : Int32} {rls : Array Slot} {ls ls' : Lv} {st st' : List Value} {h h1 : Hp}
/-- two of String's own methods over the constants -/
def Strs (l : Launch) (M : Pm) : Prop := ∀ {p : Program} {e : Env} {Rm : Room} {s : State} {m : MethodId} {args : Array Value} {below : List Frame} {meth : Method} {c : Code} {H : Heap} {locs : List Loc} {cells slots : Nat} {Q : State → Prop} {k d i op b c0 : Nat} {a : Int32} {rls : Array Slot} {st st' : List Value} {v : Value},
  ins k i = (op, a, b, c0) → (op = 45 ∨ op = 46) → ckI k i = true → Cx M k d p Rm s m args meth c → rls.size = mL k → 5 ≤ d → va_S (Own M) s.heap H locs → cells ≤ Rm.cells → slots ≤ Rm.slots → lib op st = some (v, st') → csum st' ≤ 8 → (∀ locs1, va_S (Own M) s.heap H locs1 → W p l e Rm s m args below meth c H locs1 cells slots Q (F0 m (pcAt k (i + 1)) rls ((v :: st').map (tr M)))) → W p l e Rm s m args below meth c H locs cells slots Q (F0 m (pcAt k i) rls (st.map (tr M)))
theorem S_lib {v : Value} (hi : ins k i = (op, a, b, c0)) (h1' : ¬ op < 40) (h2 : op < 45) (ck : ckI k i = true) (C : Cx M k d p Rm s m args meth c) (hrl : rls.size = mL k) (hd5 : 5 ≤ d) (hcl : cells ≤ Rm.cells) (hsl : slots ≤ Rm.slots) (hp : lib op st = some (v, st')) (hcs : csum st' ≤ 8) (kk : W p l e Rm s m args below meth c H locs cells slots Q (F0 m (pcAt k (i + 1)) rls ((v :: st').map (tr M)))) : W p l e Rm s m args below meth c H locs cells slots Q (F0 m (pcAt k i) rls (st.map (tr M))) := by
  obtain ⟨hx, hb, hml, hown, hts, hr, hlk, hnm, hE, hfr, hlo⟩ := C
  have dd := ck_d ck
  have nn := ck_n ck
  have ww := ck_w ck
  by_cases o : op = 40
  · subst o
    have X : xin k i = (.invokestatic b, 3) := by unfold xin; rw [hi]; rfl
    rw [X] at dd nn
    have nn : pcAt k (i + 1) = pcAt k i + 3 := nn
    rw [nn] at kk
    have ww : tw (wiAt k i) (.methodLink (mY k).cls b Lib.Math.max.name) = true := by unfold wok at ww; rw [hi] at ww; exact ww
    match st, hp with
    | .int y :: .int x :: st, hp =>
      have hp : some (Value.int (mmax x y), st) = some (v, st') := hp
      have hz := Prod.mk.inj (Option.some.inj hp)
      have hz1 := hz.1
      have hz2 := hz.2
      subst hz1
      subst hz2
      exact va_mmax hx hb (hml.trans hrl.symm) hown (hts _ (tw_in ww)) (hts _ wm_mmax.1) (hts _ ini_math) (hts _ wm_mmax.2) (by omega) (by rw [tr_csum]; omega) hcl hsl dd kk
  by_cases o : op = 41
  · subst o
    have X : xin k i = (.invokestatic b, 3) := by unfold xin; rw [hi]; rfl
    rw [X] at dd nn
    have nn : pcAt k (i + 1) = pcAt k i + 3 := nn
    rw [nn] at kk
    have ww : tw (wiAt k i) (.methodLink (mY k).cls b Lib.Math.min.name) = true := by unfold wok at ww; rw [hi] at ww; exact ww
    match st, hp with
    | .int y :: .int x :: st, hp =>
      have hp : some (Value.int (mmin x y), st) = some (v, st') := hp
      have hz := Prod.mk.inj (Option.some.inj hp)
      have hz1 := hz.1
      have hz2 := hz.2
      subst hz1
      subst hz2
      exact va_mmin hx hb (hml.trans hrl.symm) hown (hts _ (tw_in ww)) (hts _ wm_mmin.1) (hts _ ini_math) (hts _ wm_mmin.2) (by omega) (by rw [tr_csum]; omega) hcl hsl dd kk
  by_cases o : op = 42
  · subst o
    have X : xin k i = (.invokestatic b, 3) := by unfold xin; rw [hi]; rfl
    rw [X] at dd nn
    have nn : pcAt k (i + 1) = pcAt k i + 3 := nn
    rw [nn] at kk
    have ww : tw (wiAt k i) (.methodLink (mY k).cls b Lib.Math.abs.name) = true := by unfold wok at ww; rw [hi] at ww; exact ww
    match st, hp with
    | .int x :: st, hp =>
      have hp : some (Value.int (mabs x), st) = some (v, st') := hp
      have hz := Prod.mk.inj (Option.some.inj hp)
      have hz1 := hz.1
      have hz2 := hz.2
      subst hz1
      subst hz2
      exact va_mabs hx hb (hml.trans hrl.symm) hown (hts _ (tw_in ww)) (hts _ wm_mabs.1) (hts _ ini_math) (hts _ wm_mabs.2) (by omega) (by rw [tr_csum]; omega) hcl hsl dd kk
  by_cases o : op = 43
  · subst o
    have X : xin k i = (.invokestatic b, 3) := by unfold xin; rw [hi]; rfl
    rw [X] at dd nn
    have nn : pcAt k (i + 1) = pcAt k i + 3 := nn
    rw [nn] at kk
    have ww : tw (wiAt k i) (.methodLink (mY k).cls b Lib.MathLoose.max_long.x) = true := by unfold wok at ww; rw [hi] at ww; exact ww
    match st, hp with
    | .long y :: .long x :: st, hp =>
      have hp : some (Value.long (mmaxl x y), st) = some (v, st') := hp
      have hz := Prod.mk.inj (Option.some.inj hp)
      have hz1 := hz.1
      have hz2 := hz.2
      subst hz1
      subst hz2
      exact va_mmax_long hx hb (hml.trans hrl.symm) hown (hts _ (tw_in ww)) (hts _ wm_mmaxl.1) (hts _ ini_math) (hts _ wm_mmaxl.2) (by omega) (by rw [tr_csum]; omega) hcl hsl dd kk
  by_cases o : op = 44
  · subst o
    have X : xin k i = (.invokestatic b, 3) := by unfold xin; rw [hi]; rfl
    rw [X] at dd nn
    have nn : pcAt k (i + 1) = pcAt k i + 3 := nn
    rw [nn] at kk
    have ww : tw (wiAt k i) (.methodLink (mY k).cls b Lib.MathLoose.min_long.x) = true := by unfold wok at ww; rw [hi] at ww; exact ww
    match st, hp with
    | .long y :: .long x :: st, hp =>
      have hp : some (Value.long (mminl x y), st) = some (v, st') := hp
      have hz := Prod.mk.inj (Option.some.inj hp)
      have hz1 := hz.1
      have hz2 := hz.2
      subst hz1
      subst hz2
      exact va_mmin_long hx hb (hml.trans hrl.symm) hown (hts _ (tw_in ww)) (hts _ wm_mminl.1) (hts _ ini_math) (hts _ wm_mminl.2) (by omega) (by rw [tr_csum]; omega) hcl hsl dd kk
  exfalso
  have := ck_v hi ck
  omega
def PcA (M : Pm) (vs : List Value) (h : Hp) : Array Value → State → Prop := va_Pc (vs.map (tr M)) (fun U => Rel M h U.heap ∧ Ev M U)
def QcA (M : Pm) (r : Option Value) (h' : Hp) : Array Value → State → Outcome → State → Prop := fun _ st oc t => oc = .returned (r.map (tr M)) ∧ Rel M h' t.heap ∧ va_F (Own M) st t
def wsk (k : Nat) : List Cond := Cond.code (mY k) (mC k) (mL k) (mR k) :: gw
def rmA (d mc ms : Nat) : Room := { frames := d, cells := mc, slots := ms, locals := 64 * d + 64 }
theorem PcA_blind (vs : List Value) : FrameBlind (PcA M vs h) := fun a U g mk q => ⟨q.1, q.2.1, q.2.2.same rfl rfl⟩
theorem S_run {mc ms pc : Nat} {r : Option Value} {rest st0 : List Value} {a0 : Array Value} (hr : va_Run p l e Rm s m args below meth c H locs cells slots mc ms (F0 m pc rls st0) rest (QcA M r h1 a0) (Own M)) (hS : va_S (Own M) s.heap H locs) (kk : ∀ (H1 : Heap) (locs1 : List Loc), Rel M h1 H1 → va_S (Own M) s.heap H1 locs1 → W p l e Rm s m args below meth c H1 locs1 (cells + mc) (slots + ms) Q (F0 m (pc + 3) rls ((r.map (tr M)).toList ++ rest))) : W p l e Rm s m args below meth c H locs cells slots Q (F0 m pc rls st0) := by
  intro T hT X
  obtain ⟨v, st₀, t, T', L, g0, X', hL, e1, e2, ⟨hv, hrl, hz, hk⟩, st⟩ := hr T hT X
  cases hv
  rw [g0] at hz hk
  obtain ⟨t2, a1, b1⟩ := kk T'.heap (locs ++ L) (by rw [e1]; exact hrl) ⟨Nat.le_trans hS.1 (by rw [e1]; exact hz), fun q h1 h2 => by rw [e1, hk q (Nat.lt_of_lt_of_le h1 hS.1) h2]; exact hS.2.1 q h1 h2, fun q hq => by
      rcases List.mem_append.mp hq with h | h
      · exact hS.2.2 q h
      · exact hL q h⟩ T' rfl X'
  exact ⟨t2, st t2 a1, b1⟩
theorem ckM_of {b : Nat} (h : ckM b = true) : Cond.code (mY b) (mC b) (mL b) (mR b) ∈ gw ∧ Cond.initialized (mY b).cls ∈ gw ∧ (mS b = true → Cond.static (mY b) ∈ gw) ∧ (mS b = false → Cond.instanceMethod (mY b) ∈ gw) ∧ plainName (mY b).cls = true ∧ ((mY b).cls ≠ "java/lang/invoke/MethodHandle" ∧ (mY b).cls ≠ "java/lang/invoke/VarHandle" ∧ (parseMethodDescriptor (mY b).desc).map (fun d => d.parameters.length) = some (mP b)) ∧ mL b ≤ 40 ∧ pcAt b 0 = 0 := by
  unfold ckM at h
  simp only [Bool.and_eq_true] at h
  obtain ⟨⟨⟨⟨⟨⟨q1, q2⟩, q3⟩, q4⟩, q5⟩, q6⟩, q7⟩ := h
  refine ⟨tw_in q1, tw_in q2, fun z => ?_, fun z => ?_, q4, of_decide_eq_true q5, of_decide_eq_true q6, of_decide_eq_true q7⟩
  · rw [z, if_pos rfl] at q3; exact tw_in q3
  · rw [z, if_neg (by decide)] at q3; exact tw_in q3
theorem wsk_good {b : Nat} (h : ckM b = true) : GoodIn gw (wsk b) := by
  intro x hx
  have hin : x ∈ gw := by
    rcases List.mem_cons.mp hx with e | e
    · rw [e]; exact (ckM_of h).1
    · exact e
  exact ⟨hin, good_of_word (List.mem_filter.mp hin).2⟩
theorem cut_rev : ∀ (n : Nat) (st vs rest : List Value), cut n st = some (vs, rest) → st = vs.reverse ++ rest ∧ vs.length = n
  | 0, st, vs, rest, e => by cases e; exact ⟨rfl, rfl⟩
  | n + 1, [], vs, rest, e => by cases e
  | n + 1, v :: st, vs, rest, e => by
    have e : (cut n st).map (fun q => (q.1 ++ [v], q.2)) = some (vs, rest) := e
    cases hc : cut n st with
    | none => rw [hc] at e; cases e
    | some q =>
      rw [hc] at e
      cases e
      obtain ⟨h1, h2⟩ := cut_rev n st q.1 q.2 hc
      refine ⟨?_, by simp [h2]⟩
      rw [List.reverse_append]
      simp only [List.reverse_cons, List.reverse_nil, List.nil_append, List.cons_append]
      rw [← h1]
theorem S_call {d' mc ms : Nat} {r : Option Value} {vs rest : List Value} (hi : ins k i = (op, a, b, c0)) (h1' : 129 < op) (h2 : op < 135) (ck : ckI k i = true) (cm : ckM b = true) (C : Cx M k (d' + 1) p Rm s m args meth c) (hrl : rls.size = mL k) (hRl : Rel M h H) (hS : va_S (Own M) s.heap H locs) (hc : cut c0 st = some (vs, rest)) (hcs : csum rest ≤ 8) (hro : rok (pW M) op b vs h = true) (hM : Met l (mY b) (wsk b) (rmA d' mc ms) (PcA M vs h) (QcA M r h1) mc ms (Own M)) (hcl : cells + mc ≤ Rm.cells) (hsl : slots + ms ≤ Rm.slots)
    (kk : ∀ (H1 : Heap) (locs1 : List Loc), Rel M h1 H1 → va_S (Own M) s.heap H1 locs1 → W p l e Rm s m args below meth c H1 locs1 (cells + mc) (slots + ms) Q (F0 m (pcAt k (i + 1)) rls ((r.toList ++ rest).map (tr M)))) : W p l e Rm s m args below meth c H locs cells slots Q (F0 m (pcAt k i) rls (st.map (tr M))) := by
  obtain ⟨hx, hb, hml, hown, hts, hr, hlk, hnm, hE, hfr, hlo⟩ := C
  have dd := ck_d ck
  have nn := ck_n ck
  have ww := ck_w ck
  obtain ⟨cm1, cm2, cm3, cm4, cm5, cm6, cm7, cm8⟩ := ckM_of cm
  obtain ⟨hst, hlen⟩ := cut_rev _ _ _ _ hc
  have ert : (r.toList ++ rest).map (tr M) = (r.map (tr M)).toList ++ rest.map (tr M) := by cases r <;> simp
  have hroom : (rmA d' mc ms).frames + 1 ≤ Rm.frames ∧ 8 + (mL b + 11) + (rmA d' mc ms).locals ≤ Rm.locals := ⟨hfr, by show 8 + (mL b + 11) + (64 * d' + 64) ≤ Rm.locals; omega⟩
  have hpre : ∀ U : State, U.heap = H → s.WarmedH U.vm → PcA M vs h (vs.map (tr M)).toArray U := fun U hU hW => ⟨rfl, by rw [hU]; exact hRl, hE.go hS hU hW⟩
  have hfix : CallFix p m c (mC k) (mL k) s args gw (mY k).cls := ⟨hx, hb, hml, hown, hts⟩
  have hWr : 2 * (F0 m (pcAt k i) rls (st.map (tr M))).monitorRoom + ((rest.map (tr M)).map fun v => v.category).sum ≤ 8 := by
    show 2 * 0 + _ ≤ 8
    rw [tr_csum]; omega
  by_cases o : op = 130
  · subst o
    have X : xin k i = (.invokestatic (ix a), 3) := by unfold xin; rw [hi]; rfl
    rw [X] at dd nn
    have nn : pcAt k (i + 1) = pcAt k i + 3 := nn
    have kk' : ∀ (H1 : Heap) (locs1 : List Loc), Rel M h1 H1 → va_S (Own M) s.heap H1 locs1 → W p l e Rm s m args below meth c H1 locs1 (cells + mc) (slots + ms) Q (F0 m (pcAt k i + 3) rls ((r.map (tr M)).toList ++ rest.map (tr M))) := fun H1 L g1 g2 => by
      have := kk H1 L g1 g2
      rw [nn, ert] at this
      exact this
    have ww : (tw (wiAt k i) (.methodLink (mY k).cls (ix a) (mY b)) && mS b && decide (b < 232) && decide (c0 = mP b)) = true := by unfold wok at ww; rw [hi] at ww; exact ww
    simp only [Bool.and_eq_true] at ww
    refine S_run (va_runS (As := vs.map (tr M)) (rest := rest.map (tr M)) hfix hM ⟨callB_of (mP b) hts (wsk_good cm) rfl rfl rfl (hts _ cm2) (hts _ (tw_in ww.1.1.1)) cm6 hroom, hts _ (cm3 ww.1.1.2)⟩ ⟨PcA_blind vs, hpre⟩ rfl (by rw [List.length_map, hlen]; exact of_decide_eq_true ww.2) hrl (by show st.map (tr M) = _; rw [hst, List.map_append, List.map_reverse]) hWr dd ⟨hcl, hsl⟩) hS kk'
  by_cases o : op = 131
  · subst o
    have X : xin k i = (.invokestatic (ix a), 3) := by unfold xin; rw [hi]; rfl
    rw [X] at dd nn
    have nn : pcAt k (i + 1) = pcAt k i + 3 := nn
    have kk' : ∀ (H1 : Heap) (locs1 : List Loc), Rel M h1 H1 → va_S (Own M) s.heap H1 locs1 → W p l e Rm s m args below meth c H1 locs1 (cells + mc) (slots + ms) Q (F0 m (pcAt k i + 3) rls ((r.map (tr M)).toList ++ rest.map (tr M))) := fun H1 L g1 g2 => by
      have := kk H1 L g1 g2
      rw [nn, ert] at this
      exact this
    have ww : (decide (((mY k).cls, ix a, mY b) ∈ nestM) && mS b && decide (b < 232) && decide (c0 = mP b)) = true := by unfold wok at ww; rw [hi] at ww; exact ww
    simp only [Bool.and_eq_true] at ww
    refine S_run (va_runSN (As := vs.map (tr M)) (rest := rest.map (tr M)) (host := "ShipUnstopped") hfix hM ⟨va_cnB (mP b) hts (wsk_good cm) rfl rfl rfl (hE.2.1 _ (of_decide_eq_true ww.1.1.1)) (hts _ cm2) cm6 hroom, hts _ (cm3 ww.1.1.2), trivial⟩ ⟨PcA_blind vs, hpre⟩ rfl (by rw [List.length_map, hlen]; exact of_decide_eq_true ww.2) hrl (by show st.map (tr M) = _; rw [hst, List.map_append, List.map_reverse]) hWr dd ⟨hcl, hsl⟩) hS kk'
  by_cases o : op = 132
  · subst o
    have X : xin k i = (.invokevirtual (ix a), 3) := by unfold xin; rw [hi]; rfl
    rw [X] at dd nn
    have nn : pcAt k (i + 1) = pcAt k i + 3 := nn
    have kk' : ∀ (H1 : Heap) (locs1 : List Loc), Rel M h1 H1 → va_S (Own M) s.heap H1 locs1 → W p l e Rm s m args below meth c H1 locs1 (cells + mc) (slots + ms) Q (F0 m (pcAt k i + 3) rls ((r.map (tr M)).toList ++ rest.map (tr M))) := fun H1 L g1 g2 => by
      have := kk H1 L g1 g2
      rw [nn, ert] at this
      exact this
    have ww : (tw (wiAt k i) (.methodLink (mY k).cls (ix a) (mY b)) && tw (ws_ b) (.selects (mY b).cls (mY b) (mY b)) && !(mS b) && decide (b < 232) && decide (c0 = mP b + 1) && decide ((mY b).cls = cR (mCi b)) && decide (mCi b < 13)) = true := by unfold wok at ww; rw [hi] at ww; exact ww
    simp only [Bool.and_eq_true, Bool.not_eq_true'] at ww
    obtain ⟨⟨⟨⟨⟨⟨w1, w2⟩, w3⟩, w4⟩, w5⟩, w6⟩, w7⟩ := ww
    have hro := ((Bool.and_eq_true _ _).mp hro).2
    match vs, hro, hlen, hst, hpre, hM with
    | .ref q :: vs, hro, hlen, hst, hpre, hM =>
      have hq := of_decide_eq_true (p := (shp (pW M) q).1 = mCi b ∧ q < hN h) hro
      obtain ⟨cell, q1, q2, q3, q4⟩ := (hRl.1 q hq.2).obj hq.1 (of_decide_eq_true w7)
      have hcl2 : s.vm.findClass (mY b).cls = some cell.cls := by
        rw [of_decide_eq_true w6, q2]
        exact (hE.1.1 (mCi b) _ (cls_at _ (of_decide_eq_true w7))).2.1
      have eq1 : tr M (.ref q) = .ref (pB M + q) := by show Value.ref (ad M q) = _; rw [ad_lt hRl hq.2]
      have el : (Value.ref q :: vs).map (tr M) = .ref (pB M + q) :: vs.map (tr M) := by rw [List.map_cons, eq1]
      rw [el] at hpre
      have hl : vs.length = mP b := by have := of_decide_eq_true w5; simp at hlen; omega
      have hrun := va_runV (C := (mY b).cls) (b := pB M + q) (As := vs.map (tr M)) (rest := rest.map (tr M)) (g := F0 m (pcAt k i) rls (st.map (tr M))) (H := H) (locs := locs) (cells := cells) (slots := slots) (e := e) (below := below) (meth := meth) hfix hM ⟨callB_of (mP b) hts (wsk_good cm) rfl rfl rfl (hts _ cm2) (hts _ (tw_in w1)) cm6 hroom, hts _ (cm4 w3), hts _ (tw_in w2)⟩ ⟨PcA_blind _, ⟨cell, q1, by rw [q3]; rfl, hcl2⟩, hpre⟩ rfl (by rw [List.length_map]; exact hl) hrl (by
        show st.map (tr M) = _
        rw [hst, List.map_append, List.map_reverse, el, List.reverse_cons, List.append_assoc]
        rfl) hWr dd ⟨hcl, hsl⟩
      exact S_run hrun hS kk'
  by_cases o : op = 133
  · subst o
    have X : xin k i = (.invokespecial (ix a), 3) := by unfold xin; rw [hi]; rfl
    rw [X] at dd nn
    have nn : pcAt k (i + 1) = pcAt k i + 3 := nn
    have kk' : ∀ (H1 : Heap) (locs1 : List Loc), Rel M h1 H1 → va_S (Own M) s.heap H1 locs1 → W p l e Rm s m args below meth c H1 locs1 (cells + mc) (slots + ms) Q (F0 m (pcAt k i + 3) rls ((r.map (tr M)).toList ++ rest.map (tr M))) := fun H1 L g1 g2 => by
      have := kk H1 L g1 g2
      rw [nn, ert] at this
      exact this
    have ww : (tw (wiAt k i) (.methodLink (mY k).cls (ix a) (mY b)) && !(mS b) && decide ((mY b).name = "<init>") && decide (b < 232) && decide (c0 = mP b + 1) && decide (mR b = none)) = true := by unfold wok at ww; rw [hi] at ww; exact ww
    simp only [Bool.and_eq_true, Bool.not_eq_true'] at ww
    obtain ⟨⟨⟨⟨⟨w1, w2⟩, w3⟩, w4⟩, w5⟩, w6⟩ := ww
    have hro := ((Bool.and_eq_true _ _).mp hro).2
    match vs, hro, hlen, hst, hpre, hM with
    | .ref q :: vs, hro, hlen, hst, hpre, hM =>
      have el : (Value.ref q :: vs).map (tr M) = .ref (ad M q) :: vs.map (tr M) := rfl
      rw [el] at hpre
      have hl : vs.length = mP b := by have := of_decide_eq_true w5; simp at hlen; omega
      have hrun := va_runI (b := ad M q) (As := vs.map (tr M)) (rest := rest.map (tr M)) (g := F0 m (pcAt k i) rls (st.map (tr M))) (H := H) (locs := locs) (cells := cells) (slots := slots) (e := e) (below := below) (meth := meth) hfix hM ⟨callB_of (mP b) hts (wsk_good cm) (show wsk b = Cond.code (mY b) (mC b) (mL b) none :: gw by rw [← of_decide_eq_true w6]; rfl) rfl rfl (hts _ cm2) (hts _ (tw_in w1)) cm6 hroom, of_decide_eq_true w3, hts _ (cm4 w2)⟩ ⟨PcA_blind _, hpre⟩ rfl (by rw [List.length_map]; exact hl) hrl (by
        show st.map (tr M) = _
        rw [hst, List.map_append, List.map_reverse, el, List.reverse_cons, List.append_assoc]
        rfl) hWr dd ⟨hcl, hsl⟩
      exact S_run hrun hS kk'
  by_cases o : op = 134
  · subst o
    have X : xin k i = (.invokespecial (ix a), 3) := by unfold xin; rw [hi]; rfl
    rw [X] at dd nn
    have nn : pcAt k (i + 1) = pcAt k i + 3 := nn
    have kk' : ∀ (H1 : Heap) (locs1 : List Loc), Rel M h1 H1 → va_S (Own M) s.heap H1 locs1 → W p l e Rm s m args below meth c H1 locs1 (cells + mc) (slots + ms) Q (F0 m (pcAt k i + 3) rls ((r.map (tr M)).toList ++ rest.map (tr M))) := fun H1 L g1 g2 => by
      have := kk H1 L g1 g2
      rw [nn, ert] at this
      exact this
    have ww : (decide (((mY k).cls, ix a, mY b) ∈ nestM) && !(mS b) && decide ((mY b).name = "<init>") && decide (b < 232) && decide (c0 = mP b + 1) && decide (mR b = none)) = true := by unfold wok at ww; rw [hi] at ww; exact ww
    simp only [Bool.and_eq_true, Bool.not_eq_true'] at ww
    obtain ⟨⟨⟨⟨⟨w1, w2⟩, w3⟩, w4⟩, w5⟩, w6⟩ := ww
    have hro := ((Bool.and_eq_true _ _).mp hro).2
    match vs, hro, hlen, hst, hpre, hM with
    | .ref q :: vs, hro, hlen, hst, hpre, hM =>
      have el : (Value.ref q :: vs).map (tr M) = .ref (ad M q) :: vs.map (tr M) := rfl
      rw [el] at hpre
      have hl : vs.length = mP b := by have := of_decide_eq_true w5; simp at hlen; omega
      have hrun := va_runIN (host := "ShipUnstopped") (b := ad M q) (As := vs.map (tr M)) (rest := rest.map (tr M)) (g := F0 m (pcAt k i) rls (st.map (tr M))) (H := H) (locs := locs) (cells := cells) (slots := slots) (e := e) (below := below) (meth := meth) hfix hM ⟨va_cnB (mP b) hts (wsk_good cm) (show wsk b = Cond.code (mY b) (mC b) (mL b) none :: gw by rw [← of_decide_eq_true w6]; rfl) rfl rfl (hE.2.1 _ (of_decide_eq_true w1)) (hts _ cm2) cm6 hroom, of_decide_eq_true w3, hts _ (cm4 w2)⟩ ⟨PcA_blind _, hpre⟩ rfl (by rw [List.length_map]; exact hl) hrl (by
        show st.map (tr M) = _
        rw [hst, List.map_append, List.map_reverse, el, List.reverse_cons, List.append_assoc]
        rfl) hWr dd ⟨hcl, hsl⟩
      exact S_run hrun hS kk'
  exfalso
  have := ck_v hi ck
  omega
theorem wo_init : Cond.instanceMethod objectInit ∈ gw ∧ Cond.code objectInit ⟨#[0xb1]⟩ 1 none ∈ gw := ⟨tw_in (j := 111) (by decide +kernel), tw_in (j := 112) (by decide +kernel)⟩
theorem S_oi {q : Nat} (hi : ins k i = (135, a, b, c0)) (ck : ckI k i = true) (C : Cx M k d p Rm s m args meth c) (hrl : rls.size = mL k) (hd5 : 5 ≤ d) (hcs : csum st ≤ 8) (kk : W p l e Rm s m args below meth c H locs cells slots Q (F0 m (pcAt k (i + 1)) rls (st.map (tr M)))) : W p l e Rm s m args below meth c H locs cells slots Q (F0 m (pcAt k i) rls ((.ref q :: st).map (tr M))) := by
  obtain ⟨hx, hb, hml, hown, hts, hr, hlk, hnm, hE, hfr, hlo⟩ := C
  have dd := ck_d ck
  have nn := ck_n ck
  have ww := ck_w ck
  have X : xin k i = (.invokespecial b, 3) := by unfold xin; rw [hi]; rfl
  rw [X] at dd nn
  have nn : pcAt k (i + 1) = pcAt k i + 3 := nn
  rw [nn] at kk
  have ww : tw (wiAt k i) (.methodLink (mY k).cls b objectInit) = true := by unfold wok at ww; rw [hi] at ww; exact ww
  exact W.objInit hx hb hown (hts _ (tw_in ww)) (hts _ wo_init.1) (hts _ wo_init.2) rfl (hrl.trans hml.symm) rfl dd (by omega) (by show 2 * 0 + _ + 12 ≤ _; rw [tr_csum]; omega) kk
theorem W_zretN {cc : ByteArray} {Qc : Array Value → State → Outcome → State → Prop} {free : Addr → Prop} {v : Int32} (hexec : p.tables.exec = Jvm.exec) (hb : c.code = cc) (hr : meth.sig.returnType = some .boolean)
    (hq : ∀ t : State, t.heap = H → s.WarmedH t.vm → Qc args s (.returned (some (.int (v &&& 1)))) t) (hf : ∀ q ∈ locs, free q.base)
    {pc : Nat} {ls : Array Slot} (hdg : decode cc pc = .ok (.ireturn, 1)) (hlocks : meth.locks = false) : W p l e Rm s m args below meth c H locs cells slots (MQ below Qc args s cells slots free) (F0 m pc ls [.int v]) := by
  intro T hT X
  obtain ⟨fs, hret, hrun, hended, hW, hframe⟩ := X.leave (v := some (.int (v &&& 1))) (hlocks := hlocks) (fun h => by rw [hr] at h; cases h)
  have hmeth' : T.vm.method? m = some meth := X.method'
  refine ⟨T.setFrames fs, ?_, .returned (some (.int (v &&& 1))), hrun, hended, hq _ hT hW, locs, ⟨⟨_, rfl⟩, hW, hframe⟩, hf⟩
  jvm_step X.here [X.here.top, hexec, hb, hdg, hmeth', hr, narrow]
  (try refine ⟨rfl, ?_⟩); (try refine ⟨rfl, ?_⟩)
  first | (intro acts; rw [hret _ acts rfl rfl rfl]) | rw [hret _ _ rfl rfl rfl]
  exact Steps.refl _
theorem S_rt {r : Option Value} (hi : ins k i = (op, a, b, c0)) (h1' : 135 < op) (ck : ckI k i = true) (C : Cx M k d p Rm s m args meth c) (hRl : Rel M h H) (hS : va_S (Own M) s.heap H locs) (hp : rtn op st = some r) : W p l e Rm s m args below meth c H locs cells slots (MQ below (QcA M r h) args s cells slots (Own M)) (F0 m (pcAt k i) rls (st.map (tr M))) := by
  obtain ⟨hx, hb, hml, hown, hts, hr, hlk, hnm, hE, hfr, hlo⟩ := C
  have dd := ck_d ck
  have nn := ck_n ck
  have ww := ck_w ck
  have hq : ∀ t : State, t.heap = H → s.WarmedH t.vm → QcA M r h args s (.returned (r.map (tr M))) t := fun t ht _ => ⟨rfl, by rw [ht]; exact hRl, hS.F ht⟩
  by_cases o : op = 140
  · subst o
    have X : xin k i = (.ireturn, 1) := by unfold xin; rw [hi]; rfl
    rw [X] at dd
    have ww : decide (mR k = some .int) = true := by unfold wok at ww; rw [hi] at ww; exact ww
    rw [of_decide_eq_true ww] at hr
    match st, hp with
    | [.int v], hp =>
      have hp : some (some (.int v)) = some r := hp
      cases hp
      exact W.iret hx hb hr hq hS.2.2 dd hlk
  by_cases o : op = 141
  · subst o
    have X : xin k i = (.ireturn, 1) := by unfold xin; rw [hi]; rfl
    rw [X] at dd
    have ww : decide (mR k = some .boolean) = true := by unfold wok at ww; rw [hi] at ww; exact ww
    rw [of_decide_eq_true ww] at hr
    match st, hp with
    | [.int v], hp =>
      have hp : some (some (.int (v &&& 1))) = some r := hp
      cases hp
      exact W_zretN hx hb hr hq hS.2.2 dd hlk
  by_cases o : op = 142
  · subst o
    have X : xin k i = (.lreturn, 1) := by unfold xin; rw [hi]; rfl
    rw [X] at dd
    have ww : decide (mR k = some .long) = true := by unfold wok at ww; rw [hi] at ww; exact ww
    rw [of_decide_eq_true ww] at hr
    match st, hp with
    | [.long v], hp =>
      have hp : some (some (.long v)) = some r := hp
      cases hp
      exact W.lret hx hb hr hq hS.2.2 dd hlk
  by_cases o : op = 144
  · subst o
    have X : xin k i = (.return_, 1) := by unfold xin; rw [hi]; rfl
    rw [X] at dd
    have ww : decide (mR k = none) = true := by unfold wok at ww; rw [hi] at ww; exact ww
    rw [of_decide_eq_true ww] at hr
    match st, hp with
    | [], hp =>
      have hp : some (none) = some r := hp
      cases hp
      exact W.vret hx hb hr hq hS.2.2 dd hlk
  by_cases o : op = 143
  · subst o
    have X : xin k i = (.areturn, 1) := by unfold xin; rw [hi]; rfl
    rw [X] at dd
    have ww : (match mR k with
      | some t => isRf t
      | none => false) = true := by unfold wok at ww; rw [hi] at ww; exact ww
    match st, hp with
    | [.ref v], hp =>
      have hp : some (some (.ref v)) = some r := hp
      cases hp
      cases hm : mR k with
      | none => rw [hm] at ww; cases ww
      | some t =>
        rw [hm] at ww hr
        exact W.aret hx hb hr (by cases t with
          | object z => exact Or.inl ⟨z, rfl⟩
          | array z => exact Or.inr ⟨z, rfl⟩
          | _ => cases ww) (Or.inr ⟨_, rfl⟩) hq hS.2.2 dd hlk
  exfalso
  have := ck_v hi ck
  omega
end SG5
