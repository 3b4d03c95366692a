section SG1
variable {l : Launch} {p : Program} {e : Env} {Rm : Room} {s : State} {m : MethodId} {args : Array Value} {below : List Frame} {meth : Method} {c : Code} {H : Heap} {locs : List Loc} {cells slots : Nat} {Q : State → Prop}
variable {M : Pm} {k d i op b c0 : Nat} {a : Int32} {rls : Array Slot} {ls ls' : Lv} {st st' : List Value} {h : Hp}
theorem S_p (hi : ins k i = (op, a, b, c0)) (ho : op < 40) (ck : ckI k i = true) (C : Cx M k d p Rm s m args meth c) (hp : pst op a st = some st') (kk : W p l e Rm s m args below meth c H locs cells slots Q (F0 m (pcAt k (i + 1)) rls (st'.map (tr M)))) : W p l e Rm s m args below meth c H locs cells slots Q (F0 m (pcAt k i) rls (st.map (tr M))) := by
  obtain ⟨hx, hb, hml, hown, hts, hr, hlk, hnm, hE, hfr, hlo⟩ := C
  have dd := ck_d ck
  have nn := ck_n ck
  have ww := ck_w ck
  have h0 := ck_v hi ck
  by_cases o : op = 1
  · subst o
    have X : xin k i = (.iconst a.toInt, 1) := by unfold xin; rw [hi]; rfl
    rw [X] at dd nn
    have nn : pcAt k (i + 1) = pcAt k i + 1 := nn
    rw [nn] at kk
    have hp : some (.int a :: st) = some st' := hp
    cases hp
    exact lv_iconst (v := a) hx hb dd (Int32.ofInt_toInt a) kk
  by_cases o : op = 2
  · subst o
    have X : xin k i = (.bipush a.toInt, 2) := by unfold xin; rw [hi]; rfl
    rw [X] at dd nn
    have nn : pcAt k (i + 1) = pcAt k i + 2 := nn
    rw [nn] at kk
    have ww : decide ((Int8.ofInt a.toInt).toInt32 = a) = true := by unfold wok at ww; rw [hi] at ww; exact ww
    have hp : some (.int a :: st) = some st' := hp
    cases hp
    exact lv_bipush (v := a) hx hb dd (of_decide_eq_true ww) kk
  by_cases o : op = 3
  · subst o
    have X : xin k i = (.sipush a.toInt, 3) := by unfold xin; rw [hi]; rfl
    rw [X] at dd nn
    have nn : pcAt k (i + 1) = pcAt k i + 3 := nn
    rw [nn] at kk
    have ww : decide ((Int16.ofInt a.toInt).toInt32 = a) = true := by unfold wok at ww; rw [hi] at ww; exact ww
    have hp : some (.int a :: st) = some st' := hp
    cases hp
    exact lv_sipush (v := a) hx hb dd (of_decide_eq_true ww) kk
  by_cases o : op = 4
  · subst o
    have X : xin k i = (.ldc b, 2) := by unfold xin; rw [hi]; rfl
    rw [X] at dd nn
    have nn : pcAt k (i + 1) = pcAt k i + 2 := nn
    rw [nn] at kk
    have ww : tw (wiAt k i) (.constant (mY k).cls b a) = true := by unfold wok at ww; rw [hi] at ww; exact ww
    have hp : some (.int a :: st) = some st' := hp
    cases hp
    exact lv_ldc (v := a) hx hb hown (hts _ (tw_in ww)) dd kk
  by_cases o : op = 5
  · subst o
    have X : xin k i = (.ldc_w b, 3) := by unfold xin; rw [hi]; rfl
    rw [X] at dd nn
    have nn : pcAt k (i + 1) = pcAt k i + 3 := nn
    rw [nn] at kk
    have ww : tw (wiAt k i) (.constant (mY k).cls b a) = true := by unfold wok at ww; rw [hi] at ww; exact ww
    have hp : some (.int a :: st) = some st' := hp
    cases hp
    exact lv_ldcw (v := a) hx hb hown (hts _ (tw_in ww)) dd kk
  by_cases o : op = 6
  · subst o
    have X : xin k i = (.lconst (Fin.ofNat 2 b), 1) := by unfold xin; rw [hi]; rfl
    rw [X] at dd nn
    have nn : pcAt k (i + 1) = pcAt k i + 1 := nn
    rw [nn] at kk
    have ww : (decide (b < 2) && decide (a.toInt64 = Int64.ofNat b)) = true := by unfold wok at ww; rw [hi] at ww; exact ww
    rw [Bool.and_eq_true] at ww
    have hp : some (.long a.toInt64 :: st) = some st' := hp
    cases hp
    refine lv_lconst (v := a.toInt64) hx hb dd ?_ kk
    rw [of_decide_eq_true ww.2]
    have := of_decide_eq_true ww.1
    rcases (show b = 0 ∨ b = 1 by omega) with rfl | rfl <;> rfl
  by_cases o : op = 7
  · subst o
    have X : xin k i = (.ldc2_w b, 3) := by unfold xin; rw [hi]; rfl
    rw [X] at dd nn
    have nn : pcAt k (i + 1) = pcAt k i + 3 := nn
    rw [nn] at kk
    have ww : tw (wiAt k i) (.constantLong (mY k).cls b a.toInt64) = true := by unfold wok at ww; rw [hi] at ww; exact ww
    have hp : some (.long a.toInt64 :: st) = some st' := hp
    cases hp
    exact lv_ldc2 (v := a.toInt64) hx hb hown (hts _ (tw_in ww)) dd kk
  by_cases o : op = 10
  · subst o
    have X : xin k i = (.iadd, 1) := by unfold xin; rw [hi]; rfl
    rw [X] at dd nn
    have nn : pcAt k (i + 1) = pcAt k i + 1 := nn
    rw [nn] at kk
    match st, hp with
    | .int y :: .int x :: st, hp =>
      have hp : some (.int (x + y) :: st) = some st' := hp
      cases hp
      exact lv_iadd hx hb dd kk
  by_cases o : op = 11
  · subst o
    have X : xin k i = (.isub, 1) := by unfold xin; rw [hi]; rfl
    rw [X] at dd nn
    have nn : pcAt k (i + 1) = pcAt k i + 1 := nn
    rw [nn] at kk
    match st, hp with
    | .int y :: .int x :: st, hp =>
      have hp : some (.int (x - y) :: st) = some st' := hp
      cases hp
      exact lv_isub hx hb dd kk
  by_cases o : op = 12
  · subst o
    have X : xin k i = (.imul, 1) := by unfold xin; rw [hi]; rfl
    rw [X] at dd nn
    have nn : pcAt k (i + 1) = pcAt k i + 1 := nn
    rw [nn] at kk
    match st, hp with
    | .int y :: .int x :: st, hp =>
      have hp : some (.int (x * y) :: st) = some st' := hp
      cases hp
      exact lv_imul hx hb dd kk
  by_cases o : op = 13
  · subst o
    have X : xin k i = (.iand, 1) := by unfold xin; rw [hi]; rfl
    rw [X] at dd nn
    have nn : pcAt k (i + 1) = pcAt k i + 1 := nn
    rw [nn] at kk
    match st, hp with
    | .int y :: .int x :: st, hp =>
      have hp : some (.int (x &&& y) :: st) = some st' := hp
      cases hp
      exact lv_iand hx hb dd kk
  by_cases o : op = 14
  · subst o
    have X : xin k i = (.ior, 1) := by unfold xin; rw [hi]; rfl
    rw [X] at dd nn
    have nn : pcAt k (i + 1) = pcAt k i + 1 := nn
    rw [nn] at kk
    match st, hp with
    | .int y :: .int x :: st, hp =>
      have hp : some (.int (x ||| y) :: st) = some st' := hp
      cases hp
      exact lv_ior hx hb dd kk
  by_cases o : op = 15
  · subst o
    have X : xin k i = (.ixor, 1) := by unfold xin; rw [hi]; rfl
    rw [X] at dd nn
    have nn : pcAt k (i + 1) = pcAt k i + 1 := nn
    rw [nn] at kk
    match st, hp with
    | .int y :: .int x :: st, hp =>
      have hp : some (.int (x ^^^ y) :: st) = some st' := hp
      cases hp
      exact lv_ixor hx hb dd kk
  by_cases o : op = 16
  · subst o
    have X : xin k i = (.ishl, 1) := by unfold xin; rw [hi]; rfl
    rw [X] at dd nn
    have nn : pcAt k (i + 1) = pcAt k i + 1 := nn
    rw [nn] at kk
    match st, hp with
    | .int y :: .int x :: st, hp =>
      have hp : some (.int (x <<< (y &&& 31)) :: st) = some st' := hp
      cases hp
      exact lv_ishl hx hb dd kk
  by_cases o : op = 17
  · subst o
    have X : xin k i = (.ishr, 1) := by unfold xin; rw [hi]; rfl
    rw [X] at dd nn
    have nn : pcAt k (i + 1) = pcAt k i + 1 := nn
    rw [nn] at kk
    match st, hp with
    | .int y :: .int x :: st, hp =>
      have hp : some (.int (x >>> (y &&& 31)) :: st) = some st' := hp
      cases hp
      exact lv_ishr hx hb dd kk
  by_cases o : op = 18
  · subst o
    have X : xin k i = (.iushr, 1) := by unfold xin; rw [hi]; rfl
    rw [X] at dd nn
    have nn : pcAt k (i + 1) = pcAt k i + 1 := nn
    rw [nn] at kk
    match st, hp with
    | .int y :: .int x :: st, hp =>
      have hp : some (.int (iushr x y) :: st) = some st' := hp
      cases hp
      exact lv_iushr (v := iushr x y) hx hb dd rfl kk
  by_cases o : op = 19
  · subst o
    have X : xin k i = (.idiv, 1) := by unfold xin; rw [hi]; rfl
    rw [X] at dd nn
    have nn : pcAt k (i + 1) = pcAt k i + 1 := nn
    rw [nn] at kk
    match st, hp with
    | .int y :: .int x :: st, hp =>
      have hp : (if y = 0 then none else some (.int (x / y) :: st)) = some st' := hp
      by_cases hy : y = 0
      · rw [if_pos hy] at hp; cases hp
      · rw [if_neg hy] at hp
        cases hp
        exact lv_idiv hx hb dd hy kk
  by_cases o : op = 20
  · subst o
    have X : xin k i = (.irem, 1) := by unfold xin; rw [hi]; rfl
    rw [X] at dd nn
    have nn : pcAt k (i + 1) = pcAt k i + 1 := nn
    rw [nn] at kk
    match st, hp with
    | .int y :: .int x :: st, hp =>
      have hp : (if y = 0 then none else some (.int (irem x y) :: st)) = some st' := hp
      by_cases hy : y = 0
      · rw [if_pos hy] at hp; cases hp
      · rw [if_neg hy] at hp
        cases hp
        exact lv_irem hx hb dd hy kk
  by_cases o : op = 21
  · subst o
    have X : xin k i = (.ineg, 1) := by unfold xin; rw [hi]; rfl
    rw [X] at dd nn
    have nn : pcAt k (i + 1) = pcAt k i + 1 := nn
    rw [nn] at kk
    match st, hp with
    | .int x :: st, hp =>
      have hp : some (.int (-x) :: st) = some st' := hp
      cases hp
      exact lv_ineg hx hb dd kk
  by_cases o : op = 22
  · subst o
    have X : xin k i = (.i2b, 1) := by unfold xin; rw [hi]; rfl
    rw [X] at dd nn
    have nn : pcAt k (i + 1) = pcAt k i + 1 := nn
    rw [nn] at kk
    match st, hp with
    | .int x :: st, hp =>
      have hp : some (.int x.toInt8.toInt32 :: st) = some st' := hp
      cases hp
      exact lv_i2b hx hb dd rfl kk
  by_cases o : op = 23
  · subst o
    have X : xin k i = (.i2l, 1) := by unfold xin; rw [hi]; rfl
    rw [X] at dd nn
    have nn : pcAt k (i + 1) = pcAt k i + 1 := nn
    rw [nn] at kk
    match st, hp with
    | .int x :: st, hp =>
      have hp : some (.long x.toInt64 :: st) = some st' := hp
      cases hp
      exact lv_i2l hx hb dd rfl kk
  by_cases o : op = 24
  · subst o
    have X : xin k i = (.l2i, 1) := by unfold xin; rw [hi]; rfl
    rw [X] at dd nn
    have nn : pcAt k (i + 1) = pcAt k i + 1 := nn
    rw [nn] at kk
    match st, hp with
    | .long x :: st, hp =>
      have hp : some (.int x.toInt32 :: st) = some st' := hp
      cases hp
      exact lv_l2i hx hb dd rfl kk
  by_cases o : op = 25
  · subst o
    have X : xin k i = (.ladd, 1) := by unfold xin; rw [hi]; rfl
    rw [X] at dd nn
    have nn : pcAt k (i + 1) = pcAt k i + 1 := nn
    rw [nn] at kk
    match st, hp with
    | .long y :: .long x :: st, hp =>
      have hp : some (.long (x + y) :: st) = some st' := hp
      cases hp
      exact lv_ladd hx hb dd kk
  by_cases o : op = 26
  · subst o
    have X : xin k i = (.lsub, 1) := by unfold xin; rw [hi]; rfl
    rw [X] at dd nn
    have nn : pcAt k (i + 1) = pcAt k i + 1 := nn
    rw [nn] at kk
    match st, hp with
    | .long y :: .long x :: st, hp =>
      have hp : some (.long (x - y) :: st) = some st' := hp
      cases hp
      exact lv_lsub hx hb dd kk
  by_cases o : op = 27
  · subst o
    have X : xin k i = (.lmul, 1) := by unfold xin; rw [hi]; rfl
    rw [X] at dd nn
    have nn : pcAt k (i + 1) = pcAt k i + 1 := nn
    rw [nn] at kk
    match st, hp with
    | .long y :: .long x :: st, hp =>
      have hp : some (.long (x * y) :: st) = some st' := hp
      cases hp
      exact lv_lmul hx hb dd kk
  by_cases o : op = 28
  · subst o
    have X : xin k i = (.ldiv, 1) := by unfold xin; rw [hi]; rfl
    rw [X] at dd nn
    have nn : pcAt k (i + 1) = pcAt k i + 1 := nn
    rw [nn] at kk
    match st, hp with
    | .long y :: .long x :: st, hp =>
      have hp : (if y = 0 then none else some (.long (x / y) :: st)) = some st' := hp
      by_cases hy : y = 0
      · rw [if_pos hy] at hp; cases hp
      · rw [if_neg hy] at hp
        cases hp
        exact lv_ldiv hx hb dd hy kk
  by_cases o : op = 29
  · subst o
    have X : xin k i = (.land, 1) := by unfold xin; rw [hi]; rfl
    rw [X] at dd nn
    have nn : pcAt k (i + 1) = pcAt k i + 1 := nn
    rw [nn] at kk
    match st, hp with
    | .long y :: .long x :: st, hp =>
      have hp : some (.long (x &&& y) :: st) = some st' := hp
      cases hp
      exact lv_land hx hb dd kk
  by_cases o : op = 30
  · subst o
    have X : xin k i = (.lor, 1) := by unfold xin; rw [hi]; rfl
    rw [X] at dd nn
    have nn : pcAt k (i + 1) = pcAt k i + 1 := nn
    rw [nn] at kk
    match st, hp with
    | .long y :: .long x :: st, hp =>
      have hp : some (.long (x ||| y) :: st) = some st' := hp
      cases hp
      exact lv_lor hx hb dd kk
  by_cases o : op = 31
  · subst o
    have X : xin k i = (.lneg, 1) := by unfold xin; rw [hi]; rfl
    rw [X] at dd nn
    have nn : pcAt k (i + 1) = pcAt k i + 1 := nn
    rw [nn] at kk
    match st, hp with
    | .long x :: st, hp =>
      have hp : some (.long (-x) :: st) = some st' := hp
      cases hp
      exact lv_lneg hx hb dd kk
  by_cases o : op = 32
  · subst o
    have X : xin k i = (.lshl, 1) := by unfold xin; rw [hi]; rfl
    rw [X] at dd nn
    have nn : pcAt k (i + 1) = pcAt k i + 1 := nn
    rw [nn] at kk
    match st, hp with
    | .int y :: .long x :: st, hp =>
      have hp : some (.long (lshl x y) :: st) = some st' := hp
      cases hp
      exact lv_lshl hx hb dd rfl kk
  by_cases o : op = 33
  · subst o
    have X : xin k i = (.lcmp, 1) := by unfold xin; rw [hi]; rfl
    rw [X] at dd nn
    have nn : pcAt k (i + 1) = pcAt k i + 1 := nn
    rw [nn] at kk
    match st, hp with
    | .long y :: .long x :: st, hp =>
      have hp : some (.int (lg_cmp x y) :: st) = some st' := hp
      cases hp
      exact W.lcmp hx hb dd kk
  by_cases o : op = 35
  · subst o
    have X : xin k i = (.dup, 1) := by unfold xin; rw [hi]; rfl
    rw [X] at dd nn
    have nn : pcAt k (i + 1) = pcAt k i + 1 := nn
    rw [nn] at kk
    match st, hp with
    | v :: st, hp =>
      have hp : (if v.category = 1 then some (v :: v :: st) else none) = some st' := hp
      by_cases hv : v.category = 1
      · rw [if_pos hv] at hp
        cases hp
        exact lv_dup hx hb dd (by rw [tr_cat]; exact hv) kk
      · rw [if_neg hv] at hp; cases hp
  by_cases o : op = 36
  · subst o
    have X : xin k i = (.pop, 1) := by unfold xin; rw [hi]; rfl
    rw [X] at dd nn
    have nn : pcAt k (i + 1) = pcAt k i + 1 := nn
    rw [nn] at kk
    match st, hp with
    | v :: st, hp =>
      have hp : (if v.category = 1 then some st else none) = some st' := hp
      by_cases hv : v.category = 1
      · rw [if_pos hv] at hp
        cases hp
        exact lv_pop hx hb dd (by rw [tr_cat]; exact hv) kk
      · rw [if_neg hv] at hp; cases hp
  by_cases o : op = 37
  · subst o
    have X : xin k i = (.dup2, 1) := by unfold xin; rw [hi]; rfl
    rw [X] at dd nn
    have nn : pcAt k (i + 1) = pcAt k i + 1 := nn
    rw [nn] at kk
    match st, hp with
    | v :: u :: st, hp =>
      have hp : (if v.category = 1 ∧ u.category = 1 then some (v :: u :: v :: u :: st) else none) = some st' := hp
      by_cases hv : v.category = 1 ∧ u.category = 1
      · rw [if_pos hv] at hp
        cases hp
        exact lv_dup2_11 hx hb dd (by rw [tr_cat]; exact hv.1) (by rw [tr_cat]; exact hv.2) kk
      · rw [if_neg hv] at hp; cases hp
  exfalso
  unfold pst at hp
  rw [if_neg (by omega), if_neg (by omega)] at hp
  simp only [show ¬ op = 10 by omega, show ¬ op = 11 by omega, show ¬ op = 12 by omega, show ¬ op = 13 by omega, show ¬ op = 14 by omega, show ¬ op = 15 by omega, show ¬ op = 16 by omega, show ¬ op = 17 by omega, show ¬ op = 18 by omega, show ¬ op = 19 by omega, show ¬ op = 20 by omega, show ¬ op = 21 by omega, show ¬ op = 22 by omega, show ¬ op = 23 by omega, show ¬ op = 24 by omega, show ¬ op = 25 by omega, show ¬ op = 26 by omega, show ¬ op = 27 by omega, show ¬ op = 28 by omega, show ¬ op = 29 by omega, show ¬ op = 30 by omega, show ¬ op = 31 by omega, show ¬ op = 32 by omega, show ¬ op = 33 by omega, show ¬ op = 35 by omega, show ¬ op = 36 by omega, show ¬ op = 37 by omega, if_false] at hp
  cases hp
theorem S_ld {v : Value} (hi : ins k i = (op, a, b, c0)) (h1 : ¬ op < 50) (h2 : op < 60) (ck : ckI k i = true) (C : Cx M k d p Rm s m args meth c) (hl : lvr M ls rls (mL k)) (hp : ldv op b ls = some v) (kk : W p l e Rm s m args below meth c H locs cells slots Q (F0 m (pcAt k (i + 1)) rls ((v :: st).map (tr M)))) : W p l e Rm s m args below meth c H locs cells slots Q (F0 m (pcAt k i) rls (st.map (tr M))) := by
  obtain ⟨hx, hb, hml, hown, hts, hr, hlk, hnm, hE, hfr, hlo⟩ := C
  have dd := ck_d ck
  have nn := ck_n ck
  have ww := ck_w ck
  unfold ldv at hp
  cases hg : lget ls b with
  | none => rw [hg] at hp; cases hp
  | some u =>
    rw [hg] at hp
    have hg := hl.get hg
    by_cases o : op = 50
    · subst o
      have X : xin k i = (.iload_n (Fin.ofNat 4 b), 1) := by unfold xin; rw [hi]; rfl
      rw [X] at dd nn
      have nn : pcAt k (i + 1) = pcAt k i + 1 := nn
      rw [nn] at kk
      match u, hp, hg with
      | .int x, hp, hg =>
        have hp : some (Value.int x) = some v := hp
        cases hp
        have ww : decide (b < 4) = true := by unfold wok at ww; rw [hi] at ww; exact ww
        exact lv_iload_n hx hb dd (Nat.mod_eq_of_lt (of_decide_eq_true ww)) hg kk
    by_cases o : op = 51
    · subst o
      have X : xin k i = (.iload b, 2) := by unfold xin; rw [hi]; rfl
      rw [X] at dd nn
      have nn : pcAt k (i + 1) = pcAt k i + 2 := nn
      rw [nn] at kk
      match u, hp, hg with
      | .int x, hp, hg =>
        have hp : some (Value.int x) = some v := hp
        cases hp
        exact lv_iload hx hb dd hg kk
    by_cases o : op = 52
    · subst o
      have X : xin k i = (.lload_n (Fin.ofNat 4 b), 1) := by unfold xin; rw [hi]; rfl
      rw [X] at dd nn
      have nn : pcAt k (i + 1) = pcAt k i + 1 := nn
      rw [nn] at kk
      match u, hp, hg with
      | .long x, hp, hg =>
        have hp : some (Value.long x) = some v := hp
        cases hp
        have ww : decide (b < 4) = true := by unfold wok at ww; rw [hi] at ww; exact ww
        exact lv_lload_n hx hb dd (Nat.mod_eq_of_lt (of_decide_eq_true ww)) hg kk
    by_cases o : op = 53
    · subst o
      have X : xin k i = (.lload b, 2) := by unfold xin; rw [hi]; rfl
      rw [X] at dd nn
      have nn : pcAt k (i + 1) = pcAt k i + 2 := nn
      rw [nn] at kk
      match u, hp, hg with
      | .long x, hp, hg =>
        have hp : some (Value.long x) = some v := hp
        cases hp
        exact lv_lload hx hb dd hg kk
    by_cases o : op = 54
    · subst o
      have X : xin k i = (.aload_n (Fin.ofNat 4 b), 1) := by unfold xin; rw [hi]; rfl
      rw [X] at dd nn
      have nn : pcAt k (i + 1) = pcAt k i + 1 := nn
      rw [nn] at kk
      match u, hp, hg with
      | .ref x, hp, hg =>
        have hp : some (Value.ref x) = some v := hp
        cases hp
        have ww : decide (b < 4) = true := by unfold wok at ww; rw [hi] at ww; exact ww
        exact lv_aload_n hx hb dd (Nat.mod_eq_of_lt (of_decide_eq_true ww)) hg kk
    by_cases o : op = 55
    · subst o
      have X : xin k i = (.aload b, 2) := by unfold xin; rw [hi]; rfl
      rw [X] at dd nn
      have nn : pcAt k (i + 1) = pcAt k i + 2 := nn
      rw [nn] at kk
      match u, hp, hg with
      | .ref x, hp, hg =>
        have hp : some (Value.ref x) = some v := hp
        cases hp
        exact lv_aload hx hb dd hg kk
    exfalso
    have := ck_v hi ck
    omega
theorem S_st (hi : ins k i = (op, a, b, c0)) (h1 : ¬ op < 60) (h2 : op < 66) (ck : ckI k i = true) (C : Cx M k d p Rm s m args meth c) (hl : lvr M ls rls (mL k)) (hp : stv op b ls st = some (ls', st')) (kk : ∀ rls' : Array Slot, lvr M ls' rls' (mL k) → W p l e Rm s m args below meth c H locs cells slots Q (F0 m (pcAt k (i + 1)) rls' (st'.map (tr M)))) : W p l e Rm s m args below meth c H locs cells slots Q (F0 m (pcAt k i) rls (st.map (tr M))) := by
  obtain ⟨hx, hb, hml, hown, hts, hr, hlk, hnm, hE, hfr, hlo⟩ := C
  have dd := ck_d ck
  have nn := ck_n ck
  have ww := ck_w ck
  by_cases o : op = 60
  · subst o
    have X : xin k i = (.istore_n (Fin.ofNat 4 b), 1) := by unfold xin; rw [hi]; rfl
    rw [X] at dd nn
    have nn : pcAt k (i + 1) = pcAt k i + 1 := nn
    rw [nn] at kk
    match st, hp with
    | .int x :: st, hp =>
      have hp : (st1 ls b (.int x)).map (fun z => (z, st)) = some (ls', st') := hp
      cases hz : st1 ls b (.int x) with
      | none => rw [hz] at hp; cases hp
      | some z =>
        rw [hz] at hp
        cases hp
        have ww : decide (b < 4) = true := by unfold wok at ww; rw [hi] at ww; exact ww
        have hbl : b < mL k := by
          rw [← hl.2]
          unfold st1 at hz
          by_cases q : b < ls.length
          · exact q
          · rw [if_neg q] at hz; cases hz
        exact lv_istore_n (x := x) hx hb dd (Nat.mod_eq_of_lt (of_decide_eq_true ww)) hl.1 hbl rfl (fun rls' h' => kk rls' (lvr_st1 hl hz h'))
  by_cases o : op = 61
  · subst o
    have X : xin k i = (.istore b, 2) := by unfold xin; rw [hi]; rfl
    rw [X] at dd nn
    have nn : pcAt k (i + 1) = pcAt k i + 2 := nn
    rw [nn] at kk
    match st, hp with
    | .int x :: st, hp =>
      have hp : (st1 ls b (.int x)).map (fun z => (z, st)) = some (ls', st') := hp
      cases hz : st1 ls b (.int x) with
      | none => rw [hz] at hp; cases hp
      | some z =>
        rw [hz] at hp
        cases hp
        have hbl : b < mL k := by
          rw [← hl.2]
          unfold st1 at hz
          by_cases q : b < ls.length
          · exact q
          · rw [if_neg q] at hz; cases hz
        exact lv_istore (x := x) hx hb dd hl.1 hbl rfl (fun rls' h' => kk rls' (lvr_st1 hl hz h'))
  by_cases o : op = 62
  · subst o
    have X : xin k i = (.lstore_n (Fin.ofNat 4 b), 1) := by unfold xin; rw [hi]; rfl
    rw [X] at dd nn
    have nn : pcAt k (i + 1) = pcAt k i + 1 := nn
    rw [nn] at kk
    match st, hp with
    | .long x :: st, hp =>
      have hp : (st2 ls b (.long x)).map (fun z => (z, st)) = some (ls', st') := hp
      cases hz : st2 ls b (.long x) with
      | none => rw [hz] at hp; cases hp
      | some z =>
        rw [hz] at hp
        cases hp
        have ww : decide (b < 4) = true := by unfold wok at ww; rw [hi] at ww; exact ww
        have hbl : b + 1 < mL k := by
          rw [← hl.2]
          unfold st2 at hz
          by_cases q : b + 1 < ls.length
          · exact q
          · rw [if_neg q] at hz; cases hz
        exact lv_lstore_n (x := x) hx hb dd (Nat.mod_eq_of_lt (of_decide_eq_true ww)) hl.1 hbl rfl (fun rls' h' => kk rls' (lvr_st2 hl hz h'))
  by_cases o : op = 63
  · subst o
    have X : xin k i = (.lstore b, 2) := by unfold xin; rw [hi]; rfl
    rw [X] at dd nn
    have nn : pcAt k (i + 1) = pcAt k i + 2 := nn
    rw [nn] at kk
    match st, hp with
    | .long x :: st, hp =>
      have hp : (st2 ls b (.long x)).map (fun z => (z, st)) = some (ls', st') := hp
      cases hz : st2 ls b (.long x) with
      | none => rw [hz] at hp; cases hp
      | some z =>
        rw [hz] at hp
        cases hp
        have hbl : b + 1 < mL k := by
          rw [← hl.2]
          unfold st2 at hz
          by_cases q : b + 1 < ls.length
          · exact q
          · rw [if_neg q] at hz; cases hz
        exact lv_lstore (x := x) hx hb dd hl.1 hbl rfl (fun rls' h' => kk rls' (lvr_st2 hl hz h'))
  by_cases o : op = 64
  · subst o
    have X : xin k i = (.astore_n (Fin.ofNat 4 b), 1) := by unfold xin; rw [hi]; rfl
    rw [X] at dd nn
    have nn : pcAt k (i + 1) = pcAt k i + 1 := nn
    rw [nn] at kk
    match st, hp with
    | .ref x :: st, hp =>
      have hp : (st1 ls b (.ref x)).map (fun z => (z, st)) = some (ls', st') := hp
      cases hz : st1 ls b (.ref x) with
      | none => rw [hz] at hp; cases hp
      | some z =>
        rw [hz] at hp
        cases hp
        have ww : decide (b < 4) = true := by unfold wok at ww; rw [hi] at ww; exact ww
        have hbl : b < mL k := by
          rw [← hl.2]
          unfold st1 at hz
          by_cases q : b < ls.length
          · exact q
          · rw [if_neg q] at hz; cases hz
        exact lv_astore_n (x := ad M x) hx hb dd (Nat.mod_eq_of_lt (of_decide_eq_true ww)) hl.1 hbl rfl (fun rls' h' => kk rls' (lvr_st1 hl hz h'))
  by_cases o : op = 65
  · subst o
    have X : xin k i = (.astore b, 2) := by unfold xin; rw [hi]; rfl
    rw [X] at dd nn
    have nn : pcAt k (i + 1) = pcAt k i + 2 := nn
    rw [nn] at kk
    match st, hp with
    | .ref x :: st, hp =>
      have hp : (st1 ls b (.ref x)).map (fun z => (z, st)) = some (ls', st') := hp
      cases hz : st1 ls b (.ref x) with
      | none => rw [hz] at hp; cases hp
      | some z =>
        rw [hz] at hp
        cases hp
        have hbl : b < mL k := by
          rw [← hl.2]
          unfold st1 at hz
          by_cases q : b < ls.length
          · exact q
          · rw [if_neg q] at hz; cases hz
        exact lv_astore (x := ad M x) hx hb dd hl.1 hbl rfl (fun rls' h' => kk rls' (lvr_st1 hl hz h'))
  exfalso
  have := ck_v hi ck
  omega
theorem S_inc {x : Int32} (hi : ins k i = (66, a, b, c0)) (ck : ckI k i = true) (C : Cx M k d p Rm s m args meth c) (hl : lvr M ls rls (mL k)) (hg : lget ls b = some (.int x)) (hz : st1 ls b (.int (x + a)) = some ls') (kk : ∀ rls' : Array Slot, lvr M ls' rls' (mL k) → W p l e Rm s m args below meth c H locs cells slots Q (F0 m (pcAt k (i + 1)) rls' (st.map (tr M)))) : W p l e Rm s m args below meth c H locs cells slots Q (F0 m (pcAt k i) rls (st.map (tr M))) := by
  obtain ⟨hx, hb, hml, hown, hts, hr, hlk, hnm, hE, hfr, hlo⟩ := C
  have dd := ck_d ck
  have nn := ck_n ck
  have ww := ck_w ck
  have X : xin k i = (.iinc b a.toInt, 3) := by unfold xin; rw [hi]; rfl
  rw [X] at dd nn
  have nn : pcAt k (i + 1) = pcAt k i + 3 := nn
  rw [nn] at kk
  have hbl : b < mL k := by
    rw [← hl.2]
    unfold st1 at hz
    by_cases q : b < ls.length
    · exact q
    · rw [if_neg q] at hz; cases hz
  obtain ⟨q, hq⟩ := List.getElem?_of_mem ((lpr_mem (M := M) ls 0 b _).mpr ⟨b, _, by omega, hg, rfl⟩)
  exact lv_iinc (v := x + a) hx hb dd hl.1 hq (by rw [Int32.ofInt_toInt]) hbl rfl (fun rls' h' => kk rls' (lvr_st1 hl hz h'))
theorem S_br {t : Bool} (hi : ins k i = (op, a, b, c0)) (h1 : 66 < op) (h2 : op < 82) (ck : ckI k i = true) (C : Cx M k d p Rm s m args meth c) (hp : brc op st = some (t, st')) (kk : W p l e Rm s m args below meth c H locs cells slots Q (F0 m (pcAt k (if t then b else i + 1)) rls (st'.map (tr M)))) : W p l e Rm s m args below meth c H locs cells slots Q (F0 m (pcAt k i) rls (st.map (tr M))) := by
  obtain ⟨hx, hb, hml, hown, hts, hr, hlk, hnm, hE, hfr, hlo⟩ := C
  have dd := ck_d ck
  have nn := ck_n ck
  have ww := ck_w ck
  have ht : ∀ t : Nat, (pcAt k i : Int) + ((pcAt k t : Int) - (pcAt k i : Int)) = (pcAt k t : Int) := fun t => by omega
  by_cases o : op = 70
  · subst o
    have X : xin k i = (.ifCond .eq ((pcAt k b : Int) - (pcAt k i : Int)), 3) := by unfold xin; rw [hi]; rfl
    rw [X] at dd nn
    have nn : pcAt k (i + 1) = pcAt k i + 3 := nn
    match st, hp with
    | .int x :: st, hp =>
      have hp : some (decide (x = 0), st) = some (t, st') := hp
      cases hp
      refine lv_if_eq hx hb dd (ht b) (fun q => ?_) (fun q => ?_)
      · rw [if_pos (decide_eq_true q)] at kk; exact kk
      · rw [if_neg (by rw [decide_eq_true_eq]; exact q), nn] at kk; exact kk
  by_cases o : op = 76
  · subst o
    have X : xin k i = (.if_icmp .eq ((pcAt k b : Int) - (pcAt k i : Int)), 3) := by unfold xin; rw [hi]; rfl
    rw [X] at dd nn
    have nn : pcAt k (i + 1) = pcAt k i + 3 := nn
    match st, hp with
    | .int y :: .int x :: st, hp =>
      have hp : some (decide (x = y), st) = some (t, st') := hp
      cases hp
      refine lv_icmp_eq hx hb dd (ht b) (fun q => ?_) (fun q => ?_)
      · rw [if_pos (decide_eq_true q)] at kk; exact kk
      · rw [if_neg (by rw [decide_eq_true_eq]; exact q), nn] at kk; exact kk
  by_cases o : op = 71
  · subst o
    have X : xin k i = (.ifCond .ne ((pcAt k b : Int) - (pcAt k i : Int)), 3) := by unfold xin; rw [hi]; rfl
    rw [X] at dd nn
    have nn : pcAt k (i + 1) = pcAt k i + 3 := nn
    match st, hp with
    | .int x :: st, hp =>
      have hp : some (decide (x ≠ 0), st) = some (t, st') := hp
      cases hp
      refine lv_if_ne hx hb dd (ht b) (fun q => ?_) (fun q => ?_)
      · rw [if_pos (decide_eq_true q)] at kk; exact kk
      · rw [if_neg (by rw [decide_eq_true_eq]; exact fun z => z q), nn] at kk; exact kk
  by_cases o : op = 77
  · subst o
    have X : xin k i = (.if_icmp .ne ((pcAt k b : Int) - (pcAt k i : Int)), 3) := by unfold xin; rw [hi]; rfl
    rw [X] at dd nn
    have nn : pcAt k (i + 1) = pcAt k i + 3 := nn
    match st, hp with
    | .int y :: .int x :: st, hp =>
      have hp : some (decide (x ≠ y), st) = some (t, st') := hp
      cases hp
      refine lv_icmp_ne hx hb dd (ht b) (fun q => ?_) (fun q => ?_)
      · rw [if_pos (decide_eq_true q)] at kk; exact kk
      · rw [if_neg (by rw [decide_eq_true_eq]; exact fun z => z q), nn] at kk; exact kk
  by_cases o : op = 72
  · subst o
    have X : xin k i = (.ifCond .lt ((pcAt k b : Int) - (pcAt k i : Int)), 3) := by unfold xin; rw [hi]; rfl
    rw [X] at dd nn
    have nn : pcAt k (i + 1) = pcAt k i + 3 := nn
    match st, hp with
    | .int x :: st, hp =>
      have hp : some (decide (x < 0), st) = some (t, st') := hp
      cases hp
      refine lv_if_lt hx hb dd (ht b) (fun q => ?_) (fun q => ?_)
      · rw [if_pos (decide_eq_true q)] at kk; exact kk
      · rw [if_neg (by rw [decide_eq_true_eq]; exact q), nn] at kk; exact kk
  by_cases o : op = 78
  · subst o
    have X : xin k i = (.if_icmp .lt ((pcAt k b : Int) - (pcAt k i : Int)), 3) := by unfold xin; rw [hi]; rfl
    rw [X] at dd nn
    have nn : pcAt k (i + 1) = pcAt k i + 3 := nn
    match st, hp with
    | .int y :: .int x :: st, hp =>
      have hp : some (decide (x < y), st) = some (t, st') := hp
      cases hp
      refine lv_icmp_lt hx hb dd (ht b) (fun q => ?_) (fun q => ?_)
      · rw [if_pos (decide_eq_true q)] at kk; exact kk
      · rw [if_neg (by rw [decide_eq_true_eq]; exact q), nn] at kk; exact kk
  by_cases o : op = 73
  · subst o
    have X : xin k i = (.ifCond .ge ((pcAt k b : Int) - (pcAt k i : Int)), 3) := by unfold xin; rw [hi]; rfl
    rw [X] at dd nn
    have nn : pcAt k (i + 1) = pcAt k i + 3 := nn
    match st, hp with
    | .int x :: st, hp =>
      have hp : some (decide (0 ≤ x), st) = some (t, st') := hp
      cases hp
      refine lv_if_ge hx hb dd (ht b) (fun q => ?_) (fun q => ?_)
      · rw [if_pos (decide_eq_true q)] at kk; exact kk
      · rw [if_neg (by rw [decide_eq_true_eq]; exact q), nn] at kk; exact kk
  by_cases o : op = 79
  · subst o
    have X : xin k i = (.if_icmp .ge ((pcAt k b : Int) - (pcAt k i : Int)), 3) := by unfold xin; rw [hi]; rfl
    rw [X] at dd nn
    have nn : pcAt k (i + 1) = pcAt k i + 3 := nn
    match st, hp with
    | .int y :: .int x :: st, hp =>
      have hp : some (decide (y ≤ x), st) = some (t, st') := hp
      cases hp
      refine lv_icmp_ge hx hb dd (ht b) (fun q => ?_) (fun q => ?_)
      · rw [if_pos (decide_eq_true q)] at kk; exact kk
      · rw [if_neg (by rw [decide_eq_true_eq]; exact q), nn] at kk; exact kk
  by_cases o : op = 74
  · subst o
    have X : xin k i = (.ifCond .gt ((pcAt k b : Int) - (pcAt k i : Int)), 3) := by unfold xin; rw [hi]; rfl
    rw [X] at dd nn
    have nn : pcAt k (i + 1) = pcAt k i + 3 := nn
    match st, hp with
    | .int x :: st, hp =>
      have hp : some (decide (0 < x), st) = some (t, st') := hp
      cases hp
      refine lv_if_gt hx hb dd (ht b) (fun q => ?_) (fun q => ?_)
      · rw [if_pos (decide_eq_true q)] at kk; exact kk
      · rw [if_neg (by rw [decide_eq_true_eq]; exact q), nn] at kk; exact kk
  by_cases o : op = 80
  · subst o
    have X : xin k i = (.if_icmp .gt ((pcAt k b : Int) - (pcAt k i : Int)), 3) := by unfold xin; rw [hi]; rfl
    rw [X] at dd nn
    have nn : pcAt k (i + 1) = pcAt k i + 3 := nn
    match st, hp with
    | .int y :: .int x :: st, hp =>
      have hp : some (decide (y < x), st) = some (t, st') := hp
      cases hp
      refine lv_icmp_gt hx hb dd (ht b) (fun q => ?_) (fun q => ?_)
      · rw [if_pos (decide_eq_true q)] at kk; exact kk
      · rw [if_neg (by rw [decide_eq_true_eq]; exact q), nn] at kk; exact kk
  by_cases o : op = 75
  · subst o
    have X : xin k i = (.ifCond .le ((pcAt k b : Int) - (pcAt k i : Int)), 3) := by unfold xin; rw [hi]; rfl
    rw [X] at dd nn
    have nn : pcAt k (i + 1) = pcAt k i + 3 := nn
    match st, hp with
    | .int x :: st, hp =>
      have hp : some (decide (x ≤ 0), st) = some (t, st') := hp
      cases hp
      refine lv_if_le hx hb dd (ht b) (fun q => ?_) (fun q => ?_)
      · rw [if_pos (decide_eq_true q)] at kk; exact kk
      · rw [if_neg (by rw [decide_eq_true_eq]; exact q), nn] at kk; exact kk
  by_cases o : op = 81
  · subst o
    have X : xin k i = (.if_icmp .le ((pcAt k b : Int) - (pcAt k i : Int)), 3) := by unfold xin; rw [hi]; rfl
    rw [X] at dd nn
    have nn : pcAt k (i + 1) = pcAt k i + 3 := nn
    match st, hp with
    | .int y :: .int x :: st, hp =>
      have hp : some (decide (x ≤ y), st) = some (t, st') := hp
      cases hp
      refine lv_icmp_le hx hb dd (ht b) (fun q => ?_) (fun q => ?_)
      · rw [if_pos (decide_eq_true q)] at kk; exact kk
      · rw [if_neg (by rw [decide_eq_true_eq]; exact q), nn] at kk; exact kk
  exfalso
  have := ck_v hi ck
  omega
theorem S_goto (hi : ins k i = (82, a, b, c0)) (ck : ckI k i = true) (C : Cx M k d p Rm s m args meth c) (kk : W p l e Rm s m args below meth c H locs cells slots Q (F0 m (pcAt k b) rls (st.map (tr M)))) : W p l e Rm s m args below meth c H locs cells slots Q (F0 m (pcAt k i) rls (st.map (tr M))) := by
  obtain ⟨hx, hb, hml, hown, hts, hr, hlk, hnm, hE, hfr, hlo⟩ := C
  have dd := ck_d ck
  have nn := ck_n ck
  have ww := ck_w ck
  have X : xin k i = (.goto ((pcAt k b : Int) - (pcAt k i : Int)), 3) := by unfold xin; rw [hi]; rfl
  rw [X] at dd
  exact lv_goto hx hb dd (by omega) kk
theorem swf_at : ∀ (ts : List Nat) (lo x : Int32) (dd : Nat), (x.toInt < lo.toInt ∨ lo.toInt + (ts.length : Int) - 1 < x.toInt) → lo.toInt + (ts.length : Int) < 2 ^ 31 → swf x lo ts dd = dd
  | [], _, _, _, _, _ => rfl
  | t :: ts, lo, x, dd, h, hb => by
    have hl : ((t :: ts).length : Int) = (ts.length : Int) + 1 := by simp
    rw [hl] at h hb
    have hlo : (lo + 1).toInt = lo.toInt + 1 := by
      rw [Int32.toInt_add]
      have h1 := Int32.le_toInt lo
      have h2 : (0 : Int) ≤ ts.length := by omega
      have h3 : Int32.toInt 1 = 1 := rfl
      rw [h3]
      apply Int.bmod_eq_of_le <;> omega
    show (if x = lo then t else swf x (lo + 1) ts dd) = dd
    rw [if_neg (fun z => by subst z; omega)]
    exact swf_at ts (lo + 1) x dd (by rw [hlo]; omega) (by rw [hlo]; omega)
theorem swf_in : ∀ (ts : List Nat) (lo x : Int32) (dd : Nat), ¬ x.toInt < lo.toInt → ¬ lo.toInt + (ts.length : Int) - 1 < x.toInt → lo.toInt + (ts.length : Int) < 2 ^ 31 → ts[(x.toInt - lo.toInt).toNat]? = some (swf x lo ts dd)
  | [], lo, x, dd, h1, h2, _ => by simp at h2; omega
  | t :: ts, lo, x, dd, h1, h2, hb => by
    have hl : ((t :: ts).length : Int) = (ts.length : Int) + 1 := by simp
    rw [hl] at h2 hb
    have hlo : (lo + 1).toInt = lo.toInt + 1 := by
      rw [Int32.toInt_add]
      have h1 := Int32.le_toInt lo
      have h3 : Int32.toInt 1 = 1 := rfl
      rw [h3]
      apply Int.bmod_eq_of_le <;> omega
    show (t :: ts)[(x.toInt - lo.toInt).toNat]? = some (if x = lo then t else swf x (lo + 1) ts dd)
    by_cases q : x = lo
    · subst q
      rw [if_pos rfl]
      have : (x.toInt - x.toInt).toNat = 0 := by omega
      rw [this]; rfl
    · rw [if_neg q]
      have hne : x.toInt ≠ lo.toInt := fun z => q (Int32.toInt_inj.mp z)
      have := swf_in ts (lo + 1) x dd (by rw [hlo]; omega) (by rw [hlo]; omega) (by rw [hlo]; omega)
      rw [hlo] at this
      have e : (x.toInt - lo.toInt).toNat = (x.toInt - (lo.toInt + 1)).toNat + 1 := by omega
      rw [e, List.getElem?_cons_succ]
      exact this
theorem S_sw {x : Int32} (hi : ins k i = (83, a, b, c0)) (hbd : a.toInt + ((swt b).length : Int) < 2 ^ 31) (ck : ckI k i = true) (C : Cx M k d p Rm s m args meth c) (kk : W p l e Rm s m args below meth c H locs cells slots Q (F0 m (pcAt k (swf x a (swt b) c0)) rls (st.map (tr M)))) : W p l e Rm s m args below meth c H locs cells slots Q (F0 m (pcAt k i) rls ((.int x :: st).map (tr M))) := by
  obtain ⟨hx, hb, hml, hown, hts, hr, hlk, hnm, hE, hfr, hlo⟩ := C
  have dd := ck_d ck
  have nn := ck_n ck
  have ww := ck_w ck
  have ht : ∀ t : Nat, (pcAt k i : Int) + ((pcAt k t : Int) - (pcAt k i : Int)) = (pcAt k t : Int) := fun t => by omega
  have X : xin k i = (.tableswitch ((pcAt k c0 : Int) - (pcAt k i : Int)) a.toInt (a.toInt + (swt b).length - 1) ((swt b).map fun t => (pcAt k t : Int) - (pcAt k i : Int)).toArray, pcAt k (i + 1) - pcAt k i) := by unfold xin; rw [hi]; rfl
  rw [X] at dd
  by_cases q : x.toInt < a.toInt ∨ a.toInt + ((swt b).length : Int) - 1 < x.toInt
  · rw [swf_at _ _ _ _ q hbd] at kk
    exact lv_tableOut hx hb dd q (ht c0) kk
  · have q1 : ¬ x.toInt < a.toInt := fun z => q (Or.inl z)
    have q2 : ¬ a.toInt + ((swt b).length : Int) - 1 < x.toInt := fun z => q (Or.inr z)
    have := swf_in (swt b) a x c0 q1 q2 hbd
    exact lv_tableIn hx hb dd q1 q2 (off := (pcAt k (swf x a (swt b) c0) : Int) - (pcAt k i : Int)) (by rw [List.getElem?_toArray, List.getElem?_map, this]; rfl) (ht _) kk
end SG1
