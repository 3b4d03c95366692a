/-! ===== the reference's evaluator: one operation ===== -/
section
variable {N : Nat} {x2 x3 : Int32} {pos : Nat} {h : Hp} {nm : Nat → Int} {p' : Nat × Nat}
theorem b2I_and (b : Bool) : b2I b &&& 1 = b2I b := by cases b <;> decide
theorem b2I_0 (b : Bool) : b2I b = 0 ↔ b = false := by cases b <;> decide
theorem i187 (o : Nat) (ho : 18 ≤ o ∧ o ≤ 23) (x y : Int64) : f187 (nI (o - 8)) x y = b2I (if o = 18 then decide (x.toInt < y.toInt) else if o = 19 then decide (x.toInt ≤ y.toInt) else if o = 20 then decide (y.toInt < x.toInt) else if o = 21 then decide (y.toInt ≤ x.toInt) else if o = 22 then decide (x.toInt = y.toInt) else decide (¬ x.toInt = y.toInt)) := by
  have two : ∀ {c : Prop} [Decidable c] {p : Prop} [Decidable p], (c ↔ ¬ p) → (if c then (0 : Int32) else 1) = b2I (decide p) := fun {c} _ {p} _ hcp => by
    by_cases k : c
    · rw [if_pos k, decide_eq_false (hcp.1 k)]; rfl
    · have hp : p := Classical.byContradiction (fun z => k (hcp.2 z))
      rw [if_neg k, decide_eq_true hp]; rfl
  have oc : o = 18 ∨ o = 19 ∨ o = 20 ∨ o = 21 ∨ o = 22 ∨ o = 23 := by omega
  rcases oc with rfl | rfl | rfl | rfl | rfl | rfl
  · show f187 (nI 10) x y = b2I (decide (x.toInt < y.toInt))
    unfold f187
    rw [if_pos (show nI 10 = 10 from rfl)]
    exact two (by rw [lc_0le]; omega)
  · show f187 (nI 11) x y = b2I (decide (x.toInt ≤ y.toInt))
    unfold f187
    rw [if_neg (show ¬ nI 11 = (10 : Int32) by decide), if_pos (show nI 11 = 11 from rfl)]
    exact two (by rw [lc_0lt]; omega)
  · show f187 (nI 12) x y = b2I (decide (y.toInt < x.toInt))
    unfold f187
    rw [if_neg (show ¬ nI 12 = (10 : Int32) by decide), if_neg (show ¬ nI 12 = (11 : Int32) by decide), if_pos (show nI 12 = 12 from rfl)]
    exact two (by rw [lc_le0]; omega)
  · show f187 (nI 13) x y = b2I (decide (y.toInt ≤ x.toInt))
    unfold f187
    rw [if_neg (show ¬ nI 13 = (10 : Int32) by decide), if_neg (show ¬ nI 13 = (11 : Int32) by decide), if_neg (show ¬ nI 13 = (12 : Int32) by decide), if_pos (show nI 13 = 13 from rfl)]
    exact two (by rw [lc_lt0]; omega)
  · show f187 (nI 14) x y = b2I (decide (x.toInt = y.toInt))
    unfold f187
    rw [if_neg (show ¬ nI 14 = (10 : Int32) by decide), if_neg (show ¬ nI 14 = (11 : Int32) by decide), if_neg (show ¬ nI 14 = (12 : Int32) by decide), if_neg (show ¬ nI 14 = (13 : Int32) by decide), if_pos (show nI 14 = 14 from rfl)]
    by_cases k : x.toInt = y.toInt
    · rw [if_pos (lc_0.2 k), decide_eq_true k]; rfl
    · rw [if_neg (fun z => k (lc_0.1 z)), decide_eq_false k]; rfl
  · show f187 (nI 15) x y = b2I (decide (¬ x.toInt = y.toInt))
    unfold f187
    rw [if_neg (show ¬ nI 15 = (10 : Int32) by decide), if_neg (show ¬ nI 15 = (11 : Int32) by decide), if_neg (show ¬ nI 15 = (12 : Int32) by decide), if_neg (show ¬ nI 15 = (13 : Int32) by decide), if_neg (show ¬ nI 15 = (14 : Int32) by decide)]
    exact two (by rw [lc_0]; exact ⟨fun h z => z h, fun h => Classical.byContradiction h⟩)
theorem m_ari {o : Nat} (ho : 14 ≤ o ∧ o ≤ 17) {x y : Int64} (x0 : -1000000 ≤ x.toInt ∧ x.toInt ≤ 1000000) (y0 : -1000000 ≤ y.toInt ∧ y.toInt ≤ 1000000) : Wp (f186 N (nI (o - 11)) x y h) fun q => q.toInt = jn o x.toInt y.toInt := by
  obtain ⟨m0, m1⟩ := mul_bd x0.1 x0.2 y0.1 y0.2
  obtain ⟨d0, d1⟩ := tdiv_bd (y := y.toInt) x0.1 x0.2
  have z0 : (0 : Int64).toInt = 0 := rfl
  have oc : o = 14 ∨ o = 15 ∨ o = 16 ∨ o = 17 := by omega
  unfold f186
  rcases oc with rfl | rfl | rfl | rfl
  · rw [if_pos (show nI (14 - 11) = 3 from rfl), Wp_some, clip_t, tl_add (by omega) (by omega), jn_14]
  · rw [if_neg (by decide), if_pos (show nI (15 - 11) = 4 from rfl), Wp_some, clip_t, tl_sub (by omega) (by omega), jn_15]
  · rw [if_neg (by decide), if_neg (by decide), if_pos (show nI (16 - 11) = 5 from rfl), Wp_some, clip_t, tl_mul (by omega) (by omega), jn_16]
  · rw [if_neg (by decide), if_neg (by decide), if_neg (by decide), jn_17]
    by_cases k : y.toInt = 0
    · rw [if_pos (lc_0.2 (by rw [k]; rfl)), if_pos k, Wp_some]; exact z0
    · rw [if_neg (fun z => k (lc_0.1 z)), if_neg k, Wp_gd, Wp_some]
      exact ⟨fun z => k (by rw [z]; rfl), by rw [clip_t, tl_div (by omega) (by omega)]⟩
theorem mod1 {o : Nat} {vs : List Int} {ts : List Bool} (ho : o ≤ 10099) (hnm : o < 8 → (hI h 6 o).toInt = nm o ∧ -1000000 ≤ nm o ∧ nm o ≤ 1000000) (hv : StL (hL h 7) vs) (hts : StB (hI h 8) ts) (hb : Bd vs) (h32 : vs.length + ts.length ≤ 32) (ht : tc1 o (vs.length, ts.length) = some p') : Wp (mstep N x2 x3 (nI vs.length) (nI ts.length) (nI pos) (nI (mo o).1) (nI (mo o).2) h) (Mp nm o (vs, ts) p' pos h) := by
  have npos : nI pos + 1 = nI (pos + 1) := nI_1 pos
  by_cases o1 : 100 ≤ o ∨ o < 8
  · have e1 : tc1 o (vs.length, ts.length) = if vs.length + ts.length < 32 then some (vs.length + 1, ts.length) else none := if_pos o1
    rw [e1] at ht
    by_cases e2 : vs.length + ts.length < 32
    · rw [if_pos e2] at ht
      have ht := (Option.some.inj ht).symm
      subst ht
      unfold mstep
      by_cases k : 100 ≤ o
      · have em : mo o = (0, o - 100) := if_pos k
        rw [em]
        refine Wp_neg (show ¬ (1 : Int32) < nI 0 by decide) (Wp_pos (show nI 0 = 0 from rfl) ?_)
        refine m_push (z := ((o - 100 : Nat) : Int)) (if_pos k) ?_ (by omega) hv hts hb e2
        rw [tl_i, ti_nI (by show o - 100 < _; omega)]
      · have em : mo o = (1, o) := by unfold mo; rw [if_neg k, if_pos (by omega)]
        rw [em]
        refine Wp_neg (show ¬ (1 : Int32) < nI 1 by decide) (Wp_neg (show ¬ nI 1 = 0 by decide) (Wp_gd.2 ⟨inb_mk (by rw [ti_nI (by show o < _; omega)]; omega) (by rw [ti_nI (by show o < _; omega)]; show (o : Int) < _; omega), ?_⟩))
        refine m_push (z := nm o) (by unfold ev1; rw [if_neg k, if_pos (by omega)]) ?_ (hnm (by omega)).2 hv hts hb e2
        rw [tl_i, ixk (by show o < _; omega)]; exact (hnm (by omega)).1
    · rw [if_neg e2] at ht; cases ht
  · by_cases o2 : o = 29
    · subst o2
      have e1 : tc1 29 (vs.length, ts.length) = if 1 ≤ vs.length then some (vs.length, ts.length) else none := rfl
      rw [e1] at ht
      cases vs with
      | nil => rw [if_neg (by decide)] at ht; cases ht
      | cons x vs =>
        rw [if_pos (by simp)] at ht
        have ht := (Option.some.inj ht).symm
        subst ht
        have ex := hb x (by simp)
        have hx : (hL h 7 vs.length).toInt = x := hv.1
        have h32' : vs.length + 1 + ts.length ≤ 32 := h32
        have em : mo 29 = (2, 0) := rfl
        rw [em]
        unfold mstep
        refine Wp_pos (show (1 : Int32) < nI 2 by decide) (Wp_pos (show nI 2 = 2 from rfl) ?_)
        have q1 : nI (x :: vs).length - 1 = nI vs.length := nI_pred _
        rw [q1, ixk (by omega)]
        unfold f188_b203 Mp
        simp only [Wp_gd, Wp_bnd, Wp_some, npos]
        refine ⟨inbk (by omega), inbk (by omega), trivial, rfl, rfl, trivial, fun c hc => rfl, ⟨?_, ?_⟩, hts, fun v hv => ?_, rfl, h32⟩
        · rw [hL_uL_eq]
          show (puL (hL h 7) vs.length _ vs.length).toInt = -x
          rw [puL_eq, tl_neg (by omega), hx]
        · rw [hL_uL_eq]; exact StL_pu _ _ (Nat.le_refl _) hv.2
        · rcases List.mem_cons.1 hv with rfl | hv
          · omega
          · exact hb v (by simp [hv])
    · by_cases o3 : o = 10
      · subst o3
        have e1 : tc1 10 (vs.length, ts.length) = if vs.length = 0 ∧ 1 ≤ ts.length then some (vs.length, ts.length) else none := rfl
        rw [e1] at ht
        cases vs with
        | cons x vs => rw [if_neg (by simp)] at ht; cases ht
        | nil =>
          cases ts with
          | nil => rw [if_neg (by simp)] at ht; cases ht
          | cons t ts =>
            rw [if_pos (by simp)] at ht
            have ht := (Option.some.inj ht).symm
            subst ht
            have h32' : 0 + (ts.length + 1) ≤ 32 := h32
            have em : mo 10 = (20, 0) := rfl
            rw [em]
            unfold mstep
            refine Wp_pos (show (1 : Int32) < nI 20 by decide) (Wp_neg (show ¬ nI 20 = 2 by decide) (Wp_pos (show (10 : Int32) ≤ nI 20 by decide) (Wp_pos (show (20 : Int32) ≤ nI 20 by decide) (Wp_pos (show nI 20 = 20 from rfl) ?_))))
            have q1 : nI (t :: ts).length - 1 = nI ts.length := nI_pred _
            have ex : hI h 8 ts.length = b2I t := hts.1
            have k160 : ∀ t0 : Int32, t0 &&& 1 = b2I (!t) → Wp (f188_b160 N x2 x3 (nI ([] : List Int).length) (nI (t :: ts).length) (nI pos) t0 (nI ts.length) h) (Mp nm 10 ([], t :: ts) (([] : List Int).length, (t :: ts).length) pos h) := fun t0 h0 => m_truth (o := 10) (b := !t) (tr := ts) rfl h0 hv hts.2 hb (by show 0 + _ ≤ 32; omega)
            rw [q1, ixk (by omega), ex]
            refine Wp_gd.2 ⟨inbk (by omega), ?_⟩
            cases t with
            | true => exact Wp_neg (by decide) (k160 0 (by decide))
            | false => exact Wp_pos (by decide) (k160 1 (by decide))
      · by_cases o4 : o = 8 ∨ o = 9
        · have e1 : tc1 o (vs.length, ts.length) = if vs.length = 0 ∧ 2 ≤ ts.length then some (0, ts.length - 1) else none := by
            unfold tc1
            rw [if_neg o1, if_neg o2, if_neg o3, if_pos o4]
          rw [e1] at ht
          by_cases e2 : vs.length = 0 ∧ 2 ≤ ts.length
          · rw [if_pos e2] at ht
            have ht := (Option.some.inj ht).symm
            obtain ⟨e3, e4⟩ := e2
            cases vs with
            | cons x vs => simp at e3
            | nil =>
              cases ts with
              | nil => simp at e4
              | cons y ts =>
                cases ts with
                | nil => simp at e4
                | cons x ts =>
                  subst ht
                  have h32' : 0 + (ts.length + 1 + 1) ≤ 32 := h32
                  have q1 : nI (y :: x :: ts).length + -1 = nI (ts.length + 1) := pk_m1 _
                  have q2 : nI (ts.length + 1) - 1 = nI ts.length := nI_pred _
                  have ey : hI h 8 (ts.length + 1) = b2I y := hts.1
                  have ex : hI h 8 ts.length = b2I x := hts.2.1
                  rcases o4 with rfl | rfl
                  · have em : mo 8 = (21, 0) := rfl
                    have fin : ∀ t0 : Int32, t0 &&& 1 = b2I (x && y) → Wp (f188_b202 N x2 x3 (nI ([] : List Int).length) (nI (ts.length + 1)) (nI pos) t0 (nI ts.length) h) (Mp nm 8 ([], y :: x :: ts) (0, (y :: x :: ts).length - 1) pos h) := fun t0 h0 => m_truth (o := 8) (b := x && y) (tr := ts) rfl h0 hv hts.2.2 hb (by show 0 + _ ≤ 32; omega)
                    rw [em]
                    unfold mstep f188_b185
                    refine Wp_pos (show (1 : Int32) < nI 21 by decide) (Wp_neg (show ¬ nI 21 = 2 by decide) (Wp_pos (show (10 : Int32) ≤ nI 21 by decide) (Wp_pos (show (20 : Int32) ≤ nI 21 by decide) (Wp_neg (show ¬ nI 21 = 20 by decide) ?_))))
                    rw [Wp_bnd, q1, q2, ixk (by omega), ixk (by omega), ex, ey]
                    refine Wp_pos (show nI 21 = 21 from rfl) (Wp_gd.2 ⟨inbk (by omega), ?_⟩)
                    cases x with
                    | false => exact Wp_pos (by decide) (fin 0 rfl)
                    | true =>
                      refine Wp_neg (by decide) (Wp_gd.2 ⟨inbk (by omega), ?_⟩)
                      cases y with
                      | false => exact Wp_pos (by decide) (fin 0 (by decide))
                      | true => exact Wp_neg (by decide) (fin 1 (by decide))
                  · have em : mo 9 = (22, 0) := rfl
                    have fin : ∀ t0 : Int32, t0 &&& 1 = b2I (x || y) → Wp (f188_b202 N x2 x3 (nI ([] : List Int).length) (nI (ts.length + 1)) (nI pos) t0 (nI ts.length) h) (Mp nm 9 ([], y :: x :: ts) (0, (y :: x :: ts).length - 1) pos h) := fun t0 h0 => m_truth (o := 9) (b := x || y) (tr := ts) rfl h0 hv hts.2.2 hb (by show 0 + _ ≤ 32; omega)
                    rw [em]
                    unfold mstep f188_b199
                    refine Wp_pos (show (1 : Int32) < nI 22 by decide) (Wp_neg (show ¬ nI 22 = 2 by decide) (Wp_pos (show (10 : Int32) ≤ nI 22 by decide) (Wp_pos (show (20 : Int32) ≤ nI 22 by decide) (Wp_neg (show ¬ nI 22 = 20 by decide) ?_))))
                    rw [Wp_bnd, q1, q2, ixk (by omega), ixk (by omega), ex, ey]
                    refine Wp_neg (show ¬ nI 22 = 21 by decide) (Wp_gd.2 ⟨inbk (by omega), ?_⟩)
                    cases x with
                    | true => exact Wp_neg (by decide) (fin 1 rfl)
                    | false =>
                      refine Wp_pos (by decide) (Wp_gd.2 ⟨inbk (by omega), ?_⟩)
                      cases y with
                      | false => exact Wp_pos (by decide) (fin 0 (by decide))
                      | true => exact Wp_neg (by decide) (fin 1 (by decide))
          · rw [if_neg e2] at ht; cases ht
        · by_cases o5 : 14 ≤ o ∧ o ≤ 17
          · have e1 : tc1 o (vs.length, ts.length) = if 2 ≤ vs.length then some (vs.length - 1, ts.length) else none := by
              unfold tc1
              rw [if_neg o1, if_neg o2, if_neg o3, if_neg o4, if_pos o5]
            rw [e1] at ht
            by_cases e2 : 2 ≤ vs.length
            · rw [if_pos e2] at ht
              have ht := (Option.some.inj ht).symm
              cases vs with
              | nil => simp at e2
              | cons y vs =>
                cases vs with
                | nil => simp at e2
                | cons x vs =>
                  subst ht
                  have bx := hb x (by simp)
                  have bY := hb y (by simp)
                  have h32' : vs.length + 1 + 1 + ts.length ≤ 32 := h32
                  have hy : (hL h 7 (vs.length + 1)).toInt = y := hv.1
                  have hx : (hL h 7 vs.length).toInt = x := hv.2.1
                  have q1 : nI (y :: x :: vs).length + -1 = nI (vs.length + 1) := pk_m1 _
                  have q2 : nI (vs.length + 1) - 1 = nI vs.length := nI_pred _
                  have em : (mo o).1 = o - 11 := by
                    have oc : o = 14 ∨ o = 15 ∨ o = 16 ∨ o = 17 := by omega
                    rcases oc with rfl | rfl | rfl | rfl <;> rfl
                  have ee : ev1 nm o (y :: x :: vs, ts) = (jn o x y :: vs, ts) := by
                    have oc : o = 14 ∨ o = 15 ∨ o = 16 ∨ o = 17 := by omega
                    rcases oc with rfl | rfl | rfl | rfl
                    · rw [jn_14]; rfl
                    · rw [jn_15]; rfl
                    · rw [jn_16]; rfl
                    · rw [jn_17]; rfl
                  have jb : -1000000 ≤ jn o x y ∧ jn o x y ≤ 1000000 := by
                    have oc : o = 14 ∨ o = 15 ∨ o = 16 ∨ o = 17 := by omega
                    rcases oc with rfl | rfl | rfl | rfl
                    · rw [jn_14]; exact clp_bd _
                    · rw [jn_15]; exact clp_bd _
                    · rw [jn_16]; exact clp_bd _
                    · rw [jn_17]
                      by_cases k : y = 0
                      · rw [if_pos k]; omega
                      · rw [if_neg k]; exact clp_bd _
                  have tm : (nI (o - 11)).toInt = ((o - 11 : Nat) : Int) := ti_nI (by omega)
                  rw [em]
                  unfold mstep
                  refine Wp_pos (by rw [ti_lt, tm]; show (1 : Int) < _; omega) (Wp_neg (by rw [ti_eq, tm]; show ¬ _ = (2 : Int); omega) (Wp_neg (by rw [ti_le, tm]; show ¬ (10 : Int) ≤ _; omega) ?_))
                  rw [Wp_bnd, q1, q2, ixk (by omega), ixk (by omega)]
                  unfold f188_b203
                  simp only [Wp_gd, Wp_bind, Wp_bnd, Wp_some, npos]
                  refine ⟨inbk (by omega), inbk (by omega), Wp_mono (m_ari o5 (by omega) (by omega)) (fun q hq => ⟨inbk (by omega), ?_⟩)⟩
                  rw [hx, hy] at hq
                  unfold Mp
                  rw [ee]
                  refine ⟨rfl, rfl, rfl, rfl, fun c hc => rfl, ⟨?_, ?_⟩, hts, fun v hv => ?_, rfl, by show vs.length + 1 + ts.length ≤ 32; omega⟩
                  · rw [hL_uL_eq]
                    show (puL (hL h 7) vs.length _ vs.length).toInt = _
                    rw [puL_eq, hq]
                  · rw [hL_uL_eq]; exact StL_pu _ _ (Nat.le_refl _) hv.2.2
                  · rcases List.mem_cons.1 hv with rfl | hv
                    · exact jb
                    · exact hb v (by simp [hv])
            · rw [if_neg e2] at ht; cases ht
          · by_cases o6 : 18 ≤ o ∧ o ≤ 23
            · have e1 : tc1 o (vs.length, ts.length) = if vs.length = 2 then some (0, ts.length + 1) else none := by
                unfold tc1
                rw [if_neg o1, if_neg o2, if_neg o3, if_neg o4, if_neg o5, if_pos o6]
              rw [e1] at ht
              by_cases e2 : vs.length = 2
              · rw [if_pos e2] at ht
                have ht := (Option.some.inj ht).symm
                cases vs with
                | nil => simp at e2
                | cons y vs =>
                  cases vs with
                  | nil => simp at e2
                  | cons x vs =>
                    cases vs with
                    | cons w vs => simp at e2
                    | nil =>
                      subst ht
                      have h32' : 2 + ts.length ≤ 32 := h32
                      have hy : (hL h 7 1).toInt = y := hv.1
                      have hx : (hL h 7 0).toInt = x := hv.2.1
                      have q1 : nI [y, x].length + -2 = nI 0 := show nI 2 + -2 = nI 0 by decide
                      have q2 : nI 0 + 1 = nI 1 := rfl
                      have q3 : nI ts.length + 1 = nI (ts.length + 1) := nI_1 _
                      have em : (mo o).1 = o - 8 := by
                        have oc : o = 18 ∨ o = 19 ∨ o = 20 ∨ o = 21 ∨ o = 22 ∨ o = 23 := by omega
                        rcases oc with rfl | rfl | rfl | rfl | rfl | rfl <;> rfl
                      have ee : ev1 nm o ([y, x], ts) = ([], (if o = 18 then decide (x < y) else if o = 19 then decide (x ≤ y) else if o = 20 then decide (y < x) else if o = 21 then decide (y ≤ x) else if o = 22 then decide (x = y) else decide (¬ x = y)) :: ts) := by
                        have oc : o = 18 ∨ o = 19 ∨ o = 20 ∨ o = 21 ∨ o = 22 ∨ o = 23 := by omega
                        rcases oc with rfl | rfl | rfl | rfl | rfl | rfl <;> rfl
                      have tm : (nI (o - 8)).toInt = ((o - 8 : Nat) : Int) := ti_nI (by omega)
                      rw [em]
                      unfold mstep
                      refine Wp_pos (by rw [ti_lt, tm]; show (1 : Int) < _; omega) (Wp_neg (by rw [ti_eq, tm]; show ¬ _ = (2 : Int); omega) (Wp_pos (by rw [ti_le, tm]; show (10 : Int) ≤ _; omega) (Wp_neg (by rw [ti_le, tm]; show ¬ (20 : Int) ≤ _; omega) ?_)))
                      rw [Wp_bnd, q1, q2, ixk (by omega), ixk (by omega), ixk (by omega)]
                      unfold f188_b203
                      simp only [Wp_gd, Wp_bnd, Wp_some, npos, q3]
                      refine ⟨inbk (by omega), inbk (by omega), inbk (by omega), ?_⟩
                      unfold Mp
                      rw [ee]
                      refine ⟨rfl, rfl, rfl, rfl, fun c hc => by rw [hI_uI_ne hc], trivial, ⟨?_, ?_⟩, fun v hv => by simp at hv, rfl, by show 0 + (ts.length + 1) ≤ 32; omega⟩
                      · rw [hI_uI_eq]
                        show pu (hI h 8) ts.length _ ts.length = _
                        rw [pu_eq, i187 o o6, hx, hy, b2I_and]
                      · rw [hI_uI_eq]; exact StB_pu _ _ (Nat.le_refl _) hts
              · rw [if_neg e2] at ht; cases ht
            · have e1 : tc1 o (vs.length, ts.length) = none := by
                unfold tc1
                rw [if_neg o1, if_neg o2, if_neg o3, if_neg o4, if_neg o5, if_neg o6]
              rw [e1] at ht; cases ht
end
