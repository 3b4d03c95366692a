/-! ===== the class's evaluator: a clause ===== -/
def TC (c : Nat) : Prop := c = 2 ∨ c = 6 ∨ c = 10 ∨ c = 14 ∨ c = 18
theorem tc_shp {c : Nat} (h : TC c) : (shp 0 c).1 = 8 ∧ shp 0 (c + 1) = (100, 300) ∧ shp 0 (c + 2) = (100, 3) ∧ shp 0 (c + 3) = (100, 3) := by
  rcases h with rfl | rfl | rfl | rfl | rfl <;> decide
theorem tc_ref {c : Nat} {h : Hp} (hc : TC c) (rf : RF h) : hR h c 0 = some (c + 1) ∧ hR h c 1 = some (c + 2) ∧ hR h c 2 = some (c + 3) := by
  rcases hc with rfl | rfl | rfl | rfl | rfl <;> exact ⟨rf _ _ _ (by decide), rf _ _ _ (by decide), rf _ _ _ (by decide)⟩
theorem tcs_drop {l : List Nat} {i o : Nat} (h : l[i]? = some o) : l.drop i = o :: l.drop (i + 1) := by
  obtain ⟨hi, e⟩ := List.getElem?_eq_some_iff.1 h
  rw [List.drop_eq_getElem_cons hi, e]
theorem value_w {N : Nat} {h : Hp} {c s : Nat} {T : Tc} {l : List Nat} {nm : Nat → Int} (hN : 1000 ≤ N) (rf : RF h) (hc : TC c) (h61 : hR h 61 1 = some c) (hs : s < 3) (hl : T s = some l) (hw : WfT T) (tx : TxX T h c) (hnm : ∀ q, q < 8 → okn s q → (if q = 1 then hI h 41 4 else hI h 62 q).toInt = nm q ∧ -1000000 ≤ nm q ∧ nm q ≤ 1000000) : Wp (f37 N (nI s) h) fun x => (∀ c, c ≠ 62 → c ≠ 63 → hI x.2 c = hI h c) ∧ hR x.2 = hR h ∧ (∀ j, j ≠ 1 → hI x.2 62 j = hI h 62 j) ∧ x.1.toInt = (if s = 2 then b2i ((evs nm l ([], [])).2.headD false) else (evs nm l ([], [])).1.headD 0) := by
  obtain ⟨p1, p2, p3, p4⟩ := tc_shp hc
  obtain ⟨r0, r1, r2⟩ := tc_ref hc rf
  obtain ⟨_, f, hf, ht, hfl, hop⟩ := (tx.1 s hs).2 l hl
  obtain ⟨w1, w2⟩ := hw s l hs hl
  have i1 : ix (1 : Int32) = 1 := rfl
  have i0 : ix (0 : Int32) = 0 := rfl
  have is : ix (nI s) = s := nI_clamp (by omega)
  have ts : (nI s).toInt = (s : Int) := ti_nI (by omega)
  have hc62 : c + 2 ≠ 62 ∧ c + 3 ≠ 62 ∧ c + 1 ≠ 62 ∧ c + 1 ≠ 63 ∧ c + 2 ≠ 63 ∧ c + 3 ≠ 63 := by rcases hc with rfl | rfl | rfl | rfl | rfl <;> decide
  unfold f37
  simp only [Wp_bnd, Wp_bind, Wp_gd, Wp_some, hR_uI, h61, i1, r1, p1, p3, is, hI_uI_ne hc62.1, hf, i0, true_and]
  refine ⟨inb_mk (by omega) (by omega), ?_⟩
  generalize hh : uI h 62 1 (hI h 41 4) = h1
  have g1 : ∀ c, c ≠ 62 → hI h1 c = hI h c := fun c hc => by rw [← hh, hI_uI_ne hc]
  have g2 : hR h1 = hR h := by rw [← hh, hR_uI]
  have g3 : ∀ j, j ≠ 1 → hI h1 62 j = hI h 62 j := fun j hj => by rw [← hh, hI_uI_eq, pu_ne hj]
  have g4 : ∀ q, q < 8 → okn s q → (hI h1 62 q).toInt = nm q ∧ -1000000 ≤ nm q ∧ nm q ≤ 1000000 := fun q hq ho => by
    have := hnm q hq ho
    by_cases e : q = 1
    · rw [if_pos e] at this
      rw [e, ← hh, hI_uI_eq, pu_eq, ← e]; exact this
    · rw [if_neg e] at this
      rw [g3 q e]; exact this
  refine Wp_lp (fun m q => ∃ i p, q.2.1 = nI (f + i) ∧ i + m = l.length ∧ q.1 = nI (cmb p).length ∧ Stk (hI q.2.2 63) (cmb p) ∧ Bd p.1 ∧ p.1.length + p.2.length ≤ 32 ∧ tcs (l.drop i) (p.1.length, p.2.length) = some (if s = 2 then (0, 1) else (1, 0)) ∧ evs nm (l.drop i) p = evs nm l ([], []) ∧ (∀ c, c ≠ 63 → hI q.2.2 c = hI h1 c) ∧ hR q.2.2 = hR h1) ?_ N l.length _ (by omega) ⟨0, ([], []), rfl, by omega, rfl, trivial, fun v hv => by simp at hv, by simp, w1, rfl, fun c _ => rfl, rfl⟩
  rintro m ⟨top, pos, g⟩ ⟨i, p, hp, hi, htop, hst, hbd, h32, htc, hev, hfr, hrr⟩
  dsimp only at hp htop hst hfr hrr ⊢
  subst hp htop
  have tfi : (nI (f + i)).toInt = ((f + i : Nat) : Int) := ti_nI (by omega)
  have e3 : hI g (c + 3) s = nI (f + l.length) := by rw [hfr _ hc62.2.2.2.2.2, g1 _ hc62.2.1]; exact ht
  have tfl : (nI (f + l.length)).toInt = ((f + l.length : Nat) : Int) := ti_nI (by omega)
  unfold f37_l15
  dsimp only
  rw [hrr, g2, h61, Option.bind_some, Wp_gd, r2, Option.bind_some, Wp_gd, p4, is, e3]
  refine ⟨p1, ⟨rfl, inb_mk (by omega) (by rw [ts]; show (s : Int) < ((3 : Nat) : Int); omega)⟩, ?_⟩
  by_cases cc : i = l.length
  · refine Wp_pos (by rw [ti_le, tfi, tfl]; omega) ?_
    rw [Wp_some]
    refine Or.inr ⟨0, rfl, fun c h1 h2 => by rw [hfr c h2, g1 c h1], by rw [hrr, g2], fun j hj => by rw [hfr _ (by omega), g3 j hj], ?_⟩
    rw [cc, List.drop_length] at htc hev
    have htc := Option.some.inj (show some (p.1.length, p.2.length) = _ from htc)
    have hev : p = evs nm l ([], []) := hev
    rw [← hev]
    obtain ⟨vs, bs⟩ := p
    dsimp only at htc ⊢
    by_cases s2 : s = 2
    · rw [if_pos s2] at htc ⊢
      have l1 : vs.length = 0 := congrArg Prod.fst htc
      have l2 : bs.length = 1 := congrArg Prod.snd htc
      cases vs with
      | cons _ _ => simp at l1
      | nil =>
        cases bs with
        | nil => simp at l2
        | cons b bs =>
          cases bs with
          | cons _ _ => simp at l2
          | nil => exact hst.1
    · rw [if_neg s2] at htc ⊢
      have l1 : vs.length = 1 := congrArg Prod.fst htc
      have l2 : bs.length = 0 := congrArg Prod.snd htc
      cases bs with
      | cons _ _ => simp at l2
      | nil =>
        cases vs with
        | nil => simp at l1
        | cons b vs =>
          cases vs with
          | cons _ _ => simp at l1
          | nil => exact hst.1
  · refine Wp_neg (by rw [ti_le, tfi, tfl]; omega) ?_
    obtain ⟨o, ho⟩ : ∃ o, l[i]? = some o := ⟨l[i]'(by omega), List.getElem?_eq_getElem (by omega)⟩
    have om : o ∈ l := List.mem_of_getElem? ho
    obtain ⟨o1, o2⟩ := w2 o om
    rw [tcs_drop ho] at htc hev
    obtain ⟨p', hp1, hp2⟩ := bind_some (show (tc1 o (p.1.length, p.2.length)).bind (tcs (l.drop (i + 1))) = _ from htc)
    have eo : hI g (c + 1) (f + i) = nI o := by rw [hfr _ hc62.2.2.2.1, g1 _ hc62.2.2.1]; exact hop i o ho
    have xfi : ix (nI (f + i)) = f + i := nI_clamp (by omega)
    rw [Option.bind_some, Wp_gd, r0, Option.bind_some, Wp_gd, p2, xfi, eo, Wp_bnd]
    refine ⟨p1, ⟨rfl, inb_mk (by omega) (by rw [tfi]; show ((f + i : Nat) : Int) < ((300 : Nat) : Int); omega)⟩, ?_⟩
    refine Wp_mono (cls1 (N := N) (x1 := nI s) (h := g) (nm := nm) o1 (by omega) (fun h8 => ?_) hst hbd h32 hp1) (fun q hq => ?_)
    · rw [hfr _ (by omega)]; exact g4 o h8 (o2 h8)
    · obtain ⟨a1, a2, a3, a4, a5, a6, a7, a8, a9⟩ := hq
      refine Or.inl ⟨a1, m - 1, by omega, i + 1, ev1 nm o p, a3, by omega, a2, a6, a7, ?_, ?_, hev, fun c hc => by rw [a4 c hc, hfr c hc], by rw [a5, hrr, g2]⟩
      · have : (ev1 nm o p).1.length + (ev1 nm o p).2.length = p'.1 + p'.2 := by rw [← a8]
        omega
      · rw [a8]; exact hp2
