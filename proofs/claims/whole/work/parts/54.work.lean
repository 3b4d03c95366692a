/-! ===== the reference's evaluator: a clause ===== -/
theorem nbk {k m : Nat} (h : k < m) (hm : m < 2147483648) : inb (nI k) m := inb_mk (by rw [ti_nI (by omega)]; omega) (by rw [ti_nI (by omega)]; omega)
theorem nix {k : Nat} (h : k < 2147483648) : ix (nI k) = k := nI_clamp (by omega)
/-- clause k of text r of the reference holds the operations l -/
def Cl (row : Nat → Int32) (r k f : Nat) (l : List Nat) : Prop := row (620 * r + 2 + 3 * k) = nI f ∧ row (620 * r + 3 + 3 * k) = nI (f + l.length) ∧ f + l.length ≤ 300 ∧ ∀ j o, l[j]? = some o → row (620 * r + 15 + 2 * (f + j)) = nI (mo o).1 ∧ row (620 * r + 16 + 2 * (f + j)) = nI (mo o).2
theorem work_w {N : Nat} {h : Hp} {r k f s : Nat} {l : List Nat} {nm : Nat → Int} (hN : 1000 ≤ N) (h3 : hI h 1 3 = nI r) (hr : r < 4) (hk : k < 3) (cl : Cl (hI h 3) r k f l) (w1 : tcs l (0, 0) = some (if s = 2 then (0, 1) else (1, 0))) (w2 : ∀ o, o ∈ l → o ≤ 10099 ∧ (o < 8 → okn s o)) (hnm : ∀ q, q < 8 → okn s q → (hI h 6 q).toInt = nm q ∧ -1000000 ≤ nm q ∧ nm q ≤ 1000000) : Wp (f188 N (nI k) h) fun g => (∀ c, c ≠ 8 → hI g c = hI h c) ∧ (s = 2 → hI g 8 0 = b2I ((evs nm l ([], [])).2.headD false)) ∧ (¬ s = 2 → (hL g 7 0).toInt = (evs nm l ([], [])).1.headD 0) := by
  obtain ⟨c1, c2, c3, c4⟩ := cl
  have i3 : ix (3 : Int32) = 3 := rfl
  have v1 : ((620 : Int32) * nI r + 1) + 3 * nI k = nI (620 * r + 1 + 3 * k) := by
    show nI 620 * nI r + nI 1 + nI 3 * nI k = _
    rw [pk_mul, pk_mul, nI_add, nI_add]
  have v2 : (620 : Int32) * nI r + 15 = nI (620 * r + 15) := by
    show nI 620 * nI r + nI 15 = _
    rw [pk_mul, nI_add]
  have v3 : nI (620 * r + 1 + 3 * k) + 1 = nI (620 * r + 2 + 3 * k) := by rw [nI_1]; congr 1; omega
  have v4 : nI (620 * r + 1 + 3 * k) + 2 = nI (620 * r + 3 + 3 * k) := by
    show nI (620 * r + 1 + 3 * k) + nI 2 = _
    rw [nI_add]; congr 1; omega
  unfold f188
  simp only [Wp_bnd, Wp_bind, Wp_gd, Wp_some, i3, h3, v1, v2, v3, nix (show 620 * r + 2 + 3 * k < 2147483648 by omega), c1]
  refine ⟨nbk (by omega) (by omega), ?_⟩
  refine Wp_lp (fun m q => ∃ (i : Nat) (p : List Int × List Bool), q.2.2.1 = nI (f + i) ∧ i + m = l.length ∧ q.1 = nI p.1.length ∧ q.2.1 = nI p.2.length ∧ StL (hL q.2.2.2 7) p.1 ∧ StB (hI q.2.2.2 8) p.2 ∧ Bd p.1 ∧ p.1.length + p.2.length ≤ 32 ∧ tcs (l.drop i) (p.1.length, p.2.length) = some (if s = 2 then (0, 1) else (1, 0)) ∧ evs nm (l.drop i) p = evs nm l ([], []) ∧ (∀ c, c ≠ 8 → hI q.2.2.2 c = hI h c)) ?_ N l.length _ (by omega) ⟨0, ([], []), rfl, by omega, rfl, rfl, trivial, trivial, fun v hv => by simp at hv, by simp, w1, rfl, fun c _ => rfl⟩
  rintro m ⟨nv, nt, pos, g⟩ ⟨i, p, hp, hi, hnv, hnt, hsv, hst, hbd, h32, htc, hev, hfr⟩
  dsimp only at hp hnv hnt hsv hst hfr ⊢
  subst hp hnv hnt
  have tfi : (nI (f + i)).toInt = ((f + i : Nat) : Int) := ti_nI (by omega)
  have tfl : (nI (f + l.length)).toInt = ((f + l.length : Nat) : Int) := ti_nI (by omega)
  unfold f188_l33
  dsimp only
  rw [v4, Wp_gd, nix (show 620 * r + 3 + 3 * k < 2147483648 by omega), hfr 3 (by omega), c2]
  refine ⟨nbk (by omega) (by omega), ?_⟩
  by_cases cc : i = l.length
  · refine Wp_pos (by rw [ti_le, tfi, tfl]; omega) ?_
    rw [Wp_some]
    rw [cc, List.drop_length] at htc hev
    have htc := Option.some.inj (show some (p.1.length, p.2.length) = _ from htc)
    have hev : p = evs nm l ([], []) := hev
    rw [← hev]
    obtain ⟨vs, bs⟩ := p
    dsimp only at htc hsv hst ⊢
    refine Or.inr ⟨0, rfl, hfr, fun s2 => ?_, fun s2 => ?_⟩
    · rw [if_pos s2] at htc
      have l2 : bs.length = 1 := congrArg Prod.snd htc
      cases bs with
      | nil => simp at l2
      | cons b bs =>
        cases bs with
        | cons _ _ => simp at l2
        | nil => exact hst.1
    · rw [if_neg s2] at htc
      have l1 : vs.length = 1 := congrArg Prod.fst htc
      cases vs with
      | nil => simp at l1
      | cons b vs =>
        cases vs with
        | cons _ _ => simp at l1
        | nil => exact hsv.1
  · refine Wp_neg (by rw [ti_le, tfi, tfl]; omega) ?_
    obtain ⟨o, ho⟩ : ∃ o, l[i]? = some o := ⟨l[i]'(by omega), List.getElem?_eq_getElem (by omega)⟩
    have om : o ∈ l := List.mem_of_getElem? ho
    obtain ⟨o1, o2⟩ := w2 o om
    rw [tcs_drop ho] at htc hev
    obtain ⟨p', hp1, hp2⟩ := bind_some (show (tc1 o (p.1.length, p.2.length)).bind (tcs (l.drop (i + 1))) = _ from htc)
    obtain ⟨d1, d2⟩ := c4 i o ho
    have u1 : nI (620 * r + 15) + 2 * nI (f + i) = nI (620 * r + 15 + 2 * (f + i)) := by
      show nI (620 * r + 15) + nI 2 * nI (f + i) = _
      rw [pk_mul, nI_add]
    have u2 : nI (620 * r + 15 + 2 * (f + i)) + 1 = nI (620 * r + 16 + 2 * (f + i)) := by rw [nI_1]; congr 1; omega
    rw [u1, u2, nix (show 620 * r + 15 + 2 * (f + i) < 2147483648 by omega), nix (show 620 * r + 16 + 2 * (f + i) < 2147483648 by omega), d1, d2, Wp_gd, Wp_bnd, Wp_gd, Wp_bnd]
    refine ⟨nbk (by omega) (by omega), nbk (by omega) (by omega), ?_⟩
    refine Wp_mono (mod1 (N := N) (x2 := nI (620 * r + 1 + 3 * k)) (x3 := nI (620 * r + 15)) (pos := f + i) (h := g) (nm := nm) o1 (fun h8 => ?_) hsv hst hbd h32 hp1) (fun q hq => ?_)
    · rw [hfr _ (by omega)]; exact hnm o h8 (o2 h8)
    · obtain ⟨a1, a2, a3, a4, a5, a6, a7, a8, a9, a10⟩ := hq
      refine Or.inl ⟨a1, m - 1, by omega, i + 1, ev1 nm o p, a4, by omega, a2, a3, a6, a7, a8, ?_, ?_, hev, fun c hc => by rw [a5 c hc, hfr c hc]⟩
      · have : (ev1 nm o p).1.length + (ev1 nm o p).2.length = p'.1 + p'.2 := by rw [← a9]
        omega
      · rw [a9]; exact hp2
/-- which clause is of that sort -/
theorem clauseOf_w {N : Nat} {h : Hp} {s : Nat} {T : Nat → Tc} (hN : 1000 ≤ N) (hs : s < 3) (h0 : -1 ≤ (hI h 1 3).toInt) (h1 : (hI h 1 3).toInt < 4) (hT : ∀ r : Nat, hI h 1 3 = nI r → r < 4 → TxM (T r) (hI h 3) (620 * r)) : Wp (f189 N (nI s) h) fun q => (Tr T (hI h 1 3) s = none ∧ q = -1) ∨ (∃ r k f l, r < 4 ∧ k < 3 ∧ hI h 1 3 = nI r ∧ Tr T (hI h 1 3) s = some l ∧ q = nI k ∧ Cl (hI h 3) r k f l) := by
  have i3 : ix (3 : Int32) = 3 := rfl
  have t0 : (0 : Int32).toInt = 0 := rfl
  unfold f189
  rw [Wp_bind]
  by_cases c0 : hI h 1 3 < 0
  · have e : Tr T (hI h 1 3) = fun _ => none := if_pos c0
    refine Wp_lp (fun m q => True) ?_ N 0 _ (by omega) trivial
    intro m q _
    unfold f189_l2
    rw [i3]
    refine Wp_pos c0 ?_
    rw [Wp_some]
    refine Or.inr ⟨1, rfl, ?_⟩
    dsimp only
    rw [if_neg (by decide), Wp_some]
    exact Or.inl ⟨by rw [e], rfl⟩
  · have c0' := c0
    rw [ti_lt, t0] at c0'
    have er := nI_tn (x := hI h 1 3) (by omega)
    have hr4 : tn (hI h 1 3) < 4 := by unfold tn; omega
    have e : Tr T (hI h 1 3) = T (tn (hI h 1 3)) := if_neg c0
    generalize tn (hI h 1 3) = r at er hr4 e
    obtain ⟨M, hM, hb, hcl, hex⟩ := hT r er.symm hr4
    have v0 : (620 : Int32) * nI r = nI (620 * r) := pk_mul 620 r
    have tM : (nI M).toInt = (M : Int) := ti_nI (by omega)
    refine Wp_lp (fun m q => ∃ k : Nat, q = nI k ∧ k + m = M ∧ ∀ j, j < k → ¬ hI h 3 (620 * r + 1 + 3 * j) = nI s) ?_ N M _ (by omega) ⟨0, rfl, by omega, fun j hj => absurd hj (Nat.not_lt_zero j)⟩
    rintro m q ⟨k, rfl, hk, hno⟩
    have tk : (nI k).toInt = (k : Int) := ti_nI (by omega)
    have v1 : nI (620 * r) + 1 + 3 * nI k = nI (620 * r + 1 + 3 * k) := by
      show nI (620 * r) + nI 1 + nI 3 * nI k = _
      rw [pk_mul, nI_add, nI_add]
    unfold f189_l2
    rw [i3]
    refine Wp_neg c0 ?_
    rw [← er] at e ⊢
    rw [v0, Wp_gd, nix (show 620 * r < 2147483648 by omega), hb]
    refine ⟨nbk (by omega) (by omega), ?_⟩
    by_cases cc : k = M
    · refine Wp_pos (by rw [ti_le, tk, tM]; omega) ?_
      rw [Wp_some]
      refine Or.inr ⟨1, rfl, ?_⟩
      dsimp only
      rw [if_neg (by decide), Wp_some]
      refine Or.inl ⟨?_, rfl⟩
      rw [e]
      cases hn : T r s with
      | none => rfl
      | some l =>
        obtain ⟨j, hj, ej⟩ := hex s hs (by rw [hn]; simp)
        exact absurd ej (hno j (by omega))
    · refine Wp_neg (by rw [ti_le, tk, tM]; omega) ?_
      rw [v1, Wp_gd, nix (show 620 * r + 1 + 3 * k < 2147483648 by omega)]
      refine ⟨nbk (by omega) (by omega), ?_⟩
      refine Wp_if (fun g => ?_) (fun g => ?_)
      · rw [Wp_some]
        refine Or.inr ⟨0, rfl, ?_⟩
        dsimp only
        rw [if_pos rfl, Wp_some]
        obtain ⟨s', l, f, hs', hl, x1, x2, x3, x4, x5⟩ := hcl k (by omega)
        rw [x1, nI_eq (by omega) (by omega)] at g
        subst g
        exact Or.inr ⟨r, k, f, l, hr4, by omega, rfl, by rw [e]; exact hl, rfl, x2, x3, x4, x5⟩
      · simp only [Wp_bnd, Wp_some]
        refine Or.inl ⟨trivial, m - 1, by omega, k + 1, nI_1 k, by omega, fun j hj => ?_⟩
        by_cases ej : j = k
        · subst ej; exact g
        · exact hno j (by omega)
