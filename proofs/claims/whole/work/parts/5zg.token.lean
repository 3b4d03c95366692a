/-! ===== the token is that of the row ===== -/
def sgC (N : Nat) (q11 : Int32) (h15 : Hp) : Option Hp :=
  if q11 = (60 : Int32) then (f159_b164 N q11 h15) else (  if q11 = (62 : Int32) then (f159_b164 N q11 h15) else (  if q11 = (61 : Int32) then (f159_b164 N q11 h15) else (  if q11 = (35 : Int32) then (f159_b164 N q11 h15) else (  if q11 = (43 : Int32) then (f159_b164 N q11 h15) else (  if q11 = (45 : Int32) then (f159_b164 N q11 h15) else (  if q11 = (42 : Int32) then (f159_b164 N q11 h15) else (  if q11 = (47 : Int32) then (f159_b164 N q11 h15) else (  if q11 = (40 : Int32) then (f159_b164 N q11 h15) else (  if q11 = (41 : Int32) then (f159_b164 N q11 h15) else (  if q11 = (59 : Int32) then (f159_b164 N q11 h15) else (  f159_b167 N q11 (0 : Int32) h15)))))))))))
theorem sgb_ok : ∀ x, x < 256 → ¬ sgn x = 28 → sgb (sgn x) = x ∧ 14 ≤ sgn x ∧ sgn x ≤ 26 := by decide +kernel
theorem sgC_w {N : Nat} {h : Hp} {x : Nat} (hx : x < 256) : sgC N (nI x) h = f159_b174 N (nI x) (if sgn x = 28 then 3 else nI x) h := by
  have e : ∀ c, c < 256 → (nI x = nI c ↔ x = c) := fun c hc => ⟨fun z => nI_inj (by omega) (by omega) z, fun z => by rw [z]⟩
  have b1 : f159_b164 N (nI x) h = f159_b174 N (nI x) (nI x) h := by
    unfold f159_b164 f159_b167
    rw [if_neg (by decide)]
  unfold sgC
  by_cases c60 : x = 60
  · rw [if_pos (show nI x = 60 from (e 60 (by omega)).2 c60), b1, if_neg (show ¬ sgn x = 28 by rw [c60]; decide)]
  rw [if_neg (show ¬ nI x = 60 from fun z => c60 ((e 60 (by omega)).1 z))]
  by_cases c62 : x = 62
  · rw [if_pos (show nI x = 62 from (e 62 (by omega)).2 c62), b1, if_neg (show ¬ sgn x = 28 by rw [c62]; decide)]
  rw [if_neg (show ¬ nI x = 62 from fun z => c62 ((e 62 (by omega)).1 z))]
  by_cases c61 : x = 61
  · rw [if_pos (show nI x = 61 from (e 61 (by omega)).2 c61), b1, if_neg (show ¬ sgn x = 28 by rw [c61]; decide)]
  rw [if_neg (show ¬ nI x = 61 from fun z => c61 ((e 61 (by omega)).1 z))]
  by_cases c35 : x = 35
  · rw [if_pos (show nI x = 35 from (e 35 (by omega)).2 c35), b1, if_neg (show ¬ sgn x = 28 by rw [c35]; decide)]
  rw [if_neg (show ¬ nI x = 35 from fun z => c35 ((e 35 (by omega)).1 z))]
  by_cases c43 : x = 43
  · rw [if_pos (show nI x = 43 from (e 43 (by omega)).2 c43), b1, if_neg (show ¬ sgn x = 28 by rw [c43]; decide)]
  rw [if_neg (show ¬ nI x = 43 from fun z => c43 ((e 43 (by omega)).1 z))]
  by_cases c45 : x = 45
  · rw [if_pos (show nI x = 45 from (e 45 (by omega)).2 c45), b1, if_neg (show ¬ sgn x = 28 by rw [c45]; decide)]
  rw [if_neg (show ¬ nI x = 45 from fun z => c45 ((e 45 (by omega)).1 z))]
  by_cases c42 : x = 42
  · rw [if_pos (show nI x = 42 from (e 42 (by omega)).2 c42), b1, if_neg (show ¬ sgn x = 28 by rw [c42]; decide)]
  rw [if_neg (show ¬ nI x = 42 from fun z => c42 ((e 42 (by omega)).1 z))]
  by_cases c47 : x = 47
  · rw [if_pos (show nI x = 47 from (e 47 (by omega)).2 c47), b1, if_neg (show ¬ sgn x = 28 by rw [c47]; decide)]
  rw [if_neg (show ¬ nI x = 47 from fun z => c47 ((e 47 (by omega)).1 z))]
  by_cases c40 : x = 40
  · rw [if_pos (show nI x = 40 from (e 40 (by omega)).2 c40), b1, if_neg (show ¬ sgn x = 28 by rw [c40]; decide)]
  rw [if_neg (show ¬ nI x = 40 from fun z => c40 ((e 40 (by omega)).1 z))]
  by_cases c41 : x = 41
  · rw [if_pos (show nI x = 41 from (e 41 (by omega)).2 c41), b1, if_neg (show ¬ sgn x = 28 by rw [c41]; decide)]
  rw [if_neg (show ¬ nI x = 41 from fun z => c41 ((e 41 (by omega)).1 z))]
  by_cases c59 : x = 59
  · rw [if_pos (show nI x = 59 from (e 59 (by omega)).2 c59), b1, if_neg (show ¬ sgn x = 28 by rw [c59]; decide)]
  rw [if_neg (show ¬ nI x = 59 from fun z => c59 ((e 59 (by omega)).1 z))]
  have : sgn x = 28 := by
    unfold sgn
    rw [if_neg c43, if_neg c45, if_neg c42, if_neg c47, if_neg c60, if_neg c62, if_neg c61, if_neg c35, if_neg c40, if_neg c41, if_neg c59]
  rw [if_pos this]
  unfold f159_b167
  rw [if_pos rfl]
section
variable {N n : Nat} {b : Nat → Nat} {g : Hp}
theorem wl_l {x : Nat} (h : isL x = true) : 1 ≤ x ∧ x < 256 := by
  unfold isL at h
  simp at h
  omega
theorem wc_1 : ∀ k, k < 14 → ∀ j, j < slen k → 1 ≤ wc k j ∧ wc k j < 256 := by decide +kernel
theorem ntT_w {s k q : Nat} (hN : 1000 ≤ N) (by' : ByM g b n) (tk : TkA b n s k q) (h8 : hI g 0 8 = nI s) (h9 : hI g 0 9 = nI s) : Wp (ntT N g) fun u => FN g u ∧ hI u 0 8 = nI q ∧ hI u 0 9 = nI s ∧ Tk u k := by
  have n3 := by'.2.1
  unfold ntT
  have hsn : s ≤ n := by rcases tk with z | z | z | z <;> omega
  rw [h8, byte_w by' hsn, Option.bind_some]
  rcases tk with ⟨a1, a2, a3⟩ | ⟨a1, a2, a3, a4, a5, a6, a7⟩ | ⟨a1, a2, a3, a4, a5, a6, a7⟩ | ⟨a1, a2, a3, a4⟩
  · rw [if_neg (show ¬ s < n by omega), if_neg (by decide), Wp_bnd, Wp_some]
    refine ⟨FN.u (by omega), by rw [hI_uI_eq, pu_ne (by omega), h8, a3, a1], by rw [hI_uI_eq, pu_ne (by omega)]; exact h9, Or.inl ⟨a2, by rw [hI_uI_eq, pu_eq]⟩⟩
  · obtain ⟨b1, b2⟩ := by'.2.2 s a1
    have nd : ¬ isD (b s) = true := by
      intro z
      unfold isD at z
      unfold isL at a2
      simp at z a2
      omega
    rw [if_pos a1, if_pos (show 0 ≤ nI (b s) by rw [ti_le, ti_nI (by omega)]; show (0 : Int) ≤ _; omega), m_D _ b1, if_neg nd, if_pos rfl, m_L _ b1, if_pos a2, if_neg (by decide), Wp_bnd, Wp_bnd, Wp_bind]
    have fx : FN g (uL (uI g 0 10 2) 0 12 0) := (FN.u (by omega)).trans FN.l
    refine Wp_mono (letM_w hN (ByM_n by' fx) (by rw [hI_uL, hI_uI_eq, pu_ne (by omega)]; exact h8) (by rw [hI_uL, hI_uI_eq, pu_ne (by omega)]; exact h9) (by rw [hL_uL_eq, puL_eq]) (show s ≤ q by omega) a4 a5 a6) (fun x ⟨x1, x2, x3, x4, x5⟩ => ?_)
    have x10 : hI x.2 0 10 = 2 := by rw [x4, hI_uL, hI_uI_eq, pu_eq]
    rw [x2, x3, pk_sub (by omega)]
    have wlt : ∀ k', k' < 14 → hs (wc k') (slen k') < 72057594037927936 := fun k' hk' => hs_56 (wl_ok k' hk').2 (fun j hj => (wc_1 k' hk' j hj).2)
    by_cases c7 : q - s ≤ 7
    · have hl := x5 c7
      have hb : ∀ j, j < q - s → 1 ≤ b (s + j) ∧ b (s + j) < 256 := fun j hj => wl_l (a5 (s + j) (by omega) (by omega))
      have hlt := hs_56 (f := fun j => b (s + j)) c7 (fun j hj => (hb j hj).2)
      rw [if_pos (by rw [ti_le, ti_nI (by omega)]; show _ ≤ (7 : Int); omega), Wp_some]
      refine ⟨fx.trans x1, x2, x3, ?_⟩
      rcases a7 with ⟨z1, z2⟩ | ⟨z1, z2⟩
      · refine Or.inr (Or.inr (Or.inl ⟨z1, x10, ?_⟩))
        rw [hl, z2.1]
        unfold wcode
        congr 1
        have : ∀ m, m ≤ slen k → hs (fun j => b (s + j)) m = hs (wc k) m := by
          intro m
          induction m with
          | zero => intro _; rfl
          | succ m ih =>
            intro hm
            show hs (fun j => b (s + j)) m * 256 + b (s + m) = hs (wc k) m * 256 + wc k m
            rw [ih (by omega), z2.2 m (by omega)]
        exact this _ (by omega)
      · refine Or.inr (Or.inr (Or.inr (Or.inl ⟨z1, Or.inr ⟨x10, fun k' hk' e => ?_⟩⟩)))
        rw [hl] at e
        have := lN_inj (by omega) (by have := wlt k' hk'; omega) e
        obtain ⟨r1, r2⟩ := hs_inj _ _ _ _ hb (wc_1 k' hk') this
        exact z2 k' hk' ⟨r1, fun j hj => r2 j (by omega)⟩
    · rw [if_neg (by rw [ti_le, ti_nI (by omega)]; show ¬ _ ≤ (7 : Int); omega), Wp_bnd, Wp_some]
      refine ⟨fx.trans (x1.trans FN.l), by rw [hI_uL]; exact x2, by rw [hI_uL]; exact x3, ?_⟩
      rcases a7 with ⟨z1, z2⟩ | ⟨z1, z2⟩
      · have := (wl_ok k z1).2
        have := z2.1
        omega
      · refine Or.inr (Or.inr (Or.inr (Or.inl ⟨z1, Or.inr ⟨by rw [hI_uL]; exact x10, fun k' hk' e => ?_⟩⟩)))
        rw [hL_uL_eq, puL_eq] at e
        have := lN_inj (a := 0) (by omega) (by have := wlt k' hk'; omega) e
        obtain ⟨r1, _⟩ := hs_inj 0 (slen k') (fun _ => 1) (wc k') (fun _ z => by omega) (wc_1 k' hk') (show 0 = _ from this)
        have := (wl_ok k' hk').1
        omega
  · obtain ⟨b1, b2⟩ := by'.2.2 s a1
    rw [if_pos a1, if_pos (show 0 ≤ nI (b s) by rw [ti_le, ti_nI (by omega)]; show (0 : Int) ≤ _; omega), m_D _ b1, if_pos a2, if_neg (by decide), Wp_bnd, Wp_bnd, Wp_bind]
    have fx : FN g (uI (uI g 0 10 1) 0 11 0) := (FN.u (by omega)).trans (FN.u (by omega))
    refine Wp_mono (numM_w hN (ByM_n by' fx) (by rw [hI_uI_eq, pu_ne (by omega), hI_uI_eq, pu_ne (by omega)]; exact h8) (by rw [hI_uI_eq, pu_eq]) (show s ≤ q by omega) a4 a5 a6) (fun x ⟨x1, x2, x3, x4, x5⟩ => ?_)
    have x10 : hI x.2 0 10 = 1 := by rw [x4, hI_uI_eq, pu_ne (by omega), hI_uI_eq, pu_eq]
    rw [Wp_some]
    refine ⟨fx.trans x1, x2, by rw [x3, hI_uI_eq, pu_ne (by omega), hI_uI_eq, pu_ne (by omega)]; exact h9, Or.inr (Or.inl ⟨by omega, by have := dv_le b s (q - s); omega, x10, ?_, fun z => ?_, fun z => ?_⟩)⟩
    · rcases x5 with ⟨y1, y2⟩ | ⟨y1, y2⟩
      · rw [y2, ti_nI (by omega)]; omega
      · omega
    · rcases x5 with ⟨y1, y2⟩ | ⟨y1, y2⟩
      · rw [y2]; congr 1; omega
      · omega
    · rcases x5 with ⟨y1, y2⟩ | ⟨y1, y2⟩
      · omega
      · exact y2
  · obtain ⟨b1, b2⟩ := by'.2.2 s a1
    rw [if_pos a1, if_pos (show 0 ≤ nI (b s) by rw [ti_le, ti_nI (by omega)]; show (0 : Int) ≤ _; omega), m_D _ b1, if_neg a3, if_pos rfl, m_L _ b1, if_neg a2, if_pos rfl, Wp_bnd, nI_1]
    show Wp (sgC N (nI (b s)) (uI g 0 8 (nI (s + 1)))) _
    rw [sgC_w b1]
    unfold f159_b174
    rw [Wp_bnd]
    generalize hv : (if sgn (b s) = 28 then (3 : Int32) else nI (b s)) = v
    have fx : FN g (uI (uI g 0 8 (nI (s + 1))) 0 10 v) := (FN.u (by omega)).trans (FN.u (by omega))
    have g8 : hI (uI (uI g 0 8 (nI (s + 1))) 0 10 v) 0 8 = nI (s + 1) := by rw [hI_uI_eq, pu_ne (by omega), hI_uI_eq, pu_eq]
    have g9 : hI (uI (uI g 0 8 (nI (s + 1))) 0 10 v) 0 9 = nI s := by rw [hI_uI_eq, pu_ne (by omega), hI_uI_eq, pu_ne (by omega)]; exact h9
    have g10 : hI (uI (uI g 0 8 (nI (s + 1))) 0 10 v) 0 10 = v := by rw [hI_uI_eq, pu_eq]
    generalize uI (uI g 0 8 (nI (s + 1))) 0 10 v = w at fx g8 g9 g10 ⊢
    have plain : k = sgn (b s) → q = s + 1 → Wp (some w) (fun u => FN g u ∧ hI u 0 8 = nI q ∧ hI u 0 9 = nI s ∧ Tk u k) := fun e1 e2 => by
      rw [Wp_some]
      refine ⟨fx, by rw [e2]; exact g8, g9, ?_⟩
      rw [e1]
      by_cases c28 : sgn (b s) = 28
      · rw [if_pos c28] at hv
        exact Or.inr (Or.inr (Or.inr (Or.inl ⟨c28, Or.inl (by rw [g10, ← hv])⟩)))
      · rw [if_neg c28] at hv
        obtain ⟨y1, y2, y3⟩ := sgb_ok (b s) b1 c28
        exact Or.inr (Or.inr (Or.inr (Or.inr ⟨y2, y3, by rw [g10, ← hv, y1]⟩)))
    have ne : ∀ c, c < 256 → (nI (b s) = nI c ↔ b s = c) := fun c hc => ⟨fun z => nI_inj (by omega) (by omega) z, fun z => by rw [z]⟩
    have b181 : (b s = 60 ∨ b s = 62) → Wp (f159_b181 N (nI (b s)) w) (fun u => FN g u ∧ hI u 0 8 = nI q ∧ hI u 0 9 = nI s ∧ Tk u k) := fun h6 => by
      unfold f159_b181 f159_b200
      rw [g8, byte_w (ByM_n by' fx) (by omega), Option.bind_some]
      rcases a4 with ⟨z1, z2, z3, z4, z5⟩ | ⟨z1, z2, z3⟩
      · rw [if_pos z2, z3, if_pos (by decide), Wp_bnd, nI_1]
        have fin : ∀ t : Int32, t = nI (sgb k) → 14 ≤ k → k ≤ 26 → Wp (bnd (uI (uI w 0 8 (nI (s + 1 + 1))) 0 10 t) fun h24 => some h24) (fun u => FN g u ∧ hI u 0 8 = nI q ∧ hI u 0 9 = nI s ∧ Tk u k) := fun t ht k1 k2 => by
          rw [Wp_bnd, Wp_some]
          refine ⟨fx.trans ((FN.u (by omega)).trans (FN.u (by omega))), by rw [hI_uI_eq, pu_ne (by omega), hI_uI_eq, pu_eq, z5], by rw [hI_uI_eq, pu_ne (by omega), hI_uI_eq, pu_ne (by omega)]; exact g9, Or.inr (Or.inr (Or.inr (Or.inr ⟨k1, k2, by rw [hI_uI_eq, pu_eq, ht]⟩)))⟩
        by_cases c60 : b s = 60
        · rw [if_pos c60] at z4
          rw [if_pos (show nI (b s) = 60 from (ne 60 (by omega)).2 c60)]
          exact fin 4 (by rw [z4]; rfl) (by omega) (by omega)
        · rw [if_neg c60] at z4
          rw [if_neg (show ¬ nI (b s) = 60 from fun z => c60 ((ne 60 (by omega)).1 z))]
          exact fin 5 (by rw [z4]; rfl) (by omega) (by omega)
      · have no : ¬ (s + 1 < n ∧ b (s + 1) = 61) := fun z => z1 ⟨h6, z⟩
        by_cases cn : s + 1 < n
        · rw [if_pos cn, if_neg (show ¬ nI (b (s + 1)) = 61 from fun z => no ⟨cn, nI_inj (by have := (by'.2.2 (s + 1) cn).1; omega) (by omega) (show nI (b (s + 1)) = nI 61 from z)⟩)]
          exact plain z2 z3
        · rw [if_neg cn, if_neg (by decide)]
          exact plain z2 z3
    by_cases c60 : b s = 60
    · rw [if_pos (show nI (b s) = 60 from (ne 60 (by omega)).2 c60)]
      exact b181 (Or.inl c60)
    · rw [if_neg (show ¬ nI (b s) = 60 from fun z => c60 ((ne 60 (by omega)).1 z))]
      by_cases c62 : b s = 62
      · rw [if_pos (show nI (b s) = 62 from (ne 62 (by omega)).2 c62)]
        exact b181 (Or.inr c62)
      · rw [if_neg (show ¬ nI (b s) = 62 from fun z => c62 ((ne 62 (by omega)).1 z))]
        rcases a4 with ⟨z1, _⟩ | ⟨z1, z2, z3⟩
        · omega
        · exact plain z2 z3
theorem nextM_w {p s k q : Nat} (hN : 1000 ≤ N) (by' : ByM g b n) (tk : Tok b n p s k q) (h8 : hI g 0 8 = nI p) : Wp (f159 N g) fun u => FN g u ∧ hI u 0 8 = nI q ∧ hI u 0 9 = nI s ∧ Tk u k := by
  obtain ⟨t1, t2, t3, t4, t5⟩ := tk
  have n3 := by'.2.1
  rw [f159_e, h8, byte_w by' (by omega), Option.bind_some, nI_1]
  have go : p < s → Wp (bnd (uI g 0 8 (nI (p + 1))) fun h3 => (lp (f159_l0 N) N h3).bind fun q9 => bnd (uI q9.2 0 9 (hI q9.2 0 8)) fun h10 => ntT N h10) (fun u => FN g u ∧ hI u 0 8 = nI q ∧ hI u 0 9 = nI s ∧ Tk u k) := fun hp => by
    rw [Wp_bnd, Wp_bind]
    have fx : FN g (uI g 0 8 (nI (p + 1))) := FN.u (by omega)
    refine Wp_mono (skipM_l (p := p + 1) (s := s) hN (ByM_n by' fx) (by rw [hI_uI_eq, pu_eq]) (by omega) t2 (fun j z1 z2 => t3 j (by omega) z2) t4) (fun x ⟨x1, x2⟩ => ?_)
    rw [Wp_bnd, x2]
    have fy : FN g (uI x.2 0 9 (nI s)) := fx.trans (x1.trans (FN.u (by omega)))
    refine Wp_mono (ntT_w hN (ByM_n by' fy) t5 (by rw [hI_uI_eq, pu_ne (by omega)]; exact x2) (by rw [hI_uI_eq, pu_eq])) (fun u ⟨u1, u2⟩ => ⟨fy.trans u1, u2⟩)
  by_cases c : p < s
  · have hpn : p < n := by omega
    obtain ⟨b1, b2⟩ := by'.2.2 p hpn
    rw [if_pos hpn]
    by_cases c1 : nI (b p) = 32
    · rw [if_pos c1]; exact go c
    · rw [if_neg c1, Option.bind_some]
      rcases (blank_m b1).2 (t3 p (by omega) c) with z | z
      · exact absurd z c1
      · rw [if_pos z]; exact go c
  · have e : p = s := by omega
    subst e
    have no : ¬ (if p < n then nI (b p) else -1) = 32 ∧ ¬ (if p < n then nI (b p) else -1) = 10 := by
      by_cases cn : p < n
      · rw [if_pos cn]
        have nb := t4 cn
        obtain ⟨b1, b2⟩ := by'.2.2 p cn
        exact ⟨fun z => nb ((blank_m b1).1 (Or.inl z)), fun z => nb ((blank_m b1).1 (Or.inr z))⟩
      · rw [if_neg cn]; decide
    rw [if_neg no.1, Option.bind_some, if_neg no.2, Wp_bnd]
    have fy : FN g (uI g 0 9 (nI p)) := FN.u (by omega)
    refine Wp_mono (ntT_w hN (ByM_n by' fy) t5 (by rw [hI_uI_eq, pu_ne (by omega)]; exact h8) (by rw [hI_uI_eq, pu_eq])) (fun u ⟨u1, u2⟩ => ⟨fy.trans u1, u2⟩)
end
