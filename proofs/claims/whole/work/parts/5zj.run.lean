/-! ===== the reference's steps ===== -/
def Sy1 (kd : Nat → Nat) (so i : Nat) (s t : Nat × List Nat × List Nat × Nat) : Prop :=
  (s.2.2.2 = 0 ∧ ((100 ≤ kd i ∧ kd i ≤ 10099) ∨ (kd i < 8 ∧ okB so (kd i) = true)) ∧ t = ((syWh s.2.2.1 s.1 (s.2.1 ++ [kd i])).1, (syWh s.2.2.1 s.1 (s.2.1 ++ [kd i])).2.1, (syWh s.2.2.1 s.1 (s.2.1 ++ [kd i])).2.2, 1)) ∨
  (s.2.2.2 = 0 ∧ kd i = 24 ∧ s.1 < 8 ∧ t = (s.1 + 1, s.2.1, 40 :: s.2.2.1, 0)) ∨
  (s.2.2.2 = 0 ∧ kd i = 15 ∧ s.1 < 8 ∧ t = (s.1 + 1, s.2.1, 2 :: s.2.2.1, 0)) ∨
  (s.2.2.2 = 1 ∧ (kd i = 14 ∨ kd i = 15) ∧ t = (s.1, (sySt 3 s.2.2.1 s.2.1).1, (kd i - 11) :: (sySt 3 s.2.2.1 s.2.1).2, 0)) ∨
  (s.2.2.2 = 1 ∧ (kd i = 16 ∨ kd i = 17) ∧ t = (s.1, (sySt 5 s.2.2.1 s.2.1).1, (kd i - 11) :: (sySt 5 s.2.2.1 s.2.1).2, 0)) ∨
  (s.2.2.2 = 1 ∧ kd i = 25 ∧ 40 ∈ s.2.2.1 ∧ ∃ q, (sySt 3 s.2.2.1 s.2.1).2 = 40 :: q ∧ t = ((syWh q (s.1 - 1) (sySt 3 s.2.2.1 s.2.1).1).1, (syWh q (s.1 - 1) (sySt 3 s.2.2.1 s.2.1).1).2.1, (syWh q (s.1 - 1) (sySt 3 s.2.2.1 s.2.1).1).2.2, 1))
def SyR (kd : Nat → Nat) (so : Nat) : Nat → Nat → Nat × List Nat × List Nat × Nat → Nat × List Nat × List Nat × Nat → Prop
  | 0, _, s, t => s = t
  | k + 1, i, s, t => ∃ u, Sy1 kd so i s u ∧ SyR kd so k (i + 1) u t
def SyF (kd : Nat → Nat) (so i : Nat) (s : Nat × List Nat × List Nat × Nat) (code : Nat) : Prop := s.2.2.2 = 0 ∧ ((code = 2 ∧ kd i = 10100) ∨ (code = 5 ∧ kd i < 8 ∧ ¬ okB so (kd i) = true) ∨ (code = 3 ∧ (kd i = 24 ∨ kd i = 15) ∧ s.1 = 8) ∨ (code = 1 ∧ 8 ≤ kd i ∧ kd i < 100 ∧ kd i ≠ 24 ∧ kd i ≠ 15))
def SyX (kd : Nat → Nat) (i : Nat) (s : Nat × List Nat × List Nat × Nat) : Prop := s.2.2.2 = 1 ∧ kd i ≠ 14 ∧ kd i ≠ 15 ∧ kd i ≠ 16 ∧ kd i ≠ 17 ∧ ¬ (kd i = 25 ∧ 40 ∈ s.2.2.1)
theorem SyR_t {kd : Nat → Nat} {so : Nat} : ∀ k {l i : Nat} {s t u : Nat × List Nat × List Nat × Nat}, SyR kd so k i s t → SyR kd so l (i + k) t u → SyR kd so (k + l) i s u
  | 0, l, i, s, t, u, h1, h2 => by
    have e : s = t := h1
    subst e
    rw [show 0 + l = l by omega]
    exact h2
  | k + 1, l, i, s, t, u, ⟨v, a, b⟩, h2 => by
    rw [show k + 1 + l = (k + l) + 1 by omega]
    exact ⟨v, a, SyR_t k b (by rw [show i + 1 + k = i + (k + 1) by omega]; exact h2)⟩
/-- what holds of the pile all along -/
def SIn (i : Nat) (s : Nat × List Nat × List Nat × Nat) : Prop := PW s.2.2.1 ∧ cN s.2.2.1 ≤ s.1 ∧ s.1 ≤ 8 ∧ s.2.1.length + eN s.2.2.1 ≤ i ∧ (s.2.2.2 = 1 → ∀ q, ¬ s.2.2.1 = 2 :: q)
theorem SIn_1 {kd : Nat → Nat} {so i : Nat} {s t : Nat × List Nat × List Nat × Nat} (h : SIn i s) (y : Sy1 kd so i s t) : SIn (i + 1) t := by
  obtain ⟨d, o, p, f⟩ := s
  obtain ⟨h1, h2, h3, h4, h5⟩ := h
  dsimp only at h1 h2 h3 h4 h5
  have l1 : ∀ x : Nat, ([x] : List Nat).length = 1 := fun _ => rfl
  rcases y with ⟨_, _, e⟩ | ⟨_, _, y3, e⟩ | ⟨_, _, y3, e⟩ | ⟨y1, y2, e⟩ | ⟨y1, y2, e⟩ | ⟨y1, y2, y3, q, y4, e⟩
  · dsimp only at e
    subst e
    obtain ⟨a1, a2, a3, a4, a5⟩ := syWh_p p d (o ++ [kd i]) h1 h2
    rw [List.length_append] at a4
    have := l1 (kd i)
    exact ⟨a1, a2, by dsimp only; omega, by dsimp only; omega, fun _ => a5⟩
  · dsimp only at e y3
    subst e
    refine ⟨⟨h1, Or.inl (Or.inr rfl)⟩, ?_, by dsimp only; omega, ?_, fun z => absurd (show 0 = 1 from z) (by omega)⟩
    · show cN p + 1 ≤ d + 1; omega
    · show o.length + (eN p + 0) ≤ i + 1; omega
  · dsimp only at e y3
    subst e
    refine ⟨⟨h1, Or.inl (Or.inl rfl)⟩, ?_, by dsimp only; omega, ?_, fun z => absurd (show 0 = 1 from z) (by omega)⟩
    · show cN p + 1 ≤ d + 1; omega
    · show o.length + (eN p + 1) ≤ i + 1; omega
  · dsimp only at e y1
    subst e
    obtain ⟨a1, a2, a3⟩ := sySt_p 3 (by omega) p o h1
    have a4 := sySt_3 p o h1 (h5 y1)
    refine ⟨⟨a1, Or.inr (Or.inl ⟨by omega, a4⟩)⟩, ?_, h3, ?_, fun z => absurd (show 0 = 1 from z) (by omega)⟩
    · show cN (sySt 3 p o).2 + (if kd i - 11 = 2 ∨ kd i - 11 = 40 then 1 else 0) ≤ d
      rw [if_neg (by omega)]; omega
    · show (sySt 3 p o).1.length + (eN (sySt 3 p o).2 + if kd i - 11 = 40 then 0 else 1) ≤ i + 1
      rw [if_neg (by omega)]; omega
  · dsimp only at e y1
    subst e
    obtain ⟨a1, a2, a3⟩ := sySt_p 5 (by omega) p o h1
    have a4 := sySt_5 p o h1 (h5 y1)
    refine ⟨⟨a1, Or.inr (Or.inr ⟨by omega, a4⟩)⟩, ?_, h3, ?_, fun z => absurd (show 0 = 1 from z) (by omega)⟩
    · show cN (sySt 5 p o).2 + (if kd i - 11 = 2 ∨ kd i - 11 = 40 then 1 else 0) ≤ d
      rw [if_neg (by omega)]; omega
    · show (sySt 5 p o).1.length + (eN (sySt 5 p o).2 + if kd i - 11 = 40 then 0 else 1) ≤ i + 1
      rw [if_neg (by omega)]; omega
  · dsimp only at e y4
    subst e
    obtain ⟨a1, a2, a3⟩ := sySt_p 3 (by omega) p o h1
    rw [y4] at a1 a2 a3
    have c1 : cN (40 :: q) = cN q + 1 := rfl
    have c2 : eN (40 :: q) = eN q := rfl
    obtain ⟨b1, b2, b3, b4, b5⟩ := syWh_p q (d - 1) (sySt 3 p o).1 a1.1 (by omega)
    exact ⟨b1, b2, by dsimp only; omega, by dsimp only; omega, fun _ => b5⟩
theorem PW_lt : ∀ p, PW p → ∀ x, x ∈ p → x < 1000
  | [], _, x, hx => by cases hx
  | y :: p, ⟨h1, h2⟩, x, hx => by
    rcases List.mem_cons.1 hx with e | e
    · subst e; rcases h2 with z | ⟨z, _⟩ | ⟨z, _⟩ <;> omega
    · exact PW_lt p h1 x e
section
variable {N n sl i so e : Nat} {b : Nat → Nat} {kd st ps : Nat → Nat} {m : Hp} {s t : Nat × List Nat × List Nat × Nat}
def MSt (b : Nat → Nat) (n : Nat) (kd st ps : Nat → Nat) (sl so i : Nat) (s : Nat × List Nat × List Nat × Nat) (m : Hp) : Prop := MC b n kd st ps sl i s.1 s.2.1 m ∧ MP s.2.2.1 m ∧ hI m 0 20 = nI s.2.2.2 ∧ hI m 0 21 = nI so
theorem Sy1_lt (ts : Tks b n kd st ps e) (hi : i ≤ e) (y : Sy1 kd so i s t) : i < e := by
  have : kd i ≠ 27 ∧ kd i ≠ 28 := by rcases y with z | z | z | z | z | z <;> omega
  refine Classical.byContradiction fun hh => ?_
  have ei : i = e := by omega
  subst ei
  rcases ts.2.2.1 with z | z
  · exact this.1 z
  · exact this.2 z
theorem sim1 {x : Int32} (hN : 1000 ≤ N) (ts : Tks b n kd st ps e) (hi : i ≤ e) (hsl : sl < 4) (hso : so < 3) (si : SIn i s) (ms : MSt b n kd st ps sl so i s m) (y : Sy1 kd so i s t) : Wp (f175_l6 N (x, m)) fun q => q.1 = 0 ∧ q.2.1 = 0 ∧ MSt b n kd st ps sl so (i + 1) t q.2.2 ∧ FE sl m q.2.2 := by
  have hie := Sy1_lt ts hi y
  have he := ts.2.2.2.2
  obtain ⟨d, o, p, f⟩ := s
  obtain ⟨h1, h2, h3, h4, h5⟩ := si
  obtain ⟨mc, mp, m20, m21⟩ := ms
  dsimp only at h1 h2 h3 h4 h5 mc mp m20
  have tk := mc.2.2.2.1
  have hlen := (PW_len p h1).1
  have l1 : ∀ x : Nat, ([x] : List Nat).length = 1 := fun _ => rfl
  have sg : ∀ c, 14 ≤ c → c ≤ 26 → (hI m 0 10 = nI (sgb c) ↔ kd i = c) := fun c a1 a2 => tk_sg tk a1 a2
  -- an operand
  have opd : ∀ v1 v2 : Int32, v1 = nI (mo (kd i)).1 → v2 = nI (mo (kd i)).2 → t = ((syWh p d (o ++ [kd i])).1, (syWh p d (o ++ [kd i])).2.1, (syWh p d (o ++ [kd i])).2.2, 1) → Wp ((f165 N v1 v2 m).bind fun q19 => (f159 N q19).bind fun q20 => (f167 N q20).bind fun q21 => some ((0 : Int32), q21)) (fun q5 => Wp (f175_b20 N q5.1 q5.2) fun q => q.1 = 0 ∧ q.2.1 = 0 ∧ MSt b n kd st ps sl so (i + 1) t q.2.2 ∧ FE sl m q.2.2) := by
    intro v1 v2 e1 e2 et
    rw [Wp_bind]
    refine Wp_mono (emit_w e1 e2 (show o.length < 300 by omega) hsl mc) (fun u ⟨u1, u2, u3, u4⟩ => ?_)
    have mpu : MP p u := MP_e mp (u4 18 (by omega)) (u3 5 (by omega) (by omega))
    rw [Wp_bind]
    refine Wp_mono (MC_n hN ts hie u1) (fun w ⟨w1, w2⟩ => ?_)
    rw [Wp_bind]
    refine Wp_mono (whole_w hN (by omega) hsl (by rw [List.length_append]; have := l1 (kd i); omega) h1 h2 h3 w2 (MP_n mpu w1)) (fun z ⟨z1, z2, z3, z4, z5⟩ => ?_)
    rw [Wp_some]
    unfold f175_b20
    rw [if_pos rfl, Wp_some]
    refine ⟨rfl, rfl, ?_, u2.trans ((FE.n w1).trans z4)⟩
    subst et
    exact ⟨z1, z2, by rw [z3]; rfl, by rw [z5, w1.2 21 (by omega), u4 21 (by omega)]; exact m21⟩
  -- an entry
  have ent : ∀ x : Nat, d < 8 → (x = 40 ∨ x = 2) → t = (d + 1, o, x :: p, 0) → f = 0 → Wp (f171_b55 N (nI x) m) (fun q5 => Wp (f175_b20 N q5.1 q5.2) fun q => q.1 = 0 ∧ q.2.1 = 0 ∧ MSt b n kd st ps sl so (i + 1) t q.2.2 ∧ FE sl m q.2.2) := by
    intro x hd hx et hf
    unfold f171_b55
    rw [if_neg (by rw [ti_eq, ti_nI (by omega)]; show ¬ _ = (0 : Int); omega), mc.2.2.2.2.1, if_neg (show ¬ nI d = 8 from fun z => by have := nI_inj (by omega) (by omega) (show nI d = nI 8 from z); omega), Wp_bnd, nI_1, Wp_bind]
    refine Wp_mono (push_w (x := x) rfl (by omega) (MC_d (d' := d + 1) mc rfl) (MP_e mp (by rw [hI_uI_eq, pu_ne (by omega)]) (hI_uI_ne (by omega)))) (fun u ⟨u1, u2, u3, u4, u5⟩ => ?_)
    rw [Wp_bind]
    refine Wp_mono (MC_n hN ts hie u1) (fun w ⟨w1, w2⟩ => ?_)
    rw [Wp_some]
    unfold f175_b20
    rw [if_pos rfl, Wp_some]
    refine ⟨rfl, rfl, ?_, (FE.u (by omega)).trans (u3.trans (FE.n w1))⟩
    subst et
    refine ⟨w2, MP_n u2 w1, ?_, ?_⟩
    · rw [w1.2 20 (by omega), u4, hI_uI_eq, pu_ne (by omega), m20, hf]
    · rw [w1.2 21 (by omega), u5, hI_uI_eq, pu_ne (by omega)]; exact m21
  -- an operation
  have opn : ∀ (x : Nat) (y : Nat), (y = 3 ∨ y = 5) → x < 100 → t = (d, (sySt y p o).1, x :: (sySt y p o).2, 0) → ∀ q3, (MC b n kd st ps sl i d (sySt y p o).1 q3 ∧ MP (sySt y p o).2 q3 ∧ FE sl m q3 ∧ hI q3 0 21 = hI m 0 21 ∧ hI q3 0 20 = hI m 0 20) → Wp ((f166 N (nI x) q3).bind fun q5 => bnd (uI q5 0 20 (0 : Int32)) fun h6 => (f159 N h6).bind fun q7 => some ((0 : Int32), q7)) (fun q5 => Wp (f175_b20 N q5.1 q5.2) fun q => q.1 = 0 ∧ q.2.1 = 0 ∧ MSt b n kd st ps sl so (i + 1) t q.2.2 ∧ FE sl m q.2.2) := by
    intro x y hy hx et q3 ⟨g1, g2, g3, g4, g5⟩
    have a := sySt_p y (by omega) p o h1
    have hl2 := (PW_len _ a.1).1
    rw [Wp_bind]
    refine Wp_mono (push_w (x := x) rfl (by omega) g1 g2) (fun u ⟨u1, u2, u3, u4, u5⟩ => ?_)
    rw [Wp_bnd, Wp_bind]
    refine Wp_mono (MC_n hN ts hie (MC_u (v := 0) u1 (Or.inr (Or.inl rfl)))) (fun w ⟨w1, w2⟩ => ?_)
    rw [Wp_some]
    unfold f175_b20
    rw [if_pos rfl, Wp_some]
    refine ⟨rfl, rfl, ?_, g3.trans (u3.trans ((FE.u (by omega)).trans (FE.n w1)))⟩
    subst et
    refine ⟨w2, MP_n (MP_e u2 (by rw [hI_uI_eq, pu_ne (by omega)]) (hI_uI_ne (by omega))) w1, ?_, ?_⟩
    · rw [w1.2 20 (by omega), hI_uI_eq, pu_eq]; rfl
    · rw [w1.2 21 (by omega), hI_uI_eq, pu_ne (by omega), u5, g4]; exact m21
  unfold f175_l6
  dsimp only
  rw [m20]
  rcases y with ⟨y1, y2, et⟩ | ⟨y1, y2, y3, et⟩ | ⟨y1, y2, y3, et⟩ | ⟨y1, y2, et⟩ | ⟨y1, y2, et⟩ | ⟨y1, y2, y3, q, y4, et⟩
  · dsimp only at y1 et
    subst y1
    rw [if_pos (show nI 0 = 0 from rfl)]
    unfold f175_b12
    rw [m20, if_pos (show nI 0 = 0 from rfl), Wp_bind]
    unfold f171
    rcases y2 with ⟨k1, k2⟩ | ⟨k1, k2⟩
    · rw [if_pos ((tk_lo tk).2.1.2 k1)]
      have v11 : hI m 0 11 = nI (kd i - 100) := by
        rcases tk with ⟨t1, _⟩ | ⟨_, _, _, _, t5, _⟩ | ⟨t1, _⟩ | ⟨t1, _⟩ | ⟨t1, t2, _⟩
        · omega
        · exact t5 k2
        · omega
        · omega
        · omega
      have hm : mo (kd i) = (0, kd i - 100) := if_pos k1
      rw [v11, if_pos (by rw [ti_le, ti_nI (by omega)]; show _ ≤ (9999 : Int); omega)]
      exact opd 0 (nI (kd i - 100)) (by rw [hm]; rfl) (by rw [hm]) et
    · rw [if_neg (fun z => by have := (tk_lo tk).2.1.1 z; omega), nm_w tk, Option.bind_some, if_pos k1, if_neg (by rw [ti_lt, ti_nI (by omega)]; show ¬ _ < (0 : Int); omega), Option.bind_some, bar_w m21 hso k1, if_pos k2, Option.bind_some, if_pos rfl, Option.bind_some]
      have hm : mo (kd i) = (1, kd i) := by unfold mo; rw [if_neg (by omega), if_pos k1]
      exact opd 1 (nI (kd i)) (by rw [hm]; rfl) (by rw [hm]) et
  · dsimp only at y1 y3 et
    subst y1
    rw [if_pos (show nI 0 = 0 from rfl)]
    unfold f175_b12
    rw [m20, if_pos (show nI 0 = 0 from rfl), Wp_bind]
    unfold f171
    rw [if_neg (fun z => by have := (tk_lo tk).2.1.1 z; omega), nm_w tk, Option.bind_some, if_neg (show ¬ kd i < 8 by omega), if_pos (show (-1 : Int32) < 0 by decide), if_pos (show hI m 0 10 = 40 from (sg 24 (by omega) (by omega)).2 y2)]
    exact ent 40 y3 (Or.inl rfl) et rfl
  · dsimp only at y1 y3 et
    subst y1
    rw [if_pos (show nI 0 = 0 from rfl)]
    unfold f175_b12
    rw [m20, if_pos (show nI 0 = 0 from rfl), Wp_bind]
    unfold f171
    rw [if_neg (fun z => by have := (tk_lo tk).2.1.1 z; omega), nm_w tk, Option.bind_some, if_neg (show ¬ kd i < 8 by omega), if_pos (show (-1 : Int32) < 0 by decide), if_neg (show ¬ hI m 0 10 = 40 from fun z => by have := (sg 24 (by omega) (by omega)).1 z; omega), if_pos (show hI m 0 10 = 45 from (sg 15 (by omega) (by omega)).2 y2)]
    exact ent 2 y3 (Or.inr rfl) et rfl
  · dsimp only at y1 et
    subst y1
    rw [if_neg (show ¬ nI 1 = 0 by decide)]
    unfold f173 f173_b23 f175_b12
    rw [m20, if_neg (show ¬ nI 1 = 0 by decide)]
    unfold f174 f174_b9 f174_b19
    have st3 := setl_w (N := N) (y := 3) hN (by omega) (by omega) (show i ≤ 300 by omega) hsl h4 h1 (by omega) mc mp
    by_cases c14 : kd i = 14
    · have e1 : hI m 0 10 = 43 := (sg 14 (by omega) (by omega)).2 c14
      rw [if_pos e1, Option.bind_some, if_neg (by decide), Wp_bind, Wp_bnd, if_pos e1, Wp_bind]
      refine Wp_mono (show Wp (f168 N 3 m) _ from st3) (fun u hu => ?_)
      rw [if_pos e1]
      exact opn 3 3 (Or.inl rfl) (by omega) (by rw [et, c14]) u hu
    · have c15 : kd i = 15 := by omega
      have e1 : hI m 0 10 = 45 := (sg 15 (by omega) (by omega)).2 c15
      have e0 : ¬ hI m 0 10 = 43 := by rw [e1]; decide
      rw [if_neg e0, if_pos e1, Option.bind_some, if_neg (by decide), Wp_bind, Wp_bnd, if_neg e0, if_pos e1, Wp_bind]
      refine Wp_mono (show Wp (f168 N 3 m) _ from st3) (fun u hu => ?_)
      rw [if_neg e0]
      exact opn 4 3 (Or.inl rfl) (by omega) (by rw [et, c15]) u hu
  · dsimp only at y1 et
    subst y1
    rw [if_neg (show ¬ nI 1 = 0 by decide)]
    unfold f173 f173_b23 f175_b12
    rw [m20, if_neg (show ¬ nI 1 = 0 by decide)]
    unfold f174 f174_b30 f174_b40
    have st5 := setl_w (N := N) (y := 5) hN (by omega) (by omega) (show i ≤ 300 by omega) hsl h4 h1 (by omega) mc mp
    by_cases c16 : kd i = 16
    · have e1 : hI m 0 10 = 42 := (sg 16 (by omega) (by omega)).2 c16
      have e0 : ¬ hI m 0 10 = 43 := by rw [e1]; decide
      have e5 : ¬ hI m 0 10 = 45 := by rw [e1]; decide
      rw [if_neg e0, if_neg e5, if_pos e1, Option.bind_some, if_neg (by decide), Wp_bind, Wp_bnd, if_neg e0, if_neg e5, if_pos e1, Wp_bind]
      refine Wp_mono (show Wp (f168 N 5 m) _ from st5) (fun u hu => ?_)
      rw [if_pos e1]
      exact opn 5 5 (Or.inr rfl) (by omega) (by rw [et, c16]) u hu
    · have c17 : kd i = 17 := by omega
      have e1 : hI m 0 10 = 47 := (sg 17 (by omega) (by omega)).2 c17
      have e0 : ¬ hI m 0 10 = 43 := by rw [e1]; decide
      have e5 : ¬ hI m 0 10 = 45 := by rw [e1]; decide
      have e2 : ¬ hI m 0 10 = 42 := by rw [e1]; decide
      rw [if_neg e0, if_neg e5, if_neg e2, if_pos e1, Option.bind_some, if_neg (by decide), Wp_bind, Wp_bnd, if_neg e0, if_neg e5, if_neg e2, if_pos e1, Wp_bind]
      refine Wp_mono (show Wp (f168 N 5 m) _ from st5) (fun u hu => ?_)
      rw [if_neg e2]
      exact opn 6 5 (Or.inr rfl) (by omega) (by rw [et, c17]) u hu
  · dsimp only at y1 y3 y4 et
    subst y1
    have e1 : hI m 0 10 = 41 := (sg 25 (by omega) (by omega)).2 y2
    have e0 : ¬ hI m 0 10 = 43 := by rw [e1]; decide
    have e5 : ¬ hI m 0 10 = 45 := by rw [e1]; decide
    have e2 : ¬ hI m 0 10 = 42 := by rw [e1]; decide
    have e7 : ¬ hI m 0 10 = 47 := by rw [e1]; decide
    rw [if_neg (show ¬ nI 1 = 0 by decide)]
    unfold f173 f173_b23 f175_b12
    rw [m20, if_neg (show ¬ nI 1 = 0 by decide), if_neg e0, if_neg e5, if_neg e2, if_neg e7, if_pos e1, par_w hN (by omega) (PW_lt p h1) mp, if_pos y3, Option.bind_some, if_neg (by decide), Option.bind_some, if_neg (by decide), Wp_bind]
    unfold f174
    rw [Wp_bnd, if_neg e0, if_neg e5, if_neg e2, if_neg e7, Wp_bind]
    refine Wp_mono (show Wp (f168 N 3 m) _ from setl_w (N := N) (y := 3) hN (by omega) (by omega) (show i ≤ 300 by omega) hsl h4 h1 (by omega) mc mp) (fun u ⟨g1, g2, g3, g4, g5⟩ => ?_)
    obtain ⟨a1, a2, a3⟩ := sySt_p 3 (by omega) p o h1
    rw [y4] at g2 a1 a2 a3
    have c1 : cN (40 :: q) = cN q + 1 := rfl
    have c2 : eN (40 :: q) = eN q := rfl
    have el : (40 :: q).length = q.length + 1 := rfl
    have h18 : hI u 0 18 - 1 = nI q.length := by rw [g2.1, el]; exact nI_pred q.length
    rw [Wp_bnd, h18, Wp_bnd]
    have h19 : hI (uI u 0 18 (nI q.length)) 0 19 - 1 = nI (d - 1) := by
      rw [hI_uI_eq, pu_ne (by omega), g1.2.2.2.2.1]
      exact pk_sub (a := d) (b := 1) (by omega)
    rw [h19, Wp_bind]
    refine Wp_mono (whole_w hN (by omega) hsl (show (sySt 3 p o).1.length + eN q ≤ i by omega) a1.1 (show cN q ≤ d - 1 by omega) (by omega) (MC_d (d' := d - 1) (MC_u g1 (Or.inl rfl)) rfl) (MP_e (MP_pop (v := nI q.length) g2 rfl) (by rw [hI_uI_eq, pu_ne (by omega)]) (hI_uI_ne (by omega)))) (fun z ⟨z1, z2, z3, z4, z5⟩ => ?_)
    rw [Wp_bind]
    refine Wp_mono (MC_n hN ts hie z1) (fun w ⟨w1, w2⟩ => ?_)
    rw [Wp_some]
    unfold f175_b20
    rw [if_pos rfl, Wp_some]
    refine ⟨rfl, rfl, ?_, g3.trans ((FE.u (by omega)).trans ((FE.u (by omega)).trans (z4.trans (FE.n w1))))⟩
    subst et
    refine ⟨w2, MP_n z2 w1, ?_, ?_⟩
    · rw [w1.2 20 (by omega), z3]; rfl
    · rw [w1.2 21 (by omega), z5, hI_uI_eq, pu_ne (by omega), hI_uI_eq, pu_ne (by omega), g4]; exact m21
theorem simF {x : Int32} {code : Nat} (hso : so < 3) (ms : MSt b n kd st ps sl so i s m) (y : SyF kd so i s code) : f175_l6 N (x, m) = some (1, (nI code, m)) := by
  obtain ⟨d, o, p, f⟩ := s
  obtain ⟨mc, mp, m20, m21⟩ := ms
  obtain ⟨y1, y2⟩ := y
  dsimp only at mc mp m20 y1 y2
  subst y1
  have tk := mc.2.2.2.1
  have sg : ∀ c, 14 ≤ c → c ≤ 26 → (hI m 0 10 = nI (sgb c) ↔ kd i = c) := fun c a1 a2 => tk_sg tk a1 a2
  unfold f175_l6 f175_b12
  dsimp only
  rw [m20, if_pos (show nI 0 = 0 from rfl), if_pos (show nI 0 = 0 from rfl)]
  unfold f171
  have fin : ∀ c : Nat, 1 ≤ c → c < 100 → f175_b20 N (nI c) m = some (1, (nI c, m)) := fun c h1 h2 => by
    unfold f175_b20
    rw [if_neg (by rw [ti_eq, ti_nI (by omega)]; show ¬ _ = (0 : Int); omega)]
  rcases y2 with ⟨rfl, y3⟩ | ⟨rfl, y3, y4⟩ | ⟨rfl, y3, y4⟩ | ⟨rfl, y3, y4, y5, y6⟩
  · have v : (9999 : Int) < (hI m 0 11).toInt := by
      rcases tk with ⟨t1, _⟩ | ⟨_, _, _, _, _, t6⟩ | ⟨t1, _⟩ | ⟨t1, _⟩ | ⟨t1, t2, _⟩
      · omega
      · exact t6 y3
      · omega
      · omega
      · omega
    rw [if_pos ((tk_lo tk).2.1.2 (by omega)), if_neg (by rw [ti_le]; show ¬ _ ≤ (9999 : Int); omega), Option.bind_some]
    exact fin 2 (by omega) (by omega)
  · rw [if_neg (fun z => by have := (tk_lo tk).2.1.1 z; omega), nm_w tk, Option.bind_some, if_pos y3, if_neg (by rw [ti_lt, ti_nI (by omega)]; show ¬ _ < (0 : Int); omega), Option.bind_some, bar_w m21 hso y3, if_neg y4, Option.bind_some, if_neg (by decide), Option.bind_some]
    exact fin 5 (by omega) (by omega)
  · rw [if_neg (fun z => by have := (tk_lo tk).2.1.1 z; omega), nm_w tk, Option.bind_some, if_neg (show ¬ kd i < 8 by omega), if_pos (show (-1 : Int32) < 0 by decide)]
    have b55 : ∀ x : Int32, ¬ x = 0 → f171_b55 N x m = some (3, m) := fun x hx => by
      unfold f171_b55
      rw [if_neg hx, mc.2.2.2.2.1, if_pos (by rw [y4]; rfl)]
    rcases y3 with y3 | y3
    · rw [if_pos (show hI m 0 10 = 40 from (sg 24 (by omega) (by omega)).2 y3), b55 40 (by decide), Option.bind_some]
      exact fin 3 (by omega) (by omega)
    · rw [if_neg (show ¬ hI m 0 10 = 40 from fun z => by have := (sg 24 (by omega) (by omega)).1 z; omega), if_pos (show hI m 0 10 = 45 from (sg 15 (by omega) (by omega)).2 y3), b55 2 (by decide), Option.bind_some]
      exact fin 3 (by omega) (by omega)
  · rw [if_neg (fun z => by have := (tk_lo tk).2.1.1 z; omega), nm_w tk, Option.bind_some, if_neg (show ¬ kd i < 8 by omega), if_pos (show (-1 : Int32) < 0 by decide), if_neg (show ¬ hI m 0 10 = 40 from fun z => y5 ((sg 24 (by omega) (by omega)).1 z)), if_neg (show ¬ hI m 0 10 = 45 from fun z => y6 ((sg 15 (by omega) (by omega)).1 z))]
    unfold f171_b55
    rw [if_pos rfl, Option.bind_some]
    exact fin 1 (by omega) (by omega)
theorem simX {x : Int32} (hN : 1000 ≤ N) (si : SIn i s) (ms : MSt b n kd st ps sl so i s m) (y : SyX kd i s) : f175_l6 N (x, m) = some (2, (0, m)) := by
  obtain ⟨d, o, p, f⟩ := s
  obtain ⟨mc, mp, m20, m21⟩ := ms
  obtain ⟨y1, y2, y3, y4, y5, y6⟩ := y
  obtain ⟨h1, h2, h3, h4, h5⟩ := si
  dsimp only at mc mp m20 y1 y6 h1 h2 h3
  subst y1
  have tk := mc.2.2.2.1
  have hlen := (PW_len p h1).1
  have sg : ∀ c, 14 ≤ c → c ≤ 26 → (hI m 0 10 = nI (sgb c) ↔ kd i = c) := fun c a1 a2 => tk_sg tk a1 a2
  unfold f175_l6
  dsimp only
  rw [m20, if_neg (show ¬ nI 1 = 0 by decide)]
  unfold f173 f173_b23 f173_b25
  rw [if_neg (show ¬ hI m 0 10 = 43 from fun z => y2 ((sg 14 (by omega) (by omega)).1 z)), if_neg (show ¬ hI m 0 10 = 45 from fun z => y3 ((sg 15 (by omega) (by omega)).1 z)), if_neg (show ¬ hI m 0 10 = 42 from fun z => y4 ((sg 16 (by omega) (by omega)).1 z)), if_neg (show ¬ hI m 0 10 = 47 from fun z => y5 ((sg 17 (by omega) (by omega)).1 z))]
  by_cases c : kd i = 25
  · rw [if_pos (show hI m 0 10 = 41 from (sg 25 (by omega) (by omega)).2 c), par_w hN (by omega) (PW_lt p h1) mp, if_neg (fun z => y6 ⟨c, z⟩), Option.bind_some, if_pos rfl, Option.bind_some, if_pos rfl]
  · rw [if_neg (show ¬ hI m 0 10 = 41 from fun z => c ((sg 25 (by omega) (by omega)).1 z)), Option.bind_some, if_pos rfl]
/-- many steps -/
theorem simR (hN : 1000 ≤ N) (ts : Tks b n kd st ps e) (hsl : sl < 4) (hso : so < 3) : ∀ k {i : Nat} {s t : Nat × List Nat × List Nat × Nat} {m : Hp}, i + k ≤ e → SIn i s → MSt b n kd st ps sl so i s m → SyR kd so k i s t → ∃ m', MSt b n kd st ps sl so (i + k) t m' ∧ SIn (i + k) t ∧ FE sl m m' ∧ ∀ f, lp (f175_l6 N) (f + k) ((0 : Int32), m) = lp (f175_l6 N) f ((0 : Int32), m')
  | 0, i, s, t, m, _, si, ms, h => by
    have e : s = t := h
    subst e
    exact ⟨m, ms, si, FE.rfl', fun f => rfl⟩
  | k + 1, i, s, t, m, hk, si, ms, ⟨u, h1, h2⟩ => by
    obtain ⟨q, q1, q2, q3, q4, q5⟩ := sim1 (N := N) (x := 0) hN ts (by omega) hsl hso si ms h1
    obtain ⟨m', r1, r2, r3, r4⟩ := simR hN ts hsl hso k (i := i + 1) (by omega) (SIn_1 si h1) q4 h2
    rw [show i + 1 + k = i + (k + 1) by omega] at r1 r2
    refine ⟨m', r1, r2, q5.trans r3, fun f => ?_⟩
    rw [← r4 f]
    obtain ⟨a, c, w⟩ := q
    dsimp only at q2 q3
    subst q2 q3
    show (f175_l6 N (0, m)).bind _ = _
    rw [q1]
    rfl
/-- summed: it ends -/
theorem sum_x {k d : Nat} {ops : List Nat} (hN : 1000 ≤ N) (ts : Tks b n kd st ps e) (hsl : sl < 4) (hso : so < 3) (hk : i + k ≤ e) (d8 : d ≤ 8) (hl : ops.length ≤ i) (mc : MC b n kd st ps sl i d ops m) (m21 : hI m 0 21 = nI so) (r : SyR kd so k i (d, ops, [], 0) t) (x : SyX kd (i + k) t) : Wp (f175 N m) fun y => y.1 = (if (sySt 3 t.2.2.1 t.2.1).2 = [] then 0 else 1) ∧ MC b n kd st ps sl (i + k) t.1 (sySt 3 t.2.2.1 t.2.1).1 y.2 ∧ FE sl m y.2 ∧ hI y.2 0 21 = nI so := by
  have he := ts.2.2.2.2
  have ms : MSt b n kd st ps sl so i (d, ops, [], 0) (uI (uI m 0 18 0) 0 20 0) := ⟨MC_u (MC_u mc (Or.inl rfl)) (Or.inr (Or.inl rfl)), ⟨by rw [hI_uI_eq, pu_ne (by omega), hI_uI_eq, pu_eq]; rfl, fun j y hj => by cases hj⟩, by rw [hI_uI_eq, pu_eq]; rfl, by rw [hI_uI_eq, pu_ne (by omega), hI_uI_eq, pu_ne (by omega)]; exact m21⟩
  have si : SIn i (d, ops, [], 0) := ⟨trivial, Nat.zero_le _, d8, hl, fun z => absurd (show 0 = 1 from z) (by omega)⟩
  obtain ⟨m', r1, r2, r3, r4⟩ := simR hN ts hsl hso k hk si ms r
  unfold f175
  rw [Wp_bnd, Wp_bnd, Wp_bind]
  have el : lp (f175_l6 N) N ((0 : Int32), uI (uI m 0 18 0) 0 20 0) = some (1, ((0 : Int32), m')) := by
    have := r4 (N - k)
    rw [show N - k + k = N by omega] at this
    rw [this, show N - k = (N - k - 1) + 1 by omega]
    show (f175_l6 N (0, m')).bind _ = _
    rw [simX hN r2 r1 x]
    rfl
  rw [el, Wp_some]
  dsimp only
  rw [if_neg (by omega), Wp_bind]
  obtain ⟨g1, g2, g3, g4, g5⟩ := r2
  refine Wp_mono (show Wp (f168 N 3 m') _ from setl_w (N := N) (y := 3) hN (by omega) (by omega) (show i + k ≤ 300 by omega) hsl g4 g1 (by omega) r1.1 r1.2.1) (fun u ⟨u1, u2, u3, u4, u5⟩ => ?_)
  have hl2 := (PW_len _ (sySt_p 3 (by omega) _ t.2.1 g1).1).1
  have hc2 := (sySt_p 3 (by omega) t.2.2.1 t.2.1 g1).2.1
  have fe : FE sl m u := (FE.u (by omega)).trans ((FE.u (by omega)).trans (r3.trans u3))
  have h21 : hI u 0 21 = nI so := by rw [u4]; exact r1.2.2.2
  cases hp : (sySt 3 t.2.2.1 t.2.1).2 with
  | nil =>
    have : hI u 0 18 = nI 0 := by have := u2.1; rw [hp] at this; exact this
    rw [this, if_pos (by decide), Wp_some, if_pos rfl]
    exact ⟨rfl, u1, fe, h21⟩
  | cons y q =>
    have : hI u 0 18 = nI (q.length + 1) := by have := u2.1; rw [hp] at this; exact this
    have el2 : (y :: q).length = q.length + 1 := rfl
    rw [hp] at hl2 hc2
    rw [el2] at hl2
    rw [this, if_neg (by rw [ti_le, ti_nI (by omega)]; show ¬ _ ≤ (0 : Int); omega), Wp_some, if_neg (by intro z; cases z)]
    exact ⟨rfl, u1, fe, h21⟩
/-- summed: it fails -/
theorem sum_f {k d code : Nat} {ops : List Nat} (hN : 1000 ≤ N) (ts : Tks b n kd st ps e) (hsl : sl < 4) (hso : so < 3) (hk : i + k ≤ e) (d8 : d ≤ 8) (hl : ops.length ≤ i) (mc : MC b n kd st ps sl i d ops m) (m21 : hI m 0 21 = nI so) (r : SyR kd so k i (d, ops, [], 0) t) (x : SyF kd so (i + k) t code) : Wp (f175 N m) fun y => y.1 = nI code ∧ hI y.2 0 9 = nI (st (i + k)) ∧ FE sl m y.2 := by
  have he := ts.2.2.2.2
  have ms : MSt b n kd st ps sl so i (d, ops, [], 0) (uI (uI m 0 18 0) 0 20 0) := ⟨MC_u (MC_u mc (Or.inl rfl)) (Or.inr (Or.inl rfl)), ⟨by rw [hI_uI_eq, pu_ne (by omega), hI_uI_eq, pu_eq]; rfl, fun j y hj => by cases hj⟩, by rw [hI_uI_eq, pu_eq]; rfl, by rw [hI_uI_eq, pu_ne (by omega), hI_uI_eq, pu_ne (by omega)]; exact m21⟩
  have si : SIn i (d, ops, [], 0) := ⟨trivial, Nat.zero_le _, d8, hl, fun z => absurd (show 0 = 1 from z) (by omega)⟩
  obtain ⟨m', r1, r2, r3, r4⟩ := simR hN ts hsl hso k hk si ms r
  unfold f175
  rw [Wp_bnd, Wp_bnd, Wp_bind]
  have el : lp (f175_l6 N) N ((0 : Int32), uI (uI m 0 18 0) 0 20 0) = some (0, (nI code, m')) := by
    have := r4 (N - k)
    rw [show N - k + k = N by omega] at this
    rw [this, show N - k = (N - k - 1) + 1 by omega]
    show (f175_l6 N (0, m')).bind _ = _
    rw [simF hso r1 x]
    rfl
  rw [el, Wp_some]
  dsimp only
  rw [if_pos rfl, Wp_some]
  exact ⟨rfl, r1.1.2.2.1, (FE.u (by omega)).trans ((FE.u (by omega)).trans r3)⟩
end
