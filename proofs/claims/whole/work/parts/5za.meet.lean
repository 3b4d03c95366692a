/-! ===== meet ===== -/
/-- it can be there with that speed -/
def Hit (n : Nat) (T : Tc) (a : Nat → Int32) (s0 pl sp hr i : Nat) : Prop := hr ≤ i ∧ ∃ s, Rm n T a s0 i s ∧ s / 40 % 12 = pl ∧ s % 5 = sp
section
variable {N n : Nat} {T : Tc} {x u h : Hp} {a : Nat → Int32} {s0 pl sp hr : Nat}
theorem meetX_w (hN : 10000 ≤ N) (al : Al n T a x) (hs : ist n s0) (hp : pl < n) (hh : hr ≤ 48) (h1 : 1 ≤ sp) (h4 : sp ≤ 4) (iu : FwI n T a (fun _ => 13) 1 s0 x 0 u) : Wp (lp (f7_l5 N (nI s0) (nI pl) (nI hr) (nI sp)) N ((1 : Int32), u)) fun q => (∃ m, FwI n T a (fun _ => 13) 1 s0 x m q.2.2) ∧ Fst (Hit n T a s0 pl sp hr) 1 (hr + 8) (if q.1 = 0 then q.2.1 else -1) := by
  obtain ⟨⟨n4, n12⟩, e41, hw, ps⟩ := al
  obtain ⟨e1, e2, e3, e4⟩ := nI_dec s0 (by have := hs.1; omega)
  have ee : nI hr + (8 : Int32) = nI (hr + 8) := nI_add hr 8
  refine Wp_for (fun (i : Nat) (w : Hp) => (nI i, w)) (hr + 9) (fun i w => 1 ≤ i ∧ FwI n T a (fun _ => 13) 1 s0 x (i - 1) w ∧ ∀ j, 1 ≤ j → j < i → ¬ Hit n T a s0 pl sp hr j) ?_ ?_ (i0 := 1) (x0 := u) (by omega) (by omega) ⟨by omega, iu, fun j z1 z2 => by omega⟩
  · rintro i w hi ⟨hi1, iw, no⟩
    have eH : irem (f131 (nI s0) + nI i - (1 : Int32)) 8 = nI ((s0 / 5 % 8 + (i - 1)) % 8) := by
      rw [e3, nI_add, show nI (s0 / 5 % 8 + i) - (1 : Int32) = nI (s0 / 5 % 8 + i - 1) from pk_sub (a := s0 / 5 % 8 + i) (b := 1) (by omega), show s0 / 5 % 8 + i - 1 = s0 / 5 % 8 + (i - 1) by omega]
      exact pk_rem (d := 8) (by omega) (by omega) (by omega)
    unfold f7_l5
    dsimp only
    rw [ee, if_neg (by rw [ti_lt, ti_nI (by omega), ti_nI (by omega)]; omega), eH, Wp_bind]
    refine Wp_mono (show Wp (f20 N (nI ((s0 / 5 % 8 + (i - 1)) % 8)) (nI 1) (-1) w) _ from FwI_s hN n4 n12 hs (by omega) e41 (ps _ (by omega)).1 (ps _ (by omega)).2 stg13 iw) (fun y ⟨y1, _⟩ => ?_)
    rw [show i - 1 + 1 = i by omega] at y1
    have y1' := y1
    obtain ⟨j1, j2, c6, c7, r6, r7, h6, h7, h67, rh⟩ := y1
    have f0 : f133 0 (nI pl) = nI (12 * 0 + pl) := nI_cell 0 pl
    have f1 : f133 1 (nI pl) = nI (12 * 1 + pl) := nI_cell 1 pl
    have f2 : f133 2 (nI pl) = nI (12 * 2 + pl) := nI_cell 2 pl
    have ek : nI sp - (1 : Int32) = nI (sp - 1) := pk_sub (a := sp) (b := 1) (by omega)
    rw [r6]
    simp only [Option.bind_some, Wp_gd, Wp_bnd, f0, f1, f2, ek]
    rw [(ch_shp h6).2, nix (by omega), nix (by omega), nix (by omega)]
    refine ⟨⟨(ch_shp h6).1, nbk (by omega) (by omega)⟩, ⟨(ch_shp h6).1, nbk (by omega) (by omega)⟩, ⟨(ch_shp h6).1, nbk (by omega) (by omega)⟩, ?_⟩
    have hb : bt (hI y.2 c6 (12 * 0 + pl) ||| hI y.2 c6 (12 * 1 + pl) ||| hI y.2 c6 (12 * 2 + pl)) (sp - 1) ↔ ∃ s, Rm n T a s0 i s ∧ s / 40 % 12 = pl ∧ s % 5 = sp := by
      have one : ∀ L, L < 3 → (bt (hI y.2 c6 (12 * L + pl)) (sp - 1) ↔ Rm n T a s0 i (st4 L pl ((s0 / 5 % 8 + i) % 8) sp)) := fun L hL => by
        have := rh 0 L pl (sp - 1) (by omega) hL (by omega) (by omega)
        rw [show 0 * 36 + (12 * L + pl) = 12 * L + pl by omega, show sp - 1 + 1 = sp by omega] at this
        rw [this]
        exact ⟨fun z => ((Fs_13 i 0 _).1 z.2.2).2, fun z => ⟨by omega, hp, (Fs_13 i 0 _).2 ⟨rfl, z⟩⟩⟩
      rw [bt_or (by omega), bt_or (by omega), one 0 (by omega), one 1 (by omega), one 2 (by omega)]
      have d : ∀ L, st4 L pl ((s0 / 5 % 8 + i) % 8) sp / 40 % 12 = pl ∧ st4 L pl ((s0 / 5 % 8 + i) % 8) sp % 5 = sp := fun L => by
        have := st4_d (L := L) (P := pl) (H := (s0 / 5 % 8 + i) % 8) (A := sp) (by omega) (by omega) (by omega)
        exact ⟨this.2.1, this.2.2.2.1⟩
      constructor
      · rintro ((z | z) | z)
        · exact ⟨_, z, d 0⟩
        · exact ⟨_, z, d 1⟩
        · exact ⟨_, z, d 2⟩
      · rintro ⟨s, z1, z2, z3⟩
        obtain ⟨i1, i2⟩ := Rm_i n4 n12 hs i s z1
        obtain ⟨d1, d2, d3, d4, d5, d6, d7⟩ := ist_d i1
        rw [z2, z3, i2] at d6
        rw [d6] at z1
        have : s / 480 = 0 ∨ s / 480 = 1 ∨ s / 480 = 2 := by omega
        rcases this with q | q | q
        · rw [q] at z1; exact Or.inl (Or.inl z1)
        · rw [q] at z1; exact Or.inl (Or.inr z1)
        · rw [q] at z1; exact Or.inr z1
    generalize hI y.2 c6 (12 * 0 + pl) ||| hI y.2 c6 (12 * 1 + pl) ||| hI y.2 c6 (12 * 2 + pl) = v at hb ⊢
    unfold f7_b55
    have skip : ¬ Hit n T a s0 pl sp hr i → Wp (bnd (nI i + 1) fun v12 => (some (0, (v12, y.2)) : Option (Nat × (Int32 × Hp)))) (fun q => (q.1 = 0 ∧ ∃ x', q.2 = (nI (i + 1), x') ∧ 1 ≤ i + 1 ∧ FwI n T a (fun _ => 13) 1 s0 x (i + 1 - 1) x' ∧ ∀ j, 1 ≤ j → j < i + 1 → ¬ Hit n T a s0 pl sp hr j)) := fun nh => by
      rw [Wp_bnd, Wp_some, nI_1]
      refine ⟨rfl, y.2, rfl, by omega, y1', fun j z1 z2 => ?_⟩
      by_cases cj : j = i
      · subst cj; exact nh
      · exact no j z1 (by omega)
    by_cases ch' : hr ≤ i
    · rw [if_neg (by rw [ti_lt, ti_nI (by omega), ti_nI (by omega)]; omega)]
      by_cases cb : bt v (sp - 1)
      · have cb' : f123 v (nI (sp - 1)) = 1 := cb
        rw [cb', if_neg (by decide), Wp_some]
        refine Or.inr ⟨0, rfl, ⟨i, y1'⟩, Or.inl ⟨i, hi1, by omega, ?_, ⟨ch', hb.1 cb⟩, no⟩⟩
        dsimp only
        rw [if_pos rfl]
      · rw [if_pos (bt_n.1 cb)]
        exact Wp_mono (skip (fun z => cb (hb.2 z.2))) (fun q hq => Or.inl hq)
    · rw [if_pos (by rw [ti_lt, ti_nI (by omega), ti_nI (by omega)]; omega)]
      exact Wp_mono (skip (fun z => ch' z.1)) (fun q hq => Or.inl hq)
  · rintro w ⟨_, iw, no⟩
    unfold f7_l5
    dsimp only
    rw [ee, if_pos (by rw [ti_lt, ti_nI (by omega), ti_nI (by omega)]; omega), Wp_some]
    refine ⟨1, rfl, ⟨_, iw⟩, Or.inr ⟨?_, fun j z1 z2 => no j z1 (by omega)⟩⟩
    dsimp only
    rw [if_neg (by omega)]
theorem meetM_w (hN : 10000 ≤ N) (l : Ld n T a h) (hs : ist n s0) (hp : pl < n) (hh : hr ≤ 48) (h1 : 1 ≤ sp) (h4 : sp ≤ 4) (i0 : In h 10 (Rm n T a s0 0)) : Wp (lp (f220_l25 N (nI pl) (nI hr) (nI sp)) N ((1 : Int32), h)) fun q => FW h q.2.2 ∧ Fst (Hit n T a s0 pl sp hr) 1 (hr + 8) (if q.1 = 0 then q.2.1 else -1) := by
  obtain ⟨⟨n4, n12⟩, l2⟩ := id l
  have ee : nI hr + (8 : Int32) = nI (hr + 8) := nI_add hr 8
  refine Wp_for (fun (i : Nat) (w : Hp) => (nI i, w)) (hr + 9) (fun i w => 1 ≤ i ∧ FW h w ∧ In w 10 (Rm n T a s0 (i - 1)) ∧ ∀ j, 1 ≤ j → j < i → ¬ Hit n T a s0 pl sp hr j) ?_ ?_ (i0 := 1) (x0 := h) (by omega) (by omega) ⟨by omega, FW.rfl', i0, fun j z1 z2 => by omega⟩
  · rintro i w hi ⟨hi1, fw, iw, no⟩
    unfold f220_l25
    dsimp only
    rw [ee, if_neg (by rw [ti_lt, ti_nI (by omega), ti_nI (by omega)]; omega), Wp_bind]
    refine Wp_mono (goM_w hN (Ld_c l fw) iw (fun s' hs' => (Rm_i n4 n12 hs (i - 1) s' hs').1)) (fun y ⟨y1, y2⟩ => ?_)
    have y2' : In y 10 (Rm n T a s0 i) := by
      have e : i = i - 1 + 1 := by omega
      rw [e]
      exact y2
    unfold f220_b58
    have skip : ¬ Hit n T a s0 pl sp hr i → Wp (bnd (nI i + 1) fun v12 => (some (0, (v12, y)) : Option (Nat × (Int32 × Hp)))) (fun q => (q.1 = 0 ∧ ∃ x', q.2 = (nI (i + 1), x') ∧ 1 ≤ i + 1 ∧ FW h x' ∧ In x' 10 (Rm n T a s0 (i + 1 - 1)) ∧ ∀ j, 1 ≤ j → j < i + 1 → ¬ Hit n T a s0 pl sp hr j)) := fun nh => by
      rw [Wp_bnd, Wp_some, nI_1]
      refine ⟨rfl, y, rfl, by omega, fw.trans y1, y2', fun j z1 z2 => ?_⟩
      by_cases cj : j = i
      · subst cj; exact nh
      · exact no j z1 (by omega)
    by_cases ch' : hr ≤ i
    · rw [if_pos (by rw [ti_le, ti_nI (by omega), ti_nI (by omega)]; omega), Wp_bind]
      have srch : Wp (lp (f220_l38 N (nI pl) (nI hr) (nI sp) (nI i) y) N (0 : Int32)) fun q => (q.1 = 0 ∧ Hit n T a s0 pl sp hr i) ∨ (¬ q.1 = 0 ∧ ¬ Hit n T a s0 pl sp hr i) := by
        refine Wp_for (fun (s : Nat) (_ : Unit) => nI s) 1440 (fun s _ => ∀ s', s' < s → ¬ (Rm n T a s0 i s' ∧ s' / 40 % 12 = pl ∧ s' % 5 = sp)) ?_ ?_ (i0 := 0) (x0 := ()) (by omega) (by omega) (fun _ z => by omega)
        · rintro s _ hs' hno
          obtain ⟨d1, d2, d3, d4⟩ := nI_dec s (by omega)
          have d2' : f145 (nI s) = nI (s / 40 % 12) := d2
          have d4' : f147 (nI s) = nI (s % 5) := d4
          unfold f220_l38 f220_b56
          rw [if_neg (show ¬ (1440 : Int32) ≤ nI s by rw [ti_le, ti_nI (by omega)]; show ¬ (1440 : Int) ≤ _; omega), Wp_gd]
          refine ⟨nbk hs' (by omega), ?_⟩
          rw [nix (by omega), d2', d4']
          have sk : ¬ (Rm n T a s0 i s ∧ s / 40 % 12 = pl ∧ s % 5 = sp) → Wp (bnd (nI s + 1) fun v14 => (some (0, v14) : Option (Nat × Int32))) (fun q => (q.1 = 0 ∧ ∃ x' : Unit, q.2 = nI (s + 1) ∧ ∀ s', s' < s + 1 → ¬ (Rm n T a s0 i s' ∧ s' / 40 % 12 = pl ∧ s' % 5 = sp))) := fun nh => by
            rw [Wp_bnd, Wp_some, nI_1]
            refine ⟨rfl, (), rfl, fun s' z1 => ?_⟩
            by_cases cs : s' = s
            · subst cs; exact nh
            · exact hno s' (by omega)
          by_cases cg : Rm n T a s0 i s
          · rw [if_neg (by rw [In_0 y2' hs']; exact fun z => z cg)]
            by_cases cp : s / 40 % 12 = pl
            · rw [if_pos (by rw [cp])]
              by_cases c5 : s % 5 = sp
              · rw [if_pos (by rw [c5]), Wp_some]
                exact Or.inr ⟨0, rfl, Or.inl ⟨rfl, ch', s, cg, cp, c5⟩⟩
              · rw [if_neg (fun z => c5 (nI_inj (by omega) (by omega) z))]
                exact Wp_mono (sk (fun z => c5 z.2.2)) (fun q hq => Or.inl hq)
            · rw [if_neg (fun z => cp (nI_inj (by omega) (by omega) z))]
              exact Wp_mono (sk (fun z => cp z.2.1)) (fun q hq => Or.inl hq)
          · rw [if_pos ((In_0 y2' hs').2 cg)]
            exact Wp_mono (sk (fun z => cg z.1)) (fun q hq => Or.inl hq)
        · rintro _ hno
          unfold f220_l38
          rw [if_pos (show (1440 : Int32) ≤ nI 1440 by decide), Wp_some]
          refine ⟨1, rfl, Or.inr ⟨by dsimp only; omega, fun ⟨_, s, z1, z2⟩ => ?_⟩⟩
          exact hno s (Rm_i n4 n12 hs i s z1).1.1 ⟨z1, z2⟩
      refine Wp_mono srch (fun q hq => ?_)
      rcases hq with ⟨q1, q2⟩ | ⟨q1, q2⟩
      · rw [if_pos q1, Wp_some]
        refine Or.inr ⟨0, rfl, fw.trans y1, Or.inl ⟨i, hi1, by omega, ?_, q2, no⟩⟩
        dsimp only
        rw [if_pos rfl]
      · rw [if_neg q1]
        exact Wp_mono (skip q2) (fun q hq => Or.inl hq)
    · rw [if_neg (by rw [ti_le, ti_nI (by omega), ti_nI (by omega)]; omega)]
      exact Wp_mono (skip (fun z => ch' z.1)) (fun q hq => Or.inl hq)
  · rintro w ⟨_, fw, iw, no⟩
    unfold f220_l25
    dsimp only
    rw [ee, if_pos (by rw [ti_lt, ti_nI (by omega), ti_nI (by omega)]; omega), Wp_some]
    refine ⟨1, rfl, fw, Or.inr ⟨?_, fun j z1 z2 => no j z1 (by omega)⟩⟩
    dsimp only
    rw [if_neg (by omega)]
end
theorem Wp_e01 {X Q : Type} {e : Nat} {v : Int32} {h : Q} {C : Int32 × Q → Prop} (c : C ((if e = 0 then v else -1), h)) : Wp (if e = 0 then some (v, h) else some ((-1 : Int32), h)) C := by
  by_cases z : e = 0
  · rw [if_pos z, Wp_some]; rw [if_pos z] at c; exact c
  · rw [if_neg z, Wp_some]; rw [if_neg z] at c; exact c
section
variable {n L N : Nat} {T : Nat → Tc} {hx hm : Hp}
/-- all the hours prepared -/
theorem Rl.prep (hN : 10000 ≤ N) (r : Rl n L T hx hm) (wf : WF 0 hx) : Wp (f4 N 0 8 hx) fun x => FZ hx x ∧ Ch n (Tr T (hI hm 1 3)) x (hI hm 1) ∧ Al n (Tr T (hI hm 1 3)) (hI hm 1) x := by
  refine Wp_mono (show Wp (f4 N (nI 0) (nI 8) hx) _ from prep_w (by omega) (r.en wf.2) r.ch (by omega) (by omega)) (fun x ⟨fx, cx, bx⟩ => ?_)
  have bt8 : ∀ k, k < 8 → bt (hI x 64 10) k ∧ bt (hI x 64 11) k := fun k hk => by
    have := bx k hk hk
    rw [show (0 + k) % 8 = k by omega] at this
    exact this
  exact ⟨FZ.p fx.1, cx, Al_of (r.en wf.2) (FZ.p fx.1) cx (fun H hH => (bt8 H hH).1) (fun H hH => (bt8 H hH).2)⟩
theorem op_meet (p1 p2 p3 p4 : Int32) (hN : 10000 ≤ N) (r : Rl n L T hx hm) (wf : WF 0 hx) : Wp (f111 N p1 p2 p3 p4 hx) fun x => Wp (f220 N p1 p2 p3 p4 hm) fun y => x.1 = y.1 ∧ Rl n L T x.2 y.2 := by
  have z1 : ¬ (1 : Int32) = 0 := by decide
  have t0 : (0 : Int32).toInt = 0 := rfl
  have t1 : (1 : Int32).toInt = 1 := rfl
  have t4 : (4 : Int32).toInt = 4 := rfl
  have t48 : (48 : Int32).toInt = 48 := rfl
  have n4 := r.n4
  have n12 := r.n12
  have k3 := i59 (N := N) p2 r
  have k4 := i142 (N := N) p2 r
  rcases i128 (N := N) p1 r with ⟨s, rfl, hs, k1, k2⟩ | ⟨k1, k2⟩
  · by_cases c2 : 0 ≤ p2.toInt ∧ p2.toInt < (n : Int)
    · rw [if_pos c2] at k3 k4
      by_cases c3 : 0 ≤ p3.toInt ∧ p3.toInt ≤ 48
      · have d1 : ¬ p3 < 0 := by rw [ti_lt]; omega
        have d2 : p3 ≤ 48 := by rw [ti_le]; omega
        have d3 : ¬ f139 p3 0 48 = 0 := fun z => i139.1 z c3
        by_cases c4 : 1 ≤ p4.toInt ∧ p4.toInt ≤ 4
        · have d4 : ¬ p4 < 1 := by rw [ti_lt]; omega
          have d5 : p4 ≤ 4 := by rw [ti_le]; omega
          have d6 : ¬ f139 p4 1 4 = 0 := fun z => i139.1 z c4
          obtain ⟨pl, rfl, hpl⟩ : ∃ k, p2 = nI k ∧ k < n := ⟨tn p2, (nI_tn c2.1).symm, by unfold tn; omega⟩
          obtain ⟨hr, rfl, hhr⟩ : ∃ k, p3 = nI k ∧ k ≤ 48 := ⟨tn p3, (nI_tn c3.1).symm, by unfold tn; omega⟩
          obtain ⟨sp, rfl, hsp1, hsp4⟩ : ∃ k, p4 = nI k ∧ 1 ≤ k ∧ k ≤ 4 := ⟨tn p4, (nI_tn (by omega)).symm, by unfold tn; omega, by unfold tn; omega⟩
          simp only [f111, f7, f220, f207, k1, k2, k3, k4, d1, d2, d3, d4, d5, d6, z1, Option.bind_some, if_false, if_true, Wp_bind, Wp_some]
          refine Wp_mono (r.prep hN wf) (fun x ⟨fx, cx, ax⟩ => ?_)
          refine Wp_mono (FwI_0 (sf := fun _ => 13) (K := 1) hN n12 hs (by omega) cx) (fun u iu => ?_)
          refine Wp_mono (meetX_w hN ax hs hpl hhr hsp1 hsp4 iu) (fun q ⟨⟨m, q1⟩, q2⟩ => ?_)
          refine Wp_e01 (X := Unit) ?_
          refine Wp_mono (r.lay hN) (fun y ⟨y1, y2, y3⟩ => ?_)
          refine Wp_mono (begF_w hN hs.1) (fun z ⟨z1', z2⟩ => ?_)
          refine Wp_mono (meetM_w hN (Ld_c y2 z1') hs hpl hhr hsp1 hsp4 z2) (fun w ⟨w1, w2⟩ => ?_)
          refine Wp_e01 (X := Unit) ?_
          obtain ⟨f1, f2⟩ := FwI_ch q1 cx
          have fw := z1'.trans w1
          exact ⟨Fst_u q2 w2 (fun _ _ _ => Iff.rfl), r.ct (fx.trans f1) f2 (y1.trans (FT.w fw)) (Ld.tb (Ld_c y2 fw) (by rw [fw 0 (by omega)]; exact y3))⟩
        · have d6 : f139 p4 1 4 = 0 := i139.2 c4
          by_cases d4 : p4 < 1
          · simp only [f111, f220, k1, k2, k3, k4, d1, d2, d3, d4, d6, z1, Option.bind_some, if_false, if_true, Wp_some, true_and]
            exact r
          · have d5 : ¬ p4 ≤ 4 := by rw [ti_lt] at d4; rw [ti_le]; omega
            simp only [f111, f220, k1, k2, k3, k4, d1, d2, d3, d4, d5, d6, z1, Option.bind_some, if_false, if_true, Wp_some, true_and]
            exact r
      · have d3 : f139 p3 0 48 = 0 := i139.2 c3
        by_cases d1 : p3 < 0
        · simp only [f111, f220, k1, k2, k3, k4, d1, d3, z1, Option.bind_some, if_false, if_true, Wp_some, true_and]
          exact r
        · have d2 : ¬ p3 ≤ 48 := by rw [ti_lt] at d1; rw [ti_le]; omega
          simp only [f111, f220, k1, k2, k3, k4, d1, d2, d3, z1, Option.bind_some, if_false, if_true, Wp_some, true_and]
          exact r
    · rw [if_neg c2] at k3 k4
      simp only [f111, f220, k1, k2, k3, k4, z1, Option.bind_some, if_false, if_true, Wp_some, true_and]
      exact r
  · simp only [f111, f220, k1, k2, Option.bind_some, if_true, Wp_some, true_and]
    exact r
end
