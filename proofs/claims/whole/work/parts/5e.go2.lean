/-! ===== go ===== -/
section
variable {n L N : Nat} {T : Nat → Tc} {hx hm : Hp}
theorem st_nI {l p hh sp : Nat} : f143 (nI l) (nI p) (nI hh) (nI sp) = nI (((12 * l + p) * 8 + hh) * 5 + sp) := by
  unfold f143
  show ((nI 12 * nI l + nI p) * nI 8 + nI hh) * nI 5 + nI sp = _
  rw [pk_mul, nI_add, pk_mul, nI_add, pk_mul, nI_add]
theorem go_r {c w : Nat} (hN : 1000 ≤ N) (hL : L < 1000000) (r : Rl n L T hx hm) (wf : RF hx) (haf : hI hm 1 14 = 1) (hc : c < 12) (hw : w < 4) (hb : bt (hI hm 1 (20 + tn (hI hm 1 12))) w) : Wp (f120 N (nI c) (nI w) hx) fun x => Wp (f201 N (nI c) (nI w) hm) fun y => x.1 = y.1 ∧ Rl n (L + 1) T x.2 y.2 ∧ hR x.2 = hR hx ∧ hI y.2 1 4 = hI hm 1 4 ∧ (x.1 = -1 ↔ ¬ (1 ≤ tn (hI hm 1 10) + c / 4 ∧ tn (hI hm 1 10) + c / 4 ≤ 3)) ∧ (x.1 = -1 → FX hx x.2) := by
  have n4 := r.n4
  have n12 := r.n12
  obtain ⟨a0, a1, a2, a3, a4, a5, a6⟩ := r.sc.2.1
  have a0 : hI hx 28 0 = hI hm 1 10 := a0
  have a1 : hI hx 28 1 = hI hm 1 11 := a1
  have a2 : hI hx 28 2 = hI hm 1 12 := a2
  have a3 : hI hx 28 3 = hI hm 1 13 := a3
  obtain ⟨u1, u2, u3, u4, u5, u6, u7, u8, u9, u10, u11⟩ := r.sc.2.2.2.2.2.2.2.2.1
  dsimp only [Nat.reduceAdd] at u1 u2 u3 u4 u5 u6 u7 u8 u9 u10 u11
  have e0 := nI_tn (x := hI hm 1 10) (by omega)
  have e1 := nI_tn (x := hI hm 1 11) (by omega)
  have e2 := nI_tn (x := hI hm 1 12) (by omega)
  have e3 := nI_tn (x := hI hm 1 13) (by omega)
  have b0 : tn (hI hm 1 10) < 3 := by unfold tn; omega
  have b1 : tn (hI hm 1 11) < n := by unfold tn; omega
  have b2 : tn (hI hm 1 12) < 8 := by unfold tn; omega
  have b3 : 1 ≤ tn (hI hm 1 13) ∧ tn (hI hm 1 13) ≤ 4 := by unfold tn; omega
  generalize tn (hI hm 1 10) = l at *
  generalize tn (hI hm 1 11) = p at *
  generalize tn (hI hm 1 12) = hh at *
  generalize tn (hI hm 1 13) = sp at *
  have hs : ist n (((12 * l + p) * 8 + hh) * 5 + sp) := ⟨by omega, by omega, by omega⟩
  have sl : (((12 * l + p) * 8 + hh) * 5 + sp) / 480 = l := by omega
  have s1 : f82 N hx = some (nI (((12 * l + p) * 8 + hh) * 5 + sp)) := by
    unfold f82
    rw [e143, a0, a1, a2, a3, ← e0, ← e1, ← e2, ← e3, st_nI]
  have i10 : ix (10 : Int32) = 10 := rfl
  have i11 : ix (11 : Int32) = 11 := rfl
  have i12 : ix (12 : Int32) = 12 := rfl
  have i13 : ix (13 : Int32) = 13 := rfl
  have i14 : ix (14 : Int32) = 14 := rfl
  have s2 : f198 N hm = some (nI (((12 * l + p) * 8 + hh) * 5 + sp)) := by
    unfold f198
    rw [i10, i11, i12, i13, ← e0, ← e1, ← e2, ← e3, st_nI]
  generalize hS : ((12 * l + p) * 8 + hh) * 5 + sp = s at *
  obtain ⟨x, ex, y, ey, exy, fx, fy, oc⟩ := r.out (N := N) hN wf hs hc hw
  have tc : (nI c).toInt = (c : Int) := ti_nI (by omega)
  have tw : (nI w).toInt = (w : Int) := ti_nI (by omega)
  have v20 : (20 : Int32) + nI hh = nI (20 + hh) := nI_add 20 hh
  have z1 : ¬ (1 : Int32) = 0 := by decide
  have k0 : ¬ hI hm 1 14 = 0 := by rw [haf]; exact z1
  have k1 : ¬ f139 (nI c) 0 11 = 0 := fun z => i139.1 z ⟨by rw [tc]; show (0 : Int) ≤ _; omega, by rw [tc]; show _ ≤ (11 : Int); omega⟩
  have k2 : ¬ f139 (nI w) 0 3 = 0 := fun z => i139.1 z ⟨by rw [tw]; show (0 : Int) ≤ _; omega, by rw [tw]; show _ ≤ (3 : Int); omega⟩
  have k3 : ¬ f141 (hI hm 1 (20 + hh)) (nI w) = 0 := by rw [e141]; rw [show f123 (hI hm 1 (20 + hh)) (nI w) = 1 from hb]; exact z1
  have G : f201 N (nI c) (nI w) hm = if 0 ≤ y.1 then (f200 N y.2).bind (fun q9 => mtail N y.1 q9) else some (-1, y.2) := by
    unfold f201
    rw [i14, if_neg k0, if_neg k1, if_neg k2, i12, ← e2, v20, gd_pos (nbk (by omega) (by omega)), nix (show 20 + hh < 2147483648 by omega), if_neg k3, s2, Option.bind_some, ey, Option.bind_some]
    rfl
  have X : f120 N (nI c) (nI w) hx = if x.1 = -1 then some (x.1, x.2) else (f87 N x.2).bind fun q4 => (f84 N x.1 (hI q4 41 0) q4).bind fun q5 => some (x.1, q5) := by
    unfold f120
    rw [s1, Option.bind_some, ex, Option.bind_some]
  rw [X, G, ← exy]
  have r1 := r.scr fx fy
  rcases Oc_cases n4 n12 oc with ⟨h1, h2⟩ | ⟨h1, h2⟩
  · rw [sl] at h2
    rw [h1, if_pos rfl, if_neg (by decide), Wp_some, Wp_some]
    exact ⟨rfl, r1.mono (Nat.le_succ L), fx.2, by rw [fy 1 (by omega) (by omega)], ⟨fun _ => h2, fun _ => rfl⟩, fun _ => fx⟩
  · rw [sl] at h1
    have tv : 0 ≤ x.1.toInt := by
      rcases h2 with ⟨l, p, hh, sp, q1, q2, q3, q4, q5, e⟩ | ⟨l, p, q1, q2, e⟩
      · rw [e, ti_nI (by omega)]; omega
      · rw [e, ti_nI (by omega)]; omega
    have hne : ¬ x.1 = -1 := fun z => by rw [z] at tv; exact absurd tv (by decide)
    rw [if_neg hne, if_pos (by rw [ti_le]; exact tv)]
    simp only [Wp_bind, Wp_some]
    refine Wp_mono (wake_r hN r1 (by rw [fy 1 (by omega) (by omega)]; exact haf)) (fun q hq => ?_)
    obtain ⟨q', eq', r2, hk, hr, h4⟩ := hq
    rw [eq']
    refine Wp_mono (come_r (p2 := hI q 41 0) hL r2 h2) (fun q5 hq5 => ?_)
    rw [Wp_some]
    refine Wp_mono hq5 (fun y2 ⟨t1, t2, t3, t4⟩ => ⟨t1.symm, t2, by rw [t3, hr, fx.2], by rw [t4 4 (by omega), h4, fy 1 (by omega) (by omega)], ⟨fun z => absurd z hne, fun z => absurd h1 z⟩, fun z => absurd z hne⟩)
end
