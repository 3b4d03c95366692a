/-! ===== the reference's constructor ===== -/
section CM
variable {d i b c r op : Nat} {a v : Int32} {ls : Lv} {h : Hp} {Q : Option Value → Hp → Prop}
theorem cm_mk {z u t s : Nat} {e f : Int32} (g1 : ins 137 i = (54, e, 0, u)) (g2 : ins 137 (i + 1) = (op, v, t, s)) (g3 : ins 137 (i + 2) = (121, f, b, z)) (g4 : ins 137 (i + 3) = (113, a, 12, c)) (hop : op = 1 ∨ op = 2 ∨ op = 3 ∨ op = 4) (hr : hN h = r) (hs : (shp 1 r).1 = b) (hv : v.toInt = ((shp 1 r).2 : Int)) (hc : r < 15) (h0 : srf 1 0 c = some r) (hl : lget ls 0 = some (.ref 0)) (hd : 5 ≤ d) (kk : R 1 d 137 (i + 4) ls [] (uR (hNew h) 0 c (some r)) Q) : R 1 d 137 i ls [] h Q := by
  refine R_aload_n g1 hl ?_
  have K : R 1 d 137 (i + 2) ls [.int v, .ref 0] h Q := by
    subst hr
    refine R_al g3 (by decide) (by decide) (show (if (shp 1 (hN h)).1 = b ∧ hN h < cap 1 ∧ v.toInt = ((shp 1 (hN h)).2 : Int) then some ([Value.ref (hN h), .ref 0], hNew h) else none) = some ([.ref (hN h), .ref 0], hNew h) from if_pos ⟨hs, hc, hv⟩) (fun h1 e1 => ?_)
    subst e1
    refine R_hw g4 (by decide) (by decide) hd (show (if (shp 1 0).1 = 12 ∧ 0 < hN (hNew h) ∧ (srf 1 0 c = none ∨ srf 1 0 c = some (hN h)) then some ([], uR (hNew h) 0 c (some (hN h))) else none) = some ([], uR (hNew h) 0 c (some (hN h))) from if_pos ⟨rfl, Nat.succ_pos _, Or.inr h0⟩) ?_
    first | exact fun h1 e1 => e1 ▸ kk | exact kk
  rcases hop with rfl | rfl | rfl | rfl
  · exact R_iconst g2 K
  · exact R_bipush g2 K
  · exact R_sipush g2 K
  · exact R_ldc g2 K
end CM
def hM6 : Hp := uR (hNew (hNew h00)) 0 0 (some 1)
def hM10 : Hp := uR (hNew hM6) 0 1 (some 2)
def hM14 : Hp := uR (hNew hM10) 0 3 (some 3)
def hM18 : Hp := uR (hNew hM14) 0 4 (some 4)
def hM21 : Hp := uI hM18 0 6 (-1)
def hM24 : Hp := uI hM21 0 7 (-1)
def hM28 : Hp := uR (hNew hM24) 0 17 (some 5)
def hM32 : Hp := uR (hNew hM28) 0 23 (some 6)
def hM36 : Hp := uR (hNew hM32) 0 24 (some 7)
def hM40 : Hp := uR (hNew hM36) 0 25 (some 8)
def hM44 : Hp := uR (hNew hM40) 0 26 (some 9)
def hM48 : Hp := uR (hNew hM44) 0 28 (some 10)
def hM52 : Hp := uR (hNew hM48) 0 29 (some 11)
def hM56 : Hp := uR (hNew hM52) 0 30 (some 12)
def hM60 : Hp := uR (hNew hM56) 0 31 (some 13)
def hM64 : Hp := uR (hNew hM60) 0 32 (some 14)
theorem srfM_c {c j : Nat} (hc : 15 ≤ c) : srfM c j = none := by
  unfold srfM
  have ap : ∀ (b : Bool) (f g : Nat → Option Nat), (cond b f g) j = cond b (f j) (g j) := fun b f g => by cases b <;> rfl
  have b : ∀ k, k ≤ 15 → Nat.blt c k = false := fun k hk => blt_f (by omega)
  rw [ap, b 8 (by omega)]
  simp only [ap, cond_false, cond_true, b 12 (by omega), b 14 (by omega), b 15 (by omega), Bool.cond_self]
theorem srfM_j {c j : Nat} (hj : 34 ≤ j) : srfM c j = none := by
  have b : ∀ k, k ≤ 34 → Nat.blt j k = false := fun k hk => blt_f (by omega)
  unfold srfM
  have ap : ∀ (b : Bool) (f g : Nat → Option Nat), (cond b f g) j = cond b (f j) (g j) := fun b f g => by cases b <;> rfl
  simp only [ap, b 17 (by omega), b 25 (by omega), b 29 (by omega), b 31 (by omega), b 32 (by omega), b 33 (by omega), cond_false, Bool.cond_self]
theorem rf_WF {H : Hp} (h1 : hN H = 15) (h2 : rfOK 1 15 34 H = true) : WF 1 H := by
  refine ⟨h1, fun c j q hs => ?_⟩
  rcases Nat.lt_or_ge c 15 with hc | hc
  · rcases Nat.lt_or_ge j 34 with hj | hj
    · unfold rfOK at h2
      have := List.all_eq_true.1 (List.all_eq_true.1 h2 c (List.mem_range.2 hc)) j (List.mem_range.2 hj)
      rw [hs] at this
      exact of_decide_eq_true this
    · rw [show srf 1 c j = srfM c j from rfl, srfM_j hj] at hs; cases hs
  · rw [show srf 1 c j = srfM c j from rfl, srfM_c hc] at hs; cases hs
theorem hM_wf : WF 1 hM64 := rf_WF rfl (by decide +kernel)
theorem hM_1 (j : Nat) : hI hM64 1 j = 0 := rfl
theorem hM_0 : hI hM64 0 5 = 0 ∧ hI hM64 0 6 = -1 ∧ hI hM64 0 7 = -1 ∧ hI hM64 0 27 = 0 := ⟨by decide +kernel, by decide +kernel, by decide +kernel, by decide +kernel⟩
theorem ctM_a {p : Int32} {d : Nat} {Q : Option Value → Hp → Prop} (hd : 5 ≤ d) (kk : R 1 d 137 64 [some (.ref 0), some (.int p), none] [] hM64 Q) : R 1 d 137 0 [some (.ref 0), some (.int p), none] [] (hNew h00) Q := by
  refine R_aload_n (i := 0) rfl rfl ?_
  refine R_oinit (i := 1) rfl hd (Nat.le_of_ble_eq_true rfl) ?_
  refine cm_mk (i := 2) (r := 1) rfl rfl rfl rfl (by decide) rfl rfl (by decide) (by decide) rfl rfl hd ?_
  show R 1 d 137 6 [some (.ref 0), some (.int p), none] [] hM6 Q
  refine cm_mk (i := 6) (r := 2) rfl rfl rfl rfl (by decide) rfl rfl (by decide) (by decide) rfl rfl hd ?_
  show R 1 d 137 10 [some (.ref 0), some (.int p), none] [] hM10 Q
  refine cm_mk (i := 10) (r := 3) rfl rfl rfl rfl (by decide) rfl rfl (by decide) (by decide) rfl rfl hd ?_
  show R 1 d 137 14 [some (.ref 0), some (.int p), none] [] hM14 Q
  refine cm_mk (i := 14) (r := 4) rfl rfl rfl rfl (by decide) rfl rfl (by decide) (by decide) rfl rfl hd ?_
  show R 1 d 137 18 [some (.ref 0), some (.int p), none] [] hM18 Q
  refine R_aload_n (i := 18) rfl rfl ?_
  refine R_iconst (i := 19) rfl ?_
  refine R_hw (i := 20) rfl (by decide) (by decide) hd (show (if (shp 1 0).1 = 12 ∧ 0 < hN hM18 then some (([] : List Value), uI hM18 0 6 (-1)) else none) = some ([], uI hM18 0 6 (-1)) from if_pos ⟨rfl, Nat.le_of_ble_eq_true rfl⟩) ?_
  first | rintro _ rfl | skip
  show R 1 d 137 21 [some (.ref 0), some (.int p), none] [] hM21 Q
  refine R_aload_n (i := 21) rfl rfl ?_
  refine R_iconst (i := 22) rfl ?_
  refine R_hw (i := 23) rfl (by decide) (by decide) hd (show (if (shp 1 0).1 = 12 ∧ 0 < hN hM21 then some (([] : List Value), uI hM21 0 7 (-1)) else none) = some ([], uI hM21 0 7 (-1)) from if_pos ⟨rfl, Nat.le_of_ble_eq_true rfl⟩) ?_
  first | rintro _ rfl | skip
  show R 1 d 137 24 [some (.ref 0), some (.int p), none] [] hM24 Q
  refine cm_mk (i := 24) (r := 5) rfl rfl rfl rfl (by decide) rfl rfl (by decide) (by decide) rfl rfl hd ?_
  show R 1 d 137 28 [some (.ref 0), some (.int p), none] [] hM28 Q
  refine cm_mk (i := 28) (r := 6) rfl rfl rfl rfl (by decide) rfl rfl (by decide) (by decide) rfl rfl hd ?_
  show R 1 d 137 32 [some (.ref 0), some (.int p), none] [] hM32 Q
  refine cm_mk (i := 32) (r := 7) rfl rfl rfl rfl (by decide) rfl rfl (by decide) (by decide) rfl rfl hd ?_
  show R 1 d 137 36 [some (.ref 0), some (.int p), none] [] hM36 Q
  refine cm_mk (i := 36) (r := 8) rfl rfl rfl rfl (by decide) rfl rfl (by decide) (by decide) rfl rfl hd ?_
  show R 1 d 137 40 [some (.ref 0), some (.int p), none] [] hM40 Q
  refine cm_mk (i := 40) (r := 9) rfl rfl rfl rfl (by decide) rfl rfl (by decide) (by decide) rfl rfl hd ?_
  show R 1 d 137 44 [some (.ref 0), some (.int p), none] [] hM44 Q
  refine cm_mk (i := 44) (r := 10) rfl rfl rfl rfl (by decide) rfl rfl (by decide) (by decide) rfl rfl hd ?_
  show R 1 d 137 48 [some (.ref 0), some (.int p), none] [] hM48 Q
  refine cm_mk (i := 48) (r := 11) rfl rfl rfl rfl (by decide) rfl rfl (by decide) (by decide) rfl rfl hd ?_
  show R 1 d 137 52 [some (.ref 0), some (.int p), none] [] hM52 Q
  refine cm_mk (i := 52) (r := 12) rfl rfl rfl rfl (by decide) rfl rfl (by decide) (by decide) rfl rfl hd ?_
  show R 1 d 137 56 [some (.ref 0), some (.int p), none] [] hM56 Q
  refine cm_mk (i := 56) (r := 13) rfl rfl rfl rfl (by decide) rfl rfl (by decide) (by decide) rfl rfl hd ?_
  show R 1 d 137 60 [some (.ref 0), some (.int p), none] [] hM60 Q
  refine cm_mk (i := 60) (r := 14) rfl rfl rfl rfl (by decide) rfl rfl (by decide) (by decide) rfl rfl hd ?_
  show R 1 d 137 64 [some (.ref 0), some (.int p), none] [] hM64 Q
  exact kk
/-- what the reference's row is at first -/
def A0 (j : Nat) : Int32 := if j = 3 then -1 else if j = 13 ∨ j = 14 then 1 else if 20 ≤ j ∧ j < 28 then 2 else if 30 ≤ j ∧ j < 66 then 9 else 0
def NwM (n : Int32) (H : Hp) : Prop := WF 1 H ∧ hI H 0 2 = n ∧ hI H 0 5 = 0 ∧ hI H 0 6 = -1 ∧ hI H 0 7 = -1 ∧ hI H 0 27 = 0 ∧ (∀ j, j < 500 → hI H 1 j = A0 j) ∧ ∀ j, j < 500 → hI H 2 j = A0 j
def ZM (H0 H : Hp) (lo n : Nat) (v : Int32) : Prop := WF 1 H ∧ (∀ j, hI H 0 j = hI H0 0 j) ∧ ∀ j, hI H 1 j = if lo ≤ j ∧ j < lo + n then v else hI H0 1 j
theorem WF.uI {w c j : Nat} {v : Int32} {h : Hp} (hW : WF w h) : WF w (uI h c j v) := hW
theorem ZM_next {H0 H : Hp} {lo n : Nat} {v : Int32} (z : ZM H0 H lo n v) : ZM H0 (uI H 1 (lo + n) v) lo (n + 1) v := by
  obtain ⟨z1, z2, z3⟩ := z
  refine ⟨z1, fun j => ?_, fun j => ?_⟩
  · show up2 H.1 1 (lo + n) v 0 j = _
    unfold up2
    rw [if_neg (by omega)]
    exact z2 j
  · show up2 H.1 1 (lo + n) v 1 j = _
    unfold up2
    by_cases c : j = lo + n
    · rw [if_pos ⟨rfl, c⟩, if_pos (by omega)]
    · rw [if_neg (by omega)]
      refine (z3 j).trans ?_
      by_cases c2 : lo ≤ j ∧ j < lo + n
      · rw [if_pos c2, if_pos (by omega)]
      · rw [if_neg c2, if_neg (by omega)]
section CT
variable {d : Nat} {p : Int32} {H0 : Hp} {Q : Option Value → Hp → Prop}
theorem ctM_A (hd : 5 ≤ d) (kk : ∀ H, ZM H0 H 20 8 2 → R 1 d 137 106 [some (.ref 0), some (.int p), some (.int (nI 8))] [] H Q) : ∀ (m n : Nat) (H : Hp), n + m = 8 → ZM H0 H 20 n 2 → R 1 d 137 94 [some (.ref 0), some (.int p), some (.int (nI n))] [] H Q := by
  intro m
  induction m with
  | zero =>
    intro n H e z
    have e : n = 8 := by omega
    subst e
    refine R_iload_n (i := 94) rfl rfl ?_
    refine R_bipush (i := 95) rfl ?_
    exact R_icmpge (i := 96) rfl (fun _ => kk H z) (fun c => absurd (by decide) c)
  | succ m ih =>
    intro n H e z
    have hlt : ¬ (8 : Int32) ≤ nI n := by
      rw [ti_le, show (8 : Int32) = nI 8 from rfl, ti_nI (by omega), ti_nI (by omega)]; omega
    refine R_iload_n (i := 94) rfl rfl ?_
    refine R_bipush (i := 95) rfl ?_
    refine R_icmpge (i := 96) rfl (fun c => absurd c hlt) (fun _ => ?_)
    refine R_aload_n (i := 97) rfl rfl ?_
    refine R_getF z.1 (i := 98) rfl rfl (by decide) rfl ?_
    refine R_bipush (i := 99) rfl ?_
    refine R_iload_n (i := 100) rfl rfl ?_
    refine R_iadd (i := 101) rfl ?_
    refine R_iconst (i := 102) rfl ?_
    have es : (20 : Int32) + nI n = nI (20 + n) := nI_add 20 n
    have eb : inb ((20 : Int32) + nI n) 500 := by
      rw [es]; unfold inb; rw [ti_nI (by omega)]; omega
    refine R_iastore z.1 (i := 103) rfl rfl eb hd (fun H1 e1 => ?_)
    rw [es, show ix (nI (20 + n)) = 20 + n from nI_clamp (by omega)] at e1
    refine R_iinc [some (.ref 0), some (.int p), some (.int (nI n + 1))] (i := 104) rfl rfl rfl ?_
    refine R_goto (i := 105) rfl ?_
    rw [show nI n + 1 = nI (n + 1) from (nI_add n 1)]
    subst e1
    exact ih (n + 1) _ (by omega) (ZM_next z)
theorem ctM_B (hd : 5 ≤ d) (kk : ∀ H, ZM H0 H 30 36 9 → R 1 d 137 120 [some (.ref 0), some (.int p), some (.int (nI 36))] [] H Q) : ∀ (m n : Nat) (H : Hp), n + m = 36 → ZM H0 H 30 n 9 → R 1 d 137 108 [some (.ref 0), some (.int p), some (.int (nI n))] [] H Q := by
  intro m
  induction m with
  | zero =>
    intro n H e z
    have e : n = 36 := by omega
    subst e
    refine R_iload_n (i := 108) rfl rfl ?_
    refine R_bipush (i := 109) rfl ?_
    exact R_icmpge (i := 110) rfl (fun _ => kk H z) (fun c => absurd (by decide) c)
  | succ m ih =>
    intro n H e z
    have hlt : ¬ (36 : Int32) ≤ nI n := by
      rw [ti_le, show (36 : Int32) = nI 36 from rfl, ti_nI (by omega), ti_nI (by omega)]; omega
    refine R_iload_n (i := 108) rfl rfl ?_
    refine R_bipush (i := 109) rfl ?_
    refine R_icmpge (i := 110) rfl (fun c => absurd c hlt) (fun _ => ?_)
    refine R_aload_n (i := 111) rfl rfl ?_
    refine R_getF z.1 (i := 112) rfl rfl (by decide) rfl ?_
    refine R_bipush (i := 113) rfl ?_
    refine R_iload_n (i := 114) rfl rfl ?_
    refine R_iadd (i := 115) rfl ?_
    refine R_bipush (i := 116) rfl ?_
    have es : (30 : Int32) + nI n = nI (30 + n) := nI_add 30 n
    have eb : inb ((30 : Int32) + nI n) 500 := by
      rw [es]; unfold inb; rw [ti_nI (by omega)]; omega
    refine R_iastore z.1 (i := 117) rfl rfl eb hd (fun H1 e1 => ?_)
    rw [es, show ix (nI (30 + n)) = 30 + n from nI_clamp (by omega)] at e1
    refine R_iinc [some (.ref 0), some (.int p), some (.int (nI n + 1))] (i := 118) rfl rfl rfl ?_
    refine R_goto (i := 119) rfl ?_
    rw [show nI n + 1 = nI (n + 1) from (nI_add n 1)]
    subst e1
    exact ih (n + 1) _ (by omega) (ZM_next z)
end CT
