/-! ===== go ===== -/
section
variable {n L N : Nat} {T : Nat → Tc} {hx hm : Hp}
theorem Oc_cases {T : Tc} {e : Nat → Int32} {s c w : Nat} {r : Int32} (n4 : 4 ≤ n) (n12 : n ≤ 12) (h : Oc n T e s c w r) : (r = -1 ∧ ¬ (1 ≤ s / 480 + c / 4 ∧ s / 480 + c / 4 ≤ 3)) ∨ ((1 ≤ s / 480 + c / 4 ∧ s / 480 + c / 4 ≤ 3) ∧ ((∃ l p hh sp, l < 3 ∧ p < n ∧ hh < 8 ∧ 1 ≤ sp ∧ sp ≤ 4 ∧ r = nI (((12 * l + p) * 8 + hh) * 5 + sp)) ∨ ∃ l p, l < 3 ∧ p < n ∧ r = nI (2000 + 12 * l + p))) := by
  unfold Oc at h
  by_cases c1 : 1 ≤ s / 480 + c / 4 ∧ s / 480 + c / 4 ≤ 3
  · rw [if_pos c1] at h
    refine Or.inr ⟨c1, ?_⟩
    obtain ⟨sb1, sb2⟩ := spd_bd T (e 1).toInt ((s / 480 + c / 4 - 1 : Nat) : Int) ((s / 40 % 12 : Nat) : Int) ((s / 5 % 8 : Nat) : Int) ((s % 5 : Nat) : Int) ((c % 4 : Nat) : Int) (w : Int)
    generalize spd T (e 1).toInt ((s / 480 + c / 4 - 1 : Nat) : Int) ((s / 40 % 12 : Nat) : Int) ((s / 5 % 8 : Nat) : Int) ((s % 5 : Nat) : Int) ((c % 4 : Nat) : Int) (w : Int) = v at *
    rcases h with ⟨_, h⟩ | ⟨k, h1, h2, _, _, h⟩
    · exact Or.inl ⟨_, _, _, _, by omega, Nat.mod_lt _ (by omega), Nat.mod_lt _ (by omega), by omega, by omega, h⟩
    · exact Or.inr ⟨_, _, by omega, Nat.mod_lt _ (by omega), h⟩
  · rw [if_neg c1] at h
    exact Or.inl ⟨h, c1⟩
/-- the ship of both takes new numbers -/
theorem ship_r {x y : Hp} (r : Rl n L T hx hm) (xf : ∀ k, k ≠ 28 → hI x k = hI hx k) (xr : hR x = hR hx) (yf : ∀ k, k ≠ 1 → hI y k = hI hm k) (ya : ∀ j, j < 10 ∨ 17 ≤ j → hI y 1 j = hI hm 1 j) (q : QShip (fun k => hI x (27 + k)) (hI y 1)) (ns : NShip n (L + 1) (hI y 1)) (hl : (hI hm 1 16).toInt ≤ (hI y 1 16).toInt) : Rl n (L + 1) T x y := by
  have sc := r.sc
  have nw := sc.2.2.2.2.2.2.2.2.2.2.2.2.2
  have nc := sc.2.2.2.2.2.2.2.2.2.2.2.2.1
  refine Rl.now r (Nat.le_succ L) (fun k hk => xf k (by omega)) xr (by rw [xf 41 (by omega)]) (fun k hk => yf k (by omega)) (fun j hj => ya j (by omega)) ?_
  refine Sc_ship sc (fun k h1 h2 => xf _ (by omega)) (fun j h1 h2 => ya j (by omega)) q ?_ ns ?_ (fun j hj => ?_)
  · exact QWake_c sc.2.2.2.2.2.2.1 (tn_le nw.2.1) (xf _ (by omega)) (xf _ (by omega)) (xf _ (by omega)) (xf _ (by omega)) (fun j hj => ya j (by omega))
  · have nw' := NWake_c nw (tn_le nc.2.1) (a' := hI y 1) (fun j hj => ya j (by omega))
    exact ⟨nw'.1, nw'.2.1, fun i hi => ⟨NSt_L (nw'.2.2 i hi).1 (Nat.le_succ L), (nw'.2.2 i hi).2⟩⟩
  · have := (nc.2.2.2.1 j hj).2
    omega
def mtail (N : Nat) (v : Int32) (q9 : Hp) : Option (Int32 × Hp) :=
  bnd (hI q9 1 (ix (11 : Int32))) fun v10 =>
  if v < (2000 : Int32) then (  bnd (uI q9 1 (ix (10 : Int32)) (f144 v)) fun h12 =>
  bnd (uI h12 1 (ix (11 : Int32)) (f145 v)) fun h13 =>
  bnd (uI h13 1 (ix (12 : Int32)) (f146 v)) fun h14 =>
  bnd (uI h14 1 (ix (13 : Int32)) (f147 v)) fun h15 =>
  if (hI h15 1 (ix (12 : Int32))) = 0 then (  f201_b111 N v v10 (1 : Int32) (hI h15 1 (ix (15 : Int32))) (15 : Int32) h15) else (  f201_b111 N v v10 (0 : Int32) (hI h15 1 (ix (15 : Int32))) (15 : Int32) h15)) else (  bnd (uI q9 1 (ix (10 : Int32)) ((v - (2000 : Int32)) / (12 : Int32))) fun h22 =>
  bnd (uI h22 1 (ix (11 : Int32)) (irem (v - (2000 : Int32)) (12 : Int32))) fun h23 =>
  bnd (uI h23 1 (ix (14 : Int32)) (0 : Int32)) fun h24 =>
  f201_b113 N v v10 h24)
end
