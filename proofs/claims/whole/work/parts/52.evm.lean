/-! ===== the reference's evaluator ===== -/
def StL (arr : Nat → Int64) : List Int → Prop
  | [] => True
  | v :: cs => (arr cs.length).toInt = v ∧ StL arr cs
theorem StL_pu {arr : Nat → Int64} {x : Int64} : ∀ (cs : List Int) (j : Nat), cs.length ≤ j → StL arr cs → StL (puL arr j x) cs
  | [], _, _, _ => trivial
  | v :: cs, j, h, s => by
    have h' : cs.length + 1 ≤ j := h
    exact ⟨by rw [puL_ne (by omega)]; exact s.1, StL_pu cs j (by omega) s.2⟩
def b2I (b : Bool) : Int32 := if b = true then 1 else 0
def StB (arr : Nat → Int32) : List Bool → Prop
  | [] => True
  | v :: cs => arr cs.length = b2I v ∧ StB arr cs
theorem StB_pu {arr : Nat → Int32} {x : Int32} : ∀ (cs : List Bool) (j : Nat), cs.length ≤ j → StB arr cs → StB (pu arr j x) cs
  | [], _, _, _ => trivial
  | v :: cs, j, h, s => by
    have h' : cs.length + 1 ≤ j := h
    exact ⟨by rw [pu_ne (by omega)]; exact s.1, StB_pu cs j (by omega) s.2⟩
/-- what comes of an operation, of the reference's state -/
def Mp (nm : Nat → Int) (o : Nat) (p : List Int × List Bool) (p' : Nat × Nat) (pos : Nat) (h : Hp) (q : Nat × (Int32 × Int32 × Int32 × Hp)) : Prop := q.1 = 0 ∧ q.2.1 = nI (ev1 nm o p).1.length ∧ q.2.2.1 = nI (ev1 nm o p).2.length ∧ q.2.2.2.1 = nI (pos + 1) ∧ (∀ c, c ≠ 8 → hI q.2.2.2.2 c = hI h c) ∧ StL (hL q.2.2.2.2 7) (ev1 nm o p).1 ∧ StB (hI q.2.2.2.2 8) (ev1 nm o p).2 ∧ Bd (ev1 nm o p).1 ∧ ((ev1 nm o p).1.length, (ev1 nm o p).2.length) = p' ∧ p'.1 + p'.2 ≤ 32
/-- one operation in the reference's loop: v8 the operation, v10 its number -/
def mstep (N : Nat) (x2 x3 : Int32) (n tr pos v8 v10 : Int32) (h : Hp) : Option (Nat × (Int32 × Int32 × Int32 × Hp)) :=
  if (1 : Int32) < v8 then (  if v8 = (2 : Int32) then (  gd (inb (n - (1 : Int32)) 330) <|
  gd (inb (n - (1 : Int32)) 330) <|
  bnd (uL h 7 (ix (n - (1 : Int32))) (-(hL h 7 (ix (n - (1 : Int32)))))) fun h47 =>
  f188_b203 N x2 x3 n tr pos h47) else (  if (10 : Int32) ≤ v8 then (  if (20 : Int32) ≤ v8 then (  if v8 = (20 : Int32) then (  gd (inb (tr - (1 : Int32)) 330) <|
  if (hI h 8 (ix (tr - (1 : Int32)))) = 0 then (  f188_b160 N x2 x3 n tr pos (1 : Int32) (tr - (1 : Int32)) h) else (  f188_b160 N x2 x3 n tr pos (0 : Int32) (tr - (1 : Int32)) h)) else (  bnd (tr + (-1 : Int32)) fun v16 =>
  if v8 = (21 : Int32) then (  gd (inb (v16 - (1 : Int32)) 330) <|
  if (hI h 8 (ix (v16 - (1 : Int32)))) = 0 then (f188_b185 N x2 x3 n v16 pos (v16 - (1 : Int32)) h) else (  gd (inb v16 330) <|
  if (hI h 8 (ix v16)) = 0 then (f188_b185 N x2 x3 n v16 pos (v16 - (1 : Int32)) h) else (  f188_b202 N x2 x3 n v16 pos (1 : Int32) (v16 - (1 : Int32)) h))) else (  gd (inb (v16 - (1 : Int32)) 330) <|
  if (hI h 8 (ix (v16 - (1 : Int32)))) = 0 then (  gd (inb v16 330) <|
  if (hI h 8 (ix v16)) = 0 then (  f188_b202 N x2 x3 n v16 pos (0 : Int32) (v16 - (1 : Int32)) h) else (f188_b199 N x2 x3 n v16 pos (v16 - (1 : Int32)) h)) else (f188_b199 N x2 x3 n v16 pos (v16 - (1 : Int32)) h)))) else (  bnd (n + (-2 : Int32)) fun v33 =>
  gd (inb v33 330) <|
  gd (inb (v33 + (1 : Int32)) 330) <|
  gd (inb tr 330) <|
  bnd (uI h 8 (ix tr) ((f187 v8 (hL h 7 (ix v33)) (hL h 7 (ix (v33 + (1 : Int32))))) &&& 1)) fun h37 =>
  bnd (tr + (1 : Int32)) fun v38 =>
  f188_b203 N x2 x3 v33 v38 pos h37)) else (  bnd (n + (-1 : Int32)) fun v39 =>
  gd (inb (v39 - (1 : Int32)) 330) <|
  gd (inb v39 330) <|
  (f186 N v8 (hL h 7 (ix (v39 - (1 : Int32)))) (hL h 7 (ix v39)) h).bind fun q42 =>
  gd (inb (v39 - (1 : Int32)) 330) <|
  bnd (uL h 7 (ix (v39 - (1 : Int32))) q42) fun h44 =>
  f188_b203 N x2 x3 v39 tr pos h44))) else (  if v8 = 0 then (  f188_b77 N x2 x3 n tr pos (Int32.toInt64 v10) n h) else (  gd (inb v10 8) <|
  f188_b77 N x2 x3 n tr pos (Int32.toInt64 (hI h 6 (ix v10))) n h))
theorem inbk {k : Nat} (h : k < 330) : inb (nI k) 330 := inb_mk (by rw [ti_nI (by omega)]; omega) (by rw [ti_nI (by omega)]; omega)
theorem ixk {k : Nat} (h : k < 1000) : ix (nI k) = k := nI_clamp (by omega)
section
variable {N : Nat} {x2 x3 : Int32} {pos : Nat} {h : Hp} {nm : Nat → Int} {vs : List Int} {ts : List Bool} {p' : Nat × Nat}
theorem m_push {o : Nat} {x : Int64} {z : Int} (e : ev1 nm o (vs, ts) = (z :: vs, ts)) (hx : x.toInt = z) (hz : -1000000 ≤ z ∧ z ≤ 1000000) (hv : StL (hL h 7) vs) (ht : StB (hI h 8) ts) (hb : Bd vs) (h32 : vs.length + ts.length < 32) : Wp (f188_b77 N x2 x3 (nI vs.length) (nI ts.length) (nI pos) x (nI vs.length) h) (Mp nm o (vs, ts) (vs.length + 1, ts.length) pos h) := by
  have npos : nI pos + 1 = nI (pos + 1) := nI_1 pos
  unfold f188_b77 f188_b203 Mp
  rw [e, ixk (by omega)]
  simp only [Wp_gd, Wp_bnd, Wp_some, npos]
  refine ⟨inbk (by omega), trivial, nI_1 _, trivial, trivial, fun c hc => rfl, ⟨?_, ?_⟩, ht, fun v hv => ?_, rfl, by omega⟩
  · rw [hL_uL_eq, puL_eq]; exact hx
  · rw [hL_uL_eq]; exact StL_pu _ _ (Nat.le_refl _) hv
  · rcases List.mem_cons.1 hv with rfl | hv
    · exact hz
    · exact hb v hv
theorem m_truth {o : Nat} {b : Bool} {tr : List Bool} (e : ev1 nm o (vs, ts) = (vs, b :: tr)) {t0 : Int32} (h0 : t0 &&& 1 = b2I b) (hv : StL (hL h 7) vs) (ht : StB (hI h 8) tr) (hb : Bd vs) (h32 : vs.length + (tr.length + 1) ≤ 32) : Wp (f188_b202 N x2 x3 (nI vs.length) (nI (tr.length + 1)) (nI pos) t0 (nI tr.length) h) (Mp nm o (vs, ts) (vs.length, tr.length + 1) pos h) := by
  have npos : nI pos + 1 = nI (pos + 1) := nI_1 pos
  unfold f188_b202 f188_b203 Mp
  rw [e, ixk (by omega)]
  simp only [Wp_gd, Wp_bnd, Wp_some, npos]
  refine ⟨inbk (by omega), trivial, trivial, rfl, trivial, fun c hc => by rw [hI_uI_ne hc], hv, ⟨?_, ?_⟩, hb, rfl, by omega⟩
  · rw [hI_uI_eq, pu_eq]; exact h0
  · rw [hI_uI_eq]; exact StB_pu _ _ (Nat.le_refl _) ht
end
