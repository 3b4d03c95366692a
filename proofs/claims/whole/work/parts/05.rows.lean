/-- from there on the method ends, with Q of its answer and of the cells -/
def R (w d k i : Nat) (ls : Lv) (st : List Value) (h : Hp) (Q : Option Value → Hp → Prop) : Prop := ∃ n r h', run w n d k i ls st h = some (r, h') ∧ Q r h'
/-- all cells are there, and the references that stay are set -/
def WF (w : Nat) (h : Hp) : Prop := h.2.2.2 = cap w ∧ ∀ c j q, srf w c j = some q → h.2.2.1 c j = some q
theorem shpX_cap {c : Nat} (h : 73 ≤ c) : shpX c = (999, 0) := by
  have q : ∀ m, m ≤ 73 → Nat.blt c m = false := fun m hm => by
    rw [Bool.eq_false_iff]
    intro z
    have := Nat.le_of_ble_eq_true z
    omega
  unfold shpX
  repeat rw [q _ (by decide), cond_false]
theorem shpM_cap {c : Nat} (h : 15 ≤ c) : shpM c = (999, 0) := by
  have q : ∀ m, m ≤ 15 → Nat.blt c m = false := fun m hm => by
    rw [Bool.eq_false_iff]
    intro z
    have := Nat.le_of_ble_eq_true z
    omega
  unfold shpM
  repeat rw [q _ (by decide), cond_false]
theorem shp_cap {w c b : Nat} (h : (shp w c).1 = b) (hb : b < 900) : c < cap w := by
  unfold shp at h
  unfold cap
  cases hw : Nat.beq w 0 with
  | true =>
    rw [hw, cond_true] at h
    rw [cond_true]
    rcases Nat.lt_or_ge c 73 with q | q
    · exact q
    · rw [shpX_cap q] at h; dsimp only at h; omega
  | false =>
    rw [hw, cond_false] at h
    rw [cond_false]
    rcases Nat.lt_or_ge c 15 with q | q
    · exact q
    · rw [shpM_cap q] at h; dsimp only at h; omega
theorem WF.lt {w c b : Nat} {h : Hp} (hW : WF w h) (hs : (shp w c).1 = b) (hb : b < 900) : c < hN h := by
  show c < h.2.2.2
  rw [hW.1]
  exact shp_cap hs hb
theorem WF.uR {w c j r : Nat} {h : Hp} (hW : WF w h) (hs : srf w c j = none ∨ srf w c j = some r) : WF w (uR h c j (some r)) := by
  refine ⟨hW.1, fun c' j' q hq => ?_⟩
  show up2 h.2.2.1 c j (some r) c' j' = some q
  unfold up2
  by_cases hc : c' = c ∧ j' = j
  · rw [if_pos hc]
    obtain ⟨rfl, rfl⟩ := hc
    rcases hs with hs | hs
    · rw [hs] at hq; cases hq
    · exact hs.symm.trans hq
  · rw [if_neg hc]
    exact hW.2 c' j' q hq
def bnd {α β : Type} (x : α) (f : α → β) : β := f x
theorem bnd_eq {α β : Type} {x y : α} {f : α → β} (h : y = x) : bnd x f = f y := by rw [h]; rfl
def gd (c : Prop) [Decidable c] {α : Type} (x : Option α) : Option α := if c then x else none
theorem gd_some {c : Prop} [Decidable c] {α : Type} {x : Option α} {y : α} (h : gd c x = some y) : c ∧ x = some y := by
  unfold gd at h
  by_cases hc : c
  · rw [if_pos hc] at h; exact ⟨hc, h⟩
  · rw [if_neg hc] at h; cases h
theorem gd_pos {c : Prop} [Decidable c] {α : Type} {x : Option α} (hc : c) : gd c x = x := if_pos hc
theorem bind_some {α β : Type} {x : Option α} {f : α → Option β} {y : β} (h : x.bind f = some y) : ∃ a, x = some a ∧ f a = some y := by
  cases x with
  | none => cases h
  | some a => exact ⟨a, rfl, h⟩
/-- a loop: its body goes on (0) or leaves by its way j (j + 1) -/
def lp {S : Type} (body : S → Option (Nat × S)) : Nat → S → Option (Nat × S)
  | 0, _ => none
  | n + 1, s => (body s).bind fun q => match q.1 with
    | 0 => lp body n q.2
    | j + 1 => some (j, q.2)
theorem lp_link {S : Type} {body : S → Option (Nat × S)} {P : S → Prop} {E : Nat → S → Prop} (hb : ∀ s j s', body s = some (j, s') → (j = 0 → P s') → (∀ e, j = e + 1 → E e s') → P s) : ∀ (n : Nat) (s : S) (j : Nat) (s' : S), lp body n s = some (j, s') → E j s' → P s := by
  intro n
  induction n with
  | zero => intro s j s' h; cases h
  | succ n ih =>
    intro s j s' h hE
    obtain ⟨⟨t, s1⟩, e1, h1⟩ := bind_some h
    refine hb s t s1 e1 (fun ht => ?_) (fun e ht => ?_)
    · subst ht
      exact ih s1 j s' h1 hE
    · subst ht
      cases h1
      exact hE
section RW
variable {w d k i b c : Nat} {a : Int32} {ls : Lv} {st : List Value} {h : Hp} {Q : Option Value → Hp → Prop}
theorem R_p {op : Nat} {st' : List Value} (hi : ins k i = (op, a, b, c)) (ho : op < 40) (hp : pst op a st = some st') (kk : R w d k (i + 1) ls st' h Q) : R w d k i ls st h Q := by
  obtain ⟨n, r, h', e, q⟩ := kk
  refine ⟨n + 1, r, h', ?_, q⟩
  show stp w (run w n) d k i ls st h = _
  unfold stp
  rw [hi]
  dsimp only
  rw [if_pos ho, hp]
  exact e
theorem R_iconst (hi : ins k i = (1, a, b, c)) (kk : R w d k (i + 1) ls (.int a :: st) h Q) : R w d k i ls st h Q := R_p hi (by decide) rfl kk
theorem R_bipush (hi : ins k i = (2, a, b, c)) (kk : R w d k (i + 1) ls (.int a :: st) h Q) : R w d k i ls st h Q := R_p hi (by decide) rfl kk
theorem R_sipush (hi : ins k i = (3, a, b, c)) (kk : R w d k (i + 1) ls (.int a :: st) h Q) : R w d k i ls st h Q := R_p hi (by decide) rfl kk
theorem R_ldc (hi : ins k i = (4, a, b, c)) (kk : R w d k (i + 1) ls (.int a :: st) h Q) : R w d k i ls st h Q := R_p hi (by decide) rfl kk
theorem R_ldcw (hi : ins k i = (5, a, b, c)) (kk : R w d k (i + 1) ls (.int a :: st) h Q) : R w d k i ls st h Q := R_p hi (by decide) rfl kk
theorem R_lconst {v : Int64} (hi : ins k i = (6, a, b, c)) (hv : a.toInt64 = v) (kk : R w d k (i + 1) ls (.long v :: st) h Q) : R w d k i ls st h Q := by
  subst hv; exact R_p hi (by decide) rfl kk
theorem R_ldc2 {v : Int64} (hi : ins k i = (7, a, b, c)) (hv : a.toInt64 = v) (kk : R w d k (i + 1) ls (.long v :: st) h Q) : R w d k i ls st h Q := by
  subst hv; exact R_p hi (by decide) rfl kk
theorem R_iadd {x y : Int32} (hi : ins k i = (10, a, b, c)) (kk : R w d k (i + 1) ls (.int (x + y) :: st) h Q) : R w d k i ls (.int y :: .int x :: st) h Q := R_p hi (by decide) rfl kk
theorem R_isub {x y : Int32} (hi : ins k i = (11, a, b, c)) (kk : R w d k (i + 1) ls (.int (x - y) :: st) h Q) : R w d k i ls (.int y :: .int x :: st) h Q := R_p hi (by decide) rfl kk
theorem R_imul {x y : Int32} (hi : ins k i = (12, a, b, c)) (kk : R w d k (i + 1) ls (.int (x * y) :: st) h Q) : R w d k i ls (.int y :: .int x :: st) h Q := R_p hi (by decide) rfl kk
theorem R_iand {x y : Int32} (hi : ins k i = (13, a, b, c)) (kk : R w d k (i + 1) ls (.int (x &&& y) :: st) h Q) : R w d k i ls (.int y :: .int x :: st) h Q := R_p hi (by decide) rfl kk
theorem R_ior {x y : Int32} (hi : ins k i = (14, a, b, c)) (kk : R w d k (i + 1) ls (.int (x ||| y) :: st) h Q) : R w d k i ls (.int y :: .int x :: st) h Q := R_p hi (by decide) rfl kk
theorem R_ixor {x y : Int32} (hi : ins k i = (15, a, b, c)) (kk : R w d k (i + 1) ls (.int (x ^^^ y) :: st) h Q) : R w d k i ls (.int y :: .int x :: st) h Q := R_p hi (by decide) rfl kk
theorem R_ishl {x y : Int32} (hi : ins k i = (16, a, b, c)) (kk : R w d k (i + 1) ls (.int (x <<< (y &&& 31)) :: st) h Q) : R w d k i ls (.int y :: .int x :: st) h Q := R_p hi (by decide) rfl kk
theorem R_ishr {x y : Int32} (hi : ins k i = (17, a, b, c)) (kk : R w d k (i + 1) ls (.int (x >>> (y &&& 31)) :: st) h Q) : R w d k i ls (.int y :: .int x :: st) h Q := R_p hi (by decide) rfl kk
theorem R_iushr {x y : Int32} (hi : ins k i = (18, a, b, c)) (kk : R w d k (i + 1) ls (.int (iushr x y) :: st) h Q) : R w d k i ls (.int y :: .int x :: st) h Q := R_p hi (by decide) rfl kk
theorem R_ladd {x y : Int64} (hi : ins k i = (25, a, b, c)) (kk : R w d k (i + 1) ls (.long (x + y) :: st) h Q) : R w d k i ls (.long y :: .long x :: st) h Q := R_p hi (by decide) rfl kk
theorem R_lsub {x y : Int64} (hi : ins k i = (26, a, b, c)) (kk : R w d k (i + 1) ls (.long (x - y) :: st) h Q) : R w d k i ls (.long y :: .long x :: st) h Q := R_p hi (by decide) rfl kk
theorem R_lmul {x y : Int64} (hi : ins k i = (27, a, b, c)) (kk : R w d k (i + 1) ls (.long (x * y) :: st) h Q) : R w d k i ls (.long y :: .long x :: st) h Q := R_p hi (by decide) rfl kk
theorem R_land {x y : Int64} (hi : ins k i = (29, a, b, c)) (kk : R w d k (i + 1) ls (.long (x &&& y) :: st) h Q) : R w d k i ls (.long y :: .long x :: st) h Q := R_p hi (by decide) rfl kk
theorem R_lor {x y : Int64} (hi : ins k i = (30, a, b, c)) (kk : R w d k (i + 1) ls (.long (x ||| y) :: st) h Q) : R w d k i ls (.long y :: .long x :: st) h Q := R_p hi (by decide) rfl kk
theorem R_idiv {x y : Int32} (hi : ins k i = (19, a, b, c)) (hn : ¬ y = 0) (kk : R w d k (i + 1) ls (.int (x / y) :: st) h Q) : R w d k i ls (.int y :: .int x :: st) h Q := R_p hi (by decide) (if_neg hn) kk
theorem R_irem {x y : Int32} (hi : ins k i = (20, a, b, c)) (hn : ¬ y = 0) (kk : R w d k (i + 1) ls (.int (irem x y) :: st) h Q) : R w d k i ls (.int y :: .int x :: st) h Q := R_p hi (by decide) (if_neg hn) kk
theorem R_ldiv {x y : Int64} (hi : ins k i = (28, a, b, c)) (hn : ¬ y = 0) (kk : R w d k (i + 1) ls (.long (x / y) :: st) h Q) : R w d k i ls (.long y :: .long x :: st) h Q := R_p hi (by decide) (if_neg hn) kk
theorem R_ineg {x : Int32} (hi : ins k i = (21, a, b, c)) (kk : R w d k (i + 1) ls (.int (-x) :: st) h Q) : R w d k i ls (.int x :: st) h Q := R_p hi (by decide) rfl kk
theorem R_i2b {x : Int32} (hi : ins k i = (22, a, b, c)) (kk : R w d k (i + 1) ls (.int x.toInt8.toInt32 :: st) h Q) : R w d k i ls (.int x :: st) h Q := R_p hi (by decide) rfl kk
theorem R_i2l {x : Int32} (hi : ins k i = (23, a, b, c)) (kk : R w d k (i + 1) ls (.long x.toInt64 :: st) h Q) : R w d k i ls (.int x :: st) h Q := R_p hi (by decide) rfl kk
theorem R_l2i {x : Int64} (hi : ins k i = (24, a, b, c)) (kk : R w d k (i + 1) ls (.int x.toInt32 :: st) h Q) : R w d k i ls (.long x :: st) h Q := R_p hi (by decide) rfl kk
theorem R_lneg {x : Int64} (hi : ins k i = (31, a, b, c)) (kk : R w d k (i + 1) ls (.long (-x) :: st) h Q) : R w d k i ls (.long x :: st) h Q := R_p hi (by decide) rfl kk
theorem R_lshl {x : Int64} {y : Int32} (hi : ins k i = (32, a, b, c)) (kk : R w d k (i + 1) ls (.long (lshl x y) :: st) h Q) : R w d k i ls (.int y :: .long x :: st) h Q := R_p hi (by decide) rfl kk
theorem R_lcmp {x y : Int64} (hi : ins k i = (33, a, b, c)) (kk : R w d k (i + 1) ls (.int (lg_cmp x y) :: st) h Q) : R w d k i ls (.long y :: .long x :: st) h Q := R_p hi (by decide) rfl kk
theorem R_dup {v : Value} (hi : ins k i = (35, a, b, c)) (hv : v.category = 1) (kk : R w d k (i + 1) ls (v :: v :: st) h Q) : R w d k i ls (v :: st) h Q := R_p hi (by decide) (show (if v.category = 1 then some (v :: v :: st) else none) = _ from if_pos hv) kk
theorem R_pop {v : Value} (hi : ins k i = (36, a, b, c)) (hv : v.category = 1) (kk : R w d k (i + 1) ls st h Q) : R w d k i ls (v :: st) h Q := R_p hi (by decide) (if_pos hv) kk
theorem R_dup2 {v u : Value} (hi : ins k i = (37, a, b, c)) (hv : v.category = 1) (hu : u.category = 1) (kk : R w d k (i + 1) ls (v :: u :: v :: u :: st) h Q) : R w d k i ls (v :: u :: st) h Q := R_p hi (by decide) (show (if v.category = 1 ∧ u.category = 1 then some (v :: u :: v :: u :: st) else none) = _ from if_pos ⟨hv, hu⟩) kk
theorem R_lib {op : Nat} {v : Value} {st' : List Value} (hi : ins k i = (op, a, b, c)) (h1 : ¬ op < 40) (h2 : op < 50) (hp : lib op st = some (v, st')) (hd : 5 ≤ d) (hs : csum st' ≤ 8) (kk : R w d k (i + 1) ls (v :: st') h Q) : R w d k i ls st h Q := by
  obtain ⟨n, r, h', e, q⟩ := kk
  refine ⟨n + 1, r, h', ?_, q⟩
  show stp w (run w n) d k i ls st h = _
  unfold stp
  rw [hi]
  dsimp only
  rw [if_neg h1, if_pos h2, hp]
  show (if 5 ≤ d ∧ csum st' ≤ 8 then run w n d k (i + 1) ls (v :: st') h else none) = _
  rw [if_pos ⟨hd, hs⟩]
  exact e
theorem R_mmax {x y : Int32} (hi : ins k i = (40, a, b, c)) (hd : 5 ≤ d) (hs : csum st ≤ 8) (kk : R w d k (i + 1) ls (.int (mmax x y) :: st) h Q) : R w d k i ls (.int y :: .int x :: st) h Q := R_lib hi (by decide) (by decide) rfl hd hs kk
theorem R_mmin {x y : Int32} (hi : ins k i = (41, a, b, c)) (hd : 5 ≤ d) (hs : csum st ≤ 8) (kk : R w d k (i + 1) ls (.int (mmin x y) :: st) h Q) : R w d k i ls (.int y :: .int x :: st) h Q := R_lib hi (by decide) (by decide) rfl hd hs kk
theorem R_mabs {x : Int32} (hi : ins k i = (42, a, b, c)) (hd : 5 ≤ d) (hs : csum st ≤ 8) (kk : R w d k (i + 1) ls (.int (mabs x) :: st) h Q) : R w d k i ls (.int x :: st) h Q := R_lib hi (by decide) (by decide) rfl hd hs kk
theorem R_mmaxl {x y : Int64} (hi : ins k i = (43, a, b, c)) (hd : 5 ≤ d) (hs : csum st ≤ 8) (kk : R w d k (i + 1) ls (.long (mmaxl x y) :: st) h Q) : R w d k i ls (.long y :: .long x :: st) h Q := R_lib hi (by decide) (by decide) rfl hd hs kk
theorem R_mminl {x y : Int64} (hi : ins k i = (44, a, b, c)) (hd : 5 ≤ d) (hs : csum st ≤ 8) (kk : R w d k (i + 1) ls (.long (mminl x y) :: st) h Q) : R w d k i ls (.long y :: .long x :: st) h Q := R_lib hi (by decide) (by decide) rfl hd hs kk
theorem R_slen {q : Nat} (hi : ins k i = (45, a, b, c)) (hq : 1000 ≤ q ∧ q < 1014) (hd : 5 ≤ d) (hs : csum st ≤ 8) (kk : R w d k (i + 1) ls (.int (Int32.ofNat (slen (q - 1000))) :: st) h Q) : R w d k i ls (.ref q :: st) h Q := R_lib hi (by decide) (by decide) (if_pos hq) hd hs kk
theorem R_schr {q : Nat} {x : Int32} (hi : ins k i = (46, a, b, c)) (hq : 1000 ≤ q ∧ q < 1014 ∧ inb x (slen (q - 1000))) (hd : 5 ≤ d) (hs : csum st ≤ 8) (kk : R w d k (i + 1) ls (.int (schr (q - 1000) (ix x)) :: st) h Q) : R w d k i ls (.int x :: .ref q :: st) h Q := R_lib hi (by decide) (by decide) (if_pos hq) hd hs kk
theorem R_ld {op : Nat} {v : Value} (hi : ins k i = (op, a, b, c)) (h1 : ¬ op < 50) (h2 : op < 60) (hp : ldv op b ls = some v) (kk : R w d k (i + 1) ls (v :: st) h Q) : R w d k i ls st h Q := by
  obtain ⟨n, r, h', e, q⟩ := kk
  refine ⟨n + 1, r, h', ?_, q⟩
  show stp w (run w n) d k i ls st h = _
  unfold stp
  rw [hi]
  dsimp only
  rw [if_neg (by omega), if_neg h1, if_pos h2, hp]
  exact e
theorem R_iload_n {x : Int32} (hi : ins k i = (50, a, b, c)) (hl : lget ls b = some (.int x)) (kk : R w d k (i + 1) ls (.int x :: st) h Q) : R w d k i ls st h Q := R_ld hi (by decide) (by decide) (by unfold ldv; rw [hl]; rfl) kk
theorem R_iload {x : Int32} (hi : ins k i = (51, a, b, c)) (hl : lget ls b = some (.int x)) (kk : R w d k (i + 1) ls (.int x :: st) h Q) : R w d k i ls st h Q := R_ld hi (by decide) (by decide) (by unfold ldv; rw [hl]; rfl) kk
theorem R_lload_n {x : Int64} (hi : ins k i = (52, a, b, c)) (hl : lget ls b = some (.long x)) (kk : R w d k (i + 1) ls (.long x :: st) h Q) : R w d k i ls st h Q := R_ld hi (by decide) (by decide) (by unfold ldv; rw [hl]; rfl) kk
theorem R_lload {x : Int64} (hi : ins k i = (53, a, b, c)) (hl : lget ls b = some (.long x)) (kk : R w d k (i + 1) ls (.long x :: st) h Q) : R w d k i ls st h Q := R_ld hi (by decide) (by decide) (by unfold ldv; rw [hl]; rfl) kk
theorem R_aload_n {x : Nat} (hi : ins k i = (54, a, b, c)) (hl : lget ls b = some (.ref x)) (kk : R w d k (i + 1) ls (.ref x :: st) h Q) : R w d k i ls st h Q := R_ld hi (by decide) (by decide) (by unfold ldv; rw [hl]; rfl) kk
theorem R_aload {x : Nat} (hi : ins k i = (55, a, b, c)) (hl : lget ls b = some (.ref x)) (kk : R w d k (i + 1) ls (.ref x :: st) h Q) : R w d k i ls st h Q := R_ld hi (by decide) (by decide) (by unfold ldv; rw [hl]; rfl) kk
theorem R_st {op : Nat} {ls' : Lv} {st' : List Value} (hi : ins k i = (op, a, b, c)) (h1 : ¬ op < 60) (h2 : op < 66) (hp : stv op b ls st = some (ls', st')) (kk : R w d k (i + 1) ls' st' h Q) : R w d k i ls st h Q := by
  obtain ⟨n, r, h', e, q⟩ := kk
  refine ⟨n + 1, r, h', ?_, q⟩
  show stp w (run w n) d k i ls st h = _
  unfold stp
  rw [hi]
  dsimp only
  rw [if_neg (by omega), if_neg (by omega), if_neg h1, if_pos h2, hp]
  exact e
theorem R_istore_n {x : Int32} (ls' : Lv) (hi : ins k i = (60, a, b, c)) (hl : st1 ls b (.int x) = some ls') (kk : R w d k (i + 1) ls' st h Q) : R w d k i ls (.int x :: st) h Q := R_st hi (by decide) (by decide) (show ((st1 ls b (.int x)).map (fun l => (l, st))) = some (ls', st) by rw [hl]; rfl) kk
theorem R_istore {x : Int32} (ls' : Lv) (hi : ins k i = (61, a, b, c)) (hl : st1 ls b (.int x) = some ls') (kk : R w d k (i + 1) ls' st h Q) : R w d k i ls (.int x :: st) h Q := R_st hi (by decide) (by decide) (show ((st1 ls b (.int x)).map (fun l => (l, st))) = some (ls', st) by rw [hl]; rfl) kk
theorem R_lstore_n {x : Int64} (ls' : Lv) (hi : ins k i = (62, a, b, c)) (hl : st2 ls b (.long x) = some ls') (kk : R w d k (i + 1) ls' st h Q) : R w d k i ls (.long x :: st) h Q := R_st hi (by decide) (by decide) (show ((st2 ls b (.long x)).map (fun l => (l, st))) = some (ls', st) by rw [hl]; rfl) kk
theorem R_lstore {x : Int64} (ls' : Lv) (hi : ins k i = (63, a, b, c)) (hl : st2 ls b (.long x) = some ls') (kk : R w d k (i + 1) ls' st h Q) : R w d k i ls (.long x :: st) h Q := R_st hi (by decide) (by decide) (show ((st2 ls b (.long x)).map (fun l => (l, st))) = some (ls', st) by rw [hl]; rfl) kk
theorem R_astore_n {x : Nat} (ls' : Lv) (hi : ins k i = (64, a, b, c)) (hl : st1 ls b (.ref x) = some ls') (kk : R w d k (i + 1) ls' st h Q) : R w d k i ls (.ref x :: st) h Q := R_st hi (by decide) (by decide) (show ((st1 ls b (.ref x)).map (fun l => (l, st))) = some (ls', st) by rw [hl]; rfl) kk
theorem R_astore {x : Nat} (ls' : Lv) (hi : ins k i = (65, a, b, c)) (hl : st1 ls b (.ref x) = some ls') (kk : R w d k (i + 1) ls' st h Q) : R w d k i ls (.ref x :: st) h Q := R_st hi (by decide) (by decide) (show ((st1 ls b (.ref x)).map (fun l => (l, st))) = some (ls', st) by rw [hl]; rfl) kk
theorem R_iinc {x : Int32} (ls' : Lv) (hi : ins k i = (66, a, b, c)) (hg : lget ls b = some (.int x)) (hl : st1 ls b (.int (x + a)) = some ls') (kk : R w d k (i + 1) ls' st h Q) : R w d k i ls st h Q := by
  obtain ⟨n, r, h', e, q⟩ := kk
  refine ⟨n + 1, r, h', ?_, q⟩
  show stp w (run w n) d k i ls st h = _
  unfold stp
  rw [hi]
  dsimp only
  rw [if_neg (by decide), if_neg (by decide), if_neg (by decide), if_neg (by decide), if_pos rfl, hg]
  show (st1 ls b (.int (x + a))).bind _ = _
  rw [hl]
  exact e
theorem R_br {op : Nat} {t : Bool} {st' : List Value} (hi : ins k i = (op, a, b, c)) (h1 : 66 < op) (h2 : op < 82) (hp : brc op st = some (t, st')) (kk : R w d k (if t then b else i + 1) ls st' h Q) : R w d k i ls st h Q := by
  obtain ⟨n, r, h', e, q⟩ := kk
  refine ⟨n + 1, r, h', ?_, q⟩
  show stp w (run w n) d k i ls st h = _
  unfold stp
  rw [hi]
  dsimp only
  rw [if_neg (by omega), if_neg (by omega), if_neg (by omega), if_neg (by omega), if_neg (by omega), if_pos h2, hp]
  exact e
theorem R_ifeq {x : Int32} (hi : ins k i = (70, a, b, c)) (kt : x = 0 → R w d k b ls st h Q) (kf : ¬ x = 0 → R w d k (i + 1) ls st h Q) : R w d k i ls (.int x :: st) h Q := by
  by_cases hc : x = 0
  · exact R_br hi (by decide) (by decide) (t := true) (congrArg some (congrArg (·, st) (decide_eq_true hc))) (kt hc)
  · exact R_br hi (by decide) (by decide) (t := false) (congrArg some (congrArg (·, st) (decide_eq_false hc))) (kf hc)
theorem R_icmpeq {x y : Int32} (hi : ins k i = (76, a, b, c)) (kt : x = y → R w d k b ls st h Q) (kf : ¬ x = y → R w d k (i + 1) ls st h Q) : R w d k i ls (.int y :: .int x :: st) h Q := by
  by_cases hc : x = y
  · exact R_br hi (by decide) (by decide) (t := true) (congrArg some (congrArg (·, st) (decide_eq_true hc))) (kt hc)
  · exact R_br hi (by decide) (by decide) (t := false) (congrArg some (congrArg (·, st) (decide_eq_false hc))) (kf hc)
theorem R_ifne {x : Int32} (hi : ins k i = (71, a, b, c)) (kt : ¬ x = 0 → R w d k b ls st h Q) (kf : x = 0 → R w d k (i + 1) ls st h Q) : R w d k i ls (.int x :: st) h Q := by
  by_cases hc : x = 0
  · exact R_br hi (by decide) (by decide) (t := false) (congrArg some (congrArg (·, st) (decide_eq_false (fun z => z hc)))) (kf hc)
  · exact R_br hi (by decide) (by decide) (t := true) (congrArg some (congrArg (·, st) (decide_eq_true hc))) (kt hc)
theorem R_icmpne {x y : Int32} (hi : ins k i = (77, a, b, c)) (kt : ¬ x = y → R w d k b ls st h Q) (kf : x = y → R w d k (i + 1) ls st h Q) : R w d k i ls (.int y :: .int x :: st) h Q := by
  by_cases hc : x = y
  · exact R_br hi (by decide) (by decide) (t := false) (congrArg some (congrArg (·, st) (decide_eq_false (fun z => z hc)))) (kf hc)
  · exact R_br hi (by decide) (by decide) (t := true) (congrArg some (congrArg (·, st) (decide_eq_true hc))) (kt hc)
theorem R_iflt {x : Int32} (hi : ins k i = (72, a, b, c)) (kt : x < 0 → R w d k b ls st h Q) (kf : ¬ x < 0 → R w d k (i + 1) ls st h Q) : R w d k i ls (.int x :: st) h Q := by
  by_cases hc : x < 0
  · exact R_br hi (by decide) (by decide) (t := true) (congrArg some (congrArg (·, st) (decide_eq_true hc))) (kt hc)
  · exact R_br hi (by decide) (by decide) (t := false) (congrArg some (congrArg (·, st) (decide_eq_false hc))) (kf hc)
theorem R_icmplt {x y : Int32} (hi : ins k i = (78, a, b, c)) (kt : x < y → R w d k b ls st h Q) (kf : ¬ x < y → R w d k (i + 1) ls st h Q) : R w d k i ls (.int y :: .int x :: st) h Q := by
  by_cases hc : x < y
  · exact R_br hi (by decide) (by decide) (t := true) (congrArg some (congrArg (·, st) (decide_eq_true hc))) (kt hc)
  · exact R_br hi (by decide) (by decide) (t := false) (congrArg some (congrArg (·, st) (decide_eq_false hc))) (kf hc)
theorem R_ifge {x : Int32} (hi : ins k i = (73, a, b, c)) (kt : 0 ≤ x → R w d k b ls st h Q) (kf : ¬ 0 ≤ x → R w d k (i + 1) ls st h Q) : R w d k i ls (.int x :: st) h Q := by
  by_cases hc : 0 ≤ x
  · exact R_br hi (by decide) (by decide) (t := true) (congrArg some (congrArg (·, st) (decide_eq_true hc))) (kt hc)
  · exact R_br hi (by decide) (by decide) (t := false) (congrArg some (congrArg (·, st) (decide_eq_false hc))) (kf hc)
theorem R_icmpge {x y : Int32} (hi : ins k i = (79, a, b, c)) (kt : y ≤ x → R w d k b ls st h Q) (kf : ¬ y ≤ x → R w d k (i + 1) ls st h Q) : R w d k i ls (.int y :: .int x :: st) h Q := by
  by_cases hc : y ≤ x
  · exact R_br hi (by decide) (by decide) (t := true) (congrArg some (congrArg (·, st) (decide_eq_true hc))) (kt hc)
  · exact R_br hi (by decide) (by decide) (t := false) (congrArg some (congrArg (·, st) (decide_eq_false hc))) (kf hc)
theorem R_ifgt {x : Int32} (hi : ins k i = (74, a, b, c)) (kt : 0 < x → R w d k b ls st h Q) (kf : ¬ 0 < x → R w d k (i + 1) ls st h Q) : R w d k i ls (.int x :: st) h Q := by
  by_cases hc : 0 < x
  · exact R_br hi (by decide) (by decide) (t := true) (congrArg some (congrArg (·, st) (decide_eq_true hc))) (kt hc)
  · exact R_br hi (by decide) (by decide) (t := false) (congrArg some (congrArg (·, st) (decide_eq_false hc))) (kf hc)
theorem R_icmpgt {x y : Int32} (hi : ins k i = (80, a, b, c)) (kt : y < x → R w d k b ls st h Q) (kf : ¬ y < x → R w d k (i + 1) ls st h Q) : R w d k i ls (.int y :: .int x :: st) h Q := by
  by_cases hc : y < x
  · exact R_br hi (by decide) (by decide) (t := true) (congrArg some (congrArg (·, st) (decide_eq_true hc))) (kt hc)
  · exact R_br hi (by decide) (by decide) (t := false) (congrArg some (congrArg (·, st) (decide_eq_false hc))) (kf hc)
theorem R_ifle {x : Int32} (hi : ins k i = (75, a, b, c)) (kt : x ≤ 0 → R w d k b ls st h Q) (kf : ¬ x ≤ 0 → R w d k (i + 1) ls st h Q) : R w d k i ls (.int x :: st) h Q := by
  by_cases hc : x ≤ 0
  · exact R_br hi (by decide) (by decide) (t := true) (congrArg some (congrArg (·, st) (decide_eq_true hc))) (kt hc)
  · exact R_br hi (by decide) (by decide) (t := false) (congrArg some (congrArg (·, st) (decide_eq_false hc))) (kf hc)
theorem R_icmple {x y : Int32} (hi : ins k i = (81, a, b, c)) (kt : x ≤ y → R w d k b ls st h Q) (kf : ¬ x ≤ y → R w d k (i + 1) ls st h Q) : R w d k i ls (.int y :: .int x :: st) h Q := by
  by_cases hc : x ≤ y
  · exact R_br hi (by decide) (by decide) (t := true) (congrArg some (congrArg (·, st) (decide_eq_true hc))) (kt hc)
  · exact R_br hi (by decide) (by decide) (t := false) (congrArg some (congrArg (·, st) (decide_eq_false hc))) (kf hc)
theorem R_goto (hi : ins k i = (82, a, b, c)) (kk : R w d k b ls st h Q) : R w d k i ls st h Q := by
  obtain ⟨n, r, h', e, q⟩ := kk
  refine ⟨n + 1, r, h', ?_, q⟩
  show stp w (run w n) d k i ls st h = _
  unfold stp
  rw [hi]
  dsimp only
  rw [if_neg (by decide), if_neg (by decide), if_neg (by decide), if_neg (by decide), if_neg (by decide), if_neg (by decide), if_pos rfl]
  exact e
theorem R_switch {x : Int32} (hi : ins k i = (83, a, b, c)) (kk : R w d k (swf x a (swt b) c) ls st h Q) : R w d k i ls (.int x :: st) h Q := by
  obtain ⟨n, r, h', e, q⟩ := kk
  refine ⟨n + 1, r, h', ?_, q⟩
  show stp w (run w n) d k i ls (.int x :: st) h = _
  unfold stp
  rw [hi]
  dsimp only
  rw [if_neg (by decide), if_neg (by decide), if_neg (by decide), if_neg (by decide), if_neg (by decide), if_neg (by decide), if_neg (by decide), if_pos rfl]
  exact e
theorem R_hr {op : Nat} {st' : List Value} (hi : ins k i = (op, a, b, c)) (h1 : 83 < op) (h2 : op < 110) (hp : hrd w op a b c st h = some st') (kk : R w d k (i + 1) ls st' h Q) : R w d k i ls st h Q := by
  obtain ⟨n, r, h', e, q⟩ := kk
  refine ⟨n + 1, r, h', ?_, q⟩
  show stp w (run w n) d k i ls st h = _
  unfold stp
  rw [hi]
  dsimp only
  rw [if_neg (by omega), if_neg (by omega), if_neg (by omega), if_neg (by omega), if_neg (by omega), if_neg (by omega), if_neg (by omega), if_neg (by omega), if_pos h2, hp]
  exact e
theorem R_hw {op : Nat} {st' : List Value} {h1' : Hp} (hi : ins k i = (op, a, b, c)) (h1 : 109 < op) (h2 : op < 120) (hd : 5 ≤ d) (hp : hwr w op b c st h = some (st', h1')) (kk : ∀ h1, h1 = h1' → R w d k (i + 1) ls st' h1 Q) : R w d k i ls st h Q := by
  obtain ⟨n, r, h', e, q⟩ := kk _ rfl
  refine ⟨n + 1, r, h', ?_, q⟩
  show stp w (run w n) d k i ls st h = _
  unfold stp
  rw [hi]
  dsimp only
  rw [if_neg (by omega), if_neg (by omega), if_neg (by omega), if_neg (by omega), if_neg (by omega), if_neg (by omega), if_neg (by omega), if_neg (by omega), if_neg (by omega), if_pos h2, hp]
  show (if 5 ≤ d then _ else none) = _
  rw [if_pos hd]
  exact e
theorem R_al {op : Nat} {st' : List Value} {h1' : Hp} (hi : ins k i = (op, a, b, c)) (h1 : 119 < op) (h2 : op < 130) (hp : hal w op b st h = some (st', h1')) (kk : ∀ h1, h1 = h1' → R w d k (i + 1) ls st' h1 Q) : R w d k i ls st h Q := by
  obtain ⟨n, r, h', e, q⟩ := kk _ rfl
  refine ⟨n + 1, r, h', ?_, q⟩
  show stp w (run w n) d k i ls st h = _
  unfold stp
  rw [hi]
  dsimp only
  rw [if_neg (by omega), if_neg (by omega), if_neg (by omega), if_neg (by omega), if_neg (by omega), if_neg (by omega), if_neg (by omega), if_neg (by omega), if_neg (by omega), if_neg (by omega), if_pos h2, hp]
  exact e
theorem R_getI {q : Nat} (hW : WF w h) (hi : ins k i = (90, a, b, c)) (hs : (shp w q).1 = b) (hb : b < 900) (kk : R w d k (i + 1) ls (.int (hI h q c) :: st) h Q) : R w d k i ls (.ref q :: st) h Q := R_hr hi (by decide) (by decide) (show (if (shp w q).1 = b ∧ q < hN h then some (.int (hI h q c) :: st) else none) = _ from if_pos ⟨hs, hW.lt hs hb⟩) kk
theorem R_getL {q : Nat} (hW : WF w h) (hi : ins k i = (91, a, b, c)) (hs : (shp w q).1 = b) (hb : b < 900) (kk : R w d k (i + 1) ls (.long (hL h q c) :: st) h Q) : R w d k i ls (.ref q :: st) h Q := R_hr hi (by decide) (by decide) (show (if (shp w q).1 = b ∧ q < hN h then some (.long (hL h q c) :: st) else none) = _ from if_pos ⟨hs, hW.lt hs hb⟩) kk
theorem R_getR {q r : Nat} (hW : WF w h) (hi : ins k i = (92, a, b, c)) (hs : (shp w q).1 = b) (hb : b < 900) (hr : hR h q c = some r) (kk : R w d k (i + 1) ls (.ref r :: st) h Q) : R w d k i ls (.ref q :: st) h Q := R_hr hi (by decide) (by decide) (show (if (shp w q).1 = b ∧ q < hN h then some (rv (hR h q c) :: st) else none) = _ by rw [if_pos ⟨hs, hW.lt hs hb⟩, hr]; rfl) kk
theorem R_getF {q r : Nat} (hW : WF w h) (hi : ins k i = (92, a, b, c)) (hs : (shp w q).1 = b) (hb : b < 900) (hr : srf w q c = some r) (kk : R w d k (i + 1) ls (.ref r :: st) h Q) : R w d k i ls (.ref q :: st) h Q := R_getR hW hi hs hb (hW.2 _ _ _ hr) kk
theorem R_iaload {q : Nat} {x : Int32} (hW : WF w h) (hi : ins k i = (93, a, b, c)) (hs : (shp w q).1 = 100) (hb : inb x (shp w q).2) (kk : R w d k (i + 1) ls (.int (hI h q (ix x)) :: st) h Q) : R w d k i ls (.int x :: .ref q :: st) h Q := R_hr hi (by decide) (by decide) (show (if q = 1200 then (if inb x 16 then some (.int (wth (ix x)) :: st) else none) else (if (shp w q).1 = 100 ∧ q < hN h ∧ inb x (shp w q).2 then some (.int (hI h q (ix x)) :: st) else none)) = _ from (if_neg (fun z => by have := shp_cap hs (by decide); rw [z] at this; exact absurd this (by unfold cap; cases Nat.beq w 0 <;> decide))).trans (if_pos ⟨hs, hW.lt hs (by decide), hb⟩)) kk
theorem R_baload {q : Nat} {x : Int32} (hW : WF w h) (hi : ins k i = (94, a, b, c)) (hs : (shp w q).1 = 101) (hb : inb x (shp w q).2) (kk : R w d k (i + 1) ls (.int (hI h q (ix x)) :: st) h Q) : R w d k i ls (.int x :: .ref q :: st) h Q := R_hr hi (by decide) (by decide) (show (if (shp w q).1 = 101 ∧ q < hN h ∧ inb x (shp w q).2 then some (.int (hI h q (ix x)) :: st) else none) = _ from if_pos ⟨hs, hW.lt hs (by decide), hb⟩) kk
theorem R_zaload {q : Nat} {x : Int32} (hW : WF w h) (hi : ins k i = (95, a, b, c)) (hs : (shp w q).1 = 102) (hb : inb x (shp w q).2) (kk : R w d k (i + 1) ls (.int (hI h q (ix x)) :: st) h Q) : R w d k i ls (.int x :: .ref q :: st) h Q := R_hr hi (by decide) (by decide) (show (if (shp w q).1 = 102 ∧ q < hN h ∧ inb x (shp w q).2 then some (.int (hI h q (ix x)) :: st) else none) = _ from if_pos ⟨hs, hW.lt hs (by decide), hb⟩) kk
theorem R_laload {q : Nat} {x : Int32} (hW : WF w h) (hi : ins k i = (96, a, b, c)) (hs : (shp w q).1 = 103) (hb : inb x (shp w q).2) (kk : R w d k (i + 1) ls (.long (hL h q (ix x)) :: st) h Q) : R w d k i ls (.int x :: .ref q :: st) h Q := R_hr hi (by decide) (by decide) (show (if (shp w q).1 = 103 ∧ q < hN h ∧ inb x (shp w q).2 then some (.long (hL h q (ix x)) :: st) else none) = _ from if_pos ⟨hs, hW.lt hs (by decide), hb⟩) kk
theorem R_waload {x : Int32} (hi : ins k i = (93, a, b, c)) (hb : inb x 16) (kk : R w d k (i + 1) ls (.int (wth (ix x)) :: st) h Q) : R w d k i ls (.int x :: .ref 1200 :: st) h Q := R_hr hi (by decide) (by decide) (show (if 1200 = 1200 then (if inb x 16 then some (.int (wth (ix x)) :: st) else none) else (if (shp w 1200).1 = 100 ∧ 1200 < hN h ∧ inb x (shp w 1200).2 then some (.int (hI h 1200 (ix x)) :: st) else none)) = _ from (if_pos rfl).trans (if_pos hb)) kk
theorem R_aaload {q r : Nat} {x : Int32} (hW : WF w h) (hi : ins k i = (97, a, b, c)) (hs : (shp w q).1 = 104) (hb : inb x (shp w q).2) (hr : hR h q (ix x) = some r) (kk : R w d k (i + 1) ls (.ref r :: st) h Q) : R w d k i ls (.int x :: .ref q :: st) h Q := R_hr hi (by decide) (by decide) (show (if (shp w q).1 = 104 ∧ q < hN h ∧ inb x (shp w q).2 then some (rv (hR h q (ix x)) :: st) else none) = _ by rw [if_pos ⟨hs, hW.lt hs (by decide), hb⟩, hr]; rfl) kk
theorem R_alen {q : Nat} {v : Int32} (hW : WF w h) (hi : ins k i = (98, a, b, c)) (hs : (shp w q).1 = 100) (hv : Int32.ofNat (shp w q).2 = v) (kk : R w d k (i + 1) ls (.int v :: st) h Q) : R w d k i ls (.ref q :: st) h Q := by
  subst hv; exact R_hr hi (by decide) (by decide) (show (if (shp w q).1 = 100 ∧ q < hN h then some (.int (Int32.ofNat (shp w q).2) :: st) else none) = _ from if_pos ⟨hs, hW.lt hs (by decide)⟩) kk
theorem R_gets (hi : ins k i = (99, a, b, c)) (kk : R w d k (i + 1) ls (.ref 1200 :: st) h Q) : R w d k i ls st h Q := R_hr hi (by decide) (by decide) rfl kk
theorem R_ldcs {v : Nat} (hi : ins k i = (100, a, b, c)) (hv : 1000 + ix a = v) (kk : R w d k (i + 1) ls (.ref v :: st) h Q) : R w d k i ls st h Q := by
  subst hv; exact R_hr hi (by decide) (by decide) rfl kk
theorem R_putI {q : Nat} {v : Int32} (hW : WF w h) (hi : ins k i = (110, a, b, c)) (hs : (shp w q).1 = b) (hb : b < 900) (hd : 5 ≤ d) (kk : ∀ h1, h1 = uI h q c v → R w d k (i + 1) ls st h1 Q) : R w d k i ls (.int v :: .ref q :: st) h Q := R_hw hi (by decide) (by decide) hd (show (if (shp w q).1 = b ∧ q < hN h then some (st, uI h q c v) else none) = _ from if_pos ⟨hs, hW.lt hs hb⟩) kk
theorem R_putZ {q : Nat} {v : Int32} (hW : WF w h) (hi : ins k i = (111, a, b, c)) (hs : (shp w q).1 = b) (hb : b < 900) (hv : v = 0 ∨ v = 1) (hd : 5 ≤ d) (kk : ∀ h1, h1 = uI h q c v → R w d k (i + 1) ls st h1 Q) : R w d k i ls (.int v :: .ref q :: st) h Q := R_hw hi (by decide) (by decide) hd (show (if (shp w q).1 = b ∧ q < hN h ∧ (v = 0 ∨ v = 1) then some (st, uI h q c v) else none) = _ from if_pos ⟨hs, hW.lt hs hb, hv⟩) kk
theorem R_putL {q : Nat} {v : Int64} (hW : WF w h) (hi : ins k i = (112, a, b, c)) (hs : (shp w q).1 = b) (hb : b < 900) (hd : 5 ≤ d) (kk : ∀ h1, h1 = uL h q c v → R w d k (i + 1) ls st h1 Q) : R w d k i ls (.long v :: .ref q :: st) h Q := R_hw hi (by decide) (by decide) hd (show (if (shp w q).1 = b ∧ q < hN h then some (st, uL h q c v) else none) = _ from if_pos ⟨hs, hW.lt hs hb⟩) kk
theorem R_putR {q r : Nat} (hW : WF w h) (hi : ins k i = (113, a, b, c)) (hs : (shp w q).1 = b) (hb : b < 900) (hf : srf w q c = none ∨ srf w q c = some r) (hd : 5 ≤ d) (kk : ∀ h1, h1 = uR h q c (some r) → R w d k (i + 1) ls st h1 Q) : R w d k i ls (.ref r :: .ref q :: st) h Q := R_hw hi (by decide) (by decide) hd (show (if (shp w q).1 = b ∧ q < hN h ∧ (srf w q c = none ∨ srf w q c = some r) then some (st, uR h q c (some r)) else none) = _ from if_pos ⟨hs, hW.lt hs hb, hf⟩) kk
theorem R_iastore {q : Nat} {x v : Int32} (hW : WF w h) (hi : ins k i = (114, a, b, c)) (hs : (shp w q).1 = 100) (hb : inb x (shp w q).2) (hd : 5 ≤ d) (kk : ∀ h1, h1 = uI h q (ix x) v → R w d k (i + 1) ls st h1 Q) : R w d k i ls (.int v :: .int x :: .ref q :: st) h Q := R_hw hi (by decide) (by decide) hd (show (if (shp w q).1 = 100 ∧ q < hN h ∧ inb x (shp w q).2 then some (st, uI h q (ix x) v) else none) = _ from if_pos ⟨hs, hW.lt hs (by decide), hb⟩) kk
theorem R_bastore {q : Nat} {x v : Int32} (hW : WF w h) (hi : ins k i = (115, a, b, c)) (hs : (shp w q).1 = 101) (hb : inb x (shp w q).2) (hd : 5 ≤ d) (kk : ∀ h1, h1 = uI h q (ix x) v.toInt8.toInt32 → R w d k (i + 1) ls st h1 Q) : R w d k i ls (.int v :: .int x :: .ref q :: st) h Q := R_hw hi (by decide) (by decide) hd (show (if (shp w q).1 = 101 ∧ q < hN h ∧ inb x (shp w q).2 then some (st, uI h q (ix x) v.toInt8.toInt32) else none) = _ from if_pos ⟨hs, hW.lt hs (by decide), hb⟩) kk
theorem R_zastore {q : Nat} {x v : Int32} (hW : WF w h) (hi : ins k i = (116, a, b, c)) (hs : (shp w q).1 = 102) (hb : inb x (shp w q).2) (hd : 5 ≤ d) (kk : ∀ h1, h1 = uI h q (ix x) (v &&& 1) → R w d k (i + 1) ls st h1 Q) : R w d k i ls (.int v :: .int x :: .ref q :: st) h Q := R_hw hi (by decide) (by decide) hd (show (if (shp w q).1 = 102 ∧ q < hN h ∧ inb x (shp w q).2 then some (st, uI h q (ix x) (v &&& 1)) else none) = _ from if_pos ⟨hs, hW.lt hs (by decide), hb⟩) kk
theorem R_lastore {q : Nat} {x : Int32} {v : Int64} (hW : WF w h) (hi : ins k i = (117, a, b, c)) (hs : (shp w q).1 = 103) (hb : inb x (shp w q).2) (hd : 5 ≤ d) (kk : ∀ h1, h1 = uL h q (ix x) v → R w d k (i + 1) ls st h1 Q) : R w d k i ls (.long v :: .int x :: .ref q :: st) h Q := R_hw hi (by decide) (by decide) hd (show (if (shp w q).1 = 103 ∧ q < hN h ∧ inb x (shp w q).2 then some (st, uL h q (ix x) v) else none) = _ from if_pos ⟨hs, hW.lt hs (by decide), hb⟩) kk
theorem R_copy {q0 q1 : Nat} {sp dp n : Int32} (hW : WF w h) (hi : ins k i = (119, a, b, c)) (hs0 : (shp w q0).1 = 100) (hs1 : (shp w q1).1 = 100) (hb : 0 ≤ sp.toInt ∧ 0 ≤ dp.toInt ∧ 0 ≤ n.toInt ∧ sp.toInt + n.toInt ≤ ((shp w q0).2 : Int) ∧ dp.toInt + n.toInt ≤ ((shp w q1).2 : Int)) (hc : csum st ≤ 8) (hd : 5 ≤ d) (kk : ∀ h1, h1 = uA h q1 (va_cpy (hI h q0) (hI h q1) (ix sp) (ix dp) (ix n)) → R w d k (i + 1) ls st h1 Q) : R w d k i ls (.int n :: .int dp :: .ref q1 :: .int sp :: .ref q0 :: st) h Q := R_hw hi (by decide) (by decide) hd (show (if (shp w q0).1 = 100 ∧ q0 < hN h ∧ (shp w q1).1 = 100 ∧ q1 < hN h ∧ 0 ≤ sp.toInt ∧ 0 ≤ dp.toInt ∧ 0 ≤ n.toInt ∧ sp.toInt + n.toInt ≤ ((shp w q0).2 : Int) ∧ dp.toInt + n.toInt ≤ ((shp w q1).2 : Int) ∧ csum st ≤ 8 then some (st, uA h q1 (va_cpy (hI h q0) (hI h q1) (ix sp) (ix dp) (ix n))) else none) = _ from if_pos ⟨hs0, hW.lt hs0 (by decide), hs1, hW.lt hs1 (by decide), hb.1, hb.2.1, hb.2.2.1, hb.2.2.2.1, hb.2.2.2.2, hc⟩) kk
theorem R_call {op y d' : Nat} {vs st' : List Value} (hi : ins k i = (op, a, y, c)) (h1 : 129 < op) (h2 : op < 135) (hd : d = d' + 1) (hc : cut c st = some (vs, st')) (hs : csum st' ≤ 8) (hr : rok w op y vs h = true) (kk : R w d' y 0 (entry vs (mL y)) [] h (fun r h' => R w d k (i + 1) ls (r.toList ++ st') h' Q)) : R w d k i ls st h Q := by
  subst hd
  obtain ⟨n1, r1, g1, e1, n2, r2, g2, e2, q⟩ := kk
  refine ⟨max n1 n2 + 1, r2, g2, ?_, q⟩
  show stp w (run w (max n1 n2)) (d' + 1) k i ls st h = _
  unfold stp
  rw [hi]
  dsimp only
  rw [if_neg (by omega), if_neg (by omega), if_neg (by omega), if_neg (by omega), if_neg (by omega), if_neg (by omega), if_neg (by omega), if_neg (by omega), if_neg (by omega), if_neg (by omega), if_neg (by omega), if_pos h2, hc]
  show (if csum st' ≤ 8 ∧ rok w op y vs h = true then _ else none) = _
  rw [if_pos ⟨hs, hr⟩, run_le (Nat.le_max_left n1 n2) e1]
  exact run_le (Nat.le_max_right n1 n2) e2
theorem R_oinit {q : Nat} (hi : ins k i = (135, a, b, c)) (hd : 5 ≤ d) (hs : csum st ≤ 8) (kk : R w d k (i + 1) ls st h Q) : R w d k i ls (.ref q :: st) h Q := by
  obtain ⟨n, r, h', e, q'⟩ := kk
  refine ⟨n + 1, r, h', ?_, q'⟩
  show stp w (run w n) d k i ls (.ref q :: st) h = _
  unfold stp
  rw [hi]
  dsimp only
  rw [if_neg (by decide), if_neg (by decide), if_neg (by decide), if_neg (by decide), if_neg (by decide), if_neg (by decide), if_neg (by decide), if_neg (by decide), if_neg (by decide), if_neg (by decide), if_neg (by decide), if_neg (by decide), if_pos rfl]
  show (if 5 ≤ d ∧ csum st ≤ 8 then _ else none) = _
  rw [if_pos ⟨hd, hs⟩]
  exact e
theorem R_ret {op : Nat} {r : Option Value} (hi : ins k i = (op, a, b, c)) (h1 : 135 < op) (hp : rtn op st = some r) (kk : Q r h) : R w d k i ls st h Q := by
  refine ⟨1, r, h, ?_, kk⟩
  show stp w (run w 0) d k i ls st h = _
  unfold stp
  rw [hi]
  dsimp only
  rw [if_neg (by omega), if_neg (by omega), if_neg (by omega), if_neg (by omega), if_neg (by omega), if_neg (by omega), if_neg (by omega), if_neg (by omega), if_neg (by omega), if_neg (by omega), if_neg (by omega), if_neg (by omega), if_neg (by omega), hp]
  rfl
theorem R_iret {v : Int32} (hi : ins k i = (140, a, b, c)) (kk : Q (some (.int v)) h) : R w d k i ls [.int v] h Q := R_ret hi (by decide) rfl kk
theorem R_zret {v r : Int32} (hi : ins k i = (141, a, b, c)) (hv : v &&& 1 = r) (kk : Q (some (.int r)) h) : R w d k i ls [.int v] h Q := by
  subst hv; exact R_ret hi (by decide) rfl kk
theorem R_lret {v : Int64} (hi : ins k i = (142, a, b, c)) (kk : Q (some (.long v)) h) : R w d k i ls [.long v] h Q := R_ret hi (by decide) rfl kk
theorem R_aret {v : Nat} (hi : ins k i = (143, a, b, c)) (kk : Q (some (.ref v)) h) : R w d k i ls [.ref v] h Q := R_ret hi (by decide) rfl kk
theorem R_vret (hi : ins k i = (144, a, b, c)) (kk : Q none h) : R w d k i ls [] h Q := R_ret hi (by decide) rfl kk
theorem R_topi {x : Int32} (kk : ∀ y : Int32, y = x → R w d k i ls (.int y :: st) h Q) : R w d k i ls (.int x :: st) h Q := kk x rfl
theorem R_topl {x : Int64} (kk : ∀ y : Int64, y = x → R w d k i ls (.long y :: st) h Q) : R w d k i ls (.long x :: st) h Q := kk x rfl
end RW
