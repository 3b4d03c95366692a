/-- fewer known locals -/
def lle : Lv → Lv → Prop
  | [], [] => True
  | a :: l, b :: m => (a = none ∨ a = b) ∧ lle l m
  | _, _ => False
theorem lle_rf : ∀ l : Lv, lle l l
  | [] => trivial
  | _ :: l => ⟨Or.inr rfl, lle_rf l⟩
theorem lle_len : ∀ {l m : Lv}, lle l m → l.length = m.length
  | [], [], _ => rfl
  | _ :: l, _ :: m, h => congrArg (· + 1) (lle_len h.2)
  | [], _ :: _, h => False.elim h
  | _ :: _, [], h => False.elim h
theorem lle_get : ∀ {l m : Lv} (i : Nat) {v : Value}, lle l m → lget l i = some v → lget m i = some v
  | [], _, i, v, _, e => by cases e
  | a :: l, [], i, v, h, e => False.elim h
  | a :: l, b :: m, 0, v, h, e => by
    rcases h.1 with q | q
    · subst q; cases e
    · subst q; exact e
  | a :: l, b :: m, i + 1, v, h, e => lle_get (l := l) (m := m) i h.2 e
theorem lle_set : ∀ {l m : Lv} (i : Nat) (v : Option Value), lle l m → lle (l.set i v) (m.set i v)
  | [], [], _, _, _ => trivial
  | _ :: l, _ :: m, 0, v, h => ⟨Or.inr rfl, h.2⟩
  | _ :: l, _ :: m, i + 1, v, h => ⟨h.1, lle_set i v h.2⟩
  | [], _ :: _, _, _, h => False.elim h
  | _ :: _, [], _, _, h => False.elim h
theorem lle_no : ∀ {l m : Lv} (i : Nat), lle l m → lget l i = none → lle l (m.set i none)
  | [], [], _, _, _ => trivial
  | a :: l, b :: m, 0, h, e => ⟨Or.inl e, h.2⟩
  | _ :: l, _ :: m, i + 1, h, e => ⟨h.1, lle_no i h.2 e⟩
  | [], _ :: _, _, h, _ => False.elim h
  | _ :: _, [], _, h, _ => False.elim h
theorem lle_sn : ∀ {l m : Lv} (i : Nat), lle l m → lle (l.set i none) m
  | [], [], _, _ => trivial
  | _ :: l, _ :: m, 0, h => ⟨Or.inl rfl, h.2⟩
  | _ :: l, _ :: m, i + 1, h => ⟨h.1, lle_sn i h.2⟩
  | [], _ :: _, _, h => False.elim h
  | _ :: _, [], _, h => False.elim h
theorem lle_clr {l m : Lv} (i : Nat) (h : lle l m) : lle (lclr l i) (lclr m i) := by
  cases i with
  | zero => exact h
  | succ i =>
    show lle (if isl (lget l i) then l.set i none else l) (if isl (lget m i) then m.set i none else m)
    cases e : lget l i with
    | none =>
      rw [if_neg (by intro z; cases z)]
      by_cases hm : isl (lget m i)
      · rw [if_pos hm]; exact lle_no i h e
      · rw [if_neg hm]; exact h
    | some v =>
      rw [lle_get i h e]
      by_cases hm : isl (some v)
      · rw [if_pos hm, if_pos hm]; exact lle_set i none h
      · rw [if_neg hm, if_neg hm]; exact h
theorem lle_st1 {l m l' : Lv} {i : Nat} {v : Value} (h : lle l m) (e : st1 l i v = some l') : ∃ m', st1 m i v = some m' ∧ lle l' m' := by
  unfold st1 at e ⊢
  by_cases hi : i < l.length
  · rw [if_pos hi] at e
    rw [if_pos (by rw [← lle_len h]; exact hi)]
    cases e
    exact ⟨_, rfl, lle_set i _ (lle_clr i h)⟩
  · rw [if_neg hi] at e; cases e
theorem lle_st2 {l m l' : Lv} {i : Nat} {v : Value} (h : lle l m) (e : st2 l i v = some l') : ∃ m', st2 m i v = some m' ∧ lle l' m' := by
  unfold st2 at e ⊢
  by_cases hi : i + 1 < l.length
  · rw [if_pos hi] at e
    rw [if_pos (by rw [← lle_len h]; exact hi)]
    cases e
    exact ⟨_, rfl, lle_set _ _ (lle_set i _ (lle_clr i h))⟩
  · rw [if_neg hi] at e; cases e
theorem lle_stv {op b : Nat} {l m l' : Lv} {st st' : List Value} (h : lle l m) (e : stv op b l st = some (l', st')) : ∃ m', stv op b m st = some (m', st') ∧ lle l' m' := by
  have key : ∀ {F : Lv → Option Lv} {s : List Value}, (∀ l', F l = some l' → ∃ m', F m = some m' ∧ lle l' m') → (F l).map (fun z => (z, s)) = some (l', st') → ∃ m', (F m).map (fun z => (z, s)) = some (m', st') ∧ lle l' m' := by
    intro F s hF e
    cases hl : F l with
    | none => rw [hl] at e; cases e
    | some z =>
      rw [hl] at e
      cases e
      obtain ⟨m', h1, h2⟩ := hF _ hl
      exact ⟨m', by rw [h1]; rfl, h2⟩
  unfold stv at e ⊢
  by_cases h1 : op < 62
  · rw [if_pos h1] at e ⊢
    match st, e with
    | .int x :: s, e => exact key (F := fun z => st1 z b (.int x)) (s := s) (fun _ => lle_st1 h) e
  rw [if_neg h1] at e ⊢
  by_cases h2 : op < 64
  · rw [if_pos h2] at e ⊢
    match st, e with
    | .long x :: s, e => exact key (F := fun z => st2 z b (.long x)) (s := s) (fun _ => lle_st2 h) e
  rw [if_neg h2] at e ⊢
  match st, e with
  | .ref x :: s, e => exact key (F := fun z => st1 z b (.ref x)) (s := s) (fun _ => lle_st1 h) e
theorem lle_ldv {op b : Nat} {l m : Lv} {v : Value} (h : lle l m) (e : ldv op b l = some v) : ldv op b m = some v := by
  unfold ldv at e ⊢
  cases hl : lget l b with
  | none => rw [hl] at e; cases e
  | some u => rw [hl] at e; rw [lle_get b h hl]; exact e
theorem stp_lle {w : Nat} {f : Nat → Nat → Nat → Lv → List Value → Hp → Option (Option Value × Hp)} (hf : ∀ d k i ls ls' st h x, lle ls ls' → f d k i ls st h = some x → f d k i ls' st h = some x) (d k i : Nat) (ls ls' : Lv) (st : List Value) (h : Hp) (x : Option Value × Hp) (hl : lle ls ls') (e : stp w f d k i ls st h = some x) : stp w f d k i ls' st h = some x := by
  unfold stp at e ⊢
  rcases hq : ins k i with ⟨op, a, b, c⟩
  rw [hq] at e
  dsimp only at e ⊢
  have hb : ∀ {α : Type} {o : Option α} {F G : α → Option (Option Value × Hp)}, (∀ q y, F q = some y → G q = some y) → o.bind F = some x → o.bind G = some x := by
    intro α o F G hFG ho
    cases o with
    | none => cases ho
    | some q => exact hFG q x ho
  have hi : ∀ {c : Prop} [Decidable c] {A B : Option (Option Value × Hp)} {y : Option Value × Hp}, (A = some y → B = some y) → (if c then A else none) = some y → (if c then B else none) = some y := by
    intro c _ A B y hAB ho
    by_cases hc : c
    · rw [if_pos hc] at ho ⊢; exact hAB ho
    · rw [if_neg hc] at ho; cases ho
  by_cases ho : op < 40
  · rw [if_pos ho] at e ⊢
    exact hb (fun q y => hf _ _ _ _ _ _ _ _ hl) e
  rw [if_neg ho] at e ⊢
  clear ho
  by_cases ho : op < 50
  · rw [if_pos ho] at e ⊢
    exact hb (fun q y => hi (hf _ _ _ _ _ _ _ _ hl)) e
  rw [if_neg ho] at e ⊢
  clear ho
  by_cases ho : op < 60
  · rw [if_pos ho] at e ⊢
    obtain ⟨v, e1, e2⟩ := bind_some e
    rw [lle_ldv hl e1]
    exact hf _ _ _ _ _ _ _ _ hl e2
  rw [if_neg ho] at e ⊢
  clear ho
  by_cases ho : op < 66
  · rw [if_pos ho] at e ⊢
    obtain ⟨⟨l', s'⟩, e1, e2⟩ := bind_some e
    obtain ⟨m', h1, h2⟩ := lle_stv hl e1
    rw [h1]
    exact hf _ _ _ _ _ _ _ _ h2 e2
  rw [if_neg ho] at e ⊢
  clear ho
  by_cases ho : op = 66
  · rw [if_pos ho] at e ⊢
    cases hv : lget ls b with
    | none => rw [hv] at e; cases e
    | some v =>
      rw [hv] at e
      rw [lle_get b hl hv]
      match v, e with
      | .int x, e =>
        obtain ⟨l', e1, e2⟩ := bind_some e
        obtain ⟨m', h1, h2⟩ := lle_st1 hl e1
        show (st1 ls' b (.int (x + a))).bind _ = _
        rw [h1]
        exact hf _ _ _ _ _ _ _ _ h2 e2
  rw [if_neg ho] at e ⊢
  clear ho
  by_cases ho : op < 82
  · rw [if_pos ho] at e ⊢
    exact hb (fun q y => hf _ _ _ _ _ _ _ _ hl) e
  rw [if_neg ho] at e ⊢
  clear ho
  by_cases ho : op = 82
  · rw [if_pos ho] at e ⊢
    exact hf _ _ _ _ _ _ _ _ hl e
  rw [if_neg ho] at e ⊢
  clear ho
  by_cases ho : op = 83
  · rw [if_pos ho] at e ⊢
    match st, e with
    | .int x :: st, e => exact hf _ _ _ _ _ _ _ _ hl e
  rw [if_neg ho] at e ⊢
  clear ho
  by_cases ho : op < 110
  · rw [if_pos ho] at e ⊢
    exact hb (fun q y => hf _ _ _ _ _ _ _ _ hl) e
  rw [if_neg ho] at e ⊢
  clear ho
  by_cases ho : op < 120
  · rw [if_pos ho] at e ⊢
    exact hb (fun q y => hi (hf _ _ _ _ _ _ _ _ hl)) e
  rw [if_neg ho] at e ⊢
  clear ho
  by_cases ho : op < 130
  · rw [if_pos ho] at e ⊢
    exact hb (fun q y => hf _ _ _ _ _ _ _ _ hl) e
  rw [if_neg ho] at e ⊢
  clear ho
  by_cases ho : op < 135
  · rw [if_pos ho] at e ⊢
    cases d with
    | zero => cases e
    | succ d' =>
      refine hb (fun q y => hi (fun o => ?_)) e
      cases hz : f d' b 0 (entry q.1 (mL b)) [] h with
      | none => rw [hz] at o; cases o
      | some z =>
        rw [hz] at o
        exact hf _ _ _ _ _ _ _ _ hl o
  rw [if_neg ho] at e ⊢
  clear ho
  by_cases ho : op = 135
  · rw [if_pos ho] at e ⊢
    match st, e with
    | .ref _ :: st, e => exact hi (hf _ _ _ _ _ _ _ _ hl) e
  rw [if_neg ho] at e ⊢
  clear ho
  exact e
theorem run_lle {w : Nat} : ∀ (n d k i : Nat) (ls ls' : Lv) (st : List Value) (h : Hp) (x : Option Value × Hp), lle ls ls' → run w n d k i ls st h = some x → run w n d k i ls' st h = some x := by
  intro n
  induction n with
  | zero => intro d k i ls ls' st h x _ e; cases e
  | succ n ih => intro d k i ls ls' st h x hl e; exact stp_lle ih d k i ls ls' st h x hl e
section RW2
variable {w d k i b c : Nat} {a : Int32} {ls : Lv} {st : List Value} {h : Hp} {Q : Option Value → Hp → Prop}
theorem R_weak (ls' : Lv) (hl : lle ls' ls) (kk : R w d k i ls' st h Q) : R w d k i ls st h Q := by
  obtain ⟨n, r, h', e, q⟩ := kk
  exact ⟨n, r, h', run_lle _ _ _ _ _ _ _ _ _ hl e, q⟩
theorem R_swc {x lo lo' : Int32} {t dd : Nat} {ts : List Nat} (hl : lo + 1 = lo') (kt : x = lo → R w d k t ls st h Q) (kf : ¬ x = lo → R w d k (swf x lo' ts dd) ls st h Q) : R w d k (swf x lo (t :: ts) dd) ls st h Q := by
  subst hl
  show R w d k (if x = lo then t else swf x (lo + 1) ts dd) ls st h Q
  by_cases hc : x = lo
  · rw [if_pos hc]; exact kt hc
  · rw [if_neg hc]; exact kf hc
theorem hh {a b d : Nat} (h : Nat.ble (a + 1) b = true) (hd : b ≤ d + 1) : a ≤ d := Nat.le_of_succ_le_succ (Nat.le_trans (Nat.le_of_ble_eq_true h) hd)
theorem hg {a b d : Nat} (h : Nat.ble a b = true) (hd : b ≤ d) : a ≤ d := Nat.le_trans (Nat.le_of_ble_eq_true h) hd
theorem bnd_some {α β : Type} {x y : α} {f : α → Option β} {q : β} (e : y = x) (h : bnd x f = some q) : f y = some q := by rw [e]; exact h
theorem R_swn {x lo : Int32} {dd : Nat} (kk : R w d k dd ls st h Q) : R w d k (swf x lo [] dd) ls st h Q := kk
theorem rok_v {y q : Nat} {vs : List Value} (hW : WF w h) (hs : (shp w q).1 = mCi y) (hb : mCi y < 900) (hy : Nat.ble (lay (.ref q :: vs)).length (mL y) = true) : rok w 132 y (.ref q :: vs) h = true := by
  show (Nat.ble (lay (.ref q :: vs)).length (mL y) && decide ((shp w q).1 = mCi y ∧ q < hN h)) = true
  rw [hy, decide_eq_true (show (shp w q).1 = mCi y ∧ q < hN h from ⟨hs, hW.lt hs hb⟩)]
  rfl
theorem R_callV {y d' q : Nat} {vs st' : List Value} (hW : WF w h) (hi : ins k i = (132, a, y, c)) (hd : d = d' + 1) (hc : cut c st = some (.ref q :: vs, st')) (hs : csum st' ≤ 8) (hq : (shp w q).1 = mCi y) (hb : mCi y < 900) (hy : Nat.ble (lay (.ref q :: vs)).length (mL y) = true) (kk : R w d' y 0 (entry (.ref q :: vs) (mL y)) [] h (fun r h' => R w d k (i + 1) ls (r.toList ++ st') h' Q)) : R w d k i ls st h Q := R_call hi (by decide) (by decide) hd hc hs (rok_v hW hq hb hy) kk
theorem R_post {Q' : Option Value → Hp → Prop} (hQ : ∀ r h', Q r h' → Q' r h') (kk : R w d k i ls st h Q) : R w d k i ls st h Q' := by
  obtain ⟨n, r, h', e, q⟩ := kk
  exact ⟨n, r, h', e, hQ r h' q⟩
end RW2
