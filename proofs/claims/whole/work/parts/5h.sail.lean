/-! ===== sail ===== -/
/-- two loops in step -/
theorem lp_two {S S' : Type} {b : S → Option (Nat × S)} {b' : S' → Option (Nat × S')} {Q : Nat × S → Nat × S' → Prop} (J : Nat → S → S' → Prop) (hb : ∀ m s t, J m s t → (∃ s1 t1, b s = some (0, s1) ∧ b' t = some (0, t1) ∧ ∃ m', m' < m ∧ J m' s1 t1) ∨ (∃ e s1 e' t1, b s = some (e + 1, s1) ∧ b' t = some (e' + 1, t1) ∧ Q (e, s1) (e', t1))) : ∀ (N m : Nat) (s : S) (t : S'), m < N → J m s t → ∃ q q', lp b N s = some q ∧ lp b' N t = some q' ∧ Q q q' := by
  intro N
  induction N with
  | zero => intro m s t h; exact absurd h (Nat.not_lt_zero m)
  | succ N ih =>
    intro m s t h hJ
    rcases hb m s t hJ with ⟨s1, t1, e1, e2, m', hm, hJ'⟩ | ⟨e, s1, e', t1, e1, e2, hq⟩
    · obtain ⟨q, q', h1, h2, h3⟩ := ih m' s1 t1 (by omega) hJ'
      refine ⟨q, q', ?_, ?_, h3⟩
      · show (b s).bind _ = _
        rw [e1]; exact h1
      · show (b' t).bind _ = _
        rw [e2]; exact h2
    · refine ⟨(e, s1), (e', t1), ?_, ?_, hq⟩
      · show (b s).bind _ = _
        rw [e1]; rfl
      · show (b' t).bind _ = _
        rw [e2]; rfl
