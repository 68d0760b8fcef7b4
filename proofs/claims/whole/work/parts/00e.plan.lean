/-! plans: the best set of a year for one who had another set before; the best plan, from the last year back -/
def mc_pick (N : Nat) (ok : Nat → Prop) (t : Nat → Int) (sp : Nat → Nat) (B r : Nat) : Prop :=
  r < N ∧ ok r ∧ mc_sub B r ∧ ∀ S, S < N → ok S → mc_sub B S → t S < t r ∨ (t S = t r ∧ (sp r < sp S ∨ (sp r = sp S ∧ r ≤ S)))
theorem mc_pick_uniq {N : Nat} {ok : Nat → Prop} {t : Nat → Int} {sp : Nat → Nat} {B r r' : Nat} (h : mc_pick N ok t sp B r) (h' : mc_pick N ok t sp B r') : r = r' := by
  obtain ⟨a1, a2, a3, a4⟩ := h
  obtain ⟨b1, b2, b3, b4⟩ := h'
  have x := a4 r' b1 b2 b3
  have y := b4 r a1 a2 a3
  rcases x with x | ⟨x, x | ⟨x, x'⟩⟩ <;> rcases y with y | ⟨y, y | ⟨y, y'⟩⟩ <;> omega
