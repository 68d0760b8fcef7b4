/-! what a measure brings with it -/
def mc_sub (S T : Nat) : Prop := ∀ j, S.testBit j = true → T.testBit j = true
theorem mc_sub_anti {S T : Nat} (h1 : mc_sub S T) (h2 : mc_sub T S) : S = T := by
  apply Nat.eq_of_testBit_eq
  intro j
  have a := h1 j
  have b := h2 j
  cases hs : S.testBit j <;> cases ht : T.testBit j <;> simp_all
def mc_nd (D : Nat → Nat) (S T : Nat) : Nat → Nat
  | 0 => T
  | k + 1 => if S.testBit k = true then mc_nd D S T k ||| D k else mc_nd D S T k
theorem mc_nd_bit {D : Nat → Nat} {S T : Nat} (j : Nat) : ∀ k, (mc_nd D S T k).testBit j = true ↔ (T.testBit j = true ∨ ∃ m, m < k ∧ S.testBit m = true ∧ (D m).testBit j = true)
  | 0 => by simp [mc_nd]
  | k + 1 => by
    have ih := mc_nd_bit (D := D) (S := S) (T := T) j k
    simp only [mc_nd]
    split
    · rename_i hk
      rw [Nat.testBit_or, Bool.or_eq_true, ih]
      constructor
      · rintro ((h | ⟨m, h1, h2, h3⟩) | h)
        · exact Or.inl h
        · exact Or.inr ⟨m, by omega, h2, h3⟩
        · exact Or.inr ⟨k, by omega, hk, h⟩
      · rintro (h | ⟨m, h1, h2, h3⟩)
        · exact Or.inl (Or.inl h)
        · by_cases e : m = k
          · subst e; exact Or.inr h3
          · exact Or.inl (Or.inr ⟨m, by omega, h2, h3⟩)
    · rename_i hk
      rw [ih]
      constructor
      · rintro (h | ⟨m, h1, h2, h3⟩)
        · exact Or.inl h
        · exact Or.inr ⟨m, by omega, h2, h3⟩
      · rintro (h | ⟨m, h1, h2, h3⟩)
        · exact Or.inl h
        · by_cases e : m = k
          · subst e; exact absurd h2 hk
          · exact Or.inr ⟨m, by omega, h2, h3⟩
def mc_itr (n : Nat) (D : Nat → Nat) (S : Nat) : Nat → Nat
  | 0 => S
  | k + 1 => mc_nd D (mc_itr n D S k) (mc_itr n D S k) n
def mc_closed (n : Nat) (D : Nat → Nat) (S : Nat) : Prop := ∀ m, m < n → S.testBit m = true → mc_sub (D m) S
def mc_clo (n : Nat) (D : Nat → Nat) (m S : Nat) : Prop := S.testBit m = true ∧ mc_closed n D S ∧ ∀ T, T.testBit m = true → mc_closed n D T → mc_sub S T
theorem mc_clo_uniq {n : Nat} {D : Nat → Nat} {m S T : Nat} (hS : mc_clo n D m S) (hT : mc_clo n D m T) : S = T := mc_sub_anti (hS.2.2 T hT.1 hT.2.1) (hT.2.2 S hS.1 hS.2.1)
def mc_card (S : Nat) : Nat → Nat
  | 0 => 0
  | k + 1 => mc_card S k + (if S.testBit k = true then 1 else 0)
theorem mc_card_le (S : Nat) : ∀ k, mc_card S k ≤ k
  | 0 => Nat.le_refl 0
  | k + 1 => by
    have := mc_card_le S k
    simp only [mc_card]
    split <;> omega
theorem mc_card_mono {S T : Nat} (h : mc_sub S T) : ∀ k, mc_card S k ≤ mc_card T k
  | 0 => Nat.le_refl 0
  | k + 1 => by
    have := mc_card_mono h k
    have hk := h k
    simp only [mc_card]
    split <;> split <;> simp_all <;> omega
theorem mc_card_lt {S T j : Nat} (h : mc_sub S T) (h1 : S.testBit j = false) (h2 : T.testBit j = true) : ∀ k, j < k → mc_card S k < mc_card T k
  | 0, hj => absurd hj (by omega)
  | k + 1, hj => by
    by_cases e : j = k
    · subst e
      have := mc_card_mono h j
      simp only [mc_card, h1, h2]
      simp
      omega
    · have := mc_card_lt h h1 h2 k (by omega)
      have hk := h k
      simp only [mc_card]
      split <;> split <;> simp_all <;> omega
theorem mc_card_pos {S j : Nat} (h : S.testBit j = true) : ∀ k, j < k → 0 < mc_card S k := by
  intro k hk
  have h0 : mc_card 0 k = 0 := by
    clear hk
    induction k with
    | zero => rfl
    | succ k ih => simp [mc_card, ih]
  have := mc_card_lt (S := 0) (T := S) (fun i hi => by simp at hi) (by simp) h k hk
  omega
theorem mc_itr_sub {n : Nat} {D : Nat → Nat} {S : Nat} (k : Nat) : mc_sub (mc_itr n D S k) (mc_itr n D S (k + 1)) := by
  intro j hj
  exact (mc_nd_bit j n).mpr (Or.inl hj)
theorem mc_itr_in {n : Nat} {D : Nat → Nat} {S : Nat} : ∀ k, mc_sub S (mc_itr n D S k)
  | 0 => fun _ h => h
  | k + 1 => fun j h => mc_itr_sub k j (mc_itr_in k j h)
theorem mc_itr_lt {n : Nat} {D : Nat → Nat} {S : Nat} (hS : ∀ j, S.testBit j = true → j < n) (hD : ∀ m j, (D m).testBit j = true → j < n) : ∀ k j, (mc_itr n D S k).testBit j = true → j < n
  | 0, j, h => hS j h
  | k + 1, j, h => by
    rcases (mc_nd_bit j n).mp h with q | ⟨m, h1, h2, h3⟩
    · exact mc_itr_lt hS hD k j q
    · exact hD m j h3
theorem mc_itr_least {n : Nat} {D : Nat → Nat} {S T : Nat} (hST : mc_sub S T) (hT : mc_closed n D T) : ∀ k, mc_sub (mc_itr n D S k) T
  | 0 => hST
  | k + 1 => fun j h => by
    rcases (mc_nd_bit j n).mp h with q | ⟨m, h1, h2, h3⟩
    · exact mc_itr_least hST hT k j q
    · exact hT m h1 (mc_itr_least hST hT k m h2) j h3
/-- while it isn't closed, it grows -/
theorem mc_itr_grow {n : Nat} {D : Nat → Nat} {S : Nat} (hD : ∀ m j, (D m).testBit j = true → j < n) (k : Nat) : mc_closed n D (mc_itr n D S k) ∨ mc_card (mc_itr n D S k) n < mc_card (mc_itr n D S (k + 1)) n := by
  by_cases hc : mc_closed n D (mc_itr n D S k)
  · exact Or.inl hc
  · right
    unfold mc_closed mc_sub at hc
    simp only [Classical.not_forall] at hc
    obtain ⟨m, hm, hb, j, hj, hn⟩ := hc
    exact mc_card_lt (mc_itr_sub k) (by simpa using hn) ((mc_nd_bit j n).mpr (Or.inr ⟨m, hm, hb, hj⟩)) n (hD m j hj)
theorem mc_itr_stay {n : Nat} {D : Nat → Nat} {S k : Nat} (h : mc_closed n D (mc_itr n D S k)) : mc_itr n D S (k + 1) = mc_itr n D S k := by
  apply mc_sub_anti
  · intro j hj
    rcases (mc_nd_bit j n).mp hj with q | ⟨m, h1, h2, h3⟩
    · exact q
    · exact h m h1 h2 j h3
  · exact mc_itr_sub k
theorem mc_itr_count {n : Nat} {D : Nat → Nat} {S : Nat} (hD : ∀ m j, (D m).testBit j = true → j < n) (h0 : 0 < mc_card S n) : ∀ k, mc_closed n D (mc_itr n D S k) ∨ k < mc_card (mc_itr n D S k) n
  | 0 => Or.inr h0
  | k + 1 => by
    rcases mc_itr_count hD h0 k with h | h
    · left; rw [mc_itr_stay h]; exact h
    · rcases mc_itr_grow (S := S) hD k with q | q
      · left; rw [mc_itr_stay q]; exact q
      · right; omega
theorem mc_itr_clo {n : Nat} {D : Nat → Nat} {m : Nat} (hm : m < n) (hD : ∀ m j, (D m).testBit j = true → j < n) : mc_clo n D m (mc_itr n D (2 ^ m) n) := by
  have hb : (2 ^ m).testBit m = true := Nat.testBit_two_pow_self
  refine ⟨mc_itr_in n m hb, ?_, fun T hT hc => mc_itr_least (fun j hj => ?_) hc n⟩
  · rcases mc_itr_count (S := 2 ^ m) hD (mc_card_pos hb n hm) n with h | h
    · exact h
    · have := mc_card_le (mc_itr n D (2 ^ m) n) n
      omega
  · rw [Nat.testBit_two_pow] at hj
    have : m = j := by simpa using hj
    subst this
    exact hT
