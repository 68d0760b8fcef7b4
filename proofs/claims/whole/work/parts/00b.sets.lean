/-! what a set costs and gains, whether it is lawful: over numbers -/
def mc_cost (C : Nat → Nat) (S : Nat) : Nat → Nat
  | 0 => 0
  | k + 1 => mc_cost C S k + (if S.testBit k = true then C k else 0)
def mc_bon (b : Nat → Int) (S : Nat) : Nat → Int
  | 0 => 0
  | k + 1 => mc_bon b S k + (if S.testBit k = true then b k else 0)
def mc_gain (G : Nat → Nat) (B : Nat → Nat → Int) (S : Nat) : Nat → Int
  | 0 => 0
  | k + 1 => mc_gain G B S k + (if S.testBit k = true then (G k : Int) + mc_bon (B k) S k else 0)
def mc_law (n : Nat) (X D : Nat → Nat) (S : Nat) : Prop := ∀ m, m < n → S.testBit m = true → X m &&& S = 0 ∧ D m &&& S = D m
/-- the numbers of a house are in their bounds -/
def mc_ok (n : Nat) (C G : Nat → Nat) (X D : Nat → Nat) (B : Nat → Nat → Int) : Prop :=
  n ≤ 12 ∧ (∀ m, m < n → 1 ≤ C m) ∧ (∀ m, C m ≤ 10000) ∧ (∀ m, G m ≤ 10000) ∧ (∀ m, X m < 4096) ∧ (∀ m, D m < 4096) ∧ (∀ i j, -5000 ≤ B i j ∧ B i j ≤ 5000)
theorem mc_cost_le {C : Nat → Nat} {S : Nat} (h : ∀ m, C m ≤ 10000) : ∀ k, mc_cost C S k ≤ 10000 * k
  | 0 => Nat.le_refl 0
  | k + 1 => by
    have := mc_cost_le (S := S) h k
    have h2 := h k
    simp only [mc_cost]
    split <;> omega
theorem mc_bon_le {b : Nat → Int} {S : Nat} (h : ∀ m, -5000 ≤ b m ∧ b m ≤ 5000) : ∀ k : Nat, -5000 * (k : Int) ≤ mc_bon b S k ∧ mc_bon b S k ≤ 5000 * (k : Int)
  | 0 => by simp [mc_bon]
  | k + 1 => by
    have := mc_bon_le (S := S) h k
    have h2 := h k
    simp only [mc_bon]
    split <;> omega
theorem mc_gain_le {G : Nat → Nat} {B : Nat → Nat → Int} {S : Nat} (h : ∀ m, G m ≤ 10000) (hB : ∀ i j, -5000 ≤ B i j ∧ B i j ≤ 5000) : ∀ k : Nat, k ≤ 12 → -70000 * (k : Int) ≤ mc_gain G B S k ∧ mc_gain G B S k ≤ 70000 * (k : Int)
  | 0, _ => by simp [mc_gain]
  | k + 1, hk => by
    have h1 := mc_gain_le (S := S) h hB k (by omega)
    have h2 := h k
    have h3 := mc_bon_le (S := S) (hB k) k
    simp only [mc_gain]
    split <;> omega
/-- sums look at the bits below k alone -/
theorem mc_cost_bits {C : Nat → Nat} {S T : Nat} : ∀ k, (∀ j, j < k → S.testBit j = T.testBit j) → mc_cost C S k = mc_cost C T k
  | 0, _ => rfl
  | k + 1, h => by
    simp only [mc_cost]
    rw [mc_cost_bits k (fun j hj => h j (by omega)), h k (by omega)]
theorem mc_bon_bits {b : Nat → Int} {S T : Nat} : ∀ k, (∀ j, j < k → S.testBit j = T.testBit j) → mc_bon b S k = mc_bon b T k
  | 0, _ => rfl
  | k + 1, h => by
    simp only [mc_bon]
    rw [mc_bon_bits k (fun j hj => h j (by omega)), h k (by omega)]
theorem mc_gain_bits {G : Nat → Nat} {B : Nat → Nat → Int} {S T : Nat} : ∀ k, (∀ j, j < k → S.testBit j = T.testBit j) → mc_gain G B S k = mc_gain G B T k
  | 0, _ => rfl
  | k + 1, h => by
    simp only [mc_gain]
    rw [mc_gain_bits k (fun j hj => h j (by omega)), h k (by omega), mc_bon_bits k (fun j hj => h j (by omega))]
/-- bits above a set's own add nothing -/
theorem mc_hi {S m j : Nat} (hS : S < 2 ^ m) (h : m ≤ j) : S.testBit j = false := Nat.testBit_lt_two_pow (Nat.lt_of_lt_of_le hS (Nat.pow_le_pow_right (by decide) h))
theorem mc_cost_hi {C : Nat → Nat} {S m : Nat} (hS : S < 2 ^ m) : ∀ k, m ≤ k → mc_cost C S k = mc_cost C S m := by
  intro k hk
  induction k with
  | zero => rw [show m = 0 by omega]
  | succ k ih =>
    by_cases e : m = k + 1
    · rw [e]
    · simp only [mc_cost]
      rw [ih (by omega), mc_hi hS (by omega : m ≤ k)]
      simp
theorem mc_bon_hi {b : Nat → Int} {S m : Nat} (hS : S < 2 ^ m) : ∀ k, m ≤ k → mc_bon b S k = mc_bon b S m := by
  intro k hk
  induction k with
  | zero => rw [show m = 0 by omega]
  | succ k ih =>
    by_cases e : m = k + 1
    · rw [e]
    · simp only [mc_bon]
      rw [ih (by omega), mc_hi hS (by omega : m ≤ k)]
      simp
theorem mc_gain_hi {G : Nat → Nat} {B : Nat → Nat → Int} {S m : Nat} (hS : S < 2 ^ m) : ∀ k, m ≤ k → mc_gain G B S k = mc_gain G B S m := by
  intro k hk
  induction k with
  | zero => rw [show m = 0 by omega]
  | succ k ih =>
    by_cases e : m = k + 1
    · rw [e]
    · simp only [mc_gain]
      rw [ih (by omega), mc_hi hS (by omega : m ≤ k)]
      simp
/-- one more measure, above all of the set's -/
theorem mc_top_lo {S m j : Nat} (hj : j < m) : (2 ^ m + S).testBit j = S.testBit j := Nat.testBit_two_pow_add_gt hj S
theorem mc_top_at {S m : Nat} (hS : S < 2 ^ m) : (2 ^ m + S).testBit m = true := by
  rw [Nat.testBit_two_pow_add_eq, Nat.testBit_lt_two_pow hS]; rfl
theorem mc_cost_top {C : Nat → Nat} {S m : Nat} (hS : S < 2 ^ m) : mc_cost C (2 ^ m + S) (m + 1) = mc_cost C S m + C m := by
  simp only [mc_cost]
  rw [mc_cost_bits m (fun j hj => mc_top_lo hj), mc_top_at hS]
  simp
theorem mc_bon_top {b : Nat → Int} {S m : Nat} (hS : S < 2 ^ m) : mc_bon b (2 ^ m + S) (m + 1) = mc_bon b S m + b m := by
  simp only [mc_bon]
  rw [mc_bon_bits m (fun j hj => mc_top_lo hj), mc_top_at hS]
  simp
theorem mc_gain_top {G : Nat → Nat} {B : Nat → Nat → Int} {S m : Nat} (hS : S < 2 ^ m) : mc_gain G B (2 ^ m + S) (m + 1) = mc_gain G B S m + G m + mc_bon (B m) S m := by
  simp only [mc_gain]
  rw [mc_gain_bits m (fun j hj => mc_top_lo hj), mc_top_at hS, mc_bon_bits m (fun j hj => mc_top_lo hj)]
  simp [Int.add_assoc]
/-- the step of addGains: a set with bit m' on top of rest, and measure m above both -/
theorem mc_gain_step {G : Nat → Nat} {B : Nat → Nat → Int} {R m m' : Nat} (hm : m' < m) (hR : R < 2 ^ m') :
    mc_gain G B (2 ^ m + (2 ^ m' + R)) (m + 1) = mc_gain G B (2 ^ m' + R) m + (mc_gain G B (2 ^ m + R) (m + 1) - mc_gain G B R m) + B m m' := by
  have hp : 2 ^ (m' + 1) ≤ 2 ^ m := Nat.pow_le_pow_right (by decide) hm
  have hp1 : 2 ^ (m' + 1) = 2 * 2 ^ m' := by rw [Nat.pow_succ]; omega
  rw [mc_gain_top (show 2 ^ m' + R < 2 ^ m by omega), mc_gain_top (show R < 2 ^ m by omega)]
  have h1 : mc_bon (B m) (2 ^ m' + R) m = mc_bon (B m) R m + B m m' := by
    rw [mc_bon_hi (m := m' + 1) (by omega) m hm, mc_bon_top hR, mc_bon_hi hR m (by omega)]
  rw [h1]
  omega
