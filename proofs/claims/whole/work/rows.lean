section
/-! numbers: an Int as an Int32; bits of a set that is told as a number -/
def iI (z : Int) : Int32 := Int32.ofInt z
theorem iI_nat (n : Nat) : iI (n : Int) = nI n := Int32.ofInt_eq_ofNat
theorem iI_toInt {z : Int} (h1 : -2147483648 ≤ z) (h2 : z < 2147483648) : (iI z).toInt = z := Int32.toInt_ofInt_of_le (by omega) (by omega)
theorem iI_add (a b : Int) : iI a + iI b = iI (a + b) := by
  apply Int32.toBitVec.inj
  simp [iI, BitVec.ofInt_add]
theorem iI_sub (a b : Int) : iI a - iI b = iI (a - b) := by
  rw [Int32.sub_eq_add_neg, show iI b = Int32.ofInt b from rfl, Int32.neg_ofInt]
  exact iI_add a (-b)
theorem iI_lt {a b : Int} (ha1 : -2147483648 ≤ a) (ha2 : a < 2147483648) (hb1 : -2147483648 ≤ b) (hb2 : b < 2147483648) : iI a < iI b ↔ a < b := by
  rw [Int32.lt_iff_toInt_lt, iI_toInt ha1 ha2, iI_toInt hb1 hb2]
theorem iI_le {a b : Int} (ha1 : -2147483648 ≤ a) (ha2 : a < 2147483648) (hb1 : -2147483648 ≤ b) (hb2 : b < 2147483648) : iI a ≤ iI b ↔ a ≤ b := by
  rw [Int32.le_iff_toInt_le, iI_toInt ha1 ha2, iI_toInt hb1 hb2]
theorem iI_eq {a b : Int} (ha1 : -2147483648 ≤ a) (ha2 : a < 2147483648) (hb1 : -2147483648 ≤ b) (hb2 : b < 2147483648) : iI a = iI b ↔ a = b := by
  constructor
  · intro h
    have := congrArg Int32.toInt h
    rwa [iI_toInt ha1 ha2, iI_toInt hb1 hb2] at this
  · intro h; rw [h]
theorem iI_self (x : Int32) : iI x.toInt = x := Int32.ofInt_toInt x
theorem iI_bnd (x : Int32) : -2147483648 ≤ x.toInt ∧ x.toInt < 2147483648 := ⟨by have := x.le_toInt; omega, by have := x.toInt_lt; omega⟩
theorem nI_or (a b : Nat) : nI a ||| nI b = nI (a ||| b) := by
  apply Int32.toBitVec.inj
  show BitVec.ofNat 32 a ||| BitVec.ofNat 32 b = BitVec.ofNat 32 (a ||| b)
  exact (BitVec.ofNat_or ..).symm
theorem nI_and (a b : Nat) : nI a &&& nI b = nI (a &&& b) := by
  apply Int32.toBitVec.inj
  show BitVec.ofNat 32 a &&& BitVec.ofNat 32 b = BitVec.ofNat 32 (a &&& b)
  exact (BitVec.ofNat_and ..).symm
theorem nI_xor (a b : Nat) : nI a ^^^ nI b = nI (a ^^^ b) := by
  apply Int32.toBitVec.inj
  show BitVec.ofNat 32 a ^^^ BitVec.ofNat 32 b = BitVec.ofNat 32 (a ^^^ b)
  exact (BitVec.ofNat_xor ..).symm
theorem nI_m1 : (-1 : Int32) = nI 4294967295 := by decide +kernel
theorem nI_sm : ∀ k, k < 32 → ((nI k &&& 31).toBitVec.smod 32).toNat = k := by decide +kernel
/-- 1 << k -/
theorem nI_bit {k : Nat} (h : k < 31) : (1 : Int32) <<< (nI k &&& 31) = nI (2 ^ k) := by
  have h2 : 2 ^ k < 2 ^ 32 := Nat.pow_lt_pow_right (by decide) (by omega)
  have := pk_shlN (n := 1) (nI k &&& 31) k (nI_sm k (by omega)) (by omega)
  rw [Nat.one_mul] at this
  exact this
/-- x << k -/
theorem nI_shl {x k : Nat} (h : k < 32) (hx : x * 2 ^ k < 2 ^ 32) : nI x <<< (nI k &&& 31) = nI (x * 2 ^ k) := pk_shlN (nI k &&& 31) k (nI_sm k h) hx
theorem nI_shr {x k : Nat} (h : k < 32) (hx : x < 2 ^ 31) : nI x >>> (nI k &&& 31) = nI (x / 2 ^ k) := pk_shrN hx (nI k &&& 31) k (nI_sm k h)
/-- (x >> k) & 1 -/
theorem nI_has {x k : Nat} (h : k < 32) (hx : x < 2 ^ 31) : (nI x >>> (nI k &&& 31)) &&& 1 = if x.testBit k then 1 else 0 := by
  rw [nI_shr h hx, show (1 : Int32) = nI 1 from rfl, nI_and, Nat.testBit_eq_decide_div_mod_eq, Nat.and_one_is_mod]
  rcases Nat.mod_two_eq_zero_or_one (x / 2 ^ k) with e | e <;> simp [e] <;> rfl
/-- x & ~y = 0 -/
theorem nI_sub0 {x y : Nat} (hx : x < 2 ^ 31) (hy : y < 2 ^ 31) : (nI x &&& (nI y ^^^ (-1)) = 0) ↔ x &&& y = x := by
  rw [nI_m1, nI_xor, nI_and, show (0 : Int32) = nI 0 from rfl]
  have hle : x &&& (y ^^^ 4294967295) ≤ x := Nat.and_le_left
  rw [nI_eq (by omega) (by omega)]
  constructor
  · intro h
    apply Nat.eq_of_testBit_eq
    intro i
    have hi := congrArg (fun z => z.testBit i) h
    simp only [Nat.testBit_and, Nat.testBit_xor, Nat.zero_testBit] at hi ⊢
    by_cases h31 : i < 32
    · have hf : Nat.testBit 4294967295 i = true := by
        rw [show (4294967295 : Nat) = 2 ^ 32 - 1 from rfl, Nat.testBit_two_pow_sub_one]
        simpa using h31
      rw [hf] at hi
      revert hi
      cases x.testBit i <;> cases y.testBit i <;> simp
    · have : x.testBit i = false := Nat.testBit_lt_two_pow (Nat.lt_of_lt_of_le hx (Nat.pow_le_pow_right (by decide) (by omega)))
      simp [this]
  · intro h
    apply Nat.eq_of_testBit_eq
    intro i
    have hi := congrArg (fun z => z.testBit i) h
    simp only [Nat.testBit_and, Nat.testBit_xor, Nat.zero_testBit] at hi ⊢
    by_cases h31 : i < 32
    · have hf : Nat.testBit 4294967295 i = true := by
        rw [show (4294967295 : Nat) = 2 ^ 32 - 1 from rfl, Nat.testBit_two_pow_sub_one]
        simpa using h31
      rw [hf]
      revert hi
      cases x.testBit i <;> cases y.testBit i <;> simp
    · have : x.testBit i = false := Nat.testBit_lt_two_pow (Nat.lt_of_lt_of_le hx (Nat.pow_le_pow_right (by decide) (by omega)))
      simp [this]
/-- x & ~(1 << k) as a number -/
theorem nI_drop {x k : Nat} (hx : x < 2 ^ 31) (hk : k < 31) : nI x &&& (nI (2 ^ k) ^^^ (-1)) = nI (x &&& (2 ^ k ^^^ 4294967295)) := by
  rw [nI_m1, nI_xor, nI_and]
end
section
/-! what a set costs and gains, whether it is lawful: over numbers -/
def mc_cost (C : Nat → Nat) (S : Nat) : Nat → Nat
  | 0 => 0
  | k + 1 => mc_cost C S k + (if S.testBit k = true then C k else 0)
def mc_bon (b : Nat → Int) (S : Nat) : Nat → Int
  | 0 => 0
  | k + 1 => mc_bon b S k + (if S.testBit k = true then b k else 0)
def mc_gain (G : Nat → Nat) (B : Nat → Nat → Int) (S : Nat) : Nat → Int
  | 0 => 0
  | k + 1 => mc_gain G B S k + (if S.testBit k = true then (G k : Int) + mc_bon (B k) S k else 0)
def mc_law (n : Nat) (X D : Nat → Nat) (S : Nat) : Prop := ∀ m, m < n → S.testBit m = true → X m &&& S = 0 ∧ D m &&& S = D m
/-- the numbers of a house are in their bounds -/
def mc_ok (n : Nat) (C G : Nat → Nat) (X D : Nat → Nat) (B : Nat → Nat → Int) : Prop :=
  n ≤ 12 ∧ (∀ m, m < n → 1 ≤ C m) ∧ (∀ m, C m ≤ 10000) ∧ (∀ m, G m ≤ 10000) ∧ (∀ m, X m < 4096) ∧ (∀ m, D m < 4096) ∧ (∀ i j, -5000 ≤ B i j ∧ B i j ≤ 5000)
theorem mc_cost_le {C : Nat → Nat} {S : Nat} (h : ∀ m, C m ≤ 10000) : ∀ k, mc_cost C S k ≤ 10000 * k
  | 0 => Nat.le_refl 0
  | k + 1 => by
    have := mc_cost_le (S := S) h k
    have h2 := h k
    simp only [mc_cost]
    split <;> omega
theorem mc_bon_le {b : Nat → Int} {S : Nat} (h : ∀ m, -5000 ≤ b m ∧ b m ≤ 5000) : ∀ k : Nat, -5000 * (k : Int) ≤ mc_bon b S k ∧ mc_bon b S k ≤ 5000 * (k : Int)
  | 0 => by simp [mc_bon]
  | k + 1 => by
    have := mc_bon_le (S := S) h k
    have h2 := h k
    simp only [mc_bon]
    split <;> omega
theorem mc_gain_le {G : Nat → Nat} {B : Nat → Nat → Int} {S : Nat} (h : ∀ m, G m ≤ 10000) (hB : ∀ i j, -5000 ≤ B i j ∧ B i j ≤ 5000) : ∀ k : Nat, k ≤ 12 → -70000 * (k : Int) ≤ mc_gain G B S k ∧ mc_gain G B S k ≤ 70000 * (k : Int)
  | 0, _ => by simp [mc_gain]
  | k + 1, hk => by
    have h1 := mc_gain_le (S := S) h hB k (by omega)
    have h2 := h k
    have h3 := mc_bon_le (S := S) (hB k) k
    simp only [mc_gain]
    split <;> omega
/-- sums look at the bits below k alone -/
theorem mc_cost_bits {C : Nat → Nat} {S T : Nat} : ∀ k, (∀ j, j < k → S.testBit j = T.testBit j) → mc_cost C S k = mc_cost C T k
  | 0, _ => rfl
  | k + 1, h => by
    simp only [mc_cost]
    rw [mc_cost_bits k (fun j hj => h j (by omega)), h k (by omega)]
theorem mc_bon_bits {b : Nat → Int} {S T : Nat} : ∀ k, (∀ j, j < k → S.testBit j = T.testBit j) → mc_bon b S k = mc_bon b T k
  | 0, _ => rfl
  | k + 1, h => by
    simp only [mc_bon]
    rw [mc_bon_bits k (fun j hj => h j (by omega)), h k (by omega)]
theorem mc_gain_bits {G : Nat → Nat} {B : Nat → Nat → Int} {S T : Nat} : ∀ k, (∀ j, j < k → S.testBit j = T.testBit j) → mc_gain G B S k = mc_gain G B T k
  | 0, _ => rfl
  | k + 1, h => by
    simp only [mc_gain]
    rw [mc_gain_bits k (fun j hj => h j (by omega)), h k (by omega), mc_bon_bits k (fun j hj => h j (by omega))]
/-- bits above a set's own add nothing -/
theorem mc_hi {S m j : Nat} (hS : S < 2 ^ m) (h : m ≤ j) : S.testBit j = false := Nat.testBit_lt_two_pow (Nat.lt_of_lt_of_le hS (Nat.pow_le_pow_right (by decide) h))
theorem mc_cost_hi {C : Nat → Nat} {S m : Nat} (hS : S < 2 ^ m) : ∀ k, m ≤ k → mc_cost C S k = mc_cost C S m := by
  intro k hk
  induction k with
  | zero => rw [show m = 0 by omega]
  | succ k ih =>
    by_cases e : m = k + 1
    · rw [e]
    · simp only [mc_cost]
      rw [ih (by omega), mc_hi hS (by omega : m ≤ k)]
      simp
theorem mc_bon_hi {b : Nat → Int} {S m : Nat} (hS : S < 2 ^ m) : ∀ k, m ≤ k → mc_bon b S k = mc_bon b S m := by
  intro k hk
  induction k with
  | zero => rw [show m = 0 by omega]
  | succ k ih =>
    by_cases e : m = k + 1
    · rw [e]
    · simp only [mc_bon]
      rw [ih (by omega), mc_hi hS (by omega : m ≤ k)]
      simp
theorem mc_gain_hi {G : Nat → Nat} {B : Nat → Nat → Int} {S m : Nat} (hS : S < 2 ^ m) : ∀ k, m ≤ k → mc_gain G B S k = mc_gain G B S m := by
  intro k hk
  induction k with
  | zero => rw [show m = 0 by omega]
  | succ k ih =>
    by_cases e : m = k + 1
    · rw [e]
    · simp only [mc_gain]
      rw [ih (by omega), mc_hi hS (by omega : m ≤ k)]
      simp
/-- one more measure, above all of the set's -/
theorem mc_top_lo {S m j : Nat} (hj : j < m) : (2 ^ m + S).testBit j = S.testBit j := Nat.testBit_two_pow_add_gt hj S
theorem mc_top_at {S m : Nat} (hS : S < 2 ^ m) : (2 ^ m + S).testBit m = true := by
  rw [Nat.testBit_two_pow_add_eq, Nat.testBit_lt_two_pow hS]; rfl
theorem mc_cost_top {C : Nat → Nat} {S m : Nat} (hS : S < 2 ^ m) : mc_cost C (2 ^ m + S) (m + 1) = mc_cost C S m + C m := by
  simp only [mc_cost]
  rw [mc_cost_bits m (fun j hj => mc_top_lo hj), mc_top_at hS]
  simp
theorem mc_bon_top {b : Nat → Int} {S m : Nat} (hS : S < 2 ^ m) : mc_bon b (2 ^ m + S) (m + 1) = mc_bon b S m + b m := by
  simp only [mc_bon]
  rw [mc_bon_bits m (fun j hj => mc_top_lo hj), mc_top_at hS]
  simp
theorem mc_gain_top {G : Nat → Nat} {B : Nat → Nat → Int} {S m : Nat} (hS : S < 2 ^ m) : mc_gain G B (2 ^ m + S) (m + 1) = mc_gain G B S m + G m + mc_bon (B m) S m := by
  simp only [mc_gain]
  rw [mc_gain_bits m (fun j hj => mc_top_lo hj), mc_top_at hS, mc_bon_bits m (fun j hj => mc_top_lo hj)]
  simp [Int.add_assoc]
/-- the step of addGains: a set with bit m' on top of rest, and measure m above both -/
theorem mc_gain_step {G : Nat → Nat} {B : Nat → Nat → Int} {R m m' : Nat} (hm : m' < m) (hR : R < 2 ^ m') :
    mc_gain G B (2 ^ m + (2 ^ m' + R)) (m + 1) = mc_gain G B (2 ^ m' + R) m + (mc_gain G B (2 ^ m + R) (m + 1) - mc_gain G B R m) + B m m' := by
  have hp : 2 ^ (m' + 1) ≤ 2 ^ m := Nat.pow_le_pow_right (by decide) hm
  have hp1 : 2 ^ (m' + 1) = 2 * 2 ^ m' := by rw [Nat.pow_succ]; omega
  rw [mc_gain_top (show 2 ^ m' + R < 2 ^ m by omega), mc_gain_top (show R < 2 ^ m by omega)]
  have h1 : mc_bon (B m) (2 ^ m' + R) m = mc_bon (B m) R m + B m m' := by
    rw [mc_bon_hi (m := m' + 1) (by omega) m hm, mc_bon_top hR, mc_bon_hi hR m (by omega)]
  rw [h1]
  omega
end
section
/-! the keys of all sets in order, and the merge that adds a measure -/
/-- f holds the N numbers of the kind K, growing -/
def mc_ord (N : Nat) (K : Nat → Nat) (f : Nat → Nat) : Prop :=
  (∀ i j, i < j → j < N → f i < f j) ∧ (∀ S, S < N → ∃ i, i < N ∧ f i = K S) ∧ (∀ i, i < N → ∃ S, S < N ∧ f i = K S)
/-- a merge under way: of the plain ones p, of the raised ones r are still to be laid; from p + r on the upper ones lie -/
def mc_mrg (N a p r : Nat) (f g : Nat → Nat) : Prop :=
  r ≤ p ∧ p ≤ N ∧ r ≤ N ∧ (∀ i, i < p → g i = f i) ∧ (∀ i j, p + r ≤ i → i < j → j < 2 * N → g i < g j) ∧
  (∀ j, p ≤ j → j < N → ∃ i, p + r ≤ i ∧ i < 2 * N ∧ g i = f j) ∧ (∀ j, r ≤ j → j < N → ∃ i, p + r ≤ i ∧ i < 2 * N ∧ g i = f j + a) ∧
  (∀ i, p + r ≤ i → i < 2 * N → (∃ j, p ≤ j ∧ j < N ∧ g i = f j) ∨ ∃ j, r ≤ j ∧ j < N ∧ g i = f j + a) ∧
  (∀ i j, p + r ≤ i → i < 2 * N → j < p → f j < g i) ∧ (∀ i j, p + r ≤ i → i < 2 * N → j < r → f j + a < g i)
theorem mc_mrg_0 {N a : Nat} {f : Nat → Nat} : mc_mrg N a N N f f := by
  refine ⟨Nat.le_refl _, Nat.le_refl _, Nat.le_refl _, fun _ _ => rfl, fun i j h1 h2 h3 => absurd h3 (by omega), fun j h1 h2 => absurd h2 (by omega), fun j h1 h2 => absurd h2 (by omega), fun i h1 h2 => absurd h2 (by omega), fun i j h1 h2 => absurd h2 (by omega), fun i j h1 h2 => absurd h2 (by omega)⟩
/-- the raised one is the larger -/
theorem mc_mrg_r {N a p r : Nat} {f g g' : Nat → Nat} (ho : ∀ i j, i < j → j < N → f i < f j) (h : mc_mrg N a p (r + 1) f g) (hp : 0 < p) (hc : f (p - 1) < f r + a) (hg : ∀ i, i ≠ p + r → g' i = g i) (hv : g' (p + r) = f r + a) : mc_mrg N a p r f g' := by
  obtain ⟨h1, h2, h3, h4, h5, h6, h7, h8, h9, h10⟩ := h
  have hmono : ∀ i j, i ≤ j → j < N → f i ≤ f j := fun i j hij hj => by
    rcases Nat.lt_or_ge i j with q | q
    · exact Nat.le_of_lt (ho i j q hj)
    · rw [show i = j by omega]; exact Nat.le_refl _
  refine ⟨by omega, h2, by omega, fun i hi => by rw [hg i (by omega)]; exact h4 i hi, ?_, ?_, ?_, ?_, ?_, ?_⟩
  · intro i j hi hij hj
    rw [hg j (by omega)]
    by_cases e : i = p + r
    · subst e
      rw [hv]
      exact h10 j r (by omega) hj (by omega)
    · rw [hg i e]
      exact h5 i j (by omega) hij hj
  · intro j hj1 hj2
    obtain ⟨i, i1, i2, i3⟩ := h6 j hj1 hj2
    exact ⟨i, by omega, i2, by rw [hg i (by omega)]; exact i3⟩
  · intro j hj1 hj2
    by_cases e : j = r
    · subst e
      exact ⟨p + j, by omega, by omega, hv⟩
    · obtain ⟨i, i1, i2, i3⟩ := h7 j (by omega) hj2
      exact ⟨i, by omega, i2, by rw [hg i (by omega)]; exact i3⟩
  · intro i hi1 hi2
    by_cases e : i = p + r
    · subst e
      exact Or.inr ⟨r, by omega, by omega, hv⟩
    · rw [hg i e]
      rcases h8 i (by omega) hi2 with ⟨j, j1, j2, j3⟩ | ⟨j, j1, j2, j3⟩
      · exact Or.inl ⟨j, j1, j2, j3⟩
      · exact Or.inr ⟨j, by omega, j2, j3⟩
  · intro i j hi1 hi2 hj
    by_cases e : i = p + r
    · subst e
      rw [hv]
      exact Nat.lt_of_le_of_lt (hmono j (p - 1) (by omega) (by omega)) hc
    · rw [hg i e]
      exact h9 i j (by omega) hi2 hj
  · intro i j hi1 hi2 hj
    by_cases e : i = p + r
    · subst e
      rw [hv]
      exact Nat.add_lt_add_right (ho j r hj (by omega)) a
    · rw [hg i e]
      exact h10 i j (by omega) hi2 (by omega)
/-- the plain one is the larger -/
theorem mc_mrg_p {N a p r : Nat} {f g g' : Nat → Nat} (ho : ∀ i j, i < j → j < N → f i < f j) (ha : 0 < a) (hne : ∀ i j, i < N → j < N → f i + a ≠ f j) (h : mc_mrg N a (p + 1) (r + 1) f g) (hc : ¬ f p < f r + a) (hg : ∀ i, i ≠ p + r + 1 → g' i = g i) (hv : g' (p + r + 1) = f p) : mc_mrg N a p (r + 1) f g' := by
  obtain ⟨h1, h2, h3, h4, h5, h6, h7, h8, h9, h10⟩ := h
  have hmono : ∀ i j, i ≤ j → j < N → f i ≤ f j := fun i j hij hj => by
    rcases Nat.lt_or_ge i j with q | q
    · exact Nat.le_of_lt (ho i j q hj)
    · rw [show i = j by omega]; exact Nat.le_refl _
  have hlt : f r + a < f p := by
    have := hne r p (by omega) (by omega)
    omega
  have hrp : r < p := by
    rcases Nat.lt_or_ge r p with q | q
    · exact q
    · have := hmono p r q (by omega)
      omega
  refine ⟨by omega, by omega, h3, fun i hi => by rw [hg i (by omega)]; exact h4 i (by omega), ?_, ?_, ?_, ?_, ?_, ?_⟩
  · intro i j hi hij hj
    rw [hg j (by omega)]
    by_cases e : i = p + r + 1
    · subst e
      rw [hv]
      exact h9 j p (by omega) hj (by omega)
    · rw [hg i e]
      exact h5 i j (by omega) hij hj
  · intro j hj1 hj2
    by_cases e : j = p
    · subst e
      exact ⟨j + r + 1, by omega, by omega, hv⟩
    · obtain ⟨i, i1, i2, i3⟩ := h6 j (by omega) hj2
      exact ⟨i, by omega, i2, by rw [hg i (by omega)]; exact i3⟩
  · intro j hj1 hj2
    obtain ⟨i, i1, i2, i3⟩ := h7 j hj1 hj2
    exact ⟨i, by omega, i2, by rw [hg i (by omega)]; exact i3⟩
  · intro i hi1 hi2
    by_cases e : i = p + r + 1
    · subst e
      exact Or.inl ⟨p, by omega, by omega, hv⟩
    · rw [hg i e]
      rcases h8 i (by omega) hi2 with ⟨j, j1, j2, j3⟩ | ⟨j, j1, j2, j3⟩
      · exact Or.inl ⟨j, by omega, j2, j3⟩
      · exact Or.inr ⟨j, j1, j2, j3⟩
  · intro i j hi1 hi2 hj
    by_cases e : i = p + r + 1
    · subst e
      rw [hv]
      exact ho j p hj (by omega)
    · rw [hg i e]
      exact h9 i j (by omega) hi2 (by omega)
  · intro i j hi1 hi2 hj
    by_cases e : i = p + r + 1
    · subst e
      rw [hv]
      exact Nat.lt_of_le_of_lt (Nat.add_le_add_right (hmono j r (by omega) (by omega)) a) hlt
    · rw [hg i e]
      exact h10 i j (by omega) hi2 hj
/-- the merge's end -/
theorem mc_mrg_end {N a p : Nat} {K K' f g : Nat → Nat} (hf : mc_ord N K f) (h : mc_mrg N a p 0 f g) (hK0 : ∀ S, S < N → K' S = K S) (hK1 : ∀ S, S < N → K' (N + S) = K S + a) : mc_ord (2 * N) K' g := by
  obtain ⟨h1, h2, h3, h4, h5, h6, h7, h8, h9, h10⟩ := h
  obtain ⟨o1, o2, o3⟩ := hf
  refine ⟨?_, ?_, ?_⟩
  · intro i j hij hj
    by_cases hjp : j < p
    · rw [h4 i (by omega), h4 j hjp]
      exact o1 i j hij (by omega)
    · by_cases hip : i < p
      · rw [h4 i hip]
        exact h9 j i (by omega) hj hip
      · exact h5 i j (by omega) hij hj
  · intro S hS
    by_cases hlo : S < N
    · obtain ⟨i, i1, i2⟩ := o2 S hlo
      rw [hK0 S hlo]
      by_cases hip : i < p
      · exact ⟨i, by omega, by rw [h4 i hip]; exact i2⟩
      · obtain ⟨k, k1, k2, k3⟩ := h6 i (by omega) i1
        exact ⟨k, k2, by rw [k3]; exact i2⟩
    · obtain ⟨i, i1, i2⟩ := o2 (S - N) (by omega)
      obtain ⟨k, k1, k2, k3⟩ := h7 i (by omega) i1
      refine ⟨k, k2, ?_⟩
      rw [k3, i2, ← hK1 (S - N) (by omega)]
      congr 1
      omega
  · intro i hi
    by_cases hip : i < p
    · obtain ⟨S, s1, s2⟩ := o3 i (by omega)
      exact ⟨S, by omega, by rw [h4 i hip, hK0 S s1]; exact s2⟩
    · rcases h8 i (by omega) hi with ⟨j, j1, j2, j3⟩ | ⟨j, j1, j2, j3⟩
      · obtain ⟨S, s1, s2⟩ := o3 j j2
        exact ⟨S, by omega, by rw [j3, hK0 S s1]; exact s2⟩
      · obtain ⟨S, s1, s2⟩ := o3 j j2
        exact ⟨N + S, by omega, by rw [j3, hK1 S s1, s2]⟩
/-! the sets that none beats, by cost: a ladder over those sets that have been looked at -/
def mc_key (c : Nat → Nat) (S : Nat) : Nat := c S * 4096 + S
def mc_lad (Pr : Nat → Prop) (c : Nat → Nat) (g : Nat → Int) (L : Nat → Prop) (R : Nat) (u : Nat → Nat) : Prop :=
  0 < R ∧ (∀ i j, i < j → j < R → c (u i) < c (u j) ∧ g (u i) < g (u j)) ∧ (∀ i, i < R → Pr (u i) ∧ L (u i)) ∧
  (∀ S, Pr S → L S → ∃ i, i < R ∧ c (u i) ≤ c S ∧ (g S < g (u i) ∨ (g S = g (u i) ∧ mc_key c (u i) ≤ mc_key c S)))
theorem mc_lad_0 {Pr : Nat → Prop} {c : Nat → Nat} {g : Nat → Int} {L : Nat → Prop} {u : Nat → Nat} (hu : Pr (u 0)) (hL : L (u 0)) (h : ∀ S, Pr S → S = u 0) : mc_lad Pr c g L 1 u := by
  refine ⟨by omega, fun i j h1 h2 => absurd h1 (by omega), fun i hi => ?_, fun S hS _ => ⟨0, by omega, ?_, Or.inr ?_⟩⟩
  · rw [show i = 0 by omega]; exact ⟨hu, hL⟩
  · rw [h S hS]; exact Nat.le_refl _
  · rw [h S hS]; exact ⟨rfl, Nat.le_refl _⟩
theorem mc_key_le {c : Nat → Nat} {S T : Nat} (h : mc_key c S < mc_key c T) (hT : T < 4096) : c S ≤ c T := by
  unfold mc_key at h
  omega
theorem mc_lad_skip {Pr Pr' : Nat → Prop} {c : Nat → Nat} {g : Nat → Int} {L : Nat → Prop} {R T : Nat} {u : Nat → Nat} (h : mc_lad Pr c g L R u) (hp : ∀ S, Pr' S ↔ Pr S ∨ S = T) (hk : ∀ S, Pr S → mc_key c S < mc_key c T) (hT : T < 4096)
    (hs : L T → g T ≤ g (u (R - 1))) : mc_lad Pr' c g L R u := by
  obtain ⟨h1, h2, h3, h4⟩ := h
  refine ⟨h1, h2, fun i hi => ⟨(hp _).mpr (Or.inl (h3 i hi).1), (h3 i hi).2⟩, fun S hS hL => ?_⟩
  rcases (hp S).mp hS with q | q
  · exact h4 S q hL
  · subst q
    have hkk := hk _ (h3 (R - 1) (by omega)).1
    refine ⟨R - 1, by omega, mc_key_le hkk hT, ?_⟩
    have := hs hL
    rcases Int.lt_or_eq_of_le this with q | q
    · exact Or.inl q
    · exact Or.inr ⟨q, Nat.le_of_lt hkk⟩
theorem mc_lad_push {Pr Pr' : Nat → Prop} {c : Nat → Nat} {g : Nat → Int} {L : Nat → Prop} {R T : Nat} {u u' : Nat → Nat} (h : mc_lad Pr c g L R u) (hp : ∀ S, Pr' S ↔ Pr S ∨ S = T) (hL : L T) (hg : g (u (R - 1)) < g T) (hc : c (u (R - 1)) < c T)
    (hu : ∀ i, i < R → u' i = u i) (hv : u' R = T) : mc_lad Pr' c g L (R + 1) u' := by
  obtain ⟨h1, h2, h3, h4⟩ := h
  refine ⟨by omega, fun i j hij hj => ?_, fun i hi => ?_, fun S hS hLS => ?_⟩
  · rw [hu i (by omega)]
    by_cases e : j = R
    · subst e
      rw [hv]
      by_cases e2 : i = j - 1
      · subst e2; exact ⟨hc, hg⟩
      · have := h2 i (j - 1) (by omega) (by omega)
        exact ⟨by omega, by omega⟩
    · rw [hu j (by omega)]
      exact h2 i j hij (by omega)
  · by_cases e : i = R
    · subst e
      rw [hv]
      exact ⟨(hp T).mpr (Or.inr rfl), hL⟩
    · rw [hu i (by omega)]
      exact ⟨(hp _).mpr (Or.inl (h3 i (by omega)).1), (h3 i (by omega)).2⟩
  · rcases (hp S).mp hS with q | q
    · obtain ⟨i, i1, i2, i3⟩ := h4 S q hLS
      exact ⟨i, by omega, by rw [hu i i1]; exact i2, by rw [hu i i1]; exact i3⟩
    · subst q
      exact ⟨R, by omega, by rw [hv]; exact Nat.le_refl _, Or.inr ⟨by rw [hv], by rw [hv]; exact Nat.le_refl _⟩⟩
theorem mc_lad_top {Pr Pr' : Nat → Prop} {c : Nat → Nat} {g : Nat → Int} {L : Nat → Prop} {R T : Nat} {u u' : Nat → Nat} (h : mc_lad Pr c g L R u) (hp : ∀ S, Pr' S ↔ Pr S ∨ S = T) (hk : ∀ S, Pr S → mc_key c S < mc_key c T) (hT : T < 4096) (hL : L T) (hg : g (u (R - 1)) < g T) (hc : ¬ c (u (R - 1)) < c T)
    (hu : ∀ i, i < R - 1 → u' i = u i) (hv : u' (R - 1) = T) : mc_lad Pr' c g L R u' := by
  obtain ⟨h1, h2, h3, h4⟩ := h
  have hce : c (u (R - 1)) = c T := by
    have := mc_key_le (hk _ (h3 (R - 1) (by omega)).1) hT
    omega
  refine ⟨h1, fun i j hij hj => ?_, fun i hi => ?_, fun S hS hLS => ?_⟩
  · rw [hu i (by omega)]
    have := h2 i j hij hj
    by_cases e : j = R - 1
    · subst e
      rw [hv]
      exact ⟨by omega, by omega⟩
    · rw [hu j (by omega)]
      exact this
  · by_cases e : i = R - 1
    · subst e
      rw [hv]
      exact ⟨(hp T).mpr (Or.inr rfl), hL⟩
    · rw [hu i (by omega)]
      exact ⟨(hp _).mpr (Or.inl (h3 i (by omega)).1), (h3 i (by omega)).2⟩
  · rcases (hp S).mp hS with q | q
    · obtain ⟨i, i1, i2, i3⟩ := h4 S q hLS
      by_cases e : i = R - 1
      · subst e
        refine ⟨R - 1, by omega, by rw [hv]; omega, Or.inl ?_⟩
        rw [hv]
        rcases i3 with k | k <;> omega
      · exact ⟨i, by omega, by rw [hu i (by omega)]; exact i2, by rw [hu i (by omega)]; exact i3⟩
    · subst q
      exact ⟨R - 1, by omega, by rw [hv]; exact Nat.le_refl _, Or.inr ⟨by rw [hv], by rw [hv]; exact Nat.le_refl _⟩⟩
/-- the highest rung that a budget pays is the best set for it -/
theorem mc_lad_best {Pr : Nat → Prop} {c : Nat → Nat} {g : Nat → Int} {L : Nat → Prop} {R : Nat} {u : Nat → Nat} (h : mc_lad Pr c g L R u) {b r : Nat} (hr : r < R) (hn : ∀ j, r < j → j < R → b < c (u j)) {S : Nat} (hS : Pr S) (hL : L S) (hb : c S ≤ b) :
    g S < g (u r) ∨ (g S = g (u r) ∧ mc_key c (u r) ≤ mc_key c S) := by
  obtain ⟨h1, h2, h3, h4⟩ := h
  obtain ⟨i, i1, i2, i3⟩ := h4 S hS hL
  rcases Nat.lt_trichotomy i r with q | q | q
  · have := (h2 i r q hr).2
    left
    rcases i3 with k | k <;> omega
  · subst q; exact i3
  · have := hn i q i1
    omega
/-- the lowest rung with a gain has the least cost for it -/
theorem mc_lad_bud {Pr : Nat → Prop} {c : Nat → Nat} {g : Nat → Int} {L : Nat → Prop} {R : Nat} {u : Nat → Nat} (h : mc_lad Pr c g L R u) {z : Int} {r : Nat} (hr : r < R) (hn : ∀ j, j < r → g (u j) < z) {S : Nat} (hS : Pr S) (hL : L S) (hz : z ≤ g S) : c (u r) ≤ c S := by
  obtain ⟨h1, h2, h3, h4⟩ := h
  obtain ⟨i, i1, i2, i3⟩ := h4 S hS hL
  rcases Nat.lt_trichotomy i r with q | q | q
  · have := hn i q
    rcases i3 with k | k <;> omega
  · subst q; exact i2
  · have := (h2 r i q i1).1
    omega
theorem mc_lad_none {Pr : Nat → Prop} {c : Nat → Nat} {g : Nat → Int} {L : Nat → Prop} {R : Nat} {u : Nat → Nat} (h : mc_lad Pr c g L R u) {z : Int} (hn : ∀ j, j < R → g (u j) < z) {S : Nat} (hS : Pr S) (hL : L S) : g S < z := by
  obtain ⟨i, i1, i2, i3⟩ := h.2.2.2 S hS hL
  have := hn i i1
  rcases i3 with k | k <;> omega
/-- T beats S -/
def mc_beats (c : Nat → Nat) (g : Nat → Int) (T S : Nat) : Prop := g S ≤ g T ∧ c T ≤ c S ∧ ¬ (g T = g S ∧ c T = c S)
/-- S is lawful, no lawful set beats it -/
def mc_unb (Pr : Nat → Prop) (c : Nat → Nat) (g : Nat → Int) (L : Nat → Prop) (S : Nat) : Prop := Pr S ∧ L S ∧ ∀ T, Pr T → L T → ¬ mc_beats c g T S
/-- .. and it is the least of its cost -/
def mc_fr (Pr : Nat → Prop) (c : Nat → Nat) (g : Nat → Int) (L : Nat → Prop) (S : Nat) : Prop := mc_unb Pr c g L S ∧ ∀ T, mc_unb Pr c g L T → c T = c S → S ≤ T
theorem mc_lad_fr {Pr : Nat → Prop} {c : Nat → Nat} {g : Nat → Int} {L : Nat → Prop} {R : Nat} {u : Nat → Nat} (h : mc_lad Pr c g L R u) (i : Nat) (hi : i < R) : mc_fr Pr c g L (u i) := by
  obtain ⟨h1, h2, h3, h4⟩ := h
  have key : ∀ T, Pr T → L T → g (u i) ≤ g T → c T ≤ c (u i) → (g T = g (u i) ∧ c T = c (u i) ∧ mc_key c (u i) ≤ mc_key c T) := by
    intro T hT hL hg hc
    obtain ⟨j, j1, j2, j3⟩ := h4 T hT hL
    rcases Nat.lt_trichotomy i j with q | q | q
    · have := (h2 i j q j1).1
      omega
    · subst q
      rcases j3 with k | k
      · omega
      · exact ⟨k.1, by omega, k.2⟩
    · have := (h2 j i q hi).2
      rcases j3 with k | k <;> omega
  refine ⟨⟨(h3 i hi).1, (h3 i hi).2, fun T hT hL hb => ?_⟩, fun T hT hc => ?_⟩
  · obtain ⟨b1, b2, b3⟩ := hb
    have := key T hT hL b1 b2
    exact b3 ⟨this.1, this.2.1⟩
  · obtain ⟨t1, t2, t3⟩ := hT
    have hn := t3 (u i) (h3 i hi).1 (h3 i hi).2
    unfold mc_beats at hn
    have hg : g (u i) ≤ g T := by
      rcases Int.lt_or_le (g T) (g (u i)) with q | q
      · exact absurd ⟨by omega, by omega, fun z => by omega⟩ hn
      · exact q
    have := (key T t1 t2 hg (by omega)).2.2
    unfold mc_key at this
    omega
theorem mc_fr_lad {Pr : Nat → Prop} {c : Nat → Nat} {g : Nat → Int} {L : Nat → Prop} {R : Nat} {u : Nat → Nat} (h : mc_lad Pr c g L R u) {S : Nat} (hS : mc_fr Pr c g L S) : ∃ i, i < R ∧ u i = S := by
  obtain ⟨⟨s1, s2, s3⟩, s4⟩ := hS
  obtain ⟨i, i1, i2, i3⟩ := h.2.2.2 S s1 s2
  refine ⟨i, i1, ?_⟩
  have hn := s3 (u i) (h.2.2.1 i i1).1 (h.2.2.1 i i1).2
  unfold mc_beats at hn
  have hge : g S ≤ g (u i) := by rcases i3 with k | k <;> omega
  have he : g (u i) = g S ∧ c (u i) = c S := by
    by_cases e : g (u i) = g S ∧ c (u i) = c S
    · exact e
    · exact absurd ⟨hge, i2, e⟩ hn
  have hf := mc_lad_fr h i i1
  have h5 := hf.2 S ⟨s1, s2, s3⟩ he.2.symm
  have h6 := s4 (u i) hf.1 he.2
  omega
end
section
/-! what a measure brings with it -/
def mc_sub (S T : Nat) : Prop := ∀ j, S.testBit j = true → T.testBit j = true
theorem mc_sub_anti {S T : Nat} (h1 : mc_sub S T) (h2 : mc_sub T S) : S = T := by
  apply Nat.eq_of_testBit_eq
  intro j
  have a := h1 j
  have b := h2 j
  cases hs : S.testBit j <;> cases ht : T.testBit j <;> simp_all
def mc_nd (D : Nat → Nat) (S T : Nat) : Nat → Nat
  | 0 => T
  | k + 1 => if S.testBit k = true then mc_nd D S T k ||| D k else mc_nd D S T k
theorem mc_nd_bit {D : Nat → Nat} {S T : Nat} (j : Nat) : ∀ k, (mc_nd D S T k).testBit j = true ↔ (T.testBit j = true ∨ ∃ m, m < k ∧ S.testBit m = true ∧ (D m).testBit j = true)
  | 0 => by simp [mc_nd]
  | k + 1 => by
    have ih := mc_nd_bit (D := D) (S := S) (T := T) j k
    simp only [mc_nd]
    split
    · rename_i hk
      rw [Nat.testBit_or, Bool.or_eq_true, ih]
      constructor
      · rintro ((h | ⟨m, h1, h2, h3⟩) | h)
        · exact Or.inl h
        · exact Or.inr ⟨m, by omega, h2, h3⟩
        · exact Or.inr ⟨k, by omega, hk, h⟩
      · rintro (h | ⟨m, h1, h2, h3⟩)
        · exact Or.inl (Or.inl h)
        · by_cases e : m = k
          · subst e; exact Or.inr h3
          · exact Or.inl (Or.inr ⟨m, by omega, h2, h3⟩)
    · rename_i hk
      rw [ih]
      constructor
      · rintro (h | ⟨m, h1, h2, h3⟩)
        · exact Or.inl h
        · exact Or.inr ⟨m, by omega, h2, h3⟩
      · rintro (h | ⟨m, h1, h2, h3⟩)
        · exact Or.inl h
        · by_cases e : m = k
          · subst e; exact absurd h2 hk
          · exact Or.inr ⟨m, by omega, h2, h3⟩
def mc_itr (n : Nat) (D : Nat → Nat) (S : Nat) : Nat → Nat
  | 0 => S
  | k + 1 => mc_nd D (mc_itr n D S k) (mc_itr n D S k) n
def mc_closed (n : Nat) (D : Nat → Nat) (S : Nat) : Prop := ∀ m, m < n → S.testBit m = true → mc_sub (D m) S
def mc_clo (n : Nat) (D : Nat → Nat) (m S : Nat) : Prop := S.testBit m = true ∧ mc_closed n D S ∧ ∀ T, T.testBit m = true → mc_closed n D T → mc_sub S T
theorem mc_clo_uniq {n : Nat} {D : Nat → Nat} {m S T : Nat} (hS : mc_clo n D m S) (hT : mc_clo n D m T) : S = T := mc_sub_anti (hS.2.2 T hT.1 hT.2.1) (hT.2.2 S hS.1 hS.2.1)
def mc_card (S : Nat) : Nat → Nat
  | 0 => 0
  | k + 1 => mc_card S k + (if S.testBit k = true then 1 else 0)
theorem mc_card_le (S : Nat) : ∀ k, mc_card S k ≤ k
  | 0 => Nat.le_refl 0
  | k + 1 => by
    have := mc_card_le S k
    simp only [mc_card]
    split <;> omega
theorem mc_card_mono {S T : Nat} (h : mc_sub S T) : ∀ k, mc_card S k ≤ mc_card T k
  | 0 => Nat.le_refl 0
  | k + 1 => by
    have := mc_card_mono h k
    have hk := h k
    simp only [mc_card]
    split <;> split <;> simp_all <;> omega
theorem mc_card_lt {S T j : Nat} (h : mc_sub S T) (h1 : S.testBit j = false) (h2 : T.testBit j = true) : ∀ k, j < k → mc_card S k < mc_card T k
  | 0, hj => absurd hj (by omega)
  | k + 1, hj => by
    by_cases e : j = k
    · subst e
      have := mc_card_mono h j
      simp only [mc_card, h1, h2]
      simp
      omega
    · have := mc_card_lt h h1 h2 k (by omega)
      have hk := h k
      simp only [mc_card]
      split <;> split <;> simp_all <;> omega
theorem mc_card_pos {S j : Nat} (h : S.testBit j = true) : ∀ k, j < k → 0 < mc_card S k := by
  intro k hk
  have h0 : mc_card 0 k = 0 := by
    clear hk
    induction k with
    | zero => rfl
    | succ k ih => simp [mc_card, ih]
  have := mc_card_lt (S := 0) (T := S) (fun i hi => by simp at hi) (by simp) h k hk
  omega
theorem mc_itr_sub {n : Nat} {D : Nat → Nat} {S : Nat} (k : Nat) : mc_sub (mc_itr n D S k) (mc_itr n D S (k + 1)) := by
  intro j hj
  exact (mc_nd_bit j n).mpr (Or.inl hj)
theorem mc_itr_in {n : Nat} {D : Nat → Nat} {S : Nat} : ∀ k, mc_sub S (mc_itr n D S k)
  | 0 => fun _ h => h
  | k + 1 => fun j h => mc_itr_sub k j (mc_itr_in k j h)
theorem mc_itr_lt {n : Nat} {D : Nat → Nat} {S : Nat} (hS : ∀ j, S.testBit j = true → j < n) (hD : ∀ m j, (D m).testBit j = true → j < n) : ∀ k j, (mc_itr n D S k).testBit j = true → j < n
  | 0, j, h => hS j h
  | k + 1, j, h => by
    rcases (mc_nd_bit j n).mp h with q | ⟨m, h1, h2, h3⟩
    · exact mc_itr_lt hS hD k j q
    · exact hD m j h3
theorem mc_itr_least {n : Nat} {D : Nat → Nat} {S T : Nat} (hST : mc_sub S T) (hT : mc_closed n D T) : ∀ k, mc_sub (mc_itr n D S k) T
  | 0 => hST
  | k + 1 => fun j h => by
    rcases (mc_nd_bit j n).mp h with q | ⟨m, h1, h2, h3⟩
    · exact mc_itr_least hST hT k j q
    · exact hT m h1 (mc_itr_least hST hT k m h2) j h3
/-- while it isn't closed, it grows -/
theorem mc_itr_grow {n : Nat} {D : Nat → Nat} {S : Nat} (hD : ∀ m j, (D m).testBit j = true → j < n) (k : Nat) : mc_closed n D (mc_itr n D S k) ∨ mc_card (mc_itr n D S k) n < mc_card (mc_itr n D S (k + 1)) n := by
  by_cases hc : mc_closed n D (mc_itr n D S k)
  · exact Or.inl hc
  · right
    unfold mc_closed mc_sub at hc
    simp only [Classical.not_forall] at hc
    obtain ⟨m, hm, hb, j, hj, hn⟩ := hc
    exact mc_card_lt (mc_itr_sub k) (by simpa using hn) ((mc_nd_bit j n).mpr (Or.inr ⟨m, hm, hb, hj⟩)) n (hD m j hj)
theorem mc_itr_stay {n : Nat} {D : Nat → Nat} {S k : Nat} (h : mc_closed n D (mc_itr n D S k)) : mc_itr n D S (k + 1) = mc_itr n D S k := by
  apply mc_sub_anti
  · intro j hj
    rcases (mc_nd_bit j n).mp hj with q | ⟨m, h1, h2, h3⟩
    · exact q
    · exact h m h1 h2 j h3
  · exact mc_itr_sub k
theorem mc_itr_count {n : Nat} {D : Nat → Nat} {S : Nat} (hD : ∀ m j, (D m).testBit j = true → j < n) (h0 : 0 < mc_card S n) : ∀ k, mc_closed n D (mc_itr n D S k) ∨ k < mc_card (mc_itr n D S k) n
  | 0 => Or.inr h0
  | k + 1 => by
    rcases mc_itr_count hD h0 k with h | h
    · left; rw [mc_itr_stay h]; exact h
    · rcases mc_itr_grow (S := S) hD k with q | q
      · left; rw [mc_itr_stay q]; exact q
      · right; omega
theorem mc_itr_clo {n : Nat} {D : Nat → Nat} {m : Nat} (hm : m < n) (hD : ∀ m j, (D m).testBit j = true → j < n) : mc_clo n D m (mc_itr n D (2 ^ m) n) := by
  have hb : (2 ^ m).testBit m = true := Nat.testBit_two_pow_self
  refine ⟨mc_itr_in n m hb, ?_, fun T hT hc => mc_itr_least (fun j hj => ?_) hc n⟩
  · rcases mc_itr_count (S := 2 ^ m) hD (mc_card_pos hb n hm) n with h | h
    · exact h
    · have := mc_card_le (mc_itr n D (2 ^ m) n) n
      omega
  · rw [Nat.testBit_two_pow] at hj
    have : m = j := by simpa using hj
    subst this
    exact hT
end
section
/-! plans: the best set of a year for one who had another set before; the best plan, from the last year back -/
def mc_pick (N : Nat) (ok : Nat → Prop) (t : Nat → Int) (sp : Nat → Nat) (B r : Nat) : Prop :=
  r < N ∧ ok r ∧ mc_sub B r ∧ ∀ S, S < N → ok S → mc_sub B S → t S < t r ∨ (t S = t r ∧ (sp r < sp S ∨ (sp r = sp S ∧ r ≤ S)))
theorem mc_pick_uniq {N : Nat} {ok : Nat → Prop} {t : Nat → Int} {sp : Nat → Nat} {B r r' : Nat} (h : mc_pick N ok t sp B r) (h' : mc_pick N ok t sp B r') : r = r' := by
  obtain ⟨a1, a2, a3, a4⟩ := h
  obtain ⟨b1, b2, b3, b4⟩ := h'
  have x := a4 r' b1 b2 b3
  have y := b4 r a1 a2 a3
  rcases x with x | ⟨x, x | ⟨x, x'⟩⟩ <;> rcases y with y | ⟨y, y | ⟨y, y'⟩⟩ <;> omega
end
section
/-! own rows over the kit: loops, worlds side by side, contracts of methods that only read, that write their world -/
section MK
variable {p : Program} {l : Launch} {e : Env} {R : Room} {s : State} {m : MethodId} {args : Array Value} {below : List Frame} {meth : Method} {c : Code} {cells slots : Nat} {Q : State → Prop}
/-- a loop that writes: at its head a state x of the loop, the heap, the locals -/
theorem lpW {σ : Type} {nL pc : Nat} {st : List Value} (I : σ → Heap → List Loc → Prop) (lv : σ → List (Nat × Value)) (μ : σ → Nat)
    (step : ∀ (x : σ) (H : Heap) (locs : List Loc) (ls : Array Slot), I x H locs → lv_has ls nL (lv x) →
      (∀ (y : σ) (H' : Heap) (locs' : List Loc) (ls' : Array Slot), I y H' locs' → μ y < μ x → lv_has ls' nL (lv y) → W p l e R s m args below meth c H' locs' cells slots Q (F0 m pc ls' st)) →
      W p l e R s m args below meth c H locs cells slots Q (F0 m pc ls st)) :
    ∀ (x : σ) (H : Heap) (locs : List Loc) (ls : Array Slot), I x H locs → lv_has ls nL (lv x) → W p l e R s m args below meth c H locs cells slots Q (F0 m pc ls st) := by
  have h : ∀ (n : Nat) (x : σ) (H : Heap) (locs : List Loc) (ls : Array Slot), μ x < n → I x H locs → lv_has ls nL (lv x) → W p l e R s m args below meth c H locs cells slots Q (F0 m pc ls st) := by
    intro n
    induction n with
    | zero => intro x H locs ls h; exact absurd h (by omega)
    | succ n ih =>
      intro x H locs ls hx hI hl
      exact step x H locs ls hI hl (fun y H' locs' ls' hy hm hl' => ih y H' locs' ls' (by omega) hy hl')
  exact fun x H locs ls hI hl => h (μ x + 1) x H locs ls (by omega) hI hl
/-- a loop that only reads -/
theorem lpR {σ : Type} {nL pc : Nat} {st : List Value} {H : Heap} {locs : List Loc} (I : σ → Prop) (lv : σ → List (Nat × Value)) (μ : σ → Nat)
    (step : ∀ (x : σ) (ls : Array Slot), I x → lv_has ls nL (lv x) →
      (∀ (y : σ) (ls' : Array Slot), I y → μ y < μ x → lv_has ls' nL (lv y) → W p l e R s m args below meth c H locs cells slots Q (F0 m pc ls' st)) →
      W p l e R s m args below meth c H locs cells slots Q (F0 m pc ls st)) :
    ∀ (x : σ) (ls : Array Slot), I x → lv_has ls nL (lv x) → W p l e R s m args below meth c H locs cells slots Q (F0 m pc ls st) := by
  have h : ∀ (n : Nat) (x : σ) (ls : Array Slot), μ x < n → I x → lv_has ls nL (lv x) → W p l e R s m args below meth c H locs cells slots Q (F0 m pc ls st) := by
    intro n
    induction n with
    | zero => intro x ls h; exact absurd h (by omega)
    | succ n ih =>
      intro x ls hx hI hl
      exact step x ls hI hl (fun y ls' hy hm hl' => ih y ls' (by omega) hy hl')
  exact fun x ls hI hl => h (μ x + 1) x ls (by omega) hI hl
end MK
theorem va_P.lft {D : va_G} {cl : List vw_C} {w1 w2 : va_W} {H : Heap} (h : va_P D cl (w1 ++ w2) H) : va_P D cl w1 H := fun k q hk => h k q (by rw [List.getElem?_append_left (List.getElem?_eq_some_iff.mp hk).1]; exact hk)
theorem va_P.rgt {D : va_G} {cl : List vw_C} {w1 w2 : va_W} {H : Heap} (h : va_P D cl (w1 ++ w2) H) : va_P D cl w2 H := fun k q hk => h (w1.length + k) q (by rw [List.getElem?_append_right (by omega), Nat.add_sub_cancel_left]; exact hk)
theorem va_D.lft {A : Nat → Prop} {w1 w2 : va_W} (h : va_D A (w1 ++ w2)) : va_D A w1 := by
  refine ⟨fun i j p q hi hj e => h.1 i j p q ?_ ?_ e, fun k q hk => h.2 k q ?_⟩
  · rw [List.getElem?_append_left (List.getElem?_eq_some_iff.mp hi).1]; exact hi
  · rw [List.getElem?_append_left (List.getElem?_eq_some_iff.mp hj).1]; exact hj
  · rw [List.getElem?_append_left (List.getElem?_eq_some_iff.mp hk).1]; exact hk
theorem va_D.rgt {A : Nat → Prop} {w1 w2 : va_W} (h : va_D A (w1 ++ w2)) : va_D A w2 := by
  have key : ∀ (k : Nat) (q : Nat × va_E), w2[k]? = some q → (w1 ++ w2)[w1.length + k]? = some q := fun k q hk => by rw [List.getElem?_append_right (by omega), Nat.add_sub_cancel_left]; exact hk
  refine ⟨fun i j p q hi hj e => ?_, fun k q hk => h.2 _ q (key k q hk)⟩
  have := h.1 _ _ p q (key i p hi) (key j q hj) e
  omega
/-- apart: no cell of the left world is one of the right one -/
theorem va_D.off {A : Nat → Prop} {w1 w2 : va_W} (h : va_D A (w1 ++ w2)) {i j : Nat} {p q : Nat × va_E} (hi : w1[i]? = some p) (hj : w2[j]? = some q) : p.1 ≠ q.1 := by
  intro e
  have hlt : i < w1.length := (List.getElem?_eq_some_iff.mp hi).1
  have := h.1 i (w1.length + j) p q (by rw [List.getElem?_append_left hlt]; exact hi) (by rw [List.getElem?_append_right (by omega), Nat.add_sub_cancel_left]; exact hj) e
  omega
/-- a callee has changed the left world, and made cells: the right one stands as it was -/
theorem va_jnL {A0 : Nat → Prop} {D : va_G} {cl : List vw_C} {w1 w2 w1' : va_W} {H H1 : Heap} (hP : va_P D cl (w1 ++ w2) H) (hD : va_D A0 (w1 ++ w2))
    (hk : ∀ q : Nat, q < H.size → ¬ va_A w1 H.size q → H1[q]? = H[q]?) (hF : ∀ q, va_A w1 H.size q → A0 q) (hP1 : va_P D cl w1' H1) (hD1 : va_D (va_A w1 H.size) w1') : va_P D cl (w1' ++ w2) H1 ∧ va_D A0 (w1' ++ w2) := by
  have hno : ∀ (k : Nat) (q : Nat × va_E), w2[k]? = some q → ¬ va_A w1 H.size q.1 := by
    intro k q hq hA
    rcases hA with ⟨i, e, hi⟩ | hge
    · exact va_D.off hD hi hq rfl
    · exact absurd (hP.rgt k q hq).lt (by omega)
  refine ⟨hP1.app (hP.rgt.kept (fun k q hq => hk q.1 (hP.rgt k q hq).lt (hno k q hq))), (hD1.weaken (fun k q _ h => hF q.1 h)).app hD.rgt (fun i j p q hi hj e => ?_)⟩
  exact hno j q hj (e ▸ hD1.2 i p hi)
theorem va_jnR {A0 : Nat → Prop} {D : va_G} {cl : List vw_C} {w1 w2 w2' : va_W} {H H1 : Heap} (hP : va_P D cl (w1 ++ w2) H) (hD : va_D A0 (w1 ++ w2))
    (hk : ∀ q : Nat, q < H.size → ¬ va_A w2 H.size q → H1[q]? = H[q]?) (hF : ∀ q, va_A w2 H.size q → A0 q) (hP1 : va_P D cl w2' H1) (hD1 : va_D (va_A w2 H.size) w2') : va_P D cl (w1 ++ w2') H1 ∧ va_D A0 (w1 ++ w2') := by
  have hno : ∀ (k : Nat) (q : Nat × va_E), w1[k]? = some q → ¬ va_A w2 H.size q.1 := by
    intro k q hq hA
    rcases hA with ⟨i, e, hi⟩ | hge
    · exact va_D.off hD hq hi rfl
    · exact absurd (hP.lft k q hq).lt (by omega)
  refine ⟨(hP.lft.kept (fun k q hq => hk q.1 (hP.lft k q hq).lt (hno k q hq))).app hP1, hD.lft.app (hD1.weaken (fun k q _ h => hF q.1 h)) (fun i j p q hi hj e => ?_)⟩
  exact hno i p hi (e ▸ hD1.2 j q hj)
theorem va_freeL {A0 : Nat → Prop} {w1 w2 : va_W} {H0 H : Heap} {locs : List Loc} (hD : va_D A0 (w1 ++ w2)) (hS : va_S A0 H0 H locs) (hA : ∀ q, H0.size ≤ q → A0 q) : ∀ q, va_A w1 H.size q → A0 q := by
  intro q h
  rcases h with ⟨k, e, h⟩ | h
  · exact hD.lft.2 k (q, e) h
  · exact hA q (Nat.le_trans hS.1 h)
theorem va_freeR {A0 : Nat → Prop} {w1 w2 : va_W} {H0 H : Heap} {locs : List Loc} (hD : va_D A0 (w1 ++ w2)) (hS : va_S A0 H0 H locs) (hA : ∀ q, H0.size ≤ q → A0 q) : ∀ q, va_A w2 H.size q → A0 q := by
  intro q h
  rcases h with ⟨k, e, h⟩ | h
  · exact hD.rgt.2 k (q, e) h
  · exact hA q (Nat.le_trans hS.1 h)
/-- what a method that only reads may take as given -/
def roP (D : va_G) (cl : List vw_C) (w : va_W) (tys : List (ClassId × FieldType)) (av : List Value) : Array Value → State → Prop := va_Pc av (fun U => va_P D cl w U.heap ∧ va_K D cl tys U)
theorem roP_blind {D : va_G} {cl : List vw_C} {w : va_W} {tys : List (ClassId × FieldType)} {av : List Value} : FrameBlind (roP D cl w tys av) := fun a U g mk q => by
  obtain ⟨q0, qP, qK⟩ := q
  exact ⟨q0, qP, va_K.moved (u := U) (U := U.calling g mk a) (Vm.Alike.refl U.vm) qK⟩
theorem roP_preS {D : va_G} {cl : List vw_C} {w : va_W} {tys : List (ClassId × FieldType)} {av : List Value} {s : State} {H : Heap} (hP : va_P D cl w H) (hK : va_K D cl tys s) : PreS s H (roP D cl w tys av) av :=
  ⟨roP_blind, fun U hU hW => ⟨rfl, by rw [hU]; exact hP, va_K.moved hW.alike hK⟩⟩
theorem roP_preV {D : va_G} {cl : List vw_C} {w : va_W} {tys : List (ClassId × FieldType)} {As : List Value} {s : State} {H : Heap} {C : vw_C} {b ci q0 : Nat} {fs : List Value} (hP : va_P D cl w H) (hK : va_K D cl tys s) (hc : cl[ci]? = some C) (he : w[q0]? = some (b, .inr (ci, fs))) : PreV s H C.1 b (roP D cl w tys (.ref b :: As)) As :=
  ⟨roP_blind, va_recv hK hP hc he, fun U hU hW => ⟨rfl, by rw [hU]; exact hP, va_K.moved hW.alike hK⟩⟩
/-- a method that writes its world w -/
def wrP (D : va_G) (cl : List vw_C) (w : va_W) (tys : List (ClassId × FieldType)) (sz : Nat) (av : List Value) : Array Value → State → Prop := va_Pc av (fun U => U.heap.size = sz ∧ va_P D cl w U.heap ∧ va_K D cl tys U ∧ va_D (fun _ => True) w)
theorem wrP_blind {D : va_G} {cl : List vw_C} {w : va_W} {tys : List (ClassId × FieldType)} {sz : Nat} {av : List Value} : FrameBlind (wrP D cl w tys sz av) := fun a U g mk q => by
  obtain ⟨q0, q1, qP, qK, qD⟩ := q
  exact ⟨q0, q1, qP, va_K.moved (u := U) (U := U.calling g mk a) (Vm.Alike.refl U.vm) qK, qD⟩
theorem wrP_preS {A : Nat → Prop} {D : va_G} {cl : List vw_C} {w : va_W} {tys : List (ClassId × FieldType)} {av : List Value} {s : State} {H : Heap} (hP : va_P D cl w H) (hK : va_K D cl tys s) (hD : va_D A w) : PreS s H (wrP D cl w tys H.size av) av :=
  ⟨wrP_blind, fun U hU hW => ⟨rfl, by rw [hU], by rw [hU]; exact hP, va_K.moved hW.alike hK, hD.weaken (fun _ _ _ _ => trivial)⟩⟩
theorem wrP_preV {A : Nat → Prop} {D : va_G} {cl : List vw_C} {w : va_W} {tys : List (ClassId × FieldType)} {As : List Value} {s : State} {H : Heap} {C : vw_C} {b ci q0 : Nat} {fs : List Value} (hP : va_P D cl w H) (hK : va_K D cl tys s) (hD : va_D A w) (hc : cl[ci]? = some C) (he : w[q0]? = some (b, .inr (ci, fs))) : PreV s H C.1 b (wrP D cl w tys H.size (.ref b :: As)) As :=
  ⟨wrP_blind, va_recv hK hP hc he, fun U hU hW => ⟨rfl, by rw [hU], by rw [hU]; exact hP, va_K.moved hW.alike hK, hD.weaken (fun _ _ _ _ => trivial)⟩⟩
abbrev wrB (D : va_G) (cl : List vw_C) (w w' : va_W) (tys : List (ClassId × FieldType)) (sz : Nat) (_ : Unit) (t : State) : Prop := va_P D cl w' t.heap ∧ va_K D cl tys t ∧ va_D (va_A w sz) w'
end
section
-- ===== PART A: goes FIRST, ahead of the names: the tables' words, and 'selects' of the private methods out of them =====
/-- a private method of a class that the tables say can be made, by its rows of tables_1 -/
def lw_okq (q : MethodName × Nat) : Prop := (q.1.cls ≠ "java/lang/invoke/MethodHandle" ∧ q.1.cls ≠ "java/lang/invoke/VarHandle") ∧ Cond.instantiable q.1.cls q.2 ∈ tables_1 ∧ Cond.privateMethod q.1 ∈ tables_1 ∧ Cond.instanceMethod q.1 ∈ tables_1
theorem lw_p0 : lw_okq (⟨"MeasureChoice$Ladder", "addSteps", "(II)V"⟩, 4) := ⟨⟨by decide +kernel, by decide +kernel⟩, List.mem_of_getElem? (i := 62) (by decide +kernel), List.mem_of_getElem? (i := 131) (by decide +kernel), List.mem_of_getElem? (i := 132) (by decide +kernel)⟩
theorem lw_p1 : lw_okq (⟨"MeasureChoice$Ladder", "addGains", "(ILMeasureChoice$House;)V"⟩, 4) := ⟨⟨by decide +kernel, by decide +kernel⟩, List.mem_of_getElem? (i := 62) (by decide +kernel), List.mem_of_getElem? (i := 135) (by decide +kernel), List.mem_of_getElem? (i := 136) (by decide +kernel)⟩
theorem lw_p2 : lw_okq (⟨"MeasureChoice$Ladder", "keepUnbeaten", "(LMeasureChoice$House;)V"⟩, 4) := ⟨⟨by decide +kernel, by decide +kernel⟩, List.mem_of_getElem? (i := 62) (by decide +kernel), List.mem_of_getElem? (i := 139) (by decide +kernel), List.mem_of_getElem? (i := 140) (by decide +kernel)⟩
theorem lw_p3 : lw_okq (⟨"java/lang/Throwable", "fillInStackTrace", "(I)Ljava/lang/Throwable;"⟩, 6) := ⟨⟨by decide +kernel, by decide +kernel⟩, List.mem_of_getElem? (i := 219) (by decide +kernel), List.mem_of_getElem? (i := 217) (by decide +kernel), List.mem_of_getElem? (i := 218) (by decide +kernel)⟩
theorem lw_p4 : lw_okq (⟨"MeasureChoice", "requireMeasure", "(I)V"⟩, 3) := ⟨⟨by decide +kernel, by decide +kernel⟩, List.mem_of_getElem? (i := 13) (by decide +kernel), List.mem_of_getElem? (i := 280) (by decide +kernel), List.mem_of_getElem? (i := 281) (by decide +kernel)⟩
theorem lw_p5 : lw_okq (⟨"MeasureChoice", "requirePair", "(II)V"⟩, 3) := ⟨⟨by decide +kernel, by decide +kernel⟩, List.mem_of_getElem? (i := 13) (by decide +kernel), List.mem_of_getElem? (i := 293) (by decide +kernel), List.mem_of_getElem? (i := 294) (by decide +kernel)⟩
theorem lw_p6 : lw_okq (⟨"MeasureChoice", "requireSet", "(I)V"⟩, 3) := ⟨⟨by decide +kernel, by decide +kernel⟩, List.mem_of_getElem? (i := 13) (by decide +kernel), List.mem_of_getElem? (i := 335) (by decide +kernel), List.mem_of_getElem? (i := 336) (by decide +kernel)⟩
theorem lw_p7 : lw_okq (⟨"MeasureChoice$House", "bonusWithEarlier", "(II)I"⟩, 7) := ⟨⟨by decide +kernel, by decide +kernel⟩, List.mem_of_getElem? (i := 21) (by decide +kernel), List.mem_of_getElem? (i := 356) (by decide +kernel), List.mem_of_getElem? (i := 357) (by decide +kernel)⟩
theorem lw_p8 : lw_okq (⟨"MeasureChoice$House", "withItsNeeds", "(I)I"⟩, 7) := ⟨⟨by decide +kernel, by decide +kernel⟩, List.mem_of_getElem? (i := 21) (by decide +kernel), List.mem_of_getElem? (i := 371) (by decide +kernel), List.mem_of_getElem? (i := 372) (by decide +kernel)⟩
theorem lw_p9 : lw_okq (⟨"MeasureChoice$Planner", "fillPurses", "()V"⟩, 7) := ⟨⟨by decide +kernel, by decide +kernel⟩, List.mem_of_getElem? (i := 82) (by decide +kernel), List.mem_of_getElem? (i := 427) (by decide +kernel), List.mem_of_getElem? (i := 428) (by decide +kernel)⟩
theorem lw_p10 : lw_okq (⟨"MeasureChoice$Planner", "judgeSets", "(LMeasureChoice$House;)V"⟩, 7) := ⟨⟨by decide +kernel, by decide +kernel⟩, List.mem_of_getElem? (i := 82) (by decide +kernel), List.mem_of_getElem? (i := 431) (by decide +kernel), List.mem_of_getElem? (i := 432) (by decide +kernel)⟩
theorem lw_p11 : lw_okq (⟨"MeasureChoice$Planner", "workYear", "(IZ)V"⟩, 7) := ⟨⟨by decide +kernel, by decide +kernel⟩, List.mem_of_getElem? (i := 82) (by decide +kernel), List.mem_of_getElem? (i := 442) (by decide +kernel), List.mem_of_getElem? (i := 443) (by decide +kernel)⟩
theorem lw_p12 : lw_okq (⟨"MeasureChoice$Planner", "bestFrom", "(II)I"⟩, 7) := ⟨⟨by decide +kernel, by decide +kernel⟩, List.mem_of_getElem? (i := 82) (by decide +kernel), List.mem_of_getElem? (i := 446) (by decide +kernel), List.mem_of_getElem? (i := 447) (by decide +kernel)⟩
theorem lw_p13 : lw_okq (⟨"MeasureChoice$Planner", "isBetter", "(III)Z"⟩, 7) := ⟨⟨by decide +kernel, by decide +kernel⟩, List.mem_of_getElem? (i := 82) (by decide +kernel), List.mem_of_getElem? (i := 450) (by decide +kernel), List.mem_of_getElem? (i := 451) (by decide +kernel)⟩
theorem lw_p14 : lw_okq (⟨"MeasureChoiceModel", "good", "(Z)Z"⟩, 11) := ⟨⟨by decide +kernel, by decide +kernel⟩, List.mem_of_getElem? (i := 465) (by decide +kernel), List.mem_of_getElem? (i := 517) (by decide +kernel), List.mem_of_getElem? (i := 518) (by decide +kernel)⟩
theorem lw_p15 : lw_okq (⟨"MeasureChoiceModel", "is", "(I)Z"⟩, 11) := ⟨⟨by decide +kernel, by decide +kernel⟩, List.mem_of_getElem? (i := 465) (by decide +kernel), List.mem_of_getElem? (i := 525) (by decide +kernel), List.mem_of_getElem? (i := 526) (by decide +kernel)⟩
def lw_privs_1 : List (MethodName × Nat) := [(⟨"MeasureChoice$Ladder", "addSteps", "(II)V"⟩, 4), (⟨"MeasureChoice$Ladder", "addGains", "(ILMeasureChoice$House;)V"⟩, 4), (⟨"MeasureChoice$Ladder", "keepUnbeaten", "(LMeasureChoice$House;)V"⟩, 4), (⟨"java/lang/Throwable", "fillInStackTrace", "(I)Ljava/lang/Throwable;"⟩, 6), (⟨"MeasureChoice", "requireMeasure", "(I)V"⟩, 3), (⟨"MeasureChoice", "requirePair", "(II)V"⟩, 3), (⟨"MeasureChoice", "requireSet", "(I)V"⟩, 3), (⟨"MeasureChoice$House", "bonusWithEarlier", "(II)I"⟩, 7), (⟨"MeasureChoice$House", "withItsNeeds", "(I)I"⟩, 7), (⟨"MeasureChoice$Planner", "fillPurses", "()V"⟩, 7), (⟨"MeasureChoice$Planner", "judgeSets", "(LMeasureChoice$House;)V"⟩, 7), (⟨"MeasureChoice$Planner", "workYear", "(IZ)V"⟩, 7), (⟨"MeasureChoice$Planner", "bestFrom", "(II)I"⟩, 7), (⟨"MeasureChoice$Planner", "isBetter", "(III)Z"⟩, 7), (⟨"MeasureChoiceModel", "good", "(Z)Z"⟩, 11), (⟨"MeasureChoiceModel", "is", "(I)Z"⟩, 11)]
theorem lw_r1 : ∀ q ∈ lw_privs_1, lw_okq q := List.forall_mem_cons.mpr ⟨lw_p0, List.forall_mem_cons.mpr ⟨lw_p1, List.forall_mem_cons.mpr ⟨lw_p2, List.forall_mem_cons.mpr ⟨lw_p3, List.forall_mem_cons.mpr ⟨lw_p4, List.forall_mem_cons.mpr ⟨lw_p5, List.forall_mem_cons.mpr ⟨lw_p6, List.forall_mem_cons.mpr ⟨lw_p7, List.forall_mem_cons.mpr ⟨lw_p8, List.forall_mem_cons.mpr ⟨lw_p9, List.forall_mem_cons.mpr ⟨lw_p10, List.forall_mem_cons.mpr ⟨lw_p11, List.forall_mem_cons.mpr ⟨lw_p12, List.forall_mem_cons.mpr ⟨lw_p13, List.forall_mem_cons.mpr ⟨lw_p14, List.forall_mem_cons.mpr ⟨lw_p15, fun _ h => absurd h List.not_mem_nil⟩⟩⟩⟩⟩⟩⟩⟩⟩⟩⟩⟩⟩⟩⟩⟩
theorem lw_p16 : lw_okq (⟨"MeasureChoiceModel", "isSet", "(I)Z"⟩, 11) := ⟨⟨by decide +kernel, by decide +kernel⟩, List.mem_of_getElem? (i := 465) (by decide +kernel), List.mem_of_getElem? (i := 545) (by decide +kernel), List.mem_of_getElem? (i := 546) (by decide +kernel)⟩
theorem lw_p17 : lw_okq (⟨"MeasureChoiceModel", "holds", "(I)Z"⟩, 11) := ⟨⟨by decide +kernel, by decide +kernel⟩, List.mem_of_getElem? (i := 465) (by decide +kernel), List.mem_of_getElem? (i := 549) (by decide +kernel), List.mem_of_getElem? (i := 550) (by decide +kernel)⟩
theorem lw_p18 : lw_okq (⟨"MeasureChoiceModel", "costOf", "(I)I"⟩, 11) := ⟨⟨by decide +kernel, by decide +kernel⟩, List.mem_of_getElem? (i := 465) (by decide +kernel), List.mem_of_getElem? (i := 560) (by decide +kernel), List.mem_of_getElem? (i := 561) (by decide +kernel)⟩
theorem lw_p19 : lw_okq (⟨"MeasureChoiceModel", "gainOf", "(I)I"⟩, 11) := ⟨⟨by decide +kernel, by decide +kernel⟩, List.mem_of_getElem? (i := 465) (by decide +kernel), List.mem_of_getElem? (i := 564) (by decide +kernel), List.mem_of_getElem? (i := 565) (by decide +kernel)⟩
theorem lw_p20 : lw_okq (⟨"MeasureChoiceModel", "bestOf", "(J)I"⟩, 11) := ⟨⟨by decide +kernel, by decide +kernel⟩, List.mem_of_getElem? (i := 465) (by decide +kernel), List.mem_of_getElem? (i := 576) (by decide +kernel), List.mem_of_getElem? (i := 577) (by decide +kernel)⟩
theorem lw_p21 : lw_okq (⟨"MeasureChoiceModel", "dearer", "(II)I"⟩, 11) := ⟨⟨by decide +kernel, by decide +kernel⟩, List.mem_of_getElem? (i := 465) (by decide +kernel), List.mem_of_getElem? (i := 593) (by decide +kernel), List.mem_of_getElem? (i := 594) (by decide +kernel)⟩
theorem lw_p22 : lw_okq (⟨"MeasureChoiceModel", "work", "(I)V"⟩, 11) := ⟨⟨by decide +kernel, by decide +kernel⟩, List.mem_of_getElem? (i := 465) (by decide +kernel), List.mem_of_getElem? (i := 606) (by decide +kernel), List.mem_of_getElem? (i := 607) (by decide +kernel)⟩
theorem lw_p23 : lw_okq (⟨"MeasureChoiceModel", "workOf", "(IIII)V"⟩, 11) := ⟨⟨by decide +kernel, by decide +kernel⟩, List.mem_of_getElem? (i := 465) (by decide +kernel), List.mem_of_getElem? (i := 610) (by decide +kernel), List.mem_of_getElem? (i := 611) (by decide +kernel)⟩
def lw_privs_2 : List (MethodName × Nat) := [(⟨"MeasureChoiceModel", "isSet", "(I)Z"⟩, 11), (⟨"MeasureChoiceModel", "holds", "(I)Z"⟩, 11), (⟨"MeasureChoiceModel", "costOf", "(I)I"⟩, 11), (⟨"MeasureChoiceModel", "gainOf", "(I)I"⟩, 11), (⟨"MeasureChoiceModel", "bestOf", "(J)I"⟩, 11), (⟨"MeasureChoiceModel", "dearer", "(II)I"⟩, 11), (⟨"MeasureChoiceModel", "work", "(I)V"⟩, 11), (⟨"MeasureChoiceModel", "workOf", "(IIII)V"⟩, 11)]
theorem lw_r2 : ∀ q ∈ lw_privs_2, lw_okq q := List.forall_mem_cons.mpr ⟨lw_p16, List.forall_mem_cons.mpr ⟨lw_p17, List.forall_mem_cons.mpr ⟨lw_p18, List.forall_mem_cons.mpr ⟨lw_p19, List.forall_mem_cons.mpr ⟨lw_p20, List.forall_mem_cons.mpr ⟨lw_p21, List.forall_mem_cons.mpr ⟨lw_p22, List.forall_mem_cons.mpr ⟨lw_p23, fun _ h => absurd h List.not_mem_nil⟩⟩⟩⟩⟩⟩⟩⟩
def lw_privs : List (MethodName × Nat) := lw_privs_1 ++ (lw_privs_2)
def lw_tbl : List Cond := k2_sels lw_privs ++ tables_1
theorem lw_privs_ok : ∀ q ∈ lw_privs, lw_okq q := by
  show ∀ q ∈ lw_privs_1 ++ (lw_privs_2), lw_okq q
  exact List.forall_mem_append.mpr ⟨lw_r1, lw_r2⟩
/-- the tables have the class of the arrays over arrays of ty (a word of va_mna that the names text does not bring) -/
def va_AOA (ty : FieldType) (U : State) : Prop := (Cond.arrayOver (.array ty)).before #[] U = true
theorem va_AOA.of {ty : FieldType} {A : Array Value} {U : State} (h : (Cond.arrayOver (.array ty)).before A U = true) : va_AOA ty U := h
theorem va_AOA.use {ty : FieldType} {A : Array Value} {U : State} (h : va_AOA ty U) : (Cond.arrayOver (.array ty)).before A U = true := h
/-! ===== BEGIN words of one list among another's, by their places ===== -/
theorem goodIn_r {big : List Cond} (ws : List Cond) (ps : List Nat) (hp : ws = ps.filterMap (fun i => big[i]?)) (h : ws.all goodWord = true) : GoodIn big ws := by
  intro w hw
  have h1 := List.all_eq_true.mp h w hw
  rw [hp] at hw
  obtain ⟨i, -, hi⟩ := List.mem_filterMap.mp hw
  have hm : w ∈ big := by first | exact List.mem_of_getElem? hi | exact List.getElem?_mem hi
  exact ⟨hm, good_of_word h1⟩
theorem goodIn_app {big a b : List Cond} (ha : GoodIn big a) (hb : GoodIn big b) : GoodIn big (a ++ b) := fun w h => (List.mem_append.mp h).elim (ha w) (hb w)
theorem goodIn_ca {big a b : List Cond} {c : Cond} (ha : GoodIn big (c :: a)) (hb : GoodIn big b) : GoodIn big (c :: (a ++ b)) := fun w h => (List.mem_cons.mp h).elim (fun e => ha w (List.mem_cons.mpr (Or.inl e))) (fun h => (List.mem_append.mp h).elim (fun h => ha w (List.mem_cons.mpr (Or.inr h))) (hb w))
theorem goodIn_sub {big ws : List Cond} (hm : ∀ w ∈ ws, w ∈ big) (h : ws.all goodWord = true) : GoodIn big ws := fun w hw => ⟨hm w hw, good_of_word (List.all_eq_true.mp h w hw)⟩
/-! ===== END ===== -/

/-! ===== BEGIN new T[n][m]: the outer array a place, the inner ones among the pooled ===== -/
/-- f, but v at every address of l -/
def vr_up {α : Type} (f : Nat → α) (l : List Nat) (v : α) : Nat → α := fun a => if a ∈ l then v else f a
theorem vr_up_in {α : Type} {f : Nat → α} {l : List Nat} {v : α} {a : Nat} (h : a ∈ l) : vr_up f l v a = v := if_pos h
theorem vr_up_ne {α : Type} {f : Nat → α} {l : List Nat} {v : α} {a : Nat} (h : a ∉ l) : vr_up f l v a = f a := if_neg h
theorem vr_rows {L l : List Nat} {f : Nat → va_E} {e : va_E} (h : ∀ a, a ∈ l → a ∉ L) : va_pl L f ++ l.map (fun a => (a, e)) = va_pl (L ++ l) (vr_up f l e) := by
  unfold va_pl
  rw [List.map_append]
  congr 1
  · apply List.map_congr_left
    intro a ha
    rw [vr_up_ne (fun q => h a q ha)]
  · apply List.map_congr_left
    intro a ha
    rw [vr_up_in ha]
theorem vr_lay {X rows : va_W} {x : Nat × va_E} {pl : va_W} {D : va_G} {cl : List vw_C} {H : Heap} (hP : va_P D cl (((X ++ pl) ++ [x]) ++ rows) H) : va_P D cl ((X ++ [x]) ++ (pl ++ rows)) H := by
  rw [List.append_assoc (X ++ pl)] at hP
  have h := va_P.swap hP
  rw [← List.append_assoc X] at h
  have h2 := va_P.swap h
  rw [List.append_assoc (X ++ [x])] at h2
  exact h2
theorem vr_layD {X rows : va_W} {x : Nat × va_E} {pl : va_W} {A : Nat → Prop} (hD : va_D A (((X ++ pl) ++ [x]) ++ rows)) : va_D A ((X ++ [x]) ++ (pl ++ rows)) := by
  rw [List.append_assoc (X ++ pl)] at hD
  have h := va_D.swap hD
  rw [← List.append_assoc X] at h
  have h2 := va_D.swap h
  rw [List.append_assoc (X ++ [x])] at h2
  exact h2
theorem vr_outer (c : ClassId) (N h0 : Nat) : ∀ i : Nat, Jvm.Free.Multi.outerC c N h0 i = arrV c N (fun j => va_rf (if j < i then some (h0 + 1 + j) else none))
  | 0 => by
    show ({ cls := c, slots := Array.replicate N .null, vm := .none } : Cell) = _
    rw [arrV_new]
    refine congrArg (arrV c N) (funext fun j => ?_)
    simp [va_rf]
  | i + 1 => by
    show (Jvm.Free.Multi.outerC c N h0 i).setSlot i (.ref (h0 + 1 + i)) = _
    rw [vr_outer c N h0 i, arrV_store]
    refine congrArg (arrV c N) (funext fun j => ?_)
    by_cases e : j = i
    · subst e
      simp [updV, va_rf]
    · by_cases h : j < i
      · simp [updV, e, h, Nat.lt_succ_of_lt h]
      · simp [updV, e, h, show ¬ j < i + 1 by omega]
section VGM
variable {p : Program} {l : Launch} {e : Env} {R : Room} {s : State} {m : MethodId} {args : Array Value} {below : List Frame} {meth : Method} {c : Code} {H : Heap} {locs : List Loc} {cells slots : Nat} {Q : State → Prop}
variable {cc : ByteArray} {pc : Nat} {ls : Array Slot} {rest : List Value} {D : va_G} {cl : List vw_C} {A : Nat → Prop} {a : Nat} {tys : List (ClassId × FieldType)} {ws : va_W} {H0 : Heap}
theorem va_mna {X : va_W} {L : List Nat} {f : Nat → va_E} {cc : ByteArray} (hexec : p.tables.exec = Jvm.exec) (hb : c.code = cc) {own : String} {index : Nat} {ty : FieldType} {cy : ClassId} (hown : s.vm.findClass own = some m.cls) (hclink : (Cond.classLink own index ("[" ++ (FieldType.array ty).toString)).before args s = true) (hover : va_AOA ty s) (harr : (Cond.arrayClass ty).before args s = true) (hcy : s.vm.findClass (FieldType.array ty).toString = some cy)
    (hK : va_K D cl tys s) (hP : va_P D cl (X ++ va_pl L f) H) (hD : va_D A (X ++ va_pl L f)) (hS : va_S A H0 H locs) (hA : ∀ q, H0.size ≤ q → A q) {n k : Int32} {N' K' : Nat} {z : vp_A} (hn : ¬ n < 0) (hk : ¬ k < 0) (hN : n.toNatClampNeg = N') (hM : k.toNatClampNeg = K')
    (hb1 : N' * 4 ≤ 536870912) (hb2 : K' * componentBytes ty ≤ 536870912) (hb3 : K' ≤ 536870912) (hdf : fits ty (defaultValue ty) = true) (hdd : (defaultValue ty).isDefault = true) (hcells : cells + (1 + N') ≤ R.cells) (hslots : slots + (N' + N' * K') ≤ R.slots) (hz : ∀ c : ClassId, Jvm.Free.Multi.innerC c K' (defaultValue ty) = vp_cell c z) (hdg : decode cc pc = .ok (.multianewarray index 2, 4))
    (kk : ∀ (q : Nat) (r : Nat → Nat) (cA : ClassId) (H1 : Heap), (∀ i j : Nat, i < N' → j < N' → r i = r j → i = j) → (∀ i : Nat, i < N' → r i ∉ L) → va_K D cl (tys ++ [(cA, .array ty)]) s →
      va_P D cl ((X ++ [(q, .inl (cA, N', .inr (.inr (.inr (.inr (fun i => if i < N' then some (r i) else none))))))]) ++ va_pl (L ++ (List.range N').map r) (vr_up f ((List.range N').map r) (.inl (cy, z)))) H1 → va_D A ((X ++ [(q, .inl (cA, N', .inr (.inr (.inr (.inr (fun i => if i < N' then some (r i) else none))))))]) ++ va_pl (L ++ (List.range N').map r) (vr_up f ((List.range N').map r) (.inl (cy, z)))) → va_S A H0 H1 locs →
      W p l e R s m args below meth c H1 locs (cells + 1 + N') (slots + N' + N' * K') Q (F0 m (pc + 4) ls (.ref q :: rest))) : W p l e R s m args below meth c H locs cells slots Q (F0 m pc ls (.int k :: .int n :: rest)) := by
  subst hN
  subst hM
  intro T hT Xs
  obtain ⟨vm₁, cA, comp, -, fA, fC, hO, -, X', step⟩ := Xs.multianewarray2F hexec hown hclink (va_AOA.use hover) harr (g := F0 m pc ls (.int k :: .int n :: rest)) rfl (by rw [hb]; exact hdg) rfl hn hk hb1 hb2 hb3 hdf hdd hcells hslots
  have ec : some cy = some comp := hcy.symm.trans fC
  cases ec
  generalize hF : Jvm.Free.Multi.fill (T.setVm vm₁) cA cy n.toNatClampNeg k.toNatClampNeg (defaultValue ty) n.toNatClampNeg = F at X' step
  have hTh : (T.setVm vm₁).heap = H := hT
  obtain ⟨f1, f2, -, -⟩ := Jvm.Free.Multi.fill_facts (T.setVm vm₁) cA cy n.toNatClampNeg k.toNatClampNeg (defaultValue ty) n.toNatClampNeg
  rw [hF, hTh] at f1 f2
  have hold : ∀ x : Nat, x < H.size → F.heap[x]? = H[x]? := fun x hx => by
    have := Jvm.Free.Multi.fill_old (T.setVm vm₁) cA cy n.toNatClampNeg k.toNatClampNeg (defaultValue ty) (a := x) (by rw [hTh]; exact hx) n.toNatClampNeg
    rw [hF, hTh] at this
    exact this
  have hrow : ∀ j : Nat, j < n.toNatClampNeg → F.heap[H.size + 1 + j]? = some (vp_cell cy z) := fun j hj => by
    have := Jvm.Free.Multi.fill_inner (T.setVm vm₁) cA cy n.toNatClampNeg k.toNatClampNeg (defaultValue ty) n.toNatClampNeg j hj
    rw [hF, hTh, hz] at this
    exact this
  have hout : Jvm.Free.Multi.outerC cA n.toNatClampNeg H.size n.toNatClampNeg = vp_cell cA (n.toNatClampNeg, .inr (.inr (.inr (.inr (fun i => if i < n.toNatClampNeg then some (H.size + 1 + i) else none))))) := by
    rw [vp_cell_q]
    exact vr_outer cA n.toNatClampNeg H.size n.toNatClampNeg
  rw [hout] at f2
  have hlt : ∀ a, a ∈ L → a < H.size := fun a ha => by
    obtain ⟨k9, hk9⟩ := va_pl_get (X := X) (f := f) ha
    exact (hP k9 _ hk9).lt
  have hnl : ∀ i : Nat, i < n.toNatClampNeg → H.size + 1 + i ∉ L := fun i _ h => by
    have := hlt _ h
    omega
  have hnm : ∀ a, a ∈ (List.range n.toNatClampNeg).map (fun i => H.size + 1 + i) → a ∉ L := fun a ha h => by
    obtain ⟨i, -, rfl⟩ := List.mem_map.mp ha
    have := hlt _ h
    omega
  have hP0 : va_P D cl (X ++ va_pl L f) F.heap := hP.kept (fun k9 x hx => hold x.1 ((hP k9 x hx).lt))
  have hP1 : va_P D cl ((X ++ va_pl L f) ++ [(H.size, .inl (cA, n.toNatClampNeg, .inr (.inr (.inr (.inr (fun i => if i < n.toNatClampNeg then some (H.size + 1 + i) else none))))))]) F.heap := hP0.app (fun k9 x hx => by
    have h0 : k9 < 1 := (List.getElem?_eq_some_iff.mp hx).1
    rw [show k9 = 0 by omega] at hx
    cases hx
    exact f2)
  have hP2 : va_P D cl (((X ++ va_pl L f) ++ [(H.size, .inl (cA, n.toNatClampNeg, .inr (.inr (.inr (.inr (fun i => if i < n.toNatClampNeg then some (H.size + 1 + i) else none))))))]) ++ ((List.range n.toNatClampNeg).map (fun i => H.size + 1 + i)).map (fun a => (a, .inl (cy, z)))) F.heap := hP1.app (fun k9 x hx => by
    obtain ⟨a, ha, rfl⟩ := List.mem_map.mp (List.mem_of_getElem? hx)
    obtain ⟨i, hi, rfl⟩ := List.mem_map.mp ha
    exact hrow i (List.mem_range.mp hi))
  have hD2 : va_D A (((X ++ va_pl L f) ++ [(H.size, .inl (cA, n.toNatClampNeg, .inr (.inr (.inr (.inr (fun i => if i < n.toNatClampNeg then some (H.size + 1 + i) else none))))))]) ++ ((List.range n.toNatClampNeg).map (fun i => H.size + 1 + i)).map (fun a => (a, .inl (cy, z)))) := by
    have hD1 := hD.push (e := .inl (cA, n.toNatClampNeg, .inr (.inr (.inr (.inr (fun i => if i < n.toNatClampNeg then some (H.size + 1 + i) else none)))))) hP rfl (hA _ hS.1)
    generalize hW1 : (X ++ va_pl L f) ++ [(H.size, .inl (cA, n.toNatClampNeg, .inr (.inr (.inr (.inr (fun i => if i < n.toNatClampNeg then some (H.size + 1 + i) else none))))))] = W1 at hD1 hP1 ⊢
    have hle : ∀ (k9 : Nat) (x : Nat × va_E), W1[k9]? = some x → x.1 ≤ H.size := fun k9 x hx => by
      rw [← hW1] at hx
      by_cases hl : k9 < (X ++ va_pl L f).length
      · rw [List.getElem?_append_left hl] at hx
        exact Nat.le_of_lt ((hP k9 x hx).lt)
      · rw [List.getElem?_append_right (by omega)] at hx
        have h0 : k9 - (X ++ va_pl L f).length < 1 := (List.getElem?_eq_some_iff.mp hx).1
        rw [show k9 - (X ++ va_pl L f).length = 0 by omega] at hx
        cases hx
        exact Nat.le_refl _
    have hr : ∀ (k9 : Nat) (x : Nat × va_E), (((List.range n.toNatClampNeg).map (fun i => H.size + 1 + i)).map (fun a => ((a, .inl (cy, z)) : Nat × va_E)))[k9]? = some x → x.1 = H.size + 1 + k9 := fun k9 x hx => by
      rw [List.getElem?_map, List.getElem?_map] at hx
      by_cases h9 : k9 < n.toNatClampNeg
      · rw [List.getElem?_range h9] at hx
        cases hx
        rfl
      · have hn0 : (List.range n.toNatClampNeg)[k9]? = none := List.getElem?_eq_none (by rw [List.length_range]; omega)
        rw [hn0] at hx
        cases hx
    refine ⟨fun i j x y hi hj hxy => ?_, fun k9 x hx => ?_⟩
    · by_cases h1 : i < W1.length <;> by_cases h2 : j < W1.length
      · rw [List.getElem?_append_left h1] at hi
        rw [List.getElem?_append_left h2] at hj
        exact hD1.1 i j x y hi hj hxy
      · rw [List.getElem?_append_left h1] at hi
        rw [List.getElem?_append_right (by omega)] at hj
        have := hle _ _ hi
        have := hr _ _ hj
        omega
      · rw [List.getElem?_append_right (by omega)] at hi
        rw [List.getElem?_append_left h2] at hj
        have := hle _ _ hj
        have := hr _ _ hi
        omega
      · rw [List.getElem?_append_right (by omega)] at hi hj
        have := hr _ _ hi
        have := hr _ _ hj
        omega
    · by_cases h1 : k9 < W1.length
      · rw [List.getElem?_append_left h1] at hx
        exact hD1.2 k9 x hx
      · rw [List.getElem?_append_right (by omega)] at hx
        have := hr _ _ hx
        exact hA _ (by have := hS.1; omega)
  have hAr : ArrOfT s cA (.array ty) := fun N9 z9 => by
    obtain ⟨-, k9, hk9, cm9, hkk9⟩ := (hO 0 0 0).1
    exact ⟨(fun q hq => by cases hq), k9, hk9, cm9, hkk9⟩
  have hK2 : va_K D cl (tys ++ [(cA, .array ty)]) s := ⟨hK.1, fun k9 x hx => by
    by_cases hl : k9 < tys.length
    · rw [List.getElem?_append_left hl] at hx
      exact hK.2 k9 x hx
    · rw [List.getElem?_append_right (by omega)] at hx
      have h0 : k9 - tys.length < 1 := (List.getElem?_eq_some_iff.mp hx).1
      rw [show k9 - tys.length = 0 by omega] at hx
      cases hx
      exact ⟨hAr, fA⟩⟩
  obtain ⟨t, a1, b1⟩ := kk H.size (fun i => H.size + 1 + i) cA F.heap (fun i j _ _ h => by have h9 : H.size + 1 + i = H.size + 1 + j := h; omega) hnl hK2 (by rw [← vr_rows hnm]; exact vr_lay hP2) (by rw [← vr_rows hnm]; exact vr_layD hD2) ⟨by rw [f1]; have := hS.1; omega, fun x h1 h2 => (hold x (Nat.lt_of_lt_of_le h1 hS.1)).trans (hS.2.1 x h1 h2), hS.2.2⟩ F rfl X'
  refine ⟨t, step t ?_, b1⟩
  have e : T.heap.size = H.size := by rw [hT]
  rw [e]
  exact a1
end VGM
/-! ===== END ===== -/

/-! ===== BEGIN exceptions that leave a method, and their catching by the caller (launches without stack traces) ===== -/
section VXA
/-! The laws vx_back, vx_callV, vx_callS, vx_callSW, vx_throw0, vx_throwS follow proofs of the library, with one case more: JvmDerived/Free/Laws.lean (Back.of_free), Shelf42/LK1.lean (callV, callS), Shelf/KitTraced.lean (throwNew0V, throwNewS). -/
/-- where a method has thrown q: the class by its name, the cell, what was written, the world -/
def vx_T (XC : String → State → State → Prop) (st : State) (q : Addr) (t : State) (mc ms : Nat) (free : Addr → Prop) : Prop :=
  ∃ (E : String) (ce : Cell) (L : List Loc), XC E st t ∧ t.heap[q]? = some ce ∧ ce.vm = .none ∧ st.vm.findClass E = some ce.cls ∧ st.WarmedH t.vm ∧ st.sameButNew ({ t with vm := st.vm } : State) L mc ms ∧ ∀ z ∈ L, free z.base
def vx_Q (Qc : Array Value → State → Outcome → State → Prop) (XC : String → State → State → Prop) (mc ms : Nat) (free : Addr → Prop) : Array Value → State → Outcome → State → Prop := fun a st o t =>
  (Qc a st o t ∧ ∃ L, FrameEnd st o t L mc ms ∧ ∀ q ∈ L, free q.base) ∨ ∃ q, o = .threw q ∧ vx_T XC st q t mc ms free
/-- a callee that returns or throws -/
def vx_Met (l : Launch) (y : MethodName) (ws : List Cond) (rm : Room) (Pc : Array Value → State → Prop) (Qc : Array Value → State → Outcome → State → Prop) (XC : String → State → State → Prop) (mc ms : Nat) (free : Addr → Prop) : Prop :=
  MetFree l y (headSpec ws rm) Pc (fun _ _ _ _ _ => True) (vx_Q Qc XC mc ms free)
def vx_Post (XC : String → State → State → Prop) (mc ms : Nat) (free : Addr → Prop) : Pt → Array Value → Addr → Pt → Prop := fun A a q B =>
  ∃ (g : JFrame) (mk : MethodId) (t : State) (L : List Loc) (E : String) (ce : Cell), B.U.heap = t.heap ∧ B.U.vm = t.vm ∧ XC E (A.U.calling g mk a) t ∧ t.heap[q]? = some ce ∧ ce.vm = .none ∧ A.U.vm.findClass E = some ce.cls ∧ B.locs = A.locs ++ L ∧ (∀ z ∈ L, free z.base) ∧ B.cells = A.cells + mc ∧ B.slots = A.slots + ms
def vx_Back (l : Launch) (R : Room) (p : Program) (e : Env) (below : List Frame) (s : State) (sargs : Array Value) (y : MethodName) (len W9 : Nat)
    (Pre : Pt → Array Value → Prop) (Post : Pt → Array Value → Option Value → Pt → Prop) (PostX : Pt → Array Value → Addr → Pt → Prop) : Prop :=
  ∀ (m : MethodId) (meth : Method) (c : Code) (A : Pt) (g : JFrame) (ig : Instr) (mk : MethodId) (a : Array Value),
    Stand p l e R s m sargs below meth c A.U A.locs A.cells A.slots → g.method = m → g.locals.size = c.maxLocals → decode c.code g.pc = .ok (ig, len) →
    2 * g.monitorRoom + (g.stack.map fun v => v.category).sum ≤ W9 → A.U.methodNamed? y = some mk → Pre A a →
    (∃ (v : Option Value) (B : Pt), Stand p l e R s m sargs below meth c B.U B.locs B.cells B.slots ∧ Post A a v B ∧
      Steps p.tables e below (doInvoke e (A.U.setTop g) [] mk a).1 (B.U.setTop { g with pc := g.pc + len, stack := v.toList ++ g.stack })) ∨
    (∃ (q : Addr) (B : Pt), Stand p l e R s m sargs below meth c B.U B.locs B.cells B.slots ∧ PostX A a q B ∧
      Steps p.tables e below (doInvoke e (A.U.setTop g) [] mk a).1 ((B.U.setTop g).pushFrame (.throwing q)))
section Payer
variable {l : Launch} {R : Room} {p : Program} {e : Env} {below : List Frame} {s : State} {sargs : Array Value} {y : MethodName} {len W9 : Nat}
theorem vx_back {ws : List Cond} {rm : Room} {Pc : Array Value → State → Prop} {Qc : Array Value → State → Outcome → State → Prop} {XC : String → State → State → Prop} {mc ms : Nat} {free : Addr → Prop} {bytes : ByteArray} {maxL : Nat} {ret : Option FieldType}
    (hM : vx_Met l y ws rm Pc Qc XC mc ms free) (hblind : FrameBlind Pc) (hrc : rm.cells = mc) (hrs : rm.slots = ms)
    (hframes : rm.frames + 1 ≤ R.frames) (hlocals : W9 + (maxL + 11) + rm.locals ≤ R.locals)
    (hws : ∀ w ∈ ws, ∀ a' U, s.WarmedH U.vm → w.before a' U = true) (hcode : Cond.code y bytes maxL ret ∈ ws) (hinit : ∀ a' U, s.WarmedH U.vm → (Cond.initialized y.cls).before a' U = true) :
    vx_Back l R p e below s sargs y len W9 (PreOf R mc ms Pc) (PostOf Qc mc ms free) (vx_Post XC mc ms free) := by
  intro m meth c A g ig mk a X hg hsize hdg hW hn hp
  have h1 : (headSpec ws rm).pre.before a A.U = true := atoms_intro fun w hw => hws w hw _ _ X.warmed
  have h2 : (Cond.code y bytes maxL ret).before a A.U = true := hws _ hcode _ _ X.warmed
  have h3 : (Cond.initialized y.cls).before a A.U = true := hinit _ _ X.warmed
  have h4 : A.cells + (headSpec ws rm).room.cells ≤ R.cells := by rw [show (headSpec ws rm).room.cells = mc from hrc]; exact hp.1
  have h5 : A.slots + (headSpec ws rm).room.slots ≤ R.slots := by rw [show (headSpec ws rm).room.slots = ms from hrs]; exact hp.2.1
  have hPc : Pc a (A.U.calling g mk a) := hblind _ _ _ _ hp.2.2
  obtain ⟨U, Ls, c0, s0⟩ := A
  dsimp only [Pt.U, Pt.locs, Pt.cells, Pt.slots] at h1 h2 h3 h4 h5 X hn hPc ⊢
  obtain ⟨methY, cY, hmY, hcY, -, hlY, -, -, -, -⟩ := Cond.code_spec hn h2
  obtain ⟨kY, hkY, -⟩ := className_of_methodNamed hn
  have hinitY : kY.init = .initialized := Cond.initialized_spec (findClass_of_methodNamed hn) hkY h3
  have h : At U g.method c below := by rw [hg]; exact X.here
  have hlocals9 : W9 + (maxL + 11) + (headSpec ws rm).room.locals ≤ R.locals := hlocals
  have happ : (headSpec ws rm).appliesLoose y e.platform (U.calling g mk a) = true :=
    Spec.appliesLoose_calling (g := g) h hdg hn hkY hinitY
      (X.room_calling (g := g) (R' := (headSpec ws rm).room) hsize hmY hcY hframes (by rw [hlY]; omega) h4 h5) h1
  obtain ⟨mid, hmid⟩ := h.above
  have hfr : (U.setTop g).frames = (.java g :: mid) ++ below := by rw [State.frames_setTop' g h.top, hmid]; rfl
  obtain ⟨o, s₂, hsteps, -, hend, hq⟩ := Steps.callFree hM p X.admits X.cas X.clock (acts := []) hfr happ hPc trivial
  have hq' : vx_Q Qc XC mc ms free a (U.calling g mk a) o s₂ := hq
  rw [State.frames_setTop' g h.top] at hend
  obtain ⟨g₀, hg0⟩ := Option.isSome_iff_exists.mp h.top
  obtain ⟨r, hr⟩ := State.topJava?_eq_some.mp hg0
  have hr' : (({ U with heap := s₂.heap, slotsUsed := s₂.slotsUsed } : State).setVm s₂.vm).frames = .java g₀ :: r := hr
  rcases hq' with ⟨hqc, L, hfe, hL⟩ | ⟨q, rfl, E, ce, L, hx, hce, hcv, hcl, hW₂, hsm, hL⟩
  · obtain ⟨⟨v, rfl⟩, hW₂, e2, q2, q3, q4, q5, q6⟩ := id hfe
    have e3 : s₂ = ({ (U.calling g mk a).setFrames s₂.frames with heap := s₂.heap, slotsUsed := s₂.slotsUsed } : State).setVm s₂.vm := by
      have : s₂ = ({ s₂ with vm := (U.calling g mk a).vm } : State).setVm s₂.vm := rfl
      rw [e2] at this
      exact this
    obtain ⟨c₂, i₂, len₂, hc₂, hd₂, hf₂⟩ := hend
    have hW' : U.WarmedH s₂.vm := hW₂
    have hcc : c₂ = c := by
      have h1 : s₂.code? g.method = U.code? g.method := by
        rw [State.code?_eq, State.code?_eq, hW'.alike.method?]
      exact Option.some.inj (hc₂.symm.trans (h1.trans h.code))
    subst hcc
    have hlen : len₂ = len := by rw [hdg] at hd₂; cases hd₂; rfl
    subst hlen
    have hs₂ : s₂ = (({ U with heap := s₂.heap, slotsUsed := s₂.slotsUsed } : State).setVm s₂.vm).setTop { g with pc := g.pc + len₂, stack := v.toList ++ g.stack } := by
      refine e3.trans ?_
      rw [hf₂, State.calling_eq h.top, State.setFrames_setFrames, State.setTop_of_frames _ hr', hr]
      rfl
    have hsame : U.sameButNew ({ U with heap := s₂.heap, slotsUsed := s₂.slotsUsed } : State) L mc ms := by
      refine ⟨?_, q2, q3, q4, q5, q6⟩
      obtain ⟨t, ht, -⟩ := State.frames_cons hr
      show ({ U with heap := s₂.heap, slotsUsed := s₂.slotsUsed } : State) = { U.setFrames U.frames with heap := s₂.heap, slotsUsed := s₂.slotsUsed }
      rw [State.setFrames_self ht]
    subst hg
    refine Or.inl ⟨v, ⟨(({ U with heap := s₂.heap, slotsUsed := s₂.slotsUsed } : State).setVm s₂.vm), Ls ++ L, c0 + mc, s0 + ms⟩,
      ⟨X.admits, X.cas, X.clock, X.frames, X.room, X.hears, X.method, X.code, (X.here.setHeapUsed s₂.heap s₂.slotsUsed).setVm hW'.alike, X.tail, State.WarmedH.trans X.warmed hW', X.limits, X.bytes, X.same.trans (hsame.setVm s.vm)⟩,
      ⟨g, mk, s₂, L, rfl, rfl, hqc, rfl, hL, rfl, rfl⟩, ?_⟩
    show Steps p.tables e below _ ((({ U with heap := s₂.heap, slotsUsed := s₂.slotsUsed } : State).setVm s₂.vm).setTop { g with pc := g.pc + len₂, stack := v.toList ++ g.stack })
    rw [← hs₂]
    exact hsteps
  · obtain ⟨e2, q2, q3, q4, q5, q6⟩ := id hsm
    have e3 : s₂ = ({ (U.calling g mk a).setFrames s₂.frames with heap := s₂.heap, slotsUsed := s₂.slotsUsed } : State).setVm s₂.vm := by
      have : s₂ = ({ s₂ with vm := (U.calling g mk a).vm } : State).setVm s₂.vm := rfl
      rw [e2] at this
      exact this
    have hf₂ : s₂.frames = .throwing q :: .java g :: U.frames.tail := hend
    have hW' : U.WarmedH s₂.vm := hW₂
    have hs₂ : s₂ = ((({ U with heap := s₂.heap, slotsUsed := s₂.slotsUsed } : State).setVm s₂.vm).setTop g).pushFrame (.throwing q) := by
      refine e3.trans ?_
      rw [hf₂, State.calling_eq h.top, State.setFrames_setFrames, State.pushFrame, State.frames_setTop _ hr', State.setTop_of_frames _ hr', State.setFrames_setFrames, hr]
      rfl
    have hsame : U.sameButNew ({ U with heap := s₂.heap, slotsUsed := s₂.slotsUsed } : State) L mc ms := by
      refine ⟨?_, q2, q3, q4, q5, q6⟩
      obtain ⟨t, ht, -⟩ := State.frames_cons hr
      show ({ U with heap := s₂.heap, slotsUsed := s₂.slotsUsed } : State) = { U.setFrames U.frames with heap := s₂.heap, slotsUsed := s₂.slotsUsed }
      rw [State.setFrames_self ht]
    subst hg
    refine Or.inr ⟨q, ⟨(({ U with heap := s₂.heap, slotsUsed := s₂.slotsUsed } : State).setVm s₂.vm), Ls ++ L, c0 + mc, s0 + ms⟩,
      ⟨X.admits, X.cas, X.clock, X.frames, X.room, X.hears, X.method, X.code, (X.here.setHeapUsed s₂.heap s₂.slotsUsed).setVm hW'.alike, X.tail, State.WarmedH.trans X.warmed hW', X.limits, X.bytes, X.same.trans (hsame.setVm s.vm)⟩,
      ⟨g, mk, s₂, L, E, ce, rfl, rfl, hx, hce, hcv, hcl, rfl, hL, rfl, rfl⟩, ?_⟩
    show Steps p.tables e below _ (((({ U with heap := s₂.heap, slotsUsed := s₂.slotsUsed } : State).setVm s₂.vm).setTop g).pushFrame (.throwing q))
    rw [← hs₂]
    exact hsteps
end Payer
section Calls
variable {p : Program} {l : Launch} {e : Env} {R : Room} {s : State} {m : MethodId} {args : Array Value} {below : List Frame} {meth : Method} {c : Code} {T : State} {locs : List Loc} {cells slots : Nat}
theorem vx_callV (X : Stand p l e R s m args below meth c T locs cells slots) (hexec : p.tables.exec = Jvm.exec) {own C : String} {index : Nat} {y : MethodName} {bytes : ByteArray} {maxL : Nat} {ret : Option FieldType}
    (hown : s.vm.findClass own = some m.cls) (hlink : (Cond.methodLink own index y).before args s = true) (hinst : (Cond.instanceMethod y).before args s = true) (hsel : (Cond.selects C y y).before args s = true)
    (hcode : (Cond.code y bytes maxL ret).before args s = true) (hy : y.cls ≠ "java/lang/invoke/MethodHandle" ∧ y.cls ≠ "java/lang/invoke/VarHandle")
    {W9 : Nat} {Pre : Pt → Array Value → Prop} {Post : Pt → Array Value → Option Value → Pt → Prop} {PostX : Pt → Array Value → Addr → Pt → Prop} (hK : vx_Back l R p e below s args y 3 W9 Pre Post PostX)
    {b : Addr} {cellB : Cell} (hcell : T.heap[b]? = some cellB) (hobj : cellB.vm.isStatics = false) (hcls : s.vm.findClass C = some cellB.cls)
    {g : JFrame} (hg : g.method = m) (hsize : g.locals.size = c.maxLocals) {argsL rest : List Value} (hlen : ∀ sig, parseMethodDescriptor y.desc = some sig → argsL.length = sig.parameters.length)
    (hstack : g.stack = argsL.reverse ++ .ref b :: rest) (hW : 2 * g.monitorRoom + (rest.map fun v => v.category).sum ≤ W9) (hdg : decode c.code g.pc = .ok (.invokevirtual index, 3))
    (hpre : ∀ vm₁, s.WarmedH vm₁ → Pre ⟨T.setVm vm₁, locs, cells, slots⟩ (Value.ref b :: argsL).toArray) :
    (∃ (v : Option Value) (vm₁ : Vm) (B : Pt), s.WarmedH vm₁ ∧ Stand p l e R s m args below meth c B.U B.locs B.cells B.slots ∧ Post ⟨T.setVm vm₁, locs, cells, slots⟩ (Value.ref b :: argsL).toArray v B ∧
      ∀ target, Steps p.tables e below (B.U.setTop { g with pc := g.pc + 3, stack := v.toList ++ rest }) target → Steps p.tables e below (T.setTop g) target) ∨
    (∃ (q : Addr) (vm₁ : Vm) (B : Pt), s.WarmedH vm₁ ∧ Stand p l e R s m args below meth c B.U B.locs B.cells B.slots ∧ PostX ⟨T.setVm vm₁, locs, cells, slots⟩ (Value.ref b :: argsL).toArray q B ∧
      Steps p.tables e below (T.setTop g) ((B.U.setTop { g with stack := rest }).pushFrame (.throwing q))) := by
  obtain ⟨mk, methM, hnamed, hmethM, hstM, habM⟩ := Cond.instanceMethod_spec hinst
  obtain ⟨methM', cM, hmethM', -, -, -, -, -, -, hsigM⟩ := Cond.code_spec hnamed hcode
  cases hmethM.symm.trans hmethM'
  obtain ⟨c2, r2, m2, q1, q2, q3, q4, kP, hkP, hkPi⟩ := Cond.selects_spec hsel
  cases hcls.symm.trans q1
  cases (State.methodFound?_of_named hnamed hy).symm.trans q2
  cases hnamed.symm.trans q3
  have hselP : selectMethod e.platform s.vm cellB.cls mk = .method mk := by rw [Launch.admits_selectMethod X.admits]; exact q4
  obtain ⟨vm₁, X₁, hstep₁⟩ := X.invokevirtual hexec hown hlink hnamed hmethM hstM hkP hkPi hy (a := b) (cell := cellB) hcell
    (fun z h => by rw [h] at hobj; cases hobj) hselP hmethM habM hkP hkPi (g := g) hg (argsL := argsL) (rest := rest) (hlen _ hsigM) hstack hdg
  rcases hK m meth c ⟨T.setVm vm₁, locs, cells, slots⟩ { g with stack := rest } (.invokevirtual index) mk (Value.ref b :: argsL).toArray X₁ hg hsize hdg hW (X₁.named hnamed) (hpre vm₁ X₁.warmed) with ⟨v, B, X', hpost, hsteps⟩ | ⟨q, B, X', hpost, hsteps⟩
  · exact Or.inl ⟨v, vm₁, B, X₁.warmed, X', hpost, fun target h => hstep₁ _ fun acts => by rw [doInvoke_state]; exact hsteps.trans h⟩
  · exact Or.inr ⟨q, vm₁, B, X₁.warmed, X', hpost, hstep₁ _ fun acts => by rw [doInvoke_state]; exact hsteps⟩
theorem vx_callS (X : Stand p l e R s m args below meth c T locs cells slots) (hexec : p.tables.exec = Jvm.exec) {own : String} {index : Nat} {y : MethodName} {bytes : ByteArray} {maxL : Nat} {ret : Option FieldType}
    (hown : s.vm.findClass own = some m.cls) (hlink : (Cond.methodLink own index y).before args s = true) (hstat : (Cond.static y).before args s = true) (hinit : (Cond.initialized y.cls).before args s = true)
    (hcode : (Cond.code y bytes maxL ret).before args s = true) (hy : y.cls ≠ "java/lang/invoke/MethodHandle" ∧ y.cls ≠ "java/lang/invoke/VarHandle")
    {W9 : Nat} {Pre : Pt → Array Value → Prop} {Post : Pt → Array Value → Option Value → Pt → Prop} {PostX : Pt → Array Value → Addr → Pt → Prop} (hK : vx_Back l R p e below s args y 3 W9 Pre Post PostX)
    {g : JFrame} (hg : g.method = m) (hsize : g.locals.size = c.maxLocals) {argsL rest : List Value} (hlen : ∀ sig, parseMethodDescriptor y.desc = some sig → argsL.length = sig.parameters.length)
    (hstack : g.stack = argsL.reverse ++ rest) (hW : 2 * g.monitorRoom + (rest.map fun v => v.category).sum ≤ W9) (hdg : decode c.code g.pc = .ok (.invokestatic index, 3))
    (hpre : ∀ vm₁, s.WarmedH vm₁ → Pre ⟨T.setVm vm₁, locs, cells, slots⟩ argsL.toArray) :
    (∃ (v : Option Value) (vm₁ : Vm) (B : Pt), s.WarmedH vm₁ ∧ Stand p l e R s m args below meth c B.U B.locs B.cells B.slots ∧ Post ⟨T.setVm vm₁, locs, cells, slots⟩ argsL.toArray v B ∧
      ∀ target, Steps p.tables e below (B.U.setTop { g with pc := g.pc + 3, stack := v.toList ++ rest }) target → Steps p.tables e below (T.setTop g) target) ∨
    (∃ (q : Addr) (vm₁ : Vm) (B : Pt), s.WarmedH vm₁ ∧ Stand p l e R s m args below meth c B.U B.locs B.cells B.slots ∧ PostX ⟨T.setVm vm₁, locs, cells, slots⟩ argsL.toArray q B ∧
      Steps p.tables e below (T.setTop g) ((B.U.setTop { g with stack := rest }).pushFrame (.throwing q))) := by
  obtain ⟨mk, hnamed⟩ := Cond.code_named hcode
  obtain ⟨methM, cM, hmethM, -, -, -, -, -, -, hsigM⟩ := Cond.code_spec hnamed hcode
  have hstatic : methM.isStatic = true := Cond.static_spec hnamed hmethM hstat
  obtain ⟨kP, hkP, -⟩ := className_of_methodNamed hnamed
  have hinitP : kP.init = .initialized := Cond.initialized_spec (findClass_of_methodNamed hnamed) hkP hinit
  obtain ⟨vm₁, X₁, hstep₁⟩ := X.invokestatic hexec hown hlink hnamed hmethM hstatic hkP hinitP hy (g := g) hg (argsL := argsL) (rest := rest) (hlen _ hsigM) hstack hdg
  rcases hK m meth c ⟨T.setVm vm₁, locs, cells, slots⟩ { g with stack := rest } (.invokestatic index) mk argsL.toArray X₁ hg hsize hdg hW (X₁.named hnamed) (hpre vm₁ X₁.warmed) with ⟨v, B, X', hpost, hsteps⟩ | ⟨q, B, X', hpost, hsteps⟩
  · exact Or.inl ⟨v, vm₁, B, X₁.warmed, X', hpost, fun target h => hstep₁ _ fun acts => by rw [doInvoke_state]; exact hsteps.trans h⟩
  · exact Or.inr ⟨q, vm₁, B, X₁.warmed, X', hpost, hstep₁ _ fun acts => by rw [doInvoke_state]; exact hsteps⟩
end Calls
theorem vx_cls {s : State} {T : State} {vm₁ : Vm} {E : String} {k : ClassId} (hW : s.WarmedH vm₁) (h : (T.setVm vm₁).vm.findClass E = some k) : s.vm.findClass E = some k := by
  have h1 : vm₁.findClass E = some k := h
  rw [hW.alike.findClass] at h1
  exact h1
/-- the method's frame g, with q thrown over it -/
def vx_W (p : Program) (l : Launch) (e : Env) (R : Room) (s : State) (m : MethodId) (args : Array Value) (below : List Frame) (meth : Method) (c : Code) (H : Heap) (locs : List Loc) (cells slots : Nat) (Q : State → Prop) (g : JFrame) (q : Addr) : Prop :=
  ∀ T : State, T.heap = H → Stand p l e R s m args below meth c T locs cells slots → ∃ t, Steps p.tables e below ((T.setTop g).pushFrame (.throwing q)) t ∧ Q t
def vx_Run (p : Program) (l : Launch) (e : Env) (R : Room) (s : State) (m : MethodId) (args : Array Value) (below : List Frame) (meth : Method) (c : Code) (H : Heap) (locs : List Loc) (cells slots mc ms : Nat) (g : JFrame) (rest : List Value) (Qa : State → Outcome → State → Prop) (XC : String → State → State → Prop) (free : Addr → Prop) : Prop :=
  ∀ T : State, T.heap = H → Stand p l e R s m args below meth c T locs cells slots →
    (∃ (v : Option Value) (st₀ t T' : State) (L : List Loc), st₀.heap = H ∧ Stand p l e R s m args below meth c T' (locs ++ L) (cells + mc) (slots + ms) ∧ (∀ q ∈ L, free q.base) ∧ T'.heap = t.heap ∧ T'.vm = t.vm ∧ Qa st₀ (.returned v) t ∧
      Goes p e below T g T' { g with pc := g.pc + 3, stack := v.toList ++ rest }) ∨
    (∃ (q : Addr) (st₀ t T' : State) (L : List Loc) (E : String) (ce : Cell), st₀.heap = H ∧ Stand p l e R s m args below meth c T' (locs ++ L) (cells + mc) (slots + ms) ∧ (∀ z ∈ L, free z.base) ∧ T'.heap = t.heap ∧ T'.vm = t.vm ∧ XC E st₀ t ∧ t.heap[q]? = some ce ∧ ce.vm = .none ∧ s.vm.findClass E = some ce.cls ∧
      Steps p.tables e below (T.setTop g) ((T'.setTop { g with stack := rest }).pushFrame (.throwing q)))
def vx_X {S : Type} (px : S → Prop) (B : String → S → State → Prop) (A : Nat → Prop) : String → State → State → Prop := fun E st t => ∃ u : S, px u ∧ B E u t ∧ va_F A st t
section Runs
variable {p : Program} {l : Launch} {e : Env} {R : Room} {s : State} {m : MethodId} {args : Array Value} {below : List Frame} {meth : Method} {c : Code} {H : Heap} {locs : List Loc} {cells slots : Nat}
variable {y : MethodName} {bytes cc : ByteArray} {maxL nL mc ms n index : Nat} {ret : Option FieldType} {ws : List Cond} {rm : Room} {Pc : Array Value → State → Prop} {Qc : Array Value → State → Outcome → State → Prop} {XC : String → State → State → Prop} {free : Addr → Prop} {Ts : List Cond} {own C : String} {b : Addr} {As rest : List Value} {g : JFrame}
theorem vx_callBack (cb : CallB R s args own index y bytes maxL ret ws rm mc ms n) (hM : vx_Met l y ws rm Pc Qc XC mc ms free) (hbl : FrameBlind Pc) : vx_Back l R p e below s args y 3 8 (PreOf R mc ms Pc) (PostOf Qc mc ms free) (vx_Post XC mc ms free) := by
  obtain ⟨hrc, hrs, hfr, hlo, hws, hcw, -, hini, -⟩ := cb
  exact vx_back (bytes := bytes) (maxL := maxL) (ret := ret) hM hbl hrc hrs hfr hlo hws hcw (fun a' U hW => word_at hW (Or.inl (by first | rfl | simp [Cond.onTables, Cond.keeps, Cond.steady])) hini)
theorem vx_runV (S : CallFix p m c cc nL s args Ts own) (hM : vx_Met l y ws rm Pc Qc XC mc ms free) (cw : CallW R s args own C index y bytes maxL ret ws rm mc ms n) (hp : PreV s H C b Pc As)
    (hg : g.method = m) (hn : As.length = n) (hsize : g.locals.size = nL) (hstack : g.stack = As.reverse ++ .ref b :: rest) (hW : 2 * g.monitorRoom + (rest.map fun v => v.category).sum ≤ 8) (hdg : decode cc g.pc = .ok (.invokevirtual index, 3)) (hf : cells + mc ≤ R.cells ∧ slots + ms ≤ R.slots) :
    vx_Run p l e R s m args below meth c H locs cells slots mc ms g rest (Qc (Value.ref b :: As).toArray) XC free := by
  have hK : vx_Back l R p e below s args y 3 8 (PreOf R mc ms Pc) (PostOf Qc mc ms free) (vx_Post XC mc ms free) := vx_callBack cw.1 hM hp.1
  obtain ⟨⟨-, -, -, -, -, -, hcode, -, hy, hlen, hl⟩, hin, hse⟩ := cw
  obtain ⟨hx, hb, hml, ho, -⟩ := S
  obtain ⟨-, ⟨cellB, hcB, hoB, hclB⟩, hPc⟩ := hp
  intro T hT X
  rcases vx_callV X hx (C := C) (bytes := bytes) (maxL := maxL) (ret := ret) ho hl hin hse hcode hy hK (by rw [hT]; exact hcB) hoB hclB hg (hsize.trans hml.symm) (argsL := As) (rest := rest) (fun sig h => hn.trans (hlen sig h)) hstack hW (by rw [hb]; exact hdg)
    (fun vm₁ hW₁ => ⟨hf.1, hf.2, hPc (T.setVm vm₁) hT hW₁⟩) with ⟨v, vm₁, ⟨U', l2, c2, s2⟩, hW₁, X', ⟨g', mk, t, L, e1, e2, hq, h1, hL, h2, h3⟩, st⟩ | ⟨q, vm₁, ⟨U', l2, c2, s2⟩, hW₁, X', ⟨g', mk, t, L, E, ce, e1, e2, hq, hce, hcv, hcl, h1, hL, h2, h3⟩, st⟩
  · dsimp only [Pt.U, Pt.locs, Pt.cells, Pt.slots] at X' e1 e2 h1 h2 h3 st
    subst h1; subst h2; subst h3
    exact Or.inl ⟨v, (T.setVm vm₁).calling g' mk (Value.ref b :: As).toArray, t, U', L, hT, X', hL, e1, e2, hq, st⟩
  · dsimp only [Pt.U, Pt.locs, Pt.cells, Pt.slots] at X' e1 e2 h1 h2 h3 st hcl
    subst h1; subst h2; subst h3
    exact Or.inr ⟨q, (T.setVm vm₁).calling g' mk (Value.ref b :: As).toArray, t, U', L, E, ce, hT, X', hL, e1, e2, hq, hce, hcv, vx_cls hW₁ hcl, st⟩
theorem vx_runS (S : CallFix p m c cc nL s args Ts own) (hM : vx_Met l y ws rm Pc Qc XC mc ms free) (cw : CallB R s args own index y bytes maxL ret ws rm mc ms n ∧ (Cond.static y).before args s = true) (hp : PreS s H Pc As)
    (hg : g.method = m) (hn : As.length = n) (hsize : g.locals.size = nL) (hstack : g.stack = As.reverse ++ rest) (hW : 2 * g.monitorRoom + (rest.map fun v => v.category).sum ≤ 8) (hdg : decode cc g.pc = .ok (.invokestatic index, 3)) (hf : cells + mc ≤ R.cells ∧ slots + ms ≤ R.slots) :
    vx_Run p l e R s m args below meth c H locs cells slots mc ms g rest (Qc As.toArray) XC free := by
  have hK : vx_Back l R p e below s args y 3 8 (PreOf R mc ms Pc) (PostOf Qc mc ms free) (vx_Post XC mc ms free) := vx_callBack cw.1 hM hp.1
  obtain ⟨⟨-, -, -, -, -, -, hcode, hini, hy, hlen, hl⟩, hstt⟩ := cw
  obtain ⟨hx, hb, hml, ho, -⟩ := S
  intro T hT X
  rcases vx_callS X hx (bytes := bytes) (maxL := maxL) (ret := ret) ho hl hstt hini hcode hy hK hg (hsize.trans hml.symm) (argsL := As) (rest := rest) (fun sig h => hn.trans (hlen sig h)) hstack hW (by rw [hb]; exact hdg)
    (fun vm₁ hW₁ => ⟨hf.1, hf.2, hp.2 (T.setVm vm₁) hT hW₁⟩) with ⟨v, vm₁, ⟨U', l2, c2, s2⟩, hW₁, X', ⟨g', mk, t, L, e1, e2, hq, h1, hL, h2, h3⟩, st⟩ | ⟨q, vm₁, ⟨U', l2, c2, s2⟩, hW₁, X', ⟨g', mk, t, L, E, ce, e1, e2, hq, hce, hcv, hcl, h1, hL, h2, h3⟩, st⟩
  · dsimp only [Pt.U, Pt.locs, Pt.cells, Pt.slots] at X' e1 e2 h1 h2 h3 st
    subst h1; subst h2; subst h3
    exact Or.inl ⟨v, (T.setVm vm₁).calling g' mk As.toArray, t, U', L, hT, X', hL, e1, e2, hq, st⟩
  · dsimp only [Pt.U, Pt.locs, Pt.cells, Pt.slots] at X' e1 e2 h1 h2 h3 st hcl
    subst h1; subst h2; subst h3
    exact Or.inr ⟨q, (T.setVm vm₁).calling g' mk As.toArray, t, U', L, E, ce, hT, X', hL, e1, e2, hq, hce, hcv, vx_cls hW₁ hcl, st⟩
end Runs
section Rows
variable {p : Program} {l : Launch} {e : Env} {R : Room} {s : State} {m : MethodId} {args : Array Value} {below : List Frame} {meth : Method} {c : Code} {H : Heap} {locs : List Loc} {cells slots : Nat} {Q : State → Prop}
variable {mc ms : Nat} {free : Addr → Prop} {A0 A1 : Nat → Prop} {H0 : Heap} {a : Array Value} {pc : Nat} {ls : Array Slot} {st0 rest : List Value}
theorem vx_keep {st₀ t T' : State} {L : List Loc} (h0 : st₀.heap = H) (e1 : T'.heap = t.heap) (hS : va_S A0 H0 H locs) (hA : ∀ q, q < H.size → A1 q → A0 q) (hf : ∀ q, free q → A0 q) (hL : ∀ q ∈ L, free q.base) (hF : va_F A1 st₀ t) :
    H.size ≤ T'.heap.size ∧ (∀ q : Nat, q < H.size → ¬ A1 q → T'.heap[q]? = H[q]?) ∧ va_S A0 H0 T'.heap (locs ++ L) := by
  obtain ⟨hz, hk⟩ := hF
  rw [h0] at hz hk
  exact ⟨by rw [e1]; exact hz, fun q h1 h2 => by rw [e1]; exact hk q h1 h2,
    ⟨Nat.le_trans hS.1 (by rw [e1]; exact hz), fun q h1 h2 => by rw [e1, hk q (Nat.lt_of_lt_of_le h1 hS.1) (fun z => h2 (hA q (Nat.lt_of_lt_of_le h1 hS.1) z))]; exact hS.2.1 q h1 h2, fun q hq => by
      rcases List.mem_append.mp hq with h | h
      · exact hS.2.2 q h
      · exact hf _ (hL q h)⟩⟩
theorem vx_calli {S SX : Type} {post : Int32 → S → Prop} {px : SX → Prop} {B : S → State → Prop} {BX : String → SX → State → Prop} {AX : Nat → Prop} (hr : vx_Run p l e R s m args below meth c H locs cells slots mc ms (F0 m pc ls st0) rest (va_Qi post B A1 a) (vx_X px BX AX) free) (hS : va_S A0 H0 H locs) (hA : ∀ q, q < H.size → A1 q → A0 q) (hf : ∀ q, free q → A0 q) (hAX : ∀ q, q < H.size → AX q → A0 q)
    (kx : ∀ (E : String) (ce : Cell) (q9 : Addr) (u : SX) (t : State) (H1 : Heap) (locs1 : List Loc), t.heap = H1 → s.vm.Alike t.vm → px u → BX E u t → H.size ≤ H1.size → (∀ q : Nat, q < H.size → ¬ AX q → H1[q]? = H[q]?) → va_S A0 H0 H1 locs1 → H1[q9]? = some ce → ce.vm = .none → s.vm.findClass E = some ce.cls → vx_W p l e R s m args below meth c H1 locs1 (cells + mc) (slots + ms) Q (F0 m pc ls rest) q9)
    (kk : ∀ (r : Int32) (u : S) (t : State) (H1 : Heap) (locs1 : List Loc), t.heap = H1 → s.vm.Alike t.vm → post r u → B u t → H.size ≤ H1.size → (∀ q : Nat, q < H.size → ¬ A1 q → H1[q]? = H[q]?) → va_S A0 H0 H1 locs1 → W p l e R s m args below meth c H1 locs1 (cells + mc) (slots + ms) Q (F0 m (pc + 3) ls (.int r :: rest))) : W p l e R s m args below meth c H locs cells slots Q (F0 m pc ls st0) := by
  intro T hT X
  rcases hr T hT X with ⟨v, st₀, t, T', L, h0, X', hL, e1, e2, ⟨⟨r, u, hv, hp, hb⟩, hF⟩, st⟩ | ⟨q, st₀, t, T', L, E, ce, h0, X', hL, e1, e2, ⟨u, hp, hb, hF⟩, hce, hcv, hcl, st⟩
  · cases hv
    obtain ⟨k1, k2, k3⟩ := vx_keep h0 e1 hS hA hf hL hF
    obtain ⟨t2, a1, b1⟩ := kk r u t T'.heap (locs ++ L) e1.symm (by rw [← e2]; exact X'.warmed.alike) hp hb k1 k2 k3 T' rfl X'
    exact ⟨t2, st t2 a1, b1⟩
  · obtain ⟨k1, k2, k3⟩ := vx_keep h0 e1 hS hAX hf hL hF
    obtain ⟨t2, a1, b1⟩ := kx E ce q u t T'.heap (locs ++ L) e1.symm (by rw [← e2]; exact X'.warmed.alike) hp hb k1 k2 k3 (by rw [e1]; exact hce) hcv hcl T' rfl X'
    exact ⟨t2, st.trans a1, b1⟩
theorem vx_calll {S SX : Type} {post : Int64 → S → Prop} {px : SX → Prop} {B : S → State → Prop} {BX : String → SX → State → Prop} {AX : Nat → Prop} (hr : vx_Run p l e R s m args below meth c H locs cells slots mc ms (F0 m pc ls st0) rest (va_Ql post B A1 a) (vx_X px BX AX) free) (hS : va_S A0 H0 H locs) (hA : ∀ q, q < H.size → A1 q → A0 q) (hf : ∀ q, free q → A0 q) (hAX : ∀ q, q < H.size → AX q → A0 q)
    (kx : ∀ (E : String) (ce : Cell) (q9 : Addr) (u : SX) (t : State) (H1 : Heap) (locs1 : List Loc), t.heap = H1 → s.vm.Alike t.vm → px u → BX E u t → H.size ≤ H1.size → (∀ q : Nat, q < H.size → ¬ AX q → H1[q]? = H[q]?) → va_S A0 H0 H1 locs1 → H1[q9]? = some ce → ce.vm = .none → s.vm.findClass E = some ce.cls → vx_W p l e R s m args below meth c H1 locs1 (cells + mc) (slots + ms) Q (F0 m pc ls rest) q9)
    (kk : ∀ (r : Int64) (u : S) (t : State) (H1 : Heap) (locs1 : List Loc), t.heap = H1 → s.vm.Alike t.vm → post r u → B u t → H.size ≤ H1.size → (∀ q : Nat, q < H.size → ¬ A1 q → H1[q]? = H[q]?) → va_S A0 H0 H1 locs1 → W p l e R s m args below meth c H1 locs1 (cells + mc) (slots + ms) Q (F0 m (pc + 3) ls (.long r :: rest))) : W p l e R s m args below meth c H locs cells slots Q (F0 m pc ls st0) := by
  intro T hT X
  rcases hr T hT X with ⟨v, st₀, t, T', L, h0, X', hL, e1, e2, ⟨⟨r, u, hv, hp, hb⟩, hF⟩, st⟩ | ⟨q, st₀, t, T', L, E, ce, h0, X', hL, e1, e2, ⟨u, hp, hb, hF⟩, hce, hcv, hcl, st⟩
  · cases hv
    obtain ⟨k1, k2, k3⟩ := vx_keep h0 e1 hS hA hf hL hF
    obtain ⟨t2, a1, b1⟩ := kk r u t T'.heap (locs ++ L) e1.symm (by rw [← e2]; exact X'.warmed.alike) hp hb k1 k2 k3 T' rfl X'
    exact ⟨t2, st t2 a1, b1⟩
  · obtain ⟨k1, k2, k3⟩ := vx_keep h0 e1 hS hAX hf hL hF
    obtain ⟨t2, a1, b1⟩ := kx E ce q u t T'.heap (locs ++ L) e1.symm (by rw [← e2]; exact X'.warmed.alike) hp hb k1 k2 k3 (by rw [e1]; exact hce) hcv hcl T' rfl X'
    exact ⟨t2, st.trans a1, b1⟩
theorem vx_callf {S SX : Type} {post : UInt32 → S → Prop} {px : SX → Prop} {B : S → State → Prop} {BX : String → SX → State → Prop} {AX : Nat → Prop} (hr : vx_Run p l e R s m args below meth c H locs cells slots mc ms (F0 m pc ls st0) rest (va_Qf post B A1 a) (vx_X px BX AX) free) (hS : va_S A0 H0 H locs) (hA : ∀ q, q < H.size → A1 q → A0 q) (hf : ∀ q, free q → A0 q) (hAX : ∀ q, q < H.size → AX q → A0 q)
    (kx : ∀ (E : String) (ce : Cell) (q9 : Addr) (u : SX) (t : State) (H1 : Heap) (locs1 : List Loc), t.heap = H1 → s.vm.Alike t.vm → px u → BX E u t → H.size ≤ H1.size → (∀ q : Nat, q < H.size → ¬ AX q → H1[q]? = H[q]?) → va_S A0 H0 H1 locs1 → H1[q9]? = some ce → ce.vm = .none → s.vm.findClass E = some ce.cls → vx_W p l e R s m args below meth c H1 locs1 (cells + mc) (slots + ms) Q (F0 m pc ls rest) q9)
    (kk : ∀ (r : UInt32) (u : S) (t : State) (H1 : Heap) (locs1 : List Loc), t.heap = H1 → s.vm.Alike t.vm → post r u → B u t → H.size ≤ H1.size → (∀ q : Nat, q < H.size → ¬ A1 q → H1[q]? = H[q]?) → va_S A0 H0 H1 locs1 → W p l e R s m args below meth c H1 locs1 (cells + mc) (slots + ms) Q (F0 m (pc + 3) ls (.float r :: rest))) : W p l e R s m args below meth c H locs cells slots Q (F0 m pc ls st0) := by
  intro T hT X
  rcases hr T hT X with ⟨v, st₀, t, T', L, h0, X', hL, e1, e2, ⟨⟨r, u, hv, hp, hb⟩, hF⟩, st⟩ | ⟨q, st₀, t, T', L, E, ce, h0, X', hL, e1, e2, ⟨u, hp, hb, hF⟩, hce, hcv, hcl, st⟩
  · cases hv
    obtain ⟨k1, k2, k3⟩ := vx_keep h0 e1 hS hA hf hL hF
    obtain ⟨t2, a1, b1⟩ := kk r u t T'.heap (locs ++ L) e1.symm (by rw [← e2]; exact X'.warmed.alike) hp hb k1 k2 k3 T' rfl X'
    exact ⟨t2, st t2 a1, b1⟩
  · obtain ⟨k1, k2, k3⟩ := vx_keep h0 e1 hS hAX hf hL hF
    obtain ⟨t2, a1, b1⟩ := kx E ce q u t T'.heap (locs ++ L) e1.symm (by rw [← e2]; exact X'.warmed.alike) hp hb k1 k2 k3 (by rw [e1]; exact hce) hcv hcl T' rfl X'
    exact ⟨t2, st.trans a1, b1⟩
theorem vx_calld {S SX : Type} {post : UInt64 → S → Prop} {px : SX → Prop} {B : S → State → Prop} {BX : String → SX → State → Prop} {AX : Nat → Prop} (hr : vx_Run p l e R s m args below meth c H locs cells slots mc ms (F0 m pc ls st0) rest (va_Qd post B A1 a) (vx_X px BX AX) free) (hS : va_S A0 H0 H locs) (hA : ∀ q, q < H.size → A1 q → A0 q) (hf : ∀ q, free q → A0 q) (hAX : ∀ q, q < H.size → AX q → A0 q)
    (kx : ∀ (E : String) (ce : Cell) (q9 : Addr) (u : SX) (t : State) (H1 : Heap) (locs1 : List Loc), t.heap = H1 → s.vm.Alike t.vm → px u → BX E u t → H.size ≤ H1.size → (∀ q : Nat, q < H.size → ¬ AX q → H1[q]? = H[q]?) → va_S A0 H0 H1 locs1 → H1[q9]? = some ce → ce.vm = .none → s.vm.findClass E = some ce.cls → vx_W p l e R s m args below meth c H1 locs1 (cells + mc) (slots + ms) Q (F0 m pc ls rest) q9)
    (kk : ∀ (r : UInt64) (u : S) (t : State) (H1 : Heap) (locs1 : List Loc), t.heap = H1 → s.vm.Alike t.vm → post r u → B u t → H.size ≤ H1.size → (∀ q : Nat, q < H.size → ¬ A1 q → H1[q]? = H[q]?) → va_S A0 H0 H1 locs1 → W p l e R s m args below meth c H1 locs1 (cells + mc) (slots + ms) Q (F0 m (pc + 3) ls (.double r :: rest))) : W p l e R s m args below meth c H locs cells slots Q (F0 m pc ls st0) := by
  intro T hT X
  rcases hr T hT X with ⟨v, st₀, t, T', L, h0, X', hL, e1, e2, ⟨⟨r, u, hv, hp, hb⟩, hF⟩, st⟩ | ⟨q, st₀, t, T', L, E, ce, h0, X', hL, e1, e2, ⟨u, hp, hb, hF⟩, hce, hcv, hcl, st⟩
  · cases hv
    obtain ⟨k1, k2, k3⟩ := vx_keep h0 e1 hS hA hf hL hF
    obtain ⟨t2, a1, b1⟩ := kk r u t T'.heap (locs ++ L) e1.symm (by rw [← e2]; exact X'.warmed.alike) hp hb k1 k2 k3 T' rfl X'
    exact ⟨t2, st t2 a1, b1⟩
  · obtain ⟨k1, k2, k3⟩ := vx_keep h0 e1 hS hAX hf hL hF
    obtain ⟨t2, a1, b1⟩ := kx E ce q u t T'.heap (locs ++ L) e1.symm (by rw [← e2]; exact X'.warmed.alike) hp hb k1 k2 k3 (by rw [e1]; exact hce) hcv hcl T' rfl X'
    exact ⟨t2, st.trans a1, b1⟩
theorem vx_callv {S SX : Type} {post : S → Prop} {px : SX → Prop} {B : S → State → Prop} {BX : String → SX → State → Prop} {AX : Nat → Prop} (hr : vx_Run p l e R s m args below meth c H locs cells slots mc ms (F0 m pc ls st0) rest (va_Qv post B A1 a) (vx_X px BX AX) free) (hS : va_S A0 H0 H locs) (hA : ∀ q, q < H.size → A1 q → A0 q) (hf : ∀ q, free q → A0 q) (hAX : ∀ q, q < H.size → AX q → A0 q)
    (kx : ∀ (E : String) (ce : Cell) (q9 : Addr) (u : SX) (t : State) (H1 : Heap) (locs1 : List Loc), t.heap = H1 → s.vm.Alike t.vm → px u → BX E u t → H.size ≤ H1.size → (∀ q : Nat, q < H.size → ¬ AX q → H1[q]? = H[q]?) → va_S A0 H0 H1 locs1 → H1[q9]? = some ce → ce.vm = .none → s.vm.findClass E = some ce.cls → vx_W p l e R s m args below meth c H1 locs1 (cells + mc) (slots + ms) Q (F0 m pc ls rest) q9)
    (kk : ∀ (u : S) (t : State) (H1 : Heap) (locs1 : List Loc), t.heap = H1 → s.vm.Alike t.vm → post u → B u t → H.size ≤ H1.size → (∀ q : Nat, q < H.size → ¬ A1 q → H1[q]? = H[q]?) → va_S A0 H0 H1 locs1 → W p l e R s m args below meth c H1 locs1 (cells + mc) (slots + ms) Q (F0 m (pc + 3) ls (rest))) : W p l e R s m args below meth c H locs cells slots Q (F0 m pc ls st0) := by
  intro T hT X
  rcases hr T hT X with ⟨v, st₀, t, T', L, h0, X', hL, e1, e2, ⟨⟨u, hv, hp, hb⟩, hF⟩, st⟩ | ⟨q, st₀, t, T', L, E, ce, h0, X', hL, e1, e2, ⟨u, hp, hb, hF⟩, hce, hcv, hcl, st⟩
  · cases hv
    obtain ⟨k1, k2, k3⟩ := vx_keep h0 e1 hS hA hf hL hF
    obtain ⟨t2, a1, b1⟩ := kk u t T'.heap (locs ++ L) e1.symm (by rw [← e2]; exact X'.warmed.alike) hp hb k1 k2 k3 T' rfl X'
    exact ⟨t2, st t2 a1, b1⟩
  · obtain ⟨k1, k2, k3⟩ := vx_keep h0 e1 hS hAX hf hL hF
    obtain ⟨t2, a1, b1⟩ := kx E ce q u t T'.heap (locs ++ L) e1.symm (by rw [← e2]; exact X'.warmed.alike) hp hb k1 k2 k3 (by rw [e1]; exact hce) hcv hcl T' rfl X'
    exact ⟨t2, st.trans a1, b1⟩
/-- caught by the row x of this method's table; the rows ahead don't take it -/
theorem vx_catch {own name : String} {E : String} {ce : Cell} {q : Addr} (hown : s.vm.findClass own = some m.cls) (pre : List ExceptionTableEntry) (x : ExceptionTableEntry) (suf : List ExceptionTableEntry) (hsplit : c.exceptionTable.toList = pre ++ x :: suf)
    (hpass : ∀ z ∈ pre, covers z pc = false ∨ (z.catchType ≠ 0 ∧ ∃ nm : String, (Cond.classLink own z.catchType nm).before args s = true ∧ va_Nc E nm s)) (hx : covers x pc = true) (h0 : x.catchType ≠ 0)
    (hlink : (Cond.classLink own x.catchType name).before args s = true) (hcast : (Cond.castable E name).before args s = true) (hcell : H[q]? = some ce) (hv : ce.vm = .none) (hcl : s.vm.findClass E = some ce.cls)
    (kk : W p l e R s m args below meth c H locs cells slots Q (F0 m x.handlerPc ls [.ref q])) : vx_W p l e R s m args below meth c H locs cells slots Q (F0 m pc ls rest) q := by
  intro T hT X
  have hpl : e.platform.magicAccessors = ({} : Platform).magicAccessors := by rw [X.admits.platform]
  obtain ⟨c3, c4, hc3, hc4, hasg⟩ := Cond.castable_spec hcast
  cases Option.some.inj (hc3.symm.trans hcl)
  obtain ⟨c5, hc5, hcl5⟩ := Cond.classLink_spec hown hlink e.platform hpl
  cases Option.some.inj (hc4.symm.trans hc5)
  obtain ⟨vm', X', st⟩ := X.thenCaughtThrough q (g := F0 m pc ls rest) rfl (Steps.refl _) (by rw [hT]; exact hcell) (by rw [hv]; rfl) (by obtain ⟨k9, h9, -⟩ := Vm.findClass_spec hcl; exact ⟨k9, h9⟩) pre x suf hsplit
    (fun z hz => by
      rcases hpass z hz with h | ⟨hz0, nm, hl1, hn1⟩
      · exact Or.inl h
      · obtain ⟨c6, hc6, hcl6⟩ := Cond.classLink_spec hown hl1 e.platform hpl
        obtain ⟨a8, b8, h1, h2, h3⟩ := hn1
        cases Option.some.inj (h1.symm.trans hcl)
        cases Option.some.inj (h2.symm.trans hc6)
        exact Or.inr ⟨hz0, _, hcl6, h3⟩) hx (Or.inr ⟨h0, c4, hcl5, hasg⟩)
  obtain ⟨t, a1, b1⟩ := kk (T.setVm vm') hT X'
  exact ⟨t, st.trans a1, b1⟩
end Rows
section Ends
variable {p : Program} {l : Launch} {e : Env} {R : Room} {s : State} {m : MethodId} {args : Array Value} {below : List Frame} {meth : Method} {c : Code} {H : Heap} {locs : List Loc} {cells slots : Nat} {Q : State → Prop}
variable {mc ms : Nat} {free : Addr → Prop} {A0 A1 : Nat → Prop} {H0 : Heap} {a : Array Value} {ls : Array Slot} {st0 rest : List Value}
variable {Qc : Array Value → State → Outcome → State → Prop} {XC : String → State → State → Prop}
/-- what a body that may throw owes at its end -/
def vx_MQ (below : List Frame) (Qc : Array Value → State → Outcome → State → Prop) (XC : String → State → State → Prop) (a : Array Value) (s : State) (mc ms : Nat) (free : Addr → Prop) : State → Prop := fun t =>
  ∃ o, t.status = .running ∧ Ended t below o ∧ vx_Q Qc XC mc ms free a s o t
theorem vx_ret {g : JFrame} {mc ms : Nat} (k : W p l e R s m args below meth c H locs cells slots (MQ below Qc args s mc ms free) g) : W p l e R s m args below meth c H locs cells slots (vx_MQ below Qc XC args s mc ms free) g := by
  intro T hT X
  obtain ⟨t, a1, o, b1, b2, b3, b4⟩ := k T hT X
  exact ⟨t, a1, o, b1, b2, Or.inl ⟨b3, b4⟩⟩
/-- not caught here: it goes on to the caller -/
theorem vx_widen {g : JFrame} {q : Addr} {k n : Nat} (h1 : cells ≤ k) (h2 : slots ≤ n) (kk : vx_W p l e R s m args below meth c H locs k n Q g q) : vx_W p l e R s m args below meth c H locs cells slots Q g q := fun T hT X => kk T hT (stand_widen X h1 h2)
theorem vx_out {pc : Nat} {E : String} {ce : Cell} {q : Addr} {mc ms : Nat} (hout : ∀ x ∈ c.exceptionTable.toList, covers x pc = false) (hlocks : meth.locks = false) (hcell : H[q]? = some ce) (hv : ce.vm = .none) (hcl : s.vm.findClass E = some ce.cls)
    (hx : ∀ t : State, t.heap = H → s.vm.Alike t.vm → XC E s t) (hf : ∀ z ∈ locs, free z.base) (hc : cells ≤ mc) (hs : slots ≤ ms) :
    vx_W p l e R s m args below meth c H locs cells slots (vx_MQ below Qc XC args s mc ms free) (F0 m pc ls rest) q := by
  intro T hT X
  obtain ⟨st1, hrun, hend, hW, hsm⟩ := X.leaveThrown q (g := F0 m pc ls rest) rfl rfl rfl hout hlocks
  have hcell9 : (T.setFrames (.throwing q :: below)).heap[q]? = some ce := by
    show T.heap[q]? = some ce
    rw [hT]; exact hcell
  exact ⟨_, st1, .threw q, hrun, hend, Or.inr ⟨q, rfl, E, ce, locs, hx _ hT hW.alike, hcell9, hv, hcl, hW, hsm.mono hc hs, hf⟩⟩
theorem vx_frame {U : State} {k n : Nat} (h : s.sameButNew ({ U with vm := s.vm } : State) locs k n) : s.heap.size ≤ U.heap.size ∧ ∀ q : Nat, q < s.heap.size → (∀ z ∈ locs, z.base ≠ q) → U.heap[q]? = s.heap[q]? := by
  obtain ⟨-, h2, -, -, -, h6⟩ := h
  refine ⟨h2, fun q hq hz => ?_⟩
  obtain ⟨c9, e1, e2, e3, e4⟩ := h6 q _ (Array.getElem?_eq_getElem hq)
  have hs : c9.slots = (s.heap[q]).slots := Array.ext_getElem? fun i => e4 i fun hm => hz _ hm rfl
  have h9 : c9 = s.heap[q] := by
    rw [hs] at e2
    exact e2
  have e5 : U.heap[q]? = some c9 := e1
  rw [e5, h9, Array.getElem?_eq_getElem hq]
/-- the words of a throw but the four that speak of the heap -/
def vx_no (w : Cond) : Bool := decide (w ≠ .isRef (.static Bundle.tN "UNASSIGNED_STACK" Bundle.steD)) && decide (w ≠ .isRef (.static Bundle.tN "SUPPRESSED_SENTINEL" Bundle.listD)) && decide (w ≠ .laysStatic Bundle.tN "UNASSIGNED_STACK" Bundle.steD) && decide (w ≠ .laysStatic Bundle.tN "SUPPRESSED_SENTINEL" Bundle.listD)
def vx_at0 (own : String) (ic : Nat) (X : String) (names : List String) : List Cond := (Bundle.ownAtoms0 own ic X names).filter vx_no
def vx_atS (own : String) (ic : Nat) (X : String) (names : List String) : List Cond := (Bundle.ownAtoms own ic X names).filter vx_no
/-- a word that the tables alone decide, or a good one -/
def vx_ot (w : Cond) : Bool := w.onTables || goodWord w
theorem vx_ot_at {args a' : Array Value} {s U : State} {w : Cond} (hW : s.WarmedH U.vm) (hvm : s.vm = U.vm) (hg : vx_ot w = true) (h : w.before args s = true) : w.before a' U = true := by
  simp only [vx_ot, Bool.or_eq_true] at hg
  rcases hg with hg | hg
  · exact va_tabs hg hvm h
  · exact word_at hW (good_of_word hg) h
/-- a list's words: the good ones out of the method's own list, the others by premises of their own -/
theorem vx_hat {args : Array Value} {s : State} {L B : List Cond} (h1 : ∀ w ∈ L.filter goodWord, w.before args s = true) (h2 : ∀ w ∈ L.filter (fun w => !goodWord w), w ∈ B) (h3 : ∀ w ∈ B, w.before args s = true) : ∀ w ∈ L, w.before args s = true := by
  intro w hw
  by_cases g : goodWord w = true
  · exact h1 w (List.mem_filter.mpr ⟨hw, g⟩)
  · refine h3 w (h2 w (List.mem_filter.mpr ⟨hw, ?_⟩))
    show (!goodWord w) = true
    cases hgw : goodWord w
    · rfl
    · exact absurd hgw g
theorem vx_c {args : Array Value} {s : State} {w : Cond} {B : List Cond} (h : w.before args s = true) (t : ∀ w ∈ B, w.before args s = true) : ∀ w' ∈ w :: B, w'.before args s = true := fun w' h' => (List.mem_cons.mp h').elim (fun e => by rw [e]; exact h) (t w')
theorem vx_n {args : Array Value} {s : State} : ∀ w ∈ ([] : List Cond), w.before args s = true := fun _ h => nomatch h
theorem vx_own {args : Array Value} {s : State} {L : List Cond} (h1 : ∀ w ∈ L.filter vx_no, w.before args s = true)
    (hU : (Cond.isRef (.static Bundle.tN "UNASSIGNED_STACK" Bundle.steD)).before args s = true) (hN : (Cond.isRef (.static Bundle.tN "SUPPRESSED_SENTINEL" Bundle.listD)).before args s = true)
    (lU : (Cond.laysStatic Bundle.tN "UNASSIGNED_STACK" Bundle.steD).before args s = true) (lN : (Cond.laysStatic Bundle.tN "SUPPRESSED_SENTINEL" Bundle.listD).before args s = true) : ∀ w ∈ L, w.before args s = true := by
  intro w hw
  by_cases e1 : w = .isRef (.static Bundle.tN "UNASSIGNED_STACK" Bundle.steD)
  · rw [e1]; exact hU
  · by_cases e2 : w = .isRef (.static Bundle.tN "SUPPRESSED_SENTINEL" Bundle.listD)
    · rw [e2]; exact hN
    · by_cases e3 : w = .laysStatic Bundle.tN "UNASSIGNED_STACK" Bundle.steD
      · rw [e3]; exact lU
      · by_cases e4 : w = .laysStatic Bundle.tN "SUPPRESSED_SENTINEL" Bundle.listD
        · rw [e4]; exact lN
        · exact h1 w (List.mem_filter.mpr ⟨hw, by unfold vx_no; rw [decide_eq_true e1, decide_eq_true e2, decide_eq_true e3, decide_eq_true e4]; rfl⟩)
/-- where a static field lies, its class's statics cell in H -/
def vx_L (C n d : String) (A : Nat → Prop) (U : State) (H : Heap) : Prop := ∃ (c : ClassId) (k : Class) (i : Nat) (f : Field) (a : Nat) (cell : Cell), U.vm.findClass C = some c ∧ U.fieldFound? C n d = some (c, k, i, f) ∧ f.isStatic = true ∧ k.statics = some a ∧ H[a]? = some cell ∧ cell.vm.isStatics = true ∧ cell.cls = c ∧ f.slot < cell.slots.size ∧ k.staticTypes[f.slot]? = some f.type ∧ ¬ A a
theorem vx_L.moved {C n d : String} {A : Nat → Prop} {u U : State} {H : Heap} (hvm : u.vm.Alike U.vm) (h : vx_L C n d A u H) : vx_L C n d A U H := by
  obtain ⟨c, k, i, f, a, cell, h1, h2, h3, h4, h5, h6, h7, h8, h9, h10⟩ := h
  obtain ⟨k', hi', he⟩ := State.fieldFound?_setVm hvm h2
  exact ⟨c, k', i, f, a, cell, by rw [hvm.findClass]; exact h1, hi', h3, by rw [he]; exact h4, h5, h6, h7, h8, by rw [he]; exact h9, h10⟩
theorem vx_L.kept {C n d : String} {A : Nat → Prop} {U : State} {H H1 : Heap} (h : vx_L C n d A U H) (hq : ∀ a : Nat, a < H.size → ¬ A a → H1[a]? = H[a]?) : vx_L C n d A U H1 := by
  obtain ⟨c, k, i, f, a, cell, h1, h2, h3, h4, h5, h6, h7, h8, h9, h10⟩ := h
  exact ⟨c, k, i, f, a, cell, h1, h2, h3, h4, by rw [hq a (Array.getElem?_eq_some_iff.mp h5).1 h10]; exact h5, h6, h7, h8, h9, h10⟩
theorem vx_L.narrow {C n d : String} {A B : Nat → Prop} {U : State} {H : Heap} (h : vx_L C n d A U H) (hAB : ∀ q, B q → A q) : vx_L C n d B U H := by
  obtain ⟨c, k, i, f, a, cell, h1, h2, h3, h4, h5, h6, h7, h8, h9, h10⟩ := h
  exact ⟨c, k, i, f, a, cell, h1, h2, h3, h4, h5, h6, h7, h8, h9, fun z => h10 (hAB _ z)⟩
theorem vx_L.word {C n d : String} {A : Nat → Prop} {s : State} {args : Array Value} (h : vx_L C n d A s s.heap) : (Cond.laysStatic C n d).before args s = true := by
  obtain ⟨c, k, i, f, a, cell, h1, h2, h3, h4, h5, h6, h7, h8, h9, -⟩ := h
  show (Cond.laysStatic C n d).holds args s none s [] = true
  exact Cond.laysStatic_of h1 h2 h3 h4 h5 h6 h7 h8 h9
/-- .. and what it holds: null or some reference -/
def vx_Zq (C n d : String) (A : Nat → Prop) (U : State) (H : Heap) : Prop := va_Zq C n d A U H ∧ vx_L C n d A U H
theorem vx_Zq.moved {C n d : String} {A : Nat → Prop} {u U : State} {H : Heap} (hvm : u.vm.Alike U.vm) (h : vx_Zq C n d A u H) : vx_Zq C n d A U H := ⟨va_Zq.moved hvm h.1, vx_L.moved hvm h.2⟩
theorem vx_Zq.kept {C n d : String} {A : Nat → Prop} {U : State} {H H1 : Heap} (h : vx_Zq C n d A U H) (hq : ∀ a : Nat, a < H.size → ¬ A a → H1[a]? = H[a]?) : vx_Zq C n d A U H1 := ⟨va_Zq.kept h.1 hq, vx_L.kept h.2 hq⟩
theorem vx_Zq.narrow {C n d : String} {A B : Nat → Prop} {U : State} {H : Heap} (h : vx_Zq C n d A U H) (hAB : ∀ q, B q → A q) : vx_Zq C n d B U H := ⟨va_Zq.narrow h.1 hAB, vx_L.narrow h.2 hAB⟩
theorem vx_Zqof {args : Array Value} {s : State} {C n d : String} {A : Nat → Prop} (hl : (Cond.laysStatic C n d).before args s = true) (hini : (Cond.initialized C).before args s = true) (h : (Cond.isRef (.static C n d)).before args s = true) (hA : ∀ a : Nat, a < s.heap.size → ¬ A a) : vx_Zq C n d A s s.heap := by
  refine ⟨va_Zqof hl hini h hA, ?_⟩
  obtain ⟨c, k, i, f, a, cell, h1, h2, h3, h4, h5, h6, h7, h8, h9⟩ := Cond.laysStatic_spec hl
  exact ⟨c, k, i, f, a, cell, h1, h2, h3, h4, h5, h6, h7, h8, h9, hA a (Array.getElem?_eq_some_iff.mp h5).1⟩
theorem vx_isRef {C n d : String} {v : Value} {A : Nat → Prop} {s : State} {args : Array Value} (h : va_Z C n d v A s s.heap) (hv : v.isRef = true) : (Cond.isRef (.static C n d)).before args s = true := by
  obtain ⟨cf, kf, fi, f, a, cell, h1, h2, h3, h4, h5, h6, h7, -⟩ := h
  have he : (Term.static C n d).eval args s none [] s = some v := by
    simp [Term.eval, State.fieldNamed?, h1, h2, h4, h5, h6, h7]
  simp only [Cond.before, Cond.holds, Cond.value, he]
  cases v <;> simp_all [Value.isRef]
theorem vx_isRefq {C n d : String} {A : Nat → Prop} {s : State} {args : Array Value} (h : va_Zq C n d A s s.heap) : (Cond.isRef (.static C n d)).before args s = true := by
  rcases h with h | ⟨t, h⟩
  · exact vx_isRef h rfl
  · exact vx_isRef h rfl
/-- the same frame, seen from here: as if the method were called anew in this heap -/
theorem vx_rebase {T : State} (X : Stand p l e R s m args below meth c T locs cells slots) {R' : Room} (hf : R'.frames ≤ R.frames) (hl : R'.locals ≤ R.locals) (hc : cells + R'.cells ≤ R.cells) (hs : slots + R'.slots ≤ R.slots) :
    Stand p l e R' ((T.setVm s.vm).setFrames (.invoking m args :: below)) m args below meth c T [] 0 0 := by
  have htop : (T.setVm s.vm).topJava?.isSome := X.here.top
  have hF : ((T.setVm s.vm).setFrames (.invoking m args :: below)).frames = .invoking m args :: below := State.frames_setFrames _ (State.cur_lt_of_top htop)
  obtain ⟨g₀, hg0⟩ := Option.isSome_iff_exists.mp htop
  obtain ⟨r, hr⟩ := State.topJava?_eq_some.mp hg0
  have hl9 : e.platform.stackLimits (T.setVm s.vm).me = e.platform.stackLimits s.me := X.limits
  have hb9 : (T.setVm s.vm).me.stackBytes = s.me.stackBytes := X.bytes
  refine ⟨X.admits, X.cas, X.clock, hF, ?_, X.hears, X.method, X.code, X.here, X.tail, X.warmed, ?_, ?_, ?_⟩
  · have h := X.room
    have hU : ((T.setVm s.vm).setFrames (.invoking m args :: below)).localsInUse = s.localsInUse := by
      rw [State.localsInUse_invoking hF (meth := meth) (c := c) X.method X.code, State.localsInUse_invoking X.frames X.method X.code]
    simp only [State.hasRoom, Bool.and_eq_true, decide_eq_true_eq] at h ⊢
    obtain ⟨⟨⟨⟨h1, h2, h3, h4, h5, h6⟩, h7⟩, h8⟩, h9⟩ := h
    rw [X.frames, List.length_cons] at h2 h3
    have q1 := X.heapSize
    have q2 := X.used
    simp only [hF, hU, List.length_cons, State.stackLimits_setFrames, State.stackBytes_setFrames, hl9, hb9]
    refine ⟨⟨⟨⟨by omega, by omega, by omega, by omega, by omega, h6⟩, ?_⟩, ?_⟩, X.book⟩
    · show T.heap.size + R'.cells ≤ e.platform.maxCells
      omega
    · show T.slotsUsed + R'.slots ≤ e.platform.maxSlots
      omega
  · rw [State.stackLimits_setFrames]; rfl
  · rw [State.stackBytes_setFrames]; rfl
  · refine ⟨?_, Nat.le_refl _, Nat.le_refl _, ?_, ?_, fun a c9 h9 => ⟨c9, h9, rfl, rfl, fun _ _ => rfl⟩⟩
    · obtain ⟨t, ht, -⟩ := State.frames_cons hr
      show T.setVm s.vm = { ((T.setVm s.vm).setFrames (.invoking m args :: below)).setFrames (T.setVm s.vm).frames with heap := T.heap, slotsUsed := T.slotsUsed }
      rw [State.setFrames_setFrames, State.setFrames_self ht]
      rfl
    · show T.slotsUsed = T.slotsUsed + ((T.heap.toList.drop T.heap.size).map (·.slots.size)).sum
      rw [List.drop_eq_nil_of_le (Nat.le_of_eq Array.length_toList)]
      rfl
    · show ((T.heap.toList.drop T.heap.size).map (·.slots.size)).sum ≤ 0
      rw [List.drop_eq_nil_of_le (Nat.le_of_eq Array.length_toList)]
      exact Nat.le_refl _
/-- 'throw new E()': new; dup; invokespecial; athrow -/
theorem vx_throw0 {cc : ByteArray} {pc : Nat} (hexec : p.tables.exec = Jvm.exec) (hb : c.code = cc) (hl : l.stackTraces = false) {own cls : String} {names : List String} {ik ic mc ms : Nat} {A : Nat → Prop}
    (hown : s.vm.findClass own = some m.cls) (hcls : Bundle.fit cls = true) (hnames : ∀ n ∈ names, Bundle.fit n = true)
    (hk : (Cond.classLink own ik cls).before args s = true) (hini : (Cond.initialized cls).before args s = true) (hat : ∀ w ∈ vx_at0 own ic cls names, w.before args s = true)
    (hgood : ∀ w ∈ Cond.classLink own ik cls :: Cond.initialized cls :: vx_at0 own ic cls names, vx_ot w = true)
    (hU : vx_Zq Bundle.tN "UNASSIGNED_STACK" Bundle.steD A s s.heap) (hN : vx_Zq Bundle.tN "SUPPRESSED_SENTINEL" Bundle.listD A s s.heap) (hS : va_S A s.heap H locs) (hsize : ls.size = c.maxLocals)
    (d0 : decode cc pc = .ok (.new ik, 3)) (d3 : decode cc (pc + 3) = .ok (.dup, 1)) (d4 : decode cc (pc + 4) = .ok (.invokespecial ic, 3)) (d7 : decode cc (pc + 7) = .ok (.athrow, 1))
    (hout : ∀ x ∈ c.exceptionTable.toList, covers x (pc + 7) = false)
    (hRframes : names.length + 3 < R.frames) (hRlocals : (rest.map fun v => v.category).sum + (13 * (names.length + 1) + 42) ≤ R.locals) (hRcells : cells + 1 ≤ R.cells) (hRslots : slots + 6 ≤ R.slots) (hlocks : meth.locks = false)
    (hx : ∀ t : State, s.vm.Alike t.vm → H.size ≤ t.heap.size → (∀ q : Nat, q < H.size → t.heap[q]? = H[q]?) → XC cls s t)
    (hf : ∀ z ∈ locs, free z.base) (hc : cells + 1 ≤ mc) (hs : slots + 6 ≤ ms) :
    W p l e R s m args below meth c H locs cells slots (vx_MQ below Qc XC args s mc ms free) (F0 m pc ls rest) := by
  intro T hT X
  have htr : e.platform.stackTraces = false := (show e.platform.stackTraces = l.stackTraces by rw [X.admits.platform]).trans hl
  have Y := vx_rebase X (R' := { frames := R.frames, locals := R.locals, cells := 1, slots := 6 }) (Nat.le_refl _) (Nat.le_refl _) hRcells hRslots
  obtain ⟨s', hA⟩ : ∃ z, z = (T.setVm s.vm).setFrames (.invoking m args :: below) := ⟨_, rfl⟩
  rw [← hA] at Y
  have hvm : s'.vm = s.vm := by rw [hA]; rfl
  have hhp : s'.heap = H := by rw [hA]; exact hT
  have hW0 : s.WarmedH s'.vm := by rw [hvm]; exact State.WarmedH.refl s
  have hat' : ∀ w ∈ vx_at0 own ic cls names, w.before args s' = true := fun w hw => vx_ot_at hW0 hvm.symm (hgood w (List.mem_cons_of_mem _ (List.mem_cons_of_mem _ hw))) (hat w hw)
  have hk' : (Cond.classLink own ik cls).before args s' = true := vx_ot_at hW0 hvm.symm (hgood _ List.mem_cons_self) hk
  have hini' : (Cond.initialized cls).before args s' = true := vx_ot_at hW0 hvm.symm (hgood _ (List.mem_cons_of_mem _ List.mem_cons_self)) hini
  have hU' : vx_Zq Bundle.tN "UNASSIGNED_STACK" Bundle.steD A s' s'.heap := by rw [hhp]; exact vx_Zq.moved hW0.alike (hU.kept hS.2.1)
  have hN' : vx_Zq Bundle.tN "SUPPRESSED_SENTINEL" Bundle.listD A s' s'.heap := by rw [hhp]; exact vx_Zq.moved hW0.alike (hN.kept hS.2.1)
  have h : ∀ w ∈ Bundle.ownAtoms0 own ic cls names, w.before args s' = true := vx_own hat' (vx_isRefq hU'.1) (vx_isRefq hN'.1) hU'.2.word hN'.2.word
  have hown' : s'.vm.findClass own = some m.cls := by rw [hvm]; exact hown
  have hins : (Cond.instantiable cls 6).before args s' = true := h _ (by simp [Bundle.ownAtoms0])
  obtain ⟨vm₁, cX, kX, hfX, hkX, -, -, X₁, st1⟩ := Y.newCold hexec (own := own) (C := cls) (index := ik) (n := 6) hown' hk' hins hini'
    (g := F0 m pc ls rest) rfl (by rw [hb]; exact d0) (Nat.le_refl _) (Nat.le_refl _)
  generalize hT1 : (T.setVm vm₁).pushCell { cls := cX, slots := kX.instanceTypes.map defaultValue, vm := .none } = T1 at X₁ st1
  have hcat : (Value.ref T.heap.size).category = 1 := rfl
  have hcellA : T1.heap[T.heap.size]? = some (freshCell cX kX) := by rw [← hT1]; exact State.heap_pushCell_size _ _
  have d3' : decode c.code (pc + 3) = .ok (.dup, 1) := by rw [hb]; exact d3
  obtain ⟨U, hsteps, hrun, hend, hW, hsame, ce, hce, hO⟩ := X₁.ctorThrow0 hexec htr (own := own) (cls := cls) (names := names) (ic := ic) hown' hcls hnames h (fun x hx => nomatch hx) hfX hkX hcellA (by rw [hhp, hT]; exact Nat.le_refl _)
    (g := { method := m, pc := pc + 4, locals := ls, stack := .ref T.heap.size :: .ref T.heap.size :: rest, locked := none }) rfl hsize rfl rfl (rest := rest) rfl
    (by rw [hb]; exact d4) (by rw [hb]; exact d7) hout hRframes (by simp only [List.map_cons, List.sum_cons, hcat]; omega) hlocks
  obtain ⟨f1, f2⟩ := vx_frame hsame
  rw [hhp] at f1 f2
  have hWs : s.WarmedH U.vm := State.WarmedH.trans hW0 hW
  have hcl : s.vm.findClass cls = some ce.cls := by
    have h9 := hO.cls
    rw [hvm] at h9
    exact h9
  have hall : s.sameButNew ({ U with vm := s.vm } : State) locs mc ms := by
    subst hA
    obtain ⟨e1, e2⟩ := hsame
    rw [State.setFrames_setFrames] at e1
    have h2 : (T.setVm s.vm).sameButNew ({ U with vm := s.vm } : State) [] (0 + 1) (0 + 6) := ⟨e1, e2⟩
    have h3 := X.same.trans h2
    rw [List.append_nil] at h3
    exact h3.mono hc hs
  refine ⟨U, ?_, .threw T.heap.size, hrun, hend, Or.inr ⟨T.heap.size, rfl, cls, ce, locs, hx U hWs.alike f1 (fun q hq => f2 q hq (fun z hz => nomatch hz)), hce, hO.vm, hcl, hWs, hall, hf⟩⟩
  refine st1 _ ?_
  show Steps p.tables e below (T1.setTop { method := m, pc := pc + 3, locals := ls, stack := .ref T.heap.size :: rest, locked := none }) _
  jvm_step X₁.here [X₁.here.top, hexec, d3', Value.category]
  exact hsteps
/-- 'throw new E("text")': new; dup; ldc; invokespecial; athrow -/
theorem vx_throwS {cc : ByteArray} {pc : Nat} (hexec : p.tables.exec = Jvm.exec) (hb : c.code = cc) (hl : l.stackTraces = false) {own cls text : String} {names : List String} {ik is ic mc ms sa : Nat} {A : Nat → Prop}
    (hown : s.vm.findClass own = some m.cls) (hcls : Bundle.fit cls = true) (hnames : ∀ n ∈ names, Bundle.fit n = true)
    (hk : (Cond.classLink own ik cls).before args s = true) (hini : (Cond.initialized cls).before args s = true) (hstr : vk_R own is text sa s) (hat : ∀ w ∈ vx_atS own ic cls names, w.before args s = true)
    (hgood : ∀ w ∈ Cond.classLink own ik cls :: Cond.initialized cls :: vx_atS own ic cls names, vx_ot w = true)
    (hU : vx_Zq Bundle.tN "UNASSIGNED_STACK" Bundle.steD A s s.heap) (hN : vx_Zq Bundle.tN "SUPPRESSED_SENTINEL" Bundle.listD A s s.heap) (hS : va_S A s.heap H locs) (hsize : ls.size = c.maxLocals)
    (d0 : decode cc pc = .ok (.new ik, 3)) (d3 : decode cc (pc + 3) = .ok (.dup, 1)) (d4 : decode cc (pc + 4) = .ok (.ldc is, 2)) (d6 : decode cc (pc + 6) = .ok (.invokespecial ic, 3)) (d9 : decode cc (pc + 9) = .ok (.athrow, 1))
    (hout : ∀ x ∈ c.exceptionTable.toList, covers x (pc + 9) = false)
    (hRframes : names.length + 3 < R.frames) (hRlocals : (rest.map fun v => v.category).sum + (13 * (names.length + 1) + 43) ≤ R.locals) (hRcells : cells + 1 ≤ R.cells) (hRslots : slots + 6 ≤ R.slots) (hlocks : meth.locks = false)
    (hx : ∀ t : State, s.vm.Alike t.vm → H.size ≤ t.heap.size → (∀ q : Nat, q < H.size → t.heap[q]? = H[q]?) → XC cls s t)
    (hf : ∀ z ∈ locs, free z.base) (hc : cells + 1 ≤ mc) (hs : slots + 6 ≤ ms) :
    W p l e R s m args below meth c H locs cells slots (vx_MQ below Qc XC args s mc ms free) (F0 m pc ls rest) := by
  intro T hT X
  have htr : e.platform.stackTraces = false := (show e.platform.stackTraces = l.stackTraces by rw [X.admits.platform]).trans hl
  have Y := vx_rebase X (R' := { frames := R.frames, locals := R.locals, cells := 1, slots := 6 }) (Nat.le_refl _) (Nat.le_refl _) hRcells hRslots
  obtain ⟨s', hA⟩ : ∃ z, z = (T.setVm s.vm).setFrames (.invoking m args :: below) := ⟨_, rfl⟩
  rw [← hA] at Y
  have hvm : s'.vm = s.vm := by rw [hA]; rfl
  have hhp : s'.heap = H := by rw [hA]; exact hT
  have hW0 : s.WarmedH s'.vm := by rw [hvm]; exact State.WarmedH.refl s
  have hat' : ∀ w ∈ vx_atS own ic cls names, w.before args s' = true := fun w hw => vx_ot_at hW0 hvm.symm (hgood w (List.mem_cons_of_mem _ (List.mem_cons_of_mem _ hw))) (hat w hw)
  have hk' : (Cond.classLink own ik cls).before args s' = true := vx_ot_at hW0 hvm.symm (hgood _ List.mem_cons_self) hk
  have hini' : (Cond.initialized cls).before args s' = true := vx_ot_at hW0 hvm.symm (hgood _ (List.mem_cons_of_mem _ List.mem_cons_self)) hini
  have hU' : vx_Zq Bundle.tN "UNASSIGNED_STACK" Bundle.steD A s' s'.heap := by rw [hhp]; exact vx_Zq.moved hW0.alike (hU.kept hS.2.1)
  have hN' : vx_Zq Bundle.tN "SUPPRESSED_SENTINEL" Bundle.listD A s' s'.heap := by rw [hhp]; exact vx_Zq.moved hW0.alike (hN.kept hS.2.1)
  have h : ∀ w ∈ Bundle.ownAtoms own ic cls names, w.before args s' = true := vx_own hat' (vx_isRefq hU'.1) (vx_isRefq hN'.1) hU'.2.word hN'.2.word
  have hown' : s'.vm.findClass own = some m.cls := by rw [hvm]; exact hown
  have hins : (Cond.instantiable cls 6).before args s' = true := h _ (by simp [Bundle.ownAtoms])
  obtain ⟨vm₁, cX, kX, hfX, hkX, -, -, X₁, st1⟩ := Y.newCold hexec (own := own) (C := cls) (index := ik) (n := 6) hown' hk' hins hini'
    (g := F0 m pc ls rest) rfl (by rw [hb]; exact d0) (Nat.le_refl _) (Nat.le_refl _)
  generalize hT1 : (T.setVm vm₁).pushCell { cls := cX, slots := kX.instanceTypes.map defaultValue, vm := .none } = T1 at X₁ st1
  have hcat : (Value.ref T.heap.size).category = 1 := rfl
  have hcellA : T1.heap[T.heap.size]? = some (freshCell cX kX) := by rw [← hT1]; exact State.heap_pushCell_size _ _
  have d3' : decode c.code (pc + 3) = .ok (.dup, 1) := by rw [hb]; exact d3
  have d4' : decode c.code (pc + 4) = .ok (.ldc is, 2) := by rw [hb]; exact d4
  have hstr' : vk_R own is text sa s' := vk_R.warm hW0 hstr
  obtain ⟨U, hsteps, hrun, hend, hW, hsame, ce, hce, hO⟩ := X₁.ctorThrowS hexec htr (own := own) (cls := cls) (names := names) (ic := ic) hown' hcls hnames h (fun x hx => nomatch hx) hfX hkX hcellA (by rw [hhp, hT]; exact Nat.le_refl _) (msg := .ref sa) rfl
    (g := { method := m, pc := pc + 6, locals := ls, stack := .ref sa :: .ref T.heap.size :: .ref T.heap.size :: rest, locked := none }) rfl hsize rfl rfl (rest := rest) rfl
    (by rw [hb]; exact d6) (by rw [hb]; exact d9) hout hRframes (by simp only [List.map_cons, List.sum_cons, hcat]; omega) hlocks
  obtain ⟨f1, f2⟩ := vx_frame hsame
  rw [hhp] at f1 f2
  have hWs : s.WarmedH U.vm := State.WarmedH.trans hW0 hW
  have hcl : s.vm.findClass cls = some ce.cls := by
    have h9 := hO.cls
    rw [hvm] at h9
    exact h9
  have hall : s.sameButNew ({ U with vm := s.vm } : State) locs mc ms := by
    subst hA
    obtain ⟨e1, e2⟩ := hsame
    rw [State.setFrames_setFrames] at e1
    have h2 : (T.setVm s.vm).sameButNew ({ U with vm := s.vm } : State) [] (0 + 1) (0 + 6) := ⟨e1, e2⟩
    have h3 := X.same.trans h2
    rw [List.append_nil] at h3
    exact h3.mono hc hs
  refine ⟨U, ?_, .threw T.heap.size, hrun, hend, Or.inr ⟨T.heap.size, rfl, cls, ce, locs, hx U hWs.alike f1 (fun q hq => f2 q hq (fun z hz => nomatch hz)), hce, hO.vm, hcl, hWs, hall, hf⟩⟩
  refine st1 _ ?_
  show Steps p.tables e below (T1.setTop { method := m, pc := pc + 3, locals := ls, stack := .ref T.heap.size :: rest, locked := none }) _
  jvm_step X₁.here [X₁.here.top, hexec, d3', Value.category]
  exact X₁.ldcString hexec (own := own) (text := text) (index := is) (a := sa) hown' hstr'.1 hstr'.2
    (g := { method := m, pc := pc + 4, locals := ls, stack := .ref T.heap.size :: .ref T.heap.size :: rest, locked := none }) rfl d4' _ hsteps
/-- 'throw new E("text")', the text by a wide index -/
theorem vx_throwSW {cc : ByteArray} {pc : Nat} (hexec : p.tables.exec = Jvm.exec) (hb : c.code = cc) (hl : l.stackTraces = false) {own cls text : String} {names : List String} {ik is ic mc ms sa : Nat} {A : Nat → Prop}
    (hown : s.vm.findClass own = some m.cls) (hcls : Bundle.fit cls = true) (hnames : ∀ n ∈ names, Bundle.fit n = true)
    (hk : (Cond.classLink own ik cls).before args s = true) (hini : (Cond.initialized cls).before args s = true) (hstr : vk_R own is text sa s) (hat : ∀ w ∈ vx_atS own ic cls names, w.before args s = true)
    (hgood : ∀ w ∈ Cond.classLink own ik cls :: Cond.initialized cls :: vx_atS own ic cls names, vx_ot w = true)
    (hU : vx_Zq Bundle.tN "UNASSIGNED_STACK" Bundle.steD A s s.heap) (hN : vx_Zq Bundle.tN "SUPPRESSED_SENTINEL" Bundle.listD A s s.heap) (hS : va_S A s.heap H locs) (hsize : ls.size = c.maxLocals)
    (d0 : decode cc pc = .ok (.new ik, 3)) (d3 : decode cc (pc + 3) = .ok (.dup, 1)) (d4 : decode cc (pc + 4) = .ok (.ldc_w is, 3)) (d7 : decode cc (pc + 7) = .ok (.invokespecial ic, 3)) (d10 : decode cc (pc + 10) = .ok (.athrow, 1))
    (hout : ∀ x ∈ c.exceptionTable.toList, covers x (pc + 10) = false)
    (hRframes : names.length + 3 < R.frames) (hRlocals : (rest.map fun v => v.category).sum + (13 * (names.length + 1) + 43) ≤ R.locals) (hRcells : cells + 1 ≤ R.cells) (hRslots : slots + 6 ≤ R.slots) (hlocks : meth.locks = false)
    (hx : ∀ t : State, s.vm.Alike t.vm → H.size ≤ t.heap.size → (∀ q : Nat, q < H.size → t.heap[q]? = H[q]?) → XC cls s t)
    (hf : ∀ z ∈ locs, free z.base) (hc : cells + 1 ≤ mc) (hs : slots + 6 ≤ ms) :
    W p l e R s m args below meth c H locs cells slots (vx_MQ below Qc XC args s mc ms free) (F0 m pc ls rest) := by
  intro T hT X
  have htr : e.platform.stackTraces = false := (show e.platform.stackTraces = l.stackTraces by rw [X.admits.platform]).trans hl
  have Y := vx_rebase X (R' := { frames := R.frames, locals := R.locals, cells := 1, slots := 6 }) (Nat.le_refl _) (Nat.le_refl _) hRcells hRslots
  obtain ⟨s', hA⟩ : ∃ z, z = (T.setVm s.vm).setFrames (.invoking m args :: below) := ⟨_, rfl⟩
  rw [← hA] at Y
  have hvm : s'.vm = s.vm := by rw [hA]; rfl
  have hhp : s'.heap = H := by rw [hA]; exact hT
  have hW0 : s.WarmedH s'.vm := by rw [hvm]; exact State.WarmedH.refl s
  have hat' : ∀ w ∈ vx_atS own ic cls names, w.before args s' = true := fun w hw => vx_ot_at hW0 hvm.symm (hgood w (List.mem_cons_of_mem _ (List.mem_cons_of_mem _ hw))) (hat w hw)
  have hk' : (Cond.classLink own ik cls).before args s' = true := vx_ot_at hW0 hvm.symm (hgood _ List.mem_cons_self) hk
  have hini' : (Cond.initialized cls).before args s' = true := vx_ot_at hW0 hvm.symm (hgood _ (List.mem_cons_of_mem _ List.mem_cons_self)) hini
  have hU' : vx_Zq Bundle.tN "UNASSIGNED_STACK" Bundle.steD A s' s'.heap := by rw [hhp]; exact vx_Zq.moved hW0.alike (hU.kept hS.2.1)
  have hN' : vx_Zq Bundle.tN "SUPPRESSED_SENTINEL" Bundle.listD A s' s'.heap := by rw [hhp]; exact vx_Zq.moved hW0.alike (hN.kept hS.2.1)
  have h : ∀ w ∈ Bundle.ownAtoms own ic cls names, w.before args s' = true := vx_own hat' (vx_isRefq hU'.1) (vx_isRefq hN'.1) hU'.2.word hN'.2.word
  have hown' : s'.vm.findClass own = some m.cls := by rw [hvm]; exact hown
  have hins : (Cond.instantiable cls 6).before args s' = true := h _ (by simp [Bundle.ownAtoms])
  obtain ⟨vm₁, cX, kX, hfX, hkX, -, -, X₁, st1⟩ := Y.newCold hexec (own := own) (C := cls) (index := ik) (n := 6) hown' hk' hins hini'
    (g := F0 m pc ls rest) rfl (by rw [hb]; exact d0) (Nat.le_refl _) (Nat.le_refl _)
  generalize hT1 : (T.setVm vm₁).pushCell { cls := cX, slots := kX.instanceTypes.map defaultValue, vm := .none } = T1 at X₁ st1
  have hcat : (Value.ref T.heap.size).category = 1 := rfl
  have hcellA : T1.heap[T.heap.size]? = some (freshCell cX kX) := by rw [← hT1]; exact State.heap_pushCell_size _ _
  have d3' : decode c.code (pc + 3) = .ok (.dup, 1) := by rw [hb]; exact d3
  have d4' : decode c.code (pc + 4) = .ok (.ldc_w is, 3) := by rw [hb]; exact d4
  have hstr' : vk_R own is text sa s' := vk_R.warm hW0 hstr
  obtain ⟨U, hsteps, hrun, hend, hW, hsame, ce, hce, hO⟩ := X₁.ctorThrowS hexec htr (own := own) (cls := cls) (names := names) (ic := ic) hown' hcls hnames h (fun x hx => nomatch hx) hfX hkX hcellA (by rw [hhp, hT]; exact Nat.le_refl _) (msg := .ref sa) rfl
    (g := { method := m, pc := pc + 7, locals := ls, stack := .ref sa :: .ref T.heap.size :: .ref T.heap.size :: rest, locked := none }) rfl hsize rfl rfl (rest := rest) rfl
    (by rw [hb]; exact d7) (by rw [hb]; exact d10) hout hRframes (by simp only [List.map_cons, List.sum_cons, hcat]; omega) hlocks
  obtain ⟨f1, f2⟩ := vx_frame hsame
  rw [hhp] at f1 f2
  have hWs : s.WarmedH U.vm := State.WarmedH.trans hW0 hW
  have hcl : s.vm.findClass cls = some ce.cls := by
    have h9 := hO.cls
    rw [hvm] at h9
    exact h9
  have hall : s.sameButNew ({ U with vm := s.vm } : State) locs mc ms := by
    subst hA
    obtain ⟨e1, e2⟩ := hsame
    rw [State.setFrames_setFrames] at e1
    have h2 : (T.setVm s.vm).sameButNew ({ U with vm := s.vm } : State) [] (0 + 1) (0 + 6) := ⟨e1, e2⟩
    have h3 := X.same.trans h2
    rw [List.append_nil] at h3
    exact h3.mono hc hs
  refine ⟨U, ?_, .threw T.heap.size, hrun, hend, Or.inr ⟨T.heap.size, rfl, cls, ce, locs, hx U hWs.alike f1 (fun q hq => f2 q hq (fun z hz => nomatch hz)), hce, hO.vm, hcl, hWs, hall, hf⟩⟩
  refine st1 _ ?_
  show Steps p.tables e below (T1.setTop { method := m, pc := pc + 3, locals := ls, stack := .ref T.heap.size :: rest, locked := none }) _
  jvm_step X₁.here [X₁.here.top, hexec, d3', Value.category]
  exact X₁.ldcStringW hexec (own := own) (text := text) (index := is) (a := sa) hown' hstr'.1 hstr'.2
    (g := { method := m, pc := pc + 4, locals := ls, stack := .ref T.heap.size :: .ref T.heap.size :: rest, locked := none }) rfl d4' _ hsteps
end Ends
section Bodies
variable {l : Launch}
theorem vx_ofW {y : MethodName} {ws ws' : List Cond} {rm : Room} {Pc : Array Value → State → Prop} {Qc : Array Value → State → Outcome → State → Prop} {XC : String → State → State → Prop} {mc ms : Nat} {free : Addr → Prop} {cc : ByteArray} {maxL : Nat} {ret : Option FieldType}
    (hy : plainName y.cls = true) (hw : ws = Cond.code y cc maxL ret :: ws')
    (body : ∀ p e s m args below meth c s₁, BodyLoose p l y (headSpec ws rm) cc maxL ret e s m args below meth c s₁ → c.maxLocals = maxL → (∀ x ∈ c.exceptionTable.toList, False) → Pc args s →
      W p l e (headSpec ws rm).room s m args below meth c s.heap [] 0 0 (vx_MQ below Qc XC args s mc ms free) (entryFrame m args maxL)) : vx_Met l y ws rm Pc Qc XC mc ms free := by
  refine MetFree.of_bodyS (code := cc) (maxLocals := maxL) (ret := ret) hy ?_ ?_
  · intro args s m h hn
    obtain ⟨meth, c, h1, h2, h3, h4, h5, h6, -, -⟩ := Cond.code_spec hn (atoms_spec (ws := ws) h _ (by rw [hw]; exact List.mem_cons_self))
    exact ⟨meth, c, h1, h2, h3, h4, h5, h6⟩
  · intro p e s m args below meth c s₁ B hml hP _
    have hh0 : s₁.heap = s.heap := by rw [B.state]; rfl
    have ht : ∀ x ∈ c.exceptionTable.toList, False := by
      obtain ⟨meth9, c9, h1, h2, -, -, -, -, h7, -⟩ := Cond.code_spec B.named (atoms_spec (ws := ws) B.pre _ (by rw [hw]; exact List.mem_cons_self))
      cases Option.some.inj (h1.symm.trans B.method)
      cases Option.some.inj (h2.symm.trans (Stand.of_body B).code)
      intro x hx
      rw [Array.isEmpty_iff.mp h7] at hx
      cases hx
    obtain ⟨t, a1, o, b1, b2, b3⟩ := body p e s m args below meth c s₁ B hml ht hP s₁ hh0 (Stand.of_body B)
    exact ⟨t, o, a1, b1, b2, b3⟩
/-- the table of a body with handlers -/
theorem vx_table {p : Program} {x y : MethodName} {S : Spec} {cc bytes : ByteArray} {maxL maxL' : Nat} {ret ret' : Option FieldType} {e : Env} {s s₁ : State} {m : MethodId} {args : Array Value} {below : List Frame} {meth : Method} {c : Code} {hh : List (Nat × Nat × Nat × Nat)}
    (B : BodyLoose p l y S cc maxL ret e s m args below meth c s₁) (h : (Cond.codeWith y bytes maxL' ret' hh).before args s = true) : c.exceptionTable.toList = tableOf hh := by
  obtain ⟨m9, meth9, c9, hn9, h1, h2, -, -, h6, -⟩ := Cond.codeWith_spec h
  cases Option.some.inj (hn9.symm.trans B.named)
  cases Option.some.inj (h1.symm.trans B.method)
  cases Option.some.inj (h2.symm.trans (Stand.of_body B).code)
  rw [← h6, table_eq]
end Bodies
end VXA
/-! ===== END ===== -/
/-! ===== BEGIN a static call of a method with an exception table ===== -/
section VXS
variable {p : Program} {l : Launch} {e : Env} {R : Room} {s : State} {m : MethodId} {args : Array Value} {below : List Frame} {meth : Method} {c : Code} {T : State} {H : Heap} {locs : List Loc} {cells slots : Nat}
abbrev vx_CSW (R : Room) (s : State) (args : Array Value) (own : String) (index : Nat) (y : MethodName) (bytes : ByteArray) (maxL : Nat) (ret : Option FieldType) (hh : List (Nat × Nat × Nat × Nat)) (ws : List Cond) (rm : Room) (mc ms n : Nat) : Prop :=
  (rm.cells = mc ∧ rm.slots = ms ∧ rm.frames + 1 ≤ R.frames ∧ 8 + (maxL + 11) + rm.locals ≤ R.locals ∧ (∀ w ∈ ws, ∀ (a' : Array Value) (U : State), s.WarmedH U.vm → w.before a' U = true) ∧ Cond.codeWith y bytes maxL ret hh ∈ ws) ∧
  (Cond.codeWith y bytes maxL ret hh).before args s = true ∧ (Cond.initialized y.cls).before args s = true ∧ (y.cls ≠ "java/lang/invoke/MethodHandle" ∧ y.cls ≠ "java/lang/invoke/VarHandle") ∧
  (∀ sig, parseMethodDescriptor y.desc = some sig → n = sig.parameters.length) ∧ (Cond.methodLink own index y).before args s = true ∧ (Cond.static y).before args s = true
theorem vx_cwSW {own : String} {index maxL mc ms : Nat} {y : MethodName} {bytes : ByteArray} {ret : Option FieldType} {hh : List (Nat × Nat × Nat × Nat)} {Ts ws ws' : List Cond} {rm : Room} (n : Nat) (ht : ∀ w ∈ Ts, w.before args s = true) (hT : GoodIn Ts (va_wsS own index y ws)) (hw : ws = Cond.codeWith y bytes maxL ret hh :: ws') (hrc : rm.cells = mc) (hrs : rm.slots = ms)
    (hd : y.cls ≠ "java/lang/invoke/MethodHandle" ∧ y.cls ≠ "java/lang/invoke/VarHandle" ∧ (parseMethodDescriptor y.desc).map (fun d => d.parameters.length) = some n) (hR : rm.frames + 1 ≤ R.frames ∧ 8 + (maxL + 11) + rm.locals ≤ R.locals) :
    vx_CSW R s args own index y bytes maxL ret hh ws rm mc ms n := by
  have ok : ∀ w ∈ va_wsS own index y ws, w.before args s = true := fun w h => ht w (hT w h).1
  have hG : GoodIn Ts ws := fun w h => hT w (by unfold va_wsS; exact List.mem_append_right _ h)
  have hc : Cond.codeWith y bytes maxL ret hh ∈ ws := by rw [hw]; exact List.mem_cons_self
  refine ⟨⟨hrc, hrs, hR.1, hR.2, pay_in ht hG, hc⟩, ht _ (hG _ hc).1, ok _ (by simp [va_wsS]), ⟨hd.1, hd.2.1⟩, fun sig h => ?_, ok _ (by simp [va_wsS]), ok _ (by simp [va_wsS])⟩
  have h2 := hd.2.2
  rw [h] at h2
  exact (Option.some.inj h2).symm
theorem vx_callSW (X : Stand p l e R s m args below meth c T locs cells slots) (hexec : p.tables.exec = Jvm.exec) {own : String} {index : Nat} {y : MethodName} {bytes : ByteArray} {maxL : Nat} {ret : Option FieldType} {hh : List (Nat × Nat × Nat × Nat)}
    (hown : s.vm.findClass own = some m.cls) (hlink : (Cond.methodLink own index y).before args s = true) (hstat : (Cond.static y).before args s = true) (hinit : (Cond.initialized y.cls).before args s = true)
    (hcode : (Cond.codeWith y bytes maxL ret hh).before args s = true) (hy : y.cls ≠ "java/lang/invoke/MethodHandle" ∧ y.cls ≠ "java/lang/invoke/VarHandle")
    {W9 : Nat} {Pre : Pt → Array Value → Prop} {Post : Pt → Array Value → Option Value → Pt → Prop} (hK : Back l R p e below s args y 3 W9 Pre Post)
    {g : JFrame} (hg : g.method = m) (hsize : g.locals.size = c.maxLocals) {argsL rest : List Value} (hlen : ∀ sig, parseMethodDescriptor y.desc = some sig → argsL.length = sig.parameters.length)
    (hstack : g.stack = argsL.reverse ++ rest) (hW : 2 * g.monitorRoom + (rest.map fun v => v.category).sum ≤ W9) (hdg : decode c.code g.pc = .ok (.invokestatic index, 3))
    (hpre : ∀ vm₁, s.WarmedH vm₁ → Pre ⟨T.setVm vm₁, locs, cells, slots⟩ argsL.toArray) :
    ∃ (v : Option Value) (vm₁ : Vm) (B : Pt), s.WarmedH vm₁ ∧ Stand p l e R s m args below meth c B.U B.locs B.cells B.slots ∧ Post ⟨T.setVm vm₁, locs, cells, slots⟩ argsL.toArray v B ∧
      ∀ target, Steps p.tables e below (B.U.setTop { g with pc := g.pc + 3, stack := v.toList ++ rest }) target → Steps p.tables e below (T.setTop g) target := by
  obtain ⟨mk, methM, cM, hnamed, hmethM, -, -, -, -, -, -, hsigM⟩ := Cond.codeWith_spec hcode
  have hstatic : methM.isStatic = true := Cond.static_spec hnamed hmethM hstat
  obtain ⟨kP, hkP, -⟩ := className_of_methodNamed hnamed
  have hinitP : kP.init = .initialized := Cond.initialized_spec (findClass_of_methodNamed hnamed) hkP hinit
  obtain ⟨vm₁, X₁, hstep₁⟩ := X.invokestatic hexec hown hlink hnamed hmethM hstatic hkP hinitP hy (g := g) hg (argsL := argsL) (rest := rest) (hlen _ hsigM) hstack hdg
  obtain ⟨v, B, X', hpost, hsteps⟩ := hK m meth c ⟨T.setVm vm₁, locs, cells, slots⟩ { g with stack := rest } (.invokestatic index) mk argsL.toArray X₁ hg hsize hdg hW (X₁.named hnamed) (hpre vm₁ X₁.warmed)
  exact ⟨v, vm₁, B, X₁.warmed, X', hpost, fun target h => hstep₁ _ fun acts => by rw [doInvoke_state]; exact hsteps.trans h⟩
theorem vx_runSW {y : MethodName} {bytes cc : ByteArray} {maxL nL mc ms n index : Nat} {ret : Option FieldType} {hh : List (Nat × Nat × Nat × Nat)} {ws : List Cond} {rm : Room} {Pc : Array Value → State → Prop} {Qc : Array Value → State → Outcome → State → Prop} {free : Addr → Prop} {Ts : List Cond} {own : String} {As rest : List Value} {g : JFrame}
    (S : CallFix p m c cc nL s args Ts own) (hM : Met l y ws rm Pc Qc mc ms free) (cw : vx_CSW R s args own index y bytes maxL ret hh ws rm mc ms n) (hp : PreS s H Pc As)
    (hg : g.method = m) (hn : As.length = n) (hsize : g.locals.size = nL) (hstack : g.stack = As.reverse ++ rest) (hW : 2 * g.monitorRoom + (rest.map fun v => v.category).sum ≤ 8) (hdg : decode cc g.pc = .ok (.invokestatic index, 3)) (hf : cells + mc ≤ R.cells ∧ slots + ms ≤ R.slots) :
    va_Run p l e R s m args below meth c H locs cells slots mc ms g rest (Qc As.toArray) (free) := by
  obtain ⟨⟨hrc, hrs, hfr, hlo, hws, hcw⟩, hcode, hini, hy, hlen, hl, hstt⟩ := cw
  have hK : Back l R p e below s args y 3 8 (PreOf R mc ms Pc) (PostOf Qc mc ms free) := va_backW (hh := hh) (bytes := bytes) (maxL := maxL) (ret := ret) hM hp.1 hrc hrs hfr hlo hws hcw (fun a' U hW => word_at hW (Or.inl (by first | rfl | simp [Cond.onTables, Cond.keeps, Cond.steady])) hini)
  obtain ⟨hx, hb, hml, ho, -⟩ := S
  intro T hT X
  obtain ⟨v, vm₁, ⟨U', l2, c2, s2⟩, hW₁, X', ⟨g', mk, t, L, e1, e2, hq, h1, hL, h2, h3⟩, st⟩ := vx_callSW X hx (hh := hh) (bytes := bytes) (maxL := maxL) (ret := ret) ho hl hstt hini hcode hy hK hg (hsize.trans hml.symm) (argsL := As) (rest := rest) (fun sig h => hn.trans (hlen sig h)) hstack hW (by rw [hb]; exact hdg)
    (fun vm₁ hW₁ => ⟨hf.1, hf.2, hp.2 (T.setVm vm₁) hT hW₁⟩)
  dsimp only [Pt.U, Pt.locs, Pt.cells, Pt.slots] at X' e1 e2 h1 h2 h3 st
  subst h1; subst h2; subst h3
  exact ⟨v, (T.setVm vm₁).calling g' mk As.toArray, t, U', L, hT, X', hL, e1, e2, hq, st⟩
/-- not caught here, past rows that name other classes: it goes on to the caller -/
theorem vx_outP {p : Program} {l : Launch} {e : Env} {R : Room} {s : State} {m : MethodId} {args : Array Value} {below : List Frame} {meth : Method} {c : Code} {H : Heap} {locs : List Loc} {cells slots : Nat} {free : Addr → Prop} {ls : Array Slot} {rest : List Value} {Qc : Array Value → State → Outcome → State → Prop} {XC : String → State → State → Prop}
    {pc : Nat} {own E : String} {ce : Cell} {q : Addr} {mc ms : Nat} (hown : s.vm.findClass own = some m.cls) (hlocks : meth.locks = false)
    (hpass : ∀ z ∈ c.exceptionTable.toList, covers z pc = false ∨ (z.catchType ≠ 0 ∧ ∃ nm : String, (Cond.classLink own z.catchType nm).before args s = true ∧ va_Nc E nm s)) (hcell : H[q]? = some ce) (hv : ce.vm = .none) (hcl : s.vm.findClass E = some ce.cls)
    (hx : ∀ t : State, t.heap = H → s.vm.Alike t.vm → XC E s t) (hf : ∀ z ∈ locs, free z.base) (hc : cells ≤ mc) (hs : slots ≤ ms) :
    vx_W p l e R s m args below meth c H locs cells slots (vx_MQ below Qc XC args s mc ms free) (F0 m pc ls rest) q := by
  intro T hT X
  have hpl : e.platform.magicAccessors = ({} : Platform).magicAccessors := by rw [X.admits.platform]
  obtain ⟨vm', hW', X', st⟩ := X.outThrough hlocks q (g := F0 m pc ls rest) rfl rfl rfl (cell := ce) (by rw [hT]; exact hcell) (by rw [hv]; rfl)
    (by obtain ⟨k9, h9, -⟩ := Vm.findClass_spec hcl; exact ⟨k9, h9⟩) (fun z hz => by
      rcases hpass z hz with h | ⟨hz0, nm, hl1, hn1⟩
      · exact Or.inl h
      · obtain ⟨c6, hc6, hcl6⟩ := Cond.classLink_spec hown hl1 e.platform hpl
        obtain ⟨a8, b8, h1, h2, h3⟩ := hn1
        cases Option.some.inj (h1.symm.trans hcl)
        cases Option.some.inj (h2.symm.trans hc6)
        exact Or.inr ⟨hz0, _, hcl6, h3⟩)
  obtain ⟨g₀, hfr⟩ := X'.frames_eq
  have hcell9 : ((T.setVm vm').setFrames (.throwing q :: below)).heap[q]? = some ce := by
    show T.heap[q]? = some ce
    rw [hT]; exact hcell
  have hend : Ended ((T.setVm vm').setFrames (.throwing q :: below)) below (.threw q) := State.frames_setFrames _ (State.cur_lt_of_frames hfr)
  refine ⟨(T.setVm vm').setFrames (.throwing q :: below), ?_, .threw q, X'.here.running, hend, Or.inr ⟨q, rfl, E, ce, locs, hx _ hT (X'.ends _).1.alike, hcell9, hv, hcl, (X'.ends _).1, (X'.ends _).2.mono hc hs, hf⟩⟩
  rw [X.pushThrowing_eq]
  exact st
/-- a thing of a world lies in the heap -/
theorem vx_lt {D : va_G} {cl : List vw_C} {ws : va_W} {H1 : Heap} (h : va_P D cl ws H1) {k : Nat} {q : Nat × va_E} (hk : ws[k]? = some q) : q.1 < H1.size := (h k q hk).lt
end VXS
/-! ===== END ===== -/
/-! ===== BEGIN methods with a table of their own: called by a name, returning or throwing ===== -/
section VXH
/-! vx_backW, vx_callVX, vx_callSX, vx_callVW, vx_runVW, vx_runVX, vx_runSX, vx_ofWH follow the same proofs as their sisters above (Free/Laws.lean, Shelf42/LK1.lean); vx_outP calls Shelf42/NT130.lean (outThrough). -/
section
variable {l : Launch} {R : Room} {p : Program} {e : Env} {below : List Frame} {s : State} {sargs : Array Value} {y : MethodName} {len W9 : Nat}
theorem vx_backW {ws : List Cond} {rm : Room} {Pc : Array Value → State → Prop} {Qc : Array Value → State → Outcome → State → Prop} {XC : String → State → State → Prop} {mc ms : Nat} {free : Addr → Prop} {bytes : ByteArray} {maxL : Nat} {ret : Option FieldType} {hh : List (Nat × Nat × Nat × Nat)}
    (hM : vx_Met l y ws rm Pc Qc XC mc ms free) (hblind : FrameBlind Pc) (hrc : rm.cells = mc) (hrs : rm.slots = ms)
    (hframes : rm.frames + 1 ≤ R.frames) (hlocals : W9 + (maxL + 11) + rm.locals ≤ R.locals)
    (hws : ∀ w ∈ ws, ∀ a' U, s.WarmedH U.vm → w.before a' U = true) (hcode : Cond.codeWith y bytes maxL ret hh ∈ ws) (hinit : ∀ a' U, s.WarmedH U.vm → (Cond.initialized y.cls).before a' U = true) :
    vx_Back l R p e below s sargs y len W9 (PreOf R mc ms Pc) (PostOf Qc mc ms free) (vx_Post XC mc ms free) := by
  intro m meth c A g ig mk a X hg hsize hdg hW hn hp
  have h1 : (headSpec ws rm).pre.before a A.U = true := atoms_intro fun w hw => hws w hw _ _ X.warmed
  have h2 : (Cond.codeWith y bytes maxL ret hh).before a A.U = true := hws _ hcode _ _ X.warmed
  have h3 : (Cond.initialized y.cls).before a A.U = true := hinit _ _ X.warmed
  have h4 : A.cells + (headSpec ws rm).room.cells ≤ R.cells := by rw [show (headSpec ws rm).room.cells = mc from hrc]; exact hp.1
  have h5 : A.slots + (headSpec ws rm).room.slots ≤ R.slots := by rw [show (headSpec ws rm).room.slots = ms from hrs]; exact hp.2.1
  have hPc : Pc a (A.U.calling g mk a) := hblind _ _ _ _ hp.2.2
  obtain ⟨U, Ls, c0, s0⟩ := A
  dsimp only [Pt.U, Pt.locs, Pt.cells, Pt.slots] at h1 h2 h3 h4 h5 X hn hPc ⊢
  obtain ⟨m9, methY, cY, hn9, hmY, hcY, -, hlY, -⟩ := Cond.codeWith_spec h2
  cases Option.some.inj (hn9.symm.trans hn)
  obtain ⟨kY, hkY, -⟩ := className_of_methodNamed hn
  have hinitY : kY.init = .initialized := Cond.initialized_spec (findClass_of_methodNamed hn) hkY h3
  have h : At U g.method c below := by rw [hg]; exact X.here
  have hlocals9 : W9 + (maxL + 11) + (headSpec ws rm).room.locals ≤ R.locals := hlocals
  have happ : (headSpec ws rm).appliesLoose y e.platform (U.calling g mk a) = true :=
    Spec.appliesLoose_calling (g := g) h hdg hn hkY hinitY
      (X.room_calling (g := g) (R' := (headSpec ws rm).room) hsize hmY hcY hframes (by rw [hlY]; omega) h4 h5) h1
  obtain ⟨mid, hmid⟩ := h.above
  have hfr : (U.setTop g).frames = (.java g :: mid) ++ below := by rw [State.frames_setTop' g h.top, hmid]; rfl
  obtain ⟨o, s₂, hsteps, -, hend, hq⟩ := Steps.callFree hM p X.admits X.cas X.clock (acts := []) hfr happ hPc trivial
  have hq' : vx_Q Qc XC mc ms free a (U.calling g mk a) o s₂ := hq
  rw [State.frames_setTop' g h.top] at hend
  obtain ⟨g₀, hg0⟩ := Option.isSome_iff_exists.mp h.top
  obtain ⟨r, hr⟩ := State.topJava?_eq_some.mp hg0
  have hr' : (({ U with heap := s₂.heap, slotsUsed := s₂.slotsUsed } : State).setVm s₂.vm).frames = .java g₀ :: r := hr
  rcases hq' with ⟨hqc, L, hfe, hL⟩ | ⟨q, rfl, E, ce, L, hx, hce, hcv, hcl, hW₂, hsm, hL⟩
  · obtain ⟨⟨v, rfl⟩, hW₂, e2, q2, q3, q4, q5, q6⟩ := id hfe
    have e3 : s₂ = ({ (U.calling g mk a).setFrames s₂.frames with heap := s₂.heap, slotsUsed := s₂.slotsUsed } : State).setVm s₂.vm := by
      have : s₂ = ({ s₂ with vm := (U.calling g mk a).vm } : State).setVm s₂.vm := rfl
      rw [e2] at this
      exact this
    obtain ⟨c₂, i₂, len₂, hc₂, hd₂, hf₂⟩ := hend
    have hW' : U.WarmedH s₂.vm := hW₂
    have hcc : c₂ = c := by
      have h1 : s₂.code? g.method = U.code? g.method := by
        rw [State.code?_eq, State.code?_eq, hW'.alike.method?]
      exact Option.some.inj (hc₂.symm.trans (h1.trans h.code))
    subst hcc
    have hlen : len₂ = len := by rw [hdg] at hd₂; cases hd₂; rfl
    subst hlen
    have hs₂ : s₂ = (({ U with heap := s₂.heap, slotsUsed := s₂.slotsUsed } : State).setVm s₂.vm).setTop { g with pc := g.pc + len₂, stack := v.toList ++ g.stack } := by
      refine e3.trans ?_
      rw [hf₂, State.calling_eq h.top, State.setFrames_setFrames, State.setTop_of_frames _ hr', hr]
      rfl
    have hsame : U.sameButNew ({ U with heap := s₂.heap, slotsUsed := s₂.slotsUsed } : State) L mc ms := by
      refine ⟨?_, q2, q3, q4, q5, q6⟩
      obtain ⟨t, ht, -⟩ := State.frames_cons hr
      show ({ U with heap := s₂.heap, slotsUsed := s₂.slotsUsed } : State) = { U.setFrames U.frames with heap := s₂.heap, slotsUsed := s₂.slotsUsed }
      rw [State.setFrames_self ht]
    subst hg
    refine Or.inl ⟨v, ⟨(({ U with heap := s₂.heap, slotsUsed := s₂.slotsUsed } : State).setVm s₂.vm), Ls ++ L, c0 + mc, s0 + ms⟩,
      ⟨X.admits, X.cas, X.clock, X.frames, X.room, X.hears, X.method, X.code, (X.here.setHeapUsed s₂.heap s₂.slotsUsed).setVm hW'.alike, X.tail, State.WarmedH.trans X.warmed hW', X.limits, X.bytes, X.same.trans (hsame.setVm s.vm)⟩,
      ⟨g, mk, s₂, L, rfl, rfl, hqc, rfl, hL, rfl, rfl⟩, ?_⟩
    show Steps p.tables e below _ ((({ U with heap := s₂.heap, slotsUsed := s₂.slotsUsed } : State).setVm s₂.vm).setTop { g with pc := g.pc + len₂, stack := v.toList ++ g.stack })
    rw [← hs₂]
    exact hsteps
  · obtain ⟨e2, q2, q3, q4, q5, q6⟩ := id hsm
    have e3 : s₂ = ({ (U.calling g mk a).setFrames s₂.frames with heap := s₂.heap, slotsUsed := s₂.slotsUsed } : State).setVm s₂.vm := by
      have : s₂ = ({ s₂ with vm := (U.calling g mk a).vm } : State).setVm s₂.vm := rfl
      rw [e2] at this
      exact this
    have hf₂ : s₂.frames = .throwing q :: .java g :: U.frames.tail := hend
    have hW' : U.WarmedH s₂.vm := hW₂
    have hs₂ : s₂ = ((({ U with heap := s₂.heap, slotsUsed := s₂.slotsUsed } : State).setVm s₂.vm).setTop g).pushFrame (.throwing q) := by
      refine e3.trans ?_
      rw [hf₂, State.calling_eq h.top, State.setFrames_setFrames, State.pushFrame, State.frames_setTop _ hr', State.setTop_of_frames _ hr', State.setFrames_setFrames, hr]
      rfl
    have hsame : U.sameButNew ({ U with heap := s₂.heap, slotsUsed := s₂.slotsUsed } : State) L mc ms := by
      refine ⟨?_, q2, q3, q4, q5, q6⟩
      obtain ⟨t, ht, -⟩ := State.frames_cons hr
      show ({ U with heap := s₂.heap, slotsUsed := s₂.slotsUsed } : State) = { U.setFrames U.frames with heap := s₂.heap, slotsUsed := s₂.slotsUsed }
      rw [State.setFrames_self ht]
    subst hg
    refine Or.inr ⟨q, ⟨(({ U with heap := s₂.heap, slotsUsed := s₂.slotsUsed } : State).setVm s₂.vm), Ls ++ L, c0 + mc, s0 + ms⟩,
      ⟨X.admits, X.cas, X.clock, X.frames, X.room, X.hears, X.method, X.code, (X.here.setHeapUsed s₂.heap s₂.slotsUsed).setVm hW'.alike, X.tail, State.WarmedH.trans X.warmed hW', X.limits, X.bytes, X.same.trans (hsame.setVm s.vm)⟩,
      ⟨g, mk, s₂, L, E, ce, rfl, rfl, hx, hce, hcv, hcl, rfl, hL, rfl, rfl⟩, ?_⟩
    show Steps p.tables e below _ (((({ U with heap := s₂.heap, slotsUsed := s₂.slotsUsed } : State).setVm s₂.vm).setTop g).pushFrame (.throwing q))
    rw [← hs₂]
    exact hsteps
end
variable {p : Program} {l : Launch} {e : Env} {R : Room} {s : State} {m : MethodId} {args : Array Value} {below : List Frame} {meth : Method} {c : Code} {T : State} {H : Heap} {locs : List Loc} {cells slots : Nat}
theorem vx_callVX (X : Stand p l e R s m args below meth c T locs cells slots) (hexec : p.tables.exec = Jvm.exec) {own C : String} {index : Nat} {y : MethodName} {bytes : ByteArray} {maxL : Nat} {ret : Option FieldType} {hh : List (Nat × Nat × Nat × Nat)}
    (hown : s.vm.findClass own = some m.cls) (hlink : (Cond.methodLink own index y).before args s = true) (hinst : (Cond.instanceMethod y).before args s = true) (hsel : (Cond.selects C y y).before args s = true)
    (hcode : (Cond.codeWith y bytes maxL ret hh).before args s = true) (hy : y.cls ≠ "java/lang/invoke/MethodHandle" ∧ y.cls ≠ "java/lang/invoke/VarHandle")
    {W9 : Nat} {Pre : Pt → Array Value → Prop} {Post : Pt → Array Value → Option Value → Pt → Prop} {PostX : Pt → Array Value → Addr → Pt → Prop} (hK : vx_Back l R p e below s args y 3 W9 Pre Post PostX)
    {b : Addr} {cellB : Cell} (hcell : T.heap[b]? = some cellB) (hobj : cellB.vm.isStatics = false) (hcls : s.vm.findClass C = some cellB.cls)
    {g : JFrame} (hg : g.method = m) (hsize : g.locals.size = c.maxLocals) {argsL rest : List Value} (hlen : ∀ sig, parseMethodDescriptor y.desc = some sig → argsL.length = sig.parameters.length)
    (hstack : g.stack = argsL.reverse ++ .ref b :: rest) (hW : 2 * g.monitorRoom + (rest.map fun v => v.category).sum ≤ W9) (hdg : decode c.code g.pc = .ok (.invokevirtual index, 3))
    (hpre : ∀ vm₁, s.WarmedH vm₁ → Pre ⟨T.setVm vm₁, locs, cells, slots⟩ (Value.ref b :: argsL).toArray) :
    (∃ (v : Option Value) (vm₁ : Vm) (B : Pt), s.WarmedH vm₁ ∧ Stand p l e R s m args below meth c B.U B.locs B.cells B.slots ∧ Post ⟨T.setVm vm₁, locs, cells, slots⟩ (Value.ref b :: argsL).toArray v B ∧
      ∀ target, Steps p.tables e below (B.U.setTop { g with pc := g.pc + 3, stack := v.toList ++ rest }) target → Steps p.tables e below (T.setTop g) target) ∨
    (∃ (q : Addr) (vm₁ : Vm) (B : Pt), s.WarmedH vm₁ ∧ Stand p l e R s m args below meth c B.U B.locs B.cells B.slots ∧ PostX ⟨T.setVm vm₁, locs, cells, slots⟩ (Value.ref b :: argsL).toArray q B ∧
      Steps p.tables e below (T.setTop g) ((B.U.setTop { g with stack := rest }).pushFrame (.throwing q))) := by
  obtain ⟨mk, methM, hnamed, hmethM, hstM, habM⟩ := Cond.instanceMethod_spec hinst
  obtain ⟨m8, methM', cM, hn8, hmethM', -, -, -, -, -, -, hsigM⟩ := Cond.codeWith_spec hcode
  cases Option.some.inj (hn8.symm.trans hnamed)
  cases hmethM.symm.trans hmethM'
  obtain ⟨c2, r2, m2, q1, q2, q3, q4, kP, hkP, hkPi⟩ := Cond.selects_spec hsel
  cases hcls.symm.trans q1
  cases (State.methodFound?_of_named hnamed hy).symm.trans q2
  cases hnamed.symm.trans q3
  have hselP : selectMethod e.platform s.vm cellB.cls mk = .method mk := by rw [Launch.admits_selectMethod X.admits]; exact q4
  obtain ⟨vm₁, X₁, hstep₁⟩ := X.invokevirtual hexec hown hlink hnamed hmethM hstM hkP hkPi hy (a := b) (cell := cellB) hcell
    (fun z h => by rw [h] at hobj; cases hobj) hselP hmethM habM hkP hkPi (g := g) hg (argsL := argsL) (rest := rest) (hlen _ hsigM) hstack hdg
  rcases hK m meth c ⟨T.setVm vm₁, locs, cells, slots⟩ { g with stack := rest } (.invokevirtual index) mk (Value.ref b :: argsL).toArray X₁ hg hsize hdg hW (X₁.named hnamed) (hpre vm₁ X₁.warmed) with ⟨v, B, X', hpost, hsteps⟩ | ⟨q, B, X', hpost, hsteps⟩
  · exact Or.inl ⟨v, vm₁, B, X₁.warmed, X', hpost, fun target h => hstep₁ _ fun acts => by rw [doInvoke_state]; exact hsteps.trans h⟩
  · exact Or.inr ⟨q, vm₁, B, X₁.warmed, X', hpost, hstep₁ _ fun acts => by rw [doInvoke_state]; exact hsteps⟩
theorem vx_callSX (X : Stand p l e R s m args below meth c T locs cells slots) (hexec : p.tables.exec = Jvm.exec) {own : String} {index : Nat} {y : MethodName} {bytes : ByteArray} {maxL : Nat} {ret : Option FieldType} {hh : List (Nat × Nat × Nat × Nat)}
    (hown : s.vm.findClass own = some m.cls) (hlink : (Cond.methodLink own index y).before args s = true) (hstat : (Cond.static y).before args s = true) (hinit : (Cond.initialized y.cls).before args s = true)
    (hcode : (Cond.codeWith y bytes maxL ret hh).before args s = true) (hy : y.cls ≠ "java/lang/invoke/MethodHandle" ∧ y.cls ≠ "java/lang/invoke/VarHandle")
    {W9 : Nat} {Pre : Pt → Array Value → Prop} {Post : Pt → Array Value → Option Value → Pt → Prop} {PostX : Pt → Array Value → Addr → Pt → Prop} (hK : vx_Back l R p e below s args y 3 W9 Pre Post PostX)
    {g : JFrame} (hg : g.method = m) (hsize : g.locals.size = c.maxLocals) {argsL rest : List Value} (hlen : ∀ sig, parseMethodDescriptor y.desc = some sig → argsL.length = sig.parameters.length)
    (hstack : g.stack = argsL.reverse ++ rest) (hW : 2 * g.monitorRoom + (rest.map fun v => v.category).sum ≤ W9) (hdg : decode c.code g.pc = .ok (.invokestatic index, 3))
    (hpre : ∀ vm₁, s.WarmedH vm₁ → Pre ⟨T.setVm vm₁, locs, cells, slots⟩ argsL.toArray) :
    (∃ (v : Option Value) (vm₁ : Vm) (B : Pt), s.WarmedH vm₁ ∧ Stand p l e R s m args below meth c B.U B.locs B.cells B.slots ∧ Post ⟨T.setVm vm₁, locs, cells, slots⟩ argsL.toArray v B ∧
      ∀ target, Steps p.tables e below (B.U.setTop { g with pc := g.pc + 3, stack := v.toList ++ rest }) target → Steps p.tables e below (T.setTop g) target) ∨
    (∃ (q : Addr) (vm₁ : Vm) (B : Pt), s.WarmedH vm₁ ∧ Stand p l e R s m args below meth c B.U B.locs B.cells B.slots ∧ PostX ⟨T.setVm vm₁, locs, cells, slots⟩ argsL.toArray q B ∧
      Steps p.tables e below (T.setTop g) ((B.U.setTop { g with stack := rest }).pushFrame (.throwing q))) := by
  obtain ⟨mk, methM, cM, hnamed, hmethM, -, -, -, -, -, -, hsigM⟩ := Cond.codeWith_spec hcode
  have hstatic : methM.isStatic = true := Cond.static_spec hnamed hmethM hstat
  obtain ⟨kP, hkP, -⟩ := className_of_methodNamed hnamed
  have hinitP : kP.init = .initialized := Cond.initialized_spec (findClass_of_methodNamed hnamed) hkP hinit
  obtain ⟨vm₁, X₁, hstep₁⟩ := X.invokestatic hexec hown hlink hnamed hmethM hstatic hkP hinitP hy (g := g) hg (argsL := argsL) (rest := rest) (hlen _ hsigM) hstack hdg
  rcases hK m meth c ⟨T.setVm vm₁, locs, cells, slots⟩ { g with stack := rest } (.invokestatic index) mk argsL.toArray X₁ hg hsize hdg hW (X₁.named hnamed) (hpre vm₁ X₁.warmed) with ⟨v, B, X', hpost, hsteps⟩ | ⟨q, B, X', hpost, hsteps⟩
  · exact Or.inl ⟨v, vm₁, B, X₁.warmed, X', hpost, fun target h => hstep₁ _ fun acts => by rw [doInvoke_state]; exact hsteps.trans h⟩
  · exact Or.inr ⟨q, vm₁, B, X₁.warmed, X', hpost, hstep₁ _ fun acts => by rw [doInvoke_state]; exact hsteps⟩
theorem vx_callVW (X : Stand p l e R s m args below meth c T locs cells slots) (hexec : p.tables.exec = Jvm.exec) {own C : String} {index : Nat} {y : MethodName} {bytes : ByteArray} {maxL : Nat} {ret : Option FieldType} {hh : List (Nat × Nat × Nat × Nat)}
    (hown : s.vm.findClass own = some m.cls) (hlink : (Cond.methodLink own index y).before args s = true) (hinst : (Cond.instanceMethod y).before args s = true) (hsel : (Cond.selects C y y).before args s = true)
    (hcode : (Cond.codeWith y bytes maxL ret hh).before args s = true) (hy : y.cls ≠ "java/lang/invoke/MethodHandle" ∧ y.cls ≠ "java/lang/invoke/VarHandle")
    {W9 : Nat} {Pre : Pt → Array Value → Prop} {Post : Pt → Array Value → Option Value → Pt → Prop} (hK : Back l R p e below s args y 3 W9 Pre Post)
    {b : Addr} {cellB : Cell} (hcell : T.heap[b]? = some cellB) (hobj : cellB.vm.isStatics = false) (hcls : s.vm.findClass C = some cellB.cls)
    {g : JFrame} (hg : g.method = m) (hsize : g.locals.size = c.maxLocals) {argsL rest : List Value} (hlen : ∀ sig, parseMethodDescriptor y.desc = some sig → argsL.length = sig.parameters.length)
    (hstack : g.stack = argsL.reverse ++ .ref b :: rest) (hW : 2 * g.monitorRoom + (rest.map fun v => v.category).sum ≤ W9) (hdg : decode c.code g.pc = .ok (.invokevirtual index, 3))
    (hpre : ∀ vm₁, s.WarmedH vm₁ → Pre ⟨T.setVm vm₁, locs, cells, slots⟩ (Value.ref b :: argsL).toArray) :
    ∃ (v : Option Value) (vm₁ : Vm) (B : Pt), s.WarmedH vm₁ ∧ Stand p l e R s m args below meth c B.U B.locs B.cells B.slots ∧ Post ⟨T.setVm vm₁, locs, cells, slots⟩ (Value.ref b :: argsL).toArray v B ∧
      ∀ target, Steps p.tables e below (B.U.setTop { g with pc := g.pc + 3, stack := v.toList ++ rest }) target → Steps p.tables e below (T.setTop g) target := by
  obtain ⟨mk, methM, hnamed, hmethM, hstM, habM⟩ := Cond.instanceMethod_spec hinst
  obtain ⟨m8, methM', cM, hn8, hmethM', -, -, -, -, -, -, hsigM⟩ := Cond.codeWith_spec hcode
  cases Option.some.inj (hn8.symm.trans hnamed)
  cases hmethM.symm.trans hmethM'
  obtain ⟨c2, r2, m2, q1, q2, q3, q4, kP, hkP, hkPi⟩ := Cond.selects_spec hsel
  cases hcls.symm.trans q1
  cases (State.methodFound?_of_named hnamed hy).symm.trans q2
  cases hnamed.symm.trans q3
  have hselP : selectMethod e.platform s.vm cellB.cls mk = .method mk := by rw [Launch.admits_selectMethod X.admits]; exact q4
  obtain ⟨vm₁, X₁, hstep₁⟩ := X.invokevirtual hexec hown hlink hnamed hmethM hstM hkP hkPi hy (a := b) (cell := cellB) hcell
    (fun z h => by rw [h] at hobj; cases hobj) hselP hmethM habM hkP hkPi (g := g) hg (argsL := argsL) (rest := rest) (hlen _ hsigM) hstack hdg
  obtain ⟨v, B, X', hpost, hsteps⟩ := hK m meth c ⟨T.setVm vm₁, locs, cells, slots⟩ { g with stack := rest } (.invokevirtual index) mk (Value.ref b :: argsL).toArray X₁ hg hsize hdg hW (X₁.named hnamed) (hpre vm₁ X₁.warmed)
  exact ⟨v, vm₁, B, X₁.warmed, X', hpost, fun target h => hstep₁ _ fun acts => by rw [doInvoke_state]; exact hsteps.trans h⟩
abbrev vx_CVW (R : Room) (s : State) (args : Array Value) (own C : String) (index : Nat) (y : MethodName) (bytes : ByteArray) (maxL : Nat) (ret : Option FieldType) (hh : List (Nat × Nat × Nat × Nat)) (ws : List Cond) (rm : Room) (mc ms n : Nat) : Prop :=
  (rm.cells = mc ∧ rm.slots = ms ∧ rm.frames + 1 ≤ R.frames ∧ 8 + (maxL + 11) + rm.locals ≤ R.locals ∧ (∀ w ∈ ws, ∀ (a' : Array Value) (U : State), s.WarmedH U.vm → w.before a' U = true) ∧ Cond.codeWith y bytes maxL ret hh ∈ ws) ∧
  (Cond.codeWith y bytes maxL ret hh).before args s = true ∧ (Cond.initialized y.cls).before args s = true ∧ (y.cls ≠ "java/lang/invoke/MethodHandle" ∧ y.cls ≠ "java/lang/invoke/VarHandle") ∧
  (∀ sig, parseMethodDescriptor y.desc = some sig → n = sig.parameters.length) ∧ (Cond.methodLink own index y).before args s = true ∧ (Cond.instanceMethod y).before args s = true ∧ (Cond.selects C y y).before args s = true
theorem vx_cwVW {own C : String} {index maxL mc ms : Nat} {y : MethodName} {bytes : ByteArray} {ret : Option FieldType} {hh : List (Nat × Nat × Nat × Nat)} {Ts ws ws' : List Cond} {rm : Room} (n : Nat) (ht : ∀ w ∈ Ts, w.before args s = true) (hT : GoodIn Ts (wsV own index C y ws)) (hw : ws = Cond.codeWith y bytes maxL ret hh :: ws') (hrc : rm.cells = mc) (hrs : rm.slots = ms)
    (hd : y.cls = C ∧ y.cls ≠ "java/lang/invoke/MethodHandle" ∧ y.cls ≠ "java/lang/invoke/VarHandle" ∧ (parseMethodDescriptor y.desc).map (fun d => d.parameters.length) = some n) (hR : rm.frames + 1 ≤ R.frames ∧ 8 + (maxL + 11) + rm.locals ≤ R.locals) :
    vx_CVW R s args own C index y bytes maxL ret hh ws rm mc ms n := by
  obtain ⟨hC, hd⟩ := hd
  subst hC
  have ok : ∀ w ∈ wsV own index y.cls y ws, w.before args s = true := fun w h => ht w (hT w h).1
  have hG : GoodIn Ts ws := fun w h => hT w (by unfold wsV; exact List.mem_append_right _ h)
  have hc : Cond.codeWith y bytes maxL ret hh ∈ ws := by rw [hw]; exact List.mem_cons_self
  refine ⟨⟨hrc, hrs, hR.1, hR.2, pay_in ht hG, hc⟩, ht _ (hG _ hc).1, ok _ (by simp [wsV]), ⟨hd.1, hd.2.1⟩, fun sig h => ?_, ok _ (by simp [wsV]), ok _ (by simp [wsV]), ok _ (by simp [wsV])⟩
  have h2 := hd.2.2
  rw [h] at h2
  exact (Option.some.inj h2).symm
theorem vx_runVW {y : MethodName} {bytes cc : ByteArray} {maxL nL mc ms n index : Nat} {ret : Option FieldType} {hh : List (Nat × Nat × Nat × Nat)} {ws : List Cond} {rm : Room} {Pc : Array Value → State → Prop} {Qc : Array Value → State → Outcome → State → Prop} {free : Addr → Prop} {Ts : List Cond} {own C : String} {b : Addr} {As rest : List Value} {g : JFrame}
    (S : CallFix p m c cc nL s args Ts own) (hM : Met l y ws rm Pc Qc mc ms free) (cw : vx_CVW R s args own C index y bytes maxL ret hh ws rm mc ms n) (hp : PreV s H C b Pc As)
    (hg : g.method = m) (hn : As.length = n) (hsize : g.locals.size = nL) (hstack : g.stack = As.reverse ++ .ref b :: rest) (hW : 2 * g.monitorRoom + (rest.map fun v => v.category).sum ≤ 8) (hdg : decode cc g.pc = .ok (.invokevirtual index, 3)) (hf : cells + mc ≤ R.cells ∧ slots + ms ≤ R.slots) :
    va_Run p l e R s m args below meth c H locs cells slots mc ms g rest (Qc (Value.ref b :: As).toArray) free := by
  obtain ⟨⟨hrc, hrs, hfr, hlo, hws, hcw⟩, hcode, hini, hy, hlen, hl, hin, hse⟩ := cw
  have hK : Back l R p e below s args y 3 8 (PreOf R mc ms Pc) (PostOf Qc mc ms free) := va_backW (hh := hh) (bytes := bytes) (maxL := maxL) (ret := ret) hM hp.1 hrc hrs hfr hlo hws hcw (fun a' U hW => word_at hW (Or.inl (by first | rfl | simp [Cond.onTables, Cond.keeps, Cond.steady])) hini)
  obtain ⟨hx, hb, hml, ho, -⟩ := S
  obtain ⟨-, ⟨cellB, hcB, hoB, hclB⟩, hPc⟩ := hp
  intro T hT X
  obtain ⟨v, vm₁, ⟨U', l2, c2, s2⟩, hW₁, X', ⟨g', mk, t, L, e1, e2, hq, h1, hL, h2, h3⟩, st⟩ := vx_callVW X hx (C := C) (hh := hh) (bytes := bytes) (maxL := maxL) (ret := ret) ho hl hin hse hcode hy hK (by rw [hT]; exact hcB) hoB hclB hg (hsize.trans hml.symm) (argsL := As) (rest := rest) (fun sig h => hn.trans (hlen sig h)) hstack hW (by rw [hb]; exact hdg)
    (fun vm₁ hW₁ => ⟨hf.1, hf.2, hPc (T.setVm vm₁) hT hW₁⟩)
  dsimp only [Pt.U, Pt.locs, Pt.cells, Pt.slots] at X' e1 e2 h1 h2 h3 st
  subst h1; subst h2; subst h3
  exact ⟨v, (T.setVm vm₁).calling g' mk (Value.ref b :: As).toArray, t, U', L, hT, X', hL, e1, e2, hq, st⟩
section
variable {y : MethodName} {bytes cc : ByteArray} {maxL nL mc ms n index : Nat} {ret : Option FieldType} {ws : List Cond} {rm : Room} {Pc : Array Value → State → Prop} {Qc : Array Value → State → Outcome → State → Prop} {XC : String → State → State → Prop} {free : Addr → Prop} {Ts : List Cond} {own C : String} {b : Addr} {As rest : List Value} {g : JFrame}
theorem vx_runVX {hh : List (Nat × Nat × Nat × Nat)} (S : CallFix p m c cc nL s args Ts own) (hM : vx_Met l y ws rm Pc Qc XC mc ms free) (cw : vx_CVW R s args own C index y bytes maxL ret hh ws rm mc ms n) (hp : PreV s H C b Pc As)
    (hg : g.method = m) (hn : As.length = n) (hsize : g.locals.size = nL) (hstack : g.stack = As.reverse ++ .ref b :: rest) (hW : 2 * g.monitorRoom + (rest.map fun v => v.category).sum ≤ 8) (hdg : decode cc g.pc = .ok (.invokevirtual index, 3)) (hf : cells + mc ≤ R.cells ∧ slots + ms ≤ R.slots) :
    vx_Run p l e R s m args below meth c H locs cells slots mc ms g rest (Qc (Value.ref b :: As).toArray) XC free := by
  obtain ⟨⟨hrc, hrs, hfr, hlo, hws, hcw⟩, hcode, hini, hy, hlen, hl, hin, hse⟩ := cw
  have hK : vx_Back l R p e below s args y 3 8 (PreOf R mc ms Pc) (PostOf Qc mc ms free) (vx_Post XC mc ms free) := vx_backW (hh := hh) (bytes := bytes) (maxL := maxL) (ret := ret) hM hp.1 hrc hrs hfr hlo hws hcw (fun a' U hW => word_at hW (Or.inl (by first | rfl | simp [Cond.onTables, Cond.keeps, Cond.steady])) hini)
  obtain ⟨hx, hb, hml, ho, -⟩ := S
  obtain ⟨-, ⟨cellB, hcB, hoB, hclB⟩, hPc⟩ := hp
  intro T hT X
  rcases vx_callVX X hx (C := C) (hh := hh) (bytes := bytes) (maxL := maxL) (ret := ret) ho hl hin hse hcode hy hK (by rw [hT]; exact hcB) hoB hclB hg (hsize.trans hml.symm) (argsL := As) (rest := rest) (fun sig h => hn.trans (hlen sig h)) hstack hW (by rw [hb]; exact hdg)
    (fun vm₁ hW₁ => ⟨hf.1, hf.2, hPc (T.setVm vm₁) hT hW₁⟩) with ⟨v, vm₁, ⟨U', l2, c2, s2⟩, hW₁, X', ⟨g', mk, t, L, e1, e2, hq, h1, hL, h2, h3⟩, st⟩ | ⟨q, vm₁, ⟨U', l2, c2, s2⟩, hW₁, X', ⟨g', mk, t, L, E, ce, e1, e2, hq, hce, hcv, hcl, h1, hL, h2, h3⟩, st⟩
  · dsimp only [Pt.U, Pt.locs, Pt.cells, Pt.slots] at X' e1 e2 h1 h2 h3 st
    subst h1; subst h2; subst h3
    exact Or.inl ⟨v, (T.setVm vm₁).calling g' mk (Value.ref b :: As).toArray, t, U', L, hT, X', hL, e1, e2, hq, st⟩
  · dsimp only [Pt.U, Pt.locs, Pt.cells, Pt.slots] at X' e1 e2 h1 h2 h3 st hcl
    subst h1; subst h2; subst h3
    exact Or.inr ⟨q, (T.setVm vm₁).calling g' mk (Value.ref b :: As).toArray, t, U', L, E, ce, hT, X', hL, e1, e2, hq, hce, hcv, vx_cls hW₁ hcl, st⟩
theorem vx_runSX {hh : List (Nat × Nat × Nat × Nat)} (S : CallFix p m c cc nL s args Ts own) (hM : vx_Met l y ws rm Pc Qc XC mc ms free) (cw : vx_CSW R s args own index y bytes maxL ret hh ws rm mc ms n) (hp : PreS s H Pc As)
    (hg : g.method = m) (hn : As.length = n) (hsize : g.locals.size = nL) (hstack : g.stack = As.reverse ++ rest) (hW : 2 * g.monitorRoom + (rest.map fun v => v.category).sum ≤ 8) (hdg : decode cc g.pc = .ok (.invokestatic index, 3)) (hf : cells + mc ≤ R.cells ∧ slots + ms ≤ R.slots) :
    vx_Run p l e R s m args below meth c H locs cells slots mc ms g rest (Qc As.toArray) XC free := by
  obtain ⟨⟨hrc, hrs, hfr, hlo, hws, hcw⟩, hcode, hini, hy, hlen, hl, hstt⟩ := cw
  have hK : vx_Back l R p e below s args y 3 8 (PreOf R mc ms Pc) (PostOf Qc mc ms free) (vx_Post XC mc ms free) := vx_backW (hh := hh) (bytes := bytes) (maxL := maxL) (ret := ret) hM hp.1 hrc hrs hfr hlo hws hcw (fun a' U hW => word_at hW (Or.inl (by first | rfl | simp [Cond.onTables, Cond.keeps, Cond.steady])) hini)
  obtain ⟨hx, hb, hml, ho, -⟩ := S
  intro T hT X
  rcases vx_callSX X hx (hh := hh) (bytes := bytes) (maxL := maxL) (ret := ret) ho hl hstt hini hcode hy hK hg (hsize.trans hml.symm) (argsL := As) (rest := rest) (fun sig h => hn.trans (hlen sig h)) hstack hW (by rw [hb]; exact hdg)
    (fun vm₁ hW₁ => ⟨hf.1, hf.2, hp.2 (T.setVm vm₁) hT hW₁⟩) with ⟨v, vm₁, ⟨U', l2, c2, s2⟩, hW₁, X', ⟨g', mk, t, L, e1, e2, hq, h1, hL, h2, h3⟩, st⟩ | ⟨q, vm₁, ⟨U', l2, c2, s2⟩, hW₁, X', ⟨g', mk, t, L, E, ce, e1, e2, hq, hce, hcv, hcl, h1, hL, h2, h3⟩, st⟩
  · dsimp only [Pt.U, Pt.locs, Pt.cells, Pt.slots] at X' e1 e2 h1 h2 h3 st
    subst h1; subst h2; subst h3
    exact Or.inl ⟨v, (T.setVm vm₁).calling g' mk As.toArray, t, U', L, hT, X', hL, e1, e2, hq, st⟩
  · dsimp only [Pt.U, Pt.locs, Pt.cells, Pt.slots] at X' e1 e2 h1 h2 h3 st hcl
    subst h1; subst h2; subst h3
    exact Or.inr ⟨q, (T.setVm vm₁).calling g' mk As.toArray, t, U', L, E, ce, hT, X', hL, e1, e2, hq, hce, hcv, vx_cls hW₁ hcl, st⟩
end
end VXH
theorem vx_ofWH {l : Launch} {y : MethodName} {ws ws' : List Cond} {rm : Room} {Pc : Array Value → State → Prop} {Qc : Array Value → State → Outcome → State → Prop} {XC : String → State → State → Prop} {mc ms : Nat} {free : Addr → Prop} {cc : ByteArray} {maxL : Nat} {ret : Option FieldType} {hh : List (Nat × Nat × Nat × Nat)}
    (hy : plainName y.cls = true) (hw : ws = Cond.codeWith y cc maxL ret hh :: ws')
    (body : ∀ p e s m args below meth c s₁, BodyLoose p l y (headSpec ws rm) cc maxL ret e s m args below meth c s₁ → c.maxLocals = maxL → Pc args s →
      W p l e (headSpec ws rm).room s m args below meth c s.heap [] 0 0 (vx_MQ below Qc XC args s mc ms free) (entryFrame m args maxL)) : vx_Met l y ws rm Pc Qc XC mc ms free := by
  refine MetFree.of_bodyS (code := cc) (maxLocals := maxL) (ret := ret) hy ?_ ?_
  · intro args s m h hn
    obtain ⟨m9, meth, c, hn9, h1, h2, h3, h4, -, h5, h6, -⟩ := Cond.codeWith_spec (atoms_spec (ws := ws) h _ (by rw [hw]; exact List.mem_cons_self))
    cases hn.symm.trans hn9
    exact ⟨meth, c, h1, h2, h3, h4, h5, h6⟩
  · intro p e s m args below meth c s₁ B hml hP _
    have hh0 : s₁.heap = s.heap := by rw [B.state]; rfl
    obtain ⟨t, a1, o, b1, b2, b3⟩ := body p e s m args below meth c s₁ B hml hP s₁ hh0 (Stand.of_body B)
    exact ⟨t, o, a1, b1, b2, b3⟩
/-! ===== END ===== -/
end
section
abbrev RH : String := "MeasureChoice$House"
def FH : u_T := fun k => match k with
  | 0 => ("MeasureChoice$House", "count", "I", false)
  | 1 => ("MeasureChoice$House", "version", "I", false)
  | 2 => ("MeasureChoice$House", "costs", "[I", true)
  | 3 => ("MeasureChoice$House", "gains", "[I", true)
  | 4 => ("MeasureChoice$House", "excluded", "[I", true)
  | 5 => ("MeasureChoice$House", "needed", "[I", true)
  | _ => ("MeasureChoice$House", "bonuses", "[[I", true)
def tH : Nat → FieldType := fun k => match k with
  | 0 => .int
  | 1 => .int
  | 2 => .array .int
  | 3 => .array .int
  | 4 => .array .int
  | 5 => .array .int
  | _ => .array (.array .int)
abbrev wH0 : List Cond := u_ws RH FH 7
theorem nH : ∀ a, a < 7 → ∀ b, b < 7 → a ≠ b → (FH a).2.1 ≠ (FH b).2.1 := by decide +kernel
theorem tH_ok : ∀ k, k < 7 → parseFieldDescriptor (FH k).2.2.1 = some (tH k) := by decide +kernel
abbrev RA : String := "MeasureChoice$Ladder"
def FA : u_T := fun k => match k with
  | 0 => ("MeasureChoice$Ladder", "rungs", "I", false)
  | 1 => ("MeasureChoice$Ladder", "version", "I", false)
  | 2 => ("MeasureChoice$Ladder", "steps", "[I", true)
  | _ => ("MeasureChoice$Ladder", "gains", "[I", true)
def tA : Nat → FieldType := fun k => match k with
  | 0 => .int
  | 1 => .int
  | 2 => .array .int
  | _ => .array .int
abbrev wA0 : List Cond := u_ws RA FA 4
theorem nA : ∀ a, a < 4 → ∀ b, b < 4 → a ≠ b → (FA a).2.1 ≠ (FA b).2.1 := by decide +kernel
theorem tA_ok : ∀ k, k < 4 → parseFieldDescriptor (FA k).2.2.1 = some (tA k) := by decide +kernel
abbrev RP : String := "MeasureChoice$Planner"
def FP : u_T := fun k => match k with
  | 0 => ("MeasureChoice$Planner", "budgets", "[I", true)
  | 1 => ("MeasureChoice$Planner", "totals", "[[I", true)
  | 2 => ("MeasureChoice$Planner", "spent", "[[I", true)
  | 3 => ("MeasureChoice$Planner", "purses", "[I", true)
  | 4 => ("MeasureChoice$Planner", "prices", "[I", true)
  | 5 => ("MeasureChoice$Planner", "gains", "[I", true)
  | _ => ("MeasureChoice$Planner", "sets", "I", false)
def tP : Nat → FieldType := fun k => match k with
  | 0 => .array .int
  | 1 => .array (.array .int)
  | 2 => .array (.array .int)
  | 3 => .array .int
  | 4 => .array .int
  | 5 => .array .int
  | _ => .int
abbrev wP0 : List Cond := u_ws RP FP 7
theorem nP : ∀ a, a < 7 → ∀ b, b < 7 → a ≠ b → (FP a).2.1 ≠ (FP b).2.1 := by decide +kernel
theorem tP_ok : ∀ k, k < 7 → parseFieldDescriptor (FP k).2.2.1 = some (tP k) := by decide +kernel
abbrev RM : String := "MeasureChoice"
def FM : u_T := fun k => match k with
  | 0 => ("MeasureChoice", "house", "LMeasureChoice$House;", true)
  | 1 => ("MeasureChoice", "ladder", "LMeasureChoice$Ladder;", true)
  | _ => ("MeasureChoice", "planner", "LMeasureChoice$Planner;", true)
def tM : Nat → FieldType := fun k => match k with
  | 0 => .object "MeasureChoice$House"
  | 1 => .object "MeasureChoice$Ladder"
  | _ => .object "MeasureChoice$Planner"
abbrev wM0 : List Cond := u_ws RM FM 3
theorem nM : ∀ a, a < 3 → ∀ b, b < 3 → a ≠ b → (FM a).2.1 ≠ (FM b).2.1 := by decide +kernel
theorem tM_ok : ∀ k, k < 3 → parseFieldDescriptor (FM k).2.2.1 = some (tM k) := by decide +kernel
abbrev RR : String := "MeasureChoiceModel"
def FR : u_T := fun k => match k with
  | 0 => ("MeasureChoiceModel", "thrown", "I", false)
  | 1 => ("MeasureChoiceModel", "many", "I", false)
  | 2 => ("MeasureChoiceModel", "costs", "[I", true)
  | 3 => ("MeasureChoiceModel", "gains", "[I", true)
  | 4 => ("MeasureChoiceModel", "barred", "[Z", true)
  | 5 => ("MeasureChoiceModel", "wants", "[Z", true)
  | 6 => ("MeasureChoiceModel", "bonuses", "[I", true)
  | 7 => ("MeasureChoiceModel", "budgets", "[I", true)
  | 8 => ("MeasureChoiceModel", "laterGain", "[I", true)
  | 9 => ("MeasureChoiceModel", "laterCost", "[I", true)
  | _ => ("MeasureChoiceModel", "choice", "[I", true)
def tR : Nat → FieldType := fun k => match k with
  | 0 => .int
  | 1 => .int
  | 2 => .array .int
  | 3 => .array .int
  | 4 => .array .boolean
  | 5 => .array .boolean
  | 6 => .array .int
  | 7 => .array .int
  | 8 => .array .int
  | 9 => .array .int
  | _ => .array .int
abbrev wR0 : List Cond := u_ws RR FR 11
theorem nR : ∀ a, a < 11 → ∀ b, b < 11 → a ≠ b → (FR a).2.1 ≠ (FR b).2.1 := by decide +kernel
theorem tR_ok : ∀ k, k < 11 → parseFieldDescriptor (FR k).2.2.1 = some (tR k) := by decide +kernel
abbrev RL : String := "MeasureChoiceLaw"
abbrev mcCl : List vw_C := [(RH, FH, 7), (RA, FA, 4), (RP, FP, 7), (RM, FM, 3), (RR, FR, 11)]
def mcB_0 : List Cond := [Cond.selects "MeasureChoice$Ladder" ⟨"MeasureChoice$Ladder", "addSteps", "(II)V"⟩ ⟨"MeasureChoice$Ladder", "addSteps", "(II)V"⟩, Cond.selects "MeasureChoice$Ladder" ⟨"MeasureChoice$Ladder", "addGains", "(ILMeasureChoice$House;)V"⟩ ⟨"MeasureChoice$Ladder", "addGains", "(ILMeasureChoice$House;)V"⟩, Cond.selects "MeasureChoice$Ladder" ⟨"MeasureChoice$Ladder", "keepUnbeaten", "(LMeasureChoice$House;)V"⟩ ⟨"MeasureChoice$Ladder", "keepUnbeaten", "(LMeasureChoice$House;)V"⟩, Cond.selects "java/lang/Throwable" ⟨"java/lang/Throwable", "fillInStackTrace", "(I)Ljava/lang/Throwable;"⟩ ⟨"java/lang/Throwable", "fillInStackTrace", "(I)Ljava/lang/Throwable;"⟩, Cond.selects "MeasureChoice" ⟨"MeasureChoice", "requireMeasure", "(I)V"⟩ ⟨"MeasureChoice", "requireMeasure", "(I)V"⟩, Cond.selects "MeasureChoice" ⟨"MeasureChoice", "requirePair", "(II)V"⟩ ⟨"MeasureChoice", "requirePair", "(II)V"⟩, Cond.selects "MeasureChoice" ⟨"MeasureChoice", "requireSet", "(I)V"⟩ ⟨"MeasureChoice", "requireSet", "(I)V"⟩, Cond.selects "MeasureChoice$House" ⟨"MeasureChoice$House", "bonusWithEarlier", "(II)I"⟩ ⟨"MeasureChoice$House", "bonusWithEarlier", "(II)I"⟩, Cond.selects "MeasureChoice$House" ⟨"MeasureChoice$House", "withItsNeeds", "(I)I"⟩ ⟨"MeasureChoice$House", "withItsNeeds", "(I)I"⟩, Cond.selects "MeasureChoice$Planner" ⟨"MeasureChoice$Planner", "fillPurses", "()V"⟩ ⟨"MeasureChoice$Planner", "fillPurses", "()V"⟩, Cond.selects "MeasureChoice$Planner" ⟨"MeasureChoice$Planner", "judgeSets", "(LMeasureChoice$House;)V"⟩ ⟨"MeasureChoice$Planner", "judgeSets", "(LMeasureChoice$House;)V"⟩, Cond.selects "MeasureChoice$Planner" ⟨"MeasureChoice$Planner", "workYear", "(IZ)V"⟩ ⟨"MeasureChoice$Planner", "workYear", "(IZ)V"⟩, Cond.selects "MeasureChoice$Planner" ⟨"MeasureChoice$Planner", "bestFrom", "(II)I"⟩ ⟨"MeasureChoice$Planner", "bestFrom", "(II)I"⟩, Cond.selects "MeasureChoice$Planner" ⟨"MeasureChoice$Planner", "isBetter", "(III)Z"⟩ ⟨"MeasureChoice$Planner", "isBetter", "(III)Z"⟩, Cond.selects "MeasureChoiceModel" ⟨"MeasureChoiceModel", "good", "(Z)Z"⟩ ⟨"MeasureChoiceModel", "good", "(Z)Z"⟩, Cond.selects "MeasureChoiceModel" ⟨"MeasureChoiceModel", "is", "(I)Z"⟩ ⟨"MeasureChoiceModel", "is", "(I)Z"⟩, Cond.selects "MeasureChoiceModel" ⟨"MeasureChoiceModel", "isSet", "(I)Z"⟩ ⟨"MeasureChoiceModel", "isSet", "(I)Z"⟩, Cond.selects "MeasureChoiceModel" ⟨"MeasureChoiceModel", "holds", "(I)Z"⟩ ⟨"MeasureChoiceModel", "holds", "(I)Z"⟩, Cond.selects "MeasureChoiceModel" ⟨"MeasureChoiceModel", "costOf", "(I)I"⟩ ⟨"MeasureChoiceModel", "costOf", "(I)I"⟩, Cond.selects "MeasureChoiceModel" ⟨"MeasureChoiceModel", "gainOf", "(I)I"⟩ ⟨"MeasureChoiceModel", "gainOf", "(I)I"⟩, Cond.selects "MeasureChoiceModel" ⟨"MeasureChoiceModel", "bestOf", "(J)I"⟩ ⟨"MeasureChoiceModel", "bestOf", "(J)I"⟩, Cond.selects "MeasureChoiceModel" ⟨"MeasureChoiceModel", "dearer", "(II)I"⟩ ⟨"MeasureChoiceModel", "dearer", "(II)I"⟩, Cond.selects "MeasureChoiceModel" ⟨"MeasureChoiceModel", "work", "(I)V"⟩ ⟨"MeasureChoiceModel", "work", "(I)V"⟩, Cond.selects "MeasureChoiceModel" ⟨"MeasureChoiceModel", "workOf", "(IIII)V"⟩ ⟨"MeasureChoiceModel", "workOf", "(IIII)V"⟩, Cond.initialized "MeasureChoiceLaw", Cond.initialized "MeasureChoice", Cond.initialized "MeasureChoice$House", Cond.initialized "MeasureChoice$Ladder", Cond.initialized "MeasureChoice$Planner", Cond.initialized "MeasureChoiceModel", Cond.initialized "java/lang/Throwable", Cond.initialized "java/lang/Exception", Cond.initialized "java/lang/RuntimeException", Cond.initialized "java/lang/IllegalArgumentException", Cond.initialized "java/lang/IllegalStateException", Cond.initialized "java/lang/Math", Cond.classLink "MeasureChoiceLaw" 8 "MeasureChoice", Cond.instantiable "MeasureChoice" 3, Cond.methodLink "MeasureChoiceLaw" 61 ⟨"MeasureChoice", "<init>", "()V"⟩, Cond.instanceMethod ⟨"MeasureChoice", "<init>", "()V"⟩]
def mcB_1 : List Cond := [Cond.code ⟨"MeasureChoice", "<init>", "()V"⟩ prog_1_method_1_code 1 none, Cond.methodLink "MeasureChoice" 3 ⟨"java/lang/Object", "<init>", "()V"⟩, Cond.instanceMethod ⟨"java/lang/Object", "<init>", "()V"⟩, Cond.code ⟨"java/lang/Object", "<init>", "()V"⟩ object_method_1_code 1 none, Cond.classLink "MeasureChoice" 9 "MeasureChoice$House", Cond.instantiable "MeasureChoice$House" 7, Cond.instanceMethod ⟨"MeasureChoice$House", "<init>", "()V"⟩, Cond.code ⟨"MeasureChoice$House", "<init>", "()V"⟩ prog_2_method_1_code 1 none, Cond.methodLink "MeasureChoice$House" 3 ⟨"java/lang/Object", "<init>", "()V"⟩, Cond.classLink "MeasureChoice$House" 24 "[[I", Cond.fieldLink "MeasureChoice$House" 29 "MeasureChoice$House" "count" "I", Cond.fieldLink "MeasureChoice" 34 "MeasureChoice$House" "count" "I", Cond.fieldLink "MeasureChoice$Planner" 47 "MeasureChoice$House" "count" "I", Cond.fieldLink "MeasureChoice$Ladder" 38 "MeasureChoice$House" "count" "I", Cond.fieldLink "MeasureChoice$House" 37 "MeasureChoice$House" "version" "I", Cond.fieldLink "MeasureChoice$Ladder" 35 "MeasureChoice$House" "version" "I", Cond.fieldLink "MeasureChoice$House" 9 "MeasureChoice$House" "costs" "[I", Cond.fieldLink "MeasureChoice$Ladder" 41 "MeasureChoice$House" "costs" "[I", Cond.fieldLink "MeasureChoice$House" 15 "MeasureChoice$House" "gains" "[I", Cond.fieldLink "MeasureChoice$Ladder" 56 "MeasureChoice$House" "gains" "[I", Cond.fieldLink "MeasureChoice$House" 18 "MeasureChoice$House" "excluded" "[I", Cond.fieldLink "MeasureChoice" 60 "MeasureChoice$House" "excluded" "[I", Cond.fieldLink "MeasureChoice$House" 21 "MeasureChoice$House" "needed" "[I", Cond.fieldLink "MeasureChoice" 72 "MeasureChoice$House" "needed" "[I", Cond.fieldLink "MeasureChoice$House" 26 "MeasureChoice$House" "bonuses" "[[I", Cond.fieldLink "MeasureChoice" 81 "MeasureChoice$House" "bonuses" "[[I", Cond.fieldLink "MeasureChoice$Ladder" 57 "MeasureChoice$House" "bonuses" "[[I", Cond.lays "MeasureChoice$House" "MeasureChoice$House" "count" "I", Cond.soleField "MeasureChoice$House" "count", Cond.lays "MeasureChoice$House" "MeasureChoice$House" "version" "I", Cond.soleField "MeasureChoice$House" "version", Cond.laysFinal "MeasureChoice$House" "MeasureChoice$House" "costs" "[I", Cond.soleField "MeasureChoice$House" "costs", Cond.laysFinal "MeasureChoice$House" "MeasureChoice$House" "gains" "[I", Cond.soleField "MeasureChoice$House" "gains", Cond.laysFinal "MeasureChoice$House" "MeasureChoice$House" "excluded" "[I", Cond.soleField "MeasureChoice$House" "excluded", Cond.laysFinal "MeasureChoice$House" "MeasureChoice$House" "needed" "[I", Cond.soleField "MeasureChoice$House" "needed", Cond.laysFinal "MeasureChoice$House" "MeasureChoice$House" "bonuses" "[[I"]
def mcB_2 : List Cond := [Cond.soleField "MeasureChoice$House" "bonuses", Cond.superclass "MeasureChoice$House" "java/lang/Object", Cond.arrayClass FieldType.int, Cond.classLink "MeasureChoice" 16 "MeasureChoice$Ladder", Cond.instantiable "MeasureChoice$Ladder" 4, Cond.instanceMethod ⟨"MeasureChoice$Ladder", "<init>", "()V"⟩, Cond.code ⟨"MeasureChoice$Ladder", "<init>", "()V"⟩ prog_3_method_1_code 1 none, Cond.methodLink "MeasureChoice$Ladder" 3 ⟨"java/lang/Object", "<init>", "()V"⟩, Cond.fieldLink "MeasureChoice$Ladder" 26 "MeasureChoice$Ladder" "rungs" "I", Cond.fieldLink "MeasureChoice" 133 "MeasureChoice$Ladder" "rungs" "I", Cond.fieldLink "MeasureChoice$Ladder" 9 "MeasureChoice$Ladder" "version" "I", Cond.fieldLink "MeasureChoice$Ladder" 15 "MeasureChoice$Ladder" "steps" "[I", Cond.fieldLink "MeasureChoice$Ladder" 19 "MeasureChoice$Ladder" "gains" "[I", Cond.lays "MeasureChoice$Ladder" "MeasureChoice$Ladder" "rungs" "I", Cond.soleField "MeasureChoice$Ladder" "rungs", Cond.lays "MeasureChoice$Ladder" "MeasureChoice$Ladder" "version" "I", Cond.soleField "MeasureChoice$Ladder" "version", Cond.laysFinal "MeasureChoice$Ladder" "MeasureChoice$Ladder" "steps" "[I", Cond.soleField "MeasureChoice$Ladder" "steps", Cond.laysFinal "MeasureChoice$Ladder" "MeasureChoice$Ladder" "gains" "[I", Cond.soleField "MeasureChoice$Ladder" "gains", Cond.superclass "MeasureChoice$Ladder" "java/lang/Object", Cond.classLink "MeasureChoice" 23 "MeasureChoice$Planner", Cond.instantiable "MeasureChoice$Planner" 7, Cond.instanceMethod ⟨"MeasureChoice$Planner", "<init>", "()V"⟩, Cond.code ⟨"MeasureChoice$Planner", "<init>", "()V"⟩ prog_4_method_1_code 1 none, Cond.methodLink "MeasureChoice$Planner" 3 ⟨"java/lang/Object", "<init>", "()V"⟩, Cond.classLink "MeasureChoice$Planner" 15 "[[I", Cond.fieldLink "MeasureChoice$Planner" 9 "MeasureChoice$Planner" "budgets" "[I", Cond.fieldLink "MeasureChoice" 137 "MeasureChoice$Planner" "budgets" "[I", Cond.fieldLink "MeasureChoice$Planner" 17 "MeasureChoice$Planner" "totals" "[[I", Cond.fieldLink "MeasureChoice" 147 "MeasureChoice$Planner" "totals" "[[I", Cond.fieldLink "MeasureChoice$Planner" 20 "MeasureChoice$Planner" "spent" "[[I", Cond.fieldLink "MeasureChoice$Planner" 23 "MeasureChoice$Planner" "purses" "[I", Cond.fieldLink "MeasureChoice$Planner" 26 "MeasureChoice$Planner" "prices" "[I", Cond.fieldLink "MeasureChoice$Planner" 29 "MeasureChoice$Planner" "gains" "[I", Cond.fieldLink "MeasureChoice$Planner" 58 "MeasureChoice$Planner" "sets" "I", Cond.laysFinal "MeasureChoice$Planner" "MeasureChoice$Planner" "budgets" "[I", Cond.soleField "MeasureChoice$Planner" "budgets", Cond.laysFinal "MeasureChoice$Planner" "MeasureChoice$Planner" "totals" "[[I"]
def mcB_3 : List Cond := [Cond.soleField "MeasureChoice$Planner" "totals", Cond.laysFinal "MeasureChoice$Planner" "MeasureChoice$Planner" "spent" "[[I", Cond.soleField "MeasureChoice$Planner" "spent", Cond.laysFinal "MeasureChoice$Planner" "MeasureChoice$Planner" "purses" "[I", Cond.soleField "MeasureChoice$Planner" "purses", Cond.laysFinal "MeasureChoice$Planner" "MeasureChoice$Planner" "prices" "[I", Cond.soleField "MeasureChoice$Planner" "prices", Cond.laysFinal "MeasureChoice$Planner" "MeasureChoice$Planner" "gains" "[I", Cond.soleField "MeasureChoice$Planner" "gains", Cond.lays "MeasureChoice$Planner" "MeasureChoice$Planner" "sets" "I", Cond.soleField "MeasureChoice$Planner" "sets", Cond.superclass "MeasureChoice$Planner" "java/lang/Object", Cond.fieldLink "MeasureChoice" 12 "MeasureChoice" "house" "LMeasureChoice$House;", Cond.fieldLink "MeasureChoice" 19 "MeasureChoice" "ladder" "LMeasureChoice$Ladder;", Cond.fieldLink "MeasureChoice" 26 "MeasureChoice" "planner" "LMeasureChoice$Planner;", Cond.laysFinal "MeasureChoice" "MeasureChoice" "house" "LMeasureChoice$House;", Cond.soleField "MeasureChoice" "house", Cond.laysFinal "MeasureChoice" "MeasureChoice" "ladder" "LMeasureChoice$Ladder;", Cond.soleField "MeasureChoice" "ladder", Cond.laysFinal "MeasureChoice" "MeasureChoice" "planner" "LMeasureChoice$Planner;", Cond.soleField "MeasureChoice" "planner", Cond.superclass "MeasureChoice" "java/lang/Object", Cond.methodLink "MeasureChoiceLaw" 103 ⟨"MeasureChoice", "budget", "(I)I"⟩, Cond.instanceMethod ⟨"MeasureChoice", "budget", "(I)I"⟩, Cond.selects "MeasureChoice" ⟨"MeasureChoice", "budget", "(I)I"⟩ ⟨"MeasureChoice", "budget", "(I)I"⟩, Cond.code ⟨"MeasureChoice", "budget", "(I)I"⟩ prog_1_method_11_code 3 (some FieldType.int), Cond.methodLink "MeasureChoice" 108 ⟨"MeasureChoice$Ladder", "bringUpToDate", "(LMeasureChoice$House;)V"⟩, Cond.instanceMethod ⟨"MeasureChoice$Ladder", "bringUpToDate", "(LMeasureChoice$House;)V"⟩, Cond.selects "MeasureChoice$Ladder" ⟨"MeasureChoice$Ladder", "bringUpToDate", "(LMeasureChoice$House;)V"⟩ ⟨"MeasureChoice$Ladder", "bringUpToDate", "(LMeasureChoice$House;)V"⟩, Cond.code ⟨"MeasureChoice$Ladder", "bringUpToDate", "(LMeasureChoice$House;)V"⟩ prog_3_method_7_code 3 none, Cond.methodLink "MeasureChoice$Ladder" 44 ⟨"MeasureChoice$Ladder", "addSteps", "(II)V"⟩, Cond.instanceMethod ⟨"MeasureChoice$Ladder", "addSteps", "(II)V"⟩, Cond.code ⟨"MeasureChoice$Ladder", "addSteps", "(II)V"⟩ prog_3_method_8_code 7 none, Cond.methodLink "MeasureChoice$Ladder" 48 ⟨"MeasureChoice$Ladder", "addGains", "(ILMeasureChoice$House;)V"⟩, Cond.instanceMethod ⟨"MeasureChoice$Ladder", "addGains", "(ILMeasureChoice$House;)V"⟩, Cond.code ⟨"MeasureChoice$Ladder", "addGains", "(ILMeasureChoice$House;)V"⟩ prog_3_method_9_code 9 none, Cond.methodLink "MeasureChoice$Ladder" 52 ⟨"MeasureChoice$Ladder", "keepUnbeaten", "(LMeasureChoice$House;)V"⟩, Cond.instanceMethod ⟨"MeasureChoice$Ladder", "keepUnbeaten", "(LMeasureChoice$House;)V"⟩, Cond.code ⟨"MeasureChoice$Ladder", "keepUnbeaten", "(LMeasureChoice$House;)V"⟩ prog_3_method_10_code 4 none, Cond.methodLink "MeasureChoice$Ladder" 22 ⟨"MeasureChoice$Ladder", "setAt", "(I)I"⟩]
def mcB_4 : List Cond := [Cond.instanceMethod ⟨"MeasureChoice$Ladder", "setAt", "(I)I"⟩, Cond.selects "MeasureChoice$Ladder" ⟨"MeasureChoice$Ladder", "setAt", "(I)I"⟩ ⟨"MeasureChoice$Ladder", "setAt", "(I)I"⟩, Cond.code ⟨"MeasureChoice$Ladder", "setAt", "(I)I"⟩ prog_3_method_2_code 2 (some FieldType.int), Cond.methodLink "MeasureChoice$Ladder" 32 ⟨"MeasureChoice$Ladder", "gainAt", "(I)I"⟩, Cond.instanceMethod ⟨"MeasureChoice$Ladder", "gainAt", "(I)I"⟩, Cond.selects "MeasureChoice$Ladder" ⟨"MeasureChoice$Ladder", "gainAt", "(I)I"⟩ ⟨"MeasureChoice$Ladder", "gainAt", "(I)I"⟩, Cond.code ⟨"MeasureChoice$Ladder", "gainAt", "(I)I"⟩ prog_3_method_4_code 2 (some FieldType.int), Cond.methodLink "MeasureChoice$Ladder" 61 ⟨"MeasureChoice$House", "allows", "(I)Z"⟩, Cond.instanceMethod ⟨"MeasureChoice$House", "allows", "(I)Z"⟩, Cond.selects "MeasureChoice$House" ⟨"MeasureChoice$House", "allows", "(I)Z"⟩ ⟨"MeasureChoice$House", "allows", "(I)Z"⟩, Cond.code ⟨"MeasureChoice$House", "allows", "(I)Z"⟩ prog_2_method_7_code 3 (some FieldType.boolean), Cond.methodLink "MeasureChoice$House" 44 ⟨"MeasureChoice$House", "has", "(II)Z"⟩, Cond.static ⟨"MeasureChoice$House", "has", "(II)Z"⟩, Cond.code ⟨"MeasureChoice$House", "has", "(II)Z"⟩ prog_2_method_13_code 2 (some FieldType.boolean), Cond.methodLink "MeasureChoice$Ladder" 29 ⟨"MeasureChoice$Ladder", "costAt", "(I)I"⟩, Cond.instanceMethod ⟨"MeasureChoice$Ladder", "costAt", "(I)I"⟩, Cond.selects "MeasureChoice$Ladder" ⟨"MeasureChoice$Ladder", "costAt", "(I)I"⟩ ⟨"MeasureChoice$Ladder", "costAt", "(I)I"⟩, Cond.code ⟨"MeasureChoice$Ladder", "costAt", "(I)I"⟩ prog_3_method_3_code 2 (some FieldType.int), Cond.methodLink "MeasureChoice" 118 ⟨"MeasureChoice$Ladder", "lowestGaining", "(I)I"⟩, Cond.instanceMethod ⟨"MeasureChoice$Ladder", "lowestGaining", "(I)I"⟩, Cond.selects "MeasureChoice$Ladder" ⟨"MeasureChoice$Ladder", "lowestGaining", "(I)I"⟩ ⟨"MeasureChoice$Ladder", "lowestGaining", "(I)I"⟩, Cond.code ⟨"MeasureChoice$Ladder", "lowestGaining", "(I)I"⟩ prog_3_method_6_code 3 (some FieldType.int), Cond.methodLink "MeasureChoice" 121 ⟨"MeasureChoice$Ladder", "costAt", "(I)I"⟩, Cond.methodLink "MeasureChoiceLaw" 65 ⟨"MeasureChoiceLaw", "measure", "(LMeasureChoice;II[J)I"⟩, Cond.static ⟨"MeasureChoiceLaw", "measure", "(LMeasureChoice;II[J)I"⟩, Cond.codeWith ⟨"MeasureChoiceLaw", "measure", "(LMeasureChoice;II[J)I"⟩ method_3_code 5 (some FieldType.int) [(0, 10, 13, 13), (0, 10, 17, 15)], Cond.classLink "MeasureChoiceLaw" 13 "java/lang/IllegalArgumentException", Cond.classLink "MeasureChoiceLaw" 15 "java/lang/IllegalStateException", Cond.methodLink "MeasureChoiceLaw" 7 ⟨"MeasureChoice", "measure", "(II)I"⟩, Cond.instanceMethod ⟨"MeasureChoice", "measure", "(II)I"⟩, Cond.selects "MeasureChoice" ⟨"MeasureChoice", "measure", "(II)I"⟩ ⟨"MeasureChoice", "measure", "(II)I"⟩, Cond.code ⟨"MeasureChoice", "measure", "(II)I"⟩ prog_1_method_2_code 3 (some FieldType.int), Cond.methodLink "MeasureChoice" 30 ⟨"MeasureChoice", "requireCostAndGain", "(II)V"⟩, Cond.static ⟨"MeasureChoice", "requireCostAndGain", "(II)V"⟩, Cond.code ⟨"MeasureChoice", "requireCostAndGain", "(II)V"⟩ prog_1_method_19_code 2 none, Cond.methodLink "MeasureChoice" 78 ⟨"MeasureChoice", "requireBetween", "(III)V"⟩, Cond.static ⟨"MeasureChoice", "requireBetween", "(III)V"⟩, Cond.code ⟨"MeasureChoice", "requireBetween", "(III)V"⟩ prog_1_method_17_code 3 none, Cond.classLink "MeasureChoice" 125 "java/lang/IllegalArgumentException", Cond.instantiable "java/lang/IllegalArgumentException" 6]
def mcB_5 : List Cond := [Cond.selects "java/lang/IllegalArgumentException" ⟨"java/lang/Throwable", "fillInStackTrace", "(I)Ljava/lang/Throwable;"⟩ ⟨"java/lang/Throwable", "fillInStackTrace", "(I)Ljava/lang/Throwable;"⟩, Cond.selects "java/lang/IllegalArgumentException" ⟨"java/lang/Throwable", "fillInStackTrace", "()Ljava/lang/Throwable;"⟩ ⟨"java/lang/Throwable", "fillInStackTrace", "()Ljava/lang/Throwable;"⟩, Cond.lays "java/lang/IllegalArgumentException" "java/lang/Throwable" "cause" "Ljava/lang/Throwable;", Cond.lays "java/lang/Throwable" "java/lang/Throwable" "cause" "Ljava/lang/Throwable;", Cond.lays "java/lang/IllegalArgumentException" "java/lang/Throwable" "stackTrace" "[Ljava/lang/StackTraceElement;", Cond.lays "java/lang/Throwable" "java/lang/Throwable" "stackTrace" "[Ljava/lang/StackTraceElement;", Cond.lays "java/lang/IllegalArgumentException" "java/lang/Throwable" "suppressedExceptions" "Ljava/util/List;", Cond.lays "java/lang/Throwable" "java/lang/Throwable" "suppressedExceptions" "Ljava/util/List;", Cond.lays "java/lang/IllegalArgumentException" "java/lang/Throwable" "detailMessage" "Ljava/lang/String;", Cond.lays "java/lang/Throwable" "java/lang/Throwable" "detailMessage" "Ljava/lang/String;", Cond.lays "java/lang/IllegalArgumentException" "java/lang/Throwable" "backtrace" "Ljava/lang/Object;", Cond.lays "java/lang/Throwable" "java/lang/Throwable" "backtrace" "Ljava/lang/Object;", Cond.fieldLink "java/lang/Throwable" 198 "java/lang/Throwable" "backtrace" "Ljava/lang/Object;", Cond.superclass "java/lang/Throwable" "java/lang/Object", Cond.instanceMethod ⟨"java/lang/Throwable", "<init>", "()V"⟩, Cond.code ⟨"java/lang/Throwable", "<init>", "()V"⟩ prog_13_method_1_code 1 none, Cond.methodLink "java/lang/Throwable" 1 ⟨"java/lang/Object", "<init>", "()V"⟩, Cond.fieldLink "java/lang/Throwable" 13 "java/lang/Throwable" "UNASSIGNED_STACK" "[Ljava/lang/StackTraceElement;", Cond.fieldLink "java/lang/Throwable" 20 "java/lang/Throwable" "SUPPRESSED_SENTINEL" "Ljava/util/List;", Cond.methodLink "java/lang/Throwable" 27 ⟨"java/lang/Throwable", "fillInStackTrace", "()Ljava/lang/Throwable;"⟩, Cond.instanceMethod ⟨"java/lang/Throwable", "fillInStackTrace", "()Ljava/lang/Throwable;"⟩, Cond.sameMethod "java/lang/Throwable" "java/lang/Throwable" "fillInStackTrace" "()Ljava/lang/Throwable;", Cond.selects "java/lang/IllegalStateException" ⟨"java/lang/Throwable", "fillInStackTrace", "()Ljava/lang/Throwable;"⟩ ⟨"java/lang/Throwable", "fillInStackTrace", "()Ljava/lang/Throwable;"⟩, Cond.codeSync ⟨"java/lang/Throwable", "fillInStackTrace", "()Ljava/lang/Throwable;"⟩ prog_13_method_18_code 1 (some (FieldType.object "java/lang/Throwable")), Cond.methodLink "java/lang/Throwable" 202 ⟨"java/lang/Throwable", "fillInStackTrace", "(I)Ljava/lang/Throwable;"⟩, Cond.instanceMethod ⟨"java/lang/Throwable", "fillInStackTrace", "(I)Ljava/lang/Throwable;"⟩, Cond.instantiable "java/lang/Throwable" 6, Cond.native ⟨"java/lang/Throwable", "fillInStackTrace", "(I)Ljava/lang/Throwable;"⟩, Cond.methodLink "MeasureChoice" 129 ⟨"java/lang/IllegalArgumentException", "<init>", "(Ljava/lang/String;)V"⟩, Cond.instanceMethod ⟨"java/lang/IllegalArgumentException", "<init>", "(Ljava/lang/String;)V"⟩, Cond.code ⟨"java/lang/IllegalArgumentException", "<init>", "(Ljava/lang/String;)V"⟩ prog_8_method_2_code 2 none, Cond.methodLink "java/lang/IllegalArgumentException" 7 ⟨"java/lang/RuntimeException", "<init>", "(Ljava/lang/String;)V"⟩, Cond.instanceMethod ⟨"java/lang/RuntimeException", "<init>", "(Ljava/lang/String;)V"⟩, Cond.code ⟨"java/lang/RuntimeException", "<init>", "(Ljava/lang/String;)V"⟩ prog_11_method_2_code 2 none, Cond.methodLink "java/lang/RuntimeException" 7 ⟨"java/lang/Exception", "<init>", "(Ljava/lang/String;)V"⟩, Cond.instanceMethod ⟨"java/lang/Exception", "<init>", "(Ljava/lang/String;)V"⟩, Cond.code ⟨"java/lang/Exception", "<init>", "(Ljava/lang/String;)V"⟩ prog_7_method_2_code 2 none, Cond.methodLink "java/lang/Exception" 7 ⟨"java/lang/Throwable", "<init>", "(Ljava/lang/String;)V"⟩, Cond.instanceMethod ⟨"java/lang/Throwable", "<init>", "(Ljava/lang/String;)V"⟩, Cond.code ⟨"java/lang/Throwable", "<init>", "(Ljava/lang/String;)V"⟩ prog_13_method_2_code 2 none]
def mcB_6 : List Cond := [Cond.fieldLink "java/lang/Throwable" 198 "java/lang/Throwable" "backtrace" "Ljava/lang/Object;", Cond.fieldLink "java/lang/Throwable" 31 "java/lang/Throwable" "detailMessage" "Ljava/lang/String;", Cond.fieldLink "java/lang/Throwable" 7 "java/lang/Throwable" "cause" "Ljava/lang/Throwable;", Cond.fieldLink "java/lang/Throwable" 17 "java/lang/Throwable" "stackTrace" "[Ljava/lang/StackTraceElement;", Cond.fieldLink "java/lang/Throwable" 24 "java/lang/Throwable" "suppressedExceptions" "Ljava/util/List;", Cond.soleField "java/lang/Throwable" "backtrace", Cond.soleField "java/lang/Throwable" "detailMessage", Cond.soleField "java/lang/Throwable" "cause", Cond.soleField "java/lang/Throwable" "stackTrace", Cond.lays "java/lang/IllegalArgumentException" "java/lang/Throwable" "depth" "I", Cond.soleField "java/lang/Throwable" "depth", Cond.soleField "java/lang/Throwable" "suppressedExceptions", Cond.superclass "java/lang/IllegalArgumentException" "java/lang/RuntimeException", Cond.arrayClass FieldType.byte, Cond.classLink "MeasureChoice" 38 "java/lang/IllegalStateException", Cond.instantiable "java/lang/IllegalStateException" 6, Cond.selects "java/lang/IllegalStateException" ⟨"java/lang/Throwable", "fillInStackTrace", "(I)Ljava/lang/Throwable;"⟩ ⟨"java/lang/Throwable", "fillInStackTrace", "(I)Ljava/lang/Throwable;"⟩, Cond.lays "java/lang/IllegalStateException" "java/lang/Throwable" "cause" "Ljava/lang/Throwable;", Cond.lays "java/lang/IllegalStateException" "java/lang/Throwable" "stackTrace" "[Ljava/lang/StackTraceElement;", Cond.lays "java/lang/IllegalStateException" "java/lang/Throwable" "suppressedExceptions" "Ljava/util/List;", Cond.lays "java/lang/IllegalStateException" "java/lang/Throwable" "detailMessage" "Ljava/lang/String;", Cond.lays "java/lang/IllegalStateException" "java/lang/Throwable" "backtrace" "Ljava/lang/Object;", Cond.methodLink "MeasureChoice" 42 ⟨"java/lang/IllegalStateException", "<init>", "(Ljava/lang/String;)V"⟩, Cond.instanceMethod ⟨"java/lang/IllegalStateException", "<init>", "(Ljava/lang/String;)V"⟩, Cond.code ⟨"java/lang/IllegalStateException", "<init>", "(Ljava/lang/String;)V"⟩ prog_9_method_2_code 2 none, Cond.methodLink "java/lang/IllegalStateException" 7 ⟨"java/lang/RuntimeException", "<init>", "(Ljava/lang/String;)V"⟩, Cond.lays "java/lang/IllegalStateException" "java/lang/Throwable" "depth" "I", Cond.superclass "java/lang/IllegalStateException" "java/lang/RuntimeException", Cond.methodLink "MeasureChoice" 45 ⟨"MeasureChoice$House", "add", "(II)I"⟩, Cond.instanceMethod ⟨"MeasureChoice$House", "add", "(II)I"⟩, Cond.selects "MeasureChoice$House" ⟨"MeasureChoice$House", "add", "(II)I"⟩ ⟨"MeasureChoice$House", "add", "(II)I"⟩, Cond.code ⟨"MeasureChoice$House", "add", "(II)I"⟩ prog_2_method_2_code 4 (some FieldType.int), Cond.methodLink "MeasureChoice$House" 33 ⟨"MeasureChoice$House", "put", "(III)V"⟩, Cond.instanceMethod ⟨"MeasureChoice$House", "put", "(III)V"⟩, Cond.selects "MeasureChoice$House" ⟨"MeasureChoice$House", "put", "(III)V"⟩ ⟨"MeasureChoice$House", "put", "(III)V"⟩, Cond.code ⟨"MeasureChoice$House", "put", "(III)V"⟩ prog_2_method_3_code 4 none, Cond.methodLink "MeasureChoiceLaw" 75 ⟨"MeasureChoiceLaw", "change", "(LMeasureChoice;III)I"⟩, Cond.static ⟨"MeasureChoiceLaw", "change", "(LMeasureChoice;III)I"⟩, Cond.codeWith ⟨"MeasureChoiceLaw", "change", "(LMeasureChoice;III)I"⟩ method_4_code 5 (some FieldType.int) [(0, 7, 10, 13)], Cond.methodLink "MeasureChoiceLaw" 17 ⟨"MeasureChoice", "change", "(III)V"⟩]
def mcB_7 : List Cond := [Cond.instanceMethod ⟨"MeasureChoice", "change", "(III)V"⟩, Cond.selects "MeasureChoice" ⟨"MeasureChoice", "change", "(III)V"⟩ ⟨"MeasureChoice", "change", "(III)V"⟩, Cond.code ⟨"MeasureChoice", "change", "(III)V"⟩ prog_1_method_3_code 4 none, Cond.methodLink "MeasureChoice" 49 ⟨"MeasureChoice", "requireMeasure", "(I)V"⟩, Cond.instanceMethod ⟨"MeasureChoice", "requireMeasure", "(I)V"⟩, Cond.code ⟨"MeasureChoice", "requireMeasure", "(I)V"⟩ prog_1_method_20_code 2 none, Cond.methodLink "MeasureChoice" 53 ⟨"MeasureChoice$House", "put", "(III)V"⟩, Cond.methodLink "MeasureChoiceLaw" 79 ⟨"MeasureChoiceLaw", "exclude", "(LMeasureChoice;IIZ[J)I"⟩, Cond.static ⟨"MeasureChoiceLaw", "exclude", "(LMeasureChoice;IIZ[J)I"⟩, Cond.codeWith ⟨"MeasureChoiceLaw", "exclude", "(LMeasureChoice;IIZ[J)I"⟩ method_5_code 6 (some FieldType.int) [(0, 19, 22, 13)], Cond.methodLink "MeasureChoiceLaw" 21 ⟨"MeasureChoice", "exclude", "(IIZ)Z"⟩, Cond.instanceMethod ⟨"MeasureChoice", "exclude", "(IIZ)Z"⟩, Cond.selects "MeasureChoice" ⟨"MeasureChoice", "exclude", "(IIZ)Z"⟩ ⟨"MeasureChoice", "exclude", "(IIZ)Z"⟩, Cond.code ⟨"MeasureChoice", "exclude", "(IIZ)Z"⟩ prog_1_method_4_code 5 (some FieldType.boolean), Cond.methodLink "MeasureChoice" 57 ⟨"MeasureChoice", "requirePair", "(II)V"⟩, Cond.instanceMethod ⟨"MeasureChoice", "requirePair", "(II)V"⟩, Cond.code ⟨"MeasureChoice", "requirePair", "(II)V"⟩ prog_1_method_21_code 3 none, Cond.methodLink "MeasureChoice" 64 ⟨"MeasureChoice$House", "has", "(II)Z"⟩, Cond.methodLink "MeasureChoice" 68 ⟨"MeasureChoice$House", "putExcluded", "(IIZ)V"⟩, Cond.instanceMethod ⟨"MeasureChoice$House", "putExcluded", "(IIZ)V"⟩, Cond.selects "MeasureChoice$House" ⟨"MeasureChoice$House", "putExcluded", "(IIZ)V"⟩ ⟨"MeasureChoice$House", "putExcluded", "(IIZ)V"⟩, Cond.code ⟨"MeasureChoice$House", "putExcluded", "(IIZ)V"⟩ prog_2_method_4_code 4 none, Cond.methodLink "MeasureChoice$House" 40 ⟨"MeasureChoice$House", "with", "(IIZ)I"⟩, Cond.static ⟨"MeasureChoice$House", "with", "(IIZ)I"⟩, Cond.code ⟨"MeasureChoice$House", "with", "(IIZ)I"⟩ prog_2_method_14_code 4 (some FieldType.int), Cond.methodLink "MeasureChoiceLaw" 83 ⟨"MeasureChoiceLaw", "needs", "(LMeasureChoice;IIZ[J)I"⟩, Cond.static ⟨"MeasureChoiceLaw", "needs", "(LMeasureChoice;IIZ[J)I"⟩, Cond.codeWith ⟨"MeasureChoiceLaw", "needs", "(LMeasureChoice;IIZ[J)I"⟩ method_6_code 6 (some FieldType.int) [(0, 19, 22, 13)], Cond.methodLink "MeasureChoiceLaw" 25 ⟨"MeasureChoice", "needs", "(IIZ)Z"⟩, Cond.instanceMethod ⟨"MeasureChoice", "needs", "(IIZ)Z"⟩, Cond.selects "MeasureChoice" ⟨"MeasureChoice", "needs", "(IIZ)Z"⟩ ⟨"MeasureChoice", "needs", "(IIZ)Z"⟩, Cond.code ⟨"MeasureChoice", "needs", "(IIZ)Z"⟩ prog_1_method_5_code 5 (some FieldType.boolean), Cond.methodLink "MeasureChoice" 75 ⟨"MeasureChoice$House", "putNeeded", "(IIZ)V"⟩, Cond.instanceMethod ⟨"MeasureChoice$House", "putNeeded", "(IIZ)V"⟩, Cond.selects "MeasureChoice$House" ⟨"MeasureChoice$House", "putNeeded", "(IIZ)V"⟩ ⟨"MeasureChoice$House", "putNeeded", "(IIZ)V"⟩, Cond.code ⟨"MeasureChoice$House", "putNeeded", "(IIZ)V"⟩ prog_2_method_5_code 4 none, Cond.methodLink "MeasureChoiceLaw" 86 ⟨"MeasureChoiceLaw", "bonus", "(LMeasureChoice;III[J)I"⟩, Cond.static ⟨"MeasureChoiceLaw", "bonus", "(LMeasureChoice;III[J)I"⟩, Cond.codeWith ⟨"MeasureChoiceLaw", "bonus", "(LMeasureChoice;III[J)I"⟩ method_7_code 6 (some FieldType.int) [(0, 12, 15, 13)], Cond.methodLink "MeasureChoiceLaw" 28 ⟨"MeasureChoice", "bonus", "(III)I"⟩]
def mcB_8 : List Cond := [Cond.instanceMethod ⟨"MeasureChoice", "bonus", "(III)I"⟩, Cond.selects "MeasureChoice" ⟨"MeasureChoice", "bonus", "(III)I"⟩ ⟨"MeasureChoice", "bonus", "(III)I"⟩, Cond.code ⟨"MeasureChoice", "bonus", "(III)I"⟩ prog_1_method_6_code 5 (some FieldType.int), Cond.methodLink "MeasureChoice" 85 ⟨"MeasureChoice$House", "putBonus", "(III)V"⟩, Cond.instanceMethod ⟨"MeasureChoice$House", "putBonus", "(III)V"⟩, Cond.selects "MeasureChoice$House" ⟨"MeasureChoice$House", "putBonus", "(III)V"⟩ ⟨"MeasureChoice$House", "putBonus", "(III)V"⟩, Cond.code ⟨"MeasureChoice$House", "putBonus", "(III)V"⟩ prog_2_method_6_code 4 none, Cond.methodLink "MeasureChoiceLaw" 90 ⟨"MeasureChoiceLaw", "lawful", "(LMeasureChoice;I[J)I"⟩, Cond.static ⟨"MeasureChoiceLaw", "lawful", "(LMeasureChoice;I[J)I"⟩, Cond.codeWith ⟨"MeasureChoiceLaw", "lawful", "(LMeasureChoice;I[J)I"⟩ method_8_code 4 (some FieldType.int) [(0, 16, 19, 13)], Cond.methodLink "MeasureChoiceLaw" 32 ⟨"MeasureChoice", "lawful", "(I)Z"⟩, Cond.instanceMethod ⟨"MeasureChoice", "lawful", "(I)Z"⟩, Cond.selects "MeasureChoice" ⟨"MeasureChoice", "lawful", "(I)Z"⟩ ⟨"MeasureChoice", "lawful", "(I)Z"⟩, Cond.code ⟨"MeasureChoice", "lawful", "(I)Z"⟩ prog_1_method_7_code 2 (some FieldType.boolean), Cond.methodLink "MeasureChoice" 88 ⟨"MeasureChoice", "requireSet", "(I)V"⟩, Cond.instanceMethod ⟨"MeasureChoice", "requireSet", "(I)V"⟩, Cond.code ⟨"MeasureChoice", "requireSet", "(I)V"⟩ prog_1_method_22_code 2 none, Cond.methodLink "MeasureChoice" 91 ⟨"MeasureChoice$House", "allows", "(I)Z"⟩, Cond.methodLink "MeasureChoiceLaw" 94 ⟨"MeasureChoiceLaw", "told", "(LMeasureChoice;II[J)I"⟩, Cond.static ⟨"MeasureChoiceLaw", "told", "(LMeasureChoice;II[J)I"⟩, Cond.codeWith ⟨"MeasureChoiceLaw", "told", "(LMeasureChoice;II[J)I"⟩ method_9_code 5 (some FieldType.int) [(0, 10, 13, 13)], Cond.methodLink "MeasureChoiceLaw" 36 ⟨"MeasureChoice", "told", "(II)I"⟩, Cond.instanceMethod ⟨"MeasureChoice", "told", "(II)I"⟩, Cond.selects "MeasureChoice" ⟨"MeasureChoice", "told", "(II)I"⟩ ⟨"MeasureChoice", "told", "(II)I"⟩, Cond.code ⟨"MeasureChoice", "told", "(II)I"⟩ prog_1_method_8_code 3 (some FieldType.int), Cond.methodLink "MeasureChoice" 95 ⟨"MeasureChoice$House", "costOf", "(I)I"⟩, Cond.instanceMethod ⟨"MeasureChoice$House", "costOf", "(I)I"⟩, Cond.selects "MeasureChoice$House" ⟨"MeasureChoice$House", "costOf", "(I)I"⟩ ⟨"MeasureChoice$House", "costOf", "(I)I"⟩, Cond.code ⟨"MeasureChoice$House", "costOf", "(I)I"⟩ prog_2_method_8_code 4 (some FieldType.int), Cond.methodLink "MeasureChoice" 99 ⟨"MeasureChoice$House", "gainOf", "(I)I"⟩, Cond.instanceMethod ⟨"MeasureChoice$House", "gainOf", "(I)I"⟩, Cond.selects "MeasureChoice$House" ⟨"MeasureChoice$House", "gainOf", "(I)I"⟩ ⟨"MeasureChoice$House", "gainOf", "(I)I"⟩, Cond.code ⟨"MeasureChoice$House", "gainOf", "(I)I"⟩ prog_2_method_9_code 4 (some FieldType.int), Cond.methodLink "MeasureChoice$House" 48 ⟨"MeasureChoice$House", "bonusWithEarlier", "(II)I"⟩, Cond.instanceMethod ⟨"MeasureChoice$House", "bonusWithEarlier", "(II)I"⟩, Cond.code ⟨"MeasureChoice$House", "bonusWithEarlier", "(II)I"⟩ prog_2_method_10_code 5 (some FieldType.int), Cond.methodLink "MeasureChoiceLaw" 97 ⟨"MeasureChoiceLaw", "closure", "(LMeasureChoice;I[J)I"⟩, Cond.static ⟨"MeasureChoiceLaw", "closure", "(LMeasureChoice;I[J)I"⟩, Cond.codeWith ⟨"MeasureChoiceLaw", "closure", "(LMeasureChoice;I[J)I"⟩ method_10_code 4 (some FieldType.int) [(0, 9, 12, 13)], Cond.methodLink "MeasureChoiceLaw" 39 ⟨"MeasureChoice", "closure", "(I)I"⟩]
def mcB_9 : List Cond := [Cond.instanceMethod ⟨"MeasureChoice", "closure", "(I)I"⟩, Cond.selects "MeasureChoice" ⟨"MeasureChoice", "closure", "(I)I"⟩ ⟨"MeasureChoice", "closure", "(I)I"⟩, Cond.code ⟨"MeasureChoice", "closure", "(I)I"⟩ prog_1_method_9_code 2 (some FieldType.int), Cond.methodLink "MeasureChoice" 102 ⟨"MeasureChoice$House", "broughtBy", "(I)I"⟩, Cond.instanceMethod ⟨"MeasureChoice$House", "broughtBy", "(I)I"⟩, Cond.selects "MeasureChoice$House" ⟨"MeasureChoice$House", "broughtBy", "(I)I"⟩ ⟨"MeasureChoice$House", "broughtBy", "(I)I"⟩, Cond.code ⟨"MeasureChoice$House", "broughtBy", "(I)I"⟩ prog_2_method_11_code 4 (some FieldType.int), Cond.methodLink "MeasureChoice$House" 52 ⟨"MeasureChoice$House", "withItsNeeds", "(I)I"⟩, Cond.instanceMethod ⟨"MeasureChoice$House", "withItsNeeds", "(I)I"⟩, Cond.code ⟨"MeasureChoice$House", "withItsNeeds", "(I)I"⟩ prog_2_method_12_code 4 (some FieldType.int), Cond.methodLink "MeasureChoiceLaw" 100 ⟨"MeasureChoiceLaw", "best", "(LMeasureChoice;I[J)I"⟩, Cond.static ⟨"MeasureChoiceLaw", "best", "(LMeasureChoice;I[J)I"⟩, Cond.codeWith ⟨"MeasureChoiceLaw", "best", "(LMeasureChoice;I[J)I"⟩ method_11_code 4 (some FieldType.int) [(0, 9, 12, 13)], Cond.methodLink "MeasureChoiceLaw" 43 ⟨"MeasureChoice", "best", "(I)I"⟩, Cond.instanceMethod ⟨"MeasureChoice", "best", "(I)I"⟩, Cond.selects "MeasureChoice" ⟨"MeasureChoice", "best", "(I)I"⟩ ⟨"MeasureChoice", "best", "(I)I"⟩, Cond.code ⟨"MeasureChoice", "best", "(I)I"⟩ prog_1_method_10_code 2 (some FieldType.int), Cond.methodLink "MeasureChoice" 105 ⟨"MeasureChoice", "requireNotBelowZero", "(I)V"⟩, Cond.static ⟨"MeasureChoice", "requireNotBelowZero", "(I)V"⟩, Cond.code ⟨"MeasureChoice", "requireNotBelowZero", "(I)V"⟩ prog_1_method_18_code 1 none, Cond.methodLink "MeasureChoice" 112 ⟨"MeasureChoice$Ladder", "highestWithin", "(I)I"⟩, Cond.instanceMethod ⟨"MeasureChoice$Ladder", "highestWithin", "(I)I"⟩, Cond.selects "MeasureChoice$Ladder" ⟨"MeasureChoice$Ladder", "highestWithin", "(I)I"⟩ ⟨"MeasureChoice$Ladder", "highestWithin", "(I)I"⟩, Cond.code ⟨"MeasureChoice$Ladder", "highestWithin", "(I)I"⟩ prog_3_method_5_code 4 (some FieldType.int), Cond.methodLink "MeasureChoice" 115 ⟨"MeasureChoice$Ladder", "setAt", "(I)I"⟩, Cond.methodLink "MeasureChoiceLaw" 107 ⟨"MeasureChoiceLaw", "worth", "(LMeasureChoice;II[J)I"⟩, Cond.static ⟨"MeasureChoiceLaw", "worth", "(LMeasureChoice;II[J)I"⟩, Cond.codeWith ⟨"MeasureChoiceLaw", "worth", "(LMeasureChoice;II[J)I"⟩ method_12_code 5 (some FieldType.int) [(0, 10, 13, 13)], Cond.methodLink "MeasureChoiceLaw" 46 ⟨"MeasureChoice", "worth", "(II)I"⟩, Cond.instanceMethod ⟨"MeasureChoice", "worth", "(II)I"⟩, Cond.selects "MeasureChoice" ⟨"MeasureChoice", "worth", "(II)I"⟩ ⟨"MeasureChoice", "worth", "(II)I"⟩, Cond.code ⟨"MeasureChoice", "worth", "(II)I"⟩ prog_1_method_12_code 4 (some FieldType.int), Cond.constant "MeasureChoice" 124 (1000000 : Int32), Cond.methodLink "MeasureChoice" 130 ⟨"MeasureChoice$Ladder", "gainAt", "(I)I"⟩, Cond.methodLink "MeasureChoiceLaw" 110 ⟨"MeasureChoiceLaw", "frontier", "(LMeasureChoice;I[J)I"⟩, Cond.static ⟨"MeasureChoiceLaw", "frontier", "(LMeasureChoice;I[J)I"⟩, Cond.codeWith ⟨"MeasureChoiceLaw", "frontier", "(LMeasureChoice;I[J)I"⟩ method_13_code 4 (some FieldType.int) [(0, 9, 12, 13)], Cond.methodLink "MeasureChoiceLaw" 49 ⟨"MeasureChoice", "frontier", "(I)I"⟩, Cond.instanceMethod ⟨"MeasureChoice", "frontier", "(I)I"⟩, Cond.selects "MeasureChoice" ⟨"MeasureChoice", "frontier", "(I)I"⟩ ⟨"MeasureChoice", "frontier", "(I)I"⟩]
def mcB_10 : List Cond := [Cond.code ⟨"MeasureChoice", "frontier", "(I)I"⟩ prog_1_method_13_code 2 (some FieldType.int), Cond.methodLink "MeasureChoiceLaw" 113 ⟨"MeasureChoiceLaw", "year", "(LMeasureChoice;II[J)I"⟩, Cond.static ⟨"MeasureChoiceLaw", "year", "(LMeasureChoice;II[J)I"⟩, Cond.codeWith ⟨"MeasureChoiceLaw", "year", "(LMeasureChoice;II[J)I"⟩ method_14_code 5 (some FieldType.int) [(0, 10, 13, 13)], Cond.methodLink "MeasureChoiceLaw" 52 ⟨"MeasureChoice", "year", "(II)I"⟩, Cond.instanceMethod ⟨"MeasureChoice", "year", "(II)I"⟩, Cond.selects "MeasureChoice" ⟨"MeasureChoice", "year", "(II)I"⟩ ⟨"MeasureChoice", "year", "(II)I"⟩, Cond.code ⟨"MeasureChoice", "year", "(II)I"⟩ prog_1_method_14_code 4 (some FieldType.int), Cond.constant "MeasureChoice" 136 (100000 : Int32), Cond.methodLink "MeasureChoiceLaw" 116 ⟨"MeasureChoiceLaw", "plan", "(LMeasureChoice;II[J)I"⟩, Cond.static ⟨"MeasureChoiceLaw", "plan", "(LMeasureChoice;II[J)I"⟩, Cond.codeWith ⟨"MeasureChoiceLaw", "plan", "(LMeasureChoice;II[J)I"⟩ method_15_code 5 (some FieldType.int) [(0, 10, 13, 13)], Cond.methodLink "MeasureChoiceLaw" 55 ⟨"MeasureChoice", "plan", "(II)I"⟩, Cond.instanceMethod ⟨"MeasureChoice", "plan", "(II)I"⟩, Cond.selects "MeasureChoice" ⟨"MeasureChoice", "plan", "(II)I"⟩ ⟨"MeasureChoice", "plan", "(II)I"⟩, Cond.code ⟨"MeasureChoice", "plan", "(II)I"⟩ prog_1_method_15_code 3 (some FieldType.int), Cond.methodLink "MeasureChoice" 140 ⟨"MeasureChoice$Planner", "work", "(LMeasureChoice$House;I)V"⟩, Cond.instanceMethod ⟨"MeasureChoice$Planner", "work", "(LMeasureChoice$House;I)V"⟩, Cond.selects "MeasureChoice$Planner" ⟨"MeasureChoice$Planner", "work", "(LMeasureChoice$House;I)V"⟩ ⟨"MeasureChoice$Planner", "work", "(LMeasureChoice$House;I)V"⟩, Cond.code ⟨"MeasureChoice$Planner", "work", "(LMeasureChoice$House;I)V"⟩ prog_4_method_2_code 4 none, Cond.methodLink "MeasureChoice$Planner" 32 ⟨"MeasureChoice$Planner", "fillPurses", "()V"⟩, Cond.instanceMethod ⟨"MeasureChoice$Planner", "fillPurses", "()V"⟩, Cond.code ⟨"MeasureChoice$Planner", "fillPurses", "()V"⟩ prog_4_method_4_code 3 none, Cond.methodLink "MeasureChoice$Planner" 35 ⟨"MeasureChoice$Planner", "judgeSets", "(LMeasureChoice$House;)V"⟩, Cond.instanceMethod ⟨"MeasureChoice$Planner", "judgeSets", "(LMeasureChoice$House;)V"⟩, Cond.code ⟨"MeasureChoice$Planner", "judgeSets", "(LMeasureChoice$House;)V"⟩ prog_4_method_5_code 3 none, Cond.methodLink "MeasureChoice$Planner" 53 ⟨"java/lang/Math", "min", "(II)I"⟩, Cond.static ⟨"java/lang/Math", "min", "(II)I"⟩, Cond.code ⟨"java/lang/Math", "min", "(II)I"⟩ prog_10_method_69_code 2 (some FieldType.int), Cond.methodLink "MeasureChoice$Planner" 61 ⟨"MeasureChoice$House", "allows", "(I)Z"⟩, Cond.methodLink "MeasureChoice$Planner" 65 ⟨"MeasureChoice$House", "costOf", "(I)I"⟩, Cond.constant "MeasureChoice$Planner" 69 (400001 : Int32), Cond.methodLink "MeasureChoice$Planner" 70 ⟨"MeasureChoice$House", "gainOf", "(I)I"⟩, Cond.methodLink "MeasureChoice$Planner" 39 ⟨"MeasureChoice$Planner", "workYear", "(IZ)V"⟩, Cond.instanceMethod ⟨"MeasureChoice$Planner", "workYear", "(IZ)V"⟩, Cond.code ⟨"MeasureChoice$Planner", "workYear", "(IZ)V"⟩ prog_4_method_6_code 5 none, Cond.methodLink "MeasureChoice$Planner" 43 ⟨"MeasureChoice$Planner", "bestFrom", "(II)I"⟩, Cond.instanceMethod ⟨"MeasureChoice$Planner", "bestFrom", "(II)I"⟩, Cond.code ⟨"MeasureChoice$Planner", "bestFrom", "(II)I"⟩ prog_4_method_7_code 5 (some FieldType.int), Cond.methodLink "MeasureChoice$Planner" 73 ⟨"MeasureChoice$Planner", "isBetter", "(III)Z"⟩]
def mcB_11 : List Cond := [Cond.instanceMethod ⟨"MeasureChoice$Planner", "isBetter", "(III)Z"⟩, Cond.code ⟨"MeasureChoice$Planner", "isBetter", "(III)Z"⟩ prog_4_method_8_code 4 (some FieldType.boolean), Cond.methodLink "MeasureChoice" 144 ⟨"MeasureChoice$Planner", "boughtUpTo", "(I)I"⟩, Cond.instanceMethod ⟨"MeasureChoice$Planner", "boughtUpTo", "(I)I"⟩, Cond.selects "MeasureChoice$Planner" ⟨"MeasureChoice$Planner", "boughtUpTo", "(I)I"⟩ ⟨"MeasureChoice$Planner", "boughtUpTo", "(I)I"⟩, Cond.code ⟨"MeasureChoice$Planner", "boughtUpTo", "(I)I"⟩ prog_4_method_3_code 4 (some FieldType.int), Cond.methodLink "MeasureChoiceLaw" 119 ⟨"MeasureChoiceLaw", "planned", "(LMeasureChoice;I[J)I"⟩, Cond.static ⟨"MeasureChoiceLaw", "planned", "(LMeasureChoice;I[J)I"⟩, Cond.codeWith ⟨"MeasureChoiceLaw", "planned", "(LMeasureChoice;I[J)I"⟩ method_16_code 4 (some FieldType.int) [(0, 9, 12, 13)], Cond.methodLink "MeasureChoiceLaw" 58 ⟨"MeasureChoice", "planned", "(I)I"⟩, Cond.instanceMethod ⟨"MeasureChoice", "planned", "(I)I"⟩, Cond.selects "MeasureChoice" ⟨"MeasureChoice", "planned", "(I)I"⟩ ⟨"MeasureChoice", "planned", "(I)I"⟩, Cond.code ⟨"MeasureChoice", "planned", "(I)I"⟩ prog_1_method_16_code 2 (some FieldType.int), Cond.classLink "MeasureChoiceLaw" 62 "MeasureChoiceModel", Cond.instantiable "MeasureChoiceModel" 11, Cond.methodLink "MeasureChoiceLaw" 64 ⟨"MeasureChoiceModel", "<init>", "()V"⟩, Cond.instanceMethod ⟨"MeasureChoiceModel", "<init>", "()V"⟩, Cond.code ⟨"MeasureChoiceModel", "<init>", "()V"⟩ prog_6_method_1_code 1 none, Cond.methodLink "MeasureChoiceModel" 1 ⟨"java/lang/Object", "<init>", "()V"⟩, Cond.fieldLink "MeasureChoiceModel" 38 "MeasureChoiceModel" "thrown" "I", Cond.fieldLink "MeasureChoiceModel" 42 "MeasureChoiceModel" "many" "I", Cond.fieldLink "MeasureChoiceModel" 7 "MeasureChoiceModel" "costs" "[I", Cond.fieldLink "MeasureChoiceModel" 13 "MeasureChoiceModel" "gains" "[I", Cond.fieldLink "MeasureChoiceModel" 16 "MeasureChoiceModel" "barred" "[Z", Cond.fieldLink "MeasureChoiceModel" 20 "MeasureChoiceModel" "wants" "[Z", Cond.fieldLink "MeasureChoiceModel" 23 "MeasureChoiceModel" "bonuses" "[I", Cond.fieldLink "MeasureChoiceModel" 26 "MeasureChoiceModel" "budgets" "[I", Cond.fieldLink "MeasureChoiceModel" 29 "MeasureChoiceModel" "laterGain" "[I", Cond.fieldLink "MeasureChoiceModel" 32 "MeasureChoiceModel" "laterCost" "[I", Cond.fieldLink "MeasureChoiceModel" 35 "MeasureChoiceModel" "choice" "[I", Cond.lays "MeasureChoiceModel" "MeasureChoiceModel" "thrown" "I", Cond.soleField "MeasureChoiceModel" "thrown", Cond.lays "MeasureChoiceModel" "MeasureChoiceModel" "many" "I", Cond.soleField "MeasureChoiceModel" "many", Cond.laysFinal "MeasureChoiceModel" "MeasureChoiceModel" "costs" "[I", Cond.soleField "MeasureChoiceModel" "costs", Cond.laysFinal "MeasureChoiceModel" "MeasureChoiceModel" "gains" "[I", Cond.soleField "MeasureChoiceModel" "gains", Cond.laysFinal "MeasureChoiceModel" "MeasureChoiceModel" "barred" "[Z", Cond.soleField "MeasureChoiceModel" "barred"]
def mcB_12 : List Cond := [Cond.laysFinal "MeasureChoiceModel" "MeasureChoiceModel" "wants" "[Z", Cond.soleField "MeasureChoiceModel" "wants", Cond.laysFinal "MeasureChoiceModel" "MeasureChoiceModel" "bonuses" "[I", Cond.soleField "MeasureChoiceModel" "bonuses", Cond.laysFinal "MeasureChoiceModel" "MeasureChoiceModel" "budgets" "[I", Cond.soleField "MeasureChoiceModel" "budgets", Cond.laysFinal "MeasureChoiceModel" "MeasureChoiceModel" "laterGain" "[I", Cond.soleField "MeasureChoiceModel" "laterGain", Cond.laysFinal "MeasureChoiceModel" "MeasureChoiceModel" "laterCost" "[I", Cond.soleField "MeasureChoiceModel" "laterCost", Cond.laysFinal "MeasureChoiceModel" "MeasureChoiceModel" "choice" "[I", Cond.soleField "MeasureChoiceModel" "choice", Cond.superclass "MeasureChoiceModel" "java/lang/Object", Cond.arrayClass FieldType.boolean, Cond.methodLink "MeasureChoiceLaw" 71 ⟨"MeasureChoiceModel", "thrown", "()I"⟩, Cond.instanceMethod ⟨"MeasureChoiceModel", "thrown", "()I"⟩, Cond.selects "MeasureChoiceModel" ⟨"MeasureChoiceModel", "thrown", "()I"⟩ ⟨"MeasureChoiceModel", "thrown", "()I"⟩, Cond.code ⟨"MeasureChoiceModel", "thrown", "()I"⟩ prog_6_method_2_code 1 (some FieldType.int), Cond.methodLink "MeasureChoiceLaw" 70 ⟨"MeasureChoiceModel", "measure", "(II)I"⟩, Cond.instanceMethod ⟨"MeasureChoiceModel", "measure", "(II)I"⟩, Cond.selects "MeasureChoiceModel" ⟨"MeasureChoiceModel", "measure", "(II)I"⟩ ⟨"MeasureChoiceModel", "measure", "(II)I"⟩, Cond.code ⟨"MeasureChoiceModel", "measure", "(II)I"⟩ prog_6_method_6_code 3 (some FieldType.int), Cond.methodLink "MeasureChoiceModel" 45 ⟨"MeasureChoiceModel", "in", "(III)Z"⟩, Cond.static ⟨"MeasureChoiceModel", "in", "(III)Z"⟩, Cond.code ⟨"MeasureChoiceModel", "in", "(III)Z"⟩ prog_6_method_3_code 3 (some FieldType.boolean), Cond.methodLink "MeasureChoiceModel" 49 ⟨"MeasureChoiceModel", "good", "(Z)Z"⟩, Cond.instanceMethod ⟨"MeasureChoiceModel", "good", "(Z)Z"⟩, Cond.code ⟨"MeasureChoiceModel", "good", "(Z)Z"⟩ prog_6_method_5_code 2 (some FieldType.boolean), Cond.methodLink "MeasureChoiceLaw" 78 ⟨"MeasureChoiceModel", "change", "(III)V"⟩, Cond.instanceMethod ⟨"MeasureChoiceModel", "change", "(III)V"⟩, Cond.selects "MeasureChoiceModel" ⟨"MeasureChoiceModel", "change", "(III)V"⟩ ⟨"MeasureChoiceModel", "change", "(III)V"⟩, Cond.code ⟨"MeasureChoiceModel", "change", "(III)V"⟩ prog_6_method_7_code 4 none, Cond.methodLink "MeasureChoiceModel" 53 ⟨"MeasureChoiceModel", "is", "(I)Z"⟩, Cond.instanceMethod ⟨"MeasureChoiceModel", "is", "(I)Z"⟩, Cond.code ⟨"MeasureChoiceModel", "is", "(I)Z"⟩ prog_6_method_4_code 2 (some FieldType.boolean), Cond.methodLink "MeasureChoiceLaw" 82 ⟨"MeasureChoiceModel", "exclude", "(IIZ)Z"⟩, Cond.instanceMethod ⟨"MeasureChoiceModel", "exclude", "(IIZ)Z"⟩, Cond.selects "MeasureChoiceModel" ⟨"MeasureChoiceModel", "exclude", "(IIZ)Z"⟩ ⟨"MeasureChoiceModel", "exclude", "(IIZ)Z"⟩, Cond.code ⟨"MeasureChoiceModel", "exclude", "(IIZ)Z"⟩ prog_6_method_8_code 5 (some FieldType.boolean), Cond.methodLink "MeasureChoiceLaw" 85 ⟨"MeasureChoiceModel", "needs", "(IIZ)Z"⟩]
def mcB_13 : List Cond := [Cond.instanceMethod ⟨"MeasureChoiceModel", "needs", "(IIZ)Z"⟩, Cond.selects "MeasureChoiceModel" ⟨"MeasureChoiceModel", "needs", "(IIZ)Z"⟩ ⟨"MeasureChoiceModel", "needs", "(IIZ)Z"⟩, Cond.code ⟨"MeasureChoiceModel", "needs", "(IIZ)Z"⟩ prog_6_method_9_code 5 (some FieldType.boolean), Cond.methodLink "MeasureChoiceLaw" 89 ⟨"MeasureChoiceModel", "bonus", "(III)I"⟩, Cond.instanceMethod ⟨"MeasureChoiceModel", "bonus", "(III)I"⟩, Cond.selects "MeasureChoiceModel" ⟨"MeasureChoiceModel", "bonus", "(III)I"⟩ ⟨"MeasureChoiceModel", "bonus", "(III)I"⟩, Cond.code ⟨"MeasureChoiceModel", "bonus", "(III)I"⟩ prog_6_method_10_code 5 (some FieldType.int), Cond.methodLink "MeasureChoiceLaw" 93 ⟨"MeasureChoiceModel", "lawful", "(I)Z"⟩, Cond.instanceMethod ⟨"MeasureChoiceModel", "lawful", "(I)Z"⟩, Cond.selects "MeasureChoiceModel" ⟨"MeasureChoiceModel", "lawful", "(I)Z"⟩ ⟨"MeasureChoiceModel", "lawful", "(I)Z"⟩, Cond.code ⟨"MeasureChoiceModel", "lawful", "(I)Z"⟩ prog_6_method_16_code 2 (some FieldType.boolean), Cond.methodLink "MeasureChoiceModel" 61 ⟨"MeasureChoiceModel", "isSet", "(I)Z"⟩, Cond.instanceMethod ⟨"MeasureChoiceModel", "isSet", "(I)Z"⟩, Cond.code ⟨"MeasureChoiceModel", "isSet", "(I)Z"⟩ prog_6_method_12_code 2 (some FieldType.boolean), Cond.methodLink "MeasureChoiceModel" 64 ⟨"MeasureChoiceModel", "holds", "(I)Z"⟩, Cond.instanceMethod ⟨"MeasureChoiceModel", "holds", "(I)Z"⟩, Cond.code ⟨"MeasureChoiceModel", "holds", "(I)Z"⟩ prog_6_method_13_code 5 (some FieldType.boolean), Cond.methodLink "MeasureChoiceModel" 57 ⟨"MeasureChoiceModel", "has", "(II)Z"⟩, Cond.static ⟨"MeasureChoiceModel", "has", "(II)Z"⟩, Cond.code ⟨"MeasureChoiceModel", "has", "(II)Z"⟩ prog_6_method_11_code 2 (some FieldType.boolean), Cond.methodLink "MeasureChoiceLaw" 96 ⟨"MeasureChoiceModel", "told", "(II)I"⟩, Cond.instanceMethod ⟨"MeasureChoiceModel", "told", "(II)I"⟩, Cond.selects "MeasureChoiceModel" ⟨"MeasureChoiceModel", "told", "(II)I"⟩ ⟨"MeasureChoiceModel", "told", "(II)I"⟩, Cond.code ⟨"MeasureChoiceModel", "told", "(II)I"⟩ prog_6_method_17_code 3 (some FieldType.int), Cond.methodLink "MeasureChoiceModel" 67 ⟨"MeasureChoiceModel", "costOf", "(I)I"⟩, Cond.instanceMethod ⟨"MeasureChoiceModel", "costOf", "(I)I"⟩, Cond.code ⟨"MeasureChoiceModel", "costOf", "(I)I"⟩ prog_6_method_14_code 4 (some FieldType.int), Cond.methodLink "MeasureChoiceModel" 71 ⟨"MeasureChoiceModel", "gainOf", "(I)I"⟩, Cond.instanceMethod ⟨"MeasureChoiceModel", "gainOf", "(I)I"⟩, Cond.code ⟨"MeasureChoiceModel", "gainOf", "(I)I"⟩ prog_6_method_15_code 5 (some FieldType.int), Cond.methodLink "MeasureChoiceLaw" 99 ⟨"MeasureChoiceModel", "closure", "(I)I"⟩, Cond.instanceMethod ⟨"MeasureChoiceModel", "closure", "(I)I"⟩, Cond.selects "MeasureChoiceModel" ⟨"MeasureChoiceModel", "closure", "(I)I"⟩ ⟨"MeasureChoiceModel", "closure", "(I)I"⟩, Cond.code ⟨"MeasureChoiceModel", "closure", "(I)I"⟩ prog_6_method_18_code 6 (some FieldType.int), Cond.methodLink "MeasureChoiceLaw" 102 ⟨"MeasureChoiceModel", "best", "(I)I"⟩, Cond.instanceMethod ⟨"MeasureChoiceModel", "best", "(I)I"⟩, Cond.selects "MeasureChoiceModel" ⟨"MeasureChoiceModel", "best", "(I)I"⟩ ⟨"MeasureChoiceModel", "best", "(I)I"⟩, Cond.code ⟨"MeasureChoiceModel", "best", "(I)I"⟩ prog_6_method_20_code 2 (some FieldType.int), Cond.methodLink "MeasureChoiceModel" 74 ⟨"MeasureChoiceModel", "bestOf", "(J)I"⟩, Cond.instanceMethod ⟨"MeasureChoiceModel", "bestOf", "(J)I"⟩]
def mcB_14 : List Cond := [Cond.code ⟨"MeasureChoiceModel", "bestOf", "(J)I"⟩ prog_6_method_19_code 10 (some FieldType.int), Cond.methodLink "MeasureChoiceLaw" 106 ⟨"MeasureChoiceModel", "budget", "(I)I"⟩, Cond.instanceMethod ⟨"MeasureChoiceModel", "budget", "(I)I"⟩, Cond.selects "MeasureChoiceModel" ⟨"MeasureChoiceModel", "budget", "(I)I"⟩ ⟨"MeasureChoiceModel", "budget", "(I)I"⟩, Cond.code ⟨"MeasureChoiceModel", "budget", "(I)I"⟩ prog_6_method_21_code 6 (some FieldType.int), Cond.methodLink "MeasureChoiceLaw" 109 ⟨"MeasureChoiceModel", "worth", "(II)I"⟩, Cond.instanceMethod ⟨"MeasureChoiceModel", "worth", "(II)I"⟩, Cond.selects "MeasureChoiceModel" ⟨"MeasureChoiceModel", "worth", "(II)I"⟩ ⟨"MeasureChoiceModel", "worth", "(II)I"⟩, Cond.code ⟨"MeasureChoiceModel", "worth", "(II)I"⟩ prog_6_method_22_code 3 (some FieldType.int), Cond.constantLong "MeasureChoiceModel" 78 (1000000 : Int64), Cond.methodLink "MeasureChoiceLaw" 112 ⟨"MeasureChoiceModel", "frontier", "(I)I"⟩, Cond.instanceMethod ⟨"MeasureChoiceModel", "frontier", "(I)I"⟩, Cond.selects "MeasureChoiceModel" ⟨"MeasureChoiceModel", "frontier", "(I)I"⟩ ⟨"MeasureChoiceModel", "frontier", "(I)I"⟩, Cond.code ⟨"MeasureChoiceModel", "frontier", "(I)I"⟩ prog_6_method_24_code 4 (some FieldType.int), Cond.methodLink "MeasureChoiceModel" 80 ⟨"MeasureChoiceModel", "dearer", "(II)I"⟩, Cond.instanceMethod ⟨"MeasureChoiceModel", "dearer", "(II)I"⟩, Cond.code ⟨"MeasureChoiceModel", "dearer", "(II)I"⟩ prog_6_method_23_code 11 (some FieldType.int), Cond.methodLink "MeasureChoiceLaw" 115 ⟨"MeasureChoiceModel", "year", "(II)I"⟩, Cond.instanceMethod ⟨"MeasureChoiceModel", "year", "(II)I"⟩, Cond.selects "MeasureChoiceModel" ⟨"MeasureChoiceModel", "year", "(II)I"⟩ ⟨"MeasureChoiceModel", "year", "(II)I"⟩, Cond.code ⟨"MeasureChoiceModel", "year", "(II)I"⟩ prog_6_method_25_code 4 (some FieldType.int), Cond.constant "MeasureChoiceModel" 84 (100000 : Int32), Cond.methodLink "MeasureChoiceLaw" 118 ⟨"MeasureChoiceModel", "plan", "(II)I"⟩, Cond.instanceMethod ⟨"MeasureChoiceModel", "plan", "(II)I"⟩, Cond.selects "MeasureChoiceModel" ⟨"MeasureChoiceModel", "plan", "(II)I"⟩ ⟨"MeasureChoiceModel", "plan", "(II)I"⟩, Cond.code ⟨"MeasureChoiceModel", "plan", "(II)I"⟩ prog_6_method_28_code 5 (some FieldType.int), Cond.methodLink "MeasureChoiceModel" 89 ⟨"MeasureChoiceModel", "work", "(I)V"⟩, Cond.instanceMethod ⟨"MeasureChoiceModel", "work", "(I)V"⟩, Cond.code ⟨"MeasureChoiceModel", "work", "(I)V"⟩ prog_6_method_26_code 6 none, Cond.methodLink "MeasureChoiceModel" 85 ⟨"MeasureChoiceModel", "workOf", "(IIII)V"⟩, Cond.instanceMethod ⟨"MeasureChoiceModel", "workOf", "(IIII)V"⟩, Cond.code ⟨"MeasureChoiceModel", "workOf", "(IIII)V"⟩ prog_6_method_27_code 11 none, Cond.methodLink "MeasureChoiceLaw" 121 ⟨"MeasureChoiceModel", "planned", "(I)I"⟩, Cond.instanceMethod ⟨"MeasureChoiceModel", "planned", "(I)I"⟩, Cond.selects "MeasureChoiceModel" ⟨"MeasureChoiceModel", "planned", "(I)I"⟩ ⟨"MeasureChoiceModel", "planned", "(I)I"⟩, Cond.code ⟨"MeasureChoiceModel", "planned", "(I)I"⟩ prog_6_method_29_code 2 (some FieldType.int), Cond.arrayClass FieldType.long, Cond.sameMethod "java/lang/Throwable" "java/lang/Throwable" "fillInStackTrace" "(I)Ljava/lang/Throwable;"]
def mcB : List Cond := mcB_0 ++ (mcB_1 ++ (mcB_2 ++ (mcB_3 ++ (mcB_4 ++ (mcB_5 ++ (mcB_6 ++ (mcB_7 ++ (mcB_8 ++ (mcB_9 ++ (mcB_10 ++ (mcB_11 ++ (mcB_12 ++ (mcB_13 ++ (mcB_14))))))))))))))
theorem mcB_0_in : mcB_0 = [0, 1, 2, 3, 4, 5, 6, 7, 8, 9, 10, 11, 12, 13, 14, 15, 16, 17, 18, 19, 20, 21, 22, 23, 24, 25, 26, 27, 28, 29, 30, 31, 32, 33, 34, 35, 36, 37, 38, 39].filterMap (fun i => lw_tbl[i]?) := by decide +kernel
theorem mcB_0_ok : mcB_0.all goodWord = true := by decide +kernel
theorem mcB_1_in : mcB_1 = [40, 41, 42, 43, 44, 45, 47, 48, 49, 50, 52, 53, 54, 55, 56, 57, 58, 59, 60, 61, 62, 63, 64, 65, 66, 67, 68, 69, 70, 71, 72, 73, 74, 75, 76, 77, 78, 79, 80, 81].filterMap (fun i => lw_tbl[i]?) := by decide +kernel
theorem mcB_1_ok : mcB_1.all goodWord = true := by decide +kernel
theorem mcB_2_in : mcB_2 = [82, 83, 84, 85, 86, 88, 89, 90, 91, 92, 93, 94, 95, 96, 97, 98, 99, 100, 101, 102, 103, 104, 105, 106, 108, 109, 110, 111, 112, 113, 114, 115, 116, 117, 118, 119, 120, 121, 122, 123].filterMap (fun i => lw_tbl[i]?) := by decide +kernel
theorem mcB_2_ok : mcB_2.all goodWord = true := by decide +kernel
theorem mcB_3_in : mcB_3 = [124, 125, 126, 127, 128, 129, 130, 131, 132, 133, 134, 135, 136, 137, 138, 139, 140, 141, 142, 143, 144, 145, 146, 147, 148, 149, 150, 151, 152, 153, 154, 156, 157, 158, 160, 161, 162, 164, 165, 166].filterMap (fun i => lw_tbl[i]?) := by decide +kernel
theorem mcB_3_ok : mcB_3.all goodWord = true := by decide +kernel
theorem mcB_4_in : mcB_4 = [167, 168, 169, 170, 171, 172, 173, 174, 175, 176, 177, 178, 179, 180, 181, 182, 183, 184, 185, 186, 187, 188, 189, 190, 191, 192, 193, 194, 195, 196, 197, 198, 199, 200, 201, 202, 203, 204, 205, 206].filterMap (fun i => lw_tbl[i]?) := by decide +kernel
theorem mcB_4_ok : mcB_4.all goodWord = true := by decide +kernel
theorem mcB_5_in : mcB_5 = [214, 215, 216, 217, 218, 219, 220, 221, 222, 223, 224, 225, 226, 227, 228, 229, 230, 231, 233, 235, 236, 237, 238, 239, 240, 242, 243, 244, 246, 247, 248, 249, 250, 251, 252, 253, 254, 255, 256, 257].filterMap (fun i => lw_tbl[i]?) := by decide +kernel
theorem mcB_5_ok : mcB_5.all goodWord = true := by decide +kernel
theorem mcB_6_in : mcB_6 = [258, 259, 260, 261, 262, 263, 264, 265, 266, 267, 268, 269, 270, 271, 272, 273, 275, 276, 277, 278, 279, 280, 282, 283, 284, 285, 286, 287, 288, 289, 290, 291, 292, 293, 294, 295, 296, 297, 298, 299].filterMap (fun i => lw_tbl[i]?) := by decide +kernel
theorem mcB_6_ok : mcB_6.all goodWord = true := by decide +kernel
theorem mcB_7_in : mcB_7 = [300, 301, 302, 303, 305, 306, 308, 309, 310, 311, 312, 313, 314, 315, 316, 318, 319, 321, 322, 323, 324, 325, 326, 327, 328, 329, 330, 331, 332, 333, 334, 335, 336, 337, 338, 339, 340, 341, 342, 343].filterMap (fun i => lw_tbl[i]?) := by decide +kernel
theorem mcB_7_ok : mcB_7.all goodWord = true := by decide +kernel
theorem mcB_8_in : mcB_8 = [344, 345, 346, 347, 348, 349, 350, 351, 352, 353, 354, 355, 356, 357, 358, 360, 361, 363, 364, 365, 366, 367, 368, 369, 370, 371, 372, 373, 374, 375, 376, 377, 378, 379, 381, 382, 383, 384, 385, 386].filterMap (fun i => lw_tbl[i]?) := by decide +kernel
theorem mcB_8_ok : mcB_8.all goodWord = true := by decide +kernel
theorem mcB_9_in : mcB_9 = [387, 388, 389, 390, 391, 392, 393, 394, 396, 397, 398, 399, 400, 401, 402, 403, 404, 405, 406, 407, 409, 410, 411, 412, 413, 414, 415, 416, 417, 418, 419, 420, 421, 423, 424, 425, 426, 427, 428, 429].filterMap (fun i => lw_tbl[i]?) := by decide +kernel
theorem mcB_9_ok : mcB_9.all goodWord = true := by decide +kernel
theorem mcB_10_in : mcB_10 = [430, 431, 432, 433, 434, 435, 436, 437, 438, 439, 440, 441, 442, 443, 444, 445, 446, 447, 448, 449, 450, 452, 453, 454, 456, 457, 458, 459, 460, 461, 462, 463, 464, 465, 467, 468, 469, 471, 472, 473].filterMap (fun i => lw_tbl[i]?) := by decide +kernel
theorem mcB_10_ok : mcB_10.all goodWord = true := by decide +kernel
theorem mcB_11_in : mcB_11 = [475, 476, 477, 478, 479, 480, 481, 482, 483, 484, 485, 486, 487, 488, 489, 490, 491, 492, 493, 494, 495, 496, 497, 498, 499, 500, 501, 502, 503, 504, 505, 506, 507, 508, 509, 510, 511, 512, 513, 514].filterMap (fun i => lw_tbl[i]?) := by decide +kernel
theorem mcB_11_ok : mcB_11.all goodWord = true := by decide +kernel
theorem mcB_12_in : mcB_12 = [515, 516, 517, 518, 519, 520, 521, 522, 523, 524, 525, 526, 527, 528, 529, 530, 531, 532, 533, 534, 535, 536, 537, 538, 539, 540, 542, 543, 544, 545, 546, 547, 548, 550, 551, 552, 553, 554, 555, 556].filterMap (fun i => lw_tbl[i]?) := by decide +kernel
theorem mcB_12_ok : mcB_12.all goodWord = true := by decide +kernel
theorem mcB_13_in : mcB_13 = [557, 558, 559, 560, 561, 562, 563, 564, 565, 566, 567, 568, 570, 571, 572, 574, 575, 576, 577, 578, 579, 580, 581, 582, 583, 585, 586, 587, 589, 590, 591, 592, 593, 594, 595, 596, 597, 598, 599, 601].filterMap (fun i => lw_tbl[i]?) := by decide +kernel
theorem mcB_13_ok : mcB_13.all goodWord = true := by decide +kernel
theorem mcB_14_in : mcB_14 = [602, 603, 604, 605, 606, 607, 608, 609, 610, 611, 612, 613, 614, 615, 616, 618, 619, 620, 621, 622, 623, 624, 625, 626, 627, 628, 629, 631, 632, 633, 635, 636, 637, 638, 639, 640, 641, 642].filterMap (fun i => lw_tbl[i]?) := by decide +kernel
theorem mcB_14_ok : mcB_14.all goodWord = true := by decide +kernel
theorem mcB_one {l : List Cond} {is : List Nat} (h : l = is.filterMap (fun i => lw_tbl[i]?)) : ∀ w ∈ l, w ∈ lw_tbl := by
  intro w hw
  rw [h] at hw
  obtain ⟨i, -, hi⟩ := List.mem_filterMap.mp hw
  exact List.mem_of_getElem? hi
theorem mcB_in : ∀ w ∈ mcB, w ∈ lw_tbl := by
  unfold mcB
  exact List.forall_mem_append.mpr ⟨mcB_one mcB_0_in, List.forall_mem_append.mpr ⟨mcB_one mcB_1_in, List.forall_mem_append.mpr ⟨mcB_one mcB_2_in, List.forall_mem_append.mpr ⟨mcB_one mcB_3_in, List.forall_mem_append.mpr ⟨mcB_one mcB_4_in, List.forall_mem_append.mpr ⟨mcB_one mcB_5_in, List.forall_mem_append.mpr ⟨mcB_one mcB_6_in, List.forall_mem_append.mpr ⟨mcB_one mcB_7_in, List.forall_mem_append.mpr ⟨mcB_one mcB_8_in, List.forall_mem_append.mpr ⟨mcB_one mcB_9_in, List.forall_mem_append.mpr ⟨mcB_one mcB_10_in, List.forall_mem_append.mpr ⟨mcB_one mcB_11_in, List.forall_mem_append.mpr ⟨mcB_one mcB_12_in, List.forall_mem_append.mpr ⟨mcB_one mcB_13_in, mcB_one mcB_14_in⟩⟩⟩⟩⟩⟩⟩⟩⟩⟩⟩⟩⟩⟩
theorem mcB_ok : ∀ w ∈ mcB, goodWord w = true := by
  unfold mcB
  exact List.forall_mem_append.mpr ⟨(fun w h => List.all_eq_true.mp mcB_0_ok w h), List.forall_mem_append.mpr ⟨(fun w h => List.all_eq_true.mp mcB_1_ok w h), List.forall_mem_append.mpr ⟨(fun w h => List.all_eq_true.mp mcB_2_ok w h), List.forall_mem_append.mpr ⟨(fun w h => List.all_eq_true.mp mcB_3_ok w h), List.forall_mem_append.mpr ⟨(fun w h => List.all_eq_true.mp mcB_4_ok w h), List.forall_mem_append.mpr ⟨(fun w h => List.all_eq_true.mp mcB_5_ok w h), List.forall_mem_append.mpr ⟨(fun w h => List.all_eq_true.mp mcB_6_ok w h), List.forall_mem_append.mpr ⟨(fun w h => List.all_eq_true.mp mcB_7_ok w h), List.forall_mem_append.mpr ⟨(fun w h => List.all_eq_true.mp mcB_8_ok w h), List.forall_mem_append.mpr ⟨(fun w h => List.all_eq_true.mp mcB_9_ok w h), List.forall_mem_append.mpr ⟨(fun w h => List.all_eq_true.mp mcB_10_ok w h), List.forall_mem_append.mpr ⟨(fun w h => List.all_eq_true.mp mcB_11_ok w h), List.forall_mem_append.mpr ⟨(fun w h => List.all_eq_true.mp mcB_12_ok w h), List.forall_mem_append.mpr ⟨(fun w h => List.all_eq_true.mp mcB_13_ok w h), (fun w h => List.all_eq_true.mp mcB_14_ok w h)⟩⟩⟩⟩⟩⟩⟩⟩⟩⟩⟩⟩⟩⟩
theorem mcB_0_sub : ∀ w ∈ mcB_0, w ∈ mcB := fun w h => List.mem_append_left _ h
theorem mcB_1_sub : ∀ w ∈ mcB_1, w ∈ mcB := fun w h => List.mem_append_right _ (List.mem_append_left _ h)
theorem mcB_2_sub : ∀ w ∈ mcB_2, w ∈ mcB := fun w h => List.mem_append_right _ (List.mem_append_right _ (List.mem_append_left _ h))
theorem mcB_3_sub : ∀ w ∈ mcB_3, w ∈ mcB := fun w h => List.mem_append_right _ (List.mem_append_right _ (List.mem_append_right _ (List.mem_append_left _ h)))
theorem mcB_4_sub : ∀ w ∈ mcB_4, w ∈ mcB := fun w h => List.mem_append_right _ (List.mem_append_right _ (List.mem_append_right _ (List.mem_append_right _ (List.mem_append_left _ h))))
theorem mcB_5_sub : ∀ w ∈ mcB_5, w ∈ mcB := fun w h => List.mem_append_right _ (List.mem_append_right _ (List.mem_append_right _ (List.mem_append_right _ (List.mem_append_right _ (List.mem_append_left _ h)))))
theorem mcB_6_sub : ∀ w ∈ mcB_6, w ∈ mcB := fun w h => List.mem_append_right _ (List.mem_append_right _ (List.mem_append_right _ (List.mem_append_right _ (List.mem_append_right _ (List.mem_append_right _ (List.mem_append_left _ h))))))
theorem mcB_7_sub : ∀ w ∈ mcB_7, w ∈ mcB := fun w h => List.mem_append_right _ (List.mem_append_right _ (List.mem_append_right _ (List.mem_append_right _ (List.mem_append_right _ (List.mem_append_right _ (List.mem_append_right _ (List.mem_append_left _ h)))))))
theorem mcB_8_sub : ∀ w ∈ mcB_8, w ∈ mcB := fun w h => List.mem_append_right _ (List.mem_append_right _ (List.mem_append_right _ (List.mem_append_right _ (List.mem_append_right _ (List.mem_append_right _ (List.mem_append_right _ (List.mem_append_right _ (List.mem_append_left _ h))))))))
theorem mcB_9_sub : ∀ w ∈ mcB_9, w ∈ mcB := fun w h => List.mem_append_right _ (List.mem_append_right _ (List.mem_append_right _ (List.mem_append_right _ (List.mem_append_right _ (List.mem_append_right _ (List.mem_append_right _ (List.mem_append_right _ (List.mem_append_right _ (List.mem_append_left _ h)))))))))
theorem mcB_10_sub : ∀ w ∈ mcB_10, w ∈ mcB := fun w h => List.mem_append_right _ (List.mem_append_right _ (List.mem_append_right _ (List.mem_append_right _ (List.mem_append_right _ (List.mem_append_right _ (List.mem_append_right _ (List.mem_append_right _ (List.mem_append_right _ (List.mem_append_right _ (List.mem_append_left _ h))))))))))
theorem mcB_11_sub : ∀ w ∈ mcB_11, w ∈ mcB := fun w h => List.mem_append_right _ (List.mem_append_right _ (List.mem_append_right _ (List.mem_append_right _ (List.mem_append_right _ (List.mem_append_right _ (List.mem_append_right _ (List.mem_append_right _ (List.mem_append_right _ (List.mem_append_right _ (List.mem_append_right _ (List.mem_append_left _ h)))))))))))
theorem mcB_12_sub : ∀ w ∈ mcB_12, w ∈ mcB := fun w h => List.mem_append_right _ (List.mem_append_right _ (List.mem_append_right _ (List.mem_append_right _ (List.mem_append_right _ (List.mem_append_right _ (List.mem_append_right _ (List.mem_append_right _ (List.mem_append_right _ (List.mem_append_right _ (List.mem_append_right _ (List.mem_append_right _ (List.mem_append_left _ h))))))))))))
theorem mcB_13_sub : ∀ w ∈ mcB_13, w ∈ mcB := fun w h => List.mem_append_right _ (List.mem_append_right _ (List.mem_append_right _ (List.mem_append_right _ (List.mem_append_right _ (List.mem_append_right _ (List.mem_append_right _ (List.mem_append_right _ (List.mem_append_right _ (List.mem_append_right _ (List.mem_append_right _ (List.mem_append_right _ (List.mem_append_right _ (List.mem_append_left _ h)))))))))))))
theorem mcB_14_sub : ∀ w ∈ mcB_14, w ∈ mcB := fun w h => List.mem_append_right _ (List.mem_append_right _ (List.mem_append_right _ (List.mem_append_right _ (List.mem_append_right _ (List.mem_append_right _ (List.mem_append_right _ (List.mem_append_right _ (List.mem_append_right _ (List.mem_append_right _ (List.mem_append_right _ (List.mem_append_right _ (List.mem_append_right _ (List.mem_append_right _ (h))))))))))))))
theorem kw0 : Cond.selects "MeasureChoice$Ladder" ⟨"MeasureChoice$Ladder", "addSteps", "(II)V"⟩ ⟨"MeasureChoice$Ladder", "addSteps", "(II)V"⟩ ∈ mcB := mcB_0_sub _ (List.mem_of_getElem? (i := 0) rfl)
theorem kw1 : Cond.selects "MeasureChoice$Ladder" ⟨"MeasureChoice$Ladder", "addGains", "(ILMeasureChoice$House;)V"⟩ ⟨"MeasureChoice$Ladder", "addGains", "(ILMeasureChoice$House;)V"⟩ ∈ mcB := mcB_0_sub _ (List.mem_of_getElem? (i := 1) rfl)
theorem kw2 : Cond.selects "MeasureChoice$Ladder" ⟨"MeasureChoice$Ladder", "keepUnbeaten", "(LMeasureChoice$House;)V"⟩ ⟨"MeasureChoice$Ladder", "keepUnbeaten", "(LMeasureChoice$House;)V"⟩ ∈ mcB := mcB_0_sub _ (List.mem_of_getElem? (i := 2) rfl)
theorem kw3 : Cond.selects "java/lang/Throwable" ⟨"java/lang/Throwable", "fillInStackTrace", "(I)Ljava/lang/Throwable;"⟩ ⟨"java/lang/Throwable", "fillInStackTrace", "(I)Ljava/lang/Throwable;"⟩ ∈ mcB := mcB_0_sub _ (List.mem_of_getElem? (i := 3) rfl)
theorem kw4 : Cond.selects "MeasureChoice" ⟨"MeasureChoice", "requireMeasure", "(I)V"⟩ ⟨"MeasureChoice", "requireMeasure", "(I)V"⟩ ∈ mcB := mcB_0_sub _ (List.mem_of_getElem? (i := 4) rfl)
theorem kw5 : Cond.selects "MeasureChoice" ⟨"MeasureChoice", "requirePair", "(II)V"⟩ ⟨"MeasureChoice", "requirePair", "(II)V"⟩ ∈ mcB := mcB_0_sub _ (List.mem_of_getElem? (i := 5) rfl)
theorem kw6 : Cond.selects "MeasureChoice" ⟨"MeasureChoice", "requireSet", "(I)V"⟩ ⟨"MeasureChoice", "requireSet", "(I)V"⟩ ∈ mcB := mcB_0_sub _ (List.mem_of_getElem? (i := 6) rfl)
theorem kw7 : Cond.selects "MeasureChoice$House" ⟨"MeasureChoice$House", "bonusWithEarlier", "(II)I"⟩ ⟨"MeasureChoice$House", "bonusWithEarlier", "(II)I"⟩ ∈ mcB := mcB_0_sub _ (List.mem_of_getElem? (i := 7) rfl)
theorem kw8 : Cond.selects "MeasureChoice$House" ⟨"MeasureChoice$House", "withItsNeeds", "(I)I"⟩ ⟨"MeasureChoice$House", "withItsNeeds", "(I)I"⟩ ∈ mcB := mcB_0_sub _ (List.mem_of_getElem? (i := 8) rfl)
theorem kw9 : Cond.selects "MeasureChoice$Planner" ⟨"MeasureChoice$Planner", "fillPurses", "()V"⟩ ⟨"MeasureChoice$Planner", "fillPurses", "()V"⟩ ∈ mcB := mcB_0_sub _ (List.mem_of_getElem? (i := 9) rfl)
theorem kw10 : Cond.selects "MeasureChoice$Planner" ⟨"MeasureChoice$Planner", "judgeSets", "(LMeasureChoice$House;)V"⟩ ⟨"MeasureChoice$Planner", "judgeSets", "(LMeasureChoice$House;)V"⟩ ∈ mcB := mcB_0_sub _ (List.mem_of_getElem? (i := 10) rfl)
theorem kw11 : Cond.selects "MeasureChoice$Planner" ⟨"MeasureChoice$Planner", "workYear", "(IZ)V"⟩ ⟨"MeasureChoice$Planner", "workYear", "(IZ)V"⟩ ∈ mcB := mcB_0_sub _ (List.mem_of_getElem? (i := 11) rfl)
theorem kw12 : Cond.selects "MeasureChoice$Planner" ⟨"MeasureChoice$Planner", "bestFrom", "(II)I"⟩ ⟨"MeasureChoice$Planner", "bestFrom", "(II)I"⟩ ∈ mcB := mcB_0_sub _ (List.mem_of_getElem? (i := 12) rfl)
theorem kw13 : Cond.selects "MeasureChoice$Planner" ⟨"MeasureChoice$Planner", "isBetter", "(III)Z"⟩ ⟨"MeasureChoice$Planner", "isBetter", "(III)Z"⟩ ∈ mcB := mcB_0_sub _ (List.mem_of_getElem? (i := 13) rfl)
theorem kw14 : Cond.selects "MeasureChoiceModel" ⟨"MeasureChoiceModel", "good", "(Z)Z"⟩ ⟨"MeasureChoiceModel", "good", "(Z)Z"⟩ ∈ mcB := mcB_0_sub _ (List.mem_of_getElem? (i := 14) rfl)
theorem kw15 : Cond.selects "MeasureChoiceModel" ⟨"MeasureChoiceModel", "is", "(I)Z"⟩ ⟨"MeasureChoiceModel", "is", "(I)Z"⟩ ∈ mcB := mcB_0_sub _ (List.mem_of_getElem? (i := 15) rfl)
theorem kw16 : Cond.selects "MeasureChoiceModel" ⟨"MeasureChoiceModel", "isSet", "(I)Z"⟩ ⟨"MeasureChoiceModel", "isSet", "(I)Z"⟩ ∈ mcB := mcB_0_sub _ (List.mem_of_getElem? (i := 16) rfl)
theorem kw17 : Cond.selects "MeasureChoiceModel" ⟨"MeasureChoiceModel", "holds", "(I)Z"⟩ ⟨"MeasureChoiceModel", "holds", "(I)Z"⟩ ∈ mcB := mcB_0_sub _ (List.mem_of_getElem? (i := 17) rfl)
theorem kw18 : Cond.selects "MeasureChoiceModel" ⟨"MeasureChoiceModel", "costOf", "(I)I"⟩ ⟨"MeasureChoiceModel", "costOf", "(I)I"⟩ ∈ mcB := mcB_0_sub _ (List.mem_of_getElem? (i := 18) rfl)
theorem kw19 : Cond.selects "MeasureChoiceModel" ⟨"MeasureChoiceModel", "gainOf", "(I)I"⟩ ⟨"MeasureChoiceModel", "gainOf", "(I)I"⟩ ∈ mcB := mcB_0_sub _ (List.mem_of_getElem? (i := 19) rfl)
theorem kw20 : Cond.selects "MeasureChoiceModel" ⟨"MeasureChoiceModel", "bestOf", "(J)I"⟩ ⟨"MeasureChoiceModel", "bestOf", "(J)I"⟩ ∈ mcB := mcB_0_sub _ (List.mem_of_getElem? (i := 20) rfl)
theorem kw21 : Cond.selects "MeasureChoiceModel" ⟨"MeasureChoiceModel", "dearer", "(II)I"⟩ ⟨"MeasureChoiceModel", "dearer", "(II)I"⟩ ∈ mcB := mcB_0_sub _ (List.mem_of_getElem? (i := 21) rfl)
theorem kw22 : Cond.selects "MeasureChoiceModel" ⟨"MeasureChoiceModel", "work", "(I)V"⟩ ⟨"MeasureChoiceModel", "work", "(I)V"⟩ ∈ mcB := mcB_0_sub _ (List.mem_of_getElem? (i := 22) rfl)
theorem kw23 : Cond.selects "MeasureChoiceModel" ⟨"MeasureChoiceModel", "workOf", "(IIII)V"⟩ ⟨"MeasureChoiceModel", "workOf", "(IIII)V"⟩ ∈ mcB := mcB_0_sub _ (List.mem_of_getElem? (i := 23) rfl)
theorem kw24 : Cond.initialized "MeasureChoiceLaw" ∈ mcB := mcB_0_sub _ (List.mem_of_getElem? (i := 24) rfl)
theorem kw25 : Cond.initialized "MeasureChoice" ∈ mcB := mcB_0_sub _ (List.mem_of_getElem? (i := 25) rfl)
theorem kw26 : Cond.initialized "MeasureChoice$House" ∈ mcB := mcB_0_sub _ (List.mem_of_getElem? (i := 26) rfl)
theorem kw27 : Cond.initialized "MeasureChoice$Ladder" ∈ mcB := mcB_0_sub _ (List.mem_of_getElem? (i := 27) rfl)
theorem kw28 : Cond.initialized "MeasureChoice$Planner" ∈ mcB := mcB_0_sub _ (List.mem_of_getElem? (i := 28) rfl)
theorem kw29 : Cond.initialized "MeasureChoiceModel" ∈ mcB := mcB_0_sub _ (List.mem_of_getElem? (i := 29) rfl)
theorem kw30 : Cond.initialized "java/lang/Throwable" ∈ mcB := mcB_0_sub _ (List.mem_of_getElem? (i := 30) rfl)
theorem kw31 : Cond.initialized "java/lang/Exception" ∈ mcB := mcB_0_sub _ (List.mem_of_getElem? (i := 31) rfl)
theorem kw32 : Cond.initialized "java/lang/RuntimeException" ∈ mcB := mcB_0_sub _ (List.mem_of_getElem? (i := 32) rfl)
theorem kw33 : Cond.initialized "java/lang/IllegalArgumentException" ∈ mcB := mcB_0_sub _ (List.mem_of_getElem? (i := 33) rfl)
theorem kw34 : Cond.initialized "java/lang/IllegalStateException" ∈ mcB := mcB_0_sub _ (List.mem_of_getElem? (i := 34) rfl)
theorem kw35 : Cond.initialized "java/lang/Math" ∈ mcB := mcB_0_sub _ (List.mem_of_getElem? (i := 35) rfl)
theorem kw36 : Cond.classLink "MeasureChoiceLaw" 8 "MeasureChoice" ∈ mcB := mcB_0_sub _ (List.mem_of_getElem? (i := 36) rfl)
theorem kw37 : Cond.instantiable "MeasureChoice" 3 ∈ mcB := mcB_0_sub _ (List.mem_of_getElem? (i := 37) rfl)
theorem kw38 : Cond.methodLink "MeasureChoiceLaw" 61 ⟨"MeasureChoice", "<init>", "()V"⟩ ∈ mcB := mcB_0_sub _ (List.mem_of_getElem? (i := 38) rfl)
theorem kw39 : Cond.instanceMethod ⟨"MeasureChoice", "<init>", "()V"⟩ ∈ mcB := mcB_0_sub _ (List.mem_of_getElem? (i := 39) rfl)
theorem kw40 : Cond.code ⟨"MeasureChoice", "<init>", "()V"⟩ prog_1_method_1_code 1 none ∈ mcB := mcB_1_sub _ (List.mem_of_getElem? (i := 0) rfl)
theorem kw41 : Cond.methodLink "MeasureChoice" 3 ⟨"java/lang/Object", "<init>", "()V"⟩ ∈ mcB := mcB_1_sub _ (List.mem_of_getElem? (i := 1) rfl)
theorem kw42 : Cond.instanceMethod ⟨"java/lang/Object", "<init>", "()V"⟩ ∈ mcB := mcB_1_sub _ (List.mem_of_getElem? (i := 2) rfl)
theorem kw43 : Cond.code ⟨"java/lang/Object", "<init>", "()V"⟩ object_method_1_code 1 none ∈ mcB := mcB_1_sub _ (List.mem_of_getElem? (i := 3) rfl)
theorem kw44 : Cond.classLink "MeasureChoice" 9 "MeasureChoice$House" ∈ mcB := mcB_1_sub _ (List.mem_of_getElem? (i := 4) rfl)
theorem kw45 : Cond.instantiable "MeasureChoice$House" 7 ∈ mcB := mcB_1_sub _ (List.mem_of_getElem? (i := 5) rfl)
theorem kw46 : Cond.instanceMethod ⟨"MeasureChoice$House", "<init>", "()V"⟩ ∈ mcB := mcB_1_sub _ (List.mem_of_getElem? (i := 6) rfl)
theorem kw47 : Cond.code ⟨"MeasureChoice$House", "<init>", "()V"⟩ prog_2_method_1_code 1 none ∈ mcB := mcB_1_sub _ (List.mem_of_getElem? (i := 7) rfl)
theorem kw48 : Cond.methodLink "MeasureChoice$House" 3 ⟨"java/lang/Object", "<init>", "()V"⟩ ∈ mcB := mcB_1_sub _ (List.mem_of_getElem? (i := 8) rfl)
theorem kw49 : Cond.classLink "MeasureChoice$House" 24 "[[I" ∈ mcB := mcB_1_sub _ (List.mem_of_getElem? (i := 9) rfl)
theorem kw50 : Cond.fieldLink "MeasureChoice$House" 29 "MeasureChoice$House" "count" "I" ∈ mcB := mcB_1_sub _ (List.mem_of_getElem? (i := 10) rfl)
theorem kw51 : Cond.fieldLink "MeasureChoice" 34 "MeasureChoice$House" "count" "I" ∈ mcB := mcB_1_sub _ (List.mem_of_getElem? (i := 11) rfl)
theorem kw52 : Cond.fieldLink "MeasureChoice$Planner" 47 "MeasureChoice$House" "count" "I" ∈ mcB := mcB_1_sub _ (List.mem_of_getElem? (i := 12) rfl)
theorem kw53 : Cond.fieldLink "MeasureChoice$Ladder" 38 "MeasureChoice$House" "count" "I" ∈ mcB := mcB_1_sub _ (List.mem_of_getElem? (i := 13) rfl)
theorem kw54 : Cond.fieldLink "MeasureChoice$House" 37 "MeasureChoice$House" "version" "I" ∈ mcB := mcB_1_sub _ (List.mem_of_getElem? (i := 14) rfl)
theorem kw55 : Cond.fieldLink "MeasureChoice$Ladder" 35 "MeasureChoice$House" "version" "I" ∈ mcB := mcB_1_sub _ (List.mem_of_getElem? (i := 15) rfl)
theorem kw56 : Cond.fieldLink "MeasureChoice$House" 9 "MeasureChoice$House" "costs" "[I" ∈ mcB := mcB_1_sub _ (List.mem_of_getElem? (i := 16) rfl)
theorem kw57 : Cond.fieldLink "MeasureChoice$Ladder" 41 "MeasureChoice$House" "costs" "[I" ∈ mcB := mcB_1_sub _ (List.mem_of_getElem? (i := 17) rfl)
theorem kw58 : Cond.fieldLink "MeasureChoice$House" 15 "MeasureChoice$House" "gains" "[I" ∈ mcB := mcB_1_sub _ (List.mem_of_getElem? (i := 18) rfl)
theorem kw59 : Cond.fieldLink "MeasureChoice$Ladder" 56 "MeasureChoice$House" "gains" "[I" ∈ mcB := mcB_1_sub _ (List.mem_of_getElem? (i := 19) rfl)
theorem kw60 : Cond.fieldLink "MeasureChoice$House" 18 "MeasureChoice$House" "excluded" "[I" ∈ mcB := mcB_1_sub _ (List.mem_of_getElem? (i := 20) rfl)
theorem kw61 : Cond.fieldLink "MeasureChoice" 60 "MeasureChoice$House" "excluded" "[I" ∈ mcB := mcB_1_sub _ (List.mem_of_getElem? (i := 21) rfl)
theorem kw62 : Cond.fieldLink "MeasureChoice$House" 21 "MeasureChoice$House" "needed" "[I" ∈ mcB := mcB_1_sub _ (List.mem_of_getElem? (i := 22) rfl)
theorem kw63 : Cond.fieldLink "MeasureChoice" 72 "MeasureChoice$House" "needed" "[I" ∈ mcB := mcB_1_sub _ (List.mem_of_getElem? (i := 23) rfl)
theorem kw64 : Cond.fieldLink "MeasureChoice$House" 26 "MeasureChoice$House" "bonuses" "[[I" ∈ mcB := mcB_1_sub _ (List.mem_of_getElem? (i := 24) rfl)
theorem kw65 : Cond.fieldLink "MeasureChoice" 81 "MeasureChoice$House" "bonuses" "[[I" ∈ mcB := mcB_1_sub _ (List.mem_of_getElem? (i := 25) rfl)
theorem kw66 : Cond.fieldLink "MeasureChoice$Ladder" 57 "MeasureChoice$House" "bonuses" "[[I" ∈ mcB := mcB_1_sub _ (List.mem_of_getElem? (i := 26) rfl)
theorem kw67 : Cond.lays "MeasureChoice$House" "MeasureChoice$House" "count" "I" ∈ mcB := mcB_1_sub _ (List.mem_of_getElem? (i := 27) rfl)
theorem kw68 : Cond.soleField "MeasureChoice$House" "count" ∈ mcB := mcB_1_sub _ (List.mem_of_getElem? (i := 28) rfl)
theorem kw69 : Cond.lays "MeasureChoice$House" "MeasureChoice$House" "version" "I" ∈ mcB := mcB_1_sub _ (List.mem_of_getElem? (i := 29) rfl)
theorem kw70 : Cond.soleField "MeasureChoice$House" "version" ∈ mcB := mcB_1_sub _ (List.mem_of_getElem? (i := 30) rfl)
theorem kw71 : Cond.laysFinal "MeasureChoice$House" "MeasureChoice$House" "costs" "[I" ∈ mcB := mcB_1_sub _ (List.mem_of_getElem? (i := 31) rfl)
theorem kw72 : Cond.soleField "MeasureChoice$House" "costs" ∈ mcB := mcB_1_sub _ (List.mem_of_getElem? (i := 32) rfl)
theorem kw73 : Cond.laysFinal "MeasureChoice$House" "MeasureChoice$House" "gains" "[I" ∈ mcB := mcB_1_sub _ (List.mem_of_getElem? (i := 33) rfl)
theorem kw74 : Cond.soleField "MeasureChoice$House" "gains" ∈ mcB := mcB_1_sub _ (List.mem_of_getElem? (i := 34) rfl)
theorem kw75 : Cond.laysFinal "MeasureChoice$House" "MeasureChoice$House" "excluded" "[I" ∈ mcB := mcB_1_sub _ (List.mem_of_getElem? (i := 35) rfl)
theorem kw76 : Cond.soleField "MeasureChoice$House" "excluded" ∈ mcB := mcB_1_sub _ (List.mem_of_getElem? (i := 36) rfl)
theorem kw77 : Cond.laysFinal "MeasureChoice$House" "MeasureChoice$House" "needed" "[I" ∈ mcB := mcB_1_sub _ (List.mem_of_getElem? (i := 37) rfl)
theorem kw78 : Cond.soleField "MeasureChoice$House" "needed" ∈ mcB := mcB_1_sub _ (List.mem_of_getElem? (i := 38) rfl)
theorem kw79 : Cond.laysFinal "MeasureChoice$House" "MeasureChoice$House" "bonuses" "[[I" ∈ mcB := mcB_1_sub _ (List.mem_of_getElem? (i := 39) rfl)
theorem kw80 : Cond.soleField "MeasureChoice$House" "bonuses" ∈ mcB := mcB_2_sub _ (List.mem_of_getElem? (i := 0) rfl)
theorem kw81 : Cond.superclass "MeasureChoice$House" "java/lang/Object" ∈ mcB := mcB_2_sub _ (List.mem_of_getElem? (i := 1) rfl)
theorem kw82 : Cond.arrayClass FieldType.int ∈ mcB := mcB_2_sub _ (List.mem_of_getElem? (i := 2) rfl)
theorem kw83 : Cond.classLink "MeasureChoice" 16 "MeasureChoice$Ladder" ∈ mcB := mcB_2_sub _ (List.mem_of_getElem? (i := 3) rfl)
theorem kw84 : Cond.instantiable "MeasureChoice$Ladder" 4 ∈ mcB := mcB_2_sub _ (List.mem_of_getElem? (i := 4) rfl)
theorem kw85 : Cond.instanceMethod ⟨"MeasureChoice$Ladder", "<init>", "()V"⟩ ∈ mcB := mcB_2_sub _ (List.mem_of_getElem? (i := 5) rfl)
theorem kw86 : Cond.code ⟨"MeasureChoice$Ladder", "<init>", "()V"⟩ prog_3_method_1_code 1 none ∈ mcB := mcB_2_sub _ (List.mem_of_getElem? (i := 6) rfl)
theorem kw87 : Cond.methodLink "MeasureChoice$Ladder" 3 ⟨"java/lang/Object", "<init>", "()V"⟩ ∈ mcB := mcB_2_sub _ (List.mem_of_getElem? (i := 7) rfl)
theorem kw88 : Cond.fieldLink "MeasureChoice$Ladder" 26 "MeasureChoice$Ladder" "rungs" "I" ∈ mcB := mcB_2_sub _ (List.mem_of_getElem? (i := 8) rfl)
theorem kw89 : Cond.fieldLink "MeasureChoice" 133 "MeasureChoice$Ladder" "rungs" "I" ∈ mcB := mcB_2_sub _ (List.mem_of_getElem? (i := 9) rfl)
theorem kw90 : Cond.fieldLink "MeasureChoice$Ladder" 9 "MeasureChoice$Ladder" "version" "I" ∈ mcB := mcB_2_sub _ (List.mem_of_getElem? (i := 10) rfl)
theorem kw91 : Cond.fieldLink "MeasureChoice$Ladder" 15 "MeasureChoice$Ladder" "steps" "[I" ∈ mcB := mcB_2_sub _ (List.mem_of_getElem? (i := 11) rfl)
theorem kw92 : Cond.fieldLink "MeasureChoice$Ladder" 19 "MeasureChoice$Ladder" "gains" "[I" ∈ mcB := mcB_2_sub _ (List.mem_of_getElem? (i := 12) rfl)
theorem kw93 : Cond.lays "MeasureChoice$Ladder" "MeasureChoice$Ladder" "rungs" "I" ∈ mcB := mcB_2_sub _ (List.mem_of_getElem? (i := 13) rfl)
theorem kw94 : Cond.soleField "MeasureChoice$Ladder" "rungs" ∈ mcB := mcB_2_sub _ (List.mem_of_getElem? (i := 14) rfl)
theorem kw95 : Cond.lays "MeasureChoice$Ladder" "MeasureChoice$Ladder" "version" "I" ∈ mcB := mcB_2_sub _ (List.mem_of_getElem? (i := 15) rfl)
theorem kw96 : Cond.soleField "MeasureChoice$Ladder" "version" ∈ mcB := mcB_2_sub _ (List.mem_of_getElem? (i := 16) rfl)
theorem kw97 : Cond.laysFinal "MeasureChoice$Ladder" "MeasureChoice$Ladder" "steps" "[I" ∈ mcB := mcB_2_sub _ (List.mem_of_getElem? (i := 17) rfl)
theorem kw98 : Cond.soleField "MeasureChoice$Ladder" "steps" ∈ mcB := mcB_2_sub _ (List.mem_of_getElem? (i := 18) rfl)
theorem kw99 : Cond.laysFinal "MeasureChoice$Ladder" "MeasureChoice$Ladder" "gains" "[I" ∈ mcB := mcB_2_sub _ (List.mem_of_getElem? (i := 19) rfl)
theorem kw100 : Cond.soleField "MeasureChoice$Ladder" "gains" ∈ mcB := mcB_2_sub _ (List.mem_of_getElem? (i := 20) rfl)
theorem kw101 : Cond.superclass "MeasureChoice$Ladder" "java/lang/Object" ∈ mcB := mcB_2_sub _ (List.mem_of_getElem? (i := 21) rfl)
theorem kw102 : Cond.classLink "MeasureChoice" 23 "MeasureChoice$Planner" ∈ mcB := mcB_2_sub _ (List.mem_of_getElem? (i := 22) rfl)
theorem kw103 : Cond.instantiable "MeasureChoice$Planner" 7 ∈ mcB := mcB_2_sub _ (List.mem_of_getElem? (i := 23) rfl)
theorem kw104 : Cond.instanceMethod ⟨"MeasureChoice$Planner", "<init>", "()V"⟩ ∈ mcB := mcB_2_sub _ (List.mem_of_getElem? (i := 24) rfl)
theorem kw105 : Cond.code ⟨"MeasureChoice$Planner", "<init>", "()V"⟩ prog_4_method_1_code 1 none ∈ mcB := mcB_2_sub _ (List.mem_of_getElem? (i := 25) rfl)
theorem kw106 : Cond.methodLink "MeasureChoice$Planner" 3 ⟨"java/lang/Object", "<init>", "()V"⟩ ∈ mcB := mcB_2_sub _ (List.mem_of_getElem? (i := 26) rfl)
theorem kw107 : Cond.classLink "MeasureChoice$Planner" 15 "[[I" ∈ mcB := mcB_2_sub _ (List.mem_of_getElem? (i := 27) rfl)
theorem kw108 : Cond.fieldLink "MeasureChoice$Planner" 9 "MeasureChoice$Planner" "budgets" "[I" ∈ mcB := mcB_2_sub _ (List.mem_of_getElem? (i := 28) rfl)
theorem kw109 : Cond.fieldLink "MeasureChoice" 137 "MeasureChoice$Planner" "budgets" "[I" ∈ mcB := mcB_2_sub _ (List.mem_of_getElem? (i := 29) rfl)
theorem kw110 : Cond.fieldLink "MeasureChoice$Planner" 17 "MeasureChoice$Planner" "totals" "[[I" ∈ mcB := mcB_2_sub _ (List.mem_of_getElem? (i := 30) rfl)
theorem kw111 : Cond.fieldLink "MeasureChoice" 147 "MeasureChoice$Planner" "totals" "[[I" ∈ mcB := mcB_2_sub _ (List.mem_of_getElem? (i := 31) rfl)
theorem kw112 : Cond.fieldLink "MeasureChoice$Planner" 20 "MeasureChoice$Planner" "spent" "[[I" ∈ mcB := mcB_2_sub _ (List.mem_of_getElem? (i := 32) rfl)
theorem kw113 : Cond.fieldLink "MeasureChoice$Planner" 23 "MeasureChoice$Planner" "purses" "[I" ∈ mcB := mcB_2_sub _ (List.mem_of_getElem? (i := 33) rfl)
theorem kw114 : Cond.fieldLink "MeasureChoice$Planner" 26 "MeasureChoice$Planner" "prices" "[I" ∈ mcB := mcB_2_sub _ (List.mem_of_getElem? (i := 34) rfl)
theorem kw115 : Cond.fieldLink "MeasureChoice$Planner" 29 "MeasureChoice$Planner" "gains" "[I" ∈ mcB := mcB_2_sub _ (List.mem_of_getElem? (i := 35) rfl)
theorem kw116 : Cond.fieldLink "MeasureChoice$Planner" 58 "MeasureChoice$Planner" "sets" "I" ∈ mcB := mcB_2_sub _ (List.mem_of_getElem? (i := 36) rfl)
theorem kw117 : Cond.laysFinal "MeasureChoice$Planner" "MeasureChoice$Planner" "budgets" "[I" ∈ mcB := mcB_2_sub _ (List.mem_of_getElem? (i := 37) rfl)
theorem kw118 : Cond.soleField "MeasureChoice$Planner" "budgets" ∈ mcB := mcB_2_sub _ (List.mem_of_getElem? (i := 38) rfl)
theorem kw119 : Cond.laysFinal "MeasureChoice$Planner" "MeasureChoice$Planner" "totals" "[[I" ∈ mcB := mcB_2_sub _ (List.mem_of_getElem? (i := 39) rfl)
theorem kw120 : Cond.soleField "MeasureChoice$Planner" "totals" ∈ mcB := mcB_3_sub _ (List.mem_of_getElem? (i := 0) rfl)
theorem kw121 : Cond.laysFinal "MeasureChoice$Planner" "MeasureChoice$Planner" "spent" "[[I" ∈ mcB := mcB_3_sub _ (List.mem_of_getElem? (i := 1) rfl)
theorem kw122 : Cond.soleField "MeasureChoice$Planner" "spent" ∈ mcB := mcB_3_sub _ (List.mem_of_getElem? (i := 2) rfl)
theorem kw123 : Cond.laysFinal "MeasureChoice$Planner" "MeasureChoice$Planner" "purses" "[I" ∈ mcB := mcB_3_sub _ (List.mem_of_getElem? (i := 3) rfl)
theorem kw124 : Cond.soleField "MeasureChoice$Planner" "purses" ∈ mcB := mcB_3_sub _ (List.mem_of_getElem? (i := 4) rfl)
theorem kw125 : Cond.laysFinal "MeasureChoice$Planner" "MeasureChoice$Planner" "prices" "[I" ∈ mcB := mcB_3_sub _ (List.mem_of_getElem? (i := 5) rfl)
theorem kw126 : Cond.soleField "MeasureChoice$Planner" "prices" ∈ mcB := mcB_3_sub _ (List.mem_of_getElem? (i := 6) rfl)
theorem kw127 : Cond.laysFinal "MeasureChoice$Planner" "MeasureChoice$Planner" "gains" "[I" ∈ mcB := mcB_3_sub _ (List.mem_of_getElem? (i := 7) rfl)
theorem kw128 : Cond.soleField "MeasureChoice$Planner" "gains" ∈ mcB := mcB_3_sub _ (List.mem_of_getElem? (i := 8) rfl)
theorem kw129 : Cond.lays "MeasureChoice$Planner" "MeasureChoice$Planner" "sets" "I" ∈ mcB := mcB_3_sub _ (List.mem_of_getElem? (i := 9) rfl)
theorem kw130 : Cond.soleField "MeasureChoice$Planner" "sets" ∈ mcB := mcB_3_sub _ (List.mem_of_getElem? (i := 10) rfl)
theorem kw131 : Cond.superclass "MeasureChoice$Planner" "java/lang/Object" ∈ mcB := mcB_3_sub _ (List.mem_of_getElem? (i := 11) rfl)
theorem kw132 : Cond.fieldLink "MeasureChoice" 12 "MeasureChoice" "house" "LMeasureChoice$House;" ∈ mcB := mcB_3_sub _ (List.mem_of_getElem? (i := 12) rfl)
theorem kw133 : Cond.fieldLink "MeasureChoice" 19 "MeasureChoice" "ladder" "LMeasureChoice$Ladder;" ∈ mcB := mcB_3_sub _ (List.mem_of_getElem? (i := 13) rfl)
theorem kw134 : Cond.fieldLink "MeasureChoice" 26 "MeasureChoice" "planner" "LMeasureChoice$Planner;" ∈ mcB := mcB_3_sub _ (List.mem_of_getElem? (i := 14) rfl)
theorem kw135 : Cond.laysFinal "MeasureChoice" "MeasureChoice" "house" "LMeasureChoice$House;" ∈ mcB := mcB_3_sub _ (List.mem_of_getElem? (i := 15) rfl)
theorem kw136 : Cond.soleField "MeasureChoice" "house" ∈ mcB := mcB_3_sub _ (List.mem_of_getElem? (i := 16) rfl)
theorem kw137 : Cond.laysFinal "MeasureChoice" "MeasureChoice" "ladder" "LMeasureChoice$Ladder;" ∈ mcB := mcB_3_sub _ (List.mem_of_getElem? (i := 17) rfl)
theorem kw138 : Cond.soleField "MeasureChoice" "ladder" ∈ mcB := mcB_3_sub _ (List.mem_of_getElem? (i := 18) rfl)
theorem kw139 : Cond.laysFinal "MeasureChoice" "MeasureChoice" "planner" "LMeasureChoice$Planner;" ∈ mcB := mcB_3_sub _ (List.mem_of_getElem? (i := 19) rfl)
theorem kw140 : Cond.soleField "MeasureChoice" "planner" ∈ mcB := mcB_3_sub _ (List.mem_of_getElem? (i := 20) rfl)
theorem kw141 : Cond.superclass "MeasureChoice" "java/lang/Object" ∈ mcB := mcB_3_sub _ (List.mem_of_getElem? (i := 21) rfl)
theorem kw142 : Cond.methodLink "MeasureChoiceLaw" 103 ⟨"MeasureChoice", "budget", "(I)I"⟩ ∈ mcB := mcB_3_sub _ (List.mem_of_getElem? (i := 22) rfl)
theorem kw143 : Cond.instanceMethod ⟨"MeasureChoice", "budget", "(I)I"⟩ ∈ mcB := mcB_3_sub _ (List.mem_of_getElem? (i := 23) rfl)
theorem kw144 : Cond.selects "MeasureChoice" ⟨"MeasureChoice", "budget", "(I)I"⟩ ⟨"MeasureChoice", "budget", "(I)I"⟩ ∈ mcB := mcB_3_sub _ (List.mem_of_getElem? (i := 24) rfl)
theorem kw145 : Cond.code ⟨"MeasureChoice", "budget", "(I)I"⟩ prog_1_method_11_code 3 (some FieldType.int) ∈ mcB := mcB_3_sub _ (List.mem_of_getElem? (i := 25) rfl)
theorem kw146 : Cond.methodLink "MeasureChoice" 108 ⟨"MeasureChoice$Ladder", "bringUpToDate", "(LMeasureChoice$House;)V"⟩ ∈ mcB := mcB_3_sub _ (List.mem_of_getElem? (i := 26) rfl)
theorem kw147 : Cond.instanceMethod ⟨"MeasureChoice$Ladder", "bringUpToDate", "(LMeasureChoice$House;)V"⟩ ∈ mcB := mcB_3_sub _ (List.mem_of_getElem? (i := 27) rfl)
theorem kw148 : Cond.selects "MeasureChoice$Ladder" ⟨"MeasureChoice$Ladder", "bringUpToDate", "(LMeasureChoice$House;)V"⟩ ⟨"MeasureChoice$Ladder", "bringUpToDate", "(LMeasureChoice$House;)V"⟩ ∈ mcB := mcB_3_sub _ (List.mem_of_getElem? (i := 28) rfl)
theorem kw149 : Cond.code ⟨"MeasureChoice$Ladder", "bringUpToDate", "(LMeasureChoice$House;)V"⟩ prog_3_method_7_code 3 none ∈ mcB := mcB_3_sub _ (List.mem_of_getElem? (i := 29) rfl)
theorem kw150 : Cond.methodLink "MeasureChoice$Ladder" 44 ⟨"MeasureChoice$Ladder", "addSteps", "(II)V"⟩ ∈ mcB := mcB_3_sub _ (List.mem_of_getElem? (i := 30) rfl)
theorem kw151 : Cond.instanceMethod ⟨"MeasureChoice$Ladder", "addSteps", "(II)V"⟩ ∈ mcB := mcB_3_sub _ (List.mem_of_getElem? (i := 31) rfl)
theorem kw152 : Cond.code ⟨"MeasureChoice$Ladder", "addSteps", "(II)V"⟩ prog_3_method_8_code 7 none ∈ mcB := mcB_3_sub _ (List.mem_of_getElem? (i := 32) rfl)
theorem kw153 : Cond.methodLink "MeasureChoice$Ladder" 48 ⟨"MeasureChoice$Ladder", "addGains", "(ILMeasureChoice$House;)V"⟩ ∈ mcB := mcB_3_sub _ (List.mem_of_getElem? (i := 33) rfl)
theorem kw154 : Cond.instanceMethod ⟨"MeasureChoice$Ladder", "addGains", "(ILMeasureChoice$House;)V"⟩ ∈ mcB := mcB_3_sub _ (List.mem_of_getElem? (i := 34) rfl)
theorem kw155 : Cond.code ⟨"MeasureChoice$Ladder", "addGains", "(ILMeasureChoice$House;)V"⟩ prog_3_method_9_code 9 none ∈ mcB := mcB_3_sub _ (List.mem_of_getElem? (i := 35) rfl)
theorem kw156 : Cond.methodLink "MeasureChoice$Ladder" 52 ⟨"MeasureChoice$Ladder", "keepUnbeaten", "(LMeasureChoice$House;)V"⟩ ∈ mcB := mcB_3_sub _ (List.mem_of_getElem? (i := 36) rfl)
theorem kw157 : Cond.instanceMethod ⟨"MeasureChoice$Ladder", "keepUnbeaten", "(LMeasureChoice$House;)V"⟩ ∈ mcB := mcB_3_sub _ (List.mem_of_getElem? (i := 37) rfl)
theorem kw158 : Cond.code ⟨"MeasureChoice$Ladder", "keepUnbeaten", "(LMeasureChoice$House;)V"⟩ prog_3_method_10_code 4 none ∈ mcB := mcB_3_sub _ (List.mem_of_getElem? (i := 38) rfl)
theorem kw159 : Cond.methodLink "MeasureChoice$Ladder" 22 ⟨"MeasureChoice$Ladder", "setAt", "(I)I"⟩ ∈ mcB := mcB_3_sub _ (List.mem_of_getElem? (i := 39) rfl)
theorem kw160 : Cond.instanceMethod ⟨"MeasureChoice$Ladder", "setAt", "(I)I"⟩ ∈ mcB := mcB_4_sub _ (List.mem_of_getElem? (i := 0) rfl)
theorem kw161 : Cond.selects "MeasureChoice$Ladder" ⟨"MeasureChoice$Ladder", "setAt", "(I)I"⟩ ⟨"MeasureChoice$Ladder", "setAt", "(I)I"⟩ ∈ mcB := mcB_4_sub _ (List.mem_of_getElem? (i := 1) rfl)
theorem kw162 : Cond.code ⟨"MeasureChoice$Ladder", "setAt", "(I)I"⟩ prog_3_method_2_code 2 (some FieldType.int) ∈ mcB := mcB_4_sub _ (List.mem_of_getElem? (i := 2) rfl)
theorem kw163 : Cond.methodLink "MeasureChoice$Ladder" 32 ⟨"MeasureChoice$Ladder", "gainAt", "(I)I"⟩ ∈ mcB := mcB_4_sub _ (List.mem_of_getElem? (i := 3) rfl)
theorem kw164 : Cond.instanceMethod ⟨"MeasureChoice$Ladder", "gainAt", "(I)I"⟩ ∈ mcB := mcB_4_sub _ (List.mem_of_getElem? (i := 4) rfl)
theorem kw165 : Cond.selects "MeasureChoice$Ladder" ⟨"MeasureChoice$Ladder", "gainAt", "(I)I"⟩ ⟨"MeasureChoice$Ladder", "gainAt", "(I)I"⟩ ∈ mcB := mcB_4_sub _ (List.mem_of_getElem? (i := 5) rfl)
theorem kw166 : Cond.code ⟨"MeasureChoice$Ladder", "gainAt", "(I)I"⟩ prog_3_method_4_code 2 (some FieldType.int) ∈ mcB := mcB_4_sub _ (List.mem_of_getElem? (i := 6) rfl)
theorem kw167 : Cond.methodLink "MeasureChoice$Ladder" 61 ⟨"MeasureChoice$House", "allows", "(I)Z"⟩ ∈ mcB := mcB_4_sub _ (List.mem_of_getElem? (i := 7) rfl)
theorem kw168 : Cond.instanceMethod ⟨"MeasureChoice$House", "allows", "(I)Z"⟩ ∈ mcB := mcB_4_sub _ (List.mem_of_getElem? (i := 8) rfl)
theorem kw169 : Cond.selects "MeasureChoice$House" ⟨"MeasureChoice$House", "allows", "(I)Z"⟩ ⟨"MeasureChoice$House", "allows", "(I)Z"⟩ ∈ mcB := mcB_4_sub _ (List.mem_of_getElem? (i := 9) rfl)
theorem kw170 : Cond.code ⟨"MeasureChoice$House", "allows", "(I)Z"⟩ prog_2_method_7_code 3 (some FieldType.boolean) ∈ mcB := mcB_4_sub _ (List.mem_of_getElem? (i := 10) rfl)
theorem kw171 : Cond.methodLink "MeasureChoice$House" 44 ⟨"MeasureChoice$House", "has", "(II)Z"⟩ ∈ mcB := mcB_4_sub _ (List.mem_of_getElem? (i := 11) rfl)
theorem kw172 : Cond.static ⟨"MeasureChoice$House", "has", "(II)Z"⟩ ∈ mcB := mcB_4_sub _ (List.mem_of_getElem? (i := 12) rfl)
theorem kw173 : Cond.code ⟨"MeasureChoice$House", "has", "(II)Z"⟩ prog_2_method_13_code 2 (some FieldType.boolean) ∈ mcB := mcB_4_sub _ (List.mem_of_getElem? (i := 13) rfl)
theorem kw174 : Cond.methodLink "MeasureChoice$Ladder" 29 ⟨"MeasureChoice$Ladder", "costAt", "(I)I"⟩ ∈ mcB := mcB_4_sub _ (List.mem_of_getElem? (i := 14) rfl)
theorem kw175 : Cond.instanceMethod ⟨"MeasureChoice$Ladder", "costAt", "(I)I"⟩ ∈ mcB := mcB_4_sub _ (List.mem_of_getElem? (i := 15) rfl)
theorem kw176 : Cond.selects "MeasureChoice$Ladder" ⟨"MeasureChoice$Ladder", "costAt", "(I)I"⟩ ⟨"MeasureChoice$Ladder", "costAt", "(I)I"⟩ ∈ mcB := mcB_4_sub _ (List.mem_of_getElem? (i := 16) rfl)
theorem kw177 : Cond.code ⟨"MeasureChoice$Ladder", "costAt", "(I)I"⟩ prog_3_method_3_code 2 (some FieldType.int) ∈ mcB := mcB_4_sub _ (List.mem_of_getElem? (i := 17) rfl)
theorem kw178 : Cond.methodLink "MeasureChoice" 118 ⟨"MeasureChoice$Ladder", "lowestGaining", "(I)I"⟩ ∈ mcB := mcB_4_sub _ (List.mem_of_getElem? (i := 18) rfl)
theorem kw179 : Cond.instanceMethod ⟨"MeasureChoice$Ladder", "lowestGaining", "(I)I"⟩ ∈ mcB := mcB_4_sub _ (List.mem_of_getElem? (i := 19) rfl)
theorem kw180 : Cond.selects "MeasureChoice$Ladder" ⟨"MeasureChoice$Ladder", "lowestGaining", "(I)I"⟩ ⟨"MeasureChoice$Ladder", "lowestGaining", "(I)I"⟩ ∈ mcB := mcB_4_sub _ (List.mem_of_getElem? (i := 20) rfl)
theorem kw181 : Cond.code ⟨"MeasureChoice$Ladder", "lowestGaining", "(I)I"⟩ prog_3_method_6_code 3 (some FieldType.int) ∈ mcB := mcB_4_sub _ (List.mem_of_getElem? (i := 21) rfl)
theorem kw182 : Cond.methodLink "MeasureChoice" 121 ⟨"MeasureChoice$Ladder", "costAt", "(I)I"⟩ ∈ mcB := mcB_4_sub _ (List.mem_of_getElem? (i := 22) rfl)
theorem kw183 : Cond.methodLink "MeasureChoiceLaw" 65 ⟨"MeasureChoiceLaw", "measure", "(LMeasureChoice;II[J)I"⟩ ∈ mcB := mcB_4_sub _ (List.mem_of_getElem? (i := 23) rfl)
theorem kw184 : Cond.static ⟨"MeasureChoiceLaw", "measure", "(LMeasureChoice;II[J)I"⟩ ∈ mcB := mcB_4_sub _ (List.mem_of_getElem? (i := 24) rfl)
theorem kw185 : Cond.codeWith ⟨"MeasureChoiceLaw", "measure", "(LMeasureChoice;II[J)I"⟩ method_3_code 5 (some FieldType.int) [(0, 10, 13, 13), (0, 10, 17, 15)] ∈ mcB := mcB_4_sub _ (List.mem_of_getElem? (i := 25) rfl)
theorem kw186 : Cond.classLink "MeasureChoiceLaw" 13 "java/lang/IllegalArgumentException" ∈ mcB := mcB_4_sub _ (List.mem_of_getElem? (i := 26) rfl)
theorem kw187 : Cond.classLink "MeasureChoiceLaw" 15 "java/lang/IllegalStateException" ∈ mcB := mcB_4_sub _ (List.mem_of_getElem? (i := 27) rfl)
theorem kw188 : Cond.methodLink "MeasureChoiceLaw" 7 ⟨"MeasureChoice", "measure", "(II)I"⟩ ∈ mcB := mcB_4_sub _ (List.mem_of_getElem? (i := 28) rfl)
theorem kw189 : Cond.instanceMethod ⟨"MeasureChoice", "measure", "(II)I"⟩ ∈ mcB := mcB_4_sub _ (List.mem_of_getElem? (i := 29) rfl)
theorem kw190 : Cond.selects "MeasureChoice" ⟨"MeasureChoice", "measure", "(II)I"⟩ ⟨"MeasureChoice", "measure", "(II)I"⟩ ∈ mcB := mcB_4_sub _ (List.mem_of_getElem? (i := 30) rfl)
theorem kw191 : Cond.code ⟨"MeasureChoice", "measure", "(II)I"⟩ prog_1_method_2_code 3 (some FieldType.int) ∈ mcB := mcB_4_sub _ (List.mem_of_getElem? (i := 31) rfl)
theorem kw192 : Cond.methodLink "MeasureChoice" 30 ⟨"MeasureChoice", "requireCostAndGain", "(II)V"⟩ ∈ mcB := mcB_4_sub _ (List.mem_of_getElem? (i := 32) rfl)
theorem kw193 : Cond.static ⟨"MeasureChoice", "requireCostAndGain", "(II)V"⟩ ∈ mcB := mcB_4_sub _ (List.mem_of_getElem? (i := 33) rfl)
theorem kw194 : Cond.code ⟨"MeasureChoice", "requireCostAndGain", "(II)V"⟩ prog_1_method_19_code 2 none ∈ mcB := mcB_4_sub _ (List.mem_of_getElem? (i := 34) rfl)
theorem kw195 : Cond.methodLink "MeasureChoice" 78 ⟨"MeasureChoice", "requireBetween", "(III)V"⟩ ∈ mcB := mcB_4_sub _ (List.mem_of_getElem? (i := 35) rfl)
theorem kw196 : Cond.static ⟨"MeasureChoice", "requireBetween", "(III)V"⟩ ∈ mcB := mcB_4_sub _ (List.mem_of_getElem? (i := 36) rfl)
theorem kw197 : Cond.code ⟨"MeasureChoice", "requireBetween", "(III)V"⟩ prog_1_method_17_code 3 none ∈ mcB := mcB_4_sub _ (List.mem_of_getElem? (i := 37) rfl)
theorem kw198 : Cond.classLink "MeasureChoice" 125 "java/lang/IllegalArgumentException" ∈ mcB := mcB_4_sub _ (List.mem_of_getElem? (i := 38) rfl)
theorem kw199 : Cond.instantiable "java/lang/IllegalArgumentException" 6 ∈ mcB := mcB_4_sub _ (List.mem_of_getElem? (i := 39) rfl)
theorem kw200 : Cond.selects "java/lang/IllegalArgumentException" ⟨"java/lang/Throwable", "fillInStackTrace", "(I)Ljava/lang/Throwable;"⟩ ⟨"java/lang/Throwable", "fillInStackTrace", "(I)Ljava/lang/Throwable;"⟩ ∈ mcB := mcB_5_sub _ (List.mem_of_getElem? (i := 0) rfl)
theorem kw201 : Cond.selects "java/lang/IllegalArgumentException" ⟨"java/lang/Throwable", "fillInStackTrace", "()Ljava/lang/Throwable;"⟩ ⟨"java/lang/Throwable", "fillInStackTrace", "()Ljava/lang/Throwable;"⟩ ∈ mcB := mcB_5_sub _ (List.mem_of_getElem? (i := 1) rfl)
theorem kw202 : Cond.lays "java/lang/IllegalArgumentException" "java/lang/Throwable" "cause" "Ljava/lang/Throwable;" ∈ mcB := mcB_5_sub _ (List.mem_of_getElem? (i := 2) rfl)
theorem kw203 : Cond.lays "java/lang/Throwable" "java/lang/Throwable" "cause" "Ljava/lang/Throwable;" ∈ mcB := mcB_5_sub _ (List.mem_of_getElem? (i := 3) rfl)
theorem kw204 : Cond.lays "java/lang/IllegalArgumentException" "java/lang/Throwable" "stackTrace" "[Ljava/lang/StackTraceElement;" ∈ mcB := mcB_5_sub _ (List.mem_of_getElem? (i := 4) rfl)
theorem kw205 : Cond.lays "java/lang/Throwable" "java/lang/Throwable" "stackTrace" "[Ljava/lang/StackTraceElement;" ∈ mcB := mcB_5_sub _ (List.mem_of_getElem? (i := 5) rfl)
theorem kw206 : Cond.lays "java/lang/IllegalArgumentException" "java/lang/Throwable" "suppressedExceptions" "Ljava/util/List;" ∈ mcB := mcB_5_sub _ (List.mem_of_getElem? (i := 6) rfl)
theorem kw207 : Cond.lays "java/lang/Throwable" "java/lang/Throwable" "suppressedExceptions" "Ljava/util/List;" ∈ mcB := mcB_5_sub _ (List.mem_of_getElem? (i := 7) rfl)
theorem kw208 : Cond.lays "java/lang/IllegalArgumentException" "java/lang/Throwable" "detailMessage" "Ljava/lang/String;" ∈ mcB := mcB_5_sub _ (List.mem_of_getElem? (i := 8) rfl)
theorem kw209 : Cond.lays "java/lang/Throwable" "java/lang/Throwable" "detailMessage" "Ljava/lang/String;" ∈ mcB := mcB_5_sub _ (List.mem_of_getElem? (i := 9) rfl)
theorem kw210 : Cond.lays "java/lang/IllegalArgumentException" "java/lang/Throwable" "backtrace" "Ljava/lang/Object;" ∈ mcB := mcB_5_sub _ (List.mem_of_getElem? (i := 10) rfl)
theorem kw211 : Cond.lays "java/lang/Throwable" "java/lang/Throwable" "backtrace" "Ljava/lang/Object;" ∈ mcB := mcB_5_sub _ (List.mem_of_getElem? (i := 11) rfl)
theorem kw212 : Cond.fieldLink "java/lang/Throwable" 198 "java/lang/Throwable" "backtrace" "Ljava/lang/Object;" ∈ mcB := mcB_5_sub _ (List.mem_of_getElem? (i := 12) rfl)
theorem kw213 : Cond.superclass "java/lang/Throwable" "java/lang/Object" ∈ mcB := mcB_5_sub _ (List.mem_of_getElem? (i := 13) rfl)
theorem kw214 : Cond.instanceMethod ⟨"java/lang/Throwable", "<init>", "()V"⟩ ∈ mcB := mcB_5_sub _ (List.mem_of_getElem? (i := 14) rfl)
theorem kw215 : Cond.code ⟨"java/lang/Throwable", "<init>", "()V"⟩ prog_13_method_1_code 1 none ∈ mcB := mcB_5_sub _ (List.mem_of_getElem? (i := 15) rfl)
theorem kw216 : Cond.methodLink "java/lang/Throwable" 1 ⟨"java/lang/Object", "<init>", "()V"⟩ ∈ mcB := mcB_5_sub _ (List.mem_of_getElem? (i := 16) rfl)
theorem kw217 : Cond.fieldLink "java/lang/Throwable" 13 "java/lang/Throwable" "UNASSIGNED_STACK" "[Ljava/lang/StackTraceElement;" ∈ mcB := mcB_5_sub _ (List.mem_of_getElem? (i := 17) rfl)
theorem kw218 : Cond.fieldLink "java/lang/Throwable" 20 "java/lang/Throwable" "SUPPRESSED_SENTINEL" "Ljava/util/List;" ∈ mcB := mcB_5_sub _ (List.mem_of_getElem? (i := 18) rfl)
theorem kw219 : Cond.methodLink "java/lang/Throwable" 27 ⟨"java/lang/Throwable", "fillInStackTrace", "()Ljava/lang/Throwable;"⟩ ∈ mcB := mcB_5_sub _ (List.mem_of_getElem? (i := 19) rfl)
theorem kw220 : Cond.instanceMethod ⟨"java/lang/Throwable", "fillInStackTrace", "()Ljava/lang/Throwable;"⟩ ∈ mcB := mcB_5_sub _ (List.mem_of_getElem? (i := 20) rfl)
theorem kw221 : Cond.sameMethod "java/lang/Throwable" "java/lang/Throwable" "fillInStackTrace" "()Ljava/lang/Throwable;" ∈ mcB := mcB_5_sub _ (List.mem_of_getElem? (i := 21) rfl)
theorem kw222 : Cond.selects "java/lang/IllegalStateException" ⟨"java/lang/Throwable", "fillInStackTrace", "()Ljava/lang/Throwable;"⟩ ⟨"java/lang/Throwable", "fillInStackTrace", "()Ljava/lang/Throwable;"⟩ ∈ mcB := mcB_5_sub _ (List.mem_of_getElem? (i := 22) rfl)
theorem kw223 : Cond.codeSync ⟨"java/lang/Throwable", "fillInStackTrace", "()Ljava/lang/Throwable;"⟩ prog_13_method_18_code 1 (some (FieldType.object "java/lang/Throwable")) ∈ mcB := mcB_5_sub _ (List.mem_of_getElem? (i := 23) rfl)
theorem kw224 : Cond.methodLink "java/lang/Throwable" 202 ⟨"java/lang/Throwable", "fillInStackTrace", "(I)Ljava/lang/Throwable;"⟩ ∈ mcB := mcB_5_sub _ (List.mem_of_getElem? (i := 24) rfl)
theorem kw225 : Cond.instanceMethod ⟨"java/lang/Throwable", "fillInStackTrace", "(I)Ljava/lang/Throwable;"⟩ ∈ mcB := mcB_5_sub _ (List.mem_of_getElem? (i := 25) rfl)
theorem kw226 : Cond.instantiable "java/lang/Throwable" 6 ∈ mcB := mcB_5_sub _ (List.mem_of_getElem? (i := 26) rfl)
theorem kw227 : Cond.native ⟨"java/lang/Throwable", "fillInStackTrace", "(I)Ljava/lang/Throwable;"⟩ ∈ mcB := mcB_5_sub _ (List.mem_of_getElem? (i := 27) rfl)
theorem kw228 : Cond.methodLink "MeasureChoice" 129 ⟨"java/lang/IllegalArgumentException", "<init>", "(Ljava/lang/String;)V"⟩ ∈ mcB := mcB_5_sub _ (List.mem_of_getElem? (i := 28) rfl)
theorem kw229 : Cond.instanceMethod ⟨"java/lang/IllegalArgumentException", "<init>", "(Ljava/lang/String;)V"⟩ ∈ mcB := mcB_5_sub _ (List.mem_of_getElem? (i := 29) rfl)
theorem kw230 : Cond.code ⟨"java/lang/IllegalArgumentException", "<init>", "(Ljava/lang/String;)V"⟩ prog_8_method_2_code 2 none ∈ mcB := mcB_5_sub _ (List.mem_of_getElem? (i := 30) rfl)
theorem kw231 : Cond.methodLink "java/lang/IllegalArgumentException" 7 ⟨"java/lang/RuntimeException", "<init>", "(Ljava/lang/String;)V"⟩ ∈ mcB := mcB_5_sub _ (List.mem_of_getElem? (i := 31) rfl)
theorem kw232 : Cond.instanceMethod ⟨"java/lang/RuntimeException", "<init>", "(Ljava/lang/String;)V"⟩ ∈ mcB := mcB_5_sub _ (List.mem_of_getElem? (i := 32) rfl)
theorem kw233 : Cond.code ⟨"java/lang/RuntimeException", "<init>", "(Ljava/lang/String;)V"⟩ prog_11_method_2_code 2 none ∈ mcB := mcB_5_sub _ (List.mem_of_getElem? (i := 33) rfl)
theorem kw234 : Cond.methodLink "java/lang/RuntimeException" 7 ⟨"java/lang/Exception", "<init>", "(Ljava/lang/String;)V"⟩ ∈ mcB := mcB_5_sub _ (List.mem_of_getElem? (i := 34) rfl)
theorem kw235 : Cond.instanceMethod ⟨"java/lang/Exception", "<init>", "(Ljava/lang/String;)V"⟩ ∈ mcB := mcB_5_sub _ (List.mem_of_getElem? (i := 35) rfl)
theorem kw236 : Cond.code ⟨"java/lang/Exception", "<init>", "(Ljava/lang/String;)V"⟩ prog_7_method_2_code 2 none ∈ mcB := mcB_5_sub _ (List.mem_of_getElem? (i := 36) rfl)
theorem kw237 : Cond.methodLink "java/lang/Exception" 7 ⟨"java/lang/Throwable", "<init>", "(Ljava/lang/String;)V"⟩ ∈ mcB := mcB_5_sub _ (List.mem_of_getElem? (i := 37) rfl)
theorem kw238 : Cond.instanceMethod ⟨"java/lang/Throwable", "<init>", "(Ljava/lang/String;)V"⟩ ∈ mcB := mcB_5_sub _ (List.mem_of_getElem? (i := 38) rfl)
theorem kw239 : Cond.code ⟨"java/lang/Throwable", "<init>", "(Ljava/lang/String;)V"⟩ prog_13_method_2_code 2 none ∈ mcB := mcB_5_sub _ (List.mem_of_getElem? (i := 39) rfl)
theorem kw240 : Cond.fieldLink "java/lang/Throwable" 198 "java/lang/Throwable" "backtrace" "Ljava/lang/Object;" ∈ mcB := mcB_6_sub _ (List.mem_of_getElem? (i := 0) rfl)
theorem kw241 : Cond.fieldLink "java/lang/Throwable" 31 "java/lang/Throwable" "detailMessage" "Ljava/lang/String;" ∈ mcB := mcB_6_sub _ (List.mem_of_getElem? (i := 1) rfl)
theorem kw242 : Cond.fieldLink "java/lang/Throwable" 7 "java/lang/Throwable" "cause" "Ljava/lang/Throwable;" ∈ mcB := mcB_6_sub _ (List.mem_of_getElem? (i := 2) rfl)
theorem kw243 : Cond.fieldLink "java/lang/Throwable" 17 "java/lang/Throwable" "stackTrace" "[Ljava/lang/StackTraceElement;" ∈ mcB := mcB_6_sub _ (List.mem_of_getElem? (i := 3) rfl)
theorem kw244 : Cond.fieldLink "java/lang/Throwable" 24 "java/lang/Throwable" "suppressedExceptions" "Ljava/util/List;" ∈ mcB := mcB_6_sub _ (List.mem_of_getElem? (i := 4) rfl)
theorem kw245 : Cond.soleField "java/lang/Throwable" "backtrace" ∈ mcB := mcB_6_sub _ (List.mem_of_getElem? (i := 5) rfl)
theorem kw246 : Cond.soleField "java/lang/Throwable" "detailMessage" ∈ mcB := mcB_6_sub _ (List.mem_of_getElem? (i := 6) rfl)
theorem kw247 : Cond.soleField "java/lang/Throwable" "cause" ∈ mcB := mcB_6_sub _ (List.mem_of_getElem? (i := 7) rfl)
theorem kw248 : Cond.soleField "java/lang/Throwable" "stackTrace" ∈ mcB := mcB_6_sub _ (List.mem_of_getElem? (i := 8) rfl)
theorem kw249 : Cond.lays "java/lang/IllegalArgumentException" "java/lang/Throwable" "depth" "I" ∈ mcB := mcB_6_sub _ (List.mem_of_getElem? (i := 9) rfl)
theorem kw250 : Cond.soleField "java/lang/Throwable" "depth" ∈ mcB := mcB_6_sub _ (List.mem_of_getElem? (i := 10) rfl)
theorem kw251 : Cond.soleField "java/lang/Throwable" "suppressedExceptions" ∈ mcB := mcB_6_sub _ (List.mem_of_getElem? (i := 11) rfl)
theorem kw252 : Cond.superclass "java/lang/IllegalArgumentException" "java/lang/RuntimeException" ∈ mcB := mcB_6_sub _ (List.mem_of_getElem? (i := 12) rfl)
theorem kw253 : Cond.arrayClass FieldType.byte ∈ mcB := mcB_6_sub _ (List.mem_of_getElem? (i := 13) rfl)
theorem kw254 : Cond.classLink "MeasureChoice" 38 "java/lang/IllegalStateException" ∈ mcB := mcB_6_sub _ (List.mem_of_getElem? (i := 14) rfl)
theorem kw255 : Cond.instantiable "java/lang/IllegalStateException" 6 ∈ mcB := mcB_6_sub _ (List.mem_of_getElem? (i := 15) rfl)
theorem kw256 : Cond.selects "java/lang/IllegalStateException" ⟨"java/lang/Throwable", "fillInStackTrace", "(I)Ljava/lang/Throwable;"⟩ ⟨"java/lang/Throwable", "fillInStackTrace", "(I)Ljava/lang/Throwable;"⟩ ∈ mcB := mcB_6_sub _ (List.mem_of_getElem? (i := 16) rfl)
theorem kw257 : Cond.lays "java/lang/IllegalStateException" "java/lang/Throwable" "cause" "Ljava/lang/Throwable;" ∈ mcB := mcB_6_sub _ (List.mem_of_getElem? (i := 17) rfl)
theorem kw258 : Cond.lays "java/lang/IllegalStateException" "java/lang/Throwable" "stackTrace" "[Ljava/lang/StackTraceElement;" ∈ mcB := mcB_6_sub _ (List.mem_of_getElem? (i := 18) rfl)
theorem kw259 : Cond.lays "java/lang/IllegalStateException" "java/lang/Throwable" "suppressedExceptions" "Ljava/util/List;" ∈ mcB := mcB_6_sub _ (List.mem_of_getElem? (i := 19) rfl)
theorem kw260 : Cond.lays "java/lang/IllegalStateException" "java/lang/Throwable" "detailMessage" "Ljava/lang/String;" ∈ mcB := mcB_6_sub _ (List.mem_of_getElem? (i := 20) rfl)
theorem kw261 : Cond.lays "java/lang/IllegalStateException" "java/lang/Throwable" "backtrace" "Ljava/lang/Object;" ∈ mcB := mcB_6_sub _ (List.mem_of_getElem? (i := 21) rfl)
theorem kw262 : Cond.methodLink "MeasureChoice" 42 ⟨"java/lang/IllegalStateException", "<init>", "(Ljava/lang/String;)V"⟩ ∈ mcB := mcB_6_sub _ (List.mem_of_getElem? (i := 22) rfl)
theorem kw263 : Cond.instanceMethod ⟨"java/lang/IllegalStateException", "<init>", "(Ljava/lang/String;)V"⟩ ∈ mcB := mcB_6_sub _ (List.mem_of_getElem? (i := 23) rfl)
theorem kw264 : Cond.code ⟨"java/lang/IllegalStateException", "<init>", "(Ljava/lang/String;)V"⟩ prog_9_method_2_code 2 none ∈ mcB := mcB_6_sub _ (List.mem_of_getElem? (i := 24) rfl)
theorem kw265 : Cond.methodLink "java/lang/IllegalStateException" 7 ⟨"java/lang/RuntimeException", "<init>", "(Ljava/lang/String;)V"⟩ ∈ mcB := mcB_6_sub _ (List.mem_of_getElem? (i := 25) rfl)
theorem kw266 : Cond.lays "java/lang/IllegalStateException" "java/lang/Throwable" "depth" "I" ∈ mcB := mcB_6_sub _ (List.mem_of_getElem? (i := 26) rfl)
theorem kw267 : Cond.superclass "java/lang/IllegalStateException" "java/lang/RuntimeException" ∈ mcB := mcB_6_sub _ (List.mem_of_getElem? (i := 27) rfl)
theorem kw268 : Cond.methodLink "MeasureChoice" 45 ⟨"MeasureChoice$House", "add", "(II)I"⟩ ∈ mcB := mcB_6_sub _ (List.mem_of_getElem? (i := 28) rfl)
theorem kw269 : Cond.instanceMethod ⟨"MeasureChoice$House", "add", "(II)I"⟩ ∈ mcB := mcB_6_sub _ (List.mem_of_getElem? (i := 29) rfl)
theorem kw270 : Cond.selects "MeasureChoice$House" ⟨"MeasureChoice$House", "add", "(II)I"⟩ ⟨"MeasureChoice$House", "add", "(II)I"⟩ ∈ mcB := mcB_6_sub _ (List.mem_of_getElem? (i := 30) rfl)
theorem kw271 : Cond.code ⟨"MeasureChoice$House", "add", "(II)I"⟩ prog_2_method_2_code 4 (some FieldType.int) ∈ mcB := mcB_6_sub _ (List.mem_of_getElem? (i := 31) rfl)
theorem kw272 : Cond.methodLink "MeasureChoice$House" 33 ⟨"MeasureChoice$House", "put", "(III)V"⟩ ∈ mcB := mcB_6_sub _ (List.mem_of_getElem? (i := 32) rfl)
theorem kw273 : Cond.instanceMethod ⟨"MeasureChoice$House", "put", "(III)V"⟩ ∈ mcB := mcB_6_sub _ (List.mem_of_getElem? (i := 33) rfl)
theorem kw274 : Cond.selects "MeasureChoice$House" ⟨"MeasureChoice$House", "put", "(III)V"⟩ ⟨"MeasureChoice$House", "put", "(III)V"⟩ ∈ mcB := mcB_6_sub _ (List.mem_of_getElem? (i := 34) rfl)
theorem kw275 : Cond.code ⟨"MeasureChoice$House", "put", "(III)V"⟩ prog_2_method_3_code 4 none ∈ mcB := mcB_6_sub _ (List.mem_of_getElem? (i := 35) rfl)
theorem kw276 : Cond.methodLink "MeasureChoiceLaw" 75 ⟨"MeasureChoiceLaw", "change", "(LMeasureChoice;III)I"⟩ ∈ mcB := mcB_6_sub _ (List.mem_of_getElem? (i := 36) rfl)
theorem kw277 : Cond.static ⟨"MeasureChoiceLaw", "change", "(LMeasureChoice;III)I"⟩ ∈ mcB := mcB_6_sub _ (List.mem_of_getElem? (i := 37) rfl)
theorem kw278 : Cond.codeWith ⟨"MeasureChoiceLaw", "change", "(LMeasureChoice;III)I"⟩ method_4_code 5 (some FieldType.int) [(0, 7, 10, 13)] ∈ mcB := mcB_6_sub _ (List.mem_of_getElem? (i := 38) rfl)
theorem kw279 : Cond.methodLink "MeasureChoiceLaw" 17 ⟨"MeasureChoice", "change", "(III)V"⟩ ∈ mcB := mcB_6_sub _ (List.mem_of_getElem? (i := 39) rfl)
theorem kw280 : Cond.instanceMethod ⟨"MeasureChoice", "change", "(III)V"⟩ ∈ mcB := mcB_7_sub _ (List.mem_of_getElem? (i := 0) rfl)
theorem kw281 : Cond.selects "MeasureChoice" ⟨"MeasureChoice", "change", "(III)V"⟩ ⟨"MeasureChoice", "change", "(III)V"⟩ ∈ mcB := mcB_7_sub _ (List.mem_of_getElem? (i := 1) rfl)
theorem kw282 : Cond.code ⟨"MeasureChoice", "change", "(III)V"⟩ prog_1_method_3_code 4 none ∈ mcB := mcB_7_sub _ (List.mem_of_getElem? (i := 2) rfl)
theorem kw283 : Cond.methodLink "MeasureChoice" 49 ⟨"MeasureChoice", "requireMeasure", "(I)V"⟩ ∈ mcB := mcB_7_sub _ (List.mem_of_getElem? (i := 3) rfl)
theorem kw284 : Cond.instanceMethod ⟨"MeasureChoice", "requireMeasure", "(I)V"⟩ ∈ mcB := mcB_7_sub _ (List.mem_of_getElem? (i := 4) rfl)
theorem kw285 : Cond.code ⟨"MeasureChoice", "requireMeasure", "(I)V"⟩ prog_1_method_20_code 2 none ∈ mcB := mcB_7_sub _ (List.mem_of_getElem? (i := 5) rfl)
theorem kw286 : Cond.methodLink "MeasureChoice" 53 ⟨"MeasureChoice$House", "put", "(III)V"⟩ ∈ mcB := mcB_7_sub _ (List.mem_of_getElem? (i := 6) rfl)
theorem kw287 : Cond.methodLink "MeasureChoiceLaw" 79 ⟨"MeasureChoiceLaw", "exclude", "(LMeasureChoice;IIZ[J)I"⟩ ∈ mcB := mcB_7_sub _ (List.mem_of_getElem? (i := 7) rfl)
theorem kw288 : Cond.static ⟨"MeasureChoiceLaw", "exclude", "(LMeasureChoice;IIZ[J)I"⟩ ∈ mcB := mcB_7_sub _ (List.mem_of_getElem? (i := 8) rfl)
theorem kw289 : Cond.codeWith ⟨"MeasureChoiceLaw", "exclude", "(LMeasureChoice;IIZ[J)I"⟩ method_5_code 6 (some FieldType.int) [(0, 19, 22, 13)] ∈ mcB := mcB_7_sub _ (List.mem_of_getElem? (i := 9) rfl)
theorem kw290 : Cond.methodLink "MeasureChoiceLaw" 21 ⟨"MeasureChoice", "exclude", "(IIZ)Z"⟩ ∈ mcB := mcB_7_sub _ (List.mem_of_getElem? (i := 10) rfl)
theorem kw291 : Cond.instanceMethod ⟨"MeasureChoice", "exclude", "(IIZ)Z"⟩ ∈ mcB := mcB_7_sub _ (List.mem_of_getElem? (i := 11) rfl)
theorem kw292 : Cond.selects "MeasureChoice" ⟨"MeasureChoice", "exclude", "(IIZ)Z"⟩ ⟨"MeasureChoice", "exclude", "(IIZ)Z"⟩ ∈ mcB := mcB_7_sub _ (List.mem_of_getElem? (i := 12) rfl)
theorem kw293 : Cond.code ⟨"MeasureChoice", "exclude", "(IIZ)Z"⟩ prog_1_method_4_code 5 (some FieldType.boolean) ∈ mcB := mcB_7_sub _ (List.mem_of_getElem? (i := 13) rfl)
theorem kw294 : Cond.methodLink "MeasureChoice" 57 ⟨"MeasureChoice", "requirePair", "(II)V"⟩ ∈ mcB := mcB_7_sub _ (List.mem_of_getElem? (i := 14) rfl)
theorem kw295 : Cond.instanceMethod ⟨"MeasureChoice", "requirePair", "(II)V"⟩ ∈ mcB := mcB_7_sub _ (List.mem_of_getElem? (i := 15) rfl)
theorem kw296 : Cond.code ⟨"MeasureChoice", "requirePair", "(II)V"⟩ prog_1_method_21_code 3 none ∈ mcB := mcB_7_sub _ (List.mem_of_getElem? (i := 16) rfl)
theorem kw297 : Cond.methodLink "MeasureChoice" 64 ⟨"MeasureChoice$House", "has", "(II)Z"⟩ ∈ mcB := mcB_7_sub _ (List.mem_of_getElem? (i := 17) rfl)
theorem kw298 : Cond.methodLink "MeasureChoice" 68 ⟨"MeasureChoice$House", "putExcluded", "(IIZ)V"⟩ ∈ mcB := mcB_7_sub _ (List.mem_of_getElem? (i := 18) rfl)
theorem kw299 : Cond.instanceMethod ⟨"MeasureChoice$House", "putExcluded", "(IIZ)V"⟩ ∈ mcB := mcB_7_sub _ (List.mem_of_getElem? (i := 19) rfl)
theorem kw300 : Cond.selects "MeasureChoice$House" ⟨"MeasureChoice$House", "putExcluded", "(IIZ)V"⟩ ⟨"MeasureChoice$House", "putExcluded", "(IIZ)V"⟩ ∈ mcB := mcB_7_sub _ (List.mem_of_getElem? (i := 20) rfl)
theorem kw301 : Cond.code ⟨"MeasureChoice$House", "putExcluded", "(IIZ)V"⟩ prog_2_method_4_code 4 none ∈ mcB := mcB_7_sub _ (List.mem_of_getElem? (i := 21) rfl)
theorem kw302 : Cond.methodLink "MeasureChoice$House" 40 ⟨"MeasureChoice$House", "with", "(IIZ)I"⟩ ∈ mcB := mcB_7_sub _ (List.mem_of_getElem? (i := 22) rfl)
theorem kw303 : Cond.static ⟨"MeasureChoice$House", "with", "(IIZ)I"⟩ ∈ mcB := mcB_7_sub _ (List.mem_of_getElem? (i := 23) rfl)
theorem kw304 : Cond.code ⟨"MeasureChoice$House", "with", "(IIZ)I"⟩ prog_2_method_14_code 4 (some FieldType.int) ∈ mcB := mcB_7_sub _ (List.mem_of_getElem? (i := 24) rfl)
theorem kw305 : Cond.methodLink "MeasureChoiceLaw" 83 ⟨"MeasureChoiceLaw", "needs", "(LMeasureChoice;IIZ[J)I"⟩ ∈ mcB := mcB_7_sub _ (List.mem_of_getElem? (i := 25) rfl)
theorem kw306 : Cond.static ⟨"MeasureChoiceLaw", "needs", "(LMeasureChoice;IIZ[J)I"⟩ ∈ mcB := mcB_7_sub _ (List.mem_of_getElem? (i := 26) rfl)
theorem kw307 : Cond.codeWith ⟨"MeasureChoiceLaw", "needs", "(LMeasureChoice;IIZ[J)I"⟩ method_6_code 6 (some FieldType.int) [(0, 19, 22, 13)] ∈ mcB := mcB_7_sub _ (List.mem_of_getElem? (i := 27) rfl)
theorem kw308 : Cond.methodLink "MeasureChoiceLaw" 25 ⟨"MeasureChoice", "needs", "(IIZ)Z"⟩ ∈ mcB := mcB_7_sub _ (List.mem_of_getElem? (i := 28) rfl)
theorem kw309 : Cond.instanceMethod ⟨"MeasureChoice", "needs", "(IIZ)Z"⟩ ∈ mcB := mcB_7_sub _ (List.mem_of_getElem? (i := 29) rfl)
theorem kw310 : Cond.selects "MeasureChoice" ⟨"MeasureChoice", "needs", "(IIZ)Z"⟩ ⟨"MeasureChoice", "needs", "(IIZ)Z"⟩ ∈ mcB := mcB_7_sub _ (List.mem_of_getElem? (i := 30) rfl)
theorem kw311 : Cond.code ⟨"MeasureChoice", "needs", "(IIZ)Z"⟩ prog_1_method_5_code 5 (some FieldType.boolean) ∈ mcB := mcB_7_sub _ (List.mem_of_getElem? (i := 31) rfl)
theorem kw312 : Cond.methodLink "MeasureChoice" 75 ⟨"MeasureChoice$House", "putNeeded", "(IIZ)V"⟩ ∈ mcB := mcB_7_sub _ (List.mem_of_getElem? (i := 32) rfl)
theorem kw313 : Cond.instanceMethod ⟨"MeasureChoice$House", "putNeeded", "(IIZ)V"⟩ ∈ mcB := mcB_7_sub _ (List.mem_of_getElem? (i := 33) rfl)
theorem kw314 : Cond.selects "MeasureChoice$House" ⟨"MeasureChoice$House", "putNeeded", "(IIZ)V"⟩ ⟨"MeasureChoice$House", "putNeeded", "(IIZ)V"⟩ ∈ mcB := mcB_7_sub _ (List.mem_of_getElem? (i := 34) rfl)
theorem kw315 : Cond.code ⟨"MeasureChoice$House", "putNeeded", "(IIZ)V"⟩ prog_2_method_5_code 4 none ∈ mcB := mcB_7_sub _ (List.mem_of_getElem? (i := 35) rfl)
theorem kw316 : Cond.methodLink "MeasureChoiceLaw" 86 ⟨"MeasureChoiceLaw", "bonus", "(LMeasureChoice;III[J)I"⟩ ∈ mcB := mcB_7_sub _ (List.mem_of_getElem? (i := 36) rfl)
theorem kw317 : Cond.static ⟨"MeasureChoiceLaw", "bonus", "(LMeasureChoice;III[J)I"⟩ ∈ mcB := mcB_7_sub _ (List.mem_of_getElem? (i := 37) rfl)
theorem kw318 : Cond.codeWith ⟨"MeasureChoiceLaw", "bonus", "(LMeasureChoice;III[J)I"⟩ method_7_code 6 (some FieldType.int) [(0, 12, 15, 13)] ∈ mcB := mcB_7_sub _ (List.mem_of_getElem? (i := 38) rfl)
theorem kw319 : Cond.methodLink "MeasureChoiceLaw" 28 ⟨"MeasureChoice", "bonus", "(III)I"⟩ ∈ mcB := mcB_7_sub _ (List.mem_of_getElem? (i := 39) rfl)
theorem kw320 : Cond.instanceMethod ⟨"MeasureChoice", "bonus", "(III)I"⟩ ∈ mcB := mcB_8_sub _ (List.mem_of_getElem? (i := 0) rfl)
theorem kw321 : Cond.selects "MeasureChoice" ⟨"MeasureChoice", "bonus", "(III)I"⟩ ⟨"MeasureChoice", "bonus", "(III)I"⟩ ∈ mcB := mcB_8_sub _ (List.mem_of_getElem? (i := 1) rfl)
theorem kw322 : Cond.code ⟨"MeasureChoice", "bonus", "(III)I"⟩ prog_1_method_6_code 5 (some FieldType.int) ∈ mcB := mcB_8_sub _ (List.mem_of_getElem? (i := 2) rfl)
theorem kw323 : Cond.methodLink "MeasureChoice" 85 ⟨"MeasureChoice$House", "putBonus", "(III)V"⟩ ∈ mcB := mcB_8_sub _ (List.mem_of_getElem? (i := 3) rfl)
theorem kw324 : Cond.instanceMethod ⟨"MeasureChoice$House", "putBonus", "(III)V"⟩ ∈ mcB := mcB_8_sub _ (List.mem_of_getElem? (i := 4) rfl)
theorem kw325 : Cond.selects "MeasureChoice$House" ⟨"MeasureChoice$House", "putBonus", "(III)V"⟩ ⟨"MeasureChoice$House", "putBonus", "(III)V"⟩ ∈ mcB := mcB_8_sub _ (List.mem_of_getElem? (i := 5) rfl)
theorem kw326 : Cond.code ⟨"MeasureChoice$House", "putBonus", "(III)V"⟩ prog_2_method_6_code 4 none ∈ mcB := mcB_8_sub _ (List.mem_of_getElem? (i := 6) rfl)
theorem kw327 : Cond.methodLink "MeasureChoiceLaw" 90 ⟨"MeasureChoiceLaw", "lawful", "(LMeasureChoice;I[J)I"⟩ ∈ mcB := mcB_8_sub _ (List.mem_of_getElem? (i := 7) rfl)
theorem kw328 : Cond.static ⟨"MeasureChoiceLaw", "lawful", "(LMeasureChoice;I[J)I"⟩ ∈ mcB := mcB_8_sub _ (List.mem_of_getElem? (i := 8) rfl)
theorem kw329 : Cond.codeWith ⟨"MeasureChoiceLaw", "lawful", "(LMeasureChoice;I[J)I"⟩ method_8_code 4 (some FieldType.int) [(0, 16, 19, 13)] ∈ mcB := mcB_8_sub _ (List.mem_of_getElem? (i := 9) rfl)
theorem kw330 : Cond.methodLink "MeasureChoiceLaw" 32 ⟨"MeasureChoice", "lawful", "(I)Z"⟩ ∈ mcB := mcB_8_sub _ (List.mem_of_getElem? (i := 10) rfl)
theorem kw331 : Cond.instanceMethod ⟨"MeasureChoice", "lawful", "(I)Z"⟩ ∈ mcB := mcB_8_sub _ (List.mem_of_getElem? (i := 11) rfl)
theorem kw332 : Cond.selects "MeasureChoice" ⟨"MeasureChoice", "lawful", "(I)Z"⟩ ⟨"MeasureChoice", "lawful", "(I)Z"⟩ ∈ mcB := mcB_8_sub _ (List.mem_of_getElem? (i := 12) rfl)
theorem kw333 : Cond.code ⟨"MeasureChoice", "lawful", "(I)Z"⟩ prog_1_method_7_code 2 (some FieldType.boolean) ∈ mcB := mcB_8_sub _ (List.mem_of_getElem? (i := 13) rfl)
theorem kw334 : Cond.methodLink "MeasureChoice" 88 ⟨"MeasureChoice", "requireSet", "(I)V"⟩ ∈ mcB := mcB_8_sub _ (List.mem_of_getElem? (i := 14) rfl)
theorem kw335 : Cond.instanceMethod ⟨"MeasureChoice", "requireSet", "(I)V"⟩ ∈ mcB := mcB_8_sub _ (List.mem_of_getElem? (i := 15) rfl)
theorem kw336 : Cond.code ⟨"MeasureChoice", "requireSet", "(I)V"⟩ prog_1_method_22_code 2 none ∈ mcB := mcB_8_sub _ (List.mem_of_getElem? (i := 16) rfl)
theorem kw337 : Cond.methodLink "MeasureChoice" 91 ⟨"MeasureChoice$House", "allows", "(I)Z"⟩ ∈ mcB := mcB_8_sub _ (List.mem_of_getElem? (i := 17) rfl)
theorem kw338 : Cond.methodLink "MeasureChoiceLaw" 94 ⟨"MeasureChoiceLaw", "told", "(LMeasureChoice;II[J)I"⟩ ∈ mcB := mcB_8_sub _ (List.mem_of_getElem? (i := 18) rfl)
theorem kw339 : Cond.static ⟨"MeasureChoiceLaw", "told", "(LMeasureChoice;II[J)I"⟩ ∈ mcB := mcB_8_sub _ (List.mem_of_getElem? (i := 19) rfl)
theorem kw340 : Cond.codeWith ⟨"MeasureChoiceLaw", "told", "(LMeasureChoice;II[J)I"⟩ method_9_code 5 (some FieldType.int) [(0, 10, 13, 13)] ∈ mcB := mcB_8_sub _ (List.mem_of_getElem? (i := 20) rfl)
theorem kw341 : Cond.methodLink "MeasureChoiceLaw" 36 ⟨"MeasureChoice", "told", "(II)I"⟩ ∈ mcB := mcB_8_sub _ (List.mem_of_getElem? (i := 21) rfl)
theorem kw342 : Cond.instanceMethod ⟨"MeasureChoice", "told", "(II)I"⟩ ∈ mcB := mcB_8_sub _ (List.mem_of_getElem? (i := 22) rfl)
theorem kw343 : Cond.selects "MeasureChoice" ⟨"MeasureChoice", "told", "(II)I"⟩ ⟨"MeasureChoice", "told", "(II)I"⟩ ∈ mcB := mcB_8_sub _ (List.mem_of_getElem? (i := 23) rfl)
theorem kw344 : Cond.code ⟨"MeasureChoice", "told", "(II)I"⟩ prog_1_method_8_code 3 (some FieldType.int) ∈ mcB := mcB_8_sub _ (List.mem_of_getElem? (i := 24) rfl)
theorem kw345 : Cond.methodLink "MeasureChoice" 95 ⟨"MeasureChoice$House", "costOf", "(I)I"⟩ ∈ mcB := mcB_8_sub _ (List.mem_of_getElem? (i := 25) rfl)
theorem kw346 : Cond.instanceMethod ⟨"MeasureChoice$House", "costOf", "(I)I"⟩ ∈ mcB := mcB_8_sub _ (List.mem_of_getElem? (i := 26) rfl)
theorem kw347 : Cond.selects "MeasureChoice$House" ⟨"MeasureChoice$House", "costOf", "(I)I"⟩ ⟨"MeasureChoice$House", "costOf", "(I)I"⟩ ∈ mcB := mcB_8_sub _ (List.mem_of_getElem? (i := 27) rfl)
theorem kw348 : Cond.code ⟨"MeasureChoice$House", "costOf", "(I)I"⟩ prog_2_method_8_code 4 (some FieldType.int) ∈ mcB := mcB_8_sub _ (List.mem_of_getElem? (i := 28) rfl)
theorem kw349 : Cond.methodLink "MeasureChoice" 99 ⟨"MeasureChoice$House", "gainOf", "(I)I"⟩ ∈ mcB := mcB_8_sub _ (List.mem_of_getElem? (i := 29) rfl)
theorem kw350 : Cond.instanceMethod ⟨"MeasureChoice$House", "gainOf", "(I)I"⟩ ∈ mcB := mcB_8_sub _ (List.mem_of_getElem? (i := 30) rfl)
theorem kw351 : Cond.selects "MeasureChoice$House" ⟨"MeasureChoice$House", "gainOf", "(I)I"⟩ ⟨"MeasureChoice$House", "gainOf", "(I)I"⟩ ∈ mcB := mcB_8_sub _ (List.mem_of_getElem? (i := 31) rfl)
theorem kw352 : Cond.code ⟨"MeasureChoice$House", "gainOf", "(I)I"⟩ prog_2_method_9_code 4 (some FieldType.int) ∈ mcB := mcB_8_sub _ (List.mem_of_getElem? (i := 32) rfl)
theorem kw353 : Cond.methodLink "MeasureChoice$House" 48 ⟨"MeasureChoice$House", "bonusWithEarlier", "(II)I"⟩ ∈ mcB := mcB_8_sub _ (List.mem_of_getElem? (i := 33) rfl)
theorem kw354 : Cond.instanceMethod ⟨"MeasureChoice$House", "bonusWithEarlier", "(II)I"⟩ ∈ mcB := mcB_8_sub _ (List.mem_of_getElem? (i := 34) rfl)
theorem kw355 : Cond.code ⟨"MeasureChoice$House", "bonusWithEarlier", "(II)I"⟩ prog_2_method_10_code 5 (some FieldType.int) ∈ mcB := mcB_8_sub _ (List.mem_of_getElem? (i := 35) rfl)
theorem kw356 : Cond.methodLink "MeasureChoiceLaw" 97 ⟨"MeasureChoiceLaw", "closure", "(LMeasureChoice;I[J)I"⟩ ∈ mcB := mcB_8_sub _ (List.mem_of_getElem? (i := 36) rfl)
theorem kw357 : Cond.static ⟨"MeasureChoiceLaw", "closure", "(LMeasureChoice;I[J)I"⟩ ∈ mcB := mcB_8_sub _ (List.mem_of_getElem? (i := 37) rfl)
theorem kw358 : Cond.codeWith ⟨"MeasureChoiceLaw", "closure", "(LMeasureChoice;I[J)I"⟩ method_10_code 4 (some FieldType.int) [(0, 9, 12, 13)] ∈ mcB := mcB_8_sub _ (List.mem_of_getElem? (i := 38) rfl)
theorem kw359 : Cond.methodLink "MeasureChoiceLaw" 39 ⟨"MeasureChoice", "closure", "(I)I"⟩ ∈ mcB := mcB_8_sub _ (List.mem_of_getElem? (i := 39) rfl)
theorem kw360 : Cond.instanceMethod ⟨"MeasureChoice", "closure", "(I)I"⟩ ∈ mcB := mcB_9_sub _ (List.mem_of_getElem? (i := 0) rfl)
theorem kw361 : Cond.selects "MeasureChoice" ⟨"MeasureChoice", "closure", "(I)I"⟩ ⟨"MeasureChoice", "closure", "(I)I"⟩ ∈ mcB := mcB_9_sub _ (List.mem_of_getElem? (i := 1) rfl)
theorem kw362 : Cond.code ⟨"MeasureChoice", "closure", "(I)I"⟩ prog_1_method_9_code 2 (some FieldType.int) ∈ mcB := mcB_9_sub _ (List.mem_of_getElem? (i := 2) rfl)
theorem kw363 : Cond.methodLink "MeasureChoice" 102 ⟨"MeasureChoice$House", "broughtBy", "(I)I"⟩ ∈ mcB := mcB_9_sub _ (List.mem_of_getElem? (i := 3) rfl)
theorem kw364 : Cond.instanceMethod ⟨"MeasureChoice$House", "broughtBy", "(I)I"⟩ ∈ mcB := mcB_9_sub _ (List.mem_of_getElem? (i := 4) rfl)
theorem kw365 : Cond.selects "MeasureChoice$House" ⟨"MeasureChoice$House", "broughtBy", "(I)I"⟩ ⟨"MeasureChoice$House", "broughtBy", "(I)I"⟩ ∈ mcB := mcB_9_sub _ (List.mem_of_getElem? (i := 5) rfl)
theorem kw366 : Cond.code ⟨"MeasureChoice$House", "broughtBy", "(I)I"⟩ prog_2_method_11_code 4 (some FieldType.int) ∈ mcB := mcB_9_sub _ (List.mem_of_getElem? (i := 6) rfl)
theorem kw367 : Cond.methodLink "MeasureChoice$House" 52 ⟨"MeasureChoice$House", "withItsNeeds", "(I)I"⟩ ∈ mcB := mcB_9_sub _ (List.mem_of_getElem? (i := 7) rfl)
theorem kw368 : Cond.instanceMethod ⟨"MeasureChoice$House", "withItsNeeds", "(I)I"⟩ ∈ mcB := mcB_9_sub _ (List.mem_of_getElem? (i := 8) rfl)
theorem kw369 : Cond.code ⟨"MeasureChoice$House", "withItsNeeds", "(I)I"⟩ prog_2_method_12_code 4 (some FieldType.int) ∈ mcB := mcB_9_sub _ (List.mem_of_getElem? (i := 9) rfl)
theorem kw370 : Cond.methodLink "MeasureChoiceLaw" 100 ⟨"MeasureChoiceLaw", "best", "(LMeasureChoice;I[J)I"⟩ ∈ mcB := mcB_9_sub _ (List.mem_of_getElem? (i := 10) rfl)
theorem kw371 : Cond.static ⟨"MeasureChoiceLaw", "best", "(LMeasureChoice;I[J)I"⟩ ∈ mcB := mcB_9_sub _ (List.mem_of_getElem? (i := 11) rfl)
theorem kw372 : Cond.codeWith ⟨"MeasureChoiceLaw", "best", "(LMeasureChoice;I[J)I"⟩ method_11_code 4 (some FieldType.int) [(0, 9, 12, 13)] ∈ mcB := mcB_9_sub _ (List.mem_of_getElem? (i := 12) rfl)
theorem kw373 : Cond.methodLink "MeasureChoiceLaw" 43 ⟨"MeasureChoice", "best", "(I)I"⟩ ∈ mcB := mcB_9_sub _ (List.mem_of_getElem? (i := 13) rfl)
theorem kw374 : Cond.instanceMethod ⟨"MeasureChoice", "best", "(I)I"⟩ ∈ mcB := mcB_9_sub _ (List.mem_of_getElem? (i := 14) rfl)
theorem kw375 : Cond.selects "MeasureChoice" ⟨"MeasureChoice", "best", "(I)I"⟩ ⟨"MeasureChoice", "best", "(I)I"⟩ ∈ mcB := mcB_9_sub _ (List.mem_of_getElem? (i := 15) rfl)
theorem kw376 : Cond.code ⟨"MeasureChoice", "best", "(I)I"⟩ prog_1_method_10_code 2 (some FieldType.int) ∈ mcB := mcB_9_sub _ (List.mem_of_getElem? (i := 16) rfl)
theorem kw377 : Cond.methodLink "MeasureChoice" 105 ⟨"MeasureChoice", "requireNotBelowZero", "(I)V"⟩ ∈ mcB := mcB_9_sub _ (List.mem_of_getElem? (i := 17) rfl)
theorem kw378 : Cond.static ⟨"MeasureChoice", "requireNotBelowZero", "(I)V"⟩ ∈ mcB := mcB_9_sub _ (List.mem_of_getElem? (i := 18) rfl)
theorem kw379 : Cond.code ⟨"MeasureChoice", "requireNotBelowZero", "(I)V"⟩ prog_1_method_18_code 1 none ∈ mcB := mcB_9_sub _ (List.mem_of_getElem? (i := 19) rfl)
theorem kw380 : Cond.methodLink "MeasureChoice" 112 ⟨"MeasureChoice$Ladder", "highestWithin", "(I)I"⟩ ∈ mcB := mcB_9_sub _ (List.mem_of_getElem? (i := 20) rfl)
theorem kw381 : Cond.instanceMethod ⟨"MeasureChoice$Ladder", "highestWithin", "(I)I"⟩ ∈ mcB := mcB_9_sub _ (List.mem_of_getElem? (i := 21) rfl)
theorem kw382 : Cond.selects "MeasureChoice$Ladder" ⟨"MeasureChoice$Ladder", "highestWithin", "(I)I"⟩ ⟨"MeasureChoice$Ladder", "highestWithin", "(I)I"⟩ ∈ mcB := mcB_9_sub _ (List.mem_of_getElem? (i := 22) rfl)
theorem kw383 : Cond.code ⟨"MeasureChoice$Ladder", "highestWithin", "(I)I"⟩ prog_3_method_5_code 4 (some FieldType.int) ∈ mcB := mcB_9_sub _ (List.mem_of_getElem? (i := 23) rfl)
theorem kw384 : Cond.methodLink "MeasureChoice" 115 ⟨"MeasureChoice$Ladder", "setAt", "(I)I"⟩ ∈ mcB := mcB_9_sub _ (List.mem_of_getElem? (i := 24) rfl)
theorem kw385 : Cond.methodLink "MeasureChoiceLaw" 107 ⟨"MeasureChoiceLaw", "worth", "(LMeasureChoice;II[J)I"⟩ ∈ mcB := mcB_9_sub _ (List.mem_of_getElem? (i := 25) rfl)
theorem kw386 : Cond.static ⟨"MeasureChoiceLaw", "worth", "(LMeasureChoice;II[J)I"⟩ ∈ mcB := mcB_9_sub _ (List.mem_of_getElem? (i := 26) rfl)
theorem kw387 : Cond.codeWith ⟨"MeasureChoiceLaw", "worth", "(LMeasureChoice;II[J)I"⟩ method_12_code 5 (some FieldType.int) [(0, 10, 13, 13)] ∈ mcB := mcB_9_sub _ (List.mem_of_getElem? (i := 27) rfl)
theorem kw388 : Cond.methodLink "MeasureChoiceLaw" 46 ⟨"MeasureChoice", "worth", "(II)I"⟩ ∈ mcB := mcB_9_sub _ (List.mem_of_getElem? (i := 28) rfl)
theorem kw389 : Cond.instanceMethod ⟨"MeasureChoice", "worth", "(II)I"⟩ ∈ mcB := mcB_9_sub _ (List.mem_of_getElem? (i := 29) rfl)
theorem kw390 : Cond.selects "MeasureChoice" ⟨"MeasureChoice", "worth", "(II)I"⟩ ⟨"MeasureChoice", "worth", "(II)I"⟩ ∈ mcB := mcB_9_sub _ (List.mem_of_getElem? (i := 30) rfl)
theorem kw391 : Cond.code ⟨"MeasureChoice", "worth", "(II)I"⟩ prog_1_method_12_code 4 (some FieldType.int) ∈ mcB := mcB_9_sub _ (List.mem_of_getElem? (i := 31) rfl)
theorem kw392 : Cond.constant "MeasureChoice" 124 (1000000 : Int32) ∈ mcB := mcB_9_sub _ (List.mem_of_getElem? (i := 32) rfl)
theorem kw393 : Cond.methodLink "MeasureChoice" 130 ⟨"MeasureChoice$Ladder", "gainAt", "(I)I"⟩ ∈ mcB := mcB_9_sub _ (List.mem_of_getElem? (i := 33) rfl)
theorem kw394 : Cond.methodLink "MeasureChoiceLaw" 110 ⟨"MeasureChoiceLaw", "frontier", "(LMeasureChoice;I[J)I"⟩ ∈ mcB := mcB_9_sub _ (List.mem_of_getElem? (i := 34) rfl)
theorem kw395 : Cond.static ⟨"MeasureChoiceLaw", "frontier", "(LMeasureChoice;I[J)I"⟩ ∈ mcB := mcB_9_sub _ (List.mem_of_getElem? (i := 35) rfl)
theorem kw396 : Cond.codeWith ⟨"MeasureChoiceLaw", "frontier", "(LMeasureChoice;I[J)I"⟩ method_13_code 4 (some FieldType.int) [(0, 9, 12, 13)] ∈ mcB := mcB_9_sub _ (List.mem_of_getElem? (i := 36) rfl)
theorem kw397 : Cond.methodLink "MeasureChoiceLaw" 49 ⟨"MeasureChoice", "frontier", "(I)I"⟩ ∈ mcB := mcB_9_sub _ (List.mem_of_getElem? (i := 37) rfl)
theorem kw398 : Cond.instanceMethod ⟨"MeasureChoice", "frontier", "(I)I"⟩ ∈ mcB := mcB_9_sub _ (List.mem_of_getElem? (i := 38) rfl)
theorem kw399 : Cond.selects "MeasureChoice" ⟨"MeasureChoice", "frontier", "(I)I"⟩ ⟨"MeasureChoice", "frontier", "(I)I"⟩ ∈ mcB := mcB_9_sub _ (List.mem_of_getElem? (i := 39) rfl)
theorem kw400 : Cond.code ⟨"MeasureChoice", "frontier", "(I)I"⟩ prog_1_method_13_code 2 (some FieldType.int) ∈ mcB := mcB_10_sub _ (List.mem_of_getElem? (i := 0) rfl)
theorem kw401 : Cond.methodLink "MeasureChoiceLaw" 113 ⟨"MeasureChoiceLaw", "year", "(LMeasureChoice;II[J)I"⟩ ∈ mcB := mcB_10_sub _ (List.mem_of_getElem? (i := 1) rfl)
theorem kw402 : Cond.static ⟨"MeasureChoiceLaw", "year", "(LMeasureChoice;II[J)I"⟩ ∈ mcB := mcB_10_sub _ (List.mem_of_getElem? (i := 2) rfl)
theorem kw403 : Cond.codeWith ⟨"MeasureChoiceLaw", "year", "(LMeasureChoice;II[J)I"⟩ method_14_code 5 (some FieldType.int) [(0, 10, 13, 13)] ∈ mcB := mcB_10_sub _ (List.mem_of_getElem? (i := 3) rfl)
theorem kw404 : Cond.methodLink "MeasureChoiceLaw" 52 ⟨"MeasureChoice", "year", "(II)I"⟩ ∈ mcB := mcB_10_sub _ (List.mem_of_getElem? (i := 4) rfl)
theorem kw405 : Cond.instanceMethod ⟨"MeasureChoice", "year", "(II)I"⟩ ∈ mcB := mcB_10_sub _ (List.mem_of_getElem? (i := 5) rfl)
theorem kw406 : Cond.selects "MeasureChoice" ⟨"MeasureChoice", "year", "(II)I"⟩ ⟨"MeasureChoice", "year", "(II)I"⟩ ∈ mcB := mcB_10_sub _ (List.mem_of_getElem? (i := 6) rfl)
theorem kw407 : Cond.code ⟨"MeasureChoice", "year", "(II)I"⟩ prog_1_method_14_code 4 (some FieldType.int) ∈ mcB := mcB_10_sub _ (List.mem_of_getElem? (i := 7) rfl)
theorem kw408 : Cond.constant "MeasureChoice" 136 (100000 : Int32) ∈ mcB := mcB_10_sub _ (List.mem_of_getElem? (i := 8) rfl)
theorem kw409 : Cond.methodLink "MeasureChoiceLaw" 116 ⟨"MeasureChoiceLaw", "plan", "(LMeasureChoice;II[J)I"⟩ ∈ mcB := mcB_10_sub _ (List.mem_of_getElem? (i := 9) rfl)
theorem kw410 : Cond.static ⟨"MeasureChoiceLaw", "plan", "(LMeasureChoice;II[J)I"⟩ ∈ mcB := mcB_10_sub _ (List.mem_of_getElem? (i := 10) rfl)
theorem kw411 : Cond.codeWith ⟨"MeasureChoiceLaw", "plan", "(LMeasureChoice;II[J)I"⟩ method_15_code 5 (some FieldType.int) [(0, 10, 13, 13)] ∈ mcB := mcB_10_sub _ (List.mem_of_getElem? (i := 11) rfl)
theorem kw412 : Cond.methodLink "MeasureChoiceLaw" 55 ⟨"MeasureChoice", "plan", "(II)I"⟩ ∈ mcB := mcB_10_sub _ (List.mem_of_getElem? (i := 12) rfl)
theorem kw413 : Cond.instanceMethod ⟨"MeasureChoice", "plan", "(II)I"⟩ ∈ mcB := mcB_10_sub _ (List.mem_of_getElem? (i := 13) rfl)
theorem kw414 : Cond.selects "MeasureChoice" ⟨"MeasureChoice", "plan", "(II)I"⟩ ⟨"MeasureChoice", "plan", "(II)I"⟩ ∈ mcB := mcB_10_sub _ (List.mem_of_getElem? (i := 14) rfl)
theorem kw415 : Cond.code ⟨"MeasureChoice", "plan", "(II)I"⟩ prog_1_method_15_code 3 (some FieldType.int) ∈ mcB := mcB_10_sub _ (List.mem_of_getElem? (i := 15) rfl)
theorem kw416 : Cond.methodLink "MeasureChoice" 140 ⟨"MeasureChoice$Planner", "work", "(LMeasureChoice$House;I)V"⟩ ∈ mcB := mcB_10_sub _ (List.mem_of_getElem? (i := 16) rfl)
theorem kw417 : Cond.instanceMethod ⟨"MeasureChoice$Planner", "work", "(LMeasureChoice$House;I)V"⟩ ∈ mcB := mcB_10_sub _ (List.mem_of_getElem? (i := 17) rfl)
theorem kw418 : Cond.selects "MeasureChoice$Planner" ⟨"MeasureChoice$Planner", "work", "(LMeasureChoice$House;I)V"⟩ ⟨"MeasureChoice$Planner", "work", "(LMeasureChoice$House;I)V"⟩ ∈ mcB := mcB_10_sub _ (List.mem_of_getElem? (i := 18) rfl)
theorem kw419 : Cond.code ⟨"MeasureChoice$Planner", "work", "(LMeasureChoice$House;I)V"⟩ prog_4_method_2_code 4 none ∈ mcB := mcB_10_sub _ (List.mem_of_getElem? (i := 19) rfl)
theorem kw420 : Cond.methodLink "MeasureChoice$Planner" 32 ⟨"MeasureChoice$Planner", "fillPurses", "()V"⟩ ∈ mcB := mcB_10_sub _ (List.mem_of_getElem? (i := 20) rfl)
theorem kw421 : Cond.instanceMethod ⟨"MeasureChoice$Planner", "fillPurses", "()V"⟩ ∈ mcB := mcB_10_sub _ (List.mem_of_getElem? (i := 21) rfl)
theorem kw422 : Cond.code ⟨"MeasureChoice$Planner", "fillPurses", "()V"⟩ prog_4_method_4_code 3 none ∈ mcB := mcB_10_sub _ (List.mem_of_getElem? (i := 22) rfl)
theorem kw423 : Cond.methodLink "MeasureChoice$Planner" 35 ⟨"MeasureChoice$Planner", "judgeSets", "(LMeasureChoice$House;)V"⟩ ∈ mcB := mcB_10_sub _ (List.mem_of_getElem? (i := 23) rfl)
theorem kw424 : Cond.instanceMethod ⟨"MeasureChoice$Planner", "judgeSets", "(LMeasureChoice$House;)V"⟩ ∈ mcB := mcB_10_sub _ (List.mem_of_getElem? (i := 24) rfl)
theorem kw425 : Cond.code ⟨"MeasureChoice$Planner", "judgeSets", "(LMeasureChoice$House;)V"⟩ prog_4_method_5_code 3 none ∈ mcB := mcB_10_sub _ (List.mem_of_getElem? (i := 25) rfl)
theorem kw426 : Cond.methodLink "MeasureChoice$Planner" 53 ⟨"java/lang/Math", "min", "(II)I"⟩ ∈ mcB := mcB_10_sub _ (List.mem_of_getElem? (i := 26) rfl)
theorem kw427 : Cond.static ⟨"java/lang/Math", "min", "(II)I"⟩ ∈ mcB := mcB_10_sub _ (List.mem_of_getElem? (i := 27) rfl)
theorem kw428 : Cond.code ⟨"java/lang/Math", "min", "(II)I"⟩ prog_10_method_69_code 2 (some FieldType.int) ∈ mcB := mcB_10_sub _ (List.mem_of_getElem? (i := 28) rfl)
theorem kw429 : Cond.methodLink "MeasureChoice$Planner" 61 ⟨"MeasureChoice$House", "allows", "(I)Z"⟩ ∈ mcB := mcB_10_sub _ (List.mem_of_getElem? (i := 29) rfl)
theorem kw430 : Cond.methodLink "MeasureChoice$Planner" 65 ⟨"MeasureChoice$House", "costOf", "(I)I"⟩ ∈ mcB := mcB_10_sub _ (List.mem_of_getElem? (i := 30) rfl)
theorem kw431 : Cond.constant "MeasureChoice$Planner" 69 (400001 : Int32) ∈ mcB := mcB_10_sub _ (List.mem_of_getElem? (i := 31) rfl)
theorem kw432 : Cond.methodLink "MeasureChoice$Planner" 70 ⟨"MeasureChoice$House", "gainOf", "(I)I"⟩ ∈ mcB := mcB_10_sub _ (List.mem_of_getElem? (i := 32) rfl)
theorem kw433 : Cond.methodLink "MeasureChoice$Planner" 39 ⟨"MeasureChoice$Planner", "workYear", "(IZ)V"⟩ ∈ mcB := mcB_10_sub _ (List.mem_of_getElem? (i := 33) rfl)
theorem kw434 : Cond.instanceMethod ⟨"MeasureChoice$Planner", "workYear", "(IZ)V"⟩ ∈ mcB := mcB_10_sub _ (List.mem_of_getElem? (i := 34) rfl)
theorem kw435 : Cond.code ⟨"MeasureChoice$Planner", "workYear", "(IZ)V"⟩ prog_4_method_6_code 5 none ∈ mcB := mcB_10_sub _ (List.mem_of_getElem? (i := 35) rfl)
theorem kw436 : Cond.methodLink "MeasureChoice$Planner" 43 ⟨"MeasureChoice$Planner", "bestFrom", "(II)I"⟩ ∈ mcB := mcB_10_sub _ (List.mem_of_getElem? (i := 36) rfl)
theorem kw437 : Cond.instanceMethod ⟨"MeasureChoice$Planner", "bestFrom", "(II)I"⟩ ∈ mcB := mcB_10_sub _ (List.mem_of_getElem? (i := 37) rfl)
theorem kw438 : Cond.code ⟨"MeasureChoice$Planner", "bestFrom", "(II)I"⟩ prog_4_method_7_code 5 (some FieldType.int) ∈ mcB := mcB_10_sub _ (List.mem_of_getElem? (i := 38) rfl)
theorem kw439 : Cond.methodLink "MeasureChoice$Planner" 73 ⟨"MeasureChoice$Planner", "isBetter", "(III)Z"⟩ ∈ mcB := mcB_10_sub _ (List.mem_of_getElem? (i := 39) rfl)
theorem kw440 : Cond.instanceMethod ⟨"MeasureChoice$Planner", "isBetter", "(III)Z"⟩ ∈ mcB := mcB_11_sub _ (List.mem_of_getElem? (i := 0) rfl)
theorem kw441 : Cond.code ⟨"MeasureChoice$Planner", "isBetter", "(III)Z"⟩ prog_4_method_8_code 4 (some FieldType.boolean) ∈ mcB := mcB_11_sub _ (List.mem_of_getElem? (i := 1) rfl)
theorem kw442 : Cond.methodLink "MeasureChoice" 144 ⟨"MeasureChoice$Planner", "boughtUpTo", "(I)I"⟩ ∈ mcB := mcB_11_sub _ (List.mem_of_getElem? (i := 2) rfl)
theorem kw443 : Cond.instanceMethod ⟨"MeasureChoice$Planner", "boughtUpTo", "(I)I"⟩ ∈ mcB := mcB_11_sub _ (List.mem_of_getElem? (i := 3) rfl)
theorem kw444 : Cond.selects "MeasureChoice$Planner" ⟨"MeasureChoice$Planner", "boughtUpTo", "(I)I"⟩ ⟨"MeasureChoice$Planner", "boughtUpTo", "(I)I"⟩ ∈ mcB := mcB_11_sub _ (List.mem_of_getElem? (i := 4) rfl)
theorem kw445 : Cond.code ⟨"MeasureChoice$Planner", "boughtUpTo", "(I)I"⟩ prog_4_method_3_code 4 (some FieldType.int) ∈ mcB := mcB_11_sub _ (List.mem_of_getElem? (i := 5) rfl)
theorem kw446 : Cond.methodLink "MeasureChoiceLaw" 119 ⟨"MeasureChoiceLaw", "planned", "(LMeasureChoice;I[J)I"⟩ ∈ mcB := mcB_11_sub _ (List.mem_of_getElem? (i := 6) rfl)
theorem kw447 : Cond.static ⟨"MeasureChoiceLaw", "planned", "(LMeasureChoice;I[J)I"⟩ ∈ mcB := mcB_11_sub _ (List.mem_of_getElem? (i := 7) rfl)
theorem kw448 : Cond.codeWith ⟨"MeasureChoiceLaw", "planned", "(LMeasureChoice;I[J)I"⟩ method_16_code 4 (some FieldType.int) [(0, 9, 12, 13)] ∈ mcB := mcB_11_sub _ (List.mem_of_getElem? (i := 8) rfl)
theorem kw449 : Cond.methodLink "MeasureChoiceLaw" 58 ⟨"MeasureChoice", "planned", "(I)I"⟩ ∈ mcB := mcB_11_sub _ (List.mem_of_getElem? (i := 9) rfl)
theorem kw450 : Cond.instanceMethod ⟨"MeasureChoice", "planned", "(I)I"⟩ ∈ mcB := mcB_11_sub _ (List.mem_of_getElem? (i := 10) rfl)
theorem kw451 : Cond.selects "MeasureChoice" ⟨"MeasureChoice", "planned", "(I)I"⟩ ⟨"MeasureChoice", "planned", "(I)I"⟩ ∈ mcB := mcB_11_sub _ (List.mem_of_getElem? (i := 11) rfl)
theorem kw452 : Cond.code ⟨"MeasureChoice", "planned", "(I)I"⟩ prog_1_method_16_code 2 (some FieldType.int) ∈ mcB := mcB_11_sub _ (List.mem_of_getElem? (i := 12) rfl)
theorem kw453 : Cond.classLink "MeasureChoiceLaw" 62 "MeasureChoiceModel" ∈ mcB := mcB_11_sub _ (List.mem_of_getElem? (i := 13) rfl)
theorem kw454 : Cond.instantiable "MeasureChoiceModel" 11 ∈ mcB := mcB_11_sub _ (List.mem_of_getElem? (i := 14) rfl)
theorem kw455 : Cond.methodLink "MeasureChoiceLaw" 64 ⟨"MeasureChoiceModel", "<init>", "()V"⟩ ∈ mcB := mcB_11_sub _ (List.mem_of_getElem? (i := 15) rfl)
theorem kw456 : Cond.instanceMethod ⟨"MeasureChoiceModel", "<init>", "()V"⟩ ∈ mcB := mcB_11_sub _ (List.mem_of_getElem? (i := 16) rfl)
theorem kw457 : Cond.code ⟨"MeasureChoiceModel", "<init>", "()V"⟩ prog_6_method_1_code 1 none ∈ mcB := mcB_11_sub _ (List.mem_of_getElem? (i := 17) rfl)
theorem kw458 : Cond.methodLink "MeasureChoiceModel" 1 ⟨"java/lang/Object", "<init>", "()V"⟩ ∈ mcB := mcB_11_sub _ (List.mem_of_getElem? (i := 18) rfl)
theorem kw459 : Cond.fieldLink "MeasureChoiceModel" 38 "MeasureChoiceModel" "thrown" "I" ∈ mcB := mcB_11_sub _ (List.mem_of_getElem? (i := 19) rfl)
theorem kw460 : Cond.fieldLink "MeasureChoiceModel" 42 "MeasureChoiceModel" "many" "I" ∈ mcB := mcB_11_sub _ (List.mem_of_getElem? (i := 20) rfl)
theorem kw461 : Cond.fieldLink "MeasureChoiceModel" 7 "MeasureChoiceModel" "costs" "[I" ∈ mcB := mcB_11_sub _ (List.mem_of_getElem? (i := 21) rfl)
theorem kw462 : Cond.fieldLink "MeasureChoiceModel" 13 "MeasureChoiceModel" "gains" "[I" ∈ mcB := mcB_11_sub _ (List.mem_of_getElem? (i := 22) rfl)
theorem kw463 : Cond.fieldLink "MeasureChoiceModel" 16 "MeasureChoiceModel" "barred" "[Z" ∈ mcB := mcB_11_sub _ (List.mem_of_getElem? (i := 23) rfl)
theorem kw464 : Cond.fieldLink "MeasureChoiceModel" 20 "MeasureChoiceModel" "wants" "[Z" ∈ mcB := mcB_11_sub _ (List.mem_of_getElem? (i := 24) rfl)
theorem kw465 : Cond.fieldLink "MeasureChoiceModel" 23 "MeasureChoiceModel" "bonuses" "[I" ∈ mcB := mcB_11_sub _ (List.mem_of_getElem? (i := 25) rfl)
theorem kw466 : Cond.fieldLink "MeasureChoiceModel" 26 "MeasureChoiceModel" "budgets" "[I" ∈ mcB := mcB_11_sub _ (List.mem_of_getElem? (i := 26) rfl)
theorem kw467 : Cond.fieldLink "MeasureChoiceModel" 29 "MeasureChoiceModel" "laterGain" "[I" ∈ mcB := mcB_11_sub _ (List.mem_of_getElem? (i := 27) rfl)
theorem kw468 : Cond.fieldLink "MeasureChoiceModel" 32 "MeasureChoiceModel" "laterCost" "[I" ∈ mcB := mcB_11_sub _ (List.mem_of_getElem? (i := 28) rfl)
theorem kw469 : Cond.fieldLink "MeasureChoiceModel" 35 "MeasureChoiceModel" "choice" "[I" ∈ mcB := mcB_11_sub _ (List.mem_of_getElem? (i := 29) rfl)
theorem kw470 : Cond.lays "MeasureChoiceModel" "MeasureChoiceModel" "thrown" "I" ∈ mcB := mcB_11_sub _ (List.mem_of_getElem? (i := 30) rfl)
theorem kw471 : Cond.soleField "MeasureChoiceModel" "thrown" ∈ mcB := mcB_11_sub _ (List.mem_of_getElem? (i := 31) rfl)
theorem kw472 : Cond.lays "MeasureChoiceModel" "MeasureChoiceModel" "many" "I" ∈ mcB := mcB_11_sub _ (List.mem_of_getElem? (i := 32) rfl)
theorem kw473 : Cond.soleField "MeasureChoiceModel" "many" ∈ mcB := mcB_11_sub _ (List.mem_of_getElem? (i := 33) rfl)
theorem kw474 : Cond.laysFinal "MeasureChoiceModel" "MeasureChoiceModel" "costs" "[I" ∈ mcB := mcB_11_sub _ (List.mem_of_getElem? (i := 34) rfl)
theorem kw475 : Cond.soleField "MeasureChoiceModel" "costs" ∈ mcB := mcB_11_sub _ (List.mem_of_getElem? (i := 35) rfl)
theorem kw476 : Cond.laysFinal "MeasureChoiceModel" "MeasureChoiceModel" "gains" "[I" ∈ mcB := mcB_11_sub _ (List.mem_of_getElem? (i := 36) rfl)
theorem kw477 : Cond.soleField "MeasureChoiceModel" "gains" ∈ mcB := mcB_11_sub _ (List.mem_of_getElem? (i := 37) rfl)
theorem kw478 : Cond.laysFinal "MeasureChoiceModel" "MeasureChoiceModel" "barred" "[Z" ∈ mcB := mcB_11_sub _ (List.mem_of_getElem? (i := 38) rfl)
theorem kw479 : Cond.soleField "MeasureChoiceModel" "barred" ∈ mcB := mcB_11_sub _ (List.mem_of_getElem? (i := 39) rfl)
theorem kw480 : Cond.laysFinal "MeasureChoiceModel" "MeasureChoiceModel" "wants" "[Z" ∈ mcB := mcB_12_sub _ (List.mem_of_getElem? (i := 0) rfl)
theorem kw481 : Cond.soleField "MeasureChoiceModel" "wants" ∈ mcB := mcB_12_sub _ (List.mem_of_getElem? (i := 1) rfl)
theorem kw482 : Cond.laysFinal "MeasureChoiceModel" "MeasureChoiceModel" "bonuses" "[I" ∈ mcB := mcB_12_sub _ (List.mem_of_getElem? (i := 2) rfl)
theorem kw483 : Cond.soleField "MeasureChoiceModel" "bonuses" ∈ mcB := mcB_12_sub _ (List.mem_of_getElem? (i := 3) rfl)
theorem kw484 : Cond.laysFinal "MeasureChoiceModel" "MeasureChoiceModel" "budgets" "[I" ∈ mcB := mcB_12_sub _ (List.mem_of_getElem? (i := 4) rfl)
theorem kw485 : Cond.soleField "MeasureChoiceModel" "budgets" ∈ mcB := mcB_12_sub _ (List.mem_of_getElem? (i := 5) rfl)
theorem kw486 : Cond.laysFinal "MeasureChoiceModel" "MeasureChoiceModel" "laterGain" "[I" ∈ mcB := mcB_12_sub _ (List.mem_of_getElem? (i := 6) rfl)
theorem kw487 : Cond.soleField "MeasureChoiceModel" "laterGain" ∈ mcB := mcB_12_sub _ (List.mem_of_getElem? (i := 7) rfl)
theorem kw488 : Cond.laysFinal "MeasureChoiceModel" "MeasureChoiceModel" "laterCost" "[I" ∈ mcB := mcB_12_sub _ (List.mem_of_getElem? (i := 8) rfl)
theorem kw489 : Cond.soleField "MeasureChoiceModel" "laterCost" ∈ mcB := mcB_12_sub _ (List.mem_of_getElem? (i := 9) rfl)
theorem kw490 : Cond.laysFinal "MeasureChoiceModel" "MeasureChoiceModel" "choice" "[I" ∈ mcB := mcB_12_sub _ (List.mem_of_getElem? (i := 10) rfl)
theorem kw491 : Cond.soleField "MeasureChoiceModel" "choice" ∈ mcB := mcB_12_sub _ (List.mem_of_getElem? (i := 11) rfl)
theorem kw492 : Cond.superclass "MeasureChoiceModel" "java/lang/Object" ∈ mcB := mcB_12_sub _ (List.mem_of_getElem? (i := 12) rfl)
theorem kw493 : Cond.arrayClass FieldType.boolean ∈ mcB := mcB_12_sub _ (List.mem_of_getElem? (i := 13) rfl)
theorem kw494 : Cond.methodLink "MeasureChoiceLaw" 71 ⟨"MeasureChoiceModel", "thrown", "()I"⟩ ∈ mcB := mcB_12_sub _ (List.mem_of_getElem? (i := 14) rfl)
theorem kw495 : Cond.instanceMethod ⟨"MeasureChoiceModel", "thrown", "()I"⟩ ∈ mcB := mcB_12_sub _ (List.mem_of_getElem? (i := 15) rfl)
theorem kw496 : Cond.selects "MeasureChoiceModel" ⟨"MeasureChoiceModel", "thrown", "()I"⟩ ⟨"MeasureChoiceModel", "thrown", "()I"⟩ ∈ mcB := mcB_12_sub _ (List.mem_of_getElem? (i := 16) rfl)
theorem kw497 : Cond.code ⟨"MeasureChoiceModel", "thrown", "()I"⟩ prog_6_method_2_code 1 (some FieldType.int) ∈ mcB := mcB_12_sub _ (List.mem_of_getElem? (i := 17) rfl)
theorem kw498 : Cond.methodLink "MeasureChoiceLaw" 70 ⟨"MeasureChoiceModel", "measure", "(II)I"⟩ ∈ mcB := mcB_12_sub _ (List.mem_of_getElem? (i := 18) rfl)
theorem kw499 : Cond.instanceMethod ⟨"MeasureChoiceModel", "measure", "(II)I"⟩ ∈ mcB := mcB_12_sub _ (List.mem_of_getElem? (i := 19) rfl)
theorem kw500 : Cond.selects "MeasureChoiceModel" ⟨"MeasureChoiceModel", "measure", "(II)I"⟩ ⟨"MeasureChoiceModel", "measure", "(II)I"⟩ ∈ mcB := mcB_12_sub _ (List.mem_of_getElem? (i := 20) rfl)
theorem kw501 : Cond.code ⟨"MeasureChoiceModel", "measure", "(II)I"⟩ prog_6_method_6_code 3 (some FieldType.int) ∈ mcB := mcB_12_sub _ (List.mem_of_getElem? (i := 21) rfl)
theorem kw502 : Cond.methodLink "MeasureChoiceModel" 45 ⟨"MeasureChoiceModel", "in", "(III)Z"⟩ ∈ mcB := mcB_12_sub _ (List.mem_of_getElem? (i := 22) rfl)
theorem kw503 : Cond.static ⟨"MeasureChoiceModel", "in", "(III)Z"⟩ ∈ mcB := mcB_12_sub _ (List.mem_of_getElem? (i := 23) rfl)
theorem kw504 : Cond.code ⟨"MeasureChoiceModel", "in", "(III)Z"⟩ prog_6_method_3_code 3 (some FieldType.boolean) ∈ mcB := mcB_12_sub _ (List.mem_of_getElem? (i := 24) rfl)
theorem kw505 : Cond.methodLink "MeasureChoiceModel" 49 ⟨"MeasureChoiceModel", "good", "(Z)Z"⟩ ∈ mcB := mcB_12_sub _ (List.mem_of_getElem? (i := 25) rfl)
theorem kw506 : Cond.instanceMethod ⟨"MeasureChoiceModel", "good", "(Z)Z"⟩ ∈ mcB := mcB_12_sub _ (List.mem_of_getElem? (i := 26) rfl)
theorem kw507 : Cond.code ⟨"MeasureChoiceModel", "good", "(Z)Z"⟩ prog_6_method_5_code 2 (some FieldType.boolean) ∈ mcB := mcB_12_sub _ (List.mem_of_getElem? (i := 27) rfl)
theorem kw508 : Cond.methodLink "MeasureChoiceLaw" 78 ⟨"MeasureChoiceModel", "change", "(III)V"⟩ ∈ mcB := mcB_12_sub _ (List.mem_of_getElem? (i := 28) rfl)
theorem kw509 : Cond.instanceMethod ⟨"MeasureChoiceModel", "change", "(III)V"⟩ ∈ mcB := mcB_12_sub _ (List.mem_of_getElem? (i := 29) rfl)
theorem kw510 : Cond.selects "MeasureChoiceModel" ⟨"MeasureChoiceModel", "change", "(III)V"⟩ ⟨"MeasureChoiceModel", "change", "(III)V"⟩ ∈ mcB := mcB_12_sub _ (List.mem_of_getElem? (i := 30) rfl)
theorem kw511 : Cond.code ⟨"MeasureChoiceModel", "change", "(III)V"⟩ prog_6_method_7_code 4 none ∈ mcB := mcB_12_sub _ (List.mem_of_getElem? (i := 31) rfl)
theorem kw512 : Cond.methodLink "MeasureChoiceModel" 53 ⟨"MeasureChoiceModel", "is", "(I)Z"⟩ ∈ mcB := mcB_12_sub _ (List.mem_of_getElem? (i := 32) rfl)
theorem kw513 : Cond.instanceMethod ⟨"MeasureChoiceModel", "is", "(I)Z"⟩ ∈ mcB := mcB_12_sub _ (List.mem_of_getElem? (i := 33) rfl)
theorem kw514 : Cond.code ⟨"MeasureChoiceModel", "is", "(I)Z"⟩ prog_6_method_4_code 2 (some FieldType.boolean) ∈ mcB := mcB_12_sub _ (List.mem_of_getElem? (i := 34) rfl)
theorem kw515 : Cond.methodLink "MeasureChoiceLaw" 82 ⟨"MeasureChoiceModel", "exclude", "(IIZ)Z"⟩ ∈ mcB := mcB_12_sub _ (List.mem_of_getElem? (i := 35) rfl)
theorem kw516 : Cond.instanceMethod ⟨"MeasureChoiceModel", "exclude", "(IIZ)Z"⟩ ∈ mcB := mcB_12_sub _ (List.mem_of_getElem? (i := 36) rfl)
theorem kw517 : Cond.selects "MeasureChoiceModel" ⟨"MeasureChoiceModel", "exclude", "(IIZ)Z"⟩ ⟨"MeasureChoiceModel", "exclude", "(IIZ)Z"⟩ ∈ mcB := mcB_12_sub _ (List.mem_of_getElem? (i := 37) rfl)
theorem kw518 : Cond.code ⟨"MeasureChoiceModel", "exclude", "(IIZ)Z"⟩ prog_6_method_8_code 5 (some FieldType.boolean) ∈ mcB := mcB_12_sub _ (List.mem_of_getElem? (i := 38) rfl)
theorem kw519 : Cond.methodLink "MeasureChoiceLaw" 85 ⟨"MeasureChoiceModel", "needs", "(IIZ)Z"⟩ ∈ mcB := mcB_12_sub _ (List.mem_of_getElem? (i := 39) rfl)
theorem kw520 : Cond.instanceMethod ⟨"MeasureChoiceModel", "needs", "(IIZ)Z"⟩ ∈ mcB := mcB_13_sub _ (List.mem_of_getElem? (i := 0) rfl)
theorem kw521 : Cond.selects "MeasureChoiceModel" ⟨"MeasureChoiceModel", "needs", "(IIZ)Z"⟩ ⟨"MeasureChoiceModel", "needs", "(IIZ)Z"⟩ ∈ mcB := mcB_13_sub _ (List.mem_of_getElem? (i := 1) rfl)
theorem kw522 : Cond.code ⟨"MeasureChoiceModel", "needs", "(IIZ)Z"⟩ prog_6_method_9_code 5 (some FieldType.boolean) ∈ mcB := mcB_13_sub _ (List.mem_of_getElem? (i := 2) rfl)
theorem kw523 : Cond.methodLink "MeasureChoiceLaw" 89 ⟨"MeasureChoiceModel", "bonus", "(III)I"⟩ ∈ mcB := mcB_13_sub _ (List.mem_of_getElem? (i := 3) rfl)
theorem kw524 : Cond.instanceMethod ⟨"MeasureChoiceModel", "bonus", "(III)I"⟩ ∈ mcB := mcB_13_sub _ (List.mem_of_getElem? (i := 4) rfl)
theorem kw525 : Cond.selects "MeasureChoiceModel" ⟨"MeasureChoiceModel", "bonus", "(III)I"⟩ ⟨"MeasureChoiceModel", "bonus", "(III)I"⟩ ∈ mcB := mcB_13_sub _ (List.mem_of_getElem? (i := 5) rfl)
theorem kw526 : Cond.code ⟨"MeasureChoiceModel", "bonus", "(III)I"⟩ prog_6_method_10_code 5 (some FieldType.int) ∈ mcB := mcB_13_sub _ (List.mem_of_getElem? (i := 6) rfl)
theorem kw527 : Cond.methodLink "MeasureChoiceLaw" 93 ⟨"MeasureChoiceModel", "lawful", "(I)Z"⟩ ∈ mcB := mcB_13_sub _ (List.mem_of_getElem? (i := 7) rfl)
theorem kw528 : Cond.instanceMethod ⟨"MeasureChoiceModel", "lawful", "(I)Z"⟩ ∈ mcB := mcB_13_sub _ (List.mem_of_getElem? (i := 8) rfl)
theorem kw529 : Cond.selects "MeasureChoiceModel" ⟨"MeasureChoiceModel", "lawful", "(I)Z"⟩ ⟨"MeasureChoiceModel", "lawful", "(I)Z"⟩ ∈ mcB := mcB_13_sub _ (List.mem_of_getElem? (i := 9) rfl)
theorem kw530 : Cond.code ⟨"MeasureChoiceModel", "lawful", "(I)Z"⟩ prog_6_method_16_code 2 (some FieldType.boolean) ∈ mcB := mcB_13_sub _ (List.mem_of_getElem? (i := 10) rfl)
theorem kw531 : Cond.methodLink "MeasureChoiceModel" 61 ⟨"MeasureChoiceModel", "isSet", "(I)Z"⟩ ∈ mcB := mcB_13_sub _ (List.mem_of_getElem? (i := 11) rfl)
theorem kw532 : Cond.instanceMethod ⟨"MeasureChoiceModel", "isSet", "(I)Z"⟩ ∈ mcB := mcB_13_sub _ (List.mem_of_getElem? (i := 12) rfl)
theorem kw533 : Cond.code ⟨"MeasureChoiceModel", "isSet", "(I)Z"⟩ prog_6_method_12_code 2 (some FieldType.boolean) ∈ mcB := mcB_13_sub _ (List.mem_of_getElem? (i := 13) rfl)
theorem kw534 : Cond.methodLink "MeasureChoiceModel" 64 ⟨"MeasureChoiceModel", "holds", "(I)Z"⟩ ∈ mcB := mcB_13_sub _ (List.mem_of_getElem? (i := 14) rfl)
theorem kw535 : Cond.instanceMethod ⟨"MeasureChoiceModel", "holds", "(I)Z"⟩ ∈ mcB := mcB_13_sub _ (List.mem_of_getElem? (i := 15) rfl)
theorem kw536 : Cond.code ⟨"MeasureChoiceModel", "holds", "(I)Z"⟩ prog_6_method_13_code 5 (some FieldType.boolean) ∈ mcB := mcB_13_sub _ (List.mem_of_getElem? (i := 16) rfl)
theorem kw537 : Cond.methodLink "MeasureChoiceModel" 57 ⟨"MeasureChoiceModel", "has", "(II)Z"⟩ ∈ mcB := mcB_13_sub _ (List.mem_of_getElem? (i := 17) rfl)
theorem kw538 : Cond.static ⟨"MeasureChoiceModel", "has", "(II)Z"⟩ ∈ mcB := mcB_13_sub _ (List.mem_of_getElem? (i := 18) rfl)
theorem kw539 : Cond.code ⟨"MeasureChoiceModel", "has", "(II)Z"⟩ prog_6_method_11_code 2 (some FieldType.boolean) ∈ mcB := mcB_13_sub _ (List.mem_of_getElem? (i := 19) rfl)
theorem kw540 : Cond.methodLink "MeasureChoiceLaw" 96 ⟨"MeasureChoiceModel", "told", "(II)I"⟩ ∈ mcB := mcB_13_sub _ (List.mem_of_getElem? (i := 20) rfl)
theorem kw541 : Cond.instanceMethod ⟨"MeasureChoiceModel", "told", "(II)I"⟩ ∈ mcB := mcB_13_sub _ (List.mem_of_getElem? (i := 21) rfl)
theorem kw542 : Cond.selects "MeasureChoiceModel" ⟨"MeasureChoiceModel", "told", "(II)I"⟩ ⟨"MeasureChoiceModel", "told", "(II)I"⟩ ∈ mcB := mcB_13_sub _ (List.mem_of_getElem? (i := 22) rfl)
theorem kw543 : Cond.code ⟨"MeasureChoiceModel", "told", "(II)I"⟩ prog_6_method_17_code 3 (some FieldType.int) ∈ mcB := mcB_13_sub _ (List.mem_of_getElem? (i := 23) rfl)
theorem kw544 : Cond.methodLink "MeasureChoiceModel" 67 ⟨"MeasureChoiceModel", "costOf", "(I)I"⟩ ∈ mcB := mcB_13_sub _ (List.mem_of_getElem? (i := 24) rfl)
theorem kw545 : Cond.instanceMethod ⟨"MeasureChoiceModel", "costOf", "(I)I"⟩ ∈ mcB := mcB_13_sub _ (List.mem_of_getElem? (i := 25) rfl)
theorem kw546 : Cond.code ⟨"MeasureChoiceModel", "costOf", "(I)I"⟩ prog_6_method_14_code 4 (some FieldType.int) ∈ mcB := mcB_13_sub _ (List.mem_of_getElem? (i := 26) rfl)
theorem kw547 : Cond.methodLink "MeasureChoiceModel" 71 ⟨"MeasureChoiceModel", "gainOf", "(I)I"⟩ ∈ mcB := mcB_13_sub _ (List.mem_of_getElem? (i := 27) rfl)
theorem kw548 : Cond.instanceMethod ⟨"MeasureChoiceModel", "gainOf", "(I)I"⟩ ∈ mcB := mcB_13_sub _ (List.mem_of_getElem? (i := 28) rfl)
theorem kw549 : Cond.code ⟨"MeasureChoiceModel", "gainOf", "(I)I"⟩ prog_6_method_15_code 5 (some FieldType.int) ∈ mcB := mcB_13_sub _ (List.mem_of_getElem? (i := 29) rfl)
theorem kw550 : Cond.methodLink "MeasureChoiceLaw" 99 ⟨"MeasureChoiceModel", "closure", "(I)I"⟩ ∈ mcB := mcB_13_sub _ (List.mem_of_getElem? (i := 30) rfl)
theorem kw551 : Cond.instanceMethod ⟨"MeasureChoiceModel", "closure", "(I)I"⟩ ∈ mcB := mcB_13_sub _ (List.mem_of_getElem? (i := 31) rfl)
theorem kw552 : Cond.selects "MeasureChoiceModel" ⟨"MeasureChoiceModel", "closure", "(I)I"⟩ ⟨"MeasureChoiceModel", "closure", "(I)I"⟩ ∈ mcB := mcB_13_sub _ (List.mem_of_getElem? (i := 32) rfl)
theorem kw553 : Cond.code ⟨"MeasureChoiceModel", "closure", "(I)I"⟩ prog_6_method_18_code 6 (some FieldType.int) ∈ mcB := mcB_13_sub _ (List.mem_of_getElem? (i := 33) rfl)
theorem kw554 : Cond.methodLink "MeasureChoiceLaw" 102 ⟨"MeasureChoiceModel", "best", "(I)I"⟩ ∈ mcB := mcB_13_sub _ (List.mem_of_getElem? (i := 34) rfl)
theorem kw555 : Cond.instanceMethod ⟨"MeasureChoiceModel", "best", "(I)I"⟩ ∈ mcB := mcB_13_sub _ (List.mem_of_getElem? (i := 35) rfl)
theorem kw556 : Cond.selects "MeasureChoiceModel" ⟨"MeasureChoiceModel", "best", "(I)I"⟩ ⟨"MeasureChoiceModel", "best", "(I)I"⟩ ∈ mcB := mcB_13_sub _ (List.mem_of_getElem? (i := 36) rfl)
theorem kw557 : Cond.code ⟨"MeasureChoiceModel", "best", "(I)I"⟩ prog_6_method_20_code 2 (some FieldType.int) ∈ mcB := mcB_13_sub _ (List.mem_of_getElem? (i := 37) rfl)
theorem kw558 : Cond.methodLink "MeasureChoiceModel" 74 ⟨"MeasureChoiceModel", "bestOf", "(J)I"⟩ ∈ mcB := mcB_13_sub _ (List.mem_of_getElem? (i := 38) rfl)
theorem kw559 : Cond.instanceMethod ⟨"MeasureChoiceModel", "bestOf", "(J)I"⟩ ∈ mcB := mcB_13_sub _ (List.mem_of_getElem? (i := 39) rfl)
theorem kw560 : Cond.code ⟨"MeasureChoiceModel", "bestOf", "(J)I"⟩ prog_6_method_19_code 10 (some FieldType.int) ∈ mcB := mcB_14_sub _ (List.mem_of_getElem? (i := 0) rfl)
theorem kw561 : Cond.methodLink "MeasureChoiceLaw" 106 ⟨"MeasureChoiceModel", "budget", "(I)I"⟩ ∈ mcB := mcB_14_sub _ (List.mem_of_getElem? (i := 1) rfl)
theorem kw562 : Cond.instanceMethod ⟨"MeasureChoiceModel", "budget", "(I)I"⟩ ∈ mcB := mcB_14_sub _ (List.mem_of_getElem? (i := 2) rfl)
theorem kw563 : Cond.selects "MeasureChoiceModel" ⟨"MeasureChoiceModel", "budget", "(I)I"⟩ ⟨"MeasureChoiceModel", "budget", "(I)I"⟩ ∈ mcB := mcB_14_sub _ (List.mem_of_getElem? (i := 3) rfl)
theorem kw564 : Cond.code ⟨"MeasureChoiceModel", "budget", "(I)I"⟩ prog_6_method_21_code 6 (some FieldType.int) ∈ mcB := mcB_14_sub _ (List.mem_of_getElem? (i := 4) rfl)
theorem kw565 : Cond.methodLink "MeasureChoiceLaw" 109 ⟨"MeasureChoiceModel", "worth", "(II)I"⟩ ∈ mcB := mcB_14_sub _ (List.mem_of_getElem? (i := 5) rfl)
theorem kw566 : Cond.instanceMethod ⟨"MeasureChoiceModel", "worth", "(II)I"⟩ ∈ mcB := mcB_14_sub _ (List.mem_of_getElem? (i := 6) rfl)
theorem kw567 : Cond.selects "MeasureChoiceModel" ⟨"MeasureChoiceModel", "worth", "(II)I"⟩ ⟨"MeasureChoiceModel", "worth", "(II)I"⟩ ∈ mcB := mcB_14_sub _ (List.mem_of_getElem? (i := 7) rfl)
theorem kw568 : Cond.code ⟨"MeasureChoiceModel", "worth", "(II)I"⟩ prog_6_method_22_code 3 (some FieldType.int) ∈ mcB := mcB_14_sub _ (List.mem_of_getElem? (i := 8) rfl)
theorem kw569 : Cond.constantLong "MeasureChoiceModel" 78 (1000000 : Int64) ∈ mcB := mcB_14_sub _ (List.mem_of_getElem? (i := 9) rfl)
theorem kw570 : Cond.methodLink "MeasureChoiceLaw" 112 ⟨"MeasureChoiceModel", "frontier", "(I)I"⟩ ∈ mcB := mcB_14_sub _ (List.mem_of_getElem? (i := 10) rfl)
theorem kw571 : Cond.instanceMethod ⟨"MeasureChoiceModel", "frontier", "(I)I"⟩ ∈ mcB := mcB_14_sub _ (List.mem_of_getElem? (i := 11) rfl)
theorem kw572 : Cond.selects "MeasureChoiceModel" ⟨"MeasureChoiceModel", "frontier", "(I)I"⟩ ⟨"MeasureChoiceModel", "frontier", "(I)I"⟩ ∈ mcB := mcB_14_sub _ (List.mem_of_getElem? (i := 12) rfl)
theorem kw573 : Cond.code ⟨"MeasureChoiceModel", "frontier", "(I)I"⟩ prog_6_method_24_code 4 (some FieldType.int) ∈ mcB := mcB_14_sub _ (List.mem_of_getElem? (i := 13) rfl)
theorem kw574 : Cond.methodLink "MeasureChoiceModel" 80 ⟨"MeasureChoiceModel", "dearer", "(II)I"⟩ ∈ mcB := mcB_14_sub _ (List.mem_of_getElem? (i := 14) rfl)
theorem kw575 : Cond.instanceMethod ⟨"MeasureChoiceModel", "dearer", "(II)I"⟩ ∈ mcB := mcB_14_sub _ (List.mem_of_getElem? (i := 15) rfl)
theorem kw576 : Cond.code ⟨"MeasureChoiceModel", "dearer", "(II)I"⟩ prog_6_method_23_code 11 (some FieldType.int) ∈ mcB := mcB_14_sub _ (List.mem_of_getElem? (i := 16) rfl)
theorem kw577 : Cond.methodLink "MeasureChoiceLaw" 115 ⟨"MeasureChoiceModel", "year", "(II)I"⟩ ∈ mcB := mcB_14_sub _ (List.mem_of_getElem? (i := 17) rfl)
theorem kw578 : Cond.instanceMethod ⟨"MeasureChoiceModel", "year", "(II)I"⟩ ∈ mcB := mcB_14_sub _ (List.mem_of_getElem? (i := 18) rfl)
theorem kw579 : Cond.selects "MeasureChoiceModel" ⟨"MeasureChoiceModel", "year", "(II)I"⟩ ⟨"MeasureChoiceModel", "year", "(II)I"⟩ ∈ mcB := mcB_14_sub _ (List.mem_of_getElem? (i := 19) rfl)
theorem kw580 : Cond.code ⟨"MeasureChoiceModel", "year", "(II)I"⟩ prog_6_method_25_code 4 (some FieldType.int) ∈ mcB := mcB_14_sub _ (List.mem_of_getElem? (i := 20) rfl)
theorem kw581 : Cond.constant "MeasureChoiceModel" 84 (100000 : Int32) ∈ mcB := mcB_14_sub _ (List.mem_of_getElem? (i := 21) rfl)
theorem kw582 : Cond.methodLink "MeasureChoiceLaw" 118 ⟨"MeasureChoiceModel", "plan", "(II)I"⟩ ∈ mcB := mcB_14_sub _ (List.mem_of_getElem? (i := 22) rfl)
theorem kw583 : Cond.instanceMethod ⟨"MeasureChoiceModel", "plan", "(II)I"⟩ ∈ mcB := mcB_14_sub _ (List.mem_of_getElem? (i := 23) rfl)
theorem kw584 : Cond.selects "MeasureChoiceModel" ⟨"MeasureChoiceModel", "plan", "(II)I"⟩ ⟨"MeasureChoiceModel", "plan", "(II)I"⟩ ∈ mcB := mcB_14_sub _ (List.mem_of_getElem? (i := 24) rfl)
theorem kw585 : Cond.code ⟨"MeasureChoiceModel", "plan", "(II)I"⟩ prog_6_method_28_code 5 (some FieldType.int) ∈ mcB := mcB_14_sub _ (List.mem_of_getElem? (i := 25) rfl)
theorem kw586 : Cond.methodLink "MeasureChoiceModel" 89 ⟨"MeasureChoiceModel", "work", "(I)V"⟩ ∈ mcB := mcB_14_sub _ (List.mem_of_getElem? (i := 26) rfl)
theorem kw587 : Cond.instanceMethod ⟨"MeasureChoiceModel", "work", "(I)V"⟩ ∈ mcB := mcB_14_sub _ (List.mem_of_getElem? (i := 27) rfl)
theorem kw588 : Cond.code ⟨"MeasureChoiceModel", "work", "(I)V"⟩ prog_6_method_26_code 6 none ∈ mcB := mcB_14_sub _ (List.mem_of_getElem? (i := 28) rfl)
theorem kw589 : Cond.methodLink "MeasureChoiceModel" 85 ⟨"MeasureChoiceModel", "workOf", "(IIII)V"⟩ ∈ mcB := mcB_14_sub _ (List.mem_of_getElem? (i := 29) rfl)
theorem kw590 : Cond.instanceMethod ⟨"MeasureChoiceModel", "workOf", "(IIII)V"⟩ ∈ mcB := mcB_14_sub _ (List.mem_of_getElem? (i := 30) rfl)
theorem kw591 : Cond.code ⟨"MeasureChoiceModel", "workOf", "(IIII)V"⟩ prog_6_method_27_code 11 none ∈ mcB := mcB_14_sub _ (List.mem_of_getElem? (i := 31) rfl)
theorem kw592 : Cond.methodLink "MeasureChoiceLaw" 121 ⟨"MeasureChoiceModel", "planned", "(I)I"⟩ ∈ mcB := mcB_14_sub _ (List.mem_of_getElem? (i := 32) rfl)
theorem kw593 : Cond.instanceMethod ⟨"MeasureChoiceModel", "planned", "(I)I"⟩ ∈ mcB := mcB_14_sub _ (List.mem_of_getElem? (i := 33) rfl)
theorem kw594 : Cond.selects "MeasureChoiceModel" ⟨"MeasureChoiceModel", "planned", "(I)I"⟩ ⟨"MeasureChoiceModel", "planned", "(I)I"⟩ ∈ mcB := mcB_14_sub _ (List.mem_of_getElem? (i := 34) rfl)
theorem kw595 : Cond.code ⟨"MeasureChoiceModel", "planned", "(I)I"⟩ prog_6_method_29_code 2 (some FieldType.int) ∈ mcB := mcB_14_sub _ (List.mem_of_getElem? (i := 35) rfl)
theorem kw596 : Cond.arrayClass FieldType.long ∈ mcB := mcB_14_sub _ (List.mem_of_getElem? (i := 36) rfl)
theorem kw597 : Cond.sameMethod "java/lang/Throwable" "java/lang/Throwable" "fillInStackTrace" "(I)Ljava/lang/Throwable;" ∈ mcB := mcB_14_sub _ (List.mem_of_getElem? (i := 37) rfl)
theorem inH : ∀ w ∈ wH0, w ∈ mcB := by decide +kernel
theorem inA : ∀ w ∈ wA0, w ∈ mcB := by decide +kernel
theorem inP : ∀ w ∈ wP0, w ∈ mcB := by decide +kernel
theorem inM : ∀ w ∈ wM0, w ∈ mcB := by decide +kernel
theorem inR : ∀ w ∈ wR0, w ∈ mcB := by decide +kernel
abbrev bM_init : ByteArray := prog_1_method_1_code
abbrev yM_init : MethodName := ⟨"MeasureChoice", "<init>", "()V"⟩
abbrev wdM_init : List Cond := Cond.code yM_init bM_init 1 none :: mcB
abbrev bM_measure : ByteArray := prog_1_method_2_code
abbrev yM_measure : MethodName := ⟨"MeasureChoice", "measure", "(II)I"⟩
abbrev wdM_measure : List Cond := Cond.code yM_measure bM_measure 3 (some FieldType.int) :: mcB
abbrev bM_change : ByteArray := prog_1_method_3_code
abbrev yM_change : MethodName := ⟨"MeasureChoice", "change", "(III)V"⟩
abbrev wdM_change : List Cond := Cond.code yM_change bM_change 4 none :: mcB
abbrev bM_exclude : ByteArray := prog_1_method_4_code
abbrev yM_exclude : MethodName := ⟨"MeasureChoice", "exclude", "(IIZ)Z"⟩
abbrev wdM_exclude : List Cond := Cond.code yM_exclude bM_exclude 5 (some FieldType.boolean) :: mcB
abbrev bM_needs : ByteArray := prog_1_method_5_code
abbrev yM_needs : MethodName := ⟨"MeasureChoice", "needs", "(IIZ)Z"⟩
abbrev wdM_needs : List Cond := Cond.code yM_needs bM_needs 5 (some FieldType.boolean) :: mcB
abbrev bM_bonus : ByteArray := prog_1_method_6_code
abbrev yM_bonus : MethodName := ⟨"MeasureChoice", "bonus", "(III)I"⟩
abbrev wdM_bonus : List Cond := Cond.code yM_bonus bM_bonus 5 (some FieldType.int) :: mcB
abbrev bM_lawful : ByteArray := prog_1_method_7_code
abbrev yM_lawful : MethodName := ⟨"MeasureChoice", "lawful", "(I)Z"⟩
abbrev wdM_lawful : List Cond := Cond.code yM_lawful bM_lawful 2 (some FieldType.boolean) :: mcB
abbrev bM_told : ByteArray := prog_1_method_8_code
abbrev yM_told : MethodName := ⟨"MeasureChoice", "told", "(II)I"⟩
abbrev wdM_told : List Cond := Cond.code yM_told bM_told 3 (some FieldType.int) :: mcB
abbrev bM_closure : ByteArray := prog_1_method_9_code
abbrev yM_closure : MethodName := ⟨"MeasureChoice", "closure", "(I)I"⟩
abbrev wdM_closure : List Cond := Cond.code yM_closure bM_closure 2 (some FieldType.int) :: mcB
abbrev bM_best : ByteArray := prog_1_method_10_code
abbrev yM_best : MethodName := ⟨"MeasureChoice", "best", "(I)I"⟩
abbrev wdM_best : List Cond := Cond.code yM_best bM_best 2 (some FieldType.int) :: mcB
abbrev bM_budget : ByteArray := prog_1_method_11_code
abbrev yM_budget : MethodName := ⟨"MeasureChoice", "budget", "(I)I"⟩
abbrev wdM_budget : List Cond := Cond.code yM_budget bM_budget 3 (some FieldType.int) :: mcB
abbrev bM_worth : ByteArray := prog_1_method_12_code
abbrev yM_worth : MethodName := ⟨"MeasureChoice", "worth", "(II)I"⟩
abbrev wdM_worth : List Cond := Cond.code yM_worth bM_worth 4 (some FieldType.int) :: mcB
abbrev bM_frontier : ByteArray := prog_1_method_13_code
abbrev yM_frontier : MethodName := ⟨"MeasureChoice", "frontier", "(I)I"⟩
abbrev wdM_frontier : List Cond := Cond.code yM_frontier bM_frontier 2 (some FieldType.int) :: mcB
abbrev bM_year : ByteArray := prog_1_method_14_code
abbrev yM_year : MethodName := ⟨"MeasureChoice", "year", "(II)I"⟩
abbrev wdM_year : List Cond := Cond.code yM_year bM_year 4 (some FieldType.int) :: mcB
abbrev bM_plan : ByteArray := prog_1_method_15_code
abbrev yM_plan : MethodName := ⟨"MeasureChoice", "plan", "(II)I"⟩
abbrev wdM_plan : List Cond := Cond.code yM_plan bM_plan 3 (some FieldType.int) :: mcB
abbrev bM_planned : ByteArray := prog_1_method_16_code
abbrev yM_planned : MethodName := ⟨"MeasureChoice", "planned", "(I)I"⟩
abbrev wdM_planned : List Cond := Cond.code yM_planned bM_planned 2 (some FieldType.int) :: mcB
abbrev bM_requireBetween : ByteArray := prog_1_method_17_code
abbrev yM_requireBetween : MethodName := ⟨"MeasureChoice", "requireBetween", "(III)V"⟩
abbrev wdM_requireBetween : List Cond := Cond.code yM_requireBetween bM_requireBetween 3 none :: mcB
abbrev bM_requireNotBelowZero : ByteArray := prog_1_method_18_code
abbrev yM_requireNotBelowZero : MethodName := ⟨"MeasureChoice", "requireNotBelowZero", "(I)V"⟩
abbrev wdM_requireNotBelowZero : List Cond := Cond.code yM_requireNotBelowZero bM_requireNotBelowZero 1 none :: mcB
abbrev bM_requireCostAndGain : ByteArray := prog_1_method_19_code
abbrev yM_requireCostAndGain : MethodName := ⟨"MeasureChoice", "requireCostAndGain", "(II)V"⟩
abbrev wdM_requireCostAndGain : List Cond := Cond.code yM_requireCostAndGain bM_requireCostAndGain 2 none :: mcB
abbrev bM_requireMeasure : ByteArray := prog_1_method_20_code
abbrev yM_requireMeasure : MethodName := ⟨"MeasureChoice", "requireMeasure", "(I)V"⟩
abbrev wdM_requireMeasure : List Cond := Cond.code yM_requireMeasure bM_requireMeasure 2 none :: mcB
abbrev bM_requirePair : ByteArray := prog_1_method_21_code
abbrev yM_requirePair : MethodName := ⟨"MeasureChoice", "requirePair", "(II)V"⟩
abbrev wdM_requirePair : List Cond := Cond.code yM_requirePair bM_requirePair 3 none :: mcB
abbrev bM_requireSet : ByteArray := prog_1_method_22_code
abbrev yM_requireSet : MethodName := ⟨"MeasureChoice", "requireSet", "(I)V"⟩
abbrev wdM_requireSet : List Cond := Cond.code yM_requireSet bM_requireSet 2 none :: mcB
abbrev bR_init : ByteArray := prog_6_method_1_code
abbrev yR_init : MethodName := ⟨"MeasureChoiceModel", "<init>", "()V"⟩
abbrev wdR_init : List Cond := Cond.code yR_init bR_init 1 none :: mcB
abbrev bR_thrown : ByteArray := prog_6_method_2_code
abbrev yR_thrown : MethodName := ⟨"MeasureChoiceModel", "thrown", "()I"⟩
abbrev wdR_thrown : List Cond := Cond.code yR_thrown bR_thrown 1 (some FieldType.int) :: mcB
abbrev bR_in : ByteArray := prog_6_method_3_code
abbrev yR_in : MethodName := ⟨"MeasureChoiceModel", "in", "(III)Z"⟩
abbrev wdR_in : List Cond := Cond.code yR_in bR_in 3 (some FieldType.boolean) :: mcB
abbrev bR_is : ByteArray := prog_6_method_4_code
abbrev yR_is : MethodName := ⟨"MeasureChoiceModel", "is", "(I)Z"⟩
abbrev wdR_is : List Cond := Cond.code yR_is bR_is 2 (some FieldType.boolean) :: mcB
abbrev bR_good : ByteArray := prog_6_method_5_code
abbrev yR_good : MethodName := ⟨"MeasureChoiceModel", "good", "(Z)Z"⟩
abbrev wdR_good : List Cond := Cond.code yR_good bR_good 2 (some FieldType.boolean) :: mcB
abbrev bR_measure : ByteArray := prog_6_method_6_code
abbrev yR_measure : MethodName := ⟨"MeasureChoiceModel", "measure", "(II)I"⟩
abbrev wdR_measure : List Cond := Cond.code yR_measure bR_measure 3 (some FieldType.int) :: mcB
abbrev bR_change : ByteArray := prog_6_method_7_code
abbrev yR_change : MethodName := ⟨"MeasureChoiceModel", "change", "(III)V"⟩
abbrev wdR_change : List Cond := Cond.code yR_change bR_change 4 none :: mcB
abbrev bR_exclude : ByteArray := prog_6_method_8_code
abbrev yR_exclude : MethodName := ⟨"MeasureChoiceModel", "exclude", "(IIZ)Z"⟩
abbrev wdR_exclude : List Cond := Cond.code yR_exclude bR_exclude 5 (some FieldType.boolean) :: mcB
abbrev bR_needs : ByteArray := prog_6_method_9_code
abbrev yR_needs : MethodName := ⟨"MeasureChoiceModel", "needs", "(IIZ)Z"⟩
abbrev wdR_needs : List Cond := Cond.code yR_needs bR_needs 5 (some FieldType.boolean) :: mcB
abbrev bR_bonus : ByteArray := prog_6_method_10_code
abbrev yR_bonus : MethodName := ⟨"MeasureChoiceModel", "bonus", "(III)I"⟩
abbrev wdR_bonus : List Cond := Cond.code yR_bonus bR_bonus 5 (some FieldType.int) :: mcB
abbrev bR_has : ByteArray := prog_6_method_11_code
abbrev yR_has : MethodName := ⟨"MeasureChoiceModel", "has", "(II)Z"⟩
abbrev wdR_has : List Cond := Cond.code yR_has bR_has 2 (some FieldType.boolean) :: mcB
abbrev bR_isSet : ByteArray := prog_6_method_12_code
abbrev yR_isSet : MethodName := ⟨"MeasureChoiceModel", "isSet", "(I)Z"⟩
abbrev wdR_isSet : List Cond := Cond.code yR_isSet bR_isSet 2 (some FieldType.boolean) :: mcB
abbrev bR_holds : ByteArray := prog_6_method_13_code
abbrev yR_holds : MethodName := ⟨"MeasureChoiceModel", "holds", "(I)Z"⟩
abbrev wdR_holds : List Cond := Cond.code yR_holds bR_holds 5 (some FieldType.boolean) :: mcB
abbrev bR_costOf : ByteArray := prog_6_method_14_code
abbrev yR_costOf : MethodName := ⟨"MeasureChoiceModel", "costOf", "(I)I"⟩
abbrev wdR_costOf : List Cond := Cond.code yR_costOf bR_costOf 4 (some FieldType.int) :: mcB
abbrev bR_gainOf : ByteArray := prog_6_method_15_code
abbrev yR_gainOf : MethodName := ⟨"MeasureChoiceModel", "gainOf", "(I)I"⟩
abbrev wdR_gainOf : List Cond := Cond.code yR_gainOf bR_gainOf 5 (some FieldType.int) :: mcB
abbrev bR_lawful : ByteArray := prog_6_method_16_code
abbrev yR_lawful : MethodName := ⟨"MeasureChoiceModel", "lawful", "(I)Z"⟩
abbrev wdR_lawful : List Cond := Cond.code yR_lawful bR_lawful 2 (some FieldType.boolean) :: mcB
abbrev bR_told : ByteArray := prog_6_method_17_code
abbrev yR_told : MethodName := ⟨"MeasureChoiceModel", "told", "(II)I"⟩
abbrev wdR_told : List Cond := Cond.code yR_told bR_told 3 (some FieldType.int) :: mcB
abbrev bR_closure : ByteArray := prog_6_method_18_code
abbrev yR_closure : MethodName := ⟨"MeasureChoiceModel", "closure", "(I)I"⟩
abbrev wdR_closure : List Cond := Cond.code yR_closure bR_closure 6 (some FieldType.int) :: mcB
abbrev bR_bestOf : ByteArray := prog_6_method_19_code
abbrev yR_bestOf : MethodName := ⟨"MeasureChoiceModel", "bestOf", "(J)I"⟩
abbrev wdR_bestOf : List Cond := Cond.code yR_bestOf bR_bestOf 10 (some FieldType.int) :: mcB
abbrev bR_best : ByteArray := prog_6_method_20_code
abbrev yR_best : MethodName := ⟨"MeasureChoiceModel", "best", "(I)I"⟩
abbrev wdR_best : List Cond := Cond.code yR_best bR_best 2 (some FieldType.int) :: mcB
abbrev bR_budget : ByteArray := prog_6_method_21_code
abbrev yR_budget : MethodName := ⟨"MeasureChoiceModel", "budget", "(I)I"⟩
abbrev wdR_budget : List Cond := Cond.code yR_budget bR_budget 6 (some FieldType.int) :: mcB
abbrev bR_worth : ByteArray := prog_6_method_22_code
abbrev yR_worth : MethodName := ⟨"MeasureChoiceModel", "worth", "(II)I"⟩
abbrev wdR_worth : List Cond := Cond.code yR_worth bR_worth 3 (some FieldType.int) :: mcB
abbrev bR_dearer : ByteArray := prog_6_method_23_code
abbrev yR_dearer : MethodName := ⟨"MeasureChoiceModel", "dearer", "(II)I"⟩
abbrev wdR_dearer : List Cond := Cond.code yR_dearer bR_dearer 11 (some FieldType.int) :: mcB
abbrev bR_frontier : ByteArray := prog_6_method_24_code
abbrev yR_frontier : MethodName := ⟨"MeasureChoiceModel", "frontier", "(I)I"⟩
abbrev wdR_frontier : List Cond := Cond.code yR_frontier bR_frontier 4 (some FieldType.int) :: mcB
abbrev bR_year : ByteArray := prog_6_method_25_code
abbrev yR_year : MethodName := ⟨"MeasureChoiceModel", "year", "(II)I"⟩
abbrev wdR_year : List Cond := Cond.code yR_year bR_year 4 (some FieldType.int) :: mcB
abbrev bR_work : ByteArray := prog_6_method_26_code
abbrev yR_work : MethodName := ⟨"MeasureChoiceModel", "work", "(I)V"⟩
abbrev wdR_work : List Cond := Cond.code yR_work bR_work 6 none :: mcB
abbrev bR_workOf : ByteArray := prog_6_method_27_code
abbrev yR_workOf : MethodName := ⟨"MeasureChoiceModel", "workOf", "(IIII)V"⟩
abbrev wdR_workOf : List Cond := Cond.code yR_workOf bR_workOf 11 none :: mcB
abbrev bR_plan : ByteArray := prog_6_method_28_code
abbrev yR_plan : MethodName := ⟨"MeasureChoiceModel", "plan", "(II)I"⟩
abbrev wdR_plan : List Cond := Cond.code yR_plan bR_plan 5 (some FieldType.int) :: mcB
abbrev bR_planned : ByteArray := prog_6_method_29_code
abbrev yR_planned : MethodName := ⟨"MeasureChoiceModel", "planned", "(I)I"⟩
abbrev wdR_planned : List Cond := Cond.code yR_planned bR_planned 2 (some FieldType.int) :: mcB
abbrev bH_init : ByteArray := prog_2_method_1_code
abbrev yH_init : MethodName := ⟨"MeasureChoice$House", "<init>", "()V"⟩
abbrev wdH_init : List Cond := Cond.code yH_init bH_init 1 none :: mcB
abbrev bH_add : ByteArray := prog_2_method_2_code
abbrev yH_add : MethodName := ⟨"MeasureChoice$House", "add", "(II)I"⟩
abbrev wdH_add : List Cond := Cond.code yH_add bH_add 4 (some FieldType.int) :: mcB
abbrev bH_put : ByteArray := prog_2_method_3_code
abbrev yH_put : MethodName := ⟨"MeasureChoice$House", "put", "(III)V"⟩
abbrev wdH_put : List Cond := Cond.code yH_put bH_put 4 none :: mcB
abbrev bH_putExcluded : ByteArray := prog_2_method_4_code
abbrev yH_putExcluded : MethodName := ⟨"MeasureChoice$House", "putExcluded", "(IIZ)V"⟩
abbrev wdH_putExcluded : List Cond := Cond.code yH_putExcluded bH_putExcluded 4 none :: mcB
abbrev bH_putNeeded : ByteArray := prog_2_method_5_code
abbrev yH_putNeeded : MethodName := ⟨"MeasureChoice$House", "putNeeded", "(IIZ)V"⟩
abbrev wdH_putNeeded : List Cond := Cond.code yH_putNeeded bH_putNeeded 4 none :: mcB
abbrev bH_putBonus : ByteArray := prog_2_method_6_code
abbrev yH_putBonus : MethodName := ⟨"MeasureChoice$House", "putBonus", "(III)V"⟩
abbrev wdH_putBonus : List Cond := Cond.code yH_putBonus bH_putBonus 4 none :: mcB
abbrev bH_allows : ByteArray := prog_2_method_7_code
abbrev yH_allows : MethodName := ⟨"MeasureChoice$House", "allows", "(I)Z"⟩
abbrev wdH_allows : List Cond := Cond.code yH_allows bH_allows 3 (some FieldType.boolean) :: mcB
abbrev bH_costOf : ByteArray := prog_2_method_8_code
abbrev yH_costOf : MethodName := ⟨"MeasureChoice$House", "costOf", "(I)I"⟩
abbrev wdH_costOf : List Cond := Cond.code yH_costOf bH_costOf 4 (some FieldType.int) :: mcB
abbrev bH_gainOf : ByteArray := prog_2_method_9_code
abbrev yH_gainOf : MethodName := ⟨"MeasureChoice$House", "gainOf", "(I)I"⟩
abbrev wdH_gainOf : List Cond := Cond.code yH_gainOf bH_gainOf 4 (some FieldType.int) :: mcB
abbrev bH_bonusWithEarlier : ByteArray := prog_2_method_10_code
abbrev yH_bonusWithEarlier : MethodName := ⟨"MeasureChoice$House", "bonusWithEarlier", "(II)I"⟩
abbrev wdH_bonusWithEarlier : List Cond := Cond.code yH_bonusWithEarlier bH_bonusWithEarlier 5 (some FieldType.int) :: mcB
abbrev bH_broughtBy : ByteArray := prog_2_method_11_code
abbrev yH_broughtBy : MethodName := ⟨"MeasureChoice$House", "broughtBy", "(I)I"⟩
abbrev wdH_broughtBy : List Cond := Cond.code yH_broughtBy bH_broughtBy 4 (some FieldType.int) :: mcB
abbrev bH_withItsNeeds : ByteArray := prog_2_method_12_code
abbrev yH_withItsNeeds : MethodName := ⟨"MeasureChoice$House", "withItsNeeds", "(I)I"⟩
abbrev wdH_withItsNeeds : List Cond := Cond.code yH_withItsNeeds bH_withItsNeeds 4 (some FieldType.int) :: mcB
abbrev bH_has : ByteArray := prog_2_method_13_code
abbrev yH_has : MethodName := ⟨"MeasureChoice$House", "has", "(II)Z"⟩
abbrev wdH_has : List Cond := Cond.code yH_has bH_has 2 (some FieldType.boolean) :: mcB
abbrev bH_with : ByteArray := prog_2_method_14_code
abbrev yH_with : MethodName := ⟨"MeasureChoice$House", "with", "(IIZ)I"⟩
abbrev wdH_with : List Cond := Cond.code yH_with bH_with 4 (some FieldType.int) :: mcB
abbrev bA_init : ByteArray := prog_3_method_1_code
abbrev yA_init : MethodName := ⟨"MeasureChoice$Ladder", "<init>", "()V"⟩
abbrev wdA_init : List Cond := Cond.code yA_init bA_init 1 none :: mcB
abbrev bA_setAt : ByteArray := prog_3_method_2_code
abbrev yA_setAt : MethodName := ⟨"MeasureChoice$Ladder", "setAt", "(I)I"⟩
abbrev wdA_setAt : List Cond := Cond.code yA_setAt bA_setAt 2 (some FieldType.int) :: mcB
abbrev bA_costAt : ByteArray := prog_3_method_3_code
abbrev yA_costAt : MethodName := ⟨"MeasureChoice$Ladder", "costAt", "(I)I"⟩
abbrev wdA_costAt : List Cond := Cond.code yA_costAt bA_costAt 2 (some FieldType.int) :: mcB
abbrev bA_gainAt : ByteArray := prog_3_method_4_code
abbrev yA_gainAt : MethodName := ⟨"MeasureChoice$Ladder", "gainAt", "(I)I"⟩
abbrev wdA_gainAt : List Cond := Cond.code yA_gainAt bA_gainAt 2 (some FieldType.int) :: mcB
abbrev bA_highestWithin : ByteArray := prog_3_method_5_code
abbrev yA_highestWithin : MethodName := ⟨"MeasureChoice$Ladder", "highestWithin", "(I)I"⟩
abbrev wdA_highestWithin : List Cond := Cond.code yA_highestWithin bA_highestWithin 4 (some FieldType.int) :: mcB
abbrev bA_lowestGaining : ByteArray := prog_3_method_6_code
abbrev yA_lowestGaining : MethodName := ⟨"MeasureChoice$Ladder", "lowestGaining", "(I)I"⟩
abbrev wdA_lowestGaining : List Cond := Cond.code yA_lowestGaining bA_lowestGaining 3 (some FieldType.int) :: mcB
abbrev bA_bringUpToDate : ByteArray := prog_3_method_7_code
abbrev yA_bringUpToDate : MethodName := ⟨"MeasureChoice$Ladder", "bringUpToDate", "(LMeasureChoice$House;)V"⟩
abbrev wdA_bringUpToDate : List Cond := Cond.code yA_bringUpToDate bA_bringUpToDate 3 none :: mcB
abbrev bA_addSteps : ByteArray := prog_3_method_8_code
abbrev yA_addSteps : MethodName := ⟨"MeasureChoice$Ladder", "addSteps", "(II)V"⟩
abbrev wdA_addSteps : List Cond := Cond.code yA_addSteps bA_addSteps 7 none :: mcB
abbrev bA_addGains : ByteArray := prog_3_method_9_code
abbrev yA_addGains : MethodName := ⟨"MeasureChoice$Ladder", "addGains", "(ILMeasureChoice$House;)V"⟩
abbrev wdA_addGains : List Cond := Cond.code yA_addGains bA_addGains 9 none :: mcB
abbrev bA_keepUnbeaten : ByteArray := prog_3_method_10_code
abbrev yA_keepUnbeaten : MethodName := ⟨"MeasureChoice$Ladder", "keepUnbeaten", "(LMeasureChoice$House;)V"⟩
abbrev wdA_keepUnbeaten : List Cond := Cond.code yA_keepUnbeaten bA_keepUnbeaten 4 none :: mcB
abbrev bP_init : ByteArray := prog_4_method_1_code
abbrev yP_init : MethodName := ⟨"MeasureChoice$Planner", "<init>", "()V"⟩
abbrev wdP_init : List Cond := Cond.code yP_init bP_init 1 none :: mcB
abbrev bP_work : ByteArray := prog_4_method_2_code
abbrev yP_work : MethodName := ⟨"MeasureChoice$Planner", "work", "(LMeasureChoice$House;I)V"⟩
abbrev wdP_work : List Cond := Cond.code yP_work bP_work 4 none :: mcB
abbrev bP_boughtUpTo : ByteArray := prog_4_method_3_code
abbrev yP_boughtUpTo : MethodName := ⟨"MeasureChoice$Planner", "boughtUpTo", "(I)I"⟩
abbrev wdP_boughtUpTo : List Cond := Cond.code yP_boughtUpTo bP_boughtUpTo 4 (some FieldType.int) :: mcB
abbrev bP_fillPurses : ByteArray := prog_4_method_4_code
abbrev yP_fillPurses : MethodName := ⟨"MeasureChoice$Planner", "fillPurses", "()V"⟩
abbrev wdP_fillPurses : List Cond := Cond.code yP_fillPurses bP_fillPurses 3 none :: mcB
abbrev bP_judgeSets : ByteArray := prog_4_method_5_code
abbrev yP_judgeSets : MethodName := ⟨"MeasureChoice$Planner", "judgeSets", "(LMeasureChoice$House;)V"⟩
abbrev wdP_judgeSets : List Cond := Cond.code yP_judgeSets bP_judgeSets 3 none :: mcB
abbrev bP_workYear : ByteArray := prog_4_method_6_code
abbrev yP_workYear : MethodName := ⟨"MeasureChoice$Planner", "workYear", "(IZ)V"⟩
abbrev wdP_workYear : List Cond := Cond.code yP_workYear bP_workYear 5 none :: mcB
abbrev bP_bestFrom : ByteArray := prog_4_method_7_code
abbrev yP_bestFrom : MethodName := ⟨"MeasureChoice$Planner", "bestFrom", "(II)I"⟩
abbrev wdP_bestFrom : List Cond := Cond.code yP_bestFrom bP_bestFrom 5 (some FieldType.int) :: mcB
abbrev bP_isBetter : ByteArray := prog_4_method_8_code
abbrev yP_isBetter : MethodName := ⟨"MeasureChoice$Planner", "isBetter", "(III)Z"⟩
abbrev wdP_isBetter : List Cond := Cond.code yP_isBetter bP_isBetter 4 (some FieldType.boolean) :: mcB
abbrev bL_measure : ByteArray := method_3_code
abbrev yL_measure : MethodName := ⟨"MeasureChoiceLaw", "measure", "(LMeasureChoice;II[J)I"⟩
abbrev wdL_measure : List Cond := Cond.codeWith yL_measure bL_measure 5 (some FieldType.int) [(0, 10, 13, 13), (0, 10, 17, 15)] :: mcB
abbrev bL_change : ByteArray := method_4_code
abbrev yL_change : MethodName := ⟨"MeasureChoiceLaw", "change", "(LMeasureChoice;III)I"⟩
abbrev wdL_change : List Cond := Cond.codeWith yL_change bL_change 5 (some FieldType.int) [(0, 7, 10, 13)] :: mcB
abbrev bL_exclude : ByteArray := method_5_code
abbrev yL_exclude : MethodName := ⟨"MeasureChoiceLaw", "exclude", "(LMeasureChoice;IIZ[J)I"⟩
abbrev wdL_exclude : List Cond := Cond.codeWith yL_exclude bL_exclude 6 (some FieldType.int) [(0, 19, 22, 13)] :: mcB
abbrev bL_needs : ByteArray := method_6_code
abbrev yL_needs : MethodName := ⟨"MeasureChoiceLaw", "needs", "(LMeasureChoice;IIZ[J)I"⟩
abbrev wdL_needs : List Cond := Cond.codeWith yL_needs bL_needs 6 (some FieldType.int) [(0, 19, 22, 13)] :: mcB
abbrev bL_bonus : ByteArray := method_7_code
abbrev yL_bonus : MethodName := ⟨"MeasureChoiceLaw", "bonus", "(LMeasureChoice;III[J)I"⟩
abbrev wdL_bonus : List Cond := Cond.codeWith yL_bonus bL_bonus 6 (some FieldType.int) [(0, 12, 15, 13)] :: mcB
abbrev bL_lawful : ByteArray := method_8_code
abbrev yL_lawful : MethodName := ⟨"MeasureChoiceLaw", "lawful", "(LMeasureChoice;I[J)I"⟩
abbrev wdL_lawful : List Cond := Cond.codeWith yL_lawful bL_lawful 4 (some FieldType.int) [(0, 16, 19, 13)] :: mcB
abbrev bL_told : ByteArray := method_9_code
abbrev yL_told : MethodName := ⟨"MeasureChoiceLaw", "told", "(LMeasureChoice;II[J)I"⟩
abbrev wdL_told : List Cond := Cond.codeWith yL_told bL_told 5 (some FieldType.int) [(0, 10, 13, 13)] :: mcB
abbrev bL_closure : ByteArray := method_10_code
abbrev yL_closure : MethodName := ⟨"MeasureChoiceLaw", "closure", "(LMeasureChoice;I[J)I"⟩
abbrev wdL_closure : List Cond := Cond.codeWith yL_closure bL_closure 4 (some FieldType.int) [(0, 9, 12, 13)] :: mcB
abbrev bL_best : ByteArray := method_11_code
abbrev yL_best : MethodName := ⟨"MeasureChoiceLaw", "best", "(LMeasureChoice;I[J)I"⟩
abbrev wdL_best : List Cond := Cond.codeWith yL_best bL_best 4 (some FieldType.int) [(0, 9, 12, 13)] :: mcB
abbrev bL_worth : ByteArray := method_12_code
abbrev yL_worth : MethodName := ⟨"MeasureChoiceLaw", "worth", "(LMeasureChoice;II[J)I"⟩
abbrev wdL_worth : List Cond := Cond.codeWith yL_worth bL_worth 5 (some FieldType.int) [(0, 10, 13, 13)] :: mcB
abbrev bL_frontier : ByteArray := method_13_code
abbrev yL_frontier : MethodName := ⟨"MeasureChoiceLaw", "frontier", "(LMeasureChoice;I[J)I"⟩
abbrev wdL_frontier : List Cond := Cond.codeWith yL_frontier bL_frontier 4 (some FieldType.int) [(0, 9, 12, 13)] :: mcB
abbrev bL_year : ByteArray := method_14_code
abbrev yL_year : MethodName := ⟨"MeasureChoiceLaw", "year", "(LMeasureChoice;II[J)I"⟩
abbrev wdL_year : List Cond := Cond.codeWith yL_year bL_year 5 (some FieldType.int) [(0, 10, 13, 13)] :: mcB
abbrev bL_plan : ByteArray := method_15_code
abbrev yL_plan : MethodName := ⟨"MeasureChoiceLaw", "plan", "(LMeasureChoice;II[J)I"⟩
abbrev wdL_plan : List Cond := Cond.codeWith yL_plan bL_plan 5 (some FieldType.int) [(0, 10, 13, 13)] :: mcB
abbrev bL_planned : ByteArray := method_16_code
abbrev yL_planned : MethodName := ⟨"MeasureChoiceLaw", "planned", "(LMeasureChoice;I[J)I"⟩
abbrev wdL_planned : List Cond := Cond.codeWith yL_planned bL_planned 4 (some FieldType.int) [(0, 9, 12, 13)] :: mcB
end
