section
/-! numbers: an Int as an Int32; bits of a set that is told as a number -/
def iI (z : Int) : Int32 := Int32.ofInt z
theorem iI_nat (n : Nat) : iI (n : Int) = nI n := Int32.ofInt_eq_ofNat
theorem iI_toInt {z : Int} (h1 : -2147483648 ≤ z) (h2 : z < 2147483648) : (iI z).toInt = z := Int32.toInt_ofInt_of_le (by omega) (by omega)
theorem iI_add (a b : Int) : iI a + iI b = iI (a + b) := by
  apply Int32.toBitVec.inj
  simp [iI, BitVec.ofInt_add]
theorem iI_sub (a b : Int) : iI a - iI b = iI (a - b) := by
  rw [Int32.sub_eq_add_neg, show iI b = Int32.ofInt b from rfl, Int32.neg_ofInt]
  exact iI_add a (-b)
theorem iI_lt {a b : Int} (ha1 : -2147483648 ≤ a) (ha2 : a < 2147483648) (hb1 : -2147483648 ≤ b) (hb2 : b < 2147483648) : iI a < iI b ↔ a < b := by
  rw [Int32.lt_iff_toInt_lt, iI_toInt ha1 ha2, iI_toInt hb1 hb2]
theorem iI_le {a b : Int} (ha1 : -2147483648 ≤ a) (ha2 : a < 2147483648) (hb1 : -2147483648 ≤ b) (hb2 : b < 2147483648) : iI a ≤ iI b ↔ a ≤ b := by
  rw [Int32.le_iff_toInt_le, iI_toInt ha1 ha2, iI_toInt hb1 hb2]
theorem iI_eq {a b : Int} (ha1 : -2147483648 ≤ a) (ha2 : a < 2147483648) (hb1 : -2147483648 ≤ b) (hb2 : b < 2147483648) : iI a = iI b ↔ a = b := by
  constructor
  · intro h
    have := congrArg Int32.toInt h
    rwa [iI_toInt ha1 ha2, iI_toInt hb1 hb2] at this
  · intro h; rw [h]
theorem iI_self (x : Int32) : iI x.toInt = x := Int32.ofInt_toInt x
theorem iI_bnd (x : Int32) : -2147483648 ≤ x.toInt ∧ x.toInt < 2147483648 := ⟨by have := x.le_toInt; omega, by have := x.toInt_lt; omega⟩
theorem nI_or (a b : Nat) : nI a ||| nI b = nI (a ||| b) := by
  apply Int32.toBitVec.inj
  show BitVec.ofNat 32 a ||| BitVec.ofNat 32 b = BitVec.ofNat 32 (a ||| b)
  exact (BitVec.ofNat_or ..).symm
theorem nI_and (a b : Nat) : nI a &&& nI b = nI (a &&& b) := by
  apply Int32.toBitVec.inj
  show BitVec.ofNat 32 a &&& BitVec.ofNat 32 b = BitVec.ofNat 32 (a &&& b)
  exact (BitVec.ofNat_and ..).symm
theorem nI_xor (a b : Nat) : nI a ^^^ nI b = nI (a ^^^ b) := by
  apply Int32.toBitVec.inj
  show BitVec.ofNat 32 a ^^^ BitVec.ofNat 32 b = BitVec.ofNat 32 (a ^^^ b)
  exact (BitVec.ofNat_xor ..).symm
theorem nI_m1 : (-1 : Int32) = nI 4294967295 := by decide +kernel
theorem nI_sm : ∀ k, k < 32 → ((nI k &&& 31).toBitVec.smod 32).toNat = k := by decide +kernel
/-- 1 << k -/
theorem nI_bit {k : Nat} (h : k < 31) : (1 : Int32) <<< (nI k &&& 31) = nI (2 ^ k) := by
  have h2 : 2 ^ k < 2 ^ 32 := Nat.pow_lt_pow_right (by decide) (by omega)
  have := pk_shlN (n := 1) (nI k &&& 31) k (nI_sm k (by omega)) (by omega)
  rw [Nat.one_mul] at this
  exact this
/-- x << k -/
theorem nI_shl {x k : Nat} (h : k < 32) (hx : x * 2 ^ k < 2 ^ 32) : nI x <<< (nI k &&& 31) = nI (x * 2 ^ k) := pk_shlN (nI k &&& 31) k (nI_sm k h) hx
theorem nI_shr {x k : Nat} (h : k < 32) (hx : x < 2 ^ 31) : nI x >>> (nI k &&& 31) = nI (x / 2 ^ k) := pk_shrN hx (nI k &&& 31) k (nI_sm k h)
/-- (x >> k) & 1 -/
theorem nI_has {x k : Nat} (h : k < 32) (hx : x < 2 ^ 31) : (nI x >>> (nI k &&& 31)) &&& 1 = if x.testBit k then 1 else 0 := by
  rw [nI_shr h hx, show (1 : Int32) = nI 1 from rfl, nI_and, Nat.testBit_eq_decide_div_mod_eq, Nat.and_one_is_mod]
  rcases Nat.mod_two_eq_zero_or_one (x / 2 ^ k) with e | e <;> simp [e] <;> rfl
/-- x & ~y = 0 -/
theorem nI_sub0 {x y : Nat} (hx : x < 2 ^ 31) (hy : y < 2 ^ 31) : (nI x &&& (nI y ^^^ (-1)) = 0) ↔ x &&& y = x := by
  rw [nI_m1, nI_xor, nI_and, show (0 : Int32) = nI 0 from rfl]
  have hle : x &&& (y ^^^ 4294967295) ≤ x := Nat.and_le_left
  rw [nI_eq (by omega) (by omega)]
  constructor
  · intro h
    apply Nat.eq_of_testBit_eq
    intro i
    have hi := congrArg (fun z => z.testBit i) h
    simp only [Nat.testBit_and, Nat.testBit_xor, Nat.zero_testBit] at hi ⊢
    by_cases h31 : i < 32
    · have hf : Nat.testBit 4294967295 i = true := by
        rw [show (4294967295 : Nat) = 2 ^ 32 - 1 from rfl, Nat.testBit_two_pow_sub_one]
        simpa using h31
      rw [hf] at hi
      revert hi
      cases x.testBit i <;> cases y.testBit i <;> simp
    · have : x.testBit i = false := Nat.testBit_lt_two_pow (Nat.lt_of_lt_of_le hx (Nat.pow_le_pow_right (by decide) (by omega)))
      simp [this]
  · intro h
    apply Nat.eq_of_testBit_eq
    intro i
    have hi := congrArg (fun z => z.testBit i) h
    simp only [Nat.testBit_and, Nat.testBit_xor, Nat.zero_testBit] at hi ⊢
    by_cases h31 : i < 32
    · have hf : Nat.testBit 4294967295 i = true := by
        rw [show (4294967295 : Nat) = 2 ^ 32 - 1 from rfl, Nat.testBit_two_pow_sub_one]
        simpa using h31
      rw [hf]
      revert hi
      cases x.testBit i <;> cases y.testBit i <;> simp
    · have : x.testBit i = false := Nat.testBit_lt_two_pow (Nat.lt_of_lt_of_le hx (Nat.pow_le_pow_right (by decide) (by omega)))
      simp [this]
/-- x & ~(1 << k) as a number -/
theorem nI_drop {x k : Nat} (hx : x < 2 ^ 31) (hk : k < 31) : nI x &&& (nI (2 ^ k) ^^^ (-1)) = nI (x &&& (2 ^ k ^^^ 4294967295)) := by
  rw [nI_m1, nI_xor, nI_and]
end
section
/-! what a set costs and gains, whether it is lawful: over numbers -/
def mc_cost (C : Nat → Nat) (S : Nat) : Nat → Nat
  | 0 => 0
  | k + 1 => mc_cost C S k + (if S.testBit k = true then C k else 0)
def mc_bon (b : Nat → Int) (S : Nat) : Nat → Int
  | 0 => 0
  | k + 1 => mc_bon b S k + (if S.testBit k = true then b k else 0)
def mc_gain (G : Nat → Nat) (B : Nat → Nat → Int) (S : Nat) : Nat → Int
  | 0 => 0
  | k + 1 => mc_gain G B S k + (if S.testBit k = true then (G k : Int) + mc_bon (B k) S k else 0)
def mc_law (n : Nat) (X D : Nat → Nat) (S : Nat) : Prop := ∀ m, m < n → S.testBit m = true → X m &&& S = 0 ∧ D m &&& S = D m
/-- the numbers of a house are in their bounds -/
def mc_ok (n : Nat) (C G : Nat → Nat) (X D : Nat → Nat) (B : Nat → Nat → Int) : Prop :=
  n ≤ 12 ∧ (∀ m, m < n → 1 ≤ C m) ∧ (∀ m, C m ≤ 10000) ∧ (∀ m, G m ≤ 10000) ∧ (∀ m, X m < 4096) ∧ (∀ m, D m < 4096) ∧ (∀ i j, -5000 ≤ B i j ∧ B i j ≤ 5000)
theorem mc_cost_le {C : Nat → Nat} {S : Nat} (h : ∀ m, C m ≤ 10000) : ∀ k, mc_cost C S k ≤ 10000 * k
  | 0 => Nat.le_refl 0
  | k + 1 => by
    have := mc_cost_le (S := S) h k
    have h2 := h k
    simp only [mc_cost]
    split <;> omega
theorem mc_bon_le {b : Nat → Int} {S : Nat} (h : ∀ m, -5000 ≤ b m ∧ b m ≤ 5000) : ∀ k : Nat, -5000 * (k : Int) ≤ mc_bon b S k ∧ mc_bon b S k ≤ 5000 * (k : Int)
  | 0 => by simp [mc_bon]
  | k + 1 => by
    have := mc_bon_le (S := S) h k
    have h2 := h k
    simp only [mc_bon]
    split <;> omega
theorem mc_gain_le {G : Nat → Nat} {B : Nat → Nat → Int} {S : Nat} (h : ∀ m, G m ≤ 10000) (hB : ∀ i j, -5000 ≤ B i j ∧ B i j ≤ 5000) : ∀ k : Nat, k ≤ 12 → -70000 * (k : Int) ≤ mc_gain G B S k ∧ mc_gain G B S k ≤ 70000 * (k : Int)
  | 0, _ => by simp [mc_gain]
  | k + 1, hk => by
    have h1 := mc_gain_le (S := S) h hB k (by omega)
    have h2 := h k
    have h3 := mc_bon_le (S := S) (hB k) k
    simp only [mc_gain]
    split <;> omega
/-- sums look at the bits below k alone -/
theorem mc_cost_bits {C : Nat → Nat} {S T : Nat} : ∀ k, (∀ j, j < k → S.testBit j = T.testBit j) → mc_cost C S k = mc_cost C T k
  | 0, _ => rfl
  | k + 1, h => by
    simp only [mc_cost]
    rw [mc_cost_bits k (fun j hj => h j (by omega)), h k (by omega)]
theorem mc_bon_bits {b : Nat → Int} {S T : Nat} : ∀ k, (∀ j, j < k → S.testBit j = T.testBit j) → mc_bon b S k = mc_bon b T k
  | 0, _ => rfl
  | k + 1, h => by
    simp only [mc_bon]
    rw [mc_bon_bits k (fun j hj => h j (by omega)), h k (by omega)]
theorem mc_gain_bits {G : Nat → Nat} {B : Nat → Nat → Int} {S T : Nat} : ∀ k, (∀ j, j < k → S.testBit j = T.testBit j) → mc_gain G B S k = mc_gain G B T k
  | 0, _ => rfl
  | k + 1, h => by
    simp only [mc_gain]
    rw [mc_gain_bits k (fun j hj => h j (by omega)), h k (by omega), mc_bon_bits k (fun j hj => h j (by omega))]
/-- bits above a set's own add nothing -/
theorem mc_hi {S m j : Nat} (hS : S < 2 ^ m) (h : m ≤ j) : S.testBit j = false := Nat.testBit_lt_two_pow (Nat.lt_of_lt_of_le hS (Nat.pow_le_pow_right (by decide) h))
theorem mc_cost_hi {C : Nat → Nat} {S m : Nat} (hS : S < 2 ^ m) : ∀ k, m ≤ k → mc_cost C S k = mc_cost C S m := by
  intro k hk
  induction k with
  | zero => rw [show m = 0 by omega]
  | succ k ih =>
    by_cases e : m = k + 1
    · rw [e]
    · simp only [mc_cost]
      rw [ih (by omega), mc_hi hS (by omega : m ≤ k)]
      simp
theorem mc_bon_hi {b : Nat → Int} {S m : Nat} (hS : S < 2 ^ m) : ∀ k, m ≤ k → mc_bon b S k = mc_bon b S m := by
  intro k hk
  induction k with
  | zero => rw [show m = 0 by omega]
  | succ k ih =>
    by_cases e : m = k + 1
    · rw [e]
    · simp only [mc_bon]
      rw [ih (by omega), mc_hi hS (by omega : m ≤ k)]
      simp
theorem mc_gain_hi {G : Nat → Nat} {B : Nat → Nat → Int} {S m : Nat} (hS : S < 2 ^ m) : ∀ k, m ≤ k → mc_gain G B S k = mc_gain G B S m := by
  intro k hk
  induction k with
  | zero => rw [show m = 0 by omega]
  | succ k ih =>
    by_cases e : m = k + 1
    · rw [e]
    · simp only [mc_gain]
      rw [ih (by omega), mc_hi hS (by omega : m ≤ k)]
      simp
/-- one more measure, above all of the set's -/
theorem mc_top_lo {S m j : Nat} (hj : j < m) : (2 ^ m + S).testBit j = S.testBit j := Nat.testBit_two_pow_add_gt hj S
theorem mc_top_at {S m : Nat} (hS : S < 2 ^ m) : (2 ^ m + S).testBit m = true := by
  rw [Nat.testBit_two_pow_add_eq, Nat.testBit_lt_two_pow hS]; rfl
theorem mc_cost_top {C : Nat → Nat} {S m : Nat} (hS : S < 2 ^ m) : mc_cost C (2 ^ m + S) (m + 1) = mc_cost C S m + C m := by
  simp only [mc_cost]
  rw [mc_cost_bits m (fun j hj => mc_top_lo hj), mc_top_at hS]
  simp
theorem mc_bon_top {b : Nat → Int} {S m : Nat} (hS : S < 2 ^ m) : mc_bon b (2 ^ m + S) (m + 1) = mc_bon b S m + b m := by
  simp only [mc_bon]
  rw [mc_bon_bits m (fun j hj => mc_top_lo hj), mc_top_at hS]
  simp
theorem mc_gain_top {G : Nat → Nat} {B : Nat → Nat → Int} {S m : Nat} (hS : S < 2 ^ m) : mc_gain G B (2 ^ m + S) (m + 1) = mc_gain G B S m + G m + mc_bon (B m) S m := by
  simp only [mc_gain]
  rw [mc_gain_bits m (fun j hj => mc_top_lo hj), mc_top_at hS, mc_bon_bits m (fun j hj => mc_top_lo hj)]
  simp [Int.add_assoc]
/-- the step of addGains: a set with bit m' on top of rest, and measure m above both -/
theorem mc_gain_step {G : Nat → Nat} {B : Nat → Nat → Int} {R m m' : Nat} (hm : m' < m) (hR : R < 2 ^ m') :
    mc_gain G B (2 ^ m + (2 ^ m' + R)) (m + 1) = mc_gain G B (2 ^ m' + R) m + (mc_gain G B (2 ^ m + R) (m + 1) - mc_gain G B R m) + B m m' := by
  have hp : 2 ^ (m' + 1) ≤ 2 ^ m := Nat.pow_le_pow_right (by decide) hm
  have hp1 : 2 ^ (m' + 1) = 2 * 2 ^ m' := by rw [Nat.pow_succ]; omega
  rw [mc_gain_top (show 2 ^ m' + R < 2 ^ m by omega), mc_gain_top (show R < 2 ^ m by omega)]
  have h1 : mc_bon (B m) (2 ^ m' + R) m = mc_bon (B m) R m + B m m' := by
    rw [mc_bon_hi (m := m' + 1) (by omega) m hm, mc_bon_top hR, mc_bon_hi hR m (by omega)]
  rw [h1]
  omega
end
section
/-! the keys of all sets in order, and the merge that adds a measure -/
/-- f holds the N numbers of the kind K, growing -/
def mc_ord (N : Nat) (K : Nat → Nat) (f : Nat → Nat) : Prop :=
  (∀ i j, i < j → j < N → f i < f j) ∧ (∀ S, S < N → ∃ i, i < N ∧ f i = K S) ∧ (∀ i, i < N → ∃ S, S < N ∧ f i = K S)
/-- a merge under way: of the plain ones p, of the raised ones r are still to be laid; from p + r on the upper ones lie -/
def mc_mrg (N a p r : Nat) (f g : Nat → Nat) : Prop :=
  r ≤ p ∧ p ≤ N ∧ r ≤ N ∧ (∀ i, i < p → g i = f i) ∧ (∀ i j, p + r ≤ i → i < j → j < 2 * N → g i < g j) ∧
  (∀ j, p ≤ j → j < N → ∃ i, p + r ≤ i ∧ i < 2 * N ∧ g i = f j) ∧ (∀ j, r ≤ j → j < N → ∃ i, p + r ≤ i ∧ i < 2 * N ∧ g i = f j + a) ∧
  (∀ i, p + r ≤ i → i < 2 * N → (∃ j, p ≤ j ∧ j < N ∧ g i = f j) ∨ ∃ j, r ≤ j ∧ j < N ∧ g i = f j + a) ∧
  (∀ i j, p + r ≤ i → i < 2 * N → j < p → f j < g i) ∧ (∀ i j, p + r ≤ i → i < 2 * N → j < r → f j + a < g i)
theorem mc_mrg_0 {N a : Nat} {f : Nat → Nat} : mc_mrg N a N N f f := by
  refine ⟨Nat.le_refl _, Nat.le_refl _, Nat.le_refl _, fun _ _ => rfl, fun i j h1 h2 h3 => absurd h3 (by omega), fun j h1 h2 => absurd h2 (by omega), fun j h1 h2 => absurd h2 (by omega), fun i h1 h2 => absurd h2 (by omega), fun i j h1 h2 => absurd h2 (by omega), fun i j h1 h2 => absurd h2 (by omega)⟩
/-- the raised one is the larger -/
theorem mc_mrg_r {N a p r : Nat} {f g g' : Nat → Nat} (ho : ∀ i j, i < j → j < N → f i < f j) (h : mc_mrg N a p (r + 1) f g) (hp : 0 < p) (hc : f (p - 1) < f r + a) (hg : ∀ i, i ≠ p + r → g' i = g i) (hv : g' (p + r) = f r + a) : mc_mrg N a p r f g' := by
  obtain ⟨h1, h2, h3, h4, h5, h6, h7, h8, h9, h10⟩ := h
  have hmono : ∀ i j, i ≤ j → j < N → f i ≤ f j := fun i j hij hj => by
    rcases Nat.lt_or_ge i j with q | q
    · exact Nat.le_of_lt (ho i j q hj)
    · rw [show i = j by omega]; exact Nat.le_refl _
  refine ⟨by omega, h2, by omega, fun i hi => by rw [hg i (by omega)]; exact h4 i hi, ?_, ?_, ?_, ?_, ?_, ?_⟩
  · intro i j hi hij hj
    rw [hg j (by omega)]
    by_cases e : i = p + r
    · subst e
      rw [hv]
      exact h10 j r (by omega) hj (by omega)
    · rw [hg i e]
      exact h5 i j (by omega) hij hj
  · intro j hj1 hj2
    obtain ⟨i, i1, i2, i3⟩ := h6 j hj1 hj2
    exact ⟨i, by omega, i2, by rw [hg i (by omega)]; exact i3⟩
  · intro j hj1 hj2
    by_cases e : j = r
    · subst e
      exact ⟨p + j, by omega, by omega, hv⟩
    · obtain ⟨i, i1, i2, i3⟩ := h7 j (by omega) hj2
      exact ⟨i, by omega, i2, by rw [hg i (by omega)]; exact i3⟩
  · intro i hi1 hi2
    by_cases e : i = p + r
    · subst e
      exact Or.inr ⟨r, by omega, by omega, hv⟩
    · rw [hg i e]
      rcases h8 i (by omega) hi2 with ⟨j, j1, j2, j3⟩ | ⟨j, j1, j2, j3⟩
      · exact Or.inl ⟨j, j1, j2, j3⟩
      · exact Or.inr ⟨j, by omega, j2, j3⟩
  · intro i j hi1 hi2 hj
    by_cases e : i = p + r
    · subst e
      rw [hv]
      exact Nat.lt_of_le_of_lt (hmono j (p - 1) (by omega) (by omega)) hc
    · rw [hg i e]
      exact h9 i j (by omega) hi2 hj
  · intro i j hi1 hi2 hj
    by_cases e : i = p + r
    · subst e
      rw [hv]
      exact Nat.add_lt_add_right (ho j r hj (by omega)) a
    · rw [hg i e]
      exact h10 i j (by omega) hi2 (by omega)
/-- the plain one is the larger -/
theorem mc_mrg_p {N a p r : Nat} {f g g' : Nat → Nat} (ho : ∀ i j, i < j → j < N → f i < f j) (ha : 0 < a) (hne : ∀ i j, i < N → j < N → f i + a ≠ f j) (h : mc_mrg N a (p + 1) (r + 1) f g) (hc : ¬ f p < f r + a) (hg : ∀ i, i ≠ p + r + 1 → g' i = g i) (hv : g' (p + r + 1) = f p) : mc_mrg N a p (r + 1) f g' := by
  obtain ⟨h1, h2, h3, h4, h5, h6, h7, h8, h9, h10⟩ := h
  have hmono : ∀ i j, i ≤ j → j < N → f i ≤ f j := fun i j hij hj => by
    rcases Nat.lt_or_ge i j with q | q
    · exact Nat.le_of_lt (ho i j q hj)
    · rw [show i = j by omega]; exact Nat.le_refl _
  have hlt : f r + a < f p := by
    have := hne r p (by omega) (by omega)
    omega
  have hrp : r < p := by
    rcases Nat.lt_or_ge r p with q | q
    · exact q
    · have := hmono p r q (by omega)
      omega
  refine ⟨by omega, by omega, h3, fun i hi => by rw [hg i (by omega)]; exact h4 i (by omega), ?_, ?_, ?_, ?_, ?_, ?_⟩
  · intro i j hi hij hj
    rw [hg j (by omega)]
    by_cases e : i = p + r + 1
    · subst e
      rw [hv]
      exact h9 j p (by omega) hj (by omega)
    · rw [hg i e]
      exact h5 i j (by omega) hij hj
  · intro j hj1 hj2
    by_cases e : j = p
    · subst e
      exact ⟨j + r + 1, by omega, by omega, hv⟩
    · obtain ⟨i, i1, i2, i3⟩ := h6 j (by omega) hj2
      exact ⟨i, by omega, i2, by rw [hg i (by omega)]; exact i3⟩
  · intro j hj1 hj2
    obtain ⟨i, i1, i2, i3⟩ := h7 j hj1 hj2
    exact ⟨i, by omega, i2, by rw [hg i (by omega)]; exact i3⟩
  · intro i hi1 hi2
    by_cases e : i = p + r + 1
    · subst e
      exact Or.inl ⟨p, by omega, by omega, hv⟩
    · rw [hg i e]
      rcases h8 i (by omega) hi2 with ⟨j, j1, j2, j3⟩ | ⟨j, j1, j2, j3⟩
      · exact Or.inl ⟨j, by omega, j2, j3⟩
      · exact Or.inr ⟨j, j1, j2, j3⟩
  · intro i j hi1 hi2 hj
    by_cases e : i = p + r + 1
    · subst e
      rw [hv]
      exact ho j p hj (by omega)
    · rw [hg i e]
      exact h9 i j (by omega) hi2 (by omega)
  · intro i j hi1 hi2 hj
    by_cases e : i = p + r + 1
    · subst e
      rw [hv]
      exact Nat.lt_of_le_of_lt (Nat.add_le_add_right (hmono j r (by omega) (by omega)) a) hlt
    · rw [hg i e]
      exact h10 i j (by omega) hi2 hj
/-- the merge's end -/
theorem mc_mrg_end {N a p : Nat} {K K' f g : Nat → Nat} (hf : mc_ord N K f) (h : mc_mrg N a p 0 f g) (hK0 : ∀ S, S < N → K' S = K S) (hK1 : ∀ S, S < N → K' (N + S) = K S + a) : mc_ord (2 * N) K' g := by
  obtain ⟨h1, h2, h3, h4, h5, h6, h7, h8, h9, h10⟩ := h
  obtain ⟨o1, o2, o3⟩ := hf
  refine ⟨?_, ?_, ?_⟩
  · intro i j hij hj
    by_cases hjp : j < p
    · rw [h4 i (by omega), h4 j hjp]
      exact o1 i j hij (by omega)
    · by_cases hip : i < p
      · rw [h4 i hip]
        exact h9 j i (by omega) hj hip
      · exact h5 i j (by omega) hij hj
  · intro S hS
    by_cases hlo : S < N
    · obtain ⟨i, i1, i2⟩ := o2 S hlo
      rw [hK0 S hlo]
      by_cases hip : i < p
      · exact ⟨i, by omega, by rw [h4 i hip]; exact i2⟩
      · obtain ⟨k, k1, k2, k3⟩ := h6 i (by omega) i1
        exact ⟨k, k2, by rw [k3]; exact i2⟩
    · obtain ⟨i, i1, i2⟩ := o2 (S - N) (by omega)
      obtain ⟨k, k1, k2, k3⟩ := h7 i (by omega) i1
      refine ⟨k, k2, ?_⟩
      rw [k3, i2, ← hK1 (S - N) (by omega)]
      congr 1
      omega
  · intro i hi
    by_cases hip : i < p
    · obtain ⟨S, s1, s2⟩ := o3 i (by omega)
      exact ⟨S, by omega, by rw [h4 i hip, hK0 S s1]; exact s2⟩
    · rcases h8 i (by omega) hi with ⟨j, j1, j2, j3⟩ | ⟨j, j1, j2, j3⟩
      · obtain ⟨S, s1, s2⟩ := o3 j j2
        exact ⟨S, by omega, by rw [j3, hK0 S s1]; exact s2⟩
      · obtain ⟨S, s1, s2⟩ := o3 j j2
        exact ⟨N + S, by omega, by rw [j3, hK1 S s1, s2]⟩
/-! the sets that none beats, by cost: a ladder over those sets that have been looked at -/
def mc_key (c : Nat → Nat) (S : Nat) : Nat := c S * 4096 + S
def mc_lad (Pr : Nat → Prop) (c : Nat → Nat) (g : Nat → Int) (L : Nat → Prop) (R : Nat) (u : Nat → Nat) : Prop :=
  0 < R ∧ (∀ i j, i < j → j < R → c (u i) < c (u j) ∧ g (u i) < g (u j)) ∧ (∀ i, i < R → Pr (u i) ∧ L (u i)) ∧
  (∀ S, Pr S → L S → ∃ i, i < R ∧ c (u i) ≤ c S ∧ (g S < g (u i) ∨ (g S = g (u i) ∧ mc_key c (u i) ≤ mc_key c S)))
theorem mc_lad_0 {Pr : Nat → Prop} {c : Nat → Nat} {g : Nat → Int} {L : Nat → Prop} {u : Nat → Nat} (hu : Pr (u 0)) (hL : L (u 0)) (h : ∀ S, Pr S → S = u 0) : mc_lad Pr c g L 1 u := by
  refine ⟨by omega, fun i j h1 h2 => absurd h1 (by omega), fun i hi => ?_, fun S hS _ => ⟨0, by omega, ?_, Or.inr ?_⟩⟩
  · rw [show i = 0 by omega]; exact ⟨hu, hL⟩
  · rw [h S hS]; exact Nat.le_refl _
  · rw [h S hS]; exact ⟨rfl, Nat.le_refl _⟩
theorem mc_key_le {c : Nat → Nat} {S T : Nat} (h : mc_key c S < mc_key c T) (hT : T < 4096) : c S ≤ c T := by
  unfold mc_key at h
  omega
theorem mc_lad_skip {Pr Pr' : Nat → Prop} {c : Nat → Nat} {g : Nat → Int} {L : Nat → Prop} {R T : Nat} {u : Nat → Nat} (h : mc_lad Pr c g L R u) (hp : ∀ S, Pr' S ↔ Pr S ∨ S = T) (hk : ∀ S, Pr S → mc_key c S < mc_key c T) (hT : T < 4096)
    (hs : L T → g T ≤ g (u (R - 1))) : mc_lad Pr' c g L R u := by
  obtain ⟨h1, h2, h3, h4⟩ := h
  refine ⟨h1, h2, fun i hi => ⟨(hp _).mpr (Or.inl (h3 i hi).1), (h3 i hi).2⟩, fun S hS hL => ?_⟩
  rcases (hp S).mp hS with q | q
  · exact h4 S q hL
  · subst q
    have hkk := hk _ (h3 (R - 1) (by omega)).1
    refine ⟨R - 1, by omega, mc_key_le hkk hT, ?_⟩
    have := hs hL
    rcases Int.lt_or_eq_of_le this with q | q
    · exact Or.inl q
    · exact Or.inr ⟨q, Nat.le_of_lt hkk⟩
theorem mc_lad_push {Pr Pr' : Nat → Prop} {c : Nat → Nat} {g : Nat → Int} {L : Nat → Prop} {R T : Nat} {u u' : Nat → Nat} (h : mc_lad Pr c g L R u) (hp : ∀ S, Pr' S ↔ Pr S ∨ S = T) (hL : L T) (hg : g (u (R - 1)) < g T) (hc : c (u (R - 1)) < c T)
    (hu : ∀ i, i < R → u' i = u i) (hv : u' R = T) : mc_lad Pr' c g L (R + 1) u' := by
  obtain ⟨h1, h2, h3, h4⟩ := h
  refine ⟨by omega, fun i j hij hj => ?_, fun i hi => ?_, fun S hS hLS => ?_⟩
  · rw [hu i (by omega)]
    by_cases e : j = R
    · subst e
      rw [hv]
      by_cases e2 : i = j - 1
      · subst e2; exact ⟨hc, hg⟩
      · have := h2 i (j - 1) (by omega) (by omega)
        exact ⟨by omega, by omega⟩
    · rw [hu j (by omega)]
      exact h2 i j hij (by omega)
  · by_cases e : i = R
    · subst e
      rw [hv]
      exact ⟨(hp T).mpr (Or.inr rfl), hL⟩
    · rw [hu i (by omega)]
      exact ⟨(hp _).mpr (Or.inl (h3 i (by omega)).1), (h3 i (by omega)).2⟩
  · rcases (hp S).mp hS with q | q
    · obtain ⟨i, i1, i2, i3⟩ := h4 S q hLS
      exact ⟨i, by omega, by rw [hu i i1]; exact i2, by rw [hu i i1]; exact i3⟩
    · subst q
      exact ⟨R, by omega, by rw [hv]; exact Nat.le_refl _, Or.inr ⟨by rw [hv], by rw [hv]; exact Nat.le_refl _⟩⟩
theorem mc_lad_top {Pr Pr' : Nat → Prop} {c : Nat → Nat} {g : Nat → Int} {L : Nat → Prop} {R T : Nat} {u u' : Nat → Nat} (h : mc_lad Pr c g L R u) (hp : ∀ S, Pr' S ↔ Pr S ∨ S = T) (hk : ∀ S, Pr S → mc_key c S < mc_key c T) (hT : T < 4096) (hL : L T) (hg : g (u (R - 1)) < g T) (hc : ¬ c (u (R - 1)) < c T)
    (hu : ∀ i, i < R - 1 → u' i = u i) (hv : u' (R - 1) = T) : mc_lad Pr' c g L R u' := by
  obtain ⟨h1, h2, h3, h4⟩ := h
  have hce : c (u (R - 1)) = c T := by
    have := mc_key_le (hk _ (h3 (R - 1) (by omega)).1) hT
    omega
  refine ⟨h1, fun i j hij hj => ?_, fun i hi => ?_, fun S hS hLS => ?_⟩
  · rw [hu i (by omega)]
    have := h2 i j hij hj
    by_cases e : j = R - 1
    · subst e
      rw [hv]
      exact ⟨by omega, by omega⟩
    · rw [hu j (by omega)]
      exact this
  · by_cases e : i = R - 1
    · subst e
      rw [hv]
      exact ⟨(hp T).mpr (Or.inr rfl), hL⟩
    · rw [hu i (by omega)]
      exact ⟨(hp _).mpr (Or.inl (h3 i (by omega)).1), (h3 i (by omega)).2⟩
  · rcases (hp S).mp hS with q | q
    · obtain ⟨i, i1, i2, i3⟩ := h4 S q hLS
      by_cases e : i = R - 1
      · subst e
        refine ⟨R - 1, by omega, by rw [hv]; omega, Or.inl ?_⟩
        rw [hv]
        rcases i3 with k | k <;> omega
      · exact ⟨i, by omega, by rw [hu i (by omega)]; exact i2, by rw [hu i (by omega)]; exact i3⟩
    · subst q
      exact ⟨R - 1, by omega, by rw [hv]; exact Nat.le_refl _, Or.inr ⟨by rw [hv], by rw [hv]; exact Nat.le_refl _⟩⟩
/-- the highest rung that a budget pays is the best set for it -/
theorem mc_lad_best {Pr : Nat → Prop} {c : Nat → Nat} {g : Nat → Int} {L : Nat → Prop} {R : Nat} {u : Nat → Nat} (h : mc_lad Pr c g L R u) {b r : Nat} (hr : r < R) (hn : ∀ j, r < j → j < R → b < c (u j)) {S : Nat} (hS : Pr S) (hL : L S) (hb : c S ≤ b) :
    g S < g (u r) ∨ (g S = g (u r) ∧ mc_key c (u r) ≤ mc_key c S) := by
  obtain ⟨h1, h2, h3, h4⟩ := h
  obtain ⟨i, i1, i2, i3⟩ := h4 S hS hL
  rcases Nat.lt_trichotomy i r with q | q | q
  · have := (h2 i r q hr).2
    left
    rcases i3 with k | k <;> omega
  · subst q; exact i3
  · have := hn i q i1
    omega
/-- the lowest rung with a gain has the least cost for it -/
theorem mc_lad_bud {Pr : Nat → Prop} {c : Nat → Nat} {g : Nat → Int} {L : Nat → Prop} {R : Nat} {u : Nat → Nat} (h : mc_lad Pr c g L R u) {z : Int} {r : Nat} (hr : r < R) (hn : ∀ j, j < r → g (u j) < z) {S : Nat} (hS : Pr S) (hL : L S) (hz : z ≤ g S) : c (u r) ≤ c S := by
  obtain ⟨h1, h2, h3, h4⟩ := h
  obtain ⟨i, i1, i2, i3⟩ := h4 S hS hL
  rcases Nat.lt_trichotomy i r with q | q | q
  · have := hn i q
    rcases i3 with k | k <;> omega
  · subst q; exact i2
  · have := (h2 r i q i1).1
    omega
theorem mc_lad_none {Pr : Nat → Prop} {c : Nat → Nat} {g : Nat → Int} {L : Nat → Prop} {R : Nat} {u : Nat → Nat} (h : mc_lad Pr c g L R u) {z : Int} (hn : ∀ j, j < R → g (u j) < z) {S : Nat} (hS : Pr S) (hL : L S) : g S < z := by
  obtain ⟨i, i1, i2, i3⟩ := h.2.2.2 S hS hL
  have := hn i i1
  rcases i3 with k | k <;> omega
/-- T beats S -/
def mc_beats (c : Nat → Nat) (g : Nat → Int) (T S : Nat) : Prop := g S ≤ g T ∧ c T ≤ c S ∧ ¬ (g T = g S ∧ c T = c S)
/-- S is lawful, no lawful set beats it -/
def mc_unb (Pr : Nat → Prop) (c : Nat → Nat) (g : Nat → Int) (L : Nat → Prop) (S : Nat) : Prop := Pr S ∧ L S ∧ ∀ T, Pr T → L T → ¬ mc_beats c g T S
/-- .. and it is the least of its cost -/
def mc_fr (Pr : Nat → Prop) (c : Nat → Nat) (g : Nat → Int) (L : Nat → Prop) (S : Nat) : Prop := mc_unb Pr c g L S ∧ ∀ T, mc_unb Pr c g L T → c T = c S → S ≤ T
theorem mc_lad_fr {Pr : Nat → Prop} {c : Nat → Nat} {g : Nat → Int} {L : Nat → Prop} {R : Nat} {u : Nat → Nat} (h : mc_lad Pr c g L R u) (i : Nat) (hi : i < R) : mc_fr Pr c g L (u i) := by
  obtain ⟨h1, h2, h3, h4⟩ := h
  have key : ∀ T, Pr T → L T → g (u i) ≤ g T → c T ≤ c (u i) → (g T = g (u i) ∧ c T = c (u i) ∧ mc_key c (u i) ≤ mc_key c T) := by
    intro T hT hL hg hc
    obtain ⟨j, j1, j2, j3⟩ := h4 T hT hL
    rcases Nat.lt_trichotomy i j with q | q | q
    · have := (h2 i j q j1).1
      omega
    · subst q
      rcases j3 with k | k
      · omega
      · exact ⟨k.1, by omega, k.2⟩
    · have := (h2 j i q hi).2
      rcases j3 with k | k <;> omega
  refine ⟨⟨(h3 i hi).1, (h3 i hi).2, fun T hT hL hb => ?_⟩, fun T hT hc => ?_⟩
  · obtain ⟨b1, b2, b3⟩ := hb
    have := key T hT hL b1 b2
    exact b3 ⟨this.1, this.2.1⟩
  · obtain ⟨t1, t2, t3⟩ := hT
    have hn := t3 (u i) (h3 i hi).1 (h3 i hi).2
    unfold mc_beats at hn
    have hg : g (u i) ≤ g T := by
      rcases Int.lt_or_le (g T) (g (u i)) with q | q
      · exact absurd ⟨by omega, by omega, fun z => by omega⟩ hn
      · exact q
    have := (key T t1 t2 hg (by omega)).2.2
    unfold mc_key at this
    omega
theorem mc_fr_lad {Pr : Nat → Prop} {c : Nat → Nat} {g : Nat → Int} {L : Nat → Prop} {R : Nat} {u : Nat → Nat} (h : mc_lad Pr c g L R u) {S : Nat} (hS : mc_fr Pr c g L S) : ∃ i, i < R ∧ u i = S := by
  obtain ⟨⟨s1, s2, s3⟩, s4⟩ := hS
  obtain ⟨i, i1, i2, i3⟩ := h.2.2.2 S s1 s2
  refine ⟨i, i1, ?_⟩
  have hn := s3 (u i) (h.2.2.1 i i1).1 (h.2.2.1 i i1).2
  unfold mc_beats at hn
  have hge : g S ≤ g (u i) := by rcases i3 with k | k <;> omega
  have he : g (u i) = g S ∧ c (u i) = c S := by
    by_cases e : g (u i) = g S ∧ c (u i) = c S
    · exact e
    · exact absurd ⟨hge, i2, e⟩ hn
  have hf := mc_lad_fr h i i1
  have h5 := hf.2 S ⟨s1, s2, s3⟩ he.2.symm
  have h6 := s4 (u i) hf.1 he.2
  omega
end
section
/-! what a measure brings with it -/
def mc_sub (S T : Nat) : Prop := ∀ j, S.testBit j = true → T.testBit j = true
theorem mc_sub_anti {S T : Nat} (h1 : mc_sub S T) (h2 : mc_sub T S) : S = T := by
  apply Nat.eq_of_testBit_eq
  intro j
  have a := h1 j
  have b := h2 j
  cases hs : S.testBit j <;> cases ht : T.testBit j <;> simp_all
def mc_nd (D : Nat → Nat) (S T : Nat) : Nat → Nat
  | 0 => T
  | k + 1 => if S.testBit k = true then mc_nd D S T k ||| D k else mc_nd D S T k
theorem mc_nd_bit {D : Nat → Nat} {S T : Nat} (j : Nat) : ∀ k, (mc_nd D S T k).testBit j = true ↔ (T.testBit j = true ∨ ∃ m, m < k ∧ S.testBit m = true ∧ (D m).testBit j = true)
  | 0 => by simp [mc_nd]
  | k + 1 => by
    have ih := mc_nd_bit (D := D) (S := S) (T := T) j k
    simp only [mc_nd]
    split
    · rename_i hk
      rw [Nat.testBit_or, Bool.or_eq_true, ih]
      constructor
      · rintro ((h | ⟨m, h1, h2, h3⟩) | h)
        · exact Or.inl h
        · exact Or.inr ⟨m, by omega, h2, h3⟩
        · exact Or.inr ⟨k, by omega, hk, h⟩
      · rintro (h | ⟨m, h1, h2, h3⟩)
        · exact Or.inl (Or.inl h)
        · by_cases e : m = k
          · subst e; exact Or.inr h3
          · exact Or.inl (Or.inr ⟨m, by omega, h2, h3⟩)
    · rename_i hk
      rw [ih]
      constructor
      · rintro (h | ⟨m, h1, h2, h3⟩)
        · exact Or.inl h
        · exact Or.inr ⟨m, by omega, h2, h3⟩
      · rintro (h | ⟨m, h1, h2, h3⟩)
        · exact Or.inl h
        · by_cases e : m = k
          · subst e; exact absurd h2 hk
          · exact Or.inr ⟨m, by omega, h2, h3⟩
def mc_itr (n : Nat) (D : Nat → Nat) (S : Nat) : Nat → Nat
  | 0 => S
  | k + 1 => mc_nd D (mc_itr n D S k) (mc_itr n D S k) n
def mc_closed (n : Nat) (D : Nat → Nat) (S : Nat) : Prop := ∀ m, m < n → S.testBit m = true → mc_sub (D m) S
def mc_clo (n : Nat) (D : Nat → Nat) (m S : Nat) : Prop := S.testBit m = true ∧ mc_closed n D S ∧ ∀ T, T.testBit m = true → mc_closed n D T → mc_sub S T
theorem mc_clo_uniq {n : Nat} {D : Nat → Nat} {m S T : Nat} (hS : mc_clo n D m S) (hT : mc_clo n D m T) : S = T := mc_sub_anti (hS.2.2 T hT.1 hT.2.1) (hT.2.2 S hS.1 hS.2.1)
def mc_card (S : Nat) : Nat → Nat
  | 0 => 0
  | k + 1 => mc_card S k + (if S.testBit k = true then 1 else 0)
theorem mc_card_le (S : Nat) : ∀ k, mc_card S k ≤ k
  | 0 => Nat.le_refl 0
  | k + 1 => by
    have := mc_card_le S k
    simp only [mc_card]
    split <;> omega
theorem mc_card_mono {S T : Nat} (h : mc_sub S T) : ∀ k, mc_card S k ≤ mc_card T k
  | 0 => Nat.le_refl 0
  | k + 1 => by
    have := mc_card_mono h k
    have hk := h k
    simp only [mc_card]
    split <;> split <;> simp_all <;> omega
theorem mc_card_lt {S T j : Nat} (h : mc_sub S T) (h1 : S.testBit j = false) (h2 : T.testBit j = true) : ∀ k, j < k → mc_card S k < mc_card T k
  | 0, hj => absurd hj (by omega)
  | k + 1, hj => by
    by_cases e : j = k
    · subst e
      have := mc_card_mono h j
      simp only [mc_card, h1, h2]
      simp
      omega
    · have := mc_card_lt h h1 h2 k (by omega)
      have hk := h k
      simp only [mc_card]
      split <;> split <;> simp_all <;> omega
theorem mc_card_pos {S j : Nat} (h : S.testBit j = true) : ∀ k, j < k → 0 < mc_card S k := by
  intro k hk
  have h0 : mc_card 0 k = 0 := by
    clear hk
    induction k with
    | zero => rfl
    | succ k ih => simp [mc_card, ih]
  have := mc_card_lt (S := 0) (T := S) (fun i hi => by simp at hi) (by simp) h k hk
  omega
theorem mc_itr_sub {n : Nat} {D : Nat → Nat} {S : Nat} (k : Nat) : mc_sub (mc_itr n D S k) (mc_itr n D S (k + 1)) := by
  intro j hj
  exact (mc_nd_bit j n).mpr (Or.inl hj)
theorem mc_itr_in {n : Nat} {D : Nat → Nat} {S : Nat} : ∀ k, mc_sub S (mc_itr n D S k)
  | 0 => fun _ h => h
  | k + 1 => fun j h => mc_itr_sub k j (mc_itr_in k j h)
theorem mc_itr_lt {n : Nat} {D : Nat → Nat} {S : Nat} (hS : ∀ j, S.testBit j = true → j < n) (hD : ∀ m j, (D m).testBit j = true → j < n) : ∀ k j, (mc_itr n D S k).testBit j = true → j < n
  | 0, j, h => hS j h
  | k + 1, j, h => by
    rcases (mc_nd_bit j n).mp h with q | ⟨m, h1, h2, h3⟩
    · exact mc_itr_lt hS hD k j q
    · exact hD m j h3
theorem mc_itr_least {n : Nat} {D : Nat → Nat} {S T : Nat} (hST : mc_sub S T) (hT : mc_closed n D T) : ∀ k, mc_sub (mc_itr n D S k) T
  | 0 => hST
  | k + 1 => fun j h => by
    rcases (mc_nd_bit j n).mp h with q | ⟨m, h1, h2, h3⟩
    · exact mc_itr_least hST hT k j q
    · exact hT m h1 (mc_itr_least hST hT k m h2) j h3
/-- while it isn't closed, it grows -/
theorem mc_itr_grow {n : Nat} {D : Nat → Nat} {S : Nat} (hD : ∀ m j, (D m).testBit j = true → j < n) (k : Nat) : mc_closed n D (mc_itr n D S k) ∨ mc_card (mc_itr n D S k) n < mc_card (mc_itr n D S (k + 1)) n := by
  by_cases hc : mc_closed n D (mc_itr n D S k)
  · exact Or.inl hc
  · right
    unfold mc_closed mc_sub at hc
    simp only [Classical.not_forall] at hc
    obtain ⟨m, hm, hb, j, hj, hn⟩ := hc
    exact mc_card_lt (mc_itr_sub k) (by simpa using hn) ((mc_nd_bit j n).mpr (Or.inr ⟨m, hm, hb, hj⟩)) n (hD m j hj)
theorem mc_itr_stay {n : Nat} {D : Nat → Nat} {S k : Nat} (h : mc_closed n D (mc_itr n D S k)) : mc_itr n D S (k + 1) = mc_itr n D S k := by
  apply mc_sub_anti
  · intro j hj
    rcases (mc_nd_bit j n).mp hj with q | ⟨m, h1, h2, h3⟩
    · exact q
    · exact h m h1 h2 j h3
  · exact mc_itr_sub k
theorem mc_itr_count {n : Nat} {D : Nat → Nat} {S : Nat} (hD : ∀ m j, (D m).testBit j = true → j < n) (h0 : 0 < mc_card S n) : ∀ k, mc_closed n D (mc_itr n D S k) ∨ k < mc_card (mc_itr n D S k) n
  | 0 => Or.inr h0
  | k + 1 => by
    rcases mc_itr_count hD h0 k with h | h
    · left; rw [mc_itr_stay h]; exact h
    · rcases mc_itr_grow (S := S) hD k with q | q
      · left; rw [mc_itr_stay q]; exact q
      · right; omega
theorem mc_itr_clo {n : Nat} {D : Nat → Nat} {m : Nat} (hm : m < n) (hD : ∀ m j, (D m).testBit j = true → j < n) : mc_clo n D m (mc_itr n D (2 ^ m) n) := by
  have hb : (2 ^ m).testBit m = true := Nat.testBit_two_pow_self
  refine ⟨mc_itr_in n m hb, ?_, fun T hT hc => mc_itr_least (fun j hj => ?_) hc n⟩
  · rcases mc_itr_count (S := 2 ^ m) hD (mc_card_pos hb n hm) n with h | h
    · exact h
    · have := mc_card_le (mc_itr n D (2 ^ m) n) n
      omega
  · rw [Nat.testBit_two_pow] at hj
    have : m = j := by simpa using hj
    subst this
    exact hT
end
section
/-! plans: the best set of a year for one who had another set before; the best plan, from the last year back -/
def mc_pick (N : Nat) (ok : Nat → Prop) (t : Nat → Int) (sp : Nat → Nat) (B r : Nat) : Prop :=
  r < N ∧ ok r ∧ mc_sub B r ∧ ∀ S, S < N → ok S → mc_sub B S → t S < t r ∨ (t S = t r ∧ (sp r < sp S ∨ (sp r = sp S ∧ r ≤ S)))
theorem mc_pick_uniq {N : Nat} {ok : Nat → Prop} {t : Nat → Int} {sp : Nat → Nat} {B r r' : Nat} (h : mc_pick N ok t sp B r) (h' : mc_pick N ok t sp B r') : r = r' := by
  obtain ⟨a1, a2, a3, a4⟩ := h
  obtain ⟨b1, b2, b3, b4⟩ := h'
  have x := a4 r' b1 b2 b3
  have y := b4 r a1 a2 a3
  rcases x with x | ⟨x, x | ⟨x, x'⟩⟩ <;> rcases y with y | ⟨y, y | ⟨y, y'⟩⟩ <;> omega
end
section
/-! own rows over the kit: loops, worlds side by side, contracts of methods that only read, that write their world -/
section MK
variable {p : Program} {l : Launch} {e : Env} {R : Room} {s : State} {m : MethodId} {args : Array Value} {below : List Frame} {meth : Method} {c : Code} {cells slots : Nat} {Q : State → Prop}
/-- a loop that writes: at its head a state x of the loop, the heap, the locals -/
theorem lpW {σ : Type} {nL pc : Nat} {st : List Value} (I : σ → Heap → List Loc → Prop) (lv : σ → List (Nat × Value)) (μ : σ → Nat)
    (step : ∀ (x : σ) (H : Heap) (locs : List Loc) (ls : Array Slot), I x H locs → lv_has ls nL (lv x) →
      (∀ (y : σ) (H' : Heap) (locs' : List Loc) (ls' : Array Slot), I y H' locs' → μ y < μ x → lv_has ls' nL (lv y) → W p l e R s m args below meth c H' locs' cells slots Q (F0 m pc ls' st)) →
      W p l e R s m args below meth c H locs cells slots Q (F0 m pc ls st)) :
    ∀ (x : σ) (H : Heap) (locs : List Loc) (ls : Array Slot), I x H locs → lv_has ls nL (lv x) → W p l e R s m args below meth c H locs cells slots Q (F0 m pc ls st) := by
  have h : ∀ (n : Nat) (x : σ) (H : Heap) (locs : List Loc) (ls : Array Slot), μ x < n → I x H locs → lv_has ls nL (lv x) → W p l e R s m args below meth c H locs cells slots Q (F0 m pc ls st) := by
    intro n
    induction n with
    | zero => intro x H locs ls h; exact absurd h (by omega)
    | succ n ih =>
      intro x H locs ls hx hI hl
      exact step x H locs ls hI hl (fun y H' locs' ls' hy hm hl' => ih y H' locs' ls' (by omega) hy hl')
  exact fun x H locs ls hI hl => h (μ x + 1) x H locs ls (by omega) hI hl
/-- a loop that only reads -/
theorem lpR {σ : Type} {nL pc : Nat} {st : List Value} {H : Heap} {locs : List Loc} (I : σ → Prop) (lv : σ → List (Nat × Value)) (μ : σ → Nat)
    (step : ∀ (x : σ) (ls : Array Slot), I x → lv_has ls nL (lv x) →
      (∀ (y : σ) (ls' : Array Slot), I y → μ y < μ x → lv_has ls' nL (lv y) → W p l e R s m args below meth c H locs cells slots Q (F0 m pc ls' st)) →
      W p l e R s m args below meth c H locs cells slots Q (F0 m pc ls st)) :
    ∀ (x : σ) (ls : Array Slot), I x → lv_has ls nL (lv x) → W p l e R s m args below meth c H locs cells slots Q (F0 m pc ls st) := by
  have h : ∀ (n : Nat) (x : σ) (ls : Array Slot), μ x < n → I x → lv_has ls nL (lv x) → W p l e R s m args below meth c H locs cells slots Q (F0 m pc ls st) := by
    intro n
    induction n with
    | zero => intro x ls h; exact absurd h (by omega)
    | succ n ih =>
      intro x ls hx hI hl
      exact step x ls hI hl (fun y ls' hy hm hl' => ih y ls' (by omega) hy hl')
  exact fun x ls hI hl => h (μ x + 1) x ls (by omega) hI hl
end MK
theorem va_P.lft {D : va_G} {cl : List vw_C} {w1 w2 : va_W} {H : Heap} (h : va_P D cl (w1 ++ w2) H) : va_P D cl w1 H := fun k q hk => h k q (by rw [List.getElem?_append_left (List.getElem?_eq_some_iff.mp hk).1]; exact hk)
theorem va_P.rgt {D : va_G} {cl : List vw_C} {w1 w2 : va_W} {H : Heap} (h : va_P D cl (w1 ++ w2) H) : va_P D cl w2 H := fun k q hk => h (w1.length + k) q (by rw [List.getElem?_append_right (by omega), Nat.add_sub_cancel_left]; exact hk)
theorem va_D.lft {A : Nat → Prop} {w1 w2 : va_W} (h : va_D A (w1 ++ w2)) : va_D A w1 := by
  refine ⟨fun i j p q hi hj e => h.1 i j p q ?_ ?_ e, fun k q hk => h.2 k q ?_⟩
  · rw [List.getElem?_append_left (List.getElem?_eq_some_iff.mp hi).1]; exact hi
  · rw [List.getElem?_append_left (List.getElem?_eq_some_iff.mp hj).1]; exact hj
  · rw [List.getElem?_append_left (List.getElem?_eq_some_iff.mp hk).1]; exact hk
theorem va_D.rgt {A : Nat → Prop} {w1 w2 : va_W} (h : va_D A (w1 ++ w2)) : va_D A w2 := by
  have key : ∀ (k : Nat) (q : Nat × va_E), w2[k]? = some q → (w1 ++ w2)[w1.length + k]? = some q := fun k q hk => by rw [List.getElem?_append_right (by omega), Nat.add_sub_cancel_left]; exact hk
  refine ⟨fun i j p q hi hj e => ?_, fun k q hk => h.2 _ q (key k q hk)⟩
  have := h.1 _ _ p q (key i p hi) (key j q hj) e
  omega
/-- apart: no cell of the left world is one of the right one -/
theorem va_D.off {A : Nat → Prop} {w1 w2 : va_W} (h : va_D A (w1 ++ w2)) {i j : Nat} {p q : Nat × va_E} (hi : w1[i]? = some p) (hj : w2[j]? = some q) : p.1 ≠ q.1 := by
  intro e
  have hlt : i < w1.length := (List.getElem?_eq_some_iff.mp hi).1
  have := h.1 i (w1.length + j) p q (by rw [List.getElem?_append_left hlt]; exact hi) (by rw [List.getElem?_append_right (by omega), Nat.add_sub_cancel_left]; exact hj) e
  omega
/-- a callee has changed the left world, and made cells: the right one stands as it was -/
theorem va_jnL {A0 : Nat → Prop} {D : va_G} {cl : List vw_C} {w1 w2 w1' : va_W} {H H1 : Heap} (hP : va_P D cl (w1 ++ w2) H) (hD : va_D A0 (w1 ++ w2))
    (hk : ∀ q : Nat, q < H.size → ¬ va_A w1 H.size q → H1[q]? = H[q]?) (hF : ∀ q, va_A w1 H.size q → A0 q) (hP1 : va_P D cl w1' H1) (hD1 : va_D (va_A w1 H.size) w1') : va_P D cl (w1' ++ w2) H1 ∧ va_D A0 (w1' ++ w2) := by
  have hno : ∀ (k : Nat) (q : Nat × va_E), w2[k]? = some q → ¬ va_A w1 H.size q.1 := by
    intro k q hq hA
    rcases hA with ⟨i, e, hi⟩ | hge
    · exact va_D.off hD hi hq rfl
    · exact absurd (hP.rgt k q hq).lt (by omega)
  refine ⟨hP1.app (hP.rgt.kept (fun k q hq => hk q.1 (hP.rgt k q hq).lt (hno k q hq))), (hD1.weaken (fun k q _ h => hF q.1 h)).app hD.rgt (fun i j p q hi hj e => ?_)⟩
  exact hno j q hj (e ▸ hD1.2 i p hi)
theorem va_jnR {A0 : Nat → Prop} {D : va_G} {cl : List vw_C} {w1 w2 w2' : va_W} {H H1 : Heap} (hP : va_P D cl (w1 ++ w2) H) (hD : va_D A0 (w1 ++ w2))
    (hk : ∀ q : Nat, q < H.size → ¬ va_A w2 H.size q → H1[q]? = H[q]?) (hF : ∀ q, va_A w2 H.size q → A0 q) (hP1 : va_P D cl w2' H1) (hD1 : va_D (va_A w2 H.size) w2') : va_P D cl (w1 ++ w2') H1 ∧ va_D A0 (w1 ++ w2') := by
  have hno : ∀ (k : Nat) (q : Nat × va_E), w1[k]? = some q → ¬ va_A w2 H.size q.1 := by
    intro k q hq hA
    rcases hA with ⟨i, e, hi⟩ | hge
    · exact va_D.off hD hq hi rfl
    · exact absurd (hP.lft k q hq).lt (by omega)
  refine ⟨(hP.lft.kept (fun k q hq => hk q.1 (hP.lft k q hq).lt (hno k q hq))).app hP1, hD.lft.app (hD1.weaken (fun k q _ h => hF q.1 h)) (fun i j p q hi hj e => ?_)⟩
  exact hno i p hi (e ▸ hD1.2 j q hj)
theorem va_freeL {A0 : Nat → Prop} {w1 w2 : va_W} {H0 H : Heap} {locs : List Loc} (hD : va_D A0 (w1 ++ w2)) (hS : va_S A0 H0 H locs) (hA : ∀ q, H0.size ≤ q → A0 q) : ∀ q, va_A w1 H.size q → A0 q := by
  intro q h
  rcases h with ⟨k, e, h⟩ | h
  · exact hD.lft.2 k (q, e) h
  · exact hA q (Nat.le_trans hS.1 h)
theorem va_freeR {A0 : Nat → Prop} {w1 w2 : va_W} {H0 H : Heap} {locs : List Loc} (hD : va_D A0 (w1 ++ w2)) (hS : va_S A0 H0 H locs) (hA : ∀ q, H0.size ≤ q → A0 q) : ∀ q, va_A w2 H.size q → A0 q := by
  intro q h
  rcases h with ⟨k, e, h⟩ | h
  · exact hD.rgt.2 k (q, e) h
  · exact hA q (Nat.le_trans hS.1 h)
/-- what a method that only reads may take as given -/
def roP (D : va_G) (cl : List vw_C) (w : va_W) (tys : List (ClassId × FieldType)) (av : List Value) : Array Value → State → Prop := va_Pc av (fun U => va_P D cl w U.heap ∧ va_K D cl tys U)
theorem roP_blind {D : va_G} {cl : List vw_C} {w : va_W} {tys : List (ClassId × FieldType)} {av : List Value} : FrameBlind (roP D cl w tys av) := fun a U g mk q => by
  obtain ⟨q0, qP, qK⟩ := q
  exact ⟨q0, qP, va_K.moved (u := U) (U := U.calling g mk a) (Vm.Alike.refl U.vm) qK⟩
theorem roP_preS {D : va_G} {cl : List vw_C} {w : va_W} {tys : List (ClassId × FieldType)} {av : List Value} {s : State} {H : Heap} (hP : va_P D cl w H) (hK : va_K D cl tys s) : PreS s H (roP D cl w tys av) av :=
  ⟨roP_blind, fun U hU hW => ⟨rfl, by rw [hU]; exact hP, va_K.moved hW.alike hK⟩⟩
theorem roP_preV {D : va_G} {cl : List vw_C} {w : va_W} {tys : List (ClassId × FieldType)} {As : List Value} {s : State} {H : Heap} {C : vw_C} {b ci q0 : Nat} {fs : List Value} (hP : va_P D cl w H) (hK : va_K D cl tys s) (hc : cl[ci]? = some C) (he : w[q0]? = some (b, .inr (ci, fs))) : PreV s H C.1 b (roP D cl w tys (.ref b :: As)) As :=
  ⟨roP_blind, va_recv hK hP hc he, fun U hU hW => ⟨rfl, by rw [hU]; exact hP, va_K.moved hW.alike hK⟩⟩
/-- a method that writes its world w -/
def wrP (D : va_G) (cl : List vw_C) (w : va_W) (tys : List (ClassId × FieldType)) (sz : Nat) (av : List Value) : Array Value → State → Prop := va_Pc av (fun U => U.heap.size = sz ∧ va_P D cl w U.heap ∧ va_K D cl tys U ∧ va_D (fun _ => True) w)
theorem wrP_blind {D : va_G} {cl : List vw_C} {w : va_W} {tys : List (ClassId × FieldType)} {sz : Nat} {av : List Value} : FrameBlind (wrP D cl w tys sz av) := fun a U g mk q => by
  obtain ⟨q0, q1, qP, qK, qD⟩ := q
  exact ⟨q0, q1, qP, va_K.moved (u := U) (U := U.calling g mk a) (Vm.Alike.refl U.vm) qK, qD⟩
theorem wrP_preS {A : Nat → Prop} {D : va_G} {cl : List vw_C} {w : va_W} {tys : List (ClassId × FieldType)} {av : List Value} {s : State} {H : Heap} (hP : va_P D cl w H) (hK : va_K D cl tys s) (hD : va_D A w) : PreS s H (wrP D cl w tys H.size av) av :=
  ⟨wrP_blind, fun U hU hW => ⟨rfl, by rw [hU], by rw [hU]; exact hP, va_K.moved hW.alike hK, hD.weaken (fun _ _ _ _ => trivial)⟩⟩
theorem wrP_preV {A : Nat → Prop} {D : va_G} {cl : List vw_C} {w : va_W} {tys : List (ClassId × FieldType)} {As : List Value} {s : State} {H : Heap} {C : vw_C} {b ci q0 : Nat} {fs : List Value} (hP : va_P D cl w H) (hK : va_K D cl tys s) (hD : va_D A w) (hc : cl[ci]? = some C) (he : w[q0]? = some (b, .inr (ci, fs))) : PreV s H C.1 b (wrP D cl w tys H.size (.ref b :: As)) As :=
  ⟨wrP_blind, va_recv hK hP hc he, fun U hU hW => ⟨rfl, by rw [hU], by rw [hU]; exact hP, va_K.moved hW.alike hK, hD.weaken (fun _ _ _ _ => trivial)⟩⟩
abbrev wrB (D : va_G) (cl : List vw_C) (w w' : va_W) (tys : List (ClassId × FieldType)) (sz : Nat) (_ : Unit) (t : State) : Prop := va_P D cl w' t.heap ∧ va_K D cl tys t ∧ va_D (va_A w sz) w'
end
