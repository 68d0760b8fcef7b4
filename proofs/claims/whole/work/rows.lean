section
/-! numbers: an Int as an Int32; bits of a set that is told as a number -/
def iI (z : Int) : Int32 := Int32.ofInt z
theorem iI_nat (n : Nat) : iI (n : Int) = nI n := Int32.ofInt_eq_ofNat
theorem iI_toInt {z : Int} (h1 : -2147483648 ≤ z) (h2 : z < 2147483648) : (iI z).toInt = z := Int32.toInt_ofInt_of_le (by omega) (by omega)
theorem iI_add (a b : Int) : iI a + iI b = iI (a + b) := by
  apply Int32.toBitVec.inj
  simp [iI, BitVec.ofInt_add]
theorem iI_sub (a b : Int) : iI a - iI b = iI (a - b) := by
  rw [Int32.sub_eq_add_neg, show iI b = Int32.ofInt b from rfl, Int32.neg_ofInt]
  exact iI_add a (-b)
theorem iI_lt {a b : Int} (ha1 : -2147483648 ≤ a) (ha2 : a < 2147483648) (hb1 : -2147483648 ≤ b) (hb2 : b < 2147483648) : iI a < iI b ↔ a < b := by
  rw [Int32.lt_iff_toInt_lt, iI_toInt ha1 ha2, iI_toInt hb1 hb2]
theorem iI_le {a b : Int} (ha1 : -2147483648 ≤ a) (ha2 : a < 2147483648) (hb1 : -2147483648 ≤ b) (hb2 : b < 2147483648) : iI a ≤ iI b ↔ a ≤ b := by
  rw [Int32.le_iff_toInt_le, iI_toInt ha1 ha2, iI_toInt hb1 hb2]
theorem iI_eq {a b : Int} (ha1 : -2147483648 ≤ a) (ha2 : a < 2147483648) (hb1 : -2147483648 ≤ b) (hb2 : b < 2147483648) : iI a = iI b ↔ a = b := by
  constructor
  · intro h
    have := congrArg Int32.toInt h
    rwa [iI_toInt ha1 ha2, iI_toInt hb1 hb2] at this
  · intro h; rw [h]
theorem iI_self (x : Int32) : iI x.toInt = x := Int32.ofInt_toInt x
theorem iI_bnd (x : Int32) : -2147483648 ≤ x.toInt ∧ x.toInt < 2147483648 := ⟨by have := x.le_toInt; omega, by have := x.toInt_lt; omega⟩
theorem nI_or (a b : Nat) : nI a ||| nI b = nI (a ||| b) := by
  apply Int32.toBitVec.inj
  show BitVec.ofNat 32 a ||| BitVec.ofNat 32 b = BitVec.ofNat 32 (a ||| b)
  exact (BitVec.ofNat_or ..).symm
theorem nI_and (a b : Nat) : nI a &&& nI b = nI (a &&& b) := by
  apply Int32.toBitVec.inj
  show BitVec.ofNat 32 a &&& BitVec.ofNat 32 b = BitVec.ofNat 32 (a &&& b)
  exact (BitVec.ofNat_and ..).symm
theorem nI_xor (a b : Nat) : nI a ^^^ nI b = nI (a ^^^ b) := by
  apply Int32.toBitVec.inj
  show BitVec.ofNat 32 a ^^^ BitVec.ofNat 32 b = BitVec.ofNat 32 (a ^^^ b)
  exact (BitVec.ofNat_xor ..).symm
theorem nI_m1 : (-1 : Int32) = nI 4294967295 := by decide +kernel
theorem nI_sm : ∀ k, k < 32 → ((nI k &&& 31).toBitVec.smod 32).toNat = k := by decide +kernel
/-- 1 << k -/
theorem nI_bit {k : Nat} (h : k < 31) : (1 : Int32) <<< (nI k &&& 31) = nI (2 ^ k) := by
  have h2 : 2 ^ k < 2 ^ 32 := Nat.pow_lt_pow_right (by decide) (by omega)
  have := pk_shlN (n := 1) (nI k &&& 31) k (nI_sm k (by omega)) (by omega)
  rw [Nat.one_mul] at this
  exact this
/-- x << k -/
theorem nI_shl {x k : Nat} (h : k < 32) (hx : x * 2 ^ k < 2 ^ 32) : nI x <<< (nI k &&& 31) = nI (x * 2 ^ k) := pk_shlN (nI k &&& 31) k (nI_sm k h) hx
theorem nI_shr {x k : Nat} (h : k < 32) (hx : x < 2 ^ 31) : nI x >>> (nI k &&& 31) = nI (x / 2 ^ k) := pk_shrN hx (nI k &&& 31) k (nI_sm k h)
/-- (x >> k) & 1 -/
theorem nI_has {x k : Nat} (h : k < 32) (hx : x < 2 ^ 31) : (nI x >>> (nI k &&& 31)) &&& 1 = if x.testBit k then 1 else 0 := by
  rw [nI_shr h hx, show (1 : Int32) = nI 1 from rfl, nI_and, Nat.testBit_eq_decide_div_mod_eq, Nat.and_one_is_mod]
  rcases Nat.mod_two_eq_zero_or_one (x / 2 ^ k) with e | e <;> simp [e] <;> rfl
/-- x & ~y = 0 -/
theorem nI_sub0 {x y : Nat} (hx : x < 2 ^ 31) (hy : y < 2 ^ 31) : (nI x &&& (nI y ^^^ (-1)) = 0) ↔ x &&& y = x := by
  rw [nI_m1, nI_xor, nI_and, show (0 : Int32) = nI 0 from rfl]
  have hle : x &&& (y ^^^ 4294967295) ≤ x := Nat.and_le_left
  rw [nI_eq (by omega) (by omega)]
  constructor
  · intro h
    apply Nat.eq_of_testBit_eq
    intro i
    have hi := congrArg (fun z => z.testBit i) h
    simp only [Nat.testBit_and, Nat.testBit_xor, Nat.zero_testBit] at hi ⊢
    by_cases h31 : i < 32
    · have hf : Nat.testBit 4294967295 i = true := by
        rw [show (4294967295 : Nat) = 2 ^ 32 - 1 from rfl, Nat.testBit_two_pow_sub_one]
        simpa using h31
      rw [hf] at hi
      revert hi
      cases x.testBit i <;> cases y.testBit i <;> simp
    · have : x.testBit i = false := Nat.testBit_lt_two_pow (Nat.lt_of_lt_of_le hx (Nat.pow_le_pow_right (by decide) (by omega)))
      simp [this]
  · intro h
    apply Nat.eq_of_testBit_eq
    intro i
    have hi := congrArg (fun z => z.testBit i) h
    simp only [Nat.testBit_and, Nat.testBit_xor, Nat.zero_testBit] at hi ⊢
    by_cases h31 : i < 32
    · have hf : Nat.testBit 4294967295 i = true := by
        rw [show (4294967295 : Nat) = 2 ^ 32 - 1 from rfl, Nat.testBit_two_pow_sub_one]
        simpa using h31
      rw [hf]
      revert hi
      cases x.testBit i <;> cases y.testBit i <;> simp
    · have : x.testBit i = false := Nat.testBit_lt_two_pow (Nat.lt_of_lt_of_le hx (Nat.pow_le_pow_right (by decide) (by omega)))
      simp [this]
/-- x & ~(1 << k) as a number -/
theorem nI_drop {x k : Nat} (hx : x < 2 ^ 31) (hk : k < 31) : nI x &&& (nI (2 ^ k) ^^^ (-1)) = nI (x &&& (2 ^ k ^^^ 4294967295)) := by
  rw [nI_m1, nI_xor, nI_and]
end
section
/-! what a set costs and gains, whether it is lawful: over numbers -/
def mc_cost (C : Nat → Nat) (S : Nat) : Nat → Nat
  | 0 => 0
  | k + 1 => mc_cost C S k + (if S.testBit k = true then C k else 0)
def mc_bon (b : Nat → Int) (S : Nat) : Nat → Int
  | 0 => 0
  | k + 1 => mc_bon b S k + (if S.testBit k = true then b k else 0)
def mc_gain (G : Nat → Nat) (B : Nat → Nat → Int) (S : Nat) : Nat → Int
  | 0 => 0
  | k + 1 => mc_gain G B S k + (if S.testBit k = true then (G k : Int) + mc_bon (B k) S k else 0)
def mc_law (n : Nat) (X D : Nat → Nat) (S : Nat) : Prop := ∀ m, m < n → S.testBit m = true → X m &&& S = 0 ∧ D m &&& S = D m
/-- the numbers of a house are in their bounds -/
def mc_ok (n : Nat) (C G : Nat → Nat) (X D : Nat → Nat) (B : Nat → Nat → Int) : Prop :=
  n ≤ 12 ∧ (∀ m, m < n → 1 ≤ C m) ∧ (∀ m, C m ≤ 10000) ∧ (∀ m, G m ≤ 10000) ∧ (∀ m, X m < 4096) ∧ (∀ m, D m < 4096) ∧ (∀ i j, -5000 ≤ B i j ∧ B i j ≤ 5000)
theorem mc_cost_le {C : Nat → Nat} {S : Nat} (h : ∀ m, C m ≤ 10000) : ∀ k, mc_cost C S k ≤ 10000 * k
  | 0 => Nat.le_refl 0
  | k + 1 => by
    have := mc_cost_le (S := S) h k
    have h2 := h k
    simp only [mc_cost]
    split <;> omega
theorem mc_bon_le {b : Nat → Int} {S : Nat} (h : ∀ m, -5000 ≤ b m ∧ b m ≤ 5000) : ∀ k : Nat, -5000 * (k : Int) ≤ mc_bon b S k ∧ mc_bon b S k ≤ 5000 * (k : Int)
  | 0 => by simp [mc_bon]
  | k + 1 => by
    have := mc_bon_le (S := S) h k
    have h2 := h k
    simp only [mc_bon]
    split <;> omega
theorem mc_gain_le {G : Nat → Nat} {B : Nat → Nat → Int} {S : Nat} (h : ∀ m, G m ≤ 10000) (hB : ∀ i j, -5000 ≤ B i j ∧ B i j ≤ 5000) : ∀ k : Nat, k ≤ 12 → -70000 * (k : Int) ≤ mc_gain G B S k ∧ mc_gain G B S k ≤ 70000 * (k : Int)
  | 0, _ => by simp [mc_gain]
  | k + 1, hk => by
    have h1 := mc_gain_le (S := S) h hB k (by omega)
    have h2 := h k
    have h3 := mc_bon_le (S := S) (hB k) k
    simp only [mc_gain]
    split <;> omega
/-- sums look at the bits below k alone -/
theorem mc_cost_bits {C : Nat → Nat} {S T : Nat} : ∀ k, (∀ j, j < k → S.testBit j = T.testBit j) → mc_cost C S k = mc_cost C T k
  | 0, _ => rfl
  | k + 1, h => by
    simp only [mc_cost]
    rw [mc_cost_bits k (fun j hj => h j (by omega)), h k (by omega)]
theorem mc_bon_bits {b : Nat → Int} {S T : Nat} : ∀ k, (∀ j, j < k → S.testBit j = T.testBit j) → mc_bon b S k = mc_bon b T k
  | 0, _ => rfl
  | k + 1, h => by
    simp only [mc_bon]
    rw [mc_bon_bits k (fun j hj => h j (by omega)), h k (by omega)]
theorem mc_gain_bits {G : Nat → Nat} {B : Nat → Nat → Int} {S T : Nat} : ∀ k, (∀ j, j < k → S.testBit j = T.testBit j) → mc_gain G B S k = mc_gain G B T k
  | 0, _ => rfl
  | k + 1, h => by
    simp only [mc_gain]
    rw [mc_gain_bits k (fun j hj => h j (by omega)), h k (by omega), mc_bon_bits k (fun j hj => h j (by omega))]
/-- bits above a set's own add nothing -/
theorem mc_hi {S m j : Nat} (hS : S < 2 ^ m) (h : m ≤ j) : S.testBit j = false := Nat.testBit_lt_two_pow (Nat.lt_of_lt_of_le hS (Nat.pow_le_pow_right (by decide) h))
theorem mc_cost_hi {C : Nat → Nat} {S m : Nat} (hS : S < 2 ^ m) : ∀ k, m ≤ k → mc_cost C S k = mc_cost C S m := by
  intro k hk
  induction k with
  | zero => rw [show m = 0 by omega]
  | succ k ih =>
    by_cases e : m = k + 1
    · rw [e]
    · simp only [mc_cost]
      rw [ih (by omega), mc_hi hS (by omega : m ≤ k)]
      simp
theorem mc_bon_hi {b : Nat → Int} {S m : Nat} (hS : S < 2 ^ m) : ∀ k, m ≤ k → mc_bon b S k = mc_bon b S m := by
  intro k hk
  induction k with
  | zero => rw [show m = 0 by omega]
  | succ k ih =>
    by_cases e : m = k + 1
    · rw [e]
    · simp only [mc_bon]
      rw [ih (by omega), mc_hi hS (by omega : m ≤ k)]
      simp
theorem mc_gain_hi {G : Nat → Nat} {B : Nat → Nat → Int} {S m : Nat} (hS : S < 2 ^ m) : ∀ k, m ≤ k → mc_gain G B S k = mc_gain G B S m := by
  intro k hk
  induction k with
  | zero => rw [show m = 0 by omega]
  | succ k ih =>
    by_cases e : m = k + 1
    · rw [e]
    · simp only [mc_gain]
      rw [ih (by omega), mc_hi hS (by omega : m ≤ k)]
      simp
/-- one more measure, above all of the set's -/
theorem mc_top_lo {S m j : Nat} (hj : j < m) : (2 ^ m + S).testBit j = S.testBit j := Nat.testBit_two_pow_add_gt hj S
theorem mc_top_at {S m : Nat} (hS : S < 2 ^ m) : (2 ^ m + S).testBit m = true := by
  rw [Nat.testBit_two_pow_add_eq, Nat.testBit_lt_two_pow hS]; rfl
theorem mc_cost_top {C : Nat → Nat} {S m : Nat} (hS : S < 2 ^ m) : mc_cost C (2 ^ m + S) (m + 1) = mc_cost C S m + C m := by
  simp only [mc_cost]
  rw [mc_cost_bits m (fun j hj => mc_top_lo hj), mc_top_at hS]
  simp
theorem mc_bon_top {b : Nat → Int} {S m : Nat} (hS : S < 2 ^ m) : mc_bon b (2 ^ m + S) (m + 1) = mc_bon b S m + b m := by
  simp only [mc_bon]
  rw [mc_bon_bits m (fun j hj => mc_top_lo hj), mc_top_at hS]
  simp
theorem mc_gain_top {G : Nat → Nat} {B : Nat → Nat → Int} {S m : Nat} (hS : S < 2 ^ m) : mc_gain G B (2 ^ m + S) (m + 1) = mc_gain G B S m + G m + mc_bon (B m) S m := by
  simp only [mc_gain]
  rw [mc_gain_bits m (fun j hj => mc_top_lo hj), mc_top_at hS, mc_bon_bits m (fun j hj => mc_top_lo hj)]
  simp [Int.add_assoc]
/-- the step of addGains: a set with bit m' on top of rest, and measure m above both -/
theorem mc_gain_step {G : Nat → Nat} {B : Nat → Nat → Int} {R m m' : Nat} (hm : m' < m) (hR : R < 2 ^ m') :
    mc_gain G B (2 ^ m + (2 ^ m' + R)) (m + 1) = mc_gain G B (2 ^ m' + R) m + (mc_gain G B (2 ^ m + R) (m + 1) - mc_gain G B R m) + B m m' := by
  have hp : 2 ^ (m' + 1) ≤ 2 ^ m := Nat.pow_le_pow_right (by decide) hm
  have hp1 : 2 ^ (m' + 1) = 2 * 2 ^ m' := by rw [Nat.pow_succ]; omega
  rw [mc_gain_top (show 2 ^ m' + R < 2 ^ m by omega), mc_gain_top (show R < 2 ^ m by omega)]
  have h1 : mc_bon (B m) (2 ^ m' + R) m = mc_bon (B m) R m + B m m' := by
    rw [mc_bon_hi (m := m' + 1) (by omega) m hm, mc_bon_top hR, mc_bon_hi hR m (by omega)]
  rw [h1]
  omega
end
section
/-! the keys of all sets in order, and the merge that adds a measure -/
/-- f holds the N numbers of the kind K, growing -/
def mc_ord (N : Nat) (K : Nat → Nat) (f : Nat → Nat) : Prop :=
  (∀ i j, i < j → j < N → f i < f j) ∧ (∀ S, S < N → ∃ i, i < N ∧ f i = K S) ∧ (∀ i, i < N → ∃ S, S < N ∧ f i = K S)
/-- a merge under way: of the plain ones p, of the raised ones r are still to be laid; from p + r on the upper ones lie -/
def mc_mrg (N a p r : Nat) (f g : Nat → Nat) : Prop :=
  r ≤ p ∧ p ≤ N ∧ r ≤ N ∧ (∀ i, i < p → g i = f i) ∧ (∀ i j, p + r ≤ i → i < j → j < 2 * N → g i < g j) ∧
  (∀ j, p ≤ j → j < N → ∃ i, p + r ≤ i ∧ i < 2 * N ∧ g i = f j) ∧ (∀ j, r ≤ j → j < N → ∃ i, p + r ≤ i ∧ i < 2 * N ∧ g i = f j + a) ∧
  (∀ i, p + r ≤ i → i < 2 * N → (∃ j, p ≤ j ∧ j < N ∧ g i = f j) ∨ ∃ j, r ≤ j ∧ j < N ∧ g i = f j + a) ∧
  (∀ i j, p + r ≤ i → i < 2 * N → j < p → f j < g i) ∧ (∀ i j, p + r ≤ i → i < 2 * N → j < r → f j + a < g i)
theorem mc_mrg_0 {N a : Nat} {f : Nat → Nat} : mc_mrg N a N N f f := by
  refine ⟨Nat.le_refl _, Nat.le_refl _, Nat.le_refl _, fun _ _ => rfl, fun i j h1 h2 h3 => absurd h3 (by omega), fun j h1 h2 => absurd h2 (by omega), fun j h1 h2 => absurd h2 (by omega), fun i h1 h2 => absurd h2 (by omega), fun i j h1 h2 => absurd h2 (by omega), fun i j h1 h2 => absurd h2 (by omega)⟩
/-- the raised one is the larger -/
theorem mc_mrg_r {N a p r : Nat} {f g g' : Nat → Nat} (ho : ∀ i j, i < j → j < N → f i < f j) (h : mc_mrg N a p (r + 1) f g) (hp : 0 < p) (hc : f (p - 1) < f r + a) (hg : ∀ i, i ≠ p + r → g' i = g i) (hv : g' (p + r) = f r + a) : mc_mrg N a p r f g' := by
  obtain ⟨h1, h2, h3, h4, h5, h6, h7, h8, h9, h10⟩ := h
  have hmono : ∀ i j, i ≤ j → j < N → f i ≤ f j := fun i j hij hj => by
    rcases Nat.lt_or_ge i j with q | q
    · exact Nat.le_of_lt (ho i j q hj)
    · rw [show i = j by omega]; exact Nat.le_refl _
  refine ⟨by omega, h2, by omega, fun i hi => by rw [hg i (by omega)]; exact h4 i hi, ?_, ?_, ?_, ?_, ?_, ?_⟩
  · intro i j hi hij hj
    rw [hg j (by omega)]
    by_cases e : i = p + r
    · subst e
      rw [hv]
      exact h10 j r (by omega) hj (by omega)
    · rw [hg i e]
      exact h5 i j (by omega) hij hj
  · intro j hj1 hj2
    obtain ⟨i, i1, i2, i3⟩ := h6 j hj1 hj2
    exact ⟨i, by omega, i2, by rw [hg i (by omega)]; exact i3⟩
  · intro j hj1 hj2
    by_cases e : j = r
    · subst e
      exact ⟨p + j, by omega, by omega, hv⟩
    · obtain ⟨i, i1, i2, i3⟩ := h7 j (by omega) hj2
      exact ⟨i, by omega, i2, by rw [hg i (by omega)]; exact i3⟩
  · intro i hi1 hi2
    by_cases e : i = p + r
    · subst e
      exact Or.inr ⟨r, by omega, by omega, hv⟩
    · rw [hg i e]
      rcases h8 i (by omega) hi2 with ⟨j, j1, j2, j3⟩ | ⟨j, j1, j2, j3⟩
      · exact Or.inl ⟨j, j1, j2, j3⟩
      · exact Or.inr ⟨j, by omega, j2, j3⟩
  · intro i j hi1 hi2 hj
    by_cases e : i = p + r
    · subst e
      rw [hv]
      exact Nat.lt_of_le_of_lt (hmono j (p - 1) (by omega) (by omega)) hc
    · rw [hg i e]
      exact h9 i j (by omega) hi2 hj
  · intro i j hi1 hi2 hj
    by_cases e : i = p + r
    · subst e
      rw [hv]
      exact Nat.add_lt_add_right (ho j r hj (by omega)) a
    · rw [hg i e]
      exact h10 i j (by omega) hi2 (by omega)
/-- the plain one is the larger -/
theorem mc_mrg_p {N a p r : Nat} {f g g' : Nat → Nat} (ho : ∀ i j, i < j → j < N → f i < f j) (ha : 0 < a) (hne : ∀ i j, i < N → j < N → f i + a ≠ f j) (h : mc_mrg N a (p + 1) (r + 1) f g) (hc : ¬ f p < f r + a) (hg : ∀ i, i ≠ p + r + 1 → g' i = g i) (hv : g' (p + r + 1) = f p) : mc_mrg N a p (r + 1) f g' := by
  obtain ⟨h1, h2, h3, h4, h5, h6, h7, h8, h9, h10⟩ := h
  have hmono : ∀ i j, i ≤ j → j < N → f i ≤ f j := fun i j hij hj => by
    rcases Nat.lt_or_ge i j with q | q
    · exact Nat.le_of_lt (ho i j q hj)
    · rw [show i = j by omega]; exact Nat.le_refl _
  have hlt : f r + a < f p := by
    have := hne r p (by omega) (by omega)
    omega
  have hrp : r < p := by
    rcases Nat.lt_or_ge r p with q | q
    · exact q
    · have := hmono p r q (by omega)
      omega
  refine ⟨by omega, by omega, h3, fun i hi => by rw [hg i (by omega)]; exact h4 i (by omega), ?_, ?_, ?_, ?_, ?_, ?_⟩
  · intro i j hi hij hj
    rw [hg j (by omega)]
    by_cases e : i = p + r + 1
    · subst e
      rw [hv]
      exact h9 j p (by omega) hj (by omega)
    · rw [hg i e]
      exact h5 i j (by omega) hij hj
  · intro j hj1 hj2
    by_cases e : j = p
    · subst e
      exact ⟨j + r + 1, by omega, by omega, hv⟩
    · obtain ⟨i, i1, i2, i3⟩ := h6 j (by omega) hj2
      exact ⟨i, by omega, i2, by rw [hg i (by omega)]; exact i3⟩
  · intro j hj1 hj2
    obtain ⟨i, i1, i2, i3⟩ := h7 j hj1 hj2
    exact ⟨i, by omega, i2, by rw [hg i (by omega)]; exact i3⟩
  · intro i hi1 hi2
    by_cases e : i = p + r + 1
    · subst e
      exact Or.inl ⟨p, by omega, by omega, hv⟩
    · rw [hg i e]
      rcases h8 i (by omega) hi2 with ⟨j, j1, j2, j3⟩ | ⟨j, j1, j2, j3⟩
      · exact Or.inl ⟨j, by omega, j2, j3⟩
      · exact Or.inr ⟨j, j1, j2, j3⟩
  · intro i j hi1 hi2 hj
    by_cases e : i = p + r + 1
    · subst e
      rw [hv]
      exact ho j p hj (by omega)
    · rw [hg i e]
      exact h9 i j (by omega) hi2 (by omega)
  · intro i j hi1 hi2 hj
    by_cases e : i = p + r + 1
    · subst e
      rw [hv]
      exact Nat.lt_of_le_of_lt (Nat.add_le_add_right (hmono j r (by omega) (by omega)) a) hlt
    · rw [hg i e]
      exact h10 i j (by omega) hi2 hj
/-- the merge's end -/
theorem mc_mrg_end {N a p : Nat} {K K' f g : Nat → Nat} (hf : mc_ord N K f) (h : mc_mrg N a p 0 f g) (hK0 : ∀ S, S < N → K' S = K S) (hK1 : ∀ S, S < N → K' (N + S) = K S + a) : mc_ord (2 * N) K' g := by
  obtain ⟨h1, h2, h3, h4, h5, h6, h7, h8, h9, h10⟩ := h
  obtain ⟨o1, o2, o3⟩ := hf
  refine ⟨?_, ?_, ?_⟩
  · intro i j hij hj
    by_cases hjp : j < p
    · rw [h4 i (by omega), h4 j hjp]
      exact o1 i j hij (by omega)
    · by_cases hip : i < p
      · rw [h4 i hip]
        exact h9 j i (by omega) hj hip
      · exact h5 i j (by omega) hij hj
  · intro S hS
    by_cases hlo : S < N
    · obtain ⟨i, i1, i2⟩ := o2 S hlo
      rw [hK0 S hlo]
      by_cases hip : i < p
      · exact ⟨i, by omega, by rw [h4 i hip]; exact i2⟩
      · obtain ⟨k, k1, k2, k3⟩ := h6 i (by omega) i1
        exact ⟨k, k2, by rw [k3]; exact i2⟩
    · obtain ⟨i, i1, i2⟩ := o2 (S - N) (by omega)
      obtain ⟨k, k1, k2, k3⟩ := h7 i (by omega) i1
      refine ⟨k, k2, ?_⟩
      rw [k3, i2, ← hK1 (S - N) (by omega)]
      congr 1
      omega
  · intro i hi
    by_cases hip : i < p
    · obtain ⟨S, s1, s2⟩ := o3 i (by omega)
      exact ⟨S, by omega, by rw [h4 i hip, hK0 S s1]; exact s2⟩
    · rcases h8 i (by omega) hi with ⟨j, j1, j2, j3⟩ | ⟨j, j1, j2, j3⟩
      · obtain ⟨S, s1, s2⟩ := o3 j j2
        exact ⟨S, by omega, by rw [j3, hK0 S s1]; exact s2⟩
      · obtain ⟨S, s1, s2⟩ := o3 j j2
        exact ⟨N + S, by omega, by rw [j3, hK1 S s1, s2]⟩
/-! the sets that none beats, by cost: a ladder over those sets that have been looked at -/
def mc_key (c : Nat → Nat) (S : Nat) : Nat := c S * 4096 + S
def mc_lad (Pr : Nat → Prop) (c : Nat → Nat) (g : Nat → Int) (L : Nat → Prop) (R : Nat) (u : Nat → Nat) : Prop :=
  0 < R ∧ (∀ i j, i < j → j < R → c (u i) < c (u j) ∧ g (u i) < g (u j)) ∧ (∀ i, i < R → Pr (u i) ∧ L (u i)) ∧
  (∀ S, Pr S → L S → ∃ i, i < R ∧ c (u i) ≤ c S ∧ (g S < g (u i) ∨ (g S = g (u i) ∧ mc_key c (u i) ≤ mc_key c S)))
theorem mc_lad_0 {Pr : Nat → Prop} {c : Nat → Nat} {g : Nat → Int} {L : Nat → Prop} {u : Nat → Nat} (hu : Pr (u 0)) (hL : L (u 0)) (h : ∀ S, Pr S → S = u 0) : mc_lad Pr c g L 1 u := by
  refine ⟨by omega, fun i j h1 h2 => absurd h1 (by omega), fun i hi => ?_, fun S hS _ => ⟨0, by omega, ?_, Or.inr ?_⟩⟩
  · rw [show i = 0 by omega]; exact ⟨hu, hL⟩
  · rw [h S hS]; exact Nat.le_refl _
  · rw [h S hS]; exact ⟨rfl, Nat.le_refl _⟩
theorem mc_key_le {c : Nat → Nat} {S T : Nat} (h : mc_key c S < mc_key c T) (hT : T < 4096) : c S ≤ c T := by
  unfold mc_key at h
  omega
theorem mc_lad_skip {Pr Pr' : Nat → Prop} {c : Nat → Nat} {g : Nat → Int} {L : Nat → Prop} {R T : Nat} {u : Nat → Nat} (h : mc_lad Pr c g L R u) (hp : ∀ S, Pr' S ↔ Pr S ∨ S = T) (hk : ∀ S, Pr S → mc_key c S < mc_key c T) (hT : T < 4096)
    (hs : L T → g T ≤ g (u (R - 1))) : mc_lad Pr' c g L R u := by
  obtain ⟨h1, h2, h3, h4⟩ := h
  refine ⟨h1, h2, fun i hi => ⟨(hp _).mpr (Or.inl (h3 i hi).1), (h3 i hi).2⟩, fun S hS hL => ?_⟩
  rcases (hp S).mp hS with q | q
  · exact h4 S q hL
  · subst q
    have hkk := hk _ (h3 (R - 1) (by omega)).1
    refine ⟨R - 1, by omega, mc_key_le hkk hT, ?_⟩
    have := hs hL
    rcases Int.lt_or_eq_of_le this with q | q
    · exact Or.inl q
    · exact Or.inr ⟨q, Nat.le_of_lt hkk⟩
theorem mc_lad_push {Pr Pr' : Nat → Prop} {c : Nat → Nat} {g : Nat → Int} {L : Nat → Prop} {R T : Nat} {u u' : Nat → Nat} (h : mc_lad Pr c g L R u) (hp : ∀ S, Pr' S ↔ Pr S ∨ S = T) (hL : L T) (hg : g (u (R - 1)) < g T) (hc : c (u (R - 1)) < c T)
    (hu : ∀ i, i < R → u' i = u i) (hv : u' R = T) : mc_lad Pr' c g L (R + 1) u' := by
  obtain ⟨h1, h2, h3, h4⟩ := h
  refine ⟨by omega, fun i j hij hj => ?_, fun i hi => ?_, fun S hS hLS => ?_⟩
  · rw [hu i (by omega)]
    by_cases e : j = R
    · subst e
      rw [hv]
      by_cases e2 : i = j - 1
      · subst e2; exact ⟨hc, hg⟩
      · have := h2 i (j - 1) (by omega) (by omega)
        exact ⟨by omega, by omega⟩
    · rw [hu j (by omega)]
      exact h2 i j hij (by omega)
  · by_cases e : i = R
    · subst e
      rw [hv]
      exact ⟨(hp T).mpr (Or.inr rfl), hL⟩
    · rw [hu i (by omega)]
      exact ⟨(hp _).mpr (Or.inl (h3 i (by omega)).1), (h3 i (by omega)).2⟩
  · rcases (hp S).mp hS with q | q
    · obtain ⟨i, i1, i2, i3⟩ := h4 S q hLS
      exact ⟨i, by omega, by rw [hu i i1]; exact i2, by rw [hu i i1]; exact i3⟩
    · subst q
      exact ⟨R, by omega, by rw [hv]; exact Nat.le_refl _, Or.inr ⟨by rw [hv], by rw [hv]; exact Nat.le_refl _⟩⟩
theorem mc_lad_top {Pr Pr' : Nat → Prop} {c : Nat → Nat} {g : Nat → Int} {L : Nat → Prop} {R T : Nat} {u u' : Nat → Nat} (h : mc_lad Pr c g L R u) (hp : ∀ S, Pr' S ↔ Pr S ∨ S = T) (hk : ∀ S, Pr S → mc_key c S < mc_key c T) (hT : T < 4096) (hL : L T) (hg : g (u (R - 1)) < g T) (hc : ¬ c (u (R - 1)) < c T)
    (hu : ∀ i, i < R - 1 → u' i = u i) (hv : u' (R - 1) = T) : mc_lad Pr' c g L R u' := by
  obtain ⟨h1, h2, h3, h4⟩ := h
  have hce : c (u (R - 1)) = c T := by
    have := mc_key_le (hk _ (h3 (R - 1) (by omega)).1) hT
    omega
  refine ⟨h1, fun i j hij hj => ?_, fun i hi => ?_, fun S hS hLS => ?_⟩
  · rw [hu i (by omega)]
    have := h2 i j hij hj
    by_cases e : j = R - 1
    · subst e
      rw [hv]
      exact ⟨by omega, by omega⟩
    · rw [hu j (by omega)]
      exact this
  · by_cases e : i = R - 1
    · subst e
      rw [hv]
      exact ⟨(hp T).mpr (Or.inr rfl), hL⟩
    · rw [hu i (by omega)]
      exact ⟨(hp _).mpr (Or.inl (h3 i (by omega)).1), (h3 i (by omega)).2⟩
  · rcases (hp S).mp hS with q | q
    · obtain ⟨i, i1, i2, i3⟩ := h4 S q hLS
      by_cases e : i = R - 1
      · subst e
        refine ⟨R - 1, by omega, by rw [hv]; omega, Or.inl ?_⟩
        rw [hv]
        rcases i3 with k | k <;> omega
      · exact ⟨i, by omega, by rw [hu i (by omega)]; exact i2, by rw [hu i (by omega)]; exact i3⟩
    · subst q
      exact ⟨R - 1, by omega, by rw [hv]; exact Nat.le_refl _, Or.inr ⟨by rw [hv], by rw [hv]; exact Nat.le_refl _⟩⟩
/-- the highest rung that a budget pays is the best set for it -/
theorem mc_lad_best {Pr : Nat → Prop} {c : Nat → Nat} {g : Nat → Int} {L : Nat → Prop} {R : Nat} {u : Nat → Nat} (h : mc_lad Pr c g L R u) {b r : Nat} (hr : r < R) (hn : ∀ j, r < j → j < R → b < c (u j)) {S : Nat} (hS : Pr S) (hL : L S) (hb : c S ≤ b) :
    g S < g (u r) ∨ (g S = g (u r) ∧ mc_key c (u r) ≤ mc_key c S) := by
  obtain ⟨h1, h2, h3, h4⟩ := h
  obtain ⟨i, i1, i2, i3⟩ := h4 S hS hL
  rcases Nat.lt_trichotomy i r with q | q | q
  · have := (h2 i r q hr).2
    left
    rcases i3 with k | k <;> omega
  · subst q; exact i3
  · have := hn i q i1
    omega
/-- the lowest rung with a gain has the least cost for it -/
theorem mc_lad_bud {Pr : Nat → Prop} {c : Nat → Nat} {g : Nat → Int} {L : Nat → Prop} {R : Nat} {u : Nat → Nat} (h : mc_lad Pr c g L R u) {z : Int} {r : Nat} (hr : r < R) (hn : ∀ j, j < r → g (u j) < z) {S : Nat} (hS : Pr S) (hL : L S) (hz : z ≤ g S) : c (u r) ≤ c S := by
  obtain ⟨h1, h2, h3, h4⟩ := h
  obtain ⟨i, i1, i2, i3⟩ := h4 S hS hL
  rcases Nat.lt_trichotomy i r with q | q | q
  · have := hn i q
    rcases i3 with k | k <;> omega
  · subst q; exact i2
  · have := (h2 r i q i1).1
    omega
theorem mc_lad_none {Pr : Nat → Prop} {c : Nat → Nat} {g : Nat → Int} {L : Nat → Prop} {R : Nat} {u : Nat → Nat} (h : mc_lad Pr c g L R u) {z : Int} (hn : ∀ j, j < R → g (u j) < z) {S : Nat} (hS : Pr S) (hL : L S) : g S < z := by
  obtain ⟨i, i1, i2, i3⟩ := h.2.2.2 S hS hL
  have := hn i i1
  rcases i3 with k | k <;> omega
/-- T beats S -/
def mc_beats (c : Nat → Nat) (g : Nat → Int) (T S : Nat) : Prop := g S ≤ g T ∧ c T ≤ c S ∧ ¬ (g T = g S ∧ c T = c S)
/-- S is lawful, no lawful set beats it -/
def mc_unb (Pr : Nat → Prop) (c : Nat → Nat) (g : Nat → Int) (L : Nat → Prop) (S : Nat) : Prop := Pr S ∧ L S ∧ ∀ T, Pr T → L T → ¬ mc_beats c g T S
/-- .. and it is the least of its cost -/
def mc_fr (Pr : Nat → Prop) (c : Nat → Nat) (g : Nat → Int) (L : Nat → Prop) (S : Nat) : Prop := mc_unb Pr c g L S ∧ ∀ T, mc_unb Pr c g L T → c T = c S → S ≤ T
theorem mc_lad_fr {Pr : Nat → Prop} {c : Nat → Nat} {g : Nat → Int} {L : Nat → Prop} {R : Nat} {u : Nat → Nat} (h : mc_lad Pr c g L R u) (i : Nat) (hi : i < R) : mc_fr Pr c g L (u i) := by
  obtain ⟨h1, h2, h3, h4⟩ := h
  have key : ∀ T, Pr T → L T → g (u i) ≤ g T → c T ≤ c (u i) → (g T = g (u i) ∧ c T = c (u i) ∧ mc_key c (u i) ≤ mc_key c T) := by
    intro T hT hL hg hc
    obtain ⟨j, j1, j2, j3⟩ := h4 T hT hL
    rcases Nat.lt_trichotomy i j with q | q | q
    · have := (h2 i j q j1).1
      omega
    · subst q
      rcases j3 with k | k
      · omega
      · exact ⟨k.1, by omega, k.2⟩
    · have := (h2 j i q hi).2
      rcases j3 with k | k <;> omega
  refine ⟨⟨(h3 i hi).1, (h3 i hi).2, fun T hT hL hb => ?_⟩, fun T hT hc => ?_⟩
  · obtain ⟨b1, b2, b3⟩ := hb
    have := key T hT hL b1 b2
    exact b3 ⟨this.1, this.2.1⟩
  · obtain ⟨t1, t2, t3⟩ := hT
    have hn := t3 (u i) (h3 i hi).1 (h3 i hi).2
    unfold mc_beats at hn
    have hg : g (u i) ≤ g T := by
      rcases Int.lt_or_le (g T) (g (u i)) with q | q
      · exact absurd ⟨by omega, by omega, fun z => by omega⟩ hn
      · exact q
    have := (key T t1 t2 hg (by omega)).2.2
    unfold mc_key at this
    omega
theorem mc_fr_lad {Pr : Nat → Prop} {c : Nat → Nat} {g : Nat → Int} {L : Nat → Prop} {R : Nat} {u : Nat → Nat} (h : mc_lad Pr c g L R u) {S : Nat} (hS : mc_fr Pr c g L S) : ∃ i, i < R ∧ u i = S := by
  obtain ⟨⟨s1, s2, s3⟩, s4⟩ := hS
  obtain ⟨i, i1, i2, i3⟩ := h.2.2.2 S s1 s2
  refine ⟨i, i1, ?_⟩
  have hn := s3 (u i) (h.2.2.1 i i1).1 (h.2.2.1 i i1).2
  unfold mc_beats at hn
  have hge : g S ≤ g (u i) := by rcases i3 with k | k <;> omega
  have he : g (u i) = g S ∧ c (u i) = c S := by
    by_cases e : g (u i) = g S ∧ c (u i) = c S
    · exact e
    · exact absurd ⟨hge, i2, e⟩ hn
  have hf := mc_lad_fr h i i1
  have h5 := hf.2 S ⟨s1, s2, s3⟩ he.2.symm
  have h6 := s4 (u i) hf.1 he.2
  omega
end
section
/-! what a measure brings with it -/
def mc_sub (S T : Nat) : Prop := ∀ j, S.testBit j = true → T.testBit j = true
theorem mc_sub_anti {S T : Nat} (h1 : mc_sub S T) (h2 : mc_sub T S) : S = T := by
  apply Nat.eq_of_testBit_eq
  intro j
  have a := h1 j
  have b := h2 j
  cases hs : S.testBit j <;> cases ht : T.testBit j <;> simp_all
def mc_nd (D : Nat → Nat) (S T : Nat) : Nat → Nat
  | 0 => T
  | k + 1 => if S.testBit k = true then mc_nd D S T k ||| D k else mc_nd D S T k
theorem mc_nd_bit {D : Nat → Nat} {S T : Nat} (j : Nat) : ∀ k, (mc_nd D S T k).testBit j = true ↔ (T.testBit j = true ∨ ∃ m, m < k ∧ S.testBit m = true ∧ (D m).testBit j = true)
  | 0 => by simp [mc_nd]
  | k + 1 => by
    have ih := mc_nd_bit (D := D) (S := S) (T := T) j k
    simp only [mc_nd]
    split
    · rename_i hk
      rw [Nat.testBit_or, Bool.or_eq_true, ih]
      constructor
      · rintro ((h | ⟨m, h1, h2, h3⟩) | h)
        · exact Or.inl h
        · exact Or.inr ⟨m, by omega, h2, h3⟩
        · exact Or.inr ⟨k, by omega, hk, h⟩
      · rintro (h | ⟨m, h1, h2, h3⟩)
        · exact Or.inl (Or.inl h)
        · by_cases e : m = k
          · subst e; exact Or.inr h3
          · exact Or.inl (Or.inr ⟨m, by omega, h2, h3⟩)
    · rename_i hk
      rw [ih]
      constructor
      · rintro (h | ⟨m, h1, h2, h3⟩)
        · exact Or.inl h
        · exact Or.inr ⟨m, by omega, h2, h3⟩
      · rintro (h | ⟨m, h1, h2, h3⟩)
        · exact Or.inl h
        · by_cases e : m = k
          · subst e; exact absurd h2 hk
          · exact Or.inr ⟨m, by omega, h2, h3⟩
def mc_itr (n : Nat) (D : Nat → Nat) (S : Nat) : Nat → Nat
  | 0 => S
  | k + 1 => mc_nd D (mc_itr n D S k) (mc_itr n D S k) n
def mc_closed (n : Nat) (D : Nat → Nat) (S : Nat) : Prop := ∀ m, m < n → S.testBit m = true → mc_sub (D m) S
def mc_clo (n : Nat) (D : Nat → Nat) (m S : Nat) : Prop := S.testBit m = true ∧ mc_closed n D S ∧ ∀ T, T.testBit m = true → mc_closed n D T → mc_sub S T
theorem mc_clo_uniq {n : Nat} {D : Nat → Nat} {m S T : Nat} (hS : mc_clo n D m S) (hT : mc_clo n D m T) : S = T := mc_sub_anti (hS.2.2 T hT.1 hT.2.1) (hT.2.2 S hS.1 hS.2.1)
def mc_card (S : Nat) : Nat → Nat
  | 0 => 0
  | k + 1 => mc_card S k + (if S.testBit k = true then 1 else 0)
theorem mc_card_le (S : Nat) : ∀ k, mc_card S k ≤ k
  | 0 => Nat.le_refl 0
  | k + 1 => by
    have := mc_card_le S k
    simp only [mc_card]
    split <;> omega
theorem mc_card_mono {S T : Nat} (h : mc_sub S T) : ∀ k, mc_card S k ≤ mc_card T k
  | 0 => Nat.le_refl 0
  | k + 1 => by
    have := mc_card_mono h k
    have hk := h k
    simp only [mc_card]
    split <;> split <;> simp_all <;> omega
theorem mc_card_lt {S T j : Nat} (h : mc_sub S T) (h1 : S.testBit j = false) (h2 : T.testBit j = true) : ∀ k, j < k → mc_card S k < mc_card T k
  | 0, hj => absurd hj (by omega)
  | k + 1, hj => by
    by_cases e : j = k
    · subst e
      have := mc_card_mono h j
      simp only [mc_card, h1, h2]
      simp
      omega
    · have := mc_card_lt h h1 h2 k (by omega)
      have hk := h k
      simp only [mc_card]
      split <;> split <;> simp_all <;> omega
theorem mc_card_pos {S j : Nat} (h : S.testBit j = true) : ∀ k, j < k → 0 < mc_card S k := by
  intro k hk
  have h0 : mc_card 0 k = 0 := by
    clear hk
    induction k with
    | zero => rfl
    | succ k ih => simp [mc_card, ih]
  have := mc_card_lt (S := 0) (T := S) (fun i hi => by simp at hi) (by simp) h k hk
  omega
theorem mc_itr_sub {n : Nat} {D : Nat → Nat} {S : Nat} (k : Nat) : mc_sub (mc_itr n D S k) (mc_itr n D S (k + 1)) := by
  intro j hj
  exact (mc_nd_bit j n).mpr (Or.inl hj)
theorem mc_itr_in {n : Nat} {D : Nat → Nat} {S : Nat} : ∀ k, mc_sub S (mc_itr n D S k)
  | 0 => fun _ h => h
  | k + 1 => fun j h => mc_itr_sub k j (mc_itr_in k j h)
theorem mc_itr_lt {n : Nat} {D : Nat → Nat} {S : Nat} (hS : ∀ j, S.testBit j = true → j < n) (hD : ∀ m j, (D m).testBit j = true → j < n) : ∀ k j, (mc_itr n D S k).testBit j = true → j < n
  | 0, j, h => hS j h
  | k + 1, j, h => by
    rcases (mc_nd_bit j n).mp h with q | ⟨m, h1, h2, h3⟩
    · exact mc_itr_lt hS hD k j q
    · exact hD m j h3
theorem mc_itr_least {n : Nat} {D : Nat → Nat} {S T : Nat} (hST : mc_sub S T) (hT : mc_closed n D T) : ∀ k, mc_sub (mc_itr n D S k) T
  | 0 => hST
  | k + 1 => fun j h => by
    rcases (mc_nd_bit j n).mp h with q | ⟨m, h1, h2, h3⟩
    · exact mc_itr_least hST hT k j q
    · exact hT m h1 (mc_itr_least hST hT k m h2) j h3
/-- while it isn't closed, it grows -/
theorem mc_itr_grow {n : Nat} {D : Nat → Nat} {S : Nat} (hD : ∀ m j, (D m).testBit j = true → j < n) (k : Nat) : mc_closed n D (mc_itr n D S k) ∨ mc_card (mc_itr n D S k) n < mc_card (mc_itr n D S (k + 1)) n := by
  by_cases hc : mc_closed n D (mc_itr n D S k)
  · exact Or.inl hc
  · right
    unfold mc_closed mc_sub at hc
    simp only [Classical.not_forall] at hc
    obtain ⟨m, hm, hb, j, hj, hn⟩ := hc
    exact mc_card_lt (mc_itr_sub k) (by simpa using hn) ((mc_nd_bit j n).mpr (Or.inr ⟨m, hm, hb, hj⟩)) n (hD m j hj)
theorem mc_itr_stay {n : Nat} {D : Nat → Nat} {S k : Nat} (h : mc_closed n D (mc_itr n D S k)) : mc_itr n D S (k + 1) = mc_itr n D S k := by
  apply mc_sub_anti
  · intro j hj
    rcases (mc_nd_bit j n).mp hj with q | ⟨m, h1, h2, h3⟩
    · exact q
    · exact h m h1 h2 j h3
  · exact mc_itr_sub k
theorem mc_itr_count {n : Nat} {D : Nat → Nat} {S : Nat} (hD : ∀ m j, (D m).testBit j = true → j < n) (h0 : 0 < mc_card S n) : ∀ k, mc_closed n D (mc_itr n D S k) ∨ k < mc_card (mc_itr n D S k) n
  | 0 => Or.inr h0
  | k + 1 => by
    rcases mc_itr_count hD h0 k with h | h
    · left; rw [mc_itr_stay h]; exact h
    · rcases mc_itr_grow (S := S) hD k with q | q
      · left; rw [mc_itr_stay q]; exact q
      · right; omega
theorem mc_itr_clo {n : Nat} {D : Nat → Nat} {m : Nat} (hm : m < n) (hD : ∀ m j, (D m).testBit j = true → j < n) : mc_clo n D m (mc_itr n D (2 ^ m) n) := by
  have hb : (2 ^ m).testBit m = true := Nat.testBit_two_pow_self
  refine ⟨mc_itr_in n m hb, ?_, fun T hT hc => mc_itr_least (fun j hj => ?_) hc n⟩
  · rcases mc_itr_count (S := 2 ^ m) hD (mc_card_pos hb n hm) n with h | h
    · exact h
    · have := mc_card_le (mc_itr n D (2 ^ m) n) n
      omega
  · rw [Nat.testBit_two_pow] at hj
    have : m = j := by simpa using hj
    subst this
    exact hT
end
section
/-! plans: the best set of a year for one who had another set before; the best plan, from the last year back -/
def mc_pick (N : Nat) (ok : Nat → Prop) (t : Nat → Int) (sp : Nat → Nat) (B r : Nat) : Prop :=
  r < N ∧ ok r ∧ mc_sub B r ∧ ∀ S, S < N → ok S → mc_sub B S → t S < t r ∨ (t S = t r ∧ (sp r < sp S ∨ (sp r = sp S ∧ r ≤ S)))
theorem mc_pick_uniq {N : Nat} {ok : Nat → Prop} {t : Nat → Int} {sp : Nat → Nat} {B r r' : Nat} (h : mc_pick N ok t sp B r) (h' : mc_pick N ok t sp B r') : r = r' := by
  obtain ⟨a1, a2, a3, a4⟩ := h
  obtain ⟨b1, b2, b3, b4⟩ := h'
  have x := a4 r' b1 b2 b3
  have y := b4 r a1 a2 a3
  rcases x with x | ⟨x, x | ⟨x, x'⟩⟩ <;> rcases y with y | ⟨y, y | ⟨y, y'⟩⟩ <;> omega
end
section
/-! own rows over the kit: loops, worlds side by side, contracts of methods that only read, that write their world -/
section MK
variable {p : Program} {l : Launch} {e : Env} {R : Room} {s : State} {m : MethodId} {args : Array Value} {below : List Frame} {meth : Method} {c : Code} {cells slots : Nat} {Q : State → Prop}
/-- a loop that writes: at its head a state x of the loop, the heap, the locals -/
theorem lpW {σ : Type} {nL pc : Nat} {st : List Value} (I : σ → Heap → List Loc → Prop) (lv : σ → List (Nat × Value)) (μ : σ → Nat)
    (step : ∀ (x : σ) (H : Heap) (locs : List Loc) (ls : Array Slot), I x H locs → lv_has ls nL (lv x) →
      (∀ (y : σ) (H' : Heap) (locs' : List Loc) (ls' : Array Slot), I y H' locs' → μ y < μ x → lv_has ls' nL (lv y) → W p l e R s m args below meth c H' locs' cells slots Q (F0 m pc ls' st)) →
      W p l e R s m args below meth c H locs cells slots Q (F0 m pc ls st)) :
    ∀ (x : σ) (H : Heap) (locs : List Loc) (ls : Array Slot), I x H locs → lv_has ls nL (lv x) → W p l e R s m args below meth c H locs cells slots Q (F0 m pc ls st) := by
  have h : ∀ (n : Nat) (x : σ) (H : Heap) (locs : List Loc) (ls : Array Slot), μ x < n → I x H locs → lv_has ls nL (lv x) → W p l e R s m args below meth c H locs cells slots Q (F0 m pc ls st) := by
    intro n
    induction n with
    | zero => intro x H locs ls h; exact absurd h (by omega)
    | succ n ih =>
      intro x H locs ls hx hI hl
      exact step x H locs ls hI hl (fun y H' locs' ls' hy hm hl' => ih y H' locs' ls' (by omega) hy hl')
  exact fun x H locs ls hI hl => h (μ x + 1) x H locs ls (by omega) hI hl
/-- a loop that only reads -/
theorem lpR {σ : Type} {nL pc : Nat} {st : List Value} {H : Heap} {locs : List Loc} (I : σ → Prop) (lv : σ → List (Nat × Value)) (μ : σ → Nat)
    (step : ∀ (x : σ) (ls : Array Slot), I x → lv_has ls nL (lv x) →
      (∀ (y : σ) (ls' : Array Slot), I y → μ y < μ x → lv_has ls' nL (lv y) → W p l e R s m args below meth c H locs cells slots Q (F0 m pc ls' st)) →
      W p l e R s m args below meth c H locs cells slots Q (F0 m pc ls st)) :
    ∀ (x : σ) (ls : Array Slot), I x → lv_has ls nL (lv x) → W p l e R s m args below meth c H locs cells slots Q (F0 m pc ls st) := by
  have h : ∀ (n : Nat) (x : σ) (ls : Array Slot), μ x < n → I x → lv_has ls nL (lv x) → W p l e R s m args below meth c H locs cells slots Q (F0 m pc ls st) := by
    intro n
    induction n with
    | zero => intro x ls h; exact absurd h (by omega)
    | succ n ih =>
      intro x ls hx hI hl
      exact step x ls hI hl (fun y ls' hy hm hl' => ih y ls' (by omega) hy hl')
  exact fun x ls hI hl => h (μ x + 1) x ls (by omega) hI hl
end MK
theorem va_P.lft {D : va_G} {cl : List vw_C} {w1 w2 : va_W} {H : Heap} (h : va_P D cl (w1 ++ w2) H) : va_P D cl w1 H := fun k q hk => h k q (by rw [List.getElem?_append_left (List.getElem?_eq_some_iff.mp hk).1]; exact hk)
theorem va_P.rgt {D : va_G} {cl : List vw_C} {w1 w2 : va_W} {H : Heap} (h : va_P D cl (w1 ++ w2) H) : va_P D cl w2 H := fun k q hk => h (w1.length + k) q (by rw [List.getElem?_append_right (by omega), Nat.add_sub_cancel_left]; exact hk)
theorem va_D.lft {A : Nat → Prop} {w1 w2 : va_W} (h : va_D A (w1 ++ w2)) : va_D A w1 := by
  refine ⟨fun i j p q hi hj e => h.1 i j p q ?_ ?_ e, fun k q hk => h.2 k q ?_⟩
  · rw [List.getElem?_append_left (List.getElem?_eq_some_iff.mp hi).1]; exact hi
  · rw [List.getElem?_append_left (List.getElem?_eq_some_iff.mp hj).1]; exact hj
  · rw [List.getElem?_append_left (List.getElem?_eq_some_iff.mp hk).1]; exact hk
theorem va_D.rgt {A : Nat → Prop} {w1 w2 : va_W} (h : va_D A (w1 ++ w2)) : va_D A w2 := by
  have key : ∀ (k : Nat) (q : Nat × va_E), w2[k]? = some q → (w1 ++ w2)[w1.length + k]? = some q := fun k q hk => by rw [List.getElem?_append_right (by omega), Nat.add_sub_cancel_left]; exact hk
  refine ⟨fun i j p q hi hj e => ?_, fun k q hk => h.2 _ q (key k q hk)⟩
  have := h.1 _ _ p q (key i p hi) (key j q hj) e
  omega
/-- apart: no cell of the left world is one of the right one -/
theorem va_D.off {A : Nat → Prop} {w1 w2 : va_W} (h : va_D A (w1 ++ w2)) {i j : Nat} {p q : Nat × va_E} (hi : w1[i]? = some p) (hj : w2[j]? = some q) : p.1 ≠ q.1 := by
  intro e
  have hlt : i < w1.length := (List.getElem?_eq_some_iff.mp hi).1
  have := h.1 i (w1.length + j) p q (by rw [List.getElem?_append_left hlt]; exact hi) (by rw [List.getElem?_append_right (by omega), Nat.add_sub_cancel_left]; exact hj) e
  omega
/-- a callee has changed the left world, and made cells: the right one stands as it was -/
theorem va_jnL {A0 : Nat → Prop} {D : va_G} {cl : List vw_C} {w1 w2 w1' : va_W} {H H1 : Heap} (hP : va_P D cl (w1 ++ w2) H) (hD : va_D A0 (w1 ++ w2))
    (hk : ∀ q : Nat, q < H.size → ¬ va_A w1 H.size q → H1[q]? = H[q]?) (hF : ∀ q, va_A w1 H.size q → A0 q) (hP1 : va_P D cl w1' H1) (hD1 : va_D (va_A w1 H.size) w1') : va_P D cl (w1' ++ w2) H1 ∧ va_D A0 (w1' ++ w2) := by
  have hno : ∀ (k : Nat) (q : Nat × va_E), w2[k]? = some q → ¬ va_A w1 H.size q.1 := by
    intro k q hq hA
    rcases hA with ⟨i, e, hi⟩ | hge
    · exact va_D.off hD hi hq rfl
    · exact absurd (hP.rgt k q hq).lt (by omega)
  refine ⟨hP1.app (hP.rgt.kept (fun k q hq => hk q.1 (hP.rgt k q hq).lt (hno k q hq))), (hD1.weaken (fun k q _ h => hF q.1 h)).app hD.rgt (fun i j p q hi hj e => ?_)⟩
  exact hno j q hj (e ▸ hD1.2 i p hi)
theorem va_jnR {A0 : Nat → Prop} {D : va_G} {cl : List vw_C} {w1 w2 w2' : va_W} {H H1 : Heap} (hP : va_P D cl (w1 ++ w2) H) (hD : va_D A0 (w1 ++ w2))
    (hk : ∀ q : Nat, q < H.size → ¬ va_A w2 H.size q → H1[q]? = H[q]?) (hF : ∀ q, va_A w2 H.size q → A0 q) (hP1 : va_P D cl w2' H1) (hD1 : va_D (va_A w2 H.size) w2') : va_P D cl (w1 ++ w2') H1 ∧ va_D A0 (w1 ++ w2') := by
  have hno : ∀ (k : Nat) (q : Nat × va_E), w1[k]? = some q → ¬ va_A w2 H.size q.1 := by
    intro k q hq hA
    rcases hA with ⟨i, e, hi⟩ | hge
    · exact va_D.off hD hq hi rfl
    · exact absurd (hP.lft k q hq).lt (by omega)
  refine ⟨(hP.lft.kept (fun k q hq => hk q.1 (hP.lft k q hq).lt (hno k q hq))).app hP1, hD.lft.app (hD1.weaken (fun k q _ h => hF q.1 h)) (fun i j p q hi hj e => ?_)⟩
  exact hno i p hi (e ▸ hD1.2 j q hj)
theorem va_freeL {A0 : Nat → Prop} {w1 w2 : va_W} {H0 H : Heap} {locs : List Loc} (hD : va_D A0 (w1 ++ w2)) (hS : va_S A0 H0 H locs) (hA : ∀ q, H0.size ≤ q → A0 q) : ∀ q, va_A w1 H.size q → A0 q := by
  intro q h
  rcases h with ⟨k, e, h⟩ | h
  · exact hD.lft.2 k (q, e) h
  · exact hA q (Nat.le_trans hS.1 h)
theorem va_freeR {A0 : Nat → Prop} {w1 w2 : va_W} {H0 H : Heap} {locs : List Loc} (hD : va_D A0 (w1 ++ w2)) (hS : va_S A0 H0 H locs) (hA : ∀ q, H0.size ≤ q → A0 q) : ∀ q, va_A w2 H.size q → A0 q := by
  intro q h
  rcases h with ⟨k, e, h⟩ | h
  · exact hD.rgt.2 k (q, e) h
  · exact hA q (Nat.le_trans hS.1 h)
/-- what a method that only reads may take as given -/
def roP (D : va_G) (cl : List vw_C) (w : va_W) (tys : List (ClassId × FieldType)) (av : List Value) : Array Value → State → Prop := va_Pc av (fun U => va_P D cl w U.heap ∧ va_K D cl tys U)
theorem roP_blind {D : va_G} {cl : List vw_C} {w : va_W} {tys : List (ClassId × FieldType)} {av : List Value} : FrameBlind (roP D cl w tys av) := fun a U g mk q => by
  obtain ⟨q0, qP, qK⟩ := q
  exact ⟨q0, qP, va_K.moved (u := U) (U := U.calling g mk a) (Vm.Alike.refl U.vm) qK⟩
theorem roP_preS {D : va_G} {cl : List vw_C} {w : va_W} {tys : List (ClassId × FieldType)} {av : List Value} {s : State} {H : Heap} (hP : va_P D cl w H) (hK : va_K D cl tys s) : PreS s H (roP D cl w tys av) av :=
  ⟨roP_blind, fun U hU hW => ⟨rfl, by rw [hU]; exact hP, va_K.moved hW.alike hK⟩⟩
theorem roP_preV {D : va_G} {cl : List vw_C} {w : va_W} {tys : List (ClassId × FieldType)} {As : List Value} {s : State} {H : Heap} {C : vw_C} {b ci q0 : Nat} {fs : List Value} (hP : va_P D cl w H) (hK : va_K D cl tys s) (hc : cl[ci]? = some C) (he : w[q0]? = some (b, .inr (ci, fs))) : PreV s H C.1 b (roP D cl w tys (.ref b :: As)) As :=
  ⟨roP_blind, va_recv hK hP hc he, fun U hU hW => ⟨rfl, by rw [hU]; exact hP, va_K.moved hW.alike hK⟩⟩
/-- a method that writes its world w -/
def wrP (D : va_G) (cl : List vw_C) (w : va_W) (tys : List (ClassId × FieldType)) (sz : Nat) (av : List Value) : Array Value → State → Prop := va_Pc av (fun U => U.heap.size = sz ∧ va_P D cl w U.heap ∧ va_K D cl tys U ∧ va_D (fun _ => True) w)
theorem wrP_blind {D : va_G} {cl : List vw_C} {w : va_W} {tys : List (ClassId × FieldType)} {sz : Nat} {av : List Value} : FrameBlind (wrP D cl w tys sz av) := fun a U g mk q => by
  obtain ⟨q0, q1, qP, qK, qD⟩ := q
  exact ⟨q0, q1, qP, va_K.moved (u := U) (U := U.calling g mk a) (Vm.Alike.refl U.vm) qK, qD⟩
theorem wrP_preS {A : Nat → Prop} {D : va_G} {cl : List vw_C} {w : va_W} {tys : List (ClassId × FieldType)} {av : List Value} {s : State} {H : Heap} (hP : va_P D cl w H) (hK : va_K D cl tys s) (hD : va_D A w) : PreS s H (wrP D cl w tys H.size av) av :=
  ⟨wrP_blind, fun U hU hW => ⟨rfl, by rw [hU], by rw [hU]; exact hP, va_K.moved hW.alike hK, hD.weaken (fun _ _ _ _ => trivial)⟩⟩
theorem wrP_preV {A : Nat → Prop} {D : va_G} {cl : List vw_C} {w : va_W} {tys : List (ClassId × FieldType)} {As : List Value} {s : State} {H : Heap} {C : vw_C} {b ci q0 : Nat} {fs : List Value} (hP : va_P D cl w H) (hK : va_K D cl tys s) (hD : va_D A w) (hc : cl[ci]? = some C) (he : w[q0]? = some (b, .inr (ci, fs))) : PreV s H C.1 b (wrP D cl w tys H.size (.ref b :: As)) As :=
  ⟨wrP_blind, va_recv hK hP hc he, fun U hU hW => ⟨rfl, by rw [hU], by rw [hU]; exact hP, va_K.moved hW.alike hK, hD.weaken (fun _ _ _ _ => trivial)⟩⟩
abbrev wrB (D : va_G) (cl : List vw_C) (w w' : va_W) (tys : List (ClassId × FieldType)) (sz : Nat) (_ : Unit) (t : State) : Prop := va_P D cl w' t.heap ∧ va_K D cl tys t ∧ va_D (va_A w sz) w'
end
section
-- ===== PART A: goes FIRST, ahead of the names: the tables' words, and 'selects' of the private methods out of them =====
/-- a private method of a class that the tables say can be made, by its rows of tables_1 -/
def lw_okq (q : MethodName × Nat) : Prop := (q.1.cls ≠ "java/lang/invoke/MethodHandle" ∧ q.1.cls ≠ "java/lang/invoke/VarHandle") ∧ Cond.instantiable q.1.cls q.2 ∈ tables_1 ∧ Cond.privateMethod q.1 ∈ tables_1 ∧ Cond.instanceMethod q.1 ∈ tables_1
theorem lw_p0 : lw_okq (⟨"MeasureChoice$Ladder", "addSteps", "(II)V"⟩, 4) := ⟨⟨by decide +kernel, by decide +kernel⟩, List.mem_of_getElem? (i := 62) (by decide +kernel), List.mem_of_getElem? (i := 131) (by decide +kernel), List.mem_of_getElem? (i := 132) (by decide +kernel)⟩
theorem lw_p1 : lw_okq (⟨"MeasureChoice$Ladder", "addGains", "(ILMeasureChoice$House;)V"⟩, 4) := ⟨⟨by decide +kernel, by decide +kernel⟩, List.mem_of_getElem? (i := 62) (by decide +kernel), List.mem_of_getElem? (i := 135) (by decide +kernel), List.mem_of_getElem? (i := 136) (by decide +kernel)⟩
theorem lw_p2 : lw_okq (⟨"MeasureChoice$Ladder", "keepUnbeaten", "(LMeasureChoice$House;)V"⟩, 4) := ⟨⟨by decide +kernel, by decide +kernel⟩, List.mem_of_getElem? (i := 62) (by decide +kernel), List.mem_of_getElem? (i := 139) (by decide +kernel), List.mem_of_getElem? (i := 140) (by decide +kernel)⟩
theorem lw_p3 : lw_okq (⟨"java/lang/Throwable", "fillInStackTrace", "(I)Ljava/lang/Throwable;"⟩, 6) := ⟨⟨by decide +kernel, by decide +kernel⟩, List.mem_of_getElem? (i := 219) (by decide +kernel), List.mem_of_getElem? (i := 217) (by decide +kernel), List.mem_of_getElem? (i := 218) (by decide +kernel)⟩
theorem lw_p4 : lw_okq (⟨"MeasureChoice", "requireMeasure", "(I)V"⟩, 3) := ⟨⟨by decide +kernel, by decide +kernel⟩, List.mem_of_getElem? (i := 13) (by decide +kernel), List.mem_of_getElem? (i := 280) (by decide +kernel), List.mem_of_getElem? (i := 281) (by decide +kernel)⟩
theorem lw_p5 : lw_okq (⟨"MeasureChoice", "requirePair", "(II)V"⟩, 3) := ⟨⟨by decide +kernel, by decide +kernel⟩, List.mem_of_getElem? (i := 13) (by decide +kernel), List.mem_of_getElem? (i := 293) (by decide +kernel), List.mem_of_getElem? (i := 294) (by decide +kernel)⟩
theorem lw_p6 : lw_okq (⟨"MeasureChoice", "requireSet", "(I)V"⟩, 3) := ⟨⟨by decide +kernel, by decide +kernel⟩, List.mem_of_getElem? (i := 13) (by decide +kernel), List.mem_of_getElem? (i := 335) (by decide +kernel), List.mem_of_getElem? (i := 336) (by decide +kernel)⟩
theorem lw_p7 : lw_okq (⟨"MeasureChoice$House", "bonusWithEarlier", "(II)I"⟩, 7) := ⟨⟨by decide +kernel, by decide +kernel⟩, List.mem_of_getElem? (i := 21) (by decide +kernel), List.mem_of_getElem? (i := 356) (by decide +kernel), List.mem_of_getElem? (i := 357) (by decide +kernel)⟩
theorem lw_p8 : lw_okq (⟨"MeasureChoice$House", "withItsNeeds", "(I)I"⟩, 7) := ⟨⟨by decide +kernel, by decide +kernel⟩, List.mem_of_getElem? (i := 21) (by decide +kernel), List.mem_of_getElem? (i := 371) (by decide +kernel), List.mem_of_getElem? (i := 372) (by decide +kernel)⟩
theorem lw_p9 : lw_okq (⟨"MeasureChoice$Planner", "fillPurses", "()V"⟩, 7) := ⟨⟨by decide +kernel, by decide +kernel⟩, List.mem_of_getElem? (i := 82) (by decide +kernel), List.mem_of_getElem? (i := 427) (by decide +kernel), List.mem_of_getElem? (i := 428) (by decide +kernel)⟩
theorem lw_p10 : lw_okq (⟨"MeasureChoice$Planner", "judgeSets", "(LMeasureChoice$House;)V"⟩, 7) := ⟨⟨by decide +kernel, by decide +kernel⟩, List.mem_of_getElem? (i := 82) (by decide +kernel), List.mem_of_getElem? (i := 431) (by decide +kernel), List.mem_of_getElem? (i := 432) (by decide +kernel)⟩
theorem lw_p11 : lw_okq (⟨"MeasureChoice$Planner", "workYear", "(IZ)V"⟩, 7) := ⟨⟨by decide +kernel, by decide +kernel⟩, List.mem_of_getElem? (i := 82) (by decide +kernel), List.mem_of_getElem? (i := 442) (by decide +kernel), List.mem_of_getElem? (i := 443) (by decide +kernel)⟩
theorem lw_p12 : lw_okq (⟨"MeasureChoice$Planner", "bestFrom", "(II)I"⟩, 7) := ⟨⟨by decide +kernel, by decide +kernel⟩, List.mem_of_getElem? (i := 82) (by decide +kernel), List.mem_of_getElem? (i := 446) (by decide +kernel), List.mem_of_getElem? (i := 447) (by decide +kernel)⟩
theorem lw_p13 : lw_okq (⟨"MeasureChoice$Planner", "isBetter", "(III)Z"⟩, 7) := ⟨⟨by decide +kernel, by decide +kernel⟩, List.mem_of_getElem? (i := 82) (by decide +kernel), List.mem_of_getElem? (i := 450) (by decide +kernel), List.mem_of_getElem? (i := 451) (by decide +kernel)⟩
theorem lw_p14 : lw_okq (⟨"MeasureChoiceModel", "good", "(Z)Z"⟩, 11) := ⟨⟨by decide +kernel, by decide +kernel⟩, List.mem_of_getElem? (i := 465) (by decide +kernel), List.mem_of_getElem? (i := 517) (by decide +kernel), List.mem_of_getElem? (i := 518) (by decide +kernel)⟩
theorem lw_p15 : lw_okq (⟨"MeasureChoiceModel", "is", "(I)Z"⟩, 11) := ⟨⟨by decide +kernel, by decide +kernel⟩, List.mem_of_getElem? (i := 465) (by decide +kernel), List.mem_of_getElem? (i := 525) (by decide +kernel), List.mem_of_getElem? (i := 526) (by decide +kernel)⟩
def lw_privs_1 : List (MethodName × Nat) := [(⟨"MeasureChoice$Ladder", "addSteps", "(II)V"⟩, 4), (⟨"MeasureChoice$Ladder", "addGains", "(ILMeasureChoice$House;)V"⟩, 4), (⟨"MeasureChoice$Ladder", "keepUnbeaten", "(LMeasureChoice$House;)V"⟩, 4), (⟨"java/lang/Throwable", "fillInStackTrace", "(I)Ljava/lang/Throwable;"⟩, 6), (⟨"MeasureChoice", "requireMeasure", "(I)V"⟩, 3), (⟨"MeasureChoice", "requirePair", "(II)V"⟩, 3), (⟨"MeasureChoice", "requireSet", "(I)V"⟩, 3), (⟨"MeasureChoice$House", "bonusWithEarlier", "(II)I"⟩, 7), (⟨"MeasureChoice$House", "withItsNeeds", "(I)I"⟩, 7), (⟨"MeasureChoice$Planner", "fillPurses", "()V"⟩, 7), (⟨"MeasureChoice$Planner", "judgeSets", "(LMeasureChoice$House;)V"⟩, 7), (⟨"MeasureChoice$Planner", "workYear", "(IZ)V"⟩, 7), (⟨"MeasureChoice$Planner", "bestFrom", "(II)I"⟩, 7), (⟨"MeasureChoice$Planner", "isBetter", "(III)Z"⟩, 7), (⟨"MeasureChoiceModel", "good", "(Z)Z"⟩, 11), (⟨"MeasureChoiceModel", "is", "(I)Z"⟩, 11)]
theorem lw_r1 : ∀ q ∈ lw_privs_1, lw_okq q := List.forall_mem_cons.mpr ⟨lw_p0, List.forall_mem_cons.mpr ⟨lw_p1, List.forall_mem_cons.mpr ⟨lw_p2, List.forall_mem_cons.mpr ⟨lw_p3, List.forall_mem_cons.mpr ⟨lw_p4, List.forall_mem_cons.mpr ⟨lw_p5, List.forall_mem_cons.mpr ⟨lw_p6, List.forall_mem_cons.mpr ⟨lw_p7, List.forall_mem_cons.mpr ⟨lw_p8, List.forall_mem_cons.mpr ⟨lw_p9, List.forall_mem_cons.mpr ⟨lw_p10, List.forall_mem_cons.mpr ⟨lw_p11, List.forall_mem_cons.mpr ⟨lw_p12, List.forall_mem_cons.mpr ⟨lw_p13, List.forall_mem_cons.mpr ⟨lw_p14, List.forall_mem_cons.mpr ⟨lw_p15, fun _ h => absurd h List.not_mem_nil⟩⟩⟩⟩⟩⟩⟩⟩⟩⟩⟩⟩⟩⟩⟩⟩
theorem lw_p16 : lw_okq (⟨"MeasureChoiceModel", "isSet", "(I)Z"⟩, 11) := ⟨⟨by decide +kernel, by decide +kernel⟩, List.mem_of_getElem? (i := 465) (by decide +kernel), List.mem_of_getElem? (i := 545) (by decide +kernel), List.mem_of_getElem? (i := 546) (by decide +kernel)⟩
theorem lw_p17 : lw_okq (⟨"MeasureChoiceModel", "holds", "(I)Z"⟩, 11) := ⟨⟨by decide +kernel, by decide +kernel⟩, List.mem_of_getElem? (i := 465) (by decide +kernel), List.mem_of_getElem? (i := 549) (by decide +kernel), List.mem_of_getElem? (i := 550) (by decide +kernel)⟩
theorem lw_p18 : lw_okq (⟨"MeasureChoiceModel", "costOf", "(I)I"⟩, 11) := ⟨⟨by decide +kernel, by decide +kernel⟩, List.mem_of_getElem? (i := 465) (by decide +kernel), List.mem_of_getElem? (i := 560) (by decide +kernel), List.mem_of_getElem? (i := 561) (by decide +kernel)⟩
theorem lw_p19 : lw_okq (⟨"MeasureChoiceModel", "gainOf", "(I)I"⟩, 11) := ⟨⟨by decide +kernel, by decide +kernel⟩, List.mem_of_getElem? (i := 465) (by decide +kernel), List.mem_of_getElem? (i := 564) (by decide +kernel), List.mem_of_getElem? (i := 565) (by decide +kernel)⟩
theorem lw_p20 : lw_okq (⟨"MeasureChoiceModel", "bestOf", "(J)I"⟩, 11) := ⟨⟨by decide +kernel, by decide +kernel⟩, List.mem_of_getElem? (i := 465) (by decide +kernel), List.mem_of_getElem? (i := 576) (by decide +kernel), List.mem_of_getElem? (i := 577) (by decide +kernel)⟩
theorem lw_p21 : lw_okq (⟨"MeasureChoiceModel", "dearer", "(II)I"⟩, 11) := ⟨⟨by decide +kernel, by decide +kernel⟩, List.mem_of_getElem? (i := 465) (by decide +kernel), List.mem_of_getElem? (i := 593) (by decide +kernel), List.mem_of_getElem? (i := 594) (by decide +kernel)⟩
theorem lw_p22 : lw_okq (⟨"MeasureChoiceModel", "work", "(I)V"⟩, 11) := ⟨⟨by decide +kernel, by decide +kernel⟩, List.mem_of_getElem? (i := 465) (by decide +kernel), List.mem_of_getElem? (i := 606) (by decide +kernel), List.mem_of_getElem? (i := 607) (by decide +kernel)⟩
theorem lw_p23 : lw_okq (⟨"MeasureChoiceModel", "workOf", "(IIII)V"⟩, 11) := ⟨⟨by decide +kernel, by decide +kernel⟩, List.mem_of_getElem? (i := 465) (by decide +kernel), List.mem_of_getElem? (i := 610) (by decide +kernel), List.mem_of_getElem? (i := 611) (by decide +kernel)⟩
def lw_privs_2 : List (MethodName × Nat) := [(⟨"MeasureChoiceModel", "isSet", "(I)Z"⟩, 11), (⟨"MeasureChoiceModel", "holds", "(I)Z"⟩, 11), (⟨"MeasureChoiceModel", "costOf", "(I)I"⟩, 11), (⟨"MeasureChoiceModel", "gainOf", "(I)I"⟩, 11), (⟨"MeasureChoiceModel", "bestOf", "(J)I"⟩, 11), (⟨"MeasureChoiceModel", "dearer", "(II)I"⟩, 11), (⟨"MeasureChoiceModel", "work", "(I)V"⟩, 11), (⟨"MeasureChoiceModel", "workOf", "(IIII)V"⟩, 11)]
theorem lw_r2 : ∀ q ∈ lw_privs_2, lw_okq q := List.forall_mem_cons.mpr ⟨lw_p16, List.forall_mem_cons.mpr ⟨lw_p17, List.forall_mem_cons.mpr ⟨lw_p18, List.forall_mem_cons.mpr ⟨lw_p19, List.forall_mem_cons.mpr ⟨lw_p20, List.forall_mem_cons.mpr ⟨lw_p21, List.forall_mem_cons.mpr ⟨lw_p22, List.forall_mem_cons.mpr ⟨lw_p23, fun _ h => absurd h List.not_mem_nil⟩⟩⟩⟩⟩⟩⟩⟩
def lw_privs : List (MethodName × Nat) := lw_privs_1 ++ (lw_privs_2)
def lw_tbl : List Cond := k2_sels lw_privs ++ tables_1
theorem lw_privs_ok : ∀ q ∈ lw_privs, lw_okq q := by
  show ∀ q ∈ lw_privs_1 ++ (lw_privs_2), lw_okq q
  exact List.forall_mem_append.mpr ⟨lw_r1, lw_r2⟩
/-- the tables have the class of the arrays over arrays of ty (a word of va_mna that the names text does not bring) -/
def va_AOA (ty : FieldType) (U : State) : Prop := (Cond.arrayOver (.array ty)).before #[] U = true
theorem va_AOA.of {ty : FieldType} {A : Array Value} {U : State} (h : (Cond.arrayOver (.array ty)).before A U = true) : va_AOA ty U := h
theorem va_AOA.use {ty : FieldType} {A : Array Value} {U : State} (h : va_AOA ty U) : (Cond.arrayOver (.array ty)).before A U = true := h
/-! ===== BEGIN words of one list among another's, by their places ===== -/
theorem goodIn_r {big : List Cond} (ws : List Cond) (ps : List Nat) (hp : ws = ps.filterMap (fun i => big[i]?)) (h : ws.all goodWord = true) : GoodIn big ws := by
  intro w hw
  have h1 := List.all_eq_true.mp h w hw
  rw [hp] at hw
  obtain ⟨i, -, hi⟩ := List.mem_filterMap.mp hw
  have hm : w ∈ big := by first | exact List.mem_of_getElem? hi | exact List.getElem?_mem hi
  exact ⟨hm, good_of_word h1⟩
theorem goodIn_app {big a b : List Cond} (ha : GoodIn big a) (hb : GoodIn big b) : GoodIn big (a ++ b) := fun w h => (List.mem_append.mp h).elim (ha w) (hb w)
theorem goodIn_ca {big a b : List Cond} {c : Cond} (ha : GoodIn big (c :: a)) (hb : GoodIn big b) : GoodIn big (c :: (a ++ b)) := fun w h => (List.mem_cons.mp h).elim (fun e => ha w (List.mem_cons.mpr (Or.inl e))) (fun h => (List.mem_append.mp h).elim (fun h => ha w (List.mem_cons.mpr (Or.inr h))) (hb w))
theorem goodIn_sub {big ws : List Cond} (hm : ∀ w ∈ ws, w ∈ big) (h : ws.all goodWord = true) : GoodIn big ws := fun w hw => ⟨hm w hw, good_of_word (List.all_eq_true.mp h w hw)⟩
/-! ===== END ===== -/

/-! ===== BEGIN new T[n][m]: the outer array a place, the inner ones among the pooled ===== -/
/-- f, but v at every address of l -/
def vr_up {α : Type} (f : Nat → α) (l : List Nat) (v : α) : Nat → α := fun a => if a ∈ l then v else f a
theorem vr_up_in {α : Type} {f : Nat → α} {l : List Nat} {v : α} {a : Nat} (h : a ∈ l) : vr_up f l v a = v := if_pos h
theorem vr_up_ne {α : Type} {f : Nat → α} {l : List Nat} {v : α} {a : Nat} (h : a ∉ l) : vr_up f l v a = f a := if_neg h
theorem vr_rows {L l : List Nat} {f : Nat → va_E} {e : va_E} (h : ∀ a, a ∈ l → a ∉ L) : va_pl L f ++ l.map (fun a => (a, e)) = va_pl (L ++ l) (vr_up f l e) := by
  unfold va_pl
  rw [List.map_append]
  congr 1
  · apply List.map_congr_left
    intro a ha
    rw [vr_up_ne (fun q => h a q ha)]
  · apply List.map_congr_left
    intro a ha
    rw [vr_up_in ha]
theorem vr_lay {X rows : va_W} {x : Nat × va_E} {pl : va_W} {D : va_G} {cl : List vw_C} {H : Heap} (hP : va_P D cl (((X ++ pl) ++ [x]) ++ rows) H) : va_P D cl ((X ++ [x]) ++ (pl ++ rows)) H := by
  rw [List.append_assoc (X ++ pl)] at hP
  have h := va_P.swap hP
  rw [← List.append_assoc X] at h
  have h2 := va_P.swap h
  rw [List.append_assoc (X ++ [x])] at h2
  exact h2
theorem vr_layD {X rows : va_W} {x : Nat × va_E} {pl : va_W} {A : Nat → Prop} (hD : va_D A (((X ++ pl) ++ [x]) ++ rows)) : va_D A ((X ++ [x]) ++ (pl ++ rows)) := by
  rw [List.append_assoc (X ++ pl)] at hD
  have h := va_D.swap hD
  rw [← List.append_assoc X] at h
  have h2 := va_D.swap h
  rw [List.append_assoc (X ++ [x])] at h2
  exact h2
theorem vr_outer (c : ClassId) (N h0 : Nat) : ∀ i : Nat, Jvm.Free.Multi.outerC c N h0 i = arrV c N (fun j => va_rf (if j < i then some (h0 + 1 + j) else none))
  | 0 => by
    show ({ cls := c, slots := Array.replicate N .null, vm := .none } : Cell) = _
    rw [arrV_new]
    refine congrArg (arrV c N) (funext fun j => ?_)
    simp [va_rf]
  | i + 1 => by
    show (Jvm.Free.Multi.outerC c N h0 i).setSlot i (.ref (h0 + 1 + i)) = _
    rw [vr_outer c N h0 i, arrV_store]
    refine congrArg (arrV c N) (funext fun j => ?_)
    by_cases e : j = i
    · subst e
      simp [updV, va_rf]
    · by_cases h : j < i
      · simp [updV, e, h, Nat.lt_succ_of_lt h]
      · simp [updV, e, h, show ¬ j < i + 1 by omega]
section VGM
variable {p : Program} {l : Launch} {e : Env} {R : Room} {s : State} {m : MethodId} {args : Array Value} {below : List Frame} {meth : Method} {c : Code} {H : Heap} {locs : List Loc} {cells slots : Nat} {Q : State → Prop}
variable {cc : ByteArray} {pc : Nat} {ls : Array Slot} {rest : List Value} {D : va_G} {cl : List vw_C} {A : Nat → Prop} {a : Nat} {tys : List (ClassId × FieldType)} {ws : va_W} {H0 : Heap}
theorem va_mna {X : va_W} {L : List Nat} {f : Nat → va_E} {cc : ByteArray} (hexec : p.tables.exec = Jvm.exec) (hb : c.code = cc) {own : String} {index : Nat} {ty : FieldType} {cy : ClassId} (hown : s.vm.findClass own = some m.cls) (hclink : (Cond.classLink own index ("[" ++ (FieldType.array ty).toString)).before args s = true) (hover : va_AOA ty s) (harr : (Cond.arrayClass ty).before args s = true) (hcy : s.vm.findClass (FieldType.array ty).toString = some cy)
    (hK : va_K D cl tys s) (hP : va_P D cl (X ++ va_pl L f) H) (hD : va_D A (X ++ va_pl L f)) (hS : va_S A H0 H locs) (hA : ∀ q, H0.size ≤ q → A q) {n k : Int32} {N' K' : Nat} {z : vp_A} (hn : ¬ n < 0) (hk : ¬ k < 0) (hN : n.toNatClampNeg = N') (hM : k.toNatClampNeg = K')
    (hb1 : N' * 4 ≤ 536870912) (hb2 : K' * componentBytes ty ≤ 536870912) (hb3 : K' ≤ 536870912) (hdf : fits ty (defaultValue ty) = true) (hdd : (defaultValue ty).isDefault = true) (hcells : cells + (1 + N') ≤ R.cells) (hslots : slots + (N' + N' * K') ≤ R.slots) (hz : ∀ c : ClassId, Jvm.Free.Multi.innerC c K' (defaultValue ty) = vp_cell c z) (hdg : decode cc pc = .ok (.multianewarray index 2, 4))
    (kk : ∀ (q : Nat) (r : Nat → Nat) (cA : ClassId) (H1 : Heap), (∀ i j : Nat, i < N' → j < N' → r i = r j → i = j) → (∀ i : Nat, i < N' → r i ∉ L) → va_K D cl (tys ++ [(cA, .array ty)]) s →
      va_P D cl ((X ++ [(q, .inl (cA, N', .inr (.inr (.inr (.inr (fun i => if i < N' then some (r i) else none))))))]) ++ va_pl (L ++ (List.range N').map r) (vr_up f ((List.range N').map r) (.inl (cy, z)))) H1 → va_D A ((X ++ [(q, .inl (cA, N', .inr (.inr (.inr (.inr (fun i => if i < N' then some (r i) else none))))))]) ++ va_pl (L ++ (List.range N').map r) (vr_up f ((List.range N').map r) (.inl (cy, z)))) → va_S A H0 H1 locs →
      W p l e R s m args below meth c H1 locs (cells + 1 + N') (slots + N' + N' * K') Q (F0 m (pc + 4) ls (.ref q :: rest))) : W p l e R s m args below meth c H locs cells slots Q (F0 m pc ls (.int k :: .int n :: rest)) := by
  subst hN
  subst hM
  intro T hT Xs
  obtain ⟨vm₁, cA, comp, -, fA, fC, hO, -, X', step⟩ := Xs.multianewarray2F hexec hown hclink (va_AOA.use hover) harr (g := F0 m pc ls (.int k :: .int n :: rest)) rfl (by rw [hb]; exact hdg) rfl hn hk hb1 hb2 hb3 hdf hdd hcells hslots
  have ec : some cy = some comp := hcy.symm.trans fC
  cases ec
  generalize hF : Jvm.Free.Multi.fill (T.setVm vm₁) cA cy n.toNatClampNeg k.toNatClampNeg (defaultValue ty) n.toNatClampNeg = F at X' step
  have hTh : (T.setVm vm₁).heap = H := hT
  obtain ⟨f1, f2, -, -⟩ := Jvm.Free.Multi.fill_facts (T.setVm vm₁) cA cy n.toNatClampNeg k.toNatClampNeg (defaultValue ty) n.toNatClampNeg
  rw [hF, hTh] at f1 f2
  have hold : ∀ x : Nat, x < H.size → F.heap[x]? = H[x]? := fun x hx => by
    have := Jvm.Free.Multi.fill_old (T.setVm vm₁) cA cy n.toNatClampNeg k.toNatClampNeg (defaultValue ty) (a := x) (by rw [hTh]; exact hx) n.toNatClampNeg
    rw [hF, hTh] at this
    exact this
  have hrow : ∀ j : Nat, j < n.toNatClampNeg → F.heap[H.size + 1 + j]? = some (vp_cell cy z) := fun j hj => by
    have := Jvm.Free.Multi.fill_inner (T.setVm vm₁) cA cy n.toNatClampNeg k.toNatClampNeg (defaultValue ty) n.toNatClampNeg j hj
    rw [hF, hTh, hz] at this
    exact this
  have hout : Jvm.Free.Multi.outerC cA n.toNatClampNeg H.size n.toNatClampNeg = vp_cell cA (n.toNatClampNeg, .inr (.inr (.inr (.inr (fun i => if i < n.toNatClampNeg then some (H.size + 1 + i) else none))))) := by
    rw [vp_cell_q]
    exact vr_outer cA n.toNatClampNeg H.size n.toNatClampNeg
  rw [hout] at f2
  have hlt : ∀ a, a ∈ L → a < H.size := fun a ha => by
    obtain ⟨k9, hk9⟩ := va_pl_get (X := X) (f := f) ha
    exact (hP k9 _ hk9).lt
  have hnl : ∀ i : Nat, i < n.toNatClampNeg → H.size + 1 + i ∉ L := fun i _ h => by
    have := hlt _ h
    omega
  have hnm : ∀ a, a ∈ (List.range n.toNatClampNeg).map (fun i => H.size + 1 + i) → a ∉ L := fun a ha h => by
    obtain ⟨i, -, rfl⟩ := List.mem_map.mp ha
    have := hlt _ h
    omega
  have hP0 : va_P D cl (X ++ va_pl L f) F.heap := hP.kept (fun k9 x hx => hold x.1 ((hP k9 x hx).lt))
  have hP1 : va_P D cl ((X ++ va_pl L f) ++ [(H.size, .inl (cA, n.toNatClampNeg, .inr (.inr (.inr (.inr (fun i => if i < n.toNatClampNeg then some (H.size + 1 + i) else none))))))]) F.heap := hP0.app (fun k9 x hx => by
    have h0 : k9 < 1 := (List.getElem?_eq_some_iff.mp hx).1
    rw [show k9 = 0 by omega] at hx
    cases hx
    exact f2)
  have hP2 : va_P D cl (((X ++ va_pl L f) ++ [(H.size, .inl (cA, n.toNatClampNeg, .inr (.inr (.inr (.inr (fun i => if i < n.toNatClampNeg then some (H.size + 1 + i) else none))))))]) ++ ((List.range n.toNatClampNeg).map (fun i => H.size + 1 + i)).map (fun a => (a, .inl (cy, z)))) F.heap := hP1.app (fun k9 x hx => by
    obtain ⟨a, ha, rfl⟩ := List.mem_map.mp (List.mem_of_getElem? hx)
    obtain ⟨i, hi, rfl⟩ := List.mem_map.mp ha
    exact hrow i (List.mem_range.mp hi))
  have hD2 : va_D A (((X ++ va_pl L f) ++ [(H.size, .inl (cA, n.toNatClampNeg, .inr (.inr (.inr (.inr (fun i => if i < n.toNatClampNeg then some (H.size + 1 + i) else none))))))]) ++ ((List.range n.toNatClampNeg).map (fun i => H.size + 1 + i)).map (fun a => (a, .inl (cy, z)))) := by
    have hD1 := hD.push (e := .inl (cA, n.toNatClampNeg, .inr (.inr (.inr (.inr (fun i => if i < n.toNatClampNeg then some (H.size + 1 + i) else none)))))) hP rfl (hA _ hS.1)
    generalize hW1 : (X ++ va_pl L f) ++ [(H.size, .inl (cA, n.toNatClampNeg, .inr (.inr (.inr (.inr (fun i => if i < n.toNatClampNeg then some (H.size + 1 + i) else none))))))] = W1 at hD1 hP1 ⊢
    have hle : ∀ (k9 : Nat) (x : Nat × va_E), W1[k9]? = some x → x.1 ≤ H.size := fun k9 x hx => by
      rw [← hW1] at hx
      by_cases hl : k9 < (X ++ va_pl L f).length
      · rw [List.getElem?_append_left hl] at hx
        exact Nat.le_of_lt ((hP k9 x hx).lt)
      · rw [List.getElem?_append_right (by omega)] at hx
        have h0 : k9 - (X ++ va_pl L f).length < 1 := (List.getElem?_eq_some_iff.mp hx).1
        rw [show k9 - (X ++ va_pl L f).length = 0 by omega] at hx
        cases hx
        exact Nat.le_refl _
    have hr : ∀ (k9 : Nat) (x : Nat × va_E), (((List.range n.toNatClampNeg).map (fun i => H.size + 1 + i)).map (fun a => ((a, .inl (cy, z)) : Nat × va_E)))[k9]? = some x → x.1 = H.size + 1 + k9 := fun k9 x hx => by
      rw [List.getElem?_map, List.getElem?_map] at hx
      by_cases h9 : k9 < n.toNatClampNeg
      · rw [List.getElem?_range h9] at hx
        cases hx
        rfl
      · have hn0 : (List.range n.toNatClampNeg)[k9]? = none := List.getElem?_eq_none (by rw [List.length_range]; omega)
        rw [hn0] at hx
        cases hx
    refine ⟨fun i j x y hi hj hxy => ?_, fun k9 x hx => ?_⟩
    · by_cases h1 : i < W1.length <;> by_cases h2 : j < W1.length
      · rw [List.getElem?_append_left h1] at hi
        rw [List.getElem?_append_left h2] at hj
        exact hD1.1 i j x y hi hj hxy
      · rw [List.getElem?_append_left h1] at hi
        rw [List.getElem?_append_right (by omega)] at hj
        have := hle _ _ hi
        have := hr _ _ hj
        omega
      · rw [List.getElem?_append_right (by omega)] at hi
        rw [List.getElem?_append_left h2] at hj
        have := hle _ _ hj
        have := hr _ _ hi
        omega
      · rw [List.getElem?_append_right (by omega)] at hi hj
        have := hr _ _ hi
        have := hr _ _ hj
        omega
    · by_cases h1 : k9 < W1.length
      · rw [List.getElem?_append_left h1] at hx
        exact hD1.2 k9 x hx
      · rw [List.getElem?_append_right (by omega)] at hx
        have := hr _ _ hx
        exact hA _ (by have := hS.1; omega)
  have hAr : ArrOfT s cA (.array ty) := fun N9 z9 => by
    obtain ⟨-, k9, hk9, cm9, hkk9⟩ := (hO 0 0 0).1
    exact ⟨(fun q hq => by cases hq), k9, hk9, cm9, hkk9⟩
  have hK2 : va_K D cl (tys ++ [(cA, .array ty)]) s := ⟨hK.1, fun k9 x hx => by
    by_cases hl : k9 < tys.length
    · rw [List.getElem?_append_left hl] at hx
      exact hK.2 k9 x hx
    · rw [List.getElem?_append_right (by omega)] at hx
      have h0 : k9 - tys.length < 1 := (List.getElem?_eq_some_iff.mp hx).1
      rw [show k9 - tys.length = 0 by omega] at hx
      cases hx
      exact ⟨hAr, fA⟩⟩
  obtain ⟨t, a1, b1⟩ := kk H.size (fun i => H.size + 1 + i) cA F.heap (fun i j _ _ h => by have h9 : H.size + 1 + i = H.size + 1 + j := h; omega) hnl hK2 (by rw [← vr_rows hnm]; exact vr_lay hP2) (by rw [← vr_rows hnm]; exact vr_layD hD2) ⟨by rw [f1]; have := hS.1; omega, fun x h1 h2 => (hold x (Nat.lt_of_lt_of_le h1 hS.1)).trans (hS.2.1 x h1 h2), hS.2.2⟩ F rfl X'
  refine ⟨t, step t ?_, b1⟩
  have e : T.heap.size = H.size := by rw [hT]
  rw [e]
  exact a1
end VGM
/-! ===== END ===== -/

/-! ===== BEGIN exceptions that leave a method, and their catching by the caller (launches without stack traces) ===== -/
section VXA
/-! The laws vx_back, vx_callV, vx_callS, vx_callSW, vx_throw0, vx_throwS follow proofs of the library, with one case more: JvmDerived/Free/Laws.lean (Back.of_free), Shelf42/LK1.lean (callV, callS), Shelf/KitTraced.lean (throwNew0V, throwNewS). -/
/-- where a method has thrown q: the class by its name, the cell, what was written, the world -/
def vx_T (XC : String → State → State → Prop) (st : State) (q : Addr) (t : State) (mc ms : Nat) (free : Addr → Prop) : Prop :=
  ∃ (E : String) (ce : Cell) (L : List Loc), XC E st t ∧ t.heap[q]? = some ce ∧ ce.vm = .none ∧ st.vm.findClass E = some ce.cls ∧ st.WarmedH t.vm ∧ st.sameButNew ({ t with vm := st.vm } : State) L mc ms ∧ ∀ z ∈ L, free z.base
def vx_Q (Qc : Array Value → State → Outcome → State → Prop) (XC : String → State → State → Prop) (mc ms : Nat) (free : Addr → Prop) : Array Value → State → Outcome → State → Prop := fun a st o t =>
  (Qc a st o t ∧ ∃ L, FrameEnd st o t L mc ms ∧ ∀ q ∈ L, free q.base) ∨ ∃ q, o = .threw q ∧ vx_T XC st q t mc ms free
/-- a callee that returns or throws -/
def vx_Met (l : Launch) (y : MethodName) (ws : List Cond) (rm : Room) (Pc : Array Value → State → Prop) (Qc : Array Value → State → Outcome → State → Prop) (XC : String → State → State → Prop) (mc ms : Nat) (free : Addr → Prop) : Prop :=
  MetFree l y (headSpec ws rm) Pc (fun _ _ _ _ _ => True) (vx_Q Qc XC mc ms free)
def vx_Post (XC : String → State → State → Prop) (mc ms : Nat) (free : Addr → Prop) : Pt → Array Value → Addr → Pt → Prop := fun A a q B =>
  ∃ (g : JFrame) (mk : MethodId) (t : State) (L : List Loc) (E : String) (ce : Cell), B.U.heap = t.heap ∧ B.U.vm = t.vm ∧ XC E (A.U.calling g mk a) t ∧ t.heap[q]? = some ce ∧ ce.vm = .none ∧ A.U.vm.findClass E = some ce.cls ∧ B.locs = A.locs ++ L ∧ (∀ z ∈ L, free z.base) ∧ B.cells = A.cells + mc ∧ B.slots = A.slots + ms
def vx_Back (l : Launch) (R : Room) (p : Program) (e : Env) (below : List Frame) (s : State) (sargs : Array Value) (y : MethodName) (len W9 : Nat)
    (Pre : Pt → Array Value → Prop) (Post : Pt → Array Value → Option Value → Pt → Prop) (PostX : Pt → Array Value → Addr → Pt → Prop) : Prop :=
  ∀ (m : MethodId) (meth : Method) (c : Code) (A : Pt) (g : JFrame) (ig : Instr) (mk : MethodId) (a : Array Value),
    Stand p l e R s m sargs below meth c A.U A.locs A.cells A.slots → g.method = m → g.locals.size = c.maxLocals → decode c.code g.pc = .ok (ig, len) →
    2 * g.monitorRoom + (g.stack.map fun v => v.category).sum ≤ W9 → A.U.methodNamed? y = some mk → Pre A a →
    (∃ (v : Option Value) (B : Pt), Stand p l e R s m sargs below meth c B.U B.locs B.cells B.slots ∧ Post A a v B ∧
      Steps p.tables e below (doInvoke e (A.U.setTop g) [] mk a).1 (B.U.setTop { g with pc := g.pc + len, stack := v.toList ++ g.stack })) ∨
    (∃ (q : Addr) (B : Pt), Stand p l e R s m sargs below meth c B.U B.locs B.cells B.slots ∧ PostX A a q B ∧
      Steps p.tables e below (doInvoke e (A.U.setTop g) [] mk a).1 ((B.U.setTop g).pushFrame (.throwing q)))
section Payer
variable {l : Launch} {R : Room} {p : Program} {e : Env} {below : List Frame} {s : State} {sargs : Array Value} {y : MethodName} {len W9 : Nat}
theorem vx_back {ws : List Cond} {rm : Room} {Pc : Array Value → State → Prop} {Qc : Array Value → State → Outcome → State → Prop} {XC : String → State → State → Prop} {mc ms : Nat} {free : Addr → Prop} {bytes : ByteArray} {maxL : Nat} {ret : Option FieldType}
    (hM : vx_Met l y ws rm Pc Qc XC mc ms free) (hblind : FrameBlind Pc) (hrc : rm.cells = mc) (hrs : rm.slots = ms)
    (hframes : rm.frames + 1 ≤ R.frames) (hlocals : W9 + (maxL + 11) + rm.locals ≤ R.locals)
    (hws : ∀ w ∈ ws, ∀ a' U, s.WarmedH U.vm → w.before a' U = true) (hcode : Cond.code y bytes maxL ret ∈ ws) (hinit : ∀ a' U, s.WarmedH U.vm → (Cond.initialized y.cls).before a' U = true) :
    vx_Back l R p e below s sargs y len W9 (PreOf R mc ms Pc) (PostOf Qc mc ms free) (vx_Post XC mc ms free) := by
  intro m meth c A g ig mk a X hg hsize hdg hW hn hp
  have h1 : (headSpec ws rm).pre.before a A.U = true := atoms_intro fun w hw => hws w hw _ _ X.warmed
  have h2 : (Cond.code y bytes maxL ret).before a A.U = true := hws _ hcode _ _ X.warmed
  have h3 : (Cond.initialized y.cls).before a A.U = true := hinit _ _ X.warmed
  have h4 : A.cells + (headSpec ws rm).room.cells ≤ R.cells := by rw [show (headSpec ws rm).room.cells = mc from hrc]; exact hp.1
  have h5 : A.slots + (headSpec ws rm).room.slots ≤ R.slots := by rw [show (headSpec ws rm).room.slots = ms from hrs]; exact hp.2.1
  have hPc : Pc a (A.U.calling g mk a) := hblind _ _ _ _ hp.2.2
  obtain ⟨U, Ls, c0, s0⟩ := A
  dsimp only [Pt.U, Pt.locs, Pt.cells, Pt.slots] at h1 h2 h3 h4 h5 X hn hPc ⊢
  obtain ⟨methY, cY, hmY, hcY, -, hlY, -, -, -, -⟩ := Cond.code_spec hn h2
  obtain ⟨kY, hkY, -⟩ := className_of_methodNamed hn
  have hinitY : kY.init = .initialized := Cond.initialized_spec (findClass_of_methodNamed hn) hkY h3
  have h : At U g.method c below := by rw [hg]; exact X.here
  have hlocals9 : W9 + (maxL + 11) + (headSpec ws rm).room.locals ≤ R.locals := hlocals
  have happ : (headSpec ws rm).appliesLoose y e.platform (U.calling g mk a) = true :=
    Spec.appliesLoose_calling (g := g) h hdg hn hkY hinitY
      (X.room_calling (g := g) (R' := (headSpec ws rm).room) hsize hmY hcY hframes (by rw [hlY]; omega) h4 h5) h1
  obtain ⟨mid, hmid⟩ := h.above
  have hfr : (U.setTop g).frames = (.java g :: mid) ++ below := by rw [State.frames_setTop' g h.top, hmid]; rfl
  obtain ⟨o, s₂, hsteps, -, hend, hq⟩ := Steps.callFree hM p X.admits X.cas X.clock (acts := []) hfr happ hPc trivial
  have hq' : vx_Q Qc XC mc ms free a (U.calling g mk a) o s₂ := hq
  rw [State.frames_setTop' g h.top] at hend
  obtain ⟨g₀, hg0⟩ := Option.isSome_iff_exists.mp h.top
  obtain ⟨r, hr⟩ := State.topJava?_eq_some.mp hg0
  have hr' : (({ U with heap := s₂.heap, slotsUsed := s₂.slotsUsed } : State).setVm s₂.vm).frames = .java g₀ :: r := hr
  rcases hq' with ⟨hqc, L, hfe, hL⟩ | ⟨q, rfl, E, ce, L, hx, hce, hcv, hcl, hW₂, hsm, hL⟩
  · obtain ⟨⟨v, rfl⟩, hW₂, e2, q2, q3, q4, q5, q6⟩ := id hfe
    have e3 : s₂ = ({ (U.calling g mk a).setFrames s₂.frames with heap := s₂.heap, slotsUsed := s₂.slotsUsed } : State).setVm s₂.vm := by
      have : s₂ = ({ s₂ with vm := (U.calling g mk a).vm } : State).setVm s₂.vm := rfl
      rw [e2] at this
      exact this
    obtain ⟨c₂, i₂, len₂, hc₂, hd₂, hf₂⟩ := hend
    have hW' : U.WarmedH s₂.vm := hW₂
    have hcc : c₂ = c := by
      have h1 : s₂.code? g.method = U.code? g.method := by
        rw [State.code?_eq, State.code?_eq, hW'.alike.method?]
      exact Option.some.inj (hc₂.symm.trans (h1.trans h.code))
    subst hcc
    have hlen : len₂ = len := by rw [hdg] at hd₂; cases hd₂; rfl
    subst hlen
    have hs₂ : s₂ = (({ U with heap := s₂.heap, slotsUsed := s₂.slotsUsed } : State).setVm s₂.vm).setTop { g with pc := g.pc + len₂, stack := v.toList ++ g.stack } := by
      refine e3.trans ?_
      rw [hf₂, State.calling_eq h.top, State.setFrames_setFrames, State.setTop_of_frames _ hr', hr]
      rfl
    have hsame : U.sameButNew ({ U with heap := s₂.heap, slotsUsed := s₂.slotsUsed } : State) L mc ms := by
      refine ⟨?_, q2, q3, q4, q5, q6⟩
      obtain ⟨t, ht, -⟩ := State.frames_cons hr
      show ({ U with heap := s₂.heap, slotsUsed := s₂.slotsUsed } : State) = { U.setFrames U.frames with heap := s₂.heap, slotsUsed := s₂.slotsUsed }
      rw [State.setFrames_self ht]
    subst hg
    refine Or.inl ⟨v, ⟨(({ U with heap := s₂.heap, slotsUsed := s₂.slotsUsed } : State).setVm s₂.vm), Ls ++ L, c0 + mc, s0 + ms⟩,
      ⟨X.admits, X.cas, X.clock, X.frames, X.room, X.hears, X.method, X.code, (X.here.setHeapUsed s₂.heap s₂.slotsUsed).setVm hW'.alike, X.tail, State.WarmedH.trans X.warmed hW', X.limits, X.bytes, X.same.trans (hsame.setVm s.vm)⟩,
      ⟨g, mk, s₂, L, rfl, rfl, hqc, rfl, hL, rfl, rfl⟩, ?_⟩
    show Steps p.tables e below _ ((({ U with heap := s₂.heap, slotsUsed := s₂.slotsUsed } : State).setVm s₂.vm).setTop { g with pc := g.pc + len₂, stack := v.toList ++ g.stack })
    rw [← hs₂]
    exact hsteps
  · obtain ⟨e2, q2, q3, q4, q5, q6⟩ := id hsm
    have e3 : s₂ = ({ (U.calling g mk a).setFrames s₂.frames with heap := s₂.heap, slotsUsed := s₂.slotsUsed } : State).setVm s₂.vm := by
      have : s₂ = ({ s₂ with vm := (U.calling g mk a).vm } : State).setVm s₂.vm := rfl
      rw [e2] at this
      exact this
    have hf₂ : s₂.frames = .throwing q :: .java g :: U.frames.tail := hend
    have hW' : U.WarmedH s₂.vm := hW₂
    have hs₂ : s₂ = ((({ U with heap := s₂.heap, slotsUsed := s₂.slotsUsed } : State).setVm s₂.vm).setTop g).pushFrame (.throwing q) := by
      refine e3.trans ?_
      rw [hf₂, State.calling_eq h.top, State.setFrames_setFrames, State.pushFrame, State.frames_setTop _ hr', State.setTop_of_frames _ hr', State.setFrames_setFrames, hr]
      rfl
    have hsame : U.sameButNew ({ U with heap := s₂.heap, slotsUsed := s₂.slotsUsed } : State) L mc ms := by
      refine ⟨?_, q2, q3, q4, q5, q6⟩
      obtain ⟨t, ht, -⟩ := State.frames_cons hr
      show ({ U with heap := s₂.heap, slotsUsed := s₂.slotsUsed } : State) = { U.setFrames U.frames with heap := s₂.heap, slotsUsed := s₂.slotsUsed }
      rw [State.setFrames_self ht]
    subst hg
    refine Or.inr ⟨q, ⟨(({ U with heap := s₂.heap, slotsUsed := s₂.slotsUsed } : State).setVm s₂.vm), Ls ++ L, c0 + mc, s0 + ms⟩,
      ⟨X.admits, X.cas, X.clock, X.frames, X.room, X.hears, X.method, X.code, (X.here.setHeapUsed s₂.heap s₂.slotsUsed).setVm hW'.alike, X.tail, State.WarmedH.trans X.warmed hW', X.limits, X.bytes, X.same.trans (hsame.setVm s.vm)⟩,
      ⟨g, mk, s₂, L, E, ce, rfl, rfl, hx, hce, hcv, hcl, rfl, hL, rfl, rfl⟩, ?_⟩
    show Steps p.tables e below _ (((({ U with heap := s₂.heap, slotsUsed := s₂.slotsUsed } : State).setVm s₂.vm).setTop g).pushFrame (.throwing q))
    rw [← hs₂]
    exact hsteps
end Payer
section Calls
variable {p : Program} {l : Launch} {e : Env} {R : Room} {s : State} {m : MethodId} {args : Array Value} {below : List Frame} {meth : Method} {c : Code} {T : State} {locs : List Loc} {cells slots : Nat}
theorem vx_callV (X : Stand p l e R s m args below meth c T locs cells slots) (hexec : p.tables.exec = Jvm.exec) {own C : String} {index : Nat} {y : MethodName} {bytes : ByteArray} {maxL : Nat} {ret : Option FieldType}
    (hown : s.vm.findClass own = some m.cls) (hlink : (Cond.methodLink own index y).before args s = true) (hinst : (Cond.instanceMethod y).before args s = true) (hsel : (Cond.selects C y y).before args s = true)
    (hcode : (Cond.code y bytes maxL ret).before args s = true) (hy : y.cls ≠ "java/lang/invoke/MethodHandle" ∧ y.cls ≠ "java/lang/invoke/VarHandle")
    {W9 : Nat} {Pre : Pt → Array Value → Prop} {Post : Pt → Array Value → Option Value → Pt → Prop} {PostX : Pt → Array Value → Addr → Pt → Prop} (hK : vx_Back l R p e below s args y 3 W9 Pre Post PostX)
    {b : Addr} {cellB : Cell} (hcell : T.heap[b]? = some cellB) (hobj : cellB.vm.isStatics = false) (hcls : s.vm.findClass C = some cellB.cls)
    {g : JFrame} (hg : g.method = m) (hsize : g.locals.size = c.maxLocals) {argsL rest : List Value} (hlen : ∀ sig, parseMethodDescriptor y.desc = some sig → argsL.length = sig.parameters.length)
    (hstack : g.stack = argsL.reverse ++ .ref b :: rest) (hW : 2 * g.monitorRoom + (rest.map fun v => v.category).sum ≤ W9) (hdg : decode c.code g.pc = .ok (.invokevirtual index, 3))
    (hpre : ∀ vm₁, s.WarmedH vm₁ → Pre ⟨T.setVm vm₁, locs, cells, slots⟩ (Value.ref b :: argsL).toArray) :
    (∃ (v : Option Value) (vm₁ : Vm) (B : Pt), s.WarmedH vm₁ ∧ Stand p l e R s m args below meth c B.U B.locs B.cells B.slots ∧ Post ⟨T.setVm vm₁, locs, cells, slots⟩ (Value.ref b :: argsL).toArray v B ∧
      ∀ target, Steps p.tables e below (B.U.setTop { g with pc := g.pc + 3, stack := v.toList ++ rest }) target → Steps p.tables e below (T.setTop g) target) ∨
    (∃ (q : Addr) (vm₁ : Vm) (B : Pt), s.WarmedH vm₁ ∧ Stand p l e R s m args below meth c B.U B.locs B.cells B.slots ∧ PostX ⟨T.setVm vm₁, locs, cells, slots⟩ (Value.ref b :: argsL).toArray q B ∧
      Steps p.tables e below (T.setTop g) ((B.U.setTop { g with stack := rest }).pushFrame (.throwing q))) := by
  obtain ⟨mk, methM, hnamed, hmethM, hstM, habM⟩ := Cond.instanceMethod_spec hinst
  obtain ⟨methM', cM, hmethM', -, -, -, -, -, -, hsigM⟩ := Cond.code_spec hnamed hcode
  cases hmethM.symm.trans hmethM'
  obtain ⟨c2, r2, m2, q1, q2, q3, q4, kP, hkP, hkPi⟩ := Cond.selects_spec hsel
  cases hcls.symm.trans q1
  cases (State.methodFound?_of_named hnamed hy).symm.trans q2
  cases hnamed.symm.trans q3
  have hselP : selectMethod e.platform s.vm cellB.cls mk = .method mk := by rw [Launch.admits_selectMethod X.admits]; exact q4
  obtain ⟨vm₁, X₁, hstep₁⟩ := X.invokevirtual hexec hown hlink hnamed hmethM hstM hkP hkPi hy (a := b) (cell := cellB) hcell
    (fun z h => by rw [h] at hobj; cases hobj) hselP hmethM habM hkP hkPi (g := g) hg (argsL := argsL) (rest := rest) (hlen _ hsigM) hstack hdg
  rcases hK m meth c ⟨T.setVm vm₁, locs, cells, slots⟩ { g with stack := rest } (.invokevirtual index) mk (Value.ref b :: argsL).toArray X₁ hg hsize hdg hW (X₁.named hnamed) (hpre vm₁ X₁.warmed) with ⟨v, B, X', hpost, hsteps⟩ | ⟨q, B, X', hpost, hsteps⟩
  · exact Or.inl ⟨v, vm₁, B, X₁.warmed, X', hpost, fun target h => hstep₁ _ fun acts => by rw [doInvoke_state]; exact hsteps.trans h⟩
  · exact Or.inr ⟨q, vm₁, B, X₁.warmed, X', hpost, hstep₁ _ fun acts => by rw [doInvoke_state]; exact hsteps⟩
theorem vx_callS (X : Stand p l e R s m args below meth c T locs cells slots) (hexec : p.tables.exec = Jvm.exec) {own : String} {index : Nat} {y : MethodName} {bytes : ByteArray} {maxL : Nat} {ret : Option FieldType}
    (hown : s.vm.findClass own = some m.cls) (hlink : (Cond.methodLink own index y).before args s = true) (hstat : (Cond.static y).before args s = true) (hinit : (Cond.initialized y.cls).before args s = true)
    (hcode : (Cond.code y bytes maxL ret).before args s = true) (hy : y.cls ≠ "java/lang/invoke/MethodHandle" ∧ y.cls ≠ "java/lang/invoke/VarHandle")
    {W9 : Nat} {Pre : Pt → Array Value → Prop} {Post : Pt → Array Value → Option Value → Pt → Prop} {PostX : Pt → Array Value → Addr → Pt → Prop} (hK : vx_Back l R p e below s args y 3 W9 Pre Post PostX)
    {g : JFrame} (hg : g.method = m) (hsize : g.locals.size = c.maxLocals) {argsL rest : List Value} (hlen : ∀ sig, parseMethodDescriptor y.desc = some sig → argsL.length = sig.parameters.length)
    (hstack : g.stack = argsL.reverse ++ rest) (hW : 2 * g.monitorRoom + (rest.map fun v => v.category).sum ≤ W9) (hdg : decode c.code g.pc = .ok (.invokestatic index, 3))
    (hpre : ∀ vm₁, s.WarmedH vm₁ → Pre ⟨T.setVm vm₁, locs, cells, slots⟩ argsL.toArray) :
    (∃ (v : Option Value) (vm₁ : Vm) (B : Pt), s.WarmedH vm₁ ∧ Stand p l e R s m args below meth c B.U B.locs B.cells B.slots ∧ Post ⟨T.setVm vm₁, locs, cells, slots⟩ argsL.toArray v B ∧
      ∀ target, Steps p.tables e below (B.U.setTop { g with pc := g.pc + 3, stack := v.toList ++ rest }) target → Steps p.tables e below (T.setTop g) target) ∨
    (∃ (q : Addr) (vm₁ : Vm) (B : Pt), s.WarmedH vm₁ ∧ Stand p l e R s m args below meth c B.U B.locs B.cells B.slots ∧ PostX ⟨T.setVm vm₁, locs, cells, slots⟩ argsL.toArray q B ∧
      Steps p.tables e below (T.setTop g) ((B.U.setTop { g with stack := rest }).pushFrame (.throwing q))) := by
  obtain ⟨mk, hnamed⟩ := Cond.code_named hcode
  obtain ⟨methM, cM, hmethM, -, -, -, -, -, -, hsigM⟩ := Cond.code_spec hnamed hcode
  have hstatic : methM.isStatic = true := Cond.static_spec hnamed hmethM hstat
  obtain ⟨kP, hkP, -⟩ := className_of_methodNamed hnamed
  have hinitP : kP.init = .initialized := Cond.initialized_spec (findClass_of_methodNamed hnamed) hkP hinit
  obtain ⟨vm₁, X₁, hstep₁⟩ := X.invokestatic hexec hown hlink hnamed hmethM hstatic hkP hinitP hy (g := g) hg (argsL := argsL) (rest := rest) (hlen _ hsigM) hstack hdg
  rcases hK m meth c ⟨T.setVm vm₁, locs, cells, slots⟩ { g with stack := rest } (.invokestatic index) mk argsL.toArray X₁ hg hsize hdg hW (X₁.named hnamed) (hpre vm₁ X₁.warmed) with ⟨v, B, X', hpost, hsteps⟩ | ⟨q, B, X', hpost, hsteps⟩
  · exact Or.inl ⟨v, vm₁, B, X₁.warmed, X', hpost, fun target h => hstep₁ _ fun acts => by rw [doInvoke_state]; exact hsteps.trans h⟩
  · exact Or.inr ⟨q, vm₁, B, X₁.warmed, X', hpost, hstep₁ _ fun acts => by rw [doInvoke_state]; exact hsteps⟩
end Calls
theorem vx_cls {s : State} {T : State} {vm₁ : Vm} {E : String} {k : ClassId} (hW : s.WarmedH vm₁) (h : (T.setVm vm₁).vm.findClass E = some k) : s.vm.findClass E = some k := by
  have h1 : vm₁.findClass E = some k := h
  rw [hW.alike.findClass] at h1
  exact h1
/-- the method's frame g, with q thrown over it -/
def vx_W (p : Program) (l : Launch) (e : Env) (R : Room) (s : State) (m : MethodId) (args : Array Value) (below : List Frame) (meth : Method) (c : Code) (H : Heap) (locs : List Loc) (cells slots : Nat) (Q : State → Prop) (g : JFrame) (q : Addr) : Prop :=
  ∀ T : State, T.heap = H → Stand p l e R s m args below meth c T locs cells slots → ∃ t, Steps p.tables e below ((T.setTop g).pushFrame (.throwing q)) t ∧ Q t
def vx_Run (p : Program) (l : Launch) (e : Env) (R : Room) (s : State) (m : MethodId) (args : Array Value) (below : List Frame) (meth : Method) (c : Code) (H : Heap) (locs : List Loc) (cells slots mc ms : Nat) (g : JFrame) (rest : List Value) (Qa : State → Outcome → State → Prop) (XC : String → State → State → Prop) (free : Addr → Prop) : Prop :=
  ∀ T : State, T.heap = H → Stand p l e R s m args below meth c T locs cells slots →
    (∃ (v : Option Value) (st₀ t T' : State) (L : List Loc), st₀.heap = H ∧ Stand p l e R s m args below meth c T' (locs ++ L) (cells + mc) (slots + ms) ∧ (∀ q ∈ L, free q.base) ∧ T'.heap = t.heap ∧ T'.vm = t.vm ∧ Qa st₀ (.returned v) t ∧
      Goes p e below T g T' { g with pc := g.pc + 3, stack := v.toList ++ rest }) ∨
    (∃ (q : Addr) (st₀ t T' : State) (L : List Loc) (E : String) (ce : Cell), st₀.heap = H ∧ Stand p l e R s m args below meth c T' (locs ++ L) (cells + mc) (slots + ms) ∧ (∀ z ∈ L, free z.base) ∧ T'.heap = t.heap ∧ T'.vm = t.vm ∧ XC E st₀ t ∧ t.heap[q]? = some ce ∧ ce.vm = .none ∧ s.vm.findClass E = some ce.cls ∧
      Steps p.tables e below (T.setTop g) ((T'.setTop { g with stack := rest }).pushFrame (.throwing q)))
def vx_X {S : Type} (px : S → Prop) (B : String → S → State → Prop) (A : Nat → Prop) : String → State → State → Prop := fun E st t => ∃ u : S, px u ∧ B E u t ∧ va_F A st t
section Runs
variable {p : Program} {l : Launch} {e : Env} {R : Room} {s : State} {m : MethodId} {args : Array Value} {below : List Frame} {meth : Method} {c : Code} {H : Heap} {locs : List Loc} {cells slots : Nat}
variable {y : MethodName} {bytes cc : ByteArray} {maxL nL mc ms n index : Nat} {ret : Option FieldType} {ws : List Cond} {rm : Room} {Pc : Array Value → State → Prop} {Qc : Array Value → State → Outcome → State → Prop} {XC : String → State → State → Prop} {free : Addr → Prop} {Ts : List Cond} {own C : String} {b : Addr} {As rest : List Value} {g : JFrame}
theorem vx_callBack (cb : CallB R s args own index y bytes maxL ret ws rm mc ms n) (hM : vx_Met l y ws rm Pc Qc XC mc ms free) (hbl : FrameBlind Pc) : vx_Back l R p e below s args y 3 8 (PreOf R mc ms Pc) (PostOf Qc mc ms free) (vx_Post XC mc ms free) := by
  obtain ⟨hrc, hrs, hfr, hlo, hws, hcw, -, hini, -⟩ := cb
  exact vx_back (bytes := bytes) (maxL := maxL) (ret := ret) hM hbl hrc hrs hfr hlo hws hcw (fun a' U hW => word_at hW (Or.inl (by first | rfl | simp [Cond.onTables, Cond.keeps, Cond.steady])) hini)
theorem vx_runV (S : CallFix p m c cc nL s args Ts own) (hM : vx_Met l y ws rm Pc Qc XC mc ms free) (cw : CallW R s args own C index y bytes maxL ret ws rm mc ms n) (hp : PreV s H C b Pc As)
    (hg : g.method = m) (hn : As.length = n) (hsize : g.locals.size = nL) (hstack : g.stack = As.reverse ++ .ref b :: rest) (hW : 2 * g.monitorRoom + (rest.map fun v => v.category).sum ≤ 8) (hdg : decode cc g.pc = .ok (.invokevirtual index, 3)) (hf : cells + mc ≤ R.cells ∧ slots + ms ≤ R.slots) :
    vx_Run p l e R s m args below meth c H locs cells slots mc ms g rest (Qc (Value.ref b :: As).toArray) XC free := by
  have hK : vx_Back l R p e below s args y 3 8 (PreOf R mc ms Pc) (PostOf Qc mc ms free) (vx_Post XC mc ms free) := vx_callBack cw.1 hM hp.1
  obtain ⟨⟨-, -, -, -, -, -, hcode, -, hy, hlen, hl⟩, hin, hse⟩ := cw
  obtain ⟨hx, hb, hml, ho, -⟩ := S
  obtain ⟨-, ⟨cellB, hcB, hoB, hclB⟩, hPc⟩ := hp
  intro T hT X
  rcases vx_callV X hx (C := C) (bytes := bytes) (maxL := maxL) (ret := ret) ho hl hin hse hcode hy hK (by rw [hT]; exact hcB) hoB hclB hg (hsize.trans hml.symm) (argsL := As) (rest := rest) (fun sig h => hn.trans (hlen sig h)) hstack hW (by rw [hb]; exact hdg)
    (fun vm₁ hW₁ => ⟨hf.1, hf.2, hPc (T.setVm vm₁) hT hW₁⟩) with ⟨v, vm₁, ⟨U', l2, c2, s2⟩, hW₁, X', ⟨g', mk, t, L, e1, e2, hq, h1, hL, h2, h3⟩, st⟩ | ⟨q, vm₁, ⟨U', l2, c2, s2⟩, hW₁, X', ⟨g', mk, t, L, E, ce, e1, e2, hq, hce, hcv, hcl, h1, hL, h2, h3⟩, st⟩
  · dsimp only [Pt.U, Pt.locs, Pt.cells, Pt.slots] at X' e1 e2 h1 h2 h3 st
    subst h1; subst h2; subst h3
    exact Or.inl ⟨v, (T.setVm vm₁).calling g' mk (Value.ref b :: As).toArray, t, U', L, hT, X', hL, e1, e2, hq, st⟩
  · dsimp only [Pt.U, Pt.locs, Pt.cells, Pt.slots] at X' e1 e2 h1 h2 h3 st hcl
    subst h1; subst h2; subst h3
    exact Or.inr ⟨q, (T.setVm vm₁).calling g' mk (Value.ref b :: As).toArray, t, U', L, E, ce, hT, X', hL, e1, e2, hq, hce, hcv, vx_cls hW₁ hcl, st⟩
theorem vx_runS (S : CallFix p m c cc nL s args Ts own) (hM : vx_Met l y ws rm Pc Qc XC mc ms free) (cw : CallB R s args own index y bytes maxL ret ws rm mc ms n ∧ (Cond.static y).before args s = true) (hp : PreS s H Pc As)
    (hg : g.method = m) (hn : As.length = n) (hsize : g.locals.size = nL) (hstack : g.stack = As.reverse ++ rest) (hW : 2 * g.monitorRoom + (rest.map fun v => v.category).sum ≤ 8) (hdg : decode cc g.pc = .ok (.invokestatic index, 3)) (hf : cells + mc ≤ R.cells ∧ slots + ms ≤ R.slots) :
    vx_Run p l e R s m args below meth c H locs cells slots mc ms g rest (Qc As.toArray) XC free := by
  have hK : vx_Back l R p e below s args y 3 8 (PreOf R mc ms Pc) (PostOf Qc mc ms free) (vx_Post XC mc ms free) := vx_callBack cw.1 hM hp.1
  obtain ⟨⟨-, -, -, -, -, -, hcode, hini, hy, hlen, hl⟩, hstt⟩ := cw
  obtain ⟨hx, hb, hml, ho, -⟩ := S
  intro T hT X
  rcases vx_callS X hx (bytes := bytes) (maxL := maxL) (ret := ret) ho hl hstt hini hcode hy hK hg (hsize.trans hml.symm) (argsL := As) (rest := rest) (fun sig h => hn.trans (hlen sig h)) hstack hW (by rw [hb]; exact hdg)
    (fun vm₁ hW₁ => ⟨hf.1, hf.2, hp.2 (T.setVm vm₁) hT hW₁⟩) with ⟨v, vm₁, ⟨U', l2, c2, s2⟩, hW₁, X', ⟨g', mk, t, L, e1, e2, hq, h1, hL, h2, h3⟩, st⟩ | ⟨q, vm₁, ⟨U', l2, c2, s2⟩, hW₁, X', ⟨g', mk, t, L, E, ce, e1, e2, hq, hce, hcv, hcl, h1, hL, h2, h3⟩, st⟩
  · dsimp only [Pt.U, Pt.locs, Pt.cells, Pt.slots] at X' e1 e2 h1 h2 h3 st
    subst h1; subst h2; subst h3
    exact Or.inl ⟨v, (T.setVm vm₁).calling g' mk As.toArray, t, U', L, hT, X', hL, e1, e2, hq, st⟩
  · dsimp only [Pt.U, Pt.locs, Pt.cells, Pt.slots] at X' e1 e2 h1 h2 h3 st hcl
    subst h1; subst h2; subst h3
    exact Or.inr ⟨q, (T.setVm vm₁).calling g' mk As.toArray, t, U', L, E, ce, hT, X', hL, e1, e2, hq, hce, hcv, vx_cls hW₁ hcl, st⟩
end Runs
section Rows
variable {p : Program} {l : Launch} {e : Env} {R : Room} {s : State} {m : MethodId} {args : Array Value} {below : List Frame} {meth : Method} {c : Code} {H : Heap} {locs : List Loc} {cells slots : Nat} {Q : State → Prop}
variable {mc ms : Nat} {free : Addr → Prop} {A0 A1 : Nat → Prop} {H0 : Heap} {a : Array Value} {pc : Nat} {ls : Array Slot} {st0 rest : List Value}
theorem vx_keep {st₀ t T' : State} {L : List Loc} (h0 : st₀.heap = H) (e1 : T'.heap = t.heap) (hS : va_S A0 H0 H locs) (hA : ∀ q, q < H.size → A1 q → A0 q) (hf : ∀ q, free q → A0 q) (hL : ∀ q ∈ L, free q.base) (hF : va_F A1 st₀ t) :
    H.size ≤ T'.heap.size ∧ (∀ q : Nat, q < H.size → ¬ A1 q → T'.heap[q]? = H[q]?) ∧ va_S A0 H0 T'.heap (locs ++ L) := by
  obtain ⟨hz, hk⟩ := hF
  rw [h0] at hz hk
  exact ⟨by rw [e1]; exact hz, fun q h1 h2 => by rw [e1]; exact hk q h1 h2,
    ⟨Nat.le_trans hS.1 (by rw [e1]; exact hz), fun q h1 h2 => by rw [e1, hk q (Nat.lt_of_lt_of_le h1 hS.1) (fun z => h2 (hA q (Nat.lt_of_lt_of_le h1 hS.1) z))]; exact hS.2.1 q h1 h2, fun q hq => by
      rcases List.mem_append.mp hq with h | h
      · exact hS.2.2 q h
      · exact hf _ (hL q h)⟩⟩
theorem vx_calli {S SX : Type} {post : Int32 → S → Prop} {px : SX → Prop} {B : S → State → Prop} {BX : String → SX → State → Prop} {AX : Nat → Prop} (hr : vx_Run p l e R s m args below meth c H locs cells slots mc ms (F0 m pc ls st0) rest (va_Qi post B A1 a) (vx_X px BX AX) free) (hS : va_S A0 H0 H locs) (hA : ∀ q, q < H.size → A1 q → A0 q) (hf : ∀ q, free q → A0 q) (hAX : ∀ q, q < H.size → AX q → A0 q)
    (kx : ∀ (E : String) (ce : Cell) (q9 : Addr) (u : SX) (t : State) (H1 : Heap) (locs1 : List Loc), t.heap = H1 → s.vm.Alike t.vm → px u → BX E u t → H.size ≤ H1.size → (∀ q : Nat, q < H.size → ¬ AX q → H1[q]? = H[q]?) → va_S A0 H0 H1 locs1 → H1[q9]? = some ce → ce.vm = .none → s.vm.findClass E = some ce.cls → vx_W p l e R s m args below meth c H1 locs1 (cells + mc) (slots + ms) Q (F0 m pc ls rest) q9)
    (kk : ∀ (r : Int32) (u : S) (t : State) (H1 : Heap) (locs1 : List Loc), t.heap = H1 → s.vm.Alike t.vm → post r u → B u t → H.size ≤ H1.size → (∀ q : Nat, q < H.size → ¬ A1 q → H1[q]? = H[q]?) → va_S A0 H0 H1 locs1 → W p l e R s m args below meth c H1 locs1 (cells + mc) (slots + ms) Q (F0 m (pc + 3) ls (.int r :: rest))) : W p l e R s m args below meth c H locs cells slots Q (F0 m pc ls st0) := by
  intro T hT X
  rcases hr T hT X with ⟨v, st₀, t, T', L, h0, X', hL, e1, e2, ⟨⟨r, u, hv, hp, hb⟩, hF⟩, st⟩ | ⟨q, st₀, t, T', L, E, ce, h0, X', hL, e1, e2, ⟨u, hp, hb, hF⟩, hce, hcv, hcl, st⟩
  · cases hv
    obtain ⟨k1, k2, k3⟩ := vx_keep h0 e1 hS hA hf hL hF
    obtain ⟨t2, a1, b1⟩ := kk r u t T'.heap (locs ++ L) e1.symm (by rw [← e2]; exact X'.warmed.alike) hp hb k1 k2 k3 T' rfl X'
    exact ⟨t2, st t2 a1, b1⟩
  · obtain ⟨k1, k2, k3⟩ := vx_keep h0 e1 hS hAX hf hL hF
    obtain ⟨t2, a1, b1⟩ := kx E ce q u t T'.heap (locs ++ L) e1.symm (by rw [← e2]; exact X'.warmed.alike) hp hb k1 k2 k3 (by rw [e1]; exact hce) hcv hcl T' rfl X'
    exact ⟨t2, st.trans a1, b1⟩
theorem vx_calll {S SX : Type} {post : Int64 → S → Prop} {px : SX → Prop} {B : S → State → Prop} {BX : String → SX → State → Prop} {AX : Nat → Prop} (hr : vx_Run p l e R s m args below meth c H locs cells slots mc ms (F0 m pc ls st0) rest (va_Ql post B A1 a) (vx_X px BX AX) free) (hS : va_S A0 H0 H locs) (hA : ∀ q, q < H.size → A1 q → A0 q) (hf : ∀ q, free q → A0 q) (hAX : ∀ q, q < H.size → AX q → A0 q)
    (kx : ∀ (E : String) (ce : Cell) (q9 : Addr) (u : SX) (t : State) (H1 : Heap) (locs1 : List Loc), t.heap = H1 → s.vm.Alike t.vm → px u → BX E u t → H.size ≤ H1.size → (∀ q : Nat, q < H.size → ¬ AX q → H1[q]? = H[q]?) → va_S A0 H0 H1 locs1 → H1[q9]? = some ce → ce.vm = .none → s.vm.findClass E = some ce.cls → vx_W p l e R s m args below meth c H1 locs1 (cells + mc) (slots + ms) Q (F0 m pc ls rest) q9)
    (kk : ∀ (r : Int64) (u : S) (t : State) (H1 : Heap) (locs1 : List Loc), t.heap = H1 → s.vm.Alike t.vm → post r u → B u t → H.size ≤ H1.size → (∀ q : Nat, q < H.size → ¬ A1 q → H1[q]? = H[q]?) → va_S A0 H0 H1 locs1 → W p l e R s m args below meth c H1 locs1 (cells + mc) (slots + ms) Q (F0 m (pc + 3) ls (.long r :: rest))) : W p l e R s m args below meth c H locs cells slots Q (F0 m pc ls st0) := by
  intro T hT X
  rcases hr T hT X with ⟨v, st₀, t, T', L, h0, X', hL, e1, e2, ⟨⟨r, u, hv, hp, hb⟩, hF⟩, st⟩ | ⟨q, st₀, t, T', L, E, ce, h0, X', hL, e1, e2, ⟨u, hp, hb, hF⟩, hce, hcv, hcl, st⟩
  · cases hv
    obtain ⟨k1, k2, k3⟩ := vx_keep h0 e1 hS hA hf hL hF
    obtain ⟨t2, a1, b1⟩ := kk r u t T'.heap (locs ++ L) e1.symm (by rw [← e2]; exact X'.warmed.alike) hp hb k1 k2 k3 T' rfl X'
    exact ⟨t2, st t2 a1, b1⟩
  · obtain ⟨k1, k2, k3⟩ := vx_keep h0 e1 hS hAX hf hL hF
    obtain ⟨t2, a1, b1⟩ := kx E ce q u t T'.heap (locs ++ L) e1.symm (by rw [← e2]; exact X'.warmed.alike) hp hb k1 k2 k3 (by rw [e1]; exact hce) hcv hcl T' rfl X'
    exact ⟨t2, st.trans a1, b1⟩
theorem vx_callf {S SX : Type} {post : UInt32 → S → Prop} {px : SX → Prop} {B : S → State → Prop} {BX : String → SX → State → Prop} {AX : Nat → Prop} (hr : vx_Run p l e R s m args below meth c H locs cells slots mc ms (F0 m pc ls st0) rest (va_Qf post B A1 a) (vx_X px BX AX) free) (hS : va_S A0 H0 H locs) (hA : ∀ q, q < H.size → A1 q → A0 q) (hf : ∀ q, free q → A0 q) (hAX : ∀ q, q < H.size → AX q → A0 q)
    (kx : ∀ (E : String) (ce : Cell) (q9 : Addr) (u : SX) (t : State) (H1 : Heap) (locs1 : List Loc), t.heap = H1 → s.vm.Alike t.vm → px u → BX E u t → H.size ≤ H1.size → (∀ q : Nat, q < H.size → ¬ AX q → H1[q]? = H[q]?) → va_S A0 H0 H1 locs1 → H1[q9]? = some ce → ce.vm = .none → s.vm.findClass E = some ce.cls → vx_W p l e R s m args below meth c H1 locs1 (cells + mc) (slots + ms) Q (F0 m pc ls rest) q9)
    (kk : ∀ (r : UInt32) (u : S) (t : State) (H1 : Heap) (locs1 : List Loc), t.heap = H1 → s.vm.Alike t.vm → post r u → B u t → H.size ≤ H1.size → (∀ q : Nat, q < H.size → ¬ A1 q → H1[q]? = H[q]?) → va_S A0 H0 H1 locs1 → W p l e R s m args below meth c H1 locs1 (cells + mc) (slots + ms) Q (F0 m (pc + 3) ls (.float r :: rest))) : W p l e R s m args below meth c H locs cells slots Q (F0 m pc ls st0) := by
  intro T hT X
  rcases hr T hT X with ⟨v, st₀, t, T', L, h0, X', hL, e1, e2, ⟨⟨r, u, hv, hp, hb⟩, hF⟩, st⟩ | ⟨q, st₀, t, T', L, E, ce, h0, X', hL, e1, e2, ⟨u, hp, hb, hF⟩, hce, hcv, hcl, st⟩
  · cases hv
    obtain ⟨k1, k2, k3⟩ := vx_keep h0 e1 hS hA hf hL hF
    obtain ⟨t2, a1, b1⟩ := kk r u t T'.heap (locs ++ L) e1.symm (by rw [← e2]; exact X'.warmed.alike) hp hb k1 k2 k3 T' rfl X'
    exact ⟨t2, st t2 a1, b1⟩
  · obtain ⟨k1, k2, k3⟩ := vx_keep h0 e1 hS hAX hf hL hF
    obtain ⟨t2, a1, b1⟩ := kx E ce q u t T'.heap (locs ++ L) e1.symm (by rw [← e2]; exact X'.warmed.alike) hp hb k1 k2 k3 (by rw [e1]; exact hce) hcv hcl T' rfl X'
    exact ⟨t2, st.trans a1, b1⟩
theorem vx_calld {S SX : Type} {post : UInt64 → S → Prop} {px : SX → Prop} {B : S → State → Prop} {BX : String → SX → State → Prop} {AX : Nat → Prop} (hr : vx_Run p l e R s m args below meth c H locs cells slots mc ms (F0 m pc ls st0) rest (va_Qd post B A1 a) (vx_X px BX AX) free) (hS : va_S A0 H0 H locs) (hA : ∀ q, q < H.size → A1 q → A0 q) (hf : ∀ q, free q → A0 q) (hAX : ∀ q, q < H.size → AX q → A0 q)
    (kx : ∀ (E : String) (ce : Cell) (q9 : Addr) (u : SX) (t : State) (H1 : Heap) (locs1 : List Loc), t.heap = H1 → s.vm.Alike t.vm → px u → BX E u t → H.size ≤ H1.size → (∀ q : Nat, q < H.size → ¬ AX q → H1[q]? = H[q]?) → va_S A0 H0 H1 locs1 → H1[q9]? = some ce → ce.vm = .none → s.vm.findClass E = some ce.cls → vx_W p l e R s m args below meth c H1 locs1 (cells + mc) (slots + ms) Q (F0 m pc ls rest) q9)
    (kk : ∀ (r : UInt64) (u : S) (t : State) (H1 : Heap) (locs1 : List Loc), t.heap = H1 → s.vm.Alike t.vm → post r u → B u t → H.size ≤ H1.size → (∀ q : Nat, q < H.size → ¬ A1 q → H1[q]? = H[q]?) → va_S A0 H0 H1 locs1 → W p l e R s m args below meth c H1 locs1 (cells + mc) (slots + ms) Q (F0 m (pc + 3) ls (.double r :: rest))) : W p l e R s m args below meth c H locs cells slots Q (F0 m pc ls st0) := by
  intro T hT X
  rcases hr T hT X with ⟨v, st₀, t, T', L, h0, X', hL, e1, e2, ⟨⟨r, u, hv, hp, hb⟩, hF⟩, st⟩ | ⟨q, st₀, t, T', L, E, ce, h0, X', hL, e1, e2, ⟨u, hp, hb, hF⟩, hce, hcv, hcl, st⟩
  · cases hv
    obtain ⟨k1, k2, k3⟩ := vx_keep h0 e1 hS hA hf hL hF
    obtain ⟨t2, a1, b1⟩ := kk r u t T'.heap (locs ++ L) e1.symm (by rw [← e2]; exact X'.warmed.alike) hp hb k1 k2 k3 T' rfl X'
    exact ⟨t2, st t2 a1, b1⟩
  · obtain ⟨k1, k2, k3⟩ := vx_keep h0 e1 hS hAX hf hL hF
    obtain ⟨t2, a1, b1⟩ := kx E ce q u t T'.heap (locs ++ L) e1.symm (by rw [← e2]; exact X'.warmed.alike) hp hb k1 k2 k3 (by rw [e1]; exact hce) hcv hcl T' rfl X'
    exact ⟨t2, st.trans a1, b1⟩
theorem vx_callv {S SX : Type} {post : S → Prop} {px : SX → Prop} {B : S → State → Prop} {BX : String → SX → State → Prop} {AX : Nat → Prop} (hr : vx_Run p l e R s m args below meth c H locs cells slots mc ms (F0 m pc ls st0) rest (va_Qv post B A1 a) (vx_X px BX AX) free) (hS : va_S A0 H0 H locs) (hA : ∀ q, q < H.size → A1 q → A0 q) (hf : ∀ q, free q → A0 q) (hAX : ∀ q, q < H.size → AX q → A0 q)
    (kx : ∀ (E : String) (ce : Cell) (q9 : Addr) (u : SX) (t : State) (H1 : Heap) (locs1 : List Loc), t.heap = H1 → s.vm.Alike t.vm → px u → BX E u t → H.size ≤ H1.size → (∀ q : Nat, q < H.size → ¬ AX q → H1[q]? = H[q]?) → va_S A0 H0 H1 locs1 → H1[q9]? = some ce → ce.vm = .none → s.vm.findClass E = some ce.cls → vx_W p l e R s m args below meth c H1 locs1 (cells + mc) (slots + ms) Q (F0 m pc ls rest) q9)
    (kk : ∀ (u : S) (t : State) (H1 : Heap) (locs1 : List Loc), t.heap = H1 → s.vm.Alike t.vm → post u → B u t → H.size ≤ H1.size → (∀ q : Nat, q < H.size → ¬ A1 q → H1[q]? = H[q]?) → va_S A0 H0 H1 locs1 → W p l e R s m args below meth c H1 locs1 (cells + mc) (slots + ms) Q (F0 m (pc + 3) ls (rest))) : W p l e R s m args below meth c H locs cells slots Q (F0 m pc ls st0) := by
  intro T hT X
  rcases hr T hT X with ⟨v, st₀, t, T', L, h0, X', hL, e1, e2, ⟨⟨u, hv, hp, hb⟩, hF⟩, st⟩ | ⟨q, st₀, t, T', L, E, ce, h0, X', hL, e1, e2, ⟨u, hp, hb, hF⟩, hce, hcv, hcl, st⟩
  · cases hv
    obtain ⟨k1, k2, k3⟩ := vx_keep h0 e1 hS hA hf hL hF
    obtain ⟨t2, a1, b1⟩ := kk u t T'.heap (locs ++ L) e1.symm (by rw [← e2]; exact X'.warmed.alike) hp hb k1 k2 k3 T' rfl X'
    exact ⟨t2, st t2 a1, b1⟩
  · obtain ⟨k1, k2, k3⟩ := vx_keep h0 e1 hS hAX hf hL hF
    obtain ⟨t2, a1, b1⟩ := kx E ce q u t T'.heap (locs ++ L) e1.symm (by rw [← e2]; exact X'.warmed.alike) hp hb k1 k2 k3 (by rw [e1]; exact hce) hcv hcl T' rfl X'
    exact ⟨t2, st.trans a1, b1⟩
/-- caught by the row x of this method's table; the rows ahead don't take it -/
theorem vx_catch {own name : String} {E : String} {ce : Cell} {q : Addr} (hown : s.vm.findClass own = some m.cls) (pre : List ExceptionTableEntry) (x : ExceptionTableEntry) (suf : List ExceptionTableEntry) (hsplit : c.exceptionTable.toList = pre ++ x :: suf)
    (hpass : ∀ z ∈ pre, covers z pc = false ∨ (z.catchType ≠ 0 ∧ ∃ nm : String, (Cond.classLink own z.catchType nm).before args s = true ∧ va_Nc E nm s)) (hx : covers x pc = true) (h0 : x.catchType ≠ 0)
    (hlink : (Cond.classLink own x.catchType name).before args s = true) (hcast : (Cond.castable E name).before args s = true) (hcell : H[q]? = some ce) (hv : ce.vm = .none) (hcl : s.vm.findClass E = some ce.cls)
    (kk : W p l e R s m args below meth c H locs cells slots Q (F0 m x.handlerPc ls [.ref q])) : vx_W p l e R s m args below meth c H locs cells slots Q (F0 m pc ls rest) q := by
  intro T hT X
  have hpl : e.platform.magicAccessors = ({} : Platform).magicAccessors := by rw [X.admits.platform]
  obtain ⟨c3, c4, hc3, hc4, hasg⟩ := Cond.castable_spec hcast
  cases Option.some.inj (hc3.symm.trans hcl)
  obtain ⟨c5, hc5, hcl5⟩ := Cond.classLink_spec hown hlink e.platform hpl
  cases Option.some.inj (hc4.symm.trans hc5)
  obtain ⟨vm', X', st⟩ := X.thenCaughtThrough q (g := F0 m pc ls rest) rfl (Steps.refl _) (by rw [hT]; exact hcell) (by rw [hv]; rfl) (by obtain ⟨k9, h9, -⟩ := Vm.findClass_spec hcl; exact ⟨k9, h9⟩) pre x suf hsplit
    (fun z hz => by
      rcases hpass z hz with h | ⟨hz0, nm, hl1, hn1⟩
      · exact Or.inl h
      · obtain ⟨c6, hc6, hcl6⟩ := Cond.classLink_spec hown hl1 e.platform hpl
        obtain ⟨a8, b8, h1, h2, h3⟩ := hn1
        cases Option.some.inj (h1.symm.trans hcl)
        cases Option.some.inj (h2.symm.trans hc6)
        exact Or.inr ⟨hz0, _, hcl6, h3⟩) hx (Or.inr ⟨h0, c4, hcl5, hasg⟩)
  obtain ⟨t, a1, b1⟩ := kk (T.setVm vm') hT X'
  exact ⟨t, st.trans a1, b1⟩
end Rows
section Ends
variable {p : Program} {l : Launch} {e : Env} {R : Room} {s : State} {m : MethodId} {args : Array Value} {below : List Frame} {meth : Method} {c : Code} {H : Heap} {locs : List Loc} {cells slots : Nat} {Q : State → Prop}
variable {mc ms : Nat} {free : Addr → Prop} {A0 A1 : Nat → Prop} {H0 : Heap} {a : Array Value} {ls : Array Slot} {st0 rest : List Value}
variable {Qc : Array Value → State → Outcome → State → Prop} {XC : String → State → State → Prop}
/-- what a body that may throw owes at its end -/
def vx_MQ (below : List Frame) (Qc : Array Value → State → Outcome → State → Prop) (XC : String → State → State → Prop) (a : Array Value) (s : State) (mc ms : Nat) (free : Addr → Prop) : State → Prop := fun t =>
  ∃ o, t.status = .running ∧ Ended t below o ∧ vx_Q Qc XC mc ms free a s o t
theorem vx_ret {g : JFrame} {mc ms : Nat} (k : W p l e R s m args below meth c H locs cells slots (MQ below Qc args s mc ms free) g) : W p l e R s m args below meth c H locs cells slots (vx_MQ below Qc XC args s mc ms free) g := by
  intro T hT X
  obtain ⟨t, a1, o, b1, b2, b3, b4⟩ := k T hT X
  exact ⟨t, a1, o, b1, b2, Or.inl ⟨b3, b4⟩⟩
/-- not caught here: it goes on to the caller -/
theorem vx_widen {g : JFrame} {q : Addr} {k n : Nat} (h1 : cells ≤ k) (h2 : slots ≤ n) (kk : vx_W p l e R s m args below meth c H locs k n Q g q) : vx_W p l e R s m args below meth c H locs cells slots Q g q := fun T hT X => kk T hT (stand_widen X h1 h2)
theorem vx_out {pc : Nat} {E : String} {ce : Cell} {q : Addr} {mc ms : Nat} (hout : ∀ x ∈ c.exceptionTable.toList, covers x pc = false) (hlocks : meth.locks = false) (hcell : H[q]? = some ce) (hv : ce.vm = .none) (hcl : s.vm.findClass E = some ce.cls)
    (hx : ∀ t : State, t.heap = H → s.vm.Alike t.vm → XC E s t) (hf : ∀ z ∈ locs, free z.base) (hc : cells ≤ mc) (hs : slots ≤ ms) :
    vx_W p l e R s m args below meth c H locs cells slots (vx_MQ below Qc XC args s mc ms free) (F0 m pc ls rest) q := by
  intro T hT X
  obtain ⟨st1, hrun, hend, hW, hsm⟩ := X.leaveThrown q (g := F0 m pc ls rest) rfl rfl rfl hout hlocks
  have hcell9 : (T.setFrames (.throwing q :: below)).heap[q]? = some ce := by
    show T.heap[q]? = some ce
    rw [hT]; exact hcell
  exact ⟨_, st1, .threw q, hrun, hend, Or.inr ⟨q, rfl, E, ce, locs, hx _ hT hW.alike, hcell9, hv, hcl, hW, hsm.mono hc hs, hf⟩⟩
theorem vx_frame {U : State} {k n : Nat} (h : s.sameButNew ({ U with vm := s.vm } : State) locs k n) : s.heap.size ≤ U.heap.size ∧ ∀ q : Nat, q < s.heap.size → (∀ z ∈ locs, z.base ≠ q) → U.heap[q]? = s.heap[q]? := by
  obtain ⟨-, h2, -, -, -, h6⟩ := h
  refine ⟨h2, fun q hq hz => ?_⟩
  obtain ⟨c9, e1, e2, e3, e4⟩ := h6 q _ (Array.getElem?_eq_getElem hq)
  have hs : c9.slots = (s.heap[q]).slots := Array.ext_getElem? fun i => e4 i fun hm => hz _ hm rfl
  have h9 : c9 = s.heap[q] := by
    rw [hs] at e2
    exact e2
  have e5 : U.heap[q]? = some c9 := e1
  rw [e5, h9, Array.getElem?_eq_getElem hq]
/-- the words of a throw but the four that speak of the heap -/
def vx_no (w : Cond) : Bool := decide (w ≠ .isRef (.static Bundle.tN "UNASSIGNED_STACK" Bundle.steD)) && decide (w ≠ .isRef (.static Bundle.tN "SUPPRESSED_SENTINEL" Bundle.listD)) && decide (w ≠ .laysStatic Bundle.tN "UNASSIGNED_STACK" Bundle.steD) && decide (w ≠ .laysStatic Bundle.tN "SUPPRESSED_SENTINEL" Bundle.listD)
def vx_at0 (own : String) (ic : Nat) (X : String) (names : List String) : List Cond := (Bundle.ownAtoms0 own ic X names).filter vx_no
def vx_atS (own : String) (ic : Nat) (X : String) (names : List String) : List Cond := (Bundle.ownAtoms own ic X names).filter vx_no
/-- a word that the tables alone decide, or a good one -/
def vx_ot (w : Cond) : Bool := w.onTables || goodWord w
theorem vx_ot_at {args a' : Array Value} {s U : State} {w : Cond} (hW : s.WarmedH U.vm) (hvm : s.vm = U.vm) (hg : vx_ot w = true) (h : w.before args s = true) : w.before a' U = true := by
  simp only [vx_ot, Bool.or_eq_true] at hg
  rcases hg with hg | hg
  · exact va_tabs hg hvm h
  · exact word_at hW (good_of_word hg) h
/-- a list's words: the good ones out of the method's own list, the others by premises of their own -/
theorem vx_hat {args : Array Value} {s : State} {L B : List Cond} (h1 : ∀ w ∈ L.filter goodWord, w.before args s = true) (h2 : ∀ w ∈ L.filter (fun w => !goodWord w), w ∈ B) (h3 : ∀ w ∈ B, w.before args s = true) : ∀ w ∈ L, w.before args s = true := by
  intro w hw
  by_cases g : goodWord w = true
  · exact h1 w (List.mem_filter.mpr ⟨hw, g⟩)
  · refine h3 w (h2 w (List.mem_filter.mpr ⟨hw, ?_⟩))
    show (!goodWord w) = true
    cases hgw : goodWord w
    · rfl
    · exact absurd hgw g
theorem vx_c {args : Array Value} {s : State} {w : Cond} {B : List Cond} (h : w.before args s = true) (t : ∀ w ∈ B, w.before args s = true) : ∀ w' ∈ w :: B, w'.before args s = true := fun w' h' => (List.mem_cons.mp h').elim (fun e => by rw [e]; exact h) (t w')
theorem vx_n {args : Array Value} {s : State} : ∀ w ∈ ([] : List Cond), w.before args s = true := fun _ h => nomatch h
theorem vx_own {args : Array Value} {s : State} {L : List Cond} (h1 : ∀ w ∈ L.filter vx_no, w.before args s = true)
    (hU : (Cond.isRef (.static Bundle.tN "UNASSIGNED_STACK" Bundle.steD)).before args s = true) (hN : (Cond.isRef (.static Bundle.tN "SUPPRESSED_SENTINEL" Bundle.listD)).before args s = true)
    (lU : (Cond.laysStatic Bundle.tN "UNASSIGNED_STACK" Bundle.steD).before args s = true) (lN : (Cond.laysStatic Bundle.tN "SUPPRESSED_SENTINEL" Bundle.listD).before args s = true) : ∀ w ∈ L, w.before args s = true := by
  intro w hw
  by_cases e1 : w = .isRef (.static Bundle.tN "UNASSIGNED_STACK" Bundle.steD)
  · rw [e1]; exact hU
  · by_cases e2 : w = .isRef (.static Bundle.tN "SUPPRESSED_SENTINEL" Bundle.listD)
    · rw [e2]; exact hN
    · by_cases e3 : w = .laysStatic Bundle.tN "UNASSIGNED_STACK" Bundle.steD
      · rw [e3]; exact lU
      · by_cases e4 : w = .laysStatic Bundle.tN "SUPPRESSED_SENTINEL" Bundle.listD
        · rw [e4]; exact lN
        · exact h1 w (List.mem_filter.mpr ⟨hw, by unfold vx_no; rw [decide_eq_true e1, decide_eq_true e2, decide_eq_true e3, decide_eq_true e4]; rfl⟩)
/-- where a static field lies, its class's statics cell in H -/
def vx_L (C n d : String) (A : Nat → Prop) (U : State) (H : Heap) : Prop := ∃ (c : ClassId) (k : Class) (i : Nat) (f : Field) (a : Nat) (cell : Cell), U.vm.findClass C = some c ∧ U.fieldFound? C n d = some (c, k, i, f) ∧ f.isStatic = true ∧ k.statics = some a ∧ H[a]? = some cell ∧ cell.vm.isStatics = true ∧ cell.cls = c ∧ f.slot < cell.slots.size ∧ k.staticTypes[f.slot]? = some f.type ∧ ¬ A a
theorem vx_L.moved {C n d : String} {A : Nat → Prop} {u U : State} {H : Heap} (hvm : u.vm.Alike U.vm) (h : vx_L C n d A u H) : vx_L C n d A U H := by
  obtain ⟨c, k, i, f, a, cell, h1, h2, h3, h4, h5, h6, h7, h8, h9, h10⟩ := h
  obtain ⟨k', hi', he⟩ := State.fieldFound?_setVm hvm h2
  exact ⟨c, k', i, f, a, cell, by rw [hvm.findClass]; exact h1, hi', h3, by rw [he]; exact h4, h5, h6, h7, h8, by rw [he]; exact h9, h10⟩
theorem vx_L.kept {C n d : String} {A : Nat → Prop} {U : State} {H H1 : Heap} (h : vx_L C n d A U H) (hq : ∀ a : Nat, a < H.size → ¬ A a → H1[a]? = H[a]?) : vx_L C n d A U H1 := by
  obtain ⟨c, k, i, f, a, cell, h1, h2, h3, h4, h5, h6, h7, h8, h9, h10⟩ := h
  exact ⟨c, k, i, f, a, cell, h1, h2, h3, h4, by rw [hq a (Array.getElem?_eq_some_iff.mp h5).1 h10]; exact h5, h6, h7, h8, h9, h10⟩
theorem vx_L.narrow {C n d : String} {A B : Nat → Prop} {U : State} {H : Heap} (h : vx_L C n d A U H) (hAB : ∀ q, B q → A q) : vx_L C n d B U H := by
  obtain ⟨c, k, i, f, a, cell, h1, h2, h3, h4, h5, h6, h7, h8, h9, h10⟩ := h
  exact ⟨c, k, i, f, a, cell, h1, h2, h3, h4, h5, h6, h7, h8, h9, fun z => h10 (hAB _ z)⟩
theorem vx_L.word {C n d : String} {A : Nat → Prop} {s : State} {args : Array Value} (h : vx_L C n d A s s.heap) : (Cond.laysStatic C n d).before args s = true := by
  obtain ⟨c, k, i, f, a, cell, h1, h2, h3, h4, h5, h6, h7, h8, h9, -⟩ := h
  show (Cond.laysStatic C n d).holds args s none s [] = true
  exact Cond.laysStatic_of h1 h2 h3 h4 h5 h6 h7 h8 h9
/-- .. and what it holds: null or some reference -/
def vx_Zq (C n d : String) (A : Nat → Prop) (U : State) (H : Heap) : Prop := va_Zq C n d A U H ∧ vx_L C n d A U H
theorem vx_Zq.moved {C n d : String} {A : Nat → Prop} {u U : State} {H : Heap} (hvm : u.vm.Alike U.vm) (h : vx_Zq C n d A u H) : vx_Zq C n d A U H := ⟨va_Zq.moved hvm h.1, vx_L.moved hvm h.2⟩
theorem vx_Zq.kept {C n d : String} {A : Nat → Prop} {U : State} {H H1 : Heap} (h : vx_Zq C n d A U H) (hq : ∀ a : Nat, a < H.size → ¬ A a → H1[a]? = H[a]?) : vx_Zq C n d A U H1 := ⟨va_Zq.kept h.1 hq, vx_L.kept h.2 hq⟩
theorem vx_Zq.narrow {C n d : String} {A B : Nat → Prop} {U : State} {H : Heap} (h : vx_Zq C n d A U H) (hAB : ∀ q, B q → A q) : vx_Zq C n d B U H := ⟨va_Zq.narrow h.1 hAB, vx_L.narrow h.2 hAB⟩
theorem vx_Zqof {args : Array Value} {s : State} {C n d : String} {A : Nat → Prop} (hl : (Cond.laysStatic C n d).before args s = true) (hini : (Cond.initialized C).before args s = true) (h : (Cond.isRef (.static C n d)).before args s = true) (hA : ∀ a : Nat, a < s.heap.size → ¬ A a) : vx_Zq C n d A s s.heap := by
  refine ⟨va_Zqof hl hini h hA, ?_⟩
  obtain ⟨c, k, i, f, a, cell, h1, h2, h3, h4, h5, h6, h7, h8, h9⟩ := Cond.laysStatic_spec hl
  exact ⟨c, k, i, f, a, cell, h1, h2, h3, h4, h5, h6, h7, h8, h9, hA a (Array.getElem?_eq_some_iff.mp h5).1⟩
theorem vx_isRef {C n d : String} {v : Value} {A : Nat → Prop} {s : State} {args : Array Value} (h : va_Z C n d v A s s.heap) (hv : v.isRef = true) : (Cond.isRef (.static C n d)).before args s = true := by
  obtain ⟨cf, kf, fi, f, a, cell, h1, h2, h3, h4, h5, h6, h7, -⟩ := h
  have he : (Term.static C n d).eval args s none [] s = some v := by
    simp [Term.eval, State.fieldNamed?, h1, h2, h4, h5, h6, h7]
  simp only [Cond.before, Cond.holds, Cond.value, he]
  cases v <;> simp_all [Value.isRef]
theorem vx_isRefq {C n d : String} {A : Nat → Prop} {s : State} {args : Array Value} (h : va_Zq C n d A s s.heap) : (Cond.isRef (.static C n d)).before args s = true := by
  rcases h with h | ⟨t, h⟩
  · exact vx_isRef h rfl
  · exact vx_isRef h rfl
/-- the same frame, seen from here: as if the method were called anew in this heap -/
theorem vx_rebase {T : State} (X : Stand p l e R s m args below meth c T locs cells slots) {R' : Room} (hf : R'.frames ≤ R.frames) (hl : R'.locals ≤ R.locals) (hc : cells + R'.cells ≤ R.cells) (hs : slots + R'.slots ≤ R.slots) :
    Stand p l e R' ((T.setVm s.vm).setFrames (.invoking m args :: below)) m args below meth c T [] 0 0 := by
  have htop : (T.setVm s.vm).topJava?.isSome := X.here.top
  have hF : ((T.setVm s.vm).setFrames (.invoking m args :: below)).frames = .invoking m args :: below := State.frames_setFrames _ (State.cur_lt_of_top htop)
  obtain ⟨g₀, hg0⟩ := Option.isSome_iff_exists.mp htop
  obtain ⟨r, hr⟩ := State.topJava?_eq_some.mp hg0
  have hl9 : e.platform.stackLimits (T.setVm s.vm).me = e.platform.stackLimits s.me := X.limits
  have hb9 : (T.setVm s.vm).me.stackBytes = s.me.stackBytes := X.bytes
  refine ⟨X.admits, X.cas, X.clock, hF, ?_, X.hears, X.method, X.code, X.here, X.tail, X.warmed, ?_, ?_, ?_⟩
  · have h := X.room
    have hU : ((T.setVm s.vm).setFrames (.invoking m args :: below)).localsInUse = s.localsInUse := by
      rw [State.localsInUse_invoking hF (meth := meth) (c := c) X.method X.code, State.localsInUse_invoking X.frames X.method X.code]
    simp only [State.hasRoom, Bool.and_eq_true, decide_eq_true_eq] at h ⊢
    obtain ⟨⟨⟨⟨h1, h2, h3, h4, h5, h6⟩, h7⟩, h8⟩, h9⟩ := h
    rw [X.frames, List.length_cons] at h2 h3
    have q1 := X.heapSize
    have q2 := X.used
    simp only [hF, hU, List.length_cons, State.stackLimits_setFrames, State.stackBytes_setFrames, hl9, hb9]
    refine ⟨⟨⟨⟨by omega, by omega, by omega, by omega, by omega, h6⟩, ?_⟩, ?_⟩, X.book⟩
    · show T.heap.size + R'.cells ≤ e.platform.maxCells
      omega
    · show T.slotsUsed + R'.slots ≤ e.platform.maxSlots
      omega
  · rw [State.stackLimits_setFrames]; rfl
  · rw [State.stackBytes_setFrames]; rfl
  · refine ⟨?_, Nat.le_refl _, Nat.le_refl _, ?_, ?_, fun a c9 h9 => ⟨c9, h9, rfl, rfl, fun _ _ => rfl⟩⟩
    · obtain ⟨t, ht, -⟩ := State.frames_cons hr
      show T.setVm s.vm = { ((T.setVm s.vm).setFrames (.invoking m args :: below)).setFrames (T.setVm s.vm).frames with heap := T.heap, slotsUsed := T.slotsUsed }
      rw [State.setFrames_setFrames, State.setFrames_self ht]
      rfl
    · show T.slotsUsed = T.slotsUsed + ((T.heap.toList.drop T.heap.size).map (·.slots.size)).sum
      rw [List.drop_eq_nil_of_le (Nat.le_of_eq Array.length_toList)]
      rfl
    · show ((T.heap.toList.drop T.heap.size).map (·.slots.size)).sum ≤ 0
      rw [List.drop_eq_nil_of_le (Nat.le_of_eq Array.length_toList)]
      exact Nat.le_refl _
/-- 'throw new E()': new; dup; invokespecial; athrow -/
theorem vx_throw0 {cc : ByteArray} {pc : Nat} (hexec : p.tables.exec = Jvm.exec) (hb : c.code = cc) (hl : l.stackTraces = false) {own cls : String} {names : List String} {ik ic mc ms : Nat} {A : Nat → Prop}
    (hown : s.vm.findClass own = some m.cls) (hcls : Bundle.fit cls = true) (hnames : ∀ n ∈ names, Bundle.fit n = true)
    (hk : (Cond.classLink own ik cls).before args s = true) (hini : (Cond.initialized cls).before args s = true) (hat : ∀ w ∈ vx_at0 own ic cls names, w.before args s = true)
    (hgood : ∀ w ∈ Cond.classLink own ik cls :: Cond.initialized cls :: vx_at0 own ic cls names, vx_ot w = true)
    (hU : vx_Zq Bundle.tN "UNASSIGNED_STACK" Bundle.steD A s s.heap) (hN : vx_Zq Bundle.tN "SUPPRESSED_SENTINEL" Bundle.listD A s s.heap) (hS : va_S A s.heap H locs) (hsize : ls.size = c.maxLocals)
    (d0 : decode cc pc = .ok (.new ik, 3)) (d3 : decode cc (pc + 3) = .ok (.dup, 1)) (d4 : decode cc (pc + 4) = .ok (.invokespecial ic, 3)) (d7 : decode cc (pc + 7) = .ok (.athrow, 1))
    (hout : ∀ x ∈ c.exceptionTable.toList, covers x (pc + 7) = false)
    (hRframes : names.length + 3 < R.frames) (hRlocals : (rest.map fun v => v.category).sum + (13 * (names.length + 1) + 42) ≤ R.locals) (hRcells : cells + 1 ≤ R.cells) (hRslots : slots + 6 ≤ R.slots) (hlocks : meth.locks = false)
    (hx : ∀ t : State, s.vm.Alike t.vm → H.size ≤ t.heap.size → (∀ q : Nat, q < H.size → t.heap[q]? = H[q]?) → XC cls s t)
    (hf : ∀ z ∈ locs, free z.base) (hc : cells + 1 ≤ mc) (hs : slots + 6 ≤ ms) :
    W p l e R s m args below meth c H locs cells slots (vx_MQ below Qc XC args s mc ms free) (F0 m pc ls rest) := by
  intro T hT X
  have htr : e.platform.stackTraces = false := (show e.platform.stackTraces = l.stackTraces by rw [X.admits.platform]).trans hl
  have Y := vx_rebase X (R' := { frames := R.frames, locals := R.locals, cells := 1, slots := 6 }) (Nat.le_refl _) (Nat.le_refl _) hRcells hRslots
  obtain ⟨s', hA⟩ : ∃ z, z = (T.setVm s.vm).setFrames (.invoking m args :: below) := ⟨_, rfl⟩
  rw [← hA] at Y
  have hvm : s'.vm = s.vm := by rw [hA]; rfl
  have hhp : s'.heap = H := by rw [hA]; exact hT
  have hW0 : s.WarmedH s'.vm := by rw [hvm]; exact State.WarmedH.refl s
  have hat' : ∀ w ∈ vx_at0 own ic cls names, w.before args s' = true := fun w hw => vx_ot_at hW0 hvm.symm (hgood w (List.mem_cons_of_mem _ (List.mem_cons_of_mem _ hw))) (hat w hw)
  have hk' : (Cond.classLink own ik cls).before args s' = true := vx_ot_at hW0 hvm.symm (hgood _ List.mem_cons_self) hk
  have hini' : (Cond.initialized cls).before args s' = true := vx_ot_at hW0 hvm.symm (hgood _ (List.mem_cons_of_mem _ List.mem_cons_self)) hini
  have hU' : vx_Zq Bundle.tN "UNASSIGNED_STACK" Bundle.steD A s' s'.heap := by rw [hhp]; exact vx_Zq.moved hW0.alike (hU.kept hS.2.1)
  have hN' : vx_Zq Bundle.tN "SUPPRESSED_SENTINEL" Bundle.listD A s' s'.heap := by rw [hhp]; exact vx_Zq.moved hW0.alike (hN.kept hS.2.1)
  have h : ∀ w ∈ Bundle.ownAtoms0 own ic cls names, w.before args s' = true := vx_own hat' (vx_isRefq hU'.1) (vx_isRefq hN'.1) hU'.2.word hN'.2.word
  have hown' : s'.vm.findClass own = some m.cls := by rw [hvm]; exact hown
  have hins : (Cond.instantiable cls 6).before args s' = true := h _ (by simp [Bundle.ownAtoms0])
  obtain ⟨vm₁, cX, kX, hfX, hkX, -, -, X₁, st1⟩ := Y.newCold hexec (own := own) (C := cls) (index := ik) (n := 6) hown' hk' hins hini'
    (g := F0 m pc ls rest) rfl (by rw [hb]; exact d0) (Nat.le_refl _) (Nat.le_refl _)
  generalize hT1 : (T.setVm vm₁).pushCell { cls := cX, slots := kX.instanceTypes.map defaultValue, vm := .none } = T1 at X₁ st1
  have hcat : (Value.ref T.heap.size).category = 1 := rfl
  have hcellA : T1.heap[T.heap.size]? = some (freshCell cX kX) := by rw [← hT1]; exact State.heap_pushCell_size _ _
  have d3' : decode c.code (pc + 3) = .ok (.dup, 1) := by rw [hb]; exact d3
  obtain ⟨U, hsteps, hrun, hend, hW, hsame, ce, hce, hO⟩ := X₁.ctorThrow0 hexec htr (own := own) (cls := cls) (names := names) (ic := ic) hown' hcls hnames h (fun x hx => nomatch hx) hfX hkX hcellA (by rw [hhp, hT]; exact Nat.le_refl _)
    (g := { method := m, pc := pc + 4, locals := ls, stack := .ref T.heap.size :: .ref T.heap.size :: rest, locked := none }) rfl hsize rfl rfl (rest := rest) rfl
    (by rw [hb]; exact d4) (by rw [hb]; exact d7) hout hRframes (by simp only [List.map_cons, List.sum_cons, hcat]; omega) hlocks
  obtain ⟨f1, f2⟩ := vx_frame hsame
  rw [hhp] at f1 f2
  have hWs : s.WarmedH U.vm := State.WarmedH.trans hW0 hW
  have hcl : s.vm.findClass cls = some ce.cls := by
    have h9 := hO.cls
    rw [hvm] at h9
    exact h9
  have hall : s.sameButNew ({ U with vm := s.vm } : State) locs mc ms := by
    subst hA
    obtain ⟨e1, e2⟩ := hsame
    rw [State.setFrames_setFrames] at e1
    have h2 : (T.setVm s.vm).sameButNew ({ U with vm := s.vm } : State) [] (0 + 1) (0 + 6) := ⟨e1, e2⟩
    have h3 := X.same.trans h2
    rw [List.append_nil] at h3
    exact h3.mono hc hs
  refine ⟨U, ?_, .threw T.heap.size, hrun, hend, Or.inr ⟨T.heap.size, rfl, cls, ce, locs, hx U hWs.alike f1 (fun q hq => f2 q hq (fun z hz => nomatch hz)), hce, hO.vm, hcl, hWs, hall, hf⟩⟩
  refine st1 _ ?_
  show Steps p.tables e below (T1.setTop { method := m, pc := pc + 3, locals := ls, stack := .ref T.heap.size :: rest, locked := none }) _
  jvm_step X₁.here [X₁.here.top, hexec, d3', Value.category]
  exact hsteps
/-- 'throw new E("text")': new; dup; ldc; invokespecial; athrow -/
theorem vx_throwS {cc : ByteArray} {pc : Nat} (hexec : p.tables.exec = Jvm.exec) (hb : c.code = cc) (hl : l.stackTraces = false) {own cls text : String} {names : List String} {ik is ic mc ms sa : Nat} {A : Nat → Prop}
    (hown : s.vm.findClass own = some m.cls) (hcls : Bundle.fit cls = true) (hnames : ∀ n ∈ names, Bundle.fit n = true)
    (hk : (Cond.classLink own ik cls).before args s = true) (hini : (Cond.initialized cls).before args s = true) (hstr : vk_R own is text sa s) (hat : ∀ w ∈ vx_atS own ic cls names, w.before args s = true)
    (hgood : ∀ w ∈ Cond.classLink own ik cls :: Cond.initialized cls :: vx_atS own ic cls names, vx_ot w = true)
    (hU : vx_Zq Bundle.tN "UNASSIGNED_STACK" Bundle.steD A s s.heap) (hN : vx_Zq Bundle.tN "SUPPRESSED_SENTINEL" Bundle.listD A s s.heap) (hS : va_S A s.heap H locs) (hsize : ls.size = c.maxLocals)
    (d0 : decode cc pc = .ok (.new ik, 3)) (d3 : decode cc (pc + 3) = .ok (.dup, 1)) (d4 : decode cc (pc + 4) = .ok (.ldc is, 2)) (d6 : decode cc (pc + 6) = .ok (.invokespecial ic, 3)) (d9 : decode cc (pc + 9) = .ok (.athrow, 1))
    (hout : ∀ x ∈ c.exceptionTable.toList, covers x (pc + 9) = false)
    (hRframes : names.length + 3 < R.frames) (hRlocals : (rest.map fun v => v.category).sum + (13 * (names.length + 1) + 43) ≤ R.locals) (hRcells : cells + 1 ≤ R.cells) (hRslots : slots + 6 ≤ R.slots) (hlocks : meth.locks = false)
    (hx : ∀ t : State, s.vm.Alike t.vm → H.size ≤ t.heap.size → (∀ q : Nat, q < H.size → t.heap[q]? = H[q]?) → XC cls s t)
    (hf : ∀ z ∈ locs, free z.base) (hc : cells + 1 ≤ mc) (hs : slots + 6 ≤ ms) :
    W p l e R s m args below meth c H locs cells slots (vx_MQ below Qc XC args s mc ms free) (F0 m pc ls rest) := by
  intro T hT X
  have htr : e.platform.stackTraces = false := (show e.platform.stackTraces = l.stackTraces by rw [X.admits.platform]).trans hl
  have Y := vx_rebase X (R' := { frames := R.frames, locals := R.locals, cells := 1, slots := 6 }) (Nat.le_refl _) (Nat.le_refl _) hRcells hRslots
  obtain ⟨s', hA⟩ : ∃ z, z = (T.setVm s.vm).setFrames (.invoking m args :: below) := ⟨_, rfl⟩
  rw [← hA] at Y
  have hvm : s'.vm = s.vm := by rw [hA]; rfl
  have hhp : s'.heap = H := by rw [hA]; exact hT
  have hW0 : s.WarmedH s'.vm := by rw [hvm]; exact State.WarmedH.refl s
  have hat' : ∀ w ∈ vx_atS own ic cls names, w.before args s' = true := fun w hw => vx_ot_at hW0 hvm.symm (hgood w (List.mem_cons_of_mem _ (List.mem_cons_of_mem _ hw))) (hat w hw)
  have hk' : (Cond.classLink own ik cls).before args s' = true := vx_ot_at hW0 hvm.symm (hgood _ List.mem_cons_self) hk
  have hini' : (Cond.initialized cls).before args s' = true := vx_ot_at hW0 hvm.symm (hgood _ (List.mem_cons_of_mem _ List.mem_cons_self)) hini
  have hU' : vx_Zq Bundle.tN "UNASSIGNED_STACK" Bundle.steD A s' s'.heap := by rw [hhp]; exact vx_Zq.moved hW0.alike (hU.kept hS.2.1)
  have hN' : vx_Zq Bundle.tN "SUPPRESSED_SENTINEL" Bundle.listD A s' s'.heap := by rw [hhp]; exact vx_Zq.moved hW0.alike (hN.kept hS.2.1)
  have h : ∀ w ∈ Bundle.ownAtoms own ic cls names, w.before args s' = true := vx_own hat' (vx_isRefq hU'.1) (vx_isRefq hN'.1) hU'.2.word hN'.2.word
  have hown' : s'.vm.findClass own = some m.cls := by rw [hvm]; exact hown
  have hins : (Cond.instantiable cls 6).before args s' = true := h _ (by simp [Bundle.ownAtoms])
  obtain ⟨vm₁, cX, kX, hfX, hkX, -, -, X₁, st1⟩ := Y.newCold hexec (own := own) (C := cls) (index := ik) (n := 6) hown' hk' hins hini'
    (g := F0 m pc ls rest) rfl (by rw [hb]; exact d0) (Nat.le_refl _) (Nat.le_refl _)
  generalize hT1 : (T.setVm vm₁).pushCell { cls := cX, slots := kX.instanceTypes.map defaultValue, vm := .none } = T1 at X₁ st1
  have hcat : (Value.ref T.heap.size).category = 1 := rfl
  have hcellA : T1.heap[T.heap.size]? = some (freshCell cX kX) := by rw [← hT1]; exact State.heap_pushCell_size _ _
  have d3' : decode c.code (pc + 3) = .ok (.dup, 1) := by rw [hb]; exact d3
  have d4' : decode c.code (pc + 4) = .ok (.ldc is, 2) := by rw [hb]; exact d4
  have hstr' : vk_R own is text sa s' := vk_R.warm hW0 hstr
  obtain ⟨U, hsteps, hrun, hend, hW, hsame, ce, hce, hO⟩ := X₁.ctorThrowS hexec htr (own := own) (cls := cls) (names := names) (ic := ic) hown' hcls hnames h (fun x hx => nomatch hx) hfX hkX hcellA (by rw [hhp, hT]; exact Nat.le_refl _) (msg := .ref sa) rfl
    (g := { method := m, pc := pc + 6, locals := ls, stack := .ref sa :: .ref T.heap.size :: .ref T.heap.size :: rest, locked := none }) rfl hsize rfl rfl (rest := rest) rfl
    (by rw [hb]; exact d6) (by rw [hb]; exact d9) hout hRframes (by simp only [List.map_cons, List.sum_cons, hcat]; omega) hlocks
  obtain ⟨f1, f2⟩ := vx_frame hsame
  rw [hhp] at f1 f2
  have hWs : s.WarmedH U.vm := State.WarmedH.trans hW0 hW
  have hcl : s.vm.findClass cls = some ce.cls := by
    have h9 := hO.cls
    rw [hvm] at h9
    exact h9
  have hall : s.sameButNew ({ U with vm := s.vm } : State) locs mc ms := by
    subst hA
    obtain ⟨e1, e2⟩ := hsame
    rw [State.setFrames_setFrames] at e1
    have h2 : (T.setVm s.vm).sameButNew ({ U with vm := s.vm } : State) [] (0 + 1) (0 + 6) := ⟨e1, e2⟩
    have h3 := X.same.trans h2
    rw [List.append_nil] at h3
    exact h3.mono hc hs
  refine ⟨U, ?_, .threw T.heap.size, hrun, hend, Or.inr ⟨T.heap.size, rfl, cls, ce, locs, hx U hWs.alike f1 (fun q hq => f2 q hq (fun z hz => nomatch hz)), hce, hO.vm, hcl, hWs, hall, hf⟩⟩
  refine st1 _ ?_
  show Steps p.tables e below (T1.setTop { method := m, pc := pc + 3, locals := ls, stack := .ref T.heap.size :: rest, locked := none }) _
  jvm_step X₁.here [X₁.here.top, hexec, d3', Value.category]
  exact X₁.ldcString hexec (own := own) (text := text) (index := is) (a := sa) hown' hstr'.1 hstr'.2
    (g := { method := m, pc := pc + 4, locals := ls, stack := .ref T.heap.size :: .ref T.heap.size :: rest, locked := none }) rfl d4' _ hsteps
/-- 'throw new E("text")', the text by a wide index -/
theorem vx_throwSW {cc : ByteArray} {pc : Nat} (hexec : p.tables.exec = Jvm.exec) (hb : c.code = cc) (hl : l.stackTraces = false) {own cls text : String} {names : List String} {ik is ic mc ms sa : Nat} {A : Nat → Prop}
    (hown : s.vm.findClass own = some m.cls) (hcls : Bundle.fit cls = true) (hnames : ∀ n ∈ names, Bundle.fit n = true)
    (hk : (Cond.classLink own ik cls).before args s = true) (hini : (Cond.initialized cls).before args s = true) (hstr : vk_R own is text sa s) (hat : ∀ w ∈ vx_atS own ic cls names, w.before args s = true)
    (hgood : ∀ w ∈ Cond.classLink own ik cls :: Cond.initialized cls :: vx_atS own ic cls names, vx_ot w = true)
    (hU : vx_Zq Bundle.tN "UNASSIGNED_STACK" Bundle.steD A s s.heap) (hN : vx_Zq Bundle.tN "SUPPRESSED_SENTINEL" Bundle.listD A s s.heap) (hS : va_S A s.heap H locs) (hsize : ls.size = c.maxLocals)
    (d0 : decode cc pc = .ok (.new ik, 3)) (d3 : decode cc (pc + 3) = .ok (.dup, 1)) (d4 : decode cc (pc + 4) = .ok (.ldc_w is, 3)) (d7 : decode cc (pc + 7) = .ok (.invokespecial ic, 3)) (d10 : decode cc (pc + 10) = .ok (.athrow, 1))
    (hout : ∀ x ∈ c.exceptionTable.toList, covers x (pc + 10) = false)
    (hRframes : names.length + 3 < R.frames) (hRlocals : (rest.map fun v => v.category).sum + (13 * (names.length + 1) + 43) ≤ R.locals) (hRcells : cells + 1 ≤ R.cells) (hRslots : slots + 6 ≤ R.slots) (hlocks : meth.locks = false)
    (hx : ∀ t : State, s.vm.Alike t.vm → H.size ≤ t.heap.size → (∀ q : Nat, q < H.size → t.heap[q]? = H[q]?) → XC cls s t)
    (hf : ∀ z ∈ locs, free z.base) (hc : cells + 1 ≤ mc) (hs : slots + 6 ≤ ms) :
    W p l e R s m args below meth c H locs cells slots (vx_MQ below Qc XC args s mc ms free) (F0 m pc ls rest) := by
  intro T hT X
  have htr : e.platform.stackTraces = false := (show e.platform.stackTraces = l.stackTraces by rw [X.admits.platform]).trans hl
  have Y := vx_rebase X (R' := { frames := R.frames, locals := R.locals, cells := 1, slots := 6 }) (Nat.le_refl _) (Nat.le_refl _) hRcells hRslots
  obtain ⟨s', hA⟩ : ∃ z, z = (T.setVm s.vm).setFrames (.invoking m args :: below) := ⟨_, rfl⟩
  rw [← hA] at Y
  have hvm : s'.vm = s.vm := by rw [hA]; rfl
  have hhp : s'.heap = H := by rw [hA]; exact hT
  have hW0 : s.WarmedH s'.vm := by rw [hvm]; exact State.WarmedH.refl s
  have hat' : ∀ w ∈ vx_atS own ic cls names, w.before args s' = true := fun w hw => vx_ot_at hW0 hvm.symm (hgood w (List.mem_cons_of_mem _ (List.mem_cons_of_mem _ hw))) (hat w hw)
  have hk' : (Cond.classLink own ik cls).before args s' = true := vx_ot_at hW0 hvm.symm (hgood _ List.mem_cons_self) hk
  have hini' : (Cond.initialized cls).before args s' = true := vx_ot_at hW0 hvm.symm (hgood _ (List.mem_cons_of_mem _ List.mem_cons_self)) hini
  have hU' : vx_Zq Bundle.tN "UNASSIGNED_STACK" Bundle.steD A s' s'.heap := by rw [hhp]; exact vx_Zq.moved hW0.alike (hU.kept hS.2.1)
  have hN' : vx_Zq Bundle.tN "SUPPRESSED_SENTINEL" Bundle.listD A s' s'.heap := by rw [hhp]; exact vx_Zq.moved hW0.alike (hN.kept hS.2.1)
  have h : ∀ w ∈ Bundle.ownAtoms own ic cls names, w.before args s' = true := vx_own hat' (vx_isRefq hU'.1) (vx_isRefq hN'.1) hU'.2.word hN'.2.word
  have hown' : s'.vm.findClass own = some m.cls := by rw [hvm]; exact hown
  have hins : (Cond.instantiable cls 6).before args s' = true := h _ (by simp [Bundle.ownAtoms])
  obtain ⟨vm₁, cX, kX, hfX, hkX, -, -, X₁, st1⟩ := Y.newCold hexec (own := own) (C := cls) (index := ik) (n := 6) hown' hk' hins hini'
    (g := F0 m pc ls rest) rfl (by rw [hb]; exact d0) (Nat.le_refl _) (Nat.le_refl _)
  generalize hT1 : (T.setVm vm₁).pushCell { cls := cX, slots := kX.instanceTypes.map defaultValue, vm := .none } = T1 at X₁ st1
  have hcat : (Value.ref T.heap.size).category = 1 := rfl
  have hcellA : T1.heap[T.heap.size]? = some (freshCell cX kX) := by rw [← hT1]; exact State.heap_pushCell_size _ _
  have d3' : decode c.code (pc + 3) = .ok (.dup, 1) := by rw [hb]; exact d3
  have d4' : decode c.code (pc + 4) = .ok (.ldc_w is, 3) := by rw [hb]; exact d4
  have hstr' : vk_R own is text sa s' := vk_R.warm hW0 hstr
  obtain ⟨U, hsteps, hrun, hend, hW, hsame, ce, hce, hO⟩ := X₁.ctorThrowS hexec htr (own := own) (cls := cls) (names := names) (ic := ic) hown' hcls hnames h (fun x hx => nomatch hx) hfX hkX hcellA (by rw [hhp, hT]; exact Nat.le_refl _) (msg := .ref sa) rfl
    (g := { method := m, pc := pc + 7, locals := ls, stack := .ref sa :: .ref T.heap.size :: .ref T.heap.size :: rest, locked := none }) rfl hsize rfl rfl (rest := rest) rfl
    (by rw [hb]; exact d7) (by rw [hb]; exact d10) hout hRframes (by simp only [List.map_cons, List.sum_cons, hcat]; omega) hlocks
  obtain ⟨f1, f2⟩ := vx_frame hsame
  rw [hhp] at f1 f2
  have hWs : s.WarmedH U.vm := State.WarmedH.trans hW0 hW
  have hcl : s.vm.findClass cls = some ce.cls := by
    have h9 := hO.cls
    rw [hvm] at h9
    exact h9
  have hall : s.sameButNew ({ U with vm := s.vm } : State) locs mc ms := by
    subst hA
    obtain ⟨e1, e2⟩ := hsame
    rw [State.setFrames_setFrames] at e1
    have h2 : (T.setVm s.vm).sameButNew ({ U with vm := s.vm } : State) [] (0 + 1) (0 + 6) := ⟨e1, e2⟩
    have h3 := X.same.trans h2
    rw [List.append_nil] at h3
    exact h3.mono hc hs
  refine ⟨U, ?_, .threw T.heap.size, hrun, hend, Or.inr ⟨T.heap.size, rfl, cls, ce, locs, hx U hWs.alike f1 (fun q hq => f2 q hq (fun z hz => nomatch hz)), hce, hO.vm, hcl, hWs, hall, hf⟩⟩
  refine st1 _ ?_
  show Steps p.tables e below (T1.setTop { method := m, pc := pc + 3, locals := ls, stack := .ref T.heap.size :: rest, locked := none }) _
  jvm_step X₁.here [X₁.here.top, hexec, d3', Value.category]
  exact X₁.ldcStringW hexec (own := own) (text := text) (index := is) (a := sa) hown' hstr'.1 hstr'.2
    (g := { method := m, pc := pc + 4, locals := ls, stack := .ref T.heap.size :: .ref T.heap.size :: rest, locked := none }) rfl d4' _ hsteps
end Ends
section Bodies
variable {l : Launch}
theorem vx_ofW {y : MethodName} {ws ws' : List Cond} {rm : Room} {Pc : Array Value → State → Prop} {Qc : Array Value → State → Outcome → State → Prop} {XC : String → State → State → Prop} {mc ms : Nat} {free : Addr → Prop} {cc : ByteArray} {maxL : Nat} {ret : Option FieldType}
    (hy : plainName y.cls = true) (hw : ws = Cond.code y cc maxL ret :: ws')
    (body : ∀ p e s m args below meth c s₁, BodyLoose p l y (headSpec ws rm) cc maxL ret e s m args below meth c s₁ → c.maxLocals = maxL → (∀ x ∈ c.exceptionTable.toList, False) → Pc args s →
      W p l e (headSpec ws rm).room s m args below meth c s.heap [] 0 0 (vx_MQ below Qc XC args s mc ms free) (entryFrame m args maxL)) : vx_Met l y ws rm Pc Qc XC mc ms free := by
  refine MetFree.of_bodyS (code := cc) (maxLocals := maxL) (ret := ret) hy ?_ ?_
  · intro args s m h hn
    obtain ⟨meth, c, h1, h2, h3, h4, h5, h6, -, -⟩ := Cond.code_spec hn (atoms_spec (ws := ws) h _ (by rw [hw]; exact List.mem_cons_self))
    exact ⟨meth, c, h1, h2, h3, h4, h5, h6⟩
  · intro p e s m args below meth c s₁ B hml hP _
    have hh0 : s₁.heap = s.heap := by rw [B.state]; rfl
    have ht : ∀ x ∈ c.exceptionTable.toList, False := by
      obtain ⟨meth9, c9, h1, h2, -, -, -, -, h7, -⟩ := Cond.code_spec B.named (atoms_spec (ws := ws) B.pre _ (by rw [hw]; exact List.mem_cons_self))
      cases Option.some.inj (h1.symm.trans B.method)
      cases Option.some.inj (h2.symm.trans (Stand.of_body B).code)
      intro x hx
      rw [Array.isEmpty_iff.mp h7] at hx
      cases hx
    obtain ⟨t, a1, o, b1, b2, b3⟩ := body p e s m args below meth c s₁ B hml ht hP s₁ hh0 (Stand.of_body B)
    exact ⟨t, o, a1, b1, b2, b3⟩
/-- the table of a body with handlers -/
theorem vx_table {p : Program} {x y : MethodName} {S : Spec} {cc bytes : ByteArray} {maxL maxL' : Nat} {ret ret' : Option FieldType} {e : Env} {s s₁ : State} {m : MethodId} {args : Array Value} {below : List Frame} {meth : Method} {c : Code} {hh : List (Nat × Nat × Nat × Nat)}
    (B : BodyLoose p l y S cc maxL ret e s m args below meth c s₁) (h : (Cond.codeWith y bytes maxL' ret' hh).before args s = true) : c.exceptionTable.toList = tableOf hh := by
  obtain ⟨m9, meth9, c9, hn9, h1, h2, -, -, h6, -⟩ := Cond.codeWith_spec h
  cases Option.some.inj (hn9.symm.trans B.named)
  cases Option.some.inj (h1.symm.trans B.method)
  cases Option.some.inj (h2.symm.trans (Stand.of_body B).code)
  rw [← h6, table_eq]
end Bodies
end VXA
/-! ===== END ===== -/
/-! ===== BEGIN a static call of a method with an exception table ===== -/
section VXS
variable {p : Program} {l : Launch} {e : Env} {R : Room} {s : State} {m : MethodId} {args : Array Value} {below : List Frame} {meth : Method} {c : Code} {T : State} {H : Heap} {locs : List Loc} {cells slots : Nat}
abbrev vx_CSW (R : Room) (s : State) (args : Array Value) (own : String) (index : Nat) (y : MethodName) (bytes : ByteArray) (maxL : Nat) (ret : Option FieldType) (hh : List (Nat × Nat × Nat × Nat)) (ws : List Cond) (rm : Room) (mc ms n : Nat) : Prop :=
  (rm.cells = mc ∧ rm.slots = ms ∧ rm.frames + 1 ≤ R.frames ∧ 8 + (maxL + 11) + rm.locals ≤ R.locals ∧ (∀ w ∈ ws, ∀ (a' : Array Value) (U : State), s.WarmedH U.vm → w.before a' U = true) ∧ Cond.codeWith y bytes maxL ret hh ∈ ws) ∧
  (Cond.codeWith y bytes maxL ret hh).before args s = true ∧ (Cond.initialized y.cls).before args s = true ∧ (y.cls ≠ "java/lang/invoke/MethodHandle" ∧ y.cls ≠ "java/lang/invoke/VarHandle") ∧
  (∀ sig, parseMethodDescriptor y.desc = some sig → n = sig.parameters.length) ∧ (Cond.methodLink own index y).before args s = true ∧ (Cond.static y).before args s = true
theorem vx_cwSW {own : String} {index maxL mc ms : Nat} {y : MethodName} {bytes : ByteArray} {ret : Option FieldType} {hh : List (Nat × Nat × Nat × Nat)} {Ts ws ws' : List Cond} {rm : Room} (n : Nat) (ht : ∀ w ∈ Ts, w.before args s = true) (hT : GoodIn Ts (va_wsS own index y ws)) (hw : ws = Cond.codeWith y bytes maxL ret hh :: ws') (hrc : rm.cells = mc) (hrs : rm.slots = ms)
    (hd : y.cls ≠ "java/lang/invoke/MethodHandle" ∧ y.cls ≠ "java/lang/invoke/VarHandle" ∧ (parseMethodDescriptor y.desc).map (fun d => d.parameters.length) = some n) (hR : rm.frames + 1 ≤ R.frames ∧ 8 + (maxL + 11) + rm.locals ≤ R.locals) :
    vx_CSW R s args own index y bytes maxL ret hh ws rm mc ms n := by
  have ok : ∀ w ∈ va_wsS own index y ws, w.before args s = true := fun w h => ht w (hT w h).1
  have hG : GoodIn Ts ws := fun w h => hT w (by unfold va_wsS; exact List.mem_append_right _ h)
  have hc : Cond.codeWith y bytes maxL ret hh ∈ ws := by rw [hw]; exact List.mem_cons_self
  refine ⟨⟨hrc, hrs, hR.1, hR.2, pay_in ht hG, hc⟩, ht _ (hG _ hc).1, ok _ (by simp [va_wsS]), ⟨hd.1, hd.2.1⟩, fun sig h => ?_, ok _ (by simp [va_wsS]), ok _ (by simp [va_wsS])⟩
  have h2 := hd.2.2
  rw [h] at h2
  exact (Option.some.inj h2).symm
theorem vx_callSW (X : Stand p l e R s m args below meth c T locs cells slots) (hexec : p.tables.exec = Jvm.exec) {own : String} {index : Nat} {y : MethodName} {bytes : ByteArray} {maxL : Nat} {ret : Option FieldType} {hh : List (Nat × Nat × Nat × Nat)}
    (hown : s.vm.findClass own = some m.cls) (hlink : (Cond.methodLink own index y).before args s = true) (hstat : (Cond.static y).before args s = true) (hinit : (Cond.initialized y.cls).before args s = true)
    (hcode : (Cond.codeWith y bytes maxL ret hh).before args s = true) (hy : y.cls ≠ "java/lang/invoke/MethodHandle" ∧ y.cls ≠ "java/lang/invoke/VarHandle")
    {W9 : Nat} {Pre : Pt → Array Value → Prop} {Post : Pt → Array Value → Option Value → Pt → Prop} (hK : Back l R p e below s args y 3 W9 Pre Post)
    {g : JFrame} (hg : g.method = m) (hsize : g.locals.size = c.maxLocals) {argsL rest : List Value} (hlen : ∀ sig, parseMethodDescriptor y.desc = some sig → argsL.length = sig.parameters.length)
    (hstack : g.stack = argsL.reverse ++ rest) (hW : 2 * g.monitorRoom + (rest.map fun v => v.category).sum ≤ W9) (hdg : decode c.code g.pc = .ok (.invokestatic index, 3))
    (hpre : ∀ vm₁, s.WarmedH vm₁ → Pre ⟨T.setVm vm₁, locs, cells, slots⟩ argsL.toArray) :
    ∃ (v : Option Value) (vm₁ : Vm) (B : Pt), s.WarmedH vm₁ ∧ Stand p l e R s m args below meth c B.U B.locs B.cells B.slots ∧ Post ⟨T.setVm vm₁, locs, cells, slots⟩ argsL.toArray v B ∧
      ∀ target, Steps p.tables e below (B.U.setTop { g with pc := g.pc + 3, stack := v.toList ++ rest }) target → Steps p.tables e below (T.setTop g) target := by
  obtain ⟨mk, methM, cM, hnamed, hmethM, -, -, -, -, -, -, hsigM⟩ := Cond.codeWith_spec hcode
  have hstatic : methM.isStatic = true := Cond.static_spec hnamed hmethM hstat
  obtain ⟨kP, hkP, -⟩ := className_of_methodNamed hnamed
  have hinitP : kP.init = .initialized := Cond.initialized_spec (findClass_of_methodNamed hnamed) hkP hinit
  obtain ⟨vm₁, X₁, hstep₁⟩ := X.invokestatic hexec hown hlink hnamed hmethM hstatic hkP hinitP hy (g := g) hg (argsL := argsL) (rest := rest) (hlen _ hsigM) hstack hdg
  obtain ⟨v, B, X', hpost, hsteps⟩ := hK m meth c ⟨T.setVm vm₁, locs, cells, slots⟩ { g with stack := rest } (.invokestatic index) mk argsL.toArray X₁ hg hsize hdg hW (X₁.named hnamed) (hpre vm₁ X₁.warmed)
  exact ⟨v, vm₁, B, X₁.warmed, X', hpost, fun target h => hstep₁ _ fun acts => by rw [doInvoke_state]; exact hsteps.trans h⟩
theorem vx_runSW {y : MethodName} {bytes cc : ByteArray} {maxL nL mc ms n index : Nat} {ret : Option FieldType} {hh : List (Nat × Nat × Nat × Nat)} {ws : List Cond} {rm : Room} {Pc : Array Value → State → Prop} {Qc : Array Value → State → Outcome → State → Prop} {free : Addr → Prop} {Ts : List Cond} {own : String} {As rest : List Value} {g : JFrame}
    (S : CallFix p m c cc nL s args Ts own) (hM : Met l y ws rm Pc Qc mc ms free) (cw : vx_CSW R s args own index y bytes maxL ret hh ws rm mc ms n) (hp : PreS s H Pc As)
    (hg : g.method = m) (hn : As.length = n) (hsize : g.locals.size = nL) (hstack : g.stack = As.reverse ++ rest) (hW : 2 * g.monitorRoom + (rest.map fun v => v.category).sum ≤ 8) (hdg : decode cc g.pc = .ok (.invokestatic index, 3)) (hf : cells + mc ≤ R.cells ∧ slots + ms ≤ R.slots) :
    va_Run p l e R s m args below meth c H locs cells slots mc ms g rest (Qc As.toArray) (free) := by
  obtain ⟨⟨hrc, hrs, hfr, hlo, hws, hcw⟩, hcode, hini, hy, hlen, hl, hstt⟩ := cw
  have hK : Back l R p e below s args y 3 8 (PreOf R mc ms Pc) (PostOf Qc mc ms free) := va_backW (hh := hh) (bytes := bytes) (maxL := maxL) (ret := ret) hM hp.1 hrc hrs hfr hlo hws hcw (fun a' U hW => word_at hW (Or.inl (by first | rfl | simp [Cond.onTables, Cond.keeps, Cond.steady])) hini)
  obtain ⟨hx, hb, hml, ho, -⟩ := S
  intro T hT X
  obtain ⟨v, vm₁, ⟨U', l2, c2, s2⟩, hW₁, X', ⟨g', mk, t, L, e1, e2, hq, h1, hL, h2, h3⟩, st⟩ := vx_callSW X hx (hh := hh) (bytes := bytes) (maxL := maxL) (ret := ret) ho hl hstt hini hcode hy hK hg (hsize.trans hml.symm) (argsL := As) (rest := rest) (fun sig h => hn.trans (hlen sig h)) hstack hW (by rw [hb]; exact hdg)
    (fun vm₁ hW₁ => ⟨hf.1, hf.2, hp.2 (T.setVm vm₁) hT hW₁⟩)
  dsimp only [Pt.U, Pt.locs, Pt.cells, Pt.slots] at X' e1 e2 h1 h2 h3 st
  subst h1; subst h2; subst h3
  exact ⟨v, (T.setVm vm₁).calling g' mk As.toArray, t, U', L, hT, X', hL, e1, e2, hq, st⟩
/-- not caught here, past rows that name other classes: it goes on to the caller -/
theorem vx_outP {p : Program} {l : Launch} {e : Env} {R : Room} {s : State} {m : MethodId} {args : Array Value} {below : List Frame} {meth : Method} {c : Code} {H : Heap} {locs : List Loc} {cells slots : Nat} {free : Addr → Prop} {ls : Array Slot} {rest : List Value} {Qc : Array Value → State → Outcome → State → Prop} {XC : String → State → State → Prop}
    {pc : Nat} {own E : String} {ce : Cell} {q : Addr} {mc ms : Nat} (hown : s.vm.findClass own = some m.cls) (hlocks : meth.locks = false)
    (hpass : ∀ z ∈ c.exceptionTable.toList, covers z pc = false ∨ (z.catchType ≠ 0 ∧ ∃ nm : String, (Cond.classLink own z.catchType nm).before args s = true ∧ va_Nc E nm s)) (hcell : H[q]? = some ce) (hv : ce.vm = .none) (hcl : s.vm.findClass E = some ce.cls)
    (hx : ∀ t : State, t.heap = H → s.vm.Alike t.vm → XC E s t) (hf : ∀ z ∈ locs, free z.base) (hc : cells ≤ mc) (hs : slots ≤ ms) :
    vx_W p l e R s m args below meth c H locs cells slots (vx_MQ below Qc XC args s mc ms free) (F0 m pc ls rest) q := by
  intro T hT X
  have hpl : e.platform.magicAccessors = ({} : Platform).magicAccessors := by rw [X.admits.platform]
  obtain ⟨vm', hW', X', st⟩ := X.outThrough hlocks q (g := F0 m pc ls rest) rfl rfl rfl (cell := ce) (by rw [hT]; exact hcell) (by rw [hv]; rfl)
    (by obtain ⟨k9, h9, -⟩ := Vm.findClass_spec hcl; exact ⟨k9, h9⟩) (fun z hz => by
      rcases hpass z hz with h | ⟨hz0, nm, hl1, hn1⟩
      · exact Or.inl h
      · obtain ⟨c6, hc6, hcl6⟩ := Cond.classLink_spec hown hl1 e.platform hpl
        obtain ⟨a8, b8, h1, h2, h3⟩ := hn1
        cases Option.some.inj (h1.symm.trans hcl)
        cases Option.some.inj (h2.symm.trans hc6)
        exact Or.inr ⟨hz0, _, hcl6, h3⟩)
  obtain ⟨g₀, hfr⟩ := X'.frames_eq
  have hcell9 : ((T.setVm vm').setFrames (.throwing q :: below)).heap[q]? = some ce := by
    show T.heap[q]? = some ce
    rw [hT]; exact hcell
  have hend : Ended ((T.setVm vm').setFrames (.throwing q :: below)) below (.threw q) := State.frames_setFrames _ (State.cur_lt_of_frames hfr)
  refine ⟨(T.setVm vm').setFrames (.throwing q :: below), ?_, .threw q, X'.here.running, hend, Or.inr ⟨q, rfl, E, ce, locs, hx _ hT (X'.ends _).1.alike, hcell9, hv, hcl, (X'.ends _).1, (X'.ends _).2.mono hc hs, hf⟩⟩
  rw [X.pushThrowing_eq]
  exact st
/-- a thing of a world lies in the heap -/
theorem vx_lt {D : va_G} {cl : List vw_C} {ws : va_W} {H1 : Heap} (h : va_P D cl ws H1) {k : Nat} {q : Nat × va_E} (hk : ws[k]? = some q) : q.1 < H1.size := (h k q hk).lt
end VXS
/-! ===== END ===== -/
/-! ===== BEGIN methods with a table of their own: called by a name, returning or throwing ===== -/
section VXH
/-! vx_backW, vx_callVX, vx_callSX, vx_callVW, vx_runVW, vx_runVX, vx_runSX, vx_ofWH follow the same proofs as their sisters above (Free/Laws.lean, Shelf42/LK1.lean); vx_outP calls Shelf42/NT130.lean (outThrough). -/
section
variable {l : Launch} {R : Room} {p : Program} {e : Env} {below : List Frame} {s : State} {sargs : Array Value} {y : MethodName} {len W9 : Nat}
theorem vx_backW {ws : List Cond} {rm : Room} {Pc : Array Value → State → Prop} {Qc : Array Value → State → Outcome → State → Prop} {XC : String → State → State → Prop} {mc ms : Nat} {free : Addr → Prop} {bytes : ByteArray} {maxL : Nat} {ret : Option FieldType} {hh : List (Nat × Nat × Nat × Nat)}
    (hM : vx_Met l y ws rm Pc Qc XC mc ms free) (hblind : FrameBlind Pc) (hrc : rm.cells = mc) (hrs : rm.slots = ms)
    (hframes : rm.frames + 1 ≤ R.frames) (hlocals : W9 + (maxL + 11) + rm.locals ≤ R.locals)
    (hws : ∀ w ∈ ws, ∀ a' U, s.WarmedH U.vm → w.before a' U = true) (hcode : Cond.codeWith y bytes maxL ret hh ∈ ws) (hinit : ∀ a' U, s.WarmedH U.vm → (Cond.initialized y.cls).before a' U = true) :
    vx_Back l R p e below s sargs y len W9 (PreOf R mc ms Pc) (PostOf Qc mc ms free) (vx_Post XC mc ms free) := by
  intro m meth c A g ig mk a X hg hsize hdg hW hn hp
  have h1 : (headSpec ws rm).pre.before a A.U = true := atoms_intro fun w hw => hws w hw _ _ X.warmed
  have h2 : (Cond.codeWith y bytes maxL ret hh).before a A.U = true := hws _ hcode _ _ X.warmed
  have h3 : (Cond.initialized y.cls).before a A.U = true := hinit _ _ X.warmed
  have h4 : A.cells + (headSpec ws rm).room.cells ≤ R.cells := by rw [show (headSpec ws rm).room.cells = mc from hrc]; exact hp.1
  have h5 : A.slots + (headSpec ws rm).room.slots ≤ R.slots := by rw [show (headSpec ws rm).room.slots = ms from hrs]; exact hp.2.1
  have hPc : Pc a (A.U.calling g mk a) := hblind _ _ _ _ hp.2.2
  obtain ⟨U, Ls, c0, s0⟩ := A
  dsimp only [Pt.U, Pt.locs, Pt.cells, Pt.slots] at h1 h2 h3 h4 h5 X hn hPc ⊢
  obtain ⟨m9, methY, cY, hn9, hmY, hcY, -, hlY, -⟩ := Cond.codeWith_spec h2
  cases Option.some.inj (hn9.symm.trans hn)
  obtain ⟨kY, hkY, -⟩ := className_of_methodNamed hn
  have hinitY : kY.init = .initialized := Cond.initialized_spec (findClass_of_methodNamed hn) hkY h3
  have h : At U g.method c below := by rw [hg]; exact X.here
  have hlocals9 : W9 + (maxL + 11) + (headSpec ws rm).room.locals ≤ R.locals := hlocals
  have happ : (headSpec ws rm).appliesLoose y e.platform (U.calling g mk a) = true :=
    Spec.appliesLoose_calling (g := g) h hdg hn hkY hinitY
      (X.room_calling (g := g) (R' := (headSpec ws rm).room) hsize hmY hcY hframes (by rw [hlY]; omega) h4 h5) h1
  obtain ⟨mid, hmid⟩ := h.above
  have hfr : (U.setTop g).frames = (.java g :: mid) ++ below := by rw [State.frames_setTop' g h.top, hmid]; rfl
  obtain ⟨o, s₂, hsteps, -, hend, hq⟩ := Steps.callFree hM p X.admits X.cas X.clock (acts := []) hfr happ hPc trivial
  have hq' : vx_Q Qc XC mc ms free a (U.calling g mk a) o s₂ := hq
  rw [State.frames_setTop' g h.top] at hend
  obtain ⟨g₀, hg0⟩ := Option.isSome_iff_exists.mp h.top
  obtain ⟨r, hr⟩ := State.topJava?_eq_some.mp hg0
  have hr' : (({ U with heap := s₂.heap, slotsUsed := s₂.slotsUsed } : State).setVm s₂.vm).frames = .java g₀ :: r := hr
  rcases hq' with ⟨hqc, L, hfe, hL⟩ | ⟨q, rfl, E, ce, L, hx, hce, hcv, hcl, hW₂, hsm, hL⟩
  · obtain ⟨⟨v, rfl⟩, hW₂, e2, q2, q3, q4, q5, q6⟩ := id hfe
    have e3 : s₂ = ({ (U.calling g mk a).setFrames s₂.frames with heap := s₂.heap, slotsUsed := s₂.slotsUsed } : State).setVm s₂.vm := by
      have : s₂ = ({ s₂ with vm := (U.calling g mk a).vm } : State).setVm s₂.vm := rfl
      rw [e2] at this
      exact this
    obtain ⟨c₂, i₂, len₂, hc₂, hd₂, hf₂⟩ := hend
    have hW' : U.WarmedH s₂.vm := hW₂
    have hcc : c₂ = c := by
      have h1 : s₂.code? g.method = U.code? g.method := by
        rw [State.code?_eq, State.code?_eq, hW'.alike.method?]
      exact Option.some.inj (hc₂.symm.trans (h1.trans h.code))
    subst hcc
    have hlen : len₂ = len := by rw [hdg] at hd₂; cases hd₂; rfl
    subst hlen
    have hs₂ : s₂ = (({ U with heap := s₂.heap, slotsUsed := s₂.slotsUsed } : State).setVm s₂.vm).setTop { g with pc := g.pc + len₂, stack := v.toList ++ g.stack } := by
      refine e3.trans ?_
      rw [hf₂, State.calling_eq h.top, State.setFrames_setFrames, State.setTop_of_frames _ hr', hr]
      rfl
    have hsame : U.sameButNew ({ U with heap := s₂.heap, slotsUsed := s₂.slotsUsed } : State) L mc ms := by
      refine ⟨?_, q2, q3, q4, q5, q6⟩
      obtain ⟨t, ht, -⟩ := State.frames_cons hr
      show ({ U with heap := s₂.heap, slotsUsed := s₂.slotsUsed } : State) = { U.setFrames U.frames with heap := s₂.heap, slotsUsed := s₂.slotsUsed }
      rw [State.setFrames_self ht]
    subst hg
    refine Or.inl ⟨v, ⟨(({ U with heap := s₂.heap, slotsUsed := s₂.slotsUsed } : State).setVm s₂.vm), Ls ++ L, c0 + mc, s0 + ms⟩,
      ⟨X.admits, X.cas, X.clock, X.frames, X.room, X.hears, X.method, X.code, (X.here.setHeapUsed s₂.heap s₂.slotsUsed).setVm hW'.alike, X.tail, State.WarmedH.trans X.warmed hW', X.limits, X.bytes, X.same.trans (hsame.setVm s.vm)⟩,
      ⟨g, mk, s₂, L, rfl, rfl, hqc, rfl, hL, rfl, rfl⟩, ?_⟩
    show Steps p.tables e below _ ((({ U with heap := s₂.heap, slotsUsed := s₂.slotsUsed } : State).setVm s₂.vm).setTop { g with pc := g.pc + len₂, stack := v.toList ++ g.stack })
    rw [← hs₂]
    exact hsteps
  · obtain ⟨e2, q2, q3, q4, q5, q6⟩ := id hsm
    have e3 : s₂ = ({ (U.calling g mk a).setFrames s₂.frames with heap := s₂.heap, slotsUsed := s₂.slotsUsed } : State).setVm s₂.vm := by
      have : s₂ = ({ s₂ with vm := (U.calling g mk a).vm } : State).setVm s₂.vm := rfl
      rw [e2] at this
      exact this
    have hf₂ : s₂.frames = .throwing q :: .java g :: U.frames.tail := hend
    have hW' : U.WarmedH s₂.vm := hW₂
    have hs₂ : s₂ = ((({ U with heap := s₂.heap, slotsUsed := s₂.slotsUsed } : State).setVm s₂.vm).setTop g).pushFrame (.throwing q) := by
      refine e3.trans ?_
      rw [hf₂, State.calling_eq h.top, State.setFrames_setFrames, State.pushFrame, State.frames_setTop _ hr', State.setTop_of_frames _ hr', State.setFrames_setFrames, hr]
      rfl
    have hsame : U.sameButNew ({ U with heap := s₂.heap, slotsUsed := s₂.slotsUsed } : State) L mc ms := by
      refine ⟨?_, q2, q3, q4, q5, q6⟩
      obtain ⟨t, ht, -⟩ := State.frames_cons hr
      show ({ U with heap := s₂.heap, slotsUsed := s₂.slotsUsed } : State) = { U.setFrames U.frames with heap := s₂.heap, slotsUsed := s₂.slotsUsed }
      rw [State.setFrames_self ht]
    subst hg
    refine Or.inr ⟨q, ⟨(({ U with heap := s₂.heap, slotsUsed := s₂.slotsUsed } : State).setVm s₂.vm), Ls ++ L, c0 + mc, s0 + ms⟩,
      ⟨X.admits, X.cas, X.clock, X.frames, X.room, X.hears, X.method, X.code, (X.here.setHeapUsed s₂.heap s₂.slotsUsed).setVm hW'.alike, X.tail, State.WarmedH.trans X.warmed hW', X.limits, X.bytes, X.same.trans (hsame.setVm s.vm)⟩,
      ⟨g, mk, s₂, L, E, ce, rfl, rfl, hx, hce, hcv, hcl, rfl, hL, rfl, rfl⟩, ?_⟩
    show Steps p.tables e below _ (((({ U with heap := s₂.heap, slotsUsed := s₂.slotsUsed } : State).setVm s₂.vm).setTop g).pushFrame (.throwing q))
    rw [← hs₂]
    exact hsteps
end
variable {p : Program} {l : Launch} {e : Env} {R : Room} {s : State} {m : MethodId} {args : Array Value} {below : List Frame} {meth : Method} {c : Code} {T : State} {H : Heap} {locs : List Loc} {cells slots : Nat}
theorem vx_callVX (X : Stand p l e R s m args below meth c T locs cells slots) (hexec : p.tables.exec = Jvm.exec) {own C : String} {index : Nat} {y : MethodName} {bytes : ByteArray} {maxL : Nat} {ret : Option FieldType} {hh : List (Nat × Nat × Nat × Nat)}
    (hown : s.vm.findClass own = some m.cls) (hlink : (Cond.methodLink own index y).before args s = true) (hinst : (Cond.instanceMethod y).before args s = true) (hsel : (Cond.selects C y y).before args s = true)
    (hcode : (Cond.codeWith y bytes maxL ret hh).before args s = true) (hy : y.cls ≠ "java/lang/invoke/MethodHandle" ∧ y.cls ≠ "java/lang/invoke/VarHandle")
    {W9 : Nat} {Pre : Pt → Array Value → Prop} {Post : Pt → Array Value → Option Value → Pt → Prop} {PostX : Pt → Array Value → Addr → Pt → Prop} (hK : vx_Back l R p e below s args y 3 W9 Pre Post PostX)
    {b : Addr} {cellB : Cell} (hcell : T.heap[b]? = some cellB) (hobj : cellB.vm.isStatics = false) (hcls : s.vm.findClass C = some cellB.cls)
    {g : JFrame} (hg : g.method = m) (hsize : g.locals.size = c.maxLocals) {argsL rest : List Value} (hlen : ∀ sig, parseMethodDescriptor y.desc = some sig → argsL.length = sig.parameters.length)
    (hstack : g.stack = argsL.reverse ++ .ref b :: rest) (hW : 2 * g.monitorRoom + (rest.map fun v => v.category).sum ≤ W9) (hdg : decode c.code g.pc = .ok (.invokevirtual index, 3))
    (hpre : ∀ vm₁, s.WarmedH vm₁ → Pre ⟨T.setVm vm₁, locs, cells, slots⟩ (Value.ref b :: argsL).toArray) :
    (∃ (v : Option Value) (vm₁ : Vm) (B : Pt), s.WarmedH vm₁ ∧ Stand p l e R s m args below meth c B.U B.locs B.cells B.slots ∧ Post ⟨T.setVm vm₁, locs, cells, slots⟩ (Value.ref b :: argsL).toArray v B ∧
      ∀ target, Steps p.tables e below (B.U.setTop { g with pc := g.pc + 3, stack := v.toList ++ rest }) target → Steps p.tables e below (T.setTop g) target) ∨
    (∃ (q : Addr) (vm₁ : Vm) (B : Pt), s.WarmedH vm₁ ∧ Stand p l e R s m args below meth c B.U B.locs B.cells B.slots ∧ PostX ⟨T.setVm vm₁, locs, cells, slots⟩ (Value.ref b :: argsL).toArray q B ∧
      Steps p.tables e below (T.setTop g) ((B.U.setTop { g with stack := rest }).pushFrame (.throwing q))) := by
  obtain ⟨mk, methM, hnamed, hmethM, hstM, habM⟩ := Cond.instanceMethod_spec hinst
  obtain ⟨m8, methM', cM, hn8, hmethM', -, -, -, -, -, -, hsigM⟩ := Cond.codeWith_spec hcode
  cases Option.some.inj (hn8.symm.trans hnamed)
  cases hmethM.symm.trans hmethM'
  obtain ⟨c2, r2, m2, q1, q2, q3, q4, kP, hkP, hkPi⟩ := Cond.selects_spec hsel
  cases hcls.symm.trans q1
  cases (State.methodFound?_of_named hnamed hy).symm.trans q2
  cases hnamed.symm.trans q3
  have hselP : selectMethod e.platform s.vm cellB.cls mk = .method mk := by rw [Launch.admits_selectMethod X.admits]; exact q4
  obtain ⟨vm₁, X₁, hstep₁⟩ := X.invokevirtual hexec hown hlink hnamed hmethM hstM hkP hkPi hy (a := b) (cell := cellB) hcell
    (fun z h => by rw [h] at hobj; cases hobj) hselP hmethM habM hkP hkPi (g := g) hg (argsL := argsL) (rest := rest) (hlen _ hsigM) hstack hdg
  rcases hK m meth c ⟨T.setVm vm₁, locs, cells, slots⟩ { g with stack := rest } (.invokevirtual index) mk (Value.ref b :: argsL).toArray X₁ hg hsize hdg hW (X₁.named hnamed) (hpre vm₁ X₁.warmed) with ⟨v, B, X', hpost, hsteps⟩ | ⟨q, B, X', hpost, hsteps⟩
  · exact Or.inl ⟨v, vm₁, B, X₁.warmed, X', hpost, fun target h => hstep₁ _ fun acts => by rw [doInvoke_state]; exact hsteps.trans h⟩
  · exact Or.inr ⟨q, vm₁, B, X₁.warmed, X', hpost, hstep₁ _ fun acts => by rw [doInvoke_state]; exact hsteps⟩
theorem vx_callSX (X : Stand p l e R s m args below meth c T locs cells slots) (hexec : p.tables.exec = Jvm.exec) {own : String} {index : Nat} {y : MethodName} {bytes : ByteArray} {maxL : Nat} {ret : Option FieldType} {hh : List (Nat × Nat × Nat × Nat)}
    (hown : s.vm.findClass own = some m.cls) (hlink : (Cond.methodLink own index y).before args s = true) (hstat : (Cond.static y).before args s = true) (hinit : (Cond.initialized y.cls).before args s = true)
    (hcode : (Cond.codeWith y bytes maxL ret hh).before args s = true) (hy : y.cls ≠ "java/lang/invoke/MethodHandle" ∧ y.cls ≠ "java/lang/invoke/VarHandle")
    {W9 : Nat} {Pre : Pt → Array Value → Prop} {Post : Pt → Array Value → Option Value → Pt → Prop} {PostX : Pt → Array Value → Addr → Pt → Prop} (hK : vx_Back l R p e below s args y 3 W9 Pre Post PostX)
    {g : JFrame} (hg : g.method = m) (hsize : g.locals.size = c.maxLocals) {argsL rest : List Value} (hlen : ∀ sig, parseMethodDescriptor y.desc = some sig → argsL.length = sig.parameters.length)
    (hstack : g.stack = argsL.reverse ++ rest) (hW : 2 * g.monitorRoom + (rest.map fun v => v.category).sum ≤ W9) (hdg : decode c.code g.pc = .ok (.invokestatic index, 3))
    (hpre : ∀ vm₁, s.WarmedH vm₁ → Pre ⟨T.setVm vm₁, locs, cells, slots⟩ argsL.toArray) :
    (∃ (v : Option Value) (vm₁ : Vm) (B : Pt), s.WarmedH vm₁ ∧ Stand p l e R s m args below meth c B.U B.locs B.cells B.slots ∧ Post ⟨T.setVm vm₁, locs, cells, slots⟩ argsL.toArray v B ∧
      ∀ target, Steps p.tables e below (B.U.setTop { g with pc := g.pc + 3, stack := v.toList ++ rest }) target → Steps p.tables e below (T.setTop g) target) ∨
    (∃ (q : Addr) (vm₁ : Vm) (B : Pt), s.WarmedH vm₁ ∧ Stand p l e R s m args below meth c B.U B.locs B.cells B.slots ∧ PostX ⟨T.setVm vm₁, locs, cells, slots⟩ argsL.toArray q B ∧
      Steps p.tables e below (T.setTop g) ((B.U.setTop { g with stack := rest }).pushFrame (.throwing q))) := by
  obtain ⟨mk, methM, cM, hnamed, hmethM, -, -, -, -, -, -, hsigM⟩ := Cond.codeWith_spec hcode
  have hstatic : methM.isStatic = true := Cond.static_spec hnamed hmethM hstat
  obtain ⟨kP, hkP, -⟩ := className_of_methodNamed hnamed
  have hinitP : kP.init = .initialized := Cond.initialized_spec (findClass_of_methodNamed hnamed) hkP hinit
  obtain ⟨vm₁, X₁, hstep₁⟩ := X.invokestatic hexec hown hlink hnamed hmethM hstatic hkP hinitP hy (g := g) hg (argsL := argsL) (rest := rest) (hlen _ hsigM) hstack hdg
  rcases hK m meth c ⟨T.setVm vm₁, locs, cells, slots⟩ { g with stack := rest } (.invokestatic index) mk argsL.toArray X₁ hg hsize hdg hW (X₁.named hnamed) (hpre vm₁ X₁.warmed) with ⟨v, B, X', hpost, hsteps⟩ | ⟨q, B, X', hpost, hsteps⟩
  · exact Or.inl ⟨v, vm₁, B, X₁.warmed, X', hpost, fun target h => hstep₁ _ fun acts => by rw [doInvoke_state]; exact hsteps.trans h⟩
  · exact Or.inr ⟨q, vm₁, B, X₁.warmed, X', hpost, hstep₁ _ fun acts => by rw [doInvoke_state]; exact hsteps⟩
theorem vx_callVW (X : Stand p l e R s m args below meth c T locs cells slots) (hexec : p.tables.exec = Jvm.exec) {own C : String} {index : Nat} {y : MethodName} {bytes : ByteArray} {maxL : Nat} {ret : Option FieldType} {hh : List (Nat × Nat × Nat × Nat)}
    (hown : s.vm.findClass own = some m.cls) (hlink : (Cond.methodLink own index y).before args s = true) (hinst : (Cond.instanceMethod y).before args s = true) (hsel : (Cond.selects C y y).before args s = true)
    (hcode : (Cond.codeWith y bytes maxL ret hh).before args s = true) (hy : y.cls ≠ "java/lang/invoke/MethodHandle" ∧ y.cls ≠ "java/lang/invoke/VarHandle")
    {W9 : Nat} {Pre : Pt → Array Value → Prop} {Post : Pt → Array Value → Option Value → Pt → Prop} (hK : Back l R p e below s args y 3 W9 Pre Post)
    {b : Addr} {cellB : Cell} (hcell : T.heap[b]? = some cellB) (hobj : cellB.vm.isStatics = false) (hcls : s.vm.findClass C = some cellB.cls)
    {g : JFrame} (hg : g.method = m) (hsize : g.locals.size = c.maxLocals) {argsL rest : List Value} (hlen : ∀ sig, parseMethodDescriptor y.desc = some sig → argsL.length = sig.parameters.length)
    (hstack : g.stack = argsL.reverse ++ .ref b :: rest) (hW : 2 * g.monitorRoom + (rest.map fun v => v.category).sum ≤ W9) (hdg : decode c.code g.pc = .ok (.invokevirtual index, 3))
    (hpre : ∀ vm₁, s.WarmedH vm₁ → Pre ⟨T.setVm vm₁, locs, cells, slots⟩ (Value.ref b :: argsL).toArray) :
    ∃ (v : Option Value) (vm₁ : Vm) (B : Pt), s.WarmedH vm₁ ∧ Stand p l e R s m args below meth c B.U B.locs B.cells B.slots ∧ Post ⟨T.setVm vm₁, locs, cells, slots⟩ (Value.ref b :: argsL).toArray v B ∧
      ∀ target, Steps p.tables e below (B.U.setTop { g with pc := g.pc + 3, stack := v.toList ++ rest }) target → Steps p.tables e below (T.setTop g) target := by
  obtain ⟨mk, methM, hnamed, hmethM, hstM, habM⟩ := Cond.instanceMethod_spec hinst
  obtain ⟨m8, methM', cM, hn8, hmethM', -, -, -, -, -, -, hsigM⟩ := Cond.codeWith_spec hcode
  cases Option.some.inj (hn8.symm.trans hnamed)
  cases hmethM.symm.trans hmethM'
  obtain ⟨c2, r2, m2, q1, q2, q3, q4, kP, hkP, hkPi⟩ := Cond.selects_spec hsel
  cases hcls.symm.trans q1
  cases (State.methodFound?_of_named hnamed hy).symm.trans q2
  cases hnamed.symm.trans q3
  have hselP : selectMethod e.platform s.vm cellB.cls mk = .method mk := by rw [Launch.admits_selectMethod X.admits]; exact q4
  obtain ⟨vm₁, X₁, hstep₁⟩ := X.invokevirtual hexec hown hlink hnamed hmethM hstM hkP hkPi hy (a := b) (cell := cellB) hcell
    (fun z h => by rw [h] at hobj; cases hobj) hselP hmethM habM hkP hkPi (g := g) hg (argsL := argsL) (rest := rest) (hlen _ hsigM) hstack hdg
  obtain ⟨v, B, X', hpost, hsteps⟩ := hK m meth c ⟨T.setVm vm₁, locs, cells, slots⟩ { g with stack := rest } (.invokevirtual index) mk (Value.ref b :: argsL).toArray X₁ hg hsize hdg hW (X₁.named hnamed) (hpre vm₁ X₁.warmed)
  exact ⟨v, vm₁, B, X₁.warmed, X', hpost, fun target h => hstep₁ _ fun acts => by rw [doInvoke_state]; exact hsteps.trans h⟩
abbrev vx_CVW (R : Room) (s : State) (args : Array Value) (own C : String) (index : Nat) (y : MethodName) (bytes : ByteArray) (maxL : Nat) (ret : Option FieldType) (hh : List (Nat × Nat × Nat × Nat)) (ws : List Cond) (rm : Room) (mc ms n : Nat) : Prop :=
  (rm.cells = mc ∧ rm.slots = ms ∧ rm.frames + 1 ≤ R.frames ∧ 8 + (maxL + 11) + rm.locals ≤ R.locals ∧ (∀ w ∈ ws, ∀ (a' : Array Value) (U : State), s.WarmedH U.vm → w.before a' U = true) ∧ Cond.codeWith y bytes maxL ret hh ∈ ws) ∧
  (Cond.codeWith y bytes maxL ret hh).before args s = true ∧ (Cond.initialized y.cls).before args s = true ∧ (y.cls ≠ "java/lang/invoke/MethodHandle" ∧ y.cls ≠ "java/lang/invoke/VarHandle") ∧
  (∀ sig, parseMethodDescriptor y.desc = some sig → n = sig.parameters.length) ∧ (Cond.methodLink own index y).before args s = true ∧ (Cond.instanceMethod y).before args s = true ∧ (Cond.selects C y y).before args s = true
theorem vx_cwVW {own C : String} {index maxL mc ms : Nat} {y : MethodName} {bytes : ByteArray} {ret : Option FieldType} {hh : List (Nat × Nat × Nat × Nat)} {Ts ws ws' : List Cond} {rm : Room} (n : Nat) (ht : ∀ w ∈ Ts, w.before args s = true) (hT : GoodIn Ts (wsV own index C y ws)) (hw : ws = Cond.codeWith y bytes maxL ret hh :: ws') (hrc : rm.cells = mc) (hrs : rm.slots = ms)
    (hd : y.cls = C ∧ y.cls ≠ "java/lang/invoke/MethodHandle" ∧ y.cls ≠ "java/lang/invoke/VarHandle" ∧ (parseMethodDescriptor y.desc).map (fun d => d.parameters.length) = some n) (hR : rm.frames + 1 ≤ R.frames ∧ 8 + (maxL + 11) + rm.locals ≤ R.locals) :
    vx_CVW R s args own C index y bytes maxL ret hh ws rm mc ms n := by
  obtain ⟨hC, hd⟩ := hd
  subst hC
  have ok : ∀ w ∈ wsV own index y.cls y ws, w.before args s = true := fun w h => ht w (hT w h).1
  have hG : GoodIn Ts ws := fun w h => hT w (by unfold wsV; exact List.mem_append_right _ h)
  have hc : Cond.codeWith y bytes maxL ret hh ∈ ws := by rw [hw]; exact List.mem_cons_self
  refine ⟨⟨hrc, hrs, hR.1, hR.2, pay_in ht hG, hc⟩, ht _ (hG _ hc).1, ok _ (by simp [wsV]), ⟨hd.1, hd.2.1⟩, fun sig h => ?_, ok _ (by simp [wsV]), ok _ (by simp [wsV]), ok _ (by simp [wsV])⟩
  have h2 := hd.2.2
  rw [h] at h2
  exact (Option.some.inj h2).symm
theorem vx_runVW {y : MethodName} {bytes cc : ByteArray} {maxL nL mc ms n index : Nat} {ret : Option FieldType} {hh : List (Nat × Nat × Nat × Nat)} {ws : List Cond} {rm : Room} {Pc : Array Value → State → Prop} {Qc : Array Value → State → Outcome → State → Prop} {free : Addr → Prop} {Ts : List Cond} {own C : String} {b : Addr} {As rest : List Value} {g : JFrame}
    (S : CallFix p m c cc nL s args Ts own) (hM : Met l y ws rm Pc Qc mc ms free) (cw : vx_CVW R s args own C index y bytes maxL ret hh ws rm mc ms n) (hp : PreV s H C b Pc As)
    (hg : g.method = m) (hn : As.length = n) (hsize : g.locals.size = nL) (hstack : g.stack = As.reverse ++ .ref b :: rest) (hW : 2 * g.monitorRoom + (rest.map fun v => v.category).sum ≤ 8) (hdg : decode cc g.pc = .ok (.invokevirtual index, 3)) (hf : cells + mc ≤ R.cells ∧ slots + ms ≤ R.slots) :
    va_Run p l e R s m args below meth c H locs cells slots mc ms g rest (Qc (Value.ref b :: As).toArray) free := by
  obtain ⟨⟨hrc, hrs, hfr, hlo, hws, hcw⟩, hcode, hini, hy, hlen, hl, hin, hse⟩ := cw
  have hK : Back l R p e below s args y 3 8 (PreOf R mc ms Pc) (PostOf Qc mc ms free) := va_backW (hh := hh) (bytes := bytes) (maxL := maxL) (ret := ret) hM hp.1 hrc hrs hfr hlo hws hcw (fun a' U hW => word_at hW (Or.inl (by first | rfl | simp [Cond.onTables, Cond.keeps, Cond.steady])) hini)
  obtain ⟨hx, hb, hml, ho, -⟩ := S
  obtain ⟨-, ⟨cellB, hcB, hoB, hclB⟩, hPc⟩ := hp
  intro T hT X
  obtain ⟨v, vm₁, ⟨U', l2, c2, s2⟩, hW₁, X', ⟨g', mk, t, L, e1, e2, hq, h1, hL, h2, h3⟩, st⟩ := vx_callVW X hx (C := C) (hh := hh) (bytes := bytes) (maxL := maxL) (ret := ret) ho hl hin hse hcode hy hK (by rw [hT]; exact hcB) hoB hclB hg (hsize.trans hml.symm) (argsL := As) (rest := rest) (fun sig h => hn.trans (hlen sig h)) hstack hW (by rw [hb]; exact hdg)
    (fun vm₁ hW₁ => ⟨hf.1, hf.2, hPc (T.setVm vm₁) hT hW₁⟩)
  dsimp only [Pt.U, Pt.locs, Pt.cells, Pt.slots] at X' e1 e2 h1 h2 h3 st
  subst h1; subst h2; subst h3
  exact ⟨v, (T.setVm vm₁).calling g' mk (Value.ref b :: As).toArray, t, U', L, hT, X', hL, e1, e2, hq, st⟩
section
variable {y : MethodName} {bytes cc : ByteArray} {maxL nL mc ms n index : Nat} {ret : Option FieldType} {ws : List Cond} {rm : Room} {Pc : Array Value → State → Prop} {Qc : Array Value → State → Outcome → State → Prop} {XC : String → State → State → Prop} {free : Addr → Prop} {Ts : List Cond} {own C : String} {b : Addr} {As rest : List Value} {g : JFrame}
theorem vx_runVX {hh : List (Nat × Nat × Nat × Nat)} (S : CallFix p m c cc nL s args Ts own) (hM : vx_Met l y ws rm Pc Qc XC mc ms free) (cw : vx_CVW R s args own C index y bytes maxL ret hh ws rm mc ms n) (hp : PreV s H C b Pc As)
    (hg : g.method = m) (hn : As.length = n) (hsize : g.locals.size = nL) (hstack : g.stack = As.reverse ++ .ref b :: rest) (hW : 2 * g.monitorRoom + (rest.map fun v => v.category).sum ≤ 8) (hdg : decode cc g.pc = .ok (.invokevirtual index, 3)) (hf : cells + mc ≤ R.cells ∧ slots + ms ≤ R.slots) :
    vx_Run p l e R s m args below meth c H locs cells slots mc ms g rest (Qc (Value.ref b :: As).toArray) XC free := by
  obtain ⟨⟨hrc, hrs, hfr, hlo, hws, hcw⟩, hcode, hini, hy, hlen, hl, hin, hse⟩ := cw
  have hK : vx_Back l R p e below s args y 3 8 (PreOf R mc ms Pc) (PostOf Qc mc ms free) (vx_Post XC mc ms free) := vx_backW (hh := hh) (bytes := bytes) (maxL := maxL) (ret := ret) hM hp.1 hrc hrs hfr hlo hws hcw (fun a' U hW => word_at hW (Or.inl (by first | rfl | simp [Cond.onTables, Cond.keeps, Cond.steady])) hini)
  obtain ⟨hx, hb, hml, ho, -⟩ := S
  obtain ⟨-, ⟨cellB, hcB, hoB, hclB⟩, hPc⟩ := hp
  intro T hT X
  rcases vx_callVX X hx (C := C) (hh := hh) (bytes := bytes) (maxL := maxL) (ret := ret) ho hl hin hse hcode hy hK (by rw [hT]; exact hcB) hoB hclB hg (hsize.trans hml.symm) (argsL := As) (rest := rest) (fun sig h => hn.trans (hlen sig h)) hstack hW (by rw [hb]; exact hdg)
    (fun vm₁ hW₁ => ⟨hf.1, hf.2, hPc (T.setVm vm₁) hT hW₁⟩) with ⟨v, vm₁, ⟨U', l2, c2, s2⟩, hW₁, X', ⟨g', mk, t, L, e1, e2, hq, h1, hL, h2, h3⟩, st⟩ | ⟨q, vm₁, ⟨U', l2, c2, s2⟩, hW₁, X', ⟨g', mk, t, L, E, ce, e1, e2, hq, hce, hcv, hcl, h1, hL, h2, h3⟩, st⟩
  · dsimp only [Pt.U, Pt.locs, Pt.cells, Pt.slots] at X' e1 e2 h1 h2 h3 st
    subst h1; subst h2; subst h3
    exact Or.inl ⟨v, (T.setVm vm₁).calling g' mk (Value.ref b :: As).toArray, t, U', L, hT, X', hL, e1, e2, hq, st⟩
  · dsimp only [Pt.U, Pt.locs, Pt.cells, Pt.slots] at X' e1 e2 h1 h2 h3 st hcl
    subst h1; subst h2; subst h3
    exact Or.inr ⟨q, (T.setVm vm₁).calling g' mk (Value.ref b :: As).toArray, t, U', L, E, ce, hT, X', hL, e1, e2, hq, hce, hcv, vx_cls hW₁ hcl, st⟩
theorem vx_runSX {hh : List (Nat × Nat × Nat × Nat)} (S : CallFix p m c cc nL s args Ts own) (hM : vx_Met l y ws rm Pc Qc XC mc ms free) (cw : vx_CSW R s args own index y bytes maxL ret hh ws rm mc ms n) (hp : PreS s H Pc As)
    (hg : g.method = m) (hn : As.length = n) (hsize : g.locals.size = nL) (hstack : g.stack = As.reverse ++ rest) (hW : 2 * g.monitorRoom + (rest.map fun v => v.category).sum ≤ 8) (hdg : decode cc g.pc = .ok (.invokestatic index, 3)) (hf : cells + mc ≤ R.cells ∧ slots + ms ≤ R.slots) :
    vx_Run p l e R s m args below meth c H locs cells slots mc ms g rest (Qc As.toArray) XC free := by
  obtain ⟨⟨hrc, hrs, hfr, hlo, hws, hcw⟩, hcode, hini, hy, hlen, hl, hstt⟩ := cw
  have hK : vx_Back l R p e below s args y 3 8 (PreOf R mc ms Pc) (PostOf Qc mc ms free) (vx_Post XC mc ms free) := vx_backW (hh := hh) (bytes := bytes) (maxL := maxL) (ret := ret) hM hp.1 hrc hrs hfr hlo hws hcw (fun a' U hW => word_at hW (Or.inl (by first | rfl | simp [Cond.onTables, Cond.keeps, Cond.steady])) hini)
  obtain ⟨hx, hb, hml, ho, -⟩ := S
  intro T hT X
  rcases vx_callSX X hx (hh := hh) (bytes := bytes) (maxL := maxL) (ret := ret) ho hl hstt hini hcode hy hK hg (hsize.trans hml.symm) (argsL := As) (rest := rest) (fun sig h => hn.trans (hlen sig h)) hstack hW (by rw [hb]; exact hdg)
    (fun vm₁ hW₁ => ⟨hf.1, hf.2, hp.2 (T.setVm vm₁) hT hW₁⟩) with ⟨v, vm₁, ⟨U', l2, c2, s2⟩, hW₁, X', ⟨g', mk, t, L, e1, e2, hq, h1, hL, h2, h3⟩, st⟩ | ⟨q, vm₁, ⟨U', l2, c2, s2⟩, hW₁, X', ⟨g', mk, t, L, E, ce, e1, e2, hq, hce, hcv, hcl, h1, hL, h2, h3⟩, st⟩
  · dsimp only [Pt.U, Pt.locs, Pt.cells, Pt.slots] at X' e1 e2 h1 h2 h3 st
    subst h1; subst h2; subst h3
    exact Or.inl ⟨v, (T.setVm vm₁).calling g' mk As.toArray, t, U', L, hT, X', hL, e1, e2, hq, st⟩
  · dsimp only [Pt.U, Pt.locs, Pt.cells, Pt.slots] at X' e1 e2 h1 h2 h3 st hcl
    subst h1; subst h2; subst h3
    exact Or.inr ⟨q, (T.setVm vm₁).calling g' mk As.toArray, t, U', L, E, ce, hT, X', hL, e1, e2, hq, hce, hcv, vx_cls hW₁ hcl, st⟩
end
end VXH
theorem vx_ofWH {l : Launch} {y : MethodName} {ws ws' : List Cond} {rm : Room} {Pc : Array Value → State → Prop} {Qc : Array Value → State → Outcome → State → Prop} {XC : String → State → State → Prop} {mc ms : Nat} {free : Addr → Prop} {cc : ByteArray} {maxL : Nat} {ret : Option FieldType} {hh : List (Nat × Nat × Nat × Nat)}
    (hy : plainName y.cls = true) (hw : ws = Cond.codeWith y cc maxL ret hh :: ws')
    (body : ∀ p e s m args below meth c s₁, BodyLoose p l y (headSpec ws rm) cc maxL ret e s m args below meth c s₁ → c.maxLocals = maxL → Pc args s →
      W p l e (headSpec ws rm).room s m args below meth c s.heap [] 0 0 (vx_MQ below Qc XC args s mc ms free) (entryFrame m args maxL)) : vx_Met l y ws rm Pc Qc XC mc ms free := by
  refine MetFree.of_bodyS (code := cc) (maxLocals := maxL) (ret := ret) hy ?_ ?_
  · intro args s m h hn
    obtain ⟨m9, meth, c, hn9, h1, h2, h3, h4, -, h5, h6, -⟩ := Cond.codeWith_spec (atoms_spec (ws := ws) h _ (by rw [hw]; exact List.mem_cons_self))
    cases hn.symm.trans hn9
    exact ⟨meth, c, h1, h2, h3, h4, h5, h6⟩
  · intro p e s m args below meth c s₁ B hml hP _
    have hh0 : s₁.heap = s.heap := by rw [B.state]; rfl
    obtain ⟨t, a1, o, b1, b2, b3⟩ := body p e s m args below meth c s₁ B hml hP s₁ hh0 (Stand.of_body B)
    exact ⟨t, o, a1, b1, b2, b3⟩
/-! ===== END ===== -/
end
section
abbrev RH : String := "MeasureChoice$House"
def FH : u_T := fun k => match k with
  | 0 => ("MeasureChoice$House", "count", "I", false)
  | 1 => ("MeasureChoice$House", "version", "I", false)
  | 2 => ("MeasureChoice$House", "costs", "[I", true)
  | 3 => ("MeasureChoice$House", "gains", "[I", true)
  | 4 => ("MeasureChoice$House", "excluded", "[I", true)
  | 5 => ("MeasureChoice$House", "needed", "[I", true)
  | _ => ("MeasureChoice$House", "bonuses", "[[I", true)
def tH : Nat → FieldType := fun k => match k with
  | 0 => .int
  | 1 => .int
  | 2 => .array .int
  | 3 => .array .int
  | 4 => .array .int
  | 5 => .array .int
  | _ => .array (.array .int)
abbrev wH0 : List Cond := u_ws RH FH 7
theorem nH : ∀ a, a < 7 → ∀ b, b < 7 → a ≠ b → (FH a).2.1 ≠ (FH b).2.1 := by decide +kernel
theorem tH_ok : ∀ k, k < 7 → parseFieldDescriptor (FH k).2.2.1 = some (tH k) := by decide +kernel
abbrev RA : String := "MeasureChoice$Ladder"
def FA : u_T := fun k => match k with
  | 0 => ("MeasureChoice$Ladder", "rungs", "I", false)
  | 1 => ("MeasureChoice$Ladder", "version", "I", false)
  | 2 => ("MeasureChoice$Ladder", "steps", "[I", true)
  | _ => ("MeasureChoice$Ladder", "gains", "[I", true)
def tA : Nat → FieldType := fun k => match k with
  | 0 => .int
  | 1 => .int
  | 2 => .array .int
  | _ => .array .int
abbrev wA0 : List Cond := u_ws RA FA 4
theorem nA : ∀ a, a < 4 → ∀ b, b < 4 → a ≠ b → (FA a).2.1 ≠ (FA b).2.1 := by decide +kernel
theorem tA_ok : ∀ k, k < 4 → parseFieldDescriptor (FA k).2.2.1 = some (tA k) := by decide +kernel
abbrev RP : String := "MeasureChoice$Planner"
def FP : u_T := fun k => match k with
  | 0 => ("MeasureChoice$Planner", "budgets", "[I", true)
  | 1 => ("MeasureChoice$Planner", "totals", "[[I", true)
  | 2 => ("MeasureChoice$Planner", "spent", "[[I", true)
  | 3 => ("MeasureChoice$Planner", "purses", "[I", true)
  | 4 => ("MeasureChoice$Planner", "prices", "[I", true)
  | 5 => ("MeasureChoice$Planner", "gains", "[I", true)
  | _ => ("MeasureChoice$Planner", "sets", "I", false)
def tP : Nat → FieldType := fun k => match k with
  | 0 => .array .int
  | 1 => .array (.array .int)
  | 2 => .array (.array .int)
  | 3 => .array .int
  | 4 => .array .int
  | 5 => .array .int
  | _ => .int
abbrev wP0 : List Cond := u_ws RP FP 7
theorem nP : ∀ a, a < 7 → ∀ b, b < 7 → a ≠ b → (FP a).2.1 ≠ (FP b).2.1 := by decide +kernel
theorem tP_ok : ∀ k, k < 7 → parseFieldDescriptor (FP k).2.2.1 = some (tP k) := by decide +kernel
abbrev RM : String := "MeasureChoice"
def FM : u_T := fun k => match k with
  | 0 => ("MeasureChoice", "house", "LMeasureChoice$House;", true)
  | 1 => ("MeasureChoice", "ladder", "LMeasureChoice$Ladder;", true)
  | _ => ("MeasureChoice", "planner", "LMeasureChoice$Planner;", true)
def tM : Nat → FieldType := fun k => match k with
  | 0 => .object "MeasureChoice$House"
  | 1 => .object "MeasureChoice$Ladder"
  | _ => .object "MeasureChoice$Planner"
abbrev wM0 : List Cond := u_ws RM FM 3
theorem nM : ∀ a, a < 3 → ∀ b, b < 3 → a ≠ b → (FM a).2.1 ≠ (FM b).2.1 := by decide +kernel
theorem tM_ok : ∀ k, k < 3 → parseFieldDescriptor (FM k).2.2.1 = some (tM k) := by decide +kernel
abbrev RR : String := "MeasureChoiceModel"
def FR : u_T := fun k => match k with
  | 0 => ("MeasureChoiceModel", "thrown", "I", false)
  | 1 => ("MeasureChoiceModel", "many", "I", false)
  | 2 => ("MeasureChoiceModel", "costs", "[I", true)
  | 3 => ("MeasureChoiceModel", "gains", "[I", true)
  | 4 => ("MeasureChoiceModel", "barred", "[Z", true)
  | 5 => ("MeasureChoiceModel", "wants", "[Z", true)
  | 6 => ("MeasureChoiceModel", "bonuses", "[I", true)
  | 7 => ("MeasureChoiceModel", "budgets", "[I", true)
  | 8 => ("MeasureChoiceModel", "laterGain", "[I", true)
  | 9 => ("MeasureChoiceModel", "laterCost", "[I", true)
  | _ => ("MeasureChoiceModel", "choice", "[I", true)
def tR : Nat → FieldType := fun k => match k with
  | 0 => .int
  | 1 => .int
  | 2 => .array .int
  | 3 => .array .int
  | 4 => .array .boolean
  | 5 => .array .boolean
  | 6 => .array .int
  | 7 => .array .int
  | 8 => .array .int
  | 9 => .array .int
  | _ => .array .int
abbrev wR0 : List Cond := u_ws RR FR 11
theorem nR : ∀ a, a < 11 → ∀ b, b < 11 → a ≠ b → (FR a).2.1 ≠ (FR b).2.1 := by decide +kernel
theorem tR_ok : ∀ k, k < 11 → parseFieldDescriptor (FR k).2.2.1 = some (tR k) := by decide +kernel
abbrev RL : String := "MeasureChoiceLaw"
abbrev mcCl : List vw_C := [(RH, FH, 7), (RA, FA, 4), (RP, FP, 7), (RM, FM, 3), (RR, FR, 11)]
def mcB_0 : List Cond := [Cond.selects "MeasureChoice$Ladder" ⟨"MeasureChoice$Ladder", "addSteps", "(II)V"⟩ ⟨"MeasureChoice$Ladder", "addSteps", "(II)V"⟩, Cond.selects "MeasureChoice$Ladder" ⟨"MeasureChoice$Ladder", "addGains", "(ILMeasureChoice$House;)V"⟩ ⟨"MeasureChoice$Ladder", "addGains", "(ILMeasureChoice$House;)V"⟩, Cond.selects "MeasureChoice$Ladder" ⟨"MeasureChoice$Ladder", "keepUnbeaten", "(LMeasureChoice$House;)V"⟩ ⟨"MeasureChoice$Ladder", "keepUnbeaten", "(LMeasureChoice$House;)V"⟩, Cond.selects "java/lang/Throwable" ⟨"java/lang/Throwable", "fillInStackTrace", "(I)Ljava/lang/Throwable;"⟩ ⟨"java/lang/Throwable", "fillInStackTrace", "(I)Ljava/lang/Throwable;"⟩, Cond.selects "MeasureChoice" ⟨"MeasureChoice", "requireMeasure", "(I)V"⟩ ⟨"MeasureChoice", "requireMeasure", "(I)V"⟩, Cond.selects "MeasureChoice" ⟨"MeasureChoice", "requirePair", "(II)V"⟩ ⟨"MeasureChoice", "requirePair", "(II)V"⟩, Cond.selects "MeasureChoice" ⟨"MeasureChoice", "requireSet", "(I)V"⟩ ⟨"MeasureChoice", "requireSet", "(I)V"⟩, Cond.selects "MeasureChoice$House" ⟨"MeasureChoice$House", "bonusWithEarlier", "(II)I"⟩ ⟨"MeasureChoice$House", "bonusWithEarlier", "(II)I"⟩, Cond.selects "MeasureChoice$House" ⟨"MeasureChoice$House", "withItsNeeds", "(I)I"⟩ ⟨"MeasureChoice$House", "withItsNeeds", "(I)I"⟩, Cond.selects "MeasureChoice$Planner" ⟨"MeasureChoice$Planner", "fillPurses", "()V"⟩ ⟨"MeasureChoice$Planner", "fillPurses", "()V"⟩, Cond.selects "MeasureChoice$Planner" ⟨"MeasureChoice$Planner", "judgeSets", "(LMeasureChoice$House;)V"⟩ ⟨"MeasureChoice$Planner", "judgeSets", "(LMeasureChoice$House;)V"⟩, Cond.selects "MeasureChoice$Planner" ⟨"MeasureChoice$Planner", "workYear", "(IZ)V"⟩ ⟨"MeasureChoice$Planner", "workYear", "(IZ)V"⟩, Cond.selects "MeasureChoice$Planner" ⟨"MeasureChoice$Planner", "bestFrom", "(II)I"⟩ ⟨"MeasureChoice$Planner", "bestFrom", "(II)I"⟩, Cond.selects "MeasureChoice$Planner" ⟨"MeasureChoice$Planner", "isBetter", "(III)Z"⟩ ⟨"MeasureChoice$Planner", "isBetter", "(III)Z"⟩, Cond.selects "MeasureChoiceModel" ⟨"MeasureChoiceModel", "good", "(Z)Z"⟩ ⟨"MeasureChoiceModel", "good", "(Z)Z"⟩, Cond.selects "MeasureChoiceModel" ⟨"MeasureChoiceModel", "is", "(I)Z"⟩ ⟨"MeasureChoiceModel", "is", "(I)Z"⟩, Cond.selects "MeasureChoiceModel" ⟨"MeasureChoiceModel", "isSet", "(I)Z"⟩ ⟨"MeasureChoiceModel", "isSet", "(I)Z"⟩, Cond.selects "MeasureChoiceModel" ⟨"MeasureChoiceModel", "holds", "(I)Z"⟩ ⟨"MeasureChoiceModel", "holds", "(I)Z"⟩, Cond.selects "MeasureChoiceModel" ⟨"MeasureChoiceModel", "costOf", "(I)I"⟩ ⟨"MeasureChoiceModel", "costOf", "(I)I"⟩, Cond.selects "MeasureChoiceModel" ⟨"MeasureChoiceModel", "gainOf", "(I)I"⟩ ⟨"MeasureChoiceModel", "gainOf", "(I)I"⟩, Cond.selects "MeasureChoiceModel" ⟨"MeasureChoiceModel", "bestOf", "(J)I"⟩ ⟨"MeasureChoiceModel", "bestOf", "(J)I"⟩, Cond.selects "MeasureChoiceModel" ⟨"MeasureChoiceModel", "dearer", "(II)I"⟩ ⟨"MeasureChoiceModel", "dearer", "(II)I"⟩, Cond.selects "MeasureChoiceModel" ⟨"MeasureChoiceModel", "work", "(I)V"⟩ ⟨"MeasureChoiceModel", "work", "(I)V"⟩, Cond.selects "MeasureChoiceModel" ⟨"MeasureChoiceModel", "workOf", "(IIII)V"⟩ ⟨"MeasureChoiceModel", "workOf", "(IIII)V"⟩, Cond.initialized "MeasureChoiceLaw", Cond.initialized "MeasureChoice", Cond.initialized "MeasureChoice$House", Cond.initialized "MeasureChoice$Ladder", Cond.initialized "MeasureChoice$Planner", Cond.initialized "MeasureChoiceModel", Cond.initialized "java/lang/Throwable", Cond.initialized "java/lang/Exception", Cond.initialized "java/lang/RuntimeException", Cond.initialized "java/lang/IllegalArgumentException", Cond.initialized "java/lang/IllegalStateException", Cond.initialized "java/lang/Math", Cond.classLink "MeasureChoiceLaw" 8 "MeasureChoice", Cond.instantiable "MeasureChoice" 3, Cond.methodLink "MeasureChoiceLaw" 61 ⟨"MeasureChoice", "<init>", "()V"⟩, Cond.instanceMethod ⟨"MeasureChoice", "<init>", "()V"⟩]
def mcB_1 : List Cond := [Cond.code ⟨"MeasureChoice", "<init>", "()V"⟩ prog_1_method_1_code 1 none, Cond.methodLink "MeasureChoice" 3 ⟨"java/lang/Object", "<init>", "()V"⟩, Cond.instanceMethod ⟨"java/lang/Object", "<init>", "()V"⟩, Cond.code ⟨"java/lang/Object", "<init>", "()V"⟩ object_method_1_code 1 none, Cond.classLink "MeasureChoice" 9 "MeasureChoice$House", Cond.instantiable "MeasureChoice$House" 7, Cond.instanceMethod ⟨"MeasureChoice$House", "<init>", "()V"⟩, Cond.code ⟨"MeasureChoice$House", "<init>", "()V"⟩ prog_2_method_1_code 1 none, Cond.methodLink "MeasureChoice$House" 3 ⟨"java/lang/Object", "<init>", "()V"⟩, Cond.classLink "MeasureChoice$House" 24 "[[I", Cond.fieldLink "MeasureChoice$House" 29 "MeasureChoice$House" "count" "I", Cond.fieldLink "MeasureChoice" 34 "MeasureChoice$House" "count" "I", Cond.fieldLink "MeasureChoice$Planner" 47 "MeasureChoice$House" "count" "I", Cond.fieldLink "MeasureChoice$Ladder" 38 "MeasureChoice$House" "count" "I", Cond.fieldLink "MeasureChoice$House" 37 "MeasureChoice$House" "version" "I", Cond.fieldLink "MeasureChoice$Ladder" 35 "MeasureChoice$House" "version" "I", Cond.fieldLink "MeasureChoice$House" 9 "MeasureChoice$House" "costs" "[I", Cond.fieldLink "MeasureChoice$Ladder" 41 "MeasureChoice$House" "costs" "[I", Cond.fieldLink "MeasureChoice$House" 15 "MeasureChoice$House" "gains" "[I", Cond.fieldLink "MeasureChoice$Ladder" 56 "MeasureChoice$House" "gains" "[I", Cond.fieldLink "MeasureChoice$House" 18 "MeasureChoice$House" "excluded" "[I", Cond.fieldLink "MeasureChoice" 60 "MeasureChoice$House" "excluded" "[I", Cond.fieldLink "MeasureChoice$House" 21 "MeasureChoice$House" "needed" "[I", Cond.fieldLink "MeasureChoice" 72 "MeasureChoice$House" "needed" "[I", Cond.fieldLink "MeasureChoice$House" 26 "MeasureChoice$House" "bonuses" "[[I", Cond.fieldLink "MeasureChoice" 81 "MeasureChoice$House" "bonuses" "[[I", Cond.fieldLink "MeasureChoice$Ladder" 57 "MeasureChoice$House" "bonuses" "[[I", Cond.lays "MeasureChoice$House" "MeasureChoice$House" "count" "I", Cond.soleField "MeasureChoice$House" "count", Cond.lays "MeasureChoice$House" "MeasureChoice$House" "version" "I", Cond.soleField "MeasureChoice$House" "version", Cond.laysFinal "MeasureChoice$House" "MeasureChoice$House" "costs" "[I", Cond.soleField "MeasureChoice$House" "costs", Cond.laysFinal "MeasureChoice$House" "MeasureChoice$House" "gains" "[I", Cond.soleField "MeasureChoice$House" "gains", Cond.laysFinal "MeasureChoice$House" "MeasureChoice$House" "excluded" "[I", Cond.soleField "MeasureChoice$House" "excluded", Cond.laysFinal "MeasureChoice$House" "MeasureChoice$House" "needed" "[I", Cond.soleField "MeasureChoice$House" "needed", Cond.laysFinal "MeasureChoice$House" "MeasureChoice$House" "bonuses" "[[I"]
def mcB_2 : List Cond := [Cond.soleField "MeasureChoice$House" "bonuses", Cond.superclass "MeasureChoice$House" "java/lang/Object", Cond.arrayClass FieldType.int, Cond.classLink "MeasureChoice" 16 "MeasureChoice$Ladder", Cond.instantiable "MeasureChoice$Ladder" 4, Cond.instanceMethod ⟨"MeasureChoice$Ladder", "<init>", "()V"⟩, Cond.code ⟨"MeasureChoice$Ladder", "<init>", "()V"⟩ prog_3_method_1_code 1 none, Cond.methodLink "MeasureChoice$Ladder" 3 ⟨"java/lang/Object", "<init>", "()V"⟩, Cond.fieldLink "MeasureChoice$Ladder" 26 "MeasureChoice$Ladder" "rungs" "I", Cond.fieldLink "MeasureChoice" 133 "MeasureChoice$Ladder" "rungs" "I", Cond.fieldLink "MeasureChoice$Ladder" 9 "MeasureChoice$Ladder" "version" "I", Cond.fieldLink "MeasureChoice$Ladder" 15 "MeasureChoice$Ladder" "steps" "[I", Cond.fieldLink "MeasureChoice$Ladder" 19 "MeasureChoice$Ladder" "gains" "[I", Cond.lays "MeasureChoice$Ladder" "MeasureChoice$Ladder" "rungs" "I", Cond.soleField "MeasureChoice$Ladder" "rungs", Cond.lays "MeasureChoice$Ladder" "MeasureChoice$Ladder" "version" "I", Cond.soleField "MeasureChoice$Ladder" "version", Cond.laysFinal "MeasureChoice$Ladder" "MeasureChoice$Ladder" "steps" "[I", Cond.soleField "MeasureChoice$Ladder" "steps", Cond.laysFinal "MeasureChoice$Ladder" "MeasureChoice$Ladder" "gains" "[I", Cond.soleField "MeasureChoice$Ladder" "gains", Cond.superclass "MeasureChoice$Ladder" "java/lang/Object", Cond.classLink "MeasureChoice" 23 "MeasureChoice$Planner", Cond.instantiable "MeasureChoice$Planner" 7, Cond.instanceMethod ⟨"MeasureChoice$Planner", "<init>", "()V"⟩, Cond.code ⟨"MeasureChoice$Planner", "<init>", "()V"⟩ prog_4_method_1_code 1 none, Cond.methodLink "MeasureChoice$Planner" 3 ⟨"java/lang/Object", "<init>", "()V"⟩, Cond.classLink "MeasureChoice$Planner" 15 "[[I", Cond.fieldLink "MeasureChoice$Planner" 9 "MeasureChoice$Planner" "budgets" "[I", Cond.fieldLink "MeasureChoice" 137 "MeasureChoice$Planner" "budgets" "[I", Cond.fieldLink "MeasureChoice$Planner" 17 "MeasureChoice$Planner" "totals" "[[I", Cond.fieldLink "MeasureChoice" 147 "MeasureChoice$Planner" "totals" "[[I", Cond.fieldLink "MeasureChoice$Planner" 20 "MeasureChoice$Planner" "spent" "[[I", Cond.fieldLink "MeasureChoice$Planner" 23 "MeasureChoice$Planner" "purses" "[I", Cond.fieldLink "MeasureChoice$Planner" 26 "MeasureChoice$Planner" "prices" "[I", Cond.fieldLink "MeasureChoice$Planner" 29 "MeasureChoice$Planner" "gains" "[I", Cond.fieldLink "MeasureChoice$Planner" 58 "MeasureChoice$Planner" "sets" "I", Cond.laysFinal "MeasureChoice$Planner" "MeasureChoice$Planner" "budgets" "[I", Cond.soleField "MeasureChoice$Planner" "budgets", Cond.laysFinal "MeasureChoice$Planner" "MeasureChoice$Planner" "totals" "[[I"]
def mcB_3 : List Cond := [Cond.soleField "MeasureChoice$Planner" "totals", Cond.laysFinal "MeasureChoice$Planner" "MeasureChoice$Planner" "spent" "[[I", Cond.soleField "MeasureChoice$Planner" "spent", Cond.laysFinal "MeasureChoice$Planner" "MeasureChoice$Planner" "purses" "[I", Cond.soleField "MeasureChoice$Planner" "purses", Cond.laysFinal "MeasureChoice$Planner" "MeasureChoice$Planner" "prices" "[I", Cond.soleField "MeasureChoice$Planner" "prices", Cond.laysFinal "MeasureChoice$Planner" "MeasureChoice$Planner" "gains" "[I", Cond.soleField "MeasureChoice$Planner" "gains", Cond.lays "MeasureChoice$Planner" "MeasureChoice$Planner" "sets" "I", Cond.soleField "MeasureChoice$Planner" "sets", Cond.superclass "MeasureChoice$Planner" "java/lang/Object", Cond.fieldLink "MeasureChoice" 12 "MeasureChoice" "house" "LMeasureChoice$House;", Cond.fieldLink "MeasureChoice" 19 "MeasureChoice" "ladder" "LMeasureChoice$Ladder;", Cond.fieldLink "MeasureChoice" 26 "MeasureChoice" "planner" "LMeasureChoice$Planner;", Cond.laysFinal "MeasureChoice" "MeasureChoice" "house" "LMeasureChoice$House;", Cond.soleField "MeasureChoice" "house", Cond.laysFinal "MeasureChoice" "MeasureChoice" "ladder" "LMeasureChoice$Ladder;", Cond.soleField "MeasureChoice" "ladder", Cond.laysFinal "MeasureChoice" "MeasureChoice" "planner" "LMeasureChoice$Planner;", Cond.soleField "MeasureChoice" "planner", Cond.superclass "MeasureChoice" "java/lang/Object", Cond.methodLink "MeasureChoiceLaw" 103 ⟨"MeasureChoice", "budget", "(I)I"⟩, Cond.instanceMethod ⟨"MeasureChoice", "budget", "(I)I"⟩, Cond.selects "MeasureChoice" ⟨"MeasureChoice", "budget", "(I)I"⟩ ⟨"MeasureChoice", "budget", "(I)I"⟩, Cond.code ⟨"MeasureChoice", "budget", "(I)I"⟩ prog_1_method_11_code 3 (some FieldType.int), Cond.methodLink "MeasureChoice" 108 ⟨"MeasureChoice$Ladder", "bringUpToDate", "(LMeasureChoice$House;)V"⟩, Cond.instanceMethod ⟨"MeasureChoice$Ladder", "bringUpToDate", "(LMeasureChoice$House;)V"⟩, Cond.selects "MeasureChoice$Ladder" ⟨"MeasureChoice$Ladder", "bringUpToDate", "(LMeasureChoice$House;)V"⟩ ⟨"MeasureChoice$Ladder", "bringUpToDate", "(LMeasureChoice$House;)V"⟩, Cond.code ⟨"MeasureChoice$Ladder", "bringUpToDate", "(LMeasureChoice$House;)V"⟩ prog_3_method_7_code 3 none, Cond.methodLink "MeasureChoice$Ladder" 44 ⟨"MeasureChoice$Ladder", "addSteps", "(II)V"⟩, Cond.instanceMethod ⟨"MeasureChoice$Ladder", "addSteps", "(II)V"⟩, Cond.code ⟨"MeasureChoice$Ladder", "addSteps", "(II)V"⟩ prog_3_method_8_code 7 none, Cond.methodLink "MeasureChoice$Ladder" 48 ⟨"MeasureChoice$Ladder", "addGains", "(ILMeasureChoice$House;)V"⟩, Cond.instanceMethod ⟨"MeasureChoice$Ladder", "addGains", "(ILMeasureChoice$House;)V"⟩, Cond.code ⟨"MeasureChoice$Ladder", "addGains", "(ILMeasureChoice$House;)V"⟩ prog_3_method_9_code 9 none, Cond.methodLink "MeasureChoice$Ladder" 52 ⟨"MeasureChoice$Ladder", "keepUnbeaten", "(LMeasureChoice$House;)V"⟩, Cond.instanceMethod ⟨"MeasureChoice$Ladder", "keepUnbeaten", "(LMeasureChoice$House;)V"⟩, Cond.code ⟨"MeasureChoice$Ladder", "keepUnbeaten", "(LMeasureChoice$House;)V"⟩ prog_3_method_10_code 4 none, Cond.methodLink "MeasureChoice$Ladder" 22 ⟨"MeasureChoice$Ladder", "setAt", "(I)I"⟩]
def mcB_4 : List Cond := [Cond.instanceMethod ⟨"MeasureChoice$Ladder", "setAt", "(I)I"⟩, Cond.selects "MeasureChoice$Ladder" ⟨"MeasureChoice$Ladder", "setAt", "(I)I"⟩ ⟨"MeasureChoice$Ladder", "setAt", "(I)I"⟩, Cond.code ⟨"MeasureChoice$Ladder", "setAt", "(I)I"⟩ prog_3_method_2_code 2 (some FieldType.int), Cond.methodLink "MeasureChoice$Ladder" 32 ⟨"MeasureChoice$Ladder", "gainAt", "(I)I"⟩, Cond.instanceMethod ⟨"MeasureChoice$Ladder", "gainAt", "(I)I"⟩, Cond.selects "MeasureChoice$Ladder" ⟨"MeasureChoice$Ladder", "gainAt", "(I)I"⟩ ⟨"MeasureChoice$Ladder", "gainAt", "(I)I"⟩, Cond.code ⟨"MeasureChoice$Ladder", "gainAt", "(I)I"⟩ prog_3_method_4_code 2 (some FieldType.int), Cond.methodLink "MeasureChoice$Ladder" 61 ⟨"MeasureChoice$House", "allows", "(I)Z"⟩, Cond.instanceMethod ⟨"MeasureChoice$House", "allows", "(I)Z"⟩, Cond.selects "MeasureChoice$House" ⟨"MeasureChoice$House", "allows", "(I)Z"⟩ ⟨"MeasureChoice$House", "allows", "(I)Z"⟩, Cond.code ⟨"MeasureChoice$House", "allows", "(I)Z"⟩ prog_2_method_7_code 3 (some FieldType.boolean), Cond.methodLink "MeasureChoice$House" 44 ⟨"MeasureChoice$House", "has", "(II)Z"⟩, Cond.static ⟨"MeasureChoice$House", "has", "(II)Z"⟩, Cond.code ⟨"MeasureChoice$House", "has", "(II)Z"⟩ prog_2_method_13_code 2 (some FieldType.boolean), Cond.methodLink "MeasureChoice$Ladder" 29 ⟨"MeasureChoice$Ladder", "costAt", "(I)I"⟩, Cond.instanceMethod ⟨"MeasureChoice$Ladder", "costAt", "(I)I"⟩, Cond.selects "MeasureChoice$Ladder" ⟨"MeasureChoice$Ladder", "costAt", "(I)I"⟩ ⟨"MeasureChoice$Ladder", "costAt", "(I)I"⟩, Cond.code ⟨"MeasureChoice$Ladder", "costAt", "(I)I"⟩ prog_3_method_3_code 2 (some FieldType.int), Cond.methodLink "MeasureChoice" 118 ⟨"MeasureChoice$Ladder", "lowestGaining", "(I)I"⟩, Cond.instanceMethod ⟨"MeasureChoice$Ladder", "lowestGaining", "(I)I"⟩, Cond.selects "MeasureChoice$Ladder" ⟨"MeasureChoice$Ladder", "lowestGaining", "(I)I"⟩ ⟨"MeasureChoice$Ladder", "lowestGaining", "(I)I"⟩, Cond.code ⟨"MeasureChoice$Ladder", "lowestGaining", "(I)I"⟩ prog_3_method_6_code 3 (some FieldType.int), Cond.methodLink "MeasureChoice" 121 ⟨"MeasureChoice$Ladder", "costAt", "(I)I"⟩, Cond.methodLink "MeasureChoiceLaw" 65 ⟨"MeasureChoiceLaw", "measure", "(LMeasureChoice;II[J)I"⟩, Cond.static ⟨"MeasureChoiceLaw", "measure", "(LMeasureChoice;II[J)I"⟩, Cond.codeWith ⟨"MeasureChoiceLaw", "measure", "(LMeasureChoice;II[J)I"⟩ method_3_code 5 (some FieldType.int) [(0, 10, 13, 13), (0, 10, 17, 15)], Cond.classLink "MeasureChoiceLaw" 13 "java/lang/IllegalArgumentException", Cond.classLink "MeasureChoiceLaw" 15 "java/lang/IllegalStateException", Cond.methodLink "MeasureChoiceLaw" 7 ⟨"MeasureChoice", "measure", "(II)I"⟩, Cond.instanceMethod ⟨"MeasureChoice", "measure", "(II)I"⟩, Cond.selects "MeasureChoice" ⟨"MeasureChoice", "measure", "(II)I"⟩ ⟨"MeasureChoice", "measure", "(II)I"⟩, Cond.code ⟨"MeasureChoice", "measure", "(II)I"⟩ prog_1_method_2_code 3 (some FieldType.int), Cond.methodLink "MeasureChoice" 30 ⟨"MeasureChoice", "requireCostAndGain", "(II)V"⟩, Cond.static ⟨"MeasureChoice", "requireCostAndGain", "(II)V"⟩, Cond.code ⟨"MeasureChoice", "requireCostAndGain", "(II)V"⟩ prog_1_method_19_code 2 none, Cond.methodLink "MeasureChoice" 78 ⟨"MeasureChoice", "requireBetween", "(III)V"⟩, Cond.static ⟨"MeasureChoice", "requireBetween", "(III)V"⟩, Cond.code ⟨"MeasureChoice", "requireBetween", "(III)V"⟩ prog_1_method_17_code 3 none, Cond.classLink "MeasureChoice" 125 "java/lang/IllegalArgumentException", Cond.instantiable "java/lang/IllegalArgumentException" 6]
def mcB_5 : List Cond := [Cond.selects "java/lang/IllegalArgumentException" ⟨"java/lang/Throwable", "fillInStackTrace", "(I)Ljava/lang/Throwable;"⟩ ⟨"java/lang/Throwable", "fillInStackTrace", "(I)Ljava/lang/Throwable;"⟩, Cond.selects "java/lang/IllegalArgumentException" ⟨"java/lang/Throwable", "fillInStackTrace", "()Ljava/lang/Throwable;"⟩ ⟨"java/lang/Throwable", "fillInStackTrace", "()Ljava/lang/Throwable;"⟩, Cond.lays "java/lang/IllegalArgumentException" "java/lang/Throwable" "cause" "Ljava/lang/Throwable;", Cond.lays "java/lang/Throwable" "java/lang/Throwable" "cause" "Ljava/lang/Throwable;", Cond.lays "java/lang/IllegalArgumentException" "java/lang/Throwable" "stackTrace" "[Ljava/lang/StackTraceElement;", Cond.lays "java/lang/Throwable" "java/lang/Throwable" "stackTrace" "[Ljava/lang/StackTraceElement;", Cond.lays "java/lang/IllegalArgumentException" "java/lang/Throwable" "suppressedExceptions" "Ljava/util/List;", Cond.lays "java/lang/Throwable" "java/lang/Throwable" "suppressedExceptions" "Ljava/util/List;", Cond.lays "java/lang/IllegalArgumentException" "java/lang/Throwable" "detailMessage" "Ljava/lang/String;", Cond.lays "java/lang/Throwable" "java/lang/Throwable" "detailMessage" "Ljava/lang/String;", Cond.lays "java/lang/IllegalArgumentException" "java/lang/Throwable" "backtrace" "Ljava/lang/Object;", Cond.lays "java/lang/Throwable" "java/lang/Throwable" "backtrace" "Ljava/lang/Object;", Cond.fieldLink "java/lang/Throwable" 198 "java/lang/Throwable" "backtrace" "Ljava/lang/Object;", Cond.superclass "java/lang/Throwable" "java/lang/Object", Cond.instanceMethod ⟨"java/lang/Throwable", "<init>", "()V"⟩, Cond.code ⟨"java/lang/Throwable", "<init>", "()V"⟩ prog_13_method_1_code 1 none, Cond.methodLink "java/lang/Throwable" 1 ⟨"java/lang/Object", "<init>", "()V"⟩, Cond.fieldLink "java/lang/Throwable" 13 "java/lang/Throwable" "UNASSIGNED_STACK" "[Ljava/lang/StackTraceElement;", Cond.fieldLink "java/lang/Throwable" 20 "java/lang/Throwable" "SUPPRESSED_SENTINEL" "Ljava/util/List;", Cond.methodLink "java/lang/Throwable" 27 ⟨"java/lang/Throwable", "fillInStackTrace", "()Ljava/lang/Throwable;"⟩, Cond.instanceMethod ⟨"java/lang/Throwable", "fillInStackTrace", "()Ljava/lang/Throwable;"⟩, Cond.sameMethod "java/lang/Throwable" "java/lang/Throwable" "fillInStackTrace" "()Ljava/lang/Throwable;", Cond.selects "java/lang/IllegalStateException" ⟨"java/lang/Throwable", "fillInStackTrace", "()Ljava/lang/Throwable;"⟩ ⟨"java/lang/Throwable", "fillInStackTrace", "()Ljava/lang/Throwable;"⟩, Cond.codeSync ⟨"java/lang/Throwable", "fillInStackTrace", "()Ljava/lang/Throwable;"⟩ prog_13_method_18_code 1 (some (FieldType.object "java/lang/Throwable")), Cond.methodLink "java/lang/Throwable" 202 ⟨"java/lang/Throwable", "fillInStackTrace", "(I)Ljava/lang/Throwable;"⟩, Cond.instanceMethod ⟨"java/lang/Throwable", "fillInStackTrace", "(I)Ljava/lang/Throwable;"⟩, Cond.instantiable "java/lang/Throwable" 6, Cond.native ⟨"java/lang/Throwable", "fillInStackTrace", "(I)Ljava/lang/Throwable;"⟩, Cond.methodLink "MeasureChoice" 129 ⟨"java/lang/IllegalArgumentException", "<init>", "(Ljava/lang/String;)V"⟩, Cond.instanceMethod ⟨"java/lang/IllegalArgumentException", "<init>", "(Ljava/lang/String;)V"⟩, Cond.code ⟨"java/lang/IllegalArgumentException", "<init>", "(Ljava/lang/String;)V"⟩ prog_8_method_2_code 2 none, Cond.methodLink "java/lang/IllegalArgumentException" 7 ⟨"java/lang/RuntimeException", "<init>", "(Ljava/lang/String;)V"⟩, Cond.instanceMethod ⟨"java/lang/RuntimeException", "<init>", "(Ljava/lang/String;)V"⟩, Cond.code ⟨"java/lang/RuntimeException", "<init>", "(Ljava/lang/String;)V"⟩ prog_11_method_2_code 2 none, Cond.methodLink "java/lang/RuntimeException" 7 ⟨"java/lang/Exception", "<init>", "(Ljava/lang/String;)V"⟩, Cond.instanceMethod ⟨"java/lang/Exception", "<init>", "(Ljava/lang/String;)V"⟩, Cond.code ⟨"java/lang/Exception", "<init>", "(Ljava/lang/String;)V"⟩ prog_7_method_2_code 2 none, Cond.methodLink "java/lang/Exception" 7 ⟨"java/lang/Throwable", "<init>", "(Ljava/lang/String;)V"⟩, Cond.instanceMethod ⟨"java/lang/Throwable", "<init>", "(Ljava/lang/String;)V"⟩, Cond.code ⟨"java/lang/Throwable", "<init>", "(Ljava/lang/String;)V"⟩ prog_13_method_2_code 2 none]
def mcB_6 : List Cond := [Cond.fieldLink "java/lang/Throwable" 198 "java/lang/Throwable" "backtrace" "Ljava/lang/Object;", Cond.fieldLink "java/lang/Throwable" 31 "java/lang/Throwable" "detailMessage" "Ljava/lang/String;", Cond.fieldLink "java/lang/Throwable" 7 "java/lang/Throwable" "cause" "Ljava/lang/Throwable;", Cond.fieldLink "java/lang/Throwable" 17 "java/lang/Throwable" "stackTrace" "[Ljava/lang/StackTraceElement;", Cond.fieldLink "java/lang/Throwable" 24 "java/lang/Throwable" "suppressedExceptions" "Ljava/util/List;", Cond.soleField "java/lang/Throwable" "backtrace", Cond.soleField "java/lang/Throwable" "detailMessage", Cond.soleField "java/lang/Throwable" "cause", Cond.soleField "java/lang/Throwable" "stackTrace", Cond.lays "java/lang/IllegalArgumentException" "java/lang/Throwable" "depth" "I", Cond.soleField "java/lang/Throwable" "depth", Cond.soleField "java/lang/Throwable" "suppressedExceptions", Cond.superclass "java/lang/IllegalArgumentException" "java/lang/RuntimeException", Cond.arrayClass FieldType.byte, Cond.classLink "MeasureChoice" 38 "java/lang/IllegalStateException", Cond.instantiable "java/lang/IllegalStateException" 6, Cond.selects "java/lang/IllegalStateException" ⟨"java/lang/Throwable", "fillInStackTrace", "(I)Ljava/lang/Throwable;"⟩ ⟨"java/lang/Throwable", "fillInStackTrace", "(I)Ljava/lang/Throwable;"⟩, Cond.lays "java/lang/IllegalStateException" "java/lang/Throwable" "cause" "Ljava/lang/Throwable;", Cond.lays "java/lang/IllegalStateException" "java/lang/Throwable" "stackTrace" "[Ljava/lang/StackTraceElement;", Cond.lays "java/lang/IllegalStateException" "java/lang/Throwable" "suppressedExceptions" "Ljava/util/List;", Cond.lays "java/lang/IllegalStateException" "java/lang/Throwable" "detailMessage" "Ljava/lang/String;", Cond.lays "java/lang/IllegalStateException" "java/lang/Throwable" "backtrace" "Ljava/lang/Object;", Cond.methodLink "MeasureChoice" 42 ⟨"java/lang/IllegalStateException", "<init>", "(Ljava/lang/String;)V"⟩, Cond.instanceMethod ⟨"java/lang/IllegalStateException", "<init>", "(Ljava/lang/String;)V"⟩, Cond.code ⟨"java/lang/IllegalStateException", "<init>", "(Ljava/lang/String;)V"⟩ prog_9_method_2_code 2 none, Cond.methodLink "java/lang/IllegalStateException" 7 ⟨"java/lang/RuntimeException", "<init>", "(Ljava/lang/String;)V"⟩, Cond.lays "java/lang/IllegalStateException" "java/lang/Throwable" "depth" "I", Cond.superclass "java/lang/IllegalStateException" "java/lang/RuntimeException", Cond.methodLink "MeasureChoice" 45 ⟨"MeasureChoice$House", "add", "(II)I"⟩, Cond.instanceMethod ⟨"MeasureChoice$House", "add", "(II)I"⟩, Cond.selects "MeasureChoice$House" ⟨"MeasureChoice$House", "add", "(II)I"⟩ ⟨"MeasureChoice$House", "add", "(II)I"⟩, Cond.code ⟨"MeasureChoice$House", "add", "(II)I"⟩ prog_2_method_2_code 4 (some FieldType.int), Cond.methodLink "MeasureChoice$House" 33 ⟨"MeasureChoice$House", "put", "(III)V"⟩, Cond.instanceMethod ⟨"MeasureChoice$House", "put", "(III)V"⟩, Cond.selects "MeasureChoice$House" ⟨"MeasureChoice$House", "put", "(III)V"⟩ ⟨"MeasureChoice$House", "put", "(III)V"⟩, Cond.code ⟨"MeasureChoice$House", "put", "(III)V"⟩ prog_2_method_3_code 4 none, Cond.methodLink "MeasureChoiceLaw" 75 ⟨"MeasureChoiceLaw", "change", "(LMeasureChoice;III)I"⟩, Cond.static ⟨"MeasureChoiceLaw", "change", "(LMeasureChoice;III)I"⟩, Cond.codeWith ⟨"MeasureChoiceLaw", "change", "(LMeasureChoice;III)I"⟩ method_4_code 5 (some FieldType.int) [(0, 7, 10, 13)], Cond.methodLink "MeasureChoiceLaw" 17 ⟨"MeasureChoice", "change", "(III)V"⟩]
def mcB_7 : List Cond := [Cond.instanceMethod ⟨"MeasureChoice", "change", "(III)V"⟩, Cond.selects "MeasureChoice" ⟨"MeasureChoice", "change", "(III)V"⟩ ⟨"MeasureChoice", "change", "(III)V"⟩, Cond.code ⟨"MeasureChoice", "change", "(III)V"⟩ prog_1_method_3_code 4 none, Cond.methodLink "MeasureChoice" 49 ⟨"MeasureChoice", "requireMeasure", "(I)V"⟩, Cond.instanceMethod ⟨"MeasureChoice", "requireMeasure", "(I)V"⟩, Cond.code ⟨"MeasureChoice", "requireMeasure", "(I)V"⟩ prog_1_method_20_code 2 none, Cond.methodLink "MeasureChoice" 53 ⟨"MeasureChoice$House", "put", "(III)V"⟩, Cond.methodLink "MeasureChoiceLaw" 79 ⟨"MeasureChoiceLaw", "exclude", "(LMeasureChoice;IIZ[J)I"⟩, Cond.static ⟨"MeasureChoiceLaw", "exclude", "(LMeasureChoice;IIZ[J)I"⟩, Cond.codeWith ⟨"MeasureChoiceLaw", "exclude", "(LMeasureChoice;IIZ[J)I"⟩ method_5_code 6 (some FieldType.int) [(0, 19, 22, 13)], Cond.methodLink "MeasureChoiceLaw" 21 ⟨"MeasureChoice", "exclude", "(IIZ)Z"⟩, Cond.instanceMethod ⟨"MeasureChoice", "exclude", "(IIZ)Z"⟩, Cond.selects "MeasureChoice" ⟨"MeasureChoice", "exclude", "(IIZ)Z"⟩ ⟨"MeasureChoice", "exclude", "(IIZ)Z"⟩, Cond.code ⟨"MeasureChoice", "exclude", "(IIZ)Z"⟩ prog_1_method_4_code 5 (some FieldType.boolean), Cond.methodLink "MeasureChoice" 57 ⟨"MeasureChoice", "requirePair", "(II)V"⟩, Cond.instanceMethod ⟨"MeasureChoice", "requirePair", "(II)V"⟩, Cond.code ⟨"MeasureChoice", "requirePair", "(II)V"⟩ prog_1_method_21_code 3 none, Cond.methodLink "MeasureChoice" 64 ⟨"MeasureChoice$House", "has", "(II)Z"⟩, Cond.methodLink "MeasureChoice" 68 ⟨"MeasureChoice$House", "putExcluded", "(IIZ)V"⟩, Cond.instanceMethod ⟨"MeasureChoice$House", "putExcluded", "(IIZ)V"⟩, Cond.selects "MeasureChoice$House" ⟨"MeasureChoice$House", "putExcluded", "(IIZ)V"⟩ ⟨"MeasureChoice$House", "putExcluded", "(IIZ)V"⟩, Cond.code ⟨"MeasureChoice$House", "putExcluded", "(IIZ)V"⟩ prog_2_method_4_code 4 none, Cond.methodLink "MeasureChoice$House" 40 ⟨"MeasureChoice$House", "with", "(IIZ)I"⟩, Cond.static ⟨"MeasureChoice$House", "with", "(IIZ)I"⟩, Cond.code ⟨"MeasureChoice$House", "with", "(IIZ)I"⟩ prog_2_method_14_code 4 (some FieldType.int), Cond.methodLink "MeasureChoiceLaw" 83 ⟨"MeasureChoiceLaw", "needs", "(LMeasureChoice;IIZ[J)I"⟩, Cond.static ⟨"MeasureChoiceLaw", "needs", "(LMeasureChoice;IIZ[J)I"⟩, Cond.codeWith ⟨"MeasureChoiceLaw", "needs", "(LMeasureChoice;IIZ[J)I"⟩ method_6_code 6 (some FieldType.int) [(0, 19, 22, 13)], Cond.methodLink "MeasureChoiceLaw" 25 ⟨"MeasureChoice", "needs", "(IIZ)Z"⟩, Cond.instanceMethod ⟨"MeasureChoice", "needs", "(IIZ)Z"⟩, Cond.selects "MeasureChoice" ⟨"MeasureChoice", "needs", "(IIZ)Z"⟩ ⟨"MeasureChoice", "needs", "(IIZ)Z"⟩, Cond.code ⟨"MeasureChoice", "needs", "(IIZ)Z"⟩ prog_1_method_5_code 5 (some FieldType.boolean), Cond.methodLink "MeasureChoice" 75 ⟨"MeasureChoice$House", "putNeeded", "(IIZ)V"⟩, Cond.instanceMethod ⟨"MeasureChoice$House", "putNeeded", "(IIZ)V"⟩, Cond.selects "MeasureChoice$House" ⟨"MeasureChoice$House", "putNeeded", "(IIZ)V"⟩ ⟨"MeasureChoice$House", "putNeeded", "(IIZ)V"⟩, Cond.code ⟨"MeasureChoice$House", "putNeeded", "(IIZ)V"⟩ prog_2_method_5_code 4 none, Cond.methodLink "MeasureChoiceLaw" 86 ⟨"MeasureChoiceLaw", "bonus", "(LMeasureChoice;III[J)I"⟩, Cond.static ⟨"MeasureChoiceLaw", "bonus", "(LMeasureChoice;III[J)I"⟩, Cond.codeWith ⟨"MeasureChoiceLaw", "bonus", "(LMeasureChoice;III[J)I"⟩ method_7_code 6 (some FieldType.int) [(0, 12, 15, 13)], Cond.methodLink "MeasureChoiceLaw" 28 ⟨"MeasureChoice", "bonus", "(III)I"⟩]
def mcB_8 : List Cond := [Cond.instanceMethod ⟨"MeasureChoice", "bonus", "(III)I"⟩, Cond.selects "MeasureChoice" ⟨"MeasureChoice", "bonus", "(III)I"⟩ ⟨"MeasureChoice", "bonus", "(III)I"⟩, Cond.code ⟨"MeasureChoice", "bonus", "(III)I"⟩ prog_1_method_6_code 5 (some FieldType.int), Cond.methodLink "MeasureChoice" 85 ⟨"MeasureChoice$House", "putBonus", "(III)V"⟩, Cond.instanceMethod ⟨"MeasureChoice$House", "putBonus", "(III)V"⟩, Cond.selects "MeasureChoice$House" ⟨"MeasureChoice$House", "putBonus", "(III)V"⟩ ⟨"MeasureChoice$House", "putBonus", "(III)V"⟩, Cond.code ⟨"MeasureChoice$House", "putBonus", "(III)V"⟩ prog_2_method_6_code 4 none, Cond.methodLink "MeasureChoiceLaw" 90 ⟨"MeasureChoiceLaw", "lawful", "(LMeasureChoice;I[J)I"⟩, Cond.static ⟨"MeasureChoiceLaw", "lawful", "(LMeasureChoice;I[J)I"⟩, Cond.codeWith ⟨"MeasureChoiceLaw", "lawful", "(LMeasureChoice;I[J)I"⟩ method_8_code 4 (some FieldType.int) [(0, 16, 19, 13)], Cond.methodLink "MeasureChoiceLaw" 32 ⟨"MeasureChoice", "lawful", "(I)Z"⟩, Cond.instanceMethod ⟨"MeasureChoice", "lawful", "(I)Z"⟩, Cond.selects "MeasureChoice" ⟨"MeasureChoice", "lawful", "(I)Z"⟩ ⟨"MeasureChoice", "lawful", "(I)Z"⟩, Cond.code ⟨"MeasureChoice", "lawful", "(I)Z"⟩ prog_1_method_7_code 2 (some FieldType.boolean), Cond.methodLink "MeasureChoice" 88 ⟨"MeasureChoice", "requireSet", "(I)V"⟩, Cond.instanceMethod ⟨"MeasureChoice", "requireSet", "(I)V"⟩, Cond.code ⟨"MeasureChoice", "requireSet", "(I)V"⟩ prog_1_method_22_code 2 none, Cond.methodLink "MeasureChoice" 91 ⟨"MeasureChoice$House", "allows", "(I)Z"⟩, Cond.methodLink "MeasureChoiceLaw" 94 ⟨"MeasureChoiceLaw", "told", "(LMeasureChoice;II[J)I"⟩, Cond.static ⟨"MeasureChoiceLaw", "told", "(LMeasureChoice;II[J)I"⟩, Cond.codeWith ⟨"MeasureChoiceLaw", "told", "(LMeasureChoice;II[J)I"⟩ method_9_code 5 (some FieldType.int) [(0, 10, 13, 13)], Cond.methodLink "MeasureChoiceLaw" 36 ⟨"MeasureChoice", "told", "(II)I"⟩, Cond.instanceMethod ⟨"MeasureChoice", "told", "(II)I"⟩, Cond.selects "MeasureChoice" ⟨"MeasureChoice", "told", "(II)I"⟩ ⟨"MeasureChoice", "told", "(II)I"⟩, Cond.code ⟨"MeasureChoice", "told", "(II)I"⟩ prog_1_method_8_code 3 (some FieldType.int), Cond.methodLink "MeasureChoice" 95 ⟨"MeasureChoice$House", "costOf", "(I)I"⟩, Cond.instanceMethod ⟨"MeasureChoice$House", "costOf", "(I)I"⟩, Cond.selects "MeasureChoice$House" ⟨"MeasureChoice$House", "costOf", "(I)I"⟩ ⟨"MeasureChoice$House", "costOf", "(I)I"⟩, Cond.code ⟨"MeasureChoice$House", "costOf", "(I)I"⟩ prog_2_method_8_code 4 (some FieldType.int), Cond.methodLink "MeasureChoice" 99 ⟨"MeasureChoice$House", "gainOf", "(I)I"⟩, Cond.instanceMethod ⟨"MeasureChoice$House", "gainOf", "(I)I"⟩, Cond.selects "MeasureChoice$House" ⟨"MeasureChoice$House", "gainOf", "(I)I"⟩ ⟨"MeasureChoice$House", "gainOf", "(I)I"⟩, Cond.code ⟨"MeasureChoice$House", "gainOf", "(I)I"⟩ prog_2_method_9_code 4 (some FieldType.int), Cond.methodLink "MeasureChoice$House" 48 ⟨"MeasureChoice$House", "bonusWithEarlier", "(II)I"⟩, Cond.instanceMethod ⟨"MeasureChoice$House", "bonusWithEarlier", "(II)I"⟩, Cond.code ⟨"MeasureChoice$House", "bonusWithEarlier", "(II)I"⟩ prog_2_method_10_code 5 (some FieldType.int), Cond.methodLink "MeasureChoiceLaw" 97 ⟨"MeasureChoiceLaw", "closure", "(LMeasureChoice;I[J)I"⟩, Cond.static ⟨"MeasureChoiceLaw", "closure", "(LMeasureChoice;I[J)I"⟩, Cond.codeWith ⟨"MeasureChoiceLaw", "closure", "(LMeasureChoice;I[J)I"⟩ method_10_code 4 (some FieldType.int) [(0, 9, 12, 13)], Cond.methodLink "MeasureChoiceLaw" 39 ⟨"MeasureChoice", "closure", "(I)I"⟩]
def mcB_9 : List Cond := [Cond.instanceMethod ⟨"MeasureChoice", "closure", "(I)I"⟩, Cond.selects "MeasureChoice" ⟨"MeasureChoice", "closure", "(I)I"⟩ ⟨"MeasureChoice", "closure", "(I)I"⟩, Cond.code ⟨"MeasureChoice", "closure", "(I)I"⟩ prog_1_method_9_code 2 (some FieldType.int), Cond.methodLink "MeasureChoice" 102 ⟨"MeasureChoice$House", "broughtBy", "(I)I"⟩, Cond.instanceMethod ⟨"MeasureChoice$House", "broughtBy", "(I)I"⟩, Cond.selects "MeasureChoice$House" ⟨"MeasureChoice$House", "broughtBy", "(I)I"⟩ ⟨"MeasureChoice$House", "broughtBy", "(I)I"⟩, Cond.code ⟨"MeasureChoice$House", "broughtBy", "(I)I"⟩ prog_2_method_11_code 4 (some FieldType.int), Cond.methodLink "MeasureChoice$House" 52 ⟨"MeasureChoice$House", "withItsNeeds", "(I)I"⟩, Cond.instanceMethod ⟨"MeasureChoice$House", "withItsNeeds", "(I)I"⟩, Cond.code ⟨"MeasureChoice$House", "withItsNeeds", "(I)I"⟩ prog_2_method_12_code 4 (some FieldType.int), Cond.methodLink "MeasureChoiceLaw" 100 ⟨"MeasureChoiceLaw", "best", "(LMeasureChoice;I[J)I"⟩, Cond.static ⟨"MeasureChoiceLaw", "best", "(LMeasureChoice;I[J)I"⟩, Cond.codeWith ⟨"MeasureChoiceLaw", "best", "(LMeasureChoice;I[J)I"⟩ method_11_code 4 (some FieldType.int) [(0, 9, 12, 13)], Cond.methodLink "MeasureChoiceLaw" 43 ⟨"MeasureChoice", "best", "(I)I"⟩, Cond.instanceMethod ⟨"MeasureChoice", "best", "(I)I"⟩, Cond.selects "MeasureChoice" ⟨"MeasureChoice", "best", "(I)I"⟩ ⟨"MeasureChoice", "best", "(I)I"⟩, Cond.code ⟨"MeasureChoice", "best", "(I)I"⟩ prog_1_method_10_code 2 (some FieldType.int), Cond.methodLink "MeasureChoice" 105 ⟨"MeasureChoice", "requireNotBelowZero", "(I)V"⟩, Cond.static ⟨"MeasureChoice", "requireNotBelowZero", "(I)V"⟩, Cond.code ⟨"MeasureChoice", "requireNotBelowZero", "(I)V"⟩ prog_1_method_18_code 1 none, Cond.methodLink "MeasureChoice" 112 ⟨"MeasureChoice$Ladder", "highestWithin", "(I)I"⟩, Cond.instanceMethod ⟨"MeasureChoice$Ladder", "highestWithin", "(I)I"⟩, Cond.selects "MeasureChoice$Ladder" ⟨"MeasureChoice$Ladder", "highestWithin", "(I)I"⟩ ⟨"MeasureChoice$Ladder", "highestWithin", "(I)I"⟩, Cond.code ⟨"MeasureChoice$Ladder", "highestWithin", "(I)I"⟩ prog_3_method_5_code 4 (some FieldType.int), Cond.methodLink "MeasureChoice" 115 ⟨"MeasureChoice$Ladder", "setAt", "(I)I"⟩, Cond.methodLink "MeasureChoiceLaw" 107 ⟨"MeasureChoiceLaw", "worth", "(LMeasureChoice;II[J)I"⟩, Cond.static ⟨"MeasureChoiceLaw", "worth", "(LMeasureChoice;II[J)I"⟩, Cond.codeWith ⟨"MeasureChoiceLaw", "worth", "(LMeasureChoice;II[J)I"⟩ method_12_code 5 (some FieldType.int) [(0, 10, 13, 13)], Cond.methodLink "MeasureChoiceLaw" 46 ⟨"MeasureChoice", "worth", "(II)I"⟩, Cond.instanceMethod ⟨"MeasureChoice", "worth", "(II)I"⟩, Cond.selects "MeasureChoice" ⟨"MeasureChoice", "worth", "(II)I"⟩ ⟨"MeasureChoice", "worth", "(II)I"⟩, Cond.code ⟨"MeasureChoice", "worth", "(II)I"⟩ prog_1_method_12_code 4 (some FieldType.int), Cond.constant "MeasureChoice" 124 (1000000 : Int32), Cond.methodLink "MeasureChoice" 130 ⟨"MeasureChoice$Ladder", "gainAt", "(I)I"⟩, Cond.methodLink "MeasureChoiceLaw" 110 ⟨"MeasureChoiceLaw", "frontier", "(LMeasureChoice;I[J)I"⟩, Cond.static ⟨"MeasureChoiceLaw", "frontier", "(LMeasureChoice;I[J)I"⟩, Cond.codeWith ⟨"MeasureChoiceLaw", "frontier", "(LMeasureChoice;I[J)I"⟩ method_13_code 4 (some FieldType.int) [(0, 9, 12, 13)], Cond.methodLink "MeasureChoiceLaw" 49 ⟨"MeasureChoice", "frontier", "(I)I"⟩, Cond.instanceMethod ⟨"MeasureChoice", "frontier", "(I)I"⟩, Cond.selects "MeasureChoice" ⟨"MeasureChoice", "frontier", "(I)I"⟩ ⟨"MeasureChoice", "frontier", "(I)I"⟩]
def mcB_10 : List Cond := [Cond.code ⟨"MeasureChoice", "frontier", "(I)I"⟩ prog_1_method_13_code 2 (some FieldType.int), Cond.methodLink "MeasureChoiceLaw" 113 ⟨"MeasureChoiceLaw", "year", "(LMeasureChoice;II[J)I"⟩, Cond.static ⟨"MeasureChoiceLaw", "year", "(LMeasureChoice;II[J)I"⟩, Cond.codeWith ⟨"MeasureChoiceLaw", "year", "(LMeasureChoice;II[J)I"⟩ method_14_code 5 (some FieldType.int) [(0, 10, 13, 13)], Cond.methodLink "MeasureChoiceLaw" 52 ⟨"MeasureChoice", "year", "(II)I"⟩, Cond.instanceMethod ⟨"MeasureChoice", "year", "(II)I"⟩, Cond.selects "MeasureChoice" ⟨"MeasureChoice", "year", "(II)I"⟩ ⟨"MeasureChoice", "year", "(II)I"⟩, Cond.code ⟨"MeasureChoice", "year", "(II)I"⟩ prog_1_method_14_code 4 (some FieldType.int), Cond.constant "MeasureChoice" 136 (100000 : Int32), Cond.methodLink "MeasureChoiceLaw" 116 ⟨"MeasureChoiceLaw", "plan", "(LMeasureChoice;II[J)I"⟩, Cond.static ⟨"MeasureChoiceLaw", "plan", "(LMeasureChoice;II[J)I"⟩, Cond.codeWith ⟨"MeasureChoiceLaw", "plan", "(LMeasureChoice;II[J)I"⟩ method_15_code 5 (some FieldType.int) [(0, 10, 13, 13)], Cond.methodLink "MeasureChoiceLaw" 55 ⟨"MeasureChoice", "plan", "(II)I"⟩, Cond.instanceMethod ⟨"MeasureChoice", "plan", "(II)I"⟩, Cond.selects "MeasureChoice" ⟨"MeasureChoice", "plan", "(II)I"⟩ ⟨"MeasureChoice", "plan", "(II)I"⟩, Cond.code ⟨"MeasureChoice", "plan", "(II)I"⟩ prog_1_method_15_code 3 (some FieldType.int), Cond.methodLink "MeasureChoice" 140 ⟨"MeasureChoice$Planner", "work", "(LMeasureChoice$House;I)V"⟩, Cond.instanceMethod ⟨"MeasureChoice$Planner", "work", "(LMeasureChoice$House;I)V"⟩, Cond.selects "MeasureChoice$Planner" ⟨"MeasureChoice$Planner", "work", "(LMeasureChoice$House;I)V"⟩ ⟨"MeasureChoice$Planner", "work", "(LMeasureChoice$House;I)V"⟩, Cond.code ⟨"MeasureChoice$Planner", "work", "(LMeasureChoice$House;I)V"⟩ prog_4_method_2_code 4 none, Cond.methodLink "MeasureChoice$Planner" 32 ⟨"MeasureChoice$Planner", "fillPurses", "()V"⟩, Cond.instanceMethod ⟨"MeasureChoice$Planner", "fillPurses", "()V"⟩, Cond.code ⟨"MeasureChoice$Planner", "fillPurses", "()V"⟩ prog_4_method_4_code 3 none, Cond.methodLink "MeasureChoice$Planner" 35 ⟨"MeasureChoice$Planner", "judgeSets", "(LMeasureChoice$House;)V"⟩, Cond.instanceMethod ⟨"MeasureChoice$Planner", "judgeSets", "(LMeasureChoice$House;)V"⟩, Cond.code ⟨"MeasureChoice$Planner", "judgeSets", "(LMeasureChoice$House;)V"⟩ prog_4_method_5_code 3 none, Cond.methodLink "MeasureChoice$Planner" 53 ⟨"java/lang/Math", "min", "(II)I"⟩, Cond.static ⟨"java/lang/Math", "min", "(II)I"⟩, Cond.code ⟨"java/lang/Math", "min", "(II)I"⟩ prog_10_method_69_code 2 (some FieldType.int), Cond.methodLink "MeasureChoice$Planner" 61 ⟨"MeasureChoice$House", "allows", "(I)Z"⟩, Cond.methodLink "MeasureChoice$Planner" 65 ⟨"MeasureChoice$House", "costOf", "(I)I"⟩, Cond.constant "MeasureChoice$Planner" 69 (400001 : Int32), Cond.methodLink "MeasureChoice$Planner" 70 ⟨"MeasureChoice$House", "gainOf", "(I)I"⟩, Cond.methodLink "MeasureChoice$Planner" 39 ⟨"MeasureChoice$Planner", "workYear", "(IZ)V"⟩, Cond.instanceMethod ⟨"MeasureChoice$Planner", "workYear", "(IZ)V"⟩, Cond.code ⟨"MeasureChoice$Planner", "workYear", "(IZ)V"⟩ prog_4_method_6_code 5 none, Cond.methodLink "MeasureChoice$Planner" 43 ⟨"MeasureChoice$Planner", "bestFrom", "(II)I"⟩, Cond.instanceMethod ⟨"MeasureChoice$Planner", "bestFrom", "(II)I"⟩, Cond.code ⟨"MeasureChoice$Planner", "bestFrom", "(II)I"⟩ prog_4_method_7_code 5 (some FieldType.int), Cond.methodLink "MeasureChoice$Planner" 73 ⟨"MeasureChoice$Planner", "isBetter", "(III)Z"⟩]
def mcB_11 : List Cond := [Cond.instanceMethod ⟨"MeasureChoice$Planner", "isBetter", "(III)Z"⟩, Cond.code ⟨"MeasureChoice$Planner", "isBetter", "(III)Z"⟩ prog_4_method_8_code 4 (some FieldType.boolean), Cond.methodLink "MeasureChoice" 144 ⟨"MeasureChoice$Planner", "boughtUpTo", "(I)I"⟩, Cond.instanceMethod ⟨"MeasureChoice$Planner", "boughtUpTo", "(I)I"⟩, Cond.selects "MeasureChoice$Planner" ⟨"MeasureChoice$Planner", "boughtUpTo", "(I)I"⟩ ⟨"MeasureChoice$Planner", "boughtUpTo", "(I)I"⟩, Cond.code ⟨"MeasureChoice$Planner", "boughtUpTo", "(I)I"⟩ prog_4_method_3_code 4 (some FieldType.int), Cond.methodLink "MeasureChoiceLaw" 119 ⟨"MeasureChoiceLaw", "planned", "(LMeasureChoice;I[J)I"⟩, Cond.static ⟨"MeasureChoiceLaw", "planned", "(LMeasureChoice;I[J)I"⟩, Cond.codeWith ⟨"MeasureChoiceLaw", "planned", "(LMeasureChoice;I[J)I"⟩ method_16_code 4 (some FieldType.int) [(0, 9, 12, 13)], Cond.methodLink "MeasureChoiceLaw" 58 ⟨"MeasureChoice", "planned", "(I)I"⟩, Cond.instanceMethod ⟨"MeasureChoice", "planned", "(I)I"⟩, Cond.selects "MeasureChoice" ⟨"MeasureChoice", "planned", "(I)I"⟩ ⟨"MeasureChoice", "planned", "(I)I"⟩, Cond.code ⟨"MeasureChoice", "planned", "(I)I"⟩ prog_1_method_16_code 2 (some FieldType.int), Cond.classLink "MeasureChoiceLaw" 62 "MeasureChoiceModel", Cond.instantiable "MeasureChoiceModel" 11, Cond.methodLink "MeasureChoiceLaw" 64 ⟨"MeasureChoiceModel", "<init>", "()V"⟩, Cond.instanceMethod ⟨"MeasureChoiceModel", "<init>", "()V"⟩, Cond.code ⟨"MeasureChoiceModel", "<init>", "()V"⟩ prog_6_method_1_code 1 none, Cond.methodLink "MeasureChoiceModel" 1 ⟨"java/lang/Object", "<init>", "()V"⟩, Cond.fieldLink "MeasureChoiceModel" 38 "MeasureChoiceModel" "thrown" "I", Cond.fieldLink "MeasureChoiceModel" 42 "MeasureChoiceModel" "many" "I", Cond.fieldLink "MeasureChoiceModel" 7 "MeasureChoiceModel" "costs" "[I", Cond.fieldLink "MeasureChoiceModel" 13 "MeasureChoiceModel" "gains" "[I", Cond.fieldLink "MeasureChoiceModel" 16 "MeasureChoiceModel" "barred" "[Z", Cond.fieldLink "MeasureChoiceModel" 20 "MeasureChoiceModel" "wants" "[Z", Cond.fieldLink "MeasureChoiceModel" 23 "MeasureChoiceModel" "bonuses" "[I", Cond.fieldLink "MeasureChoiceModel" 26 "MeasureChoiceModel" "budgets" "[I", Cond.fieldLink "MeasureChoiceModel" 29 "MeasureChoiceModel" "laterGain" "[I", Cond.fieldLink "MeasureChoiceModel" 32 "MeasureChoiceModel" "laterCost" "[I", Cond.fieldLink "MeasureChoiceModel" 35 "MeasureChoiceModel" "choice" "[I", Cond.lays "MeasureChoiceModel" "MeasureChoiceModel" "thrown" "I", Cond.soleField "MeasureChoiceModel" "thrown", Cond.lays "MeasureChoiceModel" "MeasureChoiceModel" "many" "I", Cond.soleField "MeasureChoiceModel" "many", Cond.laysFinal "MeasureChoiceModel" "MeasureChoiceModel" "costs" "[I", Cond.soleField "MeasureChoiceModel" "costs", Cond.laysFinal "MeasureChoiceModel" "MeasureChoiceModel" "gains" "[I", Cond.soleField "MeasureChoiceModel" "gains", Cond.laysFinal "MeasureChoiceModel" "MeasureChoiceModel" "barred" "[Z", Cond.soleField "MeasureChoiceModel" "barred"]
def mcB_12 : List Cond := [Cond.laysFinal "MeasureChoiceModel" "MeasureChoiceModel" "wants" "[Z", Cond.soleField "MeasureChoiceModel" "wants", Cond.laysFinal "MeasureChoiceModel" "MeasureChoiceModel" "bonuses" "[I", Cond.soleField "MeasureChoiceModel" "bonuses", Cond.laysFinal "MeasureChoiceModel" "MeasureChoiceModel" "budgets" "[I", Cond.soleField "MeasureChoiceModel" "budgets", Cond.laysFinal "MeasureChoiceModel" "MeasureChoiceModel" "laterGain" "[I", Cond.soleField "MeasureChoiceModel" "laterGain", Cond.laysFinal "MeasureChoiceModel" "MeasureChoiceModel" "laterCost" "[I", Cond.soleField "MeasureChoiceModel" "laterCost", Cond.laysFinal "MeasureChoiceModel" "MeasureChoiceModel" "choice" "[I", Cond.soleField "MeasureChoiceModel" "choice", Cond.superclass "MeasureChoiceModel" "java/lang/Object", Cond.arrayClass FieldType.boolean, Cond.methodLink "MeasureChoiceLaw" 71 ⟨"MeasureChoiceModel", "thrown", "()I"⟩, Cond.instanceMethod ⟨"MeasureChoiceModel", "thrown", "()I"⟩, Cond.selects "MeasureChoiceModel" ⟨"MeasureChoiceModel", "thrown", "()I"⟩ ⟨"MeasureChoiceModel", "thrown", "()I"⟩, Cond.code ⟨"MeasureChoiceModel", "thrown", "()I"⟩ prog_6_method_2_code 1 (some FieldType.int), Cond.methodLink "MeasureChoiceLaw" 70 ⟨"MeasureChoiceModel", "measure", "(II)I"⟩, Cond.instanceMethod ⟨"MeasureChoiceModel", "measure", "(II)I"⟩, Cond.selects "MeasureChoiceModel" ⟨"MeasureChoiceModel", "measure", "(II)I"⟩ ⟨"MeasureChoiceModel", "measure", "(II)I"⟩, Cond.code ⟨"MeasureChoiceModel", "measure", "(II)I"⟩ prog_6_method_6_code 3 (some FieldType.int), Cond.methodLink "MeasureChoiceModel" 45 ⟨"MeasureChoiceModel", "in", "(III)Z"⟩, Cond.static ⟨"MeasureChoiceModel", "in", "(III)Z"⟩, Cond.code ⟨"MeasureChoiceModel", "in", "(III)Z"⟩ prog_6_method_3_code 3 (some FieldType.boolean), Cond.methodLink "MeasureChoiceModel" 49 ⟨"MeasureChoiceModel", "good", "(Z)Z"⟩, Cond.instanceMethod ⟨"MeasureChoiceModel", "good", "(Z)Z"⟩, Cond.code ⟨"MeasureChoiceModel", "good", "(Z)Z"⟩ prog_6_method_5_code 2 (some FieldType.boolean), Cond.methodLink "MeasureChoiceLaw" 78 ⟨"MeasureChoiceModel", "change", "(III)V"⟩, Cond.instanceMethod ⟨"MeasureChoiceModel", "change", "(III)V"⟩, Cond.selects "MeasureChoiceModel" ⟨"MeasureChoiceModel", "change", "(III)V"⟩ ⟨"MeasureChoiceModel", "change", "(III)V"⟩, Cond.code ⟨"MeasureChoiceModel", "change", "(III)V"⟩ prog_6_method_7_code 4 none, Cond.methodLink "MeasureChoiceModel" 53 ⟨"MeasureChoiceModel", "is", "(I)Z"⟩, Cond.instanceMethod ⟨"MeasureChoiceModel", "is", "(I)Z"⟩, Cond.code ⟨"MeasureChoiceModel", "is", "(I)Z"⟩ prog_6_method_4_code 2 (some FieldType.boolean), Cond.methodLink "MeasureChoiceLaw" 82 ⟨"MeasureChoiceModel", "exclude", "(IIZ)Z"⟩, Cond.instanceMethod ⟨"MeasureChoiceModel", "exclude", "(IIZ)Z"⟩, Cond.selects "MeasureChoiceModel" ⟨"MeasureChoiceModel", "exclude", "(IIZ)Z"⟩ ⟨"MeasureChoiceModel", "exclude", "(IIZ)Z"⟩, Cond.code ⟨"MeasureChoiceModel", "exclude", "(IIZ)Z"⟩ prog_6_method_8_code 5 (some FieldType.boolean), Cond.methodLink "MeasureChoiceLaw" 85 ⟨"MeasureChoiceModel", "needs", "(IIZ)Z"⟩]
def mcB_13 : List Cond := [Cond.instanceMethod ⟨"MeasureChoiceModel", "needs", "(IIZ)Z"⟩, Cond.selects "MeasureChoiceModel" ⟨"MeasureChoiceModel", "needs", "(IIZ)Z"⟩ ⟨"MeasureChoiceModel", "needs", "(IIZ)Z"⟩, Cond.code ⟨"MeasureChoiceModel", "needs", "(IIZ)Z"⟩ prog_6_method_9_code 5 (some FieldType.boolean), Cond.methodLink "MeasureChoiceLaw" 89 ⟨"MeasureChoiceModel", "bonus", "(III)I"⟩, Cond.instanceMethod ⟨"MeasureChoiceModel", "bonus", "(III)I"⟩, Cond.selects "MeasureChoiceModel" ⟨"MeasureChoiceModel", "bonus", "(III)I"⟩ ⟨"MeasureChoiceModel", "bonus", "(III)I"⟩, Cond.code ⟨"MeasureChoiceModel", "bonus", "(III)I"⟩ prog_6_method_10_code 5 (some FieldType.int), Cond.methodLink "MeasureChoiceLaw" 93 ⟨"MeasureChoiceModel", "lawful", "(I)Z"⟩, Cond.instanceMethod ⟨"MeasureChoiceModel", "lawful", "(I)Z"⟩, Cond.selects "MeasureChoiceModel" ⟨"MeasureChoiceModel", "lawful", "(I)Z"⟩ ⟨"MeasureChoiceModel", "lawful", "(I)Z"⟩, Cond.code ⟨"MeasureChoiceModel", "lawful", "(I)Z"⟩ prog_6_method_16_code 2 (some FieldType.boolean), Cond.methodLink "MeasureChoiceModel" 61 ⟨"MeasureChoiceModel", "isSet", "(I)Z"⟩, Cond.instanceMethod ⟨"MeasureChoiceModel", "isSet", "(I)Z"⟩, Cond.code ⟨"MeasureChoiceModel", "isSet", "(I)Z"⟩ prog_6_method_12_code 2 (some FieldType.boolean), Cond.methodLink "MeasureChoiceModel" 64 ⟨"MeasureChoiceModel", "holds", "(I)Z"⟩, Cond.instanceMethod ⟨"MeasureChoiceModel", "holds", "(I)Z"⟩, Cond.code ⟨"MeasureChoiceModel", "holds", "(I)Z"⟩ prog_6_method_13_code 5 (some FieldType.boolean), Cond.methodLink "MeasureChoiceModel" 57 ⟨"MeasureChoiceModel", "has", "(II)Z"⟩, Cond.static ⟨"MeasureChoiceModel", "has", "(II)Z"⟩, Cond.code ⟨"MeasureChoiceModel", "has", "(II)Z"⟩ prog_6_method_11_code 2 (some FieldType.boolean), Cond.methodLink "MeasureChoiceLaw" 96 ⟨"MeasureChoiceModel", "told", "(II)I"⟩, Cond.instanceMethod ⟨"MeasureChoiceModel", "told", "(II)I"⟩, Cond.selects "MeasureChoiceModel" ⟨"MeasureChoiceModel", "told", "(II)I"⟩ ⟨"MeasureChoiceModel", "told", "(II)I"⟩, Cond.code ⟨"MeasureChoiceModel", "told", "(II)I"⟩ prog_6_method_17_code 3 (some FieldType.int), Cond.methodLink "MeasureChoiceModel" 67 ⟨"MeasureChoiceModel", "costOf", "(I)I"⟩, Cond.instanceMethod ⟨"MeasureChoiceModel", "costOf", "(I)I"⟩, Cond.code ⟨"MeasureChoiceModel", "costOf", "(I)I"⟩ prog_6_method_14_code 4 (some FieldType.int), Cond.methodLink "MeasureChoiceModel" 71 ⟨"MeasureChoiceModel", "gainOf", "(I)I"⟩, Cond.instanceMethod ⟨"MeasureChoiceModel", "gainOf", "(I)I"⟩, Cond.code ⟨"MeasureChoiceModel", "gainOf", "(I)I"⟩ prog_6_method_15_code 5 (some FieldType.int), Cond.methodLink "MeasureChoiceLaw" 99 ⟨"MeasureChoiceModel", "closure", "(I)I"⟩, Cond.instanceMethod ⟨"MeasureChoiceModel", "closure", "(I)I"⟩, Cond.selects "MeasureChoiceModel" ⟨"MeasureChoiceModel", "closure", "(I)I"⟩ ⟨"MeasureChoiceModel", "closure", "(I)I"⟩, Cond.code ⟨"MeasureChoiceModel", "closure", "(I)I"⟩ prog_6_method_18_code 6 (some FieldType.int), Cond.methodLink "MeasureChoiceLaw" 102 ⟨"MeasureChoiceModel", "best", "(I)I"⟩, Cond.instanceMethod ⟨"MeasureChoiceModel", "best", "(I)I"⟩, Cond.selects "MeasureChoiceModel" ⟨"MeasureChoiceModel", "best", "(I)I"⟩ ⟨"MeasureChoiceModel", "best", "(I)I"⟩, Cond.code ⟨"MeasureChoiceModel", "best", "(I)I"⟩ prog_6_method_20_code 2 (some FieldType.int), Cond.methodLink "MeasureChoiceModel" 74 ⟨"MeasureChoiceModel", "bestOf", "(J)I"⟩, Cond.instanceMethod ⟨"MeasureChoiceModel", "bestOf", "(J)I"⟩]
def mcB_14 : List Cond := [Cond.code ⟨"MeasureChoiceModel", "bestOf", "(J)I"⟩ prog_6_method_19_code 10 (some FieldType.int), Cond.methodLink "MeasureChoiceLaw" 106 ⟨"MeasureChoiceModel", "budget", "(I)I"⟩, Cond.instanceMethod ⟨"MeasureChoiceModel", "budget", "(I)I"⟩, Cond.selects "MeasureChoiceModel" ⟨"MeasureChoiceModel", "budget", "(I)I"⟩ ⟨"MeasureChoiceModel", "budget", "(I)I"⟩, Cond.code ⟨"MeasureChoiceModel", "budget", "(I)I"⟩ prog_6_method_21_code 6 (some FieldType.int), Cond.methodLink "MeasureChoiceLaw" 109 ⟨"MeasureChoiceModel", "worth", "(II)I"⟩, Cond.instanceMethod ⟨"MeasureChoiceModel", "worth", "(II)I"⟩, Cond.selects "MeasureChoiceModel" ⟨"MeasureChoiceModel", "worth", "(II)I"⟩ ⟨"MeasureChoiceModel", "worth", "(II)I"⟩, Cond.code ⟨"MeasureChoiceModel", "worth", "(II)I"⟩ prog_6_method_22_code 3 (some FieldType.int), Cond.constantLong "MeasureChoiceModel" 78 (1000000 : Int64), Cond.methodLink "MeasureChoiceLaw" 112 ⟨"MeasureChoiceModel", "frontier", "(I)I"⟩, Cond.instanceMethod ⟨"MeasureChoiceModel", "frontier", "(I)I"⟩, Cond.selects "MeasureChoiceModel" ⟨"MeasureChoiceModel", "frontier", "(I)I"⟩ ⟨"MeasureChoiceModel", "frontier", "(I)I"⟩, Cond.code ⟨"MeasureChoiceModel", "frontier", "(I)I"⟩ prog_6_method_24_code 4 (some FieldType.int), Cond.methodLink "MeasureChoiceModel" 80 ⟨"MeasureChoiceModel", "dearer", "(II)I"⟩, Cond.instanceMethod ⟨"MeasureChoiceModel", "dearer", "(II)I"⟩, Cond.code ⟨"MeasureChoiceModel", "dearer", "(II)I"⟩ prog_6_method_23_code 11 (some FieldType.int), Cond.methodLink "MeasureChoiceLaw" 115 ⟨"MeasureChoiceModel", "year", "(II)I"⟩, Cond.instanceMethod ⟨"MeasureChoiceModel", "year", "(II)I"⟩, Cond.selects "MeasureChoiceModel" ⟨"MeasureChoiceModel", "year", "(II)I"⟩ ⟨"MeasureChoiceModel", "year", "(II)I"⟩, Cond.code ⟨"MeasureChoiceModel", "year", "(II)I"⟩ prog_6_method_25_code 4 (some FieldType.int), Cond.constant "MeasureChoiceModel" 84 (100000 : Int32), Cond.methodLink "MeasureChoiceLaw" 118 ⟨"MeasureChoiceModel", "plan", "(II)I"⟩, Cond.instanceMethod ⟨"MeasureChoiceModel", "plan", "(II)I"⟩, Cond.selects "MeasureChoiceModel" ⟨"MeasureChoiceModel", "plan", "(II)I"⟩ ⟨"MeasureChoiceModel", "plan", "(II)I"⟩, Cond.code ⟨"MeasureChoiceModel", "plan", "(II)I"⟩ prog_6_method_28_code 5 (some FieldType.int), Cond.methodLink "MeasureChoiceModel" 89 ⟨"MeasureChoiceModel", "work", "(I)V"⟩, Cond.instanceMethod ⟨"MeasureChoiceModel", "work", "(I)V"⟩, Cond.code ⟨"MeasureChoiceModel", "work", "(I)V"⟩ prog_6_method_26_code 6 none, Cond.methodLink "MeasureChoiceModel" 85 ⟨"MeasureChoiceModel", "workOf", "(IIII)V"⟩, Cond.instanceMethod ⟨"MeasureChoiceModel", "workOf", "(IIII)V"⟩, Cond.code ⟨"MeasureChoiceModel", "workOf", "(IIII)V"⟩ prog_6_method_27_code 11 none, Cond.methodLink "MeasureChoiceLaw" 121 ⟨"MeasureChoiceModel", "planned", "(I)I"⟩, Cond.instanceMethod ⟨"MeasureChoiceModel", "planned", "(I)I"⟩, Cond.selects "MeasureChoiceModel" ⟨"MeasureChoiceModel", "planned", "(I)I"⟩ ⟨"MeasureChoiceModel", "planned", "(I)I"⟩, Cond.code ⟨"MeasureChoiceModel", "planned", "(I)I"⟩ prog_6_method_29_code 2 (some FieldType.int), Cond.arrayClass FieldType.long, Cond.sameMethod "java/lang/Throwable" "java/lang/Throwable" "fillInStackTrace" "(I)Ljava/lang/Throwable;"]
def mcB : List Cond := mcB_0 ++ (mcB_1 ++ (mcB_2 ++ (mcB_3 ++ (mcB_4 ++ (mcB_5 ++ (mcB_6 ++ (mcB_7 ++ (mcB_8 ++ (mcB_9 ++ (mcB_10 ++ (mcB_11 ++ (mcB_12 ++ (mcB_13 ++ (mcB_14))))))))))))))
theorem mcB_0_in : mcB_0 = [0, 1, 2, 3, 4, 5, 6, 7, 8, 9, 10, 11, 12, 13, 14, 15, 16, 17, 18, 19, 20, 21, 22, 23, 24, 25, 26, 27, 28, 29, 30, 31, 32, 33, 34, 35, 36, 37, 38, 39].filterMap (fun i => lw_tbl[i]?) := by decide +kernel
theorem mcB_0_ok : mcB_0.all goodWord = true := by decide +kernel
theorem mcB_1_in : mcB_1 = [40, 41, 42, 43, 44, 45, 47, 48, 49, 50, 52, 53, 54, 55, 56, 57, 58, 59, 60, 61, 62, 63, 64, 65, 66, 67, 68, 69, 70, 71, 72, 73, 74, 75, 76, 77, 78, 79, 80, 81].filterMap (fun i => lw_tbl[i]?) := by decide +kernel
theorem mcB_1_ok : mcB_1.all goodWord = true := by decide +kernel
theorem mcB_2_in : mcB_2 = [82, 83, 84, 85, 86, 88, 89, 90, 91, 92, 93, 94, 95, 96, 97, 98, 99, 100, 101, 102, 103, 104, 105, 106, 108, 109, 110, 111, 112, 113, 114, 115, 116, 117, 118, 119, 120, 121, 122, 123].filterMap (fun i => lw_tbl[i]?) := by decide +kernel
theorem mcB_2_ok : mcB_2.all goodWord = true := by decide +kernel
theorem mcB_3_in : mcB_3 = [124, 125, 126, 127, 128, 129, 130, 131, 132, 133, 134, 135, 136, 137, 138, 139, 140, 141, 142, 143, 144, 145, 146, 147, 148, 149, 150, 151, 152, 153, 154, 156, 157, 158, 160, 161, 162, 164, 165, 166].filterMap (fun i => lw_tbl[i]?) := by decide +kernel
theorem mcB_3_ok : mcB_3.all goodWord = true := by decide +kernel
theorem mcB_4_in : mcB_4 = [167, 168, 169, 170, 171, 172, 173, 174, 175, 176, 177, 178, 179, 180, 181, 182, 183, 184, 185, 186, 187, 188, 189, 190, 191, 192, 193, 194, 195, 196, 197, 198, 199, 200, 201, 202, 203, 204, 205, 206].filterMap (fun i => lw_tbl[i]?) := by decide +kernel
theorem mcB_4_ok : mcB_4.all goodWord = true := by decide +kernel
theorem mcB_5_in : mcB_5 = [214, 215, 216, 217, 218, 219, 220, 221, 222, 223, 224, 225, 226, 227, 228, 229, 230, 231, 233, 235, 236, 237, 238, 239, 240, 242, 243, 244, 246, 247, 248, 249, 250, 251, 252, 253, 254, 255, 256, 257].filterMap (fun i => lw_tbl[i]?) := by decide +kernel
theorem mcB_5_ok : mcB_5.all goodWord = true := by decide +kernel
theorem mcB_6_in : mcB_6 = [258, 259, 260, 261, 262, 263, 264, 265, 266, 267, 268, 269, 270, 271, 272, 273, 275, 276, 277, 278, 279, 280, 282, 283, 284, 285, 286, 287, 288, 289, 290, 291, 292, 293, 294, 295, 296, 297, 298, 299].filterMap (fun i => lw_tbl[i]?) := by decide +kernel
theorem mcB_6_ok : mcB_6.all goodWord = true := by decide +kernel
theorem mcB_7_in : mcB_7 = [300, 301, 302, 303, 305, 306, 308, 309, 310, 311, 312, 313, 314, 315, 316, 318, 319, 321, 322, 323, 324, 325, 326, 327, 328, 329, 330, 331, 332, 333, 334, 335, 336, 337, 338, 339, 340, 341, 342, 343].filterMap (fun i => lw_tbl[i]?) := by decide +kernel
theorem mcB_7_ok : mcB_7.all goodWord = true := by decide +kernel
theorem mcB_8_in : mcB_8 = [344, 345, 346, 347, 348, 349, 350, 351, 352, 353, 354, 355, 356, 357, 358, 360, 361, 363, 364, 365, 366, 367, 368, 369, 370, 371, 372, 373, 374, 375, 376, 377, 378, 379, 381, 382, 383, 384, 385, 386].filterMap (fun i => lw_tbl[i]?) := by decide +kernel
theorem mcB_8_ok : mcB_8.all goodWord = true := by decide +kernel
theorem mcB_9_in : mcB_9 = [387, 388, 389, 390, 391, 392, 393, 394, 396, 397, 398, 399, 400, 401, 402, 403, 404, 405, 406, 407, 409, 410, 411, 412, 413, 414, 415, 416, 417, 418, 419, 420, 421, 423, 424, 425, 426, 427, 428, 429].filterMap (fun i => lw_tbl[i]?) := by decide +kernel
theorem mcB_9_ok : mcB_9.all goodWord = true := by decide +kernel
theorem mcB_10_in : mcB_10 = [430, 431, 432, 433, 434, 435, 436, 437, 438, 439, 440, 441, 442, 443, 444, 445, 446, 447, 448, 449, 450, 452, 453, 454, 456, 457, 458, 459, 460, 461, 462, 463, 464, 465, 467, 468, 469, 471, 472, 473].filterMap (fun i => lw_tbl[i]?) := by decide +kernel
theorem mcB_10_ok : mcB_10.all goodWord = true := by decide +kernel
theorem mcB_11_in : mcB_11 = [475, 476, 477, 478, 479, 480, 481, 482, 483, 484, 485, 486, 487, 488, 489, 490, 491, 492, 493, 494, 495, 496, 497, 498, 499, 500, 501, 502, 503, 504, 505, 506, 507, 508, 509, 510, 511, 512, 513, 514].filterMap (fun i => lw_tbl[i]?) := by decide +kernel
theorem mcB_11_ok : mcB_11.all goodWord = true := by decide +kernel
theorem mcB_12_in : mcB_12 = [515, 516, 517, 518, 519, 520, 521, 522, 523, 524, 525, 526, 527, 528, 529, 530, 531, 532, 533, 534, 535, 536, 537, 538, 539, 540, 542, 543, 544, 545, 546, 547, 548, 550, 551, 552, 553, 554, 555, 556].filterMap (fun i => lw_tbl[i]?) := by decide +kernel
theorem mcB_12_ok : mcB_12.all goodWord = true := by decide +kernel
theorem mcB_13_in : mcB_13 = [557, 558, 559, 560, 561, 562, 563, 564, 565, 566, 567, 568, 570, 571, 572, 574, 575, 576, 577, 578, 579, 580, 581, 582, 583, 585, 586, 587, 589, 590, 591, 592, 593, 594, 595, 596, 597, 598, 599, 601].filterMap (fun i => lw_tbl[i]?) := by decide +kernel
theorem mcB_13_ok : mcB_13.all goodWord = true := by decide +kernel
theorem mcB_14_in : mcB_14 = [602, 603, 604, 605, 606, 607, 608, 609, 610, 611, 612, 613, 614, 615, 616, 618, 619, 620, 621, 622, 623, 624, 625, 626, 627, 628, 629, 631, 632, 633, 635, 636, 637, 638, 639, 640, 641, 642].filterMap (fun i => lw_tbl[i]?) := by decide +kernel
theorem mcB_14_ok : mcB_14.all goodWord = true := by decide +kernel
theorem mcB_one {l : List Cond} {is : List Nat} (h : l = is.filterMap (fun i => lw_tbl[i]?)) : ∀ w ∈ l, w ∈ lw_tbl := by
  intro w hw
  rw [h] at hw
  obtain ⟨i, -, hi⟩ := List.mem_filterMap.mp hw
  exact List.mem_of_getElem? hi
theorem mcB_in : ∀ w ∈ mcB, w ∈ lw_tbl := by
  unfold mcB
  exact List.forall_mem_append.mpr ⟨mcB_one mcB_0_in, List.forall_mem_append.mpr ⟨mcB_one mcB_1_in, List.forall_mem_append.mpr ⟨mcB_one mcB_2_in, List.forall_mem_append.mpr ⟨mcB_one mcB_3_in, List.forall_mem_append.mpr ⟨mcB_one mcB_4_in, List.forall_mem_append.mpr ⟨mcB_one mcB_5_in, List.forall_mem_append.mpr ⟨mcB_one mcB_6_in, List.forall_mem_append.mpr ⟨mcB_one mcB_7_in, List.forall_mem_append.mpr ⟨mcB_one mcB_8_in, List.forall_mem_append.mpr ⟨mcB_one mcB_9_in, List.forall_mem_append.mpr ⟨mcB_one mcB_10_in, List.forall_mem_append.mpr ⟨mcB_one mcB_11_in, List.forall_mem_append.mpr ⟨mcB_one mcB_12_in, List.forall_mem_append.mpr ⟨mcB_one mcB_13_in, mcB_one mcB_14_in⟩⟩⟩⟩⟩⟩⟩⟩⟩⟩⟩⟩⟩⟩
theorem mcB_ok : ∀ w ∈ mcB, goodWord w = true := by
  unfold mcB
  exact List.forall_mem_append.mpr ⟨(fun w h => List.all_eq_true.mp mcB_0_ok w h), List.forall_mem_append.mpr ⟨(fun w h => List.all_eq_true.mp mcB_1_ok w h), List.forall_mem_append.mpr ⟨(fun w h => List.all_eq_true.mp mcB_2_ok w h), List.forall_mem_append.mpr ⟨(fun w h => List.all_eq_true.mp mcB_3_ok w h), List.forall_mem_append.mpr ⟨(fun w h => List.all_eq_true.mp mcB_4_ok w h), List.forall_mem_append.mpr ⟨(fun w h => List.all_eq_true.mp mcB_5_ok w h), List.forall_mem_append.mpr ⟨(fun w h => List.all_eq_true.mp mcB_6_ok w h), List.forall_mem_append.mpr ⟨(fun w h => List.all_eq_true.mp mcB_7_ok w h), List.forall_mem_append.mpr ⟨(fun w h => List.all_eq_true.mp mcB_8_ok w h), List.forall_mem_append.mpr ⟨(fun w h => List.all_eq_true.mp mcB_9_ok w h), List.forall_mem_append.mpr ⟨(fun w h => List.all_eq_true.mp mcB_10_ok w h), List.forall_mem_append.mpr ⟨(fun w h => List.all_eq_true.mp mcB_11_ok w h), List.forall_mem_append.mpr ⟨(fun w h => List.all_eq_true.mp mcB_12_ok w h), List.forall_mem_append.mpr ⟨(fun w h => List.all_eq_true.mp mcB_13_ok w h), (fun w h => List.all_eq_true.mp mcB_14_ok w h)⟩⟩⟩⟩⟩⟩⟩⟩⟩⟩⟩⟩⟩⟩
theorem mcB_0_sub : ∀ w ∈ mcB_0, w ∈ mcB := fun w h => List.mem_append_left _ h
theorem mcB_1_sub : ∀ w ∈ mcB_1, w ∈ mcB := fun w h => List.mem_append_right _ (List.mem_append_left _ h)
theorem mcB_2_sub : ∀ w ∈ mcB_2, w ∈ mcB := fun w h => List.mem_append_right _ (List.mem_append_right _ (List.mem_append_left _ h))
theorem mcB_3_sub : ∀ w ∈ mcB_3, w ∈ mcB := fun w h => List.mem_append_right _ (List.mem_append_right _ (List.mem_append_right _ (List.mem_append_left _ h)))
theorem mcB_4_sub : ∀ w ∈ mcB_4, w ∈ mcB := fun w h => List.mem_append_right _ (List.mem_append_right _ (List.mem_append_right _ (List.mem_append_right _ (List.mem_append_left _ h))))
theorem mcB_5_sub : ∀ w ∈ mcB_5, w ∈ mcB := fun w h => List.mem_append_right _ (List.mem_append_right _ (List.mem_append_right _ (List.mem_append_right _ (List.mem_append_right _ (List.mem_append_left _ h)))))
theorem mcB_6_sub : ∀ w ∈ mcB_6, w ∈ mcB := fun w h => List.mem_append_right _ (List.mem_append_right _ (List.mem_append_right _ (List.mem_append_right _ (List.mem_append_right _ (List.mem_append_right _ (List.mem_append_left _ h))))))
theorem mcB_7_sub : ∀ w ∈ mcB_7, w ∈ mcB := fun w h => List.mem_append_right _ (List.mem_append_right _ (List.mem_append_right _ (List.mem_append_right _ (List.mem_append_right _ (List.mem_append_right _ (List.mem_append_right _ (List.mem_append_left _ h)))))))
theorem mcB_8_sub : ∀ w ∈ mcB_8, w ∈ mcB := fun w h => List.mem_append_right _ (List.mem_append_right _ (List.mem_append_right _ (List.mem_append_right _ (List.mem_append_right _ (List.mem_append_right _ (List.mem_append_right _ (List.mem_append_right _ (List.mem_append_left _ h))))))))
theorem mcB_9_sub : ∀ w ∈ mcB_9, w ∈ mcB := fun w h => List.mem_append_right _ (List.mem_append_right _ (List.mem_append_right _ (List.mem_append_right _ (List.mem_append_right _ (List.mem_append_right _ (List.mem_append_right _ (List.mem_append_right _ (List.mem_append_right _ (List.mem_append_left _ h)))))))))
theorem mcB_10_sub : ∀ w ∈ mcB_10, w ∈ mcB := fun w h => List.mem_append_right _ (List.mem_append_right _ (List.mem_append_right _ (List.mem_append_right _ (List.mem_append_right _ (List.mem_append_right _ (List.mem_append_right _ (List.mem_append_right _ (List.mem_append_right _ (List.mem_append_right _ (List.mem_append_left _ h))))))))))
theorem mcB_11_sub : ∀ w ∈ mcB_11, w ∈ mcB := fun w h => List.mem_append_right _ (List.mem_append_right _ (List.mem_append_right _ (List.mem_append_right _ (List.mem_append_right _ (List.mem_append_right _ (List.mem_append_right _ (List.mem_append_right _ (List.mem_append_right _ (List.mem_append_right _ (List.mem_append_right _ (List.mem_append_left _ h)))))))))))
theorem mcB_12_sub : ∀ w ∈ mcB_12, w ∈ mcB := fun w h => List.mem_append_right _ (List.mem_append_right _ (List.mem_append_right _ (List.mem_append_right _ (List.mem_append_right _ (List.mem_append_right _ (List.mem_append_right _ (List.mem_append_right _ (List.mem_append_right _ (List.mem_append_right _ (List.mem_append_right _ (List.mem_append_right _ (List.mem_append_left _ h))))))))))))
theorem mcB_13_sub : ∀ w ∈ mcB_13, w ∈ mcB := fun w h => List.mem_append_right _ (List.mem_append_right _ (List.mem_append_right _ (List.mem_append_right _ (List.mem_append_right _ (List.mem_append_right _ (List.mem_append_right _ (List.mem_append_right _ (List.mem_append_right _ (List.mem_append_right _ (List.mem_append_right _ (List.mem_append_right _ (List.mem_append_right _ (List.mem_append_left _ h)))))))))))))
theorem mcB_14_sub : ∀ w ∈ mcB_14, w ∈ mcB := fun w h => List.mem_append_right _ (List.mem_append_right _ (List.mem_append_right _ (List.mem_append_right _ (List.mem_append_right _ (List.mem_append_right _ (List.mem_append_right _ (List.mem_append_right _ (List.mem_append_right _ (List.mem_append_right _ (List.mem_append_right _ (List.mem_append_right _ (List.mem_append_right _ (List.mem_append_right _ (h))))))))))))))
theorem kw0 : Cond.selects "MeasureChoice$Ladder" ⟨"MeasureChoice$Ladder", "addSteps", "(II)V"⟩ ⟨"MeasureChoice$Ladder", "addSteps", "(II)V"⟩ ∈ mcB := mcB_0_sub _ (List.mem_of_getElem? (i := 0) rfl)
theorem kw1 : Cond.selects "MeasureChoice$Ladder" ⟨"MeasureChoice$Ladder", "addGains", "(ILMeasureChoice$House;)V"⟩ ⟨"MeasureChoice$Ladder", "addGains", "(ILMeasureChoice$House;)V"⟩ ∈ mcB := mcB_0_sub _ (List.mem_of_getElem? (i := 1) rfl)
theorem kw2 : Cond.selects "MeasureChoice$Ladder" ⟨"MeasureChoice$Ladder", "keepUnbeaten", "(LMeasureChoice$House;)V"⟩ ⟨"MeasureChoice$Ladder", "keepUnbeaten", "(LMeasureChoice$House;)V"⟩ ∈ mcB := mcB_0_sub _ (List.mem_of_getElem? (i := 2) rfl)
theorem kw3 : Cond.selects "java/lang/Throwable" ⟨"java/lang/Throwable", "fillInStackTrace", "(I)Ljava/lang/Throwable;"⟩ ⟨"java/lang/Throwable", "fillInStackTrace", "(I)Ljava/lang/Throwable;"⟩ ∈ mcB := mcB_0_sub _ (List.mem_of_getElem? (i := 3) rfl)
theorem kw4 : Cond.selects "MeasureChoice" ⟨"MeasureChoice", "requireMeasure", "(I)V"⟩ ⟨"MeasureChoice", "requireMeasure", "(I)V"⟩ ∈ mcB := mcB_0_sub _ (List.mem_of_getElem? (i := 4) rfl)
theorem kw5 : Cond.selects "MeasureChoice" ⟨"MeasureChoice", "requirePair", "(II)V"⟩ ⟨"MeasureChoice", "requirePair", "(II)V"⟩ ∈ mcB := mcB_0_sub _ (List.mem_of_getElem? (i := 5) rfl)
theorem kw6 : Cond.selects "MeasureChoice" ⟨"MeasureChoice", "requireSet", "(I)V"⟩ ⟨"MeasureChoice", "requireSet", "(I)V"⟩ ∈ mcB := mcB_0_sub _ (List.mem_of_getElem? (i := 6) rfl)
theorem kw7 : Cond.selects "MeasureChoice$House" ⟨"MeasureChoice$House", "bonusWithEarlier", "(II)I"⟩ ⟨"MeasureChoice$House", "bonusWithEarlier", "(II)I"⟩ ∈ mcB := mcB_0_sub _ (List.mem_of_getElem? (i := 7) rfl)
theorem kw8 : Cond.selects "MeasureChoice$House" ⟨"MeasureChoice$House", "withItsNeeds", "(I)I"⟩ ⟨"MeasureChoice$House", "withItsNeeds", "(I)I"⟩ ∈ mcB := mcB_0_sub _ (List.mem_of_getElem? (i := 8) rfl)
theorem kw9 : Cond.selects "MeasureChoice$Planner" ⟨"MeasureChoice$Planner", "fillPurses", "()V"⟩ ⟨"MeasureChoice$Planner", "fillPurses", "()V"⟩ ∈ mcB := mcB_0_sub _ (List.mem_of_getElem? (i := 9) rfl)
theorem kw10 : Cond.selects "MeasureChoice$Planner" ⟨"MeasureChoice$Planner", "judgeSets", "(LMeasureChoice$House;)V"⟩ ⟨"MeasureChoice$Planner", "judgeSets", "(LMeasureChoice$House;)V"⟩ ∈ mcB := mcB_0_sub _ (List.mem_of_getElem? (i := 10) rfl)
theorem kw11 : Cond.selects "MeasureChoice$Planner" ⟨"MeasureChoice$Planner", "workYear", "(IZ)V"⟩ ⟨"MeasureChoice$Planner", "workYear", "(IZ)V"⟩ ∈ mcB := mcB_0_sub _ (List.mem_of_getElem? (i := 11) rfl)
theorem kw12 : Cond.selects "MeasureChoice$Planner" ⟨"MeasureChoice$Planner", "bestFrom", "(II)I"⟩ ⟨"MeasureChoice$Planner", "bestFrom", "(II)I"⟩ ∈ mcB := mcB_0_sub _ (List.mem_of_getElem? (i := 12) rfl)
theorem kw13 : Cond.selects "MeasureChoice$Planner" ⟨"MeasureChoice$Planner", "isBetter", "(III)Z"⟩ ⟨"MeasureChoice$Planner", "isBetter", "(III)Z"⟩ ∈ mcB := mcB_0_sub _ (List.mem_of_getElem? (i := 13) rfl)
theorem kw14 : Cond.selects "MeasureChoiceModel" ⟨"MeasureChoiceModel", "good", "(Z)Z"⟩ ⟨"MeasureChoiceModel", "good", "(Z)Z"⟩ ∈ mcB := mcB_0_sub _ (List.mem_of_getElem? (i := 14) rfl)
theorem kw15 : Cond.selects "MeasureChoiceModel" ⟨"MeasureChoiceModel", "is", "(I)Z"⟩ ⟨"MeasureChoiceModel", "is", "(I)Z"⟩ ∈ mcB := mcB_0_sub _ (List.mem_of_getElem? (i := 15) rfl)
theorem kw16 : Cond.selects "MeasureChoiceModel" ⟨"MeasureChoiceModel", "isSet", "(I)Z"⟩ ⟨"MeasureChoiceModel", "isSet", "(I)Z"⟩ ∈ mcB := mcB_0_sub _ (List.mem_of_getElem? (i := 16) rfl)
theorem kw17 : Cond.selects "MeasureChoiceModel" ⟨"MeasureChoiceModel", "holds", "(I)Z"⟩ ⟨"MeasureChoiceModel", "holds", "(I)Z"⟩ ∈ mcB := mcB_0_sub _ (List.mem_of_getElem? (i := 17) rfl)
theorem kw18 : Cond.selects "MeasureChoiceModel" ⟨"MeasureChoiceModel", "costOf", "(I)I"⟩ ⟨"MeasureChoiceModel", "costOf", "(I)I"⟩ ∈ mcB := mcB_0_sub _ (List.mem_of_getElem? (i := 18) rfl)
theorem kw19 : Cond.selects "MeasureChoiceModel" ⟨"MeasureChoiceModel", "gainOf", "(I)I"⟩ ⟨"MeasureChoiceModel", "gainOf", "(I)I"⟩ ∈ mcB := mcB_0_sub _ (List.mem_of_getElem? (i := 19) rfl)
theorem kw20 : Cond.selects "MeasureChoiceModel" ⟨"MeasureChoiceModel", "bestOf", "(J)I"⟩ ⟨"MeasureChoiceModel", "bestOf", "(J)I"⟩ ∈ mcB := mcB_0_sub _ (List.mem_of_getElem? (i := 20) rfl)
theorem kw21 : Cond.selects "MeasureChoiceModel" ⟨"MeasureChoiceModel", "dearer", "(II)I"⟩ ⟨"MeasureChoiceModel", "dearer", "(II)I"⟩ ∈ mcB := mcB_0_sub _ (List.mem_of_getElem? (i := 21) rfl)
theorem kw22 : Cond.selects "MeasureChoiceModel" ⟨"MeasureChoiceModel", "work", "(I)V"⟩ ⟨"MeasureChoiceModel", "work", "(I)V"⟩ ∈ mcB := mcB_0_sub _ (List.mem_of_getElem? (i := 22) rfl)
theorem kw23 : Cond.selects "MeasureChoiceModel" ⟨"MeasureChoiceModel", "workOf", "(IIII)V"⟩ ⟨"MeasureChoiceModel", "workOf", "(IIII)V"⟩ ∈ mcB := mcB_0_sub _ (List.mem_of_getElem? (i := 23) rfl)
theorem kw24 : Cond.initialized "MeasureChoiceLaw" ∈ mcB := mcB_0_sub _ (List.mem_of_getElem? (i := 24) rfl)
theorem kw25 : Cond.initialized "MeasureChoice" ∈ mcB := mcB_0_sub _ (List.mem_of_getElem? (i := 25) rfl)
theorem kw26 : Cond.initialized "MeasureChoice$House" ∈ mcB := mcB_0_sub _ (List.mem_of_getElem? (i := 26) rfl)
theorem kw27 : Cond.initialized "MeasureChoice$Ladder" ∈ mcB := mcB_0_sub _ (List.mem_of_getElem? (i := 27) rfl)
theorem kw28 : Cond.initialized "MeasureChoice$Planner" ∈ mcB := mcB_0_sub _ (List.mem_of_getElem? (i := 28) rfl)
theorem kw29 : Cond.initialized "MeasureChoiceModel" ∈ mcB := mcB_0_sub _ (List.mem_of_getElem? (i := 29) rfl)
theorem kw30 : Cond.initialized "java/lang/Throwable" ∈ mcB := mcB_0_sub _ (List.mem_of_getElem? (i := 30) rfl)
theorem kw31 : Cond.initialized "java/lang/Exception" ∈ mcB := mcB_0_sub _ (List.mem_of_getElem? (i := 31) rfl)
theorem kw32 : Cond.initialized "java/lang/RuntimeException" ∈ mcB := mcB_0_sub _ (List.mem_of_getElem? (i := 32) rfl)
theorem kw33 : Cond.initialized "java/lang/IllegalArgumentException" ∈ mcB := mcB_0_sub _ (List.mem_of_getElem? (i := 33) rfl)
theorem kw34 : Cond.initialized "java/lang/IllegalStateException" ∈ mcB := mcB_0_sub _ (List.mem_of_getElem? (i := 34) rfl)
theorem kw35 : Cond.initialized "java/lang/Math" ∈ mcB := mcB_0_sub _ (List.mem_of_getElem? (i := 35) rfl)
theorem kw36 : Cond.classLink "MeasureChoiceLaw" 8 "MeasureChoice" ∈ mcB := mcB_0_sub _ (List.mem_of_getElem? (i := 36) rfl)
theorem kw37 : Cond.instantiable "MeasureChoice" 3 ∈ mcB := mcB_0_sub _ (List.mem_of_getElem? (i := 37) rfl)
theorem kw38 : Cond.methodLink "MeasureChoiceLaw" 61 ⟨"MeasureChoice", "<init>", "()V"⟩ ∈ mcB := mcB_0_sub _ (List.mem_of_getElem? (i := 38) rfl)
theorem kw39 : Cond.instanceMethod ⟨"MeasureChoice", "<init>", "()V"⟩ ∈ mcB := mcB_0_sub _ (List.mem_of_getElem? (i := 39) rfl)
theorem kw40 : Cond.code ⟨"MeasureChoice", "<init>", "()V"⟩ prog_1_method_1_code 1 none ∈ mcB := mcB_1_sub _ (List.mem_of_getElem? (i := 0) rfl)
theorem kw41 : Cond.methodLink "MeasureChoice" 3 ⟨"java/lang/Object", "<init>", "()V"⟩ ∈ mcB := mcB_1_sub _ (List.mem_of_getElem? (i := 1) rfl)
theorem kw42 : Cond.instanceMethod ⟨"java/lang/Object", "<init>", "()V"⟩ ∈ mcB := mcB_1_sub _ (List.mem_of_getElem? (i := 2) rfl)
theorem kw43 : Cond.code ⟨"java/lang/Object", "<init>", "()V"⟩ object_method_1_code 1 none ∈ mcB := mcB_1_sub _ (List.mem_of_getElem? (i := 3) rfl)
theorem kw44 : Cond.classLink "MeasureChoice" 9 "MeasureChoice$House" ∈ mcB := mcB_1_sub _ (List.mem_of_getElem? (i := 4) rfl)
theorem kw45 : Cond.instantiable "MeasureChoice$House" 7 ∈ mcB := mcB_1_sub _ (List.mem_of_getElem? (i := 5) rfl)
theorem kw46 : Cond.instanceMethod ⟨"MeasureChoice$House", "<init>", "()V"⟩ ∈ mcB := mcB_1_sub _ (List.mem_of_getElem? (i := 6) rfl)
theorem kw47 : Cond.code ⟨"MeasureChoice$House", "<init>", "()V"⟩ prog_2_method_1_code 1 none ∈ mcB := mcB_1_sub _ (List.mem_of_getElem? (i := 7) rfl)
theorem kw48 : Cond.methodLink "MeasureChoice$House" 3 ⟨"java/lang/Object", "<init>", "()V"⟩ ∈ mcB := mcB_1_sub _ (List.mem_of_getElem? (i := 8) rfl)
theorem kw49 : Cond.classLink "MeasureChoice$House" 24 "[[I" ∈ mcB := mcB_1_sub _ (List.mem_of_getElem? (i := 9) rfl)
theorem kw50 : Cond.fieldLink "MeasureChoice$House" 29 "MeasureChoice$House" "count" "I" ∈ mcB := mcB_1_sub _ (List.mem_of_getElem? (i := 10) rfl)
theorem kw51 : Cond.fieldLink "MeasureChoice" 34 "MeasureChoice$House" "count" "I" ∈ mcB := mcB_1_sub _ (List.mem_of_getElem? (i := 11) rfl)
theorem kw52 : Cond.fieldLink "MeasureChoice$Planner" 47 "MeasureChoice$House" "count" "I" ∈ mcB := mcB_1_sub _ (List.mem_of_getElem? (i := 12) rfl)
theorem kw53 : Cond.fieldLink "MeasureChoice$Ladder" 38 "MeasureChoice$House" "count" "I" ∈ mcB := mcB_1_sub _ (List.mem_of_getElem? (i := 13) rfl)
theorem kw54 : Cond.fieldLink "MeasureChoice$House" 37 "MeasureChoice$House" "version" "I" ∈ mcB := mcB_1_sub _ (List.mem_of_getElem? (i := 14) rfl)
theorem kw55 : Cond.fieldLink "MeasureChoice$Ladder" 35 "MeasureChoice$House" "version" "I" ∈ mcB := mcB_1_sub _ (List.mem_of_getElem? (i := 15) rfl)
theorem kw56 : Cond.fieldLink "MeasureChoice$House" 9 "MeasureChoice$House" "costs" "[I" ∈ mcB := mcB_1_sub _ (List.mem_of_getElem? (i := 16) rfl)
theorem kw57 : Cond.fieldLink "MeasureChoice$Ladder" 41 "MeasureChoice$House" "costs" "[I" ∈ mcB := mcB_1_sub _ (List.mem_of_getElem? (i := 17) rfl)
theorem kw58 : Cond.fieldLink "MeasureChoice$House" 15 "MeasureChoice$House" "gains" "[I" ∈ mcB := mcB_1_sub _ (List.mem_of_getElem? (i := 18) rfl)
theorem kw59 : Cond.fieldLink "MeasureChoice$Ladder" 56 "MeasureChoice$House" "gains" "[I" ∈ mcB := mcB_1_sub _ (List.mem_of_getElem? (i := 19) rfl)
theorem kw60 : Cond.fieldLink "MeasureChoice$House" 18 "MeasureChoice$House" "excluded" "[I" ∈ mcB := mcB_1_sub _ (List.mem_of_getElem? (i := 20) rfl)
theorem kw61 : Cond.fieldLink "MeasureChoice" 60 "MeasureChoice$House" "excluded" "[I" ∈ mcB := mcB_1_sub _ (List.mem_of_getElem? (i := 21) rfl)
theorem kw62 : Cond.fieldLink "MeasureChoice$House" 21 "MeasureChoice$House" "needed" "[I" ∈ mcB := mcB_1_sub _ (List.mem_of_getElem? (i := 22) rfl)
theorem kw63 : Cond.fieldLink "MeasureChoice" 72 "MeasureChoice$House" "needed" "[I" ∈ mcB := mcB_1_sub _ (List.mem_of_getElem? (i := 23) rfl)
theorem kw64 : Cond.fieldLink "MeasureChoice$House" 26 "MeasureChoice$House" "bonuses" "[[I" ∈ mcB := mcB_1_sub _ (List.mem_of_getElem? (i := 24) rfl)
theorem kw65 : Cond.fieldLink "MeasureChoice" 81 "MeasureChoice$House" "bonuses" "[[I" ∈ mcB := mcB_1_sub _ (List.mem_of_getElem? (i := 25) rfl)
theorem kw66 : Cond.fieldLink "MeasureChoice$Ladder" 57 "MeasureChoice$House" "bonuses" "[[I" ∈ mcB := mcB_1_sub _ (List.mem_of_getElem? (i := 26) rfl)
theorem kw67 : Cond.lays "MeasureChoice$House" "MeasureChoice$House" "count" "I" ∈ mcB := mcB_1_sub _ (List.mem_of_getElem? (i := 27) rfl)
theorem kw68 : Cond.soleField "MeasureChoice$House" "count" ∈ mcB := mcB_1_sub _ (List.mem_of_getElem? (i := 28) rfl)
theorem kw69 : Cond.lays "MeasureChoice$House" "MeasureChoice$House" "version" "I" ∈ mcB := mcB_1_sub _ (List.mem_of_getElem? (i := 29) rfl)
theorem kw70 : Cond.soleField "MeasureChoice$House" "version" ∈ mcB := mcB_1_sub _ (List.mem_of_getElem? (i := 30) rfl)
theorem kw71 : Cond.laysFinal "MeasureChoice$House" "MeasureChoice$House" "costs" "[I" ∈ mcB := mcB_1_sub _ (List.mem_of_getElem? (i := 31) rfl)
theorem kw72 : Cond.soleField "MeasureChoice$House" "costs" ∈ mcB := mcB_1_sub _ (List.mem_of_getElem? (i := 32) rfl)
theorem kw73 : Cond.laysFinal "MeasureChoice$House" "MeasureChoice$House" "gains" "[I" ∈ mcB := mcB_1_sub _ (List.mem_of_getElem? (i := 33) rfl)
theorem kw74 : Cond.soleField "MeasureChoice$House" "gains" ∈ mcB := mcB_1_sub _ (List.mem_of_getElem? (i := 34) rfl)
theorem kw75 : Cond.laysFinal "MeasureChoice$House" "MeasureChoice$House" "excluded" "[I" ∈ mcB := mcB_1_sub _ (List.mem_of_getElem? (i := 35) rfl)
theorem kw76 : Cond.soleField "MeasureChoice$House" "excluded" ∈ mcB := mcB_1_sub _ (List.mem_of_getElem? (i := 36) rfl)
theorem kw77 : Cond.laysFinal "MeasureChoice$House" "MeasureChoice$House" "needed" "[I" ∈ mcB := mcB_1_sub _ (List.mem_of_getElem? (i := 37) rfl)
theorem kw78 : Cond.soleField "MeasureChoice$House" "needed" ∈ mcB := mcB_1_sub _ (List.mem_of_getElem? (i := 38) rfl)
theorem kw79 : Cond.laysFinal "MeasureChoice$House" "MeasureChoice$House" "bonuses" "[[I" ∈ mcB := mcB_1_sub _ (List.mem_of_getElem? (i := 39) rfl)
theorem kw80 : Cond.soleField "MeasureChoice$House" "bonuses" ∈ mcB := mcB_2_sub _ (List.mem_of_getElem? (i := 0) rfl)
theorem kw81 : Cond.superclass "MeasureChoice$House" "java/lang/Object" ∈ mcB := mcB_2_sub _ (List.mem_of_getElem? (i := 1) rfl)
theorem kw82 : Cond.arrayClass FieldType.int ∈ mcB := mcB_2_sub _ (List.mem_of_getElem? (i := 2) rfl)
theorem kw83 : Cond.classLink "MeasureChoice" 16 "MeasureChoice$Ladder" ∈ mcB := mcB_2_sub _ (List.mem_of_getElem? (i := 3) rfl)
theorem kw84 : Cond.instantiable "MeasureChoice$Ladder" 4 ∈ mcB := mcB_2_sub _ (List.mem_of_getElem? (i := 4) rfl)
theorem kw85 : Cond.instanceMethod ⟨"MeasureChoice$Ladder", "<init>", "()V"⟩ ∈ mcB := mcB_2_sub _ (List.mem_of_getElem? (i := 5) rfl)
theorem kw86 : Cond.code ⟨"MeasureChoice$Ladder", "<init>", "()V"⟩ prog_3_method_1_code 1 none ∈ mcB := mcB_2_sub _ (List.mem_of_getElem? (i := 6) rfl)
theorem kw87 : Cond.methodLink "MeasureChoice$Ladder" 3 ⟨"java/lang/Object", "<init>", "()V"⟩ ∈ mcB := mcB_2_sub _ (List.mem_of_getElem? (i := 7) rfl)
theorem kw88 : Cond.fieldLink "MeasureChoice$Ladder" 26 "MeasureChoice$Ladder" "rungs" "I" ∈ mcB := mcB_2_sub _ (List.mem_of_getElem? (i := 8) rfl)
theorem kw89 : Cond.fieldLink "MeasureChoice" 133 "MeasureChoice$Ladder" "rungs" "I" ∈ mcB := mcB_2_sub _ (List.mem_of_getElem? (i := 9) rfl)
theorem kw90 : Cond.fieldLink "MeasureChoice$Ladder" 9 "MeasureChoice$Ladder" "version" "I" ∈ mcB := mcB_2_sub _ (List.mem_of_getElem? (i := 10) rfl)
theorem kw91 : Cond.fieldLink "MeasureChoice$Ladder" 15 "MeasureChoice$Ladder" "steps" "[I" ∈ mcB := mcB_2_sub _ (List.mem_of_getElem? (i := 11) rfl)
theorem kw92 : Cond.fieldLink "MeasureChoice$Ladder" 19 "MeasureChoice$Ladder" "gains" "[I" ∈ mcB := mcB_2_sub _ (List.mem_of_getElem? (i := 12) rfl)
theorem kw93 : Cond.lays "MeasureChoice$Ladder" "MeasureChoice$Ladder" "rungs" "I" ∈ mcB := mcB_2_sub _ (List.mem_of_getElem? (i := 13) rfl)
theorem kw94 : Cond.soleField "MeasureChoice$Ladder" "rungs" ∈ mcB := mcB_2_sub _ (List.mem_of_getElem? (i := 14) rfl)
theorem kw95 : Cond.lays "MeasureChoice$Ladder" "MeasureChoice$Ladder" "version" "I" ∈ mcB := mcB_2_sub _ (List.mem_of_getElem? (i := 15) rfl)
theorem kw96 : Cond.soleField "MeasureChoice$Ladder" "version" ∈ mcB := mcB_2_sub _ (List.mem_of_getElem? (i := 16) rfl)
theorem kw97 : Cond.laysFinal "MeasureChoice$Ladder" "MeasureChoice$Ladder" "steps" "[I" ∈ mcB := mcB_2_sub _ (List.mem_of_getElem? (i := 17) rfl)
theorem kw98 : Cond.soleField "MeasureChoice$Ladder" "steps" ∈ mcB := mcB_2_sub _ (List.mem_of_getElem? (i := 18) rfl)
theorem kw99 : Cond.laysFinal "MeasureChoice$Ladder" "MeasureChoice$Ladder" "gains" "[I" ∈ mcB := mcB_2_sub _ (List.mem_of_getElem? (i := 19) rfl)
theorem kw100 : Cond.soleField "MeasureChoice$Ladder" "gains" ∈ mcB := mcB_2_sub _ (List.mem_of_getElem? (i := 20) rfl)
theorem kw101 : Cond.superclass "MeasureChoice$Ladder" "java/lang/Object" ∈ mcB := mcB_2_sub _ (List.mem_of_getElem? (i := 21) rfl)
theorem kw102 : Cond.classLink "MeasureChoice" 23 "MeasureChoice$Planner" ∈ mcB := mcB_2_sub _ (List.mem_of_getElem? (i := 22) rfl)
theorem kw103 : Cond.instantiable "MeasureChoice$Planner" 7 ∈ mcB := mcB_2_sub _ (List.mem_of_getElem? (i := 23) rfl)
theorem kw104 : Cond.instanceMethod ⟨"MeasureChoice$Planner", "<init>", "()V"⟩ ∈ mcB := mcB_2_sub _ (List.mem_of_getElem? (i := 24) rfl)
theorem kw105 : Cond.code ⟨"MeasureChoice$Planner", "<init>", "()V"⟩ prog_4_method_1_code 1 none ∈ mcB := mcB_2_sub _ (List.mem_of_getElem? (i := 25) rfl)
theorem kw106 : Cond.methodLink "MeasureChoice$Planner" 3 ⟨"java/lang/Object", "<init>", "()V"⟩ ∈ mcB := mcB_2_sub _ (List.mem_of_getElem? (i := 26) rfl)
theorem kw107 : Cond.classLink "MeasureChoice$Planner" 15 "[[I" ∈ mcB := mcB_2_sub _ (List.mem_of_getElem? (i := 27) rfl)
theorem kw108 : Cond.fieldLink "MeasureChoice$Planner" 9 "MeasureChoice$Planner" "budgets" "[I" ∈ mcB := mcB_2_sub _ (List.mem_of_getElem? (i := 28) rfl)
theorem kw109 : Cond.fieldLink "MeasureChoice" 137 "MeasureChoice$Planner" "budgets" "[I" ∈ mcB := mcB_2_sub _ (List.mem_of_getElem? (i := 29) rfl)
theorem kw110 : Cond.fieldLink "MeasureChoice$Planner" 17 "MeasureChoice$Planner" "totals" "[[I" ∈ mcB := mcB_2_sub _ (List.mem_of_getElem? (i := 30) rfl)
theorem kw111 : Cond.fieldLink "MeasureChoice" 147 "MeasureChoice$Planner" "totals" "[[I" ∈ mcB := mcB_2_sub _ (List.mem_of_getElem? (i := 31) rfl)
theorem kw112 : Cond.fieldLink "MeasureChoice$Planner" 20 "MeasureChoice$Planner" "spent" "[[I" ∈ mcB := mcB_2_sub _ (List.mem_of_getElem? (i := 32) rfl)
theorem kw113 : Cond.fieldLink "MeasureChoice$Planner" 23 "MeasureChoice$Planner" "purses" "[I" ∈ mcB := mcB_2_sub _ (List.mem_of_getElem? (i := 33) rfl)
theorem kw114 : Cond.fieldLink "MeasureChoice$Planner" 26 "MeasureChoice$Planner" "prices" "[I" ∈ mcB := mcB_2_sub _ (List.mem_of_getElem? (i := 34) rfl)
theorem kw115 : Cond.fieldLink "MeasureChoice$Planner" 29 "MeasureChoice$Planner" "gains" "[I" ∈ mcB := mcB_2_sub _ (List.mem_of_getElem? (i := 35) rfl)
theorem kw116 : Cond.fieldLink "MeasureChoice$Planner" 58 "MeasureChoice$Planner" "sets" "I" ∈ mcB := mcB_2_sub _ (List.mem_of_getElem? (i := 36) rfl)
theorem kw117 : Cond.laysFinal "MeasureChoice$Planner" "MeasureChoice$Planner" "budgets" "[I" ∈ mcB := mcB_2_sub _ (List.mem_of_getElem? (i := 37) rfl)
theorem kw118 : Cond.soleField "MeasureChoice$Planner" "budgets" ∈ mcB := mcB_2_sub _ (List.mem_of_getElem? (i := 38) rfl)
theorem kw119 : Cond.laysFinal "MeasureChoice$Planner" "MeasureChoice$Planner" "totals" "[[I" ∈ mcB := mcB_2_sub _ (List.mem_of_getElem? (i := 39) rfl)
theorem kw120 : Cond.soleField "MeasureChoice$Planner" "totals" ∈ mcB := mcB_3_sub _ (List.mem_of_getElem? (i := 0) rfl)
theorem kw121 : Cond.laysFinal "MeasureChoice$Planner" "MeasureChoice$Planner" "spent" "[[I" ∈ mcB := mcB_3_sub _ (List.mem_of_getElem? (i := 1) rfl)
theorem kw122 : Cond.soleField "MeasureChoice$Planner" "spent" ∈ mcB := mcB_3_sub _ (List.mem_of_getElem? (i := 2) rfl)
theorem kw123 : Cond.laysFinal "MeasureChoice$Planner" "MeasureChoice$Planner" "purses" "[I" ∈ mcB := mcB_3_sub _ (List.mem_of_getElem? (i := 3) rfl)
theorem kw124 : Cond.soleField "MeasureChoice$Planner" "purses" ∈ mcB := mcB_3_sub _ (List.mem_of_getElem? (i := 4) rfl)
theorem kw125 : Cond.laysFinal "MeasureChoice$Planner" "MeasureChoice$Planner" "prices" "[I" ∈ mcB := mcB_3_sub _ (List.mem_of_getElem? (i := 5) rfl)
theorem kw126 : Cond.soleField "MeasureChoice$Planner" "prices" ∈ mcB := mcB_3_sub _ (List.mem_of_getElem? (i := 6) rfl)
theorem kw127 : Cond.laysFinal "MeasureChoice$Planner" "MeasureChoice$Planner" "gains" "[I" ∈ mcB := mcB_3_sub _ (List.mem_of_getElem? (i := 7) rfl)
theorem kw128 : Cond.soleField "MeasureChoice$Planner" "gains" ∈ mcB := mcB_3_sub _ (List.mem_of_getElem? (i := 8) rfl)
theorem kw129 : Cond.lays "MeasureChoice$Planner" "MeasureChoice$Planner" "sets" "I" ∈ mcB := mcB_3_sub _ (List.mem_of_getElem? (i := 9) rfl)
theorem kw130 : Cond.soleField "MeasureChoice$Planner" "sets" ∈ mcB := mcB_3_sub _ (List.mem_of_getElem? (i := 10) rfl)
theorem kw131 : Cond.superclass "MeasureChoice$Planner" "java/lang/Object" ∈ mcB := mcB_3_sub _ (List.mem_of_getElem? (i := 11) rfl)
theorem kw132 : Cond.fieldLink "MeasureChoice" 12 "MeasureChoice" "house" "LMeasureChoice$House;" ∈ mcB := mcB_3_sub _ (List.mem_of_getElem? (i := 12) rfl)
theorem kw133 : Cond.fieldLink "MeasureChoice" 19 "MeasureChoice" "ladder" "LMeasureChoice$Ladder;" ∈ mcB := mcB_3_sub _ (List.mem_of_getElem? (i := 13) rfl)
theorem kw134 : Cond.fieldLink "MeasureChoice" 26 "MeasureChoice" "planner" "LMeasureChoice$Planner;" ∈ mcB := mcB_3_sub _ (List.mem_of_getElem? (i := 14) rfl)
theorem kw135 : Cond.laysFinal "MeasureChoice" "MeasureChoice" "house" "LMeasureChoice$House;" ∈ mcB := mcB_3_sub _ (List.mem_of_getElem? (i := 15) rfl)
theorem kw136 : Cond.soleField "MeasureChoice" "house" ∈ mcB := mcB_3_sub _ (List.mem_of_getElem? (i := 16) rfl)
theorem kw137 : Cond.laysFinal "MeasureChoice" "MeasureChoice" "ladder" "LMeasureChoice$Ladder;" ∈ mcB := mcB_3_sub _ (List.mem_of_getElem? (i := 17) rfl)
theorem kw138 : Cond.soleField "MeasureChoice" "ladder" ∈ mcB := mcB_3_sub _ (List.mem_of_getElem? (i := 18) rfl)
theorem kw139 : Cond.laysFinal "MeasureChoice" "MeasureChoice" "planner" "LMeasureChoice$Planner;" ∈ mcB := mcB_3_sub _ (List.mem_of_getElem? (i := 19) rfl)
theorem kw140 : Cond.soleField "MeasureChoice" "planner" ∈ mcB := mcB_3_sub _ (List.mem_of_getElem? (i := 20) rfl)
theorem kw141 : Cond.superclass "MeasureChoice" "java/lang/Object" ∈ mcB := mcB_3_sub _ (List.mem_of_getElem? (i := 21) rfl)
theorem kw142 : Cond.methodLink "MeasureChoiceLaw" 103 ⟨"MeasureChoice", "budget", "(I)I"⟩ ∈ mcB := mcB_3_sub _ (List.mem_of_getElem? (i := 22) rfl)
theorem kw143 : Cond.instanceMethod ⟨"MeasureChoice", "budget", "(I)I"⟩ ∈ mcB := mcB_3_sub _ (List.mem_of_getElem? (i := 23) rfl)
theorem kw144 : Cond.selects "MeasureChoice" ⟨"MeasureChoice", "budget", "(I)I"⟩ ⟨"MeasureChoice", "budget", "(I)I"⟩ ∈ mcB := mcB_3_sub _ (List.mem_of_getElem? (i := 24) rfl)
theorem kw145 : Cond.code ⟨"MeasureChoice", "budget", "(I)I"⟩ prog_1_method_11_code 3 (some FieldType.int) ∈ mcB := mcB_3_sub _ (List.mem_of_getElem? (i := 25) rfl)
theorem kw146 : Cond.methodLink "MeasureChoice" 108 ⟨"MeasureChoice$Ladder", "bringUpToDate", "(LMeasureChoice$House;)V"⟩ ∈ mcB := mcB_3_sub _ (List.mem_of_getElem? (i := 26) rfl)
theorem kw147 : Cond.instanceMethod ⟨"MeasureChoice$Ladder", "bringUpToDate", "(LMeasureChoice$House;)V"⟩ ∈ mcB := mcB_3_sub _ (List.mem_of_getElem? (i := 27) rfl)
theorem kw148 : Cond.selects "MeasureChoice$Ladder" ⟨"MeasureChoice$Ladder", "bringUpToDate", "(LMeasureChoice$House;)V"⟩ ⟨"MeasureChoice$Ladder", "bringUpToDate", "(LMeasureChoice$House;)V"⟩ ∈ mcB := mcB_3_sub _ (List.mem_of_getElem? (i := 28) rfl)
theorem kw149 : Cond.code ⟨"MeasureChoice$Ladder", "bringUpToDate", "(LMeasureChoice$House;)V"⟩ prog_3_method_7_code 3 none ∈ mcB := mcB_3_sub _ (List.mem_of_getElem? (i := 29) rfl)
theorem kw150 : Cond.methodLink "MeasureChoice$Ladder" 44 ⟨"MeasureChoice$Ladder", "addSteps", "(II)V"⟩ ∈ mcB := mcB_3_sub _ (List.mem_of_getElem? (i := 30) rfl)
theorem kw151 : Cond.instanceMethod ⟨"MeasureChoice$Ladder", "addSteps", "(II)V"⟩ ∈ mcB := mcB_3_sub _ (List.mem_of_getElem? (i := 31) rfl)
theorem kw152 : Cond.code ⟨"MeasureChoice$Ladder", "addSteps", "(II)V"⟩ prog_3_method_8_code 7 none ∈ mcB := mcB_3_sub _ (List.mem_of_getElem? (i := 32) rfl)
theorem kw153 : Cond.methodLink "MeasureChoice$Ladder" 48 ⟨"MeasureChoice$Ladder", "addGains", "(ILMeasureChoice$House;)V"⟩ ∈ mcB := mcB_3_sub _ (List.mem_of_getElem? (i := 33) rfl)
theorem kw154 : Cond.instanceMethod ⟨"MeasureChoice$Ladder", "addGains", "(ILMeasureChoice$House;)V"⟩ ∈ mcB := mcB_3_sub _ (List.mem_of_getElem? (i := 34) rfl)
theorem kw155 : Cond.code ⟨"MeasureChoice$Ladder", "addGains", "(ILMeasureChoice$House;)V"⟩ prog_3_method_9_code 9 none ∈ mcB := mcB_3_sub _ (List.mem_of_getElem? (i := 35) rfl)
theorem kw156 : Cond.methodLink "MeasureChoice$Ladder" 52 ⟨"MeasureChoice$Ladder", "keepUnbeaten", "(LMeasureChoice$House;)V"⟩ ∈ mcB := mcB_3_sub _ (List.mem_of_getElem? (i := 36) rfl)
theorem kw157 : Cond.instanceMethod ⟨"MeasureChoice$Ladder", "keepUnbeaten", "(LMeasureChoice$House;)V"⟩ ∈ mcB := mcB_3_sub _ (List.mem_of_getElem? (i := 37) rfl)
theorem kw158 : Cond.code ⟨"MeasureChoice$Ladder", "keepUnbeaten", "(LMeasureChoice$House;)V"⟩ prog_3_method_10_code 4 none ∈ mcB := mcB_3_sub _ (List.mem_of_getElem? (i := 38) rfl)
theorem kw159 : Cond.methodLink "MeasureChoice$Ladder" 22 ⟨"MeasureChoice$Ladder", "setAt", "(I)I"⟩ ∈ mcB := mcB_3_sub _ (List.mem_of_getElem? (i := 39) rfl)
theorem kw160 : Cond.instanceMethod ⟨"MeasureChoice$Ladder", "setAt", "(I)I"⟩ ∈ mcB := mcB_4_sub _ (List.mem_of_getElem? (i := 0) rfl)
theorem kw161 : Cond.selects "MeasureChoice$Ladder" ⟨"MeasureChoice$Ladder", "setAt", "(I)I"⟩ ⟨"MeasureChoice$Ladder", "setAt", "(I)I"⟩ ∈ mcB := mcB_4_sub _ (List.mem_of_getElem? (i := 1) rfl)
theorem kw162 : Cond.code ⟨"MeasureChoice$Ladder", "setAt", "(I)I"⟩ prog_3_method_2_code 2 (some FieldType.int) ∈ mcB := mcB_4_sub _ (List.mem_of_getElem? (i := 2) rfl)
theorem kw163 : Cond.methodLink "MeasureChoice$Ladder" 32 ⟨"MeasureChoice$Ladder", "gainAt", "(I)I"⟩ ∈ mcB := mcB_4_sub _ (List.mem_of_getElem? (i := 3) rfl)
theorem kw164 : Cond.instanceMethod ⟨"MeasureChoice$Ladder", "gainAt", "(I)I"⟩ ∈ mcB := mcB_4_sub _ (List.mem_of_getElem? (i := 4) rfl)
theorem kw165 : Cond.selects "MeasureChoice$Ladder" ⟨"MeasureChoice$Ladder", "gainAt", "(I)I"⟩ ⟨"MeasureChoice$Ladder", "gainAt", "(I)I"⟩ ∈ mcB := mcB_4_sub _ (List.mem_of_getElem? (i := 5) rfl)
theorem kw166 : Cond.code ⟨"MeasureChoice$Ladder", "gainAt", "(I)I"⟩ prog_3_method_4_code 2 (some FieldType.int) ∈ mcB := mcB_4_sub _ (List.mem_of_getElem? (i := 6) rfl)
theorem kw167 : Cond.methodLink "MeasureChoice$Ladder" 61 ⟨"MeasureChoice$House", "allows", "(I)Z"⟩ ∈ mcB := mcB_4_sub _ (List.mem_of_getElem? (i := 7) rfl)
theorem kw168 : Cond.instanceMethod ⟨"MeasureChoice$House", "allows", "(I)Z"⟩ ∈ mcB := mcB_4_sub _ (List.mem_of_getElem? (i := 8) rfl)
theorem kw169 : Cond.selects "MeasureChoice$House" ⟨"MeasureChoice$House", "allows", "(I)Z"⟩ ⟨"MeasureChoice$House", "allows", "(I)Z"⟩ ∈ mcB := mcB_4_sub _ (List.mem_of_getElem? (i := 9) rfl)
theorem kw170 : Cond.code ⟨"MeasureChoice$House", "allows", "(I)Z"⟩ prog_2_method_7_code 3 (some FieldType.boolean) ∈ mcB := mcB_4_sub _ (List.mem_of_getElem? (i := 10) rfl)
theorem kw171 : Cond.methodLink "MeasureChoice$House" 44 ⟨"MeasureChoice$House", "has", "(II)Z"⟩ ∈ mcB := mcB_4_sub _ (List.mem_of_getElem? (i := 11) rfl)
theorem kw172 : Cond.static ⟨"MeasureChoice$House", "has", "(II)Z"⟩ ∈ mcB := mcB_4_sub _ (List.mem_of_getElem? (i := 12) rfl)
theorem kw173 : Cond.code ⟨"MeasureChoice$House", "has", "(II)Z"⟩ prog_2_method_13_code 2 (some FieldType.boolean) ∈ mcB := mcB_4_sub _ (List.mem_of_getElem? (i := 13) rfl)
theorem kw174 : Cond.methodLink "MeasureChoice$Ladder" 29 ⟨"MeasureChoice$Ladder", "costAt", "(I)I"⟩ ∈ mcB := mcB_4_sub _ (List.mem_of_getElem? (i := 14) rfl)
theorem kw175 : Cond.instanceMethod ⟨"MeasureChoice$Ladder", "costAt", "(I)I"⟩ ∈ mcB := mcB_4_sub _ (List.mem_of_getElem? (i := 15) rfl)
theorem kw176 : Cond.selects "MeasureChoice$Ladder" ⟨"MeasureChoice$Ladder", "costAt", "(I)I"⟩ ⟨"MeasureChoice$Ladder", "costAt", "(I)I"⟩ ∈ mcB := mcB_4_sub _ (List.mem_of_getElem? (i := 16) rfl)
theorem kw177 : Cond.code ⟨"MeasureChoice$Ladder", "costAt", "(I)I"⟩ prog_3_method_3_code 2 (some FieldType.int) ∈ mcB := mcB_4_sub _ (List.mem_of_getElem? (i := 17) rfl)
theorem kw178 : Cond.methodLink "MeasureChoice" 118 ⟨"MeasureChoice$Ladder", "lowestGaining", "(I)I"⟩ ∈ mcB := mcB_4_sub _ (List.mem_of_getElem? (i := 18) rfl)
theorem kw179 : Cond.instanceMethod ⟨"MeasureChoice$Ladder", "lowestGaining", "(I)I"⟩ ∈ mcB := mcB_4_sub _ (List.mem_of_getElem? (i := 19) rfl)
theorem kw180 : Cond.selects "MeasureChoice$Ladder" ⟨"MeasureChoice$Ladder", "lowestGaining", "(I)I"⟩ ⟨"MeasureChoice$Ladder", "lowestGaining", "(I)I"⟩ ∈ mcB := mcB_4_sub _ (List.mem_of_getElem? (i := 20) rfl)
theorem kw181 : Cond.code ⟨"MeasureChoice$Ladder", "lowestGaining", "(I)I"⟩ prog_3_method_6_code 3 (some FieldType.int) ∈ mcB := mcB_4_sub _ (List.mem_of_getElem? (i := 21) rfl)
theorem kw182 : Cond.methodLink "MeasureChoice" 121 ⟨"MeasureChoice$Ladder", "costAt", "(I)I"⟩ ∈ mcB := mcB_4_sub _ (List.mem_of_getElem? (i := 22) rfl)
theorem kw183 : Cond.methodLink "MeasureChoiceLaw" 65 ⟨"MeasureChoiceLaw", "measure", "(LMeasureChoice;II[J)I"⟩ ∈ mcB := mcB_4_sub _ (List.mem_of_getElem? (i := 23) rfl)
theorem kw184 : Cond.static ⟨"MeasureChoiceLaw", "measure", "(LMeasureChoice;II[J)I"⟩ ∈ mcB := mcB_4_sub _ (List.mem_of_getElem? (i := 24) rfl)
theorem kw185 : Cond.codeWith ⟨"MeasureChoiceLaw", "measure", "(LMeasureChoice;II[J)I"⟩ method_3_code 5 (some FieldType.int) [(0, 10, 13, 13), (0, 10, 17, 15)] ∈ mcB := mcB_4_sub _ (List.mem_of_getElem? (i := 25) rfl)
theorem kw186 : Cond.classLink "MeasureChoiceLaw" 13 "java/lang/IllegalArgumentException" ∈ mcB := mcB_4_sub _ (List.mem_of_getElem? (i := 26) rfl)
theorem kw187 : Cond.classLink "MeasureChoiceLaw" 15 "java/lang/IllegalStateException" ∈ mcB := mcB_4_sub _ (List.mem_of_getElem? (i := 27) rfl)
theorem kw188 : Cond.methodLink "MeasureChoiceLaw" 7 ⟨"MeasureChoice", "measure", "(II)I"⟩ ∈ mcB := mcB_4_sub _ (List.mem_of_getElem? (i := 28) rfl)
theorem kw189 : Cond.instanceMethod ⟨"MeasureChoice", "measure", "(II)I"⟩ ∈ mcB := mcB_4_sub _ (List.mem_of_getElem? (i := 29) rfl)
theorem kw190 : Cond.selects "MeasureChoice" ⟨"MeasureChoice", "measure", "(II)I"⟩ ⟨"MeasureChoice", "measure", "(II)I"⟩ ∈ mcB := mcB_4_sub _ (List.mem_of_getElem? (i := 30) rfl)
theorem kw191 : Cond.code ⟨"MeasureChoice", "measure", "(II)I"⟩ prog_1_method_2_code 3 (some FieldType.int) ∈ mcB := mcB_4_sub _ (List.mem_of_getElem? (i := 31) rfl)
theorem kw192 : Cond.methodLink "MeasureChoice" 30 ⟨"MeasureChoice", "requireCostAndGain", "(II)V"⟩ ∈ mcB := mcB_4_sub _ (List.mem_of_getElem? (i := 32) rfl)
theorem kw193 : Cond.static ⟨"MeasureChoice", "requireCostAndGain", "(II)V"⟩ ∈ mcB := mcB_4_sub _ (List.mem_of_getElem? (i := 33) rfl)
theorem kw194 : Cond.code ⟨"MeasureChoice", "requireCostAndGain", "(II)V"⟩ prog_1_method_19_code 2 none ∈ mcB := mcB_4_sub _ (List.mem_of_getElem? (i := 34) rfl)
theorem kw195 : Cond.methodLink "MeasureChoice" 78 ⟨"MeasureChoice", "requireBetween", "(III)V"⟩ ∈ mcB := mcB_4_sub _ (List.mem_of_getElem? (i := 35) rfl)
theorem kw196 : Cond.static ⟨"MeasureChoice", "requireBetween", "(III)V"⟩ ∈ mcB := mcB_4_sub _ (List.mem_of_getElem? (i := 36) rfl)
theorem kw197 : Cond.code ⟨"MeasureChoice", "requireBetween", "(III)V"⟩ prog_1_method_17_code 3 none ∈ mcB := mcB_4_sub _ (List.mem_of_getElem? (i := 37) rfl)
theorem kw198 : Cond.classLink "MeasureChoice" 125 "java/lang/IllegalArgumentException" ∈ mcB := mcB_4_sub _ (List.mem_of_getElem? (i := 38) rfl)
theorem kw199 : Cond.instantiable "java/lang/IllegalArgumentException" 6 ∈ mcB := mcB_4_sub _ (List.mem_of_getElem? (i := 39) rfl)
theorem kw200 : Cond.selects "java/lang/IllegalArgumentException" ⟨"java/lang/Throwable", "fillInStackTrace", "(I)Ljava/lang/Throwable;"⟩ ⟨"java/lang/Throwable", "fillInStackTrace", "(I)Ljava/lang/Throwable;"⟩ ∈ mcB := mcB_5_sub _ (List.mem_of_getElem? (i := 0) rfl)
theorem kw201 : Cond.selects "java/lang/IllegalArgumentException" ⟨"java/lang/Throwable", "fillInStackTrace", "()Ljava/lang/Throwable;"⟩ ⟨"java/lang/Throwable", "fillInStackTrace", "()Ljava/lang/Throwable;"⟩ ∈ mcB := mcB_5_sub _ (List.mem_of_getElem? (i := 1) rfl)
theorem kw202 : Cond.lays "java/lang/IllegalArgumentException" "java/lang/Throwable" "cause" "Ljava/lang/Throwable;" ∈ mcB := mcB_5_sub _ (List.mem_of_getElem? (i := 2) rfl)
theorem kw203 : Cond.lays "java/lang/Throwable" "java/lang/Throwable" "cause" "Ljava/lang/Throwable;" ∈ mcB := mcB_5_sub _ (List.mem_of_getElem? (i := 3) rfl)
theorem kw204 : Cond.lays "java/lang/IllegalArgumentException" "java/lang/Throwable" "stackTrace" "[Ljava/lang/StackTraceElement;" ∈ mcB := mcB_5_sub _ (List.mem_of_getElem? (i := 4) rfl)
theorem kw205 : Cond.lays "java/lang/Throwable" "java/lang/Throwable" "stackTrace" "[Ljava/lang/StackTraceElement;" ∈ mcB := mcB_5_sub _ (List.mem_of_getElem? (i := 5) rfl)
theorem kw206 : Cond.lays "java/lang/IllegalArgumentException" "java/lang/Throwable" "suppressedExceptions" "Ljava/util/List;" ∈ mcB := mcB_5_sub _ (List.mem_of_getElem? (i := 6) rfl)
theorem kw207 : Cond.lays "java/lang/Throwable" "java/lang/Throwable" "suppressedExceptions" "Ljava/util/List;" ∈ mcB := mcB_5_sub _ (List.mem_of_getElem? (i := 7) rfl)
theorem kw208 : Cond.lays "java/lang/IllegalArgumentException" "java/lang/Throwable" "detailMessage" "Ljava/lang/String;" ∈ mcB := mcB_5_sub _ (List.mem_of_getElem? (i := 8) rfl)
theorem kw209 : Cond.lays "java/lang/Throwable" "java/lang/Throwable" "detailMessage" "Ljava/lang/String;" ∈ mcB := mcB_5_sub _ (List.mem_of_getElem? (i := 9) rfl)
theorem kw210 : Cond.lays "java/lang/IllegalArgumentException" "java/lang/Throwable" "backtrace" "Ljava/lang/Object;" ∈ mcB := mcB_5_sub _ (List.mem_of_getElem? (i := 10) rfl)
theorem kw211 : Cond.lays "java/lang/Throwable" "java/lang/Throwable" "backtrace" "Ljava/lang/Object;" ∈ mcB := mcB_5_sub _ (List.mem_of_getElem? (i := 11) rfl)
theorem kw212 : Cond.fieldLink "java/lang/Throwable" 198 "java/lang/Throwable" "backtrace" "Ljava/lang/Object;" ∈ mcB := mcB_5_sub _ (List.mem_of_getElem? (i := 12) rfl)
theorem kw213 : Cond.superclass "java/lang/Throwable" "java/lang/Object" ∈ mcB := mcB_5_sub _ (List.mem_of_getElem? (i := 13) rfl)
theorem kw214 : Cond.instanceMethod ⟨"java/lang/Throwable", "<init>", "()V"⟩ ∈ mcB := mcB_5_sub _ (List.mem_of_getElem? (i := 14) rfl)
theorem kw215 : Cond.code ⟨"java/lang/Throwable", "<init>", "()V"⟩ prog_13_method_1_code 1 none ∈ mcB := mcB_5_sub _ (List.mem_of_getElem? (i := 15) rfl)
theorem kw216 : Cond.methodLink "java/lang/Throwable" 1 ⟨"java/lang/Object", "<init>", "()V"⟩ ∈ mcB := mcB_5_sub _ (List.mem_of_getElem? (i := 16) rfl)
theorem kw217 : Cond.fieldLink "java/lang/Throwable" 13 "java/lang/Throwable" "UNASSIGNED_STACK" "[Ljava/lang/StackTraceElement;" ∈ mcB := mcB_5_sub _ (List.mem_of_getElem? (i := 17) rfl)
theorem kw218 : Cond.fieldLink "java/lang/Throwable" 20 "java/lang/Throwable" "SUPPRESSED_SENTINEL" "Ljava/util/List;" ∈ mcB := mcB_5_sub _ (List.mem_of_getElem? (i := 18) rfl)
theorem kw219 : Cond.methodLink "java/lang/Throwable" 27 ⟨"java/lang/Throwable", "fillInStackTrace", "()Ljava/lang/Throwable;"⟩ ∈ mcB := mcB_5_sub _ (List.mem_of_getElem? (i := 19) rfl)
theorem kw220 : Cond.instanceMethod ⟨"java/lang/Throwable", "fillInStackTrace", "()Ljava/lang/Throwable;"⟩ ∈ mcB := mcB_5_sub _ (List.mem_of_getElem? (i := 20) rfl)
theorem kw221 : Cond.sameMethod "java/lang/Throwable" "java/lang/Throwable" "fillInStackTrace" "()Ljava/lang/Throwable;" ∈ mcB := mcB_5_sub _ (List.mem_of_getElem? (i := 21) rfl)
theorem kw222 : Cond.selects "java/lang/IllegalStateException" ⟨"java/lang/Throwable", "fillInStackTrace", "()Ljava/lang/Throwable;"⟩ ⟨"java/lang/Throwable", "fillInStackTrace", "()Ljava/lang/Throwable;"⟩ ∈ mcB := mcB_5_sub _ (List.mem_of_getElem? (i := 22) rfl)
theorem kw223 : Cond.codeSync ⟨"java/lang/Throwable", "fillInStackTrace", "()Ljava/lang/Throwable;"⟩ prog_13_method_18_code 1 (some (FieldType.object "java/lang/Throwable")) ∈ mcB := mcB_5_sub _ (List.mem_of_getElem? (i := 23) rfl)
theorem kw224 : Cond.methodLink "java/lang/Throwable" 202 ⟨"java/lang/Throwable", "fillInStackTrace", "(I)Ljava/lang/Throwable;"⟩ ∈ mcB := mcB_5_sub _ (List.mem_of_getElem? (i := 24) rfl)
theorem kw225 : Cond.instanceMethod ⟨"java/lang/Throwable", "fillInStackTrace", "(I)Ljava/lang/Throwable;"⟩ ∈ mcB := mcB_5_sub _ (List.mem_of_getElem? (i := 25) rfl)
theorem kw226 : Cond.instantiable "java/lang/Throwable" 6 ∈ mcB := mcB_5_sub _ (List.mem_of_getElem? (i := 26) rfl)
theorem kw227 : Cond.native ⟨"java/lang/Throwable", "fillInStackTrace", "(I)Ljava/lang/Throwable;"⟩ ∈ mcB := mcB_5_sub _ (List.mem_of_getElem? (i := 27) rfl)
theorem kw228 : Cond.methodLink "MeasureChoice" 129 ⟨"java/lang/IllegalArgumentException", "<init>", "(Ljava/lang/String;)V"⟩ ∈ mcB := mcB_5_sub _ (List.mem_of_getElem? (i := 28) rfl)
theorem kw229 : Cond.instanceMethod ⟨"java/lang/IllegalArgumentException", "<init>", "(Ljava/lang/String;)V"⟩ ∈ mcB := mcB_5_sub _ (List.mem_of_getElem? (i := 29) rfl)
theorem kw230 : Cond.code ⟨"java/lang/IllegalArgumentException", "<init>", "(Ljava/lang/String;)V"⟩ prog_8_method_2_code 2 none ∈ mcB := mcB_5_sub _ (List.mem_of_getElem? (i := 30) rfl)
theorem kw231 : Cond.methodLink "java/lang/IllegalArgumentException" 7 ⟨"java/lang/RuntimeException", "<init>", "(Ljava/lang/String;)V"⟩ ∈ mcB := mcB_5_sub _ (List.mem_of_getElem? (i := 31) rfl)
theorem kw232 : Cond.instanceMethod ⟨"java/lang/RuntimeException", "<init>", "(Ljava/lang/String;)V"⟩ ∈ mcB := mcB_5_sub _ (List.mem_of_getElem? (i := 32) rfl)
theorem kw233 : Cond.code ⟨"java/lang/RuntimeException", "<init>", "(Ljava/lang/String;)V"⟩ prog_11_method_2_code 2 none ∈ mcB := mcB_5_sub _ (List.mem_of_getElem? (i := 33) rfl)
theorem kw234 : Cond.methodLink "java/lang/RuntimeException" 7 ⟨"java/lang/Exception", "<init>", "(Ljava/lang/String;)V"⟩ ∈ mcB := mcB_5_sub _ (List.mem_of_getElem? (i := 34) rfl)
theorem kw235 : Cond.instanceMethod ⟨"java/lang/Exception", "<init>", "(Ljava/lang/String;)V"⟩ ∈ mcB := mcB_5_sub _ (List.mem_of_getElem? (i := 35) rfl)
theorem kw236 : Cond.code ⟨"java/lang/Exception", "<init>", "(Ljava/lang/String;)V"⟩ prog_7_method_2_code 2 none ∈ mcB := mcB_5_sub _ (List.mem_of_getElem? (i := 36) rfl)
theorem kw237 : Cond.methodLink "java/lang/Exception" 7 ⟨"java/lang/Throwable", "<init>", "(Ljava/lang/String;)V"⟩ ∈ mcB := mcB_5_sub _ (List.mem_of_getElem? (i := 37) rfl)
theorem kw238 : Cond.instanceMethod ⟨"java/lang/Throwable", "<init>", "(Ljava/lang/String;)V"⟩ ∈ mcB := mcB_5_sub _ (List.mem_of_getElem? (i := 38) rfl)
theorem kw239 : Cond.code ⟨"java/lang/Throwable", "<init>", "(Ljava/lang/String;)V"⟩ prog_13_method_2_code 2 none ∈ mcB := mcB_5_sub _ (List.mem_of_getElem? (i := 39) rfl)
theorem kw240 : Cond.fieldLink "java/lang/Throwable" 198 "java/lang/Throwable" "backtrace" "Ljava/lang/Object;" ∈ mcB := mcB_6_sub _ (List.mem_of_getElem? (i := 0) rfl)
theorem kw241 : Cond.fieldLink "java/lang/Throwable" 31 "java/lang/Throwable" "detailMessage" "Ljava/lang/String;" ∈ mcB := mcB_6_sub _ (List.mem_of_getElem? (i := 1) rfl)
theorem kw242 : Cond.fieldLink "java/lang/Throwable" 7 "java/lang/Throwable" "cause" "Ljava/lang/Throwable;" ∈ mcB := mcB_6_sub _ (List.mem_of_getElem? (i := 2) rfl)
theorem kw243 : Cond.fieldLink "java/lang/Throwable" 17 "java/lang/Throwable" "stackTrace" "[Ljava/lang/StackTraceElement;" ∈ mcB := mcB_6_sub _ (List.mem_of_getElem? (i := 3) rfl)
theorem kw244 : Cond.fieldLink "java/lang/Throwable" 24 "java/lang/Throwable" "suppressedExceptions" "Ljava/util/List;" ∈ mcB := mcB_6_sub _ (List.mem_of_getElem? (i := 4) rfl)
theorem kw245 : Cond.soleField "java/lang/Throwable" "backtrace" ∈ mcB := mcB_6_sub _ (List.mem_of_getElem? (i := 5) rfl)
theorem kw246 : Cond.soleField "java/lang/Throwable" "detailMessage" ∈ mcB := mcB_6_sub _ (List.mem_of_getElem? (i := 6) rfl)
theorem kw247 : Cond.soleField "java/lang/Throwable" "cause" ∈ mcB := mcB_6_sub _ (List.mem_of_getElem? (i := 7) rfl)
theorem kw248 : Cond.soleField "java/lang/Throwable" "stackTrace" ∈ mcB := mcB_6_sub _ (List.mem_of_getElem? (i := 8) rfl)
theorem kw249 : Cond.lays "java/lang/IllegalArgumentException" "java/lang/Throwable" "depth" "I" ∈ mcB := mcB_6_sub _ (List.mem_of_getElem? (i := 9) rfl)
theorem kw250 : Cond.soleField "java/lang/Throwable" "depth" ∈ mcB := mcB_6_sub _ (List.mem_of_getElem? (i := 10) rfl)
theorem kw251 : Cond.soleField "java/lang/Throwable" "suppressedExceptions" ∈ mcB := mcB_6_sub _ (List.mem_of_getElem? (i := 11) rfl)
theorem kw252 : Cond.superclass "java/lang/IllegalArgumentException" "java/lang/RuntimeException" ∈ mcB := mcB_6_sub _ (List.mem_of_getElem? (i := 12) rfl)
theorem kw253 : Cond.arrayClass FieldType.byte ∈ mcB := mcB_6_sub _ (List.mem_of_getElem? (i := 13) rfl)
theorem kw254 : Cond.classLink "MeasureChoice" 38 "java/lang/IllegalStateException" ∈ mcB := mcB_6_sub _ (List.mem_of_getElem? (i := 14) rfl)
theorem kw255 : Cond.instantiable "java/lang/IllegalStateException" 6 ∈ mcB := mcB_6_sub _ (List.mem_of_getElem? (i := 15) rfl)
theorem kw256 : Cond.selects "java/lang/IllegalStateException" ⟨"java/lang/Throwable", "fillInStackTrace", "(I)Ljava/lang/Throwable;"⟩ ⟨"java/lang/Throwable", "fillInStackTrace", "(I)Ljava/lang/Throwable;"⟩ ∈ mcB := mcB_6_sub _ (List.mem_of_getElem? (i := 16) rfl)
theorem kw257 : Cond.lays "java/lang/IllegalStateException" "java/lang/Throwable" "cause" "Ljava/lang/Throwable;" ∈ mcB := mcB_6_sub _ (List.mem_of_getElem? (i := 17) rfl)
theorem kw258 : Cond.lays "java/lang/IllegalStateException" "java/lang/Throwable" "stackTrace" "[Ljava/lang/StackTraceElement;" ∈ mcB := mcB_6_sub _ (List.mem_of_getElem? (i := 18) rfl)
theorem kw259 : Cond.lays "java/lang/IllegalStateException" "java/lang/Throwable" "suppressedExceptions" "Ljava/util/List;" ∈ mcB := mcB_6_sub _ (List.mem_of_getElem? (i := 19) rfl)
theorem kw260 : Cond.lays "java/lang/IllegalStateException" "java/lang/Throwable" "detailMessage" "Ljava/lang/String;" ∈ mcB := mcB_6_sub _ (List.mem_of_getElem? (i := 20) rfl)
theorem kw261 : Cond.lays "java/lang/IllegalStateException" "java/lang/Throwable" "backtrace" "Ljava/lang/Object;" ∈ mcB := mcB_6_sub _ (List.mem_of_getElem? (i := 21) rfl)
theorem kw262 : Cond.methodLink "MeasureChoice" 42 ⟨"java/lang/IllegalStateException", "<init>", "(Ljava/lang/String;)V"⟩ ∈ mcB := mcB_6_sub _ (List.mem_of_getElem? (i := 22) rfl)
theorem kw263 : Cond.instanceMethod ⟨"java/lang/IllegalStateException", "<init>", "(Ljava/lang/String;)V"⟩ ∈ mcB := mcB_6_sub _ (List.mem_of_getElem? (i := 23) rfl)
theorem kw264 : Cond.code ⟨"java/lang/IllegalStateException", "<init>", "(Ljava/lang/String;)V"⟩ prog_9_method_2_code 2 none ∈ mcB := mcB_6_sub _ (List.mem_of_getElem? (i := 24) rfl)
theorem kw265 : Cond.methodLink "java/lang/IllegalStateException" 7 ⟨"java/lang/RuntimeException", "<init>", "(Ljava/lang/String;)V"⟩ ∈ mcB := mcB_6_sub _ (List.mem_of_getElem? (i := 25) rfl)
theorem kw266 : Cond.lays "java/lang/IllegalStateException" "java/lang/Throwable" "depth" "I" ∈ mcB := mcB_6_sub _ (List.mem_of_getElem? (i := 26) rfl)
theorem kw267 : Cond.superclass "java/lang/IllegalStateException" "java/lang/RuntimeException" ∈ mcB := mcB_6_sub _ (List.mem_of_getElem? (i := 27) rfl)
theorem kw268 : Cond.methodLink "MeasureChoice" 45 ⟨"MeasureChoice$House", "add", "(II)I"⟩ ∈ mcB := mcB_6_sub _ (List.mem_of_getElem? (i := 28) rfl)
theorem kw269 : Cond.instanceMethod ⟨"MeasureChoice$House", "add", "(II)I"⟩ ∈ mcB := mcB_6_sub _ (List.mem_of_getElem? (i := 29) rfl)
theorem kw270 : Cond.selects "MeasureChoice$House" ⟨"MeasureChoice$House", "add", "(II)I"⟩ ⟨"MeasureChoice$House", "add", "(II)I"⟩ ∈ mcB := mcB_6_sub _ (List.mem_of_getElem? (i := 30) rfl)
theorem kw271 : Cond.code ⟨"MeasureChoice$House", "add", "(II)I"⟩ prog_2_method_2_code 4 (some FieldType.int) ∈ mcB := mcB_6_sub _ (List.mem_of_getElem? (i := 31) rfl)
theorem kw272 : Cond.methodLink "MeasureChoice$House" 33 ⟨"MeasureChoice$House", "put", "(III)V"⟩ ∈ mcB := mcB_6_sub _ (List.mem_of_getElem? (i := 32) rfl)
theorem kw273 : Cond.instanceMethod ⟨"MeasureChoice$House", "put", "(III)V"⟩ ∈ mcB := mcB_6_sub _ (List.mem_of_getElem? (i := 33) rfl)
theorem kw274 : Cond.selects "MeasureChoice$House" ⟨"MeasureChoice$House", "put", "(III)V"⟩ ⟨"MeasureChoice$House", "put", "(III)V"⟩ ∈ mcB := mcB_6_sub _ (List.mem_of_getElem? (i := 34) rfl)
theorem kw275 : Cond.code ⟨"MeasureChoice$House", "put", "(III)V"⟩ prog_2_method_3_code 4 none ∈ mcB := mcB_6_sub _ (List.mem_of_getElem? (i := 35) rfl)
theorem kw276 : Cond.methodLink "MeasureChoiceLaw" 75 ⟨"MeasureChoiceLaw", "change", "(LMeasureChoice;III)I"⟩ ∈ mcB := mcB_6_sub _ (List.mem_of_getElem? (i := 36) rfl)
theorem kw277 : Cond.static ⟨"MeasureChoiceLaw", "change", "(LMeasureChoice;III)I"⟩ ∈ mcB := mcB_6_sub _ (List.mem_of_getElem? (i := 37) rfl)
theorem kw278 : Cond.codeWith ⟨"MeasureChoiceLaw", "change", "(LMeasureChoice;III)I"⟩ method_4_code 5 (some FieldType.int) [(0, 7, 10, 13)] ∈ mcB := mcB_6_sub _ (List.mem_of_getElem? (i := 38) rfl)
theorem kw279 : Cond.methodLink "MeasureChoiceLaw" 17 ⟨"MeasureChoice", "change", "(III)V"⟩ ∈ mcB := mcB_6_sub _ (List.mem_of_getElem? (i := 39) rfl)
theorem kw280 : Cond.instanceMethod ⟨"MeasureChoice", "change", "(III)V"⟩ ∈ mcB := mcB_7_sub _ (List.mem_of_getElem? (i := 0) rfl)
theorem kw281 : Cond.selects "MeasureChoice" ⟨"MeasureChoice", "change", "(III)V"⟩ ⟨"MeasureChoice", "change", "(III)V"⟩ ∈ mcB := mcB_7_sub _ (List.mem_of_getElem? (i := 1) rfl)
theorem kw282 : Cond.code ⟨"MeasureChoice", "change", "(III)V"⟩ prog_1_method_3_code 4 none ∈ mcB := mcB_7_sub _ (List.mem_of_getElem? (i := 2) rfl)
theorem kw283 : Cond.methodLink "MeasureChoice" 49 ⟨"MeasureChoice", "requireMeasure", "(I)V"⟩ ∈ mcB := mcB_7_sub _ (List.mem_of_getElem? (i := 3) rfl)
theorem kw284 : Cond.instanceMethod ⟨"MeasureChoice", "requireMeasure", "(I)V"⟩ ∈ mcB := mcB_7_sub _ (List.mem_of_getElem? (i := 4) rfl)
theorem kw285 : Cond.code ⟨"MeasureChoice", "requireMeasure", "(I)V"⟩ prog_1_method_20_code 2 none ∈ mcB := mcB_7_sub _ (List.mem_of_getElem? (i := 5) rfl)
theorem kw286 : Cond.methodLink "MeasureChoice" 53 ⟨"MeasureChoice$House", "put", "(III)V"⟩ ∈ mcB := mcB_7_sub _ (List.mem_of_getElem? (i := 6) rfl)
theorem kw287 : Cond.methodLink "MeasureChoiceLaw" 79 ⟨"MeasureChoiceLaw", "exclude", "(LMeasureChoice;IIZ[J)I"⟩ ∈ mcB := mcB_7_sub _ (List.mem_of_getElem? (i := 7) rfl)
theorem kw288 : Cond.static ⟨"MeasureChoiceLaw", "exclude", "(LMeasureChoice;IIZ[J)I"⟩ ∈ mcB := mcB_7_sub _ (List.mem_of_getElem? (i := 8) rfl)
theorem kw289 : Cond.codeWith ⟨"MeasureChoiceLaw", "exclude", "(LMeasureChoice;IIZ[J)I"⟩ method_5_code 6 (some FieldType.int) [(0, 19, 22, 13)] ∈ mcB := mcB_7_sub _ (List.mem_of_getElem? (i := 9) rfl)
theorem kw290 : Cond.methodLink "MeasureChoiceLaw" 21 ⟨"MeasureChoice", "exclude", "(IIZ)Z"⟩ ∈ mcB := mcB_7_sub _ (List.mem_of_getElem? (i := 10) rfl)
theorem kw291 : Cond.instanceMethod ⟨"MeasureChoice", "exclude", "(IIZ)Z"⟩ ∈ mcB := mcB_7_sub _ (List.mem_of_getElem? (i := 11) rfl)
theorem kw292 : Cond.selects "MeasureChoice" ⟨"MeasureChoice", "exclude", "(IIZ)Z"⟩ ⟨"MeasureChoice", "exclude", "(IIZ)Z"⟩ ∈ mcB := mcB_7_sub _ (List.mem_of_getElem? (i := 12) rfl)
theorem kw293 : Cond.code ⟨"MeasureChoice", "exclude", "(IIZ)Z"⟩ prog_1_method_4_code 5 (some FieldType.boolean) ∈ mcB := mcB_7_sub _ (List.mem_of_getElem? (i := 13) rfl)
theorem kw294 : Cond.methodLink "MeasureChoice" 57 ⟨"MeasureChoice", "requirePair", "(II)V"⟩ ∈ mcB := mcB_7_sub _ (List.mem_of_getElem? (i := 14) rfl)
theorem kw295 : Cond.instanceMethod ⟨"MeasureChoice", "requirePair", "(II)V"⟩ ∈ mcB := mcB_7_sub _ (List.mem_of_getElem? (i := 15) rfl)
theorem kw296 : Cond.code ⟨"MeasureChoice", "requirePair", "(II)V"⟩ prog_1_method_21_code 3 none ∈ mcB := mcB_7_sub _ (List.mem_of_getElem? (i := 16) rfl)
theorem kw297 : Cond.methodLink "MeasureChoice" 64 ⟨"MeasureChoice$House", "has", "(II)Z"⟩ ∈ mcB := mcB_7_sub _ (List.mem_of_getElem? (i := 17) rfl)
theorem kw298 : Cond.methodLink "MeasureChoice" 68 ⟨"MeasureChoice$House", "putExcluded", "(IIZ)V"⟩ ∈ mcB := mcB_7_sub _ (List.mem_of_getElem? (i := 18) rfl)
theorem kw299 : Cond.instanceMethod ⟨"MeasureChoice$House", "putExcluded", "(IIZ)V"⟩ ∈ mcB := mcB_7_sub _ (List.mem_of_getElem? (i := 19) rfl)
theorem kw300 : Cond.selects "MeasureChoice$House" ⟨"MeasureChoice$House", "putExcluded", "(IIZ)V"⟩ ⟨"MeasureChoice$House", "putExcluded", "(IIZ)V"⟩ ∈ mcB := mcB_7_sub _ (List.mem_of_getElem? (i := 20) rfl)
theorem kw301 : Cond.code ⟨"MeasureChoice$House", "putExcluded", "(IIZ)V"⟩ prog_2_method_4_code 4 none ∈ mcB := mcB_7_sub _ (List.mem_of_getElem? (i := 21) rfl)
theorem kw302 : Cond.methodLink "MeasureChoice$House" 40 ⟨"MeasureChoice$House", "with", "(IIZ)I"⟩ ∈ mcB := mcB_7_sub _ (List.mem_of_getElem? (i := 22) rfl)
theorem kw303 : Cond.static ⟨"MeasureChoice$House", "with", "(IIZ)I"⟩ ∈ mcB := mcB_7_sub _ (List.mem_of_getElem? (i := 23) rfl)
theorem kw304 : Cond.code ⟨"MeasureChoice$House", "with", "(IIZ)I"⟩ prog_2_method_14_code 4 (some FieldType.int) ∈ mcB := mcB_7_sub _ (List.mem_of_getElem? (i := 24) rfl)
theorem kw305 : Cond.methodLink "MeasureChoiceLaw" 83 ⟨"MeasureChoiceLaw", "needs", "(LMeasureChoice;IIZ[J)I"⟩ ∈ mcB := mcB_7_sub _ (List.mem_of_getElem? (i := 25) rfl)
theorem kw306 : Cond.static ⟨"MeasureChoiceLaw", "needs", "(LMeasureChoice;IIZ[J)I"⟩ ∈ mcB := mcB_7_sub _ (List.mem_of_getElem? (i := 26) rfl)
theorem kw307 : Cond.codeWith ⟨"MeasureChoiceLaw", "needs", "(LMeasureChoice;IIZ[J)I"⟩ method_6_code 6 (some FieldType.int) [(0, 19, 22, 13)] ∈ mcB := mcB_7_sub _ (List.mem_of_getElem? (i := 27) rfl)
theorem kw308 : Cond.methodLink "MeasureChoiceLaw" 25 ⟨"MeasureChoice", "needs", "(IIZ)Z"⟩ ∈ mcB := mcB_7_sub _ (List.mem_of_getElem? (i := 28) rfl)
theorem kw309 : Cond.instanceMethod ⟨"MeasureChoice", "needs", "(IIZ)Z"⟩ ∈ mcB := mcB_7_sub _ (List.mem_of_getElem? (i := 29) rfl)
theorem kw310 : Cond.selects "MeasureChoice" ⟨"MeasureChoice", "needs", "(IIZ)Z"⟩ ⟨"MeasureChoice", "needs", "(IIZ)Z"⟩ ∈ mcB := mcB_7_sub _ (List.mem_of_getElem? (i := 30) rfl)
theorem kw311 : Cond.code ⟨"MeasureChoice", "needs", "(IIZ)Z"⟩ prog_1_method_5_code 5 (some FieldType.boolean) ∈ mcB := mcB_7_sub _ (List.mem_of_getElem? (i := 31) rfl)
theorem kw312 : Cond.methodLink "MeasureChoice" 75 ⟨"MeasureChoice$House", "putNeeded", "(IIZ)V"⟩ ∈ mcB := mcB_7_sub _ (List.mem_of_getElem? (i := 32) rfl)
theorem kw313 : Cond.instanceMethod ⟨"MeasureChoice$House", "putNeeded", "(IIZ)V"⟩ ∈ mcB := mcB_7_sub _ (List.mem_of_getElem? (i := 33) rfl)
theorem kw314 : Cond.selects "MeasureChoice$House" ⟨"MeasureChoice$House", "putNeeded", "(IIZ)V"⟩ ⟨"MeasureChoice$House", "putNeeded", "(IIZ)V"⟩ ∈ mcB := mcB_7_sub _ (List.mem_of_getElem? (i := 34) rfl)
theorem kw315 : Cond.code ⟨"MeasureChoice$House", "putNeeded", "(IIZ)V"⟩ prog_2_method_5_code 4 none ∈ mcB := mcB_7_sub _ (List.mem_of_getElem? (i := 35) rfl)
theorem kw316 : Cond.methodLink "MeasureChoiceLaw" 86 ⟨"MeasureChoiceLaw", "bonus", "(LMeasureChoice;III[J)I"⟩ ∈ mcB := mcB_7_sub _ (List.mem_of_getElem? (i := 36) rfl)
theorem kw317 : Cond.static ⟨"MeasureChoiceLaw", "bonus", "(LMeasureChoice;III[J)I"⟩ ∈ mcB := mcB_7_sub _ (List.mem_of_getElem? (i := 37) rfl)
theorem kw318 : Cond.codeWith ⟨"MeasureChoiceLaw", "bonus", "(LMeasureChoice;III[J)I"⟩ method_7_code 6 (some FieldType.int) [(0, 12, 15, 13)] ∈ mcB := mcB_7_sub _ (List.mem_of_getElem? (i := 38) rfl)
theorem kw319 : Cond.methodLink "MeasureChoiceLaw" 28 ⟨"MeasureChoice", "bonus", "(III)I"⟩ ∈ mcB := mcB_7_sub _ (List.mem_of_getElem? (i := 39) rfl)
theorem kw320 : Cond.instanceMethod ⟨"MeasureChoice", "bonus", "(III)I"⟩ ∈ mcB := mcB_8_sub _ (List.mem_of_getElem? (i := 0) rfl)
theorem kw321 : Cond.selects "MeasureChoice" ⟨"MeasureChoice", "bonus", "(III)I"⟩ ⟨"MeasureChoice", "bonus", "(III)I"⟩ ∈ mcB := mcB_8_sub _ (List.mem_of_getElem? (i := 1) rfl)
theorem kw322 : Cond.code ⟨"MeasureChoice", "bonus", "(III)I"⟩ prog_1_method_6_code 5 (some FieldType.int) ∈ mcB := mcB_8_sub _ (List.mem_of_getElem? (i := 2) rfl)
theorem kw323 : Cond.methodLink "MeasureChoice" 85 ⟨"MeasureChoice$House", "putBonus", "(III)V"⟩ ∈ mcB := mcB_8_sub _ (List.mem_of_getElem? (i := 3) rfl)
theorem kw324 : Cond.instanceMethod ⟨"MeasureChoice$House", "putBonus", "(III)V"⟩ ∈ mcB := mcB_8_sub _ (List.mem_of_getElem? (i := 4) rfl)
theorem kw325 : Cond.selects "MeasureChoice$House" ⟨"MeasureChoice$House", "putBonus", "(III)V"⟩ ⟨"MeasureChoice$House", "putBonus", "(III)V"⟩ ∈ mcB := mcB_8_sub _ (List.mem_of_getElem? (i := 5) rfl)
theorem kw326 : Cond.code ⟨"MeasureChoice$House", "putBonus", "(III)V"⟩ prog_2_method_6_code 4 none ∈ mcB := mcB_8_sub _ (List.mem_of_getElem? (i := 6) rfl)
theorem kw327 : Cond.methodLink "MeasureChoiceLaw" 90 ⟨"MeasureChoiceLaw", "lawful", "(LMeasureChoice;I[J)I"⟩ ∈ mcB := mcB_8_sub _ (List.mem_of_getElem? (i := 7) rfl)
theorem kw328 : Cond.static ⟨"MeasureChoiceLaw", "lawful", "(LMeasureChoice;I[J)I"⟩ ∈ mcB := mcB_8_sub _ (List.mem_of_getElem? (i := 8) rfl)
theorem kw329 : Cond.codeWith ⟨"MeasureChoiceLaw", "lawful", "(LMeasureChoice;I[J)I"⟩ method_8_code 4 (some FieldType.int) [(0, 16, 19, 13)] ∈ mcB := mcB_8_sub _ (List.mem_of_getElem? (i := 9) rfl)
theorem kw330 : Cond.methodLink "MeasureChoiceLaw" 32 ⟨"MeasureChoice", "lawful", "(I)Z"⟩ ∈ mcB := mcB_8_sub _ (List.mem_of_getElem? (i := 10) rfl)
theorem kw331 : Cond.instanceMethod ⟨"MeasureChoice", "lawful", "(I)Z"⟩ ∈ mcB := mcB_8_sub _ (List.mem_of_getElem? (i := 11) rfl)
theorem kw332 : Cond.selects "MeasureChoice" ⟨"MeasureChoice", "lawful", "(I)Z"⟩ ⟨"MeasureChoice", "lawful", "(I)Z"⟩ ∈ mcB := mcB_8_sub _ (List.mem_of_getElem? (i := 12) rfl)
theorem kw333 : Cond.code ⟨"MeasureChoice", "lawful", "(I)Z"⟩ prog_1_method_7_code 2 (some FieldType.boolean) ∈ mcB := mcB_8_sub _ (List.mem_of_getElem? (i := 13) rfl)
theorem kw334 : Cond.methodLink "MeasureChoice" 88 ⟨"MeasureChoice", "requireSet", "(I)V"⟩ ∈ mcB := mcB_8_sub _ (List.mem_of_getElem? (i := 14) rfl)
theorem kw335 : Cond.instanceMethod ⟨"MeasureChoice", "requireSet", "(I)V"⟩ ∈ mcB := mcB_8_sub _ (List.mem_of_getElem? (i := 15) rfl)
theorem kw336 : Cond.code ⟨"MeasureChoice", "requireSet", "(I)V"⟩ prog_1_method_22_code 2 none ∈ mcB := mcB_8_sub _ (List.mem_of_getElem? (i := 16) rfl)
theorem kw337 : Cond.methodLink "MeasureChoice" 91 ⟨"MeasureChoice$House", "allows", "(I)Z"⟩ ∈ mcB := mcB_8_sub _ (List.mem_of_getElem? (i := 17) rfl)
theorem kw338 : Cond.methodLink "MeasureChoiceLaw" 94 ⟨"MeasureChoiceLaw", "told", "(LMeasureChoice;II[J)I"⟩ ∈ mcB := mcB_8_sub _ (List.mem_of_getElem? (i := 18) rfl)
theorem kw339 : Cond.static ⟨"MeasureChoiceLaw", "told", "(LMeasureChoice;II[J)I"⟩ ∈ mcB := mcB_8_sub _ (List.mem_of_getElem? (i := 19) rfl)
theorem kw340 : Cond.codeWith ⟨"MeasureChoiceLaw", "told", "(LMeasureChoice;II[J)I"⟩ method_9_code 5 (some FieldType.int) [(0, 10, 13, 13)] ∈ mcB := mcB_8_sub _ (List.mem_of_getElem? (i := 20) rfl)
theorem kw341 : Cond.methodLink "MeasureChoiceLaw" 36 ⟨"MeasureChoice", "told", "(II)I"⟩ ∈ mcB := mcB_8_sub _ (List.mem_of_getElem? (i := 21) rfl)
theorem kw342 : Cond.instanceMethod ⟨"MeasureChoice", "told", "(II)I"⟩ ∈ mcB := mcB_8_sub _ (List.mem_of_getElem? (i := 22) rfl)
theorem kw343 : Cond.selects "MeasureChoice" ⟨"MeasureChoice", "told", "(II)I"⟩ ⟨"MeasureChoice", "told", "(II)I"⟩ ∈ mcB := mcB_8_sub _ (List.mem_of_getElem? (i := 23) rfl)
theorem kw344 : Cond.code ⟨"MeasureChoice", "told", "(II)I"⟩ prog_1_method_8_code 3 (some FieldType.int) ∈ mcB := mcB_8_sub _ (List.mem_of_getElem? (i := 24) rfl)
theorem kw345 : Cond.methodLink "MeasureChoice" 95 ⟨"MeasureChoice$House", "costOf", "(I)I"⟩ ∈ mcB := mcB_8_sub _ (List.mem_of_getElem? (i := 25) rfl)
theorem kw346 : Cond.instanceMethod ⟨"MeasureChoice$House", "costOf", "(I)I"⟩ ∈ mcB := mcB_8_sub _ (List.mem_of_getElem? (i := 26) rfl)
theorem kw347 : Cond.selects "MeasureChoice$House" ⟨"MeasureChoice$House", "costOf", "(I)I"⟩ ⟨"MeasureChoice$House", "costOf", "(I)I"⟩ ∈ mcB := mcB_8_sub _ (List.mem_of_getElem? (i := 27) rfl)
theorem kw348 : Cond.code ⟨"MeasureChoice$House", "costOf", "(I)I"⟩ prog_2_method_8_code 4 (some FieldType.int) ∈ mcB := mcB_8_sub _ (List.mem_of_getElem? (i := 28) rfl)
theorem kw349 : Cond.methodLink "MeasureChoice" 99 ⟨"MeasureChoice$House", "gainOf", "(I)I"⟩ ∈ mcB := mcB_8_sub _ (List.mem_of_getElem? (i := 29) rfl)
theorem kw350 : Cond.instanceMethod ⟨"MeasureChoice$House", "gainOf", "(I)I"⟩ ∈ mcB := mcB_8_sub _ (List.mem_of_getElem? (i := 30) rfl)
theorem kw351 : Cond.selects "MeasureChoice$House" ⟨"MeasureChoice$House", "gainOf", "(I)I"⟩ ⟨"MeasureChoice$House", "gainOf", "(I)I"⟩ ∈ mcB := mcB_8_sub _ (List.mem_of_getElem? (i := 31) rfl)
theorem kw352 : Cond.code ⟨"MeasureChoice$House", "gainOf", "(I)I"⟩ prog_2_method_9_code 4 (some FieldType.int) ∈ mcB := mcB_8_sub _ (List.mem_of_getElem? (i := 32) rfl)
theorem kw353 : Cond.methodLink "MeasureChoice$House" 48 ⟨"MeasureChoice$House", "bonusWithEarlier", "(II)I"⟩ ∈ mcB := mcB_8_sub _ (List.mem_of_getElem? (i := 33) rfl)
theorem kw354 : Cond.instanceMethod ⟨"MeasureChoice$House", "bonusWithEarlier", "(II)I"⟩ ∈ mcB := mcB_8_sub _ (List.mem_of_getElem? (i := 34) rfl)
theorem kw355 : Cond.code ⟨"MeasureChoice$House", "bonusWithEarlier", "(II)I"⟩ prog_2_method_10_code 5 (some FieldType.int) ∈ mcB := mcB_8_sub _ (List.mem_of_getElem? (i := 35) rfl)
theorem kw356 : Cond.methodLink "MeasureChoiceLaw" 97 ⟨"MeasureChoiceLaw", "closure", "(LMeasureChoice;I[J)I"⟩ ∈ mcB := mcB_8_sub _ (List.mem_of_getElem? (i := 36) rfl)
theorem kw357 : Cond.static ⟨"MeasureChoiceLaw", "closure", "(LMeasureChoice;I[J)I"⟩ ∈ mcB := mcB_8_sub _ (List.mem_of_getElem? (i := 37) rfl)
theorem kw358 : Cond.codeWith ⟨"MeasureChoiceLaw", "closure", "(LMeasureChoice;I[J)I"⟩ method_10_code 4 (some FieldType.int) [(0, 9, 12, 13)] ∈ mcB := mcB_8_sub _ (List.mem_of_getElem? (i := 38) rfl)
theorem kw359 : Cond.methodLink "MeasureChoiceLaw" 39 ⟨"MeasureChoice", "closure", "(I)I"⟩ ∈ mcB := mcB_8_sub _ (List.mem_of_getElem? (i := 39) rfl)
theorem kw360 : Cond.instanceMethod ⟨"MeasureChoice", "closure", "(I)I"⟩ ∈ mcB := mcB_9_sub _ (List.mem_of_getElem? (i := 0) rfl)
theorem kw361 : Cond.selects "MeasureChoice" ⟨"MeasureChoice", "closure", "(I)I"⟩ ⟨"MeasureChoice", "closure", "(I)I"⟩ ∈ mcB := mcB_9_sub _ (List.mem_of_getElem? (i := 1) rfl)
theorem kw362 : Cond.code ⟨"MeasureChoice", "closure", "(I)I"⟩ prog_1_method_9_code 2 (some FieldType.int) ∈ mcB := mcB_9_sub _ (List.mem_of_getElem? (i := 2) rfl)
theorem kw363 : Cond.methodLink "MeasureChoice" 102 ⟨"MeasureChoice$House", "broughtBy", "(I)I"⟩ ∈ mcB := mcB_9_sub _ (List.mem_of_getElem? (i := 3) rfl)
theorem kw364 : Cond.instanceMethod ⟨"MeasureChoice$House", "broughtBy", "(I)I"⟩ ∈ mcB := mcB_9_sub _ (List.mem_of_getElem? (i := 4) rfl)
theorem kw365 : Cond.selects "MeasureChoice$House" ⟨"MeasureChoice$House", "broughtBy", "(I)I"⟩ ⟨"MeasureChoice$House", "broughtBy", "(I)I"⟩ ∈ mcB := mcB_9_sub _ (List.mem_of_getElem? (i := 5) rfl)
theorem kw366 : Cond.code ⟨"MeasureChoice$House", "broughtBy", "(I)I"⟩ prog_2_method_11_code 4 (some FieldType.int) ∈ mcB := mcB_9_sub _ (List.mem_of_getElem? (i := 6) rfl)
theorem kw367 : Cond.methodLink "MeasureChoice$House" 52 ⟨"MeasureChoice$House", "withItsNeeds", "(I)I"⟩ ∈ mcB := mcB_9_sub _ (List.mem_of_getElem? (i := 7) rfl)
theorem kw368 : Cond.instanceMethod ⟨"MeasureChoice$House", "withItsNeeds", "(I)I"⟩ ∈ mcB := mcB_9_sub _ (List.mem_of_getElem? (i := 8) rfl)
theorem kw369 : Cond.code ⟨"MeasureChoice$House", "withItsNeeds", "(I)I"⟩ prog_2_method_12_code 4 (some FieldType.int) ∈ mcB := mcB_9_sub _ (List.mem_of_getElem? (i := 9) rfl)
theorem kw370 : Cond.methodLink "MeasureChoiceLaw" 100 ⟨"MeasureChoiceLaw", "best", "(LMeasureChoice;I[J)I"⟩ ∈ mcB := mcB_9_sub _ (List.mem_of_getElem? (i := 10) rfl)
theorem kw371 : Cond.static ⟨"MeasureChoiceLaw", "best", "(LMeasureChoice;I[J)I"⟩ ∈ mcB := mcB_9_sub _ (List.mem_of_getElem? (i := 11) rfl)
theorem kw372 : Cond.codeWith ⟨"MeasureChoiceLaw", "best", "(LMeasureChoice;I[J)I"⟩ method_11_code 4 (some FieldType.int) [(0, 9, 12, 13)] ∈ mcB := mcB_9_sub _ (List.mem_of_getElem? (i := 12) rfl)
theorem kw373 : Cond.methodLink "MeasureChoiceLaw" 43 ⟨"MeasureChoice", "best", "(I)I"⟩ ∈ mcB := mcB_9_sub _ (List.mem_of_getElem? (i := 13) rfl)
theorem kw374 : Cond.instanceMethod ⟨"MeasureChoice", "best", "(I)I"⟩ ∈ mcB := mcB_9_sub _ (List.mem_of_getElem? (i := 14) rfl)
theorem kw375 : Cond.selects "MeasureChoice" ⟨"MeasureChoice", "best", "(I)I"⟩ ⟨"MeasureChoice", "best", "(I)I"⟩ ∈ mcB := mcB_9_sub _ (List.mem_of_getElem? (i := 15) rfl)
theorem kw376 : Cond.code ⟨"MeasureChoice", "best", "(I)I"⟩ prog_1_method_10_code 2 (some FieldType.int) ∈ mcB := mcB_9_sub _ (List.mem_of_getElem? (i := 16) rfl)
theorem kw377 : Cond.methodLink "MeasureChoice" 105 ⟨"MeasureChoice", "requireNotBelowZero", "(I)V"⟩ ∈ mcB := mcB_9_sub _ (List.mem_of_getElem? (i := 17) rfl)
theorem kw378 : Cond.static ⟨"MeasureChoice", "requireNotBelowZero", "(I)V"⟩ ∈ mcB := mcB_9_sub _ (List.mem_of_getElem? (i := 18) rfl)
theorem kw379 : Cond.code ⟨"MeasureChoice", "requireNotBelowZero", "(I)V"⟩ prog_1_method_18_code 1 none ∈ mcB := mcB_9_sub _ (List.mem_of_getElem? (i := 19) rfl)
theorem kw380 : Cond.methodLink "MeasureChoice" 112 ⟨"MeasureChoice$Ladder", "highestWithin", "(I)I"⟩ ∈ mcB := mcB_9_sub _ (List.mem_of_getElem? (i := 20) rfl)
theorem kw381 : Cond.instanceMethod ⟨"MeasureChoice$Ladder", "highestWithin", "(I)I"⟩ ∈ mcB := mcB_9_sub _ (List.mem_of_getElem? (i := 21) rfl)
theorem kw382 : Cond.selects "MeasureChoice$Ladder" ⟨"MeasureChoice$Ladder", "highestWithin", "(I)I"⟩ ⟨"MeasureChoice$Ladder", "highestWithin", "(I)I"⟩ ∈ mcB := mcB_9_sub _ (List.mem_of_getElem? (i := 22) rfl)
theorem kw383 : Cond.code ⟨"MeasureChoice$Ladder", "highestWithin", "(I)I"⟩ prog_3_method_5_code 4 (some FieldType.int) ∈ mcB := mcB_9_sub _ (List.mem_of_getElem? (i := 23) rfl)
theorem kw384 : Cond.methodLink "MeasureChoice" 115 ⟨"MeasureChoice$Ladder", "setAt", "(I)I"⟩ ∈ mcB := mcB_9_sub _ (List.mem_of_getElem? (i := 24) rfl)
theorem kw385 : Cond.methodLink "MeasureChoiceLaw" 107 ⟨"MeasureChoiceLaw", "worth", "(LMeasureChoice;II[J)I"⟩ ∈ mcB := mcB_9_sub _ (List.mem_of_getElem? (i := 25) rfl)
theorem kw386 : Cond.static ⟨"MeasureChoiceLaw", "worth", "(LMeasureChoice;II[J)I"⟩ ∈ mcB := mcB_9_sub _ (List.mem_of_getElem? (i := 26) rfl)
theorem kw387 : Cond.codeWith ⟨"MeasureChoiceLaw", "worth", "(LMeasureChoice;II[J)I"⟩ method_12_code 5 (some FieldType.int) [(0, 10, 13, 13)] ∈ mcB := mcB_9_sub _ (List.mem_of_getElem? (i := 27) rfl)
theorem kw388 : Cond.methodLink "MeasureChoiceLaw" 46 ⟨"MeasureChoice", "worth", "(II)I"⟩ ∈ mcB := mcB_9_sub _ (List.mem_of_getElem? (i := 28) rfl)
theorem kw389 : Cond.instanceMethod ⟨"MeasureChoice", "worth", "(II)I"⟩ ∈ mcB := mcB_9_sub _ (List.mem_of_getElem? (i := 29) rfl)
theorem kw390 : Cond.selects "MeasureChoice" ⟨"MeasureChoice", "worth", "(II)I"⟩ ⟨"MeasureChoice", "worth", "(II)I"⟩ ∈ mcB := mcB_9_sub _ (List.mem_of_getElem? (i := 30) rfl)
theorem kw391 : Cond.code ⟨"MeasureChoice", "worth", "(II)I"⟩ prog_1_method_12_code 4 (some FieldType.int) ∈ mcB := mcB_9_sub _ (List.mem_of_getElem? (i := 31) rfl)
theorem kw392 : Cond.constant "MeasureChoice" 124 (1000000 : Int32) ∈ mcB := mcB_9_sub _ (List.mem_of_getElem? (i := 32) rfl)
theorem kw393 : Cond.methodLink "MeasureChoice" 130 ⟨"MeasureChoice$Ladder", "gainAt", "(I)I"⟩ ∈ mcB := mcB_9_sub _ (List.mem_of_getElem? (i := 33) rfl)
theorem kw394 : Cond.methodLink "MeasureChoiceLaw" 110 ⟨"MeasureChoiceLaw", "frontier", "(LMeasureChoice;I[J)I"⟩ ∈ mcB := mcB_9_sub _ (List.mem_of_getElem? (i := 34) rfl)
theorem kw395 : Cond.static ⟨"MeasureChoiceLaw", "frontier", "(LMeasureChoice;I[J)I"⟩ ∈ mcB := mcB_9_sub _ (List.mem_of_getElem? (i := 35) rfl)
theorem kw396 : Cond.codeWith ⟨"MeasureChoiceLaw", "frontier", "(LMeasureChoice;I[J)I"⟩ method_13_code 4 (some FieldType.int) [(0, 9, 12, 13)] ∈ mcB := mcB_9_sub _ (List.mem_of_getElem? (i := 36) rfl)
theorem kw397 : Cond.methodLink "MeasureChoiceLaw" 49 ⟨"MeasureChoice", "frontier", "(I)I"⟩ ∈ mcB := mcB_9_sub _ (List.mem_of_getElem? (i := 37) rfl)
theorem kw398 : Cond.instanceMethod ⟨"MeasureChoice", "frontier", "(I)I"⟩ ∈ mcB := mcB_9_sub _ (List.mem_of_getElem? (i := 38) rfl)
theorem kw399 : Cond.selects "MeasureChoice" ⟨"MeasureChoice", "frontier", "(I)I"⟩ ⟨"MeasureChoice", "frontier", "(I)I"⟩ ∈ mcB := mcB_9_sub _ (List.mem_of_getElem? (i := 39) rfl)
theorem kw400 : Cond.code ⟨"MeasureChoice", "frontier", "(I)I"⟩ prog_1_method_13_code 2 (some FieldType.int) ∈ mcB := mcB_10_sub _ (List.mem_of_getElem? (i := 0) rfl)
theorem kw401 : Cond.methodLink "MeasureChoiceLaw" 113 ⟨"MeasureChoiceLaw", "year", "(LMeasureChoice;II[J)I"⟩ ∈ mcB := mcB_10_sub _ (List.mem_of_getElem? (i := 1) rfl)
theorem kw402 : Cond.static ⟨"MeasureChoiceLaw", "year", "(LMeasureChoice;II[J)I"⟩ ∈ mcB := mcB_10_sub _ (List.mem_of_getElem? (i := 2) rfl)
theorem kw403 : Cond.codeWith ⟨"MeasureChoiceLaw", "year", "(LMeasureChoice;II[J)I"⟩ method_14_code 5 (some FieldType.int) [(0, 10, 13, 13)] ∈ mcB := mcB_10_sub _ (List.mem_of_getElem? (i := 3) rfl)
theorem kw404 : Cond.methodLink "MeasureChoiceLaw" 52 ⟨"MeasureChoice", "year", "(II)I"⟩ ∈ mcB := mcB_10_sub _ (List.mem_of_getElem? (i := 4) rfl)
theorem kw405 : Cond.instanceMethod ⟨"MeasureChoice", "year", "(II)I"⟩ ∈ mcB := mcB_10_sub _ (List.mem_of_getElem? (i := 5) rfl)
theorem kw406 : Cond.selects "MeasureChoice" ⟨"MeasureChoice", "year", "(II)I"⟩ ⟨"MeasureChoice", "year", "(II)I"⟩ ∈ mcB := mcB_10_sub _ (List.mem_of_getElem? (i := 6) rfl)
theorem kw407 : Cond.code ⟨"MeasureChoice", "year", "(II)I"⟩ prog_1_method_14_code 4 (some FieldType.int) ∈ mcB := mcB_10_sub _ (List.mem_of_getElem? (i := 7) rfl)
theorem kw408 : Cond.constant "MeasureChoice" 136 (100000 : Int32) ∈ mcB := mcB_10_sub _ (List.mem_of_getElem? (i := 8) rfl)
theorem kw409 : Cond.methodLink "MeasureChoiceLaw" 116 ⟨"MeasureChoiceLaw", "plan", "(LMeasureChoice;II[J)I"⟩ ∈ mcB := mcB_10_sub _ (List.mem_of_getElem? (i := 9) rfl)
theorem kw410 : Cond.static ⟨"MeasureChoiceLaw", "plan", "(LMeasureChoice;II[J)I"⟩ ∈ mcB := mcB_10_sub _ (List.mem_of_getElem? (i := 10) rfl)
theorem kw411 : Cond.codeWith ⟨"MeasureChoiceLaw", "plan", "(LMeasureChoice;II[J)I"⟩ method_15_code 5 (some FieldType.int) [(0, 10, 13, 13)] ∈ mcB := mcB_10_sub _ (List.mem_of_getElem? (i := 11) rfl)
theorem kw412 : Cond.methodLink "MeasureChoiceLaw" 55 ⟨"MeasureChoice", "plan", "(II)I"⟩ ∈ mcB := mcB_10_sub _ (List.mem_of_getElem? (i := 12) rfl)
theorem kw413 : Cond.instanceMethod ⟨"MeasureChoice", "plan", "(II)I"⟩ ∈ mcB := mcB_10_sub _ (List.mem_of_getElem? (i := 13) rfl)
theorem kw414 : Cond.selects "MeasureChoice" ⟨"MeasureChoice", "plan", "(II)I"⟩ ⟨"MeasureChoice", "plan", "(II)I"⟩ ∈ mcB := mcB_10_sub _ (List.mem_of_getElem? (i := 14) rfl)
theorem kw415 : Cond.code ⟨"MeasureChoice", "plan", "(II)I"⟩ prog_1_method_15_code 3 (some FieldType.int) ∈ mcB := mcB_10_sub _ (List.mem_of_getElem? (i := 15) rfl)
theorem kw416 : Cond.methodLink "MeasureChoice" 140 ⟨"MeasureChoice$Planner", "work", "(LMeasureChoice$House;I)V"⟩ ∈ mcB := mcB_10_sub _ (List.mem_of_getElem? (i := 16) rfl)
theorem kw417 : Cond.instanceMethod ⟨"MeasureChoice$Planner", "work", "(LMeasureChoice$House;I)V"⟩ ∈ mcB := mcB_10_sub _ (List.mem_of_getElem? (i := 17) rfl)
theorem kw418 : Cond.selects "MeasureChoice$Planner" ⟨"MeasureChoice$Planner", "work", "(LMeasureChoice$House;I)V"⟩ ⟨"MeasureChoice$Planner", "work", "(LMeasureChoice$House;I)V"⟩ ∈ mcB := mcB_10_sub _ (List.mem_of_getElem? (i := 18) rfl)
theorem kw419 : Cond.code ⟨"MeasureChoice$Planner", "work", "(LMeasureChoice$House;I)V"⟩ prog_4_method_2_code 4 none ∈ mcB := mcB_10_sub _ (List.mem_of_getElem? (i := 19) rfl)
theorem kw420 : Cond.methodLink "MeasureChoice$Planner" 32 ⟨"MeasureChoice$Planner", "fillPurses", "()V"⟩ ∈ mcB := mcB_10_sub _ (List.mem_of_getElem? (i := 20) rfl)
theorem kw421 : Cond.instanceMethod ⟨"MeasureChoice$Planner", "fillPurses", "()V"⟩ ∈ mcB := mcB_10_sub _ (List.mem_of_getElem? (i := 21) rfl)
theorem kw422 : Cond.code ⟨"MeasureChoice$Planner", "fillPurses", "()V"⟩ prog_4_method_4_code 3 none ∈ mcB := mcB_10_sub _ (List.mem_of_getElem? (i := 22) rfl)
theorem kw423 : Cond.methodLink "MeasureChoice$Planner" 35 ⟨"MeasureChoice$Planner", "judgeSets", "(LMeasureChoice$House;)V"⟩ ∈ mcB := mcB_10_sub _ (List.mem_of_getElem? (i := 23) rfl)
theorem kw424 : Cond.instanceMethod ⟨"MeasureChoice$Planner", "judgeSets", "(LMeasureChoice$House;)V"⟩ ∈ mcB := mcB_10_sub _ (List.mem_of_getElem? (i := 24) rfl)
theorem kw425 : Cond.code ⟨"MeasureChoice$Planner", "judgeSets", "(LMeasureChoice$House;)V"⟩ prog_4_method_5_code 3 none ∈ mcB := mcB_10_sub _ (List.mem_of_getElem? (i := 25) rfl)
theorem kw426 : Cond.methodLink "MeasureChoice$Planner" 53 ⟨"java/lang/Math", "min", "(II)I"⟩ ∈ mcB := mcB_10_sub _ (List.mem_of_getElem? (i := 26) rfl)
theorem kw427 : Cond.static ⟨"java/lang/Math", "min", "(II)I"⟩ ∈ mcB := mcB_10_sub _ (List.mem_of_getElem? (i := 27) rfl)
theorem kw428 : Cond.code ⟨"java/lang/Math", "min", "(II)I"⟩ prog_10_method_69_code 2 (some FieldType.int) ∈ mcB := mcB_10_sub _ (List.mem_of_getElem? (i := 28) rfl)
theorem kw429 : Cond.methodLink "MeasureChoice$Planner" 61 ⟨"MeasureChoice$House", "allows", "(I)Z"⟩ ∈ mcB := mcB_10_sub _ (List.mem_of_getElem? (i := 29) rfl)
theorem kw430 : Cond.methodLink "MeasureChoice$Planner" 65 ⟨"MeasureChoice$House", "costOf", "(I)I"⟩ ∈ mcB := mcB_10_sub _ (List.mem_of_getElem? (i := 30) rfl)
theorem kw431 : Cond.constant "MeasureChoice$Planner" 69 (400001 : Int32) ∈ mcB := mcB_10_sub _ (List.mem_of_getElem? (i := 31) rfl)
theorem kw432 : Cond.methodLink "MeasureChoice$Planner" 70 ⟨"MeasureChoice$House", "gainOf", "(I)I"⟩ ∈ mcB := mcB_10_sub _ (List.mem_of_getElem? (i := 32) rfl)
theorem kw433 : Cond.methodLink "MeasureChoice$Planner" 39 ⟨"MeasureChoice$Planner", "workYear", "(IZ)V"⟩ ∈ mcB := mcB_10_sub _ (List.mem_of_getElem? (i := 33) rfl)
theorem kw434 : Cond.instanceMethod ⟨"MeasureChoice$Planner", "workYear", "(IZ)V"⟩ ∈ mcB := mcB_10_sub _ (List.mem_of_getElem? (i := 34) rfl)
theorem kw435 : Cond.code ⟨"MeasureChoice$Planner", "workYear", "(IZ)V"⟩ prog_4_method_6_code 5 none ∈ mcB := mcB_10_sub _ (List.mem_of_getElem? (i := 35) rfl)
theorem kw436 : Cond.methodLink "MeasureChoice$Planner" 43 ⟨"MeasureChoice$Planner", "bestFrom", "(II)I"⟩ ∈ mcB := mcB_10_sub _ (List.mem_of_getElem? (i := 36) rfl)
theorem kw437 : Cond.instanceMethod ⟨"MeasureChoice$Planner", "bestFrom", "(II)I"⟩ ∈ mcB := mcB_10_sub _ (List.mem_of_getElem? (i := 37) rfl)
theorem kw438 : Cond.code ⟨"MeasureChoice$Planner", "bestFrom", "(II)I"⟩ prog_4_method_7_code 5 (some FieldType.int) ∈ mcB := mcB_10_sub _ (List.mem_of_getElem? (i := 38) rfl)
theorem kw439 : Cond.methodLink "MeasureChoice$Planner" 73 ⟨"MeasureChoice$Planner", "isBetter", "(III)Z"⟩ ∈ mcB := mcB_10_sub _ (List.mem_of_getElem? (i := 39) rfl)
theorem kw440 : Cond.instanceMethod ⟨"MeasureChoice$Planner", "isBetter", "(III)Z"⟩ ∈ mcB := mcB_11_sub _ (List.mem_of_getElem? (i := 0) rfl)
theorem kw441 : Cond.code ⟨"MeasureChoice$Planner", "isBetter", "(III)Z"⟩ prog_4_method_8_code 4 (some FieldType.boolean) ∈ mcB := mcB_11_sub _ (List.mem_of_getElem? (i := 1) rfl)
theorem kw442 : Cond.methodLink "MeasureChoice" 144 ⟨"MeasureChoice$Planner", "boughtUpTo", "(I)I"⟩ ∈ mcB := mcB_11_sub _ (List.mem_of_getElem? (i := 2) rfl)
theorem kw443 : Cond.instanceMethod ⟨"MeasureChoice$Planner", "boughtUpTo", "(I)I"⟩ ∈ mcB := mcB_11_sub _ (List.mem_of_getElem? (i := 3) rfl)
theorem kw444 : Cond.selects "MeasureChoice$Planner" ⟨"MeasureChoice$Planner", "boughtUpTo", "(I)I"⟩ ⟨"MeasureChoice$Planner", "boughtUpTo", "(I)I"⟩ ∈ mcB := mcB_11_sub _ (List.mem_of_getElem? (i := 4) rfl)
theorem kw445 : Cond.code ⟨"MeasureChoice$Planner", "boughtUpTo", "(I)I"⟩ prog_4_method_3_code 4 (some FieldType.int) ∈ mcB := mcB_11_sub _ (List.mem_of_getElem? (i := 5) rfl)
theorem kw446 : Cond.methodLink "MeasureChoiceLaw" 119 ⟨"MeasureChoiceLaw", "planned", "(LMeasureChoice;I[J)I"⟩ ∈ mcB := mcB_11_sub _ (List.mem_of_getElem? (i := 6) rfl)
theorem kw447 : Cond.static ⟨"MeasureChoiceLaw", "planned", "(LMeasureChoice;I[J)I"⟩ ∈ mcB := mcB_11_sub _ (List.mem_of_getElem? (i := 7) rfl)
theorem kw448 : Cond.codeWith ⟨"MeasureChoiceLaw", "planned", "(LMeasureChoice;I[J)I"⟩ method_16_code 4 (some FieldType.int) [(0, 9, 12, 13)] ∈ mcB := mcB_11_sub _ (List.mem_of_getElem? (i := 8) rfl)
theorem kw449 : Cond.methodLink "MeasureChoiceLaw" 58 ⟨"MeasureChoice", "planned", "(I)I"⟩ ∈ mcB := mcB_11_sub _ (List.mem_of_getElem? (i := 9) rfl)
theorem kw450 : Cond.instanceMethod ⟨"MeasureChoice", "planned", "(I)I"⟩ ∈ mcB := mcB_11_sub _ (List.mem_of_getElem? (i := 10) rfl)
theorem kw451 : Cond.selects "MeasureChoice" ⟨"MeasureChoice", "planned", "(I)I"⟩ ⟨"MeasureChoice", "planned", "(I)I"⟩ ∈ mcB := mcB_11_sub _ (List.mem_of_getElem? (i := 11) rfl)
theorem kw452 : Cond.code ⟨"MeasureChoice", "planned", "(I)I"⟩ prog_1_method_16_code 2 (some FieldType.int) ∈ mcB := mcB_11_sub _ (List.mem_of_getElem? (i := 12) rfl)
theorem kw453 : Cond.classLink "MeasureChoiceLaw" 62 "MeasureChoiceModel" ∈ mcB := mcB_11_sub _ (List.mem_of_getElem? (i := 13) rfl)
theorem kw454 : Cond.instantiable "MeasureChoiceModel" 11 ∈ mcB := mcB_11_sub _ (List.mem_of_getElem? (i := 14) rfl)
theorem kw455 : Cond.methodLink "MeasureChoiceLaw" 64 ⟨"MeasureChoiceModel", "<init>", "()V"⟩ ∈ mcB := mcB_11_sub _ (List.mem_of_getElem? (i := 15) rfl)
theorem kw456 : Cond.instanceMethod ⟨"MeasureChoiceModel", "<init>", "()V"⟩ ∈ mcB := mcB_11_sub _ (List.mem_of_getElem? (i := 16) rfl)
theorem kw457 : Cond.code ⟨"MeasureChoiceModel", "<init>", "()V"⟩ prog_6_method_1_code 1 none ∈ mcB := mcB_11_sub _ (List.mem_of_getElem? (i := 17) rfl)
theorem kw458 : Cond.methodLink "MeasureChoiceModel" 1 ⟨"java/lang/Object", "<init>", "()V"⟩ ∈ mcB := mcB_11_sub _ (List.mem_of_getElem? (i := 18) rfl)
theorem kw459 : Cond.fieldLink "MeasureChoiceModel" 38 "MeasureChoiceModel" "thrown" "I" ∈ mcB := mcB_11_sub _ (List.mem_of_getElem? (i := 19) rfl)
theorem kw460 : Cond.fieldLink "MeasureChoiceModel" 42 "MeasureChoiceModel" "many" "I" ∈ mcB := mcB_11_sub _ (List.mem_of_getElem? (i := 20) rfl)
theorem kw461 : Cond.fieldLink "MeasureChoiceModel" 7 "MeasureChoiceModel" "costs" "[I" ∈ mcB := mcB_11_sub _ (List.mem_of_getElem? (i := 21) rfl)
theorem kw462 : Cond.fieldLink "MeasureChoiceModel" 13 "MeasureChoiceModel" "gains" "[I" ∈ mcB := mcB_11_sub _ (List.mem_of_getElem? (i := 22) rfl)
theorem kw463 : Cond.fieldLink "MeasureChoiceModel" 16 "MeasureChoiceModel" "barred" "[Z" ∈ mcB := mcB_11_sub _ (List.mem_of_getElem? (i := 23) rfl)
theorem kw464 : Cond.fieldLink "MeasureChoiceModel" 20 "MeasureChoiceModel" "wants" "[Z" ∈ mcB := mcB_11_sub _ (List.mem_of_getElem? (i := 24) rfl)
theorem kw465 : Cond.fieldLink "MeasureChoiceModel" 23 "MeasureChoiceModel" "bonuses" "[I" ∈ mcB := mcB_11_sub _ (List.mem_of_getElem? (i := 25) rfl)
theorem kw466 : Cond.fieldLink "MeasureChoiceModel" 26 "MeasureChoiceModel" "budgets" "[I" ∈ mcB := mcB_11_sub _ (List.mem_of_getElem? (i := 26) rfl)
theorem kw467 : Cond.fieldLink "MeasureChoiceModel" 29 "MeasureChoiceModel" "laterGain" "[I" ∈ mcB := mcB_11_sub _ (List.mem_of_getElem? (i := 27) rfl)
theorem kw468 : Cond.fieldLink "MeasureChoiceModel" 32 "MeasureChoiceModel" "laterCost" "[I" ∈ mcB := mcB_11_sub _ (List.mem_of_getElem? (i := 28) rfl)
theorem kw469 : Cond.fieldLink "MeasureChoiceModel" 35 "MeasureChoiceModel" "choice" "[I" ∈ mcB := mcB_11_sub _ (List.mem_of_getElem? (i := 29) rfl)
theorem kw470 : Cond.lays "MeasureChoiceModel" "MeasureChoiceModel" "thrown" "I" ∈ mcB := mcB_11_sub _ (List.mem_of_getElem? (i := 30) rfl)
theorem kw471 : Cond.soleField "MeasureChoiceModel" "thrown" ∈ mcB := mcB_11_sub _ (List.mem_of_getElem? (i := 31) rfl)
theorem kw472 : Cond.lays "MeasureChoiceModel" "MeasureChoiceModel" "many" "I" ∈ mcB := mcB_11_sub _ (List.mem_of_getElem? (i := 32) rfl)
theorem kw473 : Cond.soleField "MeasureChoiceModel" "many" ∈ mcB := mcB_11_sub _ (List.mem_of_getElem? (i := 33) rfl)
theorem kw474 : Cond.laysFinal "MeasureChoiceModel" "MeasureChoiceModel" "costs" "[I" ∈ mcB := mcB_11_sub _ (List.mem_of_getElem? (i := 34) rfl)
theorem kw475 : Cond.soleField "MeasureChoiceModel" "costs" ∈ mcB := mcB_11_sub _ (List.mem_of_getElem? (i := 35) rfl)
theorem kw476 : Cond.laysFinal "MeasureChoiceModel" "MeasureChoiceModel" "gains" "[I" ∈ mcB := mcB_11_sub _ (List.mem_of_getElem? (i := 36) rfl)
theorem kw477 : Cond.soleField "MeasureChoiceModel" "gains" ∈ mcB := mcB_11_sub _ (List.mem_of_getElem? (i := 37) rfl)
theorem kw478 : Cond.laysFinal "MeasureChoiceModel" "MeasureChoiceModel" "barred" "[Z" ∈ mcB := mcB_11_sub _ (List.mem_of_getElem? (i := 38) rfl)
theorem kw479 : Cond.soleField "MeasureChoiceModel" "barred" ∈ mcB := mcB_11_sub _ (List.mem_of_getElem? (i := 39) rfl)
theorem kw480 : Cond.laysFinal "MeasureChoiceModel" "MeasureChoiceModel" "wants" "[Z" ∈ mcB := mcB_12_sub _ (List.mem_of_getElem? (i := 0) rfl)
theorem kw481 : Cond.soleField "MeasureChoiceModel" "wants" ∈ mcB := mcB_12_sub _ (List.mem_of_getElem? (i := 1) rfl)
theorem kw482 : Cond.laysFinal "MeasureChoiceModel" "MeasureChoiceModel" "bonuses" "[I" ∈ mcB := mcB_12_sub _ (List.mem_of_getElem? (i := 2) rfl)
theorem kw483 : Cond.soleField "MeasureChoiceModel" "bonuses" ∈ mcB := mcB_12_sub _ (List.mem_of_getElem? (i := 3) rfl)
theorem kw484 : Cond.laysFinal "MeasureChoiceModel" "MeasureChoiceModel" "budgets" "[I" ∈ mcB := mcB_12_sub _ (List.mem_of_getElem? (i := 4) rfl)
theorem kw485 : Cond.soleField "MeasureChoiceModel" "budgets" ∈ mcB := mcB_12_sub _ (List.mem_of_getElem? (i := 5) rfl)
theorem kw486 : Cond.laysFinal "MeasureChoiceModel" "MeasureChoiceModel" "laterGain" "[I" ∈ mcB := mcB_12_sub _ (List.mem_of_getElem? (i := 6) rfl)
theorem kw487 : Cond.soleField "MeasureChoiceModel" "laterGain" ∈ mcB := mcB_12_sub _ (List.mem_of_getElem? (i := 7) rfl)
theorem kw488 : Cond.laysFinal "MeasureChoiceModel" "MeasureChoiceModel" "laterCost" "[I" ∈ mcB := mcB_12_sub _ (List.mem_of_getElem? (i := 8) rfl)
theorem kw489 : Cond.soleField "MeasureChoiceModel" "laterCost" ∈ mcB := mcB_12_sub _ (List.mem_of_getElem? (i := 9) rfl)
theorem kw490 : Cond.laysFinal "MeasureChoiceModel" "MeasureChoiceModel" "choice" "[I" ∈ mcB := mcB_12_sub _ (List.mem_of_getElem? (i := 10) rfl)
theorem kw491 : Cond.soleField "MeasureChoiceModel" "choice" ∈ mcB := mcB_12_sub _ (List.mem_of_getElem? (i := 11) rfl)
theorem kw492 : Cond.superclass "MeasureChoiceModel" "java/lang/Object" ∈ mcB := mcB_12_sub _ (List.mem_of_getElem? (i := 12) rfl)
theorem kw493 : Cond.arrayClass FieldType.boolean ∈ mcB := mcB_12_sub _ (List.mem_of_getElem? (i := 13) rfl)
theorem kw494 : Cond.methodLink "MeasureChoiceLaw" 71 ⟨"MeasureChoiceModel", "thrown", "()I"⟩ ∈ mcB := mcB_12_sub _ (List.mem_of_getElem? (i := 14) rfl)
theorem kw495 : Cond.instanceMethod ⟨"MeasureChoiceModel", "thrown", "()I"⟩ ∈ mcB := mcB_12_sub _ (List.mem_of_getElem? (i := 15) rfl)
theorem kw496 : Cond.selects "MeasureChoiceModel" ⟨"MeasureChoiceModel", "thrown", "()I"⟩ ⟨"MeasureChoiceModel", "thrown", "()I"⟩ ∈ mcB := mcB_12_sub _ (List.mem_of_getElem? (i := 16) rfl)
theorem kw497 : Cond.code ⟨"MeasureChoiceModel", "thrown", "()I"⟩ prog_6_method_2_code 1 (some FieldType.int) ∈ mcB := mcB_12_sub _ (List.mem_of_getElem? (i := 17) rfl)
theorem kw498 : Cond.methodLink "MeasureChoiceLaw" 70 ⟨"MeasureChoiceModel", "measure", "(II)I"⟩ ∈ mcB := mcB_12_sub _ (List.mem_of_getElem? (i := 18) rfl)
theorem kw499 : Cond.instanceMethod ⟨"MeasureChoiceModel", "measure", "(II)I"⟩ ∈ mcB := mcB_12_sub _ (List.mem_of_getElem? (i := 19) rfl)
theorem kw500 : Cond.selects "MeasureChoiceModel" ⟨"MeasureChoiceModel", "measure", "(II)I"⟩ ⟨"MeasureChoiceModel", "measure", "(II)I"⟩ ∈ mcB := mcB_12_sub _ (List.mem_of_getElem? (i := 20) rfl)
theorem kw501 : Cond.code ⟨"MeasureChoiceModel", "measure", "(II)I"⟩ prog_6_method_6_code 3 (some FieldType.int) ∈ mcB := mcB_12_sub _ (List.mem_of_getElem? (i := 21) rfl)
theorem kw502 : Cond.methodLink "MeasureChoiceModel" 45 ⟨"MeasureChoiceModel", "in", "(III)Z"⟩ ∈ mcB := mcB_12_sub _ (List.mem_of_getElem? (i := 22) rfl)
theorem kw503 : Cond.static ⟨"MeasureChoiceModel", "in", "(III)Z"⟩ ∈ mcB := mcB_12_sub _ (List.mem_of_getElem? (i := 23) rfl)
theorem kw504 : Cond.code ⟨"MeasureChoiceModel", "in", "(III)Z"⟩ prog_6_method_3_code 3 (some FieldType.boolean) ∈ mcB := mcB_12_sub _ (List.mem_of_getElem? (i := 24) rfl)
theorem kw505 : Cond.methodLink "MeasureChoiceModel" 49 ⟨"MeasureChoiceModel", "good", "(Z)Z"⟩ ∈ mcB := mcB_12_sub _ (List.mem_of_getElem? (i := 25) rfl)
theorem kw506 : Cond.instanceMethod ⟨"MeasureChoiceModel", "good", "(Z)Z"⟩ ∈ mcB := mcB_12_sub _ (List.mem_of_getElem? (i := 26) rfl)
theorem kw507 : Cond.code ⟨"MeasureChoiceModel", "good", "(Z)Z"⟩ prog_6_method_5_code 2 (some FieldType.boolean) ∈ mcB := mcB_12_sub _ (List.mem_of_getElem? (i := 27) rfl)
theorem kw508 : Cond.methodLink "MeasureChoiceLaw" 78 ⟨"MeasureChoiceModel", "change", "(III)V"⟩ ∈ mcB := mcB_12_sub _ (List.mem_of_getElem? (i := 28) rfl)
theorem kw509 : Cond.instanceMethod ⟨"MeasureChoiceModel", "change", "(III)V"⟩ ∈ mcB := mcB_12_sub _ (List.mem_of_getElem? (i := 29) rfl)
theorem kw510 : Cond.selects "MeasureChoiceModel" ⟨"MeasureChoiceModel", "change", "(III)V"⟩ ⟨"MeasureChoiceModel", "change", "(III)V"⟩ ∈ mcB := mcB_12_sub _ (List.mem_of_getElem? (i := 30) rfl)
theorem kw511 : Cond.code ⟨"MeasureChoiceModel", "change", "(III)V"⟩ prog_6_method_7_code 4 none ∈ mcB := mcB_12_sub _ (List.mem_of_getElem? (i := 31) rfl)
theorem kw512 : Cond.methodLink "MeasureChoiceModel" 53 ⟨"MeasureChoiceModel", "is", "(I)Z"⟩ ∈ mcB := mcB_12_sub _ (List.mem_of_getElem? (i := 32) rfl)
theorem kw513 : Cond.instanceMethod ⟨"MeasureChoiceModel", "is", "(I)Z"⟩ ∈ mcB := mcB_12_sub _ (List.mem_of_getElem? (i := 33) rfl)
theorem kw514 : Cond.code ⟨"MeasureChoiceModel", "is", "(I)Z"⟩ prog_6_method_4_code 2 (some FieldType.boolean) ∈ mcB := mcB_12_sub _ (List.mem_of_getElem? (i := 34) rfl)
theorem kw515 : Cond.methodLink "MeasureChoiceLaw" 82 ⟨"MeasureChoiceModel", "exclude", "(IIZ)Z"⟩ ∈ mcB := mcB_12_sub _ (List.mem_of_getElem? (i := 35) rfl)
theorem kw516 : Cond.instanceMethod ⟨"MeasureChoiceModel", "exclude", "(IIZ)Z"⟩ ∈ mcB := mcB_12_sub _ (List.mem_of_getElem? (i := 36) rfl)
theorem kw517 : Cond.selects "MeasureChoiceModel" ⟨"MeasureChoiceModel", "exclude", "(IIZ)Z"⟩ ⟨"MeasureChoiceModel", "exclude", "(IIZ)Z"⟩ ∈ mcB := mcB_12_sub _ (List.mem_of_getElem? (i := 37) rfl)
theorem kw518 : Cond.code ⟨"MeasureChoiceModel", "exclude", "(IIZ)Z"⟩ prog_6_method_8_code 5 (some FieldType.boolean) ∈ mcB := mcB_12_sub _ (List.mem_of_getElem? (i := 38) rfl)
theorem kw519 : Cond.methodLink "MeasureChoiceLaw" 85 ⟨"MeasureChoiceModel", "needs", "(IIZ)Z"⟩ ∈ mcB := mcB_12_sub _ (List.mem_of_getElem? (i := 39) rfl)
theorem kw520 : Cond.instanceMethod ⟨"MeasureChoiceModel", "needs", "(IIZ)Z"⟩ ∈ mcB := mcB_13_sub _ (List.mem_of_getElem? (i := 0) rfl)
theorem kw521 : Cond.selects "MeasureChoiceModel" ⟨"MeasureChoiceModel", "needs", "(IIZ)Z"⟩ ⟨"MeasureChoiceModel", "needs", "(IIZ)Z"⟩ ∈ mcB := mcB_13_sub _ (List.mem_of_getElem? (i := 1) rfl)
theorem kw522 : Cond.code ⟨"MeasureChoiceModel", "needs", "(IIZ)Z"⟩ prog_6_method_9_code 5 (some FieldType.boolean) ∈ mcB := mcB_13_sub _ (List.mem_of_getElem? (i := 2) rfl)
theorem kw523 : Cond.methodLink "MeasureChoiceLaw" 89 ⟨"MeasureChoiceModel", "bonus", "(III)I"⟩ ∈ mcB := mcB_13_sub _ (List.mem_of_getElem? (i := 3) rfl)
theorem kw524 : Cond.instanceMethod ⟨"MeasureChoiceModel", "bonus", "(III)I"⟩ ∈ mcB := mcB_13_sub _ (List.mem_of_getElem? (i := 4) rfl)
theorem kw525 : Cond.selects "MeasureChoiceModel" ⟨"MeasureChoiceModel", "bonus", "(III)I"⟩ ⟨"MeasureChoiceModel", "bonus", "(III)I"⟩ ∈ mcB := mcB_13_sub _ (List.mem_of_getElem? (i := 5) rfl)
theorem kw526 : Cond.code ⟨"MeasureChoiceModel", "bonus", "(III)I"⟩ prog_6_method_10_code 5 (some FieldType.int) ∈ mcB := mcB_13_sub _ (List.mem_of_getElem? (i := 6) rfl)
theorem kw527 : Cond.methodLink "MeasureChoiceLaw" 93 ⟨"MeasureChoiceModel", "lawful", "(I)Z"⟩ ∈ mcB := mcB_13_sub _ (List.mem_of_getElem? (i := 7) rfl)
theorem kw528 : Cond.instanceMethod ⟨"MeasureChoiceModel", "lawful", "(I)Z"⟩ ∈ mcB := mcB_13_sub _ (List.mem_of_getElem? (i := 8) rfl)
theorem kw529 : Cond.selects "MeasureChoiceModel" ⟨"MeasureChoiceModel", "lawful", "(I)Z"⟩ ⟨"MeasureChoiceModel", "lawful", "(I)Z"⟩ ∈ mcB := mcB_13_sub _ (List.mem_of_getElem? (i := 9) rfl)
theorem kw530 : Cond.code ⟨"MeasureChoiceModel", "lawful", "(I)Z"⟩ prog_6_method_16_code 2 (some FieldType.boolean) ∈ mcB := mcB_13_sub _ (List.mem_of_getElem? (i := 10) rfl)
theorem kw531 : Cond.methodLink "MeasureChoiceModel" 61 ⟨"MeasureChoiceModel", "isSet", "(I)Z"⟩ ∈ mcB := mcB_13_sub _ (List.mem_of_getElem? (i := 11) rfl)
theorem kw532 : Cond.instanceMethod ⟨"MeasureChoiceModel", "isSet", "(I)Z"⟩ ∈ mcB := mcB_13_sub _ (List.mem_of_getElem? (i := 12) rfl)
theorem kw533 : Cond.code ⟨"MeasureChoiceModel", "isSet", "(I)Z"⟩ prog_6_method_12_code 2 (some FieldType.boolean) ∈ mcB := mcB_13_sub _ (List.mem_of_getElem? (i := 13) rfl)
theorem kw534 : Cond.methodLink "MeasureChoiceModel" 64 ⟨"MeasureChoiceModel", "holds", "(I)Z"⟩ ∈ mcB := mcB_13_sub _ (List.mem_of_getElem? (i := 14) rfl)
theorem kw535 : Cond.instanceMethod ⟨"MeasureChoiceModel", "holds", "(I)Z"⟩ ∈ mcB := mcB_13_sub _ (List.mem_of_getElem? (i := 15) rfl)
theorem kw536 : Cond.code ⟨"MeasureChoiceModel", "holds", "(I)Z"⟩ prog_6_method_13_code 5 (some FieldType.boolean) ∈ mcB := mcB_13_sub _ (List.mem_of_getElem? (i := 16) rfl)
theorem kw537 : Cond.methodLink "MeasureChoiceModel" 57 ⟨"MeasureChoiceModel", "has", "(II)Z"⟩ ∈ mcB := mcB_13_sub _ (List.mem_of_getElem? (i := 17) rfl)
theorem kw538 : Cond.static ⟨"MeasureChoiceModel", "has", "(II)Z"⟩ ∈ mcB := mcB_13_sub _ (List.mem_of_getElem? (i := 18) rfl)
theorem kw539 : Cond.code ⟨"MeasureChoiceModel", "has", "(II)Z"⟩ prog_6_method_11_code 2 (some FieldType.boolean) ∈ mcB := mcB_13_sub _ (List.mem_of_getElem? (i := 19) rfl)
theorem kw540 : Cond.methodLink "MeasureChoiceLaw" 96 ⟨"MeasureChoiceModel", "told", "(II)I"⟩ ∈ mcB := mcB_13_sub _ (List.mem_of_getElem? (i := 20) rfl)
theorem kw541 : Cond.instanceMethod ⟨"MeasureChoiceModel", "told", "(II)I"⟩ ∈ mcB := mcB_13_sub _ (List.mem_of_getElem? (i := 21) rfl)
theorem kw542 : Cond.selects "MeasureChoiceModel" ⟨"MeasureChoiceModel", "told", "(II)I"⟩ ⟨"MeasureChoiceModel", "told", "(II)I"⟩ ∈ mcB := mcB_13_sub _ (List.mem_of_getElem? (i := 22) rfl)
theorem kw543 : Cond.code ⟨"MeasureChoiceModel", "told", "(II)I"⟩ prog_6_method_17_code 3 (some FieldType.int) ∈ mcB := mcB_13_sub _ (List.mem_of_getElem? (i := 23) rfl)
theorem kw544 : Cond.methodLink "MeasureChoiceModel" 67 ⟨"MeasureChoiceModel", "costOf", "(I)I"⟩ ∈ mcB := mcB_13_sub _ (List.mem_of_getElem? (i := 24) rfl)
theorem kw545 : Cond.instanceMethod ⟨"MeasureChoiceModel", "costOf", "(I)I"⟩ ∈ mcB := mcB_13_sub _ (List.mem_of_getElem? (i := 25) rfl)
theorem kw546 : Cond.code ⟨"MeasureChoiceModel", "costOf", "(I)I"⟩ prog_6_method_14_code 4 (some FieldType.int) ∈ mcB := mcB_13_sub _ (List.mem_of_getElem? (i := 26) rfl)
theorem kw547 : Cond.methodLink "MeasureChoiceModel" 71 ⟨"MeasureChoiceModel", "gainOf", "(I)I"⟩ ∈ mcB := mcB_13_sub _ (List.mem_of_getElem? (i := 27) rfl)
theorem kw548 : Cond.instanceMethod ⟨"MeasureChoiceModel", "gainOf", "(I)I"⟩ ∈ mcB := mcB_13_sub _ (List.mem_of_getElem? (i := 28) rfl)
theorem kw549 : Cond.code ⟨"MeasureChoiceModel", "gainOf", "(I)I"⟩ prog_6_method_15_code 5 (some FieldType.int) ∈ mcB := mcB_13_sub _ (List.mem_of_getElem? (i := 29) rfl)
theorem kw550 : Cond.methodLink "MeasureChoiceLaw" 99 ⟨"MeasureChoiceModel", "closure", "(I)I"⟩ ∈ mcB := mcB_13_sub _ (List.mem_of_getElem? (i := 30) rfl)
theorem kw551 : Cond.instanceMethod ⟨"MeasureChoiceModel", "closure", "(I)I"⟩ ∈ mcB := mcB_13_sub _ (List.mem_of_getElem? (i := 31) rfl)
theorem kw552 : Cond.selects "MeasureChoiceModel" ⟨"MeasureChoiceModel", "closure", "(I)I"⟩ ⟨"MeasureChoiceModel", "closure", "(I)I"⟩ ∈ mcB := mcB_13_sub _ (List.mem_of_getElem? (i := 32) rfl)
theorem kw553 : Cond.code ⟨"MeasureChoiceModel", "closure", "(I)I"⟩ prog_6_method_18_code 6 (some FieldType.int) ∈ mcB := mcB_13_sub _ (List.mem_of_getElem? (i := 33) rfl)
theorem kw554 : Cond.methodLink "MeasureChoiceLaw" 102 ⟨"MeasureChoiceModel", "best", "(I)I"⟩ ∈ mcB := mcB_13_sub _ (List.mem_of_getElem? (i := 34) rfl)
theorem kw555 : Cond.instanceMethod ⟨"MeasureChoiceModel", "best", "(I)I"⟩ ∈ mcB := mcB_13_sub _ (List.mem_of_getElem? (i := 35) rfl)
theorem kw556 : Cond.selects "MeasureChoiceModel" ⟨"MeasureChoiceModel", "best", "(I)I"⟩ ⟨"MeasureChoiceModel", "best", "(I)I"⟩ ∈ mcB := mcB_13_sub _ (List.mem_of_getElem? (i := 36) rfl)
theorem kw557 : Cond.code ⟨"MeasureChoiceModel", "best", "(I)I"⟩ prog_6_method_20_code 2 (some FieldType.int) ∈ mcB := mcB_13_sub _ (List.mem_of_getElem? (i := 37) rfl)
theorem kw558 : Cond.methodLink "MeasureChoiceModel" 74 ⟨"MeasureChoiceModel", "bestOf", "(J)I"⟩ ∈ mcB := mcB_13_sub _ (List.mem_of_getElem? (i := 38) rfl)
theorem kw559 : Cond.instanceMethod ⟨"MeasureChoiceModel", "bestOf", "(J)I"⟩ ∈ mcB := mcB_13_sub _ (List.mem_of_getElem? (i := 39) rfl)
theorem kw560 : Cond.code ⟨"MeasureChoiceModel", "bestOf", "(J)I"⟩ prog_6_method_19_code 10 (some FieldType.int) ∈ mcB := mcB_14_sub _ (List.mem_of_getElem? (i := 0) rfl)
theorem kw561 : Cond.methodLink "MeasureChoiceLaw" 106 ⟨"MeasureChoiceModel", "budget", "(I)I"⟩ ∈ mcB := mcB_14_sub _ (List.mem_of_getElem? (i := 1) rfl)
theorem kw562 : Cond.instanceMethod ⟨"MeasureChoiceModel", "budget", "(I)I"⟩ ∈ mcB := mcB_14_sub _ (List.mem_of_getElem? (i := 2) rfl)
theorem kw563 : Cond.selects "MeasureChoiceModel" ⟨"MeasureChoiceModel", "budget", "(I)I"⟩ ⟨"MeasureChoiceModel", "budget", "(I)I"⟩ ∈ mcB := mcB_14_sub _ (List.mem_of_getElem? (i := 3) rfl)
theorem kw564 : Cond.code ⟨"MeasureChoiceModel", "budget", "(I)I"⟩ prog_6_method_21_code 6 (some FieldType.int) ∈ mcB := mcB_14_sub _ (List.mem_of_getElem? (i := 4) rfl)
theorem kw565 : Cond.methodLink "MeasureChoiceLaw" 109 ⟨"MeasureChoiceModel", "worth", "(II)I"⟩ ∈ mcB := mcB_14_sub _ (List.mem_of_getElem? (i := 5) rfl)
theorem kw566 : Cond.instanceMethod ⟨"MeasureChoiceModel", "worth", "(II)I"⟩ ∈ mcB := mcB_14_sub _ (List.mem_of_getElem? (i := 6) rfl)
theorem kw567 : Cond.selects "MeasureChoiceModel" ⟨"MeasureChoiceModel", "worth", "(II)I"⟩ ⟨"MeasureChoiceModel", "worth", "(II)I"⟩ ∈ mcB := mcB_14_sub _ (List.mem_of_getElem? (i := 7) rfl)
theorem kw568 : Cond.code ⟨"MeasureChoiceModel", "worth", "(II)I"⟩ prog_6_method_22_code 3 (some FieldType.int) ∈ mcB := mcB_14_sub _ (List.mem_of_getElem? (i := 8) rfl)
theorem kw569 : Cond.constantLong "MeasureChoiceModel" 78 (1000000 : Int64) ∈ mcB := mcB_14_sub _ (List.mem_of_getElem? (i := 9) rfl)
theorem kw570 : Cond.methodLink "MeasureChoiceLaw" 112 ⟨"MeasureChoiceModel", "frontier", "(I)I"⟩ ∈ mcB := mcB_14_sub _ (List.mem_of_getElem? (i := 10) rfl)
theorem kw571 : Cond.instanceMethod ⟨"MeasureChoiceModel", "frontier", "(I)I"⟩ ∈ mcB := mcB_14_sub _ (List.mem_of_getElem? (i := 11) rfl)
theorem kw572 : Cond.selects "MeasureChoiceModel" ⟨"MeasureChoiceModel", "frontier", "(I)I"⟩ ⟨"MeasureChoiceModel", "frontier", "(I)I"⟩ ∈ mcB := mcB_14_sub _ (List.mem_of_getElem? (i := 12) rfl)
theorem kw573 : Cond.code ⟨"MeasureChoiceModel", "frontier", "(I)I"⟩ prog_6_method_24_code 4 (some FieldType.int) ∈ mcB := mcB_14_sub _ (List.mem_of_getElem? (i := 13) rfl)
theorem kw574 : Cond.methodLink "MeasureChoiceModel" 80 ⟨"MeasureChoiceModel", "dearer", "(II)I"⟩ ∈ mcB := mcB_14_sub _ (List.mem_of_getElem? (i := 14) rfl)
theorem kw575 : Cond.instanceMethod ⟨"MeasureChoiceModel", "dearer", "(II)I"⟩ ∈ mcB := mcB_14_sub _ (List.mem_of_getElem? (i := 15) rfl)
theorem kw576 : Cond.code ⟨"MeasureChoiceModel", "dearer", "(II)I"⟩ prog_6_method_23_code 11 (some FieldType.int) ∈ mcB := mcB_14_sub _ (List.mem_of_getElem? (i := 16) rfl)
theorem kw577 : Cond.methodLink "MeasureChoiceLaw" 115 ⟨"MeasureChoiceModel", "year", "(II)I"⟩ ∈ mcB := mcB_14_sub _ (List.mem_of_getElem? (i := 17) rfl)
theorem kw578 : Cond.instanceMethod ⟨"MeasureChoiceModel", "year", "(II)I"⟩ ∈ mcB := mcB_14_sub _ (List.mem_of_getElem? (i := 18) rfl)
theorem kw579 : Cond.selects "MeasureChoiceModel" ⟨"MeasureChoiceModel", "year", "(II)I"⟩ ⟨"MeasureChoiceModel", "year", "(II)I"⟩ ∈ mcB := mcB_14_sub _ (List.mem_of_getElem? (i := 19) rfl)
theorem kw580 : Cond.code ⟨"MeasureChoiceModel", "year", "(II)I"⟩ prog_6_method_25_code 4 (some FieldType.int) ∈ mcB := mcB_14_sub _ (List.mem_of_getElem? (i := 20) rfl)
theorem kw581 : Cond.constant "MeasureChoiceModel" 84 (100000 : Int32) ∈ mcB := mcB_14_sub _ (List.mem_of_getElem? (i := 21) rfl)
theorem kw582 : Cond.methodLink "MeasureChoiceLaw" 118 ⟨"MeasureChoiceModel", "plan", "(II)I"⟩ ∈ mcB := mcB_14_sub _ (List.mem_of_getElem? (i := 22) rfl)
theorem kw583 : Cond.instanceMethod ⟨"MeasureChoiceModel", "plan", "(II)I"⟩ ∈ mcB := mcB_14_sub _ (List.mem_of_getElem? (i := 23) rfl)
theorem kw584 : Cond.selects "MeasureChoiceModel" ⟨"MeasureChoiceModel", "plan", "(II)I"⟩ ⟨"MeasureChoiceModel", "plan", "(II)I"⟩ ∈ mcB := mcB_14_sub _ (List.mem_of_getElem? (i := 24) rfl)
theorem kw585 : Cond.code ⟨"MeasureChoiceModel", "plan", "(II)I"⟩ prog_6_method_28_code 5 (some FieldType.int) ∈ mcB := mcB_14_sub _ (List.mem_of_getElem? (i := 25) rfl)
theorem kw586 : Cond.methodLink "MeasureChoiceModel" 89 ⟨"MeasureChoiceModel", "work", "(I)V"⟩ ∈ mcB := mcB_14_sub _ (List.mem_of_getElem? (i := 26) rfl)
theorem kw587 : Cond.instanceMethod ⟨"MeasureChoiceModel", "work", "(I)V"⟩ ∈ mcB := mcB_14_sub _ (List.mem_of_getElem? (i := 27) rfl)
theorem kw588 : Cond.code ⟨"MeasureChoiceModel", "work", "(I)V"⟩ prog_6_method_26_code 6 none ∈ mcB := mcB_14_sub _ (List.mem_of_getElem? (i := 28) rfl)
theorem kw589 : Cond.methodLink "MeasureChoiceModel" 85 ⟨"MeasureChoiceModel", "workOf", "(IIII)V"⟩ ∈ mcB := mcB_14_sub _ (List.mem_of_getElem? (i := 29) rfl)
theorem kw590 : Cond.instanceMethod ⟨"MeasureChoiceModel", "workOf", "(IIII)V"⟩ ∈ mcB := mcB_14_sub _ (List.mem_of_getElem? (i := 30) rfl)
theorem kw591 : Cond.code ⟨"MeasureChoiceModel", "workOf", "(IIII)V"⟩ prog_6_method_27_code 11 none ∈ mcB := mcB_14_sub _ (List.mem_of_getElem? (i := 31) rfl)
theorem kw592 : Cond.methodLink "MeasureChoiceLaw" 121 ⟨"MeasureChoiceModel", "planned", "(I)I"⟩ ∈ mcB := mcB_14_sub _ (List.mem_of_getElem? (i := 32) rfl)
theorem kw593 : Cond.instanceMethod ⟨"MeasureChoiceModel", "planned", "(I)I"⟩ ∈ mcB := mcB_14_sub _ (List.mem_of_getElem? (i := 33) rfl)
theorem kw594 : Cond.selects "MeasureChoiceModel" ⟨"MeasureChoiceModel", "planned", "(I)I"⟩ ⟨"MeasureChoiceModel", "planned", "(I)I"⟩ ∈ mcB := mcB_14_sub _ (List.mem_of_getElem? (i := 34) rfl)
theorem kw595 : Cond.code ⟨"MeasureChoiceModel", "planned", "(I)I"⟩ prog_6_method_29_code 2 (some FieldType.int) ∈ mcB := mcB_14_sub _ (List.mem_of_getElem? (i := 35) rfl)
theorem kw596 : Cond.arrayClass FieldType.long ∈ mcB := mcB_14_sub _ (List.mem_of_getElem? (i := 36) rfl)
theorem kw597 : Cond.sameMethod "java/lang/Throwable" "java/lang/Throwable" "fillInStackTrace" "(I)Ljava/lang/Throwable;" ∈ mcB := mcB_14_sub _ (List.mem_of_getElem? (i := 37) rfl)
theorem inH : ∀ w ∈ wH0, w ∈ mcB := by decide +kernel
theorem inA : ∀ w ∈ wA0, w ∈ mcB := by decide +kernel
theorem inP : ∀ w ∈ wP0, w ∈ mcB := by decide +kernel
theorem inM : ∀ w ∈ wM0, w ∈ mcB := by decide +kernel
theorem inR : ∀ w ∈ wR0, w ∈ mcB := by decide +kernel
abbrev bM_init : ByteArray := prog_1_method_1_code
abbrev yM_init : MethodName := ⟨"MeasureChoice", "<init>", "()V"⟩
abbrev wdM_init : List Cond := Cond.code yM_init bM_init 1 none :: mcB
abbrev bM_measure : ByteArray := prog_1_method_2_code
abbrev yM_measure : MethodName := ⟨"MeasureChoice", "measure", "(II)I"⟩
abbrev wdM_measure : List Cond := Cond.code yM_measure bM_measure 3 (some FieldType.int) :: mcB
abbrev bM_change : ByteArray := prog_1_method_3_code
abbrev yM_change : MethodName := ⟨"MeasureChoice", "change", "(III)V"⟩
abbrev wdM_change : List Cond := Cond.code yM_change bM_change 4 none :: mcB
abbrev bM_exclude : ByteArray := prog_1_method_4_code
abbrev yM_exclude : MethodName := ⟨"MeasureChoice", "exclude", "(IIZ)Z"⟩
abbrev wdM_exclude : List Cond := Cond.code yM_exclude bM_exclude 5 (some FieldType.boolean) :: mcB
abbrev bM_needs : ByteArray := prog_1_method_5_code
abbrev yM_needs : MethodName := ⟨"MeasureChoice", "needs", "(IIZ)Z"⟩
abbrev wdM_needs : List Cond := Cond.code yM_needs bM_needs 5 (some FieldType.boolean) :: mcB
abbrev bM_bonus : ByteArray := prog_1_method_6_code
abbrev yM_bonus : MethodName := ⟨"MeasureChoice", "bonus", "(III)I"⟩
abbrev wdM_bonus : List Cond := Cond.code yM_bonus bM_bonus 5 (some FieldType.int) :: mcB
abbrev bM_lawful : ByteArray := prog_1_method_7_code
abbrev yM_lawful : MethodName := ⟨"MeasureChoice", "lawful", "(I)Z"⟩
abbrev wdM_lawful : List Cond := Cond.code yM_lawful bM_lawful 2 (some FieldType.boolean) :: mcB
abbrev bM_told : ByteArray := prog_1_method_8_code
abbrev yM_told : MethodName := ⟨"MeasureChoice", "told", "(II)I"⟩
abbrev wdM_told : List Cond := Cond.code yM_told bM_told 3 (some FieldType.int) :: mcB
abbrev bM_closure : ByteArray := prog_1_method_9_code
abbrev yM_closure : MethodName := ⟨"MeasureChoice", "closure", "(I)I"⟩
abbrev wdM_closure : List Cond := Cond.code yM_closure bM_closure 2 (some FieldType.int) :: mcB
abbrev bM_best : ByteArray := prog_1_method_10_code
abbrev yM_best : MethodName := ⟨"MeasureChoice", "best", "(I)I"⟩
abbrev wdM_best : List Cond := Cond.code yM_best bM_best 2 (some FieldType.int) :: mcB
abbrev bM_budget : ByteArray := prog_1_method_11_code
abbrev yM_budget : MethodName := ⟨"MeasureChoice", "budget", "(I)I"⟩
abbrev wdM_budget : List Cond := Cond.code yM_budget bM_budget 3 (some FieldType.int) :: mcB
abbrev bM_worth : ByteArray := prog_1_method_12_code
abbrev yM_worth : MethodName := ⟨"MeasureChoice", "worth", "(II)I"⟩
abbrev wdM_worth : List Cond := Cond.code yM_worth bM_worth 4 (some FieldType.int) :: mcB
abbrev bM_frontier : ByteArray := prog_1_method_13_code
abbrev yM_frontier : MethodName := ⟨"MeasureChoice", "frontier", "(I)I"⟩
abbrev wdM_frontier : List Cond := Cond.code yM_frontier bM_frontier 2 (some FieldType.int) :: mcB
abbrev bM_year : ByteArray := prog_1_method_14_code
abbrev yM_year : MethodName := ⟨"MeasureChoice", "year", "(II)I"⟩
abbrev wdM_year : List Cond := Cond.code yM_year bM_year 4 (some FieldType.int) :: mcB
abbrev bM_plan : ByteArray := prog_1_method_15_code
abbrev yM_plan : MethodName := ⟨"MeasureChoice", "plan", "(II)I"⟩
abbrev wdM_plan : List Cond := Cond.code yM_plan bM_plan 3 (some FieldType.int) :: mcB
abbrev bM_planned : ByteArray := prog_1_method_16_code
abbrev yM_planned : MethodName := ⟨"MeasureChoice", "planned", "(I)I"⟩
abbrev wdM_planned : List Cond := Cond.code yM_planned bM_planned 2 (some FieldType.int) :: mcB
abbrev bM_requireBetween : ByteArray := prog_1_method_17_code
abbrev yM_requireBetween : MethodName := ⟨"MeasureChoice", "requireBetween", "(III)V"⟩
abbrev wdM_requireBetween : List Cond := Cond.code yM_requireBetween bM_requireBetween 3 none :: mcB
abbrev bM_requireNotBelowZero : ByteArray := prog_1_method_18_code
abbrev yM_requireNotBelowZero : MethodName := ⟨"MeasureChoice", "requireNotBelowZero", "(I)V"⟩
abbrev wdM_requireNotBelowZero : List Cond := Cond.code yM_requireNotBelowZero bM_requireNotBelowZero 1 none :: mcB
abbrev bM_requireCostAndGain : ByteArray := prog_1_method_19_code
abbrev yM_requireCostAndGain : MethodName := ⟨"MeasureChoice", "requireCostAndGain", "(II)V"⟩
abbrev wdM_requireCostAndGain : List Cond := Cond.code yM_requireCostAndGain bM_requireCostAndGain 2 none :: mcB
abbrev bM_requireMeasure : ByteArray := prog_1_method_20_code
abbrev yM_requireMeasure : MethodName := ⟨"MeasureChoice", "requireMeasure", "(I)V"⟩
abbrev wdM_requireMeasure : List Cond := Cond.code yM_requireMeasure bM_requireMeasure 2 none :: mcB
abbrev bM_requirePair : ByteArray := prog_1_method_21_code
abbrev yM_requirePair : MethodName := ⟨"MeasureChoice", "requirePair", "(II)V"⟩
abbrev wdM_requirePair : List Cond := Cond.code yM_requirePair bM_requirePair 3 none :: mcB
abbrev bM_requireSet : ByteArray := prog_1_method_22_code
abbrev yM_requireSet : MethodName := ⟨"MeasureChoice", "requireSet", "(I)V"⟩
abbrev wdM_requireSet : List Cond := Cond.code yM_requireSet bM_requireSet 2 none :: mcB
abbrev bR_init : ByteArray := prog_6_method_1_code
abbrev yR_init : MethodName := ⟨"MeasureChoiceModel", "<init>", "()V"⟩
abbrev wdR_init : List Cond := Cond.code yR_init bR_init 1 none :: mcB
abbrev bR_thrown : ByteArray := prog_6_method_2_code
abbrev yR_thrown : MethodName := ⟨"MeasureChoiceModel", "thrown", "()I"⟩
abbrev wdR_thrown : List Cond := Cond.code yR_thrown bR_thrown 1 (some FieldType.int) :: mcB
abbrev bR_in : ByteArray := prog_6_method_3_code
abbrev yR_in : MethodName := ⟨"MeasureChoiceModel", "in", "(III)Z"⟩
abbrev wdR_in : List Cond := Cond.code yR_in bR_in 3 (some FieldType.boolean) :: mcB
abbrev bR_is : ByteArray := prog_6_method_4_code
abbrev yR_is : MethodName := ⟨"MeasureChoiceModel", "is", "(I)Z"⟩
abbrev wdR_is : List Cond := Cond.code yR_is bR_is 2 (some FieldType.boolean) :: mcB
abbrev bR_good : ByteArray := prog_6_method_5_code
abbrev yR_good : MethodName := ⟨"MeasureChoiceModel", "good", "(Z)Z"⟩
abbrev wdR_good : List Cond := Cond.code yR_good bR_good 2 (some FieldType.boolean) :: mcB
abbrev bR_measure : ByteArray := prog_6_method_6_code
abbrev yR_measure : MethodName := ⟨"MeasureChoiceModel", "measure", "(II)I"⟩
abbrev wdR_measure : List Cond := Cond.code yR_measure bR_measure 3 (some FieldType.int) :: mcB
abbrev bR_change : ByteArray := prog_6_method_7_code
abbrev yR_change : MethodName := ⟨"MeasureChoiceModel", "change", "(III)V"⟩
abbrev wdR_change : List Cond := Cond.code yR_change bR_change 4 none :: mcB
abbrev bR_exclude : ByteArray := prog_6_method_8_code
abbrev yR_exclude : MethodName := ⟨"MeasureChoiceModel", "exclude", "(IIZ)Z"⟩
abbrev wdR_exclude : List Cond := Cond.code yR_exclude bR_exclude 5 (some FieldType.boolean) :: mcB
abbrev bR_needs : ByteArray := prog_6_method_9_code
abbrev yR_needs : MethodName := ⟨"MeasureChoiceModel", "needs", "(IIZ)Z"⟩
abbrev wdR_needs : List Cond := Cond.code yR_needs bR_needs 5 (some FieldType.boolean) :: mcB
abbrev bR_bonus : ByteArray := prog_6_method_10_code
abbrev yR_bonus : MethodName := ⟨"MeasureChoiceModel", "bonus", "(III)I"⟩
abbrev wdR_bonus : List Cond := Cond.code yR_bonus bR_bonus 5 (some FieldType.int) :: mcB
abbrev bR_has : ByteArray := prog_6_method_11_code
abbrev yR_has : MethodName := ⟨"MeasureChoiceModel", "has", "(II)Z"⟩
abbrev wdR_has : List Cond := Cond.code yR_has bR_has 2 (some FieldType.boolean) :: mcB
abbrev bR_isSet : ByteArray := prog_6_method_12_code
abbrev yR_isSet : MethodName := ⟨"MeasureChoiceModel", "isSet", "(I)Z"⟩
abbrev wdR_isSet : List Cond := Cond.code yR_isSet bR_isSet 2 (some FieldType.boolean) :: mcB
abbrev bR_holds : ByteArray := prog_6_method_13_code
abbrev yR_holds : MethodName := ⟨"MeasureChoiceModel", "holds", "(I)Z"⟩
abbrev wdR_holds : List Cond := Cond.code yR_holds bR_holds 5 (some FieldType.boolean) :: mcB
abbrev bR_costOf : ByteArray := prog_6_method_14_code
abbrev yR_costOf : MethodName := ⟨"MeasureChoiceModel", "costOf", "(I)I"⟩
abbrev wdR_costOf : List Cond := Cond.code yR_costOf bR_costOf 4 (some FieldType.int) :: mcB
abbrev bR_gainOf : ByteArray := prog_6_method_15_code
abbrev yR_gainOf : MethodName := ⟨"MeasureChoiceModel", "gainOf", "(I)I"⟩
abbrev wdR_gainOf : List Cond := Cond.code yR_gainOf bR_gainOf 5 (some FieldType.int) :: mcB
abbrev bR_lawful : ByteArray := prog_6_method_16_code
abbrev yR_lawful : MethodName := ⟨"MeasureChoiceModel", "lawful", "(I)Z"⟩
abbrev wdR_lawful : List Cond := Cond.code yR_lawful bR_lawful 2 (some FieldType.boolean) :: mcB
abbrev bR_told : ByteArray := prog_6_method_17_code
abbrev yR_told : MethodName := ⟨"MeasureChoiceModel", "told", "(II)I"⟩
abbrev wdR_told : List Cond := Cond.code yR_told bR_told 3 (some FieldType.int) :: mcB
abbrev bR_closure : ByteArray := prog_6_method_18_code
abbrev yR_closure : MethodName := ⟨"MeasureChoiceModel", "closure", "(I)I"⟩
abbrev wdR_closure : List Cond := Cond.code yR_closure bR_closure 6 (some FieldType.int) :: mcB
abbrev bR_bestOf : ByteArray := prog_6_method_19_code
abbrev yR_bestOf : MethodName := ⟨"MeasureChoiceModel", "bestOf", "(J)I"⟩
abbrev wdR_bestOf : List Cond := Cond.code yR_bestOf bR_bestOf 10 (some FieldType.int) :: mcB
abbrev bR_best : ByteArray := prog_6_method_20_code
abbrev yR_best : MethodName := ⟨"MeasureChoiceModel", "best", "(I)I"⟩
abbrev wdR_best : List Cond := Cond.code yR_best bR_best 2 (some FieldType.int) :: mcB
abbrev bR_budget : ByteArray := prog_6_method_21_code
abbrev yR_budget : MethodName := ⟨"MeasureChoiceModel", "budget", "(I)I"⟩
abbrev wdR_budget : List Cond := Cond.code yR_budget bR_budget 6 (some FieldType.int) :: mcB
abbrev bR_worth : ByteArray := prog_6_method_22_code
abbrev yR_worth : MethodName := ⟨"MeasureChoiceModel", "worth", "(II)I"⟩
abbrev wdR_worth : List Cond := Cond.code yR_worth bR_worth 3 (some FieldType.int) :: mcB
abbrev bR_dearer : ByteArray := prog_6_method_23_code
abbrev yR_dearer : MethodName := ⟨"MeasureChoiceModel", "dearer", "(II)I"⟩
abbrev wdR_dearer : List Cond := Cond.code yR_dearer bR_dearer 11 (some FieldType.int) :: mcB
abbrev bR_frontier : ByteArray := prog_6_method_24_code
abbrev yR_frontier : MethodName := ⟨"MeasureChoiceModel", "frontier", "(I)I"⟩
abbrev wdR_frontier : List Cond := Cond.code yR_frontier bR_frontier 4 (some FieldType.int) :: mcB
abbrev bR_year : ByteArray := prog_6_method_25_code
abbrev yR_year : MethodName := ⟨"MeasureChoiceModel", "year", "(II)I"⟩
abbrev wdR_year : List Cond := Cond.code yR_year bR_year 4 (some FieldType.int) :: mcB
abbrev bR_work : ByteArray := prog_6_method_26_code
abbrev yR_work : MethodName := ⟨"MeasureChoiceModel", "work", "(I)V"⟩
abbrev wdR_work : List Cond := Cond.code yR_work bR_work 6 none :: mcB
abbrev bR_workOf : ByteArray := prog_6_method_27_code
abbrev yR_workOf : MethodName := ⟨"MeasureChoiceModel", "workOf", "(IIII)V"⟩
abbrev wdR_workOf : List Cond := Cond.code yR_workOf bR_workOf 11 none :: mcB
abbrev bR_plan : ByteArray := prog_6_method_28_code
abbrev yR_plan : MethodName := ⟨"MeasureChoiceModel", "plan", "(II)I"⟩
abbrev wdR_plan : List Cond := Cond.code yR_plan bR_plan 5 (some FieldType.int) :: mcB
abbrev bR_planned : ByteArray := prog_6_method_29_code
abbrev yR_planned : MethodName := ⟨"MeasureChoiceModel", "planned", "(I)I"⟩
abbrev wdR_planned : List Cond := Cond.code yR_planned bR_planned 2 (some FieldType.int) :: mcB
abbrev bH_init : ByteArray := prog_2_method_1_code
abbrev yH_init : MethodName := ⟨"MeasureChoice$House", "<init>", "()V"⟩
abbrev wdH_init : List Cond := Cond.code yH_init bH_init 1 none :: mcB
abbrev bH_add : ByteArray := prog_2_method_2_code
abbrev yH_add : MethodName := ⟨"MeasureChoice$House", "add", "(II)I"⟩
abbrev wdH_add : List Cond := Cond.code yH_add bH_add 4 (some FieldType.int) :: mcB
abbrev bH_put : ByteArray := prog_2_method_3_code
abbrev yH_put : MethodName := ⟨"MeasureChoice$House", "put", "(III)V"⟩
abbrev wdH_put : List Cond := Cond.code yH_put bH_put 4 none :: mcB
abbrev bH_putExcluded : ByteArray := prog_2_method_4_code
abbrev yH_putExcluded : MethodName := ⟨"MeasureChoice$House", "putExcluded", "(IIZ)V"⟩
abbrev wdH_putExcluded : List Cond := Cond.code yH_putExcluded bH_putExcluded 4 none :: mcB
abbrev bH_putNeeded : ByteArray := prog_2_method_5_code
abbrev yH_putNeeded : MethodName := ⟨"MeasureChoice$House", "putNeeded", "(IIZ)V"⟩
abbrev wdH_putNeeded : List Cond := Cond.code yH_putNeeded bH_putNeeded 4 none :: mcB
abbrev bH_putBonus : ByteArray := prog_2_method_6_code
abbrev yH_putBonus : MethodName := ⟨"MeasureChoice$House", "putBonus", "(III)V"⟩
abbrev wdH_putBonus : List Cond := Cond.code yH_putBonus bH_putBonus 4 none :: mcB
abbrev bH_allows : ByteArray := prog_2_method_7_code
abbrev yH_allows : MethodName := ⟨"MeasureChoice$House", "allows", "(I)Z"⟩
abbrev wdH_allows : List Cond := Cond.code yH_allows bH_allows 3 (some FieldType.boolean) :: mcB
abbrev bH_costOf : ByteArray := prog_2_method_8_code
abbrev yH_costOf : MethodName := ⟨"MeasureChoice$House", "costOf", "(I)I"⟩
abbrev wdH_costOf : List Cond := Cond.code yH_costOf bH_costOf 4 (some FieldType.int) :: mcB
abbrev bH_gainOf : ByteArray := prog_2_method_9_code
abbrev yH_gainOf : MethodName := ⟨"MeasureChoice$House", "gainOf", "(I)I"⟩
abbrev wdH_gainOf : List Cond := Cond.code yH_gainOf bH_gainOf 4 (some FieldType.int) :: mcB
abbrev bH_bonusWithEarlier : ByteArray := prog_2_method_10_code
abbrev yH_bonusWithEarlier : MethodName := ⟨"MeasureChoice$House", "bonusWithEarlier", "(II)I"⟩
abbrev wdH_bonusWithEarlier : List Cond := Cond.code yH_bonusWithEarlier bH_bonusWithEarlier 5 (some FieldType.int) :: mcB
abbrev bH_broughtBy : ByteArray := prog_2_method_11_code
abbrev yH_broughtBy : MethodName := ⟨"MeasureChoice$House", "broughtBy", "(I)I"⟩
abbrev wdH_broughtBy : List Cond := Cond.code yH_broughtBy bH_broughtBy 4 (some FieldType.int) :: mcB
abbrev bH_withItsNeeds : ByteArray := prog_2_method_12_code
abbrev yH_withItsNeeds : MethodName := ⟨"MeasureChoice$House", "withItsNeeds", "(I)I"⟩
abbrev wdH_withItsNeeds : List Cond := Cond.code yH_withItsNeeds bH_withItsNeeds 4 (some FieldType.int) :: mcB
abbrev bH_has : ByteArray := prog_2_method_13_code
abbrev yH_has : MethodName := ⟨"MeasureChoice$House", "has", "(II)Z"⟩
abbrev wdH_has : List Cond := Cond.code yH_has bH_has 2 (some FieldType.boolean) :: mcB
abbrev bH_with : ByteArray := prog_2_method_14_code
abbrev yH_with : MethodName := ⟨"MeasureChoice$House", "with", "(IIZ)I"⟩
abbrev wdH_with : List Cond := Cond.code yH_with bH_with 4 (some FieldType.int) :: mcB
abbrev bA_init : ByteArray := prog_3_method_1_code
abbrev yA_init : MethodName := ⟨"MeasureChoice$Ladder", "<init>", "()V"⟩
abbrev wdA_init : List Cond := Cond.code yA_init bA_init 1 none :: mcB
abbrev bA_setAt : ByteArray := prog_3_method_2_code
abbrev yA_setAt : MethodName := ⟨"MeasureChoice$Ladder", "setAt", "(I)I"⟩
abbrev wdA_setAt : List Cond := Cond.code yA_setAt bA_setAt 2 (some FieldType.int) :: mcB
abbrev bA_costAt : ByteArray := prog_3_method_3_code
abbrev yA_costAt : MethodName := ⟨"MeasureChoice$Ladder", "costAt", "(I)I"⟩
abbrev wdA_costAt : List Cond := Cond.code yA_costAt bA_costAt 2 (some FieldType.int) :: mcB
abbrev bA_gainAt : ByteArray := prog_3_method_4_code
abbrev yA_gainAt : MethodName := ⟨"MeasureChoice$Ladder", "gainAt", "(I)I"⟩
abbrev wdA_gainAt : List Cond := Cond.code yA_gainAt bA_gainAt 2 (some FieldType.int) :: mcB
abbrev bA_highestWithin : ByteArray := prog_3_method_5_code
abbrev yA_highestWithin : MethodName := ⟨"MeasureChoice$Ladder", "highestWithin", "(I)I"⟩
abbrev wdA_highestWithin : List Cond := Cond.code yA_highestWithin bA_highestWithin 4 (some FieldType.int) :: mcB
abbrev bA_lowestGaining : ByteArray := prog_3_method_6_code
abbrev yA_lowestGaining : MethodName := ⟨"MeasureChoice$Ladder", "lowestGaining", "(I)I"⟩
abbrev wdA_lowestGaining : List Cond := Cond.code yA_lowestGaining bA_lowestGaining 3 (some FieldType.int) :: mcB
abbrev bA_bringUpToDate : ByteArray := prog_3_method_7_code
abbrev yA_bringUpToDate : MethodName := ⟨"MeasureChoice$Ladder", "bringUpToDate", "(LMeasureChoice$House;)V"⟩
abbrev wdA_bringUpToDate : List Cond := Cond.code yA_bringUpToDate bA_bringUpToDate 3 none :: mcB
abbrev bA_addSteps : ByteArray := prog_3_method_8_code
abbrev yA_addSteps : MethodName := ⟨"MeasureChoice$Ladder", "addSteps", "(II)V"⟩
abbrev wdA_addSteps : List Cond := Cond.code yA_addSteps bA_addSteps 7 none :: mcB
abbrev bA_addGains : ByteArray := prog_3_method_9_code
abbrev yA_addGains : MethodName := ⟨"MeasureChoice$Ladder", "addGains", "(ILMeasureChoice$House;)V"⟩
abbrev wdA_addGains : List Cond := Cond.code yA_addGains bA_addGains 9 none :: mcB
abbrev bA_keepUnbeaten : ByteArray := prog_3_method_10_code
abbrev yA_keepUnbeaten : MethodName := ⟨"MeasureChoice$Ladder", "keepUnbeaten", "(LMeasureChoice$House;)V"⟩
abbrev wdA_keepUnbeaten : List Cond := Cond.code yA_keepUnbeaten bA_keepUnbeaten 4 none :: mcB
abbrev bP_init : ByteArray := prog_4_method_1_code
abbrev yP_init : MethodName := ⟨"MeasureChoice$Planner", "<init>", "()V"⟩
abbrev wdP_init : List Cond := Cond.code yP_init bP_init 1 none :: mcB
abbrev bP_work : ByteArray := prog_4_method_2_code
abbrev yP_work : MethodName := ⟨"MeasureChoice$Planner", "work", "(LMeasureChoice$House;I)V"⟩
abbrev wdP_work : List Cond := Cond.code yP_work bP_work 4 none :: mcB
abbrev bP_boughtUpTo : ByteArray := prog_4_method_3_code
abbrev yP_boughtUpTo : MethodName := ⟨"MeasureChoice$Planner", "boughtUpTo", "(I)I"⟩
abbrev wdP_boughtUpTo : List Cond := Cond.code yP_boughtUpTo bP_boughtUpTo 4 (some FieldType.int) :: mcB
abbrev bP_fillPurses : ByteArray := prog_4_method_4_code
abbrev yP_fillPurses : MethodName := ⟨"MeasureChoice$Planner", "fillPurses", "()V"⟩
abbrev wdP_fillPurses : List Cond := Cond.code yP_fillPurses bP_fillPurses 3 none :: mcB
abbrev bP_judgeSets : ByteArray := prog_4_method_5_code
abbrev yP_judgeSets : MethodName := ⟨"MeasureChoice$Planner", "judgeSets", "(LMeasureChoice$House;)V"⟩
abbrev wdP_judgeSets : List Cond := Cond.code yP_judgeSets bP_judgeSets 3 none :: mcB
abbrev bP_workYear : ByteArray := prog_4_method_6_code
abbrev yP_workYear : MethodName := ⟨"MeasureChoice$Planner", "workYear", "(IZ)V"⟩
abbrev wdP_workYear : List Cond := Cond.code yP_workYear bP_workYear 5 none :: mcB
abbrev bP_bestFrom : ByteArray := prog_4_method_7_code
abbrev yP_bestFrom : MethodName := ⟨"MeasureChoice$Planner", "bestFrom", "(II)I"⟩
abbrev wdP_bestFrom : List Cond := Cond.code yP_bestFrom bP_bestFrom 5 (some FieldType.int) :: mcB
abbrev bP_isBetter : ByteArray := prog_4_method_8_code
abbrev yP_isBetter : MethodName := ⟨"MeasureChoice$Planner", "isBetter", "(III)Z"⟩
abbrev wdP_isBetter : List Cond := Cond.code yP_isBetter bP_isBetter 4 (some FieldType.boolean) :: mcB
abbrev bL_measure : ByteArray := method_3_code
abbrev yL_measure : MethodName := ⟨"MeasureChoiceLaw", "measure", "(LMeasureChoice;II[J)I"⟩
abbrev wdL_measure : List Cond := Cond.codeWith yL_measure bL_measure 5 (some FieldType.int) [(0, 10, 13, 13), (0, 10, 17, 15)] :: mcB
abbrev bL_change : ByteArray := method_4_code
abbrev yL_change : MethodName := ⟨"MeasureChoiceLaw", "change", "(LMeasureChoice;III)I"⟩
abbrev wdL_change : List Cond := Cond.codeWith yL_change bL_change 5 (some FieldType.int) [(0, 7, 10, 13)] :: mcB
abbrev bL_exclude : ByteArray := method_5_code
abbrev yL_exclude : MethodName := ⟨"MeasureChoiceLaw", "exclude", "(LMeasureChoice;IIZ[J)I"⟩
abbrev wdL_exclude : List Cond := Cond.codeWith yL_exclude bL_exclude 6 (some FieldType.int) [(0, 19, 22, 13)] :: mcB
abbrev bL_needs : ByteArray := method_6_code
abbrev yL_needs : MethodName := ⟨"MeasureChoiceLaw", "needs", "(LMeasureChoice;IIZ[J)I"⟩
abbrev wdL_needs : List Cond := Cond.codeWith yL_needs bL_needs 6 (some FieldType.int) [(0, 19, 22, 13)] :: mcB
abbrev bL_bonus : ByteArray := method_7_code
abbrev yL_bonus : MethodName := ⟨"MeasureChoiceLaw", "bonus", "(LMeasureChoice;III[J)I"⟩
abbrev wdL_bonus : List Cond := Cond.codeWith yL_bonus bL_bonus 6 (some FieldType.int) [(0, 12, 15, 13)] :: mcB
abbrev bL_lawful : ByteArray := method_8_code
abbrev yL_lawful : MethodName := ⟨"MeasureChoiceLaw", "lawful", "(LMeasureChoice;I[J)I"⟩
abbrev wdL_lawful : List Cond := Cond.codeWith yL_lawful bL_lawful 4 (some FieldType.int) [(0, 16, 19, 13)] :: mcB
abbrev bL_told : ByteArray := method_9_code
abbrev yL_told : MethodName := ⟨"MeasureChoiceLaw", "told", "(LMeasureChoice;II[J)I"⟩
abbrev wdL_told : List Cond := Cond.codeWith yL_told bL_told 5 (some FieldType.int) [(0, 10, 13, 13)] :: mcB
abbrev bL_closure : ByteArray := method_10_code
abbrev yL_closure : MethodName := ⟨"MeasureChoiceLaw", "closure", "(LMeasureChoice;I[J)I"⟩
abbrev wdL_closure : List Cond := Cond.codeWith yL_closure bL_closure 4 (some FieldType.int) [(0, 9, 12, 13)] :: mcB
abbrev bL_best : ByteArray := method_11_code
abbrev yL_best : MethodName := ⟨"MeasureChoiceLaw", "best", "(LMeasureChoice;I[J)I"⟩
abbrev wdL_best : List Cond := Cond.codeWith yL_best bL_best 4 (some FieldType.int) [(0, 9, 12, 13)] :: mcB
abbrev bL_worth : ByteArray := method_12_code
abbrev yL_worth : MethodName := ⟨"MeasureChoiceLaw", "worth", "(LMeasureChoice;II[J)I"⟩
abbrev wdL_worth : List Cond := Cond.codeWith yL_worth bL_worth 5 (some FieldType.int) [(0, 10, 13, 13)] :: mcB
abbrev bL_frontier : ByteArray := method_13_code
abbrev yL_frontier : MethodName := ⟨"MeasureChoiceLaw", "frontier", "(LMeasureChoice;I[J)I"⟩
abbrev wdL_frontier : List Cond := Cond.codeWith yL_frontier bL_frontier 4 (some FieldType.int) [(0, 9, 12, 13)] :: mcB
abbrev bL_year : ByteArray := method_14_code
abbrev yL_year : MethodName := ⟨"MeasureChoiceLaw", "year", "(LMeasureChoice;II[J)I"⟩
abbrev wdL_year : List Cond := Cond.codeWith yL_year bL_year 5 (some FieldType.int) [(0, 10, 13, 13)] :: mcB
abbrev bL_plan : ByteArray := method_15_code
abbrev yL_plan : MethodName := ⟨"MeasureChoiceLaw", "plan", "(LMeasureChoice;II[J)I"⟩
abbrev wdL_plan : List Cond := Cond.codeWith yL_plan bL_plan 5 (some FieldType.int) [(0, 10, 13, 13)] :: mcB
abbrev bL_planned : ByteArray := method_16_code
abbrev yL_planned : MethodName := ⟨"MeasureChoiceLaw", "planned", "(LMeasureChoice;I[J)I"⟩
abbrev wdL_planned : List Cond := Cond.codeWith yL_planned bL_planned 4 (some FieldType.int) [(0, 9, 12, 13)] :: mcB
end
section
theorem dM_init_0 : decode bM_init 0 = .ok (.aload_n 0, 1) := by decide +kernel
theorem dM_init_1 : decode bM_init 1 = .ok (.invokespecial 3, 3) := by decide +kernel
theorem dM_init_4 : decode bM_init 4 = .ok (.aload_n 0, 1) := by decide +kernel
theorem dM_init_5 : decode bM_init 5 = .ok (.new 9, 3) := by decide +kernel
theorem dM_init_8 : decode bM_init 8 = .ok (.dup, 1) := by decide +kernel
theorem dM_init_9 : decode bM_init 9 = .ok (.invokespecial 11, 3) := by decide +kernel
theorem dM_init_12 : decode bM_init 12 = .ok (.putfield 12, 3) := by decide +kernel
theorem dM_init_15 : decode bM_init 15 = .ok (.aload_n 0, 1) := by decide +kernel
theorem dM_init_16 : decode bM_init 16 = .ok (.new 16, 3) := by decide +kernel
theorem dM_init_19 : decode bM_init 19 = .ok (.dup, 1) := by decide +kernel
theorem dM_init_20 : decode bM_init 20 = .ok (.invokespecial 18, 3) := by decide +kernel
theorem dM_init_23 : decode bM_init 23 = .ok (.putfield 19, 3) := by decide +kernel
theorem dM_init_26 : decode bM_init 26 = .ok (.aload_n 0, 1) := by decide +kernel
theorem dM_init_27 : decode bM_init 27 = .ok (.new 23, 3) := by decide +kernel
theorem dM_init_30 : decode bM_init 30 = .ok (.dup, 1) := by decide +kernel
theorem dM_init_31 : decode bM_init 31 = .ok (.invokespecial 25, 3) := by decide +kernel
theorem dM_init_34 : decode bM_init 34 = .ok (.putfield 26, 3) := by decide +kernel
theorem dM_init_37 : decode bM_init 37 = .ok (.return_, 1) := by decide +kernel
theorem dM_measure_0 : decode bM_measure 0 = .ok (.iload_n 1, 1) := by decide +kernel
theorem dM_measure_1 : decode bM_measure 1 = .ok (.iload_n 2, 1) := by decide +kernel
theorem dM_measure_2 : decode bM_measure 2 = .ok (.invokestatic 30, 3) := by decide +kernel
theorem dM_measure_5 : decode bM_measure 5 = .ok (.aload_n 0, 1) := by decide +kernel
theorem dM_measure_6 : decode bM_measure 6 = .ok (.getfield 12, 3) := by decide +kernel
theorem dM_measure_9 : decode bM_measure 9 = .ok (.getfield 34, 3) := by decide +kernel
theorem dM_measure_12 : decode bM_measure 12 = .ok (.bipush 12, 2) := by decide +kernel
theorem dM_measure_14 : decode bM_measure 14 = .ok (.if_icmp .lt 13, 3) := by decide +kernel
theorem dM_measure_17 : decode bM_measure 17 = .ok (.new 38, 3) := by decide +kernel
theorem dM_measure_20 : decode bM_measure 20 = .ok (.dup, 1) := by decide +kernel
theorem dM_measure_21 : decode bM_measure 21 = .ok (.ldc 40, 2) := by decide +kernel
theorem dM_measure_23 : decode bM_measure 23 = .ok (.invokespecial 42, 3) := by decide +kernel
theorem dM_measure_26 : decode bM_measure 26 = .ok (.athrow, 1) := by decide +kernel
theorem dM_measure_27 : decode bM_measure 27 = .ok (.aload_n 0, 1) := by decide +kernel
theorem dM_measure_28 : decode bM_measure 28 = .ok (.getfield 12, 3) := by decide +kernel
theorem dM_measure_31 : decode bM_measure 31 = .ok (.iload_n 1, 1) := by decide +kernel
theorem dM_measure_32 : decode bM_measure 32 = .ok (.iload_n 2, 1) := by decide +kernel
theorem dM_measure_33 : decode bM_measure 33 = .ok (.invokevirtual 45, 3) := by decide +kernel
theorem dM_measure_36 : decode bM_measure 36 = .ok (.ireturn, 1) := by decide +kernel
theorem dM_change_0 : decode bM_change 0 = .ok (.aload_n 0, 1) := by decide +kernel
theorem dM_change_1 : decode bM_change 1 = .ok (.iload_n 1, 1) := by decide +kernel
theorem dM_change_2 : decode bM_change 2 = .ok (.invokevirtual 49, 3) := by decide +kernel
theorem dM_change_5 : decode bM_change 5 = .ok (.iload_n 2, 1) := by decide +kernel
theorem dM_change_6 : decode bM_change 6 = .ok (.iload_n 3, 1) := by decide +kernel
theorem dM_change_7 : decode bM_change 7 = .ok (.invokestatic 30, 3) := by decide +kernel
theorem dM_change_10 : decode bM_change 10 = .ok (.aload_n 0, 1) := by decide +kernel
theorem dM_change_11 : decode bM_change 11 = .ok (.getfield 12, 3) := by decide +kernel
theorem dM_change_14 : decode bM_change 14 = .ok (.iload_n 1, 1) := by decide +kernel
theorem dM_change_15 : decode bM_change 15 = .ok (.iload_n 2, 1) := by decide +kernel
theorem dM_change_16 : decode bM_change 16 = .ok (.iload_n 3, 1) := by decide +kernel
theorem dM_change_17 : decode bM_change 17 = .ok (.invokevirtual 53, 3) := by decide +kernel
theorem dM_change_20 : decode bM_change 20 = .ok (.return_, 1) := by decide +kernel
theorem dM_exclude_0 : decode bM_exclude 0 = .ok (.aload_n 0, 1) := by decide +kernel
theorem dM_exclude_1 : decode bM_exclude 1 = .ok (.iload_n 1, 1) := by decide +kernel
theorem dM_exclude_2 : decode bM_exclude 2 = .ok (.iload_n 2, 1) := by decide +kernel
theorem dM_exclude_3 : decode bM_exclude 3 = .ok (.invokevirtual 57, 3) := by decide +kernel
theorem dM_exclude_6 : decode bM_exclude 6 = .ok (.aload_n 0, 1) := by decide +kernel
theorem dM_exclude_7 : decode bM_exclude 7 = .ok (.getfield 12, 3) := by decide +kernel
theorem dM_exclude_10 : decode bM_exclude 10 = .ok (.getfield 60, 3) := by decide +kernel
theorem dM_exclude_13 : decode bM_exclude 13 = .ok (.iload_n 1, 1) := by decide +kernel
theorem dM_exclude_14 : decode bM_exclude 14 = .ok (.iaload, 1) := by decide +kernel
theorem dM_exclude_15 : decode bM_exclude 15 = .ok (.iload_n 2, 1) := by decide +kernel
theorem dM_exclude_16 : decode bM_exclude 16 = .ok (.invokestatic 64, 3) := by decide +kernel
theorem dM_exclude_19 : decode bM_exclude 19 = .ok (.istore 4, 2) := by decide +kernel
theorem dM_exclude_21 : decode bM_exclude 21 = .ok (.aload_n 0, 1) := by decide +kernel
theorem dM_exclude_22 : decode bM_exclude 22 = .ok (.getfield 12, 3) := by decide +kernel
theorem dM_exclude_25 : decode bM_exclude 25 = .ok (.iload_n 1, 1) := by decide +kernel
theorem dM_exclude_26 : decode bM_exclude 26 = .ok (.iload_n 2, 1) := by decide +kernel
theorem dM_exclude_27 : decode bM_exclude 27 = .ok (.iload_n 3, 1) := by decide +kernel
theorem dM_exclude_28 : decode bM_exclude 28 = .ok (.invokevirtual 68, 3) := by decide +kernel
theorem dM_exclude_31 : decode bM_exclude 31 = .ok (.iload 4, 2) := by decide +kernel
theorem dM_exclude_33 : decode bM_exclude 33 = .ok (.ireturn, 1) := by decide +kernel
theorem dM_needs_0 : decode bM_needs 0 = .ok (.aload_n 0, 1) := by decide +kernel
theorem dM_needs_1 : decode bM_needs 1 = .ok (.iload_n 1, 1) := by decide +kernel
theorem dM_needs_2 : decode bM_needs 2 = .ok (.iload_n 2, 1) := by decide +kernel
theorem dM_needs_3 : decode bM_needs 3 = .ok (.invokevirtual 57, 3) := by decide +kernel
theorem dM_needs_6 : decode bM_needs 6 = .ok (.aload_n 0, 1) := by decide +kernel
theorem dM_needs_7 : decode bM_needs 7 = .ok (.getfield 12, 3) := by decide +kernel
theorem dM_needs_10 : decode bM_needs 10 = .ok (.getfield 72, 3) := by decide +kernel
theorem dM_needs_13 : decode bM_needs 13 = .ok (.iload_n 1, 1) := by decide +kernel
theorem dM_needs_14 : decode bM_needs 14 = .ok (.iaload, 1) := by decide +kernel
theorem dM_needs_15 : decode bM_needs 15 = .ok (.iload_n 2, 1) := by decide +kernel
theorem dM_needs_16 : decode bM_needs 16 = .ok (.invokestatic 64, 3) := by decide +kernel
theorem dM_needs_19 : decode bM_needs 19 = .ok (.istore 4, 2) := by decide +kernel
theorem dM_needs_21 : decode bM_needs 21 = .ok (.aload_n 0, 1) := by decide +kernel
theorem dM_needs_22 : decode bM_needs 22 = .ok (.getfield 12, 3) := by decide +kernel
theorem dM_needs_25 : decode bM_needs 25 = .ok (.iload_n 1, 1) := by decide +kernel
theorem dM_needs_26 : decode bM_needs 26 = .ok (.iload_n 2, 1) := by decide +kernel
theorem dM_needs_27 : decode bM_needs 27 = .ok (.iload_n 3, 1) := by decide +kernel
theorem dM_needs_28 : decode bM_needs 28 = .ok (.invokevirtual 75, 3) := by decide +kernel
theorem dM_needs_31 : decode bM_needs 31 = .ok (.iload 4, 2) := by decide +kernel
theorem dM_needs_33 : decode bM_needs 33 = .ok (.ireturn, 1) := by decide +kernel
theorem dM_bonus_0 : decode bM_bonus 0 = .ok (.aload_n 0, 1) := by decide +kernel
theorem dM_bonus_1 : decode bM_bonus 1 = .ok (.iload_n 1, 1) := by decide +kernel
theorem dM_bonus_2 : decode bM_bonus 2 = .ok (.iload_n 2, 1) := by decide +kernel
theorem dM_bonus_3 : decode bM_bonus 3 = .ok (.invokevirtual 57, 3) := by decide +kernel
theorem dM_bonus_6 : decode bM_bonus 6 = .ok (.iload_n 3, 1) := by decide +kernel
theorem dM_bonus_7 : decode bM_bonus 7 = .ok (.sipush (-5000), 3) := by decide +kernel
theorem dM_bonus_10 : decode bM_bonus 10 = .ok (.sipush 5000, 3) := by decide +kernel
theorem dM_bonus_13 : decode bM_bonus 13 = .ok (.invokestatic 78, 3) := by decide +kernel
theorem dM_bonus_16 : decode bM_bonus 16 = .ok (.aload_n 0, 1) := by decide +kernel
theorem dM_bonus_17 : decode bM_bonus 17 = .ok (.getfield 12, 3) := by decide +kernel
theorem dM_bonus_20 : decode bM_bonus 20 = .ok (.getfield 81, 3) := by decide +kernel
theorem dM_bonus_23 : decode bM_bonus 23 = .ok (.iload_n 1, 1) := by decide +kernel
theorem dM_bonus_24 : decode bM_bonus 24 = .ok (.aaload, 1) := by decide +kernel
theorem dM_bonus_25 : decode bM_bonus 25 = .ok (.iload_n 2, 1) := by decide +kernel
theorem dM_bonus_26 : decode bM_bonus 26 = .ok (.iaload, 1) := by decide +kernel
theorem dM_bonus_27 : decode bM_bonus 27 = .ok (.istore 4, 2) := by decide +kernel
theorem dM_bonus_29 : decode bM_bonus 29 = .ok (.aload_n 0, 1) := by decide +kernel
theorem dM_bonus_30 : decode bM_bonus 30 = .ok (.getfield 12, 3) := by decide +kernel
theorem dM_bonus_33 : decode bM_bonus 33 = .ok (.iload_n 1, 1) := by decide +kernel
theorem dM_bonus_34 : decode bM_bonus 34 = .ok (.iload_n 2, 1) := by decide +kernel
theorem dM_bonus_35 : decode bM_bonus 35 = .ok (.iload_n 3, 1) := by decide +kernel
theorem dM_bonus_36 : decode bM_bonus 36 = .ok (.invokevirtual 85, 3) := by decide +kernel
theorem dM_bonus_39 : decode bM_bonus 39 = .ok (.iload 4, 2) := by decide +kernel
theorem dM_bonus_41 : decode bM_bonus 41 = .ok (.ireturn, 1) := by decide +kernel
theorem dM_lawful_0 : decode bM_lawful 0 = .ok (.aload_n 0, 1) := by decide +kernel
theorem dM_lawful_1 : decode bM_lawful 1 = .ok (.iload_n 1, 1) := by decide +kernel
theorem dM_lawful_2 : decode bM_lawful 2 = .ok (.invokevirtual 88, 3) := by decide +kernel
theorem dM_lawful_5 : decode bM_lawful 5 = .ok (.aload_n 0, 1) := by decide +kernel
theorem dM_lawful_6 : decode bM_lawful 6 = .ok (.getfield 12, 3) := by decide +kernel
theorem dM_lawful_9 : decode bM_lawful 9 = .ok (.iload_n 1, 1) := by decide +kernel
theorem dM_lawful_10 : decode bM_lawful 10 = .ok (.invokevirtual 91, 3) := by decide +kernel
theorem dM_lawful_13 : decode bM_lawful 13 = .ok (.ireturn, 1) := by decide +kernel
theorem dM_told_0 : decode bM_told 0 = .ok (.aload_n 0, 1) := by decide +kernel
theorem dM_told_1 : decode bM_told 1 = .ok (.iload_n 1, 1) := by decide +kernel
theorem dM_told_2 : decode bM_told 2 = .ok (.invokevirtual 88, 3) := by decide +kernel
theorem dM_told_5 : decode bM_told 5 = .ok (.iload_n 2, 1) := by decide +kernel
theorem dM_told_6 : decode bM_told 6 = .ok (.iconst 0, 1) := by decide +kernel
theorem dM_told_7 : decode bM_told 7 = .ok (.iconst 1, 1) := by decide +kernel
theorem dM_told_8 : decode bM_told 8 = .ok (.invokestatic 78, 3) := by decide +kernel
theorem dM_told_11 : decode bM_told 11 = .ok (.iload_n 2, 1) := by decide +kernel
theorem dM_told_12 : decode bM_told 12 = .ok (.ifCond .ne 14, 3) := by decide +kernel
theorem dM_told_15 : decode bM_told 15 = .ok (.aload_n 0, 1) := by decide +kernel
theorem dM_told_16 : decode bM_told 16 = .ok (.getfield 12, 3) := by decide +kernel
theorem dM_told_19 : decode bM_told 19 = .ok (.iload_n 1, 1) := by decide +kernel
theorem dM_told_20 : decode bM_told 20 = .ok (.invokevirtual 95, 3) := by decide +kernel
theorem dM_told_23 : decode bM_told 23 = .ok (.goto 11, 3) := by decide +kernel
theorem dM_told_26 : decode bM_told 26 = .ok (.aload_n 0, 1) := by decide +kernel
theorem dM_told_27 : decode bM_told 27 = .ok (.getfield 12, 3) := by decide +kernel
theorem dM_told_30 : decode bM_told 30 = .ok (.iload_n 1, 1) := by decide +kernel
theorem dM_told_31 : decode bM_told 31 = .ok (.invokevirtual 99, 3) := by decide +kernel
theorem dM_told_34 : decode bM_told 34 = .ok (.ireturn, 1) := by decide +kernel
theorem dM_closure_0 : decode bM_closure 0 = .ok (.aload_n 0, 1) := by decide +kernel
theorem dM_closure_1 : decode bM_closure 1 = .ok (.iload_n 1, 1) := by decide +kernel
theorem dM_closure_2 : decode bM_closure 2 = .ok (.invokevirtual 49, 3) := by decide +kernel
theorem dM_closure_5 : decode bM_closure 5 = .ok (.aload_n 0, 1) := by decide +kernel
theorem dM_closure_6 : decode bM_closure 6 = .ok (.getfield 12, 3) := by decide +kernel
theorem dM_closure_9 : decode bM_closure 9 = .ok (.iload_n 1, 1) := by decide +kernel
theorem dM_closure_10 : decode bM_closure 10 = .ok (.invokevirtual 102, 3) := by decide +kernel
theorem dM_closure_13 : decode bM_closure 13 = .ok (.ireturn, 1) := by decide +kernel
theorem dM_best_0 : decode bM_best 0 = .ok (.iload_n 1, 1) := by decide +kernel
theorem dM_best_1 : decode bM_best 1 = .ok (.invokestatic 105, 3) := by decide +kernel
theorem dM_best_4 : decode bM_best 4 = .ok (.aload_n 0, 1) := by decide +kernel
theorem dM_best_5 : decode bM_best 5 = .ok (.getfield 19, 3) := by decide +kernel
theorem dM_best_8 : decode bM_best 8 = .ok (.aload_n 0, 1) := by decide +kernel
theorem dM_best_9 : decode bM_best 9 = .ok (.getfield 12, 3) := by decide +kernel
theorem dM_best_12 : decode bM_best 12 = .ok (.invokevirtual 108, 3) := by decide +kernel
theorem dM_best_15 : decode bM_best 15 = .ok (.aload_n 0, 1) := by decide +kernel
theorem dM_best_16 : decode bM_best 16 = .ok (.getfield 19, 3) := by decide +kernel
theorem dM_best_19 : decode bM_best 19 = .ok (.aload_n 0, 1) := by decide +kernel
theorem dM_best_20 : decode bM_best 20 = .ok (.getfield 19, 3) := by decide +kernel
theorem dM_best_23 : decode bM_best 23 = .ok (.iload_n 1, 1) := by decide +kernel
theorem dM_best_24 : decode bM_best 24 = .ok (.invokevirtual 112, 3) := by decide +kernel
theorem dM_best_27 : decode bM_best 27 = .ok (.invokevirtual 115, 3) := by decide +kernel
theorem dM_best_30 : decode bM_best 30 = .ok (.ireturn, 1) := by decide +kernel
theorem dM_budget_0 : decode bM_budget 0 = .ok (.aload_n 0, 1) := by decide +kernel
theorem dM_budget_1 : decode bM_budget 1 = .ok (.getfield 19, 3) := by decide +kernel
theorem dM_budget_4 : decode bM_budget 4 = .ok (.aload_n 0, 1) := by decide +kernel
theorem dM_budget_5 : decode bM_budget 5 = .ok (.getfield 12, 3) := by decide +kernel
theorem dM_budget_8 : decode bM_budget 8 = .ok (.invokevirtual 108, 3) := by decide +kernel
theorem dM_budget_11 : decode bM_budget 11 = .ok (.aload_n 0, 1) := by decide +kernel
theorem dM_budget_12 : decode bM_budget 12 = .ok (.getfield 19, 3) := by decide +kernel
theorem dM_budget_15 : decode bM_budget 15 = .ok (.iload_n 1, 1) := by decide +kernel
theorem dM_budget_16 : decode bM_budget 16 = .ok (.invokevirtual 118, 3) := by decide +kernel
theorem dM_budget_19 : decode bM_budget 19 = .ok (.istore_n 2, 1) := by decide +kernel
theorem dM_budget_20 : decode bM_budget 20 = .ok (.iload_n 2, 1) := by decide +kernel
theorem dM_budget_21 : decode bM_budget 21 = .ok (.iconst (-1), 1) := by decide +kernel
theorem dM_budget_22 : decode bM_budget 22 = .ok (.if_icmp .ne 7, 3) := by decide +kernel
theorem dM_budget_25 : decode bM_budget 25 = .ok (.iconst (-1), 1) := by decide +kernel
theorem dM_budget_26 : decode bM_budget 26 = .ok (.goto 11, 3) := by decide +kernel
theorem dM_budget_29 : decode bM_budget 29 = .ok (.aload_n 0, 1) := by decide +kernel
theorem dM_budget_30 : decode bM_budget 30 = .ok (.getfield 19, 3) := by decide +kernel
theorem dM_budget_33 : decode bM_budget 33 = .ok (.iload_n 2, 1) := by decide +kernel
theorem dM_budget_34 : decode bM_budget 34 = .ok (.invokevirtual 121, 3) := by decide +kernel
theorem dM_budget_37 : decode bM_budget 37 = .ok (.ireturn, 1) := by decide +kernel
theorem dM_worth_0 : decode bM_worth 0 = .ok (.iload_n 1, 1) := by decide +kernel
theorem dM_worth_1 : decode bM_worth 1 = .ok (.invokestatic 105, 3) := by decide +kernel
theorem dM_worth_4 : decode bM_worth 4 = .ok (.iload_n 2, 1) := by decide +kernel
theorem dM_worth_5 : decode bM_worth 5 = .ok (.invokestatic 105, 3) := by decide +kernel
theorem dM_worth_8 : decode bM_worth 8 = .ok (.iload_n 1, 1) := by decide +kernel
theorem dM_worth_9 : decode bM_worth 9 = .ok (.ldc 124, 2) := by decide +kernel
theorem dM_worth_11 : decode bM_worth 11 = .ok (.if_icmp .gt 11, 3) := by decide +kernel
theorem dM_worth_14 : decode bM_worth 14 = .ok (.iload_n 2, 1) := by decide +kernel
theorem dM_worth_15 : decode bM_worth 15 = .ok (.ldc 124, 2) := by decide +kernel
theorem dM_worth_17 : decode bM_worth 17 = .ok (.iload_n 1, 1) := by decide +kernel
theorem dM_worth_18 : decode bM_worth 18 = .ok (.isub, 1) := by decide +kernel
theorem dM_worth_19 : decode bM_worth 19 = .ok (.if_icmp .le 13, 3) := by decide +kernel
theorem dM_worth_22 : decode bM_worth 22 = .ok (.new 125, 3) := by decide +kernel
theorem dM_worth_25 : decode bM_worth 25 = .ok (.dup, 1) := by decide +kernel
theorem dM_worth_26 : decode bM_worth 26 = .ok (.ldc 127, 2) := by decide +kernel
theorem dM_worth_28 : decode bM_worth 28 = .ok (.invokespecial 129, 3) := by decide +kernel
theorem dM_worth_31 : decode bM_worth 31 = .ok (.athrow, 1) := by decide +kernel
theorem dM_worth_32 : decode bM_worth 32 = .ok (.aload_n 0, 1) := by decide +kernel
theorem dM_worth_33 : decode bM_worth 33 = .ok (.getfield 19, 3) := by decide +kernel
theorem dM_worth_36 : decode bM_worth 36 = .ok (.aload_n 0, 1) := by decide +kernel
theorem dM_worth_37 : decode bM_worth 37 = .ok (.getfield 12, 3) := by decide +kernel
theorem dM_worth_40 : decode bM_worth 40 = .ok (.invokevirtual 108, 3) := by decide +kernel
theorem dM_worth_43 : decode bM_worth 43 = .ok (.aload_n 0, 1) := by decide +kernel
theorem dM_worth_44 : decode bM_worth 44 = .ok (.getfield 19, 3) := by decide +kernel
theorem dM_worth_47 : decode bM_worth 47 = .ok (.aload_n 0, 1) := by decide +kernel
theorem dM_worth_48 : decode bM_worth 48 = .ok (.getfield 19, 3) := by decide +kernel
theorem dM_worth_51 : decode bM_worth 51 = .ok (.iload_n 1, 1) := by decide +kernel
theorem dM_worth_52 : decode bM_worth 52 = .ok (.iload_n 2, 1) := by decide +kernel
theorem dM_worth_53 : decode bM_worth 53 = .ok (.iadd, 1) := by decide +kernel
theorem dM_worth_54 : decode bM_worth 54 = .ok (.invokevirtual 112, 3) := by decide +kernel
theorem dM_worth_57 : decode bM_worth 57 = .ok (.invokevirtual 130, 3) := by decide +kernel
theorem dM_worth_60 : decode bM_worth 60 = .ok (.istore_n 3, 1) := by decide +kernel
theorem dM_worth_61 : decode bM_worth 61 = .ok (.iload_n 3, 1) := by decide +kernel
theorem dM_worth_62 : decode bM_worth 62 = .ok (.aload_n 0, 1) := by decide +kernel
theorem dM_worth_63 : decode bM_worth 63 = .ok (.getfield 19, 3) := by decide +kernel
theorem dM_worth_66 : decode bM_worth 66 = .ok (.aload_n 0, 1) := by decide +kernel
theorem dM_worth_67 : decode bM_worth 67 = .ok (.getfield 19, 3) := by decide +kernel
theorem dM_worth_70 : decode bM_worth 70 = .ok (.iload_n 1, 1) := by decide +kernel
theorem dM_worth_71 : decode bM_worth 71 = .ok (.invokevirtual 112, 3) := by decide +kernel
theorem dM_worth_74 : decode bM_worth 74 = .ok (.invokevirtual 130, 3) := by decide +kernel
theorem dM_worth_77 : decode bM_worth 77 = .ok (.isub, 1) := by decide +kernel
theorem dM_worth_78 : decode bM_worth 78 = .ok (.ireturn, 1) := by decide +kernel
theorem dM_frontier_0 : decode bM_frontier 0 = .ok (.iload_n 1, 1) := by decide +kernel
theorem dM_frontier_1 : decode bM_frontier 1 = .ok (.invokestatic 105, 3) := by decide +kernel
theorem dM_frontier_4 : decode bM_frontier 4 = .ok (.aload_n 0, 1) := by decide +kernel
theorem dM_frontier_5 : decode bM_frontier 5 = .ok (.getfield 19, 3) := by decide +kernel
theorem dM_frontier_8 : decode bM_frontier 8 = .ok (.aload_n 0, 1) := by decide +kernel
theorem dM_frontier_9 : decode bM_frontier 9 = .ok (.getfield 12, 3) := by decide +kernel
theorem dM_frontier_12 : decode bM_frontier 12 = .ok (.invokevirtual 108, 3) := by decide +kernel
theorem dM_frontier_15 : decode bM_frontier 15 = .ok (.iload_n 1, 1) := by decide +kernel
theorem dM_frontier_16 : decode bM_frontier 16 = .ok (.aload_n 0, 1) := by decide +kernel
theorem dM_frontier_17 : decode bM_frontier 17 = .ok (.getfield 19, 3) := by decide +kernel
theorem dM_frontier_20 : decode bM_frontier 20 = .ok (.getfield 133, 3) := by decide +kernel
theorem dM_frontier_23 : decode bM_frontier 23 = .ok (.if_icmp .ge 14, 3) := by decide +kernel
theorem dM_frontier_26 : decode bM_frontier 26 = .ok (.aload_n 0, 1) := by decide +kernel
theorem dM_frontier_27 : decode bM_frontier 27 = .ok (.getfield 19, 3) := by decide +kernel
theorem dM_frontier_30 : decode bM_frontier 30 = .ok (.iload_n 1, 1) := by decide +kernel
theorem dM_frontier_31 : decode bM_frontier 31 = .ok (.invokevirtual 115, 3) := by decide +kernel
theorem dM_frontier_34 : decode bM_frontier 34 = .ok (.goto 4, 3) := by decide +kernel
theorem dM_frontier_37 : decode bM_frontier 37 = .ok (.iconst (-1), 1) := by decide +kernel
theorem dM_frontier_38 : decode bM_frontier 38 = .ok (.ireturn, 1) := by decide +kernel
theorem dM_year_0 : decode bM_year 0 = .ok (.iload_n 1, 1) := by decide +kernel
theorem dM_year_1 : decode bM_year 1 = .ok (.iconst 0, 1) := by decide +kernel
theorem dM_year_2 : decode bM_year 2 = .ok (.iconst 3, 1) := by decide +kernel
theorem dM_year_3 : decode bM_year 3 = .ok (.invokestatic 78, 3) := by decide +kernel
theorem dM_year_6 : decode bM_year 6 = .ok (.iload_n 2, 1) := by decide +kernel
theorem dM_year_7 : decode bM_year 7 = .ok (.iconst 0, 1) := by decide +kernel
theorem dM_year_8 : decode bM_year 8 = .ok (.ldc 136, 2) := by decide +kernel
theorem dM_year_10 : decode bM_year 10 = .ok (.invokestatic 78, 3) := by decide +kernel
theorem dM_year_13 : decode bM_year 13 = .ok (.aload_n 0, 1) := by decide +kernel
theorem dM_year_14 : decode bM_year 14 = .ok (.getfield 26, 3) := by decide +kernel
theorem dM_year_17 : decode bM_year 17 = .ok (.getfield 137, 3) := by decide +kernel
theorem dM_year_20 : decode bM_year 20 = .ok (.iload_n 1, 1) := by decide +kernel
theorem dM_year_21 : decode bM_year 21 = .ok (.iaload, 1) := by decide +kernel
theorem dM_year_22 : decode bM_year 22 = .ok (.istore_n 3, 1) := by decide +kernel
theorem dM_year_23 : decode bM_year 23 = .ok (.aload_n 0, 1) := by decide +kernel
theorem dM_year_24 : decode bM_year 24 = .ok (.getfield 26, 3) := by decide +kernel
theorem dM_year_27 : decode bM_year 27 = .ok (.getfield 137, 3) := by decide +kernel
theorem dM_year_30 : decode bM_year 30 = .ok (.iload_n 1, 1) := by decide +kernel
theorem dM_year_31 : decode bM_year 31 = .ok (.iload_n 2, 1) := by decide +kernel
theorem dM_year_32 : decode bM_year 32 = .ok (.iastore, 1) := by decide +kernel
theorem dM_year_33 : decode bM_year 33 = .ok (.iload_n 3, 1) := by decide +kernel
theorem dM_year_34 : decode bM_year 34 = .ok (.ireturn, 1) := by decide +kernel
theorem dM_plan_0 : decode bM_plan 0 = .ok (.iload_n 1, 1) := by decide +kernel
theorem dM_plan_1 : decode bM_plan 1 = .ok (.iconst 1, 1) := by decide +kernel
theorem dM_plan_2 : decode bM_plan 2 = .ok (.iconst 4, 1) := by decide +kernel
theorem dM_plan_3 : decode bM_plan 3 = .ok (.invokestatic 78, 3) := by decide +kernel
theorem dM_plan_6 : decode bM_plan 6 = .ok (.iload_n 2, 1) := by decide +kernel
theorem dM_plan_7 : decode bM_plan 7 = .ok (.iconst 0, 1) := by decide +kernel
theorem dM_plan_8 : decode bM_plan 8 = .ok (.iload_n 1, 1) := by decide +kernel
theorem dM_plan_9 : decode bM_plan 9 = .ok (.iconst 1, 1) := by decide +kernel
theorem dM_plan_10 : decode bM_plan 10 = .ok (.isub, 1) := by decide +kernel
theorem dM_plan_11 : decode bM_plan 11 = .ok (.invokestatic 78, 3) := by decide +kernel
theorem dM_plan_14 : decode bM_plan 14 = .ok (.aload_n 0, 1) := by decide +kernel
theorem dM_plan_15 : decode bM_plan 15 = .ok (.getfield 26, 3) := by decide +kernel
theorem dM_plan_18 : decode bM_plan 18 = .ok (.aload_n 0, 1) := by decide +kernel
theorem dM_plan_19 : decode bM_plan 19 = .ok (.getfield 12, 3) := by decide +kernel
theorem dM_plan_22 : decode bM_plan 22 = .ok (.iload_n 1, 1) := by decide +kernel
theorem dM_plan_23 : decode bM_plan 23 = .ok (.invokevirtual 140, 3) := by decide +kernel
theorem dM_plan_26 : decode bM_plan 26 = .ok (.aload_n 0, 1) := by decide +kernel
theorem dM_plan_27 : decode bM_plan 27 = .ok (.getfield 26, 3) := by decide +kernel
theorem dM_plan_30 : decode bM_plan 30 = .ok (.iload_n 2, 1) := by decide +kernel
theorem dM_plan_31 : decode bM_plan 31 = .ok (.invokevirtual 144, 3) := by decide +kernel
theorem dM_plan_34 : decode bM_plan 34 = .ok (.ireturn, 1) := by decide +kernel
theorem dM_planned_0 : decode bM_planned 0 = .ok (.iload_n 1, 1) := by decide +kernel
theorem dM_planned_1 : decode bM_planned 1 = .ok (.iconst 1, 1) := by decide +kernel
theorem dM_planned_2 : decode bM_planned 2 = .ok (.iconst 4, 1) := by decide +kernel
theorem dM_planned_3 : decode bM_planned 3 = .ok (.invokestatic 78, 3) := by decide +kernel
theorem dM_planned_6 : decode bM_planned 6 = .ok (.aload_n 0, 1) := by decide +kernel
theorem dM_planned_7 : decode bM_planned 7 = .ok (.getfield 26, 3) := by decide +kernel
theorem dM_planned_10 : decode bM_planned 10 = .ok (.aload_n 0, 1) := by decide +kernel
theorem dM_planned_11 : decode bM_planned 11 = .ok (.getfield 12, 3) := by decide +kernel
theorem dM_planned_14 : decode bM_planned 14 = .ok (.iload_n 1, 1) := by decide +kernel
theorem dM_planned_15 : decode bM_planned 15 = .ok (.invokevirtual 140, 3) := by decide +kernel
theorem dM_planned_18 : decode bM_planned 18 = .ok (.aload_n 0, 1) := by decide +kernel
theorem dM_planned_19 : decode bM_planned 19 = .ok (.getfield 26, 3) := by decide +kernel
theorem dM_planned_22 : decode bM_planned 22 = .ok (.getfield 147, 3) := by decide +kernel
theorem dM_planned_25 : decode bM_planned 25 = .ok (.iconst 0, 1) := by decide +kernel
theorem dM_planned_26 : decode bM_planned 26 = .ok (.aaload, 1) := by decide +kernel
theorem dM_planned_27 : decode bM_planned 27 = .ok (.aload_n 0, 1) := by decide +kernel
theorem dM_planned_28 : decode bM_planned 28 = .ok (.getfield 26, 3) := by decide +kernel
theorem dM_planned_31 : decode bM_planned 31 = .ok (.iconst 0, 1) := by decide +kernel
theorem dM_planned_32 : decode bM_planned 32 = .ok (.invokevirtual 144, 3) := by decide +kernel
theorem dM_planned_35 : decode bM_planned 35 = .ok (.iaload, 1) := by decide +kernel
theorem dM_planned_36 : decode bM_planned 36 = .ok (.ireturn, 1) := by decide +kernel
theorem dM_requireBetween_0 : decode bM_requireBetween 0 = .ok (.iload_n 0, 1) := by decide +kernel
theorem dM_requireBetween_1 : decode bM_requireBetween 1 = .ok (.iload_n 1, 1) := by decide +kernel
theorem dM_requireBetween_2 : decode bM_requireBetween 2 = .ok (.if_icmp .lt 8, 3) := by decide +kernel
theorem dM_requireBetween_5 : decode bM_requireBetween 5 = .ok (.iload_n 0, 1) := by decide +kernel
theorem dM_requireBetween_6 : decode bM_requireBetween 6 = .ok (.iload_n 2, 1) := by decide +kernel
theorem dM_requireBetween_7 : decode bM_requireBetween 7 = .ok (.if_icmp .le 13, 3) := by decide +kernel
theorem dM_requireBetween_10 : decode bM_requireBetween 10 = .ok (.new 125, 3) := by decide +kernel
theorem dM_requireBetween_13 : decode bM_requireBetween 13 = .ok (.dup, 1) := by decide +kernel
theorem dM_requireBetween_14 : decode bM_requireBetween 14 = .ok (.ldc 150, 2) := by decide +kernel
theorem dM_requireBetween_16 : decode bM_requireBetween 16 = .ok (.invokespecial 129, 3) := by decide +kernel
theorem dM_requireBetween_19 : decode bM_requireBetween 19 = .ok (.athrow, 1) := by decide +kernel
theorem dM_requireBetween_20 : decode bM_requireBetween 20 = .ok (.return_, 1) := by decide +kernel
theorem dM_requireNotBelowZero_0 : decode bM_requireNotBelowZero 0 = .ok (.iload_n 0, 1) := by decide +kernel
theorem dM_requireNotBelowZero_1 : decode bM_requireNotBelowZero 1 = .ok (.ifCond .ge 13, 3) := by decide +kernel
theorem dM_requireNotBelowZero_4 : decode bM_requireNotBelowZero 4 = .ok (.new 125, 3) := by decide +kernel
theorem dM_requireNotBelowZero_7 : decode bM_requireNotBelowZero 7 = .ok (.dup, 1) := by decide +kernel
theorem dM_requireNotBelowZero_8 : decode bM_requireNotBelowZero 8 = .ok (.ldc 152, 2) := by decide +kernel
theorem dM_requireNotBelowZero_10 : decode bM_requireNotBelowZero 10 = .ok (.invokespecial 129, 3) := by decide +kernel
theorem dM_requireNotBelowZero_13 : decode bM_requireNotBelowZero 13 = .ok (.athrow, 1) := by decide +kernel
theorem dM_requireNotBelowZero_14 : decode bM_requireNotBelowZero 14 = .ok (.return_, 1) := by decide +kernel
theorem dM_requireCostAndGain_0 : decode bM_requireCostAndGain 0 = .ok (.iload_n 0, 1) := by decide +kernel
theorem dM_requireCostAndGain_1 : decode bM_requireCostAndGain 1 = .ok (.iconst 1, 1) := by decide +kernel
theorem dM_requireCostAndGain_2 : decode bM_requireCostAndGain 2 = .ok (.sipush 10000, 3) := by decide +kernel
theorem dM_requireCostAndGain_5 : decode bM_requireCostAndGain 5 = .ok (.invokestatic 78, 3) := by decide +kernel
theorem dM_requireCostAndGain_8 : decode bM_requireCostAndGain 8 = .ok (.iload_n 1, 1) := by decide +kernel
theorem dM_requireCostAndGain_9 : decode bM_requireCostAndGain 9 = .ok (.iconst 0, 1) := by decide +kernel
theorem dM_requireCostAndGain_10 : decode bM_requireCostAndGain 10 = .ok (.sipush 10000, 3) := by decide +kernel
theorem dM_requireCostAndGain_13 : decode bM_requireCostAndGain 13 = .ok (.invokestatic 78, 3) := by decide +kernel
theorem dM_requireCostAndGain_16 : decode bM_requireCostAndGain 16 = .ok (.return_, 1) := by decide +kernel
theorem dM_requireMeasure_0 : decode bM_requireMeasure 0 = .ok (.iload_n 1, 1) := by decide +kernel
theorem dM_requireMeasure_1 : decode bM_requireMeasure 1 = .ok (.ifCond .lt 14, 3) := by decide +kernel
theorem dM_requireMeasure_4 : decode bM_requireMeasure 4 = .ok (.iload_n 1, 1) := by decide +kernel
theorem dM_requireMeasure_5 : decode bM_requireMeasure 5 = .ok (.aload_n 0, 1) := by decide +kernel
theorem dM_requireMeasure_6 : decode bM_requireMeasure 6 = .ok (.getfield 12, 3) := by decide +kernel
theorem dM_requireMeasure_9 : decode bM_requireMeasure 9 = .ok (.getfield 34, 3) := by decide +kernel
theorem dM_requireMeasure_12 : decode bM_requireMeasure 12 = .ok (.if_icmp .lt 13, 3) := by decide +kernel
theorem dM_requireMeasure_15 : decode bM_requireMeasure 15 = .ok (.new 125, 3) := by decide +kernel
theorem dM_requireMeasure_18 : decode bM_requireMeasure 18 = .ok (.dup, 1) := by decide +kernel
theorem dM_requireMeasure_19 : decode bM_requireMeasure 19 = .ok (.ldc 154, 2) := by decide +kernel
theorem dM_requireMeasure_21 : decode bM_requireMeasure 21 = .ok (.invokespecial 129, 3) := by decide +kernel
theorem dM_requireMeasure_24 : decode bM_requireMeasure 24 = .ok (.athrow, 1) := by decide +kernel
theorem dM_requireMeasure_25 : decode bM_requireMeasure 25 = .ok (.return_, 1) := by decide +kernel
theorem dM_requirePair_0 : decode bM_requirePair 0 = .ok (.aload_n 0, 1) := by decide +kernel
theorem dM_requirePair_1 : decode bM_requirePair 1 = .ok (.iload_n 1, 1) := by decide +kernel
theorem dM_requirePair_2 : decode bM_requirePair 2 = .ok (.invokevirtual 49, 3) := by decide +kernel
theorem dM_requirePair_5 : decode bM_requirePair 5 = .ok (.aload_n 0, 1) := by decide +kernel
theorem dM_requirePair_6 : decode bM_requirePair 6 = .ok (.iload_n 2, 1) := by decide +kernel
theorem dM_requirePair_7 : decode bM_requirePair 7 = .ok (.invokevirtual 49, 3) := by decide +kernel
theorem dM_requirePair_10 : decode bM_requirePair 10 = .ok (.iload_n 1, 1) := by decide +kernel
theorem dM_requirePair_11 : decode bM_requirePair 11 = .ok (.iload_n 2, 1) := by decide +kernel
theorem dM_requirePair_12 : decode bM_requirePair 12 = .ok (.if_icmp .ne 13, 3) := by decide +kernel
theorem dM_requirePair_15 : decode bM_requirePair 15 = .ok (.new 125, 3) := by decide +kernel
theorem dM_requirePair_18 : decode bM_requirePair 18 = .ok (.dup, 1) := by decide +kernel
theorem dM_requirePair_19 : decode bM_requirePair 19 = .ok (.ldc 156, 2) := by decide +kernel
theorem dM_requirePair_21 : decode bM_requirePair 21 = .ok (.invokespecial 129, 3) := by decide +kernel
theorem dM_requirePair_24 : decode bM_requirePair 24 = .ok (.athrow, 1) := by decide +kernel
theorem dM_requirePair_25 : decode bM_requirePair 25 = .ok (.return_, 1) := by decide +kernel
theorem dM_requireSet_0 : decode bM_requireSet 0 = .ok (.iload_n 1, 1) := by decide +kernel
theorem dM_requireSet_1 : decode bM_requireSet 1 = .ok (.ifCond .lt 16, 3) := by decide +kernel
theorem dM_requireSet_4 : decode bM_requireSet 4 = .ok (.iload_n 1, 1) := by decide +kernel
theorem dM_requireSet_5 : decode bM_requireSet 5 = .ok (.iconst 1, 1) := by decide +kernel
theorem dM_requireSet_6 : decode bM_requireSet 6 = .ok (.aload_n 0, 1) := by decide +kernel
theorem dM_requireSet_7 : decode bM_requireSet 7 = .ok (.getfield 12, 3) := by decide +kernel
theorem dM_requireSet_10 : decode bM_requireSet 10 = .ok (.getfield 34, 3) := by decide +kernel
theorem dM_requireSet_13 : decode bM_requireSet 13 = .ok (.ishl, 1) := by decide +kernel
theorem dM_requireSet_14 : decode bM_requireSet 14 = .ok (.if_icmp .lt 13, 3) := by decide +kernel
theorem dM_requireSet_17 : decode bM_requireSet 17 = .ok (.new 125, 3) := by decide +kernel
theorem dM_requireSet_20 : decode bM_requireSet 20 = .ok (.dup, 1) := by decide +kernel
theorem dM_requireSet_21 : decode bM_requireSet 21 = .ok (.ldc 158, 2) := by decide +kernel
theorem dM_requireSet_23 : decode bM_requireSet 23 = .ok (.invokespecial 129, 3) := by decide +kernel
theorem dM_requireSet_26 : decode bM_requireSet 26 = .ok (.athrow, 1) := by decide +kernel
theorem dM_requireSet_27 : decode bM_requireSet 27 = .ok (.return_, 1) := by decide +kernel
theorem dH_init_0 : decode bH_init 0 = .ok (.aload_n 0, 1) := by decide +kernel
theorem dH_init_1 : decode bH_init 1 = .ok (.invokespecial 3, 3) := by decide +kernel
theorem dH_init_4 : decode bH_init 4 = .ok (.aload_n 0, 1) := by decide +kernel
theorem dH_init_5 : decode bH_init 5 = .ok (.bipush 12, 2) := by decide +kernel
theorem dH_init_7 : decode bH_init 7 = .ok (.newarray .int, 2) := by decide +kernel
theorem dH_init_9 : decode bH_init 9 = .ok (.putfield 9, 3) := by decide +kernel
theorem dH_init_12 : decode bH_init 12 = .ok (.aload_n 0, 1) := by decide +kernel
theorem dH_init_13 : decode bH_init 13 = .ok (.bipush 12, 2) := by decide +kernel
theorem dH_init_15 : decode bH_init 15 = .ok (.newarray .int, 2) := by decide +kernel
theorem dH_init_17 : decode bH_init 17 = .ok (.putfield 15, 3) := by decide +kernel
theorem dH_init_20 : decode bH_init 20 = .ok (.aload_n 0, 1) := by decide +kernel
theorem dH_init_21 : decode bH_init 21 = .ok (.bipush 12, 2) := by decide +kernel
theorem dH_init_23 : decode bH_init 23 = .ok (.newarray .int, 2) := by decide +kernel
theorem dH_init_25 : decode bH_init 25 = .ok (.putfield 18, 3) := by decide +kernel
theorem dH_init_28 : decode bH_init 28 = .ok (.aload_n 0, 1) := by decide +kernel
theorem dH_init_29 : decode bH_init 29 = .ok (.bipush 12, 2) := by decide +kernel
theorem dH_init_31 : decode bH_init 31 = .ok (.newarray .int, 2) := by decide +kernel
theorem dH_init_33 : decode bH_init 33 = .ok (.putfield 21, 3) := by decide +kernel
theorem dH_init_36 : decode bH_init 36 = .ok (.aload_n 0, 1) := by decide +kernel
theorem dH_init_37 : decode bH_init 37 = .ok (.bipush 12, 2) := by decide +kernel
theorem dH_init_39 : decode bH_init 39 = .ok (.bipush 12, 2) := by decide +kernel
theorem dH_init_41 : decode bH_init 41 = .ok (.multianewarray 24 2, 4) := by decide +kernel
theorem dH_init_45 : decode bH_init 45 = .ok (.putfield 26, 3) := by decide +kernel
theorem dH_init_48 : decode bH_init 48 = .ok (.return_, 1) := by decide +kernel
theorem dH_add_0 : decode bH_add 0 = .ok (.aload_n 0, 1) := by decide +kernel
theorem dH_add_1 : decode bH_add 1 = .ok (.getfield 29, 3) := by decide +kernel
theorem dH_add_4 : decode bH_add 4 = .ok (.istore_n 3, 1) := by decide +kernel
theorem dH_add_5 : decode bH_add 5 = .ok (.aload_n 0, 1) := by decide +kernel
theorem dH_add_6 : decode bH_add 6 = .ok (.dup, 1) := by decide +kernel
theorem dH_add_7 : decode bH_add 7 = .ok (.getfield 29, 3) := by decide +kernel
theorem dH_add_10 : decode bH_add 10 = .ok (.iconst 1, 1) := by decide +kernel
theorem dH_add_11 : decode bH_add 11 = .ok (.iadd, 1) := by decide +kernel
theorem dH_add_12 : decode bH_add 12 = .ok (.putfield 29, 3) := by decide +kernel
theorem dH_add_15 : decode bH_add 15 = .ok (.aload_n 0, 1) := by decide +kernel
theorem dH_add_16 : decode bH_add 16 = .ok (.iload_n 3, 1) := by decide +kernel
theorem dH_add_17 : decode bH_add 17 = .ok (.iload_n 1, 1) := by decide +kernel
theorem dH_add_18 : decode bH_add 18 = .ok (.iload_n 2, 1) := by decide +kernel
theorem dH_add_19 : decode bH_add 19 = .ok (.invokevirtual 33, 3) := by decide +kernel
theorem dH_add_22 : decode bH_add 22 = .ok (.iload_n 3, 1) := by decide +kernel
theorem dH_add_23 : decode bH_add 23 = .ok (.ireturn, 1) := by decide +kernel
theorem dH_put_0 : decode bH_put 0 = .ok (.aload_n 0, 1) := by decide +kernel
theorem dH_put_1 : decode bH_put 1 = .ok (.getfield 9, 3) := by decide +kernel
theorem dH_put_4 : decode bH_put 4 = .ok (.iload_n 1, 1) := by decide +kernel
theorem dH_put_5 : decode bH_put 5 = .ok (.iload_n 2, 1) := by decide +kernel
theorem dH_put_6 : decode bH_put 6 = .ok (.iastore, 1) := by decide +kernel
theorem dH_put_7 : decode bH_put 7 = .ok (.aload_n 0, 1) := by decide +kernel
theorem dH_put_8 : decode bH_put 8 = .ok (.getfield 15, 3) := by decide +kernel
theorem dH_put_11 : decode bH_put 11 = .ok (.iload_n 1, 1) := by decide +kernel
theorem dH_put_12 : decode bH_put 12 = .ok (.iload_n 3, 1) := by decide +kernel
theorem dH_put_13 : decode bH_put 13 = .ok (.iastore, 1) := by decide +kernel
theorem dH_put_14 : decode bH_put 14 = .ok (.aload_n 0, 1) := by decide +kernel
theorem dH_put_15 : decode bH_put 15 = .ok (.dup, 1) := by decide +kernel
theorem dH_put_16 : decode bH_put 16 = .ok (.getfield 37, 3) := by decide +kernel
theorem dH_put_19 : decode bH_put 19 = .ok (.iconst 1, 1) := by decide +kernel
theorem dH_put_20 : decode bH_put 20 = .ok (.iadd, 1) := by decide +kernel
theorem dH_put_21 : decode bH_put 21 = .ok (.putfield 37, 3) := by decide +kernel
theorem dH_put_24 : decode bH_put 24 = .ok (.return_, 1) := by decide +kernel
theorem dH_putExcluded_0 : decode bH_putExcluded 0 = .ok (.aload_n 0, 1) := by decide +kernel
theorem dH_putExcluded_1 : decode bH_putExcluded 1 = .ok (.getfield 18, 3) := by decide +kernel
theorem dH_putExcluded_4 : decode bH_putExcluded 4 = .ok (.iload_n 1, 1) := by decide +kernel
theorem dH_putExcluded_5 : decode bH_putExcluded 5 = .ok (.aload_n 0, 1) := by decide +kernel
theorem dH_putExcluded_6 : decode bH_putExcluded 6 = .ok (.getfield 18, 3) := by decide +kernel
theorem dH_putExcluded_9 : decode bH_putExcluded 9 = .ok (.iload_n 1, 1) := by decide +kernel
theorem dH_putExcluded_10 : decode bH_putExcluded 10 = .ok (.iaload, 1) := by decide +kernel
theorem dH_putExcluded_11 : decode bH_putExcluded 11 = .ok (.iload_n 2, 1) := by decide +kernel
theorem dH_putExcluded_12 : decode bH_putExcluded 12 = .ok (.iload_n 3, 1) := by decide +kernel
theorem dH_putExcluded_13 : decode bH_putExcluded 13 = .ok (.invokestatic 40, 3) := by decide +kernel
theorem dH_putExcluded_16 : decode bH_putExcluded 16 = .ok (.iastore, 1) := by decide +kernel
theorem dH_putExcluded_17 : decode bH_putExcluded 17 = .ok (.aload_n 0, 1) := by decide +kernel
theorem dH_putExcluded_18 : decode bH_putExcluded 18 = .ok (.getfield 18, 3) := by decide +kernel
theorem dH_putExcluded_21 : decode bH_putExcluded 21 = .ok (.iload_n 2, 1) := by decide +kernel
theorem dH_putExcluded_22 : decode bH_putExcluded 22 = .ok (.aload_n 0, 1) := by decide +kernel
theorem dH_putExcluded_23 : decode bH_putExcluded 23 = .ok (.getfield 18, 3) := by decide +kernel
theorem dH_putExcluded_26 : decode bH_putExcluded 26 = .ok (.iload_n 2, 1) := by decide +kernel
theorem dH_putExcluded_27 : decode bH_putExcluded 27 = .ok (.iaload, 1) := by decide +kernel
theorem dH_putExcluded_28 : decode bH_putExcluded 28 = .ok (.iload_n 1, 1) := by decide +kernel
theorem dH_putExcluded_29 : decode bH_putExcluded 29 = .ok (.iload_n 3, 1) := by decide +kernel
theorem dH_putExcluded_30 : decode bH_putExcluded 30 = .ok (.invokestatic 40, 3) := by decide +kernel
theorem dH_putExcluded_33 : decode bH_putExcluded 33 = .ok (.iastore, 1) := by decide +kernel
theorem dH_putExcluded_34 : decode bH_putExcluded 34 = .ok (.aload_n 0, 1) := by decide +kernel
theorem dH_putExcluded_35 : decode bH_putExcluded 35 = .ok (.dup, 1) := by decide +kernel
theorem dH_putExcluded_36 : decode bH_putExcluded 36 = .ok (.getfield 37, 3) := by decide +kernel
theorem dH_putExcluded_39 : decode bH_putExcluded 39 = .ok (.iconst 1, 1) := by decide +kernel
theorem dH_putExcluded_40 : decode bH_putExcluded 40 = .ok (.iadd, 1) := by decide +kernel
theorem dH_putExcluded_41 : decode bH_putExcluded 41 = .ok (.putfield 37, 3) := by decide +kernel
theorem dH_putExcluded_44 : decode bH_putExcluded 44 = .ok (.return_, 1) := by decide +kernel
theorem dH_putNeeded_0 : decode bH_putNeeded 0 = .ok (.aload_n 0, 1) := by decide +kernel
theorem dH_putNeeded_1 : decode bH_putNeeded 1 = .ok (.getfield 21, 3) := by decide +kernel
theorem dH_putNeeded_4 : decode bH_putNeeded 4 = .ok (.iload_n 1, 1) := by decide +kernel
theorem dH_putNeeded_5 : decode bH_putNeeded 5 = .ok (.aload_n 0, 1) := by decide +kernel
theorem dH_putNeeded_6 : decode bH_putNeeded 6 = .ok (.getfield 21, 3) := by decide +kernel
theorem dH_putNeeded_9 : decode bH_putNeeded 9 = .ok (.iload_n 1, 1) := by decide +kernel
theorem dH_putNeeded_10 : decode bH_putNeeded 10 = .ok (.iaload, 1) := by decide +kernel
theorem dH_putNeeded_11 : decode bH_putNeeded 11 = .ok (.iload_n 2, 1) := by decide +kernel
theorem dH_putNeeded_12 : decode bH_putNeeded 12 = .ok (.iload_n 3, 1) := by decide +kernel
theorem dH_putNeeded_13 : decode bH_putNeeded 13 = .ok (.invokestatic 40, 3) := by decide +kernel
theorem dH_putNeeded_16 : decode bH_putNeeded 16 = .ok (.iastore, 1) := by decide +kernel
theorem dH_putNeeded_17 : decode bH_putNeeded 17 = .ok (.aload_n 0, 1) := by decide +kernel
theorem dH_putNeeded_18 : decode bH_putNeeded 18 = .ok (.dup, 1) := by decide +kernel
theorem dH_putNeeded_19 : decode bH_putNeeded 19 = .ok (.getfield 37, 3) := by decide +kernel
theorem dH_putNeeded_22 : decode bH_putNeeded 22 = .ok (.iconst 1, 1) := by decide +kernel
theorem dH_putNeeded_23 : decode bH_putNeeded 23 = .ok (.iadd, 1) := by decide +kernel
theorem dH_putNeeded_24 : decode bH_putNeeded 24 = .ok (.putfield 37, 3) := by decide +kernel
theorem dH_putNeeded_27 : decode bH_putNeeded 27 = .ok (.return_, 1) := by decide +kernel
theorem dH_putBonus_0 : decode bH_putBonus 0 = .ok (.aload_n 0, 1) := by decide +kernel
theorem dH_putBonus_1 : decode bH_putBonus 1 = .ok (.getfield 26, 3) := by decide +kernel
theorem dH_putBonus_4 : decode bH_putBonus 4 = .ok (.iload_n 1, 1) := by decide +kernel
theorem dH_putBonus_5 : decode bH_putBonus 5 = .ok (.aaload, 1) := by decide +kernel
theorem dH_putBonus_6 : decode bH_putBonus 6 = .ok (.iload_n 2, 1) := by decide +kernel
theorem dH_putBonus_7 : decode bH_putBonus 7 = .ok (.iload_n 3, 1) := by decide +kernel
theorem dH_putBonus_8 : decode bH_putBonus 8 = .ok (.iastore, 1) := by decide +kernel
theorem dH_putBonus_9 : decode bH_putBonus 9 = .ok (.aload_n 0, 1) := by decide +kernel
theorem dH_putBonus_10 : decode bH_putBonus 10 = .ok (.getfield 26, 3) := by decide +kernel
theorem dH_putBonus_13 : decode bH_putBonus 13 = .ok (.iload_n 2, 1) := by decide +kernel
theorem dH_putBonus_14 : decode bH_putBonus 14 = .ok (.aaload, 1) := by decide +kernel
theorem dH_putBonus_15 : decode bH_putBonus 15 = .ok (.iload_n 1, 1) := by decide +kernel
theorem dH_putBonus_16 : decode bH_putBonus 16 = .ok (.iload_n 3, 1) := by decide +kernel
theorem dH_putBonus_17 : decode bH_putBonus 17 = .ok (.iastore, 1) := by decide +kernel
theorem dH_putBonus_18 : decode bH_putBonus 18 = .ok (.aload_n 0, 1) := by decide +kernel
theorem dH_putBonus_19 : decode bH_putBonus 19 = .ok (.dup, 1) := by decide +kernel
theorem dH_putBonus_20 : decode bH_putBonus 20 = .ok (.getfield 37, 3) := by decide +kernel
theorem dH_putBonus_23 : decode bH_putBonus 23 = .ok (.iconst 1, 1) := by decide +kernel
theorem dH_putBonus_24 : decode bH_putBonus 24 = .ok (.iadd, 1) := by decide +kernel
theorem dH_putBonus_25 : decode bH_putBonus 25 = .ok (.putfield 37, 3) := by decide +kernel
theorem dH_putBonus_28 : decode bH_putBonus 28 = .ok (.return_, 1) := by decide +kernel
theorem dH_allows_0 : decode bH_allows 0 = .ok (.iconst 0, 1) := by decide +kernel
theorem dH_allows_1 : decode bH_allows 1 = .ok (.istore_n 2, 1) := by decide +kernel
theorem dH_allows_2 : decode bH_allows 2 = .ok (.iload_n 2, 1) := by decide +kernel
theorem dH_allows_3 : decode bH_allows 3 = .ok (.aload_n 0, 1) := by decide +kernel
theorem dH_allows_4 : decode bH_allows 4 = .ok (.getfield 29, 3) := by decide +kernel
theorem dH_allows_7 : decode bH_allows 7 = .ok (.if_icmp .ge 43, 3) := by decide +kernel
theorem dH_allows_10 : decode bH_allows 10 = .ok (.iload_n 1, 1) := by decide +kernel
theorem dH_allows_11 : decode bH_allows 11 = .ok (.iload_n 2, 1) := by decide +kernel
theorem dH_allows_12 : decode bH_allows 12 = .ok (.invokestatic 44, 3) := by decide +kernel
theorem dH_allows_15 : decode bH_allows 15 = .ok (.ifCond .eq 29, 3) := by decide +kernel
theorem dH_allows_18 : decode bH_allows 18 = .ok (.aload_n 0, 1) := by decide +kernel
theorem dH_allows_19 : decode bH_allows 19 = .ok (.getfield 18, 3) := by decide +kernel
theorem dH_allows_22 : decode bH_allows 22 = .ok (.iload_n 2, 1) := by decide +kernel
theorem dH_allows_23 : decode bH_allows 23 = .ok (.iaload, 1) := by decide +kernel
theorem dH_allows_24 : decode bH_allows 24 = .ok (.iload_n 1, 1) := by decide +kernel
theorem dH_allows_25 : decode bH_allows 25 = .ok (.iand, 1) := by decide +kernel
theorem dH_allows_26 : decode bH_allows 26 = .ok (.ifCond .ne 16, 3) := by decide +kernel
theorem dH_allows_29 : decode bH_allows 29 = .ok (.aload_n 0, 1) := by decide +kernel
theorem dH_allows_30 : decode bH_allows 30 = .ok (.getfield 21, 3) := by decide +kernel
theorem dH_allows_33 : decode bH_allows 33 = .ok (.iload_n 2, 1) := by decide +kernel
theorem dH_allows_34 : decode bH_allows 34 = .ok (.iaload, 1) := by decide +kernel
theorem dH_allows_35 : decode bH_allows 35 = .ok (.iload_n 1, 1) := by decide +kernel
theorem dH_allows_36 : decode bH_allows 36 = .ok (.iconst (-1), 1) := by decide +kernel
theorem dH_allows_37 : decode bH_allows 37 = .ok (.ixor, 1) := by decide +kernel
theorem dH_allows_38 : decode bH_allows 38 = .ok (.iand, 1) := by decide +kernel
theorem dH_allows_39 : decode bH_allows 39 = .ok (.ifCond .eq 5, 3) := by decide +kernel
theorem dH_allows_42 : decode bH_allows 42 = .ok (.iconst 0, 1) := by decide +kernel
theorem dH_allows_43 : decode bH_allows 43 = .ok (.ireturn, 1) := by decide +kernel
theorem dH_allows_44 : decode bH_allows 44 = .ok (.iinc 2 1, 3) := by decide +kernel
theorem dH_allows_47 : decode bH_allows 47 = .ok (.goto (-45), 3) := by decide +kernel
theorem dH_allows_50 : decode bH_allows 50 = .ok (.iconst 1, 1) := by decide +kernel
theorem dH_allows_51 : decode bH_allows 51 = .ok (.ireturn, 1) := by decide +kernel
theorem dH_costOf_0 : decode bH_costOf 0 = .ok (.iconst 0, 1) := by decide +kernel
theorem dH_costOf_1 : decode bH_costOf 1 = .ok (.istore_n 2, 1) := by decide +kernel
theorem dH_costOf_2 : decode bH_costOf 2 = .ok (.iconst 0, 1) := by decide +kernel
theorem dH_costOf_3 : decode bH_costOf 3 = .ok (.istore_n 3, 1) := by decide +kernel
theorem dH_costOf_4 : decode bH_costOf 4 = .ok (.iload_n 3, 1) := by decide +kernel
theorem dH_costOf_5 : decode bH_costOf 5 = .ok (.aload_n 0, 1) := by decide +kernel
theorem dH_costOf_6 : decode bH_costOf 6 = .ok (.getfield 29, 3) := by decide +kernel
theorem dH_costOf_9 : decode bH_costOf 9 = .ok (.if_icmp .ge 26, 3) := by decide +kernel
theorem dH_costOf_12 : decode bH_costOf 12 = .ok (.iload_n 1, 1) := by decide +kernel
theorem dH_costOf_13 : decode bH_costOf 13 = .ok (.iload_n 3, 1) := by decide +kernel
theorem dH_costOf_14 : decode bH_costOf 14 = .ok (.invokestatic 44, 3) := by decide +kernel
theorem dH_costOf_17 : decode bH_costOf 17 = .ok (.ifCond .eq 12, 3) := by decide +kernel
theorem dH_costOf_20 : decode bH_costOf 20 = .ok (.iload_n 2, 1) := by decide +kernel
theorem dH_costOf_21 : decode bH_costOf 21 = .ok (.aload_n 0, 1) := by decide +kernel
theorem dH_costOf_22 : decode bH_costOf 22 = .ok (.getfield 9, 3) := by decide +kernel
theorem dH_costOf_25 : decode bH_costOf 25 = .ok (.iload_n 3, 1) := by decide +kernel
theorem dH_costOf_26 : decode bH_costOf 26 = .ok (.iaload, 1) := by decide +kernel
theorem dH_costOf_27 : decode bH_costOf 27 = .ok (.iadd, 1) := by decide +kernel
theorem dH_costOf_28 : decode bH_costOf 28 = .ok (.istore_n 2, 1) := by decide +kernel
theorem dH_costOf_29 : decode bH_costOf 29 = .ok (.iinc 3 1, 3) := by decide +kernel
theorem dH_costOf_32 : decode bH_costOf 32 = .ok (.goto (-28), 3) := by decide +kernel
theorem dH_costOf_35 : decode bH_costOf 35 = .ok (.iload_n 2, 1) := by decide +kernel
theorem dH_costOf_36 : decode bH_costOf 36 = .ok (.ireturn, 1) := by decide +kernel
theorem dH_gainOf_0 : decode bH_gainOf 0 = .ok (.iconst 0, 1) := by decide +kernel
theorem dH_gainOf_1 : decode bH_gainOf 1 = .ok (.istore_n 2, 1) := by decide +kernel
theorem dH_gainOf_2 : decode bH_gainOf 2 = .ok (.iconst 0, 1) := by decide +kernel
theorem dH_gainOf_3 : decode bH_gainOf 3 = .ok (.istore_n 3, 1) := by decide +kernel
theorem dH_gainOf_4 : decode bH_gainOf 4 = .ok (.iload_n 3, 1) := by decide +kernel
theorem dH_gainOf_5 : decode bH_gainOf 5 = .ok (.aload_n 0, 1) := by decide +kernel
theorem dH_gainOf_6 : decode bH_gainOf 6 = .ok (.getfield 29, 3) := by decide +kernel
theorem dH_gainOf_9 : decode bH_gainOf 9 = .ok (.if_icmp .ge 33, 3) := by decide +kernel
theorem dH_gainOf_12 : decode bH_gainOf 12 = .ok (.iload_n 1, 1) := by decide +kernel
theorem dH_gainOf_13 : decode bH_gainOf 13 = .ok (.iload_n 3, 1) := by decide +kernel
theorem dH_gainOf_14 : decode bH_gainOf 14 = .ok (.invokestatic 44, 3) := by decide +kernel
theorem dH_gainOf_17 : decode bH_gainOf 17 = .ok (.ifCond .eq 19, 3) := by decide +kernel
theorem dH_gainOf_20 : decode bH_gainOf 20 = .ok (.iload_n 2, 1) := by decide +kernel
theorem dH_gainOf_21 : decode bH_gainOf 21 = .ok (.aload_n 0, 1) := by decide +kernel
theorem dH_gainOf_22 : decode bH_gainOf 22 = .ok (.getfield 15, 3) := by decide +kernel
theorem dH_gainOf_25 : decode bH_gainOf 25 = .ok (.iload_n 3, 1) := by decide +kernel
theorem dH_gainOf_26 : decode bH_gainOf 26 = .ok (.iaload, 1) := by decide +kernel
theorem dH_gainOf_27 : decode bH_gainOf 27 = .ok (.aload_n 0, 1) := by decide +kernel
theorem dH_gainOf_28 : decode bH_gainOf 28 = .ok (.iload_n 3, 1) := by decide +kernel
theorem dH_gainOf_29 : decode bH_gainOf 29 = .ok (.iload_n 1, 1) := by decide +kernel
theorem dH_gainOf_30 : decode bH_gainOf 30 = .ok (.invokevirtual 48, 3) := by decide +kernel
theorem dH_gainOf_33 : decode bH_gainOf 33 = .ok (.iadd, 1) := by decide +kernel
theorem dH_gainOf_34 : decode bH_gainOf 34 = .ok (.iadd, 1) := by decide +kernel
theorem dH_gainOf_35 : decode bH_gainOf 35 = .ok (.istore_n 2, 1) := by decide +kernel
theorem dH_gainOf_36 : decode bH_gainOf 36 = .ok (.iinc 3 1, 3) := by decide +kernel
theorem dH_gainOf_39 : decode bH_gainOf 39 = .ok (.goto (-35), 3) := by decide +kernel
theorem dH_gainOf_42 : decode bH_gainOf 42 = .ok (.iload_n 2, 1) := by decide +kernel
theorem dH_gainOf_43 : decode bH_gainOf 43 = .ok (.ireturn, 1) := by decide +kernel
theorem dH_bonusWithEarlier_0 : decode bH_bonusWithEarlier 0 = .ok (.iconst 0, 1) := by decide +kernel
theorem dH_bonusWithEarlier_1 : decode bH_bonusWithEarlier 1 = .ok (.istore_n 3, 1) := by decide +kernel
theorem dH_bonusWithEarlier_2 : decode bH_bonusWithEarlier 2 = .ok (.iconst 0, 1) := by decide +kernel
theorem dH_bonusWithEarlier_3 : decode bH_bonusWithEarlier 3 = .ok (.istore 4, 2) := by decide +kernel
theorem dH_bonusWithEarlier_5 : decode bH_bonusWithEarlier 5 = .ok (.iload 4, 2) := by decide +kernel
theorem dH_bonusWithEarlier_7 : decode bH_bonusWithEarlier 7 = .ok (.iload_n 1, 1) := by decide +kernel
theorem dH_bonusWithEarlier_8 : decode bH_bonusWithEarlier 8 = .ok (.if_icmp .ge 30, 3) := by decide +kernel
theorem dH_bonusWithEarlier_11 : decode bH_bonusWithEarlier 11 = .ok (.iload_n 2, 1) := by decide +kernel
theorem dH_bonusWithEarlier_12 : decode bH_bonusWithEarlier 12 = .ok (.iload 4, 2) := by decide +kernel
theorem dH_bonusWithEarlier_14 : decode bH_bonusWithEarlier 14 = .ok (.invokestatic 44, 3) := by decide +kernel
theorem dH_bonusWithEarlier_17 : decode bH_bonusWithEarlier 17 = .ok (.ifCond .eq 15, 3) := by decide +kernel
theorem dH_bonusWithEarlier_20 : decode bH_bonusWithEarlier 20 = .ok (.iload_n 3, 1) := by decide +kernel
theorem dH_bonusWithEarlier_21 : decode bH_bonusWithEarlier 21 = .ok (.aload_n 0, 1) := by decide +kernel
theorem dH_bonusWithEarlier_22 : decode bH_bonusWithEarlier 22 = .ok (.getfield 26, 3) := by decide +kernel
theorem dH_bonusWithEarlier_25 : decode bH_bonusWithEarlier 25 = .ok (.iload_n 1, 1) := by decide +kernel
theorem dH_bonusWithEarlier_26 : decode bH_bonusWithEarlier 26 = .ok (.aaload, 1) := by decide +kernel
theorem dH_bonusWithEarlier_27 : decode bH_bonusWithEarlier 27 = .ok (.iload 4, 2) := by decide +kernel
theorem dH_bonusWithEarlier_29 : decode bH_bonusWithEarlier 29 = .ok (.iaload, 1) := by decide +kernel
theorem dH_bonusWithEarlier_30 : decode bH_bonusWithEarlier 30 = .ok (.iadd, 1) := by decide +kernel
theorem dH_bonusWithEarlier_31 : decode bH_bonusWithEarlier 31 = .ok (.istore_n 3, 1) := by decide +kernel
theorem dH_bonusWithEarlier_32 : decode bH_bonusWithEarlier 32 = .ok (.iinc 4 1, 3) := by decide +kernel
theorem dH_bonusWithEarlier_35 : decode bH_bonusWithEarlier 35 = .ok (.goto (-30), 3) := by decide +kernel
theorem dH_bonusWithEarlier_38 : decode bH_bonusWithEarlier 38 = .ok (.iload_n 3, 1) := by decide +kernel
theorem dH_bonusWithEarlier_39 : decode bH_bonusWithEarlier 39 = .ok (.ireturn, 1) := by decide +kernel
theorem dH_broughtBy_0 : decode bH_broughtBy 0 = .ok (.iconst 1, 1) := by decide +kernel
theorem dH_broughtBy_1 : decode bH_broughtBy 1 = .ok (.iload_n 1, 1) := by decide +kernel
theorem dH_broughtBy_2 : decode bH_broughtBy 2 = .ok (.ishl, 1) := by decide +kernel
theorem dH_broughtBy_3 : decode bH_broughtBy 3 = .ok (.istore_n 2, 1) := by decide +kernel
theorem dH_broughtBy_4 : decode bH_broughtBy 4 = .ok (.iconst 0, 1) := by decide +kernel
theorem dH_broughtBy_5 : decode bH_broughtBy 5 = .ok (.istore_n 3, 1) := by decide +kernel
theorem dH_broughtBy_6 : decode bH_broughtBy 6 = .ok (.iload_n 3, 1) := by decide +kernel
theorem dH_broughtBy_7 : decode bH_broughtBy 7 = .ok (.aload_n 0, 1) := by decide +kernel
theorem dH_broughtBy_8 : decode bH_broughtBy 8 = .ok (.getfield 29, 3) := by decide +kernel
theorem dH_broughtBy_11 : decode bH_broughtBy 11 = .ok (.if_icmp .ge 15, 3) := by decide +kernel
theorem dH_broughtBy_14 : decode bH_broughtBy 14 = .ok (.aload_n 0, 1) := by decide +kernel
theorem dH_broughtBy_15 : decode bH_broughtBy 15 = .ok (.iload_n 2, 1) := by decide +kernel
theorem dH_broughtBy_16 : decode bH_broughtBy 16 = .ok (.invokevirtual 52, 3) := by decide +kernel
theorem dH_broughtBy_19 : decode bH_broughtBy 19 = .ok (.istore_n 2, 1) := by decide +kernel
theorem dH_broughtBy_20 : decode bH_broughtBy 20 = .ok (.iinc 3 1, 3) := by decide +kernel
theorem dH_broughtBy_23 : decode bH_broughtBy 23 = .ok (.goto (-17), 3) := by decide +kernel
theorem dH_broughtBy_26 : decode bH_broughtBy 26 = .ok (.iload_n 2, 1) := by decide +kernel
theorem dH_broughtBy_27 : decode bH_broughtBy 27 = .ok (.ireturn, 1) := by decide +kernel
theorem dH_withItsNeeds_0 : decode bH_withItsNeeds 0 = .ok (.iload_n 1, 1) := by decide +kernel
theorem dH_withItsNeeds_1 : decode bH_withItsNeeds 1 = .ok (.istore_n 2, 1) := by decide +kernel
theorem dH_withItsNeeds_2 : decode bH_withItsNeeds 2 = .ok (.iconst 0, 1) := by decide +kernel
theorem dH_withItsNeeds_3 : decode bH_withItsNeeds 3 = .ok (.istore_n 3, 1) := by decide +kernel
theorem dH_withItsNeeds_4 : decode bH_withItsNeeds 4 = .ok (.iload_n 3, 1) := by decide +kernel
theorem dH_withItsNeeds_5 : decode bH_withItsNeeds 5 = .ok (.aload_n 0, 1) := by decide +kernel
theorem dH_withItsNeeds_6 : decode bH_withItsNeeds 6 = .ok (.getfield 29, 3) := by decide +kernel
theorem dH_withItsNeeds_9 : decode bH_withItsNeeds 9 = .ok (.if_icmp .ge 26, 3) := by decide +kernel
theorem dH_withItsNeeds_12 : decode bH_withItsNeeds 12 = .ok (.iload_n 1, 1) := by decide +kernel
theorem dH_withItsNeeds_13 : decode bH_withItsNeeds 13 = .ok (.iload_n 3, 1) := by decide +kernel
theorem dH_withItsNeeds_14 : decode bH_withItsNeeds 14 = .ok (.invokestatic 44, 3) := by decide +kernel
theorem dH_withItsNeeds_17 : decode bH_withItsNeeds 17 = .ok (.ifCond .eq 12, 3) := by decide +kernel
theorem dH_withItsNeeds_20 : decode bH_withItsNeeds 20 = .ok (.iload_n 2, 1) := by decide +kernel
theorem dH_withItsNeeds_21 : decode bH_withItsNeeds 21 = .ok (.aload_n 0, 1) := by decide +kernel
theorem dH_withItsNeeds_22 : decode bH_withItsNeeds 22 = .ok (.getfield 21, 3) := by decide +kernel
theorem dH_withItsNeeds_25 : decode bH_withItsNeeds 25 = .ok (.iload_n 3, 1) := by decide +kernel
theorem dH_withItsNeeds_26 : decode bH_withItsNeeds 26 = .ok (.iaload, 1) := by decide +kernel
theorem dH_withItsNeeds_27 : decode bH_withItsNeeds 27 = .ok (.ior, 1) := by decide +kernel
theorem dH_withItsNeeds_28 : decode bH_withItsNeeds 28 = .ok (.istore_n 2, 1) := by decide +kernel
theorem dH_withItsNeeds_29 : decode bH_withItsNeeds 29 = .ok (.iinc 3 1, 3) := by decide +kernel
theorem dH_withItsNeeds_32 : decode bH_withItsNeeds 32 = .ok (.goto (-28), 3) := by decide +kernel
theorem dH_withItsNeeds_35 : decode bH_withItsNeeds 35 = .ok (.iload_n 2, 1) := by decide +kernel
theorem dH_withItsNeeds_36 : decode bH_withItsNeeds 36 = .ok (.ireturn, 1) := by decide +kernel
theorem dH_has_0 : decode bH_has 0 = .ok (.iload_n 0, 1) := by decide +kernel
theorem dH_has_1 : decode bH_has 1 = .ok (.iload_n 1, 1) := by decide +kernel
theorem dH_has_2 : decode bH_has 2 = .ok (.ishr, 1) := by decide +kernel
theorem dH_has_3 : decode bH_has 3 = .ok (.iconst 1, 1) := by decide +kernel
theorem dH_has_4 : decode bH_has 4 = .ok (.iand, 1) := by decide +kernel
theorem dH_has_5 : decode bH_has 5 = .ok (.ifCond .eq 7, 3) := by decide +kernel
theorem dH_has_8 : decode bH_has 8 = .ok (.iconst 1, 1) := by decide +kernel
theorem dH_has_9 : decode bH_has 9 = .ok (.goto 4, 3) := by decide +kernel
theorem dH_has_12 : decode bH_has 12 = .ok (.iconst 0, 1) := by decide +kernel
theorem dH_has_13 : decode bH_has 13 = .ok (.ireturn, 1) := by decide +kernel
theorem dH_with_0 : decode bH_with 0 = .ok (.iconst 1, 1) := by decide +kernel
theorem dH_with_1 : decode bH_with 1 = .ok (.iload_n 1, 1) := by decide +kernel
theorem dH_with_2 : decode bH_with 2 = .ok (.ishl, 1) := by decide +kernel
theorem dH_with_3 : decode bH_with 3 = .ok (.istore_n 3, 1) := by decide +kernel
theorem dH_with_4 : decode bH_with 4 = .ok (.iload_n 2, 1) := by decide +kernel
theorem dH_with_5 : decode bH_with 5 = .ok (.ifCond .eq 9, 3) := by decide +kernel
theorem dH_with_8 : decode bH_with 8 = .ok (.iload_n 0, 1) := by decide +kernel
theorem dH_with_9 : decode bH_with 9 = .ok (.iload_n 3, 1) := by decide +kernel
theorem dH_with_10 : decode bH_with 10 = .ok (.ior, 1) := by decide +kernel
theorem dH_with_11 : decode bH_with 11 = .ok (.goto 8, 3) := by decide +kernel
theorem dH_with_14 : decode bH_with 14 = .ok (.iload_n 0, 1) := by decide +kernel
theorem dH_with_15 : decode bH_with 15 = .ok (.iload_n 3, 1) := by decide +kernel
theorem dH_with_16 : decode bH_with 16 = .ok (.iconst (-1), 1) := by decide +kernel
theorem dH_with_17 : decode bH_with 17 = .ok (.ixor, 1) := by decide +kernel
theorem dH_with_18 : decode bH_with 18 = .ok (.iand, 1) := by decide +kernel
theorem dH_with_19 : decode bH_with 19 = .ok (.ireturn, 1) := by decide +kernel
theorem dA_init_0 : decode bA_init 0 = .ok (.aload_n 0, 1) := by decide +kernel
theorem dA_init_1 : decode bA_init 1 = .ok (.invokespecial 3, 3) := by decide +kernel
theorem dA_init_4 : decode bA_init 4 = .ok (.aload_n 0, 1) := by decide +kernel
theorem dA_init_5 : decode bA_init 5 = .ok (.iconst (-1), 1) := by decide +kernel
theorem dA_init_6 : decode bA_init 6 = .ok (.putfield 9, 3) := by decide +kernel
theorem dA_init_9 : decode bA_init 9 = .ok (.aload_n 0, 1) := by decide +kernel
theorem dA_init_10 : decode bA_init 10 = .ok (.sipush 4096, 3) := by decide +kernel
theorem dA_init_13 : decode bA_init 13 = .ok (.newarray .int, 2) := by decide +kernel
theorem dA_init_15 : decode bA_init 15 = .ok (.putfield 15, 3) := by decide +kernel
theorem dA_init_18 : decode bA_init 18 = .ok (.aload_n 0, 1) := by decide +kernel
theorem dA_init_19 : decode bA_init 19 = .ok (.sipush 4096, 3) := by decide +kernel
theorem dA_init_22 : decode bA_init 22 = .ok (.newarray .int, 2) := by decide +kernel
theorem dA_init_24 : decode bA_init 24 = .ok (.putfield 19, 3) := by decide +kernel
theorem dA_init_27 : decode bA_init 27 = .ok (.return_, 1) := by decide +kernel
theorem dA_setAt_0 : decode bA_setAt 0 = .ok (.aload_n 0, 1) := by decide +kernel
theorem dA_setAt_1 : decode bA_setAt 1 = .ok (.getfield 15, 3) := by decide +kernel
theorem dA_setAt_4 : decode bA_setAt 4 = .ok (.iload_n 1, 1) := by decide +kernel
theorem dA_setAt_5 : decode bA_setAt 5 = .ok (.iaload, 1) := by decide +kernel
theorem dA_setAt_6 : decode bA_setAt 6 = .ok (.sipush 4095, 3) := by decide +kernel
theorem dA_setAt_9 : decode bA_setAt 9 = .ok (.iand, 1) := by decide +kernel
theorem dA_setAt_10 : decode bA_setAt 10 = .ok (.ireturn, 1) := by decide +kernel
theorem dA_costAt_0 : decode bA_costAt 0 = .ok (.aload_n 0, 1) := by decide +kernel
theorem dA_costAt_1 : decode bA_costAt 1 = .ok (.getfield 15, 3) := by decide +kernel
theorem dA_costAt_4 : decode bA_costAt 4 = .ok (.iload_n 1, 1) := by decide +kernel
theorem dA_costAt_5 : decode bA_costAt 5 = .ok (.iaload, 1) := by decide +kernel
theorem dA_costAt_6 : decode bA_costAt 6 = .ok (.bipush 12, 2) := by decide +kernel
theorem dA_costAt_8 : decode bA_costAt 8 = .ok (.ishr, 1) := by decide +kernel
theorem dA_costAt_9 : decode bA_costAt 9 = .ok (.ireturn, 1) := by decide +kernel
theorem dA_gainAt_0 : decode bA_gainAt 0 = .ok (.aload_n 0, 1) := by decide +kernel
theorem dA_gainAt_1 : decode bA_gainAt 1 = .ok (.getfield 19, 3) := by decide +kernel
theorem dA_gainAt_4 : decode bA_gainAt 4 = .ok (.aload_n 0, 1) := by decide +kernel
theorem dA_gainAt_5 : decode bA_gainAt 5 = .ok (.iload_n 1, 1) := by decide +kernel
theorem dA_gainAt_6 : decode bA_gainAt 6 = .ok (.invokevirtual 22, 3) := by decide +kernel
theorem dA_gainAt_9 : decode bA_gainAt 9 = .ok (.iaload, 1) := by decide +kernel
theorem dA_gainAt_10 : decode bA_gainAt 10 = .ok (.ireturn, 1) := by decide +kernel
theorem dA_highestWithin_0 : decode bA_highestWithin 0 = .ok (.iconst 0, 1) := by decide +kernel
theorem dA_highestWithin_1 : decode bA_highestWithin 1 = .ok (.istore_n 2, 1) := by decide +kernel
theorem dA_highestWithin_2 : decode bA_highestWithin 2 = .ok (.iconst 1, 1) := by decide +kernel
theorem dA_highestWithin_3 : decode bA_highestWithin 3 = .ok (.istore_n 3, 1) := by decide +kernel
theorem dA_highestWithin_4 : decode bA_highestWithin 4 = .ok (.iload_n 3, 1) := by decide +kernel
theorem dA_highestWithin_5 : decode bA_highestWithin 5 = .ok (.aload_n 0, 1) := by decide +kernel
theorem dA_highestWithin_6 : decode bA_highestWithin 6 = .ok (.getfield 26, 3) := by decide +kernel
theorem dA_highestWithin_9 : decode bA_highestWithin 9 = .ok (.if_icmp .ge 20, 3) := by decide +kernel
theorem dA_highestWithin_12 : decode bA_highestWithin 12 = .ok (.aload_n 0, 1) := by decide +kernel
theorem dA_highestWithin_13 : decode bA_highestWithin 13 = .ok (.iload_n 3, 1) := by decide +kernel
theorem dA_highestWithin_14 : decode bA_highestWithin 14 = .ok (.invokevirtual 29, 3) := by decide +kernel
theorem dA_highestWithin_17 : decode bA_highestWithin 17 = .ok (.iload_n 1, 1) := by decide +kernel
theorem dA_highestWithin_18 : decode bA_highestWithin 18 = .ok (.if_icmp .gt 11, 3) := by decide +kernel
theorem dA_highestWithin_21 : decode bA_highestWithin 21 = .ok (.iload_n 3, 1) := by decide +kernel
theorem dA_highestWithin_22 : decode bA_highestWithin 22 = .ok (.istore_n 2, 1) := by decide +kernel
theorem dA_highestWithin_23 : decode bA_highestWithin 23 = .ok (.iinc 3 1, 3) := by decide +kernel
theorem dA_highestWithin_26 : decode bA_highestWithin 26 = .ok (.goto (-22), 3) := by decide +kernel
theorem dA_highestWithin_29 : decode bA_highestWithin 29 = .ok (.iload_n 2, 1) := by decide +kernel
theorem dA_highestWithin_30 : decode bA_highestWithin 30 = .ok (.ireturn, 1) := by decide +kernel
theorem dA_lowestGaining_0 : decode bA_lowestGaining 0 = .ok (.iconst 0, 1) := by decide +kernel
theorem dA_lowestGaining_1 : decode bA_lowestGaining 1 = .ok (.istore_n 2, 1) := by decide +kernel
theorem dA_lowestGaining_2 : decode bA_lowestGaining 2 = .ok (.iload_n 2, 1) := by decide +kernel
theorem dA_lowestGaining_3 : decode bA_lowestGaining 3 = .ok (.aload_n 0, 1) := by decide +kernel
theorem dA_lowestGaining_4 : decode bA_lowestGaining 4 = .ok (.getfield 26, 3) := by decide +kernel
theorem dA_lowestGaining_7 : decode bA_lowestGaining 7 = .ok (.if_icmp .ge 20, 3) := by decide +kernel
theorem dA_lowestGaining_10 : decode bA_lowestGaining 10 = .ok (.aload_n 0, 1) := by decide +kernel
theorem dA_lowestGaining_11 : decode bA_lowestGaining 11 = .ok (.iload_n 2, 1) := by decide +kernel
theorem dA_lowestGaining_12 : decode bA_lowestGaining 12 = .ok (.invokevirtual 32, 3) := by decide +kernel
theorem dA_lowestGaining_15 : decode bA_lowestGaining 15 = .ok (.iload_n 1, 1) := by decide +kernel
theorem dA_lowestGaining_16 : decode bA_lowestGaining 16 = .ok (.if_icmp .lt 5, 3) := by decide +kernel
theorem dA_lowestGaining_19 : decode bA_lowestGaining 19 = .ok (.iload_n 2, 1) := by decide +kernel
theorem dA_lowestGaining_20 : decode bA_lowestGaining 20 = .ok (.ireturn, 1) := by decide +kernel
theorem dA_lowestGaining_21 : decode bA_lowestGaining 21 = .ok (.iinc 2 1, 3) := by decide +kernel
theorem dA_lowestGaining_24 : decode bA_lowestGaining 24 = .ok (.goto (-22), 3) := by decide +kernel
theorem dA_lowestGaining_27 : decode bA_lowestGaining 27 = .ok (.iconst (-1), 1) := by decide +kernel
theorem dA_lowestGaining_28 : decode bA_lowestGaining 28 = .ok (.ireturn, 1) := by decide +kernel
theorem dA_bringUpToDate_0 : decode bA_bringUpToDate 0 = .ok (.aload_n 0, 1) := by decide +kernel
theorem dA_bringUpToDate_1 : decode bA_bringUpToDate 1 = .ok (.getfield 9, 3) := by decide +kernel
theorem dA_bringUpToDate_4 : decode bA_bringUpToDate 4 = .ok (.aload_n 1, 1) := by decide +kernel
theorem dA_bringUpToDate_5 : decode bA_bringUpToDate 5 = .ok (.getfield 35, 3) := by decide +kernel
theorem dA_bringUpToDate_8 : decode bA_bringUpToDate 8 = .ok (.if_icmp .ne 4, 3) := by decide +kernel
theorem dA_bringUpToDate_11 : decode bA_bringUpToDate 11 = .ok (.return_, 1) := by decide +kernel
theorem dA_bringUpToDate_12 : decode bA_bringUpToDate 12 = .ok (.aload_n 0, 1) := by decide +kernel
theorem dA_bringUpToDate_13 : decode bA_bringUpToDate 13 = .ok (.getfield 15, 3) := by decide +kernel
theorem dA_bringUpToDate_16 : decode bA_bringUpToDate 16 = .ok (.iconst 0, 1) := by decide +kernel
theorem dA_bringUpToDate_17 : decode bA_bringUpToDate 17 = .ok (.iconst 0, 1) := by decide +kernel
theorem dA_bringUpToDate_18 : decode bA_bringUpToDate 18 = .ok (.iastore, 1) := by decide +kernel
theorem dA_bringUpToDate_19 : decode bA_bringUpToDate 19 = .ok (.aload_n 0, 1) := by decide +kernel
theorem dA_bringUpToDate_20 : decode bA_bringUpToDate 20 = .ok (.getfield 19, 3) := by decide +kernel
theorem dA_bringUpToDate_23 : decode bA_bringUpToDate 23 = .ok (.iconst 0, 1) := by decide +kernel
theorem dA_bringUpToDate_24 : decode bA_bringUpToDate 24 = .ok (.iconst 0, 1) := by decide +kernel
theorem dA_bringUpToDate_25 : decode bA_bringUpToDate 25 = .ok (.iastore, 1) := by decide +kernel
theorem dA_bringUpToDate_26 : decode bA_bringUpToDate 26 = .ok (.iconst 0, 1) := by decide +kernel
theorem dA_bringUpToDate_27 : decode bA_bringUpToDate 27 = .ok (.istore_n 2, 1) := by decide +kernel
theorem dA_bringUpToDate_28 : decode bA_bringUpToDate 28 = .ok (.iload_n 2, 1) := by decide +kernel
theorem dA_bringUpToDate_29 : decode bA_bringUpToDate 29 = .ok (.aload_n 1, 1) := by decide +kernel
theorem dA_bringUpToDate_30 : decode bA_bringUpToDate 30 = .ok (.getfield 38, 3) := by decide +kernel
theorem dA_bringUpToDate_33 : decode bA_bringUpToDate 33 = .ok (.if_icmp .ge 35, 3) := by decide +kernel
theorem dA_bringUpToDate_36 : decode bA_bringUpToDate 36 = .ok (.aload_n 0, 1) := by decide +kernel
theorem dA_bringUpToDate_37 : decode bA_bringUpToDate 37 = .ok (.iconst 1, 1) := by decide +kernel
theorem dA_bringUpToDate_38 : decode bA_bringUpToDate 38 = .ok (.iload_n 2, 1) := by decide +kernel
theorem dA_bringUpToDate_39 : decode bA_bringUpToDate 39 = .ok (.ishl, 1) := by decide +kernel
theorem dA_bringUpToDate_40 : decode bA_bringUpToDate 40 = .ok (.aload_n 1, 1) := by decide +kernel
theorem dA_bringUpToDate_41 : decode bA_bringUpToDate 41 = .ok (.getfield 41, 3) := by decide +kernel
theorem dA_bringUpToDate_44 : decode bA_bringUpToDate 44 = .ok (.iload_n 2, 1) := by decide +kernel
theorem dA_bringUpToDate_45 : decode bA_bringUpToDate 45 = .ok (.iaload, 1) := by decide +kernel
theorem dA_bringUpToDate_46 : decode bA_bringUpToDate 46 = .ok (.bipush 12, 2) := by decide +kernel
theorem dA_bringUpToDate_48 : decode bA_bringUpToDate 48 = .ok (.ishl, 1) := by decide +kernel
theorem dA_bringUpToDate_49 : decode bA_bringUpToDate 49 = .ok (.iconst 1, 1) := by decide +kernel
theorem dA_bringUpToDate_50 : decode bA_bringUpToDate 50 = .ok (.iload_n 2, 1) := by decide +kernel
theorem dA_bringUpToDate_51 : decode bA_bringUpToDate 51 = .ok (.ishl, 1) := by decide +kernel
theorem dA_bringUpToDate_52 : decode bA_bringUpToDate 52 = .ok (.iadd, 1) := by decide +kernel
theorem dA_bringUpToDate_53 : decode bA_bringUpToDate 53 = .ok (.invokevirtual 44, 3) := by decide +kernel
theorem dA_bringUpToDate_56 : decode bA_bringUpToDate 56 = .ok (.aload_n 0, 1) := by decide +kernel
theorem dA_bringUpToDate_57 : decode bA_bringUpToDate 57 = .ok (.iload_n 2, 1) := by decide +kernel
theorem dA_bringUpToDate_58 : decode bA_bringUpToDate 58 = .ok (.aload_n 1, 1) := by decide +kernel
theorem dA_bringUpToDate_59 : decode bA_bringUpToDate 59 = .ok (.invokevirtual 48, 3) := by decide +kernel
theorem dA_bringUpToDate_62 : decode bA_bringUpToDate 62 = .ok (.iinc 2 1, 3) := by decide +kernel
theorem dA_bringUpToDate_65 : decode bA_bringUpToDate 65 = .ok (.goto (-37), 3) := by decide +kernel
theorem dA_bringUpToDate_68 : decode bA_bringUpToDate 68 = .ok (.aload_n 0, 1) := by decide +kernel
theorem dA_bringUpToDate_69 : decode bA_bringUpToDate 69 = .ok (.aload_n 1, 1) := by decide +kernel
theorem dA_bringUpToDate_70 : decode bA_bringUpToDate 70 = .ok (.invokevirtual 52, 3) := by decide +kernel
theorem dA_bringUpToDate_73 : decode bA_bringUpToDate 73 = .ok (.aload_n 0, 1) := by decide +kernel
theorem dA_bringUpToDate_74 : decode bA_bringUpToDate 74 = .ok (.aload_n 1, 1) := by decide +kernel
theorem dA_bringUpToDate_75 : decode bA_bringUpToDate 75 = .ok (.getfield 35, 3) := by decide +kernel
theorem dA_bringUpToDate_78 : decode bA_bringUpToDate 78 = .ok (.putfield 9, 3) := by decide +kernel
theorem dA_bringUpToDate_81 : decode bA_bringUpToDate 81 = .ok (.return_, 1) := by decide +kernel
theorem dA_addSteps_0 : decode bA_addSteps 0 = .ok (.iload_n 1, 1) := by decide +kernel
theorem dA_addSteps_1 : decode bA_addSteps 1 = .ok (.iconst 1, 1) := by decide +kernel
theorem dA_addSteps_2 : decode bA_addSteps 2 = .ok (.isub, 1) := by decide +kernel
theorem dA_addSteps_3 : decode bA_addSteps 3 = .ok (.istore_n 3, 1) := by decide +kernel
theorem dA_addSteps_4 : decode bA_addSteps 4 = .ok (.iload_n 1, 1) := by decide +kernel
theorem dA_addSteps_5 : decode bA_addSteps 5 = .ok (.iconst 1, 1) := by decide +kernel
theorem dA_addSteps_6 : decode bA_addSteps 6 = .ok (.isub, 1) := by decide +kernel
theorem dA_addSteps_7 : decode bA_addSteps 7 = .ok (.istore 4, 2) := by decide +kernel
theorem dA_addSteps_9 : decode bA_addSteps 9 = .ok (.iconst 2, 1) := by decide +kernel
theorem dA_addSteps_10 : decode bA_addSteps 10 = .ok (.iload_n 1, 1) := by decide +kernel
theorem dA_addSteps_11 : decode bA_addSteps 11 = .ok (.imul, 1) := by decide +kernel
theorem dA_addSteps_12 : decode bA_addSteps 12 = .ok (.iconst 1, 1) := by decide +kernel
theorem dA_addSteps_13 : decode bA_addSteps 13 = .ok (.isub, 1) := by decide +kernel
theorem dA_addSteps_14 : decode bA_addSteps 14 = .ok (.istore 5, 2) := by decide +kernel
theorem dA_addSteps_16 : decode bA_addSteps 16 = .ok (.iload 4, 2) := by decide +kernel
theorem dA_addSteps_18 : decode bA_addSteps 18 = .ok (.ifCond .lt 68, 3) := by decide +kernel
theorem dA_addSteps_21 : decode bA_addSteps 21 = .ok (.iload_n 3, 1) := by decide +kernel
theorem dA_addSteps_22 : decode bA_addSteps 22 = .ok (.iload 4, 2) := by decide +kernel
theorem dA_addSteps_24 : decode bA_addSteps 24 = .ok (.if_icmp .lt 62, 3) := by decide +kernel
theorem dA_addSteps_27 : decode bA_addSteps 27 = .ok (.aload_n 0, 1) := by decide +kernel
theorem dA_addSteps_28 : decode bA_addSteps 28 = .ok (.getfield 15, 3) := by decide +kernel
theorem dA_addSteps_31 : decode bA_addSteps 31 = .ok (.iload 4, 2) := by decide +kernel
theorem dA_addSteps_33 : decode bA_addSteps 33 = .ok (.iaload, 1) := by decide +kernel
theorem dA_addSteps_34 : decode bA_addSteps 34 = .ok (.iload_n 2, 1) := by decide +kernel
theorem dA_addSteps_35 : decode bA_addSteps 35 = .ok (.iadd, 1) := by decide +kernel
theorem dA_addSteps_36 : decode bA_addSteps 36 = .ok (.istore 6, 2) := by decide +kernel
theorem dA_addSteps_38 : decode bA_addSteps 38 = .ok (.iload 6, 2) := by decide +kernel
theorem dA_addSteps_40 : decode bA_addSteps 40 = .ok (.aload_n 0, 1) := by decide +kernel
theorem dA_addSteps_41 : decode bA_addSteps 41 = .ok (.getfield 15, 3) := by decide +kernel
theorem dA_addSteps_44 : decode bA_addSteps 44 = .ok (.iload_n 3, 1) := by decide +kernel
theorem dA_addSteps_45 : decode bA_addSteps 45 = .ok (.iaload, 1) := by decide +kernel
theorem dA_addSteps_46 : decode bA_addSteps 46 = .ok (.if_icmp .le 18, 3) := by decide +kernel
theorem dA_addSteps_49 : decode bA_addSteps 49 = .ok (.aload_n 0, 1) := by decide +kernel
theorem dA_addSteps_50 : decode bA_addSteps 50 = .ok (.getfield 15, 3) := by decide +kernel
theorem dA_addSteps_53 : decode bA_addSteps 53 = .ok (.iload 5, 2) := by decide +kernel
theorem dA_addSteps_55 : decode bA_addSteps 55 = .ok (.iload 6, 2) := by decide +kernel
theorem dA_addSteps_57 : decode bA_addSteps 57 = .ok (.iastore, 1) := by decide +kernel
theorem dA_addSteps_58 : decode bA_addSteps 58 = .ok (.iinc 4 (-1), 3) := by decide +kernel
theorem dA_addSteps_61 : decode bA_addSteps 61 = .ok (.goto 19, 3) := by decide +kernel
theorem dA_addSteps_64 : decode bA_addSteps 64 = .ok (.aload_n 0, 1) := by decide +kernel
theorem dA_addSteps_65 : decode bA_addSteps 65 = .ok (.getfield 15, 3) := by decide +kernel
theorem dA_addSteps_68 : decode bA_addSteps 68 = .ok (.iload 5, 2) := by decide +kernel
theorem dA_addSteps_70 : decode bA_addSteps 70 = .ok (.aload_n 0, 1) := by decide +kernel
theorem dA_addSteps_71 : decode bA_addSteps 71 = .ok (.getfield 15, 3) := by decide +kernel
theorem dA_addSteps_74 : decode bA_addSteps 74 = .ok (.iload_n 3, 1) := by decide +kernel
theorem dA_addSteps_75 : decode bA_addSteps 75 = .ok (.iaload, 1) := by decide +kernel
theorem dA_addSteps_76 : decode bA_addSteps 76 = .ok (.iastore, 1) := by decide +kernel
theorem dA_addSteps_77 : decode bA_addSteps 77 = .ok (.iinc 3 (-1), 3) := by decide +kernel
theorem dA_addSteps_80 : decode bA_addSteps 80 = .ok (.iinc 5 (-1), 3) := by decide +kernel
theorem dA_addSteps_83 : decode bA_addSteps 83 = .ok (.goto (-67), 3) := by decide +kernel
theorem dA_addSteps_86 : decode bA_addSteps 86 = .ok (.return_, 1) := by decide +kernel
theorem dA_addGains_0 : decode bA_addGains 0 = .ok (.iconst 1, 1) := by decide +kernel
theorem dA_addGains_1 : decode bA_addGains 1 = .ok (.iload_n 1, 1) := by decide +kernel
theorem dA_addGains_2 : decode bA_addGains 2 = .ok (.ishl, 1) := by decide +kernel
theorem dA_addGains_3 : decode bA_addGains 3 = .ok (.istore_n 3, 1) := by decide +kernel
theorem dA_addGains_4 : decode bA_addGains 4 = .ok (.aload_n 0, 1) := by decide +kernel
theorem dA_addGains_5 : decode bA_addGains 5 = .ok (.getfield 19, 3) := by decide +kernel
theorem dA_addGains_8 : decode bA_addGains 8 = .ok (.iload_n 3, 1) := by decide +kernel
theorem dA_addGains_9 : decode bA_addGains 9 = .ok (.aload_n 2, 1) := by decide +kernel
theorem dA_addGains_10 : decode bA_addGains 10 = .ok (.getfield 56, 3) := by decide +kernel
theorem dA_addGains_13 : decode bA_addGains 13 = .ok (.iload_n 1, 1) := by decide +kernel
theorem dA_addGains_14 : decode bA_addGains 14 = .ok (.iaload, 1) := by decide +kernel
theorem dA_addGains_15 : decode bA_addGains 15 = .ok (.iastore, 1) := by decide +kernel
theorem dA_addGains_16 : decode bA_addGains 16 = .ok (.iconst 0, 1) := by decide +kernel
theorem dA_addGains_17 : decode bA_addGains 17 = .ok (.istore 4, 2) := by decide +kernel
theorem dA_addGains_19 : decode bA_addGains 19 = .ok (.iload 4, 2) := by decide +kernel
theorem dA_addGains_21 : decode bA_addGains 21 = .ok (.iload_n 1, 1) := by decide +kernel
theorem dA_addGains_22 : decode bA_addGains 22 = .ok (.if_icmp .ge 89, 3) := by decide +kernel
theorem dA_addGains_25 : decode bA_addGains 25 = .ok (.iconst 1, 1) := by decide +kernel
theorem dA_addGains_26 : decode bA_addGains 26 = .ok (.iload 4, 2) := by decide +kernel
theorem dA_addGains_28 : decode bA_addGains 28 = .ok (.ishl, 1) := by decide +kernel
theorem dA_addGains_29 : decode bA_addGains 29 = .ok (.istore 5, 2) := by decide +kernel
theorem dA_addGains_31 : decode bA_addGains 31 = .ok (.aload_n 2, 1) := by decide +kernel
theorem dA_addGains_32 : decode bA_addGains 32 = .ok (.getfield 57, 3) := by decide +kernel
theorem dA_addGains_35 : decode bA_addGains 35 = .ok (.iload_n 1, 1) := by decide +kernel
theorem dA_addGains_36 : decode bA_addGains 36 = .ok (.aaload, 1) := by decide +kernel
theorem dA_addGains_37 : decode bA_addGains 37 = .ok (.iload 4, 2) := by decide +kernel
theorem dA_addGains_39 : decode bA_addGains 39 = .ok (.iaload, 1) := by decide +kernel
theorem dA_addGains_40 : decode bA_addGains 40 = .ok (.istore 6, 2) := by decide +kernel
theorem dA_addGains_42 : decode bA_addGains 42 = .ok (.iconst 0, 1) := by decide +kernel
theorem dA_addGains_43 : decode bA_addGains 43 = .ok (.istore 7, 2) := by decide +kernel
theorem dA_addGains_45 : decode bA_addGains 45 = .ok (.iload 7, 2) := by decide +kernel
theorem dA_addGains_47 : decode bA_addGains 47 = .ok (.iload 5, 2) := by decide +kernel
theorem dA_addGains_49 : decode bA_addGains 49 = .ok (.if_icmp .ge 56, 3) := by decide +kernel
theorem dA_addGains_52 : decode bA_addGains 52 = .ok (.aload_n 0, 1) := by decide +kernel
theorem dA_addGains_53 : decode bA_addGains 53 = .ok (.getfield 19, 3) := by decide +kernel
theorem dA_addGains_56 : decode bA_addGains 56 = .ok (.iload_n 3, 1) := by decide +kernel
theorem dA_addGains_57 : decode bA_addGains 57 = .ok (.iload 7, 2) := by decide +kernel
theorem dA_addGains_59 : decode bA_addGains 59 = .ok (.ior, 1) := by decide +kernel
theorem dA_addGains_60 : decode bA_addGains 60 = .ok (.iaload, 1) := by decide +kernel
theorem dA_addGains_61 : decode bA_addGains 61 = .ok (.aload_n 0, 1) := by decide +kernel
theorem dA_addGains_62 : decode bA_addGains 62 = .ok (.getfield 19, 3) := by decide +kernel
theorem dA_addGains_65 : decode bA_addGains 65 = .ok (.iload 7, 2) := by decide +kernel
theorem dA_addGains_67 : decode bA_addGains 67 = .ok (.iaload, 1) := by decide +kernel
theorem dA_addGains_68 : decode bA_addGains 68 = .ok (.isub, 1) := by decide +kernel
theorem dA_addGains_69 : decode bA_addGains 69 = .ok (.istore 8, 2) := by decide +kernel
theorem dA_addGains_71 : decode bA_addGains 71 = .ok (.aload_n 0, 1) := by decide +kernel
theorem dA_addGains_72 : decode bA_addGains 72 = .ok (.getfield 19, 3) := by decide +kernel
theorem dA_addGains_75 : decode bA_addGains 75 = .ok (.iload_n 3, 1) := by decide +kernel
theorem dA_addGains_76 : decode bA_addGains 76 = .ok (.iload 5, 2) := by decide +kernel
theorem dA_addGains_78 : decode bA_addGains 78 = .ok (.ior, 1) := by decide +kernel
theorem dA_addGains_79 : decode bA_addGains 79 = .ok (.iload 7, 2) := by decide +kernel
theorem dA_addGains_81 : decode bA_addGains 81 = .ok (.ior, 1) := by decide +kernel
theorem dA_addGains_82 : decode bA_addGains 82 = .ok (.aload_n 0, 1) := by decide +kernel
theorem dA_addGains_83 : decode bA_addGains 83 = .ok (.getfield 19, 3) := by decide +kernel
theorem dA_addGains_86 : decode bA_addGains 86 = .ok (.iload 5, 2) := by decide +kernel
theorem dA_addGains_88 : decode bA_addGains 88 = .ok (.iload 7, 2) := by decide +kernel
theorem dA_addGains_90 : decode bA_addGains 90 = .ok (.ior, 1) := by decide +kernel
theorem dA_addGains_91 : decode bA_addGains 91 = .ok (.iaload, 1) := by decide +kernel
theorem dA_addGains_92 : decode bA_addGains 92 = .ok (.iload 8, 2) := by decide +kernel
theorem dA_addGains_94 : decode bA_addGains 94 = .ok (.iadd, 1) := by decide +kernel
theorem dA_addGains_95 : decode bA_addGains 95 = .ok (.iload 6, 2) := by decide +kernel
theorem dA_addGains_97 : decode bA_addGains 97 = .ok (.iadd, 1) := by decide +kernel
theorem dA_addGains_98 : decode bA_addGains 98 = .ok (.iastore, 1) := by decide +kernel
theorem dA_addGains_99 : decode bA_addGains 99 = .ok (.iinc 7 1, 3) := by decide +kernel
theorem dA_addGains_102 : decode bA_addGains 102 = .ok (.goto (-57), 3) := by decide +kernel
theorem dA_addGains_105 : decode bA_addGains 105 = .ok (.iinc 4 1, 3) := by decide +kernel
theorem dA_addGains_108 : decode bA_addGains 108 = .ok (.goto (-89), 3) := by decide +kernel
theorem dA_addGains_111 : decode bA_addGains 111 = .ok (.return_, 1) := by decide +kernel
theorem dA_keepUnbeaten_0 : decode bA_keepUnbeaten 0 = .ok (.aload_n 0, 1) := by decide +kernel
theorem dA_keepUnbeaten_1 : decode bA_keepUnbeaten 1 = .ok (.iconst 1, 1) := by decide +kernel
theorem dA_keepUnbeaten_2 : decode bA_keepUnbeaten 2 = .ok (.putfield 26, 3) := by decide +kernel
theorem dA_keepUnbeaten_5 : decode bA_keepUnbeaten 5 = .ok (.iconst 1, 1) := by decide +kernel
theorem dA_keepUnbeaten_6 : decode bA_keepUnbeaten 6 = .ok (.istore_n 2, 1) := by decide +kernel
theorem dA_keepUnbeaten_7 : decode bA_keepUnbeaten 7 = .ok (.iload_n 2, 1) := by decide +kernel
theorem dA_keepUnbeaten_8 : decode bA_keepUnbeaten 8 = .ok (.iconst 1, 1) := by decide +kernel
theorem dA_keepUnbeaten_9 : decode bA_keepUnbeaten 9 = .ok (.aload_n 1, 1) := by decide +kernel
theorem dA_keepUnbeaten_10 : decode bA_keepUnbeaten 10 = .ok (.getfield 38, 3) := by decide +kernel
theorem dA_keepUnbeaten_13 : decode bA_keepUnbeaten 13 = .ok (.ishl, 1) := by decide +kernel
theorem dA_keepUnbeaten_14 : decode bA_keepUnbeaten 14 = .ok (.if_icmp .ge 87, 3) := by decide +kernel
theorem dA_keepUnbeaten_17 : decode bA_keepUnbeaten 17 = .ok (.aload_n 0, 1) := by decide +kernel
theorem dA_keepUnbeaten_18 : decode bA_keepUnbeaten 18 = .ok (.iload_n 2, 1) := by decide +kernel
theorem dA_keepUnbeaten_19 : decode bA_keepUnbeaten 19 = .ok (.invokevirtual 22, 3) := by decide +kernel
theorem dA_keepUnbeaten_22 : decode bA_keepUnbeaten 22 = .ok (.istore_n 3, 1) := by decide +kernel
theorem dA_keepUnbeaten_23 : decode bA_keepUnbeaten 23 = .ok (.aload_n 0, 1) := by decide +kernel
theorem dA_keepUnbeaten_24 : decode bA_keepUnbeaten 24 = .ok (.getfield 19, 3) := by decide +kernel
theorem dA_keepUnbeaten_27 : decode bA_keepUnbeaten 27 = .ok (.iload_n 3, 1) := by decide +kernel
theorem dA_keepUnbeaten_28 : decode bA_keepUnbeaten 28 = .ok (.iaload, 1) := by decide +kernel
theorem dA_keepUnbeaten_29 : decode bA_keepUnbeaten 29 = .ok (.aload_n 0, 1) := by decide +kernel
theorem dA_keepUnbeaten_30 : decode bA_keepUnbeaten 30 = .ok (.aload_n 0, 1) := by decide +kernel
theorem dA_keepUnbeaten_31 : decode bA_keepUnbeaten 31 = .ok (.getfield 26, 3) := by decide +kernel
theorem dA_keepUnbeaten_34 : decode bA_keepUnbeaten 34 = .ok (.iconst 1, 1) := by decide +kernel
theorem dA_keepUnbeaten_35 : decode bA_keepUnbeaten 35 = .ok (.isub, 1) := by decide +kernel
theorem dA_keepUnbeaten_36 : decode bA_keepUnbeaten 36 = .ok (.invokevirtual 32, 3) := by decide +kernel
theorem dA_keepUnbeaten_39 : decode bA_keepUnbeaten 39 = .ok (.if_icmp .le 56, 3) := by decide +kernel
theorem dA_keepUnbeaten_42 : decode bA_keepUnbeaten 42 = .ok (.aload_n 1, 1) := by decide +kernel
theorem dA_keepUnbeaten_43 : decode bA_keepUnbeaten 43 = .ok (.iload_n 3, 1) := by decide +kernel
theorem dA_keepUnbeaten_44 : decode bA_keepUnbeaten 44 = .ok (.invokevirtual 61, 3) := by decide +kernel
theorem dA_keepUnbeaten_47 : decode bA_keepUnbeaten 47 = .ok (.ifCond .eq 48, 3) := by decide +kernel
theorem dA_keepUnbeaten_50 : decode bA_keepUnbeaten 50 = .ok (.aload_n 0, 1) := by decide +kernel
theorem dA_keepUnbeaten_51 : decode bA_keepUnbeaten 51 = .ok (.iload_n 2, 1) := by decide +kernel
theorem dA_keepUnbeaten_52 : decode bA_keepUnbeaten 52 = .ok (.invokevirtual 29, 3) := by decide +kernel
theorem dA_keepUnbeaten_55 : decode bA_keepUnbeaten 55 = .ok (.aload_n 0, 1) := by decide +kernel
theorem dA_keepUnbeaten_56 : decode bA_keepUnbeaten 56 = .ok (.aload_n 0, 1) := by decide +kernel
theorem dA_keepUnbeaten_57 : decode bA_keepUnbeaten 57 = .ok (.getfield 26, 3) := by decide +kernel
theorem dA_keepUnbeaten_60 : decode bA_keepUnbeaten 60 = .ok (.iconst 1, 1) := by decide +kernel
theorem dA_keepUnbeaten_61 : decode bA_keepUnbeaten 61 = .ok (.isub, 1) := by decide +kernel
theorem dA_keepUnbeaten_62 : decode bA_keepUnbeaten 62 = .ok (.invokevirtual 29, 3) := by decide +kernel
theorem dA_keepUnbeaten_65 : decode bA_keepUnbeaten 65 = .ok (.if_icmp .le 13, 3) := by decide +kernel
theorem dA_keepUnbeaten_68 : decode bA_keepUnbeaten 68 = .ok (.aload_n 0, 1) := by decide +kernel
theorem dA_keepUnbeaten_69 : decode bA_keepUnbeaten 69 = .ok (.dup, 1) := by decide +kernel
theorem dA_keepUnbeaten_70 : decode bA_keepUnbeaten 70 = .ok (.getfield 26, 3) := by decide +kernel
theorem dA_keepUnbeaten_73 : decode bA_keepUnbeaten 73 = .ok (.iconst 1, 1) := by decide +kernel
theorem dA_keepUnbeaten_74 : decode bA_keepUnbeaten 74 = .ok (.iadd, 1) := by decide +kernel
theorem dA_keepUnbeaten_75 : decode bA_keepUnbeaten 75 = .ok (.putfield 26, 3) := by decide +kernel
theorem dA_keepUnbeaten_78 : decode bA_keepUnbeaten 78 = .ok (.aload_n 0, 1) := by decide +kernel
theorem dA_keepUnbeaten_79 : decode bA_keepUnbeaten 79 = .ok (.getfield 15, 3) := by decide +kernel
theorem dA_keepUnbeaten_82 : decode bA_keepUnbeaten 82 = .ok (.aload_n 0, 1) := by decide +kernel
theorem dA_keepUnbeaten_83 : decode bA_keepUnbeaten 83 = .ok (.getfield 26, 3) := by decide +kernel
theorem dA_keepUnbeaten_86 : decode bA_keepUnbeaten 86 = .ok (.iconst 1, 1) := by decide +kernel
theorem dA_keepUnbeaten_87 : decode bA_keepUnbeaten 87 = .ok (.isub, 1) := by decide +kernel
theorem dA_keepUnbeaten_88 : decode bA_keepUnbeaten 88 = .ok (.aload_n 0, 1) := by decide +kernel
theorem dA_keepUnbeaten_89 : decode bA_keepUnbeaten 89 = .ok (.getfield 15, 3) := by decide +kernel
theorem dA_keepUnbeaten_92 : decode bA_keepUnbeaten 92 = .ok (.iload_n 2, 1) := by decide +kernel
theorem dA_keepUnbeaten_93 : decode bA_keepUnbeaten 93 = .ok (.iaload, 1) := by decide +kernel
theorem dA_keepUnbeaten_94 : decode bA_keepUnbeaten 94 = .ok (.iastore, 1) := by decide +kernel
theorem dA_keepUnbeaten_95 : decode bA_keepUnbeaten 95 = .ok (.iinc 2 1, 3) := by decide +kernel
theorem dA_keepUnbeaten_98 : decode bA_keepUnbeaten 98 = .ok (.goto (-91), 3) := by decide +kernel
theorem dA_keepUnbeaten_101 : decode bA_keepUnbeaten 101 = .ok (.return_, 1) := by decide +kernel
theorem dP_init_0 : decode bP_init 0 = .ok (.aload_n 0, 1) := by decide +kernel
theorem dP_init_1 : decode bP_init 1 = .ok (.invokespecial 3, 3) := by decide +kernel
theorem dP_init_4 : decode bP_init 4 = .ok (.aload_n 0, 1) := by decide +kernel
theorem dP_init_5 : decode bP_init 5 = .ok (.iconst 4, 1) := by decide +kernel
theorem dP_init_6 : decode bP_init 6 = .ok (.newarray .int, 2) := by decide +kernel
theorem dP_init_8 : decode bP_init 8 = .ok (.putfield 9, 3) := by decide +kernel
theorem dP_init_11 : decode bP_init 11 = .ok (.aload_n 0, 1) := by decide +kernel
theorem dP_init_12 : decode bP_init 12 = .ok (.iconst 4, 1) := by decide +kernel
theorem dP_init_13 : decode bP_init 13 = .ok (.bipush 64, 2) := by decide +kernel
theorem dP_init_15 : decode bP_init 15 = .ok (.multianewarray 15 2, 4) := by decide +kernel
theorem dP_init_19 : decode bP_init 19 = .ok (.putfield 17, 3) := by decide +kernel
theorem dP_init_22 : decode bP_init 22 = .ok (.aload_n 0, 1) := by decide +kernel
theorem dP_init_23 : decode bP_init 23 = .ok (.iconst 4, 1) := by decide +kernel
theorem dP_init_24 : decode bP_init 24 = .ok (.bipush 64, 2) := by decide +kernel
theorem dP_init_26 : decode bP_init 26 = .ok (.multianewarray 15 2, 4) := by decide +kernel
theorem dP_init_30 : decode bP_init 30 = .ok (.putfield 20, 3) := by decide +kernel
theorem dP_init_33 : decode bP_init 33 = .ok (.aload_n 0, 1) := by decide +kernel
theorem dP_init_34 : decode bP_init 34 = .ok (.iconst 4, 1) := by decide +kernel
theorem dP_init_35 : decode bP_init 35 = .ok (.newarray .int, 2) := by decide +kernel
theorem dP_init_37 : decode bP_init 37 = .ok (.putfield 23, 3) := by decide +kernel
theorem dP_init_40 : decode bP_init 40 = .ok (.aload_n 0, 1) := by decide +kernel
theorem dP_init_41 : decode bP_init 41 = .ok (.bipush 64, 2) := by decide +kernel
theorem dP_init_43 : decode bP_init 43 = .ok (.newarray .int, 2) := by decide +kernel
theorem dP_init_45 : decode bP_init 45 = .ok (.putfield 26, 3) := by decide +kernel
theorem dP_init_48 : decode bP_init 48 = .ok (.aload_n 0, 1) := by decide +kernel
theorem dP_init_49 : decode bP_init 49 = .ok (.bipush 64, 2) := by decide +kernel
theorem dP_init_51 : decode bP_init 51 = .ok (.newarray .int, 2) := by decide +kernel
theorem dP_init_53 : decode bP_init 53 = .ok (.putfield 29, 3) := by decide +kernel
theorem dP_init_56 : decode bP_init 56 = .ok (.return_, 1) := by decide +kernel
theorem dP_work_0 : decode bP_work 0 = .ok (.aload_n 0, 1) := by decide +kernel
theorem dP_work_1 : decode bP_work 1 = .ok (.invokevirtual 32, 3) := by decide +kernel
theorem dP_work_4 : decode bP_work 4 = .ok (.aload_n 0, 1) := by decide +kernel
theorem dP_work_5 : decode bP_work 5 = .ok (.aload_n 1, 1) := by decide +kernel
theorem dP_work_6 : decode bP_work 6 = .ok (.invokevirtual 35, 3) := by decide +kernel
theorem dP_work_9 : decode bP_work 9 = .ok (.iload_n 2, 1) := by decide +kernel
theorem dP_work_10 : decode bP_work 10 = .ok (.iconst 1, 1) := by decide +kernel
theorem dP_work_11 : decode bP_work 11 = .ok (.isub, 1) := by decide +kernel
theorem dP_work_12 : decode bP_work 12 = .ok (.istore_n 3, 1) := by decide +kernel
theorem dP_work_13 : decode bP_work 13 = .ok (.iload_n 3, 1) := by decide +kernel
theorem dP_work_14 : decode bP_work 14 = .ok (.ifCond .lt 26, 3) := by decide +kernel
theorem dP_work_17 : decode bP_work 17 = .ok (.aload_n 0, 1) := by decide +kernel
theorem dP_work_18 : decode bP_work 18 = .ok (.iload_n 3, 1) := by decide +kernel
theorem dP_work_19 : decode bP_work 19 = .ok (.iload_n 3, 1) := by decide +kernel
theorem dP_work_20 : decode bP_work 20 = .ok (.iload_n 2, 1) := by decide +kernel
theorem dP_work_21 : decode bP_work 21 = .ok (.iconst 1, 1) := by decide +kernel
theorem dP_work_22 : decode bP_work 22 = .ok (.isub, 1) := by decide +kernel
theorem dP_work_23 : decode bP_work 23 = .ok (.if_icmp .ne 7, 3) := by decide +kernel
theorem dP_work_26 : decode bP_work 26 = .ok (.iconst 1, 1) := by decide +kernel
theorem dP_work_27 : decode bP_work 27 = .ok (.goto 4, 3) := by decide +kernel
theorem dP_work_30 : decode bP_work 30 = .ok (.iconst 0, 1) := by decide +kernel
theorem dP_work_31 : decode bP_work 31 = .ok (.invokevirtual 39, 3) := by decide +kernel
theorem dP_work_34 : decode bP_work 34 = .ok (.iinc 3 (-1), 3) := by decide +kernel
theorem dP_work_37 : decode bP_work 37 = .ok (.goto (-24), 3) := by decide +kernel
theorem dP_work_40 : decode bP_work 40 = .ok (.return_, 1) := by decide +kernel
theorem dP_boughtUpTo_0 : decode bP_boughtUpTo 0 = .ok (.iconst 0, 1) := by decide +kernel
theorem dP_boughtUpTo_1 : decode bP_boughtUpTo 1 = .ok (.istore_n 2, 1) := by decide +kernel
theorem dP_boughtUpTo_2 : decode bP_boughtUpTo 2 = .ok (.iconst 0, 1) := by decide +kernel
theorem dP_boughtUpTo_3 : decode bP_boughtUpTo 3 = .ok (.istore_n 3, 1) := by decide +kernel
theorem dP_boughtUpTo_4 : decode bP_boughtUpTo 4 = .ok (.iload_n 3, 1) := by decide +kernel
theorem dP_boughtUpTo_5 : decode bP_boughtUpTo 5 = .ok (.iload_n 1, 1) := by decide +kernel
theorem dP_boughtUpTo_6 : decode bP_boughtUpTo 6 = .ok (.if_icmp .gt 16, 3) := by decide +kernel
theorem dP_boughtUpTo_9 : decode bP_boughtUpTo 9 = .ok (.aload_n 0, 1) := by decide +kernel
theorem dP_boughtUpTo_10 : decode bP_boughtUpTo 10 = .ok (.iload_n 2, 1) := by decide +kernel
theorem dP_boughtUpTo_11 : decode bP_boughtUpTo 11 = .ok (.iload_n 3, 1) := by decide +kernel
theorem dP_boughtUpTo_12 : decode bP_boughtUpTo 12 = .ok (.invokevirtual 43, 3) := by decide +kernel
theorem dP_boughtUpTo_15 : decode bP_boughtUpTo 15 = .ok (.istore_n 2, 1) := by decide +kernel
theorem dP_boughtUpTo_16 : decode bP_boughtUpTo 16 = .ok (.iinc 3 1, 3) := by decide +kernel
theorem dP_boughtUpTo_19 : decode bP_boughtUpTo 19 = .ok (.goto (-15), 3) := by decide +kernel
theorem dP_boughtUpTo_22 : decode bP_boughtUpTo 22 = .ok (.iload_n 2, 1) := by decide +kernel
theorem dP_boughtUpTo_23 : decode bP_boughtUpTo 23 = .ok (.ireturn, 1) := by decide +kernel
theorem dP_fillPurses_0 : decode bP_fillPurses 0 = .ok (.iconst 0, 1) := by decide +kernel
theorem dP_fillPurses_1 : decode bP_fillPurses 1 = .ok (.istore_n 1, 1) := by decide +kernel
theorem dP_fillPurses_2 : decode bP_fillPurses 2 = .ok (.iconst 0, 1) := by decide +kernel
theorem dP_fillPurses_3 : decode bP_fillPurses 3 = .ok (.istore_n 2, 1) := by decide +kernel
theorem dP_fillPurses_4 : decode bP_fillPurses 4 = .ok (.iload_n 2, 1) := by decide +kernel
theorem dP_fillPurses_5 : decode bP_fillPurses 5 = .ok (.iconst 4, 1) := by decide +kernel
theorem dP_fillPurses_6 : decode bP_fillPurses 6 = .ok (.if_icmp .ge 25, 3) := by decide +kernel
theorem dP_fillPurses_9 : decode bP_fillPurses 9 = .ok (.iload_n 1, 1) := by decide +kernel
theorem dP_fillPurses_10 : decode bP_fillPurses 10 = .ok (.aload_n 0, 1) := by decide +kernel
theorem dP_fillPurses_11 : decode bP_fillPurses 11 = .ok (.getfield 9, 3) := by decide +kernel
theorem dP_fillPurses_14 : decode bP_fillPurses 14 = .ok (.iload_n 2, 1) := by decide +kernel
theorem dP_fillPurses_15 : decode bP_fillPurses 15 = .ok (.iaload, 1) := by decide +kernel
theorem dP_fillPurses_16 : decode bP_fillPurses 16 = .ok (.iadd, 1) := by decide +kernel
theorem dP_fillPurses_17 : decode bP_fillPurses 17 = .ok (.istore_n 1, 1) := by decide +kernel
theorem dP_fillPurses_18 : decode bP_fillPurses 18 = .ok (.aload_n 0, 1) := by decide +kernel
theorem dP_fillPurses_19 : decode bP_fillPurses 19 = .ok (.getfield 23, 3) := by decide +kernel
theorem dP_fillPurses_22 : decode bP_fillPurses 22 = .ok (.iload_n 2, 1) := by decide +kernel
theorem dP_fillPurses_23 : decode bP_fillPurses 23 = .ok (.iload_n 1, 1) := by decide +kernel
theorem dP_fillPurses_24 : decode bP_fillPurses 24 = .ok (.iastore, 1) := by decide +kernel
theorem dP_fillPurses_25 : decode bP_fillPurses 25 = .ok (.iinc 2 1, 3) := by decide +kernel
theorem dP_fillPurses_28 : decode bP_fillPurses 28 = .ok (.goto (-24), 3) := by decide +kernel
theorem dP_fillPurses_31 : decode bP_fillPurses 31 = .ok (.return_, 1) := by decide +kernel
theorem dP_judgeSets_0 : decode bP_judgeSets 0 = .ok (.aload_n 0, 1) := by decide +kernel
theorem dP_judgeSets_1 : decode bP_judgeSets 1 = .ok (.iconst 1, 1) := by decide +kernel
theorem dP_judgeSets_2 : decode bP_judgeSets 2 = .ok (.aload_n 1, 1) := by decide +kernel
theorem dP_judgeSets_3 : decode bP_judgeSets 3 = .ok (.getfield 47, 3) := by decide +kernel
theorem dP_judgeSets_6 : decode bP_judgeSets 6 = .ok (.bipush 6, 2) := by decide +kernel
theorem dP_judgeSets_8 : decode bP_judgeSets 8 = .ok (.invokestatic 53, 3) := by decide +kernel
theorem dP_judgeSets_11 : decode bP_judgeSets 11 = .ok (.ishl, 1) := by decide +kernel
theorem dP_judgeSets_12 : decode bP_judgeSets 12 = .ok (.putfield 58, 3) := by decide +kernel
theorem dP_judgeSets_15 : decode bP_judgeSets 15 = .ok (.iconst 0, 1) := by decide +kernel
theorem dP_judgeSets_16 : decode bP_judgeSets 16 = .ok (.istore_n 2, 1) := by decide +kernel
theorem dP_judgeSets_17 : decode bP_judgeSets 17 = .ok (.iload_n 2, 1) := by decide +kernel
theorem dP_judgeSets_18 : decode bP_judgeSets 18 = .ok (.aload_n 0, 1) := by decide +kernel
theorem dP_judgeSets_19 : decode bP_judgeSets 19 = .ok (.getfield 58, 3) := by decide +kernel
theorem dP_judgeSets_22 : decode bP_judgeSets 22 = .ok (.if_icmp .ge 44, 3) := by decide +kernel
theorem dP_judgeSets_25 : decode bP_judgeSets 25 = .ok (.aload_n 0, 1) := by decide +kernel
theorem dP_judgeSets_26 : decode bP_judgeSets 26 = .ok (.getfield 26, 3) := by decide +kernel
theorem dP_judgeSets_29 : decode bP_judgeSets 29 = .ok (.iload_n 2, 1) := by decide +kernel
theorem dP_judgeSets_30 : decode bP_judgeSets 30 = .ok (.aload_n 1, 1) := by decide +kernel
theorem dP_judgeSets_31 : decode bP_judgeSets 31 = .ok (.iload_n 2, 1) := by decide +kernel
theorem dP_judgeSets_32 : decode bP_judgeSets 32 = .ok (.invokevirtual 61, 3) := by decide +kernel
theorem dP_judgeSets_35 : decode bP_judgeSets 35 = .ok (.ifCond .eq 11, 3) := by decide +kernel
theorem dP_judgeSets_38 : decode bP_judgeSets 38 = .ok (.aload_n 1, 1) := by decide +kernel
theorem dP_judgeSets_39 : decode bP_judgeSets 39 = .ok (.iload_n 2, 1) := by decide +kernel
theorem dP_judgeSets_40 : decode bP_judgeSets 40 = .ok (.invokevirtual 65, 3) := by decide +kernel
theorem dP_judgeSets_43 : decode bP_judgeSets 43 = .ok (.goto 5, 3) := by decide +kernel
theorem dP_judgeSets_46 : decode bP_judgeSets 46 = .ok (.ldc 69, 2) := by decide +kernel
theorem dP_judgeSets_48 : decode bP_judgeSets 48 = .ok (.iastore, 1) := by decide +kernel
theorem dP_judgeSets_49 : decode bP_judgeSets 49 = .ok (.aload_n 0, 1) := by decide +kernel
theorem dP_judgeSets_50 : decode bP_judgeSets 50 = .ok (.getfield 29, 3) := by decide +kernel
theorem dP_judgeSets_53 : decode bP_judgeSets 53 = .ok (.iload_n 2, 1) := by decide +kernel
theorem dP_judgeSets_54 : decode bP_judgeSets 54 = .ok (.aload_n 1, 1) := by decide +kernel
theorem dP_judgeSets_55 : decode bP_judgeSets 55 = .ok (.iload_n 2, 1) := by decide +kernel
theorem dP_judgeSets_56 : decode bP_judgeSets 56 = .ok (.invokevirtual 70, 3) := by decide +kernel
theorem dP_judgeSets_59 : decode bP_judgeSets 59 = .ok (.iastore, 1) := by decide +kernel
theorem dP_judgeSets_60 : decode bP_judgeSets 60 = .ok (.iinc 2 1, 3) := by decide +kernel
theorem dP_judgeSets_63 : decode bP_judgeSets 63 = .ok (.goto (-46), 3) := by decide +kernel
theorem dP_judgeSets_66 : decode bP_judgeSets 66 = .ok (.return_, 1) := by decide +kernel
theorem dP_workYear_0 : decode bP_workYear 0 = .ok (.iconst 0, 1) := by decide +kernel
theorem dP_workYear_1 : decode bP_workYear 1 = .ok (.istore_n 3, 1) := by decide +kernel
theorem dP_workYear_2 : decode bP_workYear 2 = .ok (.iload_n 3, 1) := by decide +kernel
theorem dP_workYear_3 : decode bP_workYear 3 = .ok (.aload_n 0, 1) := by decide +kernel
theorem dP_workYear_4 : decode bP_workYear 4 = .ok (.getfield 58, 3) := by decide +kernel
theorem dP_workYear_7 : decode bP_workYear 7 = .ok (.if_icmp .ge 114, 3) := by decide +kernel
theorem dP_workYear_10 : decode bP_workYear 10 = .ok (.aload_n 0, 1) := by decide +kernel
theorem dP_workYear_11 : decode bP_workYear 11 = .ok (.getfield 26, 3) := by decide +kernel
theorem dP_workYear_14 : decode bP_workYear 14 = .ok (.iload_n 3, 1) := by decide +kernel
theorem dP_workYear_15 : decode bP_workYear 15 = .ok (.iaload, 1) := by decide +kernel
theorem dP_workYear_16 : decode bP_workYear 16 = .ok (.aload_n 0, 1) := by decide +kernel
theorem dP_workYear_17 : decode bP_workYear 17 = .ok (.getfield 23, 3) := by decide +kernel
theorem dP_workYear_20 : decode bP_workYear 20 = .ok (.iload_n 1, 1) := by decide +kernel
theorem dP_workYear_21 : decode bP_workYear 21 = .ok (.iaload, 1) := by decide +kernel
theorem dP_workYear_22 : decode bP_workYear 22 = .ok (.if_icmp .gt 93, 3) := by decide +kernel
theorem dP_workYear_25 : decode bP_workYear 25 = .ok (.iload_n 2, 1) := by decide +kernel
theorem dP_workYear_26 : decode bP_workYear 26 = .ok (.ifCond .eq 34, 3) := by decide +kernel
theorem dP_workYear_29 : decode bP_workYear 29 = .ok (.aload_n 0, 1) := by decide +kernel
theorem dP_workYear_30 : decode bP_workYear 30 = .ok (.getfield 17, 3) := by decide +kernel
theorem dP_workYear_33 : decode bP_workYear 33 = .ok (.iload_n 1, 1) := by decide +kernel
theorem dP_workYear_34 : decode bP_workYear 34 = .ok (.aaload, 1) := by decide +kernel
theorem dP_workYear_35 : decode bP_workYear 35 = .ok (.iload_n 3, 1) := by decide +kernel
theorem dP_workYear_36 : decode bP_workYear 36 = .ok (.aload_n 0, 1) := by decide +kernel
theorem dP_workYear_37 : decode bP_workYear 37 = .ok (.getfield 29, 3) := by decide +kernel
theorem dP_workYear_40 : decode bP_workYear 40 = .ok (.iload_n 3, 1) := by decide +kernel
theorem dP_workYear_41 : decode bP_workYear 41 = .ok (.iaload, 1) := by decide +kernel
theorem dP_workYear_42 : decode bP_workYear 42 = .ok (.iastore, 1) := by decide +kernel
theorem dP_workYear_43 : decode bP_workYear 43 = .ok (.aload_n 0, 1) := by decide +kernel
theorem dP_workYear_44 : decode bP_workYear 44 = .ok (.getfield 20, 3) := by decide +kernel
theorem dP_workYear_47 : decode bP_workYear 47 = .ok (.iload_n 1, 1) := by decide +kernel
theorem dP_workYear_48 : decode bP_workYear 48 = .ok (.aaload, 1) := by decide +kernel
theorem dP_workYear_49 : decode bP_workYear 49 = .ok (.iload_n 3, 1) := by decide +kernel
theorem dP_workYear_50 : decode bP_workYear 50 = .ok (.aload_n 0, 1) := by decide +kernel
theorem dP_workYear_51 : decode bP_workYear 51 = .ok (.getfield 26, 3) := by decide +kernel
theorem dP_workYear_54 : decode bP_workYear 54 = .ok (.iload_n 3, 1) := by decide +kernel
theorem dP_workYear_55 : decode bP_workYear 55 = .ok (.iaload, 1) := by decide +kernel
theorem dP_workYear_56 : decode bP_workYear 56 = .ok (.iastore, 1) := by decide +kernel
theorem dP_workYear_57 : decode bP_workYear 57 = .ok (.goto 58, 3) := by decide +kernel
theorem dP_workYear_60 : decode bP_workYear 60 = .ok (.aload_n 0, 1) := by decide +kernel
theorem dP_workYear_61 : decode bP_workYear 61 = .ok (.iload_n 3, 1) := by decide +kernel
theorem dP_workYear_62 : decode bP_workYear 62 = .ok (.iload_n 1, 1) := by decide +kernel
theorem dP_workYear_63 : decode bP_workYear 63 = .ok (.iconst 1, 1) := by decide +kernel
theorem dP_workYear_64 : decode bP_workYear 64 = .ok (.iadd, 1) := by decide +kernel
theorem dP_workYear_65 : decode bP_workYear 65 = .ok (.invokevirtual 43, 3) := by decide +kernel
theorem dP_workYear_68 : decode bP_workYear 68 = .ok (.istore 4, 2) := by decide +kernel
theorem dP_workYear_70 : decode bP_workYear 70 = .ok (.aload_n 0, 1) := by decide +kernel
theorem dP_workYear_71 : decode bP_workYear 71 = .ok (.getfield 17, 3) := by decide +kernel
theorem dP_workYear_74 : decode bP_workYear 74 = .ok (.iload_n 1, 1) := by decide +kernel
theorem dP_workYear_75 : decode bP_workYear 75 = .ok (.aaload, 1) := by decide +kernel
theorem dP_workYear_76 : decode bP_workYear 76 = .ok (.iload_n 3, 1) := by decide +kernel
theorem dP_workYear_77 : decode bP_workYear 77 = .ok (.aload_n 0, 1) := by decide +kernel
theorem dP_workYear_78 : decode bP_workYear 78 = .ok (.getfield 29, 3) := by decide +kernel
theorem dP_workYear_81 : decode bP_workYear 81 = .ok (.iload_n 3, 1) := by decide +kernel
theorem dP_workYear_82 : decode bP_workYear 82 = .ok (.iaload, 1) := by decide +kernel
theorem dP_workYear_83 : decode bP_workYear 83 = .ok (.aload_n 0, 1) := by decide +kernel
theorem dP_workYear_84 : decode bP_workYear 84 = .ok (.getfield 17, 3) := by decide +kernel
theorem dP_workYear_87 : decode bP_workYear 87 = .ok (.iload_n 1, 1) := by decide +kernel
theorem dP_workYear_88 : decode bP_workYear 88 = .ok (.iconst 1, 1) := by decide +kernel
theorem dP_workYear_89 : decode bP_workYear 89 = .ok (.iadd, 1) := by decide +kernel
theorem dP_workYear_90 : decode bP_workYear 90 = .ok (.aaload, 1) := by decide +kernel
theorem dP_workYear_91 : decode bP_workYear 91 = .ok (.iload 4, 2) := by decide +kernel
theorem dP_workYear_93 : decode bP_workYear 93 = .ok (.iaload, 1) := by decide +kernel
theorem dP_workYear_94 : decode bP_workYear 94 = .ok (.iadd, 1) := by decide +kernel
theorem dP_workYear_95 : decode bP_workYear 95 = .ok (.iastore, 1) := by decide +kernel
theorem dP_workYear_96 : decode bP_workYear 96 = .ok (.aload_n 0, 1) := by decide +kernel
theorem dP_workYear_97 : decode bP_workYear 97 = .ok (.getfield 20, 3) := by decide +kernel
theorem dP_workYear_100 : decode bP_workYear 100 = .ok (.iload_n 1, 1) := by decide +kernel
theorem dP_workYear_101 : decode bP_workYear 101 = .ok (.aaload, 1) := by decide +kernel
theorem dP_workYear_102 : decode bP_workYear 102 = .ok (.iload_n 3, 1) := by decide +kernel
theorem dP_workYear_103 : decode bP_workYear 103 = .ok (.aload_n 0, 1) := by decide +kernel
theorem dP_workYear_104 : decode bP_workYear 104 = .ok (.getfield 20, 3) := by decide +kernel
theorem dP_workYear_107 : decode bP_workYear 107 = .ok (.iload_n 1, 1) := by decide +kernel
theorem dP_workYear_108 : decode bP_workYear 108 = .ok (.iconst 1, 1) := by decide +kernel
theorem dP_workYear_109 : decode bP_workYear 109 = .ok (.iadd, 1) := by decide +kernel
theorem dP_workYear_110 : decode bP_workYear 110 = .ok (.aaload, 1) := by decide +kernel
theorem dP_workYear_111 : decode bP_workYear 111 = .ok (.iload 4, 2) := by decide +kernel
theorem dP_workYear_113 : decode bP_workYear 113 = .ok (.iaload, 1) := by decide +kernel
theorem dP_workYear_114 : decode bP_workYear 114 = .ok (.iastore, 1) := by decide +kernel
theorem dP_workYear_115 : decode bP_workYear 115 = .ok (.iinc 3 1, 3) := by decide +kernel
theorem dP_workYear_118 : decode bP_workYear 118 = .ok (.goto (-116), 3) := by decide +kernel
theorem dP_workYear_121 : decode bP_workYear 121 = .ok (.return_, 1) := by decide +kernel
theorem dP_bestFrom_0 : decode bP_bestFrom 0 = .ok (.iload_n 1, 1) := by decide +kernel
theorem dP_bestFrom_1 : decode bP_bestFrom 1 = .ok (.istore_n 3, 1) := by decide +kernel
theorem dP_bestFrom_2 : decode bP_bestFrom 2 = .ok (.iload_n 1, 1) := by decide +kernel
theorem dP_bestFrom_3 : decode bP_bestFrom 3 = .ok (.istore 4, 2) := by decide +kernel
theorem dP_bestFrom_5 : decode bP_bestFrom 5 = .ok (.iload 4, 2) := by decide +kernel
theorem dP_bestFrom_7 : decode bP_bestFrom 7 = .ok (.aload_n 0, 1) := by decide +kernel
theorem dP_bestFrom_8 : decode bP_bestFrom 8 = .ok (.getfield 58, 3) := by decide +kernel
theorem dP_bestFrom_11 : decode bP_bestFrom 11 = .ok (.if_icmp .ge 44, 3) := by decide +kernel
theorem dP_bestFrom_14 : decode bP_bestFrom 14 = .ok (.aload_n 0, 1) := by decide +kernel
theorem dP_bestFrom_15 : decode bP_bestFrom 15 = .ok (.getfield 26, 3) := by decide +kernel
theorem dP_bestFrom_18 : decode bP_bestFrom 18 = .ok (.iload 4, 2) := by decide +kernel
theorem dP_bestFrom_20 : decode bP_bestFrom 20 = .ok (.iaload, 1) := by decide +kernel
theorem dP_bestFrom_21 : decode bP_bestFrom 21 = .ok (.aload_n 0, 1) := by decide +kernel
theorem dP_bestFrom_22 : decode bP_bestFrom 22 = .ok (.getfield 23, 3) := by decide +kernel
theorem dP_bestFrom_25 : decode bP_bestFrom 25 = .ok (.iload_n 2, 1) := by decide +kernel
theorem dP_bestFrom_26 : decode bP_bestFrom 26 = .ok (.iaload, 1) := by decide +kernel
theorem dP_bestFrom_27 : decode bP_bestFrom 27 = .ok (.if_icmp .gt 17, 3) := by decide +kernel
theorem dP_bestFrom_30 : decode bP_bestFrom 30 = .ok (.aload_n 0, 1) := by decide +kernel
theorem dP_bestFrom_31 : decode bP_bestFrom 31 = .ok (.iload_n 2, 1) := by decide +kernel
theorem dP_bestFrom_32 : decode bP_bestFrom 32 = .ok (.iload 4, 2) := by decide +kernel
theorem dP_bestFrom_34 : decode bP_bestFrom 34 = .ok (.iload_n 3, 1) := by decide +kernel
theorem dP_bestFrom_35 : decode bP_bestFrom 35 = .ok (.invokevirtual 73, 3) := by decide +kernel
theorem dP_bestFrom_38 : decode bP_bestFrom 38 = .ok (.ifCond .eq 6, 3) := by decide +kernel
theorem dP_bestFrom_41 : decode bP_bestFrom 41 = .ok (.iload 4, 2) := by decide +kernel
theorem dP_bestFrom_43 : decode bP_bestFrom 43 = .ok (.istore_n 3, 1) := by decide +kernel
theorem dP_bestFrom_44 : decode bP_bestFrom 44 = .ok (.iload 4, 2) := by decide +kernel
theorem dP_bestFrom_46 : decode bP_bestFrom 46 = .ok (.iconst 1, 1) := by decide +kernel
theorem dP_bestFrom_47 : decode bP_bestFrom 47 = .ok (.iadd, 1) := by decide +kernel
theorem dP_bestFrom_48 : decode bP_bestFrom 48 = .ok (.iload_n 1, 1) := by decide +kernel
theorem dP_bestFrom_49 : decode bP_bestFrom 49 = .ok (.ior, 1) := by decide +kernel
theorem dP_bestFrom_50 : decode bP_bestFrom 50 = .ok (.istore 4, 2) := by decide +kernel
theorem dP_bestFrom_52 : decode bP_bestFrom 52 = .ok (.goto (-47), 3) := by decide +kernel
theorem dP_bestFrom_55 : decode bP_bestFrom 55 = .ok (.iload_n 3, 1) := by decide +kernel
theorem dP_bestFrom_56 : decode bP_bestFrom 56 = .ok (.ireturn, 1) := by decide +kernel
theorem dP_isBetter_0 : decode bP_isBetter 0 = .ok (.aload_n 0, 1) := by decide +kernel
theorem dP_isBetter_1 : decode bP_isBetter 1 = .ok (.getfield 17, 3) := by decide +kernel
theorem dP_isBetter_4 : decode bP_isBetter 4 = .ok (.iload_n 1, 1) := by decide +kernel
theorem dP_isBetter_5 : decode bP_isBetter 5 = .ok (.aaload, 1) := by decide +kernel
theorem dP_isBetter_6 : decode bP_isBetter 6 = .ok (.iload_n 2, 1) := by decide +kernel
theorem dP_isBetter_7 : decode bP_isBetter 7 = .ok (.iaload, 1) := by decide +kernel
theorem dP_isBetter_8 : decode bP_isBetter 8 = .ok (.aload_n 0, 1) := by decide +kernel
theorem dP_isBetter_9 : decode bP_isBetter 9 = .ok (.getfield 17, 3) := by decide +kernel
theorem dP_isBetter_12 : decode bP_isBetter 12 = .ok (.iload_n 1, 1) := by decide +kernel
theorem dP_isBetter_13 : decode bP_isBetter 13 = .ok (.aaload, 1) := by decide +kernel
theorem dP_isBetter_14 : decode bP_isBetter 14 = .ok (.iload_n 3, 1) := by decide +kernel
theorem dP_isBetter_15 : decode bP_isBetter 15 = .ok (.iaload, 1) := by decide +kernel
theorem dP_isBetter_16 : decode bP_isBetter 16 = .ok (.if_icmp .eq 28, 3) := by decide +kernel
theorem dP_isBetter_19 : decode bP_isBetter 19 = .ok (.aload_n 0, 1) := by decide +kernel
theorem dP_isBetter_20 : decode bP_isBetter 20 = .ok (.getfield 17, 3) := by decide +kernel
theorem dP_isBetter_23 : decode bP_isBetter 23 = .ok (.iload_n 1, 1) := by decide +kernel
theorem dP_isBetter_24 : decode bP_isBetter 24 = .ok (.aaload, 1) := by decide +kernel
theorem dP_isBetter_25 : decode bP_isBetter 25 = .ok (.iload_n 2, 1) := by decide +kernel
theorem dP_isBetter_26 : decode bP_isBetter 26 = .ok (.iaload, 1) := by decide +kernel
theorem dP_isBetter_27 : decode bP_isBetter 27 = .ok (.aload_n 0, 1) := by decide +kernel
theorem dP_isBetter_28 : decode bP_isBetter 28 = .ok (.getfield 17, 3) := by decide +kernel
theorem dP_isBetter_31 : decode bP_isBetter 31 = .ok (.iload_n 1, 1) := by decide +kernel
theorem dP_isBetter_32 : decode bP_isBetter 32 = .ok (.aaload, 1) := by decide +kernel
theorem dP_isBetter_33 : decode bP_isBetter 33 = .ok (.iload_n 3, 1) := by decide +kernel
theorem dP_isBetter_34 : decode bP_isBetter 34 = .ok (.iaload, 1) := by decide +kernel
theorem dP_isBetter_35 : decode bP_isBetter 35 = .ok (.if_icmp .le 7, 3) := by decide +kernel
theorem dP_isBetter_38 : decode bP_isBetter 38 = .ok (.iconst 1, 1) := by decide +kernel
theorem dP_isBetter_39 : decode bP_isBetter 39 = .ok (.goto 4, 3) := by decide +kernel
theorem dP_isBetter_42 : decode bP_isBetter 42 = .ok (.iconst 0, 1) := by decide +kernel
theorem dP_isBetter_43 : decode bP_isBetter 43 = .ok (.ireturn, 1) := by decide +kernel
theorem dP_isBetter_44 : decode bP_isBetter 44 = .ok (.aload_n 0, 1) := by decide +kernel
theorem dP_isBetter_45 : decode bP_isBetter 45 = .ok (.getfield 20, 3) := by decide +kernel
theorem dP_isBetter_48 : decode bP_isBetter 48 = .ok (.iload_n 1, 1) := by decide +kernel
theorem dP_isBetter_49 : decode bP_isBetter 49 = .ok (.aaload, 1) := by decide +kernel
theorem dP_isBetter_50 : decode bP_isBetter 50 = .ok (.iload_n 2, 1) := by decide +kernel
theorem dP_isBetter_51 : decode bP_isBetter 51 = .ok (.iaload, 1) := by decide +kernel
theorem dP_isBetter_52 : decode bP_isBetter 52 = .ok (.aload_n 0, 1) := by decide +kernel
theorem dP_isBetter_53 : decode bP_isBetter 53 = .ok (.getfield 20, 3) := by decide +kernel
theorem dP_isBetter_56 : decode bP_isBetter 56 = .ok (.iload_n 1, 1) := by decide +kernel
theorem dP_isBetter_57 : decode bP_isBetter 57 = .ok (.aaload, 1) := by decide +kernel
theorem dP_isBetter_58 : decode bP_isBetter 58 = .ok (.iload_n 3, 1) := by decide +kernel
theorem dP_isBetter_59 : decode bP_isBetter 59 = .ok (.iaload, 1) := by decide +kernel
theorem dP_isBetter_60 : decode bP_isBetter 60 = .ok (.if_icmp .ge 7, 3) := by decide +kernel
theorem dP_isBetter_63 : decode bP_isBetter 63 = .ok (.iconst 1, 1) := by decide +kernel
theorem dP_isBetter_64 : decode bP_isBetter 64 = .ok (.goto 4, 3) := by decide +kernel
theorem dP_isBetter_67 : decode bP_isBetter 67 = .ok (.iconst 0, 1) := by decide +kernel
theorem dP_isBetter_68 : decode bP_isBetter 68 = .ok (.ireturn, 1) := by decide +kernel
end
section
theorem dR_init_0 : decode bR_init 0 = .ok (.aload_n 0, 1) := by decide +kernel
theorem dR_init_1 : decode bR_init 1 = .ok (.invokespecial 1, 3) := by decide +kernel
theorem dR_init_4 : decode bR_init 4 = .ok (.aload_n 0, 1) := by decide +kernel
theorem dR_init_5 : decode bR_init 5 = .ok (.bipush 12, 2) := by decide +kernel
theorem dR_init_7 : decode bR_init 7 = .ok (.newarray .int, 2) := by decide +kernel
theorem dR_init_9 : decode bR_init 9 = .ok (.putfield 7, 3) := by decide +kernel
theorem dR_init_12 : decode bR_init 12 = .ok (.aload_n 0, 1) := by decide +kernel
theorem dR_init_13 : decode bR_init 13 = .ok (.bipush 12, 2) := by decide +kernel
theorem dR_init_15 : decode bR_init 15 = .ok (.newarray .int, 2) := by decide +kernel
theorem dR_init_17 : decode bR_init 17 = .ok (.putfield 13, 3) := by decide +kernel
theorem dR_init_20 : decode bR_init 20 = .ok (.aload_n 0, 1) := by decide +kernel
theorem dR_init_21 : decode bR_init 21 = .ok (.sipush 144, 3) := by decide +kernel
theorem dR_init_24 : decode bR_init 24 = .ok (.newarray .boolean, 2) := by decide +kernel
theorem dR_init_26 : decode bR_init 26 = .ok (.putfield 16, 3) := by decide +kernel
theorem dR_init_29 : decode bR_init 29 = .ok (.aload_n 0, 1) := by decide +kernel
theorem dR_init_30 : decode bR_init 30 = .ok (.sipush 144, 3) := by decide +kernel
theorem dR_init_33 : decode bR_init 33 = .ok (.newarray .boolean, 2) := by decide +kernel
theorem dR_init_35 : decode bR_init 35 = .ok (.putfield 20, 3) := by decide +kernel
theorem dR_init_38 : decode bR_init 38 = .ok (.aload_n 0, 1) := by decide +kernel
theorem dR_init_39 : decode bR_init 39 = .ok (.sipush 144, 3) := by decide +kernel
theorem dR_init_42 : decode bR_init 42 = .ok (.newarray .int, 2) := by decide +kernel
theorem dR_init_44 : decode bR_init 44 = .ok (.putfield 23, 3) := by decide +kernel
theorem dR_init_47 : decode bR_init 47 = .ok (.aload_n 0, 1) := by decide +kernel
theorem dR_init_48 : decode bR_init 48 = .ok (.iconst 4, 1) := by decide +kernel
theorem dR_init_49 : decode bR_init 49 = .ok (.newarray .int, 2) := by decide +kernel
theorem dR_init_51 : decode bR_init 51 = .ok (.putfield 26, 3) := by decide +kernel
theorem dR_init_54 : decode bR_init 54 = .ok (.aload_n 0, 1) := by decide +kernel
theorem dR_init_55 : decode bR_init 55 = .ok (.sipush 320, 3) := by decide +kernel
theorem dR_init_58 : decode bR_init 58 = .ok (.newarray .int, 2) := by decide +kernel
theorem dR_init_60 : decode bR_init 60 = .ok (.putfield 29, 3) := by decide +kernel
theorem dR_init_63 : decode bR_init 63 = .ok (.aload_n 0, 1) := by decide +kernel
theorem dR_init_64 : decode bR_init 64 = .ok (.sipush 320, 3) := by decide +kernel
theorem dR_init_67 : decode bR_init 67 = .ok (.newarray .int, 2) := by decide +kernel
theorem dR_init_69 : decode bR_init 69 = .ok (.putfield 32, 3) := by decide +kernel
theorem dR_init_72 : decode bR_init 72 = .ok (.aload_n 0, 1) := by decide +kernel
theorem dR_init_73 : decode bR_init 73 = .ok (.sipush 320, 3) := by decide +kernel
theorem dR_init_76 : decode bR_init 76 = .ok (.newarray .int, 2) := by decide +kernel
theorem dR_init_78 : decode bR_init 78 = .ok (.putfield 35, 3) := by decide +kernel
theorem dR_init_81 : decode bR_init 81 = .ok (.return_, 1) := by decide +kernel
theorem dR_thrown_0 : decode bR_thrown 0 = .ok (.aload_n 0, 1) := by decide +kernel
theorem dR_thrown_1 : decode bR_thrown 1 = .ok (.getfield 38, 3) := by decide +kernel
theorem dR_thrown_4 : decode bR_thrown 4 = .ok (.ireturn, 1) := by decide +kernel
theorem dR_in_0 : decode bR_in 0 = .ok (.iload_n 0, 1) := by decide +kernel
theorem dR_in_1 : decode bR_in 1 = .ok (.iload_n 1, 1) := by decide +kernel
theorem dR_in_2 : decode bR_in 2 = .ok (.if_icmp .lt 12, 3) := by decide +kernel
theorem dR_in_5 : decode bR_in 5 = .ok (.iload_n 0, 1) := by decide +kernel
theorem dR_in_6 : decode bR_in 6 = .ok (.iload_n 2, 1) := by decide +kernel
theorem dR_in_7 : decode bR_in 7 = .ok (.if_icmp .gt 7, 3) := by decide +kernel
theorem dR_in_10 : decode bR_in 10 = .ok (.iconst 1, 1) := by decide +kernel
theorem dR_in_11 : decode bR_in 11 = .ok (.goto 4, 3) := by decide +kernel
theorem dR_in_14 : decode bR_in 14 = .ok (.iconst 0, 1) := by decide +kernel
theorem dR_in_15 : decode bR_in 15 = .ok (.ireturn, 1) := by decide +kernel
theorem dR_is_0 : decode bR_is 0 = .ok (.iload_n 1, 1) := by decide +kernel
theorem dR_is_1 : decode bR_is 1 = .ok (.iconst 0, 1) := by decide +kernel
theorem dR_is_2 : decode bR_is 2 = .ok (.aload_n 0, 1) := by decide +kernel
theorem dR_is_3 : decode bR_is 3 = .ok (.getfield 42, 3) := by decide +kernel
theorem dR_is_6 : decode bR_is 6 = .ok (.iconst 1, 1) := by decide +kernel
theorem dR_is_7 : decode bR_is 7 = .ok (.isub, 1) := by decide +kernel
theorem dR_is_8 : decode bR_is 8 = .ok (.invokestatic 45, 3) := by decide +kernel
theorem dR_is_11 : decode bR_is 11 = .ok (.ireturn, 1) := by decide +kernel
theorem dR_good_0 : decode bR_good 0 = .ok (.aload_n 0, 1) := by decide +kernel
theorem dR_good_1 : decode bR_good 1 = .ok (.iload_n 1, 1) := by decide +kernel
theorem dR_good_2 : decode bR_good 2 = .ok (.ifCond .eq 7, 3) := by decide +kernel
theorem dR_good_5 : decode bR_good 5 = .ok (.iconst 0, 1) := by decide +kernel
theorem dR_good_6 : decode bR_good 6 = .ok (.goto 4, 3) := by decide +kernel
theorem dR_good_9 : decode bR_good 9 = .ok (.iconst 1, 1) := by decide +kernel
theorem dR_good_10 : decode bR_good 10 = .ok (.putfield 38, 3) := by decide +kernel
theorem dR_good_13 : decode bR_good 13 = .ok (.iload_n 1, 1) := by decide +kernel
theorem dR_good_14 : decode bR_good 14 = .ok (.ireturn, 1) := by decide +kernel
theorem dR_measure_0 : decode bR_measure 0 = .ok (.aload_n 0, 1) := by decide +kernel
theorem dR_measure_1 : decode bR_measure 1 = .ok (.iload_n 1, 1) := by decide +kernel
theorem dR_measure_2 : decode bR_measure 2 = .ok (.iconst 1, 1) := by decide +kernel
theorem dR_measure_3 : decode bR_measure 3 = .ok (.sipush 10000, 3) := by decide +kernel
theorem dR_measure_6 : decode bR_measure 6 = .ok (.invokestatic 45, 3) := by decide +kernel
theorem dR_measure_9 : decode bR_measure 9 = .ok (.ifCond .eq 18, 3) := by decide +kernel
theorem dR_measure_12 : decode bR_measure 12 = .ok (.iload_n 2, 1) := by decide +kernel
theorem dR_measure_13 : decode bR_measure 13 = .ok (.iconst 0, 1) := by decide +kernel
theorem dR_measure_14 : decode bR_measure 14 = .ok (.sipush 10000, 3) := by decide +kernel
theorem dR_measure_17 : decode bR_measure 17 = .ok (.invokestatic 45, 3) := by decide +kernel
theorem dR_measure_20 : decode bR_measure 20 = .ok (.ifCond .eq 7, 3) := by decide +kernel
theorem dR_measure_23 : decode bR_measure 23 = .ok (.iconst 1, 1) := by decide +kernel
theorem dR_measure_24 : decode bR_measure 24 = .ok (.goto 4, 3) := by decide +kernel
theorem dR_measure_27 : decode bR_measure 27 = .ok (.iconst 0, 1) := by decide +kernel
theorem dR_measure_28 : decode bR_measure 28 = .ok (.invokevirtual 49, 3) := by decide +kernel
theorem dR_measure_31 : decode bR_measure 31 = .ok (.ifCond .ne 5, 3) := by decide +kernel
theorem dR_measure_34 : decode bR_measure 34 = .ok (.iconst 0, 1) := by decide +kernel
theorem dR_measure_35 : decode bR_measure 35 = .ok (.ireturn, 1) := by decide +kernel
theorem dR_measure_36 : decode bR_measure 36 = .ok (.aload_n 0, 1) := by decide +kernel
theorem dR_measure_37 : decode bR_measure 37 = .ok (.getfield 42, 3) := by decide +kernel
theorem dR_measure_40 : decode bR_measure 40 = .ok (.bipush 12, 2) := by decide +kernel
theorem dR_measure_42 : decode bR_measure 42 = .ok (.if_icmp .ne 10, 3) := by decide +kernel
theorem dR_measure_45 : decode bR_measure 45 = .ok (.aload_n 0, 1) := by decide +kernel
theorem dR_measure_46 : decode bR_measure 46 = .ok (.iconst 2, 1) := by decide +kernel
theorem dR_measure_47 : decode bR_measure 47 = .ok (.putfield 38, 3) := by decide +kernel
theorem dR_measure_50 : decode bR_measure 50 = .ok (.iconst 0, 1) := by decide +kernel
theorem dR_measure_51 : decode bR_measure 51 = .ok (.ireturn, 1) := by decide +kernel
theorem dR_measure_52 : decode bR_measure 52 = .ok (.aload_n 0, 1) := by decide +kernel
theorem dR_measure_53 : decode bR_measure 53 = .ok (.getfield 7, 3) := by decide +kernel
theorem dR_measure_56 : decode bR_measure 56 = .ok (.aload_n 0, 1) := by decide +kernel
theorem dR_measure_57 : decode bR_measure 57 = .ok (.getfield 42, 3) := by decide +kernel
theorem dR_measure_60 : decode bR_measure 60 = .ok (.iload_n 1, 1) := by decide +kernel
theorem dR_measure_61 : decode bR_measure 61 = .ok (.iastore, 1) := by decide +kernel
theorem dR_measure_62 : decode bR_measure 62 = .ok (.aload_n 0, 1) := by decide +kernel
theorem dR_measure_63 : decode bR_measure 63 = .ok (.getfield 13, 3) := by decide +kernel
theorem dR_measure_66 : decode bR_measure 66 = .ok (.aload_n 0, 1) := by decide +kernel
theorem dR_measure_67 : decode bR_measure 67 = .ok (.getfield 42, 3) := by decide +kernel
theorem dR_measure_70 : decode bR_measure 70 = .ok (.iload_n 2, 1) := by decide +kernel
theorem dR_measure_71 : decode bR_measure 71 = .ok (.iastore, 1) := by decide +kernel
theorem dR_measure_72 : decode bR_measure 72 = .ok (.aload_n 0, 1) := by decide +kernel
theorem dR_measure_73 : decode bR_measure 73 = .ok (.dup, 1) := by decide +kernel
theorem dR_measure_74 : decode bR_measure 74 = .ok (.getfield 42, 3) := by decide +kernel
theorem dR_measure_77 : decode bR_measure 77 = .ok (.iconst 1, 1) := by decide +kernel
theorem dR_measure_78 : decode bR_measure 78 = .ok (.iadd, 1) := by decide +kernel
theorem dR_measure_79 : decode bR_measure 79 = .ok (.putfield 42, 3) := by decide +kernel
theorem dR_measure_82 : decode bR_measure 82 = .ok (.aload_n 0, 1) := by decide +kernel
theorem dR_measure_83 : decode bR_measure 83 = .ok (.getfield 42, 3) := by decide +kernel
theorem dR_measure_86 : decode bR_measure 86 = .ok (.iconst 1, 1) := by decide +kernel
theorem dR_measure_87 : decode bR_measure 87 = .ok (.isub, 1) := by decide +kernel
theorem dR_measure_88 : decode bR_measure 88 = .ok (.ireturn, 1) := by decide +kernel
theorem dR_change_0 : decode bR_change 0 = .ok (.aload_n 0, 1) := by decide +kernel
theorem dR_change_1 : decode bR_change 1 = .ok (.aload_n 0, 1) := by decide +kernel
theorem dR_change_2 : decode bR_change 2 = .ok (.iload_n 1, 1) := by decide +kernel
theorem dR_change_3 : decode bR_change 3 = .ok (.invokevirtual 53, 3) := by decide +kernel
theorem dR_change_6 : decode bR_change 6 = .ok (.ifCond .eq 29, 3) := by decide +kernel
theorem dR_change_9 : decode bR_change 9 = .ok (.iload_n 2, 1) := by decide +kernel
theorem dR_change_10 : decode bR_change 10 = .ok (.iconst 1, 1) := by decide +kernel
theorem dR_change_11 : decode bR_change 11 = .ok (.sipush 10000, 3) := by decide +kernel
theorem dR_change_14 : decode bR_change 14 = .ok (.invokestatic 45, 3) := by decide +kernel
theorem dR_change_17 : decode bR_change 17 = .ok (.ifCond .eq 18, 3) := by decide +kernel
theorem dR_change_20 : decode bR_change 20 = .ok (.iload_n 3, 1) := by decide +kernel
theorem dR_change_21 : decode bR_change 21 = .ok (.iconst 0, 1) := by decide +kernel
theorem dR_change_22 : decode bR_change 22 = .ok (.sipush 10000, 3) := by decide +kernel
theorem dR_change_25 : decode bR_change 25 = .ok (.invokestatic 45, 3) := by decide +kernel
theorem dR_change_28 : decode bR_change 28 = .ok (.ifCond .eq 7, 3) := by decide +kernel
theorem dR_change_31 : decode bR_change 31 = .ok (.iconst 1, 1) := by decide +kernel
theorem dR_change_32 : decode bR_change 32 = .ok (.goto 4, 3) := by decide +kernel
theorem dR_change_35 : decode bR_change 35 = .ok (.iconst 0, 1) := by decide +kernel
theorem dR_change_36 : decode bR_change 36 = .ok (.invokevirtual 49, 3) := by decide +kernel
theorem dR_change_39 : decode bR_change 39 = .ok (.ifCond .eq 17, 3) := by decide +kernel
theorem dR_change_42 : decode bR_change 42 = .ok (.aload_n 0, 1) := by decide +kernel
theorem dR_change_43 : decode bR_change 43 = .ok (.getfield 7, 3) := by decide +kernel
theorem dR_change_46 : decode bR_change 46 = .ok (.iload_n 1, 1) := by decide +kernel
theorem dR_change_47 : decode bR_change 47 = .ok (.iload_n 2, 1) := by decide +kernel
theorem dR_change_48 : decode bR_change 48 = .ok (.iastore, 1) := by decide +kernel
theorem dR_change_49 : decode bR_change 49 = .ok (.aload_n 0, 1) := by decide +kernel
theorem dR_change_50 : decode bR_change 50 = .ok (.getfield 13, 3) := by decide +kernel
theorem dR_change_53 : decode bR_change 53 = .ok (.iload_n 1, 1) := by decide +kernel
theorem dR_change_54 : decode bR_change 54 = .ok (.iload_n 3, 1) := by decide +kernel
theorem dR_change_55 : decode bR_change 55 = .ok (.iastore, 1) := by decide +kernel
theorem dR_change_56 : decode bR_change 56 = .ok (.return_, 1) := by decide +kernel
theorem dR_exclude_0 : decode bR_exclude 0 = .ok (.aload_n 0, 1) := by decide +kernel
theorem dR_exclude_1 : decode bR_exclude 1 = .ok (.aload_n 0, 1) := by decide +kernel
theorem dR_exclude_2 : decode bR_exclude 2 = .ok (.iload_n 1, 1) := by decide +kernel
theorem dR_exclude_3 : decode bR_exclude 3 = .ok (.invokevirtual 53, 3) := by decide +kernel
theorem dR_exclude_6 : decode bR_exclude 6 = .ok (.ifCond .eq 20, 3) := by decide +kernel
theorem dR_exclude_9 : decode bR_exclude 9 = .ok (.aload_n 0, 1) := by decide +kernel
theorem dR_exclude_10 : decode bR_exclude 10 = .ok (.iload_n 2, 1) := by decide +kernel
theorem dR_exclude_11 : decode bR_exclude 11 = .ok (.invokevirtual 53, 3) := by decide +kernel
theorem dR_exclude_14 : decode bR_exclude 14 = .ok (.ifCond .eq 12, 3) := by decide +kernel
theorem dR_exclude_17 : decode bR_exclude 17 = .ok (.iload_n 1, 1) := by decide +kernel
theorem dR_exclude_18 : decode bR_exclude 18 = .ok (.iload_n 2, 1) := by decide +kernel
theorem dR_exclude_19 : decode bR_exclude 19 = .ok (.if_icmp .eq 7, 3) := by decide +kernel
theorem dR_exclude_22 : decode bR_exclude 22 = .ok (.iconst 1, 1) := by decide +kernel
theorem dR_exclude_23 : decode bR_exclude 23 = .ok (.goto 4, 3) := by decide +kernel
theorem dR_exclude_26 : decode bR_exclude 26 = .ok (.iconst 0, 1) := by decide +kernel
theorem dR_exclude_27 : decode bR_exclude 27 = .ok (.invokevirtual 49, 3) := by decide +kernel
theorem dR_exclude_30 : decode bR_exclude 30 = .ok (.ifCond .ne 5, 3) := by decide +kernel
theorem dR_exclude_33 : decode bR_exclude 33 = .ok (.iconst 0, 1) := by decide +kernel
theorem dR_exclude_34 : decode bR_exclude 34 = .ok (.ireturn, 1) := by decide +kernel
theorem dR_exclude_35 : decode bR_exclude 35 = .ok (.aload_n 0, 1) := by decide +kernel
theorem dR_exclude_36 : decode bR_exclude 36 = .ok (.getfield 16, 3) := by decide +kernel
theorem dR_exclude_39 : decode bR_exclude 39 = .ok (.bipush 12, 2) := by decide +kernel
theorem dR_exclude_41 : decode bR_exclude 41 = .ok (.iload_n 1, 1) := by decide +kernel
theorem dR_exclude_42 : decode bR_exclude 42 = .ok (.imul, 1) := by decide +kernel
theorem dR_exclude_43 : decode bR_exclude 43 = .ok (.iload_n 2, 1) := by decide +kernel
theorem dR_exclude_44 : decode bR_exclude 44 = .ok (.iadd, 1) := by decide +kernel
theorem dR_exclude_45 : decode bR_exclude 45 = .ok (.baload, 1) := by decide +kernel
theorem dR_exclude_46 : decode bR_exclude 46 = .ok (.istore 4, 2) := by decide +kernel
theorem dR_exclude_48 : decode bR_exclude 48 = .ok (.aload_n 0, 1) := by decide +kernel
theorem dR_exclude_49 : decode bR_exclude 49 = .ok (.getfield 16, 3) := by decide +kernel
theorem dR_exclude_52 : decode bR_exclude 52 = .ok (.bipush 12, 2) := by decide +kernel
theorem dR_exclude_54 : decode bR_exclude 54 = .ok (.iload_n 1, 1) := by decide +kernel
theorem dR_exclude_55 : decode bR_exclude 55 = .ok (.imul, 1) := by decide +kernel
theorem dR_exclude_56 : decode bR_exclude 56 = .ok (.iload_n 2, 1) := by decide +kernel
theorem dR_exclude_57 : decode bR_exclude 57 = .ok (.iadd, 1) := by decide +kernel
theorem dR_exclude_58 : decode bR_exclude 58 = .ok (.iload_n 3, 1) := by decide +kernel
theorem dR_exclude_59 : decode bR_exclude 59 = .ok (.bastore, 1) := by decide +kernel
theorem dR_exclude_60 : decode bR_exclude 60 = .ok (.aload_n 0, 1) := by decide +kernel
theorem dR_exclude_61 : decode bR_exclude 61 = .ok (.getfield 16, 3) := by decide +kernel
theorem dR_exclude_64 : decode bR_exclude 64 = .ok (.bipush 12, 2) := by decide +kernel
theorem dR_exclude_66 : decode bR_exclude 66 = .ok (.iload_n 2, 1) := by decide +kernel
theorem dR_exclude_67 : decode bR_exclude 67 = .ok (.imul, 1) := by decide +kernel
theorem dR_exclude_68 : decode bR_exclude 68 = .ok (.iload_n 1, 1) := by decide +kernel
theorem dR_exclude_69 : decode bR_exclude 69 = .ok (.iadd, 1) := by decide +kernel
theorem dR_exclude_70 : decode bR_exclude 70 = .ok (.iload_n 3, 1) := by decide +kernel
theorem dR_exclude_71 : decode bR_exclude 71 = .ok (.bastore, 1) := by decide +kernel
theorem dR_exclude_72 : decode bR_exclude 72 = .ok (.iload 4, 2) := by decide +kernel
theorem dR_exclude_74 : decode bR_exclude 74 = .ok (.ireturn, 1) := by decide +kernel
theorem dR_needs_0 : decode bR_needs 0 = .ok (.aload_n 0, 1) := by decide +kernel
theorem dR_needs_1 : decode bR_needs 1 = .ok (.aload_n 0, 1) := by decide +kernel
theorem dR_needs_2 : decode bR_needs 2 = .ok (.iload_n 1, 1) := by decide +kernel
theorem dR_needs_3 : decode bR_needs 3 = .ok (.invokevirtual 53, 3) := by decide +kernel
theorem dR_needs_6 : decode bR_needs 6 = .ok (.ifCond .eq 20, 3) := by decide +kernel
theorem dR_needs_9 : decode bR_needs 9 = .ok (.aload_n 0, 1) := by decide +kernel
theorem dR_needs_10 : decode bR_needs 10 = .ok (.iload_n 2, 1) := by decide +kernel
theorem dR_needs_11 : decode bR_needs 11 = .ok (.invokevirtual 53, 3) := by decide +kernel
theorem dR_needs_14 : decode bR_needs 14 = .ok (.ifCond .eq 12, 3) := by decide +kernel
theorem dR_needs_17 : decode bR_needs 17 = .ok (.iload_n 1, 1) := by decide +kernel
theorem dR_needs_18 : decode bR_needs 18 = .ok (.iload_n 2, 1) := by decide +kernel
theorem dR_needs_19 : decode bR_needs 19 = .ok (.if_icmp .eq 7, 3) := by decide +kernel
theorem dR_needs_22 : decode bR_needs 22 = .ok (.iconst 1, 1) := by decide +kernel
theorem dR_needs_23 : decode bR_needs 23 = .ok (.goto 4, 3) := by decide +kernel
theorem dR_needs_26 : decode bR_needs 26 = .ok (.iconst 0, 1) := by decide +kernel
theorem dR_needs_27 : decode bR_needs 27 = .ok (.invokevirtual 49, 3) := by decide +kernel
theorem dR_needs_30 : decode bR_needs 30 = .ok (.ifCond .ne 5, 3) := by decide +kernel
theorem dR_needs_33 : decode bR_needs 33 = .ok (.iconst 0, 1) := by decide +kernel
theorem dR_needs_34 : decode bR_needs 34 = .ok (.ireturn, 1) := by decide +kernel
theorem dR_needs_35 : decode bR_needs 35 = .ok (.aload_n 0, 1) := by decide +kernel
theorem dR_needs_36 : decode bR_needs 36 = .ok (.getfield 20, 3) := by decide +kernel
theorem dR_needs_39 : decode bR_needs 39 = .ok (.bipush 12, 2) := by decide +kernel
theorem dR_needs_41 : decode bR_needs 41 = .ok (.iload_n 1, 1) := by decide +kernel
theorem dR_needs_42 : decode bR_needs 42 = .ok (.imul, 1) := by decide +kernel
theorem dR_needs_43 : decode bR_needs 43 = .ok (.iload_n 2, 1) := by decide +kernel
theorem dR_needs_44 : decode bR_needs 44 = .ok (.iadd, 1) := by decide +kernel
theorem dR_needs_45 : decode bR_needs 45 = .ok (.baload, 1) := by decide +kernel
theorem dR_needs_46 : decode bR_needs 46 = .ok (.istore 4, 2) := by decide +kernel
theorem dR_needs_48 : decode bR_needs 48 = .ok (.aload_n 0, 1) := by decide +kernel
theorem dR_needs_49 : decode bR_needs 49 = .ok (.getfield 20, 3) := by decide +kernel
theorem dR_needs_52 : decode bR_needs 52 = .ok (.bipush 12, 2) := by decide +kernel
theorem dR_needs_54 : decode bR_needs 54 = .ok (.iload_n 1, 1) := by decide +kernel
theorem dR_needs_55 : decode bR_needs 55 = .ok (.imul, 1) := by decide +kernel
theorem dR_needs_56 : decode bR_needs 56 = .ok (.iload_n 2, 1) := by decide +kernel
theorem dR_needs_57 : decode bR_needs 57 = .ok (.iadd, 1) := by decide +kernel
theorem dR_needs_58 : decode bR_needs 58 = .ok (.iload_n 3, 1) := by decide +kernel
theorem dR_needs_59 : decode bR_needs 59 = .ok (.bastore, 1) := by decide +kernel
theorem dR_needs_60 : decode bR_needs 60 = .ok (.iload 4, 2) := by decide +kernel
theorem dR_needs_62 : decode bR_needs 62 = .ok (.ireturn, 1) := by decide +kernel
theorem dR_bonus_0 : decode bR_bonus 0 = .ok (.aload_n 0, 1) := by decide +kernel
theorem dR_bonus_1 : decode bR_bonus 1 = .ok (.aload_n 0, 1) := by decide +kernel
theorem dR_bonus_2 : decode bR_bonus 2 = .ok (.iload_n 1, 1) := by decide +kernel
theorem dR_bonus_3 : decode bR_bonus 3 = .ok (.invokevirtual 53, 3) := by decide +kernel
theorem dR_bonus_6 : decode bR_bonus 6 = .ok (.ifCond .eq 33, 3) := by decide +kernel
theorem dR_bonus_9 : decode bR_bonus 9 = .ok (.aload_n 0, 1) := by decide +kernel
theorem dR_bonus_10 : decode bR_bonus 10 = .ok (.iload_n 2, 1) := by decide +kernel
theorem dR_bonus_11 : decode bR_bonus 11 = .ok (.invokevirtual 53, 3) := by decide +kernel
theorem dR_bonus_14 : decode bR_bonus 14 = .ok (.ifCond .eq 25, 3) := by decide +kernel
theorem dR_bonus_17 : decode bR_bonus 17 = .ok (.iload_n 1, 1) := by decide +kernel
theorem dR_bonus_18 : decode bR_bonus 18 = .ok (.iload_n 2, 1) := by decide +kernel
theorem dR_bonus_19 : decode bR_bonus 19 = .ok (.if_icmp .eq 20, 3) := by decide +kernel
theorem dR_bonus_22 : decode bR_bonus 22 = .ok (.iload_n 3, 1) := by decide +kernel
theorem dR_bonus_23 : decode bR_bonus 23 = .ok (.sipush (-5000), 3) := by decide +kernel
theorem dR_bonus_26 : decode bR_bonus 26 = .ok (.sipush 5000, 3) := by decide +kernel
theorem dR_bonus_29 : decode bR_bonus 29 = .ok (.invokestatic 45, 3) := by decide +kernel
theorem dR_bonus_32 : decode bR_bonus 32 = .ok (.ifCond .eq 7, 3) := by decide +kernel
theorem dR_bonus_35 : decode bR_bonus 35 = .ok (.iconst 1, 1) := by decide +kernel
theorem dR_bonus_36 : decode bR_bonus 36 = .ok (.goto 4, 3) := by decide +kernel
theorem dR_bonus_39 : decode bR_bonus 39 = .ok (.iconst 0, 1) := by decide +kernel
theorem dR_bonus_40 : decode bR_bonus 40 = .ok (.invokevirtual 49, 3) := by decide +kernel
theorem dR_bonus_43 : decode bR_bonus 43 = .ok (.ifCond .ne 5, 3) := by decide +kernel
theorem dR_bonus_46 : decode bR_bonus 46 = .ok (.iconst 0, 1) := by decide +kernel
theorem dR_bonus_47 : decode bR_bonus 47 = .ok (.ireturn, 1) := by decide +kernel
theorem dR_bonus_48 : decode bR_bonus 48 = .ok (.aload_n 0, 1) := by decide +kernel
theorem dR_bonus_49 : decode bR_bonus 49 = .ok (.getfield 23, 3) := by decide +kernel
theorem dR_bonus_52 : decode bR_bonus 52 = .ok (.bipush 12, 2) := by decide +kernel
theorem dR_bonus_54 : decode bR_bonus 54 = .ok (.iload_n 1, 1) := by decide +kernel
theorem dR_bonus_55 : decode bR_bonus 55 = .ok (.imul, 1) := by decide +kernel
theorem dR_bonus_56 : decode bR_bonus 56 = .ok (.iload_n 2, 1) := by decide +kernel
theorem dR_bonus_57 : decode bR_bonus 57 = .ok (.iadd, 1) := by decide +kernel
theorem dR_bonus_58 : decode bR_bonus 58 = .ok (.iaload, 1) := by decide +kernel
theorem dR_bonus_59 : decode bR_bonus 59 = .ok (.istore 4, 2) := by decide +kernel
theorem dR_bonus_61 : decode bR_bonus 61 = .ok (.aload_n 0, 1) := by decide +kernel
theorem dR_bonus_62 : decode bR_bonus 62 = .ok (.getfield 23, 3) := by decide +kernel
theorem dR_bonus_65 : decode bR_bonus 65 = .ok (.bipush 12, 2) := by decide +kernel
theorem dR_bonus_67 : decode bR_bonus 67 = .ok (.iload_n 1, 1) := by decide +kernel
theorem dR_bonus_68 : decode bR_bonus 68 = .ok (.imul, 1) := by decide +kernel
theorem dR_bonus_69 : decode bR_bonus 69 = .ok (.iload_n 2, 1) := by decide +kernel
theorem dR_bonus_70 : decode bR_bonus 70 = .ok (.iadd, 1) := by decide +kernel
theorem dR_bonus_71 : decode bR_bonus 71 = .ok (.iload_n 3, 1) := by decide +kernel
theorem dR_bonus_72 : decode bR_bonus 72 = .ok (.iastore, 1) := by decide +kernel
theorem dR_bonus_73 : decode bR_bonus 73 = .ok (.aload_n 0, 1) := by decide +kernel
theorem dR_bonus_74 : decode bR_bonus 74 = .ok (.getfield 23, 3) := by decide +kernel
theorem dR_bonus_77 : decode bR_bonus 77 = .ok (.bipush 12, 2) := by decide +kernel
theorem dR_bonus_79 : decode bR_bonus 79 = .ok (.iload_n 2, 1) := by decide +kernel
theorem dR_bonus_80 : decode bR_bonus 80 = .ok (.imul, 1) := by decide +kernel
theorem dR_bonus_81 : decode bR_bonus 81 = .ok (.iload_n 1, 1) := by decide +kernel
theorem dR_bonus_82 : decode bR_bonus 82 = .ok (.iadd, 1) := by decide +kernel
theorem dR_bonus_83 : decode bR_bonus 83 = .ok (.iload_n 3, 1) := by decide +kernel
theorem dR_bonus_84 : decode bR_bonus 84 = .ok (.iastore, 1) := by decide +kernel
theorem dR_bonus_85 : decode bR_bonus 85 = .ok (.iload 4, 2) := by decide +kernel
theorem dR_bonus_87 : decode bR_bonus 87 = .ok (.ireturn, 1) := by decide +kernel
theorem dR_has_0 : decode bR_has 0 = .ok (.iload_n 0, 1) := by decide +kernel
theorem dR_has_1 : decode bR_has 1 = .ok (.iload_n 1, 1) := by decide +kernel
theorem dR_has_2 : decode bR_has 2 = .ok (.ishr, 1) := by decide +kernel
theorem dR_has_3 : decode bR_has 3 = .ok (.iconst 1, 1) := by decide +kernel
theorem dR_has_4 : decode bR_has 4 = .ok (.iand, 1) := by decide +kernel
theorem dR_has_5 : decode bR_has 5 = .ok (.iconst 1, 1) := by decide +kernel
theorem dR_has_6 : decode bR_has 6 = .ok (.if_icmp .ne 7, 3) := by decide +kernel
theorem dR_has_9 : decode bR_has 9 = .ok (.iconst 1, 1) := by decide +kernel
theorem dR_has_10 : decode bR_has 10 = .ok (.goto 4, 3) := by decide +kernel
theorem dR_has_13 : decode bR_has 13 = .ok (.iconst 0, 1) := by decide +kernel
theorem dR_has_14 : decode bR_has 14 = .ok (.ireturn, 1) := by decide +kernel
theorem dR_isSet_0 : decode bR_isSet 0 = .ok (.iload_n 1, 1) := by decide +kernel
theorem dR_isSet_1 : decode bR_isSet 1 = .ok (.ifCond .lt 16, 3) := by decide +kernel
theorem dR_isSet_4 : decode bR_isSet 4 = .ok (.iload_n 1, 1) := by decide +kernel
theorem dR_isSet_5 : decode bR_isSet 5 = .ok (.aload_n 0, 1) := by decide +kernel
theorem dR_isSet_6 : decode bR_isSet 6 = .ok (.getfield 42, 3) := by decide +kernel
theorem dR_isSet_9 : decode bR_isSet 9 = .ok (.ishr, 1) := by decide +kernel
theorem dR_isSet_10 : decode bR_isSet 10 = .ok (.ifCond .ne 7, 3) := by decide +kernel
theorem dR_isSet_13 : decode bR_isSet 13 = .ok (.iconst 1, 1) := by decide +kernel
theorem dR_isSet_14 : decode bR_isSet 14 = .ok (.goto 4, 3) := by decide +kernel
theorem dR_isSet_17 : decode bR_isSet 17 = .ok (.iconst 0, 1) := by decide +kernel
theorem dR_isSet_18 : decode bR_isSet 18 = .ok (.ireturn, 1) := by decide +kernel
theorem dR_holds_0 : decode bR_holds 0 = .ok (.iconst 1, 1) := by decide +kernel
theorem dR_holds_1 : decode bR_holds 1 = .ok (.istore_n 2, 1) := by decide +kernel
theorem dR_holds_2 : decode bR_holds 2 = .ok (.iconst 0, 1) := by decide +kernel
theorem dR_holds_3 : decode bR_holds 3 = .ok (.istore_n 3, 1) := by decide +kernel
theorem dR_holds_4 : decode bR_holds 4 = .ok (.iload_n 3, 1) := by decide +kernel
theorem dR_holds_5 : decode bR_holds 5 = .ok (.aload_n 0, 1) := by decide +kernel
theorem dR_holds_6 : decode bR_holds 6 = .ok (.getfield 42, 3) := by decide +kernel
theorem dR_holds_9 : decode bR_holds 9 = .ok (.if_icmp .ge 93, 3) := by decide +kernel
theorem dR_holds_12 : decode bR_holds 12 = .ok (.iconst 0, 1) := by decide +kernel
theorem dR_holds_13 : decode bR_holds 13 = .ok (.istore 4, 2) := by decide +kernel
theorem dR_holds_15 : decode bR_holds 15 = .ok (.iload 4, 2) := by decide +kernel
theorem dR_holds_17 : decode bR_holds 17 = .ok (.aload_n 0, 1) := by decide +kernel
theorem dR_holds_18 : decode bR_holds 18 = .ok (.getfield 42, 3) := by decide +kernel
theorem dR_holds_21 : decode bR_holds 21 = .ok (.if_icmp .ge 75, 3) := by decide +kernel
theorem dR_holds_24 : decode bR_holds 24 = .ok (.iload_n 1, 1) := by decide +kernel
theorem dR_holds_25 : decode bR_holds 25 = .ok (.iload_n 3, 1) := by decide +kernel
theorem dR_holds_26 : decode bR_holds 26 = .ok (.invokestatic 57, 3) := by decide +kernel
theorem dR_holds_29 : decode bR_holds 29 = .ok (.ifCond .eq 67, 3) := by decide +kernel
theorem dR_holds_32 : decode bR_holds 32 = .ok (.iload_n 2, 1) := by decide +kernel
theorem dR_holds_33 : decode bR_holds 33 = .ok (.ifCond .eq 55, 3) := by decide +kernel
theorem dR_holds_36 : decode bR_holds 36 = .ok (.iload_n 1, 1) := by decide +kernel
theorem dR_holds_37 : decode bR_holds 37 = .ok (.iload 4, 2) := by decide +kernel
theorem dR_holds_39 : decode bR_holds 39 = .ok (.invokestatic 57, 3) := by decide +kernel
theorem dR_holds_42 : decode bR_holds 42 = .ok (.ifCond .eq 18, 3) := by decide +kernel
theorem dR_holds_45 : decode bR_holds 45 = .ok (.aload_n 0, 1) := by decide +kernel
theorem dR_holds_46 : decode bR_holds 46 = .ok (.getfield 16, 3) := by decide +kernel
theorem dR_holds_49 : decode bR_holds 49 = .ok (.bipush 12, 2) := by decide +kernel
theorem dR_holds_51 : decode bR_holds 51 = .ok (.iload_n 3, 1) := by decide +kernel
theorem dR_holds_52 : decode bR_holds 52 = .ok (.imul, 1) := by decide +kernel
theorem dR_holds_53 : decode bR_holds 53 = .ok (.iload 4, 2) := by decide +kernel
theorem dR_holds_55 : decode bR_holds 55 = .ok (.iadd, 1) := by decide +kernel
theorem dR_holds_56 : decode bR_holds 56 = .ok (.baload, 1) := by decide +kernel
theorem dR_holds_57 : decode bR_holds 57 = .ok (.ifCond .ne 31, 3) := by decide +kernel
theorem dR_holds_60 : decode bR_holds 60 = .ok (.iload_n 1, 1) := by decide +kernel
theorem dR_holds_61 : decode bR_holds 61 = .ok (.iload 4, 2) := by decide +kernel
theorem dR_holds_63 : decode bR_holds 63 = .ok (.invokestatic 57, 3) := by decide +kernel
theorem dR_holds_66 : decode bR_holds 66 = .ok (.ifCond .ne 18, 3) := by decide +kernel
theorem dR_holds_69 : decode bR_holds 69 = .ok (.aload_n 0, 1) := by decide +kernel
theorem dR_holds_70 : decode bR_holds 70 = .ok (.getfield 20, 3) := by decide +kernel
theorem dR_holds_73 : decode bR_holds 73 = .ok (.bipush 12, 2) := by decide +kernel
theorem dR_holds_75 : decode bR_holds 75 = .ok (.iload_n 3, 1) := by decide +kernel
theorem dR_holds_76 : decode bR_holds 76 = .ok (.imul, 1) := by decide +kernel
theorem dR_holds_77 : decode bR_holds 77 = .ok (.iload 4, 2) := by decide +kernel
theorem dR_holds_79 : decode bR_holds 79 = .ok (.iadd, 1) := by decide +kernel
theorem dR_holds_80 : decode bR_holds 80 = .ok (.baload, 1) := by decide +kernel
theorem dR_holds_81 : decode bR_holds 81 = .ok (.ifCond .ne 7, 3) := by decide +kernel
theorem dR_holds_84 : decode bR_holds 84 = .ok (.iconst 1, 1) := by decide +kernel
theorem dR_holds_85 : decode bR_holds 85 = .ok (.goto 4, 3) := by decide +kernel
theorem dR_holds_88 : decode bR_holds 88 = .ok (.iconst 0, 1) := by decide +kernel
theorem dR_holds_89 : decode bR_holds 89 = .ok (.istore_n 2, 1) := by decide +kernel
theorem dR_holds_90 : decode bR_holds 90 = .ok (.iinc 4 1, 3) := by decide +kernel
theorem dR_holds_93 : decode bR_holds 93 = .ok (.goto (-78), 3) := by decide +kernel
theorem dR_holds_96 : decode bR_holds 96 = .ok (.iinc 3 1, 3) := by decide +kernel
theorem dR_holds_99 : decode bR_holds 99 = .ok (.goto (-95), 3) := by decide +kernel
theorem dR_holds_102 : decode bR_holds 102 = .ok (.iload_n 2, 1) := by decide +kernel
theorem dR_holds_103 : decode bR_holds 103 = .ok (.ireturn, 1) := by decide +kernel
theorem dR_costOf_0 : decode bR_costOf 0 = .ok (.iconst 0, 1) := by decide +kernel
theorem dR_costOf_1 : decode bR_costOf 1 = .ok (.istore_n 2, 1) := by decide +kernel
theorem dR_costOf_2 : decode bR_costOf 2 = .ok (.iconst 0, 1) := by decide +kernel
theorem dR_costOf_3 : decode bR_costOf 3 = .ok (.istore_n 3, 1) := by decide +kernel
theorem dR_costOf_4 : decode bR_costOf 4 = .ok (.iload_n 3, 1) := by decide +kernel
theorem dR_costOf_5 : decode bR_costOf 5 = .ok (.aload_n 0, 1) := by decide +kernel
theorem dR_costOf_6 : decode bR_costOf 6 = .ok (.getfield 42, 3) := by decide +kernel
theorem dR_costOf_9 : decode bR_costOf 9 = .ok (.if_icmp .ge 30, 3) := by decide +kernel
theorem dR_costOf_12 : decode bR_costOf 12 = .ok (.iload_n 2, 1) := by decide +kernel
theorem dR_costOf_13 : decode bR_costOf 13 = .ok (.iload_n 1, 1) := by decide +kernel
theorem dR_costOf_14 : decode bR_costOf 14 = .ok (.iload_n 3, 1) := by decide +kernel
theorem dR_costOf_15 : decode bR_costOf 15 = .ok (.invokestatic 57, 3) := by decide +kernel
theorem dR_costOf_18 : decode bR_costOf 18 = .ok (.ifCond .eq 12, 3) := by decide +kernel
theorem dR_costOf_21 : decode bR_costOf 21 = .ok (.aload_n 0, 1) := by decide +kernel
theorem dR_costOf_22 : decode bR_costOf 22 = .ok (.getfield 7, 3) := by decide +kernel
theorem dR_costOf_25 : decode bR_costOf 25 = .ok (.iload_n 3, 1) := by decide +kernel
theorem dR_costOf_26 : decode bR_costOf 26 = .ok (.iaload, 1) := by decide +kernel
theorem dR_costOf_27 : decode bR_costOf 27 = .ok (.goto 4, 3) := by decide +kernel
theorem dR_costOf_30 : decode bR_costOf 30 = .ok (.iconst 0, 1) := by decide +kernel
theorem dR_costOf_31 : decode bR_costOf 31 = .ok (.iadd, 1) := by decide +kernel
theorem dR_costOf_32 : decode bR_costOf 32 = .ok (.istore_n 2, 1) := by decide +kernel
theorem dR_costOf_33 : decode bR_costOf 33 = .ok (.iinc 3 1, 3) := by decide +kernel
theorem dR_costOf_36 : decode bR_costOf 36 = .ok (.goto (-32), 3) := by decide +kernel
theorem dR_costOf_39 : decode bR_costOf 39 = .ok (.iload_n 2, 1) := by decide +kernel
theorem dR_costOf_40 : decode bR_costOf 40 = .ok (.ireturn, 1) := by decide +kernel
theorem dR_gainOf_0 : decode bR_gainOf 0 = .ok (.iconst 0, 1) := by decide +kernel
theorem dR_gainOf_1 : decode bR_gainOf 1 = .ok (.istore_n 2, 1) := by decide +kernel
theorem dR_gainOf_2 : decode bR_gainOf 2 = .ok (.iconst 0, 1) := by decide +kernel
theorem dR_gainOf_3 : decode bR_gainOf 3 = .ok (.istore_n 3, 1) := by decide +kernel
theorem dR_gainOf_4 : decode bR_gainOf 4 = .ok (.iload_n 3, 1) := by decide +kernel
theorem dR_gainOf_5 : decode bR_gainOf 5 = .ok (.aload_n 0, 1) := by decide +kernel
theorem dR_gainOf_6 : decode bR_gainOf 6 = .ok (.getfield 42, 3) := by decide +kernel
theorem dR_gainOf_9 : decode bR_gainOf 9 = .ok (.if_icmp .ge 81, 3) := by decide +kernel
theorem dR_gainOf_12 : decode bR_gainOf 12 = .ok (.iload_n 2, 1) := by decide +kernel
theorem dR_gainOf_13 : decode bR_gainOf 13 = .ok (.iload_n 1, 1) := by decide +kernel
theorem dR_gainOf_14 : decode bR_gainOf 14 = .ok (.iload_n 3, 1) := by decide +kernel
theorem dR_gainOf_15 : decode bR_gainOf 15 = .ok (.invokestatic 57, 3) := by decide +kernel
theorem dR_gainOf_18 : decode bR_gainOf 18 = .ok (.ifCond .eq 12, 3) := by decide +kernel
theorem dR_gainOf_21 : decode bR_gainOf 21 = .ok (.aload_n 0, 1) := by decide +kernel
theorem dR_gainOf_22 : decode bR_gainOf 22 = .ok (.getfield 13, 3) := by decide +kernel
theorem dR_gainOf_25 : decode bR_gainOf 25 = .ok (.iload_n 3, 1) := by decide +kernel
theorem dR_gainOf_26 : decode bR_gainOf 26 = .ok (.iaload, 1) := by decide +kernel
theorem dR_gainOf_27 : decode bR_gainOf 27 = .ok (.goto 4, 3) := by decide +kernel
theorem dR_gainOf_30 : decode bR_gainOf 30 = .ok (.iconst 0, 1) := by decide +kernel
theorem dR_gainOf_31 : decode bR_gainOf 31 = .ok (.iadd, 1) := by decide +kernel
theorem dR_gainOf_32 : decode bR_gainOf 32 = .ok (.istore_n 2, 1) := by decide +kernel
theorem dR_gainOf_33 : decode bR_gainOf 33 = .ok (.iconst 0, 1) := by decide +kernel
theorem dR_gainOf_34 : decode bR_gainOf 34 = .ok (.istore 4, 2) := by decide +kernel
theorem dR_gainOf_36 : decode bR_gainOf 36 = .ok (.iload 4, 2) := by decide +kernel
theorem dR_gainOf_38 : decode bR_gainOf 38 = .ok (.iload_n 3, 1) := by decide +kernel
theorem dR_gainOf_39 : decode bR_gainOf 39 = .ok (.if_icmp .ge 45, 3) := by decide +kernel
theorem dR_gainOf_42 : decode bR_gainOf 42 = .ok (.iload_n 2, 1) := by decide +kernel
theorem dR_gainOf_43 : decode bR_gainOf 43 = .ok (.iload_n 1, 1) := by decide +kernel
theorem dR_gainOf_44 : decode bR_gainOf 44 = .ok (.iload_n 3, 1) := by decide +kernel
theorem dR_gainOf_45 : decode bR_gainOf 45 = .ok (.invokestatic 57, 3) := by decide +kernel
theorem dR_gainOf_48 : decode bR_gainOf 48 = .ok (.ifCond .eq 27, 3) := by decide +kernel
theorem dR_gainOf_51 : decode bR_gainOf 51 = .ok (.iload_n 1, 1) := by decide +kernel
theorem dR_gainOf_52 : decode bR_gainOf 52 = .ok (.iload 4, 2) := by decide +kernel
theorem dR_gainOf_54 : decode bR_gainOf 54 = .ok (.invokestatic 57, 3) := by decide +kernel
theorem dR_gainOf_57 : decode bR_gainOf 57 = .ok (.ifCond .eq 18, 3) := by decide +kernel
theorem dR_gainOf_60 : decode bR_gainOf 60 = .ok (.aload_n 0, 1) := by decide +kernel
theorem dR_gainOf_61 : decode bR_gainOf 61 = .ok (.getfield 23, 3) := by decide +kernel
theorem dR_gainOf_64 : decode bR_gainOf 64 = .ok (.bipush 12, 2) := by decide +kernel
theorem dR_gainOf_66 : decode bR_gainOf 66 = .ok (.iload_n 3, 1) := by decide +kernel
theorem dR_gainOf_67 : decode bR_gainOf 67 = .ok (.imul, 1) := by decide +kernel
theorem dR_gainOf_68 : decode bR_gainOf 68 = .ok (.iload 4, 2) := by decide +kernel
theorem dR_gainOf_70 : decode bR_gainOf 70 = .ok (.iadd, 1) := by decide +kernel
theorem dR_gainOf_71 : decode bR_gainOf 71 = .ok (.iaload, 1) := by decide +kernel
theorem dR_gainOf_72 : decode bR_gainOf 72 = .ok (.goto 4, 3) := by decide +kernel
theorem dR_gainOf_75 : decode bR_gainOf 75 = .ok (.iconst 0, 1) := by decide +kernel
theorem dR_gainOf_76 : decode bR_gainOf 76 = .ok (.iadd, 1) := by decide +kernel
theorem dR_gainOf_77 : decode bR_gainOf 77 = .ok (.istore_n 2, 1) := by decide +kernel
theorem dR_gainOf_78 : decode bR_gainOf 78 = .ok (.iinc 4 1, 3) := by decide +kernel
theorem dR_gainOf_81 : decode bR_gainOf 81 = .ok (.goto (-45), 3) := by decide +kernel
theorem dR_gainOf_84 : decode bR_gainOf 84 = .ok (.iinc 3 1, 3) := by decide +kernel
theorem dR_gainOf_87 : decode bR_gainOf 87 = .ok (.goto (-83), 3) := by decide +kernel
theorem dR_gainOf_90 : decode bR_gainOf 90 = .ok (.iload_n 2, 1) := by decide +kernel
theorem dR_gainOf_91 : decode bR_gainOf 91 = .ok (.ireturn, 1) := by decide +kernel
theorem dR_lawful_0 : decode bR_lawful 0 = .ok (.aload_n 0, 1) := by decide +kernel
theorem dR_lawful_1 : decode bR_lawful 1 = .ok (.aload_n 0, 1) := by decide +kernel
theorem dR_lawful_2 : decode bR_lawful 2 = .ok (.iload_n 1, 1) := by decide +kernel
theorem dR_lawful_3 : decode bR_lawful 3 = .ok (.invokevirtual 61, 3) := by decide +kernel
theorem dR_lawful_6 : decode bR_lawful 6 = .ok (.invokevirtual 49, 3) := by decide +kernel
theorem dR_lawful_9 : decode bR_lawful 9 = .ok (.ifCond .eq 15, 3) := by decide +kernel
theorem dR_lawful_12 : decode bR_lawful 12 = .ok (.aload_n 0, 1) := by decide +kernel
theorem dR_lawful_13 : decode bR_lawful 13 = .ok (.iload_n 1, 1) := by decide +kernel
theorem dR_lawful_14 : decode bR_lawful 14 = .ok (.invokevirtual 64, 3) := by decide +kernel
theorem dR_lawful_17 : decode bR_lawful 17 = .ok (.ifCond .eq 7, 3) := by decide +kernel
theorem dR_lawful_20 : decode bR_lawful 20 = .ok (.iconst 1, 1) := by decide +kernel
theorem dR_lawful_21 : decode bR_lawful 21 = .ok (.goto 4, 3) := by decide +kernel
theorem dR_lawful_24 : decode bR_lawful 24 = .ok (.iconst 0, 1) := by decide +kernel
theorem dR_lawful_25 : decode bR_lawful 25 = .ok (.ireturn, 1) := by decide +kernel
theorem dR_told_0 : decode bR_told 0 = .ok (.aload_n 0, 1) := by decide +kernel
theorem dR_told_1 : decode bR_told 1 = .ok (.aload_n 0, 1) := by decide +kernel
theorem dR_told_2 : decode bR_told 2 = .ok (.iload_n 1, 1) := by decide +kernel
theorem dR_told_3 : decode bR_told 3 = .ok (.invokevirtual 61, 3) := by decide +kernel
theorem dR_told_6 : decode bR_told 6 = .ok (.ifCond .eq 16, 3) := by decide +kernel
theorem dR_told_9 : decode bR_told 9 = .ok (.iload_n 2, 1) := by decide +kernel
theorem dR_told_10 : decode bR_told 10 = .ok (.iconst 0, 1) := by decide +kernel
theorem dR_told_11 : decode bR_told 11 = .ok (.iconst 1, 1) := by decide +kernel
theorem dR_told_12 : decode bR_told 12 = .ok (.invokestatic 45, 3) := by decide +kernel
theorem dR_told_15 : decode bR_told 15 = .ok (.ifCond .eq 7, 3) := by decide +kernel
theorem dR_told_18 : decode bR_told 18 = .ok (.iconst 1, 1) := by decide +kernel
theorem dR_told_19 : decode bR_told 19 = .ok (.goto 4, 3) := by decide +kernel
theorem dR_told_22 : decode bR_told 22 = .ok (.iconst 0, 1) := by decide +kernel
theorem dR_told_23 : decode bR_told 23 = .ok (.invokevirtual 49, 3) := by decide +kernel
theorem dR_told_26 : decode bR_told 26 = .ok (.ifCond .ne 5, 3) := by decide +kernel
theorem dR_told_29 : decode bR_told 29 = .ok (.iconst 0, 1) := by decide +kernel
theorem dR_told_30 : decode bR_told 30 = .ok (.ireturn, 1) := by decide +kernel
theorem dR_told_31 : decode bR_told 31 = .ok (.iload_n 2, 1) := by decide +kernel
theorem dR_told_32 : decode bR_told 32 = .ok (.ifCond .ne 11, 3) := by decide +kernel
theorem dR_told_35 : decode bR_told 35 = .ok (.aload_n 0, 1) := by decide +kernel
theorem dR_told_36 : decode bR_told 36 = .ok (.iload_n 1, 1) := by decide +kernel
theorem dR_told_37 : decode bR_told 37 = .ok (.invokevirtual 67, 3) := by decide +kernel
theorem dR_told_40 : decode bR_told 40 = .ok (.goto 8, 3) := by decide +kernel
theorem dR_told_43 : decode bR_told 43 = .ok (.aload_n 0, 1) := by decide +kernel
theorem dR_told_44 : decode bR_told 44 = .ok (.iload_n 1, 1) := by decide +kernel
theorem dR_told_45 : decode bR_told 45 = .ok (.invokevirtual 71, 3) := by decide +kernel
theorem dR_told_48 : decode bR_told 48 = .ok (.ireturn, 1) := by decide +kernel
theorem dR_closure_0 : decode bR_closure 0 = .ok (.aload_n 0, 1) := by decide +kernel
theorem dR_closure_1 : decode bR_closure 1 = .ok (.aload_n 0, 1) := by decide +kernel
theorem dR_closure_2 : decode bR_closure 2 = .ok (.iload_n 1, 1) := by decide +kernel
theorem dR_closure_3 : decode bR_closure 3 = .ok (.invokevirtual 53, 3) := by decide +kernel
theorem dR_closure_6 : decode bR_closure 6 = .ok (.invokevirtual 49, 3) := by decide +kernel
theorem dR_closure_9 : decode bR_closure 9 = .ok (.ifCond .ne 5, 3) := by decide +kernel
theorem dR_closure_12 : decode bR_closure 12 = .ok (.iconst 0, 1) := by decide +kernel
theorem dR_closure_13 : decode bR_closure 13 = .ok (.ireturn, 1) := by decide +kernel
theorem dR_closure_14 : decode bR_closure 14 = .ok (.iconst 1, 1) := by decide +kernel
theorem dR_closure_15 : decode bR_closure 15 = .ok (.iload_n 1, 1) := by decide +kernel
theorem dR_closure_16 : decode bR_closure 16 = .ok (.ishl, 1) := by decide +kernel
theorem dR_closure_17 : decode bR_closure 17 = .ok (.istore_n 2, 1) := by decide +kernel
theorem dR_closure_18 : decode bR_closure 18 = .ok (.iconst 0, 1) := by decide +kernel
theorem dR_closure_19 : decode bR_closure 19 = .ok (.istore_n 3, 1) := by decide +kernel
theorem dR_closure_20 : decode bR_closure 20 = .ok (.iload_n 3, 1) := by decide +kernel
theorem dR_closure_21 : decode bR_closure 21 = .ok (.aload_n 0, 1) := by decide +kernel
theorem dR_closure_22 : decode bR_closure 22 = .ok (.getfield 42, 3) := by decide +kernel
theorem dR_closure_25 : decode bR_closure 25 = .ok (.if_icmp .ge 81, 3) := by decide +kernel
theorem dR_closure_28 : decode bR_closure 28 = .ok (.iconst 0, 1) := by decide +kernel
theorem dR_closure_29 : decode bR_closure 29 = .ok (.istore 4, 2) := by decide +kernel
theorem dR_closure_31 : decode bR_closure 31 = .ok (.iload 4, 2) := by decide +kernel
theorem dR_closure_33 : decode bR_closure 33 = .ok (.aload_n 0, 1) := by decide +kernel
theorem dR_closure_34 : decode bR_closure 34 = .ok (.getfield 42, 3) := by decide +kernel
theorem dR_closure_37 : decode bR_closure 37 = .ok (.if_icmp .ge 63, 3) := by decide +kernel
theorem dR_closure_40 : decode bR_closure 40 = .ok (.iconst 0, 1) := by decide +kernel
theorem dR_closure_41 : decode bR_closure 41 = .ok (.istore 5, 2) := by decide +kernel
theorem dR_closure_43 : decode bR_closure 43 = .ok (.iload 5, 2) := by decide +kernel
theorem dR_closure_45 : decode bR_closure 45 = .ok (.aload_n 0, 1) := by decide +kernel
theorem dR_closure_46 : decode bR_closure 46 = .ok (.getfield 42, 3) := by decide +kernel
theorem dR_closure_49 : decode bR_closure 49 = .ok (.if_icmp .ge 45, 3) := by decide +kernel
theorem dR_closure_52 : decode bR_closure 52 = .ok (.iload_n 2, 1) := by decide +kernel
theorem dR_closure_53 : decode bR_closure 53 = .ok (.iload_n 2, 1) := by decide +kernel
theorem dR_closure_54 : decode bR_closure 54 = .ok (.iload 4, 2) := by decide +kernel
theorem dR_closure_56 : decode bR_closure 56 = .ok (.invokestatic 57, 3) := by decide +kernel
theorem dR_closure_59 : decode bR_closure 59 = .ok (.ifCond .eq 26, 3) := by decide +kernel
theorem dR_closure_62 : decode bR_closure 62 = .ok (.aload_n 0, 1) := by decide +kernel
theorem dR_closure_63 : decode bR_closure 63 = .ok (.getfield 20, 3) := by decide +kernel
theorem dR_closure_66 : decode bR_closure 66 = .ok (.bipush 12, 2) := by decide +kernel
theorem dR_closure_68 : decode bR_closure 68 = .ok (.iload 4, 2) := by decide +kernel
theorem dR_closure_70 : decode bR_closure 70 = .ok (.imul, 1) := by decide +kernel
theorem dR_closure_71 : decode bR_closure 71 = .ok (.iload 5, 2) := by decide +kernel
theorem dR_closure_73 : decode bR_closure 73 = .ok (.iadd, 1) := by decide +kernel
theorem dR_closure_74 : decode bR_closure 74 = .ok (.baload, 1) := by decide +kernel
theorem dR_closure_75 : decode bR_closure 75 = .ok (.ifCond .eq 10, 3) := by decide +kernel
theorem dR_closure_78 : decode bR_closure 78 = .ok (.iconst 1, 1) := by decide +kernel
theorem dR_closure_79 : decode bR_closure 79 = .ok (.iload 5, 2) := by decide +kernel
theorem dR_closure_81 : decode bR_closure 81 = .ok (.ishl, 1) := by decide +kernel
theorem dR_closure_82 : decode bR_closure 82 = .ok (.goto 4, 3) := by decide +kernel
theorem dR_closure_85 : decode bR_closure 85 = .ok (.iconst 0, 1) := by decide +kernel
theorem dR_closure_86 : decode bR_closure 86 = .ok (.ior, 1) := by decide +kernel
theorem dR_closure_87 : decode bR_closure 87 = .ok (.istore_n 2, 1) := by decide +kernel
theorem dR_closure_88 : decode bR_closure 88 = .ok (.iinc 5 1, 3) := by decide +kernel
theorem dR_closure_91 : decode bR_closure 91 = .ok (.goto (-48), 3) := by decide +kernel
theorem dR_closure_94 : decode bR_closure 94 = .ok (.iinc 4 1, 3) := by decide +kernel
theorem dR_closure_97 : decode bR_closure 97 = .ok (.goto (-66), 3) := by decide +kernel
theorem dR_closure_100 : decode bR_closure 100 = .ok (.iinc 3 1, 3) := by decide +kernel
theorem dR_closure_103 : decode bR_closure 103 = .ok (.goto (-83), 3) := by decide +kernel
theorem dR_closure_106 : decode bR_closure 106 = .ok (.iload_n 2, 1) := by decide +kernel
theorem dR_closure_107 : decode bR_closure 107 = .ok (.ireturn, 1) := by decide +kernel
theorem dR_bestOf_0 : decode bR_bestOf 0 = .ok (.iconst 0, 1) := by decide +kernel
theorem dR_bestOf_1 : decode bR_bestOf 1 = .ok (.istore_n 3, 1) := by decide +kernel
theorem dR_bestOf_2 : decode bR_bestOf 2 = .ok (.iconst 0, 1) := by decide +kernel
theorem dR_bestOf_3 : decode bR_bestOf 3 = .ok (.istore 4, 2) := by decide +kernel
theorem dR_bestOf_5 : decode bR_bestOf 5 = .ok (.iconst 0, 1) := by decide +kernel
theorem dR_bestOf_6 : decode bR_bestOf 6 = .ok (.istore 5, 2) := by decide +kernel
theorem dR_bestOf_8 : decode bR_bestOf 8 = .ok (.iconst 1, 1) := by decide +kernel
theorem dR_bestOf_9 : decode bR_bestOf 9 = .ok (.aload_n 0, 1) := by decide +kernel
theorem dR_bestOf_10 : decode bR_bestOf 10 = .ok (.getfield 42, 3) := by decide +kernel
theorem dR_bestOf_13 : decode bR_bestOf 13 = .ok (.ishl, 1) := by decide +kernel
theorem dR_bestOf_14 : decode bR_bestOf 14 = .ok (.istore 6, 2) := by decide +kernel
theorem dR_bestOf_16 : decode bR_bestOf 16 = .ok (.iconst 1, 1) := by decide +kernel
theorem dR_bestOf_17 : decode bR_bestOf 17 = .ok (.istore 7, 2) := by decide +kernel
theorem dR_bestOf_19 : decode bR_bestOf 19 = .ok (.iload 7, 2) := by decide +kernel
theorem dR_bestOf_21 : decode bR_bestOf 21 = .ok (.iload 6, 2) := by decide +kernel
theorem dR_bestOf_23 : decode bR_bestOf 23 = .ok (.if_icmp .ge 74, 3) := by decide +kernel
theorem dR_bestOf_26 : decode bR_bestOf 26 = .ok (.aload_n 0, 1) := by decide +kernel
theorem dR_bestOf_27 : decode bR_bestOf 27 = .ok (.iload 7, 2) := by decide +kernel
theorem dR_bestOf_29 : decode bR_bestOf 29 = .ok (.invokevirtual 67, 3) := by decide +kernel
theorem dR_bestOf_32 : decode bR_bestOf 32 = .ok (.istore 8, 2) := by decide +kernel
theorem dR_bestOf_34 : decode bR_bestOf 34 = .ok (.iload 8, 2) := by decide +kernel
theorem dR_bestOf_36 : decode bR_bestOf 36 = .ok (.i2l, 1) := by decide +kernel
theorem dR_bestOf_37 : decode bR_bestOf 37 = .ok (.lload_n 1, 1) := by decide +kernel
theorem dR_bestOf_38 : decode bR_bestOf 38 = .ok (.lcmp, 1) := by decide +kernel
theorem dR_bestOf_39 : decode bR_bestOf 39 = .ok (.ifCond .gt 52, 3) := by decide +kernel
theorem dR_bestOf_42 : decode bR_bestOf 42 = .ok (.aload_n 0, 1) := by decide +kernel
theorem dR_bestOf_43 : decode bR_bestOf 43 = .ok (.iload 7, 2) := by decide +kernel
theorem dR_bestOf_45 : decode bR_bestOf 45 = .ok (.invokevirtual 64, 3) := by decide +kernel
theorem dR_bestOf_48 : decode bR_bestOf 48 = .ok (.ifCond .eq 43, 3) := by decide +kernel
theorem dR_bestOf_51 : decode bR_bestOf 51 = .ok (.aload_n 0, 1) := by decide +kernel
theorem dR_bestOf_52 : decode bR_bestOf 52 = .ok (.iload 7, 2) := by decide +kernel
theorem dR_bestOf_54 : decode bR_bestOf 54 = .ok (.invokevirtual 71, 3) := by decide +kernel
theorem dR_bestOf_57 : decode bR_bestOf 57 = .ok (.istore 9, 2) := by decide +kernel
theorem dR_bestOf_59 : decode bR_bestOf 59 = .ok (.iload 9, 2) := by decide +kernel
theorem dR_bestOf_61 : decode bR_bestOf 61 = .ok (.iload 4, 2) := by decide +kernel
theorem dR_bestOf_63 : decode bR_bestOf 63 = .ok (.if_icmp .gt 17, 3) := by decide +kernel
theorem dR_bestOf_66 : decode bR_bestOf 66 = .ok (.iload 9, 2) := by decide +kernel
theorem dR_bestOf_68 : decode bR_bestOf 68 = .ok (.iload 4, 2) := by decide +kernel
theorem dR_bestOf_70 : decode bR_bestOf 70 = .ok (.if_icmp .ne 21, 3) := by decide +kernel
theorem dR_bestOf_73 : decode bR_bestOf 73 = .ok (.iload 8, 2) := by decide +kernel
theorem dR_bestOf_75 : decode bR_bestOf 75 = .ok (.iload 5, 2) := by decide +kernel
theorem dR_bestOf_77 : decode bR_bestOf 77 = .ok (.if_icmp .ge 14, 3) := by decide +kernel
theorem dR_bestOf_80 : decode bR_bestOf 80 = .ok (.iload 7, 2) := by decide +kernel
theorem dR_bestOf_82 : decode bR_bestOf 82 = .ok (.istore_n 3, 1) := by decide +kernel
theorem dR_bestOf_83 : decode bR_bestOf 83 = .ok (.iload 9, 2) := by decide +kernel
theorem dR_bestOf_85 : decode bR_bestOf 85 = .ok (.istore 4, 2) := by decide +kernel
theorem dR_bestOf_87 : decode bR_bestOf 87 = .ok (.iload 8, 2) := by decide +kernel
theorem dR_bestOf_89 : decode bR_bestOf 89 = .ok (.istore 5, 2) := by decide +kernel
theorem dR_bestOf_91 : decode bR_bestOf 91 = .ok (.iinc 7 1, 3) := by decide +kernel
theorem dR_bestOf_94 : decode bR_bestOf 94 = .ok (.goto (-75), 3) := by decide +kernel
theorem dR_bestOf_97 : decode bR_bestOf 97 = .ok (.iload_n 3, 1) := by decide +kernel
theorem dR_bestOf_98 : decode bR_bestOf 98 = .ok (.ireturn, 1) := by decide +kernel
theorem dR_best_0 : decode bR_best 0 = .ok (.aload_n 0, 1) := by decide +kernel
theorem dR_best_1 : decode bR_best 1 = .ok (.iload_n 1, 1) := by decide +kernel
theorem dR_best_2 : decode bR_best 2 = .ok (.ifCond .lt 7, 3) := by decide +kernel
theorem dR_best_5 : decode bR_best 5 = .ok (.iconst 1, 1) := by decide +kernel
theorem dR_best_6 : decode bR_best 6 = .ok (.goto 4, 3) := by decide +kernel
theorem dR_best_9 : decode bR_best 9 = .ok (.iconst 0, 1) := by decide +kernel
theorem dR_best_10 : decode bR_best 10 = .ok (.invokevirtual 49, 3) := by decide +kernel
theorem dR_best_13 : decode bR_best 13 = .ok (.ifCond .eq 12, 3) := by decide +kernel
theorem dR_best_16 : decode bR_best 16 = .ok (.aload_n 0, 1) := by decide +kernel
theorem dR_best_17 : decode bR_best 17 = .ok (.iload_n 1, 1) := by decide +kernel
theorem dR_best_18 : decode bR_best 18 = .ok (.i2l, 1) := by decide +kernel
theorem dR_best_19 : decode bR_best 19 = .ok (.invokevirtual 74, 3) := by decide +kernel
theorem dR_best_22 : decode bR_best 22 = .ok (.goto 4, 3) := by decide +kernel
theorem dR_best_25 : decode bR_best 25 = .ok (.iconst 0, 1) := by decide +kernel
theorem dR_best_26 : decode bR_best 26 = .ok (.ireturn, 1) := by decide +kernel
theorem dR_budget_0 : decode bR_budget 0 = .ok (.aload_n 0, 1) := by decide +kernel
theorem dR_budget_1 : decode bR_budget 1 = .ok (.iconst 0, 1) := by decide +kernel
theorem dR_budget_2 : decode bR_budget 2 = .ok (.putfield 38, 3) := by decide +kernel
theorem dR_budget_5 : decode bR_budget 5 = .ok (.iconst (-1), 1) := by decide +kernel
theorem dR_budget_6 : decode bR_budget 6 = .ok (.istore_n 2, 1) := by decide +kernel
theorem dR_budget_7 : decode bR_budget 7 = .ok (.iconst 1, 1) := by decide +kernel
theorem dR_budget_8 : decode bR_budget 8 = .ok (.aload_n 0, 1) := by decide +kernel
theorem dR_budget_9 : decode bR_budget 9 = .ok (.getfield 42, 3) := by decide +kernel
theorem dR_budget_12 : decode bR_budget 12 = .ok (.ishl, 1) := by decide +kernel
theorem dR_budget_13 : decode bR_budget 13 = .ok (.istore_n 3, 1) := by decide +kernel
theorem dR_budget_14 : decode bR_budget 14 = .ok (.iconst 0, 1) := by decide +kernel
theorem dR_budget_15 : decode bR_budget 15 = .ok (.istore 4, 2) := by decide +kernel
theorem dR_budget_17 : decode bR_budget 17 = .ok (.iload 4, 2) := by decide +kernel
theorem dR_budget_19 : decode bR_budget 19 = .ok (.iload_n 3, 1) := by decide +kernel
theorem dR_budget_20 : decode bR_budget 20 = .ok (.if_icmp .ge 50, 3) := by decide +kernel
theorem dR_budget_23 : decode bR_budget 23 = .ok (.aload_n 0, 1) := by decide +kernel
theorem dR_budget_24 : decode bR_budget 24 = .ok (.iload 4, 2) := by decide +kernel
theorem dR_budget_26 : decode bR_budget 26 = .ok (.invokevirtual 67, 3) := by decide +kernel
theorem dR_budget_29 : decode bR_budget 29 = .ok (.istore 5, 2) := by decide +kernel
theorem dR_budget_31 : decode bR_budget 31 = .ok (.iload_n 2, 1) := by decide +kernel
theorem dR_budget_32 : decode bR_budget 32 = .ok (.iconst (-1), 1) := by decide +kernel
theorem dR_budget_33 : decode bR_budget 33 = .ok (.if_icmp .eq 9, 3) := by decide +kernel
theorem dR_budget_36 : decode bR_budget 36 = .ok (.iload 5, 2) := by decide +kernel
theorem dR_budget_38 : decode bR_budget 38 = .ok (.iload_n 2, 1) := by decide +kernel
theorem dR_budget_39 : decode bR_budget 39 = .ok (.if_icmp .ge 25, 3) := by decide +kernel
theorem dR_budget_42 : decode bR_budget 42 = .ok (.aload_n 0, 1) := by decide +kernel
theorem dR_budget_43 : decode bR_budget 43 = .ok (.iload 4, 2) := by decide +kernel
theorem dR_budget_45 : decode bR_budget 45 = .ok (.invokevirtual 71, 3) := by decide +kernel
theorem dR_budget_48 : decode bR_budget 48 = .ok (.iload_n 1, 1) := by decide +kernel
theorem dR_budget_49 : decode bR_budget 49 = .ok (.if_icmp .lt 15, 3) := by decide +kernel
theorem dR_budget_52 : decode bR_budget 52 = .ok (.aload_n 0, 1) := by decide +kernel
theorem dR_budget_53 : decode bR_budget 53 = .ok (.iload 4, 2) := by decide +kernel
theorem dR_budget_55 : decode bR_budget 55 = .ok (.invokevirtual 64, 3) := by decide +kernel
theorem dR_budget_58 : decode bR_budget 58 = .ok (.ifCond .eq 6, 3) := by decide +kernel
theorem dR_budget_61 : decode bR_budget 61 = .ok (.iload 5, 2) := by decide +kernel
theorem dR_budget_63 : decode bR_budget 63 = .ok (.istore_n 2, 1) := by decide +kernel
theorem dR_budget_64 : decode bR_budget 64 = .ok (.iinc 4 1, 3) := by decide +kernel
theorem dR_budget_67 : decode bR_budget 67 = .ok (.goto (-50), 3) := by decide +kernel
theorem dR_budget_70 : decode bR_budget 70 = .ok (.iload_n 2, 1) := by decide +kernel
theorem dR_budget_71 : decode bR_budget 71 = .ok (.ireturn, 1) := by decide +kernel
theorem dR_worth_0 : decode bR_worth 0 = .ok (.aload_n 0, 1) := by decide +kernel
theorem dR_worth_1 : decode bR_worth 1 = .ok (.iload_n 1, 1) := by decide +kernel
theorem dR_worth_2 : decode bR_worth 2 = .ok (.ifCond .lt 23, 3) := by decide +kernel
theorem dR_worth_5 : decode bR_worth 5 = .ok (.iload_n 2, 1) := by decide +kernel
theorem dR_worth_6 : decode bR_worth 6 = .ok (.ifCond .lt 19, 3) := by decide +kernel
theorem dR_worth_9 : decode bR_worth 9 = .ok (.iload_n 1, 1) := by decide +kernel
theorem dR_worth_10 : decode bR_worth 10 = .ok (.i2l, 1) := by decide +kernel
theorem dR_worth_11 : decode bR_worth 11 = .ok (.iload_n 2, 1) := by decide +kernel
theorem dR_worth_12 : decode bR_worth 12 = .ok (.i2l, 1) := by decide +kernel
theorem dR_worth_13 : decode bR_worth 13 = .ok (.ladd, 1) := by decide +kernel
theorem dR_worth_14 : decode bR_worth 14 = .ok (.ldc2_w 78, 3) := by decide +kernel
theorem dR_worth_17 : decode bR_worth 17 = .ok (.lcmp, 1) := by decide +kernel
theorem dR_worth_18 : decode bR_worth 18 = .ok (.ifCond .gt 7, 3) := by decide +kernel
theorem dR_worth_21 : decode bR_worth 21 = .ok (.iconst 1, 1) := by decide +kernel
theorem dR_worth_22 : decode bR_worth 22 = .ok (.goto 4, 3) := by decide +kernel
theorem dR_worth_25 : decode bR_worth 25 = .ok (.iconst 0, 1) := by decide +kernel
theorem dR_worth_26 : decode bR_worth 26 = .ok (.invokevirtual 49, 3) := by decide +kernel
theorem dR_worth_29 : decode bR_worth 29 = .ok (.ifCond .ne 5, 3) := by decide +kernel
theorem dR_worth_32 : decode bR_worth 32 = .ok (.iconst 0, 1) := by decide +kernel
theorem dR_worth_33 : decode bR_worth 33 = .ok (.ireturn, 1) := by decide +kernel
theorem dR_worth_34 : decode bR_worth 34 = .ok (.aload_n 0, 1) := by decide +kernel
theorem dR_worth_35 : decode bR_worth 35 = .ok (.aload_n 0, 1) := by decide +kernel
theorem dR_worth_36 : decode bR_worth 36 = .ok (.iload_n 1, 1) := by decide +kernel
theorem dR_worth_37 : decode bR_worth 37 = .ok (.i2l, 1) := by decide +kernel
theorem dR_worth_38 : decode bR_worth 38 = .ok (.iload_n 2, 1) := by decide +kernel
theorem dR_worth_39 : decode bR_worth 39 = .ok (.i2l, 1) := by decide +kernel
theorem dR_worth_40 : decode bR_worth 40 = .ok (.ladd, 1) := by decide +kernel
theorem dR_worth_41 : decode bR_worth 41 = .ok (.invokevirtual 74, 3) := by decide +kernel
theorem dR_worth_44 : decode bR_worth 44 = .ok (.invokevirtual 71, 3) := by decide +kernel
theorem dR_worth_47 : decode bR_worth 47 = .ok (.aload_n 0, 1) := by decide +kernel
theorem dR_worth_48 : decode bR_worth 48 = .ok (.aload_n 0, 1) := by decide +kernel
theorem dR_worth_49 : decode bR_worth 49 = .ok (.iload_n 1, 1) := by decide +kernel
theorem dR_worth_50 : decode bR_worth 50 = .ok (.i2l, 1) := by decide +kernel
theorem dR_worth_51 : decode bR_worth 51 = .ok (.invokevirtual 74, 3) := by decide +kernel
theorem dR_worth_54 : decode bR_worth 54 = .ok (.invokevirtual 71, 3) := by decide +kernel
theorem dR_worth_57 : decode bR_worth 57 = .ok (.isub, 1) := by decide +kernel
theorem dR_worth_58 : decode bR_worth 58 = .ok (.ireturn, 1) := by decide +kernel
theorem dR_dearer_0 : decode bR_dearer 0 = .ok (.iconst (-1), 1) := by decide +kernel
theorem dR_dearer_1 : decode bR_dearer 1 = .ok (.istore_n 3, 1) := by decide +kernel
theorem dR_dearer_2 : decode bR_dearer 2 = .ok (.iconst 0, 1) := by decide +kernel
theorem dR_dearer_3 : decode bR_dearer 3 = .ok (.istore 4, 2) := by decide +kernel
theorem dR_dearer_5 : decode bR_dearer 5 = .ok (.iconst 0, 1) := by decide +kernel
theorem dR_dearer_6 : decode bR_dearer 6 = .ok (.istore 5, 2) := by decide +kernel
theorem dR_dearer_8 : decode bR_dearer 8 = .ok (.iconst 1, 1) := by decide +kernel
theorem dR_dearer_9 : decode bR_dearer 9 = .ok (.aload_n 0, 1) := by decide +kernel
theorem dR_dearer_10 : decode bR_dearer 10 = .ok (.getfield 42, 3) := by decide +kernel
theorem dR_dearer_13 : decode bR_dearer 13 = .ok (.ishl, 1) := by decide +kernel
theorem dR_dearer_14 : decode bR_dearer 14 = .ok (.istore 6, 2) := by decide +kernel
theorem dR_dearer_16 : decode bR_dearer 16 = .ok (.iconst 0, 1) := by decide +kernel
theorem dR_dearer_17 : decode bR_dearer 17 = .ok (.istore 7, 2) := by decide +kernel
theorem dR_dearer_19 : decode bR_dearer 19 = .ok (.iload 7, 2) := by decide +kernel
theorem dR_dearer_21 : decode bR_dearer 21 = .ok (.iload 6, 2) := by decide +kernel
theorem dR_dearer_23 : decode bR_dearer 23 = .ok (.if_icmp .ge 100, 3) := by decide +kernel
theorem dR_dearer_26 : decode bR_dearer 26 = .ok (.aload_n 0, 1) := by decide +kernel
theorem dR_dearer_27 : decode bR_dearer 27 = .ok (.iload 7, 2) := by decide +kernel
theorem dR_dearer_29 : decode bR_dearer 29 = .ok (.invokevirtual 67, 3) := by decide +kernel
theorem dR_dearer_32 : decode bR_dearer 32 = .ok (.istore 8, 2) := by decide +kernel
theorem dR_dearer_34 : decode bR_dearer 34 = .ok (.iload 8, 2) := by decide +kernel
theorem dR_dearer_36 : decode bR_dearer 36 = .ok (.iload_n 1, 1) := by decide +kernel
theorem dR_dearer_37 : decode bR_dearer 37 = .ok (.if_icmp .le 19, 3) := by decide +kernel
theorem dR_dearer_40 : decode bR_dearer 40 = .ok (.iload_n 3, 1) := by decide +kernel
theorem dR_dearer_41 : decode bR_dearer 41 = .ok (.iconst (-1), 1) := by decide +kernel
theorem dR_dearer_42 : decode bR_dearer 42 = .ok (.if_icmp .eq 10, 3) := by decide +kernel
theorem dR_dearer_45 : decode bR_dearer 45 = .ok (.iload 8, 2) := by decide +kernel
theorem dR_dearer_47 : decode bR_dearer 47 = .ok (.iload 4, 2) := by decide +kernel
theorem dR_dearer_49 : decode bR_dearer 49 = .ok (.if_icmp .gt 7, 3) := by decide +kernel
theorem dR_dearer_52 : decode bR_dearer 52 = .ok (.iconst 1, 1) := by decide +kernel
theorem dR_dearer_53 : decode bR_dearer 53 = .ok (.goto 4, 3) := by decide +kernel
theorem dR_dearer_56 : decode bR_dearer 56 = .ok (.iconst 0, 1) := by decide +kernel
theorem dR_dearer_57 : decode bR_dearer 57 = .ok (.istore 9, 2) := by decide +kernel
theorem dR_dearer_59 : decode bR_dearer 59 = .ok (.iload 9, 2) := by decide +kernel
theorem dR_dearer_61 : decode bR_dearer 61 = .ok (.ifCond .eq 56, 3) := by decide +kernel
theorem dR_dearer_64 : decode bR_dearer 64 = .ok (.aload_n 0, 1) := by decide +kernel
theorem dR_dearer_65 : decode bR_dearer 65 = .ok (.iload 7, 2) := by decide +kernel
theorem dR_dearer_67 : decode bR_dearer 67 = .ok (.invokevirtual 64, 3) := by decide +kernel
theorem dR_dearer_70 : decode bR_dearer 70 = .ok (.ifCond .eq 47, 3) := by decide +kernel
theorem dR_dearer_73 : decode bR_dearer 73 = .ok (.aload_n 0, 1) := by decide +kernel
theorem dR_dearer_74 : decode bR_dearer 74 = .ok (.iload 7, 2) := by decide +kernel
theorem dR_dearer_76 : decode bR_dearer 76 = .ok (.invokevirtual 71, 3) := by decide +kernel
theorem dR_dearer_79 : decode bR_dearer 79 = .ok (.istore 10, 2) := by decide +kernel
theorem dR_dearer_81 : decode bR_dearer 81 = .ok (.iload 10, 2) := by decide +kernel
theorem dR_dearer_83 : decode bR_dearer 83 = .ok (.iload_n 2, 1) := by decide +kernel
theorem dR_dearer_84 : decode bR_dearer 84 = .ok (.if_icmp .le 33, 3) := by decide +kernel
theorem dR_dearer_87 : decode bR_dearer 87 = .ok (.iload_n 3, 1) := by decide +kernel
theorem dR_dearer_88 : decode bR_dearer 88 = .ok (.iconst (-1), 1) := by decide +kernel
theorem dR_dearer_89 : decode bR_dearer 89 = .ok (.if_icmp .eq 17, 3) := by decide +kernel
theorem dR_dearer_92 : decode bR_dearer 92 = .ok (.iload 8, 2) := by decide +kernel
theorem dR_dearer_94 : decode bR_dearer 94 = .ok (.iload 4, 2) := by decide +kernel
theorem dR_dearer_96 : decode bR_dearer 96 = .ok (.if_icmp .lt 10, 3) := by decide +kernel
theorem dR_dearer_99 : decode bR_dearer 99 = .ok (.iload 10, 2) := by decide +kernel
theorem dR_dearer_101 : decode bR_dearer 101 = .ok (.iload 5, 2) := by decide +kernel
theorem dR_dearer_103 : decode bR_dearer 103 = .ok (.if_icmp .le 14, 3) := by decide +kernel
theorem dR_dearer_106 : decode bR_dearer 106 = .ok (.iload 7, 2) := by decide +kernel
theorem dR_dearer_108 : decode bR_dearer 108 = .ok (.istore_n 3, 1) := by decide +kernel
theorem dR_dearer_109 : decode bR_dearer 109 = .ok (.iload 8, 2) := by decide +kernel
theorem dR_dearer_111 : decode bR_dearer 111 = .ok (.istore 4, 2) := by decide +kernel
theorem dR_dearer_113 : decode bR_dearer 113 = .ok (.iload 10, 2) := by decide +kernel
theorem dR_dearer_115 : decode bR_dearer 115 = .ok (.istore 5, 2) := by decide +kernel
theorem dR_dearer_117 : decode bR_dearer 117 = .ok (.iinc 7 1, 3) := by decide +kernel
theorem dR_dearer_120 : decode bR_dearer 120 = .ok (.goto (-101), 3) := by decide +kernel
theorem dR_dearer_123 : decode bR_dearer 123 = .ok (.iload_n 3, 1) := by decide +kernel
theorem dR_dearer_124 : decode bR_dearer 124 = .ok (.ireturn, 1) := by decide +kernel
theorem dR_frontier_0 : decode bR_frontier 0 = .ok (.aload_n 0, 1) := by decide +kernel
theorem dR_frontier_1 : decode bR_frontier 1 = .ok (.iload_n 1, 1) := by decide +kernel
theorem dR_frontier_2 : decode bR_frontier 2 = .ok (.ifCond .lt 7, 3) := by decide +kernel
theorem dR_frontier_5 : decode bR_frontier 5 = .ok (.iconst 1, 1) := by decide +kernel
theorem dR_frontier_6 : decode bR_frontier 6 = .ok (.goto 4, 3) := by decide +kernel
theorem dR_frontier_9 : decode bR_frontier 9 = .ok (.iconst 0, 1) := by decide +kernel
theorem dR_frontier_10 : decode bR_frontier 10 = .ok (.invokevirtual 49, 3) := by decide +kernel
theorem dR_frontier_13 : decode bR_frontier 13 = .ok (.ifCond .ne 5, 3) := by decide +kernel
theorem dR_frontier_16 : decode bR_frontier 16 = .ok (.iconst 0, 1) := by decide +kernel
theorem dR_frontier_17 : decode bR_frontier 17 = .ok (.ireturn, 1) := by decide +kernel
theorem dR_frontier_18 : decode bR_frontier 18 = .ok (.iconst 0, 1) := by decide +kernel
theorem dR_frontier_19 : decode bR_frontier 19 = .ok (.istore_n 2, 1) := by decide +kernel
theorem dR_frontier_20 : decode bR_frontier 20 = .ok (.iconst 0, 1) := by decide +kernel
theorem dR_frontier_21 : decode bR_frontier 21 = .ok (.istore_n 3, 1) := by decide +kernel
theorem dR_frontier_22 : decode bR_frontier 22 = .ok (.iload_n 3, 1) := by decide +kernel
theorem dR_frontier_23 : decode bR_frontier 23 = .ok (.iload_n 1, 1) := by decide +kernel
theorem dR_frontier_24 : decode bR_frontier 24 = .ok (.if_icmp .ge 29, 3) := by decide +kernel
theorem dR_frontier_27 : decode bR_frontier 27 = .ok (.iload_n 2, 1) := by decide +kernel
theorem dR_frontier_28 : decode bR_frontier 28 = .ok (.iconst (-1), 1) := by decide +kernel
theorem dR_frontier_29 : decode bR_frontier 29 = .ok (.if_icmp .eq 24, 3) := by decide +kernel
theorem dR_frontier_32 : decode bR_frontier 32 = .ok (.aload_n 0, 1) := by decide +kernel
theorem dR_frontier_33 : decode bR_frontier 33 = .ok (.aload_n 0, 1) := by decide +kernel
theorem dR_frontier_34 : decode bR_frontier 34 = .ok (.iload_n 2, 1) := by decide +kernel
theorem dR_frontier_35 : decode bR_frontier 35 = .ok (.invokevirtual 67, 3) := by decide +kernel
theorem dR_frontier_38 : decode bR_frontier 38 = .ok (.aload_n 0, 1) := by decide +kernel
theorem dR_frontier_39 : decode bR_frontier 39 = .ok (.iload_n 2, 1) := by decide +kernel
theorem dR_frontier_40 : decode bR_frontier 40 = .ok (.invokevirtual 71, 3) := by decide +kernel
theorem dR_frontier_43 : decode bR_frontier 43 = .ok (.invokevirtual 80, 3) := by decide +kernel
theorem dR_frontier_46 : decode bR_frontier 46 = .ok (.istore_n 2, 1) := by decide +kernel
theorem dR_frontier_47 : decode bR_frontier 47 = .ok (.iinc 3 1, 3) := by decide +kernel
theorem dR_frontier_50 : decode bR_frontier 50 = .ok (.goto (-28), 3) := by decide +kernel
theorem dR_frontier_53 : decode bR_frontier 53 = .ok (.iload_n 2, 1) := by decide +kernel
theorem dR_frontier_54 : decode bR_frontier 54 = .ok (.ireturn, 1) := by decide +kernel
theorem dR_year_0 : decode bR_year 0 = .ok (.aload_n 0, 1) := by decide +kernel
theorem dR_year_1 : decode bR_year 1 = .ok (.iload_n 1, 1) := by decide +kernel
theorem dR_year_2 : decode bR_year 2 = .ok (.iconst 0, 1) := by decide +kernel
theorem dR_year_3 : decode bR_year 3 = .ok (.iconst 3, 1) := by decide +kernel
theorem dR_year_4 : decode bR_year 4 = .ok (.invokestatic 45, 3) := by decide +kernel
theorem dR_year_7 : decode bR_year 7 = .ok (.ifCond .eq 17, 3) := by decide +kernel
theorem dR_year_10 : decode bR_year 10 = .ok (.iload_n 2, 1) := by decide +kernel
theorem dR_year_11 : decode bR_year 11 = .ok (.iconst 0, 1) := by decide +kernel
theorem dR_year_12 : decode bR_year 12 = .ok (.ldc 84, 2) := by decide +kernel
theorem dR_year_14 : decode bR_year 14 = .ok (.invokestatic 45, 3) := by decide +kernel
theorem dR_year_17 : decode bR_year 17 = .ok (.ifCond .eq 7, 3) := by decide +kernel
theorem dR_year_20 : decode bR_year 20 = .ok (.iconst 1, 1) := by decide +kernel
theorem dR_year_21 : decode bR_year 21 = .ok (.goto 4, 3) := by decide +kernel
theorem dR_year_24 : decode bR_year 24 = .ok (.iconst 0, 1) := by decide +kernel
theorem dR_year_25 : decode bR_year 25 = .ok (.invokevirtual 49, 3) := by decide +kernel
theorem dR_year_28 : decode bR_year 28 = .ok (.ifCond .ne 5, 3) := by decide +kernel
theorem dR_year_31 : decode bR_year 31 = .ok (.iconst 0, 1) := by decide +kernel
theorem dR_year_32 : decode bR_year 32 = .ok (.ireturn, 1) := by decide +kernel
theorem dR_year_33 : decode bR_year 33 = .ok (.aload_n 0, 1) := by decide +kernel
theorem dR_year_34 : decode bR_year 34 = .ok (.getfield 26, 3) := by decide +kernel
theorem dR_year_37 : decode bR_year 37 = .ok (.iload_n 1, 1) := by decide +kernel
theorem dR_year_38 : decode bR_year 38 = .ok (.iaload, 1) := by decide +kernel
theorem dR_year_39 : decode bR_year 39 = .ok (.istore_n 3, 1) := by decide +kernel
theorem dR_year_40 : decode bR_year 40 = .ok (.aload_n 0, 1) := by decide +kernel
theorem dR_year_41 : decode bR_year 41 = .ok (.getfield 26, 3) := by decide +kernel
theorem dR_year_44 : decode bR_year 44 = .ok (.iload_n 1, 1) := by decide +kernel
theorem dR_year_45 : decode bR_year 45 = .ok (.iload_n 2, 1) := by decide +kernel
theorem dR_year_46 : decode bR_year 46 = .ok (.iastore, 1) := by decide +kernel
theorem dR_year_47 : decode bR_year 47 = .ok (.iload_n 3, 1) := by decide +kernel
theorem dR_year_48 : decode bR_year 48 = .ok (.ireturn, 1) := by decide +kernel
theorem dR_work_0 : decode bR_work 0 = .ok (.iconst 1, 1) := by decide +kernel
theorem dR_work_1 : decode bR_work 1 = .ok (.aload_n 0, 1) := by decide +kernel
theorem dR_work_2 : decode bR_work 2 = .ok (.getfield 42, 3) := by decide +kernel
theorem dR_work_5 : decode bR_work 5 = .ok (.bipush 6, 2) := by decide +kernel
theorem dR_work_7 : decode bR_work 7 = .ok (.if_icmp .ge 10, 3) := by decide +kernel
theorem dR_work_10 : decode bR_work 10 = .ok (.aload_n 0, 1) := by decide +kernel
theorem dR_work_11 : decode bR_work 11 = .ok (.getfield 42, 3) := by decide +kernel
theorem dR_work_14 : decode bR_work 14 = .ok (.goto 5, 3) := by decide +kernel
theorem dR_work_17 : decode bR_work 17 = .ok (.bipush 6, 2) := by decide +kernel
theorem dR_work_19 : decode bR_work 19 = .ok (.ishl, 1) := by decide +kernel
theorem dR_work_20 : decode bR_work 20 = .ok (.istore_n 2, 1) := by decide +kernel
theorem dR_work_21 : decode bR_work 21 = .ok (.iconst 0, 1) := by decide +kernel
theorem dR_work_22 : decode bR_work 22 = .ok (.istore_n 3, 1) := by decide +kernel
theorem dR_work_23 : decode bR_work 23 = .ok (.iload_n 3, 1) := by decide +kernel
theorem dR_work_24 : decode bR_work 24 = .ok (.iload_n 2, 1) := by decide +kernel
theorem dR_work_25 : decode bR_work 25 = .ok (.if_icmp .ge 37, 3) := by decide +kernel
theorem dR_work_28 : decode bR_work 28 = .ok (.aload_n 0, 1) := by decide +kernel
theorem dR_work_29 : decode bR_work 29 = .ok (.getfield 29, 3) := by decide +kernel
theorem dR_work_32 : decode bR_work 32 = .ok (.bipush 64, 2) := by decide +kernel
theorem dR_work_34 : decode bR_work 34 = .ok (.iload_n 1, 1) := by decide +kernel
theorem dR_work_35 : decode bR_work 35 = .ok (.imul, 1) := by decide +kernel
theorem dR_work_36 : decode bR_work 36 = .ok (.iload_n 3, 1) := by decide +kernel
theorem dR_work_37 : decode bR_work 37 = .ok (.iadd, 1) := by decide +kernel
theorem dR_work_38 : decode bR_work 38 = .ok (.iconst 0, 1) := by decide +kernel
theorem dR_work_39 : decode bR_work 39 = .ok (.iastore, 1) := by decide +kernel
theorem dR_work_40 : decode bR_work 40 = .ok (.aload_n 0, 1) := by decide +kernel
theorem dR_work_41 : decode bR_work 41 = .ok (.getfield 32, 3) := by decide +kernel
theorem dR_work_44 : decode bR_work 44 = .ok (.bipush 64, 2) := by decide +kernel
theorem dR_work_46 : decode bR_work 46 = .ok (.iload_n 1, 1) := by decide +kernel
theorem dR_work_47 : decode bR_work 47 = .ok (.imul, 1) := by decide +kernel
theorem dR_work_48 : decode bR_work 48 = .ok (.iload_n 3, 1) := by decide +kernel
theorem dR_work_49 : decode bR_work 49 = .ok (.iadd, 1) := by decide +kernel
theorem dR_work_50 : decode bR_work 50 = .ok (.aload_n 0, 1) := by decide +kernel
theorem dR_work_51 : decode bR_work 51 = .ok (.iload_n 3, 1) := by decide +kernel
theorem dR_work_52 : decode bR_work 52 = .ok (.invokevirtual 67, 3) := by decide +kernel
theorem dR_work_55 : decode bR_work 55 = .ok (.iastore, 1) := by decide +kernel
theorem dR_work_56 : decode bR_work 56 = .ok (.iinc 3 1, 3) := by decide +kernel
theorem dR_work_59 : decode bR_work 59 = .ok (.goto (-36), 3) := by decide +kernel
theorem dR_work_62 : decode bR_work 62 = .ok (.iload_n 1, 1) := by decide +kernel
theorem dR_work_63 : decode bR_work 63 = .ok (.iconst 1, 1) := by decide +kernel
theorem dR_work_64 : decode bR_work 64 = .ok (.isub, 1) := by decide +kernel
theorem dR_work_65 : decode bR_work 65 = .ok (.istore_n 3, 1) := by decide +kernel
theorem dR_work_66 : decode bR_work 66 = .ok (.iload_n 3, 1) := by decide +kernel
theorem dR_work_67 : decode bR_work 67 = .ok (.ifCond .lt 64, 3) := by decide +kernel
theorem dR_work_70 : decode bR_work 70 = .ok (.iconst 0, 1) := by decide +kernel
theorem dR_work_71 : decode bR_work 71 = .ok (.istore 4, 2) := by decide +kernel
theorem dR_work_73 : decode bR_work 73 = .ok (.iconst 0, 1) := by decide +kernel
theorem dR_work_74 : decode bR_work 74 = .ok (.istore 5, 2) := by decide +kernel
theorem dR_work_76 : decode bR_work 76 = .ok (.iload 5, 2) := by decide +kernel
theorem dR_work_78 : decode bR_work 78 = .ok (.iload_n 3, 1) := by decide +kernel
theorem dR_work_79 : decode bR_work 79 = .ok (.if_icmp .gt 21, 3) := by decide +kernel
theorem dR_work_82 : decode bR_work 82 = .ok (.iload 4, 2) := by decide +kernel
theorem dR_work_84 : decode bR_work 84 = .ok (.aload_n 0, 1) := by decide +kernel
theorem dR_work_85 : decode bR_work 85 = .ok (.getfield 26, 3) := by decide +kernel
theorem dR_work_88 : decode bR_work 88 = .ok (.iload 5, 2) := by decide +kernel
theorem dR_work_90 : decode bR_work 90 = .ok (.iaload, 1) := by decide +kernel
theorem dR_work_91 : decode bR_work 91 = .ok (.iadd, 1) := by decide +kernel
theorem dR_work_92 : decode bR_work 92 = .ok (.istore 4, 2) := by decide +kernel
theorem dR_work_94 : decode bR_work 94 = .ok (.iinc 5 1, 3) := by decide +kernel
theorem dR_work_97 : decode bR_work 97 = .ok (.goto (-21), 3) := by decide +kernel
theorem dR_work_100 : decode bR_work 100 = .ok (.iconst 0, 1) := by decide +kernel
theorem dR_work_101 : decode bR_work 101 = .ok (.istore 5, 2) := by decide +kernel
theorem dR_work_103 : decode bR_work 103 = .ok (.iload 5, 2) := by decide +kernel
theorem dR_work_105 : decode bR_work 105 = .ok (.iload_n 2, 1) := by decide +kernel
theorem dR_work_106 : decode bR_work 106 = .ok (.if_icmp .ge 19, 3) := by decide +kernel
theorem dR_work_109 : decode bR_work 109 = .ok (.aload_n 0, 1) := by decide +kernel
theorem dR_work_110 : decode bR_work 110 = .ok (.iload_n 3, 1) := by decide +kernel
theorem dR_work_111 : decode bR_work 111 = .ok (.iload 5, 2) := by decide +kernel
theorem dR_work_113 : decode bR_work 113 = .ok (.iload_n 2, 1) := by decide +kernel
theorem dR_work_114 : decode bR_work 114 = .ok (.iload 4, 2) := by decide +kernel
theorem dR_work_116 : decode bR_work 116 = .ok (.invokevirtual 85, 3) := by decide +kernel
theorem dR_work_119 : decode bR_work 119 = .ok (.iinc 5 1, 3) := by decide +kernel
theorem dR_work_122 : decode bR_work 122 = .ok (.goto (-19), 3) := by decide +kernel
theorem dR_work_125 : decode bR_work 125 = .ok (.iinc 3 (-1), 3) := by decide +kernel
theorem dR_work_128 : decode bR_work 128 = .ok (.goto (-62), 3) := by decide +kernel
theorem dR_work_131 : decode bR_work 131 = .ok (.return_, 1) := by decide +kernel
theorem dR_workOf_0 : decode bR_workOf 0 = .ok (.bipush 64, 2) := by decide +kernel
theorem dR_workOf_2 : decode bR_workOf 2 = .ok (.iload_n 1, 1) := by decide +kernel
theorem dR_workOf_3 : decode bR_workOf 3 = .ok (.imul, 1) := by decide +kernel
theorem dR_workOf_4 : decode bR_workOf 4 = .ok (.iload_n 2, 1) := by decide +kernel
theorem dR_workOf_5 : decode bR_workOf 5 = .ok (.iadd, 1) := by decide +kernel
theorem dR_workOf_6 : decode bR_workOf 6 = .ok (.istore 5, 2) := by decide +kernel
theorem dR_workOf_8 : decode bR_workOf 8 = .ok (.aload_n 0, 1) := by decide +kernel
theorem dR_workOf_9 : decode bR_workOf 9 = .ok (.getfield 35, 3) := by decide +kernel
theorem dR_workOf_12 : decode bR_workOf 12 = .ok (.iload 5, 2) := by decide +kernel
theorem dR_workOf_14 : decode bR_workOf 14 = .ok (.iconst (-1), 1) := by decide +kernel
theorem dR_workOf_15 : decode bR_workOf 15 = .ok (.iastore, 1) := by decide +kernel
theorem dR_workOf_16 : decode bR_workOf 16 = .ok (.iload_n 2, 1) := by decide +kernel
theorem dR_workOf_17 : decode bR_workOf 17 = .ok (.istore 6, 2) := by decide +kernel
theorem dR_workOf_19 : decode bR_workOf 19 = .ok (.iload 6, 2) := by decide +kernel
theorem dR_workOf_21 : decode bR_workOf 21 = .ok (.iload_n 3, 1) := by decide +kernel
theorem dR_workOf_22 : decode bR_workOf 22 = .ok (.if_icmp .ge 172, 3) := by decide +kernel
theorem dR_workOf_25 : decode bR_workOf 25 = .ok (.bipush 64, 2) := by decide +kernel
theorem dR_workOf_27 : decode bR_workOf 27 = .ok (.iload_n 1, 1) := by decide +kernel
theorem dR_workOf_28 : decode bR_workOf 28 = .ok (.iconst 1, 1) := by decide +kernel
theorem dR_workOf_29 : decode bR_workOf 29 = .ok (.iadd, 1) := by decide +kernel
theorem dR_workOf_30 : decode bR_workOf 30 = .ok (.imul, 1) := by decide +kernel
theorem dR_workOf_31 : decode bR_workOf 31 = .ok (.iload 6, 2) := by decide +kernel
theorem dR_workOf_33 : decode bR_workOf 33 = .ok (.iadd, 1) := by decide +kernel
theorem dR_workOf_34 : decode bR_workOf 34 = .ok (.istore 7, 2) := by decide +kernel
theorem dR_workOf_36 : decode bR_workOf 36 = .ok (.iload 6, 2) := by decide +kernel
theorem dR_workOf_38 : decode bR_workOf 38 = .ok (.iload_n 2, 1) := by decide +kernel
theorem dR_workOf_39 : decode bR_workOf 39 = .ok (.iand, 1) := by decide +kernel
theorem dR_workOf_40 : decode bR_workOf 40 = .ok (.iload_n 2, 1) := by decide +kernel
theorem dR_workOf_41 : decode bR_workOf 41 = .ok (.if_icmp .ne 27, 3) := by decide +kernel
theorem dR_workOf_44 : decode bR_workOf 44 = .ok (.aload_n 0, 1) := by decide +kernel
theorem dR_workOf_45 : decode bR_workOf 45 = .ok (.iload 6, 2) := by decide +kernel
theorem dR_workOf_47 : decode bR_workOf 47 = .ok (.invokevirtual 67, 3) := by decide +kernel
theorem dR_workOf_50 : decode bR_workOf 50 = .ok (.iload 4, 2) := by decide +kernel
theorem dR_workOf_52 : decode bR_workOf 52 = .ok (.if_icmp .gt 16, 3) := by decide +kernel
theorem dR_workOf_55 : decode bR_workOf 55 = .ok (.aload_n 0, 1) := by decide +kernel
theorem dR_workOf_56 : decode bR_workOf 56 = .ok (.iload 6, 2) := by decide +kernel
theorem dR_workOf_58 : decode bR_workOf 58 = .ok (.invokevirtual 64, 3) := by decide +kernel
theorem dR_workOf_61 : decode bR_workOf 61 = .ok (.ifCond .eq 7, 3) := by decide +kernel
theorem dR_workOf_64 : decode bR_workOf 64 = .ok (.iconst 1, 1) := by decide +kernel
theorem dR_workOf_65 : decode bR_workOf 65 = .ok (.goto 4, 3) := by decide +kernel
theorem dR_workOf_68 : decode bR_workOf 68 = .ok (.iconst 0, 1) := by decide +kernel
theorem dR_workOf_69 : decode bR_workOf 69 = .ok (.istore 8, 2) := by decide +kernel
theorem dR_workOf_71 : decode bR_workOf 71 = .ok (.iload 8, 2) := by decide +kernel
theorem dR_workOf_73 : decode bR_workOf 73 = .ok (.ifCond .eq 115, 3) := by decide +kernel
theorem dR_workOf_76 : decode bR_workOf 76 = .ok (.aload_n 0, 1) := by decide +kernel
theorem dR_workOf_77 : decode bR_workOf 77 = .ok (.iload 6, 2) := by decide +kernel
theorem dR_workOf_79 : decode bR_workOf 79 = .ok (.invokevirtual 71, 3) := by decide +kernel
theorem dR_workOf_82 : decode bR_workOf 82 = .ok (.aload_n 0, 1) := by decide +kernel
theorem dR_workOf_83 : decode bR_workOf 83 = .ok (.getfield 29, 3) := by decide +kernel
theorem dR_workOf_86 : decode bR_workOf 86 = .ok (.iload 7, 2) := by decide +kernel
theorem dR_workOf_88 : decode bR_workOf 88 = .ok (.iaload, 1) := by decide +kernel
theorem dR_workOf_89 : decode bR_workOf 89 = .ok (.iadd, 1) := by decide +kernel
theorem dR_workOf_90 : decode bR_workOf 90 = .ok (.istore 9, 2) := by decide +kernel
theorem dR_workOf_92 : decode bR_workOf 92 = .ok (.aload_n 0, 1) := by decide +kernel
theorem dR_workOf_93 : decode bR_workOf 93 = .ok (.getfield 35, 3) := by decide +kernel
theorem dR_workOf_96 : decode bR_workOf 96 = .ok (.iload 5, 2) := by decide +kernel
theorem dR_workOf_98 : decode bR_workOf 98 = .ok (.iaload, 1) := by decide +kernel
theorem dR_workOf_99 : decode bR_workOf 99 = .ok (.iconst (-1), 1) := by decide +kernel
theorem dR_workOf_100 : decode bR_workOf 100 = .ok (.if_icmp .eq 44, 3) := by decide +kernel
theorem dR_workOf_103 : decode bR_workOf 103 = .ok (.iload 9, 2) := by decide +kernel
theorem dR_workOf_105 : decode bR_workOf 105 = .ok (.aload_n 0, 1) := by decide +kernel
theorem dR_workOf_106 : decode bR_workOf 106 = .ok (.getfield 29, 3) := by decide +kernel
theorem dR_workOf_109 : decode bR_workOf 109 = .ok (.iload 5, 2) := by decide +kernel
theorem dR_workOf_111 : decode bR_workOf 111 = .ok (.iaload, 1) := by decide +kernel
theorem dR_workOf_112 : decode bR_workOf 112 = .ok (.if_icmp .gt 32, 3) := by decide +kernel
theorem dR_workOf_115 : decode bR_workOf 115 = .ok (.iload 9, 2) := by decide +kernel
theorem dR_workOf_117 : decode bR_workOf 117 = .ok (.aload_n 0, 1) := by decide +kernel
theorem dR_workOf_118 : decode bR_workOf 118 = .ok (.getfield 29, 3) := by decide +kernel
theorem dR_workOf_121 : decode bR_workOf 121 = .ok (.iload 5, 2) := by decide +kernel
theorem dR_workOf_123 : decode bR_workOf 123 = .ok (.iaload, 1) := by decide +kernel
theorem dR_workOf_124 : decode bR_workOf 124 = .ok (.if_icmp .ne 24, 3) := by decide +kernel
theorem dR_workOf_127 : decode bR_workOf 127 = .ok (.aload_n 0, 1) := by decide +kernel
theorem dR_workOf_128 : decode bR_workOf 128 = .ok (.getfield 32, 3) := by decide +kernel
theorem dR_workOf_131 : decode bR_workOf 131 = .ok (.iload 7, 2) := by decide +kernel
theorem dR_workOf_133 : decode bR_workOf 133 = .ok (.iaload, 1) := by decide +kernel
theorem dR_workOf_134 : decode bR_workOf 134 = .ok (.aload_n 0, 1) := by decide +kernel
theorem dR_workOf_135 : decode bR_workOf 135 = .ok (.getfield 32, 3) := by decide +kernel
theorem dR_workOf_138 : decode bR_workOf 138 = .ok (.iload 5, 2) := by decide +kernel
theorem dR_workOf_140 : decode bR_workOf 140 = .ok (.iaload, 1) := by decide +kernel
theorem dR_workOf_141 : decode bR_workOf 141 = .ok (.if_icmp .ge 7, 3) := by decide +kernel
theorem dR_workOf_144 : decode bR_workOf 144 = .ok (.iconst 1, 1) := by decide +kernel
theorem dR_workOf_145 : decode bR_workOf 145 = .ok (.goto 4, 3) := by decide +kernel
theorem dR_workOf_148 : decode bR_workOf 148 = .ok (.iconst 0, 1) := by decide +kernel
theorem dR_workOf_149 : decode bR_workOf 149 = .ok (.istore 10, 2) := by decide +kernel
theorem dR_workOf_151 : decode bR_workOf 151 = .ok (.iload 10, 2) := by decide +kernel
theorem dR_workOf_153 : decode bR_workOf 153 = .ok (.ifCond .eq 35, 3) := by decide +kernel
theorem dR_workOf_156 : decode bR_workOf 156 = .ok (.aload_n 0, 1) := by decide +kernel
theorem dR_workOf_157 : decode bR_workOf 157 = .ok (.getfield 35, 3) := by decide +kernel
theorem dR_workOf_160 : decode bR_workOf 160 = .ok (.iload 5, 2) := by decide +kernel
theorem dR_workOf_162 : decode bR_workOf 162 = .ok (.iload 6, 2) := by decide +kernel
theorem dR_workOf_164 : decode bR_workOf 164 = .ok (.iastore, 1) := by decide +kernel
theorem dR_workOf_165 : decode bR_workOf 165 = .ok (.aload_n 0, 1) := by decide +kernel
theorem dR_workOf_166 : decode bR_workOf 166 = .ok (.getfield 29, 3) := by decide +kernel
theorem dR_workOf_169 : decode bR_workOf 169 = .ok (.iload 5, 2) := by decide +kernel
theorem dR_workOf_171 : decode bR_workOf 171 = .ok (.iload 9, 2) := by decide +kernel
theorem dR_workOf_173 : decode bR_workOf 173 = .ok (.iastore, 1) := by decide +kernel
theorem dR_workOf_174 : decode bR_workOf 174 = .ok (.aload_n 0, 1) := by decide +kernel
theorem dR_workOf_175 : decode bR_workOf 175 = .ok (.getfield 32, 3) := by decide +kernel
theorem dR_workOf_178 : decode bR_workOf 178 = .ok (.iload 5, 2) := by decide +kernel
theorem dR_workOf_180 : decode bR_workOf 180 = .ok (.aload_n 0, 1) := by decide +kernel
theorem dR_workOf_181 : decode bR_workOf 181 = .ok (.getfield 32, 3) := by decide +kernel
theorem dR_workOf_184 : decode bR_workOf 184 = .ok (.iload 7, 2) := by decide +kernel
theorem dR_workOf_186 : decode bR_workOf 186 = .ok (.iaload, 1) := by decide +kernel
theorem dR_workOf_187 : decode bR_workOf 187 = .ok (.iastore, 1) := by decide +kernel
theorem dR_workOf_188 : decode bR_workOf 188 = .ok (.iinc 6 1, 3) := by decide +kernel
theorem dR_workOf_191 : decode bR_workOf 191 = .ok (.goto (-172), 3) := by decide +kernel
theorem dR_workOf_194 : decode bR_workOf 194 = .ok (.return_, 1) := by decide +kernel
theorem dR_plan_0 : decode bR_plan 0 = .ok (.aload_n 0, 1) := by decide +kernel
theorem dR_plan_1 : decode bR_plan 1 = .ok (.iload_n 1, 1) := by decide +kernel
theorem dR_plan_2 : decode bR_plan 2 = .ok (.iconst 1, 1) := by decide +kernel
theorem dR_plan_3 : decode bR_plan 3 = .ok (.iconst 4, 1) := by decide +kernel
theorem dR_plan_4 : decode bR_plan 4 = .ok (.invokestatic 45, 3) := by decide +kernel
theorem dR_plan_7 : decode bR_plan 7 = .ok (.ifCond .eq 18, 3) := by decide +kernel
theorem dR_plan_10 : decode bR_plan 10 = .ok (.iload_n 2, 1) := by decide +kernel
theorem dR_plan_11 : decode bR_plan 11 = .ok (.iconst 0, 1) := by decide +kernel
theorem dR_plan_12 : decode bR_plan 12 = .ok (.iload_n 1, 1) := by decide +kernel
theorem dR_plan_13 : decode bR_plan 13 = .ok (.iconst 1, 1) := by decide +kernel
theorem dR_plan_14 : decode bR_plan 14 = .ok (.isub, 1) := by decide +kernel
theorem dR_plan_15 : decode bR_plan 15 = .ok (.invokestatic 45, 3) := by decide +kernel
theorem dR_plan_18 : decode bR_plan 18 = .ok (.ifCond .eq 7, 3) := by decide +kernel
theorem dR_plan_21 : decode bR_plan 21 = .ok (.iconst 1, 1) := by decide +kernel
theorem dR_plan_22 : decode bR_plan 22 = .ok (.goto 4, 3) := by decide +kernel
theorem dR_plan_25 : decode bR_plan 25 = .ok (.iconst 0, 1) := by decide +kernel
theorem dR_plan_26 : decode bR_plan 26 = .ok (.invokevirtual 49, 3) := by decide +kernel
theorem dR_plan_29 : decode bR_plan 29 = .ok (.ifCond .ne 5, 3) := by decide +kernel
theorem dR_plan_32 : decode bR_plan 32 = .ok (.iconst 0, 1) := by decide +kernel
theorem dR_plan_33 : decode bR_plan 33 = .ok (.ireturn, 1) := by decide +kernel
theorem dR_plan_34 : decode bR_plan 34 = .ok (.aload_n 0, 1) := by decide +kernel
theorem dR_plan_35 : decode bR_plan 35 = .ok (.iload_n 1, 1) := by decide +kernel
theorem dR_plan_36 : decode bR_plan 36 = .ok (.invokevirtual 89, 3) := by decide +kernel
theorem dR_plan_39 : decode bR_plan 39 = .ok (.iconst 0, 1) := by decide +kernel
theorem dR_plan_40 : decode bR_plan 40 = .ok (.istore_n 3, 1) := by decide +kernel
theorem dR_plan_41 : decode bR_plan 41 = .ok (.iconst 0, 1) := by decide +kernel
theorem dR_plan_42 : decode bR_plan 42 = .ok (.istore 4, 2) := by decide +kernel
theorem dR_plan_44 : decode bR_plan 44 = .ok (.iload 4, 2) := by decide +kernel
theorem dR_plan_46 : decode bR_plan 46 = .ok (.iload_n 2, 1) := by decide +kernel
theorem dR_plan_47 : decode bR_plan 47 = .ok (.if_icmp .gt 22, 3) := by decide +kernel
theorem dR_plan_50 : decode bR_plan 50 = .ok (.aload_n 0, 1) := by decide +kernel
theorem dR_plan_51 : decode bR_plan 51 = .ok (.getfield 35, 3) := by decide +kernel
theorem dR_plan_54 : decode bR_plan 54 = .ok (.bipush 64, 2) := by decide +kernel
theorem dR_plan_56 : decode bR_plan 56 = .ok (.iload 4, 2) := by decide +kernel
theorem dR_plan_58 : decode bR_plan 58 = .ok (.imul, 1) := by decide +kernel
theorem dR_plan_59 : decode bR_plan 59 = .ok (.iload_n 3, 1) := by decide +kernel
theorem dR_plan_60 : decode bR_plan 60 = .ok (.iadd, 1) := by decide +kernel
theorem dR_plan_61 : decode bR_plan 61 = .ok (.iaload, 1) := by decide +kernel
theorem dR_plan_62 : decode bR_plan 62 = .ok (.istore_n 3, 1) := by decide +kernel
theorem dR_plan_63 : decode bR_plan 63 = .ok (.iinc 4 1, 3) := by decide +kernel
theorem dR_plan_66 : decode bR_plan 66 = .ok (.goto (-22), 3) := by decide +kernel
theorem dR_plan_69 : decode bR_plan 69 = .ok (.iload_n 3, 1) := by decide +kernel
theorem dR_plan_70 : decode bR_plan 70 = .ok (.ireturn, 1) := by decide +kernel
theorem dR_planned_0 : decode bR_planned 0 = .ok (.aload_n 0, 1) := by decide +kernel
theorem dR_planned_1 : decode bR_planned 1 = .ok (.iload_n 1, 1) := by decide +kernel
theorem dR_planned_2 : decode bR_planned 2 = .ok (.iconst 1, 1) := by decide +kernel
theorem dR_planned_3 : decode bR_planned 3 = .ok (.iconst 4, 1) := by decide +kernel
theorem dR_planned_4 : decode bR_planned 4 = .ok (.invokestatic 45, 3) := by decide +kernel
theorem dR_planned_7 : decode bR_planned 7 = .ok (.invokevirtual 49, 3) := by decide +kernel
theorem dR_planned_10 : decode bR_planned 10 = .ok (.ifCond .ne 5, 3) := by decide +kernel
theorem dR_planned_13 : decode bR_planned 13 = .ok (.iconst 0, 1) := by decide +kernel
theorem dR_planned_14 : decode bR_planned 14 = .ok (.ireturn, 1) := by decide +kernel
theorem dR_planned_15 : decode bR_planned 15 = .ok (.aload_n 0, 1) := by decide +kernel
theorem dR_planned_16 : decode bR_planned 16 = .ok (.iload_n 1, 1) := by decide +kernel
theorem dR_planned_17 : decode bR_planned 17 = .ok (.invokevirtual 89, 3) := by decide +kernel
theorem dR_planned_20 : decode bR_planned 20 = .ok (.aload_n 0, 1) := by decide +kernel
theorem dR_planned_21 : decode bR_planned 21 = .ok (.getfield 29, 3) := by decide +kernel
theorem dR_planned_24 : decode bR_planned 24 = .ok (.iconst 0, 1) := by decide +kernel
theorem dR_planned_25 : decode bR_planned 25 = .ok (.iaload, 1) := by decide +kernel
theorem dR_planned_26 : decode bR_planned 26 = .ok (.ireturn, 1) := by decide +kernel
end
section
theorem dL_measure_0 : decode bL_measure 0 = .ok (.aload_n 3, 1) := by decide +kernel
theorem dL_measure_1 : decode bL_measure 1 = .ok (.iconst 0, 1) := by decide +kernel
theorem dL_measure_2 : decode bL_measure 2 = .ok (.aload_n 0, 1) := by decide +kernel
theorem dL_measure_3 : decode bL_measure 3 = .ok (.iload_n 1, 1) := by decide +kernel
theorem dL_measure_4 : decode bL_measure 4 = .ok (.iload_n 2, 1) := by decide +kernel
theorem dL_measure_5 : decode bL_measure 5 = .ok (.invokevirtual 7, 3) := by decide +kernel
theorem dL_measure_8 : decode bL_measure 8 = .ok (.i2l, 1) := by decide +kernel
theorem dL_measure_9 : decode bL_measure 9 = .ok (.lastore, 1) := by decide +kernel
theorem dL_measure_10 : decode bL_measure 10 = .ok (.goto 11, 3) := by decide +kernel
theorem dL_measure_13 : decode bL_measure 13 = .ok (.astore 4, 2) := by decide +kernel
theorem dL_measure_15 : decode bL_measure 15 = .ok (.iconst 1, 1) := by decide +kernel
theorem dL_measure_16 : decode bL_measure 16 = .ok (.ireturn, 1) := by decide +kernel
theorem dL_measure_17 : decode bL_measure 17 = .ok (.astore 4, 2) := by decide +kernel
theorem dL_measure_19 : decode bL_measure 19 = .ok (.iconst 2, 1) := by decide +kernel
theorem dL_measure_20 : decode bL_measure 20 = .ok (.ireturn, 1) := by decide +kernel
theorem dL_measure_21 : decode bL_measure 21 = .ok (.iconst 0, 1) := by decide +kernel
theorem dL_measure_22 : decode bL_measure 22 = .ok (.ireturn, 1) := by decide +kernel
theorem dL_change_0 : decode bL_change 0 = .ok (.aload_n 0, 1) := by decide +kernel
theorem dL_change_1 : decode bL_change 1 = .ok (.iload_n 1, 1) := by decide +kernel
theorem dL_change_2 : decode bL_change 2 = .ok (.iload_n 2, 1) := by decide +kernel
theorem dL_change_3 : decode bL_change 3 = .ok (.iload_n 3, 1) := by decide +kernel
theorem dL_change_4 : decode bL_change 4 = .ok (.invokevirtual 17, 3) := by decide +kernel
theorem dL_change_7 : decode bL_change 7 = .ok (.goto 7, 3) := by decide +kernel
theorem dL_change_10 : decode bL_change 10 = .ok (.astore 4, 2) := by decide +kernel
theorem dL_change_12 : decode bL_change 12 = .ok (.iconst 1, 1) := by decide +kernel
theorem dL_change_13 : decode bL_change 13 = .ok (.ireturn, 1) := by decide +kernel
theorem dL_change_14 : decode bL_change 14 = .ok (.iconst 0, 1) := by decide +kernel
theorem dL_change_15 : decode bL_change 15 = .ok (.ireturn, 1) := by decide +kernel
theorem dL_exclude_0 : decode bL_exclude 0 = .ok (.aload 4, 2) := by decide +kernel
theorem dL_exclude_2 : decode bL_exclude 2 = .ok (.iconst 0, 1) := by decide +kernel
theorem dL_exclude_3 : decode bL_exclude 3 = .ok (.aload_n 0, 1) := by decide +kernel
theorem dL_exclude_4 : decode bL_exclude 4 = .ok (.iload_n 1, 1) := by decide +kernel
theorem dL_exclude_5 : decode bL_exclude 5 = .ok (.iload_n 2, 1) := by decide +kernel
theorem dL_exclude_6 : decode bL_exclude 6 = .ok (.iload_n 3, 1) := by decide +kernel
theorem dL_exclude_7 : decode bL_exclude 7 = .ok (.invokevirtual 21, 3) := by decide +kernel
theorem dL_exclude_10 : decode bL_exclude 10 = .ok (.ifCond .eq 7, 3) := by decide +kernel
theorem dL_exclude_13 : decode bL_exclude 13 = .ok (.lconst 1, 1) := by decide +kernel
theorem dL_exclude_14 : decode bL_exclude 14 = .ok (.goto 4, 3) := by decide +kernel
theorem dL_exclude_17 : decode bL_exclude 17 = .ok (.lconst 0, 1) := by decide +kernel
theorem dL_exclude_18 : decode bL_exclude 18 = .ok (.lastore, 1) := by decide +kernel
theorem dL_exclude_19 : decode bL_exclude 19 = .ok (.goto 7, 3) := by decide +kernel
theorem dL_exclude_22 : decode bL_exclude 22 = .ok (.astore 5, 2) := by decide +kernel
theorem dL_exclude_24 : decode bL_exclude 24 = .ok (.iconst 1, 1) := by decide +kernel
theorem dL_exclude_25 : decode bL_exclude 25 = .ok (.ireturn, 1) := by decide +kernel
theorem dL_exclude_26 : decode bL_exclude 26 = .ok (.iconst 0, 1) := by decide +kernel
theorem dL_exclude_27 : decode bL_exclude 27 = .ok (.ireturn, 1) := by decide +kernel
theorem dL_needs_0 : decode bL_needs 0 = .ok (.aload 4, 2) := by decide +kernel
theorem dL_needs_2 : decode bL_needs 2 = .ok (.iconst 0, 1) := by decide +kernel
theorem dL_needs_3 : decode bL_needs 3 = .ok (.aload_n 0, 1) := by decide +kernel
theorem dL_needs_4 : decode bL_needs 4 = .ok (.iload_n 1, 1) := by decide +kernel
theorem dL_needs_5 : decode bL_needs 5 = .ok (.iload_n 2, 1) := by decide +kernel
theorem dL_needs_6 : decode bL_needs 6 = .ok (.iload_n 3, 1) := by decide +kernel
theorem dL_needs_7 : decode bL_needs 7 = .ok (.invokevirtual 25, 3) := by decide +kernel
theorem dL_needs_10 : decode bL_needs 10 = .ok (.ifCond .eq 7, 3) := by decide +kernel
theorem dL_needs_13 : decode bL_needs 13 = .ok (.lconst 1, 1) := by decide +kernel
theorem dL_needs_14 : decode bL_needs 14 = .ok (.goto 4, 3) := by decide +kernel
theorem dL_needs_17 : decode bL_needs 17 = .ok (.lconst 0, 1) := by decide +kernel
theorem dL_needs_18 : decode bL_needs 18 = .ok (.lastore, 1) := by decide +kernel
theorem dL_needs_19 : decode bL_needs 19 = .ok (.goto 7, 3) := by decide +kernel
theorem dL_needs_22 : decode bL_needs 22 = .ok (.astore 5, 2) := by decide +kernel
theorem dL_needs_24 : decode bL_needs 24 = .ok (.iconst 1, 1) := by decide +kernel
theorem dL_needs_25 : decode bL_needs 25 = .ok (.ireturn, 1) := by decide +kernel
theorem dL_needs_26 : decode bL_needs 26 = .ok (.iconst 0, 1) := by decide +kernel
theorem dL_needs_27 : decode bL_needs 27 = .ok (.ireturn, 1) := by decide +kernel
theorem dL_bonus_0 : decode bL_bonus 0 = .ok (.aload 4, 2) := by decide +kernel
theorem dL_bonus_2 : decode bL_bonus 2 = .ok (.iconst 0, 1) := by decide +kernel
theorem dL_bonus_3 : decode bL_bonus 3 = .ok (.aload_n 0, 1) := by decide +kernel
theorem dL_bonus_4 : decode bL_bonus 4 = .ok (.iload_n 1, 1) := by decide +kernel
theorem dL_bonus_5 : decode bL_bonus 5 = .ok (.iload_n 2, 1) := by decide +kernel
theorem dL_bonus_6 : decode bL_bonus 6 = .ok (.iload_n 3, 1) := by decide +kernel
theorem dL_bonus_7 : decode bL_bonus 7 = .ok (.invokevirtual 28, 3) := by decide +kernel
theorem dL_bonus_10 : decode bL_bonus 10 = .ok (.i2l, 1) := by decide +kernel
theorem dL_bonus_11 : decode bL_bonus 11 = .ok (.lastore, 1) := by decide +kernel
theorem dL_bonus_12 : decode bL_bonus 12 = .ok (.goto 7, 3) := by decide +kernel
theorem dL_bonus_15 : decode bL_bonus 15 = .ok (.astore 5, 2) := by decide +kernel
theorem dL_bonus_17 : decode bL_bonus 17 = .ok (.iconst 1, 1) := by decide +kernel
theorem dL_bonus_18 : decode bL_bonus 18 = .ok (.ireturn, 1) := by decide +kernel
theorem dL_bonus_19 : decode bL_bonus 19 = .ok (.iconst 0, 1) := by decide +kernel
theorem dL_bonus_20 : decode bL_bonus 20 = .ok (.ireturn, 1) := by decide +kernel
theorem dL_lawful_0 : decode bL_lawful 0 = .ok (.aload_n 2, 1) := by decide +kernel
theorem dL_lawful_1 : decode bL_lawful 1 = .ok (.iconst 0, 1) := by decide +kernel
theorem dL_lawful_2 : decode bL_lawful 2 = .ok (.aload_n 0, 1) := by decide +kernel
theorem dL_lawful_3 : decode bL_lawful 3 = .ok (.iload_n 1, 1) := by decide +kernel
theorem dL_lawful_4 : decode bL_lawful 4 = .ok (.invokevirtual 32, 3) := by decide +kernel
theorem dL_lawful_7 : decode bL_lawful 7 = .ok (.ifCond .eq 7, 3) := by decide +kernel
theorem dL_lawful_10 : decode bL_lawful 10 = .ok (.lconst 1, 1) := by decide +kernel
theorem dL_lawful_11 : decode bL_lawful 11 = .ok (.goto 4, 3) := by decide +kernel
theorem dL_lawful_14 : decode bL_lawful 14 = .ok (.lconst 0, 1) := by decide +kernel
theorem dL_lawful_15 : decode bL_lawful 15 = .ok (.lastore, 1) := by decide +kernel
theorem dL_lawful_16 : decode bL_lawful 16 = .ok (.goto 6, 3) := by decide +kernel
theorem dL_lawful_19 : decode bL_lawful 19 = .ok (.astore_n 3, 1) := by decide +kernel
theorem dL_lawful_20 : decode bL_lawful 20 = .ok (.iconst 1, 1) := by decide +kernel
theorem dL_lawful_21 : decode bL_lawful 21 = .ok (.ireturn, 1) := by decide +kernel
theorem dL_lawful_22 : decode bL_lawful 22 = .ok (.iconst 0, 1) := by decide +kernel
theorem dL_lawful_23 : decode bL_lawful 23 = .ok (.ireturn, 1) := by decide +kernel
theorem dL_told_0 : decode bL_told 0 = .ok (.aload_n 3, 1) := by decide +kernel
theorem dL_told_1 : decode bL_told 1 = .ok (.iconst 0, 1) := by decide +kernel
theorem dL_told_2 : decode bL_told 2 = .ok (.aload_n 0, 1) := by decide +kernel
theorem dL_told_3 : decode bL_told 3 = .ok (.iload_n 1, 1) := by decide +kernel
theorem dL_told_4 : decode bL_told 4 = .ok (.iload_n 2, 1) := by decide +kernel
theorem dL_told_5 : decode bL_told 5 = .ok (.invokevirtual 36, 3) := by decide +kernel
theorem dL_told_8 : decode bL_told 8 = .ok (.i2l, 1) := by decide +kernel
theorem dL_told_9 : decode bL_told 9 = .ok (.lastore, 1) := by decide +kernel
theorem dL_told_10 : decode bL_told 10 = .ok (.goto 7, 3) := by decide +kernel
theorem dL_told_13 : decode bL_told 13 = .ok (.astore 4, 2) := by decide +kernel
theorem dL_told_15 : decode bL_told 15 = .ok (.iconst 1, 1) := by decide +kernel
theorem dL_told_16 : decode bL_told 16 = .ok (.ireturn, 1) := by decide +kernel
theorem dL_told_17 : decode bL_told 17 = .ok (.iconst 0, 1) := by decide +kernel
theorem dL_told_18 : decode bL_told 18 = .ok (.ireturn, 1) := by decide +kernel
theorem dL_closure_0 : decode bL_closure 0 = .ok (.aload_n 2, 1) := by decide +kernel
theorem dL_closure_1 : decode bL_closure 1 = .ok (.iconst 0, 1) := by decide +kernel
theorem dL_closure_2 : decode bL_closure 2 = .ok (.aload_n 0, 1) := by decide +kernel
theorem dL_closure_3 : decode bL_closure 3 = .ok (.iload_n 1, 1) := by decide +kernel
theorem dL_closure_4 : decode bL_closure 4 = .ok (.invokevirtual 39, 3) := by decide +kernel
theorem dL_closure_7 : decode bL_closure 7 = .ok (.i2l, 1) := by decide +kernel
theorem dL_closure_8 : decode bL_closure 8 = .ok (.lastore, 1) := by decide +kernel
theorem dL_closure_9 : decode bL_closure 9 = .ok (.goto 6, 3) := by decide +kernel
theorem dL_closure_12 : decode bL_closure 12 = .ok (.astore_n 3, 1) := by decide +kernel
theorem dL_closure_13 : decode bL_closure 13 = .ok (.iconst 1, 1) := by decide +kernel
theorem dL_closure_14 : decode bL_closure 14 = .ok (.ireturn, 1) := by decide +kernel
theorem dL_closure_15 : decode bL_closure 15 = .ok (.iconst 0, 1) := by decide +kernel
theorem dL_closure_16 : decode bL_closure 16 = .ok (.ireturn, 1) := by decide +kernel
theorem dL_best_0 : decode bL_best 0 = .ok (.aload_n 2, 1) := by decide +kernel
theorem dL_best_1 : decode bL_best 1 = .ok (.iconst 0, 1) := by decide +kernel
theorem dL_best_2 : decode bL_best 2 = .ok (.aload_n 0, 1) := by decide +kernel
theorem dL_best_3 : decode bL_best 3 = .ok (.iload_n 1, 1) := by decide +kernel
theorem dL_best_4 : decode bL_best 4 = .ok (.invokevirtual 43, 3) := by decide +kernel
theorem dL_best_7 : decode bL_best 7 = .ok (.i2l, 1) := by decide +kernel
theorem dL_best_8 : decode bL_best 8 = .ok (.lastore, 1) := by decide +kernel
theorem dL_best_9 : decode bL_best 9 = .ok (.goto 6, 3) := by decide +kernel
theorem dL_best_12 : decode bL_best 12 = .ok (.astore_n 3, 1) := by decide +kernel
theorem dL_best_13 : decode bL_best 13 = .ok (.iconst 1, 1) := by decide +kernel
theorem dL_best_14 : decode bL_best 14 = .ok (.ireturn, 1) := by decide +kernel
theorem dL_best_15 : decode bL_best 15 = .ok (.iconst 0, 1) := by decide +kernel
theorem dL_best_16 : decode bL_best 16 = .ok (.ireturn, 1) := by decide +kernel
theorem dL_worth_0 : decode bL_worth 0 = .ok (.aload_n 3, 1) := by decide +kernel
theorem dL_worth_1 : decode bL_worth 1 = .ok (.iconst 0, 1) := by decide +kernel
theorem dL_worth_2 : decode bL_worth 2 = .ok (.aload_n 0, 1) := by decide +kernel
theorem dL_worth_3 : decode bL_worth 3 = .ok (.iload_n 1, 1) := by decide +kernel
theorem dL_worth_4 : decode bL_worth 4 = .ok (.iload_n 2, 1) := by decide +kernel
theorem dL_worth_5 : decode bL_worth 5 = .ok (.invokevirtual 46, 3) := by decide +kernel
theorem dL_worth_8 : decode bL_worth 8 = .ok (.i2l, 1) := by decide +kernel
theorem dL_worth_9 : decode bL_worth 9 = .ok (.lastore, 1) := by decide +kernel
theorem dL_worth_10 : decode bL_worth 10 = .ok (.goto 7, 3) := by decide +kernel
theorem dL_worth_13 : decode bL_worth 13 = .ok (.astore 4, 2) := by decide +kernel
theorem dL_worth_15 : decode bL_worth 15 = .ok (.iconst 1, 1) := by decide +kernel
theorem dL_worth_16 : decode bL_worth 16 = .ok (.ireturn, 1) := by decide +kernel
theorem dL_worth_17 : decode bL_worth 17 = .ok (.iconst 0, 1) := by decide +kernel
theorem dL_worth_18 : decode bL_worth 18 = .ok (.ireturn, 1) := by decide +kernel
theorem dL_frontier_0 : decode bL_frontier 0 = .ok (.aload_n 2, 1) := by decide +kernel
theorem dL_frontier_1 : decode bL_frontier 1 = .ok (.iconst 0, 1) := by decide +kernel
theorem dL_frontier_2 : decode bL_frontier 2 = .ok (.aload_n 0, 1) := by decide +kernel
theorem dL_frontier_3 : decode bL_frontier 3 = .ok (.iload_n 1, 1) := by decide +kernel
theorem dL_frontier_4 : decode bL_frontier 4 = .ok (.invokevirtual 49, 3) := by decide +kernel
theorem dL_frontier_7 : decode bL_frontier 7 = .ok (.i2l, 1) := by decide +kernel
theorem dL_frontier_8 : decode bL_frontier 8 = .ok (.lastore, 1) := by decide +kernel
theorem dL_frontier_9 : decode bL_frontier 9 = .ok (.goto 6, 3) := by decide +kernel
theorem dL_frontier_12 : decode bL_frontier 12 = .ok (.astore_n 3, 1) := by decide +kernel
theorem dL_frontier_13 : decode bL_frontier 13 = .ok (.iconst 1, 1) := by decide +kernel
theorem dL_frontier_14 : decode bL_frontier 14 = .ok (.ireturn, 1) := by decide +kernel
theorem dL_frontier_15 : decode bL_frontier 15 = .ok (.iconst 0, 1) := by decide +kernel
theorem dL_frontier_16 : decode bL_frontier 16 = .ok (.ireturn, 1) := by decide +kernel
theorem dL_year_0 : decode bL_year 0 = .ok (.aload_n 3, 1) := by decide +kernel
theorem dL_year_1 : decode bL_year 1 = .ok (.iconst 0, 1) := by decide +kernel
theorem dL_year_2 : decode bL_year 2 = .ok (.aload_n 0, 1) := by decide +kernel
theorem dL_year_3 : decode bL_year 3 = .ok (.iload_n 1, 1) := by decide +kernel
theorem dL_year_4 : decode bL_year 4 = .ok (.iload_n 2, 1) := by decide +kernel
theorem dL_year_5 : decode bL_year 5 = .ok (.invokevirtual 52, 3) := by decide +kernel
theorem dL_year_8 : decode bL_year 8 = .ok (.i2l, 1) := by decide +kernel
theorem dL_year_9 : decode bL_year 9 = .ok (.lastore, 1) := by decide +kernel
theorem dL_year_10 : decode bL_year 10 = .ok (.goto 7, 3) := by decide +kernel
theorem dL_year_13 : decode bL_year 13 = .ok (.astore 4, 2) := by decide +kernel
theorem dL_year_15 : decode bL_year 15 = .ok (.iconst 1, 1) := by decide +kernel
theorem dL_year_16 : decode bL_year 16 = .ok (.ireturn, 1) := by decide +kernel
theorem dL_year_17 : decode bL_year 17 = .ok (.iconst 0, 1) := by decide +kernel
theorem dL_year_18 : decode bL_year 18 = .ok (.ireturn, 1) := by decide +kernel
theorem dL_plan_0 : decode bL_plan 0 = .ok (.aload_n 3, 1) := by decide +kernel
theorem dL_plan_1 : decode bL_plan 1 = .ok (.iconst 0, 1) := by decide +kernel
theorem dL_plan_2 : decode bL_plan 2 = .ok (.aload_n 0, 1) := by decide +kernel
theorem dL_plan_3 : decode bL_plan 3 = .ok (.iload_n 1, 1) := by decide +kernel
theorem dL_plan_4 : decode bL_plan 4 = .ok (.iload_n 2, 1) := by decide +kernel
theorem dL_plan_5 : decode bL_plan 5 = .ok (.invokevirtual 55, 3) := by decide +kernel
theorem dL_plan_8 : decode bL_plan 8 = .ok (.i2l, 1) := by decide +kernel
theorem dL_plan_9 : decode bL_plan 9 = .ok (.lastore, 1) := by decide +kernel
theorem dL_plan_10 : decode bL_plan 10 = .ok (.goto 7, 3) := by decide +kernel
theorem dL_plan_13 : decode bL_plan 13 = .ok (.astore 4, 2) := by decide +kernel
theorem dL_plan_15 : decode bL_plan 15 = .ok (.iconst 1, 1) := by decide +kernel
theorem dL_plan_16 : decode bL_plan 16 = .ok (.ireturn, 1) := by decide +kernel
theorem dL_plan_17 : decode bL_plan 17 = .ok (.iconst 0, 1) := by decide +kernel
theorem dL_plan_18 : decode bL_plan 18 = .ok (.ireturn, 1) := by decide +kernel
theorem dL_planned_0 : decode bL_planned 0 = .ok (.aload_n 2, 1) := by decide +kernel
theorem dL_planned_1 : decode bL_planned 1 = .ok (.iconst 0, 1) := by decide +kernel
theorem dL_planned_2 : decode bL_planned 2 = .ok (.aload_n 0, 1) := by decide +kernel
theorem dL_planned_3 : decode bL_planned 3 = .ok (.iload_n 1, 1) := by decide +kernel
theorem dL_planned_4 : decode bL_planned 4 = .ok (.invokevirtual 58, 3) := by decide +kernel
theorem dL_planned_7 : decode bL_planned 7 = .ok (.i2l, 1) := by decide +kernel
theorem dL_planned_8 : decode bL_planned 8 = .ok (.lastore, 1) := by decide +kernel
theorem dL_planned_9 : decode bL_planned 9 = .ok (.goto 6, 3) := by decide +kernel
theorem dL_planned_12 : decode bL_planned 12 = .ok (.astore_n 3, 1) := by decide +kernel
theorem dL_planned_13 : decode bL_planned 13 = .ok (.iconst 1, 1) := by decide +kernel
theorem dL_planned_14 : decode bL_planned 14 = .ok (.ireturn, 1) := by decide +kernel
theorem dL_planned_15 : decode bL_planned 15 = .ok (.iconst 0, 1) := by decide +kernel
theorem dL_planned_16 : decode bL_planned 16 = .ok (.ireturn, 1) := by decide +kernel
theorem dL_law_0 : decode code 0 = .ok (.new 8, 3) := by decide +kernel
theorem dL_law_3 : decode code 3 = .ok (.dup, 1) := by decide +kernel
theorem dL_law_4 : decode code 4 = .ok (.invokespecial 61, 3) := by decide +kernel
theorem dL_law_7 : decode code 7 = .ok (.astore_n 1, 1) := by decide +kernel
theorem dL_law_8 : decode code 8 = .ok (.new 62, 3) := by decide +kernel
theorem dL_law_11 : decode code 11 = .ok (.dup, 1) := by decide +kernel
theorem dL_law_12 : decode code 12 = .ok (.invokespecial 64, 3) := by decide +kernel
theorem dL_law_15 : decode code 15 = .ok (.astore_n 2, 1) := by decide +kernel
theorem dL_law_16 : decode code 16 = .ok (.iconst 1, 1) := by decide +kernel
theorem dL_law_17 : decode code 17 = .ok (.newarray .long, 2) := by decide +kernel
theorem dL_law_19 : decode code 19 = .ok (.astore_n 3, 1) := by decide +kernel
theorem dL_law_20 : decode code 20 = .ok (.iconst 0, 1) := by decide +kernel
theorem dL_law_21 : decode code 21 = .ok (.istore 4, 2) := by decide +kernel
theorem dL_law_23 : decode code 23 = .ok (.iload 4, 2) := by decide +kernel
theorem dL_law_25 : decode code 25 = .ok (.aload_n 0, 1) := by decide +kernel
theorem dL_law_26 : decode code 26 = .ok (.arraylength, 1) := by decide +kernel
theorem dL_law_27 : decode code 27 = .ok (.iconst 4, 1) := by decide +kernel
theorem dL_law_28 : decode code 28 = .ok (.isub, 1) := by decide +kernel
theorem dL_law_29 : decode code 29 = .ok (.if_icmp .gt 1087, 3) := by decide +kernel
theorem dL_law_32 : decode code 32 = .ok (.aload_n 0, 1) := by decide +kernel
theorem dL_law_33 : decode code 33 = .ok (.iload 4, 2) := by decide +kernel
theorem dL_law_35 : decode code 35 = .ok (.iaload, 1) := by decide +kernel
theorem dL_law_36 : decode code 36 = .ok (.bipush 15, 2) := by decide +kernel
theorem dL_law_38 : decode code 38 = .ok (.iand, 1) := by decide +kernel
theorem dL_law_39 : decode code 39 = .ok (.tableswitch 1071 0 14 #[73, 141, 201, 304, 407, 487, 550, 618, 674, 730, 755, 823, 879, 947, 1015], 73) := by decide +kernel
theorem dL_law_112 : decode code 112 = .ok (.aload_n 1, 1) := by decide +kernel
theorem dL_law_113 : decode code 113 = .ok (.aload_n 0, 1) := by decide +kernel
theorem dL_law_114 : decode code 114 = .ok (.iload 4, 2) := by decide +kernel
theorem dL_law_116 : decode code 116 = .ok (.iconst 1, 1) := by decide +kernel
theorem dL_law_117 : decode code 117 = .ok (.iadd, 1) := by decide +kernel
theorem dL_law_118 : decode code 118 = .ok (.iaload, 1) := by decide +kernel
theorem dL_law_119 : decode code 119 = .ok (.aload_n 0, 1) := by decide +kernel
theorem dL_law_120 : decode code 120 = .ok (.iload 4, 2) := by decide +kernel
theorem dL_law_122 : decode code 122 = .ok (.iconst 2, 1) := by decide +kernel
theorem dL_law_123 : decode code 123 = .ok (.iadd, 1) := by decide +kernel
theorem dL_law_124 : decode code 124 = .ok (.iaload, 1) := by decide +kernel
theorem dL_law_125 : decode code 125 = .ok (.aload_n 3, 1) := by decide +kernel
theorem dL_law_126 : decode code 126 = .ok (.invokestatic 65, 3) := by decide +kernel
theorem dL_law_129 : decode code 129 = .ok (.istore 5, 2) := by decide +kernel
theorem dL_law_131 : decode code 131 = .ok (.aload_n 2, 1) := by decide +kernel
theorem dL_law_132 : decode code 132 = .ok (.aload_n 0, 1) := by decide +kernel
theorem dL_law_133 : decode code 133 = .ok (.iload 4, 2) := by decide +kernel
theorem dL_law_135 : decode code 135 = .ok (.iconst 1, 1) := by decide +kernel
theorem dL_law_136 : decode code 136 = .ok (.iadd, 1) := by decide +kernel
theorem dL_law_137 : decode code 137 = .ok (.iaload, 1) := by decide +kernel
theorem dL_law_138 : decode code 138 = .ok (.aload_n 0, 1) := by decide +kernel
theorem dL_law_139 : decode code 139 = .ok (.iload 4, 2) := by decide +kernel
theorem dL_law_141 : decode code 141 = .ok (.iconst 2, 1) := by decide +kernel
theorem dL_law_142 : decode code 142 = .ok (.iadd, 1) := by decide +kernel
theorem dL_law_143 : decode code 143 = .ok (.iaload, 1) := by decide +kernel
theorem dL_law_144 : decode code 144 = .ok (.invokevirtual 70, 3) := by decide +kernel
theorem dL_law_147 : decode code 147 = .ok (.istore 6, 2) := by decide +kernel
theorem dL_law_149 : decode code 149 = .ok (.aload_n 2, 1) := by decide +kernel
theorem dL_law_150 : decode code 150 = .ok (.invokevirtual 71, 3) := by decide +kernel
theorem dL_law_153 : decode code 153 = .ok (.iload 5, 2) := by decide +kernel
theorem dL_law_155 : decode code 155 = .ok (.if_icmp .eq 5, 3) := by decide +kernel
theorem dL_law_158 : decode code 158 = .ok (.iconst 0, 1) := by decide +kernel
theorem dL_law_159 : decode code 159 = .ok (.ireturn, 1) := by decide +kernel
theorem dL_law_160 : decode code 160 = .ok (.iload 5, 2) := by decide +kernel
theorem dL_law_162 : decode code 162 = .ok (.ifCond .ne 15, 3) := by decide +kernel
theorem dL_law_165 : decode code 165 = .ok (.aload_n 3, 1) := by decide +kernel
theorem dL_law_166 : decode code 166 = .ok (.iconst 0, 1) := by decide +kernel
theorem dL_law_167 : decode code 167 = .ok (.laload, 1) := by decide +kernel
theorem dL_law_168 : decode code 168 = .ok (.iload 6, 2) := by decide +kernel
theorem dL_law_170 : decode code 170 = .ok (.i2l, 1) := by decide +kernel
theorem dL_law_171 : decode code 171 = .ok (.lcmp, 1) := by decide +kernel
theorem dL_law_172 : decode code 172 = .ok (.ifCond .eq 5, 3) := by decide +kernel
theorem dL_law_175 : decode code 175 = .ok (.iconst 0, 1) := by decide +kernel
theorem dL_law_176 : decode code 176 = .ok (.ireturn, 1) := by decide +kernel
theorem dL_law_177 : decode code 177 = .ok (.goto 933, 3) := by decide +kernel
theorem dL_law_180 : decode code 180 = .ok (.aload_n 1, 1) := by decide +kernel
theorem dL_law_181 : decode code 181 = .ok (.aload_n 0, 1) := by decide +kernel
theorem dL_law_182 : decode code 182 = .ok (.iload 4, 2) := by decide +kernel
theorem dL_law_184 : decode code 184 = .ok (.iconst 1, 1) := by decide +kernel
theorem dL_law_185 : decode code 185 = .ok (.iadd, 1) := by decide +kernel
theorem dL_law_186 : decode code 186 = .ok (.iaload, 1) := by decide +kernel
theorem dL_law_187 : decode code 187 = .ok (.aload_n 0, 1) := by decide +kernel
theorem dL_law_188 : decode code 188 = .ok (.iload 4, 2) := by decide +kernel
theorem dL_law_190 : decode code 190 = .ok (.iconst 2, 1) := by decide +kernel
theorem dL_law_191 : decode code 191 = .ok (.iadd, 1) := by decide +kernel
theorem dL_law_192 : decode code 192 = .ok (.iaload, 1) := by decide +kernel
theorem dL_law_193 : decode code 193 = .ok (.aload_n 0, 1) := by decide +kernel
theorem dL_law_194 : decode code 194 = .ok (.iload 4, 2) := by decide +kernel
theorem dL_law_196 : decode code 196 = .ok (.iconst 3, 1) := by decide +kernel
theorem dL_law_197 : decode code 197 = .ok (.iadd, 1) := by decide +kernel
theorem dL_law_198 : decode code 198 = .ok (.iaload, 1) := by decide +kernel
theorem dL_law_199 : decode code 199 = .ok (.invokestatic 75, 3) := by decide +kernel
theorem dL_law_202 : decode code 202 = .ok (.istore 5, 2) := by decide +kernel
theorem dL_law_204 : decode code 204 = .ok (.aload_n 2, 1) := by decide +kernel
theorem dL_law_205 : decode code 205 = .ok (.aload_n 0, 1) := by decide +kernel
theorem dL_law_206 : decode code 206 = .ok (.iload 4, 2) := by decide +kernel
theorem dL_law_208 : decode code 208 = .ok (.iconst 1, 1) := by decide +kernel
theorem dL_law_209 : decode code 209 = .ok (.iadd, 1) := by decide +kernel
theorem dL_law_210 : decode code 210 = .ok (.iaload, 1) := by decide +kernel
theorem dL_law_211 : decode code 211 = .ok (.aload_n 0, 1) := by decide +kernel
theorem dL_law_212 : decode code 212 = .ok (.iload 4, 2) := by decide +kernel
theorem dL_law_214 : decode code 214 = .ok (.iconst 2, 1) := by decide +kernel
theorem dL_law_215 : decode code 215 = .ok (.iadd, 1) := by decide +kernel
theorem dL_law_216 : decode code 216 = .ok (.iaload, 1) := by decide +kernel
theorem dL_law_217 : decode code 217 = .ok (.aload_n 0, 1) := by decide +kernel
theorem dL_law_218 : decode code 218 = .ok (.iload 4, 2) := by decide +kernel
theorem dL_law_220 : decode code 220 = .ok (.iconst 3, 1) := by decide +kernel
theorem dL_law_221 : decode code 221 = .ok (.iadd, 1) := by decide +kernel
theorem dL_law_222 : decode code 222 = .ok (.iaload, 1) := by decide +kernel
theorem dL_law_223 : decode code 223 = .ok (.invokevirtual 78, 3) := by decide +kernel
theorem dL_law_226 : decode code 226 = .ok (.aload_n 2, 1) := by decide +kernel
theorem dL_law_227 : decode code 227 = .ok (.invokevirtual 71, 3) := by decide +kernel
theorem dL_law_230 : decode code 230 = .ok (.iload 5, 2) := by decide +kernel
theorem dL_law_232 : decode code 232 = .ok (.if_icmp .eq 5, 3) := by decide +kernel
theorem dL_law_235 : decode code 235 = .ok (.iconst 0, 1) := by decide +kernel
theorem dL_law_236 : decode code 236 = .ok (.ireturn, 1) := by decide +kernel
theorem dL_law_237 : decode code 237 = .ok (.goto 873, 3) := by decide +kernel
theorem dL_law_240 : decode code 240 = .ok (.aload_n 1, 1) := by decide +kernel
theorem dL_law_241 : decode code 241 = .ok (.aload_n 0, 1) := by decide +kernel
theorem dL_law_242 : decode code 242 = .ok (.iload 4, 2) := by decide +kernel
theorem dL_law_244 : decode code 244 = .ok (.iconst 1, 1) := by decide +kernel
theorem dL_law_245 : decode code 245 = .ok (.iadd, 1) := by decide +kernel
theorem dL_law_246 : decode code 246 = .ok (.iaload, 1) := by decide +kernel
theorem dL_law_247 : decode code 247 = .ok (.aload_n 0, 1) := by decide +kernel
theorem dL_law_248 : decode code 248 = .ok (.iload 4, 2) := by decide +kernel
theorem dL_law_250 : decode code 250 = .ok (.iconst 2, 1) := by decide +kernel
theorem dL_law_251 : decode code 251 = .ok (.iadd, 1) := by decide +kernel
theorem dL_law_252 : decode code 252 = .ok (.iaload, 1) := by decide +kernel
theorem dL_law_253 : decode code 253 = .ok (.aload_n 0, 1) := by decide +kernel
theorem dL_law_254 : decode code 254 = .ok (.iload 4, 2) := by decide +kernel
theorem dL_law_256 : decode code 256 = .ok (.iconst 3, 1) := by decide +kernel
theorem dL_law_257 : decode code 257 = .ok (.iadd, 1) := by decide +kernel
theorem dL_law_258 : decode code 258 = .ok (.iaload, 1) := by decide +kernel
theorem dL_law_259 : decode code 259 = .ok (.ifCond .eq 7, 3) := by decide +kernel
theorem dL_law_262 : decode code 262 = .ok (.iconst 1, 1) := by decide +kernel
theorem dL_law_263 : decode code 263 = .ok (.goto 4, 3) := by decide +kernel
theorem dL_law_266 : decode code 266 = .ok (.iconst 0, 1) := by decide +kernel
theorem dL_law_267 : decode code 267 = .ok (.aload_n 3, 1) := by decide +kernel
theorem dL_law_268 : decode code 268 = .ok (.invokestatic 79, 3) := by decide +kernel
theorem dL_law_271 : decode code 271 = .ok (.istore 5, 2) := by decide +kernel
theorem dL_law_273 : decode code 273 = .ok (.aload_n 2, 1) := by decide +kernel
theorem dL_law_274 : decode code 274 = .ok (.aload_n 0, 1) := by decide +kernel
theorem dL_law_275 : decode code 275 = .ok (.iload 4, 2) := by decide +kernel
theorem dL_law_277 : decode code 277 = .ok (.iconst 1, 1) := by decide +kernel
theorem dL_law_278 : decode code 278 = .ok (.iadd, 1) := by decide +kernel
theorem dL_law_279 : decode code 279 = .ok (.iaload, 1) := by decide +kernel
theorem dL_law_280 : decode code 280 = .ok (.aload_n 0, 1) := by decide +kernel
theorem dL_law_281 : decode code 281 = .ok (.iload 4, 2) := by decide +kernel
theorem dL_law_283 : decode code 283 = .ok (.iconst 2, 1) := by decide +kernel
theorem dL_law_284 : decode code 284 = .ok (.iadd, 1) := by decide +kernel
theorem dL_law_285 : decode code 285 = .ok (.iaload, 1) := by decide +kernel
theorem dL_law_286 : decode code 286 = .ok (.aload_n 0, 1) := by decide +kernel
theorem dL_law_287 : decode code 287 = .ok (.iload 4, 2) := by decide +kernel
theorem dL_law_289 : decode code 289 = .ok (.iconst 3, 1) := by decide +kernel
theorem dL_law_290 : decode code 290 = .ok (.iadd, 1) := by decide +kernel
theorem dL_law_291 : decode code 291 = .ok (.iaload, 1) := by decide +kernel
theorem dL_law_292 : decode code 292 = .ok (.ifCond .eq 7, 3) := by decide +kernel
theorem dL_law_295 : decode code 295 = .ok (.iconst 1, 1) := by decide +kernel
theorem dL_law_296 : decode code 296 = .ok (.goto 4, 3) := by decide +kernel
theorem dL_law_299 : decode code 299 = .ok (.iconst 0, 1) := by decide +kernel
theorem dL_law_300 : decode code 300 = .ok (.invokevirtual 82, 3) := by decide +kernel
theorem dL_law_303 : decode code 303 = .ok (.istore 6, 2) := by decide +kernel
theorem dL_law_305 : decode code 305 = .ok (.aload_n 2, 1) := by decide +kernel
theorem dL_law_306 : decode code 306 = .ok (.invokevirtual 71, 3) := by decide +kernel
theorem dL_law_309 : decode code 309 = .ok (.iload 5, 2) := by decide +kernel
theorem dL_law_311 : decode code 311 = .ok (.if_icmp .eq 5, 3) := by decide +kernel
theorem dL_law_314 : decode code 314 = .ok (.iconst 0, 1) := by decide +kernel
theorem dL_law_315 : decode code 315 = .ok (.ireturn, 1) := by decide +kernel
theorem dL_law_316 : decode code 316 = .ok (.iload 5, 2) := by decide +kernel
theorem dL_law_318 : decode code 318 = .ok (.ifCond .ne 22, 3) := by decide +kernel
theorem dL_law_321 : decode code 321 = .ok (.aload_n 3, 1) := by decide +kernel
theorem dL_law_322 : decode code 322 = .ok (.iconst 0, 1) := by decide +kernel
theorem dL_law_323 : decode code 323 = .ok (.laload, 1) := by decide +kernel
theorem dL_law_324 : decode code 324 = .ok (.iload 6, 2) := by decide +kernel
theorem dL_law_326 : decode code 326 = .ok (.ifCond .eq 7, 3) := by decide +kernel
theorem dL_law_329 : decode code 329 = .ok (.lconst 1, 1) := by decide +kernel
theorem dL_law_330 : decode code 330 = .ok (.goto 4, 3) := by decide +kernel
theorem dL_law_333 : decode code 333 = .ok (.lconst 0, 1) := by decide +kernel
theorem dL_law_334 : decode code 334 = .ok (.lcmp, 1) := by decide +kernel
theorem dL_law_335 : decode code 335 = .ok (.ifCond .eq 5, 3) := by decide +kernel
theorem dL_law_338 : decode code 338 = .ok (.iconst 0, 1) := by decide +kernel
theorem dL_law_339 : decode code 339 = .ok (.ireturn, 1) := by decide +kernel
theorem dL_law_340 : decode code 340 = .ok (.goto 770, 3) := by decide +kernel
theorem dL_law_343 : decode code 343 = .ok (.aload_n 1, 1) := by decide +kernel
theorem dL_law_344 : decode code 344 = .ok (.aload_n 0, 1) := by decide +kernel
theorem dL_law_345 : decode code 345 = .ok (.iload 4, 2) := by decide +kernel
theorem dL_law_347 : decode code 347 = .ok (.iconst 1, 1) := by decide +kernel
theorem dL_law_348 : decode code 348 = .ok (.iadd, 1) := by decide +kernel
theorem dL_law_349 : decode code 349 = .ok (.iaload, 1) := by decide +kernel
theorem dL_law_350 : decode code 350 = .ok (.aload_n 0, 1) := by decide +kernel
theorem dL_law_351 : decode code 351 = .ok (.iload 4, 2) := by decide +kernel
theorem dL_law_353 : decode code 353 = .ok (.iconst 2, 1) := by decide +kernel
theorem dL_law_354 : decode code 354 = .ok (.iadd, 1) := by decide +kernel
theorem dL_law_355 : decode code 355 = .ok (.iaload, 1) := by decide +kernel
theorem dL_law_356 : decode code 356 = .ok (.aload_n 0, 1) := by decide +kernel
theorem dL_law_357 : decode code 357 = .ok (.iload 4, 2) := by decide +kernel
theorem dL_law_359 : decode code 359 = .ok (.iconst 3, 1) := by decide +kernel
theorem dL_law_360 : decode code 360 = .ok (.iadd, 1) := by decide +kernel
theorem dL_law_361 : decode code 361 = .ok (.iaload, 1) := by decide +kernel
theorem dL_law_362 : decode code 362 = .ok (.ifCond .eq 7, 3) := by decide +kernel
theorem dL_law_365 : decode code 365 = .ok (.iconst 1, 1) := by decide +kernel
theorem dL_law_366 : decode code 366 = .ok (.goto 4, 3) := by decide +kernel
theorem dL_law_369 : decode code 369 = .ok (.iconst 0, 1) := by decide +kernel
theorem dL_law_370 : decode code 370 = .ok (.aload_n 3, 1) := by decide +kernel
theorem dL_law_371 : decode code 371 = .ok (.invokestatic 83, 3) := by decide +kernel
theorem dL_law_374 : decode code 374 = .ok (.istore 5, 2) := by decide +kernel
theorem dL_law_376 : decode code 376 = .ok (.aload_n 2, 1) := by decide +kernel
theorem dL_law_377 : decode code 377 = .ok (.aload_n 0, 1) := by decide +kernel
theorem dL_law_378 : decode code 378 = .ok (.iload 4, 2) := by decide +kernel
theorem dL_law_380 : decode code 380 = .ok (.iconst 1, 1) := by decide +kernel
theorem dL_law_381 : decode code 381 = .ok (.iadd, 1) := by decide +kernel
theorem dL_law_382 : decode code 382 = .ok (.iaload, 1) := by decide +kernel
theorem dL_law_383 : decode code 383 = .ok (.aload_n 0, 1) := by decide +kernel
theorem dL_law_384 : decode code 384 = .ok (.iload 4, 2) := by decide +kernel
theorem dL_law_386 : decode code 386 = .ok (.iconst 2, 1) := by decide +kernel
theorem dL_law_387 : decode code 387 = .ok (.iadd, 1) := by decide +kernel
theorem dL_law_388 : decode code 388 = .ok (.iaload, 1) := by decide +kernel
theorem dL_law_389 : decode code 389 = .ok (.aload_n 0, 1) := by decide +kernel
theorem dL_law_390 : decode code 390 = .ok (.iload 4, 2) := by decide +kernel
theorem dL_law_392 : decode code 392 = .ok (.iconst 3, 1) := by decide +kernel
theorem dL_law_393 : decode code 393 = .ok (.iadd, 1) := by decide +kernel
theorem dL_law_394 : decode code 394 = .ok (.iaload, 1) := by decide +kernel
theorem dL_law_395 : decode code 395 = .ok (.ifCond .eq 7, 3) := by decide +kernel
theorem dL_law_398 : decode code 398 = .ok (.iconst 1, 1) := by decide +kernel
theorem dL_law_399 : decode code 399 = .ok (.goto 4, 3) := by decide +kernel
theorem dL_law_402 : decode code 402 = .ok (.iconst 0, 1) := by decide +kernel
theorem dL_law_403 : decode code 403 = .ok (.invokevirtual 85, 3) := by decide +kernel
theorem dL_law_406 : decode code 406 = .ok (.istore 6, 2) := by decide +kernel
theorem dL_law_408 : decode code 408 = .ok (.aload_n 2, 1) := by decide +kernel
theorem dL_law_409 : decode code 409 = .ok (.invokevirtual 71, 3) := by decide +kernel
theorem dL_law_412 : decode code 412 = .ok (.iload 5, 2) := by decide +kernel
theorem dL_law_414 : decode code 414 = .ok (.if_icmp .eq 5, 3) := by decide +kernel
theorem dL_law_417 : decode code 417 = .ok (.iconst 0, 1) := by decide +kernel
theorem dL_law_418 : decode code 418 = .ok (.ireturn, 1) := by decide +kernel
theorem dL_law_419 : decode code 419 = .ok (.iload 5, 2) := by decide +kernel
theorem dL_law_421 : decode code 421 = .ok (.ifCond .ne 22, 3) := by decide +kernel
theorem dL_law_424 : decode code 424 = .ok (.aload_n 3, 1) := by decide +kernel
theorem dL_law_425 : decode code 425 = .ok (.iconst 0, 1) := by decide +kernel
theorem dL_law_426 : decode code 426 = .ok (.laload, 1) := by decide +kernel
theorem dL_law_427 : decode code 427 = .ok (.iload 6, 2) := by decide +kernel
theorem dL_law_429 : decode code 429 = .ok (.ifCond .eq 7, 3) := by decide +kernel
theorem dL_law_432 : decode code 432 = .ok (.lconst 1, 1) := by decide +kernel
theorem dL_law_433 : decode code 433 = .ok (.goto 4, 3) := by decide +kernel
theorem dL_law_436 : decode code 436 = .ok (.lconst 0, 1) := by decide +kernel
theorem dL_law_437 : decode code 437 = .ok (.lcmp, 1) := by decide +kernel
theorem dL_law_438 : decode code 438 = .ok (.ifCond .eq 5, 3) := by decide +kernel
theorem dL_law_441 : decode code 441 = .ok (.iconst 0, 1) := by decide +kernel
theorem dL_law_442 : decode code 442 = .ok (.ireturn, 1) := by decide +kernel
theorem dL_law_443 : decode code 443 = .ok (.goto 667, 3) := by decide +kernel
theorem dL_law_446 : decode code 446 = .ok (.aload_n 1, 1) := by decide +kernel
theorem dL_law_447 : decode code 447 = .ok (.aload_n 0, 1) := by decide +kernel
theorem dL_law_448 : decode code 448 = .ok (.iload 4, 2) := by decide +kernel
theorem dL_law_450 : decode code 450 = .ok (.iconst 1, 1) := by decide +kernel
theorem dL_law_451 : decode code 451 = .ok (.iadd, 1) := by decide +kernel
theorem dL_law_452 : decode code 452 = .ok (.iaload, 1) := by decide +kernel
theorem dL_law_453 : decode code 453 = .ok (.aload_n 0, 1) := by decide +kernel
theorem dL_law_454 : decode code 454 = .ok (.iload 4, 2) := by decide +kernel
theorem dL_law_456 : decode code 456 = .ok (.iconst 2, 1) := by decide +kernel
theorem dL_law_457 : decode code 457 = .ok (.iadd, 1) := by decide +kernel
theorem dL_law_458 : decode code 458 = .ok (.iaload, 1) := by decide +kernel
theorem dL_law_459 : decode code 459 = .ok (.aload_n 0, 1) := by decide +kernel
theorem dL_law_460 : decode code 460 = .ok (.iload 4, 2) := by decide +kernel
theorem dL_law_462 : decode code 462 = .ok (.iconst 3, 1) := by decide +kernel
theorem dL_law_463 : decode code 463 = .ok (.iadd, 1) := by decide +kernel
theorem dL_law_464 : decode code 464 = .ok (.iaload, 1) := by decide +kernel
theorem dL_law_465 : decode code 465 = .ok (.aload_n 3, 1) := by decide +kernel
theorem dL_law_466 : decode code 466 = .ok (.invokestatic 86, 3) := by decide +kernel
theorem dL_law_469 : decode code 469 = .ok (.istore 5, 2) := by decide +kernel
theorem dL_law_471 : decode code 471 = .ok (.aload_n 2, 1) := by decide +kernel
theorem dL_law_472 : decode code 472 = .ok (.aload_n 0, 1) := by decide +kernel
theorem dL_law_473 : decode code 473 = .ok (.iload 4, 2) := by decide +kernel
theorem dL_law_475 : decode code 475 = .ok (.iconst 1, 1) := by decide +kernel
theorem dL_law_476 : decode code 476 = .ok (.iadd, 1) := by decide +kernel
theorem dL_law_477 : decode code 477 = .ok (.iaload, 1) := by decide +kernel
theorem dL_law_478 : decode code 478 = .ok (.aload_n 0, 1) := by decide +kernel
theorem dL_law_479 : decode code 479 = .ok (.iload 4, 2) := by decide +kernel
theorem dL_law_481 : decode code 481 = .ok (.iconst 2, 1) := by decide +kernel
theorem dL_law_482 : decode code 482 = .ok (.iadd, 1) := by decide +kernel
theorem dL_law_483 : decode code 483 = .ok (.iaload, 1) := by decide +kernel
theorem dL_law_484 : decode code 484 = .ok (.aload_n 0, 1) := by decide +kernel
theorem dL_law_485 : decode code 485 = .ok (.iload 4, 2) := by decide +kernel
theorem dL_law_487 : decode code 487 = .ok (.iconst 3, 1) := by decide +kernel
theorem dL_law_488 : decode code 488 = .ok (.iadd, 1) := by decide +kernel
theorem dL_law_489 : decode code 489 = .ok (.iaload, 1) := by decide +kernel
theorem dL_law_490 : decode code 490 = .ok (.invokevirtual 89, 3) := by decide +kernel
theorem dL_law_493 : decode code 493 = .ok (.istore 6, 2) := by decide +kernel
theorem dL_law_495 : decode code 495 = .ok (.aload_n 2, 1) := by decide +kernel
theorem dL_law_496 : decode code 496 = .ok (.invokevirtual 71, 3) := by decide +kernel
theorem dL_law_499 : decode code 499 = .ok (.iload 5, 2) := by decide +kernel
theorem dL_law_501 : decode code 501 = .ok (.if_icmp .eq 5, 3) := by decide +kernel
theorem dL_law_504 : decode code 504 = .ok (.iconst 0, 1) := by decide +kernel
theorem dL_law_505 : decode code 505 = .ok (.ireturn, 1) := by decide +kernel
theorem dL_law_506 : decode code 506 = .ok (.iload 5, 2) := by decide +kernel
theorem dL_law_508 : decode code 508 = .ok (.ifCond .ne 15, 3) := by decide +kernel
theorem dL_law_511 : decode code 511 = .ok (.aload_n 3, 1) := by decide +kernel
theorem dL_law_512 : decode code 512 = .ok (.iconst 0, 1) := by decide +kernel
theorem dL_law_513 : decode code 513 = .ok (.laload, 1) := by decide +kernel
theorem dL_law_514 : decode code 514 = .ok (.iload 6, 2) := by decide +kernel
theorem dL_law_516 : decode code 516 = .ok (.i2l, 1) := by decide +kernel
theorem dL_law_517 : decode code 517 = .ok (.lcmp, 1) := by decide +kernel
theorem dL_law_518 : decode code 518 = .ok (.ifCond .eq 5, 3) := by decide +kernel
theorem dL_law_521 : decode code 521 = .ok (.iconst 0, 1) := by decide +kernel
theorem dL_law_522 : decode code 522 = .ok (.ireturn, 1) := by decide +kernel
theorem dL_law_523 : decode code 523 = .ok (.goto 587, 3) := by decide +kernel
theorem dL_law_526 : decode code 526 = .ok (.aload_n 1, 1) := by decide +kernel
theorem dL_law_527 : decode code 527 = .ok (.aload_n 0, 1) := by decide +kernel
theorem dL_law_528 : decode code 528 = .ok (.iload 4, 2) := by decide +kernel
theorem dL_law_530 : decode code 530 = .ok (.iconst 1, 1) := by decide +kernel
theorem dL_law_531 : decode code 531 = .ok (.iadd, 1) := by decide +kernel
theorem dL_law_532 : decode code 532 = .ok (.iaload, 1) := by decide +kernel
theorem dL_law_533 : decode code 533 = .ok (.aload_n 3, 1) := by decide +kernel
theorem dL_law_534 : decode code 534 = .ok (.invokestatic 90, 3) := by decide +kernel
theorem dL_law_537 : decode code 537 = .ok (.istore 5, 2) := by decide +kernel
theorem dL_law_539 : decode code 539 = .ok (.aload_n 2, 1) := by decide +kernel
theorem dL_law_540 : decode code 540 = .ok (.aload_n 0, 1) := by decide +kernel
theorem dL_law_541 : decode code 541 = .ok (.iload 4, 2) := by decide +kernel
theorem dL_law_543 : decode code 543 = .ok (.iconst 1, 1) := by decide +kernel
theorem dL_law_544 : decode code 544 = .ok (.iadd, 1) := by decide +kernel
theorem dL_law_545 : decode code 545 = .ok (.iaload, 1) := by decide +kernel
theorem dL_law_546 : decode code 546 = .ok (.invokevirtual 93, 3) := by decide +kernel
theorem dL_law_549 : decode code 549 = .ok (.istore 6, 2) := by decide +kernel
theorem dL_law_551 : decode code 551 = .ok (.aload_n 2, 1) := by decide +kernel
theorem dL_law_552 : decode code 552 = .ok (.invokevirtual 71, 3) := by decide +kernel
theorem dL_law_555 : decode code 555 = .ok (.iload 5, 2) := by decide +kernel
theorem dL_law_557 : decode code 557 = .ok (.if_icmp .eq 5, 3) := by decide +kernel
theorem dL_law_560 : decode code 560 = .ok (.iconst 0, 1) := by decide +kernel
theorem dL_law_561 : decode code 561 = .ok (.ireturn, 1) := by decide +kernel
theorem dL_law_562 : decode code 562 = .ok (.iload 5, 2) := by decide +kernel
theorem dL_law_564 : decode code 564 = .ok (.ifCond .ne 22, 3) := by decide +kernel
theorem dL_law_567 : decode code 567 = .ok (.aload_n 3, 1) := by decide +kernel
theorem dL_law_568 : decode code 568 = .ok (.iconst 0, 1) := by decide +kernel
theorem dL_law_569 : decode code 569 = .ok (.laload, 1) := by decide +kernel
theorem dL_law_570 : decode code 570 = .ok (.iload 6, 2) := by decide +kernel
theorem dL_law_572 : decode code 572 = .ok (.ifCond .eq 7, 3) := by decide +kernel
theorem dL_law_575 : decode code 575 = .ok (.lconst 1, 1) := by decide +kernel
theorem dL_law_576 : decode code 576 = .ok (.goto 4, 3) := by decide +kernel
theorem dL_law_579 : decode code 579 = .ok (.lconst 0, 1) := by decide +kernel
theorem dL_law_580 : decode code 580 = .ok (.lcmp, 1) := by decide +kernel
theorem dL_law_581 : decode code 581 = .ok (.ifCond .eq 5, 3) := by decide +kernel
theorem dL_law_584 : decode code 584 = .ok (.iconst 0, 1) := by decide +kernel
theorem dL_law_585 : decode code 585 = .ok (.ireturn, 1) := by decide +kernel
theorem dL_law_586 : decode code 586 = .ok (.goto 524, 3) := by decide +kernel
theorem dL_law_589 : decode code 589 = .ok (.aload_n 1, 1) := by decide +kernel
theorem dL_law_590 : decode code 590 = .ok (.aload_n 0, 1) := by decide +kernel
theorem dL_law_591 : decode code 591 = .ok (.iload 4, 2) := by decide +kernel
theorem dL_law_593 : decode code 593 = .ok (.iconst 1, 1) := by decide +kernel
theorem dL_law_594 : decode code 594 = .ok (.iadd, 1) := by decide +kernel
theorem dL_law_595 : decode code 595 = .ok (.iaload, 1) := by decide +kernel
theorem dL_law_596 : decode code 596 = .ok (.aload_n 0, 1) := by decide +kernel
theorem dL_law_597 : decode code 597 = .ok (.iload 4, 2) := by decide +kernel
theorem dL_law_599 : decode code 599 = .ok (.iconst 2, 1) := by decide +kernel
theorem dL_law_600 : decode code 600 = .ok (.iadd, 1) := by decide +kernel
theorem dL_law_601 : decode code 601 = .ok (.iaload, 1) := by decide +kernel
theorem dL_law_602 : decode code 602 = .ok (.aload_n 3, 1) := by decide +kernel
theorem dL_law_603 : decode code 603 = .ok (.invokestatic 94, 3) := by decide +kernel
theorem dL_law_606 : decode code 606 = .ok (.istore 5, 2) := by decide +kernel
theorem dL_law_608 : decode code 608 = .ok (.aload_n 2, 1) := by decide +kernel
theorem dL_law_609 : decode code 609 = .ok (.aload_n 0, 1) := by decide +kernel
theorem dL_law_610 : decode code 610 = .ok (.iload 4, 2) := by decide +kernel
theorem dL_law_612 : decode code 612 = .ok (.iconst 1, 1) := by decide +kernel
theorem dL_law_613 : decode code 613 = .ok (.iadd, 1) := by decide +kernel
theorem dL_law_614 : decode code 614 = .ok (.iaload, 1) := by decide +kernel
theorem dL_law_615 : decode code 615 = .ok (.aload_n 0, 1) := by decide +kernel
theorem dL_law_616 : decode code 616 = .ok (.iload 4, 2) := by decide +kernel
theorem dL_law_618 : decode code 618 = .ok (.iconst 2, 1) := by decide +kernel
theorem dL_law_619 : decode code 619 = .ok (.iadd, 1) := by decide +kernel
theorem dL_law_620 : decode code 620 = .ok (.iaload, 1) := by decide +kernel
theorem dL_law_621 : decode code 621 = .ok (.invokevirtual 96, 3) := by decide +kernel
theorem dL_law_624 : decode code 624 = .ok (.istore 6, 2) := by decide +kernel
theorem dL_law_626 : decode code 626 = .ok (.aload_n 2, 1) := by decide +kernel
theorem dL_law_627 : decode code 627 = .ok (.invokevirtual 71, 3) := by decide +kernel
theorem dL_law_630 : decode code 630 = .ok (.iload 5, 2) := by decide +kernel
theorem dL_law_632 : decode code 632 = .ok (.if_icmp .eq 5, 3) := by decide +kernel
theorem dL_law_635 : decode code 635 = .ok (.iconst 0, 1) := by decide +kernel
theorem dL_law_636 : decode code 636 = .ok (.ireturn, 1) := by decide +kernel
theorem dL_law_637 : decode code 637 = .ok (.iload 5, 2) := by decide +kernel
theorem dL_law_639 : decode code 639 = .ok (.ifCond .ne 15, 3) := by decide +kernel
theorem dL_law_642 : decode code 642 = .ok (.aload_n 3, 1) := by decide +kernel
theorem dL_law_643 : decode code 643 = .ok (.iconst 0, 1) := by decide +kernel
theorem dL_law_644 : decode code 644 = .ok (.laload, 1) := by decide +kernel
theorem dL_law_645 : decode code 645 = .ok (.iload 6, 2) := by decide +kernel
theorem dL_law_647 : decode code 647 = .ok (.i2l, 1) := by decide +kernel
theorem dL_law_648 : decode code 648 = .ok (.lcmp, 1) := by decide +kernel
theorem dL_law_649 : decode code 649 = .ok (.ifCond .eq 5, 3) := by decide +kernel
theorem dL_law_652 : decode code 652 = .ok (.iconst 0, 1) := by decide +kernel
theorem dL_law_653 : decode code 653 = .ok (.ireturn, 1) := by decide +kernel
theorem dL_law_654 : decode code 654 = .ok (.goto 456, 3) := by decide +kernel
theorem dL_law_657 : decode code 657 = .ok (.aload_n 1, 1) := by decide +kernel
theorem dL_law_658 : decode code 658 = .ok (.aload_n 0, 1) := by decide +kernel
theorem dL_law_659 : decode code 659 = .ok (.iload 4, 2) := by decide +kernel
theorem dL_law_661 : decode code 661 = .ok (.iconst 1, 1) := by decide +kernel
theorem dL_law_662 : decode code 662 = .ok (.iadd, 1) := by decide +kernel
theorem dL_law_663 : decode code 663 = .ok (.iaload, 1) := by decide +kernel
theorem dL_law_664 : decode code 664 = .ok (.aload_n 3, 1) := by decide +kernel
theorem dL_law_665 : decode code 665 = .ok (.invokestatic 97, 3) := by decide +kernel
theorem dL_law_668 : decode code 668 = .ok (.istore 5, 2) := by decide +kernel
theorem dL_law_670 : decode code 670 = .ok (.aload_n 2, 1) := by decide +kernel
theorem dL_law_671 : decode code 671 = .ok (.aload_n 0, 1) := by decide +kernel
theorem dL_law_672 : decode code 672 = .ok (.iload 4, 2) := by decide +kernel
theorem dL_law_674 : decode code 674 = .ok (.iconst 1, 1) := by decide +kernel
theorem dL_law_675 : decode code 675 = .ok (.iadd, 1) := by decide +kernel
theorem dL_law_676 : decode code 676 = .ok (.iaload, 1) := by decide +kernel
theorem dL_law_677 : decode code 677 = .ok (.invokevirtual 99, 3) := by decide +kernel
theorem dL_law_680 : decode code 680 = .ok (.istore 6, 2) := by decide +kernel
theorem dL_law_682 : decode code 682 = .ok (.aload_n 2, 1) := by decide +kernel
theorem dL_law_683 : decode code 683 = .ok (.invokevirtual 71, 3) := by decide +kernel
theorem dL_law_686 : decode code 686 = .ok (.iload 5, 2) := by decide +kernel
theorem dL_law_688 : decode code 688 = .ok (.if_icmp .eq 5, 3) := by decide +kernel
theorem dL_law_691 : decode code 691 = .ok (.iconst 0, 1) := by decide +kernel
theorem dL_law_692 : decode code 692 = .ok (.ireturn, 1) := by decide +kernel
theorem dL_law_693 : decode code 693 = .ok (.iload 5, 2) := by decide +kernel
theorem dL_law_695 : decode code 695 = .ok (.ifCond .ne 15, 3) := by decide +kernel
theorem dL_law_698 : decode code 698 = .ok (.aload_n 3, 1) := by decide +kernel
theorem dL_law_699 : decode code 699 = .ok (.iconst 0, 1) := by decide +kernel
theorem dL_law_700 : decode code 700 = .ok (.laload, 1) := by decide +kernel
theorem dL_law_701 : decode code 701 = .ok (.iload 6, 2) := by decide +kernel
theorem dL_law_703 : decode code 703 = .ok (.i2l, 1) := by decide +kernel
theorem dL_law_704 : decode code 704 = .ok (.lcmp, 1) := by decide +kernel
theorem dL_law_705 : decode code 705 = .ok (.ifCond .eq 5, 3) := by decide +kernel
theorem dL_law_708 : decode code 708 = .ok (.iconst 0, 1) := by decide +kernel
theorem dL_law_709 : decode code 709 = .ok (.ireturn, 1) := by decide +kernel
theorem dL_law_710 : decode code 710 = .ok (.goto 400, 3) := by decide +kernel
theorem dL_law_713 : decode code 713 = .ok (.aload_n 1, 1) := by decide +kernel
theorem dL_law_714 : decode code 714 = .ok (.aload_n 0, 1) := by decide +kernel
theorem dL_law_715 : decode code 715 = .ok (.iload 4, 2) := by decide +kernel
theorem dL_law_717 : decode code 717 = .ok (.iconst 1, 1) := by decide +kernel
theorem dL_law_718 : decode code 718 = .ok (.iadd, 1) := by decide +kernel
theorem dL_law_719 : decode code 719 = .ok (.iaload, 1) := by decide +kernel
theorem dL_law_720 : decode code 720 = .ok (.aload_n 3, 1) := by decide +kernel
theorem dL_law_721 : decode code 721 = .ok (.invokestatic 100, 3) := by decide +kernel
theorem dL_law_724 : decode code 724 = .ok (.istore 5, 2) := by decide +kernel
theorem dL_law_726 : decode code 726 = .ok (.aload_n 2, 1) := by decide +kernel
theorem dL_law_727 : decode code 727 = .ok (.aload_n 0, 1) := by decide +kernel
theorem dL_law_728 : decode code 728 = .ok (.iload 4, 2) := by decide +kernel
theorem dL_law_730 : decode code 730 = .ok (.iconst 1, 1) := by decide +kernel
theorem dL_law_731 : decode code 731 = .ok (.iadd, 1) := by decide +kernel
theorem dL_law_732 : decode code 732 = .ok (.iaload, 1) := by decide +kernel
theorem dL_law_733 : decode code 733 = .ok (.invokevirtual 102, 3) := by decide +kernel
theorem dL_law_736 : decode code 736 = .ok (.istore 6, 2) := by decide +kernel
theorem dL_law_738 : decode code 738 = .ok (.aload_n 2, 1) := by decide +kernel
theorem dL_law_739 : decode code 739 = .ok (.invokevirtual 71, 3) := by decide +kernel
theorem dL_law_742 : decode code 742 = .ok (.iload 5, 2) := by decide +kernel
theorem dL_law_744 : decode code 744 = .ok (.if_icmp .eq 5, 3) := by decide +kernel
theorem dL_law_747 : decode code 747 = .ok (.iconst 0, 1) := by decide +kernel
theorem dL_law_748 : decode code 748 = .ok (.ireturn, 1) := by decide +kernel
theorem dL_law_749 : decode code 749 = .ok (.iload 5, 2) := by decide +kernel
theorem dL_law_751 : decode code 751 = .ok (.ifCond .ne 15, 3) := by decide +kernel
theorem dL_law_754 : decode code 754 = .ok (.aload_n 3, 1) := by decide +kernel
theorem dL_law_755 : decode code 755 = .ok (.iconst 0, 1) := by decide +kernel
theorem dL_law_756 : decode code 756 = .ok (.laload, 1) := by decide +kernel
theorem dL_law_757 : decode code 757 = .ok (.iload 6, 2) := by decide +kernel
theorem dL_law_759 : decode code 759 = .ok (.i2l, 1) := by decide +kernel
theorem dL_law_760 : decode code 760 = .ok (.lcmp, 1) := by decide +kernel
theorem dL_law_761 : decode code 761 = .ok (.ifCond .eq 5, 3) := by decide +kernel
theorem dL_law_764 : decode code 764 = .ok (.iconst 0, 1) := by decide +kernel
theorem dL_law_765 : decode code 765 = .ok (.ireturn, 1) := by decide +kernel
theorem dL_law_766 : decode code 766 = .ok (.goto 344, 3) := by decide +kernel
theorem dL_law_769 : decode code 769 = .ok (.aload_n 1, 1) := by decide +kernel
theorem dL_law_770 : decode code 770 = .ok (.aload_n 0, 1) := by decide +kernel
theorem dL_law_771 : decode code 771 = .ok (.iload 4, 2) := by decide +kernel
theorem dL_law_773 : decode code 773 = .ok (.iconst 1, 1) := by decide +kernel
theorem dL_law_774 : decode code 774 = .ok (.iadd, 1) := by decide +kernel
theorem dL_law_775 : decode code 775 = .ok (.iaload, 1) := by decide +kernel
theorem dL_law_776 : decode code 776 = .ok (.invokevirtual 103, 3) := by decide +kernel
theorem dL_law_779 : decode code 779 = .ok (.aload_n 2, 1) := by decide +kernel
theorem dL_law_780 : decode code 780 = .ok (.aload_n 0, 1) := by decide +kernel
theorem dL_law_781 : decode code 781 = .ok (.iload 4, 2) := by decide +kernel
theorem dL_law_783 : decode code 783 = .ok (.iconst 1, 1) := by decide +kernel
theorem dL_law_784 : decode code 784 = .ok (.iadd, 1) := by decide +kernel
theorem dL_law_785 : decode code 785 = .ok (.iaload, 1) := by decide +kernel
theorem dL_law_786 : decode code 786 = .ok (.invokevirtual 106, 3) := by decide +kernel
theorem dL_law_789 : decode code 789 = .ok (.if_icmp .eq 321, 3) := by decide +kernel
theorem dL_law_792 : decode code 792 = .ok (.iconst 0, 1) := by decide +kernel
theorem dL_law_793 : decode code 793 = .ok (.ireturn, 1) := by decide +kernel
theorem dL_law_794 : decode code 794 = .ok (.aload_n 1, 1) := by decide +kernel
theorem dL_law_795 : decode code 795 = .ok (.aload_n 0, 1) := by decide +kernel
theorem dL_law_796 : decode code 796 = .ok (.iload 4, 2) := by decide +kernel
theorem dL_law_798 : decode code 798 = .ok (.iconst 1, 1) := by decide +kernel
theorem dL_law_799 : decode code 799 = .ok (.iadd, 1) := by decide +kernel
theorem dL_law_800 : decode code 800 = .ok (.iaload, 1) := by decide +kernel
theorem dL_law_801 : decode code 801 = .ok (.aload_n 0, 1) := by decide +kernel
theorem dL_law_802 : decode code 802 = .ok (.iload 4, 2) := by decide +kernel
theorem dL_law_804 : decode code 804 = .ok (.iconst 2, 1) := by decide +kernel
theorem dL_law_805 : decode code 805 = .ok (.iadd, 1) := by decide +kernel
theorem dL_law_806 : decode code 806 = .ok (.iaload, 1) := by decide +kernel
theorem dL_law_807 : decode code 807 = .ok (.aload_n 3, 1) := by decide +kernel
theorem dL_law_808 : decode code 808 = .ok (.invokestatic 107, 3) := by decide +kernel
theorem dL_law_811 : decode code 811 = .ok (.istore 5, 2) := by decide +kernel
theorem dL_law_813 : decode code 813 = .ok (.aload_n 2, 1) := by decide +kernel
theorem dL_law_814 : decode code 814 = .ok (.aload_n 0, 1) := by decide +kernel
theorem dL_law_815 : decode code 815 = .ok (.iload 4, 2) := by decide +kernel
theorem dL_law_817 : decode code 817 = .ok (.iconst 1, 1) := by decide +kernel
theorem dL_law_818 : decode code 818 = .ok (.iadd, 1) := by decide +kernel
theorem dL_law_819 : decode code 819 = .ok (.iaload, 1) := by decide +kernel
theorem dL_law_820 : decode code 820 = .ok (.aload_n 0, 1) := by decide +kernel
theorem dL_law_821 : decode code 821 = .ok (.iload 4, 2) := by decide +kernel
theorem dL_law_823 : decode code 823 = .ok (.iconst 2, 1) := by decide +kernel
theorem dL_law_824 : decode code 824 = .ok (.iadd, 1) := by decide +kernel
theorem dL_law_825 : decode code 825 = .ok (.iaload, 1) := by decide +kernel
theorem dL_law_826 : decode code 826 = .ok (.invokevirtual 109, 3) := by decide +kernel
theorem dL_law_829 : decode code 829 = .ok (.istore 6, 2) := by decide +kernel
theorem dL_law_831 : decode code 831 = .ok (.aload_n 2, 1) := by decide +kernel
theorem dL_law_832 : decode code 832 = .ok (.invokevirtual 71, 3) := by decide +kernel
theorem dL_law_835 : decode code 835 = .ok (.iload 5, 2) := by decide +kernel
theorem dL_law_837 : decode code 837 = .ok (.if_icmp .eq 5, 3) := by decide +kernel
theorem dL_law_840 : decode code 840 = .ok (.iconst 0, 1) := by decide +kernel
theorem dL_law_841 : decode code 841 = .ok (.ireturn, 1) := by decide +kernel
theorem dL_law_842 : decode code 842 = .ok (.iload 5, 2) := by decide +kernel
theorem dL_law_844 : decode code 844 = .ok (.ifCond .ne 15, 3) := by decide +kernel
theorem dL_law_847 : decode code 847 = .ok (.aload_n 3, 1) := by decide +kernel
theorem dL_law_848 : decode code 848 = .ok (.iconst 0, 1) := by decide +kernel
theorem dL_law_849 : decode code 849 = .ok (.laload, 1) := by decide +kernel
theorem dL_law_850 : decode code 850 = .ok (.iload 6, 2) := by decide +kernel
theorem dL_law_852 : decode code 852 = .ok (.i2l, 1) := by decide +kernel
theorem dL_law_853 : decode code 853 = .ok (.lcmp, 1) := by decide +kernel
theorem dL_law_854 : decode code 854 = .ok (.ifCond .eq 5, 3) := by decide +kernel
theorem dL_law_857 : decode code 857 = .ok (.iconst 0, 1) := by decide +kernel
theorem dL_law_858 : decode code 858 = .ok (.ireturn, 1) := by decide +kernel
theorem dL_law_859 : decode code 859 = .ok (.goto 251, 3) := by decide +kernel
theorem dL_law_862 : decode code 862 = .ok (.aload_n 1, 1) := by decide +kernel
theorem dL_law_863 : decode code 863 = .ok (.aload_n 0, 1) := by decide +kernel
theorem dL_law_864 : decode code 864 = .ok (.iload 4, 2) := by decide +kernel
theorem dL_law_866 : decode code 866 = .ok (.iconst 1, 1) := by decide +kernel
theorem dL_law_867 : decode code 867 = .ok (.iadd, 1) := by decide +kernel
theorem dL_law_868 : decode code 868 = .ok (.iaload, 1) := by decide +kernel
theorem dL_law_869 : decode code 869 = .ok (.aload_n 3, 1) := by decide +kernel
theorem dL_law_870 : decode code 870 = .ok (.invokestatic 110, 3) := by decide +kernel
theorem dL_law_873 : decode code 873 = .ok (.istore 5, 2) := by decide +kernel
theorem dL_law_875 : decode code 875 = .ok (.aload_n 2, 1) := by decide +kernel
theorem dL_law_876 : decode code 876 = .ok (.aload_n 0, 1) := by decide +kernel
theorem dL_law_877 : decode code 877 = .ok (.iload 4, 2) := by decide +kernel
theorem dL_law_879 : decode code 879 = .ok (.iconst 1, 1) := by decide +kernel
theorem dL_law_880 : decode code 880 = .ok (.iadd, 1) := by decide +kernel
theorem dL_law_881 : decode code 881 = .ok (.iaload, 1) := by decide +kernel
theorem dL_law_882 : decode code 882 = .ok (.invokevirtual 112, 3) := by decide +kernel
theorem dL_law_885 : decode code 885 = .ok (.istore 6, 2) := by decide +kernel
theorem dL_law_887 : decode code 887 = .ok (.aload_n 2, 1) := by decide +kernel
theorem dL_law_888 : decode code 888 = .ok (.invokevirtual 71, 3) := by decide +kernel
theorem dL_law_891 : decode code 891 = .ok (.iload 5, 2) := by decide +kernel
theorem dL_law_893 : decode code 893 = .ok (.if_icmp .eq 5, 3) := by decide +kernel
theorem dL_law_896 : decode code 896 = .ok (.iconst 0, 1) := by decide +kernel
theorem dL_law_897 : decode code 897 = .ok (.ireturn, 1) := by decide +kernel
theorem dL_law_898 : decode code 898 = .ok (.iload 5, 2) := by decide +kernel
theorem dL_law_900 : decode code 900 = .ok (.ifCond .ne 15, 3) := by decide +kernel
theorem dL_law_903 : decode code 903 = .ok (.aload_n 3, 1) := by decide +kernel
theorem dL_law_904 : decode code 904 = .ok (.iconst 0, 1) := by decide +kernel
theorem dL_law_905 : decode code 905 = .ok (.laload, 1) := by decide +kernel
theorem dL_law_906 : decode code 906 = .ok (.iload 6, 2) := by decide +kernel
theorem dL_law_908 : decode code 908 = .ok (.i2l, 1) := by decide +kernel
theorem dL_law_909 : decode code 909 = .ok (.lcmp, 1) := by decide +kernel
theorem dL_law_910 : decode code 910 = .ok (.ifCond .eq 5, 3) := by decide +kernel
theorem dL_law_913 : decode code 913 = .ok (.iconst 0, 1) := by decide +kernel
theorem dL_law_914 : decode code 914 = .ok (.ireturn, 1) := by decide +kernel
theorem dL_law_915 : decode code 915 = .ok (.goto 195, 3) := by decide +kernel
theorem dL_law_918 : decode code 918 = .ok (.aload_n 1, 1) := by decide +kernel
theorem dL_law_919 : decode code 919 = .ok (.aload_n 0, 1) := by decide +kernel
theorem dL_law_920 : decode code 920 = .ok (.iload 4, 2) := by decide +kernel
theorem dL_law_922 : decode code 922 = .ok (.iconst 1, 1) := by decide +kernel
theorem dL_law_923 : decode code 923 = .ok (.iadd, 1) := by decide +kernel
theorem dL_law_924 : decode code 924 = .ok (.iaload, 1) := by decide +kernel
theorem dL_law_925 : decode code 925 = .ok (.aload_n 0, 1) := by decide +kernel
theorem dL_law_926 : decode code 926 = .ok (.iload 4, 2) := by decide +kernel
theorem dL_law_928 : decode code 928 = .ok (.iconst 2, 1) := by decide +kernel
theorem dL_law_929 : decode code 929 = .ok (.iadd, 1) := by decide +kernel
theorem dL_law_930 : decode code 930 = .ok (.iaload, 1) := by decide +kernel
theorem dL_law_931 : decode code 931 = .ok (.aload_n 3, 1) := by decide +kernel
theorem dL_law_932 : decode code 932 = .ok (.invokestatic 113, 3) := by decide +kernel
theorem dL_law_935 : decode code 935 = .ok (.istore 5, 2) := by decide +kernel
theorem dL_law_937 : decode code 937 = .ok (.aload_n 2, 1) := by decide +kernel
theorem dL_law_938 : decode code 938 = .ok (.aload_n 0, 1) := by decide +kernel
theorem dL_law_939 : decode code 939 = .ok (.iload 4, 2) := by decide +kernel
theorem dL_law_941 : decode code 941 = .ok (.iconst 1, 1) := by decide +kernel
theorem dL_law_942 : decode code 942 = .ok (.iadd, 1) := by decide +kernel
theorem dL_law_943 : decode code 943 = .ok (.iaload, 1) := by decide +kernel
theorem dL_law_944 : decode code 944 = .ok (.aload_n 0, 1) := by decide +kernel
theorem dL_law_945 : decode code 945 = .ok (.iload 4, 2) := by decide +kernel
theorem dL_law_947 : decode code 947 = .ok (.iconst 2, 1) := by decide +kernel
theorem dL_law_948 : decode code 948 = .ok (.iadd, 1) := by decide +kernel
theorem dL_law_949 : decode code 949 = .ok (.iaload, 1) := by decide +kernel
theorem dL_law_950 : decode code 950 = .ok (.invokevirtual 115, 3) := by decide +kernel
theorem dL_law_953 : decode code 953 = .ok (.istore 6, 2) := by decide +kernel
theorem dL_law_955 : decode code 955 = .ok (.aload_n 2, 1) := by decide +kernel
theorem dL_law_956 : decode code 956 = .ok (.invokevirtual 71, 3) := by decide +kernel
theorem dL_law_959 : decode code 959 = .ok (.iload 5, 2) := by decide +kernel
theorem dL_law_961 : decode code 961 = .ok (.if_icmp .eq 5, 3) := by decide +kernel
theorem dL_law_964 : decode code 964 = .ok (.iconst 0, 1) := by decide +kernel
theorem dL_law_965 : decode code 965 = .ok (.ireturn, 1) := by decide +kernel
theorem dL_law_966 : decode code 966 = .ok (.iload 5, 2) := by decide +kernel
theorem dL_law_968 : decode code 968 = .ok (.ifCond .ne 15, 3) := by decide +kernel
theorem dL_law_971 : decode code 971 = .ok (.aload_n 3, 1) := by decide +kernel
theorem dL_law_972 : decode code 972 = .ok (.iconst 0, 1) := by decide +kernel
theorem dL_law_973 : decode code 973 = .ok (.laload, 1) := by decide +kernel
theorem dL_law_974 : decode code 974 = .ok (.iload 6, 2) := by decide +kernel
theorem dL_law_976 : decode code 976 = .ok (.i2l, 1) := by decide +kernel
theorem dL_law_977 : decode code 977 = .ok (.lcmp, 1) := by decide +kernel
theorem dL_law_978 : decode code 978 = .ok (.ifCond .eq 5, 3) := by decide +kernel
theorem dL_law_981 : decode code 981 = .ok (.iconst 0, 1) := by decide +kernel
theorem dL_law_982 : decode code 982 = .ok (.ireturn, 1) := by decide +kernel
theorem dL_law_983 : decode code 983 = .ok (.goto 127, 3) := by decide +kernel
theorem dL_law_986 : decode code 986 = .ok (.aload_n 1, 1) := by decide +kernel
theorem dL_law_987 : decode code 987 = .ok (.aload_n 0, 1) := by decide +kernel
theorem dL_law_988 : decode code 988 = .ok (.iload 4, 2) := by decide +kernel
theorem dL_law_990 : decode code 990 = .ok (.iconst 1, 1) := by decide +kernel
theorem dL_law_991 : decode code 991 = .ok (.iadd, 1) := by decide +kernel
theorem dL_law_992 : decode code 992 = .ok (.iaload, 1) := by decide +kernel
theorem dL_law_993 : decode code 993 = .ok (.aload_n 0, 1) := by decide +kernel
theorem dL_law_994 : decode code 994 = .ok (.iload 4, 2) := by decide +kernel
theorem dL_law_996 : decode code 996 = .ok (.iconst 2, 1) := by decide +kernel
theorem dL_law_997 : decode code 997 = .ok (.iadd, 1) := by decide +kernel
theorem dL_law_998 : decode code 998 = .ok (.iaload, 1) := by decide +kernel
theorem dL_law_999 : decode code 999 = .ok (.aload_n 3, 1) := by decide +kernel
theorem dL_law_1000 : decode code 1000 = .ok (.invokestatic 116, 3) := by decide +kernel
theorem dL_law_1003 : decode code 1003 = .ok (.istore 5, 2) := by decide +kernel
theorem dL_law_1005 : decode code 1005 = .ok (.aload_n 2, 1) := by decide +kernel
theorem dL_law_1006 : decode code 1006 = .ok (.aload_n 0, 1) := by decide +kernel
theorem dL_law_1007 : decode code 1007 = .ok (.iload 4, 2) := by decide +kernel
theorem dL_law_1009 : decode code 1009 = .ok (.iconst 1, 1) := by decide +kernel
theorem dL_law_1010 : decode code 1010 = .ok (.iadd, 1) := by decide +kernel
theorem dL_law_1011 : decode code 1011 = .ok (.iaload, 1) := by decide +kernel
theorem dL_law_1012 : decode code 1012 = .ok (.aload_n 0, 1) := by decide +kernel
theorem dL_law_1013 : decode code 1013 = .ok (.iload 4, 2) := by decide +kernel
theorem dL_law_1015 : decode code 1015 = .ok (.iconst 2, 1) := by decide +kernel
theorem dL_law_1016 : decode code 1016 = .ok (.iadd, 1) := by decide +kernel
theorem dL_law_1017 : decode code 1017 = .ok (.iaload, 1) := by decide +kernel
theorem dL_law_1018 : decode code 1018 = .ok (.invokevirtual 118, 3) := by decide +kernel
theorem dL_law_1021 : decode code 1021 = .ok (.istore 6, 2) := by decide +kernel
theorem dL_law_1023 : decode code 1023 = .ok (.aload_n 2, 1) := by decide +kernel
theorem dL_law_1024 : decode code 1024 = .ok (.invokevirtual 71, 3) := by decide +kernel
theorem dL_law_1027 : decode code 1027 = .ok (.iload 5, 2) := by decide +kernel
theorem dL_law_1029 : decode code 1029 = .ok (.if_icmp .eq 5, 3) := by decide +kernel
theorem dL_law_1032 : decode code 1032 = .ok (.iconst 0, 1) := by decide +kernel
theorem dL_law_1033 : decode code 1033 = .ok (.ireturn, 1) := by decide +kernel
theorem dL_law_1034 : decode code 1034 = .ok (.iload 5, 2) := by decide +kernel
theorem dL_law_1036 : decode code 1036 = .ok (.ifCond .ne 15, 3) := by decide +kernel
theorem dL_law_1039 : decode code 1039 = .ok (.aload_n 3, 1) := by decide +kernel
theorem dL_law_1040 : decode code 1040 = .ok (.iconst 0, 1) := by decide +kernel
theorem dL_law_1041 : decode code 1041 = .ok (.laload, 1) := by decide +kernel
theorem dL_law_1042 : decode code 1042 = .ok (.iload 6, 2) := by decide +kernel
theorem dL_law_1044 : decode code 1044 = .ok (.i2l, 1) := by decide +kernel
theorem dL_law_1045 : decode code 1045 = .ok (.lcmp, 1) := by decide +kernel
theorem dL_law_1046 : decode code 1046 = .ok (.ifCond .eq 5, 3) := by decide +kernel
theorem dL_law_1049 : decode code 1049 = .ok (.iconst 0, 1) := by decide +kernel
theorem dL_law_1050 : decode code 1050 = .ok (.ireturn, 1) := by decide +kernel
theorem dL_law_1051 : decode code 1051 = .ok (.goto 59, 3) := by decide +kernel
theorem dL_law_1054 : decode code 1054 = .ok (.aload_n 1, 1) := by decide +kernel
theorem dL_law_1055 : decode code 1055 = .ok (.aload_n 0, 1) := by decide +kernel
theorem dL_law_1056 : decode code 1056 = .ok (.iload 4, 2) := by decide +kernel
theorem dL_law_1058 : decode code 1058 = .ok (.iconst 1, 1) := by decide +kernel
theorem dL_law_1059 : decode code 1059 = .ok (.iadd, 1) := by decide +kernel
theorem dL_law_1060 : decode code 1060 = .ok (.iaload, 1) := by decide +kernel
theorem dL_law_1061 : decode code 1061 = .ok (.aload_n 3, 1) := by decide +kernel
theorem dL_law_1062 : decode code 1062 = .ok (.invokestatic 119, 3) := by decide +kernel
theorem dL_law_1065 : decode code 1065 = .ok (.istore 5, 2) := by decide +kernel
theorem dL_law_1067 : decode code 1067 = .ok (.aload_n 2, 1) := by decide +kernel
theorem dL_law_1068 : decode code 1068 = .ok (.aload_n 0, 1) := by decide +kernel
theorem dL_law_1069 : decode code 1069 = .ok (.iload 4, 2) := by decide +kernel
theorem dL_law_1071 : decode code 1071 = .ok (.iconst 1, 1) := by decide +kernel
theorem dL_law_1072 : decode code 1072 = .ok (.iadd, 1) := by decide +kernel
theorem dL_law_1073 : decode code 1073 = .ok (.iaload, 1) := by decide +kernel
theorem dL_law_1074 : decode code 1074 = .ok (.invokevirtual 121, 3) := by decide +kernel
theorem dL_law_1077 : decode code 1077 = .ok (.istore 6, 2) := by decide +kernel
theorem dL_law_1079 : decode code 1079 = .ok (.aload_n 2, 1) := by decide +kernel
theorem dL_law_1080 : decode code 1080 = .ok (.invokevirtual 71, 3) := by decide +kernel
theorem dL_law_1083 : decode code 1083 = .ok (.iload 5, 2) := by decide +kernel
theorem dL_law_1085 : decode code 1085 = .ok (.if_icmp .eq 5, 3) := by decide +kernel
theorem dL_law_1088 : decode code 1088 = .ok (.iconst 0, 1) := by decide +kernel
theorem dL_law_1089 : decode code 1089 = .ok (.ireturn, 1) := by decide +kernel
theorem dL_law_1090 : decode code 1090 = .ok (.iload 5, 2) := by decide +kernel
theorem dL_law_1092 : decode code 1092 = .ok (.ifCond .ne 15, 3) := by decide +kernel
theorem dL_law_1095 : decode code 1095 = .ok (.aload_n 3, 1) := by decide +kernel
theorem dL_law_1096 : decode code 1096 = .ok (.iconst 0, 1) := by decide +kernel
theorem dL_law_1097 : decode code 1097 = .ok (.laload, 1) := by decide +kernel
theorem dL_law_1098 : decode code 1098 = .ok (.iload 6, 2) := by decide +kernel
theorem dL_law_1100 : decode code 1100 = .ok (.i2l, 1) := by decide +kernel
theorem dL_law_1101 : decode code 1101 = .ok (.lcmp, 1) := by decide +kernel
theorem dL_law_1102 : decode code 1102 = .ok (.ifCond .eq 5, 3) := by decide +kernel
theorem dL_law_1105 : decode code 1105 = .ok (.iconst 0, 1) := by decide +kernel
theorem dL_law_1106 : decode code 1106 = .ok (.ireturn, 1) := by decide +kernel
theorem dL_law_1107 : decode code 1107 = .ok (.goto 3, 3) := by decide +kernel
theorem dL_law_1110 : decode code 1110 = .ok (.iinc 4 4, 3) := by decide +kernel
theorem dL_law_1113 : decode code 1113 = .ok (.goto (-1090), 3) := by decide +kernel
theorem dL_law_1116 : decode code 1116 = .ok (.iconst 1, 1) := by decide +kernel
theorem dL_law_1117 : decode code 1117 = .ok (.ireturn, 1) := by decide +kernel
end
section
/-! calls of our own methods: every method's words are its code's word ahead of mcB -/
theorem gd_one {w : Cond} {Ts : List Cond} (hB : ∀ w ∈ mcB, w ∈ Ts) (h : w ∈ mcB) : w ∈ Ts ∧ ((w.onTables && w.keeps) = true ∨ ∃ ty, w = .arrayClass ty) := ⟨hB w h, good_of_word (mcB_ok w h)⟩
theorem gdC {Ts : List Cond} {c1 : Cond} (hB : ∀ w ∈ mcB, w ∈ Ts) (h4 : c1 ∈ mcB) : GoodIn Ts (c1 :: mcB) := by
  intro w hw
  rcases List.mem_cons.mp hw with e | h
  · rw [e]; exact gd_one hB h4
  · exact gd_one hB h
theorem gdS {Ts : List Cond} {c1 : Cond} {own : String} {i : Nat} {y : MethodName} (hB : ∀ w ∈ mcB, w ∈ Ts) (h1 : Cond.methodLink own i y ∈ mcB) (h2 : Cond.static y ∈ mcB) (h3 : Cond.initialized y.cls ∈ mcB) (h4 : c1 ∈ mcB) : GoodIn Ts (va_wsS own i y (c1 :: mcB)) := by
  intro w hw
  unfold va_wsS at hw
  rcases List.mem_append.mp hw with h | h
  · simp only [List.mem_cons, List.not_mem_nil, or_false] at h
    rcases h with rfl | rfl | rfl
    · exact gd_one hB h1
    · exact gd_one hB h2
    · exact gd_one hB h3
  · exact gdC hB h4 w h
theorem gdV {Ts : List Cond} {c1 : Cond} {own C : String} {i : Nat} {y : MethodName} (hB : ∀ w ∈ mcB, w ∈ Ts) (h1 : Cond.methodLink own i y ∈ mcB) (h2 : Cond.instanceMethod y ∈ mcB) (h3 : Cond.selects C y y ∈ mcB) (h5 : Cond.initialized C ∈ mcB) (h4 : c1 ∈ mcB) : GoodIn Ts (wsV own i C y (c1 :: mcB)) := by
  intro w hw
  unfold wsV at hw
  rcases List.mem_append.mp hw with h | h
  · simp only [List.mem_cons, List.not_mem_nil, or_false] at h
    rcases h with rfl | rfl | rfl | rfl
    · exact gd_one hB h1
    · exact gd_one hB h2
    · exact gd_one hB h3
    · exact gd_one hB h5
  · exact gdC hB h4 w h
theorem tlB {c0 : Cond} : ∀ w ∈ mcB, w ∈ c0 :: mcB := fun _ h => List.mem_cons_of_mem _ h
/-- a method that looks at its numbers alone -/
def nwP (av : List Value) : Array Value → State → Prop := va_Pc av (fun _ => True)
theorem nwP_pre {s : State} {H : Heap} {av : List Value} : PreS s H (nwP av) av := ⟨fun _ _ _ _ q => ⟨q.1, trivial⟩, fun _ _ _ => ⟨rfl, trivial⟩⟩
section MCC
variable {p : Program} {l : Launch} {e : Env} {R : Room} {s : State} {m : MethodId} {args : Array Value} {below : List Frame} {meth : Method} {c : Code} {H : Heap} {locs : List Loc} {cells slots : Nat} {Q : State → Prop}
variable {cc bytes : ByteArray} {pc : Nat} {ls : Array Slot} {rest st0 As : List Value} {D : va_G} {cl : List vw_C} {A : Nat → Prop} {a nL maxL index n : Nat} {tys : List (ClassId × FieldType)} {ws : va_W} {H0 : Heap} {own C : String} {y : MethodName} {ret : Option FieldType} {rm : Room} {Ts : List Cond} {Pc : Array Value → State → Prop}
/-- a static method of ours that only reads -/
theorem callRS {post : Int32 → Prop} (S : CallFix p m c cc nL s args Ts own) (hB : ∀ w ∈ mcB, w ∈ Ts) (hM : Met l y (Cond.code y bytes maxL ret :: mcB) rm Pc (vp_Si post) 0 0 (fun _ => False))
    (h1 : Cond.methodLink own index y ∈ mcB) (h2 : Cond.static y ∈ mcB) (h3 : Cond.initialized y.cls ∈ mcB) (h4 : Cond.code y bytes maxL ret ∈ mcB) (hrc : rm.cells = 0 ∧ rm.slots = 0)
    (hd : y.cls ≠ "java/lang/invoke/MethodHandle" ∧ y.cls ≠ "java/lang/invoke/VarHandle" ∧ (parseMethodDescriptor y.desc).map (fun d => d.parameters.length) = some n) (hR : rm.frames + 1 ≤ R.frames ∧ 8 + (maxL + 11) + rm.locals ≤ R.locals) (hp : PreS s H Pc As)
    (hn : As.length = n) (hsize : ls.size = nL) (hst : st0 = As.reverse ++ rest) (hW : (rest.map fun v => v.category).sum ≤ 8) (hf : cells ≤ R.cells ∧ slots ≤ R.slots) (hdg : decode cc pc = .ok (.invokestatic index, 3))
    (kk : ∀ r : Int32, post r → W p l e R s m args below meth c H locs cells slots Q (F0 m (pc + 3) ls (.int r :: rest))) : W p l e R s m args below meth c H locs cells slots Q (F0 m pc ls st0) :=
  vp_callSi (W.runS S hM (va_cwS n S.2.2.2.2 (gdS hB h1 h2 h3 h4) rfl hrc.1 hrc.2 hd hR) hp rfl hn hsize hst (lv_room hW) hdg hf) kk
/-- an instance method of ours that only reads -/
theorem callRV {post : Int32 → Prop} {b : Addr} (S : CallFix p m c cc nL s args Ts own) (hB : ∀ w ∈ mcB, w ∈ Ts) (hM : Met l y (Cond.code y bytes maxL ret :: mcB) rm Pc (vp_Si post) 0 0 (fun _ => False))
    (h1 : Cond.methodLink own index y ∈ mcB) (h2 : Cond.instanceMethod y ∈ mcB) (h3 : Cond.selects C y y ∈ mcB) (h5 : Cond.initialized C ∈ mcB) (h4 : Cond.code y bytes maxL ret ∈ mcB) (hrc : rm.cells = 0 ∧ rm.slots = 0)
    (hd : y.cls = C ∧ y.cls ≠ "java/lang/invoke/MethodHandle" ∧ y.cls ≠ "java/lang/invoke/VarHandle" ∧ (parseMethodDescriptor y.desc).map (fun d => d.parameters.length) = some n) (hR : rm.frames + 1 ≤ R.frames ∧ 8 + (maxL + 11) + rm.locals ≤ R.locals) (hp : PreV s H C b Pc As)
    (hn : As.length = n) (hsize : ls.size = nL) (hst : st0 = As.reverse ++ .ref b :: rest) (hW : (rest.map fun v => v.category).sum ≤ 8) (hf : cells ≤ R.cells ∧ slots ≤ R.slots) (hdg : decode cc pc = .ok (.invokevirtual index, 3))
    (kk : ∀ r : Int32, post r → W p l e R s m args below meth c H locs cells slots Q (F0 m (pc + 3) ls (.int r :: rest))) : W p l e R s m args below meth c H locs cells slots Q (F0 m pc ls st0) :=
  vp_callSi (W.runV S hM (cwV n S.2.2.2.2 (gdV hB h1 h2 h3 h5 h4) rfl hrc.1 hrc.2 hd hR) hp rfl hn hsize hst (lv_room hW) hdg hf) kk
/-- a row of an array of int arrays -/
theorem va_alda (hexec : p.tables.exec = Jvm.exec) (hb : c.code = cc) (hK : va_K D cl tys s) (hP : va_P D cl ws H) (q0 t0 : Nat) {cA : ClassId} {n : Nat} {f : Nat → Option Nat} (ha : ws[q0]? = some (a, .inl (cA, n, .inr (.inr (.inr (.inr f)))))) (ht : tys[t0]? = some (cA, .array .int)) {i : Int32} (hin : vp_in i n) {r : Nat} (hr : f i.toNatClampNeg = some r) (hdg : decode cc pc = .ok (.aaload, 1))
    (kk : W p l e R s m args below meth c H locs cells slots Q (F0 m (pc + 1) ls (.ref r :: rest))) : W p l e R s m args below meth c H locs cells slots Q (F0 m pc ls (.int i :: .ref a :: rest)) := by
  have hlt : i.toNatClampNeg < n := Nat.not_le.mp fun q => hin (Or.inr q)
  refine W.aald (v := va_rf (f i.toNatClampNeg)) (ty := .array .int) hexec hb (hP q0 _ ha) ((hK.2 t0 _ ht).1 n (fun j => va_rf (f j))) rfl (fun q => by cases q) (by show ¬ (i < 0 ∨ (arrV _ _ _).slots.size ≤ _); rw [arrV_size]; exact hin) (by show (arrV _ _ _).slots[_]? = _; rw [arrV_read _ _ hlt]) rfl rfl hdg ?_
  rw [hr]
  exact kk
/-- a number read at a place that is told as a number -/
theorem ialdN (hexec : p.tables.exec = Jvm.exec) (hb : c.code = cc) (hK : va_K D cl tys s) (hP : va_P D cl ws H) (q0 t0 : Nat) {cA : ClassId} {n : Nat} {f : Nat → Int32} (ha : ws[q0]? = some (a, .inl (cA, n, .inl f))) (ht : tys[t0]? = some (cA, .int)) {k : Nat} (hk : k < n) (hn : n < 2 ^ 31) {v : Int32} (hv : f k = v) (hdg : decode cc pc = .ok (.iaload, 1))
    (kk : W p l e R s m args below meth c H locs cells slots Q (F0 m (pc + 1) ls (.int v :: rest))) : W p l e R s m args below meth c H locs cells slots Q (F0 m pc ls (.int (nI k) :: .ref a :: rest)) := by
  refine va_iald hexec hb hK hP q0 t0 ha ht (vp_in_nI hk hn) hdg ?_
  rw [nI_clamp (by omega), hv]
  exact kk
theorem aldaN (hexec : p.tables.exec = Jvm.exec) (hb : c.code = cc) (hK : va_K D cl tys s) (hP : va_P D cl ws H) (q0 t0 : Nat) {cA : ClassId} {n : Nat} {f : Nat → Option Nat} (ha : ws[q0]? = some (a, .inl (cA, n, .inr (.inr (.inr (.inr f)))))) (ht : tys[t0]? = some (cA, .array .int)) {k : Nat} (hk : k < n) (hn : n < 2 ^ 31) {r : Nat} (hr : f k = some r) (hdg : decode cc pc = .ok (.aaload, 1))
    (kk : W p l e R s m args below meth c H locs cells slots Q (F0 m (pc + 1) ls (.ref r :: rest))) : W p l e R s m args below meth c H locs cells slots Q (F0 m pc ls (.int (nI k) :: .ref a :: rest)) :=
  va_alda hexec hb hK hP q0 t0 ha ht (vp_in_nI hk hn) (by rw [nI_clamp (by omega)]; exact hr) hdg kk
/-- a number stored at a place that is told as a number -/
theorem iastN (hexec : p.tables.exec = Jvm.exec) (hb : c.code = cc) (hK : va_K D cl tys s) (hP : va_P D cl ws H) (hD : va_D A ws) (hS : va_S A H0 H locs) (q0 t0 : Nat) {cA : ClassId} {n : Nat} {f : Nat → Int32} (ha : ws[q0]? = some (a, .inl (cA, n, .inl f))) (ht : tys[t0]? = some (cA, .int)) {k : Nat} (hk : k < n) (hn : n < 2 ^ 31) {x : Int32} (g : Nat → Int32) (hg : ∀ j, g j = if j = k then x else f j) {ws' : va_W} (hw : ws.set q0 (a, .inl (cA, n, .inl g)) = ws') (hdg : decode cc pc = .ok (.iastore, 1))
    (kk : ∀ (H1 : Heap) (locs1 : List Loc), va_P D cl ws' H1 → va_D A ws' → va_S A H0 H1 locs1 → W p l e R s m args below meth c H1 locs1 cells slots Q (F0 m (pc + 1) ls rest)) : W p l e R s m args below meth c H locs cells slots Q (F0 m pc ls (.int x :: .int (nI k) :: .ref a :: rest)) := by
  have hgf : upd f (nI k).toNatClampNeg x = g := by
    rw [nI_clamp (by omega)]
    exact funext fun j => by rw [hg j]; rfl
  refine va_iast hexec hb hK hP hD hS q0 t0 ha ht (vp_in_nI hk hn) hdg ?_
  rw [hgf, hw]
  exact kk
end MCC
end
section
/-! the house: its cells, and its methods that only read -/
def mcWH (a : Nat → Nat) (cI cG : ClassId) (n v : Nat) (C G X D : Nat → Nat) (B : Nat → Nat → Int) : va_W :=
  (a 0, .inr (0, [.int (nI n), .int (nI v), .ref (a 1), .ref (a 2), .ref (a 3), .ref (a 4), .ref (a 5)])) :: (a 1, .inl (cI, 12, .inl (fun m => nI (C m)))) :: (a 2, .inl (cI, 12, .inl (fun m => nI (G m)))) :: (a 3, .inl (cI, 12, .inl (fun m => nI (X m)))) :: (a 4, .inl (cI, 12, .inl (fun m => nI (D m)))) :: (a 5, .inl (cG, 12, .inr (.inr (.inr (.inr (fun j => if j < 12 then some (a (6 + j)) else none)))))) :: (List.range 12).map (fun j => (a (6 + j), .inl (cI, 12, .inl (fun k => iI (B j k)))))
theorem mcWH_row {a : Nat → Nat} {cI cG : ClassId} {n v : Nat} {C G X D : Nat → Nat} {B : Nat → Nat → Int} {j : Nat} (hj : j < 12) : (mcWH a cI cG n v C G X D B)[6 + j]? = some (a (6 + j), .inl (cI, 12, .inl (fun k => iI (B j k)))) := by
  unfold mcWH
  rw [show 6 + j = j + 1 + 1 + 1 + 1 + 1 + 1 by omega]
  simp only [List.getElem?_cons_succ, List.getElem?_map, List.getElem?_range hj, Option.map_some]
  rw [show j + 1 + 1 + 1 + 1 + 1 + 1 = 6 + j by omega]
abbrev mcTH (cI cG : ClassId) : List (ClassId × FieldType) := [(cI, .int), (cG, .array .int)]
set_option maxHeartbeats 4000000 in
set_option maxRecDepth 100000 in
theorem c_H_has (l : Launch) (S k : Nat) (hS : S < 2 ^ 31) (hk : k < 32) : Met l yH_has wdH_has ({ frames := 0, cells := 0, slots := 0, locals := 0 }) (nwP [.int (nI S), .int (nI k)]) (vp_Si (fun r => r = if S.testBit k then 1 else 0)) 0 0 (fun _ => False) := by
  refine Met.ofW (cc := bH_has) (maxL := 2) (ret := (some FieldType.boolean)) (by decide) rfl ?_
  intro p e s m args below meth c s₁ BB hml hv
  obtain ⟨rfl, -⟩ := hv
  have hx := BB.exec
  have hb := BB.bytes
  have hr := BB.returns
  have hts := atoms_spec (ws := wdH_has) BB.pre
  have hown : s.vm.findClass RH = some m.cls := findClass_of_methodNamed BB.named
  have hlocks := BB.notSynchronized
  have hl := lv_entry ([.int (nI S), .int (nI k)]) (n := 2) (Nat.le_of_ble_eq_true rfl)
  rw [lg_entry_eq]
  generalize (lg_sl ([.int (nI S), .int (nI k)]) ++ List.replicate (2 - (lg_sl ([.int (nI S), .int (nI k)])).length) Slot.unset).toArray = ls at hl ⊢
  have hl : lv_has ls 2 [(0, .int (nI S)), (1, .int (nI k))] := hl
  refine lv_iload_n hx hb dH_has_0 rfl (lv_at hl 0 rfl) ?_
  refine lv_iload_n hx hb dH_has_1 rfl (lv_at hl 1 rfl) ?_
  refine lv_ishr hx hb dH_has_2 ?_
  refine lv_iconst (v := 1) hx hb dH_has_3 (by decide) ?_
  refine lv_iand hx hb dH_has_4 ?_
  refine lv_if_eq (tgt := 12) hx hb dH_has_5 (by decide) (fun c1 => ?_) (fun c1 => ?_)
  · rw [nI_has hk hS] at c1
    refine lv_iconst (v := 0) hx hb dH_has_12 (by decide) ?_
    exact W.zret hx hb hr rfl (fun t ht hW => ⟨_, rfl, (by split at c1 <;> simp_all), ht⟩) (fun q hq => by cases hq) dH_has_13
  · rw [nI_has hk hS] at c1
    refine lv_iconst (v := 1) hx hb dH_has_8 (by decide) ?_
    refine lv_goto (tgt := 13) hx hb dH_has_9 (by decide) ?_
    exact W.zret hx hb hr rfl (fun t ht hW => ⟨_, rfl, (by split at c1 <;> simp_all), ht⟩) (fun q hq => by cases hq) dH_has_13
set_option maxHeartbeats 4000000 in
set_option maxRecDepth 100000 in
theorem c_H_with (l : Launch) (S k : Nat) (o : Int32) (hS : S < 2 ^ 31) (hk : k < 31) : Met l yH_with wdH_with ({ frames := 0, cells := 0, slots := 0, locals := 0 }) (nwP [.int (nI S), .int (nI k), .int o]) (vp_Si (fun r => r = if o = 0 then nI (S &&& (2 ^ k ^^^ 4294967295)) else nI (S ||| 2 ^ k))) 0 0 (fun _ => False) := by
  refine Met.ofW (cc := bH_with) (maxL := 4) (ret := (some FieldType.int)) (by decide) rfl ?_
  intro p e s m args below meth c s₁ BB hml hv
  obtain ⟨rfl, -⟩ := hv
  have hx := BB.exec
  have hb := BB.bytes
  have hr := BB.returns
  have hts := atoms_spec (ws := wdH_with) BB.pre
  have hown : s.vm.findClass RH = some m.cls := findClass_of_methodNamed BB.named
  have hlocks := BB.notSynchronized
  have hl := lv_entry ([.int (nI S), .int (nI k), .int o]) (n := 4) (Nat.le_of_ble_eq_true rfl)
  rw [lg_entry_eq]
  generalize (lg_sl ([.int (nI S), .int (nI k), .int o]) ++ List.replicate (4 - (lg_sl ([.int (nI S), .int (nI k), .int o])).length) Slot.unset).toArray = ls at hl ⊢
  have hl : lv_has ls 4 [(0, .int (nI S)), (1, .int (nI k)), (2, .int o)] := hl
  refine lv_iconst (v := 1) hx hb dH_with_0 (by decide) ?_
  refine lv_iload_n hx hb dH_with_1 rfl (lv_at hl 1 rfl) ?_
  refine lv_ishl hx hb dH_with_2 ?_
  refine lv_topi (fun x1 ex1 => ?_)
  refine lv_istore_n (lv' := [(3, .int x1), (0, .int (nI S)), (1, .int (nI k)), (2, .int o)]) hx hb dH_with_3 rfl hl (by decide) rfl (fun ls hl => ?_)
  refine lv_iload_n hx hb dH_with_4 rfl (lv_at hl 3 rfl) ?_
  refine lv_if_eq (tgt := 14) hx hb dH_with_5 (by decide) (fun c1 => ?_) (fun c1 => ?_)
  ·
    refine lv_iload_n hx hb dH_with_14 rfl (lv_at hl 1 rfl) ?_
    refine lv_iload_n hx hb dH_with_15 rfl (lv_at hl 0 rfl) ?_
    refine lv_iconst (v := (-1)) hx hb dH_with_16 (by decide) ?_
    refine lv_ixor hx hb dH_with_17 ?_
    refine lv_iand hx hb dH_with_18 ?_
    exact W.iret hx hb hr (fun t ht hW => ⟨_, rfl, (by rw [if_pos c1, ex1, nI_bit hk, nI_drop hS hk]), ht⟩) (fun q hq => by cases hq) dH_with_19
  ·
    refine lv_iload_n hx hb dH_with_8 rfl (lv_at hl 1 rfl) ?_
    refine lv_iload_n hx hb dH_with_9 rfl (lv_at hl 0 rfl) ?_
    refine lv_ior hx hb dH_with_10 ?_
    refine lv_goto (tgt := 19) hx hb dH_with_11 (by decide) ?_
    exact W.iret hx hb hr (fun t ht hW => ⟨_, rfl, (by rw [if_neg c1, ex1, nI_bit hk, nI_or]), ht⟩) (fun q hq => by cases hq) dH_with_19
set_option maxHeartbeats 4000000 in
set_option maxRecDepth 100000 in
theorem c_H_costOf (l : Launch) (dC : Nat → ClassId) (dI : Nat → Nat → Nat) (a : Nat → Nat) (cI cG : ClassId) (n v : Nat) (C G X D : Nat → Nat) (B : Nat → Nat → Int) (S : Nat) (hn : n ≤ 12) (hS : S < 2 ^ 31) : Met l yH_costOf wdH_costOf ({ frames := 1, cells := 0, slots := 0, locals := 21 }) (roP (dC, dI) mcCl (mcWH a cI cG n v C G X D B) (mcTH cI cG) [.ref (a 0), .int (nI S)]) (vp_Si (fun r => r = nI (mc_cost C S n))) 0 0 (fun _ => False) := by
  refine Met.ofW (cc := bH_costOf) (maxL := 4) (ret := (some FieldType.int)) (by decide) rfl ?_
  intro p e s m args below meth c s₁ BB hml hv
  obtain ⟨rfl, hP, hK⟩ := hv
  have hx := BB.exec
  have hb := BB.bytes
  have hr := BB.returns
  have hts := atoms_spec (ws := wdH_costOf) BB.pre
  have hown : s.vm.findClass RH = some m.cls := findClass_of_methodNamed BB.named
  have hlocks := BB.notSynchronized
  have hl := lv_entry ([.ref (a 0), .int (nI S)]) (n := 4) (Nat.le_of_ble_eq_true rfl)
  rw [lg_entry_eq]
  generalize (lg_sl ([.ref (a 0), .int (nI S)]) ++ List.replicate (4 - (lg_sl ([.ref (a 0), .int (nI S)])).length) Slot.unset).toArray = ls at hl ⊢
  have hl : lv_has ls 4 [(0, .ref (a 0)), (1, .int (nI S))] := hl
  refine lv_iconst (v := 0) hx hb dH_costOf_0 (by decide) ?_
  refine lv_istore_n (lv' := [(2, .int 0), (0, .ref (a 0)), (1, .int (nI S))]) hx hb dH_costOf_1 rfl hl (by decide) rfl (fun ls hl => ?_)
  refine lv_iconst (v := 0) hx hb dH_costOf_2 (by decide) ?_
  refine lv_istore_n (lv' := [(3, .int 0), (2, .int 0), (0, .ref (a 0)), (1, .int (nI S))]) hx hb dH_costOf_3 rfl hl (by decide) rfl (fun ls hl => ?_)
  refine lpR (σ := Nat) (fun k => k ≤ n) (fun k => [(0, .ref (a 0)), (1, .int (nI S)), (2, .int (nI (mc_cost C S k))), (3, .int (nI k))]) (fun k => n - k) (fun k ls hI hl ih => ?_) (0) ls (Nat.zero_le _) (lv_sub hl [2, 3, 1, 0] rfl)
  have hl : lv_has ls 4 [(0, .ref (a 0)), (1, .int (nI S)), (2, .int (nI (mc_cost C S k))), (3, .int (nI k))] := hl
  refine lv_iload_n hx hb dH_costOf_4 rfl (lv_at hl 3 rfl) ?_
  refine lv_aload_n hx hb dH_costOf_5 rfl (lv_at hl 0 rfl) ?_
  refine va_get (D := (dC, dI)) (ci := 0) (C := RH) (T := FH) (N := 7) hx hb hts (fun w h => List.mem_cons_of_mem _ (inH w h)) hown hK hP 0 rfl rfl 0 (by decide) (hts _ (List.mem_cons_of_mem _ kw50)) (fun _ h9 => h9) rfl dH_costOf_6 ?_
  refine lv_icmp_ge (tgt := 35) hx hb dH_costOf_9 (by decide) (fun c1 => ?_) (fun c1 => ?_)
  · have hkn : k = n := by have := (nI_leI (by omega) (by omega)).mp c1; omega
    subst hkn
    refine lv_iload_n hx hb dH_costOf_35 rfl (lv_at hl 2 rfl) ?_
    exact W.iret hx hb hr (fun t ht hW => ⟨_, rfl, rfl, ht⟩) (fun q hq => by cases hq) dH_costOf_36
  · have hkn : k < n := by
      rcases Nat.lt_or_ge k n with q | q
      · exact q
      · exact absurd (nI_le q (by omega)) c1
    refine lv_iload_n hx hb dH_costOf_12 rfl (lv_at hl 1 rfl) ?_
    refine lv_iload_n hx hb dH_costOf_13 rfl (lv_at hl 3 rfl) ?_
    refine callRS (As := [.int (nI S), .int (nI k)]) (rest := []) ⟨hx, hb, hml, hown, hts⟩ tlB (c_H_has l S k hS (by omega)) kw171 kw172 kw26 kw173 ⟨rfl, rfl⟩ (n := 2) (by decide +kernel) ⟨Nat.le_of_ble_eq_true rfl, Nat.le_of_ble_eq_true rfl⟩ (nwP_pre) rfl hl.1 rfl (Nat.le_of_ble_eq_true rfl) ⟨Nat.le_of_ble_eq_true rfl, Nat.le_of_ble_eq_true rfl⟩ dH_costOf_14 (fun r1 hr1 => ?_)
    refine lv_if_eq (tgt := 29) hx hb dH_costOf_17 (by decide) (fun c2 => ?_) (fun c2 => ?_)
    · have hbit : S.testBit k = false := by rw [hr1] at c2; split at c2 <;> simp_all
      refine lv_iinc (v := (nI (k + 1))) (lv' := [(3, .int (nI (k + 1))), (0, .ref (a 0)), (1, .int (nI S)), (2, .int (nI (mc_cost C S k)))]) hx hb dH_costOf_29 hl (k := 3) rfl (nI_1 k) (by decide) rfl (fun ls hl => ?_)
      refine lv_goto (tgt := 4) hx hb dH_costOf_32 (by decide) ?_
      exact ih (k + 1) ls hkn (by omega) (lv_sub (l' := [(0, .ref (a 0)), (1, .int (nI S)), (2, .int (nI (mc_cost C S (k + 1)))), (3, .int (nI (k + 1)))]) hl [1, 2, 3, 0] (by simp [lv_pick, mc_cost, hbit]))
    · have hbit : S.testBit k = true := by rw [hr1] at c2; split at c2 <;> simp_all
      refine lv_iload_n hx hb dH_costOf_20 rfl (lv_at hl 2 rfl) ?_
      refine lv_aload_n hx hb dH_costOf_21 rfl (lv_at hl 0 rfl) ?_
      refine va_get (D := (dC, dI)) (ci := 0) (C := RH) (T := FH) (N := 7) hx hb hts (fun w h => List.mem_cons_of_mem _ (inH w h)) hown hK hP 0 rfl rfl 2 (by decide) (hts _ (List.mem_cons_of_mem _ kw56)) (fun _ h9 => h9) rfl dH_costOf_22 ?_
      refine lv_iload_n hx hb dH_costOf_25 rfl (lv_at hl 3 rfl) ?_
      refine ialdN hx hb hK hP 1 0 rfl rfl (k := k) (by omega) (by decide) (v := nI (C k)) rfl dH_costOf_26 ?_
      refine lv_iadd hx hb dH_costOf_27 ?_
      refine lv_topi (fun x9 ex9 => ?_)
      have hx9 : x9 = nI (mc_cost C S (k + 1)) := by rw [ex9, nI_add]; simp [mc_cost, hbit]
      subst hx9
      refine lv_istore_n (lv' := [(2, .int (nI (mc_cost C S (k + 1)))), (0, .ref (a 0)), (1, .int (nI S)), (3, .int (nI k))]) hx hb dH_costOf_28 rfl hl (by decide) rfl (fun ls hl => ?_)
      refine lv_iinc (v := (nI (k + 1))) (lv' := [(3, .int (nI (k + 1))), (2, .int (nI (mc_cost C S (k + 1)))), (0, .ref (a 0)), (1, .int (nI S))]) hx hb dH_costOf_29 hl (k := 3) rfl (nI_1 k) (by decide) rfl (fun ls hl => ?_)
      refine lv_goto (tgt := 4) hx hb dH_costOf_32 (by decide) ?_
      exact ih (k + 1) ls (hkn) (by omega) (lv_sub hl [2, 3, 1, 0] rfl)
set_option maxHeartbeats 4000000 in
set_option maxRecDepth 100000 in
theorem c_H_bonusWithEarlier (l : Launch) (dC : Nat → ClassId) (dI : Nat → Nat → Nat) (a : Nat → Nat) (cI cG : ClassId) (n v : Nat) (C G X D : Nat → Nat) (B : Nat → Nat → Int) (mm S : Nat) (hm : mm < 12) (hS : S < 2 ^ 31) : Met l yH_bonusWithEarlier wdH_bonusWithEarlier ({ frames := 1, cells := 0, slots := 0, locals := 21 }) (roP (dC, dI) mcCl (mcWH a cI cG n v C G X D B) (mcTH cI cG) [.ref (a 0), .int (nI mm), .int (nI S)]) (vp_Si (fun r => r = iI (mc_bon (B mm) S mm))) 0 0 (fun _ => False) := by
  refine Met.ofW (cc := bH_bonusWithEarlier) (maxL := 5) (ret := (some FieldType.int)) (by decide) rfl ?_
  intro p e s m args below meth c s₁ BB hml hv
  obtain ⟨rfl, hP, hK⟩ := hv
  have hx := BB.exec
  have hb := BB.bytes
  have hr := BB.returns
  have hts := atoms_spec (ws := wdH_bonusWithEarlier) BB.pre
  have hown : s.vm.findClass RH = some m.cls := findClass_of_methodNamed BB.named
  have hlocks := BB.notSynchronized
  have hl := lv_entry ([.ref (a 0), .int (nI mm), .int (nI S)]) (n := 5) (Nat.le_of_ble_eq_true rfl)
  rw [lg_entry_eq]
  generalize (lg_sl ([.ref (a 0), .int (nI mm), .int (nI S)]) ++ List.replicate (5 - (lg_sl ([.ref (a 0), .int (nI mm), .int (nI S)])).length) Slot.unset).toArray = ls at hl ⊢
  have hl : lv_has ls 5 [(0, .ref (a 0)), (1, .int (nI mm)), (2, .int (nI S))] := hl
  refine lv_iconst (v := 0) hx hb dH_bonusWithEarlier_0 (by decide) ?_
  refine lv_istore_n (lv' := [(3, .int 0), (0, .ref (a 0)), (1, .int (nI mm)), (2, .int (nI S))]) hx hb dH_bonusWithEarlier_1 rfl hl (by decide) rfl (fun ls hl => ?_)
  refine lv_iconst (v := 0) hx hb dH_bonusWithEarlier_2 (by decide) ?_
  refine lv_istore (lv' := [(4, .int 0), (3, .int 0), (0, .ref (a 0)), (1, .int (nI mm)), (2, .int (nI S))]) hx hb dH_bonusWithEarlier_3 hl (by decide) rfl (fun ls hl => ?_)
  refine lpR (σ := Nat) (fun k => k ≤ mm) (fun k => [(0, .ref (a 0)), (1, .int (nI mm)), (2, .int (nI S)), (3, .int (iI (mc_bon (B mm) S k))), (4, .int (nI k))]) (fun k => mm - k) (fun k ls hI hl ih => ?_) (0) ls (Nat.zero_le _) (lv_sub hl [2, 3, 4, 1, 0] rfl)
  have hl : lv_has ls 5 [(0, .ref (a 0)), (1, .int (nI mm)), (2, .int (nI S)), (3, .int (iI (mc_bon (B mm) S k))), (4, .int (nI k))] := hl
  refine lv_iload hx hb dH_bonusWithEarlier_5 (lv_at hl 4 rfl) ?_
  refine lv_iload_n hx hb dH_bonusWithEarlier_7 rfl (lv_at hl 1 rfl) ?_
  refine lv_icmp_ge (tgt := 38) hx hb dH_bonusWithEarlier_8 (by decide) (fun c1 => ?_) (fun c1 => ?_)
  · have hkn : k = mm := by have := (nI_leI (by omega) (by omega)).mp c1; omega
    subst hkn
    refine lv_iload_n hx hb dH_bonusWithEarlier_38 rfl (lv_at hl 3 rfl) ?_
    exact W.iret hx hb hr (fun t ht hW => ⟨_, rfl, rfl, ht⟩) (fun q hq => by cases hq) dH_bonusWithEarlier_39
  · have hkn : k < mm := by
      rcases Nat.lt_or_ge k mm with q | q
      · exact q
      · exact absurd (nI_le q (by omega)) c1
    refine lv_iload_n hx hb dH_bonusWithEarlier_11 rfl (lv_at hl 2 rfl) ?_
    refine lv_iload hx hb dH_bonusWithEarlier_12 (lv_at hl 4 rfl) ?_
    refine callRS (As := [.int (nI S), .int (nI k)]) (rest := []) ⟨hx, hb, hml, hown, hts⟩ tlB (c_H_has l S k hS (by omega)) kw171 kw172 kw26 kw173 ⟨rfl, rfl⟩ (n := 2) (by decide +kernel) ⟨Nat.le_of_ble_eq_true rfl, Nat.le_of_ble_eq_true rfl⟩ (nwP_pre) rfl hl.1 rfl (Nat.le_of_ble_eq_true rfl) ⟨Nat.le_of_ble_eq_true rfl, Nat.le_of_ble_eq_true rfl⟩ dH_bonusWithEarlier_14 (fun r1 hr1 => ?_)
    refine lv_if_eq (tgt := 32) hx hb dH_bonusWithEarlier_17 (by decide) (fun c2 => ?_) (fun c2 => ?_)
    · have hbit : S.testBit k = false := by rw [hr1] at c2; split at c2 <;> simp_all
      refine lv_iinc (v := (nI (k + 1))) (lv' := [(4, .int (nI (k + 1))), (0, .ref (a 0)), (1, .int (nI mm)), (2, .int (nI S)), (3, .int (iI (mc_bon (B mm) S k)))]) hx hb dH_bonusWithEarlier_32 hl (k := 4) rfl (nI_1 k) (by decide) rfl (fun ls hl => ?_)
      refine lv_goto (tgt := 5) hx hb dH_bonusWithEarlier_35 (by decide) ?_
      exact ih (k + 1) ls hkn (by omega) (lv_sub (l' := [(0, .ref (a 0)), (1, .int (nI mm)), (2, .int (nI S)), (3, .int (iI (mc_bon (B mm) S (k + 1)))), (4, .int (nI (k + 1)))]) hl [1, 2, 3, 4, 0] (by simp [lv_pick, mc_bon, hbit]))
    · have hbit : S.testBit k = true := by rw [hr1] at c2; split at c2 <;> simp_all
      refine lv_iload_n hx hb dH_bonusWithEarlier_20 rfl (lv_at hl 3 rfl) ?_
      refine lv_aload_n hx hb dH_bonusWithEarlier_21 rfl (lv_at hl 0 rfl) ?_
      refine va_get (D := (dC, dI)) (ci := 0) (C := RH) (T := FH) (N := 7) hx hb hts (fun w h => List.mem_cons_of_mem _ (inH w h)) hown hK hP 0 rfl rfl 6 (by decide) (hts _ (List.mem_cons_of_mem _ kw64)) (fun _ h9 => h9) rfl dH_bonusWithEarlier_22 ?_
      refine lv_iload_n hx hb dH_bonusWithEarlier_25 rfl (lv_at hl 1 rfl) ?_
      refine aldaN hx hb hK hP 5 1 rfl rfl (k := mm) hm (by decide) (r := (a (6 + mm))) (if_pos hm) dH_bonusWithEarlier_26 ?_
      refine lv_iload hx hb dH_bonusWithEarlier_27 (lv_at hl 4 rfl) ?_
      refine ialdN hx hb hK hP (6 + mm) 0 (mcWH_row hm) rfl (k := k) (by omega) (by decide) (v := iI (B mm k)) rfl dH_bonusWithEarlier_29 ?_
      refine lv_iadd hx hb dH_bonusWithEarlier_30 ?_
      refine lv_topi (fun y1 ey1 => ?_)
      have hy1 : y1 = iI (mc_bon (B mm) S (k + 1)) := by rw [ey1, iI_add]; simp [mc_bon, hbit]
      subst hy1
      refine lv_istore_n (lv' := [(3, .int (iI (mc_bon (B mm) S (k + 1)))), (0, .ref (a 0)), (1, .int (nI mm)), (2, .int (nI S)), (4, .int (nI k))]) hx hb dH_bonusWithEarlier_31 rfl hl (by decide) rfl (fun ls hl => ?_)
      refine lv_iinc (v := (nI (k + 1))) (lv' := [(4, .int (nI (k + 1))), (3, .int (iI (mc_bon (B mm) S (k + 1)))), (0, .ref (a 0)), (1, .int (nI mm)), (2, .int (nI S))]) hx hb dH_bonusWithEarlier_32 hl (k := 4) rfl (nI_1 k) (by decide) rfl (fun ls hl => ?_)
      refine lv_goto (tgt := 5) hx hb dH_bonusWithEarlier_35 (by decide) ?_
      exact ih (k + 1) ls (hkn) (by omega) (lv_sub hl [2, 3, 4, 1, 0] rfl)
set_option maxHeartbeats 4000000 in
set_option maxRecDepth 100000 in
theorem c_H_gainOf (l : Launch) (dC : Nat → ClassId) (dI : Nat → Nat → Nat) (a : Nat → Nat) (cI cG : ClassId) (n v : Nat) (C G X D : Nat → Nat) (B : Nat → Nat → Int) (S : Nat) (hn : n ≤ 12) (hS : S < 2 ^ 31) : Met l yH_gainOf wdH_gainOf ({ frames := 2, cells := 0, slots := 0, locals := 45 }) (roP (dC, dI) mcCl (mcWH a cI cG n v C G X D B) (mcTH cI cG) [.ref (a 0), .int (nI S)]) (vp_Si (fun r => r = iI (mc_gain G B S n))) 0 0 (fun _ => False) := by
  refine Met.ofW (cc := bH_gainOf) (maxL := 4) (ret := (some FieldType.int)) (by decide) rfl ?_
  intro p e s m args below meth c s₁ BB hml hv
  obtain ⟨rfl, hP, hK⟩ := hv
  have hx := BB.exec
  have hb := BB.bytes
  have hr := BB.returns
  have hts := atoms_spec (ws := wdH_gainOf) BB.pre
  have hown : s.vm.findClass RH = some m.cls := findClass_of_methodNamed BB.named
  have hlocks := BB.notSynchronized
  have hl := lv_entry ([.ref (a 0), .int (nI S)]) (n := 4) (Nat.le_of_ble_eq_true rfl)
  rw [lg_entry_eq]
  generalize (lg_sl ([.ref (a 0), .int (nI S)]) ++ List.replicate (4 - (lg_sl ([.ref (a 0), .int (nI S)])).length) Slot.unset).toArray = ls at hl ⊢
  have hl : lv_has ls 4 [(0, .ref (a 0)), (1, .int (nI S))] := hl
  refine lv_iconst (v := 0) hx hb dH_gainOf_0 (by decide) ?_
  refine lv_istore_n (lv' := [(2, .int 0), (0, .ref (a 0)), (1, .int (nI S))]) hx hb dH_gainOf_1 rfl hl (by decide) rfl (fun ls hl => ?_)
  refine lv_iconst (v := 0) hx hb dH_gainOf_2 (by decide) ?_
  refine lv_istore_n (lv' := [(3, .int 0), (2, .int 0), (0, .ref (a 0)), (1, .int (nI S))]) hx hb dH_gainOf_3 rfl hl (by decide) rfl (fun ls hl => ?_)
  refine lpR (σ := Nat) (fun k => k ≤ n) (fun k => [(0, .ref (a 0)), (1, .int (nI S)), (2, .int (iI (mc_gain G B S k))), (3, .int (nI k))]) (fun k => n - k) (fun k ls hI hl ih => ?_) (0) ls (Nat.zero_le _) (lv_sub hl [2, 3, 1, 0] rfl)
  have hl : lv_has ls 4 [(0, .ref (a 0)), (1, .int (nI S)), (2, .int (iI (mc_gain G B S k))), (3, .int (nI k))] := hl
  refine lv_iload_n hx hb dH_gainOf_4 rfl (lv_at hl 3 rfl) ?_
  refine lv_aload_n hx hb dH_gainOf_5 rfl (lv_at hl 0 rfl) ?_
  refine va_get (D := (dC, dI)) (ci := 0) (C := RH) (T := FH) (N := 7) hx hb hts (fun w h => List.mem_cons_of_mem _ (inH w h)) hown hK hP 0 rfl rfl 0 (by decide) (hts _ (List.mem_cons_of_mem _ kw50)) (fun _ h9 => h9) rfl dH_gainOf_6 ?_
  refine lv_icmp_ge (tgt := 42) hx hb dH_gainOf_9 (by decide) (fun c1 => ?_) (fun c1 => ?_)
  · have hkn : k = n := by have := (nI_leI (by omega) (by omega)).mp c1; omega
    subst hkn
    refine lv_iload_n hx hb dH_gainOf_42 rfl (lv_at hl 2 rfl) ?_
    exact W.iret hx hb hr (fun t ht hW => ⟨_, rfl, rfl, ht⟩) (fun q hq => by cases hq) dH_gainOf_43
  · have hkn : k < n := by
      rcases Nat.lt_or_ge k n with q | q
      · exact q
      · exact absurd (nI_le q (by omega)) c1
    refine lv_iload_n hx hb dH_gainOf_12 rfl (lv_at hl 1 rfl) ?_
    refine lv_iload_n hx hb dH_gainOf_13 rfl (lv_at hl 3 rfl) ?_
    refine callRS (As := [.int (nI S), .int (nI k)]) (rest := []) ⟨hx, hb, hml, hown, hts⟩ tlB (c_H_has l S k hS (by omega)) kw171 kw172 kw26 kw173 ⟨rfl, rfl⟩ (n := 2) (by decide +kernel) ⟨Nat.le_of_ble_eq_true rfl, Nat.le_of_ble_eq_true rfl⟩ (nwP_pre) rfl hl.1 rfl (Nat.le_of_ble_eq_true rfl) ⟨Nat.le_of_ble_eq_true rfl, Nat.le_of_ble_eq_true rfl⟩ dH_gainOf_14 (fun r1 hr1 => ?_)
    refine lv_if_eq (tgt := 36) hx hb dH_gainOf_17 (by decide) (fun c2 => ?_) (fun c2 => ?_)
    · have hbit : S.testBit k = false := by rw [hr1] at c2; split at c2 <;> simp_all
      refine lv_iinc (v := (nI (k + 1))) (lv' := [(3, .int (nI (k + 1))), (0, .ref (a 0)), (1, .int (nI S)), (2, .int (iI (mc_gain G B S k)))]) hx hb dH_gainOf_36 hl (k := 3) rfl (nI_1 k) (by decide) rfl (fun ls hl => ?_)
      refine lv_goto (tgt := 4) hx hb dH_gainOf_39 (by decide) ?_
      exact ih (k + 1) ls hkn (by omega) (lv_sub (l' := [(0, .ref (a 0)), (1, .int (nI S)), (2, .int (iI (mc_gain G B S (k + 1)))), (3, .int (nI (k + 1)))]) hl [1, 2, 3, 0] (by simp [lv_pick, mc_gain, hbit]))
    · have hbit : S.testBit k = true := by rw [hr1] at c2; split at c2 <;> simp_all
      refine lv_iload_n hx hb dH_gainOf_20 rfl (lv_at hl 2 rfl) ?_
      refine lv_aload_n hx hb dH_gainOf_21 rfl (lv_at hl 0 rfl) ?_
      refine va_get (D := (dC, dI)) (ci := 0) (C := RH) (T := FH) (N := 7) hx hb hts (fun w h => List.mem_cons_of_mem _ (inH w h)) hown hK hP 0 rfl rfl 3 (by decide) (hts _ (List.mem_cons_of_mem _ kw58)) (fun _ h9 => h9) rfl dH_gainOf_22 ?_
      refine lv_iload_n hx hb dH_gainOf_25 rfl (lv_at hl 3 rfl) ?_
      refine ialdN hx hb hK hP 2 0 rfl rfl (k := k) (by omega) (by decide) (v := nI (G k)) rfl dH_gainOf_26 ?_
      refine lv_aload_n hx hb dH_gainOf_27 rfl (lv_at hl 0 rfl) ?_
      refine lv_iload_n hx hb dH_gainOf_28 rfl (lv_at hl 3 rfl) ?_
      refine lv_iload_n hx hb dH_gainOf_29 rfl (lv_at hl 1 rfl) ?_
      refine callRV (As := [.int (nI k), .int (nI S)]) (rest := [.int (nI (G k)), .int (iI (mc_gain G B S k))]) ⟨hx, hb, hml, hown, hts⟩ tlB (c_H_bonusWithEarlier l dC dI a cI cG n v C G X D B k S (by omega) hS) kw353 kw354 kw7 kw26 kw355 ⟨rfl, rfl⟩ (n := 2) (by decide +kernel) ⟨Nat.le_of_ble_eq_true rfl, Nat.le_of_ble_eq_true rfl⟩ (roP_preV hP hK (ci := 0) (q0 := 0) rfl rfl) rfl hl.1 rfl (Nat.le_of_ble_eq_true rfl) ⟨Nat.le_of_ble_eq_true rfl, Nat.le_of_ble_eq_true rfl⟩ dH_gainOf_30 (fun r2 hr2 => ?_)
      refine lv_iadd hx hb dH_gainOf_33 ?_
      refine lv_iadd hx hb dH_gainOf_34 ?_
      refine lv_topi (fun y1 ey1 => ?_)
      have hy1 : y1 = iI (mc_gain G B S (k + 1)) := by rw [ey1, hr2, ← iI_nat, iI_add, iI_add]; simp [mc_gain, hbit]
      subst hy1
      refine lv_istore_n (lv' := [(2, .int (iI (mc_gain G B S (k + 1)))), (0, .ref (a 0)), (1, .int (nI S)), (3, .int (nI k))]) hx hb dH_gainOf_35 rfl hl (by decide) rfl (fun ls hl => ?_)
      refine lv_iinc (v := (nI (k + 1))) (lv' := [(3, .int (nI (k + 1))), (2, .int (iI (mc_gain G B S (k + 1)))), (0, .ref (a 0)), (1, .int (nI S))]) hx hb dH_gainOf_36 hl (k := 3) rfl (nI_1 k) (by decide) rfl (fun ls hl => ?_)
      refine lv_goto (tgt := 4) hx hb dH_gainOf_39 (by decide) ?_
      exact ih (k + 1) ls (hkn) (by omega) (lv_sub hl [2, 3, 1, 0] rfl)
set_option maxHeartbeats 4000000 in
set_option maxRecDepth 100000 in
theorem c_H_withItsNeeds (l : Launch) (dC : Nat → ClassId) (dI : Nat → Nat → Nat) (a : Nat → Nat) (cI cG : ClassId) (n v : Nat) (C G X D : Nat → Nat) (B : Nat → Nat → Int) (S : Nat) (hn : n ≤ 12) (hS : S < 2 ^ 31) : Met l yH_withItsNeeds wdH_withItsNeeds ({ frames := 1, cells := 0, slots := 0, locals := 21 }) (roP (dC, dI) mcCl (mcWH a cI cG n v C G X D B) (mcTH cI cG) [.ref (a 0), .int (nI S)]) (vp_Si (fun r => r = nI (mc_nd D S S n))) 0 0 (fun _ => False) := by
  refine Met.ofW (cc := bH_withItsNeeds) (maxL := 4) (ret := (some FieldType.int)) (by decide) rfl ?_
  intro p e s m args below meth c s₁ BB hml hv
  obtain ⟨rfl, hP, hK⟩ := hv
  have hx := BB.exec
  have hb := BB.bytes
  have hr := BB.returns
  have hts := atoms_spec (ws := wdH_withItsNeeds) BB.pre
  have hown : s.vm.findClass RH = some m.cls := findClass_of_methodNamed BB.named
  have hlocks := BB.notSynchronized
  have hl := lv_entry ([.ref (a 0), .int (nI S)]) (n := 4) (Nat.le_of_ble_eq_true rfl)
  rw [lg_entry_eq]
  generalize (lg_sl ([.ref (a 0), .int (nI S)]) ++ List.replicate (4 - (lg_sl ([.ref (a 0), .int (nI S)])).length) Slot.unset).toArray = ls at hl ⊢
  have hl : lv_has ls 4 [(0, .ref (a 0)), (1, .int (nI S))] := hl
  refine lv_iload_n hx hb dH_withItsNeeds_0 rfl (lv_at hl 1 rfl) ?_
  refine lv_istore_n (lv' := [(2, .int (nI S)), (0, .ref (a 0)), (1, .int (nI S))]) hx hb dH_withItsNeeds_1 rfl hl (by decide) rfl (fun ls hl => ?_)
  refine lv_iconst (v := 0) hx hb dH_withItsNeeds_2 (by decide) ?_
  refine lv_istore_n (lv' := [(3, .int 0), (2, .int (nI S)), (0, .ref (a 0)), (1, .int (nI S))]) hx hb dH_withItsNeeds_3 rfl hl (by decide) rfl (fun ls hl => ?_)
  refine lpR (σ := Nat) (fun k => k ≤ n) (fun k => [(0, .ref (a 0)), (1, .int (nI S)), (2, .int (nI (mc_nd D S S k))), (3, .int (nI k))]) (fun k => n - k) (fun k ls hI hl ih => ?_) (0) ls (Nat.zero_le _) (lv_sub hl [2, 3, 1, 0] rfl)
  have hl : lv_has ls 4 [(0, .ref (a 0)), (1, .int (nI S)), (2, .int (nI (mc_nd D S S k))), (3, .int (nI k))] := hl
  refine lv_iload_n hx hb dH_withItsNeeds_4 rfl (lv_at hl 3 rfl) ?_
  refine lv_aload_n hx hb dH_withItsNeeds_5 rfl (lv_at hl 0 rfl) ?_
  refine va_get (D := (dC, dI)) (ci := 0) (C := RH) (T := FH) (N := 7) hx hb hts (fun w h => List.mem_cons_of_mem _ (inH w h)) hown hK hP 0 rfl rfl 0 (by decide) (hts _ (List.mem_cons_of_mem _ kw50)) (fun _ h9 => h9) rfl dH_withItsNeeds_6 ?_
  refine lv_icmp_ge (tgt := 35) hx hb dH_withItsNeeds_9 (by decide) (fun c1 => ?_) (fun c1 => ?_)
  · have hkn : k = n := by have := (nI_leI (by omega) (by omega)).mp c1; omega
    subst hkn
    refine lv_iload_n hx hb dH_withItsNeeds_35 rfl (lv_at hl 2 rfl) ?_
    exact W.iret hx hb hr (fun t ht hW => ⟨_, rfl, rfl, ht⟩) (fun q hq => by cases hq) dH_withItsNeeds_36
  · have hkn : k < n := by
      rcases Nat.lt_or_ge k n with q | q
      · exact q
      · exact absurd (nI_le q (by omega)) c1
    refine lv_iload_n hx hb dH_withItsNeeds_12 rfl (lv_at hl 1 rfl) ?_
    refine lv_iload_n hx hb dH_withItsNeeds_13 rfl (lv_at hl 3 rfl) ?_
    refine callRS (As := [.int (nI S), .int (nI k)]) (rest := []) ⟨hx, hb, hml, hown, hts⟩ tlB (c_H_has l S k hS (by omega)) kw171 kw172 kw26 kw173 ⟨rfl, rfl⟩ (n := 2) (by decide +kernel) ⟨Nat.le_of_ble_eq_true rfl, Nat.le_of_ble_eq_true rfl⟩ (nwP_pre) rfl hl.1 rfl (Nat.le_of_ble_eq_true rfl) ⟨Nat.le_of_ble_eq_true rfl, Nat.le_of_ble_eq_true rfl⟩ dH_withItsNeeds_14 (fun r1 hr1 => ?_)
    refine lv_if_eq (tgt := 29) hx hb dH_withItsNeeds_17 (by decide) (fun c2 => ?_) (fun c2 => ?_)
    · have hbit : S.testBit k = false := by rw [hr1] at c2; split at c2 <;> simp_all
      refine lv_iinc (v := (nI (k + 1))) (lv' := [(3, .int (nI (k + 1))), (0, .ref (a 0)), (1, .int (nI S)), (2, .int (nI (mc_nd D S S k)))]) hx hb dH_withItsNeeds_29 hl (k := 3) rfl (nI_1 k) (by decide) rfl (fun ls hl => ?_)
      refine lv_goto (tgt := 4) hx hb dH_withItsNeeds_32 (by decide) ?_
      exact ih (k + 1) ls hkn (by omega) (lv_sub (l' := [(0, .ref (a 0)), (1, .int (nI S)), (2, .int (nI (mc_nd D S S (k + 1)))), (3, .int (nI (k + 1)))]) hl [1, 2, 3, 0] (by simp [lv_pick, mc_nd, hbit]))
    · have hbit : S.testBit k = true := by rw [hr1] at c2; split at c2 <;> simp_all
      refine lv_iload_n hx hb dH_withItsNeeds_20 rfl (lv_at hl 2 rfl) ?_
      refine lv_aload_n hx hb dH_withItsNeeds_21 rfl (lv_at hl 0 rfl) ?_
      refine va_get (D := (dC, dI)) (ci := 0) (C := RH) (T := FH) (N := 7) hx hb hts (fun w h => List.mem_cons_of_mem _ (inH w h)) hown hK hP 0 rfl rfl 5 (by decide) (hts _ (List.mem_cons_of_mem _ kw62)) (fun _ h9 => h9) rfl dH_withItsNeeds_22 ?_
      refine lv_iload_n hx hb dH_withItsNeeds_25 rfl (lv_at hl 3 rfl) ?_
      refine ialdN hx hb hK hP 4 0 rfl rfl (k := k) (by omega) (by decide) (v := nI (D k)) rfl dH_withItsNeeds_26 ?_
      refine lv_ior hx hb dH_withItsNeeds_27 ?_
      refine lv_topi (fun y1 ey1 => ?_)
      have hy1 : y1 = nI (mc_nd D S S (k + 1)) := by rw [ey1, nI_or]; simp [mc_nd, hbit]
      subst hy1
      refine lv_istore_n (lv' := [(2, .int (nI (mc_nd D S S (k + 1)))), (0, .ref (a 0)), (1, .int (nI S)), (3, .int (nI k))]) hx hb dH_withItsNeeds_28 rfl hl (by decide) rfl (fun ls hl => ?_)
      refine lv_iinc (v := (nI (k + 1))) (lv' := [(3, .int (nI (k + 1))), (2, .int (nI (mc_nd D S S (k + 1)))), (0, .ref (a 0)), (1, .int (nI S))]) hx hb dH_withItsNeeds_29 hl (k := 3) rfl (nI_1 k) (by decide) rfl (fun ls hl => ?_)
      refine lv_goto (tgt := 4) hx hb dH_withItsNeeds_32 (by decide) ?_
      exact ih (k + 1) ls (hkn) (by omega) (lv_sub hl [2, 3, 1, 0] rfl)
theorem mc_itr_small {n : Nat} {D : Nat → Nat} {m : Nat} (hm : m < n) (hn : n ≤ 12) (hD : ∀ m j, (D m).testBit j = true → j < n) (k : Nat) : mc_itr n D (2 ^ m) k < 2 ^ n := by
  apply Nat.lt_pow_two_of_testBit
  intro i hi
  cases hb : (mc_itr n D (2 ^ m) k).testBit i with
  | false => rfl
  | true =>
    have := mc_itr_lt (n := n) (D := D) (S := 2 ^ m) (fun j hj => by rw [Nat.testBit_two_pow] at hj; have : m = j := by simpa using hj
                                                                     omega) hD k i hb
    omega
theorem mc_pow12 {n S : Nat} (hn : n ≤ 12) (h : S < 2 ^ n) : S < 4096 := Nat.lt_of_lt_of_le h (Nat.pow_le_pow_right (by decide) hn)
set_option maxHeartbeats 4000000 in
set_option maxRecDepth 100000 in
theorem c_H_broughtBy (l : Launch) (dC : Nat → ClassId) (dI : Nat → Nat → Nat) (a : Nat → Nat) (cI cG : ClassId) (n v : Nat) (C G X D : Nat → Nat) (B : Nat → Nat → Int) (mm : Nat) (hn : n ≤ 12) (hm : mm < n) (hDD : ∀ m j, (D m).testBit j = true → j < n) : Met l yH_broughtBy wdH_broughtBy ({ frames := 2, cells := 0, slots := 0, locals := 44 }) (roP (dC, dI) mcCl (mcWH a cI cG n v C G X D B) (mcTH cI cG) [.ref (a 0), .int (nI mm)]) (vp_Si (fun r => r = nI (mc_itr n D (2 ^ mm) n))) 0 0 (fun _ => False) := by
  refine Met.ofW (cc := bH_broughtBy) (maxL := 4) (ret := (some FieldType.int)) (by decide) rfl ?_
  intro p e s m args below meth c s₁ BB hml hv
  obtain ⟨rfl, hP, hK⟩ := hv
  have hx := BB.exec
  have hb := BB.bytes
  have hr := BB.returns
  have hts := atoms_spec (ws := wdH_broughtBy) BB.pre
  have hown : s.vm.findClass RH = some m.cls := findClass_of_methodNamed BB.named
  have hlocks := BB.notSynchronized
  have hl := lv_entry ([.ref (a 0), .int (nI mm)]) (n := 4) (Nat.le_of_ble_eq_true rfl)
  rw [lg_entry_eq]
  generalize (lg_sl ([.ref (a 0), .int (nI mm)]) ++ List.replicate (4 - (lg_sl ([.ref (a 0), .int (nI mm)])).length) Slot.unset).toArray = ls at hl ⊢
  have hl : lv_has ls 4 [(0, .ref (a 0)), (1, .int (nI mm))] := hl
  refine lv_iconst (v := 1) hx hb dH_broughtBy_0 (by decide) ?_
  refine lv_iload_n hx hb dH_broughtBy_1 rfl (lv_at hl 1 rfl) ?_
  refine lv_ishl hx hb dH_broughtBy_2 ?_
  refine lv_topi (fun y1 ey1 => ?_)
  have hy1 : y1 = nI (2 ^ mm) := by rw [ey1, nI_bit (by omega)]
  subst hy1
  refine lv_istore_n (lv' := [(2, .int (nI (2 ^ mm))), (0, .ref (a 0)), (1, .int (nI mm))]) hx hb dH_broughtBy_3 rfl hl (by decide) rfl (fun ls hl => ?_)
  refine lv_iconst (v := 0) hx hb dH_broughtBy_4 (by decide) ?_
  refine lv_istore_n (lv' := [(3, .int 0), (2, .int (nI (2 ^ mm))), (0, .ref (a 0)), (1, .int (nI mm))]) hx hb dH_broughtBy_5 rfl hl (by decide) rfl (fun ls hl => ?_)
  refine lpR (σ := Nat) (fun k => k ≤ n) (fun k => [(0, .ref (a 0)), (1, .int (nI mm)), (2, .int (nI (mc_itr n D (2 ^ mm) k))), (3, .int (nI k))]) (fun k => n - k) (fun k ls hI hl ih => ?_) (0) ls (Nat.zero_le _) (lv_sub hl [2, 3, 1, 0] rfl)
  have hl : lv_has ls 4 [(0, .ref (a 0)), (1, .int (nI mm)), (2, .int (nI (mc_itr n D (2 ^ mm) k))), (3, .int (nI k))] := hl
  refine lv_iload_n hx hb dH_broughtBy_6 rfl (lv_at hl 3 rfl) ?_
  refine lv_aload_n hx hb dH_broughtBy_7 rfl (lv_at hl 0 rfl) ?_
  refine va_get (D := (dC, dI)) (ci := 0) (C := RH) (T := FH) (N := 7) hx hb hts (fun w h => List.mem_cons_of_mem _ (inH w h)) hown hK hP 0 rfl rfl 0 (by decide) (hts _ (List.mem_cons_of_mem _ kw50)) (fun _ h9 => h9) rfl dH_broughtBy_8 ?_
  refine lv_icmp_ge (tgt := 26) hx hb dH_broughtBy_11 (by decide) (fun c1 => ?_) (fun c1 => ?_)
  · have hkn : k = n := by have := (nI_leI (by omega) (by omega)).mp c1; omega
    subst hkn
    refine lv_iload_n hx hb dH_broughtBy_26 rfl (lv_at hl 2 rfl) ?_
    exact W.iret hx hb hr (fun t ht hW => ⟨_, rfl, rfl, ht⟩) (fun q hq => by cases hq) dH_broughtBy_27
  · have hkn : k < n := by
      rcases Nat.lt_or_ge k n with q | q
      · exact q
      · exact absurd (nI_le q (by omega)) c1
    refine lv_aload_n hx hb dH_broughtBy_14 rfl (lv_at hl 0 rfl) ?_
    refine lv_iload_n hx hb dH_broughtBy_15 rfl (lv_at hl 2 rfl) ?_
    refine callRV (As := [.int (nI (mc_itr n D (2 ^ mm) k))]) (rest := []) ⟨hx, hb, hml, hown, hts⟩ tlB (c_H_withItsNeeds l dC dI a cI cG n v C G X D B (mc_itr n D (2 ^ mm) k) hn (by have := mc_pow12 hn (mc_itr_small hm hn hDD k); omega)) kw367 kw368 kw8 kw26 kw369 ⟨rfl, rfl⟩ (n := 1) (by decide +kernel) ⟨Nat.le_of_ble_eq_true rfl, Nat.le_of_ble_eq_true rfl⟩ (roP_preV hP hK (ci := 0) (q0 := 0) rfl rfl) rfl hl.1 rfl (Nat.le_of_ble_eq_true rfl) ⟨Nat.le_of_ble_eq_true rfl, Nat.le_of_ble_eq_true rfl⟩ dH_broughtBy_16 (fun r2 hr2 => ?_)
    have hr2 : r2 = nI (mc_itr n D (2 ^ mm) (k + 1)) := hr2
    subst hr2
    refine lv_istore_n (lv' := [(2, .int (nI (mc_itr n D (2 ^ mm) (k + 1)))), (0, .ref (a 0)), (1, .int (nI mm)), (3, .int (nI k))]) hx hb dH_broughtBy_19 rfl hl (by decide) rfl (fun ls hl => ?_)
    refine lv_iinc (v := (nI (k + 1))) (lv' := [(3, .int (nI (k + 1))), (2, .int (nI (mc_itr n D (2 ^ mm) (k + 1)))), (0, .ref (a 0)), (1, .int (nI mm))]) hx hb dH_broughtBy_20 hl (k := 3) rfl (nI_1 k) (by decide) rfl (fun ls hl => ?_)
    refine lv_goto (tgt := 6) hx hb dH_broughtBy_23 (by decide) ?_
    exact ih (k + 1) ls (hkn) (by omega) (lv_sub hl [2, 3, 1, 0] rfl)
def mcZ (P : Prop) (r : Int32) : Prop := (r = 1 ∧ P) ∨ (r = 0 ∧ ¬ P)
theorem nI_and0 {x y : Nat} (hx : x < 2 ^ 31) : (nI x &&& nI y = 0) ↔ x &&& y = 0 := by
  have hle : x &&& y ≤ x := Nat.and_le_left
  rw [nI_and, show (0 : Int32) = nI 0 from rfl, nI_eq (by omega) (by omega)]
set_option maxHeartbeats 4000000 in
set_option maxRecDepth 100000 in
theorem c_H_allows (l : Launch) (dC : Nat → ClassId) (dI : Nat → Nat → Nat) (a : Nat → Nat) (cI cG : ClassId) (n v : Nat) (C G X D : Nat → Nat) (B : Nat → Nat → Int) (S : Nat) (hn : n ≤ 12) (hS : S < 2 ^ 31) (hX : ∀ m, X m < 2 ^ 31) (hDD : ∀ m, D m < 2 ^ 31) : Met l yH_allows wdH_allows ({ frames := 1, cells := 0, slots := 0, locals := 21 }) (roP (dC, dI) mcCl (mcWH a cI cG n v C G X D B) (mcTH cI cG) [.ref (a 0), .int (nI S)]) (vp_Si (fun r => mcZ (mc_law n X D S) r)) 0 0 (fun _ => False) := by
  refine Met.ofW (cc := bH_allows) (maxL := 3) (ret := (some FieldType.boolean)) (by decide) rfl ?_
  intro p e s m args below meth c s₁ BB hml hv
  obtain ⟨rfl, hP, hK⟩ := hv
  have hx := BB.exec
  have hb := BB.bytes
  have hr := BB.returns
  have hts := atoms_spec (ws := wdH_allows) BB.pre
  have hown : s.vm.findClass RH = some m.cls := findClass_of_methodNamed BB.named
  have hlocks := BB.notSynchronized
  have hl := lv_entry ([.ref (a 0), .int (nI S)]) (n := 3) (Nat.le_of_ble_eq_true rfl)
  rw [lg_entry_eq]
  generalize (lg_sl ([.ref (a 0), .int (nI S)]) ++ List.replicate (3 - (lg_sl ([.ref (a 0), .int (nI S)])).length) Slot.unset).toArray = ls at hl ⊢
  have hl : lv_has ls 3 [(0, .ref (a 0)), (1, .int (nI S))] := hl
  refine lv_iconst (v := 0) hx hb dH_allows_0 (by decide) ?_
  refine lv_istore_n (lv' := [(2, .int 0), (0, .ref (a 0)), (1, .int (nI S))]) hx hb dH_allows_1 rfl hl (by decide) rfl (fun ls hl => ?_)
  refine lpR (σ := Nat) (fun k => k ≤ n ∧ ∀ m, m < k → S.testBit m = true → X m &&& S = 0 ∧ D m &&& S = D m) (fun k => [(0, .ref (a 0)), (1, .int (nI S)), (2, .int (nI k))]) (fun k => n - k) (fun k ls hI hl ih => ?_) (0) ls (⟨Nat.zero_le _, fun m h => absurd h (Nat.not_lt_zero m)⟩) (lv_sub hl [1, 2, 0] rfl)
  have hl : lv_has ls 3 [(0, .ref (a 0)), (1, .int (nI S)), (2, .int (nI k))] := hl
  obtain ⟨hk, hall⟩ := hI
  refine lv_iload_n hx hb dH_allows_2 rfl (lv_at hl 2 rfl) ?_
  refine lv_aload_n hx hb dH_allows_3 rfl (lv_at hl 0 rfl) ?_
  refine va_get (D := (dC, dI)) (ci := 0) (C := RH) (T := FH) (N := 7) hx hb hts (fun w h => List.mem_cons_of_mem _ (inH w h)) hown hK hP 0 rfl rfl 0 (by decide) (hts _ (List.mem_cons_of_mem _ kw50)) (fun _ h9 => h9) rfl dH_allows_4 ?_
  refine lv_icmp_ge (tgt := 50) hx hb dH_allows_7 (by decide) (fun c1 => ?_) (fun c1 => ?_)
  · have hkn : k = n := by have := (nI_leI (by omega) (by omega)).mp c1; omega
    subst hkn
    refine lv_iconst (v := 1) hx hb dH_allows_50 (by decide) ?_
    exact W.zret hx hb hr rfl (fun t ht hW => ⟨_, rfl, Or.inl ⟨rfl, hall⟩, ht⟩) (fun q hq => by cases hq) dH_allows_51
  · have hkn : k < n := by
      rcases Nat.lt_or_ge k n with q | q
      · exact q
      · exact absurd (nI_le q (by omega)) c1
    refine lv_iload_n hx hb dH_allows_10 rfl (lv_at hl 1 rfl) ?_
    refine lv_iload_n hx hb dH_allows_11 rfl (lv_at hl 2 rfl) ?_
    refine callRS (As := [.int (nI S), .int (nI k)]) (rest := []) ⟨hx, hb, hml, hown, hts⟩ tlB (c_H_has l S k hS (by omega)) kw171 kw172 kw26 kw173 ⟨rfl, rfl⟩ (n := 2) (by decide +kernel) ⟨Nat.le_of_ble_eq_true rfl, Nat.le_of_ble_eq_true rfl⟩ (nwP_pre) rfl hl.1 rfl (Nat.le_of_ble_eq_true rfl) ⟨Nat.le_of_ble_eq_true rfl, Nat.le_of_ble_eq_true rfl⟩ dH_allows_12 (fun r1 hr1 => ?_)
    refine lv_if_eq (tgt := 44) hx hb dH_allows_15 (by decide) (fun c2 => ?_) (fun c2 => ?_)
    · have hbit : S.testBit k = false := by rw [hr1] at c2; split at c2 <;> simp_all
      refine lv_iinc (v := (nI (k + 1))) (lv' := [(2, .int (nI (k + 1))), (0, .ref (a 0)), (1, .int (nI S))]) hx hb dH_allows_44 hl (k := 2) rfl (nI_1 k) (by decide) rfl (fun ls hl => ?_)
      refine lv_goto (tgt := 2) hx hb dH_allows_47 (by decide) ?_
      exact ih (k + 1) ls (⟨hkn, lt_s hall (fun h => by rw [hbit] at h; cases h)⟩) (by omega) (lv_sub hl [1, 2, 0] rfl)
    · have hbit : S.testBit k = true := by rw [hr1] at c2; split at c2 <;> simp_all
      refine lv_aload_n hx hb dH_allows_18 rfl (lv_at hl 0 rfl) ?_
      refine va_get (D := (dC, dI)) (ci := 0) (C := RH) (T := FH) (N := 7) hx hb hts (fun w h => List.mem_cons_of_mem _ (inH w h)) hown hK hP 0 rfl rfl 4 (by decide) (hts _ (List.mem_cons_of_mem _ kw60)) (fun _ h9 => h9) rfl dH_allows_19 ?_
      refine lv_iload_n hx hb dH_allows_22 rfl (lv_at hl 2 rfl) ?_
      refine ialdN hx hb hK hP 3 0 rfl rfl (k := k) (by omega) (by decide) (v := nI (X k)) rfl dH_allows_23 ?_
      refine lv_iload_n hx hb dH_allows_24 rfl (lv_at hl 1 rfl) ?_
      refine lv_iand hx hb dH_allows_25 ?_
      refine lv_if_ne (tgt := 42) hx hb dH_allows_26 (by decide) (fun c3 => ?_) (fun c3 => ?_)
      · rw [nI_and0 (hX k)] at c3
        refine lv_iconst (v := 0) hx hb dH_allows_42 (by decide) ?_
        exact W.zret hx hb hr rfl (fun t ht hW => ⟨_, rfl, Or.inr ⟨rfl, fun h => c3 (h k hkn hbit).1⟩, ht⟩) (fun q hq => by cases hq) dH_allows_43
      · rw [nI_and0 (hX k)] at c3
        refine lv_aload_n hx hb dH_allows_29 rfl (lv_at hl 0 rfl) ?_
        refine va_get (D := (dC, dI)) (ci := 0) (C := RH) (T := FH) (N := 7) hx hb hts (fun w h => List.mem_cons_of_mem _ (inH w h)) hown hK hP 0 rfl rfl 5 (by decide) (hts _ (List.mem_cons_of_mem _ kw62)) (fun _ h9 => h9) rfl dH_allows_30 ?_
        refine lv_iload_n hx hb dH_allows_33 rfl (lv_at hl 2 rfl) ?_
        refine ialdN hx hb hK hP 4 0 rfl rfl (k := k) (by omega) (by decide) (v := nI (D k)) rfl dH_allows_34 ?_
        refine lv_iload_n hx hb dH_allows_35 rfl (lv_at hl 1 rfl) ?_
        refine lv_iconst (v := (-1)) hx hb dH_allows_36 (by decide) ?_
        refine lv_ixor hx hb dH_allows_37 ?_
        refine lv_iand hx hb dH_allows_38 ?_
        refine lv_if_eq (tgt := 44) hx hb dH_allows_39 (by decide) (fun c4 => ?_) (fun c4 => ?_)
        · rw [nI_sub0 (hDD k) hS] at c4
          refine lv_iinc (v := (nI (k + 1))) (lv' := [(2, .int (nI (k + 1))), (0, .ref (a 0)), (1, .int (nI S))]) hx hb dH_allows_44 hl (k := 2) rfl (nI_1 k) (by decide) rfl (fun ls hl => ?_)
          refine lv_goto (tgt := 2) hx hb dH_allows_47 (by decide) ?_
          exact ih (k + 1) ls (⟨hkn, lt_s hall (fun _ => ⟨c3, c4⟩)⟩) (by omega) (lv_sub hl [1, 2, 0] rfl)
        · rw [nI_sub0 (hDD k) hS] at c4
          refine lv_iconst (v := 0) hx hb dH_allows_42 (by decide) ?_
          exact W.zret hx hb hr rfl (fun t ht hW => ⟨_, rfl, Or.inr ⟨rfl, fun h => c4 (h k hkn hbit).2⟩, ht⟩) (fun q hq => by cases hq) dH_allows_43
end
section
/-! calls of our own methods that write their world -/
section MCW
variable {p : Program} {l : Launch} {e : Env} {R : Room} {s : State} {m : MethodId} {args : Array Value} {below : List Frame} {meth : Method} {c : Code} {H : Heap} {locs : List Loc} {cells slots : Nat} {Q : State → Prop}
variable {cc bytes : ByteArray} {pc : Nat} {ls : Array Slot} {rest st0 As : List Value} {D : va_G} {cl : List vw_C} {A : Nat → Prop} {a nL maxL index n : Nat} {tys : List (ClassId × FieldType)} {w w' : va_W} {H0 : Heap} {own C : String} {y : MethodName} {ret : Option FieldType} {rm : Room} {Ts : List Cond} {b : Addr}
/-- the end of a method that writes its world w to w' -/
abbrev wrQ (D : va_G) (cl : List vw_C) (w w' : va_W) (tys : List (ClassId × FieldType)) (sz : Nat) : Array Value → State → Outcome → State → Prop := va_Qv (fun _ : Unit => True) (fun _ t => va_P D cl w' t.heap ∧ va_K D cl tys t ∧ va_D (va_A w sz) w') (va_A w sz)
/-- .. and answers a number -/
abbrev wrQi (post : Int32 → Prop) (D : va_G) (cl : List vw_C) (w w' : va_W) (tys : List (ClassId × FieldType)) (sz : Nat) : Array Value → State → Outcome → State → Prop := va_Qi (fun r (_ : Unit) => post r) (fun _ t => va_P D cl w' t.heap ∧ va_K D cl tys t ∧ va_D (va_A w sz) w') (va_A w sz)
theorem callWV (S : CallFix p m c cc nL s args Ts own) (hB : ∀ w ∈ mcB, w ∈ Ts) (hM : Met l y (Cond.code y bytes maxL ret :: mcB) rm (wrP D cl w tys H.size (.ref b :: As)) (wrQ D cl w w' tys H.size) 0 0 (va_A w H.size))
    (h1 : Cond.methodLink own index y ∈ mcB) (h2 : Cond.instanceMethod y ∈ mcB) (h3 : Cond.selects C y y ∈ mcB) (h5 : Cond.initialized C ∈ mcB) (h4 : Cond.code y bytes maxL ret ∈ mcB) (hrc : rm.cells = 0 ∧ rm.slots = 0)
    (hd : y.cls = C ∧ y.cls ≠ "java/lang/invoke/MethodHandle" ∧ y.cls ≠ "java/lang/invoke/VarHandle" ∧ (parseMethodDescriptor y.desc).map (fun d => d.parameters.length) = some n) (hR : rm.frames + 1 ≤ R.frames ∧ 8 + (maxL + 11) + rm.locals ≤ R.locals)
    (hP : va_P D cl w H) (hK : va_K D cl tys s) (hD : va_D A w) (hS : va_S A H0 H locs) (hF : ∀ q, va_A w H.size q → A q) {ci q0 : Nat} {T : u_T} {N : Nat} {fs : List Value} (hc : cl[ci]? = some (C, T, N)) (he : w[q0]? = some (b, .inr (ci, fs)))
    (hn : As.length = n) (hsize : ls.size = nL) (hst : st0 = As.reverse ++ .ref b :: rest) (hW : (rest.map fun v => v.category).sum ≤ 8) (hf : cells ≤ R.cells ∧ slots ≤ R.slots) (hdg : decode cc pc = .ok (.invokevirtual index, 3))
    (kk : ∀ (H1 : Heap) (locs1 : List Loc), va_P D cl w' H1 → va_D (va_A w H.size) w' → (∀ q : Nat, q < H.size → ¬ va_A w H.size q → H1[q]? = H[q]?) → va_S A H0 H1 locs1 → W p l e R s m args below meth c H1 locs1 cells slots Q (F0 m (pc + 3) ls rest)) : W p l e R s m args below meth c H locs cells slots Q (F0 m pc ls st0) := by
  refine va_callv (va_runV (As := As) (rest := rest) S hM (cwV n S.2.2.2.2 (gdV hB h1 h2 h3 h5 h4) rfl hrc.1 hrc.2 hd hR) (wrP_preV hP hK hD hc he) rfl hn hsize hst (lv_room hW) hdg hf) hS (fun q _ h => hF q h) hF (fun u t H1 locs1 ht hvm hw hB1 hz1 hk1 hS1 => ?_)
  obtain ⟨hP1, hK1, hD1⟩ := hB1
  rw [ht] at hP1
  exact kk H1 locs1 hP1 hD1 hk1 hS1
theorem callWVi {post : Int32 → Prop} (S : CallFix p m c cc nL s args Ts own) (hB : ∀ w ∈ mcB, w ∈ Ts) (hM : Met l y (Cond.code y bytes maxL ret :: mcB) rm (wrP D cl w tys H.size (.ref b :: As)) (wrQi post D cl w w' tys H.size) 0 0 (va_A w H.size))
    (h1 : Cond.methodLink own index y ∈ mcB) (h2 : Cond.instanceMethod y ∈ mcB) (h3 : Cond.selects C y y ∈ mcB) (h5 : Cond.initialized C ∈ mcB) (h4 : Cond.code y bytes maxL ret ∈ mcB) (hrc : rm.cells = 0 ∧ rm.slots = 0)
    (hd : y.cls = C ∧ y.cls ≠ "java/lang/invoke/MethodHandle" ∧ y.cls ≠ "java/lang/invoke/VarHandle" ∧ (parseMethodDescriptor y.desc).map (fun d => d.parameters.length) = some n) (hR : rm.frames + 1 ≤ R.frames ∧ 8 + (maxL + 11) + rm.locals ≤ R.locals)
    (hP : va_P D cl w H) (hK : va_K D cl tys s) (hD : va_D A w) (hS : va_S A H0 H locs) (hF : ∀ q, va_A w H.size q → A q) {ci q0 : Nat} {T : u_T} {N : Nat} {fs : List Value} (hc : cl[ci]? = some (C, T, N)) (he : w[q0]? = some (b, .inr (ci, fs)))
    (hn : As.length = n) (hsize : ls.size = nL) (hst : st0 = As.reverse ++ .ref b :: rest) (hW : (rest.map fun v => v.category).sum ≤ 8) (hf : cells ≤ R.cells ∧ slots ≤ R.slots) (hdg : decode cc pc = .ok (.invokevirtual index, 3))
    (kk : ∀ (r : Int32) (H1 : Heap) (locs1 : List Loc), post r → va_P D cl w' H1 → va_D (va_A w H.size) w' → (∀ q : Nat, q < H.size → ¬ va_A w H.size q → H1[q]? = H[q]?) → va_S A H0 H1 locs1 → W p l e R s m args below meth c H1 locs1 cells slots Q (F0 m (pc + 3) ls (.int r :: rest))) : W p l e R s m args below meth c H locs cells slots Q (F0 m pc ls st0) := by
  refine va_calli (va_runV (As := As) (rest := rest) S hM (cwV n S.2.2.2.2 (gdV hB h1 h2 h3 h5 h4) rfl hrc.1 hrc.2 hd hR) (wrP_preV hP hK hD hc he) rfl hn hsize hst (lv_room hW) hdg hf) hS (fun q _ h => hF q h) hF (fun r u t H1 locs1 ht hvm hw hB1 hz1 hk1 hS1 => ?_)
  obtain ⟨hP1, hK1, hD1⟩ := hB1
  rw [ht] at hP1
  exact kk r H1 locs1 hw hP1 hD1 hk1 hS1
theorem freeA {A0 : Nat → Prop} {w : va_W} {H0 H : Heap} {locs : List Loc} (hD : va_D A0 w) (hS : va_S A0 H0 H locs) (hA : ∀ q, H0.size ≤ q → A0 q) : ∀ q, va_A w H.size q → A0 q := by
  intro q h
  rcases h with ⟨k, e, h⟩ | h
  · exact hD.2 k (q, e) h
  · exact hA q (Nat.le_trans hS.1 h)
end MCW
end
section
/-! the house: its methods that write -/
set_option maxHeartbeats 4000000 in
set_option maxRecDepth 100000 in
theorem c_H_put (l : Launch) (dC : Nat → ClassId) (dI : Nat → Nat → Nat) (a : Nat → Nat) (cI cG : ClassId) (n v : Nat) (C G X D : Nat → Nat) (B : Nat → Nat → Int) (sz : Nat) (mm cv gv : Nat) (hm : mm < 12) : Met l yH_put wdH_put ({ frames := 0, cells := 0, slots := 0, locals := 0 }) (wrP (dC, dI) mcCl (mcWH a cI cG n v C G X D B) (mcTH cI cG) sz [.ref (a 0), .int (nI mm), .int (nI cv), .int (nI gv)]) (va_Qv (fun _ : Unit => True) (fun _ t => va_P (dC, dI) mcCl (mcWH a cI cG n (v + 1) (va_up C mm cv) (va_up G mm gv) X D B) t.heap ∧ va_K (dC, dI) mcCl (mcTH cI cG) t ∧ va_D (va_A (mcWH a cI cG n v C G X D B) sz) (mcWH a cI cG n (v + 1) (va_up C mm cv) (va_up G mm gv) X D B)) (va_A (mcWH a cI cG n v C G X D B) sz)) 0 0 (va_A (mcWH a cI cG n v C G X D B) sz) := by
  refine Met.ofW (cc := bH_put) (maxL := 4) (ret := none) (by decide) rfl ?_
  intro p e s m args below meth c s₁ BB hml hv
  obtain ⟨rfl, hsz, hP, hK, hD0⟩ := hv
  have hx := BB.exec
  have hb := BB.bytes
  have hr := BB.returns
  have hts := atoms_spec (ws := wdH_put) BB.pre
  have hown : s.vm.findClass RH = some m.cls := findClass_of_methodNamed BB.named
  have hlocks := BB.notSynchronized
  subst hsz
  have hD := hD0.self (sz := s.heap.size)
  generalize hAe : va_A (mcWH a cI cG n v C G X D B) s.heap.size = A at hD ⊢
  have hA : ∀ q : Nat, s.heap.size ≤ q → A q := fun q h => by rw [← hAe]; exact Or.inr h
  have hS : va_S A s.heap s.heap [] := va_S.rf
  have hl := lv_entry ([.ref (a 0), .int (nI mm), .int (nI cv), .int (nI gv)]) (n := 4) (Nat.le_of_ble_eq_true rfl)
  rw [lg_entry_eq]
  generalize (lg_sl ([.ref (a 0), .int (nI mm), .int (nI cv), .int (nI gv)]) ++ List.replicate (4 - (lg_sl ([.ref (a 0), .int (nI mm), .int (nI cv), .int (nI gv)])).length) Slot.unset).toArray = ls at hl ⊢
  have hl : lv_has ls 4 [(0, .ref (a 0)), (1, .int (nI mm)), (2, .int (nI cv)), (3, .int (nI gv))] := hl
  refine lv_aload_n hx hb dH_put_0 rfl (lv_at hl 0 rfl) ?_
  refine va_get (D := (dC, dI)) (ci := 0) (C := RH) (T := FH) (N := 7) hx hb hts (fun w h => List.mem_cons_of_mem _ (inH w h)) hown hK hP 0 rfl rfl 2 (by decide) (hts _ (List.mem_cons_of_mem _ kw56)) (fun _ h9 => h9) rfl dH_put_1 ?_
  refine lv_iload_n hx hb dH_put_4 rfl (lv_at hl 1 rfl) ?_
  refine lv_iload_n hx hb dH_put_5 rfl (lv_at hl 2 rfl) ?_
  refine iastN hx hb hK hP hD hS 1 0 rfl rfl (k := mm) hm (by decide) (x := nI cv) (fun j => nI (va_up C mm cv j)) (fun j => by simp only [va_up]; split <;> rfl) (ws' := mcWH a cI cG n v (va_up C mm cv) G X D B) (rfl) dH_put_6 (fun H locs hP hD hS => ?_)
  refine lv_aload_n hx hb dH_put_7 rfl (lv_at hl 0 rfl) ?_
  refine va_get (D := (dC, dI)) (ci := 0) (C := RH) (T := FH) (N := 7) hx hb hts (fun w h => List.mem_cons_of_mem _ (inH w h)) hown hK hP 0 rfl rfl 3 (by decide) (hts _ (List.mem_cons_of_mem _ kw58)) (fun _ h9 => h9) rfl dH_put_8 ?_
  refine lv_iload_n hx hb dH_put_11 rfl (lv_at hl 1 rfl) ?_
  refine lv_iload_n hx hb dH_put_12 rfl (lv_at hl 3 rfl) ?_
  refine iastN hx hb hK hP hD hS 2 0 rfl rfl (k := mm) hm (by decide) (x := nI gv) (fun j => nI (va_up G mm gv j)) (fun j => by simp only [va_up]; split <;> rfl) (ws' := mcWH a cI cG n v (va_up C mm cv) (va_up G mm gv) X D B) (rfl) dH_put_13 (fun H locs hP hD hS => ?_)
  refine lv_aload_n hx hb dH_put_14 rfl (lv_at hl 0 rfl) ?_
  refine lv_dup hx hb dH_put_15 rfl ?_
  refine va_get (D := (dC, dI)) (ci := 0) (C := RH) (T := FH) (N := 7) hx hb hts (fun w h => List.mem_cons_of_mem _ (inH w h)) hown hK hP 0 rfl rfl 1 (by decide) (hts _ (List.mem_cons_of_mem _ kw54)) (fun _ h9 => h9) rfl dH_put_16 ?_
  refine lv_iconst (v := 1) hx hb dH_put_19 (by decide) ?_
  refine lv_iadd hx hb dH_put_20 ?_
  refine lv_topi (fun y1 ey1 => ?_)
  have hy1 : y1 = nI (v + 1) := by rw [ey1]; exact nI_1 v
  subst hy1
  refine va_put (D := (dC, dI)) (ci := 0) (ty := .int) (C := RH) (T := FH) (N := 7) hx hb hts (fun w h => List.mem_cons_of_mem _ (inH w h)) tH tH_ok nH hown hK hP hD hS 0 rfl rfl 1 (by decide) (hts _ (List.mem_cons_of_mem _ kw54)) (fun _ h9 => h9) rfl (by decide +kernel) rfl rfl (Nat.le_of_ble_eq_true rfl) dH_put_21 (fun H locs hP hD hS => ?_)
  have hP : va_P (dC, dI) mcCl (mcWH a cI cG n (v + 1) (va_up C mm cv) (va_up G mm gv) X D B) H := hP
  have hD : va_D A (mcWH a cI cG n (v + 1) (va_up C mm cv) (va_up G mm gv) X D B) := hD
  exact W.vret hx hb hr (fun t ht hW => ⟨⟨(), rfl, trivial, by rw [ht]; exact hP, va_K.moved hW.alike hK, hD⟩, hS.F ht⟩) hS.2.2 dH_put_24
set_option maxHeartbeats 4000000 in
set_option maxRecDepth 100000 in
theorem c_H_add (l : Launch) (dC : Nat → ClassId) (dI : Nat → Nat → Nat) (a : Nat → Nat) (cI cG : ClassId) (n v : Nat) (C G X D : Nat → Nat) (B : Nat → Nat → Int) (sz : Nat) (cv gv : Nat) (hn : n < 12) : Met l yH_add wdH_add ({ frames := 1, cells := 0, slots := 0, locals := 23 }) (wrP (dC, dI) mcCl (mcWH a cI cG n v C G X D B) (mcTH cI cG) sz [.ref (a 0), .int (nI cv), .int (nI gv)]) (va_Qi (fun r (_ : Unit) => r = nI n) (fun _ t => va_P (dC, dI) mcCl (mcWH a cI cG (n + 1) (v + 1) (va_up C n cv) (va_up G n gv) X D B) t.heap ∧ va_K (dC, dI) mcCl (mcTH cI cG) t ∧ va_D (va_A (mcWH a cI cG n v C G X D B) sz) (mcWH a cI cG (n + 1) (v + 1) (va_up C n cv) (va_up G n gv) X D B)) (va_A (mcWH a cI cG n v C G X D B) sz)) 0 0 (va_A (mcWH a cI cG n v C G X D B) sz) := by
  refine Met.ofW (cc := bH_add) (maxL := 4) (ret := (some FieldType.int)) (by decide) rfl ?_
  intro p e s m args below meth c s₁ BB hml hv
  obtain ⟨rfl, hsz, hP, hK, hD0⟩ := hv
  have hx := BB.exec
  have hb := BB.bytes
  have hr := BB.returns
  have hts := atoms_spec (ws := wdH_add) BB.pre
  have hown : s.vm.findClass RH = some m.cls := findClass_of_methodNamed BB.named
  have hlocks := BB.notSynchronized
  subst hsz
  have hD := hD0.self (sz := s.heap.size)
  generalize hAe : va_A (mcWH a cI cG n v C G X D B) s.heap.size = A at hD ⊢
  have hA : ∀ q : Nat, s.heap.size ≤ q → A q := fun q h => by rw [← hAe]; exact Or.inr h
  have hS : va_S A s.heap s.heap [] := va_S.rf
  have hl := lv_entry ([.ref (a 0), .int (nI cv), .int (nI gv)]) (n := 4) (Nat.le_of_ble_eq_true rfl)
  rw [lg_entry_eq]
  generalize (lg_sl ([.ref (a 0), .int (nI cv), .int (nI gv)]) ++ List.replicate (4 - (lg_sl ([.ref (a 0), .int (nI cv), .int (nI gv)])).length) Slot.unset).toArray = ls at hl ⊢
  have hl : lv_has ls 4 [(0, .ref (a 0)), (1, .int (nI cv)), (2, .int (nI gv))] := hl
  refine lv_aload_n hx hb dH_add_0 rfl (lv_at hl 0 rfl) ?_
  refine va_get (D := (dC, dI)) (ci := 0) (C := RH) (T := FH) (N := 7) hx hb hts (fun w h => List.mem_cons_of_mem _ (inH w h)) hown hK hP 0 rfl rfl 0 (by decide) (hts _ (List.mem_cons_of_mem _ kw50)) (fun _ h9 => h9) rfl dH_add_1 ?_
  refine lv_istore_n (lv' := [(3, .int (nI n)), (0, .ref (a 0)), (1, .int (nI cv)), (2, .int (nI gv))]) hx hb dH_add_4 rfl hl (by decide) rfl (fun ls hl => ?_)
  refine lv_aload_n hx hb dH_add_5 rfl (lv_at hl 1 rfl) ?_
  refine lv_dup hx hb dH_add_6 rfl ?_
  refine va_get (D := (dC, dI)) (ci := 0) (C := RH) (T := FH) (N := 7) hx hb hts (fun w h => List.mem_cons_of_mem _ (inH w h)) hown hK hP 0 rfl rfl 0 (by decide) (hts _ (List.mem_cons_of_mem _ kw50)) (fun _ h9 => h9) rfl dH_add_7 ?_
  refine lv_iconst (v := 1) hx hb dH_add_10 (by decide) ?_
  refine lv_iadd hx hb dH_add_11 ?_
  refine lv_topi (fun y1 ey1 => ?_)
  have hy1 : y1 = nI (n + 1) := by rw [ey1]; exact nI_1 n
  subst hy1
  refine va_put (D := (dC, dI)) (ci := 0) (ty := .int) (C := RH) (T := FH) (N := 7) hx hb hts (fun w h => List.mem_cons_of_mem _ (inH w h)) tH tH_ok nH hown hK hP hD hS 0 rfl rfl 0 (by decide) (hts _ (List.mem_cons_of_mem _ kw50)) (fun _ h9 => h9) rfl (by decide +kernel) rfl rfl (Nat.le_of_ble_eq_true rfl) dH_add_12 (fun H locs hP hD hS => ?_)
  have hP : va_P (dC, dI) mcCl (mcWH a cI cG (n + 1) v C G X D B) H := hP
  have hD : va_D A (mcWH a cI cG (n + 1) v C G X D B) := hD
  refine lv_aload_n hx hb dH_add_15 rfl (lv_at hl 1 rfl) ?_
  refine lv_iload_n hx hb dH_add_16 rfl (lv_at hl 0 rfl) ?_
  refine lv_iload_n hx hb dH_add_17 rfl (lv_at hl 2 rfl) ?_
  refine lv_iload_n hx hb dH_add_18 rfl (lv_at hl 3 rfl) ?_
  have hF := freeA hD hS hA
  refine callWV (As := [.int (nI n), .int (nI cv), .int (nI gv)]) (rest := []) ⟨hx, hb, hml, hown, hts⟩ tlB (c_H_put l dC dI a cI cG (n + 1) v C G X D B H.size n cv gv (by omega)) kw272 kw273 kw274 kw26 kw275 ⟨rfl, rfl⟩ (n := 3) (by decide +kernel) ⟨Nat.le_of_ble_eq_true rfl, Nat.le_of_ble_eq_true rfl⟩ hP hK hD hS hF (ci := 0) (q0 := 0) rfl rfl rfl hl.1 rfl (Nat.le_of_ble_eq_true rfl) ⟨Nat.le_of_ble_eq_true rfl, Nat.le_of_ble_eq_true rfl⟩ dH_add_19 (fun H1 locs1 hP1 hD1 hk1 hS1 => ?_)
  have hD := hD1.weaken (fun _ q _ h => hF q.1 h)
  have hP := hP1
  have hS := hS1
  refine lv_iload_n hx hb dH_add_22 rfl (lv_at hl 0 rfl) ?_
  exact W.iret (v := (nI n)) hx hb hr (fun t ht hW => ⟨⟨(nI n), (), rfl, rfl, by rw [ht]; exact hP, va_K.moved hW.alike hK, hD⟩, hS.F ht⟩) hS.2.2 dH_add_23
/-- a set with a bit put or taken -/
def mcBit (S k : Nat) (o : Int32) : Nat := if o = 0 then S &&& (2 ^ k ^^^ 4294967295) else S ||| 2 ^ k
theorem mcBit_nI (S k : Nat) (o : Int32) : (if o = 0 then nI (S &&& (2 ^ k ^^^ 4294967295)) else nI (S ||| 2 ^ k)) = nI (mcBit S k o) := by unfold mcBit; split <;> rfl
theorem mcBit_lt {S k : Nat} {o : Int32} {N : Nat} (hS : S < 2 ^ N) (hk : k < N) : mcBit S k o < 2 ^ N := by
  unfold mcBit
  split
  · exact Nat.lt_of_le_of_lt Nat.and_le_left hS
  · exact Nat.or_lt_two_pow hS (Nat.pow_lt_pow_right (by decide) hk)
theorem mcBit_at {S k j : Nat} {o : Int32} (hj : j < 32) : (mcBit S k o).testBit j = if k = j then decide (o ≠ 0) else S.testBit j := by
  unfold mcBit
  have hf : Nat.testBit 4294967295 j = true := by
    rw [show (4294967295 : Nat) = 2 ^ 32 - 1 from rfl, Nat.testBit_two_pow_sub_one]
    simpa using hj
  split
  · rename_i h
    rw [Nat.testBit_and, Nat.testBit_xor, Nat.testBit_two_pow, hf]
    by_cases e : k = j <;> simp [e, h]
  · rename_i h
    rw [Nat.testBit_or, Nat.testBit_two_pow]
    by_cases e : k = j <;> simp [e, h]
set_option maxHeartbeats 4000000 in
set_option maxRecDepth 100000 in
theorem c_H_putExcluded (l : Launch) (dC : Nat → ClassId) (dI : Nat → Nat → Nat) (a : Nat → Nat) (cI cG : ClassId) (n v : Nat) (C G X D : Nat → Nat) (B : Nat → Nat → Int) (sz : Nat) (mm oo : Nat) (o : Int32) (hm : mm < 12) (ho : oo < 12) (hX : ∀ m, X m < 4096) : Met l yH_putExcluded wdH_putExcluded ({ frames := 1, cells := 0, slots := 0, locals := 23 }) (wrP (dC, dI) mcCl (mcWH a cI cG n v C G X D B) (mcTH cI cG) sz [.ref (a 0), .int (nI mm), .int (nI oo), .int o]) (va_Qv (fun _ : Unit => True) (fun _ t => va_P (dC, dI) mcCl (mcWH a cI cG n (v + 1) C G (va_up (va_up X mm (mcBit (X mm) oo o)) oo (mcBit ((va_up X mm (mcBit (X mm) oo o)) oo) mm o)) D B) t.heap ∧ va_K (dC, dI) mcCl (mcTH cI cG) t ∧ va_D (va_A (mcWH a cI cG n v C G X D B) sz) (mcWH a cI cG n (v + 1) C G (va_up (va_up X mm (mcBit (X mm) oo o)) oo (mcBit ((va_up X mm (mcBit (X mm) oo o)) oo) mm o)) D B)) (va_A (mcWH a cI cG n v C G X D B) sz)) 0 0 (va_A (mcWH a cI cG n v C G X D B) sz) := by
  refine Met.ofW (cc := bH_putExcluded) (maxL := 4) (ret := none) (by decide) rfl ?_
  intro p e s m args below meth c s₁ BB hml hv
  obtain ⟨rfl, hsz, hP, hK, hD0⟩ := hv
  have hx := BB.exec
  have hb := BB.bytes
  have hr := BB.returns
  have hts := atoms_spec (ws := wdH_putExcluded) BB.pre
  have hown : s.vm.findClass RH = some m.cls := findClass_of_methodNamed BB.named
  have hlocks := BB.notSynchronized
  subst hsz
  have hD := hD0.self (sz := s.heap.size)
  generalize hAe : va_A (mcWH a cI cG n v C G X D B) s.heap.size = A at hD ⊢
  have hA : ∀ q : Nat, s.heap.size ≤ q → A q := fun q h => by rw [← hAe]; exact Or.inr h
  have hS : va_S A s.heap s.heap [] := va_S.rf
  have hl := lv_entry ([.ref (a 0), .int (nI mm), .int (nI oo), .int o]) (n := 4) (Nat.le_of_ble_eq_true rfl)
  rw [lg_entry_eq]
  generalize (lg_sl ([.ref (a 0), .int (nI mm), .int (nI oo), .int o]) ++ List.replicate (4 - (lg_sl ([.ref (a 0), .int (nI mm), .int (nI oo), .int o])).length) Slot.unset).toArray = ls at hl ⊢
  have hl : lv_has ls 4 [(0, .ref (a 0)), (1, .int (nI mm)), (2, .int (nI oo)), (3, .int o)] := hl
  refine lv_aload_n hx hb dH_putExcluded_0 rfl (lv_at hl 0 rfl) ?_
  refine va_get (D := (dC, dI)) (ci := 0) (C := RH) (T := FH) (N := 7) hx hb hts (fun w h => List.mem_cons_of_mem _ (inH w h)) hown hK hP 0 rfl rfl 4 (by decide) (hts _ (List.mem_cons_of_mem _ kw60)) (fun _ h9 => h9) rfl dH_putExcluded_1 ?_
  refine lv_iload_n hx hb dH_putExcluded_4 rfl (lv_at hl 1 rfl) ?_
  refine lv_aload_n hx hb dH_putExcluded_5 rfl (lv_at hl 0 rfl) ?_
  refine va_get (D := (dC, dI)) (ci := 0) (C := RH) (T := FH) (N := 7) hx hb hts (fun w h => List.mem_cons_of_mem _ (inH w h)) hown hK hP 0 rfl rfl 4 (by decide) (hts _ (List.mem_cons_of_mem _ kw60)) (fun _ h9 => h9) rfl dH_putExcluded_6 ?_
  refine lv_iload_n hx hb dH_putExcluded_9 rfl (lv_at hl 1 rfl) ?_
  refine ialdN hx hb hK hP 3 0 rfl rfl (k := mm) hm (by decide) (v := nI (X mm)) rfl dH_putExcluded_10 ?_
  refine lv_iload_n hx hb dH_putExcluded_11 rfl (lv_at hl 2 rfl) ?_
  refine lv_iload_n hx hb dH_putExcluded_12 rfl (lv_at hl 3 rfl) ?_
  refine callRS (As := [.int (nI (X mm)), .int (nI oo), .int o]) (rest := [.int (nI mm), .ref (a 3)]) ⟨hx, hb, hml, hown, hts⟩ tlB (c_H_with l (X mm) oo o (by have := hX mm; omega) (by omega)) kw302 kw303 kw26 kw304 ⟨rfl, rfl⟩ (n := 3) (by decide +kernel) ⟨Nat.le_of_ble_eq_true rfl, Nat.le_of_ble_eq_true rfl⟩ (nwP_pre) rfl hl.1 rfl (Nat.le_of_ble_eq_true rfl) ⟨Nat.le_of_ble_eq_true rfl, Nat.le_of_ble_eq_true rfl⟩ dH_putExcluded_13 (fun r1 hr1 => ?_)
  have hr1 : r1 = nI (mcBit (X mm) oo o) := hr1.trans (mcBit_nI _ _ _)
  subst hr1
  refine iastN hx hb hK hP hD hS 3 0 rfl rfl (k := mm) hm (by decide) (x := nI (mcBit (X mm) oo o)) (fun j => nI (va_up X mm (mcBit (X mm) oo o) j)) (fun j => by simp only [va_up]; split <;> rfl) (ws' := mcWH a cI cG n v C G (va_up X mm (mcBit (X mm) oo o)) D B) (rfl) dH_putExcluded_16 (fun H locs hP hD hS => ?_)
  refine lv_aload_n hx hb dH_putExcluded_17 rfl (lv_at hl 0 rfl) ?_
  refine va_get (D := (dC, dI)) (ci := 0) (C := RH) (T := FH) (N := 7) hx hb hts (fun w h => List.mem_cons_of_mem _ (inH w h)) hown hK hP 0 rfl rfl 4 (by decide) (hts _ (List.mem_cons_of_mem _ kw60)) (fun _ h9 => h9) rfl dH_putExcluded_18 ?_
  refine lv_iload_n hx hb dH_putExcluded_21 rfl (lv_at hl 2 rfl) ?_
  refine lv_aload_n hx hb dH_putExcluded_22 rfl (lv_at hl 0 rfl) ?_
  refine va_get (D := (dC, dI)) (ci := 0) (C := RH) (T := FH) (N := 7) hx hb hts (fun w h => List.mem_cons_of_mem _ (inH w h)) hown hK hP 0 rfl rfl 4 (by decide) (hts _ (List.mem_cons_of_mem _ kw60)) (fun _ h9 => h9) rfl dH_putExcluded_23 ?_
  refine lv_iload_n hx hb dH_putExcluded_26 rfl (lv_at hl 2 rfl) ?_
  refine ialdN hx hb hK hP 3 0 rfl rfl (k := oo) ho (by decide) (v := nI ((va_up X mm (mcBit (X mm) oo o)) oo)) rfl dH_putExcluded_27 ?_
  refine lv_iload_n hx hb dH_putExcluded_28 rfl (lv_at hl 1 rfl) ?_
  refine lv_iload_n hx hb dH_putExcluded_29 rfl (lv_at hl 3 rfl) ?_
  have hlt : (va_up X mm (mcBit (X mm) oo o)) oo < 2 ^ 31 := by
    simp only [va_up]
    split
    · exact Nat.lt_of_lt_of_le (mcBit_lt (N := 12) (hX mm) ho) (by decide)
    · have := hX oo; omega
  refine callRS (As := [.int (nI ((va_up X mm (mcBit (X mm) oo o)) oo)), .int (nI mm), .int o]) (rest := [.int (nI oo), .ref (a 3)]) ⟨hx, hb, hml, hown, hts⟩ tlB (c_H_with l ((va_up X mm (mcBit (X mm) oo o)) oo) mm o hlt (by omega)) kw302 kw303 kw26 kw304 ⟨rfl, rfl⟩ (n := 3) (by decide +kernel) ⟨Nat.le_of_ble_eq_true rfl, Nat.le_of_ble_eq_true rfl⟩ (nwP_pre) rfl hl.1 rfl (Nat.le_of_ble_eq_true rfl) ⟨Nat.le_of_ble_eq_true rfl, Nat.le_of_ble_eq_true rfl⟩ dH_putExcluded_30 (fun r2 hr2 => ?_)
  have hr2 : r2 = nI (mcBit ((va_up X mm (mcBit (X mm) oo o)) oo) mm o) := hr2.trans (mcBit_nI _ _ _)
  subst hr2
  refine iastN hx hb hK hP hD hS 3 0 rfl rfl (k := oo) ho (by decide) (x := nI (mcBit ((va_up X mm (mcBit (X mm) oo o)) oo) mm o)) (fun j => nI ((va_up (va_up X mm (mcBit (X mm) oo o)) oo (mcBit ((va_up X mm (mcBit (X mm) oo o)) oo) mm o)) j)) (fun j => by rw [show va_up (va_up X mm (mcBit (X mm) oo o)) oo (mcBit ((va_up X mm (mcBit (X mm) oo o)) oo) mm o) j = if j = oo then mcBit ((va_up X mm (mcBit (X mm) oo o)) oo) mm o else (va_up X mm (mcBit (X mm) oo o)) j from rfl]; split <;> rfl) (ws' := mcWH a cI cG n v C G (va_up (va_up X mm (mcBit (X mm) oo o)) oo (mcBit ((va_up X mm (mcBit (X mm) oo o)) oo) mm o)) D B) (rfl) dH_putExcluded_33 (fun H locs hP hD hS => ?_)
  refine lv_aload_n hx hb dH_putExcluded_34 rfl (lv_at hl 0 rfl) ?_
  refine lv_dup hx hb dH_putExcluded_35 rfl ?_
  refine va_get (D := (dC, dI)) (ci := 0) (C := RH) (T := FH) (N := 7) hx hb hts (fun w h => List.mem_cons_of_mem _ (inH w h)) hown hK hP 0 rfl rfl 1 (by decide) (hts _ (List.mem_cons_of_mem _ kw54)) (fun _ h9 => h9) rfl dH_putExcluded_36 ?_
  refine lv_iconst (v := 1) hx hb dH_putExcluded_39 (by decide) ?_
  refine lv_iadd hx hb dH_putExcluded_40 ?_
  refine lv_topi (fun y1 ey1 => ?_)
  have hy1 : y1 = nI (v + 1) := by rw [ey1]; exact nI_1 v
  subst hy1
  refine va_put (D := (dC, dI)) (ci := 0) (ty := .int) (C := RH) (T := FH) (N := 7) hx hb hts (fun w h => List.mem_cons_of_mem _ (inH w h)) tH tH_ok nH hown hK hP hD hS 0 rfl rfl 1 (by decide) (hts _ (List.mem_cons_of_mem _ kw54)) (fun _ h9 => h9) rfl (by decide +kernel) rfl rfl (Nat.le_of_ble_eq_true rfl) dH_putExcluded_41 (fun H locs hP hD hS => ?_)
  have hP : va_P (dC, dI) mcCl (mcWH a cI cG n (v + 1) C G (va_up (va_up X mm (mcBit (X mm) oo o)) oo (mcBit ((va_up X mm (mcBit (X mm) oo o)) oo) mm o)) D B) H := hP
  have hD : va_D A (mcWH a cI cG n (v + 1) C G (va_up (va_up X mm (mcBit (X mm) oo o)) oo (mcBit ((va_up X mm (mcBit (X mm) oo o)) oo) mm o)) D B) := hD
  exact W.vret hx hb hr (fun t ht hW => ⟨⟨(), rfl, trivial, by rw [ht]; exact hP, va_K.moved hW.alike hK, hD⟩, hS.F ht⟩) hS.2.2 dH_putExcluded_44
set_option maxHeartbeats 4000000 in
set_option maxRecDepth 100000 in
theorem c_H_putNeeded (l : Launch) (dC : Nat → ClassId) (dI : Nat → Nat → Nat) (a : Nat → Nat) (cI cG : ClassId) (n v : Nat) (C G X D : Nat → Nat) (B : Nat → Nat → Int) (sz : Nat) (mm oo : Nat) (o : Int32) (hm : mm < 12) (ho : oo < 12) (hD9 : ∀ m, D m < 4096) : Met l yH_putNeeded wdH_putNeeded ({ frames := 1, cells := 0, slots := 0, locals := 23 }) (wrP (dC, dI) mcCl (mcWH a cI cG n v C G X D B) (mcTH cI cG) sz [.ref (a 0), .int (nI mm), .int (nI oo), .int o]) (va_Qv (fun _ : Unit => True) (fun _ t => va_P (dC, dI) mcCl (mcWH a cI cG n (v + 1) C G X (va_up D mm (mcBit (D mm) oo o)) B) t.heap ∧ va_K (dC, dI) mcCl (mcTH cI cG) t ∧ va_D (va_A (mcWH a cI cG n v C G X D B) sz) (mcWH a cI cG n (v + 1) C G X (va_up D mm (mcBit (D mm) oo o)) B)) (va_A (mcWH a cI cG n v C G X D B) sz)) 0 0 (va_A (mcWH a cI cG n v C G X D B) sz) := by
  refine Met.ofW (cc := bH_putNeeded) (maxL := 4) (ret := none) (by decide) rfl ?_
  intro p e s m args below meth c s₁ BB hml hv
  obtain ⟨rfl, hsz, hP, hK, hD0⟩ := hv
  have hx := BB.exec
  have hb := BB.bytes
  have hr := BB.returns
  have hts := atoms_spec (ws := wdH_putNeeded) BB.pre
  have hown : s.vm.findClass RH = some m.cls := findClass_of_methodNamed BB.named
  have hlocks := BB.notSynchronized
  subst hsz
  have hD := hD0.self (sz := s.heap.size)
  generalize hAe : va_A (mcWH a cI cG n v C G X D B) s.heap.size = A at hD ⊢
  have hA : ∀ q : Nat, s.heap.size ≤ q → A q := fun q h => by rw [← hAe]; exact Or.inr h
  have hS : va_S A s.heap s.heap [] := va_S.rf
  have hl := lv_entry ([.ref (a 0), .int (nI mm), .int (nI oo), .int o]) (n := 4) (Nat.le_of_ble_eq_true rfl)
  rw [lg_entry_eq]
  generalize (lg_sl ([.ref (a 0), .int (nI mm), .int (nI oo), .int o]) ++ List.replicate (4 - (lg_sl ([.ref (a 0), .int (nI mm), .int (nI oo), .int o])).length) Slot.unset).toArray = ls at hl ⊢
  have hl : lv_has ls 4 [(0, .ref (a 0)), (1, .int (nI mm)), (2, .int (nI oo)), (3, .int o)] := hl
  refine lv_aload_n hx hb dH_putNeeded_0 rfl (lv_at hl 0 rfl) ?_
  refine va_get (D := (dC, dI)) (ci := 0) (C := RH) (T := FH) (N := 7) hx hb hts (fun w h => List.mem_cons_of_mem _ (inH w h)) hown hK hP 0 rfl rfl 5 (by decide) (hts _ (List.mem_cons_of_mem _ kw62)) (fun _ h9 => h9) rfl dH_putNeeded_1 ?_
  refine lv_iload_n hx hb dH_putNeeded_4 rfl (lv_at hl 1 rfl) ?_
  refine lv_aload_n hx hb dH_putNeeded_5 rfl (lv_at hl 0 rfl) ?_
  refine va_get (D := (dC, dI)) (ci := 0) (C := RH) (T := FH) (N := 7) hx hb hts (fun w h => List.mem_cons_of_mem _ (inH w h)) hown hK hP 0 rfl rfl 5 (by decide) (hts _ (List.mem_cons_of_mem _ kw62)) (fun _ h9 => h9) rfl dH_putNeeded_6 ?_
  refine lv_iload_n hx hb dH_putNeeded_9 rfl (lv_at hl 1 rfl) ?_
  refine ialdN hx hb hK hP 4 0 rfl rfl (k := mm) hm (by decide) (v := nI (D mm)) rfl dH_putNeeded_10 ?_
  refine lv_iload_n hx hb dH_putNeeded_11 rfl (lv_at hl 2 rfl) ?_
  refine lv_iload_n hx hb dH_putNeeded_12 rfl (lv_at hl 3 rfl) ?_
  refine callRS (As := [.int (nI (D mm)), .int (nI oo), .int o]) (rest := [.int (nI mm), .ref (a 4)]) ⟨hx, hb, hml, hown, hts⟩ tlB (c_H_with l (D mm) oo o (by have := hD9 mm; omega) (by omega)) kw302 kw303 kw26 kw304 ⟨rfl, rfl⟩ (n := 3) (by decide +kernel) ⟨Nat.le_of_ble_eq_true rfl, Nat.le_of_ble_eq_true rfl⟩ (nwP_pre) rfl hl.1 rfl (Nat.le_of_ble_eq_true rfl) ⟨Nat.le_of_ble_eq_true rfl, Nat.le_of_ble_eq_true rfl⟩ dH_putNeeded_13 (fun r1 hr1 => ?_)
  have hr1 : r1 = nI (mcBit (D mm) oo o) := hr1.trans (mcBit_nI _ _ _)
  subst hr1
  refine iastN hx hb hK hP hD hS 4 0 rfl rfl (k := mm) hm (by decide) (x := nI (mcBit (D mm) oo o)) (fun j => nI (va_up D mm (mcBit (D mm) oo o) j)) (fun j => by simp only [va_up]; split <;> rfl) (ws' := mcWH a cI cG n v C G X (va_up D mm (mcBit (D mm) oo o)) B) (rfl) dH_putNeeded_16 (fun H locs hP hD hS => ?_)
  refine lv_aload_n hx hb dH_putNeeded_17 rfl (lv_at hl 0 rfl) ?_
  refine lv_dup hx hb dH_putNeeded_18 rfl ?_
  refine va_get (D := (dC, dI)) (ci := 0) (C := RH) (T := FH) (N := 7) hx hb hts (fun w h => List.mem_cons_of_mem _ (inH w h)) hown hK hP 0 rfl rfl 1 (by decide) (hts _ (List.mem_cons_of_mem _ kw54)) (fun _ h9 => h9) rfl dH_putNeeded_19 ?_
  refine lv_iconst (v := 1) hx hb dH_putNeeded_22 (by decide) ?_
  refine lv_iadd hx hb dH_putNeeded_23 ?_
  refine lv_topi (fun y1 ey1 => ?_)
  have hy1 : y1 = nI (v + 1) := by rw [ey1]; exact nI_1 v
  subst hy1
  refine va_put (D := (dC, dI)) (ci := 0) (ty := .int) (C := RH) (T := FH) (N := 7) hx hb hts (fun w h => List.mem_cons_of_mem _ (inH w h)) tH tH_ok nH hown hK hP hD hS 0 rfl rfl 1 (by decide) (hts _ (List.mem_cons_of_mem _ kw54)) (fun _ h9 => h9) rfl (by decide +kernel) rfl rfl (Nat.le_of_ble_eq_true rfl) dH_putNeeded_24 (fun H locs hP hD hS => ?_)
  have hP : va_P (dC, dI) mcCl (mcWH a cI cG n (v + 1) C G X (va_up D mm (mcBit (D mm) oo o)) B) H := hP
  have hD : va_D A (mcWH a cI cG n (v + 1) C G X (va_up D mm (mcBit (D mm) oo o)) B) := hD
  exact W.vret hx hb hr (fun t ht hW => ⟨⟨(), rfl, trivial, by rw [ht]; exact hP, va_K.moved hW.alike hK, hD⟩, hS.F ht⟩) hS.2.2 dH_putNeeded_27
/-- a table with one number put -/
def mcB2 (B : Nat → Nat → Int) (i j : Nat) (z : Int) : Nat → Nat → Int := fun x y => if x = i ∧ y = j then z else B x y
theorem mcWH_rows {a : Nat → Nat} {cI cG : ClassId} {n v : Nat} {C G X D : Nat → Nat} {B B' : Nat → Nat → Int} {i : Nat} (hi : i < 12) (h : ∀ j, j ≠ i → B' j = B j) : (mcWH a cI cG n v C G X D B).set (6 + i) (a (6 + i), .inl (cI, 12, .inl (fun k => iI (B' i k)))) = mcWH a cI cG n v C G X D B' := by
  apply List.ext_getElem?
  intro k
  by_cases hk : k = 6 + i
  · subst hk
    rw [List.getElem?_set_self (by simp [mcWH]; omega), mcWH_row hi]
  · rw [List.getElem?_set_ne (Ne.symm hk)]
    by_cases h6 : k < 6
    · rcases (show k = 0 ∨ k = 1 ∨ k = 2 ∨ k = 3 ∨ k = 4 ∨ k = 5 by omega) with rfl | rfl | rfl | rfl | rfl | rfl <;> rfl
    · by_cases h18 : k < 18
      · rw [show k = 6 + (k - 6) by omega, mcWH_row (by omega), mcWH_row (by omega), h (k - 6) (by omega)]
      · rw [List.getElem?_eq_none (by simp [mcWH]; omega), List.getElem?_eq_none (by simp [mcWH]; omega)]
set_option maxHeartbeats 4000000 in
set_option maxRecDepth 100000 in
theorem c_H_putBonus (l : Launch) (dC : Nat → ClassId) (dI : Nat → Nat → Nat) (a : Nat → Nat) (cI cG : ClassId) (n v : Nat) (C G X D : Nat → Nat) (B : Nat → Nat → Int) (sz : Nat) (mm oo : Nat) (z : Int) (hm : mm < 12) (ho : oo < 12) : Met l yH_putBonus wdH_putBonus ({ frames := 0, cells := 0, slots := 0, locals := 0 }) (wrP (dC, dI) mcCl (mcWH a cI cG n v C G X D B) (mcTH cI cG) sz [.ref (a 0), .int (nI mm), .int (nI oo), .int (iI z)]) (va_Qv (fun _ : Unit => True) (fun _ t => va_P (dC, dI) mcCl (mcWH a cI cG n (v + 1) C G X D (mcB2 (mcB2 B mm oo z) oo mm z)) t.heap ∧ va_K (dC, dI) mcCl (mcTH cI cG) t ∧ va_D (va_A (mcWH a cI cG n v C G X D B) sz) (mcWH a cI cG n (v + 1) C G X D (mcB2 (mcB2 B mm oo z) oo mm z))) (va_A (mcWH a cI cG n v C G X D B) sz)) 0 0 (va_A (mcWH a cI cG n v C G X D B) sz) := by
  refine Met.ofW (cc := bH_putBonus) (maxL := 4) (ret := none) (by decide) rfl ?_
  intro p e s m args below meth c s₁ BB hml hv
  obtain ⟨rfl, hsz, hP, hK, hD0⟩ := hv
  have hx := BB.exec
  have hb := BB.bytes
  have hr := BB.returns
  have hts := atoms_spec (ws := wdH_putBonus) BB.pre
  have hown : s.vm.findClass RH = some m.cls := findClass_of_methodNamed BB.named
  have hlocks := BB.notSynchronized
  subst hsz
  have hD := hD0.self (sz := s.heap.size)
  generalize hAe : va_A (mcWH a cI cG n v C G X D B) s.heap.size = A at hD ⊢
  have hA : ∀ q : Nat, s.heap.size ≤ q → A q := fun q h => by rw [← hAe]; exact Or.inr h
  have hS : va_S A s.heap s.heap [] := va_S.rf
  have hl := lv_entry ([.ref (a 0), .int (nI mm), .int (nI oo), .int (iI z)]) (n := 4) (Nat.le_of_ble_eq_true rfl)
  rw [lg_entry_eq]
  generalize (lg_sl ([.ref (a 0), .int (nI mm), .int (nI oo), .int (iI z)]) ++ List.replicate (4 - (lg_sl ([.ref (a 0), .int (nI mm), .int (nI oo), .int (iI z)])).length) Slot.unset).toArray = ls at hl ⊢
  have hl : lv_has ls 4 [(0, .ref (a 0)), (1, .int (nI mm)), (2, .int (nI oo)), (3, .int (iI z))] := hl
  refine lv_aload_n hx hb dH_putBonus_0 rfl (lv_at hl 0 rfl) ?_
  refine va_get (D := (dC, dI)) (ci := 0) (C := RH) (T := FH) (N := 7) hx hb hts (fun w h => List.mem_cons_of_mem _ (inH w h)) hown hK hP 0 rfl rfl 6 (by decide) (hts _ (List.mem_cons_of_mem _ kw64)) (fun _ h9 => h9) rfl dH_putBonus_1 ?_
  refine lv_iload_n hx hb dH_putBonus_4 rfl (lv_at hl 1 rfl) ?_
  refine aldaN hx hb hK hP 5 1 rfl rfl (k := mm) hm (by decide) (r := (a (6 + mm))) (if_pos hm) dH_putBonus_5 ?_
  refine lv_iload_n hx hb dH_putBonus_6 rfl (lv_at hl 2 rfl) ?_
  refine lv_iload_n hx hb dH_putBonus_7 rfl (lv_at hl 3 rfl) ?_
  refine iastN hx hb hK hP hD hS (6 + mm) 0 (mcWH_row hm) rfl (k := oo) ho (by decide) (x := iI z) (fun j => iI ((mcB2 B mm oo z) mm j)) (fun j => by simp only [mcB2, true_and]; split <;> rfl) (ws' := mcWH a cI cG n v C G X D (mcB2 B mm oo z)) (mcWH_rows hm (fun j hj => funext fun k => by simp [mcB2, hj])) dH_putBonus_8 (fun H locs hP hD hS => ?_)
  refine lv_aload_n hx hb dH_putBonus_9 rfl (lv_at hl 0 rfl) ?_
  refine va_get (D := (dC, dI)) (ci := 0) (C := RH) (T := FH) (N := 7) hx hb hts (fun w h => List.mem_cons_of_mem _ (inH w h)) hown hK hP 0 rfl rfl 6 (by decide) (hts _ (List.mem_cons_of_mem _ kw64)) (fun _ h9 => h9) rfl dH_putBonus_10 ?_
  refine lv_iload_n hx hb dH_putBonus_13 rfl (lv_at hl 2 rfl) ?_
  refine aldaN hx hb hK hP 5 1 rfl rfl (k := oo) ho (by decide) (r := (a (6 + oo))) (if_pos ho) dH_putBonus_14 ?_
  refine lv_iload_n hx hb dH_putBonus_15 rfl (lv_at hl 1 rfl) ?_
  refine lv_iload_n hx hb dH_putBonus_16 rfl (lv_at hl 3 rfl) ?_
  refine iastN hx hb hK hP hD hS (6 + oo) 0 (mcWH_row ho) rfl (k := mm) hm (by decide) (x := iI z) (fun j => iI ((mcB2 (mcB2 B mm oo z) oo mm z) oo j)) (fun j => by rw [show (mcB2 (mcB2 B mm oo z) oo mm z) oo j = if oo = oo ∧ j = mm then z else (mcB2 B mm oo z) oo j from rfl]; simp only [true_and]; split <;> rfl) (ws' := mcWH a cI cG n v C G X D (mcB2 (mcB2 B mm oo z) oo mm z)) (mcWH_rows (B' := mcB2 (mcB2 B mm oo z) oo mm z) ho (fun j hj => funext fun k => by simp [mcB2, hj])) dH_putBonus_17 (fun H locs hP hD hS => ?_)
  refine lv_aload_n hx hb dH_putBonus_18 rfl (lv_at hl 0 rfl) ?_
  refine lv_dup hx hb dH_putBonus_19 rfl ?_
  refine va_get (D := (dC, dI)) (ci := 0) (C := RH) (T := FH) (N := 7) hx hb hts (fun w h => List.mem_cons_of_mem _ (inH w h)) hown hK hP 0 rfl rfl 1 (by decide) (hts _ (List.mem_cons_of_mem _ kw54)) (fun _ h9 => h9) rfl dH_putBonus_20 ?_
  refine lv_iconst (v := 1) hx hb dH_putBonus_23 (by decide) ?_
  refine lv_iadd hx hb dH_putBonus_24 ?_
  refine lv_topi (fun y1 ey1 => ?_)
  have hy1 : y1 = nI (v + 1) := by rw [ey1]; exact nI_1 v
  subst hy1
  refine va_put (D := (dC, dI)) (ci := 0) (ty := .int) (C := RH) (T := FH) (N := 7) hx hb hts (fun w h => List.mem_cons_of_mem _ (inH w h)) tH tH_ok nH hown hK hP hD hS 0 rfl rfl 1 (by decide) (hts _ (List.mem_cons_of_mem _ kw54)) (fun _ h9 => h9) rfl (by decide +kernel) rfl rfl (Nat.le_of_ble_eq_true rfl) dH_putBonus_25 (fun H locs hP hD hS => ?_)
  have hP : va_P (dC, dI) mcCl (mcWH a cI cG n (v + 1) C G X D (mcB2 (mcB2 B mm oo z) oo mm z)) H := hP
  have hD : va_D A (mcWH a cI cG n (v + 1) C G X D (mcB2 (mcB2 B mm oo z) oo mm z)) := hD
  exact W.vret hx hb hr (fun t ht hW => ⟨⟨(), rfl, trivial, by rw [ht]; exact hP, va_K.moved hW.alike hK, hD⟩, hS.F ht⟩) hS.2.2 dH_putBonus_28
end
section
/-! the ladder: its cells, and its methods that only read -/
def mcWA (q : Nat → Nat) (cI : ClassId) (rg : Nat) (ver : Int) (st : Nat → Nat) (gn : Nat → Int) : va_W :=
  [(q 0, .inr (1, [.int (nI rg), .int (iI ver), .ref (q 1), .ref (q 2)])), (q 1, .inl (cI, 4096, .inl (fun i => nI (st i)))), (q 2, .inl (cI, 4096, .inl (fun i => iI (gn i))))]
theorem nI_low12 {x : Nat} (h : x < 2 ^ 31) : nI x &&& 4095 = nI (x % 4096) := pk_andN (m := 4095) (by omega) 12 (by decide +kernel)
theorem nI_cost12 {x : Nat} (h : x < 2 ^ 31) : nI x >>> ((12 : Int32) &&& 31) = nI (x / 4096) := nI_shr (k := 12) (by omega) h
set_option maxHeartbeats 4000000 in
set_option maxRecDepth 100000 in
theorem c_A_setAt (l : Launch) (dC : Nat → ClassId) (dI : Nat → Nat → Nat) (q : Nat → Nat) (cI cG : ClassId) (rg : Nat) (ver : Int) (st : Nat → Nat) (gn : Nat → Int) (i : Nat) (hi : i < 4096) (hst : st i < 2 ^ 31) : Met l yA_setAt wdA_setAt ({ frames := 0, cells := 0, slots := 0, locals := 0 }) (roP (dC, dI) mcCl (mcWA q cI rg ver st gn) (mcTH cI cG) [.ref (q 0), .int (nI i)]) (vp_Si (fun r => r = nI (st i % 4096))) 0 0 (fun _ => False) := by
  refine Met.ofW (cc := bA_setAt) (maxL := 2) (ret := (some FieldType.int)) (by decide) rfl ?_
  intro p e s m args below meth c s₁ BB hml hv
  obtain ⟨rfl, hP, hK⟩ := hv
  have hx := BB.exec
  have hb := BB.bytes
  have hr := BB.returns
  have hts := atoms_spec (ws := wdA_setAt) BB.pre
  have hown : s.vm.findClass RA = some m.cls := findClass_of_methodNamed BB.named
  have hlocks := BB.notSynchronized
  have hl := lv_entry ([.ref (q 0), .int (nI i)]) (n := 2) (Nat.le_of_ble_eq_true rfl)
  rw [lg_entry_eq]
  generalize (lg_sl ([.ref (q 0), .int (nI i)]) ++ List.replicate (2 - (lg_sl ([.ref (q 0), .int (nI i)])).length) Slot.unset).toArray = ls at hl ⊢
  have hl : lv_has ls 2 [(0, .ref (q 0)), (1, .int (nI i))] := hl
  refine lv_aload_n hx hb dA_setAt_0 rfl (lv_at hl 0 rfl) ?_
  refine va_get (D := (dC, dI)) (ci := 1) (C := RA) (T := FA) (N := 4) hx hb hts (fun w h => List.mem_cons_of_mem _ (inA w h)) hown hK hP 0 rfl rfl 2 (by decide) (hts _ (List.mem_cons_of_mem _ kw91)) (fun _ h9 => h9) rfl dA_setAt_1 ?_
  refine lv_iload_n hx hb dA_setAt_4 rfl (lv_at hl 1 rfl) ?_
  refine ialdN hx hb hK hP 1 0 rfl rfl (k := i) hi (by decide) (v := nI (st i)) rfl dA_setAt_5 ?_
  refine lv_sipush (v := 4095) hx hb dA_setAt_6 (by decide) ?_
  refine lv_iand hx hb dA_setAt_9 ?_
  exact W.iret hx hb hr (fun t ht hW => ⟨_, rfl, (nI_low12 hst), ht⟩) (fun q hq => by cases hq) dA_setAt_10
set_option maxHeartbeats 4000000 in
set_option maxRecDepth 100000 in
theorem c_A_costAt (l : Launch) (dC : Nat → ClassId) (dI : Nat → Nat → Nat) (q : Nat → Nat) (cI cG : ClassId) (rg : Nat) (ver : Int) (st : Nat → Nat) (gn : Nat → Int) (i : Nat) (hi : i < 4096) (hst : st i < 2 ^ 31) : Met l yA_costAt wdA_costAt ({ frames := 0, cells := 0, slots := 0, locals := 0 }) (roP (dC, dI) mcCl (mcWA q cI rg ver st gn) (mcTH cI cG) [.ref (q 0), .int (nI i)]) (vp_Si (fun r => r = nI (st i / 4096))) 0 0 (fun _ => False) := by
  refine Met.ofW (cc := bA_costAt) (maxL := 2) (ret := (some FieldType.int)) (by decide) rfl ?_
  intro p e s m args below meth c s₁ BB hml hv
  obtain ⟨rfl, hP, hK⟩ := hv
  have hx := BB.exec
  have hb := BB.bytes
  have hr := BB.returns
  have hts := atoms_spec (ws := wdA_costAt) BB.pre
  have hown : s.vm.findClass RA = some m.cls := findClass_of_methodNamed BB.named
  have hlocks := BB.notSynchronized
  have hl := lv_entry ([.ref (q 0), .int (nI i)]) (n := 2) (Nat.le_of_ble_eq_true rfl)
  rw [lg_entry_eq]
  generalize (lg_sl ([.ref (q 0), .int (nI i)]) ++ List.replicate (2 - (lg_sl ([.ref (q 0), .int (nI i)])).length) Slot.unset).toArray = ls at hl ⊢
  have hl : lv_has ls 2 [(0, .ref (q 0)), (1, .int (nI i))] := hl
  refine lv_aload_n hx hb dA_costAt_0 rfl (lv_at hl 0 rfl) ?_
  refine va_get (D := (dC, dI)) (ci := 1) (C := RA) (T := FA) (N := 4) hx hb hts (fun w h => List.mem_cons_of_mem _ (inA w h)) hown hK hP 0 rfl rfl 2 (by decide) (hts _ (List.mem_cons_of_mem _ kw91)) (fun _ h9 => h9) rfl dA_costAt_1 ?_
  refine lv_iload_n hx hb dA_costAt_4 rfl (lv_at hl 1 rfl) ?_
  refine ialdN hx hb hK hP 1 0 rfl rfl (k := i) hi (by decide) (v := nI (st i)) rfl dA_costAt_5 ?_
  refine lv_bipush (v := 12) hx hb dA_costAt_6 (by decide) ?_
  refine lv_ishr hx hb dA_costAt_8 ?_
  exact W.iret hx hb hr (fun t ht hW => ⟨_, rfl, (nI_cost12 hst), ht⟩) (fun q hq => by cases hq) dA_costAt_9
set_option maxHeartbeats 4000000 in
set_option maxRecDepth 100000 in
theorem c_A_gainAt (l : Launch) (dC : Nat → ClassId) (dI : Nat → Nat → Nat) (q : Nat → Nat) (cI cG : ClassId) (rg : Nat) (ver : Int) (st : Nat → Nat) (gn : Nat → Int) (i : Nat) (hi : i < 4096) (hst : st i < 2 ^ 31) : Met l yA_gainAt wdA_gainAt ({ frames := 1, cells := 0, slots := 0, locals := 21 }) (roP (dC, dI) mcCl (mcWA q cI rg ver st gn) (mcTH cI cG) [.ref (q 0), .int (nI i)]) (vp_Si (fun r => r = iI (gn (st i % 4096)))) 0 0 (fun _ => False) := by
  refine Met.ofW (cc := bA_gainAt) (maxL := 2) (ret := (some FieldType.int)) (by decide) rfl ?_
  intro p e s m args below meth c s₁ BB hml hv
  obtain ⟨rfl, hP, hK⟩ := hv
  have hx := BB.exec
  have hb := BB.bytes
  have hr := BB.returns
  have hts := atoms_spec (ws := wdA_gainAt) BB.pre
  have hown : s.vm.findClass RA = some m.cls := findClass_of_methodNamed BB.named
  have hlocks := BB.notSynchronized
  have hl := lv_entry ([.ref (q 0), .int (nI i)]) (n := 2) (Nat.le_of_ble_eq_true rfl)
  rw [lg_entry_eq]
  generalize (lg_sl ([.ref (q 0), .int (nI i)]) ++ List.replicate (2 - (lg_sl ([.ref (q 0), .int (nI i)])).length) Slot.unset).toArray = ls at hl ⊢
  have hl : lv_has ls 2 [(0, .ref (q 0)), (1, .int (nI i))] := hl
  refine lv_aload_n hx hb dA_gainAt_0 rfl (lv_at hl 0 rfl) ?_
  refine va_get (D := (dC, dI)) (ci := 1) (C := RA) (T := FA) (N := 4) hx hb hts (fun w h => List.mem_cons_of_mem _ (inA w h)) hown hK hP 0 rfl rfl 3 (by decide) (hts _ (List.mem_cons_of_mem _ kw92)) (fun _ h9 => h9) rfl dA_gainAt_1 ?_
  refine lv_aload_n hx hb dA_gainAt_4 rfl (lv_at hl 0 rfl) ?_
  refine lv_iload_n hx hb dA_gainAt_5 rfl (lv_at hl 1 rfl) ?_
  refine callRV (As := [.int (nI i)]) (rest := [.ref (q 2)]) ⟨hx, hb, hml, hown, hts⟩ tlB (c_A_setAt l dC dI q cI cG rg ver st gn i hi hst) kw159 kw160 kw161 kw27 kw162 ⟨rfl, rfl⟩ (n := 1) (by decide +kernel) ⟨Nat.le_of_ble_eq_true rfl, Nat.le_of_ble_eq_true rfl⟩ (roP_preV hP hK (ci := 1) (q0 := 0) rfl rfl) rfl hl.1 rfl (Nat.le_of_ble_eq_true rfl) ⟨Nat.le_of_ble_eq_true rfl, Nat.le_of_ble_eq_true rfl⟩ dA_gainAt_6 (fun r1 hr1 => ?_)
  subst hr1
  refine ialdN hx hb hK hP 2 0 rfl rfl (k := (st i % 4096)) (by omega) (by decide) (v := iI (gn (st i % 4096))) rfl dA_gainAt_9 ?_
  exact W.iret hx hb hr (fun t ht hW => ⟨_, rfl, rfl, ht⟩) (fun q hq => by cases hq) dA_gainAt_10
set_option maxHeartbeats 4000000 in
set_option maxRecDepth 100000 in
theorem c_A_highestWithin (l : Launch) (dC : Nat → ClassId) (dI : Nat → Nat → Nat) (q : Nat → Nat) (cI cG : ClassId) (rg : Nat) (ver : Int) (st : Nat → Nat) (gn : Nat → Int) (b : Nat) (hb9 : b < 2 ^ 31) (hrg : 0 < rg) (hrg2 : rg ≤ 4096) (hst : ∀ i, i < rg → st i < 2 ^ 31) : Met l yA_highestWithin wdA_highestWithin ({ frames := 1, cells := 0, slots := 0, locals := 21 }) (roP (dC, dI) mcCl (mcWA q cI rg ver st gn) (mcTH cI cG) [.ref (q 0), .int (nI b)]) (vp_Si (fun r => ∃ k, r = nI k ∧ k < rg ∧ (0 < k → st k / 4096 ≤ b) ∧ (k + 1 < rg → b < st (k + 1) / 4096))) 0 0 (fun _ => False) := by
  refine Met.ofW (cc := bA_highestWithin) (maxL := 4) (ret := (some FieldType.int)) (by decide) rfl ?_
  intro p e s m args below meth c s₁ BB hml hv
  obtain ⟨rfl, hP, hK⟩ := hv
  have hx := BB.exec
  have hb := BB.bytes
  have hr := BB.returns
  have hts := atoms_spec (ws := wdA_highestWithin) BB.pre
  have hown : s.vm.findClass RA = some m.cls := findClass_of_methodNamed BB.named
  have hlocks := BB.notSynchronized
  have hl := lv_entry ([.ref (q 0), .int (nI b)]) (n := 4) (Nat.le_of_ble_eq_true rfl)
  rw [lg_entry_eq]
  generalize (lg_sl ([.ref (q 0), .int (nI b)]) ++ List.replicate (4 - (lg_sl ([.ref (q 0), .int (nI b)])).length) Slot.unset).toArray = ls at hl ⊢
  have hl : lv_has ls 4 [(0, .ref (q 0)), (1, .int (nI b))] := hl
  refine lv_iconst (v := 0) hx hb dA_highestWithin_0 (by decide) ?_
  refine lv_istore_n (lv' := [(2, .int 0), (0, .ref (q 0)), (1, .int (nI b))]) hx hb dA_highestWithin_1 rfl hl (by decide) rfl (fun ls hl => ?_)
  refine lv_iconst (v := 1) hx hb dA_highestWithin_2 (by decide) ?_
  refine lv_istore_n (lv' := [(3, .int 1), (2, .int 0), (0, .ref (q 0)), (1, .int (nI b))]) hx hb dA_highestWithin_3 rfl hl (by decide) rfl (fun ls hl => ?_)
  refine lpR (σ := Nat) (fun k => k < rg ∧ (0 < k → st k / 4096 ≤ b)) (fun k => [(0, .ref (q 0)), (1, .int (nI b)), (2, .int (nI k)), (3, .int (nI (k + 1)))]) (fun k => rg - k) (fun k ls hI hl ih => ?_) (0) ls (⟨hrg, fun h => absurd h (by omega)⟩) (lv_sub hl [2, 3, 1, 0] rfl)
  have hl : lv_has ls 4 [(0, .ref (q 0)), (1, .int (nI b)), (2, .int (nI k)), (3, .int (nI (k + 1)))] := hl
  obtain ⟨hk, hle⟩ := hI
  refine lv_iload_n hx hb dA_highestWithin_4 rfl (lv_at hl 3 rfl) ?_
  refine lv_aload_n hx hb dA_highestWithin_5 rfl (lv_at hl 0 rfl) ?_
  refine va_get (D := (dC, dI)) (ci := 1) (C := RA) (T := FA) (N := 4) hx hb hts (fun w h => List.mem_cons_of_mem _ (inA w h)) hown hK hP 0 rfl rfl 0 (by decide) (hts _ (List.mem_cons_of_mem _ kw88)) (fun _ h9 => h9) rfl dA_highestWithin_6 ?_
  refine lv_icmp_ge (tgt := 29) hx hb dA_highestWithin_9 (by decide) (fun c1 => ?_) (fun c1 => ?_)
  · have hkn : k + 1 = rg := by have := (nI_leI (by omega) (by omega)).mp c1; omega
    refine lv_iload_n hx hb dA_highestWithin_29 rfl (lv_at hl 2 rfl) ?_
    exact W.iret hx hb hr (fun t ht hW => ⟨_, rfl, ⟨k, rfl, hk, hle, fun h => absurd h (by omega)⟩, ht⟩) (fun q hq => by cases hq) dA_highestWithin_30
  · have hkn : k + 1 < rg := by
      rcases Nat.lt_or_ge (k + 1) rg with z | z
      · exact z
      · exact absurd (nI_le z (by omega)) c1
    refine lv_aload_n hx hb dA_highestWithin_12 rfl (lv_at hl 0 rfl) ?_
    refine lv_iload_n hx hb dA_highestWithin_13 rfl (lv_at hl 3 rfl) ?_
    refine callRV (As := [.int (nI (k + 1))]) (rest := []) ⟨hx, hb, hml, hown, hts⟩ tlB (c_A_costAt l dC dI q cI cG rg ver st gn (k + 1) (by omega) (hst _ hkn)) kw174 kw175 kw176 kw27 kw177 ⟨rfl, rfl⟩ (n := 1) (by decide +kernel) ⟨Nat.le_of_ble_eq_true rfl, Nat.le_of_ble_eq_true rfl⟩ (roP_preV hP hK (ci := 1) (q0 := 0) rfl rfl) rfl hl.1 rfl (Nat.le_of_ble_eq_true rfl) ⟨Nat.le_of_ble_eq_true rfl, Nat.le_of_ble_eq_true rfl⟩ dA_highestWithin_14 (fun r1 hr1 => ?_)
    subst hr1
    have hc9 : st (k + 1) / 4096 < 2 ^ 31 := by have := hst _ hkn; omega
    refine lv_iload_n hx hb dA_highestWithin_17 rfl (lv_at hl 1 rfl) ?_
    refine lv_icmp_gt (tgt := 29) hx hb dA_highestWithin_18 (by decide) (fun c2 => ?_) (fun c2 => ?_)
    · have c2 := (nI_ltI hb9 hc9).mp c2
      refine lv_iload_n hx hb dA_highestWithin_29 rfl (lv_at hl 2 rfl) ?_
      exact W.iret hx hb hr (fun t ht hW => ⟨_, rfl, ⟨k, rfl, hk, hle, fun _ => c2⟩, ht⟩) (fun q hq => by cases hq) dA_highestWithin_30
    · have c2 : st (k + 1) / 4096 ≤ b := by
        rcases Nat.lt_or_ge b (st (k + 1) / 4096) with z | z
        · exact absurd ((nI_ltI hb9 hc9).mpr z) c2
        · exact z
      refine lv_iload_n hx hb dA_highestWithin_21 rfl (lv_at hl 3 rfl) ?_
      refine lv_istore_n (lv' := [(2, .int (nI (k + 1))), (0, .ref (q 0)), (1, .int (nI b)), (3, .int (nI (k + 1)))]) hx hb dA_highestWithin_22 rfl hl (by decide) rfl (fun ls hl => ?_)
      refine lv_iinc (v := (nI (k + 1 + 1))) (lv' := [(3, .int (nI (k + 1 + 1))), (2, .int (nI (k + 1))), (0, .ref (q 0)), (1, .int (nI b))]) hx hb dA_highestWithin_23 hl (k := 3) rfl (nI_1 (k + 1)) (by decide) rfl (fun ls hl => ?_)
      refine lv_goto (tgt := 4) hx hb dA_highestWithin_26 (by decide) ?_
      exact ih (k + 1) ls (⟨hkn, fun _ => c2⟩) (by omega) (lv_sub hl [2, 3, 1, 0] rfl)
set_option maxHeartbeats 4000000 in
set_option maxRecDepth 100000 in
theorem c_A_lowestGaining (l : Launch) (dC : Nat → ClassId) (dI : Nat → Nat → Nat) (q : Nat → Nat) (cI cG : ClassId) (rg : Nat) (ver : Int) (st : Nat → Nat) (gn : Nat → Int) (z : Int) (hz1 : -2147483648 ≤ z) (hz2 : z < 2147483648) (hrg2 : rg ≤ 4096) (hst : ∀ i, i < rg → st i < 2 ^ 31) (hgn : ∀ S, S < 4096 → -900000 ≤ gn S ∧ gn S ≤ 900000) : Met l yA_lowestGaining wdA_lowestGaining ({ frames := 2, cells := 0, slots := 0, locals := 42 }) (roP (dC, dI) mcCl (mcWA q cI rg ver st gn) (mcTH cI cG) [.ref (q 0), .int (iI z)]) (vp_Si (fun r => (∃ k, r = nI k ∧ k < rg ∧ z ≤ gn (st k % 4096) ∧ ∀ j, j < k → gn (st j % 4096) < z) ∨ (r = -1 ∧ ∀ j, j < rg → gn (st j % 4096) < z))) 0 0 (fun _ => False) := by
  refine Met.ofW (cc := bA_lowestGaining) (maxL := 3) (ret := (some FieldType.int)) (by decide) rfl ?_
  intro p e s m args below meth c s₁ BB hml hv
  obtain ⟨rfl, hP, hK⟩ := hv
  have hx := BB.exec
  have hb := BB.bytes
  have hr := BB.returns
  have hts := atoms_spec (ws := wdA_lowestGaining) BB.pre
  have hown : s.vm.findClass RA = some m.cls := findClass_of_methodNamed BB.named
  have hlocks := BB.notSynchronized
  have hl := lv_entry ([.ref (q 0), .int (iI z)]) (n := 3) (Nat.le_of_ble_eq_true rfl)
  rw [lg_entry_eq]
  generalize (lg_sl ([.ref (q 0), .int (iI z)]) ++ List.replicate (3 - (lg_sl ([.ref (q 0), .int (iI z)])).length) Slot.unset).toArray = ls at hl ⊢
  have hl : lv_has ls 3 [(0, .ref (q 0)), (1, .int (iI z))] := hl
  refine lv_iconst (v := 0) hx hb dA_lowestGaining_0 (by decide) ?_
  refine lv_istore_n (lv' := [(2, .int 0), (0, .ref (q 0)), (1, .int (iI z))]) hx hb dA_lowestGaining_1 rfl hl (by decide) rfl (fun ls hl => ?_)
  refine lpR (σ := Nat) (fun k => k ≤ rg ∧ ∀ j, j < k → gn (st j % 4096) < z) (fun k => [(0, .ref (q 0)), (1, .int (iI z)), (2, .int (nI k))]) (fun k => rg - k) (fun k ls hI hl ih => ?_) (0) ls (⟨Nat.zero_le _, fun j h => absurd h (Nat.not_lt_zero j)⟩) (lv_sub hl [1, 2, 0] rfl)
  have hl : lv_has ls 3 [(0, .ref (q 0)), (1, .int (iI z)), (2, .int (nI k))] := hl
  obtain ⟨hk, hle⟩ := hI
  refine lv_iload_n hx hb dA_lowestGaining_2 rfl (lv_at hl 2 rfl) ?_
  refine lv_aload_n hx hb dA_lowestGaining_3 rfl (lv_at hl 0 rfl) ?_
  refine va_get (D := (dC, dI)) (ci := 1) (C := RA) (T := FA) (N := 4) hx hb hts (fun w h => List.mem_cons_of_mem _ (inA w h)) hown hK hP 0 rfl rfl 0 (by decide) (hts _ (List.mem_cons_of_mem _ kw88)) (fun _ h9 => h9) rfl dA_lowestGaining_4 ?_
  refine lv_icmp_ge (tgt := 27) hx hb dA_lowestGaining_7 (by decide) (fun c1 => ?_) (fun c1 => ?_)
  · have hkn : k = rg := by have := (nI_leI (by omega) (by omega)).mp c1; omega
    subst hkn
    refine lv_iconst (v := (-1)) hx hb dA_lowestGaining_27 (by decide) ?_
    exact W.iret hx hb hr (fun t ht hW => ⟨_, rfl, Or.inr ⟨rfl, hle⟩, ht⟩) (fun q hq => by cases hq) dA_lowestGaining_28
  · have hkn : k < rg := by
      rcases Nat.lt_or_ge k rg with z | z
      · exact z
      · exact absurd (nI_le z (by omega)) c1
    refine lv_aload_n hx hb dA_lowestGaining_10 rfl (lv_at hl 0 rfl) ?_
    refine lv_iload_n hx hb dA_lowestGaining_11 rfl (lv_at hl 2 rfl) ?_
    refine callRV (As := [.int (nI k)]) (rest := []) ⟨hx, hb, hml, hown, hts⟩ tlB (c_A_gainAt l dC dI q cI cG rg ver st gn k (by omega) (hst _ hkn)) kw163 kw164 kw165 kw27 kw166 ⟨rfl, rfl⟩ (n := 1) (by decide +kernel) ⟨Nat.le_of_ble_eq_true rfl, Nat.le_of_ble_eq_true rfl⟩ (roP_preV hP hK (ci := 1) (q0 := 0) rfl rfl) rfl hl.1 rfl (Nat.le_of_ble_eq_true rfl) ⟨Nat.le_of_ble_eq_true rfl, Nat.le_of_ble_eq_true rfl⟩ dA_lowestGaining_12 (fun r1 hr1 => ?_)
    subst hr1
    have hg9 := hgn (st k % 4096) (by omega)
    have hlt9 := iI_lt (a := gn (st k % 4096)) (b := z) (by omega) (by omega) hz1 hz2
    refine lv_iload_n hx hb dA_lowestGaining_15 rfl (lv_at hl 1 rfl) ?_
    refine lv_icmp_lt (tgt := 21) hx hb dA_lowestGaining_16 (by decide) (fun c2 => ?_) (fun c2 => ?_)
    · have c2 := hlt9.mp c2
      refine lv_iinc (v := (nI (k + 1))) (lv' := [(2, .int (nI (k + 1))), (0, .ref (q 0)), (1, .int (iI z))]) hx hb dA_lowestGaining_21 hl (k := 2) rfl (nI_1 k) (by decide) rfl (fun ls hl => ?_)
      refine lv_goto (tgt := 2) hx hb dA_lowestGaining_24 (by decide) ?_
      exact ih (k + 1) ls (⟨hkn, lt_s hle c2⟩) (by omega) (lv_sub hl [1, 2, 0] rfl)
    · have c2 : z ≤ gn (st k % 4096) := by
        rcases Int.lt_or_le (gn (st k % 4096)) z with z9 | z9
        · exact absurd (hlt9.mpr z9) c2
        · exact z9
      refine lv_iload_n hx hb dA_lowestGaining_19 rfl (lv_at hl 2 rfl) ?_
      exact W.iret hx hb hr (fun t ht hW => ⟨_, rfl, Or.inl ⟨k, rfl, hkn, c2, hle⟩, ht⟩) (fun q hq => by cases hq) dA_lowestGaining_20
end
section
/-! calls of our own methods that write their world; what it is behind them comes with the answer -/
section MCX
variable {p : Program} {l : Launch} {e : Env} {R : Room} {s : State} {m : MethodId} {args : Array Value} {below : List Frame} {meth : Method} {c : Code} {H : Heap} {locs : List Loc} {cells slots : Nat} {Q : State → Prop}
variable {cc bytes : ByteArray} {pc : Nat} {ls : Array Slot} {rest st0 As : List Value} {D : va_G} {cl : List vw_C} {A : Nat → Prop} {a nL maxL index n : Nat} {tys : List (ClassId × FieldType)} {w : va_W} {H0 : Heap} {own C : String} {y : MethodName} {ret : Option FieldType} {rm : Room} {Ts : List Cond} {b : Addr}
/-- the end of a method that writes its world w to w' u, u of a kind -/
abbrev wrX {S : Type} (post : S → Prop) (w' : S → va_W) (D : va_G) (cl : List vw_C) (w : va_W) (tys : List (ClassId × FieldType)) (sz : Nat) : Array Value → State → Outcome → State → Prop := va_Qv post (fun u t => va_P D cl (w' u) t.heap ∧ va_K D cl tys t ∧ va_D (va_A w sz) (w' u)) (va_A w sz)
theorem callWX {S : Type} {post : S → Prop} {w' : S → va_W} (Sx : CallFix p m c cc nL s args Ts own) (hB : ∀ w ∈ mcB, w ∈ Ts) (hM : Met l y (Cond.code y bytes maxL ret :: mcB) rm (wrP D cl w tys H.size (.ref b :: As)) (wrX post w' D cl w tys H.size) 0 0 (va_A w H.size))
    (h1 : Cond.methodLink own index y ∈ mcB) (h2 : Cond.instanceMethod y ∈ mcB) (h3 : Cond.selects C y y ∈ mcB) (h5 : Cond.initialized C ∈ mcB) (h4 : Cond.code y bytes maxL ret ∈ mcB) (hrc : rm.cells = 0 ∧ rm.slots = 0)
    (hd : y.cls = C ∧ y.cls ≠ "java/lang/invoke/MethodHandle" ∧ y.cls ≠ "java/lang/invoke/VarHandle" ∧ (parseMethodDescriptor y.desc).map (fun d => d.parameters.length) = some n) (hR : rm.frames + 1 ≤ R.frames ∧ 8 + (maxL + 11) + rm.locals ≤ R.locals)
    (hP : va_P D cl w H) (hK : va_K D cl tys s) (hD : va_D A w) (hS : va_S A H0 H locs) (hF : ∀ q, va_A w H.size q → A q) {ci q0 : Nat} {T : u_T} {N : Nat} {fs : List Value} (hc : cl[ci]? = some (C, T, N)) (he : w[q0]? = some (b, .inr (ci, fs)))
    (hn : As.length = n) (hsize : ls.size = nL) (hst : st0 = As.reverse ++ .ref b :: rest) (hW : (rest.map fun v => v.category).sum ≤ 8) (hf : cells ≤ R.cells ∧ slots ≤ R.slots) (hdg : decode cc pc = .ok (.invokevirtual index, 3))
    (kk : ∀ (u : S) (H1 : Heap) (locs1 : List Loc), post u → va_P D cl (w' u) H1 → va_D (va_A w H.size) (w' u) → (∀ q : Nat, q < H.size → ¬ va_A w H.size q → H1[q]? = H[q]?) → va_S A H0 H1 locs1 → W p l e R s m args below meth c H1 locs1 cells slots Q (F0 m (pc + 3) ls rest)) : W p l e R s m args below meth c H locs cells slots Q (F0 m pc ls st0) := by
  refine va_callv (va_runV (As := As) (rest := rest) Sx hM (cwV n Sx.2.2.2.2 (gdV hB h1 h2 h3 h5 h4) rfl hrc.1 hrc.2 hd hR) (wrP_preV hP hK hD hc he) rfl hn hsize hst (lv_room hW) hdg hf) hS (fun q _ h => hF q h) hF (fun u t H1 locs1 ht hvm hw hB1 hz1 hk1 hS1 => ?_)
  obtain ⟨hP1, hK1, hD1⟩ := hB1
  rw [ht] at hP1
  exact kk u H1 locs1 hw hP1 hD1 hk1 hS1
end MCX
end
section
/-! the ladder: addSteps, the merge in one row -/
set_option maxHeartbeats 4000000 in
set_option maxRecDepth 100000 in
theorem c_A_addSteps (l : Launch) (dC : Nat → ClassId) (dI : Nat → Nat → Nat) (q : Nat → Nat) (cI cG : ClassId) (rg : Nat) (ver : Int) (st : Nat → Nat) (gn : Nat → Int) (sz : Nat) (N ad : Nat) (hN0 : 0 < N) (hN : N ≤ 2048) (had : 0 < ad) (ho : ∀ i j, i < j → j < N → st i < st j) (hne : ∀ i j, i < N → j < N → st i + ad ≠ st j) (hbd : ∀ i, i < N → st i + ad < 2 ^ 31) : Met l yA_addSteps wdA_addSteps ({ frames := 0, cells := 0, slots := 0, locals := 0 }) (wrP (dC, dI) mcCl (mcWA q cI rg ver st gn) (mcTH cI cG) sz [.ref (q 0), .int (nI N), .int (nI ad)]) (va_Qv (fun g : Nat → Nat => ∃ p, mc_mrg N ad p 0 st g) (fun g t => va_P (dC, dI) mcCl (mcWA q cI rg ver g gn) t.heap ∧ va_K (dC, dI) mcCl (mcTH cI cG) t ∧ va_D (va_A (mcWA q cI rg ver st gn) sz) (mcWA q cI rg ver g gn)) (va_A (mcWA q cI rg ver st gn) sz)) 0 0 (va_A (mcWA q cI rg ver st gn) sz) := by
  refine Met.ofW (cc := bA_addSteps) (maxL := 7) (ret := none) (by decide) rfl ?_
  intro p e s m args below meth c s₁ BB hml hv
  obtain ⟨rfl, hsz, hP, hK, hD0⟩ := hv
  have hx := BB.exec
  have hb := BB.bytes
  have hr := BB.returns
  have hts := atoms_spec (ws := wdA_addSteps) BB.pre
  have hown : s.vm.findClass RA = some m.cls := findClass_of_methodNamed BB.named
  have hlocks := BB.notSynchronized
  subst hsz
  have hD := hD0.self (sz := s.heap.size)
  generalize hAe : va_A (mcWA q cI rg ver st gn) s.heap.size = A at hD ⊢
  have hA : ∀ q : Nat, s.heap.size ≤ q → A q := fun q h => by rw [← hAe]; exact Or.inr h
  have hS : va_S A s.heap s.heap [] := va_S.rf
  have hl := lv_entry ([.ref (q 0), .int (nI N), .int (nI ad)]) (n := 7) (Nat.le_of_ble_eq_true rfl)
  rw [lg_entry_eq]
  generalize (lg_sl ([.ref (q 0), .int (nI N), .int (nI ad)]) ++ List.replicate (7 - (lg_sl ([.ref (q 0), .int (nI N), .int (nI ad)])).length) Slot.unset).toArray = ls at hl ⊢
  have hl : lv_has ls 7 [(0, .ref (q 0)), (1, .int (nI N)), (2, .int (nI ad))] := hl
  refine lv_iload_n hx hb dA_addSteps_0 rfl (lv_at hl 1 rfl) ?_
  refine lv_iconst (v := 1) hx hb dA_addSteps_1 (by decide) ?_
  refine lv_isub hx hb dA_addSteps_2 ?_
  refine lv_topi (fun y1 ey1 => ?_)
  have hy1 : y1 = iI ((N : Int) - 1) := by rw [ey1, ← iI_nat, show (1 : Int32) = iI 1 from rfl, iI_sub]
  subst hy1
  refine lv_istore_n (lv' := [(3, .int (iI ((N : Int) - 1))), (0, .ref (q 0)), (1, .int (nI N)), (2, .int (nI ad))]) hx hb dA_addSteps_3 rfl hl (by decide) rfl (fun ls hl => ?_)
  refine lv_iload_n hx hb dA_addSteps_4 rfl (lv_at hl 2 rfl) ?_
  refine lv_iconst (v := 1) hx hb dA_addSteps_5 (by decide) ?_
  refine lv_isub hx hb dA_addSteps_6 ?_
  refine lv_topi (fun y2 ey2 => ?_)
  have hy2 : y2 = iI ((N : Int) - 1) := by rw [ey2, ← iI_nat, show (1 : Int32) = iI 1 from rfl, iI_sub]
  subst hy2
  refine lv_istore (lv' := [(4, .int (iI ((N : Int) - 1))), (3, .int (iI ((N : Int) - 1))), (0, .ref (q 0)), (1, .int (nI N)), (2, .int (nI ad))]) hx hb dA_addSteps_7 hl (by decide) rfl (fun ls hl => ?_)
  refine lv_iconst (v := 2) hx hb dA_addSteps_9 (by decide) ?_
  refine lv_iload_n hx hb dA_addSteps_10 rfl (lv_at hl 3 rfl) ?_
  refine lv_imul hx hb dA_addSteps_11 ?_
  refine lv_iconst (v := 1) hx hb dA_addSteps_12 (by decide) ?_
  refine lv_isub hx hb dA_addSteps_13 ?_
  refine lv_topi (fun y3 ey3 => ?_)
  have hy3 : y3 = iI ((N : Int) + (N : Int) - 1) := by rw [ey3, show (2 : Int32) = nI 2 from rfl, pk_mul, ← iI_nat, show (1 : Int32) = iI 1 from rfl, iI_sub]; congr 1; omega
  subst hy3
  refine lv_istore (lv' := [(5, .int (iI ((N : Int) + (N : Int) - 1))), (4, .int (iI ((N : Int) - 1))), (3, .int (iI ((N : Int) - 1))), (0, .ref (q 0)), (1, .int (nI N)), (2, .int (nI ad))]) hx hb dA_addSteps_14 hl (by decide) rfl (fun ls hl => ?_)
  refine lpW (σ := Nat × Nat × (Nat → Nat)) (fun x H locs => mc_mrg N ad x.1 x.2.1 st x.2.2 ∧ va_P (dC, dI) mcCl (mcWA q cI rg ver x.2.2 gn) H ∧ va_D A (mcWA q cI rg ver x.2.2 gn) ∧ va_S A s.heap H locs) (fun x => [(0, .ref (q 0)), (1, .int (nI N)), (2, .int (nI ad)), (3, .int (iI ((x.1 : Int) - 1))), (4, .int (iI ((x.2.1 : Int) - 1))), (5, .int (iI ((x.1 : Int) + (x.2.1 : Int) - 1)))]) (fun x => x.1 + x.2.1) (fun x H locs ls hI hl ih => ?_) ((N, N, st)) _ _ ls (⟨mc_mrg_0, hP, hD, hS⟩) (lv_sub hl [3, 4, 5, 2, 1, 0] rfl)
  obtain ⟨pp, rr, g⟩ := x
  have hl : lv_has ls 7 [(0, .ref (q 0)), (1, .int (nI N)), (2, .int (nI ad)), (3, .int (iI ((pp : Int) - 1))), (4, .int (iI ((rr : Int) - 1))), (5, .int (iI ((pp : Int) + (rr : Int) - 1)))] := hl
  obtain ⟨hM, hP, hD, hS⟩ := hI
  dsimp only at hM hP hD
  have hM9 := hM
  obtain ⟨m1, m2, m3, m4, -⟩ := hM9
  refine lv_iload hx hb dA_addSteps_16 (lv_at hl 4 rfl) ?_
  refine lv_if_lt (tgt := 86) hx hb dA_addSteps_18 (by decide) (fun c1 => ?_) (fun c1 => ?_)
  · have hr0 : rr = 0 := by
      rw [show (0 : Int32) = iI 0 from rfl, iI_lt (by omega) (by omega) (by omega) (by omega)] at c1
      omega
    subst hr0
    exact W.vret hx hb hr (fun t ht hW => ⟨⟨g, rfl, ⟨pp, hM⟩, by rw [ht]; exact hP, va_K.moved hW.alike hK, hD⟩, hS.F ht⟩) hS.2.2 dA_addSteps_86
  · have hr0 : 0 < rr := by
      rcases Nat.eq_zero_or_pos rr with z | z
      · exact absurd (by rw [z]; decide) c1
      · exact z
    refine lv_iload_n hx hb dA_addSteps_21 rfl (lv_at hl 3 rfl) ?_
    refine lv_iload hx hb dA_addSteps_22 (lv_at hl 4 rfl) ?_
    refine lv_icmp_lt (tgt := 86) hx hb dA_addSteps_24 (by decide) (fun c2 => ?_) (fun c2 => ?_)
    · exact absurd ((iI_lt (by omega) (by omega) (by omega) (by omega)).mp c2) (by omega)
    ·
      obtain ⟨r, rfl⟩ : ∃ r, rr = r + 1 := ⟨rr - 1, by omega⟩
      obtain ⟨p9, rfl⟩ : ∃ p9, pp = p9 + 1 := ⟨pp - 1, by omega⟩
      have e3 : iI (((p9 + 1 : Nat) : Int) - 1) = nI p9 := by rw [← iI_nat]; congr 1; omega
      have e4 : iI (((r + 1 : Nat) : Int) - 1) = nI r := by rw [← iI_nat]; congr 1; omega
      have e5 : iI (((p9 + 1 : Nat) : Int) + ((r + 1 : Nat) : Int) - 1) = nI (p9 + 1 + r) := by rw [← iI_nat]; congr 1; omega
      rw [e3, e4, e5] at hl
      have hl : lv_has ls 7 [(0, .ref (q 0)), (1, .int (nI N)), (2, .int (nI ad)), (3, .int (nI p9)), (4, .int (nI r)), (5, .int (nI (p9 + 1 + r)))] := hl
      have hgr : g r = st r := m4 r (by omega)
      have hgp : g p9 = st p9 := m4 p9 (by omega)
      have hb1 := hbd r (by omega)
      have hb2 := hbd p9 (by omega)
      refine lv_aload_n hx hb dA_addSteps_27 rfl (lv_at hl 0 rfl) ?_
      refine va_get (D := (dC, dI)) (ci := 1) (C := RA) (T := FA) (N := 4) hx hb hts (fun w h => List.mem_cons_of_mem _ (inA w h)) hown hK hP 0 rfl rfl 2 (by decide) (hts _ (List.mem_cons_of_mem _ kw91)) (fun _ h9 => h9) rfl dA_addSteps_28 ?_
      refine lv_iload hx hb dA_addSteps_31 (lv_at hl 4 rfl) ?_
      refine ialdN hx hb hK hP 1 0 rfl rfl (k := r) (by omega) (by decide) (v := nI (st r)) (by rw [hgr]) dA_addSteps_33 ?_
      refine lv_iload_n hx hb dA_addSteps_34 rfl (lv_at hl 2 rfl) ?_
      refine lv_iadd hx hb dA_addSteps_35 ?_
      refine lv_topi (fun y4 ey4 => ?_)
      have hy4 : y4 = nI (st r + ad) := by rw [ey4, nI_add]
      subst hy4
      refine lv_istore (lv' := [(6, .int (nI (st r + ad))), (0, .ref (q 0)), (1, .int (nI N)), (2, .int (nI ad)), (3, .int (nI p9)), (4, .int (nI r)), (5, .int (nI (p9 + 1 + r)))]) hx hb dA_addSteps_36 hl (by decide) rfl (fun ls hl => ?_)
      refine lv_iload hx hb dA_addSteps_38 (lv_at hl 0 rfl) ?_
      refine lv_aload_n hx hb dA_addSteps_40 rfl (lv_at hl 1 rfl) ?_
      refine va_get (D := (dC, dI)) (ci := 1) (C := RA) (T := FA) (N := 4) hx hb hts (fun w h => List.mem_cons_of_mem _ (inA w h)) hown hK hP 0 rfl rfl 2 (by decide) (hts _ (List.mem_cons_of_mem _ kw91)) (fun _ h9 => h9) rfl dA_addSteps_41 ?_
      refine lv_iload_n hx hb dA_addSteps_44 rfl (lv_at hl 4 rfl) ?_
      refine ialdN hx hb hK hP 1 0 rfl rfl (k := p9) (by omega) (by decide) (v := nI (st p9)) (by rw [hgp]) dA_addSteps_45 ?_
      refine lv_icmp_le (tgt := 64) hx hb dA_addSteps_46 (by decide) (fun c3 => ?_) (fun c3 => ?_)
      · have c3 : ¬ st p9 < st r + ad := by
          have := (nI_leI (by omega) (by omega)).mp c3
          omega
        refine lv_aload_n hx hb dA_addSteps_64 rfl (lv_at hl 1 rfl) ?_
        refine va_get (D := (dC, dI)) (ci := 1) (C := RA) (T := FA) (N := 4) hx hb hts (fun w h => List.mem_cons_of_mem _ (inA w h)) hown hK hP 0 rfl rfl 2 (by decide) (hts _ (List.mem_cons_of_mem _ kw91)) (fun _ h9 => h9) rfl dA_addSteps_65 ?_
        refine lv_iload hx hb dA_addSteps_68 (lv_at hl 6 rfl) ?_
        refine lv_aload_n hx hb dA_addSteps_70 rfl (lv_at hl 1 rfl) ?_
        refine va_get (D := (dC, dI)) (ci := 1) (C := RA) (T := FA) (N := 4) hx hb hts (fun w h => List.mem_cons_of_mem _ (inA w h)) hown hK hP 0 rfl rfl 2 (by decide) (hts _ (List.mem_cons_of_mem _ kw91)) (fun _ h9 => h9) rfl dA_addSteps_71 ?_
        refine lv_iload_n hx hb dA_addSteps_74 rfl (lv_at hl 4 rfl) ?_
        refine ialdN hx hb hK hP 1 0 rfl rfl (k := p9) (by omega) (by decide) (v := nI (st p9)) (by rw [hgp]) dA_addSteps_75 ?_
        refine iastN hx hb hK hP hD hS 1 0 rfl rfl (k := (p9 + 1 + r)) (by omega) (by decide) (x := nI (st p9)) (fun j => nI (va_up g (p9 + 1 + r) (st p9) j)) (fun j => by simp only [va_up]; split <;> rfl) (ws' := mcWA q cI rg ver (va_up g (p9 + 1 + r) (st p9)) gn) (rfl) dA_addSteps_76 (fun H locs hP hD hS => ?_)
        refine lv_iinc (v := (iI ((p9 : Int) - 1))) (lv' := [(3, .int (iI ((p9 : Int) - 1))), (6, .int (nI (st r + ad))), (0, .ref (q 0)), (1, .int (nI N)), (2, .int (nI ad)), (4, .int (nI r)), (5, .int (nI (p9 + 1 + r)))]) hx hb dA_addSteps_77 hl (k := 4) rfl (by rw [← iI_nat, show Int32.ofInt (-1) = iI (-1) from rfl, iI_add]; rfl) (by decide) rfl (fun ls hl => ?_)
        refine lv_iinc (v := (iI ((p9 : Int) + ((r + 1 : Nat) : Int) - 1))) (lv' := [(5, .int (iI ((p9 : Int) + ((r + 1 : Nat) : Int) - 1))), (3, .int (iI ((p9 : Int) - 1))), (6, .int (nI (st r + ad))), (0, .ref (q 0)), (1, .int (nI N)), (2, .int (nI ad)), (4, .int (nI r))]) hx hb dA_addSteps_80 hl (k := 6) rfl (by rw [← iI_nat, show Int32.ofInt (-1) = iI (-1) from rfl, iI_add]; congr 1; omega) (by decide) rfl (fun ls hl => ?_)
        refine lv_goto (tgt := 16) hx hb dA_addSteps_83 (by decide) ?_
        have hl9 := lv_sub (l' := [(0, .ref (q 0)), (1, .int (nI N)), (2, .int (nI ad)), (3, .int (iI ((p9 : Int) - 1))), (4, .int (nI r)), (5, .int (iI ((p9 : Int) + ((r + 1 : Nat) : Int) - 1)))]) hl [3, 4, 5, 1, 6, 0] rfl
        rw [← e4] at hl9
        exact ih (p9, r + 1, va_up g (p9 + 1 + r) (st p9)) H locs ls ⟨mc_mrg_p ho had hne hM c3 (fun i hi => by simp only [va_up]; rw [if_neg (by omega)]) (by simp only [va_up]; rw [if_pos (by omega)]), hP, hD, hS⟩ (by dsimp only; omega) hl9
      · have c3 : st p9 < st r + ad := by
          rcases Nat.lt_or_ge (st p9) (st r + ad) with z | z
          · exact z
          · exact absurd ((nI_leI (by omega) (by omega)).mpr z) c3
        refine lv_aload_n hx hb dA_addSteps_49 rfl (lv_at hl 1 rfl) ?_
        refine va_get (D := (dC, dI)) (ci := 1) (C := RA) (T := FA) (N := 4) hx hb hts (fun w h => List.mem_cons_of_mem _ (inA w h)) hown hK hP 0 rfl rfl 2 (by decide) (hts _ (List.mem_cons_of_mem _ kw91)) (fun _ h9 => h9) rfl dA_addSteps_50 ?_
        refine lv_iload hx hb dA_addSteps_53 (lv_at hl 6 rfl) ?_
        refine lv_iload hx hb dA_addSteps_55 (lv_at hl 0 rfl) ?_
        refine iastN hx hb hK hP hD hS 1 0 rfl rfl (k := (p9 + 1 + r)) (by omega) (by decide) (x := nI (st r + ad)) (fun j => nI (va_up g (p9 + 1 + r) (st r + ad) j)) (fun j => by simp only [va_up]; split <;> rfl) (ws' := mcWA q cI rg ver (va_up g (p9 + 1 + r) (st r + ad)) gn) (rfl) dA_addSteps_57 (fun H locs hP hD hS => ?_)
        refine lv_iinc (v := (iI ((r : Int) - 1))) (lv' := [(4, .int (iI ((r : Int) - 1))), (6, .int (nI (st r + ad))), (0, .ref (q 0)), (1, .int (nI N)), (2, .int (nI ad)), (3, .int (nI p9)), (5, .int (nI (p9 + 1 + r)))]) hx hb dA_addSteps_58 hl (k := 5) rfl (by rw [← iI_nat, show Int32.ofInt (-1) = iI (-1) from rfl, iI_add]; rfl) (by decide) rfl (fun ls hl => ?_)
        refine lv_goto (tgt := 80) hx hb dA_addSteps_61 (by decide) ?_
        refine lv_iinc (v := (iI (((p9 + 1 : Nat) : Int) + (r : Int) - 1))) (lv' := [(5, .int (iI (((p9 + 1 : Nat) : Int) + (r : Int) - 1))), (4, .int (iI ((r : Int) - 1))), (6, .int (nI (st r + ad))), (0, .ref (q 0)), (1, .int (nI N)), (2, .int (nI ad)), (3, .int (nI p9))]) hx hb dA_addSteps_80 hl (k := 6) rfl (by rw [← iI_nat, show Int32.ofInt (-1) = iI (-1) from rfl, iI_add]; congr 1) (by decide) rfl (fun ls hl => ?_)
        refine lv_goto (tgt := 16) hx hb dA_addSteps_83 (by decide) ?_
        have hl9 := lv_sub (l' := [(0, .ref (q 0)), (1, .int (nI N)), (2, .int (nI ad)), (3, .int (nI p9)), (4, .int (iI ((r : Int) - 1))), (5, .int (iI (((p9 + 1 : Nat) : Int) + (r : Int) - 1)))]) hl [3, 4, 5, 6, 1, 0] rfl
        rw [← e3] at hl9
        exact ih (p9 + 1, r, va_up g (p9 + 1 + r) (st r + ad)) H locs ls ⟨mc_mrg_r ho hM (by omega) (by rw [Nat.add_sub_cancel]; exact c3) (fun i hi => by simp only [va_up]; rw [if_neg hi]) (by simp [va_up]), hP, hD, hS⟩ (by dsimp only; omega) hl9
end
section
/-! the ladder: addGains -/
theorem mcAH_row {q a : Nat → Nat} {cI cG : ClassId} {rg : Nat} {ver : Int} {st : Nat → Nat} {gn : Nat → Int} {n v : Nat} {C G X D : Nat → Nat} {B : Nat → Nat → Int} {j : Nat} (hj : j < 12) : (mcWA q cI rg ver st gn ++ mcWH a cI cG n v C G X D B)[9 + j]? = some (a (6 + j), .inl (cI, 12, .inl (fun k => iI (B j k)))) := by
  rw [List.getElem?_append_right (by simp [mcWA]; omega), show 9 + j - (mcWA q cI rg ver st gn).length = 6 + j by simp [mcWA]; omega]
  exact mcWH_row hj
theorem mc_addor {m t : Nat} (ht : t < 2 ^ m) : 2 ^ m ||| t = 2 ^ m + t := by
  have := Nat.two_pow_add_eq_or_of_lt ht 1
  simpa using this.symm
theorem nI_or2 {m t : Nat} (ht : t < 2 ^ m) : nI (2 ^ m) ||| nI t = nI (2 ^ m + t) := by
  rw [nI_or, mc_addor ht]
theorem mc_bon_zero (b : Nat → Int) : ∀ k, mc_bon b 0 k = 0
  | 0 => rfl
  | k + 1 => by simp [mc_bon, mc_bon_zero b k]
theorem mc_gain_zero (G : Nat → Nat) (B : Nat → Nat → Int) : ∀ k, mc_gain G B 0 k = 0
  | 0 => rfl
  | k + 1 => by simp [mc_gain, mc_gain_zero G B k]
/-- the gains of the sets below 2^m, and of those with m on top of R's below T -/
def mc_tab (G : Nat → Nat) (B : Nat → Nat → Int) (m T : Nat) (g : Nat → Int) : Prop := (∀ S, S < 2 ^ m → g S = mc_gain G B S m) ∧ ∀ R, R < T → g (2 ^ m + R) = mc_gain G B (2 ^ m + R) (m + 1)
theorem mc_tab_0 {G : Nat → Nat} {B : Nat → Nat → Int} {m : Nat} {g g' : Nat → Int} (h : ∀ S, S < 2 ^ m → g S = mc_gain G B S m) (hg : ∀ j, j ≠ 2 ^ m → g' j = g j) (hv : g' (2 ^ m) = G m) : mc_tab G B m (2 ^ 0) g' := by
  refine ⟨fun S hS => by rw [hg S (by omega)]; exact h S hS, fun R hR => ?_⟩
  rw [show R = 0 by simpa using hR, mc_gain_top (Nat.pow_pos (by decide)), mc_gain_zero, mc_bon_zero, Nat.add_zero, hv]
  omega
theorem mc_tab_s {G : Nat → Nat} {B : Nat → Nat → Int} {m k t : Nat} {g g' : Nat → Int} (h : mc_tab G B m (2 ^ k + t) g) (hk : k < m) (ht : t < 2 ^ k) (hg : ∀ j, j ≠ 2 ^ m + (2 ^ k + t) → g' j = g j) (hv : g' (2 ^ m + (2 ^ k + t)) = g (2 ^ k + t) + (g (2 ^ m + t) - g t) + B m k) : mc_tab G B m (2 ^ k + (t + 1)) g' := by
  have hp : 2 ^ (k + 1) ≤ 2 ^ m := Nat.pow_le_pow_right (by decide) hk
  have hp1 : 2 ^ (k + 1) = 2 * 2 ^ k := by rw [Nat.pow_succ]; omega
  obtain ⟨h1, h2⟩ := h
  refine ⟨fun S hS => by rw [hg S (by omega)]; exact h1 S hS, fun R hR => ?_⟩
  by_cases e : R = 2 ^ k + t
  · subst e
    rw [hv, h1 (2 ^ k + t) (by omega), h2 t (by omega), h1 t (by omega), ← mc_gain_step hk ht]
  · rw [hg _ (by omega)]
    exact h2 R (by omega)
theorem mc_tab_end {G : Nat → Nat} {B : Nat → Nat → Int} {m : Nat} {g : Nat → Int} (h : mc_tab G B m (2 ^ m) g) : ∀ S, S < 2 ^ (m + 1) → g S = mc_gain G B S (m + 1) := by
  intro S hS
  have hp1 : 2 ^ (m + 1) = 2 * 2 ^ m := by rw [Nat.pow_succ]; omega
  by_cases hlo : S < 2 ^ m
  · rw [h.1 S hlo, mc_gain_hi hlo (m + 1) (by omega)]
  · have := h.2 (S - 2 ^ m) (by omega)
    rwa [show 2 ^ m + (S - 2 ^ m) = S by omega] at this
set_option maxHeartbeats 4000000 in
set_option maxRecDepth 100000 in
theorem c_A_addGains (l : Launch) (dC : Nat → ClassId) (dI : Nat → Nat → Nat) (q a : Nat → Nat) (cI cG : ClassId) (rg : Nat) (ver : Int) (st : Nat → Nat) (gn : Nat → Int) (n v : Nat) (C G X D : Nat → Nat) (B : Nat → Nat → Int) (sz : Nat) (mm : Nat) (hm : mm < n) (hn : n ≤ 12) (hgn : ∀ S, S < 2 ^ mm → gn S = mc_gain G B S mm) : Met l yA_addGains wdA_addGains ({ frames := 0, cells := 0, slots := 0, locals := 0 }) (wrP (dC, dI) mcCl (mcWA q cI rg ver st gn ++ mcWH a cI cG n v C G X D B) (mcTH cI cG) sz [.ref (q 0), .int (nI mm), .ref (a 0)]) (va_Qv (fun g : Nat → Int => ∀ S, S < 2 ^ (mm + 1) → g S = mc_gain G B S (mm + 1)) (fun g t => va_P (dC, dI) mcCl (mcWA q cI rg ver st g ++ mcWH a cI cG n v C G X D B) t.heap ∧ va_K (dC, dI) mcCl (mcTH cI cG) t ∧ va_D (va_A (mcWA q cI rg ver st gn ++ mcWH a cI cG n v C G X D B) sz) (mcWA q cI rg ver st g ++ mcWH a cI cG n v C G X D B)) (va_A (mcWA q cI rg ver st gn ++ mcWH a cI cG n v C G X D B) sz)) 0 0 (va_A (mcWA q cI rg ver st gn ++ mcWH a cI cG n v C G X D B) sz) := by
  refine Met.ofW (cc := bA_addGains) (maxL := 9) (ret := none) (by decide) rfl ?_
  intro p e s m args below meth c s₁ BB hml hv
  obtain ⟨rfl, hsz, hP, hK, hD0⟩ := hv
  have hx := BB.exec
  have hb := BB.bytes
  have hr := BB.returns
  have hts := atoms_spec (ws := wdA_addGains) BB.pre
  have hown : s.vm.findClass RA = some m.cls := findClass_of_methodNamed BB.named
  have hlocks := BB.notSynchronized
  subst hsz
  have hD := hD0.self (sz := s.heap.size)
  generalize hAe : va_A (mcWA q cI rg ver st gn ++ mcWH a cI cG n v C G X D B) s.heap.size = A at hD ⊢
  have hA : ∀ q : Nat, s.heap.size ≤ q → A q := fun q h => by rw [← hAe]; exact Or.inr h
  have hS : va_S A s.heap s.heap [] := va_S.rf
  have hl := lv_entry ([.ref (q 0), .int (nI mm), .ref (a 0)]) (n := 9) (Nat.le_of_ble_eq_true rfl)
  rw [lg_entry_eq]
  generalize (lg_sl ([.ref (q 0), .int (nI mm), .ref (a 0)]) ++ List.replicate (9 - (lg_sl ([.ref (q 0), .int (nI mm), .ref (a 0)])).length) Slot.unset).toArray = ls at hl ⊢
  have hl : lv_has ls 9 [(0, .ref (q 0)), (1, .int (nI mm)), (2, .ref (a 0))] := hl
  have hpm : 2 ^ mm ≤ 2 ^ 11 := Nat.pow_le_pow_right (by decide) (by omega)
  refine lv_iconst (v := 1) hx hb dA_addGains_0 (by decide) ?_
  refine lv_iload_n hx hb dA_addGains_1 rfl (lv_at hl 1 rfl) ?_
  refine lv_ishl hx hb dA_addGains_2 ?_
  refine lv_topi (fun y1 ey1 => ?_)
  have hy1 : y1 = nI (2 ^ mm) := by rw [ey1, nI_bit (by omega)]
  subst hy1
  refine lv_istore_n (lv' := [(3, .int (nI (2 ^ mm))), (0, .ref (q 0)), (1, .int (nI mm)), (2, .ref (a 0))]) hx hb dA_addGains_3 rfl hl (by decide) rfl (fun ls hl => ?_)
  refine lv_aload_n hx hb dA_addGains_4 rfl (lv_at hl 1 rfl) ?_
  refine va_get (D := (dC, dI)) (ci := 1) (C := RA) (T := FA) (N := 4) hx hb hts (fun w h => List.mem_cons_of_mem _ (inA w h)) hown hK hP 0 rfl rfl 3 (by decide) (hts _ (List.mem_cons_of_mem _ kw92)) (fun _ h9 => h9) rfl dA_addGains_5 ?_
  refine lv_iload_n hx hb dA_addGains_8 rfl (lv_at hl 0 rfl) ?_
  refine lv_aload_n hx hb dA_addGains_9 rfl (lv_at hl 3 rfl) ?_
  refine va_get (D := (dC, dI)) (ci := 0) (C := RH) (T := FH) (N := 7) hx hb hts (fun w h => List.mem_cons_of_mem _ (inH w h)) hown hK hP 3 rfl rfl 3 (by decide) (hts _ (List.mem_cons_of_mem _ kw59)) (fun _ h9 => h9) rfl dA_addGains_10 ?_
  refine lv_iload_n hx hb dA_addGains_13 rfl (lv_at hl 2 rfl) ?_
  refine ialdN hx hb hK hP 5 0 rfl rfl (k := mm) (by omega) (by decide) (v := nI (G mm)) rfl dA_addGains_14 ?_
  refine lv_topi (fun y2 ey2 => ?_)
  have hy2 : y2 = iI ((G mm : Nat) : Int) := by rw [ey2, iI_nat]
  subst hy2
  refine iastN hx hb hK hP hD hS 2 0 rfl rfl (k := (2 ^ mm)) (by omega) (by decide) (x := iI ((G mm : Nat) : Int)) (fun j => iI (va_up gn (2 ^ mm) ((G mm : Nat) : Int) j)) (fun j => by simp only [va_up]; split <;> rfl) (ws' := mcWA q cI rg ver st (va_up gn (2 ^ mm) ((G mm : Nat) : Int)) ++ mcWH a cI cG n v C G X D B) (rfl) dA_addGains_15 (fun H locs hP hD hS => ?_)
  refine lv_iconst (v := 0) hx hb dA_addGains_16 (by decide) ?_
  refine lv_istore (lv' := [(4, .int 0), (3, .int (nI (2 ^ mm))), (0, .ref (q 0)), (1, .int (nI mm)), (2, .ref (a 0))]) hx hb dA_addGains_17 hl (by decide) rfl (fun ls hl => ?_)
  refine lpW (σ := Nat × (Nat → Int)) (fun x H locs => x.1 ≤ mm ∧ mc_tab G B mm (2 ^ x.1) x.2 ∧ va_P (dC, dI) mcCl (mcWA q cI rg ver st x.2 ++ mcWH a cI cG n v C G X D B) H ∧ va_D A (mcWA q cI rg ver st x.2 ++ mcWH a cI cG n v C G X D B) ∧ va_S A s.heap H locs) (fun x => [(0, .ref (q 0)), (1, .int (nI mm)), (2, .ref (a 0)), (3, .int (nI (2 ^ mm))), (4, .int (nI x.1))]) (fun x => mm - x.1) (fun x H locs ls hI hl ih => ?_) ((0, va_up gn (2 ^ mm) ((G mm : Nat) : Int))) _ _ ls (⟨Nat.zero_le _, mc_tab_0 hgn (fun j hj => by simp only [va_up]; rw [if_neg hj]) (by simp [va_up]), hP, hD, hS⟩) (lv_sub hl [2, 3, 4, 1, 0] rfl)
  obtain ⟨k, g⟩ := x
  have hl : lv_has ls 9 [(0, .ref (q 0)), (1, .int (nI mm)), (2, .ref (a 0)), (3, .int (nI (2 ^ mm))), (4, .int (nI k))] := hl
  obtain ⟨hk, hT, hP, hD, hS⟩ := hI
  dsimp only at hk hT hP hD
  refine lv_iload hx hb dA_addGains_19 (lv_at hl 4 rfl) ?_
  refine lv_iload_n hx hb dA_addGains_21 rfl (lv_at hl 1 rfl) ?_
  refine lv_icmp_ge (tgt := 111) hx hb dA_addGains_22 (by decide) (fun c1 => ?_) (fun c1 => ?_)
  · have hkn : k = mm := by have := (nI_leI (by omega) (by omega)).mp c1; omega
    exact W.vret hx hb hr (fun t ht hW => ⟨⟨g, rfl, (by rw [hkn] at hT; exact mc_tab_end hT), by rw [ht]; exact hP, va_K.moved hW.alike hK, hD⟩, hS.F ht⟩) hS.2.2 dA_addGains_111
  · have hkn : k < mm := by
      rcases Nat.lt_or_ge k mm with z | z
      · exact z
      · exact absurd (nI_le z (by omega)) c1
    have hpk : 2 ^ (k + 1) ≤ 2 ^ mm := Nat.pow_le_pow_right (by decide) hkn
    have hpk1 : 2 ^ (k + 1) = 2 * 2 ^ k := by rw [Nat.pow_succ]; omega
    refine lv_iconst (v := 1) hx hb dA_addGains_25 (by decide) ?_
    refine lv_iload hx hb dA_addGains_26 (lv_at hl 4 rfl) ?_
    refine lv_ishl hx hb dA_addGains_28 ?_
    refine lv_topi (fun y3 ey3 => ?_)
    have hy3 : y3 = nI (2 ^ k) := by rw [ey3, nI_bit (by omega)]
    subst hy3
    refine lv_istore (lv' := [(5, .int (nI (2 ^ k))), (0, .ref (q 0)), (1, .int (nI mm)), (2, .ref (a 0)), (3, .int (nI (2 ^ mm))), (4, .int (nI k))]) hx hb dA_addGains_29 hl (by decide) rfl (fun ls hl => ?_)
    refine lv_aload_n hx hb dA_addGains_31 rfl (lv_at hl 3 rfl) ?_
    refine va_get (D := (dC, dI)) (ci := 0) (C := RH) (T := FH) (N := 7) hx hb hts (fun w h => List.mem_cons_of_mem _ (inH w h)) hown hK hP 3 rfl rfl 6 (by decide) (hts _ (List.mem_cons_of_mem _ kw66)) (fun _ h9 => h9) rfl dA_addGains_32 ?_
    refine lv_iload_n hx hb dA_addGains_35 rfl (lv_at hl 2 rfl) ?_
    refine aldaN hx hb hK hP 8 1 rfl rfl (k := mm) (by omega) (by decide) (r := (a (6 + mm))) (if_pos (by omega)) dA_addGains_36 ?_
    refine lv_iload hx hb dA_addGains_37 (lv_at hl 5 rfl) ?_
    refine ialdN hx hb hK hP (9 + mm) 0 (mcAH_row (by omega)) rfl (k := k) (by omega) (by decide) (v := iI (B mm k)) rfl dA_addGains_39 ?_
    refine lv_istore (lv' := [(6, .int (iI (B mm k))), (5, .int (nI (2 ^ k))), (0, .ref (q 0)), (1, .int (nI mm)), (2, .ref (a 0)), (3, .int (nI (2 ^ mm))), (4, .int (nI k))]) hx hb dA_addGains_40 hl (by decide) rfl (fun ls hl => ?_)
    refine lv_iconst (v := 0) hx hb dA_addGains_42 (by decide) ?_
    refine lv_istore (lv' := [(7, .int 0), (6, .int (iI (B mm k))), (5, .int (nI (2 ^ k))), (0, .ref (q 0)), (1, .int (nI mm)), (2, .ref (a 0)), (3, .int (nI (2 ^ mm))), (4, .int (nI k))]) hx hb dA_addGains_43 hl (by decide) rfl (fun ls hl => ?_)
    have ih9 := ih
    refine lpW (σ := Nat × (Nat → Int)) (fun x H locs => x.1 ≤ 2 ^ k ∧ mc_tab G B mm (2 ^ k + x.1) x.2 ∧ va_P (dC, dI) mcCl (mcWA q cI rg ver st x.2 ++ mcWH a cI cG n v C G X D B) H ∧ va_D A (mcWA q cI rg ver st x.2 ++ mcWH a cI cG n v C G X D B) ∧ va_S A s.heap H locs) (fun x => [(0, .ref (q 0)), (1, .int (nI mm)), (2, .ref (a 0)), (3, .int (nI (2 ^ mm))), (4, .int (nI k)), (5, .int (nI (2 ^ k))), (6, .int (iI (B mm k))), (7, .int (nI x.1))]) (fun x => 2 ^ k - x.1) (fun x H locs ls hI hl ih => ?_) ((0, g)) _ _ ls (⟨Nat.zero_le _, hT, hP, hD, hS⟩) (lv_sub hl [3, 4, 5, 6, 7, 2, 1, 0] rfl)
    obtain ⟨t9, g2⟩ := x
    have hl : lv_has ls 9 [(0, .ref (q 0)), (1, .int (nI mm)), (2, .ref (a 0)), (3, .int (nI (2 ^ mm))), (4, .int (nI k)), (5, .int (nI (2 ^ k))), (6, .int (iI (B mm k))), (7, .int (nI t9))] := hl
    obtain ⟨ht, hT, hP, hD, hS⟩ := hI
    dsimp only at ht hT hP hD
    refine lv_iload hx hb dA_addGains_45 (lv_at hl 7 rfl) ?_
    refine lv_iload hx hb dA_addGains_47 (lv_at hl 5 rfl) ?_
    refine lv_icmp_ge (tgt := 105) hx hb dA_addGains_49 (by decide) (fun c2 => ?_) (fun c2 => ?_)
    · have htn : t9 = 2 ^ k := by have := (nI_leI (by omega) (by omega)).mp c2; omega
      rw [htn] at hT
      refine lv_iinc (v := (nI (k + 1))) (lv' := [(4, .int (nI (k + 1))), (0, .ref (q 0)), (1, .int (nI mm)), (2, .ref (a 0)), (3, .int (nI (2 ^ mm))), (5, .int (nI (2 ^ k))), (6, .int (iI (B mm k))), (7, .int (nI t9))]) hx hb dA_addGains_105 hl (k := 4) rfl (nI_1 k) (by decide) rfl (fun ls hl => ?_)
      refine lv_goto (tgt := 19) hx hb dA_addGains_108 (by decide) ?_
      exact ih9 (k + 1, g2) H locs ls ⟨hkn, by dsimp only; rw [hpk1, show 2 * 2 ^ k = 2 ^ k + 2 ^ k by omega]; exact hT, hP, hD, hS⟩ (by dsimp only; omega) (lv_sub hl [1, 2, 3, 4, 0] rfl)
    · have htn : t9 < 2 ^ k := by
        rcases Nat.lt_or_ge t9 (2 ^ k) with z | z
        · exact z
        · exact absurd (nI_le z (by omega)) c2
      refine lv_aload_n hx hb dA_addGains_52 rfl (lv_at hl 0 rfl) ?_
      refine va_get (D := (dC, dI)) (ci := 1) (C := RA) (T := FA) (N := 4) hx hb hts (fun w h => List.mem_cons_of_mem _ (inA w h)) hown hK hP 0 rfl rfl 3 (by decide) (hts _ (List.mem_cons_of_mem _ kw92)) (fun _ h9 => h9) rfl dA_addGains_53 ?_
      refine lv_iload_n hx hb dA_addGains_56 rfl (lv_at hl 3 rfl) ?_
      refine lv_iload hx hb dA_addGains_57 (lv_at hl 7 rfl) ?_
      refine lv_ior hx hb dA_addGains_59 ?_
      refine lv_topi (fun y4 ey4 => ?_)
      have hy4 : y4 = nI (2 ^ mm + t9) := by rw [ey4, nI_or2 (by omega)]
      subst hy4
      refine ialdN hx hb hK hP 2 0 rfl rfl (k := (2 ^ mm + t9)) (by omega) (by decide) (v := iI (g2 (2 ^ mm + t9))) rfl dA_addGains_60 ?_
      refine lv_aload_n hx hb dA_addGains_61 rfl (lv_at hl 0 rfl) ?_
      refine va_get (D := (dC, dI)) (ci := 1) (C := RA) (T := FA) (N := 4) hx hb hts (fun w h => List.mem_cons_of_mem _ (inA w h)) hown hK hP 0 rfl rfl 3 (by decide) (hts _ (List.mem_cons_of_mem _ kw92)) (fun _ h9 => h9) rfl dA_addGains_62 ?_
      refine lv_iload hx hb dA_addGains_65 (lv_at hl 7 rfl) ?_
      refine ialdN hx hb hK hP 2 0 rfl rfl (k := t9) (by omega) (by decide) (v := iI (g2 t9)) rfl dA_addGains_67 ?_
      refine lv_isub hx hb dA_addGains_68 ?_
      refine lv_topi (fun y5 ey5 => ?_)
      have hy5 : y5 = iI (g2 (2 ^ mm + t9) - g2 t9) := by rw [ey5, iI_sub]
      subst hy5
      refine lv_istore (lv' := [(8, .int (iI (g2 (2 ^ mm + t9) - g2 t9))), (0, .ref (q 0)), (1, .int (nI mm)), (2, .ref (a 0)), (3, .int (nI (2 ^ mm))), (4, .int (nI k)), (5, .int (nI (2 ^ k))), (6, .int (iI (B mm k))), (7, .int (nI t9))]) hx hb dA_addGains_69 hl (by decide) rfl (fun ls hl => ?_)
      refine lv_aload_n hx hb dA_addGains_71 rfl (lv_at hl 1 rfl) ?_
      refine va_get (D := (dC, dI)) (ci := 1) (C := RA) (T := FA) (N := 4) hx hb hts (fun w h => List.mem_cons_of_mem _ (inA w h)) hown hK hP 0 rfl rfl 3 (by decide) (hts _ (List.mem_cons_of_mem _ kw92)) (fun _ h9 => h9) rfl dA_addGains_72 ?_
      refine lv_iload_n hx hb dA_addGains_75 rfl (lv_at hl 4 rfl) ?_
      refine lv_iload hx hb dA_addGains_76 (lv_at hl 6 rfl) ?_
      refine lv_ior hx hb dA_addGains_78 ?_
      refine lv_iload hx hb dA_addGains_79 (lv_at hl 8 rfl) ?_
      refine lv_ior hx hb dA_addGains_81 ?_
      refine lv_topi (fun y6 ey6 => ?_)
      have hy6 : y6 = nI (2 ^ mm + (2 ^ k + t9)) := by rw [ey6, nI_or, nI_or, Nat.or_assoc, mc_addor htn, mc_addor (show 2 ^ k + t9 < 2 ^ mm by omega)]
      subst hy6
      refine lv_aload_n hx hb dA_addGains_82 rfl (lv_at hl 1 rfl) ?_
      refine va_get (D := (dC, dI)) (ci := 1) (C := RA) (T := FA) (N := 4) hx hb hts (fun w h => List.mem_cons_of_mem _ (inA w h)) hown hK hP 0 rfl rfl 3 (by decide) (hts _ (List.mem_cons_of_mem _ kw92)) (fun _ h9 => h9) rfl dA_addGains_83 ?_
      refine lv_iload hx hb dA_addGains_86 (lv_at hl 6 rfl) ?_
      refine lv_iload hx hb dA_addGains_88 (lv_at hl 8 rfl) ?_
      refine lv_ior hx hb dA_addGains_90 ?_
      refine lv_topi (fun y7 ey7 => ?_)
      have hy7 : y7 = nI (2 ^ k + t9) := by rw [ey7, nI_or2 htn]
      subst hy7
      refine ialdN hx hb hK hP 2 0 rfl rfl (k := (2 ^ k + t9)) (by omega) (by decide) (v := iI (g2 (2 ^ k + t9))) rfl dA_addGains_91 ?_
      refine lv_iload hx hb dA_addGains_92 (lv_at hl 0 rfl) ?_
      refine lv_iadd hx hb dA_addGains_94 ?_
      refine lv_iload hx hb dA_addGains_95 (lv_at hl 7 rfl) ?_
      refine lv_iadd hx hb dA_addGains_97 ?_
      refine lv_topi (fun y8 ey8 => ?_)
      have hy8 : y8 = iI (g2 (2 ^ k + t9) + (g2 (2 ^ mm + t9) - g2 t9) + B mm k) := by rw [ey8, iI_add, iI_add]
      subst hy8
      refine iastN hx hb hK hP hD hS 2 0 rfl rfl (k := (2 ^ mm + (2 ^ k + t9))) (by omega) (by decide) (x := iI (g2 (2 ^ k + t9) + (g2 (2 ^ mm + t9) - g2 t9) + B mm k)) (fun j => iI (va_up g2 (2 ^ mm + (2 ^ k + t9)) (g2 (2 ^ k + t9) + (g2 (2 ^ mm + t9) - g2 t9) + B mm k) j)) (fun j => by simp only [va_up]; split <;> rfl) (ws' := mcWA q cI rg ver st (va_up g2 (2 ^ mm + (2 ^ k + t9)) (g2 (2 ^ k + t9) + (g2 (2 ^ mm + t9) - g2 t9) + B mm k)) ++ mcWH a cI cG n v C G X D B) (rfl) dA_addGains_98 (fun H locs hP hD hS => ?_)
      refine lv_iinc (v := (nI (t9 + 1))) (lv' := [(7, .int (nI (t9 + 1))), (8, .int (iI (g2 (2 ^ mm + t9) - g2 t9))), (0, .ref (q 0)), (1, .int (nI mm)), (2, .ref (a 0)), (3, .int (nI (2 ^ mm))), (4, .int (nI k)), (5, .int (nI (2 ^ k))), (6, .int (iI (B mm k)))]) hx hb dA_addGains_99 hl (k := 8) rfl (nI_1 t9) (by decide) rfl (fun ls hl => ?_)
      refine lv_goto (tgt := 45) hx hb dA_addGains_102 (by decide) ?_
      exact ih (t9 + 1, va_up g2 (2 ^ mm + (2 ^ k + t9)) (g2 (2 ^ k + t9) + (g2 (2 ^ mm + t9) - g2 t9) + B mm k)) H locs ls (⟨htn, mc_tab_s hT hkn htn (fun j hj => by simp only [va_up]; rw [if_neg hj]) (by simp [va_up]), hP, hD, hS⟩) (by dsimp only; omega) (lv_sub hl [2, 3, 4, 5, 6, 7, 8, 0] rfl)
end
section
/-! the ladder: what keepUnbeaten keeps, over numbers -/
def mc_K (C : Nat → Nat) (n S : Nat) : Nat := mc_key (fun S => mc_cost C S n) S
theorem mc_K_lt {C : Nat → Nat} {n S : Nat} (hC : ∀ m, C m ≤ 10000) (hn : n ≤ 12) (hS : S < 4096) : mc_K C n S < 536870912 := by
  have := mc_cost_le (S := S) hC n
  show mc_cost C S n * 4096 + S < 536870912
  omega
theorem mc_K_mod {C : Nat → Nat} {n S : Nat} (hS : S < 4096) : mc_K C n S % 4096 = S := by unfold mc_K mc_key; omega
theorem mc_K_div {C : Nat → Nat} {n S : Nat} (hS : S < 4096) : mc_K C n S / 4096 = mc_cost C S n := by show (mc_cost C S n * 4096 + S) / 4096 = _; omega
theorem mc_K_inj {C : Nat → Nat} {n S T : Nat} (hS : S < 4096) (hT : T < 4096) (h : mc_K C n S = mc_K C n T) : S = T := by
  have : mc_K C n S % 4096 = mc_K C n T % 4096 := by rw [h]
  rwa [mc_K_mod hS, mc_K_mod hT] at this
def mc_Lad (n : Nat) (C G X D : Nat → Nat) (B : Nat → Nat → Int) (R : Nat) (f : Nat → Nat) : Prop :=
  mc_lad (fun S => S < 2 ^ n) (fun S => mc_cost C S n) (fun S => mc_gain G B S n) (mc_law n X D) R (fun i => f i % 4096) ∧ (∀ i, i < R → f i = mc_K C n (f i % 4096)) ∧ R ≤ 2 ^ n
def mc_keep (n : Nat) (C G X D : Nat → Nat) (B : Nat → Nat → Int) (st : Nat → Nat) (k R : Nat) (f : Nat → Nat) : Prop :=
  1 ≤ k ∧ k ≤ 2 ^ n ∧ 0 < R ∧ R ≤ k ∧ mc_lad (fun S => S < 2 ^ n ∧ ∃ i, i < k ∧ st i = mc_K C n S) (fun S => mc_cost C S n) (fun S => mc_gain G B S n) (mc_law n X D) R (fun i => f i % 4096) ∧ (∀ i, i < R → f i = mc_K C n (f i % 4096)) ∧ (∀ i, k ≤ i → i < 2 ^ n → f i = st i)
theorem mc_K_0 (C : Nat → Nat) (n : Nat) : mc_K C n 0 = 0 := by
  have : ∀ k, mc_cost C 0 k = 0 := fun k => by
    induction k with
    | zero => rfl
    | succ k ih => simp [mc_cost, ih]
  simp [mc_K, mc_key, this]
theorem mc_ord_0 {n : Nat} {C st : Nat → Nat} (h : mc_ord (2 ^ n) (mc_K C n) st) : st 0 = 0 := by
  obtain ⟨i, hi, e⟩ := h.2.1 0 (Nat.pow_pos (by decide))
  rw [mc_K_0] at e
  rcases Nat.eq_zero_or_pos i with z | z
  · rw [z] at e; exact e
  · have := h.1 0 i z hi
    omega
theorem mc_keep_0 {n : Nat} {C G X D : Nat → Nat} {B : Nat → Nat → Int} {st : Nat → Nat} (hn : n ≤ 12) (h : mc_ord (2 ^ n) (mc_K C n) st) : mc_keep n C G X D B st 1 1 st := by
  have hp : 0 < 2 ^ n := Nat.pow_pos (by decide)
  have h0 := mc_ord_0 h
  refine ⟨Nat.le_refl _, hp, by omega, Nat.le_refl _, mc_lad_0 ⟨by show st 0 % 4096 < 2 ^ n; rw [h0]; exact hp, 0, by omega, by show st 0 = mc_K C n (st 0 % 4096); rw [h0]; exact (mc_K_0 C n).symm⟩ ?_ ?_, fun i hi => ?_, fun i _ _ => rfl⟩
  · show mc_law n X D (st 0 % 4096)
    rw [h0]
    intro m _ hb
    simp at hb
  · rintro S ⟨hS, i, hi, e⟩
    show S = st 0 % 4096
    rw [show i = 0 by omega] at e
    rw [e, mc_K_mod (mc_pow12 hn hS)]
  · rw [show i = 0 by omega, h0]
    exact (mc_K_0 C n).symm
theorem mc_keep_T {n : Nat} {C st : Nat → Nat} (hn : n ≤ 12) (h : mc_ord (2 ^ n) (mc_K C n) st) {k : Nat} (hk : k < 2 ^ n) : st k % 4096 < 2 ^ n ∧ st k = mc_K C n (st k % 4096) := by
  obtain ⟨S, hS, e⟩ := h.2.2 k hk
  rw [e, mc_K_mod (mc_pow12 hn hS)]
  exact ⟨hS, rfl⟩
theorem mc_keep_pr {n : Nat} {C st : Nat → Nat} (hn : n ≤ 12) (h : mc_ord (2 ^ n) (mc_K C n) st) {k : Nat} (hk : k < 2 ^ n) (S : Nat) : (S < 2 ^ n ∧ ∃ i, i < k + 1 ∧ st i = mc_K C n S) ↔ ((S < 2 ^ n ∧ ∃ i, i < k ∧ st i = mc_K C n S) ∨ S = st k % 4096) := by
  obtain ⟨t1, t2⟩ := mc_keep_T hn h hk
  constructor
  · rintro ⟨hS, i, hi, e⟩
    by_cases e2 : i = k
    · right
      subst e2
      rw [e, mc_K_mod (mc_pow12 hn hS)]
    · exact Or.inl ⟨hS, i, by omega, e⟩
  · rintro (⟨hS, i, hi, e⟩ | e)
    · exact ⟨hS, i, by omega, e⟩
    · rw [e]
      exact ⟨t1, k, by omega, t2⟩
theorem mc_keep_lt {n : Nat} {C st : Nat → Nat} (hn : n ≤ 12) (h : mc_ord (2 ^ n) (mc_K C n) st) {k : Nat} (hk : k < 2 ^ n) (S : Nat) (hS : S < 2 ^ n ∧ ∃ i, i < k ∧ st i = mc_K C n S) : mc_key (fun S => mc_cost C S n) S < mc_key (fun S => mc_cost C S n) (st k % 4096) := by
  obtain ⟨t1, t2⟩ := mc_keep_T hn h hk
  obtain ⟨-, i, hi, e⟩ := hS
  have := h.1 i k hi hk
  rw [e, t2] at this
  exact this
theorem mc_keep_skip {n : Nat} {C G X D : Nat → Nat} {B : Nat → Nat → Int} {st f : Nat → Nat} {k R : Nat} (hn : n ≤ 12) (ho : mc_ord (2 ^ n) (mc_K C n) st) (h : mc_keep n C G X D B st k R f) (hk : k < 2 ^ n)
    (hs : mc_law n X D (st k % 4096) → mc_gain G B (st k % 4096) n ≤ mc_gain G B (f (R - 1) % 4096) n) : mc_keep n C G X D B st (k + 1) R f := by
  obtain ⟨h1, h2, h3, h4, h5, h6, h7⟩ := h
  obtain ⟨t1, t2⟩ := mc_keep_T hn ho hk
  exact ⟨by omega, by omega, h3, by omega, mc_lad_skip h5 (mc_keep_pr hn ho hk) (mc_keep_lt hn ho hk) (mc_pow12 hn t1) hs, h6, fun i hi hi2 => h7 i (by omega) hi2⟩
theorem mc_keep_push {n : Nat} {C G X D : Nat → Nat} {B : Nat → Nat → Int} {st f f' : Nat → Nat} {k R : Nat} (hn : n ≤ 12) (ho : mc_ord (2 ^ n) (mc_K C n) st) (h : mc_keep n C G X D B st k R f) (hk : k < 2 ^ n)
    (hL : mc_law n X D (st k % 4096)) (hg : mc_gain G B (f (R - 1) % 4096) n < mc_gain G B (st k % 4096) n) (hc : mc_cost C (f (R - 1) % 4096) n < mc_cost C (st k % 4096) n)
    (hu : ∀ i, i ≠ R → f' i = f i) (hv : f' R = st k) : mc_keep n C G X D B st (k + 1) (R + 1) f' := by
  obtain ⟨h1, h2, h3, h4, h5, h6, h7⟩ := h
  obtain ⟨t1, t2⟩ := mc_keep_T hn ho hk
  refine ⟨by omega, by omega, by omega, by omega, mc_lad_push (u := fun i => f i % 4096) (T := st k % 4096) h5 (mc_keep_pr hn ho hk) hL hg hc (fun i hi => by show f' i % 4096 = f i % 4096; rw [hu i (by omega)]) (by show f' R % 4096 = st k % 4096; rw [hv]), fun i hi => ?_, fun i hi hi2 => ?_⟩
  · by_cases e : i = R
    · rw [e, hv]; exact t2
    · rw [hu i e]; exact h6 i (by omega)
  · rw [hu i (by omega)]; exact h7 i (by omega) hi2
theorem mc_keep_top {n : Nat} {C G X D : Nat → Nat} {B : Nat → Nat → Int} {st f f' : Nat → Nat} {k R : Nat} (hn : n ≤ 12) (ho : mc_ord (2 ^ n) (mc_K C n) st) (h : mc_keep n C G X D B st k R f) (hk : k < 2 ^ n)
    (hL : mc_law n X D (st k % 4096)) (hg : mc_gain G B (f (R - 1) % 4096) n < mc_gain G B (st k % 4096) n) (hc : ¬ mc_cost C (f (R - 1) % 4096) n < mc_cost C (st k % 4096) n)
    (hu : ∀ i, i ≠ R - 1 → f' i = f i) (hv : f' (R - 1) = st k) : mc_keep n C G X D B st (k + 1) R f' := by
  obtain ⟨h1, h2, h3, h4, h5, h6, h7⟩ := h
  obtain ⟨t1, t2⟩ := mc_keep_T hn ho hk
  refine ⟨by omega, by omega, by omega, by omega, mc_lad_top (u := fun i => f i % 4096) (T := st k % 4096) h5 (mc_keep_pr hn ho hk) (mc_keep_lt hn ho hk) (mc_pow12 hn t1) hL hg hc (fun i hi => by show f' i % 4096 = f i % 4096; rw [hu i (by omega)]) (by show f' (R - 1) % 4096 = st k % 4096; rw [hv]), fun i hi => ?_, fun i hi hi2 => ?_⟩
  · by_cases e : i = R - 1
    · rw [e, hv]; exact t2
    · rw [hu i e]; exact h6 i (by omega)
  · rw [hu i (by omega)]; exact h7 i (by omega) hi2
theorem mc_keep_end {n : Nat} {C G X D : Nat → Nat} {B : Nat → Nat → Int} {st f : Nat → Nat} {R : Nat} (ho : mc_ord (2 ^ n) (mc_K C n) st) (h : mc_keep n C G X D B st (2 ^ n) R f) : mc_Lad n C G X D B R f := by
  obtain ⟨h1, h2, h3, h4, h5, h6, h7⟩ := h
  refine ⟨⟨h5.1, h5.2.1, fun i hi => ⟨(h5.2.2.1 i hi).1.1, (h5.2.2.1 i hi).2⟩, fun S hS hL => h5.2.2.2 S ⟨hS, ho.2.1 S hS⟩ hL⟩, h6, h4⟩
theorem mc_keep_tl {n : Nat} {C G X D : Nat → Nat} {B : Nat → Nat → Int} {st f : Nat → Nat} {k R : Nat} (h : mc_keep n C G X D B st k R f) : f (R - 1) % 4096 < 2 ^ n := (h.2.2.2.2.1.2.2.1 (R - 1) (by have := h.2.2.1; omega)).1.1
end
section
/-! the ladder: keepUnbeaten -/
set_option maxHeartbeats 4000000 in
set_option maxRecDepth 100000 in
theorem c_A_keepUnbeaten (l : Launch) (dC : Nat → ClassId) (dI : Nat → Nat → Nat) (q a : Nat → Nat) (cI cG : ClassId) (rg : Nat) (ver : Int) (st : Nat → Nat) (gn : Nat → Int) (n v : Nat) (C G X D : Nat → Nat) (B : Nat → Nat → Int) (sz : Nat) (hn : n ≤ 12) (hC : ∀ m, C m ≤ 10000) (hG : ∀ m, G m ≤ 10000) (hB : ∀ i j, -5000 ≤ B i j ∧ B i j ≤ 5000) (hX : ∀ m, X m < 4096) (hDD : ∀ m, D m < 4096) (ho : mc_ord (2 ^ n) (mc_K C n) st) (hgn : ∀ S, S < 2 ^ n → gn S = mc_gain G B S n) : Met l yA_keepUnbeaten wdA_keepUnbeaten ({ frames := 2, cells := 0, slots := 0, locals := 43 }) (wrP (dC, dI) mcCl (mcWA q cI rg ver st gn ++ mcWH a cI cG n v C G X D B) (mcTH cI cG) sz [.ref (q 0), .ref (a 0)]) (va_Qv (fun x : Nat × (Nat → Nat) => mc_Lad n C G X D B x.1 x.2) (fun x t => va_P (dC, dI) mcCl (mcWA q cI x.1 ver x.2 gn ++ mcWH a cI cG n v C G X D B) t.heap ∧ va_K (dC, dI) mcCl (mcTH cI cG) t ∧ va_D (va_A (mcWA q cI rg ver st gn ++ mcWH a cI cG n v C G X D B) sz) (mcWA q cI x.1 ver x.2 gn ++ mcWH a cI cG n v C G X D B)) (va_A (mcWA q cI rg ver st gn ++ mcWH a cI cG n v C G X D B) sz)) 0 0 (va_A (mcWA q cI rg ver st gn ++ mcWH a cI cG n v C G X D B) sz) := by
  refine Met.ofW (cc := bA_keepUnbeaten) (maxL := 4) (ret := none) (by decide) rfl ?_
  intro p e s m args below meth c s₁ BB hml hv
  obtain ⟨rfl, hsz, hP, hK, hD0⟩ := hv
  have hx := BB.exec
  have hb := BB.bytes
  have hr := BB.returns
  have hts := atoms_spec (ws := wdA_keepUnbeaten) BB.pre
  have hown : s.vm.findClass RA = some m.cls := findClass_of_methodNamed BB.named
  have hlocks := BB.notSynchronized
  subst hsz
  have hD := hD0.self (sz := s.heap.size)
  generalize hAe : va_A (mcWA q cI rg ver st gn ++ mcWH a cI cG n v C G X D B) s.heap.size = A at hD ⊢
  have hA : ∀ q : Nat, s.heap.size ≤ q → A q := fun q h => by rw [← hAe]; exact Or.inr h
  have hS : va_S A s.heap s.heap [] := va_S.rf
  have hl := lv_entry ([.ref (q 0), .ref (a 0)]) (n := 4) (Nat.le_of_ble_eq_true rfl)
  rw [lg_entry_eq]
  generalize (lg_sl ([.ref (q 0), .ref (a 0)]) ++ List.replicate (4 - (lg_sl ([.ref (q 0), .ref (a 0)])).length) Slot.unset).toArray = ls at hl ⊢
  have hl : lv_has ls 4 [(0, .ref (q 0)), (1, .ref (a 0))] := hl
  have hp12 : 2 ^ n ≤ 2 ^ 12 := Nat.pow_le_pow_right (by decide) hn
  refine lv_aload_n hx hb dA_keepUnbeaten_0 rfl (lv_at hl 0 rfl) ?_
  refine lv_iconst (v := 1) hx hb dA_keepUnbeaten_1 (by decide) ?_
  refine lv_topi (fun y9 ey9 => ?_)
  have hy9 : y9 = nI 1 := ey9
  subst hy9
  refine va_put (D := (dC, dI)) (ci := 1) (ty := .int) (C := RA) (T := FA) (N := 4) hx hb hts (fun w h => List.mem_cons_of_mem _ (inA w h)) tA tA_ok nA hown hK hP hD hS 0 rfl rfl 0 (by decide) (hts _ (List.mem_cons_of_mem _ kw88)) (fun _ h9 => h9) rfl (by decide +kernel) rfl rfl (Nat.le_of_ble_eq_true rfl) dA_keepUnbeaten_2 (fun H locs hP hD hS => ?_)
  have hP : va_P (dC, dI) mcCl (mcWA q cI 1 ver st gn ++ mcWH a cI cG n v C G X D B) H := hP
  have hD : va_D A (mcWA q cI 1 ver st gn ++ mcWH a cI cG n v C G X D B) := hD
  refine lv_iconst (v := 1) hx hb dA_keepUnbeaten_5 (by decide) ?_
  refine lv_istore_n (lv' := [(2, .int 1), (0, .ref (q 0)), (1, .ref (a 0))]) hx hb dA_keepUnbeaten_6 rfl hl (by decide) rfl (fun ls hl => ?_)
  refine lpW (σ := Nat × Nat × (Nat → Nat)) (fun x H locs => mc_keep n C G X D B st x.1 x.2.1 x.2.2 ∧ va_P (dC, dI) mcCl (mcWA q cI x.2.1 ver x.2.2 gn ++ mcWH a cI cG n v C G X D B) H ∧ va_D A (mcWA q cI x.2.1 ver x.2.2 gn ++ mcWH a cI cG n v C G X D B) ∧ va_S A s.heap H locs) (fun x => [(0, .ref (q 0)), (1, .ref (a 0)), (2, .int (nI x.1))]) (fun x => 2 ^ n - x.1) (fun x H locs ls hI hl ih => ?_) ((1, 1, st)) _ _ ls (⟨mc_keep_0 hn ho, hP, hD, hS⟩) (lv_sub hl [1, 2, 0] rfl)
  obtain ⟨k, R, f⟩ := x
  have hl : lv_has ls 4 [(0, .ref (q 0)), (1, .ref (a 0)), (2, .int (nI k))] := hl
  obtain ⟨hk, hP, hD, hS⟩ := hI
  dsimp only at hk hP hD
  have hk9 := hk
  obtain ⟨k1, k2, k3, k4, -, k6, k7⟩ := hk9
  refine lv_iload_n hx hb dA_keepUnbeaten_7 rfl (lv_at hl 2 rfl) ?_
  refine lv_iconst (v := 1) hx hb dA_keepUnbeaten_8 (by decide) ?_
  refine lv_aload_n hx hb dA_keepUnbeaten_9 rfl (lv_at hl 1 rfl) ?_
  refine va_get (D := (dC, dI)) (ci := 0) (C := RH) (T := FH) (N := 7) hx hb hts (fun w h => List.mem_cons_of_mem _ (inH w h)) hown hK hP 3 rfl rfl 0 (by decide) (hts _ (List.mem_cons_of_mem _ kw53)) (fun _ h9 => h9) rfl dA_keepUnbeaten_10 ?_
  refine lv_ishl hx hb dA_keepUnbeaten_13 ?_
  refine lv_topi (fun y1 ey1 => ?_)
  have hy1 : y1 = nI (2 ^ n) := by rw [ey1, nI_bit (by omega)]
  subst hy1
  refine lv_icmp_ge (tgt := 101) hx hb dA_keepUnbeaten_14 (by decide) (fun c1 => ?_) (fun c1 => ?_)
  · have hkn : k = 2 ^ n := by have := (nI_leI (by omega) (by omega)).mp c1; omega
    rw [hkn] at hk
    exact W.vret hx hb hr (fun t ht hW => ⟨⟨(R, f), rfl, (mc_keep_end ho hk), by rw [ht]; exact hP, va_K.moved hW.alike hK, hD⟩, hS.F ht⟩) hS.2.2 dA_keepUnbeaten_101
  · have hkn : k < 2 ^ n := by
      rcases Nat.lt_or_ge k (2 ^ n) with z | z
      · exact z
      · exact absurd (nI_le z (by omega)) c1
    obtain ⟨t1, t2⟩ := mc_keep_T hn ho hkn
    have hfk : f k = st k := k7 k (Nat.le_refl _) hkn
    have htl := mc_keep_tl hk
    have htop := k6 (R - 1) (by omega)
    have hb1 : f k < 2 ^ 31 := by rw [hfk, t2]; have := mc_K_lt (n := n) (S := st k % 4096) hC hn (by omega); omega
    have hb2 : f (R - 1) < 2 ^ 31 := by rw [htop]; have := mc_K_lt (n := n) (S := f (R - 1) % 4096) hC hn (by omega); omega
    refine lv_aload_n hx hb dA_keepUnbeaten_17 rfl (lv_at hl 0 rfl) ?_
    refine lv_iload_n hx hb dA_keepUnbeaten_18 rfl (lv_at hl 2 rfl) ?_
    refine callRV (As := [.int (nI k)]) (rest := []) ⟨hx, hb, hml, hown, hts⟩ tlB (c_A_setAt l dC dI q cI cG R ver f gn k (by omega) hb1) kw159 kw160 kw161 kw27 kw162 ⟨rfl, rfl⟩ (n := 1) (by decide +kernel) ⟨Nat.le_of_ble_eq_true rfl, Nat.le_of_ble_eq_true rfl⟩ (roP_preV hP.lft hK (ci := 1) (q0 := 0) rfl rfl) rfl hl.1 rfl (Nat.le_of_ble_eq_true rfl) ⟨Nat.le_of_ble_eq_true rfl, Nat.le_of_ble_eq_true rfl⟩ dA_keepUnbeaten_19 (fun r1 hr1 => ?_)
    have hr1 : r1 = nI (st k % 4096) := by rw [hr1, hfk]
    subst hr1
    refine lv_istore_n (lv' := [(3, .int (nI (st k % 4096))), (0, .ref (q 0)), (1, .ref (a 0)), (2, .int (nI k))]) hx hb dA_keepUnbeaten_22 rfl hl (by decide) rfl (fun ls hl => ?_)
    refine lv_aload_n hx hb dA_keepUnbeaten_23 rfl (lv_at hl 1 rfl) ?_
    refine va_get (D := (dC, dI)) (ci := 1) (C := RA) (T := FA) (N := 4) hx hb hts (fun w h => List.mem_cons_of_mem _ (inA w h)) hown hK hP 0 rfl rfl 3 (by decide) (hts _ (List.mem_cons_of_mem _ kw92)) (fun _ h9 => h9) rfl dA_keepUnbeaten_24 ?_
    refine lv_iload_n hx hb dA_keepUnbeaten_27 rfl (lv_at hl 0 rfl) ?_
    refine ialdN hx hb hK hP 2 0 rfl rfl (k := (st k % 4096)) (by omega) (by decide) (v := iI (mc_gain G B (st k % 4096) n)) (by rw [hgn _ t1]) dA_keepUnbeaten_28 ?_
    refine lv_aload_n hx hb dA_keepUnbeaten_29 rfl (lv_at hl 1 rfl) ?_
    refine lv_aload_n hx hb dA_keepUnbeaten_30 rfl (lv_at hl 1 rfl) ?_
    refine va_get (D := (dC, dI)) (ci := 1) (C := RA) (T := FA) (N := 4) hx hb hts (fun w h => List.mem_cons_of_mem _ (inA w h)) hown hK hP 0 rfl rfl 0 (by decide) (hts _ (List.mem_cons_of_mem _ kw88)) (fun _ h9 => h9) rfl dA_keepUnbeaten_31 ?_
    refine lv_iconst (v := 1) hx hb dA_keepUnbeaten_34 (by decide) ?_
    refine lv_isub hx hb dA_keepUnbeaten_35 ?_
    refine lv_topi (fun y2 ey2 => ?_)
    have hy2 : y2 = nI (R - 1) := by rw [ey2, show (1 : Int32) = nI 1 from rfl, pk_sub (by omega)]
    subst hy2
    refine callRV (As := [.int (nI (R - 1))]) (rest := [.int (iI (mc_gain G B (st k % 4096) n))]) ⟨hx, hb, hml, hown, hts⟩ tlB (c_A_gainAt l dC dI q cI cG R ver f gn (R - 1) (by omega) hb2) kw163 kw164 kw165 kw27 kw166 ⟨rfl, rfl⟩ (n := 1) (by decide +kernel) ⟨Nat.le_of_ble_eq_true rfl, Nat.le_of_ble_eq_true rfl⟩ (roP_preV hP.lft hK (ci := 1) (q0 := 0) rfl rfl) rfl hl.1 rfl (Nat.le_of_ble_eq_true rfl) ⟨Nat.le_of_ble_eq_true rfl, Nat.le_of_ble_eq_true rfl⟩ dA_keepUnbeaten_36 (fun r2 hr2 => ?_)
    have hr2 : r2 = iI (mc_gain G B (f (R - 1) % 4096) n) := by rw [hr2, hgn _ htl]
    subst hr2
    have ga := mc_gain_le (S := st k % 4096) hG hB n hn
    have gb := mc_gain_le (S := f (R - 1) % 4096) hG hB n hn
    have gle := iI_le (a := mc_gain G B (st k % 4096) n) (b := mc_gain G B (f (R - 1) % 4096) n) (by omega) (by omega) (by omega) (by omega)
    refine lv_icmp_le (tgt := 95) hx hb dA_keepUnbeaten_39 (by decide) (fun c2 => ?_) (fun c2 => ?_)
    · have c2 := gle.mp c2
      refine lv_iinc (v := (nI (k + 1))) (lv' := [(2, .int (nI (k + 1))), (3, .int (nI (st k % 4096))), (0, .ref (q 0)), (1, .ref (a 0))]) hx hb dA_keepUnbeaten_95 hl (k := 3) rfl (nI_1 k) (by decide) rfl (fun ls hl => ?_)
      refine lv_goto (tgt := 7) hx hb dA_keepUnbeaten_98 (by decide) ?_
      exact ih (k + 1, R, f) H locs ls (⟨mc_keep_skip hn ho hk hkn (fun _ => c2), hP, hD, hS⟩) (by dsimp only; omega) (lv_sub hl [2, 3, 0] rfl)
    · have c2 : mc_gain G B (f (R - 1) % 4096) n < mc_gain G B (st k % 4096) n := by
        rcases Int.lt_or_le (mc_gain G B (f (R - 1) % 4096) n) (mc_gain G B (st k % 4096) n) with z | z
        · exact z
        · exact absurd (gle.mpr z) c2
      refine lv_aload_n hx hb dA_keepUnbeaten_42 rfl (lv_at hl 2 rfl) ?_
      refine lv_iload_n hx hb dA_keepUnbeaten_43 rfl (lv_at hl 0 rfl) ?_
      refine callRV (As := [.int (nI (st k % 4096))]) (rest := []) ⟨hx, hb, hml, hown, hts⟩ tlB (c_H_allows l dC dI a cI cG n v C G X D B (st k % 4096) hn (by omega) (fun m => by have := hX m; omega) (fun m => by have := hDD m; omega)) kw167 kw168 kw169 kw26 kw170 ⟨rfl, rfl⟩ (n := 1) (by decide +kernel) ⟨Nat.le_of_ble_eq_true rfl, Nat.le_of_ble_eq_true rfl⟩ (roP_preV hP.rgt hK (ci := 0) (q0 := 0) rfl rfl) rfl hl.1 rfl (Nat.le_of_ble_eq_true rfl) ⟨Nat.le_of_ble_eq_true rfl, Nat.le_of_ble_eq_true rfl⟩ dA_keepUnbeaten_44 (fun r3 hr3 => ?_)
      refine lv_if_eq (tgt := 95) hx hb dA_keepUnbeaten_47 (by decide) (fun c3 => ?_) (fun c3 => ?_)
      · have hL : ¬ mc_law n X D (st k % 4096) := by
          rcases hr3 with ⟨z, -⟩ | ⟨-, z⟩
          · rw [z] at c3; cases c3
          · exact z
        refine lv_iinc (v := (nI (k + 1))) (lv' := [(2, .int (nI (k + 1))), (3, .int (nI (st k % 4096))), (0, .ref (q 0)), (1, .ref (a 0))]) hx hb dA_keepUnbeaten_95 hl (k := 3) rfl (nI_1 k) (by decide) rfl (fun ls hl => ?_)
        refine lv_goto (tgt := 7) hx hb dA_keepUnbeaten_98 (by decide) ?_
        exact ih (k + 1, R, f) H locs ls (⟨mc_keep_skip hn ho hk hkn (fun h => absurd h hL), hP, hD, hS⟩) (by dsimp only; omega) (lv_sub hl [2, 3, 0] rfl)
      · have hL : mc_law n X D (st k % 4096) := by
          rcases hr3 with ⟨-, z⟩ | ⟨z, -⟩
          · exact z
          · exact absurd z c3
        refine lv_aload_n hx hb dA_keepUnbeaten_50 rfl (lv_at hl 1 rfl) ?_
        refine lv_iload_n hx hb dA_keepUnbeaten_51 rfl (lv_at hl 3 rfl) ?_
        refine callRV (As := [.int (nI k)]) (rest := []) ⟨hx, hb, hml, hown, hts⟩ tlB (c_A_costAt l dC dI q cI cG R ver f gn k (by omega) hb1) kw174 kw175 kw176 kw27 kw177 ⟨rfl, rfl⟩ (n := 1) (by decide +kernel) ⟨Nat.le_of_ble_eq_true rfl, Nat.le_of_ble_eq_true rfl⟩ (roP_preV hP.lft hK (ci := 1) (q0 := 0) rfl rfl) rfl hl.1 rfl (Nat.le_of_ble_eq_true rfl) ⟨Nat.le_of_ble_eq_true rfl, Nat.le_of_ble_eq_true rfl⟩ dA_keepUnbeaten_52 (fun r4 hr4 => ?_)
        have hr4 : r4 = nI (mc_cost C (st k % 4096) n) := by
          rw [hr4, hfk, t2, mc_K_div (by omega), mc_K_mod (by omega)]
        subst hr4
        refine lv_aload_n hx hb dA_keepUnbeaten_55 rfl (lv_at hl 1 rfl) ?_
        refine lv_aload_n hx hb dA_keepUnbeaten_56 rfl (lv_at hl 1 rfl) ?_
        refine va_get (D := (dC, dI)) (ci := 1) (C := RA) (T := FA) (N := 4) hx hb hts (fun w h => List.mem_cons_of_mem _ (inA w h)) hown hK hP 0 rfl rfl 0 (by decide) (hts _ (List.mem_cons_of_mem _ kw88)) (fun _ h9 => h9) rfl dA_keepUnbeaten_57 ?_
        refine lv_iconst (v := 1) hx hb dA_keepUnbeaten_60 (by decide) ?_
        refine lv_isub hx hb dA_keepUnbeaten_61 ?_
        refine lv_topi (fun y3 ey3 => ?_)
        have hy3 : y3 = nI (R - 1) := by rw [ey3, show (1 : Int32) = nI 1 from rfl, pk_sub (by omega)]
        subst hy3
        refine callRV (As := [.int (nI (R - 1))]) (rest := [.int (nI (mc_cost C (st k % 4096) n))]) ⟨hx, hb, hml, hown, hts⟩ tlB (c_A_costAt l dC dI q cI cG R ver f gn (R - 1) (by omega) hb2) kw174 kw175 kw176 kw27 kw177 ⟨rfl, rfl⟩ (n := 1) (by decide +kernel) ⟨Nat.le_of_ble_eq_true rfl, Nat.le_of_ble_eq_true rfl⟩ (roP_preV hP.lft hK (ci := 1) (q0 := 0) rfl rfl) rfl hl.1 rfl (Nat.le_of_ble_eq_true rfl) ⟨Nat.le_of_ble_eq_true rfl, Nat.le_of_ble_eq_true rfl⟩ dA_keepUnbeaten_62 (fun r5 hr5 => ?_)
        have hr5 : r5 = nI (mc_cost C (f (R - 1) % 4096) n) := by
          rw [hr5, htop, mc_K_div (by omega), mc_K_mod (by omega)]
        subst hr5
        have ca := mc_cost_le (S := st k % 4096) hC n
        have cb := mc_cost_le (S := f (R - 1) % 4096) hC n
        have cle := nI_leI (a := mc_cost C (st k % 4096) n) (b := mc_cost C (f (R - 1) % 4096) n) (by omega) (by omega)
        refine lv_icmp_le (tgt := 78) hx hb dA_keepUnbeaten_65 (by decide) (fun c4 => ?_) (fun c4 => ?_)
        · have c4 : ¬ mc_cost C (f (R - 1) % 4096) n < mc_cost C (st k % 4096) n := by have := cle.mp c4; omega
          refine lv_aload_n hx hb dA_keepUnbeaten_78 rfl (lv_at hl 1 rfl) ?_
          refine va_get (D := (dC, dI)) (ci := 1) (C := RA) (T := FA) (N := 4) hx hb hts (fun w h => List.mem_cons_of_mem _ (inA w h)) hown hK hP 0 rfl rfl 2 (by decide) (hts _ (List.mem_cons_of_mem _ kw91)) (fun _ h9 => h9) rfl dA_keepUnbeaten_79 ?_
          refine lv_aload_n hx hb dA_keepUnbeaten_82 rfl (lv_at hl 1 rfl) ?_
          refine va_get (D := (dC, dI)) (ci := 1) (C := RA) (T := FA) (N := 4) hx hb hts (fun w h => List.mem_cons_of_mem _ (inA w h)) hown hK hP 0 rfl rfl 0 (by decide) (hts _ (List.mem_cons_of_mem _ kw88)) (fun _ h9 => h9) rfl dA_keepUnbeaten_83 ?_
          refine lv_iconst (v := 1) hx hb dA_keepUnbeaten_86 (by decide) ?_
          refine lv_isub hx hb dA_keepUnbeaten_87 ?_
          refine lv_topi (fun y4 ey4 => ?_)
          have hy4 : y4 = nI (R - 1) := by rw [ey4, show (1 : Int32) = nI 1 from rfl, pk_sub (by omega)]
          subst hy4
          refine lv_aload_n hx hb dA_keepUnbeaten_88 rfl (lv_at hl 1 rfl) ?_
          refine va_get (D := (dC, dI)) (ci := 1) (C := RA) (T := FA) (N := 4) hx hb hts (fun w h => List.mem_cons_of_mem _ (inA w h)) hown hK hP 0 rfl rfl 2 (by decide) (hts _ (List.mem_cons_of_mem _ kw91)) (fun _ h9 => h9) rfl dA_keepUnbeaten_89 ?_
          refine lv_iload_n hx hb dA_keepUnbeaten_92 rfl (lv_at hl 3 rfl) ?_
          refine ialdN hx hb hK hP 1 0 rfl rfl (k := k) (by omega) (by decide) (v := nI (st k)) (by rw [hfk]) dA_keepUnbeaten_93 ?_
          refine iastN hx hb hK hP hD hS 1 0 rfl rfl (k := (R - 1)) (by omega) (by decide) (x := nI (st k)) (fun j => nI (va_up f (R - 1) (st k) j)) (fun j => by simp only [va_up]; split <;> rfl) (ws' := mcWA q cI R ver (va_up f (R - 1) (st k)) gn ++ mcWH a cI cG n v C G X D B) (rfl) dA_keepUnbeaten_94 (fun H locs hP hD hS => ?_)
          refine lv_iinc (v := (nI (k + 1))) (lv' := [(2, .int (nI (k + 1))), (3, .int (nI (st k % 4096))), (0, .ref (q 0)), (1, .ref (a 0))]) hx hb dA_keepUnbeaten_95 hl (k := 3) rfl (nI_1 k) (by decide) rfl (fun ls hl => ?_)
          refine lv_goto (tgt := 7) hx hb dA_keepUnbeaten_98 (by decide) ?_
          exact ih (k + 1, R, va_up f (R - 1) (st k)) H locs ls (⟨mc_keep_top hn ho hk hkn hL c2 c4 (fun i hi => by simp only [va_up]; rw [if_neg hi]) (by simp [va_up]), hP, hD, hS⟩) (by dsimp only; omega) (lv_sub hl [2, 3, 0] rfl)
        · have c4 : mc_cost C (f (R - 1) % 4096) n < mc_cost C (st k % 4096) n := by
            rcases Nat.lt_or_ge (mc_cost C (f (R - 1) % 4096) n) (mc_cost C (st k % 4096) n) with z | z
            · exact z
            · exact absurd (cle.mpr z) c4
          refine lv_aload_n hx hb dA_keepUnbeaten_68 rfl (lv_at hl 1 rfl) ?_
          refine lv_dup hx hb dA_keepUnbeaten_69 rfl ?_
          refine va_get (D := (dC, dI)) (ci := 1) (C := RA) (T := FA) (N := 4) hx hb hts (fun w h => List.mem_cons_of_mem _ (inA w h)) hown hK hP 0 rfl rfl 0 (by decide) (hts _ (List.mem_cons_of_mem _ kw88)) (fun _ h9 => h9) rfl dA_keepUnbeaten_70 ?_
          refine lv_iconst (v := 1) hx hb dA_keepUnbeaten_73 (by decide) ?_
          refine lv_iadd hx hb dA_keepUnbeaten_74 ?_
          refine lv_topi (fun y5 ey5 => ?_)
          have hy5 : y5 = nI (R + 1) := by rw [ey5]; exact nI_1 R
          subst hy5
          refine va_put (D := (dC, dI)) (ci := 1) (ty := .int) (C := RA) (T := FA) (N := 4) hx hb hts (fun w h => List.mem_cons_of_mem _ (inA w h)) tA tA_ok nA hown hK hP hD hS 0 rfl rfl 0 (by decide) (hts _ (List.mem_cons_of_mem _ kw88)) (fun _ h9 => h9) rfl (by decide +kernel) rfl rfl (Nat.le_of_ble_eq_true rfl) dA_keepUnbeaten_75 (fun H locs hP hD hS => ?_)
          have hP : va_P (dC, dI) mcCl (mcWA q cI (R + 1) ver f gn ++ mcWH a cI cG n v C G X D B) H := hP
          have hD : va_D A (mcWA q cI (R + 1) ver f gn ++ mcWH a cI cG n v C G X D B) := hD
          refine lv_aload_n hx hb dA_keepUnbeaten_78 rfl (lv_at hl 1 rfl) ?_
          refine va_get (D := (dC, dI)) (ci := 1) (C := RA) (T := FA) (N := 4) hx hb hts (fun w h => List.mem_cons_of_mem _ (inA w h)) hown hK hP 0 rfl rfl 2 (by decide) (hts _ (List.mem_cons_of_mem _ kw91)) (fun _ h9 => h9) rfl dA_keepUnbeaten_79 ?_
          refine lv_aload_n hx hb dA_keepUnbeaten_82 rfl (lv_at hl 1 rfl) ?_
          refine va_get (D := (dC, dI)) (ci := 1) (C := RA) (T := FA) (N := 4) hx hb hts (fun w h => List.mem_cons_of_mem _ (inA w h)) hown hK hP 0 rfl rfl 0 (by decide) (hts _ (List.mem_cons_of_mem _ kw88)) (fun _ h9 => h9) rfl dA_keepUnbeaten_83 ?_
          refine lv_iconst (v := 1) hx hb dA_keepUnbeaten_86 (by decide) ?_
          refine lv_isub hx hb dA_keepUnbeaten_87 ?_
          refine lv_topi (fun y6 ey6 => ?_)
          have hy6 : y6 = nI (R) := by rw [ey6, show (1 : Int32) = nI 1 from rfl, pk_sub (by omega)]; rfl
          subst hy6
          refine lv_aload_n hx hb dA_keepUnbeaten_88 rfl (lv_at hl 1 rfl) ?_
          refine va_get (D := (dC, dI)) (ci := 1) (C := RA) (T := FA) (N := 4) hx hb hts (fun w h => List.mem_cons_of_mem _ (inA w h)) hown hK hP 0 rfl rfl 2 (by decide) (hts _ (List.mem_cons_of_mem _ kw91)) (fun _ h9 => h9) rfl dA_keepUnbeaten_89 ?_
          refine lv_iload_n hx hb dA_keepUnbeaten_92 rfl (lv_at hl 3 rfl) ?_
          refine ialdN hx hb hK hP 1 0 rfl rfl (k := k) (by omega) (by decide) (v := nI (st k)) (by rw [hfk]) dA_keepUnbeaten_93 ?_
          refine iastN hx hb hK hP hD hS 1 0 rfl rfl (k := (R)) (by omega) (by decide) (x := nI (st k)) (fun j => nI (va_up f (R) (st k) j)) (fun j => by simp only [va_up]; split <;> rfl) (ws' := mcWA q cI (R + 1) ver (va_up f (R) (st k)) gn ++ mcWH a cI cG n v C G X D B) (rfl) dA_keepUnbeaten_94 (fun H locs hP hD hS => ?_)
          refine lv_iinc (v := (nI (k + 1))) (lv' := [(2, .int (nI (k + 1))), (3, .int (nI (st k % 4096))), (0, .ref (q 0)), (1, .ref (a 0))]) hx hb dA_keepUnbeaten_95 hl (k := 3) rfl (nI_1 k) (by decide) rfl (fun ls hl => ?_)
          refine lv_goto (tgt := 7) hx hb dA_keepUnbeaten_98 (by decide) ?_
          exact ih (k + 1, R + 1, va_up f R (st k)) H locs ls (⟨mc_keep_push hn ho hk hkn hL c2 c4 (fun i hi => by simp only [va_up]; rw [if_neg hi]) (by simp [va_up]), hP, hD, hS⟩) (by dsimp only; omega) (lv_sub hl [2, 3, 0] rfl)
end
section
/-! the ladder: bringUpToDate -/
theorem mc_K_top {C : Nat → Nat} {n k S : Nat} (hk : k < n) (hS : S < 2 ^ k) : mc_K C n (2 ^ k + S) = mc_K C n S + (C k * 4096 + 2 ^ k) := by
  have hp1 : 2 ^ (k + 1) = 2 * 2 ^ k := by rw [Nat.pow_succ]; omega
  have h1 : mc_cost C (2 ^ k + S) n = mc_cost C S n + C k := by
    rw [mc_cost_hi (m := k + 1) (by omega) n hk, mc_cost_top hS, mc_cost_hi hS n (by omega)]
  show mc_cost C (2 ^ k + S) n * 4096 + (2 ^ k + S) = mc_cost C S n * 4096 + S + (C k * 4096 + 2 ^ k)
  rw [h1]
  omega
/-- the ladder's rows for k measures: the keys in order, the gains -/
def mc_rows (n : Nat) (C G : Nat → Nat) (B : Nat → Nat → Int) (k : Nat) (f : Nat → Nat) (g : Nat → Int) : Prop := mc_ord (2 ^ k) (mc_K C n) f ∧ ∀ S, S < 2 ^ k → g S = mc_gain G B S k
theorem mc_rows_0 {n : Nat} {C G : Nat → Nat} {B : Nat → Nat → Int} {f : Nat → Nat} {g : Nat → Int} (hf : f 0 = 0) (hg : g 0 = 0) : mc_rows n C G B 0 f g := by
  refine ⟨⟨fun i j h1 h2 => absurd h2 (by simp; omega), fun S hS => ⟨0, by simp, ?_⟩, fun i hi => ⟨0, by simp, ?_⟩⟩, fun S hS => ?_⟩
  · rw [show S = 0 by simpa using hS, mc_K_0]; exact hf
  · rw [show i = 0 by simpa using hi, mc_K_0]; exact hf
  · rw [show S = 0 by simpa using hS]; exact hg
/-- up to date: the rungs and the gains are those of the house -/
def mc_upd (n : Nat) (C G X D : Nat → Nat) (B : Nat → Nat → Int) (rg : Nat) (st : Nat → Nat) (gn : Nat → Int) : Prop := mc_Lad n C G X D B rg st ∧ ∀ S, S < 2 ^ n → gn S = mc_gain G B S n
set_option maxHeartbeats 4000000 in
set_option maxRecDepth 100000 in
theorem c_A_bringUpToDate (l : Launch) (dC : Nat → ClassId) (dI : Nat → Nat → Nat) (q a : Nat → Nat) (cI cG : ClassId) (rg : Nat) (ver : Int) (st : Nat → Nat) (gn : Nat → Int) (n v : Nat) (C G X D : Nat → Nat) (B : Nat → Nat → Int) (sz : Nat) (hn : n ≤ 12) (hC : ∀ m, C m ≤ 10000) (hG : ∀ m, G m ≤ 10000) (hB : ∀ i j, -5000 ≤ B i j ∧ B i j ≤ 5000) (hX : ∀ m, X m < 4096) (hDD : ∀ m, D m < 4096) (hv1 : -1 ≤ ver) (hv2 : ver < 2147483648) (hv3 : v < 2147483648) (hup : ver = (v : Int) → mc_upd n C G X D B rg st gn) : Met l yA_bringUpToDate wdA_bringUpToDate ({ frames := 3, cells := 0, slots := 0, locals := 66 }) (wrP (dC, dI) mcCl (mcWA q cI rg ver st gn ++ mcWH a cI cG n v C G X D B) (mcTH cI cG) sz [.ref (q 0), .ref (a 0)]) (va_Qv (fun x : Nat × (Nat → Nat) × (Nat → Int) => mc_upd n C G X D B x.1 x.2.1 x.2.2) (fun x t => va_P (dC, dI) mcCl (mcWA q cI x.1 ((v : Nat) : Int) x.2.1 x.2.2 ++ mcWH a cI cG n v C G X D B) t.heap ∧ va_K (dC, dI) mcCl (mcTH cI cG) t ∧ va_D (va_A (mcWA q cI rg ver st gn ++ mcWH a cI cG n v C G X D B) sz) (mcWA q cI x.1 ((v : Nat) : Int) x.2.1 x.2.2 ++ mcWH a cI cG n v C G X D B)) (va_A (mcWA q cI rg ver st gn ++ mcWH a cI cG n v C G X D B) sz)) 0 0 (va_A (mcWA q cI rg ver st gn ++ mcWH a cI cG n v C G X D B) sz) := by
  refine Met.ofW (cc := bA_bringUpToDate) (maxL := 3) (ret := none) (by decide) rfl ?_
  intro p e s m args below meth c s₁ BB hml hv
  obtain ⟨rfl, hsz, hP, hK, hD0⟩ := hv
  have hx := BB.exec
  have hb := BB.bytes
  have hr := BB.returns
  have hts := atoms_spec (ws := wdA_bringUpToDate) BB.pre
  have hown : s.vm.findClass RA = some m.cls := findClass_of_methodNamed BB.named
  have hlocks := BB.notSynchronized
  subst hsz
  have hD := hD0.self (sz := s.heap.size)
  generalize hAe : va_A (mcWA q cI rg ver st gn ++ mcWH a cI cG n v C G X D B) s.heap.size = A at hD ⊢
  have hA : ∀ q : Nat, s.heap.size ≤ q → A q := fun q h => by rw [← hAe]; exact Or.inr h
  have hS : va_S A s.heap s.heap [] := va_S.rf
  have hl := lv_entry ([.ref (q 0), .ref (a 0)]) (n := 3) (Nat.le_of_ble_eq_true rfl)
  rw [lg_entry_eq]
  generalize (lg_sl ([.ref (q 0), .ref (a 0)]) ++ List.replicate (3 - (lg_sl ([.ref (q 0), .ref (a 0)])).length) Slot.unset).toArray = ls at hl ⊢
  have hl : lv_has ls 3 [(0, .ref (q 0)), (1, .ref (a 0))] := hl
  have hp12 : 2 ^ n ≤ 2 ^ 12 := Nat.pow_le_pow_right (by decide) hn
  refine lv_aload_n hx hb dA_bringUpToDate_0 rfl (lv_at hl 0 rfl) ?_
  refine va_get (D := (dC, dI)) (ci := 1) (C := RA) (T := FA) (N := 4) hx hb hts (fun w h => List.mem_cons_of_mem _ (inA w h)) hown hK hP 0 rfl rfl 1 (by decide) (hts _ (List.mem_cons_of_mem _ kw90)) (fun _ h9 => h9) rfl dA_bringUpToDate_1 ?_
  refine lv_aload_n hx hb dA_bringUpToDate_4 rfl (lv_at hl 1 rfl) ?_
  refine va_get (D := (dC, dI)) (ci := 0) (C := RH) (T := FH) (N := 7) hx hb hts (fun w h => List.mem_cons_of_mem _ (inH w h)) hown hK hP 3 rfl rfl 1 (by decide) (hts _ (List.mem_cons_of_mem _ kw55)) (fun _ h9 => h9) rfl dA_bringUpToDate_5 ?_
  refine lv_topi (fun y1 ey1 => ?_)
  have hy1 : y1 = iI ((v : Nat) : Int) := by rw [ey1, iI_nat]
  subst hy1
  refine lv_icmp_ne (tgt := 12) hx hb dA_bringUpToDate_8 (by decide) (fun c1 => ?_) (fun c1 => ?_)
  ·
    refine lv_aload_n hx hb dA_bringUpToDate_12 rfl (lv_at hl 0 rfl) ?_
    refine va_get (D := (dC, dI)) (ci := 1) (C := RA) (T := FA) (N := 4) hx hb hts (fun w h => List.mem_cons_of_mem _ (inA w h)) hown hK hP 0 rfl rfl 2 (by decide) (hts _ (List.mem_cons_of_mem _ kw91)) (fun _ h9 => h9) rfl dA_bringUpToDate_13 ?_
    refine lv_iconst (v := 0) hx hb dA_bringUpToDate_16 (by decide) ?_
    refine lv_iconst (v := 0) hx hb dA_bringUpToDate_17 (by decide) ?_
    refine W.eq (g2 := F0 m 18 ls [.int (nI 0), .int (nI 0), .ref (q 1)]) rfl ?_
    refine iastN hx hb hK hP hD hS 1 0 rfl rfl (k := 0) (by decide) (by decide) (x := nI 0) (fun j => nI (va_up st 0 0 j)) (fun j => by simp only [va_up]; split <;> rfl) (ws' := mcWA q cI rg ver (va_up st 0 0) gn ++ mcWH a cI cG n v C G X D B) (rfl) dA_bringUpToDate_18 (fun H locs hP hD hS => ?_)
    refine lv_aload_n hx hb dA_bringUpToDate_19 rfl (lv_at hl 0 rfl) ?_
    refine va_get (D := (dC, dI)) (ci := 1) (C := RA) (T := FA) (N := 4) hx hb hts (fun w h => List.mem_cons_of_mem _ (inA w h)) hown hK hP 0 rfl rfl 3 (by decide) (hts _ (List.mem_cons_of_mem _ kw92)) (fun _ h9 => h9) rfl dA_bringUpToDate_20 ?_
    refine lv_iconst (v := 0) hx hb dA_bringUpToDate_23 (by decide) ?_
    refine lv_iconst (v := 0) hx hb dA_bringUpToDate_24 (by decide) ?_
    refine W.eq (g2 := F0 m 25 ls [.int (iI 0), .int (nI 0), .ref (q 2)]) rfl ?_
    refine iastN hx hb hK hP hD hS 2 0 rfl rfl (k := 0) (by decide) (by decide) (x := iI 0) (fun j => iI (va_up gn 0 0 j)) (fun j => by simp only [va_up]; split <;> rfl) (ws' := mcWA q cI rg ver (va_up st 0 0) (va_up gn 0 0) ++ mcWH a cI cG n v C G X D B) (rfl) dA_bringUpToDate_25 (fun H locs hP hD hS => ?_)
    refine lv_iconst (v := 0) hx hb dA_bringUpToDate_26 (by decide) ?_
    refine lv_istore_n (lv' := [(2, .int 0), (0, .ref (q 0)), (1, .ref (a 0))]) hx hb dA_bringUpToDate_27 rfl hl (by decide) rfl (fun ls hl => ?_)
    refine lpW (σ := Nat × (Nat → Nat) × (Nat → Int)) (fun x H locs => x.1 ≤ n ∧ mc_rows n C G B x.1 x.2.1 x.2.2 ∧ va_P (dC, dI) mcCl (mcWA q cI rg ver x.2.1 x.2.2 ++ mcWH a cI cG n v C G X D B) H ∧ va_D A (mcWA q cI rg ver x.2.1 x.2.2 ++ mcWH a cI cG n v C G X D B) ∧ va_S A s.heap H locs) (fun x => [(0, .ref (q 0)), (1, .ref (a 0)), (2, .int (nI x.1))]) (fun x => n - x.1) (fun x H locs ls hI hl ih => ?_) ((0, va_up st 0 0, va_up gn 0 0)) _ _ ls (⟨Nat.zero_le _, mc_rows_0 (by simp [va_up]) (by simp [va_up]), hP, hD, hS⟩) (lv_sub hl [1, 2, 0] rfl)
    obtain ⟨k, f, g⟩ := x
    have hl : lv_has ls 3 [(0, .ref (q 0)), (1, .ref (a 0)), (2, .int (nI k))] := hl
    obtain ⟨hk, hR, hP, hD, hS⟩ := hI
    dsimp only at hk hR hP hD
    refine lv_iload_n hx hb dA_bringUpToDate_28 rfl (lv_at hl 2 rfl) ?_
    refine lv_aload_n hx hb dA_bringUpToDate_29 rfl (lv_at hl 1 rfl) ?_
    refine va_get (D := (dC, dI)) (ci := 0) (C := RH) (T := FH) (N := 7) hx hb hts (fun w h => List.mem_cons_of_mem _ (inH w h)) hown hK hP 3 rfl rfl 0 (by decide) (hts _ (List.mem_cons_of_mem _ kw53)) (fun _ h9 => h9) rfl dA_bringUpToDate_30 ?_
    refine lv_icmp_ge (tgt := 68) hx hb dA_bringUpToDate_33 (by decide) (fun c2 => ?_) (fun c2 => ?_)
    · have hkn : k = n := by have := (nI_leI (by omega) (by omega)).mp c2; omega
      rw [hkn] at hR
      refine lv_aload_n hx hb dA_bringUpToDate_68 rfl (lv_at hl 0 rfl) ?_
      refine lv_aload_n hx hb dA_bringUpToDate_69 rfl (lv_at hl 1 rfl) ?_
      refine callWX (As := [.ref (a 0)]) (rest := []) ⟨hx, hb, hml, hown, hts⟩ tlB (c_A_keepUnbeaten l dC dI q a cI cG rg ver f g n v C G X D B H.size hn hC hG hB hX hDD hR.1 hR.2) kw156 kw157 kw2 kw27 kw158 ⟨rfl, rfl⟩ (n := 1) (by decide +kernel) ⟨Nat.le_of_ble_eq_true rfl, Nat.le_of_ble_eq_true rfl⟩ hP hK hD hS (freeA hD hS hA) (ci := 1) (q0 := 0) rfl rfl rfl hl.1 rfl (Nat.le_of_ble_eq_true rfl) ⟨Nat.le_of_ble_eq_true rfl, Nat.le_of_ble_eq_true rfl⟩ dA_bringUpToDate_70 (fun u9 H1 locs1 hu hP1 hD1 hk1 hS1 => ?_)
      obtain ⟨R9, f9⟩ := u9
      have hD := hD1.weaken (fun _ z _ h => (freeA hD hS hA) z.1 h)
      have hP := hP1
      have hS := hS1
      dsimp only at hu hP hD
      refine lv_aload_n hx hb dA_bringUpToDate_73 rfl (lv_at hl 0 rfl) ?_
      refine lv_aload_n hx hb dA_bringUpToDate_74 rfl (lv_at hl 1 rfl) ?_
      refine va_get (D := (dC, dI)) (ci := 0) (C := RH) (T := FH) (N := 7) hx hb hts (fun w h => List.mem_cons_of_mem _ (inH w h)) hown hK hP 3 rfl rfl 1 (by decide) (hts _ (List.mem_cons_of_mem _ kw55)) (fun _ h9 => h9) rfl dA_bringUpToDate_75 ?_
      refine lv_topi (fun y2 ey2 => ?_)
      have hy2 : y2 = iI ((v : Nat) : Int) := by rw [ey2, iI_nat]
      subst hy2
      have hP : va_P (dC, dI) mcCl (mcWA q cI R9 ver f9 g ++ mcWH a cI cG n v C G X D B) H1 := hP
      refine va_put (D := (dC, dI)) (ci := 1) (ty := .int) (C := RA) (T := FA) (N := 4) hx hb hts (fun w h => List.mem_cons_of_mem _ (inA w h)) tA tA_ok nA hown hK hP hD hS 0 rfl rfl 1 (by decide) (hts _ (List.mem_cons_of_mem _ kw90)) (fun _ h9 => h9) rfl (by decide +kernel) rfl rfl (Nat.le_of_ble_eq_true rfl) dA_bringUpToDate_78 (fun H locs hP hD hS => ?_)
      have hP : va_P (dC, dI) mcCl (mcWA q cI R9 ((v : Nat) : Int) f9 g ++ mcWH a cI cG n v C G X D B) H := hP
      have hD : va_D A (mcWA q cI R9 ((v : Nat) : Int) f9 g ++ mcWH a cI cG n v C G X D B) := hD
      exact W.vret hx hb hr (fun t ht hW => ⟨⟨(R9, f9, g), rfl, ⟨hu, hR.2⟩, by rw [ht]; exact hP, va_K.moved hW.alike hK, hD⟩, hS.F ht⟩) hS.2.2 dA_bringUpToDate_81
    · have hkn : k < n := by
        rcases Nat.lt_or_ge k n with z | z
        · exact z
        · exact absurd (nI_le z (by omega)) c2
      have hp1 : 2 ^ (k + 1) = 2 * 2 ^ k := by rw [Nat.pow_succ]; omega
      have hpk : 2 ^ k ≤ 2 ^ 11 := Nat.pow_le_pow_right (by decide) (by omega)
      have hpp : 0 < 2 ^ k := Nat.pow_pos (by decide)
      have hCk := hC k
      refine lv_aload_n hx hb dA_bringUpToDate_36 rfl (lv_at hl 0 rfl) ?_
      refine lv_iconst (v := 1) hx hb dA_bringUpToDate_37 (by decide) ?_
      refine lv_iload_n hx hb dA_bringUpToDate_38 rfl (lv_at hl 2 rfl) ?_
      refine lv_ishl hx hb dA_bringUpToDate_39 ?_
      refine lv_topi (fun y3 ey3 => ?_)
      have hy3 : y3 = nI (2 ^ k) := by rw [ey3, nI_bit (by omega)]
      subst hy3
      refine lv_aload_n hx hb dA_bringUpToDate_40 rfl (lv_at hl 1 rfl) ?_
      refine va_get (D := (dC, dI)) (ci := 0) (C := RH) (T := FH) (N := 7) hx hb hts (fun w h => List.mem_cons_of_mem _ (inH w h)) hown hK hP 3 rfl rfl 2 (by decide) (hts _ (List.mem_cons_of_mem _ kw57)) (fun _ h9 => h9) rfl dA_bringUpToDate_41 ?_
      refine lv_iload_n hx hb dA_bringUpToDate_44 rfl (lv_at hl 2 rfl) ?_
      refine ialdN hx hb hK hP 4 0 rfl rfl (k := k) (by omega) (by decide) (v := nI (C k)) rfl dA_bringUpToDate_45 ?_
      refine lv_bipush (v := 12) hx hb dA_bringUpToDate_46 (by decide) ?_
      refine lv_ishl hx hb dA_bringUpToDate_48 ?_
      refine lv_topi (fun y4 ey4 => ?_)
      have hy4 : y4 = nI (C k * 4096) := by rw [ey4]; exact nI_shl (k := 12) (by omega) (by omega)
      subst hy4
      refine lv_iconst (v := 1) hx hb dA_bringUpToDate_49 (by decide) ?_
      refine lv_iload_n hx hb dA_bringUpToDate_50 rfl (lv_at hl 2 rfl) ?_
      refine lv_ishl hx hb dA_bringUpToDate_51 ?_
      refine lv_topi (fun y5 ey5 => ?_)
      have hy5 : y5 = nI (2 ^ k) := by rw [ey5, nI_bit (by omega)]
      subst hy5
      refine lv_iadd hx hb dA_bringUpToDate_52 ?_
      refine lv_topi (fun y6 ey6 => ?_)
      have hy6 : y6 = nI (C k * 4096 + 2 ^ k) := by rw [ey6, nI_add]
      subst hy6
      have hfk : ∀ i, i < 2 ^ k → ∃ S, S < 2 ^ k ∧ f i = mc_K C n S := hR.1.2.2
      refine callWX (As := [.int (nI (2 ^ k)), .int (nI (C k * 4096 + 2 ^ k))]) (rest := []) ⟨hx, hb, hml, hown, hts⟩ tlB (c_A_addSteps l dC dI q cI cG rg ver f g H.size (2 ^ k) (C k * 4096 + 2 ^ k) hpp (by omega) (by omega) hR.1.1 (fun i j hi hj => by obtain ⟨S, s1, s2⟩ := hfk i hi; obtain ⟨T, t1, t2⟩ := hfk j hj; rw [s2, t2, ← mc_K_top hkn s1]; intro z; have := mc_K_inj (by omega) (by omega) z; omega) (fun i hi => by obtain ⟨S, s1, s2⟩ := hfk i hi; rw [s2]; have := mc_K_lt (n := n) (S := S) hC hn (by omega); omega)) kw150 kw151 kw0 kw27 kw152 ⟨rfl, rfl⟩ (n := 2) (by decide +kernel) ⟨Nat.le_of_ble_eq_true rfl, Nat.le_of_ble_eq_true rfl⟩ hP.lft hK hD.lft hS (va_freeL hD hS hA) (ci := 1) (q0 := 0) rfl rfl rfl hl.1 rfl (Nat.le_of_ble_eq_true rfl) ⟨Nat.le_of_ble_eq_true rfl, Nat.le_of_ble_eq_true rfl⟩ dA_bringUpToDate_53 (fun u9 H1 locs1 hu hP1 hD1 hk1 hS1 => ?_)
      obtain ⟨pq, hmg⟩ := hu
      obtain ⟨hP, hD⟩ := va_jnL hP hD hk1 (va_freeL hD hS hA) hP1 hD1
      have hS := hS1
      have hord : mc_ord (2 ^ (k + 1)) (mc_K C n) u9 := by
        rw [hp1]
        exact mc_mrg_end hR.1 hmg (fun _ _ => rfl) (fun S hS9 => mc_K_top hkn hS9)
      refine lv_aload_n hx hb dA_bringUpToDate_56 rfl (lv_at hl 0 rfl) ?_
      refine lv_iload_n hx hb dA_bringUpToDate_57 rfl (lv_at hl 2 rfl) ?_
      refine lv_aload_n hx hb dA_bringUpToDate_58 rfl (lv_at hl 1 rfl) ?_
      refine callWX (As := [.int (nI k), .ref (a 0)]) (rest := []) ⟨hx, hb, hml, hown, hts⟩ tlB (c_A_addGains l dC dI q a cI cG rg ver u9 g n v C G X D B H1.size k hkn hn hR.2) kw153 kw154 kw1 kw27 kw155 ⟨rfl, rfl⟩ (n := 2) (by decide +kernel) ⟨Nat.le_of_ble_eq_true rfl, Nat.le_of_ble_eq_true rfl⟩ hP hK hD hS (freeA hD hS hA) (ci := 1) (q0 := 0) rfl rfl rfl hl.1 rfl (Nat.le_of_ble_eq_true rfl) ⟨Nat.le_of_ble_eq_true rfl, Nat.le_of_ble_eq_true rfl⟩ dA_bringUpToDate_59 (fun g9 H2 locs2 hg9 hP2 hD2 hk2 hS2 => ?_)
      have hD := hD2.weaken (fun _ z _ h => (freeA hD hS hA) z.1 h)
      have hP := hP2
      have hS := hS2
      refine lv_iinc (v := (nI (k + 1))) (lv' := [(2, .int (nI (k + 1))), (0, .ref (q 0)), (1, .ref (a 0))]) hx hb dA_bringUpToDate_62 hl (k := 2) rfl (nI_1 k) (by decide) rfl (fun ls hl => ?_)
      refine lv_goto (tgt := 28) hx hb dA_bringUpToDate_65 (by decide) ?_
      exact ih (k + 1, u9, g9) H2 locs2 ls ⟨hkn, ⟨hord, hg9⟩, hP, hD, hS⟩ (by dsimp only; omega) (lv_sub hl [1, 2, 0] rfl)
  · have hve : ver = (v : Int) := (iI_eq (by omega) (by omega) (by omega) (by omega)).mp c1
    subst hve
    exact W.vret hx hb hr (fun t ht hW => ⟨⟨(rg, st, gn), rfl, (hup rfl), by rw [ht]; exact hP, va_K.moved hW.alike hK, hD⟩, hS.F ht⟩) hS.2.2 dA_bringUpToDate_11
end
section
/-! the planner: its cells, and its methods that only read -/
def mcWP (r : Nat → Nat) (cI cG : ClassId) (bu : Nat → Nat) (T : Nat → Nat → Int) (P : Nat → Nat → Nat) (pu pr : Nat → Nat) (ga : Nat → Int) (se : Nat) : va_W :=
  (r 0, .inr (2, [.ref (r 1), .ref (r 2), .ref (r 3), .ref (r 4), .ref (r 5), .ref (r 6), .int (nI se)])) :: (r 1, .inl (cI, 4, .inl (fun y => nI (bu y)))) :: (r 2, .inl (cG, 4, .inr (.inr (.inr (.inr (fun j => if j < 4 then some (r (7 + j)) else none)))))) :: (r 3, .inl (cG, 4, .inr (.inr (.inr (.inr (fun j => if j < 4 then some (r (11 + j)) else none)))))) :: (r 4, .inl (cI, 4, .inl (fun y => nI (pu y)))) :: (r 5, .inl (cI, 64, .inl (fun S => nI (pr S)))) :: (r 6, .inl (cI, 64, .inl (fun S => iI (ga S)))) :: ((List.range 4).map (fun j => (r (7 + j), .inl (cI, 64, .inl (fun S => iI (T j S))))) ++ (List.range 4).map (fun j => (r (11 + j), .inl (cI, 64, .inl (fun S => nI (P j S))))))
theorem mc4 {Q : Nat → Prop} (h0 : Q 0) (h1 : Q 1) (h2 : Q 2) (h3 : Q 3) (j : Nat) (hj : j < 4) : Q j := by
  rcases (show j = 0 ∨ j = 1 ∨ j = 2 ∨ j = 3 by omega) with rfl | rfl | rfl | rfl <;> assumption
theorem mcWP_T {r : Nat → Nat} {cI cG : ClassId} {bu : Nat → Nat} {T : Nat → Nat → Int} {P : Nat → Nat → Nat} {pu pr : Nat → Nat} {ga : Nat → Int} {se j : Nat} (hj : j < 4) : (mcWP r cI cG bu T P pu pr ga se)[7 + j]? = some (r (7 + j), .inl (cI, 64, .inl (fun S => iI (T j S)))) :=
  mc4 (Q := fun j => (mcWP r cI cG bu T P pu pr ga se)[7 + j]? = some (r (7 + j), .inl (cI, 64, .inl (fun S => iI (T j S))))) rfl rfl rfl rfl j hj
theorem mcWP_P {r : Nat → Nat} {cI cG : ClassId} {bu : Nat → Nat} {T : Nat → Nat → Int} {P : Nat → Nat → Nat} {pu pr : Nat → Nat} {ga : Nat → Int} {se j : Nat} (hj : j < 4) : (mcWP r cI cG bu T P pu pr ga se)[11 + j]? = some (r (11 + j), .inl (cI, 64, .inl (fun S => nI (P j S)))) :=
  mc4 (Q := fun j => (mcWP r cI cG bu T P pu pr ga se)[11 + j]? = some (r (11 + j), .inl (cI, 64, .inl (fun S => nI (P j S))))) rfl rfl rfl rfl j hj
theorem mc_next9 : (List.range 64).all (fun B => (List.range 64).all fun S => !(S &&& B == B) || (List.range 64).all fun U => !(U &&& B == B) || Nat.ble U S || Nat.ble ((S + 1) ||| B) U) = true := by decide +kernel
theorem mc_next (B : Nat) (hB : B < 64) (S : Nat) (hS : S < 64) (h1 : S &&& B = B) (U : Nat) (hU : U < 64) (h2 : U &&& B = B) (h3 : S < U) : (S + 1) ||| B ≤ U := by
  have h := List.all_eq_true.mp (List.all_eq_true.mp mc_next9 B (List.mem_range.mpr hB)) S (List.mem_range.mpr hS)
  rw [Bool.or_eq_true, Bool.not_eq_true'] at h
  rcases h with h | h
  · rw [beq_eq_false_iff_ne] at h
    exact absurd h1 h
  · have h := List.all_eq_true.mp h U (List.mem_range.mpr hU)
    rw [Bool.or_eq_true, Bool.or_eq_true, Bool.not_eq_true'] at h
    rcases h with (h | h) | h
    · rw [beq_eq_false_iff_ne] at h
      exact absurd h2 h
    · exact absurd (Nat.le_of_ble_eq_true h) (by omega)
    · exact Nat.le_of_ble_eq_true h
theorem mc_sub_and {B S : Nat} : mc_sub B S ↔ S &&& B = B := by
  constructor
  · intro h
    apply Nat.eq_of_testBit_eq
    intro j
    rw [Nat.testBit_and]
    have := h j
    cases hb : B.testBit j <;> cases hs : S.testBit j <;> simp_all
  · intro h j hj
    have := congrArg (fun x => x.testBit j) h
    simp only [Nat.testBit_and] at this
    rw [hj] at this
    cases hs : S.testBit j <;> simp_all
theorem mc_sub_le {B S : Nat} (h : mc_sub B S) : B ≤ S := by
  have := mc_sub_and.mp h
  rw [← this]
  exact Nat.and_le_left
theorem mc_sub_or {B S : Nat} : mc_sub B (S ||| B) := fun j hj => by rw [Nat.testBit_or, hj, Bool.or_true]
theorem mc_sub_rf {B : Nat} : mc_sub B B := fun _ h => h
theorem mc_sub_tr {A B S : Nat} (h : mc_sub A B) (h2 : mc_sub B S) : mc_sub A S := fun j hj => h2 j (h j hj)
theorem mc_sub_0 {S : Nat} : mc_sub 0 S := fun j h => by simp at h
/-- of the sets around Bf below K, f is the best so far -/
def mc_pk (N : Nat) (ok : Nat → Prop) (t : Nat → Int) (sp : Nat → Nat) (Bf f K : Nat) : Prop :=
  f < N ∧ ok f ∧ mc_sub Bf f ∧ mc_sub Bf K ∧ f ≤ K ∧ ∀ S, S < N → ok S → mc_sub Bf S → S < K → t S < t f ∨ (t S = t f ∧ (sp f < sp S ∨ (sp f = sp S ∧ f ≤ S)))
theorem mc_pk_0 {N : Nat} {ok : Nat → Prop} {t : Nat → Int} {sp : Nat → Nat} {Bf : Nat} (hB : Bf < N) (ho : ok Bf) : mc_pk N ok t sp Bf Bf Bf := ⟨hB, ho, mc_sub_rf, mc_sub_rf, Nat.le_refl _, fun S _ _ hs h => absurd (mc_sub_le hs) (by omega)⟩
theorem mc_pk_n {N : Nat} {ok : Nat → Prop} {t : Nat → Int} {sp : Nat → Nat} {Bf f K : Nat} (hN : N ≤ 64) (h : mc_pk N ok t sp Bf f K) (hK : K < N) (hb : ok K → ¬ (t f < t K ∨ (t K = t f ∧ sp K < sp f))) : mc_pk N ok t sp Bf f ((K + 1) ||| Bf) := by
  obtain ⟨h1, h2, h3, h4, h5, h6⟩ := h
  refine ⟨h1, h2, h3, mc_sub_or, Nat.le_trans h5 (Nat.le_trans (Nat.le_succ K) Nat.left_le_or), fun S hS ho hs hl => ?_⟩
  rcases Nat.lt_trichotomy S K with z | z | z
  · exact h6 S hS ho hs z
  · subst z
    have := hb ho
    rcases Int.lt_trichotomy (t S) (t f) with q | q | q
    · exact Or.inl q
    · right
      refine ⟨q, ?_⟩
      rcases Nat.lt_trichotomy (sp f) (sp S) with q2 | q2 | q2
      · exact Or.inl q2
      · exact Or.inr ⟨q2, h5⟩
      · exact absurd (Or.inr ⟨q, q2⟩) this
    · exact absurd (Or.inl q) this
  · exact absurd (mc_next Bf (by have := mc_sub_le h3; omega) K (by omega) (mc_sub_and.mp h4) S (by omega) (mc_sub_and.mp hs) z) (by omega)
theorem mc_pk_y {N : Nat} {ok : Nat → Prop} {t : Nat → Int} {sp : Nat → Nat} {Bf f K : Nat} (hN : N ≤ 64) (h : mc_pk N ok t sp Bf f K) (hK : K < N) (ho : ok K) (hb : t f < t K ∨ (t K = t f ∧ sp K < sp f)) : mc_pk N ok t sp Bf K ((K + 1) ||| Bf) := by
  obtain ⟨h1, h2, h3, h4, h5, h6⟩ := h
  refine ⟨hK, ho, h4, mc_sub_or, Nat.le_trans (Nat.le_succ K) Nat.left_le_or, fun S hS hoS hs hl => ?_⟩
  rcases Nat.lt_trichotomy S K with z | z | z
  · rcases h6 S hS hoS hs z with q | ⟨q, q2⟩ <;> rcases hb with k | ⟨k, k2⟩
    · left; omega
    · left; omega
    · left; omega
    · right
      refine ⟨by omega, Or.inl ?_⟩
      rcases q2 with q2 | ⟨q2, -⟩ <;> omega
  · subst z
    exact Or.inr ⟨rfl, Or.inr ⟨rfl, Nat.le_refl _⟩⟩
  · exact absurd (mc_next Bf (by have := mc_sub_le h3; omega) K (by omega) (mc_sub_and.mp h4) S (by omega) (mc_sub_and.mp hs) z) (by omega)
theorem mc_pk_end {N : Nat} {ok : Nat → Prop} {t : Nat → Int} {sp : Nat → Nat} {Bf f K : Nat} (h : mc_pk N ok t sp Bf f K) (hK : N ≤ K) : mc_pick N ok t sp Bf f := ⟨h.1, h.2.1, h.2.2.1, fun S hS ho hs => h.2.2.2.2.2 S hS ho hs (by omega)⟩
set_option maxHeartbeats 4000000 in
set_option maxRecDepth 100000 in
theorem c_P_isBetter (l : Launch) (dC : Nat → ClassId) (dI : Nat → Nat → Nat) (r : Nat → Nat) (cI cG : ClassId) (bu : Nat → Nat) (T : Nat → Nat → Int) (P : Nat → Nat → Nat) (pu pr : Nat → Nat) (ga : Nat → Int) (se : Nat) (y S O : Nat) (hy : y < 4) (hS : S < 64) (hO : O < 64) (hb1 : -2147483648 ≤ T y S ∧ T y S < 2147483648) (hb2 : -2147483648 ≤ T y O ∧ T y O < 2147483648) (hb3 : P y S < 2147483648) (hb4 : P y O < 2147483648) : Met l yP_isBetter wdP_isBetter ({ frames := 0, cells := 0, slots := 0, locals := 0 }) (roP (dC, dI) mcCl (mcWP r cI cG bu T P pu pr ga se) (mcTH cI cG) [.ref (r 0), .int (nI y), .int (nI S), .int (nI O)]) (vp_Si (fun z9 => mcZ (T y O < T y S ∨ (T y S = T y O ∧ P y S < P y O)) z9)) 0 0 (fun _ => False) := by
  refine Met.ofW (cc := bP_isBetter) (maxL := 4) (ret := (some FieldType.boolean)) (by decide) rfl ?_
  intro p e s m args below meth c s₁ BB hml hv
  obtain ⟨rfl, hP, hK⟩ := hv
  have hx := BB.exec
  have hb := BB.bytes
  have hr := BB.returns
  have hts := atoms_spec (ws := wdP_isBetter) BB.pre
  have hown : s.vm.findClass RP = some m.cls := findClass_of_methodNamed BB.named
  have hlocks := BB.notSynchronized
  have hl := lv_entry ([.ref (r 0), .int (nI y), .int (nI S), .int (nI O)]) (n := 4) (Nat.le_of_ble_eq_true rfl)
  rw [lg_entry_eq]
  generalize (lg_sl ([.ref (r 0), .int (nI y), .int (nI S), .int (nI O)]) ++ List.replicate (4 - (lg_sl ([.ref (r 0), .int (nI y), .int (nI S), .int (nI O)])).length) Slot.unset).toArray = ls at hl ⊢
  have hl : lv_has ls 4 [(0, .ref (r 0)), (1, .int (nI y)), (2, .int (nI S)), (3, .int (nI O))] := hl
  refine lv_aload_n hx hb dP_isBetter_0 rfl (lv_at hl 0 rfl) ?_
  refine va_get (D := (dC, dI)) (ci := 2) (C := RP) (T := FP) (N := 7) hx hb hts (fun w h => List.mem_cons_of_mem _ (inP w h)) hown hK hP 0 rfl rfl 1 (by decide) (hts _ (List.mem_cons_of_mem _ kw110)) (fun _ h9 => h9) rfl dP_isBetter_1 ?_
  refine lv_iload_n hx hb dP_isBetter_4 rfl (lv_at hl 1 rfl) ?_
  refine aldaN hx hb hK hP 2 1 rfl rfl (k := y) hy (by decide) (r := (r (7 + y))) (if_pos hy) dP_isBetter_5 ?_
  refine lv_iload_n hx hb dP_isBetter_6 rfl (lv_at hl 2 rfl) ?_
  refine ialdN hx hb hK hP (7 + y) 0 (mcWP_T hy) rfl (k := S) hS (by decide) (v := iI (T y S)) rfl dP_isBetter_7 ?_
  refine lv_aload_n hx hb dP_isBetter_8 rfl (lv_at hl 0 rfl) ?_
  refine va_get (D := (dC, dI)) (ci := 2) (C := RP) (T := FP) (N := 7) hx hb hts (fun w h => List.mem_cons_of_mem _ (inP w h)) hown hK hP 0 rfl rfl 1 (by decide) (hts _ (List.mem_cons_of_mem _ kw110)) (fun _ h9 => h9) rfl dP_isBetter_9 ?_
  refine lv_iload_n hx hb dP_isBetter_12 rfl (lv_at hl 1 rfl) ?_
  refine aldaN hx hb hK hP 2 1 rfl rfl (k := y) hy (by decide) (r := (r (7 + y))) (if_pos hy) dP_isBetter_13 ?_
  refine lv_iload_n hx hb dP_isBetter_14 rfl (lv_at hl 3 rfl) ?_
  refine ialdN hx hb hK hP (7 + y) 0 (mcWP_T hy) rfl (k := O) hO (by decide) (v := iI (T y O)) rfl dP_isBetter_15 ?_
  have heq := iI_eq (a := T y S) (b := T y O) hb1.1 hb1.2 hb2.1 hb2.2
  have hle := iI_le (a := T y S) (b := T y O) hb1.1 hb1.2 hb2.1 hb2.2
  have hpl := nI_leI (a := P y O) (b := P y S) (by omega) (by omega)
  refine lv_icmp_eq (tgt := 44) hx hb dP_isBetter_16 (by decide) (fun c1 => ?_) (fun c1 => ?_)
  · have c1 := heq.mp c1
    refine lv_aload_n hx hb dP_isBetter_44 rfl (lv_at hl 0 rfl) ?_
    refine va_get (D := (dC, dI)) (ci := 2) (C := RP) (T := FP) (N := 7) hx hb hts (fun w h => List.mem_cons_of_mem _ (inP w h)) hown hK hP 0 rfl rfl 2 (by decide) (hts _ (List.mem_cons_of_mem _ kw112)) (fun _ h9 => h9) rfl dP_isBetter_45 ?_
    refine lv_iload_n hx hb dP_isBetter_48 rfl (lv_at hl 1 rfl) ?_
    refine aldaN hx hb hK hP 3 1 rfl rfl (k := y) hy (by decide) (r := (r (11 + y))) (if_pos hy) dP_isBetter_49 ?_
    refine lv_iload_n hx hb dP_isBetter_50 rfl (lv_at hl 2 rfl) ?_
    refine ialdN hx hb hK hP (11 + y) 0 (mcWP_P hy) rfl (k := S) hS (by decide) (v := nI (P y S)) rfl dP_isBetter_51 ?_
    refine lv_aload_n hx hb dP_isBetter_52 rfl (lv_at hl 0 rfl) ?_
    refine va_get (D := (dC, dI)) (ci := 2) (C := RP) (T := FP) (N := 7) hx hb hts (fun w h => List.mem_cons_of_mem _ (inP w h)) hown hK hP 0 rfl rfl 2 (by decide) (hts _ (List.mem_cons_of_mem _ kw112)) (fun _ h9 => h9) rfl dP_isBetter_53 ?_
    refine lv_iload_n hx hb dP_isBetter_56 rfl (lv_at hl 1 rfl) ?_
    refine aldaN hx hb hK hP 3 1 rfl rfl (k := y) hy (by decide) (r := (r (11 + y))) (if_pos hy) dP_isBetter_57 ?_
    refine lv_iload_n hx hb dP_isBetter_58 rfl (lv_at hl 3 rfl) ?_
    refine ialdN hx hb hK hP (11 + y) 0 (mcWP_P hy) rfl (k := O) hO (by decide) (v := nI (P y O)) rfl dP_isBetter_59 ?_
    refine lv_icmp_ge (tgt := 67) hx hb dP_isBetter_60 (by decide) (fun c2 => ?_) (fun c2 => ?_)
    · have c2 := hpl.mp c2
      refine lv_iconst (v := 0) hx hb dP_isBetter_67 (by decide) ?_
      exact W.zret hx hb hr rfl (fun t ht hW => ⟨_, rfl, Or.inr ⟨rfl, fun h => by rcases h with q | ⟨q, q2⟩ <;> omega⟩, ht⟩) (fun q hq => by cases hq) dP_isBetter_68
    · have c2 : P y S < P y O := by
        rcases Nat.lt_or_ge (P y S) (P y O) with q | q
        · exact q
        · exact absurd (hpl.mpr q) c2
      refine lv_iconst (v := 1) hx hb dP_isBetter_63 (by decide) ?_
      refine lv_goto (tgt := 68) hx hb dP_isBetter_64 (by decide) ?_
      exact W.zret hx hb hr rfl (fun t ht hW => ⟨_, rfl, Or.inl ⟨rfl, Or.inr ⟨c1, c2⟩⟩, ht⟩) (fun q hq => by cases hq) dP_isBetter_68
  · have c1 : ¬ T y S = T y O := fun h => c1 (heq.mpr h)
    refine lv_aload_n hx hb dP_isBetter_19 rfl (lv_at hl 0 rfl) ?_
    refine va_get (D := (dC, dI)) (ci := 2) (C := RP) (T := FP) (N := 7) hx hb hts (fun w h => List.mem_cons_of_mem _ (inP w h)) hown hK hP 0 rfl rfl 1 (by decide) (hts _ (List.mem_cons_of_mem _ kw110)) (fun _ h9 => h9) rfl dP_isBetter_20 ?_
    refine lv_iload_n hx hb dP_isBetter_23 rfl (lv_at hl 1 rfl) ?_
    refine aldaN hx hb hK hP 2 1 rfl rfl (k := y) hy (by decide) (r := (r (7 + y))) (if_pos hy) dP_isBetter_24 ?_
    refine lv_iload_n hx hb dP_isBetter_25 rfl (lv_at hl 2 rfl) ?_
    refine ialdN hx hb hK hP (7 + y) 0 (mcWP_T hy) rfl (k := S) hS (by decide) (v := iI (T y S)) rfl dP_isBetter_26 ?_
    refine lv_aload_n hx hb dP_isBetter_27 rfl (lv_at hl 0 rfl) ?_
    refine va_get (D := (dC, dI)) (ci := 2) (C := RP) (T := FP) (N := 7) hx hb hts (fun w h => List.mem_cons_of_mem _ (inP w h)) hown hK hP 0 rfl rfl 1 (by decide) (hts _ (List.mem_cons_of_mem _ kw110)) (fun _ h9 => h9) rfl dP_isBetter_28 ?_
    refine lv_iload_n hx hb dP_isBetter_31 rfl (lv_at hl 1 rfl) ?_
    refine aldaN hx hb hK hP 2 1 rfl rfl (k := y) hy (by decide) (r := (r (7 + y))) (if_pos hy) dP_isBetter_32 ?_
    refine lv_iload_n hx hb dP_isBetter_33 rfl (lv_at hl 3 rfl) ?_
    refine ialdN hx hb hK hP (7 + y) 0 (mcWP_T hy) rfl (k := O) hO (by decide) (v := iI (T y O)) rfl dP_isBetter_34 ?_
    refine lv_icmp_le (tgt := 42) hx hb dP_isBetter_35 (by decide) (fun c2 => ?_) (fun c2 => ?_)
    · have c2 := hle.mp c2
      refine lv_iconst (v := 0) hx hb dP_isBetter_42 (by decide) ?_
      exact W.zret hx hb hr rfl (fun t ht hW => ⟨_, rfl, Or.inr ⟨rfl, fun h => by rcases h with q | ⟨q, q2⟩ <;> omega⟩, ht⟩) (fun q hq => by cases hq) dP_isBetter_43
    · have c2 : T y O < T y S := by
        rcases Int.lt_or_le (T y O) (T y S) with q | q
        · exact q
        · exact absurd (hle.mpr q) c2
      refine lv_iconst (v := 1) hx hb dP_isBetter_38 (by decide) ?_
      refine lv_goto (tgt := 43) hx hb dP_isBetter_39 (by decide) ?_
      exact W.zret hx hb hr rfl (fun t ht hW => ⟨_, rfl, Or.inl ⟨rfl, Or.inl c2⟩, ht⟩) (fun q hq => by cases hq) dP_isBetter_43
set_option maxHeartbeats 4000000 in
set_option maxRecDepth 100000 in
theorem c_P_bestFrom (l : Launch) (dC : Nat → ClassId) (dI : Nat → Nat → Nat) (r : Nat → Nat) (cI cG : ClassId) (bu : Nat → Nat) (T : Nat → Nat → Int) (P : Nat → Nat → Nat) (pu pr : Nat → Nat) (ga : Nat → Int) (se : Nat) (Bf y : Nat) (hy : y < 4) (hse : se ≤ 64) (hpr : ∀ S, S < se → pr S < 2147483648) (hpu : pu y < 2147483648) (hT : ∀ S, S < se → pr S ≤ pu y → -2147483648 ≤ T y S ∧ T y S < 2147483648) (hP9 : ∀ S, S < se → pr S ≤ pu y → P y S < 2147483648) (hB1 : Bf < se) (hB2 : pr Bf ≤ pu y) : Met l yP_bestFrom wdP_bestFrom ({ frames := 1, cells := 0, slots := 0, locals := 23 }) (roP (dC, dI) mcCl (mcWP r cI cG bu T P pu pr ga se) (mcTH cI cG) [.ref (r 0), .int (nI Bf), .int (nI y)]) (vp_Si (fun z9 => ∃ f, z9 = nI f ∧ mc_pick se (fun S => pr S ≤ pu y) (T y) (P y) Bf f)) 0 0 (fun _ => False) := by
  refine Met.ofW (cc := bP_bestFrom) (maxL := 5) (ret := (some FieldType.int)) (by decide) rfl ?_
  intro p e s m args below meth c s₁ BB hml hv
  obtain ⟨rfl, hP, hK⟩ := hv
  have hx := BB.exec
  have hb := BB.bytes
  have hr := BB.returns
  have hts := atoms_spec (ws := wdP_bestFrom) BB.pre
  have hown : s.vm.findClass RP = some m.cls := findClass_of_methodNamed BB.named
  have hlocks := BB.notSynchronized
  have hl := lv_entry ([.ref (r 0), .int (nI Bf), .int (nI y)]) (n := 5) (Nat.le_of_ble_eq_true rfl)
  rw [lg_entry_eq]
  generalize (lg_sl ([.ref (r 0), .int (nI Bf), .int (nI y)]) ++ List.replicate (5 - (lg_sl ([.ref (r 0), .int (nI Bf), .int (nI y)])).length) Slot.unset).toArray = ls at hl ⊢
  have hl : lv_has ls 5 [(0, .ref (r 0)), (1, .int (nI Bf)), (2, .int (nI y))] := hl
  refine lv_iload_n hx hb dP_bestFrom_0 rfl (lv_at hl 1 rfl) ?_
  refine lv_istore_n (lv' := [(3, .int (nI Bf)), (0, .ref (r 0)), (1, .int (nI Bf)), (2, .int (nI y))]) hx hb dP_bestFrom_1 rfl hl (by decide) rfl (fun ls hl => ?_)
  refine lv_iload_n hx hb dP_bestFrom_2 rfl (lv_at hl 2 rfl) ?_
  refine lv_istore (lv' := [(4, .int (nI Bf)), (3, .int (nI Bf)), (0, .ref (r 0)), (1, .int (nI Bf)), (2, .int (nI y))]) hx hb dP_bestFrom_3 hl (by decide) rfl (fun ls hl => ?_)
  refine lpR (σ := Nat × Nat) (fun x => mc_pk se (fun S => pr S ≤ pu y) (T y) (P y) Bf x.1 x.2 ∧ x.2 < 128) (fun x => [(0, .ref (r 0)), (1, .int (nI Bf)), (2, .int (nI y)), (3, .int (nI x.1)), (4, .int (nI x.2))]) (fun x => 128 - x.2) (fun x ls hI hl ih => ?_) ((Bf, Bf)) ls (⟨mc_pk_0 hB1 hB2, by dsimp only; omega⟩) (lv_sub hl [2, 3, 4, 1, 0] rfl)
  obtain ⟨f, K⟩ := x
  have hl : lv_has ls 5 [(0, .ref (r 0)), (1, .int (nI Bf)), (2, .int (nI y)), (3, .int (nI f)), (4, .int (nI K))] := hl
  obtain ⟨hI, hK7⟩ := hI
  dsimp only at hI hK7
  refine lv_iload hx hb dP_bestFrom_5 (lv_at hl 4 rfl) ?_
  refine lv_aload_n hx hb dP_bestFrom_7 rfl (lv_at hl 0 rfl) ?_
  refine va_get (D := (dC, dI)) (ci := 2) (C := RP) (T := FP) (N := 7) hx hb hts (fun w h => List.mem_cons_of_mem _ (inP w h)) hown hK hP 0 rfl rfl 6 (by decide) (hts _ (List.mem_cons_of_mem _ kw116)) (fun _ h9 => h9) rfl dP_bestFrom_8 ?_
  refine lv_icmp_ge (tgt := 55) hx hb dP_bestFrom_11 (by decide) (fun c1 => ?_) (fun c1 => ?_)
  · have hkn : se ≤ K := (nI_leI (by omega) (by omega)).mp c1
    refine lv_iload_n hx hb dP_bestFrom_55 rfl (lv_at hl 3 rfl) ?_
    exact W.iret hx hb hr (fun t ht hW => ⟨_, rfl, ⟨f, rfl, mc_pk_end hI hkn⟩, ht⟩) (fun q hq => by cases hq) dP_bestFrom_56
  · have hkn : K < se := by
      rcases Nat.lt_or_ge K se with z | z
      · exact z
      · exact absurd (nI_le z (by omega)) c1
    have hi9 := hI
    obtain ⟨i1, i2, i3, i4, i5, -⟩ := hi9
    have hkp := hpr K hkn
    have hor : (K + 1) ||| Bf < 128 := Nat.or_lt_two_pow (n := 7) (by omega) (by omega)
    have hgt : K < (K + 1) ||| Bf := Nat.lt_of_lt_of_le (Nat.lt_succ_self K) Nat.left_le_or
    refine lv_aload_n hx hb dP_bestFrom_14 rfl (lv_at hl 0 rfl) ?_
    refine va_get (D := (dC, dI)) (ci := 2) (C := RP) (T := FP) (N := 7) hx hb hts (fun w h => List.mem_cons_of_mem _ (inP w h)) hown hK hP 0 rfl rfl 4 (by decide) (hts _ (List.mem_cons_of_mem _ kw114)) (fun _ h9 => h9) rfl dP_bestFrom_15 ?_
    refine lv_iload hx hb dP_bestFrom_18 (lv_at hl 4 rfl) ?_
    refine ialdN hx hb hK hP 5 0 rfl rfl (k := K) (by omega) (by decide) (v := nI (pr K)) rfl dP_bestFrom_20 ?_
    refine lv_aload_n hx hb dP_bestFrom_21 rfl (lv_at hl 0 rfl) ?_
    refine va_get (D := (dC, dI)) (ci := 2) (C := RP) (T := FP) (N := 7) hx hb hts (fun w h => List.mem_cons_of_mem _ (inP w h)) hown hK hP 0 rfl rfl 3 (by decide) (hts _ (List.mem_cons_of_mem _ kw113)) (fun _ h9 => h9) rfl dP_bestFrom_22 ?_
    refine lv_iload_n hx hb dP_bestFrom_25 rfl (lv_at hl 2 rfl) ?_
    refine ialdN hx hb hK hP 4 0 rfl rfl (k := y) hy (by decide) (v := nI (pu y)) rfl dP_bestFrom_26 ?_
    refine lv_icmp_gt (tgt := 44) hx hb dP_bestFrom_27 (by decide) (fun c2 => ?_) (fun c2 => ?_)
    · have c2 : pu y < pr K := (nI_ltI (by omega) (by omega)).mp c2
      refine lv_iload hx hb dP_bestFrom_44 (lv_at hl 4 rfl) ?_
      refine lv_iconst (v := 1) hx hb dP_bestFrom_46 (by decide) ?_
      refine lv_iadd hx hb dP_bestFrom_47 ?_
      refine lv_iload_n hx hb dP_bestFrom_48 rfl (lv_at hl 1 rfl) ?_
      refine lv_ior hx hb dP_bestFrom_49 ?_
      refine lv_topi (fun y1 ey1 => ?_)
      have hy1 : y1 = nI ((K + 1) ||| Bf) := by rw [ey1, nI_1, nI_or]
      subst hy1
      refine lv_istore (lv' := [(4, .int (nI ((K + 1) ||| Bf))), (0, .ref (r 0)), (1, .int (nI Bf)), (2, .int (nI y)), (3, .int (nI f))]) hx hb dP_bestFrom_50 hl (by decide) rfl (fun ls hl => ?_)
      refine lv_goto (tgt := 5) hx hb dP_bestFrom_52 (by decide) ?_
      exact ih (f, (K + 1) ||| Bf) ls (⟨mc_pk_n hse hI hkn (fun h => absurd h (by omega)), hor⟩) (by dsimp only; omega) (lv_sub hl [1, 2, 3, 4, 0] rfl)
    · have c2 : pr K ≤ pu y := by
        rcases Nat.lt_or_ge (pu y) (pr K) with z | z
        · exact absurd ((nI_ltI (by omega) (by omega)).mpr z) c2
        · exact z
      refine lv_aload_n hx hb dP_bestFrom_30 rfl (lv_at hl 0 rfl) ?_
      refine lv_iload_n hx hb dP_bestFrom_31 rfl (lv_at hl 2 rfl) ?_
      refine lv_iload hx hb dP_bestFrom_32 (lv_at hl 4 rfl) ?_
      refine lv_iload_n hx hb dP_bestFrom_34 rfl (lv_at hl 3 rfl) ?_
      refine callRV (As := [.int (nI y), .int (nI K), .int (nI f)]) (rest := []) ⟨hx, hb, hml, hown, hts⟩ tlB (c_P_isBetter l dC dI r cI cG bu T P pu pr ga se y K f hy (by omega) (by omega) (hT K hkn c2) (hT f i1 i2) (hP9 K hkn c2) (hP9 f i1 i2)) kw439 kw440 kw13 kw28 kw441 ⟨rfl, rfl⟩ (n := 3) (by decide +kernel) ⟨Nat.le_of_ble_eq_true rfl, Nat.le_of_ble_eq_true rfl⟩ (roP_preV hP hK (ci := 2) (q0 := 0) rfl rfl) rfl hl.1 rfl (Nat.le_of_ble_eq_true rfl) ⟨Nat.le_of_ble_eq_true rfl, Nat.le_of_ble_eq_true rfl⟩ dP_bestFrom_35 (fun r1 hr1 => ?_)
      refine lv_if_eq (tgt := 44) hx hb dP_bestFrom_38 (by decide) (fun c3 => ?_) (fun c3 => ?_)
      · have c3 : ¬ (T y f < T y K ∨ (T y K = T y f ∧ P y K < P y f)) := by
          rcases hr1 with ⟨z, -⟩ | ⟨-, z⟩
          · rw [z] at c3; cases c3
          · exact z
        refine lv_iload hx hb dP_bestFrom_44 (lv_at hl 4 rfl) ?_
        refine lv_iconst (v := 1) hx hb dP_bestFrom_46 (by decide) ?_
        refine lv_iadd hx hb dP_bestFrom_47 ?_
        refine lv_iload_n hx hb dP_bestFrom_48 rfl (lv_at hl 1 rfl) ?_
        refine lv_ior hx hb dP_bestFrom_49 ?_
        refine lv_topi (fun y2 ey2 => ?_)
        have hy2 : y2 = nI ((K + 1) ||| Bf) := by rw [ey2, nI_1, nI_or]
        subst hy2
        refine lv_istore (lv' := [(4, .int (nI ((K + 1) ||| Bf))), (0, .ref (r 0)), (1, .int (nI Bf)), (2, .int (nI y)), (3, .int (nI f))]) hx hb dP_bestFrom_50 hl (by decide) rfl (fun ls hl => ?_)
        refine lv_goto (tgt := 5) hx hb dP_bestFrom_52 (by decide) ?_
        exact ih (f, (K + 1) ||| Bf) ls (⟨mc_pk_n hse hI hkn (fun _ => c3), hor⟩) (by dsimp only; omega) (lv_sub hl [1, 2, 3, 4, 0] rfl)
      · have c3 : T y f < T y K ∨ (T y K = T y f ∧ P y K < P y f) := by
          rcases hr1 with ⟨-, z⟩ | ⟨z, -⟩
          · exact z
          · exact absurd z c3
        refine lv_iload hx hb dP_bestFrom_41 (lv_at hl 4 rfl) ?_
        refine lv_istore_n (lv' := [(3, .int (nI K)), (0, .ref (r 0)), (1, .int (nI Bf)), (2, .int (nI y)), (4, .int (nI K))]) hx hb dP_bestFrom_43 rfl hl (by decide) rfl (fun ls hl => ?_)
        refine lv_iload hx hb dP_bestFrom_44 (lv_at hl 4 rfl) ?_
        refine lv_iconst (v := 1) hx hb dP_bestFrom_46 (by decide) ?_
        refine lv_iadd hx hb dP_bestFrom_47 ?_
        refine lv_iload_n hx hb dP_bestFrom_48 rfl (lv_at hl 2 rfl) ?_
        refine lv_ior hx hb dP_bestFrom_49 ?_
        refine lv_topi (fun y3 ey3 => ?_)
        have hy3 : y3 = nI ((K + 1) ||| Bf) := by rw [ey3, nI_1, nI_or]
        subst hy3
        refine lv_istore (lv' := [(4, .int (nI ((K + 1) ||| Bf))), (3, .int (nI K)), (0, .ref (r 0)), (1, .int (nI Bf)), (2, .int (nI y))]) hx hb dP_bestFrom_50 hl (by decide) rfl (fun ls hl => ?_)
        refine lv_goto (tgt := 5) hx hb dP_bestFrom_52 (by decide) ?_
        exact ih (K, (K + 1) ||| Bf) ls (⟨mc_pk_y hse hI hkn c2 c3, hor⟩) (by dsimp only; omega) (lv_sub hl [2, 3, 4, 1, 0] rfl)
/-- what was bought up to the k-th year, by the best choices -/
def mc_seq (pk : Nat → Nat → Nat → Prop) : Nat → Nat → Prop
  | 0, f => pk 0 0 f
  | k + 1, f => ∃ b, mc_seq pk k b ∧ pk (k + 1) b f
set_option maxHeartbeats 4000000 in
set_option maxRecDepth 100000 in
theorem c_P_boughtUpTo (l : Launch) (dC : Nat → ClassId) (dI : Nat → Nat → Nat) (r : Nat → Nat) (cI cG : ClassId) (bu : Nat → Nat) (T : Nat → Nat → Int) (P : Nat → Nat → Nat) (pu pr : Nat → Nat) (ga : Nat → Int) (se : Nat) (k : Nat) (hk : k < 4) (hse : se ≤ 64) (hse0 : 0 < se) (hp0 : pr 0 = 0) (hmo : ∀ y, y < k → pu y ≤ pu (y + 1)) (hpr : ∀ S, S < se → pr S < 2147483648) (hpu : ∀ y, y ≤ k → pu y < 2147483648) (hT : ∀ y S, y ≤ k → S < se → pr S ≤ pu y → -2147483648 ≤ T y S ∧ T y S < 2147483648) (hP9 : ∀ y S, y ≤ k → S < se → pr S ≤ pu y → P y S < 2147483648) : Met l yP_boughtUpTo wdP_boughtUpTo ({ frames := 2, cells := 0, slots := 0, locals := 47 }) (roP (dC, dI) mcCl (mcWP r cI cG bu T P pu pr ga se) (mcTH cI cG) [.ref (r 0), .int (nI k)]) (vp_Si (fun z9 => ∃ f, z9 = nI f ∧ mc_seq (fun y b f => mc_pick se (fun S => pr S ≤ pu y) (T y) (P y) b f) k f)) 0 0 (fun _ => False) := by
  refine Met.ofW (cc := bP_boughtUpTo) (maxL := 4) (ret := (some FieldType.int)) (by decide) rfl ?_
  intro p e s m args below meth c s₁ BB hml hv
  obtain ⟨rfl, hP, hK⟩ := hv
  have hx := BB.exec
  have hb := BB.bytes
  have hr := BB.returns
  have hts := atoms_spec (ws := wdP_boughtUpTo) BB.pre
  have hown : s.vm.findClass RP = some m.cls := findClass_of_methodNamed BB.named
  have hlocks := BB.notSynchronized
  have hl := lv_entry ([.ref (r 0), .int (nI k)]) (n := 4) (Nat.le_of_ble_eq_true rfl)
  rw [lg_entry_eq]
  generalize (lg_sl ([.ref (r 0), .int (nI k)]) ++ List.replicate (4 - (lg_sl ([.ref (r 0), .int (nI k)])).length) Slot.unset).toArray = ls at hl ⊢
  have hl : lv_has ls 4 [(0, .ref (r 0)), (1, .int (nI k))] := hl
  refine lv_iconst (v := 0) hx hb dP_boughtUpTo_0 (by decide) ?_
  refine lv_istore_n (lv' := [(2, .int 0), (0, .ref (r 0)), (1, .int (nI k))]) hx hb dP_boughtUpTo_1 rfl hl (by decide) rfl (fun ls hl => ?_)
  refine lv_iconst (v := 0) hx hb dP_boughtUpTo_2 (by decide) ?_
  refine lv_istore_n (lv' := [(3, .int 0), (2, .int 0), (0, .ref (r 0)), (1, .int (nI k))]) hx hb dP_boughtUpTo_3 rfl hl (by decide) rfl (fun ls hl => ?_)
  refine lpR (σ := Nat × Nat) (fun x => x.2 ≤ k + 1 ∧ x.1 < se ∧ (x.2 = 0 → x.1 = 0) ∧ (∀ y, x.2 = y + 1 → mc_seq (fun y b f => mc_pick se (fun S => pr S ≤ pu y) (T y) (P y) b f) y x.1 ∧ pr x.1 ≤ pu y)) (fun x => [(0, .ref (r 0)), (1, .int (nI k)), (2, .int (nI x.1)), (3, .int (nI x.2))]) (fun x => k + 1 - x.2) (fun x ls hI hl ih => ?_) ((0, 0)) ls (⟨Nat.zero_le _, hse0, fun _ => rfl, fun y h => absurd h (by dsimp only; omega)⟩) (lv_sub hl [2, 3, 1, 0] rfl)
  obtain ⟨f, y⟩ := x
  have hl : lv_has ls 4 [(0, .ref (r 0)), (1, .int (nI k)), (2, .int (nI f)), (3, .int (nI y))] := hl
  obtain ⟨i1, i2, i3, i4⟩ := hI
  dsimp only at i1 i2 i3 i4
  refine lv_iload_n hx hb dP_boughtUpTo_4 rfl (lv_at hl 3 rfl) ?_
  refine lv_iload_n hx hb dP_boughtUpTo_5 rfl (lv_at hl 1 rfl) ?_
  refine lv_icmp_gt (tgt := 22) hx hb dP_boughtUpTo_6 (by decide) (fun c1 => ?_) (fun c1 => ?_)
  · have hkn : k < y := (nI_ltI (by omega) (by omega)).mp c1
    obtain ⟨j1, j2⟩ := i4 k (by omega)
    refine lv_iload_n hx hb dP_boughtUpTo_22 rfl (lv_at hl 2 rfl) ?_
    exact W.iret hx hb hr (fun t ht hW => ⟨_, rfl, ⟨f, rfl, j1⟩, ht⟩) (fun q hq => by cases hq) dP_boughtUpTo_23
  · have hkn : y ≤ k := by
      rcases Nat.lt_or_ge k y with z | z
      · exact absurd ((nI_ltI (by omega) (by omega)).mpr z) c1
      · exact z
    have hok : pr f ≤ pu y := by
      cases y with
      | zero => rw [i3 rfl, hp0]; exact Nat.zero_le _
      | succ y => exact Nat.le_trans (i4 y rfl).2 (hmo y (by omega))
    refine lv_aload_n hx hb dP_boughtUpTo_9 rfl (lv_at hl 0 rfl) ?_
    refine lv_iload_n hx hb dP_boughtUpTo_10 rfl (lv_at hl 2 rfl) ?_
    refine lv_iload_n hx hb dP_boughtUpTo_11 rfl (lv_at hl 3 rfl) ?_
    refine callRV (As := [.int (nI f), .int (nI y)]) (rest := []) ⟨hx, hb, hml, hown, hts⟩ tlB (c_P_bestFrom l dC dI r cI cG bu T P pu pr ga se f y (by omega) hse hpr (hpu y hkn) (fun S => hT y S hkn) (fun S => hP9 y S hkn) i2 hok) kw436 kw437 kw12 kw28 kw438 ⟨rfl, rfl⟩ (n := 2) (by decide +kernel) ⟨Nat.le_of_ble_eq_true rfl, Nat.le_of_ble_eq_true rfl⟩ (roP_preV hP hK (ci := 2) (q0 := 0) rfl rfl) rfl hl.1 rfl (Nat.le_of_ble_eq_true rfl) ⟨Nat.le_of_ble_eq_true rfl, Nat.le_of_ble_eq_true rfl⟩ dP_boughtUpTo_12 (fun r1 hr1 => ?_)
    obtain ⟨f2, rfl, hf2⟩ := hr1
    refine lv_istore_n (lv' := [(2, .int (nI f2)), (0, .ref (r 0)), (1, .int (nI k)), (3, .int (nI y))]) hx hb dP_boughtUpTo_15 rfl hl (by decide) rfl (fun ls hl => ?_)
    refine lv_iinc (v := (nI (y + 1))) (lv' := [(3, .int (nI (y + 1))), (2, .int (nI f2)), (0, .ref (r 0)), (1, .int (nI k))]) hx hb dP_boughtUpTo_16 hl (k := 3) rfl (nI_1 y) (by decide) rfl (fun ls hl => ?_)
    refine lv_goto (tgt := 4) hx hb dP_boughtUpTo_19 (by decide) ?_
    refine ih (f2, y + 1) ls (⟨by dsimp only; omega, hf2.1, fun h => absurd h (by dsimp only; omega), fun y2 h2 => ?_⟩) (by dsimp only; omega) (lv_sub hl [2, 3, 1, 0] rfl)
    have h2 : y + 1 = y2 + 1 := h2
    have h3 : y2 = y := by omega
    subst h3
    refine ⟨?_, hf2.2.1⟩
    cases y2 with
    | zero => rw [i3 rfl] at hf2; exact hf2
    | succ y2 => exact ⟨f, (i4 y2 rfl).1, hf2⟩
end
section
/-! the planner: its methods that write -/
def mcT2 {α : Type} (T : Nat → Nat → α) (i j : Nat) (z : α) : Nat → Nat → α := fun x y => if x = i ∧ y = j then z else T x y
theorem mcT2_row {α : Type} {T : Nat → Nat → α} {i j : Nat} {z : α} {x : Nat} (h : x ≠ i) : mcT2 T i j z x = T x := funext fun y => by simp [mcT2, h]
theorem mcT2_at {α : Type} {T : Nat → Nat → α} {i j : Nat} {z : α} : mcT2 T i j z i j = z := by simp [mcT2]
theorem mcT2_ne {α : Type} {T : Nat → Nat → α} {i j : Nat} {z : α} {y : Nat} (h : y ≠ j) : mcT2 T i j z i y = T i y := by simp [mcT2, h]
theorem mcWP_len {r : Nat → Nat} {cI cG : ClassId} {bu : Nat → Nat} {T : Nat → Nat → Int} {P : Nat → Nat → Nat} {pu pr : Nat → Nat} {ga : Nat → Int} {se : Nat} : (mcWP r cI cG bu T P pu pr ga se).length = 15 := rfl
theorem mcWP_setT {r : Nat → Nat} {cI cG : ClassId} {bu : Nat → Nat} {T T' : Nat → Nat → Int} {P : Nat → Nat → Nat} {pu pr : Nat → Nat} {ga : Nat → Int} {se i : Nat} (hi : i < 4) (h : ∀ j, j ≠ i → T' j = T j) : (mcWP r cI cG bu T P pu pr ga se).set (7 + i) (r (7 + i), .inl (cI, 64, .inl (fun S => iI (T' i S)))) = mcWP r cI cG bu T' P pu pr ga se := by
  apply List.ext_getElem?
  intro k
  by_cases hk : k = 7 + i
  · subst hk
    rw [List.getElem?_set_self (by rw [mcWP_len]; omega), mcWP_T hi]
  · rw [List.getElem?_set_ne (Ne.symm hk)]
    by_cases h6 : k < 7
    · rcases (show k = 0 ∨ k = 1 ∨ k = 2 ∨ k = 3 ∨ k = 4 ∨ k = 5 ∨ k = 6 by omega) with rfl | rfl | rfl | rfl | rfl | rfl | rfl <;> rfl
    · by_cases h11 : k < 11
      · rw [show k = 7 + (k - 7) by omega, mcWP_T (by omega), mcWP_T (by omega), h (k - 7) (by omega)]
      · by_cases h15 : k < 15
        · rw [show k = 11 + (k - 11) by omega, mcWP_P (by omega), mcWP_P (by omega)]
        · rw [List.getElem?_eq_none (by rw [mcWP_len]; omega), List.getElem?_eq_none (by rw [mcWP_len]; omega)]
theorem mcWP_setP {r : Nat → Nat} {cI cG : ClassId} {bu : Nat → Nat} {T : Nat → Nat → Int} {P P' : Nat → Nat → Nat} {pu pr : Nat → Nat} {ga : Nat → Int} {se i : Nat} (hi : i < 4) (h : ∀ j, j ≠ i → P' j = P j) : (mcWP r cI cG bu T P pu pr ga se).set (11 + i) (r (11 + i), .inl (cI, 64, .inl (fun S => nI (P' i S)))) = mcWP r cI cG bu T P' pu pr ga se := by
  apply List.ext_getElem?
  intro k
  by_cases hk : k = 11 + i
  · subst hk
    rw [List.getElem?_set_self (by rw [mcWP_len]; omega), mcWP_P hi]
  · rw [List.getElem?_set_ne (Ne.symm hk)]
    by_cases h6 : k < 7
    · rcases (show k = 0 ∨ k = 1 ∨ k = 2 ∨ k = 3 ∨ k = 4 ∨ k = 5 ∨ k = 6 by omega) with rfl | rfl | rfl | rfl | rfl | rfl | rfl <;> rfl
    · by_cases h11 : k < 11
      · rw [show k = 7 + (k - 7) by omega, mcWP_T (by omega), mcWP_T (by omega)]
      · by_cases h15 : k < 15
        · rw [show k = 11 + (k - 11) by omega, mcWP_P (by omega), mcWP_P (by omega), h (k - 11) (by omega)]
        · rw [List.getElem?_eq_none (by rw [mcWP_len]; omega), List.getElem?_eq_none (by rw [mcWP_len]; omega)]
/-- all budgets up to a year -/
def mc_pur (bu : Nat → Nat) : Nat → Nat
  | 0 => 0
  | y + 1 => mc_pur bu y + bu y
theorem mc_pur_le {bu : Nat → Nat} (h : ∀ y, bu y ≤ 100000) : ∀ k, mc_pur bu k ≤ 100000 * k
  | 0 => Nat.le_refl 0
  | k + 1 => by
    have := mc_pur_le h k
    have h2 := h k
    simp only [mc_pur]
    omega
set_option maxHeartbeats 4000000 in
set_option maxRecDepth 100000 in
theorem c_P_fillPurses (l : Launch) (dC : Nat → ClassId) (dI : Nat → Nat → Nat) (r : Nat → Nat) (cI cG : ClassId) (bu : Nat → Nat) (T : Nat → Nat → Int) (P : Nat → Nat → Nat) (pu pr : Nat → Nat) (ga : Nat → Int) (se : Nat) (sz : Nat)  : Met l yP_fillPurses wdP_fillPurses ({ frames := 0, cells := 0, slots := 0, locals := 0 }) (wrP (dC, dI) mcCl (mcWP r cI cG bu T P pu pr ga se) (mcTH cI cG) sz [.ref (r 0)]) (va_Qv (fun x : Nat → Nat => ∀ y, y < 4 → x y = mc_pur bu (y + 1)) (fun x t => va_P (dC, dI) mcCl (mcWP r cI cG bu T P x pr ga se) t.heap ∧ va_K (dC, dI) mcCl (mcTH cI cG) t ∧ va_D (va_A (mcWP r cI cG bu T P pu pr ga se) sz) (mcWP r cI cG bu T P x pr ga se)) (va_A (mcWP r cI cG bu T P pu pr ga se) sz)) 0 0 (va_A (mcWP r cI cG bu T P pu pr ga se) sz) := by
  refine Met.ofW (cc := bP_fillPurses) (maxL := 3) (ret := none) (by decide) rfl ?_
  intro p e s m args below meth c s₁ BB hml hv
  obtain ⟨rfl, hsz, hP, hK, hD0⟩ := hv
  have hx := BB.exec
  have hb := BB.bytes
  have hr := BB.returns
  have hts := atoms_spec (ws := wdP_fillPurses) BB.pre
  have hown : s.vm.findClass RP = some m.cls := findClass_of_methodNamed BB.named
  have hlocks := BB.notSynchronized
  subst hsz
  have hD := hD0.self (sz := s.heap.size)
  generalize hAe : va_A (mcWP r cI cG bu T P pu pr ga se) s.heap.size = A at hD ⊢
  have hA : ∀ q : Nat, s.heap.size ≤ q → A q := fun q h => by rw [← hAe]; exact Or.inr h
  have hS : va_S A s.heap s.heap [] := va_S.rf
  have hl := lv_entry ([.ref (r 0)]) (n := 3) (Nat.le_of_ble_eq_true rfl)
  rw [lg_entry_eq]
  generalize (lg_sl ([.ref (r 0)]) ++ List.replicate (3 - (lg_sl ([.ref (r 0)])).length) Slot.unset).toArray = ls at hl ⊢
  have hl : lv_has ls 3 [(0, .ref (r 0))] := hl
  refine lv_iconst (v := 0) hx hb dP_fillPurses_0 (by decide) ?_
  refine lv_istore_n (lv' := [(1, .int 0), (0, .ref (r 0))]) hx hb dP_fillPurses_1 rfl hl (by decide) rfl (fun ls hl => ?_)
  refine lv_iconst (v := 0) hx hb dP_fillPurses_2 (by decide) ?_
  refine lv_istore_n (lv' := [(2, .int 0), (1, .int 0), (0, .ref (r 0))]) hx hb dP_fillPurses_3 rfl hl (by decide) rfl (fun ls hl => ?_)
  refine lpW (σ := Nat × (Nat → Nat)) (fun x H locs => x.1 ≤ 4 ∧ (∀ y, y < x.1 → x.2 y = mc_pur bu (y + 1)) ∧ va_P (dC, dI) mcCl (mcWP r cI cG bu T P x.2 pr ga se) H ∧ va_D A (mcWP r cI cG bu T P x.2 pr ga se) ∧ va_S A s.heap H locs) (fun x => [(0, .ref (r 0)), (1, .int (nI (mc_pur bu x.1))), (2, .int (nI x.1))]) (fun x => 4 - x.1) (fun x H locs ls hI hl ih => ?_) ((0, pu)) _ _ ls (⟨Nat.zero_le _, fun y h => absurd h (Nat.not_lt_zero y), hP, hD, hS⟩) (lv_sub hl [2, 1, 0] rfl)
  obtain ⟨k, g⟩ := x
  have hl : lv_has ls 3 [(0, .ref (r 0)), (1, .int (nI (mc_pur bu k))), (2, .int (nI k))] := hl
  obtain ⟨hk, hI, hP, hD, hS⟩ := hI
  dsimp only at hk hI hP hD
  refine lv_iload_n hx hb dP_fillPurses_4 rfl (lv_at hl 2 rfl) ?_
  refine lv_iconst (v := 4) hx hb dP_fillPurses_5 (by decide) ?_
  refine lv_icmp_ge (tgt := 31) hx hb dP_fillPurses_6 (by decide) (fun c1 => ?_) (fun c1 => ?_)
  · have hkn : 4 ≤ k := (nI_leI (a := 4) (b := k) (by omega) (by omega)).mp c1
    exact W.vret hx hb hr (fun t ht hW => ⟨⟨g, rfl, (fun y hy => hI y (by omega)), by rw [ht]; exact hP, va_K.moved hW.alike hK, hD⟩, hS.F ht⟩) hS.2.2 dP_fillPurses_31
  · have hkn : k < 4 := by
      rcases Nat.lt_or_ge k 4 with z | z
      · exact z
      · exact absurd (nI_le (a := 4) (b := k) z (by omega)) c1
    refine lv_iload_n hx hb dP_fillPurses_9 rfl (lv_at hl 1 rfl) ?_
    refine lv_aload_n hx hb dP_fillPurses_10 rfl (lv_at hl 0 rfl) ?_
    refine va_get (D := (dC, dI)) (ci := 2) (C := RP) (T := FP) (N := 7) hx hb hts (fun w h => List.mem_cons_of_mem _ (inP w h)) hown hK hP 0 rfl rfl 0 (by decide) (hts _ (List.mem_cons_of_mem _ kw108)) (fun _ h9 => h9) rfl dP_fillPurses_11 ?_
    refine lv_iload_n hx hb dP_fillPurses_14 rfl (lv_at hl 2 rfl) ?_
    refine ialdN hx hb hK hP 1 0 rfl rfl (k := k) hkn (by decide) (v := nI (bu k)) rfl dP_fillPurses_15 ?_
    refine lv_iadd hx hb dP_fillPurses_16 ?_
    refine lv_topi (fun y1 ey1 => ?_)
    have hy1 : y1 = nI (mc_pur bu (k + 1)) := by rw [ey1, nI_add]; rfl
    subst hy1
    refine lv_istore_n (lv' := [(1, .int (nI (mc_pur bu (k + 1)))), (0, .ref (r 0)), (2, .int (nI k))]) hx hb dP_fillPurses_17 rfl hl (by decide) rfl (fun ls hl => ?_)
    refine lv_aload_n hx hb dP_fillPurses_18 rfl (lv_at hl 1 rfl) ?_
    refine va_get (D := (dC, dI)) (ci := 2) (C := RP) (T := FP) (N := 7) hx hb hts (fun w h => List.mem_cons_of_mem _ (inP w h)) hown hK hP 0 rfl rfl 3 (by decide) (hts _ (List.mem_cons_of_mem _ kw113)) (fun _ h9 => h9) rfl dP_fillPurses_19 ?_
    refine lv_iload_n hx hb dP_fillPurses_22 rfl (lv_at hl 2 rfl) ?_
    refine lv_iload_n hx hb dP_fillPurses_23 rfl (lv_at hl 0 rfl) ?_
    refine iastN hx hb hK hP hD hS 4 0 rfl rfl (k := k) hkn (by decide) (x := nI (mc_pur bu (k + 1))) (fun j => nI (va_up g k (mc_pur bu (k + 1)) j)) (fun j => by simp only [va_up]; split <;> rfl) (ws' := mcWP r cI cG bu T P (va_up g k (mc_pur bu (k + 1))) pr ga se) (rfl) dP_fillPurses_24 (fun H locs hP hD hS => ?_)
    refine lv_iinc (v := (nI (k + 1))) (lv' := [(2, .int (nI (k + 1))), (1, .int (nI (mc_pur bu (k + 1)))), (0, .ref (r 0))]) hx hb dP_fillPurses_25 hl (k := 2) rfl (nI_1 k) (by decide) rfl (fun ls hl => ?_)
    refine lv_goto (tgt := 4) hx hb dP_fillPurses_28 (by decide) ?_
    exact ih (k + 1, va_up g k (mc_pur bu (k + 1))) H locs ls (⟨hkn, lt_s (fun y hy => by simp only [va_up]; rw [if_neg (by omega)]; exact hI y hy) (by simp [va_up]), hP, hD, hS⟩) (by dsimp only; omega) (lv_sub hl [2, 1, 0] rfl)
set_option maxHeartbeats 4000000 in
set_option maxRecDepth 100000 in
theorem c_P_workYear1 (l : Launch) (dC : Nat → ClassId) (dI : Nat → Nat → Nat) (r : Nat → Nat) (cI cG : ClassId) (bu : Nat → Nat) (T : Nat → Nat → Int) (P : Nat → Nat → Nat) (pu pr : Nat → Nat) (ga : Nat → Int) (se : Nat) (sz : Nat) (y : Nat) (hy : y < 4) (hse : se ≤ 64) (hpr : ∀ S, S < se → pr S < 2147483648) (hpu : pu y < 2147483648) : Met l yP_workYear wdP_workYear ({ frames := 2, cells := 0, slots := 0, locals := 47 }) (wrP (dC, dI) mcCl (mcWP r cI cG bu T P pu pr ga se) (mcTH cI cG) sz [.ref (r 0), .int (nI y), .int 1]) (va_Qv (fun x : (Nat → Nat → Int) × (Nat → Nat → Nat) => (∀ j, j ≠ y → x.1 j = T j) ∧ (∀ j, j ≠ y → x.2 j = P j) ∧ ∀ S, S < se → pr S ≤ pu y → x.1 y S = ga S ∧ x.2 y S = pr S) (fun x t => va_P (dC, dI) mcCl (mcWP r cI cG bu x.1 x.2 pu pr ga se) t.heap ∧ va_K (dC, dI) mcCl (mcTH cI cG) t ∧ va_D (va_A (mcWP r cI cG bu T P pu pr ga se) sz) (mcWP r cI cG bu x.1 x.2 pu pr ga se)) (va_A (mcWP r cI cG bu T P pu pr ga se) sz)) 0 0 (va_A (mcWP r cI cG bu T P pu pr ga se) sz) := by
  refine Met.ofW (cc := bP_workYear) (maxL := 5) (ret := none) (by decide) rfl ?_
  intro p e s m args below meth c s₁ BB hml hv
  obtain ⟨rfl, hsz, hP, hK, hD0⟩ := hv
  have hx := BB.exec
  have hb := BB.bytes
  have hr := BB.returns
  have hts := atoms_spec (ws := wdP_workYear) BB.pre
  have hown : s.vm.findClass RP = some m.cls := findClass_of_methodNamed BB.named
  have hlocks := BB.notSynchronized
  subst hsz
  have hD := hD0.self (sz := s.heap.size)
  generalize hAe : va_A (mcWP r cI cG bu T P pu pr ga se) s.heap.size = A at hD ⊢
  have hA : ∀ q : Nat, s.heap.size ≤ q → A q := fun q h => by rw [← hAe]; exact Or.inr h
  have hS : va_S A s.heap s.heap [] := va_S.rf
  have hl := lv_entry ([.ref (r 0), .int (nI y), .int 1]) (n := 5) (Nat.le_of_ble_eq_true rfl)
  rw [lg_entry_eq]
  generalize (lg_sl ([.ref (r 0), .int (nI y), .int 1]) ++ List.replicate (5 - (lg_sl ([.ref (r 0), .int (nI y), .int 1])).length) Slot.unset).toArray = ls at hl ⊢
  have hl : lv_has ls 5 [(0, .ref (r 0)), (1, .int (nI y)), (2, .int 1)] := hl
  refine lv_iconst (v := 0) hx hb dP_workYear_0 (by decide) ?_
  refine lv_istore_n (lv' := [(3, .int 0), (0, .ref (r 0)), (1, .int (nI y)), (2, .int 1)]) hx hb dP_workYear_1 rfl hl (by decide) rfl (fun ls hl => ?_)
  refine lpW (σ := Nat × (Nat → Nat → Int) × (Nat → Nat → Nat)) (fun x H locs => x.1 ≤ se ∧ ((∀ j, j ≠ y → x.2.1 j = T j) ∧ (∀ j, j ≠ y → x.2.2 j = P j) ∧ ∀ S, S < x.1 → pr S ≤ pu y → x.2.1 y S = ga S ∧ x.2.2 y S = pr S) ∧ va_P (dC, dI) mcCl (mcWP r cI cG bu x.2.1 x.2.2 pu pr ga se) H ∧ va_D A (mcWP r cI cG bu x.2.1 x.2.2 pu pr ga se) ∧ va_S A s.heap H locs) (fun x => [(0, .ref (r 0)), (1, .int (nI y)), (2, .int 1), (3, .int (nI x.1))]) (fun x => se - x.1) (fun x H locs ls hI hl ih => ?_) ((0, T, P)) _ _ ls (⟨Nat.zero_le _, ⟨fun _ _ => rfl, fun _ _ => rfl, fun S h => absurd h (Nat.not_lt_zero S)⟩, hP, hD, hS⟩) (lv_sub hl [1, 2, 3, 0] rfl)
  obtain ⟨k, T2, P2⟩ := x
  have hl : lv_has ls 5 [(0, .ref (r 0)), (1, .int (nI y)), (2, .int 1), (3, .int (nI k))] := hl
  obtain ⟨hk, ⟨hI1, hI2, hI3⟩, hP, hD, hS⟩ := hI
  dsimp only at hk hI1 hI2 hI3 hP hD
  refine lv_iload_n hx hb dP_workYear_2 rfl (lv_at hl 3 rfl) ?_
  refine lv_aload_n hx hb dP_workYear_3 rfl (lv_at hl 0 rfl) ?_
  refine va_get (D := (dC, dI)) (ci := 2) (C := RP) (T := FP) (N := 7) hx hb hts (fun w h => List.mem_cons_of_mem _ (inP w h)) hown hK hP 0 rfl rfl 6 (by decide) (hts _ (List.mem_cons_of_mem _ kw116)) (fun _ h9 => h9) rfl dP_workYear_4 ?_
  refine lv_icmp_ge (tgt := 121) hx hb dP_workYear_7 (by decide) (fun c1 => ?_) (fun c1 => ?_)
  · have hkn : k = se := by have := (nI_leI (by omega) (by omega)).mp c1; omega
    exact W.vret hx hb hr (fun t ht hW => ⟨⟨(T2, P2), rfl, ⟨hI1, hI2, fun S hS9 => hI3 S (by omega)⟩, by rw [ht]; exact hP, va_K.moved hW.alike hK, hD⟩, hS.F ht⟩) hS.2.2 dP_workYear_121
  · have hkn : k < se := by
      rcases Nat.lt_or_ge k se with z | z
      · exact z
      · exact absurd (nI_le z (by omega)) c1
    have hkp := hpr k hkn
    refine lv_aload_n hx hb dP_workYear_10 rfl (lv_at hl 0 rfl) ?_
    refine va_get (D := (dC, dI)) (ci := 2) (C := RP) (T := FP) (N := 7) hx hb hts (fun w h => List.mem_cons_of_mem _ (inP w h)) hown hK hP 0 rfl rfl 4 (by decide) (hts _ (List.mem_cons_of_mem _ kw114)) (fun _ h9 => h9) rfl dP_workYear_11 ?_
    refine lv_iload_n hx hb dP_workYear_14 rfl (lv_at hl 3 rfl) ?_
    refine ialdN hx hb hK hP 5 0 rfl rfl (k := k) (by omega) (by decide) (v := nI (pr k)) rfl dP_workYear_15 ?_
    refine lv_aload_n hx hb dP_workYear_16 rfl (lv_at hl 0 rfl) ?_
    refine va_get (D := (dC, dI)) (ci := 2) (C := RP) (T := FP) (N := 7) hx hb hts (fun w h => List.mem_cons_of_mem _ (inP w h)) hown hK hP 0 rfl rfl 3 (by decide) (hts _ (List.mem_cons_of_mem _ kw113)) (fun _ h9 => h9) rfl dP_workYear_17 ?_
    refine lv_iload_n hx hb dP_workYear_20 rfl (lv_at hl 1 rfl) ?_
    refine ialdN hx hb hK hP 4 0 rfl rfl (k := y) hy (by decide) (v := nI (pu y)) rfl dP_workYear_21 ?_
    refine lv_icmp_gt (tgt := 115) hx hb dP_workYear_22 (by decide) (fun c2 => ?_) (fun c2 => ?_)
    · have c2 : pu y < pr k := (nI_ltI (by omega) (by omega)).mp c2
      refine lv_iinc (v := (nI (k + 1))) (lv' := [(3, .int (nI (k + 1))), (0, .ref (r 0)), (1, .int (nI y)), (2, .int 1)]) hx hb dP_workYear_115 hl (k := 3) rfl (nI_1 k) (by decide) rfl (fun ls hl => ?_)
      refine lv_goto (tgt := 2) hx hb dP_workYear_118 (by decide) ?_
      exact ih (k + 1, T2, P2) H locs ls (⟨hkn, ⟨hI1, hI2, lt_s hI3 (fun h => absurd h (by omega))⟩, hP, hD, hS⟩) (by dsimp only; omega) (lv_sub hl [1, 2, 3, 0] rfl)
    · have c2 : pr k ≤ pu y := by
        rcases Nat.lt_or_ge (pu y) (pr k) with z | z
        · exact absurd ((nI_ltI (by omega) (by omega)).mpr z) c2
        · exact z
      refine lv_iload_n hx hb dP_workYear_25 rfl (lv_at hl 2 rfl) ?_
      refine lv_if_eq (tgt := 60) hx hb dP_workYear_26 (by decide) (fun c3 => ?_) (fun c3 => ?_)
      · exact absurd c3 (by decide)
      ·
        refine lv_aload_n hx hb dP_workYear_29 rfl (lv_at hl 0 rfl) ?_
        refine va_get (D := (dC, dI)) (ci := 2) (C := RP) (T := FP) (N := 7) hx hb hts (fun w h => List.mem_cons_of_mem _ (inP w h)) hown hK hP 0 rfl rfl 1 (by decide) (hts _ (List.mem_cons_of_mem _ kw110)) (fun _ h9 => h9) rfl dP_workYear_30 ?_
        refine lv_iload_n hx hb dP_workYear_33 rfl (lv_at hl 1 rfl) ?_
        refine aldaN hx hb hK hP 2 1 rfl rfl (k := y) hy (by decide) (r := (r (7 + y))) (if_pos hy) dP_workYear_34 ?_
        refine lv_iload_n hx hb dP_workYear_35 rfl (lv_at hl 3 rfl) ?_
        refine lv_aload_n hx hb dP_workYear_36 rfl (lv_at hl 0 rfl) ?_
        refine va_get (D := (dC, dI)) (ci := 2) (C := RP) (T := FP) (N := 7) hx hb hts (fun w h => List.mem_cons_of_mem _ (inP w h)) hown hK hP 0 rfl rfl 5 (by decide) (hts _ (List.mem_cons_of_mem _ kw115)) (fun _ h9 => h9) rfl dP_workYear_37 ?_
        refine lv_iload_n hx hb dP_workYear_40 rfl (lv_at hl 3 rfl) ?_
        refine ialdN hx hb hK hP 6 0 rfl rfl (k := k) (by omega) (by decide) (v := iI (ga k)) rfl dP_workYear_41 ?_
        refine iastN hx hb hK hP hD hS (7 + y) 0 (mcWP_T hy) rfl (k := k) (by omega) (by decide) (x := iI (ga k)) (fun S => iI ((mcT2 T2 y k (ga k)) y S)) (fun j => by simp only [mcT2, true_and]; split <;> rfl) (ws' := mcWP r cI cG bu (mcT2 T2 y k (ga k)) P2 pu pr ga se) (mcWP_setT hy (fun j hj => mcT2_row hj)) dP_workYear_42 (fun H locs hP hD hS => ?_)
        refine lv_aload_n hx hb dP_workYear_43 rfl (lv_at hl 0 rfl) ?_
        refine va_get (D := (dC, dI)) (ci := 2) (C := RP) (T := FP) (N := 7) hx hb hts (fun w h => List.mem_cons_of_mem _ (inP w h)) hown hK hP 0 rfl rfl 2 (by decide) (hts _ (List.mem_cons_of_mem _ kw112)) (fun _ h9 => h9) rfl dP_workYear_44 ?_
        refine lv_iload_n hx hb dP_workYear_47 rfl (lv_at hl 1 rfl) ?_
        refine aldaN hx hb hK hP 3 1 rfl rfl (k := y) hy (by decide) (r := (r (11 + y))) (if_pos hy) dP_workYear_48 ?_
        refine lv_iload_n hx hb dP_workYear_49 rfl (lv_at hl 3 rfl) ?_
        refine lv_aload_n hx hb dP_workYear_50 rfl (lv_at hl 0 rfl) ?_
        refine va_get (D := (dC, dI)) (ci := 2) (C := RP) (T := FP) (N := 7) hx hb hts (fun w h => List.mem_cons_of_mem _ (inP w h)) hown hK hP 0 rfl rfl 4 (by decide) (hts _ (List.mem_cons_of_mem _ kw114)) (fun _ h9 => h9) rfl dP_workYear_51 ?_
        refine lv_iload_n hx hb dP_workYear_54 rfl (lv_at hl 3 rfl) ?_
        refine ialdN hx hb hK hP 5 0 rfl rfl (k := k) (by omega) (by decide) (v := nI (pr k)) rfl dP_workYear_55 ?_
        refine iastN hx hb hK hP hD hS (11 + y) 0 (mcWP_P hy) rfl (k := k) (by omega) (by decide) (x := nI (pr k)) (fun S => nI ((mcT2 P2 y k (pr k)) y S)) (fun j => by simp only [mcT2, true_and]; split <;> rfl) (ws' := mcWP r cI cG bu (mcT2 T2 y k (ga k)) (mcT2 P2 y k (pr k)) pu pr ga se) (mcWP_setP hy (fun j hj => mcT2_row hj)) dP_workYear_56 (fun H locs hP hD hS => ?_)
        refine lv_goto (tgt := 115) hx hb dP_workYear_57 (by decide) ?_
        refine lv_iinc (v := (nI (k + 1))) (lv' := [(3, .int (nI (k + 1))), (0, .ref (r 0)), (1, .int (nI y)), (2, .int 1)]) hx hb dP_workYear_115 hl (k := 3) rfl (nI_1 k) (by decide) rfl (fun ls hl => ?_)
        refine lv_goto (tgt := 2) hx hb dP_workYear_118 (by decide) ?_
        exact ih (k + 1, mcT2 T2 y k (ga k), mcT2 P2 y k (pr k)) H locs ls (⟨hkn, ⟨fun j hj => by dsimp only; rw [mcT2_row hj]; exact hI1 j hj, fun j hj => by dsimp only; rw [mcT2_row hj]; exact hI2 j hj, lt_s (fun S hS9 h9 => by dsimp only; rw [mcT2_ne (by omega), mcT2_ne (by omega)]; exact hI3 S hS9 h9) (fun _ => ⟨mcT2_at, mcT2_at⟩)⟩, hP, hD, hS⟩) (by dsimp only; omega) (lv_sub hl [1, 2, 3, 0] rfl)
set_option maxHeartbeats 4000000 in
set_option maxRecDepth 100000 in
theorem c_P_workYear0 (l : Launch) (dC : Nat → ClassId) (dI : Nat → Nat → Nat) (r : Nat → Nat) (cI cG : ClassId) (bu : Nat → Nat) (T : Nat → Nat → Int) (P : Nat → Nat → Nat) (pu pr : Nat → Nat) (ga : Nat → Int) (se : Nat) (sz : Nat) (y : Nat) (hy3 : y < 3) (hy : y < 4) (hse : se ≤ 64) (hpr : ∀ S, S < se → pr S < 2147483648) (hpu : pu y < 2147483648) (hmo : pu y ≤ pu (y + 1)) (hpu1 : pu (y + 1) < 2147483648) (hT : ∀ S, S < se → pr S ≤ pu (y + 1) → -2147483648 ≤ T (y + 1) S ∧ T (y + 1) S < 2147483648) (hP9 : ∀ S, S < se → pr S ≤ pu (y + 1) → P (y + 1) S < 2147483648) : Met l yP_workYear wdP_workYear ({ frames := 2, cells := 0, slots := 0, locals := 47 }) (wrP (dC, dI) mcCl (mcWP r cI cG bu T P pu pr ga se) (mcTH cI cG) sz [.ref (r 0), .int (nI y), .int 0]) (va_Qv (fun x : (Nat → Nat → Int) × (Nat → Nat → Nat) => (∀ j, j ≠ y → x.1 j = T j) ∧ (∀ j, j ≠ y → x.2 j = P j) ∧ ∀ S, S < se → pr S ≤ pu y → ∃ f, mc_pick se (fun U => pr U ≤ pu (y + 1)) (T (y + 1)) (P (y + 1)) S f ∧ x.1 y S = ga S + T (y + 1) f ∧ x.2 y S = P (y + 1) f) (fun x t => va_P (dC, dI) mcCl (mcWP r cI cG bu x.1 x.2 pu pr ga se) t.heap ∧ va_K (dC, dI) mcCl (mcTH cI cG) t ∧ va_D (va_A (mcWP r cI cG bu T P pu pr ga se) sz) (mcWP r cI cG bu x.1 x.2 pu pr ga se)) (va_A (mcWP r cI cG bu T P pu pr ga se) sz)) 0 0 (va_A (mcWP r cI cG bu T P pu pr ga se) sz) := by
  refine Met.ofW (cc := bP_workYear) (maxL := 5) (ret := none) (by decide) rfl ?_
  intro p e s m args below meth c s₁ BB hml hv
  obtain ⟨rfl, hsz, hP, hK, hD0⟩ := hv
  have hx := BB.exec
  have hb := BB.bytes
  have hr := BB.returns
  have hts := atoms_spec (ws := wdP_workYear) BB.pre
  have hown : s.vm.findClass RP = some m.cls := findClass_of_methodNamed BB.named
  have hlocks := BB.notSynchronized
  subst hsz
  have hD := hD0.self (sz := s.heap.size)
  generalize hAe : va_A (mcWP r cI cG bu T P pu pr ga se) s.heap.size = A at hD ⊢
  have hA : ∀ q : Nat, s.heap.size ≤ q → A q := fun q h => by rw [← hAe]; exact Or.inr h
  have hS : va_S A s.heap s.heap [] := va_S.rf
  have hl := lv_entry ([.ref (r 0), .int (nI y), .int 0]) (n := 5) (Nat.le_of_ble_eq_true rfl)
  rw [lg_entry_eq]
  generalize (lg_sl ([.ref (r 0), .int (nI y), .int 0]) ++ List.replicate (5 - (lg_sl ([.ref (r 0), .int (nI y), .int 0])).length) Slot.unset).toArray = ls at hl ⊢
  have hl : lv_has ls 5 [(0, .ref (r 0)), (1, .int (nI y)), (2, .int 0)] := hl
  refine lv_iconst (v := 0) hx hb dP_workYear_0 (by decide) ?_
  refine lv_istore_n (lv' := [(3, .int 0), (0, .ref (r 0)), (1, .int (nI y)), (2, .int 0)]) hx hb dP_workYear_1 rfl hl (by decide) rfl (fun ls hl => ?_)
  refine lpW (σ := Nat × (Nat → Nat → Int) × (Nat → Nat → Nat)) (fun x H locs => x.1 ≤ se ∧ ((∀ j, j ≠ y → x.2.1 j = T j) ∧ (∀ j, j ≠ y → x.2.2 j = P j) ∧ ∀ S, S < x.1 → pr S ≤ pu y → ∃ f, mc_pick se (fun U => pr U ≤ pu (y + 1)) (T (y + 1)) (P (y + 1)) S f ∧ x.2.1 y S = ga S + T (y + 1) f ∧ x.2.2 y S = P (y + 1) f) ∧ va_P (dC, dI) mcCl (mcWP r cI cG bu x.2.1 x.2.2 pu pr ga se) H ∧ va_D A (mcWP r cI cG bu x.2.1 x.2.2 pu pr ga se) ∧ va_S A s.heap H locs) (fun x => [(0, .ref (r 0)), (1, .int (nI y)), (2, .int 0), (3, .int (nI x.1))]) (fun x => se - x.1) (fun x H locs ls hI hl ih => ?_) ((0, T, P)) _ _ ls (⟨Nat.zero_le _, ⟨fun _ _ => rfl, fun _ _ => rfl, fun S h => absurd h (Nat.not_lt_zero S)⟩, hP, hD, hS⟩) (lv_sub hl [1, 2, 3, 0] rfl)
  obtain ⟨k, T2, P2⟩ := x
  have hl : lv_has ls 5 [(0, .ref (r 0)), (1, .int (nI y)), (2, .int 0), (3, .int (nI k))] := hl
  obtain ⟨hk, ⟨hI1, hI2, hI3⟩, hP, hD, hS⟩ := hI
  dsimp only at hk hI1 hI2 hI3 hP hD
  refine lv_iload_n hx hb dP_workYear_2 rfl (lv_at hl 3 rfl) ?_
  refine lv_aload_n hx hb dP_workYear_3 rfl (lv_at hl 0 rfl) ?_
  refine va_get (D := (dC, dI)) (ci := 2) (C := RP) (T := FP) (N := 7) hx hb hts (fun w h => List.mem_cons_of_mem _ (inP w h)) hown hK hP 0 rfl rfl 6 (by decide) (hts _ (List.mem_cons_of_mem _ kw116)) (fun _ h9 => h9) rfl dP_workYear_4 ?_
  refine lv_icmp_ge (tgt := 121) hx hb dP_workYear_7 (by decide) (fun c1 => ?_) (fun c1 => ?_)
  · have hkn : k = se := by have := (nI_leI (by omega) (by omega)).mp c1; omega
    exact W.vret hx hb hr (fun t ht hW => ⟨⟨(T2, P2), rfl, ⟨hI1, hI2, fun S hS9 => hI3 S (by omega)⟩, by rw [ht]; exact hP, va_K.moved hW.alike hK, hD⟩, hS.F ht⟩) hS.2.2 dP_workYear_121
  · have hkn : k < se := by
      rcases Nat.lt_or_ge k se with z | z
      · exact z
      · exact absurd (nI_le z (by omega)) c1
    have hkp := hpr k hkn
    refine lv_aload_n hx hb dP_workYear_10 rfl (lv_at hl 0 rfl) ?_
    refine va_get (D := (dC, dI)) (ci := 2) (C := RP) (T := FP) (N := 7) hx hb hts (fun w h => List.mem_cons_of_mem _ (inP w h)) hown hK hP 0 rfl rfl 4 (by decide) (hts _ (List.mem_cons_of_mem _ kw114)) (fun _ h9 => h9) rfl dP_workYear_11 ?_
    refine lv_iload_n hx hb dP_workYear_14 rfl (lv_at hl 3 rfl) ?_
    refine ialdN hx hb hK hP 5 0 rfl rfl (k := k) (by omega) (by decide) (v := nI (pr k)) rfl dP_workYear_15 ?_
    refine lv_aload_n hx hb dP_workYear_16 rfl (lv_at hl 0 rfl) ?_
    refine va_get (D := (dC, dI)) (ci := 2) (C := RP) (T := FP) (N := 7) hx hb hts (fun w h => List.mem_cons_of_mem _ (inP w h)) hown hK hP 0 rfl rfl 3 (by decide) (hts _ (List.mem_cons_of_mem _ kw113)) (fun _ h9 => h9) rfl dP_workYear_17 ?_
    refine lv_iload_n hx hb dP_workYear_20 rfl (lv_at hl 1 rfl) ?_
    refine ialdN hx hb hK hP 4 0 rfl rfl (k := y) hy (by decide) (v := nI (pu y)) rfl dP_workYear_21 ?_
    refine lv_icmp_gt (tgt := 115) hx hb dP_workYear_22 (by decide) (fun c2 => ?_) (fun c2 => ?_)
    · have c2 : pu y < pr k := (nI_ltI (by omega) (by omega)).mp c2
      refine lv_iinc (v := (nI (k + 1))) (lv' := [(3, .int (nI (k + 1))), (0, .ref (r 0)), (1, .int (nI y)), (2, .int 0)]) hx hb dP_workYear_115 hl (k := 3) rfl (nI_1 k) (by decide) rfl (fun ls hl => ?_)
      refine lv_goto (tgt := 2) hx hb dP_workYear_118 (by decide) ?_
      exact ih (k + 1, T2, P2) H locs ls (⟨hkn, ⟨hI1, hI2, lt_s hI3 (fun h => absurd h (by omega))⟩, hP, hD, hS⟩) (by dsimp only; omega) (lv_sub hl [1, 2, 3, 0] rfl)
    · have c2 : pr k ≤ pu y := by
        rcases Nat.lt_or_ge (pu y) (pr k) with z | z
        · exact absurd ((nI_ltI (by omega) (by omega)).mpr z) c2
        · exact z
      refine lv_iload_n hx hb dP_workYear_25 rfl (lv_at hl 2 rfl) ?_
      refine lv_if_eq (tgt := 60) hx hb dP_workYear_26 (by decide) (fun c3 => ?_) (fun c3 => ?_)
      · skip
        refine lv_aload_n hx hb dP_workYear_60 rfl (lv_at hl 0 rfl) ?_
        refine lv_iload_n hx hb dP_workYear_61 rfl (lv_at hl 3 rfl) ?_
        refine lv_iload_n hx hb dP_workYear_62 rfl (lv_at hl 1 rfl) ?_
        refine lv_iconst (v := 1) hx hb dP_workYear_63 (by decide) ?_
        refine lv_iadd hx hb dP_workYear_64 ?_
        refine lv_topi (fun y1 ey1 => ?_)
        have hy1 : y1 = nI (y + 1) := by rw [ey1]; exact nI_1 y
        subst hy1
        have e1 : T2 (y + 1) = T (y + 1) := hI1 (y + 1) (by omega)
        have e2 : P2 (y + 1) = P (y + 1) := hI2 (y + 1) (by omega)
        refine callRV (As := [.int (nI k), .int (nI (y + 1))]) (rest := []) ⟨hx, hb, hml, hown, hts⟩ tlB (c_P_bestFrom l dC dI r cI cG bu T2 P2 pu pr ga se k (y + 1) (by omega) hse hpr hpu1 (by rw [e1]; exact hT) (by rw [e2]; exact hP9) hkn (Nat.le_trans c2 hmo)) kw436 kw437 kw12 kw28 kw438 ⟨rfl, rfl⟩ (n := 2) (by decide +kernel) ⟨Nat.le_of_ble_eq_true rfl, Nat.le_of_ble_eq_true rfl⟩ (roP_preV hP hK (ci := 2) (q0 := 0) rfl rfl) rfl hl.1 rfl (Nat.le_of_ble_eq_true rfl) ⟨Nat.le_of_ble_eq_true rfl, Nat.le_of_ble_eq_true rfl⟩ dP_workYear_65 (fun r1 hr1 => ?_)
        obtain ⟨f, rfl, hf⟩ := hr1
        rw [e1, e2] at hf
        have hf64 : f < 64 := by have := hf.1; omega
        refine lv_istore (lv' := [(4, .int (nI f)), (0, .ref (r 0)), (1, .int (nI y)), (2, .int 0), (3, .int (nI k))]) hx hb dP_workYear_68 hl (by decide) rfl (fun ls hl => ?_)
        refine lv_aload_n hx hb dP_workYear_70 rfl (lv_at hl 1 rfl) ?_
        refine va_get (D := (dC, dI)) (ci := 2) (C := RP) (T := FP) (N := 7) hx hb hts (fun w h => List.mem_cons_of_mem _ (inP w h)) hown hK hP 0 rfl rfl 1 (by decide) (hts _ (List.mem_cons_of_mem _ kw110)) (fun _ h9 => h9) rfl dP_workYear_71 ?_
        refine lv_iload_n hx hb dP_workYear_74 rfl (lv_at hl 2 rfl) ?_
        refine aldaN hx hb hK hP 2 1 rfl rfl (k := y) hy (by decide) (r := (r (7 + y))) (if_pos hy) dP_workYear_75 ?_
        refine lv_iload_n hx hb dP_workYear_76 rfl (lv_at hl 4 rfl) ?_
        refine lv_aload_n hx hb dP_workYear_77 rfl (lv_at hl 1 rfl) ?_
        refine va_get (D := (dC, dI)) (ci := 2) (C := RP) (T := FP) (N := 7) hx hb hts (fun w h => List.mem_cons_of_mem _ (inP w h)) hown hK hP 0 rfl rfl 5 (by decide) (hts _ (List.mem_cons_of_mem _ kw115)) (fun _ h9 => h9) rfl dP_workYear_78 ?_
        refine lv_iload_n hx hb dP_workYear_81 rfl (lv_at hl 4 rfl) ?_
        refine ialdN hx hb hK hP 6 0 rfl rfl (k := k) (by omega) (by decide) (v := iI (ga k)) rfl dP_workYear_82 ?_
        refine lv_aload_n hx hb dP_workYear_83 rfl (lv_at hl 1 rfl) ?_
        refine va_get (D := (dC, dI)) (ci := 2) (C := RP) (T := FP) (N := 7) hx hb hts (fun w h => List.mem_cons_of_mem _ (inP w h)) hown hK hP 0 rfl rfl 1 (by decide) (hts _ (List.mem_cons_of_mem _ kw110)) (fun _ h9 => h9) rfl dP_workYear_84 ?_
        refine lv_iload_n hx hb dP_workYear_87 rfl (lv_at hl 2 rfl) ?_
        refine lv_iconst (v := 1) hx hb dP_workYear_88 (by decide) ?_
        refine lv_iadd hx hb dP_workYear_89 ?_
        refine lv_topi (fun y2 ey2 => ?_)
        have hy2 : y2 = nI (y + 1) := by rw [ey2]; exact nI_1 y
        subst hy2
        refine aldaN hx hb hK hP 2 1 rfl rfl (k := (y + 1)) (by omega) (by decide) (r := (r (7 + (y + 1)))) (if_pos (by omega)) dP_workYear_90 ?_
        refine lv_iload hx hb dP_workYear_91 (lv_at hl 0 rfl) ?_
        refine ialdN hx hb hK hP (7 + (y + 1)) 0 (mcWP_T (by omega)) rfl (k := f) hf64 (by decide) (v := iI (T (y + 1) f)) (by rw [e1]) dP_workYear_93 ?_
        refine lv_iadd hx hb dP_workYear_94 ?_
        refine lv_topi (fun y3 ey3 => ?_)
        have hy3 : y3 = iI (ga k + T (y + 1) f) := by rw [ey3, iI_add]
        subst hy3
        refine iastN hx hb hK hP hD hS (7 + y) 0 (mcWP_T hy) rfl (k := k) (by omega) (by decide) (x := iI (ga k + T (y + 1) f)) (fun S => iI ((mcT2 T2 y k (ga k + T (y + 1) f)) y S)) (fun j => by simp only [mcT2, true_and]; split <;> rfl) (ws' := mcWP r cI cG bu (mcT2 T2 y k (ga k + T (y + 1) f)) P2 pu pr ga se) (mcWP_setT hy (fun j hj => mcT2_row hj)) dP_workYear_95 (fun H locs hP hD hS => ?_)
        refine lv_aload_n hx hb dP_workYear_96 rfl (lv_at hl 1 rfl) ?_
        refine va_get (D := (dC, dI)) (ci := 2) (C := RP) (T := FP) (N := 7) hx hb hts (fun w h => List.mem_cons_of_mem _ (inP w h)) hown hK hP 0 rfl rfl 2 (by decide) (hts _ (List.mem_cons_of_mem _ kw112)) (fun _ h9 => h9) rfl dP_workYear_97 ?_
        refine lv_iload_n hx hb dP_workYear_100 rfl (lv_at hl 2 rfl) ?_
        refine aldaN hx hb hK hP 3 1 rfl rfl (k := y) hy (by decide) (r := (r (11 + y))) (if_pos hy) dP_workYear_101 ?_
        refine lv_iload_n hx hb dP_workYear_102 rfl (lv_at hl 4 rfl) ?_
        refine lv_aload_n hx hb dP_workYear_103 rfl (lv_at hl 1 rfl) ?_
        refine va_get (D := (dC, dI)) (ci := 2) (C := RP) (T := FP) (N := 7) hx hb hts (fun w h => List.mem_cons_of_mem _ (inP w h)) hown hK hP 0 rfl rfl 2 (by decide) (hts _ (List.mem_cons_of_mem _ kw112)) (fun _ h9 => h9) rfl dP_workYear_104 ?_
        refine lv_iload_n hx hb dP_workYear_107 rfl (lv_at hl 2 rfl) ?_
        refine lv_iconst (v := 1) hx hb dP_workYear_108 (by decide) ?_
        refine lv_iadd hx hb dP_workYear_109 ?_
        refine lv_topi (fun y4 ey4 => ?_)
        have hy4 : y4 = nI (y + 1) := by rw [ey4]; exact nI_1 y
        subst hy4
        refine aldaN hx hb hK hP 3 1 rfl rfl (k := (y + 1)) (by omega) (by decide) (r := (r (11 + (y + 1)))) (if_pos (by omega)) dP_workYear_110 ?_
        refine lv_iload hx hb dP_workYear_111 (lv_at hl 0 rfl) ?_
        refine ialdN hx hb hK hP (11 + (y + 1)) 0 (mcWP_P (by omega)) rfl (k := f) hf64 (by decide) (v := nI (P (y + 1) f)) (by rw [e2]) dP_workYear_113 ?_
        refine iastN hx hb hK hP hD hS (11 + y) 0 (mcWP_P hy) rfl (k := k) (by omega) (by decide) (x := nI (P (y + 1) f)) (fun S => nI ((mcT2 P2 y k (P (y + 1) f)) y S)) (fun j => by simp only [mcT2, true_and]; split <;> rfl) (ws' := mcWP r cI cG bu (mcT2 T2 y k (ga k + T (y + 1) f)) (mcT2 P2 y k (P (y + 1) f)) pu pr ga se) (mcWP_setP hy (fun j hj => mcT2_row hj)) dP_workYear_114 (fun H locs hP hD hS => ?_)
        refine lv_iinc (v := (nI (k + 1))) (lv' := [(3, .int (nI (k + 1))), (4, .int (nI f)), (0, .ref (r 0)), (1, .int (nI y)), (2, .int 0)]) hx hb dP_workYear_115 hl (k := 4) rfl (nI_1 k) (by decide) rfl (fun ls hl => ?_)
        refine lv_goto (tgt := 2) hx hb dP_workYear_118 (by decide) ?_
        exact ih (k + 1, mcT2 T2 y k (ga k + T (y + 1) f), mcT2 P2 y k (P (y + 1) f)) H locs ls (⟨hkn, ⟨fun j hj => by dsimp only; rw [mcT2_row hj]; exact hI1 j hj, fun j hj => by dsimp only; rw [mcT2_row hj]; exact hI2 j hj, lt_s (fun S hS9 h9 => by dsimp only; rw [mcT2_ne (by omega), mcT2_ne (by omega)]; exact hI3 S hS9 h9) (fun _ => ⟨f, hf, mcT2_at, mcT2_at⟩)⟩, hP, hD, hS⟩) (by dsimp only; omega) (lv_sub hl [2, 3, 4, 0] rfl)
      · exact absurd (rfl : (0 : Int32) = 0) c3
end
section
/-! the planner: judgeSets, work -/
theorem mc_min_code : prog_10_method_69_code = Lib.Math.min.code := by decide +kernel
/-- what a set of the first measures costs, out of reach if it is not lawful, and gains -/
def mc_judge (n : Nat) (C G X D : Nat → Nat) (B : Nat → Nat → Int) (pr : Nat → Nat) (ga : Nat → Int) (K : Nat) : Prop := ∀ S, S < K → (mc_law n X D S → pr S = mc_cost C S n) ∧ (¬ mc_law n X D S → pr S = 400001) ∧ ga S = mc_gain G B S n
def mc_m6 (n : Nat) : Nat := if 6 < n then 6 else n
theorem mc_m6_nI {n : Nat} (h : n ≤ 12) : (if (6 : Int32) < nI n then 6 else nI n) = nI (mc_m6 n) := by
  unfold mc_m6
  have := nI_ltI (a := 6) (b := n) (by omega) (by omega)
  rw [show (6 : Int32) = nI 6 from rfl]
  by_cases e : 6 < n
  · rw [if_pos e, if_pos (this.mpr e)]
  · rw [if_neg e, if_neg (fun z => e (this.mp z))]
theorem mc_m6_le {n : Nat} : mc_m6 n ≤ 6 ∧ mc_m6 n ≤ n := by unfold mc_m6; split <;> omega
/-- the years from y0 on are worked out -/
def mc_dp (Y y0 se : Nat) (pu pr : Nat → Nat) (ga : Nat → Int) (T : Nat → Nat → Int) (P : Nat → Nat → Nat) : Prop :=
  ∀ y, y0 ≤ y → y < Y → ∀ S, S < se → pr S ≤ pu y → (y + 1 = Y → T y S = ga S ∧ P y S = pr S) ∧ (y + 1 < Y → ∃ f, mc_pick se (fun U => pr U ≤ pu (y + 1)) (T (y + 1)) (P (y + 1)) S f ∧ T y S = ga S + T (y + 1) f ∧ P y S = P (y + 1) f)
theorem mc_dp_bd {Y y0 se : Nat} {pu pr : Nat → Nat} {ga : Nat → Int} {T : Nat → Nat → Int} {P : Nat → Nat → Nat} (h : mc_dp Y y0 se pu pr ga T P) (hga : ∀ S, S < se → -900000 ≤ ga S ∧ ga S ≤ 900000) (hpu : ∀ y, y < Y → pu y ≤ 400000) :
    ∀ k y, y0 ≤ y → y + k + 1 = Y → ∀ S, S < se → pr S ≤ pu y → (-900000 * ((k : Int) + 1) ≤ T y S ∧ T y S ≤ 900000 * ((k : Int) + 1)) ∧ P y S ≤ 400000 := by
  intro k
  induction k with
  | zero =>
    intro y h1 h2 S hS ho
    obtain ⟨e1, e2⟩ := (h y h1 (by omega) S hS ho).1 (by omega)
    have := hga S hS
    have := hpu y (by omega)
    rw [e1, e2]
    omega
  | succ k ih =>
    intro y h1 h2 S hS ho
    obtain ⟨f, hf, e1, e2⟩ := (h y h1 (by omega) S hS ho).2 (by omega)
    have h3 := ih (y + 1) (by omega) (by omega) f hf.1 hf.2.1
    have := hga S hS
    rw [e1, e2]
    omega
theorem mc_dp_T {Y y0 se : Nat} {pu pr : Nat → Nat} {ga : Nat → Int} {T : Nat → Nat → Int} {P : Nat → Nat → Nat} (h : mc_dp Y y0 se pu pr ga T P) (hY : Y ≤ 4) (hga : ∀ S, S < se → -900000 ≤ ga S ∧ ga S ≤ 900000) (hpu : ∀ y, y < Y → pu y ≤ 400000) {y : Nat} (h1 : y0 ≤ y) (h2 : y < Y) {S : Nat} (hS : S < se) (ho : pr S ≤ pu y) : (-2147483648 ≤ T y S ∧ T y S < 2147483648) ∧ P y S < 2147483648 := by
  have := mc_dp_bd h hga hpu (Y - y - 1) y h1 (by omega) S hS ho
  omega
theorem mc_dp_last {Y y se : Nat} {pu pr : Nat → Nat} {ga : Nat → Int} {T T2 : Nat → Nat → Int} {P P2 : Nat → Nat → Nat} (hy : y + 1 = Y) (h3 : ∀ S, S < se → pr S ≤ pu y → T2 y S = ga S ∧ P2 y S = pr S) : mc_dp Y y se pu pr ga T2 P2 := by
  intro z h1 h2 S hS ho
  have : z = y := by omega
  subst this
  exact ⟨fun _ => h3 S hS ho, fun h => absurd h (by omega)⟩
theorem mc_dp_step {Y y se : Nat} {pu pr : Nat → Nat} {ga : Nat → Int} {T T2 : Nat → Nat → Int} {P P2 : Nat → Nat → Nat} (h : mc_dp Y (y + 1) se pu pr ga T P) (hy : y + 1 < Y) (h1 : ∀ j, j ≠ y → T2 j = T j) (h2 : ∀ j, j ≠ y → P2 j = P j)
    (h3 : ∀ S, S < se → pr S ≤ pu y → ∃ f, mc_pick se (fun U => pr U ≤ pu (y + 1)) (T (y + 1)) (P (y + 1)) S f ∧ T2 y S = ga S + T (y + 1) f ∧ P2 y S = P (y + 1) f) : mc_dp Y y se pu pr ga T2 P2 := by
  intro z z1 z2 S hS ho
  by_cases e : z = y
  · subst e
    refine ⟨fun h => absurd h (by omega), fun _ => ?_⟩
    rw [h1 (z + 1) (by omega), h2 (z + 1) (by omega)]
    exact h3 S hS ho
  · have := h z (by omega) z2 S hS ho
    rw [h1 z e, h2 z e, h1 (z + 1) (by omega), h2 (z + 1) (by omega)]
    exact this
set_option maxHeartbeats 4000000 in
set_option maxRecDepth 100000 in
theorem c_P_judgeSets (l : Launch) (dC : Nat → ClassId) (dI : Nat → Nat → Nat) (r a : Nat → Nat) (cI cG : ClassId) (bu : Nat → Nat) (T : Nat → Nat → Int) (P : Nat → Nat → Nat) (pu pr : Nat → Nat) (ga : Nat → Int) (se : Nat) (n v : Nat) (C G X D : Nat → Nat) (B : Nat → Nat → Int) (sz : Nat) (hn : n ≤ 12) (hC : ∀ m, C m ≤ 10000) (hG : ∀ m, G m ≤ 10000) (hB : ∀ i j, -5000 ≤ B i j ∧ B i j ≤ 5000) (hX : ∀ m, X m < 4096) (hDD : ∀ m, D m < 4096) : Met l yP_judgeSets wdP_judgeSets ({ frames := 3, cells := 0, slots := 0, locals := 68 }) (wrP (dC, dI) mcCl (mcWP r cI cG bu T P pu pr ga se ++ mcWH a cI cG n v C G X D B) (mcTH cI cG) sz [.ref (r 0), .ref (a 0)]) (va_Qv (fun x : (Nat → Nat) × (Nat → Int) => mc_judge n C G X D B x.1 x.2 (2 ^ mc_m6 n)) (fun x t => va_P (dC, dI) mcCl (mcWP r cI cG bu T P pu x.1 x.2 (2 ^ mc_m6 n) ++ mcWH a cI cG n v C G X D B) t.heap ∧ va_K (dC, dI) mcCl (mcTH cI cG) t ∧ va_D (va_A (mcWP r cI cG bu T P pu pr ga se ++ mcWH a cI cG n v C G X D B) sz) (mcWP r cI cG bu T P pu x.1 x.2 (2 ^ mc_m6 n) ++ mcWH a cI cG n v C G X D B)) (va_A (mcWP r cI cG bu T P pu pr ga se ++ mcWH a cI cG n v C G X D B) sz)) 0 0 (va_A (mcWP r cI cG bu T P pu pr ga se ++ mcWH a cI cG n v C G X D B) sz) := by
  refine Met.ofW (cc := bP_judgeSets) (maxL := 3) (ret := none) (by decide) rfl ?_
  intro p e s m args below meth c s₁ BB hml hv
  obtain ⟨rfl, hsz, hP, hK, hD0⟩ := hv
  have hx := BB.exec
  have hb := BB.bytes
  have hr := BB.returns
  have hts := atoms_spec (ws := wdP_judgeSets) BB.pre
  have hown : s.vm.findClass RP = some m.cls := findClass_of_methodNamed BB.named
  have hlocks := BB.notSynchronized
  subst hsz
  have hD := hD0.self (sz := s.heap.size)
  generalize hAe : va_A (mcWP r cI cG bu T P pu pr ga se ++ mcWH a cI cG n v C G X D B) s.heap.size = A at hD ⊢
  have hA : ∀ q : Nat, s.heap.size ≤ q → A q := fun q h => by rw [← hAe]; exact Or.inr h
  have hS : va_S A s.heap s.heap [] := va_S.rf
  have hl := lv_entry ([.ref (r 0), .ref (a 0)]) (n := 3) (Nat.le_of_ble_eq_true rfl)
  rw [lg_entry_eq]
  generalize (lg_sl ([.ref (r 0), .ref (a 0)]) ++ List.replicate (3 - (lg_sl ([.ref (r 0), .ref (a 0)])).length) Slot.unset).toArray = ls at hl ⊢
  have hl : lv_has ls 3 [(0, .ref (r 0)), (1, .ref (a 0))] := hl
  have h6 := mc_m6_le (n := n)
  have hp6 : 2 ^ mc_m6 n ≤ 2 ^ 6 := Nat.pow_le_pow_right (by decide) h6.1
  refine lv_aload_n hx hb dP_judgeSets_0 rfl (lv_at hl 0 rfl) ?_
  refine lv_iconst (v := 1) hx hb dP_judgeSets_1 (by decide) ?_
  refine lv_aload_n hx hb dP_judgeSets_2 rfl (lv_at hl 1 rfl) ?_
  refine va_get (D := (dC, dI)) (ci := 0) (C := RH) (T := FH) (N := 7) hx hb hts (fun w h => List.mem_cons_of_mem _ (inH w h)) hown hK hP 15 rfl rfl 0 (by decide) (hts _ (List.mem_cons_of_mem _ kw52)) (fun _ h9 => h9) rfl dP_judgeSets_3 ?_
  refine lv_bipush (v := 6) hx hb dP_judgeSets_6 (by decide) ?_
  refine va_mmin hx hb (hml.trans hl.1.symm) hown (hts _ (List.mem_cons_of_mem _ kw426)) (hts _ (List.mem_cons_of_mem _ kw427)) (hts _ (List.mem_cons_of_mem _ kw35)) (by have := hts _ (List.mem_cons_of_mem _ kw428); rw [mc_min_code] at this; exact this) (Nat.le_of_ble_eq_true rfl) (Nat.le_of_ble_eq_true rfl) (Nat.le_of_ble_eq_true rfl) (Nat.le_of_ble_eq_true rfl) dP_judgeSets_8 ?_
  refine lv_topi (fun y1 ey1 => ?_)
  have hy1 : y1 = nI (mc_m6 n) := by rw [ey1]; exact mc_m6_nI hn
  subst hy1
  refine lv_ishl hx hb dP_judgeSets_11 ?_
  refine lv_topi (fun y2 ey2 => ?_)
  have hy2 : y2 = nI (2 ^ mc_m6 n) := by rw [ey2, nI_bit (by omega)]
  subst hy2
  refine va_put (D := (dC, dI)) (ci := 2) (ty := .int) (C := RP) (T := FP) (N := 7) hx hb hts (fun w h => List.mem_cons_of_mem _ (inP w h)) tP tP_ok nP hown hK hP hD hS 0 rfl rfl 6 (by decide) (hts _ (List.mem_cons_of_mem _ kw116)) (fun _ h9 => h9) rfl (by decide +kernel) rfl rfl (Nat.le_of_ble_eq_true rfl) dP_judgeSets_12 (fun H locs hP hD hS => ?_)
  have hP : va_P (dC, dI) mcCl (mcWP r cI cG bu T P pu pr ga (2 ^ mc_m6 n) ++ mcWH a cI cG n v C G X D B) H := hP
  have hD : va_D A (mcWP r cI cG bu T P pu pr ga (2 ^ mc_m6 n) ++ mcWH a cI cG n v C G X D B) := hD
  refine lv_iconst (v := 0) hx hb dP_judgeSets_15 (by decide) ?_
  refine lv_istore_n (lv' := [(2, .int 0), (0, .ref (r 0)), (1, .ref (a 0))]) hx hb dP_judgeSets_16 rfl hl (by decide) rfl (fun ls hl => ?_)
  refine lpW (σ := Nat × (Nat → Nat) × (Nat → Int)) (fun x H locs => x.1 ≤ (2 ^ mc_m6 n) ∧ mc_judge n C G X D B x.2.1 x.2.2 x.1 ∧ va_P (dC, dI) mcCl (mcWP r cI cG bu T P pu x.2.1 x.2.2 (2 ^ mc_m6 n) ++ mcWH a cI cG n v C G X D B) H ∧ va_D A (mcWP r cI cG bu T P pu x.2.1 x.2.2 (2 ^ mc_m6 n) ++ mcWH a cI cG n v C G X D B) ∧ va_S A s.heap H locs) (fun x => [(0, .ref (r 0)), (1, .ref (a 0)), (2, .int (nI x.1))]) (fun x => (2 ^ mc_m6 n) - x.1) (fun x H locs ls hI hl ih => ?_) ((0, pr, ga)) _ _ ls (⟨Nat.zero_le _, fun S h => absurd h (Nat.not_lt_zero S), hP, hD, hS⟩) (lv_sub hl [1, 2, 0] rfl)
  obtain ⟨k, p2, g2⟩ := x
  have hl : lv_has ls 3 [(0, .ref (r 0)), (1, .ref (a 0)), (2, .int (nI k))] := hl
  obtain ⟨hk, hI, hP, hD, hS⟩ := hI
  dsimp only at hk hI hP hD
  refine lv_iload_n hx hb dP_judgeSets_17 rfl (lv_at hl 2 rfl) ?_
  refine lv_aload_n hx hb dP_judgeSets_18 rfl (lv_at hl 0 rfl) ?_
  refine va_get (D := (dC, dI)) (ci := 2) (C := RP) (T := FP) (N := 7) hx hb hts (fun w h => List.mem_cons_of_mem _ (inP w h)) hown hK hP 0 rfl rfl 6 (by decide) (hts _ (List.mem_cons_of_mem _ kw116)) (fun _ h9 => h9) rfl dP_judgeSets_19 ?_
  refine lv_icmp_ge (tgt := 66) hx hb dP_judgeSets_22 (by decide) (fun c1 => ?_) (fun c1 => ?_)
  · have hkn : k = (2 ^ mc_m6 n) := by have := (nI_leI (by omega) (by omega)).mp c1; omega
    rw [hkn] at hI
    exact W.vret hx hb hr (fun t ht hW => ⟨⟨(p2, g2), rfl, hI, by rw [ht]; exact hP, va_K.moved hW.alike hK, hD⟩, hS.F ht⟩) hS.2.2 dP_judgeSets_66
  · have hkn : k < (2 ^ mc_m6 n) := by
      rcases Nat.lt_or_ge k (2 ^ mc_m6 n) with z | z
      · exact z
      · exact absurd (nI_le z (by omega)) c1
    refine lv_aload_n hx hb dP_judgeSets_25 rfl (lv_at hl 0 rfl) ?_
    refine va_get (D := (dC, dI)) (ci := 2) (C := RP) (T := FP) (N := 7) hx hb hts (fun w h => List.mem_cons_of_mem _ (inP w h)) hown hK hP 0 rfl rfl 4 (by decide) (hts _ (List.mem_cons_of_mem _ kw114)) (fun _ h9 => h9) rfl dP_judgeSets_26 ?_
    refine lv_iload_n hx hb dP_judgeSets_29 rfl (lv_at hl 2 rfl) ?_
    refine lv_aload_n hx hb dP_judgeSets_30 rfl (lv_at hl 1 rfl) ?_
    refine lv_iload_n hx hb dP_judgeSets_31 rfl (lv_at hl 2 rfl) ?_
    refine callRV (As := [.int (nI k)]) (rest := [.int (nI k), .ref (r 5)]) ⟨hx, hb, hml, hown, hts⟩ tlB (c_H_allows l dC dI a cI cG n v C G X D B k hn (by omega) (fun m => by have := hX m; omega) (fun m => by have := hDD m; omega)) kw429 kw168 kw169 kw26 kw170 ⟨rfl, rfl⟩ (n := 1) (by decide +kernel) ⟨Nat.le_of_ble_eq_true rfl, Nat.le_of_ble_eq_true rfl⟩ (roP_preV hP.rgt hK (ci := 0) (q0 := 0) rfl rfl) rfl hl.1 rfl (Nat.le_of_ble_eq_true rfl) ⟨Nat.le_of_ble_eq_true rfl, Nat.le_of_ble_eq_true rfl⟩ dP_judgeSets_32 (fun r1 hr1 => ?_)
    refine lv_if_eq (tgt := 46) hx hb dP_judgeSets_35 (by decide) (fun c2 => ?_) (fun c2 => ?_)
    · have hL : ¬ mc_law n X D k := by
        rcases hr1 with ⟨z, -⟩ | ⟨-, z⟩
        · rw [z] at c2; cases c2
        · exact z
      refine lv_ldc (v := 400001) hx hb hown (hts _ (List.mem_cons_of_mem _ kw431)) dP_judgeSets_46 ?_
      refine lv_topi (fun y3 ey3 => ?_)
      have hy3 : y3 = nI 400001 := by rw [ey3]; rfl
      subst hy3
      refine iastN hx hb hK hP hD hS 5 0 rfl rfl (k := k) (by omega) (by decide) (x := nI (400001)) (fun j => nI (va_up p2 k (400001) j)) (fun j => by simp only [va_up]; split <;> rfl) (ws' := mcWP r cI cG bu T P pu (va_up p2 k (400001)) g2 (2 ^ mc_m6 n) ++ mcWH a cI cG n v C G X D B) (rfl) dP_judgeSets_48 (fun H locs hP hD hS => ?_)
      refine lv_aload_n hx hb dP_judgeSets_49 rfl (lv_at hl 0 rfl) ?_
      refine va_get (D := (dC, dI)) (ci := 2) (C := RP) (T := FP) (N := 7) hx hb hts (fun w h => List.mem_cons_of_mem _ (inP w h)) hown hK hP 0 rfl rfl 5 (by decide) (hts _ (List.mem_cons_of_mem _ kw115)) (fun _ h9 => h9) rfl dP_judgeSets_50 ?_
      refine lv_iload_n hx hb dP_judgeSets_53 rfl (lv_at hl 2 rfl) ?_
      refine lv_aload_n hx hb dP_judgeSets_54 rfl (lv_at hl 1 rfl) ?_
      refine lv_iload_n hx hb dP_judgeSets_55 rfl (lv_at hl 2 rfl) ?_
      refine callRV (As := [.int (nI k)]) (rest := [.int (nI k), .ref (r 6)]) ⟨hx, hb, hml, hown, hts⟩ tlB (c_H_gainOf l dC dI a cI cG n v C G X D B k hn (by omega)) kw432 kw350 kw351 kw26 kw352 ⟨rfl, rfl⟩ (n := 1) (by decide +kernel) ⟨Nat.le_of_ble_eq_true rfl, Nat.le_of_ble_eq_true rfl⟩ (roP_preV hP.rgt hK (ci := 0) (q0 := 0) rfl rfl) rfl hl.1 rfl (Nat.le_of_ble_eq_true rfl) ⟨Nat.le_of_ble_eq_true rfl, Nat.le_of_ble_eq_true rfl⟩ dP_judgeSets_56 (fun r3 hr3 => ?_)
      subst hr3
      refine iastN hx hb hK hP hD hS 6 0 rfl rfl (k := k) (by omega) (by decide) (x := iI (mc_gain G B k n)) (fun j => iI (va_up g2 k (mc_gain G B k n) j)) (fun j => by simp only [va_up]; split <;> rfl) (ws' := mcWP r cI cG bu T P pu (va_up p2 k (400001)) (va_up g2 k (mc_gain G B k n)) (2 ^ mc_m6 n) ++ mcWH a cI cG n v C G X D B) (rfl) dP_judgeSets_59 (fun H locs hP hD hS => ?_)
      refine lv_iinc (v := (nI (k + 1))) (lv' := [(2, .int (nI (k + 1))), (0, .ref (r 0)), (1, .ref (a 0))]) hx hb dP_judgeSets_60 hl (k := 2) rfl (nI_1 k) (by decide) rfl (fun ls hl => ?_)
      refine lv_goto (tgt := 17) hx hb dP_judgeSets_63 (by decide) ?_
      exact ih (k + 1, va_up p2 k (400001), va_up g2 k (mc_gain G B k n)) H locs ls (⟨hkn, lt_s (fun S hS9 => by simp only [va_up]; rw [if_neg (by omega), if_neg (by omega)]; exact hI S hS9) ⟨fun h => absurd h hL, fun _ => by simp [va_up], by simp [va_up]⟩, hP, hD, hS⟩) (by dsimp only; omega) (lv_sub hl [1, 2, 0] rfl)
    · have hL : mc_law n X D k := by
        rcases hr1 with ⟨-, z⟩ | ⟨z, -⟩
        · exact z
        · exact absurd z c2
      refine lv_aload_n hx hb dP_judgeSets_38 rfl (lv_at hl 1 rfl) ?_
      refine lv_iload_n hx hb dP_judgeSets_39 rfl (lv_at hl 2 rfl) ?_
      refine callRV (As := [.int (nI k)]) (rest := [.int (nI k), .ref (r 5)]) ⟨hx, hb, hml, hown, hts⟩ tlB (c_H_costOf l dC dI a cI cG n v C G X D B k hn (by omega)) kw430 kw346 kw347 kw26 kw348 ⟨rfl, rfl⟩ (n := 1) (by decide +kernel) ⟨Nat.le_of_ble_eq_true rfl, Nat.le_of_ble_eq_true rfl⟩ (roP_preV hP.rgt hK (ci := 0) (q0 := 0) rfl rfl) rfl hl.1 rfl (Nat.le_of_ble_eq_true rfl) ⟨Nat.le_of_ble_eq_true rfl, Nat.le_of_ble_eq_true rfl⟩ dP_judgeSets_40 (fun r2 hr2 => ?_)
      subst hr2
      refine lv_goto (tgt := 48) hx hb dP_judgeSets_43 (by decide) ?_
      refine iastN hx hb hK hP hD hS 5 0 rfl rfl (k := k) (by omega) (by decide) (x := nI (mc_cost C k n)) (fun j => nI (va_up p2 k (mc_cost C k n) j)) (fun j => by simp only [va_up]; split <;> rfl) (ws' := mcWP r cI cG bu T P pu (va_up p2 k (mc_cost C k n)) g2 (2 ^ mc_m6 n) ++ mcWH a cI cG n v C G X D B) (rfl) dP_judgeSets_48 (fun H locs hP hD hS => ?_)
      refine lv_aload_n hx hb dP_judgeSets_49 rfl (lv_at hl 0 rfl) ?_
      refine va_get (D := (dC, dI)) (ci := 2) (C := RP) (T := FP) (N := 7) hx hb hts (fun w h => List.mem_cons_of_mem _ (inP w h)) hown hK hP 0 rfl rfl 5 (by decide) (hts _ (List.mem_cons_of_mem _ kw115)) (fun _ h9 => h9) rfl dP_judgeSets_50 ?_
      refine lv_iload_n hx hb dP_judgeSets_53 rfl (lv_at hl 2 rfl) ?_
      refine lv_aload_n hx hb dP_judgeSets_54 rfl (lv_at hl 1 rfl) ?_
      refine lv_iload_n hx hb dP_judgeSets_55 rfl (lv_at hl 2 rfl) ?_
      refine callRV (As := [.int (nI k)]) (rest := [.int (nI k), .ref (r 6)]) ⟨hx, hb, hml, hown, hts⟩ tlB (c_H_gainOf l dC dI a cI cG n v C G X D B k hn (by omega)) kw432 kw350 kw351 kw26 kw352 ⟨rfl, rfl⟩ (n := 1) (by decide +kernel) ⟨Nat.le_of_ble_eq_true rfl, Nat.le_of_ble_eq_true rfl⟩ (roP_preV hP.rgt hK (ci := 0) (q0 := 0) rfl rfl) rfl hl.1 rfl (Nat.le_of_ble_eq_true rfl) ⟨Nat.le_of_ble_eq_true rfl, Nat.le_of_ble_eq_true rfl⟩ dP_judgeSets_56 (fun r3 hr3 => ?_)
      subst hr3
      refine iastN hx hb hK hP hD hS 6 0 rfl rfl (k := k) (by omega) (by decide) (x := iI (mc_gain G B k n)) (fun j => iI (va_up g2 k (mc_gain G B k n) j)) (fun j => by simp only [va_up]; split <;> rfl) (ws' := mcWP r cI cG bu T P pu (va_up p2 k (mc_cost C k n)) (va_up g2 k (mc_gain G B k n)) (2 ^ mc_m6 n) ++ mcWH a cI cG n v C G X D B) (rfl) dP_judgeSets_59 (fun H locs hP hD hS => ?_)
      refine lv_iinc (v := (nI (k + 1))) (lv' := [(2, .int (nI (k + 1))), (0, .ref (r 0)), (1, .ref (a 0))]) hx hb dP_judgeSets_60 hl (k := 2) rfl (nI_1 k) (by decide) rfl (fun ls hl => ?_)
      refine lv_goto (tgt := 17) hx hb dP_judgeSets_63 (by decide) ?_
      exact ih (k + 1, va_up p2 k (mc_cost C k n), va_up g2 k (mc_gain G B k n)) H locs ls (⟨hkn, lt_s (fun S hS9 => by simp only [va_up]; rw [if_neg (by omega), if_neg (by omega)]; exact hI S hS9) ⟨fun _ => by simp [va_up], fun h => absurd hL h, by simp [va_up]⟩, hP, hD, hS⟩) (by dsimp only; omega) (lv_sub hl [1, 2, 0] rfl)
/-- all that the planner has worked out for so many years -/
def mc_plan (n : Nat) (C G X D : Nat → Nat) (B : Nat → Nat → Int) (bu : Nat → Nat) (Y : Nat) (T : Nat → Nat → Int) (P : Nat → Nat → Nat) (pu pr : Nat → Nat) (ga : Nat → Int) : Prop :=
  (∀ y, y < 4 → pu y = mc_pur bu (y + 1)) ∧ mc_judge n C G X D B pr ga (2 ^ mc_m6 n) ∧ mc_dp Y 0 (2 ^ mc_m6 n) pu pr ga T P
set_option maxHeartbeats 4000000 in
set_option maxRecDepth 100000 in
theorem c_P_work (l : Launch) (dC : Nat → ClassId) (dI : Nat → Nat → Nat) (r a : Nat → Nat) (cI cG : ClassId) (bu : Nat → Nat) (T : Nat → Nat → Int) (P : Nat → Nat → Nat) (pu pr : Nat → Nat) (ga : Nat → Int) (se : Nat) (n v : Nat) (C G X D : Nat → Nat) (B : Nat → Nat → Int) (sz : Nat) (hn : n ≤ 12) (hC : ∀ m, C m ≤ 10000) (hG : ∀ m, G m ≤ 10000) (hB : ∀ i j, -5000 ≤ B i j ∧ B i j ≤ 5000) (hX : ∀ m, X m < 4096) (hDD : ∀ m, D m < 4096) (Y : Nat) (hY1 : 1 ≤ Y) (hY4 : Y ≤ 4) (hbu : ∀ y, bu y ≤ 100000) : Met l yP_work wdP_work ({ frames := 4, cells := 0, slots := 0, locals := 90 }) (wrP (dC, dI) mcCl (mcWP r cI cG bu T P pu pr ga se ++ mcWH a cI cG n v C G X D B) (mcTH cI cG) sz [.ref (r 0), .ref (a 0), .int (nI Y)]) (va_Qv (fun x : (Nat → Nat → Int) × (Nat → Nat → Nat) × (Nat → Nat) × (Nat → Nat) × (Nat → Int) => mc_plan n C G X D B bu Y x.1 x.2.1 x.2.2.1 x.2.2.2.1 x.2.2.2.2) (fun x t => va_P (dC, dI) mcCl (mcWP r cI cG bu x.1 x.2.1 x.2.2.1 x.2.2.2.1 x.2.2.2.2 (2 ^ mc_m6 n) ++ mcWH a cI cG n v C G X D B) t.heap ∧ va_K (dC, dI) mcCl (mcTH cI cG) t ∧ va_D (va_A (mcWP r cI cG bu T P pu pr ga se ++ mcWH a cI cG n v C G X D B) sz) (mcWP r cI cG bu x.1 x.2.1 x.2.2.1 x.2.2.2.1 x.2.2.2.2 (2 ^ mc_m6 n) ++ mcWH a cI cG n v C G X D B)) (va_A (mcWP r cI cG bu T P pu pr ga se ++ mcWH a cI cG n v C G X D B) sz)) 0 0 (va_A (mcWP r cI cG bu T P pu pr ga se ++ mcWH a cI cG n v C G X D B) sz) := by
  refine Met.ofW (cc := bP_work) (maxL := 4) (ret := none) (by decide) rfl ?_
  intro p e s m args below meth c s₁ BB hml hv
  obtain ⟨rfl, hsz, hP, hK, hD0⟩ := hv
  have hx := BB.exec
  have hb := BB.bytes
  have hr := BB.returns
  have hts := atoms_spec (ws := wdP_work) BB.pre
  have hown : s.vm.findClass RP = some m.cls := findClass_of_methodNamed BB.named
  have hlocks := BB.notSynchronized
  subst hsz
  have hD := hD0.self (sz := s.heap.size)
  generalize hAe : va_A (mcWP r cI cG bu T P pu pr ga se ++ mcWH a cI cG n v C G X D B) s.heap.size = A at hD ⊢
  have hA : ∀ q : Nat, s.heap.size ≤ q → A q := fun q h => by rw [← hAe]; exact Or.inr h
  have hS : va_S A s.heap s.heap [] := va_S.rf
  have hl := lv_entry ([.ref (r 0), .ref (a 0), .int (nI Y)]) (n := 4) (Nat.le_of_ble_eq_true rfl)
  rw [lg_entry_eq]
  generalize (lg_sl ([.ref (r 0), .ref (a 0), .int (nI Y)]) ++ List.replicate (4 - (lg_sl ([.ref (r 0), .ref (a 0), .int (nI Y)])).length) Slot.unset).toArray = ls at hl ⊢
  have hl : lv_has ls 4 [(0, .ref (r 0)), (1, .ref (a 0)), (2, .int (nI Y))] := hl
  have h6 := mc_m6_le (n := n)
  have hp6 : 2 ^ mc_m6 n ≤ 2 ^ 6 := Nat.pow_le_pow_right (by decide) h6.1
  refine lv_aload_n hx hb dP_work_0 rfl (lv_at hl 0 rfl) ?_
  refine callWX (As := []) (rest := []) ⟨hx, hb, hml, hown, hts⟩ tlB (c_P_fillPurses l dC dI r cI cG bu T P pu pr ga se s.heap.size) kw420 kw421 kw9 kw28 kw422 ⟨rfl, rfl⟩ (n := 0) (by decide +kernel) ⟨Nat.le_of_ble_eq_true rfl, Nat.le_of_ble_eq_true rfl⟩ hP.lft hK hD.lft hS (va_freeL hD hS hA) (ci := 2) (q0 := 0) rfl rfl rfl hl.1 rfl (Nat.le_of_ble_eq_true rfl) ⟨Nat.le_of_ble_eq_true rfl, Nat.le_of_ble_eq_true rfl⟩ dP_work_1 (fun pu2 H1 locs1 hpu hP1 hD1 hk1 hS1 => ?_)
  obtain ⟨hP, hD⟩ := va_jnL hP hD hk1 (va_freeL hD hS hA) hP1 hD1
  have hS := hS1
  refine lv_aload_n hx hb dP_work_4 rfl (lv_at hl 0 rfl) ?_
  refine lv_aload_n hx hb dP_work_5 rfl (lv_at hl 1 rfl) ?_
  refine callWX (As := [.ref (a 0)]) (rest := []) ⟨hx, hb, hml, hown, hts⟩ tlB (c_P_judgeSets l dC dI r a cI cG bu T P pu2 pr ga se n v C G X D B H1.size hn hC hG hB hX hDD) kw423 kw424 kw10 kw28 kw425 ⟨rfl, rfl⟩ (n := 1) (by decide +kernel) ⟨Nat.le_of_ble_eq_true rfl, Nat.le_of_ble_eq_true rfl⟩ hP hK hD hS (freeA hD hS hA) (ci := 2) (q0 := 0) rfl rfl rfl hl.1 rfl (Nat.le_of_ble_eq_true rfl) ⟨Nat.le_of_ble_eq_true rfl, Nat.le_of_ble_eq_true rfl⟩ dP_work_6 (fun u9 H2 locs2 hj hP2 hD2 hk2 hS2 => ?_)
  obtain ⟨pr2, ga2⟩ := u9
  dsimp only at hj hP2 hD2
  have hD := hD2.weaken (fun _ z _ h => (freeA hD hS hA) z.1 h)
  have hP := hP2
  have hS := hS2
  have hpu4 : ∀ y, y < Y → pu2 y ≤ 400000 := fun y hy => by rw [hpu y (by omega)]; have := mc_pur_le hbu (y + 1); omega
  have hga : ∀ S, S < (2 ^ mc_m6 n) → -900000 ≤ ga2 S ∧ ga2 S ≤ 900000 := fun S hS9 => by rw [(hj S hS9).2.2]; have := mc_gain_le (S := S) hG hB n hn; omega
  have hpr2 : ∀ S, S < (2 ^ mc_m6 n) → pr2 S < 2147483648 := fun S hS9 => by
    by_cases e : mc_law n X D S
    · rw [(hj S hS9).1 e]; have := mc_cost_le (S := S) hC n; omega
    · rw [(hj S hS9).2.1 e]; omega
  refine lv_iload_n hx hb dP_work_9 rfl (lv_at hl 2 rfl) ?_
  refine lv_iconst (v := 1) hx hb dP_work_10 (by decide) ?_
  refine lv_isub hx hb dP_work_11 ?_
  refine lv_topi (fun y1 ey1 => ?_)
  have hy1 : y1 = iI ((Y : Int) - 1) := by rw [ey1, ← iI_nat, show (1 : Int32) = iI 1 from rfl, iI_sub]
  subst hy1
  refine lv_istore_n (lv' := [(3, .int (iI ((Y : Int) - 1))), (0, .ref (r 0)), (1, .ref (a 0)), (2, .int (nI Y))]) hx hb dP_work_12 rfl hl (by decide) rfl (fun ls hl => ?_)
  refine lpW (σ := Nat × (Nat → Nat → Int) × (Nat → Nat → Nat)) (fun x H locs => x.1 ≤ Y ∧ mc_dp Y x.1 (2 ^ mc_m6 n) pu2 pr2 ga2 x.2.1 x.2.2 ∧ va_P (dC, dI) mcCl (mcWP r cI cG bu x.2.1 x.2.2 pu2 pr2 ga2 (2 ^ mc_m6 n) ++ mcWH a cI cG n v C G X D B) H ∧ va_D A (mcWP r cI cG bu x.2.1 x.2.2 pu2 pr2 ga2 (2 ^ mc_m6 n) ++ mcWH a cI cG n v C G X D B) ∧ va_S A s.heap H locs) (fun x => [(0, .ref (r 0)), (1, .ref (a 0)), (2, .int (nI Y)), (3, .int (iI ((x.1 : Int) - 1)))]) (fun x => x.1) (fun x H locs ls hI hl ih => ?_) ((Y, T, P)) _ _ ls (⟨Nat.le_refl _, fun y h1 h2 => absurd h2 (by omega), hP, hD, hS⟩) (lv_sub hl [1, 2, 3, 0] rfl)
  obtain ⟨yy, T2, P2⟩ := x
  have hl : lv_has ls 4 [(0, .ref (r 0)), (1, .ref (a 0)), (2, .int (nI Y)), (3, .int (iI ((yy : Int) - 1)))] := hl
  obtain ⟨hyy, hdp, hP, hD, hS⟩ := hI
  dsimp only at hyy hdp hP hD
  refine lv_iload_n hx hb dP_work_13 rfl (lv_at hl 3 rfl) ?_
  refine lv_if_lt (tgt := 40) hx hb dP_work_14 (by decide) (fun c1 => ?_) (fun c1 => ?_)
  · have h0 : yy = 0 := by
      rw [show (0 : Int32) = iI 0 from rfl, iI_lt (by omega) (by omega) (by omega) (by omega)] at c1
      omega
    rw [h0] at hdp
    exact W.vret hx hb hr (fun t ht hW => ⟨⟨(T2, P2, pu2, pr2, ga2), rfl, ⟨hpu, hj, hdp⟩, by rw [ht]; exact hP, va_K.moved hW.alike hK, hD⟩, hS.F ht⟩) hS.2.2 dP_work_40
  · have h0 : 0 < yy := by
      rcases Nat.eq_zero_or_pos yy with z | z
      · exact absurd (by rw [z]; decide) c1
      · exact z
    obtain ⟨y, rfl⟩ : ∃ y, yy = y + 1 := ⟨yy - 1, by omega⟩
    have e3 : iI (((y + 1 : Nat) : Int) - 1) = nI y := by rw [← iI_nat]; congr 1; omega
    rw [e3] at hl
    have hl : lv_has ls 4 [(0, .ref (r 0)), (1, .ref (a 0)), (2, .int (nI Y)), (3, .int (nI y))] := hl
    refine lv_aload_n hx hb dP_work_17 rfl (lv_at hl 0 rfl) ?_
    refine lv_iload_n hx hb dP_work_18 rfl (lv_at hl 3 rfl) ?_
    refine lv_iload_n hx hb dP_work_19 rfl (lv_at hl 3 rfl) ?_
    refine lv_iload_n hx hb dP_work_20 rfl (lv_at hl 2 rfl) ?_
    refine lv_iconst (v := 1) hx hb dP_work_21 (by decide) ?_
    refine lv_isub hx hb dP_work_22 ?_
    refine lv_topi (fun y2 ey2 => ?_)
    have hy2 : y2 = nI (Y - 1) := by rw [ey2, show (1 : Int32) = nI 1 from rfl, pk_sub hY1]
    subst hy2
    refine lv_icmp_ne (tgt := 30) hx hb dP_work_23 (by decide) (fun c2 => ?_) (fun c2 => ?_)
    · have hyn : y + 1 < Y := by
        have h9 : ¬ y = Y - 1 := fun z => c2 (by rw [z])
        omega
      refine lv_iconst (v := 0) hx hb dP_work_30 (by decide) ?_
      refine callWX (As := [.int (nI y), .int 0]) (rest := []) ⟨hx, hb, hml, hown, hts⟩ tlB (c_P_workYear0 l dC dI r cI cG bu T2 P2 pu2 pr2 ga2 (2 ^ mc_m6 n) H.size y (by omega) (by omega) (by omega) hpr2 (by have := hpu4 y (by omega); omega) (by rw [hpu y (by omega), hpu (y + 1) (by omega)]; exact Nat.le_add_right _ _) (by have := hpu4 (y + 1) hyn; omega) (fun S h8 h9 => (mc_dp_T hdp hY4 hga hpu4 (Nat.le_refl _) hyn h8 h9).1) (fun S h8 h9 => (mc_dp_T hdp hY4 hga hpu4 (Nat.le_refl _) hyn h8 h9).2)) kw433 kw434 kw11 kw28 kw435 ⟨rfl, rfl⟩ (n := 2) (by decide +kernel) ⟨Nat.le_of_ble_eq_true rfl, Nat.le_of_ble_eq_true rfl⟩ hP.lft hK hD.lft hS (va_freeL hD hS hA) (ci := 2) (q0 := 0) rfl rfl rfl hl.1 rfl (Nat.le_of_ble_eq_true rfl) ⟨Nat.le_of_ble_eq_true rfl, Nat.le_of_ble_eq_true rfl⟩ dP_work_31 (fun u8 H3 locs3 hw hP3 hD3 hk3 hS3 => ?_)
      obtain ⟨T3, P3⟩ := u8
      dsimp only at hw hP3 hD3
      obtain ⟨w1, w2, w3⟩ := hw
      obtain ⟨hP, hD⟩ := va_jnL hP hD hk3 (va_freeL hD hS hA) hP3 hD3
      have hS := hS3
      refine lv_iinc (v := (iI ((y : Int) - 1))) (lv' := [(3, .int (iI ((y : Int) - 1))), (0, .ref (r 0)), (1, .ref (a 0)), (2, .int (nI Y))]) hx hb dP_work_34 hl (k := 3) rfl (by rw [← iI_nat, show Int32.ofInt (-1) = iI (-1) from rfl, iI_add]; rfl) (by decide) rfl (fun ls hl => ?_)
      refine lv_goto (tgt := 13) hx hb dP_work_37 (by decide) ?_
      exact ih (y, T3, P3) H3 locs3 ls ⟨by dsimp only; omega, mc_dp_step hdp hyn w1 w2 w3, hP, hD, hS⟩ (by dsimp only; omega) (lv_sub hl [1, 2, 3, 0] rfl)
    · have hyn : y + 1 = Y := by
        have h9 := (nI_eq (by omega) (by omega)).mp c2
        omega
      refine lv_iconst (v := 1) hx hb dP_work_26 (by decide) ?_
      refine lv_goto (tgt := 31) hx hb dP_work_27 (by decide) ?_
      refine callWX (As := [.int (nI y), .int 1]) (rest := []) ⟨hx, hb, hml, hown, hts⟩ tlB (c_P_workYear1 l dC dI r cI cG bu T2 P2 pu2 pr2 ga2 (2 ^ mc_m6 n) H.size y (by omega) (by omega) hpr2 (by have := hpu4 y (by omega); omega)) kw433 kw434 kw11 kw28 kw435 ⟨rfl, rfl⟩ (n := 2) (by decide +kernel) ⟨Nat.le_of_ble_eq_true rfl, Nat.le_of_ble_eq_true rfl⟩ hP.lft hK hD.lft hS (va_freeL hD hS hA) (ci := 2) (q0 := 0) rfl rfl rfl hl.1 rfl (Nat.le_of_ble_eq_true rfl) ⟨Nat.le_of_ble_eq_true rfl, Nat.le_of_ble_eq_true rfl⟩ dP_work_31 (fun u8 H3 locs3 hw hP3 hD3 hk3 hS3 => ?_)
      obtain ⟨T3, P3⟩ := u8
      dsimp only at hw hP3 hD3
      obtain ⟨w1, w2, w3⟩ := hw
      obtain ⟨hP, hD⟩ := va_jnL hP hD hk3 (va_freeL hD hS hA) hP3 hD3
      have hS := hS3
      refine lv_iinc (v := (iI ((y : Int) - 1))) (lv' := [(3, .int (iI ((y : Int) - 1))), (0, .ref (r 0)), (1, .ref (a 0)), (2, .int (nI Y))]) hx hb dP_work_34 hl (k := 3) rfl (by rw [← iI_nat, show Int32.ofInt (-1) = iI (-1) from rfl, iI_add]; rfl) (by decide) rfl (fun ls hl => ?_)
      refine lv_goto (tgt := 13) hx hb dP_work_37 (by decide) ?_
      exact ih (y, T3, P3) H3 locs3 ls ⟨by dsimp only; omega, mc_dp_last (T := T2) (P := P2) hyn w3, hP, hD, hS⟩ (by dsimp only; omega) (lv_sub hl [1, 2, 3, 0] rfl)
end
section
/-! the reference: its cells, and its methods that only read -/
def bZ (b : Bool) : Int32 := if b then 1 else 0
theorem bZ_0 {b : Bool} : bZ b = 0 ↔ b = false := by cases b <;> simp [bZ]
def mcWR (w : Nat → Nat) (cI cZ : ClassId) (th n : Nat) (C G X D : Nat → Nat) (B : Nat → Nat → Int) (bu : Nat → Nat) (LG : Nat → Int) (LC : Nat → Nat) (ch : Nat → Int) : va_W :=
  [(w 0, .inr (4, [.int (nI th), .int (nI n), .ref (w 1), .ref (w 2), .ref (w 3), .ref (w 4), .ref (w 5), .ref (w 6), .ref (w 7), .ref (w 8), .ref (w 9)])), (w 1, .inl (cI, 12, .inl (fun m => nI (C m)))), (w 2, .inl (cI, 12, .inl (fun m => nI (G m)))), (w 3, .inl (cZ, 144, .inl (fun i => bZ ((X (i / 12)).testBit (i % 12))))), (w 4, .inl (cZ, 144, .inl (fun i => bZ ((D (i / 12)).testBit (i % 12))))), (w 5, .inl (cI, 144, .inl (fun i => iI (B (i / 12) (i % 12))))), (w 6, .inl (cI, 4, .inl (fun y => nI (bu y)))), (w 7, .inl (cI, 320, .inl (fun i => iI (LG i)))), (w 8, .inl (cI, 320, .inl (fun i => nI (LC i)))), (w 9, .inl (cI, 320, .inl (fun i => iI (ch i))))]
abbrev mcTR (cI cZ : ClassId) : List (ClassId × FieldType) := [(cI, .int), (cZ, .boolean)]
theorem mc_ix {a b : Nat} (hb : b < 12) : (12 * a + b) / 12 = a ∧ (12 * a + b) % 12 = b := by omega
theorem mcZ_nar {P : Prop} {r : Int32} (h : mcZ P r) : narrow .boolean (.int r) = .int r := by
  rcases h with ⟨h, -⟩ | ⟨h, -⟩ <;> rw [h] <;> rfl
theorem mcZ_t {P : Prop} {r : Int32} (h : mcZ P r) (h0 : ¬ r = 0) : P := by
  rcases h with ⟨-, h⟩ | ⟨h, -⟩
  · exact h
  · exact absurd h h0
theorem mcZ_f {P : Prop} {r : Int32} (h : mcZ P r) (h0 : r = 0) : ¬ P := by
  rcases h with ⟨h, -⟩ | ⟨-, h⟩
  · rw [h] at h0; cases h0
  · exact h
section MCZ
variable {p : Program} {l : Launch} {e : Env} {R : Room} {s : State} {m : MethodId} {args : Array Value} {below : List Frame} {meth : Method} {c : Code} {H : Heap} {locs : List Loc} {cells slots : Nat} {Q : State → Prop}
variable {cc : ByteArray} {pc : Nat} {ls : Array Slot} {rest : List Value} {D : va_G} {cl : List vw_C} {A : Nat → Prop} {a : Nat} {tys : List (ClassId × FieldType)} {ws : va_W} {H0 : Heap}
theorem zaldN (hexec : p.tables.exec = Jvm.exec) (hb : c.code = cc) (hK : va_K D cl tys s) (hP : va_P D cl ws H) (q0 t0 : Nat) {cA : ClassId} {n : Nat} {f : Nat → Int32} (ha : ws[q0]? = some (a, .inl (cA, n, .inl f))) (ht : tys[t0]? = some (cA, .boolean)) {k : Nat} (hk : k < n) (hn : n < 2 ^ 31) {v : Int32} (hv : f k = v) (hdg : decode cc pc = .ok (.baload, 1))
    (kk : W p l e R s m args below meth c H locs cells slots Q (F0 m (pc + 1) ls (.int v :: rest))) : W p l e R s m args below meth c H locs cells slots Q (F0 m pc ls (.int (nI k) :: .ref a :: rest)) := by
  refine va_zald hexec hb hK hP q0 t0 ha ht (vp_in_nI hk hn) hdg ?_
  rw [nI_clamp (by omega), hv]
  exact kk
theorem zastN (hexec : p.tables.exec = Jvm.exec) (hb : c.code = cc) (hK : va_K D cl tys s) (hP : va_P D cl ws H) (hD : va_D A ws) (hS : va_S A H0 H locs) (q0 t0 : Nat) {cA : ClassId} {n : Nat} {f : Nat → Int32} (ha : ws[q0]? = some (a, .inl (cA, n, .inl f))) (ht : tys[t0]? = some (cA, .boolean)) {k : Nat} (hk : k < n) (hn : n < 2 ^ 31) {x : Int32} (hx9 : x = 0 ∨ x = 1) (g : Nat → Int32) (hg : ∀ j, g j = if j = k then x else f j) {ws' : va_W} (hw : ws.set q0 (a, .inl (cA, n, .inl g)) = ws') (hdg : decode cc pc = .ok (.bastore, 1))
    (kk : ∀ (H1 : Heap) (locs1 : List Loc), va_P D cl ws' H1 → va_D A ws' → va_S A H0 H1 locs1 → W p l e R s m args below meth c H1 locs1 cells slots Q (F0 m (pc + 1) ls rest)) : W p l e R s m args below meth c H locs cells slots Q (F0 m pc ls (.int x :: .int (nI k) :: .ref a :: rest)) := by
  have hnx : vp_nar .boolean x = x := by rcases hx9 with z | z <;> rw [z] <;> rfl
  have hgf : upd f (nI k).toNatClampNeg (vp_nar .boolean x) = g := by
    rw [nI_clamp (by omega), hnx]
    exact funext fun j => by rw [hg j]; rfl
  refine va_zast hexec hb hK hP hD hS q0 t0 ha ht (vp_in_nI hk hn) hdg ?_
  rw [hgf, hw]
  exact kk
end MCZ
set_option maxHeartbeats 4000000 in
set_option maxRecDepth 100000 in
theorem c_R_in (l : Launch) (v lo hi : Int32) : Met l yR_in wdR_in ({ frames := 0, cells := 0, slots := 0, locals := 0 }) (nwP [.int v, .int lo, .int hi]) (vp_Si (fun z9 => mcZ (lo ≤ v ∧ v ≤ hi) z9)) 0 0 (fun _ => False) := by
  refine Met.ofW (cc := bR_in) (maxL := 3) (ret := (some FieldType.boolean)) (by decide) rfl ?_
  intro p e s m args below meth c s₁ BB hml hv
  obtain ⟨rfl, -⟩ := hv
  have hx := BB.exec
  have hb := BB.bytes
  have hr := BB.returns
  have hts := atoms_spec (ws := wdR_in) BB.pre
  have hown : s.vm.findClass RR = some m.cls := findClass_of_methodNamed BB.named
  have hlocks := BB.notSynchronized
  have hl := lv_entry ([.int v, .int lo, .int hi]) (n := 3) (Nat.le_of_ble_eq_true rfl)
  rw [lg_entry_eq]
  generalize (lg_sl ([.int v, .int lo, .int hi]) ++ List.replicate (3 - (lg_sl ([.int v, .int lo, .int hi])).length) Slot.unset).toArray = ls at hl ⊢
  have hl : lv_has ls 3 [(0, .int v), (1, .int lo), (2, .int hi)] := hl
  refine lv_iload_n hx hb dR_in_0 rfl (lv_at hl 0 rfl) ?_
  refine lv_iload_n hx hb dR_in_1 rfl (lv_at hl 1 rfl) ?_
  refine lv_icmp_lt (tgt := 14) hx hb dR_in_2 (by decide) (fun c1 => ?_) (fun c1 => ?_)
  ·
    refine lv_iconst (v := 0) hx hb dR_in_14 (by decide) ?_
    exact W.zret hx hb hr (rfl) (fun t ht hW => ⟨_, rfl, Or.inr ⟨rfl, fun h => Int32.not_lt.mpr h.1 c1⟩, ht⟩) (fun q hq => by cases hq) dR_in_15
  ·
    refine lv_iload_n hx hb dR_in_5 rfl (lv_at hl 0 rfl) ?_
    refine lv_iload_n hx hb dR_in_6 rfl (lv_at hl 2 rfl) ?_
    refine lv_icmp_gt (tgt := 14) hx hb dR_in_7 (by decide) (fun c2 => ?_) (fun c2 => ?_)
    ·
      refine lv_iconst (v := 0) hx hb dR_in_14 (by decide) ?_
      exact W.zret hx hb hr (rfl) (fun t ht hW => ⟨_, rfl, Or.inr ⟨rfl, fun h => Int32.not_lt.mpr h.2 c2⟩, ht⟩) (fun q hq => by cases hq) dR_in_15
    ·
      refine lv_iconst (v := 1) hx hb dR_in_10 (by decide) ?_
      refine lv_goto (tgt := 15) hx hb dR_in_11 (by decide) ?_
      exact W.zret hx hb hr (rfl) (fun t ht hW => ⟨_, rfl, Or.inl ⟨rfl, Int32.not_lt.mp c1, Int32.not_lt.mp c2⟩, ht⟩) (fun q hq => by cases hq) dR_in_15
set_option maxHeartbeats 4000000 in
set_option maxRecDepth 100000 in
theorem c_R_has (l : Launch) (S k : Nat) (hS : S < 2 ^ 31) (hk : k < 32) : Met l yR_has wdR_has ({ frames := 0, cells := 0, slots := 0, locals := 0 }) (nwP [.int (nI S), .int (nI k)]) (vp_Si (fun z9 => z9 = bZ (S.testBit k))) 0 0 (fun _ => False) := by
  refine Met.ofW (cc := bR_has) (maxL := 2) (ret := (some FieldType.boolean)) (by decide) rfl ?_
  intro p e s m args below meth c s₁ BB hml hv
  obtain ⟨rfl, -⟩ := hv
  have hx := BB.exec
  have hb := BB.bytes
  have hr := BB.returns
  have hts := atoms_spec (ws := wdR_has) BB.pre
  have hown : s.vm.findClass RR = some m.cls := findClass_of_methodNamed BB.named
  have hlocks := BB.notSynchronized
  have hl := lv_entry ([.int (nI S), .int (nI k)]) (n := 2) (Nat.le_of_ble_eq_true rfl)
  rw [lg_entry_eq]
  generalize (lg_sl ([.int (nI S), .int (nI k)]) ++ List.replicate (2 - (lg_sl ([.int (nI S), .int (nI k)])).length) Slot.unset).toArray = ls at hl ⊢
  have hl : lv_has ls 2 [(0, .int (nI S)), (1, .int (nI k))] := hl
  refine lv_iload_n hx hb dR_has_0 rfl (lv_at hl 0 rfl) ?_
  refine lv_iload_n hx hb dR_has_1 rfl (lv_at hl 1 rfl) ?_
  refine lv_ishr hx hb dR_has_2 ?_
  refine lv_iconst (v := 1) hx hb dR_has_3 (by decide) ?_
  refine lv_iand hx hb dR_has_4 ?_
  refine lv_iconst (v := 1) hx hb dR_has_5 (by decide) ?_
  refine lv_icmp_ne (tgt := 13) hx hb dR_has_6 (by decide) (fun c1 => ?_) (fun c1 => ?_)
  · rw [nI_has hk hS] at c1
    refine lv_iconst (v := 0) hx hb dR_has_13 (by decide) ?_
    exact W.zret hx hb hr (rfl) (fun t ht hW => ⟨_, rfl, (by cases hb9 : S.testBit k <;> simp_all [bZ]), ht⟩) (fun q hq => by cases hq) dR_has_14
  · rw [nI_has hk hS] at c1
    refine lv_iconst (v := 1) hx hb dR_has_9 (by decide) ?_
    refine lv_goto (tgt := 14) hx hb dR_has_10 (by decide) ?_
    exact W.zret hx hb hr (rfl) (fun t ht hW => ⟨_, rfl, (by cases hb9 : S.testBit k <;> simp_all [bZ]), ht⟩) (fun q hq => by cases hq) dR_has_14
set_option maxHeartbeats 4000000 in
set_option maxRecDepth 100000 in
theorem c_R_thrown (l : Launch) (dC : Nat → ClassId) (dI : Nat → Nat → Nat) (w : Nat → Nat) (cI cZ : ClassId) (th n : Nat) (C G X D : Nat → Nat) (B : Nat → Nat → Int) (bu : Nat → Nat) (LG : Nat → Int) (LC : Nat → Nat) (ch : Nat → Int)  : Met l yR_thrown wdR_thrown ({ frames := 0, cells := 0, slots := 0, locals := 0 }) (roP (dC, dI) mcCl (mcWR w cI cZ th n C G X D B bu LG LC ch) (mcTR cI cZ) [.ref (w 0)]) (vp_Si (fun z9 => z9 = nI th)) 0 0 (fun _ => False) := by
  refine Met.ofW (cc := bR_thrown) (maxL := 1) (ret := (some FieldType.int)) (by decide) rfl ?_
  intro p e s m args below meth c s₁ BB hml hv
  obtain ⟨rfl, hP, hK⟩ := hv
  have hx := BB.exec
  have hb := BB.bytes
  have hr := BB.returns
  have hts := atoms_spec (ws := wdR_thrown) BB.pre
  have hown : s.vm.findClass RR = some m.cls := findClass_of_methodNamed BB.named
  have hlocks := BB.notSynchronized
  have hl := lv_entry ([.ref (w 0)]) (n := 1) (Nat.le_of_ble_eq_true rfl)
  rw [lg_entry_eq]
  generalize (lg_sl ([.ref (w 0)]) ++ List.replicate (1 - (lg_sl ([.ref (w 0)])).length) Slot.unset).toArray = ls at hl ⊢
  have hl : lv_has ls 1 [(0, .ref (w 0))] := hl
  refine lv_aload_n hx hb dR_thrown_0 rfl (lv_at hl 0 rfl) ?_
  refine va_get (D := (dC, dI)) (ci := 4) (C := RR) (T := FR) (N := 11) hx hb hts (fun w h => List.mem_cons_of_mem _ (inR w h)) hown hK hP 0 rfl rfl 0 (by decide) (hts _ (List.mem_cons_of_mem _ kw459)) (fun _ h9 => h9) rfl dR_thrown_1 ?_
  exact W.iret hx hb hr (fun t ht hW => ⟨_, rfl, rfl, ht⟩) (fun q hq => by cases hq) dR_thrown_4
theorem mc_is {n : Nat} (hn : n ≤ 12) (v : Int32) : (0 ≤ v ∧ v ≤ nI n - 1) ↔ ∃ k, k < n ∧ v = nI k := by
  have e : nI n - 1 = iI ((n : Int) - 1) := by rw [← iI_nat, show (1 : Int32) = iI 1 from rfl, iI_sub]
  have hv := iI_bnd v
  rw [e, ← iI_self v, show (0 : Int32) = iI 0 from rfl, iI_le (by omega) (by omega) (by omega) (by omega), iI_le (by omega) (by omega) (by omega) (by omega)]
  constructor
  · rintro ⟨h1, h2⟩
    exact ⟨v.toInt.toNat, by omega, by rw [← iI_nat]; congr 1; omega⟩
  · rintro ⟨k, hk, e2⟩
    rw [iI_self] at e2
    have : v.toInt = (k : Int) := by rw [e2]; exact nI_toInt (by omega)
    omega
set_option maxHeartbeats 4000000 in
set_option maxRecDepth 100000 in
theorem c_R_is (l : Launch) (dC : Nat → ClassId) (dI : Nat → Nat → Nat) (w : Nat → Nat) (cI cZ : ClassId) (th n : Nat) (C G X D : Nat → Nat) (B : Nat → Nat → Int) (bu : Nat → Nat) (LG : Nat → Int) (LC : Nat → Nat) (ch : Nat → Int) (v : Int32) (hn : n ≤ 12) : Met l yR_is wdR_is ({ frames := 1, cells := 0, slots := 0, locals := 22 }) (roP (dC, dI) mcCl (mcWR w cI cZ th n C G X D B bu LG LC ch) (mcTR cI cZ) [.ref (w 0), .int v]) (vp_Si (fun z9 => mcZ (∃ k, k < n ∧ v = nI k) z9)) 0 0 (fun _ => False) := by
  refine Met.ofW (cc := bR_is) (maxL := 2) (ret := (some FieldType.boolean)) (by decide) rfl ?_
  intro p e s m args below meth c s₁ BB hml hv
  obtain ⟨rfl, hP, hK⟩ := hv
  have hx := BB.exec
  have hb := BB.bytes
  have hr := BB.returns
  have hts := atoms_spec (ws := wdR_is) BB.pre
  have hown : s.vm.findClass RR = some m.cls := findClass_of_methodNamed BB.named
  have hlocks := BB.notSynchronized
  have hl := lv_entry ([.ref (w 0), .int v]) (n := 2) (Nat.le_of_ble_eq_true rfl)
  rw [lg_entry_eq]
  generalize (lg_sl ([.ref (w 0), .int v]) ++ List.replicate (2 - (lg_sl ([.ref (w 0), .int v])).length) Slot.unset).toArray = ls at hl ⊢
  have hl : lv_has ls 2 [(0, .ref (w 0)), (1, .int v)] := hl
  refine lv_iload_n hx hb dR_is_0 rfl (lv_at hl 1 rfl) ?_
  refine lv_iconst (v := 0) hx hb dR_is_1 (by decide) ?_
  refine lv_aload_n hx hb dR_is_2 rfl (lv_at hl 0 rfl) ?_
  refine va_get (D := (dC, dI)) (ci := 4) (C := RR) (T := FR) (N := 11) hx hb hts (fun w h => List.mem_cons_of_mem _ (inR w h)) hown hK hP 0 rfl rfl 1 (by decide) (hts _ (List.mem_cons_of_mem _ kw460)) (fun _ h9 => h9) rfl dR_is_3 ?_
  refine lv_iconst (v := 1) hx hb dR_is_6 (by decide) ?_
  refine lv_isub hx hb dR_is_7 ?_
  refine callRS (As := [.int v, .int 0, .int ((nI n) - 1)]) (rest := []) ⟨hx, hb, hml, hown, hts⟩ tlB (c_R_in l v 0 ((nI n) - 1)) kw502 kw503 kw29 kw504 ⟨rfl, rfl⟩ (n := 3) (by decide +kernel) ⟨Nat.le_of_ble_eq_true rfl, Nat.le_of_ble_eq_true rfl⟩ (nwP_pre) rfl hl.1 rfl (Nat.le_of_ble_eq_true rfl) ⟨Nat.le_of_ble_eq_true rfl, Nat.le_of_ble_eq_true rfl⟩ dR_is_8 (fun r1 hr1 => ?_)
  unfold mcZ at hr1
  rw [mc_is hn] at hr1
  exact W.zret hx hb hr (mcZ_nar hr1) (fun t ht hW => ⟨_, rfl, hr1, ht⟩) (fun q hq => by cases hq) dR_is_11
theorem mc_isSet {n : Nat} (hn : n ≤ 12) (v : Int32) (h0 : ¬ v < 0) : v >>> (nI n &&& 31) = 0 ↔ ∃ S, S < 2 ^ n ∧ v = nI S := by
  obtain ⟨j, hj, rfl⟩ := nI_of h0
  have hp : 2 ^ n ≤ 2 ^ 12 := Nat.pow_le_pow_right (by decide) hn
  have hpp : 0 < 2 ^ n := Nat.pow_pos (by decide)
  have hd : j / 2 ^ n ≤ j := Nat.div_le_self _ _
  rw [nI_shr (by omega) hj, show (0 : Int32) = nI 0 from rfl, nI_eq (by omega) (by omega), Nat.div_eq_zero_iff]
  constructor
  · rintro (h | h)
    · omega
    · exact ⟨j, h, rfl⟩
  · rintro ⟨S, hS, e⟩
    have := (nI_eq hj (by omega)).mp e
    exact Or.inr (by omega)
set_option maxHeartbeats 4000000 in
set_option maxRecDepth 100000 in
theorem c_R_isSet (l : Launch) (dC : Nat → ClassId) (dI : Nat → Nat → Nat) (w : Nat → Nat) (cI cZ : ClassId) (th n : Nat) (C G X D : Nat → Nat) (B : Nat → Nat → Int) (bu : Nat → Nat) (LG : Nat → Int) (LC : Nat → Nat) (ch : Nat → Int) (v : Int32) (hn : n ≤ 12) : Met l yR_isSet wdR_isSet ({ frames := 0, cells := 0, slots := 0, locals := 0 }) (roP (dC, dI) mcCl (mcWR w cI cZ th n C G X D B bu LG LC ch) (mcTR cI cZ) [.ref (w 0), .int v]) (vp_Si (fun z9 => mcZ (∃ S, S < 2 ^ n ∧ v = nI S) z9)) 0 0 (fun _ => False) := by
  refine Met.ofW (cc := bR_isSet) (maxL := 2) (ret := (some FieldType.boolean)) (by decide) rfl ?_
  intro p e s m args below meth c s₁ BB hml hv
  obtain ⟨rfl, hP, hK⟩ := hv
  have hx := BB.exec
  have hb := BB.bytes
  have hr := BB.returns
  have hts := atoms_spec (ws := wdR_isSet) BB.pre
  have hown : s.vm.findClass RR = some m.cls := findClass_of_methodNamed BB.named
  have hlocks := BB.notSynchronized
  have hl := lv_entry ([.ref (w 0), .int v]) (n := 2) (Nat.le_of_ble_eq_true rfl)
  rw [lg_entry_eq]
  generalize (lg_sl ([.ref (w 0), .int v]) ++ List.replicate (2 - (lg_sl ([.ref (w 0), .int v])).length) Slot.unset).toArray = ls at hl ⊢
  have hl : lv_has ls 2 [(0, .ref (w 0)), (1, .int v)] := hl
  refine lv_iload_n hx hb dR_isSet_0 rfl (lv_at hl 1 rfl) ?_
  refine lv_if_lt (tgt := 17) hx hb dR_isSet_1 (by decide) (fun c1 => ?_) (fun c1 => ?_)
  ·
    refine lv_iconst (v := 0) hx hb dR_isSet_17 (by decide) ?_
    exact W.zret hx hb hr (rfl) (fun t ht hW => ⟨_, rfl, Or.inr ⟨rfl, fun ⟨S, h1, h2⟩ => by have hp : 2 ^ n ≤ 2 ^ 12 := Nat.pow_le_pow_right (by decide) hn; rw [h2] at c1; exact nI_pos (by omega) c1⟩, ht⟩) (fun q hq => by cases hq) dR_isSet_18
  ·
    refine lv_iload_n hx hb dR_isSet_4 rfl (lv_at hl 1 rfl) ?_
    refine lv_aload_n hx hb dR_isSet_5 rfl (lv_at hl 0 rfl) ?_
    refine va_get (D := (dC, dI)) (ci := 4) (C := RR) (T := FR) (N := 11) hx hb hts (fun w h => List.mem_cons_of_mem _ (inR w h)) hown hK hP 0 rfl rfl 1 (by decide) (hts _ (List.mem_cons_of_mem _ kw460)) (fun _ h9 => h9) rfl dR_isSet_6 ?_
    refine lv_ishr hx hb dR_isSet_9 ?_
    refine lv_if_ne (tgt := 17) hx hb dR_isSet_10 (by decide) (fun c2 => ?_) (fun c2 => ?_)
    · rw [mc_isSet hn v c1] at c2
      refine lv_iconst (v := 0) hx hb dR_isSet_17 (by decide) ?_
      exact W.zret hx hb hr (rfl) (fun t ht hW => ⟨_, rfl, Or.inr ⟨rfl, c2⟩, ht⟩) (fun q hq => by cases hq) dR_isSet_18
    · rw [mc_isSet hn v c1] at c2
      refine lv_iconst (v := 1) hx hb dR_isSet_13 (by decide) ?_
      refine lv_goto (tgt := 18) hx hb dR_isSet_14 (by decide) ?_
      exact W.zret hx hb hr (rfl) (fun t ht hW => ⟨_, rfl, Or.inl ⟨rfl, c2⟩, ht⟩) (fun q hq => by cases hq) dR_isSet_18
set_option maxHeartbeats 4000000 in
set_option maxRecDepth 100000 in
theorem c_R_costOf (l : Launch) (dC : Nat → ClassId) (dI : Nat → Nat → Nat) (w : Nat → Nat) (cI cZ : ClassId) (th n : Nat) (C G X D : Nat → Nat) (B : Nat → Nat → Int) (bu : Nat → Nat) (LG : Nat → Int) (LC : Nat → Nat) (ch : Nat → Int) (S : Nat) (hn : n ≤ 12) (hS : S < 2 ^ 31) : Met l yR_costOf wdR_costOf ({ frames := 1, cells := 0, slots := 0, locals := 21 }) (roP (dC, dI) mcCl (mcWR w cI cZ th n C G X D B bu LG LC ch) (mcTR cI cZ) [.ref (w 0), .int (nI S)]) (vp_Si (fun z9 => z9 = nI (mc_cost C S n))) 0 0 (fun _ => False) := by
  refine Met.ofW (cc := bR_costOf) (maxL := 4) (ret := (some FieldType.int)) (by decide) rfl ?_
  intro p e s m args below meth c s₁ BB hml hv
  obtain ⟨rfl, hP, hK⟩ := hv
  have hx := BB.exec
  have hb := BB.bytes
  have hr := BB.returns
  have hts := atoms_spec (ws := wdR_costOf) BB.pre
  have hown : s.vm.findClass RR = some m.cls := findClass_of_methodNamed BB.named
  have hlocks := BB.notSynchronized
  have hl := lv_entry ([.ref (w 0), .int (nI S)]) (n := 4) (Nat.le_of_ble_eq_true rfl)
  rw [lg_entry_eq]
  generalize (lg_sl ([.ref (w 0), .int (nI S)]) ++ List.replicate (4 - (lg_sl ([.ref (w 0), .int (nI S)])).length) Slot.unset).toArray = ls at hl ⊢
  have hl : lv_has ls 4 [(0, .ref (w 0)), (1, .int (nI S))] := hl
  refine lv_iconst (v := 0) hx hb dR_costOf_0 (by decide) ?_
  refine lv_istore_n (lv' := [(2, .int 0), (0, .ref (w 0)), (1, .int (nI S))]) hx hb dR_costOf_1 rfl hl (by decide) rfl (fun ls hl => ?_)
  refine lv_iconst (v := 0) hx hb dR_costOf_2 (by decide) ?_
  refine lv_istore_n (lv' := [(3, .int 0), (2, .int 0), (0, .ref (w 0)), (1, .int (nI S))]) hx hb dR_costOf_3 rfl hl (by decide) rfl (fun ls hl => ?_)
  refine lpR (σ := Nat) (fun k => k ≤ n) (fun k => [(0, .ref (w 0)), (1, .int (nI S)), (2, .int (nI (mc_cost C S k))), (3, .int (nI k))]) (fun k => n - k) (fun k ls hI hl ih => ?_) (0) ls (Nat.zero_le _) (lv_sub hl [2, 3, 1, 0] rfl)
  have hl : lv_has ls 4 [(0, .ref (w 0)), (1, .int (nI S)), (2, .int (nI (mc_cost C S k))), (3, .int (nI k))] := hl
  refine lv_iload_n hx hb dR_costOf_4 rfl (lv_at hl 3 rfl) ?_
  refine lv_aload_n hx hb dR_costOf_5 rfl (lv_at hl 0 rfl) ?_
  refine va_get (D := (dC, dI)) (ci := 4) (C := RR) (T := FR) (N := 11) hx hb hts (fun w h => List.mem_cons_of_mem _ (inR w h)) hown hK hP 0 rfl rfl 1 (by decide) (hts _ (List.mem_cons_of_mem _ kw460)) (fun _ h9 => h9) rfl dR_costOf_6 ?_
  refine lv_icmp_ge (tgt := 39) hx hb dR_costOf_9 (by decide) (fun c1 => ?_) (fun c1 => ?_)
  · have hkn : k = n := by have := (nI_leI (by omega) (by omega)).mp c1; omega
    subst hkn
    refine lv_iload_n hx hb dR_costOf_39 rfl (lv_at hl 2 rfl) ?_
    exact W.iret hx hb hr (fun t ht hW => ⟨_, rfl, rfl, ht⟩) (fun q hq => by cases hq) dR_costOf_40
  · have hkn : k < n := by
      rcases Nat.lt_or_ge k n with z | z
      · exact z
      · exact absurd (nI_le z (by omega)) c1
    refine lv_iload_n hx hb dR_costOf_12 rfl (lv_at hl 2 rfl) ?_
    refine lv_iload_n hx hb dR_costOf_13 rfl (lv_at hl 1 rfl) ?_
    refine lv_iload_n hx hb dR_costOf_14 rfl (lv_at hl 3 rfl) ?_
    refine callRS (As := [.int (nI S), .int (nI k)]) (rest := [.int (nI (mc_cost C S k))]) ⟨hx, hb, hml, hown, hts⟩ tlB (c_R_has l S k hS (by omega)) kw537 kw538 kw29 kw539 ⟨rfl, rfl⟩ (n := 2) (by decide +kernel) ⟨Nat.le_of_ble_eq_true rfl, Nat.le_of_ble_eq_true rfl⟩ (nwP_pre) rfl hl.1 rfl (Nat.le_of_ble_eq_true rfl) ⟨Nat.le_of_ble_eq_true rfl, Nat.le_of_ble_eq_true rfl⟩ dR_costOf_15 (fun r1 hr1 => ?_)
    refine lv_if_eq (tgt := 30) hx hb dR_costOf_18 (by decide) (fun c2 => ?_) (fun c2 => ?_)
    · rw [hr1, bZ_0] at c2
      refine lv_iconst (v := 0) hx hb dR_costOf_30 (by decide) ?_
      refine lv_iadd hx hb dR_costOf_31 ?_
      refine lv_topi (fun y1 ey1 => ?_)
      have hy1 : y1 = nI (mc_cost C S (k + 1)) := by rw [ey1, show (0 : Int32) = nI 0 from rfl, nI_add]; simp [mc_cost, c2]
      subst hy1
      refine lv_istore_n (lv' := [(2, .int (nI (mc_cost C S (k + 1)))), (0, .ref (w 0)), (1, .int (nI S)), (3, .int (nI k))]) hx hb dR_costOf_32 rfl hl (by decide) rfl (fun ls hl => ?_)
      refine lv_iinc (v := (nI (k + 1))) (lv' := [(3, .int (nI (k + 1))), (2, .int (nI (mc_cost C S (k + 1)))), (0, .ref (w 0)), (1, .int (nI S))]) hx hb dR_costOf_33 hl (k := 3) rfl (nI_1 k) (by decide) rfl (fun ls hl => ?_)
      refine lv_goto (tgt := 4) hx hb dR_costOf_36 (by decide) ?_
      exact ih (k + 1) ls (hkn) (by omega) (lv_sub hl [2, 3, 1, 0] rfl)
    · rw [hr1, bZ_0, Bool.not_eq_false] at c2
      refine lv_aload_n hx hb dR_costOf_21 rfl (lv_at hl 0 rfl) ?_
      refine va_get (D := (dC, dI)) (ci := 4) (C := RR) (T := FR) (N := 11) hx hb hts (fun w h => List.mem_cons_of_mem _ (inR w h)) hown hK hP 0 rfl rfl 2 (by decide) (hts _ (List.mem_cons_of_mem _ kw461)) (fun _ h9 => h9) rfl dR_costOf_22 ?_
      refine lv_iload_n hx hb dR_costOf_25 rfl (lv_at hl 3 rfl) ?_
      refine ialdN hx hb hK hP 1 0 rfl rfl (k := k) (by omega) (by decide) (v := nI (C k)) rfl dR_costOf_26 ?_
      refine lv_goto (tgt := 31) hx hb dR_costOf_27 (by decide) ?_
      refine lv_iadd hx hb dR_costOf_31 ?_
      refine lv_topi (fun y2 ey2 => ?_)
      have hy2 : y2 = nI (mc_cost C S (k + 1)) := by rw [ey2, nI_add]; simp [mc_cost, c2]
      subst hy2
      refine lv_istore_n (lv' := [(2, .int (nI (mc_cost C S (k + 1)))), (0, .ref (w 0)), (1, .int (nI S)), (3, .int (nI k))]) hx hb dR_costOf_32 rfl hl (by decide) rfl (fun ls hl => ?_)
      refine lv_iinc (v := (nI (k + 1))) (lv' := [(3, .int (nI (k + 1))), (2, .int (nI (mc_cost C S (k + 1)))), (0, .ref (w 0)), (1, .int (nI S))]) hx hb dR_costOf_33 hl (k := 3) rfl (nI_1 k) (by decide) rfl (fun ls hl => ?_)
      refine lv_goto (tgt := 4) hx hb dR_costOf_36 (by decide) ?_
      exact ih (k + 1) ls (hkn) (by omega) (lv_sub hl [2, 3, 1, 0] rfl)
/-- the gains of the measures below k, the bonuses of k's own below j -/
def mc_gj (G : Nat → Nat) (B : Nat → Nat → Int) (S k j : Nat) : Int := mc_gain G B S k + (if S.testBit k = true then (G k : Int) + mc_bon (B k) S j else 0)
set_option maxHeartbeats 4000000 in
set_option maxRecDepth 100000 in
theorem c_R_gainOf (l : Launch) (dC : Nat → ClassId) (dI : Nat → Nat → Nat) (w : Nat → Nat) (cI cZ : ClassId) (th n : Nat) (C G X D : Nat → Nat) (B : Nat → Nat → Int) (bu : Nat → Nat) (LG : Nat → Int) (LC : Nat → Nat) (ch : Nat → Int) (S : Nat) (hn : n ≤ 12) (hS : S < 2 ^ 31) : Met l yR_gainOf wdR_gainOf ({ frames := 1, cells := 0, slots := 0, locals := 21 }) (roP (dC, dI) mcCl (mcWR w cI cZ th n C G X D B bu LG LC ch) (mcTR cI cZ) [.ref (w 0), .int (nI S)]) (vp_Si (fun z9 => z9 = iI (mc_gain G B S n))) 0 0 (fun _ => False) := by
  refine Met.ofW (cc := bR_gainOf) (maxL := 5) (ret := (some FieldType.int)) (by decide) rfl ?_
  intro p e s m args below meth c s₁ BB hml hv
  obtain ⟨rfl, hP, hK⟩ := hv
  have hx := BB.exec
  have hb := BB.bytes
  have hr := BB.returns
  have hts := atoms_spec (ws := wdR_gainOf) BB.pre
  have hown : s.vm.findClass RR = some m.cls := findClass_of_methodNamed BB.named
  have hlocks := BB.notSynchronized
  have hl := lv_entry ([.ref (w 0), .int (nI S)]) (n := 5) (Nat.le_of_ble_eq_true rfl)
  rw [lg_entry_eq]
  generalize (lg_sl ([.ref (w 0), .int (nI S)]) ++ List.replicate (5 - (lg_sl ([.ref (w 0), .int (nI S)])).length) Slot.unset).toArray = ls at hl ⊢
  have hl : lv_has ls 5 [(0, .ref (w 0)), (1, .int (nI S))] := hl
  refine lv_iconst (v := 0) hx hb dR_gainOf_0 (by decide) ?_
  refine lv_istore_n (lv' := [(2, .int 0), (0, .ref (w 0)), (1, .int (nI S))]) hx hb dR_gainOf_1 rfl hl (by decide) rfl (fun ls hl => ?_)
  refine lv_iconst (v := 0) hx hb dR_gainOf_2 (by decide) ?_
  refine lv_istore_n (lv' := [(3, .int 0), (2, .int 0), (0, .ref (w 0)), (1, .int (nI S))]) hx hb dR_gainOf_3 rfl hl (by decide) rfl (fun ls hl => ?_)
  refine lpR (σ := Nat) (fun k => k ≤ n) (fun k => [(0, .ref (w 0)), (1, .int (nI S)), (2, .int (iI (mc_gain G B S k))), (3, .int (nI k))]) (fun k => n - k) (fun k ls hI hl ih => ?_) (0) ls (Nat.zero_le _) (lv_sub hl [2, 3, 1, 0] rfl)
  have hl : lv_has ls 5 [(0, .ref (w 0)), (1, .int (nI S)), (2, .int (iI (mc_gain G B S k))), (3, .int (nI k))] := hl
  refine lv_iload_n hx hb dR_gainOf_4 rfl (lv_at hl 3 rfl) ?_
  refine lv_aload_n hx hb dR_gainOf_5 rfl (lv_at hl 0 rfl) ?_
  refine va_get (D := (dC, dI)) (ci := 4) (C := RR) (T := FR) (N := 11) hx hb hts (fun w h => List.mem_cons_of_mem _ (inR w h)) hown hK hP 0 rfl rfl 1 (by decide) (hts _ (List.mem_cons_of_mem _ kw460)) (fun _ h9 => h9) rfl dR_gainOf_6 ?_
  refine lv_icmp_ge (tgt := 90) hx hb dR_gainOf_9 (by decide) (fun c1 => ?_) (fun c1 => ?_)
  · have hkn : k = n := by have := (nI_leI (by omega) (by omega)).mp c1; omega
    subst hkn
    refine lv_iload_n hx hb dR_gainOf_90 rfl (lv_at hl 2 rfl) ?_
    exact W.iret hx hb hr (fun t ht hW => ⟨_, rfl, rfl, ht⟩) (fun q hq => by cases hq) dR_gainOf_91
  · have hkn : k < n := by
      rcases Nat.lt_or_ge k n with z | z
      · exact z
      · exact absurd (nI_le z (by omega)) c1
    refine lv_iload_n hx hb dR_gainOf_12 rfl (lv_at hl 2 rfl) ?_
    refine lv_iload_n hx hb dR_gainOf_13 rfl (lv_at hl 1 rfl) ?_
    refine lv_iload_n hx hb dR_gainOf_14 rfl (lv_at hl 3 rfl) ?_
    refine callRS (As := [.int (nI S), .int (nI k)]) (rest := [.int (iI (mc_gain G B S k))]) ⟨hx, hb, hml, hown, hts⟩ tlB (c_R_has l S k hS (by omega)) kw537 kw538 kw29 kw539 ⟨rfl, rfl⟩ (n := 2) (by decide +kernel) ⟨Nat.le_of_ble_eq_true rfl, Nat.le_of_ble_eq_true rfl⟩ (nwP_pre) rfl hl.1 rfl (Nat.le_of_ble_eq_true rfl) ⟨Nat.le_of_ble_eq_true rfl, Nat.le_of_ble_eq_true rfl⟩ dR_gainOf_15 (fun r1 hr1 => ?_)
    refine lv_if_eq (tgt := 30) hx hb dR_gainOf_18 (by decide) (fun c2 => ?_) (fun c2 => ?_)
    · rw [hr1, bZ_0] at c2
      refine lv_iconst (v := 0) hx hb dR_gainOf_30 (by decide) ?_
      refine lv_iadd hx hb dR_gainOf_31 ?_
      refine lv_topi (fun y1 ey1 => ?_)
      have hy1 : y1 = iI (mc_gj G B S k 0) := by rw [ey1, show (0 : Int32) = iI 0 from rfl, iI_add]; simp [mc_gj, c2]
      subst hy1
      refine lv_istore_n (lv' := [(2, .int (iI (mc_gj G B S k 0))), (0, .ref (w 0)), (1, .int (nI S)), (3, .int (nI k))]) hx hb dR_gainOf_32 rfl hl (by decide) rfl (fun ls hl => ?_)
      refine lv_iconst (v := 0) hx hb dR_gainOf_33 (by decide) ?_
      refine lv_istore (lv' := [(4, .int 0), (2, .int (iI (mc_gj G B S k 0))), (0, .ref (w 0)), (1, .int (nI S)), (3, .int (nI k))]) hx hb dR_gainOf_34 hl (by decide) rfl (fun ls hl => ?_)
      have ih9 := ih
      refine lpR (σ := Nat) (fun j => j ≤ k) (fun j => [(0, .ref (w 0)), (1, .int (nI S)), (2, .int (iI (mc_gj G B S k j))), (3, .int (nI k)), (4, .int (nI j))]) (fun j => k - j) (fun j ls hI hl ih => ?_) (0) ls (Nat.zero_le _) (lv_sub hl [2, 3, 1, 4, 0] rfl)
      have hl : lv_has ls 5 [(0, .ref (w 0)), (1, .int (nI S)), (2, .int (iI (mc_gj G B S k j))), (3, .int (nI k)), (4, .int (nI j))] := hl
      refine lv_iload hx hb dR_gainOf_36 (lv_at hl 4 rfl) ?_
      refine lv_iload_n hx hb dR_gainOf_38 rfl (lv_at hl 3 rfl) ?_
      refine lv_icmp_ge (tgt := 84) hx hb dR_gainOf_39 (by decide) (fun c3 => ?_) (fun c3 => ?_)
      · have hjn : j = k := by have := (nI_leI (by omega) (by omega)).mp c3; omega
        refine lv_iinc (v := (nI (k + 1))) (lv' := [(3, .int (nI (k + 1))), (0, .ref (w 0)), (1, .int (nI S)), (2, .int (iI (mc_gj G B S k j))), (4, .int (nI j))]) hx hb dR_gainOf_84 hl (k := 3) rfl (nI_1 k) (by decide) rfl (fun ls hl => ?_)
        refine lv_goto (tgt := 4) hx hb dR_gainOf_87 (by decide) ?_
        exact ih9 (k + 1) ls hkn (by omega) (lv_sub (l' := [(0, .ref (w 0)), (1, .int (nI S)), (2, .int (iI (mc_gain G B S (k + 1)))), (3, .int (nI (k + 1)))]) hl [1, 2, 3, 0] (by rw [hjn]; rfl))
      · have hjn : j < k := by
          rcases Nat.lt_or_ge j k with z | z
          · exact z
          · exact absurd (nI_le z (by omega)) c3
        refine lv_iload_n hx hb dR_gainOf_42 rfl (lv_at hl 2 rfl) ?_
        refine lv_iload_n hx hb dR_gainOf_43 rfl (lv_at hl 1 rfl) ?_
        refine lv_iload_n hx hb dR_gainOf_44 rfl (lv_at hl 3 rfl) ?_
        refine callRS (As := [.int (nI S), .int (nI k)]) (rest := [.int (iI (mc_gj G B S k j))]) ⟨hx, hb, hml, hown, hts⟩ tlB (c_R_has l S k hS (by omega)) kw537 kw538 kw29 kw539 ⟨rfl, rfl⟩ (n := 2) (by decide +kernel) ⟨Nat.le_of_ble_eq_true rfl, Nat.le_of_ble_eq_true rfl⟩ (nwP_pre) rfl hl.1 rfl (Nat.le_of_ble_eq_true rfl) ⟨Nat.le_of_ble_eq_true rfl, Nat.le_of_ble_eq_true rfl⟩ dR_gainOf_45 (fun r2 hr2 => ?_)
        refine lv_if_eq (tgt := 75) hx hb dR_gainOf_48 (by decide) (fun c4 => ?_) (fun c4 => ?_)
        ·
          refine lv_iconst (v := 0) hx hb dR_gainOf_75 (by decide) ?_
          refine lv_iadd hx hb dR_gainOf_76 ?_
          refine lv_topi (fun y2 ey2 => ?_)
          have hy2 : y2 = iI (mc_gj G B S k (j + 1)) := by rw [ey2, show (0 : Int32) = iI 0 from rfl, iI_add]; simp [mc_gj, c2]
          subst hy2
          refine lv_istore_n (lv' := [(2, .int (iI (mc_gj G B S k (j + 1)))), (0, .ref (w 0)), (1, .int (nI S)), (3, .int (nI k)), (4, .int (nI j))]) hx hb dR_gainOf_77 rfl hl (by decide) rfl (fun ls hl => ?_)
          refine lv_iinc (v := (nI (j + 1))) (lv' := [(4, .int (nI (j + 1))), (2, .int (iI (mc_gj G B S k (j + 1)))), (0, .ref (w 0)), (1, .int (nI S)), (3, .int (nI k))]) hx hb dR_gainOf_78 hl (k := 4) rfl (nI_1 j) (by decide) rfl (fun ls hl => ?_)
          refine lv_goto (tgt := 36) hx hb dR_gainOf_81 (by decide) ?_
          exact ih (j + 1) ls (hjn) (by omega) (lv_sub hl [2, 3, 1, 4, 0] rfl)
        · rw [hr2, bZ_0, Bool.not_eq_false, c2] at c4; cases c4
    · rw [hr1, bZ_0, Bool.not_eq_false] at c2
      refine lv_aload_n hx hb dR_gainOf_21 rfl (lv_at hl 0 rfl) ?_
      refine va_get (D := (dC, dI)) (ci := 4) (C := RR) (T := FR) (N := 11) hx hb hts (fun w h => List.mem_cons_of_mem _ (inR w h)) hown hK hP 0 rfl rfl 3 (by decide) (hts _ (List.mem_cons_of_mem _ kw462)) (fun _ h9 => h9) rfl dR_gainOf_22 ?_
      refine lv_iload_n hx hb dR_gainOf_25 rfl (lv_at hl 3 rfl) ?_
      refine ialdN hx hb hK hP 2 0 rfl rfl (k := k) (by omega) (by decide) (v := nI (G k)) rfl dR_gainOf_26 ?_
      refine lv_goto (tgt := 31) hx hb dR_gainOf_27 (by decide) ?_
      refine lv_iadd hx hb dR_gainOf_31 ?_
      refine lv_topi (fun y3 ey3 => ?_)
      have hy3 : y3 = iI (mc_gj G B S k 0) := by rw [ey3, ← iI_nat, iI_add]; simp [mc_gj, mc_bon, c2]
      subst hy3
      refine lv_istore_n (lv' := [(2, .int (iI (mc_gj G B S k 0))), (0, .ref (w 0)), (1, .int (nI S)), (3, .int (nI k))]) hx hb dR_gainOf_32 rfl hl (by decide) rfl (fun ls hl => ?_)
      refine lv_iconst (v := 0) hx hb dR_gainOf_33 (by decide) ?_
      refine lv_istore (lv' := [(4, .int 0), (2, .int (iI (mc_gj G B S k 0))), (0, .ref (w 0)), (1, .int (nI S)), (3, .int (nI k))]) hx hb dR_gainOf_34 hl (by decide) rfl (fun ls hl => ?_)
      have ih9 := ih
      refine lpR (σ := Nat) (fun j => j ≤ k) (fun j => [(0, .ref (w 0)), (1, .int (nI S)), (2, .int (iI (mc_gj G B S k j))), (3, .int (nI k)), (4, .int (nI j))]) (fun j => k - j) (fun j ls hI hl ih => ?_) (0) ls (Nat.zero_le _) (lv_sub hl [2, 3, 1, 4, 0] rfl)
      have hl : lv_has ls 5 [(0, .ref (w 0)), (1, .int (nI S)), (2, .int (iI (mc_gj G B S k j))), (3, .int (nI k)), (4, .int (nI j))] := hl
      refine lv_iload hx hb dR_gainOf_36 (lv_at hl 4 rfl) ?_
      refine lv_iload_n hx hb dR_gainOf_38 rfl (lv_at hl 3 rfl) ?_
      refine lv_icmp_ge (tgt := 84) hx hb dR_gainOf_39 (by decide) (fun c3 => ?_) (fun c3 => ?_)
      · have hjn : j = k := by have := (nI_leI (by omega) (by omega)).mp c3; omega
        refine lv_iinc (v := (nI (k + 1))) (lv' := [(3, .int (nI (k + 1))), (0, .ref (w 0)), (1, .int (nI S)), (2, .int (iI (mc_gj G B S k j))), (4, .int (nI j))]) hx hb dR_gainOf_84 hl (k := 3) rfl (nI_1 k) (by decide) rfl (fun ls hl => ?_)
        refine lv_goto (tgt := 4) hx hb dR_gainOf_87 (by decide) ?_
        exact ih9 (k + 1) ls hkn (by omega) (lv_sub (l' := [(0, .ref (w 0)), (1, .int (nI S)), (2, .int (iI (mc_gain G B S (k + 1)))), (3, .int (nI (k + 1)))]) hl [1, 2, 3, 0] (by rw [hjn]; rfl))
      · have hjn : j < k := by
          rcases Nat.lt_or_ge j k with z | z
          · exact z
          · exact absurd (nI_le z (by omega)) c3
        refine lv_iload_n hx hb dR_gainOf_42 rfl (lv_at hl 2 rfl) ?_
        refine lv_iload_n hx hb dR_gainOf_43 rfl (lv_at hl 1 rfl) ?_
        refine lv_iload_n hx hb dR_gainOf_44 rfl (lv_at hl 3 rfl) ?_
        refine callRS (As := [.int (nI S), .int (nI k)]) (rest := [.int (iI (mc_gj G B S k j))]) ⟨hx, hb, hml, hown, hts⟩ tlB (c_R_has l S k hS (by omega)) kw537 kw538 kw29 kw539 ⟨rfl, rfl⟩ (n := 2) (by decide +kernel) ⟨Nat.le_of_ble_eq_true rfl, Nat.le_of_ble_eq_true rfl⟩ (nwP_pre) rfl hl.1 rfl (Nat.le_of_ble_eq_true rfl) ⟨Nat.le_of_ble_eq_true rfl, Nat.le_of_ble_eq_true rfl⟩ dR_gainOf_45 (fun r2 hr2 => ?_)
        refine lv_if_eq (tgt := 75) hx hb dR_gainOf_48 (by decide) (fun c4 => ?_) (fun c4 => ?_)
        · rw [hr2, bZ_0, c2] at c4; cases c4
        ·
          refine lv_iload_n hx hb dR_gainOf_51 rfl (lv_at hl 1 rfl) ?_
          refine lv_iload hx hb dR_gainOf_52 (lv_at hl 4 rfl) ?_
          refine callRS (As := [.int (nI S), .int (nI j)]) (rest := [.int (iI (mc_gj G B S k j))]) ⟨hx, hb, hml, hown, hts⟩ tlB (c_R_has l S j hS (by omega)) kw537 kw538 kw29 kw539 ⟨rfl, rfl⟩ (n := 2) (by decide +kernel) ⟨Nat.le_of_ble_eq_true rfl, Nat.le_of_ble_eq_true rfl⟩ (nwP_pre) rfl hl.1 rfl (Nat.le_of_ble_eq_true rfl) ⟨Nat.le_of_ble_eq_true rfl, Nat.le_of_ble_eq_true rfl⟩ dR_gainOf_54 (fun r3 hr3 => ?_)
          refine lv_if_eq (tgt := 75) hx hb dR_gainOf_57 (by decide) (fun c5 => ?_) (fun c5 => ?_)
          · rw [hr3, bZ_0] at c5
            refine lv_iconst (v := 0) hx hb dR_gainOf_75 (by decide) ?_
            refine lv_iadd hx hb dR_gainOf_76 ?_
            refine lv_topi (fun y4 ey4 => ?_)
            have hy4 : y4 = iI (mc_gj G B S k (j + 1)) := by rw [ey4, show (0 : Int32) = iI 0 from rfl, iI_add]; simp [mc_gj, mc_bon, c2, c5]
            subst hy4
            refine lv_istore_n (lv' := [(2, .int (iI (mc_gj G B S k (j + 1)))), (0, .ref (w 0)), (1, .int (nI S)), (3, .int (nI k)), (4, .int (nI j))]) hx hb dR_gainOf_77 rfl hl (by decide) rfl (fun ls hl => ?_)
            refine lv_iinc (v := (nI (j + 1))) (lv' := [(4, .int (nI (j + 1))), (2, .int (iI (mc_gj G B S k (j + 1)))), (0, .ref (w 0)), (1, .int (nI S)), (3, .int (nI k))]) hx hb dR_gainOf_78 hl (k := 4) rfl (nI_1 j) (by decide) rfl (fun ls hl => ?_)
            refine lv_goto (tgt := 36) hx hb dR_gainOf_81 (by decide) ?_
            exact ih (j + 1) ls (hjn) (by omega) (lv_sub hl [2, 3, 1, 4, 0] rfl)
          · rw [hr3, bZ_0, Bool.not_eq_false] at c5
            refine lv_aload_n hx hb dR_gainOf_60 rfl (lv_at hl 0 rfl) ?_
            refine va_get (D := (dC, dI)) (ci := 4) (C := RR) (T := FR) (N := 11) hx hb hts (fun w h => List.mem_cons_of_mem _ (inR w h)) hown hK hP 0 rfl rfl 6 (by decide) (hts _ (List.mem_cons_of_mem _ kw465)) (fun _ h9 => h9) rfl dR_gainOf_61 ?_
            refine lv_bipush (v := 12) hx hb dR_gainOf_64 (by decide) ?_
            refine lv_iload_n hx hb dR_gainOf_66 rfl (lv_at hl 3 rfl) ?_
            refine lv_imul hx hb dR_gainOf_67 ?_
            refine lv_iload hx hb dR_gainOf_68 (lv_at hl 4 rfl) ?_
            refine lv_iadd hx hb dR_gainOf_70 ?_
            refine lv_topi (fun y5 ey5 => ?_)
            have hy5 : y5 = nI (12 * k + j) := by rw [ey5, show (12 : Int32) = nI 12 from rfl, pk_mul, nI_add]
            subst hy5
            refine ialdN hx hb hK hP 5 0 rfl rfl (k := (12 * k + j)) (by omega) (by decide) (v := iI (B k j)) (by rw [(mc_ix (a := k) (b := j) (by omega)).1, (mc_ix (a := k) (b := j) (by omega)).2]) dR_gainOf_71 ?_
            refine lv_goto (tgt := 76) hx hb dR_gainOf_72 (by decide) ?_
            refine lv_iadd hx hb dR_gainOf_76 ?_
            refine lv_topi (fun y6 ey6 => ?_)
            have hy6 : y6 = iI (mc_gj G B S k (j + 1)) := by rw [ey6, iI_add]; congr 1; simp [mc_gj, mc_bon, c2, c5]; omega
            subst hy6
            refine lv_istore_n (lv' := [(2, .int (iI (mc_gj G B S k (j + 1)))), (0, .ref (w 0)), (1, .int (nI S)), (3, .int (nI k)), (4, .int (nI j))]) hx hb dR_gainOf_77 rfl hl (by decide) rfl (fun ls hl => ?_)
            refine lv_iinc (v := (nI (j + 1))) (lv' := [(4, .int (nI (j + 1))), (2, .int (iI (mc_gj G B S k (j + 1)))), (0, .ref (w 0)), (1, .int (nI S)), (3, .int (nI k))]) hx hb dR_gainOf_78 hl (k := 4) rfl (nI_1 j) (by decide) rfl (fun ls hl => ?_)
            refine lv_goto (tgt := 36) hx hb dR_gainOf_81 (by decide) ?_
            exact ih (j + 1) ls (hjn) (by omega) (lv_sub hl [2, 3, 1, 4, 0] rfl)
end
section
/-! the reference: good, holds, closure -/
set_option maxHeartbeats 4000000 in
set_option maxRecDepth 100000 in
theorem c_R_good1 (l : Launch) (dC : Nat → ClassId) (dI : Nat → Nat → Nat) (w : Nat → Nat) (cI cZ : ClassId) (th n : Nat) (C G X D : Nat → Nat) (B : Nat → Nat → Int) (bu : Nat → Nat) (LG : Nat → Int) (LC : Nat → Nat) (ch : Nat → Int) (sz : Nat)  : Met l yR_good wdR_good ({ frames := 0, cells := 0, slots := 0, locals := 0 }) (wrP (dC, dI) mcCl (mcWR w cI cZ th n C G X D B bu LG LC ch) (mcTR cI cZ) sz [.ref (w 0), .int 1]) (va_Qi (fun z9 (_ : Unit) => z9 = 1) (fun _ t => va_P (dC, dI) mcCl (mcWR w cI cZ 0 n C G X D B bu LG LC ch) t.heap ∧ va_K (dC, dI) mcCl (mcTR cI cZ) t ∧ va_D (va_A (mcWR w cI cZ th n C G X D B bu LG LC ch) sz) (mcWR w cI cZ 0 n C G X D B bu LG LC ch)) (va_A (mcWR w cI cZ th n C G X D B bu LG LC ch) sz)) 0 0 (va_A (mcWR w cI cZ th n C G X D B bu LG LC ch) sz) := by
  refine Met.ofW (cc := bR_good) (maxL := 2) (ret := (some FieldType.boolean)) (by decide) rfl ?_
  intro p e s m args below meth c s₁ BB hml hv
  obtain ⟨rfl, hsz, hP, hK, hD0⟩ := hv
  have hx := BB.exec
  have hb := BB.bytes
  have hr := BB.returns
  have hts := atoms_spec (ws := wdR_good) BB.pre
  have hown : s.vm.findClass RR = some m.cls := findClass_of_methodNamed BB.named
  have hlocks := BB.notSynchronized
  subst hsz
  have hD := hD0.self (sz := s.heap.size)
  generalize hAe : va_A (mcWR w cI cZ th n C G X D B bu LG LC ch) s.heap.size = A at hD ⊢
  have hA : ∀ q : Nat, s.heap.size ≤ q → A q := fun q h => by rw [← hAe]; exact Or.inr h
  have hS : va_S A s.heap s.heap [] := va_S.rf
  have hl := lv_entry ([.ref (w 0), .int 1]) (n := 2) (Nat.le_of_ble_eq_true rfl)
  rw [lg_entry_eq]
  generalize (lg_sl ([.ref (w 0), .int 1]) ++ List.replicate (2 - (lg_sl ([.ref (w 0), .int 1])).length) Slot.unset).toArray = ls at hl ⊢
  have hl : lv_has ls 2 [(0, .ref (w 0)), (1, .int 1)] := hl
  refine lv_aload_n hx hb dR_good_0 rfl (lv_at hl 0 rfl) ?_
  refine lv_iload_n hx hb dR_good_1 rfl (lv_at hl 1 rfl) ?_
  refine lv_if_eq (tgt := 9) hx hb dR_good_2 (by decide) (fun c1 => ?_) (fun c1 => ?_)
  · exact absurd c1 (by decide)
  ·
    refine lv_iconst (v := 0) hx hb dR_good_5 (by decide) ?_
    refine lv_goto (tgt := 10) hx hb dR_good_6 (by decide) ?_
    refine lv_topi (fun y1 ey1 => ?_)
    have hy1 : y1 = nI 0 := by rw [ey1]; rfl
    subst hy1
    refine va_put (D := (dC, dI)) (ci := 4) (ty := .int) (C := RR) (T := FR) (N := 11) hx hb hts (fun w h => List.mem_cons_of_mem _ (inR w h)) tR tR_ok nR hown hK hP hD hS 0 rfl rfl 0 (by decide) (hts _ (List.mem_cons_of_mem _ kw459)) (fun _ h9 => h9) rfl (by decide +kernel) rfl rfl (Nat.le_of_ble_eq_true rfl) dR_good_10 (fun H locs hP hD hS => ?_)
    have hP : va_P (dC, dI) mcCl (mcWR w cI cZ 0 n C G X D B bu LG LC ch) H := hP
    have hD : va_D A (mcWR w cI cZ 0 n C G X D B bu LG LC ch) := hD
    refine lv_iload_n hx hb dR_good_13 rfl (lv_at hl 1 rfl) ?_
    exact W.zret (v := 1) hx hb hr (rfl) (fun t ht hW => ⟨⟨1, (), rfl, rfl, by rw [ht]; exact hP, va_K.moved hW.alike hK, hD⟩, hS.F ht⟩) hS.2.2 dR_good_14
set_option maxHeartbeats 4000000 in
set_option maxRecDepth 100000 in
theorem c_R_good0 (l : Launch) (dC : Nat → ClassId) (dI : Nat → Nat → Nat) (w : Nat → Nat) (cI cZ : ClassId) (th n : Nat) (C G X D : Nat → Nat) (B : Nat → Nat → Int) (bu : Nat → Nat) (LG : Nat → Int) (LC : Nat → Nat) (ch : Nat → Int) (sz : Nat)  : Met l yR_good wdR_good ({ frames := 0, cells := 0, slots := 0, locals := 0 }) (wrP (dC, dI) mcCl (mcWR w cI cZ th n C G X D B bu LG LC ch) (mcTR cI cZ) sz [.ref (w 0), .int 0]) (va_Qi (fun z9 (_ : Unit) => z9 = 0) (fun _ t => va_P (dC, dI) mcCl (mcWR w cI cZ 1 n C G X D B bu LG LC ch) t.heap ∧ va_K (dC, dI) mcCl (mcTR cI cZ) t ∧ va_D (va_A (mcWR w cI cZ th n C G X D B bu LG LC ch) sz) (mcWR w cI cZ 1 n C G X D B bu LG LC ch)) (va_A (mcWR w cI cZ th n C G X D B bu LG LC ch) sz)) 0 0 (va_A (mcWR w cI cZ th n C G X D B bu LG LC ch) sz) := by
  refine Met.ofW (cc := bR_good) (maxL := 2) (ret := (some FieldType.boolean)) (by decide) rfl ?_
  intro p e s m args below meth c s₁ BB hml hv
  obtain ⟨rfl, hsz, hP, hK, hD0⟩ := hv
  have hx := BB.exec
  have hb := BB.bytes
  have hr := BB.returns
  have hts := atoms_spec (ws := wdR_good) BB.pre
  have hown : s.vm.findClass RR = some m.cls := findClass_of_methodNamed BB.named
  have hlocks := BB.notSynchronized
  subst hsz
  have hD := hD0.self (sz := s.heap.size)
  generalize hAe : va_A (mcWR w cI cZ th n C G X D B bu LG LC ch) s.heap.size = A at hD ⊢
  have hA : ∀ q : Nat, s.heap.size ≤ q → A q := fun q h => by rw [← hAe]; exact Or.inr h
  have hS : va_S A s.heap s.heap [] := va_S.rf
  have hl := lv_entry ([.ref (w 0), .int 0]) (n := 2) (Nat.le_of_ble_eq_true rfl)
  rw [lg_entry_eq]
  generalize (lg_sl ([.ref (w 0), .int 0]) ++ List.replicate (2 - (lg_sl ([.ref (w 0), .int 0])).length) Slot.unset).toArray = ls at hl ⊢
  have hl : lv_has ls 2 [(0, .ref (w 0)), (1, .int 0)] := hl
  refine lv_aload_n hx hb dR_good_0 rfl (lv_at hl 0 rfl) ?_
  refine lv_iload_n hx hb dR_good_1 rfl (lv_at hl 1 rfl) ?_
  refine lv_if_eq (tgt := 9) hx hb dR_good_2 (by decide) (fun c1 => ?_) (fun c1 => ?_)
  ·
    refine lv_iconst (v := 1) hx hb dR_good_9 (by decide) ?_
    refine lv_topi (fun y1 ey1 => ?_)
    have hy1 : y1 = nI 1 := by rw [ey1]; rfl
    subst hy1
    refine va_put (D := (dC, dI)) (ci := 4) (ty := .int) (C := RR) (T := FR) (N := 11) hx hb hts (fun w h => List.mem_cons_of_mem _ (inR w h)) tR tR_ok nR hown hK hP hD hS 0 rfl rfl 0 (by decide) (hts _ (List.mem_cons_of_mem _ kw459)) (fun _ h9 => h9) rfl (by decide +kernel) rfl rfl (Nat.le_of_ble_eq_true rfl) dR_good_10 (fun H locs hP hD hS => ?_)
    have hP : va_P (dC, dI) mcCl (mcWR w cI cZ 1 n C G X D B bu LG LC ch) H := hP
    have hD : va_D A (mcWR w cI cZ 1 n C G X D B bu LG LC ch) := hD
    refine lv_iload_n hx hb dR_good_13 rfl (lv_at hl 1 rfl) ?_
    exact W.zret (v := 0) hx hb hr (rfl) (fun t ht hW => ⟨⟨0, (), rfl, rfl, by rw [ht]; exact hP, va_K.moved hW.alike hK, hD⟩, hS.F ht⟩) hS.2.2 dR_good_14
  · exact absurd (rfl : (0 : Int32) = 0) c1
/-- a set with measure a in it and what holds between a and b -/
def mc_hb (S : Nat) (X D : Nat → Nat) (a b : Nat) : Prop := ¬ (S.testBit b = true ∧ (X a).testBit b = true) ∧ (S.testBit b = true ∨ ¬ (D a).testBit b = true)
def mc_la (n S : Nat) (X D : Nat → Nat) (k : Nat) : Prop := ∀ a, a < k → S.testBit a = true → ∀ b, b < n → mc_hb S X D a b
theorem mc_la_law {n S : Nat} {X D : Nat → Nat} (hX : ∀ m j, (X m).testBit j = true → j < n) (hD : ∀ m j, (D m).testBit j = true → j < n) : mc_la n S X D n ↔ mc_law n X D S := by
  constructor
  · intro h m hm hb
    have h1 := h m hm hb
    constructor
    · apply Nat.eq_of_testBit_eq
      intro j
      rw [Nat.testBit_and, Nat.zero_testBit]
      cases hx : (X m).testBit j with
      | false => rfl
      | true =>
        have h2 := (h1 j (hX m j hx)).1
        cases hs : S.testBit j with
        | false => rfl
        | true => exact absurd ⟨hs, hx⟩ h2
    · apply Nat.eq_of_testBit_eq
      intro j
      rw [Nat.testBit_and]
      cases hd : (D m).testBit j with
      | false => rfl
      | true =>
        rcases (h1 j (hD m j hd)).2 with h2 | h2
        · rw [h2]; rfl
        · exact absurd hd h2
  · intro h a ha hb b hbn
    obtain ⟨h1, h2⟩ := h a ha hb
    constructor
    · rintro ⟨q1, q2⟩
      have := congrArg (fun x => x.testBit b) h1
      simp only [Nat.testBit_and, Nat.zero_testBit, q1, q2] at this
      cases this
    · cases hd : (D a).testBit b with
      | false => exact Or.inr (by simp)
      | true =>
        left
        have := congrArg (fun x => x.testBit b) h2
        simp only [Nat.testBit_and, hd, Bool.true_and] at this
        exact this
theorem mcZ_iff {P Q : Prop} {r : Int32} (h : P ↔ Q) (hr : mcZ P r) : mcZ Q r := by
  unfold mcZ at hr ⊢
  rw [← h]
  exact hr
theorem mcZ_01 {P : Prop} {r : Int32} (h : mcZ P r) : r = 0 ∨ r = 1 := by
  rcases h with ⟨h, -⟩ | ⟨h, -⟩ <;> simp [h]
set_option maxHeartbeats 4000000 in
set_option maxRecDepth 100000 in
theorem c_R_holds (l : Launch) (dC : Nat → ClassId) (dI : Nat → Nat → Nat) (w : Nat → Nat) (cI cZ : ClassId) (th n : Nat) (C G X D : Nat → Nat) (B : Nat → Nat → Int) (bu : Nat → Nat) (LG : Nat → Int) (LC : Nat → Nat) (ch : Nat → Int) (S : Nat) (hn : n ≤ 12) (hS : S < 2 ^ 31) (hXn : ∀ m j, (X m).testBit j = true → j < n) (hDn : ∀ m j, (D m).testBit j = true → j < n) : Met l yR_holds wdR_holds ({ frames := 1, cells := 0, slots := 0, locals := 21 }) (roP (dC, dI) mcCl (mcWR w cI cZ th n C G X D B bu LG LC ch) (mcTR cI cZ) [.ref (w 0), .int (nI S)]) (vp_Si (fun z9 => mcZ (mc_law n X D S) z9)) 0 0 (fun _ => False) := by
  refine Met.ofW (cc := bR_holds) (maxL := 5) (ret := (some FieldType.boolean)) (by decide) rfl ?_
  intro p e s m args below meth c s₁ BB hml hv
  obtain ⟨rfl, hP, hK⟩ := hv
  have hx := BB.exec
  have hb := BB.bytes
  have hr := BB.returns
  have hts := atoms_spec (ws := wdR_holds) BB.pre
  have hown : s.vm.findClass RR = some m.cls := findClass_of_methodNamed BB.named
  have hlocks := BB.notSynchronized
  have hl := lv_entry ([.ref (w 0), .int (nI S)]) (n := 5) (Nat.le_of_ble_eq_true rfl)
  rw [lg_entry_eq]
  generalize (lg_sl ([.ref (w 0), .int (nI S)]) ++ List.replicate (5 - (lg_sl ([.ref (w 0), .int (nI S)])).length) Slot.unset).toArray = ls at hl ⊢
  have hl : lv_has ls 5 [(0, .ref (w 0)), (1, .int (nI S))] := hl
  refine lv_iconst (v := 1) hx hb dR_holds_0 (by decide) ?_
  refine lv_istore_n (lv' := [(2, .int 1), (0, .ref (w 0)), (1, .int (nI S))]) hx hb dR_holds_1 rfl hl (by decide) rfl (fun ls hl => ?_)
  refine lv_iconst (v := 0) hx hb dR_holds_2 (by decide) ?_
  refine lv_istore_n (lv' := [(3, .int 0), (2, .int 1), (0, .ref (w 0)), (1, .int (nI S))]) hx hb dR_holds_3 rfl hl (by decide) rfl (fun ls hl => ?_)
  refine lpR (σ := Nat × Int32) (fun x => x.1 ≤ n ∧ mcZ (mc_la n S X D x.1) x.2) (fun x => [(0, .ref (w 0)), (1, .int (nI S)), (2, .int x.2), (3, .int (nI x.1))]) (fun x => n - x.1) (fun x ls hI hl ih => ?_) ((0, 1)) ls (⟨Nat.zero_le _, Or.inl ⟨rfl, fun a h => absurd h (Nat.not_lt_zero a)⟩⟩) (lv_sub hl [2, 3, 1, 0] rfl)
  obtain ⟨k, v2⟩ := x
  have hl : lv_has ls 5 [(0, .ref (w 0)), (1, .int (nI S)), (2, .int v2), (3, .int (nI k))] := hl
  obtain ⟨hk, hz⟩ := hI
  dsimp only at hk hz
  refine lv_iload_n hx hb dR_holds_4 rfl (lv_at hl 3 rfl) ?_
  refine lv_aload_n hx hb dR_holds_5 rfl (lv_at hl 0 rfl) ?_
  refine va_get (D := (dC, dI)) (ci := 4) (C := RR) (T := FR) (N := 11) hx hb hts (fun w h => List.mem_cons_of_mem _ (inR w h)) hown hK hP 0 rfl rfl 1 (by decide) (hts _ (List.mem_cons_of_mem _ kw460)) (fun _ h9 => h9) rfl dR_holds_6 ?_
  refine lv_icmp_ge (tgt := 102) hx hb dR_holds_9 (by decide) (fun c1 => ?_) (fun c1 => ?_)
  · have hkn : k = n := by have := (nI_leI (by omega) (by omega)).mp c1; omega
    rw [hkn] at hz
    have hz := mcZ_iff (mc_la_law hXn hDn) hz
    refine lv_iload_n hx hb dR_holds_102 rfl (lv_at hl 2 rfl) ?_
    exact W.zret hx hb hr (mcZ_nar hz) (fun t ht hW => ⟨_, rfl, hz, ht⟩) (fun q hq => by cases hq) dR_holds_103
  · have hkn : k < n := by
      rcases Nat.lt_or_ge k n with z | z
      · exact z
      · exact absurd (nI_le z (by omega)) c1
    have ih9 := ih
    refine lv_iconst (v := 0) hx hb dR_holds_12 (by decide) ?_
    refine lv_istore (lv' := [(4, .int 0), (0, .ref (w 0)), (1, .int (nI S)), (2, .int v2), (3, .int (nI k))]) hx hb dR_holds_13 hl (by decide) rfl (fun ls hl => ?_)
    refine lpR (σ := Nat × Int32) (fun x => x.1 ≤ n ∧ (x.1 = 0 ∨ S.testBit k = true) ∧ mcZ (mc_la n S X D k ∧ ∀ b, b < x.1 → mc_hb S X D k b) x.2) (fun x => [(0, .ref (w 0)), (1, .int (nI S)), (2, .int x.2), (3, .int (nI k)), (4, .int (nI x.1))]) (fun x => n - x.1) (fun x ls hI hl ih => ?_) ((0, v2)) ls (⟨Nat.zero_le _, Or.inl rfl, mcZ_iff ⟨fun h => ⟨h, fun b hb9 => absurd hb9 (Nat.not_lt_zero b)⟩, fun h => h.1⟩ hz⟩) (lv_sub hl [1, 2, 3, 4, 0] rfl)
    obtain ⟨j, v3⟩ := x
    have hl : lv_has ls 5 [(0, .ref (w 0)), (1, .int (nI S)), (2, .int v3), (3, .int (nI k)), (4, .int (nI j))] := hl
    obtain ⟨hj, hj0, hz⟩ := hI
    dsimp only at hj hj0 hz
    refine lv_iload hx hb dR_holds_15 (lv_at hl 4 rfl) ?_
    refine lv_aload_n hx hb dR_holds_17 rfl (lv_at hl 0 rfl) ?_
    refine va_get (D := (dC, dI)) (ci := 4) (C := RR) (T := FR) (N := 11) hx hb hts (fun w h => List.mem_cons_of_mem _ (inR w h)) hown hK hP 0 rfl rfl 1 (by decide) (hts _ (List.mem_cons_of_mem _ kw460)) (fun _ h9 => h9) rfl dR_holds_18 ?_
    refine lv_icmp_ge (tgt := 96) hx hb dR_holds_21 (by decide) (fun c2 => ?_) (fun c2 => ?_)
    · have hjn : j = n := by have := (nI_leI (by omega) (by omega)).mp c2; omega
      rw [hjn] at hz hj0
      have hbit : S.testBit k = true := by rcases hj0 with z | z; omega; exact z
      refine lv_iinc (v := (nI (k + 1))) (lv' := [(3, .int (nI (k + 1))), (0, .ref (w 0)), (1, .int (nI S)), (2, .int v3), (4, .int (nI j))]) hx hb dR_holds_96 hl (k := 3) rfl (nI_1 k) (by decide) rfl (fun ls hl => ?_)
      refine lv_goto (tgt := 4) hx hb dR_holds_99 (by decide) ?_
      exact ih9 (k + 1, v3) ls ⟨hkn, mcZ_iff ⟨fun h => lt_s h.1 (fun _ => h.2), fun h => ⟨fun a ha => h a (by omega), h k (by omega) hbit⟩⟩ hz⟩ (by dsimp only; omega) (lv_sub hl [1, 2, 3, 0] rfl)
    · have hjn : j < n := by
        rcases Nat.lt_or_ge j n with z | z
        · exact z
        · exact absurd (nI_le z (by omega)) c2
      refine lv_iload_n hx hb dR_holds_24 rfl (lv_at hl 1 rfl) ?_
      refine lv_iload_n hx hb dR_holds_25 rfl (lv_at hl 3 rfl) ?_
      refine callRS (As := [.int (nI S), .int (nI k)]) (rest := []) ⟨hx, hb, hml, hown, hts⟩ tlB (c_R_has l S k hS (by omega)) kw537 kw538 kw29 kw539 ⟨rfl, rfl⟩ (n := 2) (by decide +kernel) ⟨Nat.le_of_ble_eq_true rfl, Nat.le_of_ble_eq_true rfl⟩ (nwP_pre) rfl hl.1 rfl (Nat.le_of_ble_eq_true rfl) ⟨Nat.le_of_ble_eq_true rfl, Nat.le_of_ble_eq_true rfl⟩ dR_holds_26 (fun r1 hr1 => ?_)
      refine lv_if_eq (tgt := 96) hx hb dR_holds_29 (by decide) (fun c3 => ?_) (fun c3 => ?_)
      · rw [hr1, bZ_0] at c3
        have hj1 : j = 0 := by rcases hj0 with z | z; exact z; rw [c3] at z; cases z
        rw [hj1] at hz
        refine lv_iinc (v := (nI (k + 1))) (lv' := [(3, .int (nI (k + 1))), (0, .ref (w 0)), (1, .int (nI S)), (2, .int v3), (4, .int (nI j))]) hx hb dR_holds_96 hl (k := 3) rfl (nI_1 k) (by decide) rfl (fun ls hl => ?_)
        refine lv_goto (tgt := 4) hx hb dR_holds_99 (by decide) ?_
        exact ih9 (k + 1, v3) ls ⟨hkn, mcZ_iff ⟨fun h => lt_s h.1 (fun h9 => by rw [c3] at h9; cases h9), fun h => ⟨fun a ha => h a (by omega), fun b hb9 => absurd hb9 (Nat.not_lt_zero b)⟩⟩ hz⟩ (by dsimp only; omega) (lv_sub hl [1, 2, 3, 0] rfl)
      · rw [hr1, bZ_0, Bool.not_eq_false] at c3
        refine lv_iload_n hx hb dR_holds_32 rfl (lv_at hl 2 rfl) ?_
        refine lv_if_eq (tgt := 88) hx hb dR_holds_33 (by decide) (fun c4 => ?_) (fun c4 => ?_)
        · have hno := mcZ_f hz c4
          refine lv_iconst (v := 0) hx hb dR_holds_88 (by decide) ?_
          refine lv_istore_n (lv' := [(2, .int 0), (0, .ref (w 0)), (1, .int (nI S)), (3, .int (nI k)), (4, .int (nI j))]) hx hb dR_holds_89 rfl hl (by decide) rfl (fun ls hl => ?_)
          refine lv_iinc (v := (nI (j + 1))) (lv' := [(4, .int (nI (j + 1))), (2, .int 0), (0, .ref (w 0)), (1, .int (nI S)), (3, .int (nI k))]) hx hb dR_holds_90 hl (k := 4) rfl (nI_1 j) (by decide) rfl (fun ls hl => ?_)
          refine lv_goto (tgt := 15) hx hb dR_holds_93 (by decide) ?_
          exact ih (j + 1, 0) ls ⟨hjn, Or.inr c3, Or.inr ⟨rfl, fun h => hno ⟨h.1, fun b hb9 => h.2 b (by omega)⟩⟩⟩ (by dsimp only; omega) (lv_sub hl [2, 3, 1, 4, 0] rfl)
        · have hyes := mcZ_t hz c4
          refine lv_iload_n hx hb dR_holds_36 rfl (lv_at hl 1 rfl) ?_
          refine lv_iload hx hb dR_holds_37 (lv_at hl 4 rfl) ?_
          refine callRS (As := [.int (nI S), .int (nI j)]) (rest := []) ⟨hx, hb, hml, hown, hts⟩ tlB (c_R_has l S j hS (by omega)) kw537 kw538 kw29 kw539 ⟨rfl, rfl⟩ (n := 2) (by decide +kernel) ⟨Nat.le_of_ble_eq_true rfl, Nat.le_of_ble_eq_true rfl⟩ (nwP_pre) rfl hl.1 rfl (Nat.le_of_ble_eq_true rfl) ⟨Nat.le_of_ble_eq_true rfl, Nat.le_of_ble_eq_true rfl⟩ dR_holds_39 (fun r2 hr2 => ?_)
          refine lv_if_eq (tgt := 60) hx hb dR_holds_42 (by decide) (fun c5 => ?_) (fun c5 => ?_)
          · rw [hr2, bZ_0] at c5
            refine lv_iload_n hx hb dR_holds_60 rfl (lv_at hl 1 rfl) ?_
            refine lv_iload hx hb dR_holds_61 (lv_at hl 4 rfl) ?_
            refine callRS (As := [.int (nI S), .int (nI j)]) (rest := []) ⟨hx, hb, hml, hown, hts⟩ tlB (c_R_has l S j hS (by omega)) kw537 kw538 kw29 kw539 ⟨rfl, rfl⟩ (n := 2) (by decide +kernel) ⟨Nat.le_of_ble_eq_true rfl, Nat.le_of_ble_eq_true rfl⟩ (nwP_pre) rfl hl.1 rfl (Nat.le_of_ble_eq_true rfl) ⟨Nat.le_of_ble_eq_true rfl, Nat.le_of_ble_eq_true rfl⟩ dR_holds_63 (fun r4 hr4 => ?_)
            refine lv_if_ne (tgt := 84) hx hb dR_holds_66 (by decide) (fun c7 => ?_) (fun c7 => ?_)
            · rw [hr4, bZ_0, c5] at c7; exact absurd rfl c7
            ·
              refine lv_aload_n hx hb dR_holds_69 rfl (lv_at hl 0 rfl) ?_
              refine va_get (D := (dC, dI)) (ci := 4) (C := RR) (T := FR) (N := 11) hx hb hts (fun w h => List.mem_cons_of_mem _ (inR w h)) hown hK hP 0 rfl rfl 5 (by decide) (hts _ (List.mem_cons_of_mem _ kw464)) (fun _ h9 => h9) rfl dR_holds_70 ?_
              refine lv_bipush (v := 12) hx hb dR_holds_73 (by decide) ?_
              refine lv_iload_n hx hb dR_holds_75 rfl (lv_at hl 3 rfl) ?_
              refine lv_imul hx hb dR_holds_76 ?_
              refine lv_iload hx hb dR_holds_77 (lv_at hl 4 rfl) ?_
              refine lv_iadd hx hb dR_holds_79 ?_
              refine lv_topi (fun y1 ey1 => ?_)
              have hy1 : y1 = nI (12 * k + j) := by rw [ey1, show (12 : Int32) = nI 12 from rfl, pk_mul, nI_add]
              subst hy1
              refine zaldN hx hb hK hP 4 1 rfl rfl (k := (12 * k + j)) (by omega) (by decide) (v := bZ ((D k).testBit j)) (by rw [(mc_ix (a := k) (b := j) (by omega)).1, (mc_ix (a := k) (b := j) (by omega)).2]) dR_holds_80 ?_
              refine lv_if_ne (tgt := 88) hx hb dR_holds_81 (by decide) (fun c8 => ?_) (fun c8 => ?_)
              · rw [bZ_0, Bool.not_eq_false] at c8
                refine lv_iconst (v := 0) hx hb dR_holds_88 (by decide) ?_
                refine lv_istore_n (lv' := [(2, .int 0), (0, .ref (w 0)), (1, .int (nI S)), (3, .int (nI k)), (4, .int (nI j))]) hx hb dR_holds_89 rfl hl (by decide) rfl (fun ls hl => ?_)
                refine lv_iinc (v := (nI (j + 1))) (lv' := [(4, .int (nI (j + 1))), (2, .int 0), (0, .ref (w 0)), (1, .int (nI S)), (3, .int (nI k))]) hx hb dR_holds_90 hl (k := 4) rfl (nI_1 j) (by decide) rfl (fun ls hl => ?_)
                refine lv_goto (tgt := 15) hx hb dR_holds_93 (by decide) ?_
                exact ih (j + 1, 0) ls ⟨hjn, Or.inr c3, Or.inr ⟨rfl, fun h => by rcases (h.2 j (by omega)).2 with q | q; rw [c5] at q; cases q; exact q c8⟩⟩ (by dsimp only; omega) (lv_sub hl [2, 3, 1, 4, 0] rfl)
              · rw [bZ_0] at c8
                refine lv_iconst (v := 1) hx hb dR_holds_84 (by decide) ?_
                refine lv_goto (tgt := 89) hx hb dR_holds_85 (by decide) ?_
                refine lv_istore_n (lv' := [(2, .int 1), (0, .ref (w 0)), (1, .int (nI S)), (3, .int (nI k)), (4, .int (nI j))]) hx hb dR_holds_89 rfl hl (by decide) rfl (fun ls hl => ?_)
                refine lv_iinc (v := (nI (j + 1))) (lv' := [(4, .int (nI (j + 1))), (2, .int 1), (0, .ref (w 0)), (1, .int (nI S)), (3, .int (nI k))]) hx hb dR_holds_90 hl (k := 4) rfl (nI_1 j) (by decide) rfl (fun ls hl => ?_)
                refine lv_goto (tgt := 15) hx hb dR_holds_93 (by decide) ?_
                exact ih (j + 1, 1) ls ⟨hjn, Or.inr c3, Or.inl ⟨rfl, hyes.1, lt_s hyes.2 ⟨(fun q => by rw [c5] at q; cases q.1), Or.inr (by rw [c8]; simp)⟩⟩⟩ (by dsimp only; omega) (lv_sub hl [2, 3, 1, 4, 0] rfl)
          · rw [hr2, bZ_0, Bool.not_eq_false] at c5
            refine lv_aload_n hx hb dR_holds_45 rfl (lv_at hl 0 rfl) ?_
            refine va_get (D := (dC, dI)) (ci := 4) (C := RR) (T := FR) (N := 11) hx hb hts (fun w h => List.mem_cons_of_mem _ (inR w h)) hown hK hP 0 rfl rfl 4 (by decide) (hts _ (List.mem_cons_of_mem _ kw463)) (fun _ h9 => h9) rfl dR_holds_46 ?_
            refine lv_bipush (v := 12) hx hb dR_holds_49 (by decide) ?_
            refine lv_iload_n hx hb dR_holds_51 rfl (lv_at hl 3 rfl) ?_
            refine lv_imul hx hb dR_holds_52 ?_
            refine lv_iload hx hb dR_holds_53 (lv_at hl 4 rfl) ?_
            refine lv_iadd hx hb dR_holds_55 ?_
            refine lv_topi (fun y2 ey2 => ?_)
            have hy2 : y2 = nI (12 * k + j) := by rw [ey2, show (12 : Int32) = nI 12 from rfl, pk_mul, nI_add]
            subst hy2
            refine zaldN hx hb hK hP 3 1 rfl rfl (k := (12 * k + j)) (by omega) (by decide) (v := bZ ((X k).testBit j)) (by rw [(mc_ix (a := k) (b := j) (by omega)).1, (mc_ix (a := k) (b := j) (by omega)).2]) dR_holds_56 ?_
            refine lv_if_ne (tgt := 88) hx hb dR_holds_57 (by decide) (fun c6 => ?_) (fun c6 => ?_)
            · rw [bZ_0, Bool.not_eq_false] at c6
              refine lv_iconst (v := 0) hx hb dR_holds_88 (by decide) ?_
              refine lv_istore_n (lv' := [(2, .int 0), (0, .ref (w 0)), (1, .int (nI S)), (3, .int (nI k)), (4, .int (nI j))]) hx hb dR_holds_89 rfl hl (by decide) rfl (fun ls hl => ?_)
              refine lv_iinc (v := (nI (j + 1))) (lv' := [(4, .int (nI (j + 1))), (2, .int 0), (0, .ref (w 0)), (1, .int (nI S)), (3, .int (nI k))]) hx hb dR_holds_90 hl (k := 4) rfl (nI_1 j) (by decide) rfl (fun ls hl => ?_)
              refine lv_goto (tgt := 15) hx hb dR_holds_93 (by decide) ?_
              exact ih (j + 1, 0) ls ⟨hjn, Or.inr c3, Or.inr ⟨rfl, fun h => (h.2 j (by omega)).1 ⟨c5, c6⟩⟩⟩ (by dsimp only; omega) (lv_sub hl [2, 3, 1, 4, 0] rfl)
            · rw [bZ_0] at c6
              refine lv_iload_n hx hb dR_holds_60 rfl (lv_at hl 1 rfl) ?_
              refine lv_iload hx hb dR_holds_61 (lv_at hl 4 rfl) ?_
              refine callRS (As := [.int (nI S), .int (nI j)]) (rest := []) ⟨hx, hb, hml, hown, hts⟩ tlB (c_R_has l S j hS (by omega)) kw537 kw538 kw29 kw539 ⟨rfl, rfl⟩ (n := 2) (by decide +kernel) ⟨Nat.le_of_ble_eq_true rfl, Nat.le_of_ble_eq_true rfl⟩ (nwP_pre) rfl hl.1 rfl (Nat.le_of_ble_eq_true rfl) ⟨Nat.le_of_ble_eq_true rfl, Nat.le_of_ble_eq_true rfl⟩ dR_holds_63 (fun r4 hr4 => ?_)
              refine lv_if_ne (tgt := 84) hx hb dR_holds_66 (by decide) (fun c7 => ?_) (fun c7 => ?_)
              ·
                refine lv_iconst (v := 1) hx hb dR_holds_84 (by decide) ?_
                refine lv_goto (tgt := 89) hx hb dR_holds_85 (by decide) ?_
                refine lv_istore_n (lv' := [(2, .int 1), (0, .ref (w 0)), (1, .int (nI S)), (3, .int (nI k)), (4, .int (nI j))]) hx hb dR_holds_89 rfl hl (by decide) rfl (fun ls hl => ?_)
                refine lv_iinc (v := (nI (j + 1))) (lv' := [(4, .int (nI (j + 1))), (2, .int 1), (0, .ref (w 0)), (1, .int (nI S)), (3, .int (nI k))]) hx hb dR_holds_90 hl (k := 4) rfl (nI_1 j) (by decide) rfl (fun ls hl => ?_)
                refine lv_goto (tgt := 15) hx hb dR_holds_93 (by decide) ?_
                exact ih (j + 1, 1) ls ⟨hjn, Or.inr c3, Or.inl ⟨rfl, hyes.1, lt_s hyes.2 ⟨(fun q => by rw [c6] at q; cases q.2), Or.inl c5⟩⟩⟩ (by dsimp only; omega) (lv_sub hl [2, 3, 1, 4, 0] rfl)
              · rw [hr4, bZ_0, c5] at c7; cases c7
end
