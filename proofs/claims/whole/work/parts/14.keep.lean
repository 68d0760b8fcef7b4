/-! the ladder: what keepUnbeaten keeps, over numbers -/
def mc_K (C : Nat → Nat) (n S : Nat) : Nat := mc_key (fun S => mc_cost C S n) S
theorem mc_K_lt {C : Nat → Nat} {n S : Nat} (hC : ∀ m, C m ≤ 10000) (hn : n ≤ 12) (hS : S < 4096) : mc_K C n S < 536870912 := by
  have := mc_cost_le (S := S) hC n
  show mc_cost C S n * 4096 + S < 536870912
  omega
theorem mc_K_mod {C : Nat → Nat} {n S : Nat} (hS : S < 4096) : mc_K C n S % 4096 = S := by unfold mc_K mc_key; omega
theorem mc_K_div {C : Nat → Nat} {n S : Nat} (hS : S < 4096) : mc_K C n S / 4096 = mc_cost C S n := by show (mc_cost C S n * 4096 + S) / 4096 = _; omega
theorem mc_K_inj {C : Nat → Nat} {n S T : Nat} (hS : S < 4096) (hT : T < 4096) (h : mc_K C n S = mc_K C n T) : S = T := by
  have : mc_K C n S % 4096 = mc_K C n T % 4096 := by rw [h]
  rwa [mc_K_mod hS, mc_K_mod hT] at this
def mc_Lad (n : Nat) (C G X D : Nat → Nat) (B : Nat → Nat → Int) (R : Nat) (f : Nat → Nat) : Prop :=
  mc_lad (fun S => S < 2 ^ n) (fun S => mc_cost C S n) (fun S => mc_gain G B S n) (mc_law n X D) R (fun i => f i % 4096) ∧ (∀ i, i < R → f i = mc_K C n (f i % 4096)) ∧ R ≤ 2 ^ n
def mc_keep (n : Nat) (C G X D : Nat → Nat) (B : Nat → Nat → Int) (st : Nat → Nat) (k R : Nat) (f : Nat → Nat) : Prop :=
  1 ≤ k ∧ k ≤ 2 ^ n ∧ 0 < R ∧ R ≤ k ∧ mc_lad (fun S => S < 2 ^ n ∧ ∃ i, i < k ∧ st i = mc_K C n S) (fun S => mc_cost C S n) (fun S => mc_gain G B S n) (mc_law n X D) R (fun i => f i % 4096) ∧ (∀ i, i < R → f i = mc_K C n (f i % 4096)) ∧ (∀ i, k ≤ i → i < 2 ^ n → f i = st i)
theorem mc_K_0 (C : Nat → Nat) (n : Nat) : mc_K C n 0 = 0 := by
  have : ∀ k, mc_cost C 0 k = 0 := fun k => by
    induction k with
    | zero => rfl
    | succ k ih => simp [mc_cost, ih]
  simp [mc_K, mc_key, this]
theorem mc_ord_0 {n : Nat} {C st : Nat → Nat} (h : mc_ord (2 ^ n) (mc_K C n) st) : st 0 = 0 := by
  obtain ⟨i, hi, e⟩ := h.2.1 0 (Nat.pow_pos (by decide))
  rw [mc_K_0] at e
  rcases Nat.eq_zero_or_pos i with z | z
  · rw [z] at e; exact e
  · have := h.1 0 i z hi
    omega
theorem mc_keep_0 {n : Nat} {C G X D : Nat → Nat} {B : Nat → Nat → Int} {st : Nat → Nat} (hn : n ≤ 12) (h : mc_ord (2 ^ n) (mc_K C n) st) : mc_keep n C G X D B st 1 1 st := by
  have hp : 0 < 2 ^ n := Nat.pow_pos (by decide)
  have h0 := mc_ord_0 h
  refine ⟨Nat.le_refl _, hp, by omega, Nat.le_refl _, mc_lad_0 ⟨by show st 0 % 4096 < 2 ^ n; rw [h0]; exact hp, 0, by omega, by show st 0 = mc_K C n (st 0 % 4096); rw [h0]; exact (mc_K_0 C n).symm⟩ ?_ ?_, fun i hi => ?_, fun i _ _ => rfl⟩
  · show mc_law n X D (st 0 % 4096)
    rw [h0]
    intro m _ hb
    simp at hb
  · rintro S ⟨hS, i, hi, e⟩
    show S = st 0 % 4096
    rw [show i = 0 by omega] at e
    rw [e, mc_K_mod (mc_pow12 hn hS)]
  · rw [show i = 0 by omega, h0]
    exact (mc_K_0 C n).symm
theorem mc_keep_T {n : Nat} {C st : Nat → Nat} (hn : n ≤ 12) (h : mc_ord (2 ^ n) (mc_K C n) st) {k : Nat} (hk : k < 2 ^ n) : st k % 4096 < 2 ^ n ∧ st k = mc_K C n (st k % 4096) := by
  obtain ⟨S, hS, e⟩ := h.2.2 k hk
  rw [e, mc_K_mod (mc_pow12 hn hS)]
  exact ⟨hS, rfl⟩
theorem mc_keep_pr {n : Nat} {C st : Nat → Nat} (hn : n ≤ 12) (h : mc_ord (2 ^ n) (mc_K C n) st) {k : Nat} (hk : k < 2 ^ n) (S : Nat) : (S < 2 ^ n ∧ ∃ i, i < k + 1 ∧ st i = mc_K C n S) ↔ ((S < 2 ^ n ∧ ∃ i, i < k ∧ st i = mc_K C n S) ∨ S = st k % 4096) := by
  obtain ⟨t1, t2⟩ := mc_keep_T hn h hk
  constructor
  · rintro ⟨hS, i, hi, e⟩
    by_cases e2 : i = k
    · right
      subst e2
      rw [e, mc_K_mod (mc_pow12 hn hS)]
    · exact Or.inl ⟨hS, i, by omega, e⟩
  · rintro (⟨hS, i, hi, e⟩ | e)
    · exact ⟨hS, i, by omega, e⟩
    · rw [e]
      exact ⟨t1, k, by omega, t2⟩
theorem mc_keep_lt {n : Nat} {C st : Nat → Nat} (hn : n ≤ 12) (h : mc_ord (2 ^ n) (mc_K C n) st) {k : Nat} (hk : k < 2 ^ n) (S : Nat) (hS : S < 2 ^ n ∧ ∃ i, i < k ∧ st i = mc_K C n S) : mc_key (fun S => mc_cost C S n) S < mc_key (fun S => mc_cost C S n) (st k % 4096) := by
  obtain ⟨t1, t2⟩ := mc_keep_T hn h hk
  obtain ⟨-, i, hi, e⟩ := hS
  have := h.1 i k hi hk
  rw [e, t2] at this
  exact this
theorem mc_keep_skip {n : Nat} {C G X D : Nat → Nat} {B : Nat → Nat → Int} {st f : Nat → Nat} {k R : Nat} (hn : n ≤ 12) (ho : mc_ord (2 ^ n) (mc_K C n) st) (h : mc_keep n C G X D B st k R f) (hk : k < 2 ^ n)
    (hs : mc_law n X D (st k % 4096) → mc_gain G B (st k % 4096) n ≤ mc_gain G B (f (R - 1) % 4096) n) : mc_keep n C G X D B st (k + 1) R f := by
  obtain ⟨h1, h2, h3, h4, h5, h6, h7⟩ := h
  obtain ⟨t1, t2⟩ := mc_keep_T hn ho hk
  exact ⟨by omega, by omega, h3, by omega, mc_lad_skip h5 (mc_keep_pr hn ho hk) (mc_keep_lt hn ho hk) (mc_pow12 hn t1) hs, h6, fun i hi hi2 => h7 i (by omega) hi2⟩
theorem mc_keep_push {n : Nat} {C G X D : Nat → Nat} {B : Nat → Nat → Int} {st f f' : Nat → Nat} {k R : Nat} (hn : n ≤ 12) (ho : mc_ord (2 ^ n) (mc_K C n) st) (h : mc_keep n C G X D B st k R f) (hk : k < 2 ^ n)
    (hL : mc_law n X D (st k % 4096)) (hg : mc_gain G B (f (R - 1) % 4096) n < mc_gain G B (st k % 4096) n) (hc : mc_cost C (f (R - 1) % 4096) n < mc_cost C (st k % 4096) n)
    (hu : ∀ i, i ≠ R → f' i = f i) (hv : f' R = st k) : mc_keep n C G X D B st (k + 1) (R + 1) f' := by
  obtain ⟨h1, h2, h3, h4, h5, h6, h7⟩ := h
  obtain ⟨t1, t2⟩ := mc_keep_T hn ho hk
  refine ⟨by omega, by omega, by omega, by omega, mc_lad_push (u := fun i => f i % 4096) (T := st k % 4096) h5 (mc_keep_pr hn ho hk) hL hg hc (fun i hi => by show f' i % 4096 = f i % 4096; rw [hu i (by omega)]) (by show f' R % 4096 = st k % 4096; rw [hv]), fun i hi => ?_, fun i hi hi2 => ?_⟩
  · by_cases e : i = R
    · rw [e, hv]; exact t2
    · rw [hu i e]; exact h6 i (by omega)
  · rw [hu i (by omega)]; exact h7 i (by omega) hi2
theorem mc_keep_top {n : Nat} {C G X D : Nat → Nat} {B : Nat → Nat → Int} {st f f' : Nat → Nat} {k R : Nat} (hn : n ≤ 12) (ho : mc_ord (2 ^ n) (mc_K C n) st) (h : mc_keep n C G X D B st k R f) (hk : k < 2 ^ n)
    (hL : mc_law n X D (st k % 4096)) (hg : mc_gain G B (f (R - 1) % 4096) n < mc_gain G B (st k % 4096) n) (hc : ¬ mc_cost C (f (R - 1) % 4096) n < mc_cost C (st k % 4096) n)
    (hu : ∀ i, i ≠ R - 1 → f' i = f i) (hv : f' (R - 1) = st k) : mc_keep n C G X D B st (k + 1) R f' := by
  obtain ⟨h1, h2, h3, h4, h5, h6, h7⟩ := h
  obtain ⟨t1, t2⟩ := mc_keep_T hn ho hk
  refine ⟨by omega, by omega, by omega, by omega, mc_lad_top (u := fun i => f i % 4096) (T := st k % 4096) h5 (mc_keep_pr hn ho hk) (mc_keep_lt hn ho hk) (mc_pow12 hn t1) hL hg hc (fun i hi => by show f' i % 4096 = f i % 4096; rw [hu i (by omega)]) (by show f' (R - 1) % 4096 = st k % 4096; rw [hv]), fun i hi => ?_, fun i hi hi2 => ?_⟩
  · by_cases e : i = R - 1
    · rw [e, hv]; exact t2
    · rw [hu i e]; exact h6 i (by omega)
  · rw [hu i (by omega)]; exact h7 i (by omega) hi2
theorem mc_keep_end {n : Nat} {C G X D : Nat → Nat} {B : Nat → Nat → Int} {st f : Nat → Nat} {R : Nat} (ho : mc_ord (2 ^ n) (mc_K C n) st) (h : mc_keep n C G X D B st (2 ^ n) R f) : mc_Lad n C G X D B R f := by
  obtain ⟨h1, h2, h3, h4, h5, h6, h7⟩ := h
  refine ⟨⟨h5.1, h5.2.1, fun i hi => ⟨(h5.2.2.1 i hi).1.1, (h5.2.2.1 i hi).2⟩, fun S hS hL => h5.2.2.2 S ⟨hS, ho.2.1 S hS⟩ hL⟩, h6, h4⟩
theorem mc_keep_tl {n : Nat} {C G X D : Nat → Nat} {B : Nat → Nat → Int} {st f : Nat → Nat} {k R : Nat} (h : mc_keep n C G X D B st k R f) : f (R - 1) % 4096 < 2 ^ n := (h.2.2.2.2.1.2.2.1 (R - 1) (by have := h.2.2.1; omega)).1.1
