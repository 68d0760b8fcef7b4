/-! the keys of all sets in order, and the merge that adds a measure -/
/-- f holds the N numbers of the kind K, growing -/
def mc_ord (N : Nat) (K : Nat → Nat) (f : Nat → Nat) : Prop :=
  (∀ i j, i < j → j < N → f i < f j) ∧ (∀ S, S < N → ∃ i, i < N ∧ f i = K S) ∧ (∀ i, i < N → ∃ S, S < N ∧ f i = K S)
/-- a merge under way: of the plain ones p, of the raised ones r are still to be laid; from p + r on the upper ones lie -/
def mc_mrg (N a p r : Nat) (f g : Nat → Nat) : Prop :=
  r ≤ p ∧ p ≤ N ∧ r ≤ N ∧ (∀ i, i < p → g i = f i) ∧ (∀ i j, p + r ≤ i → i < j → j < 2 * N → g i < g j) ∧
  (∀ j, p ≤ j → j < N → ∃ i, p + r ≤ i ∧ i < 2 * N ∧ g i = f j) ∧ (∀ j, r ≤ j → j < N → ∃ i, p + r ≤ i ∧ i < 2 * N ∧ g i = f j + a) ∧
  (∀ i, p + r ≤ i → i < 2 * N → (∃ j, p ≤ j ∧ j < N ∧ g i = f j) ∨ ∃ j, r ≤ j ∧ j < N ∧ g i = f j + a) ∧
  (∀ i j, p + r ≤ i → i < 2 * N → j < p → f j < g i) ∧ (∀ i j, p + r ≤ i → i < 2 * N → j < r → f j + a < g i)
theorem mc_mrg_0 {N a : Nat} {f : Nat → Nat} : mc_mrg N a N N f f := by
  refine ⟨Nat.le_refl _, Nat.le_refl _, Nat.le_refl _, fun _ _ => rfl, fun i j h1 h2 h3 => absurd h3 (by omega), fun j h1 h2 => absurd h2 (by omega), fun j h1 h2 => absurd h2 (by omega), fun i h1 h2 => absurd h2 (by omega), fun i j h1 h2 => absurd h2 (by omega), fun i j h1 h2 => absurd h2 (by omega)⟩
/-- the raised one is the larger -/
theorem mc_mrg_r {N a p r : Nat} {f g g' : Nat → Nat} (ho : ∀ i j, i < j → j < N → f i < f j) (h : mc_mrg N a p (r + 1) f g) (hp : 0 < p) (hc : f (p - 1) < f r + a) (hg : ∀ i, i ≠ p + r → g' i = g i) (hv : g' (p + r) = f r + a) : mc_mrg N a p r f g' := by
  obtain ⟨h1, h2, h3, h4, h5, h6, h7, h8, h9, h10⟩ := h
  have hmono : ∀ i j, i ≤ j → j < N → f i ≤ f j := fun i j hij hj => by
    rcases Nat.lt_or_ge i j with q | q
    · exact Nat.le_of_lt (ho i j q hj)
    · rw [show i = j by omega]; exact Nat.le_refl _
  refine ⟨by omega, h2, by omega, fun i hi => by rw [hg i (by omega)]; exact h4 i hi, ?_, ?_, ?_, ?_, ?_, ?_⟩
  · intro i j hi hij hj
    rw [hg j (by omega)]
    by_cases e : i = p + r
    · subst e
      rw [hv]
      exact h10 j r (by omega) hj (by omega)
    · rw [hg i e]
      exact h5 i j (by omega) hij hj
  · intro j hj1 hj2
    obtain ⟨i, i1, i2, i3⟩ := h6 j hj1 hj2
    exact ⟨i, by omega, i2, by rw [hg i (by omega)]; exact i3⟩
  · intro j hj1 hj2
    by_cases e : j = r
    · subst e
      exact ⟨p + j, by omega, by omega, hv⟩
    · obtain ⟨i, i1, i2, i3⟩ := h7 j (by omega) hj2
      exact ⟨i, by omega, i2, by rw [hg i (by omega)]; exact i3⟩
  · intro i hi1 hi2
    by_cases e : i = p + r
    · subst e
      exact Or.inr ⟨r, by omega, by omega, hv⟩
    · rw [hg i e]
      rcases h8 i (by omega) hi2 with ⟨j, j1, j2, j3⟩ | ⟨j, j1, j2, j3⟩
      · exact Or.inl ⟨j, j1, j2, j3⟩
      · exact Or.inr ⟨j, by omega, j2, j3⟩
  · intro i j hi1 hi2 hj
    by_cases e : i = p + r
    · subst e
      rw [hv]
      exact Nat.lt_of_le_of_lt (hmono j (p - 1) (by omega) (by omega)) hc
    · rw [hg i e]
      exact h9 i j (by omega) hi2 hj
  · intro i j hi1 hi2 hj
    by_cases e : i = p + r
    · subst e
      rw [hv]
      exact Nat.add_lt_add_right (ho j r hj (by omega)) a
    · rw [hg i e]
      exact h10 i j (by omega) hi2 (by omega)
/-- the plain one is the larger -/
theorem mc_mrg_p {N a p r : Nat} {f g g' : Nat → Nat} (ho : ∀ i j, i < j → j < N → f i < f j) (ha : 0 < a) (hne : ∀ i j, i < N → j < N → f i + a ≠ f j) (h : mc_mrg N a (p + 1) (r + 1) f g) (hc : ¬ f p < f r + a) (hg : ∀ i, i ≠ p + r + 1 → g' i = g i) (hv : g' (p + r + 1) = f p) : mc_mrg N a p (r + 1) f g' := by
  obtain ⟨h1, h2, h3, h4, h5, h6, h7, h8, h9, h10⟩ := h
  have hmono : ∀ i j, i ≤ j → j < N → f i ≤ f j := fun i j hij hj => by
    rcases Nat.lt_or_ge i j with q | q
    · exact Nat.le_of_lt (ho i j q hj)
    · rw [show i = j by omega]; exact Nat.le_refl _
  have hlt : f r + a < f p := by
    have := hne r p (by omega) (by omega)
    omega
  have hrp : r < p := by
    rcases Nat.lt_or_ge r p with q | q
    · exact q
    · have := hmono p r q (by omega)
      omega
  refine ⟨by omega, by omega, h3, fun i hi => by rw [hg i (by omega)]; exact h4 i (by omega), ?_, ?_, ?_, ?_, ?_, ?_⟩
  · intro i j hi hij hj
    rw [hg j (by omega)]
    by_cases e : i = p + r + 1
    · subst e
      rw [hv]
      exact h9 j p (by omega) hj (by omega)
    · rw [hg i e]
      exact h5 i j (by omega) hij hj
  · intro j hj1 hj2
    by_cases e : j = p
    · subst e
      exact ⟨j + r + 1, by omega, by omega, hv⟩
    · obtain ⟨i, i1, i2, i3⟩ := h6 j (by omega) hj2
      exact ⟨i, by omega, i2, by rw [hg i (by omega)]; exact i3⟩
  · intro j hj1 hj2
    obtain ⟨i, i1, i2, i3⟩ := h7 j hj1 hj2
    exact ⟨i, by omega, i2, by rw [hg i (by omega)]; exact i3⟩
  · intro i hi1 hi2
    by_cases e : i = p + r + 1
    · subst e
      exact Or.inl ⟨p, by omega, by omega, hv⟩
    · rw [hg i e]
      rcases h8 i (by omega) hi2 with ⟨j, j1, j2, j3⟩ | ⟨j, j1, j2, j3⟩
      · exact Or.inl ⟨j, by omega, j2, j3⟩
      · exact Or.inr ⟨j, j1, j2, j3⟩
  · intro i j hi1 hi2 hj
    by_cases e : i = p + r + 1
    · subst e
      rw [hv]
      exact ho j p hj (by omega)
    · rw [hg i e]
      exact h9 i j (by omega) hi2 (by omega)
  · intro i j hi1 hi2 hj
    by_cases e : i = p + r + 1
    · subst e
      rw [hv]
      exact Nat.lt_of_le_of_lt (Nat.add_le_add_right (hmono j r (by omega) (by omega)) a) hlt
    · rw [hg i e]
      exact h10 i j (by omega) hi2 hj
/-- the merge's end -/
theorem mc_mrg_end {N a p : Nat} {K K' f g : Nat → Nat} (hf : mc_ord N K f) (h : mc_mrg N a p 0 f g) (hK0 : ∀ S, S < N → K' S = K S) (hK1 : ∀ S, S < N → K' (N + S) = K S + a) : mc_ord (2 * N) K' g := by
  obtain ⟨h1, h2, h3, h4, h5, h6, h7, h8, h9, h10⟩ := h
  obtain ⟨o1, o2, o3⟩ := hf
  refine ⟨?_, ?_, ?_⟩
  · intro i j hij hj
    by_cases hjp : j < p
    · rw [h4 i (by omega), h4 j hjp]
      exact o1 i j hij (by omega)
    · by_cases hip : i < p
      · rw [h4 i hip]
        exact h9 j i (by omega) hj hip
      · exact h5 i j (by omega) hij hj
  · intro S hS
    by_cases hlo : S < N
    · obtain ⟨i, i1, i2⟩ := o2 S hlo
      rw [hK0 S hlo]
      by_cases hip : i < p
      · exact ⟨i, by omega, by rw [h4 i hip]; exact i2⟩
      · obtain ⟨k, k1, k2, k3⟩ := h6 i (by omega) i1
        exact ⟨k, k2, by rw [k3]; exact i2⟩
    · obtain ⟨i, i1, i2⟩ := o2 (S - N) (by omega)
      obtain ⟨k, k1, k2, k3⟩ := h7 i (by omega) i1
      refine ⟨k, k2, ?_⟩
      rw [k3, i2, ← hK1 (S - N) (by omega)]
      congr 1
      omega
  · intro i hi
    by_cases hip : i < p
    · obtain ⟨S, s1, s2⟩ := o3 i (by omega)
      exact ⟨S, by omega, by rw [h4 i hip, hK0 S s1]; exact s2⟩
    · rcases h8 i (by omega) hi with ⟨j, j1, j2, j3⟩ | ⟨j, j1, j2, j3⟩
      · obtain ⟨S, s1, s2⟩ := o3 j j2
        exact ⟨S, by omega, by rw [j3, hK0 S s1]; exact s2⟩
      · obtain ⟨S, s1, s2⟩ := o3 j j2
        exact ⟨N + S, by omega, by rw [j3, hK1 S s1, s2]⟩
/-! the sets that none beats, by cost: a ladder over those sets that have been looked at -/
def mc_key (c : Nat → Nat) (S : Nat) : Nat := c S * 4096 + S
def mc_lad (Pr : Nat → Prop) (c : Nat → Nat) (g : Nat → Int) (L : Nat → Prop) (R : Nat) (u : Nat → Nat) : Prop :=
  0 < R ∧ (∀ i j, i < j → j < R → c (u i) < c (u j) ∧ g (u i) < g (u j)) ∧ (∀ i, i < R → Pr (u i) ∧ L (u i)) ∧
  (∀ S, Pr S → L S → ∃ i, i < R ∧ c (u i) ≤ c S ∧ (g S < g (u i) ∨ (g S = g (u i) ∧ mc_key c (u i) ≤ mc_key c S)))
theorem mc_lad_0 {Pr : Nat → Prop} {c : Nat → Nat} {g : Nat → Int} {L : Nat → Prop} {u : Nat → Nat} (hu : Pr (u 0)) (hL : L (u 0)) (h : ∀ S, Pr S → S = u 0) : mc_lad Pr c g L 1 u := by
  refine ⟨by omega, fun i j h1 h2 => absurd h1 (by omega), fun i hi => ?_, fun S hS _ => ⟨0, by omega, ?_, Or.inr ?_⟩⟩
  · rw [show i = 0 by omega]; exact ⟨hu, hL⟩
  · rw [h S hS]; exact Nat.le_refl _
  · rw [h S hS]; exact ⟨rfl, Nat.le_refl _⟩
theorem mc_key_le {c : Nat → Nat} {S T : Nat} (h : mc_key c S < mc_key c T) (hT : T < 4096) : c S ≤ c T := by
  unfold mc_key at h
  omega
theorem mc_lad_skip {Pr Pr' : Nat → Prop} {c : Nat → Nat} {g : Nat → Int} {L : Nat → Prop} {R T : Nat} {u : Nat → Nat} (h : mc_lad Pr c g L R u) (hp : ∀ S, Pr' S ↔ Pr S ∨ S = T) (hk : ∀ S, Pr S → mc_key c S < mc_key c T) (hT : T < 4096)
    (hs : L T → g T ≤ g (u (R - 1))) : mc_lad Pr' c g L R u := by
  obtain ⟨h1, h2, h3, h4⟩ := h
  refine ⟨h1, h2, fun i hi => ⟨(hp _).mpr (Or.inl (h3 i hi).1), (h3 i hi).2⟩, fun S hS hL => ?_⟩
  rcases (hp S).mp hS with q | q
  · exact h4 S q hL
  · subst q
    have hkk := hk _ (h3 (R - 1) (by omega)).1
    refine ⟨R - 1, by omega, mc_key_le hkk hT, ?_⟩
    have := hs hL
    rcases Int.lt_or_eq_of_le this with q | q
    · exact Or.inl q
    · exact Or.inr ⟨q, Nat.le_of_lt hkk⟩
theorem mc_lad_push {Pr Pr' : Nat → Prop} {c : Nat → Nat} {g : Nat → Int} {L : Nat → Prop} {R T : Nat} {u u' : Nat → Nat} (h : mc_lad Pr c g L R u) (hp : ∀ S, Pr' S ↔ Pr S ∨ S = T) (hL : L T) (hg : g (u (R - 1)) < g T) (hc : c (u (R - 1)) < c T)
    (hu : ∀ i, i < R → u' i = u i) (hv : u' R = T) : mc_lad Pr' c g L (R + 1) u' := by
  obtain ⟨h1, h2, h3, h4⟩ := h
  refine ⟨by omega, fun i j hij hj => ?_, fun i hi => ?_, fun S hS hLS => ?_⟩
  · rw [hu i (by omega)]
    by_cases e : j = R
    · subst e
      rw [hv]
      by_cases e2 : i = j - 1
      · subst e2; exact ⟨hc, hg⟩
      · have := h2 i (j - 1) (by omega) (by omega)
        exact ⟨by omega, by omega⟩
    · rw [hu j (by omega)]
      exact h2 i j hij (by omega)
  · by_cases e : i = R
    · subst e
      rw [hv]
      exact ⟨(hp T).mpr (Or.inr rfl), hL⟩
    · rw [hu i (by omega)]
      exact ⟨(hp _).mpr (Or.inl (h3 i (by omega)).1), (h3 i (by omega)).2⟩
  · rcases (hp S).mp hS with q | q
    · obtain ⟨i, i1, i2, i3⟩ := h4 S q hLS
      exact ⟨i, by omega, by rw [hu i i1]; exact i2, by rw [hu i i1]; exact i3⟩
    · subst q
      exact ⟨R, by omega, by rw [hv]; exact Nat.le_refl _, Or.inr ⟨by rw [hv], by rw [hv]; exact Nat.le_refl _⟩⟩
theorem mc_lad_top {Pr Pr' : Nat → Prop} {c : Nat → Nat} {g : Nat → Int} {L : Nat → Prop} {R T : Nat} {u u' : Nat → Nat} (h : mc_lad Pr c g L R u) (hp : ∀ S, Pr' S ↔ Pr S ∨ S = T) (hk : ∀ S, Pr S → mc_key c S < mc_key c T) (hT : T < 4096) (hL : L T) (hg : g (u (R - 1)) < g T) (hc : ¬ c (u (R - 1)) < c T)
    (hu : ∀ i, i < R - 1 → u' i = u i) (hv : u' (R - 1) = T) : mc_lad Pr' c g L R u' := by
  obtain ⟨h1, h2, h3, h4⟩ := h
  have hce : c (u (R - 1)) = c T := by
    have := mc_key_le (hk _ (h3 (R - 1) (by omega)).1) hT
    omega
  refine ⟨h1, fun i j hij hj => ?_, fun i hi => ?_, fun S hS hLS => ?_⟩
  · rw [hu i (by omega)]
    have := h2 i j hij hj
    by_cases e : j = R - 1
    · subst e
      rw [hv]
      exact ⟨by omega, by omega⟩
    · rw [hu j (by omega)]
      exact this
  · by_cases e : i = R - 1
    · subst e
      rw [hv]
      exact ⟨(hp T).mpr (Or.inr rfl), hL⟩
    · rw [hu i (by omega)]
      exact ⟨(hp _).mpr (Or.inl (h3 i (by omega)).1), (h3 i (by omega)).2⟩
  · rcases (hp S).mp hS with q | q
    · obtain ⟨i, i1, i2, i3⟩ := h4 S q hLS
      by_cases e : i = R - 1
      · subst e
        refine ⟨R - 1, by omega, by rw [hv]; omega, Or.inl ?_⟩
        rw [hv]
        rcases i3 with k | k <;> omega
      · exact ⟨i, by omega, by rw [hu i (by omega)]; exact i2, by rw [hu i (by omega)]; exact i3⟩
    · subst q
      exact ⟨R - 1, by omega, by rw [hv]; exact Nat.le_refl _, Or.inr ⟨by rw [hv], by rw [hv]; exact Nat.le_refl _⟩⟩
/-- the highest rung that a budget pays is the best set for it -/
theorem mc_lad_best {Pr : Nat → Prop} {c : Nat → Nat} {g : Nat → Int} {L : Nat → Prop} {R : Nat} {u : Nat → Nat} (h : mc_lad Pr c g L R u) {b r : Nat} (hr : r < R) (hn : ∀ j, r < j → j < R → b < c (u j)) {S : Nat} (hS : Pr S) (hL : L S) (hb : c S ≤ b) :
    g S < g (u r) ∨ (g S = g (u r) ∧ mc_key c (u r) ≤ mc_key c S) := by
  obtain ⟨h1, h2, h3, h4⟩ := h
  obtain ⟨i, i1, i2, i3⟩ := h4 S hS hL
  rcases Nat.lt_trichotomy i r with q | q | q
  · have := (h2 i r q hr).2
    left
    rcases i3 with k | k <;> omega
  · subst q; exact i3
  · have := hn i q i1
    omega
/-- the lowest rung with a gain has the least cost for it -/
theorem mc_lad_bud {Pr : Nat → Prop} {c : Nat → Nat} {g : Nat → Int} {L : Nat → Prop} {R : Nat} {u : Nat → Nat} (h : mc_lad Pr c g L R u) {z : Int} {r : Nat} (hr : r < R) (hn : ∀ j, j < r → g (u j) < z) {S : Nat} (hS : Pr S) (hL : L S) (hz : z ≤ g S) : c (u r) ≤ c S := by
  obtain ⟨h1, h2, h3, h4⟩ := h
  obtain ⟨i, i1, i2, i3⟩ := h4 S hS hL
  rcases Nat.lt_trichotomy i r with q | q | q
  · have := hn i q
    rcases i3 with k | k <;> omega
  · subst q; exact i2
  · have := (h2 r i q i1).1
    omega
theorem mc_lad_none {Pr : Nat → Prop} {c : Nat → Nat} {g : Nat → Int} {L : Nat → Prop} {R : Nat} {u : Nat → Nat} (h : mc_lad Pr c g L R u) {z : Int} (hn : ∀ j, j < R → g (u j) < z) {S : Nat} (hS : Pr S) (hL : L S) : g S < z := by
  obtain ⟨i, i1, i2, i3⟩ := h.2.2.2 S hS hL
  have := hn i i1
  rcases i3 with k | k <;> omega
/-- T beats S -/
def mc_beats (c : Nat → Nat) (g : Nat → Int) (T S : Nat) : Prop := g S ≤ g T ∧ c T ≤ c S ∧ ¬ (g T = g S ∧ c T = c S)
/-- S is lawful, no lawful set beats it -/
def mc_unb (Pr : Nat → Prop) (c : Nat → Nat) (g : Nat → Int) (L : Nat → Prop) (S : Nat) : Prop := Pr S ∧ L S ∧ ∀ T, Pr T → L T → ¬ mc_beats c g T S
/-- .. and it is the least of its cost -/
def mc_fr (Pr : Nat → Prop) (c : Nat → Nat) (g : Nat → Int) (L : Nat → Prop) (S : Nat) : Prop := mc_unb Pr c g L S ∧ ∀ T, mc_unb Pr c g L T → c T = c S → S ≤ T
theorem mc_lad_fr {Pr : Nat → Prop} {c : Nat → Nat} {g : Nat → Int} {L : Nat → Prop} {R : Nat} {u : Nat → Nat} (h : mc_lad Pr c g L R u) (i : Nat) (hi : i < R) : mc_fr Pr c g L (u i) := by
  obtain ⟨h1, h2, h3, h4⟩ := h
  have key : ∀ T, Pr T → L T → g (u i) ≤ g T → c T ≤ c (u i) → (g T = g (u i) ∧ c T = c (u i) ∧ mc_key c (u i) ≤ mc_key c T) := by
    intro T hT hL hg hc
    obtain ⟨j, j1, j2, j3⟩ := h4 T hT hL
    rcases Nat.lt_trichotomy i j with q | q | q
    · have := (h2 i j q j1).1
      omega
    · subst q
      rcases j3 with k | k
      · omega
      · exact ⟨k.1, by omega, k.2⟩
    · have := (h2 j i q hi).2
      rcases j3 with k | k <;> omega
  refine ⟨⟨(h3 i hi).1, (h3 i hi).2, fun T hT hL hb => ?_⟩, fun T hT hc => ?_⟩
  · obtain ⟨b1, b2, b3⟩ := hb
    have := key T hT hL b1 b2
    exact b3 ⟨this.1, this.2.1⟩
  · obtain ⟨t1, t2, t3⟩ := hT
    have hn := t3 (u i) (h3 i hi).1 (h3 i hi).2
    unfold mc_beats at hn
    have hg : g (u i) ≤ g T := by
      rcases Int.lt_or_le (g T) (g (u i)) with q | q
      · exact absurd ⟨by omega, by omega, fun z => by omega⟩ hn
      · exact q
    have := (key T t1 t2 hg (by omega)).2.2
    unfold mc_key at this
    omega
theorem mc_fr_lad {Pr : Nat → Prop} {c : Nat → Nat} {g : Nat → Int} {L : Nat → Prop} {R : Nat} {u : Nat → Nat} (h : mc_lad Pr c g L R u) {S : Nat} (hS : mc_fr Pr c g L S) : ∃ i, i < R ∧ u i = S := by
  obtain ⟨⟨s1, s2, s3⟩, s4⟩ := hS
  obtain ⟨i, i1, i2, i3⟩ := h.2.2.2 S s1 s2
  refine ⟨i, i1, ?_⟩
  have hn := s3 (u i) (h.2.2.1 i i1).1 (h.2.2.1 i i1).2
  unfold mc_beats at hn
  have hge : g S ≤ g (u i) := by rcases i3 with k | k <;> omega
  have he : g (u i) = g S ∧ c (u i) = c S := by
    by_cases e : g (u i) = g S ∧ c (u i) = c S
    · exact e
    · exact absurd ⟨hge, i2, e⟩ hn
  have hf := mc_lad_fr h i i1
  have h5 := hf.2 S ⟨s1, s2, s3⟩ he.2.symm
  have h6 := s4 (u i) hf.1 he.2
  omega
