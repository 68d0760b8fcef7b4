/-! both sides answer alike -/
theorem mc_bud_uniq {n : Nat} {C G X D : Nat → Nat} {B : Nat → Nat → Int} {z : Int} {a b : Int32}
    (h : ((a = -1 ∧ ∀ T, T < 2 ^ n → mc_law n X D T → mc_gain G B T n < z) ∨ ∃ s9, s9 < 2 ^ n ∧ a = nI (mc_cost C s9 n) ∧ mc_law n X D s9 ∧ z ≤ mc_gain G B s9 n ∧ ∀ T, T < 2 ^ n → mc_law n X D T → z ≤ mc_gain G B T n → mc_cost C s9 n ≤ mc_cost C T n))
    (h' : ((b = -1 ∧ ∀ T, T < 2 ^ n → mc_law n X D T → mc_gain G B T n < z) ∨ ∃ s9, s9 < 2 ^ n ∧ b = nI (mc_cost C s9 n) ∧ mc_law n X D s9 ∧ z ≤ mc_gain G B s9 n ∧ ∀ T, T < 2 ^ n → mc_law n X D T → z ≤ mc_gain G B T n → mc_cost C s9 n ≤ mc_cost C T n)) : a = b := by
  rcases h with ⟨rfl, h⟩ | ⟨s, s1, rfl, s2, s3, s4⟩ <;> rcases h' with ⟨rfl, h'⟩ | ⟨t, t1, rfl, t2, t3, t4⟩
  · rfl
  · exact absurd (h t t1 t2) (by omega)
  · exact absurd (h' s s1 s2) (by omega)
  · rw [Nat.le_antisymm (s4 t t1 t2 t3) (t4 s s1 s2 s3)]
theorem mc_ds_uniq {n : Nat} {C G X D : Nat → Nat} {B : Nat → Nat → Int} {c0 : Nat} {g0 : Int} {K s t : Nat} (h : mc_ds n C G X D B c0 g0 K s) (h' : mc_ds n C G X D B c0 g0 K t) : s = t := by
  have a := h.2.2.2.2 t h'.1 h'.2.1 h'.2.2.1 h'.2.2.2.1
  have b := h'.2.2.2.2 s h.1 h.2.1 h.2.2.1 h.2.2.2.1
  omega
theorem mc_fro_uniq {n : Nat} {C G X D : Nat → Nat} {B : Nat → Nat → Int} (hn : n ≤ 12) : ∀ (k : Nat) (a b : Int32), mc_fro n C G X D B k a → mc_fro n C G X D B k b → a = b
  | 0, a, b, h, h' => by
    have h : a = 0 := h
    have h' : b = 0 := h'
    rw [h, h']
  | k + 1, a, b, h, h' => by
    have hp12 : 2 ^ n ≤ 2 ^ 12 := Nat.pow_le_pow_right (by decide) hn
    rcases h with ⟨h0, rfl⟩ | ⟨s, h0, s1, h⟩ <;> rcases h' with ⟨h0', rfl⟩ | ⟨t, h0', t1, h'⟩
    · rfl
    · exact absurd (mc_fro_uniq hn k _ _ h0' h0) (nI_nm1 (by omega))
    · exact absurd (mc_fro_uniq hn k _ _ h0 h0') (nI_nm1 (by omega))
    · have e := mc_fro_uniq hn k _ _ h0 h0'
      rw [nI_eq (by omega) (by omega)] at e
      subst e
      rcases h with ⟨rfl, h⟩ | ⟨s2, rfl, h⟩ <;> rcases h' with ⟨rfl, h'⟩ | ⟨t2, rfl, h'⟩
      · rfl
      · exact absurd h'.2.2.2.1 (h t2 h'.1 h'.2.1 h'.2.2.1)
      · exact absurd h.2.2.2.1 (h' s2 h.1 h.2.1 h.2.2.1)
      · rw [mc_ds_uniq h h']
theorem mcZ_uniq {P : Prop} {a b : Int32} (h : mcZ P a) (h' : mcZ P b) : a = b := by
  rcases h with ⟨h1, h2⟩ | ⟨h1, h2⟩ <;> rcases h' with ⟨k1, k2⟩ | ⟨k1, k2⟩
  · rw [h1, k1]
  · exact absurd h2 (by assumption)
  · exact absurd k2 (by assumption)
  · rw [h1, k1]
theorem mc_pick_congr {N : Nat} {ok ok' : Nat → Prop} {t t' : Nat → Int} {sp sp' : Nat → Nat} (h1 : ∀ S, S < N → (ok S ↔ ok' S)) (h2 : ∀ S, S < N → ok S → t S = t' S ∧ sp S = sp' S) {B r : Nat} (h : mc_pick N ok t sp B r) : mc_pick N ok' t' sp' B r := by
  obtain ⟨a1, a2, a3, a4⟩ := h
  refine ⟨a1, (h1 r a1).mp a2, a3, fun S hS ho hs => ?_⟩
  have ho' := (h1 S hS).mpr ho
  have := a4 S hS ho' hs
  rw [(h2 S hS ho').1, (h2 S hS ho').2, (h2 r a1 a2).1, (h2 r a1 a2).2] at this
  exact this
theorem mc_seq_congr {pk pk' : Nat → Nat → Nat → Prop} : ∀ (k f : Nat), (∀ y b f, y ≤ k → pk y b f → pk' y b f) → mc_seq pk k f → mc_seq pk' k f
  | 0, f, h, q => h 0 0 f (Nat.le_refl _) q
  | k + 1, f, h, q => by
    obtain ⟨b, q1, q2⟩ := q
    exact ⟨b, mc_seq_congr k b (fun y b f hy => h y b f (by omega)) q1, h (k + 1) b f (Nat.le_refl _) q2⟩
theorem mc_seq_uniq {pk : Nat → Nat → Nat → Prop} (hu : ∀ y b f f', pk y b f → pk y b f' → f = f') : ∀ (k f f' : Nat), mc_seq pk k f → mc_seq pk k f' → f = f'
  | 0, f, f', q, q' => hu 0 0 f f' q q'
  | k + 1, f, f', q, q' => by
    obtain ⟨b, q1, q2⟩ := q
    obtain ⟨b', q1', q2'⟩ := q'
    have e := mc_seq_uniq hu k b b' q1 q1'
    subst e
    exact hu _ _ _ _ q2 q2'
theorem mc_pur_mono {bu : Nat → Nat} {a b : Nat} (h : a ≤ b) : mc_pur bu a ≤ mc_pur bu b := by
  induction b with
  | zero => rw [show a = 0 by omega]; exact Nat.le_refl _
  | succ b ih =>
    by_cases e : a = b + 1
    · rw [e]; exact Nat.le_refl _
    · exact Nat.le_trans (ih (by omega)) (Nat.le_add_right _ _)
section MCPL
variable {n : Nat} {C G X D : Nat → Nat} {B : Nat → Nat → Int} {bu : Nat → Nat} {Y : Nat} {T : Nat → Nat → Int} {P : Nat → Nat → Nat} {pu pr : Nat → Nat} {ga : Nat → Int} {LG : Nat → Int} {LC : Nat → Nat} {ch : Nat → Int}
theorem mc_tie_ok (hp : mc_plan n C G X D B bu Y T P pu pr ga) (hbu : ∀ y, bu y ≤ 100000) {y : Nat} (hy : y < 4) (S : Nat) (hS : S < 2 ^ mc_m6 n) : pr S ≤ pu y ↔ mc_cost C S n ≤ mc_pur bu (y + 1) ∧ mc_law n X D S := by
  obtain ⟨h1, h2, -⟩ := hp
  have hb := mc_pur_le hbu (y + 1)
  rw [h1 y hy]
  by_cases e : mc_law n X D S
  · rw [(h2 S hS).1 e]
    exact ⟨fun z => ⟨z, e⟩, fun z => z.1⟩
  · rw [(h2 S hS).2.1 e]
    exact ⟨fun z => absurd z (by omega), fun z => absurd z.2 e⟩
theorem mc_tie (hp : mc_plan n C G X D B bu Y T P pu pr ga) (hr : mc_rp n C G X D B bu (2 ^ mc_m6 n) Y 0 LG LC ch) (hbu : ∀ y, bu y ≤ 100000) (hY4 : Y ≤ 4) : ∀ (k y : Nat), y + k + 1 = Y → ∀ S, S < 2 ^ mc_m6 n → pr S ≤ pu y → T y S = mc_gain G B S n + LG (64 * (y + 1) + S) ∧ P y S = LC (64 * (y + 1) + S) := by
  intro k
  induction k with
  | zero =>
    intro y hy S hS ho
    have ho2 := (mc_tie_ok hp hbu (by omega) S hS).mp ho
    obtain ⟨e1, e2⟩ := (hp.2.2 y (Nat.zero_le _) (by omega) S hS ho).1 (by omega)
    obtain ⟨r1, r2⟩ := hr.1 S hS
    rw [← show y + 1 = Y by omega] at r1 r2
    rw [e1, e2, r1, r2, (hp.2.1 S hS).2.2, (hp.2.1 S hS).1 ho2.2, Int.add_zero]
    exact ⟨rfl, rfl⟩
  | succ k ih =>
    intro y hy S hS ho
    have ho2 := (mc_tie_ok hp hbu (by omega) S hS).mp ho
    obtain ⟨f, p1, p2, p3⟩ := (hp.2.2 y (Nat.zero_le _) (by omega) S hS ho).2 (by omega)
    obtain ⟨f', -, q1, q2, q3⟩ := hr.2 (y + 1) (Nat.zero_le _) (by omega) S hS (Nat.le_trans ho2.1 (mc_pur_mono (by omega))) ho2.2
    have p1' := mc_pick_congr (fun U hU => mc_tie_ok hp hbu (y := y + 1) (by omega) U hU) (fun U hU hoU => ih (y + 1) (by omega) U hU hoU) p1
    have e := mc_pick_uniq p1' q1
    subst e
    obtain ⟨i1, i2⟩ := ih (y + 1) (by omega) f p1.1 p1.2.1
    rw [p2, p3, i1, i2, q2, q3, (hp.2.1 S hS).2.2]
    exact ⟨rfl, rfl⟩
theorem mc_tie_pk (hp : mc_plan n C G X D B bu Y T P pu pr ga) (hr : mc_rp n C G X D B bu (2 ^ mc_m6 n) Y 0 LG LC ch) (hbu : ∀ y, bu y ≤ 100000) (hY4 : Y ≤ 4) {y b f : Nat} (hy : y < Y) (h : mc_pick (2 ^ mc_m6 n) (fun S => pr S ≤ pu y) (T y) (P y) b f) : mc_rk n C G X D B bu (2 ^ mc_m6 n) LG LC y b f :=
  mc_pick_congr (fun U hU => mc_tie_ok hp hbu (y := y) (by omega) U hU) (fun U hU hoU => mc_tie hp hr hbu hY4 (Y - y - 1) y (by omega) U hU hoU) h
theorem mc_tie_plan (hp : mc_plan n C G X D B bu Y T P pu pr ga) (hr : mc_rp n C G X D B bu (2 ^ mc_m6 n) Y 0 LG LC ch) (hbu : ∀ y, bu y ≤ 100000) (hY4 : Y ≤ 4) {k f f' : Nat} (hk : k < Y) (h : mc_seq (fun y b f => mc_pick (2 ^ mc_m6 n) (fun S => pr S ≤ pu y) (T y) (P y) b f) k f) (h' : mc_seq (mc_rk n C G X D B bu (2 ^ mc_m6 n) LG LC) k f') : f = f' :=
  mc_seq_uniq (pk := mc_rk n C G X D B bu (2 ^ mc_m6 n) LG LC) (fun y b f f' q q' => mc_pick_uniq q q') k f f' (mc_seq_congr (pk := fun y b f => mc_pick (2 ^ mc_m6 n) (fun S => pr S ≤ pu y) (T y) (P y) b f) k f (fun y b f hy q => mc_tie_pk hp hr hbu hY4 (show y < Y by omega) q) h) h'
theorem mc_tie_planned (hp : mc_plan n C G X D B bu Y T P pu pr ga) (hr : mc_rp n C G X D B bu (2 ^ mc_m6 n) Y 0 LG LC ch) (hbu : ∀ y, bu y ≤ 100000) (hY1 : 1 ≤ Y) (hY4 : Y ≤ 4) {f : Nat} (h : mc_seq (fun y b f => mc_pick (2 ^ mc_m6 n) (fun S => pr S ≤ pu y) (T y) (P y) b f) 0 f) : T 0 f = LG 0 := by
  have h1 : mc_pick (2 ^ mc_m6 n) (fun S => pr S ≤ pu 0) (T 0) (P 0) 0 f := h
  obtain ⟨f', -, q1, q2, -⟩ := hr.2 0 (Nat.le_refl _) (by omega) 0 (Nat.pow_pos (by decide)) (by rw [mc_cost_zero]; exact Nat.zero_le _) mc_law_zero
  have e := mc_pick_uniq (mc_tie_pk hp hr hbu hY4 (by omega) h1) q1
  subst e
  rw [(mc_tie hp hr hbu hY4 (Y - 0 - 1) 0 (by omega) f h1.1 h1.2.1).1, ← q2]
end MCPL
/-- what holds between calls -/
def mcInv (n v : Nat) (C G X D : Nat → Nat) (B : Nat → Nat → Int) (bu : Nat → Nat) (la : mcLA) (i : Nat) : Prop :=
  n ≤ 12 ∧ (∀ m, m < n → 1 ≤ C m) ∧ (∀ m, C m ≤ 10000) ∧ (∀ m, G m ≤ 10000) ∧ (∀ i j, -5000 ≤ B i j ∧ B i j ≤ 5000) ∧ (∀ m j, (X m).testBit j = true → j < n) ∧ (∀ m j, (D m).testBit j = true → j < n) ∧ (∀ y, bu y ≤ 100000) ∧ mcIA n v C G X D B la ∧ v ≤ i
theorem mc_lt12 {n x : Nat} (hn : n ≤ 12) (h : ∀ j, x.testBit j = true → j < n) : x < 4096 := by
  have h1 : x < 2 ^ n := Nat.lt_pow_two_of_testBit _ (fun i hi => by
    cases e : x.testBit i
    · rfl
    · exact absurd (h i e) (by omega))
  exact mc_pow12 hn h1
theorem mcIA_next {n n' v : Nat} {C G X D C' G' X' D' : Nat → Nat} {B B' : Nat → Nat → Int} {la : mcLA} (h : mcIA n v C G X D B la) : mcIA n' (v + 1) C' G' X' D' B' la :=
  ⟨h.1, by have := h.2.1; omega, fun e => absurd e (by have := h.2.1; omega)⟩
theorem mcBit_bits {S k j n : Nat} {o : Int32} (hk : k < n) (hS : ∀ j, S.testBit j = true → j < n) (h : (mcBit S k o).testBit j = true) : j < n := by
  unfold mcBit at h
  split at h
  · rw [Nat.testBit_and, Bool.and_eq_true] at h
    exact hS j h.1
  · rw [Nat.testBit_or, Bool.or_eq_true] at h
    rcases h with h | h
    · exact hS j h
    · rw [Nat.testBit_two_pow] at h
      have := of_decide_eq_true h
      omega
theorem up_bits {X : Nat → Nat} {n k w : Nat} (hX : ∀ m j, (X m).testBit j = true → j < n) (hw : ∀ j, w.testBit j = true → j < n) : ∀ m j, (va_up X k w m).testBit j = true → j < n := by
  intro m j h
  unfold va_up at h
  split at h
  · exact hw j h
  · exact hX m j h
theorem up_le {f : Nat → Nat} {k w M : Nat} (hf : ∀ m, f m ≤ M) (hw : w ≤ M) : ∀ m, va_up f k w m ≤ M := by
  intro m
  unfold va_up
  split
  · exact hw
  · exact hf m
theorem B2_bd {B : Nat → Nat → Int} {i j : Nat} {z : Int} (hB : ∀ i j, -5000 ≤ B i j ∧ B i j ≤ 5000) (hz : -5000 ≤ z ∧ z ≤ 5000) : ∀ a b, -5000 ≤ mcB2 B i j z a b ∧ mcB2 B i j z a b ≤ 5000 := by
  intro a b
  unfold mcB2
  split
  · exact hz
  · exact hB a b
section MCST
variable {n v : Nat} {C G X D : Nat → Nat} {B : Nat → Nat → Int} {bu : Nat → Nat} {la : mcLA} {i : Nat}
theorem mcInv.mono {i' : Nat} (h : mcInv n v C G X D B bu la i) (hi : i ≤ i') : mcInv n v C G X D B bu la i' := ⟨h.1, h.2.1, h.2.2.1, h.2.2.2.1, h.2.2.2.2.1, h.2.2.2.2.2.1, h.2.2.2.2.2.2.1, h.2.2.2.2.2.2.2.1, h.2.2.2.2.2.2.2.2.1, Nat.le_trans h.2.2.2.2.2.2.2.2.2 hi⟩
theorem mcInv.la' {x : mcLA} (h : mcInv n v C G X D B bu la i) (hx : mcIA n v C G X D B x) : mcInv n v C G X D B bu x (i + 1) := ⟨h.1, h.2.1, h.2.2.1, h.2.2.2.1, h.2.2.2.2.1, h.2.2.2.2.2.1, h.2.2.2.2.2.2.1, h.2.2.2.2.2.2.2.1, hx, Nat.le_succ_of_le h.2.2.2.2.2.2.2.2.2⟩
theorem mcInv.measure {cv gv : Nat} (h : mcInv n v C G X D B bu la i) (hf : n < 12) (h1 : 1 ≤ cv ∧ cv ≤ 10000) (h2 : gv ≤ 10000) : mcInv (n + 1) (v + 1) (va_up C n cv) (va_up G n gv) X D B bu la (i + 1) := by
  obtain ⟨a1, a2, a3, a4, a5, a6, a7, a8, a9, a10⟩ := h
  refine ⟨by omega, fun m hm => ?_, up_le a3 h1.2, up_le a4 h2, a5, fun m j hj => by have := a6 m j hj; omega, fun m j hj => by have := a7 m j hj; omega, a8, mcIA_next a9, by omega⟩
  unfold va_up
  split
  · exact h1.1
  · exact a2 m (by omega)
theorem mcInv.change {mm cv gv : Nat} (h : mcInv n v C G X D B bu la i) (h1 : 1 ≤ cv ∧ cv ≤ 10000) (h2 : gv ≤ 10000) : mcInv n (v + 1) (va_up C mm cv) (va_up G mm gv) X D B bu la (i + 1) := by
  obtain ⟨a1, a2, a3, a4, a5, a6, a7, a8, a9, a10⟩ := h
  refine ⟨a1, fun m hm => ?_, up_le a3 h1.2, up_le a4 h2, a5, a6, a7, a8, mcIA_next a9, by omega⟩
  unfold va_up
  split
  · exact h1.1
  · exact a2 m (by omega)
theorem mcInv.exclude {mm oo : Nat} {on : Int32} (h : mcInv n v C G X D B bu la i) (hm : mm < n) (ho : oo < n) : mcInv n (v + 1) C G (va_up (va_up X mm (mcBit (X mm) oo on)) oo (mcBit ((va_up X mm (mcBit (X mm) oo on)) oo) mm on)) D B bu la (i + 1) := by
  obtain ⟨a1, a2, a3, a4, a5, a6, a7, a8, a9, a10⟩ := h
  have h1 := up_bits (k := mm) (w := mcBit (X mm) oo on) a6 (fun j hj => mcBit_bits ho (a6 mm) hj)
  exact ⟨a1, a2, a3, a4, a5, up_bits h1 (fun j hj => mcBit_bits hm (h1 oo) hj), a7, a8, mcIA_next a9, by omega⟩
theorem mcInv.needs {mm oo : Nat} {on : Int32} (h : mcInv n v C G X D B bu la i) (ho : oo < n) : mcInv n (v + 1) C G X (va_up D mm (mcBit (D mm) oo on)) B bu la (i + 1) := by
  obtain ⟨a1, a2, a3, a4, a5, a6, a7, a8, a9, a10⟩ := h
  exact ⟨a1, a2, a3, a4, a5, a6, up_bits (k := mm) (w := mcBit (D mm) oo on) a7 (fun j hj => mcBit_bits ho (a7 mm) hj), a8, mcIA_next a9, by omega⟩
theorem mcInv.bonus {mm oo : Nat} {z : Int} (h : mcInv n v C G X D B bu la i) (hz : -5000 ≤ z ∧ z ≤ 5000) : mcInv n (v + 1) C G X D (mcB2 (mcB2 B mm oo z) oo mm z) bu la (i + 1) := by
  obtain ⟨a1, a2, a3, a4, a5, a6, a7, a8, a9, a10⟩ := h
  exact ⟨a1, a2, a3, a4, B2_bd (B2_bd a5 hz) hz, a6, a7, a8, mcIA_next a9, by omega⟩
theorem mcInv.year {y b : Nat} (h : mcInv n v C G X D B bu la i) (hb : b ≤ 100000) : mcInv n v C G X D B (va_up bu y b) la (i + 1) := by
  obtain ⟨a1, a2, a3, a4, a5, a6, a7, a8, a9, a10⟩ := h
  exact ⟨a1, a2, a3, a4, a5, a6, a7, up_le a8 hb, a9, by omega⟩
theorem mcInv.new : mcInv 0 0 (fun _ => 0) (fun _ => 0) (fun _ => 0) (fun _ => 0) (fun _ _ => 0) (fun _ => 0) (0, -1, fun _ => 0, fun _ => 0) 0 :=
  ⟨by omega, fun m h => absurd h (Nat.not_lt_zero _), fun _ => by dsimp only; omega, fun _ => by dsimp only; omega, fun _ _ => by dsimp only; omega, fun m j h => by simp at h, fun m j h => by simp at h, fun _ => by dsimp only; omega, ⟨by decide, by decide, fun h => absurd h (by decide)⟩, Nat.le_refl _⟩
end MCST
