/-! the object: best, budget, worth, frontier, plan, planned, where the arguments are good -/
theorem mc_Lad_st {n : Nat} {C G X D : Nat → Nat} {B : Nat → Nat → Int} {R : Nat} {f : Nat → Nat} (h : mc_Lad n C G X D B R f) (hn : n ≤ 12) (hC : ∀ m, C m ≤ 10000) {i : Nat} (hi : i < R) : f i % 4096 < 2 ^ n ∧ f i < 536870912 ∧ f i / 4096 = mc_cost C (f i % 4096) n := by
  have h1 := (h.1.2.2.1 i hi).1
  have h12 := mc_pow12 hn h1
  have e := h.2.1 i hi
  refine ⟨h1, ?_, ?_⟩
  · rw [e]; exact mc_K_lt hC hn h12
  · conv => lhs; rw [e]
    exact mc_K_div h12
theorem mc_Lad_c0 {n : Nat} {C G X D : Nat → Nat} {B : Nat → Nat → Int} {R : Nat} {f : Nat → Nat} (h : mc_Lad n C G X D B R f) : mc_cost C (f 0 % 4096) n = 0 := by
  obtain ⟨h0, h1, h2, h3⟩ := h.1
  dsimp only at h1 h2 h3
  obtain ⟨i, i1, i2, -⟩ := h3 0 (Nat.pow_pos (by decide)) mc_law_zero
  rw [mc_cost_zero] at i2
  rcases Nat.eq_zero_or_pos i with z | z
  · rw [z] at i2; omega
  · have := (h1 0 i z i1).1
    omega
theorem mc_Lad_best {n : Nat} {C G X D : Nat → Nat} {B : Nat → Nat → Int} {R : Nat} {f : Nat → Nat} (h : mc_Lad n C G X D B R f) (hn : n ≤ 12) (hC : ∀ m, C m ≤ 10000) {b k : Nat} (hk : k < R) (h1 : 0 < k → f k / 4096 ≤ b) (h2 : k + 1 < R → b < f (k + 1) / 4096) : mc_bst n C G X D B b (2 ^ n) (f k % 4096) := by
  have hs := mc_Lad_st h hn hC hk
  refine ⟨hs.1, (h.1.2.2.1 k hk).2, ?_, fun T hT hL hc => mc_lad_best h.1 (b := b) hk (fun j hj hjR => ?_) hT hL hc⟩
  · rcases Nat.eq_zero_or_pos k with z | z
    · rw [z, mc_Lad_c0 h]; exact Nat.zero_le _
    · have := h1 z
      rw [hs.2.2] at this
      exact this
  · have h3 := h2 (by omega)
    rw [(mc_Lad_st h hn hC (show k + 1 < R by omega)).2.2] at h3
    rcases Nat.lt_or_ge (k + 1) j with z | z
    · exact Nat.lt_trans h3 (h.1.2.1 (k + 1) j z hjR).1
    · rw [show j = k + 1 by omega]; exact h3
theorem mc_cost_pos {C : Nat → Nat} {S : Nat} : ∀ n, (∀ m, m < n → 1 ≤ C m) → mc_cost C S n = 0 → ∀ m, m < n → S.testBit m = false
  | 0, _, _, m, hm => absurd hm (Nat.not_lt_zero m)
  | k + 1, hC, h, m, hm => by
    simp only [mc_cost] at h
    have h1 := hC k (by omega)
    cases hb : S.testBit k with
    | true => rw [hb] at h; simp at h; omega
    | false =>
      by_cases e : m = k
      · rw [e]; exact hb
      · exact mc_cost_pos k (fun m hm => hC m (by omega)) (by omega) m (by omega)
theorem mc_Lad_u0 {n : Nat} {C G X D : Nat → Nat} {B : Nat → Nat → Int} {R : Nat} {f : Nat → Nat} (h : mc_Lad n C G X D B R f) (hC1 : ∀ m, m < n → 1 ≤ C m) : f 0 % 4096 = 0 := by
  have h1 := (h.1.2.2.1 0 h.1.1).1
  apply Nat.eq_of_testBit_eq
  intro j
  rw [Nat.zero_testBit]
  by_cases hj : j < n
  · exact mc_cost_pos n hC1 (mc_Lad_c0 h) j hj
  · exact mc_hi h1 (by omega)
theorem mc_Lad_fro {n : Nat} {C G X D : Nat → Nat} {B : Nat → Nat → Int} {R : Nat} {f : Nat → Nat} (h : mc_Lad n C G X D B R f) (hn : n ≤ 12) (hC : ∀ m, C m ≤ 10000) (hC1 : ∀ m, m < n → 1 ≤ C m) : ∀ k, mc_fro n C G X D B k (if k < R then nI (f k % 4096) else -1)
  | 0 => by
    rw [if_pos h.1.1, mc_Lad_u0 h hC1]
    rfl
  | k + 1 => by
    have ih := mc_Lad_fro h hn hC hC1 k
    by_cases hk : k < R
    · rw [if_pos hk] at ih
      refine Or.inr ⟨f k % 4096, ih, (h.1.2.2.1 k hk).1, ?_⟩
      obtain ⟨h0, h1, h2, h3⟩ := h.1
      dsimp only at h1 h2 h3
      by_cases hk1 : k + 1 < R
      · rw [if_pos hk1]
        refine Or.inr ⟨f (k + 1) % 4096, rfl, (h2 (k + 1) hk1).1, (h2 (k + 1) hk1).2, (h1 k (k + 1) (by omega) hk1).1, (h1 k (k + 1) (by omega) hk1).2, fun T hT hL hc hg => ?_⟩
        obtain ⟨i, i1, i2, i3⟩ := h3 T hT hL
        rcases Nat.lt_trichotomy i (k + 1) with z | z | z
        · have hik : mc_gain G B (f i % 4096) n ≤ mc_gain G B (f k % 4096) n := by
            by_cases e : i = k
            · rw [e]; exact Int.le_refl _
            · exact Int.le_of_lt (h1 i k (by omega) hk).2
          rcases i3 with q | ⟨q, -⟩ <;> omega
        · subst z
          rcases Nat.lt_or_ge (mc_cost C (f (k + 1) % 4096) n) (mc_cost C T n) with q | q
          · exact Or.inl q
          · right
            refine ⟨by omega, ?_⟩
            rcases i3 with q2 | ⟨q2, q3⟩
            · exact Or.inl q2
            · right
              refine ⟨q2, ?_⟩
              unfold mc_key at q3
              dsimp only at q3
              omega
        · left
          have := (h1 (k + 1) i z i1).1
          omega
      · rw [if_neg hk1]
        refine Or.inl ⟨rfl, fun T hT hL hc hg => ?_⟩
        obtain ⟨i, i1, i2, i3⟩ := h3 T hT hL
        have hik : mc_gain G B (f i % 4096) n ≤ mc_gain G B (f k % 4096) n := by
          by_cases e : i = k
          · rw [e]; exact Int.le_refl _
          · exact Int.le_of_lt (h1 i k (by omega) hk).2
        rcases i3 with q | ⟨q, -⟩ <;> omega
    · rw [if_neg hk] at ih
      rw [if_neg (by omega)]
      exact Or.inl ⟨ih, rfl⟩
/-- what holds of the ladder between calls -/
def mcIA (n v : Nat) (C G X D : Nat → Nat) (B : Nat → Nat → Int) (la : mcLA) : Prop := -1 ≤ la.2.1 ∧ la.2.1 ≤ (v : Int) ∧ (la.2.1 = (v : Int) → mc_upd n C G X D B la.1 la.2.2.1 la.2.2.2)
set_option maxHeartbeats 4000000 in
set_option maxRecDepth 100000 in
theorem c_M_best_ok (l : Launch) (dC : Nat → ClassId) (dI : Nat → Nat → Nat) (o : Nat) (a q r : Nat → Nat) (cI cG : ClassId) (la : mcLA) (n v : Nat) (C G X D : Nat → Nat) (B : Nat → Nat → Int) (bu : Nat → Nat) (lp : mcLP) (sz : Nat) (b : Nat) (hb9 : b < 2 ^ 31) (hn : n ≤ 12) (hC : ∀ m, C m ≤ 10000) (hG : ∀ m, G m ≤ 10000) (hB : ∀ i j, -5000 ≤ B i j ∧ B i j ≤ 5000) (hX : ∀ m, X m < 4096) (hDD : ∀ m, D m < 4096) (hv3 : v < 2147483648) (hIA : mcIA n v C G X D B la) : Met l yM_best wdM_best ({ frames := 4, cells := 0, slots := 0, locals := 88 }) (wrP (dC, dI) mcCl (mcWT o a q r cI cG la n v C G X D B bu lp) (mcTH cI cG) sz [.ref o, .int (nI b)]) (va_Qi (fun z9 (x : mcLA) => (∃ s9, z9 = nI s9 ∧ mc_bst n C G X D B b (2 ^ n) s9) ∧ mcIA n v C G X D B x) (fun x t => va_P (dC, dI) mcCl (mcWT o a q r cI cG x n v C G X D B bu lp) t.heap ∧ va_K (dC, dI) mcCl (mcTH cI cG) t ∧ va_D (va_A (mcWT o a q r cI cG la n v C G X D B bu lp) sz) (mcWT o a q r cI cG x n v C G X D B bu lp)) (va_A (mcWT o a q r cI cG la n v C G X D B bu lp) sz)) 0 0 (va_A (mcWT o a q r cI cG la n v C G X D B bu lp) sz) := by
  refine Met.ofW (cc := bM_best) (maxL := 2) (ret := (some FieldType.int)) (by decide) rfl ?_
  intro p e s m args below meth c s₁ BB hml hv
  obtain ⟨rfl, hsz, hP, hK, hD0⟩ := hv
  have hx := BB.exec
  have hb := BB.bytes
  have hr := BB.returns
  have hts := atoms_spec (ws := wdM_best) BB.pre
  have hown : s.vm.findClass RM = some m.cls := findClass_of_methodNamed BB.named
  have hlocks := BB.notSynchronized
  subst hsz
  have hD := hD0.self (sz := s.heap.size)
  generalize hAe : va_A (mcWT o a q r cI cG la n v C G X D B bu lp) s.heap.size = A at hD ⊢
  have hA : ∀ q : Nat, s.heap.size ≤ q → A q := fun q h => by rw [← hAe]; exact Or.inr h
  have hS : va_S A s.heap s.heap [] := va_S.rf
  have hl := lv_entry ([.ref o, .int (nI b)]) (n := 2) (Nat.le_of_ble_eq_true rfl)
  rw [lg_entry_eq]
  generalize (lg_sl ([.ref o, .int (nI b)]) ++ List.replicate (2 - (lg_sl ([.ref o, .int (nI b)])).length) Slot.unset).toArray = ls at hl ⊢
  have hl : lv_has ls 2 [(0, .ref o), (1, .int (nI b))] := hl
  refine lv_iload_n hx hb dM_best_0 rfl (lv_at hl 1 rfl) ?_
  refine callRSv (As := [.int (nI b)]) (rest := []) ⟨hx, hb, hml, hown, hts⟩ tlB (c_M_requireNotBelowZero_ok l (nI b) (nI_pos hb9)) kw377 kw378 kw25 kw379 ⟨rfl, rfl⟩ (n := 1) (by decide +kernel) ⟨Nat.le_of_ble_eq_true rfl, Nat.le_of_ble_eq_true rfl⟩ (nwP_pre) rfl hl.1 rfl (Nat.le_of_ble_eq_true rfl) ⟨Nat.le_of_ble_eq_true rfl, Nat.le_of_ble_eq_true rfl⟩ dM_best_1 ?_
  refine lv_aload_n hx hb dM_best_4 rfl (lv_at hl 0 rfl) ?_
  refine va_get (D := (dC, dI)) (ci := 3) (C := RM) (T := FM) (N := 3) hx hb hts (fun w h => List.mem_cons_of_mem _ (inM w h)) hown hK hP 0 rfl rfl 1 (by decide) (hts _ (List.mem_cons_of_mem _ kw133)) (fun _ h9 => h9) rfl dM_best_5 ?_
  refine lv_aload_n hx hb dM_best_8 rfl (lv_at hl 0 rfl) ?_
  refine va_get (D := (dC, dI)) (ci := 3) (C := RM) (T := FM) (N := 3) hx hb hts (fun w h => List.mem_cons_of_mem _ (inM w h)) hown hK hP 0 rfl rfl 0 (by decide) (hts _ (List.mem_cons_of_mem _ kw132)) (fun _ h9 => h9) rfl dM_best_9 ?_
  have pmt := pm_AH (mcM1 o a q r) (mcA1 q cI la) (mcWH a cI cG n v C G X D B) (mcP1 r cI cG bu lp)
  have hPt := P_perm pmt hP
  have hDt := D_perm pmt hD
  refine callWX (As := [.ref (a 0)]) (rest := []) ⟨hx, hb, hml, hown, hts⟩ tlB (c_A_bringUpToDate l dC dI q a cI cG la.1 la.2.1 la.2.2.1 la.2.2.2 n v C G X D B s.heap.size hn hC hG hB hX hDD hIA.1 (by have := hIA.2.1; omega) hv3 hIA.2.2) kw146 kw147 kw148 kw27 kw149 ⟨rfl, rfl⟩ (n := 1) (by decide +kernel) ⟨Nat.le_of_ble_eq_true rfl, Nat.le_of_ble_eq_true rfl⟩ hPt.lft hK hDt.lft hS (va_freeL hDt hS hA) (ci := 1) (q0 := 0) rfl rfl rfl hl.1 rfl (Nat.le_of_ble_eq_true rfl) ⟨Nat.le_of_ble_eq_true rfl, Nat.le_of_ble_eq_true rfl⟩ dM_best_12 (fun u9 H1 locs1 hu hP1 hD1 hk1 hS1 => ?_)
  obtain ⟨rg, st, gn⟩ := u9
  dsimp only at hu hP1 hD1
  obtain ⟨hPn, hDn⟩ := va_jnL hPt hDt hk1 (va_freeL hDt hS hA) hP1 hD1
  have pmb := (pm_AH (mcM1 o a q r) (mcA1 q cI (rg, ((v : Nat) : Int), st, gn)) (mcWH a cI cG n v C G X D B) (mcP1 r cI cG bu lp)).symm
  have hP := P_perm pmb hPn
  have hD := D_perm pmb hDn
  have hS := hS1
  have hLd := hu.1
  have hrg := hLd.1.1
  have hp12 : 2 ^ n ≤ 2 ^ 12 := Nat.pow_le_pow_right (by decide) hn
  have hrgn := hLd.2.2
  have hstb : ∀ i, i < rg → st i < 2 ^ 31 := fun i hi => by have := (mc_Lad_st hLd hn hC hi).2.1; omega
  refine lv_aload_n hx hb dM_best_15 rfl (lv_at hl 0 rfl) ?_
  refine va_get (D := (dC, dI)) (ci := 3) (C := RM) (T := FM) (N := 3) hx hb hts (fun w h => List.mem_cons_of_mem _ (inM w h)) hown hK hP 0 rfl rfl 1 (by decide) (hts _ (List.mem_cons_of_mem _ kw133)) (fun _ h9 => h9) rfl dM_best_16 ?_
  refine lv_aload_n hx hb dM_best_19 rfl (lv_at hl 0 rfl) ?_
  refine va_get (D := (dC, dI)) (ci := 3) (C := RM) (T := FM) (N := 3) hx hb hts (fun w h => List.mem_cons_of_mem _ (inM w h)) hown hK hP 0 rfl rfl 1 (by decide) (hts _ (List.mem_cons_of_mem _ kw133)) (fun _ h9 => h9) rfl dM_best_20 ?_
  refine lv_iload_n hx hb dM_best_23 rfl (lv_at hl 1 rfl) ?_
  refine callRV (As := [.int (nI b)]) (rest := [.ref (q 0)]) ⟨hx, hb, hml, hown, hts⟩ tlB (c_A_highestWithin l dC dI q cI cG rg ((v : Nat) : Int) st gn b hb9 hrg (by omega) hstb) kw380 kw381 kw382 kw27 kw383 ⟨rfl, rfl⟩ (n := 1) (by decide +kernel) ⟨Nat.le_of_ble_eq_true rfl, Nat.le_of_ble_eq_true rfl⟩ (roP_preV (P_perm (pm_A _ _ _ _) hP).lft hK (ci := 1) (q0 := 0) rfl rfl) rfl hl.1 rfl (Nat.le_of_ble_eq_true rfl) ⟨Nat.le_of_ble_eq_true rfl, Nat.le_of_ble_eq_true rfl⟩ dM_best_24 (fun r1 hr1 => ?_)
  obtain ⟨k, rfl, k1, k2, k3⟩ := hr1
  refine callRV (As := [.int (nI k)]) (rest := []) ⟨hx, hb, hml, hown, hts⟩ tlB (c_A_setAt l dC dI q cI cG rg ((v : Nat) : Int) st gn k (by omega) (hstb k k1)) kw384 kw160 kw161 kw27 kw162 ⟨rfl, rfl⟩ (n := 1) (by decide +kernel) ⟨Nat.le_of_ble_eq_true rfl, Nat.le_of_ble_eq_true rfl⟩ (roP_preV (P_perm (pm_A _ _ _ _) hP).lft hK (ci := 1) (q0 := 0) rfl rfl) rfl hl.1 rfl (Nat.le_of_ble_eq_true rfl) ⟨Nat.le_of_ble_eq_true rfl, Nat.le_of_ble_eq_true rfl⟩ dM_best_27 (fun r2 hr2 => ?_)
  subst hr2
  exact W.iret (v := (nI (st k % 4096))) hx hb hr (fun t ht hW => ⟨⟨(nI (st k % 4096)), (rg, ((v : Nat) : Int), st, gn), rfl, ⟨⟨_, rfl, mc_Lad_best hLd hn hC k1 k2 k3⟩, ⟨by dsimp only; omega, Int.le_refl _, fun _ => hu⟩⟩, by rw [ht]; exact hP, va_K.moved hW.alike hK, hD⟩, hS.F ht⟩) hS.2.2 dM_best_30
set_option maxHeartbeats 4000000 in
set_option maxRecDepth 100000 in
theorem c_M_budget_ok (l : Launch) (dC : Nat → ClassId) (dI : Nat → Nat → Nat) (o : Nat) (a q r : Nat → Nat) (cI cG : ClassId) (la : mcLA) (n v : Nat) (C G X D : Nat → Nat) (B : Nat → Nat → Int) (bu : Nat → Nat) (lp : mcLP) (sz : Nat) (z : Int) (hz1 : -2147483648 ≤ z) (hz2 : z < 2147483648) (hn : n ≤ 12) (hC : ∀ m, C m ≤ 10000) (hG : ∀ m, G m ≤ 10000) (hB : ∀ i j, -5000 ≤ B i j ∧ B i j ≤ 5000) (hX : ∀ m, X m < 4096) (hDD : ∀ m, D m < 4096) (hv3 : v < 2147483648) (hIA : mcIA n v C G X D B la) : Met l yM_budget wdM_budget ({ frames := 4, cells := 0, slots := 0, locals := 88 }) (wrP (dC, dI) mcCl (mcWT o a q r cI cG la n v C G X D B bu lp) (mcTH cI cG) sz [.ref o, .int (iI z)]) (va_Qi (fun z9 (x : mcLA) => ((z9 = -1 ∧ ∀ T, T < 2 ^ n → mc_law n X D T → mc_gain G B T n < z) ∨ ∃ s9, s9 < 2 ^ n ∧ z9 = nI (mc_cost C s9 n) ∧ mc_law n X D s9 ∧ z ≤ mc_gain G B s9 n ∧ ∀ T, T < 2 ^ n → mc_law n X D T → z ≤ mc_gain G B T n → mc_cost C s9 n ≤ mc_cost C T n) ∧ mcIA n v C G X D B x) (fun x t => va_P (dC, dI) mcCl (mcWT o a q r cI cG x n v C G X D B bu lp) t.heap ∧ va_K (dC, dI) mcCl (mcTH cI cG) t ∧ va_D (va_A (mcWT o a q r cI cG la n v C G X D B bu lp) sz) (mcWT o a q r cI cG x n v C G X D B bu lp)) (va_A (mcWT o a q r cI cG la n v C G X D B bu lp) sz)) 0 0 (va_A (mcWT o a q r cI cG la n v C G X D B bu lp) sz) := by
  refine Met.ofW (cc := bM_budget) (maxL := 3) (ret := (some FieldType.int)) (by decide) rfl ?_
  intro p e s m args below meth c s₁ BB hml hv
  obtain ⟨rfl, hsz, hP, hK, hD0⟩ := hv
  have hx := BB.exec
  have hb := BB.bytes
  have hr := BB.returns
  have hts := atoms_spec (ws := wdM_budget) BB.pre
  have hown : s.vm.findClass RM = some m.cls := findClass_of_methodNamed BB.named
  have hlocks := BB.notSynchronized
  subst hsz
  have hD := hD0.self (sz := s.heap.size)
  generalize hAe : va_A (mcWT o a q r cI cG la n v C G X D B bu lp) s.heap.size = A at hD ⊢
  have hA : ∀ q : Nat, s.heap.size ≤ q → A q := fun q h => by rw [← hAe]; exact Or.inr h
  have hS : va_S A s.heap s.heap [] := va_S.rf
  have hl := lv_entry ([.ref o, .int (iI z)]) (n := 3) (Nat.le_of_ble_eq_true rfl)
  rw [lg_entry_eq]
  generalize (lg_sl ([.ref o, .int (iI z)]) ++ List.replicate (3 - (lg_sl ([.ref o, .int (iI z)])).length) Slot.unset).toArray = ls at hl ⊢
  have hl : lv_has ls 3 [(0, .ref o), (1, .int (iI z))] := hl
  refine lv_aload_n hx hb dM_budget_0 rfl (lv_at hl 0 rfl) ?_
  refine va_get (D := (dC, dI)) (ci := 3) (C := RM) (T := FM) (N := 3) hx hb hts (fun w h => List.mem_cons_of_mem _ (inM w h)) hown hK hP 0 rfl rfl 1 (by decide) (hts _ (List.mem_cons_of_mem _ kw133)) (fun _ h9 => h9) rfl dM_budget_1 ?_
  refine lv_aload_n hx hb dM_budget_4 rfl (lv_at hl 0 rfl) ?_
  refine va_get (D := (dC, dI)) (ci := 3) (C := RM) (T := FM) (N := 3) hx hb hts (fun w h => List.mem_cons_of_mem _ (inM w h)) hown hK hP 0 rfl rfl 0 (by decide) (hts _ (List.mem_cons_of_mem _ kw132)) (fun _ h9 => h9) rfl dM_budget_5 ?_
  have pmt := pm_AH (mcM1 o a q r) (mcA1 q cI la) (mcWH a cI cG n v C G X D B) (mcP1 r cI cG bu lp)
  have hPt := P_perm pmt hP
  have hDt := D_perm pmt hD
  refine callWX (As := [.ref (a 0)]) (rest := []) ⟨hx, hb, hml, hown, hts⟩ tlB (c_A_bringUpToDate l dC dI q a cI cG la.1 la.2.1 la.2.2.1 la.2.2.2 n v C G X D B s.heap.size hn hC hG hB hX hDD hIA.1 (by have := hIA.2.1; omega) hv3 hIA.2.2) kw146 kw147 kw148 kw27 kw149 ⟨rfl, rfl⟩ (n := 1) (by decide +kernel) ⟨Nat.le_of_ble_eq_true rfl, Nat.le_of_ble_eq_true rfl⟩ hPt.lft hK hDt.lft hS (va_freeL hDt hS hA) (ci := 1) (q0 := 0) rfl rfl rfl hl.1 rfl (Nat.le_of_ble_eq_true rfl) ⟨Nat.le_of_ble_eq_true rfl, Nat.le_of_ble_eq_true rfl⟩ dM_budget_8 (fun u9 H1 locs1 hu hP1 hD1 hk1 hS1 => ?_)
  obtain ⟨rg, st, gn⟩ := u9
  dsimp only at hu hP1 hD1
  obtain ⟨hPn, hDn⟩ := va_jnL hPt hDt hk1 (va_freeL hDt hS hA) hP1 hD1
  have pmb := (pm_AH (mcM1 o a q r) (mcA1 q cI (rg, ((v : Nat) : Int), st, gn)) (mcWH a cI cG n v C G X D B) (mcP1 r cI cG bu lp)).symm
  have hP := P_perm pmb hPn
  have hD := D_perm pmb hDn
  have hS := hS1
  have hLd := hu.1
  have hrg := hLd.1.1
  have hp12 : 2 ^ n ≤ 2 ^ 12 := Nat.pow_le_pow_right (by decide) hn
  have hrgn := hLd.2.2
  have hstb : ∀ i, i < rg → st i < 2 ^ 31 := fun i hi => by have := (mc_Lad_st hLd hn hC hi).2.1; omega
  have hgnb : ∀ i, i < rg → -900000 ≤ gn (st i % 4096) ∧ gn (st i % 4096) ≤ 900000 := fun i hi => by rw [hu.2 _ (mc_Lad_st hLd hn hC hi).1]; have := mc_gain_le (S := st i % 4096) hG hB n hn; omega
  refine lv_aload_n hx hb dM_budget_11 rfl (lv_at hl 0 rfl) ?_
  refine va_get (D := (dC, dI)) (ci := 3) (C := RM) (T := FM) (N := 3) hx hb hts (fun w h => List.mem_cons_of_mem _ (inM w h)) hown hK hP 0 rfl rfl 1 (by decide) (hts _ (List.mem_cons_of_mem _ kw133)) (fun _ h9 => h9) rfl dM_budget_12 ?_
  refine lv_iload_n hx hb dM_budget_15 rfl (lv_at hl 1 rfl) ?_
  refine callRV (As := [.int (iI z)]) (rest := []) ⟨hx, hb, hml, hown, hts⟩ tlB (c_A_lowestGaining l dC dI q cI cG rg ((v : Nat) : Int) st gn z hz1 hz2 (by omega) hstb hgnb) kw178 kw179 kw180 kw27 kw181 ⟨rfl, rfl⟩ (n := 1) (by decide +kernel) ⟨Nat.le_of_ble_eq_true rfl, Nat.le_of_ble_eq_true rfl⟩ (roP_preV (P_perm (pm_A _ _ _ _) hP).lft hK (ci := 1) (q0 := 0) rfl rfl) rfl hl.1 rfl (Nat.le_of_ble_eq_true rfl) ⟨Nat.le_of_ble_eq_true rfl, Nat.le_of_ble_eq_true rfl⟩ dM_budget_16 (fun r1 hr1 => ?_)
  rcases hr1 with ⟨k, rfl, k1, k2, k3⟩ | ⟨rfl, k3⟩
  ·
    refine lv_istore_n (lv' := [(2, .int (nI k)), (0, .ref o), (1, .int (iI z))]) hx hb dM_budget_19 rfl hl (by decide) rfl (fun ls hl => ?_)
    refine lv_iload_n hx hb dM_budget_20 rfl (lv_at hl 0 rfl) ?_
    refine lv_iconst (v := (-1)) hx hb dM_budget_21 (by decide) ?_
    refine lv_icmp_ne (tgt := 29) hx hb dM_budget_22 (by decide) (fun c1 => ?_) (fun c1 => ?_)
    ·
      refine lv_aload_n hx hb dM_budget_29 rfl (lv_at hl 1 rfl) ?_
      refine va_get (D := (dC, dI)) (ci := 3) (C := RM) (T := FM) (N := 3) hx hb hts (fun w h => List.mem_cons_of_mem _ (inM w h)) hown hK hP 0 rfl rfl 1 (by decide) (hts _ (List.mem_cons_of_mem _ kw133)) (fun _ h9 => h9) rfl dM_budget_30 ?_
      refine lv_iload_n hx hb dM_budget_33 rfl (lv_at hl 0 rfl) ?_
      refine callRV (As := [.int (nI k)]) (rest := []) ⟨hx, hb, hml, hown, hts⟩ tlB (c_A_costAt l dC dI q cI cG rg ((v : Nat) : Int) st gn k (by omega) (hstb k k1)) kw182 kw175 kw176 kw27 kw177 ⟨rfl, rfl⟩ (n := 1) (by decide +kernel) ⟨Nat.le_of_ble_eq_true rfl, Nat.le_of_ble_eq_true rfl⟩ (roP_preV (P_perm (pm_A _ _ _ _) hP).lft hK (ci := 1) (q0 := 0) rfl rfl) rfl hl.1 rfl (Nat.le_of_ble_eq_true rfl) ⟨Nat.le_of_ble_eq_true rfl, Nat.le_of_ble_eq_true rfl⟩ dM_budget_34 (fun r2 hr2 => ?_)
      have hr2 : r2 = nI (mc_cost C (st k % 4096) n) := by rw [hr2, (mc_Lad_st hLd hn hC k1).2.2]
      subst hr2
      have hgz := hu.2 _ (mc_Lad_st hLd hn hC k1).1
      exact W.iret (v := (nI (mc_cost C (st k % 4096) n))) hx hb hr (fun t ht hW => ⟨⟨(nI (mc_cost C (st k % 4096) n)), (rg, ((v : Nat) : Int), st, gn), rfl, ⟨Or.inr ⟨st k % 4096, (mc_Lad_st hLd hn hC k1).1, rfl, (hLd.1.2.2.1 k k1).2, by rw [← hgz]; exact k2, fun T hT hL hg => mc_lad_bud hLd.1 (z := z) k1 (fun j hj => by have := k3 j hj; rw [hu.2 _ (mc_Lad_st hLd hn hC (show j < rg by omega)).1] at this; exact this) hT hL hg⟩, ⟨by dsimp only; omega, Int.le_refl _, fun _ => hu⟩⟩, by rw [ht]; exact hP, va_K.moved hW.alike hK, hD⟩, hS.F ht⟩) hS.2.2 dM_budget_37
    · exact absurd c1 (nI_nm1 (by omega))
  ·
    refine lv_istore_n (lv' := [(2, .int (-1)), (0, .ref o), (1, .int (iI z))]) hx hb dM_budget_19 rfl hl (by decide) rfl (fun ls hl => ?_)
    refine lv_iload_n hx hb dM_budget_20 rfl (lv_at hl 0 rfl) ?_
    refine lv_iconst (v := (-1)) hx hb dM_budget_21 (by decide) ?_
    refine lv_icmp_ne (tgt := 29) hx hb dM_budget_22 (by decide) (fun c1 => ?_) (fun c1 => ?_)
    · exact absurd rfl c1
    ·
      refine lv_iconst (v := (-1)) hx hb dM_budget_25 (by decide) ?_
      refine lv_goto (tgt := 37) hx hb dM_budget_26 (by decide) ?_
      exact W.iret (v := (-1)) hx hb hr (fun t ht hW => ⟨⟨(-1), (rg, ((v : Nat) : Int), st, gn), rfl, ⟨Or.inl ⟨rfl, fun T hT hL => mc_lad_none hLd.1 (z := z) (fun j hj => by have := k3 j hj; rw [hu.2 _ (mc_Lad_st hLd hn hC hj).1] at this; exact this) hT hL⟩, ⟨by dsimp only; omega, Int.le_refl _, fun _ => hu⟩⟩, by rw [ht]; exact hP, va_K.moved hW.alike hK, hD⟩, hS.F ht⟩) hS.2.2 dM_budget_37
set_option maxHeartbeats 4000000 in
set_option maxRecDepth 100000 in
theorem c_M_worth_ok (l : Launch) (dC : Nat → ClassId) (dI : Nat → Nat → Nat) (o : Nat) (a q r : Nat → Nat) (cI cG : ClassId) (la : mcLA) (n v : Nat) (C G X D : Nat → Nat) (B : Nat → Nat → Int) (bu : Nat → Nat) (lp : mcLP) (sz : Nat) (b mr : Nat) (hb9 : b + mr ≤ 1000000) (hn : n ≤ 12) (hC : ∀ m, C m ≤ 10000) (hG : ∀ m, G m ≤ 10000) (hB : ∀ i j, -5000 ≤ B i j ∧ B i j ≤ 5000) (hX : ∀ m, X m < 4096) (hDD : ∀ m, D m < 4096) (hv3 : v < 2147483648) (hIA : mcIA n v C G X D B la) : Met l yM_worth wdM_worth ({ frames := 4, cells := 0, slots := 0, locals := 88 }) (wrP (dC, dI) mcCl (mcWT o a q r cI cG la n v C G X D B bu lp) (mcTH cI cG) sz [.ref o, .int (nI b), .int (nI mr)]) (va_Qi (fun z9 (x : mcLA) => (∃ s1 s2, z9 = iI (mc_gain G B s1 n - mc_gain G B s2 n) ∧ mc_bst n C G X D B (b + mr) (2 ^ n) s1 ∧ mc_bst n C G X D B b (2 ^ n) s2) ∧ mcIA n v C G X D B x) (fun x t => va_P (dC, dI) mcCl (mcWT o a q r cI cG x n v C G X D B bu lp) t.heap ∧ va_K (dC, dI) mcCl (mcTH cI cG) t ∧ va_D (va_A (mcWT o a q r cI cG la n v C G X D B bu lp) sz) (mcWT o a q r cI cG x n v C G X D B bu lp)) (va_A (mcWT o a q r cI cG la n v C G X D B bu lp) sz)) 0 0 (va_A (mcWT o a q r cI cG la n v C G X D B bu lp) sz) := by
  refine Met.ofW (cc := bM_worth) (maxL := 4) (ret := (some FieldType.int)) (by decide) rfl ?_
  intro p e s m args below meth c s₁ BB hml hv
  obtain ⟨rfl, hsz, hP, hK, hD0⟩ := hv
  have hx := BB.exec
  have hb := BB.bytes
  have hr := BB.returns
  have hts := atoms_spec (ws := wdM_worth) BB.pre
  have hown : s.vm.findClass RM = some m.cls := findClass_of_methodNamed BB.named
  have hlocks := BB.notSynchronized
  subst hsz
  have hD := hD0.self (sz := s.heap.size)
  generalize hAe : va_A (mcWT o a q r cI cG la n v C G X D B bu lp) s.heap.size = A at hD ⊢
  have hA : ∀ q : Nat, s.heap.size ≤ q → A q := fun q h => by rw [← hAe]; exact Or.inr h
  have hS : va_S A s.heap s.heap [] := va_S.rf
  have hl := lv_entry ([.ref o, .int (nI b), .int (nI mr)]) (n := 4) (Nat.le_of_ble_eq_true rfl)
  rw [lg_entry_eq]
  generalize (lg_sl ([.ref o, .int (nI b), .int (nI mr)]) ++ List.replicate (4 - (lg_sl ([.ref o, .int (nI b), .int (nI mr)])).length) Slot.unset).toArray = ls at hl ⊢
  have hl : lv_has ls 4 [(0, .ref o), (1, .int (nI b)), (2, .int (nI mr))] := hl
  refine lv_iload_n hx hb dM_worth_0 rfl (lv_at hl 1 rfl) ?_
  refine callRSv (As := [.int (nI b)]) (rest := []) ⟨hx, hb, hml, hown, hts⟩ tlB (c_M_requireNotBelowZero_ok l (nI b) (nI_pos (by omega))) kw377 kw378 kw25 kw379 ⟨rfl, rfl⟩ (n := 1) (by decide +kernel) ⟨Nat.le_of_ble_eq_true rfl, Nat.le_of_ble_eq_true rfl⟩ (nwP_pre) rfl hl.1 rfl (Nat.le_of_ble_eq_true rfl) ⟨Nat.le_of_ble_eq_true rfl, Nat.le_of_ble_eq_true rfl⟩ dM_worth_1 ?_
  refine lv_iload_n hx hb dM_worth_4 rfl (lv_at hl 2 rfl) ?_
  refine callRSv (As := [.int (nI mr)]) (rest := []) ⟨hx, hb, hml, hown, hts⟩ tlB (c_M_requireNotBelowZero_ok l (nI mr) (nI_pos (by omega))) kw377 kw378 kw25 kw379 ⟨rfl, rfl⟩ (n := 1) (by decide +kernel) ⟨Nat.le_of_ble_eq_true rfl, Nat.le_of_ble_eq_true rfl⟩ (nwP_pre) rfl hl.1 rfl (Nat.le_of_ble_eq_true rfl) ⟨Nat.le_of_ble_eq_true rfl, Nat.le_of_ble_eq_true rfl⟩ dM_worth_5 ?_
  refine lv_iload_n hx hb dM_worth_8 rfl (lv_at hl 1 rfl) ?_
  refine lv_ldc (v := 1000000) hx hb hown (hts _ (List.mem_cons_of_mem _ kw392)) dM_worth_9 ?_
  refine lv_icmp_gt (tgt := 22) hx hb dM_worth_11 (by decide) (fun c1 => ?_) (fun c1 => ?_)
  · exact absurd ((nI_ltI (a := 1000000) (b := b) (by omega) (by omega)).mp c1) (by omega)
  ·
    refine lv_iload_n hx hb dM_worth_14 rfl (lv_at hl 2 rfl) ?_
    refine lv_ldc (v := 1000000) hx hb hown (hts _ (List.mem_cons_of_mem _ kw392)) dM_worth_15 ?_
    refine lv_iload_n hx hb dM_worth_17 rfl (lv_at hl 1 rfl) ?_
    refine lv_isub hx hb dM_worth_18 ?_
    refine lv_topi (fun y1 ey1 => ?_)
    have hy1 : y1 = nI (1000000 - b) := by rw [ey1]; exact pk_sub (a := 1000000) (by omega)
    subst hy1
    refine lv_icmp_le (tgt := 32) hx hb dM_worth_19 (by decide) (fun c2 => ?_) (fun c2 => ?_)
    ·
      refine lv_aload_n hx hb dM_worth_32 rfl (lv_at hl 0 rfl) ?_
      refine va_get (D := (dC, dI)) (ci := 3) (C := RM) (T := FM) (N := 3) hx hb hts (fun w h => List.mem_cons_of_mem _ (inM w h)) hown hK hP 0 rfl rfl 1 (by decide) (hts _ (List.mem_cons_of_mem _ kw133)) (fun _ h9 => h9) rfl dM_worth_33 ?_
      refine lv_aload_n hx hb dM_worth_36 rfl (lv_at hl 0 rfl) ?_
      refine va_get (D := (dC, dI)) (ci := 3) (C := RM) (T := FM) (N := 3) hx hb hts (fun w h => List.mem_cons_of_mem _ (inM w h)) hown hK hP 0 rfl rfl 0 (by decide) (hts _ (List.mem_cons_of_mem _ kw132)) (fun _ h9 => h9) rfl dM_worth_37 ?_
      have pmt := pm_AH (mcM1 o a q r) (mcA1 q cI la) (mcWH a cI cG n v C G X D B) (mcP1 r cI cG bu lp)
      have hPt := P_perm pmt hP
      have hDt := D_perm pmt hD
      refine callWX (As := [.ref (a 0)]) (rest := []) ⟨hx, hb, hml, hown, hts⟩ tlB (c_A_bringUpToDate l dC dI q a cI cG la.1 la.2.1 la.2.2.1 la.2.2.2 n v C G X D B s.heap.size hn hC hG hB hX hDD hIA.1 (by have := hIA.2.1; omega) hv3 hIA.2.2) kw146 kw147 kw148 kw27 kw149 ⟨rfl, rfl⟩ (n := 1) (by decide +kernel) ⟨Nat.le_of_ble_eq_true rfl, Nat.le_of_ble_eq_true rfl⟩ hPt.lft hK hDt.lft hS (va_freeL hDt hS hA) (ci := 1) (q0 := 0) rfl rfl rfl hl.1 rfl (Nat.le_of_ble_eq_true rfl) ⟨Nat.le_of_ble_eq_true rfl, Nat.le_of_ble_eq_true rfl⟩ dM_worth_40 (fun u9 H1 locs1 hu hP1 hD1 hk1 hS1 => ?_)
      obtain ⟨rg, st, gn⟩ := u9
      dsimp only at hu hP1 hD1
      obtain ⟨hPn, hDn⟩ := va_jnL hPt hDt hk1 (va_freeL hDt hS hA) hP1 hD1
      have pmb := (pm_AH (mcM1 o a q r) (mcA1 q cI (rg, ((v : Nat) : Int), st, gn)) (mcWH a cI cG n v C G X D B) (mcP1 r cI cG bu lp)).symm
      have hP := P_perm pmb hPn
      have hD := D_perm pmb hDn
      have hS := hS1
      have hLd := hu.1
      have hrg := hLd.1.1
      have hp12 : 2 ^ n ≤ 2 ^ 12 := Nat.pow_le_pow_right (by decide) hn
      have hrgn := hLd.2.2
      have hstb : ∀ i, i < rg → st i < 2 ^ 31 := fun i hi => by have := (mc_Lad_st hLd hn hC hi).2.1; omega
      refine lv_aload_n hx hb dM_worth_43 rfl (lv_at hl 0 rfl) ?_
      refine va_get (D := (dC, dI)) (ci := 3) (C := RM) (T := FM) (N := 3) hx hb hts (fun w h => List.mem_cons_of_mem _ (inM w h)) hown hK hP 0 rfl rfl 1 (by decide) (hts _ (List.mem_cons_of_mem _ kw133)) (fun _ h9 => h9) rfl dM_worth_44 ?_
      refine lv_aload_n hx hb dM_worth_47 rfl (lv_at hl 0 rfl) ?_
      refine va_get (D := (dC, dI)) (ci := 3) (C := RM) (T := FM) (N := 3) hx hb hts (fun w h => List.mem_cons_of_mem _ (inM w h)) hown hK hP 0 rfl rfl 1 (by decide) (hts _ (List.mem_cons_of_mem _ kw133)) (fun _ h9 => h9) rfl dM_worth_48 ?_
      refine lv_iload_n hx hb dM_worth_51 rfl (lv_at hl 1 rfl) ?_
      refine lv_iload_n hx hb dM_worth_52 rfl (lv_at hl 2 rfl) ?_
      refine lv_iadd hx hb dM_worth_53 ?_
      refine lv_topi (fun y2 ey2 => ?_)
      have hy2 : y2 = nI (b + mr) := by rw [ey2, nI_add]
      subst hy2
      refine callRV (As := [.int (nI (b + mr))]) (rest := [.ref (q 0)]) ⟨hx, hb, hml, hown, hts⟩ tlB (c_A_highestWithin l dC dI q cI cG rg ((v : Nat) : Int) st gn (b + mr) (by omega) hrg (by omega) hstb) kw380 kw381 kw382 kw27 kw383 ⟨rfl, rfl⟩ (n := 1) (by decide +kernel) ⟨Nat.le_of_ble_eq_true rfl, Nat.le_of_ble_eq_true rfl⟩ (roP_preV (P_perm (pm_A _ _ _ _) hP).lft hK (ci := 1) (q0 := 0) rfl rfl) rfl hl.1 rfl (Nat.le_of_ble_eq_true rfl) ⟨Nat.le_of_ble_eq_true rfl, Nat.le_of_ble_eq_true rfl⟩ dM_worth_54 (fun ra hra => ?_)
      obtain ⟨ka, rfl, ka1, ka2, ka3⟩ := hra
      refine callRV (As := [.int (nI ka)]) (rest := []) ⟨hx, hb, hml, hown, hts⟩ tlB (c_A_gainAt l dC dI q cI cG rg ((v : Nat) : Int) st gn ka (by omega) (hstb ka ka1)) kw393 kw164 kw165 kw27 kw166 ⟨rfl, rfl⟩ (n := 1) (by decide +kernel) ⟨Nat.le_of_ble_eq_true rfl, Nat.le_of_ble_eq_true rfl⟩ (roP_preV (P_perm (pm_A _ _ _ _) hP).lft hK (ci := 1) (q0 := 0) rfl rfl) rfl hl.1 rfl (Nat.le_of_ble_eq_true rfl) ⟨Nat.le_of_ble_eq_true rfl, Nat.le_of_ble_eq_true rfl⟩ dM_worth_57 (fun rag hrag => ?_)
      have hrag : rag = iI (mc_gain G B (st ka % 4096) n) := by rw [hrag, hu.2 _ (mc_Lad_st hLd hn hC ka1).1]
      subst hrag
      refine lv_istore_n (lv' := [(3, .int (iI (mc_gain G B (st ka % 4096) n))), (0, .ref o), (1, .int (nI b)), (2, .int (nI mr))]) hx hb dM_worth_60 rfl hl (by decide) rfl (fun ls hl => ?_)
      refine lv_iload_n hx hb dM_worth_61 rfl (lv_at hl 0 rfl) ?_
      refine lv_aload_n hx hb dM_worth_62 rfl (lv_at hl 1 rfl) ?_
      refine va_get (D := (dC, dI)) (ci := 3) (C := RM) (T := FM) (N := 3) hx hb hts (fun w h => List.mem_cons_of_mem _ (inM w h)) hown hK hP 0 rfl rfl 1 (by decide) (hts _ (List.mem_cons_of_mem _ kw133)) (fun _ h9 => h9) rfl dM_worth_63 ?_
      refine lv_aload_n hx hb dM_worth_66 rfl (lv_at hl 1 rfl) ?_
      refine va_get (D := (dC, dI)) (ci := 3) (C := RM) (T := FM) (N := 3) hx hb hts (fun w h => List.mem_cons_of_mem _ (inM w h)) hown hK hP 0 rfl rfl 1 (by decide) (hts _ (List.mem_cons_of_mem _ kw133)) (fun _ h9 => h9) rfl dM_worth_67 ?_
      refine lv_iload_n hx hb dM_worth_70 rfl (lv_at hl 2 rfl) ?_
      refine callRV (As := [.int (nI b)]) (rest := [.ref (q 0), .int (iI (mc_gain G B (st ka % 4096) n))]) ⟨hx, hb, hml, hown, hts⟩ tlB (c_A_highestWithin l dC dI q cI cG rg ((v : Nat) : Int) st gn b (by omega) hrg (by omega) hstb) kw380 kw381 kw382 kw27 kw383 ⟨rfl, rfl⟩ (n := 1) (by decide +kernel) ⟨Nat.le_of_ble_eq_true rfl, Nat.le_of_ble_eq_true rfl⟩ (roP_preV (P_perm (pm_A _ _ _ _) hP).lft hK (ci := 1) (q0 := 0) rfl rfl) rfl hl.1 rfl (Nat.le_of_ble_eq_true rfl) ⟨Nat.le_of_ble_eq_true rfl, Nat.le_of_ble_eq_true rfl⟩ dM_worth_71 (fun rb hrb => ?_)
      obtain ⟨kb, rfl, kb1, kb2, kb3⟩ := hrb
      refine callRV (As := [.int (nI kb)]) (rest := [.int (iI (mc_gain G B (st ka % 4096) n))]) ⟨hx, hb, hml, hown, hts⟩ tlB (c_A_gainAt l dC dI q cI cG rg ((v : Nat) : Int) st gn kb (by omega) (hstb kb kb1)) kw393 kw164 kw165 kw27 kw166 ⟨rfl, rfl⟩ (n := 1) (by decide +kernel) ⟨Nat.le_of_ble_eq_true rfl, Nat.le_of_ble_eq_true rfl⟩ (roP_preV (P_perm (pm_A _ _ _ _) hP).lft hK (ci := 1) (q0 := 0) rfl rfl) rfl hl.1 rfl (Nat.le_of_ble_eq_true rfl) ⟨Nat.le_of_ble_eq_true rfl, Nat.le_of_ble_eq_true rfl⟩ dM_worth_74 (fun rbg hrbg => ?_)
      have hrbg : rbg = iI (mc_gain G B (st kb % 4096) n) := by rw [hrbg, hu.2 _ (mc_Lad_st hLd hn hC kb1).1]
      subst hrbg
      refine lv_isub hx hb dM_worth_77 ?_
      refine lv_topi (fun y3 ey3 => ?_)
      have hy3 : y3 = iI (mc_gain G B (st ka % 4096) n - mc_gain G B (st kb % 4096) n) := by rw [ey3, iI_sub]
      subst hy3
      exact W.iret (v := (iI (mc_gain G B (st ka % 4096) n - mc_gain G B (st kb % 4096) n))) hx hb hr (fun t ht hW => ⟨⟨(iI (mc_gain G B (st ka % 4096) n - mc_gain G B (st kb % 4096) n)), (rg, ((v : Nat) : Int), st, gn), rfl, ⟨⟨_, _, rfl, mc_Lad_best hLd hn hC ka1 ka2 ka3, mc_Lad_best hLd hn hC kb1 kb2 kb3⟩, ⟨by dsimp only; omega, Int.le_refl _, fun _ => hu⟩⟩, by rw [ht]; exact hP, va_K.moved hW.alike hK, hD⟩, hS.F ht⟩) hS.2.2 dM_worth_78
    · exact absurd ((nI_leI (by omega) (by omega)).mpr (show mr ≤ 1000000 - b by omega)) c2
set_option maxHeartbeats 4000000 in
set_option maxRecDepth 100000 in
theorem c_M_frontier_ok (l : Launch) (dC : Nat → ClassId) (dI : Nat → Nat → Nat) (o : Nat) (a q r : Nat → Nat) (cI cG : ClassId) (la : mcLA) (n v : Nat) (C G X D : Nat → Nat) (B : Nat → Nat → Int) (bu : Nat → Nat) (lp : mcLP) (sz : Nat) (k : Nat) (hk9 : k < 2 ^ 31) (hC1 : ∀ m, m < n → 1 ≤ C m) (hn : n ≤ 12) (hC : ∀ m, C m ≤ 10000) (hG : ∀ m, G m ≤ 10000) (hB : ∀ i j, -5000 ≤ B i j ∧ B i j ≤ 5000) (hX : ∀ m, X m < 4096) (hDD : ∀ m, D m < 4096) (hv3 : v < 2147483648) (hIA : mcIA n v C G X D B la) : Met l yM_frontier wdM_frontier ({ frames := 4, cells := 0, slots := 0, locals := 88 }) (wrP (dC, dI) mcCl (mcWT o a q r cI cG la n v C G X D B bu lp) (mcTH cI cG) sz [.ref o, .int (nI k)]) (va_Qi (fun z9 (x : mcLA) => mc_fro n C G X D B k z9 ∧ mcIA n v C G X D B x) (fun x t => va_P (dC, dI) mcCl (mcWT o a q r cI cG x n v C G X D B bu lp) t.heap ∧ va_K (dC, dI) mcCl (mcTH cI cG) t ∧ va_D (va_A (mcWT o a q r cI cG la n v C G X D B bu lp) sz) (mcWT o a q r cI cG x n v C G X D B bu lp)) (va_A (mcWT o a q r cI cG la n v C G X D B bu lp) sz)) 0 0 (va_A (mcWT o a q r cI cG la n v C G X D B bu lp) sz) := by
  refine Met.ofW (cc := bM_frontier) (maxL := 2) (ret := (some FieldType.int)) (by decide) rfl ?_
  intro p e s m args below meth c s₁ BB hml hv
  obtain ⟨rfl, hsz, hP, hK, hD0⟩ := hv
  have hx := BB.exec
  have hb := BB.bytes
  have hr := BB.returns
  have hts := atoms_spec (ws := wdM_frontier) BB.pre
  have hown : s.vm.findClass RM = some m.cls := findClass_of_methodNamed BB.named
  have hlocks := BB.notSynchronized
  subst hsz
  have hD := hD0.self (sz := s.heap.size)
  generalize hAe : va_A (mcWT o a q r cI cG la n v C G X D B bu lp) s.heap.size = A at hD ⊢
  have hA : ∀ q : Nat, s.heap.size ≤ q → A q := fun q h => by rw [← hAe]; exact Or.inr h
  have hS : va_S A s.heap s.heap [] := va_S.rf
  have hl := lv_entry ([.ref o, .int (nI k)]) (n := 2) (Nat.le_of_ble_eq_true rfl)
  rw [lg_entry_eq]
  generalize (lg_sl ([.ref o, .int (nI k)]) ++ List.replicate (2 - (lg_sl ([.ref o, .int (nI k)])).length) Slot.unset).toArray = ls at hl ⊢
  have hl : lv_has ls 2 [(0, .ref o), (1, .int (nI k))] := hl
  refine lv_iload_n hx hb dM_frontier_0 rfl (lv_at hl 1 rfl) ?_
  refine callRSv (As := [.int (nI k)]) (rest := []) ⟨hx, hb, hml, hown, hts⟩ tlB (c_M_requireNotBelowZero_ok l (nI k) (nI_pos hk9)) kw377 kw378 kw25 kw379 ⟨rfl, rfl⟩ (n := 1) (by decide +kernel) ⟨Nat.le_of_ble_eq_true rfl, Nat.le_of_ble_eq_true rfl⟩ (nwP_pre) rfl hl.1 rfl (Nat.le_of_ble_eq_true rfl) ⟨Nat.le_of_ble_eq_true rfl, Nat.le_of_ble_eq_true rfl⟩ dM_frontier_1 ?_
  refine lv_aload_n hx hb dM_frontier_4 rfl (lv_at hl 0 rfl) ?_
  refine va_get (D := (dC, dI)) (ci := 3) (C := RM) (T := FM) (N := 3) hx hb hts (fun w h => List.mem_cons_of_mem _ (inM w h)) hown hK hP 0 rfl rfl 1 (by decide) (hts _ (List.mem_cons_of_mem _ kw133)) (fun _ h9 => h9) rfl dM_frontier_5 ?_
  refine lv_aload_n hx hb dM_frontier_8 rfl (lv_at hl 0 rfl) ?_
  refine va_get (D := (dC, dI)) (ci := 3) (C := RM) (T := FM) (N := 3) hx hb hts (fun w h => List.mem_cons_of_mem _ (inM w h)) hown hK hP 0 rfl rfl 0 (by decide) (hts _ (List.mem_cons_of_mem _ kw132)) (fun _ h9 => h9) rfl dM_frontier_9 ?_
  have pmt := pm_AH (mcM1 o a q r) (mcA1 q cI la) (mcWH a cI cG n v C G X D B) (mcP1 r cI cG bu lp)
  have hPt := P_perm pmt hP
  have hDt := D_perm pmt hD
  refine callWX (As := [.ref (a 0)]) (rest := []) ⟨hx, hb, hml, hown, hts⟩ tlB (c_A_bringUpToDate l dC dI q a cI cG la.1 la.2.1 la.2.2.1 la.2.2.2 n v C G X D B s.heap.size hn hC hG hB hX hDD hIA.1 (by have := hIA.2.1; omega) hv3 hIA.2.2) kw146 kw147 kw148 kw27 kw149 ⟨rfl, rfl⟩ (n := 1) (by decide +kernel) ⟨Nat.le_of_ble_eq_true rfl, Nat.le_of_ble_eq_true rfl⟩ hPt.lft hK hDt.lft hS (va_freeL hDt hS hA) (ci := 1) (q0 := 0) rfl rfl rfl hl.1 rfl (Nat.le_of_ble_eq_true rfl) ⟨Nat.le_of_ble_eq_true rfl, Nat.le_of_ble_eq_true rfl⟩ dM_frontier_12 (fun u9 H1 locs1 hu hP1 hD1 hk1 hS1 => ?_)
  obtain ⟨rg, st, gn⟩ := u9
  dsimp only at hu hP1 hD1
  obtain ⟨hPn, hDn⟩ := va_jnL hPt hDt hk1 (va_freeL hDt hS hA) hP1 hD1
  have pmb := (pm_AH (mcM1 o a q r) (mcA1 q cI (rg, ((v : Nat) : Int), st, gn)) (mcWH a cI cG n v C G X D B) (mcP1 r cI cG bu lp)).symm
  have hP := P_perm pmb hPn
  have hD := D_perm pmb hDn
  have hS := hS1
  have hLd := hu.1
  have hrg := hLd.1.1
  have hp12 : 2 ^ n ≤ 2 ^ 12 := Nat.pow_le_pow_right (by decide) hn
  have hrgn := hLd.2.2
  have hstb : ∀ i, i < rg → st i < 2 ^ 31 := fun i hi => by have := (mc_Lad_st hLd hn hC hi).2.1; omega
  have hfr := mc_Lad_fro hLd hn hC hC1 k
  refine lv_iload_n hx hb dM_frontier_15 rfl (lv_at hl 1 rfl) ?_
  refine lv_aload_n hx hb dM_frontier_16 rfl (lv_at hl 0 rfl) ?_
  refine va_get (D := (dC, dI)) (ci := 3) (C := RM) (T := FM) (N := 3) hx hb hts (fun w h => List.mem_cons_of_mem _ (inM w h)) hown hK hP 0 rfl rfl 1 (by decide) (hts _ (List.mem_cons_of_mem _ kw133)) (fun _ h9 => h9) rfl dM_frontier_17 ?_
  refine va_get (D := (dC, dI)) (ci := 1) (C := RA) (T := FA) (N := 4) hx hb hts (fun w h => List.mem_cons_of_mem _ (inA w h)) hown hK hP 1 rfl rfl 0 (by decide) (hts _ (List.mem_cons_of_mem _ kw89)) (fun _ h9 => h9) rfl dM_frontier_20 ?_
  refine lv_icmp_ge (tgt := 37) hx hb dM_frontier_23 (by decide) (fun c1 => ?_) (fun c1 => ?_)
  · have c1 := (nI_leI (by omega) (by omega)).mp c1
    rw [if_neg (by omega)] at hfr
    refine lv_iconst (v := (-1)) hx hb dM_frontier_37 (by decide) ?_
    exact W.iret (v := (-1)) hx hb hr (fun t ht hW => ⟨⟨(-1), (rg, ((v : Nat) : Int), st, gn), rfl, ⟨hfr, ⟨by dsimp only; omega, Int.le_refl _, fun _ => hu⟩⟩, by rw [ht]; exact hP, va_K.moved hW.alike hK, hD⟩, hS.F ht⟩) hS.2.2 dM_frontier_38
  · have c1 : k < rg := by
      rcases Nat.lt_or_ge k rg with z9 | z9
      · exact z9
      · exact absurd ((nI_leI (by omega) (by omega)).mpr z9) c1
    rw [if_pos c1] at hfr
    refine lv_aload_n hx hb dM_frontier_26 rfl (lv_at hl 0 rfl) ?_
    refine va_get (D := (dC, dI)) (ci := 3) (C := RM) (T := FM) (N := 3) hx hb hts (fun w h => List.mem_cons_of_mem _ (inM w h)) hown hK hP 0 rfl rfl 1 (by decide) (hts _ (List.mem_cons_of_mem _ kw133)) (fun _ h9 => h9) rfl dM_frontier_27 ?_
    refine lv_iload_n hx hb dM_frontier_30 rfl (lv_at hl 1 rfl) ?_
    refine callRV (As := [.int (nI k)]) (rest := []) ⟨hx, hb, hml, hown, hts⟩ tlB (c_A_setAt l dC dI q cI cG rg ((v : Nat) : Int) st gn k (by omega) (hstb k c1)) kw384 kw160 kw161 kw27 kw162 ⟨rfl, rfl⟩ (n := 1) (by decide +kernel) ⟨Nat.le_of_ble_eq_true rfl, Nat.le_of_ble_eq_true rfl⟩ (roP_preV (P_perm (pm_A _ _ _ _) hP).lft hK (ci := 1) (q0 := 0) rfl rfl) rfl hl.1 rfl (Nat.le_of_ble_eq_true rfl) ⟨Nat.le_of_ble_eq_true rfl, Nat.le_of_ble_eq_true rfl⟩ dM_frontier_31 (fun r2 hr2 => ?_)
    subst hr2
    refine lv_goto (tgt := 38) hx hb dM_frontier_34 (by decide) ?_
    exact W.iret (v := (nI (st k % 4096))) hx hb hr (fun t ht hW => ⟨⟨(nI (st k % 4096)), (rg, ((v : Nat) : Int), st, gn), rfl, ⟨hfr, ⟨by dsimp only; omega, Int.le_refl _, fun _ => hu⟩⟩, by rw [ht]; exact hP, va_K.moved hW.alike hK, hD⟩, hS.F ht⟩) hS.2.2 dM_frontier_38
set_option maxHeartbeats 4000000 in
set_option maxRecDepth 100000 in
theorem c_M_plan_ok (l : Launch) (dC : Nat → ClassId) (dI : Nat → Nat → Nat) (o : Nat) (a q r : Nat → Nat) (cI cG : ClassId) (la : mcLA) (n v : Nat) (C G X D : Nat → Nat) (B : Nat → Nat → Int) (bu : Nat → Nat) (lp : mcLP) (sz : Nat) (Y : Nat) (hY1 : 1 ≤ Y) (hY4 : Y ≤ 4) (hY : 1 ≤ nI Y ∧ nI Y ≤ 4) (hbu : ∀ y, bu y ≤ 100000) (hn : n ≤ 12) (hC : ∀ m, C m ≤ 10000) (hG : ∀ m, G m ≤ 10000) (hB : ∀ i j, -5000 ≤ B i j ∧ B i j ≤ 5000) (hX : ∀ m, X m < 4096) (hDD : ∀ m, D m < 4096) (k : Nat) (hkY : k < Y) (hk2 : 0 ≤ nI k ∧ nI k ≤ nI Y - 1) : Met l yM_plan wdM_plan ({ frames := 5, cells := 0, slots := 0, locals := 113 }) (wrP (dC, dI) mcCl (mcWT o a q r cI cG la n v C G X D B bu lp) (mcTH cI cG) sz [.ref o, .int (nI Y), .int (nI k)]) (va_Qi (fun z9 (x : mcLP) => (∃ f9, z9 = nI f9 ∧ mc_seq (fun y b f => mc_pick (2 ^ mc_m6 n) (fun S => x.2.2.2.1 S ≤ x.2.2.1 y) (x.1 y) (x.2.1 y) b f) k f9) ∧ mc_plan n C G X D B bu Y x.1 x.2.1 x.2.2.1 x.2.2.2.1 x.2.2.2.2.1) (fun x t => va_P (dC, dI) mcCl (mcWT o a q r cI cG la n v C G X D B bu x) t.heap ∧ va_K (dC, dI) mcCl (mcTH cI cG) t ∧ va_D (va_A (mcWT o a q r cI cG la n v C G X D B bu lp) sz) (mcWT o a q r cI cG la n v C G X D B bu x)) (va_A (mcWT o a q r cI cG la n v C G X D B bu lp) sz)) 0 0 (va_A (mcWT o a q r cI cG la n v C G X D B bu lp) sz) := by
  refine Met.ofW (cc := bM_plan) (maxL := 3) (ret := (some FieldType.int)) (by decide) rfl ?_
  intro p e s m args below meth c s₁ BB hml hv
  obtain ⟨rfl, hsz, hP, hK, hD0⟩ := hv
  have hx := BB.exec
  have hb := BB.bytes
  have hr := BB.returns
  have hts := atoms_spec (ws := wdM_plan) BB.pre
  have hown : s.vm.findClass RM = some m.cls := findClass_of_methodNamed BB.named
  have hlocks := BB.notSynchronized
  subst hsz
  have hD := hD0.self (sz := s.heap.size)
  generalize hAe : va_A (mcWT o a q r cI cG la n v C G X D B bu lp) s.heap.size = A at hD ⊢
  have hA : ∀ q : Nat, s.heap.size ≤ q → A q := fun q h => by rw [← hAe]; exact Or.inr h
  have hS : va_S A s.heap s.heap [] := va_S.rf
  have hl := lv_entry ([.ref o, .int (nI Y), .int (nI k)]) (n := 3) (Nat.le_of_ble_eq_true rfl)
  rw [lg_entry_eq]
  generalize (lg_sl ([.ref o, .int (nI Y), .int (nI k)]) ++ List.replicate (3 - (lg_sl ([.ref o, .int (nI Y), .int (nI k)])).length) Slot.unset).toArray = ls at hl ⊢
  have hl : lv_has ls 3 [(0, .ref o), (1, .int (nI Y)), (2, .int (nI k))] := hl
  refine lv_iload_n hx hb dM_plan_0 rfl (lv_at hl 1 rfl) ?_
  refine lv_iconst (v := 1) hx hb dM_plan_1 (by decide) ?_
  refine lv_iconst (v := 4) hx hb dM_plan_2 (by decide) ?_
  refine callRSv (As := [.int (nI Y), .int 1, .int 4]) (rest := []) ⟨hx, hb, hml, hown, hts⟩ tlB (c_M_requireBetween_ok l (nI Y) 1 4 hY) kw195 kw196 kw25 kw197 ⟨rfl, rfl⟩ (n := 3) (by decide +kernel) ⟨Nat.le_of_ble_eq_true rfl, Nat.le_of_ble_eq_true rfl⟩ (nwP_pre) rfl hl.1 rfl (Nat.le_of_ble_eq_true rfl) ⟨Nat.le_of_ble_eq_true rfl, Nat.le_of_ble_eq_true rfl⟩ dM_plan_3 ?_
  refine lv_iload_n hx hb dM_plan_6 rfl (lv_at hl 2 rfl) ?_
  refine lv_iconst (v := 0) hx hb dM_plan_7 (by decide) ?_
  refine lv_iload_n hx hb dM_plan_8 rfl (lv_at hl 1 rfl) ?_
  refine lv_iconst (v := 1) hx hb dM_plan_9 (by decide) ?_
  refine lv_isub hx hb dM_plan_10 ?_
  refine callRSv (As := [.int (nI k), .int 0, .int ((nI Y) - 1)]) (rest := []) ⟨hx, hb, hml, hown, hts⟩ tlB (c_M_requireBetween_ok l (nI k) 0 ((nI Y) - 1) hk2) kw195 kw196 kw25 kw197 ⟨rfl, rfl⟩ (n := 3) (by decide +kernel) ⟨Nat.le_of_ble_eq_true rfl, Nat.le_of_ble_eq_true rfl⟩ (nwP_pre) rfl hl.1 rfl (Nat.le_of_ble_eq_true rfl) ⟨Nat.le_of_ble_eq_true rfl, Nat.le_of_ble_eq_true rfl⟩ dM_plan_11 ?_
  refine lv_aload_n hx hb dM_plan_14 rfl (lv_at hl 0 rfl) ?_
  refine va_get (D := (dC, dI)) (ci := 3) (C := RM) (T := FM) (N := 3) hx hb hts (fun w h => List.mem_cons_of_mem _ (inM w h)) hown hK hP 0 rfl rfl 2 (by decide) (hts _ (List.mem_cons_of_mem _ kw134)) (fun _ h9 => h9) rfl dM_plan_15 ?_
  refine lv_aload_n hx hb dM_plan_18 rfl (lv_at hl 0 rfl) ?_
  refine va_get (D := (dC, dI)) (ci := 3) (C := RM) (T := FM) (N := 3) hx hb hts (fun w h => List.mem_cons_of_mem _ (inM w h)) hown hK hP 0 rfl rfl 0 (by decide) (hts _ (List.mem_cons_of_mem _ kw132)) (fun _ h9 => h9) rfl dM_plan_19 ?_
  refine lv_iload_n hx hb dM_plan_22 rfl (lv_at hl 1 rfl) ?_
  have pmt := pm_PH (mcM1 o a q r) (mcA1 q cI la) (mcWH a cI cG n v C G X D B) (mcP1 r cI cG bu lp)
  have hPt := P_perm pmt hP
  have hDt := D_perm pmt hD
  refine callWX (As := [.ref (a 0), .int (nI Y)]) (rest := []) ⟨hx, hb, hml, hown, hts⟩ tlB (c_P_work l dC dI r a cI cG bu lp.1 lp.2.1 lp.2.2.1 lp.2.2.2.1 lp.2.2.2.2.1 lp.2.2.2.2.2 n v C G X D B s.heap.size hn hC hG hB hX hDD Y hY1 hY4 hbu) kw416 kw417 kw418 kw28 kw419 ⟨rfl, rfl⟩ (n := 2) (by decide +kernel) ⟨Nat.le_of_ble_eq_true rfl, Nat.le_of_ble_eq_true rfl⟩ hPt.lft hK hDt.lft hS (va_freeL hDt hS hA) (ci := 2) (q0 := 0) rfl rfl rfl hl.1 rfl (Nat.le_of_ble_eq_true rfl) ⟨Nat.le_of_ble_eq_true rfl, Nat.le_of_ble_eq_true rfl⟩ dM_plan_23 (fun u9 H1 locs1 hu hP1 hD1 hk1 hS1 => ?_)
  obtain ⟨T, P, pu, pr, ga⟩ := u9
  dsimp only at hu hP1 hD1
  obtain ⟨hPn, hDn⟩ := va_jnL hPt hDt hk1 (va_freeL hDt hS hA) hP1 hD1
  have pmb := (pm_PH (mcM1 o a q r) (mcA1 q cI la) (mcWH a cI cG n v C G X D B) (mcP1 r cI cG bu (T, P, pu, pr, ga, (2 ^ mc_m6 n)))).symm
  have hP := P_perm pmb hPn
  have hD := D_perm pmb hDn
  have hS := hS1
  obtain ⟨hpu, hjd, hdp⟩ := hu
  have h6 := mc_m6_le (n := n)
  have hp6 : 2 ^ mc_m6 n ≤ 2 ^ 6 := Nat.pow_le_pow_right (by decide) h6.1
  have hpp : 0 < 2 ^ mc_m6 n := Nat.pow_pos (by decide)
  have hpu4 : ∀ y, y < Y → pu y ≤ 400000 := fun y hy => by rw [hpu y (by omega)]; have := mc_pur_le hbu (y + 1); omega
  have hga : ∀ S, S < (2 ^ mc_m6 n) → -900000 ≤ ga S ∧ ga S ≤ 900000 := fun S hS9 => by rw [(hjd S hS9).2.2]; have := mc_gain_le (S := S) hG hB n hn; omega
  have hprb : ∀ S, S < (2 ^ mc_m6 n) → pr S < 2147483648 := fun S hS9 => by
    by_cases e : mc_law n X D S
    · rw [(hjd S hS9).1 e]; have := mc_cost_le (S := S) hC n; omega
    · rw [(hjd S hS9).2.1 e]; omega
  have hpr0 : pr 0 = 0 := by rw [(hjd 0 hpp).1 mc_law_zero, mc_cost_zero]
  refine lv_aload_n hx hb dM_plan_26 rfl (lv_at hl 0 rfl) ?_
  refine va_get (D := (dC, dI)) (ci := 3) (C := RM) (T := FM) (N := 3) hx hb hts (fun w h => List.mem_cons_of_mem _ (inM w h)) hown hK hP 0 rfl rfl 2 (by decide) (hts _ (List.mem_cons_of_mem _ kw134)) (fun _ h9 => h9) rfl dM_plan_27 ?_
  refine lv_iload_n hx hb dM_plan_30 rfl (lv_at hl 2 rfl) ?_
  refine callRV (As := [.int (nI k)]) (rest := []) ⟨hx, hb, hml, hown, hts⟩ tlB (c_P_boughtUpTo l dC dI r cI cG bu T P pu pr ga (2 ^ mc_m6 n) k (by omega) (by omega) hpp hpr0 (fun y hy => by rw [hpu y (by omega), hpu (y + 1) (by omega)]; exact Nat.le_add_right _ _) hprb (fun y hy => by have := hpu4 y (by omega); omega) (fun y S hy h8 h9 => (mc_dp_T hdp hY4 hga hpu4 (Nat.zero_le _) (by omega) h8 h9).1) (fun y S hy h8 h9 => (mc_dp_T hdp hY4 hga hpu4 (Nat.zero_le _) (by omega) h8 h9).2)) kw442 kw443 kw444 kw28 kw445 ⟨rfl, rfl⟩ (n := 1) (by decide +kernel) ⟨Nat.le_of_ble_eq_true rfl, Nat.le_of_ble_eq_true rfl⟩ (roP_preV (P_perm (pm_P _ _ _ _) hP).lft hK (ci := 2) (q0 := 0) rfl rfl) rfl hl.1 rfl (Nat.le_of_ble_eq_true rfl) ⟨Nat.le_of_ble_eq_true rfl, Nat.le_of_ble_eq_true rfl⟩ dM_plan_31 (fun r1 hr1 => ?_)
  obtain ⟨f9, rfl, hf9⟩ := hr1
  exact W.iret (v := (nI f9)) hx hb hr (fun t ht hW => ⟨⟨(nI f9), (T, P, pu, pr, ga, (2 ^ mc_m6 n)), rfl, ⟨⟨f9, rfl, hf9⟩, hpu, hjd, hdp⟩, by rw [ht]; exact hP, va_K.moved hW.alike hK, hD⟩, hS.F ht⟩) hS.2.2 dM_plan_34
set_option maxHeartbeats 4000000 in
set_option maxRecDepth 100000 in
theorem c_M_planned_ok (l : Launch) (dC : Nat → ClassId) (dI : Nat → Nat → Nat) (o : Nat) (a q r : Nat → Nat) (cI cG : ClassId) (la : mcLA) (n v : Nat) (C G X D : Nat → Nat) (B : Nat → Nat → Int) (bu : Nat → Nat) (lp : mcLP) (sz : Nat) (Y : Nat) (hY1 : 1 ≤ Y) (hY4 : Y ≤ 4) (hY : 1 ≤ nI Y ∧ nI Y ≤ 4) (hbu : ∀ y, bu y ≤ 100000) (hn : n ≤ 12) (hC : ∀ m, C m ≤ 10000) (hG : ∀ m, G m ≤ 10000) (hB : ∀ i j, -5000 ≤ B i j ∧ B i j ≤ 5000) (hX : ∀ m, X m < 4096) (hDD : ∀ m, D m < 4096) : Met l yM_planned wdM_planned ({ frames := 5, cells := 0, slots := 0, locals := 113 }) (wrP (dC, dI) mcCl (mcWT o a q r cI cG la n v C G X D B bu lp) (mcTH cI cG) sz [.ref o, .int (nI Y)]) (va_Qi (fun z9 (x : mcLP) => (∃ f9, z9 = iI (x.1 0 f9) ∧ mc_seq (fun y b f => mc_pick (2 ^ mc_m6 n) (fun S => x.2.2.2.1 S ≤ x.2.2.1 y) (x.1 y) (x.2.1 y) b f) 0 f9) ∧ mc_plan n C G X D B bu Y x.1 x.2.1 x.2.2.1 x.2.2.2.1 x.2.2.2.2.1) (fun x t => va_P (dC, dI) mcCl (mcWT o a q r cI cG la n v C G X D B bu x) t.heap ∧ va_K (dC, dI) mcCl (mcTH cI cG) t ∧ va_D (va_A (mcWT o a q r cI cG la n v C G X D B bu lp) sz) (mcWT o a q r cI cG la n v C G X D B bu x)) (va_A (mcWT o a q r cI cG la n v C G X D B bu lp) sz)) 0 0 (va_A (mcWT o a q r cI cG la n v C G X D B bu lp) sz) := by
  refine Met.ofW (cc := bM_planned) (maxL := 2) (ret := (some FieldType.int)) (by decide) rfl ?_
  intro p e s m args below meth c s₁ BB hml hv
  obtain ⟨rfl, hsz, hP, hK, hD0⟩ := hv
  have hx := BB.exec
  have hb := BB.bytes
  have hr := BB.returns
  have hts := atoms_spec (ws := wdM_planned) BB.pre
  have hown : s.vm.findClass RM = some m.cls := findClass_of_methodNamed BB.named
  have hlocks := BB.notSynchronized
  subst hsz
  have hD := hD0.self (sz := s.heap.size)
  generalize hAe : va_A (mcWT o a q r cI cG la n v C G X D B bu lp) s.heap.size = A at hD ⊢
  have hA : ∀ q : Nat, s.heap.size ≤ q → A q := fun q h => by rw [← hAe]; exact Or.inr h
  have hS : va_S A s.heap s.heap [] := va_S.rf
  have hl := lv_entry ([.ref o, .int (nI Y)]) (n := 2) (Nat.le_of_ble_eq_true rfl)
  rw [lg_entry_eq]
  generalize (lg_sl ([.ref o, .int (nI Y)]) ++ List.replicate (2 - (lg_sl ([.ref o, .int (nI Y)])).length) Slot.unset).toArray = ls at hl ⊢
  have hl : lv_has ls 2 [(0, .ref o), (1, .int (nI Y))] := hl
  refine lv_iload_n hx hb dM_planned_0 rfl (lv_at hl 1 rfl) ?_
  refine lv_iconst (v := 1) hx hb dM_planned_1 (by decide) ?_
  refine lv_iconst (v := 4) hx hb dM_planned_2 (by decide) ?_
  refine callRSv (As := [.int (nI Y), .int 1, .int 4]) (rest := []) ⟨hx, hb, hml, hown, hts⟩ tlB (c_M_requireBetween_ok l (nI Y) 1 4 hY) kw195 kw196 kw25 kw197 ⟨rfl, rfl⟩ (n := 3) (by decide +kernel) ⟨Nat.le_of_ble_eq_true rfl, Nat.le_of_ble_eq_true rfl⟩ (nwP_pre) rfl hl.1 rfl (Nat.le_of_ble_eq_true rfl) ⟨Nat.le_of_ble_eq_true rfl, Nat.le_of_ble_eq_true rfl⟩ dM_planned_3 ?_
  refine lv_aload_n hx hb dM_planned_6 rfl (lv_at hl 0 rfl) ?_
  refine va_get (D := (dC, dI)) (ci := 3) (C := RM) (T := FM) (N := 3) hx hb hts (fun w h => List.mem_cons_of_mem _ (inM w h)) hown hK hP 0 rfl rfl 2 (by decide) (hts _ (List.mem_cons_of_mem _ kw134)) (fun _ h9 => h9) rfl dM_planned_7 ?_
  refine lv_aload_n hx hb dM_planned_10 rfl (lv_at hl 0 rfl) ?_
  refine va_get (D := (dC, dI)) (ci := 3) (C := RM) (T := FM) (N := 3) hx hb hts (fun w h => List.mem_cons_of_mem _ (inM w h)) hown hK hP 0 rfl rfl 0 (by decide) (hts _ (List.mem_cons_of_mem _ kw132)) (fun _ h9 => h9) rfl dM_planned_11 ?_
  refine lv_iload_n hx hb dM_planned_14 rfl (lv_at hl 1 rfl) ?_
  have pmt := pm_PH (mcM1 o a q r) (mcA1 q cI la) (mcWH a cI cG n v C G X D B) (mcP1 r cI cG bu lp)
  have hPt := P_perm pmt hP
  have hDt := D_perm pmt hD
  refine callWX (As := [.ref (a 0), .int (nI Y)]) (rest := []) ⟨hx, hb, hml, hown, hts⟩ tlB (c_P_work l dC dI r a cI cG bu lp.1 lp.2.1 lp.2.2.1 lp.2.2.2.1 lp.2.2.2.2.1 lp.2.2.2.2.2 n v C G X D B s.heap.size hn hC hG hB hX hDD Y hY1 hY4 hbu) kw416 kw417 kw418 kw28 kw419 ⟨rfl, rfl⟩ (n := 2) (by decide +kernel) ⟨Nat.le_of_ble_eq_true rfl, Nat.le_of_ble_eq_true rfl⟩ hPt.lft hK hDt.lft hS (va_freeL hDt hS hA) (ci := 2) (q0 := 0) rfl rfl rfl hl.1 rfl (Nat.le_of_ble_eq_true rfl) ⟨Nat.le_of_ble_eq_true rfl, Nat.le_of_ble_eq_true rfl⟩ dM_planned_15 (fun u9 H1 locs1 hu hP1 hD1 hk1 hS1 => ?_)
  obtain ⟨T, P, pu, pr, ga⟩ := u9
  dsimp only at hu hP1 hD1
  obtain ⟨hPn, hDn⟩ := va_jnL hPt hDt hk1 (va_freeL hDt hS hA) hP1 hD1
  have pmb := (pm_PH (mcM1 o a q r) (mcA1 q cI la) (mcWH a cI cG n v C G X D B) (mcP1 r cI cG bu (T, P, pu, pr, ga, (2 ^ mc_m6 n)))).symm
  have hP := P_perm pmb hPn
  have hD := D_perm pmb hDn
  have hS := hS1
  obtain ⟨hpu, hjd, hdp⟩ := hu
  have h6 := mc_m6_le (n := n)
  have hp6 : 2 ^ mc_m6 n ≤ 2 ^ 6 := Nat.pow_le_pow_right (by decide) h6.1
  have hpp : 0 < 2 ^ mc_m6 n := Nat.pow_pos (by decide)
  have hpu4 : ∀ y, y < Y → pu y ≤ 400000 := fun y hy => by rw [hpu y (by omega)]; have := mc_pur_le hbu (y + 1); omega
  have hga : ∀ S, S < (2 ^ mc_m6 n) → -900000 ≤ ga S ∧ ga S ≤ 900000 := fun S hS9 => by rw [(hjd S hS9).2.2]; have := mc_gain_le (S := S) hG hB n hn; omega
  have hprb : ∀ S, S < (2 ^ mc_m6 n) → pr S < 2147483648 := fun S hS9 => by
    by_cases e : mc_law n X D S
    · rw [(hjd S hS9).1 e]; have := mc_cost_le (S := S) hC n; omega
    · rw [(hjd S hS9).2.1 e]; omega
  have hpr0 : pr 0 = 0 := by rw [(hjd 0 hpp).1 mc_law_zero, mc_cost_zero]
  refine lv_aload_n hx hb dM_planned_18 rfl (lv_at hl 0 rfl) ?_
  refine va_get (D := (dC, dI)) (ci := 3) (C := RM) (T := FM) (N := 3) hx hb hts (fun w h => List.mem_cons_of_mem _ (inM w h)) hown hK hP 0 rfl rfl 2 (by decide) (hts _ (List.mem_cons_of_mem _ kw134)) (fun _ h9 => h9) rfl dM_planned_19 ?_
  refine va_get (D := (dC, dI)) (ci := 2) (C := RP) (T := FP) (N := 7) hx hb hts (fun w h => List.mem_cons_of_mem _ (inP w h)) hown hK hP 22 rfl rfl 1 (by decide) (hts _ (List.mem_cons_of_mem _ kw111)) (fun _ h9 => h9) rfl dM_planned_22 ?_
  refine lv_iconst (v := 0) hx hb dM_planned_25 (by decide) ?_
  refine W.eq (g2 := F0 m 26 ls [.int (nI 0), .ref (r 2)]) rfl ?_
  refine aldaN hx hb hK hP 24 1 rfl rfl (k := 0) (by decide) (by decide) (r := (r (7 + 0))) rfl dM_planned_26 ?_
  refine lv_aload_n hx hb dM_planned_27 rfl (lv_at hl 0 rfl) ?_
  refine va_get (D := (dC, dI)) (ci := 3) (C := RM) (T := FM) (N := 3) hx hb hts (fun w h => List.mem_cons_of_mem _ (inM w h)) hown hK hP 0 rfl rfl 2 (by decide) (hts _ (List.mem_cons_of_mem _ kw134)) (fun _ h9 => h9) rfl dM_planned_28 ?_
  refine lv_iconst (v := 0) hx hb dM_planned_31 (by decide) ?_
  refine W.eq (g2 := F0 m 32 ls [.int (nI 0), .ref (r 0), .ref (r (7 + 0))]) rfl ?_
  refine callRV (As := [.int (nI 0)]) (rest := [.ref (r (7 + 0))]) ⟨hx, hb, hml, hown, hts⟩ tlB (c_P_boughtUpTo l dC dI r cI cG bu T P pu pr ga (2 ^ mc_m6 n) 0 (by omega) (by omega) hpp hpr0 (fun y hy => by rw [hpu y (by omega), hpu (y + 1) (by omega)]; exact Nat.le_add_right _ _) hprb (fun y hy => by have := hpu4 y (by omega); omega) (fun y S hy h8 h9 => (mc_dp_T hdp hY4 hga hpu4 (Nat.zero_le _) (by omega) h8 h9).1) (fun y S hy h8 h9 => (mc_dp_T hdp hY4 hga hpu4 (Nat.zero_le _) (by omega) h8 h9).2)) kw442 kw443 kw444 kw28 kw445 ⟨rfl, rfl⟩ (n := 1) (by decide +kernel) ⟨Nat.le_of_ble_eq_true rfl, Nat.le_of_ble_eq_true rfl⟩ (roP_preV (P_perm (pm_P _ _ _ _) hP).lft hK (ci := 2) (q0 := 0) rfl rfl) rfl hl.1 rfl (Nat.le_of_ble_eq_true rfl) ⟨Nat.le_of_ble_eq_true rfl, Nat.le_of_ble_eq_true rfl⟩ dM_planned_32 (fun r1 hr1 => ?_)
  obtain ⟨f9, rfl, hf9⟩ := hr1
  have hf64 : f9 < 64 := by have := hf9.1; omega
  refine ialdN hx hb hK hP 29 0 rfl rfl (k := f9) hf64 (by decide) (v := iI (T 0 f9)) rfl dM_planned_35 ?_
  exact W.iret (v := (iI (T 0 f9))) hx hb hr (fun t ht hW => ⟨⟨(iI (T 0 f9)), (T, P, pu, pr, ga, (2 ^ mc_m6 n)), rfl, ⟨⟨f9, rfl, hf9⟩, hpu, hjd, hdp⟩, by rw [ht]; exact hP, va_K.moved hW.alike hK, hD⟩, hS.F ht⟩) hS.2.2 dM_planned_36
