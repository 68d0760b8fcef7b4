/-! the planner: its methods that write -/
def mcT2 {α : Type} (T : Nat → Nat → α) (i j : Nat) (z : α) : Nat → Nat → α := fun x y => if x = i ∧ y = j then z else T x y
theorem mcT2_row {α : Type} {T : Nat → Nat → α} {i j : Nat} {z : α} {x : Nat} (h : x ≠ i) : mcT2 T i j z x = T x := funext fun y => by simp [mcT2, h]
theorem mcT2_at {α : Type} {T : Nat → Nat → α} {i j : Nat} {z : α} : mcT2 T i j z i j = z := by simp [mcT2]
theorem mcT2_ne {α : Type} {T : Nat → Nat → α} {i j : Nat} {z : α} {y : Nat} (h : y ≠ j) : mcT2 T i j z i y = T i y := by simp [mcT2, h]
theorem mcWP_len {r : Nat → Nat} {cI cG : ClassId} {bu : Nat → Nat} {T : Nat → Nat → Int} {P : Nat → Nat → Nat} {pu pr : Nat → Nat} {ga : Nat → Int} {se : Nat} : (mcWP r cI cG bu T P pu pr ga se).length = 15 := rfl
theorem mcWP_setT {r : Nat → Nat} {cI cG : ClassId} {bu : Nat → Nat} {T T' : Nat → Nat → Int} {P : Nat → Nat → Nat} {pu pr : Nat → Nat} {ga : Nat → Int} {se i : Nat} (hi : i < 4) (h : ∀ j, j ≠ i → T' j = T j) : (mcWP r cI cG bu T P pu pr ga se).set (7 + i) (r (7 + i), .inl (cI, 64, .inl (fun S => iI (T' i S)))) = mcWP r cI cG bu T' P pu pr ga se := by
  apply List.ext_getElem?
  intro k
  by_cases hk : k = 7 + i
  · subst hk
    rw [List.getElem?_set_self (by rw [mcWP_len]; omega), mcWP_T hi]
  · rw [List.getElem?_set_ne (Ne.symm hk)]
    by_cases h6 : k < 7
    · rcases (show k = 0 ∨ k = 1 ∨ k = 2 ∨ k = 3 ∨ k = 4 ∨ k = 5 ∨ k = 6 by omega) with rfl | rfl | rfl | rfl | rfl | rfl | rfl <;> rfl
    · by_cases h11 : k < 11
      · rw [show k = 7 + (k - 7) by omega, mcWP_T (by omega), mcWP_T (by omega), h (k - 7) (by omega)]
      · by_cases h15 : k < 15
        · rw [show k = 11 + (k - 11) by omega, mcWP_P (by omega), mcWP_P (by omega)]
        · rw [List.getElem?_eq_none (by rw [mcWP_len]; omega), List.getElem?_eq_none (by rw [mcWP_len]; omega)]
theorem mcWP_setP {r : Nat → Nat} {cI cG : ClassId} {bu : Nat → Nat} {T : Nat → Nat → Int} {P P' : Nat → Nat → Nat} {pu pr : Nat → Nat} {ga : Nat → Int} {se i : Nat} (hi : i < 4) (h : ∀ j, j ≠ i → P' j = P j) : (mcWP r cI cG bu T P pu pr ga se).set (11 + i) (r (11 + i), .inl (cI, 64, .inl (fun S => nI (P' i S)))) = mcWP r cI cG bu T P' pu pr ga se := by
  apply List.ext_getElem?
  intro k
  by_cases hk : k = 11 + i
  · subst hk
    rw [List.getElem?_set_self (by rw [mcWP_len]; omega), mcWP_P hi]
  · rw [List.getElem?_set_ne (Ne.symm hk)]
    by_cases h6 : k < 7
    · rcases (show k = 0 ∨ k = 1 ∨ k = 2 ∨ k = 3 ∨ k = 4 ∨ k = 5 ∨ k = 6 by omega) with rfl | rfl | rfl | rfl | rfl | rfl | rfl <;> rfl
    · by_cases h11 : k < 11
      · rw [show k = 7 + (k - 7) by omega, mcWP_T (by omega), mcWP_T (by omega)]
      · by_cases h15 : k < 15
        · rw [show k = 11 + (k - 11) by omega, mcWP_P (by omega), mcWP_P (by omega), h (k - 11) (by omega)]
        · rw [List.getElem?_eq_none (by rw [mcWP_len]; omega), List.getElem?_eq_none (by rw [mcWP_len]; omega)]
/-- all budgets up to a year -/
def mc_pur (bu : Nat → Nat) : Nat → Nat
  | 0 => 0
  | y + 1 => mc_pur bu y + bu y
theorem mc_pur_le {bu : Nat → Nat} (h : ∀ y, bu y ≤ 100000) : ∀ k, mc_pur bu k ≤ 100000 * k
  | 0 => Nat.le_refl 0
  | k + 1 => by
    have := mc_pur_le h k
    have h2 := h k
    simp only [mc_pur]
    omega
set_option maxHeartbeats 4000000 in
set_option maxRecDepth 100000 in
theorem c_P_fillPurses (l : Launch) (dC : Nat → ClassId) (dI : Nat → Nat → Nat) (r : Nat → Nat) (cI cG : ClassId) (bu : Nat → Nat) (T : Nat → Nat → Int) (P : Nat → Nat → Nat) (pu pr : Nat → Nat) (ga : Nat → Int) (se : Nat) (sz : Nat)  : Met l yP_fillPurses wdP_fillPurses ({ frames := 0, cells := 0, slots := 0, locals := 0 }) (wrP (dC, dI) mcCl (mcWP r cI cG bu T P pu pr ga se) (mcTH cI cG) sz [.ref (r 0)]) (va_Qv (fun x : Nat → Nat => ∀ y, y < 4 → x y = mc_pur bu (y + 1)) (fun x t => va_P (dC, dI) mcCl (mcWP r cI cG bu T P x pr ga se) t.heap ∧ va_K (dC, dI) mcCl (mcTH cI cG) t ∧ va_D (va_A (mcWP r cI cG bu T P pu pr ga se) sz) (mcWP r cI cG bu T P x pr ga se)) (va_A (mcWP r cI cG bu T P pu pr ga se) sz)) 0 0 (va_A (mcWP r cI cG bu T P pu pr ga se) sz) := by
  refine Met.ofW (cc := bP_fillPurses) (maxL := 3) (ret := none) (by decide) rfl ?_
  intro p e s m args below meth c s₁ BB hml hv
  obtain ⟨rfl, hsz, hP, hK, hD0⟩ := hv
  have hx := BB.exec
  have hb := BB.bytes
  have hr := BB.returns
  have hts := atoms_spec (ws := wdP_fillPurses) BB.pre
  have hown : s.vm.findClass RP = some m.cls := findClass_of_methodNamed BB.named
  have hlocks := BB.notSynchronized
  subst hsz
  have hD := hD0.self (sz := s.heap.size)
  generalize hAe : va_A (mcWP r cI cG bu T P pu pr ga se) s.heap.size = A at hD ⊢
  have hA : ∀ q : Nat, s.heap.size ≤ q → A q := fun q h => by rw [← hAe]; exact Or.inr h
  have hS : va_S A s.heap s.heap [] := va_S.rf
  have hl := lv_entry ([.ref (r 0)]) (n := 3) (Nat.le_of_ble_eq_true rfl)
  rw [lg_entry_eq]
  generalize (lg_sl ([.ref (r 0)]) ++ List.replicate (3 - (lg_sl ([.ref (r 0)])).length) Slot.unset).toArray = ls at hl ⊢
  have hl : lv_has ls 3 [(0, .ref (r 0))] := hl
  refine lv_iconst (v := 0) hx hb dP_fillPurses_0 (by decide) ?_
  refine lv_istore_n (lv' := [(1, .int 0), (0, .ref (r 0))]) hx hb dP_fillPurses_1 rfl hl (by decide) rfl (fun ls hl => ?_)
  refine lv_iconst (v := 0) hx hb dP_fillPurses_2 (by decide) ?_
  refine lv_istore_n (lv' := [(2, .int 0), (1, .int 0), (0, .ref (r 0))]) hx hb dP_fillPurses_3 rfl hl (by decide) rfl (fun ls hl => ?_)
  refine lpW (σ := Nat × (Nat → Nat)) (fun x H locs => x.1 ≤ 4 ∧ (∀ y, y < x.1 → x.2 y = mc_pur bu (y + 1)) ∧ va_P (dC, dI) mcCl (mcWP r cI cG bu T P x.2 pr ga se) H ∧ va_D A (mcWP r cI cG bu T P x.2 pr ga se) ∧ va_S A s.heap H locs) (fun x => [(0, .ref (r 0)), (1, .int (nI (mc_pur bu x.1))), (2, .int (nI x.1))]) (fun x => 4 - x.1) (fun x H locs ls hI hl ih => ?_) ((0, pu)) _ _ ls (⟨Nat.zero_le _, fun y h => absurd h (Nat.not_lt_zero y), hP, hD, hS⟩) (lv_sub hl [2, 1, 0] rfl)
  obtain ⟨k, g⟩ := x
  have hl : lv_has ls 3 [(0, .ref (r 0)), (1, .int (nI (mc_pur bu k))), (2, .int (nI k))] := hl
  obtain ⟨hk, hI, hP, hD, hS⟩ := hI
  dsimp only at hk hI hP hD
  refine lv_iload_n hx hb dP_fillPurses_4 rfl (lv_at hl 2 rfl) ?_
  refine lv_iconst (v := 4) hx hb dP_fillPurses_5 (by decide) ?_
  refine lv_icmp_ge (tgt := 31) hx hb dP_fillPurses_6 (by decide) (fun c1 => ?_) (fun c1 => ?_)
  · have hkn : 4 ≤ k := (nI_leI (a := 4) (b := k) (by omega) (by omega)).mp c1
    exact W.vret hx hb hr (fun t ht hW => ⟨⟨g, rfl, (fun y hy => hI y (by omega)), by rw [ht]; exact hP, va_K.moved hW.alike hK, hD⟩, hS.F ht⟩) hS.2.2 dP_fillPurses_31
  · have hkn : k < 4 := by
      rcases Nat.lt_or_ge k 4 with z | z
      · exact z
      · exact absurd (nI_le (a := 4) (b := k) z (by omega)) c1
    refine lv_iload_n hx hb dP_fillPurses_9 rfl (lv_at hl 1 rfl) ?_
    refine lv_aload_n hx hb dP_fillPurses_10 rfl (lv_at hl 0 rfl) ?_
    refine va_get (D := (dC, dI)) (ci := 2) (C := RP) (T := FP) (N := 7) hx hb hts (fun w h => List.mem_cons_of_mem _ (inP w h)) hown hK hP 0 rfl rfl 0 (by decide) (hts _ (List.mem_cons_of_mem _ kw108)) (fun _ h9 => h9) rfl dP_fillPurses_11 ?_
    refine lv_iload_n hx hb dP_fillPurses_14 rfl (lv_at hl 2 rfl) ?_
    refine ialdN hx hb hK hP 1 0 rfl rfl (k := k) hkn (by decide) (v := nI (bu k)) rfl dP_fillPurses_15 ?_
    refine lv_iadd hx hb dP_fillPurses_16 ?_
    refine lv_topi (fun y1 ey1 => ?_)
    have hy1 : y1 = nI (mc_pur bu (k + 1)) := by rw [ey1, nI_add]; rfl
    subst hy1
    refine lv_istore_n (lv' := [(1, .int (nI (mc_pur bu (k + 1)))), (0, .ref (r 0)), (2, .int (nI k))]) hx hb dP_fillPurses_17 rfl hl (by decide) rfl (fun ls hl => ?_)
    refine lv_aload_n hx hb dP_fillPurses_18 rfl (lv_at hl 1 rfl) ?_
    refine va_get (D := (dC, dI)) (ci := 2) (C := RP) (T := FP) (N := 7) hx hb hts (fun w h => List.mem_cons_of_mem _ (inP w h)) hown hK hP 0 rfl rfl 3 (by decide) (hts _ (List.mem_cons_of_mem _ kw113)) (fun _ h9 => h9) rfl dP_fillPurses_19 ?_
    refine lv_iload_n hx hb dP_fillPurses_22 rfl (lv_at hl 2 rfl) ?_
    refine lv_iload_n hx hb dP_fillPurses_23 rfl (lv_at hl 0 rfl) ?_
    refine iastN hx hb hK hP hD hS 4 0 rfl rfl (k := k) hkn (by decide) (x := nI (mc_pur bu (k + 1))) (fun j => nI (va_up g k (mc_pur bu (k + 1)) j)) (fun j => by simp only [va_up]; split <;> rfl) (ws' := mcWP r cI cG bu T P (va_up g k (mc_pur bu (k + 1))) pr ga se) (rfl) dP_fillPurses_24 (fun H locs hP hD hS => ?_)
    refine lv_iinc (v := (nI (k + 1))) (lv' := [(2, .int (nI (k + 1))), (1, .int (nI (mc_pur bu (k + 1)))), (0, .ref (r 0))]) hx hb dP_fillPurses_25 hl (k := 2) rfl (nI_1 k) (by decide) rfl (fun ls hl => ?_)
    refine lv_goto (tgt := 4) hx hb dP_fillPurses_28 (by decide) ?_
    exact ih (k + 1, va_up g k (mc_pur bu (k + 1))) H locs ls (⟨hkn, lt_s (fun y hy => by simp only [va_up]; rw [if_neg (by omega)]; exact hI y hy) (by simp [va_up]), hP, hD, hS⟩) (by dsimp only; omega) (lv_sub hl [2, 1, 0] rfl)
set_option maxHeartbeats 4000000 in
set_option maxRecDepth 100000 in
theorem c_P_workYear1 (l : Launch) (dC : Nat → ClassId) (dI : Nat → Nat → Nat) (r : Nat → Nat) (cI cG : ClassId) (bu : Nat → Nat) (T : Nat → Nat → Int) (P : Nat → Nat → Nat) (pu pr : Nat → Nat) (ga : Nat → Int) (se : Nat) (sz : Nat) (y : Nat) (hy : y < 4) (hse : se ≤ 64) (hpr : ∀ S, S < se → pr S < 2147483648) (hpu : pu y < 2147483648) : Met l yP_workYear wdP_workYear ({ frames := 2, cells := 0, slots := 0, locals := 47 }) (wrP (dC, dI) mcCl (mcWP r cI cG bu T P pu pr ga se) (mcTH cI cG) sz [.ref (r 0), .int (nI y), .int 1]) (va_Qv (fun x : (Nat → Nat → Int) × (Nat → Nat → Nat) => (∀ j, j ≠ y → x.1 j = T j) ∧ (∀ j, j ≠ y → x.2 j = P j) ∧ ∀ S, S < se → pr S ≤ pu y → x.1 y S = ga S ∧ x.2 y S = pr S) (fun x t => va_P (dC, dI) mcCl (mcWP r cI cG bu x.1 x.2 pu pr ga se) t.heap ∧ va_K (dC, dI) mcCl (mcTH cI cG) t ∧ va_D (va_A (mcWP r cI cG bu T P pu pr ga se) sz) (mcWP r cI cG bu x.1 x.2 pu pr ga se)) (va_A (mcWP r cI cG bu T P pu pr ga se) sz)) 0 0 (va_A (mcWP r cI cG bu T P pu pr ga se) sz) := by
  refine Met.ofW (cc := bP_workYear) (maxL := 5) (ret := none) (by decide) rfl ?_
  intro p e s m args below meth c s₁ BB hml hv
  obtain ⟨rfl, hsz, hP, hK, hD0⟩ := hv
  have hx := BB.exec
  have hb := BB.bytes
  have hr := BB.returns
  have hts := atoms_spec (ws := wdP_workYear) BB.pre
  have hown : s.vm.findClass RP = some m.cls := findClass_of_methodNamed BB.named
  have hlocks := BB.notSynchronized
  subst hsz
  have hD := hD0.self (sz := s.heap.size)
  generalize hAe : va_A (mcWP r cI cG bu T P pu pr ga se) s.heap.size = A at hD ⊢
  have hA : ∀ q : Nat, s.heap.size ≤ q → A q := fun q h => by rw [← hAe]; exact Or.inr h
  have hS : va_S A s.heap s.heap [] := va_S.rf
  have hl := lv_entry ([.ref (r 0), .int (nI y), .int 1]) (n := 5) (Nat.le_of_ble_eq_true rfl)
  rw [lg_entry_eq]
  generalize (lg_sl ([.ref (r 0), .int (nI y), .int 1]) ++ List.replicate (5 - (lg_sl ([.ref (r 0), .int (nI y), .int 1])).length) Slot.unset).toArray = ls at hl ⊢
  have hl : lv_has ls 5 [(0, .ref (r 0)), (1, .int (nI y)), (2, .int 1)] := hl
  refine lv_iconst (v := 0) hx hb dP_workYear_0 (by decide) ?_
  refine lv_istore_n (lv' := [(3, .int 0), (0, .ref (r 0)), (1, .int (nI y)), (2, .int 1)]) hx hb dP_workYear_1 rfl hl (by decide) rfl (fun ls hl => ?_)
  refine lpW (σ := Nat × (Nat → Nat → Int) × (Nat → Nat → Nat)) (fun x H locs => x.1 ≤ se ∧ ((∀ j, j ≠ y → x.2.1 j = T j) ∧ (∀ j, j ≠ y → x.2.2 j = P j) ∧ ∀ S, S < x.1 → pr S ≤ pu y → x.2.1 y S = ga S ∧ x.2.2 y S = pr S) ∧ va_P (dC, dI) mcCl (mcWP r cI cG bu x.2.1 x.2.2 pu pr ga se) H ∧ va_D A (mcWP r cI cG bu x.2.1 x.2.2 pu pr ga se) ∧ va_S A s.heap H locs) (fun x => [(0, .ref (r 0)), (1, .int (nI y)), (2, .int 1), (3, .int (nI x.1))]) (fun x => se - x.1) (fun x H locs ls hI hl ih => ?_) ((0, T, P)) _ _ ls (⟨Nat.zero_le _, ⟨fun _ _ => rfl, fun _ _ => rfl, fun S h => absurd h (Nat.not_lt_zero S)⟩, hP, hD, hS⟩) (lv_sub hl [1, 2, 3, 0] rfl)
  obtain ⟨k, T2, P2⟩ := x
  have hl : lv_has ls 5 [(0, .ref (r 0)), (1, .int (nI y)), (2, .int 1), (3, .int (nI k))] := hl
  obtain ⟨hk, ⟨hI1, hI2, hI3⟩, hP, hD, hS⟩ := hI
  dsimp only at hk hI1 hI2 hI3 hP hD
  refine lv_iload_n hx hb dP_workYear_2 rfl (lv_at hl 3 rfl) ?_
  refine lv_aload_n hx hb dP_workYear_3 rfl (lv_at hl 0 rfl) ?_
  refine va_get (D := (dC, dI)) (ci := 2) (C := RP) (T := FP) (N := 7) hx hb hts (fun w h => List.mem_cons_of_mem _ (inP w h)) hown hK hP 0 rfl rfl 6 (by decide) (hts _ (List.mem_cons_of_mem _ kw116)) (fun _ h9 => h9) rfl dP_workYear_4 ?_
  refine lv_icmp_ge (tgt := 121) hx hb dP_workYear_7 (by decide) (fun c1 => ?_) (fun c1 => ?_)
  · have hkn : k = se := by have := (nI_leI (by omega) (by omega)).mp c1; omega
    exact W.vret hx hb hr (fun t ht hW => ⟨⟨(T2, P2), rfl, ⟨hI1, hI2, fun S hS9 => hI3 S (by omega)⟩, by rw [ht]; exact hP, va_K.moved hW.alike hK, hD⟩, hS.F ht⟩) hS.2.2 dP_workYear_121
  · have hkn : k < se := by
      rcases Nat.lt_or_ge k se with z | z
      · exact z
      · exact absurd (nI_le z (by omega)) c1
    have hkp := hpr k hkn
    refine lv_aload_n hx hb dP_workYear_10 rfl (lv_at hl 0 rfl) ?_
    refine va_get (D := (dC, dI)) (ci := 2) (C := RP) (T := FP) (N := 7) hx hb hts (fun w h => List.mem_cons_of_mem _ (inP w h)) hown hK hP 0 rfl rfl 4 (by decide) (hts _ (List.mem_cons_of_mem _ kw114)) (fun _ h9 => h9) rfl dP_workYear_11 ?_
    refine lv_iload_n hx hb dP_workYear_14 rfl (lv_at hl 3 rfl) ?_
    refine ialdN hx hb hK hP 5 0 rfl rfl (k := k) (by omega) (by decide) (v := nI (pr k)) rfl dP_workYear_15 ?_
    refine lv_aload_n hx hb dP_workYear_16 rfl (lv_at hl 0 rfl) ?_
    refine va_get (D := (dC, dI)) (ci := 2) (C := RP) (T := FP) (N := 7) hx hb hts (fun w h => List.mem_cons_of_mem _ (inP w h)) hown hK hP 0 rfl rfl 3 (by decide) (hts _ (List.mem_cons_of_mem _ kw113)) (fun _ h9 => h9) rfl dP_workYear_17 ?_
    refine lv_iload_n hx hb dP_workYear_20 rfl (lv_at hl 1 rfl) ?_
    refine ialdN hx hb hK hP 4 0 rfl rfl (k := y) hy (by decide) (v := nI (pu y)) rfl dP_workYear_21 ?_
    refine lv_icmp_gt (tgt := 115) hx hb dP_workYear_22 (by decide) (fun c2 => ?_) (fun c2 => ?_)
    · have c2 : pu y < pr k := (nI_ltI (by omega) (by omega)).mp c2
      refine lv_iinc (v := (nI (k + 1))) (lv' := [(3, .int (nI (k + 1))), (0, .ref (r 0)), (1, .int (nI y)), (2, .int 1)]) hx hb dP_workYear_115 hl (k := 3) rfl (nI_1 k) (by decide) rfl (fun ls hl => ?_)
      refine lv_goto (tgt := 2) hx hb dP_workYear_118 (by decide) ?_
      exact ih (k + 1, T2, P2) H locs ls (⟨hkn, ⟨hI1, hI2, lt_s hI3 (fun h => absurd h (by omega))⟩, hP, hD, hS⟩) (by dsimp only; omega) (lv_sub hl [1, 2, 3, 0] rfl)
    · have c2 : pr k ≤ pu y := by
        rcases Nat.lt_or_ge (pu y) (pr k) with z | z
        · exact absurd ((nI_ltI (by omega) (by omega)).mpr z) c2
        · exact z
      refine lv_iload_n hx hb dP_workYear_25 rfl (lv_at hl 2 rfl) ?_
      refine lv_if_eq (tgt := 60) hx hb dP_workYear_26 (by decide) (fun c3 => ?_) (fun c3 => ?_)
      · exact absurd c3 (by decide)
      ·
        refine lv_aload_n hx hb dP_workYear_29 rfl (lv_at hl 0 rfl) ?_
        refine va_get (D := (dC, dI)) (ci := 2) (C := RP) (T := FP) (N := 7) hx hb hts (fun w h => List.mem_cons_of_mem _ (inP w h)) hown hK hP 0 rfl rfl 1 (by decide) (hts _ (List.mem_cons_of_mem _ kw110)) (fun _ h9 => h9) rfl dP_workYear_30 ?_
        refine lv_iload_n hx hb dP_workYear_33 rfl (lv_at hl 1 rfl) ?_
        refine aldaN hx hb hK hP 2 1 rfl rfl (k := y) hy (by decide) (r := (r (7 + y))) (if_pos hy) dP_workYear_34 ?_
        refine lv_iload_n hx hb dP_workYear_35 rfl (lv_at hl 3 rfl) ?_
        refine lv_aload_n hx hb dP_workYear_36 rfl (lv_at hl 0 rfl) ?_
        refine va_get (D := (dC, dI)) (ci := 2) (C := RP) (T := FP) (N := 7) hx hb hts (fun w h => List.mem_cons_of_mem _ (inP w h)) hown hK hP 0 rfl rfl 5 (by decide) (hts _ (List.mem_cons_of_mem _ kw115)) (fun _ h9 => h9) rfl dP_workYear_37 ?_
        refine lv_iload_n hx hb dP_workYear_40 rfl (lv_at hl 3 rfl) ?_
        refine ialdN hx hb hK hP 6 0 rfl rfl (k := k) (by omega) (by decide) (v := iI (ga k)) rfl dP_workYear_41 ?_
        refine iastN hx hb hK hP hD hS (7 + y) 0 (mcWP_T hy) rfl (k := k) (by omega) (by decide) (x := iI (ga k)) (fun S => iI ((mcT2 T2 y k (ga k)) y S)) (fun j => by simp only [mcT2, true_and]; split <;> rfl) (ws' := mcWP r cI cG bu (mcT2 T2 y k (ga k)) P2 pu pr ga se) (mcWP_setT hy (fun j hj => mcT2_row hj)) dP_workYear_42 (fun H locs hP hD hS => ?_)
        refine lv_aload_n hx hb dP_workYear_43 rfl (lv_at hl 0 rfl) ?_
        refine va_get (D := (dC, dI)) (ci := 2) (C := RP) (T := FP) (N := 7) hx hb hts (fun w h => List.mem_cons_of_mem _ (inP w h)) hown hK hP 0 rfl rfl 2 (by decide) (hts _ (List.mem_cons_of_mem _ kw112)) (fun _ h9 => h9) rfl dP_workYear_44 ?_
        refine lv_iload_n hx hb dP_workYear_47 rfl (lv_at hl 1 rfl) ?_
        refine aldaN hx hb hK hP 3 1 rfl rfl (k := y) hy (by decide) (r := (r (11 + y))) (if_pos hy) dP_workYear_48 ?_
        refine lv_iload_n hx hb dP_workYear_49 rfl (lv_at hl 3 rfl) ?_
        refine lv_aload_n hx hb dP_workYear_50 rfl (lv_at hl 0 rfl) ?_
        refine va_get (D := (dC, dI)) (ci := 2) (C := RP) (T := FP) (N := 7) hx hb hts (fun w h => List.mem_cons_of_mem _ (inP w h)) hown hK hP 0 rfl rfl 4 (by decide) (hts _ (List.mem_cons_of_mem _ kw114)) (fun _ h9 => h9) rfl dP_workYear_51 ?_
        refine lv_iload_n hx hb dP_workYear_54 rfl (lv_at hl 3 rfl) ?_
        refine ialdN hx hb hK hP 5 0 rfl rfl (k := k) (by omega) (by decide) (v := nI (pr k)) rfl dP_workYear_55 ?_
        refine iastN hx hb hK hP hD hS (11 + y) 0 (mcWP_P hy) rfl (k := k) (by omega) (by decide) (x := nI (pr k)) (fun S => nI ((mcT2 P2 y k (pr k)) y S)) (fun j => by simp only [mcT2, true_and]; split <;> rfl) (ws' := mcWP r cI cG bu (mcT2 T2 y k (ga k)) (mcT2 P2 y k (pr k)) pu pr ga se) (mcWP_setP hy (fun j hj => mcT2_row hj)) dP_workYear_56 (fun H locs hP hD hS => ?_)
        refine lv_goto (tgt := 115) hx hb dP_workYear_57 (by decide) ?_
        refine lv_iinc (v := (nI (k + 1))) (lv' := [(3, .int (nI (k + 1))), (0, .ref (r 0)), (1, .int (nI y)), (2, .int 1)]) hx hb dP_workYear_115 hl (k := 3) rfl (nI_1 k) (by decide) rfl (fun ls hl => ?_)
        refine lv_goto (tgt := 2) hx hb dP_workYear_118 (by decide) ?_
        exact ih (k + 1, mcT2 T2 y k (ga k), mcT2 P2 y k (pr k)) H locs ls (⟨hkn, ⟨fun j hj => by dsimp only; rw [mcT2_row hj]; exact hI1 j hj, fun j hj => by dsimp only; rw [mcT2_row hj]; exact hI2 j hj, lt_s (fun S hS9 h9 => by dsimp only; rw [mcT2_ne (by omega), mcT2_ne (by omega)]; exact hI3 S hS9 h9) (fun _ => ⟨mcT2_at, mcT2_at⟩)⟩, hP, hD, hS⟩) (by dsimp only; omega) (lv_sub hl [1, 2, 3, 0] rfl)
set_option maxHeartbeats 4000000 in
set_option maxRecDepth 100000 in
theorem c_P_workYear0 (l : Launch) (dC : Nat → ClassId) (dI : Nat → Nat → Nat) (r : Nat → Nat) (cI cG : ClassId) (bu : Nat → Nat) (T : Nat → Nat → Int) (P : Nat → Nat → Nat) (pu pr : Nat → Nat) (ga : Nat → Int) (se : Nat) (sz : Nat) (y : Nat) (hy3 : y < 3) (hy : y < 4) (hse : se ≤ 64) (hpr : ∀ S, S < se → pr S < 2147483648) (hpu : pu y < 2147483648) (hmo : pu y ≤ pu (y + 1)) (hpu1 : pu (y + 1) < 2147483648) (hT : ∀ S, S < se → pr S ≤ pu (y + 1) → -2147483648 ≤ T (y + 1) S ∧ T (y + 1) S < 2147483648) (hP9 : ∀ S, S < se → pr S ≤ pu (y + 1) → P (y + 1) S < 2147483648) : Met l yP_workYear wdP_workYear ({ frames := 2, cells := 0, slots := 0, locals := 47 }) (wrP (dC, dI) mcCl (mcWP r cI cG bu T P pu pr ga se) (mcTH cI cG) sz [.ref (r 0), .int (nI y), .int 0]) (va_Qv (fun x : (Nat → Nat → Int) × (Nat → Nat → Nat) => (∀ j, j ≠ y → x.1 j = T j) ∧ (∀ j, j ≠ y → x.2 j = P j) ∧ ∀ S, S < se → pr S ≤ pu y → ∃ f, mc_pick se (fun U => pr U ≤ pu (y + 1)) (T (y + 1)) (P (y + 1)) S f ∧ x.1 y S = ga S + T (y + 1) f ∧ x.2 y S = P (y + 1) f) (fun x t => va_P (dC, dI) mcCl (mcWP r cI cG bu x.1 x.2 pu pr ga se) t.heap ∧ va_K (dC, dI) mcCl (mcTH cI cG) t ∧ va_D (va_A (mcWP r cI cG bu T P pu pr ga se) sz) (mcWP r cI cG bu x.1 x.2 pu pr ga se)) (va_A (mcWP r cI cG bu T P pu pr ga se) sz)) 0 0 (va_A (mcWP r cI cG bu T P pu pr ga se) sz) := by
  refine Met.ofW (cc := bP_workYear) (maxL := 5) (ret := none) (by decide) rfl ?_
  intro p e s m args below meth c s₁ BB hml hv
  obtain ⟨rfl, hsz, hP, hK, hD0⟩ := hv
  have hx := BB.exec
  have hb := BB.bytes
  have hr := BB.returns
  have hts := atoms_spec (ws := wdP_workYear) BB.pre
  have hown : s.vm.findClass RP = some m.cls := findClass_of_methodNamed BB.named
  have hlocks := BB.notSynchronized
  subst hsz
  have hD := hD0.self (sz := s.heap.size)
  generalize hAe : va_A (mcWP r cI cG bu T P pu pr ga se) s.heap.size = A at hD ⊢
  have hA : ∀ q : Nat, s.heap.size ≤ q → A q := fun q h => by rw [← hAe]; exact Or.inr h
  have hS : va_S A s.heap s.heap [] := va_S.rf
  have hl := lv_entry ([.ref (r 0), .int (nI y), .int 0]) (n := 5) (Nat.le_of_ble_eq_true rfl)
  rw [lg_entry_eq]
  generalize (lg_sl ([.ref (r 0), .int (nI y), .int 0]) ++ List.replicate (5 - (lg_sl ([.ref (r 0), .int (nI y), .int 0])).length) Slot.unset).toArray = ls at hl ⊢
  have hl : lv_has ls 5 [(0, .ref (r 0)), (1, .int (nI y)), (2, .int 0)] := hl
  refine lv_iconst (v := 0) hx hb dP_workYear_0 (by decide) ?_
  refine lv_istore_n (lv' := [(3, .int 0), (0, .ref (r 0)), (1, .int (nI y)), (2, .int 0)]) hx hb dP_workYear_1 rfl hl (by decide) rfl (fun ls hl => ?_)
  refine lpW (σ := Nat × (Nat → Nat → Int) × (Nat → Nat → Nat)) (fun x H locs => x.1 ≤ se ∧ ((∀ j, j ≠ y → x.2.1 j = T j) ∧ (∀ j, j ≠ y → x.2.2 j = P j) ∧ ∀ S, S < x.1 → pr S ≤ pu y → ∃ f, mc_pick se (fun U => pr U ≤ pu (y + 1)) (T (y + 1)) (P (y + 1)) S f ∧ x.2.1 y S = ga S + T (y + 1) f ∧ x.2.2 y S = P (y + 1) f) ∧ va_P (dC, dI) mcCl (mcWP r cI cG bu x.2.1 x.2.2 pu pr ga se) H ∧ va_D A (mcWP r cI cG bu x.2.1 x.2.2 pu pr ga se) ∧ va_S A s.heap H locs) (fun x => [(0, .ref (r 0)), (1, .int (nI y)), (2, .int 0), (3, .int (nI x.1))]) (fun x => se - x.1) (fun x H locs ls hI hl ih => ?_) ((0, T, P)) _ _ ls (⟨Nat.zero_le _, ⟨fun _ _ => rfl, fun _ _ => rfl, fun S h => absurd h (Nat.not_lt_zero S)⟩, hP, hD, hS⟩) (lv_sub hl [1, 2, 3, 0] rfl)
  obtain ⟨k, T2, P2⟩ := x
  have hl : lv_has ls 5 [(0, .ref (r 0)), (1, .int (nI y)), (2, .int 0), (3, .int (nI k))] := hl
  obtain ⟨hk, ⟨hI1, hI2, hI3⟩, hP, hD, hS⟩ := hI
  dsimp only at hk hI1 hI2 hI3 hP hD
  refine lv_iload_n hx hb dP_workYear_2 rfl (lv_at hl 3 rfl) ?_
  refine lv_aload_n hx hb dP_workYear_3 rfl (lv_at hl 0 rfl) ?_
  refine va_get (D := (dC, dI)) (ci := 2) (C := RP) (T := FP) (N := 7) hx hb hts (fun w h => List.mem_cons_of_mem _ (inP w h)) hown hK hP 0 rfl rfl 6 (by decide) (hts _ (List.mem_cons_of_mem _ kw116)) (fun _ h9 => h9) rfl dP_workYear_4 ?_
  refine lv_icmp_ge (tgt := 121) hx hb dP_workYear_7 (by decide) (fun c1 => ?_) (fun c1 => ?_)
  · have hkn : k = se := by have := (nI_leI (by omega) (by omega)).mp c1; omega
    exact W.vret hx hb hr (fun t ht hW => ⟨⟨(T2, P2), rfl, ⟨hI1, hI2, fun S hS9 => hI3 S (by omega)⟩, by rw [ht]; exact hP, va_K.moved hW.alike hK, hD⟩, hS.F ht⟩) hS.2.2 dP_workYear_121
  · have hkn : k < se := by
      rcases Nat.lt_or_ge k se with z | z
      · exact z
      · exact absurd (nI_le z (by omega)) c1
    have hkp := hpr k hkn
    refine lv_aload_n hx hb dP_workYear_10 rfl (lv_at hl 0 rfl) ?_
    refine va_get (D := (dC, dI)) (ci := 2) (C := RP) (T := FP) (N := 7) hx hb hts (fun w h => List.mem_cons_of_mem _ (inP w h)) hown hK hP 0 rfl rfl 4 (by decide) (hts _ (List.mem_cons_of_mem _ kw114)) (fun _ h9 => h9) rfl dP_workYear_11 ?_
    refine lv_iload_n hx hb dP_workYear_14 rfl (lv_at hl 3 rfl) ?_
    refine ialdN hx hb hK hP 5 0 rfl rfl (k := k) (by omega) (by decide) (v := nI (pr k)) rfl dP_workYear_15 ?_
    refine lv_aload_n hx hb dP_workYear_16 rfl (lv_at hl 0 rfl) ?_
    refine va_get (D := (dC, dI)) (ci := 2) (C := RP) (T := FP) (N := 7) hx hb hts (fun w h => List.mem_cons_of_mem _ (inP w h)) hown hK hP 0 rfl rfl 3 (by decide) (hts _ (List.mem_cons_of_mem _ kw113)) (fun _ h9 => h9) rfl dP_workYear_17 ?_
    refine lv_iload_n hx hb dP_workYear_20 rfl (lv_at hl 1 rfl) ?_
    refine ialdN hx hb hK hP 4 0 rfl rfl (k := y) hy (by decide) (v := nI (pu y)) rfl dP_workYear_21 ?_
    refine lv_icmp_gt (tgt := 115) hx hb dP_workYear_22 (by decide) (fun c2 => ?_) (fun c2 => ?_)
    · have c2 : pu y < pr k := (nI_ltI (by omega) (by omega)).mp c2
      refine lv_iinc (v := (nI (k + 1))) (lv' := [(3, .int (nI (k + 1))), (0, .ref (r 0)), (1, .int (nI y)), (2, .int 0)]) hx hb dP_workYear_115 hl (k := 3) rfl (nI_1 k) (by decide) rfl (fun ls hl => ?_)
      refine lv_goto (tgt := 2) hx hb dP_workYear_118 (by decide) ?_
      exact ih (k + 1, T2, P2) H locs ls (⟨hkn, ⟨hI1, hI2, lt_s hI3 (fun h => absurd h (by omega))⟩, hP, hD, hS⟩) (by dsimp only; omega) (lv_sub hl [1, 2, 3, 0] rfl)
    · have c2 : pr k ≤ pu y := by
        rcases Nat.lt_or_ge (pu y) (pr k) with z | z
        · exact absurd ((nI_ltI (by omega) (by omega)).mpr z) c2
        · exact z
      refine lv_iload_n hx hb dP_workYear_25 rfl (lv_at hl 2 rfl) ?_
      refine lv_if_eq (tgt := 60) hx hb dP_workYear_26 (by decide) (fun c3 => ?_) (fun c3 => ?_)
      · skip
        refine lv_aload_n hx hb dP_workYear_60 rfl (lv_at hl 0 rfl) ?_
        refine lv_iload_n hx hb dP_workYear_61 rfl (lv_at hl 3 rfl) ?_
        refine lv_iload_n hx hb dP_workYear_62 rfl (lv_at hl 1 rfl) ?_
        refine lv_iconst (v := 1) hx hb dP_workYear_63 (by decide) ?_
        refine lv_iadd hx hb dP_workYear_64 ?_
        refine lv_topi (fun y1 ey1 => ?_)
        have hy1 : y1 = nI (y + 1) := by rw [ey1]; exact nI_1 y
        subst hy1
        have e1 : T2 (y + 1) = T (y + 1) := hI1 (y + 1) (by omega)
        have e2 : P2 (y + 1) = P (y + 1) := hI2 (y + 1) (by omega)
        refine callRV (As := [.int (nI k), .int (nI (y + 1))]) (rest := []) ⟨hx, hb, hml, hown, hts⟩ tlB (c_P_bestFrom l dC dI r cI cG bu T2 P2 pu pr ga se k (y + 1) (by omega) hse hpr hpu1 (by rw [e1]; exact hT) (by rw [e2]; exact hP9) hkn (Nat.le_trans c2 hmo)) kw436 kw437 kw12 kw28 kw438 ⟨rfl, rfl⟩ (n := 2) (by decide +kernel) ⟨Nat.le_of_ble_eq_true rfl, Nat.le_of_ble_eq_true rfl⟩ (roP_preV hP hK (ci := 2) (q0 := 0) rfl rfl) rfl hl.1 rfl (Nat.le_of_ble_eq_true rfl) ⟨Nat.le_of_ble_eq_true rfl, Nat.le_of_ble_eq_true rfl⟩ dP_workYear_65 (fun r1 hr1 => ?_)
        obtain ⟨f, rfl, hf⟩ := hr1
        rw [e1, e2] at hf
        have hf64 : f < 64 := by have := hf.1; omega
        refine lv_istore (lv' := [(4, .int (nI f)), (0, .ref (r 0)), (1, .int (nI y)), (2, .int 0), (3, .int (nI k))]) hx hb dP_workYear_68 hl (by decide) rfl (fun ls hl => ?_)
        refine lv_aload_n hx hb dP_workYear_70 rfl (lv_at hl 1 rfl) ?_
        refine va_get (D := (dC, dI)) (ci := 2) (C := RP) (T := FP) (N := 7) hx hb hts (fun w h => List.mem_cons_of_mem _ (inP w h)) hown hK hP 0 rfl rfl 1 (by decide) (hts _ (List.mem_cons_of_mem _ kw110)) (fun _ h9 => h9) rfl dP_workYear_71 ?_
        refine lv_iload_n hx hb dP_workYear_74 rfl (lv_at hl 2 rfl) ?_
        refine aldaN hx hb hK hP 2 1 rfl rfl (k := y) hy (by decide) (r := (r (7 + y))) (if_pos hy) dP_workYear_75 ?_
        refine lv_iload_n hx hb dP_workYear_76 rfl (lv_at hl 4 rfl) ?_
        refine lv_aload_n hx hb dP_workYear_77 rfl (lv_at hl 1 rfl) ?_
        refine va_get (D := (dC, dI)) (ci := 2) (C := RP) (T := FP) (N := 7) hx hb hts (fun w h => List.mem_cons_of_mem _ (inP w h)) hown hK hP 0 rfl rfl 5 (by decide) (hts _ (List.mem_cons_of_mem _ kw115)) (fun _ h9 => h9) rfl dP_workYear_78 ?_
        refine lv_iload_n hx hb dP_workYear_81 rfl (lv_at hl 4 rfl) ?_
        refine ialdN hx hb hK hP 6 0 rfl rfl (k := k) (by omega) (by decide) (v := iI (ga k)) rfl dP_workYear_82 ?_
        refine lv_aload_n hx hb dP_workYear_83 rfl (lv_at hl 1 rfl) ?_
        refine va_get (D := (dC, dI)) (ci := 2) (C := RP) (T := FP) (N := 7) hx hb hts (fun w h => List.mem_cons_of_mem _ (inP w h)) hown hK hP 0 rfl rfl 1 (by decide) (hts _ (List.mem_cons_of_mem _ kw110)) (fun _ h9 => h9) rfl dP_workYear_84 ?_
        refine lv_iload_n hx hb dP_workYear_87 rfl (lv_at hl 2 rfl) ?_
        refine lv_iconst (v := 1) hx hb dP_workYear_88 (by decide) ?_
        refine lv_iadd hx hb dP_workYear_89 ?_
        refine lv_topi (fun y2 ey2 => ?_)
        have hy2 : y2 = nI (y + 1) := by rw [ey2]; exact nI_1 y
        subst hy2
        refine aldaN hx hb hK hP 2 1 rfl rfl (k := (y + 1)) (by omega) (by decide) (r := (r (7 + (y + 1)))) (if_pos (by omega)) dP_workYear_90 ?_
        refine lv_iload hx hb dP_workYear_91 (lv_at hl 0 rfl) ?_
        refine ialdN hx hb hK hP (7 + (y + 1)) 0 (mcWP_T (by omega)) rfl (k := f) hf64 (by decide) (v := iI (T (y + 1) f)) (by rw [e1]) dP_workYear_93 ?_
        refine lv_iadd hx hb dP_workYear_94 ?_
        refine lv_topi (fun y3 ey3 => ?_)
        have hy3 : y3 = iI (ga k + T (y + 1) f) := by rw [ey3, iI_add]
        subst hy3
        refine iastN hx hb hK hP hD hS (7 + y) 0 (mcWP_T hy) rfl (k := k) (by omega) (by decide) (x := iI (ga k + T (y + 1) f)) (fun S => iI ((mcT2 T2 y k (ga k + T (y + 1) f)) y S)) (fun j => by simp only [mcT2, true_and]; split <;> rfl) (ws' := mcWP r cI cG bu (mcT2 T2 y k (ga k + T (y + 1) f)) P2 pu pr ga se) (mcWP_setT hy (fun j hj => mcT2_row hj)) dP_workYear_95 (fun H locs hP hD hS => ?_)
        refine lv_aload_n hx hb dP_workYear_96 rfl (lv_at hl 1 rfl) ?_
        refine va_get (D := (dC, dI)) (ci := 2) (C := RP) (T := FP) (N := 7) hx hb hts (fun w h => List.mem_cons_of_mem _ (inP w h)) hown hK hP 0 rfl rfl 2 (by decide) (hts _ (List.mem_cons_of_mem _ kw112)) (fun _ h9 => h9) rfl dP_workYear_97 ?_
        refine lv_iload_n hx hb dP_workYear_100 rfl (lv_at hl 2 rfl) ?_
        refine aldaN hx hb hK hP 3 1 rfl rfl (k := y) hy (by decide) (r := (r (11 + y))) (if_pos hy) dP_workYear_101 ?_
        refine lv_iload_n hx hb dP_workYear_102 rfl (lv_at hl 4 rfl) ?_
        refine lv_aload_n hx hb dP_workYear_103 rfl (lv_at hl 1 rfl) ?_
        refine va_get (D := (dC, dI)) (ci := 2) (C := RP) (T := FP) (N := 7) hx hb hts (fun w h => List.mem_cons_of_mem _ (inP w h)) hown hK hP 0 rfl rfl 2 (by decide) (hts _ (List.mem_cons_of_mem _ kw112)) (fun _ h9 => h9) rfl dP_workYear_104 ?_
        refine lv_iload_n hx hb dP_workYear_107 rfl (lv_at hl 2 rfl) ?_
        refine lv_iconst (v := 1) hx hb dP_workYear_108 (by decide) ?_
        refine lv_iadd hx hb dP_workYear_109 ?_
        refine lv_topi (fun y4 ey4 => ?_)
        have hy4 : y4 = nI (y + 1) := by rw [ey4]; exact nI_1 y
        subst hy4
        refine aldaN hx hb hK hP 3 1 rfl rfl (k := (y + 1)) (by omega) (by decide) (r := (r (11 + (y + 1)))) (if_pos (by omega)) dP_workYear_110 ?_
        refine lv_iload hx hb dP_workYear_111 (lv_at hl 0 rfl) ?_
        refine ialdN hx hb hK hP (11 + (y + 1)) 0 (mcWP_P (by omega)) rfl (k := f) hf64 (by decide) (v := nI (P (y + 1) f)) (by rw [e2]) dP_workYear_113 ?_
        refine iastN hx hb hK hP hD hS (11 + y) 0 (mcWP_P hy) rfl (k := k) (by omega) (by decide) (x := nI (P (y + 1) f)) (fun S => nI ((mcT2 P2 y k (P (y + 1) f)) y S)) (fun j => by simp only [mcT2, true_and]; split <;> rfl) (ws' := mcWP r cI cG bu (mcT2 T2 y k (ga k + T (y + 1) f)) (mcT2 P2 y k (P (y + 1) f)) pu pr ga se) (mcWP_setP hy (fun j hj => mcT2_row hj)) dP_workYear_114 (fun H locs hP hD hS => ?_)
        refine lv_iinc (v := (nI (k + 1))) (lv' := [(3, .int (nI (k + 1))), (4, .int (nI f)), (0, .ref (r 0)), (1, .int (nI y)), (2, .int 0)]) hx hb dP_workYear_115 hl (k := 4) rfl (nI_1 k) (by decide) rfl (fun ls hl => ?_)
        refine lv_goto (tgt := 2) hx hb dP_workYear_118 (by decide) ?_
        exact ih (k + 1, mcT2 T2 y k (ga k + T (y + 1) f), mcT2 P2 y k (P (y + 1) f)) H locs ls (⟨hkn, ⟨fun j hj => by dsimp only; rw [mcT2_row hj]; exact hI1 j hj, fun j hj => by dsimp only; rw [mcT2_row hj]; exact hI2 j hj, lt_s (fun S hS9 h9 => by dsimp only; rw [mcT2_ne (by omega), mcT2_ne (by omega)]; exact hI3 S hS9 h9) (fun _ => ⟨f, hf, mcT2_at, mcT2_at⟩)⟩, hP, hD, hS⟩) (by dsimp only; omega) (lv_sub hl [2, 3, 4, 0] rfl)
      · exact absurd (rfl : (0 : Int32) = 0) c3
