/-! the object: its methods where the arguments are good -/
set_option maxHeartbeats 4000000 in
set_option maxRecDepth 100000 in
theorem c_M_requireBetween_ok (l : Launch) (v1 lo hi : Int32) (h : lo ≤ v1 ∧ v1 ≤ hi) : Met l yM_requireBetween wdM_requireBetween ({ frames := 0, cells := 0, slots := 0, locals := 0 }) (nwP [.int v1, .int lo, .int hi]) (va_Sv (fun _ => True)) 0 0 (fun _ => False) := by
  refine Met.ofW (cc := bM_requireBetween) (maxL := 3) (ret := none) (by decide) rfl ?_
  intro p e s m args below meth c s₁ BB hml hv
  obtain ⟨rfl, -⟩ := hv
  have hx := BB.exec
  have hb := BB.bytes
  have hr := BB.returns
  have hts := atoms_spec (ws := wdM_requireBetween) BB.pre
  have hown : s.vm.findClass RM = some m.cls := findClass_of_methodNamed BB.named
  have hlocks := BB.notSynchronized
  have hl := lv_entry ([.int v1, .int lo, .int hi]) (n := 3) (Nat.le_of_ble_eq_true rfl)
  rw [lg_entry_eq]
  generalize (lg_sl ([.int v1, .int lo, .int hi]) ++ List.replicate (3 - (lg_sl ([.int v1, .int lo, .int hi])).length) Slot.unset).toArray = ls at hl ⊢
  have hl : lv_has ls 3 [(0, .int v1), (1, .int lo), (2, .int hi)] := hl
  refine lv_iload_n hx hb dM_requireBetween_0 rfl (lv_at hl 0 rfl) ?_
  refine lv_iload_n hx hb dM_requireBetween_1 rfl (lv_at hl 1 rfl) ?_
  refine lv_icmp_lt (tgt := 10) hx hb dM_requireBetween_2 (by decide) (fun c1 => ?_) (fun c1 => ?_)
  · exact absurd c1 (Int32.not_lt.mpr h.1)
  ·
    refine lv_iload_n hx hb dM_requireBetween_5 rfl (lv_at hl 0 rfl) ?_
    refine lv_iload_n hx hb dM_requireBetween_6 rfl (lv_at hl 2 rfl) ?_
    refine lv_icmp_le (tgt := 20) hx hb dM_requireBetween_7 (by decide) (fun c2 => ?_) (fun c2 => ?_)
    ·
      exact W.vret hx hb hr (fun t ht hW => ⟨rfl, trivial, ht⟩) (fun q hq => by cases hq) dM_requireBetween_20
    · exact absurd h.2 c2
set_option maxHeartbeats 4000000 in
set_option maxRecDepth 100000 in
theorem c_M_requireNotBelowZero_ok (l : Launch) (v1 : Int32) (h : ¬ v1 < 0) : Met l yM_requireNotBelowZero wdM_requireNotBelowZero ({ frames := 0, cells := 0, slots := 0, locals := 0 }) (nwP [.int v1]) (va_Sv (fun _ => True)) 0 0 (fun _ => False) := by
  refine Met.ofW (cc := bM_requireNotBelowZero) (maxL := 1) (ret := none) (by decide) rfl ?_
  intro p e s m args below meth c s₁ BB hml hv
  obtain ⟨rfl, -⟩ := hv
  have hx := BB.exec
  have hb := BB.bytes
  have hr := BB.returns
  have hts := atoms_spec (ws := wdM_requireNotBelowZero) BB.pre
  have hown : s.vm.findClass RM = some m.cls := findClass_of_methodNamed BB.named
  have hlocks := BB.notSynchronized
  have hl := lv_entry ([.int v1]) (n := 1) (Nat.le_of_ble_eq_true rfl)
  rw [lg_entry_eq]
  generalize (lg_sl ([.int v1]) ++ List.replicate (1 - (lg_sl ([.int v1])).length) Slot.unset).toArray = ls at hl ⊢
  have hl : lv_has ls 1 [(0, .int v1)] := hl
  refine lv_iload_n hx hb dM_requireNotBelowZero_0 rfl (lv_at hl 0 rfl) ?_
  refine lv_if_ge (tgt := 14) hx hb dM_requireNotBelowZero_1 (by decide) (fun c1 => ?_) (fun c1 => ?_)
  ·
    exact W.vret hx hb hr (fun t ht hW => ⟨rfl, trivial, ht⟩) (fun q hq => by cases hq) dM_requireNotBelowZero_14
  · exact absurd (Int32.not_lt.mp h) c1
set_option maxHeartbeats 4000000 in
set_option maxRecDepth 100000 in
theorem c_M_requireCostAndGain_ok (l : Launch) (v1 v2 : Int32) (h1 : (1 ≤ v1 ∧ v1 ≤ 10000)) (h2 : (0 ≤ v2 ∧ v2 ≤ 10000)) : Met l yM_requireCostAndGain wdM_requireCostAndGain ({ frames := 1, cells := 0, slots := 0, locals := 22 }) (nwP [.int v1, .int v2]) (va_Sv (fun _ => True)) 0 0 (fun _ => False) := by
  refine Met.ofW (cc := bM_requireCostAndGain) (maxL := 2) (ret := none) (by decide) rfl ?_
  intro p e s m args below meth c s₁ BB hml hv
  obtain ⟨rfl, -⟩ := hv
  have hx := BB.exec
  have hb := BB.bytes
  have hr := BB.returns
  have hts := atoms_spec (ws := wdM_requireCostAndGain) BB.pre
  have hown : s.vm.findClass RM = some m.cls := findClass_of_methodNamed BB.named
  have hlocks := BB.notSynchronized
  have hl := lv_entry ([.int v1, .int v2]) (n := 2) (Nat.le_of_ble_eq_true rfl)
  rw [lg_entry_eq]
  generalize (lg_sl ([.int v1, .int v2]) ++ List.replicate (2 - (lg_sl ([.int v1, .int v2])).length) Slot.unset).toArray = ls at hl ⊢
  have hl : lv_has ls 2 [(0, .int v1), (1, .int v2)] := hl
  refine lv_iload_n hx hb dM_requireCostAndGain_0 rfl (lv_at hl 0 rfl) ?_
  refine lv_iconst (v := 1) hx hb dM_requireCostAndGain_1 (by decide) ?_
  refine lv_sipush (v := 10000) hx hb dM_requireCostAndGain_2 (by decide) ?_
  refine callRSv (As := [.int v1, .int 1, .int 10000]) (rest := []) ⟨hx, hb, hml, hown, hts⟩ tlB (c_M_requireBetween_ok l v1 1 10000 h1) kw195 kw196 kw25 kw197 ⟨rfl, rfl⟩ (n := 3) (by decide +kernel) ⟨Nat.le_of_ble_eq_true rfl, Nat.le_of_ble_eq_true rfl⟩ (nwP_pre) rfl hl.1 rfl (Nat.le_of_ble_eq_true rfl) ⟨Nat.le_of_ble_eq_true rfl, Nat.le_of_ble_eq_true rfl⟩ dM_requireCostAndGain_5 ?_
  refine lv_iload_n hx hb dM_requireCostAndGain_8 rfl (lv_at hl 1 rfl) ?_
  refine lv_iconst (v := 0) hx hb dM_requireCostAndGain_9 (by decide) ?_
  refine lv_sipush (v := 10000) hx hb dM_requireCostAndGain_10 (by decide) ?_
  refine callRSv (As := [.int v2, .int 0, .int 10000]) (rest := []) ⟨hx, hb, hml, hown, hts⟩ tlB (c_M_requireBetween_ok l v2 0 10000 h2) kw195 kw196 kw25 kw197 ⟨rfl, rfl⟩ (n := 3) (by decide +kernel) ⟨Nat.le_of_ble_eq_true rfl, Nat.le_of_ble_eq_true rfl⟩ (nwP_pre) rfl hl.1 rfl (Nat.le_of_ble_eq_true rfl) ⟨Nat.le_of_ble_eq_true rfl, Nat.le_of_ble_eq_true rfl⟩ dM_requireCostAndGain_13 ?_
  exact W.vret hx hb hr (fun t ht hW => ⟨rfl, trivial, ht⟩) (fun q hq => by cases hq) dM_requireCostAndGain_16
set_option maxHeartbeats 4000000 in
set_option maxRecDepth 100000 in
theorem c_M_requireMeasure_ok (l : Launch) (dC : Nat → ClassId) (dI : Nat → Nat → Nat) (o : Nat) (a q r : Nat → Nat) (cI cG : ClassId) (la : mcLA) (n v : Nat) (C G X D : Nat → Nat) (B : Nat → Nat → Int) (bu : Nat → Nat) (lp : mcLP) (mm : Nat) (hm : mm < n) (hn : n ≤ 12) : Met l yM_requireMeasure wdM_requireMeasure ({ frames := 0, cells := 0, slots := 0, locals := 0 }) (roP (dC, dI) mcCl (mcWT o a q r cI cG la n v C G X D B bu lp) (mcTH cI cG) [.ref o, .int (nI mm)]) (va_Sv (fun _ => True)) 0 0 (fun _ => False) := by
  refine Met.ofW (cc := bM_requireMeasure) (maxL := 2) (ret := none) (by decide) rfl ?_
  intro p e s m args below meth c s₁ BB hml hv
  obtain ⟨rfl, hP, hK⟩ := hv
  have hx := BB.exec
  have hb := BB.bytes
  have hr := BB.returns
  have hts := atoms_spec (ws := wdM_requireMeasure) BB.pre
  have hown : s.vm.findClass RM = some m.cls := findClass_of_methodNamed BB.named
  have hlocks := BB.notSynchronized
  have hl := lv_entry ([.ref o, .int (nI mm)]) (n := 2) (Nat.le_of_ble_eq_true rfl)
  rw [lg_entry_eq]
  generalize (lg_sl ([.ref o, .int (nI mm)]) ++ List.replicate (2 - (lg_sl ([.ref o, .int (nI mm)])).length) Slot.unset).toArray = ls at hl ⊢
  have hl : lv_has ls 2 [(0, .ref o), (1, .int (nI mm))] := hl
  refine lv_iload_n hx hb dM_requireMeasure_0 rfl (lv_at hl 1 rfl) ?_
  refine lv_if_lt (tgt := 15) hx hb dM_requireMeasure_1 (by decide) (fun c1 => ?_) (fun c1 => ?_)
  · exact absurd c1 (nI_pos (by omega))
  ·
    refine lv_iload_n hx hb dM_requireMeasure_4 rfl (lv_at hl 1 rfl) ?_
    refine lv_aload_n hx hb dM_requireMeasure_5 rfl (lv_at hl 0 rfl) ?_
    refine va_get (D := (dC, dI)) (ci := 3) (C := RM) (T := FM) (N := 3) hx hb hts (fun w h => List.mem_cons_of_mem _ (inM w h)) hown hK hP 0 rfl rfl 0 (by decide) (hts _ (List.mem_cons_of_mem _ kw132)) (fun _ h9 => h9) rfl dM_requireMeasure_6 ?_
    refine va_get (D := (dC, dI)) (ci := 0) (C := RH) (T := FH) (N := 7) hx hb hts (fun w h => List.mem_cons_of_mem _ (inH w h)) hown hK hP 4 rfl rfl 0 (by decide) (hts _ (List.mem_cons_of_mem _ kw51)) (fun _ h9 => h9) rfl dM_requireMeasure_9 ?_
    refine lv_icmp_lt (tgt := 25) hx hb dM_requireMeasure_12 (by decide) (fun c2 => ?_) (fun c2 => ?_)
    ·
      exact W.vret hx hb hr (fun t ht hW => ⟨rfl, trivial, ht⟩) (fun q hq => by cases hq) dM_requireMeasure_25
    · exact absurd (nI_lt hm (by omega)) c2
set_option maxHeartbeats 4000000 in
set_option maxRecDepth 100000 in
theorem c_M_requirePair_ok (l : Launch) (dC : Nat → ClassId) (dI : Nat → Nat → Nat) (o : Nat) (a q r : Nat → Nat) (cI cG : ClassId) (la : mcLA) (n v : Nat) (C G X D : Nat → Nat) (B : Nat → Nat → Int) (bu : Nat → Nat) (lp : mcLP) (mm oo : Nat) (hm : mm < n) (ho : oo < n) (hn : n ≤ 12) (hne : ¬ nI mm = nI oo) : Met l yM_requirePair wdM_requirePair ({ frames := 1, cells := 0, slots := 0, locals := 21 }) (roP (dC, dI) mcCl (mcWT o a q r cI cG la n v C G X D B bu lp) (mcTH cI cG) [.ref o, .int (nI mm), .int (nI oo)]) (va_Sv (fun _ => True)) 0 0 (fun _ => False) := by
  refine Met.ofW (cc := bM_requirePair) (maxL := 3) (ret := none) (by decide) rfl ?_
  intro p e s m args below meth c s₁ BB hml hv
  obtain ⟨rfl, hP, hK⟩ := hv
  have hx := BB.exec
  have hb := BB.bytes
  have hr := BB.returns
  have hts := atoms_spec (ws := wdM_requirePair) BB.pre
  have hown : s.vm.findClass RM = some m.cls := findClass_of_methodNamed BB.named
  have hlocks := BB.notSynchronized
  have hl := lv_entry ([.ref o, .int (nI mm), .int (nI oo)]) (n := 3) (Nat.le_of_ble_eq_true rfl)
  rw [lg_entry_eq]
  generalize (lg_sl ([.ref o, .int (nI mm), .int (nI oo)]) ++ List.replicate (3 - (lg_sl ([.ref o, .int (nI mm), .int (nI oo)])).length) Slot.unset).toArray = ls at hl ⊢
  have hl : lv_has ls 3 [(0, .ref o), (1, .int (nI mm)), (2, .int (nI oo))] := hl
  refine lv_aload_n hx hb dM_requirePair_0 rfl (lv_at hl 0 rfl) ?_
  refine lv_iload_n hx hb dM_requirePair_1 rfl (lv_at hl 1 rfl) ?_
  refine callRVv (As := [.int (nI mm)]) (rest := []) ⟨hx, hb, hml, hown, hts⟩ tlB (c_M_requireMeasure_ok l dC dI o a q r cI cG la n v C G X D B bu lp mm hm hn) kw283 kw284 kw4 kw25 kw285 ⟨rfl, rfl⟩ (n := 1) (by decide +kernel) ⟨Nat.le_of_ble_eq_true rfl, Nat.le_of_ble_eq_true rfl⟩ (roP_preV hP hK (ci := 3) (q0 := 0) rfl rfl) rfl hl.1 rfl (Nat.le_of_ble_eq_true rfl) ⟨Nat.le_of_ble_eq_true rfl, Nat.le_of_ble_eq_true rfl⟩ dM_requirePair_2 ?_
  refine lv_aload_n hx hb dM_requirePair_5 rfl (lv_at hl 0 rfl) ?_
  refine lv_iload_n hx hb dM_requirePair_6 rfl (lv_at hl 2 rfl) ?_
  refine callRVv (As := [.int (nI oo)]) (rest := []) ⟨hx, hb, hml, hown, hts⟩ tlB (c_M_requireMeasure_ok l dC dI o a q r cI cG la n v C G X D B bu lp oo ho hn) kw283 kw284 kw4 kw25 kw285 ⟨rfl, rfl⟩ (n := 1) (by decide +kernel) ⟨Nat.le_of_ble_eq_true rfl, Nat.le_of_ble_eq_true rfl⟩ (roP_preV hP hK (ci := 3) (q0 := 0) rfl rfl) rfl hl.1 rfl (Nat.le_of_ble_eq_true rfl) ⟨Nat.le_of_ble_eq_true rfl, Nat.le_of_ble_eq_true rfl⟩ dM_requirePair_7 ?_
  refine lv_iload_n hx hb dM_requirePair_10 rfl (lv_at hl 1 rfl) ?_
  refine lv_iload_n hx hb dM_requirePair_11 rfl (lv_at hl 2 rfl) ?_
  refine lv_icmp_ne (tgt := 25) hx hb dM_requirePair_12 (by decide) (fun c1 => ?_) (fun c1 => ?_)
  ·
    exact W.vret hx hb hr (fun t ht hW => ⟨rfl, trivial, ht⟩) (fun q hq => by cases hq) dM_requirePair_25
  · exact absurd c1 hne
set_option maxHeartbeats 4000000 in
set_option maxRecDepth 100000 in
theorem c_M_requireSet_ok (l : Launch) (dC : Nat → ClassId) (dI : Nat → Nat → Nat) (o : Nat) (a q r : Nat → Nat) (cI cG : ClassId) (la : mcLA) (n v : Nat) (C G X D : Nat → Nat) (B : Nat → Nat → Int) (bu : Nat → Nat) (lp : mcLP) (S : Nat) (hSn : S < 2 ^ n) (hn : n ≤ 12) : Met l yM_requireSet wdM_requireSet ({ frames := 0, cells := 0, slots := 0, locals := 0 }) (roP (dC, dI) mcCl (mcWT o a q r cI cG la n v C G X D B bu lp) (mcTH cI cG) [.ref o, .int (nI S)]) (va_Sv (fun _ => True)) 0 0 (fun _ => False) := by
  refine Met.ofW (cc := bM_requireSet) (maxL := 2) (ret := none) (by decide) rfl ?_
  intro p e s m args below meth c s₁ BB hml hv
  obtain ⟨rfl, hP, hK⟩ := hv
  have hx := BB.exec
  have hb := BB.bytes
  have hr := BB.returns
  have hts := atoms_spec (ws := wdM_requireSet) BB.pre
  have hown : s.vm.findClass RM = some m.cls := findClass_of_methodNamed BB.named
  have hlocks := BB.notSynchronized
  have hl := lv_entry ([.ref o, .int (nI S)]) (n := 2) (Nat.le_of_ble_eq_true rfl)
  rw [lg_entry_eq]
  generalize (lg_sl ([.ref o, .int (nI S)]) ++ List.replicate (2 - (lg_sl ([.ref o, .int (nI S)])).length) Slot.unset).toArray = ls at hl ⊢
  have hl : lv_has ls 2 [(0, .ref o), (1, .int (nI S))] := hl
  have hp12 : 2 ^ n ≤ 2 ^ 12 := Nat.pow_le_pow_right (by decide) hn
  refine lv_iload_n hx hb dM_requireSet_0 rfl (lv_at hl 1 rfl) ?_
  refine lv_if_lt (tgt := 17) hx hb dM_requireSet_1 (by decide) (fun c1 => ?_) (fun c1 => ?_)
  · exact absurd c1 (nI_pos (by omega))
  ·
    refine lv_iload_n hx hb dM_requireSet_4 rfl (lv_at hl 1 rfl) ?_
    refine lv_iconst (v := 1) hx hb dM_requireSet_5 (by decide) ?_
    refine lv_aload_n hx hb dM_requireSet_6 rfl (lv_at hl 0 rfl) ?_
    refine va_get (D := (dC, dI)) (ci := 3) (C := RM) (T := FM) (N := 3) hx hb hts (fun w h => List.mem_cons_of_mem _ (inM w h)) hown hK hP 0 rfl rfl 0 (by decide) (hts _ (List.mem_cons_of_mem _ kw132)) (fun _ h9 => h9) rfl dM_requireSet_7 ?_
    refine va_get (D := (dC, dI)) (ci := 0) (C := RH) (T := FH) (N := 7) hx hb hts (fun w h => List.mem_cons_of_mem _ (inH w h)) hown hK hP 4 rfl rfl 0 (by decide) (hts _ (List.mem_cons_of_mem _ kw51)) (fun _ h9 => h9) rfl dM_requireSet_10 ?_
    refine lv_ishl hx hb dM_requireSet_13 ?_
    refine lv_topi (fun y1 ey1 => ?_)
    have hy1 : y1 = nI (2 ^ n) := by rw [ey1, nI_bit (by omega)]
    subst hy1
    refine lv_icmp_lt (tgt := 27) hx hb dM_requireSet_14 (by decide) (fun c2 => ?_) (fun c2 => ?_)
    ·
      exact W.vret hx hb hr (fun t ht hW => ⟨rfl, trivial, ht⟩) (fun q hq => by cases hq) dM_requireSet_27
    · exact absurd (nI_lt hSn (by omega)) c2
set_option maxHeartbeats 4000000 in
set_option maxRecDepth 100000 in
theorem c_M_measure_ok (l : Launch) (dC : Nat → ClassId) (dI : Nat → Nat → Nat) (o : Nat) (a q r : Nat → Nat) (cI cG : ClassId) (la : mcLA) (n v : Nat) (C G X D : Nat → Nat) (B : Nat → Nat → Int) (bu : Nat → Nat) (lp : mcLP) (sz : Nat) (cv gv : Nat) (hf : n < 12) (h1 : 1 ≤ nI cv ∧ nI cv ≤ 10000) (h2 : 0 ≤ nI gv ∧ nI gv ≤ 10000) : Met l yM_measure wdM_measure ({ frames := 2, cells := 0, slots := 0, locals := 46 }) (wrP (dC, dI) mcCl (mcWT o a q r cI cG la n v C G X D B bu lp) (mcTH cI cG) sz [.ref o, .int (nI cv), .int (nI gv)]) (va_Qi (fun z9 (x : Unit) => z9 = nI n) (fun x t => va_P (dC, dI) mcCl (mcWT o a q r cI cG la (n + 1) (v + 1) (va_up C n cv) (va_up G n gv) X D B bu lp) t.heap ∧ va_K (dC, dI) mcCl (mcTH cI cG) t ∧ va_D (va_A (mcWT o a q r cI cG la n v C G X D B bu lp) sz) (mcWT o a q r cI cG la (n + 1) (v + 1) (va_up C n cv) (va_up G n gv) X D B bu lp)) (va_A (mcWT o a q r cI cG la n v C G X D B bu lp) sz)) 0 0 (va_A (mcWT o a q r cI cG la n v C G X D B bu lp) sz) := by
  refine Met.ofW (cc := bM_measure) (maxL := 3) (ret := (some FieldType.int)) (by decide) rfl ?_
  intro p e s m args below meth c s₁ BB hml hv
  obtain ⟨rfl, hsz, hP, hK, hD0⟩ := hv
  have hx := BB.exec
  have hb := BB.bytes
  have hr := BB.returns
  have hts := atoms_spec (ws := wdM_measure) BB.pre
  have hown : s.vm.findClass RM = some m.cls := findClass_of_methodNamed BB.named
  have hlocks := BB.notSynchronized
  subst hsz
  have hD := hD0.self (sz := s.heap.size)
  generalize hAe : va_A (mcWT o a q r cI cG la n v C G X D B bu lp) s.heap.size = A at hD ⊢
  have hA : ∀ q : Nat, s.heap.size ≤ q → A q := fun q h => by rw [← hAe]; exact Or.inr h
  have hS : va_S A s.heap s.heap [] := va_S.rf
  have hl := lv_entry ([.ref o, .int (nI cv), .int (nI gv)]) (n := 3) (Nat.le_of_ble_eq_true rfl)
  rw [lg_entry_eq]
  generalize (lg_sl ([.ref o, .int (nI cv), .int (nI gv)]) ++ List.replicate (3 - (lg_sl ([.ref o, .int (nI cv), .int (nI gv)])).length) Slot.unset).toArray = ls at hl ⊢
  have hl : lv_has ls 3 [(0, .ref o), (1, .int (nI cv)), (2, .int (nI gv))] := hl
  refine lv_iload_n hx hb dM_measure_0 rfl (lv_at hl 1 rfl) ?_
  refine lv_iload_n hx hb dM_measure_1 rfl (lv_at hl 2 rfl) ?_
  refine callRSv (As := [.int (nI cv), .int (nI gv)]) (rest := []) ⟨hx, hb, hml, hown, hts⟩ tlB (c_M_requireCostAndGain_ok l (nI cv) (nI gv) h1 h2) kw192 kw193 kw25 kw194 ⟨rfl, rfl⟩ (n := 2) (by decide +kernel) ⟨Nat.le_of_ble_eq_true rfl, Nat.le_of_ble_eq_true rfl⟩ (nwP_pre) rfl hl.1 rfl (Nat.le_of_ble_eq_true rfl) ⟨Nat.le_of_ble_eq_true rfl, Nat.le_of_ble_eq_true rfl⟩ dM_measure_2 ?_
  refine lv_aload_n hx hb dM_measure_5 rfl (lv_at hl 0 rfl) ?_
  refine va_get (D := (dC, dI)) (ci := 3) (C := RM) (T := FM) (N := 3) hx hb hts (fun w h => List.mem_cons_of_mem _ (inM w h)) hown hK hP 0 rfl rfl 0 (by decide) (hts _ (List.mem_cons_of_mem _ kw132)) (fun _ h9 => h9) rfl dM_measure_6 ?_
  refine va_get (D := (dC, dI)) (ci := 0) (C := RH) (T := FH) (N := 7) hx hb hts (fun w h => List.mem_cons_of_mem _ (inH w h)) hown hK hP 4 rfl rfl 0 (by decide) (hts _ (List.mem_cons_of_mem _ kw51)) (fun _ h9 => h9) rfl dM_measure_9 ?_
  refine lv_bipush (v := 12) hx hb dM_measure_12 (by decide) ?_
  refine lv_icmp_lt (tgt := 27) hx hb dM_measure_14 (by decide) (fun c1 => ?_) (fun c1 => ?_)
  ·
    refine lv_aload_n hx hb dM_measure_27 rfl (lv_at hl 0 rfl) ?_
    refine va_get (D := (dC, dI)) (ci := 3) (C := RM) (T := FM) (N := 3) hx hb hts (fun w h => List.mem_cons_of_mem _ (inM w h)) hown hK hP 0 rfl rfl 0 (by decide) (hts _ (List.mem_cons_of_mem _ kw132)) (fun _ h9 => h9) rfl dM_measure_28 ?_
    refine lv_iload_n hx hb dM_measure_31 rfl (lv_at hl 1 rfl) ?_
    refine lv_iload_n hx hb dM_measure_32 rfl (lv_at hl 2 rfl) ?_
    have pmt := pm_H (mcM1 o a q r) (mcA1 q cI la) (mcWH a cI cG n v C G X D B) (mcP1 r cI cG bu lp)
    have hPt := P_perm pmt hP
    have hDt := D_perm pmt hD
    refine callWVi (As := [.int (nI cv), .int (nI gv)]) (rest := []) ⟨hx, hb, hml, hown, hts⟩ tlB (c_H_add l dC dI a cI cG n v C G X D B s.heap.size cv gv hf) kw268 kw269 kw270 kw26 kw271 ⟨rfl, rfl⟩ (n := 2) (by decide +kernel) ⟨Nat.le_of_ble_eq_true rfl, Nat.le_of_ble_eq_true rfl⟩ hPt.lft hK hDt.lft hS (va_freeL hDt hS hA) (ci := 0) (q0 := 0) rfl rfl rfl hl.1 rfl (Nat.le_of_ble_eq_true rfl) ⟨Nat.le_of_ble_eq_true rfl, Nat.le_of_ble_eq_true rfl⟩ dM_measure_33 (fun rg H1 locs1 hrg hP1 hD1 hk1 hS1 => ?_)
    obtain ⟨hPn, hDn⟩ := va_jnL hPt hDt hk1 (va_freeL hDt hS hA) hP1 hD1
    have pmb := (pm_H (mcM1 o a q r) (mcA1 q cI la) (mcWH a cI cG (n + 1) (v + 1) (va_up C n cv) (va_up G n gv) X D B) (mcP1 r cI cG bu lp)).symm
    have hP := P_perm pmb hPn
    have hD := D_perm pmb hDn
    have hS := hS1
    subst hrg
    exact W.iret (v := (nI n)) hx hb hr (fun t ht hW => ⟨⟨(nI n), (), rfl, rfl, by rw [ht]; exact hP, va_K.moved hW.alike hK, hD⟩, hS.F ht⟩) hS.2.2 dM_measure_36
  · exact absurd (nI_lt (a := n) (b := 12) hf (by omega)) c1
set_option maxHeartbeats 4000000 in
set_option maxRecDepth 100000 in
theorem c_M_change_ok (l : Launch) (dC : Nat → ClassId) (dI : Nat → Nat → Nat) (o : Nat) (a q r : Nat → Nat) (cI cG : ClassId) (la : mcLA) (n v : Nat) (C G X D : Nat → Nat) (B : Nat → Nat → Int) (bu : Nat → Nat) (lp : mcLP) (sz : Nat) (mm cv gv : Nat) (hm : mm < n) (hn : n ≤ 12) (h1 : 1 ≤ nI cv ∧ nI cv ≤ 10000) (h2 : 0 ≤ nI gv ∧ nI gv ≤ 10000) : Met l yM_change wdM_change ({ frames := 2, cells := 0, slots := 0, locals := 43 }) (wrP (dC, dI) mcCl (mcWT o a q r cI cG la n v C G X D B bu lp) (mcTH cI cG) sz [.ref o, .int (nI mm), .int (nI cv), .int (nI gv)]) (va_Qv (fun x : Unit => True) (fun x t => va_P (dC, dI) mcCl (mcWT o a q r cI cG la n (v + 1) (va_up C mm cv) (va_up G mm gv) X D B bu lp) t.heap ∧ va_K (dC, dI) mcCl (mcTH cI cG) t ∧ va_D (va_A (mcWT o a q r cI cG la n v C G X D B bu lp) sz) (mcWT o a q r cI cG la n (v + 1) (va_up C mm cv) (va_up G mm gv) X D B bu lp)) (va_A (mcWT o a q r cI cG la n v C G X D B bu lp) sz)) 0 0 (va_A (mcWT o a q r cI cG la n v C G X D B bu lp) sz) := by
  refine Met.ofW (cc := bM_change) (maxL := 4) (ret := none) (by decide) rfl ?_
  intro p e s m args below meth c s₁ BB hml hv
  obtain ⟨rfl, hsz, hP, hK, hD0⟩ := hv
  have hx := BB.exec
  have hb := BB.bytes
  have hr := BB.returns
  have hts := atoms_spec (ws := wdM_change) BB.pre
  have hown : s.vm.findClass RM = some m.cls := findClass_of_methodNamed BB.named
  have hlocks := BB.notSynchronized
  subst hsz
  have hD := hD0.self (sz := s.heap.size)
  generalize hAe : va_A (mcWT o a q r cI cG la n v C G X D B bu lp) s.heap.size = A at hD ⊢
  have hA : ∀ q : Nat, s.heap.size ≤ q → A q := fun q h => by rw [← hAe]; exact Or.inr h
  have hS : va_S A s.heap s.heap [] := va_S.rf
  have hl := lv_entry ([.ref o, .int (nI mm), .int (nI cv), .int (nI gv)]) (n := 4) (Nat.le_of_ble_eq_true rfl)
  rw [lg_entry_eq]
  generalize (lg_sl ([.ref o, .int (nI mm), .int (nI cv), .int (nI gv)]) ++ List.replicate (4 - (lg_sl ([.ref o, .int (nI mm), .int (nI cv), .int (nI gv)])).length) Slot.unset).toArray = ls at hl ⊢
  have hl : lv_has ls 4 [(0, .ref o), (1, .int (nI mm)), (2, .int (nI cv)), (3, .int (nI gv))] := hl
  refine lv_aload_n hx hb dM_change_0 rfl (lv_at hl 0 rfl) ?_
  refine lv_iload_n hx hb dM_change_1 rfl (lv_at hl 1 rfl) ?_
  refine callRVv (As := [.int (nI mm)]) (rest := []) ⟨hx, hb, hml, hown, hts⟩ tlB (c_M_requireMeasure_ok l dC dI o a q r cI cG la n v C G X D B bu lp mm hm hn) kw283 kw284 kw4 kw25 kw285 ⟨rfl, rfl⟩ (n := 1) (by decide +kernel) ⟨Nat.le_of_ble_eq_true rfl, Nat.le_of_ble_eq_true rfl⟩ (roP_preV hP hK (ci := 3) (q0 := 0) rfl rfl) rfl hl.1 rfl (Nat.le_of_ble_eq_true rfl) ⟨Nat.le_of_ble_eq_true rfl, Nat.le_of_ble_eq_true rfl⟩ dM_change_2 ?_
  refine lv_iload_n hx hb dM_change_5 rfl (lv_at hl 2 rfl) ?_
  refine lv_iload_n hx hb dM_change_6 rfl (lv_at hl 3 rfl) ?_
  refine callRSv (As := [.int (nI cv), .int (nI gv)]) (rest := []) ⟨hx, hb, hml, hown, hts⟩ tlB (c_M_requireCostAndGain_ok l (nI cv) (nI gv) h1 h2) kw192 kw193 kw25 kw194 ⟨rfl, rfl⟩ (n := 2) (by decide +kernel) ⟨Nat.le_of_ble_eq_true rfl, Nat.le_of_ble_eq_true rfl⟩ (nwP_pre) rfl hl.1 rfl (Nat.le_of_ble_eq_true rfl) ⟨Nat.le_of_ble_eq_true rfl, Nat.le_of_ble_eq_true rfl⟩ dM_change_7 ?_
  refine lv_aload_n hx hb dM_change_10 rfl (lv_at hl 0 rfl) ?_
  refine va_get (D := (dC, dI)) (ci := 3) (C := RM) (T := FM) (N := 3) hx hb hts (fun w h => List.mem_cons_of_mem _ (inM w h)) hown hK hP 0 rfl rfl 0 (by decide) (hts _ (List.mem_cons_of_mem _ kw132)) (fun _ h9 => h9) rfl dM_change_11 ?_
  refine lv_iload_n hx hb dM_change_14 rfl (lv_at hl 1 rfl) ?_
  refine lv_iload_n hx hb dM_change_15 rfl (lv_at hl 2 rfl) ?_
  refine lv_iload_n hx hb dM_change_16 rfl (lv_at hl 3 rfl) ?_
  have pmt := pm_H (mcM1 o a q r) (mcA1 q cI la) (mcWH a cI cG n v C G X D B) (mcP1 r cI cG bu lp)
  have hPt := P_perm pmt hP
  have hDt := D_perm pmt hD
  refine callWV (As := [.int (nI mm), .int (nI cv), .int (nI gv)]) (rest := []) ⟨hx, hb, hml, hown, hts⟩ tlB (c_H_put l dC dI a cI cG n v C G X D B s.heap.size mm cv gv (by omega)) kw286 kw273 kw274 kw26 kw275 ⟨rfl, rfl⟩ (n := 3) (by decide +kernel) ⟨Nat.le_of_ble_eq_true rfl, Nat.le_of_ble_eq_true rfl⟩ hPt.lft hK hDt.lft hS (va_freeL hDt hS hA) (ci := 0) (q0 := 0) rfl rfl rfl hl.1 rfl (Nat.le_of_ble_eq_true rfl) ⟨Nat.le_of_ble_eq_true rfl, Nat.le_of_ble_eq_true rfl⟩ dM_change_17 (fun H1 locs1 hP1 hD1 hk1 hS1 => ?_)
  obtain ⟨hPn, hDn⟩ := va_jnL hPt hDt hk1 (va_freeL hDt hS hA) hP1 hD1
  have pmb := (pm_H (mcM1 o a q r) (mcA1 q cI la) (mcWH a cI cG n (v + 1) (va_up C mm cv) (va_up G mm gv) X D B) (mcP1 r cI cG bu lp)).symm
  have hP := P_perm pmb hPn
  have hD := D_perm pmb hDn
  have hS := hS1
  exact W.vret hx hb hr (fun t ht hW => ⟨⟨(), rfl, trivial, by rw [ht]; exact hP, va_K.moved hW.alike hK, hD⟩, hS.F ht⟩) hS.2.2 dM_change_20
set_option maxHeartbeats 4000000 in
set_option maxRecDepth 100000 in
theorem c_M_exclude_ok (l : Launch) (dC : Nat → ClassId) (dI : Nat → Nat → Nat) (o : Nat) (a q r : Nat → Nat) (cI cG : ClassId) (la : mcLA) (n v : Nat) (C G X D : Nat → Nat) (B : Nat → Nat → Int) (bu : Nat → Nat) (lp : mcLP) (sz : Nat) (mm oo : Nat) (on : Int32) (hm : mm < n) (ho : oo < n) (hn : n ≤ 12) (hne : ¬ nI mm = nI oo) (hX : ∀ m, X m < 4096) : Met l yM_exclude wdM_exclude ({ frames := 2, cells := 0, slots := 0, locals := 46 }) (wrP (dC, dI) mcCl (mcWT o a q r cI cG la n v C G X D B bu lp) (mcTH cI cG) sz [.ref o, .int (nI mm), .int (nI oo), .int on]) (va_Qi (fun z9 (x : Unit) => z9 = bZ ((X mm).testBit oo)) (fun x t => va_P (dC, dI) mcCl (mcWT o a q r cI cG la n (v + 1) C G (va_up (va_up X mm (mcBit (X mm) oo on)) oo (mcBit ((va_up X mm (mcBit (X mm) oo on)) oo) mm on)) D B bu lp) t.heap ∧ va_K (dC, dI) mcCl (mcTH cI cG) t ∧ va_D (va_A (mcWT o a q r cI cG la n v C G X D B bu lp) sz) (mcWT o a q r cI cG la n (v + 1) C G (va_up (va_up X mm (mcBit (X mm) oo on)) oo (mcBit ((va_up X mm (mcBit (X mm) oo on)) oo) mm on)) D B bu lp)) (va_A (mcWT o a q r cI cG la n v C G X D B bu lp) sz)) 0 0 (va_A (mcWT o a q r cI cG la n v C G X D B bu lp) sz) := by
  refine Met.ofW (cc := bM_exclude) (maxL := 5) (ret := (some FieldType.boolean)) (by decide) rfl ?_
  intro p e s m args below meth c s₁ BB hml hv
  obtain ⟨rfl, hsz, hP, hK, hD0⟩ := hv
  have hx := BB.exec
  have hb := BB.bytes
  have hr := BB.returns
  have hts := atoms_spec (ws := wdM_exclude) BB.pre
  have hown : s.vm.findClass RM = some m.cls := findClass_of_methodNamed BB.named
  have hlocks := BB.notSynchronized
  subst hsz
  have hD := hD0.self (sz := s.heap.size)
  generalize hAe : va_A (mcWT o a q r cI cG la n v C G X D B bu lp) s.heap.size = A at hD ⊢
  have hA : ∀ q : Nat, s.heap.size ≤ q → A q := fun q h => by rw [← hAe]; exact Or.inr h
  have hS : va_S A s.heap s.heap [] := va_S.rf
  have hl := lv_entry ([.ref o, .int (nI mm), .int (nI oo), .int on]) (n := 5) (Nat.le_of_ble_eq_true rfl)
  rw [lg_entry_eq]
  generalize (lg_sl ([.ref o, .int (nI mm), .int (nI oo), .int on]) ++ List.replicate (5 - (lg_sl ([.ref o, .int (nI mm), .int (nI oo), .int on])).length) Slot.unset).toArray = ls at hl ⊢
  have hl : lv_has ls 5 [(0, .ref o), (1, .int (nI mm)), (2, .int (nI oo)), (3, .int on)] := hl
  refine lv_aload_n hx hb dM_exclude_0 rfl (lv_at hl 0 rfl) ?_
  refine lv_iload_n hx hb dM_exclude_1 rfl (lv_at hl 1 rfl) ?_
  refine lv_iload_n hx hb dM_exclude_2 rfl (lv_at hl 2 rfl) ?_
  refine callRVv (As := [.int (nI mm), .int (nI oo)]) (rest := []) ⟨hx, hb, hml, hown, hts⟩ tlB (c_M_requirePair_ok l dC dI o a q r cI cG la n v C G X D B bu lp mm oo hm ho hn hne) kw294 kw295 kw5 kw25 kw296 ⟨rfl, rfl⟩ (n := 2) (by decide +kernel) ⟨Nat.le_of_ble_eq_true rfl, Nat.le_of_ble_eq_true rfl⟩ (roP_preV hP hK (ci := 3) (q0 := 0) rfl rfl) rfl hl.1 rfl (Nat.le_of_ble_eq_true rfl) ⟨Nat.le_of_ble_eq_true rfl, Nat.le_of_ble_eq_true rfl⟩ dM_exclude_3 ?_
  refine lv_aload_n hx hb dM_exclude_6 rfl (lv_at hl 0 rfl) ?_
  refine va_get (D := (dC, dI)) (ci := 3) (C := RM) (T := FM) (N := 3) hx hb hts (fun w h => List.mem_cons_of_mem _ (inM w h)) hown hK hP 0 rfl rfl 0 (by decide) (hts _ (List.mem_cons_of_mem _ kw132)) (fun _ h9 => h9) rfl dM_exclude_7 ?_
  refine va_get (D := (dC, dI)) (ci := 0) (C := RH) (T := FH) (N := 7) hx hb hts (fun w h => List.mem_cons_of_mem _ (inH w h)) hown hK hP 4 rfl rfl 4 (by decide) (hts _ (List.mem_cons_of_mem _ kw61)) (fun _ h9 => h9) rfl dM_exclude_10 ?_
  refine lv_iload_n hx hb dM_exclude_13 rfl (lv_at hl 1 rfl) ?_
  refine ialdN hx hb hK hP 7 0 rfl rfl (k := mm) (by omega) (by decide) (v := nI (X mm)) rfl dM_exclude_14 ?_
  refine lv_iload_n hx hb dM_exclude_15 rfl (lv_at hl 2 rfl) ?_
  refine callRS (As := [.int (nI (X mm)), .int (nI oo)]) (rest := []) ⟨hx, hb, hml, hown, hts⟩ tlB (c_H_has l (X mm) oo (by have := hX mm; omega) (by omega)) kw297 kw172 kw26 kw173 ⟨rfl, rfl⟩ (n := 2) (by decide +kernel) ⟨Nat.le_of_ble_eq_true rfl, Nat.le_of_ble_eq_true rfl⟩ (nwP_pre) rfl hl.1 rfl (Nat.le_of_ble_eq_true rfl) ⟨Nat.le_of_ble_eq_true rfl, Nat.le_of_ble_eq_true rfl⟩ dM_exclude_16 (fun r1 hr1 => ?_)
  have hr1 : r1 = bZ ((X mm).testBit oo) := hr1
  refine lv_istore (lv' := [(4, .int r1), (0, .ref o), (1, .int (nI mm)), (2, .int (nI oo)), (3, .int on)]) hx hb dM_exclude_19 hl (by decide) rfl (fun ls hl => ?_)
  refine lv_aload_n hx hb dM_exclude_21 rfl (lv_at hl 1 rfl) ?_
  refine va_get (D := (dC, dI)) (ci := 3) (C := RM) (T := FM) (N := 3) hx hb hts (fun w h => List.mem_cons_of_mem _ (inM w h)) hown hK hP 0 rfl rfl 0 (by decide) (hts _ (List.mem_cons_of_mem _ kw132)) (fun _ h9 => h9) rfl dM_exclude_22 ?_
  refine lv_iload_n hx hb dM_exclude_25 rfl (lv_at hl 2 rfl) ?_
  refine lv_iload_n hx hb dM_exclude_26 rfl (lv_at hl 3 rfl) ?_
  refine lv_iload_n hx hb dM_exclude_27 rfl (lv_at hl 4 rfl) ?_
  have pmt := pm_H (mcM1 o a q r) (mcA1 q cI la) (mcWH a cI cG n v C G X D B) (mcP1 r cI cG bu lp)
  have hPt := P_perm pmt hP
  have hDt := D_perm pmt hD
  refine callWV (As := [.int (nI mm), .int (nI oo), .int on]) (rest := []) ⟨hx, hb, hml, hown, hts⟩ tlB (c_H_putExcluded l dC dI a cI cG n v C G X D B s.heap.size mm oo on (by omega) (by omega) hX) kw298 kw299 kw300 kw26 kw301 ⟨rfl, rfl⟩ (n := 3) (by decide +kernel) ⟨Nat.le_of_ble_eq_true rfl, Nat.le_of_ble_eq_true rfl⟩ hPt.lft hK hDt.lft hS (va_freeL hDt hS hA) (ci := 0) (q0 := 0) rfl rfl rfl hl.1 rfl (Nat.le_of_ble_eq_true rfl) ⟨Nat.le_of_ble_eq_true rfl, Nat.le_of_ble_eq_true rfl⟩ dM_exclude_28 (fun H1 locs1 hP1 hD1 hk1 hS1 => ?_)
  obtain ⟨hPn, hDn⟩ := va_jnL hPt hDt hk1 (va_freeL hDt hS hA) hP1 hD1
  have pmb := (pm_H (mcM1 o a q r) (mcA1 q cI la) (mcWH a cI cG n (v + 1) C G (va_up (va_up X mm (mcBit (X mm) oo on)) oo (mcBit ((va_up X mm (mcBit (X mm) oo on)) oo) mm on)) D B) (mcP1 r cI cG bu lp)).symm
  have hP := P_perm pmb hPn
  have hD := D_perm pmb hDn
  have hS := hS1
  refine lv_iload hx hb dM_exclude_31 (lv_at hl 0 rfl) ?_
  exact W.zret (v := r1) hx hb hr (by rw [hr1]; cases (X mm).testBit oo <;> rfl) (fun t ht hW => ⟨⟨r1, (), rfl, hr1, by rw [ht]; exact hP, va_K.moved hW.alike hK, hD⟩, hS.F ht⟩) hS.2.2 dM_exclude_33
set_option maxHeartbeats 4000000 in
set_option maxRecDepth 100000 in
theorem c_M_needs_ok (l : Launch) (dC : Nat → ClassId) (dI : Nat → Nat → Nat) (o : Nat) (a q r : Nat → Nat) (cI cG : ClassId) (la : mcLA) (n v : Nat) (C G X D : Nat → Nat) (B : Nat → Nat → Int) (bu : Nat → Nat) (lp : mcLP) (sz : Nat) (mm oo : Nat) (on : Int32) (hm : mm < n) (ho : oo < n) (hn : n ≤ 12) (hne : ¬ nI mm = nI oo) (hDD : ∀ m, D m < 4096) : Met l yM_needs wdM_needs ({ frames := 2, cells := 0, slots := 0, locals := 46 }) (wrP (dC, dI) mcCl (mcWT o a q r cI cG la n v C G X D B bu lp) (mcTH cI cG) sz [.ref o, .int (nI mm), .int (nI oo), .int on]) (va_Qi (fun z9 (x : Unit) => z9 = bZ ((D mm).testBit oo)) (fun x t => va_P (dC, dI) mcCl (mcWT o a q r cI cG la n (v + 1) C G X (va_up D mm (mcBit (D mm) oo on)) B bu lp) t.heap ∧ va_K (dC, dI) mcCl (mcTH cI cG) t ∧ va_D (va_A (mcWT o a q r cI cG la n v C G X D B bu lp) sz) (mcWT o a q r cI cG la n (v + 1) C G X (va_up D mm (mcBit (D mm) oo on)) B bu lp)) (va_A (mcWT o a q r cI cG la n v C G X D B bu lp) sz)) 0 0 (va_A (mcWT o a q r cI cG la n v C G X D B bu lp) sz) := by
  refine Met.ofW (cc := bM_needs) (maxL := 5) (ret := (some FieldType.boolean)) (by decide) rfl ?_
  intro p e s m args below meth c s₁ BB hml hv
  obtain ⟨rfl, hsz, hP, hK, hD0⟩ := hv
  have hx := BB.exec
  have hb := BB.bytes
  have hr := BB.returns
  have hts := atoms_spec (ws := wdM_needs) BB.pre
  have hown : s.vm.findClass RM = some m.cls := findClass_of_methodNamed BB.named
  have hlocks := BB.notSynchronized
  subst hsz
  have hD := hD0.self (sz := s.heap.size)
  generalize hAe : va_A (mcWT o a q r cI cG la n v C G X D B bu lp) s.heap.size = A at hD ⊢
  have hA : ∀ q : Nat, s.heap.size ≤ q → A q := fun q h => by rw [← hAe]; exact Or.inr h
  have hS : va_S A s.heap s.heap [] := va_S.rf
  have hl := lv_entry ([.ref o, .int (nI mm), .int (nI oo), .int on]) (n := 5) (Nat.le_of_ble_eq_true rfl)
  rw [lg_entry_eq]
  generalize (lg_sl ([.ref o, .int (nI mm), .int (nI oo), .int on]) ++ List.replicate (5 - (lg_sl ([.ref o, .int (nI mm), .int (nI oo), .int on])).length) Slot.unset).toArray = ls at hl ⊢
  have hl : lv_has ls 5 [(0, .ref o), (1, .int (nI mm)), (2, .int (nI oo)), (3, .int on)] := hl
  refine lv_aload_n hx hb dM_needs_0 rfl (lv_at hl 0 rfl) ?_
  refine lv_iload_n hx hb dM_needs_1 rfl (lv_at hl 1 rfl) ?_
  refine lv_iload_n hx hb dM_needs_2 rfl (lv_at hl 2 rfl) ?_
  refine callRVv (As := [.int (nI mm), .int (nI oo)]) (rest := []) ⟨hx, hb, hml, hown, hts⟩ tlB (c_M_requirePair_ok l dC dI o a q r cI cG la n v C G X D B bu lp mm oo hm ho hn hne) kw294 kw295 kw5 kw25 kw296 ⟨rfl, rfl⟩ (n := 2) (by decide +kernel) ⟨Nat.le_of_ble_eq_true rfl, Nat.le_of_ble_eq_true rfl⟩ (roP_preV hP hK (ci := 3) (q0 := 0) rfl rfl) rfl hl.1 rfl (Nat.le_of_ble_eq_true rfl) ⟨Nat.le_of_ble_eq_true rfl, Nat.le_of_ble_eq_true rfl⟩ dM_needs_3 ?_
  refine lv_aload_n hx hb dM_needs_6 rfl (lv_at hl 0 rfl) ?_
  refine va_get (D := (dC, dI)) (ci := 3) (C := RM) (T := FM) (N := 3) hx hb hts (fun w h => List.mem_cons_of_mem _ (inM w h)) hown hK hP 0 rfl rfl 0 (by decide) (hts _ (List.mem_cons_of_mem _ kw132)) (fun _ h9 => h9) rfl dM_needs_7 ?_
  refine va_get (D := (dC, dI)) (ci := 0) (C := RH) (T := FH) (N := 7) hx hb hts (fun w h => List.mem_cons_of_mem _ (inH w h)) hown hK hP 4 rfl rfl 5 (by decide) (hts _ (List.mem_cons_of_mem _ kw63)) (fun _ h9 => h9) rfl dM_needs_10 ?_
  refine lv_iload_n hx hb dM_needs_13 rfl (lv_at hl 1 rfl) ?_
  refine ialdN hx hb hK hP 8 0 rfl rfl (k := mm) (by omega) (by decide) (v := nI (D mm)) rfl dM_needs_14 ?_
  refine lv_iload_n hx hb dM_needs_15 rfl (lv_at hl 2 rfl) ?_
  refine callRS (As := [.int (nI (D mm)), .int (nI oo)]) (rest := []) ⟨hx, hb, hml, hown, hts⟩ tlB (c_H_has l (D mm) oo (by have := hDD mm; omega) (by omega)) kw297 kw172 kw26 kw173 ⟨rfl, rfl⟩ (n := 2) (by decide +kernel) ⟨Nat.le_of_ble_eq_true rfl, Nat.le_of_ble_eq_true rfl⟩ (nwP_pre) rfl hl.1 rfl (Nat.le_of_ble_eq_true rfl) ⟨Nat.le_of_ble_eq_true rfl, Nat.le_of_ble_eq_true rfl⟩ dM_needs_16 (fun r1 hr1 => ?_)
  have hr1 : r1 = bZ ((D mm).testBit oo) := hr1
  refine lv_istore (lv' := [(4, .int r1), (0, .ref o), (1, .int (nI mm)), (2, .int (nI oo)), (3, .int on)]) hx hb dM_needs_19 hl (by decide) rfl (fun ls hl => ?_)
  refine lv_aload_n hx hb dM_needs_21 rfl (lv_at hl 1 rfl) ?_
  refine va_get (D := (dC, dI)) (ci := 3) (C := RM) (T := FM) (N := 3) hx hb hts (fun w h => List.mem_cons_of_mem _ (inM w h)) hown hK hP 0 rfl rfl 0 (by decide) (hts _ (List.mem_cons_of_mem _ kw132)) (fun _ h9 => h9) rfl dM_needs_22 ?_
  refine lv_iload_n hx hb dM_needs_25 rfl (lv_at hl 2 rfl) ?_
  refine lv_iload_n hx hb dM_needs_26 rfl (lv_at hl 3 rfl) ?_
  refine lv_iload_n hx hb dM_needs_27 rfl (lv_at hl 4 rfl) ?_
  have pmt := pm_H (mcM1 o a q r) (mcA1 q cI la) (mcWH a cI cG n v C G X D B) (mcP1 r cI cG bu lp)
  have hPt := P_perm pmt hP
  have hDt := D_perm pmt hD
  refine callWV (As := [.int (nI mm), .int (nI oo), .int on]) (rest := []) ⟨hx, hb, hml, hown, hts⟩ tlB (c_H_putNeeded l dC dI a cI cG n v C G X D B s.heap.size mm oo on (by omega) (by omega) hDD) kw312 kw313 kw314 kw26 kw315 ⟨rfl, rfl⟩ (n := 3) (by decide +kernel) ⟨Nat.le_of_ble_eq_true rfl, Nat.le_of_ble_eq_true rfl⟩ hPt.lft hK hDt.lft hS (va_freeL hDt hS hA) (ci := 0) (q0 := 0) rfl rfl rfl hl.1 rfl (Nat.le_of_ble_eq_true rfl) ⟨Nat.le_of_ble_eq_true rfl, Nat.le_of_ble_eq_true rfl⟩ dM_needs_28 (fun H1 locs1 hP1 hD1 hk1 hS1 => ?_)
  obtain ⟨hPn, hDn⟩ := va_jnL hPt hDt hk1 (va_freeL hDt hS hA) hP1 hD1
  have pmb := (pm_H (mcM1 o a q r) (mcA1 q cI la) (mcWH a cI cG n (v + 1) C G X (va_up D mm (mcBit (D mm) oo on)) B) (mcP1 r cI cG bu lp)).symm
  have hP := P_perm pmb hPn
  have hD := D_perm pmb hDn
  have hS := hS1
  refine lv_iload hx hb dM_needs_31 (lv_at hl 0 rfl) ?_
  exact W.zret (v := r1) hx hb hr (by rw [hr1]; cases (D mm).testBit oo <;> rfl) (fun t ht hW => ⟨⟨r1, (), rfl, hr1, by rw [ht]; exact hP, va_K.moved hW.alike hK, hD⟩, hS.F ht⟩) hS.2.2 dM_needs_33
set_option maxHeartbeats 4000000 in
set_option maxRecDepth 100000 in
theorem c_M_bonus_ok (l : Launch) (dC : Nat → ClassId) (dI : Nat → Nat → Nat) (o : Nat) (a q r : Nat → Nat) (cI cG : ClassId) (la : mcLA) (n v : Nat) (C G X D : Nat → Nat) (B : Nat → Nat → Int) (bu : Nat → Nat) (lp : mcLP) (sz : Nat) (mm oo : Nat) (z : Int) (hm : mm < n) (ho : oo < n) (hn : n ≤ 12) (hne : ¬ nI mm = nI oo) (hz : (-5000) ≤ iI z ∧ iI z ≤ 5000) : Met l yM_bonus wdM_bonus ({ frames := 2, cells := 0, slots := 0, locals := 43 }) (wrP (dC, dI) mcCl (mcWT o a q r cI cG la n v C G X D B bu lp) (mcTH cI cG) sz [.ref o, .int (nI mm), .int (nI oo), .int (iI z)]) (va_Qi (fun z9 (x : Unit) => z9 = iI (B mm oo)) (fun x t => va_P (dC, dI) mcCl (mcWT o a q r cI cG la n (v + 1) C G X D (mcB2 (mcB2 B mm oo z) oo mm z) bu lp) t.heap ∧ va_K (dC, dI) mcCl (mcTH cI cG) t ∧ va_D (va_A (mcWT o a q r cI cG la n v C G X D B bu lp) sz) (mcWT o a q r cI cG la n (v + 1) C G X D (mcB2 (mcB2 B mm oo z) oo mm z) bu lp)) (va_A (mcWT o a q r cI cG la n v C G X D B bu lp) sz)) 0 0 (va_A (mcWT o a q r cI cG la n v C G X D B bu lp) sz) := by
  refine Met.ofW (cc := bM_bonus) (maxL := 5) (ret := (some FieldType.int)) (by decide) rfl ?_
  intro p e s m args below meth c s₁ BB hml hv
  obtain ⟨rfl, hsz, hP, hK, hD0⟩ := hv
  have hx := BB.exec
  have hb := BB.bytes
  have hr := BB.returns
  have hts := atoms_spec (ws := wdM_bonus) BB.pre
  have hown : s.vm.findClass RM = some m.cls := findClass_of_methodNamed BB.named
  have hlocks := BB.notSynchronized
  subst hsz
  have hD := hD0.self (sz := s.heap.size)
  generalize hAe : va_A (mcWT o a q r cI cG la n v C G X D B bu lp) s.heap.size = A at hD ⊢
  have hA : ∀ q : Nat, s.heap.size ≤ q → A q := fun q h => by rw [← hAe]; exact Or.inr h
  have hS : va_S A s.heap s.heap [] := va_S.rf
  have hl := lv_entry ([.ref o, .int (nI mm), .int (nI oo), .int (iI z)]) (n := 5) (Nat.le_of_ble_eq_true rfl)
  rw [lg_entry_eq]
  generalize (lg_sl ([.ref o, .int (nI mm), .int (nI oo), .int (iI z)]) ++ List.replicate (5 - (lg_sl ([.ref o, .int (nI mm), .int (nI oo), .int (iI z)])).length) Slot.unset).toArray = ls at hl ⊢
  have hl : lv_has ls 5 [(0, .ref o), (1, .int (nI mm)), (2, .int (nI oo)), (3, .int (iI z))] := hl
  refine lv_aload_n hx hb dM_bonus_0 rfl (lv_at hl 0 rfl) ?_
  refine lv_iload_n hx hb dM_bonus_1 rfl (lv_at hl 1 rfl) ?_
  refine lv_iload_n hx hb dM_bonus_2 rfl (lv_at hl 2 rfl) ?_
  refine callRVv (As := [.int (nI mm), .int (nI oo)]) (rest := []) ⟨hx, hb, hml, hown, hts⟩ tlB (c_M_requirePair_ok l dC dI o a q r cI cG la n v C G X D B bu lp mm oo hm ho hn hne) kw294 kw295 kw5 kw25 kw296 ⟨rfl, rfl⟩ (n := 2) (by decide +kernel) ⟨Nat.le_of_ble_eq_true rfl, Nat.le_of_ble_eq_true rfl⟩ (roP_preV hP hK (ci := 3) (q0 := 0) rfl rfl) rfl hl.1 rfl (Nat.le_of_ble_eq_true rfl) ⟨Nat.le_of_ble_eq_true rfl, Nat.le_of_ble_eq_true rfl⟩ dM_bonus_3 ?_
  refine lv_iload_n hx hb dM_bonus_6 rfl (lv_at hl 3 rfl) ?_
  refine lv_sipush (v := (-5000)) hx hb dM_bonus_7 (by decide) ?_
  refine lv_sipush (v := 5000) hx hb dM_bonus_10 (by decide) ?_
  refine callRSv (As := [.int (iI z), .int (-5000), .int 5000]) (rest := []) ⟨hx, hb, hml, hown, hts⟩ tlB (c_M_requireBetween_ok l (iI z) (-5000) 5000 hz) kw195 kw196 kw25 kw197 ⟨rfl, rfl⟩ (n := 3) (by decide +kernel) ⟨Nat.le_of_ble_eq_true rfl, Nat.le_of_ble_eq_true rfl⟩ (nwP_pre) rfl hl.1 rfl (Nat.le_of_ble_eq_true rfl) ⟨Nat.le_of_ble_eq_true rfl, Nat.le_of_ble_eq_true rfl⟩ dM_bonus_13 ?_
  refine lv_aload_n hx hb dM_bonus_16 rfl (lv_at hl 0 rfl) ?_
  refine va_get (D := (dC, dI)) (ci := 3) (C := RM) (T := FM) (N := 3) hx hb hts (fun w h => List.mem_cons_of_mem _ (inM w h)) hown hK hP 0 rfl rfl 0 (by decide) (hts _ (List.mem_cons_of_mem _ kw132)) (fun _ h9 => h9) rfl dM_bonus_17 ?_
  refine va_get (D := (dC, dI)) (ci := 0) (C := RH) (T := FH) (N := 7) hx hb hts (fun w h => List.mem_cons_of_mem _ (inH w h)) hown hK hP 4 rfl rfl 6 (by decide) (hts _ (List.mem_cons_of_mem _ kw65)) (fun _ h9 => h9) rfl dM_bonus_20 ?_
  refine lv_iload_n hx hb dM_bonus_23 rfl (lv_at hl 1 rfl) ?_
  refine aldaN hx hb hK hP 9 1 rfl rfl (k := mm) (by omega) (by decide) (r := (a (6 + mm))) (if_pos (by omega)) dM_bonus_24 ?_
  refine lv_iload_n hx hb dM_bonus_25 rfl (lv_at hl 2 rfl) ?_
  refine ialdN hx hb hK hP (10 + mm) 0 (mcWT_row (by omega)) rfl (k := oo) (by omega) (by decide) (v := iI (B mm oo)) rfl dM_bonus_26 ?_
  refine lv_istore (lv' := [(4, .int (iI (B mm oo))), (0, .ref o), (1, .int (nI mm)), (2, .int (nI oo)), (3, .int (iI z))]) hx hb dM_bonus_27 hl (by decide) rfl (fun ls hl => ?_)
  refine lv_aload_n hx hb dM_bonus_29 rfl (lv_at hl 1 rfl) ?_
  refine va_get (D := (dC, dI)) (ci := 3) (C := RM) (T := FM) (N := 3) hx hb hts (fun w h => List.mem_cons_of_mem _ (inM w h)) hown hK hP 0 rfl rfl 0 (by decide) (hts _ (List.mem_cons_of_mem _ kw132)) (fun _ h9 => h9) rfl dM_bonus_30 ?_
  refine lv_iload_n hx hb dM_bonus_33 rfl (lv_at hl 2 rfl) ?_
  refine lv_iload_n hx hb dM_bonus_34 rfl (lv_at hl 3 rfl) ?_
  refine lv_iload_n hx hb dM_bonus_35 rfl (lv_at hl 4 rfl) ?_
  have pmt := pm_H (mcM1 o a q r) (mcA1 q cI la) (mcWH a cI cG n v C G X D B) (mcP1 r cI cG bu lp)
  have hPt := P_perm pmt hP
  have hDt := D_perm pmt hD
  refine callWV (As := [.int (nI mm), .int (nI oo), .int (iI z)]) (rest := []) ⟨hx, hb, hml, hown, hts⟩ tlB (c_H_putBonus l dC dI a cI cG n v C G X D B s.heap.size mm oo z (by omega) (by omega)) kw323 kw324 kw325 kw26 kw326 ⟨rfl, rfl⟩ (n := 3) (by decide +kernel) ⟨Nat.le_of_ble_eq_true rfl, Nat.le_of_ble_eq_true rfl⟩ hPt.lft hK hDt.lft hS (va_freeL hDt hS hA) (ci := 0) (q0 := 0) rfl rfl rfl hl.1 rfl (Nat.le_of_ble_eq_true rfl) ⟨Nat.le_of_ble_eq_true rfl, Nat.le_of_ble_eq_true rfl⟩ dM_bonus_36 (fun H1 locs1 hP1 hD1 hk1 hS1 => ?_)
  obtain ⟨hPn, hDn⟩ := va_jnL hPt hDt hk1 (va_freeL hDt hS hA) hP1 hD1
  have pmb := (pm_H (mcM1 o a q r) (mcA1 q cI la) (mcWH a cI cG n (v + 1) C G X D (mcB2 (mcB2 B mm oo z) oo mm z)) (mcP1 r cI cG bu lp)).symm
  have hP := P_perm pmb hPn
  have hD := D_perm pmb hDn
  have hS := hS1
  refine lv_iload hx hb dM_bonus_39 (lv_at hl 0 rfl) ?_
  exact W.iret (v := (iI (B mm oo))) hx hb hr (fun t ht hW => ⟨⟨(iI (B mm oo)), (), rfl, rfl, by rw [ht]; exact hP, va_K.moved hW.alike hK, hD⟩, hS.F ht⟩) hS.2.2 dM_bonus_41
set_option maxHeartbeats 4000000 in
set_option maxRecDepth 100000 in
theorem c_M_lawful_ok (l : Launch) (dC : Nat → ClassId) (dI : Nat → Nat → Nat) (o : Nat) (a q r : Nat → Nat) (cI cG : ClassId) (la : mcLA) (n v : Nat) (C G X D : Nat → Nat) (B : Nat → Nat → Int) (bu : Nat → Nat) (lp : mcLP) (S : Nat) (hSn : S < 2 ^ n) (hn : n ≤ 12) (hX : ∀ m, X m < 4096) (hDD : ∀ m, D m < 4096) : Met l yM_lawful wdM_lawful ({ frames := 2, cells := 0, slots := 0, locals := 43 }) (roP (dC, dI) mcCl (mcWT o a q r cI cG la n v C G X D B bu lp) (mcTH cI cG) [.ref o, .int (nI S)]) (vp_Si (fun z9 => mcZ (mc_law n X D S) z9)) 0 0 (fun _ => False) := by
  refine Met.ofW (cc := bM_lawful) (maxL := 2) (ret := (some FieldType.boolean)) (by decide) rfl ?_
  intro p e s m args below meth c s₁ BB hml hv
  obtain ⟨rfl, hP, hK⟩ := hv
  have hx := BB.exec
  have hb := BB.bytes
  have hr := BB.returns
  have hts := atoms_spec (ws := wdM_lawful) BB.pre
  have hown : s.vm.findClass RM = some m.cls := findClass_of_methodNamed BB.named
  have hlocks := BB.notSynchronized
  have hl := lv_entry ([.ref o, .int (nI S)]) (n := 2) (Nat.le_of_ble_eq_true rfl)
  rw [lg_entry_eq]
  generalize (lg_sl ([.ref o, .int (nI S)]) ++ List.replicate (2 - (lg_sl ([.ref o, .int (nI S)])).length) Slot.unset).toArray = ls at hl ⊢
  have hl : lv_has ls 2 [(0, .ref o), (1, .int (nI S))] := hl
  have h12 := mc_pow12 hn hSn
  refine lv_aload_n hx hb dM_lawful_0 rfl (lv_at hl 0 rfl) ?_
  refine lv_iload_n hx hb dM_lawful_1 rfl (lv_at hl 1 rfl) ?_
  refine callRVv (As := [.int (nI S)]) (rest := []) ⟨hx, hb, hml, hown, hts⟩ tlB (c_M_requireSet_ok l dC dI o a q r cI cG la n v C G X D B bu lp S hSn hn) kw334 kw335 kw6 kw25 kw336 ⟨rfl, rfl⟩ (n := 1) (by decide +kernel) ⟨Nat.le_of_ble_eq_true rfl, Nat.le_of_ble_eq_true rfl⟩ (roP_preV hP hK (ci := 3) (q0 := 0) rfl rfl) rfl hl.1 rfl (Nat.le_of_ble_eq_true rfl) ⟨Nat.le_of_ble_eq_true rfl, Nat.le_of_ble_eq_true rfl⟩ dM_lawful_2 ?_
  refine lv_aload_n hx hb dM_lawful_5 rfl (lv_at hl 0 rfl) ?_
  refine va_get (D := (dC, dI)) (ci := 3) (C := RM) (T := FM) (N := 3) hx hb hts (fun w h => List.mem_cons_of_mem _ (inM w h)) hown hK hP 0 rfl rfl 0 (by decide) (hts _ (List.mem_cons_of_mem _ kw132)) (fun _ h9 => h9) rfl dM_lawful_6 ?_
  refine lv_iload_n hx hb dM_lawful_9 rfl (lv_at hl 1 rfl) ?_
  refine callRV (As := [.int (nI S)]) (rest := []) ⟨hx, hb, hml, hown, hts⟩ tlB (c_H_allows l dC dI a cI cG n v C G X D B S hn (by omega) (fun m => by have := hX m; omega) (fun m => by have := hDD m; omega)) kw337 kw168 kw169 kw26 kw170 ⟨rfl, rfl⟩ (n := 1) (by decide +kernel) ⟨Nat.le_of_ble_eq_true rfl, Nat.le_of_ble_eq_true rfl⟩ (roP_preV (P_perm (pm_H _ _ _ _) hP).lft hK (ci := 0) (q0 := 0) rfl rfl) rfl hl.1 rfl (Nat.le_of_ble_eq_true rfl) ⟨Nat.le_of_ble_eq_true rfl, Nat.le_of_ble_eq_true rfl⟩ dM_lawful_10 (fun r1 hr1 => ?_)
  exact W.zret hx hb hr (mcZ_nar hr1) (fun t ht hW => ⟨_, rfl, hr1, ht⟩) (fun q hq => by cases hq) dM_lawful_13
set_option maxHeartbeats 4000000 in
set_option maxRecDepth 100000 in
theorem c_M_told_ok0 (l : Launch) (dC : Nat → ClassId) (dI : Nat → Nat → Nat) (o : Nat) (a q r : Nat → Nat) (cI cG : ClassId) (la : mcLA) (n v : Nat) (C G X D : Nat → Nat) (B : Nat → Nat → Int) (bu : Nat → Nat) (lp : mcLP) (S : Nat) (hSn : S < 2 ^ n) (hn : n ≤ 12) : Met l yM_told wdM_told ({ frames := 3, cells := 0, slots := 0, locals := 68 }) (roP (dC, dI) mcCl (mcWT o a q r cI cG la n v C G X D B bu lp) (mcTH cI cG) [.ref o, .int (nI S), .int 0]) (vp_Si (fun z9 => z9 = nI (mc_cost C S n))) 0 0 (fun _ => False) := by
  refine Met.ofW (cc := bM_told) (maxL := 3) (ret := (some FieldType.int)) (by decide) rfl ?_
  intro p e s m args below meth c s₁ BB hml hv
  obtain ⟨rfl, hP, hK⟩ := hv
  have hx := BB.exec
  have hb := BB.bytes
  have hr := BB.returns
  have hts := atoms_spec (ws := wdM_told) BB.pre
  have hown : s.vm.findClass RM = some m.cls := findClass_of_methodNamed BB.named
  have hlocks := BB.notSynchronized
  have hl := lv_entry ([.ref o, .int (nI S), .int 0]) (n := 3) (Nat.le_of_ble_eq_true rfl)
  rw [lg_entry_eq]
  generalize (lg_sl ([.ref o, .int (nI S), .int 0]) ++ List.replicate (3 - (lg_sl ([.ref o, .int (nI S), .int 0])).length) Slot.unset).toArray = ls at hl ⊢
  have hl : lv_has ls 3 [(0, .ref o), (1, .int (nI S)), (2, .int 0)] := hl
  have h12 := mc_pow12 hn hSn
  refine lv_aload_n hx hb dM_told_0 rfl (lv_at hl 0 rfl) ?_
  refine lv_iload_n hx hb dM_told_1 rfl (lv_at hl 1 rfl) ?_
  refine callRVv (As := [.int (nI S)]) (rest := []) ⟨hx, hb, hml, hown, hts⟩ tlB (c_M_requireSet_ok l dC dI o a q r cI cG la n v C G X D B bu lp S hSn hn) kw334 kw335 kw6 kw25 kw336 ⟨rfl, rfl⟩ (n := 1) (by decide +kernel) ⟨Nat.le_of_ble_eq_true rfl, Nat.le_of_ble_eq_true rfl⟩ (roP_preV hP hK (ci := 3) (q0 := 0) rfl rfl) rfl hl.1 rfl (Nat.le_of_ble_eq_true rfl) ⟨Nat.le_of_ble_eq_true rfl, Nat.le_of_ble_eq_true rfl⟩ dM_told_2 ?_
  refine lv_iload_n hx hb dM_told_5 rfl (lv_at hl 2 rfl) ?_
  refine lv_iconst (v := 0) hx hb dM_told_6 (by decide) ?_
  refine lv_iconst (v := 1) hx hb dM_told_7 (by decide) ?_
  refine callRSv (As := [.int 0, .int 0, .int 1]) (rest := []) ⟨hx, hb, hml, hown, hts⟩ tlB (c_M_requireBetween_ok l 0 0 1 (by decide)) kw195 kw196 kw25 kw197 ⟨rfl, rfl⟩ (n := 3) (by decide +kernel) ⟨Nat.le_of_ble_eq_true rfl, Nat.le_of_ble_eq_true rfl⟩ (nwP_pre) rfl hl.1 rfl (Nat.le_of_ble_eq_true rfl) ⟨Nat.le_of_ble_eq_true rfl, Nat.le_of_ble_eq_true rfl⟩ dM_told_8 ?_
  refine lv_iload_n hx hb dM_told_11 rfl (lv_at hl 2 rfl) ?_
  refine lv_if_ne (tgt := 26) hx hb dM_told_12 (by decide) (fun c1 => ?_) (fun c1 => ?_)
  · exact absurd rfl c1
  ·
    refine lv_aload_n hx hb dM_told_15 rfl (lv_at hl 0 rfl) ?_
    refine va_get (D := (dC, dI)) (ci := 3) (C := RM) (T := FM) (N := 3) hx hb hts (fun w h => List.mem_cons_of_mem _ (inM w h)) hown hK hP 0 rfl rfl 0 (by decide) (hts _ (List.mem_cons_of_mem _ kw132)) (fun _ h9 => h9) rfl dM_told_16 ?_
    refine lv_iload_n hx hb dM_told_19 rfl (lv_at hl 1 rfl) ?_
    refine callRV (As := [.int (nI S)]) (rest := []) ⟨hx, hb, hml, hown, hts⟩ tlB (c_H_costOf l dC dI a cI cG n v C G X D B S hn (by omega)) kw345 kw346 kw347 kw26 kw348 ⟨rfl, rfl⟩ (n := 1) (by decide +kernel) ⟨Nat.le_of_ble_eq_true rfl, Nat.le_of_ble_eq_true rfl⟩ (roP_preV (P_perm (pm_H _ _ _ _) hP).lft hK (ci := 0) (q0 := 0) rfl rfl) rfl hl.1 rfl (Nat.le_of_ble_eq_true rfl) ⟨Nat.le_of_ble_eq_true rfl, Nat.le_of_ble_eq_true rfl⟩ dM_told_20 (fun r1 hr1 => ?_)
    refine lv_goto (tgt := 34) hx hb dM_told_23 (by decide) ?_
    exact W.iret hx hb hr (fun t ht hW => ⟨_, rfl, hr1, ht⟩) (fun q hq => by cases hq) dM_told_34
set_option maxHeartbeats 4000000 in
set_option maxRecDepth 100000 in
theorem c_M_told_ok1 (l : Launch) (dC : Nat → ClassId) (dI : Nat → Nat → Nat) (o : Nat) (a q r : Nat → Nat) (cI cG : ClassId) (la : mcLA) (n v : Nat) (C G X D : Nat → Nat) (B : Nat → Nat → Int) (bu : Nat → Nat) (lp : mcLP) (S : Nat) (hSn : S < 2 ^ n) (hn : n ≤ 12) : Met l yM_told wdM_told ({ frames := 3, cells := 0, slots := 0, locals := 68 }) (roP (dC, dI) mcCl (mcWT o a q r cI cG la n v C G X D B bu lp) (mcTH cI cG) [.ref o, .int (nI S), .int 1]) (vp_Si (fun z9 => z9 = iI (mc_gain G B S n))) 0 0 (fun _ => False) := by
  refine Met.ofW (cc := bM_told) (maxL := 3) (ret := (some FieldType.int)) (by decide) rfl ?_
  intro p e s m args below meth c s₁ BB hml hv
  obtain ⟨rfl, hP, hK⟩ := hv
  have hx := BB.exec
  have hb := BB.bytes
  have hr := BB.returns
  have hts := atoms_spec (ws := wdM_told) BB.pre
  have hown : s.vm.findClass RM = some m.cls := findClass_of_methodNamed BB.named
  have hlocks := BB.notSynchronized
  have hl := lv_entry ([.ref o, .int (nI S), .int 1]) (n := 3) (Nat.le_of_ble_eq_true rfl)
  rw [lg_entry_eq]
  generalize (lg_sl ([.ref o, .int (nI S), .int 1]) ++ List.replicate (3 - (lg_sl ([.ref o, .int (nI S), .int 1])).length) Slot.unset).toArray = ls at hl ⊢
  have hl : lv_has ls 3 [(0, .ref o), (1, .int (nI S)), (2, .int 1)] := hl
  have h12 := mc_pow12 hn hSn
  refine lv_aload_n hx hb dM_told_0 rfl (lv_at hl 0 rfl) ?_
  refine lv_iload_n hx hb dM_told_1 rfl (lv_at hl 1 rfl) ?_
  refine callRVv (As := [.int (nI S)]) (rest := []) ⟨hx, hb, hml, hown, hts⟩ tlB (c_M_requireSet_ok l dC dI o a q r cI cG la n v C G X D B bu lp S hSn hn) kw334 kw335 kw6 kw25 kw336 ⟨rfl, rfl⟩ (n := 1) (by decide +kernel) ⟨Nat.le_of_ble_eq_true rfl, Nat.le_of_ble_eq_true rfl⟩ (roP_preV hP hK (ci := 3) (q0 := 0) rfl rfl) rfl hl.1 rfl (Nat.le_of_ble_eq_true rfl) ⟨Nat.le_of_ble_eq_true rfl, Nat.le_of_ble_eq_true rfl⟩ dM_told_2 ?_
  refine lv_iload_n hx hb dM_told_5 rfl (lv_at hl 2 rfl) ?_
  refine lv_iconst (v := 0) hx hb dM_told_6 (by decide) ?_
  refine lv_iconst (v := 1) hx hb dM_told_7 (by decide) ?_
  refine callRSv (As := [.int 1, .int 0, .int 1]) (rest := []) ⟨hx, hb, hml, hown, hts⟩ tlB (c_M_requireBetween_ok l 1 0 1 (by decide)) kw195 kw196 kw25 kw197 ⟨rfl, rfl⟩ (n := 3) (by decide +kernel) ⟨Nat.le_of_ble_eq_true rfl, Nat.le_of_ble_eq_true rfl⟩ (nwP_pre) rfl hl.1 rfl (Nat.le_of_ble_eq_true rfl) ⟨Nat.le_of_ble_eq_true rfl, Nat.le_of_ble_eq_true rfl⟩ dM_told_8 ?_
  refine lv_iload_n hx hb dM_told_11 rfl (lv_at hl 2 rfl) ?_
  refine lv_if_ne (tgt := 26) hx hb dM_told_12 (by decide) (fun c1 => ?_) (fun c1 => ?_)
  ·
    refine lv_aload_n hx hb dM_told_26 rfl (lv_at hl 0 rfl) ?_
    refine va_get (D := (dC, dI)) (ci := 3) (C := RM) (T := FM) (N := 3) hx hb hts (fun w h => List.mem_cons_of_mem _ (inM w h)) hown hK hP 0 rfl rfl 0 (by decide) (hts _ (List.mem_cons_of_mem _ kw132)) (fun _ h9 => h9) rfl dM_told_27 ?_
    refine lv_iload_n hx hb dM_told_30 rfl (lv_at hl 1 rfl) ?_
    refine callRV (As := [.int (nI S)]) (rest := []) ⟨hx, hb, hml, hown, hts⟩ tlB (c_H_gainOf l dC dI a cI cG n v C G X D B S hn (by omega)) kw349 kw350 kw351 kw26 kw352 ⟨rfl, rfl⟩ (n := 1) (by decide +kernel) ⟨Nat.le_of_ble_eq_true rfl, Nat.le_of_ble_eq_true rfl⟩ (roP_preV (P_perm (pm_H _ _ _ _) hP).lft hK (ci := 0) (q0 := 0) rfl rfl) rfl hl.1 rfl (Nat.le_of_ble_eq_true rfl) ⟨Nat.le_of_ble_eq_true rfl, Nat.le_of_ble_eq_true rfl⟩ dM_told_31 (fun r1 hr1 => ?_)
    exact W.iret hx hb hr (fun t ht hW => ⟨_, rfl, hr1, ht⟩) (fun q hq => by cases hq) dM_told_34
  · exact absurd c1 (by decide)
set_option maxHeartbeats 4000000 in
set_option maxRecDepth 100000 in
theorem c_M_closure_ok (l : Launch) (dC : Nat → ClassId) (dI : Nat → Nat → Nat) (o : Nat) (a q r : Nat → Nat) (cI cG : ClassId) (la : mcLA) (n v : Nat) (C G X D : Nat → Nat) (B : Nat → Nat → Int) (bu : Nat → Nat) (lp : mcLP) (mm : Nat) (hm : mm < n) (hn : n ≤ 12) (hDn : ∀ m j, (D m).testBit j = true → j < n) : Met l yM_closure wdM_closure ({ frames := 3, cells := 0, slots := 0, locals := 67 }) (roP (dC, dI) mcCl (mcWT o a q r cI cG la n v C G X D B bu lp) (mcTH cI cG) [.ref o, .int (nI mm)]) (vp_Si (fun z9 => ∃ S9, z9 = nI S9 ∧ mc_clo n D mm S9)) 0 0 (fun _ => False) := by
  refine Met.ofW (cc := bM_closure) (maxL := 2) (ret := (some FieldType.int)) (by decide) rfl ?_
  intro p e s m args below meth c s₁ BB hml hv
  obtain ⟨rfl, hP, hK⟩ := hv
  have hx := BB.exec
  have hb := BB.bytes
  have hr := BB.returns
  have hts := atoms_spec (ws := wdM_closure) BB.pre
  have hown : s.vm.findClass RM = some m.cls := findClass_of_methodNamed BB.named
  have hlocks := BB.notSynchronized
  have hl := lv_entry ([.ref o, .int (nI mm)]) (n := 2) (Nat.le_of_ble_eq_true rfl)
  rw [lg_entry_eq]
  generalize (lg_sl ([.ref o, .int (nI mm)]) ++ List.replicate (2 - (lg_sl ([.ref o, .int (nI mm)])).length) Slot.unset).toArray = ls at hl ⊢
  have hl : lv_has ls 2 [(0, .ref o), (1, .int (nI mm))] := hl
  refine lv_aload_n hx hb dM_closure_0 rfl (lv_at hl 0 rfl) ?_
  refine lv_iload_n hx hb dM_closure_1 rfl (lv_at hl 1 rfl) ?_
  refine callRVv (As := [.int (nI mm)]) (rest := []) ⟨hx, hb, hml, hown, hts⟩ tlB (c_M_requireMeasure_ok l dC dI o a q r cI cG la n v C G X D B bu lp mm hm hn) kw283 kw284 kw4 kw25 kw285 ⟨rfl, rfl⟩ (n := 1) (by decide +kernel) ⟨Nat.le_of_ble_eq_true rfl, Nat.le_of_ble_eq_true rfl⟩ (roP_preV hP hK (ci := 3) (q0 := 0) rfl rfl) rfl hl.1 rfl (Nat.le_of_ble_eq_true rfl) ⟨Nat.le_of_ble_eq_true rfl, Nat.le_of_ble_eq_true rfl⟩ dM_closure_2 ?_
  refine lv_aload_n hx hb dM_closure_5 rfl (lv_at hl 0 rfl) ?_
  refine va_get (D := (dC, dI)) (ci := 3) (C := RM) (T := FM) (N := 3) hx hb hts (fun w h => List.mem_cons_of_mem _ (inM w h)) hown hK hP 0 rfl rfl 0 (by decide) (hts _ (List.mem_cons_of_mem _ kw132)) (fun _ h9 => h9) rfl dM_closure_6 ?_
  refine lv_iload_n hx hb dM_closure_9 rfl (lv_at hl 1 rfl) ?_
  refine callRV (As := [.int (nI mm)]) (rest := []) ⟨hx, hb, hml, hown, hts⟩ tlB (c_H_broughtBy l dC dI a cI cG n v C G X D B mm hn hm hDn) kw363 kw364 kw365 kw26 kw366 ⟨rfl, rfl⟩ (n := 1) (by decide +kernel) ⟨Nat.le_of_ble_eq_true rfl, Nat.le_of_ble_eq_true rfl⟩ (roP_preV (P_perm (pm_H _ _ _ _) hP).lft hK (ci := 0) (q0 := 0) rfl rfl) rfl hl.1 rfl (Nat.le_of_ble_eq_true rfl) ⟨Nat.le_of_ble_eq_true rfl, Nat.le_of_ble_eq_true rfl⟩ dM_closure_10 (fun r1 hr1 => ?_)
  exact W.iret hx hb hr (fun t ht hW => ⟨_, rfl, ⟨_, hr1, mc_itr_clo hm hDn⟩, ht⟩) (fun q hq => by cases hq) dM_closure_13
set_option maxHeartbeats 4000000 in
set_option maxRecDepth 100000 in
theorem c_M_year_ok (l : Launch) (dC : Nat → ClassId) (dI : Nat → Nat → Nat) (o : Nat) (a q r : Nat → Nat) (cI cG : ClassId) (la : mcLA) (n v : Nat) (C G X D : Nat → Nat) (B : Nat → Nat → Int) (bu : Nat → Nat) (lp : mcLP) (sz : Nat) (y b : Nat) (hy : y < 4) (h1 : 0 ≤ nI y ∧ nI y ≤ 3) (h2 : 0 ≤ nI b ∧ nI b ≤ 100000) : Met l yM_year wdM_year ({ frames := 1, cells := 0, slots := 0, locals := 22 }) (wrP (dC, dI) mcCl (mcWT o a q r cI cG la n v C G X D B bu lp) (mcTH cI cG) sz [.ref o, .int (nI y), .int (nI b)]) (va_Qi (fun z9 (x : Unit) => z9 = nI (bu y)) (fun x t => va_P (dC, dI) mcCl (mcWT o a q r cI cG la n v C G X D B (va_up bu y b) lp) t.heap ∧ va_K (dC, dI) mcCl (mcTH cI cG) t ∧ va_D (va_A (mcWT o a q r cI cG la n v C G X D B bu lp) sz) (mcWT o a q r cI cG la n v C G X D B (va_up bu y b) lp)) (va_A (mcWT o a q r cI cG la n v C G X D B bu lp) sz)) 0 0 (va_A (mcWT o a q r cI cG la n v C G X D B bu lp) sz) := by
  refine Met.ofW (cc := bM_year) (maxL := 4) (ret := (some FieldType.int)) (by decide) rfl ?_
  intro p e s m args below meth c s₁ BB hml hv
  obtain ⟨rfl, hsz, hP, hK, hD0⟩ := hv
  have hx := BB.exec
  have hb := BB.bytes
  have hr := BB.returns
  have hts := atoms_spec (ws := wdM_year) BB.pre
  have hown : s.vm.findClass RM = some m.cls := findClass_of_methodNamed BB.named
  have hlocks := BB.notSynchronized
  subst hsz
  have hD := hD0.self (sz := s.heap.size)
  generalize hAe : va_A (mcWT o a q r cI cG la n v C G X D B bu lp) s.heap.size = A at hD ⊢
  have hA : ∀ q : Nat, s.heap.size ≤ q → A q := fun q h => by rw [← hAe]; exact Or.inr h
  have hS : va_S A s.heap s.heap [] := va_S.rf
  have hl := lv_entry ([.ref o, .int (nI y), .int (nI b)]) (n := 4) (Nat.le_of_ble_eq_true rfl)
  rw [lg_entry_eq]
  generalize (lg_sl ([.ref o, .int (nI y), .int (nI b)]) ++ List.replicate (4 - (lg_sl ([.ref o, .int (nI y), .int (nI b)])).length) Slot.unset).toArray = ls at hl ⊢
  have hl : lv_has ls 4 [(0, .ref o), (1, .int (nI y)), (2, .int (nI b))] := hl
  refine lv_iload_n hx hb dM_year_0 rfl (lv_at hl 1 rfl) ?_
  refine lv_iconst (v := 0) hx hb dM_year_1 (by decide) ?_
  refine lv_iconst (v := 3) hx hb dM_year_2 (by decide) ?_
  refine callRSv (As := [.int (nI y), .int 0, .int 3]) (rest := []) ⟨hx, hb, hml, hown, hts⟩ tlB (c_M_requireBetween_ok l (nI y) 0 3 h1) kw195 kw196 kw25 kw197 ⟨rfl, rfl⟩ (n := 3) (by decide +kernel) ⟨Nat.le_of_ble_eq_true rfl, Nat.le_of_ble_eq_true rfl⟩ (nwP_pre) rfl hl.1 rfl (Nat.le_of_ble_eq_true rfl) ⟨Nat.le_of_ble_eq_true rfl, Nat.le_of_ble_eq_true rfl⟩ dM_year_3 ?_
  refine lv_iload_n hx hb dM_year_6 rfl (lv_at hl 2 rfl) ?_
  refine lv_iconst (v := 0) hx hb dM_year_7 (by decide) ?_
  refine lv_ldc (v := 100000) hx hb hown (hts _ (List.mem_cons_of_mem _ kw408)) dM_year_8 ?_
  refine callRSv (As := [.int (nI b), .int 0, .int 100000]) (rest := []) ⟨hx, hb, hml, hown, hts⟩ tlB (c_M_requireBetween_ok l (nI b) 0 100000 h2) kw195 kw196 kw25 kw197 ⟨rfl, rfl⟩ (n := 3) (by decide +kernel) ⟨Nat.le_of_ble_eq_true rfl, Nat.le_of_ble_eq_true rfl⟩ (nwP_pre) rfl hl.1 rfl (Nat.le_of_ble_eq_true rfl) ⟨Nat.le_of_ble_eq_true rfl, Nat.le_of_ble_eq_true rfl⟩ dM_year_10 ?_
  refine lv_aload_n hx hb dM_year_13 rfl (lv_at hl 0 rfl) ?_
  refine va_get (D := (dC, dI)) (ci := 3) (C := RM) (T := FM) (N := 3) hx hb hts (fun w h => List.mem_cons_of_mem _ (inM w h)) hown hK hP 0 rfl rfl 2 (by decide) (hts _ (List.mem_cons_of_mem _ kw134)) (fun _ h9 => h9) rfl dM_year_14 ?_
  refine va_get (D := (dC, dI)) (ci := 2) (C := RP) (T := FP) (N := 7) hx hb hts (fun w h => List.mem_cons_of_mem _ (inP w h)) hown hK hP 22 rfl rfl 0 (by decide) (hts _ (List.mem_cons_of_mem _ kw109)) (fun _ h9 => h9) rfl dM_year_17 ?_
  refine lv_iload_n hx hb dM_year_20 rfl (lv_at hl 1 rfl) ?_
  refine ialdN hx hb hK hP 23 0 rfl rfl (k := y) hy (by decide) (v := nI (bu y)) rfl dM_year_21 ?_
  refine lv_istore_n (lv' := [(3, .int (nI (bu y))), (0, .ref o), (1, .int (nI y)), (2, .int (nI b))]) hx hb dM_year_22 rfl hl (by decide) rfl (fun ls hl => ?_)
  refine lv_aload_n hx hb dM_year_23 rfl (lv_at hl 1 rfl) ?_
  refine va_get (D := (dC, dI)) (ci := 3) (C := RM) (T := FM) (N := 3) hx hb hts (fun w h => List.mem_cons_of_mem _ (inM w h)) hown hK hP 0 rfl rfl 2 (by decide) (hts _ (List.mem_cons_of_mem _ kw134)) (fun _ h9 => h9) rfl dM_year_24 ?_
  refine va_get (D := (dC, dI)) (ci := 2) (C := RP) (T := FP) (N := 7) hx hb hts (fun w h => List.mem_cons_of_mem _ (inP w h)) hown hK hP 22 rfl rfl 0 (by decide) (hts _ (List.mem_cons_of_mem _ kw109)) (fun _ h9 => h9) rfl dM_year_27 ?_
  refine lv_iload_n hx hb dM_year_30 rfl (lv_at hl 2 rfl) ?_
  refine lv_iload_n hx hb dM_year_31 rfl (lv_at hl 3 rfl) ?_
  refine iastN hx hb hK hP hD hS 23 0 rfl rfl (k := y) hy (by decide) (x := nI b) (fun j => nI (va_up bu y b j)) (fun j => by simp only [va_up]; split <;> rfl) (ws' := mcWT o a q r cI cG la n v C G X D B (va_up bu y b) lp) (rfl) dM_year_32 (fun H locs hP hD hS => ?_)
  refine lv_iload_n hx hb dM_year_33 rfl (lv_at hl 0 rfl) ?_
  exact W.iret (v := (nI (bu y))) hx hb hr (fun t ht hW => ⟨⟨(nI (bu y)), (), rfl, rfl, by rw [ht]; exact hP, va_K.moved hW.alike hK, hD⟩, hS.F ht⟩) hS.2.2 dM_year_34
