/-! the object: its methods where an argument is not good: they throw, and nothing changes -/
set_option maxHeartbeats 4000000 in
set_option maxRecDepth 100000 in
theorem c_M_requireBetween_bad (l : Launch) (hlt : l.stackTraces = false) (v1 lo hi : Int32) (hbad : ¬ (lo ≤ v1 ∧ v1 ≤ hi)) : mcXMet l yM_requireBetween wdM_requireBetween ({ frames := 6, cells := 1, slots := 6, locals := 82 }) (nwP [.int v1, .int lo, .int hi]) mcIAE := by
  refine vx_ofW (cc := bM_requireBetween) (maxL := 3) (ret := none) (by decide) rfl ?_
  intro p e s m args below meth c s₁ BB hml hout hv
  obtain ⟨hv, hTh⟩ := hv
  obtain ⟨rfl, -⟩ := hv
  have hx := BB.exec
  have hb := BB.bytes
  have hr := BB.returns
  have hts := atoms_spec (ws := wdM_requireBetween) BB.pre
  have hown : s.vm.findClass RM = some m.cls := findClass_of_methodNamed BB.named
  have hlocks := BB.notSynchronized
  have hl := lv_entry ([.int v1, .int lo, .int hi]) (n := 3) (Nat.le_of_ble_eq_true rfl)
  rw [lg_entry_eq]
  generalize (lg_sl ([.int v1, .int lo, .int hi]) ++ List.replicate (3 - (lg_sl ([.int v1, .int lo, .int hi])).length) Slot.unset).toArray = ls at hl ⊢
  have hl : lv_has ls 3 [(0, .int v1), (1, .int lo), (2, .int hi)] := hl
  refine lv_iload_n hx hb dM_requireBetween_0 rfl (lv_at hl 0 rfl) ?_
  refine lv_iload_n hx hb dM_requireBetween_1 rfl (lv_at hl 1 rfl) ?_
  refine lv_icmp_lt (tgt := 10) hx hb dM_requireBetween_2 (by decide) (fun c1 => ?_) (fun c1 => ?_)
  ·
    exact mcThrow hx hb hlt hown hts hml hout hlocks (by decide +kernel) kw198 kw33 mcAt_IAE (List.mem_of_getElem? (i := 0) rfl) hTh hl.1 dM_requireBetween_10 dM_requireBetween_13 dM_requireBetween_14 dM_requireBetween_16 dM_requireBetween_19 (Nat.le_of_ble_eq_true rfl) (Nat.le_of_ble_eq_true rfl) (Nat.le_of_ble_eq_true rfl) (Nat.le_of_ble_eq_true rfl)
  ·
    refine lv_iload_n hx hb dM_requireBetween_5 rfl (lv_at hl 0 rfl) ?_
    refine lv_iload_n hx hb dM_requireBetween_6 rfl (lv_at hl 2 rfl) ?_
    refine lv_icmp_le (tgt := 20) hx hb dM_requireBetween_7 (by decide) (fun c2 => ?_) (fun c2 => ?_)
    · exact absurd ⟨Int32.not_lt.mp c1, c2⟩ hbad
    ·
      exact mcThrow hx hb hlt hown hts hml hout hlocks (by decide +kernel) kw198 kw33 mcAt_IAE (List.mem_of_getElem? (i := 0) rfl) hTh hl.1 dM_requireBetween_10 dM_requireBetween_13 dM_requireBetween_14 dM_requireBetween_16 dM_requireBetween_19 (Nat.le_of_ble_eq_true rfl) (Nat.le_of_ble_eq_true rfl) (Nat.le_of_ble_eq_true rfl) (Nat.le_of_ble_eq_true rfl)
set_option maxHeartbeats 4000000 in
set_option maxRecDepth 100000 in
theorem c_M_requireNotBelowZero_bad (l : Launch) (hlt : l.stackTraces = false) (v1 : Int32) (hbad : ¬ ¬ v1 < 0) : mcXMet l yM_requireNotBelowZero wdM_requireNotBelowZero ({ frames := 6, cells := 1, slots := 6, locals := 82 }) (nwP [.int v1]) mcIAE := by
  refine vx_ofW (cc := bM_requireNotBelowZero) (maxL := 1) (ret := none) (by decide) rfl ?_
  intro p e s m args below meth c s₁ BB hml hout hv
  obtain ⟨hv, hTh⟩ := hv
  obtain ⟨rfl, -⟩ := hv
  have hx := BB.exec
  have hb := BB.bytes
  have hr := BB.returns
  have hts := atoms_spec (ws := wdM_requireNotBelowZero) BB.pre
  have hown : s.vm.findClass RM = some m.cls := findClass_of_methodNamed BB.named
  have hlocks := BB.notSynchronized
  have hl := lv_entry ([.int v1]) (n := 1) (Nat.le_of_ble_eq_true rfl)
  rw [lg_entry_eq]
  generalize (lg_sl ([.int v1]) ++ List.replicate (1 - (lg_sl ([.int v1])).length) Slot.unset).toArray = ls at hl ⊢
  have hl : lv_has ls 1 [(0, .int v1)] := hl
  refine lv_iload_n hx hb dM_requireNotBelowZero_0 rfl (lv_at hl 0 rfl) ?_
  refine lv_if_ge (tgt := 14) hx hb dM_requireNotBelowZero_1 (by decide) (fun c1 => ?_) (fun c1 => ?_)
  · exact absurd (fun h => absurd c1 (Int32.not_le.mpr h)) hbad
  ·
    exact mcThrow hx hb hlt hown hts hml hout hlocks (by decide +kernel) kw198 kw33 mcAt_IAE (List.mem_of_getElem? (i := 5) rfl) hTh hl.1 dM_requireNotBelowZero_4 dM_requireNotBelowZero_7 dM_requireNotBelowZero_8 dM_requireNotBelowZero_10 dM_requireNotBelowZero_13 (Nat.le_of_ble_eq_true rfl) (Nat.le_of_ble_eq_true rfl) (Nat.le_of_ble_eq_true rfl) (Nat.le_of_ble_eq_true rfl)
set_option maxHeartbeats 4000000 in
set_option maxRecDepth 100000 in
theorem c_M_requireCostAndGain_bad (l : Launch) (hlt : l.stackTraces = false) (v1 v2 : Int32) (hbad : ¬ ((1 ≤ v1 ∧ v1 ≤ 10000) ∧ (0 ≤ v2 ∧ v2 ≤ 10000))) : mcXMet l yM_requireCostAndGain wdM_requireCostAndGain ({ frames := 7, cells := 1, slots := 6, locals := 104 }) (nwP [.int v1, .int v2]) mcIAE := by
  refine vx_ofW (cc := bM_requireCostAndGain) (maxL := 2) (ret := none) (by decide) rfl ?_
  intro p e s m args below meth c s₁ BB hml hout hv
  obtain ⟨hv, hTh⟩ := hv
  obtain ⟨rfl, -⟩ := hv
  have hx := BB.exec
  have hb := BB.bytes
  have hr := BB.returns
  have hts := atoms_spec (ws := wdM_requireCostAndGain) BB.pre
  have hown : s.vm.findClass RM = some m.cls := findClass_of_methodNamed BB.named
  have hlocks := BB.notSynchronized
  have hl := lv_entry ([.int v1, .int v2]) (n := 2) (Nat.le_of_ble_eq_true rfl)
  rw [lg_entry_eq]
  generalize (lg_sl ([.int v1, .int v2]) ++ List.replicate (2 - (lg_sl ([.int v1, .int v2])).length) Slot.unset).toArray = ls at hl ⊢
  have hl : lv_has ls 2 [(0, .int v1), (1, .int v2)] := hl
  refine lv_iload_n hx hb dM_requireCostAndGain_0 rfl (lv_at hl 0 rfl) ?_
  refine lv_iconst (v := 1) hx hb dM_requireCostAndGain_1 (by decide) ?_
  refine lv_sipush (v := 10000) hx hb dM_requireCostAndGain_2 (by decide) ?_
  by_cases h1 : (1 ≤ v1 ∧ v1 ≤ 10000)
  ·
    refine callRSv (As := [.int v1, .int 1, .int 10000]) (rest := []) ⟨hx, hb, hml, hown, hts⟩ tlB (c_M_requireBetween_ok l v1 1 10000 h1) kw195 kw196 kw25 kw197 ⟨rfl, rfl⟩ (n := 3) (by decide +kernel) ⟨Nat.le_of_ble_eq_true rfl, Nat.le_of_ble_eq_true rfl⟩ (nwP_pre) rfl hl.1 rfl (Nat.le_of_ble_eq_true rfl) ⟨Nat.le_of_ble_eq_true rfl, Nat.le_of_ble_eq_true rfl⟩ dM_requireCostAndGain_5 ?_
    refine lv_iload_n hx hb dM_requireCostAndGain_8 rfl (lv_at hl 1 rfl) ?_
    refine lv_iconst (v := 0) hx hb dM_requireCostAndGain_9 (by decide) ?_
    refine lv_sipush (v := 10000) hx hb dM_requireCostAndGain_10 (by decide) ?_
    exact callXS (As := [.int v2, .int 0, .int 10000]) (rest := []) ⟨hx, hb, hml, hown, hts⟩ tlB (c_M_requireBetween_bad l hlt v2 0 10000 (fun h2 => hbad ⟨h1, h2⟩)) kw195 kw196 kw25 kw197 ⟨rfl, rfl⟩ (n := 3) (by decide +kernel) ⟨Nat.le_of_ble_eq_true rfl, Nat.le_of_ble_eq_true rfl⟩ (nwP_pre) hTh rfl hl.1 rfl (Nat.le_of_ble_eq_true rfl) ⟨Nat.le_of_ble_eq_true rfl, Nat.le_of_ble_eq_true rfl⟩ dM_requireCostAndGain_13 (fun ce q9 H1 hz9 hk9 hce hcv hcl => passX hout hlocks hz9 hk9 hce hcv hcl)
  ·
    exact callXS (As := [.int v1, .int 1, .int 10000]) (rest := []) ⟨hx, hb, hml, hown, hts⟩ tlB (c_M_requireBetween_bad l hlt v1 1 10000 h1) kw195 kw196 kw25 kw197 ⟨rfl, rfl⟩ (n := 3) (by decide +kernel) ⟨Nat.le_of_ble_eq_true rfl, Nat.le_of_ble_eq_true rfl⟩ (nwP_pre) hTh rfl hl.1 rfl (Nat.le_of_ble_eq_true rfl) ⟨Nat.le_of_ble_eq_true rfl, Nat.le_of_ble_eq_true rfl⟩ dM_requireCostAndGain_5 (fun ce q9 H1 hz9 hk9 hce hcv hcl => passX hout hlocks hz9 hk9 hce hcv hcl)
set_option maxHeartbeats 4000000 in
set_option maxRecDepth 100000 in
theorem c_M_requireMeasure_bad (l : Launch) (dC : Nat → ClassId) (dI : Nat → Nat → Nat) (o : Nat) (a q r : Nat → Nat) (cI cG : ClassId) (la : mcLA) (n v : Nat) (C G X D : Nat → Nat) (B : Nat → Nat → Int) (bu : Nat → Nat) (lp : mcLP) (hlt : l.stackTraces = false) (v1 : Int32) (hn : n ≤ 12) (hbad : ¬ (∃ k, k < n ∧ v1 = nI k)) : mcXMet l yM_requireMeasure wdM_requireMeasure ({ frames := 6, cells := 1, slots := 6, locals := 82 }) (roP (dC, dI) mcCl (mcWT o a q r cI cG la n v C G X D B bu lp) (mcTH cI cG) [.ref o, .int v1]) mcIAE := by
  refine vx_ofW (cc := bM_requireMeasure) (maxL := 2) (ret := none) (by decide) rfl ?_
  intro p e s m args below meth c s₁ BB hml hout hv
  obtain ⟨hv, hTh⟩ := hv
  obtain ⟨rfl, hP, hK⟩ := hv
  have hx := BB.exec
  have hb := BB.bytes
  have hr := BB.returns
  have hts := atoms_spec (ws := wdM_requireMeasure) BB.pre
  have hown : s.vm.findClass RM = some m.cls := findClass_of_methodNamed BB.named
  have hlocks := BB.notSynchronized
  have hl := lv_entry ([.ref o, .int v1]) (n := 2) (Nat.le_of_ble_eq_true rfl)
  rw [lg_entry_eq]
  generalize (lg_sl ([.ref o, .int v1]) ++ List.replicate (2 - (lg_sl ([.ref o, .int v1])).length) Slot.unset).toArray = ls at hl ⊢
  have hl : lv_has ls 2 [(0, .ref o), (1, .int v1)] := hl
  refine lv_iload_n hx hb dM_requireMeasure_0 rfl (lv_at hl 1 rfl) ?_
  refine lv_if_lt (tgt := 15) hx hb dM_requireMeasure_1 (by decide) (fun c1 => ?_) (fun c1 => ?_)
  ·
    exact mcThrow hx hb hlt hown hts hml hout hlocks (by decide +kernel) kw198 kw33 mcAt_IAE (List.mem_of_getElem? (i := 2) rfl) hTh hl.1 dM_requireMeasure_15 dM_requireMeasure_18 dM_requireMeasure_19 dM_requireMeasure_21 dM_requireMeasure_24 (Nat.le_of_ble_eq_true rfl) (Nat.le_of_ble_eq_true rfl) (Nat.le_of_ble_eq_true rfl) (Nat.le_of_ble_eq_true rfl)
  ·
    refine lv_iload_n hx hb dM_requireMeasure_4 rfl (lv_at hl 1 rfl) ?_
    refine lv_aload_n hx hb dM_requireMeasure_5 rfl (lv_at hl 0 rfl) ?_
    refine va_get (D := (dC, dI)) (ci := 3) (C := RM) (T := FM) (N := 3) hx hb hts (fun w h => List.mem_cons_of_mem _ (inM w h)) hown hK hP 0 rfl rfl 0 (by decide) (hts _ (List.mem_cons_of_mem _ kw132)) (fun _ h9 => h9) rfl dM_requireMeasure_6 ?_
    refine va_get (D := (dC, dI)) (ci := 0) (C := RH) (T := FH) (N := 7) hx hb hts (fun w h => List.mem_cons_of_mem _ (inH w h)) hown hK hP 4 rfl rfl 0 (by decide) (hts _ (List.mem_cons_of_mem _ kw51)) (fun _ h9 => h9) rfl dM_requireMeasure_9 ?_
    refine lv_icmp_lt (tgt := 25) hx hb dM_requireMeasure_12 (by decide) (fun c2 => ?_) (fun c2 => ?_)
    ·
      obtain ⟨k1, h1, rfl⟩ := nI_of c1
      exact absurd ⟨k1, (nI_ltI h1 (by omega)).mp c2, rfl⟩ hbad
    ·
      exact mcThrow hx hb hlt hown hts hml hout hlocks (by decide +kernel) kw198 kw33 mcAt_IAE (List.mem_of_getElem? (i := 2) rfl) hTh hl.1 dM_requireMeasure_15 dM_requireMeasure_18 dM_requireMeasure_19 dM_requireMeasure_21 dM_requireMeasure_24 (Nat.le_of_ble_eq_true rfl) (Nat.le_of_ble_eq_true rfl) (Nat.le_of_ble_eq_true rfl) (Nat.le_of_ble_eq_true rfl)
set_option maxHeartbeats 4000000 in
set_option maxRecDepth 100000 in
theorem c_M_requireSet_bad (l : Launch) (dC : Nat → ClassId) (dI : Nat → Nat → Nat) (o : Nat) (a q r : Nat → Nat) (cI cG : ClassId) (la : mcLA) (n v : Nat) (C G X D : Nat → Nat) (B : Nat → Nat → Int) (bu : Nat → Nat) (lp : mcLP) (hlt : l.stackTraces = false) (v1 : Int32) (hn : n ≤ 12) (hbad : ¬ ∃ S, S < 2 ^ n ∧ v1 = nI S) : mcXMet l yM_requireSet wdM_requireSet ({ frames := 6, cells := 1, slots := 6, locals := 82 }) (roP (dC, dI) mcCl (mcWT o a q r cI cG la n v C G X D B bu lp) (mcTH cI cG) [.ref o, .int v1]) mcIAE := by
  refine vx_ofW (cc := bM_requireSet) (maxL := 2) (ret := none) (by decide) rfl ?_
  intro p e s m args below meth c s₁ BB hml hout hv
  obtain ⟨hv, hTh⟩ := hv
  obtain ⟨rfl, hP, hK⟩ := hv
  have hx := BB.exec
  have hb := BB.bytes
  have hr := BB.returns
  have hts := atoms_spec (ws := wdM_requireSet) BB.pre
  have hown : s.vm.findClass RM = some m.cls := findClass_of_methodNamed BB.named
  have hlocks := BB.notSynchronized
  have hl := lv_entry ([.ref o, .int v1]) (n := 2) (Nat.le_of_ble_eq_true rfl)
  rw [lg_entry_eq]
  generalize (lg_sl ([.ref o, .int v1]) ++ List.replicate (2 - (lg_sl ([.ref o, .int v1])).length) Slot.unset).toArray = ls at hl ⊢
  have hl : lv_has ls 2 [(0, .ref o), (1, .int v1)] := hl
  have hp12 : 2 ^ n ≤ 2 ^ 12 := Nat.pow_le_pow_right (by decide) hn
  refine lv_iload_n hx hb dM_requireSet_0 rfl (lv_at hl 1 rfl) ?_
  refine lv_if_lt (tgt := 17) hx hb dM_requireSet_1 (by decide) (fun c1 => ?_) (fun c1 => ?_)
  ·
    exact mcThrow hx hb hlt hown hts hml hout hlocks (by decide +kernel) kw198 kw33 mcAt_IAE (List.mem_of_getElem? (i := 4) rfl) hTh hl.1 dM_requireSet_17 dM_requireSet_20 dM_requireSet_21 dM_requireSet_23 dM_requireSet_26 (Nat.le_of_ble_eq_true rfl) (Nat.le_of_ble_eq_true rfl) (Nat.le_of_ble_eq_true rfl) (Nat.le_of_ble_eq_true rfl)
  ·
    refine lv_iload_n hx hb dM_requireSet_4 rfl (lv_at hl 1 rfl) ?_
    refine lv_iconst (v := 1) hx hb dM_requireSet_5 (by decide) ?_
    refine lv_aload_n hx hb dM_requireSet_6 rfl (lv_at hl 0 rfl) ?_
    refine va_get (D := (dC, dI)) (ci := 3) (C := RM) (T := FM) (N := 3) hx hb hts (fun w h => List.mem_cons_of_mem _ (inM w h)) hown hK hP 0 rfl rfl 0 (by decide) (hts _ (List.mem_cons_of_mem _ kw132)) (fun _ h9 => h9) rfl dM_requireSet_7 ?_
    refine va_get (D := (dC, dI)) (ci := 0) (C := RH) (T := FH) (N := 7) hx hb hts (fun w h => List.mem_cons_of_mem _ (inH w h)) hown hK hP 4 rfl rfl 0 (by decide) (hts _ (List.mem_cons_of_mem _ kw51)) (fun _ h9 => h9) rfl dM_requireSet_10 ?_
    refine lv_ishl hx hb dM_requireSet_13 ?_
    refine lv_topi (fun y1 ey1 => ?_)
    have hy1 : y1 = nI (2 ^ n) := by rw [ey1, nI_bit (by omega)]
    subst hy1
    refine lv_icmp_lt (tgt := 27) hx hb dM_requireSet_14 (by decide) (fun c2 => ?_) (fun c2 => ?_)
    ·
      obtain ⟨k1, h1, rfl⟩ := nI_of c1
      exact absurd ⟨k1, (nI_ltI h1 (by omega)).mp c2, rfl⟩ hbad
    ·
      exact mcThrow hx hb hlt hown hts hml hout hlocks (by decide +kernel) kw198 kw33 mcAt_IAE (List.mem_of_getElem? (i := 4) rfl) hTh hl.1 dM_requireSet_17 dM_requireSet_20 dM_requireSet_21 dM_requireSet_23 dM_requireSet_26 (Nat.le_of_ble_eq_true rfl) (Nat.le_of_ble_eq_true rfl) (Nat.le_of_ble_eq_true rfl) (Nat.le_of_ble_eq_true rfl)
set_option maxHeartbeats 4000000 in
set_option maxRecDepth 100000 in
theorem c_M_requirePair_bad (l : Launch) (dC : Nat → ClassId) (dI : Nat → Nat → Nat) (o : Nat) (a q r : Nat → Nat) (cI cG : ClassId) (la : mcLA) (n v : Nat) (C G X D : Nat → Nat) (B : Nat → Nat → Int) (bu : Nat → Nat) (lp : mcLP) (hlt : l.stackTraces = false) (v1 v2 : Int32) (hn : n ≤ 12) (hbad : ¬ ((∃ k, k < n ∧ v1 = nI k) ∧ (∃ k, k < n ∧ v2 = nI k) ∧ ¬ v1 = v2)) : mcXMet l yM_requirePair wdM_requirePair ({ frames := 7, cells := 1, slots := 6, locals := 103 }) (roP (dC, dI) mcCl (mcWT o a q r cI cG la n v C G X D B bu lp) (mcTH cI cG) [.ref o, .int v1, .int v2]) mcIAE := by
  refine vx_ofW (cc := bM_requirePair) (maxL := 3) (ret := none) (by decide) rfl ?_
  intro p e s m args below meth c s₁ BB hml hout hv
  obtain ⟨hv, hTh⟩ := hv
  obtain ⟨rfl, hP, hK⟩ := hv
  have hx := BB.exec
  have hb := BB.bytes
  have hr := BB.returns
  have hts := atoms_spec (ws := wdM_requirePair) BB.pre
  have hown : s.vm.findClass RM = some m.cls := findClass_of_methodNamed BB.named
  have hlocks := BB.notSynchronized
  have hl := lv_entry ([.ref o, .int v1, .int v2]) (n := 3) (Nat.le_of_ble_eq_true rfl)
  rw [lg_entry_eq]
  generalize (lg_sl ([.ref o, .int v1, .int v2]) ++ List.replicate (3 - (lg_sl ([.ref o, .int v1, .int v2])).length) Slot.unset).toArray = ls at hl ⊢
  have hl : lv_has ls 3 [(0, .ref o), (1, .int v1), (2, .int v2)] := hl
  refine lv_aload_n hx hb dM_requirePair_0 rfl (lv_at hl 0 rfl) ?_
  refine lv_iload_n hx hb dM_requirePair_1 rfl (lv_at hl 1 rfl) ?_
  by_cases h1 : (∃ k, k < n ∧ v1 = nI k)
  ·
    obtain ⟨k1, hk1, rfl⟩ := h1
    refine callRVv (As := [.int (nI k1)]) (rest := []) ⟨hx, hb, hml, hown, hts⟩ tlB (c_M_requireMeasure_ok l dC dI o a q r cI cG la n v C G X D B bu lp k1 hk1 hn) kw283 kw284 kw4 kw25 kw285 ⟨rfl, rfl⟩ (n := 1) (by decide +kernel) ⟨Nat.le_of_ble_eq_true rfl, Nat.le_of_ble_eq_true rfl⟩ (roP_preV hP hK (ci := 3) (q0 := 0) rfl rfl) rfl hl.1 rfl (Nat.le_of_ble_eq_true rfl) ⟨Nat.le_of_ble_eq_true rfl, Nat.le_of_ble_eq_true rfl⟩ dM_requirePair_2 ?_
    refine lv_aload_n hx hb dM_requirePair_5 rfl (lv_at hl 0 rfl) ?_
    refine lv_iload_n hx hb dM_requirePair_6 rfl (lv_at hl 2 rfl) ?_
    by_cases h2 : (∃ k, k < n ∧ v2 = nI k)
    ·
      obtain ⟨k2, hk2, rfl⟩ := h2
      refine callRVv (As := [.int (nI k2)]) (rest := []) ⟨hx, hb, hml, hown, hts⟩ tlB (c_M_requireMeasure_ok l dC dI o a q r cI cG la n v C G X D B bu lp k2 hk2 hn) kw283 kw284 kw4 kw25 kw285 ⟨rfl, rfl⟩ (n := 1) (by decide +kernel) ⟨Nat.le_of_ble_eq_true rfl, Nat.le_of_ble_eq_true rfl⟩ (roP_preV hP hK (ci := 3) (q0 := 0) rfl rfl) rfl hl.1 rfl (Nat.le_of_ble_eq_true rfl) ⟨Nat.le_of_ble_eq_true rfl, Nat.le_of_ble_eq_true rfl⟩ dM_requirePair_7 ?_
      refine lv_iload_n hx hb dM_requirePair_10 rfl (lv_at hl 1 rfl) ?_
      refine lv_iload_n hx hb dM_requirePair_11 rfl (lv_at hl 2 rfl) ?_
      refine lv_icmp_ne (tgt := 25) hx hb dM_requirePair_12 (by decide) (fun c1 => ?_) (fun c1 => ?_)
      · exact absurd ⟨⟨k1, hk1, rfl⟩, ⟨k2, hk2, rfl⟩, c1⟩ hbad
      ·
        exact mcThrow hx hb hlt hown hts hml hout hlocks (by decide +kernel) kw198 kw33 mcAt_IAE (List.mem_of_getElem? (i := 3) rfl) hTh hl.1 dM_requirePair_15 dM_requirePair_18 dM_requirePair_19 dM_requirePair_21 dM_requirePair_24 (Nat.le_of_ble_eq_true rfl) (Nat.le_of_ble_eq_true rfl) (Nat.le_of_ble_eq_true rfl) (Nat.le_of_ble_eq_true rfl)
    ·
      exact callXV (As := [.int v2]) (rest := []) ⟨hx, hb, hml, hown, hts⟩ tlB (c_M_requireMeasure_bad l dC dI o a q r cI cG la n v C G X D B bu lp hlt v2 hn h2) kw283 kw284 kw4 kw25 kw285 ⟨rfl, rfl⟩ (n := 1) (by decide +kernel) ⟨Nat.le_of_ble_eq_true rfl, Nat.le_of_ble_eq_true rfl⟩ (roP_preV hP hK (ci := 3) (q0 := 0) rfl rfl) hTh rfl hl.1 rfl (Nat.le_of_ble_eq_true rfl) ⟨Nat.le_of_ble_eq_true rfl, Nat.le_of_ble_eq_true rfl⟩ dM_requirePair_7 (fun ce q9 H1 hz9 hk9 hce hcv hcl => passX hout hlocks hz9 hk9 hce hcv hcl)
  ·
    exact callXV (As := [.int v1]) (rest := []) ⟨hx, hb, hml, hown, hts⟩ tlB (c_M_requireMeasure_bad l dC dI o a q r cI cG la n v C G X D B bu lp hlt v1 hn h1) kw283 kw284 kw4 kw25 kw285 ⟨rfl, rfl⟩ (n := 1) (by decide +kernel) ⟨Nat.le_of_ble_eq_true rfl, Nat.le_of_ble_eq_true rfl⟩ (roP_preV hP hK (ci := 3) (q0 := 0) rfl rfl) hTh rfl hl.1 rfl (Nat.le_of_ble_eq_true rfl) ⟨Nat.le_of_ble_eq_true rfl, Nat.le_of_ble_eq_true rfl⟩ dM_requirePair_2 (fun ce q9 H1 hz9 hk9 hce hcv hcl => passX hout hlocks hz9 hk9 hce hcv hcl)
set_option maxHeartbeats 4000000 in
set_option maxRecDepth 100000 in
theorem c_M_measure_bad (l : Launch) (dC : Nat → ClassId) (dI : Nat → Nat → Nat) (o : Nat) (a q r : Nat → Nat) (cI cG : ClassId) (la : mcLA) (n v : Nat) (C G X D : Nat → Nat) (B : Nat → Nat → Int) (bu : Nat → Nat) (lp : mcLP) (hlt : l.stackTraces = false) (v1 v2 : Int32) (hbad : ¬ ((1 ≤ v1 ∧ v1 ≤ 10000) ∧ (0 ≤ v2 ∧ v2 ≤ 10000))) : mcXMet l yM_measure wdM_measure ({ frames := 8, cells := 1, slots := 6, locals := 125 }) (roP (dC, dI) mcCl (mcWT o a q r cI cG la n v C G X D B bu lp) (mcTH cI cG) [.ref o, .int v1, .int v2]) mcIAE := by
  refine vx_ofW (cc := bM_measure) (maxL := 3) (ret := (some FieldType.int)) (by decide) rfl ?_
  intro p e s m args below meth c s₁ BB hml hout hv
  obtain ⟨hv, hTh⟩ := hv
  obtain ⟨rfl, hP, hK⟩ := hv
  have hx := BB.exec
  have hb := BB.bytes
  have hr := BB.returns
  have hts := atoms_spec (ws := wdM_measure) BB.pre
  have hown : s.vm.findClass RM = some m.cls := findClass_of_methodNamed BB.named
  have hlocks := BB.notSynchronized
  have hl := lv_entry ([.ref o, .int v1, .int v2]) (n := 3) (Nat.le_of_ble_eq_true rfl)
  rw [lg_entry_eq]
  generalize (lg_sl ([.ref o, .int v1, .int v2]) ++ List.replicate (3 - (lg_sl ([.ref o, .int v1, .int v2])).length) Slot.unset).toArray = ls at hl ⊢
  have hl : lv_has ls 3 [(0, .ref o), (1, .int v1), (2, .int v2)] := hl
  refine lv_iload_n hx hb dM_measure_0 rfl (lv_at hl 1 rfl) ?_
  refine lv_iload_n hx hb dM_measure_1 rfl (lv_at hl 2 rfl) ?_
  exact callXS (As := [.int v1, .int v2]) (rest := []) ⟨hx, hb, hml, hown, hts⟩ tlB (c_M_requireCostAndGain_bad l hlt v1 v2 hbad) kw192 kw193 kw25 kw194 ⟨rfl, rfl⟩ (n := 2) (by decide +kernel) ⟨Nat.le_of_ble_eq_true rfl, Nat.le_of_ble_eq_true rfl⟩ (nwP_pre) hTh rfl hl.1 rfl (Nat.le_of_ble_eq_true rfl) ⟨Nat.le_of_ble_eq_true rfl, Nat.le_of_ble_eq_true rfl⟩ dM_measure_2 (fun ce q9 H1 hz9 hk9 hce hcv hcl => passX hout hlocks hz9 hk9 hce hcv hcl)
set_option maxHeartbeats 4000000 in
set_option maxRecDepth 100000 in
theorem c_M_measure_full (l : Launch) (dC : Nat → ClassId) (dI : Nat → Nat → Nat) (o : Nat) (a q r : Nat → Nat) (cI cG : ClassId) (la : mcLA) (n v : Nat) (C G X D : Nat → Nat) (B : Nat → Nat → Int) (bu : Nat → Nat) (lp : mcLP) (hlt : l.stackTraces = false) (v1 v2 : Int32) (hok : (1 ≤ v1 ∧ v1 ≤ 10000) ∧ (0 ≤ v2 ∧ v2 ≤ 10000)) (hfull : n = 12) : mcXMet l yM_measure wdM_measure ({ frames := 8, cells := 1, slots := 6, locals := 125 }) (roP (dC, dI) mcCl (mcWT o a q r cI cG la n v C G X D B bu lp) (mcTH cI cG) [.ref o, .int v1, .int v2]) mcISE := by
  refine vx_ofW (cc := bM_measure) (maxL := 3) (ret := (some FieldType.int)) (by decide) rfl ?_
  intro p e s m args below meth c s₁ BB hml hout hv
  obtain ⟨hv, hTh⟩ := hv
  obtain ⟨rfl, hP, hK⟩ := hv
  have hx := BB.exec
  have hb := BB.bytes
  have hr := BB.returns
  have hts := atoms_spec (ws := wdM_measure) BB.pre
  have hown : s.vm.findClass RM = some m.cls := findClass_of_methodNamed BB.named
  have hlocks := BB.notSynchronized
  have hl := lv_entry ([.ref o, .int v1, .int v2]) (n := 3) (Nat.le_of_ble_eq_true rfl)
  rw [lg_entry_eq]
  generalize (lg_sl ([.ref o, .int v1, .int v2]) ++ List.replicate (3 - (lg_sl ([.ref o, .int v1, .int v2])).length) Slot.unset).toArray = ls at hl ⊢
  have hl : lv_has ls 3 [(0, .ref o), (1, .int v1), (2, .int v2)] := hl
  refine lv_iload_n hx hb dM_measure_0 rfl (lv_at hl 1 rfl) ?_
  refine lv_iload_n hx hb dM_measure_1 rfl (lv_at hl 2 rfl) ?_
  refine callRSv (As := [.int v1, .int v2]) (rest := []) ⟨hx, hb, hml, hown, hts⟩ tlB (c_M_requireCostAndGain_ok l v1 v2 hok.1 hok.2) kw192 kw193 kw25 kw194 ⟨rfl, rfl⟩ (n := 2) (by decide +kernel) ⟨Nat.le_of_ble_eq_true rfl, Nat.le_of_ble_eq_true rfl⟩ (nwP_pre) rfl hl.1 rfl (Nat.le_of_ble_eq_true rfl) ⟨Nat.le_of_ble_eq_true rfl, Nat.le_of_ble_eq_true rfl⟩ dM_measure_2 ?_
  refine lv_aload_n hx hb dM_measure_5 rfl (lv_at hl 0 rfl) ?_
  refine va_get (D := (dC, dI)) (ci := 3) (C := RM) (T := FM) (N := 3) hx hb hts (fun w h => List.mem_cons_of_mem _ (inM w h)) hown hK hP 0 rfl rfl 0 (by decide) (hts _ (List.mem_cons_of_mem _ kw132)) (fun _ h9 => h9) rfl dM_measure_6 ?_
  refine va_get (D := (dC, dI)) (ci := 0) (C := RH) (T := FH) (N := 7) hx hb hts (fun w h => List.mem_cons_of_mem _ (inH w h)) hown hK hP 4 rfl rfl 0 (by decide) (hts _ (List.mem_cons_of_mem _ kw51)) (fun _ h9 => h9) rfl dM_measure_9 ?_
  refine lv_bipush (v := 12) hx hb dM_measure_12 (by decide) ?_
  refine lv_icmp_lt (tgt := 27) hx hb dM_measure_14 (by decide) (fun c1 => ?_) (fun c1 => ?_)
  · exact absurd ((nI_ltI (a := n) (b := 12) (by omega) (by omega)).mp c1) (by omega)
  ·
    exact mcThrow hx hb hlt hown hts hml hout hlocks (by decide +kernel) kw254 kw34 mcAt_ISE (List.mem_of_getElem? (i := 1) rfl) hTh hl.1 dM_measure_17 dM_measure_20 dM_measure_21 dM_measure_23 dM_measure_26 (Nat.le_of_ble_eq_true rfl) (Nat.le_of_ble_eq_true rfl) (Nat.le_of_ble_eq_true rfl) (Nat.le_of_ble_eq_true rfl)
set_option maxHeartbeats 4000000 in
set_option maxRecDepth 100000 in
theorem c_M_change_bad (l : Launch) (dC : Nat → ClassId) (dI : Nat → Nat → Nat) (o : Nat) (a q r : Nat → Nat) (cI cG : ClassId) (la : mcLA) (n v : Nat) (C G X D : Nat → Nat) (B : Nat → Nat → Int) (bu : Nat → Nat) (lp : mcLP) (hlt : l.stackTraces = false) (v1 v2 v3 : Int32) (hn : n ≤ 12) (hbad : ¬ ((∃ k, k < n ∧ v1 = nI k) ∧ (1 ≤ v2 ∧ v2 ≤ 10000) ∧ (0 ≤ v3 ∧ v3 ≤ 10000))) : mcXMet l yM_change wdM_change ({ frames := 8, cells := 1, slots := 6, locals := 125 }) (roP (dC, dI) mcCl (mcWT o a q r cI cG la n v C G X D B bu lp) (mcTH cI cG) [.ref o, .int v1, .int v2, .int v3]) mcIAE := by
  refine vx_ofW (cc := bM_change) (maxL := 4) (ret := none) (by decide) rfl ?_
  intro p e s m args below meth c s₁ BB hml hout hv
  obtain ⟨hv, hTh⟩ := hv
  obtain ⟨rfl, hP, hK⟩ := hv
  have hx := BB.exec
  have hb := BB.bytes
  have hr := BB.returns
  have hts := atoms_spec (ws := wdM_change) BB.pre
  have hown : s.vm.findClass RM = some m.cls := findClass_of_methodNamed BB.named
  have hlocks := BB.notSynchronized
  have hl := lv_entry ([.ref o, .int v1, .int v2, .int v3]) (n := 4) (Nat.le_of_ble_eq_true rfl)
  rw [lg_entry_eq]
  generalize (lg_sl ([.ref o, .int v1, .int v2, .int v3]) ++ List.replicate (4 - (lg_sl ([.ref o, .int v1, .int v2, .int v3])).length) Slot.unset).toArray = ls at hl ⊢
  have hl : lv_has ls 4 [(0, .ref o), (1, .int v1), (2, .int v2), (3, .int v3)] := hl
  refine lv_aload_n hx hb dM_change_0 rfl (lv_at hl 0 rfl) ?_
  refine lv_iload_n hx hb dM_change_1 rfl (lv_at hl 1 rfl) ?_
  by_cases h1 : (∃ k, k < n ∧ v1 = nI k)
  ·
    obtain ⟨k1, hk1, rfl⟩ := h1
    refine callRVv (As := [.int (nI k1)]) (rest := []) ⟨hx, hb, hml, hown, hts⟩ tlB (c_M_requireMeasure_ok l dC dI o a q r cI cG la n v C G X D B bu lp k1 hk1 hn) kw283 kw284 kw4 kw25 kw285 ⟨rfl, rfl⟩ (n := 1) (by decide +kernel) ⟨Nat.le_of_ble_eq_true rfl, Nat.le_of_ble_eq_true rfl⟩ (roP_preV hP hK (ci := 3) (q0 := 0) rfl rfl) rfl hl.1 rfl (Nat.le_of_ble_eq_true rfl) ⟨Nat.le_of_ble_eq_true rfl, Nat.le_of_ble_eq_true rfl⟩ dM_change_2 ?_
    refine lv_iload_n hx hb dM_change_5 rfl (lv_at hl 2 rfl) ?_
    refine lv_iload_n hx hb dM_change_6 rfl (lv_at hl 3 rfl) ?_
    exact callXS (As := [.int v2, .int v3]) (rest := []) ⟨hx, hb, hml, hown, hts⟩ tlB (c_M_requireCostAndGain_bad l hlt v2 v3 (fun h => hbad ⟨⟨k1, hk1, rfl⟩, h.1, h.2⟩)) kw192 kw193 kw25 kw194 ⟨rfl, rfl⟩ (n := 2) (by decide +kernel) ⟨Nat.le_of_ble_eq_true rfl, Nat.le_of_ble_eq_true rfl⟩ (nwP_pre) hTh rfl hl.1 rfl (Nat.le_of_ble_eq_true rfl) ⟨Nat.le_of_ble_eq_true rfl, Nat.le_of_ble_eq_true rfl⟩ dM_change_7 (fun ce q9 H1 hz9 hk9 hce hcv hcl => passX hout hlocks hz9 hk9 hce hcv hcl)
  ·
    exact callXV (As := [.int v1]) (rest := []) ⟨hx, hb, hml, hown, hts⟩ tlB (c_M_requireMeasure_bad l dC dI o a q r cI cG la n v C G X D B bu lp hlt v1 hn h1) kw283 kw284 kw4 kw25 kw285 ⟨rfl, rfl⟩ (n := 1) (by decide +kernel) ⟨Nat.le_of_ble_eq_true rfl, Nat.le_of_ble_eq_true rfl⟩ (roP_preV hP hK (ci := 3) (q0 := 0) rfl rfl) hTh rfl hl.1 rfl (Nat.le_of_ble_eq_true rfl) ⟨Nat.le_of_ble_eq_true rfl, Nat.le_of_ble_eq_true rfl⟩ dM_change_2 (fun ce q9 H1 hz9 hk9 hce hcv hcl => passX hout hlocks hz9 hk9 hce hcv hcl)
set_option maxHeartbeats 4000000 in
set_option maxRecDepth 100000 in
theorem c_M_exclude_bad (l : Launch) (dC : Nat → ClassId) (dI : Nat → Nat → Nat) (o : Nat) (a q r : Nat → Nat) (cI cG : ClassId) (la : mcLA) (n v : Nat) (C G X D : Nat → Nat) (B : Nat → Nat → Int) (bu : Nat → Nat) (lp : mcLP) (hlt : l.stackTraces = false) (v1 v2 on : Int32) (hn : n ≤ 12) (hbad : ¬ ((∃ k, k < n ∧ v1 = nI k) ∧ (∃ k, k < n ∧ v2 = nI k) ∧ ¬ v1 = v2)) : mcXMet l yM_exclude wdM_exclude ({ frames := 8, cells := 1, slots := 6, locals := 125 }) (roP (dC, dI) mcCl (mcWT o a q r cI cG la n v C G X D B bu lp) (mcTH cI cG) [.ref o, .int v1, .int v2, .int on]) mcIAE := by
  refine vx_ofW (cc := bM_exclude) (maxL := 5) (ret := (some FieldType.boolean)) (by decide) rfl ?_
  intro p e s m args below meth c s₁ BB hml hout hv
  obtain ⟨hv, hTh⟩ := hv
  obtain ⟨rfl, hP, hK⟩ := hv
  have hx := BB.exec
  have hb := BB.bytes
  have hr := BB.returns
  have hts := atoms_spec (ws := wdM_exclude) BB.pre
  have hown : s.vm.findClass RM = some m.cls := findClass_of_methodNamed BB.named
  have hlocks := BB.notSynchronized
  have hl := lv_entry ([.ref o, .int v1, .int v2, .int on]) (n := 5) (Nat.le_of_ble_eq_true rfl)
  rw [lg_entry_eq]
  generalize (lg_sl ([.ref o, .int v1, .int v2, .int on]) ++ List.replicate (5 - (lg_sl ([.ref o, .int v1, .int v2, .int on])).length) Slot.unset).toArray = ls at hl ⊢
  have hl : lv_has ls 5 [(0, .ref o), (1, .int v1), (2, .int v2), (3, .int on)] := hl
  refine lv_aload_n hx hb dM_exclude_0 rfl (lv_at hl 0 rfl) ?_
  refine lv_iload_n hx hb dM_exclude_1 rfl (lv_at hl 1 rfl) ?_
  refine lv_iload_n hx hb dM_exclude_2 rfl (lv_at hl 2 rfl) ?_
  exact callXV (As := [.int v1, .int v2]) (rest := []) ⟨hx, hb, hml, hown, hts⟩ tlB (c_M_requirePair_bad l dC dI o a q r cI cG la n v C G X D B bu lp hlt v1 v2 hn hbad) kw294 kw295 kw5 kw25 kw296 ⟨rfl, rfl⟩ (n := 2) (by decide +kernel) ⟨Nat.le_of_ble_eq_true rfl, Nat.le_of_ble_eq_true rfl⟩ (roP_preV hP hK (ci := 3) (q0 := 0) rfl rfl) hTh rfl hl.1 rfl (Nat.le_of_ble_eq_true rfl) ⟨Nat.le_of_ble_eq_true rfl, Nat.le_of_ble_eq_true rfl⟩ dM_exclude_3 (fun ce q9 H1 hz9 hk9 hce hcv hcl => passX hout hlocks hz9 hk9 hce hcv hcl)
set_option maxHeartbeats 4000000 in
set_option maxRecDepth 100000 in
theorem c_M_needs_bad (l : Launch) (dC : Nat → ClassId) (dI : Nat → Nat → Nat) (o : Nat) (a q r : Nat → Nat) (cI cG : ClassId) (la : mcLA) (n v : Nat) (C G X D : Nat → Nat) (B : Nat → Nat → Int) (bu : Nat → Nat) (lp : mcLP) (hlt : l.stackTraces = false) (v1 v2 on : Int32) (hn : n ≤ 12) (hbad : ¬ ((∃ k, k < n ∧ v1 = nI k) ∧ (∃ k, k < n ∧ v2 = nI k) ∧ ¬ v1 = v2)) : mcXMet l yM_needs wdM_needs ({ frames := 8, cells := 1, slots := 6, locals := 125 }) (roP (dC, dI) mcCl (mcWT o a q r cI cG la n v C G X D B bu lp) (mcTH cI cG) [.ref o, .int v1, .int v2, .int on]) mcIAE := by
  refine vx_ofW (cc := bM_needs) (maxL := 5) (ret := (some FieldType.boolean)) (by decide) rfl ?_
  intro p e s m args below meth c s₁ BB hml hout hv
  obtain ⟨hv, hTh⟩ := hv
  obtain ⟨rfl, hP, hK⟩ := hv
  have hx := BB.exec
  have hb := BB.bytes
  have hr := BB.returns
  have hts := atoms_spec (ws := wdM_needs) BB.pre
  have hown : s.vm.findClass RM = some m.cls := findClass_of_methodNamed BB.named
  have hlocks := BB.notSynchronized
  have hl := lv_entry ([.ref o, .int v1, .int v2, .int on]) (n := 5) (Nat.le_of_ble_eq_true rfl)
  rw [lg_entry_eq]
  generalize (lg_sl ([.ref o, .int v1, .int v2, .int on]) ++ List.replicate (5 - (lg_sl ([.ref o, .int v1, .int v2, .int on])).length) Slot.unset).toArray = ls at hl ⊢
  have hl : lv_has ls 5 [(0, .ref o), (1, .int v1), (2, .int v2), (3, .int on)] := hl
  refine lv_aload_n hx hb dM_needs_0 rfl (lv_at hl 0 rfl) ?_
  refine lv_iload_n hx hb dM_needs_1 rfl (lv_at hl 1 rfl) ?_
  refine lv_iload_n hx hb dM_needs_2 rfl (lv_at hl 2 rfl) ?_
  exact callXV (As := [.int v1, .int v2]) (rest := []) ⟨hx, hb, hml, hown, hts⟩ tlB (c_M_requirePair_bad l dC dI o a q r cI cG la n v C G X D B bu lp hlt v1 v2 hn hbad) kw294 kw295 kw5 kw25 kw296 ⟨rfl, rfl⟩ (n := 2) (by decide +kernel) ⟨Nat.le_of_ble_eq_true rfl, Nat.le_of_ble_eq_true rfl⟩ (roP_preV hP hK (ci := 3) (q0 := 0) rfl rfl) hTh rfl hl.1 rfl (Nat.le_of_ble_eq_true rfl) ⟨Nat.le_of_ble_eq_true rfl, Nat.le_of_ble_eq_true rfl⟩ dM_needs_3 (fun ce q9 H1 hz9 hk9 hce hcv hcl => passX hout hlocks hz9 hk9 hce hcv hcl)
set_option maxHeartbeats 4000000 in
set_option maxRecDepth 100000 in
theorem c_M_bonus_bad (l : Launch) (dC : Nat → ClassId) (dI : Nat → Nat → Nat) (o : Nat) (a q r : Nat → Nat) (cI cG : ClassId) (la : mcLA) (n v : Nat) (C G X D : Nat → Nat) (B : Nat → Nat → Int) (bu : Nat → Nat) (lp : mcLP) (hlt : l.stackTraces = false) (v1 v2 v3 : Int32) (hn : n ≤ 12) (hbad : ¬ ((∃ k, k < n ∧ v1 = nI k) ∧ (∃ k, k < n ∧ v2 = nI k) ∧ ¬ v1 = v2 ∧ ((-5000) ≤ v3 ∧ v3 ≤ 5000))) : mcXMet l yM_bonus wdM_bonus ({ frames := 8, cells := 1, slots := 6, locals := 125 }) (roP (dC, dI) mcCl (mcWT o a q r cI cG la n v C G X D B bu lp) (mcTH cI cG) [.ref o, .int v1, .int v2, .int v3]) mcIAE := by
  refine vx_ofW (cc := bM_bonus) (maxL := 5) (ret := (some FieldType.int)) (by decide) rfl ?_
  intro p e s m args below meth c s₁ BB hml hout hv
  obtain ⟨hv, hTh⟩ := hv
  obtain ⟨rfl, hP, hK⟩ := hv
  have hx := BB.exec
  have hb := BB.bytes
  have hr := BB.returns
  have hts := atoms_spec (ws := wdM_bonus) BB.pre
  have hown : s.vm.findClass RM = some m.cls := findClass_of_methodNamed BB.named
  have hlocks := BB.notSynchronized
  have hl := lv_entry ([.ref o, .int v1, .int v2, .int v3]) (n := 5) (Nat.le_of_ble_eq_true rfl)
  rw [lg_entry_eq]
  generalize (lg_sl ([.ref o, .int v1, .int v2, .int v3]) ++ List.replicate (5 - (lg_sl ([.ref o, .int v1, .int v2, .int v3])).length) Slot.unset).toArray = ls at hl ⊢
  have hl : lv_has ls 5 [(0, .ref o), (1, .int v1), (2, .int v2), (3, .int v3)] := hl
  refine lv_aload_n hx hb dM_bonus_0 rfl (lv_at hl 0 rfl) ?_
  refine lv_iload_n hx hb dM_bonus_1 rfl (lv_at hl 1 rfl) ?_
  refine lv_iload_n hx hb dM_bonus_2 rfl (lv_at hl 2 rfl) ?_
  by_cases h1 : (∃ k, k < n ∧ v1 = nI k) ∧ (∃ k, k < n ∧ v2 = nI k) ∧ ¬ v1 = v2
  ·
    obtain ⟨⟨k1, hk1, rfl⟩, ⟨k2, hk2, rfl⟩, hne⟩ := h1
    refine callRVv (As := [.int (nI k1), .int (nI k2)]) (rest := []) ⟨hx, hb, hml, hown, hts⟩ tlB (c_M_requirePair_ok l dC dI o a q r cI cG la n v C G X D B bu lp k1 k2 hk1 hk2 hn hne) kw294 kw295 kw5 kw25 kw296 ⟨rfl, rfl⟩ (n := 2) (by decide +kernel) ⟨Nat.le_of_ble_eq_true rfl, Nat.le_of_ble_eq_true rfl⟩ (roP_preV hP hK (ci := 3) (q0 := 0) rfl rfl) rfl hl.1 rfl (Nat.le_of_ble_eq_true rfl) ⟨Nat.le_of_ble_eq_true rfl, Nat.le_of_ble_eq_true rfl⟩ dM_bonus_3 ?_
    refine lv_iload_n hx hb dM_bonus_6 rfl (lv_at hl 3 rfl) ?_
    refine lv_sipush (v := (-5000)) hx hb dM_bonus_7 (by decide) ?_
    refine lv_sipush (v := 5000) hx hb dM_bonus_10 (by decide) ?_
    exact callXS (As := [.int v3, .int (-5000), .int 5000]) (rest := []) ⟨hx, hb, hml, hown, hts⟩ tlB (c_M_requireBetween_bad l hlt v3 (-5000) 5000 (fun h => hbad ⟨⟨k1, hk1, rfl⟩, ⟨k2, hk2, rfl⟩, hne, h⟩)) kw195 kw196 kw25 kw197 ⟨rfl, rfl⟩ (n := 3) (by decide +kernel) ⟨Nat.le_of_ble_eq_true rfl, Nat.le_of_ble_eq_true rfl⟩ (nwP_pre) hTh rfl hl.1 rfl (Nat.le_of_ble_eq_true rfl) ⟨Nat.le_of_ble_eq_true rfl, Nat.le_of_ble_eq_true rfl⟩ dM_bonus_13 (fun ce q9 H1 hz9 hk9 hce hcv hcl => passX hout hlocks hz9 hk9 hce hcv hcl)
  ·
    exact callXV (As := [.int v1, .int v2]) (rest := []) ⟨hx, hb, hml, hown, hts⟩ tlB (c_M_requirePair_bad l dC dI o a q r cI cG la n v C G X D B bu lp hlt v1 v2 hn h1) kw294 kw295 kw5 kw25 kw296 ⟨rfl, rfl⟩ (n := 2) (by decide +kernel) ⟨Nat.le_of_ble_eq_true rfl, Nat.le_of_ble_eq_true rfl⟩ (roP_preV hP hK (ci := 3) (q0 := 0) rfl rfl) hTh rfl hl.1 rfl (Nat.le_of_ble_eq_true rfl) ⟨Nat.le_of_ble_eq_true rfl, Nat.le_of_ble_eq_true rfl⟩ dM_bonus_3 (fun ce q9 H1 hz9 hk9 hce hcv hcl => passX hout hlocks hz9 hk9 hce hcv hcl)
set_option maxHeartbeats 4000000 in
set_option maxRecDepth 100000 in
theorem c_M_lawful_bad (l : Launch) (dC : Nat → ClassId) (dI : Nat → Nat → Nat) (o : Nat) (a q r : Nat → Nat) (cI cG : ClassId) (la : mcLA) (n v : Nat) (C G X D : Nat → Nat) (B : Nat → Nat → Int) (bu : Nat → Nat) (lp : mcLP) (hlt : l.stackTraces = false) (v1 : Int32) (hn : n ≤ 12) (hbad : ¬ ∃ S, S < 2 ^ n ∧ v1 = nI S) : mcXMet l yM_lawful wdM_lawful ({ frames := 7, cells := 1, slots := 6, locals := 103 }) (roP (dC, dI) mcCl (mcWT o a q r cI cG la n v C G X D B bu lp) (mcTH cI cG) [.ref o, .int v1]) mcIAE := by
  refine vx_ofW (cc := bM_lawful) (maxL := 2) (ret := (some FieldType.boolean)) (by decide) rfl ?_
  intro p e s m args below meth c s₁ BB hml hout hv
  obtain ⟨hv, hTh⟩ := hv
  obtain ⟨rfl, hP, hK⟩ := hv
  have hx := BB.exec
  have hb := BB.bytes
  have hr := BB.returns
  have hts := atoms_spec (ws := wdM_lawful) BB.pre
  have hown : s.vm.findClass RM = some m.cls := findClass_of_methodNamed BB.named
  have hlocks := BB.notSynchronized
  have hl := lv_entry ([.ref o, .int v1]) (n := 2) (Nat.le_of_ble_eq_true rfl)
  rw [lg_entry_eq]
  generalize (lg_sl ([.ref o, .int v1]) ++ List.replicate (2 - (lg_sl ([.ref o, .int v1])).length) Slot.unset).toArray = ls at hl ⊢
  have hl : lv_has ls 2 [(0, .ref o), (1, .int v1)] := hl
  refine lv_aload_n hx hb dM_lawful_0 rfl (lv_at hl 0 rfl) ?_
  refine lv_iload_n hx hb dM_lawful_1 rfl (lv_at hl 1 rfl) ?_
  exact callXV (As := [.int v1]) (rest := []) ⟨hx, hb, hml, hown, hts⟩ tlB (c_M_requireSet_bad l dC dI o a q r cI cG la n v C G X D B bu lp hlt v1 hn hbad) kw334 kw335 kw6 kw25 kw336 ⟨rfl, rfl⟩ (n := 1) (by decide +kernel) ⟨Nat.le_of_ble_eq_true rfl, Nat.le_of_ble_eq_true rfl⟩ (roP_preV hP hK (ci := 3) (q0 := 0) rfl rfl) hTh rfl hl.1 rfl (Nat.le_of_ble_eq_true rfl) ⟨Nat.le_of_ble_eq_true rfl, Nat.le_of_ble_eq_true rfl⟩ dM_lawful_2 (fun ce q9 H1 hz9 hk9 hce hcv hcl => passX hout hlocks hz9 hk9 hce hcv hcl)
set_option maxHeartbeats 4000000 in
set_option maxRecDepth 100000 in
theorem c_M_told_bad (l : Launch) (dC : Nat → ClassId) (dI : Nat → Nat → Nat) (o : Nat) (a q r : Nat → Nat) (cI cG : ClassId) (la : mcLA) (n v : Nat) (C G X D : Nat → Nat) (B : Nat → Nat → Int) (bu : Nat → Nat) (lp : mcLP) (hlt : l.stackTraces = false) (v1 v2 : Int32) (hn : n ≤ 12) (hbad : ¬ ((∃ S, S < 2 ^ n ∧ v1 = nI S) ∧ (0 ≤ v2 ∧ v2 ≤ 1))) : mcXMet l yM_told wdM_told ({ frames := 7, cells := 1, slots := 6, locals := 104 }) (roP (dC, dI) mcCl (mcWT o a q r cI cG la n v C G X D B bu lp) (mcTH cI cG) [.ref o, .int v1, .int v2]) mcIAE := by
  refine vx_ofW (cc := bM_told) (maxL := 3) (ret := (some FieldType.int)) (by decide) rfl ?_
  intro p e s m args below meth c s₁ BB hml hout hv
  obtain ⟨hv, hTh⟩ := hv
  obtain ⟨rfl, hP, hK⟩ := hv
  have hx := BB.exec
  have hb := BB.bytes
  have hr := BB.returns
  have hts := atoms_spec (ws := wdM_told) BB.pre
  have hown : s.vm.findClass RM = some m.cls := findClass_of_methodNamed BB.named
  have hlocks := BB.notSynchronized
  have hl := lv_entry ([.ref o, .int v1, .int v2]) (n := 3) (Nat.le_of_ble_eq_true rfl)
  rw [lg_entry_eq]
  generalize (lg_sl ([.ref o, .int v1, .int v2]) ++ List.replicate (3 - (lg_sl ([.ref o, .int v1, .int v2])).length) Slot.unset).toArray = ls at hl ⊢
  have hl : lv_has ls 3 [(0, .ref o), (1, .int v1), (2, .int v2)] := hl
  refine lv_aload_n hx hb dM_told_0 rfl (lv_at hl 0 rfl) ?_
  refine lv_iload_n hx hb dM_told_1 rfl (lv_at hl 1 rfl) ?_
  by_cases h1 : ∃ S, S < 2 ^ n ∧ v1 = nI S
  ·
    obtain ⟨k1, hk1, rfl⟩ := h1
    refine callRVv (As := [.int (nI k1)]) (rest := []) ⟨hx, hb, hml, hown, hts⟩ tlB (c_M_requireSet_ok l dC dI o a q r cI cG la n v C G X D B bu lp k1 hk1 hn) kw334 kw335 kw6 kw25 kw336 ⟨rfl, rfl⟩ (n := 1) (by decide +kernel) ⟨Nat.le_of_ble_eq_true rfl, Nat.le_of_ble_eq_true rfl⟩ (roP_preV hP hK (ci := 3) (q0 := 0) rfl rfl) rfl hl.1 rfl (Nat.le_of_ble_eq_true rfl) ⟨Nat.le_of_ble_eq_true rfl, Nat.le_of_ble_eq_true rfl⟩ dM_told_2 ?_
    refine lv_iload_n hx hb dM_told_5 rfl (lv_at hl 2 rfl) ?_
    refine lv_iconst (v := 0) hx hb dM_told_6 (by decide) ?_
    refine lv_iconst (v := 1) hx hb dM_told_7 (by decide) ?_
    exact callXS (As := [.int v2, .int 0, .int 1]) (rest := []) ⟨hx, hb, hml, hown, hts⟩ tlB (c_M_requireBetween_bad l hlt v2 0 1 (fun h => hbad ⟨⟨k1, hk1, rfl⟩, h⟩)) kw195 kw196 kw25 kw197 ⟨rfl, rfl⟩ (n := 3) (by decide +kernel) ⟨Nat.le_of_ble_eq_true rfl, Nat.le_of_ble_eq_true rfl⟩ (nwP_pre) hTh rfl hl.1 rfl (Nat.le_of_ble_eq_true rfl) ⟨Nat.le_of_ble_eq_true rfl, Nat.le_of_ble_eq_true rfl⟩ dM_told_8 (fun ce q9 H1 hz9 hk9 hce hcv hcl => passX hout hlocks hz9 hk9 hce hcv hcl)
  ·
    exact callXV (As := [.int v1]) (rest := []) ⟨hx, hb, hml, hown, hts⟩ tlB (c_M_requireSet_bad l dC dI o a q r cI cG la n v C G X D B bu lp hlt v1 hn h1) kw334 kw335 kw6 kw25 kw336 ⟨rfl, rfl⟩ (n := 1) (by decide +kernel) ⟨Nat.le_of_ble_eq_true rfl, Nat.le_of_ble_eq_true rfl⟩ (roP_preV hP hK (ci := 3) (q0 := 0) rfl rfl) hTh rfl hl.1 rfl (Nat.le_of_ble_eq_true rfl) ⟨Nat.le_of_ble_eq_true rfl, Nat.le_of_ble_eq_true rfl⟩ dM_told_2 (fun ce q9 H1 hz9 hk9 hce hcv hcl => passX hout hlocks hz9 hk9 hce hcv hcl)
set_option maxHeartbeats 4000000 in
set_option maxRecDepth 100000 in
theorem c_M_closure_bad (l : Launch) (dC : Nat → ClassId) (dI : Nat → Nat → Nat) (o : Nat) (a q r : Nat → Nat) (cI cG : ClassId) (la : mcLA) (n v : Nat) (C G X D : Nat → Nat) (B : Nat → Nat → Int) (bu : Nat → Nat) (lp : mcLP) (hlt : l.stackTraces = false) (v1 : Int32) (hn : n ≤ 12) (hbad : ¬ (∃ k, k < n ∧ v1 = nI k)) : mcXMet l yM_closure wdM_closure ({ frames := 7, cells := 1, slots := 6, locals := 103 }) (roP (dC, dI) mcCl (mcWT o a q r cI cG la n v C G X D B bu lp) (mcTH cI cG) [.ref o, .int v1]) mcIAE := by
  refine vx_ofW (cc := bM_closure) (maxL := 2) (ret := (some FieldType.int)) (by decide) rfl ?_
  intro p e s m args below meth c s₁ BB hml hout hv
  obtain ⟨hv, hTh⟩ := hv
  obtain ⟨rfl, hP, hK⟩ := hv
  have hx := BB.exec
  have hb := BB.bytes
  have hr := BB.returns
  have hts := atoms_spec (ws := wdM_closure) BB.pre
  have hown : s.vm.findClass RM = some m.cls := findClass_of_methodNamed BB.named
  have hlocks := BB.notSynchronized
  have hl := lv_entry ([.ref o, .int v1]) (n := 2) (Nat.le_of_ble_eq_true rfl)
  rw [lg_entry_eq]
  generalize (lg_sl ([.ref o, .int v1]) ++ List.replicate (2 - (lg_sl ([.ref o, .int v1])).length) Slot.unset).toArray = ls at hl ⊢
  have hl : lv_has ls 2 [(0, .ref o), (1, .int v1)] := hl
  refine lv_aload_n hx hb dM_closure_0 rfl (lv_at hl 0 rfl) ?_
  refine lv_iload_n hx hb dM_closure_1 rfl (lv_at hl 1 rfl) ?_
  exact callXV (As := [.int v1]) (rest := []) ⟨hx, hb, hml, hown, hts⟩ tlB (c_M_requireMeasure_bad l dC dI o a q r cI cG la n v C G X D B bu lp hlt v1 hn hbad) kw283 kw284 kw4 kw25 kw285 ⟨rfl, rfl⟩ (n := 1) (by decide +kernel) ⟨Nat.le_of_ble_eq_true rfl, Nat.le_of_ble_eq_true rfl⟩ (roP_preV hP hK (ci := 3) (q0 := 0) rfl rfl) hTh rfl hl.1 rfl (Nat.le_of_ble_eq_true rfl) ⟨Nat.le_of_ble_eq_true rfl, Nat.le_of_ble_eq_true rfl⟩ dM_closure_2 (fun ce q9 H1 hz9 hk9 hce hcv hcl => passX hout hlocks hz9 hk9 hce hcv hcl)
set_option maxHeartbeats 4000000 in
set_option maxRecDepth 100000 in
theorem c_M_best_bad (l : Launch) (dC : Nat → ClassId) (dI : Nat → Nat → Nat) (o : Nat) (a q r : Nat → Nat) (cI cG : ClassId) (la : mcLA) (n v : Nat) (C G X D : Nat → Nat) (B : Nat → Nat → Int) (bu : Nat → Nat) (lp : mcLP) (hlt : l.stackTraces = false) (v1 : Int32) (hbad : ¬ ¬ v1 < 0) : mcXMet l yM_best wdM_best ({ frames := 7, cells := 1, slots := 6, locals := 102 }) (roP (dC, dI) mcCl (mcWT o a q r cI cG la n v C G X D B bu lp) (mcTH cI cG) [.ref o, .int v1]) mcIAE := by
  refine vx_ofW (cc := bM_best) (maxL := 2) (ret := (some FieldType.int)) (by decide) rfl ?_
  intro p e s m args below meth c s₁ BB hml hout hv
  obtain ⟨hv, hTh⟩ := hv
  obtain ⟨rfl, hP, hK⟩ := hv
  have hx := BB.exec
  have hb := BB.bytes
  have hr := BB.returns
  have hts := atoms_spec (ws := wdM_best) BB.pre
  have hown : s.vm.findClass RM = some m.cls := findClass_of_methodNamed BB.named
  have hlocks := BB.notSynchronized
  have hl := lv_entry ([.ref o, .int v1]) (n := 2) (Nat.le_of_ble_eq_true rfl)
  rw [lg_entry_eq]
  generalize (lg_sl ([.ref o, .int v1]) ++ List.replicate (2 - (lg_sl ([.ref o, .int v1])).length) Slot.unset).toArray = ls at hl ⊢
  have hl : lv_has ls 2 [(0, .ref o), (1, .int v1)] := hl
  refine lv_iload_n hx hb dM_best_0 rfl (lv_at hl 1 rfl) ?_
  exact callXS (As := [.int v1]) (rest := []) ⟨hx, hb, hml, hown, hts⟩ tlB (c_M_requireNotBelowZero_bad l hlt v1 hbad) kw377 kw378 kw25 kw379 ⟨rfl, rfl⟩ (n := 1) (by decide +kernel) ⟨Nat.le_of_ble_eq_true rfl, Nat.le_of_ble_eq_true rfl⟩ (nwP_pre) hTh rfl hl.1 rfl (Nat.le_of_ble_eq_true rfl) ⟨Nat.le_of_ble_eq_true rfl, Nat.le_of_ble_eq_true rfl⟩ dM_best_1 (fun ce q9 H1 hz9 hk9 hce hcv hcl => passX hout hlocks hz9 hk9 hce hcv hcl)
set_option maxHeartbeats 4000000 in
set_option maxRecDepth 100000 in
theorem c_M_frontier_bad (l : Launch) (dC : Nat → ClassId) (dI : Nat → Nat → Nat) (o : Nat) (a q r : Nat → Nat) (cI cG : ClassId) (la : mcLA) (n v : Nat) (C G X D : Nat → Nat) (B : Nat → Nat → Int) (bu : Nat → Nat) (lp : mcLP) (hlt : l.stackTraces = false) (v1 : Int32) (hbad : ¬ ¬ v1 < 0) : mcXMet l yM_frontier wdM_frontier ({ frames := 7, cells := 1, slots := 6, locals := 102 }) (roP (dC, dI) mcCl (mcWT o a q r cI cG la n v C G X D B bu lp) (mcTH cI cG) [.ref o, .int v1]) mcIAE := by
  refine vx_ofW (cc := bM_frontier) (maxL := 2) (ret := (some FieldType.int)) (by decide) rfl ?_
  intro p e s m args below meth c s₁ BB hml hout hv
  obtain ⟨hv, hTh⟩ := hv
  obtain ⟨rfl, hP, hK⟩ := hv
  have hx := BB.exec
  have hb := BB.bytes
  have hr := BB.returns
  have hts := atoms_spec (ws := wdM_frontier) BB.pre
  have hown : s.vm.findClass RM = some m.cls := findClass_of_methodNamed BB.named
  have hlocks := BB.notSynchronized
  have hl := lv_entry ([.ref o, .int v1]) (n := 2) (Nat.le_of_ble_eq_true rfl)
  rw [lg_entry_eq]
  generalize (lg_sl ([.ref o, .int v1]) ++ List.replicate (2 - (lg_sl ([.ref o, .int v1])).length) Slot.unset).toArray = ls at hl ⊢
  have hl : lv_has ls 2 [(0, .ref o), (1, .int v1)] := hl
  refine lv_iload_n hx hb dM_frontier_0 rfl (lv_at hl 1 rfl) ?_
  exact callXS (As := [.int v1]) (rest := []) ⟨hx, hb, hml, hown, hts⟩ tlB (c_M_requireNotBelowZero_bad l hlt v1 hbad) kw377 kw378 kw25 kw379 ⟨rfl, rfl⟩ (n := 1) (by decide +kernel) ⟨Nat.le_of_ble_eq_true rfl, Nat.le_of_ble_eq_true rfl⟩ (nwP_pre) hTh rfl hl.1 rfl (Nat.le_of_ble_eq_true rfl) ⟨Nat.le_of_ble_eq_true rfl, Nat.le_of_ble_eq_true rfl⟩ dM_frontier_1 (fun ce q9 H1 hz9 hk9 hce hcv hcl => passX hout hlocks hz9 hk9 hce hcv hcl)
set_option maxHeartbeats 4000000 in
set_option maxRecDepth 100000 in
theorem c_M_worth_bad (l : Launch) (dC : Nat → ClassId) (dI : Nat → Nat → Nat) (o : Nat) (a q r : Nat → Nat) (cI cG : ClassId) (la : mcLA) (n v : Nat) (C G X D : Nat → Nat) (B : Nat → Nat → Int) (bu : Nat → Nat) (lp : mcLP) (hlt : l.stackTraces = false) (v1 v2 : Int32) (hbad : ¬ (¬ v1 < 0 ∧ ¬ v2 < 0 ∧ v1.toInt + v2.toInt ≤ 1000000)) : mcXMet l yM_worth wdM_worth ({ frames := 7, cells := 1, slots := 6, locals := 102 }) (roP (dC, dI) mcCl (mcWT o a q r cI cG la n v C G X D B bu lp) (mcTH cI cG) [.ref o, .int v1, .int v2]) mcIAE := by
  refine vx_ofW (cc := bM_worth) (maxL := 4) (ret := (some FieldType.int)) (by decide) rfl ?_
  intro p e s m args below meth c s₁ BB hml hout hv
  obtain ⟨hv, hTh⟩ := hv
  obtain ⟨rfl, hP, hK⟩ := hv
  have hx := BB.exec
  have hb := BB.bytes
  have hr := BB.returns
  have hts := atoms_spec (ws := wdM_worth) BB.pre
  have hown : s.vm.findClass RM = some m.cls := findClass_of_methodNamed BB.named
  have hlocks := BB.notSynchronized
  have hl := lv_entry ([.ref o, .int v1, .int v2]) (n := 4) (Nat.le_of_ble_eq_true rfl)
  rw [lg_entry_eq]
  generalize (lg_sl ([.ref o, .int v1, .int v2]) ++ List.replicate (4 - (lg_sl ([.ref o, .int v1, .int v2])).length) Slot.unset).toArray = ls at hl ⊢
  have hl : lv_has ls 4 [(0, .ref o), (1, .int v1), (2, .int v2)] := hl
  refine lv_iload_n hx hb dM_worth_0 rfl (lv_at hl 1 rfl) ?_
  by_cases h1 : ¬ v1 < 0
  ·
    obtain ⟨a1, ha1, rfl⟩ := nI_of h1
    refine callRSv (As := [.int (nI a1)]) (rest := []) ⟨hx, hb, hml, hown, hts⟩ tlB (c_M_requireNotBelowZero_ok l (nI a1) h1) kw377 kw378 kw25 kw379 ⟨rfl, rfl⟩ (n := 1) (by decide +kernel) ⟨Nat.le_of_ble_eq_true rfl, Nat.le_of_ble_eq_true rfl⟩ (nwP_pre) rfl hl.1 rfl (Nat.le_of_ble_eq_true rfl) ⟨Nat.le_of_ble_eq_true rfl, Nat.le_of_ble_eq_true rfl⟩ dM_worth_1 ?_
    refine lv_iload_n hx hb dM_worth_4 rfl (lv_at hl 2 rfl) ?_
    by_cases h2 : ¬ v2 < 0
    ·
      obtain ⟨a2, ha2, rfl⟩ := nI_of h2
      refine callRSv (As := [.int (nI a2)]) (rest := []) ⟨hx, hb, hml, hown, hts⟩ tlB (c_M_requireNotBelowZero_ok l (nI a2) h2) kw377 kw378 kw25 kw379 ⟨rfl, rfl⟩ (n := 1) (by decide +kernel) ⟨Nat.le_of_ble_eq_true rfl, Nat.le_of_ble_eq_true rfl⟩ (nwP_pre) rfl hl.1 rfl (Nat.le_of_ble_eq_true rfl) ⟨Nat.le_of_ble_eq_true rfl, Nat.le_of_ble_eq_true rfl⟩ dM_worth_5 ?_
      refine lv_iload_n hx hb dM_worth_8 rfl (lv_at hl 1 rfl) ?_
      refine lv_ldc (v := 1000000) hx hb hown (hts _ (List.mem_cons_of_mem _ kw392)) dM_worth_9 ?_
      refine lv_icmp_gt (tgt := 22) hx hb dM_worth_11 (by decide) (fun c1 => ?_) (fun c1 => ?_)
      ·
        exact mcThrow hx hb hlt hown hts hml hout hlocks (by decide +kernel) kw198 kw33 mcAt_IAE (List.mem_of_getElem? (i := 6) rfl) hTh hl.1 dM_worth_22 dM_worth_25 dM_worth_26 dM_worth_28 dM_worth_31 (Nat.le_of_ble_eq_true rfl) (Nat.le_of_ble_eq_true rfl) (Nat.le_of_ble_eq_true rfl) (Nat.le_of_ble_eq_true rfl)
      ·
        have c1 : a1 ≤ 1000000 := Nat.not_lt.mp (fun z9 => c1 ((nI_ltI (a := 1000000) (b := a1) (by omega) ha1).mpr z9))
        refine lv_iload_n hx hb dM_worth_14 rfl (lv_at hl 2 rfl) ?_
        refine lv_ldc (v := 1000000) hx hb hown (hts _ (List.mem_cons_of_mem _ kw392)) dM_worth_15 ?_
        refine lv_iload_n hx hb dM_worth_17 rfl (lv_at hl 1 rfl) ?_
        refine lv_isub hx hb dM_worth_18 ?_
        refine lv_topi (fun y1 ey1 => ?_)
        have hy1 : y1 = nI (1000000 - a1) := by rw [ey1]; exact pk_sub (a := 1000000) (by omega)
        subst hy1
        refine lv_icmp_le (tgt := 32) hx hb dM_worth_19 (by decide) (fun c2 => ?_) (fun c2 => ?_)
        ·
          have c2 := (nI_leI (a := a2) (b := 1000000 - a1) ha2 (by omega)).mp c2
          exact absurd ⟨h1, h2, by rw [nI_toInt ha1, nI_toInt ha2]; omega⟩ hbad
        ·
          exact mcThrow hx hb hlt hown hts hml hout hlocks (by decide +kernel) kw198 kw33 mcAt_IAE (List.mem_of_getElem? (i := 6) rfl) hTh hl.1 dM_worth_22 dM_worth_25 dM_worth_26 dM_worth_28 dM_worth_31 (Nat.le_of_ble_eq_true rfl) (Nat.le_of_ble_eq_true rfl) (Nat.le_of_ble_eq_true rfl) (Nat.le_of_ble_eq_true rfl)
    ·
      exact callXS (As := [.int v2]) (rest := []) ⟨hx, hb, hml, hown, hts⟩ tlB (c_M_requireNotBelowZero_bad l hlt v2 h2) kw377 kw378 kw25 kw379 ⟨rfl, rfl⟩ (n := 1) (by decide +kernel) ⟨Nat.le_of_ble_eq_true rfl, Nat.le_of_ble_eq_true rfl⟩ (nwP_pre) hTh rfl hl.1 rfl (Nat.le_of_ble_eq_true rfl) ⟨Nat.le_of_ble_eq_true rfl, Nat.le_of_ble_eq_true rfl⟩ dM_worth_5 (fun ce q9 H1 hz9 hk9 hce hcv hcl => passX hout hlocks hz9 hk9 hce hcv hcl)
  ·
    exact callXS (As := [.int v1]) (rest := []) ⟨hx, hb, hml, hown, hts⟩ tlB (c_M_requireNotBelowZero_bad l hlt v1 h1) kw377 kw378 kw25 kw379 ⟨rfl, rfl⟩ (n := 1) (by decide +kernel) ⟨Nat.le_of_ble_eq_true rfl, Nat.le_of_ble_eq_true rfl⟩ (nwP_pre) hTh rfl hl.1 rfl (Nat.le_of_ble_eq_true rfl) ⟨Nat.le_of_ble_eq_true rfl, Nat.le_of_ble_eq_true rfl⟩ dM_worth_1 (fun ce q9 H1 hz9 hk9 hce hcv hcl => passX hout hlocks hz9 hk9 hce hcv hcl)
set_option maxHeartbeats 4000000 in
set_option maxRecDepth 100000 in
theorem c_M_year_bad (l : Launch) (dC : Nat → ClassId) (dI : Nat → Nat → Nat) (o : Nat) (a q r : Nat → Nat) (cI cG : ClassId) (la : mcLA) (n v : Nat) (C G X D : Nat → Nat) (B : Nat → Nat → Int) (bu : Nat → Nat) (lp : mcLP) (hlt : l.stackTraces = false) (v1 v2 : Int32) (hbad : ¬ ((0 ≤ v1 ∧ v1 ≤ 3) ∧ (0 ≤ v2 ∧ v2 ≤ 100000))) : mcXMet l yM_year wdM_year ({ frames := 7, cells := 1, slots := 6, locals := 104 }) (roP (dC, dI) mcCl (mcWT o a q r cI cG la n v C G X D B bu lp) (mcTH cI cG) [.ref o, .int v1, .int v2]) mcIAE := by
  refine vx_ofW (cc := bM_year) (maxL := 4) (ret := (some FieldType.int)) (by decide) rfl ?_
  intro p e s m args below meth c s₁ BB hml hout hv
  obtain ⟨hv, hTh⟩ := hv
  obtain ⟨rfl, hP, hK⟩ := hv
  have hx := BB.exec
  have hb := BB.bytes
  have hr := BB.returns
  have hts := atoms_spec (ws := wdM_year) BB.pre
  have hown : s.vm.findClass RM = some m.cls := findClass_of_methodNamed BB.named
  have hlocks := BB.notSynchronized
  have hl := lv_entry ([.ref o, .int v1, .int v2]) (n := 4) (Nat.le_of_ble_eq_true rfl)
  rw [lg_entry_eq]
  generalize (lg_sl ([.ref o, .int v1, .int v2]) ++ List.replicate (4 - (lg_sl ([.ref o, .int v1, .int v2])).length) Slot.unset).toArray = ls at hl ⊢
  have hl : lv_has ls 4 [(0, .ref o), (1, .int v1), (2, .int v2)] := hl
  refine lv_iload_n hx hb dM_year_0 rfl (lv_at hl 1 rfl) ?_
  refine lv_iconst (v := 0) hx hb dM_year_1 (by decide) ?_
  refine lv_iconst (v := 3) hx hb dM_year_2 (by decide) ?_
  by_cases h1 : (0 ≤ v1 ∧ v1 ≤ 3)
  ·
    refine callRSv (As := [.int v1, .int 0, .int 3]) (rest := []) ⟨hx, hb, hml, hown, hts⟩ tlB (c_M_requireBetween_ok l v1 0 3 h1) kw195 kw196 kw25 kw197 ⟨rfl, rfl⟩ (n := 3) (by decide +kernel) ⟨Nat.le_of_ble_eq_true rfl, Nat.le_of_ble_eq_true rfl⟩ (nwP_pre) rfl hl.1 rfl (Nat.le_of_ble_eq_true rfl) ⟨Nat.le_of_ble_eq_true rfl, Nat.le_of_ble_eq_true rfl⟩ dM_year_3 ?_
    refine lv_iload_n hx hb dM_year_6 rfl (lv_at hl 2 rfl) ?_
    refine lv_iconst (v := 0) hx hb dM_year_7 (by decide) ?_
    refine lv_ldc (v := 100000) hx hb hown (hts _ (List.mem_cons_of_mem _ kw408)) dM_year_8 ?_
    exact callXS (As := [.int v2, .int 0, .int 100000]) (rest := []) ⟨hx, hb, hml, hown, hts⟩ tlB (c_M_requireBetween_bad l hlt v2 0 100000 (fun h => hbad ⟨h1, h⟩)) kw195 kw196 kw25 kw197 ⟨rfl, rfl⟩ (n := 3) (by decide +kernel) ⟨Nat.le_of_ble_eq_true rfl, Nat.le_of_ble_eq_true rfl⟩ (nwP_pre) hTh rfl hl.1 rfl (Nat.le_of_ble_eq_true rfl) ⟨Nat.le_of_ble_eq_true rfl, Nat.le_of_ble_eq_true rfl⟩ dM_year_10 (fun ce q9 H1 hz9 hk9 hce hcv hcl => passX hout hlocks hz9 hk9 hce hcv hcl)
  ·
    exact callXS (As := [.int v1, .int 0, .int 3]) (rest := []) ⟨hx, hb, hml, hown, hts⟩ tlB (c_M_requireBetween_bad l hlt v1 0 3 h1) kw195 kw196 kw25 kw197 ⟨rfl, rfl⟩ (n := 3) (by decide +kernel) ⟨Nat.le_of_ble_eq_true rfl, Nat.le_of_ble_eq_true rfl⟩ (nwP_pre) hTh rfl hl.1 rfl (Nat.le_of_ble_eq_true rfl) ⟨Nat.le_of_ble_eq_true rfl, Nat.le_of_ble_eq_true rfl⟩ dM_year_3 (fun ce q9 H1 hz9 hk9 hce hcv hcl => passX hout hlocks hz9 hk9 hce hcv hcl)
set_option maxHeartbeats 4000000 in
set_option maxRecDepth 100000 in
theorem c_M_plan_bad (l : Launch) (dC : Nat → ClassId) (dI : Nat → Nat → Nat) (o : Nat) (a q r : Nat → Nat) (cI cG : ClassId) (la : mcLA) (n v : Nat) (C G X D : Nat → Nat) (B : Nat → Nat → Int) (bu : Nat → Nat) (lp : mcLP) (hlt : l.stackTraces = false) (v1 v2 : Int32) (hbad : ¬ ((1 ≤ v1 ∧ v1 ≤ 4) ∧ (0 ≤ v2 ∧ v2 ≤ v1 - 1))) : mcXMet l yM_plan wdM_plan ({ frames := 7, cells := 1, slots := 6, locals := 104 }) (roP (dC, dI) mcCl (mcWT o a q r cI cG la n v C G X D B bu lp) (mcTH cI cG) [.ref o, .int v1, .int v2]) mcIAE := by
  refine vx_ofW (cc := bM_plan) (maxL := 3) (ret := (some FieldType.int)) (by decide) rfl ?_
  intro p e s m args below meth c s₁ BB hml hout hv
  obtain ⟨hv, hTh⟩ := hv
  obtain ⟨rfl, hP, hK⟩ := hv
  have hx := BB.exec
  have hb := BB.bytes
  have hr := BB.returns
  have hts := atoms_spec (ws := wdM_plan) BB.pre
  have hown : s.vm.findClass RM = some m.cls := findClass_of_methodNamed BB.named
  have hlocks := BB.notSynchronized
  have hl := lv_entry ([.ref o, .int v1, .int v2]) (n := 3) (Nat.le_of_ble_eq_true rfl)
  rw [lg_entry_eq]
  generalize (lg_sl ([.ref o, .int v1, .int v2]) ++ List.replicate (3 - (lg_sl ([.ref o, .int v1, .int v2])).length) Slot.unset).toArray = ls at hl ⊢
  have hl : lv_has ls 3 [(0, .ref o), (1, .int v1), (2, .int v2)] := hl
  refine lv_iload_n hx hb dM_plan_0 rfl (lv_at hl 1 rfl) ?_
  refine lv_iconst (v := 1) hx hb dM_plan_1 (by decide) ?_
  refine lv_iconst (v := 4) hx hb dM_plan_2 (by decide) ?_
  by_cases h1 : (1 ≤ v1 ∧ v1 ≤ 4)
  ·
    refine callRSv (As := [.int v1, .int 1, .int 4]) (rest := []) ⟨hx, hb, hml, hown, hts⟩ tlB (c_M_requireBetween_ok l v1 1 4 h1) kw195 kw196 kw25 kw197 ⟨rfl, rfl⟩ (n := 3) (by decide +kernel) ⟨Nat.le_of_ble_eq_true rfl, Nat.le_of_ble_eq_true rfl⟩ (nwP_pre) rfl hl.1 rfl (Nat.le_of_ble_eq_true rfl) ⟨Nat.le_of_ble_eq_true rfl, Nat.le_of_ble_eq_true rfl⟩ dM_plan_3 ?_
    refine lv_iload_n hx hb dM_plan_6 rfl (lv_at hl 2 rfl) ?_
    refine lv_iconst (v := 0) hx hb dM_plan_7 (by decide) ?_
    refine lv_iload_n hx hb dM_plan_8 rfl (lv_at hl 1 rfl) ?_
    refine lv_iconst (v := 1) hx hb dM_plan_9 (by decide) ?_
    refine lv_isub hx hb dM_plan_10 ?_
    exact callXS (As := [.int v2, .int 0, .int (v1 - 1)]) (rest := []) ⟨hx, hb, hml, hown, hts⟩ tlB (c_M_requireBetween_bad l hlt v2 0 (v1 - 1) (fun h => hbad ⟨h1, h⟩)) kw195 kw196 kw25 kw197 ⟨rfl, rfl⟩ (n := 3) (by decide +kernel) ⟨Nat.le_of_ble_eq_true rfl, Nat.le_of_ble_eq_true rfl⟩ (nwP_pre) hTh rfl hl.1 rfl (Nat.le_of_ble_eq_true rfl) ⟨Nat.le_of_ble_eq_true rfl, Nat.le_of_ble_eq_true rfl⟩ dM_plan_11 (fun ce q9 H1 hz9 hk9 hce hcv hcl => passX hout hlocks hz9 hk9 hce hcv hcl)
  ·
    exact callXS (As := [.int v1, .int 1, .int 4]) (rest := []) ⟨hx, hb, hml, hown, hts⟩ tlB (c_M_requireBetween_bad l hlt v1 1 4 h1) kw195 kw196 kw25 kw197 ⟨rfl, rfl⟩ (n := 3) (by decide +kernel) ⟨Nat.le_of_ble_eq_true rfl, Nat.le_of_ble_eq_true rfl⟩ (nwP_pre) hTh rfl hl.1 rfl (Nat.le_of_ble_eq_true rfl) ⟨Nat.le_of_ble_eq_true rfl, Nat.le_of_ble_eq_true rfl⟩ dM_plan_3 (fun ce q9 H1 hz9 hk9 hce hcv hcl => passX hout hlocks hz9 hk9 hce hcv hcl)
set_option maxHeartbeats 4000000 in
set_option maxRecDepth 100000 in
theorem c_M_planned_bad (l : Launch) (dC : Nat → ClassId) (dI : Nat → Nat → Nat) (o : Nat) (a q r : Nat → Nat) (cI cG : ClassId) (la : mcLA) (n v : Nat) (C G X D : Nat → Nat) (B : Nat → Nat → Int) (bu : Nat → Nat) (lp : mcLP) (hlt : l.stackTraces = false) (v1 : Int32) (hbad : ¬ (1 ≤ v1 ∧ v1 ≤ 4)) : mcXMet l yM_planned wdM_planned ({ frames := 7, cells := 1, slots := 6, locals := 104 }) (roP (dC, dI) mcCl (mcWT o a q r cI cG la n v C G X D B bu lp) (mcTH cI cG) [.ref o, .int v1]) mcIAE := by
  refine vx_ofW (cc := bM_planned) (maxL := 2) (ret := (some FieldType.int)) (by decide) rfl ?_
  intro p e s m args below meth c s₁ BB hml hout hv
  obtain ⟨hv, hTh⟩ := hv
  obtain ⟨rfl, hP, hK⟩ := hv
  have hx := BB.exec
  have hb := BB.bytes
  have hr := BB.returns
  have hts := atoms_spec (ws := wdM_planned) BB.pre
  have hown : s.vm.findClass RM = some m.cls := findClass_of_methodNamed BB.named
  have hlocks := BB.notSynchronized
  have hl := lv_entry ([.ref o, .int v1]) (n := 2) (Nat.le_of_ble_eq_true rfl)
  rw [lg_entry_eq]
  generalize (lg_sl ([.ref o, .int v1]) ++ List.replicate (2 - (lg_sl ([.ref o, .int v1])).length) Slot.unset).toArray = ls at hl ⊢
  have hl : lv_has ls 2 [(0, .ref o), (1, .int v1)] := hl
  refine lv_iload_n hx hb dM_planned_0 rfl (lv_at hl 1 rfl) ?_
  refine lv_iconst (v := 1) hx hb dM_planned_1 (by decide) ?_
  refine lv_iconst (v := 4) hx hb dM_planned_2 (by decide) ?_
  exact callXS (As := [.int v1, .int 1, .int 4]) (rest := []) ⟨hx, hb, hml, hown, hts⟩ tlB (c_M_requireBetween_bad l hlt v1 1 4 hbad) kw195 kw196 kw25 kw197 ⟨rfl, rfl⟩ (n := 3) (by decide +kernel) ⟨Nat.le_of_ble_eq_true rfl, Nat.le_of_ble_eq_true rfl⟩ (nwP_pre) hTh rfl hl.1 rfl (Nat.le_of_ble_eq_true rfl) ⟨Nat.le_of_ble_eq_true rfl, Nat.le_of_ble_eq_true rfl⟩ dM_planned_3 (fun ce q9 H1 hz9 hk9 hce hcv hcl => passX hout hlocks hz9 hk9 hce hcv hcl)
