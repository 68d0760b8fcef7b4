/-! the law's own methods -/
set_option maxHeartbeats 4000000 in
set_option maxRecDepth 100000 in
theorem c_L_measure_ok (l : Launch) (dC : Nat → ClassId) (dI : Nat → Nat → Nat) (o : Nat) (a q r : Nat → Nat) (cI cG : ClassId) (la : mcLA) (n v : Nat) (C G X D : Nat → Nat) (B : Nat → Nat → Int) (bu : Nat → Nat) (lp : mcLP) (cZ cJ : ClassId) (u : Nat) (ov : Nat → Int64) (sz : Nat) (cv gv : Nat) (hf : n < 12) (h1 : 1 ≤ nI cv ∧ nI cv ≤ 10000) (h2 : 0 ≤ nI gv ∧ nI gv ≤ 10000) : Met l yL_measure wdL_measure ({ frames := 3, cells := 0, slots := 0, locals := 68 }) (wrP (dC, dI) mcCl (mcWL o a q r cI cG la n v C G X D B bu lp u cJ ov) (mcT4 cI cG cZ cJ) sz [.ref o, .int (nI cv), .int (nI gv), .ref u]) (wrXi (fun z9 (x : Int32 × Unit) => z9 = 0 ∧ (x.1 = nI n)) (fun x => mcWL o a q r cI cG la (n + 1) (v + 1) (va_up C n cv) (va_up G n gv) X D B bu lp u cJ (vp_updL ov 0 x.1.toInt64)) (dC, dI) mcCl (mcWL o a q r cI cG la n v C G X D B bu lp u cJ ov) (mcT4 cI cG cZ cJ) sz) 0 0 (va_A (mcWL o a q r cI cG la n v C G X D B bu lp u cJ ov) sz) := by
  unfold wrXi
  refine va_MetW (cc := bL_measure) (maxL := 5) (ret := (some FieldType.int)) (by decide) rfl ?_
  intro p e s m args below meth c s₁ BB hml hv
  obtain ⟨rfl, hsz, hP, hK, hD0⟩ := hv
  have hx := BB.exec
  have hb := BB.bytes
  have hr := BB.returns
  have hts := atoms_spec (ws := wdL_measure) BB.pre
  have hown : s.vm.findClass RL = some m.cls := findClass_of_methodNamed BB.named
  have hlocks := BB.notSynchronized
  subst hsz
  have hD := hD0.self (sz := s.heap.size)
  generalize hAe : va_A (mcWL o a q r cI cG la n v C G X D B bu lp u cJ ov) s.heap.size = A at hD ⊢
  have hA : ∀ q : Nat, s.heap.size ≤ q → A q := fun q h => by rw [← hAe]; exact Or.inr h
  have hS : va_S A s.heap s.heap [] := va_S.rf
  have hK2 := hK.sub (tys' := (mcTH cI cG)) [0, 1] rfl
  have hl := lv_entry ([.ref o, .int (nI cv), .int (nI gv), .ref u]) (n := 5) (Nat.le_of_ble_eq_true rfl)
  rw [lg_entry_eq]
  generalize (lg_sl ([.ref o, .int (nI cv), .int (nI gv), .ref u]) ++ List.replicate (5 - (lg_sl ([.ref o, .int (nI cv), .int (nI gv), .ref u])).length) Slot.unset).toArray = ls at hl ⊢
  have hl : lv_has ls 5 [(0, .ref o), (1, .int (nI cv)), (2, .int (nI gv)), (3, .ref u)] := hl
  refine lv_aload_n hx hb dL_measure_0 rfl (lv_at hl 3 rfl) ?_
  refine lv_iconst (v := 0) hx hb dL_measure_1 (by decide) ?_
  refine lv_aload_n hx hb dL_measure_2 rfl (lv_at hl 0 rfl) ?_
  refine lv_iload_n hx hb dL_measure_3 rfl (lv_at hl 1 rfl) ?_
  refine lv_iload_n hx hb dL_measure_4 rfl (lv_at hl 2 rfl) ?_
  refine callWXi (As := [.int (nI cv), .int (nI gv)]) (rest := [.int 0, .ref u]) ⟨hx, hb, hml, hown, hts⟩ tlB (c_M_measure_ok l dC dI o a q r cI cG la n v C G X D B bu lp s.heap.size cv gv hf h1 h2) kw188 kw189 kw190 kw25 kw191 ⟨rfl, rfl⟩ (n := 2) (by decide +kernel) ⟨Nat.le_of_ble_eq_true rfl, Nat.le_of_ble_eq_true rfl⟩ hP.lft hK2 hD.lft hS (va_freeL hD hS hA) (ci := 3) (q0 := 0) rfl rfl rfl hl.1 rfl (Nat.le_of_ble_eq_true rfl) ⟨Nat.le_of_ble_eq_true rfl, Nat.le_of_ble_eq_true rfl⟩ dL_measure_5 (fun r1 x1 H1 locs1 hr1 hP1 hD1 hk1 hS1 => ?_)
  obtain ⟨hP, hD⟩ := va_jnL hP hD hk1 (va_freeL hD hS hA) hP1 hD1
  have hS := hS1
  refine lv_i2l (v := (r1).toInt64) hx hb dL_measure_8 rfl ?_
  refine va_last hx hb hK hP hD hS 37 3 rfl rfl (i := 0) (vp_in_nI (n := 0) (N := 1) (by decide) (by decide)) dL_measure_9 (fun H locs hP hD hS => ?_)
  have hP : va_P (dC, dI) mcCl (mcWL o a q r cI cG la (n + 1) (v + 1) (va_up C n cv) (va_up G n gv) X D B bu lp u cJ (vp_updL ov 0 r1.toInt64)) H := hP
  have hD : va_D A (mcWL o a q r cI cG la (n + 1) (v + 1) (va_up C n cv) (va_up G n gv) X D B bu lp u cJ (vp_updL ov 0 r1.toInt64)) := hD
  refine lv_goto (tgt := 21) hx hb dL_measure_10 (by decide) ?_
  refine lv_iconst (v := 0) hx hb dL_measure_21 (by decide) ?_
  exact W.iret (v := 0) hx hb hr (fun t ht hW => ⟨⟨0, (r1, x1), rfl, ⟨rfl, hr1⟩, by rw [ht]; exact hP, va_K.moved hW.alike hK, hD⟩, hS.F ht⟩) hS.2.2 dL_measure_22
set_option maxHeartbeats 4000000 in
set_option maxRecDepth 100000 in
theorem c_L_change_ok (l : Launch) (dC : Nat → ClassId) (dI : Nat → Nat → Nat) (o : Nat) (a q r : Nat → Nat) (cI cG : ClassId) (la : mcLA) (n v : Nat) (C G X D : Nat → Nat) (B : Nat → Nat → Int) (bu : Nat → Nat) (lp : mcLP) (cZ cJ : ClassId) (u : Nat) (ov : Nat → Int64) (sz : Nat) (mm cv gv : Nat) (hm : mm < n) (hn : n ≤ 12) (h1 : 1 ≤ nI cv ∧ nI cv ≤ 10000) (h2 : 0 ≤ nI gv ∧ nI gv ≤ 10000) : Met l yL_change wdL_change ({ frames := 3, cells := 0, slots := 0, locals := 66 }) (wrP (dC, dI) mcCl (mcWL o a q r cI cG la n v C G X D B bu lp u cJ ov) (mcT4 cI cG cZ cJ) sz [.ref o, .int (nI mm), .int (nI cv), .int (nI gv)]) (wrXi (fun z9 (x : Unit) => z9 = 0) (fun x => mcWL o a q r cI cG la n (v + 1) (va_up C mm cv) (va_up G mm gv) X D B bu lp u cJ ov) (dC, dI) mcCl (mcWL o a q r cI cG la n v C G X D B bu lp u cJ ov) (mcT4 cI cG cZ cJ) sz) 0 0 (va_A (mcWL o a q r cI cG la n v C G X D B bu lp u cJ ov) sz) := by
  unfold wrXi
  refine va_MetW (cc := bL_change) (maxL := 5) (ret := (some FieldType.int)) (by decide) rfl ?_
  intro p e s m args below meth c s₁ BB hml hv
  obtain ⟨rfl, hsz, hP, hK, hD0⟩ := hv
  have hx := BB.exec
  have hb := BB.bytes
  have hr := BB.returns
  have hts := atoms_spec (ws := wdL_change) BB.pre
  have hown : s.vm.findClass RL = some m.cls := findClass_of_methodNamed BB.named
  have hlocks := BB.notSynchronized
  subst hsz
  have hD := hD0.self (sz := s.heap.size)
  generalize hAe : va_A (mcWL o a q r cI cG la n v C G X D B bu lp u cJ ov) s.heap.size = A at hD ⊢
  have hA : ∀ q : Nat, s.heap.size ≤ q → A q := fun q h => by rw [← hAe]; exact Or.inr h
  have hS : va_S A s.heap s.heap [] := va_S.rf
  have hK2 := hK.sub (tys' := (mcTH cI cG)) [0, 1] rfl
  have hl := lv_entry ([.ref o, .int (nI mm), .int (nI cv), .int (nI gv)]) (n := 5) (Nat.le_of_ble_eq_true rfl)
  rw [lg_entry_eq]
  generalize (lg_sl ([.ref o, .int (nI mm), .int (nI cv), .int (nI gv)]) ++ List.replicate (5 - (lg_sl ([.ref o, .int (nI mm), .int (nI cv), .int (nI gv)])).length) Slot.unset).toArray = ls at hl ⊢
  have hl : lv_has ls 5 [(0, .ref o), (1, .int (nI mm)), (2, .int (nI cv)), (3, .int (nI gv))] := hl
  refine lv_aload_n hx hb dL_change_0 rfl (lv_at hl 0 rfl) ?_
  refine lv_iload_n hx hb dL_change_1 rfl (lv_at hl 1 rfl) ?_
  refine lv_iload_n hx hb dL_change_2 rfl (lv_at hl 2 rfl) ?_
  refine lv_iload_n hx hb dL_change_3 rfl (lv_at hl 3 rfl) ?_
  refine callWV (As := [.int (nI mm), .int (nI cv), .int (nI gv)]) (rest := []) ⟨hx, hb, hml, hown, hts⟩ tlB (c_M_change_ok l dC dI o a q r cI cG la n v C G X D B bu lp s.heap.size mm cv gv hm hn h1 h2) kw279 kw280 kw281 kw25 kw282 ⟨rfl, rfl⟩ (n := 3) (by decide +kernel) ⟨Nat.le_of_ble_eq_true rfl, Nat.le_of_ble_eq_true rfl⟩ hP.lft hK2 hD.lft hS (va_freeL hD hS hA) (ci := 3) (q0 := 0) rfl rfl rfl hl.1 rfl (Nat.le_of_ble_eq_true rfl) ⟨Nat.le_of_ble_eq_true rfl, Nat.le_of_ble_eq_true rfl⟩ dL_change_4 (fun H1 locs1 hP1 hD1 hk1 hS1 => ?_)
  obtain ⟨hP, hD⟩ := va_jnL hP hD hk1 (va_freeL hD hS hA) hP1 hD1
  have hS := hS1
  refine lv_goto (tgt := 14) hx hb dL_change_7 (by decide) ?_
  refine lv_iconst (v := 0) hx hb dL_change_14 (by decide) ?_
  exact W.iret (v := 0) hx hb hr (fun t ht hW => ⟨⟨0, (), rfl, rfl, by rw [ht]; exact hP, va_K.moved hW.alike hK, hD⟩, hS.F ht⟩) hS.2.2 dL_change_15
set_option maxHeartbeats 4000000 in
set_option maxRecDepth 100000 in
theorem c_L_exclude_ok (l : Launch) (dC : Nat → ClassId) (dI : Nat → Nat → Nat) (o : Nat) (a q r : Nat → Nat) (cI cG : ClassId) (la : mcLA) (n v : Nat) (C G X D : Nat → Nat) (B : Nat → Nat → Int) (bu : Nat → Nat) (lp : mcLP) (cZ cJ : ClassId) (u : Nat) (ov : Nat → Int64) (sz : Nat) (mm oo : Nat) (on : Int32) (hm : mm < n) (ho : oo < n) (hn : n ≤ 12) (hne : ¬ nI mm = nI oo) (hX : ∀ m, X m < 4096) : Met l yL_exclude wdL_exclude ({ frames := 3, cells := 0, slots := 0, locals := 70 }) (wrP (dC, dI) mcCl (mcWL o a q r cI cG la n v C G X D B bu lp u cJ ov) (mcT4 cI cG cZ cJ) sz [.ref o, .int (nI mm), .int (nI oo), .int on, .ref u]) (wrXi (fun z9 (x : Int32 × Unit) => z9 = 0 ∧ (x.1 = bZ ((X mm).testBit oo))) (fun x => mcWL o a q r cI cG la n (v + 1) C G (va_up (va_up X mm (mcBit (X mm) oo on)) oo (mcBit ((va_up X mm (mcBit (X mm) oo on)) oo) mm on)) D B bu lp u cJ (vp_updL ov 0 (if x.1 = 0 then 0 else 1))) (dC, dI) mcCl (mcWL o a q r cI cG la n v C G X D B bu lp u cJ ov) (mcT4 cI cG cZ cJ) sz) 0 0 (va_A (mcWL o a q r cI cG la n v C G X D B bu lp u cJ ov) sz) := by
  unfold wrXi
  refine va_MetW (cc := bL_exclude) (maxL := 6) (ret := (some FieldType.int)) (by decide) rfl ?_
  intro p e s m args below meth c s₁ BB hml hv
  obtain ⟨rfl, hsz, hP, hK, hD0⟩ := hv
  have hx := BB.exec
  have hb := BB.bytes
  have hr := BB.returns
  have hts := atoms_spec (ws := wdL_exclude) BB.pre
  have hown : s.vm.findClass RL = some m.cls := findClass_of_methodNamed BB.named
  have hlocks := BB.notSynchronized
  subst hsz
  have hD := hD0.self (sz := s.heap.size)
  generalize hAe : va_A (mcWL o a q r cI cG la n v C G X D B bu lp u cJ ov) s.heap.size = A at hD ⊢
  have hA : ∀ q : Nat, s.heap.size ≤ q → A q := fun q h => by rw [← hAe]; exact Or.inr h
  have hS : va_S A s.heap s.heap [] := va_S.rf
  have hK2 := hK.sub (tys' := (mcTH cI cG)) [0, 1] rfl
  have hl := lv_entry ([.ref o, .int (nI mm), .int (nI oo), .int on, .ref u]) (n := 6) (Nat.le_of_ble_eq_true rfl)
  rw [lg_entry_eq]
  generalize (lg_sl ([.ref o, .int (nI mm), .int (nI oo), .int on, .ref u]) ++ List.replicate (6 - (lg_sl ([.ref o, .int (nI mm), .int (nI oo), .int on, .ref u])).length) Slot.unset).toArray = ls at hl ⊢
  have hl : lv_has ls 6 [(0, .ref o), (1, .int (nI mm)), (2, .int (nI oo)), (3, .int on), (4, .ref u)] := hl
  refine lv_aload hx hb dL_exclude_0 (lv_at hl 4 rfl) ?_
  refine lv_iconst (v := 0) hx hb dL_exclude_2 (by decide) ?_
  refine lv_aload_n hx hb dL_exclude_3 rfl (lv_at hl 0 rfl) ?_
  refine lv_iload_n hx hb dL_exclude_4 rfl (lv_at hl 1 rfl) ?_
  refine lv_iload_n hx hb dL_exclude_5 rfl (lv_at hl 2 rfl) ?_
  refine lv_iload_n hx hb dL_exclude_6 rfl (lv_at hl 3 rfl) ?_
  refine callWXi (As := [.int (nI mm), .int (nI oo), .int on]) (rest := [.int 0, .ref u]) ⟨hx, hb, hml, hown, hts⟩ tlB (c_M_exclude_ok l dC dI o a q r cI cG la n v C G X D B bu lp s.heap.size mm oo on hm ho hn hne hX) kw290 kw291 kw292 kw25 kw293 ⟨rfl, rfl⟩ (n := 3) (by decide +kernel) ⟨Nat.le_of_ble_eq_true rfl, Nat.le_of_ble_eq_true rfl⟩ hP.lft hK2 hD.lft hS (va_freeL hD hS hA) (ci := 3) (q0 := 0) rfl rfl rfl hl.1 rfl (Nat.le_of_ble_eq_true rfl) ⟨Nat.le_of_ble_eq_true rfl, Nat.le_of_ble_eq_true rfl⟩ dL_exclude_7 (fun r1 x1 H1 locs1 hr1 hP1 hD1 hk1 hS1 => ?_)
  obtain ⟨hP, hD⟩ := va_jnL hP hD hk1 (va_freeL hD hS hA) hP1 hD1
  have hS := hS1
  refine lv_if_eq (tgt := 17) hx hb dL_exclude_10 (by decide) (fun c1 => ?_) (fun c1 => ?_)
  ·
    refine lv_lconst (v := 0) hx hb dL_exclude_17 (by decide) ?_
    refine va_last hx hb hK hP hD hS 37 3 rfl rfl (i := 0) (vp_in_nI (n := 0) (N := 1) (by decide) (by decide)) dL_exclude_18 (fun H locs hP hD hS => ?_)
    have hP : va_P (dC, dI) mcCl (mcWL o a q r cI cG la n (v + 1) C G (va_up (va_up X mm (mcBit (X mm) oo on)) oo (mcBit ((va_up X mm (mcBit (X mm) oo on)) oo) mm on)) D B bu lp u cJ (vp_updL ov 0 0)) H := hP
    have hD : va_D A (mcWL o a q r cI cG la n (v + 1) C G (va_up (va_up X mm (mcBit (X mm) oo on)) oo (mcBit ((va_up X mm (mcBit (X mm) oo on)) oo) mm on)) D B bu lp u cJ (vp_updL ov 0 0)) := hD
    refine lv_goto (tgt := 26) hx hb dL_exclude_19 (by decide) ?_
    refine lv_iconst (v := 0) hx hb dL_exclude_26 (by decide) ?_
    exact W.iret (v := 0) hx hb hr (fun t ht hW => ⟨⟨0, (r1, x1), rfl, ⟨rfl, hr1⟩, by rw [ht]; dsimp only; rw [if_pos c1]; exact hP, va_K.moved hW.alike hK, by dsimp only; rw [if_pos c1]; exact hD⟩, hS.F ht⟩) hS.2.2 dL_exclude_27
  ·
    refine lv_lconst (v := 1) hx hb dL_exclude_13 (by decide) ?_
    refine lv_goto (tgt := 18) hx hb dL_exclude_14 (by decide) ?_
    refine va_last hx hb hK hP hD hS 37 3 rfl rfl (i := 0) (vp_in_nI (n := 0) (N := 1) (by decide) (by decide)) dL_exclude_18 (fun H locs hP hD hS => ?_)
    have hP : va_P (dC, dI) mcCl (mcWL o a q r cI cG la n (v + 1) C G (va_up (va_up X mm (mcBit (X mm) oo on)) oo (mcBit ((va_up X mm (mcBit (X mm) oo on)) oo) mm on)) D B bu lp u cJ (vp_updL ov 0 1)) H := hP
    have hD : va_D A (mcWL o a q r cI cG la n (v + 1) C G (va_up (va_up X mm (mcBit (X mm) oo on)) oo (mcBit ((va_up X mm (mcBit (X mm) oo on)) oo) mm on)) D B bu lp u cJ (vp_updL ov 0 1)) := hD
    refine lv_goto (tgt := 26) hx hb dL_exclude_19 (by decide) ?_
    refine lv_iconst (v := 0) hx hb dL_exclude_26 (by decide) ?_
    exact W.iret (v := 0) hx hb hr (fun t ht hW => ⟨⟨0, (r1, x1), rfl, ⟨rfl, hr1⟩, by rw [ht]; dsimp only; rw [if_neg c1]; exact hP, va_K.moved hW.alike hK, by dsimp only; rw [if_neg c1]; exact hD⟩, hS.F ht⟩) hS.2.2 dL_exclude_27
set_option maxHeartbeats 4000000 in
set_option maxRecDepth 100000 in
theorem c_L_needs_ok (l : Launch) (dC : Nat → ClassId) (dI : Nat → Nat → Nat) (o : Nat) (a q r : Nat → Nat) (cI cG : ClassId) (la : mcLA) (n v : Nat) (C G X D : Nat → Nat) (B : Nat → Nat → Int) (bu : Nat → Nat) (lp : mcLP) (cZ cJ : ClassId) (u : Nat) (ov : Nat → Int64) (sz : Nat) (mm oo : Nat) (on : Int32) (hm : mm < n) (ho : oo < n) (hn : n ≤ 12) (hne : ¬ nI mm = nI oo) (hDD : ∀ m, D m < 4096) : Met l yL_needs wdL_needs ({ frames := 3, cells := 0, slots := 0, locals := 70 }) (wrP (dC, dI) mcCl (mcWL o a q r cI cG la n v C G X D B bu lp u cJ ov) (mcT4 cI cG cZ cJ) sz [.ref o, .int (nI mm), .int (nI oo), .int on, .ref u]) (wrXi (fun z9 (x : Int32 × Unit) => z9 = 0 ∧ (x.1 = bZ ((D mm).testBit oo))) (fun x => mcWL o a q r cI cG la n (v + 1) C G X (va_up D mm (mcBit (D mm) oo on)) B bu lp u cJ (vp_updL ov 0 (if x.1 = 0 then 0 else 1))) (dC, dI) mcCl (mcWL o a q r cI cG la n v C G X D B bu lp u cJ ov) (mcT4 cI cG cZ cJ) sz) 0 0 (va_A (mcWL o a q r cI cG la n v C G X D B bu lp u cJ ov) sz) := by
  unfold wrXi
  refine va_MetW (cc := bL_needs) (maxL := 6) (ret := (some FieldType.int)) (by decide) rfl ?_
  intro p e s m args below meth c s₁ BB hml hv
  obtain ⟨rfl, hsz, hP, hK, hD0⟩ := hv
  have hx := BB.exec
  have hb := BB.bytes
  have hr := BB.returns
  have hts := atoms_spec (ws := wdL_needs) BB.pre
  have hown : s.vm.findClass RL = some m.cls := findClass_of_methodNamed BB.named
  have hlocks := BB.notSynchronized
  subst hsz
  have hD := hD0.self (sz := s.heap.size)
  generalize hAe : va_A (mcWL o a q r cI cG la n v C G X D B bu lp u cJ ov) s.heap.size = A at hD ⊢
  have hA : ∀ q : Nat, s.heap.size ≤ q → A q := fun q h => by rw [← hAe]; exact Or.inr h
  have hS : va_S A s.heap s.heap [] := va_S.rf
  have hK2 := hK.sub (tys' := (mcTH cI cG)) [0, 1] rfl
  have hl := lv_entry ([.ref o, .int (nI mm), .int (nI oo), .int on, .ref u]) (n := 6) (Nat.le_of_ble_eq_true rfl)
  rw [lg_entry_eq]
  generalize (lg_sl ([.ref o, .int (nI mm), .int (nI oo), .int on, .ref u]) ++ List.replicate (6 - (lg_sl ([.ref o, .int (nI mm), .int (nI oo), .int on, .ref u])).length) Slot.unset).toArray = ls at hl ⊢
  have hl : lv_has ls 6 [(0, .ref o), (1, .int (nI mm)), (2, .int (nI oo)), (3, .int on), (4, .ref u)] := hl
  refine lv_aload hx hb dL_needs_0 (lv_at hl 4 rfl) ?_
  refine lv_iconst (v := 0) hx hb dL_needs_2 (by decide) ?_
  refine lv_aload_n hx hb dL_needs_3 rfl (lv_at hl 0 rfl) ?_
  refine lv_iload_n hx hb dL_needs_4 rfl (lv_at hl 1 rfl) ?_
  refine lv_iload_n hx hb dL_needs_5 rfl (lv_at hl 2 rfl) ?_
  refine lv_iload_n hx hb dL_needs_6 rfl (lv_at hl 3 rfl) ?_
  refine callWXi (As := [.int (nI mm), .int (nI oo), .int on]) (rest := [.int 0, .ref u]) ⟨hx, hb, hml, hown, hts⟩ tlB (c_M_needs_ok l dC dI o a q r cI cG la n v C G X D B bu lp s.heap.size mm oo on hm ho hn hne hDD) kw308 kw309 kw310 kw25 kw311 ⟨rfl, rfl⟩ (n := 3) (by decide +kernel) ⟨Nat.le_of_ble_eq_true rfl, Nat.le_of_ble_eq_true rfl⟩ hP.lft hK2 hD.lft hS (va_freeL hD hS hA) (ci := 3) (q0 := 0) rfl rfl rfl hl.1 rfl (Nat.le_of_ble_eq_true rfl) ⟨Nat.le_of_ble_eq_true rfl, Nat.le_of_ble_eq_true rfl⟩ dL_needs_7 (fun r1 x1 H1 locs1 hr1 hP1 hD1 hk1 hS1 => ?_)
  obtain ⟨hP, hD⟩ := va_jnL hP hD hk1 (va_freeL hD hS hA) hP1 hD1
  have hS := hS1
  refine lv_if_eq (tgt := 17) hx hb dL_needs_10 (by decide) (fun c1 => ?_) (fun c1 => ?_)
  ·
    refine lv_lconst (v := 0) hx hb dL_needs_17 (by decide) ?_
    refine va_last hx hb hK hP hD hS 37 3 rfl rfl (i := 0) (vp_in_nI (n := 0) (N := 1) (by decide) (by decide)) dL_needs_18 (fun H locs hP hD hS => ?_)
    have hP : va_P (dC, dI) mcCl (mcWL o a q r cI cG la n (v + 1) C G X (va_up D mm (mcBit (D mm) oo on)) B bu lp u cJ (vp_updL ov 0 0)) H := hP
    have hD : va_D A (mcWL o a q r cI cG la n (v + 1) C G X (va_up D mm (mcBit (D mm) oo on)) B bu lp u cJ (vp_updL ov 0 0)) := hD
    refine lv_goto (tgt := 26) hx hb dL_needs_19 (by decide) ?_
    refine lv_iconst (v := 0) hx hb dL_needs_26 (by decide) ?_
    exact W.iret (v := 0) hx hb hr (fun t ht hW => ⟨⟨0, (r1, x1), rfl, ⟨rfl, hr1⟩, by rw [ht]; dsimp only; rw [if_pos c1]; exact hP, va_K.moved hW.alike hK, by dsimp only; rw [if_pos c1]; exact hD⟩, hS.F ht⟩) hS.2.2 dL_needs_27
  ·
    refine lv_lconst (v := 1) hx hb dL_needs_13 (by decide) ?_
    refine lv_goto (tgt := 18) hx hb dL_needs_14 (by decide) ?_
    refine va_last hx hb hK hP hD hS 37 3 rfl rfl (i := 0) (vp_in_nI (n := 0) (N := 1) (by decide) (by decide)) dL_needs_18 (fun H locs hP hD hS => ?_)
    have hP : va_P (dC, dI) mcCl (mcWL o a q r cI cG la n (v + 1) C G X (va_up D mm (mcBit (D mm) oo on)) B bu lp u cJ (vp_updL ov 0 1)) H := hP
    have hD : va_D A (mcWL o a q r cI cG la n (v + 1) C G X (va_up D mm (mcBit (D mm) oo on)) B bu lp u cJ (vp_updL ov 0 1)) := hD
    refine lv_goto (tgt := 26) hx hb dL_needs_19 (by decide) ?_
    refine lv_iconst (v := 0) hx hb dL_needs_26 (by decide) ?_
    exact W.iret (v := 0) hx hb hr (fun t ht hW => ⟨⟨0, (r1, x1), rfl, ⟨rfl, hr1⟩, by rw [ht]; dsimp only; rw [if_neg c1]; exact hP, va_K.moved hW.alike hK, by dsimp only; rw [if_neg c1]; exact hD⟩, hS.F ht⟩) hS.2.2 dL_needs_27
set_option maxHeartbeats 4000000 in
set_option maxRecDepth 100000 in
theorem c_L_bonus_ok (l : Launch) (dC : Nat → ClassId) (dI : Nat → Nat → Nat) (o : Nat) (a q r : Nat → Nat) (cI cG : ClassId) (la : mcLA) (n v : Nat) (C G X D : Nat → Nat) (B : Nat → Nat → Int) (bu : Nat → Nat) (lp : mcLP) (cZ cJ : ClassId) (u : Nat) (ov : Nat → Int64) (sz : Nat) (mm oo : Nat) (z : Int) (hm : mm < n) (ho : oo < n) (hn : n ≤ 12) (hne : ¬ nI mm = nI oo) (hz : (-5000) ≤ iI z ∧ iI z ≤ 5000) : Met l yL_bonus wdL_bonus ({ frames := 3, cells := 0, slots := 0, locals := 67 }) (wrP (dC, dI) mcCl (mcWL o a q r cI cG la n v C G X D B bu lp u cJ ov) (mcT4 cI cG cZ cJ) sz [.ref o, .int (nI mm), .int (nI oo), .int (iI z), .ref u]) (wrXi (fun z9 (x : Int32 × Unit) => z9 = 0 ∧ (x.1 = iI (B mm oo))) (fun x => mcWL o a q r cI cG la n (v + 1) C G X D (mcB2 (mcB2 B mm oo z) oo mm z) bu lp u cJ (vp_updL ov 0 x.1.toInt64)) (dC, dI) mcCl (mcWL o a q r cI cG la n v C G X D B bu lp u cJ ov) (mcT4 cI cG cZ cJ) sz) 0 0 (va_A (mcWL o a q r cI cG la n v C G X D B bu lp u cJ ov) sz) := by
  unfold wrXi
  refine va_MetW (cc := bL_bonus) (maxL := 6) (ret := (some FieldType.int)) (by decide) rfl ?_
  intro p e s m args below meth c s₁ BB hml hv
  obtain ⟨rfl, hsz, hP, hK, hD0⟩ := hv
  have hx := BB.exec
  have hb := BB.bytes
  have hr := BB.returns
  have hts := atoms_spec (ws := wdL_bonus) BB.pre
  have hown : s.vm.findClass RL = some m.cls := findClass_of_methodNamed BB.named
  have hlocks := BB.notSynchronized
  subst hsz
  have hD := hD0.self (sz := s.heap.size)
  generalize hAe : va_A (mcWL o a q r cI cG la n v C G X D B bu lp u cJ ov) s.heap.size = A at hD ⊢
  have hA : ∀ q : Nat, s.heap.size ≤ q → A q := fun q h => by rw [← hAe]; exact Or.inr h
  have hS : va_S A s.heap s.heap [] := va_S.rf
  have hK2 := hK.sub (tys' := (mcTH cI cG)) [0, 1] rfl
  have hl := lv_entry ([.ref o, .int (nI mm), .int (nI oo), .int (iI z), .ref u]) (n := 6) (Nat.le_of_ble_eq_true rfl)
  rw [lg_entry_eq]
  generalize (lg_sl ([.ref o, .int (nI mm), .int (nI oo), .int (iI z), .ref u]) ++ List.replicate (6 - (lg_sl ([.ref o, .int (nI mm), .int (nI oo), .int (iI z), .ref u])).length) Slot.unset).toArray = ls at hl ⊢
  have hl : lv_has ls 6 [(0, .ref o), (1, .int (nI mm)), (2, .int (nI oo)), (3, .int (iI z)), (4, .ref u)] := hl
  refine lv_aload hx hb dL_bonus_0 (lv_at hl 4 rfl) ?_
  refine lv_iconst (v := 0) hx hb dL_bonus_2 (by decide) ?_
  refine lv_aload_n hx hb dL_bonus_3 rfl (lv_at hl 0 rfl) ?_
  refine lv_iload_n hx hb dL_bonus_4 rfl (lv_at hl 1 rfl) ?_
  refine lv_iload_n hx hb dL_bonus_5 rfl (lv_at hl 2 rfl) ?_
  refine lv_iload_n hx hb dL_bonus_6 rfl (lv_at hl 3 rfl) ?_
  refine callWXi (As := [.int (nI mm), .int (nI oo), .int (iI z)]) (rest := [.int 0, .ref u]) ⟨hx, hb, hml, hown, hts⟩ tlB (c_M_bonus_ok l dC dI o a q r cI cG la n v C G X D B bu lp s.heap.size mm oo z hm ho hn hne hz) kw319 kw320 kw321 kw25 kw322 ⟨rfl, rfl⟩ (n := 3) (by decide +kernel) ⟨Nat.le_of_ble_eq_true rfl, Nat.le_of_ble_eq_true rfl⟩ hP.lft hK2 hD.lft hS (va_freeL hD hS hA) (ci := 3) (q0 := 0) rfl rfl rfl hl.1 rfl (Nat.le_of_ble_eq_true rfl) ⟨Nat.le_of_ble_eq_true rfl, Nat.le_of_ble_eq_true rfl⟩ dL_bonus_7 (fun r1 x1 H1 locs1 hr1 hP1 hD1 hk1 hS1 => ?_)
  obtain ⟨hP, hD⟩ := va_jnL hP hD hk1 (va_freeL hD hS hA) hP1 hD1
  have hS := hS1
  refine lv_i2l (v := (r1).toInt64) hx hb dL_bonus_10 rfl ?_
  refine va_last hx hb hK hP hD hS 37 3 rfl rfl (i := 0) (vp_in_nI (n := 0) (N := 1) (by decide) (by decide)) dL_bonus_11 (fun H locs hP hD hS => ?_)
  have hP : va_P (dC, dI) mcCl (mcWL o a q r cI cG la n (v + 1) C G X D (mcB2 (mcB2 B mm oo z) oo mm z) bu lp u cJ (vp_updL ov 0 r1.toInt64)) H := hP
  have hD : va_D A (mcWL o a q r cI cG la n (v + 1) C G X D (mcB2 (mcB2 B mm oo z) oo mm z) bu lp u cJ (vp_updL ov 0 r1.toInt64)) := hD
  refine lv_goto (tgt := 19) hx hb dL_bonus_12 (by decide) ?_
  refine lv_iconst (v := 0) hx hb dL_bonus_19 (by decide) ?_
  exact W.iret (v := 0) hx hb hr (fun t ht hW => ⟨⟨0, (r1, x1), rfl, ⟨rfl, hr1⟩, by rw [ht]; exact hP, va_K.moved hW.alike hK, hD⟩, hS.F ht⟩) hS.2.2 dL_bonus_20
set_option maxHeartbeats 4000000 in
set_option maxRecDepth 100000 in
theorem c_L_lawful_ok (l : Launch) (dC : Nat → ClassId) (dI : Nat → Nat → Nat) (o : Nat) (a q r : Nat → Nat) (cI cG : ClassId) (la : mcLA) (n v : Nat) (C G X D : Nat → Nat) (B : Nat → Nat → Int) (bu : Nat → Nat) (lp : mcLP) (cZ cJ : ClassId) (u : Nat) (ov : Nat → Int64) (sz : Nat) (S : Nat) (hSn : S < 2 ^ n) (hn : n ≤ 12) (hX : ∀ m, X m < 4096) (hDD : ∀ m, D m < 4096) : Met l yL_lawful wdL_lawful ({ frames := 3, cells := 0, slots := 0, locals := 64 }) (wrP (dC, dI) mcCl (mcWL o a q r cI cG la n v C G X D B bu lp u cJ ov) (mcT4 cI cG cZ cJ) sz [.ref o, .int (nI S), .ref u]) (wrXi (fun z9 (x : Int32 × Unit) => z9 = 0 ∧ (mcZ (mc_law n X D S) x.1)) (fun x => mcWL o a q r cI cG la n v C G X D B bu lp u cJ (vp_updL ov 0 (if x.1 = 0 then 0 else 1))) (dC, dI) mcCl (mcWL o a q r cI cG la n v C G X D B bu lp u cJ ov) (mcT4 cI cG cZ cJ) sz) 0 0 (va_A (mcWL o a q r cI cG la n v C G X D B bu lp u cJ ov) sz) := by
  unfold wrXi
  refine va_MetW (cc := bL_lawful) (maxL := 4) (ret := (some FieldType.int)) (by decide) rfl ?_
  intro p e s m args below meth c s₁ BB hml hv
  obtain ⟨rfl, hsz, hP, hK, hD0⟩ := hv
  have hx := BB.exec
  have hb := BB.bytes
  have hr := BB.returns
  have hts := atoms_spec (ws := wdL_lawful) BB.pre
  have hown : s.vm.findClass RL = some m.cls := findClass_of_methodNamed BB.named
  have hlocks := BB.notSynchronized
  subst hsz
  have hD := hD0.self (sz := s.heap.size)
  generalize hAe : va_A (mcWL o a q r cI cG la n v C G X D B bu lp u cJ ov) s.heap.size = A at hD ⊢
  have hA : ∀ q : Nat, s.heap.size ≤ q → A q := fun q h => by rw [← hAe]; exact Or.inr h
  have hS : va_S A s.heap s.heap [] := va_S.rf
  have hK2 := hK.sub (tys' := (mcTH cI cG)) [0, 1] rfl
  have hl := lv_entry ([.ref o, .int (nI S), .ref u]) (n := 4) (Nat.le_of_ble_eq_true rfl)
  rw [lg_entry_eq]
  generalize (lg_sl ([.ref o, .int (nI S), .ref u]) ++ List.replicate (4 - (lg_sl ([.ref o, .int (nI S), .ref u])).length) Slot.unset).toArray = ls at hl ⊢
  have hl : lv_has ls 4 [(0, .ref o), (1, .int (nI S)), (2, .ref u)] := hl
  refine lv_aload_n hx hb dL_lawful_0 rfl (lv_at hl 2 rfl) ?_
  refine lv_iconst (v := 0) hx hb dL_lawful_1 (by decide) ?_
  refine lv_aload_n hx hb dL_lawful_2 rfl (lv_at hl 0 rfl) ?_
  refine lv_iload_n hx hb dL_lawful_3 rfl (lv_at hl 1 rfl) ?_
  refine callRV (As := [.int (nI S)]) (rest := [.int 0, .ref u]) ⟨hx, hb, hml, hown, hts⟩ tlB (c_M_lawful_ok l dC dI o a q r cI cG la n v C G X D B bu lp S hSn hn hX hDD) kw330 kw331 kw332 kw25 kw333 ⟨rfl, rfl⟩ (n := 1) (by decide +kernel) ⟨Nat.le_of_ble_eq_true rfl, Nat.le_of_ble_eq_true rfl⟩ (roP_preV hP.lft hK2 (ci := 3) (q0 := 0) rfl rfl) rfl hl.1 rfl (Nat.le_of_ble_eq_true rfl) ⟨Nat.le_of_ble_eq_true rfl, Nat.le_of_ble_eq_true rfl⟩ dL_lawful_4 (fun r1 hr1 => ?_)
  refine lv_if_eq (tgt := 14) hx hb dL_lawful_7 (by decide) (fun c1 => ?_) (fun c1 => ?_)
  ·
    refine lv_lconst (v := 0) hx hb dL_lawful_14 (by decide) ?_
    refine va_last hx hb hK hP hD hS 37 3 rfl rfl (i := 0) (vp_in_nI (n := 0) (N := 1) (by decide) (by decide)) dL_lawful_15 (fun H locs hP hD hS => ?_)
    have hP : va_P (dC, dI) mcCl (mcWL o a q r cI cG la n v C G X D B bu lp u cJ (vp_updL ov 0 0)) H := hP
    have hD : va_D A (mcWL o a q r cI cG la n v C G X D B bu lp u cJ (vp_updL ov 0 0)) := hD
    refine lv_goto (tgt := 22) hx hb dL_lawful_16 (by decide) ?_
    refine lv_iconst (v := 0) hx hb dL_lawful_22 (by decide) ?_
    exact W.iret (v := 0) hx hb hr (fun t ht hW => ⟨⟨0, (r1, ()), rfl, ⟨rfl, hr1⟩, by rw [ht]; dsimp only; rw [if_pos c1]; exact hP, va_K.moved hW.alike hK, by dsimp only; rw [if_pos c1]; exact hD⟩, hS.F ht⟩) hS.2.2 dL_lawful_23
  ·
    refine lv_lconst (v := 1) hx hb dL_lawful_10 (by decide) ?_
    refine lv_goto (tgt := 15) hx hb dL_lawful_11 (by decide) ?_
    refine va_last hx hb hK hP hD hS 37 3 rfl rfl (i := 0) (vp_in_nI (n := 0) (N := 1) (by decide) (by decide)) dL_lawful_15 (fun H locs hP hD hS => ?_)
    have hP : va_P (dC, dI) mcCl (mcWL o a q r cI cG la n v C G X D B bu lp u cJ (vp_updL ov 0 1)) H := hP
    have hD : va_D A (mcWL o a q r cI cG la n v C G X D B bu lp u cJ (vp_updL ov 0 1)) := hD
    refine lv_goto (tgt := 22) hx hb dL_lawful_16 (by decide) ?_
    refine lv_iconst (v := 0) hx hb dL_lawful_22 (by decide) ?_
    exact W.iret (v := 0) hx hb hr (fun t ht hW => ⟨⟨0, (r1, ()), rfl, ⟨rfl, hr1⟩, by rw [ht]; dsimp only; rw [if_neg c1]; exact hP, va_K.moved hW.alike hK, by dsimp only; rw [if_neg c1]; exact hD⟩, hS.F ht⟩) hS.2.2 dL_lawful_23
set_option maxHeartbeats 4000000 in
set_option maxRecDepth 100000 in
theorem c_L_told_ok0 (l : Launch) (dC : Nat → ClassId) (dI : Nat → Nat → Nat) (o : Nat) (a q r : Nat → Nat) (cI cG : ClassId) (la : mcLA) (n v : Nat) (C G X D : Nat → Nat) (B : Nat → Nat → Int) (bu : Nat → Nat) (lp : mcLP) (cZ cJ : ClassId) (u : Nat) (ov : Nat → Int64) (sz : Nat) (S : Nat) (hSn : S < 2 ^ n) (hn : n ≤ 12) : Met l yL_told wdL_told ({ frames := 4, cells := 0, slots := 0, locals := 90 }) (wrP (dC, dI) mcCl (mcWL o a q r cI cG la n v C G X D B bu lp u cJ ov) (mcT4 cI cG cZ cJ) sz [.ref o, .int (nI S), .int 0, .ref u]) (wrXi (fun z9 (x : Int32 × Unit) => z9 = 0 ∧ (x.1 = nI (mc_cost C S n))) (fun x => mcWL o a q r cI cG la n v C G X D B bu lp u cJ (vp_updL ov 0 x.1.toInt64)) (dC, dI) mcCl (mcWL o a q r cI cG la n v C G X D B bu lp u cJ ov) (mcT4 cI cG cZ cJ) sz) 0 0 (va_A (mcWL o a q r cI cG la n v C G X D B bu lp u cJ ov) sz) := by
  unfold wrXi
  refine va_MetW (cc := bL_told) (maxL := 5) (ret := (some FieldType.int)) (by decide) rfl ?_
  intro p e s m args below meth c s₁ BB hml hv
  obtain ⟨rfl, hsz, hP, hK, hD0⟩ := hv
  have hx := BB.exec
  have hb := BB.bytes
  have hr := BB.returns
  have hts := atoms_spec (ws := wdL_told) BB.pre
  have hown : s.vm.findClass RL = some m.cls := findClass_of_methodNamed BB.named
  have hlocks := BB.notSynchronized
  subst hsz
  have hD := hD0.self (sz := s.heap.size)
  generalize hAe : va_A (mcWL o a q r cI cG la n v C G X D B bu lp u cJ ov) s.heap.size = A at hD ⊢
  have hA : ∀ q : Nat, s.heap.size ≤ q → A q := fun q h => by rw [← hAe]; exact Or.inr h
  have hS : va_S A s.heap s.heap [] := va_S.rf
  have hK2 := hK.sub (tys' := (mcTH cI cG)) [0, 1] rfl
  have hl := lv_entry ([.ref o, .int (nI S), .int 0, .ref u]) (n := 5) (Nat.le_of_ble_eq_true rfl)
  rw [lg_entry_eq]
  generalize (lg_sl ([.ref o, .int (nI S), .int 0, .ref u]) ++ List.replicate (5 - (lg_sl ([.ref o, .int (nI S), .int 0, .ref u])).length) Slot.unset).toArray = ls at hl ⊢
  have hl : lv_has ls 5 [(0, .ref o), (1, .int (nI S)), (2, .int 0), (3, .ref u)] := hl
  refine lv_aload_n hx hb dL_told_0 rfl (lv_at hl 3 rfl) ?_
  refine lv_iconst (v := 0) hx hb dL_told_1 (by decide) ?_
  refine lv_aload_n hx hb dL_told_2 rfl (lv_at hl 0 rfl) ?_
  refine lv_iload_n hx hb dL_told_3 rfl (lv_at hl 1 rfl) ?_
  refine lv_iload_n hx hb dL_told_4 rfl (lv_at hl 2 rfl) ?_
  refine callRV (As := [.int (nI S), .int 0]) (rest := [.int 0, .ref u]) ⟨hx, hb, hml, hown, hts⟩ tlB (c_M_told_ok0 l dC dI o a q r cI cG la n v C G X D B bu lp S hSn hn) kw341 kw342 kw343 kw25 kw344 ⟨rfl, rfl⟩ (n := 2) (by decide +kernel) ⟨Nat.le_of_ble_eq_true rfl, Nat.le_of_ble_eq_true rfl⟩ (roP_preV hP.lft hK2 (ci := 3) (q0 := 0) rfl rfl) rfl hl.1 rfl (Nat.le_of_ble_eq_true rfl) ⟨Nat.le_of_ble_eq_true rfl, Nat.le_of_ble_eq_true rfl⟩ dL_told_5 (fun r1 hr1 => ?_)
  refine lv_i2l (v := (r1).toInt64) hx hb dL_told_8 rfl ?_
  refine va_last hx hb hK hP hD hS 37 3 rfl rfl (i := 0) (vp_in_nI (n := 0) (N := 1) (by decide) (by decide)) dL_told_9 (fun H locs hP hD hS => ?_)
  have hP : va_P (dC, dI) mcCl (mcWL o a q r cI cG la n v C G X D B bu lp u cJ (vp_updL ov 0 r1.toInt64)) H := hP
  have hD : va_D A (mcWL o a q r cI cG la n v C G X D B bu lp u cJ (vp_updL ov 0 r1.toInt64)) := hD
  refine lv_goto (tgt := 17) hx hb dL_told_10 (by decide) ?_
  refine lv_iconst (v := 0) hx hb dL_told_17 (by decide) ?_
  exact W.iret (v := 0) hx hb hr (fun t ht hW => ⟨⟨0, (r1, ()), rfl, ⟨rfl, hr1⟩, by rw [ht]; exact hP, va_K.moved hW.alike hK, hD⟩, hS.F ht⟩) hS.2.2 dL_told_18
set_option maxHeartbeats 4000000 in
set_option maxRecDepth 100000 in
theorem c_L_told_ok1 (l : Launch) (dC : Nat → ClassId) (dI : Nat → Nat → Nat) (o : Nat) (a q r : Nat → Nat) (cI cG : ClassId) (la : mcLA) (n v : Nat) (C G X D : Nat → Nat) (B : Nat → Nat → Int) (bu : Nat → Nat) (lp : mcLP) (cZ cJ : ClassId) (u : Nat) (ov : Nat → Int64) (sz : Nat) (S : Nat) (hSn : S < 2 ^ n) (hn : n ≤ 12) : Met l yL_told wdL_told ({ frames := 4, cells := 0, slots := 0, locals := 90 }) (wrP (dC, dI) mcCl (mcWL o a q r cI cG la n v C G X D B bu lp u cJ ov) (mcT4 cI cG cZ cJ) sz [.ref o, .int (nI S), .int 1, .ref u]) (wrXi (fun z9 (x : Int32 × Unit) => z9 = 0 ∧ (x.1 = iI (mc_gain G B S n))) (fun x => mcWL o a q r cI cG la n v C G X D B bu lp u cJ (vp_updL ov 0 x.1.toInt64)) (dC, dI) mcCl (mcWL o a q r cI cG la n v C G X D B bu lp u cJ ov) (mcT4 cI cG cZ cJ) sz) 0 0 (va_A (mcWL o a q r cI cG la n v C G X D B bu lp u cJ ov) sz) := by
  unfold wrXi
  refine va_MetW (cc := bL_told) (maxL := 5) (ret := (some FieldType.int)) (by decide) rfl ?_
  intro p e s m args below meth c s₁ BB hml hv
  obtain ⟨rfl, hsz, hP, hK, hD0⟩ := hv
  have hx := BB.exec
  have hb := BB.bytes
  have hr := BB.returns
  have hts := atoms_spec (ws := wdL_told) BB.pre
  have hown : s.vm.findClass RL = some m.cls := findClass_of_methodNamed BB.named
  have hlocks := BB.notSynchronized
  subst hsz
  have hD := hD0.self (sz := s.heap.size)
  generalize hAe : va_A (mcWL o a q r cI cG la n v C G X D B bu lp u cJ ov) s.heap.size = A at hD ⊢
  have hA : ∀ q : Nat, s.heap.size ≤ q → A q := fun q h => by rw [← hAe]; exact Or.inr h
  have hS : va_S A s.heap s.heap [] := va_S.rf
  have hK2 := hK.sub (tys' := (mcTH cI cG)) [0, 1] rfl
  have hl := lv_entry ([.ref o, .int (nI S), .int 1, .ref u]) (n := 5) (Nat.le_of_ble_eq_true rfl)
  rw [lg_entry_eq]
  generalize (lg_sl ([.ref o, .int (nI S), .int 1, .ref u]) ++ List.replicate (5 - (lg_sl ([.ref o, .int (nI S), .int 1, .ref u])).length) Slot.unset).toArray = ls at hl ⊢
  have hl : lv_has ls 5 [(0, .ref o), (1, .int (nI S)), (2, .int 1), (3, .ref u)] := hl
  refine lv_aload_n hx hb dL_told_0 rfl (lv_at hl 3 rfl) ?_
  refine lv_iconst (v := 0) hx hb dL_told_1 (by decide) ?_
  refine lv_aload_n hx hb dL_told_2 rfl (lv_at hl 0 rfl) ?_
  refine lv_iload_n hx hb dL_told_3 rfl (lv_at hl 1 rfl) ?_
  refine lv_iload_n hx hb dL_told_4 rfl (lv_at hl 2 rfl) ?_
  refine callRV (As := [.int (nI S), .int 1]) (rest := [.int 0, .ref u]) ⟨hx, hb, hml, hown, hts⟩ tlB (c_M_told_ok1 l dC dI o a q r cI cG la n v C G X D B bu lp S hSn hn) kw341 kw342 kw343 kw25 kw344 ⟨rfl, rfl⟩ (n := 2) (by decide +kernel) ⟨Nat.le_of_ble_eq_true rfl, Nat.le_of_ble_eq_true rfl⟩ (roP_preV hP.lft hK2 (ci := 3) (q0 := 0) rfl rfl) rfl hl.1 rfl (Nat.le_of_ble_eq_true rfl) ⟨Nat.le_of_ble_eq_true rfl, Nat.le_of_ble_eq_true rfl⟩ dL_told_5 (fun r1 hr1 => ?_)
  refine lv_i2l (v := (r1).toInt64) hx hb dL_told_8 rfl ?_
  refine va_last hx hb hK hP hD hS 37 3 rfl rfl (i := 0) (vp_in_nI (n := 0) (N := 1) (by decide) (by decide)) dL_told_9 (fun H locs hP hD hS => ?_)
  have hP : va_P (dC, dI) mcCl (mcWL o a q r cI cG la n v C G X D B bu lp u cJ (vp_updL ov 0 r1.toInt64)) H := hP
  have hD : va_D A (mcWL o a q r cI cG la n v C G X D B bu lp u cJ (vp_updL ov 0 r1.toInt64)) := hD
  refine lv_goto (tgt := 17) hx hb dL_told_10 (by decide) ?_
  refine lv_iconst (v := 0) hx hb dL_told_17 (by decide) ?_
  exact W.iret (v := 0) hx hb hr (fun t ht hW => ⟨⟨0, (r1, ()), rfl, ⟨rfl, hr1⟩, by rw [ht]; exact hP, va_K.moved hW.alike hK, hD⟩, hS.F ht⟩) hS.2.2 dL_told_18
set_option maxHeartbeats 4000000 in
set_option maxRecDepth 100000 in
theorem c_L_closure_ok (l : Launch) (dC : Nat → ClassId) (dI : Nat → Nat → Nat) (o : Nat) (a q r : Nat → Nat) (cI cG : ClassId) (la : mcLA) (n v : Nat) (C G X D : Nat → Nat) (B : Nat → Nat → Int) (bu : Nat → Nat) (lp : mcLP) (cZ cJ : ClassId) (u : Nat) (ov : Nat → Int64) (sz : Nat) (mm : Nat) (hm : mm < n) (hn : n ≤ 12) (hDn : ∀ m j, (D m).testBit j = true → j < n) : Met l yL_closure wdL_closure ({ frames := 4, cells := 0, slots := 0, locals := 88 }) (wrP (dC, dI) mcCl (mcWL o a q r cI cG la n v C G X D B bu lp u cJ ov) (mcT4 cI cG cZ cJ) sz [.ref o, .int (nI mm), .ref u]) (wrXi (fun z9 (x : Int32 × Unit) => z9 = 0 ∧ (∃ S9, x.1 = nI S9 ∧ mc_clo n D mm S9)) (fun x => mcWL o a q r cI cG la n v C G X D B bu lp u cJ (vp_updL ov 0 x.1.toInt64)) (dC, dI) mcCl (mcWL o a q r cI cG la n v C G X D B bu lp u cJ ov) (mcT4 cI cG cZ cJ) sz) 0 0 (va_A (mcWL o a q r cI cG la n v C G X D B bu lp u cJ ov) sz) := by
  unfold wrXi
  refine va_MetW (cc := bL_closure) (maxL := 4) (ret := (some FieldType.int)) (by decide) rfl ?_
  intro p e s m args below meth c s₁ BB hml hv
  obtain ⟨rfl, hsz, hP, hK, hD0⟩ := hv
  have hx := BB.exec
  have hb := BB.bytes
  have hr := BB.returns
  have hts := atoms_spec (ws := wdL_closure) BB.pre
  have hown : s.vm.findClass RL = some m.cls := findClass_of_methodNamed BB.named
  have hlocks := BB.notSynchronized
  subst hsz
  have hD := hD0.self (sz := s.heap.size)
  generalize hAe : va_A (mcWL o a q r cI cG la n v C G X D B bu lp u cJ ov) s.heap.size = A at hD ⊢
  have hA : ∀ q : Nat, s.heap.size ≤ q → A q := fun q h => by rw [← hAe]; exact Or.inr h
  have hS : va_S A s.heap s.heap [] := va_S.rf
  have hK2 := hK.sub (tys' := (mcTH cI cG)) [0, 1] rfl
  have hl := lv_entry ([.ref o, .int (nI mm), .ref u]) (n := 4) (Nat.le_of_ble_eq_true rfl)
  rw [lg_entry_eq]
  generalize (lg_sl ([.ref o, .int (nI mm), .ref u]) ++ List.replicate (4 - (lg_sl ([.ref o, .int (nI mm), .ref u])).length) Slot.unset).toArray = ls at hl ⊢
  have hl : lv_has ls 4 [(0, .ref o), (1, .int (nI mm)), (2, .ref u)] := hl
  refine lv_aload_n hx hb dL_closure_0 rfl (lv_at hl 2 rfl) ?_
  refine lv_iconst (v := 0) hx hb dL_closure_1 (by decide) ?_
  refine lv_aload_n hx hb dL_closure_2 rfl (lv_at hl 0 rfl) ?_
  refine lv_iload_n hx hb dL_closure_3 rfl (lv_at hl 1 rfl) ?_
  refine callRV (As := [.int (nI mm)]) (rest := [.int 0, .ref u]) ⟨hx, hb, hml, hown, hts⟩ tlB (c_M_closure_ok l dC dI o a q r cI cG la n v C G X D B bu lp mm hm hn hDn) kw359 kw360 kw361 kw25 kw362 ⟨rfl, rfl⟩ (n := 1) (by decide +kernel) ⟨Nat.le_of_ble_eq_true rfl, Nat.le_of_ble_eq_true rfl⟩ (roP_preV hP.lft hK2 (ci := 3) (q0 := 0) rfl rfl) rfl hl.1 rfl (Nat.le_of_ble_eq_true rfl) ⟨Nat.le_of_ble_eq_true rfl, Nat.le_of_ble_eq_true rfl⟩ dL_closure_4 (fun r1 hr1 => ?_)
  refine lv_i2l (v := (r1).toInt64) hx hb dL_closure_7 rfl ?_
  refine va_last hx hb hK hP hD hS 37 3 rfl rfl (i := 0) (vp_in_nI (n := 0) (N := 1) (by decide) (by decide)) dL_closure_8 (fun H locs hP hD hS => ?_)
  have hP : va_P (dC, dI) mcCl (mcWL o a q r cI cG la n v C G X D B bu lp u cJ (vp_updL ov 0 r1.toInt64)) H := hP
  have hD : va_D A (mcWL o a q r cI cG la n v C G X D B bu lp u cJ (vp_updL ov 0 r1.toInt64)) := hD
  refine lv_goto (tgt := 15) hx hb dL_closure_9 (by decide) ?_
  refine lv_iconst (v := 0) hx hb dL_closure_15 (by decide) ?_
  exact W.iret (v := 0) hx hb hr (fun t ht hW => ⟨⟨0, (r1, ()), rfl, ⟨rfl, hr1⟩, by rw [ht]; exact hP, va_K.moved hW.alike hK, hD⟩, hS.F ht⟩) hS.2.2 dL_closure_16
set_option maxHeartbeats 4000000 in
set_option maxRecDepth 100000 in
theorem c_L_best_ok (l : Launch) (dC : Nat → ClassId) (dI : Nat → Nat → Nat) (o : Nat) (a q r : Nat → Nat) (cI cG : ClassId) (la : mcLA) (n v : Nat) (C G X D : Nat → Nat) (B : Nat → Nat → Int) (bu : Nat → Nat) (lp : mcLP) (cZ cJ : ClassId) (u : Nat) (ov : Nat → Int64) (sz : Nat) (b : Nat) (hb9 : b < 2 ^ 31) (hn : n ≤ 12) (hC : ∀ m, C m ≤ 10000) (hG : ∀ m, G m ≤ 10000) (hB : ∀ i j, -5000 ≤ B i j ∧ B i j ≤ 5000) (hX : ∀ m, X m < 4096) (hDD : ∀ m, D m < 4096) (hv3 : v < 2147483648) (hIA : mcIA n v C G X D B la) : Met l yL_best wdL_best ({ frames := 5, cells := 0, slots := 0, locals := 109 }) (wrP (dC, dI) mcCl (mcWL o a q r cI cG la n v C G X D B bu lp u cJ ov) (mcT4 cI cG cZ cJ) sz [.ref o, .int (nI b), .ref u]) (wrXi (fun z9 (x : Int32 × mcLA) => z9 = 0 ∧ ((∃ s9, x.1 = nI s9 ∧ mc_bst n C G X D B b (2 ^ n) s9) ∧ mcIA n v C G X D B x.2)) (fun x => mcWL o a q r cI cG x.2 n v C G X D B bu lp u cJ (vp_updL ov 0 x.1.toInt64)) (dC, dI) mcCl (mcWL o a q r cI cG la n v C G X D B bu lp u cJ ov) (mcT4 cI cG cZ cJ) sz) 0 0 (va_A (mcWL o a q r cI cG la n v C G X D B bu lp u cJ ov) sz) := by
  unfold wrXi
  refine va_MetW (cc := bL_best) (maxL := 4) (ret := (some FieldType.int)) (by decide) rfl ?_
  intro p e s m args below meth c s₁ BB hml hv
  obtain ⟨rfl, hsz, hP, hK, hD0⟩ := hv
  have hx := BB.exec
  have hb := BB.bytes
  have hr := BB.returns
  have hts := atoms_spec (ws := wdL_best) BB.pre
  have hown : s.vm.findClass RL = some m.cls := findClass_of_methodNamed BB.named
  have hlocks := BB.notSynchronized
  subst hsz
  have hD := hD0.self (sz := s.heap.size)
  generalize hAe : va_A (mcWL o a q r cI cG la n v C G X D B bu lp u cJ ov) s.heap.size = A at hD ⊢
  have hA : ∀ q : Nat, s.heap.size ≤ q → A q := fun q h => by rw [← hAe]; exact Or.inr h
  have hS : va_S A s.heap s.heap [] := va_S.rf
  have hK2 := hK.sub (tys' := (mcTH cI cG)) [0, 1] rfl
  have hl := lv_entry ([.ref o, .int (nI b), .ref u]) (n := 4) (Nat.le_of_ble_eq_true rfl)
  rw [lg_entry_eq]
  generalize (lg_sl ([.ref o, .int (nI b), .ref u]) ++ List.replicate (4 - (lg_sl ([.ref o, .int (nI b), .ref u])).length) Slot.unset).toArray = ls at hl ⊢
  have hl : lv_has ls 4 [(0, .ref o), (1, .int (nI b)), (2, .ref u)] := hl
  refine lv_aload_n hx hb dL_best_0 rfl (lv_at hl 2 rfl) ?_
  refine lv_iconst (v := 0) hx hb dL_best_1 (by decide) ?_
  refine lv_aload_n hx hb dL_best_2 rfl (lv_at hl 0 rfl) ?_
  refine lv_iload_n hx hb dL_best_3 rfl (lv_at hl 1 rfl) ?_
  refine callWXi (As := [.int (nI b)]) (rest := [.int 0, .ref u]) ⟨hx, hb, hml, hown, hts⟩ tlB (c_M_best_ok l dC dI o a q r cI cG la n v C G X D B bu lp s.heap.size b hb9 hn hC hG hB hX hDD hv3 hIA) kw373 kw374 kw375 kw25 kw376 ⟨rfl, rfl⟩ (n := 1) (by decide +kernel) ⟨Nat.le_of_ble_eq_true rfl, Nat.le_of_ble_eq_true rfl⟩ hP.lft hK2 hD.lft hS (va_freeL hD hS hA) (ci := 3) (q0 := 0) rfl rfl rfl hl.1 rfl (Nat.le_of_ble_eq_true rfl) ⟨Nat.le_of_ble_eq_true rfl, Nat.le_of_ble_eq_true rfl⟩ dL_best_4 (fun r1 x1 H1 locs1 hr1 hP1 hD1 hk1 hS1 => ?_)
  obtain ⟨hP, hD⟩ := va_jnL hP hD hk1 (va_freeL hD hS hA) hP1 hD1
  have hS := hS1
  refine lv_i2l (v := (r1).toInt64) hx hb dL_best_7 rfl ?_
  refine va_last hx hb hK hP hD hS 37 3 rfl rfl (i := 0) (vp_in_nI (n := 0) (N := 1) (by decide) (by decide)) dL_best_8 (fun H locs hP hD hS => ?_)
  have hP : va_P (dC, dI) mcCl (mcWL o a q r cI cG x1 n v C G X D B bu lp u cJ (vp_updL ov 0 r1.toInt64)) H := hP
  have hD : va_D A (mcWL o a q r cI cG x1 n v C G X D B bu lp u cJ (vp_updL ov 0 r1.toInt64)) := hD
  refine lv_goto (tgt := 15) hx hb dL_best_9 (by decide) ?_
  refine lv_iconst (v := 0) hx hb dL_best_15 (by decide) ?_
  exact W.iret (v := 0) hx hb hr (fun t ht hW => ⟨⟨0, (r1, x1), rfl, ⟨rfl, hr1⟩, by rw [ht]; exact hP, va_K.moved hW.alike hK, hD⟩, hS.F ht⟩) hS.2.2 dL_best_16
set_option maxHeartbeats 4000000 in
set_option maxRecDepth 100000 in
theorem c_L_worth_ok (l : Launch) (dC : Nat → ClassId) (dI : Nat → Nat → Nat) (o : Nat) (a q r : Nat → Nat) (cI cG : ClassId) (la : mcLA) (n v : Nat) (C G X D : Nat → Nat) (B : Nat → Nat → Int) (bu : Nat → Nat) (lp : mcLP) (cZ cJ : ClassId) (u : Nat) (ov : Nat → Int64) (sz : Nat) (b mr : Nat) (hb9 : b + mr ≤ 1000000) (hn : n ≤ 12) (hC : ∀ m, C m ≤ 10000) (hG : ∀ m, G m ≤ 10000) (hB : ∀ i j, -5000 ≤ B i j ∧ B i j ≤ 5000) (hX : ∀ m, X m < 4096) (hDD : ∀ m, D m < 4096) (hv3 : v < 2147483648) (hIA : mcIA n v C G X D B la) : Met l yL_worth wdL_worth ({ frames := 5, cells := 0, slots := 0, locals := 111 }) (wrP (dC, dI) mcCl (mcWL o a q r cI cG la n v C G X D B bu lp u cJ ov) (mcT4 cI cG cZ cJ) sz [.ref o, .int (nI b), .int (nI mr), .ref u]) (wrXi (fun z9 (x : Int32 × mcLA) => z9 = 0 ∧ ((∃ s1 s2, x.1 = iI (mc_gain G B s1 n - mc_gain G B s2 n) ∧ mc_bst n C G X D B (b + mr) (2 ^ n) s1 ∧ mc_bst n C G X D B b (2 ^ n) s2) ∧ mcIA n v C G X D B x.2)) (fun x => mcWL o a q r cI cG x.2 n v C G X D B bu lp u cJ (vp_updL ov 0 x.1.toInt64)) (dC, dI) mcCl (mcWL o a q r cI cG la n v C G X D B bu lp u cJ ov) (mcT4 cI cG cZ cJ) sz) 0 0 (va_A (mcWL o a q r cI cG la n v C G X D B bu lp u cJ ov) sz) := by
  unfold wrXi
  refine va_MetW (cc := bL_worth) (maxL := 5) (ret := (some FieldType.int)) (by decide) rfl ?_
  intro p e s m args below meth c s₁ BB hml hv
  obtain ⟨rfl, hsz, hP, hK, hD0⟩ := hv
  have hx := BB.exec
  have hb := BB.bytes
  have hr := BB.returns
  have hts := atoms_spec (ws := wdL_worth) BB.pre
  have hown : s.vm.findClass RL = some m.cls := findClass_of_methodNamed BB.named
  have hlocks := BB.notSynchronized
  subst hsz
  have hD := hD0.self (sz := s.heap.size)
  generalize hAe : va_A (mcWL o a q r cI cG la n v C G X D B bu lp u cJ ov) s.heap.size = A at hD ⊢
  have hA : ∀ q : Nat, s.heap.size ≤ q → A q := fun q h => by rw [← hAe]; exact Or.inr h
  have hS : va_S A s.heap s.heap [] := va_S.rf
  have hK2 := hK.sub (tys' := (mcTH cI cG)) [0, 1] rfl
  have hl := lv_entry ([.ref o, .int (nI b), .int (nI mr), .ref u]) (n := 5) (Nat.le_of_ble_eq_true rfl)
  rw [lg_entry_eq]
  generalize (lg_sl ([.ref o, .int (nI b), .int (nI mr), .ref u]) ++ List.replicate (5 - (lg_sl ([.ref o, .int (nI b), .int (nI mr), .ref u])).length) Slot.unset).toArray = ls at hl ⊢
  have hl : lv_has ls 5 [(0, .ref o), (1, .int (nI b)), (2, .int (nI mr)), (3, .ref u)] := hl
  refine lv_aload_n hx hb dL_worth_0 rfl (lv_at hl 3 rfl) ?_
  refine lv_iconst (v := 0) hx hb dL_worth_1 (by decide) ?_
  refine lv_aload_n hx hb dL_worth_2 rfl (lv_at hl 0 rfl) ?_
  refine lv_iload_n hx hb dL_worth_3 rfl (lv_at hl 1 rfl) ?_
  refine lv_iload_n hx hb dL_worth_4 rfl (lv_at hl 2 rfl) ?_
  refine callWXi (As := [.int (nI b), .int (nI mr)]) (rest := [.int 0, .ref u]) ⟨hx, hb, hml, hown, hts⟩ tlB (c_M_worth_ok l dC dI o a q r cI cG la n v C G X D B bu lp s.heap.size b mr hb9 hn hC hG hB hX hDD hv3 hIA) kw388 kw389 kw390 kw25 kw391 ⟨rfl, rfl⟩ (n := 2) (by decide +kernel) ⟨Nat.le_of_ble_eq_true rfl, Nat.le_of_ble_eq_true rfl⟩ hP.lft hK2 hD.lft hS (va_freeL hD hS hA) (ci := 3) (q0 := 0) rfl rfl rfl hl.1 rfl (Nat.le_of_ble_eq_true rfl) ⟨Nat.le_of_ble_eq_true rfl, Nat.le_of_ble_eq_true rfl⟩ dL_worth_5 (fun r1 x1 H1 locs1 hr1 hP1 hD1 hk1 hS1 => ?_)
  obtain ⟨hP, hD⟩ := va_jnL hP hD hk1 (va_freeL hD hS hA) hP1 hD1
  have hS := hS1
  refine lv_i2l (v := (r1).toInt64) hx hb dL_worth_8 rfl ?_
  refine va_last hx hb hK hP hD hS 37 3 rfl rfl (i := 0) (vp_in_nI (n := 0) (N := 1) (by decide) (by decide)) dL_worth_9 (fun H locs hP hD hS => ?_)
  have hP : va_P (dC, dI) mcCl (mcWL o a q r cI cG x1 n v C G X D B bu lp u cJ (vp_updL ov 0 r1.toInt64)) H := hP
  have hD : va_D A (mcWL o a q r cI cG x1 n v C G X D B bu lp u cJ (vp_updL ov 0 r1.toInt64)) := hD
  refine lv_goto (tgt := 17) hx hb dL_worth_10 (by decide) ?_
  refine lv_iconst (v := 0) hx hb dL_worth_17 (by decide) ?_
  exact W.iret (v := 0) hx hb hr (fun t ht hW => ⟨⟨0, (r1, x1), rfl, ⟨rfl, hr1⟩, by rw [ht]; exact hP, va_K.moved hW.alike hK, hD⟩, hS.F ht⟩) hS.2.2 dL_worth_18
set_option maxHeartbeats 4000000 in
set_option maxRecDepth 100000 in
theorem c_L_frontier_ok (l : Launch) (dC : Nat → ClassId) (dI : Nat → Nat → Nat) (o : Nat) (a q r : Nat → Nat) (cI cG : ClassId) (la : mcLA) (n v : Nat) (C G X D : Nat → Nat) (B : Nat → Nat → Int) (bu : Nat → Nat) (lp : mcLP) (cZ cJ : ClassId) (u : Nat) (ov : Nat → Int64) (sz : Nat) (k : Nat) (hk9 : k < 2 ^ 31) (hC1 : ∀ m, m < n → 1 ≤ C m) (hn : n ≤ 12) (hC : ∀ m, C m ≤ 10000) (hG : ∀ m, G m ≤ 10000) (hB : ∀ i j, -5000 ≤ B i j ∧ B i j ≤ 5000) (hX : ∀ m, X m < 4096) (hDD : ∀ m, D m < 4096) (hv3 : v < 2147483648) (hIA : mcIA n v C G X D B la) : Met l yL_frontier wdL_frontier ({ frames := 5, cells := 0, slots := 0, locals := 109 }) (wrP (dC, dI) mcCl (mcWL o a q r cI cG la n v C G X D B bu lp u cJ ov) (mcT4 cI cG cZ cJ) sz [.ref o, .int (nI k), .ref u]) (wrXi (fun z9 (x : Int32 × mcLA) => z9 = 0 ∧ (mc_fro n C G X D B k x.1 ∧ mcIA n v C G X D B x.2)) (fun x => mcWL o a q r cI cG x.2 n v C G X D B bu lp u cJ (vp_updL ov 0 x.1.toInt64)) (dC, dI) mcCl (mcWL o a q r cI cG la n v C G X D B bu lp u cJ ov) (mcT4 cI cG cZ cJ) sz) 0 0 (va_A (mcWL o a q r cI cG la n v C G X D B bu lp u cJ ov) sz) := by
  unfold wrXi
  refine va_MetW (cc := bL_frontier) (maxL := 4) (ret := (some FieldType.int)) (by decide) rfl ?_
  intro p e s m args below meth c s₁ BB hml hv
  obtain ⟨rfl, hsz, hP, hK, hD0⟩ := hv
  have hx := BB.exec
  have hb := BB.bytes
  have hr := BB.returns
  have hts := atoms_spec (ws := wdL_frontier) BB.pre
  have hown : s.vm.findClass RL = some m.cls := findClass_of_methodNamed BB.named
  have hlocks := BB.notSynchronized
  subst hsz
  have hD := hD0.self (sz := s.heap.size)
  generalize hAe : va_A (mcWL o a q r cI cG la n v C G X D B bu lp u cJ ov) s.heap.size = A at hD ⊢
  have hA : ∀ q : Nat, s.heap.size ≤ q → A q := fun q h => by rw [← hAe]; exact Or.inr h
  have hS : va_S A s.heap s.heap [] := va_S.rf
  have hK2 := hK.sub (tys' := (mcTH cI cG)) [0, 1] rfl
  have hl := lv_entry ([.ref o, .int (nI k), .ref u]) (n := 4) (Nat.le_of_ble_eq_true rfl)
  rw [lg_entry_eq]
  generalize (lg_sl ([.ref o, .int (nI k), .ref u]) ++ List.replicate (4 - (lg_sl ([.ref o, .int (nI k), .ref u])).length) Slot.unset).toArray = ls at hl ⊢
  have hl : lv_has ls 4 [(0, .ref o), (1, .int (nI k)), (2, .ref u)] := hl
  refine lv_aload_n hx hb dL_frontier_0 rfl (lv_at hl 2 rfl) ?_
  refine lv_iconst (v := 0) hx hb dL_frontier_1 (by decide) ?_
  refine lv_aload_n hx hb dL_frontier_2 rfl (lv_at hl 0 rfl) ?_
  refine lv_iload_n hx hb dL_frontier_3 rfl (lv_at hl 1 rfl) ?_
  refine callWXi (As := [.int (nI k)]) (rest := [.int 0, .ref u]) ⟨hx, hb, hml, hown, hts⟩ tlB (c_M_frontier_ok l dC dI o a q r cI cG la n v C G X D B bu lp s.heap.size k hk9 hC1 hn hC hG hB hX hDD hv3 hIA) kw397 kw398 kw399 kw25 kw400 ⟨rfl, rfl⟩ (n := 1) (by decide +kernel) ⟨Nat.le_of_ble_eq_true rfl, Nat.le_of_ble_eq_true rfl⟩ hP.lft hK2 hD.lft hS (va_freeL hD hS hA) (ci := 3) (q0 := 0) rfl rfl rfl hl.1 rfl (Nat.le_of_ble_eq_true rfl) ⟨Nat.le_of_ble_eq_true rfl, Nat.le_of_ble_eq_true rfl⟩ dL_frontier_4 (fun r1 x1 H1 locs1 hr1 hP1 hD1 hk1 hS1 => ?_)
  obtain ⟨hP, hD⟩ := va_jnL hP hD hk1 (va_freeL hD hS hA) hP1 hD1
  have hS := hS1
  refine lv_i2l (v := (r1).toInt64) hx hb dL_frontier_7 rfl ?_
  refine va_last hx hb hK hP hD hS 37 3 rfl rfl (i := 0) (vp_in_nI (n := 0) (N := 1) (by decide) (by decide)) dL_frontier_8 (fun H locs hP hD hS => ?_)
  have hP : va_P (dC, dI) mcCl (mcWL o a q r cI cG x1 n v C G X D B bu lp u cJ (vp_updL ov 0 r1.toInt64)) H := hP
  have hD : va_D A (mcWL o a q r cI cG x1 n v C G X D B bu lp u cJ (vp_updL ov 0 r1.toInt64)) := hD
  refine lv_goto (tgt := 15) hx hb dL_frontier_9 (by decide) ?_
  refine lv_iconst (v := 0) hx hb dL_frontier_15 (by decide) ?_
  exact W.iret (v := 0) hx hb hr (fun t ht hW => ⟨⟨0, (r1, x1), rfl, ⟨rfl, hr1⟩, by rw [ht]; exact hP, va_K.moved hW.alike hK, hD⟩, hS.F ht⟩) hS.2.2 dL_frontier_16
set_option maxHeartbeats 4000000 in
set_option maxRecDepth 100000 in
theorem c_L_year_ok (l : Launch) (dC : Nat → ClassId) (dI : Nat → Nat → Nat) (o : Nat) (a q r : Nat → Nat) (cI cG : ClassId) (la : mcLA) (n v : Nat) (C G X D : Nat → Nat) (B : Nat → Nat → Int) (bu : Nat → Nat) (lp : mcLP) (cZ cJ : ClassId) (u : Nat) (ov : Nat → Int64) (sz : Nat) (y b : Nat) (hy : y < 4) (h1 : 0 ≤ nI y ∧ nI y ≤ 3) (h2 : 0 ≤ nI b ∧ nI b ≤ 100000) : Met l yL_year wdL_year ({ frames := 2, cells := 0, slots := 0, locals := 45 }) (wrP (dC, dI) mcCl (mcWL o a q r cI cG la n v C G X D B bu lp u cJ ov) (mcT4 cI cG cZ cJ) sz [.ref o, .int (nI y), .int (nI b), .ref u]) (wrXi (fun z9 (x : Int32 × Unit) => z9 = 0 ∧ (x.1 = nI (bu y))) (fun x => mcWL o a q r cI cG la n v C G X D B (va_up bu y b) lp u cJ (vp_updL ov 0 x.1.toInt64)) (dC, dI) mcCl (mcWL o a q r cI cG la n v C G X D B bu lp u cJ ov) (mcT4 cI cG cZ cJ) sz) 0 0 (va_A (mcWL o a q r cI cG la n v C G X D B bu lp u cJ ov) sz) := by
  unfold wrXi
  refine va_MetW (cc := bL_year) (maxL := 5) (ret := (some FieldType.int)) (by decide) rfl ?_
  intro p e s m args below meth c s₁ BB hml hv
  obtain ⟨rfl, hsz, hP, hK, hD0⟩ := hv
  have hx := BB.exec
  have hb := BB.bytes
  have hr := BB.returns
  have hts := atoms_spec (ws := wdL_year) BB.pre
  have hown : s.vm.findClass RL = some m.cls := findClass_of_methodNamed BB.named
  have hlocks := BB.notSynchronized
  subst hsz
  have hD := hD0.self (sz := s.heap.size)
  generalize hAe : va_A (mcWL o a q r cI cG la n v C G X D B bu lp u cJ ov) s.heap.size = A at hD ⊢
  have hA : ∀ q : Nat, s.heap.size ≤ q → A q := fun q h => by rw [← hAe]; exact Or.inr h
  have hS : va_S A s.heap s.heap [] := va_S.rf
  have hK2 := hK.sub (tys' := (mcTH cI cG)) [0, 1] rfl
  have hl := lv_entry ([.ref o, .int (nI y), .int (nI b), .ref u]) (n := 5) (Nat.le_of_ble_eq_true rfl)
  rw [lg_entry_eq]
  generalize (lg_sl ([.ref o, .int (nI y), .int (nI b), .ref u]) ++ List.replicate (5 - (lg_sl ([.ref o, .int (nI y), .int (nI b), .ref u])).length) Slot.unset).toArray = ls at hl ⊢
  have hl : lv_has ls 5 [(0, .ref o), (1, .int (nI y)), (2, .int (nI b)), (3, .ref u)] := hl
  refine lv_aload_n hx hb dL_year_0 rfl (lv_at hl 3 rfl) ?_
  refine lv_iconst (v := 0) hx hb dL_year_1 (by decide) ?_
  refine lv_aload_n hx hb dL_year_2 rfl (lv_at hl 0 rfl) ?_
  refine lv_iload_n hx hb dL_year_3 rfl (lv_at hl 1 rfl) ?_
  refine lv_iload_n hx hb dL_year_4 rfl (lv_at hl 2 rfl) ?_
  refine callWXi (As := [.int (nI y), .int (nI b)]) (rest := [.int 0, .ref u]) ⟨hx, hb, hml, hown, hts⟩ tlB (c_M_year_ok l dC dI o a q r cI cG la n v C G X D B bu lp s.heap.size y b hy h1 h2) kw404 kw405 kw406 kw25 kw407 ⟨rfl, rfl⟩ (n := 2) (by decide +kernel) ⟨Nat.le_of_ble_eq_true rfl, Nat.le_of_ble_eq_true rfl⟩ hP.lft hK2 hD.lft hS (va_freeL hD hS hA) (ci := 3) (q0 := 0) rfl rfl rfl hl.1 rfl (Nat.le_of_ble_eq_true rfl) ⟨Nat.le_of_ble_eq_true rfl, Nat.le_of_ble_eq_true rfl⟩ dL_year_5 (fun r1 x1 H1 locs1 hr1 hP1 hD1 hk1 hS1 => ?_)
  obtain ⟨hP, hD⟩ := va_jnL hP hD hk1 (va_freeL hD hS hA) hP1 hD1
  have hS := hS1
  refine lv_i2l (v := (r1).toInt64) hx hb dL_year_8 rfl ?_
  refine va_last hx hb hK hP hD hS 37 3 rfl rfl (i := 0) (vp_in_nI (n := 0) (N := 1) (by decide) (by decide)) dL_year_9 (fun H locs hP hD hS => ?_)
  have hP : va_P (dC, dI) mcCl (mcWL o a q r cI cG la n v C G X D B (va_up bu y b) lp u cJ (vp_updL ov 0 r1.toInt64)) H := hP
  have hD : va_D A (mcWL o a q r cI cG la n v C G X D B (va_up bu y b) lp u cJ (vp_updL ov 0 r1.toInt64)) := hD
  refine lv_goto (tgt := 17) hx hb dL_year_10 (by decide) ?_
  refine lv_iconst (v := 0) hx hb dL_year_17 (by decide) ?_
  exact W.iret (v := 0) hx hb hr (fun t ht hW => ⟨⟨0, (r1, x1), rfl, ⟨rfl, hr1⟩, by rw [ht]; exact hP, va_K.moved hW.alike hK, hD⟩, hS.F ht⟩) hS.2.2 dL_year_18
set_option maxHeartbeats 4000000 in
set_option maxRecDepth 100000 in
theorem c_L_plan_ok (l : Launch) (dC : Nat → ClassId) (dI : Nat → Nat → Nat) (o : Nat) (a q r : Nat → Nat) (cI cG : ClassId) (la : mcLA) (n v : Nat) (C G X D : Nat → Nat) (B : Nat → Nat → Int) (bu : Nat → Nat) (lp : mcLP) (cZ cJ : ClassId) (u : Nat) (ov : Nat → Int64) (sz : Nat) (Y : Nat) (hY1 : 1 ≤ Y) (hY4 : Y ≤ 4) (hY : 1 ≤ nI Y ∧ nI Y ≤ 4) (hbu : ∀ y, bu y ≤ 100000) (hn : n ≤ 12) (hC : ∀ m, C m ≤ 10000) (hG : ∀ m, G m ≤ 10000) (hB : ∀ i j, -5000 ≤ B i j ∧ B i j ≤ 5000) (hX : ∀ m, X m < 4096) (hDD : ∀ m, D m < 4096) (k : Nat) (hkY : k < Y) (hk2 : 0 ≤ nI k ∧ nI k ≤ nI Y - 1) : Met l yL_plan wdL_plan ({ frames := 6, cells := 0, slots := 0, locals := 135 }) (wrP (dC, dI) mcCl (mcWL o a q r cI cG la n v C G X D B bu lp u cJ ov) (mcT4 cI cG cZ cJ) sz [.ref o, .int (nI Y), .int (nI k), .ref u]) (wrXi (fun z9 (x : Int32 × mcLP) => z9 = 0 ∧ ((∃ f9, x.1 = nI f9 ∧ mc_seq (fun y b f => mc_pick (2 ^ mc_m6 n) (fun S => x.2.2.2.2.1 S ≤ x.2.2.2.1 y) (x.2.1 y) (x.2.2.1 y) b f) k f9) ∧ mc_plan n C G X D B bu Y x.2.1 x.2.2.1 x.2.2.2.1 x.2.2.2.2.1 x.2.2.2.2.2.1)) (fun x => mcWL o a q r cI cG la n v C G X D B bu x.2 u cJ (vp_updL ov 0 x.1.toInt64)) (dC, dI) mcCl (mcWL o a q r cI cG la n v C G X D B bu lp u cJ ov) (mcT4 cI cG cZ cJ) sz) 0 0 (va_A (mcWL o a q r cI cG la n v C G X D B bu lp u cJ ov) sz) := by
  unfold wrXi
  refine va_MetW (cc := bL_plan) (maxL := 5) (ret := (some FieldType.int)) (by decide) rfl ?_
  intro p e s m args below meth c s₁ BB hml hv
  obtain ⟨rfl, hsz, hP, hK, hD0⟩ := hv
  have hx := BB.exec
  have hb := BB.bytes
  have hr := BB.returns
  have hts := atoms_spec (ws := wdL_plan) BB.pre
  have hown : s.vm.findClass RL = some m.cls := findClass_of_methodNamed BB.named
  have hlocks := BB.notSynchronized
  subst hsz
  have hD := hD0.self (sz := s.heap.size)
  generalize hAe : va_A (mcWL o a q r cI cG la n v C G X D B bu lp u cJ ov) s.heap.size = A at hD ⊢
  have hA : ∀ q : Nat, s.heap.size ≤ q → A q := fun q h => by rw [← hAe]; exact Or.inr h
  have hS : va_S A s.heap s.heap [] := va_S.rf
  have hK2 := hK.sub (tys' := (mcTH cI cG)) [0, 1] rfl
  have hl := lv_entry ([.ref o, .int (nI Y), .int (nI k), .ref u]) (n := 5) (Nat.le_of_ble_eq_true rfl)
  rw [lg_entry_eq]
  generalize (lg_sl ([.ref o, .int (nI Y), .int (nI k), .ref u]) ++ List.replicate (5 - (lg_sl ([.ref o, .int (nI Y), .int (nI k), .ref u])).length) Slot.unset).toArray = ls at hl ⊢
  have hl : lv_has ls 5 [(0, .ref o), (1, .int (nI Y)), (2, .int (nI k)), (3, .ref u)] := hl
  refine lv_aload_n hx hb dL_plan_0 rfl (lv_at hl 3 rfl) ?_
  refine lv_iconst (v := 0) hx hb dL_plan_1 (by decide) ?_
  refine lv_aload_n hx hb dL_plan_2 rfl (lv_at hl 0 rfl) ?_
  refine lv_iload_n hx hb dL_plan_3 rfl (lv_at hl 1 rfl) ?_
  refine lv_iload_n hx hb dL_plan_4 rfl (lv_at hl 2 rfl) ?_
  refine callWXi (As := [.int (nI Y), .int (nI k)]) (rest := [.int 0, .ref u]) ⟨hx, hb, hml, hown, hts⟩ tlB (c_M_plan_ok l dC dI o a q r cI cG la n v C G X D B bu lp s.heap.size Y hY1 hY4 hY hbu hn hC hG hB hX hDD k hkY hk2) kw412 kw413 kw414 kw25 kw415 ⟨rfl, rfl⟩ (n := 2) (by decide +kernel) ⟨Nat.le_of_ble_eq_true rfl, Nat.le_of_ble_eq_true rfl⟩ hP.lft hK2 hD.lft hS (va_freeL hD hS hA) (ci := 3) (q0 := 0) rfl rfl rfl hl.1 rfl (Nat.le_of_ble_eq_true rfl) ⟨Nat.le_of_ble_eq_true rfl, Nat.le_of_ble_eq_true rfl⟩ dL_plan_5 (fun r1 x1 H1 locs1 hr1 hP1 hD1 hk1 hS1 => ?_)
  obtain ⟨hP, hD⟩ := va_jnL hP hD hk1 (va_freeL hD hS hA) hP1 hD1
  have hS := hS1
  refine lv_i2l (v := (r1).toInt64) hx hb dL_plan_8 rfl ?_
  refine va_last hx hb hK hP hD hS 37 3 rfl rfl (i := 0) (vp_in_nI (n := 0) (N := 1) (by decide) (by decide)) dL_plan_9 (fun H locs hP hD hS => ?_)
  have hP : va_P (dC, dI) mcCl (mcWL o a q r cI cG la n v C G X D B bu x1 u cJ (vp_updL ov 0 r1.toInt64)) H := hP
  have hD : va_D A (mcWL o a q r cI cG la n v C G X D B bu x1 u cJ (vp_updL ov 0 r1.toInt64)) := hD
  refine lv_goto (tgt := 17) hx hb dL_plan_10 (by decide) ?_
  refine lv_iconst (v := 0) hx hb dL_plan_17 (by decide) ?_
  exact W.iret (v := 0) hx hb hr (fun t ht hW => ⟨⟨0, (r1, x1), rfl, ⟨rfl, hr1⟩, by rw [ht]; exact hP, va_K.moved hW.alike hK, hD⟩, hS.F ht⟩) hS.2.2 dL_plan_18
set_option maxHeartbeats 4000000 in
set_option maxRecDepth 100000 in
theorem c_L_planned_ok (l : Launch) (dC : Nat → ClassId) (dI : Nat → Nat → Nat) (o : Nat) (a q r : Nat → Nat) (cI cG : ClassId) (la : mcLA) (n v : Nat) (C G X D : Nat → Nat) (B : Nat → Nat → Int) (bu : Nat → Nat) (lp : mcLP) (cZ cJ : ClassId) (u : Nat) (ov : Nat → Int64) (sz : Nat) (Y : Nat) (hY1 : 1 ≤ Y) (hY4 : Y ≤ 4) (hY : 1 ≤ nI Y ∧ nI Y ≤ 4) (hbu : ∀ y, bu y ≤ 100000) (hn : n ≤ 12) (hC : ∀ m, C m ≤ 10000) (hG : ∀ m, G m ≤ 10000) (hB : ∀ i j, -5000 ≤ B i j ∧ B i j ≤ 5000) (hX : ∀ m, X m < 4096) (hDD : ∀ m, D m < 4096) : Met l yL_planned wdL_planned ({ frames := 6, cells := 0, slots := 0, locals := 134 }) (wrP (dC, dI) mcCl (mcWL o a q r cI cG la n v C G X D B bu lp u cJ ov) (mcT4 cI cG cZ cJ) sz [.ref o, .int (nI Y), .ref u]) (wrXi (fun z9 (x : Int32 × mcLP) => z9 = 0 ∧ ((∃ f9, x.1 = iI (x.2.1 0 f9) ∧ mc_seq (fun y b f => mc_pick (2 ^ mc_m6 n) (fun S => x.2.2.2.2.1 S ≤ x.2.2.2.1 y) (x.2.1 y) (x.2.2.1 y) b f) 0 f9) ∧ mc_plan n C G X D B bu Y x.2.1 x.2.2.1 x.2.2.2.1 x.2.2.2.2.1 x.2.2.2.2.2.1)) (fun x => mcWL o a q r cI cG la n v C G X D B bu x.2 u cJ (vp_updL ov 0 x.1.toInt64)) (dC, dI) mcCl (mcWL o a q r cI cG la n v C G X D B bu lp u cJ ov) (mcT4 cI cG cZ cJ) sz) 0 0 (va_A (mcWL o a q r cI cG la n v C G X D B bu lp u cJ ov) sz) := by
  unfold wrXi
  refine va_MetW (cc := bL_planned) (maxL := 4) (ret := (some FieldType.int)) (by decide) rfl ?_
  intro p e s m args below meth c s₁ BB hml hv
  obtain ⟨rfl, hsz, hP, hK, hD0⟩ := hv
  have hx := BB.exec
  have hb := BB.bytes
  have hr := BB.returns
  have hts := atoms_spec (ws := wdL_planned) BB.pre
  have hown : s.vm.findClass RL = some m.cls := findClass_of_methodNamed BB.named
  have hlocks := BB.notSynchronized
  subst hsz
  have hD := hD0.self (sz := s.heap.size)
  generalize hAe : va_A (mcWL o a q r cI cG la n v C G X D B bu lp u cJ ov) s.heap.size = A at hD ⊢
  have hA : ∀ q : Nat, s.heap.size ≤ q → A q := fun q h => by rw [← hAe]; exact Or.inr h
  have hS : va_S A s.heap s.heap [] := va_S.rf
  have hK2 := hK.sub (tys' := (mcTH cI cG)) [0, 1] rfl
  have hl := lv_entry ([.ref o, .int (nI Y), .ref u]) (n := 4) (Nat.le_of_ble_eq_true rfl)
  rw [lg_entry_eq]
  generalize (lg_sl ([.ref o, .int (nI Y), .ref u]) ++ List.replicate (4 - (lg_sl ([.ref o, .int (nI Y), .ref u])).length) Slot.unset).toArray = ls at hl ⊢
  have hl : lv_has ls 4 [(0, .ref o), (1, .int (nI Y)), (2, .ref u)] := hl
  refine lv_aload_n hx hb dL_planned_0 rfl (lv_at hl 2 rfl) ?_
  refine lv_iconst (v := 0) hx hb dL_planned_1 (by decide) ?_
  refine lv_aload_n hx hb dL_planned_2 rfl (lv_at hl 0 rfl) ?_
  refine lv_iload_n hx hb dL_planned_3 rfl (lv_at hl 1 rfl) ?_
  refine callWXi (As := [.int (nI Y)]) (rest := [.int 0, .ref u]) ⟨hx, hb, hml, hown, hts⟩ tlB (c_M_planned_ok l dC dI o a q r cI cG la n v C G X D B bu lp s.heap.size Y hY1 hY4 hY hbu hn hC hG hB hX hDD) kw449 kw450 kw451 kw25 kw452 ⟨rfl, rfl⟩ (n := 1) (by decide +kernel) ⟨Nat.le_of_ble_eq_true rfl, Nat.le_of_ble_eq_true rfl⟩ hP.lft hK2 hD.lft hS (va_freeL hD hS hA) (ci := 3) (q0 := 0) rfl rfl rfl hl.1 rfl (Nat.le_of_ble_eq_true rfl) ⟨Nat.le_of_ble_eq_true rfl, Nat.le_of_ble_eq_true rfl⟩ dL_planned_4 (fun r1 x1 H1 locs1 hr1 hP1 hD1 hk1 hS1 => ?_)
  obtain ⟨hP, hD⟩ := va_jnL hP hD hk1 (va_freeL hD hS hA) hP1 hD1
  have hS := hS1
  refine lv_i2l (v := (r1).toInt64) hx hb dL_planned_7 rfl ?_
  refine va_last hx hb hK hP hD hS 37 3 rfl rfl (i := 0) (vp_in_nI (n := 0) (N := 1) (by decide) (by decide)) dL_planned_8 (fun H locs hP hD hS => ?_)
  have hP : va_P (dC, dI) mcCl (mcWL o a q r cI cG la n v C G X D B bu x1 u cJ (vp_updL ov 0 r1.toInt64)) H := hP
  have hD : va_D A (mcWL o a q r cI cG la n v C G X D B bu x1 u cJ (vp_updL ov 0 r1.toInt64)) := hD
  refine lv_goto (tgt := 15) hx hb dL_planned_9 (by decide) ?_
  refine lv_iconst (v := 0) hx hb dL_planned_15 (by decide) ?_
  exact W.iret (v := 0) hx hb hr (fun t ht hW => ⟨⟨0, (r1, x1), rfl, ⟨rfl, hr1⟩, by rw [ht]; exact hP, va_K.moved hW.alike hK, hD⟩, hS.F ht⟩) hS.2.2 dL_planned_16
set_option maxHeartbeats 4000000 in
set_option maxRecDepth 100000 in
theorem c_L_measure_bad (l : Launch) (dC : Nat → ClassId) (dI : Nat → Nat → Nat) (o : Nat) (a q r : Nat → Nat) (cI cG : ClassId) (la : mcLA) (n v : Nat) (C G X D : Nat → Nat) (B : Nat → Nat → Int) (bu : Nat → Nat) (lp : mcLP) (u : Nat) (hlt : l.stackTraces = false) (v1 v2 : Int32) (hbad : ¬ ((1 ≤ v1 ∧ v1 ≤ 10000) ∧ (0 ≤ v2 ∧ v2 ≤ 10000))) : Met l yL_measure wdL_measure ({ frames := 9, cells := 1, slots := 6, locals := 147 }) (mcPx (roP (dC, dI) mcCl (mcWT o a q r cI cG la n v C G X D B bu lp) (mcTH cI cG) [.ref o, .int v1, .int v2, .ref u])) (mcQb 1) 1 6 (fun _ => False) := by
  refine va_MetW (cc := bL_measure) (maxL := 5) (ret := (some FieldType.int)) (by decide) rfl ?_
  intro p e s m args below meth c s₁ BB hml hv
  obtain ⟨⟨rfl, hP, hK⟩, hTh⟩ := hv
  have hx := BB.exec
  have hb := BB.bytes
  have hr := BB.returns
  have hts := atoms_spec (ws := wdL_measure) BB.pre
  have hown : s.vm.findClass RL = some m.cls := findClass_of_methodNamed BB.named
  have hlocks := BB.notSynchronized
  have htab := vx_table (x := yL_measure) BB (hts _ List.mem_cons_self)
  have hS : va_S (fun _ => False) s.heap s.heap [] := va_S.rf
  have hl := lv_entry ([.ref o, .int v1, .int v2, .ref u]) (n := 5) (Nat.le_of_ble_eq_true rfl)
  rw [lg_entry_eq]
  generalize (lg_sl ([.ref o, .int v1, .int v2, .ref u]) ++ List.replicate (5 - (lg_sl ([.ref o, .int v1, .int v2, .ref u])).length) Slot.unset).toArray = ls at hl ⊢
  have hl : lv_has ls 5 [(0, .ref o), (1, .int v1), (2, .int v2), (3, .ref u)] := hl
  refine lv_aload_n hx hb dL_measure_0 rfl (lv_at hl 3 rfl) ?_
  refine lv_iconst (v := 0) hx hb dL_measure_1 (by decide) ?_
  refine lv_aload_n hx hb dL_measure_2 rfl (lv_at hl 0 rfl) ?_
  refine lv_iload_n hx hb dL_measure_3 rfl (lv_at hl 1 rfl) ?_
  refine lv_iload_n hx hb dL_measure_4 rfl (lv_at hl 2 rfl) ?_
  refine callXV (As := [.int v1, .int v2]) (rest := [.int 0, .ref u]) ⟨hx, hb, hml, hown, hts⟩ tlB (c_M_measure_bad l dC dI o a q r cI cG la n v C G X D B bu lp hlt v1 v2 hbad) kw188 kw189 kw190 kw25 kw191 ⟨rfl, rfl⟩ (n := 2) (by decide +kernel) ⟨Nat.le_of_ble_eq_true rfl, Nat.le_of_ble_eq_true rfl⟩ (roP_preV hP hK (ci := 3) (q0 := 0) rfl rfl) hTh rfl hl.1 rfl (Nat.le_of_ble_eq_true rfl) ⟨Nat.le_of_ble_eq_true rfl, Nat.le_of_ble_eq_true rfl⟩ dL_measure_5 (fun ce q9 H1 hz9 hk9 hce hcv hcl => catch1 hown hts hTh htab (by decide) rfl hce hcv hcl kw186 ?_)
  refine W.eq (g2 := F0 m 13 ls [.ref q9]) rfl ?_
  refine lv_astore (lv' := [(4, .ref q9), (0, .ref o), (1, .int v1), (2, .int v2), (3, .ref u)]) hx hb dL_measure_13 hl (by decide) rfl (fun ls hl => ?_)
  refine lv_iconst (v := 1) hx hb dL_measure_15 (by decide) ?_
  exact W.iret (v := 1) hx hb hr (fun t ht hW => ⟨⟨1, (), rfl, rfl, trivial⟩, by rw [ht]; exact hz9, fun q hq _ => by rw [ht]; exact hk9 q hq⟩) (fun _ h => nomatch h) dL_measure_16
set_option maxHeartbeats 4000000 in
set_option maxRecDepth 100000 in
theorem c_L_measure_full (l : Launch) (dC : Nat → ClassId) (dI : Nat → Nat → Nat) (o : Nat) (a q r : Nat → Nat) (cI cG : ClassId) (la : mcLA) (n v : Nat) (C G X D : Nat → Nat) (B : Nat → Nat → Int) (bu : Nat → Nat) (lp : mcLP) (u : Nat) (hlt : l.stackTraces = false) (v1 v2 : Int32) (hok : (1 ≤ v1 ∧ v1 ≤ 10000) ∧ (0 ≤ v2 ∧ v2 ≤ 10000)) (hfull : n = 12) : Met l yL_measure wdL_measure ({ frames := 9, cells := 1, slots := 6, locals := 147 }) (mcPx (roP (dC, dI) mcCl (mcWT o a q r cI cG la n v C G X D B bu lp) (mcTH cI cG) [.ref o, .int v1, .int v2, .ref u])) (mcQb 2) 1 6 (fun _ => False) := by
  refine va_MetW (cc := bL_measure) (maxL := 5) (ret := (some FieldType.int)) (by decide) rfl ?_
  intro p e s m args below meth c s₁ BB hml hv
  obtain ⟨⟨rfl, hP, hK⟩, hTh⟩ := hv
  have hx := BB.exec
  have hb := BB.bytes
  have hr := BB.returns
  have hts := atoms_spec (ws := wdL_measure) BB.pre
  have hown : s.vm.findClass RL = some m.cls := findClass_of_methodNamed BB.named
  have hlocks := BB.notSynchronized
  have htab := vx_table (x := yL_measure) BB (hts _ List.mem_cons_self)
  have hS : va_S (fun _ => False) s.heap s.heap [] := va_S.rf
  have hl := lv_entry ([.ref o, .int v1, .int v2, .ref u]) (n := 5) (Nat.le_of_ble_eq_true rfl)
  rw [lg_entry_eq]
  generalize (lg_sl ([.ref o, .int v1, .int v2, .ref u]) ++ List.replicate (5 - (lg_sl ([.ref o, .int v1, .int v2, .ref u])).length) Slot.unset).toArray = ls at hl ⊢
  have hl : lv_has ls 5 [(0, .ref o), (1, .int v1), (2, .int v2), (3, .ref u)] := hl
  refine lv_aload_n hx hb dL_measure_0 rfl (lv_at hl 3 rfl) ?_
  refine lv_iconst (v := 0) hx hb dL_measure_1 (by decide) ?_
  refine lv_aload_n hx hb dL_measure_2 rfl (lv_at hl 0 rfl) ?_
  refine lv_iload_n hx hb dL_measure_3 rfl (lv_at hl 1 rfl) ?_
  refine lv_iload_n hx hb dL_measure_4 rfl (lv_at hl 2 rfl) ?_
  refine callXV (As := [.int v1, .int v2]) (rest := [.int 0, .ref u]) ⟨hx, hb, hml, hown, hts⟩ tlB (c_M_measure_full l dC dI o a q r cI cG la n v C G X D B bu lp hlt v1 v2 hok hfull) kw188 kw189 kw190 kw25 kw191 ⟨rfl, rfl⟩ (n := 2) (by decide +kernel) ⟨Nat.le_of_ble_eq_true rfl, Nat.le_of_ble_eq_true rfl⟩ (roP_preV hP hK (ci := 3) (q0 := 0) rfl rfl) hTh rfl hl.1 rfl (Nat.le_of_ble_eq_true rfl) ⟨Nat.le_of_ble_eq_true rfl, Nat.le_of_ble_eq_true rfl⟩ dL_measure_5 (fun ce q9 H1 hz9 hk9 hce hcv hcl => catch2 hown hts hTh htab (by decide) rfl rfl hce hcv hcl kw186 kw187 ?_)
  refine W.eq (g2 := F0 m 17 ls [.ref q9]) rfl ?_
  refine lv_astore (lv' := [(4, .ref q9), (0, .ref o), (1, .int v1), (2, .int v2), (3, .ref u)]) hx hb dL_measure_17 hl (by decide) rfl (fun ls hl => ?_)
  refine lv_iconst (v := 2) hx hb dL_measure_19 (by decide) ?_
  exact W.iret (v := 2) hx hb hr (fun t ht hW => ⟨⟨2, (), rfl, rfl, trivial⟩, by rw [ht]; exact hz9, fun q hq _ => by rw [ht]; exact hk9 q hq⟩) (fun _ h => nomatch h) dL_measure_20
set_option maxHeartbeats 4000000 in
set_option maxRecDepth 100000 in
theorem c_L_change_bad (l : Launch) (dC : Nat → ClassId) (dI : Nat → Nat → Nat) (o : Nat) (a q r : Nat → Nat) (cI cG : ClassId) (la : mcLA) (n v : Nat) (C G X D : Nat → Nat) (B : Nat → Nat → Int) (bu : Nat → Nat) (lp : mcLP) (u : Nat) (hlt : l.stackTraces = false) (v1 v2 v3 : Int32) (hn : n ≤ 12) (hbad : ¬ ((∃ k, k < n ∧ v1 = nI k) ∧ (1 ≤ v2 ∧ v2 ≤ 10000) ∧ (0 ≤ v3 ∧ v3 ≤ 10000))) : Met l yL_change wdL_change ({ frames := 9, cells := 1, slots := 6, locals := 148 }) (mcPx (roP (dC, dI) mcCl (mcWT o a q r cI cG la n v C G X D B bu lp) (mcTH cI cG) [.ref o, .int v1, .int v2, .int v3])) (mcQb 1) 1 6 (fun _ => False) := by
  refine va_MetW (cc := bL_change) (maxL := 5) (ret := (some FieldType.int)) (by decide) rfl ?_
  intro p e s m args below meth c s₁ BB hml hv
  obtain ⟨⟨rfl, hP, hK⟩, hTh⟩ := hv
  have hx := BB.exec
  have hb := BB.bytes
  have hr := BB.returns
  have hts := atoms_spec (ws := wdL_change) BB.pre
  have hown : s.vm.findClass RL = some m.cls := findClass_of_methodNamed BB.named
  have hlocks := BB.notSynchronized
  have htab := vx_table (x := yL_change) BB (hts _ List.mem_cons_self)
  have hS : va_S (fun _ => False) s.heap s.heap [] := va_S.rf
  have hl := lv_entry ([.ref o, .int v1, .int v2, .int v3]) (n := 5) (Nat.le_of_ble_eq_true rfl)
  rw [lg_entry_eq]
  generalize (lg_sl ([.ref o, .int v1, .int v2, .int v3]) ++ List.replicate (5 - (lg_sl ([.ref o, .int v1, .int v2, .int v3])).length) Slot.unset).toArray = ls at hl ⊢
  have hl : lv_has ls 5 [(0, .ref o), (1, .int v1), (2, .int v2), (3, .int v3)] := hl
  refine lv_aload_n hx hb dL_change_0 rfl (lv_at hl 0 rfl) ?_
  refine lv_iload_n hx hb dL_change_1 rfl (lv_at hl 1 rfl) ?_
  refine lv_iload_n hx hb dL_change_2 rfl (lv_at hl 2 rfl) ?_
  refine lv_iload_n hx hb dL_change_3 rfl (lv_at hl 3 rfl) ?_
  refine callXV (As := [.int v1, .int v2, .int v3]) (rest := []) ⟨hx, hb, hml, hown, hts⟩ tlB (c_M_change_bad l dC dI o a q r cI cG la n v C G X D B bu lp hlt v1 v2 v3 hn hbad) kw279 kw280 kw281 kw25 kw282 ⟨rfl, rfl⟩ (n := 3) (by decide +kernel) ⟨Nat.le_of_ble_eq_true rfl, Nat.le_of_ble_eq_true rfl⟩ (roP_preV hP hK (ci := 3) (q0 := 0) rfl rfl) hTh rfl hl.1 rfl (Nat.le_of_ble_eq_true rfl) ⟨Nat.le_of_ble_eq_true rfl, Nat.le_of_ble_eq_true rfl⟩ dL_change_4 (fun ce q9 H1 hz9 hk9 hce hcv hcl => catch1 hown hts hTh htab (by decide) rfl hce hcv hcl kw186 ?_)
  refine W.eq (g2 := F0 m 10 ls [.ref q9]) rfl ?_
  refine lv_astore (lv' := [(4, .ref q9), (0, .ref o), (1, .int v1), (2, .int v2), (3, .int v3)]) hx hb dL_change_10 hl (by decide) rfl (fun ls hl => ?_)
  refine lv_iconst (v := 1) hx hb dL_change_12 (by decide) ?_
  exact W.iret (v := 1) hx hb hr (fun t ht hW => ⟨⟨1, (), rfl, rfl, trivial⟩, by rw [ht]; exact hz9, fun q hq _ => by rw [ht]; exact hk9 q hq⟩) (fun _ h => nomatch h) dL_change_13
set_option maxHeartbeats 4000000 in
set_option maxRecDepth 100000 in
theorem c_L_exclude_bad (l : Launch) (dC : Nat → ClassId) (dI : Nat → Nat → Nat) (o : Nat) (a q r : Nat → Nat) (cI cG : ClassId) (la : mcLA) (n v : Nat) (C G X D : Nat → Nat) (B : Nat → Nat → Int) (bu : Nat → Nat) (lp : mcLP) (u : Nat) (hlt : l.stackTraces = false) (v1 v2 on : Int32) (hn : n ≤ 12) (hbad : ¬ ((∃ k, k < n ∧ v1 = nI k) ∧ (∃ k, k < n ∧ v2 = nI k) ∧ ¬ v1 = v2)) : Met l yL_exclude wdL_exclude ({ frames := 9, cells := 1, slots := 6, locals := 149 }) (mcPx (roP (dC, dI) mcCl (mcWT o a q r cI cG la n v C G X D B bu lp) (mcTH cI cG) [.ref o, .int v1, .int v2, .int on, .ref u])) (mcQb 1) 1 6 (fun _ => False) := by
  refine va_MetW (cc := bL_exclude) (maxL := 6) (ret := (some FieldType.int)) (by decide) rfl ?_
  intro p e s m args below meth c s₁ BB hml hv
  obtain ⟨⟨rfl, hP, hK⟩, hTh⟩ := hv
  have hx := BB.exec
  have hb := BB.bytes
  have hr := BB.returns
  have hts := atoms_spec (ws := wdL_exclude) BB.pre
  have hown : s.vm.findClass RL = some m.cls := findClass_of_methodNamed BB.named
  have hlocks := BB.notSynchronized
  have htab := vx_table (x := yL_exclude) BB (hts _ List.mem_cons_self)
  have hS : va_S (fun _ => False) s.heap s.heap [] := va_S.rf
  have hl := lv_entry ([.ref o, .int v1, .int v2, .int on, .ref u]) (n := 6) (Nat.le_of_ble_eq_true rfl)
  rw [lg_entry_eq]
  generalize (lg_sl ([.ref o, .int v1, .int v2, .int on, .ref u]) ++ List.replicate (6 - (lg_sl ([.ref o, .int v1, .int v2, .int on, .ref u])).length) Slot.unset).toArray = ls at hl ⊢
  have hl : lv_has ls 6 [(0, .ref o), (1, .int v1), (2, .int v2), (3, .int on), (4, .ref u)] := hl
  refine lv_aload hx hb dL_exclude_0 (lv_at hl 4 rfl) ?_
  refine lv_iconst (v := 0) hx hb dL_exclude_2 (by decide) ?_
  refine lv_aload_n hx hb dL_exclude_3 rfl (lv_at hl 0 rfl) ?_
  refine lv_iload_n hx hb dL_exclude_4 rfl (lv_at hl 1 rfl) ?_
  refine lv_iload_n hx hb dL_exclude_5 rfl (lv_at hl 2 rfl) ?_
  refine lv_iload_n hx hb dL_exclude_6 rfl (lv_at hl 3 rfl) ?_
  refine callXV (As := [.int v1, .int v2, .int on]) (rest := [.int 0, .ref u]) ⟨hx, hb, hml, hown, hts⟩ tlB (c_M_exclude_bad l dC dI o a q r cI cG la n v C G X D B bu lp hlt v1 v2 on hn hbad) kw290 kw291 kw292 kw25 kw293 ⟨rfl, rfl⟩ (n := 3) (by decide +kernel) ⟨Nat.le_of_ble_eq_true rfl, Nat.le_of_ble_eq_true rfl⟩ (roP_preV hP hK (ci := 3) (q0 := 0) rfl rfl) hTh rfl hl.1 rfl (Nat.le_of_ble_eq_true rfl) ⟨Nat.le_of_ble_eq_true rfl, Nat.le_of_ble_eq_true rfl⟩ dL_exclude_7 (fun ce q9 H1 hz9 hk9 hce hcv hcl => catch1 hown hts hTh htab (by decide) rfl hce hcv hcl kw186 ?_)
  refine W.eq (g2 := F0 m 22 ls [.ref q9]) rfl ?_
  refine lv_astore (lv' := [(5, .ref q9), (0, .ref o), (1, .int v1), (2, .int v2), (3, .int on), (4, .ref u)]) hx hb dL_exclude_22 hl (by decide) rfl (fun ls hl => ?_)
  refine lv_iconst (v := 1) hx hb dL_exclude_24 (by decide) ?_
  exact W.iret (v := 1) hx hb hr (fun t ht hW => ⟨⟨1, (), rfl, rfl, trivial⟩, by rw [ht]; exact hz9, fun q hq _ => by rw [ht]; exact hk9 q hq⟩) (fun _ h => nomatch h) dL_exclude_25
set_option maxHeartbeats 4000000 in
set_option maxRecDepth 100000 in
theorem c_L_needs_bad (l : Launch) (dC : Nat → ClassId) (dI : Nat → Nat → Nat) (o : Nat) (a q r : Nat → Nat) (cI cG : ClassId) (la : mcLA) (n v : Nat) (C G X D : Nat → Nat) (B : Nat → Nat → Int) (bu : Nat → Nat) (lp : mcLP) (u : Nat) (hlt : l.stackTraces = false) (v1 v2 on : Int32) (hn : n ≤ 12) (hbad : ¬ ((∃ k, k < n ∧ v1 = nI k) ∧ (∃ k, k < n ∧ v2 = nI k) ∧ ¬ v1 = v2)) : Met l yL_needs wdL_needs ({ frames := 9, cells := 1, slots := 6, locals := 149 }) (mcPx (roP (dC, dI) mcCl (mcWT o a q r cI cG la n v C G X D B bu lp) (mcTH cI cG) [.ref o, .int v1, .int v2, .int on, .ref u])) (mcQb 1) 1 6 (fun _ => False) := by
  refine va_MetW (cc := bL_needs) (maxL := 6) (ret := (some FieldType.int)) (by decide) rfl ?_
  intro p e s m args below meth c s₁ BB hml hv
  obtain ⟨⟨rfl, hP, hK⟩, hTh⟩ := hv
  have hx := BB.exec
  have hb := BB.bytes
  have hr := BB.returns
  have hts := atoms_spec (ws := wdL_needs) BB.pre
  have hown : s.vm.findClass RL = some m.cls := findClass_of_methodNamed BB.named
  have hlocks := BB.notSynchronized
  have htab := vx_table (x := yL_needs) BB (hts _ List.mem_cons_self)
  have hS : va_S (fun _ => False) s.heap s.heap [] := va_S.rf
  have hl := lv_entry ([.ref o, .int v1, .int v2, .int on, .ref u]) (n := 6) (Nat.le_of_ble_eq_true rfl)
  rw [lg_entry_eq]
  generalize (lg_sl ([.ref o, .int v1, .int v2, .int on, .ref u]) ++ List.replicate (6 - (lg_sl ([.ref o, .int v1, .int v2, .int on, .ref u])).length) Slot.unset).toArray = ls at hl ⊢
  have hl : lv_has ls 6 [(0, .ref o), (1, .int v1), (2, .int v2), (3, .int on), (4, .ref u)] := hl
  refine lv_aload hx hb dL_needs_0 (lv_at hl 4 rfl) ?_
  refine lv_iconst (v := 0) hx hb dL_needs_2 (by decide) ?_
  refine lv_aload_n hx hb dL_needs_3 rfl (lv_at hl 0 rfl) ?_
  refine lv_iload_n hx hb dL_needs_4 rfl (lv_at hl 1 rfl) ?_
  refine lv_iload_n hx hb dL_needs_5 rfl (lv_at hl 2 rfl) ?_
  refine lv_iload_n hx hb dL_needs_6 rfl (lv_at hl 3 rfl) ?_
  refine callXV (As := [.int v1, .int v2, .int on]) (rest := [.int 0, .ref u]) ⟨hx, hb, hml, hown, hts⟩ tlB (c_M_needs_bad l dC dI o a q r cI cG la n v C G X D B bu lp hlt v1 v2 on hn hbad) kw308 kw309 kw310 kw25 kw311 ⟨rfl, rfl⟩ (n := 3) (by decide +kernel) ⟨Nat.le_of_ble_eq_true rfl, Nat.le_of_ble_eq_true rfl⟩ (roP_preV hP hK (ci := 3) (q0 := 0) rfl rfl) hTh rfl hl.1 rfl (Nat.le_of_ble_eq_true rfl) ⟨Nat.le_of_ble_eq_true rfl, Nat.le_of_ble_eq_true rfl⟩ dL_needs_7 (fun ce q9 H1 hz9 hk9 hce hcv hcl => catch1 hown hts hTh htab (by decide) rfl hce hcv hcl kw186 ?_)
  refine W.eq (g2 := F0 m 22 ls [.ref q9]) rfl ?_
  refine lv_astore (lv' := [(5, .ref q9), (0, .ref o), (1, .int v1), (2, .int v2), (3, .int on), (4, .ref u)]) hx hb dL_needs_22 hl (by decide) rfl (fun ls hl => ?_)
  refine lv_iconst (v := 1) hx hb dL_needs_24 (by decide) ?_
  exact W.iret (v := 1) hx hb hr (fun t ht hW => ⟨⟨1, (), rfl, rfl, trivial⟩, by rw [ht]; exact hz9, fun q hq _ => by rw [ht]; exact hk9 q hq⟩) (fun _ h => nomatch h) dL_needs_25
set_option maxHeartbeats 4000000 in
set_option maxRecDepth 100000 in
theorem c_L_bonus_bad (l : Launch) (dC : Nat → ClassId) (dI : Nat → Nat → Nat) (o : Nat) (a q r : Nat → Nat) (cI cG : ClassId) (la : mcLA) (n v : Nat) (C G X D : Nat → Nat) (B : Nat → Nat → Int) (bu : Nat → Nat) (lp : mcLP) (u : Nat) (hlt : l.stackTraces = false) (v1 v2 v3 : Int32) (hn : n ≤ 12) (hbad : ¬ ((∃ k, k < n ∧ v1 = nI k) ∧ (∃ k, k < n ∧ v2 = nI k) ∧ ¬ v1 = v2 ∧ ((-5000) ≤ v3 ∧ v3 ≤ 5000))) : Met l yL_bonus wdL_bonus ({ frames := 9, cells := 1, slots := 6, locals := 149 }) (mcPx (roP (dC, dI) mcCl (mcWT o a q r cI cG la n v C G X D B bu lp) (mcTH cI cG) [.ref o, .int v1, .int v2, .int v3, .ref u])) (mcQb 1) 1 6 (fun _ => False) := by
  refine va_MetW (cc := bL_bonus) (maxL := 6) (ret := (some FieldType.int)) (by decide) rfl ?_
  intro p e s m args below meth c s₁ BB hml hv
  obtain ⟨⟨rfl, hP, hK⟩, hTh⟩ := hv
  have hx := BB.exec
  have hb := BB.bytes
  have hr := BB.returns
  have hts := atoms_spec (ws := wdL_bonus) BB.pre
  have hown : s.vm.findClass RL = some m.cls := findClass_of_methodNamed BB.named
  have hlocks := BB.notSynchronized
  have htab := vx_table (x := yL_bonus) BB (hts _ List.mem_cons_self)
  have hS : va_S (fun _ => False) s.heap s.heap [] := va_S.rf
  have hl := lv_entry ([.ref o, .int v1, .int v2, .int v3, .ref u]) (n := 6) (Nat.le_of_ble_eq_true rfl)
  rw [lg_entry_eq]
  generalize (lg_sl ([.ref o, .int v1, .int v2, .int v3, .ref u]) ++ List.replicate (6 - (lg_sl ([.ref o, .int v1, .int v2, .int v3, .ref u])).length) Slot.unset).toArray = ls at hl ⊢
  have hl : lv_has ls 6 [(0, .ref o), (1, .int v1), (2, .int v2), (3, .int v3), (4, .ref u)] := hl
  refine lv_aload hx hb dL_bonus_0 (lv_at hl 4 rfl) ?_
  refine lv_iconst (v := 0) hx hb dL_bonus_2 (by decide) ?_
  refine lv_aload_n hx hb dL_bonus_3 rfl (lv_at hl 0 rfl) ?_
  refine lv_iload_n hx hb dL_bonus_4 rfl (lv_at hl 1 rfl) ?_
  refine lv_iload_n hx hb dL_bonus_5 rfl (lv_at hl 2 rfl) ?_
  refine lv_iload_n hx hb dL_bonus_6 rfl (lv_at hl 3 rfl) ?_
  refine callXV (As := [.int v1, .int v2, .int v3]) (rest := [.int 0, .ref u]) ⟨hx, hb, hml, hown, hts⟩ tlB (c_M_bonus_bad l dC dI o a q r cI cG la n v C G X D B bu lp hlt v1 v2 v3 hn hbad) kw319 kw320 kw321 kw25 kw322 ⟨rfl, rfl⟩ (n := 3) (by decide +kernel) ⟨Nat.le_of_ble_eq_true rfl, Nat.le_of_ble_eq_true rfl⟩ (roP_preV hP hK (ci := 3) (q0 := 0) rfl rfl) hTh rfl hl.1 rfl (Nat.le_of_ble_eq_true rfl) ⟨Nat.le_of_ble_eq_true rfl, Nat.le_of_ble_eq_true rfl⟩ dL_bonus_7 (fun ce q9 H1 hz9 hk9 hce hcv hcl => catch1 hown hts hTh htab (by decide) rfl hce hcv hcl kw186 ?_)
  refine W.eq (g2 := F0 m 15 ls [.ref q9]) rfl ?_
  refine lv_astore (lv' := [(5, .ref q9), (0, .ref o), (1, .int v1), (2, .int v2), (3, .int v3), (4, .ref u)]) hx hb dL_bonus_15 hl (by decide) rfl (fun ls hl => ?_)
  refine lv_iconst (v := 1) hx hb dL_bonus_17 (by decide) ?_
  exact W.iret (v := 1) hx hb hr (fun t ht hW => ⟨⟨1, (), rfl, rfl, trivial⟩, by rw [ht]; exact hz9, fun q hq _ => by rw [ht]; exact hk9 q hq⟩) (fun _ h => nomatch h) dL_bonus_18
set_option maxHeartbeats 4000000 in
set_option maxRecDepth 100000 in
theorem c_L_lawful_bad (l : Launch) (dC : Nat → ClassId) (dI : Nat → Nat → Nat) (o : Nat) (a q r : Nat → Nat) (cI cG : ClassId) (la : mcLA) (n v : Nat) (C G X D : Nat → Nat) (B : Nat → Nat → Int) (bu : Nat → Nat) (lp : mcLP) (u : Nat) (hlt : l.stackTraces = false) (v1 : Int32) (hn : n ≤ 12) (hbad : ¬ ∃ S, S < 2 ^ n ∧ v1 = nI S) : Met l yL_lawful wdL_lawful ({ frames := 8, cells := 1, slots := 6, locals := 124 }) (mcPx (roP (dC, dI) mcCl (mcWT o a q r cI cG la n v C G X D B bu lp) (mcTH cI cG) [.ref o, .int v1, .ref u])) (mcQb 1) 1 6 (fun _ => False) := by
  refine va_MetW (cc := bL_lawful) (maxL := 4) (ret := (some FieldType.int)) (by decide) rfl ?_
  intro p e s m args below meth c s₁ BB hml hv
  obtain ⟨⟨rfl, hP, hK⟩, hTh⟩ := hv
  have hx := BB.exec
  have hb := BB.bytes
  have hr := BB.returns
  have hts := atoms_spec (ws := wdL_lawful) BB.pre
  have hown : s.vm.findClass RL = some m.cls := findClass_of_methodNamed BB.named
  have hlocks := BB.notSynchronized
  have htab := vx_table (x := yL_lawful) BB (hts _ List.mem_cons_self)
  have hS : va_S (fun _ => False) s.heap s.heap [] := va_S.rf
  have hl := lv_entry ([.ref o, .int v1, .ref u]) (n := 4) (Nat.le_of_ble_eq_true rfl)
  rw [lg_entry_eq]
  generalize (lg_sl ([.ref o, .int v1, .ref u]) ++ List.replicate (4 - (lg_sl ([.ref o, .int v1, .ref u])).length) Slot.unset).toArray = ls at hl ⊢
  have hl : lv_has ls 4 [(0, .ref o), (1, .int v1), (2, .ref u)] := hl
  refine lv_aload_n hx hb dL_lawful_0 rfl (lv_at hl 2 rfl) ?_
  refine lv_iconst (v := 0) hx hb dL_lawful_1 (by decide) ?_
  refine lv_aload_n hx hb dL_lawful_2 rfl (lv_at hl 0 rfl) ?_
  refine lv_iload_n hx hb dL_lawful_3 rfl (lv_at hl 1 rfl) ?_
  refine callXV (As := [.int v1]) (rest := [.int 0, .ref u]) ⟨hx, hb, hml, hown, hts⟩ tlB (c_M_lawful_bad l dC dI o a q r cI cG la n v C G X D B bu lp hlt v1 hn hbad) kw330 kw331 kw332 kw25 kw333 ⟨rfl, rfl⟩ (n := 1) (by decide +kernel) ⟨Nat.le_of_ble_eq_true rfl, Nat.le_of_ble_eq_true rfl⟩ (roP_preV hP hK (ci := 3) (q0 := 0) rfl rfl) hTh rfl hl.1 rfl (Nat.le_of_ble_eq_true rfl) ⟨Nat.le_of_ble_eq_true rfl, Nat.le_of_ble_eq_true rfl⟩ dL_lawful_4 (fun ce q9 H1 hz9 hk9 hce hcv hcl => catch1 hown hts hTh htab (by decide) rfl hce hcv hcl kw186 ?_)
  refine W.eq (g2 := F0 m 19 ls [.ref q9]) rfl ?_
  refine lv_astore_n (lv' := [(3, .ref q9), (0, .ref o), (1, .int v1), (2, .ref u)]) hx hb dL_lawful_19 rfl hl (by decide) rfl (fun ls hl => ?_)
  refine lv_iconst (v := 1) hx hb dL_lawful_20 (by decide) ?_
  exact W.iret (v := 1) hx hb hr (fun t ht hW => ⟨⟨1, (), rfl, rfl, trivial⟩, by rw [ht]; exact hz9, fun q hq _ => by rw [ht]; exact hk9 q hq⟩) (fun _ h => nomatch h) dL_lawful_21
set_option maxHeartbeats 4000000 in
set_option maxRecDepth 100000 in
theorem c_L_told_bad (l : Launch) (dC : Nat → ClassId) (dI : Nat → Nat → Nat) (o : Nat) (a q r : Nat → Nat) (cI cG : ClassId) (la : mcLA) (n v : Nat) (C G X D : Nat → Nat) (B : Nat → Nat → Int) (bu : Nat → Nat) (lp : mcLP) (u : Nat) (hlt : l.stackTraces = false) (v1 v2 : Int32) (hn : n ≤ 12) (hbad : ¬ ((∃ S, S < 2 ^ n ∧ v1 = nI S) ∧ (0 ≤ v2 ∧ v2 ≤ 1))) : Met l yL_told wdL_told ({ frames := 8, cells := 1, slots := 6, locals := 126 }) (mcPx (roP (dC, dI) mcCl (mcWT o a q r cI cG la n v C G X D B bu lp) (mcTH cI cG) [.ref o, .int v1, .int v2, .ref u])) (mcQb 1) 1 6 (fun _ => False) := by
  refine va_MetW (cc := bL_told) (maxL := 5) (ret := (some FieldType.int)) (by decide) rfl ?_
  intro p e s m args below meth c s₁ BB hml hv
  obtain ⟨⟨rfl, hP, hK⟩, hTh⟩ := hv
  have hx := BB.exec
  have hb := BB.bytes
  have hr := BB.returns
  have hts := atoms_spec (ws := wdL_told) BB.pre
  have hown : s.vm.findClass RL = some m.cls := findClass_of_methodNamed BB.named
  have hlocks := BB.notSynchronized
  have htab := vx_table (x := yL_told) BB (hts _ List.mem_cons_self)
  have hS : va_S (fun _ => False) s.heap s.heap [] := va_S.rf
  have hl := lv_entry ([.ref o, .int v1, .int v2, .ref u]) (n := 5) (Nat.le_of_ble_eq_true rfl)
  rw [lg_entry_eq]
  generalize (lg_sl ([.ref o, .int v1, .int v2, .ref u]) ++ List.replicate (5 - (lg_sl ([.ref o, .int v1, .int v2, .ref u])).length) Slot.unset).toArray = ls at hl ⊢
  have hl : lv_has ls 5 [(0, .ref o), (1, .int v1), (2, .int v2), (3, .ref u)] := hl
  refine lv_aload_n hx hb dL_told_0 rfl (lv_at hl 3 rfl) ?_
  refine lv_iconst (v := 0) hx hb dL_told_1 (by decide) ?_
  refine lv_aload_n hx hb dL_told_2 rfl (lv_at hl 0 rfl) ?_
  refine lv_iload_n hx hb dL_told_3 rfl (lv_at hl 1 rfl) ?_
  refine lv_iload_n hx hb dL_told_4 rfl (lv_at hl 2 rfl) ?_
  refine callXV (As := [.int v1, .int v2]) (rest := [.int 0, .ref u]) ⟨hx, hb, hml, hown, hts⟩ tlB (c_M_told_bad l dC dI o a q r cI cG la n v C G X D B bu lp hlt v1 v2 hn hbad) kw341 kw342 kw343 kw25 kw344 ⟨rfl, rfl⟩ (n := 2) (by decide +kernel) ⟨Nat.le_of_ble_eq_true rfl, Nat.le_of_ble_eq_true rfl⟩ (roP_preV hP hK (ci := 3) (q0 := 0) rfl rfl) hTh rfl hl.1 rfl (Nat.le_of_ble_eq_true rfl) ⟨Nat.le_of_ble_eq_true rfl, Nat.le_of_ble_eq_true rfl⟩ dL_told_5 (fun ce q9 H1 hz9 hk9 hce hcv hcl => catch1 hown hts hTh htab (by decide) rfl hce hcv hcl kw186 ?_)
  refine W.eq (g2 := F0 m 13 ls [.ref q9]) rfl ?_
  refine lv_astore (lv' := [(4, .ref q9), (0, .ref o), (1, .int v1), (2, .int v2), (3, .ref u)]) hx hb dL_told_13 hl (by decide) rfl (fun ls hl => ?_)
  refine lv_iconst (v := 1) hx hb dL_told_15 (by decide) ?_
  exact W.iret (v := 1) hx hb hr (fun t ht hW => ⟨⟨1, (), rfl, rfl, trivial⟩, by rw [ht]; exact hz9, fun q hq _ => by rw [ht]; exact hk9 q hq⟩) (fun _ h => nomatch h) dL_told_16
set_option maxHeartbeats 4000000 in
set_option maxRecDepth 100000 in
theorem c_L_closure_bad (l : Launch) (dC : Nat → ClassId) (dI : Nat → Nat → Nat) (o : Nat) (a q r : Nat → Nat) (cI cG : ClassId) (la : mcLA) (n v : Nat) (C G X D : Nat → Nat) (B : Nat → Nat → Int) (bu : Nat → Nat) (lp : mcLP) (u : Nat) (hlt : l.stackTraces = false) (v1 : Int32) (hn : n ≤ 12) (hbad : ¬ (∃ k, k < n ∧ v1 = nI k)) : Met l yL_closure wdL_closure ({ frames := 8, cells := 1, slots := 6, locals := 124 }) (mcPx (roP (dC, dI) mcCl (mcWT o a q r cI cG la n v C G X D B bu lp) (mcTH cI cG) [.ref o, .int v1, .ref u])) (mcQb 1) 1 6 (fun _ => False) := by
  refine va_MetW (cc := bL_closure) (maxL := 4) (ret := (some FieldType.int)) (by decide) rfl ?_
  intro p e s m args below meth c s₁ BB hml hv
  obtain ⟨⟨rfl, hP, hK⟩, hTh⟩ := hv
  have hx := BB.exec
  have hb := BB.bytes
  have hr := BB.returns
  have hts := atoms_spec (ws := wdL_closure) BB.pre
  have hown : s.vm.findClass RL = some m.cls := findClass_of_methodNamed BB.named
  have hlocks := BB.notSynchronized
  have htab := vx_table (x := yL_closure) BB (hts _ List.mem_cons_self)
  have hS : va_S (fun _ => False) s.heap s.heap [] := va_S.rf
  have hl := lv_entry ([.ref o, .int v1, .ref u]) (n := 4) (Nat.le_of_ble_eq_true rfl)
  rw [lg_entry_eq]
  generalize (lg_sl ([.ref o, .int v1, .ref u]) ++ List.replicate (4 - (lg_sl ([.ref o, .int v1, .ref u])).length) Slot.unset).toArray = ls at hl ⊢
  have hl : lv_has ls 4 [(0, .ref o), (1, .int v1), (2, .ref u)] := hl
  refine lv_aload_n hx hb dL_closure_0 rfl (lv_at hl 2 rfl) ?_
  refine lv_iconst (v := 0) hx hb dL_closure_1 (by decide) ?_
  refine lv_aload_n hx hb dL_closure_2 rfl (lv_at hl 0 rfl) ?_
  refine lv_iload_n hx hb dL_closure_3 rfl (lv_at hl 1 rfl) ?_
  refine callXV (As := [.int v1]) (rest := [.int 0, .ref u]) ⟨hx, hb, hml, hown, hts⟩ tlB (c_M_closure_bad l dC dI o a q r cI cG la n v C G X D B bu lp hlt v1 hn hbad) kw359 kw360 kw361 kw25 kw362 ⟨rfl, rfl⟩ (n := 1) (by decide +kernel) ⟨Nat.le_of_ble_eq_true rfl, Nat.le_of_ble_eq_true rfl⟩ (roP_preV hP hK (ci := 3) (q0 := 0) rfl rfl) hTh rfl hl.1 rfl (Nat.le_of_ble_eq_true rfl) ⟨Nat.le_of_ble_eq_true rfl, Nat.le_of_ble_eq_true rfl⟩ dL_closure_4 (fun ce q9 H1 hz9 hk9 hce hcv hcl => catch1 hown hts hTh htab (by decide) rfl hce hcv hcl kw186 ?_)
  refine W.eq (g2 := F0 m 12 ls [.ref q9]) rfl ?_
  refine lv_astore_n (lv' := [(3, .ref q9), (0, .ref o), (1, .int v1), (2, .ref u)]) hx hb dL_closure_12 rfl hl (by decide) rfl (fun ls hl => ?_)
  refine lv_iconst (v := 1) hx hb dL_closure_13 (by decide) ?_
  exact W.iret (v := 1) hx hb hr (fun t ht hW => ⟨⟨1, (), rfl, rfl, trivial⟩, by rw [ht]; exact hz9, fun q hq _ => by rw [ht]; exact hk9 q hq⟩) (fun _ h => nomatch h) dL_closure_14
set_option maxHeartbeats 4000000 in
set_option maxRecDepth 100000 in
theorem c_L_best_bad (l : Launch) (dC : Nat → ClassId) (dI : Nat → Nat → Nat) (o : Nat) (a q r : Nat → Nat) (cI cG : ClassId) (la : mcLA) (n v : Nat) (C G X D : Nat → Nat) (B : Nat → Nat → Int) (bu : Nat → Nat) (lp : mcLP) (u : Nat) (hlt : l.stackTraces = false) (v1 : Int32) (hbad : ¬ ¬ v1 < 0) : Met l yL_best wdL_best ({ frames := 8, cells := 1, slots := 6, locals := 123 }) (mcPx (roP (dC, dI) mcCl (mcWT o a q r cI cG la n v C G X D B bu lp) (mcTH cI cG) [.ref o, .int v1, .ref u])) (mcQb 1) 1 6 (fun _ => False) := by
  refine va_MetW (cc := bL_best) (maxL := 4) (ret := (some FieldType.int)) (by decide) rfl ?_
  intro p e s m args below meth c s₁ BB hml hv
  obtain ⟨⟨rfl, hP, hK⟩, hTh⟩ := hv
  have hx := BB.exec
  have hb := BB.bytes
  have hr := BB.returns
  have hts := atoms_spec (ws := wdL_best) BB.pre
  have hown : s.vm.findClass RL = some m.cls := findClass_of_methodNamed BB.named
  have hlocks := BB.notSynchronized
  have htab := vx_table (x := yL_best) BB (hts _ List.mem_cons_self)
  have hS : va_S (fun _ => False) s.heap s.heap [] := va_S.rf
  have hl := lv_entry ([.ref o, .int v1, .ref u]) (n := 4) (Nat.le_of_ble_eq_true rfl)
  rw [lg_entry_eq]
  generalize (lg_sl ([.ref o, .int v1, .ref u]) ++ List.replicate (4 - (lg_sl ([.ref o, .int v1, .ref u])).length) Slot.unset).toArray = ls at hl ⊢
  have hl : lv_has ls 4 [(0, .ref o), (1, .int v1), (2, .ref u)] := hl
  refine lv_aload_n hx hb dL_best_0 rfl (lv_at hl 2 rfl) ?_
  refine lv_iconst (v := 0) hx hb dL_best_1 (by decide) ?_
  refine lv_aload_n hx hb dL_best_2 rfl (lv_at hl 0 rfl) ?_
  refine lv_iload_n hx hb dL_best_3 rfl (lv_at hl 1 rfl) ?_
  refine callXV (As := [.int v1]) (rest := [.int 0, .ref u]) ⟨hx, hb, hml, hown, hts⟩ tlB (c_M_best_bad l dC dI o a q r cI cG la n v C G X D B bu lp hlt v1 hbad) kw373 kw374 kw375 kw25 kw376 ⟨rfl, rfl⟩ (n := 1) (by decide +kernel) ⟨Nat.le_of_ble_eq_true rfl, Nat.le_of_ble_eq_true rfl⟩ (roP_preV hP hK (ci := 3) (q0 := 0) rfl rfl) hTh rfl hl.1 rfl (Nat.le_of_ble_eq_true rfl) ⟨Nat.le_of_ble_eq_true rfl, Nat.le_of_ble_eq_true rfl⟩ dL_best_4 (fun ce q9 H1 hz9 hk9 hce hcv hcl => catch1 hown hts hTh htab (by decide) rfl hce hcv hcl kw186 ?_)
  refine W.eq (g2 := F0 m 12 ls [.ref q9]) rfl ?_
  refine lv_astore_n (lv' := [(3, .ref q9), (0, .ref o), (1, .int v1), (2, .ref u)]) hx hb dL_best_12 rfl hl (by decide) rfl (fun ls hl => ?_)
  refine lv_iconst (v := 1) hx hb dL_best_13 (by decide) ?_
  exact W.iret (v := 1) hx hb hr (fun t ht hW => ⟨⟨1, (), rfl, rfl, trivial⟩, by rw [ht]; exact hz9, fun q hq _ => by rw [ht]; exact hk9 q hq⟩) (fun _ h => nomatch h) dL_best_14
set_option maxHeartbeats 4000000 in
set_option maxRecDepth 100000 in
theorem c_L_frontier_bad (l : Launch) (dC : Nat → ClassId) (dI : Nat → Nat → Nat) (o : Nat) (a q r : Nat → Nat) (cI cG : ClassId) (la : mcLA) (n v : Nat) (C G X D : Nat → Nat) (B : Nat → Nat → Int) (bu : Nat → Nat) (lp : mcLP) (u : Nat) (hlt : l.stackTraces = false) (v1 : Int32) (hbad : ¬ ¬ v1 < 0) : Met l yL_frontier wdL_frontier ({ frames := 8, cells := 1, slots := 6, locals := 123 }) (mcPx (roP (dC, dI) mcCl (mcWT o a q r cI cG la n v C G X D B bu lp) (mcTH cI cG) [.ref o, .int v1, .ref u])) (mcQb 1) 1 6 (fun _ => False) := by
  refine va_MetW (cc := bL_frontier) (maxL := 4) (ret := (some FieldType.int)) (by decide) rfl ?_
  intro p e s m args below meth c s₁ BB hml hv
  obtain ⟨⟨rfl, hP, hK⟩, hTh⟩ := hv
  have hx := BB.exec
  have hb := BB.bytes
  have hr := BB.returns
  have hts := atoms_spec (ws := wdL_frontier) BB.pre
  have hown : s.vm.findClass RL = some m.cls := findClass_of_methodNamed BB.named
  have hlocks := BB.notSynchronized
  have htab := vx_table (x := yL_frontier) BB (hts _ List.mem_cons_self)
  have hS : va_S (fun _ => False) s.heap s.heap [] := va_S.rf
  have hl := lv_entry ([.ref o, .int v1, .ref u]) (n := 4) (Nat.le_of_ble_eq_true rfl)
  rw [lg_entry_eq]
  generalize (lg_sl ([.ref o, .int v1, .ref u]) ++ List.replicate (4 - (lg_sl ([.ref o, .int v1, .ref u])).length) Slot.unset).toArray = ls at hl ⊢
  have hl : lv_has ls 4 [(0, .ref o), (1, .int v1), (2, .ref u)] := hl
  refine lv_aload_n hx hb dL_frontier_0 rfl (lv_at hl 2 rfl) ?_
  refine lv_iconst (v := 0) hx hb dL_frontier_1 (by decide) ?_
  refine lv_aload_n hx hb dL_frontier_2 rfl (lv_at hl 0 rfl) ?_
  refine lv_iload_n hx hb dL_frontier_3 rfl (lv_at hl 1 rfl) ?_
  refine callXV (As := [.int v1]) (rest := [.int 0, .ref u]) ⟨hx, hb, hml, hown, hts⟩ tlB (c_M_frontier_bad l dC dI o a q r cI cG la n v C G X D B bu lp hlt v1 hbad) kw397 kw398 kw399 kw25 kw400 ⟨rfl, rfl⟩ (n := 1) (by decide +kernel) ⟨Nat.le_of_ble_eq_true rfl, Nat.le_of_ble_eq_true rfl⟩ (roP_preV hP hK (ci := 3) (q0 := 0) rfl rfl) hTh rfl hl.1 rfl (Nat.le_of_ble_eq_true rfl) ⟨Nat.le_of_ble_eq_true rfl, Nat.le_of_ble_eq_true rfl⟩ dL_frontier_4 (fun ce q9 H1 hz9 hk9 hce hcv hcl => catch1 hown hts hTh htab (by decide) rfl hce hcv hcl kw186 ?_)
  refine W.eq (g2 := F0 m 12 ls [.ref q9]) rfl ?_
  refine lv_astore_n (lv' := [(3, .ref q9), (0, .ref o), (1, .int v1), (2, .ref u)]) hx hb dL_frontier_12 rfl hl (by decide) rfl (fun ls hl => ?_)
  refine lv_iconst (v := 1) hx hb dL_frontier_13 (by decide) ?_
  exact W.iret (v := 1) hx hb hr (fun t ht hW => ⟨⟨1, (), rfl, rfl, trivial⟩, by rw [ht]; exact hz9, fun q hq _ => by rw [ht]; exact hk9 q hq⟩) (fun _ h => nomatch h) dL_frontier_14
set_option maxHeartbeats 4000000 in
set_option maxRecDepth 100000 in
theorem c_L_worth_bad (l : Launch) (dC : Nat → ClassId) (dI : Nat → Nat → Nat) (o : Nat) (a q r : Nat → Nat) (cI cG : ClassId) (la : mcLA) (n v : Nat) (C G X D : Nat → Nat) (B : Nat → Nat → Int) (bu : Nat → Nat) (lp : mcLP) (u : Nat) (hlt : l.stackTraces = false) (v1 v2 : Int32) (hbad : ¬ (¬ v1 < 0 ∧ ¬ v2 < 0 ∧ v1.toInt + v2.toInt ≤ 1000000)) : Met l yL_worth wdL_worth ({ frames := 8, cells := 1, slots := 6, locals := 125 }) (mcPx (roP (dC, dI) mcCl (mcWT o a q r cI cG la n v C G X D B bu lp) (mcTH cI cG) [.ref o, .int v1, .int v2, .ref u])) (mcQb 1) 1 6 (fun _ => False) := by
  refine va_MetW (cc := bL_worth) (maxL := 5) (ret := (some FieldType.int)) (by decide) rfl ?_
  intro p e s m args below meth c s₁ BB hml hv
  obtain ⟨⟨rfl, hP, hK⟩, hTh⟩ := hv
  have hx := BB.exec
  have hb := BB.bytes
  have hr := BB.returns
  have hts := atoms_spec (ws := wdL_worth) BB.pre
  have hown : s.vm.findClass RL = some m.cls := findClass_of_methodNamed BB.named
  have hlocks := BB.notSynchronized
  have htab := vx_table (x := yL_worth) BB (hts _ List.mem_cons_self)
  have hS : va_S (fun _ => False) s.heap s.heap [] := va_S.rf
  have hl := lv_entry ([.ref o, .int v1, .int v2, .ref u]) (n := 5) (Nat.le_of_ble_eq_true rfl)
  rw [lg_entry_eq]
  generalize (lg_sl ([.ref o, .int v1, .int v2, .ref u]) ++ List.replicate (5 - (lg_sl ([.ref o, .int v1, .int v2, .ref u])).length) Slot.unset).toArray = ls at hl ⊢
  have hl : lv_has ls 5 [(0, .ref o), (1, .int v1), (2, .int v2), (3, .ref u)] := hl
  refine lv_aload_n hx hb dL_worth_0 rfl (lv_at hl 3 rfl) ?_
  refine lv_iconst (v := 0) hx hb dL_worth_1 (by decide) ?_
  refine lv_aload_n hx hb dL_worth_2 rfl (lv_at hl 0 rfl) ?_
  refine lv_iload_n hx hb dL_worth_3 rfl (lv_at hl 1 rfl) ?_
  refine lv_iload_n hx hb dL_worth_4 rfl (lv_at hl 2 rfl) ?_
  refine callXV (As := [.int v1, .int v2]) (rest := [.int 0, .ref u]) ⟨hx, hb, hml, hown, hts⟩ tlB (c_M_worth_bad l dC dI o a q r cI cG la n v C G X D B bu lp hlt v1 v2 hbad) kw388 kw389 kw390 kw25 kw391 ⟨rfl, rfl⟩ (n := 2) (by decide +kernel) ⟨Nat.le_of_ble_eq_true rfl, Nat.le_of_ble_eq_true rfl⟩ (roP_preV hP hK (ci := 3) (q0 := 0) rfl rfl) hTh rfl hl.1 rfl (Nat.le_of_ble_eq_true rfl) ⟨Nat.le_of_ble_eq_true rfl, Nat.le_of_ble_eq_true rfl⟩ dL_worth_5 (fun ce q9 H1 hz9 hk9 hce hcv hcl => catch1 hown hts hTh htab (by decide) rfl hce hcv hcl kw186 ?_)
  refine W.eq (g2 := F0 m 13 ls [.ref q9]) rfl ?_
  refine lv_astore (lv' := [(4, .ref q9), (0, .ref o), (1, .int v1), (2, .int v2), (3, .ref u)]) hx hb dL_worth_13 hl (by decide) rfl (fun ls hl => ?_)
  refine lv_iconst (v := 1) hx hb dL_worth_15 (by decide) ?_
  exact W.iret (v := 1) hx hb hr (fun t ht hW => ⟨⟨1, (), rfl, rfl, trivial⟩, by rw [ht]; exact hz9, fun q hq _ => by rw [ht]; exact hk9 q hq⟩) (fun _ h => nomatch h) dL_worth_16
set_option maxHeartbeats 4000000 in
set_option maxRecDepth 100000 in
theorem c_L_year_bad (l : Launch) (dC : Nat → ClassId) (dI : Nat → Nat → Nat) (o : Nat) (a q r : Nat → Nat) (cI cG : ClassId) (la : mcLA) (n v : Nat) (C G X D : Nat → Nat) (B : Nat → Nat → Int) (bu : Nat → Nat) (lp : mcLP) (u : Nat) (hlt : l.stackTraces = false) (v1 v2 : Int32) (hbad : ¬ ((0 ≤ v1 ∧ v1 ≤ 3) ∧ (0 ≤ v2 ∧ v2 ≤ 100000))) : Met l yL_year wdL_year ({ frames := 8, cells := 1, slots := 6, locals := 127 }) (mcPx (roP (dC, dI) mcCl (mcWT o a q r cI cG la n v C G X D B bu lp) (mcTH cI cG) [.ref o, .int v1, .int v2, .ref u])) (mcQb 1) 1 6 (fun _ => False) := by
  refine va_MetW (cc := bL_year) (maxL := 5) (ret := (some FieldType.int)) (by decide) rfl ?_
  intro p e s m args below meth c s₁ BB hml hv
  obtain ⟨⟨rfl, hP, hK⟩, hTh⟩ := hv
  have hx := BB.exec
  have hb := BB.bytes
  have hr := BB.returns
  have hts := atoms_spec (ws := wdL_year) BB.pre
  have hown : s.vm.findClass RL = some m.cls := findClass_of_methodNamed BB.named
  have hlocks := BB.notSynchronized
  have htab := vx_table (x := yL_year) BB (hts _ List.mem_cons_self)
  have hS : va_S (fun _ => False) s.heap s.heap [] := va_S.rf
  have hl := lv_entry ([.ref o, .int v1, .int v2, .ref u]) (n := 5) (Nat.le_of_ble_eq_true rfl)
  rw [lg_entry_eq]
  generalize (lg_sl ([.ref o, .int v1, .int v2, .ref u]) ++ List.replicate (5 - (lg_sl ([.ref o, .int v1, .int v2, .ref u])).length) Slot.unset).toArray = ls at hl ⊢
  have hl : lv_has ls 5 [(0, .ref o), (1, .int v1), (2, .int v2), (3, .ref u)] := hl
  refine lv_aload_n hx hb dL_year_0 rfl (lv_at hl 3 rfl) ?_
  refine lv_iconst (v := 0) hx hb dL_year_1 (by decide) ?_
  refine lv_aload_n hx hb dL_year_2 rfl (lv_at hl 0 rfl) ?_
  refine lv_iload_n hx hb dL_year_3 rfl (lv_at hl 1 rfl) ?_
  refine lv_iload_n hx hb dL_year_4 rfl (lv_at hl 2 rfl) ?_
  refine callXV (As := [.int v1, .int v2]) (rest := [.int 0, .ref u]) ⟨hx, hb, hml, hown, hts⟩ tlB (c_M_year_bad l dC dI o a q r cI cG la n v C G X D B bu lp hlt v1 v2 hbad) kw404 kw405 kw406 kw25 kw407 ⟨rfl, rfl⟩ (n := 2) (by decide +kernel) ⟨Nat.le_of_ble_eq_true rfl, Nat.le_of_ble_eq_true rfl⟩ (roP_preV hP hK (ci := 3) (q0 := 0) rfl rfl) hTh rfl hl.1 rfl (Nat.le_of_ble_eq_true rfl) ⟨Nat.le_of_ble_eq_true rfl, Nat.le_of_ble_eq_true rfl⟩ dL_year_5 (fun ce q9 H1 hz9 hk9 hce hcv hcl => catch1 hown hts hTh htab (by decide) rfl hce hcv hcl kw186 ?_)
  refine W.eq (g2 := F0 m 13 ls [.ref q9]) rfl ?_
  refine lv_astore (lv' := [(4, .ref q9), (0, .ref o), (1, .int v1), (2, .int v2), (3, .ref u)]) hx hb dL_year_13 hl (by decide) rfl (fun ls hl => ?_)
  refine lv_iconst (v := 1) hx hb dL_year_15 (by decide) ?_
  exact W.iret (v := 1) hx hb hr (fun t ht hW => ⟨⟨1, (), rfl, rfl, trivial⟩, by rw [ht]; exact hz9, fun q hq _ => by rw [ht]; exact hk9 q hq⟩) (fun _ h => nomatch h) dL_year_16
set_option maxHeartbeats 4000000 in
set_option maxRecDepth 100000 in
theorem c_L_plan_bad (l : Launch) (dC : Nat → ClassId) (dI : Nat → Nat → Nat) (o : Nat) (a q r : Nat → Nat) (cI cG : ClassId) (la : mcLA) (n v : Nat) (C G X D : Nat → Nat) (B : Nat → Nat → Int) (bu : Nat → Nat) (lp : mcLP) (u : Nat) (hlt : l.stackTraces = false) (v1 v2 : Int32) (hbad : ¬ ((1 ≤ v1 ∧ v1 ≤ 4) ∧ (0 ≤ v2 ∧ v2 ≤ v1 - 1))) : Met l yL_plan wdL_plan ({ frames := 8, cells := 1, slots := 6, locals := 126 }) (mcPx (roP (dC, dI) mcCl (mcWT o a q r cI cG la n v C G X D B bu lp) (mcTH cI cG) [.ref o, .int v1, .int v2, .ref u])) (mcQb 1) 1 6 (fun _ => False) := by
  refine va_MetW (cc := bL_plan) (maxL := 5) (ret := (some FieldType.int)) (by decide) rfl ?_
  intro p e s m args below meth c s₁ BB hml hv
  obtain ⟨⟨rfl, hP, hK⟩, hTh⟩ := hv
  have hx := BB.exec
  have hb := BB.bytes
  have hr := BB.returns
  have hts := atoms_spec (ws := wdL_plan) BB.pre
  have hown : s.vm.findClass RL = some m.cls := findClass_of_methodNamed BB.named
  have hlocks := BB.notSynchronized
  have htab := vx_table (x := yL_plan) BB (hts _ List.mem_cons_self)
  have hS : va_S (fun _ => False) s.heap s.heap [] := va_S.rf
  have hl := lv_entry ([.ref o, .int v1, .int v2, .ref u]) (n := 5) (Nat.le_of_ble_eq_true rfl)
  rw [lg_entry_eq]
  generalize (lg_sl ([.ref o, .int v1, .int v2, .ref u]) ++ List.replicate (5 - (lg_sl ([.ref o, .int v1, .int v2, .ref u])).length) Slot.unset).toArray = ls at hl ⊢
  have hl : lv_has ls 5 [(0, .ref o), (1, .int v1), (2, .int v2), (3, .ref u)] := hl
  refine lv_aload_n hx hb dL_plan_0 rfl (lv_at hl 3 rfl) ?_
  refine lv_iconst (v := 0) hx hb dL_plan_1 (by decide) ?_
  refine lv_aload_n hx hb dL_plan_2 rfl (lv_at hl 0 rfl) ?_
  refine lv_iload_n hx hb dL_plan_3 rfl (lv_at hl 1 rfl) ?_
  refine lv_iload_n hx hb dL_plan_4 rfl (lv_at hl 2 rfl) ?_
  refine callXV (As := [.int v1, .int v2]) (rest := [.int 0, .ref u]) ⟨hx, hb, hml, hown, hts⟩ tlB (c_M_plan_bad l dC dI o a q r cI cG la n v C G X D B bu lp hlt v1 v2 hbad) kw412 kw413 kw414 kw25 kw415 ⟨rfl, rfl⟩ (n := 2) (by decide +kernel) ⟨Nat.le_of_ble_eq_true rfl, Nat.le_of_ble_eq_true rfl⟩ (roP_preV hP hK (ci := 3) (q0 := 0) rfl rfl) hTh rfl hl.1 rfl (Nat.le_of_ble_eq_true rfl) ⟨Nat.le_of_ble_eq_true rfl, Nat.le_of_ble_eq_true rfl⟩ dL_plan_5 (fun ce q9 H1 hz9 hk9 hce hcv hcl => catch1 hown hts hTh htab (by decide) rfl hce hcv hcl kw186 ?_)
  refine W.eq (g2 := F0 m 13 ls [.ref q9]) rfl ?_
  refine lv_astore (lv' := [(4, .ref q9), (0, .ref o), (1, .int v1), (2, .int v2), (3, .ref u)]) hx hb dL_plan_13 hl (by decide) rfl (fun ls hl => ?_)
  refine lv_iconst (v := 1) hx hb dL_plan_15 (by decide) ?_
  exact W.iret (v := 1) hx hb hr (fun t ht hW => ⟨⟨1, (), rfl, rfl, trivial⟩, by rw [ht]; exact hz9, fun q hq _ => by rw [ht]; exact hk9 q hq⟩) (fun _ h => nomatch h) dL_plan_16
set_option maxHeartbeats 4000000 in
set_option maxRecDepth 100000 in
theorem c_L_planned_bad (l : Launch) (dC : Nat → ClassId) (dI : Nat → Nat → Nat) (o : Nat) (a q r : Nat → Nat) (cI cG : ClassId) (la : mcLA) (n v : Nat) (C G X D : Nat → Nat) (B : Nat → Nat → Int) (bu : Nat → Nat) (lp : mcLP) (u : Nat) (hlt : l.stackTraces = false) (v1 : Int32) (hbad : ¬ (1 ≤ v1 ∧ v1 ≤ 4)) : Met l yL_planned wdL_planned ({ frames := 8, cells := 1, slots := 6, locals := 125 }) (mcPx (roP (dC, dI) mcCl (mcWT o a q r cI cG la n v C G X D B bu lp) (mcTH cI cG) [.ref o, .int v1, .ref u])) (mcQb 1) 1 6 (fun _ => False) := by
  refine va_MetW (cc := bL_planned) (maxL := 4) (ret := (some FieldType.int)) (by decide) rfl ?_
  intro p e s m args below meth c s₁ BB hml hv
  obtain ⟨⟨rfl, hP, hK⟩, hTh⟩ := hv
  have hx := BB.exec
  have hb := BB.bytes
  have hr := BB.returns
  have hts := atoms_spec (ws := wdL_planned) BB.pre
  have hown : s.vm.findClass RL = some m.cls := findClass_of_methodNamed BB.named
  have hlocks := BB.notSynchronized
  have htab := vx_table (x := yL_planned) BB (hts _ List.mem_cons_self)
  have hS : va_S (fun _ => False) s.heap s.heap [] := va_S.rf
  have hl := lv_entry ([.ref o, .int v1, .ref u]) (n := 4) (Nat.le_of_ble_eq_true rfl)
  rw [lg_entry_eq]
  generalize (lg_sl ([.ref o, .int v1, .ref u]) ++ List.replicate (4 - (lg_sl ([.ref o, .int v1, .ref u])).length) Slot.unset).toArray = ls at hl ⊢
  have hl : lv_has ls 4 [(0, .ref o), (1, .int v1), (2, .ref u)] := hl
  refine lv_aload_n hx hb dL_planned_0 rfl (lv_at hl 2 rfl) ?_
  refine lv_iconst (v := 0) hx hb dL_planned_1 (by decide) ?_
  refine lv_aload_n hx hb dL_planned_2 rfl (lv_at hl 0 rfl) ?_
  refine lv_iload_n hx hb dL_planned_3 rfl (lv_at hl 1 rfl) ?_
  refine callXV (As := [.int v1]) (rest := [.int 0, .ref u]) ⟨hx, hb, hml, hown, hts⟩ tlB (c_M_planned_bad l dC dI o a q r cI cG la n v C G X D B bu lp hlt v1 hbad) kw449 kw450 kw451 kw25 kw452 ⟨rfl, rfl⟩ (n := 1) (by decide +kernel) ⟨Nat.le_of_ble_eq_true rfl, Nat.le_of_ble_eq_true rfl⟩ (roP_preV hP hK (ci := 3) (q0 := 0) rfl rfl) hTh rfl hl.1 rfl (Nat.le_of_ble_eq_true rfl) ⟨Nat.le_of_ble_eq_true rfl, Nat.le_of_ble_eq_true rfl⟩ dL_planned_4 (fun ce q9 H1 hz9 hk9 hce hcv hcl => catch1 hown hts hTh htab (by decide) rfl hce hcv hcl kw186 ?_)
  refine W.eq (g2 := F0 m 12 ls [.ref q9]) rfl ?_
  refine lv_astore_n (lv' := [(3, .ref q9), (0, .ref o), (1, .int v1), (2, .ref u)]) hx hb dL_planned_12 rfl hl (by decide) rfl (fun ls hl => ?_)
  refine lv_iconst (v := 1) hx hb dL_planned_13 (by decide) ?_
  exact W.iret (v := 1) hx hb hr (fun t ht hW => ⟨⟨1, (), rfl, rfl, trivial⟩, by rw [ht]; exact hz9, fun q hq _ => by rw [ht]; exact hk9 q hq⟩) (fun _ h => nomatch h) dL_planned_14
