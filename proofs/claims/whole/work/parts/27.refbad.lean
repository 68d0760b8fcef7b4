/-! the reference: its public methods, where an argument is not good: nothing changes but what is told of it -/
set_option maxHeartbeats 4000000 in
set_option maxRecDepth 100000 in
theorem c_R_measure_bad (l : Launch) (dC : Nat → ClassId) (dI : Nat → Nat → Nat) (w : Nat → Nat) (cI cZ : ClassId) (th n : Nat) (C G X D : Nat → Nat) (B : Nat → Nat → Int) (bu : Nat → Nat) (LG : Nat → Int) (LC : Nat → Nat) (ch : Nat → Int) (sz : Nat) (v1 v2 : Int32) (hbad : ¬ ((1 ≤ v1 ∧ v1 ≤ 10000) ∧ (0 ≤ v2 ∧ v2 ≤ 10000))) : Met l yR_measure wdR_measure ({ frames := 1, cells := 0, slots := 0, locals := 22 }) (wrP (dC, dI) mcCl (mcWR w cI cZ th n C G X D B bu LG LC ch) (mcTR cI cZ) sz [.ref (w 0), .int v1, .int v2]) (va_Qi (fun z9 (_ : Unit) => z9 = 0) (fun _ t => va_P (dC, dI) mcCl (mcWR w cI cZ 1 n C G X D B bu LG LC ch) t.heap ∧ va_K (dC, dI) mcCl (mcTR cI cZ) t ∧ va_D (va_A (mcWR w cI cZ th n C G X D B bu LG LC ch) sz) (mcWR w cI cZ 1 n C G X D B bu LG LC ch)) (va_A (mcWR w cI cZ th n C G X D B bu LG LC ch) sz)) 0 0 (va_A (mcWR w cI cZ th n C G X D B bu LG LC ch) sz) := by
  refine Met.ofW (cc := bR_measure) (maxL := 3) (ret := (some FieldType.int)) (by decide) rfl ?_
  intro p e s m args below meth c s₁ BB hml hv
  obtain ⟨rfl, hsz, hP, hK, hD0⟩ := hv
  have hx := BB.exec
  have hb := BB.bytes
  have hr := BB.returns
  have hts := atoms_spec (ws := wdR_measure) BB.pre
  have hown : s.vm.findClass RR = some m.cls := findClass_of_methodNamed BB.named
  have hlocks := BB.notSynchronized
  subst hsz
  have hD := hD0.self (sz := s.heap.size)
  generalize hAe : va_A (mcWR w cI cZ th n C G X D B bu LG LC ch) s.heap.size = A at hD ⊢
  have hA : ∀ q : Nat, s.heap.size ≤ q → A q := fun q h => by rw [← hAe]; exact Or.inr h
  have hS : va_S A s.heap s.heap [] := va_S.rf
  have hl := lv_entry ([.ref (w 0), .int v1, .int v2]) (n := 3) (Nat.le_of_ble_eq_true rfl)
  rw [lg_entry_eq]
  generalize (lg_sl ([.ref (w 0), .int v1, .int v2]) ++ List.replicate (3 - (lg_sl ([.ref (w 0), .int v1, .int v2])).length) Slot.unset).toArray = ls at hl ⊢
  have hl : lv_has ls 3 [(0, .ref (w 0)), (1, .int v1), (2, .int v2)] := hl
  refine mcCut (nL := 3) 28 [.int 0, .ref (w 0)] [(0, .ref (w 0)), (1, .int v1), (2, .int v2)] (fun ls hl => ?_) (fun K9 => ?_)
  ·
    refine callWVi (As := [.int 0]) (rest := []) ⟨hx, hb, hml, hown, hts⟩ tlB (c_R_good0 l dC dI w cI cZ th n C G X D B bu LG LC ch s.heap.size) kw505 kw506 kw14 kw29 kw507 ⟨rfl, rfl⟩ (n := 1) (by decide +kernel) ⟨Nat.le_of_ble_eq_true rfl, Nat.le_of_ble_eq_true rfl⟩ hP hK hD hS (freeA hD hS hA) (ci := 4) (q0 := 0) rfl rfl rfl hl.1 rfl (Nat.le_of_ble_eq_true rfl) ⟨Nat.le_of_ble_eq_true rfl, Nat.le_of_ble_eq_true rfl⟩ dR_measure_28 (fun rg H1 locs1 hrg hP1 hD1 hk1 hS1 => ?_)
    have hD := hD1.weaken (fun _ z _ h => (freeA hD hS hA) z.1 h)
    have hP := hP1
    have hS := hS1
    have hrg : rg = 0 := hrg
    subst hrg
    refine lv_if_ne (tgt := 36) hx hb dR_measure_31 (by decide) (fun cg => ?_) (fun cg => ?_)
    · exact absurd (rfl : (0 : Int32) = 0) cg
    ·
      refine lv_iconst (v := 0) hx hb dR_measure_34 (by decide) ?_
      exact W.iret (v := 0) hx hb hr (fun t ht hW => ⟨⟨0, (), rfl, rfl, by rw [ht]; exact hP, va_K.moved hW.alike hK, hD⟩, hS.F ht⟩) hS.2.2 dR_measure_35
  ·
    refine lv_aload_n hx hb dR_measure_0 rfl (lv_at hl 0 rfl) ?_
    refine lv_iload_n hx hb dR_measure_1 rfl (lv_at hl 1 rfl) ?_
    refine lv_iconst (v := 1) hx hb dR_measure_2 (by decide) ?_
    refine lv_sipush (v := 10000) hx hb dR_measure_3 (by decide) ?_
    refine callRS (As := [.int v1, .int 1, .int 10000]) (rest := [.ref (w 0)]) ⟨hx, hb, hml, hown, hts⟩ tlB (c_R_in l v1 1 10000) kw502 kw503 kw29 kw504 ⟨rfl, rfl⟩ (n := 3) (by decide +kernel) ⟨Nat.le_of_ble_eq_true rfl, Nat.le_of_ble_eq_true rfl⟩ (nwP_pre) rfl hl.1 rfl (Nat.le_of_ble_eq_true rfl) ⟨Nat.le_of_ble_eq_true rfl, Nat.le_of_ble_eq_true rfl⟩ dR_measure_6 (fun r1 hr1 => ?_)
    refine lv_if_eq (tgt := 27) hx hb dR_measure_9 (by decide) (fun k2 => ?_) (fun k2 => ?_)
    ·
      refine lv_iconst (v := 0) hx hb dR_measure_27 (by decide) ?_
      exact K9 ls hl
    ·
      refine lv_iload_n hx hb dR_measure_12 rfl (lv_at hl 2 rfl) ?_
      refine lv_iconst (v := 0) hx hb dR_measure_13 (by decide) ?_
      refine lv_sipush (v := 10000) hx hb dR_measure_14 (by decide) ?_
      refine callRS (As := [.int v2, .int 0, .int 10000]) (rest := [.ref (w 0)]) ⟨hx, hb, hml, hown, hts⟩ tlB (c_R_in l v2 0 10000) kw502 kw503 kw29 kw504 ⟨rfl, rfl⟩ (n := 3) (by decide +kernel) ⟨Nat.le_of_ble_eq_true rfl, Nat.le_of_ble_eq_true rfl⟩ (nwP_pre) rfl hl.1 rfl (Nat.le_of_ble_eq_true rfl) ⟨Nat.le_of_ble_eq_true rfl, Nat.le_of_ble_eq_true rfl⟩ dR_measure_17 (fun r3 hr3 => ?_)
      refine lv_if_eq (tgt := 27) hx hb dR_measure_20 (by decide) (fun k4 => ?_) (fun k4 => ?_)
      ·
        refine lv_iconst (v := 0) hx hb dR_measure_27 (by decide) ?_
        exact K9 ls hl
      ·
        exact absurd ⟨mcZ_t hr1 k2, mcZ_t hr3 k4⟩ hbad
set_option maxHeartbeats 4000000 in
set_option maxRecDepth 100000 in
theorem c_R_change_bad (l : Launch) (dC : Nat → ClassId) (dI : Nat → Nat → Nat) (w : Nat → Nat) (cI cZ : ClassId) (th n : Nat) (C G X D : Nat → Nat) (B : Nat → Nat → Int) (bu : Nat → Nat) (LG : Nat → Int) (LC : Nat → Nat) (ch : Nat → Int) (sz : Nat) (v1 v2 v3 : Int32) (hn : n ≤ 12) (hbad : ¬ ((∃ k, k < n ∧ v1 = nI k) ∧ (1 ≤ v2 ∧ v2 ≤ 10000) ∧ (0 ≤ v3 ∧ v3 ≤ 10000))) : Met l yR_change wdR_change ({ frames := 2, cells := 0, slots := 0, locals := 43 }) (wrP (dC, dI) mcCl (mcWR w cI cZ th n C G X D B bu LG LC ch) (mcTR cI cZ) sz [.ref (w 0), .int v1, .int v2, .int v3]) (va_Qv (fun x : Unit => True) (fun x t => va_P (dC, dI) mcCl (mcWR w cI cZ 1 n C G X D B bu LG LC ch) t.heap ∧ va_K (dC, dI) mcCl (mcTR cI cZ) t ∧ va_D (va_A (mcWR w cI cZ th n C G X D B bu LG LC ch) sz) (mcWR w cI cZ 1 n C G X D B bu LG LC ch)) (va_A (mcWR w cI cZ th n C G X D B bu LG LC ch) sz)) 0 0 (va_A (mcWR w cI cZ th n C G X D B bu LG LC ch) sz) := by
  refine Met.ofW (cc := bR_change) (maxL := 4) (ret := none) (by decide) rfl ?_
  intro p e s m args below meth c s₁ BB hml hv
  obtain ⟨rfl, hsz, hP, hK, hD0⟩ := hv
  have hx := BB.exec
  have hb := BB.bytes
  have hr := BB.returns
  have hts := atoms_spec (ws := wdR_change) BB.pre
  have hown : s.vm.findClass RR = some m.cls := findClass_of_methodNamed BB.named
  have hlocks := BB.notSynchronized
  subst hsz
  have hD := hD0.self (sz := s.heap.size)
  generalize hAe : va_A (mcWR w cI cZ th n C G X D B bu LG LC ch) s.heap.size = A at hD ⊢
  have hA : ∀ q : Nat, s.heap.size ≤ q → A q := fun q h => by rw [← hAe]; exact Or.inr h
  have hS : va_S A s.heap s.heap [] := va_S.rf
  have hl := lv_entry ([.ref (w 0), .int v1, .int v2, .int v3]) (n := 4) (Nat.le_of_ble_eq_true rfl)
  rw [lg_entry_eq]
  generalize (lg_sl ([.ref (w 0), .int v1, .int v2, .int v3]) ++ List.replicate (4 - (lg_sl ([.ref (w 0), .int v1, .int v2, .int v3])).length) Slot.unset).toArray = ls at hl ⊢
  have hl : lv_has ls 4 [(0, .ref (w 0)), (1, .int v1), (2, .int v2), (3, .int v3)] := hl
  refine mcCut (nL := 4) 36 [.int 0, .ref (w 0)] [(0, .ref (w 0)), (1, .int v1), (2, .int v2), (3, .int v3)] (fun ls hl => ?_) (fun K9 => ?_)
  ·
    refine callWVi (As := [.int 0]) (rest := []) ⟨hx, hb, hml, hown, hts⟩ tlB (c_R_good0 l dC dI w cI cZ th n C G X D B bu LG LC ch s.heap.size) kw505 kw506 kw14 kw29 kw507 ⟨rfl, rfl⟩ (n := 1) (by decide +kernel) ⟨Nat.le_of_ble_eq_true rfl, Nat.le_of_ble_eq_true rfl⟩ hP hK hD hS (freeA hD hS hA) (ci := 4) (q0 := 0) rfl rfl rfl hl.1 rfl (Nat.le_of_ble_eq_true rfl) ⟨Nat.le_of_ble_eq_true rfl, Nat.le_of_ble_eq_true rfl⟩ dR_change_36 (fun rg H1 locs1 hrg hP1 hD1 hk1 hS1 => ?_)
    have hD := hD1.weaken (fun _ z _ h => (freeA hD hS hA) z.1 h)
    have hP := hP1
    have hS := hS1
    have hrg : rg = 0 := hrg
    subst hrg
    refine lv_if_eq (tgt := 56) hx hb dR_change_39 (by decide) (fun cg => ?_) (fun cg => ?_)
    ·
      exact W.vret hx hb hr (fun t ht hW => ⟨⟨(), rfl, trivial, by rw [ht]; exact hP, va_K.moved hW.alike hK, hD⟩, hS.F ht⟩) hS.2.2 dR_change_56
    · exact absurd (rfl : (0 : Int32) = 0) cg
  ·
    refine lv_aload_n hx hb dR_change_0 rfl (lv_at hl 0 rfl) ?_
    refine lv_aload_n hx hb dR_change_1 rfl (lv_at hl 0 rfl) ?_
    refine lv_iload_n hx hb dR_change_2 rfl (lv_at hl 1 rfl) ?_
    refine callRV (As := [.int v1]) (rest := [.ref (w 0)]) ⟨hx, hb, hml, hown, hts⟩ tlB (c_R_is l dC dI w cI cZ th n C G X D B bu LG LC ch v1 hn) kw512 kw513 kw15 kw29 kw514 ⟨rfl, rfl⟩ (n := 1) (by decide +kernel) ⟨Nat.le_of_ble_eq_true rfl, Nat.le_of_ble_eq_true rfl⟩ (roP_preV hP hK (ci := 4) (q0 := 0) rfl rfl) rfl hl.1 rfl (Nat.le_of_ble_eq_true rfl) ⟨Nat.le_of_ble_eq_true rfl, Nat.le_of_ble_eq_true rfl⟩ dR_change_3 (fun r1 hr1 => ?_)
    refine lv_if_eq (tgt := 35) hx hb dR_change_6 (by decide) (fun k2 => ?_) (fun k2 => ?_)
    ·
      refine lv_iconst (v := 0) hx hb dR_change_35 (by decide) ?_
      exact K9 ls hl
    ·
      refine lv_iload_n hx hb dR_change_9 rfl (lv_at hl 2 rfl) ?_
      refine lv_iconst (v := 1) hx hb dR_change_10 (by decide) ?_
      refine lv_sipush (v := 10000) hx hb dR_change_11 (by decide) ?_
      refine callRS (As := [.int v2, .int 1, .int 10000]) (rest := [.ref (w 0)]) ⟨hx, hb, hml, hown, hts⟩ tlB (c_R_in l v2 1 10000) kw502 kw503 kw29 kw504 ⟨rfl, rfl⟩ (n := 3) (by decide +kernel) ⟨Nat.le_of_ble_eq_true rfl, Nat.le_of_ble_eq_true rfl⟩ (nwP_pre) rfl hl.1 rfl (Nat.le_of_ble_eq_true rfl) ⟨Nat.le_of_ble_eq_true rfl, Nat.le_of_ble_eq_true rfl⟩ dR_change_14 (fun r3 hr3 => ?_)
      refine lv_if_eq (tgt := 35) hx hb dR_change_17 (by decide) (fun k4 => ?_) (fun k4 => ?_)
      ·
        refine lv_iconst (v := 0) hx hb dR_change_35 (by decide) ?_
        exact K9 ls hl
      ·
        refine lv_iload_n hx hb dR_change_20 rfl (lv_at hl 3 rfl) ?_
        refine lv_iconst (v := 0) hx hb dR_change_21 (by decide) ?_
        refine lv_sipush (v := 10000) hx hb dR_change_22 (by decide) ?_
        refine callRS (As := [.int v3, .int 0, .int 10000]) (rest := [.ref (w 0)]) ⟨hx, hb, hml, hown, hts⟩ tlB (c_R_in l v3 0 10000) kw502 kw503 kw29 kw504 ⟨rfl, rfl⟩ (n := 3) (by decide +kernel) ⟨Nat.le_of_ble_eq_true rfl, Nat.le_of_ble_eq_true rfl⟩ (nwP_pre) rfl hl.1 rfl (Nat.le_of_ble_eq_true rfl) ⟨Nat.le_of_ble_eq_true rfl, Nat.le_of_ble_eq_true rfl⟩ dR_change_25 (fun r5 hr5 => ?_)
        refine lv_if_eq (tgt := 35) hx hb dR_change_28 (by decide) (fun k6 => ?_) (fun k6 => ?_)
        ·
          refine lv_iconst (v := 0) hx hb dR_change_35 (by decide) ?_
          exact K9 ls hl
        ·
          exact absurd ⟨mcZ_t hr1 k2, mcZ_t hr3 k4, mcZ_t hr5 k6⟩ hbad
set_option maxHeartbeats 4000000 in
set_option maxRecDepth 100000 in
theorem c_R_exclude_bad (l : Launch) (dC : Nat → ClassId) (dI : Nat → Nat → Nat) (w : Nat → Nat) (cI cZ : ClassId) (th n : Nat) (C G X D : Nat → Nat) (B : Nat → Nat → Int) (bu : Nat → Nat) (LG : Nat → Int) (LC : Nat → Nat) (ch : Nat → Int) (sz : Nat) (v1 v2 o : Int32) (hn : n ≤ 12) (hbad : ¬ ((∃ k, k < n ∧ v1 = nI k) ∧ (∃ k, k < n ∧ v2 = nI k) ∧ ¬ v1 = v2)) : Met l yR_exclude wdR_exclude ({ frames := 2, cells := 0, slots := 0, locals := 43 }) (wrP (dC, dI) mcCl (mcWR w cI cZ th n C G X D B bu LG LC ch) (mcTR cI cZ) sz [.ref (w 0), .int v1, .int v2, .int o]) (va_Qi (fun z9 (_ : Unit) => z9 = 0) (fun _ t => va_P (dC, dI) mcCl (mcWR w cI cZ 1 n C G X D B bu LG LC ch) t.heap ∧ va_K (dC, dI) mcCl (mcTR cI cZ) t ∧ va_D (va_A (mcWR w cI cZ th n C G X D B bu LG LC ch) sz) (mcWR w cI cZ 1 n C G X D B bu LG LC ch)) (va_A (mcWR w cI cZ th n C G X D B bu LG LC ch) sz)) 0 0 (va_A (mcWR w cI cZ th n C G X D B bu LG LC ch) sz) := by
  refine Met.ofW (cc := bR_exclude) (maxL := 5) (ret := (some FieldType.boolean)) (by decide) rfl ?_
  intro p e s m args below meth c s₁ BB hml hv
  obtain ⟨rfl, hsz, hP, hK, hD0⟩ := hv
  have hx := BB.exec
  have hb := BB.bytes
  have hr := BB.returns
  have hts := atoms_spec (ws := wdR_exclude) BB.pre
  have hown : s.vm.findClass RR = some m.cls := findClass_of_methodNamed BB.named
  have hlocks := BB.notSynchronized
  subst hsz
  have hD := hD0.self (sz := s.heap.size)
  generalize hAe : va_A (mcWR w cI cZ th n C G X D B bu LG LC ch) s.heap.size = A at hD ⊢
  have hA : ∀ q : Nat, s.heap.size ≤ q → A q := fun q h => by rw [← hAe]; exact Or.inr h
  have hS : va_S A s.heap s.heap [] := va_S.rf
  have hl := lv_entry ([.ref (w 0), .int v1, .int v2, .int o]) (n := 5) (Nat.le_of_ble_eq_true rfl)
  rw [lg_entry_eq]
  generalize (lg_sl ([.ref (w 0), .int v1, .int v2, .int o]) ++ List.replicate (5 - (lg_sl ([.ref (w 0), .int v1, .int v2, .int o])).length) Slot.unset).toArray = ls at hl ⊢
  have hl : lv_has ls 5 [(0, .ref (w 0)), (1, .int v1), (2, .int v2), (3, .int o)] := hl
  refine mcCut (nL := 5) 27 [.int 0, .ref (w 0)] [(0, .ref (w 0)), (1, .int v1), (2, .int v2), (3, .int o)] (fun ls hl => ?_) (fun K9 => ?_)
  ·
    refine callWVi (As := [.int 0]) (rest := []) ⟨hx, hb, hml, hown, hts⟩ tlB (c_R_good0 l dC dI w cI cZ th n C G X D B bu LG LC ch s.heap.size) kw505 kw506 kw14 kw29 kw507 ⟨rfl, rfl⟩ (n := 1) (by decide +kernel) ⟨Nat.le_of_ble_eq_true rfl, Nat.le_of_ble_eq_true rfl⟩ hP hK hD hS (freeA hD hS hA) (ci := 4) (q0 := 0) rfl rfl rfl hl.1 rfl (Nat.le_of_ble_eq_true rfl) ⟨Nat.le_of_ble_eq_true rfl, Nat.le_of_ble_eq_true rfl⟩ dR_exclude_27 (fun rg H1 locs1 hrg hP1 hD1 hk1 hS1 => ?_)
    have hD := hD1.weaken (fun _ z _ h => (freeA hD hS hA) z.1 h)
    have hP := hP1
    have hS := hS1
    have hrg : rg = 0 := hrg
    subst hrg
    refine lv_if_ne (tgt := 35) hx hb dR_exclude_30 (by decide) (fun cg => ?_) (fun cg => ?_)
    · exact absurd (rfl : (0 : Int32) = 0) cg
    ·
      refine lv_iconst (v := 0) hx hb dR_exclude_33 (by decide) ?_
      exact W.zret (v := 0) hx hb hr (rfl) (fun t ht hW => ⟨⟨0, (), rfl, rfl, by rw [ht]; exact hP, va_K.moved hW.alike hK, hD⟩, hS.F ht⟩) hS.2.2 dR_exclude_34
  ·
    refine lv_aload_n hx hb dR_exclude_0 rfl (lv_at hl 0 rfl) ?_
    refine lv_aload_n hx hb dR_exclude_1 rfl (lv_at hl 0 rfl) ?_
    refine lv_iload_n hx hb dR_exclude_2 rfl (lv_at hl 1 rfl) ?_
    refine callRV (As := [.int v1]) (rest := [.ref (w 0)]) ⟨hx, hb, hml, hown, hts⟩ tlB (c_R_is l dC dI w cI cZ th n C G X D B bu LG LC ch v1 hn) kw512 kw513 kw15 kw29 kw514 ⟨rfl, rfl⟩ (n := 1) (by decide +kernel) ⟨Nat.le_of_ble_eq_true rfl, Nat.le_of_ble_eq_true rfl⟩ (roP_preV hP hK (ci := 4) (q0 := 0) rfl rfl) rfl hl.1 rfl (Nat.le_of_ble_eq_true rfl) ⟨Nat.le_of_ble_eq_true rfl, Nat.le_of_ble_eq_true rfl⟩ dR_exclude_3 (fun r1 hr1 => ?_)
    refine lv_if_eq (tgt := 26) hx hb dR_exclude_6 (by decide) (fun k2 => ?_) (fun k2 => ?_)
    ·
      refine lv_iconst (v := 0) hx hb dR_exclude_26 (by decide) ?_
      exact K9 ls hl
    ·
      refine lv_aload_n hx hb dR_exclude_9 rfl (lv_at hl 0 rfl) ?_
      refine lv_iload_n hx hb dR_exclude_10 rfl (lv_at hl 2 rfl) ?_
      refine callRV (As := [.int v2]) (rest := [.ref (w 0)]) ⟨hx, hb, hml, hown, hts⟩ tlB (c_R_is l dC dI w cI cZ th n C G X D B bu LG LC ch v2 hn) kw512 kw513 kw15 kw29 kw514 ⟨rfl, rfl⟩ (n := 1) (by decide +kernel) ⟨Nat.le_of_ble_eq_true rfl, Nat.le_of_ble_eq_true rfl⟩ (roP_preV hP hK (ci := 4) (q0 := 0) rfl rfl) rfl hl.1 rfl (Nat.le_of_ble_eq_true rfl) ⟨Nat.le_of_ble_eq_true rfl, Nat.le_of_ble_eq_true rfl⟩ dR_exclude_11 (fun r3 hr3 => ?_)
      refine lv_if_eq (tgt := 26) hx hb dR_exclude_14 (by decide) (fun k4 => ?_) (fun k4 => ?_)
      ·
        refine lv_iconst (v := 0) hx hb dR_exclude_26 (by decide) ?_
        exact K9 ls hl
      ·
        refine lv_iload_n hx hb dR_exclude_17 rfl (lv_at hl 1 rfl) ?_
        refine lv_iload_n hx hb dR_exclude_18 rfl (lv_at hl 2 rfl) ?_
        refine lv_icmp_eq (tgt := 26) hx hb dR_exclude_19 (by decide) (fun k6 => ?_) (fun k6 => ?_)
        ·
          refine lv_iconst (v := 0) hx hb dR_exclude_26 (by decide) ?_
          exact K9 ls hl
        ·
          exact absurd ⟨mcZ_t hr1 k2, mcZ_t hr3 k4, k6⟩ hbad
set_option maxHeartbeats 4000000 in
set_option maxRecDepth 100000 in
theorem c_R_needs_bad (l : Launch) (dC : Nat → ClassId) (dI : Nat → Nat → Nat) (w : Nat → Nat) (cI cZ : ClassId) (th n : Nat) (C G X D : Nat → Nat) (B : Nat → Nat → Int) (bu : Nat → Nat) (LG : Nat → Int) (LC : Nat → Nat) (ch : Nat → Int) (sz : Nat) (v1 v2 o : Int32) (hn : n ≤ 12) (hbad : ¬ ((∃ k, k < n ∧ v1 = nI k) ∧ (∃ k, k < n ∧ v2 = nI k) ∧ ¬ v1 = v2)) : Met l yR_needs wdR_needs ({ frames := 2, cells := 0, slots := 0, locals := 43 }) (wrP (dC, dI) mcCl (mcWR w cI cZ th n C G X D B bu LG LC ch) (mcTR cI cZ) sz [.ref (w 0), .int v1, .int v2, .int o]) (va_Qi (fun z9 (_ : Unit) => z9 = 0) (fun _ t => va_P (dC, dI) mcCl (mcWR w cI cZ 1 n C G X D B bu LG LC ch) t.heap ∧ va_K (dC, dI) mcCl (mcTR cI cZ) t ∧ va_D (va_A (mcWR w cI cZ th n C G X D B bu LG LC ch) sz) (mcWR w cI cZ 1 n C G X D B bu LG LC ch)) (va_A (mcWR w cI cZ th n C G X D B bu LG LC ch) sz)) 0 0 (va_A (mcWR w cI cZ th n C G X D B bu LG LC ch) sz) := by
  refine Met.ofW (cc := bR_needs) (maxL := 5) (ret := (some FieldType.boolean)) (by decide) rfl ?_
  intro p e s m args below meth c s₁ BB hml hv
  obtain ⟨rfl, hsz, hP, hK, hD0⟩ := hv
  have hx := BB.exec
  have hb := BB.bytes
  have hr := BB.returns
  have hts := atoms_spec (ws := wdR_needs) BB.pre
  have hown : s.vm.findClass RR = some m.cls := findClass_of_methodNamed BB.named
  have hlocks := BB.notSynchronized
  subst hsz
  have hD := hD0.self (sz := s.heap.size)
  generalize hAe : va_A (mcWR w cI cZ th n C G X D B bu LG LC ch) s.heap.size = A at hD ⊢
  have hA : ∀ q : Nat, s.heap.size ≤ q → A q := fun q h => by rw [← hAe]; exact Or.inr h
  have hS : va_S A s.heap s.heap [] := va_S.rf
  have hl := lv_entry ([.ref (w 0), .int v1, .int v2, .int o]) (n := 5) (Nat.le_of_ble_eq_true rfl)
  rw [lg_entry_eq]
  generalize (lg_sl ([.ref (w 0), .int v1, .int v2, .int o]) ++ List.replicate (5 - (lg_sl ([.ref (w 0), .int v1, .int v2, .int o])).length) Slot.unset).toArray = ls at hl ⊢
  have hl : lv_has ls 5 [(0, .ref (w 0)), (1, .int v1), (2, .int v2), (3, .int o)] := hl
  refine mcCut (nL := 5) 27 [.int 0, .ref (w 0)] [(0, .ref (w 0)), (1, .int v1), (2, .int v2), (3, .int o)] (fun ls hl => ?_) (fun K9 => ?_)
  ·
    refine callWVi (As := [.int 0]) (rest := []) ⟨hx, hb, hml, hown, hts⟩ tlB (c_R_good0 l dC dI w cI cZ th n C G X D B bu LG LC ch s.heap.size) kw505 kw506 kw14 kw29 kw507 ⟨rfl, rfl⟩ (n := 1) (by decide +kernel) ⟨Nat.le_of_ble_eq_true rfl, Nat.le_of_ble_eq_true rfl⟩ hP hK hD hS (freeA hD hS hA) (ci := 4) (q0 := 0) rfl rfl rfl hl.1 rfl (Nat.le_of_ble_eq_true rfl) ⟨Nat.le_of_ble_eq_true rfl, Nat.le_of_ble_eq_true rfl⟩ dR_needs_27 (fun rg H1 locs1 hrg hP1 hD1 hk1 hS1 => ?_)
    have hD := hD1.weaken (fun _ z _ h => (freeA hD hS hA) z.1 h)
    have hP := hP1
    have hS := hS1
    have hrg : rg = 0 := hrg
    subst hrg
    refine lv_if_ne (tgt := 35) hx hb dR_needs_30 (by decide) (fun cg => ?_) (fun cg => ?_)
    · exact absurd (rfl : (0 : Int32) = 0) cg
    ·
      refine lv_iconst (v := 0) hx hb dR_needs_33 (by decide) ?_
      exact W.zret (v := 0) hx hb hr (rfl) (fun t ht hW => ⟨⟨0, (), rfl, rfl, by rw [ht]; exact hP, va_K.moved hW.alike hK, hD⟩, hS.F ht⟩) hS.2.2 dR_needs_34
  ·
    refine lv_aload_n hx hb dR_needs_0 rfl (lv_at hl 0 rfl) ?_
    refine lv_aload_n hx hb dR_needs_1 rfl (lv_at hl 0 rfl) ?_
    refine lv_iload_n hx hb dR_needs_2 rfl (lv_at hl 1 rfl) ?_
    refine callRV (As := [.int v1]) (rest := [.ref (w 0)]) ⟨hx, hb, hml, hown, hts⟩ tlB (c_R_is l dC dI w cI cZ th n C G X D B bu LG LC ch v1 hn) kw512 kw513 kw15 kw29 kw514 ⟨rfl, rfl⟩ (n := 1) (by decide +kernel) ⟨Nat.le_of_ble_eq_true rfl, Nat.le_of_ble_eq_true rfl⟩ (roP_preV hP hK (ci := 4) (q0 := 0) rfl rfl) rfl hl.1 rfl (Nat.le_of_ble_eq_true rfl) ⟨Nat.le_of_ble_eq_true rfl, Nat.le_of_ble_eq_true rfl⟩ dR_needs_3 (fun r1 hr1 => ?_)
    refine lv_if_eq (tgt := 26) hx hb dR_needs_6 (by decide) (fun k2 => ?_) (fun k2 => ?_)
    ·
      refine lv_iconst (v := 0) hx hb dR_needs_26 (by decide) ?_
      exact K9 ls hl
    ·
      refine lv_aload_n hx hb dR_needs_9 rfl (lv_at hl 0 rfl) ?_
      refine lv_iload_n hx hb dR_needs_10 rfl (lv_at hl 2 rfl) ?_
      refine callRV (As := [.int v2]) (rest := [.ref (w 0)]) ⟨hx, hb, hml, hown, hts⟩ tlB (c_R_is l dC dI w cI cZ th n C G X D B bu LG LC ch v2 hn) kw512 kw513 kw15 kw29 kw514 ⟨rfl, rfl⟩ (n := 1) (by decide +kernel) ⟨Nat.le_of_ble_eq_true rfl, Nat.le_of_ble_eq_true rfl⟩ (roP_preV hP hK (ci := 4) (q0 := 0) rfl rfl) rfl hl.1 rfl (Nat.le_of_ble_eq_true rfl) ⟨Nat.le_of_ble_eq_true rfl, Nat.le_of_ble_eq_true rfl⟩ dR_needs_11 (fun r3 hr3 => ?_)
      refine lv_if_eq (tgt := 26) hx hb dR_needs_14 (by decide) (fun k4 => ?_) (fun k4 => ?_)
      ·
        refine lv_iconst (v := 0) hx hb dR_needs_26 (by decide) ?_
        exact K9 ls hl
      ·
        refine lv_iload_n hx hb dR_needs_17 rfl (lv_at hl 1 rfl) ?_
        refine lv_iload_n hx hb dR_needs_18 rfl (lv_at hl 2 rfl) ?_
        refine lv_icmp_eq (tgt := 26) hx hb dR_needs_19 (by decide) (fun k6 => ?_) (fun k6 => ?_)
        ·
          refine lv_iconst (v := 0) hx hb dR_needs_26 (by decide) ?_
          exact K9 ls hl
        ·
          exact absurd ⟨mcZ_t hr1 k2, mcZ_t hr3 k4, k6⟩ hbad
set_option maxHeartbeats 4000000 in
set_option maxRecDepth 100000 in
theorem c_R_bonus_bad (l : Launch) (dC : Nat → ClassId) (dI : Nat → Nat → Nat) (w : Nat → Nat) (cI cZ : ClassId) (th n : Nat) (C G X D : Nat → Nat) (B : Nat → Nat → Int) (bu : Nat → Nat) (LG : Nat → Int) (LC : Nat → Nat) (ch : Nat → Int) (sz : Nat) (v1 v2 v3 : Int32) (hn : n ≤ 12) (hbad : ¬ ((∃ k, k < n ∧ v1 = nI k) ∧ (∃ k, k < n ∧ v2 = nI k) ∧ ¬ v1 = v2 ∧ ((-5000) ≤ v3 ∧ v3 ≤ 5000))) : Met l yR_bonus wdR_bonus ({ frames := 2, cells := 0, slots := 0, locals := 43 }) (wrP (dC, dI) mcCl (mcWR w cI cZ th n C G X D B bu LG LC ch) (mcTR cI cZ) sz [.ref (w 0), .int v1, .int v2, .int v3]) (va_Qi (fun z9 (_ : Unit) => z9 = 0) (fun _ t => va_P (dC, dI) mcCl (mcWR w cI cZ 1 n C G X D B bu LG LC ch) t.heap ∧ va_K (dC, dI) mcCl (mcTR cI cZ) t ∧ va_D (va_A (mcWR w cI cZ th n C G X D B bu LG LC ch) sz) (mcWR w cI cZ 1 n C G X D B bu LG LC ch)) (va_A (mcWR w cI cZ th n C G X D B bu LG LC ch) sz)) 0 0 (va_A (mcWR w cI cZ th n C G X D B bu LG LC ch) sz) := by
  refine Met.ofW (cc := bR_bonus) (maxL := 5) (ret := (some FieldType.int)) (by decide) rfl ?_
  intro p e s m args below meth c s₁ BB hml hv
  obtain ⟨rfl, hsz, hP, hK, hD0⟩ := hv
  have hx := BB.exec
  have hb := BB.bytes
  have hr := BB.returns
  have hts := atoms_spec (ws := wdR_bonus) BB.pre
  have hown : s.vm.findClass RR = some m.cls := findClass_of_methodNamed BB.named
  have hlocks := BB.notSynchronized
  subst hsz
  have hD := hD0.self (sz := s.heap.size)
  generalize hAe : va_A (mcWR w cI cZ th n C G X D B bu LG LC ch) s.heap.size = A at hD ⊢
  have hA : ∀ q : Nat, s.heap.size ≤ q → A q := fun q h => by rw [← hAe]; exact Or.inr h
  have hS : va_S A s.heap s.heap [] := va_S.rf
  have hl := lv_entry ([.ref (w 0), .int v1, .int v2, .int v3]) (n := 5) (Nat.le_of_ble_eq_true rfl)
  rw [lg_entry_eq]
  generalize (lg_sl ([.ref (w 0), .int v1, .int v2, .int v3]) ++ List.replicate (5 - (lg_sl ([.ref (w 0), .int v1, .int v2, .int v3])).length) Slot.unset).toArray = ls at hl ⊢
  have hl : lv_has ls 5 [(0, .ref (w 0)), (1, .int v1), (2, .int v2), (3, .int v3)] := hl
  refine mcCut (nL := 5) 40 [.int 0, .ref (w 0)] [(0, .ref (w 0)), (1, .int v1), (2, .int v2), (3, .int v3)] (fun ls hl => ?_) (fun K9 => ?_)
  ·
    refine callWVi (As := [.int 0]) (rest := []) ⟨hx, hb, hml, hown, hts⟩ tlB (c_R_good0 l dC dI w cI cZ th n C G X D B bu LG LC ch s.heap.size) kw505 kw506 kw14 kw29 kw507 ⟨rfl, rfl⟩ (n := 1) (by decide +kernel) ⟨Nat.le_of_ble_eq_true rfl, Nat.le_of_ble_eq_true rfl⟩ hP hK hD hS (freeA hD hS hA) (ci := 4) (q0 := 0) rfl rfl rfl hl.1 rfl (Nat.le_of_ble_eq_true rfl) ⟨Nat.le_of_ble_eq_true rfl, Nat.le_of_ble_eq_true rfl⟩ dR_bonus_40 (fun rg H1 locs1 hrg hP1 hD1 hk1 hS1 => ?_)
    have hD := hD1.weaken (fun _ z _ h => (freeA hD hS hA) z.1 h)
    have hP := hP1
    have hS := hS1
    have hrg : rg = 0 := hrg
    subst hrg
    refine lv_if_ne (tgt := 48) hx hb dR_bonus_43 (by decide) (fun cg => ?_) (fun cg => ?_)
    · exact absurd (rfl : (0 : Int32) = 0) cg
    ·
      refine lv_iconst (v := 0) hx hb dR_bonus_46 (by decide) ?_
      exact W.iret (v := 0) hx hb hr (fun t ht hW => ⟨⟨0, (), rfl, rfl, by rw [ht]; exact hP, va_K.moved hW.alike hK, hD⟩, hS.F ht⟩) hS.2.2 dR_bonus_47
  ·
    refine lv_aload_n hx hb dR_bonus_0 rfl (lv_at hl 0 rfl) ?_
    refine lv_aload_n hx hb dR_bonus_1 rfl (lv_at hl 0 rfl) ?_
    refine lv_iload_n hx hb dR_bonus_2 rfl (lv_at hl 1 rfl) ?_
    refine callRV (As := [.int v1]) (rest := [.ref (w 0)]) ⟨hx, hb, hml, hown, hts⟩ tlB (c_R_is l dC dI w cI cZ th n C G X D B bu LG LC ch v1 hn) kw512 kw513 kw15 kw29 kw514 ⟨rfl, rfl⟩ (n := 1) (by decide +kernel) ⟨Nat.le_of_ble_eq_true rfl, Nat.le_of_ble_eq_true rfl⟩ (roP_preV hP hK (ci := 4) (q0 := 0) rfl rfl) rfl hl.1 rfl (Nat.le_of_ble_eq_true rfl) ⟨Nat.le_of_ble_eq_true rfl, Nat.le_of_ble_eq_true rfl⟩ dR_bonus_3 (fun r1 hr1 => ?_)
    refine lv_if_eq (tgt := 39) hx hb dR_bonus_6 (by decide) (fun k2 => ?_) (fun k2 => ?_)
    ·
      refine lv_iconst (v := 0) hx hb dR_bonus_39 (by decide) ?_
      exact K9 ls hl
    ·
      refine lv_aload_n hx hb dR_bonus_9 rfl (lv_at hl 0 rfl) ?_
      refine lv_iload_n hx hb dR_bonus_10 rfl (lv_at hl 2 rfl) ?_
      refine callRV (As := [.int v2]) (rest := [.ref (w 0)]) ⟨hx, hb, hml, hown, hts⟩ tlB (c_R_is l dC dI w cI cZ th n C G X D B bu LG LC ch v2 hn) kw512 kw513 kw15 kw29 kw514 ⟨rfl, rfl⟩ (n := 1) (by decide +kernel) ⟨Nat.le_of_ble_eq_true rfl, Nat.le_of_ble_eq_true rfl⟩ (roP_preV hP hK (ci := 4) (q0 := 0) rfl rfl) rfl hl.1 rfl (Nat.le_of_ble_eq_true rfl) ⟨Nat.le_of_ble_eq_true rfl, Nat.le_of_ble_eq_true rfl⟩ dR_bonus_11 (fun r3 hr3 => ?_)
      refine lv_if_eq (tgt := 39) hx hb dR_bonus_14 (by decide) (fun k4 => ?_) (fun k4 => ?_)
      ·
        refine lv_iconst (v := 0) hx hb dR_bonus_39 (by decide) ?_
        exact K9 ls hl
      ·
        refine lv_iload_n hx hb dR_bonus_17 rfl (lv_at hl 1 rfl) ?_
        refine lv_iload_n hx hb dR_bonus_18 rfl (lv_at hl 2 rfl) ?_
        refine lv_icmp_eq (tgt := 39) hx hb dR_bonus_19 (by decide) (fun k6 => ?_) (fun k6 => ?_)
        ·
          refine lv_iconst (v := 0) hx hb dR_bonus_39 (by decide) ?_
          exact K9 ls hl
        ·
          refine lv_iload_n hx hb dR_bonus_22 rfl (lv_at hl 3 rfl) ?_
          refine lv_sipush (v := (-5000)) hx hb dR_bonus_23 (by decide) ?_
          refine lv_sipush (v := 5000) hx hb dR_bonus_26 (by decide) ?_
          refine callRS (As := [.int v3, .int (-5000), .int 5000]) (rest := [.ref (w 0)]) ⟨hx, hb, hml, hown, hts⟩ tlB (c_R_in l v3 (-5000) 5000) kw502 kw503 kw29 kw504 ⟨rfl, rfl⟩ (n := 3) (by decide +kernel) ⟨Nat.le_of_ble_eq_true rfl, Nat.le_of_ble_eq_true rfl⟩ (nwP_pre) rfl hl.1 rfl (Nat.le_of_ble_eq_true rfl) ⟨Nat.le_of_ble_eq_true rfl, Nat.le_of_ble_eq_true rfl⟩ dR_bonus_29 (fun r7 hr7 => ?_)
          refine lv_if_eq (tgt := 39) hx hb dR_bonus_32 (by decide) (fun k8 => ?_) (fun k8 => ?_)
          ·
            refine lv_iconst (v := 0) hx hb dR_bonus_39 (by decide) ?_
            exact K9 ls hl
          ·
            exact absurd ⟨mcZ_t hr1 k2, mcZ_t hr3 k4, k6, mcZ_t hr7 k8⟩ hbad
set_option maxHeartbeats 4000000 in
set_option maxRecDepth 100000 in
theorem c_R_lawful_bad (l : Launch) (dC : Nat → ClassId) (dI : Nat → Nat → Nat) (w : Nat → Nat) (cI cZ : ClassId) (th n : Nat) (C G X D : Nat → Nat) (B : Nat → Nat → Int) (bu : Nat → Nat) (LG : Nat → Int) (LC : Nat → Nat) (ch : Nat → Int) (sz : Nat) (v1 : Int32) (hn : n ≤ 12) (hbad : ¬ ∃ S, S < 2 ^ n ∧ v1 = nI S) : Met l yR_lawful wdR_lawful ({ frames := 2, cells := 0, slots := 0, locals := 45 }) (wrP (dC, dI) mcCl (mcWR w cI cZ th n C G X D B bu LG LC ch) (mcTR cI cZ) sz [.ref (w 0), .int v1]) (va_Qi (fun z9 (_ : Unit) => z9 = 0) (fun _ t => va_P (dC, dI) mcCl (mcWR w cI cZ 1 n C G X D B bu LG LC ch) t.heap ∧ va_K (dC, dI) mcCl (mcTR cI cZ) t ∧ va_D (va_A (mcWR w cI cZ th n C G X D B bu LG LC ch) sz) (mcWR w cI cZ 1 n C G X D B bu LG LC ch)) (va_A (mcWR w cI cZ th n C G X D B bu LG LC ch) sz)) 0 0 (va_A (mcWR w cI cZ th n C G X D B bu LG LC ch) sz) := by
  refine Met.ofW (cc := bR_lawful) (maxL := 2) (ret := (some FieldType.boolean)) (by decide) rfl ?_
  intro p e s m args below meth c s₁ BB hml hv
  obtain ⟨rfl, hsz, hP, hK, hD0⟩ := hv
  have hx := BB.exec
  have hb := BB.bytes
  have hr := BB.returns
  have hts := atoms_spec (ws := wdR_lawful) BB.pre
  have hown : s.vm.findClass RR = some m.cls := findClass_of_methodNamed BB.named
  have hlocks := BB.notSynchronized
  subst hsz
  have hD := hD0.self (sz := s.heap.size)
  generalize hAe : va_A (mcWR w cI cZ th n C G X D B bu LG LC ch) s.heap.size = A at hD ⊢
  have hA : ∀ q : Nat, s.heap.size ≤ q → A q := fun q h => by rw [← hAe]; exact Or.inr h
  have hS : va_S A s.heap s.heap [] := va_S.rf
  have hl := lv_entry ([.ref (w 0), .int v1]) (n := 2) (Nat.le_of_ble_eq_true rfl)
  rw [lg_entry_eq]
  generalize (lg_sl ([.ref (w 0), .int v1]) ++ List.replicate (2 - (lg_sl ([.ref (w 0), .int v1])).length) Slot.unset).toArray = ls at hl ⊢
  have hl : lv_has ls 2 [(0, .ref (w 0)), (1, .int v1)] := hl
  refine lv_aload_n hx hb dR_lawful_0 rfl (lv_at hl 0 rfl) ?_
  refine lv_aload_n hx hb dR_lawful_1 rfl (lv_at hl 0 rfl) ?_
  refine lv_iload_n hx hb dR_lawful_2 rfl (lv_at hl 1 rfl) ?_
  refine callRV (As := [.int v1]) (rest := [.ref (w 0)]) ⟨hx, hb, hml, hown, hts⟩ tlB (c_R_isSet l dC dI w cI cZ th n C G X D B bu LG LC ch v1 hn) kw531 kw532 kw16 kw29 kw533 ⟨rfl, rfl⟩ (n := 1) (by decide +kernel) ⟨Nat.le_of_ble_eq_true rfl, Nat.le_of_ble_eq_true rfl⟩ (roP_preV hP hK (ci := 4) (q0 := 0) rfl rfl) rfl hl.1 rfl (Nat.le_of_ble_eq_true rfl) ⟨Nat.le_of_ble_eq_true rfl, Nat.le_of_ble_eq_true rfl⟩ dR_lawful_3 (fun r1 hr1 => ?_)
  have hr0 : r1 = 0 := by rcases hr1 with ⟨-, z⟩ | ⟨z, -⟩; exact absurd z hbad; exact z
  subst hr0
  refine callWVi (As := [.int 0]) (rest := []) ⟨hx, hb, hml, hown, hts⟩ tlB (c_R_good0 l dC dI w cI cZ th n C G X D B bu LG LC ch s.heap.size) kw505 kw506 kw14 kw29 kw507 ⟨rfl, rfl⟩ (n := 1) (by decide +kernel) ⟨Nat.le_of_ble_eq_true rfl, Nat.le_of_ble_eq_true rfl⟩ hP hK hD hS (freeA hD hS hA) (ci := 4) (q0 := 0) rfl rfl rfl hl.1 rfl (Nat.le_of_ble_eq_true rfl) ⟨Nat.le_of_ble_eq_true rfl, Nat.le_of_ble_eq_true rfl⟩ dR_lawful_6 (fun rg H1 locs1 hrg hP1 hD1 hk1 hS1 => ?_)
  have hD := hD1.weaken (fun _ z _ h => (freeA hD hS hA) z.1 h)
  have hP := hP1
  have hS := hS1
  have hrg : rg = 0 := hrg
  subst hrg
  refine lv_if_eq (tgt := 24) hx hb dR_lawful_9 (by decide) (fun cg => ?_) (fun cg => ?_)
  ·
    refine lv_iconst (v := 0) hx hb dR_lawful_24 (by decide) ?_
    exact W.zret (v := 0) hx hb hr (rfl) (fun t ht hW => ⟨⟨0, (), rfl, rfl, by rw [ht]; exact hP, va_K.moved hW.alike hK, hD⟩, hS.F ht⟩) hS.2.2 dR_lawful_25
  · exact absurd (rfl : (0 : Int32) = 0) cg
set_option maxHeartbeats 4000000 in
set_option maxRecDepth 100000 in
theorem c_R_told_bad (l : Launch) (dC : Nat → ClassId) (dI : Nat → Nat → Nat) (w : Nat → Nat) (cI cZ : ClassId) (th n : Nat) (C G X D : Nat → Nat) (B : Nat → Nat → Int) (bu : Nat → Nat) (LG : Nat → Int) (LC : Nat → Nat) (ch : Nat → Int) (sz : Nat) (v1 v2 : Int32) (hn : n ≤ 12) (hbad : ¬ ((∃ S, S < 2 ^ n ∧ v1 = nI S) ∧ (0 ≤ v2 ∧ v2 ≤ 1))) : Met l yR_told wdR_told ({ frames := 2, cells := 0, slots := 0, locals := 45 }) (wrP (dC, dI) mcCl (mcWR w cI cZ th n C G X D B bu LG LC ch) (mcTR cI cZ) sz [.ref (w 0), .int v1, .int v2]) (va_Qi (fun z9 (_ : Unit) => z9 = 0) (fun _ t => va_P (dC, dI) mcCl (mcWR w cI cZ 1 n C G X D B bu LG LC ch) t.heap ∧ va_K (dC, dI) mcCl (mcTR cI cZ) t ∧ va_D (va_A (mcWR w cI cZ th n C G X D B bu LG LC ch) sz) (mcWR w cI cZ 1 n C G X D B bu LG LC ch)) (va_A (mcWR w cI cZ th n C G X D B bu LG LC ch) sz)) 0 0 (va_A (mcWR w cI cZ th n C G X D B bu LG LC ch) sz) := by
  refine Met.ofW (cc := bR_told) (maxL := 3) (ret := (some FieldType.int)) (by decide) rfl ?_
  intro p e s m args below meth c s₁ BB hml hv
  obtain ⟨rfl, hsz, hP, hK, hD0⟩ := hv
  have hx := BB.exec
  have hb := BB.bytes
  have hr := BB.returns
  have hts := atoms_spec (ws := wdR_told) BB.pre
  have hown : s.vm.findClass RR = some m.cls := findClass_of_methodNamed BB.named
  have hlocks := BB.notSynchronized
  subst hsz
  have hD := hD0.self (sz := s.heap.size)
  generalize hAe : va_A (mcWR w cI cZ th n C G X D B bu LG LC ch) s.heap.size = A at hD ⊢
  have hA : ∀ q : Nat, s.heap.size ≤ q → A q := fun q h => by rw [← hAe]; exact Or.inr h
  have hS : va_S A s.heap s.heap [] := va_S.rf
  have hl := lv_entry ([.ref (w 0), .int v1, .int v2]) (n := 3) (Nat.le_of_ble_eq_true rfl)
  rw [lg_entry_eq]
  generalize (lg_sl ([.ref (w 0), .int v1, .int v2]) ++ List.replicate (3 - (lg_sl ([.ref (w 0), .int v1, .int v2])).length) Slot.unset).toArray = ls at hl ⊢
  have hl : lv_has ls 3 [(0, .ref (w 0)), (1, .int v1), (2, .int v2)] := hl
  refine mcCut (nL := 3) 23 [.int 0, .ref (w 0)] [(0, .ref (w 0)), (1, .int v1), (2, .int v2)] (fun ls hl => ?_) (fun K9 => ?_)
  ·
    refine callWVi (As := [.int 0]) (rest := []) ⟨hx, hb, hml, hown, hts⟩ tlB (c_R_good0 l dC dI w cI cZ th n C G X D B bu LG LC ch s.heap.size) kw505 kw506 kw14 kw29 kw507 ⟨rfl, rfl⟩ (n := 1) (by decide +kernel) ⟨Nat.le_of_ble_eq_true rfl, Nat.le_of_ble_eq_true rfl⟩ hP hK hD hS (freeA hD hS hA) (ci := 4) (q0 := 0) rfl rfl rfl hl.1 rfl (Nat.le_of_ble_eq_true rfl) ⟨Nat.le_of_ble_eq_true rfl, Nat.le_of_ble_eq_true rfl⟩ dR_told_23 (fun rg H1 locs1 hrg hP1 hD1 hk1 hS1 => ?_)
    have hD := hD1.weaken (fun _ z _ h => (freeA hD hS hA) z.1 h)
    have hP := hP1
    have hS := hS1
    have hrg : rg = 0 := hrg
    subst hrg
    refine lv_if_ne (tgt := 31) hx hb dR_told_26 (by decide) (fun cg => ?_) (fun cg => ?_)
    · exact absurd (rfl : (0 : Int32) = 0) cg
    ·
      refine lv_iconst (v := 0) hx hb dR_told_29 (by decide) ?_
      exact W.iret (v := 0) hx hb hr (fun t ht hW => ⟨⟨0, (), rfl, rfl, by rw [ht]; exact hP, va_K.moved hW.alike hK, hD⟩, hS.F ht⟩) hS.2.2 dR_told_30
  ·
    refine lv_aload_n hx hb dR_told_0 rfl (lv_at hl 0 rfl) ?_
    refine lv_aload_n hx hb dR_told_1 rfl (lv_at hl 0 rfl) ?_
    refine lv_iload_n hx hb dR_told_2 rfl (lv_at hl 1 rfl) ?_
    refine callRV (As := [.int v1]) (rest := [.ref (w 0)]) ⟨hx, hb, hml, hown, hts⟩ tlB (c_R_isSet l dC dI w cI cZ th n C G X D B bu LG LC ch v1 hn) kw531 kw532 kw16 kw29 kw533 ⟨rfl, rfl⟩ (n := 1) (by decide +kernel) ⟨Nat.le_of_ble_eq_true rfl, Nat.le_of_ble_eq_true rfl⟩ (roP_preV hP hK (ci := 4) (q0 := 0) rfl rfl) rfl hl.1 rfl (Nat.le_of_ble_eq_true rfl) ⟨Nat.le_of_ble_eq_true rfl, Nat.le_of_ble_eq_true rfl⟩ dR_told_3 (fun r1 hr1 => ?_)
    refine lv_if_eq (tgt := 22) hx hb dR_told_6 (by decide) (fun k2 => ?_) (fun k2 => ?_)
    ·
      refine lv_iconst (v := 0) hx hb dR_told_22 (by decide) ?_
      exact K9 ls hl
    ·
      refine lv_iload_n hx hb dR_told_9 rfl (lv_at hl 2 rfl) ?_
      refine lv_iconst (v := 0) hx hb dR_told_10 (by decide) ?_
      refine lv_iconst (v := 1) hx hb dR_told_11 (by decide) ?_
      refine callRS (As := [.int v2, .int 0, .int 1]) (rest := [.ref (w 0)]) ⟨hx, hb, hml, hown, hts⟩ tlB (c_R_in l v2 0 1) kw502 kw503 kw29 kw504 ⟨rfl, rfl⟩ (n := 3) (by decide +kernel) ⟨Nat.le_of_ble_eq_true rfl, Nat.le_of_ble_eq_true rfl⟩ (nwP_pre) rfl hl.1 rfl (Nat.le_of_ble_eq_true rfl) ⟨Nat.le_of_ble_eq_true rfl, Nat.le_of_ble_eq_true rfl⟩ dR_told_12 (fun r3 hr3 => ?_)
      refine lv_if_eq (tgt := 22) hx hb dR_told_15 (by decide) (fun k4 => ?_) (fun k4 => ?_)
      ·
        refine lv_iconst (v := 0) hx hb dR_told_22 (by decide) ?_
        exact K9 ls hl
      ·
        exact absurd ⟨mcZ_t hr1 k2, mcZ_t hr3 k4⟩ hbad
set_option maxHeartbeats 4000000 in
set_option maxRecDepth 100000 in
theorem c_R_closure_bad (l : Launch) (dC : Nat → ClassId) (dI : Nat → Nat → Nat) (w : Nat → Nat) (cI cZ : ClassId) (th n : Nat) (C G X D : Nat → Nat) (B : Nat → Nat → Int) (bu : Nat → Nat) (LG : Nat → Int) (LC : Nat → Nat) (ch : Nat → Int) (sz : Nat) (v1 : Int32) (hn : n ≤ 12) (hbad : ¬ (∃ k, k < n ∧ v1 = nI k)) : Met l yR_closure wdR_closure ({ frames := 2, cells := 0, slots := 0, locals := 43 }) (wrP (dC, dI) mcCl (mcWR w cI cZ th n C G X D B bu LG LC ch) (mcTR cI cZ) sz [.ref (w 0), .int v1]) (va_Qi (fun z9 (_ : Unit) => z9 = 0) (fun _ t => va_P (dC, dI) mcCl (mcWR w cI cZ 1 n C G X D B bu LG LC ch) t.heap ∧ va_K (dC, dI) mcCl (mcTR cI cZ) t ∧ va_D (va_A (mcWR w cI cZ th n C G X D B bu LG LC ch) sz) (mcWR w cI cZ 1 n C G X D B bu LG LC ch)) (va_A (mcWR w cI cZ th n C G X D B bu LG LC ch) sz)) 0 0 (va_A (mcWR w cI cZ th n C G X D B bu LG LC ch) sz) := by
  refine Met.ofW (cc := bR_closure) (maxL := 6) (ret := (some FieldType.int)) (by decide) rfl ?_
  intro p e s m args below meth c s₁ BB hml hv
  obtain ⟨rfl, hsz, hP, hK, hD0⟩ := hv
  have hx := BB.exec
  have hb := BB.bytes
  have hr := BB.returns
  have hts := atoms_spec (ws := wdR_closure) BB.pre
  have hown : s.vm.findClass RR = some m.cls := findClass_of_methodNamed BB.named
  have hlocks := BB.notSynchronized
  subst hsz
  have hD := hD0.self (sz := s.heap.size)
  generalize hAe : va_A (mcWR w cI cZ th n C G X D B bu LG LC ch) s.heap.size = A at hD ⊢
  have hA : ∀ q : Nat, s.heap.size ≤ q → A q := fun q h => by rw [← hAe]; exact Or.inr h
  have hS : va_S A s.heap s.heap [] := va_S.rf
  have hl := lv_entry ([.ref (w 0), .int v1]) (n := 6) (Nat.le_of_ble_eq_true rfl)
  rw [lg_entry_eq]
  generalize (lg_sl ([.ref (w 0), .int v1]) ++ List.replicate (6 - (lg_sl ([.ref (w 0), .int v1])).length) Slot.unset).toArray = ls at hl ⊢
  have hl : lv_has ls 6 [(0, .ref (w 0)), (1, .int v1)] := hl
  refine lv_aload_n hx hb dR_closure_0 rfl (lv_at hl 0 rfl) ?_
  refine lv_aload_n hx hb dR_closure_1 rfl (lv_at hl 0 rfl) ?_
  refine lv_iload_n hx hb dR_closure_2 rfl (lv_at hl 1 rfl) ?_
  refine callRV (As := [.int v1]) (rest := [.ref (w 0)]) ⟨hx, hb, hml, hown, hts⟩ tlB (c_R_is l dC dI w cI cZ th n C G X D B bu LG LC ch v1 hn) kw512 kw513 kw15 kw29 kw514 ⟨rfl, rfl⟩ (n := 1) (by decide +kernel) ⟨Nat.le_of_ble_eq_true rfl, Nat.le_of_ble_eq_true rfl⟩ (roP_preV hP hK (ci := 4) (q0 := 0) rfl rfl) rfl hl.1 rfl (Nat.le_of_ble_eq_true rfl) ⟨Nat.le_of_ble_eq_true rfl, Nat.le_of_ble_eq_true rfl⟩ dR_closure_3 (fun r1 hr1 => ?_)
  have hr0 : r1 = 0 := by rcases hr1 with ⟨-, z⟩ | ⟨z, -⟩; exact absurd z hbad; exact z
  subst hr0
  refine callWVi (As := [.int 0]) (rest := []) ⟨hx, hb, hml, hown, hts⟩ tlB (c_R_good0 l dC dI w cI cZ th n C G X D B bu LG LC ch s.heap.size) kw505 kw506 kw14 kw29 kw507 ⟨rfl, rfl⟩ (n := 1) (by decide +kernel) ⟨Nat.le_of_ble_eq_true rfl, Nat.le_of_ble_eq_true rfl⟩ hP hK hD hS (freeA hD hS hA) (ci := 4) (q0 := 0) rfl rfl rfl hl.1 rfl (Nat.le_of_ble_eq_true rfl) ⟨Nat.le_of_ble_eq_true rfl, Nat.le_of_ble_eq_true rfl⟩ dR_closure_6 (fun rg H1 locs1 hrg hP1 hD1 hk1 hS1 => ?_)
  have hD := hD1.weaken (fun _ z _ h => (freeA hD hS hA) z.1 h)
  have hP := hP1
  have hS := hS1
  have hrg : rg = 0 := hrg
  subst hrg
  refine lv_if_ne (tgt := 14) hx hb dR_closure_9 (by decide) (fun cg => ?_) (fun cg => ?_)
  · exact absurd (rfl : (0 : Int32) = 0) cg
  ·
    refine lv_iconst (v := 0) hx hb dR_closure_12 (by decide) ?_
    exact W.iret (v := 0) hx hb hr (fun t ht hW => ⟨⟨0, (), rfl, rfl, by rw [ht]; exact hP, va_K.moved hW.alike hK, hD⟩, hS.F ht⟩) hS.2.2 dR_closure_13
set_option maxHeartbeats 4000000 in
set_option maxRecDepth 100000 in
theorem c_R_best_bad (l : Launch) (dC : Nat → ClassId) (dI : Nat → Nat → Nat) (w : Nat → Nat) (cI cZ : ClassId) (th n : Nat) (C G X D : Nat → Nat) (B : Nat → Nat → Int) (bu : Nat → Nat) (LG : Nat → Int) (LC : Nat → Nat) (ch : Nat → Int) (sz : Nat) (v1 : Int32) (hbad : ¬ ¬ v1 < 0) : Met l yR_best wdR_best ({ frames := 3, cells := 0, slots := 0, locals := 74 }) (wrP (dC, dI) mcCl (mcWR w cI cZ th n C G X D B bu LG LC ch) (mcTR cI cZ) sz [.ref (w 0), .int v1]) (va_Qi (fun z9 (_ : Unit) => z9 = 0) (fun _ t => va_P (dC, dI) mcCl (mcWR w cI cZ 1 n C G X D B bu LG LC ch) t.heap ∧ va_K (dC, dI) mcCl (mcTR cI cZ) t ∧ va_D (va_A (mcWR w cI cZ th n C G X D B bu LG LC ch) sz) (mcWR w cI cZ 1 n C G X D B bu LG LC ch)) (va_A (mcWR w cI cZ th n C G X D B bu LG LC ch) sz)) 0 0 (va_A (mcWR w cI cZ th n C G X D B bu LG LC ch) sz) := by
  refine Met.ofW (cc := bR_best) (maxL := 2) (ret := (some FieldType.int)) (by decide) rfl ?_
  intro p e s m args below meth c s₁ BB hml hv
  obtain ⟨rfl, hsz, hP, hK, hD0⟩ := hv
  have hx := BB.exec
  have hb := BB.bytes
  have hr := BB.returns
  have hts := atoms_spec (ws := wdR_best) BB.pre
  have hown : s.vm.findClass RR = some m.cls := findClass_of_methodNamed BB.named
  have hlocks := BB.notSynchronized
  subst hsz
  have hD := hD0.self (sz := s.heap.size)
  generalize hAe : va_A (mcWR w cI cZ th n C G X D B bu LG LC ch) s.heap.size = A at hD ⊢
  have hA : ∀ q : Nat, s.heap.size ≤ q → A q := fun q h => by rw [← hAe]; exact Or.inr h
  have hS : va_S A s.heap s.heap [] := va_S.rf
  have hl := lv_entry ([.ref (w 0), .int v1]) (n := 2) (Nat.le_of_ble_eq_true rfl)
  rw [lg_entry_eq]
  generalize (lg_sl ([.ref (w 0), .int v1]) ++ List.replicate (2 - (lg_sl ([.ref (w 0), .int v1])).length) Slot.unset).toArray = ls at hl ⊢
  have hl : lv_has ls 2 [(0, .ref (w 0)), (1, .int v1)] := hl
  refine mcCut (nL := 2) 10 [.int 0, .ref (w 0)] [(0, .ref (w 0)), (1, .int v1)] (fun ls hl => ?_) (fun K9 => ?_)
  ·
    refine callWVi (As := [.int 0]) (rest := []) ⟨hx, hb, hml, hown, hts⟩ tlB (c_R_good0 l dC dI w cI cZ th n C G X D B bu LG LC ch s.heap.size) kw505 kw506 kw14 kw29 kw507 ⟨rfl, rfl⟩ (n := 1) (by decide +kernel) ⟨Nat.le_of_ble_eq_true rfl, Nat.le_of_ble_eq_true rfl⟩ hP hK hD hS (freeA hD hS hA) (ci := 4) (q0 := 0) rfl rfl rfl hl.1 rfl (Nat.le_of_ble_eq_true rfl) ⟨Nat.le_of_ble_eq_true rfl, Nat.le_of_ble_eq_true rfl⟩ dR_best_10 (fun rg H1 locs1 hrg hP1 hD1 hk1 hS1 => ?_)
    have hD := hD1.weaken (fun _ z _ h => (freeA hD hS hA) z.1 h)
    have hP := hP1
    have hS := hS1
    have hrg : rg = 0 := hrg
    subst hrg
    refine lv_if_eq (tgt := 25) hx hb dR_best_13 (by decide) (fun cg => ?_) (fun cg => ?_)
    ·
      refine lv_iconst (v := 0) hx hb dR_best_25 (by decide) ?_
      exact W.iret (v := 0) hx hb hr (fun t ht hW => ⟨⟨0, (), rfl, rfl, by rw [ht]; exact hP, va_K.moved hW.alike hK, hD⟩, hS.F ht⟩) hS.2.2 dR_best_26
    · exact absurd (rfl : (0 : Int32) = 0) cg
  ·
    refine lv_aload_n hx hb dR_best_0 rfl (lv_at hl 0 rfl) ?_
    refine lv_iload_n hx hb dR_best_1 rfl (lv_at hl 1 rfl) ?_
    refine lv_if_lt (tgt := 9) hx hb dR_best_2 (by decide) (fun k2 => ?_) (fun k2 => ?_)
    ·
      refine lv_iconst (v := 0) hx hb dR_best_9 (by decide) ?_
      exact K9 ls hl
    ·
      exact absurd k2 hbad
set_option maxHeartbeats 4000000 in
set_option maxRecDepth 100000 in
theorem c_R_worth_bad (l : Launch) (dC : Nat → ClassId) (dI : Nat → Nat → Nat) (w : Nat → Nat) (cI cZ : ClassId) (th n : Nat) (C G X D : Nat → Nat) (B : Nat → Nat → Int) (bu : Nat → Nat) (LG : Nat → Int) (LC : Nat → Nat) (ch : Nat → Int) (sz : Nat) (v1 v2 : Int32) (hbad : ¬ (¬ v1 < 0 ∧ ¬ v2 < 0 ∧ v1.toInt + v2.toInt ≤ 1000000)) : Met l yR_worth wdR_worth ({ frames := 3, cells := 0, slots := 0, locals := 74 }) (wrP (dC, dI) mcCl (mcWR w cI cZ th n C G X D B bu LG LC ch) (mcTR cI cZ) sz [.ref (w 0), .int v1, .int v2]) (va_Qi (fun z9 (_ : Unit) => z9 = 0) (fun _ t => va_P (dC, dI) mcCl (mcWR w cI cZ 1 n C G X D B bu LG LC ch) t.heap ∧ va_K (dC, dI) mcCl (mcTR cI cZ) t ∧ va_D (va_A (mcWR w cI cZ th n C G X D B bu LG LC ch) sz) (mcWR w cI cZ 1 n C G X D B bu LG LC ch)) (va_A (mcWR w cI cZ th n C G X D B bu LG LC ch) sz)) 0 0 (va_A (mcWR w cI cZ th n C G X D B bu LG LC ch) sz) := by
  refine Met.ofW (cc := bR_worth) (maxL := 3) (ret := (some FieldType.int)) (by decide) rfl ?_
  intro p e s m args below meth c s₁ BB hml hv
  obtain ⟨rfl, hsz, hP, hK, hD0⟩ := hv
  have hx := BB.exec
  have hb := BB.bytes
  have hr := BB.returns
  have hts := atoms_spec (ws := wdR_worth) BB.pre
  have hown : s.vm.findClass RR = some m.cls := findClass_of_methodNamed BB.named
  have hlocks := BB.notSynchronized
  subst hsz
  have hD := hD0.self (sz := s.heap.size)
  generalize hAe : va_A (mcWR w cI cZ th n C G X D B bu LG LC ch) s.heap.size = A at hD ⊢
  have hA : ∀ q : Nat, s.heap.size ≤ q → A q := fun q h => by rw [← hAe]; exact Or.inr h
  have hS : va_S A s.heap s.heap [] := va_S.rf
  have hl := lv_entry ([.ref (w 0), .int v1, .int v2]) (n := 3) (Nat.le_of_ble_eq_true rfl)
  rw [lg_entry_eq]
  generalize (lg_sl ([.ref (w 0), .int v1, .int v2]) ++ List.replicate (3 - (lg_sl ([.ref (w 0), .int v1, .int v2])).length) Slot.unset).toArray = ls at hl ⊢
  have hl : lv_has ls 3 [(0, .ref (w 0)), (1, .int v1), (2, .int v2)] := hl
  refine mcCut (nL := 3) 26 [.int 0, .ref (w 0)] [(0, .ref (w 0)), (1, .int v1), (2, .int v2)] (fun ls hl => ?_) (fun K9 => ?_)
  ·
    refine callWVi (As := [.int 0]) (rest := []) ⟨hx, hb, hml, hown, hts⟩ tlB (c_R_good0 l dC dI w cI cZ th n C G X D B bu LG LC ch s.heap.size) kw505 kw506 kw14 kw29 kw507 ⟨rfl, rfl⟩ (n := 1) (by decide +kernel) ⟨Nat.le_of_ble_eq_true rfl, Nat.le_of_ble_eq_true rfl⟩ hP hK hD hS (freeA hD hS hA) (ci := 4) (q0 := 0) rfl rfl rfl hl.1 rfl (Nat.le_of_ble_eq_true rfl) ⟨Nat.le_of_ble_eq_true rfl, Nat.le_of_ble_eq_true rfl⟩ dR_worth_26 (fun rg H1 locs1 hrg hP1 hD1 hk1 hS1 => ?_)
    have hD := hD1.weaken (fun _ z _ h => (freeA hD hS hA) z.1 h)
    have hP := hP1
    have hS := hS1
    have hrg : rg = 0 := hrg
    subst hrg
    refine lv_if_ne (tgt := 34) hx hb dR_worth_29 (by decide) (fun cg => ?_) (fun cg => ?_)
    · exact absurd (rfl : (0 : Int32) = 0) cg
    ·
      refine lv_iconst (v := 0) hx hb dR_worth_32 (by decide) ?_
      exact W.iret (v := 0) hx hb hr (fun t ht hW => ⟨⟨0, (), rfl, rfl, by rw [ht]; exact hP, va_K.moved hW.alike hK, hD⟩, hS.F ht⟩) hS.2.2 dR_worth_33
  ·
    refine lv_aload_n hx hb dR_worth_0 rfl (lv_at hl 0 rfl) ?_
    refine lv_iload_n hx hb dR_worth_1 rfl (lv_at hl 1 rfl) ?_
    refine lv_if_lt (tgt := 25) hx hb dR_worth_2 (by decide) (fun k2 => ?_) (fun k2 => ?_)
    ·
      refine lv_iconst (v := 0) hx hb dR_worth_25 (by decide) ?_
      exact K9 ls hl
    ·
      refine lv_iload_n hx hb dR_worth_5 rfl (lv_at hl 2 rfl) ?_
      refine lv_if_lt (tgt := 25) hx hb dR_worth_6 (by decide) (fun k4 => ?_) (fun k4 => ?_)
      ·
        refine lv_iconst (v := 0) hx hb dR_worth_25 (by decide) ?_
        exact K9 ls hl
      ·
        refine lv_iload_n hx hb dR_worth_9 rfl (lv_at hl 1 rfl) ?_
        refine lv_i2l (v := (v1).toInt64) hx hb dR_worth_10 rfl ?_
        refine lv_iload_n hx hb dR_worth_11 rfl (lv_at hl 2 rfl) ?_
        refine lv_i2l (v := (v2).toInt64) hx hb dR_worth_12 rfl ?_
        refine lv_ladd hx hb dR_worth_13 ?_
        refine lv_ldc2 (v := 1000000) hx hb hown (hts _ (List.mem_cons_of_mem _ kw569)) dR_worth_14 ?_
        refine W.lcmp hx hb dR_worth_17 ?_
        refine lv_if_gt (tgt := 25) hx hb dR_worth_18 (by decide) (fun k6 => ?_) (fun k6 => ?_)
        ·
          refine lv_iconst (v := 0) hx hb dR_worth_25 (by decide) ?_
          exact K9 ls hl
        ·
          exfalso
          obtain ⟨a1, h1, rfl⟩ := nI_of k2
          obtain ⟨a2, h2, rfl⟩ := nI_of k4
          rw [lg_cmp_gt, nI_l h1, nI_l h2, lN_add, show (1000000 : Int64) = lN 1000000 from rfl, pk_lLT (by omega) (by omega)] at k6
          exact hbad ⟨nI_pos h1, nI_pos h2, by rw [nI_toInt h1, nI_toInt h2]; omega⟩
set_option maxHeartbeats 4000000 in
set_option maxRecDepth 100000 in
theorem c_R_frontier_bad (l : Launch) (dC : Nat → ClassId) (dI : Nat → Nat → Nat) (w : Nat → Nat) (cI cZ : ClassId) (th n : Nat) (C G X D : Nat → Nat) (B : Nat → Nat → Int) (bu : Nat → Nat) (LG : Nat → Int) (LC : Nat → Nat) (ch : Nat → Int) (sz : Nat) (v1 : Int32) (hbad : ¬ ¬ v1 < 0) : Met l yR_frontier wdR_frontier ({ frames := 3, cells := 0, slots := 0, locals := 75 }) (wrP (dC, dI) mcCl (mcWR w cI cZ th n C G X D B bu LG LC ch) (mcTR cI cZ) sz [.ref (w 0), .int v1]) (va_Qi (fun z9 (_ : Unit) => z9 = 0) (fun _ t => va_P (dC, dI) mcCl (mcWR w cI cZ 1 n C G X D B bu LG LC ch) t.heap ∧ va_K (dC, dI) mcCl (mcTR cI cZ) t ∧ va_D (va_A (mcWR w cI cZ th n C G X D B bu LG LC ch) sz) (mcWR w cI cZ 1 n C G X D B bu LG LC ch)) (va_A (mcWR w cI cZ th n C G X D B bu LG LC ch) sz)) 0 0 (va_A (mcWR w cI cZ th n C G X D B bu LG LC ch) sz) := by
  refine Met.ofW (cc := bR_frontier) (maxL := 4) (ret := (some FieldType.int)) (by decide) rfl ?_
  intro p e s m args below meth c s₁ BB hml hv
  obtain ⟨rfl, hsz, hP, hK, hD0⟩ := hv
  have hx := BB.exec
  have hb := BB.bytes
  have hr := BB.returns
  have hts := atoms_spec (ws := wdR_frontier) BB.pre
  have hown : s.vm.findClass RR = some m.cls := findClass_of_methodNamed BB.named
  have hlocks := BB.notSynchronized
  subst hsz
  have hD := hD0.self (sz := s.heap.size)
  generalize hAe : va_A (mcWR w cI cZ th n C G X D B bu LG LC ch) s.heap.size = A at hD ⊢
  have hA : ∀ q : Nat, s.heap.size ≤ q → A q := fun q h => by rw [← hAe]; exact Or.inr h
  have hS : va_S A s.heap s.heap [] := va_S.rf
  have hl := lv_entry ([.ref (w 0), .int v1]) (n := 4) (Nat.le_of_ble_eq_true rfl)
  rw [lg_entry_eq]
  generalize (lg_sl ([.ref (w 0), .int v1]) ++ List.replicate (4 - (lg_sl ([.ref (w 0), .int v1])).length) Slot.unset).toArray = ls at hl ⊢
  have hl : lv_has ls 4 [(0, .ref (w 0)), (1, .int v1)] := hl
  refine mcCut (nL := 4) 10 [.int 0, .ref (w 0)] [(0, .ref (w 0)), (1, .int v1)] (fun ls hl => ?_) (fun K9 => ?_)
  ·
    refine callWVi (As := [.int 0]) (rest := []) ⟨hx, hb, hml, hown, hts⟩ tlB (c_R_good0 l dC dI w cI cZ th n C G X D B bu LG LC ch s.heap.size) kw505 kw506 kw14 kw29 kw507 ⟨rfl, rfl⟩ (n := 1) (by decide +kernel) ⟨Nat.le_of_ble_eq_true rfl, Nat.le_of_ble_eq_true rfl⟩ hP hK hD hS (freeA hD hS hA) (ci := 4) (q0 := 0) rfl rfl rfl hl.1 rfl (Nat.le_of_ble_eq_true rfl) ⟨Nat.le_of_ble_eq_true rfl, Nat.le_of_ble_eq_true rfl⟩ dR_frontier_10 (fun rg H1 locs1 hrg hP1 hD1 hk1 hS1 => ?_)
    have hD := hD1.weaken (fun _ z _ h => (freeA hD hS hA) z.1 h)
    have hP := hP1
    have hS := hS1
    have hrg : rg = 0 := hrg
    subst hrg
    refine lv_if_ne (tgt := 18) hx hb dR_frontier_13 (by decide) (fun cg => ?_) (fun cg => ?_)
    · exact absurd (rfl : (0 : Int32) = 0) cg
    ·
      refine lv_iconst (v := 0) hx hb dR_frontier_16 (by decide) ?_
      exact W.iret (v := 0) hx hb hr (fun t ht hW => ⟨⟨0, (), rfl, rfl, by rw [ht]; exact hP, va_K.moved hW.alike hK, hD⟩, hS.F ht⟩) hS.2.2 dR_frontier_17
  ·
    refine lv_aload_n hx hb dR_frontier_0 rfl (lv_at hl 0 rfl) ?_
    refine lv_iload_n hx hb dR_frontier_1 rfl (lv_at hl 1 rfl) ?_
    refine lv_if_lt (tgt := 9) hx hb dR_frontier_2 (by decide) (fun k2 => ?_) (fun k2 => ?_)
    ·
      refine lv_iconst (v := 0) hx hb dR_frontier_9 (by decide) ?_
      exact K9 ls hl
    ·
      exact absurd k2 hbad
set_option maxHeartbeats 4000000 in
set_option maxRecDepth 100000 in
theorem c_R_year_bad (l : Launch) (dC : Nat → ClassId) (dI : Nat → Nat → Nat) (w : Nat → Nat) (cI cZ : ClassId) (th n : Nat) (C G X D : Nat → Nat) (B : Nat → Nat → Int) (bu : Nat → Nat) (LG : Nat → Int) (LC : Nat → Nat) (ch : Nat → Int) (sz : Nat) (v1 v2 : Int32) (hbad : ¬ ((0 ≤ v1 ∧ v1 ≤ 3) ∧ (0 ≤ v2 ∧ v2 ≤ 100000))) : Met l yR_year wdR_year ({ frames := 1, cells := 0, slots := 0, locals := 22 }) (wrP (dC, dI) mcCl (mcWR w cI cZ th n C G X D B bu LG LC ch) (mcTR cI cZ) sz [.ref (w 0), .int v1, .int v2]) (va_Qi (fun z9 (_ : Unit) => z9 = 0) (fun _ t => va_P (dC, dI) mcCl (mcWR w cI cZ 1 n C G X D B bu LG LC ch) t.heap ∧ va_K (dC, dI) mcCl (mcTR cI cZ) t ∧ va_D (va_A (mcWR w cI cZ th n C G X D B bu LG LC ch) sz) (mcWR w cI cZ 1 n C G X D B bu LG LC ch)) (va_A (mcWR w cI cZ th n C G X D B bu LG LC ch) sz)) 0 0 (va_A (mcWR w cI cZ th n C G X D B bu LG LC ch) sz) := by
  refine Met.ofW (cc := bR_year) (maxL := 4) (ret := (some FieldType.int)) (by decide) rfl ?_
  intro p e s m args below meth c s₁ BB hml hv
  obtain ⟨rfl, hsz, hP, hK, hD0⟩ := hv
  have hx := BB.exec
  have hb := BB.bytes
  have hr := BB.returns
  have hts := atoms_spec (ws := wdR_year) BB.pre
  have hown : s.vm.findClass RR = some m.cls := findClass_of_methodNamed BB.named
  have hlocks := BB.notSynchronized
  subst hsz
  have hD := hD0.self (sz := s.heap.size)
  generalize hAe : va_A (mcWR w cI cZ th n C G X D B bu LG LC ch) s.heap.size = A at hD ⊢
  have hA : ∀ q : Nat, s.heap.size ≤ q → A q := fun q h => by rw [← hAe]; exact Or.inr h
  have hS : va_S A s.heap s.heap [] := va_S.rf
  have hl := lv_entry ([.ref (w 0), .int v1, .int v2]) (n := 4) (Nat.le_of_ble_eq_true rfl)
  rw [lg_entry_eq]
  generalize (lg_sl ([.ref (w 0), .int v1, .int v2]) ++ List.replicate (4 - (lg_sl ([.ref (w 0), .int v1, .int v2])).length) Slot.unset).toArray = ls at hl ⊢
  have hl : lv_has ls 4 [(0, .ref (w 0)), (1, .int v1), (2, .int v2)] := hl
  refine mcCut (nL := 4) 25 [.int 0, .ref (w 0)] [(0, .ref (w 0)), (1, .int v1), (2, .int v2)] (fun ls hl => ?_) (fun K9 => ?_)
  ·
    refine callWVi (As := [.int 0]) (rest := []) ⟨hx, hb, hml, hown, hts⟩ tlB (c_R_good0 l dC dI w cI cZ th n C G X D B bu LG LC ch s.heap.size) kw505 kw506 kw14 kw29 kw507 ⟨rfl, rfl⟩ (n := 1) (by decide +kernel) ⟨Nat.le_of_ble_eq_true rfl, Nat.le_of_ble_eq_true rfl⟩ hP hK hD hS (freeA hD hS hA) (ci := 4) (q0 := 0) rfl rfl rfl hl.1 rfl (Nat.le_of_ble_eq_true rfl) ⟨Nat.le_of_ble_eq_true rfl, Nat.le_of_ble_eq_true rfl⟩ dR_year_25 (fun rg H1 locs1 hrg hP1 hD1 hk1 hS1 => ?_)
    have hD := hD1.weaken (fun _ z _ h => (freeA hD hS hA) z.1 h)
    have hP := hP1
    have hS := hS1
    have hrg : rg = 0 := hrg
    subst hrg
    refine lv_if_ne (tgt := 33) hx hb dR_year_28 (by decide) (fun cg => ?_) (fun cg => ?_)
    · exact absurd (rfl : (0 : Int32) = 0) cg
    ·
      refine lv_iconst (v := 0) hx hb dR_year_31 (by decide) ?_
      exact W.iret (v := 0) hx hb hr (fun t ht hW => ⟨⟨0, (), rfl, rfl, by rw [ht]; exact hP, va_K.moved hW.alike hK, hD⟩, hS.F ht⟩) hS.2.2 dR_year_32
  ·
    refine lv_aload_n hx hb dR_year_0 rfl (lv_at hl 0 rfl) ?_
    refine lv_iload_n hx hb dR_year_1 rfl (lv_at hl 1 rfl) ?_
    refine lv_iconst (v := 0) hx hb dR_year_2 (by decide) ?_
    refine lv_iconst (v := 3) hx hb dR_year_3 (by decide) ?_
    refine callRS (As := [.int v1, .int 0, .int 3]) (rest := [.ref (w 0)]) ⟨hx, hb, hml, hown, hts⟩ tlB (c_R_in l v1 0 3) kw502 kw503 kw29 kw504 ⟨rfl, rfl⟩ (n := 3) (by decide +kernel) ⟨Nat.le_of_ble_eq_true rfl, Nat.le_of_ble_eq_true rfl⟩ (nwP_pre) rfl hl.1 rfl (Nat.le_of_ble_eq_true rfl) ⟨Nat.le_of_ble_eq_true rfl, Nat.le_of_ble_eq_true rfl⟩ dR_year_4 (fun r1 hr1 => ?_)
    refine lv_if_eq (tgt := 24) hx hb dR_year_7 (by decide) (fun k2 => ?_) (fun k2 => ?_)
    ·
      refine lv_iconst (v := 0) hx hb dR_year_24 (by decide) ?_
      exact K9 ls hl
    ·
      refine lv_iload_n hx hb dR_year_10 rfl (lv_at hl 2 rfl) ?_
      refine lv_iconst (v := 0) hx hb dR_year_11 (by decide) ?_
      refine lv_ldc (v := 100000) hx hb hown (hts _ (List.mem_cons_of_mem _ kw581)) dR_year_12 ?_
      refine callRS (As := [.int v2, .int 0, .int 100000]) (rest := [.ref (w 0)]) ⟨hx, hb, hml, hown, hts⟩ tlB (c_R_in l v2 0 100000) kw502 kw503 kw29 kw504 ⟨rfl, rfl⟩ (n := 3) (by decide +kernel) ⟨Nat.le_of_ble_eq_true rfl, Nat.le_of_ble_eq_true rfl⟩ (nwP_pre) rfl hl.1 rfl (Nat.le_of_ble_eq_true rfl) ⟨Nat.le_of_ble_eq_true rfl, Nat.le_of_ble_eq_true rfl⟩ dR_year_14 (fun r3 hr3 => ?_)
      refine lv_if_eq (tgt := 24) hx hb dR_year_17 (by decide) (fun k4 => ?_) (fun k4 => ?_)
      ·
        refine lv_iconst (v := 0) hx hb dR_year_24 (by decide) ?_
        exact K9 ls hl
      ·
        exact absurd ⟨mcZ_t hr1 k2, mcZ_t hr3 k4⟩ hbad
set_option maxHeartbeats 4000000 in
set_option maxRecDepth 100000 in
theorem c_R_plan_bad (l : Launch) (dC : Nat → ClassId) (dI : Nat → Nat → Nat) (w : Nat → Nat) (cI cZ : ClassId) (th n : Nat) (C G X D : Nat → Nat) (B : Nat → Nat → Int) (bu : Nat → Nat) (LG : Nat → Int) (LC : Nat → Nat) (ch : Nat → Int) (sz : Nat) (v1 v2 : Int32) (hbad : ¬ ((1 ≤ v1 ∧ v1 ≤ 4) ∧ (0 ≤ v2 ∧ v2 ≤ v1 - 1))) : Met l yR_plan wdR_plan ({ frames := 4, cells := 0, slots := 0, locals := 100 }) (wrP (dC, dI) mcCl (mcWR w cI cZ th n C G X D B bu LG LC ch) (mcTR cI cZ) sz [.ref (w 0), .int v1, .int v2]) (va_Qi (fun z9 (_ : Unit) => z9 = 0) (fun _ t => va_P (dC, dI) mcCl (mcWR w cI cZ 1 n C G X D B bu LG LC ch) t.heap ∧ va_K (dC, dI) mcCl (mcTR cI cZ) t ∧ va_D (va_A (mcWR w cI cZ th n C G X D B bu LG LC ch) sz) (mcWR w cI cZ 1 n C G X D B bu LG LC ch)) (va_A (mcWR w cI cZ th n C G X D B bu LG LC ch) sz)) 0 0 (va_A (mcWR w cI cZ th n C G X D B bu LG LC ch) sz) := by
  refine Met.ofW (cc := bR_plan) (maxL := 5) (ret := (some FieldType.int)) (by decide) rfl ?_
  intro p e s m args below meth c s₁ BB hml hv
  obtain ⟨rfl, hsz, hP, hK, hD0⟩ := hv
  have hx := BB.exec
  have hb := BB.bytes
  have hr := BB.returns
  have hts := atoms_spec (ws := wdR_plan) BB.pre
  have hown : s.vm.findClass RR = some m.cls := findClass_of_methodNamed BB.named
  have hlocks := BB.notSynchronized
  subst hsz
  have hD := hD0.self (sz := s.heap.size)
  generalize hAe : va_A (mcWR w cI cZ th n C G X D B bu LG LC ch) s.heap.size = A at hD ⊢
  have hA : ∀ q : Nat, s.heap.size ≤ q → A q := fun q h => by rw [← hAe]; exact Or.inr h
  have hS : va_S A s.heap s.heap [] := va_S.rf
  have hl := lv_entry ([.ref (w 0), .int v1, .int v2]) (n := 5) (Nat.le_of_ble_eq_true rfl)
  rw [lg_entry_eq]
  generalize (lg_sl ([.ref (w 0), .int v1, .int v2]) ++ List.replicate (5 - (lg_sl ([.ref (w 0), .int v1, .int v2])).length) Slot.unset).toArray = ls at hl ⊢
  have hl : lv_has ls 5 [(0, .ref (w 0)), (1, .int v1), (2, .int v2)] := hl
  refine mcCut (nL := 5) 26 [.int 0, .ref (w 0)] [(0, .ref (w 0)), (1, .int v1), (2, .int v2)] (fun ls hl => ?_) (fun K9 => ?_)
  ·
    refine callWVi (As := [.int 0]) (rest := []) ⟨hx, hb, hml, hown, hts⟩ tlB (c_R_good0 l dC dI w cI cZ th n C G X D B bu LG LC ch s.heap.size) kw505 kw506 kw14 kw29 kw507 ⟨rfl, rfl⟩ (n := 1) (by decide +kernel) ⟨Nat.le_of_ble_eq_true rfl, Nat.le_of_ble_eq_true rfl⟩ hP hK hD hS (freeA hD hS hA) (ci := 4) (q0 := 0) rfl rfl rfl hl.1 rfl (Nat.le_of_ble_eq_true rfl) ⟨Nat.le_of_ble_eq_true rfl, Nat.le_of_ble_eq_true rfl⟩ dR_plan_26 (fun rg H1 locs1 hrg hP1 hD1 hk1 hS1 => ?_)
    have hD := hD1.weaken (fun _ z _ h => (freeA hD hS hA) z.1 h)
    have hP := hP1
    have hS := hS1
    have hrg : rg = 0 := hrg
    subst hrg
    refine lv_if_ne (tgt := 34) hx hb dR_plan_29 (by decide) (fun cg => ?_) (fun cg => ?_)
    · exact absurd (rfl : (0 : Int32) = 0) cg
    ·
      refine lv_iconst (v := 0) hx hb dR_plan_32 (by decide) ?_
      exact W.iret (v := 0) hx hb hr (fun t ht hW => ⟨⟨0, (), rfl, rfl, by rw [ht]; exact hP, va_K.moved hW.alike hK, hD⟩, hS.F ht⟩) hS.2.2 dR_plan_33
  ·
    refine lv_aload_n hx hb dR_plan_0 rfl (lv_at hl 0 rfl) ?_
    refine lv_iload_n hx hb dR_plan_1 rfl (lv_at hl 1 rfl) ?_
    refine lv_iconst (v := 1) hx hb dR_plan_2 (by decide) ?_
    refine lv_iconst (v := 4) hx hb dR_plan_3 (by decide) ?_
    refine callRS (As := [.int v1, .int 1, .int 4]) (rest := [.ref (w 0)]) ⟨hx, hb, hml, hown, hts⟩ tlB (c_R_in l v1 1 4) kw502 kw503 kw29 kw504 ⟨rfl, rfl⟩ (n := 3) (by decide +kernel) ⟨Nat.le_of_ble_eq_true rfl, Nat.le_of_ble_eq_true rfl⟩ (nwP_pre) rfl hl.1 rfl (Nat.le_of_ble_eq_true rfl) ⟨Nat.le_of_ble_eq_true rfl, Nat.le_of_ble_eq_true rfl⟩ dR_plan_4 (fun r1 hr1 => ?_)
    refine lv_if_eq (tgt := 25) hx hb dR_plan_7 (by decide) (fun k2 => ?_) (fun k2 => ?_)
    ·
      refine lv_iconst (v := 0) hx hb dR_plan_25 (by decide) ?_
      exact K9 ls hl
    ·
      refine lv_iload_n hx hb dR_plan_10 rfl (lv_at hl 2 rfl) ?_
      refine lv_iconst (v := 0) hx hb dR_plan_11 (by decide) ?_
      refine lv_iload_n hx hb dR_plan_12 rfl (lv_at hl 1 rfl) ?_
      refine lv_iconst (v := 1) hx hb dR_plan_13 (by decide) ?_
      refine lv_isub hx hb dR_plan_14 ?_
      refine callRS (As := [.int v2, .int 0, .int (v1 - 1)]) (rest := [.ref (w 0)]) ⟨hx, hb, hml, hown, hts⟩ tlB (c_R_in l v2 0 (v1 - 1)) kw502 kw503 kw29 kw504 ⟨rfl, rfl⟩ (n := 3) (by decide +kernel) ⟨Nat.le_of_ble_eq_true rfl, Nat.le_of_ble_eq_true rfl⟩ (nwP_pre) rfl hl.1 rfl (Nat.le_of_ble_eq_true rfl) ⟨Nat.le_of_ble_eq_true rfl, Nat.le_of_ble_eq_true rfl⟩ dR_plan_15 (fun r3 hr3 => ?_)
      refine lv_if_eq (tgt := 25) hx hb dR_plan_18 (by decide) (fun k4 => ?_) (fun k4 => ?_)
      ·
        refine lv_iconst (v := 0) hx hb dR_plan_25 (by decide) ?_
        exact K9 ls hl
      ·
        exact absurd ⟨mcZ_t hr1 k2, mcZ_t hr3 k4⟩ hbad
set_option maxHeartbeats 4000000 in
set_option maxRecDepth 100000 in
theorem c_R_planned_bad (l : Launch) (dC : Nat → ClassId) (dI : Nat → Nat → Nat) (w : Nat → Nat) (cI cZ : ClassId) (th n : Nat) (C G X D : Nat → Nat) (B : Nat → Nat → Int) (bu : Nat → Nat) (LG : Nat → Int) (LC : Nat → Nat) (ch : Nat → Int) (sz : Nat) (v1 : Int32) (hbad : ¬ (1 ≤ v1 ∧ v1 ≤ 4)) : Met l yR_planned wdR_planned ({ frames := 4, cells := 0, slots := 0, locals := 100 }) (wrP (dC, dI) mcCl (mcWR w cI cZ th n C G X D B bu LG LC ch) (mcTR cI cZ) sz [.ref (w 0), .int v1]) (va_Qi (fun z9 (_ : Unit) => z9 = 0) (fun _ t => va_P (dC, dI) mcCl (mcWR w cI cZ 1 n C G X D B bu LG LC ch) t.heap ∧ va_K (dC, dI) mcCl (mcTR cI cZ) t ∧ va_D (va_A (mcWR w cI cZ th n C G X D B bu LG LC ch) sz) (mcWR w cI cZ 1 n C G X D B bu LG LC ch)) (va_A (mcWR w cI cZ th n C G X D B bu LG LC ch) sz)) 0 0 (va_A (mcWR w cI cZ th n C G X D B bu LG LC ch) sz) := by
  refine Met.ofW (cc := bR_planned) (maxL := 2) (ret := (some FieldType.int)) (by decide) rfl ?_
  intro p e s m args below meth c s₁ BB hml hv
  obtain ⟨rfl, hsz, hP, hK, hD0⟩ := hv
  have hx := BB.exec
  have hb := BB.bytes
  have hr := BB.returns
  have hts := atoms_spec (ws := wdR_planned) BB.pre
  have hown : s.vm.findClass RR = some m.cls := findClass_of_methodNamed BB.named
  have hlocks := BB.notSynchronized
  subst hsz
  have hD := hD0.self (sz := s.heap.size)
  generalize hAe : va_A (mcWR w cI cZ th n C G X D B bu LG LC ch) s.heap.size = A at hD ⊢
  have hA : ∀ q : Nat, s.heap.size ≤ q → A q := fun q h => by rw [← hAe]; exact Or.inr h
  have hS : va_S A s.heap s.heap [] := va_S.rf
  have hl := lv_entry ([.ref (w 0), .int v1]) (n := 2) (Nat.le_of_ble_eq_true rfl)
  rw [lg_entry_eq]
  generalize (lg_sl ([.ref (w 0), .int v1]) ++ List.replicate (2 - (lg_sl ([.ref (w 0), .int v1])).length) Slot.unset).toArray = ls at hl ⊢
  have hl : lv_has ls 2 [(0, .ref (w 0)), (1, .int v1)] := hl
  refine lv_aload_n hx hb dR_planned_0 rfl (lv_at hl 0 rfl) ?_
  refine lv_iload_n hx hb dR_planned_1 rfl (lv_at hl 1 rfl) ?_
  refine lv_iconst (v := 1) hx hb dR_planned_2 (by decide) ?_
  refine lv_iconst (v := 4) hx hb dR_planned_3 (by decide) ?_
  refine callRS (As := [.int v1, .int 1, .int 4]) (rest := [.ref (w 0)]) ⟨hx, hb, hml, hown, hts⟩ tlB (c_R_in l v1 1 4) kw502 kw503 kw29 kw504 ⟨rfl, rfl⟩ (n := 3) (by decide +kernel) ⟨Nat.le_of_ble_eq_true rfl, Nat.le_of_ble_eq_true rfl⟩ (nwP_pre) rfl hl.1 rfl (Nat.le_of_ble_eq_true rfl) ⟨Nat.le_of_ble_eq_true rfl, Nat.le_of_ble_eq_true rfl⟩ dR_planned_4 (fun r1 hr1 => ?_)
  have hr0 : r1 = 0 := by rcases hr1 with ⟨-, z⟩ | ⟨z, -⟩; exact absurd z hbad; exact z
  subst hr0
  refine callWVi (As := [.int 0]) (rest := []) ⟨hx, hb, hml, hown, hts⟩ tlB (c_R_good0 l dC dI w cI cZ th n C G X D B bu LG LC ch s.heap.size) kw505 kw506 kw14 kw29 kw507 ⟨rfl, rfl⟩ (n := 1) (by decide +kernel) ⟨Nat.le_of_ble_eq_true rfl, Nat.le_of_ble_eq_true rfl⟩ hP hK hD hS (freeA hD hS hA) (ci := 4) (q0 := 0) rfl rfl rfl hl.1 rfl (Nat.le_of_ble_eq_true rfl) ⟨Nat.le_of_ble_eq_true rfl, Nat.le_of_ble_eq_true rfl⟩ dR_planned_7 (fun rg H1 locs1 hrg hP1 hD1 hk1 hS1 => ?_)
  have hD := hD1.weaken (fun _ z _ h => (freeA hD hS hA) z.1 h)
  have hP := hP1
  have hS := hS1
  have hrg : rg = 0 := hrg
  subst hrg
  refine lv_if_ne (tgt := 15) hx hb dR_planned_10 (by decide) (fun cg => ?_) (fun cg => ?_)
  · exact absurd (rfl : (0 : Int32) = 0) cg
  ·
    refine lv_iconst (v := 0) hx hb dR_planned_13 (by decide) ?_
    exact W.iret (v := 0) hx hb hr (fun t ht hW => ⟨⟨0, (), rfl, rfl, by rw [ht]; exact hP, va_K.moved hW.alike hK, hD⟩, hS.F ht⟩) hS.2.2 dR_planned_14
