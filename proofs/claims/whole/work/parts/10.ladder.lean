/-! the ladder: its cells, and its methods that only read -/
def mcWA (q : Nat → Nat) (cI : ClassId) (rg : Nat) (ver : Int) (st : Nat → Nat) (gn : Nat → Int) : va_W :=
  [(q 0, .inr (1, [.int (nI rg), .int (iI ver), .ref (q 1), .ref (q 2)])), (q 1, .inl (cI, 4096, .inl (fun i => nI (st i)))), (q 2, .inl (cI, 4096, .inl (fun i => iI (gn i))))]
theorem nI_low12 {x : Nat} (h : x < 2 ^ 31) : nI x &&& 4095 = nI (x % 4096) := pk_andN (m := 4095) (by omega) 12 (by decide +kernel)
theorem nI_cost12 {x : Nat} (h : x < 2 ^ 31) : nI x >>> ((12 : Int32) &&& 31) = nI (x / 4096) := nI_shr (k := 12) (by omega) h
set_option maxHeartbeats 4000000 in
set_option maxRecDepth 100000 in
theorem c_A_setAt (l : Launch) (dC : Nat → ClassId) (dI : Nat → Nat → Nat) (q : Nat → Nat) (cI cG : ClassId) (rg : Nat) (ver : Int) (st : Nat → Nat) (gn : Nat → Int) (i : Nat) (hi : i < 4096) (hst : st i < 2 ^ 31) : Met l yA_setAt wdA_setAt ({ frames := 0, cells := 0, slots := 0, locals := 0 }) (roP (dC, dI) mcCl (mcWA q cI rg ver st gn) (mcTH cI cG) [.ref (q 0), .int (nI i)]) (vp_Si (fun r => r = nI (st i % 4096))) 0 0 (fun _ => False) := by
  refine Met.ofW (cc := bA_setAt) (maxL := 2) (ret := (some FieldType.int)) (by decide) rfl ?_
  intro p e s m args below meth c s₁ BB hml hv
  obtain ⟨rfl, hP, hK⟩ := hv
  have hx := BB.exec
  have hb := BB.bytes
  have hr := BB.returns
  have hts := atoms_spec (ws := wdA_setAt) BB.pre
  have hown : s.vm.findClass RA = some m.cls := findClass_of_methodNamed BB.named
  have hlocks := BB.notSynchronized
  have hl := lv_entry ([.ref (q 0), .int (nI i)]) (n := 2) (Nat.le_of_ble_eq_true rfl)
  rw [lg_entry_eq]
  generalize (lg_sl ([.ref (q 0), .int (nI i)]) ++ List.replicate (2 - (lg_sl ([.ref (q 0), .int (nI i)])).length) Slot.unset).toArray = ls at hl ⊢
  have hl : lv_has ls 2 [(0, .ref (q 0)), (1, .int (nI i))] := hl
  refine lv_aload_n hx hb dA_setAt_0 rfl (lv_at hl 0 rfl) ?_
  refine va_get (D := (dC, dI)) (ci := 1) (C := RA) (T := FA) (N := 4) hx hb hts (fun w h => List.mem_cons_of_mem _ (inA w h)) hown hK hP 0 rfl rfl 2 (by decide) (hts _ (List.mem_cons_of_mem _ kw91)) (fun _ h9 => h9) rfl dA_setAt_1 ?_
  refine lv_iload_n hx hb dA_setAt_4 rfl (lv_at hl 1 rfl) ?_
  refine ialdN hx hb hK hP 1 0 rfl rfl (k := i) hi (by decide) (v := nI (st i)) rfl dA_setAt_5 ?_
  refine lv_sipush (v := 4095) hx hb dA_setAt_6 (by decide) ?_
  refine lv_iand hx hb dA_setAt_9 ?_
  exact W.iret hx hb hr (fun t ht hW => ⟨_, rfl, (nI_low12 hst), ht⟩) (fun q hq => by cases hq) dA_setAt_10
set_option maxHeartbeats 4000000 in
set_option maxRecDepth 100000 in
theorem c_A_costAt (l : Launch) (dC : Nat → ClassId) (dI : Nat → Nat → Nat) (q : Nat → Nat) (cI cG : ClassId) (rg : Nat) (ver : Int) (st : Nat → Nat) (gn : Nat → Int) (i : Nat) (hi : i < 4096) (hst : st i < 2 ^ 31) : Met l yA_costAt wdA_costAt ({ frames := 0, cells := 0, slots := 0, locals := 0 }) (roP (dC, dI) mcCl (mcWA q cI rg ver st gn) (mcTH cI cG) [.ref (q 0), .int (nI i)]) (vp_Si (fun r => r = nI (st i / 4096))) 0 0 (fun _ => False) := by
  refine Met.ofW (cc := bA_costAt) (maxL := 2) (ret := (some FieldType.int)) (by decide) rfl ?_
  intro p e s m args below meth c s₁ BB hml hv
  obtain ⟨rfl, hP, hK⟩ := hv
  have hx := BB.exec
  have hb := BB.bytes
  have hr := BB.returns
  have hts := atoms_spec (ws := wdA_costAt) BB.pre
  have hown : s.vm.findClass RA = some m.cls := findClass_of_methodNamed BB.named
  have hlocks := BB.notSynchronized
  have hl := lv_entry ([.ref (q 0), .int (nI i)]) (n := 2) (Nat.le_of_ble_eq_true rfl)
  rw [lg_entry_eq]
  generalize (lg_sl ([.ref (q 0), .int (nI i)]) ++ List.replicate (2 - (lg_sl ([.ref (q 0), .int (nI i)])).length) Slot.unset).toArray = ls at hl ⊢
  have hl : lv_has ls 2 [(0, .ref (q 0)), (1, .int (nI i))] := hl
  refine lv_aload_n hx hb dA_costAt_0 rfl (lv_at hl 0 rfl) ?_
  refine va_get (D := (dC, dI)) (ci := 1) (C := RA) (T := FA) (N := 4) hx hb hts (fun w h => List.mem_cons_of_mem _ (inA w h)) hown hK hP 0 rfl rfl 2 (by decide) (hts _ (List.mem_cons_of_mem _ kw91)) (fun _ h9 => h9) rfl dA_costAt_1 ?_
  refine lv_iload_n hx hb dA_costAt_4 rfl (lv_at hl 1 rfl) ?_
  refine ialdN hx hb hK hP 1 0 rfl rfl (k := i) hi (by decide) (v := nI (st i)) rfl dA_costAt_5 ?_
  refine lv_bipush (v := 12) hx hb dA_costAt_6 (by decide) ?_
  refine lv_ishr hx hb dA_costAt_8 ?_
  exact W.iret hx hb hr (fun t ht hW => ⟨_, rfl, (nI_cost12 hst), ht⟩) (fun q hq => by cases hq) dA_costAt_9
set_option maxHeartbeats 4000000 in
set_option maxRecDepth 100000 in
theorem c_A_gainAt (l : Launch) (dC : Nat → ClassId) (dI : Nat → Nat → Nat) (q : Nat → Nat) (cI cG : ClassId) (rg : Nat) (ver : Int) (st : Nat → Nat) (gn : Nat → Int) (i : Nat) (hi : i < 4096) (hst : st i < 2 ^ 31) : Met l yA_gainAt wdA_gainAt ({ frames := 1, cells := 0, slots := 0, locals := 21 }) (roP (dC, dI) mcCl (mcWA q cI rg ver st gn) (mcTH cI cG) [.ref (q 0), .int (nI i)]) (vp_Si (fun r => r = iI (gn (st i % 4096)))) 0 0 (fun _ => False) := by
  refine Met.ofW (cc := bA_gainAt) (maxL := 2) (ret := (some FieldType.int)) (by decide) rfl ?_
  intro p e s m args below meth c s₁ BB hml hv
  obtain ⟨rfl, hP, hK⟩ := hv
  have hx := BB.exec
  have hb := BB.bytes
  have hr := BB.returns
  have hts := atoms_spec (ws := wdA_gainAt) BB.pre
  have hown : s.vm.findClass RA = some m.cls := findClass_of_methodNamed BB.named
  have hlocks := BB.notSynchronized
  have hl := lv_entry ([.ref (q 0), .int (nI i)]) (n := 2) (Nat.le_of_ble_eq_true rfl)
  rw [lg_entry_eq]
  generalize (lg_sl ([.ref (q 0), .int (nI i)]) ++ List.replicate (2 - (lg_sl ([.ref (q 0), .int (nI i)])).length) Slot.unset).toArray = ls at hl ⊢
  have hl : lv_has ls 2 [(0, .ref (q 0)), (1, .int (nI i))] := hl
  refine lv_aload_n hx hb dA_gainAt_0 rfl (lv_at hl 0 rfl) ?_
  refine va_get (D := (dC, dI)) (ci := 1) (C := RA) (T := FA) (N := 4) hx hb hts (fun w h => List.mem_cons_of_mem _ (inA w h)) hown hK hP 0 rfl rfl 3 (by decide) (hts _ (List.mem_cons_of_mem _ kw92)) (fun _ h9 => h9) rfl dA_gainAt_1 ?_
  refine lv_aload_n hx hb dA_gainAt_4 rfl (lv_at hl 0 rfl) ?_
  refine lv_iload_n hx hb dA_gainAt_5 rfl (lv_at hl 1 rfl) ?_
  refine callRV (As := [.int (nI i)]) (rest := [.ref (q 2)]) ⟨hx, hb, hml, hown, hts⟩ tlB (c_A_setAt l dC dI q cI cG rg ver st gn i hi hst) kw159 kw160 kw161 kw27 kw162 ⟨rfl, rfl⟩ (n := 1) (by decide +kernel) ⟨Nat.le_of_ble_eq_true rfl, Nat.le_of_ble_eq_true rfl⟩ (roP_preV hP hK (ci := 1) (q0 := 0) rfl rfl) rfl hl.1 rfl (Nat.le_of_ble_eq_true rfl) ⟨Nat.le_of_ble_eq_true rfl, Nat.le_of_ble_eq_true rfl⟩ dA_gainAt_6 (fun r1 hr1 => ?_)
  subst hr1
  refine ialdN hx hb hK hP 2 0 rfl rfl (k := (st i % 4096)) (by omega) (by decide) (v := iI (gn (st i % 4096))) rfl dA_gainAt_9 ?_
  exact W.iret hx hb hr (fun t ht hW => ⟨_, rfl, rfl, ht⟩) (fun q hq => by cases hq) dA_gainAt_10
set_option maxHeartbeats 4000000 in
set_option maxRecDepth 100000 in
theorem c_A_highestWithin (l : Launch) (dC : Nat → ClassId) (dI : Nat → Nat → Nat) (q : Nat → Nat) (cI cG : ClassId) (rg : Nat) (ver : Int) (st : Nat → Nat) (gn : Nat → Int) (b : Nat) (hb9 : b < 2 ^ 31) (hrg : 0 < rg) (hrg2 : rg ≤ 4096) (hst : ∀ i, i < rg → st i < 2 ^ 31) : Met l yA_highestWithin wdA_highestWithin ({ frames := 1, cells := 0, slots := 0, locals := 21 }) (roP (dC, dI) mcCl (mcWA q cI rg ver st gn) (mcTH cI cG) [.ref (q 0), .int (nI b)]) (vp_Si (fun r => ∃ k, r = nI k ∧ k < rg ∧ (0 < k → st k / 4096 ≤ b) ∧ (k + 1 < rg → b < st (k + 1) / 4096))) 0 0 (fun _ => False) := by
  refine Met.ofW (cc := bA_highestWithin) (maxL := 4) (ret := (some FieldType.int)) (by decide) rfl ?_
  intro p e s m args below meth c s₁ BB hml hv
  obtain ⟨rfl, hP, hK⟩ := hv
  have hx := BB.exec
  have hb := BB.bytes
  have hr := BB.returns
  have hts := atoms_spec (ws := wdA_highestWithin) BB.pre
  have hown : s.vm.findClass RA = some m.cls := findClass_of_methodNamed BB.named
  have hlocks := BB.notSynchronized
  have hl := lv_entry ([.ref (q 0), .int (nI b)]) (n := 4) (Nat.le_of_ble_eq_true rfl)
  rw [lg_entry_eq]
  generalize (lg_sl ([.ref (q 0), .int (nI b)]) ++ List.replicate (4 - (lg_sl ([.ref (q 0), .int (nI b)])).length) Slot.unset).toArray = ls at hl ⊢
  have hl : lv_has ls 4 [(0, .ref (q 0)), (1, .int (nI b))] := hl
  refine lv_iconst (v := 0) hx hb dA_highestWithin_0 (by decide) ?_
  refine lv_istore_n (lv' := [(2, .int 0), (0, .ref (q 0)), (1, .int (nI b))]) hx hb dA_highestWithin_1 rfl hl (by decide) rfl (fun ls hl => ?_)
  refine lv_iconst (v := 1) hx hb dA_highestWithin_2 (by decide) ?_
  refine lv_istore_n (lv' := [(3, .int 1), (2, .int 0), (0, .ref (q 0)), (1, .int (nI b))]) hx hb dA_highestWithin_3 rfl hl (by decide) rfl (fun ls hl => ?_)
  refine lpR (σ := Nat) (fun k => k < rg ∧ (0 < k → st k / 4096 ≤ b)) (fun k => [(0, .ref (q 0)), (1, .int (nI b)), (2, .int (nI k)), (3, .int (nI (k + 1)))]) (fun k => rg - k) (fun k ls hI hl ih => ?_) (0) ls (⟨hrg, fun h => absurd h (by omega)⟩) (lv_sub hl [2, 3, 1, 0] rfl)
  have hl : lv_has ls 4 [(0, .ref (q 0)), (1, .int (nI b)), (2, .int (nI k)), (3, .int (nI (k + 1)))] := hl
  obtain ⟨hk, hle⟩ := hI
  refine lv_iload_n hx hb dA_highestWithin_4 rfl (lv_at hl 3 rfl) ?_
  refine lv_aload_n hx hb dA_highestWithin_5 rfl (lv_at hl 0 rfl) ?_
  refine va_get (D := (dC, dI)) (ci := 1) (C := RA) (T := FA) (N := 4) hx hb hts (fun w h => List.mem_cons_of_mem _ (inA w h)) hown hK hP 0 rfl rfl 0 (by decide) (hts _ (List.mem_cons_of_mem _ kw88)) (fun _ h9 => h9) rfl dA_highestWithin_6 ?_
  refine lv_icmp_ge (tgt := 29) hx hb dA_highestWithin_9 (by decide) (fun c1 => ?_) (fun c1 => ?_)
  · have hkn : k + 1 = rg := by have := (nI_leI (by omega) (by omega)).mp c1; omega
    refine lv_iload_n hx hb dA_highestWithin_29 rfl (lv_at hl 2 rfl) ?_
    exact W.iret hx hb hr (fun t ht hW => ⟨_, rfl, ⟨k, rfl, hk, hle, fun h => absurd h (by omega)⟩, ht⟩) (fun q hq => by cases hq) dA_highestWithin_30
  · have hkn : k + 1 < rg := by
      rcases Nat.lt_or_ge (k + 1) rg with z | z
      · exact z
      · exact absurd (nI_le z (by omega)) c1
    refine lv_aload_n hx hb dA_highestWithin_12 rfl (lv_at hl 0 rfl) ?_
    refine lv_iload_n hx hb dA_highestWithin_13 rfl (lv_at hl 3 rfl) ?_
    refine callRV (As := [.int (nI (k + 1))]) (rest := []) ⟨hx, hb, hml, hown, hts⟩ tlB (c_A_costAt l dC dI q cI cG rg ver st gn (k + 1) (by omega) (hst _ hkn)) kw174 kw175 kw176 kw27 kw177 ⟨rfl, rfl⟩ (n := 1) (by decide +kernel) ⟨Nat.le_of_ble_eq_true rfl, Nat.le_of_ble_eq_true rfl⟩ (roP_preV hP hK (ci := 1) (q0 := 0) rfl rfl) rfl hl.1 rfl (Nat.le_of_ble_eq_true rfl) ⟨Nat.le_of_ble_eq_true rfl, Nat.le_of_ble_eq_true rfl⟩ dA_highestWithin_14 (fun r1 hr1 => ?_)
    subst hr1
    have hc9 : st (k + 1) / 4096 < 2 ^ 31 := by have := hst _ hkn; omega
    refine lv_iload_n hx hb dA_highestWithin_17 rfl (lv_at hl 1 rfl) ?_
    refine lv_icmp_gt (tgt := 29) hx hb dA_highestWithin_18 (by decide) (fun c2 => ?_) (fun c2 => ?_)
    · have c2 := (nI_ltI hb9 hc9).mp c2
      refine lv_iload_n hx hb dA_highestWithin_29 rfl (lv_at hl 2 rfl) ?_
      exact W.iret hx hb hr (fun t ht hW => ⟨_, rfl, ⟨k, rfl, hk, hle, fun _ => c2⟩, ht⟩) (fun q hq => by cases hq) dA_highestWithin_30
    · have c2 : st (k + 1) / 4096 ≤ b := by
        rcases Nat.lt_or_ge b (st (k + 1) / 4096) with z | z
        · exact absurd ((nI_ltI hb9 hc9).mpr z) c2
        · exact z
      refine lv_iload_n hx hb dA_highestWithin_21 rfl (lv_at hl 3 rfl) ?_
      refine lv_istore_n (lv' := [(2, .int (nI (k + 1))), (0, .ref (q 0)), (1, .int (nI b)), (3, .int (nI (k + 1)))]) hx hb dA_highestWithin_22 rfl hl (by decide) rfl (fun ls hl => ?_)
      refine lv_iinc (v := (nI (k + 1 + 1))) (lv' := [(3, .int (nI (k + 1 + 1))), (2, .int (nI (k + 1))), (0, .ref (q 0)), (1, .int (nI b))]) hx hb dA_highestWithin_23 hl (k := 3) rfl (nI_1 (k + 1)) (by decide) rfl (fun ls hl => ?_)
      refine lv_goto (tgt := 4) hx hb dA_highestWithin_26 (by decide) ?_
      exact ih (k + 1) ls (⟨hkn, fun _ => c2⟩) (by omega) (lv_sub hl [2, 3, 1, 0] rfl)
set_option maxHeartbeats 4000000 in
set_option maxRecDepth 100000 in
theorem c_A_lowestGaining (l : Launch) (dC : Nat → ClassId) (dI : Nat → Nat → Nat) (q : Nat → Nat) (cI cG : ClassId) (rg : Nat) (ver : Int) (st : Nat → Nat) (gn : Nat → Int) (z : Int) (hz1 : -2147483648 ≤ z) (hz2 : z < 2147483648) (hrg2 : rg ≤ 4096) (hst : ∀ i, i < rg → st i < 2 ^ 31) (hgn : ∀ i, i < rg → -900000 ≤ gn (st i % 4096) ∧ gn (st i % 4096) ≤ 900000) : Met l yA_lowestGaining wdA_lowestGaining ({ frames := 2, cells := 0, slots := 0, locals := 42 }) (roP (dC, dI) mcCl (mcWA q cI rg ver st gn) (mcTH cI cG) [.ref (q 0), .int (iI z)]) (vp_Si (fun r => (∃ k, r = nI k ∧ k < rg ∧ z ≤ gn (st k % 4096) ∧ ∀ j, j < k → gn (st j % 4096) < z) ∨ (r = -1 ∧ ∀ j, j < rg → gn (st j % 4096) < z))) 0 0 (fun _ => False) := by
  refine Met.ofW (cc := bA_lowestGaining) (maxL := 3) (ret := (some FieldType.int)) (by decide) rfl ?_
  intro p e s m args below meth c s₁ BB hml hv
  obtain ⟨rfl, hP, hK⟩ := hv
  have hx := BB.exec
  have hb := BB.bytes
  have hr := BB.returns
  have hts := atoms_spec (ws := wdA_lowestGaining) BB.pre
  have hown : s.vm.findClass RA = some m.cls := findClass_of_methodNamed BB.named
  have hlocks := BB.notSynchronized
  have hl := lv_entry ([.ref (q 0), .int (iI z)]) (n := 3) (Nat.le_of_ble_eq_true rfl)
  rw [lg_entry_eq]
  generalize (lg_sl ([.ref (q 0), .int (iI z)]) ++ List.replicate (3 - (lg_sl ([.ref (q 0), .int (iI z)])).length) Slot.unset).toArray = ls at hl ⊢
  have hl : lv_has ls 3 [(0, .ref (q 0)), (1, .int (iI z))] := hl
  refine lv_iconst (v := 0) hx hb dA_lowestGaining_0 (by decide) ?_
  refine lv_istore_n (lv' := [(2, .int 0), (0, .ref (q 0)), (1, .int (iI z))]) hx hb dA_lowestGaining_1 rfl hl (by decide) rfl (fun ls hl => ?_)
  refine lpR (σ := Nat) (fun k => k ≤ rg ∧ ∀ j, j < k → gn (st j % 4096) < z) (fun k => [(0, .ref (q 0)), (1, .int (iI z)), (2, .int (nI k))]) (fun k => rg - k) (fun k ls hI hl ih => ?_) (0) ls (⟨Nat.zero_le _, fun j h => absurd h (Nat.not_lt_zero j)⟩) (lv_sub hl [1, 2, 0] rfl)
  have hl : lv_has ls 3 [(0, .ref (q 0)), (1, .int (iI z)), (2, .int (nI k))] := hl
  obtain ⟨hk, hle⟩ := hI
  refine lv_iload_n hx hb dA_lowestGaining_2 rfl (lv_at hl 2 rfl) ?_
  refine lv_aload_n hx hb dA_lowestGaining_3 rfl (lv_at hl 0 rfl) ?_
  refine va_get (D := (dC, dI)) (ci := 1) (C := RA) (T := FA) (N := 4) hx hb hts (fun w h => List.mem_cons_of_mem _ (inA w h)) hown hK hP 0 rfl rfl 0 (by decide) (hts _ (List.mem_cons_of_mem _ kw88)) (fun _ h9 => h9) rfl dA_lowestGaining_4 ?_
  refine lv_icmp_ge (tgt := 27) hx hb dA_lowestGaining_7 (by decide) (fun c1 => ?_) (fun c1 => ?_)
  · have hkn : k = rg := by have := (nI_leI (by omega) (by omega)).mp c1; omega
    subst hkn
    refine lv_iconst (v := (-1)) hx hb dA_lowestGaining_27 (by decide) ?_
    exact W.iret hx hb hr (fun t ht hW => ⟨_, rfl, Or.inr ⟨rfl, hle⟩, ht⟩) (fun q hq => by cases hq) dA_lowestGaining_28
  · have hkn : k < rg := by
      rcases Nat.lt_or_ge k rg with z | z
      · exact z
      · exact absurd (nI_le z (by omega)) c1
    refine lv_aload_n hx hb dA_lowestGaining_10 rfl (lv_at hl 0 rfl) ?_
    refine lv_iload_n hx hb dA_lowestGaining_11 rfl (lv_at hl 2 rfl) ?_
    refine callRV (As := [.int (nI k)]) (rest := []) ⟨hx, hb, hml, hown, hts⟩ tlB (c_A_gainAt l dC dI q cI cG rg ver st gn k (by omega) (hst _ hkn)) kw163 kw164 kw165 kw27 kw166 ⟨rfl, rfl⟩ (n := 1) (by decide +kernel) ⟨Nat.le_of_ble_eq_true rfl, Nat.le_of_ble_eq_true rfl⟩ (roP_preV hP hK (ci := 1) (q0 := 0) rfl rfl) rfl hl.1 rfl (Nat.le_of_ble_eq_true rfl) ⟨Nat.le_of_ble_eq_true rfl, Nat.le_of_ble_eq_true rfl⟩ dA_lowestGaining_12 (fun r1 hr1 => ?_)
    subst hr1
    have hg9 := hgn k hkn
    have hlt9 := iI_lt (a := gn (st k % 4096)) (b := z) (by omega) (by omega) hz1 hz2
    refine lv_iload_n hx hb dA_lowestGaining_15 rfl (lv_at hl 1 rfl) ?_
    refine lv_icmp_lt (tgt := 21) hx hb dA_lowestGaining_16 (by decide) (fun c2 => ?_) (fun c2 => ?_)
    · have c2 := hlt9.mp c2
      refine lv_iinc (v := (nI (k + 1))) (lv' := [(2, .int (nI (k + 1))), (0, .ref (q 0)), (1, .int (iI z))]) hx hb dA_lowestGaining_21 hl (k := 2) rfl (nI_1 k) (by decide) rfl (fun ls hl => ?_)
      refine lv_goto (tgt := 2) hx hb dA_lowestGaining_24 (by decide) ?_
      exact ih (k + 1) ls (⟨hkn, lt_s hle c2⟩) (by omega) (lv_sub hl [1, 2, 0] rfl)
    · have c2 : z ≤ gn (st k % 4096) := by
        rcases Int.lt_or_le (gn (st k % 4096)) z with z9 | z9
        · exact absurd (hlt9.mpr z9) c2
        · exact z9
      refine lv_iload_n hx hb dA_lowestGaining_19 rfl (lv_at hl 2 rfl) ?_
      exact W.iret hx hb hr (fun t ht hW => ⟨_, rfl, Or.inl ⟨k, rfl, hkn, c2, hle⟩, ht⟩) (fun q hq => by cases hq) dA_lowestGaining_20
