/-! the reference: its public methods, where the arguments are good -/
set_option maxHeartbeats 4000000 in
set_option maxRecDepth 100000 in
theorem c_R_measure_ok (l : Launch) (dC : Nat → ClassId) (dI : Nat → Nat → Nat) (w : Nat → Nat) (cI cZ : ClassId) (th n : Nat) (C G X D : Nat → Nat) (B : Nat → Nat → Int) (bu : Nat → Nat) (LG : Nat → Int) (LC : Nat → Nat) (ch : Nat → Int) (sz : Nat) (cv gv : Nat) (hn : n ≤ 12) (h1 : 1 ≤ nI cv ∧ nI cv ≤ 10000) (h2 : 0 ≤ nI gv ∧ nI gv ≤ 10000) (hf : n < 12) : Met l yR_measure wdR_measure ({ frames := 1, cells := 0, slots := 0, locals := 22 }) (wrP (dC, dI) mcCl (mcWR w cI cZ th n C G X D B bu LG LC ch) (mcTR cI cZ) sz [.ref (w 0), .int (nI cv), .int (nI gv)]) (va_Qi (fun z9 (_ : Unit) => z9 = nI n) (fun _ t => va_P (dC, dI) mcCl (mcWR w cI cZ 0 (n + 1) (va_up C n cv) (va_up G n gv) X D B bu LG LC ch) t.heap ∧ va_K (dC, dI) mcCl (mcTR cI cZ) t ∧ va_D (va_A (mcWR w cI cZ th n C G X D B bu LG LC ch) sz) (mcWR w cI cZ 0 (n + 1) (va_up C n cv) (va_up G n gv) X D B bu LG LC ch)) (va_A (mcWR w cI cZ th n C G X D B bu LG LC ch) sz)) 0 0 (va_A (mcWR w cI cZ th n C G X D B bu LG LC ch) sz) := by
  refine Met.ofW (cc := bR_measure) (maxL := 3) (ret := (some FieldType.int)) (by decide) rfl ?_
  intro p e s m args below meth c s₁ BB hml hv
  obtain ⟨rfl, hsz, hP, hK, hD0⟩ := hv
  have hx := BB.exec
  have hb := BB.bytes
  have hr := BB.returns
  have hts := atoms_spec (ws := wdR_measure) BB.pre
  have hown : s.vm.findClass RR = some m.cls := findClass_of_methodNamed BB.named
  have hlocks := BB.notSynchronized
  subst hsz
  have hD := hD0.self (sz := s.heap.size)
  generalize hAe : va_A (mcWR w cI cZ th n C G X D B bu LG LC ch) s.heap.size = A at hD ⊢
  have hA : ∀ q : Nat, s.heap.size ≤ q → A q := fun q h => by rw [← hAe]; exact Or.inr h
  have hS : va_S A s.heap s.heap [] := va_S.rf
  have hl := lv_entry ([.ref (w 0), .int (nI cv), .int (nI gv)]) (n := 3) (Nat.le_of_ble_eq_true rfl)
  rw [lg_entry_eq]
  generalize (lg_sl ([.ref (w 0), .int (nI cv), .int (nI gv)]) ++ List.replicate (3 - (lg_sl ([.ref (w 0), .int (nI cv), .int (nI gv)])).length) Slot.unset).toArray = ls at hl ⊢
  have hl : lv_has ls 3 [(0, .ref (w 0)), (1, .int (nI cv)), (2, .int (nI gv))] := hl
  refine lv_aload_n hx hb dR_measure_0 rfl (lv_at hl 0 rfl) ?_
  refine lv_iload_n hx hb dR_measure_1 rfl (lv_at hl 1 rfl) ?_
  refine lv_iconst (v := 1) hx hb dR_measure_2 (by decide) ?_
  refine lv_sipush (v := 10000) hx hb dR_measure_3 (by decide) ?_
  refine callRS (As := [.int (nI cv), .int 1, .int 10000]) (rest := [.ref (w 0)]) ⟨hx, hb, hml, hown, hts⟩ tlB (c_R_in l (nI cv) 1 10000) kw502 kw503 kw29 kw504 ⟨rfl, rfl⟩ (n := 3) (by decide +kernel) ⟨Nat.le_of_ble_eq_true rfl, Nat.le_of_ble_eq_true rfl⟩ (nwP_pre) rfl hl.1 rfl (Nat.le_of_ble_eq_true rfl) ⟨Nat.le_of_ble_eq_true rfl, Nat.le_of_ble_eq_true rfl⟩ dR_measure_6 (fun r2 hr2 => ?_)
  refine lv_if_eq (tgt := 27) hx hb dR_measure_9 (by decide) (fun k1 => ?_) (fun k1 => ?_)
  · exact absurd h1 (mcZ_f hr2 k1)
  ·
    refine lv_iload_n hx hb dR_measure_12 rfl (lv_at hl 2 rfl) ?_
    refine lv_iconst (v := 0) hx hb dR_measure_13 (by decide) ?_
    refine lv_sipush (v := 10000) hx hb dR_measure_14 (by decide) ?_
    refine callRS (As := [.int (nI gv), .int 0, .int 10000]) (rest := [.ref (w 0)]) ⟨hx, hb, hml, hown, hts⟩ tlB (c_R_in l (nI gv) 0 10000) kw502 kw503 kw29 kw504 ⟨rfl, rfl⟩ (n := 3) (by decide +kernel) ⟨Nat.le_of_ble_eq_true rfl, Nat.le_of_ble_eq_true rfl⟩ (nwP_pre) rfl hl.1 rfl (Nat.le_of_ble_eq_true rfl) ⟨Nat.le_of_ble_eq_true rfl, Nat.le_of_ble_eq_true rfl⟩ dR_measure_17 (fun r4 hr4 => ?_)
    refine lv_if_eq (tgt := 27) hx hb dR_measure_20 (by decide) (fun k3 => ?_) (fun k3 => ?_)
    · exact absurd h2 (mcZ_f hr4 k3)
    ·
      refine lv_iconst (v := 1) hx hb dR_measure_23 (by decide) ?_
      refine lv_goto (tgt := 28) hx hb dR_measure_24 (by decide) ?_
      refine callWVi (As := [.int 1]) (rest := []) ⟨hx, hb, hml, hown, hts⟩ tlB (c_R_good1 l dC dI w cI cZ th n C G X D B bu LG LC ch s.heap.size) kw505 kw506 kw14 kw29 kw507 ⟨rfl, rfl⟩ (n := 1) (by decide +kernel) ⟨Nat.le_of_ble_eq_true rfl, Nat.le_of_ble_eq_true rfl⟩ hP hK hD hS (freeA hD hS hA) (ci := 4) (q0 := 0) rfl rfl rfl hl.1 rfl (Nat.le_of_ble_eq_true rfl) ⟨Nat.le_of_ble_eq_true rfl, Nat.le_of_ble_eq_true rfl⟩ dR_measure_28 (fun rg H1 locs1 hrg hP1 hD1 hk1 hS1 => ?_)
      have hD := hD1.weaken (fun _ z _ h => (freeA hD hS hA) z.1 h)
      have hP := hP1
      have hS := hS1
      have hrg : rg = 1 := hrg
      subst hrg
      refine lv_if_ne (tgt := 36) hx hb dR_measure_31 (by decide) (fun cg => ?_) (fun cg => ?_)
      ·
        refine lv_aload_n hx hb dR_measure_36 rfl (lv_at hl 0 rfl) ?_
        refine va_get (D := (dC, dI)) (ci := 4) (C := RR) (T := FR) (N := 11) hx hb hts (fun w h => List.mem_cons_of_mem _ (inR w h)) hown hK hP 0 rfl rfl 1 (by decide) (hts _ (List.mem_cons_of_mem _ kw460)) (fun _ h9 => h9) rfl dR_measure_37 ?_
        refine lv_bipush (v := 12) hx hb dR_measure_40 (by decide) ?_
        refine lv_icmp_ne (tgt := 52) hx hb dR_measure_42 (by decide) (fun cf => ?_) (fun cf => ?_)
        ·
          refine lv_aload_n hx hb dR_measure_52 rfl (lv_at hl 0 rfl) ?_
          refine va_get (D := (dC, dI)) (ci := 4) (C := RR) (T := FR) (N := 11) hx hb hts (fun w h => List.mem_cons_of_mem _ (inR w h)) hown hK hP 0 rfl rfl 2 (by decide) (hts _ (List.mem_cons_of_mem _ kw461)) (fun _ h9 => h9) rfl dR_measure_53 ?_
          refine lv_aload_n hx hb dR_measure_56 rfl (lv_at hl 0 rfl) ?_
          refine va_get (D := (dC, dI)) (ci := 4) (C := RR) (T := FR) (N := 11) hx hb hts (fun w h => List.mem_cons_of_mem _ (inR w h)) hown hK hP 0 rfl rfl 1 (by decide) (hts _ (List.mem_cons_of_mem _ kw460)) (fun _ h9 => h9) rfl dR_measure_57 ?_
          refine lv_iload_n hx hb dR_measure_60 rfl (lv_at hl 1 rfl) ?_
          refine iastN hx hb hK hP hD hS 1 0 rfl rfl (k := n) hf (by decide) (x := nI cv) (fun j => nI (va_up C n cv j)) (fun j => by simp only [va_up]; split <;> rfl) (ws' := mcWR w cI cZ 0 n (va_up C n cv) G X D B bu LG LC ch) (rfl) dR_measure_61 (fun H locs hP hD hS => ?_)
          refine lv_aload_n hx hb dR_measure_62 rfl (lv_at hl 0 rfl) ?_
          refine va_get (D := (dC, dI)) (ci := 4) (C := RR) (T := FR) (N := 11) hx hb hts (fun w h => List.mem_cons_of_mem _ (inR w h)) hown hK hP 0 rfl rfl 3 (by decide) (hts _ (List.mem_cons_of_mem _ kw462)) (fun _ h9 => h9) rfl dR_measure_63 ?_
          refine lv_aload_n hx hb dR_measure_66 rfl (lv_at hl 0 rfl) ?_
          refine va_get (D := (dC, dI)) (ci := 4) (C := RR) (T := FR) (N := 11) hx hb hts (fun w h => List.mem_cons_of_mem _ (inR w h)) hown hK hP 0 rfl rfl 1 (by decide) (hts _ (List.mem_cons_of_mem _ kw460)) (fun _ h9 => h9) rfl dR_measure_67 ?_
          refine lv_iload_n hx hb dR_measure_70 rfl (lv_at hl 2 rfl) ?_
          refine iastN hx hb hK hP hD hS 2 0 rfl rfl (k := n) hf (by decide) (x := nI gv) (fun j => nI (va_up G n gv j)) (fun j => by simp only [va_up]; split <;> rfl) (ws' := mcWR w cI cZ 0 n (va_up C n cv) (va_up G n gv) X D B bu LG LC ch) (rfl) dR_measure_71 (fun H locs hP hD hS => ?_)
          refine lv_aload_n hx hb dR_measure_72 rfl (lv_at hl 0 rfl) ?_
          refine lv_dup hx hb dR_measure_73 rfl ?_
          refine va_get (D := (dC, dI)) (ci := 4) (C := RR) (T := FR) (N := 11) hx hb hts (fun w h => List.mem_cons_of_mem _ (inR w h)) hown hK hP 0 rfl rfl 1 (by decide) (hts _ (List.mem_cons_of_mem _ kw460)) (fun _ h9 => h9) rfl dR_measure_74 ?_
          refine lv_iconst (v := 1) hx hb dR_measure_77 (by decide) ?_
          refine lv_iadd hx hb dR_measure_78 ?_
          refine lv_topi (fun y5 ey5 => ?_)
          have hy5 : y5 = nI (n + 1) := by rw [ey5]; exact nI_1 n
          subst hy5
          refine va_put (D := (dC, dI)) (ci := 4) (ty := .int) (C := RR) (T := FR) (N := 11) hx hb hts (fun w h => List.mem_cons_of_mem _ (inR w h)) tR tR_ok nR hown hK hP hD hS 0 rfl rfl 1 (by decide) (hts _ (List.mem_cons_of_mem _ kw460)) (fun _ h9 => h9) rfl (by decide +kernel) rfl rfl (Nat.le_of_ble_eq_true rfl) dR_measure_79 (fun H locs hP hD hS => ?_)
          have hP : va_P (dC, dI) mcCl (mcWR w cI cZ 0 (n + 1) (va_up C n cv) (va_up G n gv) X D B bu LG LC ch) H := hP
          have hD : va_D A (mcWR w cI cZ 0 (n + 1) (va_up C n cv) (va_up G n gv) X D B bu LG LC ch) := hD
          refine lv_aload_n hx hb dR_measure_82 rfl (lv_at hl 0 rfl) ?_
          refine va_get (D := (dC, dI)) (ci := 4) (C := RR) (T := FR) (N := 11) hx hb hts (fun w h => List.mem_cons_of_mem _ (inR w h)) hown hK hP 0 rfl rfl 1 (by decide) (hts _ (List.mem_cons_of_mem _ kw460)) (fun _ h9 => h9) rfl dR_measure_83 ?_
          refine lv_iconst (v := 1) hx hb dR_measure_86 (by decide) ?_
          refine lv_isub hx hb dR_measure_87 ?_
          refine lv_topi (fun y6 ey6 => ?_)
          have hy6 : y6 = nI n := by rw [ey6]; exact nI_pred n
          subst hy6
          exact W.iret (v := (nI n)) hx hb hr (fun t ht hW => ⟨⟨(nI n), (), rfl, rfl, by rw [ht]; exact hP, va_K.moved hW.alike hK, hD⟩, hS.F ht⟩) hS.2.2 dR_measure_88
        · exact absurd (show n = 12 from (nI_eq (by omega) (by omega)).mp cf) (by omega)
      · exact absurd cg (by decide)
set_option maxHeartbeats 4000000 in
set_option maxRecDepth 100000 in
theorem c_R_measure_full (l : Launch) (dC : Nat → ClassId) (dI : Nat → Nat → Nat) (w : Nat → Nat) (cI cZ : ClassId) (th n : Nat) (C G X D : Nat → Nat) (B : Nat → Nat → Int) (bu : Nat → Nat) (LG : Nat → Int) (LC : Nat → Nat) (ch : Nat → Int) (sz : Nat) (cv gv : Nat) (hn : n ≤ 12) (h1 : 1 ≤ nI cv ∧ nI cv ≤ 10000) (h2 : 0 ≤ nI gv ∧ nI gv ≤ 10000) (hf : n = 12) : Met l yR_measure wdR_measure ({ frames := 1, cells := 0, slots := 0, locals := 22 }) (wrP (dC, dI) mcCl (mcWR w cI cZ th n C G X D B bu LG LC ch) (mcTR cI cZ) sz [.ref (w 0), .int (nI cv), .int (nI gv)]) (va_Qi (fun z9 (_ : Unit) => z9 = 0) (fun _ t => va_P (dC, dI) mcCl (mcWR w cI cZ 2 n C G X D B bu LG LC ch) t.heap ∧ va_K (dC, dI) mcCl (mcTR cI cZ) t ∧ va_D (va_A (mcWR w cI cZ th n C G X D B bu LG LC ch) sz) (mcWR w cI cZ 2 n C G X D B bu LG LC ch)) (va_A (mcWR w cI cZ th n C G X D B bu LG LC ch) sz)) 0 0 (va_A (mcWR w cI cZ th n C G X D B bu LG LC ch) sz) := by
  refine Met.ofW (cc := bR_measure) (maxL := 3) (ret := (some FieldType.int)) (by decide) rfl ?_
  intro p e s m args below meth c s₁ BB hml hv
  obtain ⟨rfl, hsz, hP, hK, hD0⟩ := hv
  have hx := BB.exec
  have hb := BB.bytes
  have hr := BB.returns
  have hts := atoms_spec (ws := wdR_measure) BB.pre
  have hown : s.vm.findClass RR = some m.cls := findClass_of_methodNamed BB.named
  have hlocks := BB.notSynchronized
  subst hsz
  have hD := hD0.self (sz := s.heap.size)
  generalize hAe : va_A (mcWR w cI cZ th n C G X D B bu LG LC ch) s.heap.size = A at hD ⊢
  have hA : ∀ q : Nat, s.heap.size ≤ q → A q := fun q h => by rw [← hAe]; exact Or.inr h
  have hS : va_S A s.heap s.heap [] := va_S.rf
  have hl := lv_entry ([.ref (w 0), .int (nI cv), .int (nI gv)]) (n := 3) (Nat.le_of_ble_eq_true rfl)
  rw [lg_entry_eq]
  generalize (lg_sl ([.ref (w 0), .int (nI cv), .int (nI gv)]) ++ List.replicate (3 - (lg_sl ([.ref (w 0), .int (nI cv), .int (nI gv)])).length) Slot.unset).toArray = ls at hl ⊢
  have hl : lv_has ls 3 [(0, .ref (w 0)), (1, .int (nI cv)), (2, .int (nI gv))] := hl
  refine lv_aload_n hx hb dR_measure_0 rfl (lv_at hl 0 rfl) ?_
  refine lv_iload_n hx hb dR_measure_1 rfl (lv_at hl 1 rfl) ?_
  refine lv_iconst (v := 1) hx hb dR_measure_2 (by decide) ?_
  refine lv_sipush (v := 10000) hx hb dR_measure_3 (by decide) ?_
  refine callRS (As := [.int (nI cv), .int 1, .int 10000]) (rest := [.ref (w 0)]) ⟨hx, hb, hml, hown, hts⟩ tlB (c_R_in l (nI cv) 1 10000) kw502 kw503 kw29 kw504 ⟨rfl, rfl⟩ (n := 3) (by decide +kernel) ⟨Nat.le_of_ble_eq_true rfl, Nat.le_of_ble_eq_true rfl⟩ (nwP_pre) rfl hl.1 rfl (Nat.le_of_ble_eq_true rfl) ⟨Nat.le_of_ble_eq_true rfl, Nat.le_of_ble_eq_true rfl⟩ dR_measure_6 (fun r2 hr2 => ?_)
  refine lv_if_eq (tgt := 27) hx hb dR_measure_9 (by decide) (fun k1 => ?_) (fun k1 => ?_)
  · exact absurd h1 (mcZ_f hr2 k1)
  ·
    refine lv_iload_n hx hb dR_measure_12 rfl (lv_at hl 2 rfl) ?_
    refine lv_iconst (v := 0) hx hb dR_measure_13 (by decide) ?_
    refine lv_sipush (v := 10000) hx hb dR_measure_14 (by decide) ?_
    refine callRS (As := [.int (nI gv), .int 0, .int 10000]) (rest := [.ref (w 0)]) ⟨hx, hb, hml, hown, hts⟩ tlB (c_R_in l (nI gv) 0 10000) kw502 kw503 kw29 kw504 ⟨rfl, rfl⟩ (n := 3) (by decide +kernel) ⟨Nat.le_of_ble_eq_true rfl, Nat.le_of_ble_eq_true rfl⟩ (nwP_pre) rfl hl.1 rfl (Nat.le_of_ble_eq_true rfl) ⟨Nat.le_of_ble_eq_true rfl, Nat.le_of_ble_eq_true rfl⟩ dR_measure_17 (fun r4 hr4 => ?_)
    refine lv_if_eq (tgt := 27) hx hb dR_measure_20 (by decide) (fun k3 => ?_) (fun k3 => ?_)
    · exact absurd h2 (mcZ_f hr4 k3)
    ·
      refine lv_iconst (v := 1) hx hb dR_measure_23 (by decide) ?_
      refine lv_goto (tgt := 28) hx hb dR_measure_24 (by decide) ?_
      refine callWVi (As := [.int 1]) (rest := []) ⟨hx, hb, hml, hown, hts⟩ tlB (c_R_good1 l dC dI w cI cZ th n C G X D B bu LG LC ch s.heap.size) kw505 kw506 kw14 kw29 kw507 ⟨rfl, rfl⟩ (n := 1) (by decide +kernel) ⟨Nat.le_of_ble_eq_true rfl, Nat.le_of_ble_eq_true rfl⟩ hP hK hD hS (freeA hD hS hA) (ci := 4) (q0 := 0) rfl rfl rfl hl.1 rfl (Nat.le_of_ble_eq_true rfl) ⟨Nat.le_of_ble_eq_true rfl, Nat.le_of_ble_eq_true rfl⟩ dR_measure_28 (fun rg H1 locs1 hrg hP1 hD1 hk1 hS1 => ?_)
      have hD := hD1.weaken (fun _ z _ h => (freeA hD hS hA) z.1 h)
      have hP := hP1
      have hS := hS1
      have hrg : rg = 1 := hrg
      subst hrg
      refine lv_if_ne (tgt := 36) hx hb dR_measure_31 (by decide) (fun cg => ?_) (fun cg => ?_)
      ·
        refine lv_aload_n hx hb dR_measure_36 rfl (lv_at hl 0 rfl) ?_
        refine va_get (D := (dC, dI)) (ci := 4) (C := RR) (T := FR) (N := 11) hx hb hts (fun w h => List.mem_cons_of_mem _ (inR w h)) hown hK hP 0 rfl rfl 1 (by decide) (hts _ (List.mem_cons_of_mem _ kw460)) (fun _ h9 => h9) rfl dR_measure_37 ?_
        refine lv_bipush (v := 12) hx hb dR_measure_40 (by decide) ?_
        refine lv_icmp_ne (tgt := 52) hx hb dR_measure_42 (by decide) (fun cf => ?_) (fun cf => ?_)
        · exact absurd (by rw [hf]; rfl) cf
        ·
          refine lv_aload_n hx hb dR_measure_45 rfl (lv_at hl 0 rfl) ?_
          refine lv_iconst (v := 2) hx hb dR_measure_46 (by decide) ?_
          refine lv_topi (fun y5 ey5 => ?_)
          have hy5 : y5 = nI 2 := by rw [ey5]; rfl
          subst hy5
          refine va_put (D := (dC, dI)) (ci := 4) (ty := .int) (C := RR) (T := FR) (N := 11) hx hb hts (fun w h => List.mem_cons_of_mem _ (inR w h)) tR tR_ok nR hown hK hP hD hS 0 rfl rfl 0 (by decide) (hts _ (List.mem_cons_of_mem _ kw459)) (fun _ h9 => h9) rfl (by decide +kernel) rfl rfl (Nat.le_of_ble_eq_true rfl) dR_measure_47 (fun H locs hP hD hS => ?_)
          have hP : va_P (dC, dI) mcCl (mcWR w cI cZ 2 n C G X D B bu LG LC ch) H := hP
          have hD : va_D A (mcWR w cI cZ 2 n C G X D B bu LG LC ch) := hD
          refine lv_iconst (v := 0) hx hb dR_measure_50 (by decide) ?_
          exact W.iret (v := 0) hx hb hr (fun t ht hW => ⟨⟨0, (), rfl, rfl, by rw [ht]; exact hP, va_K.moved hW.alike hK, hD⟩, hS.F ht⟩) hS.2.2 dR_measure_51
      · exact absurd cg (by decide)
set_option maxHeartbeats 4000000 in
set_option maxRecDepth 100000 in
theorem c_R_change_ok (l : Launch) (dC : Nat → ClassId) (dI : Nat → Nat → Nat) (w : Nat → Nat) (cI cZ : ClassId) (th n : Nat) (C G X D : Nat → Nat) (B : Nat → Nat → Int) (bu : Nat → Nat) (LG : Nat → Int) (LC : Nat → Nat) (ch : Nat → Int) (sz : Nat) (mm cv gv : Nat) (hn : n ≤ 12) (hm : mm < n) (h1 : 1 ≤ nI cv ∧ nI cv ≤ 10000) (h2 : 0 ≤ nI gv ∧ nI gv ≤ 10000) : Met l yR_change wdR_change ({ frames := 2, cells := 0, slots := 0, locals := 43 }) (wrP (dC, dI) mcCl (mcWR w cI cZ th n C G X D B bu LG LC ch) (mcTR cI cZ) sz [.ref (w 0), .int (nI mm), .int (nI cv), .int (nI gv)]) (va_Qv (fun x : Unit => True) (fun x t => va_P (dC, dI) mcCl (mcWR w cI cZ 0 n (va_up C mm cv) (va_up G mm gv) X D B bu LG LC ch) t.heap ∧ va_K (dC, dI) mcCl (mcTR cI cZ) t ∧ va_D (va_A (mcWR w cI cZ th n C G X D B bu LG LC ch) sz) (mcWR w cI cZ 0 n (va_up C mm cv) (va_up G mm gv) X D B bu LG LC ch)) (va_A (mcWR w cI cZ th n C G X D B bu LG LC ch) sz)) 0 0 (va_A (mcWR w cI cZ th n C G X D B bu LG LC ch) sz) := by
  refine Met.ofW (cc := bR_change) (maxL := 4) (ret := none) (by decide) rfl ?_
  intro p e s m args below meth c s₁ BB hml hv
  obtain ⟨rfl, hsz, hP, hK, hD0⟩ := hv
  have hx := BB.exec
  have hb := BB.bytes
  have hr := BB.returns
  have hts := atoms_spec (ws := wdR_change) BB.pre
  have hown : s.vm.findClass RR = some m.cls := findClass_of_methodNamed BB.named
  have hlocks := BB.notSynchronized
  subst hsz
  have hD := hD0.self (sz := s.heap.size)
  generalize hAe : va_A (mcWR w cI cZ th n C G X D B bu LG LC ch) s.heap.size = A at hD ⊢
  have hA : ∀ q : Nat, s.heap.size ≤ q → A q := fun q h => by rw [← hAe]; exact Or.inr h
  have hS : va_S A s.heap s.heap [] := va_S.rf
  have hl := lv_entry ([.ref (w 0), .int (nI mm), .int (nI cv), .int (nI gv)]) (n := 4) (Nat.le_of_ble_eq_true rfl)
  rw [lg_entry_eq]
  generalize (lg_sl ([.ref (w 0), .int (nI mm), .int (nI cv), .int (nI gv)]) ++ List.replicate (4 - (lg_sl ([.ref (w 0), .int (nI mm), .int (nI cv), .int (nI gv)])).length) Slot.unset).toArray = ls at hl ⊢
  have hl : lv_has ls 4 [(0, .ref (w 0)), (1, .int (nI mm)), (2, .int (nI cv)), (3, .int (nI gv))] := hl
  refine lv_aload_n hx hb dR_change_0 rfl (lv_at hl 0 rfl) ?_
  refine lv_aload_n hx hb dR_change_1 rfl (lv_at hl 0 rfl) ?_
  refine lv_iload_n hx hb dR_change_2 rfl (lv_at hl 1 rfl) ?_
  refine callRV (As := [.int (nI mm)]) (rest := [.ref (w 0)]) ⟨hx, hb, hml, hown, hts⟩ tlB (c_R_is l dC dI w cI cZ th n C G X D B bu LG LC ch (nI mm) hn) kw512 kw513 kw15 kw29 kw514 ⟨rfl, rfl⟩ (n := 1) (by decide +kernel) ⟨Nat.le_of_ble_eq_true rfl, Nat.le_of_ble_eq_true rfl⟩ (roP_preV hP hK (ci := 4) (q0 := 0) rfl rfl) rfl hl.1 rfl (Nat.le_of_ble_eq_true rfl) ⟨Nat.le_of_ble_eq_true rfl, Nat.le_of_ble_eq_true rfl⟩ dR_change_3 (fun r2 hr2 => ?_)
  refine lv_if_eq (tgt := 35) hx hb dR_change_6 (by decide) (fun k1 => ?_) (fun k1 => ?_)
  · exact absurd (⟨mm, hm, rfl⟩ : ∃ k, k < n ∧ nI mm = nI k) (mcZ_f hr2 k1)
  ·
    refine lv_iload_n hx hb dR_change_9 rfl (lv_at hl 2 rfl) ?_
    refine lv_iconst (v := 1) hx hb dR_change_10 (by decide) ?_
    refine lv_sipush (v := 10000) hx hb dR_change_11 (by decide) ?_
    refine callRS (As := [.int (nI cv), .int 1, .int 10000]) (rest := [.ref (w 0)]) ⟨hx, hb, hml, hown, hts⟩ tlB (c_R_in l (nI cv) 1 10000) kw502 kw503 kw29 kw504 ⟨rfl, rfl⟩ (n := 3) (by decide +kernel) ⟨Nat.le_of_ble_eq_true rfl, Nat.le_of_ble_eq_true rfl⟩ (nwP_pre) rfl hl.1 rfl (Nat.le_of_ble_eq_true rfl) ⟨Nat.le_of_ble_eq_true rfl, Nat.le_of_ble_eq_true rfl⟩ dR_change_14 (fun r4 hr4 => ?_)
    refine lv_if_eq (tgt := 35) hx hb dR_change_17 (by decide) (fun k3 => ?_) (fun k3 => ?_)
    · exact absurd h1 (mcZ_f hr4 k3)
    ·
      refine lv_iload_n hx hb dR_change_20 rfl (lv_at hl 3 rfl) ?_
      refine lv_iconst (v := 0) hx hb dR_change_21 (by decide) ?_
      refine lv_sipush (v := 10000) hx hb dR_change_22 (by decide) ?_
      refine callRS (As := [.int (nI gv), .int 0, .int 10000]) (rest := [.ref (w 0)]) ⟨hx, hb, hml, hown, hts⟩ tlB (c_R_in l (nI gv) 0 10000) kw502 kw503 kw29 kw504 ⟨rfl, rfl⟩ (n := 3) (by decide +kernel) ⟨Nat.le_of_ble_eq_true rfl, Nat.le_of_ble_eq_true rfl⟩ (nwP_pre) rfl hl.1 rfl (Nat.le_of_ble_eq_true rfl) ⟨Nat.le_of_ble_eq_true rfl, Nat.le_of_ble_eq_true rfl⟩ dR_change_25 (fun r6 hr6 => ?_)
      refine lv_if_eq (tgt := 35) hx hb dR_change_28 (by decide) (fun k5 => ?_) (fun k5 => ?_)
      · exact absurd h2 (mcZ_f hr6 k5)
      ·
        refine lv_iconst (v := 1) hx hb dR_change_31 (by decide) ?_
        refine lv_goto (tgt := 36) hx hb dR_change_32 (by decide) ?_
        refine callWVi (As := [.int 1]) (rest := []) ⟨hx, hb, hml, hown, hts⟩ tlB (c_R_good1 l dC dI w cI cZ th n C G X D B bu LG LC ch s.heap.size) kw505 kw506 kw14 kw29 kw507 ⟨rfl, rfl⟩ (n := 1) (by decide +kernel) ⟨Nat.le_of_ble_eq_true rfl, Nat.le_of_ble_eq_true rfl⟩ hP hK hD hS (freeA hD hS hA) (ci := 4) (q0 := 0) rfl rfl rfl hl.1 rfl (Nat.le_of_ble_eq_true rfl) ⟨Nat.le_of_ble_eq_true rfl, Nat.le_of_ble_eq_true rfl⟩ dR_change_36 (fun rg H1 locs1 hrg hP1 hD1 hk1 hS1 => ?_)
        have hD := hD1.weaken (fun _ z _ h => (freeA hD hS hA) z.1 h)
        have hP := hP1
        have hS := hS1
        have hrg : rg = 1 := hrg
        subst hrg
        refine lv_if_eq (tgt := 56) hx hb dR_change_39 (by decide) (fun cg => ?_) (fun cg => ?_)
        · exact absurd cg (by decide)
        ·
          refine lv_aload_n hx hb dR_change_42 rfl (lv_at hl 0 rfl) ?_
          refine va_get (D := (dC, dI)) (ci := 4) (C := RR) (T := FR) (N := 11) hx hb hts (fun w h => List.mem_cons_of_mem _ (inR w h)) hown hK hP 0 rfl rfl 2 (by decide) (hts _ (List.mem_cons_of_mem _ kw461)) (fun _ h9 => h9) rfl dR_change_43 ?_
          refine lv_iload_n hx hb dR_change_46 rfl (lv_at hl 1 rfl) ?_
          refine lv_iload_n hx hb dR_change_47 rfl (lv_at hl 2 rfl) ?_
          refine iastN hx hb hK hP hD hS 1 0 rfl rfl (k := mm) (by omega) (by decide) (x := nI cv) (fun j => nI (va_up C mm cv j)) (fun j => by simp only [va_up]; split <;> rfl) (ws' := mcWR w cI cZ 0 n (va_up C mm cv) G X D B bu LG LC ch) (rfl) dR_change_48 (fun H locs hP hD hS => ?_)
          refine lv_aload_n hx hb dR_change_49 rfl (lv_at hl 0 rfl) ?_
          refine va_get (D := (dC, dI)) (ci := 4) (C := RR) (T := FR) (N := 11) hx hb hts (fun w h => List.mem_cons_of_mem _ (inR w h)) hown hK hP 0 rfl rfl 3 (by decide) (hts _ (List.mem_cons_of_mem _ kw462)) (fun _ h9 => h9) rfl dR_change_50 ?_
          refine lv_iload_n hx hb dR_change_53 rfl (lv_at hl 1 rfl) ?_
          refine lv_iload_n hx hb dR_change_54 rfl (lv_at hl 3 rfl) ?_
          refine iastN hx hb hK hP hD hS 2 0 rfl rfl (k := mm) (by omega) (by decide) (x := nI gv) (fun j => nI (va_up G mm gv j)) (fun j => by simp only [va_up]; split <;> rfl) (ws' := mcWR w cI cZ 0 n (va_up C mm cv) (va_up G mm gv) X D B bu LG LC ch) (rfl) dR_change_55 (fun H locs hP hD hS => ?_)
          exact W.vret hx hb hr (fun t ht hW => ⟨⟨(), rfl, trivial, by rw [ht]; exact hP, va_K.moved hW.alike hK, hD⟩, hS.F ht⟩) hS.2.2 dR_change_56
theorem mc_zup {X : Nat → Nat} {mm oo : Nat} {o : Int32} (ho : oo < 12) (h01 : o = 0 ∨ o = 1) (i : Nat) : bZ ((va_up X mm (mcBit (X mm) oo o) (i / 12)).testBit (i % 12)) = if i = 12 * mm + oo then o else bZ ((X (i / 12)).testBit (i % 12)) := by
  by_cases e : i = 12 * mm + oo
  · rw [if_pos e, e, (mc_ix ho).1, (mc_ix ho).2]
    simp only [va_up, if_true]
    rw [mcBit_at (by omega), if_pos rfl]
    rcases h01 with z | z <;> rw [z] <;> rfl
  · rw [if_neg e]
    simp only [va_up]
    by_cases e2 : i / 12 = mm
    · rw [if_pos e2, mcBit_at (by omega), if_neg (by omega), e2]
    · rw [if_neg e2]
theorem mc_bup {B : Nat → Nat → Int} {mm oo : Nat} {z : Int} (ho : oo < 12) (i : Nat) : iI (mcB2 B mm oo z (i / 12) (i % 12)) = if i = 12 * mm + oo then iI z else iI (B (i / 12) (i % 12)) := by
  by_cases e : i = 12 * mm + oo
  · rw [if_pos e, e, (mc_ix ho).1, (mc_ix ho).2]
    simp [mcB2]
  · rw [if_neg e]
    simp only [mcB2]
    rw [if_neg (by omega)]
set_option maxHeartbeats 4000000 in
set_option maxRecDepth 100000 in
theorem c_R_exclude_ok (l : Launch) (dC : Nat → ClassId) (dI : Nat → Nat → Nat) (w : Nat → Nat) (cI cZ : ClassId) (th n : Nat) (C G X D : Nat → Nat) (B : Nat → Nat → Int) (bu : Nat → Nat) (LG : Nat → Int) (LC : Nat → Nat) (ch : Nat → Int) (sz : Nat) (mm oo : Nat) (o : Int32) (hn : n ≤ 12) (hm : mm < n) (ho : oo < n) (hne : ¬ nI mm = nI oo) (h01 : o = 0 ∨ o = 1) : Met l yR_exclude wdR_exclude ({ frames := 2, cells := 0, slots := 0, locals := 43 }) (wrP (dC, dI) mcCl (mcWR w cI cZ th n C G X D B bu LG LC ch) (mcTR cI cZ) sz [.ref (w 0), .int (nI mm), .int (nI oo), .int o]) (va_Qi (fun z9 (_ : Unit) => z9 = bZ ((X mm).testBit oo)) (fun _ t => va_P (dC, dI) mcCl (mcWR w cI cZ 0 n C G (va_up (va_up X mm (mcBit (X mm) oo o)) oo (mcBit ((va_up X mm (mcBit (X mm) oo o)) oo) mm o)) D B bu LG LC ch) t.heap ∧ va_K (dC, dI) mcCl (mcTR cI cZ) t ∧ va_D (va_A (mcWR w cI cZ th n C G X D B bu LG LC ch) sz) (mcWR w cI cZ 0 n C G (va_up (va_up X mm (mcBit (X mm) oo o)) oo (mcBit ((va_up X mm (mcBit (X mm) oo o)) oo) mm o)) D B bu LG LC ch)) (va_A (mcWR w cI cZ th n C G X D B bu LG LC ch) sz)) 0 0 (va_A (mcWR w cI cZ th n C G X D B bu LG LC ch) sz) := by
  refine Met.ofW (cc := bR_exclude) (maxL := 5) (ret := (some FieldType.boolean)) (by decide) rfl ?_
  intro p e s m args below meth c s₁ BB hml hv
  obtain ⟨rfl, hsz, hP, hK, hD0⟩ := hv
  have hx := BB.exec
  have hb := BB.bytes
  have hr := BB.returns
  have hts := atoms_spec (ws := wdR_exclude) BB.pre
  have hown : s.vm.findClass RR = some m.cls := findClass_of_methodNamed BB.named
  have hlocks := BB.notSynchronized
  subst hsz
  have hD := hD0.self (sz := s.heap.size)
  generalize hAe : va_A (mcWR w cI cZ th n C G X D B bu LG LC ch) s.heap.size = A at hD ⊢
  have hA : ∀ q : Nat, s.heap.size ≤ q → A q := fun q h => by rw [← hAe]; exact Or.inr h
  have hS : va_S A s.heap s.heap [] := va_S.rf
  have hl := lv_entry ([.ref (w 0), .int (nI mm), .int (nI oo), .int o]) (n := 5) (Nat.le_of_ble_eq_true rfl)
  rw [lg_entry_eq]
  generalize (lg_sl ([.ref (w 0), .int (nI mm), .int (nI oo), .int o]) ++ List.replicate (5 - (lg_sl ([.ref (w 0), .int (nI mm), .int (nI oo), .int o])).length) Slot.unset).toArray = ls at hl ⊢
  have hl : lv_has ls 5 [(0, .ref (w 0)), (1, .int (nI mm)), (2, .int (nI oo)), (3, .int o)] := hl
  refine lv_aload_n hx hb dR_exclude_0 rfl (lv_at hl 0 rfl) ?_
  refine lv_aload_n hx hb dR_exclude_1 rfl (lv_at hl 0 rfl) ?_
  refine lv_iload_n hx hb dR_exclude_2 rfl (lv_at hl 1 rfl) ?_
  refine callRV (As := [.int (nI mm)]) (rest := [.ref (w 0)]) ⟨hx, hb, hml, hown, hts⟩ tlB (c_R_is l dC dI w cI cZ th n C G X D B bu LG LC ch (nI mm) hn) kw512 kw513 kw15 kw29 kw514 ⟨rfl, rfl⟩ (n := 1) (by decide +kernel) ⟨Nat.le_of_ble_eq_true rfl, Nat.le_of_ble_eq_true rfl⟩ (roP_preV hP hK (ci := 4) (q0 := 0) rfl rfl) rfl hl.1 rfl (Nat.le_of_ble_eq_true rfl) ⟨Nat.le_of_ble_eq_true rfl, Nat.le_of_ble_eq_true rfl⟩ dR_exclude_3 (fun r2 hr2 => ?_)
  refine lv_if_eq (tgt := 26) hx hb dR_exclude_6 (by decide) (fun k1 => ?_) (fun k1 => ?_)
  · exact absurd (⟨mm, hm, rfl⟩ : ∃ k, k < n ∧ nI mm = nI k) (mcZ_f hr2 k1)
  ·
    refine lv_aload_n hx hb dR_exclude_9 rfl (lv_at hl 0 rfl) ?_
    refine lv_iload_n hx hb dR_exclude_10 rfl (lv_at hl 2 rfl) ?_
    refine callRV (As := [.int (nI oo)]) (rest := [.ref (w 0)]) ⟨hx, hb, hml, hown, hts⟩ tlB (c_R_is l dC dI w cI cZ th n C G X D B bu LG LC ch (nI oo) hn) kw512 kw513 kw15 kw29 kw514 ⟨rfl, rfl⟩ (n := 1) (by decide +kernel) ⟨Nat.le_of_ble_eq_true rfl, Nat.le_of_ble_eq_true rfl⟩ (roP_preV hP hK (ci := 4) (q0 := 0) rfl rfl) rfl hl.1 rfl (Nat.le_of_ble_eq_true rfl) ⟨Nat.le_of_ble_eq_true rfl, Nat.le_of_ble_eq_true rfl⟩ dR_exclude_11 (fun r4 hr4 => ?_)
    refine lv_if_eq (tgt := 26) hx hb dR_exclude_14 (by decide) (fun k3 => ?_) (fun k3 => ?_)
    · exact absurd (⟨oo, ho, rfl⟩ : ∃ k, k < n ∧ nI oo = nI k) (mcZ_f hr4 k3)
    ·
      refine lv_iload_n hx hb dR_exclude_17 rfl (lv_at hl 1 rfl) ?_
      refine lv_iload_n hx hb dR_exclude_18 rfl (lv_at hl 2 rfl) ?_
      refine lv_icmp_eq (tgt := 26) hx hb dR_exclude_19 (by decide) (fun k5 => ?_) (fun k5 => ?_)
      · exact absurd k5 hne
      ·
        refine lv_iconst (v := 1) hx hb dR_exclude_22 (by decide) ?_
        refine lv_goto (tgt := 27) hx hb dR_exclude_23 (by decide) ?_
        refine callWVi (As := [.int 1]) (rest := []) ⟨hx, hb, hml, hown, hts⟩ tlB (c_R_good1 l dC dI w cI cZ th n C G X D B bu LG LC ch s.heap.size) kw505 kw506 kw14 kw29 kw507 ⟨rfl, rfl⟩ (n := 1) (by decide +kernel) ⟨Nat.le_of_ble_eq_true rfl, Nat.le_of_ble_eq_true rfl⟩ hP hK hD hS (freeA hD hS hA) (ci := 4) (q0 := 0) rfl rfl rfl hl.1 rfl (Nat.le_of_ble_eq_true rfl) ⟨Nat.le_of_ble_eq_true rfl, Nat.le_of_ble_eq_true rfl⟩ dR_exclude_27 (fun rg H1 locs1 hrg hP1 hD1 hk1 hS1 => ?_)
        have hD := hD1.weaken (fun _ z _ h => (freeA hD hS hA) z.1 h)
        have hP := hP1
        have hS := hS1
        have hrg : rg = 1 := hrg
        subst hrg
        refine lv_if_ne (tgt := 35) hx hb dR_exclude_30 (by decide) (fun cg => ?_) (fun cg => ?_)
        ·
          refine lv_aload_n hx hb dR_exclude_35 rfl (lv_at hl 0 rfl) ?_
          refine va_get (D := (dC, dI)) (ci := 4) (C := RR) (T := FR) (N := 11) hx hb hts (fun w h => List.mem_cons_of_mem _ (inR w h)) hown hK hP 0 rfl rfl 4 (by decide) (hts _ (List.mem_cons_of_mem _ kw463)) (fun _ h9 => h9) rfl dR_exclude_36 ?_
          refine lv_bipush (v := 12) hx hb dR_exclude_39 (by decide) ?_
          refine lv_iload_n hx hb dR_exclude_41 rfl (lv_at hl 1 rfl) ?_
          refine lv_imul hx hb dR_exclude_42 ?_
          refine lv_iload_n hx hb dR_exclude_43 rfl (lv_at hl 2 rfl) ?_
          refine lv_iadd hx hb dR_exclude_44 ?_
          refine lv_topi (fun y6 ey6 => ?_)
          have hy6 : y6 = nI (12 * mm + oo) := by rw [ey6, show (12 : Int32) = nI 12 from rfl, pk_mul, nI_add]
          subst hy6
          refine zaldN hx hb hK hP 3 1 rfl rfl (k := (12 * mm + oo)) (by omega) (by decide) (v := bZ ((X mm).testBit oo)) (by rw [(mc_ix (a := mm) (b := oo) (by omega)).1, (mc_ix (a := mm) (b := oo) (by omega)).2]) dR_exclude_45 ?_
          refine lv_topi (fun y7 ey7 => ?_)
          have hy7 : y7 = bZ ((X mm).testBit oo) := by exact ey7
          subst hy7
          refine lv_istore (lv' := [(4, .int (bZ ((X mm).testBit oo))), (0, .ref (w 0)), (1, .int (nI mm)), (2, .int (nI oo)), (3, .int o)]) hx hb dR_exclude_46 hl (by decide) rfl (fun ls hl => ?_)
          refine lv_aload_n hx hb dR_exclude_48 rfl (lv_at hl 1 rfl) ?_
          refine va_get (D := (dC, dI)) (ci := 4) (C := RR) (T := FR) (N := 11) hx hb hts (fun w h => List.mem_cons_of_mem _ (inR w h)) hown hK hP 0 rfl rfl 4 (by decide) (hts _ (List.mem_cons_of_mem _ kw463)) (fun _ h9 => h9) rfl dR_exclude_49 ?_
          refine lv_bipush (v := 12) hx hb dR_exclude_52 (by decide) ?_
          refine lv_iload_n hx hb dR_exclude_54 rfl (lv_at hl 2 rfl) ?_
          refine lv_imul hx hb dR_exclude_55 ?_
          refine lv_iload_n hx hb dR_exclude_56 rfl (lv_at hl 3 rfl) ?_
          refine lv_iadd hx hb dR_exclude_57 ?_
          refine lv_topi (fun y8 ey8 => ?_)
          have hy8 : y8 = nI (12 * mm + oo) := by rw [ey8, show (12 : Int32) = nI 12 from rfl, pk_mul, nI_add]
          subst hy8
          refine lv_iload_n hx hb dR_exclude_58 rfl (lv_at hl 4 rfl) ?_
          refine zastN hx hb hK hP hD hS 3 1 rfl rfl (k := (12 * mm + oo)) (by omega) (by decide) (x := o) h01 (fun i => bZ (((va_up X mm (mcBit (X mm) oo o)) (i / 12)).testBit (i % 12))) (fun i => mc_zup (by omega) h01 i) (ws' := mcWR w cI cZ 0 n C G (va_up X mm (mcBit (X mm) oo o)) D B bu LG LC ch) rfl dR_exclude_59 (fun H locs hP hD hS => ?_)
          refine lv_aload_n hx hb dR_exclude_60 rfl (lv_at hl 1 rfl) ?_
          refine va_get (D := (dC, dI)) (ci := 4) (C := RR) (T := FR) (N := 11) hx hb hts (fun w h => List.mem_cons_of_mem _ (inR w h)) hown hK hP 0 rfl rfl 4 (by decide) (hts _ (List.mem_cons_of_mem _ kw463)) (fun _ h9 => h9) rfl dR_exclude_61 ?_
          refine lv_bipush (v := 12) hx hb dR_exclude_64 (by decide) ?_
          refine lv_iload_n hx hb dR_exclude_66 rfl (lv_at hl 3 rfl) ?_
          refine lv_imul hx hb dR_exclude_67 ?_
          refine lv_iload_n hx hb dR_exclude_68 rfl (lv_at hl 2 rfl) ?_
          refine lv_iadd hx hb dR_exclude_69 ?_
          refine lv_topi (fun y9 ey9 => ?_)
          have hy9 : y9 = nI (12 * oo + mm) := by rw [ey9, show (12 : Int32) = nI 12 from rfl, pk_mul, nI_add]
          subst hy9
          refine lv_iload_n hx hb dR_exclude_70 rfl (lv_at hl 4 rfl) ?_
          refine zastN hx hb hK hP hD hS 3 1 rfl rfl (k := (12 * oo + mm)) (by omega) (by decide) (x := o) h01 (fun i => bZ (((va_up (va_up X mm (mcBit (X mm) oo o)) oo (mcBit ((va_up X mm (mcBit (X mm) oo o)) oo) mm o)) (i / 12)).testBit (i % 12))) (fun i => mc_zup (by omega) h01 i) (ws' := mcWR w cI cZ 0 n C G (va_up (va_up X mm (mcBit (X mm) oo o)) oo (mcBit ((va_up X mm (mcBit (X mm) oo o)) oo) mm o)) D B bu LG LC ch) rfl dR_exclude_71 (fun H locs hP hD hS => ?_)
          refine lv_iload hx hb dR_exclude_72 (lv_at hl 0 rfl) ?_
          exact W.zret (v := (bZ ((X mm).testBit oo))) hx hb hr (by cases (X mm).testBit oo <;> rfl) (fun t ht hW => ⟨⟨(bZ ((X mm).testBit oo)), (), rfl, rfl, by rw [ht]; exact hP, va_K.moved hW.alike hK, hD⟩, hS.F ht⟩) hS.2.2 dR_exclude_74
        · exact absurd cg (by decide)
set_option maxHeartbeats 4000000 in
set_option maxRecDepth 100000 in
theorem c_R_needs_ok (l : Launch) (dC : Nat → ClassId) (dI : Nat → Nat → Nat) (w : Nat → Nat) (cI cZ : ClassId) (th n : Nat) (C G X D : Nat → Nat) (B : Nat → Nat → Int) (bu : Nat → Nat) (LG : Nat → Int) (LC : Nat → Nat) (ch : Nat → Int) (sz : Nat) (mm oo : Nat) (o : Int32) (hn : n ≤ 12) (hm : mm < n) (ho : oo < n) (hne : ¬ nI mm = nI oo) (h01 : o = 0 ∨ o = 1) : Met l yR_needs wdR_needs ({ frames := 2, cells := 0, slots := 0, locals := 43 }) (wrP (dC, dI) mcCl (mcWR w cI cZ th n C G X D B bu LG LC ch) (mcTR cI cZ) sz [.ref (w 0), .int (nI mm), .int (nI oo), .int o]) (va_Qi (fun z9 (_ : Unit) => z9 = bZ ((D mm).testBit oo)) (fun _ t => va_P (dC, dI) mcCl (mcWR w cI cZ 0 n C G X (va_up D mm (mcBit (D mm) oo o)) B bu LG LC ch) t.heap ∧ va_K (dC, dI) mcCl (mcTR cI cZ) t ∧ va_D (va_A (mcWR w cI cZ th n C G X D B bu LG LC ch) sz) (mcWR w cI cZ 0 n C G X (va_up D mm (mcBit (D mm) oo o)) B bu LG LC ch)) (va_A (mcWR w cI cZ th n C G X D B bu LG LC ch) sz)) 0 0 (va_A (mcWR w cI cZ th n C G X D B bu LG LC ch) sz) := by
  refine Met.ofW (cc := bR_needs) (maxL := 5) (ret := (some FieldType.boolean)) (by decide) rfl ?_
  intro p e s m args below meth c s₁ BB hml hv
  obtain ⟨rfl, hsz, hP, hK, hD0⟩ := hv
  have hx := BB.exec
  have hb := BB.bytes
  have hr := BB.returns
  have hts := atoms_spec (ws := wdR_needs) BB.pre
  have hown : s.vm.findClass RR = some m.cls := findClass_of_methodNamed BB.named
  have hlocks := BB.notSynchronized
  subst hsz
  have hD := hD0.self (sz := s.heap.size)
  generalize hAe : va_A (mcWR w cI cZ th n C G X D B bu LG LC ch) s.heap.size = A at hD ⊢
  have hA : ∀ q : Nat, s.heap.size ≤ q → A q := fun q h => by rw [← hAe]; exact Or.inr h
  have hS : va_S A s.heap s.heap [] := va_S.rf
  have hl := lv_entry ([.ref (w 0), .int (nI mm), .int (nI oo), .int o]) (n := 5) (Nat.le_of_ble_eq_true rfl)
  rw [lg_entry_eq]
  generalize (lg_sl ([.ref (w 0), .int (nI mm), .int (nI oo), .int o]) ++ List.replicate (5 - (lg_sl ([.ref (w 0), .int (nI mm), .int (nI oo), .int o])).length) Slot.unset).toArray = ls at hl ⊢
  have hl : lv_has ls 5 [(0, .ref (w 0)), (1, .int (nI mm)), (2, .int (nI oo)), (3, .int o)] := hl
  refine lv_aload_n hx hb dR_needs_0 rfl (lv_at hl 0 rfl) ?_
  refine lv_aload_n hx hb dR_needs_1 rfl (lv_at hl 0 rfl) ?_
  refine lv_iload_n hx hb dR_needs_2 rfl (lv_at hl 1 rfl) ?_
  refine callRV (As := [.int (nI mm)]) (rest := [.ref (w 0)]) ⟨hx, hb, hml, hown, hts⟩ tlB (c_R_is l dC dI w cI cZ th n C G X D B bu LG LC ch (nI mm) hn) kw512 kw513 kw15 kw29 kw514 ⟨rfl, rfl⟩ (n := 1) (by decide +kernel) ⟨Nat.le_of_ble_eq_true rfl, Nat.le_of_ble_eq_true rfl⟩ (roP_preV hP hK (ci := 4) (q0 := 0) rfl rfl) rfl hl.1 rfl (Nat.le_of_ble_eq_true rfl) ⟨Nat.le_of_ble_eq_true rfl, Nat.le_of_ble_eq_true rfl⟩ dR_needs_3 (fun r2 hr2 => ?_)
  refine lv_if_eq (tgt := 26) hx hb dR_needs_6 (by decide) (fun k1 => ?_) (fun k1 => ?_)
  · exact absurd (⟨mm, hm, rfl⟩ : ∃ k, k < n ∧ nI mm = nI k) (mcZ_f hr2 k1)
  ·
    refine lv_aload_n hx hb dR_needs_9 rfl (lv_at hl 0 rfl) ?_
    refine lv_iload_n hx hb dR_needs_10 rfl (lv_at hl 2 rfl) ?_
    refine callRV (As := [.int (nI oo)]) (rest := [.ref (w 0)]) ⟨hx, hb, hml, hown, hts⟩ tlB (c_R_is l dC dI w cI cZ th n C G X D B bu LG LC ch (nI oo) hn) kw512 kw513 kw15 kw29 kw514 ⟨rfl, rfl⟩ (n := 1) (by decide +kernel) ⟨Nat.le_of_ble_eq_true rfl, Nat.le_of_ble_eq_true rfl⟩ (roP_preV hP hK (ci := 4) (q0 := 0) rfl rfl) rfl hl.1 rfl (Nat.le_of_ble_eq_true rfl) ⟨Nat.le_of_ble_eq_true rfl, Nat.le_of_ble_eq_true rfl⟩ dR_needs_11 (fun r4 hr4 => ?_)
    refine lv_if_eq (tgt := 26) hx hb dR_needs_14 (by decide) (fun k3 => ?_) (fun k3 => ?_)
    · exact absurd (⟨oo, ho, rfl⟩ : ∃ k, k < n ∧ nI oo = nI k) (mcZ_f hr4 k3)
    ·
      refine lv_iload_n hx hb dR_needs_17 rfl (lv_at hl 1 rfl) ?_
      refine lv_iload_n hx hb dR_needs_18 rfl (lv_at hl 2 rfl) ?_
      refine lv_icmp_eq (tgt := 26) hx hb dR_needs_19 (by decide) (fun k5 => ?_) (fun k5 => ?_)
      · exact absurd k5 hne
      ·
        refine lv_iconst (v := 1) hx hb dR_needs_22 (by decide) ?_
        refine lv_goto (tgt := 27) hx hb dR_needs_23 (by decide) ?_
        refine callWVi (As := [.int 1]) (rest := []) ⟨hx, hb, hml, hown, hts⟩ tlB (c_R_good1 l dC dI w cI cZ th n C G X D B bu LG LC ch s.heap.size) kw505 kw506 kw14 kw29 kw507 ⟨rfl, rfl⟩ (n := 1) (by decide +kernel) ⟨Nat.le_of_ble_eq_true rfl, Nat.le_of_ble_eq_true rfl⟩ hP hK hD hS (freeA hD hS hA) (ci := 4) (q0 := 0) rfl rfl rfl hl.1 rfl (Nat.le_of_ble_eq_true rfl) ⟨Nat.le_of_ble_eq_true rfl, Nat.le_of_ble_eq_true rfl⟩ dR_needs_27 (fun rg H1 locs1 hrg hP1 hD1 hk1 hS1 => ?_)
        have hD := hD1.weaken (fun _ z _ h => (freeA hD hS hA) z.1 h)
        have hP := hP1
        have hS := hS1
        have hrg : rg = 1 := hrg
        subst hrg
        refine lv_if_ne (tgt := 35) hx hb dR_needs_30 (by decide) (fun cg => ?_) (fun cg => ?_)
        ·
          refine lv_aload_n hx hb dR_needs_35 rfl (lv_at hl 0 rfl) ?_
          refine va_get (D := (dC, dI)) (ci := 4) (C := RR) (T := FR) (N := 11) hx hb hts (fun w h => List.mem_cons_of_mem _ (inR w h)) hown hK hP 0 rfl rfl 5 (by decide) (hts _ (List.mem_cons_of_mem _ kw464)) (fun _ h9 => h9) rfl dR_needs_36 ?_
          refine lv_bipush (v := 12) hx hb dR_needs_39 (by decide) ?_
          refine lv_iload_n hx hb dR_needs_41 rfl (lv_at hl 1 rfl) ?_
          refine lv_imul hx hb dR_needs_42 ?_
          refine lv_iload_n hx hb dR_needs_43 rfl (lv_at hl 2 rfl) ?_
          refine lv_iadd hx hb dR_needs_44 ?_
          refine lv_topi (fun y6 ey6 => ?_)
          have hy6 : y6 = nI (12 * mm + oo) := by rw [ey6, show (12 : Int32) = nI 12 from rfl, pk_mul, nI_add]
          subst hy6
          refine zaldN hx hb hK hP 4 1 rfl rfl (k := (12 * mm + oo)) (by omega) (by decide) (v := bZ ((D mm).testBit oo)) (by rw [(mc_ix (a := mm) (b := oo) (by omega)).1, (mc_ix (a := mm) (b := oo) (by omega)).2]) dR_needs_45 ?_
          refine lv_topi (fun y7 ey7 => ?_)
          have hy7 : y7 = bZ ((D mm).testBit oo) := by exact ey7
          subst hy7
          refine lv_istore (lv' := [(4, .int (bZ ((D mm).testBit oo))), (0, .ref (w 0)), (1, .int (nI mm)), (2, .int (nI oo)), (3, .int o)]) hx hb dR_needs_46 hl (by decide) rfl (fun ls hl => ?_)
          refine lv_aload_n hx hb dR_needs_48 rfl (lv_at hl 1 rfl) ?_
          refine va_get (D := (dC, dI)) (ci := 4) (C := RR) (T := FR) (N := 11) hx hb hts (fun w h => List.mem_cons_of_mem _ (inR w h)) hown hK hP 0 rfl rfl 5 (by decide) (hts _ (List.mem_cons_of_mem _ kw464)) (fun _ h9 => h9) rfl dR_needs_49 ?_
          refine lv_bipush (v := 12) hx hb dR_needs_52 (by decide) ?_
          refine lv_iload_n hx hb dR_needs_54 rfl (lv_at hl 2 rfl) ?_
          refine lv_imul hx hb dR_needs_55 ?_
          refine lv_iload_n hx hb dR_needs_56 rfl (lv_at hl 3 rfl) ?_
          refine lv_iadd hx hb dR_needs_57 ?_
          refine lv_topi (fun y8 ey8 => ?_)
          have hy8 : y8 = nI (12 * mm + oo) := by rw [ey8, show (12 : Int32) = nI 12 from rfl, pk_mul, nI_add]
          subst hy8
          refine lv_iload_n hx hb dR_needs_58 rfl (lv_at hl 4 rfl) ?_
          refine zastN hx hb hK hP hD hS 4 1 rfl rfl (k := (12 * mm + oo)) (by omega) (by decide) (x := o) h01 (fun i => bZ (((va_up D mm (mcBit (D mm) oo o)) (i / 12)).testBit (i % 12))) (fun i => mc_zup (by omega) h01 i) (ws' := mcWR w cI cZ 0 n C G X (va_up D mm (mcBit (D mm) oo o)) B bu LG LC ch) rfl dR_needs_59 (fun H locs hP hD hS => ?_)
          refine lv_iload hx hb dR_needs_60 (lv_at hl 0 rfl) ?_
          exact W.zret (v := (bZ ((D mm).testBit oo))) hx hb hr (by cases (D mm).testBit oo <;> rfl) (fun t ht hW => ⟨⟨(bZ ((D mm).testBit oo)), (), rfl, rfl, by rw [ht]; exact hP, va_K.moved hW.alike hK, hD⟩, hS.F ht⟩) hS.2.2 dR_needs_62
        · exact absurd cg (by decide)
set_option maxHeartbeats 4000000 in
set_option maxRecDepth 100000 in
theorem c_R_bonus_ok (l : Launch) (dC : Nat → ClassId) (dI : Nat → Nat → Nat) (w : Nat → Nat) (cI cZ : ClassId) (th n : Nat) (C G X D : Nat → Nat) (B : Nat → Nat → Int) (bu : Nat → Nat) (LG : Nat → Int) (LC : Nat → Nat) (ch : Nat → Int) (sz : Nat) (mm oo : Nat) (z : Int) (hn : n ≤ 12) (hm : mm < n) (ho : oo < n) (hne : ¬ nI mm = nI oo) (hz : (-5000) ≤ iI z ∧ iI z ≤ 5000) : Met l yR_bonus wdR_bonus ({ frames := 2, cells := 0, slots := 0, locals := 43 }) (wrP (dC, dI) mcCl (mcWR w cI cZ th n C G X D B bu LG LC ch) (mcTR cI cZ) sz [.ref (w 0), .int (nI mm), .int (nI oo), .int (iI z)]) (va_Qi (fun z9 (_ : Unit) => z9 = iI (B mm oo)) (fun _ t => va_P (dC, dI) mcCl (mcWR w cI cZ 0 n C G X D (mcB2 (mcB2 B mm oo z) oo mm z) bu LG LC ch) t.heap ∧ va_K (dC, dI) mcCl (mcTR cI cZ) t ∧ va_D (va_A (mcWR w cI cZ th n C G X D B bu LG LC ch) sz) (mcWR w cI cZ 0 n C G X D (mcB2 (mcB2 B mm oo z) oo mm z) bu LG LC ch)) (va_A (mcWR w cI cZ th n C G X D B bu LG LC ch) sz)) 0 0 (va_A (mcWR w cI cZ th n C G X D B bu LG LC ch) sz) := by
  refine Met.ofW (cc := bR_bonus) (maxL := 5) (ret := (some FieldType.int)) (by decide) rfl ?_
  intro p e s m args below meth c s₁ BB hml hv
  obtain ⟨rfl, hsz, hP, hK, hD0⟩ := hv
  have hx := BB.exec
  have hb := BB.bytes
  have hr := BB.returns
  have hts := atoms_spec (ws := wdR_bonus) BB.pre
  have hown : s.vm.findClass RR = some m.cls := findClass_of_methodNamed BB.named
  have hlocks := BB.notSynchronized
  subst hsz
  have hD := hD0.self (sz := s.heap.size)
  generalize hAe : va_A (mcWR w cI cZ th n C G X D B bu LG LC ch) s.heap.size = A at hD ⊢
  have hA : ∀ q : Nat, s.heap.size ≤ q → A q := fun q h => by rw [← hAe]; exact Or.inr h
  have hS : va_S A s.heap s.heap [] := va_S.rf
  have hl := lv_entry ([.ref (w 0), .int (nI mm), .int (nI oo), .int (iI z)]) (n := 5) (Nat.le_of_ble_eq_true rfl)
  rw [lg_entry_eq]
  generalize (lg_sl ([.ref (w 0), .int (nI mm), .int (nI oo), .int (iI z)]) ++ List.replicate (5 - (lg_sl ([.ref (w 0), .int (nI mm), .int (nI oo), .int (iI z)])).length) Slot.unset).toArray = ls at hl ⊢
  have hl : lv_has ls 5 [(0, .ref (w 0)), (1, .int (nI mm)), (2, .int (nI oo)), (3, .int (iI z))] := hl
  refine lv_aload_n hx hb dR_bonus_0 rfl (lv_at hl 0 rfl) ?_
  refine lv_aload_n hx hb dR_bonus_1 rfl (lv_at hl 0 rfl) ?_
  refine lv_iload_n hx hb dR_bonus_2 rfl (lv_at hl 1 rfl) ?_
  refine callRV (As := [.int (nI mm)]) (rest := [.ref (w 0)]) ⟨hx, hb, hml, hown, hts⟩ tlB (c_R_is l dC dI w cI cZ th n C G X D B bu LG LC ch (nI mm) hn) kw512 kw513 kw15 kw29 kw514 ⟨rfl, rfl⟩ (n := 1) (by decide +kernel) ⟨Nat.le_of_ble_eq_true rfl, Nat.le_of_ble_eq_true rfl⟩ (roP_preV hP hK (ci := 4) (q0 := 0) rfl rfl) rfl hl.1 rfl (Nat.le_of_ble_eq_true rfl) ⟨Nat.le_of_ble_eq_true rfl, Nat.le_of_ble_eq_true rfl⟩ dR_bonus_3 (fun r2 hr2 => ?_)
  refine lv_if_eq (tgt := 39) hx hb dR_bonus_6 (by decide) (fun k1 => ?_) (fun k1 => ?_)
  · exact absurd (⟨mm, hm, rfl⟩ : ∃ k, k < n ∧ nI mm = nI k) (mcZ_f hr2 k1)
  ·
    refine lv_aload_n hx hb dR_bonus_9 rfl (lv_at hl 0 rfl) ?_
    refine lv_iload_n hx hb dR_bonus_10 rfl (lv_at hl 2 rfl) ?_
    refine callRV (As := [.int (nI oo)]) (rest := [.ref (w 0)]) ⟨hx, hb, hml, hown, hts⟩ tlB (c_R_is l dC dI w cI cZ th n C G X D B bu LG LC ch (nI oo) hn) kw512 kw513 kw15 kw29 kw514 ⟨rfl, rfl⟩ (n := 1) (by decide +kernel) ⟨Nat.le_of_ble_eq_true rfl, Nat.le_of_ble_eq_true rfl⟩ (roP_preV hP hK (ci := 4) (q0 := 0) rfl rfl) rfl hl.1 rfl (Nat.le_of_ble_eq_true rfl) ⟨Nat.le_of_ble_eq_true rfl, Nat.le_of_ble_eq_true rfl⟩ dR_bonus_11 (fun r4 hr4 => ?_)
    refine lv_if_eq (tgt := 39) hx hb dR_bonus_14 (by decide) (fun k3 => ?_) (fun k3 => ?_)
    · exact absurd (⟨oo, ho, rfl⟩ : ∃ k, k < n ∧ nI oo = nI k) (mcZ_f hr4 k3)
    ·
      refine lv_iload_n hx hb dR_bonus_17 rfl (lv_at hl 1 rfl) ?_
      refine lv_iload_n hx hb dR_bonus_18 rfl (lv_at hl 2 rfl) ?_
      refine lv_icmp_eq (tgt := 39) hx hb dR_bonus_19 (by decide) (fun k5 => ?_) (fun k5 => ?_)
      · exact absurd k5 hne
      ·
        refine lv_iload_n hx hb dR_bonus_22 rfl (lv_at hl 3 rfl) ?_
        refine lv_sipush (v := (-5000)) hx hb dR_bonus_23 (by decide) ?_
        refine lv_sipush (v := 5000) hx hb dR_bonus_26 (by decide) ?_
        refine callRS (As := [.int (iI z), .int (-5000), .int 5000]) (rest := [.ref (w 0)]) ⟨hx, hb, hml, hown, hts⟩ tlB (c_R_in l (iI z) (-5000) 5000) kw502 kw503 kw29 kw504 ⟨rfl, rfl⟩ (n := 3) (by decide +kernel) ⟨Nat.le_of_ble_eq_true rfl, Nat.le_of_ble_eq_true rfl⟩ (nwP_pre) rfl hl.1 rfl (Nat.le_of_ble_eq_true rfl) ⟨Nat.le_of_ble_eq_true rfl, Nat.le_of_ble_eq_true rfl⟩ dR_bonus_29 (fun r7 hr7 => ?_)
        refine lv_if_eq (tgt := 39) hx hb dR_bonus_32 (by decide) (fun k6 => ?_) (fun k6 => ?_)
        · exact absurd hz (mcZ_f hr7 k6)
        ·
          refine lv_iconst (v := 1) hx hb dR_bonus_35 (by decide) ?_
          refine lv_goto (tgt := 40) hx hb dR_bonus_36 (by decide) ?_
          refine callWVi (As := [.int 1]) (rest := []) ⟨hx, hb, hml, hown, hts⟩ tlB (c_R_good1 l dC dI w cI cZ th n C G X D B bu LG LC ch s.heap.size) kw505 kw506 kw14 kw29 kw507 ⟨rfl, rfl⟩ (n := 1) (by decide +kernel) ⟨Nat.le_of_ble_eq_true rfl, Nat.le_of_ble_eq_true rfl⟩ hP hK hD hS (freeA hD hS hA) (ci := 4) (q0 := 0) rfl rfl rfl hl.1 rfl (Nat.le_of_ble_eq_true rfl) ⟨Nat.le_of_ble_eq_true rfl, Nat.le_of_ble_eq_true rfl⟩ dR_bonus_40 (fun rg H1 locs1 hrg hP1 hD1 hk1 hS1 => ?_)
          have hD := hD1.weaken (fun _ z _ h => (freeA hD hS hA) z.1 h)
          have hP := hP1
          have hS := hS1
          have hrg : rg = 1 := hrg
          subst hrg
          refine lv_if_ne (tgt := 48) hx hb dR_bonus_43 (by decide) (fun cg => ?_) (fun cg => ?_)
          ·
            refine lv_aload_n hx hb dR_bonus_48 rfl (lv_at hl 0 rfl) ?_
            refine va_get (D := (dC, dI)) (ci := 4) (C := RR) (T := FR) (N := 11) hx hb hts (fun w h => List.mem_cons_of_mem _ (inR w h)) hown hK hP 0 rfl rfl 6 (by decide) (hts _ (List.mem_cons_of_mem _ kw465)) (fun _ h9 => h9) rfl dR_bonus_49 ?_
            refine lv_bipush (v := 12) hx hb dR_bonus_52 (by decide) ?_
            refine lv_iload_n hx hb dR_bonus_54 rfl (lv_at hl 1 rfl) ?_
            refine lv_imul hx hb dR_bonus_55 ?_
            refine lv_iload_n hx hb dR_bonus_56 rfl (lv_at hl 2 rfl) ?_
            refine lv_iadd hx hb dR_bonus_57 ?_
            refine lv_topi (fun y8 ey8 => ?_)
            have hy8 : y8 = nI (12 * mm + oo) := by rw [ey8, show (12 : Int32) = nI 12 from rfl, pk_mul, nI_add]
            subst hy8
            refine ialdN hx hb hK hP 5 0 rfl rfl (k := (12 * mm + oo)) (by omega) (by decide) (v := iI (B mm oo)) (by rw [(mc_ix (a := mm) (b := oo) (by omega)).1, (mc_ix (a := mm) (b := oo) (by omega)).2]) dR_bonus_58 ?_
            refine lv_istore (lv' := [(4, .int (iI (B mm oo))), (0, .ref (w 0)), (1, .int (nI mm)), (2, .int (nI oo)), (3, .int (iI z))]) hx hb dR_bonus_59 hl (by decide) rfl (fun ls hl => ?_)
            refine lv_aload_n hx hb dR_bonus_61 rfl (lv_at hl 1 rfl) ?_
            refine va_get (D := (dC, dI)) (ci := 4) (C := RR) (T := FR) (N := 11) hx hb hts (fun w h => List.mem_cons_of_mem _ (inR w h)) hown hK hP 0 rfl rfl 6 (by decide) (hts _ (List.mem_cons_of_mem _ kw465)) (fun _ h9 => h9) rfl dR_bonus_62 ?_
            refine lv_bipush (v := 12) hx hb dR_bonus_65 (by decide) ?_
            refine lv_iload_n hx hb dR_bonus_67 rfl (lv_at hl 2 rfl) ?_
            refine lv_imul hx hb dR_bonus_68 ?_
            refine lv_iload_n hx hb dR_bonus_69 rfl (lv_at hl 3 rfl) ?_
            refine lv_iadd hx hb dR_bonus_70 ?_
            refine lv_topi (fun y9 ey9 => ?_)
            have hy9 : y9 = nI (12 * mm + oo) := by rw [ey9, show (12 : Int32) = nI 12 from rfl, pk_mul, nI_add]
            subst hy9
            refine lv_iload_n hx hb dR_bonus_71 rfl (lv_at hl 4 rfl) ?_
            refine iastN hx hb hK hP hD hS 5 0 rfl rfl (k := (12 * mm + oo)) (by omega) (by decide) (x := iI z) (fun i => iI ((mcB2 B mm oo z) (i / 12) (i % 12))) (fun i => mc_bup (by omega) i) (ws' := mcWR w cI cZ 0 n C G X D (mcB2 B mm oo z) bu LG LC ch) (rfl) dR_bonus_72 (fun H locs hP hD hS => ?_)
            refine lv_aload_n hx hb dR_bonus_73 rfl (lv_at hl 1 rfl) ?_
            refine va_get (D := (dC, dI)) (ci := 4) (C := RR) (T := FR) (N := 11) hx hb hts (fun w h => List.mem_cons_of_mem _ (inR w h)) hown hK hP 0 rfl rfl 6 (by decide) (hts _ (List.mem_cons_of_mem _ kw465)) (fun _ h9 => h9) rfl dR_bonus_74 ?_
            refine lv_bipush (v := 12) hx hb dR_bonus_77 (by decide) ?_
            refine lv_iload_n hx hb dR_bonus_79 rfl (lv_at hl 3 rfl) ?_
            refine lv_imul hx hb dR_bonus_80 ?_
            refine lv_iload_n hx hb dR_bonus_81 rfl (lv_at hl 2 rfl) ?_
            refine lv_iadd hx hb dR_bonus_82 ?_
            refine lv_topi (fun y10 ey10 => ?_)
            have hy10 : y10 = nI (12 * oo + mm) := by rw [ey10, show (12 : Int32) = nI 12 from rfl, pk_mul, nI_add]
            subst hy10
            refine lv_iload_n hx hb dR_bonus_83 rfl (lv_at hl 4 rfl) ?_
            refine iastN hx hb hK hP hD hS 5 0 rfl rfl (k := (12 * oo + mm)) (by omega) (by decide) (x := iI z) (fun i => iI ((mcB2 (mcB2 B mm oo z) oo mm z) (i / 12) (i % 12))) (fun i => mc_bup (by omega) i) (ws' := mcWR w cI cZ 0 n C G X D (mcB2 (mcB2 B mm oo z) oo mm z) bu LG LC ch) (rfl) dR_bonus_84 (fun H locs hP hD hS => ?_)
            refine lv_iload hx hb dR_bonus_85 (lv_at hl 0 rfl) ?_
            exact W.iret (v := (iI (B mm oo))) hx hb hr (fun t ht hW => ⟨⟨(iI (B mm oo)), (), rfl, rfl, by rw [ht]; exact hP, va_K.moved hW.alike hK, hD⟩, hS.F ht⟩) hS.2.2 dR_bonus_87
          · exact absurd cg (by decide)
set_option maxHeartbeats 4000000 in
set_option maxRecDepth 100000 in
theorem c_R_lawful_ok (l : Launch) (dC : Nat → ClassId) (dI : Nat → Nat → Nat) (w : Nat → Nat) (cI cZ : ClassId) (th n : Nat) (C G X D : Nat → Nat) (B : Nat → Nat → Int) (bu : Nat → Nat) (LG : Nat → Int) (LC : Nat → Nat) (ch : Nat → Int) (sz : Nat) (S : Nat) (hSn : S < 2 ^ n) (hn : n ≤ 12) (hC : ∀ m, C m ≤ 10000) (hG : ∀ m, G m ≤ 10000) (hB : ∀ i j, -5000 ≤ B i j ∧ B i j ≤ 5000) (hXn : ∀ m j, (X m).testBit j = true → j < n) (hDn : ∀ m j, (D m).testBit j = true → j < n) : Met l yR_lawful wdR_lawful ({ frames := 2, cells := 0, slots := 0, locals := 45 }) (wrP (dC, dI) mcCl (mcWR w cI cZ th n C G X D B bu LG LC ch) (mcTR cI cZ) sz [.ref (w 0), .int (nI S)]) (va_Qi (fun z9 (_ : Unit) => mcZ (mc_law n X D S) z9) (fun _ t => va_P (dC, dI) mcCl (mcWR w cI cZ 0 n C G X D B bu LG LC ch) t.heap ∧ va_K (dC, dI) mcCl (mcTR cI cZ) t ∧ va_D (va_A (mcWR w cI cZ th n C G X D B bu LG LC ch) sz) (mcWR w cI cZ 0 n C G X D B bu LG LC ch)) (va_A (mcWR w cI cZ th n C G X D B bu LG LC ch) sz)) 0 0 (va_A (mcWR w cI cZ th n C G X D B bu LG LC ch) sz) := by
  refine Met.ofW (cc := bR_lawful) (maxL := 2) (ret := (some FieldType.boolean)) (by decide) rfl ?_
  intro p e s m args below meth c s₁ BB hml hv
  obtain ⟨rfl, hsz, hP, hK, hD0⟩ := hv
  have hx := BB.exec
  have hb := BB.bytes
  have hr := BB.returns
  have hts := atoms_spec (ws := wdR_lawful) BB.pre
  have hown : s.vm.findClass RR = some m.cls := findClass_of_methodNamed BB.named
  have hlocks := BB.notSynchronized
  subst hsz
  have hD := hD0.self (sz := s.heap.size)
  generalize hAe : va_A (mcWR w cI cZ th n C G X D B bu LG LC ch) s.heap.size = A at hD ⊢
  have hA : ∀ q : Nat, s.heap.size ≤ q → A q := fun q h => by rw [← hAe]; exact Or.inr h
  have hS : va_S A s.heap s.heap [] := va_S.rf
  have hl := lv_entry ([.ref (w 0), .int (nI S)]) (n := 2) (Nat.le_of_ble_eq_true rfl)
  rw [lg_entry_eq]
  generalize (lg_sl ([.ref (w 0), .int (nI S)]) ++ List.replicate (2 - (lg_sl ([.ref (w 0), .int (nI S)])).length) Slot.unset).toArray = ls at hl ⊢
  have hl : lv_has ls 2 [(0, .ref (w 0)), (1, .int (nI S))] := hl
  have h12 := mc_pow12 hn hSn
  refine lv_aload_n hx hb dR_lawful_0 rfl (lv_at hl 0 rfl) ?_
  refine lv_aload_n hx hb dR_lawful_1 rfl (lv_at hl 0 rfl) ?_
  refine lv_iload_n hx hb dR_lawful_2 rfl (lv_at hl 1 rfl) ?_
  refine callRV (As := [.int (nI S)]) (rest := [.ref (w 0)]) ⟨hx, hb, hml, hown, hts⟩ tlB (c_R_isSet l dC dI w cI cZ th n C G X D B bu LG LC ch (nI S) hn) kw531 kw532 kw16 kw29 kw533 ⟨rfl, rfl⟩ (n := 1) (by decide +kernel) ⟨Nat.le_of_ble_eq_true rfl, Nat.le_of_ble_eq_true rfl⟩ (roP_preV hP hK (ci := 4) (q0 := 0) rfl rfl) rfl hl.1 rfl (Nat.le_of_ble_eq_true rfl) ⟨Nat.le_of_ble_eq_true rfl, Nat.le_of_ble_eq_true rfl⟩ dR_lawful_3 (fun r2 hr2 => ?_)
  have hr21 : r2 = 1 := by rcases hr2 with ⟨z, -⟩ | ⟨-, z⟩; exact z; exact absurd (⟨S, hSn, rfl⟩ : ∃ S9, S9 < 2 ^ n ∧ nI S = nI S9) z
  subst hr21
  refine callWVi (As := [.int 1]) (rest := []) ⟨hx, hb, hml, hown, hts⟩ tlB (c_R_good1 l dC dI w cI cZ th n C G X D B bu LG LC ch s.heap.size) kw505 kw506 kw14 kw29 kw507 ⟨rfl, rfl⟩ (n := 1) (by decide +kernel) ⟨Nat.le_of_ble_eq_true rfl, Nat.le_of_ble_eq_true rfl⟩ hP hK hD hS (freeA hD hS hA) (ci := 4) (q0 := 0) rfl rfl rfl hl.1 rfl (Nat.le_of_ble_eq_true rfl) ⟨Nat.le_of_ble_eq_true rfl, Nat.le_of_ble_eq_true rfl⟩ dR_lawful_6 (fun rg H1 locs1 hrg hP1 hD1 hk1 hS1 => ?_)
  have hD := hD1.weaken (fun _ z _ h => (freeA hD hS hA) z.1 h)
  have hP := hP1
  have hS := hS1
  have hrg : rg = 1 := hrg
  subst hrg
  refine lv_if_eq (tgt := 24) hx hb dR_lawful_9 (by decide) (fun cg => ?_) (fun cg => ?_)
  · exact absurd cg (by decide)
  ·
    refine lv_aload_n hx hb dR_lawful_12 rfl (lv_at hl 0 rfl) ?_
    refine lv_iload_n hx hb dR_lawful_13 rfl (lv_at hl 1 rfl) ?_
    refine callRV (As := [.int (nI S)]) (rest := []) ⟨hx, hb, hml, hown, hts⟩ tlB (c_R_holds l dC dI w cI cZ 0 n C G X D B bu LG LC ch S hn (by omega) hXn hDn) kw534 kw535 kw17 kw29 kw536 ⟨rfl, rfl⟩ (n := 1) (by decide +kernel) ⟨Nat.le_of_ble_eq_true rfl, Nat.le_of_ble_eq_true rfl⟩ (roP_preV hP hK (ci := 4) (q0 := 0) rfl rfl) rfl hl.1 rfl (Nat.le_of_ble_eq_true rfl) ⟨Nat.le_of_ble_eq_true rfl, Nat.le_of_ble_eq_true rfl⟩ dR_lawful_14 (fun r1 hr1 => ?_)
    refine lv_if_eq (tgt := 24) hx hb dR_lawful_17 (by decide) (fun cl => ?_) (fun cl => ?_)
    ·
      refine lv_iconst (v := 0) hx hb dR_lawful_24 (by decide) ?_
      exact W.zret (v := 0) hx hb hr (rfl) (fun t ht hW => ⟨⟨0, (), rfl, Or.inr ⟨rfl, mcZ_f hr1 cl⟩, by rw [ht]; exact hP, va_K.moved hW.alike hK, hD⟩, hS.F ht⟩) hS.2.2 dR_lawful_25
    ·
      refine lv_iconst (v := 1) hx hb dR_lawful_20 (by decide) ?_
      refine lv_goto (tgt := 25) hx hb dR_lawful_21 (by decide) ?_
      exact W.zret (v := 1) hx hb hr (rfl) (fun t ht hW => ⟨⟨1, (), rfl, Or.inl ⟨rfl, mcZ_t hr1 cl⟩, by rw [ht]; exact hP, va_K.moved hW.alike hK, hD⟩, hS.F ht⟩) hS.2.2 dR_lawful_25
set_option maxHeartbeats 4000000 in
set_option maxRecDepth 100000 in
theorem c_R_told_ok0 (l : Launch) (dC : Nat → ClassId) (dI : Nat → Nat → Nat) (w : Nat → Nat) (cI cZ : ClassId) (th n : Nat) (C G X D : Nat → Nat) (B : Nat → Nat → Int) (bu : Nat → Nat) (LG : Nat → Int) (LC : Nat → Nat) (ch : Nat → Int) (sz : Nat) (S : Nat) (hSn : S < 2 ^ n) (hn : n ≤ 12) : Met l yR_told wdR_told ({ frames := 2, cells := 0, slots := 0, locals := 45 }) (wrP (dC, dI) mcCl (mcWR w cI cZ th n C G X D B bu LG LC ch) (mcTR cI cZ) sz [.ref (w 0), .int (nI S), .int 0]) (va_Qi (fun z9 (_ : Unit) => z9 = (nI (mc_cost C S n))) (fun _ t => va_P (dC, dI) mcCl (mcWR w cI cZ 0 n C G X D B bu LG LC ch) t.heap ∧ va_K (dC, dI) mcCl (mcTR cI cZ) t ∧ va_D (va_A (mcWR w cI cZ th n C G X D B bu LG LC ch) sz) (mcWR w cI cZ 0 n C G X D B bu LG LC ch)) (va_A (mcWR w cI cZ th n C G X D B bu LG LC ch) sz)) 0 0 (va_A (mcWR w cI cZ th n C G X D B bu LG LC ch) sz) := by
  refine Met.ofW (cc := bR_told) (maxL := 3) (ret := (some FieldType.int)) (by decide) rfl ?_
  intro p e s m args below meth c s₁ BB hml hv
  obtain ⟨rfl, hsz, hP, hK, hD0⟩ := hv
  have hx := BB.exec
  have hb := BB.bytes
  have hr := BB.returns
  have hts := atoms_spec (ws := wdR_told) BB.pre
  have hown : s.vm.findClass RR = some m.cls := findClass_of_methodNamed BB.named
  have hlocks := BB.notSynchronized
  subst hsz
  have hD := hD0.self (sz := s.heap.size)
  generalize hAe : va_A (mcWR w cI cZ th n C G X D B bu LG LC ch) s.heap.size = A at hD ⊢
  have hA : ∀ q : Nat, s.heap.size ≤ q → A q := fun q h => by rw [← hAe]; exact Or.inr h
  have hS : va_S A s.heap s.heap [] := va_S.rf
  have hl := lv_entry ([.ref (w 0), .int (nI S), .int 0]) (n := 3) (Nat.le_of_ble_eq_true rfl)
  rw [lg_entry_eq]
  generalize (lg_sl ([.ref (w 0), .int (nI S), .int 0]) ++ List.replicate (3 - (lg_sl ([.ref (w 0), .int (nI S), .int 0])).length) Slot.unset).toArray = ls at hl ⊢
  have hl : lv_has ls 3 [(0, .ref (w 0)), (1, .int (nI S)), (2, .int 0)] := hl
  have h12 := mc_pow12 hn hSn
  refine lv_aload_n hx hb dR_told_0 rfl (lv_at hl 0 rfl) ?_
  refine lv_aload_n hx hb dR_told_1 rfl (lv_at hl 0 rfl) ?_
  refine lv_iload_n hx hb dR_told_2 rfl (lv_at hl 1 rfl) ?_
  refine callRV (As := [.int (nI S)]) (rest := [.ref (w 0)]) ⟨hx, hb, hml, hown, hts⟩ tlB (c_R_isSet l dC dI w cI cZ th n C G X D B bu LG LC ch (nI S) hn) kw531 kw532 kw16 kw29 kw533 ⟨rfl, rfl⟩ (n := 1) (by decide +kernel) ⟨Nat.le_of_ble_eq_true rfl, Nat.le_of_ble_eq_true rfl⟩ (roP_preV hP hK (ci := 4) (q0 := 0) rfl rfl) rfl hl.1 rfl (Nat.le_of_ble_eq_true rfl) ⟨Nat.le_of_ble_eq_true rfl, Nat.le_of_ble_eq_true rfl⟩ dR_told_3 (fun r2 hr2 => ?_)
  refine lv_if_eq (tgt := 22) hx hb dR_told_6 (by decide) (fun k1 => ?_) (fun k1 => ?_)
  · exact absurd (⟨S, hSn, rfl⟩ : ∃ S9, S9 < 2 ^ n ∧ nI S = nI S9) (mcZ_f hr2 k1)
  ·
    refine lv_iload_n hx hb dR_told_9 rfl (lv_at hl 2 rfl) ?_
    refine lv_iconst (v := 0) hx hb dR_told_10 (by decide) ?_
    refine lv_iconst (v := 1) hx hb dR_told_11 (by decide) ?_
    refine callRS (As := [.int 0, .int 0, .int 1]) (rest := [.ref (w 0)]) ⟨hx, hb, hml, hown, hts⟩ tlB (c_R_in l 0 0 1) kw502 kw503 kw29 kw504 ⟨rfl, rfl⟩ (n := 3) (by decide +kernel) ⟨Nat.le_of_ble_eq_true rfl, Nat.le_of_ble_eq_true rfl⟩ (nwP_pre) rfl hl.1 rfl (Nat.le_of_ble_eq_true rfl) ⟨Nat.le_of_ble_eq_true rfl, Nat.le_of_ble_eq_true rfl⟩ dR_told_12 (fun r4 hr4 => ?_)
    refine lv_if_eq (tgt := 22) hx hb dR_told_15 (by decide) (fun k3 => ?_) (fun k3 => ?_)
    · exact absurd (by decide : (0 : Int32) ≤ 0 ∧ (0 : Int32) ≤ 1) (mcZ_f hr4 k3)
    ·
      refine lv_iconst (v := 1) hx hb dR_told_18 (by decide) ?_
      refine lv_goto (tgt := 23) hx hb dR_told_19 (by decide) ?_
      refine callWVi (As := [.int 1]) (rest := []) ⟨hx, hb, hml, hown, hts⟩ tlB (c_R_good1 l dC dI w cI cZ th n C G X D B bu LG LC ch s.heap.size) kw505 kw506 kw14 kw29 kw507 ⟨rfl, rfl⟩ (n := 1) (by decide +kernel) ⟨Nat.le_of_ble_eq_true rfl, Nat.le_of_ble_eq_true rfl⟩ hP hK hD hS (freeA hD hS hA) (ci := 4) (q0 := 0) rfl rfl rfl hl.1 rfl (Nat.le_of_ble_eq_true rfl) ⟨Nat.le_of_ble_eq_true rfl, Nat.le_of_ble_eq_true rfl⟩ dR_told_23 (fun rg H1 locs1 hrg hP1 hD1 hk1 hS1 => ?_)
      have hD := hD1.weaken (fun _ z _ h => (freeA hD hS hA) z.1 h)
      have hP := hP1
      have hS := hS1
      have hrg : rg = 1 := hrg
      subst hrg
      refine lv_if_ne (tgt := 31) hx hb dR_told_26 (by decide) (fun cg => ?_) (fun cg => ?_)
      ·
        refine lv_iload_n hx hb dR_told_31 rfl (lv_at hl 2 rfl) ?_
        refine lv_if_ne (tgt := 43) hx hb dR_told_32 (by decide) (fun cw => ?_) (fun cw => ?_)
        · exact absurd rfl cw
        ·
          refine lv_aload_n hx hb dR_told_35 rfl (lv_at hl 0 rfl) ?_
          refine lv_iload_n hx hb dR_told_36 rfl (lv_at hl 1 rfl) ?_
          refine callRV (As := [.int (nI S)]) (rest := []) ⟨hx, hb, hml, hown, hts⟩ tlB (c_R_costOf l dC dI w cI cZ 0 n C G X D B bu LG LC ch S hn (by omega)) kw544 kw545 kw18 kw29 kw546 ⟨rfl, rfl⟩ (n := 1) (by decide +kernel) ⟨Nat.le_of_ble_eq_true rfl, Nat.le_of_ble_eq_true rfl⟩ (roP_preV hP hK (ci := 4) (q0 := 0) rfl rfl) rfl hl.1 rfl (Nat.le_of_ble_eq_true rfl) ⟨Nat.le_of_ble_eq_true rfl, Nat.le_of_ble_eq_true rfl⟩ dR_told_37 (fun r1 hr1 => ?_)
          subst hr1
          refine lv_goto (tgt := 48) hx hb dR_told_40 (by decide) ?_
          exact W.iret (v := (nI (mc_cost C S n))) hx hb hr (fun t ht hW => ⟨⟨(nI (mc_cost C S n)), (), rfl, rfl, by rw [ht]; exact hP, va_K.moved hW.alike hK, hD⟩, hS.F ht⟩) hS.2.2 dR_told_48
      · exact absurd cg (by decide)
set_option maxHeartbeats 4000000 in
set_option maxRecDepth 100000 in
theorem c_R_told_ok1 (l : Launch) (dC : Nat → ClassId) (dI : Nat → Nat → Nat) (w : Nat → Nat) (cI cZ : ClassId) (th n : Nat) (C G X D : Nat → Nat) (B : Nat → Nat → Int) (bu : Nat → Nat) (LG : Nat → Int) (LC : Nat → Nat) (ch : Nat → Int) (sz : Nat) (S : Nat) (hSn : S < 2 ^ n) (hn : n ≤ 12) : Met l yR_told wdR_told ({ frames := 2, cells := 0, slots := 0, locals := 45 }) (wrP (dC, dI) mcCl (mcWR w cI cZ th n C G X D B bu LG LC ch) (mcTR cI cZ) sz [.ref (w 0), .int (nI S), .int 1]) (va_Qi (fun z9 (_ : Unit) => z9 = (iI (mc_gain G B S n))) (fun _ t => va_P (dC, dI) mcCl (mcWR w cI cZ 0 n C G X D B bu LG LC ch) t.heap ∧ va_K (dC, dI) mcCl (mcTR cI cZ) t ∧ va_D (va_A (mcWR w cI cZ th n C G X D B bu LG LC ch) sz) (mcWR w cI cZ 0 n C G X D B bu LG LC ch)) (va_A (mcWR w cI cZ th n C G X D B bu LG LC ch) sz)) 0 0 (va_A (mcWR w cI cZ th n C G X D B bu LG LC ch) sz) := by
  refine Met.ofW (cc := bR_told) (maxL := 3) (ret := (some FieldType.int)) (by decide) rfl ?_
  intro p e s m args below meth c s₁ BB hml hv
  obtain ⟨rfl, hsz, hP, hK, hD0⟩ := hv
  have hx := BB.exec
  have hb := BB.bytes
  have hr := BB.returns
  have hts := atoms_spec (ws := wdR_told) BB.pre
  have hown : s.vm.findClass RR = some m.cls := findClass_of_methodNamed BB.named
  have hlocks := BB.notSynchronized
  subst hsz
  have hD := hD0.self (sz := s.heap.size)
  generalize hAe : va_A (mcWR w cI cZ th n C G X D B bu LG LC ch) s.heap.size = A at hD ⊢
  have hA : ∀ q : Nat, s.heap.size ≤ q → A q := fun q h => by rw [← hAe]; exact Or.inr h
  have hS : va_S A s.heap s.heap [] := va_S.rf
  have hl := lv_entry ([.ref (w 0), .int (nI S), .int 1]) (n := 3) (Nat.le_of_ble_eq_true rfl)
  rw [lg_entry_eq]
  generalize (lg_sl ([.ref (w 0), .int (nI S), .int 1]) ++ List.replicate (3 - (lg_sl ([.ref (w 0), .int (nI S), .int 1])).length) Slot.unset).toArray = ls at hl ⊢
  have hl : lv_has ls 3 [(0, .ref (w 0)), (1, .int (nI S)), (2, .int 1)] := hl
  have h12 := mc_pow12 hn hSn
  refine lv_aload_n hx hb dR_told_0 rfl (lv_at hl 0 rfl) ?_
  refine lv_aload_n hx hb dR_told_1 rfl (lv_at hl 0 rfl) ?_
  refine lv_iload_n hx hb dR_told_2 rfl (lv_at hl 1 rfl) ?_
  refine callRV (As := [.int (nI S)]) (rest := [.ref (w 0)]) ⟨hx, hb, hml, hown, hts⟩ tlB (c_R_isSet l dC dI w cI cZ th n C G X D B bu LG LC ch (nI S) hn) kw531 kw532 kw16 kw29 kw533 ⟨rfl, rfl⟩ (n := 1) (by decide +kernel) ⟨Nat.le_of_ble_eq_true rfl, Nat.le_of_ble_eq_true rfl⟩ (roP_preV hP hK (ci := 4) (q0 := 0) rfl rfl) rfl hl.1 rfl (Nat.le_of_ble_eq_true rfl) ⟨Nat.le_of_ble_eq_true rfl, Nat.le_of_ble_eq_true rfl⟩ dR_told_3 (fun r2 hr2 => ?_)
  refine lv_if_eq (tgt := 22) hx hb dR_told_6 (by decide) (fun k1 => ?_) (fun k1 => ?_)
  · exact absurd (⟨S, hSn, rfl⟩ : ∃ S9, S9 < 2 ^ n ∧ nI S = nI S9) (mcZ_f hr2 k1)
  ·
    refine lv_iload_n hx hb dR_told_9 rfl (lv_at hl 2 rfl) ?_
    refine lv_iconst (v := 0) hx hb dR_told_10 (by decide) ?_
    refine lv_iconst (v := 1) hx hb dR_told_11 (by decide) ?_
    refine callRS (As := [.int 1, .int 0, .int 1]) (rest := [.ref (w 0)]) ⟨hx, hb, hml, hown, hts⟩ tlB (c_R_in l 1 0 1) kw502 kw503 kw29 kw504 ⟨rfl, rfl⟩ (n := 3) (by decide +kernel) ⟨Nat.le_of_ble_eq_true rfl, Nat.le_of_ble_eq_true rfl⟩ (nwP_pre) rfl hl.1 rfl (Nat.le_of_ble_eq_true rfl) ⟨Nat.le_of_ble_eq_true rfl, Nat.le_of_ble_eq_true rfl⟩ dR_told_12 (fun r4 hr4 => ?_)
    refine lv_if_eq (tgt := 22) hx hb dR_told_15 (by decide) (fun k3 => ?_) (fun k3 => ?_)
    · exact absurd (by decide : (0 : Int32) ≤ 1 ∧ (1 : Int32) ≤ 1) (mcZ_f hr4 k3)
    ·
      refine lv_iconst (v := 1) hx hb dR_told_18 (by decide) ?_
      refine lv_goto (tgt := 23) hx hb dR_told_19 (by decide) ?_
      refine callWVi (As := [.int 1]) (rest := []) ⟨hx, hb, hml, hown, hts⟩ tlB (c_R_good1 l dC dI w cI cZ th n C G X D B bu LG LC ch s.heap.size) kw505 kw506 kw14 kw29 kw507 ⟨rfl, rfl⟩ (n := 1) (by decide +kernel) ⟨Nat.le_of_ble_eq_true rfl, Nat.le_of_ble_eq_true rfl⟩ hP hK hD hS (freeA hD hS hA) (ci := 4) (q0 := 0) rfl rfl rfl hl.1 rfl (Nat.le_of_ble_eq_true rfl) ⟨Nat.le_of_ble_eq_true rfl, Nat.le_of_ble_eq_true rfl⟩ dR_told_23 (fun rg H1 locs1 hrg hP1 hD1 hk1 hS1 => ?_)
      have hD := hD1.weaken (fun _ z _ h => (freeA hD hS hA) z.1 h)
      have hP := hP1
      have hS := hS1
      have hrg : rg = 1 := hrg
      subst hrg
      refine lv_if_ne (tgt := 31) hx hb dR_told_26 (by decide) (fun cg => ?_) (fun cg => ?_)
      ·
        refine lv_iload_n hx hb dR_told_31 rfl (lv_at hl 2 rfl) ?_
        refine lv_if_ne (tgt := 43) hx hb dR_told_32 (by decide) (fun cw => ?_) (fun cw => ?_)
        ·
          refine lv_aload_n hx hb dR_told_43 rfl (lv_at hl 0 rfl) ?_
          refine lv_iload_n hx hb dR_told_44 rfl (lv_at hl 1 rfl) ?_
          refine callRV (As := [.int (nI S)]) (rest := []) ⟨hx, hb, hml, hown, hts⟩ tlB (c_R_gainOf l dC dI w cI cZ 0 n C G X D B bu LG LC ch S hn (by omega)) kw547 kw548 kw19 kw29 kw549 ⟨rfl, rfl⟩ (n := 1) (by decide +kernel) ⟨Nat.le_of_ble_eq_true rfl, Nat.le_of_ble_eq_true rfl⟩ (roP_preV hP hK (ci := 4) (q0 := 0) rfl rfl) rfl hl.1 rfl (Nat.le_of_ble_eq_true rfl) ⟨Nat.le_of_ble_eq_true rfl, Nat.le_of_ble_eq_true rfl⟩ dR_told_45 (fun r1 hr1 => ?_)
          subst hr1
          exact W.iret (v := (iI (mc_gain G B S n))) hx hb hr (fun t ht hW => ⟨⟨(iI (mc_gain G B S n)), (), rfl, rfl, by rw [ht]; exact hP, va_K.moved hW.alike hK, hD⟩, hS.F ht⟩) hS.2.2 dR_told_48
        · exact absurd cw (by decide)
      · exact absurd cg (by decide)
set_option maxHeartbeats 4000000 in
set_option maxRecDepth 100000 in
theorem c_R_best_ok (l : Launch) (dC : Nat → ClassId) (dI : Nat → Nat → Nat) (w : Nat → Nat) (cI cZ : ClassId) (th n : Nat) (C G X D : Nat → Nat) (B : Nat → Nat → Int) (bu : Nat → Nat) (LG : Nat → Int) (LC : Nat → Nat) (ch : Nat → Int) (sz : Nat) (b : Nat) (hb9 : b < 2 ^ 31) (hn : n ≤ 12) (hC : ∀ m, C m ≤ 10000) (hG : ∀ m, G m ≤ 10000) (hB : ∀ i j, -5000 ≤ B i j ∧ B i j ≤ 5000) (hXn : ∀ m j, (X m).testBit j = true → j < n) (hDn : ∀ m j, (D m).testBit j = true → j < n) : Met l yR_best wdR_best ({ frames := 3, cells := 0, slots := 0, locals := 74 }) (wrP (dC, dI) mcCl (mcWR w cI cZ th n C G X D B bu LG LC ch) (mcTR cI cZ) sz [.ref (w 0), .int (nI b)]) (va_Qi (fun z9 (_ : Unit) => ∃ s9, z9 = nI s9 ∧ mc_bst n C G X D B b (2 ^ n) s9) (fun _ t => va_P (dC, dI) mcCl (mcWR w cI cZ 0 n C G X D B bu LG LC ch) t.heap ∧ va_K (dC, dI) mcCl (mcTR cI cZ) t ∧ va_D (va_A (mcWR w cI cZ th n C G X D B bu LG LC ch) sz) (mcWR w cI cZ 0 n C G X D B bu LG LC ch)) (va_A (mcWR w cI cZ th n C G X D B bu LG LC ch) sz)) 0 0 (va_A (mcWR w cI cZ th n C G X D B bu LG LC ch) sz) := by
  refine Met.ofW (cc := bR_best) (maxL := 2) (ret := (some FieldType.int)) (by decide) rfl ?_
  intro p e s m args below meth c s₁ BB hml hv
  obtain ⟨rfl, hsz, hP, hK, hD0⟩ := hv
  have hx := BB.exec
  have hb := BB.bytes
  have hr := BB.returns
  have hts := atoms_spec (ws := wdR_best) BB.pre
  have hown : s.vm.findClass RR = some m.cls := findClass_of_methodNamed BB.named
  have hlocks := BB.notSynchronized
  subst hsz
  have hD := hD0.self (sz := s.heap.size)
  generalize hAe : va_A (mcWR w cI cZ th n C G X D B bu LG LC ch) s.heap.size = A at hD ⊢
  have hA : ∀ q : Nat, s.heap.size ≤ q → A q := fun q h => by rw [← hAe]; exact Or.inr h
  have hS : va_S A s.heap s.heap [] := va_S.rf
  have hl := lv_entry ([.ref (w 0), .int (nI b)]) (n := 2) (Nat.le_of_ble_eq_true rfl)
  rw [lg_entry_eq]
  generalize (lg_sl ([.ref (w 0), .int (nI b)]) ++ List.replicate (2 - (lg_sl ([.ref (w 0), .int (nI b)])).length) Slot.unset).toArray = ls at hl ⊢
  have hl : lv_has ls 2 [(0, .ref (w 0)), (1, .int (nI b))] := hl
  refine lv_aload_n hx hb dR_best_0 rfl (lv_at hl 0 rfl) ?_
  refine lv_iload_n hx hb dR_best_1 rfl (lv_at hl 1 rfl) ?_
  refine lv_if_lt (tgt := 9) hx hb dR_best_2 (by decide) (fun k1 => ?_) (fun k1 => ?_)
  · exact absurd k1 (nI_pos hb9)
  ·
    refine lv_iconst (v := 1) hx hb dR_best_5 (by decide) ?_
    refine lv_goto (tgt := 10) hx hb dR_best_6 (by decide) ?_
    refine callWVi (As := [.int 1]) (rest := []) ⟨hx, hb, hml, hown, hts⟩ tlB (c_R_good1 l dC dI w cI cZ th n C G X D B bu LG LC ch s.heap.size) kw505 kw506 kw14 kw29 kw507 ⟨rfl, rfl⟩ (n := 1) (by decide +kernel) ⟨Nat.le_of_ble_eq_true rfl, Nat.le_of_ble_eq_true rfl⟩ hP hK hD hS (freeA hD hS hA) (ci := 4) (q0 := 0) rfl rfl rfl hl.1 rfl (Nat.le_of_ble_eq_true rfl) ⟨Nat.le_of_ble_eq_true rfl, Nat.le_of_ble_eq_true rfl⟩ dR_best_10 (fun rg H1 locs1 hrg hP1 hD1 hk1 hS1 => ?_)
    have hD := hD1.weaken (fun _ z _ h => (freeA hD hS hA) z.1 h)
    have hP := hP1
    have hS := hS1
    have hrg : rg = 1 := hrg
    subst hrg
    refine lv_if_eq (tgt := 25) hx hb dR_best_13 (by decide) (fun cg => ?_) (fun cg => ?_)
    · exact absurd cg (by decide)
    ·
      refine lv_aload_n hx hb dR_best_16 rfl (lv_at hl 0 rfl) ?_
      refine lv_iload_n hx hb dR_best_17 rfl (lv_at hl 1 rfl) ?_
      refine lv_i2l (v := lN b) hx hb dR_best_18 (nI_l (by omega)) ?_
      refine callRV (As := [.long (lN b)]) (rest := []) ⟨hx, hb, hml, hown, hts⟩ tlB (c_R_bestOf l dC dI w cI cZ 0 n C G X D B bu LG LC ch b hb9 hn hC hG hB hXn hDn) kw558 kw559 kw20 kw29 kw560 ⟨rfl, rfl⟩ (n := 1) (by decide +kernel) ⟨Nat.le_of_ble_eq_true rfl, Nat.le_of_ble_eq_true rfl⟩ (roP_preV hP hK (ci := 4) (q0 := 0) rfl rfl) rfl hl.1 rfl (Nat.le_of_ble_eq_true rfl) ⟨Nat.le_of_ble_eq_true rfl, Nat.le_of_ble_eq_true rfl⟩ dR_best_19 (fun r1 hr1 => ?_)
      refine lv_goto (tgt := 26) hx hb dR_best_22 (by decide) ?_
      exact W.iret (v := r1) hx hb hr (fun t ht hW => ⟨⟨r1, (), rfl, hr1, by rw [ht]; exact hP, va_K.moved hW.alike hK, hD⟩, hS.F ht⟩) hS.2.2 dR_best_26
set_option maxHeartbeats 4000000 in
set_option maxRecDepth 100000 in
theorem c_R_worth_ok (l : Launch) (dC : Nat → ClassId) (dI : Nat → Nat → Nat) (w : Nat → Nat) (cI cZ : ClassId) (th n : Nat) (C G X D : Nat → Nat) (B : Nat → Nat → Int) (bu : Nat → Nat) (LG : Nat → Int) (LC : Nat → Nat) (ch : Nat → Int) (sz : Nat) (b mr : Nat) (hb9 : b + mr ≤ 1000000) (hn : n ≤ 12) (hC : ∀ m, C m ≤ 10000) (hG : ∀ m, G m ≤ 10000) (hB : ∀ i j, -5000 ≤ B i j ∧ B i j ≤ 5000) (hXn : ∀ m j, (X m).testBit j = true → j < n) (hDn : ∀ m j, (D m).testBit j = true → j < n) : Met l yR_worth wdR_worth ({ frames := 3, cells := 0, slots := 0, locals := 74 }) (wrP (dC, dI) mcCl (mcWR w cI cZ th n C G X D B bu LG LC ch) (mcTR cI cZ) sz [.ref (w 0), .int (nI b), .int (nI mr)]) (va_Qi (fun z9 (_ : Unit) => ∃ s1 s2, z9 = iI (mc_gain G B s1 n - mc_gain G B s2 n) ∧ mc_bst n C G X D B (b + mr) (2 ^ n) s1 ∧ mc_bst n C G X D B b (2 ^ n) s2) (fun _ t => va_P (dC, dI) mcCl (mcWR w cI cZ 0 n C G X D B bu LG LC ch) t.heap ∧ va_K (dC, dI) mcCl (mcTR cI cZ) t ∧ va_D (va_A (mcWR w cI cZ th n C G X D B bu LG LC ch) sz) (mcWR w cI cZ 0 n C G X D B bu LG LC ch)) (va_A (mcWR w cI cZ th n C G X D B bu LG LC ch) sz)) 0 0 (va_A (mcWR w cI cZ th n C G X D B bu LG LC ch) sz) := by
  refine Met.ofW (cc := bR_worth) (maxL := 3) (ret := (some FieldType.int)) (by decide) rfl ?_
  intro p e s m args below meth c s₁ BB hml hv
  obtain ⟨rfl, hsz, hP, hK, hD0⟩ := hv
  have hx := BB.exec
  have hb := BB.bytes
  have hr := BB.returns
  have hts := atoms_spec (ws := wdR_worth) BB.pre
  have hown : s.vm.findClass RR = some m.cls := findClass_of_methodNamed BB.named
  have hlocks := BB.notSynchronized
  subst hsz
  have hD := hD0.self (sz := s.heap.size)
  generalize hAe : va_A (mcWR w cI cZ th n C G X D B bu LG LC ch) s.heap.size = A at hD ⊢
  have hA : ∀ q : Nat, s.heap.size ≤ q → A q := fun q h => by rw [← hAe]; exact Or.inr h
  have hS : va_S A s.heap s.heap [] := va_S.rf
  have hl := lv_entry ([.ref (w 0), .int (nI b), .int (nI mr)]) (n := 3) (Nat.le_of_ble_eq_true rfl)
  rw [lg_entry_eq]
  generalize (lg_sl ([.ref (w 0), .int (nI b), .int (nI mr)]) ++ List.replicate (3 - (lg_sl ([.ref (w 0), .int (nI b), .int (nI mr)])).length) Slot.unset).toArray = ls at hl ⊢
  have hl : lv_has ls 3 [(0, .ref (w 0)), (1, .int (nI b)), (2, .int (nI mr))] := hl
  have hp12 : 2 ^ n ≤ 2 ^ 12 := Nat.pow_le_pow_right (by decide) hn
  refine lv_aload_n hx hb dR_worth_0 rfl (lv_at hl 0 rfl) ?_
  refine lv_iload_n hx hb dR_worth_1 rfl (lv_at hl 1 rfl) ?_
  refine lv_if_lt (tgt := 25) hx hb dR_worth_2 (by decide) (fun k1 => ?_) (fun k1 => ?_)
  · exact absurd k1 (nI_pos (by omega))
  ·
    refine lv_iload_n hx hb dR_worth_5 rfl (lv_at hl 2 rfl) ?_
    refine lv_if_lt (tgt := 25) hx hb dR_worth_6 (by decide) (fun k2 => ?_) (fun k2 => ?_)
    · exact absurd k2 (nI_pos (by omega))
    ·
      refine lv_iload_n hx hb dR_worth_9 rfl (lv_at hl 1 rfl) ?_
      refine lv_i2l (v := lN b) hx hb dR_worth_10 (nI_l (by omega)) ?_
      refine lv_iload_n hx hb dR_worth_11 rfl (lv_at hl 2 rfl) ?_
      refine lv_i2l (v := lN mr) hx hb dR_worth_12 (nI_l (by omega)) ?_
      refine lv_ladd hx hb dR_worth_13 ?_
      refine lv_ldc2 (v := 1000000) hx hb hown (hts _ (List.mem_cons_of_mem _ kw569)) dR_worth_14 ?_
      refine W.lcmp hx hb dR_worth_17 ?_
      refine lv_if_gt (tgt := 25) hx hb dR_worth_18 (by decide) (fun cs => ?_) (fun cs => ?_)
      · exact absurd ((lg_cmp_gt _ _).mp cs) (by rw [lN_add]; exact fun h => absurd ((lN_lt (a := 1000000) (b := b + mr) (by omega) (by omega)).mp h) (by omega))
      ·
        refine lv_iconst (v := 1) hx hb dR_worth_21 (by decide) ?_
        refine lv_goto (tgt := 26) hx hb dR_worth_22 (by decide) ?_
        refine callWVi (As := [.int 1]) (rest := []) ⟨hx, hb, hml, hown, hts⟩ tlB (c_R_good1 l dC dI w cI cZ th n C G X D B bu LG LC ch s.heap.size) kw505 kw506 kw14 kw29 kw507 ⟨rfl, rfl⟩ (n := 1) (by decide +kernel) ⟨Nat.le_of_ble_eq_true rfl, Nat.le_of_ble_eq_true rfl⟩ hP hK hD hS (freeA hD hS hA) (ci := 4) (q0 := 0) rfl rfl rfl hl.1 rfl (Nat.le_of_ble_eq_true rfl) ⟨Nat.le_of_ble_eq_true rfl, Nat.le_of_ble_eq_true rfl⟩ dR_worth_26 (fun rg H1 locs1 hrg hP1 hD1 hk1 hS1 => ?_)
        have hD := hD1.weaken (fun _ z _ h => (freeA hD hS hA) z.1 h)
        have hP := hP1
        have hS := hS1
        have hrg : rg = 1 := hrg
        subst hrg
        refine lv_if_ne (tgt := 34) hx hb dR_worth_29 (by decide) (fun cg => ?_) (fun cg => ?_)
        ·
          refine lv_aload_n hx hb dR_worth_34 rfl (lv_at hl 0 rfl) ?_
          refine lv_aload_n hx hb dR_worth_35 rfl (lv_at hl 0 rfl) ?_
          refine lv_iload_n hx hb dR_worth_36 rfl (lv_at hl 1 rfl) ?_
          refine lv_i2l (v := lN b) hx hb dR_worth_37 (nI_l (by omega)) ?_
          refine lv_iload_n hx hb dR_worth_38 rfl (lv_at hl 2 rfl) ?_
          refine lv_i2l (v := lN mr) hx hb dR_worth_39 (nI_l (by omega)) ?_
          refine lv_ladd hx hb dR_worth_40 ?_
          refine W.eq (g2 := F0 m 41 ls [.long (lN (b + mr)), .ref (w 0), .ref (w 0)]) (by rw [lN_add]) ?_
          refine callRV (As := [.long (lN (b + mr))]) (rest := [.ref (w 0)]) ⟨hx, hb, hml, hown, hts⟩ tlB (c_R_bestOf l dC dI w cI cZ 0 n C G X D B bu LG LC ch (b + mr) (by omega) hn hC hG hB hXn hDn) kw558 kw559 kw20 kw29 kw560 ⟨rfl, rfl⟩ (n := 1) (by decide +kernel) ⟨Nat.le_of_ble_eq_true rfl, Nat.le_of_ble_eq_true rfl⟩ (roP_preV hP hK (ci := 4) (q0 := 0) rfl rfl) rfl hl.1 rfl (Nat.le_of_ble_eq_true rfl) ⟨Nat.le_of_ble_eq_true rfl, Nat.le_of_ble_eq_true rfl⟩ dR_worth_41 (fun r1 hr1 => ?_)
          obtain ⟨s1, rfl, hs1⟩ := hr1
          have hs1l := hs1.1
          refine callRV (As := [.int (nI s1)]) (rest := []) ⟨hx, hb, hml, hown, hts⟩ tlB (c_R_gainOf l dC dI w cI cZ 0 n C G X D B bu LG LC ch s1 hn (by omega)) kw547 kw548 kw19 kw29 kw549 ⟨rfl, rfl⟩ (n := 1) (by decide +kernel) ⟨Nat.le_of_ble_eq_true rfl, Nat.le_of_ble_eq_true rfl⟩ (roP_preV hP hK (ci := 4) (q0 := 0) rfl rfl) rfl hl.1 rfl (Nat.le_of_ble_eq_true rfl) ⟨Nat.le_of_ble_eq_true rfl, Nat.le_of_ble_eq_true rfl⟩ dR_worth_44 (fun r2 hr2 => ?_)
          subst hr2
          refine lv_aload_n hx hb dR_worth_47 rfl (lv_at hl 0 rfl) ?_
          refine lv_aload_n hx hb dR_worth_48 rfl (lv_at hl 0 rfl) ?_
          refine lv_iload_n hx hb dR_worth_49 rfl (lv_at hl 1 rfl) ?_
          refine lv_i2l (v := lN b) hx hb dR_worth_50 (nI_l (by omega)) ?_
          refine callRV (As := [.long (lN b)]) (rest := [.ref (w 0), .int (iI (mc_gain G B s1 n))]) ⟨hx, hb, hml, hown, hts⟩ tlB (c_R_bestOf l dC dI w cI cZ 0 n C G X D B bu LG LC ch b (by omega) hn hC hG hB hXn hDn) kw558 kw559 kw20 kw29 kw560 ⟨rfl, rfl⟩ (n := 1) (by decide +kernel) ⟨Nat.le_of_ble_eq_true rfl, Nat.le_of_ble_eq_true rfl⟩ (roP_preV hP hK (ci := 4) (q0 := 0) rfl rfl) rfl hl.1 rfl (Nat.le_of_ble_eq_true rfl) ⟨Nat.le_of_ble_eq_true rfl, Nat.le_of_ble_eq_true rfl⟩ dR_worth_51 (fun r3 hr3 => ?_)
          obtain ⟨s2, rfl, hs2⟩ := hr3
          have hs2l := hs2.1
          refine callRV (As := [.int (nI s2)]) (rest := [.int (iI (mc_gain G B s1 n))]) ⟨hx, hb, hml, hown, hts⟩ tlB (c_R_gainOf l dC dI w cI cZ 0 n C G X D B bu LG LC ch s2 hn (by omega)) kw547 kw548 kw19 kw29 kw549 ⟨rfl, rfl⟩ (n := 1) (by decide +kernel) ⟨Nat.le_of_ble_eq_true rfl, Nat.le_of_ble_eq_true rfl⟩ (roP_preV hP hK (ci := 4) (q0 := 0) rfl rfl) rfl hl.1 rfl (Nat.le_of_ble_eq_true rfl) ⟨Nat.le_of_ble_eq_true rfl, Nat.le_of_ble_eq_true rfl⟩ dR_worth_54 (fun r4 hr4 => ?_)
          subst hr4
          refine lv_isub hx hb dR_worth_57 ?_
          refine lv_topi (fun y3 ey3 => ?_)
          have hy3 : y3 = iI (mc_gain G B s1 n - mc_gain G B s2 n) := by rw [ey3, iI_sub]
          subst hy3
          exact W.iret (v := (iI (mc_gain G B s1 n - mc_gain G B s2 n))) hx hb hr (fun t ht hW => ⟨⟨(iI (mc_gain G B s1 n - mc_gain G B s2 n)), (), rfl, ⟨s1, s2, rfl, hs1, hs2⟩, by rw [ht]; exact hP, va_K.moved hW.alike hK, hD⟩, hS.F ht⟩) hS.2.2 dR_worth_58
        · exact absurd cg (by decide)
set_option maxHeartbeats 4000000 in
set_option maxRecDepth 100000 in
theorem c_R_year_ok (l : Launch) (dC : Nat → ClassId) (dI : Nat → Nat → Nat) (w : Nat → Nat) (cI cZ : ClassId) (th n : Nat) (C G X D : Nat → Nat) (B : Nat → Nat → Int) (bu : Nat → Nat) (LG : Nat → Int) (LC : Nat → Nat) (ch : Nat → Int) (sz : Nat) (y b : Nat) (hy : y < 4) (h1 : 0 ≤ nI y ∧ nI y ≤ 3) (h2 : 0 ≤ nI b ∧ nI b ≤ 100000) : Met l yR_year wdR_year ({ frames := 1, cells := 0, slots := 0, locals := 22 }) (wrP (dC, dI) mcCl (mcWR w cI cZ th n C G X D B bu LG LC ch) (mcTR cI cZ) sz [.ref (w 0), .int (nI y), .int (nI b)]) (va_Qi (fun z9 (_ : Unit) => z9 = nI (bu y)) (fun _ t => va_P (dC, dI) mcCl (mcWR w cI cZ 0 n C G X D B (va_up bu y b) LG LC ch) t.heap ∧ va_K (dC, dI) mcCl (mcTR cI cZ) t ∧ va_D (va_A (mcWR w cI cZ th n C G X D B bu LG LC ch) sz) (mcWR w cI cZ 0 n C G X D B (va_up bu y b) LG LC ch)) (va_A (mcWR w cI cZ th n C G X D B bu LG LC ch) sz)) 0 0 (va_A (mcWR w cI cZ th n C G X D B bu LG LC ch) sz) := by
  refine Met.ofW (cc := bR_year) (maxL := 4) (ret := (some FieldType.int)) (by decide) rfl ?_
  intro p e s m args below meth c s₁ BB hml hv
  obtain ⟨rfl, hsz, hP, hK, hD0⟩ := hv
  have hx := BB.exec
  have hb := BB.bytes
  have hr := BB.returns
  have hts := atoms_spec (ws := wdR_year) BB.pre
  have hown : s.vm.findClass RR = some m.cls := findClass_of_methodNamed BB.named
  have hlocks := BB.notSynchronized
  subst hsz
  have hD := hD0.self (sz := s.heap.size)
  generalize hAe : va_A (mcWR w cI cZ th n C G X D B bu LG LC ch) s.heap.size = A at hD ⊢
  have hA : ∀ q : Nat, s.heap.size ≤ q → A q := fun q h => by rw [← hAe]; exact Or.inr h
  have hS : va_S A s.heap s.heap [] := va_S.rf
  have hl := lv_entry ([.ref (w 0), .int (nI y), .int (nI b)]) (n := 4) (Nat.le_of_ble_eq_true rfl)
  rw [lg_entry_eq]
  generalize (lg_sl ([.ref (w 0), .int (nI y), .int (nI b)]) ++ List.replicate (4 - (lg_sl ([.ref (w 0), .int (nI y), .int (nI b)])).length) Slot.unset).toArray = ls at hl ⊢
  have hl : lv_has ls 4 [(0, .ref (w 0)), (1, .int (nI y)), (2, .int (nI b))] := hl
  refine lv_aload_n hx hb dR_year_0 rfl (lv_at hl 0 rfl) ?_
  refine lv_iload_n hx hb dR_year_1 rfl (lv_at hl 1 rfl) ?_
  refine lv_iconst (v := 0) hx hb dR_year_2 (by decide) ?_
  refine lv_iconst (v := 3) hx hb dR_year_3 (by decide) ?_
  refine callRS (As := [.int (nI y), .int 0, .int 3]) (rest := [.ref (w 0)]) ⟨hx, hb, hml, hown, hts⟩ tlB (c_R_in l (nI y) 0 3) kw502 kw503 kw29 kw504 ⟨rfl, rfl⟩ (n := 3) (by decide +kernel) ⟨Nat.le_of_ble_eq_true rfl, Nat.le_of_ble_eq_true rfl⟩ (nwP_pre) rfl hl.1 rfl (Nat.le_of_ble_eq_true rfl) ⟨Nat.le_of_ble_eq_true rfl, Nat.le_of_ble_eq_true rfl⟩ dR_year_4 (fun r2 hr2 => ?_)
  refine lv_if_eq (tgt := 24) hx hb dR_year_7 (by decide) (fun k1 => ?_) (fun k1 => ?_)
  · exact absurd h1 (mcZ_f hr2 k1)
  ·
    refine lv_iload_n hx hb dR_year_10 rfl (lv_at hl 2 rfl) ?_
    refine lv_iconst (v := 0) hx hb dR_year_11 (by decide) ?_
    refine lv_ldc (v := 100000) hx hb hown (hts _ (List.mem_cons_of_mem _ kw581)) dR_year_12 ?_
    refine callRS (As := [.int (nI b), .int 0, .int 100000]) (rest := [.ref (w 0)]) ⟨hx, hb, hml, hown, hts⟩ tlB (c_R_in l (nI b) 0 100000) kw502 kw503 kw29 kw504 ⟨rfl, rfl⟩ (n := 3) (by decide +kernel) ⟨Nat.le_of_ble_eq_true rfl, Nat.le_of_ble_eq_true rfl⟩ (nwP_pre) rfl hl.1 rfl (Nat.le_of_ble_eq_true rfl) ⟨Nat.le_of_ble_eq_true rfl, Nat.le_of_ble_eq_true rfl⟩ dR_year_14 (fun r4 hr4 => ?_)
    refine lv_if_eq (tgt := 24) hx hb dR_year_17 (by decide) (fun k3 => ?_) (fun k3 => ?_)
    · exact absurd h2 (mcZ_f hr4 k3)
    ·
      refine lv_iconst (v := 1) hx hb dR_year_20 (by decide) ?_
      refine lv_goto (tgt := 25) hx hb dR_year_21 (by decide) ?_
      refine callWVi (As := [.int 1]) (rest := []) ⟨hx, hb, hml, hown, hts⟩ tlB (c_R_good1 l dC dI w cI cZ th n C G X D B bu LG LC ch s.heap.size) kw505 kw506 kw14 kw29 kw507 ⟨rfl, rfl⟩ (n := 1) (by decide +kernel) ⟨Nat.le_of_ble_eq_true rfl, Nat.le_of_ble_eq_true rfl⟩ hP hK hD hS (freeA hD hS hA) (ci := 4) (q0 := 0) rfl rfl rfl hl.1 rfl (Nat.le_of_ble_eq_true rfl) ⟨Nat.le_of_ble_eq_true rfl, Nat.le_of_ble_eq_true rfl⟩ dR_year_25 (fun rg H1 locs1 hrg hP1 hD1 hk1 hS1 => ?_)
      have hD := hD1.weaken (fun _ z _ h => (freeA hD hS hA) z.1 h)
      have hP := hP1
      have hS := hS1
      have hrg : rg = 1 := hrg
      subst hrg
      refine lv_if_ne (tgt := 33) hx hb dR_year_28 (by decide) (fun cg => ?_) (fun cg => ?_)
      ·
        refine lv_aload_n hx hb dR_year_33 rfl (lv_at hl 0 rfl) ?_
        refine va_get (D := (dC, dI)) (ci := 4) (C := RR) (T := FR) (N := 11) hx hb hts (fun w h => List.mem_cons_of_mem _ (inR w h)) hown hK hP 0 rfl rfl 7 (by decide) (hts _ (List.mem_cons_of_mem _ kw466)) (fun _ h9 => h9) rfl dR_year_34 ?_
        refine lv_iload_n hx hb dR_year_37 rfl (lv_at hl 1 rfl) ?_
        refine ialdN hx hb hK hP 6 0 rfl rfl (k := y) hy (by decide) (v := nI (bu y)) rfl dR_year_38 ?_
        refine lv_istore_n (lv' := [(3, .int (nI (bu y))), (0, .ref (w 0)), (1, .int (nI y)), (2, .int (nI b))]) hx hb dR_year_39 rfl hl (by decide) rfl (fun ls hl => ?_)
        refine lv_aload_n hx hb dR_year_40 rfl (lv_at hl 1 rfl) ?_
        refine va_get (D := (dC, dI)) (ci := 4) (C := RR) (T := FR) (N := 11) hx hb hts (fun w h => List.mem_cons_of_mem _ (inR w h)) hown hK hP 0 rfl rfl 7 (by decide) (hts _ (List.mem_cons_of_mem _ kw466)) (fun _ h9 => h9) rfl dR_year_41 ?_
        refine lv_iload_n hx hb dR_year_44 rfl (lv_at hl 2 rfl) ?_
        refine lv_iload_n hx hb dR_year_45 rfl (lv_at hl 3 rfl) ?_
        refine iastN hx hb hK hP hD hS 6 0 rfl rfl (k := y) hy (by decide) (x := nI b) (fun j => nI (va_up bu y b j)) (fun j => by simp only [va_up]; split <;> rfl) (ws' := mcWR w cI cZ 0 n C G X D B (va_up bu y b) LG LC ch) (rfl) dR_year_46 (fun H locs hP hD hS => ?_)
        refine lv_iload_n hx hb dR_year_47 rfl (lv_at hl 0 rfl) ?_
        exact W.iret (v := (nI (bu y))) hx hb hr (fun t ht hW => ⟨⟨(nI (bu y)), (), rfl, rfl, by rw [ht]; exact hP, va_K.moved hW.alike hK, hD⟩, hS.F ht⟩) hS.2.2 dR_year_48
      · exact absurd cg (by decide)
