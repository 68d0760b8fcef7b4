/-! the ladder: addSteps, the merge in one row -/
set_option maxHeartbeats 4000000 in
set_option maxRecDepth 100000 in
theorem c_A_addSteps (l : Launch) (dC : Nat → ClassId) (dI : Nat → Nat → Nat) (q : Nat → Nat) (cI cG : ClassId) (rg : Nat) (ver : Int) (st : Nat → Nat) (gn : Nat → Int) (sz : Nat) (N ad : Nat) (hN0 : 0 < N) (hN : N ≤ 2048) (had : 0 < ad) (ho : ∀ i j, i < j → j < N → st i < st j) (hne : ∀ i j, i < N → j < N → st i + ad ≠ st j) (hbd : ∀ i, i < N → st i + ad < 2 ^ 31) : Met l yA_addSteps wdA_addSteps ({ frames := 0, cells := 0, slots := 0, locals := 0 }) (wrP (dC, dI) mcCl (mcWA q cI rg ver st gn) (mcTH cI cG) sz [.ref (q 0), .int (nI N), .int (nI ad)]) (va_Qv (fun g : Nat → Nat => ∃ p, mc_mrg N ad p 0 st g) (fun g t => va_P (dC, dI) mcCl (mcWA q cI rg ver g gn) t.heap ∧ va_K (dC, dI) mcCl (mcTH cI cG) t ∧ va_D (va_A (mcWA q cI rg ver st gn) sz) (mcWA q cI rg ver g gn)) (va_A (mcWA q cI rg ver st gn) sz)) 0 0 (va_A (mcWA q cI rg ver st gn) sz) := by
  refine Met.ofW (cc := bA_addSteps) (maxL := 7) (ret := none) (by decide) rfl ?_
  intro p e s m args below meth c s₁ BB hml hv
  obtain ⟨rfl, hsz, hP, hK, hD0⟩ := hv
  have hx := BB.exec
  have hb := BB.bytes
  have hr := BB.returns
  have hts := atoms_spec (ws := wdA_addSteps) BB.pre
  have hown : s.vm.findClass RA = some m.cls := findClass_of_methodNamed BB.named
  have hlocks := BB.notSynchronized
  subst hsz
  have hD := hD0.self (sz := s.heap.size)
  generalize hAe : va_A (mcWA q cI rg ver st gn) s.heap.size = A at hD ⊢
  have hA : ∀ q : Nat, s.heap.size ≤ q → A q := fun q h => by rw [← hAe]; exact Or.inr h
  have hS : va_S A s.heap s.heap [] := va_S.rf
  have hl := lv_entry ([.ref (q 0), .int (nI N), .int (nI ad)]) (n := 7) (Nat.le_of_ble_eq_true rfl)
  rw [lg_entry_eq]
  generalize (lg_sl ([.ref (q 0), .int (nI N), .int (nI ad)]) ++ List.replicate (7 - (lg_sl ([.ref (q 0), .int (nI N), .int (nI ad)])).length) Slot.unset).toArray = ls at hl ⊢
  have hl : lv_has ls 7 [(0, .ref (q 0)), (1, .int (nI N)), (2, .int (nI ad))] := hl
  refine lv_iload_n hx hb dA_addSteps_0 rfl (lv_at hl 1 rfl) ?_
  refine lv_iconst (v := 1) hx hb dA_addSteps_1 (by decide) ?_
  refine lv_isub hx hb dA_addSteps_2 ?_
  refine lv_topi (fun y1 ey1 => ?_)
  have hy1 : y1 = iI ((N : Int) - 1) := by rw [ey1, ← iI_nat, show (1 : Int32) = iI 1 from rfl, iI_sub]
  subst hy1
  refine lv_istore_n (lv' := [(3, .int (iI ((N : Int) - 1))), (0, .ref (q 0)), (1, .int (nI N)), (2, .int (nI ad))]) hx hb dA_addSteps_3 rfl hl (by decide) rfl (fun ls hl => ?_)
  refine lv_iload_n hx hb dA_addSteps_4 rfl (lv_at hl 2 rfl) ?_
  refine lv_iconst (v := 1) hx hb dA_addSteps_5 (by decide) ?_
  refine lv_isub hx hb dA_addSteps_6 ?_
  refine lv_topi (fun y2 ey2 => ?_)
  have hy2 : y2 = iI ((N : Int) - 1) := by rw [ey2, ← iI_nat, show (1 : Int32) = iI 1 from rfl, iI_sub]
  subst hy2
  refine lv_istore (lv' := [(4, .int (iI ((N : Int) - 1))), (3, .int (iI ((N : Int) - 1))), (0, .ref (q 0)), (1, .int (nI N)), (2, .int (nI ad))]) hx hb dA_addSteps_7 hl (by decide) rfl (fun ls hl => ?_)
  refine lv_iconst (v := 2) hx hb dA_addSteps_9 (by decide) ?_
  refine lv_iload_n hx hb dA_addSteps_10 rfl (lv_at hl 3 rfl) ?_
  refine lv_imul hx hb dA_addSteps_11 ?_
  refine lv_iconst (v := 1) hx hb dA_addSteps_12 (by decide) ?_
  refine lv_isub hx hb dA_addSteps_13 ?_
  refine lv_topi (fun y3 ey3 => ?_)
  have hy3 : y3 = iI ((N : Int) + (N : Int) - 1) := by rw [ey3, show (2 : Int32) = nI 2 from rfl, pk_mul, ← iI_nat, show (1 : Int32) = iI 1 from rfl, iI_sub]; congr 1; omega
  subst hy3
  refine lv_istore (lv' := [(5, .int (iI ((N : Int) + (N : Int) - 1))), (4, .int (iI ((N : Int) - 1))), (3, .int (iI ((N : Int) - 1))), (0, .ref (q 0)), (1, .int (nI N)), (2, .int (nI ad))]) hx hb dA_addSteps_14 hl (by decide) rfl (fun ls hl => ?_)
  refine lpW (σ := Nat × Nat × (Nat → Nat)) (fun x H locs => mc_mrg N ad x.1 x.2.1 st x.2.2 ∧ va_P (dC, dI) mcCl (mcWA q cI rg ver x.2.2 gn) H ∧ va_D A (mcWA q cI rg ver x.2.2 gn) ∧ va_S A s.heap H locs) (fun x => [(0, .ref (q 0)), (1, .int (nI N)), (2, .int (nI ad)), (3, .int (iI ((x.1 : Int) - 1))), (4, .int (iI ((x.2.1 : Int) - 1))), (5, .int (iI ((x.1 : Int) + (x.2.1 : Int) - 1)))]) (fun x => x.1 + x.2.1) (fun x H locs ls hI hl ih => ?_) ((N, N, st)) _ _ ls (⟨mc_mrg_0, hP, hD, hS⟩) (lv_sub hl [3, 4, 5, 2, 1, 0] rfl)
  obtain ⟨pp, rr, g⟩ := x
  have hl : lv_has ls 7 [(0, .ref (q 0)), (1, .int (nI N)), (2, .int (nI ad)), (3, .int (iI ((pp : Int) - 1))), (4, .int (iI ((rr : Int) - 1))), (5, .int (iI ((pp : Int) + (rr : Int) - 1)))] := hl
  obtain ⟨hM, hP, hD, hS⟩ := hI
  dsimp only at hM hP hD
  have hM9 := hM
  obtain ⟨m1, m2, m3, m4, -⟩ := hM9
  refine lv_iload hx hb dA_addSteps_16 (lv_at hl 5 rfl) ?_
  refine lv_if_lt (tgt := 89) hx hb dA_addSteps_18 (by decide) (fun c0 => ?_) (fun c0 => ?_)
  · have hr0 : rr = 0 := by
      rw [show (0 : Int32) = iI 0 from rfl, iI_lt (by omega) (by omega) (by omega) (by omega)] at c0
      omega
    subst hr0
    exact W.vret hx hb hr (fun t ht hW => ⟨⟨g, rfl, ⟨pp, hM⟩, by rw [ht]; exact hP, va_K.moved hW.alike hK, hD⟩, hS.F ht⟩) hS.2.2 dA_addSteps_89
  ·
    refine lv_iload hx hb dA_addSteps_21 (lv_at hl 4 rfl) ?_
    refine lv_if_lt (tgt := 89) hx hb dA_addSteps_23 (by decide) (fun c1 => ?_) (fun c1 => ?_)
    · have hr0 : rr = 0 := by
        rw [show (0 : Int32) = iI 0 from rfl, iI_lt (by omega) (by omega) (by omega) (by omega)] at c1
        omega
      subst hr0
      exact W.vret hx hb hr (fun t ht hW => ⟨⟨g, rfl, ⟨pp, hM⟩, by rw [ht]; exact hP, va_K.moved hW.alike hK, hD⟩, hS.F ht⟩) hS.2.2 dA_addSteps_89
    · have hr0 : 0 < rr := by
        rcases Nat.eq_zero_or_pos rr with z | z
        · exact absurd (by rw [z]; decide) c1
        · exact z
      refine lv_iload_n hx hb dA_addSteps_26 rfl (lv_at hl 3 rfl) ?_
      refine lv_if_lt (tgt := 89) hx hb dA_addSteps_27 (by decide) (fun c2 => ?_) (fun c2 => ?_)
      · rw [show (0 : Int32) = iI 0 from rfl, iI_lt (by omega) (by omega) (by omega) (by omega)] at c2
        omega
      ·
        obtain ⟨r, rfl⟩ : ∃ r, rr = r + 1 := ⟨rr - 1, by omega⟩
        obtain ⟨p9, rfl⟩ : ∃ p9, pp = p9 + 1 := ⟨pp - 1, by omega⟩
        have e3 : iI (((p9 + 1 : Nat) : Int) - 1) = nI p9 := by rw [← iI_nat]; congr 1; omega
        have e4 : iI (((r + 1 : Nat) : Int) - 1) = nI r := by rw [← iI_nat]; congr 1; omega
        have e5 : iI (((p9 + 1 : Nat) : Int) + ((r + 1 : Nat) : Int) - 1) = nI (p9 + 1 + r) := by rw [← iI_nat]; congr 1; omega
        rw [e3, e4, e5] at hl
        have hl : lv_has ls 7 [(0, .ref (q 0)), (1, .int (nI N)), (2, .int (nI ad)), (3, .int (nI p9)), (4, .int (nI r)), (5, .int (nI (p9 + 1 + r)))] := hl
        have hgr : g r = st r := m4 r (by omega)
        have hgp : g p9 = st p9 := m4 p9 (by omega)
        have hb1 := hbd r (by omega)
        have hb2 := hbd p9 (by omega)
        refine lv_aload_n hx hb dA_addSteps_30 rfl (lv_at hl 0 rfl) ?_
        refine va_get (D := (dC, dI)) (ci := 1) (C := RA) (T := FA) (N := 4) hx hb hts (fun w h => List.mem_cons_of_mem _ (inA w h)) hown hK hP 0 rfl rfl 2 (by decide) (hts _ (List.mem_cons_of_mem _ kw91)) (fun _ h9 => h9) rfl dA_addSteps_31 ?_
        refine lv_iload hx hb dA_addSteps_34 (lv_at hl 4 rfl) ?_
        refine ialdN hx hb hK hP 1 0 rfl rfl (k := r) (by omega) (by decide) (v := nI (st r)) (by rw [hgr]) dA_addSteps_36 ?_
        refine lv_iload_n hx hb dA_addSteps_37 rfl (lv_at hl 2 rfl) ?_
        refine lv_iadd hx hb dA_addSteps_38 ?_
        refine lv_topi (fun y4 ey4 => ?_)
        have hy4 : y4 = nI (st r + ad) := by rw [ey4, nI_add]
        subst hy4
        refine lv_istore (lv' := [(6, .int (nI (st r + ad))), (0, .ref (q 0)), (1, .int (nI N)), (2, .int (nI ad)), (3, .int (nI p9)), (4, .int (nI r)), (5, .int (nI (p9 + 1 + r)))]) hx hb dA_addSteps_39 hl (by decide) rfl (fun ls hl => ?_)
        refine lv_iload hx hb dA_addSteps_41 (lv_at hl 0 rfl) ?_
        refine lv_aload_n hx hb dA_addSteps_43 rfl (lv_at hl 1 rfl) ?_
        refine va_get (D := (dC, dI)) (ci := 1) (C := RA) (T := FA) (N := 4) hx hb hts (fun w h => List.mem_cons_of_mem _ (inA w h)) hown hK hP 0 rfl rfl 2 (by decide) (hts _ (List.mem_cons_of_mem _ kw91)) (fun _ h9 => h9) rfl dA_addSteps_44 ?_
        refine lv_iload_n hx hb dA_addSteps_47 rfl (lv_at hl 4 rfl) ?_
        refine ialdN hx hb hK hP 1 0 rfl rfl (k := p9) (by omega) (by decide) (v := nI (st p9)) (by rw [hgp]) dA_addSteps_48 ?_
        refine lv_icmp_le (tgt := 67) hx hb dA_addSteps_49 (by decide) (fun c3 => ?_) (fun c3 => ?_)
        · have c3 : ¬ st p9 < st r + ad := by
            have := (nI_leI (by omega) (by omega)).mp c3
            omega
          refine lv_aload_n hx hb dA_addSteps_67 rfl (lv_at hl 1 rfl) ?_
          refine va_get (D := (dC, dI)) (ci := 1) (C := RA) (T := FA) (N := 4) hx hb hts (fun w h => List.mem_cons_of_mem _ (inA w h)) hown hK hP 0 rfl rfl 2 (by decide) (hts _ (List.mem_cons_of_mem _ kw91)) (fun _ h9 => h9) rfl dA_addSteps_68 ?_
          refine lv_iload hx hb dA_addSteps_71 (lv_at hl 6 rfl) ?_
          refine lv_aload_n hx hb dA_addSteps_73 rfl (lv_at hl 1 rfl) ?_
          refine va_get (D := (dC, dI)) (ci := 1) (C := RA) (T := FA) (N := 4) hx hb hts (fun w h => List.mem_cons_of_mem _ (inA w h)) hown hK hP 0 rfl rfl 2 (by decide) (hts _ (List.mem_cons_of_mem _ kw91)) (fun _ h9 => h9) rfl dA_addSteps_74 ?_
          refine lv_iload_n hx hb dA_addSteps_77 rfl (lv_at hl 4 rfl) ?_
          refine ialdN hx hb hK hP 1 0 rfl rfl (k := p9) (by omega) (by decide) (v := nI (st p9)) (by rw [hgp]) dA_addSteps_78 ?_
          refine iastN hx hb hK hP hD hS 1 0 rfl rfl (k := (p9 + 1 + r)) (by omega) (by decide) (x := nI (st p9)) (fun j => nI (va_up g (p9 + 1 + r) (st p9) j)) (fun j => by simp only [va_up]; split <;> rfl) (ws' := mcWA q cI rg ver (va_up g (p9 + 1 + r) (st p9)) gn) (rfl) dA_addSteps_79 (fun H locs hP hD hS => ?_)
          refine lv_iinc (v := (iI ((p9 : Int) - 1))) (lv' := [(3, .int (iI ((p9 : Int) - 1))), (6, .int (nI (st r + ad))), (0, .ref (q 0)), (1, .int (nI N)), (2, .int (nI ad)), (4, .int (nI r)), (5, .int (nI (p9 + 1 + r)))]) hx hb dA_addSteps_80 hl (k := 4) rfl (by rw [← iI_nat, show Int32.ofInt (-1) = iI (-1) from rfl, iI_add]; rfl) (by decide) rfl (fun ls hl => ?_)
          refine lv_iinc (v := (iI ((p9 : Int) + ((r + 1 : Nat) : Int) - 1))) (lv' := [(5, .int (iI ((p9 : Int) + ((r + 1 : Nat) : Int) - 1))), (3, .int (iI ((p9 : Int) - 1))), (6, .int (nI (st r + ad))), (0, .ref (q 0)), (1, .int (nI N)), (2, .int (nI ad)), (4, .int (nI r))]) hx hb dA_addSteps_83 hl (k := 6) rfl (by rw [← iI_nat, show Int32.ofInt (-1) = iI (-1) from rfl, iI_add]; congr 1; omega) (by decide) rfl (fun ls hl => ?_)
          refine lv_goto (tgt := 16) hx hb dA_addSteps_86 (by decide) ?_
          have hl9 := lv_sub (l' := [(0, .ref (q 0)), (1, .int (nI N)), (2, .int (nI ad)), (3, .int (iI ((p9 : Int) - 1))), (4, .int (nI r)), (5, .int (iI ((p9 : Int) + ((r + 1 : Nat) : Int) - 1)))]) hl [3, 4, 5, 1, 6, 0] rfl
          rw [← e4] at hl9
          exact ih (p9, r + 1, va_up g (p9 + 1 + r) (st p9)) H locs ls ⟨mc_mrg_p ho had hne hM c3 (fun i hi => by simp only [va_up]; rw [if_neg (by omega)]) (by simp only [va_up]; rw [if_pos (by omega)]), hP, hD, hS⟩ (by dsimp only; omega) hl9
        · have c3 : st p9 < st r + ad := by
            rcases Nat.lt_or_ge (st p9) (st r + ad) with z | z
            · exact z
            · exact absurd ((nI_leI (by omega) (by omega)).mpr z) c3
          refine lv_aload_n hx hb dA_addSteps_52 rfl (lv_at hl 1 rfl) ?_
          refine va_get (D := (dC, dI)) (ci := 1) (C := RA) (T := FA) (N := 4) hx hb hts (fun w h => List.mem_cons_of_mem _ (inA w h)) hown hK hP 0 rfl rfl 2 (by decide) (hts _ (List.mem_cons_of_mem _ kw91)) (fun _ h9 => h9) rfl dA_addSteps_53 ?_
          refine lv_iload hx hb dA_addSteps_56 (lv_at hl 6 rfl) ?_
          refine lv_iload hx hb dA_addSteps_58 (lv_at hl 0 rfl) ?_
          refine iastN hx hb hK hP hD hS 1 0 rfl rfl (k := (p9 + 1 + r)) (by omega) (by decide) (x := nI (st r + ad)) (fun j => nI (va_up g (p9 + 1 + r) (st r + ad) j)) (fun j => by simp only [va_up]; split <;> rfl) (ws' := mcWA q cI rg ver (va_up g (p9 + 1 + r) (st r + ad)) gn) (rfl) dA_addSteps_60 (fun H locs hP hD hS => ?_)
          refine lv_iinc (v := (iI ((r : Int) - 1))) (lv' := [(4, .int (iI ((r : Int) - 1))), (6, .int (nI (st r + ad))), (0, .ref (q 0)), (1, .int (nI N)), (2, .int (nI ad)), (3, .int (nI p9)), (5, .int (nI (p9 + 1 + r)))]) hx hb dA_addSteps_61 hl (k := 5) rfl (by rw [← iI_nat, show Int32.ofInt (-1) = iI (-1) from rfl, iI_add]; rfl) (by decide) rfl (fun ls hl => ?_)
          refine lv_goto (tgt := 83) hx hb dA_addSteps_64 (by decide) ?_
          refine lv_iinc (v := (iI (((p9 + 1 : Nat) : Int) + (r : Int) - 1))) (lv' := [(5, .int (iI (((p9 + 1 : Nat) : Int) + (r : Int) - 1))), (4, .int (iI ((r : Int) - 1))), (6, .int (nI (st r + ad))), (0, .ref (q 0)), (1, .int (nI N)), (2, .int (nI ad)), (3, .int (nI p9))]) hx hb dA_addSteps_83 hl (k := 6) rfl (by rw [← iI_nat, show Int32.ofInt (-1) = iI (-1) from rfl, iI_add]; congr 1) (by decide) rfl (fun ls hl => ?_)
          refine lv_goto (tgt := 16) hx hb dA_addSteps_86 (by decide) ?_
          have hl9 := lv_sub (l' := [(0, .ref (q 0)), (1, .int (nI N)), (2, .int (nI ad)), (3, .int (nI p9)), (4, .int (iI ((r : Int) - 1))), (5, .int (iI (((p9 + 1 : Nat) : Int) + (r : Int) - 1)))]) hl [3, 4, 5, 6, 1, 0] rfl
          rw [← e3] at hl9
          exact ih (p9 + 1, r, va_up g (p9 + 1 + r) (st r + ad)) H locs ls ⟨mc_mrg_r ho hM (by omega) (by rw [Nat.add_sub_cancel]; exact c3) (fun i hi => by simp only [va_up]; rw [if_neg hi]) (by simp [va_up]), hP, hD, hS⟩ (by dsimp only; omega) hl9
