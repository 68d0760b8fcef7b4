/-! the ladder: keepUnbeaten -/
set_option maxHeartbeats 4000000 in
set_option maxRecDepth 100000 in
theorem c_A_keepUnbeaten (l : Launch) (dC : Nat → ClassId) (dI : Nat → Nat → Nat) (q a : Nat → Nat) (cI cG : ClassId) (rg : Nat) (ver : Int) (st : Nat → Nat) (gn : Nat → Int) (n v : Nat) (C G X D : Nat → Nat) (B : Nat → Nat → Int) (sz : Nat) (hn : n ≤ 12) (hC : ∀ m, C m ≤ 10000) (hG : ∀ m, G m ≤ 10000) (hB : ∀ i j, -5000 ≤ B i j ∧ B i j ≤ 5000) (hX : ∀ m, X m < 4096) (hDD : ∀ m, D m < 4096) (ho : mc_ord (2 ^ n) (mc_K C n) st) (hgn : ∀ S, S < 2 ^ n → gn S = mc_gain G B S n) : Met l yA_keepUnbeaten wdA_keepUnbeaten ({ frames := 2, cells := 0, slots := 0, locals := 43 }) (wrP (dC, dI) mcCl (mcWA q cI rg ver st gn ++ mcWH a cI cG n v C G X D B) (mcTH cI cG) sz [.ref (q 0), .ref (a 0)]) (va_Qv (fun x : Nat × (Nat → Nat) => mc_Lad n C G X D B x.1 x.2) (fun x t => va_P (dC, dI) mcCl (mcWA q cI x.1 ver x.2 gn ++ mcWH a cI cG n v C G X D B) t.heap ∧ va_K (dC, dI) mcCl (mcTH cI cG) t ∧ va_D (va_A (mcWA q cI rg ver st gn ++ mcWH a cI cG n v C G X D B) sz) (mcWA q cI x.1 ver x.2 gn ++ mcWH a cI cG n v C G X D B)) (va_A (mcWA q cI rg ver st gn ++ mcWH a cI cG n v C G X D B) sz)) 0 0 (va_A (mcWA q cI rg ver st gn ++ mcWH a cI cG n v C G X D B) sz) := by
  refine Met.ofW (cc := bA_keepUnbeaten) (maxL := 4) (ret := none) (by decide) rfl ?_
  intro p e s m args below meth c s₁ BB hml hv
  obtain ⟨rfl, hsz, hP, hK, hD0⟩ := hv
  have hx := BB.exec
  have hb := BB.bytes
  have hr := BB.returns
  have hts := atoms_spec (ws := wdA_keepUnbeaten) BB.pre
  have hown : s.vm.findClass RA = some m.cls := findClass_of_methodNamed BB.named
  have hlocks := BB.notSynchronized
  subst hsz
  have hD := hD0.self (sz := s.heap.size)
  generalize hAe : va_A (mcWA q cI rg ver st gn ++ mcWH a cI cG n v C G X D B) s.heap.size = A at hD ⊢
  have hA : ∀ q : Nat, s.heap.size ≤ q → A q := fun q h => by rw [← hAe]; exact Or.inr h
  have hS : va_S A s.heap s.heap [] := va_S.rf
  have hl := lv_entry ([.ref (q 0), .ref (a 0)]) (n := 4) (Nat.le_of_ble_eq_true rfl)
  rw [lg_entry_eq]
  generalize (lg_sl ([.ref (q 0), .ref (a 0)]) ++ List.replicate (4 - (lg_sl ([.ref (q 0), .ref (a 0)])).length) Slot.unset).toArray = ls at hl ⊢
  have hl : lv_has ls 4 [(0, .ref (q 0)), (1, .ref (a 0))] := hl
  have hp12 : 2 ^ n ≤ 2 ^ 12 := Nat.pow_le_pow_right (by decide) hn
  refine lv_aload_n hx hb dA_keepUnbeaten_0 rfl (lv_at hl 0 rfl) ?_
  refine lv_iconst (v := 1) hx hb dA_keepUnbeaten_1 (by decide) ?_
  refine lv_topi (fun y9 ey9 => ?_)
  have hy9 : y9 = nI 1 := ey9
  subst hy9
  refine va_put (D := (dC, dI)) (ci := 1) (ty := .int) (C := RA) (T := FA) (N := 4) hx hb hts (fun w h => List.mem_cons_of_mem _ (inA w h)) tA tA_ok nA hown hK hP hD hS 0 rfl rfl 0 (by decide) (hts _ (List.mem_cons_of_mem _ kw88)) (fun _ h9 => h9) rfl (by decide +kernel) rfl rfl (Nat.le_of_ble_eq_true rfl) dA_keepUnbeaten_2 (fun H locs hP hD hS => ?_)
  have hP : va_P (dC, dI) mcCl (mcWA q cI 1 ver st gn ++ mcWH a cI cG n v C G X D B) H := hP
  have hD : va_D A (mcWA q cI 1 ver st gn ++ mcWH a cI cG n v C G X D B) := hD
  refine lv_iconst (v := 1) hx hb dA_keepUnbeaten_5 (by decide) ?_
  refine lv_istore_n (lv' := [(2, .int 1), (0, .ref (q 0)), (1, .ref (a 0))]) hx hb dA_keepUnbeaten_6 rfl hl (by decide) rfl (fun ls hl => ?_)
  refine lpW (σ := Nat × Nat × (Nat → Nat)) (fun x H locs => mc_keep n C G X D B st x.1 x.2.1 x.2.2 ∧ va_P (dC, dI) mcCl (mcWA q cI x.2.1 ver x.2.2 gn ++ mcWH a cI cG n v C G X D B) H ∧ va_D A (mcWA q cI x.2.1 ver x.2.2 gn ++ mcWH a cI cG n v C G X D B) ∧ va_S A s.heap H locs) (fun x => [(0, .ref (q 0)), (1, .ref (a 0)), (2, .int (nI x.1))]) (fun x => 2 ^ n - x.1) (fun x H locs ls hI hl ih => ?_) ((1, 1, st)) _ _ ls (⟨mc_keep_0 hn ho, hP, hD, hS⟩) (lv_sub hl [1, 2, 0] rfl)
  obtain ⟨k, R, f⟩ := x
  have hl : lv_has ls 4 [(0, .ref (q 0)), (1, .ref (a 0)), (2, .int (nI k))] := hl
  obtain ⟨hk, hP, hD, hS⟩ := hI
  dsimp only at hk hP hD
  have hk9 := hk
  obtain ⟨k1, k2, k3, k4, -, k6, k7⟩ := hk9
  refine lv_iload_n hx hb dA_keepUnbeaten_7 rfl (lv_at hl 2 rfl) ?_
  refine lv_iconst (v := 1) hx hb dA_keepUnbeaten_8 (by decide) ?_
  refine lv_aload_n hx hb dA_keepUnbeaten_9 rfl (lv_at hl 1 rfl) ?_
  refine va_get (D := (dC, dI)) (ci := 0) (C := RH) (T := FH) (N := 7) hx hb hts (fun w h => List.mem_cons_of_mem _ (inH w h)) hown hK hP 3 rfl rfl 0 (by decide) (hts _ (List.mem_cons_of_mem _ kw53)) (fun _ h9 => h9) rfl dA_keepUnbeaten_10 ?_
  refine lv_ishl hx hb dA_keepUnbeaten_13 ?_
  refine lv_topi (fun y1 ey1 => ?_)
  have hy1 : y1 = nI (2 ^ n) := by rw [ey1, nI_bit (by omega)]
  subst hy1
  refine lv_icmp_ge (tgt := 101) hx hb dA_keepUnbeaten_14 (by decide) (fun c1 => ?_) (fun c1 => ?_)
  · have hkn : k = 2 ^ n := by have := (nI_leI (by omega) (by omega)).mp c1; omega
    rw [hkn] at hk
    exact W.vret hx hb hr (fun t ht hW => ⟨⟨(R, f), rfl, (mc_keep_end ho hk), by rw [ht]; exact hP, va_K.moved hW.alike hK, hD⟩, hS.F ht⟩) hS.2.2 dA_keepUnbeaten_101
  · have hkn : k < 2 ^ n := by
      rcases Nat.lt_or_ge k (2 ^ n) with z | z
      · exact z
      · exact absurd (nI_le z (by omega)) c1
    obtain ⟨t1, t2⟩ := mc_keep_T hn ho hkn
    have hfk : f k = st k := k7 k (Nat.le_refl _) hkn
    have htl := mc_keep_tl hk
    have htop := k6 (R - 1) (by omega)
    have hb1 : f k < 2 ^ 31 := by rw [hfk, t2]; have := mc_K_lt (n := n) (S := st k % 4096) hC hn (by omega); omega
    have hb2 : f (R - 1) < 2 ^ 31 := by rw [htop]; have := mc_K_lt (n := n) (S := f (R - 1) % 4096) hC hn (by omega); omega
    refine lv_aload_n hx hb dA_keepUnbeaten_17 rfl (lv_at hl 0 rfl) ?_
    refine lv_iload_n hx hb dA_keepUnbeaten_18 rfl (lv_at hl 2 rfl) ?_
    refine callRV (As := [.int (nI k)]) (rest := []) ⟨hx, hb, hml, hown, hts⟩ tlB (c_A_setAt l dC dI q cI cG R ver f gn k (by omega) hb1) kw159 kw160 kw161 kw27 kw162 ⟨rfl, rfl⟩ (n := 1) (by decide +kernel) ⟨Nat.le_of_ble_eq_true rfl, Nat.le_of_ble_eq_true rfl⟩ (roP_preV hP.lft hK (ci := 1) (q0 := 0) rfl rfl) rfl hl.1 rfl (Nat.le_of_ble_eq_true rfl) ⟨Nat.le_of_ble_eq_true rfl, Nat.le_of_ble_eq_true rfl⟩ dA_keepUnbeaten_19 (fun r1 hr1 => ?_)
    have hr1 : r1 = nI (st k % 4096) := by rw [hr1, hfk]
    subst hr1
    refine lv_istore_n (lv' := [(3, .int (nI (st k % 4096))), (0, .ref (q 0)), (1, .ref (a 0)), (2, .int (nI k))]) hx hb dA_keepUnbeaten_22 rfl hl (by decide) rfl (fun ls hl => ?_)
    refine lv_aload_n hx hb dA_keepUnbeaten_23 rfl (lv_at hl 1 rfl) ?_
    refine va_get (D := (dC, dI)) (ci := 1) (C := RA) (T := FA) (N := 4) hx hb hts (fun w h => List.mem_cons_of_mem _ (inA w h)) hown hK hP 0 rfl rfl 3 (by decide) (hts _ (List.mem_cons_of_mem _ kw92)) (fun _ h9 => h9) rfl dA_keepUnbeaten_24 ?_
    refine lv_iload_n hx hb dA_keepUnbeaten_27 rfl (lv_at hl 0 rfl) ?_
    refine ialdN hx hb hK hP 2 0 rfl rfl (k := (st k % 4096)) (by omega) (by decide) (v := iI (mc_gain G B (st k % 4096) n)) (by rw [hgn _ t1]) dA_keepUnbeaten_28 ?_
    refine lv_aload_n hx hb dA_keepUnbeaten_29 rfl (lv_at hl 1 rfl) ?_
    refine lv_aload_n hx hb dA_keepUnbeaten_30 rfl (lv_at hl 1 rfl) ?_
    refine va_get (D := (dC, dI)) (ci := 1) (C := RA) (T := FA) (N := 4) hx hb hts (fun w h => List.mem_cons_of_mem _ (inA w h)) hown hK hP 0 rfl rfl 0 (by decide) (hts _ (List.mem_cons_of_mem _ kw88)) (fun _ h9 => h9) rfl dA_keepUnbeaten_31 ?_
    refine lv_iconst (v := 1) hx hb dA_keepUnbeaten_34 (by decide) ?_
    refine lv_isub hx hb dA_keepUnbeaten_35 ?_
    refine lv_topi (fun y2 ey2 => ?_)
    have hy2 : y2 = nI (R - 1) := by rw [ey2, show (1 : Int32) = nI 1 from rfl, pk_sub (by omega)]
    subst hy2
    refine callRV (As := [.int (nI (R - 1))]) (rest := [.int (iI (mc_gain G B (st k % 4096) n))]) ⟨hx, hb, hml, hown, hts⟩ tlB (c_A_gainAt l dC dI q cI cG R ver f gn (R - 1) (by omega) hb2) kw163 kw164 kw165 kw27 kw166 ⟨rfl, rfl⟩ (n := 1) (by decide +kernel) ⟨Nat.le_of_ble_eq_true rfl, Nat.le_of_ble_eq_true rfl⟩ (roP_preV hP.lft hK (ci := 1) (q0 := 0) rfl rfl) rfl hl.1 rfl (Nat.le_of_ble_eq_true rfl) ⟨Nat.le_of_ble_eq_true rfl, Nat.le_of_ble_eq_true rfl⟩ dA_keepUnbeaten_36 (fun r2 hr2 => ?_)
    have hr2 : r2 = iI (mc_gain G B (f (R - 1) % 4096) n) := by rw [hr2, hgn _ htl]
    subst hr2
    have ga := mc_gain_le (S := st k % 4096) hG hB n hn
    have gb := mc_gain_le (S := f (R - 1) % 4096) hG hB n hn
    have gle := iI_le (a := mc_gain G B (st k % 4096) n) (b := mc_gain G B (f (R - 1) % 4096) n) (by omega) (by omega) (by omega) (by omega)
    refine lv_icmp_le (tgt := 95) hx hb dA_keepUnbeaten_39 (by decide) (fun c2 => ?_) (fun c2 => ?_)
    · have c2 := gle.mp c2
      refine lv_iinc (v := (nI (k + 1))) (lv' := [(2, .int (nI (k + 1))), (3, .int (nI (st k % 4096))), (0, .ref (q 0)), (1, .ref (a 0))]) hx hb dA_keepUnbeaten_95 hl (k := 3) rfl (nI_1 k) (by decide) rfl (fun ls hl => ?_)
      refine lv_goto (tgt := 7) hx hb dA_keepUnbeaten_98 (by decide) ?_
      exact ih (k + 1, R, f) H locs ls (⟨mc_keep_skip hn ho hk hkn (fun _ => c2), hP, hD, hS⟩) (by dsimp only; omega) (lv_sub hl [2, 3, 0] rfl)
    · have c2 : mc_gain G B (f (R - 1) % 4096) n < mc_gain G B (st k % 4096) n := by
        rcases Int.lt_or_le (mc_gain G B (f (R - 1) % 4096) n) (mc_gain G B (st k % 4096) n) with z | z
        · exact z
        · exact absurd (gle.mpr z) c2
      refine lv_aload_n hx hb dA_keepUnbeaten_42 rfl (lv_at hl 2 rfl) ?_
      refine lv_iload_n hx hb dA_keepUnbeaten_43 rfl (lv_at hl 0 rfl) ?_
      refine callRV (As := [.int (nI (st k % 4096))]) (rest := []) ⟨hx, hb, hml, hown, hts⟩ tlB (c_H_allows l dC dI a cI cG n v C G X D B (st k % 4096) hn (by omega) (fun m => by have := hX m; omega) (fun m => by have := hDD m; omega)) kw167 kw168 kw169 kw26 kw170 ⟨rfl, rfl⟩ (n := 1) (by decide +kernel) ⟨Nat.le_of_ble_eq_true rfl, Nat.le_of_ble_eq_true rfl⟩ (roP_preV hP.rgt hK (ci := 0) (q0 := 0) rfl rfl) rfl hl.1 rfl (Nat.le_of_ble_eq_true rfl) ⟨Nat.le_of_ble_eq_true rfl, Nat.le_of_ble_eq_true rfl⟩ dA_keepUnbeaten_44 (fun r3 hr3 => ?_)
      refine lv_if_eq (tgt := 95) hx hb dA_keepUnbeaten_47 (by decide) (fun c3 => ?_) (fun c3 => ?_)
      · have hL : ¬ mc_law n X D (st k % 4096) := by
          rcases hr3 with ⟨z, -⟩ | ⟨-, z⟩
          · rw [z] at c3; cases c3
          · exact z
        refine lv_iinc (v := (nI (k + 1))) (lv' := [(2, .int (nI (k + 1))), (3, .int (nI (st k % 4096))), (0, .ref (q 0)), (1, .ref (a 0))]) hx hb dA_keepUnbeaten_95 hl (k := 3) rfl (nI_1 k) (by decide) rfl (fun ls hl => ?_)
        refine lv_goto (tgt := 7) hx hb dA_keepUnbeaten_98 (by decide) ?_
        exact ih (k + 1, R, f) H locs ls (⟨mc_keep_skip hn ho hk hkn (fun h => absurd h hL), hP, hD, hS⟩) (by dsimp only; omega) (lv_sub hl [2, 3, 0] rfl)
      · have hL : mc_law n X D (st k % 4096) := by
          rcases hr3 with ⟨-, z⟩ | ⟨z, -⟩
          · exact z
          · exact absurd z c3
        refine lv_aload_n hx hb dA_keepUnbeaten_50 rfl (lv_at hl 1 rfl) ?_
        refine lv_iload_n hx hb dA_keepUnbeaten_51 rfl (lv_at hl 3 rfl) ?_
        refine callRV (As := [.int (nI k)]) (rest := []) ⟨hx, hb, hml, hown, hts⟩ tlB (c_A_costAt l dC dI q cI cG R ver f gn k (by omega) hb1) kw174 kw175 kw176 kw27 kw177 ⟨rfl, rfl⟩ (n := 1) (by decide +kernel) ⟨Nat.le_of_ble_eq_true rfl, Nat.le_of_ble_eq_true rfl⟩ (roP_preV hP.lft hK (ci := 1) (q0 := 0) rfl rfl) rfl hl.1 rfl (Nat.le_of_ble_eq_true rfl) ⟨Nat.le_of_ble_eq_true rfl, Nat.le_of_ble_eq_true rfl⟩ dA_keepUnbeaten_52 (fun r4 hr4 => ?_)
        have hr4 : r4 = nI (mc_cost C (st k % 4096) n) := by
          rw [hr4, hfk, t2, mc_K_div (by omega), mc_K_mod (by omega)]
        subst hr4
        refine lv_aload_n hx hb dA_keepUnbeaten_55 rfl (lv_at hl 1 rfl) ?_
        refine lv_aload_n hx hb dA_keepUnbeaten_56 rfl (lv_at hl 1 rfl) ?_
        refine va_get (D := (dC, dI)) (ci := 1) (C := RA) (T := FA) (N := 4) hx hb hts (fun w h => List.mem_cons_of_mem _ (inA w h)) hown hK hP 0 rfl rfl 0 (by decide) (hts _ (List.mem_cons_of_mem _ kw88)) (fun _ h9 => h9) rfl dA_keepUnbeaten_57 ?_
        refine lv_iconst (v := 1) hx hb dA_keepUnbeaten_60 (by decide) ?_
        refine lv_isub hx hb dA_keepUnbeaten_61 ?_
        refine lv_topi (fun y3 ey3 => ?_)
        have hy3 : y3 = nI (R - 1) := by rw [ey3, show (1 : Int32) = nI 1 from rfl, pk_sub (by omega)]
        subst hy3
        refine callRV (As := [.int (nI (R - 1))]) (rest := [.int (nI (mc_cost C (st k % 4096) n))]) ⟨hx, hb, hml, hown, hts⟩ tlB (c_A_costAt l dC dI q cI cG R ver f gn (R - 1) (by omega) hb2) kw174 kw175 kw176 kw27 kw177 ⟨rfl, rfl⟩ (n := 1) (by decide +kernel) ⟨Nat.le_of_ble_eq_true rfl, Nat.le_of_ble_eq_true rfl⟩ (roP_preV hP.lft hK (ci := 1) (q0 := 0) rfl rfl) rfl hl.1 rfl (Nat.le_of_ble_eq_true rfl) ⟨Nat.le_of_ble_eq_true rfl, Nat.le_of_ble_eq_true rfl⟩ dA_keepUnbeaten_62 (fun r5 hr5 => ?_)
        have hr5 : r5 = nI (mc_cost C (f (R - 1) % 4096) n) := by
          rw [hr5, htop, mc_K_div (by omega), mc_K_mod (by omega)]
        subst hr5
        have ca := mc_cost_le (S := st k % 4096) hC n
        have cb := mc_cost_le (S := f (R - 1) % 4096) hC n
        have cle := nI_leI (a := mc_cost C (st k % 4096) n) (b := mc_cost C (f (R - 1) % 4096) n) (by omega) (by omega)
        refine lv_icmp_le (tgt := 78) hx hb dA_keepUnbeaten_65 (by decide) (fun c4 => ?_) (fun c4 => ?_)
        · have c4 : ¬ mc_cost C (f (R - 1) % 4096) n < mc_cost C (st k % 4096) n := by have := cle.mp c4; omega
          refine lv_aload_n hx hb dA_keepUnbeaten_78 rfl (lv_at hl 1 rfl) ?_
          refine va_get (D := (dC, dI)) (ci := 1) (C := RA) (T := FA) (N := 4) hx hb hts (fun w h => List.mem_cons_of_mem _ (inA w h)) hown hK hP 0 rfl rfl 2 (by decide) (hts _ (List.mem_cons_of_mem _ kw91)) (fun _ h9 => h9) rfl dA_keepUnbeaten_79 ?_
          refine lv_aload_n hx hb dA_keepUnbeaten_82 rfl (lv_at hl 1 rfl) ?_
          refine va_get (D := (dC, dI)) (ci := 1) (C := RA) (T := FA) (N := 4) hx hb hts (fun w h => List.mem_cons_of_mem _ (inA w h)) hown hK hP 0 rfl rfl 0 (by decide) (hts _ (List.mem_cons_of_mem _ kw88)) (fun _ h9 => h9) rfl dA_keepUnbeaten_83 ?_
          refine lv_iconst (v := 1) hx hb dA_keepUnbeaten_86 (by decide) ?_
          refine lv_isub hx hb dA_keepUnbeaten_87 ?_
          refine lv_topi (fun y4 ey4 => ?_)
          have hy4 : y4 = nI (R - 1) := by rw [ey4, show (1 : Int32) = nI 1 from rfl, pk_sub (by omega)]
          subst hy4
          refine lv_aload_n hx hb dA_keepUnbeaten_88 rfl (lv_at hl 1 rfl) ?_
          refine va_get (D := (dC, dI)) (ci := 1) (C := RA) (T := FA) (N := 4) hx hb hts (fun w h => List.mem_cons_of_mem _ (inA w h)) hown hK hP 0 rfl rfl 2 (by decide) (hts _ (List.mem_cons_of_mem _ kw91)) (fun _ h9 => h9) rfl dA_keepUnbeaten_89 ?_
          refine lv_iload_n hx hb dA_keepUnbeaten_92 rfl (lv_at hl 3 rfl) ?_
          refine ialdN hx hb hK hP 1 0 rfl rfl (k := k) (by omega) (by decide) (v := nI (st k)) (by rw [hfk]) dA_keepUnbeaten_93 ?_
          refine iastN hx hb hK hP hD hS 1 0 rfl rfl (k := (R - 1)) (by omega) (by decide) (x := nI (st k)) (fun j => nI (va_up f (R - 1) (st k) j)) (fun j => by simp only [va_up]; split <;> rfl) (ws' := mcWA q cI R ver (va_up f (R - 1) (st k)) gn ++ mcWH a cI cG n v C G X D B) (rfl) dA_keepUnbeaten_94 (fun H locs hP hD hS => ?_)
          refine lv_iinc (v := (nI (k + 1))) (lv' := [(2, .int (nI (k + 1))), (3, .int (nI (st k % 4096))), (0, .ref (q 0)), (1, .ref (a 0))]) hx hb dA_keepUnbeaten_95 hl (k := 3) rfl (nI_1 k) (by decide) rfl (fun ls hl => ?_)
          refine lv_goto (tgt := 7) hx hb dA_keepUnbeaten_98 (by decide) ?_
          exact ih (k + 1, R, va_up f (R - 1) (st k)) H locs ls (⟨mc_keep_top hn ho hk hkn hL c2 c4 (fun i hi => by simp only [va_up]; rw [if_neg hi]) (by simp [va_up]), hP, hD, hS⟩) (by dsimp only; omega) (lv_sub hl [2, 3, 0] rfl)
        · have c4 : mc_cost C (f (R - 1) % 4096) n < mc_cost C (st k % 4096) n := by
            rcases Nat.lt_or_ge (mc_cost C (f (R - 1) % 4096) n) (mc_cost C (st k % 4096) n) with z | z
            · exact z
            · exact absurd (cle.mpr z) c4
          refine lv_aload_n hx hb dA_keepUnbeaten_68 rfl (lv_at hl 1 rfl) ?_
          refine lv_dup hx hb dA_keepUnbeaten_69 rfl ?_
          refine va_get (D := (dC, dI)) (ci := 1) (C := RA) (T := FA) (N := 4) hx hb hts (fun w h => List.mem_cons_of_mem _ (inA w h)) hown hK hP 0 rfl rfl 0 (by decide) (hts _ (List.mem_cons_of_mem _ kw88)) (fun _ h9 => h9) rfl dA_keepUnbeaten_70 ?_
          refine lv_iconst (v := 1) hx hb dA_keepUnbeaten_73 (by decide) ?_
          refine lv_iadd hx hb dA_keepUnbeaten_74 ?_
          refine lv_topi (fun y5 ey5 => ?_)
          have hy5 : y5 = nI (R + 1) := by rw [ey5]; exact nI_1 R
          subst hy5
          refine va_put (D := (dC, dI)) (ci := 1) (ty := .int) (C := RA) (T := FA) (N := 4) hx hb hts (fun w h => List.mem_cons_of_mem _ (inA w h)) tA tA_ok nA hown hK hP hD hS 0 rfl rfl 0 (by decide) (hts _ (List.mem_cons_of_mem _ kw88)) (fun _ h9 => h9) rfl (by decide +kernel) rfl rfl (Nat.le_of_ble_eq_true rfl) dA_keepUnbeaten_75 (fun H locs hP hD hS => ?_)
          have hP : va_P (dC, dI) mcCl (mcWA q cI (R + 1) ver f gn ++ mcWH a cI cG n v C G X D B) H := hP
          have hD : va_D A (mcWA q cI (R + 1) ver f gn ++ mcWH a cI cG n v C G X D B) := hD
          refine lv_aload_n hx hb dA_keepUnbeaten_78 rfl (lv_at hl 1 rfl) ?_
          refine va_get (D := (dC, dI)) (ci := 1) (C := RA) (T := FA) (N := 4) hx hb hts (fun w h => List.mem_cons_of_mem _ (inA w h)) hown hK hP 0 rfl rfl 2 (by decide) (hts _ (List.mem_cons_of_mem _ kw91)) (fun _ h9 => h9) rfl dA_keepUnbeaten_79 ?_
          refine lv_aload_n hx hb dA_keepUnbeaten_82 rfl (lv_at hl 1 rfl) ?_
          refine va_get (D := (dC, dI)) (ci := 1) (C := RA) (T := FA) (N := 4) hx hb hts (fun w h => List.mem_cons_of_mem _ (inA w h)) hown hK hP 0 rfl rfl 0 (by decide) (hts _ (List.mem_cons_of_mem _ kw88)) (fun _ h9 => h9) rfl dA_keepUnbeaten_83 ?_
          refine lv_iconst (v := 1) hx hb dA_keepUnbeaten_86 (by decide) ?_
          refine lv_isub hx hb dA_keepUnbeaten_87 ?_
          refine lv_topi (fun y6 ey6 => ?_)
          have hy6 : y6 = nI (R) := by rw [ey6, show (1 : Int32) = nI 1 from rfl, pk_sub (by omega)]; rfl
          subst hy6
          refine lv_aload_n hx hb dA_keepUnbeaten_88 rfl (lv_at hl 1 rfl) ?_
          refine va_get (D := (dC, dI)) (ci := 1) (C := RA) (T := FA) (N := 4) hx hb hts (fun w h => List.mem_cons_of_mem _ (inA w h)) hown hK hP 0 rfl rfl 2 (by decide) (hts _ (List.mem_cons_of_mem _ kw91)) (fun _ h9 => h9) rfl dA_keepUnbeaten_89 ?_
          refine lv_iload_n hx hb dA_keepUnbeaten_92 rfl (lv_at hl 3 rfl) ?_
          refine ialdN hx hb hK hP 1 0 rfl rfl (k := k) (by omega) (by decide) (v := nI (st k)) (by rw [hfk]) dA_keepUnbeaten_93 ?_
          refine iastN hx hb hK hP hD hS 1 0 rfl rfl (k := (R)) (by omega) (by decide) (x := nI (st k)) (fun j => nI (va_up f (R) (st k) j)) (fun j => by simp only [va_up]; split <;> rfl) (ws' := mcWA q cI (R + 1) ver (va_up f (R) (st k)) gn ++ mcWH a cI cG n v C G X D B) (rfl) dA_keepUnbeaten_94 (fun H locs hP hD hS => ?_)
          refine lv_iinc (v := (nI (k + 1))) (lv' := [(2, .int (nI (k + 1))), (3, .int (nI (st k % 4096))), (0, .ref (q 0)), (1, .ref (a 0))]) hx hb dA_keepUnbeaten_95 hl (k := 3) rfl (nI_1 k) (by decide) rfl (fun ls hl => ?_)
          refine lv_goto (tgt := 7) hx hb dA_keepUnbeaten_98 (by decide) ?_
          exact ih (k + 1, R + 1, va_up f R (st k)) H locs ls (⟨mc_keep_push hn ho hk hkn hL c2 c4 (fun i hi => by simp only [va_up]; rw [if_neg hi]) (by simp [va_up]), hP, hD, hS⟩) (by dsimp only; omega) (lv_sub hl [2, 3, 0] rfl)
