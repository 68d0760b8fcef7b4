/-! the ladder: bringUpToDate -/
theorem mc_K_top {C : Nat → Nat} {n k S : Nat} (hk : k < n) (hS : S < 2 ^ k) : mc_K C n (2 ^ k + S) = mc_K C n S + (C k * 4096 + 2 ^ k) := by
  have hp1 : 2 ^ (k + 1) = 2 * 2 ^ k := by rw [Nat.pow_succ]; omega
  have h1 : mc_cost C (2 ^ k + S) n = mc_cost C S n + C k := by
    rw [mc_cost_hi (m := k + 1) (by omega) n hk, mc_cost_top hS, mc_cost_hi hS n (by omega)]
  show mc_cost C (2 ^ k + S) n * 4096 + (2 ^ k + S) = mc_cost C S n * 4096 + S + (C k * 4096 + 2 ^ k)
  rw [h1]
  omega
/-- the ladder's rows for k measures: the keys in order, the gains -/
def mc_rows (n : Nat) (C G : Nat → Nat) (B : Nat → Nat → Int) (k : Nat) (f : Nat → Nat) (g : Nat → Int) : Prop := mc_ord (2 ^ k) (mc_K C n) f ∧ ∀ S, S < 2 ^ k → g S = mc_gain G B S k
theorem mc_rows_0 {n : Nat} {C G : Nat → Nat} {B : Nat → Nat → Int} {f : Nat → Nat} {g : Nat → Int} (hf : f 0 = 0) (hg : g 0 = 0) : mc_rows n C G B 0 f g := by
  refine ⟨⟨fun i j h1 h2 => absurd h2 (by simp; omega), fun S hS => ⟨0, by simp, ?_⟩, fun i hi => ⟨0, by simp, ?_⟩⟩, fun S hS => ?_⟩
  · rw [show S = 0 by simpa using hS, mc_K_0]; exact hf
  · rw [show i = 0 by simpa using hi, mc_K_0]; exact hf
  · rw [show S = 0 by simpa using hS]; exact hg
/-- up to date: the rungs and the gains are those of the house -/
def mc_upd (n : Nat) (C G X D : Nat → Nat) (B : Nat → Nat → Int) (rg : Nat) (st : Nat → Nat) (gn : Nat → Int) : Prop := mc_Lad n C G X D B rg st ∧ ∀ S, S < 2 ^ n → gn S = mc_gain G B S n
set_option maxHeartbeats 4000000 in
set_option maxRecDepth 100000 in
theorem c_A_bringUpToDate (l : Launch) (dC : Nat → ClassId) (dI : Nat → Nat → Nat) (q a : Nat → Nat) (cI cG : ClassId) (rg : Nat) (ver : Int) (st : Nat → Nat) (gn : Nat → Int) (n v : Nat) (C G X D : Nat → Nat) (B : Nat → Nat → Int) (sz : Nat) (hn : n ≤ 12) (hC : ∀ m, C m ≤ 10000) (hG : ∀ m, G m ≤ 10000) (hB : ∀ i j, -5000 ≤ B i j ∧ B i j ≤ 5000) (hX : ∀ m, X m < 4096) (hDD : ∀ m, D m < 4096) (hv1 : -1 ≤ ver) (hv2 : ver < 2147483648) (hv3 : v < 2147483648) (hup : ver = (v : Int) → mc_upd n C G X D B rg st gn) : Met l yA_bringUpToDate wdA_bringUpToDate ({ frames := 3, cells := 0, slots := 0, locals := 66 }) (wrP (dC, dI) mcCl (mcWA q cI rg ver st gn ++ mcWH a cI cG n v C G X D B) (mcTH cI cG) sz [.ref (q 0), .ref (a 0)]) (va_Qv (fun x : Nat × (Nat → Nat) × (Nat → Int) => mc_upd n C G X D B x.1 x.2.1 x.2.2) (fun x t => va_P (dC, dI) mcCl (mcWA q cI x.1 ((v : Nat) : Int) x.2.1 x.2.2 ++ mcWH a cI cG n v C G X D B) t.heap ∧ va_K (dC, dI) mcCl (mcTH cI cG) t ∧ va_D (va_A (mcWA q cI rg ver st gn ++ mcWH a cI cG n v C G X D B) sz) (mcWA q cI x.1 ((v : Nat) : Int) x.2.1 x.2.2 ++ mcWH a cI cG n v C G X D B)) (va_A (mcWA q cI rg ver st gn ++ mcWH a cI cG n v C G X D B) sz)) 0 0 (va_A (mcWA q cI rg ver st gn ++ mcWH a cI cG n v C G X D B) sz) := by
  refine Met.ofW (cc := bA_bringUpToDate) (maxL := 3) (ret := none) (by decide) rfl ?_
  intro p e s m args below meth c s₁ BB hml hv
  obtain ⟨rfl, hsz, hP, hK, hD0⟩ := hv
  have hx := BB.exec
  have hb := BB.bytes
  have hr := BB.returns
  have hts := atoms_spec (ws := wdA_bringUpToDate) BB.pre
  have hown : s.vm.findClass RA = some m.cls := findClass_of_methodNamed BB.named
  have hlocks := BB.notSynchronized
  subst hsz
  have hD := hD0.self (sz := s.heap.size)
  generalize hAe : va_A (mcWA q cI rg ver st gn ++ mcWH a cI cG n v C G X D B) s.heap.size = A at hD ⊢
  have hA : ∀ q : Nat, s.heap.size ≤ q → A q := fun q h => by rw [← hAe]; exact Or.inr h
  have hS : va_S A s.heap s.heap [] := va_S.rf
  have hl := lv_entry ([.ref (q 0), .ref (a 0)]) (n := 3) (Nat.le_of_ble_eq_true rfl)
  rw [lg_entry_eq]
  generalize (lg_sl ([.ref (q 0), .ref (a 0)]) ++ List.replicate (3 - (lg_sl ([.ref (q 0), .ref (a 0)])).length) Slot.unset).toArray = ls at hl ⊢
  have hl : lv_has ls 3 [(0, .ref (q 0)), (1, .ref (a 0))] := hl
  have hp12 : 2 ^ n ≤ 2 ^ 12 := Nat.pow_le_pow_right (by decide) hn
  refine lv_aload_n hx hb dA_bringUpToDate_0 rfl (lv_at hl 0 rfl) ?_
  refine va_get (D := (dC, dI)) (ci := 1) (C := RA) (T := FA) (N := 4) hx hb hts (fun w h => List.mem_cons_of_mem _ (inA w h)) hown hK hP 0 rfl rfl 1 (by decide) (hts _ (List.mem_cons_of_mem _ kw90)) (fun _ h9 => h9) rfl dA_bringUpToDate_1 ?_
  refine lv_aload_n hx hb dA_bringUpToDate_4 rfl (lv_at hl 1 rfl) ?_
  refine va_get (D := (dC, dI)) (ci := 0) (C := RH) (T := FH) (N := 7) hx hb hts (fun w h => List.mem_cons_of_mem _ (inH w h)) hown hK hP 3 rfl rfl 1 (by decide) (hts _ (List.mem_cons_of_mem _ kw55)) (fun _ h9 => h9) rfl dA_bringUpToDate_5 ?_
  refine lv_topi (fun y1 ey1 => ?_)
  have hy1 : y1 = iI ((v : Nat) : Int) := by rw [ey1, iI_nat]
  subst hy1
  refine lv_icmp_ne (tgt := 12) hx hb dA_bringUpToDate_8 (by decide) (fun c1 => ?_) (fun c1 => ?_)
  ·
    refine lv_aload_n hx hb dA_bringUpToDate_12 rfl (lv_at hl 0 rfl) ?_
    refine va_get (D := (dC, dI)) (ci := 1) (C := RA) (T := FA) (N := 4) hx hb hts (fun w h => List.mem_cons_of_mem _ (inA w h)) hown hK hP 0 rfl rfl 2 (by decide) (hts _ (List.mem_cons_of_mem _ kw91)) (fun _ h9 => h9) rfl dA_bringUpToDate_13 ?_
    refine lv_iconst (v := 0) hx hb dA_bringUpToDate_16 (by decide) ?_
    refine lv_iconst (v := 0) hx hb dA_bringUpToDate_17 (by decide) ?_
    refine W.eq (g2 := F0 m 18 ls [.int (nI 0), .int (nI 0), .ref (q 1)]) rfl ?_
    refine iastN hx hb hK hP hD hS 1 0 rfl rfl (k := 0) (by decide) (by decide) (x := nI 0) (fun j => nI (va_up st 0 0 j)) (fun j => by simp only [va_up]; split <;> rfl) (ws' := mcWA q cI rg ver (va_up st 0 0) gn ++ mcWH a cI cG n v C G X D B) (rfl) dA_bringUpToDate_18 (fun H locs hP hD hS => ?_)
    refine lv_aload_n hx hb dA_bringUpToDate_19 rfl (lv_at hl 0 rfl) ?_
    refine va_get (D := (dC, dI)) (ci := 1) (C := RA) (T := FA) (N := 4) hx hb hts (fun w h => List.mem_cons_of_mem _ (inA w h)) hown hK hP 0 rfl rfl 3 (by decide) (hts _ (List.mem_cons_of_mem _ kw92)) (fun _ h9 => h9) rfl dA_bringUpToDate_20 ?_
    refine lv_iconst (v := 0) hx hb dA_bringUpToDate_23 (by decide) ?_
    refine lv_iconst (v := 0) hx hb dA_bringUpToDate_24 (by decide) ?_
    refine W.eq (g2 := F0 m 25 ls [.int (iI 0), .int (nI 0), .ref (q 2)]) rfl ?_
    refine iastN hx hb hK hP hD hS 2 0 rfl rfl (k := 0) (by decide) (by decide) (x := iI 0) (fun j => iI (va_up gn 0 0 j)) (fun j => by simp only [va_up]; split <;> rfl) (ws' := mcWA q cI rg ver (va_up st 0 0) (va_up gn 0 0) ++ mcWH a cI cG n v C G X D B) (rfl) dA_bringUpToDate_25 (fun H locs hP hD hS => ?_)
    refine lv_iconst (v := 0) hx hb dA_bringUpToDate_26 (by decide) ?_
    refine lv_istore_n (lv' := [(2, .int 0), (0, .ref (q 0)), (1, .ref (a 0))]) hx hb dA_bringUpToDate_27 rfl hl (by decide) rfl (fun ls hl => ?_)
    refine lpW (σ := Nat × (Nat → Nat) × (Nat → Int)) (fun x H locs => x.1 ≤ n ∧ mc_rows n C G B x.1 x.2.1 x.2.2 ∧ va_P (dC, dI) mcCl (mcWA q cI rg ver x.2.1 x.2.2 ++ mcWH a cI cG n v C G X D B) H ∧ va_D A (mcWA q cI rg ver x.2.1 x.2.2 ++ mcWH a cI cG n v C G X D B) ∧ va_S A s.heap H locs) (fun x => [(0, .ref (q 0)), (1, .ref (a 0)), (2, .int (nI x.1))]) (fun x => n - x.1) (fun x H locs ls hI hl ih => ?_) ((0, va_up st 0 0, va_up gn 0 0)) _ _ ls (⟨Nat.zero_le _, mc_rows_0 (by simp [va_up]) (by simp [va_up]), hP, hD, hS⟩) (lv_sub hl [1, 2, 0] rfl)
    obtain ⟨k, f, g⟩ := x
    have hl : lv_has ls 3 [(0, .ref (q 0)), (1, .ref (a 0)), (2, .int (nI k))] := hl
    obtain ⟨hk, hR, hP, hD, hS⟩ := hI
    dsimp only at hk hR hP hD
    refine lv_iload_n hx hb dA_bringUpToDate_28 rfl (lv_at hl 2 rfl) ?_
    refine lv_aload_n hx hb dA_bringUpToDate_29 rfl (lv_at hl 1 rfl) ?_
    refine va_get (D := (dC, dI)) (ci := 0) (C := RH) (T := FH) (N := 7) hx hb hts (fun w h => List.mem_cons_of_mem _ (inH w h)) hown hK hP 3 rfl rfl 0 (by decide) (hts _ (List.mem_cons_of_mem _ kw53)) (fun _ h9 => h9) rfl dA_bringUpToDate_30 ?_
    refine lv_icmp_ge (tgt := 68) hx hb dA_bringUpToDate_33 (by decide) (fun c2 => ?_) (fun c2 => ?_)
    · have hkn : k = n := by have := (nI_leI (by omega) (by omega)).mp c2; omega
      rw [hkn] at hR
      refine lv_aload_n hx hb dA_bringUpToDate_68 rfl (lv_at hl 0 rfl) ?_
      refine lv_aload_n hx hb dA_bringUpToDate_69 rfl (lv_at hl 1 rfl) ?_
      refine callWX (As := [.ref (a 0)]) (rest := []) ⟨hx, hb, hml, hown, hts⟩ tlB (c_A_keepUnbeaten l dC dI q a cI cG rg ver f g n v C G X D B H.size hn hC hG hB hX hDD hR.1 hR.2) kw156 kw157 kw2 kw27 kw158 ⟨rfl, rfl⟩ (n := 1) (by decide +kernel) ⟨Nat.le_of_ble_eq_true rfl, Nat.le_of_ble_eq_true rfl⟩ hP hK hD hS (freeA hD hS hA) (ci := 1) (q0 := 0) rfl rfl rfl hl.1 rfl (Nat.le_of_ble_eq_true rfl) ⟨Nat.le_of_ble_eq_true rfl, Nat.le_of_ble_eq_true rfl⟩ dA_bringUpToDate_70 (fun u9 H1 locs1 hu hP1 hD1 hk1 hS1 => ?_)
      obtain ⟨R9, f9⟩ := u9
      have hD := hD1.weaken (fun _ z _ h => (freeA hD hS hA) z.1 h)
      have hP := hP1
      have hS := hS1
      dsimp only at hu hP hD
      refine lv_aload_n hx hb dA_bringUpToDate_73 rfl (lv_at hl 0 rfl) ?_
      refine lv_aload_n hx hb dA_bringUpToDate_74 rfl (lv_at hl 1 rfl) ?_
      refine va_get (D := (dC, dI)) (ci := 0) (C := RH) (T := FH) (N := 7) hx hb hts (fun w h => List.mem_cons_of_mem _ (inH w h)) hown hK hP 3 rfl rfl 1 (by decide) (hts _ (List.mem_cons_of_mem _ kw55)) (fun _ h9 => h9) rfl dA_bringUpToDate_75 ?_
      refine lv_topi (fun y2 ey2 => ?_)
      have hy2 : y2 = iI ((v : Nat) : Int) := by rw [ey2, iI_nat]
      subst hy2
      have hP : va_P (dC, dI) mcCl (mcWA q cI R9 ver f9 g ++ mcWH a cI cG n v C G X D B) H1 := hP
      refine va_put (D := (dC, dI)) (ci := 1) (ty := .int) (C := RA) (T := FA) (N := 4) hx hb hts (fun w h => List.mem_cons_of_mem _ (inA w h)) tA tA_ok nA hown hK hP hD hS 0 rfl rfl 1 (by decide) (hts _ (List.mem_cons_of_mem _ kw90)) (fun _ h9 => h9) rfl (by decide +kernel) rfl rfl (Nat.le_of_ble_eq_true rfl) dA_bringUpToDate_78 (fun H locs hP hD hS => ?_)
      have hP : va_P (dC, dI) mcCl (mcWA q cI R9 ((v : Nat) : Int) f9 g ++ mcWH a cI cG n v C G X D B) H := hP
      have hD : va_D A (mcWA q cI R9 ((v : Nat) : Int) f9 g ++ mcWH a cI cG n v C G X D B) := hD
      exact W.vret hx hb hr (fun t ht hW => ⟨⟨(R9, f9, g), rfl, ⟨hu, hR.2⟩, by rw [ht]; exact hP, va_K.moved hW.alike hK, hD⟩, hS.F ht⟩) hS.2.2 dA_bringUpToDate_81
    · have hkn : k < n := by
        rcases Nat.lt_or_ge k n with z | z
        · exact z
        · exact absurd (nI_le z (by omega)) c2
      have hp1 : 2 ^ (k + 1) = 2 * 2 ^ k := by rw [Nat.pow_succ]; omega
      have hpk : 2 ^ k ≤ 2 ^ 11 := Nat.pow_le_pow_right (by decide) (by omega)
      have hpp : 0 < 2 ^ k := Nat.pow_pos (by decide)
      have hCk := hC k
      refine lv_aload_n hx hb dA_bringUpToDate_36 rfl (lv_at hl 0 rfl) ?_
      refine lv_iconst (v := 1) hx hb dA_bringUpToDate_37 (by decide) ?_
      refine lv_iload_n hx hb dA_bringUpToDate_38 rfl (lv_at hl 2 rfl) ?_
      refine lv_ishl hx hb dA_bringUpToDate_39 ?_
      refine lv_topi (fun y3 ey3 => ?_)
      have hy3 : y3 = nI (2 ^ k) := by rw [ey3, nI_bit (by omega)]
      subst hy3
      refine lv_aload_n hx hb dA_bringUpToDate_40 rfl (lv_at hl 1 rfl) ?_
      refine va_get (D := (dC, dI)) (ci := 0) (C := RH) (T := FH) (N := 7) hx hb hts (fun w h => List.mem_cons_of_mem _ (inH w h)) hown hK hP 3 rfl rfl 2 (by decide) (hts _ (List.mem_cons_of_mem _ kw57)) (fun _ h9 => h9) rfl dA_bringUpToDate_41 ?_
      refine lv_iload_n hx hb dA_bringUpToDate_44 rfl (lv_at hl 2 rfl) ?_
      refine ialdN hx hb hK hP 4 0 rfl rfl (k := k) (by omega) (by decide) (v := nI (C k)) rfl dA_bringUpToDate_45 ?_
      refine lv_bipush (v := 12) hx hb dA_bringUpToDate_46 (by decide) ?_
      refine lv_ishl hx hb dA_bringUpToDate_48 ?_
      refine lv_topi (fun y4 ey4 => ?_)
      have hy4 : y4 = nI (C k * 4096) := by rw [ey4]; exact nI_shl (k := 12) (by omega) (by omega)
      subst hy4
      refine lv_iconst (v := 1) hx hb dA_bringUpToDate_49 (by decide) ?_
      refine lv_iload_n hx hb dA_bringUpToDate_50 rfl (lv_at hl 2 rfl) ?_
      refine lv_ishl hx hb dA_bringUpToDate_51 ?_
      refine lv_topi (fun y5 ey5 => ?_)
      have hy5 : y5 = nI (2 ^ k) := by rw [ey5, nI_bit (by omega)]
      subst hy5
      refine lv_iadd hx hb dA_bringUpToDate_52 ?_
      refine lv_topi (fun y6 ey6 => ?_)
      have hy6 : y6 = nI (C k * 4096 + 2 ^ k) := by rw [ey6, nI_add]
      subst hy6
      have hfk : ∀ i, i < 2 ^ k → ∃ S, S < 2 ^ k ∧ f i = mc_K C n S := hR.1.2.2
      refine callWX (As := [.int (nI (2 ^ k)), .int (nI (C k * 4096 + 2 ^ k))]) (rest := []) ⟨hx, hb, hml, hown, hts⟩ tlB (c_A_addSteps l dC dI q cI cG rg ver f g H.size (2 ^ k) (C k * 4096 + 2 ^ k) hpp (by omega) (by omega) hR.1.1 (fun i j hi hj => by obtain ⟨S, s1, s2⟩ := hfk i hi; obtain ⟨T, t1, t2⟩ := hfk j hj; rw [s2, t2, ← mc_K_top hkn s1]; intro z; have := mc_K_inj (by omega) (by omega) z; omega) (fun i hi => by obtain ⟨S, s1, s2⟩ := hfk i hi; rw [s2]; have := mc_K_lt (n := n) (S := S) hC hn (by omega); omega)) kw150 kw151 kw0 kw27 kw152 ⟨rfl, rfl⟩ (n := 2) (by decide +kernel) ⟨Nat.le_of_ble_eq_true rfl, Nat.le_of_ble_eq_true rfl⟩ hP.lft hK hD.lft hS (va_freeL hD hS hA) (ci := 1) (q0 := 0) rfl rfl rfl hl.1 rfl (Nat.le_of_ble_eq_true rfl) ⟨Nat.le_of_ble_eq_true rfl, Nat.le_of_ble_eq_true rfl⟩ dA_bringUpToDate_53 (fun u9 H1 locs1 hu hP1 hD1 hk1 hS1 => ?_)
      obtain ⟨pq, hmg⟩ := hu
      obtain ⟨hP, hD⟩ := va_jnL hP hD hk1 (va_freeL hD hS hA) hP1 hD1
      have hS := hS1
      have hord : mc_ord (2 ^ (k + 1)) (mc_K C n) u9 := by
        rw [hp1]
        exact mc_mrg_end hR.1 hmg (fun _ _ => rfl) (fun S hS9 => mc_K_top hkn hS9)
      refine lv_aload_n hx hb dA_bringUpToDate_56 rfl (lv_at hl 0 rfl) ?_
      refine lv_iload_n hx hb dA_bringUpToDate_57 rfl (lv_at hl 2 rfl) ?_
      refine lv_aload_n hx hb dA_bringUpToDate_58 rfl (lv_at hl 1 rfl) ?_
      refine callWX (As := [.int (nI k), .ref (a 0)]) (rest := []) ⟨hx, hb, hml, hown, hts⟩ tlB (c_A_addGains l dC dI q a cI cG rg ver u9 g n v C G X D B H1.size k hkn hn hR.2) kw153 kw154 kw1 kw27 kw155 ⟨rfl, rfl⟩ (n := 2) (by decide +kernel) ⟨Nat.le_of_ble_eq_true rfl, Nat.le_of_ble_eq_true rfl⟩ hP hK hD hS (freeA hD hS hA) (ci := 1) (q0 := 0) rfl rfl rfl hl.1 rfl (Nat.le_of_ble_eq_true rfl) ⟨Nat.le_of_ble_eq_true rfl, Nat.le_of_ble_eq_true rfl⟩ dA_bringUpToDate_59 (fun g9 H2 locs2 hg9 hP2 hD2 hk2 hS2 => ?_)
      have hD := hD2.weaken (fun _ z _ h => (freeA hD hS hA) z.1 h)
      have hP := hP2
      have hS := hS2
      refine lv_iinc (v := (nI (k + 1))) (lv' := [(2, .int (nI (k + 1))), (0, .ref (q 0)), (1, .ref (a 0))]) hx hb dA_bringUpToDate_62 hl (k := 2) rfl (nI_1 k) (by decide) rfl (fun ls hl => ?_)
      refine lv_goto (tgt := 28) hx hb dA_bringUpToDate_65 (by decide) ?_
      exact ih (k + 1, u9, g9) H2 locs2 ls ⟨hkn, ⟨hord, hg9⟩, hP, hD, hS⟩ (by dsimp only; omega) (lv_sub hl [1, 2, 0] rfl)
  · have hve : ver = (v : Int) := (iI_eq (by omega) (by omega) (by omega) (by omega)).mp c1
    subst hve
    exact W.vret hx hb hr (fun t ht hW => ⟨⟨(rg, st, gn), rfl, (hup rfl), by rw [ht]; exact hP, va_K.moved hW.alike hK, hD⟩, hS.F ht⟩) hS.2.2 dA_bringUpToDate_11
