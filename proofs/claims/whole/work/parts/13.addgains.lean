/-! the ladder: addGains -/
theorem mcAH_row {q a : Nat → Nat} {cI cG : ClassId} {rg : Nat} {ver : Int} {st : Nat → Nat} {gn : Nat → Int} {n v : Nat} {C G X D : Nat → Nat} {B : Nat → Nat → Int} {j : Nat} (hj : j < 12) : (mcWA q cI rg ver st gn ++ mcWH a cI cG n v C G X D B)[9 + j]? = some (a (6 + j), .inl (cI, 12, .inl (fun k => iI (B j k)))) := by
  rw [List.getElem?_append_right (by simp [mcWA]; omega), show 9 + j - (mcWA q cI rg ver st gn).length = 6 + j by simp [mcWA]; omega]
  exact mcWH_row hj
theorem mc_addor {m t : Nat} (ht : t < 2 ^ m) : 2 ^ m ||| t = 2 ^ m + t := by
  have := Nat.two_pow_add_eq_or_of_lt ht 1
  simpa using this.symm
theorem nI_or2 {m t : Nat} (ht : t < 2 ^ m) : nI (2 ^ m) ||| nI t = nI (2 ^ m + t) := by
  rw [nI_or, mc_addor ht]
theorem mc_bon_zero (b : Nat → Int) : ∀ k, mc_bon b 0 k = 0
  | 0 => rfl
  | k + 1 => by simp [mc_bon, mc_bon_zero b k]
theorem mc_gain_zero (G : Nat → Nat) (B : Nat → Nat → Int) : ∀ k, mc_gain G B 0 k = 0
  | 0 => rfl
  | k + 1 => by simp [mc_gain, mc_gain_zero G B k]
/-- the gains of the sets below 2^m, and of those with m on top of R's below T -/
def mc_tab (G : Nat → Nat) (B : Nat → Nat → Int) (m T : Nat) (g : Nat → Int) : Prop := (∀ S, S < 2 ^ m → g S = mc_gain G B S m) ∧ ∀ R, R < T → g (2 ^ m + R) = mc_gain G B (2 ^ m + R) (m + 1)
theorem mc_tab_0 {G : Nat → Nat} {B : Nat → Nat → Int} {m : Nat} {g g' : Nat → Int} (h : ∀ S, S < 2 ^ m → g S = mc_gain G B S m) (hg : ∀ j, j ≠ 2 ^ m → g' j = g j) (hv : g' (2 ^ m) = G m) : mc_tab G B m (2 ^ 0) g' := by
  refine ⟨fun S hS => by rw [hg S (by omega)]; exact h S hS, fun R hR => ?_⟩
  rw [show R = 0 by simpa using hR, mc_gain_top (Nat.pow_pos (by decide)), mc_gain_zero, mc_bon_zero, Nat.add_zero, hv]
  omega
theorem mc_tab_s {G : Nat → Nat} {B : Nat → Nat → Int} {m k t : Nat} {g g' : Nat → Int} (h : mc_tab G B m (2 ^ k + t) g) (hk : k < m) (ht : t < 2 ^ k) (hg : ∀ j, j ≠ 2 ^ m + (2 ^ k + t) → g' j = g j) (hv : g' (2 ^ m + (2 ^ k + t)) = g (2 ^ k + t) + (g (2 ^ m + t) - g t) + B m k) : mc_tab G B m (2 ^ k + (t + 1)) g' := by
  have hp : 2 ^ (k + 1) ≤ 2 ^ m := Nat.pow_le_pow_right (by decide) hk
  have hp1 : 2 ^ (k + 1) = 2 * 2 ^ k := by rw [Nat.pow_succ]; omega
  obtain ⟨h1, h2⟩ := h
  refine ⟨fun S hS => by rw [hg S (by omega)]; exact h1 S hS, fun R hR => ?_⟩
  by_cases e : R = 2 ^ k + t
  · subst e
    rw [hv, h1 (2 ^ k + t) (by omega), h2 t (by omega), h1 t (by omega), ← mc_gain_step hk ht]
  · rw [hg _ (by omega)]
    exact h2 R (by omega)
theorem mc_tab_end {G : Nat → Nat} {B : Nat → Nat → Int} {m : Nat} {g : Nat → Int} (h : mc_tab G B m (2 ^ m) g) : ∀ S, S < 2 ^ (m + 1) → g S = mc_gain G B S (m + 1) := by
  intro S hS
  have hp1 : 2 ^ (m + 1) = 2 * 2 ^ m := by rw [Nat.pow_succ]; omega
  by_cases hlo : S < 2 ^ m
  · rw [h.1 S hlo, mc_gain_hi hlo (m + 1) (by omega)]
  · have := h.2 (S - 2 ^ m) (by omega)
    rwa [show 2 ^ m + (S - 2 ^ m) = S by omega] at this
set_option maxHeartbeats 4000000 in
set_option maxRecDepth 100000 in
theorem c_A_addGains (l : Launch) (dC : Nat → ClassId) (dI : Nat → Nat → Nat) (q a : Nat → Nat) (cI cG : ClassId) (rg : Nat) (ver : Int) (st : Nat → Nat) (gn : Nat → Int) (n v : Nat) (C G X D : Nat → Nat) (B : Nat → Nat → Int) (sz : Nat) (mm : Nat) (hm : mm < n) (hn : n ≤ 12) (hgn : ∀ S, S < 2 ^ mm → gn S = mc_gain G B S mm) : Met l yA_addGains wdA_addGains ({ frames := 0, cells := 0, slots := 0, locals := 0 }) (wrP (dC, dI) mcCl (mcWA q cI rg ver st gn ++ mcWH a cI cG n v C G X D B) (mcTH cI cG) sz [.ref (q 0), .int (nI mm), .ref (a 0)]) (va_Qv (fun g : Nat → Int => ∀ S, S < 2 ^ (mm + 1) → g S = mc_gain G B S (mm + 1)) (fun g t => va_P (dC, dI) mcCl (mcWA q cI rg ver st g ++ mcWH a cI cG n v C G X D B) t.heap ∧ va_K (dC, dI) mcCl (mcTH cI cG) t ∧ va_D (va_A (mcWA q cI rg ver st gn ++ mcWH a cI cG n v C G X D B) sz) (mcWA q cI rg ver st g ++ mcWH a cI cG n v C G X D B)) (va_A (mcWA q cI rg ver st gn ++ mcWH a cI cG n v C G X D B) sz)) 0 0 (va_A (mcWA q cI rg ver st gn ++ mcWH a cI cG n v C G X D B) sz) := by
  refine Met.ofW (cc := bA_addGains) (maxL := 9) (ret := none) (by decide) rfl ?_
  intro p e s m args below meth c s₁ BB hml hv
  obtain ⟨rfl, hsz, hP, hK, hD0⟩ := hv
  have hx := BB.exec
  have hb := BB.bytes
  have hr := BB.returns
  have hts := atoms_spec (ws := wdA_addGains) BB.pre
  have hown : s.vm.findClass RA = some m.cls := findClass_of_methodNamed BB.named
  have hlocks := BB.notSynchronized
  subst hsz
  have hD := hD0.self (sz := s.heap.size)
  generalize hAe : va_A (mcWA q cI rg ver st gn ++ mcWH a cI cG n v C G X D B) s.heap.size = A at hD ⊢
  have hA : ∀ q : Nat, s.heap.size ≤ q → A q := fun q h => by rw [← hAe]; exact Or.inr h
  have hS : va_S A s.heap s.heap [] := va_S.rf
  have hl := lv_entry ([.ref (q 0), .int (nI mm), .ref (a 0)]) (n := 9) (Nat.le_of_ble_eq_true rfl)
  rw [lg_entry_eq]
  generalize (lg_sl ([.ref (q 0), .int (nI mm), .ref (a 0)]) ++ List.replicate (9 - (lg_sl ([.ref (q 0), .int (nI mm), .ref (a 0)])).length) Slot.unset).toArray = ls at hl ⊢
  have hl : lv_has ls 9 [(0, .ref (q 0)), (1, .int (nI mm)), (2, .ref (a 0))] := hl
  have hpm : 2 ^ mm ≤ 2 ^ 11 := Nat.pow_le_pow_right (by decide) (by omega)
  refine lv_iconst (v := 1) hx hb dA_addGains_0 (by decide) ?_
  refine lv_iload_n hx hb dA_addGains_1 rfl (lv_at hl 1 rfl) ?_
  refine lv_ishl hx hb dA_addGains_2 ?_
  refine lv_topi (fun y1 ey1 => ?_)
  have hy1 : y1 = nI (2 ^ mm) := by rw [ey1, nI_bit (by omega)]
  subst hy1
  refine lv_istore_n (lv' := [(3, .int (nI (2 ^ mm))), (0, .ref (q 0)), (1, .int (nI mm)), (2, .ref (a 0))]) hx hb dA_addGains_3 rfl hl (by decide) rfl (fun ls hl => ?_)
  refine lv_aload_n hx hb dA_addGains_4 rfl (lv_at hl 1 rfl) ?_
  refine va_get (D := (dC, dI)) (ci := 1) (C := RA) (T := FA) (N := 4) hx hb hts (fun w h => List.mem_cons_of_mem _ (inA w h)) hown hK hP 0 rfl rfl 3 (by decide) (hts _ (List.mem_cons_of_mem _ kw92)) (fun _ h9 => h9) rfl dA_addGains_5 ?_
  refine lv_iload_n hx hb dA_addGains_8 rfl (lv_at hl 0 rfl) ?_
  refine lv_aload_n hx hb dA_addGains_9 rfl (lv_at hl 3 rfl) ?_
  refine va_get (D := (dC, dI)) (ci := 0) (C := RH) (T := FH) (N := 7) hx hb hts (fun w h => List.mem_cons_of_mem _ (inH w h)) hown hK hP 3 rfl rfl 3 (by decide) (hts _ (List.mem_cons_of_mem _ kw59)) (fun _ h9 => h9) rfl dA_addGains_10 ?_
  refine lv_iload_n hx hb dA_addGains_13 rfl (lv_at hl 2 rfl) ?_
  refine ialdN hx hb hK hP 5 0 rfl rfl (k := mm) (by omega) (by decide) (v := nI (G mm)) rfl dA_addGains_14 ?_
  refine lv_topi (fun y2 ey2 => ?_)
  have hy2 : y2 = iI ((G mm : Nat) : Int) := by rw [ey2, iI_nat]
  subst hy2
  refine iastN hx hb hK hP hD hS 2 0 rfl rfl (k := (2 ^ mm)) (by omega) (by decide) (x := iI ((G mm : Nat) : Int)) (fun j => iI (va_up gn (2 ^ mm) ((G mm : Nat) : Int) j)) (fun j => by simp only [va_up]; split <;> rfl) (ws' := mcWA q cI rg ver st (va_up gn (2 ^ mm) ((G mm : Nat) : Int)) ++ mcWH a cI cG n v C G X D B) (rfl) dA_addGains_15 (fun H locs hP hD hS => ?_)
  refine lv_iconst (v := 0) hx hb dA_addGains_16 (by decide) ?_
  refine lv_istore (lv' := [(4, .int 0), (3, .int (nI (2 ^ mm))), (0, .ref (q 0)), (1, .int (nI mm)), (2, .ref (a 0))]) hx hb dA_addGains_17 hl (by decide) rfl (fun ls hl => ?_)
  refine lpW (σ := Nat × (Nat → Int)) (fun x H locs => x.1 ≤ mm ∧ mc_tab G B mm (2 ^ x.1) x.2 ∧ va_P (dC, dI) mcCl (mcWA q cI rg ver st x.2 ++ mcWH a cI cG n v C G X D B) H ∧ va_D A (mcWA q cI rg ver st x.2 ++ mcWH a cI cG n v C G X D B) ∧ va_S A s.heap H locs) (fun x => [(0, .ref (q 0)), (1, .int (nI mm)), (2, .ref (a 0)), (3, .int (nI (2 ^ mm))), (4, .int (nI x.1))]) (fun x => mm - x.1) (fun x H locs ls hI hl ih => ?_) ((0, va_up gn (2 ^ mm) ((G mm : Nat) : Int))) _ _ ls (⟨Nat.zero_le _, mc_tab_0 hgn (fun j hj => by simp only [va_up]; rw [if_neg hj]) (by simp [va_up]), hP, hD, hS⟩) (lv_sub hl [2, 3, 4, 1, 0] rfl)
  obtain ⟨k, g⟩ := x
  have hl : lv_has ls 9 [(0, .ref (q 0)), (1, .int (nI mm)), (2, .ref (a 0)), (3, .int (nI (2 ^ mm))), (4, .int (nI k))] := hl
  obtain ⟨hk, hT, hP, hD, hS⟩ := hI
  dsimp only at hk hT hP hD
  refine lv_iload hx hb dA_addGains_19 (lv_at hl 4 rfl) ?_
  refine lv_iload_n hx hb dA_addGains_21 rfl (lv_at hl 1 rfl) ?_
  refine lv_icmp_ge (tgt := 111) hx hb dA_addGains_22 (by decide) (fun c1 => ?_) (fun c1 => ?_)
  · have hkn : k = mm := by have := (nI_leI (by omega) (by omega)).mp c1; omega
    exact W.vret hx hb hr (fun t ht hW => ⟨⟨g, rfl, (by rw [hkn] at hT; exact mc_tab_end hT), by rw [ht]; exact hP, va_K.moved hW.alike hK, hD⟩, hS.F ht⟩) hS.2.2 dA_addGains_111
  · have hkn : k < mm := by
      rcases Nat.lt_or_ge k mm with z | z
      · exact z
      · exact absurd (nI_le z (by omega)) c1
    have hpk : 2 ^ (k + 1) ≤ 2 ^ mm := Nat.pow_le_pow_right (by decide) hkn
    have hpk1 : 2 ^ (k + 1) = 2 * 2 ^ k := by rw [Nat.pow_succ]; omega
    refine lv_iconst (v := 1) hx hb dA_addGains_25 (by decide) ?_
    refine lv_iload hx hb dA_addGains_26 (lv_at hl 4 rfl) ?_
    refine lv_ishl hx hb dA_addGains_28 ?_
    refine lv_topi (fun y3 ey3 => ?_)
    have hy3 : y3 = nI (2 ^ k) := by rw [ey3, nI_bit (by omega)]
    subst hy3
    refine lv_istore (lv' := [(5, .int (nI (2 ^ k))), (0, .ref (q 0)), (1, .int (nI mm)), (2, .ref (a 0)), (3, .int (nI (2 ^ mm))), (4, .int (nI k))]) hx hb dA_addGains_29 hl (by decide) rfl (fun ls hl => ?_)
    refine lv_aload_n hx hb dA_addGains_31 rfl (lv_at hl 3 rfl) ?_
    refine va_get (D := (dC, dI)) (ci := 0) (C := RH) (T := FH) (N := 7) hx hb hts (fun w h => List.mem_cons_of_mem _ (inH w h)) hown hK hP 3 rfl rfl 6 (by decide) (hts _ (List.mem_cons_of_mem _ kw66)) (fun _ h9 => h9) rfl dA_addGains_32 ?_
    refine lv_iload_n hx hb dA_addGains_35 rfl (lv_at hl 2 rfl) ?_
    refine aldaN hx hb hK hP 8 1 rfl rfl (k := mm) (by omega) (by decide) (r := (a (6 + mm))) (if_pos (by omega)) dA_addGains_36 ?_
    refine lv_iload hx hb dA_addGains_37 (lv_at hl 5 rfl) ?_
    refine ialdN hx hb hK hP (9 + mm) 0 (mcAH_row (by omega)) rfl (k := k) (by omega) (by decide) (v := iI (B mm k)) rfl dA_addGains_39 ?_
    refine lv_istore (lv' := [(6, .int (iI (B mm k))), (5, .int (nI (2 ^ k))), (0, .ref (q 0)), (1, .int (nI mm)), (2, .ref (a 0)), (3, .int (nI (2 ^ mm))), (4, .int (nI k))]) hx hb dA_addGains_40 hl (by decide) rfl (fun ls hl => ?_)
    refine lv_iconst (v := 0) hx hb dA_addGains_42 (by decide) ?_
    refine lv_istore (lv' := [(7, .int 0), (6, .int (iI (B mm k))), (5, .int (nI (2 ^ k))), (0, .ref (q 0)), (1, .int (nI mm)), (2, .ref (a 0)), (3, .int (nI (2 ^ mm))), (4, .int (nI k))]) hx hb dA_addGains_43 hl (by decide) rfl (fun ls hl => ?_)
    have ih9 := ih
    refine lpW (σ := Nat × (Nat → Int)) (fun x H locs => x.1 ≤ 2 ^ k ∧ mc_tab G B mm (2 ^ k + x.1) x.2 ∧ va_P (dC, dI) mcCl (mcWA q cI rg ver st x.2 ++ mcWH a cI cG n v C G X D B) H ∧ va_D A (mcWA q cI rg ver st x.2 ++ mcWH a cI cG n v C G X D B) ∧ va_S A s.heap H locs) (fun x => [(0, .ref (q 0)), (1, .int (nI mm)), (2, .ref (a 0)), (3, .int (nI (2 ^ mm))), (4, .int (nI k)), (5, .int (nI (2 ^ k))), (6, .int (iI (B mm k))), (7, .int (nI x.1))]) (fun x => 2 ^ k - x.1) (fun x H locs ls hI hl ih => ?_) ((0, g)) _ _ ls (⟨Nat.zero_le _, hT, hP, hD, hS⟩) (lv_sub hl [3, 4, 5, 6, 7, 2, 1, 0] rfl)
    obtain ⟨t9, g2⟩ := x
    have hl : lv_has ls 9 [(0, .ref (q 0)), (1, .int (nI mm)), (2, .ref (a 0)), (3, .int (nI (2 ^ mm))), (4, .int (nI k)), (5, .int (nI (2 ^ k))), (6, .int (iI (B mm k))), (7, .int (nI t9))] := hl
    obtain ⟨ht, hT, hP, hD, hS⟩ := hI
    dsimp only at ht hT hP hD
    refine lv_iload hx hb dA_addGains_45 (lv_at hl 7 rfl) ?_
    refine lv_iload hx hb dA_addGains_47 (lv_at hl 5 rfl) ?_
    refine lv_icmp_ge (tgt := 105) hx hb dA_addGains_49 (by decide) (fun c2 => ?_) (fun c2 => ?_)
    · have htn : t9 = 2 ^ k := by have := (nI_leI (by omega) (by omega)).mp c2; omega
      rw [htn] at hT
      refine lv_iinc (v := (nI (k + 1))) (lv' := [(4, .int (nI (k + 1))), (0, .ref (q 0)), (1, .int (nI mm)), (2, .ref (a 0)), (3, .int (nI (2 ^ mm))), (5, .int (nI (2 ^ k))), (6, .int (iI (B mm k))), (7, .int (nI t9))]) hx hb dA_addGains_105 hl (k := 4) rfl (nI_1 k) (by decide) rfl (fun ls hl => ?_)
      refine lv_goto (tgt := 19) hx hb dA_addGains_108 (by decide) ?_
      exact ih9 (k + 1, g2) H locs ls ⟨hkn, by dsimp only; rw [hpk1, show 2 * 2 ^ k = 2 ^ k + 2 ^ k by omega]; exact hT, hP, hD, hS⟩ (by dsimp only; omega) (lv_sub hl [1, 2, 3, 4, 0] rfl)
    · have htn : t9 < 2 ^ k := by
        rcases Nat.lt_or_ge t9 (2 ^ k) with z | z
        · exact z
        · exact absurd (nI_le z (by omega)) c2
      refine lv_aload_n hx hb dA_addGains_52 rfl (lv_at hl 0 rfl) ?_
      refine va_get (D := (dC, dI)) (ci := 1) (C := RA) (T := FA) (N := 4) hx hb hts (fun w h => List.mem_cons_of_mem _ (inA w h)) hown hK hP 0 rfl rfl 3 (by decide) (hts _ (List.mem_cons_of_mem _ kw92)) (fun _ h9 => h9) rfl dA_addGains_53 ?_
      refine lv_iload_n hx hb dA_addGains_56 rfl (lv_at hl 3 rfl) ?_
      refine lv_iload hx hb dA_addGains_57 (lv_at hl 7 rfl) ?_
      refine lv_ior hx hb dA_addGains_59 ?_
      refine lv_topi (fun y4 ey4 => ?_)
      have hy4 : y4 = nI (2 ^ mm + t9) := by rw [ey4, nI_or2 (by omega)]
      subst hy4
      refine ialdN hx hb hK hP 2 0 rfl rfl (k := (2 ^ mm + t9)) (by omega) (by decide) (v := iI (g2 (2 ^ mm + t9))) rfl dA_addGains_60 ?_
      refine lv_aload_n hx hb dA_addGains_61 rfl (lv_at hl 0 rfl) ?_
      refine va_get (D := (dC, dI)) (ci := 1) (C := RA) (T := FA) (N := 4) hx hb hts (fun w h => List.mem_cons_of_mem _ (inA w h)) hown hK hP 0 rfl rfl 3 (by decide) (hts _ (List.mem_cons_of_mem _ kw92)) (fun _ h9 => h9) rfl dA_addGains_62 ?_
      refine lv_iload hx hb dA_addGains_65 (lv_at hl 7 rfl) ?_
      refine ialdN hx hb hK hP 2 0 rfl rfl (k := t9) (by omega) (by decide) (v := iI (g2 t9)) rfl dA_addGains_67 ?_
      refine lv_isub hx hb dA_addGains_68 ?_
      refine lv_topi (fun y5 ey5 => ?_)
      have hy5 : y5 = iI (g2 (2 ^ mm + t9) - g2 t9) := by rw [ey5, iI_sub]
      subst hy5
      refine lv_istore (lv' := [(8, .int (iI (g2 (2 ^ mm + t9) - g2 t9))), (0, .ref (q 0)), (1, .int (nI mm)), (2, .ref (a 0)), (3, .int (nI (2 ^ mm))), (4, .int (nI k)), (5, .int (nI (2 ^ k))), (6, .int (iI (B mm k))), (7, .int (nI t9))]) hx hb dA_addGains_69 hl (by decide) rfl (fun ls hl => ?_)
      refine lv_aload_n hx hb dA_addGains_71 rfl (lv_at hl 1 rfl) ?_
      refine va_get (D := (dC, dI)) (ci := 1) (C := RA) (T := FA) (N := 4) hx hb hts (fun w h => List.mem_cons_of_mem _ (inA w h)) hown hK hP 0 rfl rfl 3 (by decide) (hts _ (List.mem_cons_of_mem _ kw92)) (fun _ h9 => h9) rfl dA_addGains_72 ?_
      refine lv_iload_n hx hb dA_addGains_75 rfl (lv_at hl 4 rfl) ?_
      refine lv_iload hx hb dA_addGains_76 (lv_at hl 6 rfl) ?_
      refine lv_ior hx hb dA_addGains_78 ?_
      refine lv_iload hx hb dA_addGains_79 (lv_at hl 8 rfl) ?_
      refine lv_ior hx hb dA_addGains_81 ?_
      refine lv_topi (fun y6 ey6 => ?_)
      have hy6 : y6 = nI (2 ^ mm + (2 ^ k + t9)) := by rw [ey6, nI_or, nI_or, Nat.or_assoc, mc_addor htn, mc_addor (show 2 ^ k + t9 < 2 ^ mm by omega)]
      subst hy6
      refine lv_aload_n hx hb dA_addGains_82 rfl (lv_at hl 1 rfl) ?_
      refine va_get (D := (dC, dI)) (ci := 1) (C := RA) (T := FA) (N := 4) hx hb hts (fun w h => List.mem_cons_of_mem _ (inA w h)) hown hK hP 0 rfl rfl 3 (by decide) (hts _ (List.mem_cons_of_mem _ kw92)) (fun _ h9 => h9) rfl dA_addGains_83 ?_
      refine lv_iload hx hb dA_addGains_86 (lv_at hl 6 rfl) ?_
      refine lv_iload hx hb dA_addGains_88 (lv_at hl 8 rfl) ?_
      refine lv_ior hx hb dA_addGains_90 ?_
      refine lv_topi (fun y7 ey7 => ?_)
      have hy7 : y7 = nI (2 ^ k + t9) := by rw [ey7, nI_or2 htn]
      subst hy7
      refine ialdN hx hb hK hP 2 0 rfl rfl (k := (2 ^ k + t9)) (by omega) (by decide) (v := iI (g2 (2 ^ k + t9))) rfl dA_addGains_91 ?_
      refine lv_iload hx hb dA_addGains_92 (lv_at hl 0 rfl) ?_
      refine lv_iadd hx hb dA_addGains_94 ?_
      refine lv_iload hx hb dA_addGains_95 (lv_at hl 7 rfl) ?_
      refine lv_iadd hx hb dA_addGains_97 ?_
      refine lv_topi (fun y8 ey8 => ?_)
      have hy8 : y8 = iI (g2 (2 ^ k + t9) + (g2 (2 ^ mm + t9) - g2 t9) + B mm k) := by rw [ey8, iI_add, iI_add]
      subst hy8
      refine iastN hx hb hK hP hD hS 2 0 rfl rfl (k := (2 ^ mm + (2 ^ k + t9))) (by omega) (by decide) (x := iI (g2 (2 ^ k + t9) + (g2 (2 ^ mm + t9) - g2 t9) + B mm k)) (fun j => iI (va_up g2 (2 ^ mm + (2 ^ k + t9)) (g2 (2 ^ k + t9) + (g2 (2 ^ mm + t9) - g2 t9) + B mm k) j)) (fun j => by simp only [va_up]; split <;> rfl) (ws' := mcWA q cI rg ver st (va_up g2 (2 ^ mm + (2 ^ k + t9)) (g2 (2 ^ k + t9) + (g2 (2 ^ mm + t9) - g2 t9) + B mm k)) ++ mcWH a cI cG n v C G X D B) (rfl) dA_addGains_98 (fun H locs hP hD hS => ?_)
      refine lv_iinc (v := (nI (t9 + 1))) (lv' := [(7, .int (nI (t9 + 1))), (8, .int (iI (g2 (2 ^ mm + t9) - g2 t9))), (0, .ref (q 0)), (1, .int (nI mm)), (2, .ref (a 0)), (3, .int (nI (2 ^ mm))), (4, .int (nI k)), (5, .int (nI (2 ^ k))), (6, .int (iI (B mm k)))]) hx hb dA_addGains_99 hl (k := 8) rfl (nI_1 t9) (by decide) rfl (fun ls hl => ?_)
      refine lv_goto (tgt := 45) hx hb dA_addGains_102 (by decide) ?_
      exact ih (t9 + 1, va_up g2 (2 ^ mm + (2 ^ k + t9)) (g2 (2 ^ k + t9) + (g2 (2 ^ mm + t9) - g2 t9) + B mm k)) H locs ls (⟨htn, mc_tab_s hT hkn htn (fun j hj => by simp only [va_up]; rw [if_neg hj]) (by simp [va_up]), hP, hD, hS⟩) (by dsimp only; omega) (lv_sub hl [2, 3, 4, 5, 6, 7, 8, 0] rfl)
