/-! the planner: judgeSets, work -/
theorem mc_min_code : prog_10_method_69_code = Lib.Math.min.code := by decide +kernel
/-- what a set of the first measures costs, out of reach if it is not lawful, and gains -/
def mc_judge (n : Nat) (C G X D : Nat → Nat) (B : Nat → Nat → Int) (pr : Nat → Nat) (ga : Nat → Int) (K : Nat) : Prop := ∀ S, S < K → (mc_law n X D S → pr S = mc_cost C S n) ∧ (¬ mc_law n X D S → pr S = 400001) ∧ ga S = mc_gain G B S n
def mc_m6 (n : Nat) : Nat := if 6 < n then 6 else n
theorem mc_m6_nI {n : Nat} (h : n ≤ 12) : (if (6 : Int32) < nI n then 6 else nI n) = nI (mc_m6 n) := by
  unfold mc_m6
  have := nI_ltI (a := 6) (b := n) (by omega) (by omega)
  rw [show (6 : Int32) = nI 6 from rfl]
  by_cases e : 6 < n
  · rw [if_pos e, if_pos (this.mpr e)]
  · rw [if_neg e, if_neg (fun z => e (this.mp z))]
theorem mc_m6_le {n : Nat} : mc_m6 n ≤ 6 ∧ mc_m6 n ≤ n := by unfold mc_m6; split <;> omega
/-- the years from y0 on are worked out -/
def mc_dp (Y y0 se : Nat) (pu pr : Nat → Nat) (ga : Nat → Int) (T : Nat → Nat → Int) (P : Nat → Nat → Nat) : Prop :=
  ∀ y, y0 ≤ y → y < Y → ∀ S, S < se → pr S ≤ pu y → (y + 1 = Y → T y S = ga S ∧ P y S = pr S) ∧ (y + 1 < Y → ∃ f, mc_pick se (fun U => pr U ≤ pu (y + 1)) (T (y + 1)) (P (y + 1)) S f ∧ T y S = ga S + T (y + 1) f ∧ P y S = P (y + 1) f)
theorem mc_dp_bd {Y y0 se : Nat} {pu pr : Nat → Nat} {ga : Nat → Int} {T : Nat → Nat → Int} {P : Nat → Nat → Nat} (h : mc_dp Y y0 se pu pr ga T P) (hga : ∀ S, S < se → -900000 ≤ ga S ∧ ga S ≤ 900000) (hpu : ∀ y, y < Y → pu y ≤ 400000) :
    ∀ k y, y0 ≤ y → y + k + 1 = Y → ∀ S, S < se → pr S ≤ pu y → (-900000 * ((k : Int) + 1) ≤ T y S ∧ T y S ≤ 900000 * ((k : Int) + 1)) ∧ P y S ≤ 400000 := by
  intro k
  induction k with
  | zero =>
    intro y h1 h2 S hS ho
    obtain ⟨e1, e2⟩ := (h y h1 (by omega) S hS ho).1 (by omega)
    have := hga S hS
    have := hpu y (by omega)
    rw [e1, e2]
    omega
  | succ k ih =>
    intro y h1 h2 S hS ho
    obtain ⟨f, hf, e1, e2⟩ := (h y h1 (by omega) S hS ho).2 (by omega)
    have h3 := ih (y + 1) (by omega) (by omega) f hf.1 hf.2.1
    have := hga S hS
    rw [e1, e2]
    omega
theorem mc_dp_T {Y y0 se : Nat} {pu pr : Nat → Nat} {ga : Nat → Int} {T : Nat → Nat → Int} {P : Nat → Nat → Nat} (h : mc_dp Y y0 se pu pr ga T P) (hY : Y ≤ 4) (hga : ∀ S, S < se → -900000 ≤ ga S ∧ ga S ≤ 900000) (hpu : ∀ y, y < Y → pu y ≤ 400000) {y : Nat} (h1 : y0 ≤ y) (h2 : y < Y) {S : Nat} (hS : S < se) (ho : pr S ≤ pu y) : (-2147483648 ≤ T y S ∧ T y S < 2147483648) ∧ P y S < 2147483648 := by
  have := mc_dp_bd h hga hpu (Y - y - 1) y h1 (by omega) S hS ho
  omega
theorem mc_dp_last {Y y se : Nat} {pu pr : Nat → Nat} {ga : Nat → Int} {T T2 : Nat → Nat → Int} {P P2 : Nat → Nat → Nat} (hy : y + 1 = Y) (h3 : ∀ S, S < se → pr S ≤ pu y → T2 y S = ga S ∧ P2 y S = pr S) : mc_dp Y y se pu pr ga T2 P2 := by
  intro z h1 h2 S hS ho
  have : z = y := by omega
  subst this
  exact ⟨fun _ => h3 S hS ho, fun h => absurd h (by omega)⟩
theorem mc_dp_step {Y y se : Nat} {pu pr : Nat → Nat} {ga : Nat → Int} {T T2 : Nat → Nat → Int} {P P2 : Nat → Nat → Nat} (h : mc_dp Y (y + 1) se pu pr ga T P) (hy : y + 1 < Y) (h1 : ∀ j, j ≠ y → T2 j = T j) (h2 : ∀ j, j ≠ y → P2 j = P j)
    (h3 : ∀ S, S < se → pr S ≤ pu y → ∃ f, mc_pick se (fun U => pr U ≤ pu (y + 1)) (T (y + 1)) (P (y + 1)) S f ∧ T2 y S = ga S + T (y + 1) f ∧ P2 y S = P (y + 1) f) : mc_dp Y y se pu pr ga T2 P2 := by
  intro z z1 z2 S hS ho
  by_cases e : z = y
  · subst e
    refine ⟨fun h => absurd h (by omega), fun _ => ?_⟩
    rw [h1 (z + 1) (by omega), h2 (z + 1) (by omega)]
    exact h3 S hS ho
  · have := h z (by omega) z2 S hS ho
    rw [h1 z e, h2 z e, h1 (z + 1) (by omega), h2 (z + 1) (by omega)]
    exact this
set_option maxHeartbeats 4000000 in
set_option maxRecDepth 100000 in
theorem c_P_judgeSets (l : Launch) (dC : Nat → ClassId) (dI : Nat → Nat → Nat) (r a : Nat → Nat) (cI cG : ClassId) (bu : Nat → Nat) (T : Nat → Nat → Int) (P : Nat → Nat → Nat) (pu pr : Nat → Nat) (ga : Nat → Int) (se : Nat) (n v : Nat) (C G X D : Nat → Nat) (B : Nat → Nat → Int) (sz : Nat) (hn : n ≤ 12) (hC : ∀ m, C m ≤ 10000) (hG : ∀ m, G m ≤ 10000) (hB : ∀ i j, -5000 ≤ B i j ∧ B i j ≤ 5000) (hX : ∀ m, X m < 4096) (hDD : ∀ m, D m < 4096) : Met l yP_judgeSets wdP_judgeSets ({ frames := 3, cells := 0, slots := 0, locals := 68 }) (wrP (dC, dI) mcCl (mcWP r cI cG bu T P pu pr ga se ++ mcWH a cI cG n v C G X D B) (mcTH cI cG) sz [.ref (r 0), .ref (a 0)]) (va_Qv (fun x : (Nat → Nat) × (Nat → Int) => mc_judge n C G X D B x.1 x.2 (2 ^ mc_m6 n)) (fun x t => va_P (dC, dI) mcCl (mcWP r cI cG bu T P pu x.1 x.2 (2 ^ mc_m6 n) ++ mcWH a cI cG n v C G X D B) t.heap ∧ va_K (dC, dI) mcCl (mcTH cI cG) t ∧ va_D (va_A (mcWP r cI cG bu T P pu pr ga se ++ mcWH a cI cG n v C G X D B) sz) (mcWP r cI cG bu T P pu x.1 x.2 (2 ^ mc_m6 n) ++ mcWH a cI cG n v C G X D B)) (va_A (mcWP r cI cG bu T P pu pr ga se ++ mcWH a cI cG n v C G X D B) sz)) 0 0 (va_A (mcWP r cI cG bu T P pu pr ga se ++ mcWH a cI cG n v C G X D B) sz) := by
  refine Met.ofW (cc := bP_judgeSets) (maxL := 3) (ret := none) (by decide) rfl ?_
  intro p e s m args below meth c s₁ BB hml hv
  obtain ⟨rfl, hsz, hP, hK, hD0⟩ := hv
  have hx := BB.exec
  have hb := BB.bytes
  have hr := BB.returns
  have hts := atoms_spec (ws := wdP_judgeSets) BB.pre
  have hown : s.vm.findClass RP = some m.cls := findClass_of_methodNamed BB.named
  have hlocks := BB.notSynchronized
  subst hsz
  have hD := hD0.self (sz := s.heap.size)
  generalize hAe : va_A (mcWP r cI cG bu T P pu pr ga se ++ mcWH a cI cG n v C G X D B) s.heap.size = A at hD ⊢
  have hA : ∀ q : Nat, s.heap.size ≤ q → A q := fun q h => by rw [← hAe]; exact Or.inr h
  have hS : va_S A s.heap s.heap [] := va_S.rf
  have hl := lv_entry ([.ref (r 0), .ref (a 0)]) (n := 3) (Nat.le_of_ble_eq_true rfl)
  rw [lg_entry_eq]
  generalize (lg_sl ([.ref (r 0), .ref (a 0)]) ++ List.replicate (3 - (lg_sl ([.ref (r 0), .ref (a 0)])).length) Slot.unset).toArray = ls at hl ⊢
  have hl : lv_has ls 3 [(0, .ref (r 0)), (1, .ref (a 0))] := hl
  have h6 := mc_m6_le (n := n)
  have hp6 : 2 ^ mc_m6 n ≤ 2 ^ 6 := Nat.pow_le_pow_right (by decide) h6.1
  refine lv_aload_n hx hb dP_judgeSets_0 rfl (lv_at hl 0 rfl) ?_
  refine lv_iconst (v := 1) hx hb dP_judgeSets_1 (by decide) ?_
  refine lv_aload_n hx hb dP_judgeSets_2 rfl (lv_at hl 1 rfl) ?_
  refine va_get (D := (dC, dI)) (ci := 0) (C := RH) (T := FH) (N := 7) hx hb hts (fun w h => List.mem_cons_of_mem _ (inH w h)) hown hK hP 15 rfl rfl 0 (by decide) (hts _ (List.mem_cons_of_mem _ kw52)) (fun _ h9 => h9) rfl dP_judgeSets_3 ?_
  refine lv_bipush (v := 6) hx hb dP_judgeSets_6 (by decide) ?_
  refine va_mmin hx hb (hml.trans hl.1.symm) hown (hts _ (List.mem_cons_of_mem _ kw426)) (hts _ (List.mem_cons_of_mem _ kw427)) (hts _ (List.mem_cons_of_mem _ kw35)) (by have := hts _ (List.mem_cons_of_mem _ kw428); rw [mc_min_code] at this; exact this) (Nat.le_of_ble_eq_true rfl) (Nat.le_of_ble_eq_true rfl) (Nat.le_of_ble_eq_true rfl) (Nat.le_of_ble_eq_true rfl) dP_judgeSets_8 ?_
  refine lv_topi (fun y1 ey1 => ?_)
  have hy1 : y1 = nI (mc_m6 n) := by rw [ey1]; exact mc_m6_nI hn
  subst hy1
  refine lv_ishl hx hb dP_judgeSets_11 ?_
  refine lv_topi (fun y2 ey2 => ?_)
  have hy2 : y2 = nI (2 ^ mc_m6 n) := by rw [ey2, nI_bit (by omega)]
  subst hy2
  refine va_put (D := (dC, dI)) (ci := 2) (ty := .int) (C := RP) (T := FP) (N := 7) hx hb hts (fun w h => List.mem_cons_of_mem _ (inP w h)) tP tP_ok nP hown hK hP hD hS 0 rfl rfl 6 (by decide) (hts _ (List.mem_cons_of_mem _ kw116)) (fun _ h9 => h9) rfl (by decide +kernel) rfl rfl (Nat.le_of_ble_eq_true rfl) dP_judgeSets_12 (fun H locs hP hD hS => ?_)
  have hP : va_P (dC, dI) mcCl (mcWP r cI cG bu T P pu pr ga (2 ^ mc_m6 n) ++ mcWH a cI cG n v C G X D B) H := hP
  have hD : va_D A (mcWP r cI cG bu T P pu pr ga (2 ^ mc_m6 n) ++ mcWH a cI cG n v C G X D B) := hD
  refine lv_iconst (v := 0) hx hb dP_judgeSets_15 (by decide) ?_
  refine lv_istore_n (lv' := [(2, .int 0), (0, .ref (r 0)), (1, .ref (a 0))]) hx hb dP_judgeSets_16 rfl hl (by decide) rfl (fun ls hl => ?_)
  refine lpW (σ := Nat × (Nat → Nat) × (Nat → Int)) (fun x H locs => x.1 ≤ (2 ^ mc_m6 n) ∧ mc_judge n C G X D B x.2.1 x.2.2 x.1 ∧ va_P (dC, dI) mcCl (mcWP r cI cG bu T P pu x.2.1 x.2.2 (2 ^ mc_m6 n) ++ mcWH a cI cG n v C G X D B) H ∧ va_D A (mcWP r cI cG bu T P pu x.2.1 x.2.2 (2 ^ mc_m6 n) ++ mcWH a cI cG n v C G X D B) ∧ va_S A s.heap H locs) (fun x => [(0, .ref (r 0)), (1, .ref (a 0)), (2, .int (nI x.1))]) (fun x => (2 ^ mc_m6 n) - x.1) (fun x H locs ls hI hl ih => ?_) ((0, pr, ga)) _ _ ls (⟨Nat.zero_le _, fun S h => absurd h (Nat.not_lt_zero S), hP, hD, hS⟩) (lv_sub hl [1, 2, 0] rfl)
  obtain ⟨k, p2, g2⟩ := x
  have hl : lv_has ls 3 [(0, .ref (r 0)), (1, .ref (a 0)), (2, .int (nI k))] := hl
  obtain ⟨hk, hI, hP, hD, hS⟩ := hI
  dsimp only at hk hI hP hD
  refine lv_iload_n hx hb dP_judgeSets_17 rfl (lv_at hl 2 rfl) ?_
  refine lv_aload_n hx hb dP_judgeSets_18 rfl (lv_at hl 0 rfl) ?_
  refine va_get (D := (dC, dI)) (ci := 2) (C := RP) (T := FP) (N := 7) hx hb hts (fun w h => List.mem_cons_of_mem _ (inP w h)) hown hK hP 0 rfl rfl 6 (by decide) (hts _ (List.mem_cons_of_mem _ kw116)) (fun _ h9 => h9) rfl dP_judgeSets_19 ?_
  refine lv_icmp_ge (tgt := 66) hx hb dP_judgeSets_22 (by decide) (fun c1 => ?_) (fun c1 => ?_)
  · have hkn : k = (2 ^ mc_m6 n) := by have := (nI_leI (by omega) (by omega)).mp c1; omega
    rw [hkn] at hI
    exact W.vret hx hb hr (fun t ht hW => ⟨⟨(p2, g2), rfl, hI, by rw [ht]; exact hP, va_K.moved hW.alike hK, hD⟩, hS.F ht⟩) hS.2.2 dP_judgeSets_66
  · have hkn : k < (2 ^ mc_m6 n) := by
      rcases Nat.lt_or_ge k (2 ^ mc_m6 n) with z | z
      · exact z
      · exact absurd (nI_le z (by omega)) c1
    refine lv_aload_n hx hb dP_judgeSets_25 rfl (lv_at hl 0 rfl) ?_
    refine va_get (D := (dC, dI)) (ci := 2) (C := RP) (T := FP) (N := 7) hx hb hts (fun w h => List.mem_cons_of_mem _ (inP w h)) hown hK hP 0 rfl rfl 4 (by decide) (hts _ (List.mem_cons_of_mem _ kw114)) (fun _ h9 => h9) rfl dP_judgeSets_26 ?_
    refine lv_iload_n hx hb dP_judgeSets_29 rfl (lv_at hl 2 rfl) ?_
    refine lv_aload_n hx hb dP_judgeSets_30 rfl (lv_at hl 1 rfl) ?_
    refine lv_iload_n hx hb dP_judgeSets_31 rfl (lv_at hl 2 rfl) ?_
    refine callRV (As := [.int (nI k)]) (rest := [.int (nI k), .ref (r 5)]) ⟨hx, hb, hml, hown, hts⟩ tlB (c_H_allows l dC dI a cI cG n v C G X D B k hn (by omega) (fun m => by have := hX m; omega) (fun m => by have := hDD m; omega)) kw429 kw168 kw169 kw26 kw170 ⟨rfl, rfl⟩ (n := 1) (by decide +kernel) ⟨Nat.le_of_ble_eq_true rfl, Nat.le_of_ble_eq_true rfl⟩ (roP_preV hP.rgt hK (ci := 0) (q0 := 0) rfl rfl) rfl hl.1 rfl (Nat.le_of_ble_eq_true rfl) ⟨Nat.le_of_ble_eq_true rfl, Nat.le_of_ble_eq_true rfl⟩ dP_judgeSets_32 (fun r1 hr1 => ?_)
    refine lv_if_eq (tgt := 46) hx hb dP_judgeSets_35 (by decide) (fun c2 => ?_) (fun c2 => ?_)
    · have hL : ¬ mc_law n X D k := by
        rcases hr1 with ⟨z, -⟩ | ⟨-, z⟩
        · rw [z] at c2; cases c2
        · exact z
      refine lv_ldc (v := 400001) hx hb hown (hts _ (List.mem_cons_of_mem _ kw431)) dP_judgeSets_46 ?_
      refine lv_topi (fun y3 ey3 => ?_)
      have hy3 : y3 = nI 400001 := by rw [ey3]; rfl
      subst hy3
      refine iastN hx hb hK hP hD hS 5 0 rfl rfl (k := k) (by omega) (by decide) (x := nI (400001)) (fun j => nI (va_up p2 k (400001) j)) (fun j => by simp only [va_up]; split <;> rfl) (ws' := mcWP r cI cG bu T P pu (va_up p2 k (400001)) g2 (2 ^ mc_m6 n) ++ mcWH a cI cG n v C G X D B) (rfl) dP_judgeSets_48 (fun H locs hP hD hS => ?_)
      refine lv_aload_n hx hb dP_judgeSets_49 rfl (lv_at hl 0 rfl) ?_
      refine va_get (D := (dC, dI)) (ci := 2) (C := RP) (T := FP) (N := 7) hx hb hts (fun w h => List.mem_cons_of_mem _ (inP w h)) hown hK hP 0 rfl rfl 5 (by decide) (hts _ (List.mem_cons_of_mem _ kw115)) (fun _ h9 => h9) rfl dP_judgeSets_50 ?_
      refine lv_iload_n hx hb dP_judgeSets_53 rfl (lv_at hl 2 rfl) ?_
      refine lv_aload_n hx hb dP_judgeSets_54 rfl (lv_at hl 1 rfl) ?_
      refine lv_iload_n hx hb dP_judgeSets_55 rfl (lv_at hl 2 rfl) ?_
      refine callRV (As := [.int (nI k)]) (rest := [.int (nI k), .ref (r 6)]) ⟨hx, hb, hml, hown, hts⟩ tlB (c_H_gainOf l dC dI a cI cG n v C G X D B k hn (by omega)) kw432 kw350 kw351 kw26 kw352 ⟨rfl, rfl⟩ (n := 1) (by decide +kernel) ⟨Nat.le_of_ble_eq_true rfl, Nat.le_of_ble_eq_true rfl⟩ (roP_preV hP.rgt hK (ci := 0) (q0 := 0) rfl rfl) rfl hl.1 rfl (Nat.le_of_ble_eq_true rfl) ⟨Nat.le_of_ble_eq_true rfl, Nat.le_of_ble_eq_true rfl⟩ dP_judgeSets_56 (fun r3 hr3 => ?_)
      subst hr3
      refine iastN hx hb hK hP hD hS 6 0 rfl rfl (k := k) (by omega) (by decide) (x := iI (mc_gain G B k n)) (fun j => iI (va_up g2 k (mc_gain G B k n) j)) (fun j => by simp only [va_up]; split <;> rfl) (ws' := mcWP r cI cG bu T P pu (va_up p2 k (400001)) (va_up g2 k (mc_gain G B k n)) (2 ^ mc_m6 n) ++ mcWH a cI cG n v C G X D B) (rfl) dP_judgeSets_59 (fun H locs hP hD hS => ?_)
      refine lv_iinc (v := (nI (k + 1))) (lv' := [(2, .int (nI (k + 1))), (0, .ref (r 0)), (1, .ref (a 0))]) hx hb dP_judgeSets_60 hl (k := 2) rfl (nI_1 k) (by decide) rfl (fun ls hl => ?_)
      refine lv_goto (tgt := 17) hx hb dP_judgeSets_63 (by decide) ?_
      exact ih (k + 1, va_up p2 k (400001), va_up g2 k (mc_gain G B k n)) H locs ls (⟨hkn, lt_s (fun S hS9 => by simp only [va_up]; rw [if_neg (by omega), if_neg (by omega)]; exact hI S hS9) ⟨fun h => absurd h hL, fun _ => by simp [va_up], by simp [va_up]⟩, hP, hD, hS⟩) (by dsimp only; omega) (lv_sub hl [1, 2, 0] rfl)
    · have hL : mc_law n X D k := by
        rcases hr1 with ⟨-, z⟩ | ⟨z, -⟩
        · exact z
        · exact absurd z c2
      refine lv_aload_n hx hb dP_judgeSets_38 rfl (lv_at hl 1 rfl) ?_
      refine lv_iload_n hx hb dP_judgeSets_39 rfl (lv_at hl 2 rfl) ?_
      refine callRV (As := [.int (nI k)]) (rest := [.int (nI k), .ref (r 5)]) ⟨hx, hb, hml, hown, hts⟩ tlB (c_H_costOf l dC dI a cI cG n v C G X D B k hn (by omega)) kw430 kw346 kw347 kw26 kw348 ⟨rfl, rfl⟩ (n := 1) (by decide +kernel) ⟨Nat.le_of_ble_eq_true rfl, Nat.le_of_ble_eq_true rfl⟩ (roP_preV hP.rgt hK (ci := 0) (q0 := 0) rfl rfl) rfl hl.1 rfl (Nat.le_of_ble_eq_true rfl) ⟨Nat.le_of_ble_eq_true rfl, Nat.le_of_ble_eq_true rfl⟩ dP_judgeSets_40 (fun r2 hr2 => ?_)
      subst hr2
      refine lv_goto (tgt := 48) hx hb dP_judgeSets_43 (by decide) ?_
      refine iastN hx hb hK hP hD hS 5 0 rfl rfl (k := k) (by omega) (by decide) (x := nI (mc_cost C k n)) (fun j => nI (va_up p2 k (mc_cost C k n) j)) (fun j => by simp only [va_up]; split <;> rfl) (ws' := mcWP r cI cG bu T P pu (va_up p2 k (mc_cost C k n)) g2 (2 ^ mc_m6 n) ++ mcWH a cI cG n v C G X D B) (rfl) dP_judgeSets_48 (fun H locs hP hD hS => ?_)
      refine lv_aload_n hx hb dP_judgeSets_49 rfl (lv_at hl 0 rfl) ?_
      refine va_get (D := (dC, dI)) (ci := 2) (C := RP) (T := FP) (N := 7) hx hb hts (fun w h => List.mem_cons_of_mem _ (inP w h)) hown hK hP 0 rfl rfl 5 (by decide) (hts _ (List.mem_cons_of_mem _ kw115)) (fun _ h9 => h9) rfl dP_judgeSets_50 ?_
      refine lv_iload_n hx hb dP_judgeSets_53 rfl (lv_at hl 2 rfl) ?_
      refine lv_aload_n hx hb dP_judgeSets_54 rfl (lv_at hl 1 rfl) ?_
      refine lv_iload_n hx hb dP_judgeSets_55 rfl (lv_at hl 2 rfl) ?_
      refine callRV (As := [.int (nI k)]) (rest := [.int (nI k), .ref (r 6)]) ⟨hx, hb, hml, hown, hts⟩ tlB (c_H_gainOf l dC dI a cI cG n v C G X D B k hn (by omega)) kw432 kw350 kw351 kw26 kw352 ⟨rfl, rfl⟩ (n := 1) (by decide +kernel) ⟨Nat.le_of_ble_eq_true rfl, Nat.le_of_ble_eq_true rfl⟩ (roP_preV hP.rgt hK (ci := 0) (q0 := 0) rfl rfl) rfl hl.1 rfl (Nat.le_of_ble_eq_true rfl) ⟨Nat.le_of_ble_eq_true rfl, Nat.le_of_ble_eq_true rfl⟩ dP_judgeSets_56 (fun r3 hr3 => ?_)
      subst hr3
      refine iastN hx hb hK hP hD hS 6 0 rfl rfl (k := k) (by omega) (by decide) (x := iI (mc_gain G B k n)) (fun j => iI (va_up g2 k (mc_gain G B k n) j)) (fun j => by simp only [va_up]; split <;> rfl) (ws' := mcWP r cI cG bu T P pu (va_up p2 k (mc_cost C k n)) (va_up g2 k (mc_gain G B k n)) (2 ^ mc_m6 n) ++ mcWH a cI cG n v C G X D B) (rfl) dP_judgeSets_59 (fun H locs hP hD hS => ?_)
      refine lv_iinc (v := (nI (k + 1))) (lv' := [(2, .int (nI (k + 1))), (0, .ref (r 0)), (1, .ref (a 0))]) hx hb dP_judgeSets_60 hl (k := 2) rfl (nI_1 k) (by decide) rfl (fun ls hl => ?_)
      refine lv_goto (tgt := 17) hx hb dP_judgeSets_63 (by decide) ?_
      exact ih (k + 1, va_up p2 k (mc_cost C k n), va_up g2 k (mc_gain G B k n)) H locs ls (⟨hkn, lt_s (fun S hS9 => by simp only [va_up]; rw [if_neg (by omega), if_neg (by omega)]; exact hI S hS9) ⟨fun _ => by simp [va_up], fun h => absurd hL h, by simp [va_up]⟩, hP, hD, hS⟩) (by dsimp only; omega) (lv_sub hl [1, 2, 0] rfl)
/-- all that the planner has worked out for so many years -/
def mc_plan (n : Nat) (C G X D : Nat → Nat) (B : Nat → Nat → Int) (bu : Nat → Nat) (Y : Nat) (T : Nat → Nat → Int) (P : Nat → Nat → Nat) (pu pr : Nat → Nat) (ga : Nat → Int) : Prop :=
  (∀ y, y < 4 → pu y = mc_pur bu (y + 1)) ∧ mc_judge n C G X D B pr ga (2 ^ mc_m6 n) ∧ mc_dp Y 0 (2 ^ mc_m6 n) pu pr ga T P
set_option maxHeartbeats 4000000 in
set_option maxRecDepth 100000 in
theorem c_P_work (l : Launch) (dC : Nat → ClassId) (dI : Nat → Nat → Nat) (r a : Nat → Nat) (cI cG : ClassId) (bu : Nat → Nat) (T : Nat → Nat → Int) (P : Nat → Nat → Nat) (pu pr : Nat → Nat) (ga : Nat → Int) (se : Nat) (n v : Nat) (C G X D : Nat → Nat) (B : Nat → Nat → Int) (sz : Nat) (hn : n ≤ 12) (hC : ∀ m, C m ≤ 10000) (hG : ∀ m, G m ≤ 10000) (hB : ∀ i j, -5000 ≤ B i j ∧ B i j ≤ 5000) (hX : ∀ m, X m < 4096) (hDD : ∀ m, D m < 4096) (Y : Nat) (hY1 : 1 ≤ Y) (hY4 : Y ≤ 4) (hbu : ∀ y, bu y ≤ 100000) : Met l yP_work wdP_work ({ frames := 4, cells := 0, slots := 0, locals := 90 }) (wrP (dC, dI) mcCl (mcWP r cI cG bu T P pu pr ga se ++ mcWH a cI cG n v C G X D B) (mcTH cI cG) sz [.ref (r 0), .ref (a 0), .int (nI Y)]) (va_Qv (fun x : (Nat → Nat → Int) × (Nat → Nat → Nat) × (Nat → Nat) × (Nat → Nat) × (Nat → Int) => mc_plan n C G X D B bu Y x.1 x.2.1 x.2.2.1 x.2.2.2.1 x.2.2.2.2) (fun x t => va_P (dC, dI) mcCl (mcWP r cI cG bu x.1 x.2.1 x.2.2.1 x.2.2.2.1 x.2.2.2.2 (2 ^ mc_m6 n) ++ mcWH a cI cG n v C G X D B) t.heap ∧ va_K (dC, dI) mcCl (mcTH cI cG) t ∧ va_D (va_A (mcWP r cI cG bu T P pu pr ga se ++ mcWH a cI cG n v C G X D B) sz) (mcWP r cI cG bu x.1 x.2.1 x.2.2.1 x.2.2.2.1 x.2.2.2.2 (2 ^ mc_m6 n) ++ mcWH a cI cG n v C G X D B)) (va_A (mcWP r cI cG bu T P pu pr ga se ++ mcWH a cI cG n v C G X D B) sz)) 0 0 (va_A (mcWP r cI cG bu T P pu pr ga se ++ mcWH a cI cG n v C G X D B) sz) := by
  refine Met.ofW (cc := bP_work) (maxL := 4) (ret := none) (by decide) rfl ?_
  intro p e s m args below meth c s₁ BB hml hv
  obtain ⟨rfl, hsz, hP, hK, hD0⟩ := hv
  have hx := BB.exec
  have hb := BB.bytes
  have hr := BB.returns
  have hts := atoms_spec (ws := wdP_work) BB.pre
  have hown : s.vm.findClass RP = some m.cls := findClass_of_methodNamed BB.named
  have hlocks := BB.notSynchronized
  subst hsz
  have hD := hD0.self (sz := s.heap.size)
  generalize hAe : va_A (mcWP r cI cG bu T P pu pr ga se ++ mcWH a cI cG n v C G X D B) s.heap.size = A at hD ⊢
  have hA : ∀ q : Nat, s.heap.size ≤ q → A q := fun q h => by rw [← hAe]; exact Or.inr h
  have hS : va_S A s.heap s.heap [] := va_S.rf
  have hl := lv_entry ([.ref (r 0), .ref (a 0), .int (nI Y)]) (n := 4) (Nat.le_of_ble_eq_true rfl)
  rw [lg_entry_eq]
  generalize (lg_sl ([.ref (r 0), .ref (a 0), .int (nI Y)]) ++ List.replicate (4 - (lg_sl ([.ref (r 0), .ref (a 0), .int (nI Y)])).length) Slot.unset).toArray = ls at hl ⊢
  have hl : lv_has ls 4 [(0, .ref (r 0)), (1, .ref (a 0)), (2, .int (nI Y))] := hl
  have h6 := mc_m6_le (n := n)
  have hp6 : 2 ^ mc_m6 n ≤ 2 ^ 6 := Nat.pow_le_pow_right (by decide) h6.1
  refine lv_aload_n hx hb dP_work_0 rfl (lv_at hl 0 rfl) ?_
  refine callWX (As := []) (rest := []) ⟨hx, hb, hml, hown, hts⟩ tlB (c_P_fillPurses l dC dI r cI cG bu T P pu pr ga se s.heap.size) kw420 kw421 kw9 kw28 kw422 ⟨rfl, rfl⟩ (n := 0) (by decide +kernel) ⟨Nat.le_of_ble_eq_true rfl, Nat.le_of_ble_eq_true rfl⟩ hP.lft hK hD.lft hS (va_freeL hD hS hA) (ci := 2) (q0 := 0) rfl rfl rfl hl.1 rfl (Nat.le_of_ble_eq_true rfl) ⟨Nat.le_of_ble_eq_true rfl, Nat.le_of_ble_eq_true rfl⟩ dP_work_1 (fun pu2 H1 locs1 hpu hP1 hD1 hk1 hS1 => ?_)
  obtain ⟨hP, hD⟩ := va_jnL hP hD hk1 (va_freeL hD hS hA) hP1 hD1
  have hS := hS1
  refine lv_aload_n hx hb dP_work_4 rfl (lv_at hl 0 rfl) ?_
  refine lv_aload_n hx hb dP_work_5 rfl (lv_at hl 1 rfl) ?_
  refine callWX (As := [.ref (a 0)]) (rest := []) ⟨hx, hb, hml, hown, hts⟩ tlB (c_P_judgeSets l dC dI r a cI cG bu T P pu2 pr ga se n v C G X D B H1.size hn hC hG hB hX hDD) kw423 kw424 kw10 kw28 kw425 ⟨rfl, rfl⟩ (n := 1) (by decide +kernel) ⟨Nat.le_of_ble_eq_true rfl, Nat.le_of_ble_eq_true rfl⟩ hP hK hD hS (freeA hD hS hA) (ci := 2) (q0 := 0) rfl rfl rfl hl.1 rfl (Nat.le_of_ble_eq_true rfl) ⟨Nat.le_of_ble_eq_true rfl, Nat.le_of_ble_eq_true rfl⟩ dP_work_6 (fun u9 H2 locs2 hj hP2 hD2 hk2 hS2 => ?_)
  obtain ⟨pr2, ga2⟩ := u9
  dsimp only at hj hP2 hD2
  have hD := hD2.weaken (fun _ z _ h => (freeA hD hS hA) z.1 h)
  have hP := hP2
  have hS := hS2
  have hpu4 : ∀ y, y < Y → pu2 y ≤ 400000 := fun y hy => by rw [hpu y (by omega)]; have := mc_pur_le hbu (y + 1); omega
  have hga : ∀ S, S < (2 ^ mc_m6 n) → -900000 ≤ ga2 S ∧ ga2 S ≤ 900000 := fun S hS9 => by rw [(hj S hS9).2.2]; have := mc_gain_le (S := S) hG hB n hn; omega
  have hpr2 : ∀ S, S < (2 ^ mc_m6 n) → pr2 S < 2147483648 := fun S hS9 => by
    by_cases e : mc_law n X D S
    · rw [(hj S hS9).1 e]; have := mc_cost_le (S := S) hC n; omega
    · rw [(hj S hS9).2.1 e]; omega
  refine lv_iload_n hx hb dP_work_9 rfl (lv_at hl 2 rfl) ?_
  refine lv_iconst (v := 1) hx hb dP_work_10 (by decide) ?_
  refine lv_isub hx hb dP_work_11 ?_
  refine lv_topi (fun y1 ey1 => ?_)
  have hy1 : y1 = iI ((Y : Int) - 1) := by rw [ey1, ← iI_nat, show (1 : Int32) = iI 1 from rfl, iI_sub]
  subst hy1
  refine lv_istore_n (lv' := [(3, .int (iI ((Y : Int) - 1))), (0, .ref (r 0)), (1, .ref (a 0)), (2, .int (nI Y))]) hx hb dP_work_12 rfl hl (by decide) rfl (fun ls hl => ?_)
  refine lpW (σ := Nat × (Nat → Nat → Int) × (Nat → Nat → Nat)) (fun x H locs => x.1 ≤ Y ∧ mc_dp Y x.1 (2 ^ mc_m6 n) pu2 pr2 ga2 x.2.1 x.2.2 ∧ va_P (dC, dI) mcCl (mcWP r cI cG bu x.2.1 x.2.2 pu2 pr2 ga2 (2 ^ mc_m6 n) ++ mcWH a cI cG n v C G X D B) H ∧ va_D A (mcWP r cI cG bu x.2.1 x.2.2 pu2 pr2 ga2 (2 ^ mc_m6 n) ++ mcWH a cI cG n v C G X D B) ∧ va_S A s.heap H locs) (fun x => [(0, .ref (r 0)), (1, .ref (a 0)), (2, .int (nI Y)), (3, .int (iI ((x.1 : Int) - 1)))]) (fun x => x.1) (fun x H locs ls hI hl ih => ?_) ((Y, T, P)) _ _ ls (⟨Nat.le_refl _, fun y h1 h2 => absurd h2 (by omega), hP, hD, hS⟩) (lv_sub hl [1, 2, 3, 0] rfl)
  obtain ⟨yy, T2, P2⟩ := x
  have hl : lv_has ls 4 [(0, .ref (r 0)), (1, .ref (a 0)), (2, .int (nI Y)), (3, .int (iI ((yy : Int) - 1)))] := hl
  obtain ⟨hyy, hdp, hP, hD, hS⟩ := hI
  dsimp only at hyy hdp hP hD
  refine lv_iload_n hx hb dP_work_13 rfl (lv_at hl 3 rfl) ?_
  refine lv_if_lt (tgt := 40) hx hb dP_work_14 (by decide) (fun c1 => ?_) (fun c1 => ?_)
  · have h0 : yy = 0 := by
      rw [show (0 : Int32) = iI 0 from rfl, iI_lt (by omega) (by omega) (by omega) (by omega)] at c1
      omega
    rw [h0] at hdp
    exact W.vret hx hb hr (fun t ht hW => ⟨⟨(T2, P2, pu2, pr2, ga2), rfl, ⟨hpu, hj, hdp⟩, by rw [ht]; exact hP, va_K.moved hW.alike hK, hD⟩, hS.F ht⟩) hS.2.2 dP_work_40
  · have h0 : 0 < yy := by
      rcases Nat.eq_zero_or_pos yy with z | z
      · exact absurd (by rw [z]; decide) c1
      · exact z
    obtain ⟨y, rfl⟩ : ∃ y, yy = y + 1 := ⟨yy - 1, by omega⟩
    have e3 : iI (((y + 1 : Nat) : Int) - 1) = nI y := by rw [← iI_nat]; congr 1; omega
    rw [e3] at hl
    have hl : lv_has ls 4 [(0, .ref (r 0)), (1, .ref (a 0)), (2, .int (nI Y)), (3, .int (nI y))] := hl
    refine lv_aload_n hx hb dP_work_17 rfl (lv_at hl 0 rfl) ?_
    refine lv_iload_n hx hb dP_work_18 rfl (lv_at hl 3 rfl) ?_
    refine lv_iload_n hx hb dP_work_19 rfl (lv_at hl 3 rfl) ?_
    refine lv_iload_n hx hb dP_work_20 rfl (lv_at hl 2 rfl) ?_
    refine lv_iconst (v := 1) hx hb dP_work_21 (by decide) ?_
    refine lv_isub hx hb dP_work_22 ?_
    refine lv_topi (fun y2 ey2 => ?_)
    have hy2 : y2 = nI (Y - 1) := by rw [ey2, show (1 : Int32) = nI 1 from rfl, pk_sub hY1]
    subst hy2
    refine lv_icmp_ne (tgt := 30) hx hb dP_work_23 (by decide) (fun c2 => ?_) (fun c2 => ?_)
    · have hyn : y + 1 < Y := by
        have h9 : ¬ y = Y - 1 := fun z => c2 (by rw [z])
        omega
      refine lv_iconst (v := 0) hx hb dP_work_30 (by decide) ?_
      refine callWX (As := [.int (nI y), .int 0]) (rest := []) ⟨hx, hb, hml, hown, hts⟩ tlB (c_P_workYear0 l dC dI r cI cG bu T2 P2 pu2 pr2 ga2 (2 ^ mc_m6 n) H.size y (by omega) (by omega) (by omega) hpr2 (by have := hpu4 y (by omega); omega) (by rw [hpu y (by omega), hpu (y + 1) (by omega)]; exact Nat.le_add_right _ _) (by have := hpu4 (y + 1) hyn; omega) (fun S h8 h9 => (mc_dp_T hdp hY4 hga hpu4 (Nat.le_refl _) hyn h8 h9).1) (fun S h8 h9 => (mc_dp_T hdp hY4 hga hpu4 (Nat.le_refl _) hyn h8 h9).2)) kw433 kw434 kw11 kw28 kw435 ⟨rfl, rfl⟩ (n := 2) (by decide +kernel) ⟨Nat.le_of_ble_eq_true rfl, Nat.le_of_ble_eq_true rfl⟩ hP.lft hK hD.lft hS (va_freeL hD hS hA) (ci := 2) (q0 := 0) rfl rfl rfl hl.1 rfl (Nat.le_of_ble_eq_true rfl) ⟨Nat.le_of_ble_eq_true rfl, Nat.le_of_ble_eq_true rfl⟩ dP_work_31 (fun u8 H3 locs3 hw hP3 hD3 hk3 hS3 => ?_)
      obtain ⟨T3, P3⟩ := u8
      dsimp only at hw hP3 hD3
      obtain ⟨w1, w2, w3⟩ := hw
      obtain ⟨hP, hD⟩ := va_jnL hP hD hk3 (va_freeL hD hS hA) hP3 hD3
      have hS := hS3
      refine lv_iinc (v := (iI ((y : Int) - 1))) (lv' := [(3, .int (iI ((y : Int) - 1))), (0, .ref (r 0)), (1, .ref (a 0)), (2, .int (nI Y))]) hx hb dP_work_34 hl (k := 3) rfl (by rw [← iI_nat, show Int32.ofInt (-1) = iI (-1) from rfl, iI_add]; rfl) (by decide) rfl (fun ls hl => ?_)
      refine lv_goto (tgt := 13) hx hb dP_work_37 (by decide) ?_
      exact ih (y, T3, P3) H3 locs3 ls ⟨by dsimp only; omega, mc_dp_step hdp hyn w1 w2 w3, hP, hD, hS⟩ (by dsimp only; omega) (lv_sub hl [1, 2, 3, 0] rfl)
    · have hyn : y + 1 = Y := by
        have h9 := (nI_eq (by omega) (by omega)).mp c2
        omega
      refine lv_iconst (v := 1) hx hb dP_work_26 (by decide) ?_
      refine lv_goto (tgt := 31) hx hb dP_work_27 (by decide) ?_
      refine callWX (As := [.int (nI y), .int 1]) (rest := []) ⟨hx, hb, hml, hown, hts⟩ tlB (c_P_workYear1 l dC dI r cI cG bu T2 P2 pu2 pr2 ga2 (2 ^ mc_m6 n) H.size y (by omega) (by omega) hpr2 (by have := hpu4 y (by omega); omega)) kw433 kw434 kw11 kw28 kw435 ⟨rfl, rfl⟩ (n := 2) (by decide +kernel) ⟨Nat.le_of_ble_eq_true rfl, Nat.le_of_ble_eq_true rfl⟩ hP.lft hK hD.lft hS (va_freeL hD hS hA) (ci := 2) (q0 := 0) rfl rfl rfl hl.1 rfl (Nat.le_of_ble_eq_true rfl) ⟨Nat.le_of_ble_eq_true rfl, Nat.le_of_ble_eq_true rfl⟩ dP_work_31 (fun u8 H3 locs3 hw hP3 hD3 hk3 hS3 => ?_)
      obtain ⟨T3, P3⟩ := u8
      dsimp only at hw hP3 hD3
      obtain ⟨w1, w2, w3⟩ := hw
      obtain ⟨hP, hD⟩ := va_jnL hP hD hk3 (va_freeL hD hS hA) hP3 hD3
      have hS := hS3
      refine lv_iinc (v := (iI ((y : Int) - 1))) (lv' := [(3, .int (iI ((y : Int) - 1))), (0, .ref (r 0)), (1, .ref (a 0)), (2, .int (nI Y))]) hx hb dP_work_34 hl (k := 3) rfl (by rw [← iI_nat, show Int32.ofInt (-1) = iI (-1) from rfl, iI_add]; rfl) (by decide) rfl (fun ls hl => ?_)
      refine lv_goto (tgt := 13) hx hb dP_work_37 (by decide) ?_
      exact ih (y, T3, P3) H3 locs3 ls ⟨by dsimp only; omega, mc_dp_last (T := T2) (P := P2) hyn w3, hP, hD, hS⟩ (by dsimp only; omega) (lv_sub hl [1, 2, 3, 0] rfl)
