/-! the planner: its cells, and its methods that only read -/
def mcWP (r : Nat → Nat) (cI cG : ClassId) (bu : Nat → Nat) (T : Nat → Nat → Int) (P : Nat → Nat → Nat) (pu pr : Nat → Nat) (ga : Nat → Int) (se : Nat) : va_W :=
  (r 0, .inr (2, [.ref (r 1), .ref (r 2), .ref (r 3), .ref (r 4), .ref (r 5), .ref (r 6), .int (nI se)])) :: (r 1, .inl (cI, 4, .inl (fun y => nI (bu y)))) :: (r 2, .inl (cG, 4, .inr (.inr (.inr (.inr (fun j => if j < 4 then some (r (7 + j)) else none)))))) :: (r 3, .inl (cG, 4, .inr (.inr (.inr (.inr (fun j => if j < 4 then some (r (11 + j)) else none)))))) :: (r 4, .inl (cI, 4, .inl (fun y => nI (pu y)))) :: (r 5, .inl (cI, 64, .inl (fun S => nI (pr S)))) :: (r 6, .inl (cI, 64, .inl (fun S => iI (ga S)))) :: ((List.range 4).map (fun j => (r (7 + j), .inl (cI, 64, .inl (fun S => iI (T j S))))) ++ (List.range 4).map (fun j => (r (11 + j), .inl (cI, 64, .inl (fun S => nI (P j S))))))
theorem mc4 {Q : Nat → Prop} (h0 : Q 0) (h1 : Q 1) (h2 : Q 2) (h3 : Q 3) (j : Nat) (hj : j < 4) : Q j := by
  rcases (show j = 0 ∨ j = 1 ∨ j = 2 ∨ j = 3 by omega) with rfl | rfl | rfl | rfl <;> assumption
theorem mcWP_T {r : Nat → Nat} {cI cG : ClassId} {bu : Nat → Nat} {T : Nat → Nat → Int} {P : Nat → Nat → Nat} {pu pr : Nat → Nat} {ga : Nat → Int} {se j : Nat} (hj : j < 4) : (mcWP r cI cG bu T P pu pr ga se)[7 + j]? = some (r (7 + j), .inl (cI, 64, .inl (fun S => iI (T j S)))) :=
  mc4 (Q := fun j => (mcWP r cI cG bu T P pu pr ga se)[7 + j]? = some (r (7 + j), .inl (cI, 64, .inl (fun S => iI (T j S))))) rfl rfl rfl rfl j hj
theorem mcWP_P {r : Nat → Nat} {cI cG : ClassId} {bu : Nat → Nat} {T : Nat → Nat → Int} {P : Nat → Nat → Nat} {pu pr : Nat → Nat} {ga : Nat → Int} {se j : Nat} (hj : j < 4) : (mcWP r cI cG bu T P pu pr ga se)[11 + j]? = some (r (11 + j), .inl (cI, 64, .inl (fun S => nI (P j S)))) :=
  mc4 (Q := fun j => (mcWP r cI cG bu T P pu pr ga se)[11 + j]? = some (r (11 + j), .inl (cI, 64, .inl (fun S => nI (P j S))))) rfl rfl rfl rfl j hj
theorem mc_next9 : (List.range 64).all (fun B => (List.range 64).all fun S => !(S &&& B == B) || (List.range 64).all fun U => !(U &&& B == B) || Nat.ble U S || Nat.ble ((S + 1) ||| B) U) = true := by decide +kernel
theorem mc_next (B : Nat) (hB : B < 64) (S : Nat) (hS : S < 64) (h1 : S &&& B = B) (U : Nat) (hU : U < 64) (h2 : U &&& B = B) (h3 : S < U) : (S + 1) ||| B ≤ U := by
  have h := List.all_eq_true.mp (List.all_eq_true.mp mc_next9 B (List.mem_range.mpr hB)) S (List.mem_range.mpr hS)
  rw [Bool.or_eq_true, Bool.not_eq_true'] at h
  rcases h with h | h
  · rw [beq_eq_false_iff_ne] at h
    exact absurd h1 h
  · have h := List.all_eq_true.mp h U (List.mem_range.mpr hU)
    rw [Bool.or_eq_true, Bool.or_eq_true, Bool.not_eq_true'] at h
    rcases h with (h | h) | h
    · rw [beq_eq_false_iff_ne] at h
      exact absurd h2 h
    · exact absurd (Nat.le_of_ble_eq_true h) (by omega)
    · exact Nat.le_of_ble_eq_true h
theorem mc_sub_and {B S : Nat} : mc_sub B S ↔ S &&& B = B := by
  constructor
  · intro h
    apply Nat.eq_of_testBit_eq
    intro j
    rw [Nat.testBit_and]
    have := h j
    cases hb : B.testBit j <;> cases hs : S.testBit j <;> simp_all
  · intro h j hj
    have := congrArg (fun x => x.testBit j) h
    simp only [Nat.testBit_and] at this
    rw [hj] at this
    cases hs : S.testBit j <;> simp_all
theorem mc_sub_le {B S : Nat} (h : mc_sub B S) : B ≤ S := by
  have := mc_sub_and.mp h
  rw [← this]
  exact Nat.and_le_left
theorem mc_sub_or {B S : Nat} : mc_sub B (S ||| B) := fun j hj => by rw [Nat.testBit_or, hj, Bool.or_true]
theorem mc_sub_rf {B : Nat} : mc_sub B B := fun _ h => h
theorem mc_sub_tr {A B S : Nat} (h : mc_sub A B) (h2 : mc_sub B S) : mc_sub A S := fun j hj => h2 j (h j hj)
theorem mc_sub_0 {S : Nat} : mc_sub 0 S := fun j h => by simp at h
/-- of the sets around Bf below K, f is the best so far -/
def mc_pk (N : Nat) (ok : Nat → Prop) (t : Nat → Int) (sp : Nat → Nat) (Bf f K : Nat) : Prop :=
  f < N ∧ ok f ∧ mc_sub Bf f ∧ mc_sub Bf K ∧ f ≤ K ∧ ∀ S, S < N → ok S → mc_sub Bf S → S < K → t S < t f ∨ (t S = t f ∧ (sp f < sp S ∨ (sp f = sp S ∧ f ≤ S)))
theorem mc_pk_0 {N : Nat} {ok : Nat → Prop} {t : Nat → Int} {sp : Nat → Nat} {Bf : Nat} (hB : Bf < N) (ho : ok Bf) : mc_pk N ok t sp Bf Bf Bf := ⟨hB, ho, mc_sub_rf, mc_sub_rf, Nat.le_refl _, fun S _ _ hs h => absurd (mc_sub_le hs) (by omega)⟩
theorem mc_pk_n {N : Nat} {ok : Nat → Prop} {t : Nat → Int} {sp : Nat → Nat} {Bf f K : Nat} (hN : N ≤ 64) (h : mc_pk N ok t sp Bf f K) (hK : K < N) (hb : ok K → ¬ (t f < t K ∨ (t K = t f ∧ sp K < sp f))) : mc_pk N ok t sp Bf f ((K + 1) ||| Bf) := by
  obtain ⟨h1, h2, h3, h4, h5, h6⟩ := h
  refine ⟨h1, h2, h3, mc_sub_or, Nat.le_trans h5 (Nat.le_trans (Nat.le_succ K) Nat.left_le_or), fun S hS ho hs hl => ?_⟩
  rcases Nat.lt_trichotomy S K with z | z | z
  · exact h6 S hS ho hs z
  · subst z
    have := hb ho
    rcases Int.lt_trichotomy (t S) (t f) with q | q | q
    · exact Or.inl q
    · right
      refine ⟨q, ?_⟩
      rcases Nat.lt_trichotomy (sp f) (sp S) with q2 | q2 | q2
      · exact Or.inl q2
      · exact Or.inr ⟨q2, h5⟩
      · exact absurd (Or.inr ⟨q, q2⟩) this
    · exact absurd (Or.inl q) this
  · exact absurd (mc_next Bf (by have := mc_sub_le h3; omega) K (by omega) (mc_sub_and.mp h4) S (by omega) (mc_sub_and.mp hs) z) (by omega)
theorem mc_pk_y {N : Nat} {ok : Nat → Prop} {t : Nat → Int} {sp : Nat → Nat} {Bf f K : Nat} (hN : N ≤ 64) (h : mc_pk N ok t sp Bf f K) (hK : K < N) (ho : ok K) (hb : t f < t K ∨ (t K = t f ∧ sp K < sp f)) : mc_pk N ok t sp Bf K ((K + 1) ||| Bf) := by
  obtain ⟨h1, h2, h3, h4, h5, h6⟩ := h
  refine ⟨hK, ho, h4, mc_sub_or, Nat.le_trans (Nat.le_succ K) Nat.left_le_or, fun S hS hoS hs hl => ?_⟩
  rcases Nat.lt_trichotomy S K with z | z | z
  · rcases h6 S hS hoS hs z with q | ⟨q, q2⟩ <;> rcases hb with k | ⟨k, k2⟩
    · left; omega
    · left; omega
    · left; omega
    · right
      refine ⟨by omega, Or.inl ?_⟩
      rcases q2 with q2 | ⟨q2, -⟩ <;> omega
  · subst z
    exact Or.inr ⟨rfl, Or.inr ⟨rfl, Nat.le_refl _⟩⟩
  · exact absurd (mc_next Bf (by have := mc_sub_le h3; omega) K (by omega) (mc_sub_and.mp h4) S (by omega) (mc_sub_and.mp hs) z) (by omega)
theorem mc_pk_end {N : Nat} {ok : Nat → Prop} {t : Nat → Int} {sp : Nat → Nat} {Bf f K : Nat} (h : mc_pk N ok t sp Bf f K) (hK : N ≤ K) : mc_pick N ok t sp Bf f := ⟨h.1, h.2.1, h.2.2.1, fun S hS ho hs => h.2.2.2.2.2 S hS ho hs (by omega)⟩
set_option maxHeartbeats 4000000 in
set_option maxRecDepth 100000 in
theorem c_P_isBetter (l : Launch) (dC : Nat → ClassId) (dI : Nat → Nat → Nat) (r : Nat → Nat) (cI cG : ClassId) (bu : Nat → Nat) (T : Nat → Nat → Int) (P : Nat → Nat → Nat) (pu pr : Nat → Nat) (ga : Nat → Int) (se : Nat) (y S O : Nat) (hy : y < 4) (hS : S < 64) (hO : O < 64) (hb1 : -2147483648 ≤ T y S ∧ T y S < 2147483648) (hb2 : -2147483648 ≤ T y O ∧ T y O < 2147483648) (hb3 : P y S < 2147483648) (hb4 : P y O < 2147483648) : Met l yP_isBetter wdP_isBetter ({ frames := 0, cells := 0, slots := 0, locals := 0 }) (roP (dC, dI) mcCl (mcWP r cI cG bu T P pu pr ga se) (mcTH cI cG) [.ref (r 0), .int (nI y), .int (nI S), .int (nI O)]) (vp_Si (fun z9 => mcZ (T y O < T y S ∨ (T y S = T y O ∧ P y S < P y O)) z9)) 0 0 (fun _ => False) := by
  refine Met.ofW (cc := bP_isBetter) (maxL := 4) (ret := (some FieldType.boolean)) (by decide) rfl ?_
  intro p e s m args below meth c s₁ BB hml hv
  obtain ⟨rfl, hP, hK⟩ := hv
  have hx := BB.exec
  have hb := BB.bytes
  have hr := BB.returns
  have hts := atoms_spec (ws := wdP_isBetter) BB.pre
  have hown : s.vm.findClass RP = some m.cls := findClass_of_methodNamed BB.named
  have hlocks := BB.notSynchronized
  have hl := lv_entry ([.ref (r 0), .int (nI y), .int (nI S), .int (nI O)]) (n := 4) (Nat.le_of_ble_eq_true rfl)
  rw [lg_entry_eq]
  generalize (lg_sl ([.ref (r 0), .int (nI y), .int (nI S), .int (nI O)]) ++ List.replicate (4 - (lg_sl ([.ref (r 0), .int (nI y), .int (nI S), .int (nI O)])).length) Slot.unset).toArray = ls at hl ⊢
  have hl : lv_has ls 4 [(0, .ref (r 0)), (1, .int (nI y)), (2, .int (nI S)), (3, .int (nI O))] := hl
  refine lv_aload_n hx hb dP_isBetter_0 rfl (lv_at hl 0 rfl) ?_
  refine va_get (D := (dC, dI)) (ci := 2) (C := RP) (T := FP) (N := 7) hx hb hts (fun w h => List.mem_cons_of_mem _ (inP w h)) hown hK hP 0 rfl rfl 1 (by decide) (hts _ (List.mem_cons_of_mem _ kw110)) (fun _ h9 => h9) rfl dP_isBetter_1 ?_
  refine lv_iload_n hx hb dP_isBetter_4 rfl (lv_at hl 1 rfl) ?_
  refine aldaN hx hb hK hP 2 1 rfl rfl (k := y) hy (by decide) (r := (r (7 + y))) (if_pos hy) dP_isBetter_5 ?_
  refine lv_iload_n hx hb dP_isBetter_6 rfl (lv_at hl 2 rfl) ?_
  refine ialdN hx hb hK hP (7 + y) 0 (mcWP_T hy) rfl (k := S) hS (by decide) (v := iI (T y S)) rfl dP_isBetter_7 ?_
  refine lv_aload_n hx hb dP_isBetter_8 rfl (lv_at hl 0 rfl) ?_
  refine va_get (D := (dC, dI)) (ci := 2) (C := RP) (T := FP) (N := 7) hx hb hts (fun w h => List.mem_cons_of_mem _ (inP w h)) hown hK hP 0 rfl rfl 1 (by decide) (hts _ (List.mem_cons_of_mem _ kw110)) (fun _ h9 => h9) rfl dP_isBetter_9 ?_
  refine lv_iload_n hx hb dP_isBetter_12 rfl (lv_at hl 1 rfl) ?_
  refine aldaN hx hb hK hP 2 1 rfl rfl (k := y) hy (by decide) (r := (r (7 + y))) (if_pos hy) dP_isBetter_13 ?_
  refine lv_iload_n hx hb dP_isBetter_14 rfl (lv_at hl 3 rfl) ?_
  refine ialdN hx hb hK hP (7 + y) 0 (mcWP_T hy) rfl (k := O) hO (by decide) (v := iI (T y O)) rfl dP_isBetter_15 ?_
  have heq := iI_eq (a := T y S) (b := T y O) hb1.1 hb1.2 hb2.1 hb2.2
  have hle := iI_le (a := T y S) (b := T y O) hb1.1 hb1.2 hb2.1 hb2.2
  have hpl := nI_leI (a := P y O) (b := P y S) (by omega) (by omega)
  refine lv_icmp_eq (tgt := 44) hx hb dP_isBetter_16 (by decide) (fun c1 => ?_) (fun c1 => ?_)
  · have c1 := heq.mp c1
    refine lv_aload_n hx hb dP_isBetter_44 rfl (lv_at hl 0 rfl) ?_
    refine va_get (D := (dC, dI)) (ci := 2) (C := RP) (T := FP) (N := 7) hx hb hts (fun w h => List.mem_cons_of_mem _ (inP w h)) hown hK hP 0 rfl rfl 2 (by decide) (hts _ (List.mem_cons_of_mem _ kw112)) (fun _ h9 => h9) rfl dP_isBetter_45 ?_
    refine lv_iload_n hx hb dP_isBetter_48 rfl (lv_at hl 1 rfl) ?_
    refine aldaN hx hb hK hP 3 1 rfl rfl (k := y) hy (by decide) (r := (r (11 + y))) (if_pos hy) dP_isBetter_49 ?_
    refine lv_iload_n hx hb dP_isBetter_50 rfl (lv_at hl 2 rfl) ?_
    refine ialdN hx hb hK hP (11 + y) 0 (mcWP_P hy) rfl (k := S) hS (by decide) (v := nI (P y S)) rfl dP_isBetter_51 ?_
    refine lv_aload_n hx hb dP_isBetter_52 rfl (lv_at hl 0 rfl) ?_
    refine va_get (D := (dC, dI)) (ci := 2) (C := RP) (T := FP) (N := 7) hx hb hts (fun w h => List.mem_cons_of_mem _ (inP w h)) hown hK hP 0 rfl rfl 2 (by decide) (hts _ (List.mem_cons_of_mem _ kw112)) (fun _ h9 => h9) rfl dP_isBetter_53 ?_
    refine lv_iload_n hx hb dP_isBetter_56 rfl (lv_at hl 1 rfl) ?_
    refine aldaN hx hb hK hP 3 1 rfl rfl (k := y) hy (by decide) (r := (r (11 + y))) (if_pos hy) dP_isBetter_57 ?_
    refine lv_iload_n hx hb dP_isBetter_58 rfl (lv_at hl 3 rfl) ?_
    refine ialdN hx hb hK hP (11 + y) 0 (mcWP_P hy) rfl (k := O) hO (by decide) (v := nI (P y O)) rfl dP_isBetter_59 ?_
    refine lv_icmp_ge (tgt := 67) hx hb dP_isBetter_60 (by decide) (fun c2 => ?_) (fun c2 => ?_)
    · have c2 := hpl.mp c2
      refine lv_iconst (v := 0) hx hb dP_isBetter_67 (by decide) ?_
      exact W.zret hx hb hr rfl (fun t ht hW => ⟨_, rfl, Or.inr ⟨rfl, fun h => by rcases h with q | ⟨q, q2⟩ <;> omega⟩, ht⟩) (fun q hq => by cases hq) dP_isBetter_68
    · have c2 : P y S < P y O := by
        rcases Nat.lt_or_ge (P y S) (P y O) with q | q
        · exact q
        · exact absurd (hpl.mpr q) c2
      refine lv_iconst (v := 1) hx hb dP_isBetter_63 (by decide) ?_
      refine lv_goto (tgt := 68) hx hb dP_isBetter_64 (by decide) ?_
      exact W.zret hx hb hr rfl (fun t ht hW => ⟨_, rfl, Or.inl ⟨rfl, Or.inr ⟨c1, c2⟩⟩, ht⟩) (fun q hq => by cases hq) dP_isBetter_68
  · have c1 : ¬ T y S = T y O := fun h => c1 (heq.mpr h)
    refine lv_aload_n hx hb dP_isBetter_19 rfl (lv_at hl 0 rfl) ?_
    refine va_get (D := (dC, dI)) (ci := 2) (C := RP) (T := FP) (N := 7) hx hb hts (fun w h => List.mem_cons_of_mem _ (inP w h)) hown hK hP 0 rfl rfl 1 (by decide) (hts _ (List.mem_cons_of_mem _ kw110)) (fun _ h9 => h9) rfl dP_isBetter_20 ?_
    refine lv_iload_n hx hb dP_isBetter_23 rfl (lv_at hl 1 rfl) ?_
    refine aldaN hx hb hK hP 2 1 rfl rfl (k := y) hy (by decide) (r := (r (7 + y))) (if_pos hy) dP_isBetter_24 ?_
    refine lv_iload_n hx hb dP_isBetter_25 rfl (lv_at hl 2 rfl) ?_
    refine ialdN hx hb hK hP (7 + y) 0 (mcWP_T hy) rfl (k := S) hS (by decide) (v := iI (T y S)) rfl dP_isBetter_26 ?_
    refine lv_aload_n hx hb dP_isBetter_27 rfl (lv_at hl 0 rfl) ?_
    refine va_get (D := (dC, dI)) (ci := 2) (C := RP) (T := FP) (N := 7) hx hb hts (fun w h => List.mem_cons_of_mem _ (inP w h)) hown hK hP 0 rfl rfl 1 (by decide) (hts _ (List.mem_cons_of_mem _ kw110)) (fun _ h9 => h9) rfl dP_isBetter_28 ?_
    refine lv_iload_n hx hb dP_isBetter_31 rfl (lv_at hl 1 rfl) ?_
    refine aldaN hx hb hK hP 2 1 rfl rfl (k := y) hy (by decide) (r := (r (7 + y))) (if_pos hy) dP_isBetter_32 ?_
    refine lv_iload_n hx hb dP_isBetter_33 rfl (lv_at hl 3 rfl) ?_
    refine ialdN hx hb hK hP (7 + y) 0 (mcWP_T hy) rfl (k := O) hO (by decide) (v := iI (T y O)) rfl dP_isBetter_34 ?_
    refine lv_icmp_le (tgt := 42) hx hb dP_isBetter_35 (by decide) (fun c2 => ?_) (fun c2 => ?_)
    · have c2 := hle.mp c2
      refine lv_iconst (v := 0) hx hb dP_isBetter_42 (by decide) ?_
      exact W.zret hx hb hr rfl (fun t ht hW => ⟨_, rfl, Or.inr ⟨rfl, fun h => by rcases h with q | ⟨q, q2⟩ <;> omega⟩, ht⟩) (fun q hq => by cases hq) dP_isBetter_43
    · have c2 : T y O < T y S := by
        rcases Int.lt_or_le (T y O) (T y S) with q | q
        · exact q
        · exact absurd (hle.mpr q) c2
      refine lv_iconst (v := 1) hx hb dP_isBetter_38 (by decide) ?_
      refine lv_goto (tgt := 43) hx hb dP_isBetter_39 (by decide) ?_
      exact W.zret hx hb hr rfl (fun t ht hW => ⟨_, rfl, Or.inl ⟨rfl, Or.inl c2⟩, ht⟩) (fun q hq => by cases hq) dP_isBetter_43
set_option maxHeartbeats 4000000 in
set_option maxRecDepth 100000 in
theorem c_P_bestFrom (l : Launch) (dC : Nat → ClassId) (dI : Nat → Nat → Nat) (r : Nat → Nat) (cI cG : ClassId) (bu : Nat → Nat) (T : Nat → Nat → Int) (P : Nat → Nat → Nat) (pu pr : Nat → Nat) (ga : Nat → Int) (se : Nat) (Bf y : Nat) (hy : y < 4) (hse : se ≤ 64) (hpr : ∀ S, S < se → pr S < 2147483648) (hpu : pu y < 2147483648) (hT : ∀ S, S < se → pr S ≤ pu y → -2147483648 ≤ T y S ∧ T y S < 2147483648) (hP9 : ∀ S, S < se → pr S ≤ pu y → P y S < 2147483648) (hB1 : Bf < se) (hB2 : pr Bf ≤ pu y) : Met l yP_bestFrom wdP_bestFrom ({ frames := 1, cells := 0, slots := 0, locals := 23 }) (roP (dC, dI) mcCl (mcWP r cI cG bu T P pu pr ga se) (mcTH cI cG) [.ref (r 0), .int (nI Bf), .int (nI y)]) (vp_Si (fun z9 => ∃ f, z9 = nI f ∧ mc_pick se (fun S => pr S ≤ pu y) (T y) (P y) Bf f)) 0 0 (fun _ => False) := by
  refine Met.ofW (cc := bP_bestFrom) (maxL := 5) (ret := (some FieldType.int)) (by decide) rfl ?_
  intro p e s m args below meth c s₁ BB hml hv
  obtain ⟨rfl, hP, hK⟩ := hv
  have hx := BB.exec
  have hb := BB.bytes
  have hr := BB.returns
  have hts := atoms_spec (ws := wdP_bestFrom) BB.pre
  have hown : s.vm.findClass RP = some m.cls := findClass_of_methodNamed BB.named
  have hlocks := BB.notSynchronized
  have hl := lv_entry ([.ref (r 0), .int (nI Bf), .int (nI y)]) (n := 5) (Nat.le_of_ble_eq_true rfl)
  rw [lg_entry_eq]
  generalize (lg_sl ([.ref (r 0), .int (nI Bf), .int (nI y)]) ++ List.replicate (5 - (lg_sl ([.ref (r 0), .int (nI Bf), .int (nI y)])).length) Slot.unset).toArray = ls at hl ⊢
  have hl : lv_has ls 5 [(0, .ref (r 0)), (1, .int (nI Bf)), (2, .int (nI y))] := hl
  refine lv_iload_n hx hb dP_bestFrom_0 rfl (lv_at hl 1 rfl) ?_
  refine lv_istore_n (lv' := [(3, .int (nI Bf)), (0, .ref (r 0)), (1, .int (nI Bf)), (2, .int (nI y))]) hx hb dP_bestFrom_1 rfl hl (by decide) rfl (fun ls hl => ?_)
  refine lv_iload_n hx hb dP_bestFrom_2 rfl (lv_at hl 2 rfl) ?_
  refine lv_istore (lv' := [(4, .int (nI Bf)), (3, .int (nI Bf)), (0, .ref (r 0)), (1, .int (nI Bf)), (2, .int (nI y))]) hx hb dP_bestFrom_3 hl (by decide) rfl (fun ls hl => ?_)
  refine lpR (σ := Nat × Nat) (fun x => mc_pk se (fun S => pr S ≤ pu y) (T y) (P y) Bf x.1 x.2 ∧ x.2 < 128) (fun x => [(0, .ref (r 0)), (1, .int (nI Bf)), (2, .int (nI y)), (3, .int (nI x.1)), (4, .int (nI x.2))]) (fun x => 128 - x.2) (fun x ls hI hl ih => ?_) ((Bf, Bf)) ls (⟨mc_pk_0 hB1 hB2, by dsimp only; omega⟩) (lv_sub hl [2, 3, 4, 1, 0] rfl)
  obtain ⟨f, K⟩ := x
  have hl : lv_has ls 5 [(0, .ref (r 0)), (1, .int (nI Bf)), (2, .int (nI y)), (3, .int (nI f)), (4, .int (nI K))] := hl
  obtain ⟨hI, hK7⟩ := hI
  dsimp only at hI hK7
  refine lv_iload hx hb dP_bestFrom_5 (lv_at hl 4 rfl) ?_
  refine lv_aload_n hx hb dP_bestFrom_7 rfl (lv_at hl 0 rfl) ?_
  refine va_get (D := (dC, dI)) (ci := 2) (C := RP) (T := FP) (N := 7) hx hb hts (fun w h => List.mem_cons_of_mem _ (inP w h)) hown hK hP 0 rfl rfl 6 (by decide) (hts _ (List.mem_cons_of_mem _ kw116)) (fun _ h9 => h9) rfl dP_bestFrom_8 ?_
  refine lv_icmp_ge (tgt := 55) hx hb dP_bestFrom_11 (by decide) (fun c1 => ?_) (fun c1 => ?_)
  · have hkn : se ≤ K := (nI_leI (by omega) (by omega)).mp c1
    refine lv_iload_n hx hb dP_bestFrom_55 rfl (lv_at hl 3 rfl) ?_
    exact W.iret hx hb hr (fun t ht hW => ⟨_, rfl, ⟨f, rfl, mc_pk_end hI hkn⟩, ht⟩) (fun q hq => by cases hq) dP_bestFrom_56
  · have hkn : K < se := by
      rcases Nat.lt_or_ge K se with z | z
      · exact z
      · exact absurd (nI_le z (by omega)) c1
    have hi9 := hI
    obtain ⟨i1, i2, i3, i4, i5, -⟩ := hi9
    have hkp := hpr K hkn
    have hor : (K + 1) ||| Bf < 128 := Nat.or_lt_two_pow (n := 7) (by omega) (by omega)
    have hgt : K < (K + 1) ||| Bf := Nat.lt_of_lt_of_le (Nat.lt_succ_self K) Nat.left_le_or
    refine lv_aload_n hx hb dP_bestFrom_14 rfl (lv_at hl 0 rfl) ?_
    refine va_get (D := (dC, dI)) (ci := 2) (C := RP) (T := FP) (N := 7) hx hb hts (fun w h => List.mem_cons_of_mem _ (inP w h)) hown hK hP 0 rfl rfl 4 (by decide) (hts _ (List.mem_cons_of_mem _ kw114)) (fun _ h9 => h9) rfl dP_bestFrom_15 ?_
    refine lv_iload hx hb dP_bestFrom_18 (lv_at hl 4 rfl) ?_
    refine ialdN hx hb hK hP 5 0 rfl rfl (k := K) (by omega) (by decide) (v := nI (pr K)) rfl dP_bestFrom_20 ?_
    refine lv_aload_n hx hb dP_bestFrom_21 rfl (lv_at hl 0 rfl) ?_
    refine va_get (D := (dC, dI)) (ci := 2) (C := RP) (T := FP) (N := 7) hx hb hts (fun w h => List.mem_cons_of_mem _ (inP w h)) hown hK hP 0 rfl rfl 3 (by decide) (hts _ (List.mem_cons_of_mem _ kw113)) (fun _ h9 => h9) rfl dP_bestFrom_22 ?_
    refine lv_iload_n hx hb dP_bestFrom_25 rfl (lv_at hl 2 rfl) ?_
    refine ialdN hx hb hK hP 4 0 rfl rfl (k := y) hy (by decide) (v := nI (pu y)) rfl dP_bestFrom_26 ?_
    refine lv_icmp_gt (tgt := 44) hx hb dP_bestFrom_27 (by decide) (fun c2 => ?_) (fun c2 => ?_)
    · have c2 : pu y < pr K := (nI_ltI (by omega) (by omega)).mp c2
      refine lv_iload hx hb dP_bestFrom_44 (lv_at hl 4 rfl) ?_
      refine lv_iconst (v := 1) hx hb dP_bestFrom_46 (by decide) ?_
      refine lv_iadd hx hb dP_bestFrom_47 ?_
      refine lv_iload_n hx hb dP_bestFrom_48 rfl (lv_at hl 1 rfl) ?_
      refine lv_ior hx hb dP_bestFrom_49 ?_
      refine lv_topi (fun y1 ey1 => ?_)
      have hy1 : y1 = nI ((K + 1) ||| Bf) := by rw [ey1, nI_1, nI_or]
      subst hy1
      refine lv_istore (lv' := [(4, .int (nI ((K + 1) ||| Bf))), (0, .ref (r 0)), (1, .int (nI Bf)), (2, .int (nI y)), (3, .int (nI f))]) hx hb dP_bestFrom_50 hl (by decide) rfl (fun ls hl => ?_)
      refine lv_goto (tgt := 5) hx hb dP_bestFrom_52 (by decide) ?_
      exact ih (f, (K + 1) ||| Bf) ls (⟨mc_pk_n hse hI hkn (fun h => absurd h (by omega)), hor⟩) (by dsimp only; omega) (lv_sub hl [1, 2, 3, 4, 0] rfl)
    · have c2 : pr K ≤ pu y := by
        rcases Nat.lt_or_ge (pu y) (pr K) with z | z
        · exact absurd ((nI_ltI (by omega) (by omega)).mpr z) c2
        · exact z
      refine lv_aload_n hx hb dP_bestFrom_30 rfl (lv_at hl 0 rfl) ?_
      refine lv_iload_n hx hb dP_bestFrom_31 rfl (lv_at hl 2 rfl) ?_
      refine lv_iload hx hb dP_bestFrom_32 (lv_at hl 4 rfl) ?_
      refine lv_iload_n hx hb dP_bestFrom_34 rfl (lv_at hl 3 rfl) ?_
      refine callRV (As := [.int (nI y), .int (nI K), .int (nI f)]) (rest := []) ⟨hx, hb, hml, hown, hts⟩ tlB (c_P_isBetter l dC dI r cI cG bu T P pu pr ga se y K f hy (by omega) (by omega) (hT K hkn c2) (hT f i1 i2) (hP9 K hkn c2) (hP9 f i1 i2)) kw439 kw440 kw13 kw28 kw441 ⟨rfl, rfl⟩ (n := 3) (by decide +kernel) ⟨Nat.le_of_ble_eq_true rfl, Nat.le_of_ble_eq_true rfl⟩ (roP_preV hP hK (ci := 2) (q0 := 0) rfl rfl) rfl hl.1 rfl (Nat.le_of_ble_eq_true rfl) ⟨Nat.le_of_ble_eq_true rfl, Nat.le_of_ble_eq_true rfl⟩ dP_bestFrom_35 (fun r1 hr1 => ?_)
      refine lv_if_eq (tgt := 44) hx hb dP_bestFrom_38 (by decide) (fun c3 => ?_) (fun c3 => ?_)
      · have c3 : ¬ (T y f < T y K ∨ (T y K = T y f ∧ P y K < P y f)) := by
          rcases hr1 with ⟨z, -⟩ | ⟨-, z⟩
          · rw [z] at c3; cases c3
          · exact z
        refine lv_iload hx hb dP_bestFrom_44 (lv_at hl 4 rfl) ?_
        refine lv_iconst (v := 1) hx hb dP_bestFrom_46 (by decide) ?_
        refine lv_iadd hx hb dP_bestFrom_47 ?_
        refine lv_iload_n hx hb dP_bestFrom_48 rfl (lv_at hl 1 rfl) ?_
        refine lv_ior hx hb dP_bestFrom_49 ?_
        refine lv_topi (fun y2 ey2 => ?_)
        have hy2 : y2 = nI ((K + 1) ||| Bf) := by rw [ey2, nI_1, nI_or]
        subst hy2
        refine lv_istore (lv' := [(4, .int (nI ((K + 1) ||| Bf))), (0, .ref (r 0)), (1, .int (nI Bf)), (2, .int (nI y)), (3, .int (nI f))]) hx hb dP_bestFrom_50 hl (by decide) rfl (fun ls hl => ?_)
        refine lv_goto (tgt := 5) hx hb dP_bestFrom_52 (by decide) ?_
        exact ih (f, (K + 1) ||| Bf) ls (⟨mc_pk_n hse hI hkn (fun _ => c3), hor⟩) (by dsimp only; omega) (lv_sub hl [1, 2, 3, 4, 0] rfl)
      · have c3 : T y f < T y K ∨ (T y K = T y f ∧ P y K < P y f) := by
          rcases hr1 with ⟨-, z⟩ | ⟨z, -⟩
          · exact z
          · exact absurd z c3
        refine lv_iload hx hb dP_bestFrom_41 (lv_at hl 4 rfl) ?_
        refine lv_istore_n (lv' := [(3, .int (nI K)), (0, .ref (r 0)), (1, .int (nI Bf)), (2, .int (nI y)), (4, .int (nI K))]) hx hb dP_bestFrom_43 rfl hl (by decide) rfl (fun ls hl => ?_)
        refine lv_iload hx hb dP_bestFrom_44 (lv_at hl 4 rfl) ?_
        refine lv_iconst (v := 1) hx hb dP_bestFrom_46 (by decide) ?_
        refine lv_iadd hx hb dP_bestFrom_47 ?_
        refine lv_iload_n hx hb dP_bestFrom_48 rfl (lv_at hl 2 rfl) ?_
        refine lv_ior hx hb dP_bestFrom_49 ?_
        refine lv_topi (fun y3 ey3 => ?_)
        have hy3 : y3 = nI ((K + 1) ||| Bf) := by rw [ey3, nI_1, nI_or]
        subst hy3
        refine lv_istore (lv' := [(4, .int (nI ((K + 1) ||| Bf))), (3, .int (nI K)), (0, .ref (r 0)), (1, .int (nI Bf)), (2, .int (nI y))]) hx hb dP_bestFrom_50 hl (by decide) rfl (fun ls hl => ?_)
        refine lv_goto (tgt := 5) hx hb dP_bestFrom_52 (by decide) ?_
        exact ih (K, (K + 1) ||| Bf) ls (⟨mc_pk_y hse hI hkn c2 c3, hor⟩) (by dsimp only; omega) (lv_sub hl [2, 3, 4, 1, 0] rfl)
/-- what was bought up to the k-th year, by the best choices -/
def mc_seq (pk : Nat → Nat → Nat → Prop) : Nat → Nat → Prop
  | 0, f => pk 0 0 f
  | k + 1, f => ∃ b, mc_seq pk k b ∧ pk (k + 1) b f
set_option maxHeartbeats 4000000 in
set_option maxRecDepth 100000 in
theorem c_P_boughtUpTo (l : Launch) (dC : Nat → ClassId) (dI : Nat → Nat → Nat) (r : Nat → Nat) (cI cG : ClassId) (bu : Nat → Nat) (T : Nat → Nat → Int) (P : Nat → Nat → Nat) (pu pr : Nat → Nat) (ga : Nat → Int) (se : Nat) (k : Nat) (hk : k < 4) (hse : se ≤ 64) (hse0 : 0 < se) (hp0 : pr 0 = 0) (hmo : ∀ y, y < k → pu y ≤ pu (y + 1)) (hpr : ∀ S, S < se → pr S < 2147483648) (hpu : ∀ y, y ≤ k → pu y < 2147483648) (hT : ∀ y S, y ≤ k → S < se → pr S ≤ pu y → -2147483648 ≤ T y S ∧ T y S < 2147483648) (hP9 : ∀ y S, y ≤ k → S < se → pr S ≤ pu y → P y S < 2147483648) : Met l yP_boughtUpTo wdP_boughtUpTo ({ frames := 2, cells := 0, slots := 0, locals := 47 }) (roP (dC, dI) mcCl (mcWP r cI cG bu T P pu pr ga se) (mcTH cI cG) [.ref (r 0), .int (nI k)]) (vp_Si (fun z9 => ∃ f, z9 = nI f ∧ mc_seq (fun y b f => mc_pick se (fun S => pr S ≤ pu y) (T y) (P y) b f) k f)) 0 0 (fun _ => False) := by
  refine Met.ofW (cc := bP_boughtUpTo) (maxL := 4) (ret := (some FieldType.int)) (by decide) rfl ?_
  intro p e s m args below meth c s₁ BB hml hv
  obtain ⟨rfl, hP, hK⟩ := hv
  have hx := BB.exec
  have hb := BB.bytes
  have hr := BB.returns
  have hts := atoms_spec (ws := wdP_boughtUpTo) BB.pre
  have hown : s.vm.findClass RP = some m.cls := findClass_of_methodNamed BB.named
  have hlocks := BB.notSynchronized
  have hl := lv_entry ([.ref (r 0), .int (nI k)]) (n := 4) (Nat.le_of_ble_eq_true rfl)
  rw [lg_entry_eq]
  generalize (lg_sl ([.ref (r 0), .int (nI k)]) ++ List.replicate (4 - (lg_sl ([.ref (r 0), .int (nI k)])).length) Slot.unset).toArray = ls at hl ⊢
  have hl : lv_has ls 4 [(0, .ref (r 0)), (1, .int (nI k))] := hl
  refine lv_iconst (v := 0) hx hb dP_boughtUpTo_0 (by decide) ?_
  refine lv_istore_n (lv' := [(2, .int 0), (0, .ref (r 0)), (1, .int (nI k))]) hx hb dP_boughtUpTo_1 rfl hl (by decide) rfl (fun ls hl => ?_)
  refine lv_iconst (v := 0) hx hb dP_boughtUpTo_2 (by decide) ?_
  refine lv_istore_n (lv' := [(3, .int 0), (2, .int 0), (0, .ref (r 0)), (1, .int (nI k))]) hx hb dP_boughtUpTo_3 rfl hl (by decide) rfl (fun ls hl => ?_)
  refine lpR (σ := Nat × Nat) (fun x => x.2 ≤ k + 1 ∧ x.1 < se ∧ (x.2 = 0 → x.1 = 0) ∧ (∀ y, x.2 = y + 1 → mc_seq (fun y b f => mc_pick se (fun S => pr S ≤ pu y) (T y) (P y) b f) y x.1 ∧ pr x.1 ≤ pu y)) (fun x => [(0, .ref (r 0)), (1, .int (nI k)), (2, .int (nI x.1)), (3, .int (nI x.2))]) (fun x => k + 1 - x.2) (fun x ls hI hl ih => ?_) ((0, 0)) ls (⟨Nat.zero_le _, hse0, fun _ => rfl, fun y h => absurd h (by dsimp only; omega)⟩) (lv_sub hl [2, 3, 1, 0] rfl)
  obtain ⟨f, y⟩ := x
  have hl : lv_has ls 4 [(0, .ref (r 0)), (1, .int (nI k)), (2, .int (nI f)), (3, .int (nI y))] := hl
  obtain ⟨i1, i2, i3, i4⟩ := hI
  dsimp only at i1 i2 i3 i4
  refine lv_iload_n hx hb dP_boughtUpTo_4 rfl (lv_at hl 3 rfl) ?_
  refine lv_iload_n hx hb dP_boughtUpTo_5 rfl (lv_at hl 1 rfl) ?_
  refine lv_icmp_gt (tgt := 22) hx hb dP_boughtUpTo_6 (by decide) (fun c1 => ?_) (fun c1 => ?_)
  · have hkn : k < y := (nI_ltI (by omega) (by omega)).mp c1
    obtain ⟨j1, j2⟩ := i4 k (by omega)
    refine lv_iload_n hx hb dP_boughtUpTo_22 rfl (lv_at hl 2 rfl) ?_
    exact W.iret hx hb hr (fun t ht hW => ⟨_, rfl, ⟨f, rfl, j1⟩, ht⟩) (fun q hq => by cases hq) dP_boughtUpTo_23
  · have hkn : y ≤ k := by
      rcases Nat.lt_or_ge k y with z | z
      · exact absurd ((nI_ltI (by omega) (by omega)).mpr z) c1
      · exact z
    have hok : pr f ≤ pu y := by
      cases y with
      | zero => rw [i3 rfl, hp0]; exact Nat.zero_le _
      | succ y => exact Nat.le_trans (i4 y rfl).2 (hmo y (by omega))
    refine lv_aload_n hx hb dP_boughtUpTo_9 rfl (lv_at hl 0 rfl) ?_
    refine lv_iload_n hx hb dP_boughtUpTo_10 rfl (lv_at hl 2 rfl) ?_
    refine lv_iload_n hx hb dP_boughtUpTo_11 rfl (lv_at hl 3 rfl) ?_
    refine callRV (As := [.int (nI f), .int (nI y)]) (rest := []) ⟨hx, hb, hml, hown, hts⟩ tlB (c_P_bestFrom l dC dI r cI cG bu T P pu pr ga se f y (by omega) hse hpr (hpu y hkn) (fun S => hT y S hkn) (fun S => hP9 y S hkn) i2 hok) kw436 kw437 kw12 kw28 kw438 ⟨rfl, rfl⟩ (n := 2) (by decide +kernel) ⟨Nat.le_of_ble_eq_true rfl, Nat.le_of_ble_eq_true rfl⟩ (roP_preV hP hK (ci := 2) (q0 := 0) rfl rfl) rfl hl.1 rfl (Nat.le_of_ble_eq_true rfl) ⟨Nat.le_of_ble_eq_true rfl, Nat.le_of_ble_eq_true rfl⟩ dP_boughtUpTo_12 (fun r1 hr1 => ?_)
    obtain ⟨f2, rfl, hf2⟩ := hr1
    refine lv_istore_n (lv' := [(2, .int (nI f2)), (0, .ref (r 0)), (1, .int (nI k)), (3, .int (nI y))]) hx hb dP_boughtUpTo_15 rfl hl (by decide) rfl (fun ls hl => ?_)
    refine lv_iinc (v := (nI (y + 1))) (lv' := [(3, .int (nI (y + 1))), (2, .int (nI f2)), (0, .ref (r 0)), (1, .int (nI k))]) hx hb dP_boughtUpTo_16 hl (k := 3) rfl (nI_1 y) (by decide) rfl (fun ls hl => ?_)
    refine lv_goto (tgt := 4) hx hb dP_boughtUpTo_19 (by decide) ?_
    refine ih (f2, y + 1) ls (⟨by dsimp only; omega, hf2.1, fun h => absurd h (by dsimp only; omega), fun y2 h2 => ?_⟩) (by dsimp only; omega) (lv_sub hl [2, 3, 1, 0] rfl)
    have h2 : y + 1 = y2 + 1 := h2
    have h3 : y2 = y := by omega
    subst h3
    refine ⟨?_, hf2.2.1⟩
    cases y2 with
    | zero => rw [i3 rfl] at hf2; exact hf2
    | succ y2 => exact ⟨f, (i4 y2 rfl).1, hf2⟩
