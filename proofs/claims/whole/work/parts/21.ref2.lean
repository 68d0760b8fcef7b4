/-! the reference: good, holds, closure -/
set_option maxHeartbeats 4000000 in
set_option maxRecDepth 100000 in
theorem c_R_good1 (l : Launch) (dC : Nat → ClassId) (dI : Nat → Nat → Nat) (w : Nat → Nat) (cI cZ : ClassId) (th n : Nat) (C G X D : Nat → Nat) (B : Nat → Nat → Int) (bu : Nat → Nat) (LG : Nat → Int) (LC : Nat → Nat) (ch : Nat → Int) (sz : Nat)  : Met l yR_good wdR_good ({ frames := 0, cells := 0, slots := 0, locals := 0 }) (wrP (dC, dI) mcCl (mcWR w cI cZ th n C G X D B bu LG LC ch) (mcTR cI cZ) sz [.ref (w 0), .int 1]) (va_Qi (fun z9 (_ : Unit) => z9 = 1) (fun _ t => va_P (dC, dI) mcCl (mcWR w cI cZ 0 n C G X D B bu LG LC ch) t.heap ∧ va_K (dC, dI) mcCl (mcTR cI cZ) t ∧ va_D (va_A (mcWR w cI cZ th n C G X D B bu LG LC ch) sz) (mcWR w cI cZ 0 n C G X D B bu LG LC ch)) (va_A (mcWR w cI cZ th n C G X D B bu LG LC ch) sz)) 0 0 (va_A (mcWR w cI cZ th n C G X D B bu LG LC ch) sz) := by
  refine Met.ofW (cc := bR_good) (maxL := 2) (ret := (some FieldType.boolean)) (by decide) rfl ?_
  intro p e s m args below meth c s₁ BB hml hv
  obtain ⟨rfl, hsz, hP, hK, hD0⟩ := hv
  have hx := BB.exec
  have hb := BB.bytes
  have hr := BB.returns
  have hts := atoms_spec (ws := wdR_good) BB.pre
  have hown : s.vm.findClass RR = some m.cls := findClass_of_methodNamed BB.named
  have hlocks := BB.notSynchronized
  subst hsz
  have hD := hD0.self (sz := s.heap.size)
  generalize hAe : va_A (mcWR w cI cZ th n C G X D B bu LG LC ch) s.heap.size = A at hD ⊢
  have hA : ∀ q : Nat, s.heap.size ≤ q → A q := fun q h => by rw [← hAe]; exact Or.inr h
  have hS : va_S A s.heap s.heap [] := va_S.rf
  have hl := lv_entry ([.ref (w 0), .int 1]) (n := 2) (Nat.le_of_ble_eq_true rfl)
  rw [lg_entry_eq]
  generalize (lg_sl ([.ref (w 0), .int 1]) ++ List.replicate (2 - (lg_sl ([.ref (w 0), .int 1])).length) Slot.unset).toArray = ls at hl ⊢
  have hl : lv_has ls 2 [(0, .ref (w 0)), (1, .int 1)] := hl
  refine lv_aload_n hx hb dR_good_0 rfl (lv_at hl 0 rfl) ?_
  refine lv_iload_n hx hb dR_good_1 rfl (lv_at hl 1 rfl) ?_
  refine lv_if_eq (tgt := 9) hx hb dR_good_2 (by decide) (fun c1 => ?_) (fun c1 => ?_)
  · exact absurd c1 (by decide)
  ·
    refine lv_iconst (v := 0) hx hb dR_good_5 (by decide) ?_
    refine lv_goto (tgt := 10) hx hb dR_good_6 (by decide) ?_
    refine lv_topi (fun y1 ey1 => ?_)
    have hy1 : y1 = nI 0 := by rw [ey1]; rfl
    subst hy1
    refine va_put (D := (dC, dI)) (ci := 4) (ty := .int) (C := RR) (T := FR) (N := 11) hx hb hts (fun w h => List.mem_cons_of_mem _ (inR w h)) tR tR_ok nR hown hK hP hD hS 0 rfl rfl 0 (by decide) (hts _ (List.mem_cons_of_mem _ kw459)) (fun _ h9 => h9) rfl (by decide +kernel) rfl rfl (Nat.le_of_ble_eq_true rfl) dR_good_10 (fun H locs hP hD hS => ?_)
    have hP : va_P (dC, dI) mcCl (mcWR w cI cZ 0 n C G X D B bu LG LC ch) H := hP
    have hD : va_D A (mcWR w cI cZ 0 n C G X D B bu LG LC ch) := hD
    refine lv_iload_n hx hb dR_good_13 rfl (lv_at hl 1 rfl) ?_
    exact W.zret (v := 1) hx hb hr (rfl) (fun t ht hW => ⟨⟨1, (), rfl, rfl, by rw [ht]; exact hP, va_K.moved hW.alike hK, hD⟩, hS.F ht⟩) hS.2.2 dR_good_14
set_option maxHeartbeats 4000000 in
set_option maxRecDepth 100000 in
theorem c_R_good0 (l : Launch) (dC : Nat → ClassId) (dI : Nat → Nat → Nat) (w : Nat → Nat) (cI cZ : ClassId) (th n : Nat) (C G X D : Nat → Nat) (B : Nat → Nat → Int) (bu : Nat → Nat) (LG : Nat → Int) (LC : Nat → Nat) (ch : Nat → Int) (sz : Nat)  : Met l yR_good wdR_good ({ frames := 0, cells := 0, slots := 0, locals := 0 }) (wrP (dC, dI) mcCl (mcWR w cI cZ th n C G X D B bu LG LC ch) (mcTR cI cZ) sz [.ref (w 0), .int 0]) (va_Qi (fun z9 (_ : Unit) => z9 = 0) (fun _ t => va_P (dC, dI) mcCl (mcWR w cI cZ 1 n C G X D B bu LG LC ch) t.heap ∧ va_K (dC, dI) mcCl (mcTR cI cZ) t ∧ va_D (va_A (mcWR w cI cZ th n C G X D B bu LG LC ch) sz) (mcWR w cI cZ 1 n C G X D B bu LG LC ch)) (va_A (mcWR w cI cZ th n C G X D B bu LG LC ch) sz)) 0 0 (va_A (mcWR w cI cZ th n C G X D B bu LG LC ch) sz) := by
  refine Met.ofW (cc := bR_good) (maxL := 2) (ret := (some FieldType.boolean)) (by decide) rfl ?_
  intro p e s m args below meth c s₁ BB hml hv
  obtain ⟨rfl, hsz, hP, hK, hD0⟩ := hv
  have hx := BB.exec
  have hb := BB.bytes
  have hr := BB.returns
  have hts := atoms_spec (ws := wdR_good) BB.pre
  have hown : s.vm.findClass RR = some m.cls := findClass_of_methodNamed BB.named
  have hlocks := BB.notSynchronized
  subst hsz
  have hD := hD0.self (sz := s.heap.size)
  generalize hAe : va_A (mcWR w cI cZ th n C G X D B bu LG LC ch) s.heap.size = A at hD ⊢
  have hA : ∀ q : Nat, s.heap.size ≤ q → A q := fun q h => by rw [← hAe]; exact Or.inr h
  have hS : va_S A s.heap s.heap [] := va_S.rf
  have hl := lv_entry ([.ref (w 0), .int 0]) (n := 2) (Nat.le_of_ble_eq_true rfl)
  rw [lg_entry_eq]
  generalize (lg_sl ([.ref (w 0), .int 0]) ++ List.replicate (2 - (lg_sl ([.ref (w 0), .int 0])).length) Slot.unset).toArray = ls at hl ⊢
  have hl : lv_has ls 2 [(0, .ref (w 0)), (1, .int 0)] := hl
  refine lv_aload_n hx hb dR_good_0 rfl (lv_at hl 0 rfl) ?_
  refine lv_iload_n hx hb dR_good_1 rfl (lv_at hl 1 rfl) ?_
  refine lv_if_eq (tgt := 9) hx hb dR_good_2 (by decide) (fun c1 => ?_) (fun c1 => ?_)
  ·
    refine lv_iconst (v := 1) hx hb dR_good_9 (by decide) ?_
    refine lv_topi (fun y1 ey1 => ?_)
    have hy1 : y1 = nI 1 := by rw [ey1]; rfl
    subst hy1
    refine va_put (D := (dC, dI)) (ci := 4) (ty := .int) (C := RR) (T := FR) (N := 11) hx hb hts (fun w h => List.mem_cons_of_mem _ (inR w h)) tR tR_ok nR hown hK hP hD hS 0 rfl rfl 0 (by decide) (hts _ (List.mem_cons_of_mem _ kw459)) (fun _ h9 => h9) rfl (by decide +kernel) rfl rfl (Nat.le_of_ble_eq_true rfl) dR_good_10 (fun H locs hP hD hS => ?_)
    have hP : va_P (dC, dI) mcCl (mcWR w cI cZ 1 n C G X D B bu LG LC ch) H := hP
    have hD : va_D A (mcWR w cI cZ 1 n C G X D B bu LG LC ch) := hD
    refine lv_iload_n hx hb dR_good_13 rfl (lv_at hl 1 rfl) ?_
    exact W.zret (v := 0) hx hb hr (rfl) (fun t ht hW => ⟨⟨0, (), rfl, rfl, by rw [ht]; exact hP, va_K.moved hW.alike hK, hD⟩, hS.F ht⟩) hS.2.2 dR_good_14
  · exact absurd (rfl : (0 : Int32) = 0) c1
/-- a set with measure a in it and what holds between a and b -/
def mc_hb (S : Nat) (X D : Nat → Nat) (a b : Nat) : Prop := ¬ (S.testBit b = true ∧ (X a).testBit b = true) ∧ (S.testBit b = true ∨ ¬ (D a).testBit b = true)
def mc_la (n S : Nat) (X D : Nat → Nat) (k : Nat) : Prop := ∀ a, a < k → S.testBit a = true → ∀ b, b < n → mc_hb S X D a b
theorem mc_la_law {n S : Nat} {X D : Nat → Nat} (hX : ∀ m j, (X m).testBit j = true → j < n) (hD : ∀ m j, (D m).testBit j = true → j < n) : mc_la n S X D n ↔ mc_law n X D S := by
  constructor
  · intro h m hm hb
    have h1 := h m hm hb
    constructor
    · apply Nat.eq_of_testBit_eq
      intro j
      rw [Nat.testBit_and, Nat.zero_testBit]
      cases hx : (X m).testBit j with
      | false => rfl
      | true =>
        have h2 := (h1 j (hX m j hx)).1
        cases hs : S.testBit j with
        | false => rfl
        | true => exact absurd ⟨hs, hx⟩ h2
    · apply Nat.eq_of_testBit_eq
      intro j
      rw [Nat.testBit_and]
      cases hd : (D m).testBit j with
      | false => rfl
      | true =>
        rcases (h1 j (hD m j hd)).2 with h2 | h2
        · rw [h2]; rfl
        · exact absurd hd h2
  · intro h a ha hb b hbn
    obtain ⟨h1, h2⟩ := h a ha hb
    constructor
    · rintro ⟨q1, q2⟩
      have := congrArg (fun x => x.testBit b) h1
      simp only [Nat.testBit_and, Nat.zero_testBit, q1, q2] at this
      cases this
    · cases hd : (D a).testBit b with
      | false => exact Or.inr (by simp)
      | true =>
        left
        have := congrArg (fun x => x.testBit b) h2
        simp only [Nat.testBit_and, hd, Bool.true_and] at this
        exact this
theorem mcZ_iff {P Q : Prop} {r : Int32} (h : P ↔ Q) (hr : mcZ P r) : mcZ Q r := by
  unfold mcZ at hr ⊢
  rw [← h]
  exact hr
theorem mcZ_01 {P : Prop} {r : Int32} (h : mcZ P r) : r = 0 ∨ r = 1 := by
  rcases h with ⟨h, -⟩ | ⟨h, -⟩ <;> simp [h]
set_option maxHeartbeats 4000000 in
set_option maxRecDepth 100000 in
theorem c_R_holds (l : Launch) (dC : Nat → ClassId) (dI : Nat → Nat → Nat) (w : Nat → Nat) (cI cZ : ClassId) (th n : Nat) (C G X D : Nat → Nat) (B : Nat → Nat → Int) (bu : Nat → Nat) (LG : Nat → Int) (LC : Nat → Nat) (ch : Nat → Int) (S : Nat) (hn : n ≤ 12) (hS : S < 2 ^ 31) (hXn : ∀ m j, (X m).testBit j = true → j < n) (hDn : ∀ m j, (D m).testBit j = true → j < n) : Met l yR_holds wdR_holds ({ frames := 1, cells := 0, slots := 0, locals := 21 }) (roP (dC, dI) mcCl (mcWR w cI cZ th n C G X D B bu LG LC ch) (mcTR cI cZ) [.ref (w 0), .int (nI S)]) (vp_Si (fun z9 => mcZ (mc_law n X D S) z9)) 0 0 (fun _ => False) := by
  refine Met.ofW (cc := bR_holds) (maxL := 5) (ret := (some FieldType.boolean)) (by decide) rfl ?_
  intro p e s m args below meth c s₁ BB hml hv
  obtain ⟨rfl, hP, hK⟩ := hv
  have hx := BB.exec
  have hb := BB.bytes
  have hr := BB.returns
  have hts := atoms_spec (ws := wdR_holds) BB.pre
  have hown : s.vm.findClass RR = some m.cls := findClass_of_methodNamed BB.named
  have hlocks := BB.notSynchronized
  have hl := lv_entry ([.ref (w 0), .int (nI S)]) (n := 5) (Nat.le_of_ble_eq_true rfl)
  rw [lg_entry_eq]
  generalize (lg_sl ([.ref (w 0), .int (nI S)]) ++ List.replicate (5 - (lg_sl ([.ref (w 0), .int (nI S)])).length) Slot.unset).toArray = ls at hl ⊢
  have hl : lv_has ls 5 [(0, .ref (w 0)), (1, .int (nI S))] := hl
  refine lv_iconst (v := 1) hx hb dR_holds_0 (by decide) ?_
  refine lv_istore_n (lv' := [(2, .int 1), (0, .ref (w 0)), (1, .int (nI S))]) hx hb dR_holds_1 rfl hl (by decide) rfl (fun ls hl => ?_)
  refine lv_iconst (v := 0) hx hb dR_holds_2 (by decide) ?_
  refine lv_istore_n (lv' := [(3, .int 0), (2, .int 1), (0, .ref (w 0)), (1, .int (nI S))]) hx hb dR_holds_3 rfl hl (by decide) rfl (fun ls hl => ?_)
  refine lpR (σ := Nat × Int32) (fun x => x.1 ≤ n ∧ mcZ (mc_la n S X D x.1) x.2) (fun x => [(0, .ref (w 0)), (1, .int (nI S)), (2, .int x.2), (3, .int (nI x.1))]) (fun x => n - x.1) (fun x ls hI hl ih => ?_) ((0, 1)) ls (⟨Nat.zero_le _, Or.inl ⟨rfl, fun a h => absurd h (Nat.not_lt_zero a)⟩⟩) (lv_sub hl [2, 3, 1, 0] rfl)
  obtain ⟨k, v2⟩ := x
  have hl : lv_has ls 5 [(0, .ref (w 0)), (1, .int (nI S)), (2, .int v2), (3, .int (nI k))] := hl
  obtain ⟨hk, hz⟩ := hI
  dsimp only at hk hz
  refine lv_iload_n hx hb dR_holds_4 rfl (lv_at hl 3 rfl) ?_
  refine lv_aload_n hx hb dR_holds_5 rfl (lv_at hl 0 rfl) ?_
  refine va_get (D := (dC, dI)) (ci := 4) (C := RR) (T := FR) (N := 11) hx hb hts (fun w h => List.mem_cons_of_mem _ (inR w h)) hown hK hP 0 rfl rfl 1 (by decide) (hts _ (List.mem_cons_of_mem _ kw460)) (fun _ h9 => h9) rfl dR_holds_6 ?_
  refine lv_icmp_ge (tgt := 102) hx hb dR_holds_9 (by decide) (fun c1 => ?_) (fun c1 => ?_)
  · have hkn : k = n := by have := (nI_leI (by omega) (by omega)).mp c1; omega
    rw [hkn] at hz
    have hz := mcZ_iff (mc_la_law hXn hDn) hz
    refine lv_iload_n hx hb dR_holds_102 rfl (lv_at hl 2 rfl) ?_
    exact W.zret hx hb hr (mcZ_nar hz) (fun t ht hW => ⟨_, rfl, hz, ht⟩) (fun q hq => by cases hq) dR_holds_103
  · have hkn : k < n := by
      rcases Nat.lt_or_ge k n with z | z
      · exact z
      · exact absurd (nI_le z (by omega)) c1
    have ih9 := ih
    refine lv_iconst (v := 0) hx hb dR_holds_12 (by decide) ?_
    refine lv_istore (lv' := [(4, .int 0), (0, .ref (w 0)), (1, .int (nI S)), (2, .int v2), (3, .int (nI k))]) hx hb dR_holds_13 hl (by decide) rfl (fun ls hl => ?_)
    refine lpR (σ := Nat × Int32) (fun x => x.1 ≤ n ∧ (x.1 = 0 ∨ S.testBit k = true) ∧ mcZ (mc_la n S X D k ∧ ∀ b, b < x.1 → mc_hb S X D k b) x.2) (fun x => [(0, .ref (w 0)), (1, .int (nI S)), (2, .int x.2), (3, .int (nI k)), (4, .int (nI x.1))]) (fun x => n - x.1) (fun x ls hI hl ih => ?_) ((0, v2)) ls (⟨Nat.zero_le _, Or.inl rfl, mcZ_iff ⟨fun h => ⟨h, fun b hb9 => absurd hb9 (Nat.not_lt_zero b)⟩, fun h => h.1⟩ hz⟩) (lv_sub hl [1, 2, 3, 4, 0] rfl)
    obtain ⟨j, v3⟩ := x
    have hl : lv_has ls 5 [(0, .ref (w 0)), (1, .int (nI S)), (2, .int v3), (3, .int (nI k)), (4, .int (nI j))] := hl
    obtain ⟨hj, hj0, hz⟩ := hI
    dsimp only at hj hj0 hz
    refine lv_iload hx hb dR_holds_15 (lv_at hl 4 rfl) ?_
    refine lv_aload_n hx hb dR_holds_17 rfl (lv_at hl 0 rfl) ?_
    refine va_get (D := (dC, dI)) (ci := 4) (C := RR) (T := FR) (N := 11) hx hb hts (fun w h => List.mem_cons_of_mem _ (inR w h)) hown hK hP 0 rfl rfl 1 (by decide) (hts _ (List.mem_cons_of_mem _ kw460)) (fun _ h9 => h9) rfl dR_holds_18 ?_
    refine lv_icmp_ge (tgt := 96) hx hb dR_holds_21 (by decide) (fun c2 => ?_) (fun c2 => ?_)
    · have hjn : j = n := by have := (nI_leI (by omega) (by omega)).mp c2; omega
      rw [hjn] at hz hj0
      have hbit : S.testBit k = true := by rcases hj0 with z | z; omega; exact z
      refine lv_iinc (v := (nI (k + 1))) (lv' := [(3, .int (nI (k + 1))), (0, .ref (w 0)), (1, .int (nI S)), (2, .int v3), (4, .int (nI j))]) hx hb dR_holds_96 hl (k := 3) rfl (nI_1 k) (by decide) rfl (fun ls hl => ?_)
      refine lv_goto (tgt := 4) hx hb dR_holds_99 (by decide) ?_
      exact ih9 (k + 1, v3) ls ⟨hkn, mcZ_iff ⟨fun h => lt_s h.1 (fun _ => h.2), fun h => ⟨fun a ha => h a (by omega), h k (by omega) hbit⟩⟩ hz⟩ (by dsimp only; omega) (lv_sub hl [1, 2, 3, 0] rfl)
    · have hjn : j < n := by
        rcases Nat.lt_or_ge j n with z | z
        · exact z
        · exact absurd (nI_le z (by omega)) c2
      refine lv_iload_n hx hb dR_holds_24 rfl (lv_at hl 1 rfl) ?_
      refine lv_iload_n hx hb dR_holds_25 rfl (lv_at hl 3 rfl) ?_
      refine callRS (As := [.int (nI S), .int (nI k)]) (rest := []) ⟨hx, hb, hml, hown, hts⟩ tlB (c_R_has l S k hS (by omega)) kw537 kw538 kw29 kw539 ⟨rfl, rfl⟩ (n := 2) (by decide +kernel) ⟨Nat.le_of_ble_eq_true rfl, Nat.le_of_ble_eq_true rfl⟩ (nwP_pre) rfl hl.1 rfl (Nat.le_of_ble_eq_true rfl) ⟨Nat.le_of_ble_eq_true rfl, Nat.le_of_ble_eq_true rfl⟩ dR_holds_26 (fun r1 hr1 => ?_)
      refine lv_if_eq (tgt := 96) hx hb dR_holds_29 (by decide) (fun c3 => ?_) (fun c3 => ?_)
      · rw [hr1, bZ_0] at c3
        have hj1 : j = 0 := by rcases hj0 with z | z; exact z; rw [c3] at z; cases z
        rw [hj1] at hz
        refine lv_iinc (v := (nI (k + 1))) (lv' := [(3, .int (nI (k + 1))), (0, .ref (w 0)), (1, .int (nI S)), (2, .int v3), (4, .int (nI j))]) hx hb dR_holds_96 hl (k := 3) rfl (nI_1 k) (by decide) rfl (fun ls hl => ?_)
        refine lv_goto (tgt := 4) hx hb dR_holds_99 (by decide) ?_
        exact ih9 (k + 1, v3) ls ⟨hkn, mcZ_iff ⟨fun h => lt_s h.1 (fun h9 => by rw [c3] at h9; cases h9), fun h => ⟨fun a ha => h a (by omega), fun b hb9 => absurd hb9 (Nat.not_lt_zero b)⟩⟩ hz⟩ (by dsimp only; omega) (lv_sub hl [1, 2, 3, 0] rfl)
      · rw [hr1, bZ_0, Bool.not_eq_false] at c3
        refine lv_iload_n hx hb dR_holds_32 rfl (lv_at hl 2 rfl) ?_
        refine lv_if_eq (tgt := 88) hx hb dR_holds_33 (by decide) (fun c4 => ?_) (fun c4 => ?_)
        · have hno := mcZ_f hz c4
          refine lv_iconst (v := 0) hx hb dR_holds_88 (by decide) ?_
          refine lv_istore_n (lv' := [(2, .int 0), (0, .ref (w 0)), (1, .int (nI S)), (3, .int (nI k)), (4, .int (nI j))]) hx hb dR_holds_89 rfl hl (by decide) rfl (fun ls hl => ?_)
          refine lv_iinc (v := (nI (j + 1))) (lv' := [(4, .int (nI (j + 1))), (2, .int 0), (0, .ref (w 0)), (1, .int (nI S)), (3, .int (nI k))]) hx hb dR_holds_90 hl (k := 4) rfl (nI_1 j) (by decide) rfl (fun ls hl => ?_)
          refine lv_goto (tgt := 15) hx hb dR_holds_93 (by decide) ?_
          exact ih (j + 1, 0) ls ⟨hjn, Or.inr c3, Or.inr ⟨rfl, fun h => hno ⟨h.1, fun b hb9 => h.2 b (by omega)⟩⟩⟩ (by dsimp only; omega) (lv_sub hl [2, 3, 1, 4, 0] rfl)
        · have hyes := mcZ_t hz c4
          refine lv_iload_n hx hb dR_holds_36 rfl (lv_at hl 1 rfl) ?_
          refine lv_iload hx hb dR_holds_37 (lv_at hl 4 rfl) ?_
          refine callRS (As := [.int (nI S), .int (nI j)]) (rest := []) ⟨hx, hb, hml, hown, hts⟩ tlB (c_R_has l S j hS (by omega)) kw537 kw538 kw29 kw539 ⟨rfl, rfl⟩ (n := 2) (by decide +kernel) ⟨Nat.le_of_ble_eq_true rfl, Nat.le_of_ble_eq_true rfl⟩ (nwP_pre) rfl hl.1 rfl (Nat.le_of_ble_eq_true rfl) ⟨Nat.le_of_ble_eq_true rfl, Nat.le_of_ble_eq_true rfl⟩ dR_holds_39 (fun r2 hr2 => ?_)
          refine lv_if_eq (tgt := 60) hx hb dR_holds_42 (by decide) (fun c5 => ?_) (fun c5 => ?_)
          · rw [hr2, bZ_0] at c5
            refine lv_iload_n hx hb dR_holds_60 rfl (lv_at hl 1 rfl) ?_
            refine lv_iload hx hb dR_holds_61 (lv_at hl 4 rfl) ?_
            refine callRS (As := [.int (nI S), .int (nI j)]) (rest := []) ⟨hx, hb, hml, hown, hts⟩ tlB (c_R_has l S j hS (by omega)) kw537 kw538 kw29 kw539 ⟨rfl, rfl⟩ (n := 2) (by decide +kernel) ⟨Nat.le_of_ble_eq_true rfl, Nat.le_of_ble_eq_true rfl⟩ (nwP_pre) rfl hl.1 rfl (Nat.le_of_ble_eq_true rfl) ⟨Nat.le_of_ble_eq_true rfl, Nat.le_of_ble_eq_true rfl⟩ dR_holds_63 (fun r4 hr4 => ?_)
            refine lv_if_ne (tgt := 84) hx hb dR_holds_66 (by decide) (fun c7 => ?_) (fun c7 => ?_)
            · rw [hr4, bZ_0, c5] at c7; exact absurd rfl c7
            ·
              refine lv_aload_n hx hb dR_holds_69 rfl (lv_at hl 0 rfl) ?_
              refine va_get (D := (dC, dI)) (ci := 4) (C := RR) (T := FR) (N := 11) hx hb hts (fun w h => List.mem_cons_of_mem _ (inR w h)) hown hK hP 0 rfl rfl 5 (by decide) (hts _ (List.mem_cons_of_mem _ kw464)) (fun _ h9 => h9) rfl dR_holds_70 ?_
              refine lv_bipush (v := 12) hx hb dR_holds_73 (by decide) ?_
              refine lv_iload_n hx hb dR_holds_75 rfl (lv_at hl 3 rfl) ?_
              refine lv_imul hx hb dR_holds_76 ?_
              refine lv_iload hx hb dR_holds_77 (lv_at hl 4 rfl) ?_
              refine lv_iadd hx hb dR_holds_79 ?_
              refine lv_topi (fun y1 ey1 => ?_)
              have hy1 : y1 = nI (12 * k + j) := by rw [ey1, show (12 : Int32) = nI 12 from rfl, pk_mul, nI_add]
              subst hy1
              refine zaldN hx hb hK hP 4 1 rfl rfl (k := (12 * k + j)) (by omega) (by decide) (v := bZ ((D k).testBit j)) (by rw [(mc_ix (a := k) (b := j) (by omega)).1, (mc_ix (a := k) (b := j) (by omega)).2]) dR_holds_80 ?_
              refine lv_if_ne (tgt := 88) hx hb dR_holds_81 (by decide) (fun c8 => ?_) (fun c8 => ?_)
              · rw [bZ_0, Bool.not_eq_false] at c8
                refine lv_iconst (v := 0) hx hb dR_holds_88 (by decide) ?_
                refine lv_istore_n (lv' := [(2, .int 0), (0, .ref (w 0)), (1, .int (nI S)), (3, .int (nI k)), (4, .int (nI j))]) hx hb dR_holds_89 rfl hl (by decide) rfl (fun ls hl => ?_)
                refine lv_iinc (v := (nI (j + 1))) (lv' := [(4, .int (nI (j + 1))), (2, .int 0), (0, .ref (w 0)), (1, .int (nI S)), (3, .int (nI k))]) hx hb dR_holds_90 hl (k := 4) rfl (nI_1 j) (by decide) rfl (fun ls hl => ?_)
                refine lv_goto (tgt := 15) hx hb dR_holds_93 (by decide) ?_
                exact ih (j + 1, 0) ls ⟨hjn, Or.inr c3, Or.inr ⟨rfl, fun h => by rcases (h.2 j (by omega)).2 with q | q; rw [c5] at q; cases q; exact q c8⟩⟩ (by dsimp only; omega) (lv_sub hl [2, 3, 1, 4, 0] rfl)
              · rw [bZ_0] at c8
                refine lv_iconst (v := 1) hx hb dR_holds_84 (by decide) ?_
                refine lv_goto (tgt := 89) hx hb dR_holds_85 (by decide) ?_
                refine lv_istore_n (lv' := [(2, .int 1), (0, .ref (w 0)), (1, .int (nI S)), (3, .int (nI k)), (4, .int (nI j))]) hx hb dR_holds_89 rfl hl (by decide) rfl (fun ls hl => ?_)
                refine lv_iinc (v := (nI (j + 1))) (lv' := [(4, .int (nI (j + 1))), (2, .int 1), (0, .ref (w 0)), (1, .int (nI S)), (3, .int (nI k))]) hx hb dR_holds_90 hl (k := 4) rfl (nI_1 j) (by decide) rfl (fun ls hl => ?_)
                refine lv_goto (tgt := 15) hx hb dR_holds_93 (by decide) ?_
                exact ih (j + 1, 1) ls ⟨hjn, Or.inr c3, Or.inl ⟨rfl, hyes.1, lt_s hyes.2 ⟨(fun q => by rw [c5] at q; cases q.1), Or.inr (by rw [c8]; simp)⟩⟩⟩ (by dsimp only; omega) (lv_sub hl [2, 3, 1, 4, 0] rfl)
          · rw [hr2, bZ_0, Bool.not_eq_false] at c5
            refine lv_aload_n hx hb dR_holds_45 rfl (lv_at hl 0 rfl) ?_
            refine va_get (D := (dC, dI)) (ci := 4) (C := RR) (T := FR) (N := 11) hx hb hts (fun w h => List.mem_cons_of_mem _ (inR w h)) hown hK hP 0 rfl rfl 4 (by decide) (hts _ (List.mem_cons_of_mem _ kw463)) (fun _ h9 => h9) rfl dR_holds_46 ?_
            refine lv_bipush (v := 12) hx hb dR_holds_49 (by decide) ?_
            refine lv_iload_n hx hb dR_holds_51 rfl (lv_at hl 3 rfl) ?_
            refine lv_imul hx hb dR_holds_52 ?_
            refine lv_iload hx hb dR_holds_53 (lv_at hl 4 rfl) ?_
            refine lv_iadd hx hb dR_holds_55 ?_
            refine lv_topi (fun y2 ey2 => ?_)
            have hy2 : y2 = nI (12 * k + j) := by rw [ey2, show (12 : Int32) = nI 12 from rfl, pk_mul, nI_add]
            subst hy2
            refine zaldN hx hb hK hP 3 1 rfl rfl (k := (12 * k + j)) (by omega) (by decide) (v := bZ ((X k).testBit j)) (by rw [(mc_ix (a := k) (b := j) (by omega)).1, (mc_ix (a := k) (b := j) (by omega)).2]) dR_holds_56 ?_
            refine lv_if_ne (tgt := 88) hx hb dR_holds_57 (by decide) (fun c6 => ?_) (fun c6 => ?_)
            · rw [bZ_0, Bool.not_eq_false] at c6
              refine lv_iconst (v := 0) hx hb dR_holds_88 (by decide) ?_
              refine lv_istore_n (lv' := [(2, .int 0), (0, .ref (w 0)), (1, .int (nI S)), (3, .int (nI k)), (4, .int (nI j))]) hx hb dR_holds_89 rfl hl (by decide) rfl (fun ls hl => ?_)
              refine lv_iinc (v := (nI (j + 1))) (lv' := [(4, .int (nI (j + 1))), (2, .int 0), (0, .ref (w 0)), (1, .int (nI S)), (3, .int (nI k))]) hx hb dR_holds_90 hl (k := 4) rfl (nI_1 j) (by decide) rfl (fun ls hl => ?_)
              refine lv_goto (tgt := 15) hx hb dR_holds_93 (by decide) ?_
              exact ih (j + 1, 0) ls ⟨hjn, Or.inr c3, Or.inr ⟨rfl, fun h => (h.2 j (by omega)).1 ⟨c5, c6⟩⟩⟩ (by dsimp only; omega) (lv_sub hl [2, 3, 1, 4, 0] rfl)
            · rw [bZ_0] at c6
              refine lv_iload_n hx hb dR_holds_60 rfl (lv_at hl 1 rfl) ?_
              refine lv_iload hx hb dR_holds_61 (lv_at hl 4 rfl) ?_
              refine callRS (As := [.int (nI S), .int (nI j)]) (rest := []) ⟨hx, hb, hml, hown, hts⟩ tlB (c_R_has l S j hS (by omega)) kw537 kw538 kw29 kw539 ⟨rfl, rfl⟩ (n := 2) (by decide +kernel) ⟨Nat.le_of_ble_eq_true rfl, Nat.le_of_ble_eq_true rfl⟩ (nwP_pre) rfl hl.1 rfl (Nat.le_of_ble_eq_true rfl) ⟨Nat.le_of_ble_eq_true rfl, Nat.le_of_ble_eq_true rfl⟩ dR_holds_63 (fun r4 hr4 => ?_)
              refine lv_if_ne (tgt := 84) hx hb dR_holds_66 (by decide) (fun c7 => ?_) (fun c7 => ?_)
              ·
                refine lv_iconst (v := 1) hx hb dR_holds_84 (by decide) ?_
                refine lv_goto (tgt := 89) hx hb dR_holds_85 (by decide) ?_
                refine lv_istore_n (lv' := [(2, .int 1), (0, .ref (w 0)), (1, .int (nI S)), (3, .int (nI k)), (4, .int (nI j))]) hx hb dR_holds_89 rfl hl (by decide) rfl (fun ls hl => ?_)
                refine lv_iinc (v := (nI (j + 1))) (lv' := [(4, .int (nI (j + 1))), (2, .int 1), (0, .ref (w 0)), (1, .int (nI S)), (3, .int (nI k))]) hx hb dR_holds_90 hl (k := 4) rfl (nI_1 j) (by decide) rfl (fun ls hl => ?_)
                refine lv_goto (tgt := 15) hx hb dR_holds_93 (by decide) ?_
                exact ih (j + 1, 1) ls ⟨hjn, Or.inr c3, Or.inl ⟨rfl, hyes.1, lt_s hyes.2 ⟨(fun q => by rw [c6] at q; cases q.2), Or.inl c5⟩⟩⟩ (by dsimp only; omega) (lv_sub hl [2, 3, 1, 4, 0] rfl)
              · rw [hr4, bZ_0, c5] at c7; cases c7
