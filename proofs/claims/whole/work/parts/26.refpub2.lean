/-! the reference: closure, budget, frontier, plan, planned, where the arguments are good -/
/-- the reference's turns: what the set is at the start of a turn -/
def mc_ct (n : Nat) (D : Nat → Nat) (m t S : Nat) : Prop := S.testBit m = true ∧ (∀ j, S.testBit j = true → j < n) ∧ (∀ T, T.testBit m = true → mc_closed n D T → mc_sub S T) ∧ (mc_closed n D S ∨ t < mc_card S n)
/-- within a turn that began with S0: the needs of those before a are in, of a those below b -/
def mc_cu (n : Nat) (D : Nat → Nat) (m S0 a b S : Nat) : Prop := mc_sub S0 S ∧ (∀ j, S.testBit j = true → j < n) ∧ (∀ T, T.testBit m = true → mc_closed n D T → mc_sub S T) ∧ (∀ a2 j, (a2 < a ∨ (a2 = a ∧ j < b)) → S0.testBit a2 = true → (D a2).testBit j = true → S.testBit j = true)
theorem mc_ct_0 {n : Nat} {D : Nat → Nat} {m : Nat} (hm : m < n) : mc_ct n D m 0 (2 ^ m) := by
  have hb : (2 ^ m).testBit m = true := Nat.testBit_two_pow_self
  have h1 : ∀ j, (2 ^ m).testBit j = true → m = j := fun j hj => by rw [Nat.testBit_two_pow] at hj; simpa using hj
  exact ⟨hb, fun j hj => by rw [← h1 j hj]; exact hm, fun T hT _ j hj => by rw [← h1 j hj]; exact hT, Or.inr (mc_card_pos hb n hm)⟩
theorem mc_cu_0 {n : Nat} {D : Nat → Nat} {m t S : Nat} (h : mc_ct n D m t S) : mc_cu n D m S 0 0 S := ⟨mc_sub_rf, h.2.1, h.2.2.1, fun a2 j h2 => absurd h2 (by omega)⟩
theorem mc_cu_row {n : Nat} {D : Nat → Nat} {m S0 a S : Nat} (hD : ∀ m j, (D m).testBit j = true → j < n) (h : mc_cu n D m S0 a n S) : mc_cu n D m S0 (a + 1) 0 S := ⟨h.1, h.2.1, h.2.2.1, fun a2 j h2 h3 h4 => h.2.2.2 a2 j (by have := hD a2 j h4; omega) h3 h4⟩
theorem mc_cu_no {n : Nat} {D : Nat → Nat} {m S0 a b S : Nat} (h : mc_cu n D m S0 a b S) (hs : S0.testBit a = true → (D a).testBit b = true → S.testBit b = true) : mc_cu n D m S0 a (b + 1) S :=
  ⟨h.1, h.2.1, h.2.2.1, fun a2 j h2 h3 h4 => by
    by_cases e : a2 = a ∧ j = b
    · rw [e.2]; exact hs (e.1 ▸ h3) (e.1 ▸ e.2 ▸ h4)
    · exact h.2.2.2 a2 j (by omega) h3 h4⟩
theorem mc_cu_add {n : Nat} {D : Nat → Nat} {m S0 a b S : Nat} (h : mc_cu n D m S0 a b S) (ha : a < n) (hb : b < n) (h1 : S.testBit a = true) (h2 : (D a).testBit b = true) : mc_cu n D m S0 a (b + 1) (S ||| 2 ^ b) := by
  have hin : ∀ j, S.testBit j = true → (S ||| 2 ^ b).testBit j = true := fun j hj => by rw [Nat.testBit_or, hj, Bool.true_or]
  have hout : ∀ j, (S ||| 2 ^ b).testBit j = true → S.testBit j = true ∨ j = b := fun j hj => by
    rw [Nat.testBit_or, Bool.or_eq_true, Nat.testBit_two_pow] at hj
    rcases hj with q | q
    · exact Or.inl q
    · right
      have : b = j := by simpa using q
      exact this.symm
  refine ⟨fun j hj => hin j (h.1 j hj), fun j hj => ?_, fun T hT hc j hj => ?_, fun a2 j h3 h4 h5 => ?_⟩
  · rcases hout j hj with q | q
    · exact h.2.1 j q
    · rw [q]; exact hb
  · rcases hout j hj with q | q
    · exact h.2.2.1 T hT hc j q
    · rw [q]; exact hc a ha (h.2.2.1 T hT hc a h1) b h2
  · by_cases e : a2 = a ∧ j = b
    · rw [e.2, Nat.testBit_or, Nat.testBit_two_pow_self, Bool.or_true]
    · exact hin j (h.2.2.2 a2 j (by omega) h4 h5)
theorem mc_cu_end {n : Nat} {D : Nat → Nat} {m t S0 S : Nat} (hD : ∀ m j, (D m).testBit j = true → j < n) (h0 : mc_ct n D m t S0) (h : mc_cu n D m S0 n 0 S) : mc_ct n D m (t + 1) S := by
  refine ⟨h.1 m h0.1, h.2.1, h.2.2.1, ?_⟩
  by_cases e : S = S0
  · left
    subst e
    intro a ha hb j hj
    exact h.2.2.2 a j (Or.inl ha) hb hj
  · rcases h0.2.2.2 with q | q
    · exact absurd (mc_sub_anti (h.2.2.1 S0 h0.1 q) h.1) e
    · right
      have hex : ∃ j, S0.testBit j = false ∧ S.testBit j = true := by
        apply Classical.byContradiction
        intro hn
        apply e
        apply mc_sub_anti _ h.1
        intro j hj
        cases hs : S0.testBit j with
        | true => rfl
        | false => exact absurd ⟨j, hs, hj⟩ hn
      obtain ⟨j, j1, j2⟩ := hex
      have := mc_card_lt h.1 j1 j2 n (h.2.1 j j2)
      omega
theorem mc_ct_end {n : Nat} {D : Nat → Nat} {m S : Nat} (h : mc_ct n D m n S) : mc_clo n D m S := by
  refine ⟨h.1, ?_, h.2.2.1⟩
  rcases h.2.2.2 with q | q
  · exact q
  · have := mc_card_le S n
    omega
theorem mc_lt_bits {n S : Nat} (h : ∀ j, S.testBit j = true → j < n) : S < 2 ^ n := by
  apply Nat.lt_pow_two_of_testBit
  intro i hi
  cases hb : S.testBit i with
  | false => rfl
  | true => have := h i hb; omega
/-- the k-th of the reference's frontier -/
def mc_fro (n : Nat) (C G X D : Nat → Nat) (B : Nat → Nat → Int) : Nat → Int32 → Prop
  | 0, v => v = 0
  | k + 1, v => (mc_fro n C G X D B k (-1) ∧ v = -1) ∨ ∃ s, mc_fro n C G X D B k (nI s) ∧ s < 2 ^ n ∧ ((v = -1 ∧ mc_dn n C G X D B (mc_cost C s n) (mc_gain G B s n) (2 ^ n)) ∨ ∃ s2, v = nI s2 ∧ mc_ds n C G X D B (mc_cost C s n) (mc_gain G B s n) (2 ^ n) s2)
theorem mc_fro_none {n : Nat} {C G X D : Nat → Nat} {B : Nat → Nat → Int} {i : Nat} (h : mc_fro n C G X D B i (-1)) : ∀ d, mc_fro n C G X D B (i + d) (-1)
  | 0 => h
  | d + 1 => Or.inl ⟨mc_fro_none h d, rfl⟩
set_option maxHeartbeats 4000000 in
set_option maxRecDepth 100000 in
theorem c_R_closure_ok (l : Launch) (dC : Nat → ClassId) (dI : Nat → Nat → Nat) (w : Nat → Nat) (cI cZ : ClassId) (th n : Nat) (C G X D : Nat → Nat) (B : Nat → Nat → Int) (bu : Nat → Nat) (LG : Nat → Int) (LC : Nat → Nat) (ch : Nat → Int) (sz : Nat) (mm : Nat) (hn : n ≤ 12) (hm : mm < n) (hDn : ∀ m j, (D m).testBit j = true → j < n) : Met l yR_closure wdR_closure ({ frames := 2, cells := 0, slots := 0, locals := 43 }) (wrP (dC, dI) mcCl (mcWR w cI cZ th n C G X D B bu LG LC ch) (mcTR cI cZ) sz [.ref (w 0), .int (nI mm)]) (va_Qi (fun z9 (_ : Unit) => ∃ S9, z9 = nI S9 ∧ mc_clo n D mm S9) (fun _ t => va_P (dC, dI) mcCl (mcWR w cI cZ 0 n C G X D B bu LG LC ch) t.heap ∧ va_K (dC, dI) mcCl (mcTR cI cZ) t ∧ va_D (va_A (mcWR w cI cZ th n C G X D B bu LG LC ch) sz) (mcWR w cI cZ 0 n C G X D B bu LG LC ch)) (va_A (mcWR w cI cZ th n C G X D B bu LG LC ch) sz)) 0 0 (va_A (mcWR w cI cZ th n C G X D B bu LG LC ch) sz) := by
  refine Met.ofW (cc := bR_closure) (maxL := 6) (ret := (some FieldType.int)) (by decide) rfl ?_
  intro p e s m args below meth c s₁ BB hml hv
  obtain ⟨rfl, hsz, hP, hK, hD0⟩ := hv
  have hx := BB.exec
  have hb := BB.bytes
  have hr := BB.returns
  have hts := atoms_spec (ws := wdR_closure) BB.pre
  have hown : s.vm.findClass RR = some m.cls := findClass_of_methodNamed BB.named
  have hlocks := BB.notSynchronized
  subst hsz
  have hD := hD0.self (sz := s.heap.size)
  generalize hAe : va_A (mcWR w cI cZ th n C G X D B bu LG LC ch) s.heap.size = A at hD ⊢
  have hA : ∀ q : Nat, s.heap.size ≤ q → A q := fun q h => by rw [← hAe]; exact Or.inr h
  have hS : va_S A s.heap s.heap [] := va_S.rf
  have hl := lv_entry ([.ref (w 0), .int (nI mm)]) (n := 6) (Nat.le_of_ble_eq_true rfl)
  rw [lg_entry_eq]
  generalize (lg_sl ([.ref (w 0), .int (nI mm)]) ++ List.replicate (6 - (lg_sl ([.ref (w 0), .int (nI mm)])).length) Slot.unset).toArray = ls at hl ⊢
  have hl : lv_has ls 6 [(0, .ref (w 0)), (1, .int (nI mm))] := hl
  refine lv_aload_n hx hb dR_closure_0 rfl (lv_at hl 0 rfl) ?_
  refine lv_aload_n hx hb dR_closure_1 rfl (lv_at hl 0 rfl) ?_
  refine lv_iload_n hx hb dR_closure_2 rfl (lv_at hl 1 rfl) ?_
  refine callRV (As := [.int (nI mm)]) (rest := [.ref (w 0)]) ⟨hx, hb, hml, hown, hts⟩ tlB (c_R_is l dC dI w cI cZ th n C G X D B bu LG LC ch (nI mm) hn) kw512 kw513 kw15 kw29 kw514 ⟨rfl, rfl⟩ (n := 1) (by decide +kernel) ⟨Nat.le_of_ble_eq_true rfl, Nat.le_of_ble_eq_true rfl⟩ (roP_preV hP hK (ci := 4) (q0 := 0) rfl rfl) rfl hl.1 rfl (Nat.le_of_ble_eq_true rfl) ⟨Nat.le_of_ble_eq_true rfl, Nat.le_of_ble_eq_true rfl⟩ dR_closure_3 (fun r2 hr2 => ?_)
  have hr21 : r2 = 1 := by rcases hr2 with ⟨z, -⟩ | ⟨-, z⟩; exact z; exact absurd (⟨mm, hm, rfl⟩ : ∃ k, k < n ∧ nI mm = nI k) z
  subst hr21
  refine callWVi (As := [.int 1]) (rest := []) ⟨hx, hb, hml, hown, hts⟩ tlB (c_R_good1 l dC dI w cI cZ th n C G X D B bu LG LC ch s.heap.size) kw505 kw506 kw14 kw29 kw507 ⟨rfl, rfl⟩ (n := 1) (by decide +kernel) ⟨Nat.le_of_ble_eq_true rfl, Nat.le_of_ble_eq_true rfl⟩ hP hK hD hS (freeA hD hS hA) (ci := 4) (q0 := 0) rfl rfl rfl hl.1 rfl (Nat.le_of_ble_eq_true rfl) ⟨Nat.le_of_ble_eq_true rfl, Nat.le_of_ble_eq_true rfl⟩ dR_closure_6 (fun rg H1 locs1 hrg hP1 hD1 hk1 hS1 => ?_)
  have hD := hD1.weaken (fun _ z _ h => (freeA hD hS hA) z.1 h)
  have hP := hP1
  have hS := hS1
  have hrg : rg = 1 := hrg
  subst hrg
  refine lv_if_ne (tgt := 14) hx hb dR_closure_9 (by decide) (fun cg => ?_) (fun cg => ?_)
  ·
    refine lv_iconst (v := 1) hx hb dR_closure_14 (by decide) ?_
    refine lv_iload_n hx hb dR_closure_15 rfl (lv_at hl 1 rfl) ?_
    refine lv_ishl hx hb dR_closure_16 ?_
    refine lv_topi (fun y3 ey3 => ?_)
    have hy3 : y3 = nI (2 ^ mm) := by rw [ey3, nI_bit (by omega)]
    subst hy3
    refine lv_istore_n (lv' := [(2, .int (nI (2 ^ mm))), (0, .ref (w 0)), (1, .int (nI mm))]) hx hb dR_closure_17 rfl hl (by decide) rfl (fun ls hl => ?_)
    refine lv_iconst (v := 0) hx hb dR_closure_18 (by decide) ?_
    refine lv_istore_n (lv' := [(3, .int 0), (2, .int (nI (2 ^ mm))), (0, .ref (w 0)), (1, .int (nI mm))]) hx hb dR_closure_19 rfl hl (by decide) rfl (fun ls hl => ?_)
    refine lpR (σ := Nat × Nat) (fun x => x.1 ≤ n ∧ mc_ct n D mm x.1 x.2) (fun x => [(0, .ref (w 0)), (1, .int (nI mm)), (2, .int (nI x.2)), (3, .int (nI x.1))]) (fun x => n - x.1) (fun x ls hI hl ih => ?_) ((0, 2 ^ mm)) ls (⟨Nat.zero_le _, mc_ct_0 hm⟩) (lv_sub hl [2, 3, 1, 0] rfl)
    obtain ⟨t9, S0⟩ := x
    have hl : lv_has ls 6 [(0, .ref (w 0)), (1, .int (nI mm)), (2, .int (nI S0)), (3, .int (nI t9))] := hl
    obtain ⟨ht, hct⟩ := hI
    dsimp only at ht hct
    refine lv_iload_n hx hb dR_closure_20 rfl (lv_at hl 3 rfl) ?_
    refine lv_aload_n hx hb dR_closure_21 rfl (lv_at hl 0 rfl) ?_
    refine va_get (D := (dC, dI)) (ci := 4) (C := RR) (T := FR) (N := 11) hx hb hts (fun w h => List.mem_cons_of_mem _ (inR w h)) hown hK hP 0 rfl rfl 1 (by decide) (hts _ (List.mem_cons_of_mem _ kw460)) (fun _ h9 => h9) rfl dR_closure_22 ?_
    refine lv_icmp_ge (tgt := 106) hx hb dR_closure_25 (by decide) (fun c1 => ?_) (fun c1 => ?_)
    · have hkn : t9 = n := by have := (nI_leI (by omega) (by omega)).mp c1; omega
      rw [hkn] at hct
      refine lv_iload_n hx hb dR_closure_106 rfl (lv_at hl 2 rfl) ?_
      exact W.iret (v := (nI S0)) hx hb hr (fun t ht hW => ⟨⟨(nI S0), (), rfl, ⟨S0, rfl, mc_ct_end hct⟩, by rw [ht]; exact hP, va_K.moved hW.alike hK, hD⟩, hS.F ht⟩) hS.2.2 dR_closure_107
    · have hkn : t9 < n := by
        rcases Nat.lt_or_ge t9 n with z | z
        · exact z
        · exact absurd (nI_le z (by omega)) c1
      have ih1 := ih
      refine lv_iconst (v := 0) hx hb dR_closure_28 (by decide) ?_
      refine lv_istore (lv' := [(4, .int 0), (0, .ref (w 0)), (1, .int (nI mm)), (2, .int (nI S0)), (3, .int (nI t9))]) hx hb dR_closure_29 hl (by decide) rfl (fun ls hl => ?_)
      refine lpR (σ := Nat × Nat) (fun x => x.1 ≤ n ∧ mc_cu n D mm S0 x.1 0 x.2) (fun x => [(0, .ref (w 0)), (1, .int (nI mm)), (2, .int (nI x.2)), (3, .int (nI t9)), (4, .int (nI x.1))]) (fun x => n - x.1) (fun x ls hI hl ih => ?_) ((0, S0)) ls (⟨Nat.zero_le _, mc_cu_0 hct⟩) (lv_sub hl [1, 2, 3, 4, 0] rfl)
      obtain ⟨a9, S⟩ := x
      have hl : lv_has ls 6 [(0, .ref (w 0)), (1, .int (nI mm)), (2, .int (nI S)), (3, .int (nI t9)), (4, .int (nI a9))] := hl
      obtain ⟨ha, hcu⟩ := hI
      dsimp only at ha hcu
      refine lv_iload hx hb dR_closure_31 (lv_at hl 4 rfl) ?_
      refine lv_aload_n hx hb dR_closure_33 rfl (lv_at hl 0 rfl) ?_
      refine va_get (D := (dC, dI)) (ci := 4) (C := RR) (T := FR) (N := 11) hx hb hts (fun w h => List.mem_cons_of_mem _ (inR w h)) hown hK hP 0 rfl rfl 1 (by decide) (hts _ (List.mem_cons_of_mem _ kw460)) (fun _ h9 => h9) rfl dR_closure_34 ?_
      refine lv_icmp_ge (tgt := 100) hx hb dR_closure_37 (by decide) (fun c2 => ?_) (fun c2 => ?_)
      · have han : a9 = n := by have := (nI_leI (by omega) (by omega)).mp c2; omega
        rw [han] at hcu
        refine lv_iinc (v := (nI (t9 + 1))) (lv' := [(3, .int (nI (t9 + 1))), (0, .ref (w 0)), (1, .int (nI mm)), (2, .int (nI S)), (4, .int (nI a9))]) hx hb dR_closure_100 hl (k := 3) rfl (nI_1 t9) (by decide) rfl (fun ls hl => ?_)
        refine lv_goto (tgt := 20) hx hb dR_closure_103 (by decide) ?_
        exact ih1 (t9 + 1, S) ls ⟨hkn, mc_cu_end hDn hct hcu⟩ (by dsimp only; omega) (lv_sub hl [1, 2, 3, 0] rfl)
      · have han : a9 < n := by
          rcases Nat.lt_or_ge a9 n with z | z
          · exact z
          · exact absurd (nI_le z (by omega)) c2
        have ih2 := ih
        refine lv_iconst (v := 0) hx hb dR_closure_40 (by decide) ?_
        refine lv_istore (lv' := [(5, .int 0), (0, .ref (w 0)), (1, .int (nI mm)), (2, .int (nI S)), (3, .int (nI t9)), (4, .int (nI a9))]) hx hb dR_closure_41 hl (by decide) rfl (fun ls hl => ?_)
        refine lpR (σ := Nat × Nat) (fun x => x.1 ≤ n ∧ mc_cu n D mm S0 a9 x.1 x.2) (fun x => [(0, .ref (w 0)), (1, .int (nI mm)), (2, .int (nI x.2)), (3, .int (nI t9)), (4, .int (nI a9)), (5, .int (nI x.1))]) (fun x => n - x.1) (fun x ls hI hl ih => ?_) ((0, S)) ls (⟨Nat.zero_le _, hcu⟩) (lv_sub hl [1, 2, 3, 4, 5, 0] rfl)
        obtain ⟨b9, S2⟩ := x
        have hl : lv_has ls 6 [(0, .ref (w 0)), (1, .int (nI mm)), (2, .int (nI S2)), (3, .int (nI t9)), (4, .int (nI a9)), (5, .int (nI b9))] := hl
        obtain ⟨hb9, hcu⟩ := hI
        dsimp only at hb9 hcu
        have hS2 := mc_pow12 hn (mc_lt_bits hcu.2.1)
        refine lv_iload hx hb dR_closure_43 (lv_at hl 5 rfl) ?_
        refine lv_aload_n hx hb dR_closure_45 rfl (lv_at hl 0 rfl) ?_
        refine va_get (D := (dC, dI)) (ci := 4) (C := RR) (T := FR) (N := 11) hx hb hts (fun w h => List.mem_cons_of_mem _ (inR w h)) hown hK hP 0 rfl rfl 1 (by decide) (hts _ (List.mem_cons_of_mem _ kw460)) (fun _ h9 => h9) rfl dR_closure_46 ?_
        refine lv_icmp_ge (tgt := 94) hx hb dR_closure_49 (by decide) (fun c3 => ?_) (fun c3 => ?_)
        · have hbn : b9 = n := by have := (nI_leI (by omega) (by omega)).mp c3; omega
          rw [hbn] at hcu
          refine lv_iinc (v := (nI (a9 + 1))) (lv' := [(4, .int (nI (a9 + 1))), (0, .ref (w 0)), (1, .int (nI mm)), (2, .int (nI S2)), (3, .int (nI t9)), (5, .int (nI b9))]) hx hb dR_closure_94 hl (k := 4) rfl (nI_1 a9) (by decide) rfl (fun ls hl => ?_)
          refine lv_goto (tgt := 31) hx hb dR_closure_97 (by decide) ?_
          exact ih2 (a9 + 1, S2) ls ⟨han, mc_cu_row hDn hcu⟩ (by dsimp only; omega) (lv_sub hl [1, 2, 3, 4, 0] rfl)
        · have hbn : b9 < n := by
            rcases Nat.lt_or_ge b9 n with z | z
            · exact z
            · exact absurd (nI_le z (by omega)) c3
          refine lv_iload_n hx hb dR_closure_52 rfl (lv_at hl 2 rfl) ?_
          refine lv_iload_n hx hb dR_closure_53 rfl (lv_at hl 2 rfl) ?_
          refine lv_iload hx hb dR_closure_54 (lv_at hl 4 rfl) ?_
          refine callRS (As := [.int (nI S2), .int (nI a9)]) (rest := [.int (nI S2)]) ⟨hx, hb, hml, hown, hts⟩ tlB (c_R_has l S2 a9 (by omega) (by omega)) kw537 kw538 kw29 kw539 ⟨rfl, rfl⟩ (n := 2) (by decide +kernel) ⟨Nat.le_of_ble_eq_true rfl, Nat.le_of_ble_eq_true rfl⟩ (nwP_pre) rfl hl.1 rfl (Nat.le_of_ble_eq_true rfl) ⟨Nat.le_of_ble_eq_true rfl, Nat.le_of_ble_eq_true rfl⟩ dR_closure_56 (fun r1 hr1 => ?_)
          refine lv_if_eq (tgt := 85) hx hb dR_closure_59 (by decide) (fun c4 => ?_) (fun c4 => ?_)
          · rw [hr1, bZ_0] at c4
            refine lv_iconst (v := 0) hx hb dR_closure_85 (by decide) ?_
            refine lv_ior hx hb dR_closure_86 ?_
            refine lv_topi (fun y4 ey4 => ?_)
            have hy4 : y4 = nI S2 := by rw [ey4, show (0 : Int32) = nI 0 from rfl, nI_or, Nat.or_zero]
            subst hy4
            refine lv_istore_n (lv' := [(2, .int (nI S2)), (0, .ref (w 0)), (1, .int (nI mm)), (3, .int (nI t9)), (4, .int (nI a9)), (5, .int (nI b9))]) hx hb dR_closure_87 rfl hl (by decide) rfl (fun ls hl => ?_)
            refine lv_iinc (v := (nI (b9 + 1))) (lv' := [(5, .int (nI (b9 + 1))), (2, .int (nI S2)), (0, .ref (w 0)), (1, .int (nI mm)), (3, .int (nI t9)), (4, .int (nI a9))]) hx hb dR_closure_88 hl (k := 5) rfl (nI_1 b9) (by decide) rfl (fun ls hl => ?_)
            refine lv_goto (tgt := 43) hx hb dR_closure_91 (by decide) ?_
            exact ih (b9 + 1, S2) ls (⟨hbn, mc_cu_no hcu (fun h1 h2 => by rw [hcu.1 a9 h1] at c4; cases c4)⟩) (by dsimp only; omega) (lv_sub hl [2, 3, 1, 4, 5, 0] rfl)
          · rw [hr1, bZ_0, Bool.not_eq_false] at c4
            refine lv_aload_n hx hb dR_closure_62 rfl (lv_at hl 0 rfl) ?_
            refine va_get (D := (dC, dI)) (ci := 4) (C := RR) (T := FR) (N := 11) hx hb hts (fun w h => List.mem_cons_of_mem _ (inR w h)) hown hK hP 0 rfl rfl 5 (by decide) (hts _ (List.mem_cons_of_mem _ kw464)) (fun _ h9 => h9) rfl dR_closure_63 ?_
            refine lv_bipush (v := 12) hx hb dR_closure_66 (by decide) ?_
            refine lv_iload hx hb dR_closure_68 (lv_at hl 4 rfl) ?_
            refine lv_imul hx hb dR_closure_70 ?_
            refine lv_iload hx hb dR_closure_71 (lv_at hl 5 rfl) ?_
            refine lv_iadd hx hb dR_closure_73 ?_
            refine lv_topi (fun y5 ey5 => ?_)
            have hy5 : y5 = nI (12 * a9 + b9) := by rw [ey5, show (12 : Int32) = nI 12 from rfl, pk_mul, nI_add]
            subst hy5
            refine zaldN hx hb hK hP 4 1 rfl rfl (k := (12 * a9 + b9)) (by omega) (by decide) (v := bZ ((D a9).testBit b9)) (by rw [(mc_ix (a := a9) (b := b9) (by omega)).1, (mc_ix (a := a9) (b := b9) (by omega)).2]) dR_closure_74 ?_
            refine lv_if_eq (tgt := 85) hx hb dR_closure_75 (by decide) (fun c5 => ?_) (fun c5 => ?_)
            · rw [bZ_0] at c5
              refine lv_iconst (v := 0) hx hb dR_closure_85 (by decide) ?_
              refine lv_ior hx hb dR_closure_86 ?_
              refine lv_topi (fun y6 ey6 => ?_)
              have hy6 : y6 = nI S2 := by rw [ey6, show (0 : Int32) = nI 0 from rfl, nI_or, Nat.or_zero]
              subst hy6
              refine lv_istore_n (lv' := [(2, .int (nI S2)), (0, .ref (w 0)), (1, .int (nI mm)), (3, .int (nI t9)), (4, .int (nI a9)), (5, .int (nI b9))]) hx hb dR_closure_87 rfl hl (by decide) rfl (fun ls hl => ?_)
              refine lv_iinc (v := (nI (b9 + 1))) (lv' := [(5, .int (nI (b9 + 1))), (2, .int (nI S2)), (0, .ref (w 0)), (1, .int (nI mm)), (3, .int (nI t9)), (4, .int (nI a9))]) hx hb dR_closure_88 hl (k := 5) rfl (nI_1 b9) (by decide) rfl (fun ls hl => ?_)
              refine lv_goto (tgt := 43) hx hb dR_closure_91 (by decide) ?_
              exact ih (b9 + 1, S2) ls (⟨hbn, mc_cu_no hcu (fun h1 h2 => by rw [c5] at h2; cases h2)⟩) (by dsimp only; omega) (lv_sub hl [2, 3, 1, 4, 5, 0] rfl)
            · rw [bZ_0, Bool.not_eq_false] at c5
              refine lv_iconst (v := 1) hx hb dR_closure_78 (by decide) ?_
              refine lv_iload hx hb dR_closure_79 (lv_at hl 5 rfl) ?_
              refine lv_ishl hx hb dR_closure_81 ?_
              refine lv_goto (tgt := 86) hx hb dR_closure_82 (by decide) ?_
              refine lv_ior hx hb dR_closure_86 ?_
              refine lv_topi (fun y7 ey7 => ?_)
              have hy7 : y7 = nI (S2 ||| 2 ^ b9) := by rw [ey7, nI_bit (by omega), nI_or]
              subst hy7
              refine lv_istore_n (lv' := [(2, .int (nI (S2 ||| 2 ^ b9))), (0, .ref (w 0)), (1, .int (nI mm)), (3, .int (nI t9)), (4, .int (nI a9)), (5, .int (nI b9))]) hx hb dR_closure_87 rfl hl (by decide) rfl (fun ls hl => ?_)
              refine lv_iinc (v := (nI (b9 + 1))) (lv' := [(5, .int (nI (b9 + 1))), (2, .int (nI (S2 ||| 2 ^ b9))), (0, .ref (w 0)), (1, .int (nI mm)), (3, .int (nI t9)), (4, .int (nI a9))]) hx hb dR_closure_88 hl (k := 5) rfl (nI_1 b9) (by decide) rfl (fun ls hl => ?_)
              refine lv_goto (tgt := 43) hx hb dR_closure_91 (by decide) ?_
              exact ih (b9 + 1, (S2 ||| 2 ^ b9)) ls (⟨hbn, mc_cu_add hcu han hbn c4 c5⟩) (by dsimp only; omega) (lv_sub hl [2, 3, 1, 4, 5, 0] rfl)
  · exact absurd cg (by decide)
set_option maxHeartbeats 4000000 in
set_option maxRecDepth 100000 in
theorem c_R_budget_ok (l : Launch) (dC : Nat → ClassId) (dI : Nat → Nat → Nat) (w : Nat → Nat) (cI cZ : ClassId) (th n : Nat) (C G X D : Nat → Nat) (B : Nat → Nat → Int) (bu : Nat → Nat) (LG : Nat → Int) (LC : Nat → Nat) (ch : Nat → Int) (sz : Nat) (z : Int) (hz1 : -2147483648 ≤ z) (hz2 : z < 2147483648) (hn : n ≤ 12) (hC : ∀ m, C m ≤ 10000) (hG : ∀ m, G m ≤ 10000) (hB : ∀ i j, -5000 ≤ B i j ∧ B i j ≤ 5000) (hXn : ∀ m j, (X m).testBit j = true → j < n) (hDn : ∀ m j, (D m).testBit j = true → j < n) : Met l yR_budget wdR_budget ({ frames := 2, cells := 0, slots := 0, locals := 45 }) (wrP (dC, dI) mcCl (mcWR w cI cZ th n C G X D B bu LG LC ch) (mcTR cI cZ) sz [.ref (w 0), .int (iI z)]) (va_Qi (fun z9 (_ : Unit) => ((z9 = -1 ∧ ∀ T, T < 2 ^ n → mc_law n X D T → mc_gain G B T n < z) ∨ ∃ s9, s9 < 2 ^ n ∧ z9 = nI (mc_cost C s9 n) ∧ mc_law n X D s9 ∧ z ≤ mc_gain G B s9 n ∧ ∀ T, T < 2 ^ n → mc_law n X D T → z ≤ mc_gain G B T n → mc_cost C s9 n ≤ mc_cost C T n)) (fun _ t => va_P (dC, dI) mcCl (mcWR w cI cZ 0 n C G X D B bu LG LC ch) t.heap ∧ va_K (dC, dI) mcCl (mcTR cI cZ) t ∧ va_D (va_A (mcWR w cI cZ th n C G X D B bu LG LC ch) sz) (mcWR w cI cZ 0 n C G X D B bu LG LC ch)) (va_A (mcWR w cI cZ th n C G X D B bu LG LC ch) sz)) 0 0 (va_A (mcWR w cI cZ th n C G X D B bu LG LC ch) sz) := by
  refine Met.ofW (cc := bR_budget) (maxL := 6) (ret := (some FieldType.int)) (by decide) rfl ?_
  intro p e s m args below meth c s₁ BB hml hv
  obtain ⟨rfl, hsz, hP, hK, hD0⟩ := hv
  have hx := BB.exec
  have hb := BB.bytes
  have hr := BB.returns
  have hts := atoms_spec (ws := wdR_budget) BB.pre
  have hown : s.vm.findClass RR = some m.cls := findClass_of_methodNamed BB.named
  have hlocks := BB.notSynchronized
  subst hsz
  have hD := hD0.self (sz := s.heap.size)
  generalize hAe : va_A (mcWR w cI cZ th n C G X D B bu LG LC ch) s.heap.size = A at hD ⊢
  have hA : ∀ q : Nat, s.heap.size ≤ q → A q := fun q h => by rw [← hAe]; exact Or.inr h
  have hS : va_S A s.heap s.heap [] := va_S.rf
  have hl := lv_entry ([.ref (w 0), .int (iI z)]) (n := 6) (Nat.le_of_ble_eq_true rfl)
  rw [lg_entry_eq]
  generalize (lg_sl ([.ref (w 0), .int (iI z)]) ++ List.replicate (6 - (lg_sl ([.ref (w 0), .int (iI z)])).length) Slot.unset).toArray = ls at hl ⊢
  have hl : lv_has ls 6 [(0, .ref (w 0)), (1, .int (iI z))] := hl
  have hp12 : 2 ^ n ≤ 2 ^ 12 := Nat.pow_le_pow_right (by decide) hn
  refine lv_aload_n hx hb dR_budget_0 rfl (lv_at hl 0 rfl) ?_
  refine lv_iconst (v := 0) hx hb dR_budget_1 (by decide) ?_
  refine lv_topi (fun y1 ey1 => ?_)
  have hy1 : y1 = nI 0 := by rw [ey1]; rfl
  subst hy1
  refine va_put (D := (dC, dI)) (ci := 4) (ty := .int) (C := RR) (T := FR) (N := 11) hx hb hts (fun w h => List.mem_cons_of_mem _ (inR w h)) tR tR_ok nR hown hK hP hD hS 0 rfl rfl 0 (by decide) (hts _ (List.mem_cons_of_mem _ kw459)) (fun _ h9 => h9) rfl (by decide +kernel) rfl rfl (Nat.le_of_ble_eq_true rfl) dR_budget_2 (fun H locs hP hD hS => ?_)
  have hP : va_P (dC, dI) mcCl (mcWR w cI cZ 0 n C G X D B bu LG LC ch) H := hP
  have hD : va_D A (mcWR w cI cZ 0 n C G X D B bu LG LC ch) := hD
  refine lv_iconst (v := (-1)) hx hb dR_budget_5 (by decide) ?_
  refine lv_istore_n (lv' := [(2, .int (-1)), (0, .ref (w 0)), (1, .int (iI z))]) hx hb dR_budget_6 rfl hl (by decide) rfl (fun ls hl => ?_)
  refine lv_iconst (v := 1) hx hb dR_budget_7 (by decide) ?_
  refine lv_aload_n hx hb dR_budget_8 rfl (lv_at hl 1 rfl) ?_
  refine va_get (D := (dC, dI)) (ci := 4) (C := RR) (T := FR) (N := 11) hx hb hts (fun w h => List.mem_cons_of_mem _ (inR w h)) hown hK hP 0 rfl rfl 1 (by decide) (hts _ (List.mem_cons_of_mem _ kw460)) (fun _ h9 => h9) rfl dR_budget_9 ?_
  refine lv_ishl hx hb dR_budget_12 ?_
  refine lv_topi (fun y2 ey2 => ?_)
  have hy2 : y2 = nI (2 ^ n) := by rw [ey2, nI_bit (by omega)]
  subst hy2
  refine lv_istore_n (lv' := [(3, .int (nI (2 ^ n))), (2, .int (-1)), (0, .ref (w 0)), (1, .int (iI z))]) hx hb dR_budget_13 rfl hl (by decide) rfl (fun ls hl => ?_)
  refine lv_iconst (v := 0) hx hb dR_budget_14 (by decide) ?_
  refine lv_istore (lv' := [(4, .int 0), (3, .int (nI (2 ^ n))), (2, .int (-1)), (0, .ref (w 0)), (1, .int (iI z))]) hx hb dR_budget_15 hl (by decide) rfl (fun ls hl => ?_)
  refine lpR (σ := Nat × Int32) (fun x => x.1 ≤ 2 ^ n ∧ ((x.2 = -1 ∧ ∀ T, T < x.1 → mc_law n X D T → mc_gain G B T n < z) ∨ ∃ s9, s9 < x.1 ∧ x.2 = nI (mc_cost C s9 n) ∧ mc_law n X D s9 ∧ z ≤ mc_gain G B s9 n ∧ ∀ T, T < x.1 → mc_law n X D T → z ≤ mc_gain G B T n → mc_cost C s9 n ≤ mc_cost C T n)) (fun x => [(0, .ref (w 0)), (1, .int (iI z)), (2, .int x.2), (3, .int (nI (2 ^ n))), (4, .int (nI x.1))]) (fun x => 2 ^ n - x.1) (fun x ls hI hl ih => ?_) ((0, -1)) ls (⟨Nat.zero_le _, Or.inl ⟨rfl, fun T h => absurd h (Nat.not_lt_zero T)⟩⟩) (lv_sub hl [3, 4, 2, 1, 0] rfl)
  obtain ⟨k, v2⟩ := x
  have hl : lv_has ls 6 [(0, .ref (w 0)), (1, .int (iI z)), (2, .int v2), (3, .int (nI (2 ^ n))), (4, .int (nI k))] := hl
  obtain ⟨hk, hI⟩ := hI
  dsimp only at hk hI
  refine lv_iload hx hb dR_budget_17 (lv_at hl 4 rfl) ?_
  refine lv_iload_n hx hb dR_budget_19 rfl (lv_at hl 3 rfl) ?_
  refine lv_icmp_ge (tgt := 70) hx hb dR_budget_20 (by decide) (fun c1 => ?_) (fun c1 => ?_)
  · have hkn : k = 2 ^ n := by have := (nI_leI (by omega) (by omega)).mp c1; omega
    rw [hkn] at hI
    refine lv_iload_n hx hb dR_budget_70 rfl (lv_at hl 2 rfl) ?_
    exact W.iret (v := v2) hx hb hr (fun t ht hW => ⟨⟨v2, (), rfl, hI, by rw [ht]; exact hP, va_K.moved hW.alike hK, hD⟩, hS.F ht⟩) hS.2.2 dR_budget_71
  · have hkn : k < 2 ^ n := by
      rcases Nat.lt_or_ge k (2 ^ n) with z9 | z9
      · exact z9
      · exact absurd (nI_le z9 (by omega)) c1
    refine lv_aload_n hx hb dR_budget_23 rfl (lv_at hl 0 rfl) ?_
    refine lv_iload hx hb dR_budget_24 (lv_at hl 4 rfl) ?_
    refine callRV (As := [.int (nI k)]) (rest := []) ⟨hx, hb, hml, hown, hts⟩ tlB (c_R_costOf l dC dI w cI cZ 0 n C G X D B bu LG LC ch k hn (by omega)) kw544 kw545 kw18 kw29 kw546 ⟨rfl, rfl⟩ (n := 1) (by decide +kernel) ⟨Nat.le_of_ble_eq_true rfl, Nat.le_of_ble_eq_true rfl⟩ (roP_preV hP hK (ci := 4) (q0 := 0) rfl rfl) rfl hl.1 rfl (Nat.le_of_ble_eq_true rfl) ⟨Nat.le_of_ble_eq_true rfl, Nat.le_of_ble_eq_true rfl⟩ dR_budget_26 (fun r1 hr1 => ?_)
    subst hr1
    have hcb := mc_cost_le (S := k) hC n
    have hgb := mc_gain_le (S := k) hG hB n hn
    have hgz := iI_lt (a := mc_gain G B k n) (b := z) (by omega) (by omega) hz1 hz2
    refine lv_istore (lv' := [(5, .int (nI (mc_cost C k n))), (0, .ref (w 0)), (1, .int (iI z)), (2, .int v2), (3, .int (nI (2 ^ n))), (4, .int (nI k))]) hx hb dR_budget_29 hl (by decide) rfl (fun ls hl => ?_)
    refine lv_iload_n hx hb dR_budget_31 rfl (lv_at hl 3 rfl) ?_
    refine lv_iconst (v := (-1)) hx hb dR_budget_32 (by decide) ?_
    rcases hI with ⟨rfl, hI⟩ | ⟨s9, hs9, rfl, hL9, hg9, hI⟩
    ·
      refine lv_icmp_eq (tgt := 42) hx hb dR_budget_33 (by decide) (fun c2 => ?_) (fun c2 => ?_)
      ·
        refine lv_aload_n hx hb dR_budget_42 rfl (lv_at hl 1 rfl) ?_
        refine lv_iload hx hb dR_budget_43 (lv_at hl 5 rfl) ?_
        refine callRV (As := [.int (nI k)]) (rest := []) ⟨hx, hb, hml, hown, hts⟩ tlB (c_R_gainOf l dC dI w cI cZ 0 n C G X D B bu LG LC ch k hn (by omega)) kw547 kw548 kw19 kw29 kw549 ⟨rfl, rfl⟩ (n := 1) (by decide +kernel) ⟨Nat.le_of_ble_eq_true rfl, Nat.le_of_ble_eq_true rfl⟩ (roP_preV hP hK (ci := 4) (q0 := 0) rfl rfl) rfl hl.1 rfl (Nat.le_of_ble_eq_true rfl) ⟨Nat.le_of_ble_eq_true rfl, Nat.le_of_ble_eq_true rfl⟩ dR_budget_45 (fun r3 hr3 => ?_)
        subst hr3
        refine lv_iload_n hx hb dR_budget_48 rfl (lv_at hl 2 rfl) ?_
        refine lv_icmp_lt (tgt := 64) hx hb dR_budget_49 (by decide) (fun c4 => ?_) (fun c4 => ?_)
        · have c4 := hgz.mp c4
          refine lv_iinc (v := (nI (k + 1))) (lv' := [(4, .int (nI (k + 1))), (5, .int (nI (mc_cost C k n))), (0, .ref (w 0)), (1, .int (iI z)), (2, .int (-1)), (3, .int (nI (2 ^ n)))]) hx hb dR_budget_64 hl (k := 5) rfl (nI_1 k) (by decide) rfl (fun ls hl => ?_)
          refine lv_goto (tgt := 17) hx hb dR_budget_67 (by decide) ?_
          exact ih (k + 1, -1) ls (⟨hkn, Or.inl ⟨rfl, lt_s hI (fun _ => c4)⟩⟩) (by dsimp only; omega) (lv_sub hl [2, 3, 4, 5, 0] rfl)
        · have c4 : z ≤ mc_gain G B k n := by
            rcases Int.lt_or_le (mc_gain G B k n) z with q | q
            · exact absurd (hgz.mpr q) c4
            · exact q
          refine lv_aload_n hx hb dR_budget_52 rfl (lv_at hl 1 rfl) ?_
          refine lv_iload hx hb dR_budget_53 (lv_at hl 5 rfl) ?_
          refine callRV (As := [.int (nI k)]) (rest := []) ⟨hx, hb, hml, hown, hts⟩ tlB (c_R_holds l dC dI w cI cZ 0 n C G X D B bu LG LC ch k hn (by omega) hXn hDn) kw534 kw535 kw17 kw29 kw536 ⟨rfl, rfl⟩ (n := 1) (by decide +kernel) ⟨Nat.le_of_ble_eq_true rfl, Nat.le_of_ble_eq_true rfl⟩ (roP_preV hP hK (ci := 4) (q0 := 0) rfl rfl) rfl hl.1 rfl (Nat.le_of_ble_eq_true rfl) ⟨Nat.le_of_ble_eq_true rfl, Nat.le_of_ble_eq_true rfl⟩ dR_budget_55 (fun r4 hr4 => ?_)
          refine lv_if_eq (tgt := 64) hx hb dR_budget_58 (by decide) (fun c5 => ?_) (fun c5 => ?_)
          · have c5 := mcZ_f hr4 c5
            refine lv_iinc (v := (nI (k + 1))) (lv' := [(4, .int (nI (k + 1))), (5, .int (nI (mc_cost C k n))), (0, .ref (w 0)), (1, .int (iI z)), (2, .int (-1)), (3, .int (nI (2 ^ n)))]) hx hb dR_budget_64 hl (k := 5) rfl (nI_1 k) (by decide) rfl (fun ls hl => ?_)
            refine lv_goto (tgt := 17) hx hb dR_budget_67 (by decide) ?_
            exact ih (k + 1, -1) ls (⟨hkn, Or.inl ⟨rfl, lt_s hI (fun h => absurd h c5)⟩⟩) (by dsimp only; omega) (lv_sub hl [2, 3, 4, 5, 0] rfl)
          · have c5 := mcZ_t hr4 c5
            refine lv_iload hx hb dR_budget_61 (lv_at hl 0 rfl) ?_
            refine lv_istore_n (lv' := [(2, .int (nI (mc_cost C k n))), (5, .int (nI (mc_cost C k n))), (0, .ref (w 0)), (1, .int (iI z)), (3, .int (nI (2 ^ n))), (4, .int (nI k))]) hx hb dR_budget_63 rfl hl (by decide) rfl (fun ls hl => ?_)
            refine lv_iinc (v := (nI (k + 1))) (lv' := [(4, .int (nI (k + 1))), (2, .int (nI (mc_cost C k n))), (5, .int (nI (mc_cost C k n))), (0, .ref (w 0)), (1, .int (iI z)), (3, .int (nI (2 ^ n)))]) hx hb dR_budget_64 hl (k := 5) rfl (nI_1 k) (by decide) rfl (fun ls hl => ?_)
            refine lv_goto (tgt := 17) hx hb dR_budget_67 (by decide) ?_
            exact ih (k + 1, nI (mc_cost C k n)) ls (⟨hkn, Or.inr ⟨k, by dsimp only; omega, rfl, c5, c4, lt_s (fun T hT a1 a2 => absurd a2 (by have := hI T hT a1; omega)) (fun _ _ => Nat.le_refl _)⟩⟩) (by dsimp only; omega) (lv_sub hl [3, 4, 1, 5, 0] rfl)
      · exact absurd rfl c2
    ·
      refine lv_icmp_eq (tgt := 42) hx hb dR_budget_33 (by decide) (fun c2 => ?_) (fun c2 => ?_)
      · exact absurd c2 (nI_nm1 (by have := mc_cost_le (S := s9) hC n; omega))
      ·
        refine lv_iload hx hb dR_budget_36 (lv_at hl 0 rfl) ?_
        refine lv_iload_n hx hb dR_budget_38 rfl (lv_at hl 3 rfl) ?_
        have hcb2 := mc_cost_le (S := s9) hC n
        refine lv_icmp_ge (tgt := 64) hx hb dR_budget_39 (by decide) (fun c3 => ?_) (fun c3 => ?_)
        · have c3 := (nI_leI (by omega) (by omega)).mp c3
          refine lv_iinc (v := (nI (k + 1))) (lv' := [(4, .int (nI (k + 1))), (5, .int (nI (mc_cost C k n))), (0, .ref (w 0)), (1, .int (iI z)), (2, .int (nI (mc_cost C s9 n))), (3, .int (nI (2 ^ n)))]) hx hb dR_budget_64 hl (k := 5) rfl (nI_1 k) (by decide) rfl (fun ls hl => ?_)
          refine lv_goto (tgt := 17) hx hb dR_budget_67 (by decide) ?_
          exact ih (k + 1, nI (mc_cost C s9 n)) ls (⟨hkn, Or.inr ⟨s9, by dsimp only; omega, rfl, hL9, hg9, lt_s hI (fun _ _ => c3)⟩⟩) (by dsimp only; omega) (lv_sub hl [2, 3, 4, 5, 0] rfl)
        · have c3 : mc_cost C k n < mc_cost C s9 n := by
            rcases Nat.lt_or_ge (mc_cost C k n) (mc_cost C s9 n) with q | q
            · exact q
            · exact absurd ((nI_leI (by omega) (by omega)).mpr q) c3
          refine lv_aload_n hx hb dR_budget_42 rfl (lv_at hl 1 rfl) ?_
          refine lv_iload hx hb dR_budget_43 (lv_at hl 5 rfl) ?_
          refine callRV (As := [.int (nI k)]) (rest := []) ⟨hx, hb, hml, hown, hts⟩ tlB (c_R_gainOf l dC dI w cI cZ 0 n C G X D B bu LG LC ch k hn (by omega)) kw547 kw548 kw19 kw29 kw549 ⟨rfl, rfl⟩ (n := 1) (by decide +kernel) ⟨Nat.le_of_ble_eq_true rfl, Nat.le_of_ble_eq_true rfl⟩ (roP_preV hP hK (ci := 4) (q0 := 0) rfl rfl) rfl hl.1 rfl (Nat.le_of_ble_eq_true rfl) ⟨Nat.le_of_ble_eq_true rfl, Nat.le_of_ble_eq_true rfl⟩ dR_budget_45 (fun r3 hr3 => ?_)
          subst hr3
          refine lv_iload_n hx hb dR_budget_48 rfl (lv_at hl 2 rfl) ?_
          refine lv_icmp_lt (tgt := 64) hx hb dR_budget_49 (by decide) (fun c4 => ?_) (fun c4 => ?_)
          · have c4 := hgz.mp c4
            refine lv_iinc (v := (nI (k + 1))) (lv' := [(4, .int (nI (k + 1))), (5, .int (nI (mc_cost C k n))), (0, .ref (w 0)), (1, .int (iI z)), (2, .int (nI (mc_cost C s9 n))), (3, .int (nI (2 ^ n)))]) hx hb dR_budget_64 hl (k := 5) rfl (nI_1 k) (by decide) rfl (fun ls hl => ?_)
            refine lv_goto (tgt := 17) hx hb dR_budget_67 (by decide) ?_
            exact ih (k + 1, nI (mc_cost C s9 n)) ls (⟨hkn, Or.inr ⟨s9, by dsimp only; omega, rfl, hL9, hg9, lt_s hI (fun _ h => absurd h (by omega))⟩⟩) (by dsimp only; omega) (lv_sub hl [2, 3, 4, 5, 0] rfl)
          · have c4 : z ≤ mc_gain G B k n := by
              rcases Int.lt_or_le (mc_gain G B k n) z with q | q
              · exact absurd (hgz.mpr q) c4
              · exact q
            refine lv_aload_n hx hb dR_budget_52 rfl (lv_at hl 1 rfl) ?_
            refine lv_iload hx hb dR_budget_53 (lv_at hl 5 rfl) ?_
            refine callRV (As := [.int (nI k)]) (rest := []) ⟨hx, hb, hml, hown, hts⟩ tlB (c_R_holds l dC dI w cI cZ 0 n C G X D B bu LG LC ch k hn (by omega) hXn hDn) kw534 kw535 kw17 kw29 kw536 ⟨rfl, rfl⟩ (n := 1) (by decide +kernel) ⟨Nat.le_of_ble_eq_true rfl, Nat.le_of_ble_eq_true rfl⟩ (roP_preV hP hK (ci := 4) (q0 := 0) rfl rfl) rfl hl.1 rfl (Nat.le_of_ble_eq_true rfl) ⟨Nat.le_of_ble_eq_true rfl, Nat.le_of_ble_eq_true rfl⟩ dR_budget_55 (fun r4 hr4 => ?_)
            refine lv_if_eq (tgt := 64) hx hb dR_budget_58 (by decide) (fun c5 => ?_) (fun c5 => ?_)
            · have c5 := mcZ_f hr4 c5
              refine lv_iinc (v := (nI (k + 1))) (lv' := [(4, .int (nI (k + 1))), (5, .int (nI (mc_cost C k n))), (0, .ref (w 0)), (1, .int (iI z)), (2, .int (nI (mc_cost C s9 n))), (3, .int (nI (2 ^ n)))]) hx hb dR_budget_64 hl (k := 5) rfl (nI_1 k) (by decide) rfl (fun ls hl => ?_)
              refine lv_goto (tgt := 17) hx hb dR_budget_67 (by decide) ?_
              exact ih (k + 1, nI (mc_cost C s9 n)) ls (⟨hkn, Or.inr ⟨s9, by dsimp only; omega, rfl, hL9, hg9, lt_s hI (fun h => absurd h c5)⟩⟩) (by dsimp only; omega) (lv_sub hl [2, 3, 4, 5, 0] rfl)
            · have c5 := mcZ_t hr4 c5
              refine lv_iload hx hb dR_budget_61 (lv_at hl 0 rfl) ?_
              refine lv_istore_n (lv' := [(2, .int (nI (mc_cost C k n))), (5, .int (nI (mc_cost C k n))), (0, .ref (w 0)), (1, .int (iI z)), (3, .int (nI (2 ^ n))), (4, .int (nI k))]) hx hb dR_budget_63 rfl hl (by decide) rfl (fun ls hl => ?_)
              refine lv_iinc (v := (nI (k + 1))) (lv' := [(4, .int (nI (k + 1))), (2, .int (nI (mc_cost C k n))), (5, .int (nI (mc_cost C k n))), (0, .ref (w 0)), (1, .int (iI z)), (3, .int (nI (2 ^ n)))]) hx hb dR_budget_64 hl (k := 5) rfl (nI_1 k) (by decide) rfl (fun ls hl => ?_)
              refine lv_goto (tgt := 17) hx hb dR_budget_67 (by decide) ?_
              exact ih (k + 1, nI (mc_cost C k n)) ls (⟨hkn, Or.inr ⟨k, by dsimp only; omega, rfl, c5, c4, lt_s (fun T hT a1 a2 => Nat.le_trans (Nat.le_of_lt c3) (hI T hT a1 a2)) (fun _ _ => Nat.le_refl _)⟩⟩) (by dsimp only; omega) (lv_sub hl [3, 4, 1, 5, 0] rfl)
set_option maxHeartbeats 4000000 in
set_option maxRecDepth 100000 in
theorem c_R_frontier_ok (l : Launch) (dC : Nat → ClassId) (dI : Nat → Nat → Nat) (w : Nat → Nat) (cI cZ : ClassId) (th n : Nat) (C G X D : Nat → Nat) (B : Nat → Nat → Int) (bu : Nat → Nat) (LG : Nat → Int) (LC : Nat → Nat) (ch : Nat → Int) (sz : Nat) (k : Nat) (hk9 : k < 2 ^ 31) (hn : n ≤ 12) (hC : ∀ m, C m ≤ 10000) (hG : ∀ m, G m ≤ 10000) (hB : ∀ i j, -5000 ≤ B i j ∧ B i j ≤ 5000) (hXn : ∀ m j, (X m).testBit j = true → j < n) (hDn : ∀ m j, (D m).testBit j = true → j < n) : Met l yR_frontier wdR_frontier ({ frames := 3, cells := 0, slots := 0, locals := 75 }) (wrP (dC, dI) mcCl (mcWR w cI cZ th n C G X D B bu LG LC ch) (mcTR cI cZ) sz [.ref (w 0), .int (nI k)]) (va_Qi (fun z9 (_ : Unit) => mc_fro n C G X D B k z9) (fun _ t => va_P (dC, dI) mcCl (mcWR w cI cZ 0 n C G X D B bu LG LC ch) t.heap ∧ va_K (dC, dI) mcCl (mcTR cI cZ) t ∧ va_D (va_A (mcWR w cI cZ th n C G X D B bu LG LC ch) sz) (mcWR w cI cZ 0 n C G X D B bu LG LC ch)) (va_A (mcWR w cI cZ th n C G X D B bu LG LC ch) sz)) 0 0 (va_A (mcWR w cI cZ th n C G X D B bu LG LC ch) sz) := by
  refine Met.ofW (cc := bR_frontier) (maxL := 4) (ret := (some FieldType.int)) (by decide) rfl ?_
  intro p e s m args below meth c s₁ BB hml hv
  obtain ⟨rfl, hsz, hP, hK, hD0⟩ := hv
  have hx := BB.exec
  have hb := BB.bytes
  have hr := BB.returns
  have hts := atoms_spec (ws := wdR_frontier) BB.pre
  have hown : s.vm.findClass RR = some m.cls := findClass_of_methodNamed BB.named
  have hlocks := BB.notSynchronized
  subst hsz
  have hD := hD0.self (sz := s.heap.size)
  generalize hAe : va_A (mcWR w cI cZ th n C G X D B bu LG LC ch) s.heap.size = A at hD ⊢
  have hA : ∀ q : Nat, s.heap.size ≤ q → A q := fun q h => by rw [← hAe]; exact Or.inr h
  have hS : va_S A s.heap s.heap [] := va_S.rf
  have hl := lv_entry ([.ref (w 0), .int (nI k)]) (n := 4) (Nat.le_of_ble_eq_true rfl)
  rw [lg_entry_eq]
  generalize (lg_sl ([.ref (w 0), .int (nI k)]) ++ List.replicate (4 - (lg_sl ([.ref (w 0), .int (nI k)])).length) Slot.unset).toArray = ls at hl ⊢
  have hl : lv_has ls 4 [(0, .ref (w 0)), (1, .int (nI k))] := hl
  have hp12 : 2 ^ n ≤ 2 ^ 12 := Nat.pow_le_pow_right (by decide) hn
  have hpp : 0 < 2 ^ n := Nat.pow_pos (by decide)
  refine lv_aload_n hx hb dR_frontier_0 rfl (lv_at hl 0 rfl) ?_
  refine lv_iload_n hx hb dR_frontier_1 rfl (lv_at hl 1 rfl) ?_
  refine lv_if_lt (tgt := 9) hx hb dR_frontier_2 (by decide) (fun k1 => ?_) (fun k1 => ?_)
  · exact absurd k1 (nI_pos hk9)
  ·
    refine lv_iconst (v := 1) hx hb dR_frontier_5 (by decide) ?_
    refine lv_goto (tgt := 10) hx hb dR_frontier_6 (by decide) ?_
    refine callWVi (As := [.int 1]) (rest := []) ⟨hx, hb, hml, hown, hts⟩ tlB (c_R_good1 l dC dI w cI cZ th n C G X D B bu LG LC ch s.heap.size) kw505 kw506 kw14 kw29 kw507 ⟨rfl, rfl⟩ (n := 1) (by decide +kernel) ⟨Nat.le_of_ble_eq_true rfl, Nat.le_of_ble_eq_true rfl⟩ hP hK hD hS (freeA hD hS hA) (ci := 4) (q0 := 0) rfl rfl rfl hl.1 rfl (Nat.le_of_ble_eq_true rfl) ⟨Nat.le_of_ble_eq_true rfl, Nat.le_of_ble_eq_true rfl⟩ dR_frontier_10 (fun rg H1 locs1 hrg hP1 hD1 hk1 hS1 => ?_)
    have hD := hD1.weaken (fun _ z _ h => (freeA hD hS hA) z.1 h)
    have hP := hP1
    have hS := hS1
    have hrg : rg = 1 := hrg
    subst hrg
    refine lv_if_ne (tgt := 18) hx hb dR_frontier_13 (by decide) (fun cg => ?_) (fun cg => ?_)
    ·
      refine lv_iconst (v := 0) hx hb dR_frontier_18 (by decide) ?_
      refine lv_istore_n (lv' := [(2, .int 0), (0, .ref (w 0)), (1, .int (nI k))]) hx hb dR_frontier_19 rfl hl (by decide) rfl (fun ls hl => ?_)
      refine lv_iconst (v := 0) hx hb dR_frontier_20 (by decide) ?_
      refine lv_istore_n (lv' := [(3, .int 0), (2, .int 0), (0, .ref (w 0)), (1, .int (nI k))]) hx hb dR_frontier_21 rfl hl (by decide) rfl (fun ls hl => ?_)
      refine lpR (σ := Nat × Int32) (fun x => x.1 ≤ k ∧ mc_fro n C G X D B x.1 x.2 ∧ (x.2 = -1 ∨ ∃ s9, s9 < 2 ^ n ∧ x.2 = nI s9)) (fun x => [(0, .ref (w 0)), (1, .int (nI k)), (2, .int x.2), (3, .int (nI x.1))]) (fun x => k - x.1) (fun x ls hI hl ih => ?_) ((0, 0)) ls (⟨Nat.zero_le _, rfl, Or.inr ⟨0, hpp, rfl⟩⟩) (lv_sub hl [2, 3, 1, 0] rfl)
      obtain ⟨i, v2⟩ := x
      have hl : lv_has ls 4 [(0, .ref (w 0)), (1, .int (nI k)), (2, .int v2), (3, .int (nI i))] := hl
      obtain ⟨hi, hfr, hv⟩ := hI
      dsimp only at hi hfr hv
      refine lv_iload_n hx hb dR_frontier_22 rfl (lv_at hl 3 rfl) ?_
      refine lv_iload_n hx hb dR_frontier_23 rfl (lv_at hl 1 rfl) ?_
      refine lv_icmp_ge (tgt := 53) hx hb dR_frontier_24 (by decide) (fun c1 => ?_) (fun c1 => ?_)
      · have hin : i = k := by have := (nI_leI (by omega) (by omega)).mp c1; omega
        rw [hin] at hfr
        refine lv_iload_n hx hb dR_frontier_53 rfl (lv_at hl 2 rfl) ?_
        exact W.iret (v := v2) hx hb hr (fun t ht hW => ⟨⟨v2, (), rfl, hfr, by rw [ht]; exact hP, va_K.moved hW.alike hK, hD⟩, hS.F ht⟩) hS.2.2 dR_frontier_54
      · have hin : i < k := by
          rcases Nat.lt_or_ge i k with z | z
          · exact z
          · exact absurd (nI_le z (by omega)) c1
        refine lv_iload_n hx hb dR_frontier_27 rfl (lv_at hl 2 rfl) ?_
        refine lv_iconst (v := (-1)) hx hb dR_frontier_28 (by decide) ?_
        refine lv_icmp_eq (tgt := 53) hx hb dR_frontier_29 (by decide) (fun c2 => ?_) (fun c2 => ?_)
        · have hfk := mc_fro_none (by rw [c2] at hfr; exact hfr) (k - i)
          rw [show i + (k - i) = k by omega, ← c2] at hfk
          refine lv_iload_n hx hb dR_frontier_53 rfl (lv_at hl 2 rfl) ?_
          exact W.iret (v := v2) hx hb hr (fun t ht hW => ⟨⟨v2, (), rfl, hfk, by rw [ht]; exact hP, va_K.moved hW.alike hK, hD⟩, hS.F ht⟩) hS.2.2 dR_frontier_54
        · obtain ⟨s9, hs9, rfl⟩ : ∃ s9, s9 < 2 ^ n ∧ v2 = nI s9 := by rcases hv with q | q; exact absurd q c2; exact q
          refine lv_aload_n hx hb dR_frontier_32 rfl (lv_at hl 0 rfl) ?_
          refine lv_aload_n hx hb dR_frontier_33 rfl (lv_at hl 0 rfl) ?_
          refine lv_iload_n hx hb dR_frontier_34 rfl (lv_at hl 2 rfl) ?_
          refine callRV (As := [.int (nI s9)]) (rest := [.ref (w 0)]) ⟨hx, hb, hml, hown, hts⟩ tlB (c_R_costOf l dC dI w cI cZ 0 n C G X D B bu LG LC ch s9 hn (by omega)) kw544 kw545 kw18 kw29 kw546 ⟨rfl, rfl⟩ (n := 1) (by decide +kernel) ⟨Nat.le_of_ble_eq_true rfl, Nat.le_of_ble_eq_true rfl⟩ (roP_preV hP hK (ci := 4) (q0 := 0) rfl rfl) rfl hl.1 rfl (Nat.le_of_ble_eq_true rfl) ⟨Nat.le_of_ble_eq_true rfl, Nat.le_of_ble_eq_true rfl⟩ dR_frontier_35 (fun r1 hr1 => ?_)
          subst hr1
          refine lv_aload_n hx hb dR_frontier_38 rfl (lv_at hl 0 rfl) ?_
          refine lv_iload_n hx hb dR_frontier_39 rfl (lv_at hl 2 rfl) ?_
          refine callRV (As := [.int (nI s9)]) (rest := [.int (nI (mc_cost C s9 n)), .ref (w 0)]) ⟨hx, hb, hml, hown, hts⟩ tlB (c_R_gainOf l dC dI w cI cZ 0 n C G X D B bu LG LC ch s9 hn (by omega)) kw547 kw548 kw19 kw29 kw549 ⟨rfl, rfl⟩ (n := 1) (by decide +kernel) ⟨Nat.le_of_ble_eq_true rfl, Nat.le_of_ble_eq_true rfl⟩ (roP_preV hP hK (ci := 4) (q0 := 0) rfl rfl) rfl hl.1 rfl (Nat.le_of_ble_eq_true rfl) ⟨Nat.le_of_ble_eq_true rfl, Nat.le_of_ble_eq_true rfl⟩ dR_frontier_40 (fun r2 hr2 => ?_)
          subst hr2
          have hcb := mc_cost_le (S := s9) hC n
          have hgb := mc_gain_le (S := s9) hG hB n hn
          refine callRV (As := [.int (nI (mc_cost C s9 n)), .int (iI (mc_gain G B s9 n))]) (rest := []) ⟨hx, hb, hml, hown, hts⟩ tlB (c_R_dearer l dC dI w cI cZ 0 n C G X D B bu LG LC ch (mc_cost C s9 n) (mc_gain G B s9 n) (by omega) (by omega) hn hC hG hB hXn hDn) kw574 kw575 kw21 kw29 kw576 ⟨rfl, rfl⟩ (n := 2) (by decide +kernel) ⟨Nat.le_of_ble_eq_true rfl, Nat.le_of_ble_eq_true rfl⟩ (roP_preV hP hK (ci := 4) (q0 := 0) rfl rfl) rfl hl.1 rfl (Nat.le_of_ble_eq_true rfl) ⟨Nat.le_of_ble_eq_true rfl, Nat.le_of_ble_eq_true rfl⟩ dR_frontier_43 (fun r3 hr3 => ?_)
          refine lv_istore_n (lv' := [(2, .int r3), (0, .ref (w 0)), (1, .int (nI k)), (3, .int (nI i))]) hx hb dR_frontier_46 rfl hl (by decide) rfl (fun ls hl => ?_)
          refine lv_iinc (v := (nI (i + 1))) (lv' := [(3, .int (nI (i + 1))), (2, .int r3), (0, .ref (w 0)), (1, .int (nI k))]) hx hb dR_frontier_47 hl (k := 3) rfl (nI_1 i) (by decide) rfl (fun ls hl => ?_)
          refine lv_goto (tgt := 22) hx hb dR_frontier_50 (by decide) ?_
          exact ih (i + 1, r3) ls (⟨hin, Or.inr ⟨s9, hfr, hs9, hr3⟩, by rcases hr3 with ⟨q, -⟩ | ⟨s2, q, q2⟩; exact Or.inl q; exact Or.inr ⟨s2, q2.1, q⟩⟩) (by dsimp only; omega) (lv_sub hl [2, 3, 1, 0] rfl)
    · exact absurd cg (by decide)
/-- the reference's best set of a year, out of its tables -/
def mc_rk (n : Nat) (C G X D : Nat → Nat) (B : Nat → Nat → Int) (bu : Nat → Nat) (N : Nat) (LG : Nat → Int) (LC : Nat → Nat) (y b f : Nat) : Prop := mc_pick N (fun S => mc_cost C S n ≤ mc_pur bu (y + 1) ∧ mc_law n X D S) (fun S => mc_gain G B S n + LG (64 * (y + 1) + S)) (fun S => LC (64 * (y + 1) + S)) b f
set_option maxHeartbeats 4000000 in
set_option maxRecDepth 100000 in
theorem c_R_planned_ok (l : Launch) (dC : Nat → ClassId) (dI : Nat → Nat → Nat) (w : Nat → Nat) (cI cZ : ClassId) (th n : Nat) (C G X D : Nat → Nat) (B : Nat → Nat → Int) (bu : Nat → Nat) (LG : Nat → Int) (LC : Nat → Nat) (ch : Nat → Int) (sz : Nat) (Y : Nat) (hY1 : 1 ≤ Y) (hY4 : Y ≤ 4) (hY : 1 ≤ nI Y ∧ nI Y ≤ 4) (hbu : ∀ y, bu y ≤ 100000) (hn : n ≤ 12) (hC : ∀ m, C m ≤ 10000) (hG : ∀ m, G m ≤ 10000) (hB : ∀ i j, -5000 ≤ B i j ∧ B i j ≤ 5000) (hXn : ∀ m j, (X m).testBit j = true → j < n) (hDn : ∀ m j, (D m).testBit j = true → j < n) : Met l yR_planned wdR_planned ({ frames := 4, cells := 0, slots := 0, locals := 100 }) (wrP (dC, dI) mcCl (mcWR w cI cZ th n C G X D B bu LG LC ch) (mcTR cI cZ) sz [.ref (w 0), .int (nI Y)]) (va_Qi (fun z9 (x : (Nat → Int) × (Nat → Nat) × (Nat → Int)) => z9 = iI (x.1 0) ∧ mc_rp n C G X D B bu (2 ^ mc_m6 n) Y 0 x.1 x.2.1 x.2.2) (fun x t => va_P (dC, dI) mcCl (mcWR w cI cZ 0 n C G X D B bu x.1 x.2.1 x.2.2) t.heap ∧ va_K (dC, dI) mcCl (mcTR cI cZ) t ∧ va_D (va_A (mcWR w cI cZ th n C G X D B bu LG LC ch) sz) (mcWR w cI cZ 0 n C G X D B bu x.1 x.2.1 x.2.2)) (va_A (mcWR w cI cZ th n C G X D B bu LG LC ch) sz)) 0 0 (va_A (mcWR w cI cZ th n C G X D B bu LG LC ch) sz) := by
  refine Met.ofW (cc := bR_planned) (maxL := 2) (ret := (some FieldType.int)) (by decide) rfl ?_
  intro p e s m args below meth c s₁ BB hml hv
  obtain ⟨rfl, hsz, hP, hK, hD0⟩ := hv
  have hx := BB.exec
  have hb := BB.bytes
  have hr := BB.returns
  have hts := atoms_spec (ws := wdR_planned) BB.pre
  have hown : s.vm.findClass RR = some m.cls := findClass_of_methodNamed BB.named
  have hlocks := BB.notSynchronized
  subst hsz
  have hD := hD0.self (sz := s.heap.size)
  generalize hAe : va_A (mcWR w cI cZ th n C G X D B bu LG LC ch) s.heap.size = A at hD ⊢
  have hA : ∀ q : Nat, s.heap.size ≤ q → A q := fun q h => by rw [← hAe]; exact Or.inr h
  have hS : va_S A s.heap s.heap [] := va_S.rf
  have hl := lv_entry ([.ref (w 0), .int (nI Y)]) (n := 2) (Nat.le_of_ble_eq_true rfl)
  rw [lg_entry_eq]
  generalize (lg_sl ([.ref (w 0), .int (nI Y)]) ++ List.replicate (2 - (lg_sl ([.ref (w 0), .int (nI Y)])).length) Slot.unset).toArray = ls at hl ⊢
  have hl : lv_has ls 2 [(0, .ref (w 0)), (1, .int (nI Y))] := hl
  refine lv_aload_n hx hb dR_planned_0 rfl (lv_at hl 0 rfl) ?_
  refine lv_iload_n hx hb dR_planned_1 rfl (lv_at hl 1 rfl) ?_
  refine lv_iconst (v := 1) hx hb dR_planned_2 (by decide) ?_
  refine lv_iconst (v := 4) hx hb dR_planned_3 (by decide) ?_
  refine callRS (As := [.int (nI Y), .int 1, .int 4]) (rest := [.ref (w 0)]) ⟨hx, hb, hml, hown, hts⟩ tlB (c_R_in l (nI Y) 1 4) kw502 kw503 kw29 kw504 ⟨rfl, rfl⟩ (n := 3) (by decide +kernel) ⟨Nat.le_of_ble_eq_true rfl, Nat.le_of_ble_eq_true rfl⟩ (nwP_pre) rfl hl.1 rfl (Nat.le_of_ble_eq_true rfl) ⟨Nat.le_of_ble_eq_true rfl, Nat.le_of_ble_eq_true rfl⟩ dR_planned_4 (fun r2 hr2 => ?_)
  have hr21 : r2 = 1 := by rcases hr2 with ⟨z, -⟩ | ⟨-, z⟩; exact z; exact absurd hY z
  subst hr21
  refine callWVi (As := [.int 1]) (rest := []) ⟨hx, hb, hml, hown, hts⟩ tlB (c_R_good1 l dC dI w cI cZ th n C G X D B bu LG LC ch s.heap.size) kw505 kw506 kw14 kw29 kw507 ⟨rfl, rfl⟩ (n := 1) (by decide +kernel) ⟨Nat.le_of_ble_eq_true rfl, Nat.le_of_ble_eq_true rfl⟩ hP hK hD hS (freeA hD hS hA) (ci := 4) (q0 := 0) rfl rfl rfl hl.1 rfl (Nat.le_of_ble_eq_true rfl) ⟨Nat.le_of_ble_eq_true rfl, Nat.le_of_ble_eq_true rfl⟩ dR_planned_7 (fun rg H1 locs1 hrg hP1 hD1 hk1 hS1 => ?_)
  have hD := hD1.weaken (fun _ z _ h => (freeA hD hS hA) z.1 h)
  have hP := hP1
  have hS := hS1
  have hrg : rg = 1 := hrg
  subst hrg
  refine lv_if_ne (tgt := 15) hx hb dR_planned_10 (by decide) (fun cg => ?_) (fun cg => ?_)
  ·
    refine lv_aload_n hx hb dR_planned_15 rfl (lv_at hl 0 rfl) ?_
    refine lv_iload_n hx hb dR_planned_16 rfl (lv_at hl 1 rfl) ?_
    refine callWX (As := [.int (nI Y)]) (rest := []) ⟨hx, hb, hml, hown, hts⟩ tlB (c_R_work l dC dI w cI cZ 0 n C G X D B bu LG LC ch H1.size hn hC hG hB hXn hDn Y hY1 hY4 hbu) kw586 kw587 kw22 kw29 kw588 ⟨rfl, rfl⟩ (n := 1) (by decide +kernel) ⟨Nat.le_of_ble_eq_true rfl, Nat.le_of_ble_eq_true rfl⟩ hP hK hD hS (freeA hD hS hA) (ci := 4) (q0 := 0) rfl rfl rfl hl.1 rfl (Nat.le_of_ble_eq_true rfl) ⟨Nat.le_of_ble_eq_true rfl, Nat.le_of_ble_eq_true rfl⟩ dR_planned_17 (fun u9 H2 locs2 hu hP2 hD2 hk2 hS2 => ?_)
    obtain ⟨lg, lc, c9⟩ := u9
    dsimp only at hu hP2 hD2
    have hD := hD2.weaken (fun _ z _ h => (freeA hD hS hA) z.1 h)
    have hP := hP2
    have hS := hS2
    refine lv_aload_n hx hb dR_planned_20 rfl (lv_at hl 0 rfl) ?_
    refine va_get (D := (dC, dI)) (ci := 4) (C := RR) (T := FR) (N := 11) hx hb hts (fun w h => List.mem_cons_of_mem _ (inR w h)) hown hK hP 0 rfl rfl 8 (by decide) (hts _ (List.mem_cons_of_mem _ kw467)) (fun _ h9 => h9) rfl dR_planned_21 ?_
    refine lv_iconst (v := 0) hx hb dR_planned_24 (by decide) ?_
    refine W.eq (g2 := F0 m 25 ls [.int (nI 0), .ref (w 7)]) rfl ?_
    refine ialdN hx hb hK hP 7 0 rfl rfl (k := 0) (by decide) (by decide) (v := iI (lg 0)) rfl dR_planned_25 ?_
    exact W.iret (v := (iI (lg 0))) hx hb hr (fun t ht hW => ⟨⟨(iI (lg 0)), (lg, lc, c9), rfl, ⟨rfl, hu⟩, by rw [ht]; exact hP, va_K.moved hW.alike hK, hD⟩, hS.F ht⟩) hS.2.2 dR_planned_26
  · exact absurd cg (by decide)
set_option maxHeartbeats 4000000 in
set_option maxRecDepth 100000 in
theorem c_R_plan_ok (l : Launch) (dC : Nat → ClassId) (dI : Nat → Nat → Nat) (w : Nat → Nat) (cI cZ : ClassId) (th n : Nat) (C G X D : Nat → Nat) (B : Nat → Nat → Int) (bu : Nat → Nat) (LG : Nat → Int) (LC : Nat → Nat) (ch : Nat → Int) (sz : Nat) (Y : Nat) (hY1 : 1 ≤ Y) (hY4 : Y ≤ 4) (hY : 1 ≤ nI Y ∧ nI Y ≤ 4) (hbu : ∀ y, bu y ≤ 100000) (k : Nat) (hkY : k < Y) (hk2 : 0 ≤ nI k ∧ nI k ≤ nI Y - 1) (hn : n ≤ 12) (hC : ∀ m, C m ≤ 10000) (hG : ∀ m, G m ≤ 10000) (hB : ∀ i j, -5000 ≤ B i j ∧ B i j ≤ 5000) (hXn : ∀ m j, (X m).testBit j = true → j < n) (hDn : ∀ m j, (D m).testBit j = true → j < n) : Met l yR_plan wdR_plan ({ frames := 4, cells := 0, slots := 0, locals := 100 }) (wrP (dC, dI) mcCl (mcWR w cI cZ th n C G X D B bu LG LC ch) (mcTR cI cZ) sz [.ref (w 0), .int (nI Y), .int (nI k)]) (va_Qi (fun z9 (x : (Nat → Int) × (Nat → Nat) × (Nat → Int)) => (∃ f9, z9 = nI f9 ∧ mc_seq (mc_rk n C G X D B bu (2 ^ mc_m6 n) x.1 x.2.1) k f9) ∧ mc_rp n C G X D B bu (2 ^ mc_m6 n) Y 0 x.1 x.2.1 x.2.2) (fun x t => va_P (dC, dI) mcCl (mcWR w cI cZ 0 n C G X D B bu x.1 x.2.1 x.2.2) t.heap ∧ va_K (dC, dI) mcCl (mcTR cI cZ) t ∧ va_D (va_A (mcWR w cI cZ th n C G X D B bu LG LC ch) sz) (mcWR w cI cZ 0 n C G X D B bu x.1 x.2.1 x.2.2)) (va_A (mcWR w cI cZ th n C G X D B bu LG LC ch) sz)) 0 0 (va_A (mcWR w cI cZ th n C G X D B bu LG LC ch) sz) := by
  refine Met.ofW (cc := bR_plan) (maxL := 5) (ret := (some FieldType.int)) (by decide) rfl ?_
  intro p e s m args below meth c s₁ BB hml hv
  obtain ⟨rfl, hsz, hP, hK, hD0⟩ := hv
  have hx := BB.exec
  have hb := BB.bytes
  have hr := BB.returns
  have hts := atoms_spec (ws := wdR_plan) BB.pre
  have hown : s.vm.findClass RR = some m.cls := findClass_of_methodNamed BB.named
  have hlocks := BB.notSynchronized
  subst hsz
  have hD := hD0.self (sz := s.heap.size)
  generalize hAe : va_A (mcWR w cI cZ th n C G X D B bu LG LC ch) s.heap.size = A at hD ⊢
  have hA : ∀ q : Nat, s.heap.size ≤ q → A q := fun q h => by rw [← hAe]; exact Or.inr h
  have hS : va_S A s.heap s.heap [] := va_S.rf
  have hl := lv_entry ([.ref (w 0), .int (nI Y), .int (nI k)]) (n := 5) (Nat.le_of_ble_eq_true rfl)
  rw [lg_entry_eq]
  generalize (lg_sl ([.ref (w 0), .int (nI Y), .int (nI k)]) ++ List.replicate (5 - (lg_sl ([.ref (w 0), .int (nI Y), .int (nI k)])).length) Slot.unset).toArray = ls at hl ⊢
  have hl : lv_has ls 5 [(0, .ref (w 0)), (1, .int (nI Y)), (2, .int (nI k))] := hl
  have h6 := mc_m6_le (n := n)
  have hp6 : 2 ^ mc_m6 n ≤ 2 ^ 6 := Nat.pow_le_pow_right (by decide) h6.1
  have hpp : 0 < 2 ^ mc_m6 n := Nat.pow_pos (by decide)
  refine lv_aload_n hx hb dR_plan_0 rfl (lv_at hl 0 rfl) ?_
  refine lv_iload_n hx hb dR_plan_1 rfl (lv_at hl 1 rfl) ?_
  refine lv_iconst (v := 1) hx hb dR_plan_2 (by decide) ?_
  refine lv_iconst (v := 4) hx hb dR_plan_3 (by decide) ?_
  refine callRS (As := [.int (nI Y), .int 1, .int 4]) (rest := [.ref (w 0)]) ⟨hx, hb, hml, hown, hts⟩ tlB (c_R_in l (nI Y) 1 4) kw502 kw503 kw29 kw504 ⟨rfl, rfl⟩ (n := 3) (by decide +kernel) ⟨Nat.le_of_ble_eq_true rfl, Nat.le_of_ble_eq_true rfl⟩ (nwP_pre) rfl hl.1 rfl (Nat.le_of_ble_eq_true rfl) ⟨Nat.le_of_ble_eq_true rfl, Nat.le_of_ble_eq_true rfl⟩ dR_plan_4 (fun r2 hr2 => ?_)
  refine lv_if_eq (tgt := 25) hx hb dR_plan_7 (by decide) (fun k1 => ?_) (fun k1 => ?_)
  · exact absurd hY (mcZ_f hr2 k1)
  ·
    refine lv_iload_n hx hb dR_plan_10 rfl (lv_at hl 2 rfl) ?_
    refine lv_iconst (v := 0) hx hb dR_plan_11 (by decide) ?_
    refine lv_iload_n hx hb dR_plan_12 rfl (lv_at hl 1 rfl) ?_
    refine lv_iconst (v := 1) hx hb dR_plan_13 (by decide) ?_
    refine lv_isub hx hb dR_plan_14 ?_
    refine callRS (As := [.int (nI k), .int 0, .int ((nI Y) - 1)]) (rest := [.ref (w 0)]) ⟨hx, hb, hml, hown, hts⟩ tlB (c_R_in l (nI k) 0 ((nI Y) - 1)) kw502 kw503 kw29 kw504 ⟨rfl, rfl⟩ (n := 3) (by decide +kernel) ⟨Nat.le_of_ble_eq_true rfl, Nat.le_of_ble_eq_true rfl⟩ (nwP_pre) rfl hl.1 rfl (Nat.le_of_ble_eq_true rfl) ⟨Nat.le_of_ble_eq_true rfl, Nat.le_of_ble_eq_true rfl⟩ dR_plan_15 (fun r4 hr4 => ?_)
    refine lv_if_eq (tgt := 25) hx hb dR_plan_18 (by decide) (fun k3 => ?_) (fun k3 => ?_)
    · exact absurd hk2 (mcZ_f hr4 k3)
    ·
      refine lv_iconst (v := 1) hx hb dR_plan_21 (by decide) ?_
      refine lv_goto (tgt := 26) hx hb dR_plan_22 (by decide) ?_
      refine callWVi (As := [.int 1]) (rest := []) ⟨hx, hb, hml, hown, hts⟩ tlB (c_R_good1 l dC dI w cI cZ th n C G X D B bu LG LC ch s.heap.size) kw505 kw506 kw14 kw29 kw507 ⟨rfl, rfl⟩ (n := 1) (by decide +kernel) ⟨Nat.le_of_ble_eq_true rfl, Nat.le_of_ble_eq_true rfl⟩ hP hK hD hS (freeA hD hS hA) (ci := 4) (q0 := 0) rfl rfl rfl hl.1 rfl (Nat.le_of_ble_eq_true rfl) ⟨Nat.le_of_ble_eq_true rfl, Nat.le_of_ble_eq_true rfl⟩ dR_plan_26 (fun rg H1 locs1 hrg hP1 hD1 hk1 hS1 => ?_)
      have hD := hD1.weaken (fun _ z _ h => (freeA hD hS hA) z.1 h)
      have hP := hP1
      have hS := hS1
      have hrg : rg = 1 := hrg
      subst hrg
      refine lv_if_ne (tgt := 34) hx hb dR_plan_29 (by decide) (fun cg => ?_) (fun cg => ?_)
      ·
        refine lv_aload_n hx hb dR_plan_34 rfl (lv_at hl 0 rfl) ?_
        refine lv_iload_n hx hb dR_plan_35 rfl (lv_at hl 1 rfl) ?_
        refine callWX (As := [.int (nI Y)]) (rest := []) ⟨hx, hb, hml, hown, hts⟩ tlB (c_R_work l dC dI w cI cZ 0 n C G X D B bu LG LC ch H1.size hn hC hG hB hXn hDn Y hY1 hY4 hbu) kw586 kw587 kw22 kw29 kw588 ⟨rfl, rfl⟩ (n := 1) (by decide +kernel) ⟨Nat.le_of_ble_eq_true rfl, Nat.le_of_ble_eq_true rfl⟩ hP hK hD hS (freeA hD hS hA) (ci := 4) (q0 := 0) rfl rfl rfl hl.1 rfl (Nat.le_of_ble_eq_true rfl) ⟨Nat.le_of_ble_eq_true rfl, Nat.le_of_ble_eq_true rfl⟩ dR_plan_36 (fun u9 H2 locs2 hu hP2 hD2 hk9 hS2 => ?_)
        obtain ⟨lg, lc, c9⟩ := u9
        dsimp only at hu hP2 hD2
        have hD := hD2.weaken (fun _ z _ h => (freeA hD hS hA) z.1 h)
        have hP := hP2
        have hS := hS2
        refine lv_iconst (v := 0) hx hb dR_plan_39 (by decide) ?_
        refine lv_istore_n (lv' := [(3, .int 0), (0, .ref (w 0)), (1, .int (nI Y)), (2, .int (nI k))]) hx hb dR_plan_40 rfl hl (by decide) rfl (fun ls hl => ?_)
        refine lv_iconst (v := 0) hx hb dR_plan_41 (by decide) ?_
        refine lv_istore (lv' := [(4, .int 0), (3, .int 0), (0, .ref (w 0)), (1, .int (nI Y)), (2, .int (nI k))]) hx hb dR_plan_42 hl (by decide) rfl (fun ls hl => ?_)
        refine lpR (σ := Nat × Nat) (fun x => x.2 ≤ k + 1 ∧ x.1 < (2 ^ mc_m6 n) ∧ (x.2 = 0 → x.1 = 0) ∧ (∀ y, x.2 = y + 1 → mc_seq (mc_rk n C G X D B bu (2 ^ mc_m6 n) lg lc) y x.1 ∧ mc_cost C x.1 n ≤ mc_pur bu (y + 1) ∧ mc_law n X D x.1)) (fun x => [(0, .ref (w 0)), (1, .int (nI Y)), (2, .int (nI k)), (3, .int (nI x.1)), (4, .int (nI x.2))]) (fun x => k + 1 - x.2) (fun x ls hI hl ih => ?_) ((0, 0)) ls (⟨Nat.zero_le _, hpp, fun _ => rfl, fun y h => absurd h (by dsimp only; omega)⟩) (lv_sub hl [2, 3, 4, 1, 0] rfl)
        obtain ⟨f, y⟩ := x
        have hl : lv_has ls 5 [(0, .ref (w 0)), (1, .int (nI Y)), (2, .int (nI k)), (3, .int (nI f)), (4, .int (nI y))] := hl
        obtain ⟨i1, i2, i3, i4⟩ := hI
        dsimp only at i1 i2 i3 i4
        refine lv_iload hx hb dR_plan_44 (lv_at hl 4 rfl) ?_
        refine lv_iload_n hx hb dR_plan_46 rfl (lv_at hl 2 rfl) ?_
        refine lv_icmp_gt (tgt := 69) hx hb dR_plan_47 (by decide) (fun c1 => ?_) (fun c1 => ?_)
        · have hkn : k < y := (nI_ltI (by omega) (by omega)).mp c1
          obtain ⟨j1, j2⟩ := i4 k (by omega)
          refine lv_iload_n hx hb dR_plan_69 rfl (lv_at hl 3 rfl) ?_
          exact W.iret (v := (nI f)) hx hb hr (fun t ht hW => ⟨⟨(nI f), (lg, lc, c9), rfl, ⟨⟨f, rfl, j1⟩, hu⟩, by rw [ht]; exact hP, va_K.moved hW.alike hK, hD⟩, hS.F ht⟩) hS.2.2 dR_plan_70
        · have hkn : y ≤ k := by
            rcases Nat.lt_or_ge k y with z | z
            · exact absurd ((nI_ltI (by omega) (by omega)).mpr z) c1
            · exact z
          have hok : mc_cost C f n ≤ mc_pur bu (y + 1) ∧ mc_law n X D f := by
            cases y with
            | zero => rw [i3 rfl]; exact ⟨by rw [mc_cost_zero]; exact Nat.zero_le _, mc_law_zero⟩
            | succ y => exact ⟨Nat.le_trans (i4 y rfl).2.1 (Nat.le_add_right _ _), (i4 y rfl).2.2⟩
          obtain ⟨f2, e2, hf2, -, -⟩ := hu.2 y (Nat.zero_le _) (by omega) f i2 hok.1 hok.2
          refine lv_aload_n hx hb dR_plan_50 rfl (lv_at hl 0 rfl) ?_
          refine va_get (D := (dC, dI)) (ci := 4) (C := RR) (T := FR) (N := 11) hx hb hts (fun w h => List.mem_cons_of_mem _ (inR w h)) hown hK hP 0 rfl rfl 10 (by decide) (hts _ (List.mem_cons_of_mem _ kw469)) (fun _ h9 => h9) rfl dR_plan_51 ?_
          refine lv_bipush (v := 64) hx hb dR_plan_54 (by decide) ?_
          refine lv_iload hx hb dR_plan_56 (lv_at hl 4 rfl) ?_
          refine lv_imul hx hb dR_plan_58 ?_
          refine lv_iload_n hx hb dR_plan_59 rfl (lv_at hl 3 rfl) ?_
          refine lv_iadd hx hb dR_plan_60 ?_
          refine lv_topi (fun y5 ey5 => ?_)
          have hy5 : y5 = nI (64 * y + f) := by rw [ey5, show (64 : Int32) = nI 64 from rfl, pk_mul, nI_add]
          subst hy5
          refine ialdN hx hb hK hP 9 0 rfl rfl (k := (64 * y + f)) (by omega) (by decide) (v := nI f2) (by rw [e2, iI_nat]) dR_plan_61 ?_
          refine lv_istore_n (lv' := [(3, .int (nI f2)), (0, .ref (w 0)), (1, .int (nI Y)), (2, .int (nI k)), (4, .int (nI y))]) hx hb dR_plan_62 rfl hl (by decide) rfl (fun ls hl => ?_)
          refine lv_iinc (v := (nI (y + 1))) (lv' := [(4, .int (nI (y + 1))), (3, .int (nI f2)), (0, .ref (w 0)), (1, .int (nI Y)), (2, .int (nI k))]) hx hb dR_plan_63 hl (k := 4) rfl (nI_1 y) (by decide) rfl (fun ls hl => ?_)
          refine lv_goto (tgt := 44) hx hb dR_plan_66 (by decide) ?_
          refine ih (f2, y + 1) ls ⟨by dsimp only; omega, hf2.1, fun h => absurd h (by dsimp only; omega), fun y2 h2 => ?_⟩ (by dsimp only; omega) (lv_sub hl [2, 3, 4, 1, 0] rfl)
          have h2 : y + 1 = y2 + 1 := h2
          have h3 : y2 = y := by omega
          subst h3
          refine ⟨?_, hf2.2.1⟩
          cases y2 with
          | zero => rw [i3 rfl] at hf2; exact hf2
          | succ y2 => exact ⟨f, (i4 y2 rfl).1, hf2⟩
      · exact absurd cg (by decide)
