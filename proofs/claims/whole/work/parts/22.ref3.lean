/-! the reference: bestOf, dearer -/
/-- s is the best of the lawful sets below K that cost no more than b -/
def mc_bst (n : Nat) (C G X D : Nat → Nat) (B : Nat → Nat → Int) (b K s : Nat) : Prop :=
  s < K ∧ mc_law n X D s ∧ mc_cost C s n ≤ b ∧ ∀ T, T < K → mc_law n X D T → mc_cost C T n ≤ b → mc_gain G B T n < mc_gain G B s n ∨ (mc_gain G B T n = mc_gain G B s n ∧ mc_K C n s ≤ mc_K C n T)
theorem mc_cost_zero (C : Nat → Nat) : ∀ k, mc_cost C 0 k = 0
  | 0 => rfl
  | k + 1 => by simp [mc_cost, mc_cost_zero C k]
theorem mc_law_zero {n : Nat} {X D : Nat → Nat} : mc_law n X D 0 := fun m _ h => by simp at h
theorem mc_bst_0 {n : Nat} {C G X D : Nat → Nat} {B : Nat → Nat → Int} {b : Nat} : mc_bst n C G X D B b 1 0 :=
  ⟨by omega, mc_law_zero, by rw [mc_cost_zero]; exact Nat.zero_le _, fun T hT _ _ => by rw [show T = 0 by omega]; exact Or.inr ⟨rfl, Nat.le_refl _⟩⟩
theorem mc_bst_skip {n : Nat} {C G X D : Nat → Nat} {B : Nat → Nat → Int} {b K s : Nat} (h : mc_bst n C G X D B b K s) (hs : mc_law n X D K → mc_cost C K n ≤ b → mc_gain G B K n < mc_gain G B s n ∨ (mc_gain G B K n = mc_gain G B s n ∧ mc_K C n s ≤ mc_K C n K)) : mc_bst n C G X D B b (K + 1) s :=
  ⟨by have := h.1; omega, h.2.1, h.2.2.1, lt_s h.2.2.2 hs⟩
theorem mc_bst_take {n : Nat} {C G X D : Nat → Nat} {B : Nat → Nat → Int} {b K s : Nat} (h : mc_bst n C G X D B b K s) (hL : mc_law n X D K) (hc : mc_cost C K n ≤ b) (hg : mc_gain G B s n < mc_gain G B K n ∨ (mc_gain G B K n = mc_gain G B s n ∧ mc_K C n K < mc_K C n s)) : mc_bst n C G X D B b (K + 1) K := by
  refine ⟨by omega, hL, hc, lt_s (fun T hT hLT hcT => ?_) (fun _ _ => Or.inr ⟨rfl, Nat.le_refl _⟩)⟩
  rcases h.2.2.2 T hT hLT hcT with q | ⟨q, q2⟩ <;> rcases hg with k | ⟨k, k2⟩
  · left; omega
  · left; omega
  · left; omega
  · right; exact ⟨by omega, by omega⟩
theorem mc_bst_uniq {n : Nat} {C G X D : Nat → Nat} {B : Nat → Nat → Int} {b s s' : Nat} (hn : n ≤ 12) (h : mc_bst n C G X D B b (2 ^ n) s) (h' : mc_bst n C G X D B b (2 ^ n) s') : s = s' := by
  have a := h.2.2.2 s' h'.1 h'.2.1 h'.2.2.1
  have a' := h'.2.2.2 s h.1 h.2.1 h.2.2.1
  apply mc_K_inj (C := C) (n := n) (mc_pow12 hn h.1) (mc_pow12 hn h'.1)
  rcases a with q | ⟨q, q2⟩ <;> rcases a' with k | ⟨k, k2⟩ <;> omega
theorem mc_K_c {C : Nat → Nat} {n S T : Nat} (hS : S < 4096) (h : mc_cost C S n < mc_cost C T n) : mc_K C n S < mc_K C n T := by
  show mc_cost C S n * 4096 + S < mc_cost C T n * 4096 + T
  omega
theorem mc_K_c2 {C : Nat → Nat} {n S T : Nat} (hS : S < 4096) (h : mc_cost C S n ≤ mc_cost C T n) (h2 : S ≤ T) : mc_K C n S ≤ mc_K C n T := by
  show mc_cost C S n * 4096 + S ≤ mc_cost C T n * 4096 + T
  omega
/-- the least of the lawful sets below K that cost more than c0 and gain more than g0: by cost, then gain, then number -/
def mc_ds (n : Nat) (C G X D : Nat → Nat) (B : Nat → Nat → Int) (c0 : Nat) (g0 : Int) (K s : Nat) : Prop :=
  s < K ∧ mc_law n X D s ∧ c0 < mc_cost C s n ∧ g0 < mc_gain G B s n ∧ ∀ T, T < K → mc_law n X D T → c0 < mc_cost C T n → g0 < mc_gain G B T n → mc_cost C s n < mc_cost C T n ∨ (mc_cost C s n = mc_cost C T n ∧ (mc_gain G B T n < mc_gain G B s n ∨ (mc_gain G B T n = mc_gain G B s n ∧ s ≤ T)))
def mc_dn (n : Nat) (C G X D : Nat → Nat) (B : Nat → Nat → Int) (c0 : Nat) (g0 : Int) (K : Nat) : Prop := ∀ T, T < K → mc_law n X D T → c0 < mc_cost C T n → ¬ g0 < mc_gain G B T n
theorem mc_ds_skip {n : Nat} {C G X D : Nat → Nat} {B : Nat → Nat → Int} {c0 : Nat} {g0 : Int} {K s : Nat} (h : mc_ds n C G X D B c0 g0 K s) (hs : mc_law n X D K → c0 < mc_cost C K n → g0 < mc_gain G B K n → mc_cost C s n < mc_cost C K n ∨ (mc_cost C s n = mc_cost C K n ∧ mc_gain G B K n ≤ mc_gain G B s n)) : mc_ds n C G X D B c0 g0 (K + 1) s := by
  refine ⟨by have := h.1; omega, h.2.1, h.2.2.1, h.2.2.2.1, lt_s h.2.2.2.2 (fun a b c => ?_)⟩
  rcases hs a b c with q | ⟨q, q2⟩
  · exact Or.inl q
  · right
    refine ⟨q, ?_⟩
    have := h.1
    omega
theorem mc_ds_take {n : Nat} {C G X D : Nat → Nat} {B : Nat → Nat → Int} {c0 : Nat} {g0 : Int} {K s : Nat} (h : mc_ds n C G X D B c0 g0 K s) (hL : mc_law n X D K) (hc : c0 < mc_cost C K n) (hg : g0 < mc_gain G B K n) (hb : mc_cost C K n < mc_cost C s n ∨ (mc_cost C K n = mc_cost C s n ∧ mc_gain G B s n < mc_gain G B K n)) : mc_ds n C G X D B c0 g0 (K + 1) K := by
  refine ⟨by omega, hL, hc, hg, lt_s (fun T hT a b c => ?_) (fun _ _ _ => Or.inr ⟨rfl, Or.inr ⟨rfl, Nat.le_refl _⟩⟩)⟩
  rcases h.2.2.2.2 T hT a b c with q | ⟨q, q2⟩ <;> rcases hb with k | ⟨k, k2⟩
  · left; omega
  · left; omega
  · left; omega
  · right
    refine ⟨by omega, Or.inl ?_⟩
    rcases q2 with q2 | ⟨q2, -⟩ <;> omega
theorem mc_ds_first {n : Nat} {C G X D : Nat → Nat} {B : Nat → Nat → Int} {c0 : Nat} {g0 : Int} {K : Nat} (h : mc_dn n C G X D B c0 g0 K) (hL : mc_law n X D K) (hc : c0 < mc_cost C K n) (hg : g0 < mc_gain G B K n) : mc_ds n C G X D B c0 g0 (K + 1) K :=
  ⟨by omega, hL, hc, hg, lt_s (fun T hT a b c => absurd c (h T hT a b)) (fun _ _ _ => Or.inr ⟨rfl, Or.inr ⟨rfl, Nat.le_refl _⟩⟩)⟩
theorem nI_nm1 {s : Nat} (h : s < 2 ^ 31) : ¬ nI s = -1 := by
  intro e
  have := congrArg Int32.toInt e
  rw [nI_toInt h] at this
  have h2 : (-1 : Int32).toInt = -1 := by decide
  omega
set_option maxHeartbeats 4000000 in
set_option maxRecDepth 100000 in
theorem c_R_bestOf (l : Launch) (dC : Nat → ClassId) (dI : Nat → Nat → Nat) (w : Nat → Nat) (cI cZ : ClassId) (th n : Nat) (C G X D : Nat → Nat) (B : Nat → Nat → Int) (bu : Nat → Nat) (LG : Nat → Int) (LC : Nat → Nat) (ch : Nat → Int) (b : Nat) (hb9 : b < 2 ^ 31) (hn : n ≤ 12) (hC : ∀ m, C m ≤ 10000) (hG : ∀ m, G m ≤ 10000) (hB : ∀ i j, -5000 ≤ B i j ∧ B i j ≤ 5000) (hXn : ∀ m j, (X m).testBit j = true → j < n) (hDn : ∀ m j, (D m).testBit j = true → j < n) : Met l yR_bestOf wdR_bestOf ({ frames := 2, cells := 0, slots := 0, locals := 45 }) (roP (dC, dI) mcCl (mcWR w cI cZ th n C G X D B bu LG LC ch) (mcTR cI cZ) [.ref (w 0), .long (lN b)]) (vp_Si (fun z9 => ∃ s9, z9 = nI s9 ∧ mc_bst n C G X D B b (2 ^ n) s9)) 0 0 (fun _ => False) := by
  refine Met.ofW (cc := bR_bestOf) (maxL := 10) (ret := (some FieldType.int)) (by decide) rfl ?_
  intro p e s m args below meth c s₁ BB hml hv
  obtain ⟨rfl, hP, hK⟩ := hv
  have hx := BB.exec
  have hb := BB.bytes
  have hr := BB.returns
  have hts := atoms_spec (ws := wdR_bestOf) BB.pre
  have hown : s.vm.findClass RR = some m.cls := findClass_of_methodNamed BB.named
  have hlocks := BB.notSynchronized
  have hl := lv_entry ([.ref (w 0), .long (lN b)]) (n := 10) (Nat.le_of_ble_eq_true rfl)
  rw [lg_entry_eq]
  generalize (lg_sl ([.ref (w 0), .long (lN b)]) ++ List.replicate (10 - (lg_sl ([.ref (w 0), .long (lN b)])).length) Slot.unset).toArray = ls at hl ⊢
  have hl : lv_has ls 10 [(0, .ref (w 0)), (1, .long (lN b))] := hl
  have hp12 : 2 ^ n ≤ 2 ^ 12 := Nat.pow_le_pow_right (by decide) hn
  have hpp : 0 < 2 ^ n := Nat.pow_pos (by decide)
  refine lv_iconst (v := 0) hx hb dR_bestOf_0 (by decide) ?_
  refine lv_istore_n (lv' := [(3, .int 0), (0, .ref (w 0)), (1, .long (lN b))]) hx hb dR_bestOf_1 rfl hl (by decide) rfl (fun ls hl => ?_)
  refine lv_iconst (v := 0) hx hb dR_bestOf_2 (by decide) ?_
  refine lv_istore (lv' := [(4, .int 0), (3, .int 0), (0, .ref (w 0)), (1, .long (lN b))]) hx hb dR_bestOf_3 hl (by decide) rfl (fun ls hl => ?_)
  refine lv_iconst (v := 0) hx hb dR_bestOf_5 (by decide) ?_
  refine lv_istore (lv' := [(5, .int 0), (4, .int 0), (3, .int 0), (0, .ref (w 0)), (1, .long (lN b))]) hx hb dR_bestOf_6 hl (by decide) rfl (fun ls hl => ?_)
  refine lv_iconst (v := 1) hx hb dR_bestOf_8 (by decide) ?_
  refine lv_aload_n hx hb dR_bestOf_9 rfl (lv_at hl 3 rfl) ?_
  refine va_get (D := (dC, dI)) (ci := 4) (C := RR) (T := FR) (N := 11) hx hb hts (fun w h => List.mem_cons_of_mem _ (inR w h)) hown hK hP 0 rfl rfl 1 (by decide) (hts _ (List.mem_cons_of_mem _ kw460)) (fun _ h9 => h9) rfl dR_bestOf_10 ?_
  refine lv_ishl hx hb dR_bestOf_13 ?_
  refine lv_topi (fun y1 ey1 => ?_)
  have hy1 : y1 = nI (2 ^ n) := by rw [ey1, nI_bit (by omega)]
  subst hy1
  refine lv_istore (lv' := [(6, .int (nI (2 ^ n))), (5, .int 0), (4, .int 0), (3, .int 0), (0, .ref (w 0)), (1, .long (lN b))]) hx hb dR_bestOf_14 hl (by decide) rfl (fun ls hl => ?_)
  refine lv_iconst (v := 1) hx hb dR_bestOf_16 (by decide) ?_
  refine lv_istore (lv' := [(7, .int 1), (6, .int (nI (2 ^ n))), (5, .int 0), (4, .int 0), (3, .int 0), (0, .ref (w 0)), (1, .long (lN b))]) hx hb dR_bestOf_17 hl (by decide) rfl (fun ls hl => ?_)
  refine lpR (σ := Nat × Nat) (fun x => x.1 ≤ 2 ^ n ∧ mc_bst n C G X D B b x.1 x.2) (fun x => [(0, .ref (w 0)), (1, .long (lN b)), (3, .int (nI x.2)), (4, .int (iI (mc_gain G B x.2 n))), (5, .int (nI (mc_cost C x.2 n))), (6, .int (nI (2 ^ n))), (7, .int (nI x.1))]) (fun x => 2 ^ n - x.1) (fun x ls hI hl ih => ?_) ((1, 0)) ls (⟨hpp, mc_bst_0⟩) (lv_sub hl [5, 6, 4, 3, 2, 1, 0] (by dsimp only; rw [mc_gain_zero, mc_cost_zero]; rfl))
  obtain ⟨k, b9⟩ := x
  have hl : lv_has ls 10 [(0, .ref (w 0)), (1, .long (lN b)), (3, .int (nI b9)), (4, .int (iI (mc_gain G B b9 n))), (5, .int (nI (mc_cost C b9 n))), (6, .int (nI (2 ^ n))), (7, .int (nI k))] := hl
  obtain ⟨hk, hI⟩ := hI
  dsimp only at hk hI
  have hs9 := hI.1
  refine lv_iload hx hb dR_bestOf_19 (lv_at hl 6 rfl) ?_
  refine lv_iload hx hb dR_bestOf_21 (lv_at hl 5 rfl) ?_
  refine lv_icmp_ge (tgt := 97) hx hb dR_bestOf_23 (by decide) (fun c1 => ?_) (fun c1 => ?_)
  · have hkn : k = 2 ^ n := by have := (nI_leI (by omega) (by omega)).mp c1; omega
    rw [hkn] at hI
    refine lv_iload_n hx hb dR_bestOf_97 rfl (lv_at hl 2 rfl) ?_
    exact W.iret hx hb hr (fun t ht hW => ⟨_, rfl, ⟨b9, rfl, hI⟩, ht⟩) (fun q hq => by cases hq) dR_bestOf_98
  · have hkn : k < 2 ^ n := by
      rcases Nat.lt_or_ge k (2 ^ n) with z | z
      · exact z
      · exact absurd (nI_le z (by omega)) c1
    refine lv_aload_n hx hb dR_bestOf_26 rfl (lv_at hl 0 rfl) ?_
    refine lv_iload hx hb dR_bestOf_27 (lv_at hl 6 rfl) ?_
    refine callRV (As := [.int (nI k)]) (rest := []) ⟨hx, hb, hml, hown, hts⟩ tlB (c_R_costOf l dC dI w cI cZ th n C G X D B bu LG LC ch k hn (by omega)) kw544 kw545 kw18 kw29 kw546 ⟨rfl, rfl⟩ (n := 1) (by decide +kernel) ⟨Nat.le_of_ble_eq_true rfl, Nat.le_of_ble_eq_true rfl⟩ (roP_preV hP hK (ci := 4) (q0 := 0) rfl rfl) rfl hl.1 rfl (Nat.le_of_ble_eq_true rfl) ⟨Nat.le_of_ble_eq_true rfl, Nat.le_of_ble_eq_true rfl⟩ dR_bestOf_29 (fun r1 hr1 => ?_)
    subst hr1
    have hcb := mc_cost_le (S := k) hC n
    have hcb2 := mc_cost_le (S := b9) hC n
    refine lv_istore (lv' := [(8, .int (nI (mc_cost C k n))), (0, .ref (w 0)), (1, .long (lN b)), (3, .int (nI b9)), (4, .int (iI (mc_gain G B b9 n))), (5, .int (nI (mc_cost C b9 n))), (6, .int (nI (2 ^ n))), (7, .int (nI k))]) hx hb dR_bestOf_32 hl (by decide) rfl (fun ls hl => ?_)
    refine lv_iload hx hb dR_bestOf_34 (lv_at hl 0 rfl) ?_
    refine lv_i2l (v := lN (mc_cost C k n)) hx hb dR_bestOf_36 (nI_l (by omega)) ?_
    refine lv_lload_n hx hb dR_bestOf_37 rfl (lv_at hl 2 rfl) ?_
    refine W.lcmp hx hb dR_bestOf_38 ?_
    refine lv_if_gt (tgt := 91) hx hb dR_bestOf_39 (by decide) (fun c2 => ?_) (fun c2 => ?_)
    · have c2 : b < mc_cost C k n := by rw [lg_cmp_gt, lN_lt hb9 (by omega)] at c2; exact c2
      refine lv_iinc (v := (nI (k + 1))) (lv' := [(7, .int (nI (k + 1))), (8, .int (nI (mc_cost C k n))), (0, .ref (w 0)), (1, .long (lN b)), (3, .int (nI b9)), (4, .int (iI (mc_gain G B b9 n))), (5, .int (nI (mc_cost C b9 n))), (6, .int (nI (2 ^ n)))]) hx hb dR_bestOf_91 hl (k := 7) rfl (nI_1 k) (by decide) rfl (fun ls hl => ?_)
      refine lv_goto (tgt := 19) hx hb dR_bestOf_94 (by decide) ?_
      exact ih (k + 1, b9) ls (⟨hkn, mc_bst_skip hI (fun _ h => absurd h (by omega))⟩) (by dsimp only; omega) (lv_sub hl [2, 3, 4, 5, 6, 7, 0] rfl)
    · have c2 : mc_cost C k n ≤ b := by rw [lg_cmp_gt, lN_lt hb9 (by omega)] at c2; omega
      refine lv_aload_n hx hb dR_bestOf_42 rfl (lv_at hl 1 rfl) ?_
      refine lv_iload hx hb dR_bestOf_43 (lv_at hl 7 rfl) ?_
      refine callRV (As := [.int (nI k)]) (rest := []) ⟨hx, hb, hml, hown, hts⟩ tlB (c_R_holds l dC dI w cI cZ th n C G X D B bu LG LC ch k hn (by omega) hXn hDn) kw534 kw535 kw17 kw29 kw536 ⟨rfl, rfl⟩ (n := 1) (by decide +kernel) ⟨Nat.le_of_ble_eq_true rfl, Nat.le_of_ble_eq_true rfl⟩ (roP_preV hP hK (ci := 4) (q0 := 0) rfl rfl) rfl hl.1 rfl (Nat.le_of_ble_eq_true rfl) ⟨Nat.le_of_ble_eq_true rfl, Nat.le_of_ble_eq_true rfl⟩ dR_bestOf_45 (fun r2 hr2 => ?_)
      refine lv_if_eq (tgt := 91) hx hb dR_bestOf_48 (by decide) (fun c3 => ?_) (fun c3 => ?_)
      · have c3 := mcZ_f hr2 c3
        refine lv_iinc (v := (nI (k + 1))) (lv' := [(7, .int (nI (k + 1))), (8, .int (nI (mc_cost C k n))), (0, .ref (w 0)), (1, .long (lN b)), (3, .int (nI b9)), (4, .int (iI (mc_gain G B b9 n))), (5, .int (nI (mc_cost C b9 n))), (6, .int (nI (2 ^ n)))]) hx hb dR_bestOf_91 hl (k := 7) rfl (nI_1 k) (by decide) rfl (fun ls hl => ?_)
        refine lv_goto (tgt := 19) hx hb dR_bestOf_94 (by decide) ?_
        exact ih (k + 1, b9) ls (⟨hkn, mc_bst_skip hI (fun h => absurd h c3)⟩) (by dsimp only; omega) (lv_sub hl [2, 3, 4, 5, 6, 7, 0] rfl)
      · have c3 := mcZ_t hr2 c3
        refine lv_aload_n hx hb dR_bestOf_51 rfl (lv_at hl 1 rfl) ?_
        refine lv_iload hx hb dR_bestOf_52 (lv_at hl 7 rfl) ?_
        refine callRV (As := [.int (nI k)]) (rest := []) ⟨hx, hb, hml, hown, hts⟩ tlB (c_R_gainOf l dC dI w cI cZ th n C G X D B bu LG LC ch k hn (by omega)) kw547 kw548 kw19 kw29 kw549 ⟨rfl, rfl⟩ (n := 1) (by decide +kernel) ⟨Nat.le_of_ble_eq_true rfl, Nat.le_of_ble_eq_true rfl⟩ (roP_preV hP hK (ci := 4) (q0 := 0) rfl rfl) rfl hl.1 rfl (Nat.le_of_ble_eq_true rfl) ⟨Nat.le_of_ble_eq_true rfl, Nat.le_of_ble_eq_true rfl⟩ dR_bestOf_54 (fun r3 hr3 => ?_)
        subst hr3
        have g1 := mc_gain_le (S := b9) hG hB n hn
        have g2 := mc_gain_le (S := k) hG hB n hn
        have gl := iI_lt (a := mc_gain G B b9 n) (b := mc_gain G B k n) (by omega) (by omega) (by omega) (by omega)
        have ge := iI_eq (a := mc_gain G B k n) (b := mc_gain G B b9 n) (by omega) (by omega) (by omega) (by omega)
        refine lv_istore (lv' := [(9, .int (iI (mc_gain G B k n))), (8, .int (nI (mc_cost C k n))), (0, .ref (w 0)), (1, .long (lN b)), (3, .int (nI b9)), (4, .int (iI (mc_gain G B b9 n))), (5, .int (nI (mc_cost C b9 n))), (6, .int (nI (2 ^ n))), (7, .int (nI k))]) hx hb dR_bestOf_57 hl (by decide) rfl (fun ls hl => ?_)
        refine lv_iload hx hb dR_bestOf_59 (lv_at hl 0 rfl) ?_
        refine lv_iload hx hb dR_bestOf_61 (lv_at hl 5 rfl) ?_
        refine lv_icmp_gt (tgt := 80) hx hb dR_bestOf_63 (by decide) (fun c4 => ?_) (fun c4 => ?_)
        · have c4 := gl.mp c4
          refine lv_iload hx hb dR_bestOf_80 (lv_at hl 8 rfl) ?_
          refine lv_istore_n (lv' := [(3, .int (nI k)), (9, .int (iI (mc_gain G B k n))), (8, .int (nI (mc_cost C k n))), (0, .ref (w 0)), (1, .long (lN b)), (4, .int (iI (mc_gain G B b9 n))), (5, .int (nI (mc_cost C b9 n))), (6, .int (nI (2 ^ n))), (7, .int (nI k))]) hx hb dR_bestOf_82 rfl hl (by decide) rfl (fun ls hl => ?_)
          refine lv_iload hx hb dR_bestOf_83 (lv_at hl 1 rfl) ?_
          refine lv_istore (lv' := [(4, .int (iI (mc_gain G B k n))), (3, .int (nI k)), (9, .int (iI (mc_gain G B k n))), (8, .int (nI (mc_cost C k n))), (0, .ref (w 0)), (1, .long (lN b)), (5, .int (nI (mc_cost C b9 n))), (6, .int (nI (2 ^ n))), (7, .int (nI k))]) hx hb dR_bestOf_85 hl (by decide) rfl (fun ls hl => ?_)
          refine lv_iload hx hb dR_bestOf_87 (lv_at hl 3 rfl) ?_
          refine lv_istore (lv' := [(5, .int (nI (mc_cost C k n))), (4, .int (iI (mc_gain G B k n))), (3, .int (nI k)), (9, .int (iI (mc_gain G B k n))), (8, .int (nI (mc_cost C k n))), (0, .ref (w 0)), (1, .long (lN b)), (6, .int (nI (2 ^ n))), (7, .int (nI k))]) hx hb dR_bestOf_89 hl (by decide) rfl (fun ls hl => ?_)
          refine lv_iinc (v := (nI (k + 1))) (lv' := [(7, .int (nI (k + 1))), (5, .int (nI (mc_cost C k n))), (4, .int (iI (mc_gain G B k n))), (3, .int (nI k)), (9, .int (iI (mc_gain G B k n))), (8, .int (nI (mc_cost C k n))), (0, .ref (w 0)), (1, .long (lN b)), (6, .int (nI (2 ^ n)))]) hx hb dR_bestOf_91 hl (k := 8) rfl (nI_1 k) (by decide) rfl (fun ls hl => ?_)
          refine lv_goto (tgt := 19) hx hb dR_bestOf_94 (by decide) ?_
          exact ih (k + 1, k) ls (⟨hkn, mc_bst_take hI c3 c2 (Or.inl c4)⟩) (by dsimp only; omega) (lv_sub hl [6, 7, 3, 2, 1, 8, 0] rfl)
        · have c4 : ¬ mc_gain G B b9 n < mc_gain G B k n := fun h => c4 (gl.mpr h)
          refine lv_iload hx hb dR_bestOf_66 (lv_at hl 0 rfl) ?_
          refine lv_iload hx hb dR_bestOf_68 (lv_at hl 5 rfl) ?_
          refine lv_icmp_ne (tgt := 91) hx hb dR_bestOf_70 (by decide) (fun c5 => ?_) (fun c5 => ?_)
          · have c5 : ¬ mc_gain G B k n = mc_gain G B b9 n := fun h => c5 (ge.mpr h)
            refine lv_iinc (v := (nI (k + 1))) (lv' := [(7, .int (nI (k + 1))), (9, .int (iI (mc_gain G B k n))), (8, .int (nI (mc_cost C k n))), (0, .ref (w 0)), (1, .long (lN b)), (3, .int (nI b9)), (4, .int (iI (mc_gain G B b9 n))), (5, .int (nI (mc_cost C b9 n))), (6, .int (nI (2 ^ n)))]) hx hb dR_bestOf_91 hl (k := 8) rfl (nI_1 k) (by decide) rfl (fun ls hl => ?_)
            refine lv_goto (tgt := 19) hx hb dR_bestOf_94 (by decide) ?_
            exact ih (k + 1, b9) ls (⟨hkn, mc_bst_skip hI (fun _ _ => Or.inl (by dsimp only; omega))⟩) (by dsimp only; omega) (lv_sub hl [3, 4, 5, 6, 7, 8, 0] rfl)
          · have c5 := ge.mp c5
            refine lv_iload hx hb dR_bestOf_73 (lv_at hl 1 rfl) ?_
            refine lv_iload hx hb dR_bestOf_75 (lv_at hl 6 rfl) ?_
            refine lv_icmp_ge (tgt := 91) hx hb dR_bestOf_77 (by decide) (fun c6 => ?_) (fun c6 => ?_)
            · have c6 := (nI_leI (by omega) (by omega)).mp c6
              refine lv_iinc (v := (nI (k + 1))) (lv' := [(7, .int (nI (k + 1))), (9, .int (iI (mc_gain G B k n))), (8, .int (nI (mc_cost C k n))), (0, .ref (w 0)), (1, .long (lN b)), (3, .int (nI b9)), (4, .int (iI (mc_gain G B b9 n))), (5, .int (nI (mc_cost C b9 n))), (6, .int (nI (2 ^ n)))]) hx hb dR_bestOf_91 hl (k := 8) rfl (nI_1 k) (by decide) rfl (fun ls hl => ?_)
              refine lv_goto (tgt := 19) hx hb dR_bestOf_94 (by decide) ?_
              exact ih (k + 1, b9) ls (⟨hkn, mc_bst_skip hI (fun _ _ => Or.inr ⟨c5, mc_K_c2 (by omega) c6 (by omega)⟩)⟩) (by dsimp only; omega) (lv_sub hl [3, 4, 5, 6, 7, 8, 0] rfl)
            · have c6 : mc_cost C k n < mc_cost C b9 n := by
                rcases Nat.lt_or_ge (mc_cost C k n) (mc_cost C b9 n) with z | z
                · exact z
                · exact absurd ((nI_leI (by omega) (by omega)).mpr z) c6
              refine lv_iload hx hb dR_bestOf_80 (lv_at hl 8 rfl) ?_
              refine lv_istore_n (lv' := [(3, .int (nI k)), (9, .int (iI (mc_gain G B k n))), (8, .int (nI (mc_cost C k n))), (0, .ref (w 0)), (1, .long (lN b)), (4, .int (iI (mc_gain G B b9 n))), (5, .int (nI (mc_cost C b9 n))), (6, .int (nI (2 ^ n))), (7, .int (nI k))]) hx hb dR_bestOf_82 rfl hl (by decide) rfl (fun ls hl => ?_)
              refine lv_iload hx hb dR_bestOf_83 (lv_at hl 1 rfl) ?_
              refine lv_istore (lv' := [(4, .int (iI (mc_gain G B k n))), (3, .int (nI k)), (9, .int (iI (mc_gain G B k n))), (8, .int (nI (mc_cost C k n))), (0, .ref (w 0)), (1, .long (lN b)), (5, .int (nI (mc_cost C b9 n))), (6, .int (nI (2 ^ n))), (7, .int (nI k))]) hx hb dR_bestOf_85 hl (by decide) rfl (fun ls hl => ?_)
              refine lv_iload hx hb dR_bestOf_87 (lv_at hl 3 rfl) ?_
              refine lv_istore (lv' := [(5, .int (nI (mc_cost C k n))), (4, .int (iI (mc_gain G B k n))), (3, .int (nI k)), (9, .int (iI (mc_gain G B k n))), (8, .int (nI (mc_cost C k n))), (0, .ref (w 0)), (1, .long (lN b)), (6, .int (nI (2 ^ n))), (7, .int (nI k))]) hx hb dR_bestOf_89 hl (by decide) rfl (fun ls hl => ?_)
              refine lv_iinc (v := (nI (k + 1))) (lv' := [(7, .int (nI (k + 1))), (5, .int (nI (mc_cost C k n))), (4, .int (iI (mc_gain G B k n))), (3, .int (nI k)), (9, .int (iI (mc_gain G B k n))), (8, .int (nI (mc_cost C k n))), (0, .ref (w 0)), (1, .long (lN b)), (6, .int (nI (2 ^ n)))]) hx hb dR_bestOf_91 hl (k := 8) rfl (nI_1 k) (by decide) rfl (fun ls hl => ?_)
              refine lv_goto (tgt := 19) hx hb dR_bestOf_94 (by decide) ?_
              exact ih (k + 1, k) ls (⟨hkn, mc_bst_take hI c3 c2 (Or.inr ⟨c5, mc_K_c (by omega) c6⟩)⟩) (by dsimp only; omega) (lv_sub hl [6, 7, 3, 2, 1, 8, 0] rfl)
set_option maxHeartbeats 4000000 in
set_option maxRecDepth 100000 in
theorem c_R_dearer (l : Launch) (dC : Nat → ClassId) (dI : Nat → Nat → Nat) (w : Nat → Nat) (cI cZ : ClassId) (th n : Nat) (C G X D : Nat → Nat) (B : Nat → Nat → Int) (bu : Nat → Nat) (LG : Nat → Int) (LC : Nat → Nat) (ch : Nat → Int) (c0 : Nat) (g0 : Int) (hc0 : c0 < 2 ^ 31) (hg0 : -900000 ≤ g0 ∧ g0 ≤ 900000) (hn : n ≤ 12) (hC : ∀ m, C m ≤ 10000) (hG : ∀ m, G m ≤ 10000) (hB : ∀ i j, -5000 ≤ B i j ∧ B i j ≤ 5000) (hXn : ∀ m j, (X m).testBit j = true → j < n) (hDn : ∀ m j, (D m).testBit j = true → j < n) : Met l yR_dearer wdR_dearer ({ frames := 2, cells := 0, slots := 0, locals := 45 }) (roP (dC, dI) mcCl (mcWR w cI cZ th n C G X D B bu LG LC ch) (mcTR cI cZ) [.ref (w 0), .int (nI c0), .int (iI g0)]) (vp_Si (fun z9 => (z9 = -1 ∧ mc_dn n C G X D B c0 g0 (2 ^ n)) ∨ ∃ s9, z9 = nI s9 ∧ mc_ds n C G X D B c0 g0 (2 ^ n) s9)) 0 0 (fun _ => False) := by
  refine Met.ofW (cc := bR_dearer) (maxL := 11) (ret := (some FieldType.int)) (by decide) rfl ?_
  intro p e s m args below meth c s₁ BB hml hv
  obtain ⟨rfl, hP, hK⟩ := hv
  have hx := BB.exec
  have hb := BB.bytes
  have hr := BB.returns
  have hts := atoms_spec (ws := wdR_dearer) BB.pre
  have hown : s.vm.findClass RR = some m.cls := findClass_of_methodNamed BB.named
  have hlocks := BB.notSynchronized
  have hl := lv_entry ([.ref (w 0), .int (nI c0), .int (iI g0)]) (n := 11) (Nat.le_of_ble_eq_true rfl)
  rw [lg_entry_eq]
  generalize (lg_sl ([.ref (w 0), .int (nI c0), .int (iI g0)]) ++ List.replicate (11 - (lg_sl ([.ref (w 0), .int (nI c0), .int (iI g0)])).length) Slot.unset).toArray = ls at hl ⊢
  have hl : lv_has ls 11 [(0, .ref (w 0)), (1, .int (nI c0)), (2, .int (iI g0))] := hl
  have hp12 : 2 ^ n ≤ 2 ^ 12 := Nat.pow_le_pow_right (by decide) hn
  refine lv_iconst (v := (-1)) hx hb dR_dearer_0 (by decide) ?_
  refine lv_istore_n (lv' := [(3, .int (-1)), (0, .ref (w 0)), (1, .int (nI c0)), (2, .int (iI g0))]) hx hb dR_dearer_1 rfl hl (by decide) rfl (fun ls hl => ?_)
  refine lv_iconst (v := 0) hx hb dR_dearer_2 (by decide) ?_
  refine lv_istore (lv' := [(4, .int 0), (3, .int (-1)), (0, .ref (w 0)), (1, .int (nI c0)), (2, .int (iI g0))]) hx hb dR_dearer_3 hl (by decide) rfl (fun ls hl => ?_)
  refine lv_iconst (v := 0) hx hb dR_dearer_5 (by decide) ?_
  refine lv_istore (lv' := [(5, .int 0), (4, .int 0), (3, .int (-1)), (0, .ref (w 0)), (1, .int (nI c0)), (2, .int (iI g0))]) hx hb dR_dearer_6 hl (by decide) rfl (fun ls hl => ?_)
  refine lv_iconst (v := 1) hx hb dR_dearer_8 (by decide) ?_
  refine lv_aload_n hx hb dR_dearer_9 rfl (lv_at hl 3 rfl) ?_
  refine va_get (D := (dC, dI)) (ci := 4) (C := RR) (T := FR) (N := 11) hx hb hts (fun w h => List.mem_cons_of_mem _ (inR w h)) hown hK hP 0 rfl rfl 1 (by decide) (hts _ (List.mem_cons_of_mem _ kw460)) (fun _ h9 => h9) rfl dR_dearer_10 ?_
  refine lv_ishl hx hb dR_dearer_13 ?_
  refine lv_topi (fun y1 ey1 => ?_)
  have hy1 : y1 = nI (2 ^ n) := by rw [ey1, nI_bit (by omega)]
  subst hy1
  refine lv_istore (lv' := [(6, .int (nI (2 ^ n))), (5, .int 0), (4, .int 0), (3, .int (-1)), (0, .ref (w 0)), (1, .int (nI c0)), (2, .int (iI g0))]) hx hb dR_dearer_14 hl (by decide) rfl (fun ls hl => ?_)
  refine lv_iconst (v := 0) hx hb dR_dearer_16 (by decide) ?_
  refine lv_istore (lv' := [(7, .int 0), (6, .int (nI (2 ^ n))), (5, .int 0), (4, .int 0), (3, .int (-1)), (0, .ref (w 0)), (1, .int (nI c0)), (2, .int (iI g0))]) hx hb dR_dearer_17 hl (by decide) rfl (fun ls hl => ?_)
  refine lpR (σ := Nat × Int32 × Int32 × Int32) (fun x => x.1 ≤ 2 ^ n ∧ ((x.2.1 = -1 ∧ mc_dn n C G X D B c0 g0 x.1) ∨ ∃ s9, x.2.1 = nI s9 ∧ x.2.2.1 = nI (mc_cost C s9 n) ∧ x.2.2.2 = iI (mc_gain G B s9 n) ∧ mc_ds n C G X D B c0 g0 x.1 s9)) (fun x => [(0, .ref (w 0)), (1, .int (nI c0)), (2, .int (iI g0)), (3, .int x.2.1), (4, .int x.2.2.1), (5, .int x.2.2.2), (6, .int (nI (2 ^ n))), (7, .int (nI x.1))]) (fun x => 2 ^ n - x.1) (fun x ls hI hl ih => ?_) ((0, -1, 0, 0)) ls (⟨Nat.zero_le _, Or.inl ⟨rfl, fun T h => absurd h (Nat.not_lt_zero T)⟩⟩) (lv_sub hl [5, 6, 7, 4, 3, 2, 1, 0] rfl)
  obtain ⟨k, v3, v4, v5⟩ := x
  have hl : lv_has ls 11 [(0, .ref (w 0)), (1, .int (nI c0)), (2, .int (iI g0)), (3, .int v3), (4, .int v4), (5, .int v5), (6, .int (nI (2 ^ n))), (7, .int (nI k))] := hl
  obtain ⟨hk, hI⟩ := hI
  dsimp only at hk hI
  refine lv_iload hx hb dR_dearer_19 (lv_at hl 7 rfl) ?_
  refine lv_iload hx hb dR_dearer_21 (lv_at hl 6 rfl) ?_
  refine lv_icmp_ge (tgt := 123) hx hb dR_dearer_23 (by decide) (fun c1 => ?_) (fun c1 => ?_)
  · have hkn : k = 2 ^ n := by have := (nI_leI (by omega) (by omega)).mp c1; omega
    rw [hkn] at hI
    refine lv_iload_n hx hb dR_dearer_123 rfl (lv_at hl 3 rfl) ?_
    exact W.iret hx hb hr (fun t ht hW => ⟨_, rfl, (by rcases hI with z | ⟨s9, e1, -, -, z⟩; exact Or.inl z; exact Or.inr ⟨s9, e1, z⟩), ht⟩) (fun q hq => by cases hq) dR_dearer_124
  · have hkn : k < 2 ^ n := by
      rcases Nat.lt_or_ge k (2 ^ n) with z | z
      · exact z
      · exact absurd (nI_le z (by omega)) c1
    refine lv_aload_n hx hb dR_dearer_26 rfl (lv_at hl 0 rfl) ?_
    refine lv_iload hx hb dR_dearer_27 (lv_at hl 7 rfl) ?_
    refine callRV (As := [.int (nI k)]) (rest := []) ⟨hx, hb, hml, hown, hts⟩ tlB (c_R_costOf l dC dI w cI cZ th n C G X D B bu LG LC ch k hn (by omega)) kw544 kw545 kw18 kw29 kw546 ⟨rfl, rfl⟩ (n := 1) (by decide +kernel) ⟨Nat.le_of_ble_eq_true rfl, Nat.le_of_ble_eq_true rfl⟩ (roP_preV hP hK (ci := 4) (q0 := 0) rfl rfl) rfl hl.1 rfl (Nat.le_of_ble_eq_true rfl) ⟨Nat.le_of_ble_eq_true rfl, Nat.le_of_ble_eq_true rfl⟩ dR_dearer_29 (fun r1 hr1 => ?_)
    subst hr1
    have hcb := mc_cost_le (S := k) hC n
    have hgb := mc_gain_le (S := k) hG hB n hn
    have hgg := iI_le (a := mc_gain G B k n) (b := g0) (by omega) (by omega) (by omega) (by omega)
    refine lv_istore (lv' := [(8, .int (nI (mc_cost C k n))), (0, .ref (w 0)), (1, .int (nI c0)), (2, .int (iI g0)), (3, .int v3), (4, .int v4), (5, .int v5), (6, .int (nI (2 ^ n))), (7, .int (nI k))]) hx hb dR_dearer_32 hl (by decide) rfl (fun ls hl => ?_)
    rcases hI with ⟨rfl, hI⟩ | ⟨s9, rfl, rfl, rfl, hI⟩
    ·
      refine lv_iload hx hb dR_dearer_34 (lv_at hl 0 rfl) ?_
      refine lv_iload_n hx hb dR_dearer_36 rfl (lv_at hl 2 rfl) ?_
      refine lv_icmp_le (tgt := 56) hx hb dR_dearer_37 (by decide) (fun c2 => ?_) (fun c2 => ?_)
      · have c2 := (nI_leI (by omega) (by omega)).mp c2
        refine lv_iconst (v := 0) hx hb dR_dearer_56 (by decide) ?_
        refine lv_istore (lv' := [(9, .int 0), (8, .int (nI (mc_cost C k n))), (0, .ref (w 0)), (1, .int (nI c0)), (2, .int (iI g0)), (3, .int (-1)), (4, .int v4), (5, .int v5), (6, .int (nI (2 ^ n))), (7, .int (nI k))]) hx hb dR_dearer_57 hl (by decide) rfl (fun ls hl => ?_)
        refine lv_iload hx hb dR_dearer_59 (lv_at hl 0 rfl) ?_
        refine lv_if_eq (tgt := 117) hx hb dR_dearer_61 (by decide) (fun cm => ?_) (fun cm => ?_)
        ·
          refine lv_iinc (v := (nI (k + 1))) (lv' := [(7, .int (nI (k + 1))), (9, .int 0), (8, .int (nI (mc_cost C k n))), (0, .ref (w 0)), (1, .int (nI c0)), (2, .int (iI g0)), (3, .int (-1)), (4, .int v4), (5, .int v5), (6, .int (nI (2 ^ n)))]) hx hb dR_dearer_117 hl (k := 9) rfl (nI_1 k) (by decide) rfl (fun ls hl => ?_)
          refine lv_goto (tgt := 19) hx hb dR_dearer_120 (by decide) ?_
          exact ih (k + 1, -1, v4, v5) ls (⟨hkn, Or.inl ⟨rfl, lt_s hI (fun _ h => absurd h (by omega))⟩⟩) (by dsimp only; omega) (lv_sub hl [3, 4, 5, 6, 7, 8, 9, 0] rfl)
        · exact absurd (rfl : (0 : Int32) = 0) cm
      · have c2 : c0 < mc_cost C k n := by
          rcases Nat.lt_or_ge c0 (mc_cost C k n) with z | z
          · exact z
          · exact absurd ((nI_leI (by omega) (by omega)).mpr z) c2
        refine lv_iload_n hx hb dR_dearer_40 rfl (lv_at hl 4 rfl) ?_
        refine lv_iconst (v := (-1)) hx hb dR_dearer_41 (by decide) ?_
        refine lv_icmp_eq (tgt := 52) hx hb dR_dearer_42 (by decide) (fun c3 => ?_) (fun c3 => ?_)
        ·
          refine lv_iconst (v := 1) hx hb dR_dearer_52 (by decide) ?_
          refine lv_goto (tgt := 57) hx hb dR_dearer_53 (by decide) ?_
          refine lv_istore (lv' := [(9, .int 1), (8, .int (nI (mc_cost C k n))), (0, .ref (w 0)), (1, .int (nI c0)), (2, .int (iI g0)), (3, .int (-1)), (4, .int v4), (5, .int v5), (6, .int (nI (2 ^ n))), (7, .int (nI k))]) hx hb dR_dearer_57 hl (by decide) rfl (fun ls hl => ?_)
          refine lv_iload hx hb dR_dearer_59 (lv_at hl 0 rfl) ?_
          refine lv_if_eq (tgt := 117) hx hb dR_dearer_61 (by decide) (fun c5 => ?_) (fun c5 => ?_)
          · exact absurd c5 (by decide)
          ·
            refine lv_aload_n hx hb dR_dearer_64 rfl (lv_at hl 2 rfl) ?_
            refine lv_iload hx hb dR_dearer_65 (lv_at hl 9 rfl) ?_
            refine callRV (As := [.int (nI k)]) (rest := []) ⟨hx, hb, hml, hown, hts⟩ tlB (c_R_holds l dC dI w cI cZ th n C G X D B bu LG LC ch k hn (by omega) hXn hDn) kw534 kw535 kw17 kw29 kw536 ⟨rfl, rfl⟩ (n := 1) (by decide +kernel) ⟨Nat.le_of_ble_eq_true rfl, Nat.le_of_ble_eq_true rfl⟩ (roP_preV hP hK (ci := 4) (q0 := 0) rfl rfl) rfl hl.1 rfl (Nat.le_of_ble_eq_true rfl) ⟨Nat.le_of_ble_eq_true rfl, Nat.le_of_ble_eq_true rfl⟩ dR_dearer_67 (fun r2 hr2 => ?_)
            refine lv_if_eq (tgt := 117) hx hb dR_dearer_70 (by decide) (fun c6 => ?_) (fun c6 => ?_)
            · have c6 := mcZ_f hr2 c6
              refine lv_iinc (v := (nI (k + 1))) (lv' := [(7, .int (nI (k + 1))), (9, .int 1), (8, .int (nI (mc_cost C k n))), (0, .ref (w 0)), (1, .int (nI c0)), (2, .int (iI g0)), (3, .int (-1)), (4, .int v4), (5, .int v5), (6, .int (nI (2 ^ n)))]) hx hb dR_dearer_117 hl (k := 9) rfl (nI_1 k) (by decide) rfl (fun ls hl => ?_)
              refine lv_goto (tgt := 19) hx hb dR_dearer_120 (by decide) ?_
              exact ih (k + 1, -1, v4, v5) ls (⟨hkn, Or.inl ⟨rfl, lt_s hI (fun h => absurd h c6)⟩⟩) (by dsimp only; omega) (lv_sub hl [3, 4, 5, 6, 7, 8, 9, 0] rfl)
            · have c6 := mcZ_t hr2 c6
              refine lv_aload_n hx hb dR_dearer_73 rfl (lv_at hl 2 rfl) ?_
              refine lv_iload hx hb dR_dearer_74 (lv_at hl 9 rfl) ?_
              refine callRV (As := [.int (nI k)]) (rest := []) ⟨hx, hb, hml, hown, hts⟩ tlB (c_R_gainOf l dC dI w cI cZ th n C G X D B bu LG LC ch k hn (by omega)) kw547 kw548 kw19 kw29 kw549 ⟨rfl, rfl⟩ (n := 1) (by decide +kernel) ⟨Nat.le_of_ble_eq_true rfl, Nat.le_of_ble_eq_true rfl⟩ (roP_preV hP hK (ci := 4) (q0 := 0) rfl rfl) rfl hl.1 rfl (Nat.le_of_ble_eq_true rfl) ⟨Nat.le_of_ble_eq_true rfl, Nat.le_of_ble_eq_true rfl⟩ dR_dearer_76 (fun r3 hr3 => ?_)
              subst hr3
              refine lv_istore (lv' := [(10, .int (iI (mc_gain G B k n))), (9, .int 1), (8, .int (nI (mc_cost C k n))), (0, .ref (w 0)), (1, .int (nI c0)), (2, .int (iI g0)), (3, .int (-1)), (4, .int v4), (5, .int v5), (6, .int (nI (2 ^ n))), (7, .int (nI k))]) hx hb dR_dearer_79 hl (by decide) rfl (fun ls hl => ?_)
              refine lv_iload hx hb dR_dearer_81 (lv_at hl 0 rfl) ?_
              refine lv_iload_n hx hb dR_dearer_83 rfl (lv_at hl 5 rfl) ?_
              refine lv_icmp_le (tgt := 117) hx hb dR_dearer_84 (by decide) (fun c7 => ?_) (fun c7 => ?_)
              · have c7 := hgg.mp c7
                refine lv_iinc (v := (nI (k + 1))) (lv' := [(7, .int (nI (k + 1))), (10, .int (iI (mc_gain G B k n))), (9, .int 1), (8, .int (nI (mc_cost C k n))), (0, .ref (w 0)), (1, .int (nI c0)), (2, .int (iI g0)), (3, .int (-1)), (4, .int v4), (5, .int v5), (6, .int (nI (2 ^ n)))]) hx hb dR_dearer_117 hl (k := 10) rfl (nI_1 k) (by decide) rfl (fun ls hl => ?_)
                refine lv_goto (tgt := 19) hx hb dR_dearer_120 (by decide) ?_
                exact ih (k + 1, -1, v4, v5) ls (⟨hkn, Or.inl ⟨rfl, lt_s hI (fun _ _ h => absurd h (by omega))⟩⟩) (by dsimp only; omega) (lv_sub hl [4, 5, 6, 7, 8, 9, 10, 0] rfl)
              · have c7 : g0 < mc_gain G B k n := by
                  rcases Int.lt_or_le g0 (mc_gain G B k n) with z | z
                  · exact z
                  · exact absurd (hgg.mpr z) c7
                refine lv_iload_n hx hb dR_dearer_87 rfl (lv_at hl 6 rfl) ?_
                refine lv_iconst (v := (-1)) hx hb dR_dearer_88 (by decide) ?_
                refine lv_icmp_eq (tgt := 106) hx hb dR_dearer_89 (by decide) (fun c8 => ?_) (fun c8 => ?_)
                ·
                  refine lv_iload hx hb dR_dearer_106 (lv_at hl 10 rfl) ?_
                  refine lv_istore_n (lv' := [(3, .int (nI k)), (10, .int (iI (mc_gain G B k n))), (9, .int 1), (8, .int (nI (mc_cost C k n))), (0, .ref (w 0)), (1, .int (nI c0)), (2, .int (iI g0)), (4, .int v4), (5, .int v5), (6, .int (nI (2 ^ n))), (7, .int (nI k))]) hx hb dR_dearer_108 rfl hl (by decide) rfl (fun ls hl => ?_)
                  refine lv_iload hx hb dR_dearer_109 (lv_at hl 3 rfl) ?_
                  refine lv_istore (lv' := [(4, .int (nI (mc_cost C k n))), (3, .int (nI k)), (10, .int (iI (mc_gain G B k n))), (9, .int 1), (8, .int (nI (mc_cost C k n))), (0, .ref (w 0)), (1, .int (nI c0)), (2, .int (iI g0)), (5, .int v5), (6, .int (nI (2 ^ n))), (7, .int (nI k))]) hx hb dR_dearer_111 hl (by decide) rfl (fun ls hl => ?_)
                  refine lv_iload hx hb dR_dearer_113 (lv_at hl 2 rfl) ?_
                  refine lv_istore (lv' := [(5, .int (iI (mc_gain G B k n))), (4, .int (nI (mc_cost C k n))), (3, .int (nI k)), (10, .int (iI (mc_gain G B k n))), (9, .int 1), (8, .int (nI (mc_cost C k n))), (0, .ref (w 0)), (1, .int (nI c0)), (2, .int (iI g0)), (6, .int (nI (2 ^ n))), (7, .int (nI k))]) hx hb dR_dearer_115 hl (by decide) rfl (fun ls hl => ?_)
                  refine lv_iinc (v := (nI (k + 1))) (lv' := [(7, .int (nI (k + 1))), (5, .int (iI (mc_gain G B k n))), (4, .int (nI (mc_cost C k n))), (3, .int (nI k)), (10, .int (iI (mc_gain G B k n))), (9, .int 1), (8, .int (nI (mc_cost C k n))), (0, .ref (w 0)), (1, .int (nI c0)), (2, .int (iI g0)), (6, .int (nI (2 ^ n)))]) hx hb dR_dearer_117 hl (k := 10) rfl (nI_1 k) (by decide) rfl (fun ls hl => ?_)
                  refine lv_goto (tgt := 19) hx hb dR_dearer_120 (by decide) ?_
                  exact ih (k + 1, nI k, nI (mc_cost C k n), iI (mc_gain G B k n)) ls (⟨hkn, Or.inr ⟨k, rfl, rfl, rfl, mc_ds_first hI c6 c2 c7⟩⟩) (by dsimp only; omega) (lv_sub hl [7, 8, 9, 3, 2, 1, 10, 0] rfl)
                · exact absurd rfl c8
        · exact absurd rfl c3
    · have hs9 := hI.1
      have hcb2 := mc_cost_le (S := s9) hC n
      refine lv_iload hx hb dR_dearer_34 (lv_at hl 0 rfl) ?_
      refine lv_iload_n hx hb dR_dearer_36 rfl (lv_at hl 2 rfl) ?_
      refine lv_icmp_le (tgt := 56) hx hb dR_dearer_37 (by decide) (fun c2 => ?_) (fun c2 => ?_)
      · have c2 := (nI_leI (by omega) (by omega)).mp c2
        refine lv_iconst (v := 0) hx hb dR_dearer_56 (by decide) ?_
        refine lv_istore (lv' := [(9, .int 0), (8, .int (nI (mc_cost C k n))), (0, .ref (w 0)), (1, .int (nI c0)), (2, .int (iI g0)), (3, .int (nI s9)), (4, .int (nI (mc_cost C s9 n))), (5, .int (iI (mc_gain G B s9 n))), (6, .int (nI (2 ^ n))), (7, .int (nI k))]) hx hb dR_dearer_57 hl (by decide) rfl (fun ls hl => ?_)
        refine lv_iload hx hb dR_dearer_59 (lv_at hl 0 rfl) ?_
        refine lv_if_eq (tgt := 117) hx hb dR_dearer_61 (by decide) (fun cm => ?_) (fun cm => ?_)
        ·
          refine lv_iinc (v := (nI (k + 1))) (lv' := [(7, .int (nI (k + 1))), (9, .int 0), (8, .int (nI (mc_cost C k n))), (0, .ref (w 0)), (1, .int (nI c0)), (2, .int (iI g0)), (3, .int (nI s9)), (4, .int (nI (mc_cost C s9 n))), (5, .int (iI (mc_gain G B s9 n))), (6, .int (nI (2 ^ n)))]) hx hb dR_dearer_117 hl (k := 9) rfl (nI_1 k) (by decide) rfl (fun ls hl => ?_)
          refine lv_goto (tgt := 19) hx hb dR_dearer_120 (by decide) ?_
          exact ih (k + 1, (nI s9), (nI (mc_cost C s9 n)), (iI (mc_gain G B s9 n))) ls (⟨hkn, Or.inr ⟨s9, rfl, rfl, rfl, mc_ds_skip hI (fun _ h => absurd h (by omega))⟩⟩) (by dsimp only; omega) (lv_sub hl [3, 4, 5, 6, 7, 8, 9, 0] rfl)
        · exact absurd (rfl : (0 : Int32) = 0) cm
      · have c2 : c0 < mc_cost C k n := by
          rcases Nat.lt_or_ge c0 (mc_cost C k n) with z | z
          · exact z
          · exact absurd ((nI_leI (by omega) (by omega)).mpr z) c2
        refine lv_iload_n hx hb dR_dearer_40 rfl (lv_at hl 4 rfl) ?_
        refine lv_iconst (v := (-1)) hx hb dR_dearer_41 (by decide) ?_
        refine lv_icmp_eq (tgt := 52) hx hb dR_dearer_42 (by decide) (fun c3 => ?_) (fun c3 => ?_)
        · exact absurd c3 (nI_nm1 (by omega))
        ·
          refine lv_iload hx hb dR_dearer_45 (lv_at hl 0 rfl) ?_
          refine lv_iload hx hb dR_dearer_47 (lv_at hl 5 rfl) ?_
          refine lv_icmp_gt (tgt := 56) hx hb dR_dearer_49 (by decide) (fun c4 => ?_) (fun c4 => ?_)
          · have c4 := (nI_ltI (by omega) (by omega)).mp c4
            refine lv_iconst (v := 0) hx hb dR_dearer_56 (by decide) ?_
            refine lv_istore (lv' := [(9, .int 0), (8, .int (nI (mc_cost C k n))), (0, .ref (w 0)), (1, .int (nI c0)), (2, .int (iI g0)), (3, .int (nI s9)), (4, .int (nI (mc_cost C s9 n))), (5, .int (iI (mc_gain G B s9 n))), (6, .int (nI (2 ^ n))), (7, .int (nI k))]) hx hb dR_dearer_57 hl (by decide) rfl (fun ls hl => ?_)
            refine lv_iload hx hb dR_dearer_59 (lv_at hl 0 rfl) ?_
            refine lv_if_eq (tgt := 117) hx hb dR_dearer_61 (by decide) (fun cm => ?_) (fun cm => ?_)
            ·
              refine lv_iinc (v := (nI (k + 1))) (lv' := [(7, .int (nI (k + 1))), (9, .int 0), (8, .int (nI (mc_cost C k n))), (0, .ref (w 0)), (1, .int (nI c0)), (2, .int (iI g0)), (3, .int (nI s9)), (4, .int (nI (mc_cost C s9 n))), (5, .int (iI (mc_gain G B s9 n))), (6, .int (nI (2 ^ n)))]) hx hb dR_dearer_117 hl (k := 9) rfl (nI_1 k) (by decide) rfl (fun ls hl => ?_)
              refine lv_goto (tgt := 19) hx hb dR_dearer_120 (by decide) ?_
              exact ih (k + 1, (nI s9), (nI (mc_cost C s9 n)), (iI (mc_gain G B s9 n))) ls (⟨hkn, Or.inr ⟨s9, rfl, rfl, rfl, mc_ds_skip hI (fun _ _ _ => Or.inl c4)⟩⟩) (by dsimp only; omega) (lv_sub hl [3, 4, 5, 6, 7, 8, 9, 0] rfl)
            · exact absurd (rfl : (0 : Int32) = 0) cm
          · have c4 : mc_cost C k n ≤ mc_cost C s9 n := by
              rcases Nat.lt_or_ge (mc_cost C s9 n) (mc_cost C k n) with z | z
              · exact absurd ((nI_ltI (by omega) (by omega)).mpr z) c4
              · exact z
            refine lv_iconst (v := 1) hx hb dR_dearer_52 (by decide) ?_
            refine lv_goto (tgt := 57) hx hb dR_dearer_53 (by decide) ?_
            refine lv_istore (lv' := [(9, .int 1), (8, .int (nI (mc_cost C k n))), (0, .ref (w 0)), (1, .int (nI c0)), (2, .int (iI g0)), (3, .int (nI s9)), (4, .int (nI (mc_cost C s9 n))), (5, .int (iI (mc_gain G B s9 n))), (6, .int (nI (2 ^ n))), (7, .int (nI k))]) hx hb dR_dearer_57 hl (by decide) rfl (fun ls hl => ?_)
            refine lv_iload hx hb dR_dearer_59 (lv_at hl 0 rfl) ?_
            refine lv_if_eq (tgt := 117) hx hb dR_dearer_61 (by decide) (fun c5 => ?_) (fun c5 => ?_)
            · exact absurd c5 (by decide)
            ·
              refine lv_aload_n hx hb dR_dearer_64 rfl (lv_at hl 2 rfl) ?_
              refine lv_iload hx hb dR_dearer_65 (lv_at hl 9 rfl) ?_
              refine callRV (As := [.int (nI k)]) (rest := []) ⟨hx, hb, hml, hown, hts⟩ tlB (c_R_holds l dC dI w cI cZ th n C G X D B bu LG LC ch k hn (by omega) hXn hDn) kw534 kw535 kw17 kw29 kw536 ⟨rfl, rfl⟩ (n := 1) (by decide +kernel) ⟨Nat.le_of_ble_eq_true rfl, Nat.le_of_ble_eq_true rfl⟩ (roP_preV hP hK (ci := 4) (q0 := 0) rfl rfl) rfl hl.1 rfl (Nat.le_of_ble_eq_true rfl) ⟨Nat.le_of_ble_eq_true rfl, Nat.le_of_ble_eq_true rfl⟩ dR_dearer_67 (fun r2 hr2 => ?_)
              refine lv_if_eq (tgt := 117) hx hb dR_dearer_70 (by decide) (fun c6 => ?_) (fun c6 => ?_)
              · have c6 := mcZ_f hr2 c6
                refine lv_iinc (v := (nI (k + 1))) (lv' := [(7, .int (nI (k + 1))), (9, .int 1), (8, .int (nI (mc_cost C k n))), (0, .ref (w 0)), (1, .int (nI c0)), (2, .int (iI g0)), (3, .int (nI s9)), (4, .int (nI (mc_cost C s9 n))), (5, .int (iI (mc_gain G B s9 n))), (6, .int (nI (2 ^ n)))]) hx hb dR_dearer_117 hl (k := 9) rfl (nI_1 k) (by decide) rfl (fun ls hl => ?_)
                refine lv_goto (tgt := 19) hx hb dR_dearer_120 (by decide) ?_
                exact ih (k + 1, (nI s9), (nI (mc_cost C s9 n)), (iI (mc_gain G B s9 n))) ls (⟨hkn, Or.inr ⟨s9, rfl, rfl, rfl, mc_ds_skip hI (fun h => absurd h c6)⟩⟩) (by dsimp only; omega) (lv_sub hl [3, 4, 5, 6, 7, 8, 9, 0] rfl)
              · have c6 := mcZ_t hr2 c6
                refine lv_aload_n hx hb dR_dearer_73 rfl (lv_at hl 2 rfl) ?_
                refine lv_iload hx hb dR_dearer_74 (lv_at hl 9 rfl) ?_
                refine callRV (As := [.int (nI k)]) (rest := []) ⟨hx, hb, hml, hown, hts⟩ tlB (c_R_gainOf l dC dI w cI cZ th n C G X D B bu LG LC ch k hn (by omega)) kw547 kw548 kw19 kw29 kw549 ⟨rfl, rfl⟩ (n := 1) (by decide +kernel) ⟨Nat.le_of_ble_eq_true rfl, Nat.le_of_ble_eq_true rfl⟩ (roP_preV hP hK (ci := 4) (q0 := 0) rfl rfl) rfl hl.1 rfl (Nat.le_of_ble_eq_true rfl) ⟨Nat.le_of_ble_eq_true rfl, Nat.le_of_ble_eq_true rfl⟩ dR_dearer_76 (fun r3 hr3 => ?_)
                subst hr3
                refine lv_istore (lv' := [(10, .int (iI (mc_gain G B k n))), (9, .int 1), (8, .int (nI (mc_cost C k n))), (0, .ref (w 0)), (1, .int (nI c0)), (2, .int (iI g0)), (3, .int (nI s9)), (4, .int (nI (mc_cost C s9 n))), (5, .int (iI (mc_gain G B s9 n))), (6, .int (nI (2 ^ n))), (7, .int (nI k))]) hx hb dR_dearer_79 hl (by decide) rfl (fun ls hl => ?_)
                refine lv_iload hx hb dR_dearer_81 (lv_at hl 0 rfl) ?_
                refine lv_iload_n hx hb dR_dearer_83 rfl (lv_at hl 5 rfl) ?_
                refine lv_icmp_le (tgt := 117) hx hb dR_dearer_84 (by decide) (fun c7 => ?_) (fun c7 => ?_)
                · have c7 := hgg.mp c7
                  refine lv_iinc (v := (nI (k + 1))) (lv' := [(7, .int (nI (k + 1))), (10, .int (iI (mc_gain G B k n))), (9, .int 1), (8, .int (nI (mc_cost C k n))), (0, .ref (w 0)), (1, .int (nI c0)), (2, .int (iI g0)), (3, .int (nI s9)), (4, .int (nI (mc_cost C s9 n))), (5, .int (iI (mc_gain G B s9 n))), (6, .int (nI (2 ^ n)))]) hx hb dR_dearer_117 hl (k := 10) rfl (nI_1 k) (by decide) rfl (fun ls hl => ?_)
                  refine lv_goto (tgt := 19) hx hb dR_dearer_120 (by decide) ?_
                  exact ih (k + 1, (nI s9), (nI (mc_cost C s9 n)), (iI (mc_gain G B s9 n))) ls (⟨hkn, Or.inr ⟨s9, rfl, rfl, rfl, mc_ds_skip hI (fun _ _ h => absurd h (by omega))⟩⟩) (by dsimp only; omega) (lv_sub hl [4, 5, 6, 7, 8, 9, 10, 0] rfl)
                · have c7 : g0 < mc_gain G B k n := by
                    rcases Int.lt_or_le g0 (mc_gain G B k n) with z | z
                    · exact z
                    · exact absurd (hgg.mpr z) c7
                  refine lv_iload_n hx hb dR_dearer_87 rfl (lv_at hl 6 rfl) ?_
                  refine lv_iconst (v := (-1)) hx hb dR_dearer_88 (by decide) ?_
                  refine lv_icmp_eq (tgt := 106) hx hb dR_dearer_89 (by decide) (fun c8 => ?_) (fun c8 => ?_)
                  · exact absurd c8 (nI_nm1 (by omega))
                  ·
                    refine lv_iload hx hb dR_dearer_92 (lv_at hl 2 rfl) ?_
                    refine lv_iload hx hb dR_dearer_94 (lv_at hl 7 rfl) ?_
                    refine lv_icmp_lt (tgt := 106) hx hb dR_dearer_96 (by decide) (fun c9 => ?_) (fun c9 => ?_)
                    · have c9 := (nI_ltI (by omega) (by omega)).mp c9
                      refine lv_iload hx hb dR_dearer_106 (lv_at hl 10 rfl) ?_
                      refine lv_istore_n (lv' := [(3, .int (nI k)), (10, .int (iI (mc_gain G B k n))), (9, .int 1), (8, .int (nI (mc_cost C k n))), (0, .ref (w 0)), (1, .int (nI c0)), (2, .int (iI g0)), (4, .int (nI (mc_cost C s9 n))), (5, .int (iI (mc_gain G B s9 n))), (6, .int (nI (2 ^ n))), (7, .int (nI k))]) hx hb dR_dearer_108 rfl hl (by decide) rfl (fun ls hl => ?_)
                      refine lv_iload hx hb dR_dearer_109 (lv_at hl 3 rfl) ?_
                      refine lv_istore (lv' := [(4, .int (nI (mc_cost C k n))), (3, .int (nI k)), (10, .int (iI (mc_gain G B k n))), (9, .int 1), (8, .int (nI (mc_cost C k n))), (0, .ref (w 0)), (1, .int (nI c0)), (2, .int (iI g0)), (5, .int (iI (mc_gain G B s9 n))), (6, .int (nI (2 ^ n))), (7, .int (nI k))]) hx hb dR_dearer_111 hl (by decide) rfl (fun ls hl => ?_)
                      refine lv_iload hx hb dR_dearer_113 (lv_at hl 2 rfl) ?_
                      refine lv_istore (lv' := [(5, .int (iI (mc_gain G B k n))), (4, .int (nI (mc_cost C k n))), (3, .int (nI k)), (10, .int (iI (mc_gain G B k n))), (9, .int 1), (8, .int (nI (mc_cost C k n))), (0, .ref (w 0)), (1, .int (nI c0)), (2, .int (iI g0)), (6, .int (nI (2 ^ n))), (7, .int (nI k))]) hx hb dR_dearer_115 hl (by decide) rfl (fun ls hl => ?_)
                      refine lv_iinc (v := (nI (k + 1))) (lv' := [(7, .int (nI (k + 1))), (5, .int (iI (mc_gain G B k n))), (4, .int (nI (mc_cost C k n))), (3, .int (nI k)), (10, .int (iI (mc_gain G B k n))), (9, .int 1), (8, .int (nI (mc_cost C k n))), (0, .ref (w 0)), (1, .int (nI c0)), (2, .int (iI g0)), (6, .int (nI (2 ^ n)))]) hx hb dR_dearer_117 hl (k := 10) rfl (nI_1 k) (by decide) rfl (fun ls hl => ?_)
                      refine lv_goto (tgt := 19) hx hb dR_dearer_120 (by decide) ?_
                      exact ih (k + 1, nI k, nI (mc_cost C k n), iI (mc_gain G B k n)) ls (⟨hkn, Or.inr ⟨k, rfl, rfl, rfl, mc_ds_take hI c6 c2 c7 (Or.inl c9)⟩⟩) (by dsimp only; omega) (lv_sub hl [7, 8, 9, 3, 2, 1, 10, 0] rfl)
                    · have c9 : mc_cost C s9 n ≤ mc_cost C k n := by
                        rcases Nat.lt_or_ge (mc_cost C k n) (mc_cost C s9 n) with z | z
                        · exact absurd ((nI_ltI (by omega) (by omega)).mpr z) c9
                        · exact z
                      have hgb2 := mc_gain_le (S := s9) hG hB n hn
                      have hg2 := iI_le (a := mc_gain G B k n) (b := mc_gain G B s9 n) (by omega) (by omega) (by omega) (by omega)
                      refine lv_iload hx hb dR_dearer_99 (lv_at hl 0 rfl) ?_
                      refine lv_iload hx hb dR_dearer_101 (lv_at hl 8 rfl) ?_
                      refine lv_icmp_le (tgt := 117) hx hb dR_dearer_103 (by decide) (fun d1 => ?_) (fun d1 => ?_)
                      · have d1 := hg2.mp d1
                        refine lv_iinc (v := (nI (k + 1))) (lv' := [(7, .int (nI (k + 1))), (10, .int (iI (mc_gain G B k n))), (9, .int 1), (8, .int (nI (mc_cost C k n))), (0, .ref (w 0)), (1, .int (nI c0)), (2, .int (iI g0)), (3, .int (nI s9)), (4, .int (nI (mc_cost C s9 n))), (5, .int (iI (mc_gain G B s9 n))), (6, .int (nI (2 ^ n)))]) hx hb dR_dearer_117 hl (k := 10) rfl (nI_1 k) (by decide) rfl (fun ls hl => ?_)
                        refine lv_goto (tgt := 19) hx hb dR_dearer_120 (by decide) ?_
                        exact ih (k + 1, (nI s9), (nI (mc_cost C s9 n)), (iI (mc_gain G B s9 n))) ls (⟨hkn, Or.inr ⟨s9, rfl, rfl, rfl, mc_ds_skip hI (fun _ _ _ => Or.inr ⟨by omega, d1⟩)⟩⟩) (by dsimp only; omega) (lv_sub hl [4, 5, 6, 7, 8, 9, 10, 0] rfl)
                      · have d1 : mc_gain G B s9 n < mc_gain G B k n := by
                          rcases Int.lt_or_le (mc_gain G B s9 n) (mc_gain G B k n) with z | z
                          · exact z
                          · exact absurd (hg2.mpr z) d1
                        refine lv_iload hx hb dR_dearer_106 (lv_at hl 10 rfl) ?_
                        refine lv_istore_n (lv' := [(3, .int (nI k)), (10, .int (iI (mc_gain G B k n))), (9, .int 1), (8, .int (nI (mc_cost C k n))), (0, .ref (w 0)), (1, .int (nI c0)), (2, .int (iI g0)), (4, .int (nI (mc_cost C s9 n))), (5, .int (iI (mc_gain G B s9 n))), (6, .int (nI (2 ^ n))), (7, .int (nI k))]) hx hb dR_dearer_108 rfl hl (by decide) rfl (fun ls hl => ?_)
                        refine lv_iload hx hb dR_dearer_109 (lv_at hl 3 rfl) ?_
                        refine lv_istore (lv' := [(4, .int (nI (mc_cost C k n))), (3, .int (nI k)), (10, .int (iI (mc_gain G B k n))), (9, .int 1), (8, .int (nI (mc_cost C k n))), (0, .ref (w 0)), (1, .int (nI c0)), (2, .int (iI g0)), (5, .int (iI (mc_gain G B s9 n))), (6, .int (nI (2 ^ n))), (7, .int (nI k))]) hx hb dR_dearer_111 hl (by decide) rfl (fun ls hl => ?_)
                        refine lv_iload hx hb dR_dearer_113 (lv_at hl 2 rfl) ?_
                        refine lv_istore (lv' := [(5, .int (iI (mc_gain G B k n))), (4, .int (nI (mc_cost C k n))), (3, .int (nI k)), (10, .int (iI (mc_gain G B k n))), (9, .int 1), (8, .int (nI (mc_cost C k n))), (0, .ref (w 0)), (1, .int (nI c0)), (2, .int (iI g0)), (6, .int (nI (2 ^ n))), (7, .int (nI k))]) hx hb dR_dearer_115 hl (by decide) rfl (fun ls hl => ?_)
                        refine lv_iinc (v := (nI (k + 1))) (lv' := [(7, .int (nI (k + 1))), (5, .int (iI (mc_gain G B k n))), (4, .int (nI (mc_cost C k n))), (3, .int (nI k)), (10, .int (iI (mc_gain G B k n))), (9, .int 1), (8, .int (nI (mc_cost C k n))), (0, .ref (w 0)), (1, .int (nI c0)), (2, .int (iI g0)), (6, .int (nI (2 ^ n)))]) hx hb dR_dearer_117 hl (k := 10) rfl (nI_1 k) (by decide) rfl (fun ls hl => ?_)
                        refine lv_goto (tgt := 19) hx hb dR_dearer_120 (by decide) ?_
                        exact ih (k + 1, nI k, nI (mc_cost C k n), iI (mc_gain G B k n)) ls (⟨hkn, Or.inr ⟨k, rfl, rfl, rfl, mc_ds_take hI c6 c2 c7 (Or.inr ⟨by omega, d1⟩)⟩⟩) (by dsimp only; omega) (lv_sub hl [7, 8, 9, 3, 2, 1, 10, 0] rfl)
