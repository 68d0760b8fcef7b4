/-! the reference: workOf, work -/
/-- of the sets around Bf below K, f is the best -/
def mc_wo (N : Nat) (ok : Nat → Prop) (t : Nat → Int) (sp : Nat → Nat) (Bf K f : Nat) : Prop :=
  f < K ∧ f < N ∧ ok f ∧ mc_sub Bf f ∧ ∀ S, S < N → ok S → mc_sub Bf S → S < K → t S < t f ∨ (t S = t f ∧ (sp f < sp S ∨ (sp f = sp S ∧ f ≤ S)))
def mc_wn (N : Nat) (ok : Nat → Prop) (Bf K : Nat) : Prop := ∀ S, S < N → ok S → mc_sub Bf S → ¬ S < K
theorem mc_wo_skip {N : Nat} {ok : Nat → Prop} {t : Nat → Int} {sp : Nat → Nat} {Bf K f : Nat} (h : mc_wo N ok t sp Bf K f) (hs : ok K → mc_sub Bf K → ¬ (t f < t K ∨ (t K = t f ∧ sp K < sp f))) : mc_wo N ok t sp Bf (K + 1) f := by
  obtain ⟨h1, h2, h3, h4, h5⟩ := h
  refine ⟨by omega, h2, h3, h4, fun S hS ho hs9 hl => ?_⟩
  by_cases e : S = K
  · subst e
    have := hs ho hs9
    omega
  · exact h5 S hS ho hs9 (by omega)
theorem mc_wo_take {N : Nat} {ok : Nat → Prop} {t : Nat → Int} {sp : Nat → Nat} {Bf K f : Nat} (h : mc_wo N ok t sp Bf K f) (hK : K < N) (ho : ok K) (hs : mc_sub Bf K) (hb : t f < t K ∨ (t K = t f ∧ sp K < sp f)) : mc_wo N ok t sp Bf (K + 1) K := by
  obtain ⟨h1, h2, h3, h4, h5⟩ := h
  refine ⟨by omega, hK, ho, hs, fun S hS hoS hsS hl => ?_⟩
  by_cases e : S = K
  · subst e
    exact Or.inr ⟨rfl, Or.inr ⟨rfl, Nat.le_refl _⟩⟩
  · have := h5 S hS hoS hsS (by omega)
    omega
theorem mc_wn_skip {N : Nat} {ok : Nat → Prop} {Bf K : Nat} (h : mc_wn N ok Bf K) (hs : mc_sub Bf K → ¬ ok K) : mc_wn N ok Bf (K + 1) := fun S hS ho hs9 hl => by
  by_cases e : S = K
  · subst e
    exact hs hs9 ho
  · exact h S hS ho hs9 (by omega)
theorem mc_wn_take {N : Nat} {ok : Nat → Prop} {t : Nat → Int} {sp : Nat → Nat} {Bf K : Nat} (h : mc_wn N ok Bf K) (hK : K < N) (ho : ok K) (hs : mc_sub Bf K) : mc_wo N ok t sp Bf (K + 1) K := by
  refine ⟨by omega, hK, ho, hs, fun S hS hoS hsS hl => ?_⟩
  by_cases e : S = K
  · subst e
    exact Or.inr ⟨rfl, Or.inr ⟨rfl, Nat.le_refl _⟩⟩
  · exact absurd (show S < K by omega) (h S hS hoS hsS)
theorem mc_wo_end {N : Nat} {ok : Nat → Prop} {t : Nat → Int} {sp : Nat → Nat} {Bf f : Nat} (h : mc_wo N ok t sp Bf N f) : mc_pick N ok t sp Bf f := ⟨h.2.1, h.2.2.1, h.2.2.2.1, fun S hS ho hs => h.2.2.2.2 S hS ho hs hS⟩
set_option maxHeartbeats 4000000 in
set_option maxRecDepth 100000 in
theorem c_R_workOf (l : Launch) (dC : Nat → ClassId) (dI : Nat → Nat → Nat) (w : Nat → Nat) (cI cZ : ClassId) (th n : Nat) (C G X D : Nat → Nat) (B : Nat → Nat → Int) (bu : Nat → Nat) (LG : Nat → Int) (LC : Nat → Nat) (ch : Nat → Int) (sz : Nat) (y Bf N mo : Nat) (hy : y < 4) (hN : N ≤ 64) (hBf : Bf < N) (hmo : mo < 2 ^ 31) (hn : n ≤ 12) (hC : ∀ m, C m ≤ 10000) (hG : ∀ m, G m ≤ 10000) (hB : ∀ i j, -5000 ≤ B i j ∧ B i j ≤ 5000) (hXn : ∀ m j, (X m).testBit j = true → j < n) (hDn : ∀ m j, (D m).testBit j = true → j < n) (hbd : ∀ S, S < N → mc_cost C S n ≤ mo → mc_law n X D S → (-20000000 ≤ LG (64 * (y + 1) + S) ∧ LG (64 * (y + 1) + S) ≤ 20000000) ∧ LC (64 * (y + 1) + S) < 2 ^ 31) : Met l yR_workOf wdR_workOf ({ frames := 2, cells := 0, slots := 0, locals := 45 }) (wrP (dC, dI) mcCl (mcWR w cI cZ th n C G X D B bu LG LC ch) (mcTR cI cZ) sz [.ref (w 0), .int (nI y), .int (nI Bf), .int (nI N), .int (nI mo)]) (va_Qv (fun x : (Nat → Int) × (Nat → Nat) × (Nat → Int) => (∀ i, i ≠ (64 * y + Bf) → x.1 i = LG i ∧ x.2.1 i = LC i ∧ x.2.2 i = ch i) ∧ (mc_cost C Bf n ≤ mo → mc_law n X D Bf → ∃ f : Nat, x.2.2 (64 * y + Bf) = (f : Int) ∧ mc_pick N (fun S => mc_cost C S n ≤ mo ∧ mc_law n X D S) (fun S => mc_gain G B S n + LG (64 * (y + 1) + S)) (fun S => LC (64 * (y + 1) + S)) Bf f ∧ x.1 (64 * y + Bf) = mc_gain G B f n + LG (64 * (y + 1) + f) ∧ x.2.1 (64 * y + Bf) = LC (64 * (y + 1) + f))) (fun x t => va_P (dC, dI) mcCl (mcWR w cI cZ th n C G X D B bu x.1 x.2.1 x.2.2) t.heap ∧ va_K (dC, dI) mcCl (mcTR cI cZ) t ∧ va_D (va_A (mcWR w cI cZ th n C G X D B bu LG LC ch) sz) (mcWR w cI cZ th n C G X D B bu x.1 x.2.1 x.2.2)) (va_A (mcWR w cI cZ th n C G X D B bu LG LC ch) sz)) 0 0 (va_A (mcWR w cI cZ th n C G X D B bu LG LC ch) sz) := by
  refine Met.ofW (cc := bR_workOf) (maxL := 11) (ret := none) (by decide) rfl ?_
  intro p e s m args below meth c s₁ BB hml hv
  obtain ⟨rfl, hsz, hP, hK, hD0⟩ := hv
  have hx := BB.exec
  have hb := BB.bytes
  have hr := BB.returns
  have hts := atoms_spec (ws := wdR_workOf) BB.pre
  have hown : s.vm.findClass RR = some m.cls := findClass_of_methodNamed BB.named
  have hlocks := BB.notSynchronized
  subst hsz
  have hD := hD0.self (sz := s.heap.size)
  generalize hAe : va_A (mcWR w cI cZ th n C G X D B bu LG LC ch) s.heap.size = A at hD ⊢
  have hA : ∀ q : Nat, s.heap.size ≤ q → A q := fun q h => by rw [← hAe]; exact Or.inr h
  have hS : va_S A s.heap s.heap [] := va_S.rf
  have hl := lv_entry ([.ref (w 0), .int (nI y), .int (nI Bf), .int (nI N), .int (nI mo)]) (n := 11) (Nat.le_of_ble_eq_true rfl)
  rw [lg_entry_eq]
  generalize (lg_sl ([.ref (w 0), .int (nI y), .int (nI Bf), .int (nI N), .int (nI mo)]) ++ List.replicate (11 - (lg_sl ([.ref (w 0), .int (nI y), .int (nI Bf), .int (nI N), .int (nI mo)])).length) Slot.unset).toArray = ls at hl ⊢
  have hl : lv_has ls 11 [(0, .ref (w 0)), (1, .int (nI y)), (2, .int (nI Bf)), (3, .int (nI N)), (4, .int (nI mo))] := hl
  refine lv_bipush (v := 64) hx hb dR_workOf_0 (by decide) ?_
  refine lv_iload_n hx hb dR_workOf_2 rfl (lv_at hl 1 rfl) ?_
  refine lv_imul hx hb dR_workOf_3 ?_
  refine lv_iload_n hx hb dR_workOf_4 rfl (lv_at hl 2 rfl) ?_
  refine lv_iadd hx hb dR_workOf_5 ?_
  refine lv_topi (fun y1 ey1 => ?_)
  have hy1 : y1 = nI (64 * y + Bf) := by rw [ey1, show (64 : Int32) = nI 64 from rfl, pk_mul, nI_add]
  subst hy1
  refine lv_istore (lv' := [(5, .int (nI (64 * y + Bf))), (0, .ref (w 0)), (1, .int (nI y)), (2, .int (nI Bf)), (3, .int (nI N)), (4, .int (nI mo))]) hx hb dR_workOf_6 hl (by decide) rfl (fun ls hl => ?_)
  refine lv_aload_n hx hb dR_workOf_8 rfl (lv_at hl 1 rfl) ?_
  refine va_get (D := (dC, dI)) (ci := 4) (C := RR) (T := FR) (N := 11) hx hb hts (fun w h => List.mem_cons_of_mem _ (inR w h)) hown hK hP 0 rfl rfl 10 (by decide) (hts _ (List.mem_cons_of_mem _ kw469)) (fun _ h9 => h9) rfl dR_workOf_9 ?_
  refine lv_iload hx hb dR_workOf_12 (lv_at hl 0 rfl) ?_
  refine lv_iconst (v := (-1)) hx hb dR_workOf_14 (by decide) ?_
  refine lv_topi (fun y2 ey2 => ?_)
  have hy2 : y2 = iI (-1) := by rw [ey2]; rfl
  subst hy2
  refine iastN hx hb hK hP hD hS 9 0 rfl rfl (k := (64 * y + Bf)) (by omega) (by decide) (x := iI (-1)) (fun j => iI (va_up ch (64 * y + Bf) (-1) j)) (fun j => by simp only [va_up]; split <;> rfl) (ws' := mcWR w cI cZ th n C G X D B bu LG LC (va_up ch (64 * y + Bf) (-1))) (rfl) dR_workOf_15 (fun H locs hP hD hS => ?_)
  refine lv_iload_n hx hb dR_workOf_16 rfl (lv_at hl 3 rfl) ?_
  refine lv_istore (lv' := [(6, .int (nI Bf)), (5, .int (nI (64 * y + Bf))), (0, .ref (w 0)), (1, .int (nI y)), (2, .int (nI Bf)), (3, .int (nI N)), (4, .int (nI mo))]) hx hb dR_workOf_17 hl (by decide) rfl (fun ls hl => ?_)
  refine lpW (σ := Nat × (Nat → Int) × (Nat → Nat) × (Nat → Int)) (fun x H locs => x.1 ≤ N ∧ Bf ≤ x.1 ∧ ((∀ i, i ≠ (64 * y + Bf) → x.2.1 i = LG i ∧ x.2.2.1 i = LC i ∧ x.2.2.2 i = ch i) ∧ ((x.2.2.2 (64 * y + Bf) = -1 ∧ mc_wn N (fun S => mc_cost C S n ≤ mo ∧ mc_law n X D S) Bf x.1) ∨ ∃ f : Nat, x.2.2.2 (64 * y + Bf) = (f : Int) ∧ mc_wo N (fun S => mc_cost C S n ≤ mo ∧ mc_law n X D S) (fun S => mc_gain G B S n + LG (64 * (y + 1) + S)) (fun S => LC (64 * (y + 1) + S)) Bf x.1 f ∧ x.2.1 (64 * y + Bf) = mc_gain G B f n + LG (64 * (y + 1) + f) ∧ x.2.2.1 (64 * y + Bf) = LC (64 * (y + 1) + f))) ∧ va_P (dC, dI) mcCl (mcWR w cI cZ th n C G X D B bu x.2.1 x.2.2.1 x.2.2.2) H ∧ va_D A (mcWR w cI cZ th n C G X D B bu x.2.1 x.2.2.1 x.2.2.2) ∧ va_S A s.heap H locs) (fun x => [(0, .ref (w 0)), (1, .int (nI y)), (2, .int (nI Bf)), (3, .int (nI N)), (4, .int (nI mo)), (5, .int (nI (64 * y + Bf))), (6, .int (nI x.1))]) (fun x => N - x.1) (fun x H locs ls hI hl ih => ?_) ((Bf, LG, LC, va_up ch (64 * y + Bf) (-1))) _ _ ls (⟨by dsimp only; omega, Nat.le_refl _, ⟨fun i hi => ⟨rfl, rfl, by dsimp only [va_up]; rw [if_neg hi]⟩, Or.inl ⟨by simp [va_up], fun S _ _ hs9 hl9 => absurd (mc_sub_le hs9) (by dsimp only at hl9; omega)⟩⟩, hP, hD, hS⟩) (lv_sub hl [2, 3, 4, 5, 6, 1, 0] rfl)
  obtain ⟨k, lg, lc, c9⟩ := x
  have hl : lv_has ls 11 [(0, .ref (w 0)), (1, .int (nI y)), (2, .int (nI Bf)), (3, .int (nI N)), (4, .int (nI mo)), (5, .int (nI (64 * y + Bf))), (6, .int (nI k))] := hl
  obtain ⟨hk, hk2, ⟨hI, hJ⟩, hP, hD, hS⟩ := hI
  dsimp only at hk hk2 hI hJ hP hD
  refine lv_iload hx hb dR_workOf_19 (lv_at hl 6 rfl) ?_
  refine lv_iload_n hx hb dR_workOf_21 rfl (lv_at hl 3 rfl) ?_
  refine lv_icmp_ge (tgt := 194) hx hb dR_workOf_22 (by decide) (fun c1 => ?_) (fun c1 => ?_)
  · have hkn : k = N := by have := (nI_leI (by omega) (by omega)).mp c1; omega
    rw [hkn] at hJ
    exact W.vret hx hb hr (fun t ht hW => ⟨⟨(lg, lc, c9), rfl, ⟨hI, fun h1 h2 => by rcases hJ with ⟨-, z⟩ | ⟨f, e1, z, e2, e3⟩; exact absurd hBf (z Bf hBf ⟨h1, h2⟩ mc_sub_rf); exact ⟨f, e1, mc_wo_end z, e2, e3⟩⟩, by rw [ht]; exact hP, va_K.moved hW.alike hK, hD⟩, hS.F ht⟩) hS.2.2 dR_workOf_194
  · have hkn : k < N := by
      rcases Nat.lt_or_ge k N with z | z
      · exact z
      · exact absurd (nI_le z (by omega)) c1
    refine lv_bipush (v := 64) hx hb dR_workOf_25 (by decide) ?_
    refine lv_iload_n hx hb dR_workOf_27 rfl (lv_at hl 1 rfl) ?_
    refine lv_iconst (v := 1) hx hb dR_workOf_28 (by decide) ?_
    refine lv_iadd hx hb dR_workOf_29 ?_
    refine lv_imul hx hb dR_workOf_30 ?_
    refine lv_iload hx hb dR_workOf_31 (lv_at hl 6 rfl) ?_
    refine lv_iadd hx hb dR_workOf_33 ?_
    refine lv_topi (fun y3 ey3 => ?_)
    have hy3 : y3 = nI (64 * (y + 1) + k) := by rw [ey3, nI_1, show (64 : Int32) = nI 64 from rfl, pk_mul, nI_add]
    subst hy3
    refine lv_istore (lv' := [(7, .int (nI (64 * (y + 1) + k))), (0, .ref (w 0)), (1, .int (nI y)), (2, .int (nI Bf)), (3, .int (nI N)), (4, .int (nI mo)), (5, .int (nI (64 * y + Bf))), (6, .int (nI k))]) hx hb dR_workOf_34 hl (by decide) rfl (fun ls hl => ?_)
    refine lv_iload hx hb dR_workOf_36 (lv_at hl 7 rfl) ?_
    refine lv_iload_n hx hb dR_workOf_38 rfl (lv_at hl 3 rfl) ?_
    refine lv_iand hx hb dR_workOf_39 ?_
    refine lv_topi (fun y4 ey4 => ?_)
    have hy4 : y4 = nI (k &&& Bf) := by rw [ey4, nI_and]
    subst hy4
    have hle9 : k &&& Bf ≤ k := Nat.and_le_left
    have hcb := mc_cost_le (S := k) hC n
    have hgb := mc_gain_le (S := k) hG hB n hn
    obtain ⟨hb1, hb2, hb3⟩ := hI (64 * (y + 1) + k) (by omega)
    refine lv_iload_n hx hb dR_workOf_40 rfl (lv_at hl 3 rfl) ?_
    rcases hJ with ⟨hc9, hJ⟩ | ⟨f, hc9, hJ, hlg, hlc⟩
    ·
      refine lv_icmp_ne (tgt := 68) hx hb dR_workOf_41 (by decide) (fun c2 => ?_) (fun c2 => ?_)
      · have c2 : ¬ mc_sub Bf k := fun h => c2 (by rw [mc_sub_and.mp h])
        refine lv_iconst (v := 0) hx hb dR_workOf_68 (by decide) ?_
        refine lv_istore (lv' := [(8, .int 0), (7, .int (nI (64 * (y + 1) + k))), (0, .ref (w 0)), (1, .int (nI y)), (2, .int (nI Bf)), (3, .int (nI N)), (4, .int (nI mo)), (5, .int (nI (64 * y + Bf))), (6, .int (nI k))]) hx hb dR_workOf_69 hl (by decide) rfl (fun ls hl => ?_)
        refine lv_iload hx hb dR_workOf_71 (lv_at hl 0 rfl) ?_
        refine lv_if_eq (tgt := 188) hx hb dR_workOf_73 (by decide) (fun cm => ?_) (fun cm => ?_)
        ·
          refine lv_iinc (v := (nI (k + 1))) (lv' := [(6, .int (nI (k + 1))), (8, .int 0), (7, .int (nI (64 * (y + 1) + k))), (0, .ref (w 0)), (1, .int (nI y)), (2, .int (nI Bf)), (3, .int (nI N)), (4, .int (nI mo)), (5, .int (nI (64 * y + Bf)))]) hx hb dR_workOf_188 hl (k := 8) rfl (nI_1 k) (by decide) rfl (fun ls hl => ?_)
          refine lv_goto (tgt := 19) hx hb dR_workOf_191 (by decide) ?_
          exact ih (k + 1, lg, lc, c9) H locs ls (⟨hkn, by dsimp only; omega, ⟨hI, Or.inl ⟨hc9, mc_wn_skip hJ (fun h => absurd h c2)⟩⟩, hP, hD, hS⟩) (by dsimp only; omega) (lv_sub hl [3, 4, 5, 6, 7, 8, 0] rfl)
        · exact absurd (rfl : (0 : Int32) = 0) cm
      · have c2 : mc_sub Bf k := mc_sub_and.mpr ((nI_eq (by omega) (by omega)).mp c2)
        refine lv_aload_n hx hb dR_workOf_44 rfl (lv_at hl 1 rfl) ?_
        refine lv_iload hx hb dR_workOf_45 (lv_at hl 7 rfl) ?_
        refine callRV (As := [.int (nI k)]) (rest := []) ⟨hx, hb, hml, hown, hts⟩ tlB (c_R_costOf l dC dI w cI cZ th n C G X D B bu lg lc c9 k hn (by omega)) kw544 kw545 kw18 kw29 kw546 ⟨rfl, rfl⟩ (n := 1) (by decide +kernel) ⟨Nat.le_of_ble_eq_true rfl, Nat.le_of_ble_eq_true rfl⟩ (roP_preV hP hK (ci := 4) (q0 := 0) rfl rfl) rfl hl.1 rfl (Nat.le_of_ble_eq_true rfl) ⟨Nat.le_of_ble_eq_true rfl, Nat.le_of_ble_eq_true rfl⟩ dR_workOf_47 (fun r1 hr1 => ?_)
        subst hr1
        refine lv_iload hx hb dR_workOf_50 (lv_at hl 5 rfl) ?_
        refine lv_icmp_gt (tgt := 68) hx hb dR_workOf_52 (by decide) (fun c3 => ?_) (fun c3 => ?_)
        · have c3 := (nI_ltI (by omega) (by omega)).mp c3
          refine lv_iconst (v := 0) hx hb dR_workOf_68 (by decide) ?_
          refine lv_istore (lv' := [(8, .int 0), (7, .int (nI (64 * (y + 1) + k))), (0, .ref (w 0)), (1, .int (nI y)), (2, .int (nI Bf)), (3, .int (nI N)), (4, .int (nI mo)), (5, .int (nI (64 * y + Bf))), (6, .int (nI k))]) hx hb dR_workOf_69 hl (by decide) rfl (fun ls hl => ?_)
          refine lv_iload hx hb dR_workOf_71 (lv_at hl 0 rfl) ?_
          refine lv_if_eq (tgt := 188) hx hb dR_workOf_73 (by decide) (fun cm => ?_) (fun cm => ?_)
          ·
            refine lv_iinc (v := (nI (k + 1))) (lv' := [(6, .int (nI (k + 1))), (8, .int 0), (7, .int (nI (64 * (y + 1) + k))), (0, .ref (w 0)), (1, .int (nI y)), (2, .int (nI Bf)), (3, .int (nI N)), (4, .int (nI mo)), (5, .int (nI (64 * y + Bf)))]) hx hb dR_workOf_188 hl (k := 8) rfl (nI_1 k) (by decide) rfl (fun ls hl => ?_)
            refine lv_goto (tgt := 19) hx hb dR_workOf_191 (by decide) ?_
            exact ih (k + 1, lg, lc, c9) H locs ls (⟨hkn, by dsimp only; omega, ⟨hI, Or.inl ⟨hc9, mc_wn_skip hJ (fun _ ho => absurd ho.1 (by omega))⟩⟩, hP, hD, hS⟩) (by dsimp only; omega) (lv_sub hl [3, 4, 5, 6, 7, 8, 0] rfl)
          · exact absurd (rfl : (0 : Int32) = 0) cm
        · have c3 : mc_cost C k n ≤ mo := by
            rcases Nat.lt_or_ge mo (mc_cost C k n) with z | z
            · exact absurd ((nI_ltI (by omega) (by omega)).mpr z) c3
            · exact z
          refine lv_aload_n hx hb dR_workOf_55 rfl (lv_at hl 1 rfl) ?_
          refine lv_iload hx hb dR_workOf_56 (lv_at hl 7 rfl) ?_
          refine callRV (As := [.int (nI k)]) (rest := []) ⟨hx, hb, hml, hown, hts⟩ tlB (c_R_holds l dC dI w cI cZ th n C G X D B bu lg lc c9 k hn (by omega) hXn hDn) kw534 kw535 kw17 kw29 kw536 ⟨rfl, rfl⟩ (n := 1) (by decide +kernel) ⟨Nat.le_of_ble_eq_true rfl, Nat.le_of_ble_eq_true rfl⟩ (roP_preV hP hK (ci := 4) (q0 := 0) rfl rfl) rfl hl.1 rfl (Nat.le_of_ble_eq_true rfl) ⟨Nat.le_of_ble_eq_true rfl, Nat.le_of_ble_eq_true rfl⟩ dR_workOf_58 (fun r2 hr2 => ?_)
          refine lv_if_eq (tgt := 68) hx hb dR_workOf_61 (by decide) (fun c4 => ?_) (fun c4 => ?_)
          · have c4 := mcZ_f hr2 c4
            refine lv_iconst (v := 0) hx hb dR_workOf_68 (by decide) ?_
            refine lv_istore (lv' := [(8, .int 0), (7, .int (nI (64 * (y + 1) + k))), (0, .ref (w 0)), (1, .int (nI y)), (2, .int (nI Bf)), (3, .int (nI N)), (4, .int (nI mo)), (5, .int (nI (64 * y + Bf))), (6, .int (nI k))]) hx hb dR_workOf_69 hl (by decide) rfl (fun ls hl => ?_)
            refine lv_iload hx hb dR_workOf_71 (lv_at hl 0 rfl) ?_
            refine lv_if_eq (tgt := 188) hx hb dR_workOf_73 (by decide) (fun cm => ?_) (fun cm => ?_)
            ·
              refine lv_iinc (v := (nI (k + 1))) (lv' := [(6, .int (nI (k + 1))), (8, .int 0), (7, .int (nI (64 * (y + 1) + k))), (0, .ref (w 0)), (1, .int (nI y)), (2, .int (nI Bf)), (3, .int (nI N)), (4, .int (nI mo)), (5, .int (nI (64 * y + Bf)))]) hx hb dR_workOf_188 hl (k := 8) rfl (nI_1 k) (by decide) rfl (fun ls hl => ?_)
              refine lv_goto (tgt := 19) hx hb dR_workOf_191 (by decide) ?_
              exact ih (k + 1, lg, lc, c9) H locs ls (⟨hkn, by dsimp only; omega, ⟨hI, Or.inl ⟨hc9, mc_wn_skip hJ (fun _ ho => absurd ho.2 c4)⟩⟩, hP, hD, hS⟩) (by dsimp only; omega) (lv_sub hl [3, 4, 5, 6, 7, 8, 0] rfl)
            · exact absurd (rfl : (0 : Int32) = 0) cm
          · have c4 := mcZ_t hr2 c4
            have hbk := hbd k hkn c3 c4
            refine lv_iconst (v := 1) hx hb dR_workOf_64 (by decide) ?_
            refine lv_goto (tgt := 69) hx hb dR_workOf_65 (by decide) ?_
            refine lv_istore (lv' := [(8, .int 1), (7, .int (nI (64 * (y + 1) + k))), (0, .ref (w 0)), (1, .int (nI y)), (2, .int (nI Bf)), (3, .int (nI N)), (4, .int (nI mo)), (5, .int (nI (64 * y + Bf))), (6, .int (nI k))]) hx hb dR_workOf_69 hl (by decide) rfl (fun ls hl => ?_)
            refine lv_iload hx hb dR_workOf_71 (lv_at hl 0 rfl) ?_
            refine lv_if_eq (tgt := 188) hx hb dR_workOf_73 (by decide) (fun c5 => ?_) (fun c5 => ?_)
            · exact absurd c5 (by decide)
            ·
              refine lv_aload_n hx hb dR_workOf_76 rfl (lv_at hl 2 rfl) ?_
              refine lv_iload hx hb dR_workOf_77 (lv_at hl 8 rfl) ?_
              refine callRV (As := [.int (nI k)]) (rest := []) ⟨hx, hb, hml, hown, hts⟩ tlB (c_R_gainOf l dC dI w cI cZ th n C G X D B bu lg lc c9 k hn (by omega)) kw547 kw548 kw19 kw29 kw549 ⟨rfl, rfl⟩ (n := 1) (by decide +kernel) ⟨Nat.le_of_ble_eq_true rfl, Nat.le_of_ble_eq_true rfl⟩ (roP_preV hP hK (ci := 4) (q0 := 0) rfl rfl) rfl hl.1 rfl (Nat.le_of_ble_eq_true rfl) ⟨Nat.le_of_ble_eq_true rfl, Nat.le_of_ble_eq_true rfl⟩ dR_workOf_79 (fun r3 hr3 => ?_)
              subst hr3
              refine lv_aload_n hx hb dR_workOf_82 rfl (lv_at hl 2 rfl) ?_
              refine va_get (D := (dC, dI)) (ci := 4) (C := RR) (T := FR) (N := 11) hx hb hts (fun w h => List.mem_cons_of_mem _ (inR w h)) hown hK hP 0 rfl rfl 8 (by decide) (hts _ (List.mem_cons_of_mem _ kw467)) (fun _ h9 => h9) rfl dR_workOf_83 ?_
              refine lv_iload hx hb dR_workOf_86 (lv_at hl 1 rfl) ?_
              refine ialdN hx hb hK hP 7 0 rfl rfl (k := (64 * (y + 1) + k)) (by omega) (by decide) (v := iI (LG (64 * (y + 1) + k))) (by rw [hb1]) dR_workOf_88 ?_
              refine lv_iadd hx hb dR_workOf_89 ?_
              refine lv_topi (fun y5 ey5 => ?_)
              have hy5 : y5 = iI (mc_gain G B k n + LG (64 * (y + 1) + k)) := by rw [ey5, iI_add]
              subst hy5
              refine lv_istore (lv' := [(9, .int (iI (mc_gain G B k n + LG (64 * (y + 1) + k)))), (8, .int 1), (7, .int (nI (64 * (y + 1) + k))), (0, .ref (w 0)), (1, .int (nI y)), (2, .int (nI Bf)), (3, .int (nI N)), (4, .int (nI mo)), (5, .int (nI (64 * y + Bf))), (6, .int (nI k))]) hx hb dR_workOf_90 hl (by decide) rfl (fun ls hl => ?_)
              refine lv_aload_n hx hb dR_workOf_92 rfl (lv_at hl 3 rfl) ?_
              refine va_get (D := (dC, dI)) (ci := 4) (C := RR) (T := FR) (N := 11) hx hb hts (fun w h => List.mem_cons_of_mem _ (inR w h)) hown hK hP 0 rfl rfl 10 (by decide) (hts _ (List.mem_cons_of_mem _ kw469)) (fun _ h9 => h9) rfl dR_workOf_93 ?_
              refine lv_iload hx hb dR_workOf_96 (lv_at hl 8 rfl) ?_
              refine ialdN hx hb hK hP 9 0 rfl rfl (k := (64 * y + Bf)) (by omega) (by decide) (v := iI (-1)) (by rw [hc9]) dR_workOf_98 ?_
              refine lv_iconst (v := (-1)) hx hb dR_workOf_99 (by decide) ?_
              refine lv_icmp_eq (tgt := 144) hx hb dR_workOf_100 (by decide) (fun c6 => ?_) (fun c6 => ?_)
              ·
                refine lv_iconst (v := 1) hx hb dR_workOf_144 (by decide) ?_
                refine lv_goto (tgt := 149) hx hb dR_workOf_145 (by decide) ?_
                refine lv_istore (lv' := [(10, .int 1), (9, .int (iI (mc_gain G B k n + LG (64 * (y + 1) + k)))), (8, .int 1), (7, .int (nI (64 * (y + 1) + k))), (0, .ref (w 0)), (1, .int (nI y)), (2, .int (nI Bf)), (3, .int (nI N)), (4, .int (nI mo)), (5, .int (nI (64 * y + Bf))), (6, .int (nI k))]) hx hb dR_workOf_149 hl (by decide) rfl (fun ls hl => ?_)
                refine lv_iload hx hb dR_workOf_151 (lv_at hl 0 rfl) ?_
                refine lv_if_eq (tgt := 188) hx hb dR_workOf_153 (by decide) (fun cb => ?_) (fun cb => ?_)
                · exact absurd cb (by decide)
                ·
                  refine lv_aload_n hx hb dR_workOf_156 rfl (lv_at hl 4 rfl) ?_
                  refine va_get (D := (dC, dI)) (ci := 4) (C := RR) (T := FR) (N := 11) hx hb hts (fun w h => List.mem_cons_of_mem _ (inR w h)) hown hK hP 0 rfl rfl 10 (by decide) (hts _ (List.mem_cons_of_mem _ kw469)) (fun _ h9 => h9) rfl dR_workOf_157 ?_
                  refine lv_iload hx hb dR_workOf_160 (lv_at hl 9 rfl) ?_
                  refine lv_iload hx hb dR_workOf_162 (lv_at hl 10 rfl) ?_
                  refine lv_topi (fun yk eyk => ?_)
                  have hyk : yk = iI ((k : Nat) : Int) := by rw [eyk, iI_nat]
                  subst hyk
                  refine iastN hx hb hK hP hD hS 9 0 rfl rfl (k := (64 * y + Bf)) (by omega) (by decide) (x := iI ((k : Nat) : Int)) (fun j => iI (va_up c9 (64 * y + Bf) ((k : Nat) : Int) j)) (fun j => by simp only [va_up]; split <;> rfl) (ws' := mcWR w cI cZ th n C G X D B bu lg lc (va_up c9 (64 * y + Bf) ((k : Nat) : Int))) (rfl) dR_workOf_164 (fun H locs hP hD hS => ?_)
                  refine lv_aload_n hx hb dR_workOf_165 rfl (lv_at hl 4 rfl) ?_
                  refine va_get (D := (dC, dI)) (ci := 4) (C := RR) (T := FR) (N := 11) hx hb hts (fun w h => List.mem_cons_of_mem _ (inR w h)) hown hK hP 0 rfl rfl 8 (by decide) (hts _ (List.mem_cons_of_mem _ kw467)) (fun _ h9 => h9) rfl dR_workOf_166 ?_
                  refine lv_iload hx hb dR_workOf_169 (lv_at hl 9 rfl) ?_
                  refine lv_iload hx hb dR_workOf_171 (lv_at hl 1 rfl) ?_
                  refine iastN hx hb hK hP hD hS 7 0 rfl rfl (k := (64 * y + Bf)) (by omega) (by decide) (x := iI (mc_gain G B k n + LG (64 * (y + 1) + k))) (fun j => iI (va_up lg (64 * y + Bf) (mc_gain G B k n + LG (64 * (y + 1) + k)) j)) (fun j => by simp only [va_up]; split <;> rfl) (ws' := mcWR w cI cZ th n C G X D B bu (va_up lg (64 * y + Bf) (mc_gain G B k n + LG (64 * (y + 1) + k))) lc (va_up c9 (64 * y + Bf) ((k : Nat) : Int))) (rfl) dR_workOf_173 (fun H locs hP hD hS => ?_)
                  refine lv_aload_n hx hb dR_workOf_174 rfl (lv_at hl 4 rfl) ?_
                  refine va_get (D := (dC, dI)) (ci := 4) (C := RR) (T := FR) (N := 11) hx hb hts (fun w h => List.mem_cons_of_mem _ (inR w h)) hown hK hP 0 rfl rfl 9 (by decide) (hts _ (List.mem_cons_of_mem _ kw468)) (fun _ h9 => h9) rfl dR_workOf_175 ?_
                  refine lv_iload hx hb dR_workOf_178 (lv_at hl 9 rfl) ?_
                  refine lv_aload_n hx hb dR_workOf_180 rfl (lv_at hl 4 rfl) ?_
                  refine va_get (D := (dC, dI)) (ci := 4) (C := RR) (T := FR) (N := 11) hx hb hts (fun w h => List.mem_cons_of_mem _ (inR w h)) hown hK hP 0 rfl rfl 9 (by decide) (hts _ (List.mem_cons_of_mem _ kw468)) (fun _ h9 => h9) rfl dR_workOf_181 ?_
                  refine lv_iload hx hb dR_workOf_184 (lv_at hl 3 rfl) ?_
                  refine ialdN hx hb hK hP 8 0 rfl rfl (k := (64 * (y + 1) + k)) (by omega) (by decide) (v := nI (LC (64 * (y + 1) + k))) (by rw [hb2]) dR_workOf_186 ?_
                  refine iastN hx hb hK hP hD hS 8 0 rfl rfl (k := (64 * y + Bf)) (by omega) (by decide) (x := nI (LC (64 * (y + 1) + k))) (fun j => nI (va_up lc (64 * y + Bf) (LC (64 * (y + 1) + k)) j)) (fun j => by simp only [va_up]; split <;> rfl) (ws' := mcWR w cI cZ th n C G X D B bu (va_up lg (64 * y + Bf) (mc_gain G B k n + LG (64 * (y + 1) + k))) (va_up lc (64 * y + Bf) (LC (64 * (y + 1) + k))) (va_up c9 (64 * y + Bf) ((k : Nat) : Int))) (rfl) dR_workOf_187 (fun H locs hP hD hS => ?_)
                  refine lv_iinc (v := (nI (k + 1))) (lv' := [(6, .int (nI (k + 1))), (10, .int 1), (9, .int (iI (mc_gain G B k n + LG (64 * (y + 1) + k)))), (8, .int 1), (7, .int (nI (64 * (y + 1) + k))), (0, .ref (w 0)), (1, .int (nI y)), (2, .int (nI Bf)), (3, .int (nI N)), (4, .int (nI mo)), (5, .int (nI (64 * y + Bf)))]) hx hb dR_workOf_188 hl (k := 10) rfl (nI_1 k) (by decide) rfl (fun ls hl => ?_)
                  refine lv_goto (tgt := 19) hx hb dR_workOf_191 (by decide) ?_
                  exact ih (k + 1, va_up lg (64 * y + Bf) (mc_gain G B k n + LG (64 * (y + 1) + k)), va_up lc (64 * y + Bf) (LC (64 * (y + 1) + k)), va_up c9 (64 * y + Bf) ((k : Nat) : Int)) H locs ls (⟨hkn, by dsimp only; omega, ⟨fun i hi => by dsimp only [va_up]; rw [if_neg hi, if_neg hi, if_neg hi]; exact hI i hi, Or.inr ⟨k, by simp [va_up], mc_wn_take hJ hkn ⟨c3, c4⟩ c2, by simp [va_up], by simp [va_up]⟩⟩, hP, hD, hS⟩) (by dsimp only; omega) (lv_sub hl [5, 6, 7, 8, 9, 10, 0] rfl)
              · exact absurd (by decide) c6
    ·
      refine lv_icmp_ne (tgt := 68) hx hb dR_workOf_41 (by decide) (fun c2 => ?_) (fun c2 => ?_)
      · have c2 : ¬ mc_sub Bf k := fun h => c2 (by rw [mc_sub_and.mp h])
        refine lv_iconst (v := 0) hx hb dR_workOf_68 (by decide) ?_
        refine lv_istore (lv' := [(8, .int 0), (7, .int (nI (64 * (y + 1) + k))), (0, .ref (w 0)), (1, .int (nI y)), (2, .int (nI Bf)), (3, .int (nI N)), (4, .int (nI mo)), (5, .int (nI (64 * y + Bf))), (6, .int (nI k))]) hx hb dR_workOf_69 hl (by decide) rfl (fun ls hl => ?_)
        refine lv_iload hx hb dR_workOf_71 (lv_at hl 0 rfl) ?_
        refine lv_if_eq (tgt := 188) hx hb dR_workOf_73 (by decide) (fun cm => ?_) (fun cm => ?_)
        ·
          refine lv_iinc (v := (nI (k + 1))) (lv' := [(6, .int (nI (k + 1))), (8, .int 0), (7, .int (nI (64 * (y + 1) + k))), (0, .ref (w 0)), (1, .int (nI y)), (2, .int (nI Bf)), (3, .int (nI N)), (4, .int (nI mo)), (5, .int (nI (64 * y + Bf)))]) hx hb dR_workOf_188 hl (k := 8) rfl (nI_1 k) (by decide) rfl (fun ls hl => ?_)
          refine lv_goto (tgt := 19) hx hb dR_workOf_191 (by decide) ?_
          exact ih (k + 1, lg, lc, c9) H locs ls (⟨hkn, by dsimp only; omega, ⟨hI, Or.inr ⟨f, hc9, mc_wo_skip hJ (fun _ h => absurd h c2), hlg, hlc⟩⟩, hP, hD, hS⟩) (by dsimp only; omega) (lv_sub hl [3, 4, 5, 6, 7, 8, 0] rfl)
        · exact absurd (rfl : (0 : Int32) = 0) cm
      · have c2 : mc_sub Bf k := mc_sub_and.mpr ((nI_eq (by omega) (by omega)).mp c2)
        refine lv_aload_n hx hb dR_workOf_44 rfl (lv_at hl 1 rfl) ?_
        refine lv_iload hx hb dR_workOf_45 (lv_at hl 7 rfl) ?_
        refine callRV (As := [.int (nI k)]) (rest := []) ⟨hx, hb, hml, hown, hts⟩ tlB (c_R_costOf l dC dI w cI cZ th n C G X D B bu lg lc c9 k hn (by omega)) kw544 kw545 kw18 kw29 kw546 ⟨rfl, rfl⟩ (n := 1) (by decide +kernel) ⟨Nat.le_of_ble_eq_true rfl, Nat.le_of_ble_eq_true rfl⟩ (roP_preV hP hK (ci := 4) (q0 := 0) rfl rfl) rfl hl.1 rfl (Nat.le_of_ble_eq_true rfl) ⟨Nat.le_of_ble_eq_true rfl, Nat.le_of_ble_eq_true rfl⟩ dR_workOf_47 (fun r1 hr1 => ?_)
        subst hr1
        refine lv_iload hx hb dR_workOf_50 (lv_at hl 5 rfl) ?_
        refine lv_icmp_gt (tgt := 68) hx hb dR_workOf_52 (by decide) (fun c3 => ?_) (fun c3 => ?_)
        · have c3 := (nI_ltI (by omega) (by omega)).mp c3
          refine lv_iconst (v := 0) hx hb dR_workOf_68 (by decide) ?_
          refine lv_istore (lv' := [(8, .int 0), (7, .int (nI (64 * (y + 1) + k))), (0, .ref (w 0)), (1, .int (nI y)), (2, .int (nI Bf)), (3, .int (nI N)), (4, .int (nI mo)), (5, .int (nI (64 * y + Bf))), (6, .int (nI k))]) hx hb dR_workOf_69 hl (by decide) rfl (fun ls hl => ?_)
          refine lv_iload hx hb dR_workOf_71 (lv_at hl 0 rfl) ?_
          refine lv_if_eq (tgt := 188) hx hb dR_workOf_73 (by decide) (fun cm => ?_) (fun cm => ?_)
          ·
            refine lv_iinc (v := (nI (k + 1))) (lv' := [(6, .int (nI (k + 1))), (8, .int 0), (7, .int (nI (64 * (y + 1) + k))), (0, .ref (w 0)), (1, .int (nI y)), (2, .int (nI Bf)), (3, .int (nI N)), (4, .int (nI mo)), (5, .int (nI (64 * y + Bf)))]) hx hb dR_workOf_188 hl (k := 8) rfl (nI_1 k) (by decide) rfl (fun ls hl => ?_)
            refine lv_goto (tgt := 19) hx hb dR_workOf_191 (by decide) ?_
            exact ih (k + 1, lg, lc, c9) H locs ls (⟨hkn, by dsimp only; omega, ⟨hI, Or.inr ⟨f, hc9, mc_wo_skip hJ (fun ho _ => absurd ho.1 (by omega)), hlg, hlc⟩⟩, hP, hD, hS⟩) (by dsimp only; omega) (lv_sub hl [3, 4, 5, 6, 7, 8, 0] rfl)
          · exact absurd (rfl : (0 : Int32) = 0) cm
        · have c3 : mc_cost C k n ≤ mo := by
            rcases Nat.lt_or_ge mo (mc_cost C k n) with z | z
            · exact absurd ((nI_ltI (by omega) (by omega)).mpr z) c3
            · exact z
          refine lv_aload_n hx hb dR_workOf_55 rfl (lv_at hl 1 rfl) ?_
          refine lv_iload hx hb dR_workOf_56 (lv_at hl 7 rfl) ?_
          refine callRV (As := [.int (nI k)]) (rest := []) ⟨hx, hb, hml, hown, hts⟩ tlB (c_R_holds l dC dI w cI cZ th n C G X D B bu lg lc c9 k hn (by omega) hXn hDn) kw534 kw535 kw17 kw29 kw536 ⟨rfl, rfl⟩ (n := 1) (by decide +kernel) ⟨Nat.le_of_ble_eq_true rfl, Nat.le_of_ble_eq_true rfl⟩ (roP_preV hP hK (ci := 4) (q0 := 0) rfl rfl) rfl hl.1 rfl (Nat.le_of_ble_eq_true rfl) ⟨Nat.le_of_ble_eq_true rfl, Nat.le_of_ble_eq_true rfl⟩ dR_workOf_58 (fun r2 hr2 => ?_)
          refine lv_if_eq (tgt := 68) hx hb dR_workOf_61 (by decide) (fun c4 => ?_) (fun c4 => ?_)
          · have c4 := mcZ_f hr2 c4
            refine lv_iconst (v := 0) hx hb dR_workOf_68 (by decide) ?_
            refine lv_istore (lv' := [(8, .int 0), (7, .int (nI (64 * (y + 1) + k))), (0, .ref (w 0)), (1, .int (nI y)), (2, .int (nI Bf)), (3, .int (nI N)), (4, .int (nI mo)), (5, .int (nI (64 * y + Bf))), (6, .int (nI k))]) hx hb dR_workOf_69 hl (by decide) rfl (fun ls hl => ?_)
            refine lv_iload hx hb dR_workOf_71 (lv_at hl 0 rfl) ?_
            refine lv_if_eq (tgt := 188) hx hb dR_workOf_73 (by decide) (fun cm => ?_) (fun cm => ?_)
            ·
              refine lv_iinc (v := (nI (k + 1))) (lv' := [(6, .int (nI (k + 1))), (8, .int 0), (7, .int (nI (64 * (y + 1) + k))), (0, .ref (w 0)), (1, .int (nI y)), (2, .int (nI Bf)), (3, .int (nI N)), (4, .int (nI mo)), (5, .int (nI (64 * y + Bf)))]) hx hb dR_workOf_188 hl (k := 8) rfl (nI_1 k) (by decide) rfl (fun ls hl => ?_)
              refine lv_goto (tgt := 19) hx hb dR_workOf_191 (by decide) ?_
              exact ih (k + 1, lg, lc, c9) H locs ls (⟨hkn, by dsimp only; omega, ⟨hI, Or.inr ⟨f, hc9, mc_wo_skip hJ (fun ho _ => absurd ho.2 c4), hlg, hlc⟩⟩, hP, hD, hS⟩) (by dsimp only; omega) (lv_sub hl [3, 4, 5, 6, 7, 8, 0] rfl)
            · exact absurd (rfl : (0 : Int32) = 0) cm
          · have c4 := mcZ_t hr2 c4
            have hbk := hbd k hkn c3 c4
            refine lv_iconst (v := 1) hx hb dR_workOf_64 (by decide) ?_
            refine lv_goto (tgt := 69) hx hb dR_workOf_65 (by decide) ?_
            refine lv_istore (lv' := [(8, .int 1), (7, .int (nI (64 * (y + 1) + k))), (0, .ref (w 0)), (1, .int (nI y)), (2, .int (nI Bf)), (3, .int (nI N)), (4, .int (nI mo)), (5, .int (nI (64 * y + Bf))), (6, .int (nI k))]) hx hb dR_workOf_69 hl (by decide) rfl (fun ls hl => ?_)
            refine lv_iload hx hb dR_workOf_71 (lv_at hl 0 rfl) ?_
            refine lv_if_eq (tgt := 188) hx hb dR_workOf_73 (by decide) (fun c5 => ?_) (fun c5 => ?_)
            · exact absurd c5 (by decide)
            ·
              refine lv_aload_n hx hb dR_workOf_76 rfl (lv_at hl 2 rfl) ?_
              refine lv_iload hx hb dR_workOf_77 (lv_at hl 8 rfl) ?_
              refine callRV (As := [.int (nI k)]) (rest := []) ⟨hx, hb, hml, hown, hts⟩ tlB (c_R_gainOf l dC dI w cI cZ th n C G X D B bu lg lc c9 k hn (by omega)) kw547 kw548 kw19 kw29 kw549 ⟨rfl, rfl⟩ (n := 1) (by decide +kernel) ⟨Nat.le_of_ble_eq_true rfl, Nat.le_of_ble_eq_true rfl⟩ (roP_preV hP hK (ci := 4) (q0 := 0) rfl rfl) rfl hl.1 rfl (Nat.le_of_ble_eq_true rfl) ⟨Nat.le_of_ble_eq_true rfl, Nat.le_of_ble_eq_true rfl⟩ dR_workOf_79 (fun r3 hr3 => ?_)
              subst hr3
              refine lv_aload_n hx hb dR_workOf_82 rfl (lv_at hl 2 rfl) ?_
              refine va_get (D := (dC, dI)) (ci := 4) (C := RR) (T := FR) (N := 11) hx hb hts (fun w h => List.mem_cons_of_mem _ (inR w h)) hown hK hP 0 rfl rfl 8 (by decide) (hts _ (List.mem_cons_of_mem _ kw467)) (fun _ h9 => h9) rfl dR_workOf_83 ?_
              refine lv_iload hx hb dR_workOf_86 (lv_at hl 1 rfl) ?_
              refine ialdN hx hb hK hP 7 0 rfl rfl (k := (64 * (y + 1) + k)) (by omega) (by decide) (v := iI (LG (64 * (y + 1) + k))) (by rw [hb1]) dR_workOf_88 ?_
              refine lv_iadd hx hb dR_workOf_89 ?_
              refine lv_topi (fun y6 ey6 => ?_)
              have hy6 : y6 = iI (mc_gain G B k n + LG (64 * (y + 1) + k)) := by rw [ey6, iI_add]
              subst hy6
              refine lv_istore (lv' := [(9, .int (iI (mc_gain G B k n + LG (64 * (y + 1) + k)))), (8, .int 1), (7, .int (nI (64 * (y + 1) + k))), (0, .ref (w 0)), (1, .int (nI y)), (2, .int (nI Bf)), (3, .int (nI N)), (4, .int (nI mo)), (5, .int (nI (64 * y + Bf))), (6, .int (nI k))]) hx hb dR_workOf_90 hl (by decide) rfl (fun ls hl => ?_)
              refine lv_aload_n hx hb dR_workOf_92 rfl (lv_at hl 3 rfl) ?_
              refine va_get (D := (dC, dI)) (ci := 4) (C := RR) (T := FR) (N := 11) hx hb hts (fun w h => List.mem_cons_of_mem _ (inR w h)) hown hK hP 0 rfl rfl 10 (by decide) (hts _ (List.mem_cons_of_mem _ kw469)) (fun _ h9 => h9) rfl dR_workOf_93 ?_
              refine lv_iload hx hb dR_workOf_96 (lv_at hl 8 rfl) ?_
              refine ialdN hx hb hK hP 9 0 rfl rfl (k := (64 * y + Bf)) (by omega) (by decide) (v := iI (f : Int)) (by rw [hc9]) dR_workOf_98 ?_
              refine lv_iconst (v := (-1)) hx hb dR_workOf_99 (by decide) ?_
              refine lv_icmp_eq (tgt := 144) hx hb dR_workOf_100 (by decide) (fun c6 => ?_) (fun c6 => ?_)
              · exact absurd ((iI_nat f).symm.trans c6) (nI_nm1 (by have := hJ.1; omega))
              ·
                have hgf := mc_gain_le (S := f) hG hB n hn
                have hbf := hbd f hJ.2.1 hJ.2.2.1.1 hJ.2.2.1.2
                have gl := iI_lt (a := mc_gain G B f n + LG (64 * (y + 1) + f)) (b := mc_gain G B k n + LG (64 * (y + 1) + k)) (by omega) (by omega) (by omega) (by omega)
                have ge := iI_eq (a := mc_gain G B k n + LG (64 * (y + 1) + k)) (b := mc_gain G B f n + LG (64 * (y + 1) + f)) (by omega) (by omega) (by omega) (by omega)
                refine lv_iload hx hb dR_workOf_103 (lv_at hl 0 rfl) ?_
                refine lv_aload_n hx hb dR_workOf_105 rfl (lv_at hl 3 rfl) ?_
                refine va_get (D := (dC, dI)) (ci := 4) (C := RR) (T := FR) (N := 11) hx hb hts (fun w h => List.mem_cons_of_mem _ (inR w h)) hown hK hP 0 rfl rfl 8 (by decide) (hts _ (List.mem_cons_of_mem _ kw467)) (fun _ h9 => h9) rfl dR_workOf_106 ?_
                refine lv_iload hx hb dR_workOf_109 (lv_at hl 8 rfl) ?_
                refine ialdN hx hb hK hP 7 0 rfl rfl (k := (64 * y + Bf)) (by omega) (by decide) (v := iI (mc_gain G B f n + LG (64 * (y + 1) + f))) (by rw [hlg]) dR_workOf_111 ?_
                refine lv_icmp_gt (tgt := 144) hx hb dR_workOf_112 (by decide) (fun c7 => ?_) (fun c7 => ?_)
                · have c7 := gl.mp c7
                  refine lv_iconst (v := 1) hx hb dR_workOf_144 (by decide) ?_
                  refine lv_goto (tgt := 149) hx hb dR_workOf_145 (by decide) ?_
                  refine lv_istore (lv' := [(10, .int 1), (9, .int (iI (mc_gain G B k n + LG (64 * (y + 1) + k)))), (8, .int 1), (7, .int (nI (64 * (y + 1) + k))), (0, .ref (w 0)), (1, .int (nI y)), (2, .int (nI Bf)), (3, .int (nI N)), (4, .int (nI mo)), (5, .int (nI (64 * y + Bf))), (6, .int (nI k))]) hx hb dR_workOf_149 hl (by decide) rfl (fun ls hl => ?_)
                  refine lv_iload hx hb dR_workOf_151 (lv_at hl 0 rfl) ?_
                  refine lv_if_eq (tgt := 188) hx hb dR_workOf_153 (by decide) (fun cb => ?_) (fun cb => ?_)
                  · exact absurd cb (by decide)
                  ·
                    refine lv_aload_n hx hb dR_workOf_156 rfl (lv_at hl 4 rfl) ?_
                    refine va_get (D := (dC, dI)) (ci := 4) (C := RR) (T := FR) (N := 11) hx hb hts (fun w h => List.mem_cons_of_mem _ (inR w h)) hown hK hP 0 rfl rfl 10 (by decide) (hts _ (List.mem_cons_of_mem _ kw469)) (fun _ h9 => h9) rfl dR_workOf_157 ?_
                    refine lv_iload hx hb dR_workOf_160 (lv_at hl 9 rfl) ?_
                    refine lv_iload hx hb dR_workOf_162 (lv_at hl 10 rfl) ?_
                    refine lv_topi (fun yk eyk => ?_)
                    have hyk : yk = iI ((k : Nat) : Int) := by rw [eyk, iI_nat]
                    subst hyk
                    refine iastN hx hb hK hP hD hS 9 0 rfl rfl (k := (64 * y + Bf)) (by omega) (by decide) (x := iI ((k : Nat) : Int)) (fun j => iI (va_up c9 (64 * y + Bf) ((k : Nat) : Int) j)) (fun j => by simp only [va_up]; split <;> rfl) (ws' := mcWR w cI cZ th n C G X D B bu lg lc (va_up c9 (64 * y + Bf) ((k : Nat) : Int))) (rfl) dR_workOf_164 (fun H locs hP hD hS => ?_)
                    refine lv_aload_n hx hb dR_workOf_165 rfl (lv_at hl 4 rfl) ?_
                    refine va_get (D := (dC, dI)) (ci := 4) (C := RR) (T := FR) (N := 11) hx hb hts (fun w h => List.mem_cons_of_mem _ (inR w h)) hown hK hP 0 rfl rfl 8 (by decide) (hts _ (List.mem_cons_of_mem _ kw467)) (fun _ h9 => h9) rfl dR_workOf_166 ?_
                    refine lv_iload hx hb dR_workOf_169 (lv_at hl 9 rfl) ?_
                    refine lv_iload hx hb dR_workOf_171 (lv_at hl 1 rfl) ?_
                    refine iastN hx hb hK hP hD hS 7 0 rfl rfl (k := (64 * y + Bf)) (by omega) (by decide) (x := iI (mc_gain G B k n + LG (64 * (y + 1) + k))) (fun j => iI (va_up lg (64 * y + Bf) (mc_gain G B k n + LG (64 * (y + 1) + k)) j)) (fun j => by simp only [va_up]; split <;> rfl) (ws' := mcWR w cI cZ th n C G X D B bu (va_up lg (64 * y + Bf) (mc_gain G B k n + LG (64 * (y + 1) + k))) lc (va_up c9 (64 * y + Bf) ((k : Nat) : Int))) (rfl) dR_workOf_173 (fun H locs hP hD hS => ?_)
                    refine lv_aload_n hx hb dR_workOf_174 rfl (lv_at hl 4 rfl) ?_
                    refine va_get (D := (dC, dI)) (ci := 4) (C := RR) (T := FR) (N := 11) hx hb hts (fun w h => List.mem_cons_of_mem _ (inR w h)) hown hK hP 0 rfl rfl 9 (by decide) (hts _ (List.mem_cons_of_mem _ kw468)) (fun _ h9 => h9) rfl dR_workOf_175 ?_
                    refine lv_iload hx hb dR_workOf_178 (lv_at hl 9 rfl) ?_
                    refine lv_aload_n hx hb dR_workOf_180 rfl (lv_at hl 4 rfl) ?_
                    refine va_get (D := (dC, dI)) (ci := 4) (C := RR) (T := FR) (N := 11) hx hb hts (fun w h => List.mem_cons_of_mem _ (inR w h)) hown hK hP 0 rfl rfl 9 (by decide) (hts _ (List.mem_cons_of_mem _ kw468)) (fun _ h9 => h9) rfl dR_workOf_181 ?_
                    refine lv_iload hx hb dR_workOf_184 (lv_at hl 3 rfl) ?_
                    refine ialdN hx hb hK hP 8 0 rfl rfl (k := (64 * (y + 1) + k)) (by omega) (by decide) (v := nI (LC (64 * (y + 1) + k))) (by rw [hb2]) dR_workOf_186 ?_
                    refine iastN hx hb hK hP hD hS 8 0 rfl rfl (k := (64 * y + Bf)) (by omega) (by decide) (x := nI (LC (64 * (y + 1) + k))) (fun j => nI (va_up lc (64 * y + Bf) (LC (64 * (y + 1) + k)) j)) (fun j => by simp only [va_up]; split <;> rfl) (ws' := mcWR w cI cZ th n C G X D B bu (va_up lg (64 * y + Bf) (mc_gain G B k n + LG (64 * (y + 1) + k))) (va_up lc (64 * y + Bf) (LC (64 * (y + 1) + k))) (va_up c9 (64 * y + Bf) ((k : Nat) : Int))) (rfl) dR_workOf_187 (fun H locs hP hD hS => ?_)
                    refine lv_iinc (v := (nI (k + 1))) (lv' := [(6, .int (nI (k + 1))), (10, .int 1), (9, .int (iI (mc_gain G B k n + LG (64 * (y + 1) + k)))), (8, .int 1), (7, .int (nI (64 * (y + 1) + k))), (0, .ref (w 0)), (1, .int (nI y)), (2, .int (nI Bf)), (3, .int (nI N)), (4, .int (nI mo)), (5, .int (nI (64 * y + Bf)))]) hx hb dR_workOf_188 hl (k := 10) rfl (nI_1 k) (by decide) rfl (fun ls hl => ?_)
                    refine lv_goto (tgt := 19) hx hb dR_workOf_191 (by decide) ?_
                    exact ih (k + 1, va_up lg (64 * y + Bf) (mc_gain G B k n + LG (64 * (y + 1) + k)), va_up lc (64 * y + Bf) (LC (64 * (y + 1) + k)), va_up c9 (64 * y + Bf) ((k : Nat) : Int)) H locs ls (⟨hkn, by dsimp only; omega, ⟨fun i hi => by dsimp only [va_up]; rw [if_neg hi, if_neg hi, if_neg hi]; exact hI i hi, Or.inr ⟨k, by simp [va_up], mc_wo_take hJ hkn ⟨c3, c4⟩ c2 (Or.inl c7), by simp [va_up], by simp [va_up]⟩⟩, hP, hD, hS⟩) (by dsimp only; omega) (lv_sub hl [5, 6, 7, 8, 9, 10, 0] rfl)
                · have c7 : ¬ mc_gain G B f n + LG (64 * (y + 1) + f) < mc_gain G B k n + LG (64 * (y + 1) + k) := fun h => c7 (gl.mpr h)
                  refine lv_iload hx hb dR_workOf_115 (lv_at hl 0 rfl) ?_
                  refine lv_aload_n hx hb dR_workOf_117 rfl (lv_at hl 3 rfl) ?_
                  refine va_get (D := (dC, dI)) (ci := 4) (C := RR) (T := FR) (N := 11) hx hb hts (fun w h => List.mem_cons_of_mem _ (inR w h)) hown hK hP 0 rfl rfl 8 (by decide) (hts _ (List.mem_cons_of_mem _ kw467)) (fun _ h9 => h9) rfl dR_workOf_118 ?_
                  refine lv_iload hx hb dR_workOf_121 (lv_at hl 8 rfl) ?_
                  refine ialdN hx hb hK hP 7 0 rfl rfl (k := (64 * y + Bf)) (by omega) (by decide) (v := iI (mc_gain G B f n + LG (64 * (y + 1) + f))) (by rw [hlg]) dR_workOf_123 ?_
                  refine lv_icmp_ne (tgt := 148) hx hb dR_workOf_124 (by decide) (fun c8 => ?_) (fun c8 => ?_)
                  · have c8 : ¬ mc_gain G B k n + LG (64 * (y + 1) + k) = mc_gain G B f n + LG (64 * (y + 1) + f) := fun h => c8 (ge.mpr h)
                    refine lv_iconst (v := 0) hx hb dR_workOf_148 (by decide) ?_
                    refine lv_istore (lv' := [(10, .int 0), (9, .int (iI (mc_gain G B k n + LG (64 * (y + 1) + k)))), (8, .int 1), (7, .int (nI (64 * (y + 1) + k))), (0, .ref (w 0)), (1, .int (nI y)), (2, .int (nI Bf)), (3, .int (nI N)), (4, .int (nI mo)), (5, .int (nI (64 * y + Bf))), (6, .int (nI k))]) hx hb dR_workOf_149 hl (by decide) rfl (fun ls hl => ?_)
                    refine lv_iload hx hb dR_workOf_151 (lv_at hl 0 rfl) ?_
                    refine lv_if_eq (tgt := 188) hx hb dR_workOf_153 (by decide) (fun cb => ?_) (fun cb => ?_)
                    ·
                      refine lv_iinc (v := (nI (k + 1))) (lv' := [(6, .int (nI (k + 1))), (10, .int 0), (9, .int (iI (mc_gain G B k n + LG (64 * (y + 1) + k)))), (8, .int 1), (7, .int (nI (64 * (y + 1) + k))), (0, .ref (w 0)), (1, .int (nI y)), (2, .int (nI Bf)), (3, .int (nI N)), (4, .int (nI mo)), (5, .int (nI (64 * y + Bf)))]) hx hb dR_workOf_188 hl (k := 10) rfl (nI_1 k) (by decide) rfl (fun ls hl => ?_)
                      refine lv_goto (tgt := 19) hx hb dR_workOf_191 (by decide) ?_
                      exact ih (k + 1, lg, lc, c9) H locs ls (⟨hkn, by dsimp only; omega, ⟨hI, Or.inr ⟨f, hc9, mc_wo_skip hJ (fun _ _ h => by rcases h with h | ⟨h, -⟩; exact c7 h; exact c8 h), hlg, hlc⟩⟩, hP, hD, hS⟩) (by dsimp only; omega) (lv_sub hl [5, 6, 7, 8, 9, 10, 0] rfl)
                    · exact absurd (rfl : (0 : Int32) = 0) cb
                  · have c8 := ge.mp c8
                    refine lv_aload_n hx hb dR_workOf_127 rfl (lv_at hl 3 rfl) ?_
                    refine va_get (D := (dC, dI)) (ci := 4) (C := RR) (T := FR) (N := 11) hx hb hts (fun w h => List.mem_cons_of_mem _ (inR w h)) hown hK hP 0 rfl rfl 9 (by decide) (hts _ (List.mem_cons_of_mem _ kw468)) (fun _ h9 => h9) rfl dR_workOf_128 ?_
                    refine lv_iload hx hb dR_workOf_131 (lv_at hl 2 rfl) ?_
                    refine ialdN hx hb hK hP 8 0 rfl rfl (k := (64 * (y + 1) + k)) (by omega) (by decide) (v := nI (LC (64 * (y + 1) + k))) (by rw [hb2]) dR_workOf_133 ?_
                    refine lv_aload_n hx hb dR_workOf_134 rfl (lv_at hl 3 rfl) ?_
                    refine va_get (D := (dC, dI)) (ci := 4) (C := RR) (T := FR) (N := 11) hx hb hts (fun w h => List.mem_cons_of_mem _ (inR w h)) hown hK hP 0 rfl rfl 9 (by decide) (hts _ (List.mem_cons_of_mem _ kw468)) (fun _ h9 => h9) rfl dR_workOf_135 ?_
                    refine lv_iload hx hb dR_workOf_138 (lv_at hl 8 rfl) ?_
                    refine ialdN hx hb hK hP 8 0 rfl rfl (k := (64 * y + Bf)) (by omega) (by decide) (v := nI (LC (64 * (y + 1) + f))) (by rw [hlc]) dR_workOf_140 ?_
                    refine lv_icmp_ge (tgt := 148) hx hb dR_workOf_141 (by decide) (fun d1 => ?_) (fun d1 => ?_)
                    · have d1 := (nI_leI (by omega) (by omega)).mp d1
                      refine lv_iconst (v := 0) hx hb dR_workOf_148 (by decide) ?_
                      refine lv_istore (lv' := [(10, .int 0), (9, .int (iI (mc_gain G B k n + LG (64 * (y + 1) + k)))), (8, .int 1), (7, .int (nI (64 * (y + 1) + k))), (0, .ref (w 0)), (1, .int (nI y)), (2, .int (nI Bf)), (3, .int (nI N)), (4, .int (nI mo)), (5, .int (nI (64 * y + Bf))), (6, .int (nI k))]) hx hb dR_workOf_149 hl (by decide) rfl (fun ls hl => ?_)
                      refine lv_iload hx hb dR_workOf_151 (lv_at hl 0 rfl) ?_
                      refine lv_if_eq (tgt := 188) hx hb dR_workOf_153 (by decide) (fun cb => ?_) (fun cb => ?_)
                      ·
                        refine lv_iinc (v := (nI (k + 1))) (lv' := [(6, .int (nI (k + 1))), (10, .int 0), (9, .int (iI (mc_gain G B k n + LG (64 * (y + 1) + k)))), (8, .int 1), (7, .int (nI (64 * (y + 1) + k))), (0, .ref (w 0)), (1, .int (nI y)), (2, .int (nI Bf)), (3, .int (nI N)), (4, .int (nI mo)), (5, .int (nI (64 * y + Bf)))]) hx hb dR_workOf_188 hl (k := 10) rfl (nI_1 k) (by decide) rfl (fun ls hl => ?_)
                        refine lv_goto (tgt := 19) hx hb dR_workOf_191 (by decide) ?_
                        exact ih (k + 1, lg, lc, c9) H locs ls (⟨hkn, by dsimp only; omega, ⟨hI, Or.inr ⟨f, hc9, mc_wo_skip hJ (fun _ _ h => by rcases h with h | ⟨-, h⟩; exact c7 h; omega), hlg, hlc⟩⟩, hP, hD, hS⟩) (by dsimp only; omega) (lv_sub hl [5, 6, 7, 8, 9, 10, 0] rfl)
                      · exact absurd (rfl : (0 : Int32) = 0) cb
                    · have d1 : LC (64 * (y + 1) + k) < LC (64 * (y + 1) + f) := by
                        rcases Nat.lt_or_ge (LC (64 * (y + 1) + k)) (LC (64 * (y + 1) + f)) with z | z
                        · exact z
                        · exact absurd ((nI_leI (by omega) (by omega)).mpr z) d1
                      refine lv_iconst (v := 1) hx hb dR_workOf_144 (by decide) ?_
                      refine lv_goto (tgt := 149) hx hb dR_workOf_145 (by decide) ?_
                      refine lv_istore (lv' := [(10, .int 1), (9, .int (iI (mc_gain G B k n + LG (64 * (y + 1) + k)))), (8, .int 1), (7, .int (nI (64 * (y + 1) + k))), (0, .ref (w 0)), (1, .int (nI y)), (2, .int (nI Bf)), (3, .int (nI N)), (4, .int (nI mo)), (5, .int (nI (64 * y + Bf))), (6, .int (nI k))]) hx hb dR_workOf_149 hl (by decide) rfl (fun ls hl => ?_)
                      refine lv_iload hx hb dR_workOf_151 (lv_at hl 0 rfl) ?_
                      refine lv_if_eq (tgt := 188) hx hb dR_workOf_153 (by decide) (fun cb => ?_) (fun cb => ?_)
                      · exact absurd cb (by decide)
                      ·
                        refine lv_aload_n hx hb dR_workOf_156 rfl (lv_at hl 4 rfl) ?_
                        refine va_get (D := (dC, dI)) (ci := 4) (C := RR) (T := FR) (N := 11) hx hb hts (fun w h => List.mem_cons_of_mem _ (inR w h)) hown hK hP 0 rfl rfl 10 (by decide) (hts _ (List.mem_cons_of_mem _ kw469)) (fun _ h9 => h9) rfl dR_workOf_157 ?_
                        refine lv_iload hx hb dR_workOf_160 (lv_at hl 9 rfl) ?_
                        refine lv_iload hx hb dR_workOf_162 (lv_at hl 10 rfl) ?_
                        refine lv_topi (fun yk eyk => ?_)
                        have hyk : yk = iI ((k : Nat) : Int) := by rw [eyk, iI_nat]
                        subst hyk
                        refine iastN hx hb hK hP hD hS 9 0 rfl rfl (k := (64 * y + Bf)) (by omega) (by decide) (x := iI ((k : Nat) : Int)) (fun j => iI (va_up c9 (64 * y + Bf) ((k : Nat) : Int) j)) (fun j => by simp only [va_up]; split <;> rfl) (ws' := mcWR w cI cZ th n C G X D B bu lg lc (va_up c9 (64 * y + Bf) ((k : Nat) : Int))) (rfl) dR_workOf_164 (fun H locs hP hD hS => ?_)
                        refine lv_aload_n hx hb dR_workOf_165 rfl (lv_at hl 4 rfl) ?_
                        refine va_get (D := (dC, dI)) (ci := 4) (C := RR) (T := FR) (N := 11) hx hb hts (fun w h => List.mem_cons_of_mem _ (inR w h)) hown hK hP 0 rfl rfl 8 (by decide) (hts _ (List.mem_cons_of_mem _ kw467)) (fun _ h9 => h9) rfl dR_workOf_166 ?_
                        refine lv_iload hx hb dR_workOf_169 (lv_at hl 9 rfl) ?_
                        refine lv_iload hx hb dR_workOf_171 (lv_at hl 1 rfl) ?_
                        refine iastN hx hb hK hP hD hS 7 0 rfl rfl (k := (64 * y + Bf)) (by omega) (by decide) (x := iI (mc_gain G B k n + LG (64 * (y + 1) + k))) (fun j => iI (va_up lg (64 * y + Bf) (mc_gain G B k n + LG (64 * (y + 1) + k)) j)) (fun j => by simp only [va_up]; split <;> rfl) (ws' := mcWR w cI cZ th n C G X D B bu (va_up lg (64 * y + Bf) (mc_gain G B k n + LG (64 * (y + 1) + k))) lc (va_up c9 (64 * y + Bf) ((k : Nat) : Int))) (rfl) dR_workOf_173 (fun H locs hP hD hS => ?_)
                        refine lv_aload_n hx hb dR_workOf_174 rfl (lv_at hl 4 rfl) ?_
                        refine va_get (D := (dC, dI)) (ci := 4) (C := RR) (T := FR) (N := 11) hx hb hts (fun w h => List.mem_cons_of_mem _ (inR w h)) hown hK hP 0 rfl rfl 9 (by decide) (hts _ (List.mem_cons_of_mem _ kw468)) (fun _ h9 => h9) rfl dR_workOf_175 ?_
                        refine lv_iload hx hb dR_workOf_178 (lv_at hl 9 rfl) ?_
                        refine lv_aload_n hx hb dR_workOf_180 rfl (lv_at hl 4 rfl) ?_
                        refine va_get (D := (dC, dI)) (ci := 4) (C := RR) (T := FR) (N := 11) hx hb hts (fun w h => List.mem_cons_of_mem _ (inR w h)) hown hK hP 0 rfl rfl 9 (by decide) (hts _ (List.mem_cons_of_mem _ kw468)) (fun _ h9 => h9) rfl dR_workOf_181 ?_
                        refine lv_iload hx hb dR_workOf_184 (lv_at hl 3 rfl) ?_
                        refine ialdN hx hb hK hP 8 0 rfl rfl (k := (64 * (y + 1) + k)) (by omega) (by decide) (v := nI (LC (64 * (y + 1) + k))) (by rw [hb2]) dR_workOf_186 ?_
                        refine iastN hx hb hK hP hD hS 8 0 rfl rfl (k := (64 * y + Bf)) (by omega) (by decide) (x := nI (LC (64 * (y + 1) + k))) (fun j => nI (va_up lc (64 * y + Bf) (LC (64 * (y + 1) + k)) j)) (fun j => by simp only [va_up]; split <;> rfl) (ws' := mcWR w cI cZ th n C G X D B bu (va_up lg (64 * y + Bf) (mc_gain G B k n + LG (64 * (y + 1) + k))) (va_up lc (64 * y + Bf) (LC (64 * (y + 1) + k))) (va_up c9 (64 * y + Bf) ((k : Nat) : Int))) (rfl) dR_workOf_187 (fun H locs hP hD hS => ?_)
                        refine lv_iinc (v := (nI (k + 1))) (lv' := [(6, .int (nI (k + 1))), (10, .int 1), (9, .int (iI (mc_gain G B k n + LG (64 * (y + 1) + k)))), (8, .int 1), (7, .int (nI (64 * (y + 1) + k))), (0, .ref (w 0)), (1, .int (nI y)), (2, .int (nI Bf)), (3, .int (nI N)), (4, .int (nI mo)), (5, .int (nI (64 * y + Bf)))]) hx hb dR_workOf_188 hl (k := 10) rfl (nI_1 k) (by decide) rfl (fun ls hl => ?_)
                        refine lv_goto (tgt := 19) hx hb dR_workOf_191 (by decide) ?_
                        exact ih (k + 1, va_up lg (64 * y + Bf) (mc_gain G B k n + LG (64 * (y + 1) + k)), va_up lc (64 * y + Bf) (LC (64 * (y + 1) + k)), va_up c9 (64 * y + Bf) ((k : Nat) : Int)) H locs ls (⟨hkn, by dsimp only; omega, ⟨fun i hi => by dsimp only [va_up]; rw [if_neg hi, if_neg hi, if_neg hi]; exact hI i hi, Or.inr ⟨k, by simp [va_up], mc_wo_take hJ hkn ⟨c3, c4⟩ c2 (Or.inr ⟨c8, d1⟩), by simp [va_up], by simp [va_up]⟩⟩, hP, hD, hS⟩) (by dsimp only; omega) (lv_sub hl [5, 6, 7, 8, 9, 10, 0] rfl)
