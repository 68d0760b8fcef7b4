/-! the reference: work -/
/-- a place where roads meet -/
theorem mcCut {p : Program} {l : Launch} {e : Env} {R : Room} {s : State} {m : MethodId} {args : Array Value} {below : List Frame} {meth : Method} {c : Code} {H : Heap} {locs : List Loc} {cells slots : Nat} {Q : State → Prop} {nL pc : Nat} {ls0 : Array Slot} {st0 : List Value} (pc2 : Nat) (st2 : List Value) (lv : List (Nat × Value))
    (K : ∀ ls : Array Slot, lv_has ls nL lv → W p l e R s m args below meth c H locs cells slots Q (F0 m pc2 ls st2)) (k : (∀ ls : Array Slot, lv_has ls nL lv → W p l e R s m args below meth c H locs cells slots Q (F0 m pc2 ls st2)) → W p l e R s m args below meth c H locs cells slots Q (F0 m pc ls0 st0)) : W p l e R s m args below meth c H locs cells slots Q (F0 m pc ls0 st0) := k K
def mc_rq (n : Nat) (C G X D : Nat → Nat) (B : Nat → Nat → Int) (mo N y : Nat) (LG : Nat → Int) (LC : Nat → Nat) (ch : Nat → Int) (Bf : Nat) : Prop :=
  ∃ f : Nat, ch (64 * y + Bf) = (f : Int) ∧ mc_pick N (fun S => mc_cost C S n ≤ mo ∧ mc_law n X D S) (fun S => mc_gain G B S n + LG (64 * (y + 1) + S)) (fun S => LC (64 * (y + 1) + S)) Bf f ∧ LG (64 * y + Bf) = mc_gain G B f n + LG (64 * (y + 1) + f) ∧ LC (64 * y + Bf) = LC (64 * (y + 1) + f)
theorem mc_rq_congr {n : Nat} {C G X D : Nat → Nat} {B : Nat → Nat → Int} {mo N y : Nat} {LG LG' : Nat → Int} {LC LC' : Nat → Nat} {ch ch' : Nat → Int} {Bf : Nat} (h : mc_rq n C G X D B mo N y LG LC ch Bf) (h1 : ∀ i, 64 * (y + 1) ≤ i → LG' i = LG i ∧ LC' i = LC i) (h2 : LG' (64 * y + Bf) = LG (64 * y + Bf) ∧ LC' (64 * y + Bf) = LC (64 * y + Bf) ∧ ch' (64 * y + Bf) = ch (64 * y + Bf)) : mc_rq n C G X D B mo N y LG' LC' ch' Bf := by
  obtain ⟨f, a1, a2, a3, a4⟩ := h
  have e1 : (fun S => mc_gain G B S n + LG' (64 * (y + 1) + S)) = (fun S => mc_gain G B S n + LG (64 * (y + 1) + S)) := funext fun S => by rw [(h1 _ (by omega)).1]
  have e2 : (fun S => LC' (64 * (y + 1) + S)) = (fun S => LC (64 * (y + 1) + S)) := funext fun S => by rw [(h1 _ (by omega)).2]
  refine ⟨f, by rw [h2.2.2]; exact a1, by rw [e1, e2]; exact a2, ?_, ?_⟩
  · rw [h2.1, (h1 _ (by omega)).1]; exact a3
  · rw [h2.2.1, (h1 _ (by omega)).2]; exact a4
def mc_rp (n : Nat) (C G X D : Nat → Nat) (B : Nat → Nat → Int) (bu : Nat → Nat) (N Y y0 : Nat) (LG : Nat → Int) (LC : Nat → Nat) (ch : Nat → Int) : Prop :=
  (∀ S, S < N → LG (64 * Y + S) = 0 ∧ LC (64 * Y + S) = mc_cost C S n) ∧ ∀ y, y0 ≤ y → y < Y → ∀ Bf, Bf < N → mc_cost C Bf n ≤ mc_pur bu (y + 1) → mc_law n X D Bf → mc_rq n C G X D B (mc_pur bu (y + 1)) N y LG LC ch Bf
theorem mc_rp_bd {n : Nat} {C G X D : Nat → Nat} {B : Nat → Nat → Int} {bu : Nat → Nat} {N Y y0 : Nat} {LG : Nat → Int} {LC : Nat → Nat} {ch : Nat → Int} (h : mc_rp n C G X D B bu N Y y0 LG LC ch) (hn : n ≤ 12) (hC : ∀ m, C m ≤ 10000) (hG : ∀ m, G m ≤ 10000) (hB : ∀ i j, -5000 ≤ B i j ∧ B i j ≤ 5000) :
    ∀ k y, y + k = Y → y0 ≤ y → ∀ S, S < N → (y < Y → mc_cost C S n ≤ mc_pur bu (y + 1) ∧ mc_law n X D S) → (-900000 * (k : Int) ≤ LG (64 * y + S) ∧ LG (64 * y + S) ≤ 900000 * (k : Int)) ∧ LC (64 * y + S) ≤ 120000 := by
  intro k
  induction k with
  | zero =>
    intro y hy _ S hS _
    have : y = Y := by omega
    subst this
    have := h.1 S hS
    have h2 := mc_cost_le (S := S) hC n
    rw [this.1, this.2]
    omega
  | succ k ih =>
    intro y hy hy0 S hS ho
    obtain ⟨o1, o2⟩ := ho (by omega)
    obtain ⟨f, a1, a2, a3, a4⟩ := h.2 y hy0 (by omega) S hS o1 o2
    have h2 := ih (y + 1) (by omega) (by omega) f a2.1 (fun _ => ⟨Nat.le_trans a2.2.1.1 (Nat.le_add_right _ _), a2.2.1.2⟩)
    have h3 := mc_gain_le (S := f) hG hB n hn
    rw [a3, a4]
    omega
set_option maxHeartbeats 4000000 in
set_option maxRecDepth 100000 in
theorem c_R_work (l : Launch) (dC : Nat → ClassId) (dI : Nat → Nat → Nat) (w : Nat → Nat) (cI cZ : ClassId) (th n : Nat) (C G X D : Nat → Nat) (B : Nat → Nat → Int) (bu : Nat → Nat) (LG : Nat → Int) (LC : Nat → Nat) (ch : Nat → Int) (sz : Nat) (hn : n ≤ 12) (hC : ∀ m, C m ≤ 10000) (hG : ∀ m, G m ≤ 10000) (hB : ∀ i j, -5000 ≤ B i j ∧ B i j ≤ 5000) (hXn : ∀ m j, (X m).testBit j = true → j < n) (hDn : ∀ m j, (D m).testBit j = true → j < n) (Y : Nat) (hY1 : 1 ≤ Y) (hY4 : Y ≤ 4) (hbu : ∀ y, bu y ≤ 100000) : Met l yR_work wdR_work ({ frames := 3, cells := 0, slots := 0, locals := 75 }) (wrP (dC, dI) mcCl (mcWR w cI cZ th n C G X D B bu LG LC ch) (mcTR cI cZ) sz [.ref (w 0), .int (nI Y)]) (va_Qv (fun x : (Nat → Int) × (Nat → Nat) × (Nat → Int) => mc_rp n C G X D B bu (2 ^ mc_m6 n) Y 0 x.1 x.2.1 x.2.2) (fun x t => va_P (dC, dI) mcCl (mcWR w cI cZ th n C G X D B bu x.1 x.2.1 x.2.2) t.heap ∧ va_K (dC, dI) mcCl (mcTR cI cZ) t ∧ va_D (va_A (mcWR w cI cZ th n C G X D B bu LG LC ch) sz) (mcWR w cI cZ th n C G X D B bu x.1 x.2.1 x.2.2)) (va_A (mcWR w cI cZ th n C G X D B bu LG LC ch) sz)) 0 0 (va_A (mcWR w cI cZ th n C G X D B bu LG LC ch) sz) := by
  refine Met.ofW (cc := bR_work) (maxL := 6) (ret := none) (by decide) rfl ?_
  intro p e s m args below meth c s₁ BB hml hv
  obtain ⟨rfl, hsz, hP, hK, hD0⟩ := hv
  have hx := BB.exec
  have hb := BB.bytes
  have hr := BB.returns
  have hts := atoms_spec (ws := wdR_work) BB.pre
  have hown : s.vm.findClass RR = some m.cls := findClass_of_methodNamed BB.named
  have hlocks := BB.notSynchronized
  subst hsz
  have hD := hD0.self (sz := s.heap.size)
  generalize hAe : va_A (mcWR w cI cZ th n C G X D B bu LG LC ch) s.heap.size = A at hD ⊢
  have hA : ∀ q : Nat, s.heap.size ≤ q → A q := fun q h => by rw [← hAe]; exact Or.inr h
  have hS : va_S A s.heap s.heap [] := va_S.rf
  have hl := lv_entry ([.ref (w 0), .int (nI Y)]) (n := 6) (Nat.le_of_ble_eq_true rfl)
  rw [lg_entry_eq]
  generalize (lg_sl ([.ref (w 0), .int (nI Y)]) ++ List.replicate (6 - (lg_sl ([.ref (w 0), .int (nI Y)])).length) Slot.unset).toArray = ls at hl ⊢
  have hl : lv_has ls 6 [(0, .ref (w 0)), (1, .int (nI Y))] := hl
  have h6 := mc_m6_le (n := n)
  have hp6 : 2 ^ mc_m6 n ≤ 2 ^ 6 := Nat.pow_le_pow_right (by decide) h6.1
  refine mcCut (nL := 6) 19 [.int (nI (mc_m6 n)), .int 1] [(0, .ref (w 0)), (1, .int (nI Y))] (fun ls hl => ?_) (fun K9 => ?_)
  ·
    refine lv_ishl hx hb dR_work_19 ?_
    refine lv_topi (fun y1 ey1 => ?_)
    have hy1 : y1 = nI (2 ^ mc_m6 n) := by rw [ey1, nI_bit (by omega)]
    subst hy1
    refine lv_istore_n (lv' := [(2, .int (nI (2 ^ mc_m6 n))), (0, .ref (w 0)), (1, .int (nI Y))]) hx hb dR_work_20 rfl hl (by decide) rfl (fun ls hl => ?_)
    refine lv_iconst (v := 0) hx hb dR_work_21 (by decide) ?_
    refine lv_istore_n (lv' := [(3, .int 0), (2, .int (nI (2 ^ mc_m6 n))), (0, .ref (w 0)), (1, .int (nI Y))]) hx hb dR_work_22 rfl hl (by decide) rfl (fun ls hl => ?_)
    refine lpW (σ := Nat × (Nat → Int) × (Nat → Nat)) (fun x H locs => x.1 ≤ (2 ^ mc_m6 n) ∧ (∀ S, S < x.1 → x.2.1 (64 * Y + S) = 0 ∧ x.2.2 (64 * Y + S) = mc_cost C S n) ∧ va_P (dC, dI) mcCl (mcWR w cI cZ th n C G X D B bu x.2.1 x.2.2 ch) H ∧ va_D A (mcWR w cI cZ th n C G X D B bu x.2.1 x.2.2 ch) ∧ va_S A s.heap H locs) (fun x => [(0, .ref (w 0)), (1, .int (nI Y)), (2, .int (nI (2 ^ mc_m6 n))), (3, .int (nI x.1))]) (fun x => (2 ^ mc_m6 n) - x.1) (fun x H locs ls hI hl ih => ?_) ((0, LG, LC)) _ _ ls (⟨Nat.zero_le _, fun S h => absurd h (Nat.not_lt_zero S), hP, hD, hS⟩) (lv_sub hl [2, 3, 1, 0] rfl)
    obtain ⟨k, lg, lc⟩ := x
    have hl : lv_has ls 6 [(0, .ref (w 0)), (1, .int (nI Y)), (2, .int (nI (2 ^ mc_m6 n))), (3, .int (nI k))] := hl
    obtain ⟨hk, hI, hP, hD, hS⟩ := hI
    dsimp only at hk hI hP hD
    refine lv_iload_n hx hb dR_work_23 rfl (lv_at hl 3 rfl) ?_
    refine lv_iload_n hx hb dR_work_24 rfl (lv_at hl 2 rfl) ?_
    refine lv_icmp_ge (tgt := 62) hx hb dR_work_25 (by decide) (fun c1 => ?_) (fun c1 => ?_)
    · have hkn : k = (2 ^ mc_m6 n) := by have := (nI_leI (by omega) (by omega)).mp c1; omega
      rw [hkn] at hI
      refine lv_iload_n hx hb dR_work_62 rfl (lv_at hl 1 rfl) ?_
      refine lv_iconst (v := 1) hx hb dR_work_63 (by decide) ?_
      refine lv_isub hx hb dR_work_64 ?_
      refine lv_topi (fun y2 ey2 => ?_)
      have hy2 : y2 = iI ((Y : Int) - 1) := by rw [ey2, ← iI_nat, show (1 : Int32) = iI 1 from rfl, iI_sub]
      subst hy2
      refine lv_istore_n (lv' := [(3, .int (iI ((Y : Int) - 1))), (0, .ref (w 0)), (1, .int (nI Y)), (2, .int (nI (2 ^ mc_m6 n)))]) hx hb dR_work_65 rfl hl (by decide) rfl (fun ls hl => ?_)
      refine lpW (σ := Nat × (Nat → Int) × (Nat → Nat) × (Nat → Int)) (fun x H locs => x.1 ≤ Y ∧ mc_rp n C G X D B bu (2 ^ mc_m6 n) Y x.1 x.2.1 x.2.2.1 x.2.2.2 ∧ va_P (dC, dI) mcCl (mcWR w cI cZ th n C G X D B bu x.2.1 x.2.2.1 x.2.2.2) H ∧ va_D A (mcWR w cI cZ th n C G X D B bu x.2.1 x.2.2.1 x.2.2.2) ∧ va_S A s.heap H locs) (fun x => [(0, .ref (w 0)), (1, .int (nI Y)), (2, .int (nI (2 ^ mc_m6 n))), (3, .int (iI ((x.1 : Int) - 1)))]) (fun x => x.1) (fun x H locs ls hI hl ih => ?_) ((Y, lg, lc, ch)) _ _ ls (⟨Nat.le_refl _, ⟨hI, fun y h1 h2 => absurd h2 (by omega)⟩, hP, hD, hS⟩) (lv_sub hl [1, 2, 3, 0] rfl)
      obtain ⟨yy, lg2, lc2, c2⟩ := x
      have hl : lv_has ls 6 [(0, .ref (w 0)), (1, .int (nI Y)), (2, .int (nI (2 ^ mc_m6 n))), (3, .int (iI ((yy : Int) - 1)))] := hl
      obtain ⟨hyy, hrp, hP, hD, hS⟩ := hI
      dsimp only at hyy hrp hP hD
      refine lv_iload_n hx hb dR_work_66 rfl (lv_at hl 3 rfl) ?_
      refine lv_if_lt (tgt := 131) hx hb dR_work_67 (by decide) (fun d1 => ?_) (fun d1 => ?_)
      · have h0 : yy = 0 := by
          rw [show (0 : Int32) = iI 0 from rfl, iI_lt (by omega) (by omega) (by omega) (by omega)] at d1
          omega
        rw [h0] at hrp
        exact W.vret hx hb hr (fun t ht hW => ⟨⟨(lg2, lc2, c2), rfl, hrp, by rw [ht]; exact hP, va_K.moved hW.alike hK, hD⟩, hS.F ht⟩) hS.2.2 dR_work_131
      · have h0 : 0 < yy := by
          rcases Nat.eq_zero_or_pos yy with z | z
          · exact absurd (by rw [z]; decide) d1
          · exact z
        obtain ⟨y, rfl⟩ : ∃ y, yy = y + 1 := ⟨yy - 1, by omega⟩
        have e3 : iI (((y + 1 : Nat) : Int) - 1) = nI y := by rw [← iI_nat]; congr 1; omega
        rw [e3] at hl
        have ihY := ih
        have hl : lv_has ls 6 [(0, .ref (w 0)), (1, .int (nI Y)), (2, .int (nI (2 ^ mc_m6 n))), (3, .int (nI y))] := hl
        refine lv_iconst (v := 0) hx hb dR_work_70 (by decide) ?_
        refine lv_istore (lv' := [(4, .int 0), (0, .ref (w 0)), (1, .int (nI Y)), (2, .int (nI (2 ^ mc_m6 n))), (3, .int (nI y))]) hx hb dR_work_71 hl (by decide) rfl (fun ls hl => ?_)
        refine lv_iconst (v := 0) hx hb dR_work_73 (by decide) ?_
        refine lv_istore (lv' := [(5, .int 0), (4, .int 0), (0, .ref (w 0)), (1, .int (nI Y)), (2, .int (nI (2 ^ mc_m6 n))), (3, .int (nI y))]) hx hb dR_work_74 hl (by decide) rfl (fun ls hl => ?_)
        refine lpR (σ := Nat) (fun i => i ≤ y + 1) (fun i => [(0, .ref (w 0)), (1, .int (nI Y)), (2, .int (nI (2 ^ mc_m6 n))), (3, .int (nI y)), (4, .int (nI (mc_pur bu i))), (5, .int (nI i))]) (fun i => y + 1 - i) (fun i ls hI hl ih => ?_) (0) ls (Nat.zero_le _) (lv_sub hl [2, 3, 4, 5, 1, 0] rfl)
        have hl : lv_has ls 6 [(0, .ref (w 0)), (1, .int (nI Y)), (2, .int (nI (2 ^ mc_m6 n))), (3, .int (nI y)), (4, .int (nI (mc_pur bu i))), (5, .int (nI i))] := hl
        refine lv_iload hx hb dR_work_76 (lv_at hl 5 rfl) ?_
        refine lv_iload_n hx hb dR_work_78 rfl (lv_at hl 3 rfl) ?_
        refine lv_icmp_gt (tgt := 100) hx hb dR_work_79 (by decide) (fun d2 => ?_) (fun d2 => ?_)
        · have hin : i = y + 1 := by have := (nI_ltI (by omega) (by omega)).mp d2; omega
          rw [hin] at hl
          have hl : lv_has ls 6 [(0, .ref (w 0)), (1, .int (nI Y)), (2, .int (nI (2 ^ mc_m6 n))), (3, .int (nI y)), (4, .int (nI (mc_pur bu (y + 1)))), (5, .int (nI (y + 1)))] := hl
          have hmo := mc_pur_le hbu (y + 1)
          refine lv_iconst (v := 0) hx hb dR_work_100 (by decide) ?_
          refine lv_istore (lv' := [(5, .int 0), (0, .ref (w 0)), (1, .int (nI Y)), (2, .int (nI (2 ^ mc_m6 n))), (3, .int (nI y)), (4, .int (nI (mc_pur bu (y + 1))))]) hx hb dR_work_101 hl (by decide) rfl (fun ls hl => ?_)
          refine lpW (σ := Nat × (Nat → Int) × (Nat → Nat) × (Nat → Int)) (fun x H locs => x.1 ≤ (2 ^ mc_m6 n) ∧ (∀ i, 64 * (y + 1) ≤ i → x.2.1 i = lg2 i ∧ x.2.2.1 i = lc2 i ∧ x.2.2.2 i = c2 i) ∧ (∀ Bf, Bf < x.1 → mc_cost C Bf n ≤ mc_pur bu (y + 1) → mc_law n X D Bf → mc_rq n C G X D B (mc_pur bu (y + 1)) (2 ^ mc_m6 n) y x.2.1 x.2.2.1 x.2.2.2 Bf) ∧ va_P (dC, dI) mcCl (mcWR w cI cZ th n C G X D B bu x.2.1 x.2.2.1 x.2.2.2) H ∧ va_D A (mcWR w cI cZ th n C G X D B bu x.2.1 x.2.2.1 x.2.2.2) ∧ va_S A s.heap H locs) (fun x => [(0, .ref (w 0)), (1, .int (nI Y)), (2, .int (nI (2 ^ mc_m6 n))), (3, .int (nI y)), (4, .int (nI (mc_pur bu (y + 1)))), (5, .int (nI x.1))]) (fun x => (2 ^ mc_m6 n) - x.1) (fun x H locs ls hI hl ih => ?_) ((0, lg2, lc2, c2)) _ _ ls (⟨Nat.zero_le _, fun _ _ => ⟨rfl, rfl, rfl⟩, fun B9 h => absurd h (Nat.not_lt_zero B9), hP, hD, hS⟩) (lv_sub hl [1, 2, 3, 4, 5, 0] rfl)
          obtain ⟨j, lg3, lc3, c3⟩ := x
          have hl : lv_has ls 6 [(0, .ref (w 0)), (1, .int (nI Y)), (2, .int (nI (2 ^ mc_m6 n))), (3, .int (nI y)), (4, .int (nI (mc_pur bu (y + 1)))), (5, .int (nI j))] := hl
          obtain ⟨hj, hun, hrq, hP, hD, hS⟩ := hI
          dsimp only at hj hun hrq hP hD
          refine lv_iload hx hb dR_work_103 (lv_at hl 5 rfl) ?_
          refine lv_iload_n hx hb dR_work_105 rfl (lv_at hl 2 rfl) ?_
          refine lv_icmp_ge (tgt := 125) hx hb dR_work_106 (by decide) (fun d3 => ?_) (fun d3 => ?_)
          · have hjn : j = (2 ^ mc_m6 n) := by have := (nI_leI (by omega) (by omega)).mp d3; omega
            rw [hjn] at hrq
            refine lv_iinc (v := (iI ((y : Int) - 1))) (lv' := [(3, .int (iI ((y : Int) - 1))), (0, .ref (w 0)), (1, .int (nI Y)), (2, .int (nI (2 ^ mc_m6 n))), (4, .int (nI (mc_pur bu (y + 1)))), (5, .int (nI j))]) hx hb dR_work_125 hl (k := 3) rfl (by rw [← iI_nat, show Int32.ofInt (-1) = iI (-1) from rfl, iI_add]; rfl) (by decide) rfl (fun ls hl => ?_)
            refine lv_goto (tgt := 66) hx hb dR_work_128 (by decide) ?_
            refine ihY (y, lg3, lc3, c3) H locs ls ⟨by dsimp only; omega, ⟨fun S hS9 => ?_, fun y2 h1 h2 Bf hBf o1 o2 => ?_⟩, hP, hD, hS⟩ (by dsimp only; omega) (lv_sub hl [1, 2, 3, 0] rfl)
            · dsimp only
              rw [(hun _ (by omega)).1, (hun _ (by omega)).2.1]
              exact hrp.1 S hS9
            · by_cases e : y2 = y
              · subst e
                exact hrq Bf hBf o1 o2
              · dsimp only at h1
                exact mc_rq_congr (hrp.2 y2 (by omega) h2 Bf hBf o1 o2) (fun i hi => ⟨(hun i (by omega)).1, (hun i (by omega)).2.1⟩) (hun _ (by omega))
          · have hjn : j < (2 ^ mc_m6 n) := by
              rcases Nat.lt_or_ge j (2 ^ mc_m6 n) with z | z
              · exact z
              · exact absurd (nI_le z (by omega)) d3
            refine lv_aload_n hx hb dR_work_109 rfl (lv_at hl 0 rfl) ?_
            refine lv_iload_n hx hb dR_work_110 rfl (lv_at hl 3 rfl) ?_
            refine lv_iload hx hb dR_work_111 (lv_at hl 5 rfl) ?_
            refine lv_iload_n hx hb dR_work_113 rfl (lv_at hl 2 rfl) ?_
            refine lv_iload hx hb dR_work_114 (lv_at hl 4 rfl) ?_
            refine callWX (As := [.int (nI y), .int (nI j), .int (nI (2 ^ mc_m6 n)), .int (nI (mc_pur bu (y + 1)))]) (rest := []) ⟨hx, hb, hml, hown, hts⟩ tlB (c_R_workOf l dC dI w cI cZ th n C G X D B bu lg3 lc3 c3 H.size y j (2 ^ mc_m6 n) (mc_pur bu (y + 1)) (by omega) (by omega) hjn (by omega) hn hC hG hB hXn hDn (fun S s1 s2 s3 => by rw [(hun _ (by omega)).1, (hun _ (by omega)).2.1]; have h9 := mc_rp_bd hrp hn hC hG hB (Y - (y + 1)) (y + 1) (by omega) (Nat.le_refl _) S s1 (fun _ => ⟨Nat.le_trans s2 (Nat.le_add_right _ _), s3⟩); omega)) kw589 kw590 kw23 kw29 kw591 ⟨rfl, rfl⟩ (n := 4) (by decide +kernel) ⟨Nat.le_of_ble_eq_true rfl, Nat.le_of_ble_eq_true rfl⟩ hP hK hD hS (freeA hD hS hA) (ci := 4) (q0 := 0) rfl rfl rfl hl.1 rfl (Nat.le_of_ble_eq_true rfl) ⟨Nat.le_of_ble_eq_true rfl, Nat.le_of_ble_eq_true rfl⟩ dR_work_116 (fun u9 H3 locs3 hu hP3 hD3 hk3 hS3 => ?_)
            obtain ⟨lg4, lc4, c4⟩ := u9
            dsimp only at hu hP3 hD3
            obtain ⟨u1, u2⟩ := hu
            have hD := hD3.weaken (fun _ z _ h => (freeA hD hS hA) z.1 h)
            have hP := hP3
            have hS := hS3
            refine lv_iinc (v := (nI (j + 1))) (lv' := [(5, .int (nI (j + 1))), (0, .ref (w 0)), (1, .int (nI Y)), (2, .int (nI (2 ^ mc_m6 n))), (3, .int (nI y)), (4, .int (nI (mc_pur bu (y + 1))))]) hx hb dR_work_119 hl (k := 5) rfl (nI_1 j) (by decide) rfl (fun ls hl => ?_)
            refine lv_goto (tgt := 103) hx hb dR_work_122 (by decide) ?_
            refine ih (j + 1, lg4, lc4, c4) H3 locs3 ls ⟨hjn, fun i hi => ?_, lt_s (fun Bf hBf o1 o2 => ?_) (fun o1 o2 => ?_), hP, hD, hS⟩ (by dsimp only; omega) (lv_sub hl [1, 2, 3, 4, 5, 0] rfl)
            · obtain ⟨q1, q2, q3⟩ := u1 i (by omega)
              obtain ⟨p1, p2, p3⟩ := hun i hi
              exact ⟨q1.trans p1, q2.trans p2, q3.trans p3⟩
            · exact mc_rq_congr (hrq Bf hBf o1 o2) (fun i hi => ⟨(u1 i (by omega)).1, (u1 i (by omega)).2.1⟩) (u1 _ (by omega))
            · obtain ⟨f, f1, f2, f3, f4⟩ := u2 o1 o2
              have e1 : (fun S => mc_gain G B S n + lg4 (64 * (y + 1) + S)) = (fun S => mc_gain G B S n + lg3 (64 * (y + 1) + S)) := funext fun S => by rw [(u1 _ (by omega)).1]
              have e2 : (fun S => lc4 (64 * (y + 1) + S)) = (fun S => lc3 (64 * (y + 1) + S)) := funext fun S => by rw [(u1 _ (by omega)).2.1]
              refine ⟨f, f1, by dsimp only; rw [e1, e2]; exact f2, ?_, ?_⟩
              · dsimp only; rw [(u1 (64 * (y + 1) + f) (by omega)).1]; exact f3
              · dsimp only; rw [(u1 (64 * (y + 1) + f) (by omega)).2.1]; exact f4
        · have hin : i ≤ y := by
            rcases Nat.lt_or_ge y i with z | z
            · exact absurd ((nI_ltI (by omega) (by omega)).mpr z) d2
            · exact z
          refine lv_iload hx hb dR_work_82 (lv_at hl 4 rfl) ?_
          refine lv_aload_n hx hb dR_work_84 rfl (lv_at hl 0 rfl) ?_
          refine va_get (D := (dC, dI)) (ci := 4) (C := RR) (T := FR) (N := 11) hx hb hts (fun w h => List.mem_cons_of_mem _ (inR w h)) hown hK hP 0 rfl rfl 7 (by decide) (hts _ (List.mem_cons_of_mem _ kw466)) (fun _ h9 => h9) rfl dR_work_85 ?_
          refine lv_iload hx hb dR_work_88 (lv_at hl 5 rfl) ?_
          refine ialdN hx hb hK hP 6 0 rfl rfl (k := i) (by omega) (by decide) (v := nI (bu i)) rfl dR_work_90 ?_
          refine lv_iadd hx hb dR_work_91 ?_
          refine lv_topi (fun y3 ey3 => ?_)
          have hy3 : y3 = nI (mc_pur bu (i + 1)) := by rw [ey3, nI_add]; rfl
          subst hy3
          refine lv_istore (lv' := [(4, .int (nI (mc_pur bu (i + 1)))), (0, .ref (w 0)), (1, .int (nI Y)), (2, .int (nI (2 ^ mc_m6 n))), (3, .int (nI y)), (5, .int (nI i))]) hx hb dR_work_92 hl (by decide) rfl (fun ls hl => ?_)
          refine lv_iinc (v := (nI (i + 1))) (lv' := [(5, .int (nI (i + 1))), (4, .int (nI (mc_pur bu (i + 1)))), (0, .ref (w 0)), (1, .int (nI Y)), (2, .int (nI (2 ^ mc_m6 n))), (3, .int (nI y))]) hx hb dR_work_94 hl (k := 5) rfl (nI_1 i) (by decide) rfl (fun ls hl => ?_)
          refine lv_goto (tgt := 76) hx hb dR_work_97 (by decide) ?_
          exact ih (i + 1) ls (by omega) (by omega) (lv_sub hl [2, 3, 4, 5, 1, 0] rfl)
    · have hkn : k < (2 ^ mc_m6 n) := by
        rcases Nat.lt_or_ge k (2 ^ mc_m6 n) with z | z
        · exact z
        · exact absurd (nI_le z (by omega)) c1
      refine lv_aload_n hx hb dR_work_28 rfl (lv_at hl 0 rfl) ?_
      refine va_get (D := (dC, dI)) (ci := 4) (C := RR) (T := FR) (N := 11) hx hb hts (fun w h => List.mem_cons_of_mem _ (inR w h)) hown hK hP 0 rfl rfl 8 (by decide) (hts _ (List.mem_cons_of_mem _ kw467)) (fun _ h9 => h9) rfl dR_work_29 ?_
      refine lv_bipush (v := 64) hx hb dR_work_32 (by decide) ?_
      refine lv_iload_n hx hb dR_work_34 rfl (lv_at hl 1 rfl) ?_
      refine lv_imul hx hb dR_work_35 ?_
      refine lv_iload_n hx hb dR_work_36 rfl (lv_at hl 3 rfl) ?_
      refine lv_iadd hx hb dR_work_37 ?_
      refine lv_topi (fun y4 ey4 => ?_)
      have hy4 : y4 = nI (64 * Y + k) := by rw [ey4, show (64 : Int32) = nI 64 from rfl, pk_mul, nI_add]
      subst hy4
      refine lv_iconst (v := 0) hx hb dR_work_38 (by decide) ?_
      refine lv_topi (fun y5 ey5 => ?_)
      have hy5 : y5 = iI 0 := by rw [ey5]; rfl
      subst hy5
      refine iastN hx hb hK hP hD hS 7 0 rfl rfl (k := (64 * Y + k)) (by omega) (by decide) (x := iI 0) (fun j => iI (va_up lg (64 * Y + k) 0 j)) (fun j => by simp only [va_up]; split <;> rfl) (ws' := mcWR w cI cZ th n C G X D B bu (va_up lg (64 * Y + k) 0) lc ch) (rfl) dR_work_39 (fun H locs hP hD hS => ?_)
      refine lv_aload_n hx hb dR_work_40 rfl (lv_at hl 0 rfl) ?_
      refine va_get (D := (dC, dI)) (ci := 4) (C := RR) (T := FR) (N := 11) hx hb hts (fun w h => List.mem_cons_of_mem _ (inR w h)) hown hK hP 0 rfl rfl 9 (by decide) (hts _ (List.mem_cons_of_mem _ kw468)) (fun _ h9 => h9) rfl dR_work_41 ?_
      refine lv_bipush (v := 64) hx hb dR_work_44 (by decide) ?_
      refine lv_iload_n hx hb dR_work_46 rfl (lv_at hl 1 rfl) ?_
      refine lv_imul hx hb dR_work_47 ?_
      refine lv_iload_n hx hb dR_work_48 rfl (lv_at hl 3 rfl) ?_
      refine lv_iadd hx hb dR_work_49 ?_
      refine lv_topi (fun y6 ey6 => ?_)
      have hy6 : y6 = nI (64 * Y + k) := by rw [ey6, show (64 : Int32) = nI 64 from rfl, pk_mul, nI_add]
      subst hy6
      refine lv_aload_n hx hb dR_work_50 rfl (lv_at hl 0 rfl) ?_
      refine lv_iload_n hx hb dR_work_51 rfl (lv_at hl 3 rfl) ?_
      refine callRV (As := [.int (nI k)]) (rest := [.int (nI (64 * Y + k)), .ref (w 8)]) ⟨hx, hb, hml, hown, hts⟩ tlB (c_R_costOf l dC dI w cI cZ th n C G X D B bu (va_up lg (64 * Y + k) 0) lc ch k hn (by omega)) kw544 kw545 kw18 kw29 kw546 ⟨rfl, rfl⟩ (n := 1) (by decide +kernel) ⟨Nat.le_of_ble_eq_true rfl, Nat.le_of_ble_eq_true rfl⟩ (roP_preV hP hK (ci := 4) (q0 := 0) rfl rfl) rfl hl.1 rfl (Nat.le_of_ble_eq_true rfl) ⟨Nat.le_of_ble_eq_true rfl, Nat.le_of_ble_eq_true rfl⟩ dR_work_52 (fun r1 hr1 => ?_)
      subst hr1
      refine iastN hx hb hK hP hD hS 8 0 rfl rfl (k := (64 * Y + k)) (by omega) (by decide) (x := nI (mc_cost C k n)) (fun j => nI (va_up lc (64 * Y + k) (mc_cost C k n) j)) (fun j => by simp only [va_up]; split <;> rfl) (ws' := mcWR w cI cZ th n C G X D B bu (va_up lg (64 * Y + k) 0) (va_up lc (64 * Y + k) (mc_cost C k n)) ch) (rfl) dR_work_55 (fun H locs hP hD hS => ?_)
      refine lv_iinc (v := (nI (k + 1))) (lv' := [(3, .int (nI (k + 1))), (0, .ref (w 0)), (1, .int (nI Y)), (2, .int (nI (2 ^ mc_m6 n)))]) hx hb dR_work_56 hl (k := 3) rfl (nI_1 k) (by decide) rfl (fun ls hl => ?_)
      refine lv_goto (tgt := 23) hx hb dR_work_59 (by decide) ?_
      exact ih (k + 1, va_up lg (64 * Y + k) 0, va_up lc (64 * Y + k) (mc_cost C k n)) H locs ls (⟨hkn, lt_s (fun S hS9 => by dsimp only [va_up]; rw [if_neg (by omega), if_neg (by omega)]; exact hI S hS9) ⟨by simp [va_up], by simp [va_up]⟩, hP, hD, hS⟩) (by dsimp only; omega) (lv_sub hl [1, 2, 3, 0] rfl)
  ·
    refine lv_iconst (v := 1) hx hb dR_work_0 (by decide) ?_
    refine lv_aload_n hx hb dR_work_1 rfl (lv_at hl 0 rfl) ?_
    refine va_get (D := (dC, dI)) (ci := 4) (C := RR) (T := FR) (N := 11) hx hb hts (fun w h => List.mem_cons_of_mem _ (inR w h)) hown hK hP 0 rfl rfl 1 (by decide) (hts _ (List.mem_cons_of_mem _ kw460)) (fun _ h9 => h9) rfl dR_work_2 ?_
    refine lv_bipush (v := 6) hx hb dR_work_5 (by decide) ?_
    refine lv_icmp_ge (tgt := 17) hx hb dR_work_7 (by decide) (fun c1 => ?_) (fun c1 => ?_)
    · have h9 : 6 ≤ n := (nI_leI (a := 6) (b := n) (by omega) (by omega)).mp c1
      have e9 : mc_m6 n = 6 := by unfold mc_m6; split <;> omega
      refine lv_bipush (v := 6) hx hb dR_work_17 (by decide) ?_
      refine W.eq (g2 := F0 m 19 ls [.int (nI (mc_m6 n)), .int 1]) (by rw [e9]; rfl) ?_
      exact K9 ls hl
    · have h9 : n < 6 := by
        rcases Nat.lt_or_ge n 6 with q | q
        · exact q
        · exact absurd ((nI_leI (a := 6) (b := n) (by omega) (by omega)).mpr q) c1
      have e9 : mc_m6 n = n := by unfold mc_m6; split <;> omega
      refine lv_aload_n hx hb dR_work_10 rfl (lv_at hl 0 rfl) ?_
      refine va_get (D := (dC, dI)) (ci := 4) (C := RR) (T := FR) (N := 11) hx hb hts (fun w h => List.mem_cons_of_mem _ (inR w h)) hown hK hP 0 rfl rfl 1 (by decide) (hts _ (List.mem_cons_of_mem _ kw460)) (fun _ h9 => h9) rfl dR_work_11 ?_
      refine lv_goto (tgt := 19) hx hb dR_work_14 (by decide) ?_
      refine W.eq (g2 := F0 m 19 ls [.int (nI (mc_m6 n)), .int 1]) (by rw [e9]) ?_
      exact K9 ls hl
