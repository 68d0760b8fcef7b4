/-! the law, call by call: the rest -/
set_option maxHeartbeats 4000000 in
set_option maxRecDepth 100000 in
theorem law_5 {p : Program} {l : Launch} {e : Env} {s : State} {m : MethodId} {below : List Frame} {meth : Method} {c : Code} {H : Heap} {locs : List Loc} {Q : State → Prop} {ls : Array Slot} {dC : Nat → ClassId} {dI : Nat → Nat → Nat} {b L : Nat} {xs : Nat → Int32} {o : Nat} {a q r : Nat → Nat} {cI cG cZ cJ : ClassId} {u : Nat} {w : Nat → Nat} {i : Nat} (Cx : mcCx p l s m c b L xs dC dI cI cG cZ cJ) (hi : i + 4 ≤ L) (hLS : mcLS s dC dI o a q r cI cG cZ cJ u w i H locs) (hl : lv_has ls 7 [(4, .int (nI i)), (0, .ref b), (1, .ref o), (2, .ref (w 0)), (3, .ref u)])
    (kk : ∀ (H : Heap) (locs : List Loc) (ls : Array Slot), mcLS s dC dI o a q r cI cG cZ cJ u w (i + 1) H locs → lv_has ls 7 [(4, .int (nI i)), (0, .ref b), (1, .ref o), (2, .ref (w 0)), (3, .ref u)] → W p l e room_1 s m #[Value.ref b] below meth c H locs (60 + i + 1) (11000 + 6 * i + 6) Q (F0 m 1110 ls [])) : W p l e room_1 s m #[Value.ref b] below meth c H locs (60 + i) (11000 + 6 * i) Q (F0 m 526 ls []) := by
  obtain ⟨hx, hb, hml, hown, hts, hXs, hbl, hlt, hL, hK, hTh0⟩ := Cx
  obtain ⟨la, n, v, C, G, X, D, B, bu, lp, ov, th, LG, LC, ch, hI, hP, hD, hS⟩ := hLS
  have hA : ∀ q : Nat, s.heap.size ≤ q → mcAA s q := fun _ h => h
  have hbA : ¬ mcAA s b := Nat.not_le.mpr hbl
  obtain ⟨hn, hC1, hC, hG, hB, hXn, hDn, hbu, hIA, hvi⟩ := id hI
  have hX : ∀ m, X m < 4096 := fun m => mc_lt12 hn (hXn m)
  have hDD : ∀ m, D m < 4096 := fun m => mc_lt12 hn (hDn m)
  have hv3 : v < 2147483648 := by omega
  have hTh : mcTh s H := hTh0.keep (fun q hq => hS.2.1 q hq (Nat.not_le.mpr hq))
  have hKR := hK.sub (tys' := mcTR cI cZ) [0, 2] rfl
  have hKH := hK.sub (tys' := mcTH cI cG) [0, 1] rfl
  obtain ⟨v1, hv1⟩ : ∃ v, xs (i + 1) = v := ⟨_, rfl⟩
  obtain ⟨v2, hv2⟩ : ∃ v, xs (i + 2) = v := ⟨_, rfl⟩
  obtain ⟨v3, hv3v⟩ : ∃ v, xs (i + 3) = v := ⟨_, rfl⟩
  by_cases hok : ∃ S, S < 2 ^ n ∧ v1 = nI S
  ·
    obtain ⟨S, hSn, rfl⟩ := hok
    refine lv_aload_n hx hb dL_law_526 rfl (lv_at hl 2 rfl) ?_
    refine lv_aload_n hx hb dL_law_527 rfl (lv_at hl 1 rfl) ?_
    refine lv_iload hx hb dL_law_528 (lv_at hl 0 rfl) ?_
    refine lv_iconst (v := 1) hx hb dL_law_530 (by decide) ?_
    refine lv_iadd hx hb dL_law_531 ?_
    refine lv_topi (fun y1 ey1 => ?_)
    have hy1 : y1 = nI (i + 1) := by rw [ey1]; exact nI_add i 1
    subst hy1
    refine sldN hx hb hXs hbl hbA hS (k := i + 1) (by omega) (by omega) hv1 dL_law_532 ?_
    refine lv_aload_n hx hb dL_law_533 rfl (lv_at hl 4 rfl) ?_
    refine callLW (As := [.ref o, .int (nI S), .ref u]) (rest := []) ⟨hx, hb, hml, hown, hts⟩ mcB_in (c_L_lawful_ok l dC dI o a q r cI cG la n v C G X D B bu lp cZ cJ u ov H.size S hSn hn hX hDD) kw327 kw328 kw24 kw329 ⟨rfl, rfl⟩ (n := 3) (by decide +kernel) ⟨Nat.le_of_ble_eq_true rfl, Nat.le_of_ble_eq_true rfl⟩ hP.lft hK hD.lft hS (va_freeL hD hS hA) rfl hl.1 rfl (Nat.le_of_ble_eq_true rfl) ⟨by show 60 + i ≤ 601024; omega, by show 11000 + 6 * i ≤ 7293034; omega⟩ dL_law_534 (fun z1 x1 H1 locs1 hz1 hP1 hD1 hk1 hS1 => ?_)
    obtain ⟨r1, y1⟩ := x1
    obtain ⟨hz0, hr1⟩ := hz1
    dsimp only at hr1
    subst hz0
    have hP1 : va_P (dC, dI) mcCl (mcWL o a q r cI cG la n v C G X D B bu lp u cJ (vp_updL ov 0 (if r1 = 0 then 0 else 1))) H1 := hP1
    have hD1 : va_D _ (mcWL o a q r cI cG la n v C G X D B bu lp u cJ (vp_updL ov 0 (if r1 = 0 then 0 else 1))) := hD1
    obtain ⟨hP, hD⟩ := va_jnL hP hD hk1 (va_freeL hD hS hA) hP1 hD1
    have hS := hS1
    refine lv_istore (lv' := [(5, .int 0), (4, .int (nI i)), (0, .ref b), (1, .ref o), (2, .ref (w 0)), (3, .ref u)]) hx hb dL_law_537 hl (by decide) rfl (fun ls hl => ?_)
    refine lv_aload_n hx hb dL_law_539 rfl (lv_at hl 4 rfl) ?_
    refine lv_aload_n hx hb dL_law_540 rfl (lv_at hl 2 rfl) ?_
    refine lv_iload hx hb dL_law_541 (lv_at hl 1 rfl) ?_
    refine lv_iconst (v := 1) hx hb dL_law_543 (by decide) ?_
    refine lv_iadd hx hb dL_law_544 ?_
    refine lv_topi (fun y2 ey2 => ?_)
    have hy2 : y2 = nI (i + 1) := by rw [ey2]; exact nI_add i 1
    subst hy2
    refine sldN hx hb hXs hbl hbA hS (k := i + 1) (by omega) (by omega) hv1 dL_law_545 ?_
    have hPt := P_perm (pm_rot _ _) hP
    have hDt := D_perm (pm_rot _ _) hD
    refine callWXi (As := [.int (nI S)]) (rest := []) ⟨hx, hb, hml, hown, hts⟩ mcB_in (c_R_lawful_ok l dC dI w cI cZ th n C G X D B bu LG LC ch H1.size S hSn hn hC hG hB hXn hDn) kw527 kw528 kw529 kw29 kw530 ⟨rfl, rfl⟩ (n := 1) (by decide +kernel) ⟨Nat.le_of_ble_eq_true rfl, Nat.le_of_ble_eq_true rfl⟩ hPt.lft hKR hDt.lft hS (va_freeL hDt hS hA) (ci := 4) (q0 := 0) rfl rfl rfl hl.1 rfl (Nat.le_of_ble_eq_true rfl) ⟨by show 60 + i ≤ 601024; omega, by show 11000 + 6 * i ≤ 7293034; omega⟩ dL_law_546 (fun r2 x2 H2 locs2 hr2 hP2 hD2 hk2 hS2 => ?_)
    obtain ⟨hPn, hDn⟩ := va_jnL hPt hDt hk2 (va_freeL hDt hS hA) hP2 hD2
    have hS := hS2
    have hP := P_perm (pm_rot _ _) hPn
    have hD := D_perm (pm_rot _ _) hDn
    have hP : va_P (dC, dI) mcCl (mcWL o a q r cI cG la n v C G X D B bu lp u cJ (vp_updL ov 0 (if r1 = 0 then 0 else 1)) ++ mcWR w cI cZ 0 n C G X D B bu LG LC ch) H2 := hP
    have hD : va_D (mcAA s) (mcWL o a q r cI cG la n v C G X D B bu lp u cJ (vp_updL ov 0 (if r1 = 0 then 0 else 1)) ++ mcWR w cI cZ 0 n C G X D B bu LG LC ch) := hD
    refine lv_istore (lv' := [(6, .int r2), (5, .int 0), (4, .int (nI i)), (0, .ref b), (1, .ref o), (2, .ref (w 0)), (3, .ref u)]) hx hb dL_law_549 hl (by decide) rfl (fun ls hl => ?_)
    refine lv_aload_n hx hb dL_law_551 rfl (lv_at hl 5 rfl) ?_
    refine callRV (As := []) (rest := []) ⟨hx, hb, hml, hown, hts⟩ mcB_in (c_R_thrown l dC dI w cI cZ 0 n C G X D B bu LG LC ch) kw494 kw495 kw496 kw29 kw497 ⟨rfl, rfl⟩ (n := 0) (by decide +kernel) ⟨Nat.le_of_ble_eq_true rfl, Nat.le_of_ble_eq_true rfl⟩ (roP_preV (P_perm (pm_rot _ _) hP).lft hKR (ci := 4) (q0 := 0) rfl rfl) rfl hl.1 rfl (Nat.le_of_ble_eq_true rfl) ⟨by show 60 + i ≤ 601024; omega, by show 11000 + 6 * i ≤ 7293034; omega⟩ dL_law_552 (fun r3 hr3 => ?_)
    subst hr3
    refine lv_iload hx hb dL_law_555 (lv_at hl 1 rfl) ?_
    refine lv_icmp_eq (tgt := 562) hx hb dL_law_557 (by decide) (fun c3 => ?_) (fun c3 => ?_)
    rotate_left
    · exact absurd (rfl : (nI 0) = 0) c3
    refine lv_iload hx hb dL_law_562 (lv_at hl 1 rfl) ?_
    refine lv_if_ne (tgt := 586) hx hb dL_law_564 (by decide) (fun c4 => ?_) (fun c4 => ?_)
    · exact absurd (rfl : (0 : Int32) = 0) c4
    ·
      have htie : r1 = r2 := mcZ_uniq (P := mc_law n X D S) hr1 hr2
      refine lv_aload_n hx hb dL_law_567 rfl (lv_at hl 6 rfl) ?_
      refine lv_iconst (v := 0) hx hb dL_law_568 (by decide) ?_
      refine va_lald hx hb hK hP 37 3 rfl rfl (i := 0) (vp_in_nI (n := 0) (N := 1) (by decide) (by decide)) dL_law_569 ?_
      refine W.eq (g2 := F0 m 570 ls [.long (if r1 = 0 then 0 else 1)]) rfl ?_
      refine lv_iload hx hb dL_law_570 (lv_at hl 0 rfl) ?_
      refine lv_if_eq (tgt := 579) hx hb dL_law_572 (by decide) (fun c66 => ?_) (fun c66 => ?_)
      ·
        refine lv_lconst (v := 0) hx hb dL_law_579 (by decide) ?_
        refine W.lcmp hx hb dL_law_580 ?_
        refine lv_if_eq (tgt := 586) hx hb dL_law_581 (by decide) (fun c5 => ?_) (fun c5 => ?_)
        ·
          refine lv_goto (tgt := 1110) hx hb dL_law_586 (by decide) ?_
          refine W.widen (k := 60 + i + 1) (n := 11000 + 6 * i + 6) (by omega) (by omega) ?_
          exact kk _ _ ls ⟨la, n, v, C, G, X, D, B, bu, lp, (vp_updL ov 0 (if r1 = 0 then 0 else 1)), 0, LG, LC, ch, hI.mono (Nat.le_succ i), hP, hD, hS⟩ (lv_sub hl [2, 3, 4, 5, 6] rfl)
        · exact absurd ((lg_cmp_eq _ _).mpr (by rw [htie, if_pos c66])) c5
      ·
        refine lv_lconst (v := 1) hx hb dL_law_575 (by decide) ?_
        refine lv_goto (tgt := 580) hx hb dL_law_576 (by decide) ?_
        refine W.lcmp hx hb dL_law_580 ?_
        refine lv_if_eq (tgt := 586) hx hb dL_law_581 (by decide) (fun c6 => ?_) (fun c6 => ?_)
        ·
          refine lv_goto (tgt := 1110) hx hb dL_law_586 (by decide) ?_
          refine W.widen (k := 60 + i + 1) (n := 11000 + 6 * i + 6) (by omega) (by omega) ?_
          exact kk _ _ ls ⟨la, n, v, C, G, X, D, B, bu, lp, (vp_updL ov 0 (if r1 = 0 then 0 else 1)), 0, LG, LC, ch, hI.mono (Nat.le_succ i), hP, hD, hS⟩ (lv_sub hl [2, 3, 4, 5, 6] rfl)
        · exact absurd ((lg_cmp_eq _ _).mpr (by rw [htie, if_neg c66])) c6
  ·
    refine lv_aload_n hx hb dL_law_526 rfl (lv_at hl 2 rfl) ?_
    refine lv_aload_n hx hb dL_law_527 rfl (lv_at hl 1 rfl) ?_
    refine lv_iload hx hb dL_law_528 (lv_at hl 0 rfl) ?_
    refine lv_iconst (v := 1) hx hb dL_law_530 (by decide) ?_
    refine lv_iadd hx hb dL_law_531 ?_
    refine lv_topi (fun y1 ey1 => ?_)
    have hy1 : y1 = nI (i + 1) := by rw [ey1]; exact nI_add i 1
    subst hy1
    refine sldN hx hb hXs hbl hbA hS (k := i + 1) (by omega) (by omega) hv1 dL_law_532 ?_
    refine lv_aload_n hx hb dL_law_533 rfl (lv_at hl 4 rfl) ?_
    refine callLB (As := [.ref o, .int v1, .ref u]) (rest := []) ⟨hx, hb, hml, hown, hts⟩ mcB_in (c_L_lawful_bad l dC dI o a q r cI cG la n v C G X D B bu lp u hlt v1 hn hok) kw327 kw328 kw24 kw329 ⟨rfl, rfl⟩ (n := 3) (by decide +kernel) ⟨Nat.le_of_ble_eq_true rfl, Nat.le_of_ble_eq_true rfl⟩ hP.lft.lft hKH hTh hS rfl hl.1 rfl (Nat.le_of_ble_eq_true rfl) ⟨by show 60 + i + 1 ≤ 601024; omega, by show 11000 + 6 * i + 6 ≤ 7293034; omega⟩ dL_law_534 (fun H1 locs1 hz1 hk1 hS1 => ?_)
    have hP := P_keep hP hk1
    have hS := hS1
    refine lv_istore (lv' := [(5, .int 1), (4, .int (nI i)), (0, .ref b), (1, .ref o), (2, .ref (w 0)), (3, .ref u)]) hx hb dL_law_537 hl (by decide) rfl (fun ls hl => ?_)
    refine lv_aload_n hx hb dL_law_539 rfl (lv_at hl 4 rfl) ?_
    refine lv_aload_n hx hb dL_law_540 rfl (lv_at hl 2 rfl) ?_
    refine lv_iload hx hb dL_law_541 (lv_at hl 1 rfl) ?_
    refine lv_iconst (v := 1) hx hb dL_law_543 (by decide) ?_
    refine lv_iadd hx hb dL_law_544 ?_
    refine lv_topi (fun y2 ey2 => ?_)
    have hy2 : y2 = nI (i + 1) := by rw [ey2]; exact nI_add i 1
    subst hy2
    refine sldN hx hb hXs hbl hbA hS (k := i + 1) (by omega) (by omega) hv1 dL_law_545 ?_
    have hPt := P_perm (pm_rot _ _) hP
    have hDt := D_perm (pm_rot _ _) hD
    refine callWXi (As := [.int v1]) (rest := []) ⟨hx, hb, hml, hown, hts⟩ mcB_in (c_R_lawful_bad l dC dI w cI cZ th n C G X D B bu LG LC ch H1.size v1 hn hok) kw527 kw528 kw529 kw29 kw530 ⟨rfl, rfl⟩ (n := 1) (by decide +kernel) ⟨Nat.le_of_ble_eq_true rfl, Nat.le_of_ble_eq_true rfl⟩ hPt.lft hKR hDt.lft hS (va_freeL hDt hS hA) (ci := 4) (q0 := 0) rfl rfl rfl hl.1 rfl (Nat.le_of_ble_eq_true rfl) ⟨by show 60 + i + 1 ≤ 601024; omega, by show 11000 + 6 * i + 6 ≤ 7293034; omega⟩ dL_law_546 (fun r2 x2 H2 locs2 hr2 hP2 hD2 hk2 hS2 => ?_)
    obtain ⟨hPn, hDn⟩ := va_jnL hPt hDt hk2 (va_freeL hDt hS hA) hP2 hD2
    have hS := hS2
    have hP := P_perm (pm_rot _ _) hPn
    have hD := D_perm (pm_rot _ _) hDn
    have hP : va_P (dC, dI) mcCl (mcWL o a q r cI cG la n v C G X D B bu lp u cJ ov ++ mcWR w cI cZ 1 n C G X D B bu LG LC ch) H2 := hP
    have hD : va_D (mcAA s) (mcWL o a q r cI cG la n v C G X D B bu lp u cJ ov ++ mcWR w cI cZ 1 n C G X D B bu LG LC ch) := hD
    refine lv_istore (lv' := [(6, .int r2), (5, .int 1), (4, .int (nI i)), (0, .ref b), (1, .ref o), (2, .ref (w 0)), (3, .ref u)]) hx hb dL_law_549 hl (by decide) rfl (fun ls hl => ?_)
    refine lv_aload_n hx hb dL_law_551 rfl (lv_at hl 5 rfl) ?_
    refine callRV (As := []) (rest := []) ⟨hx, hb, hml, hown, hts⟩ mcB_in (c_R_thrown l dC dI w cI cZ 1 n C G X D B bu LG LC ch) kw494 kw495 kw496 kw29 kw497 ⟨rfl, rfl⟩ (n := 0) (by decide +kernel) ⟨Nat.le_of_ble_eq_true rfl, Nat.le_of_ble_eq_true rfl⟩ (roP_preV (P_perm (pm_rot _ _) hP).lft hKR (ci := 4) (q0 := 0) rfl rfl) rfl hl.1 rfl (Nat.le_of_ble_eq_true rfl) ⟨by show 60 + i + 1 ≤ 601024; omega, by show 11000 + 6 * i + 6 ≤ 7293034; omega⟩ dL_law_552 (fun r3 hr3 => ?_)
    subst hr3
    refine lv_iload hx hb dL_law_555 (lv_at hl 1 rfl) ?_
    refine lv_icmp_eq (tgt := 562) hx hb dL_law_557 (by decide) (fun c3 => ?_) (fun c3 => ?_)
    rotate_left
    · exact absurd (rfl : (nI 1) = 1) c3
    refine lv_iload hx hb dL_law_562 (lv_at hl 1 rfl) ?_
    refine lv_if_ne (tgt := 586) hx hb dL_law_564 (by decide) (fun c4 => ?_) (fun c4 => ?_)
    rotate_left
    · exact absurd c4 (by decide)
    refine lv_goto (tgt := 1110) hx hb dL_law_586 (by decide) ?_
    exact kk _ _ ls ⟨la, n, v, C, G, X, D, B, bu, lp, ov, 1, LG, LC, ch, hI.mono (Nat.le_succ i), hP, hD, hS⟩ (lv_sub hl [2, 3, 4, 5, 6] rfl)
set_option maxHeartbeats 4000000 in
set_option maxRecDepth 100000 in
theorem law_6 {p : Program} {l : Launch} {e : Env} {s : State} {m : MethodId} {below : List Frame} {meth : Method} {c : Code} {H : Heap} {locs : List Loc} {Q : State → Prop} {ls : Array Slot} {dC : Nat → ClassId} {dI : Nat → Nat → Nat} {b L : Nat} {xs : Nat → Int32} {o : Nat} {a q r : Nat → Nat} {cI cG cZ cJ : ClassId} {u : Nat} {w : Nat → Nat} {i : Nat} (Cx : mcCx p l s m c b L xs dC dI cI cG cZ cJ) (hi : i + 4 ≤ L) (hLS : mcLS s dC dI o a q r cI cG cZ cJ u w i H locs) (hl : lv_has ls 7 [(4, .int (nI i)), (0, .ref b), (1, .ref o), (2, .ref (w 0)), (3, .ref u)])
    (kk : ∀ (H : Heap) (locs : List Loc) (ls : Array Slot), mcLS s dC dI o a q r cI cG cZ cJ u w (i + 1) H locs → lv_has ls 7 [(4, .int (nI i)), (0, .ref b), (1, .ref o), (2, .ref (w 0)), (3, .ref u)] → W p l e room_1 s m #[Value.ref b] below meth c H locs (60 + i + 1) (11000 + 6 * i + 6) Q (F0 m 1110 ls [])) : W p l e room_1 s m #[Value.ref b] below meth c H locs (60 + i) (11000 + 6 * i) Q (F0 m 589 ls []) := by
  obtain ⟨hx, hb, hml, hown, hts, hXs, hbl, hlt, hL, hK, hTh0⟩ := Cx
  obtain ⟨la, n, v, C, G, X, D, B, bu, lp, ov, th, LG, LC, ch, hI, hP, hD, hS⟩ := hLS
  have hA : ∀ q : Nat, s.heap.size ≤ q → mcAA s q := fun _ h => h
  have hbA : ¬ mcAA s b := Nat.not_le.mpr hbl
  obtain ⟨hn, hC1, hC, hG, hB, hXn, hDn, hbu, hIA, hvi⟩ := id hI
  have hX : ∀ m, X m < 4096 := fun m => mc_lt12 hn (hXn m)
  have hDD : ∀ m, D m < 4096 := fun m => mc_lt12 hn (hDn m)
  have hv3 : v < 2147483648 := by omega
  have hTh : mcTh s H := hTh0.keep (fun q hq => hS.2.1 q hq (Nat.not_le.mpr hq))
  have hKR := hK.sub (tys' := mcTR cI cZ) [0, 2] rfl
  have hKH := hK.sub (tys' := mcTH cI cG) [0, 1] rfl
  obtain ⟨v1, hv1⟩ : ∃ v, xs (i + 1) = v := ⟨_, rfl⟩
  obtain ⟨v2, hv2⟩ : ∃ v, xs (i + 2) = v := ⟨_, rfl⟩
  obtain ⟨v3, hv3v⟩ : ∃ v, xs (i + 3) = v := ⟨_, rfl⟩
  by_cases hok : (∃ S, S < 2 ^ n ∧ v1 = nI S) ∧ (0 ≤ v2 ∧ v2 ≤ 1)
  ·
    obtain ⟨⟨S, hSn, rfl⟩, h2⟩ := hok
    rcases rep01 h2 with rfl | rfl
    ·
      refine lv_aload_n hx hb dL_law_589 rfl (lv_at hl 2 rfl) ?_
      refine lv_aload_n hx hb dL_law_590 rfl (lv_at hl 1 rfl) ?_
      refine lv_iload hx hb dL_law_591 (lv_at hl 0 rfl) ?_
      refine lv_iconst (v := 1) hx hb dL_law_593 (by decide) ?_
      refine lv_iadd hx hb dL_law_594 ?_
      refine lv_topi (fun y1 ey1 => ?_)
      have hy1 : y1 = nI (i + 1) := by rw [ey1]; exact nI_add i 1
      subst hy1
      refine sldN hx hb hXs hbl hbA hS (k := i + 1) (by omega) (by omega) hv1 dL_law_595 ?_
      refine lv_aload_n hx hb dL_law_596 rfl (lv_at hl 1 rfl) ?_
      refine lv_iload hx hb dL_law_597 (lv_at hl 0 rfl) ?_
      refine lv_iconst (v := 2) hx hb dL_law_599 (by decide) ?_
      refine lv_iadd hx hb dL_law_600 ?_
      refine lv_topi (fun y2 ey2 => ?_)
      have hy2 : y2 = nI (i + 2) := by rw [ey2]; exact nI_add i 2
      subst hy2
      refine sldN hx hb hXs hbl hbA hS (k := i + 2) (by omega) (by omega) hv2 dL_law_601 ?_
      refine lv_aload_n hx hb dL_law_602 rfl (lv_at hl 4 rfl) ?_
      refine callLW (As := [.ref o, .int (nI S), .int 0, .ref u]) (rest := []) ⟨hx, hb, hml, hown, hts⟩ mcB_in (c_L_told_ok0 l dC dI o a q r cI cG la n v C G X D B bu lp cZ cJ u ov H.size S hSn hn) kw338 kw339 kw24 kw340 ⟨rfl, rfl⟩ (n := 4) (by decide +kernel) ⟨Nat.le_of_ble_eq_true rfl, Nat.le_of_ble_eq_true rfl⟩ hP.lft hK hD.lft hS (va_freeL hD hS hA) rfl hl.1 rfl (Nat.le_of_ble_eq_true rfl) ⟨by show 60 + i ≤ 601024; omega, by show 11000 + 6 * i ≤ 7293034; omega⟩ dL_law_603 (fun z1 x1 H1 locs1 hz1 hP1 hD1 hk1 hS1 => ?_)
      obtain ⟨r1, y1⟩ := x1
      obtain ⟨hz0, hr1⟩ := hz1
      dsimp only at hr1
      subst hz0
      have hP1 : va_P (dC, dI) mcCl (mcWL o a q r cI cG la n v C G X D B bu lp u cJ (vp_updL ov 0 r1.toInt64)) H1 := hP1
      have hD1 : va_D _ (mcWL o a q r cI cG la n v C G X D B bu lp u cJ (vp_updL ov 0 r1.toInt64)) := hD1
      obtain ⟨hP, hD⟩ := va_jnL hP hD hk1 (va_freeL hD hS hA) hP1 hD1
      have hS := hS1
      refine lv_istore (lv' := [(5, .int 0), (4, .int (nI i)), (0, .ref b), (1, .ref o), (2, .ref (w 0)), (3, .ref u)]) hx hb dL_law_606 hl (by decide) rfl (fun ls hl => ?_)
      refine lv_aload_n hx hb dL_law_608 rfl (lv_at hl 4 rfl) ?_
      refine lv_aload_n hx hb dL_law_609 rfl (lv_at hl 2 rfl) ?_
      refine lv_iload hx hb dL_law_610 (lv_at hl 1 rfl) ?_
      refine lv_iconst (v := 1) hx hb dL_law_612 (by decide) ?_
      refine lv_iadd hx hb dL_law_613 ?_
      refine lv_topi (fun y3 ey3 => ?_)
      have hy3 : y3 = nI (i + 1) := by rw [ey3]; exact nI_add i 1
      subst hy3
      refine sldN hx hb hXs hbl hbA hS (k := i + 1) (by omega) (by omega) hv1 dL_law_614 ?_
      refine lv_aload_n hx hb dL_law_615 rfl (lv_at hl 2 rfl) ?_
      refine lv_iload hx hb dL_law_616 (lv_at hl 1 rfl) ?_
      refine lv_iconst (v := 2) hx hb dL_law_618 (by decide) ?_
      refine lv_iadd hx hb dL_law_619 ?_
      refine lv_topi (fun y4 ey4 => ?_)
      have hy4 : y4 = nI (i + 2) := by rw [ey4]; exact nI_add i 2
      subst hy4
      refine sldN hx hb hXs hbl hbA hS (k := i + 2) (by omega) (by omega) hv2 dL_law_620 ?_
      have hPt := P_perm (pm_rot _ _) hP
      have hDt := D_perm (pm_rot _ _) hD
      refine callWXi (As := [.int (nI S), .int 0]) (rest := []) ⟨hx, hb, hml, hown, hts⟩ mcB_in (c_R_told_ok0 l dC dI w cI cZ th n C G X D B bu LG LC ch H1.size S hSn hn) kw540 kw541 kw542 kw29 kw543 ⟨rfl, rfl⟩ (n := 2) (by decide +kernel) ⟨Nat.le_of_ble_eq_true rfl, Nat.le_of_ble_eq_true rfl⟩ hPt.lft hKR hDt.lft hS (va_freeL hDt hS hA) (ci := 4) (q0 := 0) rfl rfl rfl hl.1 rfl (Nat.le_of_ble_eq_true rfl) ⟨by show 60 + i ≤ 601024; omega, by show 11000 + 6 * i ≤ 7293034; omega⟩ dL_law_621 (fun r2 x2 H2 locs2 hr2 hP2 hD2 hk2 hS2 => ?_)
      obtain ⟨hPn, hDn⟩ := va_jnL hPt hDt hk2 (va_freeL hDt hS hA) hP2 hD2
      have hS := hS2
      have hP := P_perm (pm_rot _ _) hPn
      have hD := D_perm (pm_rot _ _) hDn
      have hP : va_P (dC, dI) mcCl (mcWL o a q r cI cG la n v C G X D B bu lp u cJ (vp_updL ov 0 r1.toInt64) ++ mcWR w cI cZ 0 n C G X D B bu LG LC ch) H2 := hP
      have hD : va_D (mcAA s) (mcWL o a q r cI cG la n v C G X D B bu lp u cJ (vp_updL ov 0 r1.toInt64) ++ mcWR w cI cZ 0 n C G X D B bu LG LC ch) := hD
      refine lv_istore (lv' := [(6, .int r2), (5, .int 0), (4, .int (nI i)), (0, .ref b), (1, .ref o), (2, .ref (w 0)), (3, .ref u)]) hx hb dL_law_624 hl (by decide) rfl (fun ls hl => ?_)
      refine lv_aload_n hx hb dL_law_626 rfl (lv_at hl 5 rfl) ?_
      refine callRV (As := []) (rest := []) ⟨hx, hb, hml, hown, hts⟩ mcB_in (c_R_thrown l dC dI w cI cZ 0 n C G X D B bu LG LC ch) kw494 kw495 kw496 kw29 kw497 ⟨rfl, rfl⟩ (n := 0) (by decide +kernel) ⟨Nat.le_of_ble_eq_true rfl, Nat.le_of_ble_eq_true rfl⟩ (roP_preV (P_perm (pm_rot _ _) hP).lft hKR (ci := 4) (q0 := 0) rfl rfl) rfl hl.1 rfl (Nat.le_of_ble_eq_true rfl) ⟨by show 60 + i ≤ 601024; omega, by show 11000 + 6 * i ≤ 7293034; omega⟩ dL_law_627 (fun r3 hr3 => ?_)
      subst hr3
      refine lv_iload hx hb dL_law_630 (lv_at hl 1 rfl) ?_
      refine lv_icmp_eq (tgt := 637) hx hb dL_law_632 (by decide) (fun c5 => ?_) (fun c5 => ?_)
      rotate_left
      · exact absurd (rfl : (nI 0) = 0) c5
      refine lv_iload hx hb dL_law_637 (lv_at hl 1 rfl) ?_
      refine lv_if_ne (tgt := 654) hx hb dL_law_639 (by decide) (fun c6 => ?_) (fun c6 => ?_)
      · exact absurd (rfl : (0 : Int32) = 0) c6
      ·
        have htie : r1 = r2 := (hr1 : r1 = nI (mc_cost C S n)).trans (hr2 : r2 = nI (mc_cost C S n)).symm
        refine lv_aload_n hx hb dL_law_642 rfl (lv_at hl 6 rfl) ?_
        refine lv_iconst (v := 0) hx hb dL_law_643 (by decide) ?_
        refine va_lald hx hb hK hP 37 3 rfl rfl (i := 0) (vp_in_nI (n := 0) (N := 1) (by decide) (by decide)) dL_law_644 ?_
        refine W.eq (g2 := F0 m 645 ls [.long r1.toInt64]) rfl ?_
        refine lv_iload hx hb dL_law_645 (lv_at hl 0 rfl) ?_
        refine lv_i2l (v := (r2).toInt64) hx hb dL_law_647 rfl ?_
        refine W.lcmp hx hb dL_law_648 ?_
        refine lv_if_eq (tgt := 654) hx hb dL_law_649 (by decide) (fun c7 => ?_) (fun c7 => ?_)
        ·
          refine lv_goto (tgt := 1110) hx hb dL_law_654 (by decide) ?_
          refine W.widen (k := 60 + i + 1) (n := 11000 + 6 * i + 6) (by omega) (by omega) ?_
          exact kk _ _ ls ⟨la, n, v, C, G, X, D, B, bu, lp, (vp_updL ov 0 r1.toInt64), 0, LG, LC, ch, hI.mono (Nat.le_succ i), hP, hD, hS⟩ (lv_sub hl [2, 3, 4, 5, 6] rfl)
        · exact absurd ((lg_cmp_eq _ _).mpr (by rw [htie])) c7
    ·
      refine lv_aload_n hx hb dL_law_589 rfl (lv_at hl 2 rfl) ?_
      refine lv_aload_n hx hb dL_law_590 rfl (lv_at hl 1 rfl) ?_
      refine lv_iload hx hb dL_law_591 (lv_at hl 0 rfl) ?_
      refine lv_iconst (v := 1) hx hb dL_law_593 (by decide) ?_
      refine lv_iadd hx hb dL_law_594 ?_
      refine lv_topi (fun y1 ey1 => ?_)
      have hy1 : y1 = nI (i + 1) := by rw [ey1]; exact nI_add i 1
      subst hy1
      refine sldN hx hb hXs hbl hbA hS (k := i + 1) (by omega) (by omega) hv1 dL_law_595 ?_
      refine lv_aload_n hx hb dL_law_596 rfl (lv_at hl 1 rfl) ?_
      refine lv_iload hx hb dL_law_597 (lv_at hl 0 rfl) ?_
      refine lv_iconst (v := 2) hx hb dL_law_599 (by decide) ?_
      refine lv_iadd hx hb dL_law_600 ?_
      refine lv_topi (fun y2 ey2 => ?_)
      have hy2 : y2 = nI (i + 2) := by rw [ey2]; exact nI_add i 2
      subst hy2
      refine sldN hx hb hXs hbl hbA hS (k := i + 2) (by omega) (by omega) hv2 dL_law_601 ?_
      refine lv_aload_n hx hb dL_law_602 rfl (lv_at hl 4 rfl) ?_
      refine callLW (As := [.ref o, .int (nI S), .int 1, .ref u]) (rest := []) ⟨hx, hb, hml, hown, hts⟩ mcB_in (c_L_told_ok1 l dC dI o a q r cI cG la n v C G X D B bu lp cZ cJ u ov H.size S hSn hn) kw338 kw339 kw24 kw340 ⟨rfl, rfl⟩ (n := 4) (by decide +kernel) ⟨Nat.le_of_ble_eq_true rfl, Nat.le_of_ble_eq_true rfl⟩ hP.lft hK hD.lft hS (va_freeL hD hS hA) rfl hl.1 rfl (Nat.le_of_ble_eq_true rfl) ⟨by show 60 + i ≤ 601024; omega, by show 11000 + 6 * i ≤ 7293034; omega⟩ dL_law_603 (fun z1 x1 H1 locs1 hz1 hP1 hD1 hk1 hS1 => ?_)
      obtain ⟨r1, y1⟩ := x1
      obtain ⟨hz0, hr1⟩ := hz1
      dsimp only at hr1
      subst hz0
      have hP1 : va_P (dC, dI) mcCl (mcWL o a q r cI cG la n v C G X D B bu lp u cJ (vp_updL ov 0 r1.toInt64)) H1 := hP1
      have hD1 : va_D _ (mcWL o a q r cI cG la n v C G X D B bu lp u cJ (vp_updL ov 0 r1.toInt64)) := hD1
      obtain ⟨hP, hD⟩ := va_jnL hP hD hk1 (va_freeL hD hS hA) hP1 hD1
      have hS := hS1
      refine lv_istore (lv' := [(5, .int 0), (4, .int (nI i)), (0, .ref b), (1, .ref o), (2, .ref (w 0)), (3, .ref u)]) hx hb dL_law_606 hl (by decide) rfl (fun ls hl => ?_)
      refine lv_aload_n hx hb dL_law_608 rfl (lv_at hl 4 rfl) ?_
      refine lv_aload_n hx hb dL_law_609 rfl (lv_at hl 2 rfl) ?_
      refine lv_iload hx hb dL_law_610 (lv_at hl 1 rfl) ?_
      refine lv_iconst (v := 1) hx hb dL_law_612 (by decide) ?_
      refine lv_iadd hx hb dL_law_613 ?_
      refine lv_topi (fun y3 ey3 => ?_)
      have hy3 : y3 = nI (i + 1) := by rw [ey3]; exact nI_add i 1
      subst hy3
      refine sldN hx hb hXs hbl hbA hS (k := i + 1) (by omega) (by omega) hv1 dL_law_614 ?_
      refine lv_aload_n hx hb dL_law_615 rfl (lv_at hl 2 rfl) ?_
      refine lv_iload hx hb dL_law_616 (lv_at hl 1 rfl) ?_
      refine lv_iconst (v := 2) hx hb dL_law_618 (by decide) ?_
      refine lv_iadd hx hb dL_law_619 ?_
      refine lv_topi (fun y4 ey4 => ?_)
      have hy4 : y4 = nI (i + 2) := by rw [ey4]; exact nI_add i 2
      subst hy4
      refine sldN hx hb hXs hbl hbA hS (k := i + 2) (by omega) (by omega) hv2 dL_law_620 ?_
      have hPt := P_perm (pm_rot _ _) hP
      have hDt := D_perm (pm_rot _ _) hD
      refine callWXi (As := [.int (nI S), .int 1]) (rest := []) ⟨hx, hb, hml, hown, hts⟩ mcB_in (c_R_told_ok1 l dC dI w cI cZ th n C G X D B bu LG LC ch H1.size S hSn hn) kw540 kw541 kw542 kw29 kw543 ⟨rfl, rfl⟩ (n := 2) (by decide +kernel) ⟨Nat.le_of_ble_eq_true rfl, Nat.le_of_ble_eq_true rfl⟩ hPt.lft hKR hDt.lft hS (va_freeL hDt hS hA) (ci := 4) (q0 := 0) rfl rfl rfl hl.1 rfl (Nat.le_of_ble_eq_true rfl) ⟨by show 60 + i ≤ 601024; omega, by show 11000 + 6 * i ≤ 7293034; omega⟩ dL_law_621 (fun r2 x2 H2 locs2 hr2 hP2 hD2 hk2 hS2 => ?_)
      obtain ⟨hPn, hDn⟩ := va_jnL hPt hDt hk2 (va_freeL hDt hS hA) hP2 hD2
      have hS := hS2
      have hP := P_perm (pm_rot _ _) hPn
      have hD := D_perm (pm_rot _ _) hDn
      have hP : va_P (dC, dI) mcCl (mcWL o a q r cI cG la n v C G X D B bu lp u cJ (vp_updL ov 0 r1.toInt64) ++ mcWR w cI cZ 0 n C G X D B bu LG LC ch) H2 := hP
      have hD : va_D (mcAA s) (mcWL o a q r cI cG la n v C G X D B bu lp u cJ (vp_updL ov 0 r1.toInt64) ++ mcWR w cI cZ 0 n C G X D B bu LG LC ch) := hD
      refine lv_istore (lv' := [(6, .int r2), (5, .int 0), (4, .int (nI i)), (0, .ref b), (1, .ref o), (2, .ref (w 0)), (3, .ref u)]) hx hb dL_law_624 hl (by decide) rfl (fun ls hl => ?_)
      refine lv_aload_n hx hb dL_law_626 rfl (lv_at hl 5 rfl) ?_
      refine callRV (As := []) (rest := []) ⟨hx, hb, hml, hown, hts⟩ mcB_in (c_R_thrown l dC dI w cI cZ 0 n C G X D B bu LG LC ch) kw494 kw495 kw496 kw29 kw497 ⟨rfl, rfl⟩ (n := 0) (by decide +kernel) ⟨Nat.le_of_ble_eq_true rfl, Nat.le_of_ble_eq_true rfl⟩ (roP_preV (P_perm (pm_rot _ _) hP).lft hKR (ci := 4) (q0 := 0) rfl rfl) rfl hl.1 rfl (Nat.le_of_ble_eq_true rfl) ⟨by show 60 + i ≤ 601024; omega, by show 11000 + 6 * i ≤ 7293034; omega⟩ dL_law_627 (fun r3 hr3 => ?_)
      subst hr3
      refine lv_iload hx hb dL_law_630 (lv_at hl 1 rfl) ?_
      refine lv_icmp_eq (tgt := 637) hx hb dL_law_632 (by decide) (fun c5 => ?_) (fun c5 => ?_)
      rotate_left
      · exact absurd (rfl : (nI 0) = 0) c5
      refine lv_iload hx hb dL_law_637 (lv_at hl 1 rfl) ?_
      refine lv_if_ne (tgt := 654) hx hb dL_law_639 (by decide) (fun c6 => ?_) (fun c6 => ?_)
      · exact absurd (rfl : (0 : Int32) = 0) c6
      ·
        have htie : r1 = r2 := (hr1 : r1 = iI (mc_gain G B S n)).trans (hr2 : r2 = iI (mc_gain G B S n)).symm
        refine lv_aload_n hx hb dL_law_642 rfl (lv_at hl 6 rfl) ?_
        refine lv_iconst (v := 0) hx hb dL_law_643 (by decide) ?_
        refine va_lald hx hb hK hP 37 3 rfl rfl (i := 0) (vp_in_nI (n := 0) (N := 1) (by decide) (by decide)) dL_law_644 ?_
        refine W.eq (g2 := F0 m 645 ls [.long r1.toInt64]) rfl ?_
        refine lv_iload hx hb dL_law_645 (lv_at hl 0 rfl) ?_
        refine lv_i2l (v := (r2).toInt64) hx hb dL_law_647 rfl ?_
        refine W.lcmp hx hb dL_law_648 ?_
        refine lv_if_eq (tgt := 654) hx hb dL_law_649 (by decide) (fun c7 => ?_) (fun c7 => ?_)
        ·
          refine lv_goto (tgt := 1110) hx hb dL_law_654 (by decide) ?_
          refine W.widen (k := 60 + i + 1) (n := 11000 + 6 * i + 6) (by omega) (by omega) ?_
          exact kk _ _ ls ⟨la, n, v, C, G, X, D, B, bu, lp, (vp_updL ov 0 r1.toInt64), 0, LG, LC, ch, hI.mono (Nat.le_succ i), hP, hD, hS⟩ (lv_sub hl [2, 3, 4, 5, 6] rfl)
        · exact absurd ((lg_cmp_eq _ _).mpr (by rw [htie])) c7
  ·
    refine lv_aload_n hx hb dL_law_589 rfl (lv_at hl 2 rfl) ?_
    refine lv_aload_n hx hb dL_law_590 rfl (lv_at hl 1 rfl) ?_
    refine lv_iload hx hb dL_law_591 (lv_at hl 0 rfl) ?_
    refine lv_iconst (v := 1) hx hb dL_law_593 (by decide) ?_
    refine lv_iadd hx hb dL_law_594 ?_
    refine lv_topi (fun y1 ey1 => ?_)
    have hy1 : y1 = nI (i + 1) := by rw [ey1]; exact nI_add i 1
    subst hy1
    refine sldN hx hb hXs hbl hbA hS (k := i + 1) (by omega) (by omega) hv1 dL_law_595 ?_
    refine lv_aload_n hx hb dL_law_596 rfl (lv_at hl 1 rfl) ?_
    refine lv_iload hx hb dL_law_597 (lv_at hl 0 rfl) ?_
    refine lv_iconst (v := 2) hx hb dL_law_599 (by decide) ?_
    refine lv_iadd hx hb dL_law_600 ?_
    refine lv_topi (fun y2 ey2 => ?_)
    have hy2 : y2 = nI (i + 2) := by rw [ey2]; exact nI_add i 2
    subst hy2
    refine sldN hx hb hXs hbl hbA hS (k := i + 2) (by omega) (by omega) hv2 dL_law_601 ?_
    refine lv_aload_n hx hb dL_law_602 rfl (lv_at hl 4 rfl) ?_
    refine callLB (As := [.ref o, .int v1, .int v2, .ref u]) (rest := []) ⟨hx, hb, hml, hown, hts⟩ mcB_in (c_L_told_bad l dC dI o a q r cI cG la n v C G X D B bu lp u hlt v1 v2 hn hok) kw338 kw339 kw24 kw340 ⟨rfl, rfl⟩ (n := 4) (by decide +kernel) ⟨Nat.le_of_ble_eq_true rfl, Nat.le_of_ble_eq_true rfl⟩ hP.lft.lft hKH hTh hS rfl hl.1 rfl (Nat.le_of_ble_eq_true rfl) ⟨by show 60 + i + 1 ≤ 601024; omega, by show 11000 + 6 * i + 6 ≤ 7293034; omega⟩ dL_law_603 (fun H1 locs1 hz1 hk1 hS1 => ?_)
    have hP := P_keep hP hk1
    have hS := hS1
    refine lv_istore (lv' := [(5, .int 1), (4, .int (nI i)), (0, .ref b), (1, .ref o), (2, .ref (w 0)), (3, .ref u)]) hx hb dL_law_606 hl (by decide) rfl (fun ls hl => ?_)
    refine lv_aload_n hx hb dL_law_608 rfl (lv_at hl 4 rfl) ?_
    refine lv_aload_n hx hb dL_law_609 rfl (lv_at hl 2 rfl) ?_
    refine lv_iload hx hb dL_law_610 (lv_at hl 1 rfl) ?_
    refine lv_iconst (v := 1) hx hb dL_law_612 (by decide) ?_
    refine lv_iadd hx hb dL_law_613 ?_
    refine lv_topi (fun y3 ey3 => ?_)
    have hy3 : y3 = nI (i + 1) := by rw [ey3]; exact nI_add i 1
    subst hy3
    refine sldN hx hb hXs hbl hbA hS (k := i + 1) (by omega) (by omega) hv1 dL_law_614 ?_
    refine lv_aload_n hx hb dL_law_615 rfl (lv_at hl 2 rfl) ?_
    refine lv_iload hx hb dL_law_616 (lv_at hl 1 rfl) ?_
    refine lv_iconst (v := 2) hx hb dL_law_618 (by decide) ?_
    refine lv_iadd hx hb dL_law_619 ?_
    refine lv_topi (fun y4 ey4 => ?_)
    have hy4 : y4 = nI (i + 2) := by rw [ey4]; exact nI_add i 2
    subst hy4
    refine sldN hx hb hXs hbl hbA hS (k := i + 2) (by omega) (by omega) hv2 dL_law_620 ?_
    have hPt := P_perm (pm_rot _ _) hP
    have hDt := D_perm (pm_rot _ _) hD
    refine callWXi (As := [.int v1, .int v2]) (rest := []) ⟨hx, hb, hml, hown, hts⟩ mcB_in (c_R_told_bad l dC dI w cI cZ th n C G X D B bu LG LC ch H1.size v1 v2 hn hok) kw540 kw541 kw542 kw29 kw543 ⟨rfl, rfl⟩ (n := 2) (by decide +kernel) ⟨Nat.le_of_ble_eq_true rfl, Nat.le_of_ble_eq_true rfl⟩ hPt.lft hKR hDt.lft hS (va_freeL hDt hS hA) (ci := 4) (q0 := 0) rfl rfl rfl hl.1 rfl (Nat.le_of_ble_eq_true rfl) ⟨by show 60 + i + 1 ≤ 601024; omega, by show 11000 + 6 * i + 6 ≤ 7293034; omega⟩ dL_law_621 (fun r2 x2 H2 locs2 hr2 hP2 hD2 hk2 hS2 => ?_)
    obtain ⟨hPn, hDn⟩ := va_jnL hPt hDt hk2 (va_freeL hDt hS hA) hP2 hD2
    have hS := hS2
    have hP := P_perm (pm_rot _ _) hPn
    have hD := D_perm (pm_rot _ _) hDn
    have hP : va_P (dC, dI) mcCl (mcWL o a q r cI cG la n v C G X D B bu lp u cJ ov ++ mcWR w cI cZ 1 n C G X D B bu LG LC ch) H2 := hP
    have hD : va_D (mcAA s) (mcWL o a q r cI cG la n v C G X D B bu lp u cJ ov ++ mcWR w cI cZ 1 n C G X D B bu LG LC ch) := hD
    refine lv_istore (lv' := [(6, .int r2), (5, .int 1), (4, .int (nI i)), (0, .ref b), (1, .ref o), (2, .ref (w 0)), (3, .ref u)]) hx hb dL_law_624 hl (by decide) rfl (fun ls hl => ?_)
    refine lv_aload_n hx hb dL_law_626 rfl (lv_at hl 5 rfl) ?_
    refine callRV (As := []) (rest := []) ⟨hx, hb, hml, hown, hts⟩ mcB_in (c_R_thrown l dC dI w cI cZ 1 n C G X D B bu LG LC ch) kw494 kw495 kw496 kw29 kw497 ⟨rfl, rfl⟩ (n := 0) (by decide +kernel) ⟨Nat.le_of_ble_eq_true rfl, Nat.le_of_ble_eq_true rfl⟩ (roP_preV (P_perm (pm_rot _ _) hP).lft hKR (ci := 4) (q0 := 0) rfl rfl) rfl hl.1 rfl (Nat.le_of_ble_eq_true rfl) ⟨by show 60 + i + 1 ≤ 601024; omega, by show 11000 + 6 * i + 6 ≤ 7293034; omega⟩ dL_law_627 (fun r3 hr3 => ?_)
    subst hr3
    refine lv_iload hx hb dL_law_630 (lv_at hl 1 rfl) ?_
    refine lv_icmp_eq (tgt := 637) hx hb dL_law_632 (by decide) (fun c5 => ?_) (fun c5 => ?_)
    rotate_left
    · exact absurd (rfl : (nI 1) = 1) c5
    refine lv_iload hx hb dL_law_637 (lv_at hl 1 rfl) ?_
    refine lv_if_ne (tgt := 654) hx hb dL_law_639 (by decide) (fun c6 => ?_) (fun c6 => ?_)
    rotate_left
    · exact absurd c6 (by decide)
    refine lv_goto (tgt := 1110) hx hb dL_law_654 (by decide) ?_
    exact kk _ _ ls ⟨la, n, v, C, G, X, D, B, bu, lp, ov, 1, LG, LC, ch, hI.mono (Nat.le_succ i), hP, hD, hS⟩ (lv_sub hl [2, 3, 4, 5, 6] rfl)
set_option maxHeartbeats 4000000 in
set_option maxRecDepth 100000 in
theorem law_7 {p : Program} {l : Launch} {e : Env} {s : State} {m : MethodId} {below : List Frame} {meth : Method} {c : Code} {H : Heap} {locs : List Loc} {Q : State → Prop} {ls : Array Slot} {dC : Nat → ClassId} {dI : Nat → Nat → Nat} {b L : Nat} {xs : Nat → Int32} {o : Nat} {a q r : Nat → Nat} {cI cG cZ cJ : ClassId} {u : Nat} {w : Nat → Nat} {i : Nat} (Cx : mcCx p l s m c b L xs dC dI cI cG cZ cJ) (hi : i + 4 ≤ L) (hLS : mcLS s dC dI o a q r cI cG cZ cJ u w i H locs) (hl : lv_has ls 7 [(4, .int (nI i)), (0, .ref b), (1, .ref o), (2, .ref (w 0)), (3, .ref u)])
    (kk : ∀ (H : Heap) (locs : List Loc) (ls : Array Slot), mcLS s dC dI o a q r cI cG cZ cJ u w (i + 1) H locs → lv_has ls 7 [(4, .int (nI i)), (0, .ref b), (1, .ref o), (2, .ref (w 0)), (3, .ref u)] → W p l e room_1 s m #[Value.ref b] below meth c H locs (60 + i + 1) (11000 + 6 * i + 6) Q (F0 m 1110 ls [])) : W p l e room_1 s m #[Value.ref b] below meth c H locs (60 + i) (11000 + 6 * i) Q (F0 m 657 ls []) := by
  obtain ⟨hx, hb, hml, hown, hts, hXs, hbl, hlt, hL, hK, hTh0⟩ := Cx
  obtain ⟨la, n, v, C, G, X, D, B, bu, lp, ov, th, LG, LC, ch, hI, hP, hD, hS⟩ := hLS
  have hA : ∀ q : Nat, s.heap.size ≤ q → mcAA s q := fun _ h => h
  have hbA : ¬ mcAA s b := Nat.not_le.mpr hbl
  obtain ⟨hn, hC1, hC, hG, hB, hXn, hDn, hbu, hIA, hvi⟩ := id hI
  have hX : ∀ m, X m < 4096 := fun m => mc_lt12 hn (hXn m)
  have hDD : ∀ m, D m < 4096 := fun m => mc_lt12 hn (hDn m)
  have hv3 : v < 2147483648 := by omega
  have hTh : mcTh s H := hTh0.keep (fun q hq => hS.2.1 q hq (Nat.not_le.mpr hq))
  have hKR := hK.sub (tys' := mcTR cI cZ) [0, 2] rfl
  have hKH := hK.sub (tys' := mcTH cI cG) [0, 1] rfl
  obtain ⟨v1, hv1⟩ : ∃ v, xs (i + 1) = v := ⟨_, rfl⟩
  obtain ⟨v2, hv2⟩ : ∃ v, xs (i + 2) = v := ⟨_, rfl⟩
  obtain ⟨v3, hv3v⟩ : ∃ v, xs (i + 3) = v := ⟨_, rfl⟩
  by_cases hok : (∃ k, k < n ∧ v1 = nI k)
  ·
    obtain ⟨mm, hm, rfl⟩ := hok
    refine lv_aload_n hx hb dL_law_657 rfl (lv_at hl 2 rfl) ?_
    refine lv_aload_n hx hb dL_law_658 rfl (lv_at hl 1 rfl) ?_
    refine lv_iload hx hb dL_law_659 (lv_at hl 0 rfl) ?_
    refine lv_iconst (v := 1) hx hb dL_law_661 (by decide) ?_
    refine lv_iadd hx hb dL_law_662 ?_
    refine lv_topi (fun y1 ey1 => ?_)
    have hy1 : y1 = nI (i + 1) := by rw [ey1]; exact nI_add i 1
    subst hy1
    refine sldN hx hb hXs hbl hbA hS (k := i + 1) (by omega) (by omega) hv1 dL_law_663 ?_
    refine lv_aload_n hx hb dL_law_664 rfl (lv_at hl 4 rfl) ?_
    refine callLW (As := [.ref o, .int (nI mm), .ref u]) (rest := []) ⟨hx, hb, hml, hown, hts⟩ mcB_in (c_L_closure_ok l dC dI o a q r cI cG la n v C G X D B bu lp cZ cJ u ov H.size mm hm hn hDn) kw356 kw357 kw24 kw358 ⟨rfl, rfl⟩ (n := 3) (by decide +kernel) ⟨Nat.le_of_ble_eq_true rfl, Nat.le_of_ble_eq_true rfl⟩ hP.lft hK hD.lft hS (va_freeL hD hS hA) rfl hl.1 rfl (Nat.le_of_ble_eq_true rfl) ⟨by show 60 + i ≤ 601024; omega, by show 11000 + 6 * i ≤ 7293034; omega⟩ dL_law_665 (fun z1 x1 H1 locs1 hz1 hP1 hD1 hk1 hS1 => ?_)
    obtain ⟨r1, y1⟩ := x1
    obtain ⟨hz0, hr1⟩ := hz1
    dsimp only at hr1
    subst hz0
    have hP1 : va_P (dC, dI) mcCl (mcWL o a q r cI cG la n v C G X D B bu lp u cJ (vp_updL ov 0 r1.toInt64)) H1 := hP1
    have hD1 : va_D _ (mcWL o a q r cI cG la n v C G X D B bu lp u cJ (vp_updL ov 0 r1.toInt64)) := hD1
    obtain ⟨hP, hD⟩ := va_jnL hP hD hk1 (va_freeL hD hS hA) hP1 hD1
    have hS := hS1
    refine lv_istore (lv' := [(5, .int 0), (4, .int (nI i)), (0, .ref b), (1, .ref o), (2, .ref (w 0)), (3, .ref u)]) hx hb dL_law_668 hl (by decide) rfl (fun ls hl => ?_)
    refine lv_aload_n hx hb dL_law_670 rfl (lv_at hl 4 rfl) ?_
    refine lv_aload_n hx hb dL_law_671 rfl (lv_at hl 2 rfl) ?_
    refine lv_iload hx hb dL_law_672 (lv_at hl 1 rfl) ?_
    refine lv_iconst (v := 1) hx hb dL_law_674 (by decide) ?_
    refine lv_iadd hx hb dL_law_675 ?_
    refine lv_topi (fun y2 ey2 => ?_)
    have hy2 : y2 = nI (i + 1) := by rw [ey2]; exact nI_add i 1
    subst hy2
    refine sldN hx hb hXs hbl hbA hS (k := i + 1) (by omega) (by omega) hv1 dL_law_676 ?_
    have hPt := P_perm (pm_rot _ _) hP
    have hDt := D_perm (pm_rot _ _) hD
    refine callWXi (As := [.int (nI mm)]) (rest := []) ⟨hx, hb, hml, hown, hts⟩ mcB_in (c_R_closure_ok l dC dI w cI cZ th n C G X D B bu LG LC ch H1.size mm hn hm hDn) kw550 kw551 kw552 kw29 kw553 ⟨rfl, rfl⟩ (n := 1) (by decide +kernel) ⟨Nat.le_of_ble_eq_true rfl, Nat.le_of_ble_eq_true rfl⟩ hPt.lft hKR hDt.lft hS (va_freeL hDt hS hA) (ci := 4) (q0 := 0) rfl rfl rfl hl.1 rfl (Nat.le_of_ble_eq_true rfl) ⟨by show 60 + i ≤ 601024; omega, by show 11000 + 6 * i ≤ 7293034; omega⟩ dL_law_677 (fun r2 x2 H2 locs2 hr2 hP2 hD2 hk2 hS2 => ?_)
    obtain ⟨hPn, hDn⟩ := va_jnL hPt hDt hk2 (va_freeL hDt hS hA) hP2 hD2
    have hS := hS2
    have hP := P_perm (pm_rot _ _) hPn
    have hD := D_perm (pm_rot _ _) hDn
    have hP : va_P (dC, dI) mcCl (mcWL o a q r cI cG la n v C G X D B bu lp u cJ (vp_updL ov 0 r1.toInt64) ++ mcWR w cI cZ 0 n C G X D B bu LG LC ch) H2 := hP
    have hD : va_D (mcAA s) (mcWL o a q r cI cG la n v C G X D B bu lp u cJ (vp_updL ov 0 r1.toInt64) ++ mcWR w cI cZ 0 n C G X D B bu LG LC ch) := hD
    refine lv_istore (lv' := [(6, .int r2), (5, .int 0), (4, .int (nI i)), (0, .ref b), (1, .ref o), (2, .ref (w 0)), (3, .ref u)]) hx hb dL_law_680 hl (by decide) rfl (fun ls hl => ?_)
    refine lv_aload_n hx hb dL_law_682 rfl (lv_at hl 5 rfl) ?_
    refine callRV (As := []) (rest := []) ⟨hx, hb, hml, hown, hts⟩ mcB_in (c_R_thrown l dC dI w cI cZ 0 n C G X D B bu LG LC ch) kw494 kw495 kw496 kw29 kw497 ⟨rfl, rfl⟩ (n := 0) (by decide +kernel) ⟨Nat.le_of_ble_eq_true rfl, Nat.le_of_ble_eq_true rfl⟩ (roP_preV (P_perm (pm_rot _ _) hP).lft hKR (ci := 4) (q0 := 0) rfl rfl) rfl hl.1 rfl (Nat.le_of_ble_eq_true rfl) ⟨by show 60 + i ≤ 601024; omega, by show 11000 + 6 * i ≤ 7293034; omega⟩ dL_law_683 (fun r3 hr3 => ?_)
    subst hr3
    refine lv_iload hx hb dL_law_686 (lv_at hl 1 rfl) ?_
    refine lv_icmp_eq (tgt := 693) hx hb dL_law_688 (by decide) (fun c3 => ?_) (fun c3 => ?_)
    rotate_left
    · exact absurd (rfl : (nI 0) = 0) c3
    refine lv_iload hx hb dL_law_693 (lv_at hl 1 rfl) ?_
    refine lv_if_ne (tgt := 710) hx hb dL_law_695 (by decide) (fun c4 => ?_) (fun c4 => ?_)
    · exact absurd (rfl : (0 : Int32) = 0) c4
    ·
      have htie : r1 = r2 := by obtain ⟨S1, e1, k1⟩ := hr1; obtain ⟨S2, e2, k2⟩ := hr2; rw [e1, e2, mc_clo_uniq k1 k2]
      refine lv_aload_n hx hb dL_law_698 rfl (lv_at hl 6 rfl) ?_
      refine lv_iconst (v := 0) hx hb dL_law_699 (by decide) ?_
      refine va_lald hx hb hK hP 37 3 rfl rfl (i := 0) (vp_in_nI (n := 0) (N := 1) (by decide) (by decide)) dL_law_700 ?_
      refine W.eq (g2 := F0 m 701 ls [.long r1.toInt64]) rfl ?_
      refine lv_iload hx hb dL_law_701 (lv_at hl 0 rfl) ?_
      refine lv_i2l (v := (r2).toInt64) hx hb dL_law_703 rfl ?_
      refine W.lcmp hx hb dL_law_704 ?_
      refine lv_if_eq (tgt := 710) hx hb dL_law_705 (by decide) (fun c5 => ?_) (fun c5 => ?_)
      ·
        refine lv_goto (tgt := 1110) hx hb dL_law_710 (by decide) ?_
        refine W.widen (k := 60 + i + 1) (n := 11000 + 6 * i + 6) (by omega) (by omega) ?_
        exact kk _ _ ls ⟨la, n, v, C, G, X, D, B, bu, lp, (vp_updL ov 0 r1.toInt64), 0, LG, LC, ch, hI.mono (Nat.le_succ i), hP, hD, hS⟩ (lv_sub hl [2, 3, 4, 5, 6] rfl)
      · exact absurd ((lg_cmp_eq _ _).mpr (by rw [htie])) c5
  ·
    refine lv_aload_n hx hb dL_law_657 rfl (lv_at hl 2 rfl) ?_
    refine lv_aload_n hx hb dL_law_658 rfl (lv_at hl 1 rfl) ?_
    refine lv_iload hx hb dL_law_659 (lv_at hl 0 rfl) ?_
    refine lv_iconst (v := 1) hx hb dL_law_661 (by decide) ?_
    refine lv_iadd hx hb dL_law_662 ?_
    refine lv_topi (fun y1 ey1 => ?_)
    have hy1 : y1 = nI (i + 1) := by rw [ey1]; exact nI_add i 1
    subst hy1
    refine sldN hx hb hXs hbl hbA hS (k := i + 1) (by omega) (by omega) hv1 dL_law_663 ?_
    refine lv_aload_n hx hb dL_law_664 rfl (lv_at hl 4 rfl) ?_
    refine callLB (As := [.ref o, .int v1, .ref u]) (rest := []) ⟨hx, hb, hml, hown, hts⟩ mcB_in (c_L_closure_bad l dC dI o a q r cI cG la n v C G X D B bu lp u hlt v1 hn hok) kw356 kw357 kw24 kw358 ⟨rfl, rfl⟩ (n := 3) (by decide +kernel) ⟨Nat.le_of_ble_eq_true rfl, Nat.le_of_ble_eq_true rfl⟩ hP.lft.lft hKH hTh hS rfl hl.1 rfl (Nat.le_of_ble_eq_true rfl) ⟨by show 60 + i + 1 ≤ 601024; omega, by show 11000 + 6 * i + 6 ≤ 7293034; omega⟩ dL_law_665 (fun H1 locs1 hz1 hk1 hS1 => ?_)
    have hP := P_keep hP hk1
    have hS := hS1
    refine lv_istore (lv' := [(5, .int 1), (4, .int (nI i)), (0, .ref b), (1, .ref o), (2, .ref (w 0)), (3, .ref u)]) hx hb dL_law_668 hl (by decide) rfl (fun ls hl => ?_)
    refine lv_aload_n hx hb dL_law_670 rfl (lv_at hl 4 rfl) ?_
    refine lv_aload_n hx hb dL_law_671 rfl (lv_at hl 2 rfl) ?_
    refine lv_iload hx hb dL_law_672 (lv_at hl 1 rfl) ?_
    refine lv_iconst (v := 1) hx hb dL_law_674 (by decide) ?_
    refine lv_iadd hx hb dL_law_675 ?_
    refine lv_topi (fun y2 ey2 => ?_)
    have hy2 : y2 = nI (i + 1) := by rw [ey2]; exact nI_add i 1
    subst hy2
    refine sldN hx hb hXs hbl hbA hS (k := i + 1) (by omega) (by omega) hv1 dL_law_676 ?_
    have hPt := P_perm (pm_rot _ _) hP
    have hDt := D_perm (pm_rot _ _) hD
    refine callWXi (As := [.int v1]) (rest := []) ⟨hx, hb, hml, hown, hts⟩ mcB_in (c_R_closure_bad l dC dI w cI cZ th n C G X D B bu LG LC ch H1.size v1 hn hok) kw550 kw551 kw552 kw29 kw553 ⟨rfl, rfl⟩ (n := 1) (by decide +kernel) ⟨Nat.le_of_ble_eq_true rfl, Nat.le_of_ble_eq_true rfl⟩ hPt.lft hKR hDt.lft hS (va_freeL hDt hS hA) (ci := 4) (q0 := 0) rfl rfl rfl hl.1 rfl (Nat.le_of_ble_eq_true rfl) ⟨by show 60 + i + 1 ≤ 601024; omega, by show 11000 + 6 * i + 6 ≤ 7293034; omega⟩ dL_law_677 (fun r2 x2 H2 locs2 hr2 hP2 hD2 hk2 hS2 => ?_)
    obtain ⟨hPn, hDn⟩ := va_jnL hPt hDt hk2 (va_freeL hDt hS hA) hP2 hD2
    have hS := hS2
    have hP := P_perm (pm_rot _ _) hPn
    have hD := D_perm (pm_rot _ _) hDn
    have hP : va_P (dC, dI) mcCl (mcWL o a q r cI cG la n v C G X D B bu lp u cJ ov ++ mcWR w cI cZ 1 n C G X D B bu LG LC ch) H2 := hP
    have hD : va_D (mcAA s) (mcWL o a q r cI cG la n v C G X D B bu lp u cJ ov ++ mcWR w cI cZ 1 n C G X D B bu LG LC ch) := hD
    refine lv_istore (lv' := [(6, .int r2), (5, .int 1), (4, .int (nI i)), (0, .ref b), (1, .ref o), (2, .ref (w 0)), (3, .ref u)]) hx hb dL_law_680 hl (by decide) rfl (fun ls hl => ?_)
    refine lv_aload_n hx hb dL_law_682 rfl (lv_at hl 5 rfl) ?_
    refine callRV (As := []) (rest := []) ⟨hx, hb, hml, hown, hts⟩ mcB_in (c_R_thrown l dC dI w cI cZ 1 n C G X D B bu LG LC ch) kw494 kw495 kw496 kw29 kw497 ⟨rfl, rfl⟩ (n := 0) (by decide +kernel) ⟨Nat.le_of_ble_eq_true rfl, Nat.le_of_ble_eq_true rfl⟩ (roP_preV (P_perm (pm_rot _ _) hP).lft hKR (ci := 4) (q0 := 0) rfl rfl) rfl hl.1 rfl (Nat.le_of_ble_eq_true rfl) ⟨by show 60 + i + 1 ≤ 601024; omega, by show 11000 + 6 * i + 6 ≤ 7293034; omega⟩ dL_law_683 (fun r3 hr3 => ?_)
    subst hr3
    refine lv_iload hx hb dL_law_686 (lv_at hl 1 rfl) ?_
    refine lv_icmp_eq (tgt := 693) hx hb dL_law_688 (by decide) (fun c3 => ?_) (fun c3 => ?_)
    rotate_left
    · exact absurd (rfl : (nI 1) = 1) c3
    refine lv_iload hx hb dL_law_693 (lv_at hl 1 rfl) ?_
    refine lv_if_ne (tgt := 710) hx hb dL_law_695 (by decide) (fun c4 => ?_) (fun c4 => ?_)
    rotate_left
    · exact absurd c4 (by decide)
    refine lv_goto (tgt := 1110) hx hb dL_law_710 (by decide) ?_
    exact kk _ _ ls ⟨la, n, v, C, G, X, D, B, bu, lp, ov, 1, LG, LC, ch, hI.mono (Nat.le_succ i), hP, hD, hS⟩ (lv_sub hl [2, 3, 4, 5, 6] rfl)
set_option maxHeartbeats 4000000 in
set_option maxRecDepth 100000 in
theorem law_8 {p : Program} {l : Launch} {e : Env} {s : State} {m : MethodId} {below : List Frame} {meth : Method} {c : Code} {H : Heap} {locs : List Loc} {Q : State → Prop} {ls : Array Slot} {dC : Nat → ClassId} {dI : Nat → Nat → Nat} {b L : Nat} {xs : Nat → Int32} {o : Nat} {a q r : Nat → Nat} {cI cG cZ cJ : ClassId} {u : Nat} {w : Nat → Nat} {i : Nat} (Cx : mcCx p l s m c b L xs dC dI cI cG cZ cJ) (hi : i + 4 ≤ L) (hLS : mcLS s dC dI o a q r cI cG cZ cJ u w i H locs) (hl : lv_has ls 7 [(4, .int (nI i)), (0, .ref b), (1, .ref o), (2, .ref (w 0)), (3, .ref u)])
    (kk : ∀ (H : Heap) (locs : List Loc) (ls : Array Slot), mcLS s dC dI o a q r cI cG cZ cJ u w (i + 1) H locs → lv_has ls 7 [(4, .int (nI i)), (0, .ref b), (1, .ref o), (2, .ref (w 0)), (3, .ref u)] → W p l e room_1 s m #[Value.ref b] below meth c H locs (60 + i + 1) (11000 + 6 * i + 6) Q (F0 m 1110 ls [])) : W p l e room_1 s m #[Value.ref b] below meth c H locs (60 + i) (11000 + 6 * i) Q (F0 m 713 ls []) := by
  obtain ⟨hx, hb, hml, hown, hts, hXs, hbl, hlt, hL, hK, hTh0⟩ := Cx
  obtain ⟨la, n, v, C, G, X, D, B, bu, lp, ov, th, LG, LC, ch, hI, hP, hD, hS⟩ := hLS
  have hA : ∀ q : Nat, s.heap.size ≤ q → mcAA s q := fun _ h => h
  have hbA : ¬ mcAA s b := Nat.not_le.mpr hbl
  obtain ⟨hn, hC1, hC, hG, hB, hXn, hDn, hbu, hIA, hvi⟩ := id hI
  have hX : ∀ m, X m < 4096 := fun m => mc_lt12 hn (hXn m)
  have hDD : ∀ m, D m < 4096 := fun m => mc_lt12 hn (hDn m)
  have hv3 : v < 2147483648 := by omega
  have hTh : mcTh s H := hTh0.keep (fun q hq => hS.2.1 q hq (Nat.not_le.mpr hq))
  have hKR := hK.sub (tys' := mcTR cI cZ) [0, 2] rfl
  have hKH := hK.sub (tys' := mcTH cI cG) [0, 1] rfl
  obtain ⟨v1, hv1⟩ : ∃ v, xs (i + 1) = v := ⟨_, rfl⟩
  obtain ⟨v2, hv2⟩ : ∃ v, xs (i + 2) = v := ⟨_, rfl⟩
  obtain ⟨v3, hv3v⟩ : ∃ v, xs (i + 3) = v := ⟨_, rfl⟩
  by_cases hok : ¬ v1 < 0
  ·
    obtain ⟨bb, hb9, rfl⟩ := nI_of hok
    refine lv_aload_n hx hb dL_law_713 rfl (lv_at hl 2 rfl) ?_
    refine lv_aload_n hx hb dL_law_714 rfl (lv_at hl 1 rfl) ?_
    refine lv_iload hx hb dL_law_715 (lv_at hl 0 rfl) ?_
    refine lv_iconst (v := 1) hx hb dL_law_717 (by decide) ?_
    refine lv_iadd hx hb dL_law_718 ?_
    refine lv_topi (fun y1 ey1 => ?_)
    have hy1 : y1 = nI (i + 1) := by rw [ey1]; exact nI_add i 1
    subst hy1
    refine sldN hx hb hXs hbl hbA hS (k := i + 1) (by omega) (by omega) hv1 dL_law_719 ?_
    refine lv_aload_n hx hb dL_law_720 rfl (lv_at hl 4 rfl) ?_
    refine callLW (As := [.ref o, .int (nI bb), .ref u]) (rest := []) ⟨hx, hb, hml, hown, hts⟩ mcB_in (c_L_best_ok l dC dI o a q r cI cG la n v C G X D B bu lp cZ cJ u ov H.size bb hb9 hn hC hG hB hX hDD hv3 hIA) kw370 kw371 kw24 kw372 ⟨rfl, rfl⟩ (n := 3) (by decide +kernel) ⟨Nat.le_of_ble_eq_true rfl, Nat.le_of_ble_eq_true rfl⟩ hP.lft hK hD.lft hS (va_freeL hD hS hA) rfl hl.1 rfl (Nat.le_of_ble_eq_true rfl) ⟨by show 60 + i ≤ 601024; omega, by show 11000 + 6 * i ≤ 7293034; omega⟩ dL_law_721 (fun z1 x1 H1 locs1 hz1 hP1 hD1 hk1 hS1 => ?_)
    obtain ⟨r1, y1⟩ := x1
    obtain ⟨hz0, hr1⟩ := hz1
    dsimp only at hr1
    subst hz0
    have hP1 : va_P (dC, dI) mcCl (mcWL o a q r cI cG y1 n v C G X D B bu lp u cJ (vp_updL ov 0 r1.toInt64)) H1 := hP1
    have hD1 : va_D _ (mcWL o a q r cI cG y1 n v C G X D B bu lp u cJ (vp_updL ov 0 r1.toInt64)) := hD1
    obtain ⟨hP, hD⟩ := va_jnL hP hD hk1 (va_freeL hD hS hA) hP1 hD1
    have hS := hS1
    refine lv_istore (lv' := [(5, .int 0), (4, .int (nI i)), (0, .ref b), (1, .ref o), (2, .ref (w 0)), (3, .ref u)]) hx hb dL_law_724 hl (by decide) rfl (fun ls hl => ?_)
    refine lv_aload_n hx hb dL_law_726 rfl (lv_at hl 4 rfl) ?_
    refine lv_aload_n hx hb dL_law_727 rfl (lv_at hl 2 rfl) ?_
    refine lv_iload hx hb dL_law_728 (lv_at hl 1 rfl) ?_
    refine lv_iconst (v := 1) hx hb dL_law_730 (by decide) ?_
    refine lv_iadd hx hb dL_law_731 ?_
    refine lv_topi (fun y2 ey2 => ?_)
    have hy2 : y2 = nI (i + 1) := by rw [ey2]; exact nI_add i 1
    subst hy2
    refine sldN hx hb hXs hbl hbA hS (k := i + 1) (by omega) (by omega) hv1 dL_law_732 ?_
    have hPt := P_perm (pm_rot _ _) hP
    have hDt := D_perm (pm_rot _ _) hD
    refine callWXi (As := [.int (nI bb)]) (rest := []) ⟨hx, hb, hml, hown, hts⟩ mcB_in (c_R_best_ok l dC dI w cI cZ th n C G X D B bu LG LC ch H1.size bb hb9 hn hC hG hB hXn hDn) kw554 kw555 kw556 kw29 kw557 ⟨rfl, rfl⟩ (n := 1) (by decide +kernel) ⟨Nat.le_of_ble_eq_true rfl, Nat.le_of_ble_eq_true rfl⟩ hPt.lft hKR hDt.lft hS (va_freeL hDt hS hA) (ci := 4) (q0 := 0) rfl rfl rfl hl.1 rfl (Nat.le_of_ble_eq_true rfl) ⟨by show 60 + i ≤ 601024; omega, by show 11000 + 6 * i ≤ 7293034; omega⟩ dL_law_733 (fun r2 x2 H2 locs2 hr2 hP2 hD2 hk2 hS2 => ?_)
    obtain ⟨hPn, hDn⟩ := va_jnL hPt hDt hk2 (va_freeL hDt hS hA) hP2 hD2
    have hS := hS2
    have hP := P_perm (pm_rot _ _) hPn
    have hD := D_perm (pm_rot _ _) hDn
    have hP : va_P (dC, dI) mcCl (mcWL o a q r cI cG y1 n v C G X D B bu lp u cJ (vp_updL ov 0 r1.toInt64) ++ mcWR w cI cZ 0 n C G X D B bu LG LC ch) H2 := hP
    have hD : va_D (mcAA s) (mcWL o a q r cI cG y1 n v C G X D B bu lp u cJ (vp_updL ov 0 r1.toInt64) ++ mcWR w cI cZ 0 n C G X D B bu LG LC ch) := hD
    refine lv_istore (lv' := [(6, .int r2), (5, .int 0), (4, .int (nI i)), (0, .ref b), (1, .ref o), (2, .ref (w 0)), (3, .ref u)]) hx hb dL_law_736 hl (by decide) rfl (fun ls hl => ?_)
    refine lv_aload_n hx hb dL_law_738 rfl (lv_at hl 5 rfl) ?_
    refine callRV (As := []) (rest := []) ⟨hx, hb, hml, hown, hts⟩ mcB_in (c_R_thrown l dC dI w cI cZ 0 n C G X D B bu LG LC ch) kw494 kw495 kw496 kw29 kw497 ⟨rfl, rfl⟩ (n := 0) (by decide +kernel) ⟨Nat.le_of_ble_eq_true rfl, Nat.le_of_ble_eq_true rfl⟩ (roP_preV (P_perm (pm_rot _ _) hP).lft hKR (ci := 4) (q0 := 0) rfl rfl) rfl hl.1 rfl (Nat.le_of_ble_eq_true rfl) ⟨by show 60 + i ≤ 601024; omega, by show 11000 + 6 * i ≤ 7293034; omega⟩ dL_law_739 (fun r3 hr3 => ?_)
    subst hr3
    refine lv_iload hx hb dL_law_742 (lv_at hl 1 rfl) ?_
    refine lv_icmp_eq (tgt := 749) hx hb dL_law_744 (by decide) (fun c3 => ?_) (fun c3 => ?_)
    rotate_left
    · exact absurd (rfl : (nI 0) = 0) c3
    refine lv_iload hx hb dL_law_749 (lv_at hl 1 rfl) ?_
    refine lv_if_ne (tgt := 766) hx hb dL_law_751 (by decide) (fun c4 => ?_) (fun c4 => ?_)
    · exact absurd (rfl : (0 : Int32) = 0) c4
    ·
      have htie : r1 = r2 := by obtain ⟨⟨s1, e1, k1⟩, -⟩ := hr1; obtain ⟨s2, e2, k2⟩ := hr2; rw [e1, e2, mc_bst_uniq hn k1 k2]
      refine lv_aload_n hx hb dL_law_754 rfl (lv_at hl 6 rfl) ?_
      refine lv_iconst (v := 0) hx hb dL_law_755 (by decide) ?_
      refine va_lald hx hb hK hP 37 3 rfl rfl (i := 0) (vp_in_nI (n := 0) (N := 1) (by decide) (by decide)) dL_law_756 ?_
      refine W.eq (g2 := F0 m 757 ls [.long r1.toInt64]) rfl ?_
      refine lv_iload hx hb dL_law_757 (lv_at hl 0 rfl) ?_
      refine lv_i2l (v := (r2).toInt64) hx hb dL_law_759 rfl ?_
      refine W.lcmp hx hb dL_law_760 ?_
      refine lv_if_eq (tgt := 766) hx hb dL_law_761 (by decide) (fun c5 => ?_) (fun c5 => ?_)
      ·
        refine lv_goto (tgt := 1110) hx hb dL_law_766 (by decide) ?_
        refine W.widen (k := 60 + i + 1) (n := 11000 + 6 * i + 6) (by omega) (by omega) ?_
        exact kk _ _ ls ⟨y1, n, v, C, G, X, D, B, bu, lp, (vp_updL ov 0 r1.toInt64), 0, LG, LC, ch, hI.la' hr1.2, hP, hD, hS⟩ (lv_sub hl [2, 3, 4, 5, 6] rfl)
      · exact absurd ((lg_cmp_eq _ _).mpr (by rw [htie])) c5
  ·
    refine lv_aload_n hx hb dL_law_713 rfl (lv_at hl 2 rfl) ?_
    refine lv_aload_n hx hb dL_law_714 rfl (lv_at hl 1 rfl) ?_
    refine lv_iload hx hb dL_law_715 (lv_at hl 0 rfl) ?_
    refine lv_iconst (v := 1) hx hb dL_law_717 (by decide) ?_
    refine lv_iadd hx hb dL_law_718 ?_
    refine lv_topi (fun y1 ey1 => ?_)
    have hy1 : y1 = nI (i + 1) := by rw [ey1]; exact nI_add i 1
    subst hy1
    refine sldN hx hb hXs hbl hbA hS (k := i + 1) (by omega) (by omega) hv1 dL_law_719 ?_
    refine lv_aload_n hx hb dL_law_720 rfl (lv_at hl 4 rfl) ?_
    refine callLB (As := [.ref o, .int v1, .ref u]) (rest := []) ⟨hx, hb, hml, hown, hts⟩ mcB_in (c_L_best_bad l dC dI o a q r cI cG la n v C G X D B bu lp u hlt v1 hok) kw370 kw371 kw24 kw372 ⟨rfl, rfl⟩ (n := 3) (by decide +kernel) ⟨Nat.le_of_ble_eq_true rfl, Nat.le_of_ble_eq_true rfl⟩ hP.lft.lft hKH hTh hS rfl hl.1 rfl (Nat.le_of_ble_eq_true rfl) ⟨by show 60 + i + 1 ≤ 601024; omega, by show 11000 + 6 * i + 6 ≤ 7293034; omega⟩ dL_law_721 (fun H1 locs1 hz1 hk1 hS1 => ?_)
    have hP := P_keep hP hk1
    have hS := hS1
    refine lv_istore (lv' := [(5, .int 1), (4, .int (nI i)), (0, .ref b), (1, .ref o), (2, .ref (w 0)), (3, .ref u)]) hx hb dL_law_724 hl (by decide) rfl (fun ls hl => ?_)
    refine lv_aload_n hx hb dL_law_726 rfl (lv_at hl 4 rfl) ?_
    refine lv_aload_n hx hb dL_law_727 rfl (lv_at hl 2 rfl) ?_
    refine lv_iload hx hb dL_law_728 (lv_at hl 1 rfl) ?_
    refine lv_iconst (v := 1) hx hb dL_law_730 (by decide) ?_
    refine lv_iadd hx hb dL_law_731 ?_
    refine lv_topi (fun y2 ey2 => ?_)
    have hy2 : y2 = nI (i + 1) := by rw [ey2]; exact nI_add i 1
    subst hy2
    refine sldN hx hb hXs hbl hbA hS (k := i + 1) (by omega) (by omega) hv1 dL_law_732 ?_
    have hPt := P_perm (pm_rot _ _) hP
    have hDt := D_perm (pm_rot _ _) hD
    refine callWXi (As := [.int v1]) (rest := []) ⟨hx, hb, hml, hown, hts⟩ mcB_in (c_R_best_bad l dC dI w cI cZ th n C G X D B bu LG LC ch H1.size v1 hok) kw554 kw555 kw556 kw29 kw557 ⟨rfl, rfl⟩ (n := 1) (by decide +kernel) ⟨Nat.le_of_ble_eq_true rfl, Nat.le_of_ble_eq_true rfl⟩ hPt.lft hKR hDt.lft hS (va_freeL hDt hS hA) (ci := 4) (q0 := 0) rfl rfl rfl hl.1 rfl (Nat.le_of_ble_eq_true rfl) ⟨by show 60 + i + 1 ≤ 601024; omega, by show 11000 + 6 * i + 6 ≤ 7293034; omega⟩ dL_law_733 (fun r2 x2 H2 locs2 hr2 hP2 hD2 hk2 hS2 => ?_)
    obtain ⟨hPn, hDn⟩ := va_jnL hPt hDt hk2 (va_freeL hDt hS hA) hP2 hD2
    have hS := hS2
    have hP := P_perm (pm_rot _ _) hPn
    have hD := D_perm (pm_rot _ _) hDn
    have hP : va_P (dC, dI) mcCl (mcWL o a q r cI cG la n v C G X D B bu lp u cJ ov ++ mcWR w cI cZ 1 n C G X D B bu LG LC ch) H2 := hP
    have hD : va_D (mcAA s) (mcWL o a q r cI cG la n v C G X D B bu lp u cJ ov ++ mcWR w cI cZ 1 n C G X D B bu LG LC ch) := hD
    refine lv_istore (lv' := [(6, .int r2), (5, .int 1), (4, .int (nI i)), (0, .ref b), (1, .ref o), (2, .ref (w 0)), (3, .ref u)]) hx hb dL_law_736 hl (by decide) rfl (fun ls hl => ?_)
    refine lv_aload_n hx hb dL_law_738 rfl (lv_at hl 5 rfl) ?_
    refine callRV (As := []) (rest := []) ⟨hx, hb, hml, hown, hts⟩ mcB_in (c_R_thrown l dC dI w cI cZ 1 n C G X D B bu LG LC ch) kw494 kw495 kw496 kw29 kw497 ⟨rfl, rfl⟩ (n := 0) (by decide +kernel) ⟨Nat.le_of_ble_eq_true rfl, Nat.le_of_ble_eq_true rfl⟩ (roP_preV (P_perm (pm_rot _ _) hP).lft hKR (ci := 4) (q0 := 0) rfl rfl) rfl hl.1 rfl (Nat.le_of_ble_eq_true rfl) ⟨by show 60 + i + 1 ≤ 601024; omega, by show 11000 + 6 * i + 6 ≤ 7293034; omega⟩ dL_law_739 (fun r3 hr3 => ?_)
    subst hr3
    refine lv_iload hx hb dL_law_742 (lv_at hl 1 rfl) ?_
    refine lv_icmp_eq (tgt := 749) hx hb dL_law_744 (by decide) (fun c3 => ?_) (fun c3 => ?_)
    rotate_left
    · exact absurd (rfl : (nI 1) = 1) c3
    refine lv_iload hx hb dL_law_749 (lv_at hl 1 rfl) ?_
    refine lv_if_ne (tgt := 766) hx hb dL_law_751 (by decide) (fun c4 => ?_) (fun c4 => ?_)
    rotate_left
    · exact absurd c4 (by decide)
    refine lv_goto (tgt := 1110) hx hb dL_law_766 (by decide) ?_
    exact kk _ _ ls ⟨la, n, v, C, G, X, D, B, bu, lp, ov, 1, LG, LC, ch, hI.mono (Nat.le_succ i), hP, hD, hS⟩ (lv_sub hl [2, 3, 4, 5, 6] rfl)
set_option maxHeartbeats 4000000 in
set_option maxRecDepth 100000 in
theorem law_9 {p : Program} {l : Launch} {e : Env} {s : State} {m : MethodId} {below : List Frame} {meth : Method} {c : Code} {H : Heap} {locs : List Loc} {Q : State → Prop} {ls : Array Slot} {dC : Nat → ClassId} {dI : Nat → Nat → Nat} {b L : Nat} {xs : Nat → Int32} {o : Nat} {a q r : Nat → Nat} {cI cG cZ cJ : ClassId} {u : Nat} {w : Nat → Nat} {i : Nat} (Cx : mcCx p l s m c b L xs dC dI cI cG cZ cJ) (hi : i + 4 ≤ L) (hLS : mcLS s dC dI o a q r cI cG cZ cJ u w i H locs) (hl : lv_has ls 7 [(4, .int (nI i)), (0, .ref b), (1, .ref o), (2, .ref (w 0)), (3, .ref u)])
    (kk : ∀ (H : Heap) (locs : List Loc) (ls : Array Slot), mcLS s dC dI o a q r cI cG cZ cJ u w (i + 1) H locs → lv_has ls 7 [(4, .int (nI i)), (0, .ref b), (1, .ref o), (2, .ref (w 0)), (3, .ref u)] → W p l e room_1 s m #[Value.ref b] below meth c H locs (60 + i + 1) (11000 + 6 * i + 6) Q (F0 m 1110 ls [])) : W p l e room_1 s m #[Value.ref b] below meth c H locs (60 + i) (11000 + 6 * i) Q (F0 m 769 ls []) := by
  obtain ⟨hx, hb, hml, hown, hts, hXs, hbl, hlt, hL, hK, hTh0⟩ := Cx
  obtain ⟨la, n, v, C, G, X, D, B, bu, lp, ov, th, LG, LC, ch, hI, hP, hD, hS⟩ := hLS
  have hA : ∀ q : Nat, s.heap.size ≤ q → mcAA s q := fun _ h => h
  have hbA : ¬ mcAA s b := Nat.not_le.mpr hbl
  obtain ⟨hn, hC1, hC, hG, hB, hXn, hDn, hbu, hIA, hvi⟩ := id hI
  have hX : ∀ m, X m < 4096 := fun m => mc_lt12 hn (hXn m)
  have hDD : ∀ m, D m < 4096 := fun m => mc_lt12 hn (hDn m)
  have hv3 : v < 2147483648 := by omega
  have hTh : mcTh s H := hTh0.keep (fun q hq => hS.2.1 q hq (Nat.not_le.mpr hq))
  have hKR := hK.sub (tys' := mcTR cI cZ) [0, 2] rfl
  have hKH := hK.sub (tys' := mcTH cI cG) [0, 1] rfl
  obtain ⟨v1, hv1⟩ : ∃ v, xs (i + 1) = v := ⟨_, rfl⟩
  obtain ⟨v2, hv2⟩ : ∃ v, xs (i + 2) = v := ⟨_, rfl⟩
  obtain ⟨v3, hv3v⟩ : ∃ v, xs (i + 3) = v := ⟨_, rfl⟩
  obtain ⟨z, hz1, hz2, rfl⟩ := repI v1
  refine lv_aload_n hx hb dL_law_769 rfl (lv_at hl 2 rfl) ?_
  refine lv_aload_n hx hb dL_law_770 rfl (lv_at hl 1 rfl) ?_
  refine lv_iload hx hb dL_law_771 (lv_at hl 0 rfl) ?_
  refine lv_iconst (v := 1) hx hb dL_law_773 (by decide) ?_
  refine lv_iadd hx hb dL_law_774 ?_
  refine lv_topi (fun y1 ey1 => ?_)
  have hy1 : y1 = nI (i + 1) := by rw [ey1]; exact nI_add i 1
  subst hy1
  refine sldN hx hb hXs hbl hbA hS (k := i + 1) (by omega) (by omega) hv1 dL_law_775 ?_
  have hPa : va_P (dC, dI) mcCl (mcWT o a q r cI cG la n v C G X D B bu lp ++ ([(u, .inl (cJ, 1, .inr (.inl ov)))] ++ mcWR w cI cZ th n C G X D B bu LG LC ch)) H := by rw [← List.append_assoc]; exact hP
  have hDa : va_D (mcAA s) (mcWT o a q r cI cG la n v C G X D B bu lp ++ ([(u, .inl (cJ, 1, .inr (.inl ov)))] ++ mcWR w cI cZ th n C G X D B bu LG LC ch)) := by rw [← List.append_assoc]; exact hD
  refine callWXi (As := [.int (iI z)]) (rest := []) ⟨hx, hb, hml, hown, hts⟩ mcB_in (c_M_budget_ok l dC dI o a q r cI cG la n v C G X D B bu lp H.size z hz1 hz2 hn hC hG hB hX hDD hv3 hIA) kw142 kw143 kw144 kw25 kw145 ⟨rfl, rfl⟩ (n := 1) (by decide +kernel) ⟨Nat.le_of_ble_eq_true rfl, Nat.le_of_ble_eq_true rfl⟩ hPa.lft hKH hDa.lft hS (va_freeL hDa hS hA) (ci := 3) (q0 := 0) rfl rfl rfl hl.1 rfl (Nat.le_of_ble_eq_true rfl) ⟨by show 60 + i ≤ 601024; omega, by show 11000 + 6 * i ≤ 7293034; omega⟩ dL_law_776 (fun r1 y1 H1 locs1 hr1 hP1 hD1 hk1 hS1 => ?_)
  obtain ⟨hPj, hDj⟩ := va_jnL hPa hDa hk1 (va_freeL hDa hS hA) hP1 hD1
  have hS := hS1
  have hP : va_P (dC, dI) mcCl (mcWL o a q r cI cG y1 n v C G X D B bu lp u cJ ov ++ mcWR w cI cZ th n C G X D B bu LG LC ch) H1 := by rw [List.append_assoc]; exact hPj
  have hD : va_D (mcAA s) (mcWL o a q r cI cG y1 n v C G X D B bu lp u cJ ov ++ mcWR w cI cZ th n C G X D B bu LG LC ch) := by rw [List.append_assoc]; exact hDj
  refine lv_aload_n hx hb dL_law_779 rfl (lv_at hl 3 rfl) ?_
  refine lv_aload_n hx hb dL_law_780 rfl (lv_at hl 1 rfl) ?_
  refine lv_iload hx hb dL_law_781 (lv_at hl 0 rfl) ?_
  refine lv_iconst (v := 1) hx hb dL_law_783 (by decide) ?_
  refine lv_iadd hx hb dL_law_784 ?_
  refine lv_topi (fun y2 ey2 => ?_)
  have hy2 : y2 = nI (i + 1) := by rw [ey2]; exact nI_add i 1
  subst hy2
  refine sldN hx hb hXs hbl hbA hS (k := i + 1) (by omega) (by omega) hv1 dL_law_785 ?_
  have hPt := P_perm (pm_rot _ _) hP
  have hDt := D_perm (pm_rot _ _) hD
  refine callWXi (As := [.int (iI z)]) (rest := [.int r1]) ⟨hx, hb, hml, hown, hts⟩ mcB_in (c_R_budget_ok l dC dI w cI cZ th n C G X D B bu LG LC ch H1.size z hz1 hz2 hn hC hG hB hXn hDn) kw561 kw562 kw563 kw29 kw564 ⟨rfl, rfl⟩ (n := 1) (by decide +kernel) ⟨Nat.le_of_ble_eq_true rfl, Nat.le_of_ble_eq_true rfl⟩ hPt.lft hKR hDt.lft hS (va_freeL hDt hS hA) (ci := 4) (q0 := 0) rfl rfl rfl hl.1 rfl (Nat.le_of_ble_eq_true rfl) ⟨by show 60 + i ≤ 601024; omega, by show 11000 + 6 * i ≤ 7293034; omega⟩ dL_law_786 (fun r2 x2 H2 locs2 hr2 hP2 hD2 hk2 hS2 => ?_)
  obtain ⟨hPn, hDn⟩ := va_jnL hPt hDt hk2 (va_freeL hDt hS hA) hP2 hD2
  have hS := hS2
  have hP := P_perm (pm_rot _ _) hPn
  have hD := D_perm (pm_rot _ _) hDn
  have hP : va_P (dC, dI) mcCl (mcWL o a q r cI cG y1 n v C G X D B bu lp u cJ ov ++ mcWR w cI cZ 0 n C G X D B bu LG LC ch) H2 := hP
  have hD : va_D (mcAA s) (mcWL o a q r cI cG y1 n v C G X D B bu lp u cJ ov ++ mcWR w cI cZ 0 n C G X D B bu LG LC ch) := hD
  have htie : r1 = r2 := mc_bud_uniq (n := n) (C := C) (G := G) (X := X) (D := D) (B := B) (z := z) hr1.1 hr2
  refine lv_icmp_eq (tgt := 1110) hx hb dL_law_789 (by decide) (fun c1 => ?_) (fun c1 => ?_)
  ·
    refine W.widen (k := 60 + i + 1) (n := 11000 + 6 * i + 6) (by omega) (by omega) ?_
    exact kk _ _ ls ⟨y1, n, v, C, G, X, D, B, bu, lp, ov, 0, LG, LC, ch, hI.la' hr1.2, hP, hD, hS⟩ (lv_sub hl [0, 1, 2, 3, 4] rfl)
  · exact absurd htie c1
set_option maxHeartbeats 4000000 in
set_option maxRecDepth 100000 in
theorem law_10 {p : Program} {l : Launch} {e : Env} {s : State} {m : MethodId} {below : List Frame} {meth : Method} {c : Code} {H : Heap} {locs : List Loc} {Q : State → Prop} {ls : Array Slot} {dC : Nat → ClassId} {dI : Nat → Nat → Nat} {b L : Nat} {xs : Nat → Int32} {o : Nat} {a q r : Nat → Nat} {cI cG cZ cJ : ClassId} {u : Nat} {w : Nat → Nat} {i : Nat} (Cx : mcCx p l s m c b L xs dC dI cI cG cZ cJ) (hi : i + 4 ≤ L) (hLS : mcLS s dC dI o a q r cI cG cZ cJ u w i H locs) (hl : lv_has ls 7 [(4, .int (nI i)), (0, .ref b), (1, .ref o), (2, .ref (w 0)), (3, .ref u)])
    (kk : ∀ (H : Heap) (locs : List Loc) (ls : Array Slot), mcLS s dC dI o a q r cI cG cZ cJ u w (i + 1) H locs → lv_has ls 7 [(4, .int (nI i)), (0, .ref b), (1, .ref o), (2, .ref (w 0)), (3, .ref u)] → W p l e room_1 s m #[Value.ref b] below meth c H locs (60 + i + 1) (11000 + 6 * i + 6) Q (F0 m 1110 ls [])) : W p l e room_1 s m #[Value.ref b] below meth c H locs (60 + i) (11000 + 6 * i) Q (F0 m 794 ls []) := by
  obtain ⟨hx, hb, hml, hown, hts, hXs, hbl, hlt, hL, hK, hTh0⟩ := Cx
  obtain ⟨la, n, v, C, G, X, D, B, bu, lp, ov, th, LG, LC, ch, hI, hP, hD, hS⟩ := hLS
  have hA : ∀ q : Nat, s.heap.size ≤ q → mcAA s q := fun _ h => h
  have hbA : ¬ mcAA s b := Nat.not_le.mpr hbl
  obtain ⟨hn, hC1, hC, hG, hB, hXn, hDn, hbu, hIA, hvi⟩ := id hI
  have hX : ∀ m, X m < 4096 := fun m => mc_lt12 hn (hXn m)
  have hDD : ∀ m, D m < 4096 := fun m => mc_lt12 hn (hDn m)
  have hv3 : v < 2147483648 := by omega
  have hTh : mcTh s H := hTh0.keep (fun q hq => hS.2.1 q hq (Nat.not_le.mpr hq))
  have hKR := hK.sub (tys' := mcTR cI cZ) [0, 2] rfl
  have hKH := hK.sub (tys' := mcTH cI cG) [0, 1] rfl
  obtain ⟨v1, hv1⟩ : ∃ v, xs (i + 1) = v := ⟨_, rfl⟩
  obtain ⟨v2, hv2⟩ : ∃ v, xs (i + 2) = v := ⟨_, rfl⟩
  obtain ⟨v3, hv3v⟩ : ∃ v, xs (i + 3) = v := ⟨_, rfl⟩
  by_cases hok : ¬ v1 < 0 ∧ ¬ v2 < 0 ∧ v1.toInt + v2.toInt ≤ 1000000
  ·
    obtain ⟨g1, g2, g3⟩ := hok
    obtain ⟨bb, b9, rfl⟩ := nI_of g1
    obtain ⟨mr, m9, rfl⟩ := nI_of g2
    have hb9 : bb + mr ≤ 1000000 := by rw [nI_toInt b9, nI_toInt m9] at g3; omega
    refine lv_aload_n hx hb dL_law_794 rfl (lv_at hl 2 rfl) ?_
    refine lv_aload_n hx hb dL_law_795 rfl (lv_at hl 1 rfl) ?_
    refine lv_iload hx hb dL_law_796 (lv_at hl 0 rfl) ?_
    refine lv_iconst (v := 1) hx hb dL_law_798 (by decide) ?_
    refine lv_iadd hx hb dL_law_799 ?_
    refine lv_topi (fun y1 ey1 => ?_)
    have hy1 : y1 = nI (i + 1) := by rw [ey1]; exact nI_add i 1
    subst hy1
    refine sldN hx hb hXs hbl hbA hS (k := i + 1) (by omega) (by omega) hv1 dL_law_800 ?_
    refine lv_aload_n hx hb dL_law_801 rfl (lv_at hl 1 rfl) ?_
    refine lv_iload hx hb dL_law_802 (lv_at hl 0 rfl) ?_
    refine lv_iconst (v := 2) hx hb dL_law_804 (by decide) ?_
    refine lv_iadd hx hb dL_law_805 ?_
    refine lv_topi (fun y2 ey2 => ?_)
    have hy2 : y2 = nI (i + 2) := by rw [ey2]; exact nI_add i 2
    subst hy2
    refine sldN hx hb hXs hbl hbA hS (k := i + 2) (by omega) (by omega) hv2 dL_law_806 ?_
    refine lv_aload_n hx hb dL_law_807 rfl (lv_at hl 4 rfl) ?_
    refine callLW (As := [.ref o, .int (nI bb), .int (nI mr), .ref u]) (rest := []) ⟨hx, hb, hml, hown, hts⟩ mcB_in (c_L_worth_ok l dC dI o a q r cI cG la n v C G X D B bu lp cZ cJ u ov H.size bb mr hb9 hn hC hG hB hX hDD hv3 hIA) kw385 kw386 kw24 kw387 ⟨rfl, rfl⟩ (n := 4) (by decide +kernel) ⟨Nat.le_of_ble_eq_true rfl, Nat.le_of_ble_eq_true rfl⟩ hP.lft hK hD.lft hS (va_freeL hD hS hA) rfl hl.1 rfl (Nat.le_of_ble_eq_true rfl) ⟨by show 60 + i ≤ 601024; omega, by show 11000 + 6 * i ≤ 7293034; omega⟩ dL_law_808 (fun z1 x1 H1 locs1 hz1 hP1 hD1 hk1 hS1 => ?_)
    obtain ⟨r1, y1⟩ := x1
    obtain ⟨hz0, hr1⟩ := hz1
    dsimp only at hr1
    subst hz0
    have hP1 : va_P (dC, dI) mcCl (mcWL o a q r cI cG y1 n v C G X D B bu lp u cJ (vp_updL ov 0 r1.toInt64)) H1 := hP1
    have hD1 : va_D _ (mcWL o a q r cI cG y1 n v C G X D B bu lp u cJ (vp_updL ov 0 r1.toInt64)) := hD1
    obtain ⟨hP, hD⟩ := va_jnL hP hD hk1 (va_freeL hD hS hA) hP1 hD1
    have hS := hS1
    refine lv_istore (lv' := [(5, .int 0), (4, .int (nI i)), (0, .ref b), (1, .ref o), (2, .ref (w 0)), (3, .ref u)]) hx hb dL_law_811 hl (by decide) rfl (fun ls hl => ?_)
    refine lv_aload_n hx hb dL_law_813 rfl (lv_at hl 4 rfl) ?_
    refine lv_aload_n hx hb dL_law_814 rfl (lv_at hl 2 rfl) ?_
    refine lv_iload hx hb dL_law_815 (lv_at hl 1 rfl) ?_
    refine lv_iconst (v := 1) hx hb dL_law_817 (by decide) ?_
    refine lv_iadd hx hb dL_law_818 ?_
    refine lv_topi (fun y3 ey3 => ?_)
    have hy3 : y3 = nI (i + 1) := by rw [ey3]; exact nI_add i 1
    subst hy3
    refine sldN hx hb hXs hbl hbA hS (k := i + 1) (by omega) (by omega) hv1 dL_law_819 ?_
    refine lv_aload_n hx hb dL_law_820 rfl (lv_at hl 2 rfl) ?_
    refine lv_iload hx hb dL_law_821 (lv_at hl 1 rfl) ?_
    refine lv_iconst (v := 2) hx hb dL_law_823 (by decide) ?_
    refine lv_iadd hx hb dL_law_824 ?_
    refine lv_topi (fun y4 ey4 => ?_)
    have hy4 : y4 = nI (i + 2) := by rw [ey4]; exact nI_add i 2
    subst hy4
    refine sldN hx hb hXs hbl hbA hS (k := i + 2) (by omega) (by omega) hv2 dL_law_825 ?_
    have hPt := P_perm (pm_rot _ _) hP
    have hDt := D_perm (pm_rot _ _) hD
    refine callWXi (As := [.int (nI bb), .int (nI mr)]) (rest := []) ⟨hx, hb, hml, hown, hts⟩ mcB_in (c_R_worth_ok l dC dI w cI cZ th n C G X D B bu LG LC ch H1.size bb mr hb9 hn hC hG hB hXn hDn) kw565 kw566 kw567 kw29 kw568 ⟨rfl, rfl⟩ (n := 2) (by decide +kernel) ⟨Nat.le_of_ble_eq_true rfl, Nat.le_of_ble_eq_true rfl⟩ hPt.lft hKR hDt.lft hS (va_freeL hDt hS hA) (ci := 4) (q0 := 0) rfl rfl rfl hl.1 rfl (Nat.le_of_ble_eq_true rfl) ⟨by show 60 + i ≤ 601024; omega, by show 11000 + 6 * i ≤ 7293034; omega⟩ dL_law_826 (fun r2 x2 H2 locs2 hr2 hP2 hD2 hk2 hS2 => ?_)
    obtain ⟨hPn, hDn⟩ := va_jnL hPt hDt hk2 (va_freeL hDt hS hA) hP2 hD2
    have hS := hS2
    have hP := P_perm (pm_rot _ _) hPn
    have hD := D_perm (pm_rot _ _) hDn
    have hP : va_P (dC, dI) mcCl (mcWL o a q r cI cG y1 n v C G X D B bu lp u cJ (vp_updL ov 0 r1.toInt64) ++ mcWR w cI cZ 0 n C G X D B bu LG LC ch) H2 := hP
    have hD : va_D (mcAA s) (mcWL o a q r cI cG y1 n v C G X D B bu lp u cJ (vp_updL ov 0 r1.toInt64) ++ mcWR w cI cZ 0 n C G X D B bu LG LC ch) := hD
    refine lv_istore (lv' := [(6, .int r2), (5, .int 0), (4, .int (nI i)), (0, .ref b), (1, .ref o), (2, .ref (w 0)), (3, .ref u)]) hx hb dL_law_829 hl (by decide) rfl (fun ls hl => ?_)
    refine lv_aload_n hx hb dL_law_831 rfl (lv_at hl 5 rfl) ?_
    refine callRV (As := []) (rest := []) ⟨hx, hb, hml, hown, hts⟩ mcB_in (c_R_thrown l dC dI w cI cZ 0 n C G X D B bu LG LC ch) kw494 kw495 kw496 kw29 kw497 ⟨rfl, rfl⟩ (n := 0) (by decide +kernel) ⟨Nat.le_of_ble_eq_true rfl, Nat.le_of_ble_eq_true rfl⟩ (roP_preV (P_perm (pm_rot _ _) hP).lft hKR (ci := 4) (q0 := 0) rfl rfl) rfl hl.1 rfl (Nat.le_of_ble_eq_true rfl) ⟨by show 60 + i ≤ 601024; omega, by show 11000 + 6 * i ≤ 7293034; omega⟩ dL_law_832 (fun r3 hr3 => ?_)
    subst hr3
    refine lv_iload hx hb dL_law_835 (lv_at hl 1 rfl) ?_
    refine lv_icmp_eq (tgt := 842) hx hb dL_law_837 (by decide) (fun c5 => ?_) (fun c5 => ?_)
    rotate_left
    · exact absurd (rfl : (nI 0) = 0) c5
    refine lv_iload hx hb dL_law_842 (lv_at hl 1 rfl) ?_
    refine lv_if_ne (tgt := 859) hx hb dL_law_844 (by decide) (fun c6 => ?_) (fun c6 => ?_)
    · exact absurd (rfl : (0 : Int32) = 0) c6
    ·
      have htie : r1 = r2 := by obtain ⟨⟨s1, s2, e1, k1, k2⟩, -⟩ := hr1; obtain ⟨t1, t2, e2, j1, j2⟩ := hr2; rw [e1, e2, mc_bst_uniq hn k1 j1, mc_bst_uniq hn k2 j2]
      refine lv_aload_n hx hb dL_law_847 rfl (lv_at hl 6 rfl) ?_
      refine lv_iconst (v := 0) hx hb dL_law_848 (by decide) ?_
      refine va_lald hx hb hK hP 37 3 rfl rfl (i := 0) (vp_in_nI (n := 0) (N := 1) (by decide) (by decide)) dL_law_849 ?_
      refine W.eq (g2 := F0 m 850 ls [.long r1.toInt64]) rfl ?_
      refine lv_iload hx hb dL_law_850 (lv_at hl 0 rfl) ?_
      refine lv_i2l (v := (r2).toInt64) hx hb dL_law_852 rfl ?_
      refine W.lcmp hx hb dL_law_853 ?_
      refine lv_if_eq (tgt := 859) hx hb dL_law_854 (by decide) (fun c7 => ?_) (fun c7 => ?_)
      ·
        refine lv_goto (tgt := 1110) hx hb dL_law_859 (by decide) ?_
        refine W.widen (k := 60 + i + 1) (n := 11000 + 6 * i + 6) (by omega) (by omega) ?_
        exact kk _ _ ls ⟨y1, n, v, C, G, X, D, B, bu, lp, (vp_updL ov 0 r1.toInt64), 0, LG, LC, ch, hI.la' hr1.2, hP, hD, hS⟩ (lv_sub hl [2, 3, 4, 5, 6] rfl)
      · exact absurd ((lg_cmp_eq _ _).mpr (by rw [htie])) c7
  ·
    refine lv_aload_n hx hb dL_law_794 rfl (lv_at hl 2 rfl) ?_
    refine lv_aload_n hx hb dL_law_795 rfl (lv_at hl 1 rfl) ?_
    refine lv_iload hx hb dL_law_796 (lv_at hl 0 rfl) ?_
    refine lv_iconst (v := 1) hx hb dL_law_798 (by decide) ?_
    refine lv_iadd hx hb dL_law_799 ?_
    refine lv_topi (fun y1 ey1 => ?_)
    have hy1 : y1 = nI (i + 1) := by rw [ey1]; exact nI_add i 1
    subst hy1
    refine sldN hx hb hXs hbl hbA hS (k := i + 1) (by omega) (by omega) hv1 dL_law_800 ?_
    refine lv_aload_n hx hb dL_law_801 rfl (lv_at hl 1 rfl) ?_
    refine lv_iload hx hb dL_law_802 (lv_at hl 0 rfl) ?_
    refine lv_iconst (v := 2) hx hb dL_law_804 (by decide) ?_
    refine lv_iadd hx hb dL_law_805 ?_
    refine lv_topi (fun y2 ey2 => ?_)
    have hy2 : y2 = nI (i + 2) := by rw [ey2]; exact nI_add i 2
    subst hy2
    refine sldN hx hb hXs hbl hbA hS (k := i + 2) (by omega) (by omega) hv2 dL_law_806 ?_
    refine lv_aload_n hx hb dL_law_807 rfl (lv_at hl 4 rfl) ?_
    refine callLB (As := [.ref o, .int v1, .int v2, .ref u]) (rest := []) ⟨hx, hb, hml, hown, hts⟩ mcB_in (c_L_worth_bad l dC dI o a q r cI cG la n v C G X D B bu lp u hlt v1 v2 hok) kw385 kw386 kw24 kw387 ⟨rfl, rfl⟩ (n := 4) (by decide +kernel) ⟨Nat.le_of_ble_eq_true rfl, Nat.le_of_ble_eq_true rfl⟩ hP.lft.lft hKH hTh hS rfl hl.1 rfl (Nat.le_of_ble_eq_true rfl) ⟨by show 60 + i + 1 ≤ 601024; omega, by show 11000 + 6 * i + 6 ≤ 7293034; omega⟩ dL_law_808 (fun H1 locs1 hz1 hk1 hS1 => ?_)
    have hP := P_keep hP hk1
    have hS := hS1
    refine lv_istore (lv' := [(5, .int 1), (4, .int (nI i)), (0, .ref b), (1, .ref o), (2, .ref (w 0)), (3, .ref u)]) hx hb dL_law_811 hl (by decide) rfl (fun ls hl => ?_)
    refine lv_aload_n hx hb dL_law_813 rfl (lv_at hl 4 rfl) ?_
    refine lv_aload_n hx hb dL_law_814 rfl (lv_at hl 2 rfl) ?_
    refine lv_iload hx hb dL_law_815 (lv_at hl 1 rfl) ?_
    refine lv_iconst (v := 1) hx hb dL_law_817 (by decide) ?_
    refine lv_iadd hx hb dL_law_818 ?_
    refine lv_topi (fun y3 ey3 => ?_)
    have hy3 : y3 = nI (i + 1) := by rw [ey3]; exact nI_add i 1
    subst hy3
    refine sldN hx hb hXs hbl hbA hS (k := i + 1) (by omega) (by omega) hv1 dL_law_819 ?_
    refine lv_aload_n hx hb dL_law_820 rfl (lv_at hl 2 rfl) ?_
    refine lv_iload hx hb dL_law_821 (lv_at hl 1 rfl) ?_
    refine lv_iconst (v := 2) hx hb dL_law_823 (by decide) ?_
    refine lv_iadd hx hb dL_law_824 ?_
    refine lv_topi (fun y4 ey4 => ?_)
    have hy4 : y4 = nI (i + 2) := by rw [ey4]; exact nI_add i 2
    subst hy4
    refine sldN hx hb hXs hbl hbA hS (k := i + 2) (by omega) (by omega) hv2 dL_law_825 ?_
    have hPt := P_perm (pm_rot _ _) hP
    have hDt := D_perm (pm_rot _ _) hD
    refine callWXi (As := [.int v1, .int v2]) (rest := []) ⟨hx, hb, hml, hown, hts⟩ mcB_in (c_R_worth_bad l dC dI w cI cZ th n C G X D B bu LG LC ch H1.size v1 v2 hok) kw565 kw566 kw567 kw29 kw568 ⟨rfl, rfl⟩ (n := 2) (by decide +kernel) ⟨Nat.le_of_ble_eq_true rfl, Nat.le_of_ble_eq_true rfl⟩ hPt.lft hKR hDt.lft hS (va_freeL hDt hS hA) (ci := 4) (q0 := 0) rfl rfl rfl hl.1 rfl (Nat.le_of_ble_eq_true rfl) ⟨by show 60 + i + 1 ≤ 601024; omega, by show 11000 + 6 * i + 6 ≤ 7293034; omega⟩ dL_law_826 (fun r2 x2 H2 locs2 hr2 hP2 hD2 hk2 hS2 => ?_)
    obtain ⟨hPn, hDn⟩ := va_jnL hPt hDt hk2 (va_freeL hDt hS hA) hP2 hD2
    have hS := hS2
    have hP := P_perm (pm_rot _ _) hPn
    have hD := D_perm (pm_rot _ _) hDn
    have hP : va_P (dC, dI) mcCl (mcWL o a q r cI cG la n v C G X D B bu lp u cJ ov ++ mcWR w cI cZ 1 n C G X D B bu LG LC ch) H2 := hP
    have hD : va_D (mcAA s) (mcWL o a q r cI cG la n v C G X D B bu lp u cJ ov ++ mcWR w cI cZ 1 n C G X D B bu LG LC ch) := hD
    refine lv_istore (lv' := [(6, .int r2), (5, .int 1), (4, .int (nI i)), (0, .ref b), (1, .ref o), (2, .ref (w 0)), (3, .ref u)]) hx hb dL_law_829 hl (by decide) rfl (fun ls hl => ?_)
    refine lv_aload_n hx hb dL_law_831 rfl (lv_at hl 5 rfl) ?_
    refine callRV (As := []) (rest := []) ⟨hx, hb, hml, hown, hts⟩ mcB_in (c_R_thrown l dC dI w cI cZ 1 n C G X D B bu LG LC ch) kw494 kw495 kw496 kw29 kw497 ⟨rfl, rfl⟩ (n := 0) (by decide +kernel) ⟨Nat.le_of_ble_eq_true rfl, Nat.le_of_ble_eq_true rfl⟩ (roP_preV (P_perm (pm_rot _ _) hP).lft hKR (ci := 4) (q0 := 0) rfl rfl) rfl hl.1 rfl (Nat.le_of_ble_eq_true rfl) ⟨by show 60 + i + 1 ≤ 601024; omega, by show 11000 + 6 * i + 6 ≤ 7293034; omega⟩ dL_law_832 (fun r3 hr3 => ?_)
    subst hr3
    refine lv_iload hx hb dL_law_835 (lv_at hl 1 rfl) ?_
    refine lv_icmp_eq (tgt := 842) hx hb dL_law_837 (by decide) (fun c5 => ?_) (fun c5 => ?_)
    rotate_left
    · exact absurd (rfl : (nI 1) = 1) c5
    refine lv_iload hx hb dL_law_842 (lv_at hl 1 rfl) ?_
    refine lv_if_ne (tgt := 859) hx hb dL_law_844 (by decide) (fun c6 => ?_) (fun c6 => ?_)
    rotate_left
    · exact absurd c6 (by decide)
    refine lv_goto (tgt := 1110) hx hb dL_law_859 (by decide) ?_
    exact kk _ _ ls ⟨la, n, v, C, G, X, D, B, bu, lp, ov, 1, LG, LC, ch, hI.mono (Nat.le_succ i), hP, hD, hS⟩ (lv_sub hl [2, 3, 4, 5, 6] rfl)
set_option maxHeartbeats 4000000 in
set_option maxRecDepth 100000 in
theorem law_11 {p : Program} {l : Launch} {e : Env} {s : State} {m : MethodId} {below : List Frame} {meth : Method} {c : Code} {H : Heap} {locs : List Loc} {Q : State → Prop} {ls : Array Slot} {dC : Nat → ClassId} {dI : Nat → Nat → Nat} {b L : Nat} {xs : Nat → Int32} {o : Nat} {a q r : Nat → Nat} {cI cG cZ cJ : ClassId} {u : Nat} {w : Nat → Nat} {i : Nat} (Cx : mcCx p l s m c b L xs dC dI cI cG cZ cJ) (hi : i + 4 ≤ L) (hLS : mcLS s dC dI o a q r cI cG cZ cJ u w i H locs) (hl : lv_has ls 7 [(4, .int (nI i)), (0, .ref b), (1, .ref o), (2, .ref (w 0)), (3, .ref u)])
    (kk : ∀ (H : Heap) (locs : List Loc) (ls : Array Slot), mcLS s dC dI o a q r cI cG cZ cJ u w (i + 1) H locs → lv_has ls 7 [(4, .int (nI i)), (0, .ref b), (1, .ref o), (2, .ref (w 0)), (3, .ref u)] → W p l e room_1 s m #[Value.ref b] below meth c H locs (60 + i + 1) (11000 + 6 * i + 6) Q (F0 m 1110 ls [])) : W p l e room_1 s m #[Value.ref b] below meth c H locs (60 + i) (11000 + 6 * i) Q (F0 m 862 ls []) := by
  obtain ⟨hx, hb, hml, hown, hts, hXs, hbl, hlt, hL, hK, hTh0⟩ := Cx
  obtain ⟨la, n, v, C, G, X, D, B, bu, lp, ov, th, LG, LC, ch, hI, hP, hD, hS⟩ := hLS
  have hA : ∀ q : Nat, s.heap.size ≤ q → mcAA s q := fun _ h => h
  have hbA : ¬ mcAA s b := Nat.not_le.mpr hbl
  obtain ⟨hn, hC1, hC, hG, hB, hXn, hDn, hbu, hIA, hvi⟩ := id hI
  have hX : ∀ m, X m < 4096 := fun m => mc_lt12 hn (hXn m)
  have hDD : ∀ m, D m < 4096 := fun m => mc_lt12 hn (hDn m)
  have hv3 : v < 2147483648 := by omega
  have hTh : mcTh s H := hTh0.keep (fun q hq => hS.2.1 q hq (Nat.not_le.mpr hq))
  have hKR := hK.sub (tys' := mcTR cI cZ) [0, 2] rfl
  have hKH := hK.sub (tys' := mcTH cI cG) [0, 1] rfl
  obtain ⟨v1, hv1⟩ : ∃ v, xs (i + 1) = v := ⟨_, rfl⟩
  obtain ⟨v2, hv2⟩ : ∃ v, xs (i + 2) = v := ⟨_, rfl⟩
  obtain ⟨v3, hv3v⟩ : ∃ v, xs (i + 3) = v := ⟨_, rfl⟩
  by_cases hok : ¬ v1 < 0
  ·
    obtain ⟨k, hk9, rfl⟩ := nI_of hok
    refine lv_aload_n hx hb dL_law_862 rfl (lv_at hl 2 rfl) ?_
    refine lv_aload_n hx hb dL_law_863 rfl (lv_at hl 1 rfl) ?_
    refine lv_iload hx hb dL_law_864 (lv_at hl 0 rfl) ?_
    refine lv_iconst (v := 1) hx hb dL_law_866 (by decide) ?_
    refine lv_iadd hx hb dL_law_867 ?_
    refine lv_topi (fun y1 ey1 => ?_)
    have hy1 : y1 = nI (i + 1) := by rw [ey1]; exact nI_add i 1
    subst hy1
    refine sldN hx hb hXs hbl hbA hS (k := i + 1) (by omega) (by omega) hv1 dL_law_868 ?_
    refine lv_aload_n hx hb dL_law_869 rfl (lv_at hl 4 rfl) ?_
    refine callLW (As := [.ref o, .int (nI k), .ref u]) (rest := []) ⟨hx, hb, hml, hown, hts⟩ mcB_in (c_L_frontier_ok l dC dI o a q r cI cG la n v C G X D B bu lp cZ cJ u ov H.size k hk9 hC1 hn hC hG hB hX hDD hv3 hIA) kw394 kw395 kw24 kw396 ⟨rfl, rfl⟩ (n := 3) (by decide +kernel) ⟨Nat.le_of_ble_eq_true rfl, Nat.le_of_ble_eq_true rfl⟩ hP.lft hK hD.lft hS (va_freeL hD hS hA) rfl hl.1 rfl (Nat.le_of_ble_eq_true rfl) ⟨by show 60 + i ≤ 601024; omega, by show 11000 + 6 * i ≤ 7293034; omega⟩ dL_law_870 (fun z1 x1 H1 locs1 hz1 hP1 hD1 hk1 hS1 => ?_)
    obtain ⟨r1, y1⟩ := x1
    obtain ⟨hz0, hr1⟩ := hz1
    dsimp only at hr1
    subst hz0
    have hP1 : va_P (dC, dI) mcCl (mcWL o a q r cI cG y1 n v C G X D B bu lp u cJ (vp_updL ov 0 r1.toInt64)) H1 := hP1
    have hD1 : va_D _ (mcWL o a q r cI cG y1 n v C G X D B bu lp u cJ (vp_updL ov 0 r1.toInt64)) := hD1
    obtain ⟨hP, hD⟩ := va_jnL hP hD hk1 (va_freeL hD hS hA) hP1 hD1
    have hS := hS1
    refine lv_istore (lv' := [(5, .int 0), (4, .int (nI i)), (0, .ref b), (1, .ref o), (2, .ref (w 0)), (3, .ref u)]) hx hb dL_law_873 hl (by decide) rfl (fun ls hl => ?_)
    refine lv_aload_n hx hb dL_law_875 rfl (lv_at hl 4 rfl) ?_
    refine lv_aload_n hx hb dL_law_876 rfl (lv_at hl 2 rfl) ?_
    refine lv_iload hx hb dL_law_877 (lv_at hl 1 rfl) ?_
    refine lv_iconst (v := 1) hx hb dL_law_879 (by decide) ?_
    refine lv_iadd hx hb dL_law_880 ?_
    refine lv_topi (fun y2 ey2 => ?_)
    have hy2 : y2 = nI (i + 1) := by rw [ey2]; exact nI_add i 1
    subst hy2
    refine sldN hx hb hXs hbl hbA hS (k := i + 1) (by omega) (by omega) hv1 dL_law_881 ?_
    have hPt := P_perm (pm_rot _ _) hP
    have hDt := D_perm (pm_rot _ _) hD
    refine callWXi (As := [.int (nI k)]) (rest := []) ⟨hx, hb, hml, hown, hts⟩ mcB_in (c_R_frontier_ok l dC dI w cI cZ th n C G X D B bu LG LC ch H1.size k hk9 hn hC hG hB hXn hDn) kw570 kw571 kw572 kw29 kw573 ⟨rfl, rfl⟩ (n := 1) (by decide +kernel) ⟨Nat.le_of_ble_eq_true rfl, Nat.le_of_ble_eq_true rfl⟩ hPt.lft hKR hDt.lft hS (va_freeL hDt hS hA) (ci := 4) (q0 := 0) rfl rfl rfl hl.1 rfl (Nat.le_of_ble_eq_true rfl) ⟨by show 60 + i ≤ 601024; omega, by show 11000 + 6 * i ≤ 7293034; omega⟩ dL_law_882 (fun r2 x2 H2 locs2 hr2 hP2 hD2 hk2 hS2 => ?_)
    obtain ⟨hPn, hDn⟩ := va_jnL hPt hDt hk2 (va_freeL hDt hS hA) hP2 hD2
    have hS := hS2
    have hP := P_perm (pm_rot _ _) hPn
    have hD := D_perm (pm_rot _ _) hDn
    have hP : va_P (dC, dI) mcCl (mcWL o a q r cI cG y1 n v C G X D B bu lp u cJ (vp_updL ov 0 r1.toInt64) ++ mcWR w cI cZ 0 n C G X D B bu LG LC ch) H2 := hP
    have hD : va_D (mcAA s) (mcWL o a q r cI cG y1 n v C G X D B bu lp u cJ (vp_updL ov 0 r1.toInt64) ++ mcWR w cI cZ 0 n C G X D B bu LG LC ch) := hD
    refine lv_istore (lv' := [(6, .int r2), (5, .int 0), (4, .int (nI i)), (0, .ref b), (1, .ref o), (2, .ref (w 0)), (3, .ref u)]) hx hb dL_law_885 hl (by decide) rfl (fun ls hl => ?_)
    refine lv_aload_n hx hb dL_law_887 rfl (lv_at hl 5 rfl) ?_
    refine callRV (As := []) (rest := []) ⟨hx, hb, hml, hown, hts⟩ mcB_in (c_R_thrown l dC dI w cI cZ 0 n C G X D B bu LG LC ch) kw494 kw495 kw496 kw29 kw497 ⟨rfl, rfl⟩ (n := 0) (by decide +kernel) ⟨Nat.le_of_ble_eq_true rfl, Nat.le_of_ble_eq_true rfl⟩ (roP_preV (P_perm (pm_rot _ _) hP).lft hKR (ci := 4) (q0 := 0) rfl rfl) rfl hl.1 rfl (Nat.le_of_ble_eq_true rfl) ⟨by show 60 + i ≤ 601024; omega, by show 11000 + 6 * i ≤ 7293034; omega⟩ dL_law_888 (fun r3 hr3 => ?_)
    subst hr3
    refine lv_iload hx hb dL_law_891 (lv_at hl 1 rfl) ?_
    refine lv_icmp_eq (tgt := 898) hx hb dL_law_893 (by decide) (fun c3 => ?_) (fun c3 => ?_)
    rotate_left
    · exact absurd (rfl : (nI 0) = 0) c3
    refine lv_iload hx hb dL_law_898 (lv_at hl 1 rfl) ?_
    refine lv_if_ne (tgt := 915) hx hb dL_law_900 (by decide) (fun c4 => ?_) (fun c4 => ?_)
    · exact absurd (rfl : (0 : Int32) = 0) c4
    ·
      have htie : r1 = r2 := mc_fro_uniq hn k _ _ hr1.1 hr2
      refine lv_aload_n hx hb dL_law_903 rfl (lv_at hl 6 rfl) ?_
      refine lv_iconst (v := 0) hx hb dL_law_904 (by decide) ?_
      refine va_lald hx hb hK hP 37 3 rfl rfl (i := 0) (vp_in_nI (n := 0) (N := 1) (by decide) (by decide)) dL_law_905 ?_
      refine W.eq (g2 := F0 m 906 ls [.long r1.toInt64]) rfl ?_
      refine lv_iload hx hb dL_law_906 (lv_at hl 0 rfl) ?_
      refine lv_i2l (v := (r2).toInt64) hx hb dL_law_908 rfl ?_
      refine W.lcmp hx hb dL_law_909 ?_
      refine lv_if_eq (tgt := 915) hx hb dL_law_910 (by decide) (fun c5 => ?_) (fun c5 => ?_)
      ·
        refine lv_goto (tgt := 1110) hx hb dL_law_915 (by decide) ?_
        refine W.widen (k := 60 + i + 1) (n := 11000 + 6 * i + 6) (by omega) (by omega) ?_
        exact kk _ _ ls ⟨y1, n, v, C, G, X, D, B, bu, lp, (vp_updL ov 0 r1.toInt64), 0, LG, LC, ch, hI.la' hr1.2, hP, hD, hS⟩ (lv_sub hl [2, 3, 4, 5, 6] rfl)
      · exact absurd ((lg_cmp_eq _ _).mpr (by rw [htie])) c5
  ·
    refine lv_aload_n hx hb dL_law_862 rfl (lv_at hl 2 rfl) ?_
    refine lv_aload_n hx hb dL_law_863 rfl (lv_at hl 1 rfl) ?_
    refine lv_iload hx hb dL_law_864 (lv_at hl 0 rfl) ?_
    refine lv_iconst (v := 1) hx hb dL_law_866 (by decide) ?_
    refine lv_iadd hx hb dL_law_867 ?_
    refine lv_topi (fun y1 ey1 => ?_)
    have hy1 : y1 = nI (i + 1) := by rw [ey1]; exact nI_add i 1
    subst hy1
    refine sldN hx hb hXs hbl hbA hS (k := i + 1) (by omega) (by omega) hv1 dL_law_868 ?_
    refine lv_aload_n hx hb dL_law_869 rfl (lv_at hl 4 rfl) ?_
    refine callLB (As := [.ref o, .int v1, .ref u]) (rest := []) ⟨hx, hb, hml, hown, hts⟩ mcB_in (c_L_frontier_bad l dC dI o a q r cI cG la n v C G X D B bu lp u hlt v1 hok) kw394 kw395 kw24 kw396 ⟨rfl, rfl⟩ (n := 3) (by decide +kernel) ⟨Nat.le_of_ble_eq_true rfl, Nat.le_of_ble_eq_true rfl⟩ hP.lft.lft hKH hTh hS rfl hl.1 rfl (Nat.le_of_ble_eq_true rfl) ⟨by show 60 + i + 1 ≤ 601024; omega, by show 11000 + 6 * i + 6 ≤ 7293034; omega⟩ dL_law_870 (fun H1 locs1 hz1 hk1 hS1 => ?_)
    have hP := P_keep hP hk1
    have hS := hS1
    refine lv_istore (lv' := [(5, .int 1), (4, .int (nI i)), (0, .ref b), (1, .ref o), (2, .ref (w 0)), (3, .ref u)]) hx hb dL_law_873 hl (by decide) rfl (fun ls hl => ?_)
    refine lv_aload_n hx hb dL_law_875 rfl (lv_at hl 4 rfl) ?_
    refine lv_aload_n hx hb dL_law_876 rfl (lv_at hl 2 rfl) ?_
    refine lv_iload hx hb dL_law_877 (lv_at hl 1 rfl) ?_
    refine lv_iconst (v := 1) hx hb dL_law_879 (by decide) ?_
    refine lv_iadd hx hb dL_law_880 ?_
    refine lv_topi (fun y2 ey2 => ?_)
    have hy2 : y2 = nI (i + 1) := by rw [ey2]; exact nI_add i 1
    subst hy2
    refine sldN hx hb hXs hbl hbA hS (k := i + 1) (by omega) (by omega) hv1 dL_law_881 ?_
    have hPt := P_perm (pm_rot _ _) hP
    have hDt := D_perm (pm_rot _ _) hD
    refine callWXi (As := [.int v1]) (rest := []) ⟨hx, hb, hml, hown, hts⟩ mcB_in (c_R_frontier_bad l dC dI w cI cZ th n C G X D B bu LG LC ch H1.size v1 hok) kw570 kw571 kw572 kw29 kw573 ⟨rfl, rfl⟩ (n := 1) (by decide +kernel) ⟨Nat.le_of_ble_eq_true rfl, Nat.le_of_ble_eq_true rfl⟩ hPt.lft hKR hDt.lft hS (va_freeL hDt hS hA) (ci := 4) (q0 := 0) rfl rfl rfl hl.1 rfl (Nat.le_of_ble_eq_true rfl) ⟨by show 60 + i + 1 ≤ 601024; omega, by show 11000 + 6 * i + 6 ≤ 7293034; omega⟩ dL_law_882 (fun r2 x2 H2 locs2 hr2 hP2 hD2 hk2 hS2 => ?_)
    obtain ⟨hPn, hDn⟩ := va_jnL hPt hDt hk2 (va_freeL hDt hS hA) hP2 hD2
    have hS := hS2
    have hP := P_perm (pm_rot _ _) hPn
    have hD := D_perm (pm_rot _ _) hDn
    have hP : va_P (dC, dI) mcCl (mcWL o a q r cI cG la n v C G X D B bu lp u cJ ov ++ mcWR w cI cZ 1 n C G X D B bu LG LC ch) H2 := hP
    have hD : va_D (mcAA s) (mcWL o a q r cI cG la n v C G X D B bu lp u cJ ov ++ mcWR w cI cZ 1 n C G X D B bu LG LC ch) := hD
    refine lv_istore (lv' := [(6, .int r2), (5, .int 1), (4, .int (nI i)), (0, .ref b), (1, .ref o), (2, .ref (w 0)), (3, .ref u)]) hx hb dL_law_885 hl (by decide) rfl (fun ls hl => ?_)
    refine lv_aload_n hx hb dL_law_887 rfl (lv_at hl 5 rfl) ?_
    refine callRV (As := []) (rest := []) ⟨hx, hb, hml, hown, hts⟩ mcB_in (c_R_thrown l dC dI w cI cZ 1 n C G X D B bu LG LC ch) kw494 kw495 kw496 kw29 kw497 ⟨rfl, rfl⟩ (n := 0) (by decide +kernel) ⟨Nat.le_of_ble_eq_true rfl, Nat.le_of_ble_eq_true rfl⟩ (roP_preV (P_perm (pm_rot _ _) hP).lft hKR (ci := 4) (q0 := 0) rfl rfl) rfl hl.1 rfl (Nat.le_of_ble_eq_true rfl) ⟨by show 60 + i + 1 ≤ 601024; omega, by show 11000 + 6 * i + 6 ≤ 7293034; omega⟩ dL_law_888 (fun r3 hr3 => ?_)
    subst hr3
    refine lv_iload hx hb dL_law_891 (lv_at hl 1 rfl) ?_
    refine lv_icmp_eq (tgt := 898) hx hb dL_law_893 (by decide) (fun c3 => ?_) (fun c3 => ?_)
    rotate_left
    · exact absurd (rfl : (nI 1) = 1) c3
    refine lv_iload hx hb dL_law_898 (lv_at hl 1 rfl) ?_
    refine lv_if_ne (tgt := 915) hx hb dL_law_900 (by decide) (fun c4 => ?_) (fun c4 => ?_)
    rotate_left
    · exact absurd c4 (by decide)
    refine lv_goto (tgt := 1110) hx hb dL_law_915 (by decide) ?_
    exact kk _ _ ls ⟨la, n, v, C, G, X, D, B, bu, lp, ov, 1, LG, LC, ch, hI.mono (Nat.le_succ i), hP, hD, hS⟩ (lv_sub hl [2, 3, 4, 5, 6] rfl)
set_option maxHeartbeats 4000000 in
set_option maxRecDepth 100000 in
theorem law_12 {p : Program} {l : Launch} {e : Env} {s : State} {m : MethodId} {below : List Frame} {meth : Method} {c : Code} {H : Heap} {locs : List Loc} {Q : State → Prop} {ls : Array Slot} {dC : Nat → ClassId} {dI : Nat → Nat → Nat} {b L : Nat} {xs : Nat → Int32} {o : Nat} {a q r : Nat → Nat} {cI cG cZ cJ : ClassId} {u : Nat} {w : Nat → Nat} {i : Nat} (Cx : mcCx p l s m c b L xs dC dI cI cG cZ cJ) (hi : i + 4 ≤ L) (hLS : mcLS s dC dI o a q r cI cG cZ cJ u w i H locs) (hl : lv_has ls 7 [(4, .int (nI i)), (0, .ref b), (1, .ref o), (2, .ref (w 0)), (3, .ref u)])
    (kk : ∀ (H : Heap) (locs : List Loc) (ls : Array Slot), mcLS s dC dI o a q r cI cG cZ cJ u w (i + 1) H locs → lv_has ls 7 [(4, .int (nI i)), (0, .ref b), (1, .ref o), (2, .ref (w 0)), (3, .ref u)] → W p l e room_1 s m #[Value.ref b] below meth c H locs (60 + i + 1) (11000 + 6 * i + 6) Q (F0 m 1110 ls [])) : W p l e room_1 s m #[Value.ref b] below meth c H locs (60 + i) (11000 + 6 * i) Q (F0 m 918 ls []) := by
  obtain ⟨hx, hb, hml, hown, hts, hXs, hbl, hlt, hL, hK, hTh0⟩ := Cx
  obtain ⟨la, n, v, C, G, X, D, B, bu, lp, ov, th, LG, LC, ch, hI, hP, hD, hS⟩ := hLS
  have hA : ∀ q : Nat, s.heap.size ≤ q → mcAA s q := fun _ h => h
  have hbA : ¬ mcAA s b := Nat.not_le.mpr hbl
  obtain ⟨hn, hC1, hC, hG, hB, hXn, hDn, hbu, hIA, hvi⟩ := id hI
  have hX : ∀ m, X m < 4096 := fun m => mc_lt12 hn (hXn m)
  have hDD : ∀ m, D m < 4096 := fun m => mc_lt12 hn (hDn m)
  have hv3 : v < 2147483648 := by omega
  have hTh : mcTh s H := hTh0.keep (fun q hq => hS.2.1 q hq (Nat.not_le.mpr hq))
  have hKR := hK.sub (tys' := mcTR cI cZ) [0, 2] rfl
  have hKH := hK.sub (tys' := mcTH cI cG) [0, 1] rfl
  obtain ⟨v1, hv1⟩ : ∃ v, xs (i + 1) = v := ⟨_, rfl⟩
  obtain ⟨v2, hv2⟩ : ∃ v, xs (i + 2) = v := ⟨_, rfl⟩
  obtain ⟨v3, hv3v⟩ : ∃ v, xs (i + 3) = v := ⟨_, rfl⟩
  by_cases hok : (0 ≤ v1 ∧ v1 ≤ 3) ∧ (0 ≤ v2 ∧ v2 ≤ 100000)
  ·
    obtain ⟨h1, h2⟩ := id hok
    obtain ⟨y, yb, rfl⟩ := rep0 (M := 3) (by decide) rfl h1
    obtain ⟨bb, bbb, rfl⟩ := rep0 (M := 100000) (by decide) rfl h2
    have hy : y < 4 := by omega
    refine lv_aload_n hx hb dL_law_918 rfl (lv_at hl 2 rfl) ?_
    refine lv_aload_n hx hb dL_law_919 rfl (lv_at hl 1 rfl) ?_
    refine lv_iload hx hb dL_law_920 (lv_at hl 0 rfl) ?_
    refine lv_iconst (v := 1) hx hb dL_law_922 (by decide) ?_
    refine lv_iadd hx hb dL_law_923 ?_
    refine lv_topi (fun y1 ey1 => ?_)
    have hy1 : y1 = nI (i + 1) := by rw [ey1]; exact nI_add i 1
    subst hy1
    refine sldN hx hb hXs hbl hbA hS (k := i + 1) (by omega) (by omega) hv1 dL_law_924 ?_
    refine lv_aload_n hx hb dL_law_925 rfl (lv_at hl 1 rfl) ?_
    refine lv_iload hx hb dL_law_926 (lv_at hl 0 rfl) ?_
    refine lv_iconst (v := 2) hx hb dL_law_928 (by decide) ?_
    refine lv_iadd hx hb dL_law_929 ?_
    refine lv_topi (fun y2 ey2 => ?_)
    have hy2 : y2 = nI (i + 2) := by rw [ey2]; exact nI_add i 2
    subst hy2
    refine sldN hx hb hXs hbl hbA hS (k := i + 2) (by omega) (by omega) hv2 dL_law_930 ?_
    refine lv_aload_n hx hb dL_law_931 rfl (lv_at hl 4 rfl) ?_
    refine callLW (As := [.ref o, .int (nI y), .int (nI bb), .ref u]) (rest := []) ⟨hx, hb, hml, hown, hts⟩ mcB_in (c_L_year_ok l dC dI o a q r cI cG la n v C G X D B bu lp cZ cJ u ov H.size y bb hy h1 h2) kw401 kw402 kw24 kw403 ⟨rfl, rfl⟩ (n := 4) (by decide +kernel) ⟨Nat.le_of_ble_eq_true rfl, Nat.le_of_ble_eq_true rfl⟩ hP.lft hK hD.lft hS (va_freeL hD hS hA) rfl hl.1 rfl (Nat.le_of_ble_eq_true rfl) ⟨by show 60 + i ≤ 601024; omega, by show 11000 + 6 * i ≤ 7293034; omega⟩ dL_law_932 (fun z1 x1 H1 locs1 hz1 hP1 hD1 hk1 hS1 => ?_)
    obtain ⟨r1, y1⟩ := x1
    obtain ⟨hz0, hr1⟩ := hz1
    dsimp only at hr1
    subst hz0
    have hP1 : va_P (dC, dI) mcCl (mcWL o a q r cI cG la n v C G X D B (va_up bu y bb) lp u cJ (vp_updL ov 0 r1.toInt64)) H1 := hP1
    have hD1 : va_D _ (mcWL o a q r cI cG la n v C G X D B (va_up bu y bb) lp u cJ (vp_updL ov 0 r1.toInt64)) := hD1
    obtain ⟨hP, hD⟩ := va_jnL hP hD hk1 (va_freeL hD hS hA) hP1 hD1
    have hS := hS1
    refine lv_istore (lv' := [(5, .int 0), (4, .int (nI i)), (0, .ref b), (1, .ref o), (2, .ref (w 0)), (3, .ref u)]) hx hb dL_law_935 hl (by decide) rfl (fun ls hl => ?_)
    refine lv_aload_n hx hb dL_law_937 rfl (lv_at hl 4 rfl) ?_
    refine lv_aload_n hx hb dL_law_938 rfl (lv_at hl 2 rfl) ?_
    refine lv_iload hx hb dL_law_939 (lv_at hl 1 rfl) ?_
    refine lv_iconst (v := 1) hx hb dL_law_941 (by decide) ?_
    refine lv_iadd hx hb dL_law_942 ?_
    refine lv_topi (fun y3 ey3 => ?_)
    have hy3 : y3 = nI (i + 1) := by rw [ey3]; exact nI_add i 1
    subst hy3
    refine sldN hx hb hXs hbl hbA hS (k := i + 1) (by omega) (by omega) hv1 dL_law_943 ?_
    refine lv_aload_n hx hb dL_law_944 rfl (lv_at hl 2 rfl) ?_
    refine lv_iload hx hb dL_law_945 (lv_at hl 1 rfl) ?_
    refine lv_iconst (v := 2) hx hb dL_law_947 (by decide) ?_
    refine lv_iadd hx hb dL_law_948 ?_
    refine lv_topi (fun y4 ey4 => ?_)
    have hy4 : y4 = nI (i + 2) := by rw [ey4]; exact nI_add i 2
    subst hy4
    refine sldN hx hb hXs hbl hbA hS (k := i + 2) (by omega) (by omega) hv2 dL_law_949 ?_
    have hPt := P_perm (pm_rot _ _) hP
    have hDt := D_perm (pm_rot _ _) hD
    refine callWXi (As := [.int (nI y), .int (nI bb)]) (rest := []) ⟨hx, hb, hml, hown, hts⟩ mcB_in (c_R_year_ok l dC dI w cI cZ th n C G X D B bu LG LC ch H1.size y bb hy h1 h2) kw577 kw578 kw579 kw29 kw580 ⟨rfl, rfl⟩ (n := 2) (by decide +kernel) ⟨Nat.le_of_ble_eq_true rfl, Nat.le_of_ble_eq_true rfl⟩ hPt.lft hKR hDt.lft hS (va_freeL hDt hS hA) (ci := 4) (q0 := 0) rfl rfl rfl hl.1 rfl (Nat.le_of_ble_eq_true rfl) ⟨by show 60 + i ≤ 601024; omega, by show 11000 + 6 * i ≤ 7293034; omega⟩ dL_law_950 (fun r2 x2 H2 locs2 hr2 hP2 hD2 hk2 hS2 => ?_)
    obtain ⟨hPn, hDn⟩ := va_jnL hPt hDt hk2 (va_freeL hDt hS hA) hP2 hD2
    have hS := hS2
    have hP := P_perm (pm_rot _ _) hPn
    have hD := D_perm (pm_rot _ _) hDn
    have hP : va_P (dC, dI) mcCl (mcWL o a q r cI cG la n v C G X D B (va_up bu y bb) lp u cJ (vp_updL ov 0 r1.toInt64) ++ mcWR w cI cZ 0 n C G X D B (va_up bu y bb) LG LC ch) H2 := hP
    have hD : va_D (mcAA s) (mcWL o a q r cI cG la n v C G X D B (va_up bu y bb) lp u cJ (vp_updL ov 0 r1.toInt64) ++ mcWR w cI cZ 0 n C G X D B (va_up bu y bb) LG LC ch) := hD
    refine lv_istore (lv' := [(6, .int r2), (5, .int 0), (4, .int (nI i)), (0, .ref b), (1, .ref o), (2, .ref (w 0)), (3, .ref u)]) hx hb dL_law_953 hl (by decide) rfl (fun ls hl => ?_)
    refine lv_aload_n hx hb dL_law_955 rfl (lv_at hl 5 rfl) ?_
    refine callRV (As := []) (rest := []) ⟨hx, hb, hml, hown, hts⟩ mcB_in (c_R_thrown l dC dI w cI cZ 0 n C G X D B (va_up bu y bb) LG LC ch) kw494 kw495 kw496 kw29 kw497 ⟨rfl, rfl⟩ (n := 0) (by decide +kernel) ⟨Nat.le_of_ble_eq_true rfl, Nat.le_of_ble_eq_true rfl⟩ (roP_preV (P_perm (pm_rot _ _) hP).lft hKR (ci := 4) (q0 := 0) rfl rfl) rfl hl.1 rfl (Nat.le_of_ble_eq_true rfl) ⟨by show 60 + i ≤ 601024; omega, by show 11000 + 6 * i ≤ 7293034; omega⟩ dL_law_956 (fun r3 hr3 => ?_)
    subst hr3
    refine lv_iload hx hb dL_law_959 (lv_at hl 1 rfl) ?_
    refine lv_icmp_eq (tgt := 966) hx hb dL_law_961 (by decide) (fun c5 => ?_) (fun c5 => ?_)
    rotate_left
    · exact absurd (rfl : (nI 0) = 0) c5
    refine lv_iload hx hb dL_law_966 (lv_at hl 1 rfl) ?_
    refine lv_if_ne (tgt := 983) hx hb dL_law_968 (by decide) (fun c6 => ?_) (fun c6 => ?_)
    · exact absurd (rfl : (0 : Int32) = 0) c6
    ·
      have htie : r1 = r2 := (hr1 : r1 = nI (bu y)).trans (hr2 : r2 = nI (bu y)).symm
      refine lv_aload_n hx hb dL_law_971 rfl (lv_at hl 6 rfl) ?_
      refine lv_iconst (v := 0) hx hb dL_law_972 (by decide) ?_
      refine va_lald hx hb hK hP 37 3 rfl rfl (i := 0) (vp_in_nI (n := 0) (N := 1) (by decide) (by decide)) dL_law_973 ?_
      refine W.eq (g2 := F0 m 974 ls [.long r1.toInt64]) rfl ?_
      refine lv_iload hx hb dL_law_974 (lv_at hl 0 rfl) ?_
      refine lv_i2l (v := (r2).toInt64) hx hb dL_law_976 rfl ?_
      refine W.lcmp hx hb dL_law_977 ?_
      refine lv_if_eq (tgt := 983) hx hb dL_law_978 (by decide) (fun c7 => ?_) (fun c7 => ?_)
      ·
        refine lv_goto (tgt := 1110) hx hb dL_law_983 (by decide) ?_
        refine W.widen (k := 60 + i + 1) (n := 11000 + 6 * i + 6) (by omega) (by omega) ?_
        exact kk _ _ ls ⟨la, n, v, C, G, X, D, B, (va_up bu y bb), lp, (vp_updL ov 0 r1.toInt64), 0, LG, LC, ch, hI.year bbb, hP, hD, hS⟩ (lv_sub hl [2, 3, 4, 5, 6] rfl)
      · exact absurd ((lg_cmp_eq _ _).mpr (by rw [htie])) c7
  ·
    refine lv_aload_n hx hb dL_law_918 rfl (lv_at hl 2 rfl) ?_
    refine lv_aload_n hx hb dL_law_919 rfl (lv_at hl 1 rfl) ?_
    refine lv_iload hx hb dL_law_920 (lv_at hl 0 rfl) ?_
    refine lv_iconst (v := 1) hx hb dL_law_922 (by decide) ?_
    refine lv_iadd hx hb dL_law_923 ?_
    refine lv_topi (fun y1 ey1 => ?_)
    have hy1 : y1 = nI (i + 1) := by rw [ey1]; exact nI_add i 1
    subst hy1
    refine sldN hx hb hXs hbl hbA hS (k := i + 1) (by omega) (by omega) hv1 dL_law_924 ?_
    refine lv_aload_n hx hb dL_law_925 rfl (lv_at hl 1 rfl) ?_
    refine lv_iload hx hb dL_law_926 (lv_at hl 0 rfl) ?_
    refine lv_iconst (v := 2) hx hb dL_law_928 (by decide) ?_
    refine lv_iadd hx hb dL_law_929 ?_
    refine lv_topi (fun y2 ey2 => ?_)
    have hy2 : y2 = nI (i + 2) := by rw [ey2]; exact nI_add i 2
    subst hy2
    refine sldN hx hb hXs hbl hbA hS (k := i + 2) (by omega) (by omega) hv2 dL_law_930 ?_
    refine lv_aload_n hx hb dL_law_931 rfl (lv_at hl 4 rfl) ?_
    refine callLB (As := [.ref o, .int v1, .int v2, .ref u]) (rest := []) ⟨hx, hb, hml, hown, hts⟩ mcB_in (c_L_year_bad l dC dI o a q r cI cG la n v C G X D B bu lp u hlt v1 v2 hok) kw401 kw402 kw24 kw403 ⟨rfl, rfl⟩ (n := 4) (by decide +kernel) ⟨Nat.le_of_ble_eq_true rfl, Nat.le_of_ble_eq_true rfl⟩ hP.lft.lft hKH hTh hS rfl hl.1 rfl (Nat.le_of_ble_eq_true rfl) ⟨by show 60 + i + 1 ≤ 601024; omega, by show 11000 + 6 * i + 6 ≤ 7293034; omega⟩ dL_law_932 (fun H1 locs1 hz1 hk1 hS1 => ?_)
    have hP := P_keep hP hk1
    have hS := hS1
    refine lv_istore (lv' := [(5, .int 1), (4, .int (nI i)), (0, .ref b), (1, .ref o), (2, .ref (w 0)), (3, .ref u)]) hx hb dL_law_935 hl (by decide) rfl (fun ls hl => ?_)
    refine lv_aload_n hx hb dL_law_937 rfl (lv_at hl 4 rfl) ?_
    refine lv_aload_n hx hb dL_law_938 rfl (lv_at hl 2 rfl) ?_
    refine lv_iload hx hb dL_law_939 (lv_at hl 1 rfl) ?_
    refine lv_iconst (v := 1) hx hb dL_law_941 (by decide) ?_
    refine lv_iadd hx hb dL_law_942 ?_
    refine lv_topi (fun y3 ey3 => ?_)
    have hy3 : y3 = nI (i + 1) := by rw [ey3]; exact nI_add i 1
    subst hy3
    refine sldN hx hb hXs hbl hbA hS (k := i + 1) (by omega) (by omega) hv1 dL_law_943 ?_
    refine lv_aload_n hx hb dL_law_944 rfl (lv_at hl 2 rfl) ?_
    refine lv_iload hx hb dL_law_945 (lv_at hl 1 rfl) ?_
    refine lv_iconst (v := 2) hx hb dL_law_947 (by decide) ?_
    refine lv_iadd hx hb dL_law_948 ?_
    refine lv_topi (fun y4 ey4 => ?_)
    have hy4 : y4 = nI (i + 2) := by rw [ey4]; exact nI_add i 2
    subst hy4
    refine sldN hx hb hXs hbl hbA hS (k := i + 2) (by omega) (by omega) hv2 dL_law_949 ?_
    have hPt := P_perm (pm_rot _ _) hP
    have hDt := D_perm (pm_rot _ _) hD
    refine callWXi (As := [.int v1, .int v2]) (rest := []) ⟨hx, hb, hml, hown, hts⟩ mcB_in (c_R_year_bad l dC dI w cI cZ th n C G X D B bu LG LC ch H1.size v1 v2 hok) kw577 kw578 kw579 kw29 kw580 ⟨rfl, rfl⟩ (n := 2) (by decide +kernel) ⟨Nat.le_of_ble_eq_true rfl, Nat.le_of_ble_eq_true rfl⟩ hPt.lft hKR hDt.lft hS (va_freeL hDt hS hA) (ci := 4) (q0 := 0) rfl rfl rfl hl.1 rfl (Nat.le_of_ble_eq_true rfl) ⟨by show 60 + i + 1 ≤ 601024; omega, by show 11000 + 6 * i + 6 ≤ 7293034; omega⟩ dL_law_950 (fun r2 x2 H2 locs2 hr2 hP2 hD2 hk2 hS2 => ?_)
    obtain ⟨hPn, hDn⟩ := va_jnL hPt hDt hk2 (va_freeL hDt hS hA) hP2 hD2
    have hS := hS2
    have hP := P_perm (pm_rot _ _) hPn
    have hD := D_perm (pm_rot _ _) hDn
    have hP : va_P (dC, dI) mcCl (mcWL o a q r cI cG la n v C G X D B bu lp u cJ ov ++ mcWR w cI cZ 1 n C G X D B bu LG LC ch) H2 := hP
    have hD : va_D (mcAA s) (mcWL o a q r cI cG la n v C G X D B bu lp u cJ ov ++ mcWR w cI cZ 1 n C G X D B bu LG LC ch) := hD
    refine lv_istore (lv' := [(6, .int r2), (5, .int 1), (4, .int (nI i)), (0, .ref b), (1, .ref o), (2, .ref (w 0)), (3, .ref u)]) hx hb dL_law_953 hl (by decide) rfl (fun ls hl => ?_)
    refine lv_aload_n hx hb dL_law_955 rfl (lv_at hl 5 rfl) ?_
    refine callRV (As := []) (rest := []) ⟨hx, hb, hml, hown, hts⟩ mcB_in (c_R_thrown l dC dI w cI cZ 1 n C G X D B bu LG LC ch) kw494 kw495 kw496 kw29 kw497 ⟨rfl, rfl⟩ (n := 0) (by decide +kernel) ⟨Nat.le_of_ble_eq_true rfl, Nat.le_of_ble_eq_true rfl⟩ (roP_preV (P_perm (pm_rot _ _) hP).lft hKR (ci := 4) (q0 := 0) rfl rfl) rfl hl.1 rfl (Nat.le_of_ble_eq_true rfl) ⟨by show 60 + i + 1 ≤ 601024; omega, by show 11000 + 6 * i + 6 ≤ 7293034; omega⟩ dL_law_956 (fun r3 hr3 => ?_)
    subst hr3
    refine lv_iload hx hb dL_law_959 (lv_at hl 1 rfl) ?_
    refine lv_icmp_eq (tgt := 966) hx hb dL_law_961 (by decide) (fun c5 => ?_) (fun c5 => ?_)
    rotate_left
    · exact absurd (rfl : (nI 1) = 1) c5
    refine lv_iload hx hb dL_law_966 (lv_at hl 1 rfl) ?_
    refine lv_if_ne (tgt := 983) hx hb dL_law_968 (by decide) (fun c6 => ?_) (fun c6 => ?_)
    rotate_left
    · exact absurd c6 (by decide)
    refine lv_goto (tgt := 1110) hx hb dL_law_983 (by decide) ?_
    exact kk _ _ ls ⟨la, n, v, C, G, X, D, B, bu, lp, ov, 1, LG, LC, ch, hI.mono (Nat.le_succ i), hP, hD, hS⟩ (lv_sub hl [2, 3, 4, 5, 6] rfl)
set_option maxHeartbeats 4000000 in
set_option maxRecDepth 100000 in
theorem law_13 {p : Program} {l : Launch} {e : Env} {s : State} {m : MethodId} {below : List Frame} {meth : Method} {c : Code} {H : Heap} {locs : List Loc} {Q : State → Prop} {ls : Array Slot} {dC : Nat → ClassId} {dI : Nat → Nat → Nat} {b L : Nat} {xs : Nat → Int32} {o : Nat} {a q r : Nat → Nat} {cI cG cZ cJ : ClassId} {u : Nat} {w : Nat → Nat} {i : Nat} (Cx : mcCx p l s m c b L xs dC dI cI cG cZ cJ) (hi : i + 4 ≤ L) (hLS : mcLS s dC dI o a q r cI cG cZ cJ u w i H locs) (hl : lv_has ls 7 [(4, .int (nI i)), (0, .ref b), (1, .ref o), (2, .ref (w 0)), (3, .ref u)])
    (kk : ∀ (H : Heap) (locs : List Loc) (ls : Array Slot), mcLS s dC dI o a q r cI cG cZ cJ u w (i + 1) H locs → lv_has ls 7 [(4, .int (nI i)), (0, .ref b), (1, .ref o), (2, .ref (w 0)), (3, .ref u)] → W p l e room_1 s m #[Value.ref b] below meth c H locs (60 + i + 1) (11000 + 6 * i + 6) Q (F0 m 1110 ls [])) : W p l e room_1 s m #[Value.ref b] below meth c H locs (60 + i) (11000 + 6 * i) Q (F0 m 986 ls []) := by
  obtain ⟨hx, hb, hml, hown, hts, hXs, hbl, hlt, hL, hK, hTh0⟩ := Cx
  obtain ⟨la, n, v, C, G, X, D, B, bu, lp, ov, th, LG, LC, ch, hI, hP, hD, hS⟩ := hLS
  have hA : ∀ q : Nat, s.heap.size ≤ q → mcAA s q := fun _ h => h
  have hbA : ¬ mcAA s b := Nat.not_le.mpr hbl
  obtain ⟨hn, hC1, hC, hG, hB, hXn, hDn, hbu, hIA, hvi⟩ := id hI
  have hX : ∀ m, X m < 4096 := fun m => mc_lt12 hn (hXn m)
  have hDD : ∀ m, D m < 4096 := fun m => mc_lt12 hn (hDn m)
  have hv3 : v < 2147483648 := by omega
  have hTh : mcTh s H := hTh0.keep (fun q hq => hS.2.1 q hq (Nat.not_le.mpr hq))
  have hKR := hK.sub (tys' := mcTR cI cZ) [0, 2] rfl
  have hKH := hK.sub (tys' := mcTH cI cG) [0, 1] rfl
  obtain ⟨v1, hv1⟩ : ∃ v, xs (i + 1) = v := ⟨_, rfl⟩
  obtain ⟨v2, hv2⟩ : ∃ v, xs (i + 2) = v := ⟨_, rfl⟩
  obtain ⟨v3, hv3v⟩ : ∃ v, xs (i + 3) = v := ⟨_, rfl⟩
  by_cases hok : (1 ≤ v1 ∧ v1 ≤ 4) ∧ (0 ≤ v2 ∧ v2 ≤ v1 - 1)
  ·
    obtain ⟨hY, hk2⟩ := id hok
    obtain ⟨Y, hY1, hY4, rfl⟩ := rep1 (M := 4) (by decide) rfl hY
    obtain ⟨k, kb, rfl⟩ := rep0 (M := Y - 1) (by omega) (pk_sub (a := Y) (b := 1) hY1) hk2
    have hkY : k < Y := by omega
    refine lv_aload_n hx hb dL_law_986 rfl (lv_at hl 2 rfl) ?_
    refine lv_aload_n hx hb dL_law_987 rfl (lv_at hl 1 rfl) ?_
    refine lv_iload hx hb dL_law_988 (lv_at hl 0 rfl) ?_
    refine lv_iconst (v := 1) hx hb dL_law_990 (by decide) ?_
    refine lv_iadd hx hb dL_law_991 ?_
    refine lv_topi (fun y1 ey1 => ?_)
    have hy1 : y1 = nI (i + 1) := by rw [ey1]; exact nI_add i 1
    subst hy1
    refine sldN hx hb hXs hbl hbA hS (k := i + 1) (by omega) (by omega) hv1 dL_law_992 ?_
    refine lv_aload_n hx hb dL_law_993 rfl (lv_at hl 1 rfl) ?_
    refine lv_iload hx hb dL_law_994 (lv_at hl 0 rfl) ?_
    refine lv_iconst (v := 2) hx hb dL_law_996 (by decide) ?_
    refine lv_iadd hx hb dL_law_997 ?_
    refine lv_topi (fun y2 ey2 => ?_)
    have hy2 : y2 = nI (i + 2) := by rw [ey2]; exact nI_add i 2
    subst hy2
    refine sldN hx hb hXs hbl hbA hS (k := i + 2) (by omega) (by omega) hv2 dL_law_998 ?_
    refine lv_aload_n hx hb dL_law_999 rfl (lv_at hl 4 rfl) ?_
    refine callLW (As := [.ref o, .int (nI Y), .int (nI k), .ref u]) (rest := []) ⟨hx, hb, hml, hown, hts⟩ mcB_in (c_L_plan_ok l dC dI o a q r cI cG la n v C G X D B bu lp cZ cJ u ov H.size Y hY1 hY4 hY hbu hn hC hG hB hX hDD k hkY hk2) kw409 kw410 kw24 kw411 ⟨rfl, rfl⟩ (n := 4) (by decide +kernel) ⟨Nat.le_of_ble_eq_true rfl, Nat.le_of_ble_eq_true rfl⟩ hP.lft hK hD.lft hS (va_freeL hD hS hA) rfl hl.1 rfl (Nat.le_of_ble_eq_true rfl) ⟨by show 60 + i ≤ 601024; omega, by show 11000 + 6 * i ≤ 7293034; omega⟩ dL_law_1000 (fun z1 x1 H1 locs1 hz1 hP1 hD1 hk1 hS1 => ?_)
    obtain ⟨r1, y1⟩ := x1
    obtain ⟨hz0, hr1⟩ := hz1
    dsimp only at hr1
    subst hz0
    have hP1 : va_P (dC, dI) mcCl (mcWL o a q r cI cG la n v C G X D B bu y1 u cJ (vp_updL ov 0 r1.toInt64)) H1 := hP1
    have hD1 : va_D _ (mcWL o a q r cI cG la n v C G X D B bu y1 u cJ (vp_updL ov 0 r1.toInt64)) := hD1
    obtain ⟨hP, hD⟩ := va_jnL hP hD hk1 (va_freeL hD hS hA) hP1 hD1
    have hS := hS1
    refine lv_istore (lv' := [(5, .int 0), (4, .int (nI i)), (0, .ref b), (1, .ref o), (2, .ref (w 0)), (3, .ref u)]) hx hb dL_law_1003 hl (by decide) rfl (fun ls hl => ?_)
    refine lv_aload_n hx hb dL_law_1005 rfl (lv_at hl 4 rfl) ?_
    refine lv_aload_n hx hb dL_law_1006 rfl (lv_at hl 2 rfl) ?_
    refine lv_iload hx hb dL_law_1007 (lv_at hl 1 rfl) ?_
    refine lv_iconst (v := 1) hx hb dL_law_1009 (by decide) ?_
    refine lv_iadd hx hb dL_law_1010 ?_
    refine lv_topi (fun y3 ey3 => ?_)
    have hy3 : y3 = nI (i + 1) := by rw [ey3]; exact nI_add i 1
    subst hy3
    refine sldN hx hb hXs hbl hbA hS (k := i + 1) (by omega) (by omega) hv1 dL_law_1011 ?_
    refine lv_aload_n hx hb dL_law_1012 rfl (lv_at hl 2 rfl) ?_
    refine lv_iload hx hb dL_law_1013 (lv_at hl 1 rfl) ?_
    refine lv_iconst (v := 2) hx hb dL_law_1015 (by decide) ?_
    refine lv_iadd hx hb dL_law_1016 ?_
    refine lv_topi (fun y4 ey4 => ?_)
    have hy4 : y4 = nI (i + 2) := by rw [ey4]; exact nI_add i 2
    subst hy4
    refine sldN hx hb hXs hbl hbA hS (k := i + 2) (by omega) (by omega) hv2 dL_law_1017 ?_
    have hPt := P_perm (pm_rot _ _) hP
    have hDt := D_perm (pm_rot _ _) hD
    refine callWXi (As := [.int (nI Y), .int (nI k)]) (rest := []) ⟨hx, hb, hml, hown, hts⟩ mcB_in (c_R_plan_ok l dC dI w cI cZ th n C G X D B bu LG LC ch H1.size Y hY1 hY4 hY hbu k hkY hk2 hn hC hG hB hXn hDn) kw582 kw583 kw584 kw29 kw585 ⟨rfl, rfl⟩ (n := 2) (by decide +kernel) ⟨Nat.le_of_ble_eq_true rfl, Nat.le_of_ble_eq_true rfl⟩ hPt.lft hKR hDt.lft hS (va_freeL hDt hS hA) (ci := 4) (q0 := 0) rfl rfl rfl hl.1 rfl (Nat.le_of_ble_eq_true rfl) ⟨by show 60 + i ≤ 601024; omega, by show 11000 + 6 * i ≤ 7293034; omega⟩ dL_law_1018 (fun r2 x2 H2 locs2 hr2 hP2 hD2 hk2 hS2 => ?_)
    obtain ⟨hPn, hDn⟩ := va_jnL hPt hDt hk2 (va_freeL hDt hS hA) hP2 hD2
    have hS := hS2
    have hP := P_perm (pm_rot _ _) hPn
    have hD := D_perm (pm_rot _ _) hDn
    have hP : va_P (dC, dI) mcCl (mcWL o a q r cI cG la n v C G X D B bu y1 u cJ (vp_updL ov 0 r1.toInt64) ++ mcWR w cI cZ 0 n C G X D B bu x2.1 x2.2.1 x2.2.2) H2 := hP
    have hD : va_D (mcAA s) (mcWL o a q r cI cG la n v C G X D B bu y1 u cJ (vp_updL ov 0 r1.toInt64) ++ mcWR w cI cZ 0 n C G X D B bu x2.1 x2.2.1 x2.2.2) := hD
    refine lv_istore (lv' := [(6, .int r2), (5, .int 0), (4, .int (nI i)), (0, .ref b), (1, .ref o), (2, .ref (w 0)), (3, .ref u)]) hx hb dL_law_1021 hl (by decide) rfl (fun ls hl => ?_)
    refine lv_aload_n hx hb dL_law_1023 rfl (lv_at hl 5 rfl) ?_
    refine callRV (As := []) (rest := []) ⟨hx, hb, hml, hown, hts⟩ mcB_in (c_R_thrown l dC dI w cI cZ 0 n C G X D B bu x2.1 x2.2.1 x2.2.2) kw494 kw495 kw496 kw29 kw497 ⟨rfl, rfl⟩ (n := 0) (by decide +kernel) ⟨Nat.le_of_ble_eq_true rfl, Nat.le_of_ble_eq_true rfl⟩ (roP_preV (P_perm (pm_rot _ _) hP).lft hKR (ci := 4) (q0 := 0) rfl rfl) rfl hl.1 rfl (Nat.le_of_ble_eq_true rfl) ⟨by show 60 + i ≤ 601024; omega, by show 11000 + 6 * i ≤ 7293034; omega⟩ dL_law_1024 (fun r3 hr3 => ?_)
    subst hr3
    refine lv_iload hx hb dL_law_1027 (lv_at hl 1 rfl) ?_
    refine lv_icmp_eq (tgt := 1034) hx hb dL_law_1029 (by decide) (fun c5 => ?_) (fun c5 => ?_)
    rotate_left
    · exact absurd (rfl : (nI 0) = 0) c5
    refine lv_iload hx hb dL_law_1034 (lv_at hl 1 rfl) ?_
    refine lv_if_ne (tgt := 1051) hx hb dL_law_1036 (by decide) (fun c6 => ?_) (fun c6 => ?_)
    · exact absurd (rfl : (0 : Int32) = 0) c6
    ·
      have htie : r1 = r2 := by obtain ⟨⟨f1, e1, k1⟩, p1⟩ := hr1; obtain ⟨⟨f2, e2, k2⟩, p2⟩ := hr2; rw [e1, e2, mc_tie_plan p1 p2 hbu hY4 hkY k1 k2]
      refine lv_aload_n hx hb dL_law_1039 rfl (lv_at hl 6 rfl) ?_
      refine lv_iconst (v := 0) hx hb dL_law_1040 (by decide) ?_
      refine va_lald hx hb hK hP 37 3 rfl rfl (i := 0) (vp_in_nI (n := 0) (N := 1) (by decide) (by decide)) dL_law_1041 ?_
      refine W.eq (g2 := F0 m 1042 ls [.long r1.toInt64]) rfl ?_
      refine lv_iload hx hb dL_law_1042 (lv_at hl 0 rfl) ?_
      refine lv_i2l (v := (r2).toInt64) hx hb dL_law_1044 rfl ?_
      refine W.lcmp hx hb dL_law_1045 ?_
      refine lv_if_eq (tgt := 1051) hx hb dL_law_1046 (by decide) (fun c7 => ?_) (fun c7 => ?_)
      ·
        refine lv_goto (tgt := 1110) hx hb dL_law_1051 (by decide) ?_
        refine W.widen (k := 60 + i + 1) (n := 11000 + 6 * i + 6) (by omega) (by omega) ?_
        exact kk _ _ ls ⟨la, n, v, C, G, X, D, B, bu, y1, (vp_updL ov 0 r1.toInt64), 0, x2.1, x2.2.1, x2.2.2, hI.mono (Nat.le_succ i), hP, hD, hS⟩ (lv_sub hl [2, 3, 4, 5, 6] rfl)
      · exact absurd ((lg_cmp_eq _ _).mpr (by rw [htie])) c7
  ·
    refine lv_aload_n hx hb dL_law_986 rfl (lv_at hl 2 rfl) ?_
    refine lv_aload_n hx hb dL_law_987 rfl (lv_at hl 1 rfl) ?_
    refine lv_iload hx hb dL_law_988 (lv_at hl 0 rfl) ?_
    refine lv_iconst (v := 1) hx hb dL_law_990 (by decide) ?_
    refine lv_iadd hx hb dL_law_991 ?_
    refine lv_topi (fun y1 ey1 => ?_)
    have hy1 : y1 = nI (i + 1) := by rw [ey1]; exact nI_add i 1
    subst hy1
    refine sldN hx hb hXs hbl hbA hS (k := i + 1) (by omega) (by omega) hv1 dL_law_992 ?_
    refine lv_aload_n hx hb dL_law_993 rfl (lv_at hl 1 rfl) ?_
    refine lv_iload hx hb dL_law_994 (lv_at hl 0 rfl) ?_
    refine lv_iconst (v := 2) hx hb dL_law_996 (by decide) ?_
    refine lv_iadd hx hb dL_law_997 ?_
    refine lv_topi (fun y2 ey2 => ?_)
    have hy2 : y2 = nI (i + 2) := by rw [ey2]; exact nI_add i 2
    subst hy2
    refine sldN hx hb hXs hbl hbA hS (k := i + 2) (by omega) (by omega) hv2 dL_law_998 ?_
    refine lv_aload_n hx hb dL_law_999 rfl (lv_at hl 4 rfl) ?_
    refine callLB (As := [.ref o, .int v1, .int v2, .ref u]) (rest := []) ⟨hx, hb, hml, hown, hts⟩ mcB_in (c_L_plan_bad l dC dI o a q r cI cG la n v C G X D B bu lp u hlt v1 v2 hok) kw409 kw410 kw24 kw411 ⟨rfl, rfl⟩ (n := 4) (by decide +kernel) ⟨Nat.le_of_ble_eq_true rfl, Nat.le_of_ble_eq_true rfl⟩ hP.lft.lft hKH hTh hS rfl hl.1 rfl (Nat.le_of_ble_eq_true rfl) ⟨by show 60 + i + 1 ≤ 601024; omega, by show 11000 + 6 * i + 6 ≤ 7293034; omega⟩ dL_law_1000 (fun H1 locs1 hz1 hk1 hS1 => ?_)
    have hP := P_keep hP hk1
    have hS := hS1
    refine lv_istore (lv' := [(5, .int 1), (4, .int (nI i)), (0, .ref b), (1, .ref o), (2, .ref (w 0)), (3, .ref u)]) hx hb dL_law_1003 hl (by decide) rfl (fun ls hl => ?_)
    refine lv_aload_n hx hb dL_law_1005 rfl (lv_at hl 4 rfl) ?_
    refine lv_aload_n hx hb dL_law_1006 rfl (lv_at hl 2 rfl) ?_
    refine lv_iload hx hb dL_law_1007 (lv_at hl 1 rfl) ?_
    refine lv_iconst (v := 1) hx hb dL_law_1009 (by decide) ?_
    refine lv_iadd hx hb dL_law_1010 ?_
    refine lv_topi (fun y3 ey3 => ?_)
    have hy3 : y3 = nI (i + 1) := by rw [ey3]; exact nI_add i 1
    subst hy3
    refine sldN hx hb hXs hbl hbA hS (k := i + 1) (by omega) (by omega) hv1 dL_law_1011 ?_
    refine lv_aload_n hx hb dL_law_1012 rfl (lv_at hl 2 rfl) ?_
    refine lv_iload hx hb dL_law_1013 (lv_at hl 1 rfl) ?_
    refine lv_iconst (v := 2) hx hb dL_law_1015 (by decide) ?_
    refine lv_iadd hx hb dL_law_1016 ?_
    refine lv_topi (fun y4 ey4 => ?_)
    have hy4 : y4 = nI (i + 2) := by rw [ey4]; exact nI_add i 2
    subst hy4
    refine sldN hx hb hXs hbl hbA hS (k := i + 2) (by omega) (by omega) hv2 dL_law_1017 ?_
    have hPt := P_perm (pm_rot _ _) hP
    have hDt := D_perm (pm_rot _ _) hD
    refine callWXi (As := [.int v1, .int v2]) (rest := []) ⟨hx, hb, hml, hown, hts⟩ mcB_in (c_R_plan_bad l dC dI w cI cZ th n C G X D B bu LG LC ch H1.size v1 v2 hok) kw582 kw583 kw584 kw29 kw585 ⟨rfl, rfl⟩ (n := 2) (by decide +kernel) ⟨Nat.le_of_ble_eq_true rfl, Nat.le_of_ble_eq_true rfl⟩ hPt.lft hKR hDt.lft hS (va_freeL hDt hS hA) (ci := 4) (q0 := 0) rfl rfl rfl hl.1 rfl (Nat.le_of_ble_eq_true rfl) ⟨by show 60 + i + 1 ≤ 601024; omega, by show 11000 + 6 * i + 6 ≤ 7293034; omega⟩ dL_law_1018 (fun r2 x2 H2 locs2 hr2 hP2 hD2 hk2 hS2 => ?_)
    obtain ⟨hPn, hDn⟩ := va_jnL hPt hDt hk2 (va_freeL hDt hS hA) hP2 hD2
    have hS := hS2
    have hP := P_perm (pm_rot _ _) hPn
    have hD := D_perm (pm_rot _ _) hDn
    have hP : va_P (dC, dI) mcCl (mcWL o a q r cI cG la n v C G X D B bu lp u cJ ov ++ mcWR w cI cZ 1 n C G X D B bu LG LC ch) H2 := hP
    have hD : va_D (mcAA s) (mcWL o a q r cI cG la n v C G X D B bu lp u cJ ov ++ mcWR w cI cZ 1 n C G X D B bu LG LC ch) := hD
    refine lv_istore (lv' := [(6, .int r2), (5, .int 1), (4, .int (nI i)), (0, .ref b), (1, .ref o), (2, .ref (w 0)), (3, .ref u)]) hx hb dL_law_1021 hl (by decide) rfl (fun ls hl => ?_)
    refine lv_aload_n hx hb dL_law_1023 rfl (lv_at hl 5 rfl) ?_
    refine callRV (As := []) (rest := []) ⟨hx, hb, hml, hown, hts⟩ mcB_in (c_R_thrown l dC dI w cI cZ 1 n C G X D B bu LG LC ch) kw494 kw495 kw496 kw29 kw497 ⟨rfl, rfl⟩ (n := 0) (by decide +kernel) ⟨Nat.le_of_ble_eq_true rfl, Nat.le_of_ble_eq_true rfl⟩ (roP_preV (P_perm (pm_rot _ _) hP).lft hKR (ci := 4) (q0 := 0) rfl rfl) rfl hl.1 rfl (Nat.le_of_ble_eq_true rfl) ⟨by show 60 + i + 1 ≤ 601024; omega, by show 11000 + 6 * i + 6 ≤ 7293034; omega⟩ dL_law_1024 (fun r3 hr3 => ?_)
    subst hr3
    refine lv_iload hx hb dL_law_1027 (lv_at hl 1 rfl) ?_
    refine lv_icmp_eq (tgt := 1034) hx hb dL_law_1029 (by decide) (fun c5 => ?_) (fun c5 => ?_)
    rotate_left
    · exact absurd (rfl : (nI 1) = 1) c5
    refine lv_iload hx hb dL_law_1034 (lv_at hl 1 rfl) ?_
    refine lv_if_ne (tgt := 1051) hx hb dL_law_1036 (by decide) (fun c6 => ?_) (fun c6 => ?_)
    rotate_left
    · exact absurd c6 (by decide)
    refine lv_goto (tgt := 1110) hx hb dL_law_1051 (by decide) ?_
    exact kk _ _ ls ⟨la, n, v, C, G, X, D, B, bu, lp, ov, 1, LG, LC, ch, hI.mono (Nat.le_succ i), hP, hD, hS⟩ (lv_sub hl [2, 3, 4, 5, 6] rfl)
set_option maxHeartbeats 4000000 in
set_option maxRecDepth 100000 in
theorem law_14 {p : Program} {l : Launch} {e : Env} {s : State} {m : MethodId} {below : List Frame} {meth : Method} {c : Code} {H : Heap} {locs : List Loc} {Q : State → Prop} {ls : Array Slot} {dC : Nat → ClassId} {dI : Nat → Nat → Nat} {b L : Nat} {xs : Nat → Int32} {o : Nat} {a q r : Nat → Nat} {cI cG cZ cJ : ClassId} {u : Nat} {w : Nat → Nat} {i : Nat} (Cx : mcCx p l s m c b L xs dC dI cI cG cZ cJ) (hi : i + 4 ≤ L) (hLS : mcLS s dC dI o a q r cI cG cZ cJ u w i H locs) (hl : lv_has ls 7 [(4, .int (nI i)), (0, .ref b), (1, .ref o), (2, .ref (w 0)), (3, .ref u)])
    (kk : ∀ (H : Heap) (locs : List Loc) (ls : Array Slot), mcLS s dC dI o a q r cI cG cZ cJ u w (i + 1) H locs → lv_has ls 7 [(4, .int (nI i)), (0, .ref b), (1, .ref o), (2, .ref (w 0)), (3, .ref u)] → W p l e room_1 s m #[Value.ref b] below meth c H locs (60 + i + 1) (11000 + 6 * i + 6) Q (F0 m 1110 ls [])) : W p l e room_1 s m #[Value.ref b] below meth c H locs (60 + i) (11000 + 6 * i) Q (F0 m 1054 ls []) := by
  obtain ⟨hx, hb, hml, hown, hts, hXs, hbl, hlt, hL, hK, hTh0⟩ := Cx
  obtain ⟨la, n, v, C, G, X, D, B, bu, lp, ov, th, LG, LC, ch, hI, hP, hD, hS⟩ := hLS
  have hA : ∀ q : Nat, s.heap.size ≤ q → mcAA s q := fun _ h => h
  have hbA : ¬ mcAA s b := Nat.not_le.mpr hbl
  obtain ⟨hn, hC1, hC, hG, hB, hXn, hDn, hbu, hIA, hvi⟩ := id hI
  have hX : ∀ m, X m < 4096 := fun m => mc_lt12 hn (hXn m)
  have hDD : ∀ m, D m < 4096 := fun m => mc_lt12 hn (hDn m)
  have hv3 : v < 2147483648 := by omega
  have hTh : mcTh s H := hTh0.keep (fun q hq => hS.2.1 q hq (Nat.not_le.mpr hq))
  have hKR := hK.sub (tys' := mcTR cI cZ) [0, 2] rfl
  have hKH := hK.sub (tys' := mcTH cI cG) [0, 1] rfl
  obtain ⟨v1, hv1⟩ : ∃ v, xs (i + 1) = v := ⟨_, rfl⟩
  obtain ⟨v2, hv2⟩ : ∃ v, xs (i + 2) = v := ⟨_, rfl⟩
  obtain ⟨v3, hv3v⟩ : ∃ v, xs (i + 3) = v := ⟨_, rfl⟩
  by_cases hok : (1 ≤ v1 ∧ v1 ≤ 4)
  ·
    have hY := hok
    obtain ⟨Y, hY1, hY4, rfl⟩ := rep1 (M := 4) (by decide) rfl hY
    refine lv_aload_n hx hb dL_law_1054 rfl (lv_at hl 2 rfl) ?_
    refine lv_aload_n hx hb dL_law_1055 rfl (lv_at hl 1 rfl) ?_
    refine lv_iload hx hb dL_law_1056 (lv_at hl 0 rfl) ?_
    refine lv_iconst (v := 1) hx hb dL_law_1058 (by decide) ?_
    refine lv_iadd hx hb dL_law_1059 ?_
    refine lv_topi (fun y1 ey1 => ?_)
    have hy1 : y1 = nI (i + 1) := by rw [ey1]; exact nI_add i 1
    subst hy1
    refine sldN hx hb hXs hbl hbA hS (k := i + 1) (by omega) (by omega) hv1 dL_law_1060 ?_
    refine lv_aload_n hx hb dL_law_1061 rfl (lv_at hl 4 rfl) ?_
    refine callLW (As := [.ref o, .int (nI Y), .ref u]) (rest := []) ⟨hx, hb, hml, hown, hts⟩ mcB_in (c_L_planned_ok l dC dI o a q r cI cG la n v C G X D B bu lp cZ cJ u ov H.size Y hY1 hY4 hY hbu hn hC hG hB hX hDD) kw446 kw447 kw24 kw448 ⟨rfl, rfl⟩ (n := 3) (by decide +kernel) ⟨Nat.le_of_ble_eq_true rfl, Nat.le_of_ble_eq_true rfl⟩ hP.lft hK hD.lft hS (va_freeL hD hS hA) rfl hl.1 rfl (Nat.le_of_ble_eq_true rfl) ⟨by show 60 + i ≤ 601024; omega, by show 11000 + 6 * i ≤ 7293034; omega⟩ dL_law_1062 (fun z1 x1 H1 locs1 hz1 hP1 hD1 hk1 hS1 => ?_)
    obtain ⟨r1, y1⟩ := x1
    obtain ⟨hz0, hr1⟩ := hz1
    dsimp only at hr1
    subst hz0
    have hP1 : va_P (dC, dI) mcCl (mcWL o a q r cI cG la n v C G X D B bu y1 u cJ (vp_updL ov 0 r1.toInt64)) H1 := hP1
    have hD1 : va_D _ (mcWL o a q r cI cG la n v C G X D B bu y1 u cJ (vp_updL ov 0 r1.toInt64)) := hD1
    obtain ⟨hP, hD⟩ := va_jnL hP hD hk1 (va_freeL hD hS hA) hP1 hD1
    have hS := hS1
    refine lv_istore (lv' := [(5, .int 0), (4, .int (nI i)), (0, .ref b), (1, .ref o), (2, .ref (w 0)), (3, .ref u)]) hx hb dL_law_1065 hl (by decide) rfl (fun ls hl => ?_)
    refine lv_aload_n hx hb dL_law_1067 rfl (lv_at hl 4 rfl) ?_
    refine lv_aload_n hx hb dL_law_1068 rfl (lv_at hl 2 rfl) ?_
    refine lv_iload hx hb dL_law_1069 (lv_at hl 1 rfl) ?_
    refine lv_iconst (v := 1) hx hb dL_law_1071 (by decide) ?_
    refine lv_iadd hx hb dL_law_1072 ?_
    refine lv_topi (fun y2 ey2 => ?_)
    have hy2 : y2 = nI (i + 1) := by rw [ey2]; exact nI_add i 1
    subst hy2
    refine sldN hx hb hXs hbl hbA hS (k := i + 1) (by omega) (by omega) hv1 dL_law_1073 ?_
    have hPt := P_perm (pm_rot _ _) hP
    have hDt := D_perm (pm_rot _ _) hD
    refine callWXi (As := [.int (nI Y)]) (rest := []) ⟨hx, hb, hml, hown, hts⟩ mcB_in (c_R_planned_ok l dC dI w cI cZ th n C G X D B bu LG LC ch H1.size Y hY1 hY4 hY hbu hn hC hG hB hXn hDn) kw592 kw593 kw594 kw29 kw595 ⟨rfl, rfl⟩ (n := 1) (by decide +kernel) ⟨Nat.le_of_ble_eq_true rfl, Nat.le_of_ble_eq_true rfl⟩ hPt.lft hKR hDt.lft hS (va_freeL hDt hS hA) (ci := 4) (q0 := 0) rfl rfl rfl hl.1 rfl (Nat.le_of_ble_eq_true rfl) ⟨by show 60 + i ≤ 601024; omega, by show 11000 + 6 * i ≤ 7293034; omega⟩ dL_law_1074 (fun r2 x2 H2 locs2 hr2 hP2 hD2 hk2 hS2 => ?_)
    obtain ⟨hPn, hDn⟩ := va_jnL hPt hDt hk2 (va_freeL hDt hS hA) hP2 hD2
    have hS := hS2
    have hP := P_perm (pm_rot _ _) hPn
    have hD := D_perm (pm_rot _ _) hDn
    have hP : va_P (dC, dI) mcCl (mcWL o a q r cI cG la n v C G X D B bu y1 u cJ (vp_updL ov 0 r1.toInt64) ++ mcWR w cI cZ 0 n C G X D B bu x2.1 x2.2.1 x2.2.2) H2 := hP
    have hD : va_D (mcAA s) (mcWL o a q r cI cG la n v C G X D B bu y1 u cJ (vp_updL ov 0 r1.toInt64) ++ mcWR w cI cZ 0 n C G X D B bu x2.1 x2.2.1 x2.2.2) := hD
    refine lv_istore (lv' := [(6, .int r2), (5, .int 0), (4, .int (nI i)), (0, .ref b), (1, .ref o), (2, .ref (w 0)), (3, .ref u)]) hx hb dL_law_1077 hl (by decide) rfl (fun ls hl => ?_)
    refine lv_aload_n hx hb dL_law_1079 rfl (lv_at hl 5 rfl) ?_
    refine callRV (As := []) (rest := []) ⟨hx, hb, hml, hown, hts⟩ mcB_in (c_R_thrown l dC dI w cI cZ 0 n C G X D B bu x2.1 x2.2.1 x2.2.2) kw494 kw495 kw496 kw29 kw497 ⟨rfl, rfl⟩ (n := 0) (by decide +kernel) ⟨Nat.le_of_ble_eq_true rfl, Nat.le_of_ble_eq_true rfl⟩ (roP_preV (P_perm (pm_rot _ _) hP).lft hKR (ci := 4) (q0 := 0) rfl rfl) rfl hl.1 rfl (Nat.le_of_ble_eq_true rfl) ⟨by show 60 + i ≤ 601024; omega, by show 11000 + 6 * i ≤ 7293034; omega⟩ dL_law_1080 (fun r3 hr3 => ?_)
    subst hr3
    refine lv_iload hx hb dL_law_1083 (lv_at hl 1 rfl) ?_
    refine lv_icmp_eq (tgt := 1090) hx hb dL_law_1085 (by decide) (fun c3 => ?_) (fun c3 => ?_)
    rotate_left
    · exact absurd (rfl : (nI 0) = 0) c3
    refine lv_iload hx hb dL_law_1090 (lv_at hl 1 rfl) ?_
    refine lv_if_ne (tgt := 1107) hx hb dL_law_1092 (by decide) (fun c4 => ?_) (fun c4 => ?_)
    · exact absurd (rfl : (0 : Int32) = 0) c4
    ·
      have htie : r1 = r2 := by obtain ⟨⟨f1, e1, k1⟩, p1⟩ := hr1; obtain ⟨e2, p2⟩ := hr2; rw [e1, e2, mc_tie_planned p1 p2 hbu hY1 hY4 k1]
      refine lv_aload_n hx hb dL_law_1095 rfl (lv_at hl 6 rfl) ?_
      refine lv_iconst (v := 0) hx hb dL_law_1096 (by decide) ?_
      refine va_lald hx hb hK hP 37 3 rfl rfl (i := 0) (vp_in_nI (n := 0) (N := 1) (by decide) (by decide)) dL_law_1097 ?_
      refine W.eq (g2 := F0 m 1098 ls [.long r1.toInt64]) rfl ?_
      refine lv_iload hx hb dL_law_1098 (lv_at hl 0 rfl) ?_
      refine lv_i2l (v := (r2).toInt64) hx hb dL_law_1100 rfl ?_
      refine W.lcmp hx hb dL_law_1101 ?_
      refine lv_if_eq (tgt := 1107) hx hb dL_law_1102 (by decide) (fun c5 => ?_) (fun c5 => ?_)
      ·
        refine lv_goto (tgt := 1110) hx hb dL_law_1107 (by decide) ?_
        refine W.widen (k := 60 + i + 1) (n := 11000 + 6 * i + 6) (by omega) (by omega) ?_
        exact kk _ _ ls ⟨la, n, v, C, G, X, D, B, bu, y1, (vp_updL ov 0 r1.toInt64), 0, x2.1, x2.2.1, x2.2.2, hI.mono (Nat.le_succ i), hP, hD, hS⟩ (lv_sub hl [2, 3, 4, 5, 6] rfl)
      · exact absurd ((lg_cmp_eq _ _).mpr (by rw [htie])) c5
  ·
    refine lv_aload_n hx hb dL_law_1054 rfl (lv_at hl 2 rfl) ?_
    refine lv_aload_n hx hb dL_law_1055 rfl (lv_at hl 1 rfl) ?_
    refine lv_iload hx hb dL_law_1056 (lv_at hl 0 rfl) ?_
    refine lv_iconst (v := 1) hx hb dL_law_1058 (by decide) ?_
    refine lv_iadd hx hb dL_law_1059 ?_
    refine lv_topi (fun y1 ey1 => ?_)
    have hy1 : y1 = nI (i + 1) := by rw [ey1]; exact nI_add i 1
    subst hy1
    refine sldN hx hb hXs hbl hbA hS (k := i + 1) (by omega) (by omega) hv1 dL_law_1060 ?_
    refine lv_aload_n hx hb dL_law_1061 rfl (lv_at hl 4 rfl) ?_
    refine callLB (As := [.ref o, .int v1, .ref u]) (rest := []) ⟨hx, hb, hml, hown, hts⟩ mcB_in (c_L_planned_bad l dC dI o a q r cI cG la n v C G X D B bu lp u hlt v1 hok) kw446 kw447 kw24 kw448 ⟨rfl, rfl⟩ (n := 3) (by decide +kernel) ⟨Nat.le_of_ble_eq_true rfl, Nat.le_of_ble_eq_true rfl⟩ hP.lft.lft hKH hTh hS rfl hl.1 rfl (Nat.le_of_ble_eq_true rfl) ⟨by show 60 + i + 1 ≤ 601024; omega, by show 11000 + 6 * i + 6 ≤ 7293034; omega⟩ dL_law_1062 (fun H1 locs1 hz1 hk1 hS1 => ?_)
    have hP := P_keep hP hk1
    have hS := hS1
    refine lv_istore (lv' := [(5, .int 1), (4, .int (nI i)), (0, .ref b), (1, .ref o), (2, .ref (w 0)), (3, .ref u)]) hx hb dL_law_1065 hl (by decide) rfl (fun ls hl => ?_)
    refine lv_aload_n hx hb dL_law_1067 rfl (lv_at hl 4 rfl) ?_
    refine lv_aload_n hx hb dL_law_1068 rfl (lv_at hl 2 rfl) ?_
    refine lv_iload hx hb dL_law_1069 (lv_at hl 1 rfl) ?_
    refine lv_iconst (v := 1) hx hb dL_law_1071 (by decide) ?_
    refine lv_iadd hx hb dL_law_1072 ?_
    refine lv_topi (fun y2 ey2 => ?_)
    have hy2 : y2 = nI (i + 1) := by rw [ey2]; exact nI_add i 1
    subst hy2
    refine sldN hx hb hXs hbl hbA hS (k := i + 1) (by omega) (by omega) hv1 dL_law_1073 ?_
    have hPt := P_perm (pm_rot _ _) hP
    have hDt := D_perm (pm_rot _ _) hD
    refine callWXi (As := [.int v1]) (rest := []) ⟨hx, hb, hml, hown, hts⟩ mcB_in (c_R_planned_bad l dC dI w cI cZ th n C G X D B bu LG LC ch H1.size v1 hok) kw592 kw593 kw594 kw29 kw595 ⟨rfl, rfl⟩ (n := 1) (by decide +kernel) ⟨Nat.le_of_ble_eq_true rfl, Nat.le_of_ble_eq_true rfl⟩ hPt.lft hKR hDt.lft hS (va_freeL hDt hS hA) (ci := 4) (q0 := 0) rfl rfl rfl hl.1 rfl (Nat.le_of_ble_eq_true rfl) ⟨by show 60 + i + 1 ≤ 601024; omega, by show 11000 + 6 * i + 6 ≤ 7293034; omega⟩ dL_law_1074 (fun r2 x2 H2 locs2 hr2 hP2 hD2 hk2 hS2 => ?_)
    obtain ⟨hPn, hDn⟩ := va_jnL hPt hDt hk2 (va_freeL hDt hS hA) hP2 hD2
    have hS := hS2
    have hP := P_perm (pm_rot _ _) hPn
    have hD := D_perm (pm_rot _ _) hDn
    have hP : va_P (dC, dI) mcCl (mcWL o a q r cI cG la n v C G X D B bu lp u cJ ov ++ mcWR w cI cZ 1 n C G X D B bu LG LC ch) H2 := hP
    have hD : va_D (mcAA s) (mcWL o a q r cI cG la n v C G X D B bu lp u cJ ov ++ mcWR w cI cZ 1 n C G X D B bu LG LC ch) := hD
    refine lv_istore (lv' := [(6, .int r2), (5, .int 1), (4, .int (nI i)), (0, .ref b), (1, .ref o), (2, .ref (w 0)), (3, .ref u)]) hx hb dL_law_1077 hl (by decide) rfl (fun ls hl => ?_)
    refine lv_aload_n hx hb dL_law_1079 rfl (lv_at hl 5 rfl) ?_
    refine callRV (As := []) (rest := []) ⟨hx, hb, hml, hown, hts⟩ mcB_in (c_R_thrown l dC dI w cI cZ 1 n C G X D B bu LG LC ch) kw494 kw495 kw496 kw29 kw497 ⟨rfl, rfl⟩ (n := 0) (by decide +kernel) ⟨Nat.le_of_ble_eq_true rfl, Nat.le_of_ble_eq_true rfl⟩ (roP_preV (P_perm (pm_rot _ _) hP).lft hKR (ci := 4) (q0 := 0) rfl rfl) rfl hl.1 rfl (Nat.le_of_ble_eq_true rfl) ⟨by show 60 + i + 1 ≤ 601024; omega, by show 11000 + 6 * i + 6 ≤ 7293034; omega⟩ dL_law_1080 (fun r3 hr3 => ?_)
    subst hr3
    refine lv_iload hx hb dL_law_1083 (lv_at hl 1 rfl) ?_
    refine lv_icmp_eq (tgt := 1090) hx hb dL_law_1085 (by decide) (fun c3 => ?_) (fun c3 => ?_)
    rotate_left
    · exact absurd (rfl : (nI 1) = 1) c3
    refine lv_iload hx hb dL_law_1090 (lv_at hl 1 rfl) ?_
    refine lv_if_ne (tgt := 1107) hx hb dL_law_1092 (by decide) (fun c4 => ?_) (fun c4 => ?_)
    rotate_left
    · exact absurd c4 (by decide)
    refine lv_goto (tgt := 1110) hx hb dL_law_1107 (by decide) ?_
    exact kk _ _ ls ⟨la, n, v, C, G, X, D, B, bu, lp, ov, 1, LG, LC, ch, hI.mono (Nat.le_succ i), hP, hD, hS⟩ (lv_sub hl [2, 3, 4, 5, 6] rfl)
