/-! the law, call by call -/
set_option maxHeartbeats 4000000 in
set_option maxRecDepth 100000 in
theorem law_0 {p : Program} {l : Launch} {e : Env} {s : State} {m : MethodId} {below : List Frame} {meth : Method} {c : Code} {H : Heap} {locs : List Loc} {Q : State → Prop} {ls : Array Slot} {dC : Nat → ClassId} {dI : Nat → Nat → Nat} {b L : Nat} {xs : Nat → Int32} {o : Nat} {a q r : Nat → Nat} {cI cG cZ cJ : ClassId} {u : Nat} {w : Nat → Nat} {i : Nat} (Cx : mcCx p l s m c b L xs dC dI cI cG cZ cJ) (hi : i + 4 ≤ L) (hLS : mcLS s dC dI o a q r cI cG cZ cJ u w i H locs) (hl : lv_has ls 7 [(4, .int (nI i)), (0, .ref b), (1, .ref o), (2, .ref (w 0)), (3, .ref u)])
    (kk : ∀ (H : Heap) (locs : List Loc) (ls : Array Slot), mcLS s dC dI o a q r cI cG cZ cJ u w (i + 1) H locs → lv_has ls 7 [(4, .int (nI i)), (0, .ref b), (1, .ref o), (2, .ref (w 0)), (3, .ref u)] → W p l e room_1 s m #[Value.ref b] below meth c H locs (60 + i + 1) (11000 + 6 * i + 6) Q (F0 m 1110 ls [])) : W p l e room_1 s m #[Value.ref b] below meth c H locs (60 + i) (11000 + 6 * i) Q (F0 m 112 ls []) := by
  obtain ⟨hx, hb, hml, hown, hts, hXs, hbl, hlt, hL, hK, hTh0⟩ := Cx
  obtain ⟨la, n, v, C, G, X, D, B, bu, lp, ov, th, LG, LC, ch, hI, hP, hD, hS⟩ := hLS
  have hA : ∀ q : Nat, s.heap.size ≤ q → mcAA s q := fun _ h => h
  have hbA : ¬ mcAA s b := Nat.not_le.mpr hbl
  obtain ⟨hn, hC1, hC, hG, hB, hXn, hDn, hbu, hIA, hvi⟩ := id hI
  have hX : ∀ m, X m < 4096 := fun m => mc_lt12 hn (hXn m)
  have hDD : ∀ m, D m < 4096 := fun m => mc_lt12 hn (hDn m)
  have hv3 : v < 2147483648 := by omega
  have hTh : mcTh s H := hTh0.keep (fun q hq => hS.2.1 q hq (Nat.not_le.mpr hq))
  have hKR := hK.sub (tys' := mcTR cI cZ) [0, 2] rfl
  have hKH := hK.sub (tys' := mcTH cI cG) [0, 1] rfl
  obtain ⟨v1, hv1⟩ : ∃ v, xs (i + 1) = v := ⟨_, rfl⟩
  obtain ⟨v2, hv2⟩ : ∃ v, xs (i + 2) = v := ⟨_, rfl⟩
  obtain ⟨v3, hv3v⟩ : ∃ v, xs (i + 3) = v := ⟨_, rfl⟩
  by_cases hok : (1 ≤ v1 ∧ v1 ≤ 10000) ∧ (0 ≤ v2 ∧ v2 ≤ 10000)
  ·
    obtain ⟨h1, h2⟩ := id hok
    obtain ⟨cv, cva, cvb, rfl⟩ := rep1 (M := 10000) (by decide) rfl h1
    obtain ⟨gv, gvb, rfl⟩ := rep0 (M := 10000) (by decide) rfl h2
    by_cases hf : n < 12
    ·
      refine lv_aload_n hx hb dL_law_112 rfl (lv_at hl 2 rfl) ?_
      refine lv_aload_n hx hb dL_law_113 rfl (lv_at hl 1 rfl) ?_
      refine lv_iload hx hb dL_law_114 (lv_at hl 0 rfl) ?_
      refine lv_iconst (v := 1) hx hb dL_law_116 (by decide) ?_
      refine lv_iadd hx hb dL_law_117 ?_
      refine lv_topi (fun y1 ey1 => ?_)
      have hy1 : y1 = nI (i + 1) := by rw [ey1]; exact nI_add i 1
      subst hy1
      refine sldN hx hb hXs hbl hbA hS (k := i + 1) (by omega) (by omega) hv1 dL_law_118 ?_
      refine lv_aload_n hx hb dL_law_119 rfl (lv_at hl 1 rfl) ?_
      refine lv_iload hx hb dL_law_120 (lv_at hl 0 rfl) ?_
      refine lv_iconst (v := 2) hx hb dL_law_122 (by decide) ?_
      refine lv_iadd hx hb dL_law_123 ?_
      refine lv_topi (fun y2 ey2 => ?_)
      have hy2 : y2 = nI (i + 2) := by rw [ey2]; exact nI_add i 2
      subst hy2
      refine sldN hx hb hXs hbl hbA hS (k := i + 2) (by omega) (by omega) hv2 dL_law_124 ?_
      refine lv_aload_n hx hb dL_law_125 rfl (lv_at hl 4 rfl) ?_
      refine callLW (As := [.ref o, .int (nI cv), .int (nI gv), .ref u]) (rest := []) ⟨hx, hb, hml, hown, hts⟩ mcB_in (c_L_measure_ok l dC dI o a q r cI cG la n v C G X D B bu lp cZ cJ u ov H.size cv gv hf h1 h2) kw183 kw184 kw24 kw185 ⟨rfl, rfl⟩ (n := 4) (by decide +kernel) ⟨Nat.le_of_ble_eq_true rfl, Nat.le_of_ble_eq_true rfl⟩ hP.lft hK hD.lft hS (va_freeL hD hS hA) rfl hl.1 rfl (Nat.le_of_ble_eq_true rfl) ⟨by show 60 + i ≤ 601024; omega, by show 11000 + 6 * i ≤ 7293034; omega⟩ dL_law_126 (fun z1 x1 H1 locs1 hz1 hP1 hD1 hk1 hS1 => ?_)
      obtain ⟨r1, y1⟩ := x1
      obtain ⟨hz0, hr1⟩ := hz1
      dsimp only at hr1
      subst hz0
      have hP1 : va_P (dC, dI) mcCl (mcWL o a q r cI cG la (n + 1) (v + 1) (va_up C n cv) (va_up G n gv) X D B bu lp u cJ (vp_updL ov 0 r1.toInt64)) H1 := hP1
      have hD1 : va_D _ (mcWL o a q r cI cG la (n + 1) (v + 1) (va_up C n cv) (va_up G n gv) X D B bu lp u cJ (vp_updL ov 0 r1.toInt64)) := hD1
      obtain ⟨hP, hD⟩ := va_jnL hP hD hk1 (va_freeL hD hS hA) hP1 hD1
      have hS := hS1
      refine lv_istore (lv' := [(5, .int 0), (4, .int (nI i)), (0, .ref b), (1, .ref o), (2, .ref (w 0)), (3, .ref u)]) hx hb dL_law_129 hl (by decide) rfl (fun ls hl => ?_)
      refine lv_aload_n hx hb dL_law_131 rfl (lv_at hl 4 rfl) ?_
      refine lv_aload_n hx hb dL_law_132 rfl (lv_at hl 2 rfl) ?_
      refine lv_iload hx hb dL_law_133 (lv_at hl 1 rfl) ?_
      refine lv_iconst (v := 1) hx hb dL_law_135 (by decide) ?_
      refine lv_iadd hx hb dL_law_136 ?_
      refine lv_topi (fun y3 ey3 => ?_)
      have hy3 : y3 = nI (i + 1) := by rw [ey3]; exact nI_add i 1
      subst hy3
      refine sldN hx hb hXs hbl hbA hS (k := i + 1) (by omega) (by omega) hv1 dL_law_137 ?_
      refine lv_aload_n hx hb dL_law_138 rfl (lv_at hl 2 rfl) ?_
      refine lv_iload hx hb dL_law_139 (lv_at hl 1 rfl) ?_
      refine lv_iconst (v := 2) hx hb dL_law_141 (by decide) ?_
      refine lv_iadd hx hb dL_law_142 ?_
      refine lv_topi (fun y4 ey4 => ?_)
      have hy4 : y4 = nI (i + 2) := by rw [ey4]; exact nI_add i 2
      subst hy4
      refine sldN hx hb hXs hbl hbA hS (k := i + 2) (by omega) (by omega) hv2 dL_law_143 ?_
      have hPt := P_perm (pm_rot _ _) hP
      have hDt := D_perm (pm_rot _ _) hD
      refine callWXi (As := [.int (nI cv), .int (nI gv)]) (rest := []) ⟨hx, hb, hml, hown, hts⟩ mcB_in (c_R_measure_ok l dC dI w cI cZ th n C G X D B bu LG LC ch H1.size cv gv hn h1 h2 hf) kw498 kw499 kw500 kw29 kw501 ⟨rfl, rfl⟩ (n := 2) (by decide +kernel) ⟨Nat.le_of_ble_eq_true rfl, Nat.le_of_ble_eq_true rfl⟩ hPt.lft hKR hDt.lft hS (va_freeL hDt hS hA) (ci := 4) (q0 := 0) rfl rfl rfl hl.1 rfl (Nat.le_of_ble_eq_true rfl) ⟨by show 60 + i ≤ 601024; omega, by show 11000 + 6 * i ≤ 7293034; omega⟩ dL_law_144 (fun r2 x2 H2 locs2 hr2 hP2 hD2 hk2 hS2 => ?_)
      obtain ⟨hPn, hDn⟩ := va_jnL hPt hDt hk2 (va_freeL hDt hS hA) hP2 hD2
      have hS := hS2
      have hP := P_perm (pm_rot _ _) hPn
      have hD := D_perm (pm_rot _ _) hDn
      have hP : va_P (dC, dI) mcCl (mcWL o a q r cI cG la (n + 1) (v + 1) (va_up C n cv) (va_up G n gv) X D B bu lp u cJ (vp_updL ov 0 r1.toInt64) ++ mcWR w cI cZ 0 (n + 1) (va_up C n cv) (va_up G n gv) X D B bu LG LC ch) H2 := hP
      have hD : va_D (mcAA s) (mcWL o a q r cI cG la (n + 1) (v + 1) (va_up C n cv) (va_up G n gv) X D B bu lp u cJ (vp_updL ov 0 r1.toInt64) ++ mcWR w cI cZ 0 (n + 1) (va_up C n cv) (va_up G n gv) X D B bu LG LC ch) := hD
      refine lv_istore (lv' := [(6, .int r2), (5, .int 0), (4, .int (nI i)), (0, .ref b), (1, .ref o), (2, .ref (w 0)), (3, .ref u)]) hx hb dL_law_147 hl (by decide) rfl (fun ls hl => ?_)
      refine lv_aload_n hx hb dL_law_149 rfl (lv_at hl 5 rfl) ?_
      refine callRV (As := []) (rest := []) ⟨hx, hb, hml, hown, hts⟩ mcB_in (c_R_thrown l dC dI w cI cZ 0 (n + 1) (va_up C n cv) (va_up G n gv) X D B bu LG LC ch) kw494 kw495 kw496 kw29 kw497 ⟨rfl, rfl⟩ (n := 0) (by decide +kernel) ⟨Nat.le_of_ble_eq_true rfl, Nat.le_of_ble_eq_true rfl⟩ (roP_preV (P_perm (pm_rot _ _) hP).lft hKR (ci := 4) (q0 := 0) rfl rfl) rfl hl.1 rfl (Nat.le_of_ble_eq_true rfl) ⟨by show 60 + i ≤ 601024; omega, by show 11000 + 6 * i ≤ 7293034; omega⟩ dL_law_150 (fun r3 hr3 => ?_)
      subst hr3
      refine lv_iload hx hb dL_law_153 (lv_at hl 1 rfl) ?_
      refine lv_icmp_eq (tgt := 160) hx hb dL_law_155 (by decide) (fun c5 => ?_) (fun c5 => ?_)
      rotate_left
      · exact absurd (rfl : (nI 0) = 0) c5
      refine lv_iload hx hb dL_law_160 (lv_at hl 1 rfl) ?_
      refine lv_if_ne (tgt := 177) hx hb dL_law_162 (by decide) (fun c6 => ?_) (fun c6 => ?_)
      · exact absurd (rfl : (0 : Int32) = 0) c6
      ·
        have htie : r1 = r2 := (hr1 : r1 = nI n).trans (hr2 : r2 = nI n).symm
        refine lv_aload_n hx hb dL_law_165 rfl (lv_at hl 6 rfl) ?_
        refine lv_iconst (v := 0) hx hb dL_law_166 (by decide) ?_
        refine va_lald hx hb hK hP 37 3 rfl rfl (i := 0) (vp_in_nI (n := 0) (N := 1) (by decide) (by decide)) dL_law_167 ?_
        refine W.eq (g2 := F0 m 168 ls [.long r1.toInt64]) rfl ?_
        refine lv_iload hx hb dL_law_168 (lv_at hl 0 rfl) ?_
        refine lv_i2l (v := (r2).toInt64) hx hb dL_law_170 rfl ?_
        refine W.lcmp hx hb dL_law_171 ?_
        refine lv_if_eq (tgt := 177) hx hb dL_law_172 (by decide) (fun c7 => ?_) (fun c7 => ?_)
        ·
          refine lv_goto (tgt := 1110) hx hb dL_law_177 (by decide) ?_
          refine W.widen (k := 60 + i + 1) (n := 11000 + 6 * i + 6) (by omega) (by omega) ?_
          exact kk _ _ ls ⟨la, (n + 1), (v + 1), (va_up C n cv), (va_up G n gv), X, D, B, bu, lp, (vp_updL ov 0 r1.toInt64), 0, LG, LC, ch, hI.measure hf ⟨cva, cvb⟩ gvb, hP, hD, hS⟩ (lv_sub hl [2, 3, 4, 5, 6] rfl)
        · exact absurd ((lg_cmp_eq _ _).mpr (by rw [htie])) c7
    ·
      have hf : n = 12 := by omega
      refine lv_aload_n hx hb dL_law_112 rfl (lv_at hl 2 rfl) ?_
      refine lv_aload_n hx hb dL_law_113 rfl (lv_at hl 1 rfl) ?_
      refine lv_iload hx hb dL_law_114 (lv_at hl 0 rfl) ?_
      refine lv_iconst (v := 1) hx hb dL_law_116 (by decide) ?_
      refine lv_iadd hx hb dL_law_117 ?_
      refine lv_topi (fun y1 ey1 => ?_)
      have hy1 : y1 = nI (i + 1) := by rw [ey1]; exact nI_add i 1
      subst hy1
      refine sldN hx hb hXs hbl hbA hS (k := i + 1) (by omega) (by omega) hv1 dL_law_118 ?_
      refine lv_aload_n hx hb dL_law_119 rfl (lv_at hl 1 rfl) ?_
      refine lv_iload hx hb dL_law_120 (lv_at hl 0 rfl) ?_
      refine lv_iconst (v := 2) hx hb dL_law_122 (by decide) ?_
      refine lv_iadd hx hb dL_law_123 ?_
      refine lv_topi (fun y2 ey2 => ?_)
      have hy2 : y2 = nI (i + 2) := by rw [ey2]; exact nI_add i 2
      subst hy2
      refine sldN hx hb hXs hbl hbA hS (k := i + 2) (by omega) (by omega) hv2 dL_law_124 ?_
      refine lv_aload_n hx hb dL_law_125 rfl (lv_at hl 4 rfl) ?_
      refine callLB (As := [.ref o, .int (nI cv), .int (nI gv), .ref u]) (rest := []) ⟨hx, hb, hml, hown, hts⟩ mcB_in (c_L_measure_full l dC dI o a q r cI cG la n v C G X D B bu lp u hlt (nI cv) (nI gv) hok hf) kw183 kw184 kw24 kw185 ⟨rfl, rfl⟩ (n := 4) (by decide +kernel) ⟨Nat.le_of_ble_eq_true rfl, Nat.le_of_ble_eq_true rfl⟩ hP.lft.lft hKH hTh hS rfl hl.1 rfl (Nat.le_of_ble_eq_true rfl) ⟨by show 60 + i + 1 ≤ 601024; omega, by show 11000 + 6 * i + 6 ≤ 7293034; omega⟩ dL_law_126 (fun H1 locs1 hz1 hk1 hS1 => ?_)
      have hP := P_keep hP hk1
      have hS := hS1
      refine lv_istore (lv' := [(5, .int 2), (4, .int (nI i)), (0, .ref b), (1, .ref o), (2, .ref (w 0)), (3, .ref u)]) hx hb dL_law_129 hl (by decide) rfl (fun ls hl => ?_)
      refine lv_aload_n hx hb dL_law_131 rfl (lv_at hl 4 rfl) ?_
      refine lv_aload_n hx hb dL_law_132 rfl (lv_at hl 2 rfl) ?_
      refine lv_iload hx hb dL_law_133 (lv_at hl 1 rfl) ?_
      refine lv_iconst (v := 1) hx hb dL_law_135 (by decide) ?_
      refine lv_iadd hx hb dL_law_136 ?_
      refine lv_topi (fun y3 ey3 => ?_)
      have hy3 : y3 = nI (i + 1) := by rw [ey3]; exact nI_add i 1
      subst hy3
      refine sldN hx hb hXs hbl hbA hS (k := i + 1) (by omega) (by omega) hv1 dL_law_137 ?_
      refine lv_aload_n hx hb dL_law_138 rfl (lv_at hl 2 rfl) ?_
      refine lv_iload hx hb dL_law_139 (lv_at hl 1 rfl) ?_
      refine lv_iconst (v := 2) hx hb dL_law_141 (by decide) ?_
      refine lv_iadd hx hb dL_law_142 ?_
      refine lv_topi (fun y4 ey4 => ?_)
      have hy4 : y4 = nI (i + 2) := by rw [ey4]; exact nI_add i 2
      subst hy4
      refine sldN hx hb hXs hbl hbA hS (k := i + 2) (by omega) (by omega) hv2 dL_law_143 ?_
      have hPt := P_perm (pm_rot _ _) hP
      have hDt := D_perm (pm_rot _ _) hD
      refine callWXi (As := [.int (nI cv), .int (nI gv)]) (rest := []) ⟨hx, hb, hml, hown, hts⟩ mcB_in (c_R_measure_full l dC dI w cI cZ th n C G X D B bu LG LC ch H1.size cv gv hn h1 h2 hf) kw498 kw499 kw500 kw29 kw501 ⟨rfl, rfl⟩ (n := 2) (by decide +kernel) ⟨Nat.le_of_ble_eq_true rfl, Nat.le_of_ble_eq_true rfl⟩ hPt.lft hKR hDt.lft hS (va_freeL hDt hS hA) (ci := 4) (q0 := 0) rfl rfl rfl hl.1 rfl (Nat.le_of_ble_eq_true rfl) ⟨by show 60 + i + 1 ≤ 601024; omega, by show 11000 + 6 * i + 6 ≤ 7293034; omega⟩ dL_law_144 (fun r2 x2 H2 locs2 hr2 hP2 hD2 hk2 hS2 => ?_)
      obtain ⟨hPn, hDn⟩ := va_jnL hPt hDt hk2 (va_freeL hDt hS hA) hP2 hD2
      have hS := hS2
      have hP := P_perm (pm_rot _ _) hPn
      have hD := D_perm (pm_rot _ _) hDn
      have hP : va_P (dC, dI) mcCl (mcWL o a q r cI cG la n v C G X D B bu lp u cJ ov ++ mcWR w cI cZ 2 n C G X D B bu LG LC ch) H2 := hP
      have hD : va_D (mcAA s) (mcWL o a q r cI cG la n v C G X D B bu lp u cJ ov ++ mcWR w cI cZ 2 n C G X D B bu LG LC ch) := hD
      refine lv_istore (lv' := [(6, .int r2), (5, .int 2), (4, .int (nI i)), (0, .ref b), (1, .ref o), (2, .ref (w 0)), (3, .ref u)]) hx hb dL_law_147 hl (by decide) rfl (fun ls hl => ?_)
      refine lv_aload_n hx hb dL_law_149 rfl (lv_at hl 5 rfl) ?_
      refine callRV (As := []) (rest := []) ⟨hx, hb, hml, hown, hts⟩ mcB_in (c_R_thrown l dC dI w cI cZ 2 n C G X D B bu LG LC ch) kw494 kw495 kw496 kw29 kw497 ⟨rfl, rfl⟩ (n := 0) (by decide +kernel) ⟨Nat.le_of_ble_eq_true rfl, Nat.le_of_ble_eq_true rfl⟩ (roP_preV (P_perm (pm_rot _ _) hP).lft hKR (ci := 4) (q0 := 0) rfl rfl) rfl hl.1 rfl (Nat.le_of_ble_eq_true rfl) ⟨by show 60 + i + 1 ≤ 601024; omega, by show 11000 + 6 * i + 6 ≤ 7293034; omega⟩ dL_law_150 (fun r3 hr3 => ?_)
      subst hr3
      refine lv_iload hx hb dL_law_153 (lv_at hl 1 rfl) ?_
      refine lv_icmp_eq (tgt := 160) hx hb dL_law_155 (by decide) (fun c5 => ?_) (fun c5 => ?_)
      rotate_left
      · exact absurd (rfl : (nI 2) = 2) c5
      refine lv_iload hx hb dL_law_160 (lv_at hl 1 rfl) ?_
      refine lv_if_ne (tgt := 177) hx hb dL_law_162 (by decide) (fun c6 => ?_) (fun c6 => ?_)
      rotate_left
      · exact absurd c6 (by decide)
      refine lv_goto (tgt := 1110) hx hb dL_law_177 (by decide) ?_
      exact kk _ _ ls ⟨la, n, v, C, G, X, D, B, bu, lp, ov, 2, LG, LC, ch, hI.mono (Nat.le_succ i), hP, hD, hS⟩ (lv_sub hl [2, 3, 4, 5, 6] rfl)
  ·
    refine lv_aload_n hx hb dL_law_112 rfl (lv_at hl 2 rfl) ?_
    refine lv_aload_n hx hb dL_law_113 rfl (lv_at hl 1 rfl) ?_
    refine lv_iload hx hb dL_law_114 (lv_at hl 0 rfl) ?_
    refine lv_iconst (v := 1) hx hb dL_law_116 (by decide) ?_
    refine lv_iadd hx hb dL_law_117 ?_
    refine lv_topi (fun y1 ey1 => ?_)
    have hy1 : y1 = nI (i + 1) := by rw [ey1]; exact nI_add i 1
    subst hy1
    refine sldN hx hb hXs hbl hbA hS (k := i + 1) (by omega) (by omega) hv1 dL_law_118 ?_
    refine lv_aload_n hx hb dL_law_119 rfl (lv_at hl 1 rfl) ?_
    refine lv_iload hx hb dL_law_120 (lv_at hl 0 rfl) ?_
    refine lv_iconst (v := 2) hx hb dL_law_122 (by decide) ?_
    refine lv_iadd hx hb dL_law_123 ?_
    refine lv_topi (fun y2 ey2 => ?_)
    have hy2 : y2 = nI (i + 2) := by rw [ey2]; exact nI_add i 2
    subst hy2
    refine sldN hx hb hXs hbl hbA hS (k := i + 2) (by omega) (by omega) hv2 dL_law_124 ?_
    refine lv_aload_n hx hb dL_law_125 rfl (lv_at hl 4 rfl) ?_
    refine callLB (As := [.ref o, .int v1, .int v2, .ref u]) (rest := []) ⟨hx, hb, hml, hown, hts⟩ mcB_in (c_L_measure_bad l dC dI o a q r cI cG la n v C G X D B bu lp u hlt v1 v2 hok) kw183 kw184 kw24 kw185 ⟨rfl, rfl⟩ (n := 4) (by decide +kernel) ⟨Nat.le_of_ble_eq_true rfl, Nat.le_of_ble_eq_true rfl⟩ hP.lft.lft hKH hTh hS rfl hl.1 rfl (Nat.le_of_ble_eq_true rfl) ⟨by show 60 + i + 1 ≤ 601024; omega, by show 11000 + 6 * i + 6 ≤ 7293034; omega⟩ dL_law_126 (fun H1 locs1 hz1 hk1 hS1 => ?_)
    have hP := P_keep hP hk1
    have hS := hS1
    refine lv_istore (lv' := [(5, .int 1), (4, .int (nI i)), (0, .ref b), (1, .ref o), (2, .ref (w 0)), (3, .ref u)]) hx hb dL_law_129 hl (by decide) rfl (fun ls hl => ?_)
    refine lv_aload_n hx hb dL_law_131 rfl (lv_at hl 4 rfl) ?_
    refine lv_aload_n hx hb dL_law_132 rfl (lv_at hl 2 rfl) ?_
    refine lv_iload hx hb dL_law_133 (lv_at hl 1 rfl) ?_
    refine lv_iconst (v := 1) hx hb dL_law_135 (by decide) ?_
    refine lv_iadd hx hb dL_law_136 ?_
    refine lv_topi (fun y3 ey3 => ?_)
    have hy3 : y3 = nI (i + 1) := by rw [ey3]; exact nI_add i 1
    subst hy3
    refine sldN hx hb hXs hbl hbA hS (k := i + 1) (by omega) (by omega) hv1 dL_law_137 ?_
    refine lv_aload_n hx hb dL_law_138 rfl (lv_at hl 2 rfl) ?_
    refine lv_iload hx hb dL_law_139 (lv_at hl 1 rfl) ?_
    refine lv_iconst (v := 2) hx hb dL_law_141 (by decide) ?_
    refine lv_iadd hx hb dL_law_142 ?_
    refine lv_topi (fun y4 ey4 => ?_)
    have hy4 : y4 = nI (i + 2) := by rw [ey4]; exact nI_add i 2
    subst hy4
    refine sldN hx hb hXs hbl hbA hS (k := i + 2) (by omega) (by omega) hv2 dL_law_143 ?_
    have hPt := P_perm (pm_rot _ _) hP
    have hDt := D_perm (pm_rot _ _) hD
    refine callWXi (As := [.int v1, .int v2]) (rest := []) ⟨hx, hb, hml, hown, hts⟩ mcB_in (c_R_measure_bad l dC dI w cI cZ th n C G X D B bu LG LC ch H1.size v1 v2 hok) kw498 kw499 kw500 kw29 kw501 ⟨rfl, rfl⟩ (n := 2) (by decide +kernel) ⟨Nat.le_of_ble_eq_true rfl, Nat.le_of_ble_eq_true rfl⟩ hPt.lft hKR hDt.lft hS (va_freeL hDt hS hA) (ci := 4) (q0 := 0) rfl rfl rfl hl.1 rfl (Nat.le_of_ble_eq_true rfl) ⟨by show 60 + i + 1 ≤ 601024; omega, by show 11000 + 6 * i + 6 ≤ 7293034; omega⟩ dL_law_144 (fun r2 x2 H2 locs2 hr2 hP2 hD2 hk2 hS2 => ?_)
    obtain ⟨hPn, hDn⟩ := va_jnL hPt hDt hk2 (va_freeL hDt hS hA) hP2 hD2
    have hS := hS2
    have hP := P_perm (pm_rot _ _) hPn
    have hD := D_perm (pm_rot _ _) hDn
    have hP : va_P (dC, dI) mcCl (mcWL o a q r cI cG la n v C G X D B bu lp u cJ ov ++ mcWR w cI cZ 1 n C G X D B bu LG LC ch) H2 := hP
    have hD : va_D (mcAA s) (mcWL o a q r cI cG la n v C G X D B bu lp u cJ ov ++ mcWR w cI cZ 1 n C G X D B bu LG LC ch) := hD
    refine lv_istore (lv' := [(6, .int r2), (5, .int 1), (4, .int (nI i)), (0, .ref b), (1, .ref o), (2, .ref (w 0)), (3, .ref u)]) hx hb dL_law_147 hl (by decide) rfl (fun ls hl => ?_)
    refine lv_aload_n hx hb dL_law_149 rfl (lv_at hl 5 rfl) ?_
    refine callRV (As := []) (rest := []) ⟨hx, hb, hml, hown, hts⟩ mcB_in (c_R_thrown l dC dI w cI cZ 1 n C G X D B bu LG LC ch) kw494 kw495 kw496 kw29 kw497 ⟨rfl, rfl⟩ (n := 0) (by decide +kernel) ⟨Nat.le_of_ble_eq_true rfl, Nat.le_of_ble_eq_true rfl⟩ (roP_preV (P_perm (pm_rot _ _) hP).lft hKR (ci := 4) (q0 := 0) rfl rfl) rfl hl.1 rfl (Nat.le_of_ble_eq_true rfl) ⟨by show 60 + i + 1 ≤ 601024; omega, by show 11000 + 6 * i + 6 ≤ 7293034; omega⟩ dL_law_150 (fun r3 hr3 => ?_)
    subst hr3
    refine lv_iload hx hb dL_law_153 (lv_at hl 1 rfl) ?_
    refine lv_icmp_eq (tgt := 160) hx hb dL_law_155 (by decide) (fun c5 => ?_) (fun c5 => ?_)
    rotate_left
    · exact absurd (rfl : (nI 1) = 1) c5
    refine lv_iload hx hb dL_law_160 (lv_at hl 1 rfl) ?_
    refine lv_if_ne (tgt := 177) hx hb dL_law_162 (by decide) (fun c6 => ?_) (fun c6 => ?_)
    rotate_left
    · exact absurd c6 (by decide)
    refine lv_goto (tgt := 1110) hx hb dL_law_177 (by decide) ?_
    exact kk _ _ ls ⟨la, n, v, C, G, X, D, B, bu, lp, ov, 1, LG, LC, ch, hI.mono (Nat.le_succ i), hP, hD, hS⟩ (lv_sub hl [2, 3, 4, 5, 6] rfl)
set_option maxHeartbeats 4000000 in
set_option maxRecDepth 100000 in
theorem law_1 {p : Program} {l : Launch} {e : Env} {s : State} {m : MethodId} {below : List Frame} {meth : Method} {c : Code} {H : Heap} {locs : List Loc} {Q : State → Prop} {ls : Array Slot} {dC : Nat → ClassId} {dI : Nat → Nat → Nat} {b L : Nat} {xs : Nat → Int32} {o : Nat} {a q r : Nat → Nat} {cI cG cZ cJ : ClassId} {u : Nat} {w : Nat → Nat} {i : Nat} (Cx : mcCx p l s m c b L xs dC dI cI cG cZ cJ) (hi : i + 4 ≤ L) (hLS : mcLS s dC dI o a q r cI cG cZ cJ u w i H locs) (hl : lv_has ls 7 [(4, .int (nI i)), (0, .ref b), (1, .ref o), (2, .ref (w 0)), (3, .ref u)])
    (kk : ∀ (H : Heap) (locs : List Loc) (ls : Array Slot), mcLS s dC dI o a q r cI cG cZ cJ u w (i + 1) H locs → lv_has ls 7 [(4, .int (nI i)), (0, .ref b), (1, .ref o), (2, .ref (w 0)), (3, .ref u)] → W p l e room_1 s m #[Value.ref b] below meth c H locs (60 + i + 1) (11000 + 6 * i + 6) Q (F0 m 1110 ls [])) : W p l e room_1 s m #[Value.ref b] below meth c H locs (60 + i) (11000 + 6 * i) Q (F0 m 180 ls []) := by
  obtain ⟨hx, hb, hml, hown, hts, hXs, hbl, hlt, hL, hK, hTh0⟩ := Cx
  obtain ⟨la, n, v, C, G, X, D, B, bu, lp, ov, th, LG, LC, ch, hI, hP, hD, hS⟩ := hLS
  have hA : ∀ q : Nat, s.heap.size ≤ q → mcAA s q := fun _ h => h
  have hbA : ¬ mcAA s b := Nat.not_le.mpr hbl
  obtain ⟨hn, hC1, hC, hG, hB, hXn, hDn, hbu, hIA, hvi⟩ := id hI
  have hX : ∀ m, X m < 4096 := fun m => mc_lt12 hn (hXn m)
  have hDD : ∀ m, D m < 4096 := fun m => mc_lt12 hn (hDn m)
  have hv3 : v < 2147483648 := by omega
  have hTh : mcTh s H := hTh0.keep (fun q hq => hS.2.1 q hq (Nat.not_le.mpr hq))
  have hKR := hK.sub (tys' := mcTR cI cZ) [0, 2] rfl
  have hKH := hK.sub (tys' := mcTH cI cG) [0, 1] rfl
  obtain ⟨v1, hv1⟩ : ∃ v, xs (i + 1) = v := ⟨_, rfl⟩
  obtain ⟨v2, hv2⟩ : ∃ v, xs (i + 2) = v := ⟨_, rfl⟩
  obtain ⟨v3, hv3v⟩ : ∃ v, xs (i + 3) = v := ⟨_, rfl⟩
  by_cases hok : (∃ k, k < n ∧ v1 = nI k) ∧ (1 ≤ v2 ∧ v2 ≤ 10000) ∧ (0 ≤ v3 ∧ v3 ≤ 10000)
  ·
    obtain ⟨⟨mm, hm, rfl⟩, h1, h2⟩ := hok
    obtain ⟨cv, cva, cvb, rfl⟩ := rep1 (M := 10000) (by decide) rfl h1
    obtain ⟨gv, gvb, rfl⟩ := rep0 (M := 10000) (by decide) rfl h2
    refine lv_aload_n hx hb dL_law_180 rfl (lv_at hl 2 rfl) ?_
    refine lv_aload_n hx hb dL_law_181 rfl (lv_at hl 1 rfl) ?_
    refine lv_iload hx hb dL_law_182 (lv_at hl 0 rfl) ?_
    refine lv_iconst (v := 1) hx hb dL_law_184 (by decide) ?_
    refine lv_iadd hx hb dL_law_185 ?_
    refine lv_topi (fun y1 ey1 => ?_)
    have hy1 : y1 = nI (i + 1) := by rw [ey1]; exact nI_add i 1
    subst hy1
    refine sldN hx hb hXs hbl hbA hS (k := i + 1) (by omega) (by omega) hv1 dL_law_186 ?_
    refine lv_aload_n hx hb dL_law_187 rfl (lv_at hl 1 rfl) ?_
    refine lv_iload hx hb dL_law_188 (lv_at hl 0 rfl) ?_
    refine lv_iconst (v := 2) hx hb dL_law_190 (by decide) ?_
    refine lv_iadd hx hb dL_law_191 ?_
    refine lv_topi (fun y2 ey2 => ?_)
    have hy2 : y2 = nI (i + 2) := by rw [ey2]; exact nI_add i 2
    subst hy2
    refine sldN hx hb hXs hbl hbA hS (k := i + 2) (by omega) (by omega) hv2 dL_law_192 ?_
    refine lv_aload_n hx hb dL_law_193 rfl (lv_at hl 1 rfl) ?_
    refine lv_iload hx hb dL_law_194 (lv_at hl 0 rfl) ?_
    refine lv_iconst (v := 3) hx hb dL_law_196 (by decide) ?_
    refine lv_iadd hx hb dL_law_197 ?_
    refine lv_topi (fun y3 ey3 => ?_)
    have hy3 : y3 = nI (i + 3) := by rw [ey3]; exact nI_add i 3
    subst hy3
    refine sldN hx hb hXs hbl hbA hS (k := i + 3) (by omega) (by omega) hv3v dL_law_198 ?_
    refine callLW (As := [.ref o, .int (nI mm), .int (nI cv), .int (nI gv)]) (rest := []) ⟨hx, hb, hml, hown, hts⟩ mcB_in (c_L_change_ok l dC dI o a q r cI cG la n v C G X D B bu lp cZ cJ u ov H.size mm cv gv hm hn h1 h2) kw276 kw277 kw24 kw278 ⟨rfl, rfl⟩ (n := 4) (by decide +kernel) ⟨Nat.le_of_ble_eq_true rfl, Nat.le_of_ble_eq_true rfl⟩ hP.lft hK hD.lft hS (va_freeL hD hS hA) rfl hl.1 rfl (Nat.le_of_ble_eq_true rfl) ⟨by show 60 + i ≤ 601024; omega, by show 11000 + 6 * i ≤ 7293034; omega⟩ dL_law_199 (fun z1 x1 H1 locs1 hz1 hP1 hD1 hk1 hS1 => ?_)
    have hz1 : z1 = 0 := hz1
    subst hz1
    have hP1 : va_P (dC, dI) mcCl (mcWL o a q r cI cG la n (v + 1) (va_up C mm cv) (va_up G mm gv) X D B bu lp u cJ ov) H1 := hP1
    have hD1 : va_D _ (mcWL o a q r cI cG la n (v + 1) (va_up C mm cv) (va_up G mm gv) X D B bu lp u cJ ov) := hD1
    obtain ⟨hP, hD⟩ := va_jnL hP hD hk1 (va_freeL hD hS hA) hP1 hD1
    have hS := hS1
    refine lv_istore (lv' := [(5, .int 0), (4, .int (nI i)), (0, .ref b), (1, .ref o), (2, .ref (w 0)), (3, .ref u)]) hx hb dL_law_202 hl (by decide) rfl (fun ls hl => ?_)
    refine lv_aload_n hx hb dL_law_204 rfl (lv_at hl 4 rfl) ?_
    refine lv_aload_n hx hb dL_law_205 rfl (lv_at hl 2 rfl) ?_
    refine lv_iload hx hb dL_law_206 (lv_at hl 1 rfl) ?_
    refine lv_iconst (v := 1) hx hb dL_law_208 (by decide) ?_
    refine lv_iadd hx hb dL_law_209 ?_
    refine lv_topi (fun y4 ey4 => ?_)
    have hy4 : y4 = nI (i + 1) := by rw [ey4]; exact nI_add i 1
    subst hy4
    refine sldN hx hb hXs hbl hbA hS (k := i + 1) (by omega) (by omega) hv1 dL_law_210 ?_
    refine lv_aload_n hx hb dL_law_211 rfl (lv_at hl 2 rfl) ?_
    refine lv_iload hx hb dL_law_212 (lv_at hl 1 rfl) ?_
    refine lv_iconst (v := 2) hx hb dL_law_214 (by decide) ?_
    refine lv_iadd hx hb dL_law_215 ?_
    refine lv_topi (fun y5 ey5 => ?_)
    have hy5 : y5 = nI (i + 2) := by rw [ey5]; exact nI_add i 2
    subst hy5
    refine sldN hx hb hXs hbl hbA hS (k := i + 2) (by omega) (by omega) hv2 dL_law_216 ?_
    refine lv_aload_n hx hb dL_law_217 rfl (lv_at hl 2 rfl) ?_
    refine lv_iload hx hb dL_law_218 (lv_at hl 1 rfl) ?_
    refine lv_iconst (v := 3) hx hb dL_law_220 (by decide) ?_
    refine lv_iadd hx hb dL_law_221 ?_
    refine lv_topi (fun y6 ey6 => ?_)
    have hy6 : y6 = nI (i + 3) := by rw [ey6]; exact nI_add i 3
    subst hy6
    refine sldN hx hb hXs hbl hbA hS (k := i + 3) (by omega) (by omega) hv3v dL_law_222 ?_
    have hPt := P_perm (pm_rot _ _) hP
    have hDt := D_perm (pm_rot _ _) hD
    refine callWV (As := [.int (nI mm), .int (nI cv), .int (nI gv)]) (rest := []) ⟨hx, hb, hml, hown, hts⟩ mcB_in (c_R_change_ok l dC dI w cI cZ th n C G X D B bu LG LC ch H1.size mm cv gv hn hm h1 h2) kw508 kw509 kw510 kw29 kw511 ⟨rfl, rfl⟩ (n := 3) (by decide +kernel) ⟨Nat.le_of_ble_eq_true rfl, Nat.le_of_ble_eq_true rfl⟩ hPt.lft hKR hDt.lft hS (va_freeL hDt hS hA) (ci := 4) (q0 := 0) rfl rfl rfl hl.1 rfl (Nat.le_of_ble_eq_true rfl) ⟨by show 60 + i ≤ 601024; omega, by show 11000 + 6 * i ≤ 7293034; omega⟩ dL_law_223 (fun H2 locs2 hP2 hD2 hk2 hS2 => ?_)
    obtain ⟨hPn, hDn⟩ := va_jnL hPt hDt hk2 (va_freeL hDt hS hA) hP2 hD2
    have hS := hS2
    have hP := P_perm (pm_rot _ _) hPn
    have hD := D_perm (pm_rot _ _) hDn
    have hP : va_P (dC, dI) mcCl (mcWL o a q r cI cG la n (v + 1) (va_up C mm cv) (va_up G mm gv) X D B bu lp u cJ ov ++ mcWR w cI cZ 0 n (va_up C mm cv) (va_up G mm gv) X D B bu LG LC ch) H2 := hP
    have hD : va_D (mcAA s) (mcWL o a q r cI cG la n (v + 1) (va_up C mm cv) (va_up G mm gv) X D B bu lp u cJ ov ++ mcWR w cI cZ 0 n (va_up C mm cv) (va_up G mm gv) X D B bu LG LC ch) := hD
    refine lv_aload_n hx hb dL_law_226 rfl (lv_at hl 4 rfl) ?_
    refine callRV (As := []) (rest := []) ⟨hx, hb, hml, hown, hts⟩ mcB_in (c_R_thrown l dC dI w cI cZ 0 n (va_up C mm cv) (va_up G mm gv) X D B bu LG LC ch) kw494 kw495 kw496 kw29 kw497 ⟨rfl, rfl⟩ (n := 0) (by decide +kernel) ⟨Nat.le_of_ble_eq_true rfl, Nat.le_of_ble_eq_true rfl⟩ (roP_preV (P_perm (pm_rot _ _) hP).lft hKR (ci := 4) (q0 := 0) rfl rfl) rfl hl.1 rfl (Nat.le_of_ble_eq_true rfl) ⟨by show 60 + i ≤ 601024; omega, by show 11000 + 6 * i ≤ 7293034; omega⟩ dL_law_227 (fun r3 hr3 => ?_)
    subst hr3
    refine lv_iload hx hb dL_law_230 (lv_at hl 0 rfl) ?_
    refine lv_icmp_eq (tgt := 237) hx hb dL_law_232 (by decide) (fun c7 => ?_) (fun c7 => ?_)
    rotate_left
    · exact absurd (rfl : (nI 0) = 0) c7
    refine lv_goto (tgt := 1110) hx hb dL_law_237 (by decide) ?_
    refine W.widen (k := 60 + i + 1) (n := 11000 + 6 * i + 6) (by omega) (by omega) ?_
    exact kk _ _ ls ⟨la, n, (v + 1), (va_up C mm cv), (va_up G mm gv), X, D, B, bu, lp, ov, 0, LG, LC, ch, hI.change ⟨cva, cvb⟩ gvb, hP, hD, hS⟩ (lv_sub hl [1, 2, 3, 4, 5] rfl)
  ·
    refine lv_aload_n hx hb dL_law_180 rfl (lv_at hl 2 rfl) ?_
    refine lv_aload_n hx hb dL_law_181 rfl (lv_at hl 1 rfl) ?_
    refine lv_iload hx hb dL_law_182 (lv_at hl 0 rfl) ?_
    refine lv_iconst (v := 1) hx hb dL_law_184 (by decide) ?_
    refine lv_iadd hx hb dL_law_185 ?_
    refine lv_topi (fun y1 ey1 => ?_)
    have hy1 : y1 = nI (i + 1) := by rw [ey1]; exact nI_add i 1
    subst hy1
    refine sldN hx hb hXs hbl hbA hS (k := i + 1) (by omega) (by omega) hv1 dL_law_186 ?_
    refine lv_aload_n hx hb dL_law_187 rfl (lv_at hl 1 rfl) ?_
    refine lv_iload hx hb dL_law_188 (lv_at hl 0 rfl) ?_
    refine lv_iconst (v := 2) hx hb dL_law_190 (by decide) ?_
    refine lv_iadd hx hb dL_law_191 ?_
    refine lv_topi (fun y2 ey2 => ?_)
    have hy2 : y2 = nI (i + 2) := by rw [ey2]; exact nI_add i 2
    subst hy2
    refine sldN hx hb hXs hbl hbA hS (k := i + 2) (by omega) (by omega) hv2 dL_law_192 ?_
    refine lv_aload_n hx hb dL_law_193 rfl (lv_at hl 1 rfl) ?_
    refine lv_iload hx hb dL_law_194 (lv_at hl 0 rfl) ?_
    refine lv_iconst (v := 3) hx hb dL_law_196 (by decide) ?_
    refine lv_iadd hx hb dL_law_197 ?_
    refine lv_topi (fun y3 ey3 => ?_)
    have hy3 : y3 = nI (i + 3) := by rw [ey3]; exact nI_add i 3
    subst hy3
    refine sldN hx hb hXs hbl hbA hS (k := i + 3) (by omega) (by omega) hv3v dL_law_198 ?_
    refine callLB (As := [.ref o, .int v1, .int v2, .int v3]) (rest := []) ⟨hx, hb, hml, hown, hts⟩ mcB_in (c_L_change_bad l dC dI o a q r cI cG la n v C G X D B bu lp u hlt v1 v2 v3 hn hok) kw276 kw277 kw24 kw278 ⟨rfl, rfl⟩ (n := 4) (by decide +kernel) ⟨Nat.le_of_ble_eq_true rfl, Nat.le_of_ble_eq_true rfl⟩ hP.lft.lft hKH hTh hS rfl hl.1 rfl (Nat.le_of_ble_eq_true rfl) ⟨by show 60 + i + 1 ≤ 601024; omega, by show 11000 + 6 * i + 6 ≤ 7293034; omega⟩ dL_law_199 (fun H1 locs1 hz1 hk1 hS1 => ?_)
    have hP := P_keep hP hk1
    have hS := hS1
    refine lv_istore (lv' := [(5, .int 1), (4, .int (nI i)), (0, .ref b), (1, .ref o), (2, .ref (w 0)), (3, .ref u)]) hx hb dL_law_202 hl (by decide) rfl (fun ls hl => ?_)
    refine lv_aload_n hx hb dL_law_204 rfl (lv_at hl 4 rfl) ?_
    refine lv_aload_n hx hb dL_law_205 rfl (lv_at hl 2 rfl) ?_
    refine lv_iload hx hb dL_law_206 (lv_at hl 1 rfl) ?_
    refine lv_iconst (v := 1) hx hb dL_law_208 (by decide) ?_
    refine lv_iadd hx hb dL_law_209 ?_
    refine lv_topi (fun y4 ey4 => ?_)
    have hy4 : y4 = nI (i + 1) := by rw [ey4]; exact nI_add i 1
    subst hy4
    refine sldN hx hb hXs hbl hbA hS (k := i + 1) (by omega) (by omega) hv1 dL_law_210 ?_
    refine lv_aload_n hx hb dL_law_211 rfl (lv_at hl 2 rfl) ?_
    refine lv_iload hx hb dL_law_212 (lv_at hl 1 rfl) ?_
    refine lv_iconst (v := 2) hx hb dL_law_214 (by decide) ?_
    refine lv_iadd hx hb dL_law_215 ?_
    refine lv_topi (fun y5 ey5 => ?_)
    have hy5 : y5 = nI (i + 2) := by rw [ey5]; exact nI_add i 2
    subst hy5
    refine sldN hx hb hXs hbl hbA hS (k := i + 2) (by omega) (by omega) hv2 dL_law_216 ?_
    refine lv_aload_n hx hb dL_law_217 rfl (lv_at hl 2 rfl) ?_
    refine lv_iload hx hb dL_law_218 (lv_at hl 1 rfl) ?_
    refine lv_iconst (v := 3) hx hb dL_law_220 (by decide) ?_
    refine lv_iadd hx hb dL_law_221 ?_
    refine lv_topi (fun y6 ey6 => ?_)
    have hy6 : y6 = nI (i + 3) := by rw [ey6]; exact nI_add i 3
    subst hy6
    refine sldN hx hb hXs hbl hbA hS (k := i + 3) (by omega) (by omega) hv3v dL_law_222 ?_
    have hPt := P_perm (pm_rot _ _) hP
    have hDt := D_perm (pm_rot _ _) hD
    refine callWV (As := [.int v1, .int v2, .int v3]) (rest := []) ⟨hx, hb, hml, hown, hts⟩ mcB_in (c_R_change_bad l dC dI w cI cZ th n C G X D B bu LG LC ch H1.size v1 v2 v3 hn hok) kw508 kw509 kw510 kw29 kw511 ⟨rfl, rfl⟩ (n := 3) (by decide +kernel) ⟨Nat.le_of_ble_eq_true rfl, Nat.le_of_ble_eq_true rfl⟩ hPt.lft hKR hDt.lft hS (va_freeL hDt hS hA) (ci := 4) (q0 := 0) rfl rfl rfl hl.1 rfl (Nat.le_of_ble_eq_true rfl) ⟨by show 60 + i + 1 ≤ 601024; omega, by show 11000 + 6 * i + 6 ≤ 7293034; omega⟩ dL_law_223 (fun H2 locs2 hP2 hD2 hk2 hS2 => ?_)
    obtain ⟨hPn, hDn⟩ := va_jnL hPt hDt hk2 (va_freeL hDt hS hA) hP2 hD2
    have hS := hS2
    have hP := P_perm (pm_rot _ _) hPn
    have hD := D_perm (pm_rot _ _) hDn
    have hP : va_P (dC, dI) mcCl (mcWL o a q r cI cG la n v C G X D B bu lp u cJ ov ++ mcWR w cI cZ 1 n C G X D B bu LG LC ch) H2 := hP
    have hD : va_D (mcAA s) (mcWL o a q r cI cG la n v C G X D B bu lp u cJ ov ++ mcWR w cI cZ 1 n C G X D B bu LG LC ch) := hD
    refine lv_aload_n hx hb dL_law_226 rfl (lv_at hl 4 rfl) ?_
    refine callRV (As := []) (rest := []) ⟨hx, hb, hml, hown, hts⟩ mcB_in (c_R_thrown l dC dI w cI cZ 1 n C G X D B bu LG LC ch) kw494 kw495 kw496 kw29 kw497 ⟨rfl, rfl⟩ (n := 0) (by decide +kernel) ⟨Nat.le_of_ble_eq_true rfl, Nat.le_of_ble_eq_true rfl⟩ (roP_preV (P_perm (pm_rot _ _) hP).lft hKR (ci := 4) (q0 := 0) rfl rfl) rfl hl.1 rfl (Nat.le_of_ble_eq_true rfl) ⟨by show 60 + i + 1 ≤ 601024; omega, by show 11000 + 6 * i + 6 ≤ 7293034; omega⟩ dL_law_227 (fun r3 hr3 => ?_)
    subst hr3
    refine lv_iload hx hb dL_law_230 (lv_at hl 0 rfl) ?_
    refine lv_icmp_eq (tgt := 237) hx hb dL_law_232 (by decide) (fun c7 => ?_) (fun c7 => ?_)
    rotate_left
    · exact absurd (rfl : (nI 1) = 1) c7
    refine lv_goto (tgt := 1110) hx hb dL_law_237 (by decide) ?_
    exact kk _ _ ls ⟨la, n, v, C, G, X, D, B, bu, lp, ov, 1, LG, LC, ch, hI.mono (Nat.le_succ i), hP, hD, hS⟩ (lv_sub hl [1, 2, 3, 4, 5] rfl)
set_option maxHeartbeats 4000000 in
set_option maxRecDepth 100000 in
theorem law_2 {p : Program} {l : Launch} {e : Env} {s : State} {m : MethodId} {below : List Frame} {meth : Method} {c : Code} {H : Heap} {locs : List Loc} {Q : State → Prop} {ls : Array Slot} {dC : Nat → ClassId} {dI : Nat → Nat → Nat} {b L : Nat} {xs : Nat → Int32} {o : Nat} {a q r : Nat → Nat} {cI cG cZ cJ : ClassId} {u : Nat} {w : Nat → Nat} {i : Nat} (Cx : mcCx p l s m c b L xs dC dI cI cG cZ cJ) (hi : i + 4 ≤ L) (hLS : mcLS s dC dI o a q r cI cG cZ cJ u w i H locs) (hl : lv_has ls 7 [(4, .int (nI i)), (0, .ref b), (1, .ref o), (2, .ref (w 0)), (3, .ref u)])
    (kk : ∀ (H : Heap) (locs : List Loc) (ls : Array Slot), mcLS s dC dI o a q r cI cG cZ cJ u w (i + 1) H locs → lv_has ls 7 [(4, .int (nI i)), (0, .ref b), (1, .ref o), (2, .ref (w 0)), (3, .ref u)] → W p l e room_1 s m #[Value.ref b] below meth c H locs (60 + i + 1) (11000 + 6 * i + 6) Q (F0 m 1110 ls [])) : W p l e room_1 s m #[Value.ref b] below meth c H locs (60 + i) (11000 + 6 * i) Q (F0 m 240 ls []) := by
  obtain ⟨hx, hb, hml, hown, hts, hXs, hbl, hlt, hL, hK, hTh0⟩ := Cx
  obtain ⟨la, n, v, C, G, X, D, B, bu, lp, ov, th, LG, LC, ch, hI, hP, hD, hS⟩ := hLS
  have hA : ∀ q : Nat, s.heap.size ≤ q → mcAA s q := fun _ h => h
  have hbA : ¬ mcAA s b := Nat.not_le.mpr hbl
  obtain ⟨hn, hC1, hC, hG, hB, hXn, hDn, hbu, hIA, hvi⟩ := id hI
  have hX : ∀ m, X m < 4096 := fun m => mc_lt12 hn (hXn m)
  have hDD : ∀ m, D m < 4096 := fun m => mc_lt12 hn (hDn m)
  have hv3 : v < 2147483648 := by omega
  have hTh : mcTh s H := hTh0.keep (fun q hq => hS.2.1 q hq (Nat.not_le.mpr hq))
  have hKR := hK.sub (tys' := mcTR cI cZ) [0, 2] rfl
  have hKH := hK.sub (tys' := mcTH cI cG) [0, 1] rfl
  obtain ⟨v1, hv1⟩ : ∃ v, xs (i + 1) = v := ⟨_, rfl⟩
  obtain ⟨v2, hv2⟩ : ∃ v, xs (i + 2) = v := ⟨_, rfl⟩
  obtain ⟨v3, hv3v⟩ : ∃ v, xs (i + 3) = v := ⟨_, rfl⟩
  by_cases hok : (∃ k, k < n ∧ v1 = nI k) ∧ (∃ k, k < n ∧ v2 = nI k) ∧ ¬ v1 = v2
  ·
    obtain ⟨⟨mm, hm, rfl⟩, ⟨oo, ho, rfl⟩, hne⟩ := hok
    by_cases c3 : v3 = 0
    ·
      refine lv_aload_n hx hb dL_law_240 rfl (lv_at hl 2 rfl) ?_
      refine lv_aload_n hx hb dL_law_241 rfl (lv_at hl 1 rfl) ?_
      refine lv_iload hx hb dL_law_242 (lv_at hl 0 rfl) ?_
      refine lv_iconst (v := 1) hx hb dL_law_244 (by decide) ?_
      refine lv_iadd hx hb dL_law_245 ?_
      refine lv_topi (fun y1 ey1 => ?_)
      have hy1 : y1 = nI (i + 1) := by rw [ey1]; exact nI_add i 1
      subst hy1
      refine sldN hx hb hXs hbl hbA hS (k := i + 1) (by omega) (by omega) hv1 dL_law_246 ?_
      refine lv_aload_n hx hb dL_law_247 rfl (lv_at hl 1 rfl) ?_
      refine lv_iload hx hb dL_law_248 (lv_at hl 0 rfl) ?_
      refine lv_iconst (v := 2) hx hb dL_law_250 (by decide) ?_
      refine lv_iadd hx hb dL_law_251 ?_
      refine lv_topi (fun y2 ey2 => ?_)
      have hy2 : y2 = nI (i + 2) := by rw [ey2]; exact nI_add i 2
      subst hy2
      refine sldN hx hb hXs hbl hbA hS (k := i + 2) (by omega) (by omega) hv2 dL_law_252 ?_
      refine lv_aload_n hx hb dL_law_253 rfl (lv_at hl 1 rfl) ?_
      refine lv_iload hx hb dL_law_254 (lv_at hl 0 rfl) ?_
      refine lv_iconst (v := 3) hx hb dL_law_256 (by decide) ?_
      refine lv_iadd hx hb dL_law_257 ?_
      refine lv_topi (fun y3 ey3 => ?_)
      have hy3 : y3 = nI (i + 3) := by rw [ey3]; exact nI_add i 3
      subst hy3
      refine sldN hx hb hXs hbl hbA hS (k := i + 3) (by omega) (by omega) hv3v dL_law_258 ?_
      refine lv_if_eq (tgt := 266) hx hb dL_law_259 (by decide) (fun c4 => ?_) (fun c4 => ?_)
      ·
        refine lv_iconst (v := 0) hx hb dL_law_266 (by decide) ?_
        refine lv_aload_n hx hb dL_law_267 rfl (lv_at hl 4 rfl) ?_
        refine callLW (As := [.ref o, .int (nI mm), .int (nI oo), .int 0, .ref u]) (rest := []) ⟨hx, hb, hml, hown, hts⟩ mcB_in (c_L_exclude_ok l dC dI o a q r cI cG la n v C G X D B bu lp cZ cJ u ov H.size mm oo 0 hm ho hn hne hX) kw287 kw288 kw24 kw289 ⟨rfl, rfl⟩ (n := 5) (by decide +kernel) ⟨Nat.le_of_ble_eq_true rfl, Nat.le_of_ble_eq_true rfl⟩ hP.lft hK hD.lft hS (va_freeL hD hS hA) rfl hl.1 rfl (Nat.le_of_ble_eq_true rfl) ⟨by show 60 + i ≤ 601024; omega, by show 11000 + 6 * i ≤ 7293034; omega⟩ dL_law_268 (fun z1 x1 H1 locs1 hz1 hP1 hD1 hk1 hS1 => ?_)
        obtain ⟨r1, y1⟩ := x1
        obtain ⟨hz0, hr1⟩ := hz1
        dsimp only at hr1
        subst hz0
        have hP1 : va_P (dC, dI) mcCl (mcWL o a q r cI cG la n (v + 1) C G (va_up (va_up X mm (mcBit (X mm) oo 0)) oo (mcBit ((va_up X mm (mcBit (X mm) oo 0)) oo) mm 0)) D B bu lp u cJ (vp_updL ov 0 (if r1 = 0 then 0 else 1))) H1 := hP1
        have hD1 : va_D _ (mcWL o a q r cI cG la n (v + 1) C G (va_up (va_up X mm (mcBit (X mm) oo 0)) oo (mcBit ((va_up X mm (mcBit (X mm) oo 0)) oo) mm 0)) D B bu lp u cJ (vp_updL ov 0 (if r1 = 0 then 0 else 1))) := hD1
        obtain ⟨hP, hD⟩ := va_jnL hP hD hk1 (va_freeL hD hS hA) hP1 hD1
        have hS := hS1
        refine lv_istore (lv' := [(5, .int 0), (4, .int (nI i)), (0, .ref b), (1, .ref o), (2, .ref (w 0)), (3, .ref u)]) hx hb dL_law_271 hl (by decide) rfl (fun ls hl => ?_)
        refine lv_aload_n hx hb dL_law_273 rfl (lv_at hl 4 rfl) ?_
        refine lv_aload_n hx hb dL_law_274 rfl (lv_at hl 2 rfl) ?_
        refine lv_iload hx hb dL_law_275 (lv_at hl 1 rfl) ?_
        refine lv_iconst (v := 1) hx hb dL_law_277 (by decide) ?_
        refine lv_iadd hx hb dL_law_278 ?_
        refine lv_topi (fun y5 ey5 => ?_)
        have hy5 : y5 = nI (i + 1) := by rw [ey5]; exact nI_add i 1
        subst hy5
        refine sldN hx hb hXs hbl hbA hS (k := i + 1) (by omega) (by omega) hv1 dL_law_279 ?_
        refine lv_aload_n hx hb dL_law_280 rfl (lv_at hl 2 rfl) ?_
        refine lv_iload hx hb dL_law_281 (lv_at hl 1 rfl) ?_
        refine lv_iconst (v := 2) hx hb dL_law_283 (by decide) ?_
        refine lv_iadd hx hb dL_law_284 ?_
        refine lv_topi (fun y6 ey6 => ?_)
        have hy6 : y6 = nI (i + 2) := by rw [ey6]; exact nI_add i 2
        subst hy6
        refine sldN hx hb hXs hbl hbA hS (k := i + 2) (by omega) (by omega) hv2 dL_law_285 ?_
        refine lv_aload_n hx hb dL_law_286 rfl (lv_at hl 2 rfl) ?_
        refine lv_iload hx hb dL_law_287 (lv_at hl 1 rfl) ?_
        refine lv_iconst (v := 3) hx hb dL_law_289 (by decide) ?_
        refine lv_iadd hx hb dL_law_290 ?_
        refine lv_topi (fun y7 ey7 => ?_)
        have hy7 : y7 = nI (i + 3) := by rw [ey7]; exact nI_add i 3
        subst hy7
        refine sldN hx hb hXs hbl hbA hS (k := i + 3) (by omega) (by omega) hv3v dL_law_291 ?_
        refine lv_if_eq (tgt := 299) hx hb dL_law_292 (by decide) (fun c8 => ?_) (fun c8 => ?_)
        ·
          refine lv_iconst (v := 0) hx hb dL_law_299 (by decide) ?_
          have hPt := P_perm (pm_rot _ _) hP
          have hDt := D_perm (pm_rot _ _) hD
          refine callWXi (As := [.int (nI mm), .int (nI oo), .int 0]) (rest := []) ⟨hx, hb, hml, hown, hts⟩ mcB_in (c_R_exclude_ok l dC dI w cI cZ th n C G X D B bu LG LC ch H1.size mm oo 0 hn hm ho hne (Or.inl rfl)) kw515 kw516 kw517 kw29 kw518 ⟨rfl, rfl⟩ (n := 3) (by decide +kernel) ⟨Nat.le_of_ble_eq_true rfl, Nat.le_of_ble_eq_true rfl⟩ hPt.lft hKR hDt.lft hS (va_freeL hDt hS hA) (ci := 4) (q0 := 0) rfl rfl rfl hl.1 rfl (Nat.le_of_ble_eq_true rfl) ⟨by show 60 + i ≤ 601024; omega, by show 11000 + 6 * i ≤ 7293034; omega⟩ dL_law_300 (fun r2 x2 H2 locs2 hr2 hP2 hD2 hk2 hS2 => ?_)
          obtain ⟨hPn, hDn⟩ := va_jnL hPt hDt hk2 (va_freeL hDt hS hA) hP2 hD2
          have hS := hS2
          have hP := P_perm (pm_rot _ _) hPn
          have hD := D_perm (pm_rot _ _) hDn
          have hP : va_P (dC, dI) mcCl (mcWL o a q r cI cG la n (v + 1) C G (va_up (va_up X mm (mcBit (X mm) oo 0)) oo (mcBit ((va_up X mm (mcBit (X mm) oo 0)) oo) mm 0)) D B bu lp u cJ (vp_updL ov 0 (if r1 = 0 then 0 else 1)) ++ mcWR w cI cZ 0 n C G (va_up (va_up X mm (mcBit (X mm) oo 0)) oo (mcBit ((va_up X mm (mcBit (X mm) oo 0)) oo) mm 0)) D B bu LG LC ch) H2 := hP
          have hD : va_D (mcAA s) (mcWL o a q r cI cG la n (v + 1) C G (va_up (va_up X mm (mcBit (X mm) oo 0)) oo (mcBit ((va_up X mm (mcBit (X mm) oo 0)) oo) mm 0)) D B bu lp u cJ (vp_updL ov 0 (if r1 = 0 then 0 else 1)) ++ mcWR w cI cZ 0 n C G (va_up (va_up X mm (mcBit (X mm) oo 0)) oo (mcBit ((va_up X mm (mcBit (X mm) oo 0)) oo) mm 0)) D B bu LG LC ch) := hD
          refine lv_istore (lv' := [(6, .int r2), (5, .int 0), (4, .int (nI i)), (0, .ref b), (1, .ref o), (2, .ref (w 0)), (3, .ref u)]) hx hb dL_law_303 hl (by decide) rfl (fun ls hl => ?_)
          refine lv_aload_n hx hb dL_law_305 rfl (lv_at hl 5 rfl) ?_
          refine callRV (As := []) (rest := []) ⟨hx, hb, hml, hown, hts⟩ mcB_in (c_R_thrown l dC dI w cI cZ 0 n C G (va_up (va_up X mm (mcBit (X mm) oo 0)) oo (mcBit ((va_up X mm (mcBit (X mm) oo 0)) oo) mm 0)) D B bu LG LC ch) kw494 kw495 kw496 kw29 kw497 ⟨rfl, rfl⟩ (n := 0) (by decide +kernel) ⟨Nat.le_of_ble_eq_true rfl, Nat.le_of_ble_eq_true rfl⟩ (roP_preV (P_perm (pm_rot _ _) hP).lft hKR (ci := 4) (q0 := 0) rfl rfl) rfl hl.1 rfl (Nat.le_of_ble_eq_true rfl) ⟨by show 60 + i ≤ 601024; omega, by show 11000 + 6 * i ≤ 7293034; omega⟩ dL_law_306 (fun r3 hr3 => ?_)
          subst hr3
          refine lv_iload hx hb dL_law_309 (lv_at hl 1 rfl) ?_
          refine lv_icmp_eq (tgt := 316) hx hb dL_law_311 (by decide) (fun c9 => ?_) (fun c9 => ?_)
          rotate_left
          · exact absurd (rfl : (nI 0) = 0) c9
          refine lv_iload hx hb dL_law_316 (lv_at hl 1 rfl) ?_
          refine lv_if_ne (tgt := 340) hx hb dL_law_318 (by decide) (fun c10 => ?_) (fun c10 => ?_)
          · exact absurd (rfl : (0 : Int32) = 0) c10
          ·
            have htie : r1 = r2 := (hr1 : r1 = bZ ((X mm).testBit oo)).trans (hr2 : r2 = bZ ((X mm).testBit oo)).symm
            refine lv_aload_n hx hb dL_law_321 rfl (lv_at hl 6 rfl) ?_
            refine lv_iconst (v := 0) hx hb dL_law_322 (by decide) ?_
            refine va_lald hx hb hK hP 37 3 rfl rfl (i := 0) (vp_in_nI (n := 0) (N := 1) (by decide) (by decide)) dL_law_323 ?_
            refine W.eq (g2 := F0 m 324 ls [.long (if r1 = 0 then 0 else 1)]) rfl ?_
            refine lv_iload hx hb dL_law_324 (lv_at hl 0 rfl) ?_
            refine lv_if_eq (tgt := 333) hx hb dL_law_326 (by decide) (fun c66 => ?_) (fun c66 => ?_)
            ·
              refine lv_lconst (v := 0) hx hb dL_law_333 (by decide) ?_
              refine W.lcmp hx hb dL_law_334 ?_
              refine lv_if_eq (tgt := 340) hx hb dL_law_335 (by decide) (fun c11 => ?_) (fun c11 => ?_)
              ·
                refine lv_goto (tgt := 1110) hx hb dL_law_340 (by decide) ?_
                refine W.widen (k := 60 + i + 1) (n := 11000 + 6 * i + 6) (by omega) (by omega) ?_
                exact kk _ _ ls ⟨la, n, (v + 1), C, G, (va_up (va_up X mm (mcBit (X mm) oo 0)) oo (mcBit ((va_up X mm (mcBit (X mm) oo 0)) oo) mm 0)), D, B, bu, lp, (vp_updL ov 0 (if r1 = 0 then 0 else 1)), 0, LG, LC, ch, hI.exclude hm ho, hP, hD, hS⟩ (lv_sub hl [2, 3, 4, 5, 6] rfl)
              · exact absurd ((lg_cmp_eq _ _).mpr (by rw [htie, if_pos c66])) c11
            ·
              refine lv_lconst (v := 1) hx hb dL_law_329 (by decide) ?_
              refine lv_goto (tgt := 334) hx hb dL_law_330 (by decide) ?_
              refine W.lcmp hx hb dL_law_334 ?_
              refine lv_if_eq (tgt := 340) hx hb dL_law_335 (by decide) (fun c12 => ?_) (fun c12 => ?_)
              ·
                refine lv_goto (tgt := 1110) hx hb dL_law_340 (by decide) ?_
                refine W.widen (k := 60 + i + 1) (n := 11000 + 6 * i + 6) (by omega) (by omega) ?_
                exact kk _ _ ls ⟨la, n, (v + 1), C, G, (va_up (va_up X mm (mcBit (X mm) oo 0)) oo (mcBit ((va_up X mm (mcBit (X mm) oo 0)) oo) mm 0)), D, B, bu, lp, (vp_updL ov 0 (if r1 = 0 then 0 else 1)), 0, LG, LC, ch, hI.exclude hm ho, hP, hD, hS⟩ (lv_sub hl [2, 3, 4, 5, 6] rfl)
              · exact absurd ((lg_cmp_eq _ _).mpr (by rw [htie, if_neg c66])) c12
        · exact absurd c3 c8
      · exact absurd c3 c4
    ·
      refine lv_aload_n hx hb dL_law_240 rfl (lv_at hl 2 rfl) ?_
      refine lv_aload_n hx hb dL_law_241 rfl (lv_at hl 1 rfl) ?_
      refine lv_iload hx hb dL_law_242 (lv_at hl 0 rfl) ?_
      refine lv_iconst (v := 1) hx hb dL_law_244 (by decide) ?_
      refine lv_iadd hx hb dL_law_245 ?_
      refine lv_topi (fun y1 ey1 => ?_)
      have hy1 : y1 = nI (i + 1) := by rw [ey1]; exact nI_add i 1
      subst hy1
      refine sldN hx hb hXs hbl hbA hS (k := i + 1) (by omega) (by omega) hv1 dL_law_246 ?_
      refine lv_aload_n hx hb dL_law_247 rfl (lv_at hl 1 rfl) ?_
      refine lv_iload hx hb dL_law_248 (lv_at hl 0 rfl) ?_
      refine lv_iconst (v := 2) hx hb dL_law_250 (by decide) ?_
      refine lv_iadd hx hb dL_law_251 ?_
      refine lv_topi (fun y2 ey2 => ?_)
      have hy2 : y2 = nI (i + 2) := by rw [ey2]; exact nI_add i 2
      subst hy2
      refine sldN hx hb hXs hbl hbA hS (k := i + 2) (by omega) (by omega) hv2 dL_law_252 ?_
      refine lv_aload_n hx hb dL_law_253 rfl (lv_at hl 1 rfl) ?_
      refine lv_iload hx hb dL_law_254 (lv_at hl 0 rfl) ?_
      refine lv_iconst (v := 3) hx hb dL_law_256 (by decide) ?_
      refine lv_iadd hx hb dL_law_257 ?_
      refine lv_topi (fun y3 ey3 => ?_)
      have hy3 : y3 = nI (i + 3) := by rw [ey3]; exact nI_add i 3
      subst hy3
      refine sldN hx hb hXs hbl hbA hS (k := i + 3) (by omega) (by omega) hv3v dL_law_258 ?_
      refine lv_if_eq (tgt := 266) hx hb dL_law_259 (by decide) (fun c4 => ?_) (fun c4 => ?_)
      · exact absurd c4 c3
      ·
        refine lv_iconst (v := 1) hx hb dL_law_262 (by decide) ?_
        refine lv_goto (tgt := 267) hx hb dL_law_263 (by decide) ?_
        refine lv_aload_n hx hb dL_law_267 rfl (lv_at hl 4 rfl) ?_
        refine callLW (As := [.ref o, .int (nI mm), .int (nI oo), .int 1, .ref u]) (rest := []) ⟨hx, hb, hml, hown, hts⟩ mcB_in (c_L_exclude_ok l dC dI o a q r cI cG la n v C G X D B bu lp cZ cJ u ov H.size mm oo 1 hm ho hn hne hX) kw287 kw288 kw24 kw289 ⟨rfl, rfl⟩ (n := 5) (by decide +kernel) ⟨Nat.le_of_ble_eq_true rfl, Nat.le_of_ble_eq_true rfl⟩ hP.lft hK hD.lft hS (va_freeL hD hS hA) rfl hl.1 rfl (Nat.le_of_ble_eq_true rfl) ⟨by show 60 + i ≤ 601024; omega, by show 11000 + 6 * i ≤ 7293034; omega⟩ dL_law_268 (fun z1 x1 H1 locs1 hz1 hP1 hD1 hk1 hS1 => ?_)
        obtain ⟨r1, y1⟩ := x1
        obtain ⟨hz0, hr1⟩ := hz1
        dsimp only at hr1
        subst hz0
        have hP1 : va_P (dC, dI) mcCl (mcWL o a q r cI cG la n (v + 1) C G (va_up (va_up X mm (mcBit (X mm) oo 1)) oo (mcBit ((va_up X mm (mcBit (X mm) oo 1)) oo) mm 1)) D B bu lp u cJ (vp_updL ov 0 (if r1 = 0 then 0 else 1))) H1 := hP1
        have hD1 : va_D _ (mcWL o a q r cI cG la n (v + 1) C G (va_up (va_up X mm (mcBit (X mm) oo 1)) oo (mcBit ((va_up X mm (mcBit (X mm) oo 1)) oo) mm 1)) D B bu lp u cJ (vp_updL ov 0 (if r1 = 0 then 0 else 1))) := hD1
        obtain ⟨hP, hD⟩ := va_jnL hP hD hk1 (va_freeL hD hS hA) hP1 hD1
        have hS := hS1
        refine lv_istore (lv' := [(5, .int 0), (4, .int (nI i)), (0, .ref b), (1, .ref o), (2, .ref (w 0)), (3, .ref u)]) hx hb dL_law_271 hl (by decide) rfl (fun ls hl => ?_)
        refine lv_aload_n hx hb dL_law_273 rfl (lv_at hl 4 rfl) ?_
        refine lv_aload_n hx hb dL_law_274 rfl (lv_at hl 2 rfl) ?_
        refine lv_iload hx hb dL_law_275 (lv_at hl 1 rfl) ?_
        refine lv_iconst (v := 1) hx hb dL_law_277 (by decide) ?_
        refine lv_iadd hx hb dL_law_278 ?_
        refine lv_topi (fun y5 ey5 => ?_)
        have hy5 : y5 = nI (i + 1) := by rw [ey5]; exact nI_add i 1
        subst hy5
        refine sldN hx hb hXs hbl hbA hS (k := i + 1) (by omega) (by omega) hv1 dL_law_279 ?_
        refine lv_aload_n hx hb dL_law_280 rfl (lv_at hl 2 rfl) ?_
        refine lv_iload hx hb dL_law_281 (lv_at hl 1 rfl) ?_
        refine lv_iconst (v := 2) hx hb dL_law_283 (by decide) ?_
        refine lv_iadd hx hb dL_law_284 ?_
        refine lv_topi (fun y6 ey6 => ?_)
        have hy6 : y6 = nI (i + 2) := by rw [ey6]; exact nI_add i 2
        subst hy6
        refine sldN hx hb hXs hbl hbA hS (k := i + 2) (by omega) (by omega) hv2 dL_law_285 ?_
        refine lv_aload_n hx hb dL_law_286 rfl (lv_at hl 2 rfl) ?_
        refine lv_iload hx hb dL_law_287 (lv_at hl 1 rfl) ?_
        refine lv_iconst (v := 3) hx hb dL_law_289 (by decide) ?_
        refine lv_iadd hx hb dL_law_290 ?_
        refine lv_topi (fun y7 ey7 => ?_)
        have hy7 : y7 = nI (i + 3) := by rw [ey7]; exact nI_add i 3
        subst hy7
        refine sldN hx hb hXs hbl hbA hS (k := i + 3) (by omega) (by omega) hv3v dL_law_291 ?_
        refine lv_if_eq (tgt := 299) hx hb dL_law_292 (by decide) (fun c8 => ?_) (fun c8 => ?_)
        · exact absurd c8 c3
        ·
          refine lv_iconst (v := 1) hx hb dL_law_295 (by decide) ?_
          refine lv_goto (tgt := 300) hx hb dL_law_296 (by decide) ?_
          have hPt := P_perm (pm_rot _ _) hP
          have hDt := D_perm (pm_rot _ _) hD
          refine callWXi (As := [.int (nI mm), .int (nI oo), .int 1]) (rest := []) ⟨hx, hb, hml, hown, hts⟩ mcB_in (c_R_exclude_ok l dC dI w cI cZ th n C G X D B bu LG LC ch H1.size mm oo 1 hn hm ho hne (Or.inr rfl)) kw515 kw516 kw517 kw29 kw518 ⟨rfl, rfl⟩ (n := 3) (by decide +kernel) ⟨Nat.le_of_ble_eq_true rfl, Nat.le_of_ble_eq_true rfl⟩ hPt.lft hKR hDt.lft hS (va_freeL hDt hS hA) (ci := 4) (q0 := 0) rfl rfl rfl hl.1 rfl (Nat.le_of_ble_eq_true rfl) ⟨by show 60 + i ≤ 601024; omega, by show 11000 + 6 * i ≤ 7293034; omega⟩ dL_law_300 (fun r2 x2 H2 locs2 hr2 hP2 hD2 hk2 hS2 => ?_)
          obtain ⟨hPn, hDn⟩ := va_jnL hPt hDt hk2 (va_freeL hDt hS hA) hP2 hD2
          have hS := hS2
          have hP := P_perm (pm_rot _ _) hPn
          have hD := D_perm (pm_rot _ _) hDn
          have hP : va_P (dC, dI) mcCl (mcWL o a q r cI cG la n (v + 1) C G (va_up (va_up X mm (mcBit (X mm) oo 1)) oo (mcBit ((va_up X mm (mcBit (X mm) oo 1)) oo) mm 1)) D B bu lp u cJ (vp_updL ov 0 (if r1 = 0 then 0 else 1)) ++ mcWR w cI cZ 0 n C G (va_up (va_up X mm (mcBit (X mm) oo 1)) oo (mcBit ((va_up X mm (mcBit (X mm) oo 1)) oo) mm 1)) D B bu LG LC ch) H2 := hP
          have hD : va_D (mcAA s) (mcWL o a q r cI cG la n (v + 1) C G (va_up (va_up X mm (mcBit (X mm) oo 1)) oo (mcBit ((va_up X mm (mcBit (X mm) oo 1)) oo) mm 1)) D B bu lp u cJ (vp_updL ov 0 (if r1 = 0 then 0 else 1)) ++ mcWR w cI cZ 0 n C G (va_up (va_up X mm (mcBit (X mm) oo 1)) oo (mcBit ((va_up X mm (mcBit (X mm) oo 1)) oo) mm 1)) D B bu LG LC ch) := hD
          refine lv_istore (lv' := [(6, .int r2), (5, .int 0), (4, .int (nI i)), (0, .ref b), (1, .ref o), (2, .ref (w 0)), (3, .ref u)]) hx hb dL_law_303 hl (by decide) rfl (fun ls hl => ?_)
          refine lv_aload_n hx hb dL_law_305 rfl (lv_at hl 5 rfl) ?_
          refine callRV (As := []) (rest := []) ⟨hx, hb, hml, hown, hts⟩ mcB_in (c_R_thrown l dC dI w cI cZ 0 n C G (va_up (va_up X mm (mcBit (X mm) oo 1)) oo (mcBit ((va_up X mm (mcBit (X mm) oo 1)) oo) mm 1)) D B bu LG LC ch) kw494 kw495 kw496 kw29 kw497 ⟨rfl, rfl⟩ (n := 0) (by decide +kernel) ⟨Nat.le_of_ble_eq_true rfl, Nat.le_of_ble_eq_true rfl⟩ (roP_preV (P_perm (pm_rot _ _) hP).lft hKR (ci := 4) (q0 := 0) rfl rfl) rfl hl.1 rfl (Nat.le_of_ble_eq_true rfl) ⟨by show 60 + i ≤ 601024; omega, by show 11000 + 6 * i ≤ 7293034; omega⟩ dL_law_306 (fun r3 hr3 => ?_)
          subst hr3
          refine lv_iload hx hb dL_law_309 (lv_at hl 1 rfl) ?_
          refine lv_icmp_eq (tgt := 316) hx hb dL_law_311 (by decide) (fun c9 => ?_) (fun c9 => ?_)
          rotate_left
          · exact absurd (rfl : (nI 0) = 0) c9
          refine lv_iload hx hb dL_law_316 (lv_at hl 1 rfl) ?_
          refine lv_if_ne (tgt := 340) hx hb dL_law_318 (by decide) (fun c10 => ?_) (fun c10 => ?_)
          · exact absurd (rfl : (0 : Int32) = 0) c10
          ·
            have htie : r1 = r2 := (hr1 : r1 = bZ ((X mm).testBit oo)).trans (hr2 : r2 = bZ ((X mm).testBit oo)).symm
            refine lv_aload_n hx hb dL_law_321 rfl (lv_at hl 6 rfl) ?_
            refine lv_iconst (v := 0) hx hb dL_law_322 (by decide) ?_
            refine va_lald hx hb hK hP 37 3 rfl rfl (i := 0) (vp_in_nI (n := 0) (N := 1) (by decide) (by decide)) dL_law_323 ?_
            refine W.eq (g2 := F0 m 324 ls [.long (if r1 = 0 then 0 else 1)]) rfl ?_
            refine lv_iload hx hb dL_law_324 (lv_at hl 0 rfl) ?_
            refine lv_if_eq (tgt := 333) hx hb dL_law_326 (by decide) (fun c66 => ?_) (fun c66 => ?_)
            ·
              refine lv_lconst (v := 0) hx hb dL_law_333 (by decide) ?_
              refine W.lcmp hx hb dL_law_334 ?_
              refine lv_if_eq (tgt := 340) hx hb dL_law_335 (by decide) (fun c11 => ?_) (fun c11 => ?_)
              ·
                refine lv_goto (tgt := 1110) hx hb dL_law_340 (by decide) ?_
                refine W.widen (k := 60 + i + 1) (n := 11000 + 6 * i + 6) (by omega) (by omega) ?_
                exact kk _ _ ls ⟨la, n, (v + 1), C, G, (va_up (va_up X mm (mcBit (X mm) oo 1)) oo (mcBit ((va_up X mm (mcBit (X mm) oo 1)) oo) mm 1)), D, B, bu, lp, (vp_updL ov 0 (if r1 = 0 then 0 else 1)), 0, LG, LC, ch, hI.exclude hm ho, hP, hD, hS⟩ (lv_sub hl [2, 3, 4, 5, 6] rfl)
              · exact absurd ((lg_cmp_eq _ _).mpr (by rw [htie, if_pos c66])) c11
            ·
              refine lv_lconst (v := 1) hx hb dL_law_329 (by decide) ?_
              refine lv_goto (tgt := 334) hx hb dL_law_330 (by decide) ?_
              refine W.lcmp hx hb dL_law_334 ?_
              refine lv_if_eq (tgt := 340) hx hb dL_law_335 (by decide) (fun c12 => ?_) (fun c12 => ?_)
              ·
                refine lv_goto (tgt := 1110) hx hb dL_law_340 (by decide) ?_
                refine W.widen (k := 60 + i + 1) (n := 11000 + 6 * i + 6) (by omega) (by omega) ?_
                exact kk _ _ ls ⟨la, n, (v + 1), C, G, (va_up (va_up X mm (mcBit (X mm) oo 1)) oo (mcBit ((va_up X mm (mcBit (X mm) oo 1)) oo) mm 1)), D, B, bu, lp, (vp_updL ov 0 (if r1 = 0 then 0 else 1)), 0, LG, LC, ch, hI.exclude hm ho, hP, hD, hS⟩ (lv_sub hl [2, 3, 4, 5, 6] rfl)
              · exact absurd ((lg_cmp_eq _ _).mpr (by rw [htie, if_neg c66])) c12
  ·
    by_cases c3 : v3 = 0
    ·
      refine lv_aload_n hx hb dL_law_240 rfl (lv_at hl 2 rfl) ?_
      refine lv_aload_n hx hb dL_law_241 rfl (lv_at hl 1 rfl) ?_
      refine lv_iload hx hb dL_law_242 (lv_at hl 0 rfl) ?_
      refine lv_iconst (v := 1) hx hb dL_law_244 (by decide) ?_
      refine lv_iadd hx hb dL_law_245 ?_
      refine lv_topi (fun y1 ey1 => ?_)
      have hy1 : y1 = nI (i + 1) := by rw [ey1]; exact nI_add i 1
      subst hy1
      refine sldN hx hb hXs hbl hbA hS (k := i + 1) (by omega) (by omega) hv1 dL_law_246 ?_
      refine lv_aload_n hx hb dL_law_247 rfl (lv_at hl 1 rfl) ?_
      refine lv_iload hx hb dL_law_248 (lv_at hl 0 rfl) ?_
      refine lv_iconst (v := 2) hx hb dL_law_250 (by decide) ?_
      refine lv_iadd hx hb dL_law_251 ?_
      refine lv_topi (fun y2 ey2 => ?_)
      have hy2 : y2 = nI (i + 2) := by rw [ey2]; exact nI_add i 2
      subst hy2
      refine sldN hx hb hXs hbl hbA hS (k := i + 2) (by omega) (by omega) hv2 dL_law_252 ?_
      refine lv_aload_n hx hb dL_law_253 rfl (lv_at hl 1 rfl) ?_
      refine lv_iload hx hb dL_law_254 (lv_at hl 0 rfl) ?_
      refine lv_iconst (v := 3) hx hb dL_law_256 (by decide) ?_
      refine lv_iadd hx hb dL_law_257 ?_
      refine lv_topi (fun y3 ey3 => ?_)
      have hy3 : y3 = nI (i + 3) := by rw [ey3]; exact nI_add i 3
      subst hy3
      refine sldN hx hb hXs hbl hbA hS (k := i + 3) (by omega) (by omega) hv3v dL_law_258 ?_
      refine lv_if_eq (tgt := 266) hx hb dL_law_259 (by decide) (fun c4 => ?_) (fun c4 => ?_)
      ·
        refine lv_iconst (v := 0) hx hb dL_law_266 (by decide) ?_
        refine lv_aload_n hx hb dL_law_267 rfl (lv_at hl 4 rfl) ?_
        refine callLB (As := [.ref o, .int v1, .int v2, .int 0, .ref u]) (rest := []) ⟨hx, hb, hml, hown, hts⟩ mcB_in (c_L_exclude_bad l dC dI o a q r cI cG la n v C G X D B bu lp u hlt v1 v2 0 hn hok) kw287 kw288 kw24 kw289 ⟨rfl, rfl⟩ (n := 5) (by decide +kernel) ⟨Nat.le_of_ble_eq_true rfl, Nat.le_of_ble_eq_true rfl⟩ hP.lft.lft hKH hTh hS rfl hl.1 rfl (Nat.le_of_ble_eq_true rfl) ⟨by show 60 + i + 1 ≤ 601024; omega, by show 11000 + 6 * i + 6 ≤ 7293034; omega⟩ dL_law_268 (fun H1 locs1 hz1 hk1 hS1 => ?_)
        have hP := P_keep hP hk1
        have hS := hS1
        refine lv_istore (lv' := [(5, .int 1), (4, .int (nI i)), (0, .ref b), (1, .ref o), (2, .ref (w 0)), (3, .ref u)]) hx hb dL_law_271 hl (by decide) rfl (fun ls hl => ?_)
        refine lv_aload_n hx hb dL_law_273 rfl (lv_at hl 4 rfl) ?_
        refine lv_aload_n hx hb dL_law_274 rfl (lv_at hl 2 rfl) ?_
        refine lv_iload hx hb dL_law_275 (lv_at hl 1 rfl) ?_
        refine lv_iconst (v := 1) hx hb dL_law_277 (by decide) ?_
        refine lv_iadd hx hb dL_law_278 ?_
        refine lv_topi (fun y5 ey5 => ?_)
        have hy5 : y5 = nI (i + 1) := by rw [ey5]; exact nI_add i 1
        subst hy5
        refine sldN hx hb hXs hbl hbA hS (k := i + 1) (by omega) (by omega) hv1 dL_law_279 ?_
        refine lv_aload_n hx hb dL_law_280 rfl (lv_at hl 2 rfl) ?_
        refine lv_iload hx hb dL_law_281 (lv_at hl 1 rfl) ?_
        refine lv_iconst (v := 2) hx hb dL_law_283 (by decide) ?_
        refine lv_iadd hx hb dL_law_284 ?_
        refine lv_topi (fun y6 ey6 => ?_)
        have hy6 : y6 = nI (i + 2) := by rw [ey6]; exact nI_add i 2
        subst hy6
        refine sldN hx hb hXs hbl hbA hS (k := i + 2) (by omega) (by omega) hv2 dL_law_285 ?_
        refine lv_aload_n hx hb dL_law_286 rfl (lv_at hl 2 rfl) ?_
        refine lv_iload hx hb dL_law_287 (lv_at hl 1 rfl) ?_
        refine lv_iconst (v := 3) hx hb dL_law_289 (by decide) ?_
        refine lv_iadd hx hb dL_law_290 ?_
        refine lv_topi (fun y7 ey7 => ?_)
        have hy7 : y7 = nI (i + 3) := by rw [ey7]; exact nI_add i 3
        subst hy7
        refine sldN hx hb hXs hbl hbA hS (k := i + 3) (by omega) (by omega) hv3v dL_law_291 ?_
        refine lv_if_eq (tgt := 299) hx hb dL_law_292 (by decide) (fun c8 => ?_) (fun c8 => ?_)
        ·
          refine lv_iconst (v := 0) hx hb dL_law_299 (by decide) ?_
          have hPt := P_perm (pm_rot _ _) hP
          have hDt := D_perm (pm_rot _ _) hD
          refine callWXi (As := [.int v1, .int v2, .int 0]) (rest := []) ⟨hx, hb, hml, hown, hts⟩ mcB_in (c_R_exclude_bad l dC dI w cI cZ th n C G X D B bu LG LC ch H1.size v1 v2 0 hn hok) kw515 kw516 kw517 kw29 kw518 ⟨rfl, rfl⟩ (n := 3) (by decide +kernel) ⟨Nat.le_of_ble_eq_true rfl, Nat.le_of_ble_eq_true rfl⟩ hPt.lft hKR hDt.lft hS (va_freeL hDt hS hA) (ci := 4) (q0 := 0) rfl rfl rfl hl.1 rfl (Nat.le_of_ble_eq_true rfl) ⟨by show 60 + i + 1 ≤ 601024; omega, by show 11000 + 6 * i + 6 ≤ 7293034; omega⟩ dL_law_300 (fun r2 x2 H2 locs2 hr2 hP2 hD2 hk2 hS2 => ?_)
          obtain ⟨hPn, hDn⟩ := va_jnL hPt hDt hk2 (va_freeL hDt hS hA) hP2 hD2
          have hS := hS2
          have hP := P_perm (pm_rot _ _) hPn
          have hD := D_perm (pm_rot _ _) hDn
          have hP : va_P (dC, dI) mcCl (mcWL o a q r cI cG la n v C G X D B bu lp u cJ ov ++ mcWR w cI cZ 1 n C G X D B bu LG LC ch) H2 := hP
          have hD : va_D (mcAA s) (mcWL o a q r cI cG la n v C G X D B bu lp u cJ ov ++ mcWR w cI cZ 1 n C G X D B bu LG LC ch) := hD
          refine lv_istore (lv' := [(6, .int r2), (5, .int 1), (4, .int (nI i)), (0, .ref b), (1, .ref o), (2, .ref (w 0)), (3, .ref u)]) hx hb dL_law_303 hl (by decide) rfl (fun ls hl => ?_)
          refine lv_aload_n hx hb dL_law_305 rfl (lv_at hl 5 rfl) ?_
          refine callRV (As := []) (rest := []) ⟨hx, hb, hml, hown, hts⟩ mcB_in (c_R_thrown l dC dI w cI cZ 1 n C G X D B bu LG LC ch) kw494 kw495 kw496 kw29 kw497 ⟨rfl, rfl⟩ (n := 0) (by decide +kernel) ⟨Nat.le_of_ble_eq_true rfl, Nat.le_of_ble_eq_true rfl⟩ (roP_preV (P_perm (pm_rot _ _) hP).lft hKR (ci := 4) (q0 := 0) rfl rfl) rfl hl.1 rfl (Nat.le_of_ble_eq_true rfl) ⟨by show 60 + i + 1 ≤ 601024; omega, by show 11000 + 6 * i + 6 ≤ 7293034; omega⟩ dL_law_306 (fun r3 hr3 => ?_)
          subst hr3
          refine lv_iload hx hb dL_law_309 (lv_at hl 1 rfl) ?_
          refine lv_icmp_eq (tgt := 316) hx hb dL_law_311 (by decide) (fun c9 => ?_) (fun c9 => ?_)
          rotate_left
          · exact absurd (rfl : (nI 1) = 1) c9
          refine lv_iload hx hb dL_law_316 (lv_at hl 1 rfl) ?_
          refine lv_if_ne (tgt := 340) hx hb dL_law_318 (by decide) (fun c10 => ?_) (fun c10 => ?_)
          rotate_left
          · exact absurd c10 (by decide)
          refine lv_goto (tgt := 1110) hx hb dL_law_340 (by decide) ?_
          exact kk _ _ ls ⟨la, n, v, C, G, X, D, B, bu, lp, ov, 1, LG, LC, ch, hI.mono (Nat.le_succ i), hP, hD, hS⟩ (lv_sub hl [2, 3, 4, 5, 6] rfl)
        · exact absurd c3 c8
      · exact absurd c3 c4
    ·
      refine lv_aload_n hx hb dL_law_240 rfl (lv_at hl 2 rfl) ?_
      refine lv_aload_n hx hb dL_law_241 rfl (lv_at hl 1 rfl) ?_
      refine lv_iload hx hb dL_law_242 (lv_at hl 0 rfl) ?_
      refine lv_iconst (v := 1) hx hb dL_law_244 (by decide) ?_
      refine lv_iadd hx hb dL_law_245 ?_
      refine lv_topi (fun y1 ey1 => ?_)
      have hy1 : y1 = nI (i + 1) := by rw [ey1]; exact nI_add i 1
      subst hy1
      refine sldN hx hb hXs hbl hbA hS (k := i + 1) (by omega) (by omega) hv1 dL_law_246 ?_
      refine lv_aload_n hx hb dL_law_247 rfl (lv_at hl 1 rfl) ?_
      refine lv_iload hx hb dL_law_248 (lv_at hl 0 rfl) ?_
      refine lv_iconst (v := 2) hx hb dL_law_250 (by decide) ?_
      refine lv_iadd hx hb dL_law_251 ?_
      refine lv_topi (fun y2 ey2 => ?_)
      have hy2 : y2 = nI (i + 2) := by rw [ey2]; exact nI_add i 2
      subst hy2
      refine sldN hx hb hXs hbl hbA hS (k := i + 2) (by omega) (by omega) hv2 dL_law_252 ?_
      refine lv_aload_n hx hb dL_law_253 rfl (lv_at hl 1 rfl) ?_
      refine lv_iload hx hb dL_law_254 (lv_at hl 0 rfl) ?_
      refine lv_iconst (v := 3) hx hb dL_law_256 (by decide) ?_
      refine lv_iadd hx hb dL_law_257 ?_
      refine lv_topi (fun y3 ey3 => ?_)
      have hy3 : y3 = nI (i + 3) := by rw [ey3]; exact nI_add i 3
      subst hy3
      refine sldN hx hb hXs hbl hbA hS (k := i + 3) (by omega) (by omega) hv3v dL_law_258 ?_
      refine lv_if_eq (tgt := 266) hx hb dL_law_259 (by decide) (fun c4 => ?_) (fun c4 => ?_)
      · exact absurd c4 c3
      ·
        refine lv_iconst (v := 1) hx hb dL_law_262 (by decide) ?_
        refine lv_goto (tgt := 267) hx hb dL_law_263 (by decide) ?_
        refine lv_aload_n hx hb dL_law_267 rfl (lv_at hl 4 rfl) ?_
        refine callLB (As := [.ref o, .int v1, .int v2, .int 1, .ref u]) (rest := []) ⟨hx, hb, hml, hown, hts⟩ mcB_in (c_L_exclude_bad l dC dI o a q r cI cG la n v C G X D B bu lp u hlt v1 v2 1 hn hok) kw287 kw288 kw24 kw289 ⟨rfl, rfl⟩ (n := 5) (by decide +kernel) ⟨Nat.le_of_ble_eq_true rfl, Nat.le_of_ble_eq_true rfl⟩ hP.lft.lft hKH hTh hS rfl hl.1 rfl (Nat.le_of_ble_eq_true rfl) ⟨by show 60 + i + 1 ≤ 601024; omega, by show 11000 + 6 * i + 6 ≤ 7293034; omega⟩ dL_law_268 (fun H1 locs1 hz1 hk1 hS1 => ?_)
        have hP := P_keep hP hk1
        have hS := hS1
        refine lv_istore (lv' := [(5, .int 1), (4, .int (nI i)), (0, .ref b), (1, .ref o), (2, .ref (w 0)), (3, .ref u)]) hx hb dL_law_271 hl (by decide) rfl (fun ls hl => ?_)
        refine lv_aload_n hx hb dL_law_273 rfl (lv_at hl 4 rfl) ?_
        refine lv_aload_n hx hb dL_law_274 rfl (lv_at hl 2 rfl) ?_
        refine lv_iload hx hb dL_law_275 (lv_at hl 1 rfl) ?_
        refine lv_iconst (v := 1) hx hb dL_law_277 (by decide) ?_
        refine lv_iadd hx hb dL_law_278 ?_
        refine lv_topi (fun y5 ey5 => ?_)
        have hy5 : y5 = nI (i + 1) := by rw [ey5]; exact nI_add i 1
        subst hy5
        refine sldN hx hb hXs hbl hbA hS (k := i + 1) (by omega) (by omega) hv1 dL_law_279 ?_
        refine lv_aload_n hx hb dL_law_280 rfl (lv_at hl 2 rfl) ?_
        refine lv_iload hx hb dL_law_281 (lv_at hl 1 rfl) ?_
        refine lv_iconst (v := 2) hx hb dL_law_283 (by decide) ?_
        refine lv_iadd hx hb dL_law_284 ?_
        refine lv_topi (fun y6 ey6 => ?_)
        have hy6 : y6 = nI (i + 2) := by rw [ey6]; exact nI_add i 2
        subst hy6
        refine sldN hx hb hXs hbl hbA hS (k := i + 2) (by omega) (by omega) hv2 dL_law_285 ?_
        refine lv_aload_n hx hb dL_law_286 rfl (lv_at hl 2 rfl) ?_
        refine lv_iload hx hb dL_law_287 (lv_at hl 1 rfl) ?_
        refine lv_iconst (v := 3) hx hb dL_law_289 (by decide) ?_
        refine lv_iadd hx hb dL_law_290 ?_
        refine lv_topi (fun y7 ey7 => ?_)
        have hy7 : y7 = nI (i + 3) := by rw [ey7]; exact nI_add i 3
        subst hy7
        refine sldN hx hb hXs hbl hbA hS (k := i + 3) (by omega) (by omega) hv3v dL_law_291 ?_
        refine lv_if_eq (tgt := 299) hx hb dL_law_292 (by decide) (fun c8 => ?_) (fun c8 => ?_)
        · exact absurd c8 c3
        ·
          refine lv_iconst (v := 1) hx hb dL_law_295 (by decide) ?_
          refine lv_goto (tgt := 300) hx hb dL_law_296 (by decide) ?_
          have hPt := P_perm (pm_rot _ _) hP
          have hDt := D_perm (pm_rot _ _) hD
          refine callWXi (As := [.int v1, .int v2, .int 1]) (rest := []) ⟨hx, hb, hml, hown, hts⟩ mcB_in (c_R_exclude_bad l dC dI w cI cZ th n C G X D B bu LG LC ch H1.size v1 v2 1 hn hok) kw515 kw516 kw517 kw29 kw518 ⟨rfl, rfl⟩ (n := 3) (by decide +kernel) ⟨Nat.le_of_ble_eq_true rfl, Nat.le_of_ble_eq_true rfl⟩ hPt.lft hKR hDt.lft hS (va_freeL hDt hS hA) (ci := 4) (q0 := 0) rfl rfl rfl hl.1 rfl (Nat.le_of_ble_eq_true rfl) ⟨by show 60 + i + 1 ≤ 601024; omega, by show 11000 + 6 * i + 6 ≤ 7293034; omega⟩ dL_law_300 (fun r2 x2 H2 locs2 hr2 hP2 hD2 hk2 hS2 => ?_)
          obtain ⟨hPn, hDn⟩ := va_jnL hPt hDt hk2 (va_freeL hDt hS hA) hP2 hD2
          have hS := hS2
          have hP := P_perm (pm_rot _ _) hPn
          have hD := D_perm (pm_rot _ _) hDn
          have hP : va_P (dC, dI) mcCl (mcWL o a q r cI cG la n v C G X D B bu lp u cJ ov ++ mcWR w cI cZ 1 n C G X D B bu LG LC ch) H2 := hP
          have hD : va_D (mcAA s) (mcWL o a q r cI cG la n v C G X D B bu lp u cJ ov ++ mcWR w cI cZ 1 n C G X D B bu LG LC ch) := hD
          refine lv_istore (lv' := [(6, .int r2), (5, .int 1), (4, .int (nI i)), (0, .ref b), (1, .ref o), (2, .ref (w 0)), (3, .ref u)]) hx hb dL_law_303 hl (by decide) rfl (fun ls hl => ?_)
          refine lv_aload_n hx hb dL_law_305 rfl (lv_at hl 5 rfl) ?_
          refine callRV (As := []) (rest := []) ⟨hx, hb, hml, hown, hts⟩ mcB_in (c_R_thrown l dC dI w cI cZ 1 n C G X D B bu LG LC ch) kw494 kw495 kw496 kw29 kw497 ⟨rfl, rfl⟩ (n := 0) (by decide +kernel) ⟨Nat.le_of_ble_eq_true rfl, Nat.le_of_ble_eq_true rfl⟩ (roP_preV (P_perm (pm_rot _ _) hP).lft hKR (ci := 4) (q0 := 0) rfl rfl) rfl hl.1 rfl (Nat.le_of_ble_eq_true rfl) ⟨by show 60 + i + 1 ≤ 601024; omega, by show 11000 + 6 * i + 6 ≤ 7293034; omega⟩ dL_law_306 (fun r3 hr3 => ?_)
          subst hr3
          refine lv_iload hx hb dL_law_309 (lv_at hl 1 rfl) ?_
          refine lv_icmp_eq (tgt := 316) hx hb dL_law_311 (by decide) (fun c9 => ?_) (fun c9 => ?_)
          rotate_left
          · exact absurd (rfl : (nI 1) = 1) c9
          refine lv_iload hx hb dL_law_316 (lv_at hl 1 rfl) ?_
          refine lv_if_ne (tgt := 340) hx hb dL_law_318 (by decide) (fun c10 => ?_) (fun c10 => ?_)
          rotate_left
          · exact absurd c10 (by decide)
          refine lv_goto (tgt := 1110) hx hb dL_law_340 (by decide) ?_
          exact kk _ _ ls ⟨la, n, v, C, G, X, D, B, bu, lp, ov, 1, LG, LC, ch, hI.mono (Nat.le_succ i), hP, hD, hS⟩ (lv_sub hl [2, 3, 4, 5, 6] rfl)
set_option maxHeartbeats 4000000 in
set_option maxRecDepth 100000 in
theorem law_3 {p : Program} {l : Launch} {e : Env} {s : State} {m : MethodId} {below : List Frame} {meth : Method} {c : Code} {H : Heap} {locs : List Loc} {Q : State → Prop} {ls : Array Slot} {dC : Nat → ClassId} {dI : Nat → Nat → Nat} {b L : Nat} {xs : Nat → Int32} {o : Nat} {a q r : Nat → Nat} {cI cG cZ cJ : ClassId} {u : Nat} {w : Nat → Nat} {i : Nat} (Cx : mcCx p l s m c b L xs dC dI cI cG cZ cJ) (hi : i + 4 ≤ L) (hLS : mcLS s dC dI o a q r cI cG cZ cJ u w i H locs) (hl : lv_has ls 7 [(4, .int (nI i)), (0, .ref b), (1, .ref o), (2, .ref (w 0)), (3, .ref u)])
    (kk : ∀ (H : Heap) (locs : List Loc) (ls : Array Slot), mcLS s dC dI o a q r cI cG cZ cJ u w (i + 1) H locs → lv_has ls 7 [(4, .int (nI i)), (0, .ref b), (1, .ref o), (2, .ref (w 0)), (3, .ref u)] → W p l e room_1 s m #[Value.ref b] below meth c H locs (60 + i + 1) (11000 + 6 * i + 6) Q (F0 m 1110 ls [])) : W p l e room_1 s m #[Value.ref b] below meth c H locs (60 + i) (11000 + 6 * i) Q (F0 m 343 ls []) := by
  obtain ⟨hx, hb, hml, hown, hts, hXs, hbl, hlt, hL, hK, hTh0⟩ := Cx
  obtain ⟨la, n, v, C, G, X, D, B, bu, lp, ov, th, LG, LC, ch, hI, hP, hD, hS⟩ := hLS
  have hA : ∀ q : Nat, s.heap.size ≤ q → mcAA s q := fun _ h => h
  have hbA : ¬ mcAA s b := Nat.not_le.mpr hbl
  obtain ⟨hn, hC1, hC, hG, hB, hXn, hDn, hbu, hIA, hvi⟩ := id hI
  have hX : ∀ m, X m < 4096 := fun m => mc_lt12 hn (hXn m)
  have hDD : ∀ m, D m < 4096 := fun m => mc_lt12 hn (hDn m)
  have hv3 : v < 2147483648 := by omega
  have hTh : mcTh s H := hTh0.keep (fun q hq => hS.2.1 q hq (Nat.not_le.mpr hq))
  have hKR := hK.sub (tys' := mcTR cI cZ) [0, 2] rfl
  have hKH := hK.sub (tys' := mcTH cI cG) [0, 1] rfl
  obtain ⟨v1, hv1⟩ : ∃ v, xs (i + 1) = v := ⟨_, rfl⟩
  obtain ⟨v2, hv2⟩ : ∃ v, xs (i + 2) = v := ⟨_, rfl⟩
  obtain ⟨v3, hv3v⟩ : ∃ v, xs (i + 3) = v := ⟨_, rfl⟩
  by_cases hok : (∃ k, k < n ∧ v1 = nI k) ∧ (∃ k, k < n ∧ v2 = nI k) ∧ ¬ v1 = v2
  ·
    obtain ⟨⟨mm, hm, rfl⟩, ⟨oo, ho, rfl⟩, hne⟩ := hok
    by_cases c3 : v3 = 0
    ·
      refine lv_aload_n hx hb dL_law_343 rfl (lv_at hl 2 rfl) ?_
      refine lv_aload_n hx hb dL_law_344 rfl (lv_at hl 1 rfl) ?_
      refine lv_iload hx hb dL_law_345 (lv_at hl 0 rfl) ?_
      refine lv_iconst (v := 1) hx hb dL_law_347 (by decide) ?_
      refine lv_iadd hx hb dL_law_348 ?_
      refine lv_topi (fun y1 ey1 => ?_)
      have hy1 : y1 = nI (i + 1) := by rw [ey1]; exact nI_add i 1
      subst hy1
      refine sldN hx hb hXs hbl hbA hS (k := i + 1) (by omega) (by omega) hv1 dL_law_349 ?_
      refine lv_aload_n hx hb dL_law_350 rfl (lv_at hl 1 rfl) ?_
      refine lv_iload hx hb dL_law_351 (lv_at hl 0 rfl) ?_
      refine lv_iconst (v := 2) hx hb dL_law_353 (by decide) ?_
      refine lv_iadd hx hb dL_law_354 ?_
      refine lv_topi (fun y2 ey2 => ?_)
      have hy2 : y2 = nI (i + 2) := by rw [ey2]; exact nI_add i 2
      subst hy2
      refine sldN hx hb hXs hbl hbA hS (k := i + 2) (by omega) (by omega) hv2 dL_law_355 ?_
      refine lv_aload_n hx hb dL_law_356 rfl (lv_at hl 1 rfl) ?_
      refine lv_iload hx hb dL_law_357 (lv_at hl 0 rfl) ?_
      refine lv_iconst (v := 3) hx hb dL_law_359 (by decide) ?_
      refine lv_iadd hx hb dL_law_360 ?_
      refine lv_topi (fun y3 ey3 => ?_)
      have hy3 : y3 = nI (i + 3) := by rw [ey3]; exact nI_add i 3
      subst hy3
      refine sldN hx hb hXs hbl hbA hS (k := i + 3) (by omega) (by omega) hv3v dL_law_361 ?_
      refine lv_if_eq (tgt := 369) hx hb dL_law_362 (by decide) (fun c4 => ?_) (fun c4 => ?_)
      ·
        refine lv_iconst (v := 0) hx hb dL_law_369 (by decide) ?_
        refine lv_aload_n hx hb dL_law_370 rfl (lv_at hl 4 rfl) ?_
        refine callLW (As := [.ref o, .int (nI mm), .int (nI oo), .int 0, .ref u]) (rest := []) ⟨hx, hb, hml, hown, hts⟩ mcB_in (c_L_needs_ok l dC dI o a q r cI cG la n v C G X D B bu lp cZ cJ u ov H.size mm oo 0 hm ho hn hne hDD) kw305 kw306 kw24 kw307 ⟨rfl, rfl⟩ (n := 5) (by decide +kernel) ⟨Nat.le_of_ble_eq_true rfl, Nat.le_of_ble_eq_true rfl⟩ hP.lft hK hD.lft hS (va_freeL hD hS hA) rfl hl.1 rfl (Nat.le_of_ble_eq_true rfl) ⟨by show 60 + i ≤ 601024; omega, by show 11000 + 6 * i ≤ 7293034; omega⟩ dL_law_371 (fun z1 x1 H1 locs1 hz1 hP1 hD1 hk1 hS1 => ?_)
        obtain ⟨r1, y1⟩ := x1
        obtain ⟨hz0, hr1⟩ := hz1
        dsimp only at hr1
        subst hz0
        have hP1 : va_P (dC, dI) mcCl (mcWL o a q r cI cG la n (v + 1) C G X (va_up D mm (mcBit (D mm) oo 0)) B bu lp u cJ (vp_updL ov 0 (if r1 = 0 then 0 else 1))) H1 := hP1
        have hD1 : va_D _ (mcWL o a q r cI cG la n (v + 1) C G X (va_up D mm (mcBit (D mm) oo 0)) B bu lp u cJ (vp_updL ov 0 (if r1 = 0 then 0 else 1))) := hD1
        obtain ⟨hP, hD⟩ := va_jnL hP hD hk1 (va_freeL hD hS hA) hP1 hD1
        have hS := hS1
        refine lv_istore (lv' := [(5, .int 0), (4, .int (nI i)), (0, .ref b), (1, .ref o), (2, .ref (w 0)), (3, .ref u)]) hx hb dL_law_374 hl (by decide) rfl (fun ls hl => ?_)
        refine lv_aload_n hx hb dL_law_376 rfl (lv_at hl 4 rfl) ?_
        refine lv_aload_n hx hb dL_law_377 rfl (lv_at hl 2 rfl) ?_
        refine lv_iload hx hb dL_law_378 (lv_at hl 1 rfl) ?_
        refine lv_iconst (v := 1) hx hb dL_law_380 (by decide) ?_
        refine lv_iadd hx hb dL_law_381 ?_
        refine lv_topi (fun y5 ey5 => ?_)
        have hy5 : y5 = nI (i + 1) := by rw [ey5]; exact nI_add i 1
        subst hy5
        refine sldN hx hb hXs hbl hbA hS (k := i + 1) (by omega) (by omega) hv1 dL_law_382 ?_
        refine lv_aload_n hx hb dL_law_383 rfl (lv_at hl 2 rfl) ?_
        refine lv_iload hx hb dL_law_384 (lv_at hl 1 rfl) ?_
        refine lv_iconst (v := 2) hx hb dL_law_386 (by decide) ?_
        refine lv_iadd hx hb dL_law_387 ?_
        refine lv_topi (fun y6 ey6 => ?_)
        have hy6 : y6 = nI (i + 2) := by rw [ey6]; exact nI_add i 2
        subst hy6
        refine sldN hx hb hXs hbl hbA hS (k := i + 2) (by omega) (by omega) hv2 dL_law_388 ?_
        refine lv_aload_n hx hb dL_law_389 rfl (lv_at hl 2 rfl) ?_
        refine lv_iload hx hb dL_law_390 (lv_at hl 1 rfl) ?_
        refine lv_iconst (v := 3) hx hb dL_law_392 (by decide) ?_
        refine lv_iadd hx hb dL_law_393 ?_
        refine lv_topi (fun y7 ey7 => ?_)
        have hy7 : y7 = nI (i + 3) := by rw [ey7]; exact nI_add i 3
        subst hy7
        refine sldN hx hb hXs hbl hbA hS (k := i + 3) (by omega) (by omega) hv3v dL_law_394 ?_
        refine lv_if_eq (tgt := 402) hx hb dL_law_395 (by decide) (fun c8 => ?_) (fun c8 => ?_)
        ·
          refine lv_iconst (v := 0) hx hb dL_law_402 (by decide) ?_
          have hPt := P_perm (pm_rot _ _) hP
          have hDt := D_perm (pm_rot _ _) hD
          refine callWXi (As := [.int (nI mm), .int (nI oo), .int 0]) (rest := []) ⟨hx, hb, hml, hown, hts⟩ mcB_in (c_R_needs_ok l dC dI w cI cZ th n C G X D B bu LG LC ch H1.size mm oo 0 hn hm ho hne (Or.inl rfl)) kw519 kw520 kw521 kw29 kw522 ⟨rfl, rfl⟩ (n := 3) (by decide +kernel) ⟨Nat.le_of_ble_eq_true rfl, Nat.le_of_ble_eq_true rfl⟩ hPt.lft hKR hDt.lft hS (va_freeL hDt hS hA) (ci := 4) (q0 := 0) rfl rfl rfl hl.1 rfl (Nat.le_of_ble_eq_true rfl) ⟨by show 60 + i ≤ 601024; omega, by show 11000 + 6 * i ≤ 7293034; omega⟩ dL_law_403 (fun r2 x2 H2 locs2 hr2 hP2 hD2 hk2 hS2 => ?_)
          obtain ⟨hPn, hDn⟩ := va_jnL hPt hDt hk2 (va_freeL hDt hS hA) hP2 hD2
          have hS := hS2
          have hP := P_perm (pm_rot _ _) hPn
          have hD := D_perm (pm_rot _ _) hDn
          have hP : va_P (dC, dI) mcCl (mcWL o a q r cI cG la n (v + 1) C G X (va_up D mm (mcBit (D mm) oo 0)) B bu lp u cJ (vp_updL ov 0 (if r1 = 0 then 0 else 1)) ++ mcWR w cI cZ 0 n C G X (va_up D mm (mcBit (D mm) oo 0)) B bu LG LC ch) H2 := hP
          have hD : va_D (mcAA s) (mcWL o a q r cI cG la n (v + 1) C G X (va_up D mm (mcBit (D mm) oo 0)) B bu lp u cJ (vp_updL ov 0 (if r1 = 0 then 0 else 1)) ++ mcWR w cI cZ 0 n C G X (va_up D mm (mcBit (D mm) oo 0)) B bu LG LC ch) := hD
          refine lv_istore (lv' := [(6, .int r2), (5, .int 0), (4, .int (nI i)), (0, .ref b), (1, .ref o), (2, .ref (w 0)), (3, .ref u)]) hx hb dL_law_406 hl (by decide) rfl (fun ls hl => ?_)
          refine lv_aload_n hx hb dL_law_408 rfl (lv_at hl 5 rfl) ?_
          refine callRV (As := []) (rest := []) ⟨hx, hb, hml, hown, hts⟩ mcB_in (c_R_thrown l dC dI w cI cZ 0 n C G X (va_up D mm (mcBit (D mm) oo 0)) B bu LG LC ch) kw494 kw495 kw496 kw29 kw497 ⟨rfl, rfl⟩ (n := 0) (by decide +kernel) ⟨Nat.le_of_ble_eq_true rfl, Nat.le_of_ble_eq_true rfl⟩ (roP_preV (P_perm (pm_rot _ _) hP).lft hKR (ci := 4) (q0 := 0) rfl rfl) rfl hl.1 rfl (Nat.le_of_ble_eq_true rfl) ⟨by show 60 + i ≤ 601024; omega, by show 11000 + 6 * i ≤ 7293034; omega⟩ dL_law_409 (fun r3 hr3 => ?_)
          subst hr3
          refine lv_iload hx hb dL_law_412 (lv_at hl 1 rfl) ?_
          refine lv_icmp_eq (tgt := 419) hx hb dL_law_414 (by decide) (fun c9 => ?_) (fun c9 => ?_)
          rotate_left
          · exact absurd (rfl : (nI 0) = 0) c9
          refine lv_iload hx hb dL_law_419 (lv_at hl 1 rfl) ?_
          refine lv_if_ne (tgt := 443) hx hb dL_law_421 (by decide) (fun c10 => ?_) (fun c10 => ?_)
          · exact absurd (rfl : (0 : Int32) = 0) c10
          ·
            have htie : r1 = r2 := (hr1 : r1 = bZ ((D mm).testBit oo)).trans (hr2 : r2 = bZ ((D mm).testBit oo)).symm
            refine lv_aload_n hx hb dL_law_424 rfl (lv_at hl 6 rfl) ?_
            refine lv_iconst (v := 0) hx hb dL_law_425 (by decide) ?_
            refine va_lald hx hb hK hP 37 3 rfl rfl (i := 0) (vp_in_nI (n := 0) (N := 1) (by decide) (by decide)) dL_law_426 ?_
            refine W.eq (g2 := F0 m 427 ls [.long (if r1 = 0 then 0 else 1)]) rfl ?_
            refine lv_iload hx hb dL_law_427 (lv_at hl 0 rfl) ?_
            refine lv_if_eq (tgt := 436) hx hb dL_law_429 (by decide) (fun c66 => ?_) (fun c66 => ?_)
            ·
              refine lv_lconst (v := 0) hx hb dL_law_436 (by decide) ?_
              refine W.lcmp hx hb dL_law_437 ?_
              refine lv_if_eq (tgt := 443) hx hb dL_law_438 (by decide) (fun c11 => ?_) (fun c11 => ?_)
              ·
                refine lv_goto (tgt := 1110) hx hb dL_law_443 (by decide) ?_
                refine W.widen (k := 60 + i + 1) (n := 11000 + 6 * i + 6) (by omega) (by omega) ?_
                exact kk _ _ ls ⟨la, n, (v + 1), C, G, X, (va_up D mm (mcBit (D mm) oo 0)), B, bu, lp, (vp_updL ov 0 (if r1 = 0 then 0 else 1)), 0, LG, LC, ch, hI.needs ho, hP, hD, hS⟩ (lv_sub hl [2, 3, 4, 5, 6] rfl)
              · exact absurd ((lg_cmp_eq _ _).mpr (by rw [htie, if_pos c66])) c11
            ·
              refine lv_lconst (v := 1) hx hb dL_law_432 (by decide) ?_
              refine lv_goto (tgt := 437) hx hb dL_law_433 (by decide) ?_
              refine W.lcmp hx hb dL_law_437 ?_
              refine lv_if_eq (tgt := 443) hx hb dL_law_438 (by decide) (fun c12 => ?_) (fun c12 => ?_)
              ·
                refine lv_goto (tgt := 1110) hx hb dL_law_443 (by decide) ?_
                refine W.widen (k := 60 + i + 1) (n := 11000 + 6 * i + 6) (by omega) (by omega) ?_
                exact kk _ _ ls ⟨la, n, (v + 1), C, G, X, (va_up D mm (mcBit (D mm) oo 0)), B, bu, lp, (vp_updL ov 0 (if r1 = 0 then 0 else 1)), 0, LG, LC, ch, hI.needs ho, hP, hD, hS⟩ (lv_sub hl [2, 3, 4, 5, 6] rfl)
              · exact absurd ((lg_cmp_eq _ _).mpr (by rw [htie, if_neg c66])) c12
        · exact absurd c3 c8
      · exact absurd c3 c4
    ·
      refine lv_aload_n hx hb dL_law_343 rfl (lv_at hl 2 rfl) ?_
      refine lv_aload_n hx hb dL_law_344 rfl (lv_at hl 1 rfl) ?_
      refine lv_iload hx hb dL_law_345 (lv_at hl 0 rfl) ?_
      refine lv_iconst (v := 1) hx hb dL_law_347 (by decide) ?_
      refine lv_iadd hx hb dL_law_348 ?_
      refine lv_topi (fun y1 ey1 => ?_)
      have hy1 : y1 = nI (i + 1) := by rw [ey1]; exact nI_add i 1
      subst hy1
      refine sldN hx hb hXs hbl hbA hS (k := i + 1) (by omega) (by omega) hv1 dL_law_349 ?_
      refine lv_aload_n hx hb dL_law_350 rfl (lv_at hl 1 rfl) ?_
      refine lv_iload hx hb dL_law_351 (lv_at hl 0 rfl) ?_
      refine lv_iconst (v := 2) hx hb dL_law_353 (by decide) ?_
      refine lv_iadd hx hb dL_law_354 ?_
      refine lv_topi (fun y2 ey2 => ?_)
      have hy2 : y2 = nI (i + 2) := by rw [ey2]; exact nI_add i 2
      subst hy2
      refine sldN hx hb hXs hbl hbA hS (k := i + 2) (by omega) (by omega) hv2 dL_law_355 ?_
      refine lv_aload_n hx hb dL_law_356 rfl (lv_at hl 1 rfl) ?_
      refine lv_iload hx hb dL_law_357 (lv_at hl 0 rfl) ?_
      refine lv_iconst (v := 3) hx hb dL_law_359 (by decide) ?_
      refine lv_iadd hx hb dL_law_360 ?_
      refine lv_topi (fun y3 ey3 => ?_)
      have hy3 : y3 = nI (i + 3) := by rw [ey3]; exact nI_add i 3
      subst hy3
      refine sldN hx hb hXs hbl hbA hS (k := i + 3) (by omega) (by omega) hv3v dL_law_361 ?_
      refine lv_if_eq (tgt := 369) hx hb dL_law_362 (by decide) (fun c4 => ?_) (fun c4 => ?_)
      · exact absurd c4 c3
      ·
        refine lv_iconst (v := 1) hx hb dL_law_365 (by decide) ?_
        refine lv_goto (tgt := 370) hx hb dL_law_366 (by decide) ?_
        refine lv_aload_n hx hb dL_law_370 rfl (lv_at hl 4 rfl) ?_
        refine callLW (As := [.ref o, .int (nI mm), .int (nI oo), .int 1, .ref u]) (rest := []) ⟨hx, hb, hml, hown, hts⟩ mcB_in (c_L_needs_ok l dC dI o a q r cI cG la n v C G X D B bu lp cZ cJ u ov H.size mm oo 1 hm ho hn hne hDD) kw305 kw306 kw24 kw307 ⟨rfl, rfl⟩ (n := 5) (by decide +kernel) ⟨Nat.le_of_ble_eq_true rfl, Nat.le_of_ble_eq_true rfl⟩ hP.lft hK hD.lft hS (va_freeL hD hS hA) rfl hl.1 rfl (Nat.le_of_ble_eq_true rfl) ⟨by show 60 + i ≤ 601024; omega, by show 11000 + 6 * i ≤ 7293034; omega⟩ dL_law_371 (fun z1 x1 H1 locs1 hz1 hP1 hD1 hk1 hS1 => ?_)
        obtain ⟨r1, y1⟩ := x1
        obtain ⟨hz0, hr1⟩ := hz1
        dsimp only at hr1
        subst hz0
        have hP1 : va_P (dC, dI) mcCl (mcWL o a q r cI cG la n (v + 1) C G X (va_up D mm (mcBit (D mm) oo 1)) B bu lp u cJ (vp_updL ov 0 (if r1 = 0 then 0 else 1))) H1 := hP1
        have hD1 : va_D _ (mcWL o a q r cI cG la n (v + 1) C G X (va_up D mm (mcBit (D mm) oo 1)) B bu lp u cJ (vp_updL ov 0 (if r1 = 0 then 0 else 1))) := hD1
        obtain ⟨hP, hD⟩ := va_jnL hP hD hk1 (va_freeL hD hS hA) hP1 hD1
        have hS := hS1
        refine lv_istore (lv' := [(5, .int 0), (4, .int (nI i)), (0, .ref b), (1, .ref o), (2, .ref (w 0)), (3, .ref u)]) hx hb dL_law_374 hl (by decide) rfl (fun ls hl => ?_)
        refine lv_aload_n hx hb dL_law_376 rfl (lv_at hl 4 rfl) ?_
        refine lv_aload_n hx hb dL_law_377 rfl (lv_at hl 2 rfl) ?_
        refine lv_iload hx hb dL_law_378 (lv_at hl 1 rfl) ?_
        refine lv_iconst (v := 1) hx hb dL_law_380 (by decide) ?_
        refine lv_iadd hx hb dL_law_381 ?_
        refine lv_topi (fun y5 ey5 => ?_)
        have hy5 : y5 = nI (i + 1) := by rw [ey5]; exact nI_add i 1
        subst hy5
        refine sldN hx hb hXs hbl hbA hS (k := i + 1) (by omega) (by omega) hv1 dL_law_382 ?_
        refine lv_aload_n hx hb dL_law_383 rfl (lv_at hl 2 rfl) ?_
        refine lv_iload hx hb dL_law_384 (lv_at hl 1 rfl) ?_
        refine lv_iconst (v := 2) hx hb dL_law_386 (by decide) ?_
        refine lv_iadd hx hb dL_law_387 ?_
        refine lv_topi (fun y6 ey6 => ?_)
        have hy6 : y6 = nI (i + 2) := by rw [ey6]; exact nI_add i 2
        subst hy6
        refine sldN hx hb hXs hbl hbA hS (k := i + 2) (by omega) (by omega) hv2 dL_law_388 ?_
        refine lv_aload_n hx hb dL_law_389 rfl (lv_at hl 2 rfl) ?_
        refine lv_iload hx hb dL_law_390 (lv_at hl 1 rfl) ?_
        refine lv_iconst (v := 3) hx hb dL_law_392 (by decide) ?_
        refine lv_iadd hx hb dL_law_393 ?_
        refine lv_topi (fun y7 ey7 => ?_)
        have hy7 : y7 = nI (i + 3) := by rw [ey7]; exact nI_add i 3
        subst hy7
        refine sldN hx hb hXs hbl hbA hS (k := i + 3) (by omega) (by omega) hv3v dL_law_394 ?_
        refine lv_if_eq (tgt := 402) hx hb dL_law_395 (by decide) (fun c8 => ?_) (fun c8 => ?_)
        · exact absurd c8 c3
        ·
          refine lv_iconst (v := 1) hx hb dL_law_398 (by decide) ?_
          refine lv_goto (tgt := 403) hx hb dL_law_399 (by decide) ?_
          have hPt := P_perm (pm_rot _ _) hP
          have hDt := D_perm (pm_rot _ _) hD
          refine callWXi (As := [.int (nI mm), .int (nI oo), .int 1]) (rest := []) ⟨hx, hb, hml, hown, hts⟩ mcB_in (c_R_needs_ok l dC dI w cI cZ th n C G X D B bu LG LC ch H1.size mm oo 1 hn hm ho hne (Or.inr rfl)) kw519 kw520 kw521 kw29 kw522 ⟨rfl, rfl⟩ (n := 3) (by decide +kernel) ⟨Nat.le_of_ble_eq_true rfl, Nat.le_of_ble_eq_true rfl⟩ hPt.lft hKR hDt.lft hS (va_freeL hDt hS hA) (ci := 4) (q0 := 0) rfl rfl rfl hl.1 rfl (Nat.le_of_ble_eq_true rfl) ⟨by show 60 + i ≤ 601024; omega, by show 11000 + 6 * i ≤ 7293034; omega⟩ dL_law_403 (fun r2 x2 H2 locs2 hr2 hP2 hD2 hk2 hS2 => ?_)
          obtain ⟨hPn, hDn⟩ := va_jnL hPt hDt hk2 (va_freeL hDt hS hA) hP2 hD2
          have hS := hS2
          have hP := P_perm (pm_rot _ _) hPn
          have hD := D_perm (pm_rot _ _) hDn
          have hP : va_P (dC, dI) mcCl (mcWL o a q r cI cG la n (v + 1) C G X (va_up D mm (mcBit (D mm) oo 1)) B bu lp u cJ (vp_updL ov 0 (if r1 = 0 then 0 else 1)) ++ mcWR w cI cZ 0 n C G X (va_up D mm (mcBit (D mm) oo 1)) B bu LG LC ch) H2 := hP
          have hD : va_D (mcAA s) (mcWL o a q r cI cG la n (v + 1) C G X (va_up D mm (mcBit (D mm) oo 1)) B bu lp u cJ (vp_updL ov 0 (if r1 = 0 then 0 else 1)) ++ mcWR w cI cZ 0 n C G X (va_up D mm (mcBit (D mm) oo 1)) B bu LG LC ch) := hD
          refine lv_istore (lv' := [(6, .int r2), (5, .int 0), (4, .int (nI i)), (0, .ref b), (1, .ref o), (2, .ref (w 0)), (3, .ref u)]) hx hb dL_law_406 hl (by decide) rfl (fun ls hl => ?_)
          refine lv_aload_n hx hb dL_law_408 rfl (lv_at hl 5 rfl) ?_
          refine callRV (As := []) (rest := []) ⟨hx, hb, hml, hown, hts⟩ mcB_in (c_R_thrown l dC dI w cI cZ 0 n C G X (va_up D mm (mcBit (D mm) oo 1)) B bu LG LC ch) kw494 kw495 kw496 kw29 kw497 ⟨rfl, rfl⟩ (n := 0) (by decide +kernel) ⟨Nat.le_of_ble_eq_true rfl, Nat.le_of_ble_eq_true rfl⟩ (roP_preV (P_perm (pm_rot _ _) hP).lft hKR (ci := 4) (q0 := 0) rfl rfl) rfl hl.1 rfl (Nat.le_of_ble_eq_true rfl) ⟨by show 60 + i ≤ 601024; omega, by show 11000 + 6 * i ≤ 7293034; omega⟩ dL_law_409 (fun r3 hr3 => ?_)
          subst hr3
          refine lv_iload hx hb dL_law_412 (lv_at hl 1 rfl) ?_
          refine lv_icmp_eq (tgt := 419) hx hb dL_law_414 (by decide) (fun c9 => ?_) (fun c9 => ?_)
          rotate_left
          · exact absurd (rfl : (nI 0) = 0) c9
          refine lv_iload hx hb dL_law_419 (lv_at hl 1 rfl) ?_
          refine lv_if_ne (tgt := 443) hx hb dL_law_421 (by decide) (fun c10 => ?_) (fun c10 => ?_)
          · exact absurd (rfl : (0 : Int32) = 0) c10
          ·
            have htie : r1 = r2 := (hr1 : r1 = bZ ((D mm).testBit oo)).trans (hr2 : r2 = bZ ((D mm).testBit oo)).symm
            refine lv_aload_n hx hb dL_law_424 rfl (lv_at hl 6 rfl) ?_
            refine lv_iconst (v := 0) hx hb dL_law_425 (by decide) ?_
            refine va_lald hx hb hK hP 37 3 rfl rfl (i := 0) (vp_in_nI (n := 0) (N := 1) (by decide) (by decide)) dL_law_426 ?_
            refine W.eq (g2 := F0 m 427 ls [.long (if r1 = 0 then 0 else 1)]) rfl ?_
            refine lv_iload hx hb dL_law_427 (lv_at hl 0 rfl) ?_
            refine lv_if_eq (tgt := 436) hx hb dL_law_429 (by decide) (fun c66 => ?_) (fun c66 => ?_)
            ·
              refine lv_lconst (v := 0) hx hb dL_law_436 (by decide) ?_
              refine W.lcmp hx hb dL_law_437 ?_
              refine lv_if_eq (tgt := 443) hx hb dL_law_438 (by decide) (fun c11 => ?_) (fun c11 => ?_)
              ·
                refine lv_goto (tgt := 1110) hx hb dL_law_443 (by decide) ?_
                refine W.widen (k := 60 + i + 1) (n := 11000 + 6 * i + 6) (by omega) (by omega) ?_
                exact kk _ _ ls ⟨la, n, (v + 1), C, G, X, (va_up D mm (mcBit (D mm) oo 1)), B, bu, lp, (vp_updL ov 0 (if r1 = 0 then 0 else 1)), 0, LG, LC, ch, hI.needs ho, hP, hD, hS⟩ (lv_sub hl [2, 3, 4, 5, 6] rfl)
              · exact absurd ((lg_cmp_eq _ _).mpr (by rw [htie, if_pos c66])) c11
            ·
              refine lv_lconst (v := 1) hx hb dL_law_432 (by decide) ?_
              refine lv_goto (tgt := 437) hx hb dL_law_433 (by decide) ?_
              refine W.lcmp hx hb dL_law_437 ?_
              refine lv_if_eq (tgt := 443) hx hb dL_law_438 (by decide) (fun c12 => ?_) (fun c12 => ?_)
              ·
                refine lv_goto (tgt := 1110) hx hb dL_law_443 (by decide) ?_
                refine W.widen (k := 60 + i + 1) (n := 11000 + 6 * i + 6) (by omega) (by omega) ?_
                exact kk _ _ ls ⟨la, n, (v + 1), C, G, X, (va_up D mm (mcBit (D mm) oo 1)), B, bu, lp, (vp_updL ov 0 (if r1 = 0 then 0 else 1)), 0, LG, LC, ch, hI.needs ho, hP, hD, hS⟩ (lv_sub hl [2, 3, 4, 5, 6] rfl)
              · exact absurd ((lg_cmp_eq _ _).mpr (by rw [htie, if_neg c66])) c12
  ·
    by_cases c3 : v3 = 0
    ·
      refine lv_aload_n hx hb dL_law_343 rfl (lv_at hl 2 rfl) ?_
      refine lv_aload_n hx hb dL_law_344 rfl (lv_at hl 1 rfl) ?_
      refine lv_iload hx hb dL_law_345 (lv_at hl 0 rfl) ?_
      refine lv_iconst (v := 1) hx hb dL_law_347 (by decide) ?_
      refine lv_iadd hx hb dL_law_348 ?_
      refine lv_topi (fun y1 ey1 => ?_)
      have hy1 : y1 = nI (i + 1) := by rw [ey1]; exact nI_add i 1
      subst hy1
      refine sldN hx hb hXs hbl hbA hS (k := i + 1) (by omega) (by omega) hv1 dL_law_349 ?_
      refine lv_aload_n hx hb dL_law_350 rfl (lv_at hl 1 rfl) ?_
      refine lv_iload hx hb dL_law_351 (lv_at hl 0 rfl) ?_
      refine lv_iconst (v := 2) hx hb dL_law_353 (by decide) ?_
      refine lv_iadd hx hb dL_law_354 ?_
      refine lv_topi (fun y2 ey2 => ?_)
      have hy2 : y2 = nI (i + 2) := by rw [ey2]; exact nI_add i 2
      subst hy2
      refine sldN hx hb hXs hbl hbA hS (k := i + 2) (by omega) (by omega) hv2 dL_law_355 ?_
      refine lv_aload_n hx hb dL_law_356 rfl (lv_at hl 1 rfl) ?_
      refine lv_iload hx hb dL_law_357 (lv_at hl 0 rfl) ?_
      refine lv_iconst (v := 3) hx hb dL_law_359 (by decide) ?_
      refine lv_iadd hx hb dL_law_360 ?_
      refine lv_topi (fun y3 ey3 => ?_)
      have hy3 : y3 = nI (i + 3) := by rw [ey3]; exact nI_add i 3
      subst hy3
      refine sldN hx hb hXs hbl hbA hS (k := i + 3) (by omega) (by omega) hv3v dL_law_361 ?_
      refine lv_if_eq (tgt := 369) hx hb dL_law_362 (by decide) (fun c4 => ?_) (fun c4 => ?_)
      ·
        refine lv_iconst (v := 0) hx hb dL_law_369 (by decide) ?_
        refine lv_aload_n hx hb dL_law_370 rfl (lv_at hl 4 rfl) ?_
        refine callLB (As := [.ref o, .int v1, .int v2, .int 0, .ref u]) (rest := []) ⟨hx, hb, hml, hown, hts⟩ mcB_in (c_L_needs_bad l dC dI o a q r cI cG la n v C G X D B bu lp u hlt v1 v2 0 hn hok) kw305 kw306 kw24 kw307 ⟨rfl, rfl⟩ (n := 5) (by decide +kernel) ⟨Nat.le_of_ble_eq_true rfl, Nat.le_of_ble_eq_true rfl⟩ hP.lft.lft hKH hTh hS rfl hl.1 rfl (Nat.le_of_ble_eq_true rfl) ⟨by show 60 + i + 1 ≤ 601024; omega, by show 11000 + 6 * i + 6 ≤ 7293034; omega⟩ dL_law_371 (fun H1 locs1 hz1 hk1 hS1 => ?_)
        have hP := P_keep hP hk1
        have hS := hS1
        refine lv_istore (lv' := [(5, .int 1), (4, .int (nI i)), (0, .ref b), (1, .ref o), (2, .ref (w 0)), (3, .ref u)]) hx hb dL_law_374 hl (by decide) rfl (fun ls hl => ?_)
        refine lv_aload_n hx hb dL_law_376 rfl (lv_at hl 4 rfl) ?_
        refine lv_aload_n hx hb dL_law_377 rfl (lv_at hl 2 rfl) ?_
        refine lv_iload hx hb dL_law_378 (lv_at hl 1 rfl) ?_
        refine lv_iconst (v := 1) hx hb dL_law_380 (by decide) ?_
        refine lv_iadd hx hb dL_law_381 ?_
        refine lv_topi (fun y5 ey5 => ?_)
        have hy5 : y5 = nI (i + 1) := by rw [ey5]; exact nI_add i 1
        subst hy5
        refine sldN hx hb hXs hbl hbA hS (k := i + 1) (by omega) (by omega) hv1 dL_law_382 ?_
        refine lv_aload_n hx hb dL_law_383 rfl (lv_at hl 2 rfl) ?_
        refine lv_iload hx hb dL_law_384 (lv_at hl 1 rfl) ?_
        refine lv_iconst (v := 2) hx hb dL_law_386 (by decide) ?_
        refine lv_iadd hx hb dL_law_387 ?_
        refine lv_topi (fun y6 ey6 => ?_)
        have hy6 : y6 = nI (i + 2) := by rw [ey6]; exact nI_add i 2
        subst hy6
        refine sldN hx hb hXs hbl hbA hS (k := i + 2) (by omega) (by omega) hv2 dL_law_388 ?_
        refine lv_aload_n hx hb dL_law_389 rfl (lv_at hl 2 rfl) ?_
        refine lv_iload hx hb dL_law_390 (lv_at hl 1 rfl) ?_
        refine lv_iconst (v := 3) hx hb dL_law_392 (by decide) ?_
        refine lv_iadd hx hb dL_law_393 ?_
        refine lv_topi (fun y7 ey7 => ?_)
        have hy7 : y7 = nI (i + 3) := by rw [ey7]; exact nI_add i 3
        subst hy7
        refine sldN hx hb hXs hbl hbA hS (k := i + 3) (by omega) (by omega) hv3v dL_law_394 ?_
        refine lv_if_eq (tgt := 402) hx hb dL_law_395 (by decide) (fun c8 => ?_) (fun c8 => ?_)
        ·
          refine lv_iconst (v := 0) hx hb dL_law_402 (by decide) ?_
          have hPt := P_perm (pm_rot _ _) hP
          have hDt := D_perm (pm_rot _ _) hD
          refine callWXi (As := [.int v1, .int v2, .int 0]) (rest := []) ⟨hx, hb, hml, hown, hts⟩ mcB_in (c_R_needs_bad l dC dI w cI cZ th n C G X D B bu LG LC ch H1.size v1 v2 0 hn hok) kw519 kw520 kw521 kw29 kw522 ⟨rfl, rfl⟩ (n := 3) (by decide +kernel) ⟨Nat.le_of_ble_eq_true rfl, Nat.le_of_ble_eq_true rfl⟩ hPt.lft hKR hDt.lft hS (va_freeL hDt hS hA) (ci := 4) (q0 := 0) rfl rfl rfl hl.1 rfl (Nat.le_of_ble_eq_true rfl) ⟨by show 60 + i + 1 ≤ 601024; omega, by show 11000 + 6 * i + 6 ≤ 7293034; omega⟩ dL_law_403 (fun r2 x2 H2 locs2 hr2 hP2 hD2 hk2 hS2 => ?_)
          obtain ⟨hPn, hDn⟩ := va_jnL hPt hDt hk2 (va_freeL hDt hS hA) hP2 hD2
          have hS := hS2
          have hP := P_perm (pm_rot _ _) hPn
          have hD := D_perm (pm_rot _ _) hDn
          have hP : va_P (dC, dI) mcCl (mcWL o a q r cI cG la n v C G X D B bu lp u cJ ov ++ mcWR w cI cZ 1 n C G X D B bu LG LC ch) H2 := hP
          have hD : va_D (mcAA s) (mcWL o a q r cI cG la n v C G X D B bu lp u cJ ov ++ mcWR w cI cZ 1 n C G X D B bu LG LC ch) := hD
          refine lv_istore (lv' := [(6, .int r2), (5, .int 1), (4, .int (nI i)), (0, .ref b), (1, .ref o), (2, .ref (w 0)), (3, .ref u)]) hx hb dL_law_406 hl (by decide) rfl (fun ls hl => ?_)
          refine lv_aload_n hx hb dL_law_408 rfl (lv_at hl 5 rfl) ?_
          refine callRV (As := []) (rest := []) ⟨hx, hb, hml, hown, hts⟩ mcB_in (c_R_thrown l dC dI w cI cZ 1 n C G X D B bu LG LC ch) kw494 kw495 kw496 kw29 kw497 ⟨rfl, rfl⟩ (n := 0) (by decide +kernel) ⟨Nat.le_of_ble_eq_true rfl, Nat.le_of_ble_eq_true rfl⟩ (roP_preV (P_perm (pm_rot _ _) hP).lft hKR (ci := 4) (q0 := 0) rfl rfl) rfl hl.1 rfl (Nat.le_of_ble_eq_true rfl) ⟨by show 60 + i + 1 ≤ 601024; omega, by show 11000 + 6 * i + 6 ≤ 7293034; omega⟩ dL_law_409 (fun r3 hr3 => ?_)
          subst hr3
          refine lv_iload hx hb dL_law_412 (lv_at hl 1 rfl) ?_
          refine lv_icmp_eq (tgt := 419) hx hb dL_law_414 (by decide) (fun c9 => ?_) (fun c9 => ?_)
          rotate_left
          · exact absurd (rfl : (nI 1) = 1) c9
          refine lv_iload hx hb dL_law_419 (lv_at hl 1 rfl) ?_
          refine lv_if_ne (tgt := 443) hx hb dL_law_421 (by decide) (fun c10 => ?_) (fun c10 => ?_)
          rotate_left
          · exact absurd c10 (by decide)
          refine lv_goto (tgt := 1110) hx hb dL_law_443 (by decide) ?_
          exact kk _ _ ls ⟨la, n, v, C, G, X, D, B, bu, lp, ov, 1, LG, LC, ch, hI.mono (Nat.le_succ i), hP, hD, hS⟩ (lv_sub hl [2, 3, 4, 5, 6] rfl)
        · exact absurd c3 c8
      · exact absurd c3 c4
    ·
      refine lv_aload_n hx hb dL_law_343 rfl (lv_at hl 2 rfl) ?_
      refine lv_aload_n hx hb dL_law_344 rfl (lv_at hl 1 rfl) ?_
      refine lv_iload hx hb dL_law_345 (lv_at hl 0 rfl) ?_
      refine lv_iconst (v := 1) hx hb dL_law_347 (by decide) ?_
      refine lv_iadd hx hb dL_law_348 ?_
      refine lv_topi (fun y1 ey1 => ?_)
      have hy1 : y1 = nI (i + 1) := by rw [ey1]; exact nI_add i 1
      subst hy1
      refine sldN hx hb hXs hbl hbA hS (k := i + 1) (by omega) (by omega) hv1 dL_law_349 ?_
      refine lv_aload_n hx hb dL_law_350 rfl (lv_at hl 1 rfl) ?_
      refine lv_iload hx hb dL_law_351 (lv_at hl 0 rfl) ?_
      refine lv_iconst (v := 2) hx hb dL_law_353 (by decide) ?_
      refine lv_iadd hx hb dL_law_354 ?_
      refine lv_topi (fun y2 ey2 => ?_)
      have hy2 : y2 = nI (i + 2) := by rw [ey2]; exact nI_add i 2
      subst hy2
      refine sldN hx hb hXs hbl hbA hS (k := i + 2) (by omega) (by omega) hv2 dL_law_355 ?_
      refine lv_aload_n hx hb dL_law_356 rfl (lv_at hl 1 rfl) ?_
      refine lv_iload hx hb dL_law_357 (lv_at hl 0 rfl) ?_
      refine lv_iconst (v := 3) hx hb dL_law_359 (by decide) ?_
      refine lv_iadd hx hb dL_law_360 ?_
      refine lv_topi (fun y3 ey3 => ?_)
      have hy3 : y3 = nI (i + 3) := by rw [ey3]; exact nI_add i 3
      subst hy3
      refine sldN hx hb hXs hbl hbA hS (k := i + 3) (by omega) (by omega) hv3v dL_law_361 ?_
      refine lv_if_eq (tgt := 369) hx hb dL_law_362 (by decide) (fun c4 => ?_) (fun c4 => ?_)
      · exact absurd c4 c3
      ·
        refine lv_iconst (v := 1) hx hb dL_law_365 (by decide) ?_
        refine lv_goto (tgt := 370) hx hb dL_law_366 (by decide) ?_
        refine lv_aload_n hx hb dL_law_370 rfl (lv_at hl 4 rfl) ?_
        refine callLB (As := [.ref o, .int v1, .int v2, .int 1, .ref u]) (rest := []) ⟨hx, hb, hml, hown, hts⟩ mcB_in (c_L_needs_bad l dC dI o a q r cI cG la n v C G X D B bu lp u hlt v1 v2 1 hn hok) kw305 kw306 kw24 kw307 ⟨rfl, rfl⟩ (n := 5) (by decide +kernel) ⟨Nat.le_of_ble_eq_true rfl, Nat.le_of_ble_eq_true rfl⟩ hP.lft.lft hKH hTh hS rfl hl.1 rfl (Nat.le_of_ble_eq_true rfl) ⟨by show 60 + i + 1 ≤ 601024; omega, by show 11000 + 6 * i + 6 ≤ 7293034; omega⟩ dL_law_371 (fun H1 locs1 hz1 hk1 hS1 => ?_)
        have hP := P_keep hP hk1
        have hS := hS1
        refine lv_istore (lv' := [(5, .int 1), (4, .int (nI i)), (0, .ref b), (1, .ref o), (2, .ref (w 0)), (3, .ref u)]) hx hb dL_law_374 hl (by decide) rfl (fun ls hl => ?_)
        refine lv_aload_n hx hb dL_law_376 rfl (lv_at hl 4 rfl) ?_
        refine lv_aload_n hx hb dL_law_377 rfl (lv_at hl 2 rfl) ?_
        refine lv_iload hx hb dL_law_378 (lv_at hl 1 rfl) ?_
        refine lv_iconst (v := 1) hx hb dL_law_380 (by decide) ?_
        refine lv_iadd hx hb dL_law_381 ?_
        refine lv_topi (fun y5 ey5 => ?_)
        have hy5 : y5 = nI (i + 1) := by rw [ey5]; exact nI_add i 1
        subst hy5
        refine sldN hx hb hXs hbl hbA hS (k := i + 1) (by omega) (by omega) hv1 dL_law_382 ?_
        refine lv_aload_n hx hb dL_law_383 rfl (lv_at hl 2 rfl) ?_
        refine lv_iload hx hb dL_law_384 (lv_at hl 1 rfl) ?_
        refine lv_iconst (v := 2) hx hb dL_law_386 (by decide) ?_
        refine lv_iadd hx hb dL_law_387 ?_
        refine lv_topi (fun y6 ey6 => ?_)
        have hy6 : y6 = nI (i + 2) := by rw [ey6]; exact nI_add i 2
        subst hy6
        refine sldN hx hb hXs hbl hbA hS (k := i + 2) (by omega) (by omega) hv2 dL_law_388 ?_
        refine lv_aload_n hx hb dL_law_389 rfl (lv_at hl 2 rfl) ?_
        refine lv_iload hx hb dL_law_390 (lv_at hl 1 rfl) ?_
        refine lv_iconst (v := 3) hx hb dL_law_392 (by decide) ?_
        refine lv_iadd hx hb dL_law_393 ?_
        refine lv_topi (fun y7 ey7 => ?_)
        have hy7 : y7 = nI (i + 3) := by rw [ey7]; exact nI_add i 3
        subst hy7
        refine sldN hx hb hXs hbl hbA hS (k := i + 3) (by omega) (by omega) hv3v dL_law_394 ?_
        refine lv_if_eq (tgt := 402) hx hb dL_law_395 (by decide) (fun c8 => ?_) (fun c8 => ?_)
        · exact absurd c8 c3
        ·
          refine lv_iconst (v := 1) hx hb dL_law_398 (by decide) ?_
          refine lv_goto (tgt := 403) hx hb dL_law_399 (by decide) ?_
          have hPt := P_perm (pm_rot _ _) hP
          have hDt := D_perm (pm_rot _ _) hD
          refine callWXi (As := [.int v1, .int v2, .int 1]) (rest := []) ⟨hx, hb, hml, hown, hts⟩ mcB_in (c_R_needs_bad l dC dI w cI cZ th n C G X D B bu LG LC ch H1.size v1 v2 1 hn hok) kw519 kw520 kw521 kw29 kw522 ⟨rfl, rfl⟩ (n := 3) (by decide +kernel) ⟨Nat.le_of_ble_eq_true rfl, Nat.le_of_ble_eq_true rfl⟩ hPt.lft hKR hDt.lft hS (va_freeL hDt hS hA) (ci := 4) (q0 := 0) rfl rfl rfl hl.1 rfl (Nat.le_of_ble_eq_true rfl) ⟨by show 60 + i + 1 ≤ 601024; omega, by show 11000 + 6 * i + 6 ≤ 7293034; omega⟩ dL_law_403 (fun r2 x2 H2 locs2 hr2 hP2 hD2 hk2 hS2 => ?_)
          obtain ⟨hPn, hDn⟩ := va_jnL hPt hDt hk2 (va_freeL hDt hS hA) hP2 hD2
          have hS := hS2
          have hP := P_perm (pm_rot _ _) hPn
          have hD := D_perm (pm_rot _ _) hDn
          have hP : va_P (dC, dI) mcCl (mcWL o a q r cI cG la n v C G X D B bu lp u cJ ov ++ mcWR w cI cZ 1 n C G X D B bu LG LC ch) H2 := hP
          have hD : va_D (mcAA s) (mcWL o a q r cI cG la n v C G X D B bu lp u cJ ov ++ mcWR w cI cZ 1 n C G X D B bu LG LC ch) := hD
          refine lv_istore (lv' := [(6, .int r2), (5, .int 1), (4, .int (nI i)), (0, .ref b), (1, .ref o), (2, .ref (w 0)), (3, .ref u)]) hx hb dL_law_406 hl (by decide) rfl (fun ls hl => ?_)
          refine lv_aload_n hx hb dL_law_408 rfl (lv_at hl 5 rfl) ?_
          refine callRV (As := []) (rest := []) ⟨hx, hb, hml, hown, hts⟩ mcB_in (c_R_thrown l dC dI w cI cZ 1 n C G X D B bu LG LC ch) kw494 kw495 kw496 kw29 kw497 ⟨rfl, rfl⟩ (n := 0) (by decide +kernel) ⟨Nat.le_of_ble_eq_true rfl, Nat.le_of_ble_eq_true rfl⟩ (roP_preV (P_perm (pm_rot _ _) hP).lft hKR (ci := 4) (q0 := 0) rfl rfl) rfl hl.1 rfl (Nat.le_of_ble_eq_true rfl) ⟨by show 60 + i + 1 ≤ 601024; omega, by show 11000 + 6 * i + 6 ≤ 7293034; omega⟩ dL_law_409 (fun r3 hr3 => ?_)
          subst hr3
          refine lv_iload hx hb dL_law_412 (lv_at hl 1 rfl) ?_
          refine lv_icmp_eq (tgt := 419) hx hb dL_law_414 (by decide) (fun c9 => ?_) (fun c9 => ?_)
          rotate_left
          · exact absurd (rfl : (nI 1) = 1) c9
          refine lv_iload hx hb dL_law_419 (lv_at hl 1 rfl) ?_
          refine lv_if_ne (tgt := 443) hx hb dL_law_421 (by decide) (fun c10 => ?_) (fun c10 => ?_)
          rotate_left
          · exact absurd c10 (by decide)
          refine lv_goto (tgt := 1110) hx hb dL_law_443 (by decide) ?_
          exact kk _ _ ls ⟨la, n, v, C, G, X, D, B, bu, lp, ov, 1, LG, LC, ch, hI.mono (Nat.le_succ i), hP, hD, hS⟩ (lv_sub hl [2, 3, 4, 5, 6] rfl)
set_option maxHeartbeats 4000000 in
set_option maxRecDepth 100000 in
theorem law_4 {p : Program} {l : Launch} {e : Env} {s : State} {m : MethodId} {below : List Frame} {meth : Method} {c : Code} {H : Heap} {locs : List Loc} {Q : State → Prop} {ls : Array Slot} {dC : Nat → ClassId} {dI : Nat → Nat → Nat} {b L : Nat} {xs : Nat → Int32} {o : Nat} {a q r : Nat → Nat} {cI cG cZ cJ : ClassId} {u : Nat} {w : Nat → Nat} {i : Nat} (Cx : mcCx p l s m c b L xs dC dI cI cG cZ cJ) (hi : i + 4 ≤ L) (hLS : mcLS s dC dI o a q r cI cG cZ cJ u w i H locs) (hl : lv_has ls 7 [(4, .int (nI i)), (0, .ref b), (1, .ref o), (2, .ref (w 0)), (3, .ref u)])
    (kk : ∀ (H : Heap) (locs : List Loc) (ls : Array Slot), mcLS s dC dI o a q r cI cG cZ cJ u w (i + 1) H locs → lv_has ls 7 [(4, .int (nI i)), (0, .ref b), (1, .ref o), (2, .ref (w 0)), (3, .ref u)] → W p l e room_1 s m #[Value.ref b] below meth c H locs (60 + i + 1) (11000 + 6 * i + 6) Q (F0 m 1110 ls [])) : W p l e room_1 s m #[Value.ref b] below meth c H locs (60 + i) (11000 + 6 * i) Q (F0 m 446 ls []) := by
  obtain ⟨hx, hb, hml, hown, hts, hXs, hbl, hlt, hL, hK, hTh0⟩ := Cx
  obtain ⟨la, n, v, C, G, X, D, B, bu, lp, ov, th, LG, LC, ch, hI, hP, hD, hS⟩ := hLS
  have hA : ∀ q : Nat, s.heap.size ≤ q → mcAA s q := fun _ h => h
  have hbA : ¬ mcAA s b := Nat.not_le.mpr hbl
  obtain ⟨hn, hC1, hC, hG, hB, hXn, hDn, hbu, hIA, hvi⟩ := id hI
  have hX : ∀ m, X m < 4096 := fun m => mc_lt12 hn (hXn m)
  have hDD : ∀ m, D m < 4096 := fun m => mc_lt12 hn (hDn m)
  have hv3 : v < 2147483648 := by omega
  have hTh : mcTh s H := hTh0.keep (fun q hq => hS.2.1 q hq (Nat.not_le.mpr hq))
  have hKR := hK.sub (tys' := mcTR cI cZ) [0, 2] rfl
  have hKH := hK.sub (tys' := mcTH cI cG) [0, 1] rfl
  obtain ⟨v1, hv1⟩ : ∃ v, xs (i + 1) = v := ⟨_, rfl⟩
  obtain ⟨v2, hv2⟩ : ∃ v, xs (i + 2) = v := ⟨_, rfl⟩
  obtain ⟨v3, hv3v⟩ : ∃ v, xs (i + 3) = v := ⟨_, rfl⟩
  by_cases hok : (∃ k, k < n ∧ v1 = nI k) ∧ (∃ k, k < n ∧ v2 = nI k) ∧ ¬ v1 = v2 ∧ ((-5000) ≤ v3 ∧ v3 ≤ 5000)
  ·
    obtain ⟨⟨mm, hm, rfl⟩, ⟨oo, ho, rfl⟩, hne, hz⟩ := hok
    obtain ⟨z, hz1, hz2, rfl⟩ := repI v3
    have hzb : -5000 ≤ z ∧ z ≤ 5000 := ⟨(iI_le (a := -5000) (by omega) (by omega) hz1 hz2).mp hz.1, (iI_le (b := 5000) hz1 hz2 (by omega) (by omega)).mp hz.2⟩
    refine lv_aload_n hx hb dL_law_446 rfl (lv_at hl 2 rfl) ?_
    refine lv_aload_n hx hb dL_law_447 rfl (lv_at hl 1 rfl) ?_
    refine lv_iload hx hb dL_law_448 (lv_at hl 0 rfl) ?_
    refine lv_iconst (v := 1) hx hb dL_law_450 (by decide) ?_
    refine lv_iadd hx hb dL_law_451 ?_
    refine lv_topi (fun y1 ey1 => ?_)
    have hy1 : y1 = nI (i + 1) := by rw [ey1]; exact nI_add i 1
    subst hy1
    refine sldN hx hb hXs hbl hbA hS (k := i + 1) (by omega) (by omega) hv1 dL_law_452 ?_
    refine lv_aload_n hx hb dL_law_453 rfl (lv_at hl 1 rfl) ?_
    refine lv_iload hx hb dL_law_454 (lv_at hl 0 rfl) ?_
    refine lv_iconst (v := 2) hx hb dL_law_456 (by decide) ?_
    refine lv_iadd hx hb dL_law_457 ?_
    refine lv_topi (fun y2 ey2 => ?_)
    have hy2 : y2 = nI (i + 2) := by rw [ey2]; exact nI_add i 2
    subst hy2
    refine sldN hx hb hXs hbl hbA hS (k := i + 2) (by omega) (by omega) hv2 dL_law_458 ?_
    refine lv_aload_n hx hb dL_law_459 rfl (lv_at hl 1 rfl) ?_
    refine lv_iload hx hb dL_law_460 (lv_at hl 0 rfl) ?_
    refine lv_iconst (v := 3) hx hb dL_law_462 (by decide) ?_
    refine lv_iadd hx hb dL_law_463 ?_
    refine lv_topi (fun y3 ey3 => ?_)
    have hy3 : y3 = nI (i + 3) := by rw [ey3]; exact nI_add i 3
    subst hy3
    refine sldN hx hb hXs hbl hbA hS (k := i + 3) (by omega) (by omega) hv3v dL_law_464 ?_
    refine lv_aload_n hx hb dL_law_465 rfl (lv_at hl 4 rfl) ?_
    refine callLW (As := [.ref o, .int (nI mm), .int (nI oo), .int (iI z), .ref u]) (rest := []) ⟨hx, hb, hml, hown, hts⟩ mcB_in (c_L_bonus_ok l dC dI o a q r cI cG la n v C G X D B bu lp cZ cJ u ov H.size mm oo z hm ho hn hne hz) kw316 kw317 kw24 kw318 ⟨rfl, rfl⟩ (n := 5) (by decide +kernel) ⟨Nat.le_of_ble_eq_true rfl, Nat.le_of_ble_eq_true rfl⟩ hP.lft hK hD.lft hS (va_freeL hD hS hA) rfl hl.1 rfl (Nat.le_of_ble_eq_true rfl) ⟨by show 60 + i ≤ 601024; omega, by show 11000 + 6 * i ≤ 7293034; omega⟩ dL_law_466 (fun z1 x1 H1 locs1 hz1 hP1 hD1 hk1 hS1 => ?_)
    obtain ⟨r1, y1⟩ := x1
    obtain ⟨hz0, hr1⟩ := hz1
    dsimp only at hr1
    subst hz0
    have hP1 : va_P (dC, dI) mcCl (mcWL o a q r cI cG la n (v + 1) C G X D (mcB2 (mcB2 B mm oo z) oo mm z) bu lp u cJ (vp_updL ov 0 r1.toInt64)) H1 := hP1
    have hD1 : va_D _ (mcWL o a q r cI cG la n (v + 1) C G X D (mcB2 (mcB2 B mm oo z) oo mm z) bu lp u cJ (vp_updL ov 0 r1.toInt64)) := hD1
    obtain ⟨hP, hD⟩ := va_jnL hP hD hk1 (va_freeL hD hS hA) hP1 hD1
    have hS := hS1
    refine lv_istore (lv' := [(5, .int 0), (4, .int (nI i)), (0, .ref b), (1, .ref o), (2, .ref (w 0)), (3, .ref u)]) hx hb dL_law_469 hl (by decide) rfl (fun ls hl => ?_)
    refine lv_aload_n hx hb dL_law_471 rfl (lv_at hl 4 rfl) ?_
    refine lv_aload_n hx hb dL_law_472 rfl (lv_at hl 2 rfl) ?_
    refine lv_iload hx hb dL_law_473 (lv_at hl 1 rfl) ?_
    refine lv_iconst (v := 1) hx hb dL_law_475 (by decide) ?_
    refine lv_iadd hx hb dL_law_476 ?_
    refine lv_topi (fun y4 ey4 => ?_)
    have hy4 : y4 = nI (i + 1) := by rw [ey4]; exact nI_add i 1
    subst hy4
    refine sldN hx hb hXs hbl hbA hS (k := i + 1) (by omega) (by omega) hv1 dL_law_477 ?_
    refine lv_aload_n hx hb dL_law_478 rfl (lv_at hl 2 rfl) ?_
    refine lv_iload hx hb dL_law_479 (lv_at hl 1 rfl) ?_
    refine lv_iconst (v := 2) hx hb dL_law_481 (by decide) ?_
    refine lv_iadd hx hb dL_law_482 ?_
    refine lv_topi (fun y5 ey5 => ?_)
    have hy5 : y5 = nI (i + 2) := by rw [ey5]; exact nI_add i 2
    subst hy5
    refine sldN hx hb hXs hbl hbA hS (k := i + 2) (by omega) (by omega) hv2 dL_law_483 ?_
    refine lv_aload_n hx hb dL_law_484 rfl (lv_at hl 2 rfl) ?_
    refine lv_iload hx hb dL_law_485 (lv_at hl 1 rfl) ?_
    refine lv_iconst (v := 3) hx hb dL_law_487 (by decide) ?_
    refine lv_iadd hx hb dL_law_488 ?_
    refine lv_topi (fun y6 ey6 => ?_)
    have hy6 : y6 = nI (i + 3) := by rw [ey6]; exact nI_add i 3
    subst hy6
    refine sldN hx hb hXs hbl hbA hS (k := i + 3) (by omega) (by omega) hv3v dL_law_489 ?_
    have hPt := P_perm (pm_rot _ _) hP
    have hDt := D_perm (pm_rot _ _) hD
    refine callWXi (As := [.int (nI mm), .int (nI oo), .int (iI z)]) (rest := []) ⟨hx, hb, hml, hown, hts⟩ mcB_in (c_R_bonus_ok l dC dI w cI cZ th n C G X D B bu LG LC ch H1.size mm oo z hn hm ho hne hz) kw523 kw524 kw525 kw29 kw526 ⟨rfl, rfl⟩ (n := 3) (by decide +kernel) ⟨Nat.le_of_ble_eq_true rfl, Nat.le_of_ble_eq_true rfl⟩ hPt.lft hKR hDt.lft hS (va_freeL hDt hS hA) (ci := 4) (q0 := 0) rfl rfl rfl hl.1 rfl (Nat.le_of_ble_eq_true rfl) ⟨by show 60 + i ≤ 601024; omega, by show 11000 + 6 * i ≤ 7293034; omega⟩ dL_law_490 (fun r2 x2 H2 locs2 hr2 hP2 hD2 hk2 hS2 => ?_)
    obtain ⟨hPn, hDn⟩ := va_jnL hPt hDt hk2 (va_freeL hDt hS hA) hP2 hD2
    have hS := hS2
    have hP := P_perm (pm_rot _ _) hPn
    have hD := D_perm (pm_rot _ _) hDn
    have hP : va_P (dC, dI) mcCl (mcWL o a q r cI cG la n (v + 1) C G X D (mcB2 (mcB2 B mm oo z) oo mm z) bu lp u cJ (vp_updL ov 0 r1.toInt64) ++ mcWR w cI cZ 0 n C G X D (mcB2 (mcB2 B mm oo z) oo mm z) bu LG LC ch) H2 := hP
    have hD : va_D (mcAA s) (mcWL o a q r cI cG la n (v + 1) C G X D (mcB2 (mcB2 B mm oo z) oo mm z) bu lp u cJ (vp_updL ov 0 r1.toInt64) ++ mcWR w cI cZ 0 n C G X D (mcB2 (mcB2 B mm oo z) oo mm z) bu LG LC ch) := hD
    refine lv_istore (lv' := [(6, .int r2), (5, .int 0), (4, .int (nI i)), (0, .ref b), (1, .ref o), (2, .ref (w 0)), (3, .ref u)]) hx hb dL_law_493 hl (by decide) rfl (fun ls hl => ?_)
    refine lv_aload_n hx hb dL_law_495 rfl (lv_at hl 5 rfl) ?_
    refine callRV (As := []) (rest := []) ⟨hx, hb, hml, hown, hts⟩ mcB_in (c_R_thrown l dC dI w cI cZ 0 n C G X D (mcB2 (mcB2 B mm oo z) oo mm z) bu LG LC ch) kw494 kw495 kw496 kw29 kw497 ⟨rfl, rfl⟩ (n := 0) (by decide +kernel) ⟨Nat.le_of_ble_eq_true rfl, Nat.le_of_ble_eq_true rfl⟩ (roP_preV (P_perm (pm_rot _ _) hP).lft hKR (ci := 4) (q0 := 0) rfl rfl) rfl hl.1 rfl (Nat.le_of_ble_eq_true rfl) ⟨by show 60 + i ≤ 601024; omega, by show 11000 + 6 * i ≤ 7293034; omega⟩ dL_law_496 (fun r3 hr3 => ?_)
    subst hr3
    refine lv_iload hx hb dL_law_499 (lv_at hl 1 rfl) ?_
    refine lv_icmp_eq (tgt := 506) hx hb dL_law_501 (by decide) (fun c7 => ?_) (fun c7 => ?_)
    rotate_left
    · exact absurd (rfl : (nI 0) = 0) c7
    refine lv_iload hx hb dL_law_506 (lv_at hl 1 rfl) ?_
    refine lv_if_ne (tgt := 523) hx hb dL_law_508 (by decide) (fun c8 => ?_) (fun c8 => ?_)
    · exact absurd (rfl : (0 : Int32) = 0) c8
    ·
      have htie : r1 = r2 := (hr1 : r1 = iI (B mm oo)).trans (hr2 : r2 = iI (B mm oo)).symm
      refine lv_aload_n hx hb dL_law_511 rfl (lv_at hl 6 rfl) ?_
      refine lv_iconst (v := 0) hx hb dL_law_512 (by decide) ?_
      refine va_lald hx hb hK hP 37 3 rfl rfl (i := 0) (vp_in_nI (n := 0) (N := 1) (by decide) (by decide)) dL_law_513 ?_
      refine W.eq (g2 := F0 m 514 ls [.long r1.toInt64]) rfl ?_
      refine lv_iload hx hb dL_law_514 (lv_at hl 0 rfl) ?_
      refine lv_i2l (v := (r2).toInt64) hx hb dL_law_516 rfl ?_
      refine W.lcmp hx hb dL_law_517 ?_
      refine lv_if_eq (tgt := 523) hx hb dL_law_518 (by decide) (fun c9 => ?_) (fun c9 => ?_)
      ·
        refine lv_goto (tgt := 1110) hx hb dL_law_523 (by decide) ?_
        refine W.widen (k := 60 + i + 1) (n := 11000 + 6 * i + 6) (by omega) (by omega) ?_
        exact kk _ _ ls ⟨la, n, (v + 1), C, G, X, D, (mcB2 (mcB2 B mm oo z) oo mm z), bu, lp, (vp_updL ov 0 r1.toInt64), 0, LG, LC, ch, hI.bonus hzb, hP, hD, hS⟩ (lv_sub hl [2, 3, 4, 5, 6] rfl)
      · exact absurd ((lg_cmp_eq _ _).mpr (by rw [htie])) c9
  ·
    refine lv_aload_n hx hb dL_law_446 rfl (lv_at hl 2 rfl) ?_
    refine lv_aload_n hx hb dL_law_447 rfl (lv_at hl 1 rfl) ?_
    refine lv_iload hx hb dL_law_448 (lv_at hl 0 rfl) ?_
    refine lv_iconst (v := 1) hx hb dL_law_450 (by decide) ?_
    refine lv_iadd hx hb dL_law_451 ?_
    refine lv_topi (fun y1 ey1 => ?_)
    have hy1 : y1 = nI (i + 1) := by rw [ey1]; exact nI_add i 1
    subst hy1
    refine sldN hx hb hXs hbl hbA hS (k := i + 1) (by omega) (by omega) hv1 dL_law_452 ?_
    refine lv_aload_n hx hb dL_law_453 rfl (lv_at hl 1 rfl) ?_
    refine lv_iload hx hb dL_law_454 (lv_at hl 0 rfl) ?_
    refine lv_iconst (v := 2) hx hb dL_law_456 (by decide) ?_
    refine lv_iadd hx hb dL_law_457 ?_
    refine lv_topi (fun y2 ey2 => ?_)
    have hy2 : y2 = nI (i + 2) := by rw [ey2]; exact nI_add i 2
    subst hy2
    refine sldN hx hb hXs hbl hbA hS (k := i + 2) (by omega) (by omega) hv2 dL_law_458 ?_
    refine lv_aload_n hx hb dL_law_459 rfl (lv_at hl 1 rfl) ?_
    refine lv_iload hx hb dL_law_460 (lv_at hl 0 rfl) ?_
    refine lv_iconst (v := 3) hx hb dL_law_462 (by decide) ?_
    refine lv_iadd hx hb dL_law_463 ?_
    refine lv_topi (fun y3 ey3 => ?_)
    have hy3 : y3 = nI (i + 3) := by rw [ey3]; exact nI_add i 3
    subst hy3
    refine sldN hx hb hXs hbl hbA hS (k := i + 3) (by omega) (by omega) hv3v dL_law_464 ?_
    refine lv_aload_n hx hb dL_law_465 rfl (lv_at hl 4 rfl) ?_
    refine callLB (As := [.ref o, .int v1, .int v2, .int v3, .ref u]) (rest := []) ⟨hx, hb, hml, hown, hts⟩ mcB_in (c_L_bonus_bad l dC dI o a q r cI cG la n v C G X D B bu lp u hlt v1 v2 v3 hn hok) kw316 kw317 kw24 kw318 ⟨rfl, rfl⟩ (n := 5) (by decide +kernel) ⟨Nat.le_of_ble_eq_true rfl, Nat.le_of_ble_eq_true rfl⟩ hP.lft.lft hKH hTh hS rfl hl.1 rfl (Nat.le_of_ble_eq_true rfl) ⟨by show 60 + i + 1 ≤ 601024; omega, by show 11000 + 6 * i + 6 ≤ 7293034; omega⟩ dL_law_466 (fun H1 locs1 hz1 hk1 hS1 => ?_)
    have hP := P_keep hP hk1
    have hS := hS1
    refine lv_istore (lv' := [(5, .int 1), (4, .int (nI i)), (0, .ref b), (1, .ref o), (2, .ref (w 0)), (3, .ref u)]) hx hb dL_law_469 hl (by decide) rfl (fun ls hl => ?_)
    refine lv_aload_n hx hb dL_law_471 rfl (lv_at hl 4 rfl) ?_
    refine lv_aload_n hx hb dL_law_472 rfl (lv_at hl 2 rfl) ?_
    refine lv_iload hx hb dL_law_473 (lv_at hl 1 rfl) ?_
    refine lv_iconst (v := 1) hx hb dL_law_475 (by decide) ?_
    refine lv_iadd hx hb dL_law_476 ?_
    refine lv_topi (fun y4 ey4 => ?_)
    have hy4 : y4 = nI (i + 1) := by rw [ey4]; exact nI_add i 1
    subst hy4
    refine sldN hx hb hXs hbl hbA hS (k := i + 1) (by omega) (by omega) hv1 dL_law_477 ?_
    refine lv_aload_n hx hb dL_law_478 rfl (lv_at hl 2 rfl) ?_
    refine lv_iload hx hb dL_law_479 (lv_at hl 1 rfl) ?_
    refine lv_iconst (v := 2) hx hb dL_law_481 (by decide) ?_
    refine lv_iadd hx hb dL_law_482 ?_
    refine lv_topi (fun y5 ey5 => ?_)
    have hy5 : y5 = nI (i + 2) := by rw [ey5]; exact nI_add i 2
    subst hy5
    refine sldN hx hb hXs hbl hbA hS (k := i + 2) (by omega) (by omega) hv2 dL_law_483 ?_
    refine lv_aload_n hx hb dL_law_484 rfl (lv_at hl 2 rfl) ?_
    refine lv_iload hx hb dL_law_485 (lv_at hl 1 rfl) ?_
    refine lv_iconst (v := 3) hx hb dL_law_487 (by decide) ?_
    refine lv_iadd hx hb dL_law_488 ?_
    refine lv_topi (fun y6 ey6 => ?_)
    have hy6 : y6 = nI (i + 3) := by rw [ey6]; exact nI_add i 3
    subst hy6
    refine sldN hx hb hXs hbl hbA hS (k := i + 3) (by omega) (by omega) hv3v dL_law_489 ?_
    have hPt := P_perm (pm_rot _ _) hP
    have hDt := D_perm (pm_rot _ _) hD
    refine callWXi (As := [.int v1, .int v2, .int v3]) (rest := []) ⟨hx, hb, hml, hown, hts⟩ mcB_in (c_R_bonus_bad l dC dI w cI cZ th n C G X D B bu LG LC ch H1.size v1 v2 v3 hn hok) kw523 kw524 kw525 kw29 kw526 ⟨rfl, rfl⟩ (n := 3) (by decide +kernel) ⟨Nat.le_of_ble_eq_true rfl, Nat.le_of_ble_eq_true rfl⟩ hPt.lft hKR hDt.lft hS (va_freeL hDt hS hA) (ci := 4) (q0 := 0) rfl rfl rfl hl.1 rfl (Nat.le_of_ble_eq_true rfl) ⟨by show 60 + i + 1 ≤ 601024; omega, by show 11000 + 6 * i + 6 ≤ 7293034; omega⟩ dL_law_490 (fun r2 x2 H2 locs2 hr2 hP2 hD2 hk2 hS2 => ?_)
    obtain ⟨hPn, hDn⟩ := va_jnL hPt hDt hk2 (va_freeL hDt hS hA) hP2 hD2
    have hS := hS2
    have hP := P_perm (pm_rot _ _) hPn
    have hD := D_perm (pm_rot _ _) hDn
    have hP : va_P (dC, dI) mcCl (mcWL o a q r cI cG la n v C G X D B bu lp u cJ ov ++ mcWR w cI cZ 1 n C G X D B bu LG LC ch) H2 := hP
    have hD : va_D (mcAA s) (mcWL o a q r cI cG la n v C G X D B bu lp u cJ ov ++ mcWR w cI cZ 1 n C G X D B bu LG LC ch) := hD
    refine lv_istore (lv' := [(6, .int r2), (5, .int 1), (4, .int (nI i)), (0, .ref b), (1, .ref o), (2, .ref (w 0)), (3, .ref u)]) hx hb dL_law_493 hl (by decide) rfl (fun ls hl => ?_)
    refine lv_aload_n hx hb dL_law_495 rfl (lv_at hl 5 rfl) ?_
    refine callRV (As := []) (rest := []) ⟨hx, hb, hml, hown, hts⟩ mcB_in (c_R_thrown l dC dI w cI cZ 1 n C G X D B bu LG LC ch) kw494 kw495 kw496 kw29 kw497 ⟨rfl, rfl⟩ (n := 0) (by decide +kernel) ⟨Nat.le_of_ble_eq_true rfl, Nat.le_of_ble_eq_true rfl⟩ (roP_preV (P_perm (pm_rot _ _) hP).lft hKR (ci := 4) (q0 := 0) rfl rfl) rfl hl.1 rfl (Nat.le_of_ble_eq_true rfl) ⟨by show 60 + i + 1 ≤ 601024; omega, by show 11000 + 6 * i + 6 ≤ 7293034; omega⟩ dL_law_496 (fun r3 hr3 => ?_)
    subst hr3
    refine lv_iload hx hb dL_law_499 (lv_at hl 1 rfl) ?_
    refine lv_icmp_eq (tgt := 506) hx hb dL_law_501 (by decide) (fun c7 => ?_) (fun c7 => ?_)
    rotate_left
    · exact absurd (rfl : (nI 1) = 1) c7
    refine lv_iload hx hb dL_law_506 (lv_at hl 1 rfl) ?_
    refine lv_if_ne (tgt := 523) hx hb dL_law_508 (by decide) (fun c8 => ?_) (fun c8 => ?_)
    rotate_left
    · exact absurd c8 (by decide)
    refine lv_goto (tgt := 1110) hx hb dL_law_523 (by decide) ?_
    exact kk _ _ ls ⟨la, n, v, C, G, X, D, B, bu, lp, ov, 1, LG, LC, ch, hI.mono (Nat.le_succ i), hP, hD, hS⟩ (lv_sub hl [2, 3, 4, 5, 6] rfl)
