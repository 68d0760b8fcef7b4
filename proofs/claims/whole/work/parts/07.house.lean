/-! the house: its cells, and its methods that only read -/
def mcWH (a : Nat → Nat) (cI cG : ClassId) (n v : Nat) (C G X D : Nat → Nat) (B : Nat → Nat → Int) : va_W :=
  (a 0, .inr (0, [.int (nI n), .int (nI v), .ref (a 1), .ref (a 2), .ref (a 3), .ref (a 4), .ref (a 5)])) :: (a 1, .inl (cI, 12, .inl (fun m => nI (C m)))) :: (a 2, .inl (cI, 12, .inl (fun m => nI (G m)))) :: (a 3, .inl (cI, 12, .inl (fun m => nI (X m)))) :: (a 4, .inl (cI, 12, .inl (fun m => nI (D m)))) :: (a 5, .inl (cG, 12, .inr (.inr (.inr (.inr (fun j => if j < 12 then some (a (6 + j)) else none)))))) :: (List.range 12).map (fun j => (a (6 + j), .inl (cI, 12, .inl (fun k => iI (B j k)))))
theorem mcWH_row {a : Nat → Nat} {cI cG : ClassId} {n v : Nat} {C G X D : Nat → Nat} {B : Nat → Nat → Int} {j : Nat} (hj : j < 12) : (mcWH a cI cG n v C G X D B)[6 + j]? = some (a (6 + j), .inl (cI, 12, .inl (fun k => iI (B j k)))) := by
  unfold mcWH
  rw [show 6 + j = j + 1 + 1 + 1 + 1 + 1 + 1 by omega]
  simp only [List.getElem?_cons_succ, List.getElem?_map, List.getElem?_range hj, Option.map_some]
  rw [show j + 1 + 1 + 1 + 1 + 1 + 1 = 6 + j by omega]
abbrev mcTH (cI cG : ClassId) : List (ClassId × FieldType) := [(cI, .int), (cG, .array .int)]
set_option maxHeartbeats 4000000 in
set_option maxRecDepth 100000 in
theorem c_H_has (l : Launch) (S k : Nat) (hS : S < 2 ^ 31) (hk : k < 32) : Met l yH_has wdH_has ({ frames := 0, cells := 0, slots := 0, locals := 0 }) (nwP [.int (nI S), .int (nI k)]) (vp_Si (fun r => r = if S.testBit k then 1 else 0)) 0 0 (fun _ => False) := by
  refine Met.ofW (cc := bH_has) (maxL := 2) (ret := (some FieldType.boolean)) (by decide) rfl ?_
  intro p e s m args below meth c s₁ BB hml hv
  obtain ⟨rfl, -⟩ := hv
  have hx := BB.exec
  have hb := BB.bytes
  have hr := BB.returns
  have hts := atoms_spec (ws := wdH_has) BB.pre
  have hown : s.vm.findClass RH = some m.cls := findClass_of_methodNamed BB.named
  have hlocks := BB.notSynchronized
  have hl := lv_entry ([.int (nI S), .int (nI k)]) (n := 2) (Nat.le_of_ble_eq_true rfl)
  rw [lg_entry_eq]
  generalize (lg_sl ([.int (nI S), .int (nI k)]) ++ List.replicate (2 - (lg_sl ([.int (nI S), .int (nI k)])).length) Slot.unset).toArray = ls at hl ⊢
  have hl : lv_has ls 2 [(0, .int (nI S)), (1, .int (nI k))] := hl
  refine lv_iload_n hx hb dH_has_0 rfl (lv_at hl 0 rfl) ?_
  refine lv_iload_n hx hb dH_has_1 rfl (lv_at hl 1 rfl) ?_
  refine lv_ishr hx hb dH_has_2 ?_
  refine lv_iconst (v := 1) hx hb dH_has_3 (by decide) ?_
  refine lv_iand hx hb dH_has_4 ?_
  refine lv_if_eq (tgt := 12) hx hb dH_has_5 (by decide) (fun c1 => ?_) (fun c1 => ?_)
  · rw [nI_has hk hS] at c1
    refine lv_iconst (v := 0) hx hb dH_has_12 (by decide) ?_
    exact W.zret hx hb hr rfl (fun t ht hW => ⟨_, rfl, (by split at c1 <;> simp_all), ht⟩) (fun q hq => by cases hq) dH_has_13
  · rw [nI_has hk hS] at c1
    refine lv_iconst (v := 1) hx hb dH_has_8 (by decide) ?_
    refine lv_goto (tgt := 13) hx hb dH_has_9 (by decide) ?_
    exact W.zret hx hb hr rfl (fun t ht hW => ⟨_, rfl, (by split at c1 <;> simp_all), ht⟩) (fun q hq => by cases hq) dH_has_13
set_option maxHeartbeats 4000000 in
set_option maxRecDepth 100000 in
theorem c_H_with (l : Launch) (S k : Nat) (o : Int32) (hS : S < 2 ^ 31) (hk : k < 31) : Met l yH_with wdH_with ({ frames := 0, cells := 0, slots := 0, locals := 0 }) (nwP [.int (nI S), .int (nI k), .int o]) (vp_Si (fun r => r = if o = 0 then nI (S &&& (2 ^ k ^^^ 4294967295)) else nI (S ||| 2 ^ k))) 0 0 (fun _ => False) := by
  refine Met.ofW (cc := bH_with) (maxL := 4) (ret := (some FieldType.int)) (by decide) rfl ?_
  intro p e s m args below meth c s₁ BB hml hv
  obtain ⟨rfl, -⟩ := hv
  have hx := BB.exec
  have hb := BB.bytes
  have hr := BB.returns
  have hts := atoms_spec (ws := wdH_with) BB.pre
  have hown : s.vm.findClass RH = some m.cls := findClass_of_methodNamed BB.named
  have hlocks := BB.notSynchronized
  have hl := lv_entry ([.int (nI S), .int (nI k), .int o]) (n := 4) (Nat.le_of_ble_eq_true rfl)
  rw [lg_entry_eq]
  generalize (lg_sl ([.int (nI S), .int (nI k), .int o]) ++ List.replicate (4 - (lg_sl ([.int (nI S), .int (nI k), .int o])).length) Slot.unset).toArray = ls at hl ⊢
  have hl : lv_has ls 4 [(0, .int (nI S)), (1, .int (nI k)), (2, .int o)] := hl
  refine lv_iconst (v := 1) hx hb dH_with_0 (by decide) ?_
  refine lv_iload_n hx hb dH_with_1 rfl (lv_at hl 1 rfl) ?_
  refine lv_ishl hx hb dH_with_2 ?_
  refine lv_topi (fun x1 ex1 => ?_)
  refine lv_istore_n (lv' := [(3, .int x1), (0, .int (nI S)), (1, .int (nI k)), (2, .int o)]) hx hb dH_with_3 rfl hl (by decide) rfl (fun ls hl => ?_)
  refine lv_iload_n hx hb dH_with_4 rfl (lv_at hl 3 rfl) ?_
  refine lv_if_eq (tgt := 14) hx hb dH_with_5 (by decide) (fun c1 => ?_) (fun c1 => ?_)
  ·
    refine lv_iload_n hx hb dH_with_14 rfl (lv_at hl 1 rfl) ?_
    refine lv_iload_n hx hb dH_with_15 rfl (lv_at hl 0 rfl) ?_
    refine lv_iconst (v := (-1)) hx hb dH_with_16 (by decide) ?_
    refine lv_ixor hx hb dH_with_17 ?_
    refine lv_iand hx hb dH_with_18 ?_
    exact W.iret hx hb hr (fun t ht hW => ⟨_, rfl, (by rw [if_pos c1, ex1, nI_bit hk, nI_drop hS hk]), ht⟩) (fun q hq => by cases hq) dH_with_19
  ·
    refine lv_iload_n hx hb dH_with_8 rfl (lv_at hl 1 rfl) ?_
    refine lv_iload_n hx hb dH_with_9 rfl (lv_at hl 0 rfl) ?_
    refine lv_ior hx hb dH_with_10 ?_
    refine lv_goto (tgt := 19) hx hb dH_with_11 (by decide) ?_
    exact W.iret hx hb hr (fun t ht hW => ⟨_, rfl, (by rw [if_neg c1, ex1, nI_bit hk, nI_or]), ht⟩) (fun q hq => by cases hq) dH_with_19
set_option maxHeartbeats 4000000 in
set_option maxRecDepth 100000 in
theorem c_H_costOf (l : Launch) (dC : Nat → ClassId) (dI : Nat → Nat → Nat) (a : Nat → Nat) (cI cG : ClassId) (n v : Nat) (C G X D : Nat → Nat) (B : Nat → Nat → Int) (S : Nat) (hn : n ≤ 12) (hS : S < 2 ^ 31) : Met l yH_costOf wdH_costOf ({ frames := 1, cells := 0, slots := 0, locals := 21 }) (roP (dC, dI) mcCl (mcWH a cI cG n v C G X D B) (mcTH cI cG) [.ref (a 0), .int (nI S)]) (vp_Si (fun r => r = nI (mc_cost C S n))) 0 0 (fun _ => False) := by
  refine Met.ofW (cc := bH_costOf) (maxL := 4) (ret := (some FieldType.int)) (by decide) rfl ?_
  intro p e s m args below meth c s₁ BB hml hv
  obtain ⟨rfl, hP, hK⟩ := hv
  have hx := BB.exec
  have hb := BB.bytes
  have hr := BB.returns
  have hts := atoms_spec (ws := wdH_costOf) BB.pre
  have hown : s.vm.findClass RH = some m.cls := findClass_of_methodNamed BB.named
  have hlocks := BB.notSynchronized
  have hl := lv_entry ([.ref (a 0), .int (nI S)]) (n := 4) (Nat.le_of_ble_eq_true rfl)
  rw [lg_entry_eq]
  generalize (lg_sl ([.ref (a 0), .int (nI S)]) ++ List.replicate (4 - (lg_sl ([.ref (a 0), .int (nI S)])).length) Slot.unset).toArray = ls at hl ⊢
  have hl : lv_has ls 4 [(0, .ref (a 0)), (1, .int (nI S))] := hl
  refine lv_iconst (v := 0) hx hb dH_costOf_0 (by decide) ?_
  refine lv_istore_n (lv' := [(2, .int 0), (0, .ref (a 0)), (1, .int (nI S))]) hx hb dH_costOf_1 rfl hl (by decide) rfl (fun ls hl => ?_)
  refine lv_iconst (v := 0) hx hb dH_costOf_2 (by decide) ?_
  refine lv_istore_n (lv' := [(3, .int 0), (2, .int 0), (0, .ref (a 0)), (1, .int (nI S))]) hx hb dH_costOf_3 rfl hl (by decide) rfl (fun ls hl => ?_)
  refine lpR (σ := Nat) (fun k => k ≤ n) (fun k => [(0, .ref (a 0)), (1, .int (nI S)), (2, .int (nI (mc_cost C S k))), (3, .int (nI k))]) (fun k => n - k) (fun k ls hI hl ih => ?_) (0) ls (Nat.zero_le _) (lv_sub hl [2, 3, 1, 0] rfl)
  have hl : lv_has ls 4 [(0, .ref (a 0)), (1, .int (nI S)), (2, .int (nI (mc_cost C S k))), (3, .int (nI k))] := hl
  refine lv_iload_n hx hb dH_costOf_4 rfl (lv_at hl 3 rfl) ?_
  refine lv_aload_n hx hb dH_costOf_5 rfl (lv_at hl 0 rfl) ?_
  refine va_get (D := (dC, dI)) (ci := 0) (C := RH) (T := FH) (N := 7) hx hb hts (fun w h => List.mem_cons_of_mem _ (inH w h)) hown hK hP 0 rfl rfl 0 (by decide) (hts _ (List.mem_cons_of_mem _ kw50)) (fun _ h9 => h9) rfl dH_costOf_6 ?_
  refine lv_icmp_ge (tgt := 35) hx hb dH_costOf_9 (by decide) (fun c1 => ?_) (fun c1 => ?_)
  · have hkn : k = n := by have := (nI_leI (by omega) (by omega)).mp c1; omega
    subst hkn
    refine lv_iload_n hx hb dH_costOf_35 rfl (lv_at hl 2 rfl) ?_
    exact W.iret hx hb hr (fun t ht hW => ⟨_, rfl, rfl, ht⟩) (fun q hq => by cases hq) dH_costOf_36
  · have hkn : k < n := by
      rcases Nat.lt_or_ge k n with q | q
      · exact q
      · exact absurd (nI_le q (by omega)) c1
    refine lv_iload_n hx hb dH_costOf_12 rfl (lv_at hl 1 rfl) ?_
    refine lv_iload_n hx hb dH_costOf_13 rfl (lv_at hl 3 rfl) ?_
    refine callRS (As := [.int (nI S), .int (nI k)]) (rest := []) ⟨hx, hb, hml, hown, hts⟩ tlB (c_H_has l S k hS (by omega)) kw171 kw172 kw26 kw173 ⟨rfl, rfl⟩ (n := 2) (by decide +kernel) ⟨Nat.le_of_ble_eq_true rfl, Nat.le_of_ble_eq_true rfl⟩ (nwP_pre) rfl hl.1 rfl (Nat.le_of_ble_eq_true rfl) ⟨Nat.le_of_ble_eq_true rfl, Nat.le_of_ble_eq_true rfl⟩ dH_costOf_14 (fun r1 hr1 => ?_)
    refine lv_if_eq (tgt := 29) hx hb dH_costOf_17 (by decide) (fun c2 => ?_) (fun c2 => ?_)
    · have hbit : S.testBit k = false := by rw [hr1] at c2; split at c2 <;> simp_all
      refine lv_iinc (v := (nI (k + 1))) (lv' := [(3, .int (nI (k + 1))), (0, .ref (a 0)), (1, .int (nI S)), (2, .int (nI (mc_cost C S k)))]) hx hb dH_costOf_29 hl (k := 3) rfl (nI_1 k) (by decide) rfl (fun ls hl => ?_)
      refine lv_goto (tgt := 4) hx hb dH_costOf_32 (by decide) ?_
      exact ih (k + 1) ls hkn (by omega) (lv_sub (l' := [(0, .ref (a 0)), (1, .int (nI S)), (2, .int (nI (mc_cost C S (k + 1)))), (3, .int (nI (k + 1)))]) hl [1, 2, 3, 0] (by simp [lv_pick, mc_cost, hbit]))
    · have hbit : S.testBit k = true := by rw [hr1] at c2; split at c2 <;> simp_all
      refine lv_iload_n hx hb dH_costOf_20 rfl (lv_at hl 2 rfl) ?_
      refine lv_aload_n hx hb dH_costOf_21 rfl (lv_at hl 0 rfl) ?_
      refine va_get (D := (dC, dI)) (ci := 0) (C := RH) (T := FH) (N := 7) hx hb hts (fun w h => List.mem_cons_of_mem _ (inH w h)) hown hK hP 0 rfl rfl 2 (by decide) (hts _ (List.mem_cons_of_mem _ kw56)) (fun _ h9 => h9) rfl dH_costOf_22 ?_
      refine lv_iload_n hx hb dH_costOf_25 rfl (lv_at hl 3 rfl) ?_
      refine ialdN hx hb hK hP 1 0 rfl rfl (k := k) (by omega) (by decide) (v := nI (C k)) rfl dH_costOf_26 ?_
      refine lv_iadd hx hb dH_costOf_27 ?_
      refine lv_topi (fun x9 ex9 => ?_)
      have hx9 : x9 = nI (mc_cost C S (k + 1)) := by rw [ex9, nI_add]; simp [mc_cost, hbit]
      subst hx9
      refine lv_istore_n (lv' := [(2, .int (nI (mc_cost C S (k + 1)))), (0, .ref (a 0)), (1, .int (nI S)), (3, .int (nI k))]) hx hb dH_costOf_28 rfl hl (by decide) rfl (fun ls hl => ?_)
      refine lv_iinc (v := (nI (k + 1))) (lv' := [(3, .int (nI (k + 1))), (2, .int (nI (mc_cost C S (k + 1)))), (0, .ref (a 0)), (1, .int (nI S))]) hx hb dH_costOf_29 hl (k := 3) rfl (nI_1 k) (by decide) rfl (fun ls hl => ?_)
      refine lv_goto (tgt := 4) hx hb dH_costOf_32 (by decide) ?_
      exact ih (k + 1) ls (hkn) (by omega) (lv_sub hl [2, 3, 1, 0] rfl)
set_option maxHeartbeats 4000000 in
set_option maxRecDepth 100000 in
theorem c_H_bonusWithEarlier (l : Launch) (dC : Nat → ClassId) (dI : Nat → Nat → Nat) (a : Nat → Nat) (cI cG : ClassId) (n v : Nat) (C G X D : Nat → Nat) (B : Nat → Nat → Int) (mm S : Nat) (hm : mm < 12) (hS : S < 2 ^ 31) : Met l yH_bonusWithEarlier wdH_bonusWithEarlier ({ frames := 1, cells := 0, slots := 0, locals := 21 }) (roP (dC, dI) mcCl (mcWH a cI cG n v C G X D B) (mcTH cI cG) [.ref (a 0), .int (nI mm), .int (nI S)]) (vp_Si (fun r => r = iI (mc_bon (B mm) S mm))) 0 0 (fun _ => False) := by
  refine Met.ofW (cc := bH_bonusWithEarlier) (maxL := 5) (ret := (some FieldType.int)) (by decide) rfl ?_
  intro p e s m args below meth c s₁ BB hml hv
  obtain ⟨rfl, hP, hK⟩ := hv
  have hx := BB.exec
  have hb := BB.bytes
  have hr := BB.returns
  have hts := atoms_spec (ws := wdH_bonusWithEarlier) BB.pre
  have hown : s.vm.findClass RH = some m.cls := findClass_of_methodNamed BB.named
  have hlocks := BB.notSynchronized
  have hl := lv_entry ([.ref (a 0), .int (nI mm), .int (nI S)]) (n := 5) (Nat.le_of_ble_eq_true rfl)
  rw [lg_entry_eq]
  generalize (lg_sl ([.ref (a 0), .int (nI mm), .int (nI S)]) ++ List.replicate (5 - (lg_sl ([.ref (a 0), .int (nI mm), .int (nI S)])).length) Slot.unset).toArray = ls at hl ⊢
  have hl : lv_has ls 5 [(0, .ref (a 0)), (1, .int (nI mm)), (2, .int (nI S))] := hl
  refine lv_iconst (v := 0) hx hb dH_bonusWithEarlier_0 (by decide) ?_
  refine lv_istore_n (lv' := [(3, .int 0), (0, .ref (a 0)), (1, .int (nI mm)), (2, .int (nI S))]) hx hb dH_bonusWithEarlier_1 rfl hl (by decide) rfl (fun ls hl => ?_)
  refine lv_iconst (v := 0) hx hb dH_bonusWithEarlier_2 (by decide) ?_
  refine lv_istore (lv' := [(4, .int 0), (3, .int 0), (0, .ref (a 0)), (1, .int (nI mm)), (2, .int (nI S))]) hx hb dH_bonusWithEarlier_3 hl (by decide) rfl (fun ls hl => ?_)
  refine lpR (σ := Nat) (fun k => k ≤ mm) (fun k => [(0, .ref (a 0)), (1, .int (nI mm)), (2, .int (nI S)), (3, .int (iI (mc_bon (B mm) S k))), (4, .int (nI k))]) (fun k => mm - k) (fun k ls hI hl ih => ?_) (0) ls (Nat.zero_le _) (lv_sub hl [2, 3, 4, 1, 0] rfl)
  have hl : lv_has ls 5 [(0, .ref (a 0)), (1, .int (nI mm)), (2, .int (nI S)), (3, .int (iI (mc_bon (B mm) S k))), (4, .int (nI k))] := hl
  refine lv_iload hx hb dH_bonusWithEarlier_5 (lv_at hl 4 rfl) ?_
  refine lv_iload_n hx hb dH_bonusWithEarlier_7 rfl (lv_at hl 1 rfl) ?_
  refine lv_icmp_ge (tgt := 38) hx hb dH_bonusWithEarlier_8 (by decide) (fun c1 => ?_) (fun c1 => ?_)
  · have hkn : k = mm := by have := (nI_leI (by omega) (by omega)).mp c1; omega
    subst hkn
    refine lv_iload_n hx hb dH_bonusWithEarlier_38 rfl (lv_at hl 3 rfl) ?_
    exact W.iret hx hb hr (fun t ht hW => ⟨_, rfl, rfl, ht⟩) (fun q hq => by cases hq) dH_bonusWithEarlier_39
  · have hkn : k < mm := by
      rcases Nat.lt_or_ge k mm with q | q
      · exact q
      · exact absurd (nI_le q (by omega)) c1
    refine lv_iload_n hx hb dH_bonusWithEarlier_11 rfl (lv_at hl 2 rfl) ?_
    refine lv_iload hx hb dH_bonusWithEarlier_12 (lv_at hl 4 rfl) ?_
    refine callRS (As := [.int (nI S), .int (nI k)]) (rest := []) ⟨hx, hb, hml, hown, hts⟩ tlB (c_H_has l S k hS (by omega)) kw171 kw172 kw26 kw173 ⟨rfl, rfl⟩ (n := 2) (by decide +kernel) ⟨Nat.le_of_ble_eq_true rfl, Nat.le_of_ble_eq_true rfl⟩ (nwP_pre) rfl hl.1 rfl (Nat.le_of_ble_eq_true rfl) ⟨Nat.le_of_ble_eq_true rfl, Nat.le_of_ble_eq_true rfl⟩ dH_bonusWithEarlier_14 (fun r1 hr1 => ?_)
    refine lv_if_eq (tgt := 32) hx hb dH_bonusWithEarlier_17 (by decide) (fun c2 => ?_) (fun c2 => ?_)
    · have hbit : S.testBit k = false := by rw [hr1] at c2; split at c2 <;> simp_all
      refine lv_iinc (v := (nI (k + 1))) (lv' := [(4, .int (nI (k + 1))), (0, .ref (a 0)), (1, .int (nI mm)), (2, .int (nI S)), (3, .int (iI (mc_bon (B mm) S k)))]) hx hb dH_bonusWithEarlier_32 hl (k := 4) rfl (nI_1 k) (by decide) rfl (fun ls hl => ?_)
      refine lv_goto (tgt := 5) hx hb dH_bonusWithEarlier_35 (by decide) ?_
      exact ih (k + 1) ls hkn (by omega) (lv_sub (l' := [(0, .ref (a 0)), (1, .int (nI mm)), (2, .int (nI S)), (3, .int (iI (mc_bon (B mm) S (k + 1)))), (4, .int (nI (k + 1)))]) hl [1, 2, 3, 4, 0] (by simp [lv_pick, mc_bon, hbit]))
    · have hbit : S.testBit k = true := by rw [hr1] at c2; split at c2 <;> simp_all
      refine lv_iload_n hx hb dH_bonusWithEarlier_20 rfl (lv_at hl 3 rfl) ?_
      refine lv_aload_n hx hb dH_bonusWithEarlier_21 rfl (lv_at hl 0 rfl) ?_
      refine va_get (D := (dC, dI)) (ci := 0) (C := RH) (T := FH) (N := 7) hx hb hts (fun w h => List.mem_cons_of_mem _ (inH w h)) hown hK hP 0 rfl rfl 6 (by decide) (hts _ (List.mem_cons_of_mem _ kw64)) (fun _ h9 => h9) rfl dH_bonusWithEarlier_22 ?_
      refine lv_iload_n hx hb dH_bonusWithEarlier_25 rfl (lv_at hl 1 rfl) ?_
      refine aldaN hx hb hK hP 5 1 rfl rfl (k := mm) hm (by decide) (r := (a (6 + mm))) (if_pos hm) dH_bonusWithEarlier_26 ?_
      refine lv_iload hx hb dH_bonusWithEarlier_27 (lv_at hl 4 rfl) ?_
      refine ialdN hx hb hK hP (6 + mm) 0 (mcWH_row hm) rfl (k := k) (by omega) (by decide) (v := iI (B mm k)) rfl dH_bonusWithEarlier_29 ?_
      refine lv_iadd hx hb dH_bonusWithEarlier_30 ?_
      refine lv_topi (fun y1 ey1 => ?_)
      have hy1 : y1 = iI (mc_bon (B mm) S (k + 1)) := by rw [ey1, iI_add]; simp [mc_bon, hbit]
      subst hy1
      refine lv_istore_n (lv' := [(3, .int (iI (mc_bon (B mm) S (k + 1)))), (0, .ref (a 0)), (1, .int (nI mm)), (2, .int (nI S)), (4, .int (nI k))]) hx hb dH_bonusWithEarlier_31 rfl hl (by decide) rfl (fun ls hl => ?_)
      refine lv_iinc (v := (nI (k + 1))) (lv' := [(4, .int (nI (k + 1))), (3, .int (iI (mc_bon (B mm) S (k + 1)))), (0, .ref (a 0)), (1, .int (nI mm)), (2, .int (nI S))]) hx hb dH_bonusWithEarlier_32 hl (k := 4) rfl (nI_1 k) (by decide) rfl (fun ls hl => ?_)
      refine lv_goto (tgt := 5) hx hb dH_bonusWithEarlier_35 (by decide) ?_
      exact ih (k + 1) ls (hkn) (by omega) (lv_sub hl [2, 3, 4, 1, 0] rfl)
set_option maxHeartbeats 4000000 in
set_option maxRecDepth 100000 in
theorem c_H_gainOf (l : Launch) (dC : Nat → ClassId) (dI : Nat → Nat → Nat) (a : Nat → Nat) (cI cG : ClassId) (n v : Nat) (C G X D : Nat → Nat) (B : Nat → Nat → Int) (S : Nat) (hn : n ≤ 12) (hS : S < 2 ^ 31) : Met l yH_gainOf wdH_gainOf ({ frames := 2, cells := 0, slots := 0, locals := 45 }) (roP (dC, dI) mcCl (mcWH a cI cG n v C G X D B) (mcTH cI cG) [.ref (a 0), .int (nI S)]) (vp_Si (fun r => r = iI (mc_gain G B S n))) 0 0 (fun _ => False) := by
  refine Met.ofW (cc := bH_gainOf) (maxL := 4) (ret := (some FieldType.int)) (by decide) rfl ?_
  intro p e s m args below meth c s₁ BB hml hv
  obtain ⟨rfl, hP, hK⟩ := hv
  have hx := BB.exec
  have hb := BB.bytes
  have hr := BB.returns
  have hts := atoms_spec (ws := wdH_gainOf) BB.pre
  have hown : s.vm.findClass RH = some m.cls := findClass_of_methodNamed BB.named
  have hlocks := BB.notSynchronized
  have hl := lv_entry ([.ref (a 0), .int (nI S)]) (n := 4) (Nat.le_of_ble_eq_true rfl)
  rw [lg_entry_eq]
  generalize (lg_sl ([.ref (a 0), .int (nI S)]) ++ List.replicate (4 - (lg_sl ([.ref (a 0), .int (nI S)])).length) Slot.unset).toArray = ls at hl ⊢
  have hl : lv_has ls 4 [(0, .ref (a 0)), (1, .int (nI S))] := hl
  refine lv_iconst (v := 0) hx hb dH_gainOf_0 (by decide) ?_
  refine lv_istore_n (lv' := [(2, .int 0), (0, .ref (a 0)), (1, .int (nI S))]) hx hb dH_gainOf_1 rfl hl (by decide) rfl (fun ls hl => ?_)
  refine lv_iconst (v := 0) hx hb dH_gainOf_2 (by decide) ?_
  refine lv_istore_n (lv' := [(3, .int 0), (2, .int 0), (0, .ref (a 0)), (1, .int (nI S))]) hx hb dH_gainOf_3 rfl hl (by decide) rfl (fun ls hl => ?_)
  refine lpR (σ := Nat) (fun k => k ≤ n) (fun k => [(0, .ref (a 0)), (1, .int (nI S)), (2, .int (iI (mc_gain G B S k))), (3, .int (nI k))]) (fun k => n - k) (fun k ls hI hl ih => ?_) (0) ls (Nat.zero_le _) (lv_sub hl [2, 3, 1, 0] rfl)
  have hl : lv_has ls 4 [(0, .ref (a 0)), (1, .int (nI S)), (2, .int (iI (mc_gain G B S k))), (3, .int (nI k))] := hl
  refine lv_iload_n hx hb dH_gainOf_4 rfl (lv_at hl 3 rfl) ?_
  refine lv_aload_n hx hb dH_gainOf_5 rfl (lv_at hl 0 rfl) ?_
  refine va_get (D := (dC, dI)) (ci := 0) (C := RH) (T := FH) (N := 7) hx hb hts (fun w h => List.mem_cons_of_mem _ (inH w h)) hown hK hP 0 rfl rfl 0 (by decide) (hts _ (List.mem_cons_of_mem _ kw50)) (fun _ h9 => h9) rfl dH_gainOf_6 ?_
  refine lv_icmp_ge (tgt := 42) hx hb dH_gainOf_9 (by decide) (fun c1 => ?_) (fun c1 => ?_)
  · have hkn : k = n := by have := (nI_leI (by omega) (by omega)).mp c1; omega
    subst hkn
    refine lv_iload_n hx hb dH_gainOf_42 rfl (lv_at hl 2 rfl) ?_
    exact W.iret hx hb hr (fun t ht hW => ⟨_, rfl, rfl, ht⟩) (fun q hq => by cases hq) dH_gainOf_43
  · have hkn : k < n := by
      rcases Nat.lt_or_ge k n with q | q
      · exact q
      · exact absurd (nI_le q (by omega)) c1
    refine lv_iload_n hx hb dH_gainOf_12 rfl (lv_at hl 1 rfl) ?_
    refine lv_iload_n hx hb dH_gainOf_13 rfl (lv_at hl 3 rfl) ?_
    refine callRS (As := [.int (nI S), .int (nI k)]) (rest := []) ⟨hx, hb, hml, hown, hts⟩ tlB (c_H_has l S k hS (by omega)) kw171 kw172 kw26 kw173 ⟨rfl, rfl⟩ (n := 2) (by decide +kernel) ⟨Nat.le_of_ble_eq_true rfl, Nat.le_of_ble_eq_true rfl⟩ (nwP_pre) rfl hl.1 rfl (Nat.le_of_ble_eq_true rfl) ⟨Nat.le_of_ble_eq_true rfl, Nat.le_of_ble_eq_true rfl⟩ dH_gainOf_14 (fun r1 hr1 => ?_)
    refine lv_if_eq (tgt := 36) hx hb dH_gainOf_17 (by decide) (fun c2 => ?_) (fun c2 => ?_)
    · have hbit : S.testBit k = false := by rw [hr1] at c2; split at c2 <;> simp_all
      refine lv_iinc (v := (nI (k + 1))) (lv' := [(3, .int (nI (k + 1))), (0, .ref (a 0)), (1, .int (nI S)), (2, .int (iI (mc_gain G B S k)))]) hx hb dH_gainOf_36 hl (k := 3) rfl (nI_1 k) (by decide) rfl (fun ls hl => ?_)
      refine lv_goto (tgt := 4) hx hb dH_gainOf_39 (by decide) ?_
      exact ih (k + 1) ls hkn (by omega) (lv_sub (l' := [(0, .ref (a 0)), (1, .int (nI S)), (2, .int (iI (mc_gain G B S (k + 1)))), (3, .int (nI (k + 1)))]) hl [1, 2, 3, 0] (by simp [lv_pick, mc_gain, hbit]))
    · have hbit : S.testBit k = true := by rw [hr1] at c2; split at c2 <;> simp_all
      refine lv_iload_n hx hb dH_gainOf_20 rfl (lv_at hl 2 rfl) ?_
      refine lv_aload_n hx hb dH_gainOf_21 rfl (lv_at hl 0 rfl) ?_
      refine va_get (D := (dC, dI)) (ci := 0) (C := RH) (T := FH) (N := 7) hx hb hts (fun w h => List.mem_cons_of_mem _ (inH w h)) hown hK hP 0 rfl rfl 3 (by decide) (hts _ (List.mem_cons_of_mem _ kw58)) (fun _ h9 => h9) rfl dH_gainOf_22 ?_
      refine lv_iload_n hx hb dH_gainOf_25 rfl (lv_at hl 3 rfl) ?_
      refine ialdN hx hb hK hP 2 0 rfl rfl (k := k) (by omega) (by decide) (v := nI (G k)) rfl dH_gainOf_26 ?_
      refine lv_aload_n hx hb dH_gainOf_27 rfl (lv_at hl 0 rfl) ?_
      refine lv_iload_n hx hb dH_gainOf_28 rfl (lv_at hl 3 rfl) ?_
      refine lv_iload_n hx hb dH_gainOf_29 rfl (lv_at hl 1 rfl) ?_
      refine callRV (As := [.int (nI k), .int (nI S)]) (rest := [.int (nI (G k)), .int (iI (mc_gain G B S k))]) ⟨hx, hb, hml, hown, hts⟩ tlB (c_H_bonusWithEarlier l dC dI a cI cG n v C G X D B k S (by omega) hS) kw353 kw354 kw7 kw26 kw355 ⟨rfl, rfl⟩ (n := 2) (by decide +kernel) ⟨Nat.le_of_ble_eq_true rfl, Nat.le_of_ble_eq_true rfl⟩ (roP_preV hP hK (ci := 0) (q0 := 0) rfl rfl) rfl hl.1 rfl (Nat.le_of_ble_eq_true rfl) ⟨Nat.le_of_ble_eq_true rfl, Nat.le_of_ble_eq_true rfl⟩ dH_gainOf_30 (fun r2 hr2 => ?_)
      refine lv_iadd hx hb dH_gainOf_33 ?_
      refine lv_iadd hx hb dH_gainOf_34 ?_
      refine lv_topi (fun y1 ey1 => ?_)
      have hy1 : y1 = iI (mc_gain G B S (k + 1)) := by rw [ey1, hr2, ← iI_nat, iI_add, iI_add]; simp [mc_gain, hbit]
      subst hy1
      refine lv_istore_n (lv' := [(2, .int (iI (mc_gain G B S (k + 1)))), (0, .ref (a 0)), (1, .int (nI S)), (3, .int (nI k))]) hx hb dH_gainOf_35 rfl hl (by decide) rfl (fun ls hl => ?_)
      refine lv_iinc (v := (nI (k + 1))) (lv' := [(3, .int (nI (k + 1))), (2, .int (iI (mc_gain G B S (k + 1)))), (0, .ref (a 0)), (1, .int (nI S))]) hx hb dH_gainOf_36 hl (k := 3) rfl (nI_1 k) (by decide) rfl (fun ls hl => ?_)
      refine lv_goto (tgt := 4) hx hb dH_gainOf_39 (by decide) ?_
      exact ih (k + 1) ls (hkn) (by omega) (lv_sub hl [2, 3, 1, 0] rfl)
set_option maxHeartbeats 4000000 in
set_option maxRecDepth 100000 in
theorem c_H_withItsNeeds (l : Launch) (dC : Nat → ClassId) (dI : Nat → Nat → Nat) (a : Nat → Nat) (cI cG : ClassId) (n v : Nat) (C G X D : Nat → Nat) (B : Nat → Nat → Int) (S : Nat) (hn : n ≤ 12) (hS : S < 2 ^ 31) : Met l yH_withItsNeeds wdH_withItsNeeds ({ frames := 1, cells := 0, slots := 0, locals := 21 }) (roP (dC, dI) mcCl (mcWH a cI cG n v C G X D B) (mcTH cI cG) [.ref (a 0), .int (nI S)]) (vp_Si (fun r => r = nI (mc_nd D S S n))) 0 0 (fun _ => False) := by
  refine Met.ofW (cc := bH_withItsNeeds) (maxL := 4) (ret := (some FieldType.int)) (by decide) rfl ?_
  intro p e s m args below meth c s₁ BB hml hv
  obtain ⟨rfl, hP, hK⟩ := hv
  have hx := BB.exec
  have hb := BB.bytes
  have hr := BB.returns
  have hts := atoms_spec (ws := wdH_withItsNeeds) BB.pre
  have hown : s.vm.findClass RH = some m.cls := findClass_of_methodNamed BB.named
  have hlocks := BB.notSynchronized
  have hl := lv_entry ([.ref (a 0), .int (nI S)]) (n := 4) (Nat.le_of_ble_eq_true rfl)
  rw [lg_entry_eq]
  generalize (lg_sl ([.ref (a 0), .int (nI S)]) ++ List.replicate (4 - (lg_sl ([.ref (a 0), .int (nI S)])).length) Slot.unset).toArray = ls at hl ⊢
  have hl : lv_has ls 4 [(0, .ref (a 0)), (1, .int (nI S))] := hl
  refine lv_iload_n hx hb dH_withItsNeeds_0 rfl (lv_at hl 1 rfl) ?_
  refine lv_istore_n (lv' := [(2, .int (nI S)), (0, .ref (a 0)), (1, .int (nI S))]) hx hb dH_withItsNeeds_1 rfl hl (by decide) rfl (fun ls hl => ?_)
  refine lv_iconst (v := 0) hx hb dH_withItsNeeds_2 (by decide) ?_
  refine lv_istore_n (lv' := [(3, .int 0), (2, .int (nI S)), (0, .ref (a 0)), (1, .int (nI S))]) hx hb dH_withItsNeeds_3 rfl hl (by decide) rfl (fun ls hl => ?_)
  refine lpR (σ := Nat) (fun k => k ≤ n) (fun k => [(0, .ref (a 0)), (1, .int (nI S)), (2, .int (nI (mc_nd D S S k))), (3, .int (nI k))]) (fun k => n - k) (fun k ls hI hl ih => ?_) (0) ls (Nat.zero_le _) (lv_sub hl [2, 3, 1, 0] rfl)
  have hl : lv_has ls 4 [(0, .ref (a 0)), (1, .int (nI S)), (2, .int (nI (mc_nd D S S k))), (3, .int (nI k))] := hl
  refine lv_iload_n hx hb dH_withItsNeeds_4 rfl (lv_at hl 3 rfl) ?_
  refine lv_aload_n hx hb dH_withItsNeeds_5 rfl (lv_at hl 0 rfl) ?_
  refine va_get (D := (dC, dI)) (ci := 0) (C := RH) (T := FH) (N := 7) hx hb hts (fun w h => List.mem_cons_of_mem _ (inH w h)) hown hK hP 0 rfl rfl 0 (by decide) (hts _ (List.mem_cons_of_mem _ kw50)) (fun _ h9 => h9) rfl dH_withItsNeeds_6 ?_
  refine lv_icmp_ge (tgt := 35) hx hb dH_withItsNeeds_9 (by decide) (fun c1 => ?_) (fun c1 => ?_)
  · have hkn : k = n := by have := (nI_leI (by omega) (by omega)).mp c1; omega
    subst hkn
    refine lv_iload_n hx hb dH_withItsNeeds_35 rfl (lv_at hl 2 rfl) ?_
    exact W.iret hx hb hr (fun t ht hW => ⟨_, rfl, rfl, ht⟩) (fun q hq => by cases hq) dH_withItsNeeds_36
  · have hkn : k < n := by
      rcases Nat.lt_or_ge k n with q | q
      · exact q
      · exact absurd (nI_le q (by omega)) c1
    refine lv_iload_n hx hb dH_withItsNeeds_12 rfl (lv_at hl 1 rfl) ?_
    refine lv_iload_n hx hb dH_withItsNeeds_13 rfl (lv_at hl 3 rfl) ?_
    refine callRS (As := [.int (nI S), .int (nI k)]) (rest := []) ⟨hx, hb, hml, hown, hts⟩ tlB (c_H_has l S k hS (by omega)) kw171 kw172 kw26 kw173 ⟨rfl, rfl⟩ (n := 2) (by decide +kernel) ⟨Nat.le_of_ble_eq_true rfl, Nat.le_of_ble_eq_true rfl⟩ (nwP_pre) rfl hl.1 rfl (Nat.le_of_ble_eq_true rfl) ⟨Nat.le_of_ble_eq_true rfl, Nat.le_of_ble_eq_true rfl⟩ dH_withItsNeeds_14 (fun r1 hr1 => ?_)
    refine lv_if_eq (tgt := 29) hx hb dH_withItsNeeds_17 (by decide) (fun c2 => ?_) (fun c2 => ?_)
    · have hbit : S.testBit k = false := by rw [hr1] at c2; split at c2 <;> simp_all
      refine lv_iinc (v := (nI (k + 1))) (lv' := [(3, .int (nI (k + 1))), (0, .ref (a 0)), (1, .int (nI S)), (2, .int (nI (mc_nd D S S k)))]) hx hb dH_withItsNeeds_29 hl (k := 3) rfl (nI_1 k) (by decide) rfl (fun ls hl => ?_)
      refine lv_goto (tgt := 4) hx hb dH_withItsNeeds_32 (by decide) ?_
      exact ih (k + 1) ls hkn (by omega) (lv_sub (l' := [(0, .ref (a 0)), (1, .int (nI S)), (2, .int (nI (mc_nd D S S (k + 1)))), (3, .int (nI (k + 1)))]) hl [1, 2, 3, 0] (by simp [lv_pick, mc_nd, hbit]))
    · have hbit : S.testBit k = true := by rw [hr1] at c2; split at c2 <;> simp_all
      refine lv_iload_n hx hb dH_withItsNeeds_20 rfl (lv_at hl 2 rfl) ?_
      refine lv_aload_n hx hb dH_withItsNeeds_21 rfl (lv_at hl 0 rfl) ?_
      refine va_get (D := (dC, dI)) (ci := 0) (C := RH) (T := FH) (N := 7) hx hb hts (fun w h => List.mem_cons_of_mem _ (inH w h)) hown hK hP 0 rfl rfl 5 (by decide) (hts _ (List.mem_cons_of_mem _ kw62)) (fun _ h9 => h9) rfl dH_withItsNeeds_22 ?_
      refine lv_iload_n hx hb dH_withItsNeeds_25 rfl (lv_at hl 3 rfl) ?_
      refine ialdN hx hb hK hP 4 0 rfl rfl (k := k) (by omega) (by decide) (v := nI (D k)) rfl dH_withItsNeeds_26 ?_
      refine lv_ior hx hb dH_withItsNeeds_27 ?_
      refine lv_topi (fun y1 ey1 => ?_)
      have hy1 : y1 = nI (mc_nd D S S (k + 1)) := by rw [ey1, nI_or]; simp [mc_nd, hbit]
      subst hy1
      refine lv_istore_n (lv' := [(2, .int (nI (mc_nd D S S (k + 1)))), (0, .ref (a 0)), (1, .int (nI S)), (3, .int (nI k))]) hx hb dH_withItsNeeds_28 rfl hl (by decide) rfl (fun ls hl => ?_)
      refine lv_iinc (v := (nI (k + 1))) (lv' := [(3, .int (nI (k + 1))), (2, .int (nI (mc_nd D S S (k + 1)))), (0, .ref (a 0)), (1, .int (nI S))]) hx hb dH_withItsNeeds_29 hl (k := 3) rfl (nI_1 k) (by decide) rfl (fun ls hl => ?_)
      refine lv_goto (tgt := 4) hx hb dH_withItsNeeds_32 (by decide) ?_
      exact ih (k + 1) ls (hkn) (by omega) (lv_sub hl [2, 3, 1, 0] rfl)
theorem mc_itr_small {n : Nat} {D : Nat → Nat} {m : Nat} (hm : m < n) (hn : n ≤ 12) (hD : ∀ m j, (D m).testBit j = true → j < n) (k : Nat) : mc_itr n D (2 ^ m) k < 2 ^ n := by
  apply Nat.lt_pow_two_of_testBit
  intro i hi
  cases hb : (mc_itr n D (2 ^ m) k).testBit i with
  | false => rfl
  | true =>
    have := mc_itr_lt (n := n) (D := D) (S := 2 ^ m) (fun j hj => by rw [Nat.testBit_two_pow] at hj; have : m = j := by simpa using hj
                                                                     omega) hD k i hb
    omega
theorem mc_pow12 {n S : Nat} (hn : n ≤ 12) (h : S < 2 ^ n) : S < 4096 := Nat.lt_of_lt_of_le h (Nat.pow_le_pow_right (by decide) hn)
set_option maxHeartbeats 4000000 in
set_option maxRecDepth 100000 in
theorem c_H_broughtBy (l : Launch) (dC : Nat → ClassId) (dI : Nat → Nat → Nat) (a : Nat → Nat) (cI cG : ClassId) (n v : Nat) (C G X D : Nat → Nat) (B : Nat → Nat → Int) (mm : Nat) (hn : n ≤ 12) (hm : mm < n) (hDD : ∀ m j, (D m).testBit j = true → j < n) : Met l yH_broughtBy wdH_broughtBy ({ frames := 2, cells := 0, slots := 0, locals := 44 }) (roP (dC, dI) mcCl (mcWH a cI cG n v C G X D B) (mcTH cI cG) [.ref (a 0), .int (nI mm)]) (vp_Si (fun r => r = nI (mc_itr n D (2 ^ mm) n))) 0 0 (fun _ => False) := by
  refine Met.ofW (cc := bH_broughtBy) (maxL := 4) (ret := (some FieldType.int)) (by decide) rfl ?_
  intro p e s m args below meth c s₁ BB hml hv
  obtain ⟨rfl, hP, hK⟩ := hv
  have hx := BB.exec
  have hb := BB.bytes
  have hr := BB.returns
  have hts := atoms_spec (ws := wdH_broughtBy) BB.pre
  have hown : s.vm.findClass RH = some m.cls := findClass_of_methodNamed BB.named
  have hlocks := BB.notSynchronized
  have hl := lv_entry ([.ref (a 0), .int (nI mm)]) (n := 4) (Nat.le_of_ble_eq_true rfl)
  rw [lg_entry_eq]
  generalize (lg_sl ([.ref (a 0), .int (nI mm)]) ++ List.replicate (4 - (lg_sl ([.ref (a 0), .int (nI mm)])).length) Slot.unset).toArray = ls at hl ⊢
  have hl : lv_has ls 4 [(0, .ref (a 0)), (1, .int (nI mm))] := hl
  refine lv_iconst (v := 1) hx hb dH_broughtBy_0 (by decide) ?_
  refine lv_iload_n hx hb dH_broughtBy_1 rfl (lv_at hl 1 rfl) ?_
  refine lv_ishl hx hb dH_broughtBy_2 ?_
  refine lv_topi (fun y1 ey1 => ?_)
  have hy1 : y1 = nI (2 ^ mm) := by rw [ey1, nI_bit (by omega)]
  subst hy1
  refine lv_istore_n (lv' := [(2, .int (nI (2 ^ mm))), (0, .ref (a 0)), (1, .int (nI mm))]) hx hb dH_broughtBy_3 rfl hl (by decide) rfl (fun ls hl => ?_)
  refine lv_iconst (v := 0) hx hb dH_broughtBy_4 (by decide) ?_
  refine lv_istore_n (lv' := [(3, .int 0), (2, .int (nI (2 ^ mm))), (0, .ref (a 0)), (1, .int (nI mm))]) hx hb dH_broughtBy_5 rfl hl (by decide) rfl (fun ls hl => ?_)
  refine lpR (σ := Nat) (fun k => k ≤ n) (fun k => [(0, .ref (a 0)), (1, .int (nI mm)), (2, .int (nI (mc_itr n D (2 ^ mm) k))), (3, .int (nI k))]) (fun k => n - k) (fun k ls hI hl ih => ?_) (0) ls (Nat.zero_le _) (lv_sub hl [2, 3, 1, 0] rfl)
  have hl : lv_has ls 4 [(0, .ref (a 0)), (1, .int (nI mm)), (2, .int (nI (mc_itr n D (2 ^ mm) k))), (3, .int (nI k))] := hl
  refine lv_iload_n hx hb dH_broughtBy_6 rfl (lv_at hl 3 rfl) ?_
  refine lv_aload_n hx hb dH_broughtBy_7 rfl (lv_at hl 0 rfl) ?_
  refine va_get (D := (dC, dI)) (ci := 0) (C := RH) (T := FH) (N := 7) hx hb hts (fun w h => List.mem_cons_of_mem _ (inH w h)) hown hK hP 0 rfl rfl 0 (by decide) (hts _ (List.mem_cons_of_mem _ kw50)) (fun _ h9 => h9) rfl dH_broughtBy_8 ?_
  refine lv_icmp_ge (tgt := 26) hx hb dH_broughtBy_11 (by decide) (fun c1 => ?_) (fun c1 => ?_)
  · have hkn : k = n := by have := (nI_leI (by omega) (by omega)).mp c1; omega
    subst hkn
    refine lv_iload_n hx hb dH_broughtBy_26 rfl (lv_at hl 2 rfl) ?_
    exact W.iret hx hb hr (fun t ht hW => ⟨_, rfl, rfl, ht⟩) (fun q hq => by cases hq) dH_broughtBy_27
  · have hkn : k < n := by
      rcases Nat.lt_or_ge k n with q | q
      · exact q
      · exact absurd (nI_le q (by omega)) c1
    refine lv_aload_n hx hb dH_broughtBy_14 rfl (lv_at hl 0 rfl) ?_
    refine lv_iload_n hx hb dH_broughtBy_15 rfl (lv_at hl 2 rfl) ?_
    refine callRV (As := [.int (nI (mc_itr n D (2 ^ mm) k))]) (rest := []) ⟨hx, hb, hml, hown, hts⟩ tlB (c_H_withItsNeeds l dC dI a cI cG n v C G X D B (mc_itr n D (2 ^ mm) k) hn (by have := mc_pow12 hn (mc_itr_small hm hn hDD k); omega)) kw367 kw368 kw8 kw26 kw369 ⟨rfl, rfl⟩ (n := 1) (by decide +kernel) ⟨Nat.le_of_ble_eq_true rfl, Nat.le_of_ble_eq_true rfl⟩ (roP_preV hP hK (ci := 0) (q0 := 0) rfl rfl) rfl hl.1 rfl (Nat.le_of_ble_eq_true rfl) ⟨Nat.le_of_ble_eq_true rfl, Nat.le_of_ble_eq_true rfl⟩ dH_broughtBy_16 (fun r2 hr2 => ?_)
    have hr2 : r2 = nI (mc_itr n D (2 ^ mm) (k + 1)) := hr2
    subst hr2
    refine lv_istore_n (lv' := [(2, .int (nI (mc_itr n D (2 ^ mm) (k + 1)))), (0, .ref (a 0)), (1, .int (nI mm)), (3, .int (nI k))]) hx hb dH_broughtBy_19 rfl hl (by decide) rfl (fun ls hl => ?_)
    refine lv_iinc (v := (nI (k + 1))) (lv' := [(3, .int (nI (k + 1))), (2, .int (nI (mc_itr n D (2 ^ mm) (k + 1)))), (0, .ref (a 0)), (1, .int (nI mm))]) hx hb dH_broughtBy_20 hl (k := 3) rfl (nI_1 k) (by decide) rfl (fun ls hl => ?_)
    refine lv_goto (tgt := 6) hx hb dH_broughtBy_23 (by decide) ?_
    exact ih (k + 1) ls (hkn) (by omega) (lv_sub hl [2, 3, 1, 0] rfl)
def mcZ (P : Prop) (r : Int32) : Prop := (r = 1 ∧ P) ∨ (r = 0 ∧ ¬ P)
theorem nI_and0 {x y : Nat} (hx : x < 2 ^ 31) : (nI x &&& nI y = 0) ↔ x &&& y = 0 := by
  have hle : x &&& y ≤ x := Nat.and_le_left
  rw [nI_and, show (0 : Int32) = nI 0 from rfl, nI_eq (by omega) (by omega)]
set_option maxHeartbeats 4000000 in
set_option maxRecDepth 100000 in
theorem c_H_allows (l : Launch) (dC : Nat → ClassId) (dI : Nat → Nat → Nat) (a : Nat → Nat) (cI cG : ClassId) (n v : Nat) (C G X D : Nat → Nat) (B : Nat → Nat → Int) (S : Nat) (hn : n ≤ 12) (hS : S < 2 ^ 31) (hX : ∀ m, X m < 2 ^ 31) (hDD : ∀ m, D m < 2 ^ 31) : Met l yH_allows wdH_allows ({ frames := 1, cells := 0, slots := 0, locals := 21 }) (roP (dC, dI) mcCl (mcWH a cI cG n v C G X D B) (mcTH cI cG) [.ref (a 0), .int (nI S)]) (vp_Si (fun r => mcZ (mc_law n X D S) r)) 0 0 (fun _ => False) := by
  refine Met.ofW (cc := bH_allows) (maxL := 3) (ret := (some FieldType.boolean)) (by decide) rfl ?_
  intro p e s m args below meth c s₁ BB hml hv
  obtain ⟨rfl, hP, hK⟩ := hv
  have hx := BB.exec
  have hb := BB.bytes
  have hr := BB.returns
  have hts := atoms_spec (ws := wdH_allows) BB.pre
  have hown : s.vm.findClass RH = some m.cls := findClass_of_methodNamed BB.named
  have hlocks := BB.notSynchronized
  have hl := lv_entry ([.ref (a 0), .int (nI S)]) (n := 3) (Nat.le_of_ble_eq_true rfl)
  rw [lg_entry_eq]
  generalize (lg_sl ([.ref (a 0), .int (nI S)]) ++ List.replicate (3 - (lg_sl ([.ref (a 0), .int (nI S)])).length) Slot.unset).toArray = ls at hl ⊢
  have hl : lv_has ls 3 [(0, .ref (a 0)), (1, .int (nI S))] := hl
  refine lv_iconst (v := 0) hx hb dH_allows_0 (by decide) ?_
  refine lv_istore_n (lv' := [(2, .int 0), (0, .ref (a 0)), (1, .int (nI S))]) hx hb dH_allows_1 rfl hl (by decide) rfl (fun ls hl => ?_)
  refine lpR (σ := Nat) (fun k => k ≤ n ∧ ∀ m, m < k → S.testBit m = true → X m &&& S = 0 ∧ D m &&& S = D m) (fun k => [(0, .ref (a 0)), (1, .int (nI S)), (2, .int (nI k))]) (fun k => n - k) (fun k ls hI hl ih => ?_) (0) ls (⟨Nat.zero_le _, fun m h => absurd h (Nat.not_lt_zero m)⟩) (lv_sub hl [1, 2, 0] rfl)
  have hl : lv_has ls 3 [(0, .ref (a 0)), (1, .int (nI S)), (2, .int (nI k))] := hl
  obtain ⟨hk, hall⟩ := hI
  refine lv_iload_n hx hb dH_allows_2 rfl (lv_at hl 2 rfl) ?_
  refine lv_aload_n hx hb dH_allows_3 rfl (lv_at hl 0 rfl) ?_
  refine va_get (D := (dC, dI)) (ci := 0) (C := RH) (T := FH) (N := 7) hx hb hts (fun w h => List.mem_cons_of_mem _ (inH w h)) hown hK hP 0 rfl rfl 0 (by decide) (hts _ (List.mem_cons_of_mem _ kw50)) (fun _ h9 => h9) rfl dH_allows_4 ?_
  refine lv_icmp_ge (tgt := 50) hx hb dH_allows_7 (by decide) (fun c1 => ?_) (fun c1 => ?_)
  · have hkn : k = n := by have := (nI_leI (by omega) (by omega)).mp c1; omega
    subst hkn
    refine lv_iconst (v := 1) hx hb dH_allows_50 (by decide) ?_
    exact W.zret hx hb hr rfl (fun t ht hW => ⟨_, rfl, Or.inl ⟨rfl, hall⟩, ht⟩) (fun q hq => by cases hq) dH_allows_51
  · have hkn : k < n := by
      rcases Nat.lt_or_ge k n with q | q
      · exact q
      · exact absurd (nI_le q (by omega)) c1
    refine lv_iload_n hx hb dH_allows_10 rfl (lv_at hl 1 rfl) ?_
    refine lv_iload_n hx hb dH_allows_11 rfl (lv_at hl 2 rfl) ?_
    refine callRS (As := [.int (nI S), .int (nI k)]) (rest := []) ⟨hx, hb, hml, hown, hts⟩ tlB (c_H_has l S k hS (by omega)) kw171 kw172 kw26 kw173 ⟨rfl, rfl⟩ (n := 2) (by decide +kernel) ⟨Nat.le_of_ble_eq_true rfl, Nat.le_of_ble_eq_true rfl⟩ (nwP_pre) rfl hl.1 rfl (Nat.le_of_ble_eq_true rfl) ⟨Nat.le_of_ble_eq_true rfl, Nat.le_of_ble_eq_true rfl⟩ dH_allows_12 (fun r1 hr1 => ?_)
    refine lv_if_eq (tgt := 44) hx hb dH_allows_15 (by decide) (fun c2 => ?_) (fun c2 => ?_)
    · have hbit : S.testBit k = false := by rw [hr1] at c2; split at c2 <;> simp_all
      refine lv_iinc (v := (nI (k + 1))) (lv' := [(2, .int (nI (k + 1))), (0, .ref (a 0)), (1, .int (nI S))]) hx hb dH_allows_44 hl (k := 2) rfl (nI_1 k) (by decide) rfl (fun ls hl => ?_)
      refine lv_goto (tgt := 2) hx hb dH_allows_47 (by decide) ?_
      exact ih (k + 1) ls (⟨hkn, lt_s hall (fun h => by rw [hbit] at h; cases h)⟩) (by omega) (lv_sub hl [1, 2, 0] rfl)
    · have hbit : S.testBit k = true := by rw [hr1] at c2; split at c2 <;> simp_all
      refine lv_aload_n hx hb dH_allows_18 rfl (lv_at hl 0 rfl) ?_
      refine va_get (D := (dC, dI)) (ci := 0) (C := RH) (T := FH) (N := 7) hx hb hts (fun w h => List.mem_cons_of_mem _ (inH w h)) hown hK hP 0 rfl rfl 4 (by decide) (hts _ (List.mem_cons_of_mem _ kw60)) (fun _ h9 => h9) rfl dH_allows_19 ?_
      refine lv_iload_n hx hb dH_allows_22 rfl (lv_at hl 2 rfl) ?_
      refine ialdN hx hb hK hP 3 0 rfl rfl (k := k) (by omega) (by decide) (v := nI (X k)) rfl dH_allows_23 ?_
      refine lv_iload_n hx hb dH_allows_24 rfl (lv_at hl 1 rfl) ?_
      refine lv_iand hx hb dH_allows_25 ?_
      refine lv_if_ne (tgt := 42) hx hb dH_allows_26 (by decide) (fun c3 => ?_) (fun c3 => ?_)
      · rw [nI_and0 (hX k)] at c3
        refine lv_iconst (v := 0) hx hb dH_allows_42 (by decide) ?_
        exact W.zret hx hb hr rfl (fun t ht hW => ⟨_, rfl, Or.inr ⟨rfl, fun h => c3 (h k hkn hbit).1⟩, ht⟩) (fun q hq => by cases hq) dH_allows_43
      · rw [nI_and0 (hX k)] at c3
        refine lv_aload_n hx hb dH_allows_29 rfl (lv_at hl 0 rfl) ?_
        refine va_get (D := (dC, dI)) (ci := 0) (C := RH) (T := FH) (N := 7) hx hb hts (fun w h => List.mem_cons_of_mem _ (inH w h)) hown hK hP 0 rfl rfl 5 (by decide) (hts _ (List.mem_cons_of_mem _ kw62)) (fun _ h9 => h9) rfl dH_allows_30 ?_
        refine lv_iload_n hx hb dH_allows_33 rfl (lv_at hl 2 rfl) ?_
        refine ialdN hx hb hK hP 4 0 rfl rfl (k := k) (by omega) (by decide) (v := nI (D k)) rfl dH_allows_34 ?_
        refine lv_iload_n hx hb dH_allows_35 rfl (lv_at hl 1 rfl) ?_
        refine lv_iconst (v := (-1)) hx hb dH_allows_36 (by decide) ?_
        refine lv_ixor hx hb dH_allows_37 ?_
        refine lv_iand hx hb dH_allows_38 ?_
        refine lv_if_eq (tgt := 44) hx hb dH_allows_39 (by decide) (fun c4 => ?_) (fun c4 => ?_)
        · rw [nI_sub0 (hDD k) hS] at c4
          refine lv_iinc (v := (nI (k + 1))) (lv' := [(2, .int (nI (k + 1))), (0, .ref (a 0)), (1, .int (nI S))]) hx hb dH_allows_44 hl (k := 2) rfl (nI_1 k) (by decide) rfl (fun ls hl => ?_)
          refine lv_goto (tgt := 2) hx hb dH_allows_47 (by decide) ?_
          exact ih (k + 1) ls (⟨hkn, lt_s hall (fun _ => ⟨c3, c4⟩)⟩) (by omega) (lv_sub hl [1, 2, 0] rfl)
        · rw [nI_sub0 (hDD k) hS] at c4
          refine lv_iconst (v := 0) hx hb dH_allows_42 (by decide) ?_
          exact W.zret hx hb hr rfl (fun t ht hW => ⟨_, rfl, Or.inr ⟨rfl, fun h => c4 (h k hkn hbit).2⟩, ht⟩) (fun q hq => by cases hq) dH_allows_43
