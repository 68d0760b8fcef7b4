/-! the house: its cells, and its methods that only read -/
def mcWH (a : Nat → Nat) (cI cG : ClassId) (n v : Nat) (C G X D : Nat → Nat) (B : Nat → Nat → Int) : va_W :=
  (a 0, .inr (0, [.int (nI n), .int (nI v), .ref (a 1), .ref (a 2), .ref (a 3), .ref (a 4), .ref (a 5)])) :: (a 1, .inl (cI, 12, .inl (fun m => nI (C m)))) :: (a 2, .inl (cI, 12, .inl (fun m => nI (G m)))) :: (a 3, .inl (cI, 12, .inl (fun m => nI (X m)))) :: (a 4, .inl (cI, 12, .inl (fun m => nI (D m)))) :: (a 5, .inl (cG, 12, .inr (.inr (.inr (.inr (fun j => if j < 12 then some (a (6 + j)) else none)))))) :: (List.range 12).map (fun j => (a (6 + j), .inl (cI, 12, .inl (fun k => iI (B j k)))))
theorem mcWH_row {a : Nat → Nat} {cI cG : ClassId} {n v : Nat} {C G X D : Nat → Nat} {B : Nat → Nat → Int} {j : Nat} (hj : j < 12) : (mcWH a cI cG n v C G X D B)[6 + j]? = some (a (6 + j), .inl (cI, 12, .inl (fun k => iI (B j k)))) := by
  unfold mcWH
  rw [show 6 + j = j + 1 + 1 + 1 + 1 + 1 + 1 by omega]
  simp only [List.getElem?_cons_succ, List.getElem?_map, List.getElem?_range hj, Option.map_some]
  rw [show j + 1 + 1 + 1 + 1 + 1 + 1 = 6 + j by omega]
abbrev mcTH (cI cG : ClassId) : List (ClassId × FieldType) := [(cI, .int), (cG, .array .int)]
set_option maxHeartbeats 4000000 in
set_option maxRecDepth 100000 in
theorem c_H_has (l : Launch) (S k : Nat) (hS : S < 2 ^ 31) (hk : k < 32) : Met l yH_has wdH_has ({ frames := 0, cells := 0, slots := 0, locals := 0 }) (nwP [.int (nI S), .int (nI k)]) (vp_Si (fun r => r = if S.testBit k then 1 else 0)) 0 0 (fun _ => False) := by
  refine Met.ofW (cc := bH_has) (maxL := 2) (ret := (some FieldType.boolean)) (by decide) rfl ?_
  intro p e s m args below meth c s₁ BB hml hv
  obtain ⟨rfl, -⟩ := hv
  have hx := BB.exec
  have hb := BB.bytes
  have hr := BB.returns
  have hts := atoms_spec (ws := wdH_has) BB.pre
  have hown : s.vm.findClass RH = some m.cls := findClass_of_methodNamed BB.named
  have hlocks := BB.notSynchronized
  have hl := lv_entry ([.int (nI S), .int (nI k)]) (n := 2) (Nat.le_of_ble_eq_true rfl)
  rw [lg_entry_eq]
  generalize (lg_sl ([.int (nI S), .int (nI k)]) ++ List.replicate (2 - (lg_sl ([.int (nI S), .int (nI k)])).length) Slot.unset).toArray = ls at hl ⊢
  have hl : lv_has ls 2 [(0, .int (nI S)), (1, .int (nI k))] := hl
  refine lv_iload_n hx hb dH_has_0 rfl (lv_at hl 0 rfl) ?_
  refine lv_iload_n hx hb dH_has_1 rfl (lv_at hl 1 rfl) ?_
  refine lv_ishr hx hb dH_has_2 ?_
  refine lv_iconst (v := 1) hx hb dH_has_3 (by decide) ?_
  refine lv_iand hx hb dH_has_4 ?_
  refine lv_if_eq (tgt := 12) hx hb dH_has_5 (by decide) (fun c1 => ?_) (fun c1 => ?_)
  · rw [nI_has hk hS] at c1
    refine lv_iconst (v := 0) hx hb dH_has_12 (by decide) ?_
    exact W.zret (v := 0) hx hb hr rfl (fun t ht hW => ⟨_, rfl, (by split at c1 <;> simp_all), ht⟩) (fun q hq => by cases hq) dH_has_13
  · rw [nI_has hk hS] at c1
    refine lv_iconst (v := 1) hx hb dH_has_8 (by decide) ?_
    refine lv_goto (tgt := 13) hx hb dH_has_9 (by decide) ?_
    exact W.zret (v := 1) hx hb hr rfl (fun t ht hW => ⟨_, rfl, (by split at c1 <;> simp_all), ht⟩) (fun q hq => by cases hq) dH_has_13
set_option maxHeartbeats 4000000 in
set_option maxRecDepth 100000 in
theorem c_H_with (l : Launch) (S k : Nat) (o : Int32) (hS : S < 2 ^ 31) (hk : k < 31) : Met l yH_with wdH_with ({ frames := 0, cells := 0, slots := 0, locals := 0 }) (nwP [.int (nI S), .int (nI k), .int o]) (vp_Si (fun r => r = if o = 0 then nI (S &&& (2 ^ k ^^^ 4294967295)) else nI (S ||| 2 ^ k))) 0 0 (fun _ => False) := by
  refine Met.ofW (cc := bH_with) (maxL := 4) (ret := (some FieldType.int)) (by decide) rfl ?_
  intro p e s m args below meth c s₁ BB hml hv
  obtain ⟨rfl, -⟩ := hv
  have hx := BB.exec
  have hb := BB.bytes
  have hr := BB.returns
  have hts := atoms_spec (ws := wdH_with) BB.pre
  have hown : s.vm.findClass RH = some m.cls := findClass_of_methodNamed BB.named
  have hlocks := BB.notSynchronized
  have hl := lv_entry ([.int (nI S), .int (nI k), .int o]) (n := 4) (Nat.le_of_ble_eq_true rfl)
  rw [lg_entry_eq]
  generalize (lg_sl ([.int (nI S), .int (nI k), .int o]) ++ List.replicate (4 - (lg_sl ([.int (nI S), .int (nI k), .int o])).length) Slot.unset).toArray = ls at hl ⊢
  have hl : lv_has ls 4 [(0, .int (nI S)), (1, .int (nI k)), (2, .int o)] := hl
  refine lv_iconst (v := 1) hx hb dH_with_0 (by decide) ?_
  refine lv_iload_n hx hb dH_with_1 rfl (lv_at hl 1 rfl) ?_
  refine lv_ishl hx hb dH_with_2 ?_
  refine lv_topi (fun x1 ex1 => ?_)
  refine lv_istore_n (lv' := [(3, .int x1), (0, .int (nI S)), (1, .int (nI k)), (2, .int o)]) hx hb dH_with_3 rfl hl (by decide) rfl (fun ls hl => ?_)
  refine lv_iload_n hx hb dH_with_4 rfl (lv_at hl 3 rfl) ?_
  refine lv_if_eq (tgt := 14) hx hb dH_with_5 (by decide) (fun c1 => ?_) (fun c1 => ?_)
  ·
    refine lv_iload_n hx hb dH_with_14 rfl (lv_at hl 1 rfl) ?_
    refine lv_iload_n hx hb dH_with_15 rfl (lv_at hl 0 rfl) ?_
    refine lv_iconst (v := (-1)) hx hb dH_with_16 (by decide) ?_
    refine lv_ixor hx hb dH_with_17 ?_
    refine lv_iand hx hb dH_with_18 ?_
    exact W.iret (v := ((nI S) &&& (x1 ^^^ (-1)))) hx hb hr (fun t ht hW => ⟨_, rfl, (by rw [if_pos c1, ex1, nI_bit hk, nI_drop hS hk]), ht⟩) (fun q hq => by cases hq) dH_with_19
  ·
    refine lv_iload_n hx hb dH_with_8 rfl (lv_at hl 1 rfl) ?_
    refine lv_iload_n hx hb dH_with_9 rfl (lv_at hl 0 rfl) ?_
    refine lv_ior hx hb dH_with_10 ?_
    refine lv_goto (tgt := 19) hx hb dH_with_11 (by decide) ?_
    exact W.iret (v := ((nI S) ||| x1)) hx hb hr (fun t ht hW => ⟨_, rfl, (by rw [if_neg c1, ex1, nI_bit hk, nI_or]), ht⟩) (fun q hq => by cases hq) dH_with_19
set_option maxHeartbeats 4000000 in
set_option maxRecDepth 100000 in
theorem c_H_costOf (l : Launch) (dC : Nat → ClassId) (dI : Nat → Nat → Nat) (a : Nat → Nat) (cI cG : ClassId) (n v : Nat) (C G X D : Nat → Nat) (B : Nat → Nat → Int) (S : Nat) (hn : n ≤ 12) (hS : S < 2 ^ 31) : Met l yH_costOf wdH_costOf ({ frames := 1, cells := 0, slots := 0, locals := 21 }) (roP (dC, dI) mcCl (mcWH a cI cG n v C G X D B) (mcTH cI cG) [.ref (a 0), .int (nI S)]) (vp_Si (fun r => r = nI (mc_cost C S n))) 0 0 (fun _ => False) := by
  refine Met.ofW (cc := bH_costOf) (maxL := 4) (ret := (some FieldType.int)) (by decide) rfl ?_
  intro p e s m args below meth c s₁ BB hml hv
  obtain ⟨rfl, hP, hK⟩ := hv
  have hx := BB.exec
  have hb := BB.bytes
  have hr := BB.returns
  have hts := atoms_spec (ws := wdH_costOf) BB.pre
  have hown : s.vm.findClass RH = some m.cls := findClass_of_methodNamed BB.named
  have hlocks := BB.notSynchronized
  have hl := lv_entry ([.ref (a 0), .int (nI S)]) (n := 4) (Nat.le_of_ble_eq_true rfl)
  rw [lg_entry_eq]
  generalize (lg_sl ([.ref (a 0), .int (nI S)]) ++ List.replicate (4 - (lg_sl ([.ref (a 0), .int (nI S)])).length) Slot.unset).toArray = ls at hl ⊢
  have hl : lv_has ls 4 [(0, .ref (a 0)), (1, .int (nI S))] := hl
  refine lv_iconst (v := 0) hx hb dH_costOf_0 (by decide) ?_
  refine lv_istore_n (lv' := [(2, .int 0), (0, .ref (a 0)), (1, .int (nI S))]) hx hb dH_costOf_1 rfl hl (by decide) rfl (fun ls hl => ?_)
  refine lv_iconst (v := 0) hx hb dH_costOf_2 (by decide) ?_
  refine lv_istore_n (lv' := [(3, .int 0), (2, .int 0), (0, .ref (a 0)), (1, .int (nI S))]) hx hb dH_costOf_3 rfl hl (by decide) rfl (fun ls hl => ?_)
  refine lpR (σ := Nat) (fun k => k ≤ n) (fun k => [(0, .ref (a 0)), (1, .int (nI S)), (2, .int (nI (mc_cost C S k))), (3, .int (nI k))]) (fun k => n - k) (fun k ls hI hl ih => ?_) (0) ls (Nat.zero_le _) (lv_sub hl [2, 3, 1, 0] rfl)
  have hl : lv_has ls 4 [(0, .ref (a 0)), (1, .int (nI S)), (2, .int (nI (mc_cost C S k))), (3, .int (nI k))] := hl
  refine lv_iload_n hx hb dH_costOf_4 rfl (lv_at hl 3 rfl) ?_
  refine lv_aload_n hx hb dH_costOf_5 rfl (lv_at hl 0 rfl) ?_
  refine va_get (D := (dC, dI)) (ci := 0) (C := RH) (T := FH) (N := 7) hx hb hts (fun w h => List.mem_cons_of_mem _ (inH w h)) hown hK hP 0 rfl rfl 0 (by decide) (hts _ (List.mem_cons_of_mem _ kw50)) (fun _ h9 => h9) rfl dH_costOf_6 ?_
  refine lv_icmp_ge (tgt := 35) hx hb dH_costOf_9 (by decide) (fun c1 => ?_) (fun c1 => ?_)
  · have hkn : k = n := by have := (nI_leI (by omega) (by omega)).mp c1; omega
    subst hkn
    refine lv_iload_n hx hb dH_costOf_35 rfl (lv_at hl 2 rfl) ?_
    exact W.iret (v := (nI (mc_cost C S k))) hx hb hr (fun t ht hW => ⟨_, rfl, rfl, ht⟩) (fun q hq => by cases hq) dH_costOf_36
  · have hkn : k < n := by
      rcases Nat.lt_or_ge k n with q | q
      · exact q
      · exact absurd (nI_le q (by omega)) c1
    refine lv_iload_n hx hb dH_costOf_12 rfl (lv_at hl 1 rfl) ?_
    refine lv_iload_n hx hb dH_costOf_13 rfl (lv_at hl 3 rfl) ?_
    refine callRS (As := [.int (nI S), .int (nI k)]) (rest := []) ⟨hx, hb, hml, hown, hts⟩ tlB (c_H_has l S k hS (by omega)) kw171 kw172 kw26 kw173 ⟨rfl, rfl⟩ (n := 2) (by decide +kernel) ⟨Nat.le_of_ble_eq_true rfl, Nat.le_of_ble_eq_true rfl⟩ (nwP_pre) rfl hl.1 rfl (by decide) ⟨Nat.le_of_ble_eq_true rfl, Nat.le_of_ble_eq_true rfl⟩ dH_costOf_14 (fun r1 hr1 => ?_)
    refine lv_if_eq (tgt := 29) hx hb dH_costOf_17 (by decide) (fun c2 => ?_) (fun c2 => ?_)
    · have hbit : S.testBit k = false := by rw [hr1] at c2; split at c2 <;> simp_all
      refine lv_iinc (v := (nI (k + 1))) (lv' := [(3, .int (nI (k + 1))), (0, .ref (a 0)), (1, .int (nI S)), (2, .int (nI (mc_cost C S k)))]) hx hb dH_costOf_29 hl (k := 3) rfl (nI_1 k) (by decide) rfl (fun ls hl => ?_)
      refine lv_goto (tgt := 4) hx hb dH_costOf_32 (by decide) ?_
      exact ih (k + 1) ls hkn (by omega) (lv_sub (l' := [(0, .ref (a 0)), (1, .int (nI S)), (2, .int (nI (mc_cost C S (k + 1)))), (3, .int (nI (k + 1)))]) hl [1, 2, 3, 0] (by simp [lv_pick, mc_cost, hbit]))
    · have hbit : S.testBit k = true := by rw [hr1] at c2; split at c2 <;> simp_all
      refine lv_iload_n hx hb dH_costOf_20 rfl (lv_at hl 2 rfl) ?_
      refine lv_aload_n hx hb dH_costOf_21 rfl (lv_at hl 0 rfl) ?_
      refine va_get (D := (dC, dI)) (ci := 0) (C := RH) (T := FH) (N := 7) hx hb hts (fun w h => List.mem_cons_of_mem _ (inH w h)) hown hK hP 0 rfl rfl 2 (by decide) (hts _ (List.mem_cons_of_mem _ kw56)) (fun _ h9 => h9) rfl dH_costOf_22 ?_
      refine lv_iload_n hx hb dH_costOf_25 rfl (lv_at hl 3 rfl) ?_
      refine ialdN hx hb hK hP 1 0 rfl rfl (k := k) (by omega) (by decide) (v := nI (C k)) rfl dH_costOf_26 ?_
      refine lv_iadd hx hb dH_costOf_27 ?_
      refine lv_topi (fun x9 ex9 => ?_)
      have hx9 : x9 = nI (mc_cost C S (k + 1)) := by rw [ex9, nI_add]; simp [mc_cost, hbit]
      subst hx9
      refine lv_istore_n (lv' := [(2, .int (nI (mc_cost C S (k + 1)))), (0, .ref (a 0)), (1, .int (nI S)), (3, .int (nI k))]) hx hb dH_costOf_28 rfl hl (by decide) rfl (fun ls hl => ?_)
      refine lv_iinc (v := (nI (k + 1))) (lv' := [(3, .int (nI (k + 1))), (2, .int (nI (mc_cost C S (k + 1)))), (0, .ref (a 0)), (1, .int (nI S))]) hx hb dH_costOf_29 hl (k := 3) rfl (nI_1 k) (by decide) rfl (fun ls hl => ?_)
      refine lv_goto (tgt := 4) hx hb dH_costOf_32 (by decide) ?_
      exact ih (k + 1) ls (hkn) (by omega) (lv_sub hl [2, 3, 1, 0] rfl)
