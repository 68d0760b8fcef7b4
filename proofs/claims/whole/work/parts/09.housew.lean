/-! the house: its methods that write -/
set_option maxHeartbeats 4000000 in
set_option maxRecDepth 100000 in
theorem c_H_put (l : Launch) (dC : Nat → ClassId) (dI : Nat → Nat → Nat) (a : Nat → Nat) (cI cG : ClassId) (n v : Nat) (C G X D : Nat → Nat) (B : Nat → Nat → Int) (sz : Nat) (mm cv gv : Nat) (hm : mm < 12) : Met l yH_put wdH_put ({ frames := 0, cells := 0, slots := 0, locals := 0 }) (wrP (dC, dI) mcCl (mcWH a cI cG n v C G X D B) (mcTH cI cG) sz [.ref (a 0), .int (nI mm), .int (nI cv), .int (nI gv)]) (va_Qv (fun _ : Unit => True) (fun _ t => va_P (dC, dI) mcCl (mcWH a cI cG n (v + 1) (va_up C mm cv) (va_up G mm gv) X D B) t.heap ∧ va_K (dC, dI) mcCl (mcTH cI cG) t ∧ va_D (va_A (mcWH a cI cG n v C G X D B) sz) (mcWH a cI cG n (v + 1) (va_up C mm cv) (va_up G mm gv) X D B)) (va_A (mcWH a cI cG n v C G X D B) sz)) 0 0 (va_A (mcWH a cI cG n v C G X D B) sz) := by
  refine Met.ofW (cc := bH_put) (maxL := 4) (ret := none) (by decide) rfl ?_
  intro p e s m args below meth c s₁ BB hml hv
  obtain ⟨rfl, hsz, hP, hK, hD0⟩ := hv
  have hx := BB.exec
  have hb := BB.bytes
  have hr := BB.returns
  have hts := atoms_spec (ws := wdH_put) BB.pre
  have hown : s.vm.findClass RH = some m.cls := findClass_of_methodNamed BB.named
  have hlocks := BB.notSynchronized
  subst hsz
  have hD := hD0.self (sz := s.heap.size)
  generalize hAe : va_A (mcWH a cI cG n v C G X D B) s.heap.size = A at hD ⊢
  have hA : ∀ q : Nat, s.heap.size ≤ q → A q := fun q h => by rw [← hAe]; exact Or.inr h
  have hS : va_S A s.heap s.heap [] := va_S.rf
  have hl := lv_entry ([.ref (a 0), .int (nI mm), .int (nI cv), .int (nI gv)]) (n := 4) (Nat.le_of_ble_eq_true rfl)
  rw [lg_entry_eq]
  generalize (lg_sl ([.ref (a 0), .int (nI mm), .int (nI cv), .int (nI gv)]) ++ List.replicate (4 - (lg_sl ([.ref (a 0), .int (nI mm), .int (nI cv), .int (nI gv)])).length) Slot.unset).toArray = ls at hl ⊢
  have hl : lv_has ls 4 [(0, .ref (a 0)), (1, .int (nI mm)), (2, .int (nI cv)), (3, .int (nI gv))] := hl
  refine lv_aload_n hx hb dH_put_0 rfl (lv_at hl 0 rfl) ?_
  refine va_get (D := (dC, dI)) (ci := 0) (C := RH) (T := FH) (N := 7) hx hb hts (fun w h => List.mem_cons_of_mem _ (inH w h)) hown hK hP 0 rfl rfl 2 (by decide) (hts _ (List.mem_cons_of_mem _ kw56)) (fun _ h9 => h9) rfl dH_put_1 ?_
  refine lv_iload_n hx hb dH_put_4 rfl (lv_at hl 1 rfl) ?_
  refine lv_iload_n hx hb dH_put_5 rfl (lv_at hl 2 rfl) ?_
  refine iastN hx hb hK hP hD hS 1 0 rfl rfl (k := mm) hm (by decide) (x := nI cv) (fun j => nI (va_up C mm cv j)) (fun j => by simp only [va_up]; split <;> rfl) (ws' := mcWH a cI cG n v (va_up C mm cv) G X D B) (rfl) dH_put_6 (fun H locs hP hD hS => ?_)
  refine lv_aload_n hx hb dH_put_7 rfl (lv_at hl 0 rfl) ?_
  refine va_get (D := (dC, dI)) (ci := 0) (C := RH) (T := FH) (N := 7) hx hb hts (fun w h => List.mem_cons_of_mem _ (inH w h)) hown hK hP 0 rfl rfl 3 (by decide) (hts _ (List.mem_cons_of_mem _ kw58)) (fun _ h9 => h9) rfl dH_put_8 ?_
  refine lv_iload_n hx hb dH_put_11 rfl (lv_at hl 1 rfl) ?_
  refine lv_iload_n hx hb dH_put_12 rfl (lv_at hl 3 rfl) ?_
  refine iastN hx hb hK hP hD hS 2 0 rfl rfl (k := mm) hm (by decide) (x := nI gv) (fun j => nI (va_up G mm gv j)) (fun j => by simp only [va_up]; split <;> rfl) (ws' := mcWH a cI cG n v (va_up C mm cv) (va_up G mm gv) X D B) (rfl) dH_put_13 (fun H locs hP hD hS => ?_)
  refine lv_aload_n hx hb dH_put_14 rfl (lv_at hl 0 rfl) ?_
  refine lv_dup hx hb dH_put_15 rfl ?_
  refine va_get (D := (dC, dI)) (ci := 0) (C := RH) (T := FH) (N := 7) hx hb hts (fun w h => List.mem_cons_of_mem _ (inH w h)) hown hK hP 0 rfl rfl 1 (by decide) (hts _ (List.mem_cons_of_mem _ kw54)) (fun _ h9 => h9) rfl dH_put_16 ?_
  refine lv_iconst (v := 1) hx hb dH_put_19 (by decide) ?_
  refine lv_iadd hx hb dH_put_20 ?_
  refine lv_topi (fun y1 ey1 => ?_)
  have hy1 : y1 = nI (v + 1) := by rw [ey1]; exact nI_1 v
  subst hy1
  refine va_put (D := (dC, dI)) (ci := 0) (ty := .int) (C := RH) (T := FH) (N := 7) hx hb hts (fun w h => List.mem_cons_of_mem _ (inH w h)) tH tH_ok nH hown hK hP hD hS 0 rfl rfl 1 (by decide) (hts _ (List.mem_cons_of_mem _ kw54)) (fun _ h9 => h9) rfl (by decide +kernel) rfl rfl (Nat.le_of_ble_eq_true rfl) dH_put_21 (fun H locs hP hD hS => ?_)
  have hP : va_P (dC, dI) mcCl (mcWH a cI cG n (v + 1) (va_up C mm cv) (va_up G mm gv) X D B) H := hP
  have hD : va_D A (mcWH a cI cG n (v + 1) (va_up C mm cv) (va_up G mm gv) X D B) := hD
  exact W.vret hx hb hr (fun t ht hW => ⟨⟨(), rfl, trivial, by rw [ht]; exact hP, va_K.moved hW.alike hK, hD⟩, hS.F ht⟩) hS.2.2 dH_put_24
set_option maxHeartbeats 4000000 in
set_option maxRecDepth 100000 in
theorem c_H_add (l : Launch) (dC : Nat → ClassId) (dI : Nat → Nat → Nat) (a : Nat → Nat) (cI cG : ClassId) (n v : Nat) (C G X D : Nat → Nat) (B : Nat → Nat → Int) (sz : Nat) (cv gv : Nat) (hn : n < 12) : Met l yH_add wdH_add ({ frames := 1, cells := 0, slots := 0, locals := 23 }) (wrP (dC, dI) mcCl (mcWH a cI cG n v C G X D B) (mcTH cI cG) sz [.ref (a 0), .int (nI cv), .int (nI gv)]) (va_Qi (fun r (_ : Unit) => r = nI n) (fun _ t => va_P (dC, dI) mcCl (mcWH a cI cG (n + 1) (v + 1) (va_up C n cv) (va_up G n gv) X D B) t.heap ∧ va_K (dC, dI) mcCl (mcTH cI cG) t ∧ va_D (va_A (mcWH a cI cG n v C G X D B) sz) (mcWH a cI cG (n + 1) (v + 1) (va_up C n cv) (va_up G n gv) X D B)) (va_A (mcWH a cI cG n v C G X D B) sz)) 0 0 (va_A (mcWH a cI cG n v C G X D B) sz) := by
  refine Met.ofW (cc := bH_add) (maxL := 4) (ret := (some FieldType.int)) (by decide) rfl ?_
  intro p e s m args below meth c s₁ BB hml hv
  obtain ⟨rfl, hsz, hP, hK, hD0⟩ := hv
  have hx := BB.exec
  have hb := BB.bytes
  have hr := BB.returns
  have hts := atoms_spec (ws := wdH_add) BB.pre
  have hown : s.vm.findClass RH = some m.cls := findClass_of_methodNamed BB.named
  have hlocks := BB.notSynchronized
  subst hsz
  have hD := hD0.self (sz := s.heap.size)
  generalize hAe : va_A (mcWH a cI cG n v C G X D B) s.heap.size = A at hD ⊢
  have hA : ∀ q : Nat, s.heap.size ≤ q → A q := fun q h => by rw [← hAe]; exact Or.inr h
  have hS : va_S A s.heap s.heap [] := va_S.rf
  have hl := lv_entry ([.ref (a 0), .int (nI cv), .int (nI gv)]) (n := 4) (Nat.le_of_ble_eq_true rfl)
  rw [lg_entry_eq]
  generalize (lg_sl ([.ref (a 0), .int (nI cv), .int (nI gv)]) ++ List.replicate (4 - (lg_sl ([.ref (a 0), .int (nI cv), .int (nI gv)])).length) Slot.unset).toArray = ls at hl ⊢
  have hl : lv_has ls 4 [(0, .ref (a 0)), (1, .int (nI cv)), (2, .int (nI gv))] := hl
  refine lv_aload_n hx hb dH_add_0 rfl (lv_at hl 0 rfl) ?_
  refine va_get (D := (dC, dI)) (ci := 0) (C := RH) (T := FH) (N := 7) hx hb hts (fun w h => List.mem_cons_of_mem _ (inH w h)) hown hK hP 0 rfl rfl 0 (by decide) (hts _ (List.mem_cons_of_mem _ kw50)) (fun _ h9 => h9) rfl dH_add_1 ?_
  refine lv_istore_n (lv' := [(3, .int (nI n)), (0, .ref (a 0)), (1, .int (nI cv)), (2, .int (nI gv))]) hx hb dH_add_4 rfl hl (by decide) rfl (fun ls hl => ?_)
  refine lv_aload_n hx hb dH_add_5 rfl (lv_at hl 1 rfl) ?_
  refine lv_dup hx hb dH_add_6 rfl ?_
  refine va_get (D := (dC, dI)) (ci := 0) (C := RH) (T := FH) (N := 7) hx hb hts (fun w h => List.mem_cons_of_mem _ (inH w h)) hown hK hP 0 rfl rfl 0 (by decide) (hts _ (List.mem_cons_of_mem _ kw50)) (fun _ h9 => h9) rfl dH_add_7 ?_
  refine lv_iconst (v := 1) hx hb dH_add_10 (by decide) ?_
  refine lv_iadd hx hb dH_add_11 ?_
  refine lv_topi (fun y1 ey1 => ?_)
  have hy1 : y1 = nI (n + 1) := by rw [ey1]; exact nI_1 n
  subst hy1
  refine va_put (D := (dC, dI)) (ci := 0) (ty := .int) (C := RH) (T := FH) (N := 7) hx hb hts (fun w h => List.mem_cons_of_mem _ (inH w h)) tH tH_ok nH hown hK hP hD hS 0 rfl rfl 0 (by decide) (hts _ (List.mem_cons_of_mem _ kw50)) (fun _ h9 => h9) rfl (by decide +kernel) rfl rfl (Nat.le_of_ble_eq_true rfl) dH_add_12 (fun H locs hP hD hS => ?_)
  have hP : va_P (dC, dI) mcCl (mcWH a cI cG (n + 1) v C G X D B) H := hP
  have hD : va_D A (mcWH a cI cG (n + 1) v C G X D B) := hD
  refine lv_aload_n hx hb dH_add_15 rfl (lv_at hl 1 rfl) ?_
  refine lv_iload_n hx hb dH_add_16 rfl (lv_at hl 0 rfl) ?_
  refine lv_iload_n hx hb dH_add_17 rfl (lv_at hl 2 rfl) ?_
  refine lv_iload_n hx hb dH_add_18 rfl (lv_at hl 3 rfl) ?_
  have hF := freeA hD hS hA
  refine callWV (As := [.int (nI n), .int (nI cv), .int (nI gv)]) (rest := []) ⟨hx, hb, hml, hown, hts⟩ tlB (c_H_put l dC dI a cI cG (n + 1) v C G X D B H.size n cv gv (by omega)) kw272 kw273 kw274 kw26 kw275 ⟨rfl, rfl⟩ (n := 3) (by decide +kernel) ⟨Nat.le_of_ble_eq_true rfl, Nat.le_of_ble_eq_true rfl⟩ hP hK hD hS hF (ci := 0) (q0 := 0) rfl rfl rfl hl.1 rfl (Nat.le_of_ble_eq_true rfl) ⟨Nat.le_of_ble_eq_true rfl, Nat.le_of_ble_eq_true rfl⟩ dH_add_19 (fun H1 locs1 hP1 hD1 hk1 hS1 => ?_)
  have hD := hD1.weaken (fun _ q _ h => hF q.1 h)
  have hP := hP1
  have hS := hS1
  refine lv_iload_n hx hb dH_add_22 rfl (lv_at hl 0 rfl) ?_
  exact W.iret (v := (nI n)) hx hb hr (fun t ht hW => ⟨⟨(nI n), (), rfl, rfl, by rw [ht]; exact hP, va_K.moved hW.alike hK, hD⟩, hS.F ht⟩) hS.2.2 dH_add_23
/-- a set with a bit put or taken -/
def mcBit (S k : Nat) (o : Int32) : Nat := if o = 0 then S &&& (2 ^ k ^^^ 4294967295) else S ||| 2 ^ k
theorem mcBit_nI (S k : Nat) (o : Int32) : (if o = 0 then nI (S &&& (2 ^ k ^^^ 4294967295)) else nI (S ||| 2 ^ k)) = nI (mcBit S k o) := by unfold mcBit; split <;> rfl
theorem mcBit_lt {S k : Nat} {o : Int32} {N : Nat} (hS : S < 2 ^ N) (hk : k < N) : mcBit S k o < 2 ^ N := by
  unfold mcBit
  split
  · exact Nat.lt_of_le_of_lt Nat.and_le_left hS
  · exact Nat.or_lt_two_pow hS (Nat.pow_lt_pow_right (by decide) hk)
theorem mcBit_at {S k j : Nat} {o : Int32} (hj : j < 32) : (mcBit S k o).testBit j = if k = j then decide (o ≠ 0) else S.testBit j := by
  unfold mcBit
  have hf : Nat.testBit 4294967295 j = true := by
    rw [show (4294967295 : Nat) = 2 ^ 32 - 1 from rfl, Nat.testBit_two_pow_sub_one]
    simpa using hj
  split
  · rename_i h
    rw [Nat.testBit_and, Nat.testBit_xor, Nat.testBit_two_pow, hf]
    by_cases e : k = j <;> simp [e, h]
  · rename_i h
    rw [Nat.testBit_or, Nat.testBit_two_pow]
    by_cases e : k = j <;> simp [e, h]
set_option maxHeartbeats 4000000 in
set_option maxRecDepth 100000 in
theorem c_H_putExcluded (l : Launch) (dC : Nat → ClassId) (dI : Nat → Nat → Nat) (a : Nat → Nat) (cI cG : ClassId) (n v : Nat) (C G X D : Nat → Nat) (B : Nat → Nat → Int) (sz : Nat) (mm oo : Nat) (o : Int32) (hm : mm < 12) (ho : oo < 12) (hX : ∀ m, X m < 4096) : Met l yH_putExcluded wdH_putExcluded ({ frames := 1, cells := 0, slots := 0, locals := 23 }) (wrP (dC, dI) mcCl (mcWH a cI cG n v C G X D B) (mcTH cI cG) sz [.ref (a 0), .int (nI mm), .int (nI oo), .int o]) (va_Qv (fun _ : Unit => True) (fun _ t => va_P (dC, dI) mcCl (mcWH a cI cG n (v + 1) C G (va_up (va_up X mm (mcBit (X mm) oo o)) oo (mcBit ((va_up X mm (mcBit (X mm) oo o)) oo) mm o)) D B) t.heap ∧ va_K (dC, dI) mcCl (mcTH cI cG) t ∧ va_D (va_A (mcWH a cI cG n v C G X D B) sz) (mcWH a cI cG n (v + 1) C G (va_up (va_up X mm (mcBit (X mm) oo o)) oo (mcBit ((va_up X mm (mcBit (X mm) oo o)) oo) mm o)) D B)) (va_A (mcWH a cI cG n v C G X D B) sz)) 0 0 (va_A (mcWH a cI cG n v C G X D B) sz) := by
  refine Met.ofW (cc := bH_putExcluded) (maxL := 4) (ret := none) (by decide) rfl ?_
  intro p e s m args below meth c s₁ BB hml hv
  obtain ⟨rfl, hsz, hP, hK, hD0⟩ := hv
  have hx := BB.exec
  have hb := BB.bytes
  have hr := BB.returns
  have hts := atoms_spec (ws := wdH_putExcluded) BB.pre
  have hown : s.vm.findClass RH = some m.cls := findClass_of_methodNamed BB.named
  have hlocks := BB.notSynchronized
  subst hsz
  have hD := hD0.self (sz := s.heap.size)
  generalize hAe : va_A (mcWH a cI cG n v C G X D B) s.heap.size = A at hD ⊢
  have hA : ∀ q : Nat, s.heap.size ≤ q → A q := fun q h => by rw [← hAe]; exact Or.inr h
  have hS : va_S A s.heap s.heap [] := va_S.rf
  have hl := lv_entry ([.ref (a 0), .int (nI mm), .int (nI oo), .int o]) (n := 4) (Nat.le_of_ble_eq_true rfl)
  rw [lg_entry_eq]
  generalize (lg_sl ([.ref (a 0), .int (nI mm), .int (nI oo), .int o]) ++ List.replicate (4 - (lg_sl ([.ref (a 0), .int (nI mm), .int (nI oo), .int o])).length) Slot.unset).toArray = ls at hl ⊢
  have hl : lv_has ls 4 [(0, .ref (a 0)), (1, .int (nI mm)), (2, .int (nI oo)), (3, .int o)] := hl
  refine lv_aload_n hx hb dH_putExcluded_0 rfl (lv_at hl 0 rfl) ?_
  refine va_get (D := (dC, dI)) (ci := 0) (C := RH) (T := FH) (N := 7) hx hb hts (fun w h => List.mem_cons_of_mem _ (inH w h)) hown hK hP 0 rfl rfl 4 (by decide) (hts _ (List.mem_cons_of_mem _ kw60)) (fun _ h9 => h9) rfl dH_putExcluded_1 ?_
  refine lv_iload_n hx hb dH_putExcluded_4 rfl (lv_at hl 1 rfl) ?_
  refine lv_aload_n hx hb dH_putExcluded_5 rfl (lv_at hl 0 rfl) ?_
  refine va_get (D := (dC, dI)) (ci := 0) (C := RH) (T := FH) (N := 7) hx hb hts (fun w h => List.mem_cons_of_mem _ (inH w h)) hown hK hP 0 rfl rfl 4 (by decide) (hts _ (List.mem_cons_of_mem _ kw60)) (fun _ h9 => h9) rfl dH_putExcluded_6 ?_
  refine lv_iload_n hx hb dH_putExcluded_9 rfl (lv_at hl 1 rfl) ?_
  refine ialdN hx hb hK hP 3 0 rfl rfl (k := mm) hm (by decide) (v := nI (X mm)) rfl dH_putExcluded_10 ?_
  refine lv_iload_n hx hb dH_putExcluded_11 rfl (lv_at hl 2 rfl) ?_
  refine lv_iload_n hx hb dH_putExcluded_12 rfl (lv_at hl 3 rfl) ?_
  refine callRS (As := [.int (nI (X mm)), .int (nI oo), .int o]) (rest := [.int (nI mm), .ref (a 3)]) ⟨hx, hb, hml, hown, hts⟩ tlB (c_H_with l (X mm) oo o (by have := hX mm; omega) (by omega)) kw302 kw303 kw26 kw304 ⟨rfl, rfl⟩ (n := 3) (by decide +kernel) ⟨Nat.le_of_ble_eq_true rfl, Nat.le_of_ble_eq_true rfl⟩ (nwP_pre) rfl hl.1 rfl (Nat.le_of_ble_eq_true rfl) ⟨Nat.le_of_ble_eq_true rfl, Nat.le_of_ble_eq_true rfl⟩ dH_putExcluded_13 (fun r1 hr1 => ?_)
  have hr1 : r1 = nI (mcBit (X mm) oo o) := hr1.trans (mcBit_nI _ _ _)
  subst hr1
  refine iastN hx hb hK hP hD hS 3 0 rfl rfl (k := mm) hm (by decide) (x := nI (mcBit (X mm) oo o)) (fun j => nI (va_up X mm (mcBit (X mm) oo o) j)) (fun j => by simp only [va_up]; split <;> rfl) (ws' := mcWH a cI cG n v C G (va_up X mm (mcBit (X mm) oo o)) D B) (rfl) dH_putExcluded_16 (fun H locs hP hD hS => ?_)
  refine lv_aload_n hx hb dH_putExcluded_17 rfl (lv_at hl 0 rfl) ?_
  refine va_get (D := (dC, dI)) (ci := 0) (C := RH) (T := FH) (N := 7) hx hb hts (fun w h => List.mem_cons_of_mem _ (inH w h)) hown hK hP 0 rfl rfl 4 (by decide) (hts _ (List.mem_cons_of_mem _ kw60)) (fun _ h9 => h9) rfl dH_putExcluded_18 ?_
  refine lv_iload_n hx hb dH_putExcluded_21 rfl (lv_at hl 2 rfl) ?_
  refine lv_aload_n hx hb dH_putExcluded_22 rfl (lv_at hl 0 rfl) ?_
  refine va_get (D := (dC, dI)) (ci := 0) (C := RH) (T := FH) (N := 7) hx hb hts (fun w h => List.mem_cons_of_mem _ (inH w h)) hown hK hP 0 rfl rfl 4 (by decide) (hts _ (List.mem_cons_of_mem _ kw60)) (fun _ h9 => h9) rfl dH_putExcluded_23 ?_
  refine lv_iload_n hx hb dH_putExcluded_26 rfl (lv_at hl 2 rfl) ?_
  refine ialdN hx hb hK hP 3 0 rfl rfl (k := oo) ho (by decide) (v := nI ((va_up X mm (mcBit (X mm) oo o)) oo)) rfl dH_putExcluded_27 ?_
  refine lv_iload_n hx hb dH_putExcluded_28 rfl (lv_at hl 1 rfl) ?_
  refine lv_iload_n hx hb dH_putExcluded_29 rfl (lv_at hl 3 rfl) ?_
  have hlt : (va_up X mm (mcBit (X mm) oo o)) oo < 2 ^ 31 := by
    simp only [va_up]
    split
    · exact Nat.lt_of_lt_of_le (mcBit_lt (N := 12) (hX mm) ho) (by decide)
    · have := hX oo; omega
  refine callRS (As := [.int (nI ((va_up X mm (mcBit (X mm) oo o)) oo)), .int (nI mm), .int o]) (rest := [.int (nI oo), .ref (a 3)]) ⟨hx, hb, hml, hown, hts⟩ tlB (c_H_with l ((va_up X mm (mcBit (X mm) oo o)) oo) mm o hlt (by omega)) kw302 kw303 kw26 kw304 ⟨rfl, rfl⟩ (n := 3) (by decide +kernel) ⟨Nat.le_of_ble_eq_true rfl, Nat.le_of_ble_eq_true rfl⟩ (nwP_pre) rfl hl.1 rfl (Nat.le_of_ble_eq_true rfl) ⟨Nat.le_of_ble_eq_true rfl, Nat.le_of_ble_eq_true rfl⟩ dH_putExcluded_30 (fun r2 hr2 => ?_)
  have hr2 : r2 = nI (mcBit ((va_up X mm (mcBit (X mm) oo o)) oo) mm o) := hr2.trans (mcBit_nI _ _ _)
  subst hr2
  refine iastN hx hb hK hP hD hS 3 0 rfl rfl (k := oo) ho (by decide) (x := nI (mcBit ((va_up X mm (mcBit (X mm) oo o)) oo) mm o)) (fun j => nI ((va_up (va_up X mm (mcBit (X mm) oo o)) oo (mcBit ((va_up X mm (mcBit (X mm) oo o)) oo) mm o)) j)) (fun j => by rw [show va_up (va_up X mm (mcBit (X mm) oo o)) oo (mcBit ((va_up X mm (mcBit (X mm) oo o)) oo) mm o) j = if j = oo then mcBit ((va_up X mm (mcBit (X mm) oo o)) oo) mm o else (va_up X mm (mcBit (X mm) oo o)) j from rfl]; split <;> rfl) (ws' := mcWH a cI cG n v C G (va_up (va_up X mm (mcBit (X mm) oo o)) oo (mcBit ((va_up X mm (mcBit (X mm) oo o)) oo) mm o)) D B) (rfl) dH_putExcluded_33 (fun H locs hP hD hS => ?_)
  refine lv_aload_n hx hb dH_putExcluded_34 rfl (lv_at hl 0 rfl) ?_
  refine lv_dup hx hb dH_putExcluded_35 rfl ?_
  refine va_get (D := (dC, dI)) (ci := 0) (C := RH) (T := FH) (N := 7) hx hb hts (fun w h => List.mem_cons_of_mem _ (inH w h)) hown hK hP 0 rfl rfl 1 (by decide) (hts _ (List.mem_cons_of_mem _ kw54)) (fun _ h9 => h9) rfl dH_putExcluded_36 ?_
  refine lv_iconst (v := 1) hx hb dH_putExcluded_39 (by decide) ?_
  refine lv_iadd hx hb dH_putExcluded_40 ?_
  refine lv_topi (fun y1 ey1 => ?_)
  have hy1 : y1 = nI (v + 1) := by rw [ey1]; exact nI_1 v
  subst hy1
  refine va_put (D := (dC, dI)) (ci := 0) (ty := .int) (C := RH) (T := FH) (N := 7) hx hb hts (fun w h => List.mem_cons_of_mem _ (inH w h)) tH tH_ok nH hown hK hP hD hS 0 rfl rfl 1 (by decide) (hts _ (List.mem_cons_of_mem _ kw54)) (fun _ h9 => h9) rfl (by decide +kernel) rfl rfl (Nat.le_of_ble_eq_true rfl) dH_putExcluded_41 (fun H locs hP hD hS => ?_)
  have hP : va_P (dC, dI) mcCl (mcWH a cI cG n (v + 1) C G (va_up (va_up X mm (mcBit (X mm) oo o)) oo (mcBit ((va_up X mm (mcBit (X mm) oo o)) oo) mm o)) D B) H := hP
  have hD : va_D A (mcWH a cI cG n (v + 1) C G (va_up (va_up X mm (mcBit (X mm) oo o)) oo (mcBit ((va_up X mm (mcBit (X mm) oo o)) oo) mm o)) D B) := hD
  exact W.vret hx hb hr (fun t ht hW => ⟨⟨(), rfl, trivial, by rw [ht]; exact hP, va_K.moved hW.alike hK, hD⟩, hS.F ht⟩) hS.2.2 dH_putExcluded_44
set_option maxHeartbeats 4000000 in
set_option maxRecDepth 100000 in
theorem c_H_putNeeded (l : Launch) (dC : Nat → ClassId) (dI : Nat → Nat → Nat) (a : Nat → Nat) (cI cG : ClassId) (n v : Nat) (C G X D : Nat → Nat) (B : Nat → Nat → Int) (sz : Nat) (mm oo : Nat) (o : Int32) (hm : mm < 12) (ho : oo < 12) (hD9 : ∀ m, D m < 4096) : Met l yH_putNeeded wdH_putNeeded ({ frames := 1, cells := 0, slots := 0, locals := 23 }) (wrP (dC, dI) mcCl (mcWH a cI cG n v C G X D B) (mcTH cI cG) sz [.ref (a 0), .int (nI mm), .int (nI oo), .int o]) (va_Qv (fun _ : Unit => True) (fun _ t => va_P (dC, dI) mcCl (mcWH a cI cG n (v + 1) C G X (va_up D mm (mcBit (D mm) oo o)) B) t.heap ∧ va_K (dC, dI) mcCl (mcTH cI cG) t ∧ va_D (va_A (mcWH a cI cG n v C G X D B) sz) (mcWH a cI cG n (v + 1) C G X (va_up D mm (mcBit (D mm) oo o)) B)) (va_A (mcWH a cI cG n v C G X D B) sz)) 0 0 (va_A (mcWH a cI cG n v C G X D B) sz) := by
  refine Met.ofW (cc := bH_putNeeded) (maxL := 4) (ret := none) (by decide) rfl ?_
  intro p e s m args below meth c s₁ BB hml hv
  obtain ⟨rfl, hsz, hP, hK, hD0⟩ := hv
  have hx := BB.exec
  have hb := BB.bytes
  have hr := BB.returns
  have hts := atoms_spec (ws := wdH_putNeeded) BB.pre
  have hown : s.vm.findClass RH = some m.cls := findClass_of_methodNamed BB.named
  have hlocks := BB.notSynchronized
  subst hsz
  have hD := hD0.self (sz := s.heap.size)
  generalize hAe : va_A (mcWH a cI cG n v C G X D B) s.heap.size = A at hD ⊢
  have hA : ∀ q : Nat, s.heap.size ≤ q → A q := fun q h => by rw [← hAe]; exact Or.inr h
  have hS : va_S A s.heap s.heap [] := va_S.rf
  have hl := lv_entry ([.ref (a 0), .int (nI mm), .int (nI oo), .int o]) (n := 4) (Nat.le_of_ble_eq_true rfl)
  rw [lg_entry_eq]
  generalize (lg_sl ([.ref (a 0), .int (nI mm), .int (nI oo), .int o]) ++ List.replicate (4 - (lg_sl ([.ref (a 0), .int (nI mm), .int (nI oo), .int o])).length) Slot.unset).toArray = ls at hl ⊢
  have hl : lv_has ls 4 [(0, .ref (a 0)), (1, .int (nI mm)), (2, .int (nI oo)), (3, .int o)] := hl
  refine lv_aload_n hx hb dH_putNeeded_0 rfl (lv_at hl 0 rfl) ?_
  refine va_get (D := (dC, dI)) (ci := 0) (C := RH) (T := FH) (N := 7) hx hb hts (fun w h => List.mem_cons_of_mem _ (inH w h)) hown hK hP 0 rfl rfl 5 (by decide) (hts _ (List.mem_cons_of_mem _ kw62)) (fun _ h9 => h9) rfl dH_putNeeded_1 ?_
  refine lv_iload_n hx hb dH_putNeeded_4 rfl (lv_at hl 1 rfl) ?_
  refine lv_aload_n hx hb dH_putNeeded_5 rfl (lv_at hl 0 rfl) ?_
  refine va_get (D := (dC, dI)) (ci := 0) (C := RH) (T := FH) (N := 7) hx hb hts (fun w h => List.mem_cons_of_mem _ (inH w h)) hown hK hP 0 rfl rfl 5 (by decide) (hts _ (List.mem_cons_of_mem _ kw62)) (fun _ h9 => h9) rfl dH_putNeeded_6 ?_
  refine lv_iload_n hx hb dH_putNeeded_9 rfl (lv_at hl 1 rfl) ?_
  refine ialdN hx hb hK hP 4 0 rfl rfl (k := mm) hm (by decide) (v := nI (D mm)) rfl dH_putNeeded_10 ?_
  refine lv_iload_n hx hb dH_putNeeded_11 rfl (lv_at hl 2 rfl) ?_
  refine lv_iload_n hx hb dH_putNeeded_12 rfl (lv_at hl 3 rfl) ?_
  refine callRS (As := [.int (nI (D mm)), .int (nI oo), .int o]) (rest := [.int (nI mm), .ref (a 4)]) ⟨hx, hb, hml, hown, hts⟩ tlB (c_H_with l (D mm) oo o (by have := hD9 mm; omega) (by omega)) kw302 kw303 kw26 kw304 ⟨rfl, rfl⟩ (n := 3) (by decide +kernel) ⟨Nat.le_of_ble_eq_true rfl, Nat.le_of_ble_eq_true rfl⟩ (nwP_pre) rfl hl.1 rfl (Nat.le_of_ble_eq_true rfl) ⟨Nat.le_of_ble_eq_true rfl, Nat.le_of_ble_eq_true rfl⟩ dH_putNeeded_13 (fun r1 hr1 => ?_)
  have hr1 : r1 = nI (mcBit (D mm) oo o) := hr1.trans (mcBit_nI _ _ _)
  subst hr1
  refine iastN hx hb hK hP hD hS 4 0 rfl rfl (k := mm) hm (by decide) (x := nI (mcBit (D mm) oo o)) (fun j => nI (va_up D mm (mcBit (D mm) oo o) j)) (fun j => by simp only [va_up]; split <;> rfl) (ws' := mcWH a cI cG n v C G X (va_up D mm (mcBit (D mm) oo o)) B) (rfl) dH_putNeeded_16 (fun H locs hP hD hS => ?_)
  refine lv_aload_n hx hb dH_putNeeded_17 rfl (lv_at hl 0 rfl) ?_
  refine lv_dup hx hb dH_putNeeded_18 rfl ?_
  refine va_get (D := (dC, dI)) (ci := 0) (C := RH) (T := FH) (N := 7) hx hb hts (fun w h => List.mem_cons_of_mem _ (inH w h)) hown hK hP 0 rfl rfl 1 (by decide) (hts _ (List.mem_cons_of_mem _ kw54)) (fun _ h9 => h9) rfl dH_putNeeded_19 ?_
  refine lv_iconst (v := 1) hx hb dH_putNeeded_22 (by decide) ?_
  refine lv_iadd hx hb dH_putNeeded_23 ?_
  refine lv_topi (fun y1 ey1 => ?_)
  have hy1 : y1 = nI (v + 1) := by rw [ey1]; exact nI_1 v
  subst hy1
  refine va_put (D := (dC, dI)) (ci := 0) (ty := .int) (C := RH) (T := FH) (N := 7) hx hb hts (fun w h => List.mem_cons_of_mem _ (inH w h)) tH tH_ok nH hown hK hP hD hS 0 rfl rfl 1 (by decide) (hts _ (List.mem_cons_of_mem _ kw54)) (fun _ h9 => h9) rfl (by decide +kernel) rfl rfl (Nat.le_of_ble_eq_true rfl) dH_putNeeded_24 (fun H locs hP hD hS => ?_)
  have hP : va_P (dC, dI) mcCl (mcWH a cI cG n (v + 1) C G X (va_up D mm (mcBit (D mm) oo o)) B) H := hP
  have hD : va_D A (mcWH a cI cG n (v + 1) C G X (va_up D mm (mcBit (D mm) oo o)) B) := hD
  exact W.vret hx hb hr (fun t ht hW => ⟨⟨(), rfl, trivial, by rw [ht]; exact hP, va_K.moved hW.alike hK, hD⟩, hS.F ht⟩) hS.2.2 dH_putNeeded_27
/-- a table with one number put -/
def mcB2 (B : Nat → Nat → Int) (i j : Nat) (z : Int) : Nat → Nat → Int := fun x y => if x = i ∧ y = j then z else B x y
theorem mcWH_rows {a : Nat → Nat} {cI cG : ClassId} {n v : Nat} {C G X D : Nat → Nat} {B B' : Nat → Nat → Int} {i : Nat} (hi : i < 12) (h : ∀ j, j ≠ i → B' j = B j) : (mcWH a cI cG n v C G X D B).set (6 + i) (a (6 + i), .inl (cI, 12, .inl (fun k => iI (B' i k)))) = mcWH a cI cG n v C G X D B' := by
  apply List.ext_getElem?
  intro k
  by_cases hk : k = 6 + i
  · subst hk
    rw [List.getElem?_set_self (by simp [mcWH]; omega), mcWH_row hi]
  · rw [List.getElem?_set_ne (Ne.symm hk)]
    by_cases h6 : k < 6
    · rcases (show k = 0 ∨ k = 1 ∨ k = 2 ∨ k = 3 ∨ k = 4 ∨ k = 5 by omega) with rfl | rfl | rfl | rfl | rfl | rfl <;> rfl
    · by_cases h18 : k < 18
      · rw [show k = 6 + (k - 6) by omega, mcWH_row (by omega), mcWH_row (by omega), h (k - 6) (by omega)]
      · rw [List.getElem?_eq_none (by simp [mcWH]; omega), List.getElem?_eq_none (by simp [mcWH]; omega)]
set_option maxHeartbeats 4000000 in
set_option maxRecDepth 100000 in
theorem c_H_putBonus (l : Launch) (dC : Nat → ClassId) (dI : Nat → Nat → Nat) (a : Nat → Nat) (cI cG : ClassId) (n v : Nat) (C G X D : Nat → Nat) (B : Nat → Nat → Int) (sz : Nat) (mm oo : Nat) (z : Int) (hm : mm < 12) (ho : oo < 12) : Met l yH_putBonus wdH_putBonus ({ frames := 0, cells := 0, slots := 0, locals := 0 }) (wrP (dC, dI) mcCl (mcWH a cI cG n v C G X D B) (mcTH cI cG) sz [.ref (a 0), .int (nI mm), .int (nI oo), .int (iI z)]) (va_Qv (fun _ : Unit => True) (fun _ t => va_P (dC, dI) mcCl (mcWH a cI cG n (v + 1) C G X D (mcB2 (mcB2 B mm oo z) oo mm z)) t.heap ∧ va_K (dC, dI) mcCl (mcTH cI cG) t ∧ va_D (va_A (mcWH a cI cG n v C G X D B) sz) (mcWH a cI cG n (v + 1) C G X D (mcB2 (mcB2 B mm oo z) oo mm z))) (va_A (mcWH a cI cG n v C G X D B) sz)) 0 0 (va_A (mcWH a cI cG n v C G X D B) sz) := by
  refine Met.ofW (cc := bH_putBonus) (maxL := 4) (ret := none) (by decide) rfl ?_
  intro p e s m args below meth c s₁ BB hml hv
  obtain ⟨rfl, hsz, hP, hK, hD0⟩ := hv
  have hx := BB.exec
  have hb := BB.bytes
  have hr := BB.returns
  have hts := atoms_spec (ws := wdH_putBonus) BB.pre
  have hown : s.vm.findClass RH = some m.cls := findClass_of_methodNamed BB.named
  have hlocks := BB.notSynchronized
  subst hsz
  have hD := hD0.self (sz := s.heap.size)
  generalize hAe : va_A (mcWH a cI cG n v C G X D B) s.heap.size = A at hD ⊢
  have hA : ∀ q : Nat, s.heap.size ≤ q → A q := fun q h => by rw [← hAe]; exact Or.inr h
  have hS : va_S A s.heap s.heap [] := va_S.rf
  have hl := lv_entry ([.ref (a 0), .int (nI mm), .int (nI oo), .int (iI z)]) (n := 4) (Nat.le_of_ble_eq_true rfl)
  rw [lg_entry_eq]
  generalize (lg_sl ([.ref (a 0), .int (nI mm), .int (nI oo), .int (iI z)]) ++ List.replicate (4 - (lg_sl ([.ref (a 0), .int (nI mm), .int (nI oo), .int (iI z)])).length) Slot.unset).toArray = ls at hl ⊢
  have hl : lv_has ls 4 [(0, .ref (a 0)), (1, .int (nI mm)), (2, .int (nI oo)), (3, .int (iI z))] := hl
  refine lv_aload_n hx hb dH_putBonus_0 rfl (lv_at hl 0 rfl) ?_
  refine va_get (D := (dC, dI)) (ci := 0) (C := RH) (T := FH) (N := 7) hx hb hts (fun w h => List.mem_cons_of_mem _ (inH w h)) hown hK hP 0 rfl rfl 6 (by decide) (hts _ (List.mem_cons_of_mem _ kw64)) (fun _ h9 => h9) rfl dH_putBonus_1 ?_
  refine lv_iload_n hx hb dH_putBonus_4 rfl (lv_at hl 1 rfl) ?_
  refine aldaN hx hb hK hP 5 1 rfl rfl (k := mm) hm (by decide) (r := (a (6 + mm))) (if_pos hm) dH_putBonus_5 ?_
  refine lv_iload_n hx hb dH_putBonus_6 rfl (lv_at hl 2 rfl) ?_
  refine lv_iload_n hx hb dH_putBonus_7 rfl (lv_at hl 3 rfl) ?_
  refine iastN hx hb hK hP hD hS (6 + mm) 0 (mcWH_row hm) rfl (k := oo) ho (by decide) (x := iI z) (fun j => iI ((mcB2 B mm oo z) mm j)) (fun j => by simp only [mcB2, true_and]; split <;> rfl) (ws' := mcWH a cI cG n v C G X D (mcB2 B mm oo z)) (mcWH_rows hm (fun j hj => funext fun k => by simp [mcB2, hj])) dH_putBonus_8 (fun H locs hP hD hS => ?_)
  refine lv_aload_n hx hb dH_putBonus_9 rfl (lv_at hl 0 rfl) ?_
  refine va_get (D := (dC, dI)) (ci := 0) (C := RH) (T := FH) (N := 7) hx hb hts (fun w h => List.mem_cons_of_mem _ (inH w h)) hown hK hP 0 rfl rfl 6 (by decide) (hts _ (List.mem_cons_of_mem _ kw64)) (fun _ h9 => h9) rfl dH_putBonus_10 ?_
  refine lv_iload_n hx hb dH_putBonus_13 rfl (lv_at hl 2 rfl) ?_
  refine aldaN hx hb hK hP 5 1 rfl rfl (k := oo) ho (by decide) (r := (a (6 + oo))) (if_pos ho) dH_putBonus_14 ?_
  refine lv_iload_n hx hb dH_putBonus_15 rfl (lv_at hl 1 rfl) ?_
  refine lv_iload_n hx hb dH_putBonus_16 rfl (lv_at hl 3 rfl) ?_
  refine iastN hx hb hK hP hD hS (6 + oo) 0 (mcWH_row ho) rfl (k := mm) hm (by decide) (x := iI z) (fun j => iI ((mcB2 (mcB2 B mm oo z) oo mm z) oo j)) (fun j => by rw [show (mcB2 (mcB2 B mm oo z) oo mm z) oo j = if oo = oo ∧ j = mm then z else (mcB2 B mm oo z) oo j from rfl]; simp only [true_and]; split <;> rfl) (ws' := mcWH a cI cG n v C G X D (mcB2 (mcB2 B mm oo z) oo mm z)) (mcWH_rows (B' := mcB2 (mcB2 B mm oo z) oo mm z) ho (fun j hj => funext fun k => by simp [mcB2, hj])) dH_putBonus_17 (fun H locs hP hD hS => ?_)
  refine lv_aload_n hx hb dH_putBonus_18 rfl (lv_at hl 0 rfl) ?_
  refine lv_dup hx hb dH_putBonus_19 rfl ?_
  refine va_get (D := (dC, dI)) (ci := 0) (C := RH) (T := FH) (N := 7) hx hb hts (fun w h => List.mem_cons_of_mem _ (inH w h)) hown hK hP 0 rfl rfl 1 (by decide) (hts _ (List.mem_cons_of_mem _ kw54)) (fun _ h9 => h9) rfl dH_putBonus_20 ?_
  refine lv_iconst (v := 1) hx hb dH_putBonus_23 (by decide) ?_
  refine lv_iadd hx hb dH_putBonus_24 ?_
  refine lv_topi (fun y1 ey1 => ?_)
  have hy1 : y1 = nI (v + 1) := by rw [ey1]; exact nI_1 v
  subst hy1
  refine va_put (D := (dC, dI)) (ci := 0) (ty := .int) (C := RH) (T := FH) (N := 7) hx hb hts (fun w h => List.mem_cons_of_mem _ (inH w h)) tH tH_ok nH hown hK hP hD hS 0 rfl rfl 1 (by decide) (hts _ (List.mem_cons_of_mem _ kw54)) (fun _ h9 => h9) rfl (by decide +kernel) rfl rfl (Nat.le_of_ble_eq_true rfl) dH_putBonus_25 (fun H locs hP hD hS => ?_)
  have hP : va_P (dC, dI) mcCl (mcWH a cI cG n (v + 1) C G X D (mcB2 (mcB2 B mm oo z) oo mm z)) H := hP
  have hD : va_D A (mcWH a cI cG n (v + 1) C G X D (mcB2 (mcB2 B mm oo z) oo mm z)) := hD
  exact W.vret hx hb hr (fun t ht hW => ⟨⟨(), rfl, trivial, by rw [ht]; exact hP, va_K.moved hW.alike hK, hD⟩, hS.F ht⟩) hS.2.2 dH_putBonus_28
