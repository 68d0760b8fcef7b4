/-! the constructors -/
def mcAdH (h0 q1 q2 q3 q4 q5 : Nat) (r : Nat → Nat) : Nat → Nat := fun k => match k with
  | 0 => h0
  | 1 => q1
  | 2 => q2
  | 3 => q3
  | 4 => q4
  | 5 => q5
  | k + 6 => r k
theorem mcWH_new {h0 q1 q2 q3 q4 q5 : Nat} {r : Nat → Nat} {cI cG : ClassId} : [(h0, .inr (0, [.int 0, .int 0, .ref q1, .ref q2, .ref q3, .ref q4, .ref q5])), (q1, .inl (cI, 12, .inl (fun _ => 0))), (q2, .inl (cI, 12, .inl (fun _ => 0))), (q3, .inl (cI, 12, .inl (fun _ => 0))), (q4, .inl (cI, 12, .inl (fun _ => 0))), (q5, .inl (cG, 12, .inr (.inr (.inr (.inr (fun i => if i < 12 then some (r i) else none))))))] ++ (List.range 12).map (fun j => (r j, .inl (cI, 12, .inl (fun _ => 0)))) = (mcWH (mcAdH h0 q1 q2 q3 q4 q5 r) cI cG 0 0 (fun _ => 0) (fun _ => 0) (fun _ => 0) (fun _ => 0) (fun _ _ => 0) : va_W) := by
  have e : ∀ j, mcAdH h0 q1 q2 q3 q4 q5 r (6 + j) = r j := fun j => by rw [Nat.add_comm]; rfl
  unfold mcWH
  simp only [e]
  rfl
def mcAdA (h0 q1 q2 : Nat) : Nat → Nat := fun k => match k with
  | 0 => h0
  | 1 => q1
  | _ => q2
theorem mcWA_new {h0 q1 q2 : Nat} {cI : ClassId} : [(h0, .inr (1, [.int 0, .int (-1), .ref q1, .ref q2])), (q1, .inl (cI, 4096, .inl (fun _ => 0))), (q2, .inl (cI, 4096, .inl (fun _ => 0)))] = (mcWA (mcAdA h0 q1 q2) cI 0 (-1) (fun _ => 0) (fun _ => 0) : va_W) := rfl
def mcAdP (h0 q1 q2 q3 q4 q5 q6 : Nat) (r t : Nat → Nat) : Nat → Nat := fun k => match k with
  | 0 => h0
  | 1 => q1
  | 2 => q2
  | 3 => q3
  | 4 => q4
  | 5 => q5
  | 6 => q6
  | k + 7 => if k < 4 then r k else t (k - 4)
theorem mcWP_new {h0 q1 q2 q3 q4 q5 q6 : Nat} {r t : Nat → Nat} {cI cG : ClassId} : [(h0, .inr (2, [.ref q1, .ref q2, .ref q3, .ref q4, .ref q5, .ref q6, .int 0])), (q1, .inl (cI, 4, .inl (fun _ => 0))), (q2, .inl (cG, 4, .inr (.inr (.inr (.inr (fun i => if i < 4 then some (r i) else none)))))), (q3, .inl (cG, 4, .inr (.inr (.inr (.inr (fun i => if i < 4 then some (t i) else none)))))), (q4, .inl (cI, 4, .inl (fun _ => 0))), (q5, .inl (cI, 64, .inl (fun _ => 0))), (q6, .inl (cI, 64, .inl (fun _ => 0))), (r 0, .inl (cI, 64, .inl (fun _ => 0))), (r 1, .inl (cI, 64, .inl (fun _ => 0))), (r 2, .inl (cI, 64, .inl (fun _ => 0))), (r 3, .inl (cI, 64, .inl (fun _ => 0))), (t 0, .inl (cI, 64, .inl (fun _ => 0))), (t 1, .inl (cI, 64, .inl (fun _ => 0))), (t 2, .inl (cI, 64, .inl (fun _ => 0))), (t 3, .inl (cI, 64, .inl (fun _ => 0)))] = (mcWP (mcAdP h0 q1 q2 q3 q4 q5 q6 r t) cI cG (fun _ => 0) (fun _ _ => 0) (fun _ _ => 0) (fun _ => 0) (fun _ => 0) (fun _ => 0) 0 : va_W) := by
  have e1 : (fun i => if i < 4 then some (r i) else none) = (fun j => if j < 4 then some (mcAdP h0 q1 q2 q3 q4 q5 q6 r t (7 + j)) else none) := by
    funext j
    by_cases h : j < 4
    · rw [if_pos h, if_pos h, Nat.add_comm 7 j]
      show some (r j) = some (if j < 4 then r j else t (j - 4))
      rw [if_pos h]
    · rw [if_neg h, if_neg h]
  have e2 : (fun i => if i < 4 then some (t i) else none) = (fun j => if j < 4 then some (mcAdP h0 q1 q2 q3 q4 q5 q6 r t (11 + j)) else none) := by
    funext j
    by_cases h : j < 4
    · rw [if_pos h, if_pos h, show 11 + j = (j + 4) + 7 by omega]
      show some (t j) = some (if j + 4 < 4 then r (j + 4) else t (j + 4 - 4))
      rw [if_neg (by omega), Nat.add_sub_cancel]
    · rw [if_neg h, if_neg h]
  rw [e1, e2]
  rfl
def mcAdR (h0 q1 q2 q3 q4 q5 q6 q7 q8 q9 : Nat) : Nat → Nat := fun k => match k with
  | 0 => h0
  | 1 => q1
  | 2 => q2
  | 3 => q3
  | 4 => q4
  | 5 => q5
  | 6 => q6
  | 7 => q7
  | 8 => q8
  | _ => q9
theorem mcWR_new {h0 q1 q2 q3 q4 q5 q6 q7 q8 q9 : Nat} {cI cZ : ClassId} : [(h0, .inr (4, [.int 0, .int 0, .ref q1, .ref q2, .ref q3, .ref q4, .ref q5, .ref q6, .ref q7, .ref q8, .ref q9])), (q1, .inl (cI, 12, .inl (fun _ => 0))), (q2, .inl (cI, 12, .inl (fun _ => 0))), (q3, .inl (cZ, 144, .inl (fun _ => 0))), (q4, .inl (cZ, 144, .inl (fun _ => 0))), (q5, .inl (cI, 144, .inl (fun _ => 0))), (q6, .inl (cI, 4, .inl (fun _ => 0))), (q7, .inl (cI, 320, .inl (fun _ => 0))), (q8, .inl (cI, 320, .inl (fun _ => 0))), (q9, .inl (cI, 320, .inl (fun _ => 0)))] = (mcWR (mcAdR h0 q1 q2 q3 q4 q5 q6 q7 q8 q9) cI cZ 0 0 (fun _ => 0) (fun _ => 0) (fun _ => 0) (fun _ => 0) (fun _ _ => 0) (fun _ => 0) (fun _ => 0) (fun _ => 0) (fun _ => 0) : va_W) := by
  unfold mcWR
  simp only [Nat.zero_testBit]
  rfl
set_option maxHeartbeats 4000000 in
set_option maxRecDepth 100000 in
theorem c_H_init (l : Launch) (dC : Nat → ClassId) (dI : Nat → Nat → Nat) (h0 : Nat) (cI cG cZ cJ : ClassId) (sz : Nat) : Met l yH_init wdH_init ({ frames := 1, cells := 17, slots := 204, locals := 12 }) (mcIn (dC, dI) [(h0, .inr (0, [.int 0, .int 0, .null, .null, .null, .null, .null]))] (mcT4 cI cG cZ cJ) sz [.ref h0]) (mcIq (fun x : Nat → Nat => x 0 = h0) (fun x => mcWH x cI cG 0 0 (fun _ => 0) (fun _ => 0) (fun _ => 0) (fun _ => 0) (fun _ _ => 0)) (dC, dI) [(h0, .inr (0, [.int 0, .int 0, .null, .null, .null, .null, .null]))] (mcT4 cI cG cZ cJ) sz) 17 204 (va_A [(h0, .inr (0, [.int 0, .int 0, .null, .null, .null, .null, .null]))] sz) := by
  refine Met.ofW (cc := bH_init) (maxL := 1) (ret := none) (by decide) rfl ?_
  intro p e s m args below meth c s₁ BB hml hv
  obtain ⟨⟨rfl, hsz, hP, hK, hD0⟩, hN⟩ := hv
  have hx := BB.exec
  have hb := BB.bytes
  have hr := BB.returns
  have hts := atoms_spec (ws := wdH_init) BB.pre
  have hown : s.vm.findClass RH = some m.cls := findClass_of_methodNamed BB.named
  have hlocks := BB.notSynchronized
  have hin : meth.name = "<init>" := (name_of_methodNamed BB.named BB.method).1
  unfold mcIq
  subst hsz
  have hD := hD0.self (sz := s.heap.size)
  generalize hAe : va_A ([(h0, .inr (0, [.int 0, .int 0, .null, .null, .null, .null, .null]))]) s.heap.size = A at hD ⊢
  have hA : ∀ q : Nat, s.heap.size ≤ q → A q := fun q h => by rw [← hAe]; exact Or.inr h
  have hS : va_S A s.heap s.heap [] := va_S.rf
  have hl := lv_entry ([.ref h0]) (n := 1) (Nat.le_of_ble_eq_true rfl)
  rw [lg_entry_eq]
  generalize (lg_sl ([.ref h0]) ++ List.replicate (1 - (lg_sl ([.ref h0])).length) Slot.unset).toArray = ls at hl ⊢
  have hl : lv_has ls 1 [(0, .ref h0)] := hl
  refine lv_aload_n hx hb dH_init_0 rfl (lv_at hl 0 rfl) ?_
  refine W.objInit hx hb hown (hts _ (List.mem_cons_of_mem _ kw48)) (hts _ (List.mem_cons_of_mem _ kw42)) (hts _ (List.mem_cons_of_mem _ kw43)) rfl (by rw [hml]; exact hl.1) rfl dH_init_1 (Nat.le_of_ble_eq_true rfl) (Nat.le_of_ble_eq_true rfl) ?_
  refine W.eq (g2 := F0 m 4 ls []) rfl ?_
  refine lv_aload_n hx hb dH_init_4 rfl (lv_at hl 0 rfl) ?_
  refine lv_bipush (v := 12) hx hb dH_init_5 (by decide) ?_
  refine newaN (ty := .int) hx hb rfl ra_int (hts _ (List.mem_cons_of_mem _ kw82)) hK 0 rfl hP hD hS hA 12 (12, .inl (fun _ => 0)) (fun _ => rfl) (by decide) (by decide) (by decide) (Nat.le_of_ble_eq_true rfl) (Nat.le_of_ble_eq_true rfl) dH_init_7 (fun q1 H hP hD hS => ?_)
  have hP : va_P (dC, dI) mcCl ([(h0, .inr (0, [.int 0, .int 0, .null, .null, .null, .null, .null])), (q1, .inl (cI, 12, .inl (fun _ => 0)))]) H := hP
  have hD : va_D A ([(h0, .inr (0, [.int 0, .int 0, .null, .null, .null, .null, .null])), (q1, .inl (cI, 12, .inl (fun _ => 0)))]) := hD
  refine va_putF (D := (dC, dI)) (ci := 0) (ty := (.array .int)) (C := RH) (T := FH) (N := 7) hx hb hts (fun w h => List.mem_cons_of_mem _ (inH w h)) tH tH_ok nH hown hK hP hD hS 0 rfl rfl 2 (by decide) (hts _ (List.mem_cons_of_mem _ kw56)) (fun _ h9 => h9) rfl hin rfl (by decide +kernel) rfl rfl (Nat.le_of_ble_eq_true rfl) dH_init_9 (fun H locs hP hD hS => ?_)
  have hP : va_P (dC, dI) mcCl ([(h0, .inr (0, [.int 0, .int 0, .ref q1, .null, .null, .null, .null])), (q1, .inl (cI, 12, .inl (fun _ => 0)))]) H := hP
  have hD : va_D A ([(h0, .inr (0, [.int 0, .int 0, .ref q1, .null, .null, .null, .null])), (q1, .inl (cI, 12, .inl (fun _ => 0)))]) := hD
  refine lv_aload_n hx hb dH_init_12 rfl (lv_at hl 0 rfl) ?_
  refine lv_bipush (v := 12) hx hb dH_init_13 (by decide) ?_
  refine newaN (ty := .int) hx hb rfl ra_int (hts _ (List.mem_cons_of_mem _ kw82)) hK 0 rfl hP hD hS hA 12 (12, .inl (fun _ => 0)) (fun _ => rfl) (by decide) (by decide) (by decide) (Nat.le_of_ble_eq_true rfl) (Nat.le_of_ble_eq_true rfl) dH_init_15 (fun q2 H hP hD hS => ?_)
  have hP : va_P (dC, dI) mcCl ([(h0, .inr (0, [.int 0, .int 0, .ref q1, .null, .null, .null, .null])), (q1, .inl (cI, 12, .inl (fun _ => 0))), (q2, .inl (cI, 12, .inl (fun _ => 0)))]) H := hP
  have hD : va_D A ([(h0, .inr (0, [.int 0, .int 0, .ref q1, .null, .null, .null, .null])), (q1, .inl (cI, 12, .inl (fun _ => 0))), (q2, .inl (cI, 12, .inl (fun _ => 0)))]) := hD
  refine va_putF (D := (dC, dI)) (ci := 0) (ty := (.array .int)) (C := RH) (T := FH) (N := 7) hx hb hts (fun w h => List.mem_cons_of_mem _ (inH w h)) tH tH_ok nH hown hK hP hD hS 0 rfl rfl 3 (by decide) (hts _ (List.mem_cons_of_mem _ kw58)) (fun _ h9 => h9) rfl hin rfl (by decide +kernel) rfl rfl (Nat.le_of_ble_eq_true rfl) dH_init_17 (fun H locs hP hD hS => ?_)
  have hP : va_P (dC, dI) mcCl ([(h0, .inr (0, [.int 0, .int 0, .ref q1, .ref q2, .null, .null, .null])), (q1, .inl (cI, 12, .inl (fun _ => 0))), (q2, .inl (cI, 12, .inl (fun _ => 0)))]) H := hP
  have hD : va_D A ([(h0, .inr (0, [.int 0, .int 0, .ref q1, .ref q2, .null, .null, .null])), (q1, .inl (cI, 12, .inl (fun _ => 0))), (q2, .inl (cI, 12, .inl (fun _ => 0)))]) := hD
  refine lv_aload_n hx hb dH_init_20 rfl (lv_at hl 0 rfl) ?_
  refine lv_bipush (v := 12) hx hb dH_init_21 (by decide) ?_
  refine newaN (ty := .int) hx hb rfl ra_int (hts _ (List.mem_cons_of_mem _ kw82)) hK 0 rfl hP hD hS hA 12 (12, .inl (fun _ => 0)) (fun _ => rfl) (by decide) (by decide) (by decide) (Nat.le_of_ble_eq_true rfl) (Nat.le_of_ble_eq_true rfl) dH_init_23 (fun q3 H hP hD hS => ?_)
  have hP : va_P (dC, dI) mcCl ([(h0, .inr (0, [.int 0, .int 0, .ref q1, .ref q2, .null, .null, .null])), (q1, .inl (cI, 12, .inl (fun _ => 0))), (q2, .inl (cI, 12, .inl (fun _ => 0))), (q3, .inl (cI, 12, .inl (fun _ => 0)))]) H := hP
  have hD : va_D A ([(h0, .inr (0, [.int 0, .int 0, .ref q1, .ref q2, .null, .null, .null])), (q1, .inl (cI, 12, .inl (fun _ => 0))), (q2, .inl (cI, 12, .inl (fun _ => 0))), (q3, .inl (cI, 12, .inl (fun _ => 0)))]) := hD
  refine va_putF (D := (dC, dI)) (ci := 0) (ty := (.array .int)) (C := RH) (T := FH) (N := 7) hx hb hts (fun w h => List.mem_cons_of_mem _ (inH w h)) tH tH_ok nH hown hK hP hD hS 0 rfl rfl 4 (by decide) (hts _ (List.mem_cons_of_mem _ kw60)) (fun _ h9 => h9) rfl hin rfl (by decide +kernel) rfl rfl (Nat.le_of_ble_eq_true rfl) dH_init_25 (fun H locs hP hD hS => ?_)
  have hP : va_P (dC, dI) mcCl ([(h0, .inr (0, [.int 0, .int 0, .ref q1, .ref q2, .ref q3, .null, .null])), (q1, .inl (cI, 12, .inl (fun _ => 0))), (q2, .inl (cI, 12, .inl (fun _ => 0))), (q3, .inl (cI, 12, .inl (fun _ => 0)))]) H := hP
  have hD : va_D A ([(h0, .inr (0, [.int 0, .int 0, .ref q1, .ref q2, .ref q3, .null, .null])), (q1, .inl (cI, 12, .inl (fun _ => 0))), (q2, .inl (cI, 12, .inl (fun _ => 0))), (q3, .inl (cI, 12, .inl (fun _ => 0)))]) := hD
  refine lv_aload_n hx hb dH_init_28 rfl (lv_at hl 0 rfl) ?_
  refine lv_bipush (v := 12) hx hb dH_init_29 (by decide) ?_
  refine newaN (ty := .int) hx hb rfl ra_int (hts _ (List.mem_cons_of_mem _ kw82)) hK 0 rfl hP hD hS hA 12 (12, .inl (fun _ => 0)) (fun _ => rfl) (by decide) (by decide) (by decide) (Nat.le_of_ble_eq_true rfl) (Nat.le_of_ble_eq_true rfl) dH_init_31 (fun q4 H hP hD hS => ?_)
  have hP : va_P (dC, dI) mcCl ([(h0, .inr (0, [.int 0, .int 0, .ref q1, .ref q2, .ref q3, .null, .null])), (q1, .inl (cI, 12, .inl (fun _ => 0))), (q2, .inl (cI, 12, .inl (fun _ => 0))), (q3, .inl (cI, 12, .inl (fun _ => 0))), (q4, .inl (cI, 12, .inl (fun _ => 0)))]) H := hP
  have hD : va_D A ([(h0, .inr (0, [.int 0, .int 0, .ref q1, .ref q2, .ref q3, .null, .null])), (q1, .inl (cI, 12, .inl (fun _ => 0))), (q2, .inl (cI, 12, .inl (fun _ => 0))), (q3, .inl (cI, 12, .inl (fun _ => 0))), (q4, .inl (cI, 12, .inl (fun _ => 0)))]) := hD
  refine va_putF (D := (dC, dI)) (ci := 0) (ty := (.array .int)) (C := RH) (T := FH) (N := 7) hx hb hts (fun w h => List.mem_cons_of_mem _ (inH w h)) tH tH_ok nH hown hK hP hD hS 0 rfl rfl 5 (by decide) (hts _ (List.mem_cons_of_mem _ kw62)) (fun _ h9 => h9) rfl hin rfl (by decide +kernel) rfl rfl (Nat.le_of_ble_eq_true rfl) dH_init_33 (fun H locs hP hD hS => ?_)
  have hP : va_P (dC, dI) mcCl ([(h0, .inr (0, [.int 0, .int 0, .ref q1, .ref q2, .ref q3, .ref q4, .null])), (q1, .inl (cI, 12, .inl (fun _ => 0))), (q2, .inl (cI, 12, .inl (fun _ => 0))), (q3, .inl (cI, 12, .inl (fun _ => 0))), (q4, .inl (cI, 12, .inl (fun _ => 0)))]) H := hP
  have hD : va_D A ([(h0, .inr (0, [.int 0, .int 0, .ref q1, .ref q2, .ref q3, .ref q4, .null])), (q1, .inl (cI, 12, .inl (fun _ => 0))), (q2, .inl (cI, 12, .inl (fun _ => 0))), (q3, .inl (cI, 12, .inl (fun _ => 0))), (q4, .inl (cI, 12, .inl (fun _ => 0)))]) := hD
  refine lv_aload_n hx hb dH_init_36 rfl (lv_at hl 0 rfl) ?_
  refine lv_bipush (v := 12) hx hb dH_init_37 (by decide) ?_
  refine lv_bipush (v := 12) hx hb dH_init_39 (by decide) ?_
  refine mnaN hx hb hown (hts _ (List.mem_cons_of_mem _ kw49)) hN.1 (hts _ (List.mem_cons_of_mem _ kw82)) hK 0 1 rfl rfl hP hD hS hA 12 12 (by decide) (by decide) (by decide) (by decide) (by decide) (by decide) (Nat.le_of_ble_eq_true rfl) (Nat.le_of_ble_eq_true rfl) dH_init_41 (fun q5 r5 H hP hD hS => ?_)
  have hP : va_P (dC, dI) mcCl ([(h0, .inr (0, [.int 0, .int 0, .ref q1, .ref q2, .ref q3, .ref q4, .null])), (q1, .inl (cI, 12, .inl (fun _ => 0))), (q2, .inl (cI, 12, .inl (fun _ => 0))), (q3, .inl (cI, 12, .inl (fun _ => 0))), (q4, .inl (cI, 12, .inl (fun _ => 0))), (q5, .inl (cG, 12, .inr (.inr (.inr (.inr (fun i => if i < 12 then some (r5 i) else none))))))] ++ (List.range 12).map (fun j => (r5 j, .inl (cI, 12, .inl (fun _ => 0))))) H := hP
  have hD : va_D A ([(h0, .inr (0, [.int 0, .int 0, .ref q1, .ref q2, .ref q3, .ref q4, .null])), (q1, .inl (cI, 12, .inl (fun _ => 0))), (q2, .inl (cI, 12, .inl (fun _ => 0))), (q3, .inl (cI, 12, .inl (fun _ => 0))), (q4, .inl (cI, 12, .inl (fun _ => 0))), (q5, .inl (cG, 12, .inr (.inr (.inr (.inr (fun i => if i < 12 then some (r5 i) else none))))))] ++ (List.range 12).map (fun j => (r5 j, .inl (cI, 12, .inl (fun _ => 0))))) := hD
  refine va_putF (D := (dC, dI)) (ci := 0) (ty := (.array (.array .int))) (C := RH) (T := FH) (N := 7) hx hb hts (fun w h => List.mem_cons_of_mem _ (inH w h)) tH tH_ok nH hown hK hP hD hS 0 rfl rfl 6 (by decide) (hts _ (List.mem_cons_of_mem _ kw64)) (fun _ h9 => h9) rfl hin rfl (by decide +kernel) rfl rfl (Nat.le_of_ble_eq_true rfl) dH_init_45 (fun H locs hP hD hS => ?_)
  have hP : va_P (dC, dI) mcCl ([(h0, .inr (0, [.int 0, .int 0, .ref q1, .ref q2, .ref q3, .ref q4, .ref q5])), (q1, .inl (cI, 12, .inl (fun _ => 0))), (q2, .inl (cI, 12, .inl (fun _ => 0))), (q3, .inl (cI, 12, .inl (fun _ => 0))), (q4, .inl (cI, 12, .inl (fun _ => 0))), (q5, .inl (cG, 12, .inr (.inr (.inr (.inr (fun i => if i < 12 then some (r5 i) else none))))))] ++ (List.range 12).map (fun j => (r5 j, .inl (cI, 12, .inl (fun _ => 0))))) H := hP
  have hD : va_D A ([(h0, .inr (0, [.int 0, .int 0, .ref q1, .ref q2, .ref q3, .ref q4, .ref q5])), (q1, .inl (cI, 12, .inl (fun _ => 0))), (q2, .inl (cI, 12, .inl (fun _ => 0))), (q3, .inl (cI, 12, .inl (fun _ => 0))), (q4, .inl (cI, 12, .inl (fun _ => 0))), (q5, .inl (cG, 12, .inr (.inr (.inr (.inr (fun i => if i < 12 then some (r5 i) else none))))))] ++ (List.range 12).map (fun j => (r5 j, .inl (cI, 12, .inl (fun _ => 0))))) := hD
  rw [mcWH_new] at hP hD
  refine W.widen (k := 17) (n := 204) (by decide) (by decide) ?_
  exact W.vret hx hb hr (fun t ht hW => ⟨⟨mcAdH h0 q1 q2 q3 q4 q5 r5, rfl, rfl, by rw [ht]; exact hP, va_K.moved hW.alike hK, hD⟩, hS.F ht⟩) hS.2.2 dH_init_48
set_option maxHeartbeats 4000000 in
set_option maxRecDepth 100000 in
theorem c_A_init (l : Launch) (dC : Nat → ClassId) (dI : Nat → Nat → Nat) (h0 : Nat) (cI cG cZ cJ : ClassId) (sz : Nat) : Met l yA_init wdA_init ({ frames := 1, cells := 2, slots := 8192, locals := 12 }) (mcIn (dC, dI) [(h0, .inr (1, [.int 0, .int 0, .null, .null]))] (mcT4 cI cG cZ cJ) sz [.ref h0]) (mcIq (fun x : Nat → Nat => x 0 = h0) (fun x => mcWA x cI 0 (-1) (fun _ => 0) (fun _ => 0)) (dC, dI) [(h0, .inr (1, [.int 0, .int 0, .null, .null]))] (mcT4 cI cG cZ cJ) sz) 2 8192 (va_A [(h0, .inr (1, [.int 0, .int 0, .null, .null]))] sz) := by
  refine Met.ofW (cc := bA_init) (maxL := 1) (ret := none) (by decide) rfl ?_
  intro p e s m args below meth c s₁ BB hml hv
  obtain ⟨⟨rfl, hsz, hP, hK, hD0⟩, hN⟩ := hv
  have hx := BB.exec
  have hb := BB.bytes
  have hr := BB.returns
  have hts := atoms_spec (ws := wdA_init) BB.pre
  have hown : s.vm.findClass RA = some m.cls := findClass_of_methodNamed BB.named
  have hlocks := BB.notSynchronized
  have hin : meth.name = "<init>" := (name_of_methodNamed BB.named BB.method).1
  unfold mcIq
  subst hsz
  have hD := hD0.self (sz := s.heap.size)
  generalize hAe : va_A ([(h0, .inr (1, [.int 0, .int 0, .null, .null]))]) s.heap.size = A at hD ⊢
  have hA : ∀ q : Nat, s.heap.size ≤ q → A q := fun q h => by rw [← hAe]; exact Or.inr h
  have hS : va_S A s.heap s.heap [] := va_S.rf
  have hl := lv_entry ([.ref h0]) (n := 1) (Nat.le_of_ble_eq_true rfl)
  rw [lg_entry_eq]
  generalize (lg_sl ([.ref h0]) ++ List.replicate (1 - (lg_sl ([.ref h0])).length) Slot.unset).toArray = ls at hl ⊢
  have hl : lv_has ls 1 [(0, .ref h0)] := hl
  refine lv_aload_n hx hb dA_init_0 rfl (lv_at hl 0 rfl) ?_
  refine W.objInit hx hb hown (hts _ (List.mem_cons_of_mem _ kw87)) (hts _ (List.mem_cons_of_mem _ kw42)) (hts _ (List.mem_cons_of_mem _ kw43)) rfl (by rw [hml]; exact hl.1) rfl dA_init_1 (Nat.le_of_ble_eq_true rfl) (Nat.le_of_ble_eq_true rfl) ?_
  refine W.eq (g2 := F0 m 4 ls []) rfl ?_
  refine lv_aload_n hx hb dA_init_4 rfl (lv_at hl 0 rfl) ?_
  refine lv_iconst (v := (-1)) hx hb dA_init_5 (by decide) ?_
  refine va_put (D := (dC, dI)) (ci := 1) (ty := .int) (C := RA) (T := FA) (N := 4) hx hb hts (fun w h => List.mem_cons_of_mem _ (inA w h)) tA tA_ok nA hown hK hP hD hS 0 rfl rfl 1 (by decide) (hts _ (List.mem_cons_of_mem _ kw90)) (fun _ h9 => h9) rfl (by decide +kernel) rfl rfl (Nat.le_of_ble_eq_true rfl) dA_init_6 (fun H locs hP hD hS => ?_)
  have hP : va_P (dC, dI) mcCl ([(h0, .inr (1, [.int 0, .int (-1), .null, .null]))]) H := hP
  have hD : va_D A ([(h0, .inr (1, [.int 0, .int (-1), .null, .null]))]) := hD
  refine lv_aload_n hx hb dA_init_9 rfl (lv_at hl 0 rfl) ?_
  refine lv_sipush (v := 4096) hx hb dA_init_10 (by decide) ?_
  refine newaN (ty := .int) hx hb rfl ra_int (hts _ (List.mem_cons_of_mem _ kw82)) hK 0 rfl hP hD hS hA 4096 (4096, .inl (fun _ => 0)) (fun _ => rfl) (by decide) (by decide) (by decide) (Nat.le_of_ble_eq_true rfl) (Nat.le_of_ble_eq_true rfl) dA_init_13 (fun q1 H hP hD hS => ?_)
  have hP : va_P (dC, dI) mcCl ([(h0, .inr (1, [.int 0, .int (-1), .null, .null])), (q1, .inl (cI, 4096, .inl (fun _ => 0)))]) H := hP
  have hD : va_D A ([(h0, .inr (1, [.int 0, .int (-1), .null, .null])), (q1, .inl (cI, 4096, .inl (fun _ => 0)))]) := hD
  refine va_putF (D := (dC, dI)) (ci := 1) (ty := (.array .int)) (C := RA) (T := FA) (N := 4) hx hb hts (fun w h => List.mem_cons_of_mem _ (inA w h)) tA tA_ok nA hown hK hP hD hS 0 rfl rfl 2 (by decide) (hts _ (List.mem_cons_of_mem _ kw91)) (fun _ h9 => h9) rfl hin rfl (by decide +kernel) rfl rfl (Nat.le_of_ble_eq_true rfl) dA_init_15 (fun H locs hP hD hS => ?_)
  have hP : va_P (dC, dI) mcCl ([(h0, .inr (1, [.int 0, .int (-1), .ref q1, .null])), (q1, .inl (cI, 4096, .inl (fun _ => 0)))]) H := hP
  have hD : va_D A ([(h0, .inr (1, [.int 0, .int (-1), .ref q1, .null])), (q1, .inl (cI, 4096, .inl (fun _ => 0)))]) := hD
  refine lv_aload_n hx hb dA_init_18 rfl (lv_at hl 0 rfl) ?_
  refine lv_sipush (v := 4096) hx hb dA_init_19 (by decide) ?_
  refine newaN (ty := .int) hx hb rfl ra_int (hts _ (List.mem_cons_of_mem _ kw82)) hK 0 rfl hP hD hS hA 4096 (4096, .inl (fun _ => 0)) (fun _ => rfl) (by decide) (by decide) (by decide) (Nat.le_of_ble_eq_true rfl) (Nat.le_of_ble_eq_true rfl) dA_init_22 (fun q2 H hP hD hS => ?_)
  have hP : va_P (dC, dI) mcCl ([(h0, .inr (1, [.int 0, .int (-1), .ref q1, .null])), (q1, .inl (cI, 4096, .inl (fun _ => 0))), (q2, .inl (cI, 4096, .inl (fun _ => 0)))]) H := hP
  have hD : va_D A ([(h0, .inr (1, [.int 0, .int (-1), .ref q1, .null])), (q1, .inl (cI, 4096, .inl (fun _ => 0))), (q2, .inl (cI, 4096, .inl (fun _ => 0)))]) := hD
  refine va_putF (D := (dC, dI)) (ci := 1) (ty := (.array .int)) (C := RA) (T := FA) (N := 4) hx hb hts (fun w h => List.mem_cons_of_mem _ (inA w h)) tA tA_ok nA hown hK hP hD hS 0 rfl rfl 3 (by decide) (hts _ (List.mem_cons_of_mem _ kw92)) (fun _ h9 => h9) rfl hin rfl (by decide +kernel) rfl rfl (Nat.le_of_ble_eq_true rfl) dA_init_24 (fun H locs hP hD hS => ?_)
  have hP : va_P (dC, dI) mcCl ([(h0, .inr (1, [.int 0, .int (-1), .ref q1, .ref q2])), (q1, .inl (cI, 4096, .inl (fun _ => 0))), (q2, .inl (cI, 4096, .inl (fun _ => 0)))]) H := hP
  have hD : va_D A ([(h0, .inr (1, [.int 0, .int (-1), .ref q1, .ref q2])), (q1, .inl (cI, 4096, .inl (fun _ => 0))), (q2, .inl (cI, 4096, .inl (fun _ => 0)))]) := hD
  rw [mcWA_new] at hP hD
  refine W.widen (k := 2) (n := 8192) (by decide) (by decide) ?_
  exact W.vret hx hb hr (fun t ht hW => ⟨⟨mcAdA h0 q1 q2, rfl, rfl, by rw [ht]; exact hP, va_K.moved hW.alike hK, hD⟩, hS.F ht⟩) hS.2.2 dA_init_27
set_option maxHeartbeats 4000000 in
set_option maxRecDepth 100000 in
theorem c_P_init (l : Launch) (dC : Nat → ClassId) (dI : Nat → Nat → Nat) (h0 : Nat) (cI cG cZ cJ : ClassId) (sz : Nat) : Met l yP_init wdP_init ({ frames := 1, cells := 14, slots := 656, locals := 12 }) (mcIn (dC, dI) [(h0, .inr (2, [.null, .null, .null, .null, .null, .null, .int 0]))] (mcT4 cI cG cZ cJ) sz [.ref h0]) (mcIq (fun x : Nat → Nat => x 0 = h0) (fun x => mcWP x cI cG (fun _ => 0) (fun _ _ => 0) (fun _ _ => 0) (fun _ => 0) (fun _ => 0) (fun _ => 0) 0) (dC, dI) [(h0, .inr (2, [.null, .null, .null, .null, .null, .null, .int 0]))] (mcT4 cI cG cZ cJ) sz) 14 656 (va_A [(h0, .inr (2, [.null, .null, .null, .null, .null, .null, .int 0]))] sz) := by
  refine Met.ofW (cc := bP_init) (maxL := 1) (ret := none) (by decide) rfl ?_
  intro p e s m args below meth c s₁ BB hml hv
  obtain ⟨⟨rfl, hsz, hP, hK, hD0⟩, hN⟩ := hv
  have hx := BB.exec
  have hb := BB.bytes
  have hr := BB.returns
  have hts := atoms_spec (ws := wdP_init) BB.pre
  have hown : s.vm.findClass RP = some m.cls := findClass_of_methodNamed BB.named
  have hlocks := BB.notSynchronized
  have hin : meth.name = "<init>" := (name_of_methodNamed BB.named BB.method).1
  unfold mcIq
  subst hsz
  have hD := hD0.self (sz := s.heap.size)
  generalize hAe : va_A ([(h0, .inr (2, [.null, .null, .null, .null, .null, .null, .int 0]))]) s.heap.size = A at hD ⊢
  have hA : ∀ q : Nat, s.heap.size ≤ q → A q := fun q h => by rw [← hAe]; exact Or.inr h
  have hS : va_S A s.heap s.heap [] := va_S.rf
  have hl := lv_entry ([.ref h0]) (n := 1) (Nat.le_of_ble_eq_true rfl)
  rw [lg_entry_eq]
  generalize (lg_sl ([.ref h0]) ++ List.replicate (1 - (lg_sl ([.ref h0])).length) Slot.unset).toArray = ls at hl ⊢
  have hl : lv_has ls 1 [(0, .ref h0)] := hl
  refine lv_aload_n hx hb dP_init_0 rfl (lv_at hl 0 rfl) ?_
  refine W.objInit hx hb hown (hts _ (List.mem_cons_of_mem _ kw106)) (hts _ (List.mem_cons_of_mem _ kw42)) (hts _ (List.mem_cons_of_mem _ kw43)) rfl (by rw [hml]; exact hl.1) rfl dP_init_1 (Nat.le_of_ble_eq_true rfl) (Nat.le_of_ble_eq_true rfl) ?_
  refine W.eq (g2 := F0 m 4 ls []) rfl ?_
  refine lv_aload_n hx hb dP_init_4 rfl (lv_at hl 0 rfl) ?_
  refine lv_iconst (v := 4) hx hb dP_init_5 (by decide) ?_
  refine newaN (ty := .int) hx hb rfl ra_int (hts _ (List.mem_cons_of_mem _ kw82)) hK 0 rfl hP hD hS hA 4 (4, .inl (fun _ => 0)) (fun _ => rfl) (by decide) (by decide) (by decide) (Nat.le_of_ble_eq_true rfl) (Nat.le_of_ble_eq_true rfl) dP_init_6 (fun q1 H hP hD hS => ?_)
  have hP : va_P (dC, dI) mcCl ([(h0, .inr (2, [.null, .null, .null, .null, .null, .null, .int 0])), (q1, .inl (cI, 4, .inl (fun _ => 0)))]) H := hP
  have hD : va_D A ([(h0, .inr (2, [.null, .null, .null, .null, .null, .null, .int 0])), (q1, .inl (cI, 4, .inl (fun _ => 0)))]) := hD
  refine va_putF (D := (dC, dI)) (ci := 2) (ty := (.array .int)) (C := RP) (T := FP) (N := 7) hx hb hts (fun w h => List.mem_cons_of_mem _ (inP w h)) tP tP_ok nP hown hK hP hD hS 0 rfl rfl 0 (by decide) (hts _ (List.mem_cons_of_mem _ kw108)) (fun _ h9 => h9) rfl hin rfl (by decide +kernel) rfl rfl (Nat.le_of_ble_eq_true rfl) dP_init_8 (fun H locs hP hD hS => ?_)
  have hP : va_P (dC, dI) mcCl ([(h0, .inr (2, [.ref q1, .null, .null, .null, .null, .null, .int 0])), (q1, .inl (cI, 4, .inl (fun _ => 0)))]) H := hP
  have hD : va_D A ([(h0, .inr (2, [.ref q1, .null, .null, .null, .null, .null, .int 0])), (q1, .inl (cI, 4, .inl (fun _ => 0)))]) := hD
  refine lv_aload_n hx hb dP_init_11 rfl (lv_at hl 0 rfl) ?_
  refine lv_iconst (v := 4) hx hb dP_init_12 (by decide) ?_
  refine lv_bipush (v := 64) hx hb dP_init_13 (by decide) ?_
  refine mnaN hx hb hown (hts _ (List.mem_cons_of_mem _ kw107)) hN.1 (hts _ (List.mem_cons_of_mem _ kw82)) hK 0 1 rfl rfl hP hD hS hA 4 64 (by decide) (by decide) (by decide) (by decide) (by decide) (by decide) (Nat.le_of_ble_eq_true rfl) (Nat.le_of_ble_eq_true rfl) dP_init_15 (fun q2 r2 H hP hD hS => ?_)
  have hP : va_P (dC, dI) mcCl ([(h0, .inr (2, [.ref q1, .null, .null, .null, .null, .null, .int 0])), (q1, .inl (cI, 4, .inl (fun _ => 0))), (q2, .inl (cG, 4, .inr (.inr (.inr (.inr (fun i => if i < 4 then some (r2 i) else none)))))), (r2 0, .inl (cI, 64, .inl (fun _ => 0))), (r2 1, .inl (cI, 64, .inl (fun _ => 0))), (r2 2, .inl (cI, 64, .inl (fun _ => 0))), (r2 3, .inl (cI, 64, .inl (fun _ => 0)))]) H := hP
  have hD : va_D A ([(h0, .inr (2, [.ref q1, .null, .null, .null, .null, .null, .int 0])), (q1, .inl (cI, 4, .inl (fun _ => 0))), (q2, .inl (cG, 4, .inr (.inr (.inr (.inr (fun i => if i < 4 then some (r2 i) else none)))))), (r2 0, .inl (cI, 64, .inl (fun _ => 0))), (r2 1, .inl (cI, 64, .inl (fun _ => 0))), (r2 2, .inl (cI, 64, .inl (fun _ => 0))), (r2 3, .inl (cI, 64, .inl (fun _ => 0)))]) := hD
  refine va_putF (D := (dC, dI)) (ci := 2) (ty := (.array (.array .int))) (C := RP) (T := FP) (N := 7) hx hb hts (fun w h => List.mem_cons_of_mem _ (inP w h)) tP tP_ok nP hown hK hP hD hS 0 rfl rfl 1 (by decide) (hts _ (List.mem_cons_of_mem _ kw110)) (fun _ h9 => h9) rfl hin rfl (by decide +kernel) rfl rfl (Nat.le_of_ble_eq_true rfl) dP_init_19 (fun H locs hP hD hS => ?_)
  have hP : va_P (dC, dI) mcCl ([(h0, .inr (2, [.ref q1, .ref q2, .null, .null, .null, .null, .int 0])), (q1, .inl (cI, 4, .inl (fun _ => 0))), (q2, .inl (cG, 4, .inr (.inr (.inr (.inr (fun i => if i < 4 then some (r2 i) else none)))))), (r2 0, .inl (cI, 64, .inl (fun _ => 0))), (r2 1, .inl (cI, 64, .inl (fun _ => 0))), (r2 2, .inl (cI, 64, .inl (fun _ => 0))), (r2 3, .inl (cI, 64, .inl (fun _ => 0)))]) H := hP
  have hD : va_D A ([(h0, .inr (2, [.ref q1, .ref q2, .null, .null, .null, .null, .int 0])), (q1, .inl (cI, 4, .inl (fun _ => 0))), (q2, .inl (cG, 4, .inr (.inr (.inr (.inr (fun i => if i < 4 then some (r2 i) else none)))))), (r2 0, .inl (cI, 64, .inl (fun _ => 0))), (r2 1, .inl (cI, 64, .inl (fun _ => 0))), (r2 2, .inl (cI, 64, .inl (fun _ => 0))), (r2 3, .inl (cI, 64, .inl (fun _ => 0)))]) := hD
  refine lv_aload_n hx hb dP_init_22 rfl (lv_at hl 0 rfl) ?_
  refine lv_iconst (v := 4) hx hb dP_init_23 (by decide) ?_
  refine lv_bipush (v := 64) hx hb dP_init_24 (by decide) ?_
  refine mnaN hx hb hown (hts _ (List.mem_cons_of_mem _ kw107)) hN.1 (hts _ (List.mem_cons_of_mem _ kw82)) hK 0 1 rfl rfl hP hD hS hA 4 64 (by decide) (by decide) (by decide) (by decide) (by decide) (by decide) (Nat.le_of_ble_eq_true rfl) (Nat.le_of_ble_eq_true rfl) dP_init_26 (fun q3 r3 H hP hD hS => ?_)
  have hP : va_P (dC, dI) mcCl ([(h0, .inr (2, [.ref q1, .ref q2, .null, .null, .null, .null, .int 0])), (q1, .inl (cI, 4, .inl (fun _ => 0))), (q2, .inl (cG, 4, .inr (.inr (.inr (.inr (fun i => if i < 4 then some (r2 i) else none)))))), (r2 0, .inl (cI, 64, .inl (fun _ => 0))), (r2 1, .inl (cI, 64, .inl (fun _ => 0))), (r2 2, .inl (cI, 64, .inl (fun _ => 0))), (r2 3, .inl (cI, 64, .inl (fun _ => 0))), (q3, .inl (cG, 4, .inr (.inr (.inr (.inr (fun i => if i < 4 then some (r3 i) else none)))))), (r3 0, .inl (cI, 64, .inl (fun _ => 0))), (r3 1, .inl (cI, 64, .inl (fun _ => 0))), (r3 2, .inl (cI, 64, .inl (fun _ => 0))), (r3 3, .inl (cI, 64, .inl (fun _ => 0)))]) H := hP
  have hD : va_D A ([(h0, .inr (2, [.ref q1, .ref q2, .null, .null, .null, .null, .int 0])), (q1, .inl (cI, 4, .inl (fun _ => 0))), (q2, .inl (cG, 4, .inr (.inr (.inr (.inr (fun i => if i < 4 then some (r2 i) else none)))))), (r2 0, .inl (cI, 64, .inl (fun _ => 0))), (r2 1, .inl (cI, 64, .inl (fun _ => 0))), (r2 2, .inl (cI, 64, .inl (fun _ => 0))), (r2 3, .inl (cI, 64, .inl (fun _ => 0))), (q3, .inl (cG, 4, .inr (.inr (.inr (.inr (fun i => if i < 4 then some (r3 i) else none)))))), (r3 0, .inl (cI, 64, .inl (fun _ => 0))), (r3 1, .inl (cI, 64, .inl (fun _ => 0))), (r3 2, .inl (cI, 64, .inl (fun _ => 0))), (r3 3, .inl (cI, 64, .inl (fun _ => 0)))]) := hD
  refine va_putF (D := (dC, dI)) (ci := 2) (ty := (.array (.array .int))) (C := RP) (T := FP) (N := 7) hx hb hts (fun w h => List.mem_cons_of_mem _ (inP w h)) tP tP_ok nP hown hK hP hD hS 0 rfl rfl 2 (by decide) (hts _ (List.mem_cons_of_mem _ kw112)) (fun _ h9 => h9) rfl hin rfl (by decide +kernel) rfl rfl (Nat.le_of_ble_eq_true rfl) dP_init_30 (fun H locs hP hD hS => ?_)
  have hP : va_P (dC, dI) mcCl ([(h0, .inr (2, [.ref q1, .ref q2, .ref q3, .null, .null, .null, .int 0])), (q1, .inl (cI, 4, .inl (fun _ => 0))), (q2, .inl (cG, 4, .inr (.inr (.inr (.inr (fun i => if i < 4 then some (r2 i) else none)))))), (r2 0, .inl (cI, 64, .inl (fun _ => 0))), (r2 1, .inl (cI, 64, .inl (fun _ => 0))), (r2 2, .inl (cI, 64, .inl (fun _ => 0))), (r2 3, .inl (cI, 64, .inl (fun _ => 0))), (q3, .inl (cG, 4, .inr (.inr (.inr (.inr (fun i => if i < 4 then some (r3 i) else none)))))), (r3 0, .inl (cI, 64, .inl (fun _ => 0))), (r3 1, .inl (cI, 64, .inl (fun _ => 0))), (r3 2, .inl (cI, 64, .inl (fun _ => 0))), (r3 3, .inl (cI, 64, .inl (fun _ => 0)))]) H := hP
  have hD : va_D A ([(h0, .inr (2, [.ref q1, .ref q2, .ref q3, .null, .null, .null, .int 0])), (q1, .inl (cI, 4, .inl (fun _ => 0))), (q2, .inl (cG, 4, .inr (.inr (.inr (.inr (fun i => if i < 4 then some (r2 i) else none)))))), (r2 0, .inl (cI, 64, .inl (fun _ => 0))), (r2 1, .inl (cI, 64, .inl (fun _ => 0))), (r2 2, .inl (cI, 64, .inl (fun _ => 0))), (r2 3, .inl (cI, 64, .inl (fun _ => 0))), (q3, .inl (cG, 4, .inr (.inr (.inr (.inr (fun i => if i < 4 then some (r3 i) else none)))))), (r3 0, .inl (cI, 64, .inl (fun _ => 0))), (r3 1, .inl (cI, 64, .inl (fun _ => 0))), (r3 2, .inl (cI, 64, .inl (fun _ => 0))), (r3 3, .inl (cI, 64, .inl (fun _ => 0)))]) := hD
  refine lv_aload_n hx hb dP_init_33 rfl (lv_at hl 0 rfl) ?_
  refine lv_iconst (v := 4) hx hb dP_init_34 (by decide) ?_
  refine newaN (ty := .int) hx hb rfl ra_int (hts _ (List.mem_cons_of_mem _ kw82)) hK 0 rfl hP hD hS hA 4 (4, .inl (fun _ => 0)) (fun _ => rfl) (by decide) (by decide) (by decide) (Nat.le_of_ble_eq_true rfl) (Nat.le_of_ble_eq_true rfl) dP_init_35 (fun q4 H hP hD hS => ?_)
  have hP : va_P (dC, dI) mcCl ([(h0, .inr (2, [.ref q1, .ref q2, .ref q3, .null, .null, .null, .int 0])), (q1, .inl (cI, 4, .inl (fun _ => 0))), (q2, .inl (cG, 4, .inr (.inr (.inr (.inr (fun i => if i < 4 then some (r2 i) else none)))))), (r2 0, .inl (cI, 64, .inl (fun _ => 0))), (r2 1, .inl (cI, 64, .inl (fun _ => 0))), (r2 2, .inl (cI, 64, .inl (fun _ => 0))), (r2 3, .inl (cI, 64, .inl (fun _ => 0))), (q3, .inl (cG, 4, .inr (.inr (.inr (.inr (fun i => if i < 4 then some (r3 i) else none)))))), (r3 0, .inl (cI, 64, .inl (fun _ => 0))), (r3 1, .inl (cI, 64, .inl (fun _ => 0))), (r3 2, .inl (cI, 64, .inl (fun _ => 0))), (r3 3, .inl (cI, 64, .inl (fun _ => 0))), (q4, .inl (cI, 4, .inl (fun _ => 0)))]) H := hP
  have hD : va_D A ([(h0, .inr (2, [.ref q1, .ref q2, .ref q3, .null, .null, .null, .int 0])), (q1, .inl (cI, 4, .inl (fun _ => 0))), (q2, .inl (cG, 4, .inr (.inr (.inr (.inr (fun i => if i < 4 then some (r2 i) else none)))))), (r2 0, .inl (cI, 64, .inl (fun _ => 0))), (r2 1, .inl (cI, 64, .inl (fun _ => 0))), (r2 2, .inl (cI, 64, .inl (fun _ => 0))), (r2 3, .inl (cI, 64, .inl (fun _ => 0))), (q3, .inl (cG, 4, .inr (.inr (.inr (.inr (fun i => if i < 4 then some (r3 i) else none)))))), (r3 0, .inl (cI, 64, .inl (fun _ => 0))), (r3 1, .inl (cI, 64, .inl (fun _ => 0))), (r3 2, .inl (cI, 64, .inl (fun _ => 0))), (r3 3, .inl (cI, 64, .inl (fun _ => 0))), (q4, .inl (cI, 4, .inl (fun _ => 0)))]) := hD
  refine va_putF (D := (dC, dI)) (ci := 2) (ty := (.array .int)) (C := RP) (T := FP) (N := 7) hx hb hts (fun w h => List.mem_cons_of_mem _ (inP w h)) tP tP_ok nP hown hK hP hD hS 0 rfl rfl 3 (by decide) (hts _ (List.mem_cons_of_mem _ kw113)) (fun _ h9 => h9) rfl hin rfl (by decide +kernel) rfl rfl (Nat.le_of_ble_eq_true rfl) dP_init_37 (fun H locs hP hD hS => ?_)
  have hP : va_P (dC, dI) mcCl ([(h0, .inr (2, [.ref q1, .ref q2, .ref q3, .ref q4, .null, .null, .int 0])), (q1, .inl (cI, 4, .inl (fun _ => 0))), (q2, .inl (cG, 4, .inr (.inr (.inr (.inr (fun i => if i < 4 then some (r2 i) else none)))))), (r2 0, .inl (cI, 64, .inl (fun _ => 0))), (r2 1, .inl (cI, 64, .inl (fun _ => 0))), (r2 2, .inl (cI, 64, .inl (fun _ => 0))), (r2 3, .inl (cI, 64, .inl (fun _ => 0))), (q3, .inl (cG, 4, .inr (.inr (.inr (.inr (fun i => if i < 4 then some (r3 i) else none)))))), (r3 0, .inl (cI, 64, .inl (fun _ => 0))), (r3 1, .inl (cI, 64, .inl (fun _ => 0))), (r3 2, .inl (cI, 64, .inl (fun _ => 0))), (r3 3, .inl (cI, 64, .inl (fun _ => 0))), (q4, .inl (cI, 4, .inl (fun _ => 0)))]) H := hP
  have hD : va_D A ([(h0, .inr (2, [.ref q1, .ref q2, .ref q3, .ref q4, .null, .null, .int 0])), (q1, .inl (cI, 4, .inl (fun _ => 0))), (q2, .inl (cG, 4, .inr (.inr (.inr (.inr (fun i => if i < 4 then some (r2 i) else none)))))), (r2 0, .inl (cI, 64, .inl (fun _ => 0))), (r2 1, .inl (cI, 64, .inl (fun _ => 0))), (r2 2, .inl (cI, 64, .inl (fun _ => 0))), (r2 3, .inl (cI, 64, .inl (fun _ => 0))), (q3, .inl (cG, 4, .inr (.inr (.inr (.inr (fun i => if i < 4 then some (r3 i) else none)))))), (r3 0, .inl (cI, 64, .inl (fun _ => 0))), (r3 1, .inl (cI, 64, .inl (fun _ => 0))), (r3 2, .inl (cI, 64, .inl (fun _ => 0))), (r3 3, .inl (cI, 64, .inl (fun _ => 0))), (q4, .inl (cI, 4, .inl (fun _ => 0)))]) := hD
  refine lv_aload_n hx hb dP_init_40 rfl (lv_at hl 0 rfl) ?_
  refine lv_bipush (v := 64) hx hb dP_init_41 (by decide) ?_
  refine newaN (ty := .int) hx hb rfl ra_int (hts _ (List.mem_cons_of_mem _ kw82)) hK 0 rfl hP hD hS hA 64 (64, .inl (fun _ => 0)) (fun _ => rfl) (by decide) (by decide) (by decide) (Nat.le_of_ble_eq_true rfl) (Nat.le_of_ble_eq_true rfl) dP_init_43 (fun q5 H hP hD hS => ?_)
  have hP : va_P (dC, dI) mcCl ([(h0, .inr (2, [.ref q1, .ref q2, .ref q3, .ref q4, .null, .null, .int 0])), (q1, .inl (cI, 4, .inl (fun _ => 0))), (q2, .inl (cG, 4, .inr (.inr (.inr (.inr (fun i => if i < 4 then some (r2 i) else none)))))), (r2 0, .inl (cI, 64, .inl (fun _ => 0))), (r2 1, .inl (cI, 64, .inl (fun _ => 0))), (r2 2, .inl (cI, 64, .inl (fun _ => 0))), (r2 3, .inl (cI, 64, .inl (fun _ => 0))), (q3, .inl (cG, 4, .inr (.inr (.inr (.inr (fun i => if i < 4 then some (r3 i) else none)))))), (r3 0, .inl (cI, 64, .inl (fun _ => 0))), (r3 1, .inl (cI, 64, .inl (fun _ => 0))), (r3 2, .inl (cI, 64, .inl (fun _ => 0))), (r3 3, .inl (cI, 64, .inl (fun _ => 0))), (q4, .inl (cI, 4, .inl (fun _ => 0))), (q5, .inl (cI, 64, .inl (fun _ => 0)))]) H := hP
  have hD : va_D A ([(h0, .inr (2, [.ref q1, .ref q2, .ref q3, .ref q4, .null, .null, .int 0])), (q1, .inl (cI, 4, .inl (fun _ => 0))), (q2, .inl (cG, 4, .inr (.inr (.inr (.inr (fun i => if i < 4 then some (r2 i) else none)))))), (r2 0, .inl (cI, 64, .inl (fun _ => 0))), (r2 1, .inl (cI, 64, .inl (fun _ => 0))), (r2 2, .inl (cI, 64, .inl (fun _ => 0))), (r2 3, .inl (cI, 64, .inl (fun _ => 0))), (q3, .inl (cG, 4, .inr (.inr (.inr (.inr (fun i => if i < 4 then some (r3 i) else none)))))), (r3 0, .inl (cI, 64, .inl (fun _ => 0))), (r3 1, .inl (cI, 64, .inl (fun _ => 0))), (r3 2, .inl (cI, 64, .inl (fun _ => 0))), (r3 3, .inl (cI, 64, .inl (fun _ => 0))), (q4, .inl (cI, 4, .inl (fun _ => 0))), (q5, .inl (cI, 64, .inl (fun _ => 0)))]) := hD
  refine va_putF (D := (dC, dI)) (ci := 2) (ty := (.array .int)) (C := RP) (T := FP) (N := 7) hx hb hts (fun w h => List.mem_cons_of_mem _ (inP w h)) tP tP_ok nP hown hK hP hD hS 0 rfl rfl 4 (by decide) (hts _ (List.mem_cons_of_mem _ kw114)) (fun _ h9 => h9) rfl hin rfl (by decide +kernel) rfl rfl (Nat.le_of_ble_eq_true rfl) dP_init_45 (fun H locs hP hD hS => ?_)
  have hP : va_P (dC, dI) mcCl ([(h0, .inr (2, [.ref q1, .ref q2, .ref q3, .ref q4, .ref q5, .null, .int 0])), (q1, .inl (cI, 4, .inl (fun _ => 0))), (q2, .inl (cG, 4, .inr (.inr (.inr (.inr (fun i => if i < 4 then some (r2 i) else none)))))), (r2 0, .inl (cI, 64, .inl (fun _ => 0))), (r2 1, .inl (cI, 64, .inl (fun _ => 0))), (r2 2, .inl (cI, 64, .inl (fun _ => 0))), (r2 3, .inl (cI, 64, .inl (fun _ => 0))), (q3, .inl (cG, 4, .inr (.inr (.inr (.inr (fun i => if i < 4 then some (r3 i) else none)))))), (r3 0, .inl (cI, 64, .inl (fun _ => 0))), (r3 1, .inl (cI, 64, .inl (fun _ => 0))), (r3 2, .inl (cI, 64, .inl (fun _ => 0))), (r3 3, .inl (cI, 64, .inl (fun _ => 0))), (q4, .inl (cI, 4, .inl (fun _ => 0))), (q5, .inl (cI, 64, .inl (fun _ => 0)))]) H := hP
  have hD : va_D A ([(h0, .inr (2, [.ref q1, .ref q2, .ref q3, .ref q4, .ref q5, .null, .int 0])), (q1, .inl (cI, 4, .inl (fun _ => 0))), (q2, .inl (cG, 4, .inr (.inr (.inr (.inr (fun i => if i < 4 then some (r2 i) else none)))))), (r2 0, .inl (cI, 64, .inl (fun _ => 0))), (r2 1, .inl (cI, 64, .inl (fun _ => 0))), (r2 2, .inl (cI, 64, .inl (fun _ => 0))), (r2 3, .inl (cI, 64, .inl (fun _ => 0))), (q3, .inl (cG, 4, .inr (.inr (.inr (.inr (fun i => if i < 4 then some (r3 i) else none)))))), (r3 0, .inl (cI, 64, .inl (fun _ => 0))), (r3 1, .inl (cI, 64, .inl (fun _ => 0))), (r3 2, .inl (cI, 64, .inl (fun _ => 0))), (r3 3, .inl (cI, 64, .inl (fun _ => 0))), (q4, .inl (cI, 4, .inl (fun _ => 0))), (q5, .inl (cI, 64, .inl (fun _ => 0)))]) := hD
  refine lv_aload_n hx hb dP_init_48 rfl (lv_at hl 0 rfl) ?_
  refine lv_bipush (v := 64) hx hb dP_init_49 (by decide) ?_
  refine newaN (ty := .int) hx hb rfl ra_int (hts _ (List.mem_cons_of_mem _ kw82)) hK 0 rfl hP hD hS hA 64 (64, .inl (fun _ => 0)) (fun _ => rfl) (by decide) (by decide) (by decide) (Nat.le_of_ble_eq_true rfl) (Nat.le_of_ble_eq_true rfl) dP_init_51 (fun q6 H hP hD hS => ?_)
  have hP : va_P (dC, dI) mcCl ([(h0, .inr (2, [.ref q1, .ref q2, .ref q3, .ref q4, .ref q5, .null, .int 0])), (q1, .inl (cI, 4, .inl (fun _ => 0))), (q2, .inl (cG, 4, .inr (.inr (.inr (.inr (fun i => if i < 4 then some (r2 i) else none)))))), (r2 0, .inl (cI, 64, .inl (fun _ => 0))), (r2 1, .inl (cI, 64, .inl (fun _ => 0))), (r2 2, .inl (cI, 64, .inl (fun _ => 0))), (r2 3, .inl (cI, 64, .inl (fun _ => 0))), (q3, .inl (cG, 4, .inr (.inr (.inr (.inr (fun i => if i < 4 then some (r3 i) else none)))))), (r3 0, .inl (cI, 64, .inl (fun _ => 0))), (r3 1, .inl (cI, 64, .inl (fun _ => 0))), (r3 2, .inl (cI, 64, .inl (fun _ => 0))), (r3 3, .inl (cI, 64, .inl (fun _ => 0))), (q4, .inl (cI, 4, .inl (fun _ => 0))), (q5, .inl (cI, 64, .inl (fun _ => 0))), (q6, .inl (cI, 64, .inl (fun _ => 0)))]) H := hP
  have hD : va_D A ([(h0, .inr (2, [.ref q1, .ref q2, .ref q3, .ref q4, .ref q5, .null, .int 0])), (q1, .inl (cI, 4, .inl (fun _ => 0))), (q2, .inl (cG, 4, .inr (.inr (.inr (.inr (fun i => if i < 4 then some (r2 i) else none)))))), (r2 0, .inl (cI, 64, .inl (fun _ => 0))), (r2 1, .inl (cI, 64, .inl (fun _ => 0))), (r2 2, .inl (cI, 64, .inl (fun _ => 0))), (r2 3, .inl (cI, 64, .inl (fun _ => 0))), (q3, .inl (cG, 4, .inr (.inr (.inr (.inr (fun i => if i < 4 then some (r3 i) else none)))))), (r3 0, .inl (cI, 64, .inl (fun _ => 0))), (r3 1, .inl (cI, 64, .inl (fun _ => 0))), (r3 2, .inl (cI, 64, .inl (fun _ => 0))), (r3 3, .inl (cI, 64, .inl (fun _ => 0))), (q4, .inl (cI, 4, .inl (fun _ => 0))), (q5, .inl (cI, 64, .inl (fun _ => 0))), (q6, .inl (cI, 64, .inl (fun _ => 0)))]) := hD
  refine va_putF (D := (dC, dI)) (ci := 2) (ty := (.array .int)) (C := RP) (T := FP) (N := 7) hx hb hts (fun w h => List.mem_cons_of_mem _ (inP w h)) tP tP_ok nP hown hK hP hD hS 0 rfl rfl 5 (by decide) (hts _ (List.mem_cons_of_mem _ kw115)) (fun _ h9 => h9) rfl hin rfl (by decide +kernel) rfl rfl (Nat.le_of_ble_eq_true rfl) dP_init_53 (fun H locs hP hD hS => ?_)
  have hP : va_P (dC, dI) mcCl ([(h0, .inr (2, [.ref q1, .ref q2, .ref q3, .ref q4, .ref q5, .ref q6, .int 0])), (q1, .inl (cI, 4, .inl (fun _ => 0))), (q2, .inl (cG, 4, .inr (.inr (.inr (.inr (fun i => if i < 4 then some (r2 i) else none)))))), (r2 0, .inl (cI, 64, .inl (fun _ => 0))), (r2 1, .inl (cI, 64, .inl (fun _ => 0))), (r2 2, .inl (cI, 64, .inl (fun _ => 0))), (r2 3, .inl (cI, 64, .inl (fun _ => 0))), (q3, .inl (cG, 4, .inr (.inr (.inr (.inr (fun i => if i < 4 then some (r3 i) else none)))))), (r3 0, .inl (cI, 64, .inl (fun _ => 0))), (r3 1, .inl (cI, 64, .inl (fun _ => 0))), (r3 2, .inl (cI, 64, .inl (fun _ => 0))), (r3 3, .inl (cI, 64, .inl (fun _ => 0))), (q4, .inl (cI, 4, .inl (fun _ => 0))), (q5, .inl (cI, 64, .inl (fun _ => 0))), (q6, .inl (cI, 64, .inl (fun _ => 0)))]) H := hP
  have hD : va_D A ([(h0, .inr (2, [.ref q1, .ref q2, .ref q3, .ref q4, .ref q5, .ref q6, .int 0])), (q1, .inl (cI, 4, .inl (fun _ => 0))), (q2, .inl (cG, 4, .inr (.inr (.inr (.inr (fun i => if i < 4 then some (r2 i) else none)))))), (r2 0, .inl (cI, 64, .inl (fun _ => 0))), (r2 1, .inl (cI, 64, .inl (fun _ => 0))), (r2 2, .inl (cI, 64, .inl (fun _ => 0))), (r2 3, .inl (cI, 64, .inl (fun _ => 0))), (q3, .inl (cG, 4, .inr (.inr (.inr (.inr (fun i => if i < 4 then some (r3 i) else none)))))), (r3 0, .inl (cI, 64, .inl (fun _ => 0))), (r3 1, .inl (cI, 64, .inl (fun _ => 0))), (r3 2, .inl (cI, 64, .inl (fun _ => 0))), (r3 3, .inl (cI, 64, .inl (fun _ => 0))), (q4, .inl (cI, 4, .inl (fun _ => 0))), (q5, .inl (cI, 64, .inl (fun _ => 0))), (q6, .inl (cI, 64, .inl (fun _ => 0)))]) := hD
  have hP := hP.sub (ws' := [(h0, .inr (2, [.ref q1, .ref q2, .ref q3, .ref q4, .ref q5, .ref q6, .int 0])), (q1, .inl (cI, 4, .inl (fun _ => 0))), (q2, .inl (cG, 4, .inr (.inr (.inr (.inr (fun i => if i < 4 then some (r2 i) else none)))))), (q3, .inl (cG, 4, .inr (.inr (.inr (.inr (fun i => if i < 4 then some (r3 i) else none)))))), (q4, .inl (cI, 4, .inl (fun _ => 0))), (q5, .inl (cI, 64, .inl (fun _ => 0))), (q6, .inl (cI, 64, .inl (fun _ => 0))), (r2 0, .inl (cI, 64, .inl (fun _ => 0))), (r2 1, .inl (cI, 64, .inl (fun _ => 0))), (r2 2, .inl (cI, 64, .inl (fun _ => 0))), (r2 3, .inl (cI, 64, .inl (fun _ => 0))), (r3 0, .inl (cI, 64, .inl (fun _ => 0))), (r3 1, .inl (cI, 64, .inl (fun _ => 0))), (r3 2, .inl (cI, 64, .inl (fun _ => 0))), (r3 3, .inl (cI, 64, .inl (fun _ => 0)))]) [0, 1, 2, 7, 12, 13, 14, 3, 4, 5, 6, 8, 9, 10, 11] rfl
  have hD := hD.sub (ws' := [(h0, .inr (2, [.ref q1, .ref q2, .ref q3, .ref q4, .ref q5, .ref q6, .int 0])), (q1, .inl (cI, 4, .inl (fun _ => 0))), (q2, .inl (cG, 4, .inr (.inr (.inr (.inr (fun i => if i < 4 then some (r2 i) else none)))))), (q3, .inl (cG, 4, .inr (.inr (.inr (.inr (fun i => if i < 4 then some (r3 i) else none)))))), (q4, .inl (cI, 4, .inl (fun _ => 0))), (q5, .inl (cI, 64, .inl (fun _ => 0))), (q6, .inl (cI, 64, .inl (fun _ => 0))), (r2 0, .inl (cI, 64, .inl (fun _ => 0))), (r2 1, .inl (cI, 64, .inl (fun _ => 0))), (r2 2, .inl (cI, 64, .inl (fun _ => 0))), (r2 3, .inl (cI, 64, .inl (fun _ => 0))), (r3 0, .inl (cI, 64, .inl (fun _ => 0))), (r3 1, .inl (cI, 64, .inl (fun _ => 0))), (r3 2, .inl (cI, 64, .inl (fun _ => 0))), (r3 3, .inl (cI, 64, .inl (fun _ => 0)))]) [0, 1, 2, 7, 12, 13, 14, 3, 4, 5, 6, 8, 9, 10, 11] (by decide) rfl
  rw [mcWP_new] at hP hD
  refine W.widen (k := 14) (n := 656) (by decide) (by decide) ?_
  exact W.vret hx hb hr (fun t ht hW => ⟨⟨mcAdP h0 q1 q2 q3 q4 q5 q6 r2 r3, rfl, rfl, by rw [ht]; exact hP, va_K.moved hW.alike hK, hD⟩, hS.F ht⟩) hS.2.2 dP_init_56
set_option maxHeartbeats 4000000 in
set_option maxRecDepth 100000 in
theorem c_R_init (l : Launch) (dC : Nat → ClassId) (dI : Nat → Nat → Nat) (h0 : Nat) (cI cG cZ cJ : ClassId) (sz : Nat) : Met l yR_init wdR_init ({ frames := 1, cells := 9, slots := 1420, locals := 12 }) (mcIn (dC, dI) [(h0, .inr (4, [.int 0, .int 0, .null, .null, .null, .null, .null, .null, .null, .null, .null]))] (mcT4 cI cG cZ cJ) sz [.ref h0]) (mcIq (fun x : Nat → Nat => x 0 = h0) (fun x => mcWR x cI cZ 0 0 (fun _ => 0) (fun _ => 0) (fun _ => 0) (fun _ => 0) (fun _ _ => 0) (fun _ => 0) (fun _ => 0) (fun _ => 0) (fun _ => 0)) (dC, dI) [(h0, .inr (4, [.int 0, .int 0, .null, .null, .null, .null, .null, .null, .null, .null, .null]))] (mcT4 cI cG cZ cJ) sz) 9 1420 (va_A [(h0, .inr (4, [.int 0, .int 0, .null, .null, .null, .null, .null, .null, .null, .null, .null]))] sz) := by
  refine Met.ofW (cc := bR_init) (maxL := 1) (ret := none) (by decide) rfl ?_
  intro p e s m args below meth c s₁ BB hml hv
  obtain ⟨⟨rfl, hsz, hP, hK, hD0⟩, hN⟩ := hv
  have hx := BB.exec
  have hb := BB.bytes
  have hr := BB.returns
  have hts := atoms_spec (ws := wdR_init) BB.pre
  have hown : s.vm.findClass RR = some m.cls := findClass_of_methodNamed BB.named
  have hlocks := BB.notSynchronized
  have hin : meth.name = "<init>" := (name_of_methodNamed BB.named BB.method).1
  unfold mcIq
  subst hsz
  have hD := hD0.self (sz := s.heap.size)
  generalize hAe : va_A ([(h0, .inr (4, [.int 0, .int 0, .null, .null, .null, .null, .null, .null, .null, .null, .null]))]) s.heap.size = A at hD ⊢
  have hA : ∀ q : Nat, s.heap.size ≤ q → A q := fun q h => by rw [← hAe]; exact Or.inr h
  have hS : va_S A s.heap s.heap [] := va_S.rf
  have hl := lv_entry ([.ref h0]) (n := 1) (Nat.le_of_ble_eq_true rfl)
  rw [lg_entry_eq]
  generalize (lg_sl ([.ref h0]) ++ List.replicate (1 - (lg_sl ([.ref h0])).length) Slot.unset).toArray = ls at hl ⊢
  have hl : lv_has ls 1 [(0, .ref h0)] := hl
  refine lv_aload_n hx hb dR_init_0 rfl (lv_at hl 0 rfl) ?_
  refine W.objInit hx hb hown (hts _ (List.mem_cons_of_mem _ kw458)) (hts _ (List.mem_cons_of_mem _ kw42)) (hts _ (List.mem_cons_of_mem _ kw43)) rfl (by rw [hml]; exact hl.1) rfl dR_init_1 (Nat.le_of_ble_eq_true rfl) (Nat.le_of_ble_eq_true rfl) ?_
  refine W.eq (g2 := F0 m 4 ls []) rfl ?_
  refine lv_aload_n hx hb dR_init_4 rfl (lv_at hl 0 rfl) ?_
  refine lv_bipush (v := 12) hx hb dR_init_5 (by decide) ?_
  refine newaN (ty := .int) hx hb rfl ra_int (hts _ (List.mem_cons_of_mem _ kw82)) hK 0 rfl hP hD hS hA 12 (12, .inl (fun _ => 0)) (fun _ => rfl) (by decide) (by decide) (by decide) (Nat.le_of_ble_eq_true rfl) (Nat.le_of_ble_eq_true rfl) dR_init_7 (fun q1 H hP hD hS => ?_)
  have hP : va_P (dC, dI) mcCl ([(h0, .inr (4, [.int 0, .int 0, .null, .null, .null, .null, .null, .null, .null, .null, .null])), (q1, .inl (cI, 12, .inl (fun _ => 0)))]) H := hP
  have hD : va_D A ([(h0, .inr (4, [.int 0, .int 0, .null, .null, .null, .null, .null, .null, .null, .null, .null])), (q1, .inl (cI, 12, .inl (fun _ => 0)))]) := hD
  refine va_putF (D := (dC, dI)) (ci := 4) (ty := (.array .int)) (C := RR) (T := FR) (N := 11) hx hb hts (fun w h => List.mem_cons_of_mem _ (inR w h)) tR tR_ok nR hown hK hP hD hS 0 rfl rfl 2 (by decide) (hts _ (List.mem_cons_of_mem _ kw461)) (fun _ h9 => h9) rfl hin rfl (by decide +kernel) rfl rfl (Nat.le_of_ble_eq_true rfl) dR_init_9 (fun H locs hP hD hS => ?_)
  have hP : va_P (dC, dI) mcCl ([(h0, .inr (4, [.int 0, .int 0, .ref q1, .null, .null, .null, .null, .null, .null, .null, .null])), (q1, .inl (cI, 12, .inl (fun _ => 0)))]) H := hP
  have hD : va_D A ([(h0, .inr (4, [.int 0, .int 0, .ref q1, .null, .null, .null, .null, .null, .null, .null, .null])), (q1, .inl (cI, 12, .inl (fun _ => 0)))]) := hD
  refine lv_aload_n hx hb dR_init_12 rfl (lv_at hl 0 rfl) ?_
  refine lv_bipush (v := 12) hx hb dR_init_13 (by decide) ?_
  refine newaN (ty := .int) hx hb rfl ra_int (hts _ (List.mem_cons_of_mem _ kw82)) hK 0 rfl hP hD hS hA 12 (12, .inl (fun _ => 0)) (fun _ => rfl) (by decide) (by decide) (by decide) (Nat.le_of_ble_eq_true rfl) (Nat.le_of_ble_eq_true rfl) dR_init_15 (fun q2 H hP hD hS => ?_)
  have hP : va_P (dC, dI) mcCl ([(h0, .inr (4, [.int 0, .int 0, .ref q1, .null, .null, .null, .null, .null, .null, .null, .null])), (q1, .inl (cI, 12, .inl (fun _ => 0))), (q2, .inl (cI, 12, .inl (fun _ => 0)))]) H := hP
  have hD : va_D A ([(h0, .inr (4, [.int 0, .int 0, .ref q1, .null, .null, .null, .null, .null, .null, .null, .null])), (q1, .inl (cI, 12, .inl (fun _ => 0))), (q2, .inl (cI, 12, .inl (fun _ => 0)))]) := hD
  refine va_putF (D := (dC, dI)) (ci := 4) (ty := (.array .int)) (C := RR) (T := FR) (N := 11) hx hb hts (fun w h => List.mem_cons_of_mem _ (inR w h)) tR tR_ok nR hown hK hP hD hS 0 rfl rfl 3 (by decide) (hts _ (List.mem_cons_of_mem _ kw462)) (fun _ h9 => h9) rfl hin rfl (by decide +kernel) rfl rfl (Nat.le_of_ble_eq_true rfl) dR_init_17 (fun H locs hP hD hS => ?_)
  have hP : va_P (dC, dI) mcCl ([(h0, .inr (4, [.int 0, .int 0, .ref q1, .ref q2, .null, .null, .null, .null, .null, .null, .null])), (q1, .inl (cI, 12, .inl (fun _ => 0))), (q2, .inl (cI, 12, .inl (fun _ => 0)))]) H := hP
  have hD : va_D A ([(h0, .inr (4, [.int 0, .int 0, .ref q1, .ref q2, .null, .null, .null, .null, .null, .null, .null])), (q1, .inl (cI, 12, .inl (fun _ => 0))), (q2, .inl (cI, 12, .inl (fun _ => 0)))]) := hD
  refine lv_aload_n hx hb dR_init_20 rfl (lv_at hl 0 rfl) ?_
  refine lv_sipush (v := 144) hx hb dR_init_21 (by decide) ?_
  refine newaN (ty := .boolean) hx hb rfl ra_bool (hts _ (List.mem_cons_of_mem _ kw493)) hK 2 rfl hP hD hS hA 144 (144, .inl (fun _ => 0)) (fun _ => rfl) (by decide) (by decide) (by decide) (Nat.le_of_ble_eq_true rfl) (Nat.le_of_ble_eq_true rfl) dR_init_24 (fun q3 H hP hD hS => ?_)
  have hP : va_P (dC, dI) mcCl ([(h0, .inr (4, [.int 0, .int 0, .ref q1, .ref q2, .null, .null, .null, .null, .null, .null, .null])), (q1, .inl (cI, 12, .inl (fun _ => 0))), (q2, .inl (cI, 12, .inl (fun _ => 0))), (q3, .inl (cZ, 144, .inl (fun _ => 0)))]) H := hP
  have hD : va_D A ([(h0, .inr (4, [.int 0, .int 0, .ref q1, .ref q2, .null, .null, .null, .null, .null, .null, .null])), (q1, .inl (cI, 12, .inl (fun _ => 0))), (q2, .inl (cI, 12, .inl (fun _ => 0))), (q3, .inl (cZ, 144, .inl (fun _ => 0)))]) := hD
  refine va_putF (D := (dC, dI)) (ci := 4) (ty := (.array .boolean)) (C := RR) (T := FR) (N := 11) hx hb hts (fun w h => List.mem_cons_of_mem _ (inR w h)) tR tR_ok nR hown hK hP hD hS 0 rfl rfl 4 (by decide) (hts _ (List.mem_cons_of_mem _ kw463)) (fun _ h9 => h9) rfl hin rfl (by decide +kernel) rfl rfl (Nat.le_of_ble_eq_true rfl) dR_init_26 (fun H locs hP hD hS => ?_)
  have hP : va_P (dC, dI) mcCl ([(h0, .inr (4, [.int 0, .int 0, .ref q1, .ref q2, .ref q3, .null, .null, .null, .null, .null, .null])), (q1, .inl (cI, 12, .inl (fun _ => 0))), (q2, .inl (cI, 12, .inl (fun _ => 0))), (q3, .inl (cZ, 144, .inl (fun _ => 0)))]) H := hP
  have hD : va_D A ([(h0, .inr (4, [.int 0, .int 0, .ref q1, .ref q2, .ref q3, .null, .null, .null, .null, .null, .null])), (q1, .inl (cI, 12, .inl (fun _ => 0))), (q2, .inl (cI, 12, .inl (fun _ => 0))), (q3, .inl (cZ, 144, .inl (fun _ => 0)))]) := hD
  refine lv_aload_n hx hb dR_init_29 rfl (lv_at hl 0 rfl) ?_
  refine lv_sipush (v := 144) hx hb dR_init_30 (by decide) ?_
  refine newaN (ty := .boolean) hx hb rfl ra_bool (hts _ (List.mem_cons_of_mem _ kw493)) hK 2 rfl hP hD hS hA 144 (144, .inl (fun _ => 0)) (fun _ => rfl) (by decide) (by decide) (by decide) (Nat.le_of_ble_eq_true rfl) (Nat.le_of_ble_eq_true rfl) dR_init_33 (fun q4 H hP hD hS => ?_)
  have hP : va_P (dC, dI) mcCl ([(h0, .inr (4, [.int 0, .int 0, .ref q1, .ref q2, .ref q3, .null, .null, .null, .null, .null, .null])), (q1, .inl (cI, 12, .inl (fun _ => 0))), (q2, .inl (cI, 12, .inl (fun _ => 0))), (q3, .inl (cZ, 144, .inl (fun _ => 0))), (q4, .inl (cZ, 144, .inl (fun _ => 0)))]) H := hP
  have hD : va_D A ([(h0, .inr (4, [.int 0, .int 0, .ref q1, .ref q2, .ref q3, .null, .null, .null, .null, .null, .null])), (q1, .inl (cI, 12, .inl (fun _ => 0))), (q2, .inl (cI, 12, .inl (fun _ => 0))), (q3, .inl (cZ, 144, .inl (fun _ => 0))), (q4, .inl (cZ, 144, .inl (fun _ => 0)))]) := hD
  refine va_putF (D := (dC, dI)) (ci := 4) (ty := (.array .boolean)) (C := RR) (T := FR) (N := 11) hx hb hts (fun w h => List.mem_cons_of_mem _ (inR w h)) tR tR_ok nR hown hK hP hD hS 0 rfl rfl 5 (by decide) (hts _ (List.mem_cons_of_mem _ kw464)) (fun _ h9 => h9) rfl hin rfl (by decide +kernel) rfl rfl (Nat.le_of_ble_eq_true rfl) dR_init_35 (fun H locs hP hD hS => ?_)
  have hP : va_P (dC, dI) mcCl ([(h0, .inr (4, [.int 0, .int 0, .ref q1, .ref q2, .ref q3, .ref q4, .null, .null, .null, .null, .null])), (q1, .inl (cI, 12, .inl (fun _ => 0))), (q2, .inl (cI, 12, .inl (fun _ => 0))), (q3, .inl (cZ, 144, .inl (fun _ => 0))), (q4, .inl (cZ, 144, .inl (fun _ => 0)))]) H := hP
  have hD : va_D A ([(h0, .inr (4, [.int 0, .int 0, .ref q1, .ref q2, .ref q3, .ref q4, .null, .null, .null, .null, .null])), (q1, .inl (cI, 12, .inl (fun _ => 0))), (q2, .inl (cI, 12, .inl (fun _ => 0))), (q3, .inl (cZ, 144, .inl (fun _ => 0))), (q4, .inl (cZ, 144, .inl (fun _ => 0)))]) := hD
  refine lv_aload_n hx hb dR_init_38 rfl (lv_at hl 0 rfl) ?_
  refine lv_sipush (v := 144) hx hb dR_init_39 (by decide) ?_
  refine newaN (ty := .int) hx hb rfl ra_int (hts _ (List.mem_cons_of_mem _ kw82)) hK 0 rfl hP hD hS hA 144 (144, .inl (fun _ => 0)) (fun _ => rfl) (by decide) (by decide) (by decide) (Nat.le_of_ble_eq_true rfl) (Nat.le_of_ble_eq_true rfl) dR_init_42 (fun q5 H hP hD hS => ?_)
  have hP : va_P (dC, dI) mcCl ([(h0, .inr (4, [.int 0, .int 0, .ref q1, .ref q2, .ref q3, .ref q4, .null, .null, .null, .null, .null])), (q1, .inl (cI, 12, .inl (fun _ => 0))), (q2, .inl (cI, 12, .inl (fun _ => 0))), (q3, .inl (cZ, 144, .inl (fun _ => 0))), (q4, .inl (cZ, 144, .inl (fun _ => 0))), (q5, .inl (cI, 144, .inl (fun _ => 0)))]) H := hP
  have hD : va_D A ([(h0, .inr (4, [.int 0, .int 0, .ref q1, .ref q2, .ref q3, .ref q4, .null, .null, .null, .null, .null])), (q1, .inl (cI, 12, .inl (fun _ => 0))), (q2, .inl (cI, 12, .inl (fun _ => 0))), (q3, .inl (cZ, 144, .inl (fun _ => 0))), (q4, .inl (cZ, 144, .inl (fun _ => 0))), (q5, .inl (cI, 144, .inl (fun _ => 0)))]) := hD
  refine va_putF (D := (dC, dI)) (ci := 4) (ty := (.array .int)) (C := RR) (T := FR) (N := 11) hx hb hts (fun w h => List.mem_cons_of_mem _ (inR w h)) tR tR_ok nR hown hK hP hD hS 0 rfl rfl 6 (by decide) (hts _ (List.mem_cons_of_mem _ kw465)) (fun _ h9 => h9) rfl hin rfl (by decide +kernel) rfl rfl (Nat.le_of_ble_eq_true rfl) dR_init_44 (fun H locs hP hD hS => ?_)
  have hP : va_P (dC, dI) mcCl ([(h0, .inr (4, [.int 0, .int 0, .ref q1, .ref q2, .ref q3, .ref q4, .ref q5, .null, .null, .null, .null])), (q1, .inl (cI, 12, .inl (fun _ => 0))), (q2, .inl (cI, 12, .inl (fun _ => 0))), (q3, .inl (cZ, 144, .inl (fun _ => 0))), (q4, .inl (cZ, 144, .inl (fun _ => 0))), (q5, .inl (cI, 144, .inl (fun _ => 0)))]) H := hP
  have hD : va_D A ([(h0, .inr (4, [.int 0, .int 0, .ref q1, .ref q2, .ref q3, .ref q4, .ref q5, .null, .null, .null, .null])), (q1, .inl (cI, 12, .inl (fun _ => 0))), (q2, .inl (cI, 12, .inl (fun _ => 0))), (q3, .inl (cZ, 144, .inl (fun _ => 0))), (q4, .inl (cZ, 144, .inl (fun _ => 0))), (q5, .inl (cI, 144, .inl (fun _ => 0)))]) := hD
  refine lv_aload_n hx hb dR_init_47 rfl (lv_at hl 0 rfl) ?_
  refine lv_iconst (v := 4) hx hb dR_init_48 (by decide) ?_
  refine newaN (ty := .int) hx hb rfl ra_int (hts _ (List.mem_cons_of_mem _ kw82)) hK 0 rfl hP hD hS hA 4 (4, .inl (fun _ => 0)) (fun _ => rfl) (by decide) (by decide) (by decide) (Nat.le_of_ble_eq_true rfl) (Nat.le_of_ble_eq_true rfl) dR_init_49 (fun q6 H hP hD hS => ?_)
  have hP : va_P (dC, dI) mcCl ([(h0, .inr (4, [.int 0, .int 0, .ref q1, .ref q2, .ref q3, .ref q4, .ref q5, .null, .null, .null, .null])), (q1, .inl (cI, 12, .inl (fun _ => 0))), (q2, .inl (cI, 12, .inl (fun _ => 0))), (q3, .inl (cZ, 144, .inl (fun _ => 0))), (q4, .inl (cZ, 144, .inl (fun _ => 0))), (q5, .inl (cI, 144, .inl (fun _ => 0))), (q6, .inl (cI, 4, .inl (fun _ => 0)))]) H := hP
  have hD : va_D A ([(h0, .inr (4, [.int 0, .int 0, .ref q1, .ref q2, .ref q3, .ref q4, .ref q5, .null, .null, .null, .null])), (q1, .inl (cI, 12, .inl (fun _ => 0))), (q2, .inl (cI, 12, .inl (fun _ => 0))), (q3, .inl (cZ, 144, .inl (fun _ => 0))), (q4, .inl (cZ, 144, .inl (fun _ => 0))), (q5, .inl (cI, 144, .inl (fun _ => 0))), (q6, .inl (cI, 4, .inl (fun _ => 0)))]) := hD
  refine va_putF (D := (dC, dI)) (ci := 4) (ty := (.array .int)) (C := RR) (T := FR) (N := 11) hx hb hts (fun w h => List.mem_cons_of_mem _ (inR w h)) tR tR_ok nR hown hK hP hD hS 0 rfl rfl 7 (by decide) (hts _ (List.mem_cons_of_mem _ kw466)) (fun _ h9 => h9) rfl hin rfl (by decide +kernel) rfl rfl (Nat.le_of_ble_eq_true rfl) dR_init_51 (fun H locs hP hD hS => ?_)
  have hP : va_P (dC, dI) mcCl ([(h0, .inr (4, [.int 0, .int 0, .ref q1, .ref q2, .ref q3, .ref q4, .ref q5, .ref q6, .null, .null, .null])), (q1, .inl (cI, 12, .inl (fun _ => 0))), (q2, .inl (cI, 12, .inl (fun _ => 0))), (q3, .inl (cZ, 144, .inl (fun _ => 0))), (q4, .inl (cZ, 144, .inl (fun _ => 0))), (q5, .inl (cI, 144, .inl (fun _ => 0))), (q6, .inl (cI, 4, .inl (fun _ => 0)))]) H := hP
  have hD : va_D A ([(h0, .inr (4, [.int 0, .int 0, .ref q1, .ref q2, .ref q3, .ref q4, .ref q5, .ref q6, .null, .null, .null])), (q1, .inl (cI, 12, .inl (fun _ => 0))), (q2, .inl (cI, 12, .inl (fun _ => 0))), (q3, .inl (cZ, 144, .inl (fun _ => 0))), (q4, .inl (cZ, 144, .inl (fun _ => 0))), (q5, .inl (cI, 144, .inl (fun _ => 0))), (q6, .inl (cI, 4, .inl (fun _ => 0)))]) := hD
  refine lv_aload_n hx hb dR_init_54 rfl (lv_at hl 0 rfl) ?_
  refine lv_sipush (v := 320) hx hb dR_init_55 (by decide) ?_
  refine newaN (ty := .int) hx hb rfl ra_int (hts _ (List.mem_cons_of_mem _ kw82)) hK 0 rfl hP hD hS hA 320 (320, .inl (fun _ => 0)) (fun _ => rfl) (by decide) (by decide) (by decide) (Nat.le_of_ble_eq_true rfl) (Nat.le_of_ble_eq_true rfl) dR_init_58 (fun q7 H hP hD hS => ?_)
  have hP : va_P (dC, dI) mcCl ([(h0, .inr (4, [.int 0, .int 0, .ref q1, .ref q2, .ref q3, .ref q4, .ref q5, .ref q6, .null, .null, .null])), (q1, .inl (cI, 12, .inl (fun _ => 0))), (q2, .inl (cI, 12, .inl (fun _ => 0))), (q3, .inl (cZ, 144, .inl (fun _ => 0))), (q4, .inl (cZ, 144, .inl (fun _ => 0))), (q5, .inl (cI, 144, .inl (fun _ => 0))), (q6, .inl (cI, 4, .inl (fun _ => 0))), (q7, .inl (cI, 320, .inl (fun _ => 0)))]) H := hP
  have hD : va_D A ([(h0, .inr (4, [.int 0, .int 0, .ref q1, .ref q2, .ref q3, .ref q4, .ref q5, .ref q6, .null, .null, .null])), (q1, .inl (cI, 12, .inl (fun _ => 0))), (q2, .inl (cI, 12, .inl (fun _ => 0))), (q3, .inl (cZ, 144, .inl (fun _ => 0))), (q4, .inl (cZ, 144, .inl (fun _ => 0))), (q5, .inl (cI, 144, .inl (fun _ => 0))), (q6, .inl (cI, 4, .inl (fun _ => 0))), (q7, .inl (cI, 320, .inl (fun _ => 0)))]) := hD
  refine va_putF (D := (dC, dI)) (ci := 4) (ty := (.array .int)) (C := RR) (T := FR) (N := 11) hx hb hts (fun w h => List.mem_cons_of_mem _ (inR w h)) tR tR_ok nR hown hK hP hD hS 0 rfl rfl 8 (by decide) (hts _ (List.mem_cons_of_mem _ kw467)) (fun _ h9 => h9) rfl hin rfl (by decide +kernel) rfl rfl (Nat.le_of_ble_eq_true rfl) dR_init_60 (fun H locs hP hD hS => ?_)
  have hP : va_P (dC, dI) mcCl ([(h0, .inr (4, [.int 0, .int 0, .ref q1, .ref q2, .ref q3, .ref q4, .ref q5, .ref q6, .ref q7, .null, .null])), (q1, .inl (cI, 12, .inl (fun _ => 0))), (q2, .inl (cI, 12, .inl (fun _ => 0))), (q3, .inl (cZ, 144, .inl (fun _ => 0))), (q4, .inl (cZ, 144, .inl (fun _ => 0))), (q5, .inl (cI, 144, .inl (fun _ => 0))), (q6, .inl (cI, 4, .inl (fun _ => 0))), (q7, .inl (cI, 320, .inl (fun _ => 0)))]) H := hP
  have hD : va_D A ([(h0, .inr (4, [.int 0, .int 0, .ref q1, .ref q2, .ref q3, .ref q4, .ref q5, .ref q6, .ref q7, .null, .null])), (q1, .inl (cI, 12, .inl (fun _ => 0))), (q2, .inl (cI, 12, .inl (fun _ => 0))), (q3, .inl (cZ, 144, .inl (fun _ => 0))), (q4, .inl (cZ, 144, .inl (fun _ => 0))), (q5, .inl (cI, 144, .inl (fun _ => 0))), (q6, .inl (cI, 4, .inl (fun _ => 0))), (q7, .inl (cI, 320, .inl (fun _ => 0)))]) := hD
  refine lv_aload_n hx hb dR_init_63 rfl (lv_at hl 0 rfl) ?_
  refine lv_sipush (v := 320) hx hb dR_init_64 (by decide) ?_
  refine newaN (ty := .int) hx hb rfl ra_int (hts _ (List.mem_cons_of_mem _ kw82)) hK 0 rfl hP hD hS hA 320 (320, .inl (fun _ => 0)) (fun _ => rfl) (by decide) (by decide) (by decide) (Nat.le_of_ble_eq_true rfl) (Nat.le_of_ble_eq_true rfl) dR_init_67 (fun q8 H hP hD hS => ?_)
  have hP : va_P (dC, dI) mcCl ([(h0, .inr (4, [.int 0, .int 0, .ref q1, .ref q2, .ref q3, .ref q4, .ref q5, .ref q6, .ref q7, .null, .null])), (q1, .inl (cI, 12, .inl (fun _ => 0))), (q2, .inl (cI, 12, .inl (fun _ => 0))), (q3, .inl (cZ, 144, .inl (fun _ => 0))), (q4, .inl (cZ, 144, .inl (fun _ => 0))), (q5, .inl (cI, 144, .inl (fun _ => 0))), (q6, .inl (cI, 4, .inl (fun _ => 0))), (q7, .inl (cI, 320, .inl (fun _ => 0))), (q8, .inl (cI, 320, .inl (fun _ => 0)))]) H := hP
  have hD : va_D A ([(h0, .inr (4, [.int 0, .int 0, .ref q1, .ref q2, .ref q3, .ref q4, .ref q5, .ref q6, .ref q7, .null, .null])), (q1, .inl (cI, 12, .inl (fun _ => 0))), (q2, .inl (cI, 12, .inl (fun _ => 0))), (q3, .inl (cZ, 144, .inl (fun _ => 0))), (q4, .inl (cZ, 144, .inl (fun _ => 0))), (q5, .inl (cI, 144, .inl (fun _ => 0))), (q6, .inl (cI, 4, .inl (fun _ => 0))), (q7, .inl (cI, 320, .inl (fun _ => 0))), (q8, .inl (cI, 320, .inl (fun _ => 0)))]) := hD
  refine va_putF (D := (dC, dI)) (ci := 4) (ty := (.array .int)) (C := RR) (T := FR) (N := 11) hx hb hts (fun w h => List.mem_cons_of_mem _ (inR w h)) tR tR_ok nR hown hK hP hD hS 0 rfl rfl 9 (by decide) (hts _ (List.mem_cons_of_mem _ kw468)) (fun _ h9 => h9) rfl hin rfl (by decide +kernel) rfl rfl (Nat.le_of_ble_eq_true rfl) dR_init_69 (fun H locs hP hD hS => ?_)
  have hP : va_P (dC, dI) mcCl ([(h0, .inr (4, [.int 0, .int 0, .ref q1, .ref q2, .ref q3, .ref q4, .ref q5, .ref q6, .ref q7, .ref q8, .null])), (q1, .inl (cI, 12, .inl (fun _ => 0))), (q2, .inl (cI, 12, .inl (fun _ => 0))), (q3, .inl (cZ, 144, .inl (fun _ => 0))), (q4, .inl (cZ, 144, .inl (fun _ => 0))), (q5, .inl (cI, 144, .inl (fun _ => 0))), (q6, .inl (cI, 4, .inl (fun _ => 0))), (q7, .inl (cI, 320, .inl (fun _ => 0))), (q8, .inl (cI, 320, .inl (fun _ => 0)))]) H := hP
  have hD : va_D A ([(h0, .inr (4, [.int 0, .int 0, .ref q1, .ref q2, .ref q3, .ref q4, .ref q5, .ref q6, .ref q7, .ref q8, .null])), (q1, .inl (cI, 12, .inl (fun _ => 0))), (q2, .inl (cI, 12, .inl (fun _ => 0))), (q3, .inl (cZ, 144, .inl (fun _ => 0))), (q4, .inl (cZ, 144, .inl (fun _ => 0))), (q5, .inl (cI, 144, .inl (fun _ => 0))), (q6, .inl (cI, 4, .inl (fun _ => 0))), (q7, .inl (cI, 320, .inl (fun _ => 0))), (q8, .inl (cI, 320, .inl (fun _ => 0)))]) := hD
  refine lv_aload_n hx hb dR_init_72 rfl (lv_at hl 0 rfl) ?_
  refine lv_sipush (v := 320) hx hb dR_init_73 (by decide) ?_
  refine newaN (ty := .int) hx hb rfl ra_int (hts _ (List.mem_cons_of_mem _ kw82)) hK 0 rfl hP hD hS hA 320 (320, .inl (fun _ => 0)) (fun _ => rfl) (by decide) (by decide) (by decide) (Nat.le_of_ble_eq_true rfl) (Nat.le_of_ble_eq_true rfl) dR_init_76 (fun q9 H hP hD hS => ?_)
  have hP : va_P (dC, dI) mcCl ([(h0, .inr (4, [.int 0, .int 0, .ref q1, .ref q2, .ref q3, .ref q4, .ref q5, .ref q6, .ref q7, .ref q8, .null])), (q1, .inl (cI, 12, .inl (fun _ => 0))), (q2, .inl (cI, 12, .inl (fun _ => 0))), (q3, .inl (cZ, 144, .inl (fun _ => 0))), (q4, .inl (cZ, 144, .inl (fun _ => 0))), (q5, .inl (cI, 144, .inl (fun _ => 0))), (q6, .inl (cI, 4, .inl (fun _ => 0))), (q7, .inl (cI, 320, .inl (fun _ => 0))), (q8, .inl (cI, 320, .inl (fun _ => 0))), (q9, .inl (cI, 320, .inl (fun _ => 0)))]) H := hP
  have hD : va_D A ([(h0, .inr (4, [.int 0, .int 0, .ref q1, .ref q2, .ref q3, .ref q4, .ref q5, .ref q6, .ref q7, .ref q8, .null])), (q1, .inl (cI, 12, .inl (fun _ => 0))), (q2, .inl (cI, 12, .inl (fun _ => 0))), (q3, .inl (cZ, 144, .inl (fun _ => 0))), (q4, .inl (cZ, 144, .inl (fun _ => 0))), (q5, .inl (cI, 144, .inl (fun _ => 0))), (q6, .inl (cI, 4, .inl (fun _ => 0))), (q7, .inl (cI, 320, .inl (fun _ => 0))), (q8, .inl (cI, 320, .inl (fun _ => 0))), (q9, .inl (cI, 320, .inl (fun _ => 0)))]) := hD
  refine va_putF (D := (dC, dI)) (ci := 4) (ty := (.array .int)) (C := RR) (T := FR) (N := 11) hx hb hts (fun w h => List.mem_cons_of_mem _ (inR w h)) tR tR_ok nR hown hK hP hD hS 0 rfl rfl 10 (by decide) (hts _ (List.mem_cons_of_mem _ kw469)) (fun _ h9 => h9) rfl hin rfl (by decide +kernel) rfl rfl (Nat.le_of_ble_eq_true rfl) dR_init_78 (fun H locs hP hD hS => ?_)
  have hP : va_P (dC, dI) mcCl ([(h0, .inr (4, [.int 0, .int 0, .ref q1, .ref q2, .ref q3, .ref q4, .ref q5, .ref q6, .ref q7, .ref q8, .ref q9])), (q1, .inl (cI, 12, .inl (fun _ => 0))), (q2, .inl (cI, 12, .inl (fun _ => 0))), (q3, .inl (cZ, 144, .inl (fun _ => 0))), (q4, .inl (cZ, 144, .inl (fun _ => 0))), (q5, .inl (cI, 144, .inl (fun _ => 0))), (q6, .inl (cI, 4, .inl (fun _ => 0))), (q7, .inl (cI, 320, .inl (fun _ => 0))), (q8, .inl (cI, 320, .inl (fun _ => 0))), (q9, .inl (cI, 320, .inl (fun _ => 0)))]) H := hP
  have hD : va_D A ([(h0, .inr (4, [.int 0, .int 0, .ref q1, .ref q2, .ref q3, .ref q4, .ref q5, .ref q6, .ref q7, .ref q8, .ref q9])), (q1, .inl (cI, 12, .inl (fun _ => 0))), (q2, .inl (cI, 12, .inl (fun _ => 0))), (q3, .inl (cZ, 144, .inl (fun _ => 0))), (q4, .inl (cZ, 144, .inl (fun _ => 0))), (q5, .inl (cI, 144, .inl (fun _ => 0))), (q6, .inl (cI, 4, .inl (fun _ => 0))), (q7, .inl (cI, 320, .inl (fun _ => 0))), (q8, .inl (cI, 320, .inl (fun _ => 0))), (q9, .inl (cI, 320, .inl (fun _ => 0)))]) := hD
  rw [mcWR_new] at hP hD
  refine W.widen (k := 9) (n := 1420) (by decide) (by decide) ?_
  exact W.vret hx hb hr (fun t ht hW => ⟨⟨mcAdR h0 q1 q2 q3 q4 q5 q6 q7 q8 q9, rfl, rfl, by rw [ht]; exact hP, va_K.moved hW.alike hK, hD⟩, hS.F ht⟩) hS.2.2 dR_init_81
set_option maxHeartbeats 4000000 in
set_option maxRecDepth 100000 in
theorem c_M_init (l : Launch) (dC : Nat → ClassId) (dI : Nat → Nat → Nat) (h0 : Nat) (cI cG cZ cJ : ClassId) (sz : Nat) : Met l yM_init wdM_init ({ frames := 2, cells := 36, slots := 9070, locals := 32 }) (mcIn (dC, dI) [(h0, .inr (3, [.null, .null, .null]))] (mcT4 cI cG cZ cJ) sz [.ref h0]) (mcIq (fun x : (Nat → Nat) × (Nat → Nat) × (Nat → Nat) => True) (fun x => mcWT h0 x.1 x.2.1 x.2.2 cI cG (0, -1, fun _ => 0, fun _ => 0) 0 0 (fun _ => 0) (fun _ => 0) (fun _ => 0) (fun _ => 0) (fun _ _ => 0) (fun _ => 0) (fun _ _ => 0, fun _ _ => 0, fun _ => 0, fun _ => 0, fun _ => 0, 0)) (dC, dI) [(h0, .inr (3, [.null, .null, .null]))] (mcT4 cI cG cZ cJ) sz) 36 9070 (va_A [(h0, .inr (3, [.null, .null, .null]))] sz) := by
  refine Met.ofW (cc := bM_init) (maxL := 1) (ret := none) (by decide) rfl ?_
  intro p e s m args below meth c s₁ BB hml hv
  obtain ⟨⟨rfl, hsz, hP, hK, hD0⟩, hN⟩ := hv
  have hx := BB.exec
  have hb := BB.bytes
  have hr := BB.returns
  have hts := atoms_spec (ws := wdM_init) BB.pre
  have hown : s.vm.findClass RM = some m.cls := findClass_of_methodNamed BB.named
  have hlocks := BB.notSynchronized
  have hin : meth.name = "<init>" := (name_of_methodNamed BB.named BB.method).1
  unfold mcIq
  subst hsz
  have hD := hD0.self (sz := s.heap.size)
  generalize hAe : va_A ([(h0, .inr (3, [.null, .null, .null]))]) s.heap.size = A at hD ⊢
  have hA : ∀ q : Nat, s.heap.size ≤ q → A q := fun q h => by rw [← hAe]; exact Or.inr h
  have hS : va_S A s.heap s.heap [] := va_S.rf
  have hl := lv_entry ([.ref h0]) (n := 1) (Nat.le_of_ble_eq_true rfl)
  rw [lg_entry_eq]
  generalize (lg_sl ([.ref h0]) ++ List.replicate (1 - (lg_sl ([.ref h0])).length) Slot.unset).toArray = ls at hl ⊢
  have hl : lv_has ls 1 [(0, .ref h0)] := hl
  refine lv_aload_n hx hb dM_init_0 rfl (lv_at hl 0 rfl) ?_
  refine W.objInit hx hb hown (hts _ (List.mem_cons_of_mem _ kw41)) (hts _ (List.mem_cons_of_mem _ kw42)) (hts _ (List.mem_cons_of_mem _ kw43)) rfl (by rw [hml]; exact hl.1) rfl dM_init_1 (Nat.le_of_ble_eq_true rfl) (Nat.le_of_ble_eq_true rfl) ?_
  refine W.eq (g2 := F0 m 4 ls []) rfl ?_
  refine lv_aload_n hx hb dM_init_4 rfl (lv_at hl 0 rfl) ?_
  refine va_new (ci := 0) (fs := [.int 0, .int 0, .null, .null, .null, .null, .null]) (C := RH) (T := FH) (N := 7) hx hb hts (fun w h => List.mem_cons_of_mem _ (inH w h)) tH tH_ok hown (hts _ (List.mem_cons_of_mem _ kw44)) (hts _ (List.mem_cons_of_mem _ kw45)) (hts _ (List.mem_cons_of_mem _ kw26)) hK hP hD hS hA rfl (fun j hj => by rcases (show j = 0 ∨ j = 1 ∨ j = 2 ∨ j = 3 ∨ j = 4 ∨ j = 5 ∨ j = 6 by omega) with rfl | rfl | rfl | rfl | rfl | rfl | rfl <;> rfl) (Nat.le_of_ble_eq_true rfl) (Nat.le_of_ble_eq_true rfl) dM_init_5 (fun nH H hP hD hS => ?_)
  refine lv_dup hx hb dM_init_8 rfl ?_
  have pmt := pm_rot ([(h0, .inr (3, [.null, .null, .null]))] : va_W) [(nH, .inr (0, [.int 0, .int 0, .null, .null, .null, .null, .null]))]
  have hPt := P_perm pmt hP
  have hDt := D_perm pmt hD
  refine mcCallIN (w := [(nH, .inr (0, [.int 0, .int 0, .null, .null, .null, .null, .null]))]) (rest := [.ref nH, .ref h0]) ⟨hx, hb, hml, hown, hts⟩ tlB (c_H_init l dC dI nH cI cG cZ cJ H.size) hN.2.1 kw46 kw26 kw47 ⟨rfl, rfl⟩ rfl (by decide +kernel) ⟨Nat.le_of_ble_eq_true rfl, Nat.le_of_ble_eq_true rfl⟩ hPt.lft hK hDt.lft hN hS (va_freeL hDt hS hA) hl.1 rfl (Nat.le_of_ble_eq_true rfl) ⟨Nat.le_of_ble_eq_true rfl, Nat.le_of_ble_eq_true rfl⟩ dM_init_9 (fun a H1 locs1 hu hP1 hD1 hk1 hS1 => ?_)
  obtain ⟨hPn, hDn⟩ := va_jnL hPt hDt hk1 (va_freeL hDt hS hA) hP1 hD1
  have hS := hS1
  have pmb := pm_rot (mcWH a cI cG 0 0 (fun _ => 0) (fun _ => 0) (fun _ => 0) (fun _ => 0) (fun _ _ => 0) : va_W) ([(h0, .inr (3, [.null, .null, .null]))])
  have hPm := P_perm pmb hPn
  have hDm := D_perm pmb hDn
  generalize H1 = H at hPm hS ⊢
  subst hu
  have hP := hPm
  have hD := hDm
  have hP : va_P (dC, dI) mcCl ([(h0, .inr (3, [.null, .null, .null]))] ++ (mcWH a cI cG 0 0 (fun _ => 0) (fun _ => 0) (fun _ => 0) (fun _ => 0) (fun _ _ => 0))) H := hP
  have hD : va_D A ([(h0, .inr (3, [.null, .null, .null]))] ++ (mcWH a cI cG 0 0 (fun _ => 0) (fun _ => 0) (fun _ => 0) (fun _ => 0) (fun _ _ => 0))) := hD
  refine va_putF (D := (dC, dI)) (ci := 3) (ty := (.object "MeasureChoice$House")) (C := RM) (T := FM) (N := 3) hx hb hts (fun w h => List.mem_cons_of_mem _ (inM w h)) tM tM_ok nM hown hK hP hD hS 0 rfl rfl 0 (by decide) (hts _ (List.mem_cons_of_mem _ kw132)) (fun _ h9 => h9) rfl hin rfl (by decide +kernel) rfl rfl (Nat.le_of_ble_eq_true rfl) dM_init_12 (fun H locs hP hD hS => ?_)
  have hP : va_P (dC, dI) mcCl ([(h0, .inr (3, [.ref (a 0), .null, .null]))] ++ (mcWH a cI cG 0 0 (fun _ => 0) (fun _ => 0) (fun _ => 0) (fun _ => 0) (fun _ _ => 0))) H := hP
  have hD : va_D A ([(h0, .inr (3, [.ref (a 0), .null, .null]))] ++ (mcWH a cI cG 0 0 (fun _ => 0) (fun _ => 0) (fun _ => 0) (fun _ => 0) (fun _ _ => 0))) := hD
  refine lv_aload_n hx hb dM_init_15 rfl (lv_at hl 0 rfl) ?_
  refine va_new (ci := 1) (fs := [.int 0, .int 0, .null, .null]) (C := RA) (T := FA) (N := 4) hx hb hts (fun w h => List.mem_cons_of_mem _ (inA w h)) tA tA_ok hown (hts _ (List.mem_cons_of_mem _ kw83)) (hts _ (List.mem_cons_of_mem _ kw84)) (hts _ (List.mem_cons_of_mem _ kw27)) hK hP hD hS hA rfl (fun j hj => by rcases (show j = 0 ∨ j = 1 ∨ j = 2 ∨ j = 3 by omega) with rfl | rfl | rfl | rfl <;> rfl) (Nat.le_of_ble_eq_true rfl) (Nat.le_of_ble_eq_true rfl) dM_init_16 (fun nA H hP hD hS => ?_)
  refine lv_dup hx hb dM_init_19 rfl ?_
  have pmt := pm_rot ([(h0, .inr (3, [.ref (a 0), .null, .null]))] ++ (mcWH a cI cG 0 0 (fun _ => 0) (fun _ => 0) (fun _ => 0) (fun _ => 0) (fun _ _ => 0)) : va_W) [(nA, .inr (1, [.int 0, .int 0, .null, .null]))]
  have hPt := P_perm pmt hP
  have hDt := D_perm pmt hD
  refine mcCallIN (w := [(nA, .inr (1, [.int 0, .int 0, .null, .null]))]) (rest := [.ref nA, .ref h0]) ⟨hx, hb, hml, hown, hts⟩ tlB (c_A_init l dC dI nA cI cG cZ cJ H.size) hN.2.2.1 kw85 kw27 kw86 ⟨rfl, rfl⟩ rfl (by decide +kernel) ⟨Nat.le_of_ble_eq_true rfl, Nat.le_of_ble_eq_true rfl⟩ hPt.lft hK hDt.lft hN hS (va_freeL hDt hS hA) hl.1 rfl (Nat.le_of_ble_eq_true rfl) ⟨Nat.le_of_ble_eq_true rfl, Nat.le_of_ble_eq_true rfl⟩ dM_init_20 (fun q H1 locs1 hu hP1 hD1 hk1 hS1 => ?_)
  obtain ⟨hPn, hDn⟩ := va_jnL hPt hDt hk1 (va_freeL hDt hS hA) hP1 hD1
  have hS := hS1
  have pmb := pm_rot (mcWA q cI 0 (-1) (fun _ => 0) (fun _ => 0) : va_W) ([(h0, .inr (3, [.ref (a 0), .null, .null]))] ++ (mcWH a cI cG 0 0 (fun _ => 0) (fun _ => 0) (fun _ => 0) (fun _ => 0) (fun _ _ => 0)))
  have hPm := P_perm pmb hPn
  have hDm := D_perm pmb hDn
  generalize H1 = H at hPm hS ⊢
  subst hu
  have hP := hPm
  have hD := hDm
  have hP : va_P (dC, dI) mcCl ([(h0, .inr (3, [.ref (a 0), .null, .null]))] ++ (mcWH a cI cG 0 0 (fun _ => 0) (fun _ => 0) (fun _ => 0) (fun _ => 0) (fun _ _ => 0)) ++ (mcWA q cI 0 (-1) (fun _ => 0) (fun _ => 0))) H := hP
  have hD : va_D A ([(h0, .inr (3, [.ref (a 0), .null, .null]))] ++ (mcWH a cI cG 0 0 (fun _ => 0) (fun _ => 0) (fun _ => 0) (fun _ => 0) (fun _ _ => 0)) ++ (mcWA q cI 0 (-1) (fun _ => 0) (fun _ => 0))) := hD
  refine va_putF (D := (dC, dI)) (ci := 3) (ty := (.object "MeasureChoice$Ladder")) (C := RM) (T := FM) (N := 3) hx hb hts (fun w h => List.mem_cons_of_mem _ (inM w h)) tM tM_ok nM hown hK hP hD hS 0 rfl rfl 1 (by decide) (hts _ (List.mem_cons_of_mem _ kw133)) (fun _ h9 => h9) rfl hin rfl (by decide +kernel) rfl rfl (Nat.le_of_ble_eq_true rfl) dM_init_23 (fun H locs hP hD hS => ?_)
  have hP : va_P (dC, dI) mcCl ([(h0, .inr (3, [.ref (a 0), .ref (q 0), .null]))] ++ (mcWH a cI cG 0 0 (fun _ => 0) (fun _ => 0) (fun _ => 0) (fun _ => 0) (fun _ _ => 0)) ++ (mcWA q cI 0 (-1) (fun _ => 0) (fun _ => 0))) H := hP
  have hD : va_D A ([(h0, .inr (3, [.ref (a 0), .ref (q 0), .null]))] ++ (mcWH a cI cG 0 0 (fun _ => 0) (fun _ => 0) (fun _ => 0) (fun _ => 0) (fun _ _ => 0)) ++ (mcWA q cI 0 (-1) (fun _ => 0) (fun _ => 0))) := hD
  refine lv_aload_n hx hb dM_init_26 rfl (lv_at hl 0 rfl) ?_
  refine va_new (ci := 2) (fs := [.null, .null, .null, .null, .null, .null, .int 0]) (C := RP) (T := FP) (N := 7) hx hb hts (fun w h => List.mem_cons_of_mem _ (inP w h)) tP tP_ok hown (hts _ (List.mem_cons_of_mem _ kw102)) (hts _ (List.mem_cons_of_mem _ kw103)) (hts _ (List.mem_cons_of_mem _ kw28)) hK hP hD hS hA rfl (fun j hj => by rcases (show j = 0 ∨ j = 1 ∨ j = 2 ∨ j = 3 ∨ j = 4 ∨ j = 5 ∨ j = 6 by omega) with rfl | rfl | rfl | rfl | rfl | rfl | rfl <;> rfl) (Nat.le_of_ble_eq_true rfl) (Nat.le_of_ble_eq_true rfl) dM_init_27 (fun nP H hP hD hS => ?_)
  refine lv_dup hx hb dM_init_30 rfl ?_
  have pmt := pm_rot ([(h0, .inr (3, [.ref (a 0), .ref (q 0), .null]))] ++ (mcWH a cI cG 0 0 (fun _ => 0) (fun _ => 0) (fun _ => 0) (fun _ => 0) (fun _ _ => 0)) ++ (mcWA q cI 0 (-1) (fun _ => 0) (fun _ => 0)) : va_W) [(nP, .inr (2, [.null, .null, .null, .null, .null, .null, .int 0]))]
  have hPt := P_perm pmt hP
  have hDt := D_perm pmt hD
  refine mcCallIN (w := [(nP, .inr (2, [.null, .null, .null, .null, .null, .null, .int 0]))]) (rest := [.ref nP, .ref h0]) ⟨hx, hb, hml, hown, hts⟩ tlB (c_P_init l dC dI nP cI cG cZ cJ H.size) hN.2.2.2 kw104 kw28 kw105 ⟨rfl, rfl⟩ rfl (by decide +kernel) ⟨Nat.le_of_ble_eq_true rfl, Nat.le_of_ble_eq_true rfl⟩ hPt.lft hK hDt.lft hN hS (va_freeL hDt hS hA) hl.1 rfl (Nat.le_of_ble_eq_true rfl) ⟨Nat.le_of_ble_eq_true rfl, Nat.le_of_ble_eq_true rfl⟩ dM_init_31 (fun r H1 locs1 hu hP1 hD1 hk1 hS1 => ?_)
  obtain ⟨hPn, hDn⟩ := va_jnL hPt hDt hk1 (va_freeL hDt hS hA) hP1 hD1
  have hS := hS1
  have pmb := pm_rot (mcWP r cI cG (fun _ => 0) (fun _ _ => 0) (fun _ _ => 0) (fun _ => 0) (fun _ => 0) (fun _ => 0) 0 : va_W) ([(h0, .inr (3, [.ref (a 0), .ref (q 0), .null]))] ++ (mcWH a cI cG 0 0 (fun _ => 0) (fun _ => 0) (fun _ => 0) (fun _ => 0) (fun _ _ => 0)) ++ (mcWA q cI 0 (-1) (fun _ => 0) (fun _ => 0)))
  have hPm := P_perm pmb hPn
  have hDm := D_perm pmb hDn
  generalize H1 = H at hPm hS ⊢
  subst hu
  have hP := hPm
  have hD := hDm
  have hP : va_P (dC, dI) mcCl ([(h0, .inr (3, [.ref (a 0), .ref (q 0), .null]))] ++ (mcWH a cI cG 0 0 (fun _ => 0) (fun _ => 0) (fun _ => 0) (fun _ => 0) (fun _ _ => 0)) ++ (mcWA q cI 0 (-1) (fun _ => 0) (fun _ => 0)) ++ (mcWP r cI cG (fun _ => 0) (fun _ _ => 0) (fun _ _ => 0) (fun _ => 0) (fun _ => 0) (fun _ => 0) 0)) H := hP
  have hD : va_D A ([(h0, .inr (3, [.ref (a 0), .ref (q 0), .null]))] ++ (mcWH a cI cG 0 0 (fun _ => 0) (fun _ => 0) (fun _ => 0) (fun _ => 0) (fun _ _ => 0)) ++ (mcWA q cI 0 (-1) (fun _ => 0) (fun _ => 0)) ++ (mcWP r cI cG (fun _ => 0) (fun _ _ => 0) (fun _ _ => 0) (fun _ => 0) (fun _ => 0) (fun _ => 0) 0)) := hD
  refine va_putF (D := (dC, dI)) (ci := 3) (ty := (.object "MeasureChoice$Planner")) (C := RM) (T := FM) (N := 3) hx hb hts (fun w h => List.mem_cons_of_mem _ (inM w h)) tM tM_ok nM hown hK hP hD hS 0 rfl rfl 2 (by decide) (hts _ (List.mem_cons_of_mem _ kw134)) (fun _ h9 => h9) rfl hin rfl (by decide +kernel) rfl rfl (Nat.le_of_ble_eq_true rfl) dM_init_34 (fun H locs hP hD hS => ?_)
  have hP : va_P (dC, dI) mcCl ([(h0, .inr (3, [.ref (a 0), .ref (q 0), .ref (r 0)]))] ++ (mcWH a cI cG 0 0 (fun _ => 0) (fun _ => 0) (fun _ => 0) (fun _ => 0) (fun _ _ => 0)) ++ (mcWA q cI 0 (-1) (fun _ => 0) (fun _ => 0)) ++ (mcWP r cI cG (fun _ => 0) (fun _ _ => 0) (fun _ _ => 0) (fun _ => 0) (fun _ => 0) (fun _ => 0) 0)) H := hP
  have hD : va_D A ([(h0, .inr (3, [.ref (a 0), .ref (q 0), .ref (r 0)]))] ++ (mcWH a cI cG 0 0 (fun _ => 0) (fun _ => 0) (fun _ => 0) (fun _ => 0) (fun _ _ => 0)) ++ (mcWA q cI 0 (-1) (fun _ => 0) (fun _ => 0)) ++ (mcWP r cI cG (fun _ => 0) (fun _ _ => 0) (fun _ _ => 0) (fun _ => 0) (fun _ => 0) (fun _ => 0) 0)) := hD
  have pmf : ([(h0, .inr (3, [.ref (a 0), .ref (q 0), .ref (r 0)]))] ++ (mcWH a cI cG 0 0 (fun _ => 0) (fun _ => 0) (fun _ => 0) (fun _ => 0) (fun _ _ => 0)) ++ (mcWA q cI 0 (-1) (fun _ => 0) (fun _ => 0)) ++ (mcWP r cI cG (fun _ => 0) (fun _ _ => 0) (fun _ _ => 0) (fun _ => 0) (fun _ => 0) (fun _ => 0) 0) : va_W).Perm (mcWT h0 a q r cI cG (0, -1, fun _ => 0, fun _ => 0) 0 0 (fun _ => 0) (fun _ => 0) (fun _ => 0) (fun _ => 0) (fun _ _ => 0) (fun _ => 0) (fun _ _ => 0, fun _ _ => 0, fun _ => 0, fun _ => 0, fun _ => 0, 0)) := by
    simp only [List.append_assoc]
    refine (List.Perm.refl _).append_left _ |>.trans ?_
    refine List.Perm.append_left _ ?_
    refine (pm_rot _ _).trans ?_
    rw [List.append_assoc]
    exact List.Perm.append_left _ (pm_rot _ _)
  have hP := P_perm pmf hP
  have hD := D_perm pmf hD
  refine W.widen (k := 36) (n := 9070) (by decide) (by decide) ?_
  exact W.vret hx hb hr (fun t ht hW => ⟨⟨(a, q, r), rfl, trivial, by rw [ht]; exact hP, va_K.moved hW.alike hK, hD⟩, hS.F ht⟩) hS.2.2 dM_init_37
