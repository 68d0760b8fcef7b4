/-! the reference: its cells, and its methods that only read -/
def bZ (b : Bool) : Int32 := if b then 1 else 0
theorem bZ_0 {b : Bool} : bZ b = 0 ↔ b = false := by cases b <;> simp [bZ]
def mcWR (w : Nat → Nat) (cI cZ : ClassId) (th n : Nat) (C G X D : Nat → Nat) (B : Nat → Nat → Int) (bu : Nat → Nat) (LG : Nat → Int) (LC : Nat → Nat) (ch : Nat → Int) : va_W :=
  [(w 0, .inr (4, [.int (nI th), .int (nI n), .ref (w 1), .ref (w 2), .ref (w 3), .ref (w 4), .ref (w 5), .ref (w 6), .ref (w 7), .ref (w 8), .ref (w 9)])), (w 1, .inl (cI, 12, .inl (fun m => nI (C m)))), (w 2, .inl (cI, 12, .inl (fun m => nI (G m)))), (w 3, .inl (cZ, 144, .inl (fun i => bZ ((X (i / 12)).testBit (i % 12))))), (w 4, .inl (cZ, 144, .inl (fun i => bZ ((D (i / 12)).testBit (i % 12))))), (w 5, .inl (cI, 144, .inl (fun i => iI (B (i / 12) (i % 12))))), (w 6, .inl (cI, 4, .inl (fun y => nI (bu y)))), (w 7, .inl (cI, 320, .inl (fun i => iI (LG i)))), (w 8, .inl (cI, 320, .inl (fun i => nI (LC i)))), (w 9, .inl (cI, 320, .inl (fun i => iI (ch i))))]
abbrev mcTR (cI cZ : ClassId) : List (ClassId × FieldType) := [(cI, .int), (cZ, .boolean)]
theorem mc_ix {a b : Nat} (hb : b < 12) : (12 * a + b) / 12 = a ∧ (12 * a + b) % 12 = b := by omega
theorem mcZ_nar {P : Prop} {r : Int32} (h : mcZ P r) : narrow .boolean (.int r) = .int r := by
  rcases h with ⟨h, -⟩ | ⟨h, -⟩ <;> rw [h] <;> rfl
theorem mcZ_t {P : Prop} {r : Int32} (h : mcZ P r) (h0 : ¬ r = 0) : P := by
  rcases h with ⟨-, h⟩ | ⟨h, -⟩
  · exact h
  · exact absurd h h0
theorem mcZ_f {P : Prop} {r : Int32} (h : mcZ P r) (h0 : r = 0) : ¬ P := by
  rcases h with ⟨h, -⟩ | ⟨-, h⟩
  · rw [h] at h0; cases h0
  · exact h
section MCZ
variable {p : Program} {l : Launch} {e : Env} {R : Room} {s : State} {m : MethodId} {args : Array Value} {below : List Frame} {meth : Method} {c : Code} {H : Heap} {locs : List Loc} {cells slots : Nat} {Q : State → Prop}
variable {cc : ByteArray} {pc : Nat} {ls : Array Slot} {rest : List Value} {D : va_G} {cl : List vw_C} {A : Nat → Prop} {a : Nat} {tys : List (ClassId × FieldType)} {ws : va_W} {H0 : Heap}
theorem zaldN (hexec : p.tables.exec = Jvm.exec) (hb : c.code = cc) (hK : va_K D cl tys s) (hP : va_P D cl ws H) (q0 t0 : Nat) {cA : ClassId} {n : Nat} {f : Nat → Int32} (ha : ws[q0]? = some (a, .inl (cA, n, .inl f))) (ht : tys[t0]? = some (cA, .boolean)) {k : Nat} (hk : k < n) (hn : n < 2 ^ 31) {v : Int32} (hv : f k = v) (hdg : decode cc pc = .ok (.baload, 1))
    (kk : W p l e R s m args below meth c H locs cells slots Q (F0 m (pc + 1) ls (.int v :: rest))) : W p l e R s m args below meth c H locs cells slots Q (F0 m pc ls (.int (nI k) :: .ref a :: rest)) := by
  refine va_zald hexec hb hK hP q0 t0 ha ht (vp_in_nI hk hn) hdg ?_
  rw [nI_clamp (by omega), hv]
  exact kk
theorem zastN (hexec : p.tables.exec = Jvm.exec) (hb : c.code = cc) (hK : va_K D cl tys s) (hP : va_P D cl ws H) (hD : va_D A ws) (hS : va_S A H0 H locs) (q0 t0 : Nat) {cA : ClassId} {n : Nat} {f : Nat → Int32} (ha : ws[q0]? = some (a, .inl (cA, n, .inl f))) (ht : tys[t0]? = some (cA, .boolean)) {k : Nat} (hk : k < n) (hn : n < 2 ^ 31) {x : Int32} (hx9 : x = 0 ∨ x = 1) (g : Nat → Int32) (hg : ∀ j, g j = if j = k then x else f j) {ws' : va_W} (hw : ws.set q0 (a, .inl (cA, n, .inl g)) = ws') (hdg : decode cc pc = .ok (.bastore, 1))
    (kk : ∀ (H1 : Heap) (locs1 : List Loc), va_P D cl ws' H1 → va_D A ws' → va_S A H0 H1 locs1 → W p l e R s m args below meth c H1 locs1 cells slots Q (F0 m (pc + 1) ls rest)) : W p l e R s m args below meth c H locs cells slots Q (F0 m pc ls (.int x :: .int (nI k) :: .ref a :: rest)) := by
  have hnx : vp_nar .boolean x = x := by rcases hx9 with z | z <;> rw [z] <;> rfl
  have hgf : upd f (nI k).toNatClampNeg (vp_nar .boolean x) = g := by
    rw [nI_clamp (by omega), hnx]
    exact funext fun j => by rw [hg j]; rfl
  refine va_zast hexec hb hK hP hD hS q0 t0 ha ht (vp_in_nI hk hn) hdg ?_
  rw [hgf, hw]
  exact kk
end MCZ
set_option maxHeartbeats 4000000 in
set_option maxRecDepth 100000 in
theorem c_R_in (l : Launch) (v lo hi : Int32) : Met l yR_in wdR_in ({ frames := 0, cells := 0, slots := 0, locals := 0 }) (nwP [.int v, .int lo, .int hi]) (vp_Si (fun z9 => mcZ (lo ≤ v ∧ v ≤ hi) z9)) 0 0 (fun _ => False) := by
  refine Met.ofW (cc := bR_in) (maxL := 3) (ret := (some FieldType.boolean)) (by decide) rfl ?_
  intro p e s m args below meth c s₁ BB hml hv
  obtain ⟨rfl, -⟩ := hv
  have hx := BB.exec
  have hb := BB.bytes
  have hr := BB.returns
  have hts := atoms_spec (ws := wdR_in) BB.pre
  have hown : s.vm.findClass RR = some m.cls := findClass_of_methodNamed BB.named
  have hlocks := BB.notSynchronized
  have hl := lv_entry ([.int v, .int lo, .int hi]) (n := 3) (Nat.le_of_ble_eq_true rfl)
  rw [lg_entry_eq]
  generalize (lg_sl ([.int v, .int lo, .int hi]) ++ List.replicate (3 - (lg_sl ([.int v, .int lo, .int hi])).length) Slot.unset).toArray = ls at hl ⊢
  have hl : lv_has ls 3 [(0, .int v), (1, .int lo), (2, .int hi)] := hl
  refine lv_iload_n hx hb dR_in_0 rfl (lv_at hl 0 rfl) ?_
  refine lv_iload_n hx hb dR_in_1 rfl (lv_at hl 1 rfl) ?_
  refine lv_icmp_lt (tgt := 14) hx hb dR_in_2 (by decide) (fun c1 => ?_) (fun c1 => ?_)
  ·
    refine lv_iconst (v := 0) hx hb dR_in_14 (by decide) ?_
    exact W.zret hx hb hr (rfl) (fun t ht hW => ⟨_, rfl, Or.inr ⟨rfl, fun h => Int32.not_lt.mpr h.1 c1⟩, ht⟩) (fun q hq => by cases hq) dR_in_15
  ·
    refine lv_iload_n hx hb dR_in_5 rfl (lv_at hl 0 rfl) ?_
    refine lv_iload_n hx hb dR_in_6 rfl (lv_at hl 2 rfl) ?_
    refine lv_icmp_gt (tgt := 14) hx hb dR_in_7 (by decide) (fun c2 => ?_) (fun c2 => ?_)
    ·
      refine lv_iconst (v := 0) hx hb dR_in_14 (by decide) ?_
      exact W.zret hx hb hr (rfl) (fun t ht hW => ⟨_, rfl, Or.inr ⟨rfl, fun h => Int32.not_lt.mpr h.2 c2⟩, ht⟩) (fun q hq => by cases hq) dR_in_15
    ·
      refine lv_iconst (v := 1) hx hb dR_in_10 (by decide) ?_
      refine lv_goto (tgt := 15) hx hb dR_in_11 (by decide) ?_
      exact W.zret hx hb hr (rfl) (fun t ht hW => ⟨_, rfl, Or.inl ⟨rfl, Int32.not_lt.mp c1, Int32.not_lt.mp c2⟩, ht⟩) (fun q hq => by cases hq) dR_in_15
set_option maxHeartbeats 4000000 in
set_option maxRecDepth 100000 in
theorem c_R_has (l : Launch) (S k : Nat) (hS : S < 2 ^ 31) (hk : k < 32) : Met l yR_has wdR_has ({ frames := 0, cells := 0, slots := 0, locals := 0 }) (nwP [.int (nI S), .int (nI k)]) (vp_Si (fun z9 => z9 = bZ (S.testBit k))) 0 0 (fun _ => False) := by
  refine Met.ofW (cc := bR_has) (maxL := 2) (ret := (some FieldType.boolean)) (by decide) rfl ?_
  intro p e s m args below meth c s₁ BB hml hv
  obtain ⟨rfl, -⟩ := hv
  have hx := BB.exec
  have hb := BB.bytes
  have hr := BB.returns
  have hts := atoms_spec (ws := wdR_has) BB.pre
  have hown : s.vm.findClass RR = some m.cls := findClass_of_methodNamed BB.named
  have hlocks := BB.notSynchronized
  have hl := lv_entry ([.int (nI S), .int (nI k)]) (n := 2) (Nat.le_of_ble_eq_true rfl)
  rw [lg_entry_eq]
  generalize (lg_sl ([.int (nI S), .int (nI k)]) ++ List.replicate (2 - (lg_sl ([.int (nI S), .int (nI k)])).length) Slot.unset).toArray = ls at hl ⊢
  have hl : lv_has ls 2 [(0, .int (nI S)), (1, .int (nI k))] := hl
  refine lv_iload_n hx hb dR_has_0 rfl (lv_at hl 0 rfl) ?_
  refine lv_iload_n hx hb dR_has_1 rfl (lv_at hl 1 rfl) ?_
  refine lv_ishr hx hb dR_has_2 ?_
  refine lv_iconst (v := 1) hx hb dR_has_3 (by decide) ?_
  refine lv_iand hx hb dR_has_4 ?_
  refine lv_iconst (v := 1) hx hb dR_has_5 (by decide) ?_
  refine lv_icmp_ne (tgt := 13) hx hb dR_has_6 (by decide) (fun c1 => ?_) (fun c1 => ?_)
  · rw [nI_has hk hS] at c1
    refine lv_iconst (v := 0) hx hb dR_has_13 (by decide) ?_
    exact W.zret hx hb hr (rfl) (fun t ht hW => ⟨_, rfl, (by cases hb9 : S.testBit k <;> simp_all [bZ]), ht⟩) (fun q hq => by cases hq) dR_has_14
  · rw [nI_has hk hS] at c1
    refine lv_iconst (v := 1) hx hb dR_has_9 (by decide) ?_
    refine lv_goto (tgt := 14) hx hb dR_has_10 (by decide) ?_
    exact W.zret hx hb hr (rfl) (fun t ht hW => ⟨_, rfl, (by cases hb9 : S.testBit k <;> simp_all [bZ]), ht⟩) (fun q hq => by cases hq) dR_has_14
set_option maxHeartbeats 4000000 in
set_option maxRecDepth 100000 in
theorem c_R_thrown (l : Launch) (dC : Nat → ClassId) (dI : Nat → Nat → Nat) (w : Nat → Nat) (cI cZ : ClassId) (th n : Nat) (C G X D : Nat → Nat) (B : Nat → Nat → Int) (bu : Nat → Nat) (LG : Nat → Int) (LC : Nat → Nat) (ch : Nat → Int)  : Met l yR_thrown wdR_thrown ({ frames := 0, cells := 0, slots := 0, locals := 0 }) (roP (dC, dI) mcCl (mcWR w cI cZ th n C G X D B bu LG LC ch) (mcTR cI cZ) [.ref (w 0)]) (vp_Si (fun z9 => z9 = nI th)) 0 0 (fun _ => False) := by
  refine Met.ofW (cc := bR_thrown) (maxL := 1) (ret := (some FieldType.int)) (by decide) rfl ?_
  intro p e s m args below meth c s₁ BB hml hv
  obtain ⟨rfl, hP, hK⟩ := hv
  have hx := BB.exec
  have hb := BB.bytes
  have hr := BB.returns
  have hts := atoms_spec (ws := wdR_thrown) BB.pre
  have hown : s.vm.findClass RR = some m.cls := findClass_of_methodNamed BB.named
  have hlocks := BB.notSynchronized
  have hl := lv_entry ([.ref (w 0)]) (n := 1) (Nat.le_of_ble_eq_true rfl)
  rw [lg_entry_eq]
  generalize (lg_sl ([.ref (w 0)]) ++ List.replicate (1 - (lg_sl ([.ref (w 0)])).length) Slot.unset).toArray = ls at hl ⊢
  have hl : lv_has ls 1 [(0, .ref (w 0))] := hl
  refine lv_aload_n hx hb dR_thrown_0 rfl (lv_at hl 0 rfl) ?_
  refine va_get (D := (dC, dI)) (ci := 4) (C := RR) (T := FR) (N := 11) hx hb hts (fun w h => List.mem_cons_of_mem _ (inR w h)) hown hK hP 0 rfl rfl 0 (by decide) (hts _ (List.mem_cons_of_mem _ kw459)) (fun _ h9 => h9) rfl dR_thrown_1 ?_
  exact W.iret hx hb hr (fun t ht hW => ⟨_, rfl, rfl, ht⟩) (fun q hq => by cases hq) dR_thrown_4
theorem mc_is {n : Nat} (hn : n ≤ 12) (v : Int32) : (0 ≤ v ∧ v ≤ nI n - 1) ↔ ∃ k, k < n ∧ v = nI k := by
  have e : nI n - 1 = iI ((n : Int) - 1) := by rw [← iI_nat, show (1 : Int32) = iI 1 from rfl, iI_sub]
  have hv := iI_bnd v
  rw [e, ← iI_self v, show (0 : Int32) = iI 0 from rfl, iI_le (by omega) (by omega) (by omega) (by omega), iI_le (by omega) (by omega) (by omega) (by omega)]
  constructor
  · rintro ⟨h1, h2⟩
    exact ⟨v.toInt.toNat, by omega, by rw [← iI_nat]; congr 1; omega⟩
  · rintro ⟨k, hk, e2⟩
    rw [iI_self] at e2
    have : v.toInt = (k : Int) := by rw [e2]; exact nI_toInt (by omega)
    omega
set_option maxHeartbeats 4000000 in
set_option maxRecDepth 100000 in
theorem c_R_is (l : Launch) (dC : Nat → ClassId) (dI : Nat → Nat → Nat) (w : Nat → Nat) (cI cZ : ClassId) (th n : Nat) (C G X D : Nat → Nat) (B : Nat → Nat → Int) (bu : Nat → Nat) (LG : Nat → Int) (LC : Nat → Nat) (ch : Nat → Int) (v : Int32) (hn : n ≤ 12) : Met l yR_is wdR_is ({ frames := 1, cells := 0, slots := 0, locals := 22 }) (roP (dC, dI) mcCl (mcWR w cI cZ th n C G X D B bu LG LC ch) (mcTR cI cZ) [.ref (w 0), .int v]) (vp_Si (fun z9 => mcZ (∃ k, k < n ∧ v = nI k) z9)) 0 0 (fun _ => False) := by
  refine Met.ofW (cc := bR_is) (maxL := 2) (ret := (some FieldType.boolean)) (by decide) rfl ?_
  intro p e s m args below meth c s₁ BB hml hv
  obtain ⟨rfl, hP, hK⟩ := hv
  have hx := BB.exec
  have hb := BB.bytes
  have hr := BB.returns
  have hts := atoms_spec (ws := wdR_is) BB.pre
  have hown : s.vm.findClass RR = some m.cls := findClass_of_methodNamed BB.named
  have hlocks := BB.notSynchronized
  have hl := lv_entry ([.ref (w 0), .int v]) (n := 2) (Nat.le_of_ble_eq_true rfl)
  rw [lg_entry_eq]
  generalize (lg_sl ([.ref (w 0), .int v]) ++ List.replicate (2 - (lg_sl ([.ref (w 0), .int v])).length) Slot.unset).toArray = ls at hl ⊢
  have hl : lv_has ls 2 [(0, .ref (w 0)), (1, .int v)] := hl
  refine lv_iload_n hx hb dR_is_0 rfl (lv_at hl 1 rfl) ?_
  refine lv_iconst (v := 0) hx hb dR_is_1 (by decide) ?_
  refine lv_aload_n hx hb dR_is_2 rfl (lv_at hl 0 rfl) ?_
  refine va_get (D := (dC, dI)) (ci := 4) (C := RR) (T := FR) (N := 11) hx hb hts (fun w h => List.mem_cons_of_mem _ (inR w h)) hown hK hP 0 rfl rfl 1 (by decide) (hts _ (List.mem_cons_of_mem _ kw460)) (fun _ h9 => h9) rfl dR_is_3 ?_
  refine lv_iconst (v := 1) hx hb dR_is_6 (by decide) ?_
  refine lv_isub hx hb dR_is_7 ?_
  refine callRS (As := [.int v, .int 0, .int ((nI n) - 1)]) (rest := []) ⟨hx, hb, hml, hown, hts⟩ tlB (c_R_in l v 0 ((nI n) - 1)) kw502 kw503 kw29 kw504 ⟨rfl, rfl⟩ (n := 3) (by decide +kernel) ⟨Nat.le_of_ble_eq_true rfl, Nat.le_of_ble_eq_true rfl⟩ (nwP_pre) rfl hl.1 rfl (Nat.le_of_ble_eq_true rfl) ⟨Nat.le_of_ble_eq_true rfl, Nat.le_of_ble_eq_true rfl⟩ dR_is_8 (fun r1 hr1 => ?_)
  unfold mcZ at hr1
  rw [mc_is hn] at hr1
  exact W.zret hx hb hr (mcZ_nar hr1) (fun t ht hW => ⟨_, rfl, hr1, ht⟩) (fun q hq => by cases hq) dR_is_11
theorem mc_isSet {n : Nat} (hn : n ≤ 12) (v : Int32) (h0 : ¬ v < 0) : v >>> (nI n &&& 31) = 0 ↔ ∃ S, S < 2 ^ n ∧ v = nI S := by
  obtain ⟨j, hj, rfl⟩ := nI_of h0
  have hp : 2 ^ n ≤ 2 ^ 12 := Nat.pow_le_pow_right (by decide) hn
  have hpp : 0 < 2 ^ n := Nat.pow_pos (by decide)
  have hd : j / 2 ^ n ≤ j := Nat.div_le_self _ _
  rw [nI_shr (by omega) hj, show (0 : Int32) = nI 0 from rfl, nI_eq (by omega) (by omega), Nat.div_eq_zero_iff]
  constructor
  · rintro (h | h)
    · omega
    · exact ⟨j, h, rfl⟩
  · rintro ⟨S, hS, e⟩
    have := (nI_eq hj (by omega)).mp e
    exact Or.inr (by omega)
set_option maxHeartbeats 4000000 in
set_option maxRecDepth 100000 in
theorem c_R_isSet (l : Launch) (dC : Nat → ClassId) (dI : Nat → Nat → Nat) (w : Nat → Nat) (cI cZ : ClassId) (th n : Nat) (C G X D : Nat → Nat) (B : Nat → Nat → Int) (bu : Nat → Nat) (LG : Nat → Int) (LC : Nat → Nat) (ch : Nat → Int) (v : Int32) (hn : n ≤ 12) : Met l yR_isSet wdR_isSet ({ frames := 0, cells := 0, slots := 0, locals := 0 }) (roP (dC, dI) mcCl (mcWR w cI cZ th n C G X D B bu LG LC ch) (mcTR cI cZ) [.ref (w 0), .int v]) (vp_Si (fun z9 => mcZ (∃ S, S < 2 ^ n ∧ v = nI S) z9)) 0 0 (fun _ => False) := by
  refine Met.ofW (cc := bR_isSet) (maxL := 2) (ret := (some FieldType.boolean)) (by decide) rfl ?_
  intro p e s m args below meth c s₁ BB hml hv
  obtain ⟨rfl, hP, hK⟩ := hv
  have hx := BB.exec
  have hb := BB.bytes
  have hr := BB.returns
  have hts := atoms_spec (ws := wdR_isSet) BB.pre
  have hown : s.vm.findClass RR = some m.cls := findClass_of_methodNamed BB.named
  have hlocks := BB.notSynchronized
  have hl := lv_entry ([.ref (w 0), .int v]) (n := 2) (Nat.le_of_ble_eq_true rfl)
  rw [lg_entry_eq]
  generalize (lg_sl ([.ref (w 0), .int v]) ++ List.replicate (2 - (lg_sl ([.ref (w 0), .int v])).length) Slot.unset).toArray = ls at hl ⊢
  have hl : lv_has ls 2 [(0, .ref (w 0)), (1, .int v)] := hl
  refine lv_iload_n hx hb dR_isSet_0 rfl (lv_at hl 1 rfl) ?_
  refine lv_if_lt (tgt := 17) hx hb dR_isSet_1 (by decide) (fun c1 => ?_) (fun c1 => ?_)
  ·
    refine lv_iconst (v := 0) hx hb dR_isSet_17 (by decide) ?_
    exact W.zret hx hb hr (rfl) (fun t ht hW => ⟨_, rfl, Or.inr ⟨rfl, fun ⟨S, h1, h2⟩ => by have hp : 2 ^ n ≤ 2 ^ 12 := Nat.pow_le_pow_right (by decide) hn; rw [h2] at c1; exact nI_pos (by omega) c1⟩, ht⟩) (fun q hq => by cases hq) dR_isSet_18
  ·
    refine lv_iload_n hx hb dR_isSet_4 rfl (lv_at hl 1 rfl) ?_
    refine lv_aload_n hx hb dR_isSet_5 rfl (lv_at hl 0 rfl) ?_
    refine va_get (D := (dC, dI)) (ci := 4) (C := RR) (T := FR) (N := 11) hx hb hts (fun w h => List.mem_cons_of_mem _ (inR w h)) hown hK hP 0 rfl rfl 1 (by decide) (hts _ (List.mem_cons_of_mem _ kw460)) (fun _ h9 => h9) rfl dR_isSet_6 ?_
    refine lv_ishr hx hb dR_isSet_9 ?_
    refine lv_if_ne (tgt := 17) hx hb dR_isSet_10 (by decide) (fun c2 => ?_) (fun c2 => ?_)
    · rw [mc_isSet hn v c1] at c2
      refine lv_iconst (v := 0) hx hb dR_isSet_17 (by decide) ?_
      exact W.zret hx hb hr (rfl) (fun t ht hW => ⟨_, rfl, Or.inr ⟨rfl, c2⟩, ht⟩) (fun q hq => by cases hq) dR_isSet_18
    · rw [mc_isSet hn v c1] at c2
      refine lv_iconst (v := 1) hx hb dR_isSet_13 (by decide) ?_
      refine lv_goto (tgt := 18) hx hb dR_isSet_14 (by decide) ?_
      exact W.zret hx hb hr (rfl) (fun t ht hW => ⟨_, rfl, Or.inl ⟨rfl, c2⟩, ht⟩) (fun q hq => by cases hq) dR_isSet_18
set_option maxHeartbeats 4000000 in
set_option maxRecDepth 100000 in
theorem c_R_costOf (l : Launch) (dC : Nat → ClassId) (dI : Nat → Nat → Nat) (w : Nat → Nat) (cI cZ : ClassId) (th n : Nat) (C G X D : Nat → Nat) (B : Nat → Nat → Int) (bu : Nat → Nat) (LG : Nat → Int) (LC : Nat → Nat) (ch : Nat → Int) (S : Nat) (hn : n ≤ 12) (hS : S < 2 ^ 31) : Met l yR_costOf wdR_costOf ({ frames := 1, cells := 0, slots := 0, locals := 21 }) (roP (dC, dI) mcCl (mcWR w cI cZ th n C G X D B bu LG LC ch) (mcTR cI cZ) [.ref (w 0), .int (nI S)]) (vp_Si (fun z9 => z9 = nI (mc_cost C S n))) 0 0 (fun _ => False) := by
  refine Met.ofW (cc := bR_costOf) (maxL := 4) (ret := (some FieldType.int)) (by decide) rfl ?_
  intro p e s m args below meth c s₁ BB hml hv
  obtain ⟨rfl, hP, hK⟩ := hv
  have hx := BB.exec
  have hb := BB.bytes
  have hr := BB.returns
  have hts := atoms_spec (ws := wdR_costOf) BB.pre
  have hown : s.vm.findClass RR = some m.cls := findClass_of_methodNamed BB.named
  have hlocks := BB.notSynchronized
  have hl := lv_entry ([.ref (w 0), .int (nI S)]) (n := 4) (Nat.le_of_ble_eq_true rfl)
  rw [lg_entry_eq]
  generalize (lg_sl ([.ref (w 0), .int (nI S)]) ++ List.replicate (4 - (lg_sl ([.ref (w 0), .int (nI S)])).length) Slot.unset).toArray = ls at hl ⊢
  have hl : lv_has ls 4 [(0, .ref (w 0)), (1, .int (nI S))] := hl
  refine lv_iconst (v := 0) hx hb dR_costOf_0 (by decide) ?_
  refine lv_istore_n (lv' := [(2, .int 0), (0, .ref (w 0)), (1, .int (nI S))]) hx hb dR_costOf_1 rfl hl (by decide) rfl (fun ls hl => ?_)
  refine lv_iconst (v := 0) hx hb dR_costOf_2 (by decide) ?_
  refine lv_istore_n (lv' := [(3, .int 0), (2, .int 0), (0, .ref (w 0)), (1, .int (nI S))]) hx hb dR_costOf_3 rfl hl (by decide) rfl (fun ls hl => ?_)
  refine lpR (σ := Nat) (fun k => k ≤ n) (fun k => [(0, .ref (w 0)), (1, .int (nI S)), (2, .int (nI (mc_cost C S k))), (3, .int (nI k))]) (fun k => n - k) (fun k ls hI hl ih => ?_) (0) ls (Nat.zero_le _) (lv_sub hl [2, 3, 1, 0] rfl)
  have hl : lv_has ls 4 [(0, .ref (w 0)), (1, .int (nI S)), (2, .int (nI (mc_cost C S k))), (3, .int (nI k))] := hl
  refine lv_iload_n hx hb dR_costOf_4 rfl (lv_at hl 3 rfl) ?_
  refine lv_aload_n hx hb dR_costOf_5 rfl (lv_at hl 0 rfl) ?_
  refine va_get (D := (dC, dI)) (ci := 4) (C := RR) (T := FR) (N := 11) hx hb hts (fun w h => List.mem_cons_of_mem _ (inR w h)) hown hK hP 0 rfl rfl 1 (by decide) (hts _ (List.mem_cons_of_mem _ kw460)) (fun _ h9 => h9) rfl dR_costOf_6 ?_
  refine lv_icmp_ge (tgt := 39) hx hb dR_costOf_9 (by decide) (fun c1 => ?_) (fun c1 => ?_)
  · have hkn : k = n := by have := (nI_leI (by omega) (by omega)).mp c1; omega
    subst hkn
    refine lv_iload_n hx hb dR_costOf_39 rfl (lv_at hl 2 rfl) ?_
    exact W.iret hx hb hr (fun t ht hW => ⟨_, rfl, rfl, ht⟩) (fun q hq => by cases hq) dR_costOf_40
  · have hkn : k < n := by
      rcases Nat.lt_or_ge k n with z | z
      · exact z
      · exact absurd (nI_le z (by omega)) c1
    refine lv_iload_n hx hb dR_costOf_12 rfl (lv_at hl 2 rfl) ?_
    refine lv_iload_n hx hb dR_costOf_13 rfl (lv_at hl 1 rfl) ?_
    refine lv_iload_n hx hb dR_costOf_14 rfl (lv_at hl 3 rfl) ?_
    refine callRS (As := [.int (nI S), .int (nI k)]) (rest := [.int (nI (mc_cost C S k))]) ⟨hx, hb, hml, hown, hts⟩ tlB (c_R_has l S k hS (by omega)) kw537 kw538 kw29 kw539 ⟨rfl, rfl⟩ (n := 2) (by decide +kernel) ⟨Nat.le_of_ble_eq_true rfl, Nat.le_of_ble_eq_true rfl⟩ (nwP_pre) rfl hl.1 rfl (Nat.le_of_ble_eq_true rfl) ⟨Nat.le_of_ble_eq_true rfl, Nat.le_of_ble_eq_true rfl⟩ dR_costOf_15 (fun r1 hr1 => ?_)
    refine lv_if_eq (tgt := 30) hx hb dR_costOf_18 (by decide) (fun c2 => ?_) (fun c2 => ?_)
    · rw [hr1, bZ_0] at c2
      refine lv_iconst (v := 0) hx hb dR_costOf_30 (by decide) ?_
      refine lv_iadd hx hb dR_costOf_31 ?_
      refine lv_topi (fun y1 ey1 => ?_)
      have hy1 : y1 = nI (mc_cost C S (k + 1)) := by rw [ey1, show (0 : Int32) = nI 0 from rfl, nI_add]; simp [mc_cost, c2]
      subst hy1
      refine lv_istore_n (lv' := [(2, .int (nI (mc_cost C S (k + 1)))), (0, .ref (w 0)), (1, .int (nI S)), (3, .int (nI k))]) hx hb dR_costOf_32 rfl hl (by decide) rfl (fun ls hl => ?_)
      refine lv_iinc (v := (nI (k + 1))) (lv' := [(3, .int (nI (k + 1))), (2, .int (nI (mc_cost C S (k + 1)))), (0, .ref (w 0)), (1, .int (nI S))]) hx hb dR_costOf_33 hl (k := 3) rfl (nI_1 k) (by decide) rfl (fun ls hl => ?_)
      refine lv_goto (tgt := 4) hx hb dR_costOf_36 (by decide) ?_
      exact ih (k + 1) ls (hkn) (by omega) (lv_sub hl [2, 3, 1, 0] rfl)
    · rw [hr1, bZ_0, Bool.not_eq_false] at c2
      refine lv_aload_n hx hb dR_costOf_21 rfl (lv_at hl 0 rfl) ?_
      refine va_get (D := (dC, dI)) (ci := 4) (C := RR) (T := FR) (N := 11) hx hb hts (fun w h => List.mem_cons_of_mem _ (inR w h)) hown hK hP 0 rfl rfl 2 (by decide) (hts _ (List.mem_cons_of_mem _ kw461)) (fun _ h9 => h9) rfl dR_costOf_22 ?_
      refine lv_iload_n hx hb dR_costOf_25 rfl (lv_at hl 3 rfl) ?_
      refine ialdN hx hb hK hP 1 0 rfl rfl (k := k) (by omega) (by decide) (v := nI (C k)) rfl dR_costOf_26 ?_
      refine lv_goto (tgt := 31) hx hb dR_costOf_27 (by decide) ?_
      refine lv_iadd hx hb dR_costOf_31 ?_
      refine lv_topi (fun y2 ey2 => ?_)
      have hy2 : y2 = nI (mc_cost C S (k + 1)) := by rw [ey2, nI_add]; simp [mc_cost, c2]
      subst hy2
      refine lv_istore_n (lv' := [(2, .int (nI (mc_cost C S (k + 1)))), (0, .ref (w 0)), (1, .int (nI S)), (3, .int (nI k))]) hx hb dR_costOf_32 rfl hl (by decide) rfl (fun ls hl => ?_)
      refine lv_iinc (v := (nI (k + 1))) (lv' := [(3, .int (nI (k + 1))), (2, .int (nI (mc_cost C S (k + 1)))), (0, .ref (w 0)), (1, .int (nI S))]) hx hb dR_costOf_33 hl (k := 3) rfl (nI_1 k) (by decide) rfl (fun ls hl => ?_)
      refine lv_goto (tgt := 4) hx hb dR_costOf_36 (by decide) ?_
      exact ih (k + 1) ls (hkn) (by omega) (lv_sub hl [2, 3, 1, 0] rfl)
/-- the gains of the measures below k, the bonuses of k's own below j -/
def mc_gj (G : Nat → Nat) (B : Nat → Nat → Int) (S k j : Nat) : Int := mc_gain G B S k + (if S.testBit k = true then (G k : Int) + mc_bon (B k) S j else 0)
set_option maxHeartbeats 4000000 in
set_option maxRecDepth 100000 in
theorem c_R_gainOf (l : Launch) (dC : Nat → ClassId) (dI : Nat → Nat → Nat) (w : Nat → Nat) (cI cZ : ClassId) (th n : Nat) (C G X D : Nat → Nat) (B : Nat → Nat → Int) (bu : Nat → Nat) (LG : Nat → Int) (LC : Nat → Nat) (ch : Nat → Int) (S : Nat) (hn : n ≤ 12) (hS : S < 2 ^ 31) : Met l yR_gainOf wdR_gainOf ({ frames := 1, cells := 0, slots := 0, locals := 21 }) (roP (dC, dI) mcCl (mcWR w cI cZ th n C G X D B bu LG LC ch) (mcTR cI cZ) [.ref (w 0), .int (nI S)]) (vp_Si (fun z9 => z9 = iI (mc_gain G B S n))) 0 0 (fun _ => False) := by
  refine Met.ofW (cc := bR_gainOf) (maxL := 5) (ret := (some FieldType.int)) (by decide) rfl ?_
  intro p e s m args below meth c s₁ BB hml hv
  obtain ⟨rfl, hP, hK⟩ := hv
  have hx := BB.exec
  have hb := BB.bytes
  have hr := BB.returns
  have hts := atoms_spec (ws := wdR_gainOf) BB.pre
  have hown : s.vm.findClass RR = some m.cls := findClass_of_methodNamed BB.named
  have hlocks := BB.notSynchronized
  have hl := lv_entry ([.ref (w 0), .int (nI S)]) (n := 5) (Nat.le_of_ble_eq_true rfl)
  rw [lg_entry_eq]
  generalize (lg_sl ([.ref (w 0), .int (nI S)]) ++ List.replicate (5 - (lg_sl ([.ref (w 0), .int (nI S)])).length) Slot.unset).toArray = ls at hl ⊢
  have hl : lv_has ls 5 [(0, .ref (w 0)), (1, .int (nI S))] := hl
  refine lv_iconst (v := 0) hx hb dR_gainOf_0 (by decide) ?_
  refine lv_istore_n (lv' := [(2, .int 0), (0, .ref (w 0)), (1, .int (nI S))]) hx hb dR_gainOf_1 rfl hl (by decide) rfl (fun ls hl => ?_)
  refine lv_iconst (v := 0) hx hb dR_gainOf_2 (by decide) ?_
  refine lv_istore_n (lv' := [(3, .int 0), (2, .int 0), (0, .ref (w 0)), (1, .int (nI S))]) hx hb dR_gainOf_3 rfl hl (by decide) rfl (fun ls hl => ?_)
  refine lpR (σ := Nat) (fun k => k ≤ n) (fun k => [(0, .ref (w 0)), (1, .int (nI S)), (2, .int (iI (mc_gain G B S k))), (3, .int (nI k))]) (fun k => n - k) (fun k ls hI hl ih => ?_) (0) ls (Nat.zero_le _) (lv_sub hl [2, 3, 1, 0] rfl)
  have hl : lv_has ls 5 [(0, .ref (w 0)), (1, .int (nI S)), (2, .int (iI (mc_gain G B S k))), (3, .int (nI k))] := hl
  refine lv_iload_n hx hb dR_gainOf_4 rfl (lv_at hl 3 rfl) ?_
  refine lv_aload_n hx hb dR_gainOf_5 rfl (lv_at hl 0 rfl) ?_
  refine va_get (D := (dC, dI)) (ci := 4) (C := RR) (T := FR) (N := 11) hx hb hts (fun w h => List.mem_cons_of_mem _ (inR w h)) hown hK hP 0 rfl rfl 1 (by decide) (hts _ (List.mem_cons_of_mem _ kw460)) (fun _ h9 => h9) rfl dR_gainOf_6 ?_
  refine lv_icmp_ge (tgt := 90) hx hb dR_gainOf_9 (by decide) (fun c1 => ?_) (fun c1 => ?_)
  · have hkn : k = n := by have := (nI_leI (by omega) (by omega)).mp c1; omega
    subst hkn
    refine lv_iload_n hx hb dR_gainOf_90 rfl (lv_at hl 2 rfl) ?_
    exact W.iret hx hb hr (fun t ht hW => ⟨_, rfl, rfl, ht⟩) (fun q hq => by cases hq) dR_gainOf_91
  · have hkn : k < n := by
      rcases Nat.lt_or_ge k n with z | z
      · exact z
      · exact absurd (nI_le z (by omega)) c1
    refine lv_iload_n hx hb dR_gainOf_12 rfl (lv_at hl 2 rfl) ?_
    refine lv_iload_n hx hb dR_gainOf_13 rfl (lv_at hl 1 rfl) ?_
    refine lv_iload_n hx hb dR_gainOf_14 rfl (lv_at hl 3 rfl) ?_
    refine callRS (As := [.int (nI S), .int (nI k)]) (rest := [.int (iI (mc_gain G B S k))]) ⟨hx, hb, hml, hown, hts⟩ tlB (c_R_has l S k hS (by omega)) kw537 kw538 kw29 kw539 ⟨rfl, rfl⟩ (n := 2) (by decide +kernel) ⟨Nat.le_of_ble_eq_true rfl, Nat.le_of_ble_eq_true rfl⟩ (nwP_pre) rfl hl.1 rfl (Nat.le_of_ble_eq_true rfl) ⟨Nat.le_of_ble_eq_true rfl, Nat.le_of_ble_eq_true rfl⟩ dR_gainOf_15 (fun r1 hr1 => ?_)
    refine lv_if_eq (tgt := 30) hx hb dR_gainOf_18 (by decide) (fun c2 => ?_) (fun c2 => ?_)
    · rw [hr1, bZ_0] at c2
      refine lv_iconst (v := 0) hx hb dR_gainOf_30 (by decide) ?_
      refine lv_iadd hx hb dR_gainOf_31 ?_
      refine lv_topi (fun y1 ey1 => ?_)
      have hy1 : y1 = iI (mc_gj G B S k 0) := by rw [ey1, show (0 : Int32) = iI 0 from rfl, iI_add]; simp [mc_gj, c2]
      subst hy1
      refine lv_istore_n (lv' := [(2, .int (iI (mc_gj G B S k 0))), (0, .ref (w 0)), (1, .int (nI S)), (3, .int (nI k))]) hx hb dR_gainOf_32 rfl hl (by decide) rfl (fun ls hl => ?_)
      refine lv_iconst (v := 0) hx hb dR_gainOf_33 (by decide) ?_
      refine lv_istore (lv' := [(4, .int 0), (2, .int (iI (mc_gj G B S k 0))), (0, .ref (w 0)), (1, .int (nI S)), (3, .int (nI k))]) hx hb dR_gainOf_34 hl (by decide) rfl (fun ls hl => ?_)
      have ih9 := ih
      refine lpR (σ := Nat) (fun j => j ≤ k) (fun j => [(0, .ref (w 0)), (1, .int (nI S)), (2, .int (iI (mc_gj G B S k j))), (3, .int (nI k)), (4, .int (nI j))]) (fun j => k - j) (fun j ls hI hl ih => ?_) (0) ls (Nat.zero_le _) (lv_sub hl [2, 3, 1, 4, 0] rfl)
      have hl : lv_has ls 5 [(0, .ref (w 0)), (1, .int (nI S)), (2, .int (iI (mc_gj G B S k j))), (3, .int (nI k)), (4, .int (nI j))] := hl
      refine lv_iload hx hb dR_gainOf_36 (lv_at hl 4 rfl) ?_
      refine lv_iload_n hx hb dR_gainOf_38 rfl (lv_at hl 3 rfl) ?_
      refine lv_icmp_ge (tgt := 84) hx hb dR_gainOf_39 (by decide) (fun c3 => ?_) (fun c3 => ?_)
      · have hjn : j = k := by have := (nI_leI (by omega) (by omega)).mp c3; omega
        refine lv_iinc (v := (nI (k + 1))) (lv' := [(3, .int (nI (k + 1))), (0, .ref (w 0)), (1, .int (nI S)), (2, .int (iI (mc_gj G B S k j))), (4, .int (nI j))]) hx hb dR_gainOf_84 hl (k := 3) rfl (nI_1 k) (by decide) rfl (fun ls hl => ?_)
        refine lv_goto (tgt := 4) hx hb dR_gainOf_87 (by decide) ?_
        exact ih9 (k + 1) ls hkn (by omega) (lv_sub (l' := [(0, .ref (w 0)), (1, .int (nI S)), (2, .int (iI (mc_gain G B S (k + 1)))), (3, .int (nI (k + 1)))]) hl [1, 2, 3, 0] (by rw [hjn]; rfl))
      · have hjn : j < k := by
          rcases Nat.lt_or_ge j k with z | z
          · exact z
          · exact absurd (nI_le z (by omega)) c3
        refine lv_iload_n hx hb dR_gainOf_42 rfl (lv_at hl 2 rfl) ?_
        refine lv_iload_n hx hb dR_gainOf_43 rfl (lv_at hl 1 rfl) ?_
        refine lv_iload_n hx hb dR_gainOf_44 rfl (lv_at hl 3 rfl) ?_
        refine callRS (As := [.int (nI S), .int (nI k)]) (rest := [.int (iI (mc_gj G B S k j))]) ⟨hx, hb, hml, hown, hts⟩ tlB (c_R_has l S k hS (by omega)) kw537 kw538 kw29 kw539 ⟨rfl, rfl⟩ (n := 2) (by decide +kernel) ⟨Nat.le_of_ble_eq_true rfl, Nat.le_of_ble_eq_true rfl⟩ (nwP_pre) rfl hl.1 rfl (Nat.le_of_ble_eq_true rfl) ⟨Nat.le_of_ble_eq_true rfl, Nat.le_of_ble_eq_true rfl⟩ dR_gainOf_45 (fun r2 hr2 => ?_)
        refine lv_if_eq (tgt := 75) hx hb dR_gainOf_48 (by decide) (fun c4 => ?_) (fun c4 => ?_)
        ·
          refine lv_iconst (v := 0) hx hb dR_gainOf_75 (by decide) ?_
          refine lv_iadd hx hb dR_gainOf_76 ?_
          refine lv_topi (fun y2 ey2 => ?_)
          have hy2 : y2 = iI (mc_gj G B S k (j + 1)) := by rw [ey2, show (0 : Int32) = iI 0 from rfl, iI_add]; simp [mc_gj, c2]
          subst hy2
          refine lv_istore_n (lv' := [(2, .int (iI (mc_gj G B S k (j + 1)))), (0, .ref (w 0)), (1, .int (nI S)), (3, .int (nI k)), (4, .int (nI j))]) hx hb dR_gainOf_77 rfl hl (by decide) rfl (fun ls hl => ?_)
          refine lv_iinc (v := (nI (j + 1))) (lv' := [(4, .int (nI (j + 1))), (2, .int (iI (mc_gj G B S k (j + 1)))), (0, .ref (w 0)), (1, .int (nI S)), (3, .int (nI k))]) hx hb dR_gainOf_78 hl (k := 4) rfl (nI_1 j) (by decide) rfl (fun ls hl => ?_)
          refine lv_goto (tgt := 36) hx hb dR_gainOf_81 (by decide) ?_
          exact ih (j + 1) ls (hjn) (by omega) (lv_sub hl [2, 3, 1, 4, 0] rfl)
        · rw [hr2, bZ_0, Bool.not_eq_false, c2] at c4; cases c4
    · rw [hr1, bZ_0, Bool.not_eq_false] at c2
      refine lv_aload_n hx hb dR_gainOf_21 rfl (lv_at hl 0 rfl) ?_
      refine va_get (D := (dC, dI)) (ci := 4) (C := RR) (T := FR) (N := 11) hx hb hts (fun w h => List.mem_cons_of_mem _ (inR w h)) hown hK hP 0 rfl rfl 3 (by decide) (hts _ (List.mem_cons_of_mem _ kw462)) (fun _ h9 => h9) rfl dR_gainOf_22 ?_
      refine lv_iload_n hx hb dR_gainOf_25 rfl (lv_at hl 3 rfl) ?_
      refine ialdN hx hb hK hP 2 0 rfl rfl (k := k) (by omega) (by decide) (v := nI (G k)) rfl dR_gainOf_26 ?_
      refine lv_goto (tgt := 31) hx hb dR_gainOf_27 (by decide) ?_
      refine lv_iadd hx hb dR_gainOf_31 ?_
      refine lv_topi (fun y3 ey3 => ?_)
      have hy3 : y3 = iI (mc_gj G B S k 0) := by rw [ey3, ← iI_nat, iI_add]; simp [mc_gj, mc_bon, c2]
      subst hy3
      refine lv_istore_n (lv' := [(2, .int (iI (mc_gj G B S k 0))), (0, .ref (w 0)), (1, .int (nI S)), (3, .int (nI k))]) hx hb dR_gainOf_32 rfl hl (by decide) rfl (fun ls hl => ?_)
      refine lv_iconst (v := 0) hx hb dR_gainOf_33 (by decide) ?_
      refine lv_istore (lv' := [(4, .int 0), (2, .int (iI (mc_gj G B S k 0))), (0, .ref (w 0)), (1, .int (nI S)), (3, .int (nI k))]) hx hb dR_gainOf_34 hl (by decide) rfl (fun ls hl => ?_)
      have ih9 := ih
      refine lpR (σ := Nat) (fun j => j ≤ k) (fun j => [(0, .ref (w 0)), (1, .int (nI S)), (2, .int (iI (mc_gj G B S k j))), (3, .int (nI k)), (4, .int (nI j))]) (fun j => k - j) (fun j ls hI hl ih => ?_) (0) ls (Nat.zero_le _) (lv_sub hl [2, 3, 1, 4, 0] rfl)
      have hl : lv_has ls 5 [(0, .ref (w 0)), (1, .int (nI S)), (2, .int (iI (mc_gj G B S k j))), (3, .int (nI k)), (4, .int (nI j))] := hl
      refine lv_iload hx hb dR_gainOf_36 (lv_at hl 4 rfl) ?_
      refine lv_iload_n hx hb dR_gainOf_38 rfl (lv_at hl 3 rfl) ?_
      refine lv_icmp_ge (tgt := 84) hx hb dR_gainOf_39 (by decide) (fun c3 => ?_) (fun c3 => ?_)
      · have hjn : j = k := by have := (nI_leI (by omega) (by omega)).mp c3; omega
        refine lv_iinc (v := (nI (k + 1))) (lv' := [(3, .int (nI (k + 1))), (0, .ref (w 0)), (1, .int (nI S)), (2, .int (iI (mc_gj G B S k j))), (4, .int (nI j))]) hx hb dR_gainOf_84 hl (k := 3) rfl (nI_1 k) (by decide) rfl (fun ls hl => ?_)
        refine lv_goto (tgt := 4) hx hb dR_gainOf_87 (by decide) ?_
        exact ih9 (k + 1) ls hkn (by omega) (lv_sub (l' := [(0, .ref (w 0)), (1, .int (nI S)), (2, .int (iI (mc_gain G B S (k + 1)))), (3, .int (nI (k + 1)))]) hl [1, 2, 3, 0] (by rw [hjn]; rfl))
      · have hjn : j < k := by
          rcases Nat.lt_or_ge j k with z | z
          · exact z
          · exact absurd (nI_le z (by omega)) c3
        refine lv_iload_n hx hb dR_gainOf_42 rfl (lv_at hl 2 rfl) ?_
        refine lv_iload_n hx hb dR_gainOf_43 rfl (lv_at hl 1 rfl) ?_
        refine lv_iload_n hx hb dR_gainOf_44 rfl (lv_at hl 3 rfl) ?_
        refine callRS (As := [.int (nI S), .int (nI k)]) (rest := [.int (iI (mc_gj G B S k j))]) ⟨hx, hb, hml, hown, hts⟩ tlB (c_R_has l S k hS (by omega)) kw537 kw538 kw29 kw539 ⟨rfl, rfl⟩ (n := 2) (by decide +kernel) ⟨Nat.le_of_ble_eq_true rfl, Nat.le_of_ble_eq_true rfl⟩ (nwP_pre) rfl hl.1 rfl (Nat.le_of_ble_eq_true rfl) ⟨Nat.le_of_ble_eq_true rfl, Nat.le_of_ble_eq_true rfl⟩ dR_gainOf_45 (fun r2 hr2 => ?_)
        refine lv_if_eq (tgt := 75) hx hb dR_gainOf_48 (by decide) (fun c4 => ?_) (fun c4 => ?_)
        · rw [hr2, bZ_0, c2] at c4; cases c4
        ·
          refine lv_iload_n hx hb dR_gainOf_51 rfl (lv_at hl 1 rfl) ?_
          refine lv_iload hx hb dR_gainOf_52 (lv_at hl 4 rfl) ?_
          refine callRS (As := [.int (nI S), .int (nI j)]) (rest := [.int (iI (mc_gj G B S k j))]) ⟨hx, hb, hml, hown, hts⟩ tlB (c_R_has l S j hS (by omega)) kw537 kw538 kw29 kw539 ⟨rfl, rfl⟩ (n := 2) (by decide +kernel) ⟨Nat.le_of_ble_eq_true rfl, Nat.le_of_ble_eq_true rfl⟩ (nwP_pre) rfl hl.1 rfl (Nat.le_of_ble_eq_true rfl) ⟨Nat.le_of_ble_eq_true rfl, Nat.le_of_ble_eq_true rfl⟩ dR_gainOf_54 (fun r3 hr3 => ?_)
          refine lv_if_eq (tgt := 75) hx hb dR_gainOf_57 (by decide) (fun c5 => ?_) (fun c5 => ?_)
          · rw [hr3, bZ_0] at c5
            refine lv_iconst (v := 0) hx hb dR_gainOf_75 (by decide) ?_
            refine lv_iadd hx hb dR_gainOf_76 ?_
            refine lv_topi (fun y4 ey4 => ?_)
            have hy4 : y4 = iI (mc_gj G B S k (j + 1)) := by rw [ey4, show (0 : Int32) = iI 0 from rfl, iI_add]; simp [mc_gj, mc_bon, c2, c5]
            subst hy4
            refine lv_istore_n (lv' := [(2, .int (iI (mc_gj G B S k (j + 1)))), (0, .ref (w 0)), (1, .int (nI S)), (3, .int (nI k)), (4, .int (nI j))]) hx hb dR_gainOf_77 rfl hl (by decide) rfl (fun ls hl => ?_)
            refine lv_iinc (v := (nI (j + 1))) (lv' := [(4, .int (nI (j + 1))), (2, .int (iI (mc_gj G B S k (j + 1)))), (0, .ref (w 0)), (1, .int (nI S)), (3, .int (nI k))]) hx hb dR_gainOf_78 hl (k := 4) rfl (nI_1 j) (by decide) rfl (fun ls hl => ?_)
            refine lv_goto (tgt := 36) hx hb dR_gainOf_81 (by decide) ?_
            exact ih (j + 1) ls (hjn) (by omega) (lv_sub hl [2, 3, 1, 4, 0] rfl)
          · rw [hr3, bZ_0, Bool.not_eq_false] at c5
            refine lv_aload_n hx hb dR_gainOf_60 rfl (lv_at hl 0 rfl) ?_
            refine va_get (D := (dC, dI)) (ci := 4) (C := RR) (T := FR) (N := 11) hx hb hts (fun w h => List.mem_cons_of_mem _ (inR w h)) hown hK hP 0 rfl rfl 6 (by decide) (hts _ (List.mem_cons_of_mem _ kw465)) (fun _ h9 => h9) rfl dR_gainOf_61 ?_
            refine lv_bipush (v := 12) hx hb dR_gainOf_64 (by decide) ?_
            refine lv_iload_n hx hb dR_gainOf_66 rfl (lv_at hl 3 rfl) ?_
            refine lv_imul hx hb dR_gainOf_67 ?_
            refine lv_iload hx hb dR_gainOf_68 (lv_at hl 4 rfl) ?_
            refine lv_iadd hx hb dR_gainOf_70 ?_
            refine lv_topi (fun y5 ey5 => ?_)
            have hy5 : y5 = nI (12 * k + j) := by rw [ey5, show (12 : Int32) = nI 12 from rfl, pk_mul, nI_add]
            subst hy5
            refine ialdN hx hb hK hP 5 0 rfl rfl (k := (12 * k + j)) (by omega) (by decide) (v := iI (B k j)) (by rw [(mc_ix (a := k) (b := j) (by omega)).1, (mc_ix (a := k) (b := j) (by omega)).2]) dR_gainOf_71 ?_
            refine lv_goto (tgt := 76) hx hb dR_gainOf_72 (by decide) ?_
            refine lv_iadd hx hb dR_gainOf_76 ?_
            refine lv_topi (fun y6 ey6 => ?_)
            have hy6 : y6 = iI (mc_gj G B S k (j + 1)) := by rw [ey6, iI_add]; congr 1; simp [mc_gj, mc_bon, c2, c5]; omega
            subst hy6
            refine lv_istore_n (lv' := [(2, .int (iI (mc_gj G B S k (j + 1)))), (0, .ref (w 0)), (1, .int (nI S)), (3, .int (nI k)), (4, .int (nI j))]) hx hb dR_gainOf_77 rfl hl (by decide) rfl (fun ls hl => ?_)
            refine lv_iinc (v := (nI (j + 1))) (lv' := [(4, .int (nI (j + 1))), (2, .int (iI (mc_gj G B S k (j + 1)))), (0, .ref (w 0)), (1, .int (nI S)), (3, .int (nI k))]) hx hb dR_gainOf_78 hl (k := 4) rfl (nI_1 j) (by decide) rfl (fun ls hl => ?_)
            refine lv_goto (tgt := 36) hx hb dR_gainOf_81 (by decide) ?_
            exact ih (j + 1) ls (hjn) (by omega) (lv_sub hl [2, 3, 1, 4, 0] rfl)
