/-! the law: what holds between two calls -/
theorem rep0 {v hi : Int32} {M : Nat} (hM : M < 2 ^ 31) (e : hi = nI M) (h : 0 ≤ v ∧ v ≤ hi) : ∃ k, k ≤ M ∧ v = nI k := by
  obtain ⟨k, hk, rfl⟩ := nI_of (Int32.not_lt.mpr h.1)
  rw [e] at h
  exact ⟨k, (nI_leI hk hM).mp h.2, rfl⟩
theorem rep1 {v hi : Int32} {M : Nat} (hM : M < 2 ^ 31) (e : hi = nI M) (h : 1 ≤ v ∧ v ≤ hi) : ∃ k, 1 ≤ k ∧ k ≤ M ∧ v = nI k := by
  obtain ⟨k, hk, rfl⟩ := nI_of (Int32.not_lt.mpr (Int32.le_trans (by decide : (0 : Int32) ≤ 1) h.1))
  rw [e] at h
  exact ⟨k, (nI_leI (a := 1) (by decide) hk).mp h.1, (nI_leI hk hM).mp h.2, rfl⟩
theorem repI (v : Int32) : ∃ z : Int, -2147483648 ≤ z ∧ z < 2147483648 ∧ v = iI z := ⟨v.toInt, (iI_bnd v).1, (iI_bnd v).2, (iI_self v).symm⟩
theorem rep01 {v : Int32} (h : 0 ≤ v ∧ v ≤ 1) : v = 0 ∨ v = 1 := by
  obtain ⟨k, hk, rfl⟩ := rep0 (M := 1) (by decide) rfl h
  rcases (show k = 0 ∨ k = 1 by omega) with rfl | rfl
  · exact Or.inl rfl
  · exact Or.inr rfl
def mcCx (p : Program) (l : Launch) (s : State) (m : MethodId) (c : Code) (b L : Nat) (xs : Nat → Int32) (dC : Nat → ClassId) (dI : Nat → Nat → Nat) (cI cG cZ cJ : ClassId) : Prop :=
  p.tables.exec = Jvm.exec ∧ c.code = code ∧ c.maxLocals = 7 ∧ s.vm.findClass RL = some m.cls ∧ (∀ w ∈ lw_tbl, w.before #[Value.ref b] s = true) ∧ va_X b L xs s s.heap ∧ b < s.heap.size ∧ l.stackTraces = false ∧ L ≤ 2048 ∧ va_K (dC, dI) mcCl (mcT4 cI cG cZ cJ) s ∧ mcTh s s.heap
abbrev mcAA (s : State) : Nat → Prop := fun q => s.heap.size ≤ q
def mcLS (s : State) (dC : Nat → ClassId) (dI : Nat → Nat → Nat) (o : Nat) (a q r : Nat → Nat) (cI cG cZ cJ : ClassId) (u : Nat) (w : Nat → Nat) (i : Nat) (H : Heap) (locs : List Loc) : Prop :=
  ∃ (la : mcLA) (n v : Nat) (C G X D : Nat → Nat) (B : Nat → Nat → Int) (bu : Nat → Nat) (lp : mcLP) (ov : Nat → Int64) (th : Nat) (LG : Nat → Int) (LC : Nat → Nat) (ch : Nat → Int), mcInv n v C G X D B bu la i ∧ va_P (dC, dI) mcCl (mcWL o a q r cI cG la n v C G X D B bu lp u cJ ov ++ mcWR w cI cZ th n C G X D B bu LG LC ch) H ∧ va_D (mcAA s) (mcWL o a q r cI cG la n v C G X D B bu lp u cJ ov ++ mcWR w cI cZ th n C G X D B bu LG LC ch) ∧ va_S (mcAA s) s.heap H locs
section MCLW
variable {p : Program} {l : Launch} {e : Env} {R : Room} {s : State} {m : MethodId} {args : Array Value} {below : List Frame} {meth : Method} {c : Code} {H : Heap} {locs : List Loc} {cells slots : Nat} {Q : State → Prop}
variable {cc : ByteArray} {pc : Nat} {ls : Array Slot} {rest : List Value} {A : Nat → Prop} {H0 : Heap}
theorem sldN (hx : p.tables.exec = Jvm.exec) (hb : c.code = cc) {b L : Nat} {xs : Nat → Int32} (hX : va_X b L xs s H0) (hbl : b < H0.size) (hbA : ¬ A b) (hS : va_S A H0 H locs) {k : Nat} (hk : k < L) (hL : L < 2 ^ 31) {v : Int32} (hv : xs k = v) (hdg : decode cc pc = .ok (.iaload, 1))
    (kk : W p l e R s m args below meth c H locs cells slots Q (F0 m (pc + 1) ls (.int v :: rest))) : W p l e R s m args below meth c H locs cells slots Q (F0 m pc ls (.int (nI k) :: .ref b :: rest)) := by
  refine va_sld hx hb hX hbl hbA hS (vp_in_nI hk hL) hdg ?_
  rw [nI_clamp (by omega), hv]
  exact kk
end MCLW
