/-! the object as a whole: its cells; worlds in another order; calls that answer nothing -/
theorem va_P_mem {D : va_G} {cl : List vw_C} {w : va_W} {H : Heap} : va_P D cl w H ↔ ∀ q ∈ w, va_at D cl q H :=
  ⟨fun h q hq => by obtain ⟨k, hk⟩ := List.getElem?_of_mem hq; exact h k q hk, fun h k q hk => h q (List.mem_of_getElem? hk)⟩
theorem va_D_nd {A : Nat → Prop} {w : va_W} : va_D A w ↔ ((w.map (fun q => q.1)).Nodup ∧ ∀ q ∈ w, A q.1) := by
  constructor
  · rintro ⟨h1, h2⟩
    refine ⟨?_, fun q hq => by obtain ⟨k, hk⟩ := List.getElem?_of_mem hq; exact h2 k q hk⟩
    unfold List.Nodup
    rw [List.pairwise_iff_getElem]
    intro i j hi hj hij e
    rw [List.length_map] at hi hj
    have := h1 i j w[i] w[j] (List.getElem?_eq_getElem hi) (List.getElem?_eq_getElem hj) (by simpa using e)
    omega
  · rintro ⟨h1, h2⟩
    refine ⟨fun i j p q hi hj e => ?_, fun k q hk => h2 q (List.mem_of_getElem? hk)⟩
    obtain ⟨li, ei⟩ := List.getElem?_eq_some_iff.mp hi
    obtain ⟨lj, ej⟩ := List.getElem?_eq_some_iff.mp hj
    unfold List.Nodup at h1
    rw [List.pairwise_iff_getElem] at h1
    rcases Nat.lt_trichotomy i j with z | z | z
    · exact (h1 i j (by rw [List.length_map]; exact li) (by rw [List.length_map]; exact lj) z (by simp [ei, ej, e])).elim
    · exact z
    · exact (h1 j i (by rw [List.length_map]; exact lj) (by rw [List.length_map]; exact li) z (by simp [ei, ej, e])).elim
theorem P_perm {D : va_G} {cl : List vw_C} {w w' : va_W} {H : Heap} (p : w.Perm w') (h : va_P D cl w H) : va_P D cl w' H := va_P_mem.mpr fun q hq => va_P_mem.mp h q (p.mem_iff.mpr hq)
theorem D_perm {A : Nat → Prop} {w w' : va_W} (p : w.Perm w') (h : va_D A w) : va_D A w' := by
  obtain ⟨h1, h2⟩ := va_D_nd.mp h
  exact va_D_nd.mpr ⟨(p.map _).nodup_iff.mp h1, fun q hq => h2 q (p.mem_iff.mpr hq)⟩
theorem pm_rot {α : Type} (a b : List α) : (a ++ b).Perm (b ++ a) := List.perm_append_comm
/-- M ++ (A ++ (H ++ P)): the house first -/
theorem pm_H {α : Type} (m a h p : List α) : (m ++ (a ++ (h ++ p))).Perm (h ++ (p ++ (m ++ a))) := by
  have e1 : m ++ (a ++ (h ++ p)) = (m ++ a) ++ (h ++ p) := by simp
  rw [e1]
  refine (pm_rot _ _).trans ?_
  rw [List.append_assoc]
/-- the ladder and the house first -/
theorem pm_AH {α : Type} (m a h p : List α) : (m ++ (a ++ (h ++ p))).Perm ((a ++ h) ++ (p ++ m)) := by
  refine (pm_rot _ _).trans ?_
  simp only [List.append_assoc]
  exact List.Perm.refl _
/-- the ladder first -/
theorem pm_A {α : Type} (m a h p : List α) : (m ++ (a ++ (h ++ p))).Perm (a ++ (h ++ (p ++ m))) := by
  refine (pm_rot _ _).trans ?_
  simp only [List.append_assoc]
  exact List.Perm.refl _
/-- the planner and the house first -/
theorem pm_PH {α : Type} (m a h p : List α) : (m ++ (a ++ (h ++ p))).Perm ((p ++ h) ++ (m ++ a)) := by
  have e1 : m ++ (a ++ (h ++ p)) = (m ++ a) ++ (h ++ p) := by simp
  rw [e1]
  exact (pm_rot _ _).trans ((pm_rot h p).append_right _)
/-- the planner first -/
theorem pm_P {α : Type} (m a h p : List α) : (m ++ (a ++ (h ++ p))).Perm (p ++ (h ++ (m ++ a))) := by
  refine (pm_PH m a h p).trans ?_
  rw [List.append_assoc]
abbrev mcLA : Type := Nat × Int × (Nat → Nat) × (Nat → Int)
abbrev mcLP : Type := (Nat → Nat → Int) × (Nat → Nat → Nat) × (Nat → Nat) × (Nat → Nat) × (Nat → Int) × Nat
abbrev mcA1 (q : Nat → Nat) (cI : ClassId) (la : mcLA) : va_W := mcWA q cI la.1 la.2.1 la.2.2.1 la.2.2.2
abbrev mcP1 (r : Nat → Nat) (cI cG : ClassId) (bu : Nat → Nat) (lp : mcLP) : va_W := mcWP r cI cG bu lp.1 lp.2.1 lp.2.2.1 lp.2.2.2.1 lp.2.2.2.2.1 lp.2.2.2.2.2
def mcM1 (o : Nat) (a q r : Nat → Nat) : va_W := [(o, .inr (3, [.ref (a 0), .ref (q 0), .ref (r 0)]))]
/-- the whole object -/
abbrev mcWT (o : Nat) (a q r : Nat → Nat) (cI cG : ClassId) (la : mcLA) (n v : Nat) (C G X D : Nat → Nat) (B : Nat → Nat → Int) (bu : Nat → Nat) (lp : mcLP) : va_W := mcM1 o a q r ++ (mcA1 q cI la ++ (mcWH a cI cG n v C G X D B ++ mcP1 r cI cG bu lp))
theorem mcWT_row {o : Nat} {a q r : Nat → Nat} {cI cG : ClassId} {la : mcLA} {n v : Nat} {C G X D : Nat → Nat} {B : Nat → Nat → Int} {bu : Nat → Nat} {lp : mcLP} {j : Nat} (hj : j < 12) : (mcWT o a q r cI cG la n v C G X D B bu lp)[10 + j]? = some (a (6 + j), .inl (cI, 12, .inl (fun k => iI (B j k)))) := by
  rcases (show j = 0 ∨ j = 1 ∨ j = 2 ∨ j = 3 ∨ j = 4 ∨ j = 5 ∨ j = 6 ∨ j = 7 ∨ j = 8 ∨ j = 9 ∨ j = 10 ∨ j = 11 by omega) with rfl | rfl | rfl | rfl | rfl | rfl | rfl | rfl | rfl | rfl | rfl | rfl <;> rfl
section MCV
variable {p : Program} {l : Launch} {e : Env} {R : Room} {s : State} {m : MethodId} {args : Array Value} {below : List Frame} {meth : Method} {c : Code} {H : Heap} {locs : List Loc} {cells slots : Nat} {Q : State → Prop}
variable {cc bytes : ByteArray} {pc : Nat} {ls : Array Slot} {rest st0 As : List Value} {nL maxL index n : Nat} {own C : String} {y : MethodName} {ret : Option FieldType} {rm : Room} {Ts : List Cond} {Pc : Array Value → State → Prop}
theorem callRSv (S : CallFix p m c cc nL s args Ts own) (hB : ∀ w ∈ mcB, w ∈ Ts) (hM : Met l y (Cond.code y bytes maxL ret :: mcB) rm Pc (va_Sv (fun _ => True)) 0 0 (fun _ => False))
    (h1 : Cond.methodLink own index y ∈ mcB) (h2 : Cond.static y ∈ mcB) (h3 : Cond.initialized y.cls ∈ mcB) (h4 : Cond.code y bytes maxL ret ∈ mcB) (hrc : rm.cells = 0 ∧ rm.slots = 0)
    (hd : y.cls ≠ "java/lang/invoke/MethodHandle" ∧ y.cls ≠ "java/lang/invoke/VarHandle" ∧ (parseMethodDescriptor y.desc).map (fun d => d.parameters.length) = some n) (hR : rm.frames + 1 ≤ R.frames ∧ 8 + (maxL + 11) + rm.locals ≤ R.locals) (hp : PreS s H Pc As)
    (hn : As.length = n) (hsize : ls.size = nL) (hst : st0 = As.reverse ++ rest) (hW : (rest.map fun v => v.category).sum ≤ 8) (hf : cells ≤ R.cells ∧ slots ≤ R.slots) (hdg : decode cc pc = .ok (.invokestatic index, 3))
    (kk : W p l e R s m args below meth c H locs cells slots Q (F0 m (pc + 3) ls rest)) : W p l e R s m args below meth c H locs cells slots Q (F0 m pc ls st0) :=
  va_csv (W.runS S hM (va_cwS n S.2.2.2.2 (gdS hB h1 h2 h3 h4) rfl hrc.1 hrc.2 hd hR) hp rfl hn hsize hst (lv_room hW) hdg hf) (fun _ => kk)
theorem callRVv {b : Addr} (S : CallFix p m c cc nL s args Ts own) (hB : ∀ w ∈ mcB, w ∈ Ts) (hM : Met l y (Cond.code y bytes maxL ret :: mcB) rm Pc (va_Sv (fun _ => True)) 0 0 (fun _ => False))
    (h1 : Cond.methodLink own index y ∈ mcB) (h2 : Cond.instanceMethod y ∈ mcB) (h3 : Cond.selects C y y ∈ mcB) (h5 : Cond.initialized C ∈ mcB) (h4 : Cond.code y bytes maxL ret ∈ mcB) (hrc : rm.cells = 0 ∧ rm.slots = 0)
    (hd : y.cls = C ∧ y.cls ≠ "java/lang/invoke/MethodHandle" ∧ y.cls ≠ "java/lang/invoke/VarHandle" ∧ (parseMethodDescriptor y.desc).map (fun d => d.parameters.length) = some n) (hR : rm.frames + 1 ≤ R.frames ∧ 8 + (maxL + 11) + rm.locals ≤ R.locals) (hp : PreV s H C b Pc As)
    (hn : As.length = n) (hsize : ls.size = nL) (hst : st0 = As.reverse ++ .ref b :: rest) (hW : (rest.map fun v => v.category).sum ≤ 8) (hf : cells ≤ R.cells ∧ slots ≤ R.slots) (hdg : decode cc pc = .ok (.invokevirtual index, 3))
    (kk : W p l e R s m args below meth c H locs cells slots Q (F0 m (pc + 3) ls rest)) : W p l e R s m args below meth c H locs cells slots Q (F0 m pc ls st0) :=
  va_csv (W.runV S hM (cwV n S.2.2.2.2 (gdV hB h1 h2 h3 h5 h4) rfl hrc.1 hrc.2 hd hR) hp rfl hn hsize hst (lv_room hW) hdg hf) (fun _ => kk)
end MCV
