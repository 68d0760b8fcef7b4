/-! calls of our own methods: every method's words are its code's word ahead of mcB -/
theorem gd_one {w : Cond} {Ts : List Cond} (hB : ∀ w ∈ mcB, w ∈ Ts) (h : w ∈ mcB) : w ∈ Ts ∧ ((w.onTables && w.keeps) = true ∨ ∃ ty, w = .arrayClass ty) := ⟨hB w h, good_of_word (mcB_ok w h)⟩
theorem gdC {Ts : List Cond} {c1 : Cond} (hB : ∀ w ∈ mcB, w ∈ Ts) (h4 : c1 ∈ mcB) : GoodIn Ts (c1 :: mcB) := by
  intro w hw
  rcases List.mem_cons.mp hw with e | h
  · rw [e]; exact gd_one hB h4
  · exact gd_one hB h
theorem gdS {Ts : List Cond} {c1 : Cond} {own : String} {i : Nat} {y : MethodName} (hB : ∀ w ∈ mcB, w ∈ Ts) (h1 : Cond.methodLink own i y ∈ mcB) (h2 : Cond.static y ∈ mcB) (h3 : Cond.initialized y.cls ∈ mcB) (h4 : c1 ∈ mcB) : GoodIn Ts (va_wsS own i y (c1 :: mcB)) := by
  intro w hw
  unfold va_wsS at hw
  rcases List.mem_append.mp hw with h | h
  · simp only [List.mem_cons, List.not_mem_nil, or_false] at h
    rcases h with rfl | rfl | rfl
    · exact gd_one hB h1
    · exact gd_one hB h2
    · exact gd_one hB h3
  · exact gdC hB h4 w h
theorem gdV {Ts : List Cond} {c1 : Cond} {own C : String} {i : Nat} {y : MethodName} (hB : ∀ w ∈ mcB, w ∈ Ts) (h1 : Cond.methodLink own i y ∈ mcB) (h2 : Cond.instanceMethod y ∈ mcB) (h3 : Cond.selects C y y ∈ mcB) (h5 : Cond.initialized C ∈ mcB) (h4 : c1 ∈ mcB) : GoodIn Ts (wsV own i C y (c1 :: mcB)) := by
  intro w hw
  unfold wsV at hw
  rcases List.mem_append.mp hw with h | h
  · simp only [List.mem_cons, List.not_mem_nil, or_false] at h
    rcases h with rfl | rfl | rfl | rfl
    · exact gd_one hB h1
    · exact gd_one hB h2
    · exact gd_one hB h3
    · exact gd_one hB h5
  · exact gdC hB h4 w h
theorem tlB {c0 : Cond} : ∀ w ∈ mcB, w ∈ c0 :: mcB := fun _ h => List.mem_cons_of_mem _ h
/-- a method that looks at its numbers alone -/
def nwP (av : List Value) : Array Value → State → Prop := va_Pc av (fun _ => True)
theorem nwP_pre {s : State} {H : Heap} {av : List Value} : PreS s H (nwP av) av := ⟨fun _ _ _ _ q => ⟨q.1, trivial⟩, fun _ _ _ => ⟨rfl, trivial⟩⟩
section MCC
variable {p : Program} {l : Launch} {e : Env} {R : Room} {s : State} {m : MethodId} {args : Array Value} {below : List Frame} {meth : Method} {c : Code} {H : Heap} {locs : List Loc} {cells slots : Nat} {Q : State → Prop}
variable {cc bytes : ByteArray} {pc : Nat} {ls : Array Slot} {rest st0 As : List Value} {D : va_G} {cl : List vw_C} {A : Nat → Prop} {a nL maxL index n : Nat} {tys : List (ClassId × FieldType)} {ws : va_W} {H0 : Heap} {own C : String} {y : MethodName} {ret : Option FieldType} {rm : Room} {Ts : List Cond} {Pc : Array Value → State → Prop}
/-- a static method of ours that only reads -/
theorem callRS {post : Int32 → Prop} (S : CallFix p m c cc nL s args Ts own) (hB : ∀ w ∈ mcB, w ∈ Ts) (hM : Met l y (Cond.code y bytes maxL ret :: mcB) rm Pc (vp_Si post) 0 0 (fun _ => False))
    (h1 : Cond.methodLink own index y ∈ mcB) (h2 : Cond.static y ∈ mcB) (h3 : Cond.initialized y.cls ∈ mcB) (h4 : Cond.code y bytes maxL ret ∈ mcB) (hrc : rm.cells = 0 ∧ rm.slots = 0)
    (hd : y.cls ≠ "java/lang/invoke/MethodHandle" ∧ y.cls ≠ "java/lang/invoke/VarHandle" ∧ (parseMethodDescriptor y.desc).map (fun d => d.parameters.length) = some n) (hR : rm.frames + 1 ≤ R.frames ∧ 8 + (maxL + 11) + rm.locals ≤ R.locals) (hp : PreS s H Pc As)
    (hn : As.length = n) (hsize : ls.size = nL) (hst : st0 = As.reverse ++ rest) (hW : (rest.map fun v => v.category).sum ≤ 8) (hf : cells ≤ R.cells ∧ slots ≤ R.slots) (hdg : decode cc pc = .ok (.invokestatic index, 3))
    (kk : ∀ r : Int32, post r → W p l e R s m args below meth c H locs cells slots Q (F0 m (pc + 3) ls (.int r :: rest))) : W p l e R s m args below meth c H locs cells slots Q (F0 m pc ls st0) :=
  vp_callSi (W.runS S hM (va_cwS n S.2.2.2.2 (gdS hB h1 h2 h3 h4) rfl hrc.1 hrc.2 hd hR) hp rfl hn hsize hst (lv_room hW) hdg hf) kk
/-- an instance method of ours that only reads -/
theorem callRV {post : Int32 → Prop} {b : Addr} (S : CallFix p m c cc nL s args Ts own) (hB : ∀ w ∈ mcB, w ∈ Ts) (hM : Met l y (Cond.code y bytes maxL ret :: mcB) rm Pc (vp_Si post) 0 0 (fun _ => False))
    (h1 : Cond.methodLink own index y ∈ mcB) (h2 : Cond.instanceMethod y ∈ mcB) (h3 : Cond.selects C y y ∈ mcB) (h5 : Cond.initialized C ∈ mcB) (h4 : Cond.code y bytes maxL ret ∈ mcB) (hrc : rm.cells = 0 ∧ rm.slots = 0)
    (hd : y.cls = C ∧ y.cls ≠ "java/lang/invoke/MethodHandle" ∧ y.cls ≠ "java/lang/invoke/VarHandle" ∧ (parseMethodDescriptor y.desc).map (fun d => d.parameters.length) = some n) (hR : rm.frames + 1 ≤ R.frames ∧ 8 + (maxL + 11) + rm.locals ≤ R.locals) (hp : PreV s H C b Pc As)
    (hn : As.length = n) (hsize : ls.size = nL) (hst : st0 = As.reverse ++ .ref b :: rest) (hW : (rest.map fun v => v.category).sum ≤ 8) (hf : cells ≤ R.cells ∧ slots ≤ R.slots) (hdg : decode cc pc = .ok (.invokevirtual index, 3))
    (kk : ∀ r : Int32, post r → W p l e R s m args below meth c H locs cells slots Q (F0 m (pc + 3) ls (.int r :: rest))) : W p l e R s m args below meth c H locs cells slots Q (F0 m pc ls st0) :=
  vp_callSi (W.runV S hM (cwV n S.2.2.2.2 (gdV hB h1 h2 h3 h5 h4) rfl hrc.1 hrc.2 hd hR) hp rfl hn hsize hst (lv_room hW) hdg hf) kk
/-- a row of an array of int arrays -/
theorem va_alda (hexec : p.tables.exec = Jvm.exec) (hb : c.code = cc) (hK : va_K D cl tys s) (hP : va_P D cl ws H) (q0 t0 : Nat) {cA : ClassId} {n : Nat} {f : Nat → Option Nat} (ha : ws[q0]? = some (a, .inl (cA, n, .inr (.inr (.inr (.inr f)))))) (ht : tys[t0]? = some (cA, .array .int)) {i : Int32} (hin : vp_in i n) {r : Nat} (hr : f i.toNatClampNeg = some r) (hdg : decode cc pc = .ok (.aaload, 1))
    (kk : W p l e R s m args below meth c H locs cells slots Q (F0 m (pc + 1) ls (.ref r :: rest))) : W p l e R s m args below meth c H locs cells slots Q (F0 m pc ls (.int i :: .ref a :: rest)) := by
  have hlt : i.toNatClampNeg < n := Nat.not_le.mp fun q => hin (Or.inr q)
  refine W.aald (v := va_rf (f i.toNatClampNeg)) (ty := .array .int) hexec hb (hP q0 _ ha) ((hK.2 t0 _ ht).1 n (fun j => va_rf (f j))) rfl (fun q => by cases q) (by show ¬ (i < 0 ∨ (arrV _ _ _).slots.size ≤ _); rw [arrV_size]; exact hin) (by show (arrV _ _ _).slots[_]? = _; rw [arrV_read _ _ hlt]) rfl rfl hdg ?_
  rw [hr]
  exact kk
/-- a number read at a place that is told as a number -/
theorem ialdN (hexec : p.tables.exec = Jvm.exec) (hb : c.code = cc) (hK : va_K D cl tys s) (hP : va_P D cl ws H) (q0 t0 : Nat) {cA : ClassId} {n : Nat} {f : Nat → Int32} (ha : ws[q0]? = some (a, .inl (cA, n, .inl f))) (ht : tys[t0]? = some (cA, .int)) {k : Nat} (hk : k < n) (hn : n < 2 ^ 31) {v : Int32} (hv : f k = v) (hdg : decode cc pc = .ok (.iaload, 1))
    (kk : W p l e R s m args below meth c H locs cells slots Q (F0 m (pc + 1) ls (.int v :: rest))) : W p l e R s m args below meth c H locs cells slots Q (F0 m pc ls (.int (nI k) :: .ref a :: rest)) := by
  refine va_iald hexec hb hK hP q0 t0 ha ht (vp_in_nI hk hn) hdg ?_
  rw [nI_clamp (by omega), hv]
  exact kk
theorem aldaN (hexec : p.tables.exec = Jvm.exec) (hb : c.code = cc) (hK : va_K D cl tys s) (hP : va_P D cl ws H) (q0 t0 : Nat) {cA : ClassId} {n : Nat} {f : Nat → Option Nat} (ha : ws[q0]? = some (a, .inl (cA, n, .inr (.inr (.inr (.inr f)))))) (ht : tys[t0]? = some (cA, .array .int)) {k : Nat} (hk : k < n) (hn : n < 2 ^ 31) {r : Nat} (hr : f k = some r) (hdg : decode cc pc = .ok (.aaload, 1))
    (kk : W p l e R s m args below meth c H locs cells slots Q (F0 m (pc + 1) ls (.ref r :: rest))) : W p l e R s m args below meth c H locs cells slots Q (F0 m pc ls (.int (nI k) :: .ref a :: rest)) :=
  va_alda hexec hb hK hP q0 t0 ha ht (vp_in_nI hk hn) (by rw [nI_clamp (by omega)]; exact hr) hdg kk
/-- a number stored at a place that is told as a number -/
theorem iastN (hexec : p.tables.exec = Jvm.exec) (hb : c.code = cc) (hK : va_K D cl tys s) (hP : va_P D cl ws H) (hD : va_D A ws) (hS : va_S A H0 H locs) (q0 t0 : Nat) {cA : ClassId} {n : Nat} {f : Nat → Int32} (ha : ws[q0]? = some (a, .inl (cA, n, .inl f))) (ht : tys[t0]? = some (cA, .int)) {k : Nat} (hk : k < n) (hn : n < 2 ^ 31) {x : Int32} (g : Nat → Int32) (hg : ∀ j, g j = if j = k then x else f j) {ws' : va_W} (hw : ws.set q0 (a, .inl (cA, n, .inl g)) = ws') (hdg : decode cc pc = .ok (.iastore, 1))
    (kk : ∀ (H1 : Heap) (locs1 : List Loc), va_P D cl ws' H1 → va_D A ws' → va_S A H0 H1 locs1 → W p l e R s m args below meth c H1 locs1 cells slots Q (F0 m (pc + 1) ls rest)) : W p l e R s m args below meth c H locs cells slots Q (F0 m pc ls (.int x :: .int (nI k) :: .ref a :: rest)) := by
  have hgf : upd f (nI k).toNatClampNeg x = g := by
    rw [nI_clamp (by omega)]
    exact funext fun j => by rw [hg j]; rfl
  refine va_iast hexec hb hK hP hD hS q0 t0 ha ht (vp_in_nI hk hn) hdg ?_
  rw [hgf, hw]
  exact kk
end MCC
