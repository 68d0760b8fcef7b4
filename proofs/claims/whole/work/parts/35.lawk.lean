/-! the law's own calls -/
section MCL
variable {p : Program} {l : Launch} {e : Env} {R : Room} {s : State} {m : MethodId} {args : Array Value} {below : List Frame} {meth : Method} {c : Code} {H : Heap} {locs : List Loc} {cells slots : Nat} {Q : State → Prop}
variable {cc bytes : ByteArray} {pc : Nat} {ls : Array Slot} {rest st0 As : List Value} {D : va_G} {cl : List vw_C} {A : Nat → Prop} {a nL maxL index n : Nat} {tys : List (ClassId × FieldType)} {w : va_W} {H0 : Heap} {own C : String} {y : MethodName} {ret : Option FieldType} {rm : Room} {Ts : List Cond} {b : Addr} {hh : List (Nat × Nat × Nat × Nat)}
abbrev wrXi {S : Type} (post : Int32 → S → Prop) (w' : S → va_W) (D : va_G) (cl : List vw_C) (w : va_W) (tys : List (ClassId × FieldType)) (sz : Nat) : Array Value → State → Outcome → State → Prop := va_Qi post (fun u t => va_P D cl (w' u) t.heap ∧ va_K D cl tys t ∧ va_D (va_A w sz) (w' u)) (va_A w sz)
theorem callWXi {S : Type} {post : Int32 → S → Prop} {w' : S → va_W} (Sx : CallFix p m c cc nL s args Ts own) (hB : ∀ w ∈ mcB, w ∈ Ts) (hM : Met l y (Cond.code y bytes maxL ret :: mcB) rm (wrP D cl w tys H.size (.ref b :: As)) (wrXi post w' D cl w tys H.size) 0 0 (va_A w H.size))
    (h1 : Cond.methodLink own index y ∈ mcB) (h2 : Cond.instanceMethod y ∈ mcB) (h3 : Cond.selects C y y ∈ mcB) (h5 : Cond.initialized C ∈ mcB) (h4 : Cond.code y bytes maxL ret ∈ mcB) (hrc : rm.cells = 0 ∧ rm.slots = 0)
    (hd : y.cls = C ∧ y.cls ≠ "java/lang/invoke/MethodHandle" ∧ y.cls ≠ "java/lang/invoke/VarHandle" ∧ (parseMethodDescriptor y.desc).map (fun d => d.parameters.length) = some n) (hR : rm.frames + 1 ≤ R.frames ∧ 8 + (maxL + 11) + rm.locals ≤ R.locals)
    (hP : va_P D cl w H) (hK : va_K D cl tys s) (hD : va_D A w) (hS : va_S A H0 H locs) (hF : ∀ q, va_A w H.size q → A q) {ci q0 : Nat} {T : u_T} {N : Nat} {fs : List Value} (hc : cl[ci]? = some (C, T, N)) (he : w[q0]? = some (b, .inr (ci, fs)))
    (hn : As.length = n) (hsize : ls.size = nL) (hst : st0 = As.reverse ++ .ref b :: rest) (hW : (rest.map fun v => v.category).sum ≤ 8) (hf : cells ≤ R.cells ∧ slots ≤ R.slots) (hdg : decode cc pc = .ok (.invokevirtual index, 3))
    (kk : ∀ (r : Int32) (u : S) (H1 : Heap) (locs1 : List Loc), post r u → va_P D cl (w' u) H1 → va_D (va_A w H.size) (w' u) → (∀ q : Nat, q < H.size → ¬ va_A w H.size q → H1[q]? = H[q]?) → va_S A H0 H1 locs1 → W p l e R s m args below meth c H1 locs1 cells slots Q (F0 m (pc + 3) ls (.int r :: rest))) : W p l e R s m args below meth c H locs cells slots Q (F0 m pc ls st0) := by
  refine va_calli (va_runV (As := As) (rest := rest) Sx hM (cwV n Sx.2.2.2.2 (gdV hB h1 h2 h3 h5 h4) rfl hrc.1 hrc.2 hd hR) (wrP_preV hP hK hD hc he) rfl hn hsize hst (lv_room hW) hdg hf) hS (fun q _ h => hF q h) hF (fun r u t H1 locs1 ht hvm hw hB1 hz1 hk1 hS1 => ?_)
  obtain ⟨hP1, hK1, hD1⟩ := hB1
  rw [ht] at hP1
  exact kk r u H1 locs1 hw hP1 hD1 hk1 hS1
/-- a static method of the law with handlers, where nothing is thrown -/
theorem callLW {S : Type} {post : Int32 → S → Prop} {w' : S → va_W} (Sx : CallFix p m c cc nL s args Ts own) (hB : ∀ w ∈ mcB, w ∈ Ts) (hM : Met l y (Cond.codeWith y bytes maxL ret hh :: mcB) rm (wrP D cl w tys H.size As) (wrXi post w' D cl w tys H.size) 0 0 (va_A w H.size))
    (h1 : Cond.methodLink own index y ∈ mcB) (h2 : Cond.static y ∈ mcB) (h3 : Cond.initialized y.cls ∈ mcB) (h4 : Cond.codeWith y bytes maxL ret hh ∈ mcB) (hrc : rm.cells = 0 ∧ rm.slots = 0)
    (hd : y.cls ≠ "java/lang/invoke/MethodHandle" ∧ y.cls ≠ "java/lang/invoke/VarHandle" ∧ (parseMethodDescriptor y.desc).map (fun d => d.parameters.length) = some n) (hR : rm.frames + 1 ≤ R.frames ∧ 8 + (maxL + 11) + rm.locals ≤ R.locals)
    (hP : va_P D cl w H) (hK : va_K D cl tys s) (hD : va_D A w) (hS : va_S A H0 H locs) (hF : ∀ q, va_A w H.size q → A q)
    (hn : As.length = n) (hsize : ls.size = nL) (hst : st0 = As.reverse ++ rest) (hW : (rest.map fun v => v.category).sum ≤ 8) (hf : cells ≤ R.cells ∧ slots ≤ R.slots) (hdg : decode cc pc = .ok (.invokestatic index, 3))
    (kk : ∀ (r : Int32) (u : S) (H1 : Heap) (locs1 : List Loc), post r u → va_P D cl (w' u) H1 → va_D (va_A w H.size) (w' u) → (∀ q : Nat, q < H.size → ¬ va_A w H.size q → H1[q]? = H[q]?) → va_S A H0 H1 locs1 → W p l e R s m args below meth c H1 locs1 cells slots Q (F0 m (pc + 3) ls (.int r :: rest))) : W p l e R s m args below meth c H locs cells slots Q (F0 m pc ls st0) := by
  refine va_calli (vx_runSW (As := As) (rest := rest) Sx hM (vx_cwSW n Sx.2.2.2.2 (gdS hB h1 h2 h3 h4) rfl hrc.1 hrc.2 hd hR) (wrP_preS hP hK hD) rfl hn hsize hst (lv_room hW) hdg hf) hS (fun q _ h => hF q h) hF (fun r u t H1 locs1 ht hvm hw hB1 hz1 hk1 hS1 => ?_)
  obtain ⟨hP1, hK1, hD1⟩ := hB1
  rw [ht] at hP1
  exact kk r u H1 locs1 hw hP1 hD1 hk1 hS1
/-- it answers k, and nothing that was there has changed -/
abbrev mcQb (k : Int32) : Array Value → State → Outcome → State → Prop := va_Qi (fun r (_ : Unit) => r = k) (fun _ _ => True) (fun _ => False)
theorem callLB {k : Int32} (Sx : CallFix p m c cc nL s args Ts own) (hB : ∀ w ∈ mcB, w ∈ Ts) (hM : Met l y (Cond.codeWith y bytes maxL ret hh :: mcB) rm (mcPx (roP D cl w tys As)) (mcQb k) 1 6 (fun _ => False))
    (h1 : Cond.methodLink own index y ∈ mcB) (h2 : Cond.static y ∈ mcB) (h3 : Cond.initialized y.cls ∈ mcB) (h4 : Cond.codeWith y bytes maxL ret hh ∈ mcB) (hrc : rm.cells = 1 ∧ rm.slots = 6)
    (hd : y.cls ≠ "java/lang/invoke/MethodHandle" ∧ y.cls ≠ "java/lang/invoke/VarHandle" ∧ (parseMethodDescriptor y.desc).map (fun d => d.parameters.length) = some n) (hR : rm.frames + 1 ≤ R.frames ∧ 8 + (maxL + 11) + rm.locals ≤ R.locals)
    (hP : va_P D cl w H) (hK : va_K D cl tys s) (hT : mcTh s H) (hS : va_S A H0 H locs)
    (hn : As.length = n) (hsize : ls.size = nL) (hst : st0 = As.reverse ++ rest) (hW : (rest.map fun v => v.category).sum ≤ 8) (hf : cells + 1 ≤ R.cells ∧ slots + 6 ≤ R.slots) (hdg : decode cc pc = .ok (.invokestatic index, 3))
    (kk : ∀ (H1 : Heap) (locs1 : List Loc), H.size ≤ H1.size → (∀ q : Nat, q < H.size → H1[q]? = H[q]?) → va_S A H0 H1 locs1 → W p l e R s m args below meth c H1 locs1 (cells + 1) (slots + 6) Q (F0 m (pc + 3) ls (.int k :: rest))) : W p l e R s m args below meth c H locs cells slots Q (F0 m pc ls st0) := by
  refine va_calli (vx_runSW (As := As) (rest := rest) Sx hM (vx_cwSW n Sx.2.2.2.2 (gdS hB h1 h2 h3 h4) rfl hrc.1 hrc.2 hd hR) (mcPx_preS (roP_preS hP hK) hT) rfl hn hsize hst (lv_room hW) hdg hf) hS (fun q _ h => h.elim) (fun q h => h.elim) (fun r u t H1 locs1 ht hvm hw hB1 hz1 hk1 hS1 => ?_)
  subst hw
  exact kk H1 locs1 hz1 (fun q hq => hk1 q hq (fun h => h)) hS1
theorem P_keep {H1 : Heap} (hP : va_P D cl w H) (hk : ∀ q : Nat, q < H.size → H1[q]? = H[q]?) : va_P D cl w H1 := hP.kept (fun k x hx => hk x.1 (hP k x hx).lt)
/-- caught: the first row of the table takes it -/
theorem catch1 {ce : Cell} {q9 : Addr} {H1 : Heap} {x : ExceptionTableEntry} {suf : List ExceptionTableEntry} {c0 : Cond} (hown : s.vm.findClass RL = some m.cls) (hts : ∀ w ∈ c0 :: mcB, w.before args s = true) (hTh : mcTh s s.heap) (hsplit : c.exceptionTable.toList = x :: suf) (hx : covers x pc = true) (h0 : x.catchType = 13)
    (hce : H1[q9]? = some ce) (hcv : ce.vm = .none) (hcl : s.vm.findClass mcIAE = some ce.cls) (hk : Cond.classLink RL 13 mcIAE ∈ mcB)
    (kk : W p l e R s m args below meth c H1 locs cells slots Q (F0 m x.handlerPc ls [.ref q9])) : vx_W p l e R s m args below meth c H1 locs cells slots Q (F0 m pc ls rest) q9 :=
  vx_catch (name := mcIAE) hown [] x suf hsplit (fun _ h => nomatch h) hx (by rw [h0]; decide) (by rw [h0]; exact hts _ (List.mem_cons_of_mem _ hk)) (va_Nw.use rfl (hTh.1 _ (List.mem_of_getElem? (i := 0) rfl))) hce hcv hcl kk
/-- caught: the second row of the table takes it -/
theorem catch2 {ce : Cell} {q9 : Addr} {H1 : Heap} {x0 x : ExceptionTableEntry} {suf : List ExceptionTableEntry} {c0 : Cond} (hown : s.vm.findClass RL = some m.cls) (hts : ∀ w ∈ c0 :: mcB, w.before args s = true) (hTh : mcTh s s.heap) (hsplit : c.exceptionTable.toList = x0 :: x :: suf) (hx : covers x pc = true) (h00 : x0.catchType = 13) (h0 : x.catchType = 15)
    (hce : H1[q9]? = some ce) (hcv : ce.vm = .none) (hcl : s.vm.findClass mcISE = some ce.cls) (hk : Cond.classLink RL 13 mcIAE ∈ mcB) (hk2 : Cond.classLink RL 15 mcISE ∈ mcB)
    (kk : W p l e R s m args below meth c H1 locs cells slots Q (F0 m x.handlerPc ls [.ref q9])) : vx_W p l e R s m args below meth c H1 locs cells slots Q (F0 m pc ls rest) q9 :=
  vx_catch (name := mcISE) hown [x0] x suf hsplit (fun z h => by
    rcases List.mem_cons.mp h with h | h
    · subst h
      exact Or.inr ⟨by rw [h00]; decide, mcIAE, by rw [h00]; exact hts _ (List.mem_cons_of_mem _ hk), hTh.2.2.2.2⟩
    · cases h) hx (by rw [h0]; decide) (by rw [h0]; exact hts _ (List.mem_cons_of_mem _ hk2)) (va_Nw.use rfl (hTh.1 _ (List.mem_of_getElem? (i := 1) rfl))) hce hcv hcl kk
end MCL
/-- the object and the law's own cell -/
abbrev mcWL (o : Nat) (a q r : Nat → Nat) (cI cG : ClassId) (la : mcLA) (n v : Nat) (C G X D : Nat → Nat) (B : Nat → Nat → Int) (bu : Nat → Nat) (lp : mcLP) (u : Nat) (cJ : ClassId) (ov : Nat → Int64) : va_W := mcWT o a q r cI cG la n v C G X D B bu lp ++ [(u, .inl (cJ, 1, .inr (.inl ov)))]
theorem mcWL_out {o : Nat} {a q r : Nat → Nat} {cI cG : ClassId} {la : mcLA} {n v : Nat} {C G X D : Nat → Nat} {B : Nat → Nat → Int} {bu : Nat → Nat} {lp : mcLP} {u : Nat} {cJ : ClassId} {ov : Nat → Int64} : (mcWL o a q r cI cG la n v C G X D B bu lp u cJ ov)[37]? = some (u, .inl (cJ, 1, .inr (.inl ov))) := rfl
theorem mcWL_set {o : Nat} {a q r : Nat → Nat} {cI cG : ClassId} {la : mcLA} {n v : Nat} {C G X D : Nat → Nat} {B : Nat → Nat → Int} {bu : Nat → Nat} {lp : mcLP} {u : Nat} {cJ : ClassId} {ov ov2 : Nat → Int64} : (mcWL o a q r cI cG la n v C G X D B bu lp u cJ ov).set 37 (u, .inl (cJ, 1, .inr (.inl ov2))) = mcWL o a q r cI cG la n v C G X D B bu lp u cJ ov2 := rfl
