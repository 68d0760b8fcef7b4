/-! calls of our own methods that write their world; what it is behind them comes with the answer -/
section MCX
variable {p : Program} {l : Launch} {e : Env} {R : Room} {s : State} {m : MethodId} {args : Array Value} {below : List Frame} {meth : Method} {c : Code} {H : Heap} {locs : List Loc} {cells slots : Nat} {Q : State → Prop}
variable {cc bytes : ByteArray} {pc : Nat} {ls : Array Slot} {rest st0 As : List Value} {D : va_G} {cl : List vw_C} {A : Nat → Prop} {a nL maxL index n : Nat} {tys : List (ClassId × FieldType)} {w : va_W} {H0 : Heap} {own C : String} {y : MethodName} {ret : Option FieldType} {rm : Room} {Ts : List Cond} {b : Addr}
/-- the end of a method that writes its world w to w' u, u of a kind -/
abbrev wrX {S : Type} (post : S → Prop) (w' : S → va_W) (D : va_G) (cl : List vw_C) (w : va_W) (tys : List (ClassId × FieldType)) (sz : Nat) : Array Value → State → Outcome → State → Prop := va_Qv post (fun u t => va_P D cl (w' u) t.heap ∧ va_K D cl tys t ∧ va_D (va_A w sz) (w' u)) (va_A w sz)
theorem callWX {S : Type} {post : S → Prop} {w' : S → va_W} (Sx : CallFix p m c cc nL s args Ts own) (hB : ∀ w ∈ mcB, w ∈ Ts) (hM : Met l y (Cond.code y bytes maxL ret :: mcB) rm (wrP D cl w tys H.size (.ref b :: As)) (wrX post w' D cl w tys H.size) 0 0 (va_A w H.size))
    (h1 : Cond.methodLink own index y ∈ mcB) (h2 : Cond.instanceMethod y ∈ mcB) (h3 : Cond.selects C y y ∈ mcB) (h5 : Cond.initialized C ∈ mcB) (h4 : Cond.code y bytes maxL ret ∈ mcB) (hrc : rm.cells = 0 ∧ rm.slots = 0)
    (hd : y.cls = C ∧ y.cls ≠ "java/lang/invoke/MethodHandle" ∧ y.cls ≠ "java/lang/invoke/VarHandle" ∧ (parseMethodDescriptor y.desc).map (fun d => d.parameters.length) = some n) (hR : rm.frames + 1 ≤ R.frames ∧ 8 + (maxL + 11) + rm.locals ≤ R.locals)
    (hP : va_P D cl w H) (hK : va_K D cl tys s) (hD : va_D A w) (hS : va_S A H0 H locs) (hF : ∀ q, va_A w H.size q → A q) {ci q0 : Nat} {T : u_T} {N : Nat} {fs : List Value} (hc : cl[ci]? = some (C, T, N)) (he : w[q0]? = some (b, .inr (ci, fs)))
    (hn : As.length = n) (hsize : ls.size = nL) (hst : st0 = As.reverse ++ .ref b :: rest) (hW : (rest.map fun v => v.category).sum ≤ 8) (hf : cells ≤ R.cells ∧ slots ≤ R.slots) (hdg : decode cc pc = .ok (.invokevirtual index, 3))
    (kk : ∀ (u : S) (H1 : Heap) (locs1 : List Loc), post u → va_P D cl (w' u) H1 → va_D (va_A w H.size) (w' u) → (∀ q : Nat, q < H.size → ¬ va_A w H.size q → H1[q]? = H[q]?) → va_S A H0 H1 locs1 → W p l e R s m args below meth c H1 locs1 cells slots Q (F0 m (pc + 3) ls rest)) : W p l e R s m args below meth c H locs cells slots Q (F0 m pc ls st0) := by
  refine va_callv (va_runV (As := As) (rest := rest) Sx hM (cwV n Sx.2.2.2.2 (gdV hB h1 h2 h3 h5 h4) rfl hrc.1 hrc.2 hd hR) (wrP_preV hP hK hD hc he) rfl hn hsize hst (lv_room hW) hdg hf) hS (fun q _ h => hF q h) hF (fun u t H1 locs1 ht hvm hw hB1 hz1 hk1 hS1 => ?_)
  obtain ⟨hP1, hK1, hD1⟩ := hB1
  rw [ht] at hP1
  exact kk u H1 locs1 hw hP1 hD1 hk1 hS1
end MCX
