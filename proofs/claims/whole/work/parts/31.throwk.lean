/-! throws: what they need beside the good words; calls of methods that throw -/
abbrev mcIAE : String := "java/lang/IllegalArgumentException"
abbrev mcISE : String := "java/lang/IllegalStateException"
abbrev mcNm : List String := ["java/lang/RuntimeException", "java/lang/Exception"]
def mcBw : List Cond := [.castable mcIAE mcIAE, .castable mcISE mcISE, .declares ⟨"java/lang/RuntimeException", "<init>", "(Ljava/lang/String;)V"⟩, .declares ⟨"java/lang/Exception", "<init>", "(Ljava/lang/String;)V"⟩, .declares ⟨"java/lang/Throwable", "<init>", "(Ljava/lang/String;)V"⟩]
def mcSt : List (Nat × String) := [(150, "a number is out of its bounds"), (40, "there are 12 measures"), (154, "there is no such measure"), (156, "both are one measure"), (158, "a bit of no measure is set"), (152, "a number is below 0"), (127, "both together are above 1000000")]
def mcTh (U : State) (H : Heap) : Prop :=
  (∀ w ∈ mcBw, va_Nw w U) ∧ (∀ q ∈ mcSt, ∃ sa, vk_R RM q.1 q.2 sa U) ∧ vx_Zq Bundle.tN "UNASSIGNED_STACK" Bundle.steD (fun _ => False) U H ∧ vx_Zq Bundle.tN "SUPPRESSED_SENTINEL" Bundle.listD (fun _ => False) U H ∧ va_Nc mcISE mcIAE U
theorem mcN_cast {a b : String} {s U : State} (hW : s.WarmedH U.vm) (hZ : va_Nw (.castable a b) s) : va_Nw (.castable a b) U := by
  have hZ' : (Cond.castable a b).before #[] s = true := hZ
  obtain ⟨c3, c4, w1, w2, w3⟩ := Cond.castable_spec hZ'
  have e1 : U.vm.findClass a = some c3 := by rw [hW.alike.findClass]; exact w1
  have e2 : U.vm.findClass b = some c4 := by rw [hW.alike.findClass]; exact w2
  have e3 : U.vm.assignable c3 c4 = true := by rw [hW.alike.assignable]; exact w3
  show (Cond.castable a b).before #[] U = true
  simp [Cond.before, Cond.holds, Cond.value, e1, e2, e3]
theorem mcTh.warm {s U : State} {H : Heap} (hW : s.WarmedH U.vm) (h : mcTh s H) : mcTh U H := by
  obtain ⟨h1, h2, h3, h4, h5⟩ := h
  refine ⟨fun w hw => ?_, fun q hq => (h2 q hq).imp fun sa z => vk_R.warm hW z, vx_Zq.moved hW.alike h3, vx_Zq.moved hW.alike h4, va_Nc.moved hW.alike h5⟩
  have z := h1 w hw
  simp only [mcBw, List.mem_cons, List.not_mem_nil, or_false] at hw
  rcases hw with rfl | rfl | rfl | rfl | rfl
  · exact mcN_cast hW z
  · exact mcN_cast hW z
  · exact va_Nw.warmD hW z
  · exact va_Nw.warmD hW z
  · exact va_Nw.warmD hW z
theorem mcTh.keep {s : State} {H H1 : Heap} (hk : ∀ q : Nat, q < H.size → H1[q]? = H[q]?) (h : mcTh s H) : mcTh s H1 := by
  obtain ⟨h1, h2, h3, h4, h5⟩ := h
  exact ⟨h1, h2, h3.kept (fun q hq _ => hk q hq), h4.kept (fun q hq _ => hk q hq), h5⟩
/-- a start with what a throw needs -/
def mcPx (Pc : Array Value → State → Prop) : Array Value → State → Prop := fun a U => Pc a U ∧ mcTh U U.heap
theorem mcPx_blind {Pc : Array Value → State → Prop} (h : FrameBlind Pc) : FrameBlind (mcPx Pc) := fun a U g mk q => ⟨h a U g mk q.1, mcTh.warm (U := U.calling g mk a) (State.WarmedH.refl U) q.2⟩
theorem mcPx_preS {s : State} {H : Heap} {Pc : Array Value → State → Prop} {As : List Value} (hp : PreS s H Pc As) (hT : mcTh s H) : PreS s H (mcPx Pc) As := ⟨mcPx_blind hp.1, fun U hU hW => ⟨hp.2 U hU hW, by rw [hU]; exact hT.warm hW⟩⟩
theorem mcPx_preV {s : State} {H : Heap} {C : String} {b : Addr} {Pc : Array Value → State → Prop} {As : List Value} (hp : PreV s H C b Pc As) (hT : mcTh s H) : PreV s H C b (mcPx Pc) As := ⟨mcPx_blind hp.1, hp.2.1, fun U hU hW => ⟨hp.2.2 U hU hW, by rw [hU]; exact hT.warm hW⟩⟩
/-- thrown: of this class, and nothing that was there has changed -/
def mcXC (E0 : String) : String → State → State → Prop := fun E st t => E = E0 ∧ st.heap.size ≤ t.heap.size ∧ ∀ q : Nat, q < st.heap.size → t.heap[q]? = st.heap[q]?
abbrev mcNo : Array Value → State → Outcome → State → Prop := fun _ _ _ _ => False
/-- a method that throws, whatever it does -/
abbrev mcXMet (l : Launch) (y : MethodName) (ws : List Cond) (rm : Room) (Pc : Array Value → State → Prop) (E : String) : Prop := vx_Met l y ws rm (mcPx Pc) mcNo (mcXC E) 1 6 (fun _ => False)
theorem mcAt_IAE : (vx_atS RM 129 mcIAE mcNm).all (fun w => decide (w ∈ mcB) || decide (w ∈ mcBw)) = true := by decide +kernel
theorem mcAt_ISE : (vx_atS RM 42 mcISE mcNm).all (fun w => decide (w ∈ mcB) || decide (w ∈ mcBw)) = true := by decide +kernel
theorem mcBw_on : ∀ w ∈ mcBw, w.onTables = true := by decide +kernel
theorem mcAt_of {ic : Nat} {E : String} (h : (vx_atS RM ic E mcNm).all (fun w => decide (w ∈ mcB) || decide (w ∈ mcBw)) = true) : ∀ w ∈ vx_atS RM ic E mcNm, w ∈ mcB ∨ w ∈ mcBw := by
  intro w hw
  have h1 := List.all_eq_true.mp h w hw
  simp only [Bool.or_eq_true, decide_eq_true_eq] at h1
  exact h1
section MCT
variable {p : Program} {l : Launch} {e : Env} {R : Room} {s : State} {m : MethodId} {args : Array Value} {below : List Frame} {meth : Method} {c : Code} {H : Heap} {locs : List Loc} {cells slots : Nat} {Q : State → Prop}
variable {cc bytes : ByteArray} {pc : Nat} {ls : Array Slot} {rest st0 As : List Value} {nL maxL index n : Nat} {own C E0 : String} {y : MethodName} {ret : Option FieldType} {rm : Room} {Ts : List Cond} {Pc : Array Value → State → Prop}
theorem callXrun {b : Addr} {As9 : Array Value} (hr : vx_Run p l e R s m args below meth c H locs cells slots 1 6 (F0 m pc ls st0) rest (mcNo As9) (mcXC E0) (fun _ => False))
    (kx : ∀ (ce : Cell) (q9 : Addr) (H1 : Heap), H.size ≤ H1.size → (∀ q : Nat, q < H.size → H1[q]? = H[q]?) → H1[q9]? = some ce → ce.vm = .none → s.vm.findClass E0 = some ce.cls → vx_W p l e R s m args below meth c H1 locs (cells + 1) (slots + 6) Q (F0 m pc ls rest) q9) : W p l e R s m args below meth c H locs cells slots Q (F0 m pc ls st0) := by
  intro T hT9 X
  rcases hr T hT9 X with ⟨v, st₀, t, T', L, h0, X', hL, e1, e2, hF, st⟩ | ⟨q, st₀, t, T', L, E, ce, h0, X', hL, e1, e2, ⟨rfl, hz, hk⟩, hce, hcv, hcl, st⟩
  · exact False.elim hF
  · have hL0 : L = [] := List.eq_nil_iff_forall_not_mem.mpr fun z hz => hL z hz
    subst hL0
    rw [List.append_nil] at X'
    rw [h0, ← e1] at hz hk
    obtain ⟨t2, a1, b1⟩ := kx ce q T'.heap hz hk (by rw [e1]; exact hce) hcv hcl T' rfl X'
    exact ⟨t2, st.trans a1, b1⟩
theorem callXS (S : CallFix p m c cc nL s args Ts own) (hB : ∀ w ∈ mcB, w ∈ Ts) (hM : mcXMet l y (Cond.code y bytes maxL ret :: mcB) rm Pc E0)
    (h1 : Cond.methodLink own index y ∈ mcB) (h2 : Cond.static y ∈ mcB) (h3 : Cond.initialized y.cls ∈ mcB) (h4 : Cond.code y bytes maxL ret ∈ mcB) (hrc : rm.cells = 1 ∧ rm.slots = 6)
    (hd : y.cls ≠ "java/lang/invoke/MethodHandle" ∧ y.cls ≠ "java/lang/invoke/VarHandle" ∧ (parseMethodDescriptor y.desc).map (fun d => d.parameters.length) = some n) (hR : rm.frames + 1 ≤ R.frames ∧ 8 + (maxL + 11) + rm.locals ≤ R.locals) (hp : PreS s H Pc As) (hT : mcTh s H)
    (hn : As.length = n) (hsize : ls.size = nL) (hst : st0 = As.reverse ++ rest) (hW : (rest.map fun v => v.category).sum ≤ 8) (hf : cells + 1 ≤ R.cells ∧ slots + 6 ≤ R.slots) (hdg : decode cc pc = .ok (.invokestatic index, 3))
    (kx : ∀ (ce : Cell) (q9 : Addr) (H1 : Heap), H.size ≤ H1.size → (∀ q : Nat, q < H.size → H1[q]? = H[q]?) → H1[q9]? = some ce → ce.vm = .none → s.vm.findClass E0 = some ce.cls → vx_W p l e R s m args below meth c H1 locs (cells + 1) (slots + 6) Q (F0 m pc ls rest) q9) : W p l e R s m args below meth c H locs cells slots Q (F0 m pc ls st0) :=
  callXrun (b := 0) (vx_runS S hM (va_cwS n S.2.2.2.2 (gdS hB h1 h2 h3 h4) rfl hrc.1 hrc.2 hd hR) (mcPx_preS hp hT) rfl hn hsize hst (lv_room hW) hdg hf) kx
theorem callXV {b : Addr} (S : CallFix p m c cc nL s args Ts own) (hB : ∀ w ∈ mcB, w ∈ Ts) (hM : mcXMet l y (Cond.code y bytes maxL ret :: mcB) rm Pc E0)
    (h1 : Cond.methodLink own index y ∈ mcB) (h2 : Cond.instanceMethod y ∈ mcB) (h3 : Cond.selects C y y ∈ mcB) (h5 : Cond.initialized C ∈ mcB) (h4 : Cond.code y bytes maxL ret ∈ mcB) (hrc : rm.cells = 1 ∧ rm.slots = 6)
    (hd : y.cls = C ∧ y.cls ≠ "java/lang/invoke/MethodHandle" ∧ y.cls ≠ "java/lang/invoke/VarHandle" ∧ (parseMethodDescriptor y.desc).map (fun d => d.parameters.length) = some n) (hR : rm.frames + 1 ≤ R.frames ∧ 8 + (maxL + 11) + rm.locals ≤ R.locals) (hp : PreV s H C b Pc As) (hT : mcTh s H)
    (hn : As.length = n) (hsize : ls.size = nL) (hst : st0 = As.reverse ++ .ref b :: rest) (hW : (rest.map fun v => v.category).sum ≤ 8) (hf : cells + 1 ≤ R.cells ∧ slots + 6 ≤ R.slots) (hdg : decode cc pc = .ok (.invokevirtual index, 3))
    (kx : ∀ (ce : Cell) (q9 : Addr) (H1 : Heap), H.size ≤ H1.size → (∀ q : Nat, q < H.size → H1[q]? = H[q]?) → H1[q9]? = some ce → ce.vm = .none → s.vm.findClass E0 = some ce.cls → vx_W p l e R s m args below meth c H1 locs (cells + 1) (slots + 6) Q (F0 m pc ls rest) q9) : W p l e R s m args below meth c H locs cells slots Q (F0 m pc ls st0) :=
  callXrun (b := 0) (vx_runV S hM (cwV n S.2.2.2.2 (gdV hB h1 h2 h3 h5 h4) rfl hrc.1 hrc.2 hd hR) (mcPx_preV hp hT) rfl hn hsize hst (lv_room hW) hdg hf) kx
/-- thrown to us, and on to our caller -/
theorem passX {ce : Cell} {q9 : Addr} {H1 : Heap} (hout : ∀ x ∈ c.exceptionTable.toList, False) (hlocks : meth.locks = false) (hz : s.heap.size ≤ H1.size) (hk : ∀ q : Nat, q < s.heap.size → H1[q]? = s.heap[q]?) (hce : H1[q9]? = some ce) (hcv : ce.vm = .none) (hcl : s.vm.findClass E0 = some ce.cls) :
    vx_W p l e R s m args below meth c H1 [] (0 + 1) (0 + 6) (vx_MQ below mcNo (mcXC E0) args s 1 6 (fun _ => False)) (F0 m pc ls rest) q9 :=
  vx_out (fun x hx => (hout x hx).elim) hlocks hce hcv hcl (fun t ht hvm => ⟨rfl, by rw [ht]; exact hz, fun q hq => by rw [ht]; exact hk q hq⟩) (fun _ h => nomatch h) (Nat.le_refl _) (Nat.le_refl _)
/-- 'throw new E("text")' in the object's class -/
theorem mcThrow {c0 : Cond} {E text : String} {ik is ic : Nat} (hx : p.tables.exec = Jvm.exec) (hb : c.code = cc) (hl : l.stackTraces = false) (hown : s.vm.findClass RM = some m.cls) (hts : ∀ w ∈ c0 :: mcB, w.before args s = true) (hml : c.maxLocals = nL) (hout : ∀ x ∈ c.exceptionTable.toList, False) (hlocks : meth.locks = false)
    (hfit : Bundle.fit E = true) (hk : Cond.classLink RM ik E ∈ mcB) (hini : Cond.initialized E ∈ mcB) (hat : (vx_atS RM ic E mcNm).all (fun w => decide (w ∈ mcB) || decide (w ∈ mcBw)) = true) (hs : (is, text) ∈ mcSt) (hTh : mcTh s s.heap) (hsize : ls.size = nL)
    (d0 : decode cc pc = .ok (.new ik, 3)) (d3 : decode cc (pc + 3) = .ok (.dup, 1)) (d4 : decode cc (pc + 4) = .ok (.ldc is, 2)) (d6 : decode cc (pc + 6) = .ok (.invokespecial ic, 3)) (d9 : decode cc (pc + 9) = .ok (.athrow, 1))
    (hRf : 5 < R.frames) (hRl : 82 ≤ R.locals) (hRc : 1 ≤ R.cells) (hRs : 6 ≤ R.slots) :
    W p l e R s m args below meth c s.heap [] 0 0 (vx_MQ below mcNo (mcXC E) args s 1 6 (fun _ => False)) (F0 m pc ls []) := by
  obtain ⟨h1, h2, h3, h4, h5⟩ := hTh
  obtain ⟨sa, hsa⟩ := h2 _ hs
  have hok : ∀ w ∈ mcB, w.before args s = true := fun w h => hts w (List.mem_cons_of_mem _ h)
  refine vx_throwS (cls := E) (own := RM) (text := text) (names := mcNm) (A := fun _ => False) hx hb hl hown hfit (by decide +kernel) (hok _ hk) (hok _ hini) hsa (fun w hw => ?_) (fun w hw => ?_) h3 h4 va_S.rf (hsize.trans hml.symm) d0 d3 d4 d6 d9 (fun x hx => (hout x hx).elim) (by show 2 + 3 < _; exact hRf) (by show 0 + (13 * (2 + 1) + 43) ≤ _; omega) (by omega) (by omega) hlocks (fun t hvm hz hk => ⟨rfl, hz, hk⟩) (fun _ h => nomatch h) (Nat.le_refl _) (Nat.le_refl _)
  · rcases mcAt_of hat w hw with h | h
    · exact hok w h
    · exact va_Nw.use (mcBw_on w h) (h1 w h)
  · rcases List.mem_cons.mp hw with h | hw
    · subst h; exact by rw [vx_ot, mcB_ok _ hk, Bool.or_true]
    · rcases List.mem_cons.mp hw with h | hw
      · subst h; exact by rw [vx_ot, mcB_ok _ hini, Bool.or_true]
      · rcases mcAt_of hat w hw with h | h
        · rw [vx_ot, mcB_ok _ h, Bool.or_true]
        · rw [vx_ot, mcBw_on _ h, Bool.true_or]
end MCT
