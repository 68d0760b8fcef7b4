/-! making things: arrays of known classes, constructors -/
abbrev mcT4 (cI cG cZ cJ : ClassId) : List (ClassId × FieldType) := [(cI, .int), (cG, .array .int), (cZ, .boolean), (cJ, .long)]
theorem ra_int (U : State) (c1 c2 : ClassId) (h1 : va_RA U c1 .int) (h2 : va_RA U c2 .int) : c1 = c2 := Option.some.inj ((show U.vm.findClass ("[" ++ FieldType.int.toString) = some c1 from h1).symm.trans h2)
theorem ra_bool (U : State) (c1 c2 : ClassId) (h1 : va_RA U c1 .boolean) (h2 : va_RA U c2 .boolean) : c1 = c2 := Option.some.inj ((show U.vm.findClass ("[" ++ FieldType.boolean.toString) = some c1 from h1).symm.trans h2)
theorem ra_long (U : State) (c1 c2 : ClassId) (h1 : va_RA U c1 .long) (h2 : va_RA U c2 .long) : c1 = c2 := Option.some.inj ((show U.vm.findClass ("[" ++ FieldType.long.toString) = some c1 from h1).symm.trans h2)
theorem ra_ai (U : State) (c1 c2 : ClassId) (h1 : va_RA U c1 (.array .int)) (h2 : va_RA U c2 (.array .int)) : c1 = c2 := Option.some.inj ((show U.vm.findClass ("[" ++ (FieldType.array .int).toString) = some c1 from h1).symm.trans h2)
theorem arrOf_of {U : State} {cA : ClassId} {kA : Class} {comp : ClassId} {ty : FieldType} (hk : U.vm.classes[cA]? = some kA) (hkind : kA.kind = .array comp ty) : ArrOfT U cA ty := fun n z => ⟨fun k h => (by cases h), kA, hk, comp, hkind⟩
/-- the array classes, known from the start -/
theorem mcK4 {D : va_G} {cl : List vw_C} {s : State} {args : Array Value} (h1 : (Cond.arrayClass .int).before args s = true) (h2 : va_AOA .int s) (h3 : (Cond.arrayClass .boolean).before args s = true) (h4 : (Cond.arrayClass .long).before args s = true) (hK : va_K D cl [] s) : ∃ cI cG cZ cJ, va_K D cl (mcT4 cI cG cZ cJ) s := by
  obtain ⟨cI, kI, _, f1, k1, d1⟩ := Cond.arrayClass_spec h1
  obtain ⟨_, cG, kG, _, k2, d2, f2⟩ := Cond.arrayOver_specA h2
  obtain ⟨cZ, kZ, _, f3, k3, d3⟩ := Cond.arrayClass_spec h3
  obtain ⟨cJ, kJ, _, f4, k4, d4⟩ := Cond.arrayClass_spec h4
  refine ⟨cI, cG, cZ, cJ, hK.1, fun k q hq => ?_⟩
  match k, hq with
  | 0, hq => cases hq; exact ⟨arrOf_of k1 d1, f1⟩
  | 1, hq => cases hq; exact ⟨arrOf_of k2 d2, f2⟩
  | 2, hq => cases hq; exact ⟨arrOf_of k3 d3, f3⟩
  | 3, hq => cases hq; exact ⟨arrOf_of k4 d4, f4⟩
  | k + 4, hq => simp at hq
section MCN
variable {p : Program} {l : Launch} {e : Env} {R : Room} {s : State} {m : MethodId} {args : Array Value} {below : List Frame} {meth : Method} {c : Code} {H : Heap} {locs : List Loc} {cells slots : Nat} {Q : State → Prop}
variable {cc bytes : ByteArray} {pc : Nat} {ls : Array Slot} {rest st0 : List Value} {D : va_G} {cl : List vw_C} {A : Nat → Prop} {nL maxL index : Nat} {tys : List (ClassId × FieldType)} {ws : va_W} {H0 : Heap} {own : String} {y : MethodName} {rm : Room} {Ts : List Cond}
theorem newaN (hx : p.tables.exec = Jvm.exec) (hb : c.code = cc) {atype : ArrayType} {ty : FieldType} (hty : newarray.typeOf atype = ty) (hra : ∀ (U : State) (c1 c2 : ClassId), va_RA U c1 ty → va_RA U c2 ty → c1 = c2) (harr : (Cond.arrayClass ty).before args s = true) (hK : va_K D cl tys s) (t0 : Nat) {cI : ClassId} (ht : tys[t0]? = some (cI, ty)) (hP : va_P D cl ws H) (hD : va_D A ws) (hS : va_S A H0 H locs) (hA : ∀ q, H0.size ≤ q → A q)
    {n : Int32} (N' : Nat) (a0 : vp_A) (ha : ∀ cA : ClassId, vp_cell cA a0 = arrV cA N' (fun _ => defaultValue ty)) (hn : ¬ n < 0) (hN : n.toNatClampNeg = N') (hbytes : N' * componentBytes ty ≤ 536870912) (hcells : cells + 1 ≤ R.cells) (hslots : slots + N' ≤ R.slots) (hdg : decode cc pc = .ok (.newarray atype, 2))
    (kk : ∀ (q : Nat) (H1 : Heap), va_P D cl (ws ++ [(q, .inl (cI, a0))]) H1 → va_D A (ws ++ [(q, .inl (cI, a0))]) → va_S A H0 H1 locs → W p l e R s m args below meth c H1 locs (cells + 1) (slots + N') Q (F0 m (pc + 2) ls (.ref q :: rest))) : W p l e R s m args below meth c H locs cells slots Q (F0 m pc ls (.int n :: rest)) := by
  subst hty
  refine va_newa hx hb harr rfl hK hP hD hS hA ha hn hN hbytes hcells hslots hdg (fun q cA H1 hK' hP' hD' hS' => ?_)
  have e1 : cA = cI := hra s cA cI (hK'.2 tys.length (cA, newarray.typeOf atype) (by simp)).2 (hK.2 t0 _ ht).2
  subst e1
  exact kk q H1 hP' hD' hS'
theorem pl_rows {N : Nat} {r : Nat → Nat} {f : Nat → va_E} {e : va_E} : va_pl ([] ++ (List.range N).map r) (vr_up f ((List.range N).map r) e) = (List.range N).map (fun j => (r j, e)) := by
  unfold va_pl
  simp only [List.nil_append, List.map_map]
  apply List.map_congr_left
  intro j hj
  simp only [Function.comp]
  rw [vr_up_in (List.mem_map.mpr ⟨j, hj, rfl⟩)]
/-- an array of int arrays -/
theorem mnaN (hx : p.tables.exec = Jvm.exec) (hb : c.code = cc) {own : String} {index : Nat} (hown : s.vm.findClass own = some m.cls) (hcl : (Cond.classLink own index "[[I").before args s = true) (hover : va_AOA .int s) (harr : (Cond.arrayClass .int).before args s = true) (hK : va_K D cl tys s) (t0 t1 : Nat) {cI cG : ClassId} (ht0 : tys[t0]? = some (cI, .int)) (ht1 : tys[t1]? = some (cG, .array .int)) (hP : va_P D cl ws H) (hD : va_D A ws) (hS : va_S A H0 H locs) (hA : ∀ q, H0.size ≤ q → A q)
    {n k : Int32} (N' K' : Nat) (hn : ¬ n < 0) (hk : ¬ k < 0) (hN : n.toNatClampNeg = N') (hM : k.toNatClampNeg = K') (hb1 : N' * 4 ≤ 536870912) (hb2 : K' * 4 ≤ 536870912) (hcells : cells + (1 + N') ≤ R.cells) (hslots : slots + (N' + N' * K') ≤ R.slots) (hdg : decode cc pc = .ok (.multianewarray index 2, 4))
    (kk : ∀ (q : Nat) (r : Nat → Nat) (H1 : Heap), va_P D cl ((ws ++ [(q, .inl (cG, N', .inr (.inr (.inr (.inr (fun i => if i < N' then some (r i) else none))))))]) ++ (List.range N').map (fun j => (r j, .inl (cI, K', .inl (fun _ => 0))))) H1 → va_D A ((ws ++ [(q, .inl (cG, N', .inr (.inr (.inr (.inr (fun i => if i < N' then some (r i) else none))))))]) ++ (List.range N').map (fun j => (r j, .inl (cI, K', .inl (fun _ => 0))))) → va_S A H0 H1 locs →
      W p l e R s m args below meth c H1 locs (cells + 1 + N') (slots + N' + N' * K') Q (F0 m (pc + 4) ls (.ref q :: rest))) : W p l e R s m args below meth c H locs cells slots Q (F0 m pc ls (.int k :: .int n :: rest)) := by
  refine va_mna (X := ws) (L := []) (f := fun _ => .inr (0, [])) (z := (K', .inl (fun _ => 0))) (ty := .int) (cy := cI) hx hb hown hcl hover harr (hK.2 t0 _ ht0).2 hK (by show va_P D cl (ws ++ []) H; rw [List.append_nil]; exact hP) (by show va_D A (ws ++ []); rw [List.append_nil]; exact hD) hS hA hn hk hN hM hb1 hb2 (by omega) rfl rfl hcells hslots (fun cx => ?_) hdg (fun q r cA H1 h1 h2 hK' hP' hD' hS' => ?_)
  · rw [show vp_cell cx (K', .inl (fun _ => 0)) = arrV cx K' (fun _ => .int 0) from rfl, ← arrV_new]
    rfl
  · have e1 : cA = cG := ra_ai s cA cG (hK'.2 tys.length (cA, .array .int) (by simp)).2 (hK.2 t1 _ ht1).2
    subst e1
    rw [pl_rows] at hP' hD'
    exact kk q r H1 hP' hD' hS'
/-- words of the tables that constructors need beside the good ones -/
def mcNw (U : State) : Prop := va_AOA .int U ∧ va_Nw (.methodLinkNest RM 11 yH_init RM) U ∧ va_Nw (.methodLinkNest RM 18 yA_init RM) U ∧ va_Nw (.methodLinkNest RM 25 yP_init RM) U
theorem mcNw.warm {s U : State} (hW : s.WarmedH U.vm) (h : mcNw s) : mcNw U := by
  refine ⟨?_, va_Nw.warmM hW h.2.1, va_Nw.warmM hW h.2.2.1, va_Nw.warmM hW h.2.2.2⟩
  have e1 : (Cond.arrayOver (.array .int)).before #[] (s.setVm U.vm) = (Cond.arrayOver (.array .int)).before #[] U := rfl
  have e2 : (Cond.arrayOver (.array .int)).before #[] (s.setVm U.vm) = true := by rw [Cond.arrayOver_setVmC hW.alike]; exact h.1
  exact e1.symm.trans e2
def mcIn (D : va_G) (w : va_W) (tys : List (ClassId × FieldType)) (sz : Nat) (av : List Value) : Array Value → State → Prop := fun a U => wrP D mcCl w tys sz av a U ∧ mcNw U
theorem mcIn_preS {s : State} {w : va_W} {av : List Value} (hP : va_P D mcCl w H) (hK : va_K D mcCl tys s) (hD : va_D A w) (hN : mcNw s) : PreS s H (mcIn D w tys H.size av) av :=
  ⟨fun a U g mk q => ⟨wrP_blind a U g mk q.1, mcNw.warm (U := U.calling g mk a) (State.WarmedH.refl U) q.2⟩, fun U hU hW => ⟨(wrP_preS hP hK hD).2 U hU hW, hN.warm hW⟩⟩
/-- the end of a constructor -/
abbrev mcIq {S : Type} (post : S → Prop) (w' : S → va_W) (D : va_G) (w : va_W) (tys : List (ClassId × FieldType)) (sz : Nat) : Array Value → State → Outcome → State → Prop := va_Qv post (fun u t => va_P D mcCl (w' u) t.heap ∧ va_K D mcCl tys t ∧ va_D (va_A w sz) (w' u)) (va_A w sz)
theorem mcCallIN {S : Type} {post : S → Prop} {w' : S → va_W} {w : va_W} {mc ms b : Nat} {host : String} (Sx : CallFix p m c cc nL s args Ts own) (hB : ∀ w ∈ mcB, w ∈ Ts) (hM : Met l y (Cond.code y bytes maxL none :: mcB) rm (mcIn D w tys H.size [.ref b]) (mcIq post w' D w tys H.size) mc ms (va_A w H.size))
    (hl : va_Nw (.methodLinkNest own index y host) s) (h2 : Cond.instanceMethod y ∈ mcB) (h3 : Cond.initialized y.cls ∈ mcB) (h4 : Cond.code y bytes maxL none ∈ mcB) (hrc : rm.cells = mc ∧ rm.slots = ms) (hnm : y.name = "<init>")
    (hd : y.cls ≠ "java/lang/invoke/MethodHandle" ∧ y.cls ≠ "java/lang/invoke/VarHandle" ∧ (parseMethodDescriptor y.desc).map (fun d => d.parameters.length) = some 0) (hR : rm.frames + 1 ≤ R.frames ∧ 8 + (maxL + 11) + rm.locals ≤ R.locals)
    (hP : va_P D mcCl w H) (hK : va_K D mcCl tys s) (hD : va_D A w) (hN : mcNw s) (hS : va_S A H0 H locs) (hF : ∀ q, va_A w H.size q → A q)
    (hsize : ls.size = nL) (hst : st0 = .ref b :: rest) (hW : (rest.map fun v => v.category).sum ≤ 8) (hf : cells + mc ≤ R.cells ∧ slots + ms ≤ R.slots) (hdg : decode cc pc = .ok (.invokespecial index, 3))
    (kk : ∀ (u : S) (H1 : Heap) (locs1 : List Loc), post u → va_P D mcCl (w' u) H1 → va_D (va_A w H.size) (w' u) → (∀ q : Nat, q < H.size → ¬ va_A w H.size q → H1[q]? = H[q]?) → va_S A H0 H1 locs1 → W p l e R s m args below meth c H1 locs1 (cells + mc) (slots + ms) Q (F0 m (pc + 3) ls rest)) : W p l e R s m args below meth c H locs cells slots Q (F0 m pc ls st0) := by
  have hok : ∀ w ∈ mcB, w.before args s = true := fun w h => Sx.2.2.2.2 w (hB w h)
  refine va_callv (va_runIN (As := []) (rest := rest) Sx hM ⟨va_cnB 0 Sx.2.2.2.2 (gdC hB h4) rfl hrc.1 hrc.2 hl (hok _ h3) hd hR, hnm, hok _ h2⟩ (mcIn_preS hP hK hD hN) rfl rfl hsize hst (lv_room hW) hdg hf) hS (fun q _ h => hF q h) hF (fun u t H1 locs1 ht hvm hw hB1 hz1 hk1 hS1 => ?_)
  obtain ⟨hP1, hK1, hD1⟩ := hB1
  rw [ht] at hP1
  exact kk u H1 locs1 hw hP1 hD1 hk1 hS1
theorem mcCallI {S : Type} {post : S → Prop} {w' : S → va_W} {w : va_W} {mc ms b : Nat} (Sx : CallFix p m c cc nL s args Ts own) (hB : ∀ w ∈ mcB, w ∈ Ts) (hM : Met l y (Cond.code y bytes maxL none :: mcB) rm (mcIn D w tys H.size [.ref b]) (mcIq post w' D w tys H.size) mc ms (va_A w H.size))
    (h1 : Cond.methodLink own index y ∈ mcB) (h2 : Cond.instanceMethod y ∈ mcB) (h3 : Cond.initialized y.cls ∈ mcB) (h4 : Cond.code y bytes maxL none ∈ mcB) (hrc : rm.cells = mc ∧ rm.slots = ms) (hnm : y.name = "<init>")
    (hd : y.cls ≠ "java/lang/invoke/MethodHandle" ∧ y.cls ≠ "java/lang/invoke/VarHandle" ∧ (parseMethodDescriptor y.desc).map (fun d => d.parameters.length) = some 0) (hR : rm.frames + 1 ≤ R.frames ∧ 8 + (maxL + 11) + rm.locals ≤ R.locals)
    (hP : va_P D mcCl w H) (hK : va_K D mcCl tys s) (hD : va_D A w) (hN : mcNw s) (hS : va_S A H0 H locs) (hF : ∀ q, va_A w H.size q → A q)
    (hsize : ls.size = nL) (hst : st0 = .ref b :: rest) (hW : (rest.map fun v => v.category).sum ≤ 8) (hf : cells + mc ≤ R.cells ∧ slots + ms ≤ R.slots) (hdg : decode cc pc = .ok (.invokespecial index, 3))
    (kk : ∀ (u : S) (H1 : Heap) (locs1 : List Loc), post u → va_P D mcCl (w' u) H1 → va_D (va_A w H.size) (w' u) → (∀ q : Nat, q < H.size → ¬ va_A w H.size q → H1[q]? = H[q]?) → va_S A H0 H1 locs1 → W p l e R s m args below meth c H1 locs1 (cells + mc) (slots + ms) Q (F0 m (pc + 3) ls rest)) : W p l e R s m args below meth c H locs cells slots Q (F0 m pc ls st0) := by
  have hok : ∀ w ∈ mcB, w.before args s = true := fun w h => Sx.2.2.2.2 w (hB w h)
  refine va_callv (va_runI (As := []) (rest := rest) Sx hM (cwI 0 Sx.2.2.2.2 (gdC hB h4) rfl hrc.1 hrc.2 (hok _ h3) (hok _ h1) (hok _ h2) hnm hd hR) (mcIn_preS hP hK hD hN) rfl rfl hsize hst (lv_room hW) hdg hf) hS (fun q _ h => hF q h) hF (fun u t H1 locs1 ht hvm hw hB1 hz1 hk1 hS1 => ?_)
  obtain ⟨hP1, hK1, hD1⟩ := hB1
  rw [ht] at hP1
  exact kk u H1 locs1 hw hP1 hD1 hk1 hS1
end MCN
